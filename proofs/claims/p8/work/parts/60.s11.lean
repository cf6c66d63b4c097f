/-! commit -/
noncomputable def cI (P : Prop) (x y : Int32) : Int32 := @ite Int32 P (Classical.propDecidable P) x y
theorem cI_t {P : Prop} {x y : Int32} (h : P) : cI P x y = x := if_pos h
theorem cI_f {P : Prop} {x y : Int32} (h : ¬ P) : cI P x y = y := if_neg h
/-- q has committed -/
def enA (A : Ab) (q : Int32) : Ab := mkA (aB A) (aC A + 1) (aK A) (fun d z => if z = q ∧ (d = 4 ∨ d = 14) then nI (aC A + 1) else if z = q ∧ d = 2 then -1 else aF A d z) (aD A) (aA A) (aR A) (aH A) (aL A) (aE A)
/-- y lies before q, and some other one before y -/
def mid (A : Ab) (q y : Int32) : Prop := aF A 4 y = 0 ∧ ∃ z, aK A z ∧ aA A z y ∧ (aF A 4 z = 0 ∨ z = q)
/-- those of S have been told of the commit of q -/
noncomputable def tlP (A : Ab) (q : Int32) (S : Int32 → Prop) : Ab := mkA (aB A) (aC A) (aK A) (fun d z => cI (d = 6 ∧ S z ∧ aK A z ∧ aA A z q ∧ (aF A 6 z = 0 ∨ aF A 4 q < aF A 6 z)) (aF A 4 q) (aF A d z)) (fun z => aD A z ∨ (S z ∧ aK A z ∧ aA A z q ∧ mid A q z)) (aA A) (aR A) (aH A) (aL A) (fun u w => aE A u w ∨ (w = q ∧ S u ∧ aK A u ∧ aA A u q))
noncomputable def cmA (A : Ab) (q : Int32) : Ab := fgA (tlP (enA A q) q (fun _ => True))
theorem tlP_F {A : Ab} {q : Int32} {S : Int32 → Prop} {d : Nat} (hd : d ≠ 6) : aF (tlP A q S) d = aF A d := by
  funext z
  show cI _ _ _ = _
  rw [cI_f (fun h => hd h.1)]
theorem tlP_0 {A : Ab} {q : Int32} {S : Int32 → Prop} (h : ∀ y, ¬ S y) : tlP A q S = A := by
  refine ab_ext rfl rfl (fun _ => Iff.rfl) (fun d z => ?_) (fun z => ?_) (fun u w => Iff.rfl) rfl rfl rfl (fun u w => ?_)
  · show cI _ _ _ = _
    rw [cI_f (fun e => h z e.2.1)]
  · exact ⟨fun e => e.elim id (fun e => absurd e.1 (h z)), Or.inl⟩
  · exact ⟨fun e => e.elim id (fun e => absurd e.2.1 (h u)), Or.inl⟩
theorem tlP_all {A : Ab} {q : Int32} {S : Int32 → Prop} (h : ∀ y, aK A y → S y) : tlP A q S = tlP A q (fun _ => True) := by
  refine ab_ext rfl rfl (fun _ => Iff.rfl) (fun d z => ?_) (fun z => ?_) (fun u w => Iff.rfl) rfl rfl rfl (fun u w => ?_)
  · show cI _ _ _ = cI _ _ _
    by_cases e : d = 6 ∧ S z ∧ aK A z ∧ aA A z q ∧ (aF A 6 z = 0 ∨ aF A 4 q < aF A 6 z)
    · rw [cI_t e, cI_t ⟨e.1, trivial, e.2.2⟩]
    · rw [cI_f e, cI_f (fun z => e ⟨z.1, h _ z.2.2.1, z.2.2⟩)]
  · exact ⟨fun e => e.elim Or.inl (fun e => Or.inr ⟨trivial, e.2⟩), fun e => e.elim Or.inl (fun e => Or.inr ⟨h z e.2.1, e.2⟩)⟩
  · exact ⟨fun e => e.elim Or.inl (fun e => Or.inr ⟨e.1, trivial, e.2.2⟩), fun e => e.elim Or.inl (fun e => Or.inr ⟨e.1, h u e.2.2.1, e.2.2⟩)⟩
theorem tlP_skip {A : Ab} {q y : Int32} {S S' : Int32 → Prop} (hS : ∀ z, S' z ↔ S z ∨ z = y) (h : ¬ aA A y q) : tlP A q S' = tlP A q S := by
  refine ab_ext rfl rfl (fun _ => Iff.rfl) (fun d z => ?_) (fun z => ?_) (fun u w => Iff.rfl) rfl rfl rfl (fun u w => ?_)
  · show cI _ _ _ = cI _ _ _
    by_cases e : d = 6 ∧ S z ∧ aK A z ∧ aA A z q ∧ (aF A 6 z = 0 ∨ aF A 4 q < aF A 6 z)
    · rw [cI_t e, cI_t ⟨e.1, (hS z).mpr (Or.inl e.2.1), e.2.2⟩]
    · rw [cI_f e, cI_f (fun w => e ⟨w.1, ((hS z).mp w.2.1).resolve_right (fun e => h (e ▸ w.2.2.2.1)), w.2.2⟩)]
  · exact ⟨fun e => e.elim Or.inl (fun e => Or.inr ⟨((hS z).mp e.1).resolve_right (fun w => h (w ▸ e.2.2.1)), e.2⟩), fun e => e.elim Or.inl (fun e => Or.inr ⟨(hS z).mpr (Or.inl e.1), e.2⟩)⟩
  · exact ⟨fun e => e.elim Or.inl (fun e => Or.inr ⟨e.1, ((hS u).mp e.2.1).resolve_right (fun w => h (w ▸ e.2.2.2)), e.2.2⟩), fun e => e.elim Or.inl (fun e => Or.inr ⟨e.1, (hS u).mpr (Or.inl e.2.1), e.2.2⟩)⟩
theorem tlP_step {A : Ab} {q y : Int32} {S S' : Int32 → Prop} (hS : ∀ z, S' z ↔ S z ∨ z = y) (hK : aK A y) (hy : ¬ S y) (h0 : aF A 4 q ≠ 0) (h : aA A y q) : tlP A q S' = dpA (ptA (tlP A q S) y q) y (mid A q y) := by
  have hF6 : aF (tlP A q S) 6 y = aF A 6 y := by
    show cI _ _ _ = _
    rw [cI_f (fun e => hy e.2.1)]
  refine ab_ext rfl rfl (fun _ => Iff.rfl) (fun d z => ?_) (fun z => ⟨?_, ?_⟩) (fun u w => ⟨Or.inl, ?_⟩) rfl rfl rfl (fun u w => ⟨?_, ?_⟩)
  · show _ = (if d = 6 ∧ z = y ∧ aF (tlP A q S) 4 q ≠ 0 ∧ (aF (tlP A q S) 6 y = 0 ∨ aF (tlP A q S) 4 q < aF (tlP A q S) 6 y) then aF (tlP A q S) 4 q else aF (tlP A q S) d z)
    rw [hF6, tlP_F (d := 4) (by decide)]
    by_cases e : d = 6 ∧ z = y ∧ aF A 4 q ≠ 0 ∧ (aF A 6 y = 0 ∨ aF A 4 q < aF A 6 y)
    · rw [if_pos e]
      obtain ⟨e1, e2, e3, e4⟩ := e
      subst e2
      show cI _ _ _ = _
      rw [cI_t ⟨e1, (hS z).mpr (Or.inr rfl), hK, h, e4⟩]
    · rw [if_neg e]
      show cI _ _ _ = cI _ _ _
      by_cases e2 : d = 6 ∧ S z ∧ aK A z ∧ aA A z q ∧ (aF A 6 z = 0 ∨ aF A 4 q < aF A 6 z)
      · rw [cI_t e2, cI_t ⟨e2.1, (hS z).mpr (Or.inl e2.2.1), e2.2.2⟩]
      · rw [cI_f e2, cI_f]
        rintro ⟨w1, w2, w3, w4, w5⟩
        rcases (hS z).mp w2 with w | w
        · exact e2 ⟨w1, w, w3, w4, w5⟩
        · subst w; exact e ⟨w1, rfl, h0, w5⟩
  · rintro (e | ⟨e1, e2, e3, e4⟩)
    · exact Or.inl (Or.inl e)
    · rcases (hS z).mp e1 with w | w
      · exact Or.inl (Or.inr ⟨w, e2, e3, e4⟩)
      · subst w; exact Or.inr ⟨rfl, e4⟩
  · rintro ((e | ⟨e1, e2⟩) | ⟨e1, e2⟩)
    · exact Or.inl e
    · exact Or.inr ⟨(hS z).mpr (Or.inl e1), e2⟩
    · subst e1; exact Or.inr ⟨(hS z).mpr (Or.inr rfl), hK, h, e2⟩
  · rintro (e | ⟨e1, e2⟩)
    · exact e
    · subst e1 e2; exact h
  · rintro (e | ⟨e1, e2, e3, e4⟩)
    · exact Or.inl (Or.inl e)
    · rcases (hS u).mp e2 with w | w
      · exact Or.inl (Or.inr ⟨e1, w, e3, e4⟩)
      · exact Or.inr ⟨w, e1⟩
  · rintro ((e | ⟨e1, e2, e3⟩) | ⟨e1, e2⟩)
    · exact Or.inl e
    · exact Or.inr ⟨e1, (hS u).mpr (Or.inl e2), e3⟩
    · subst e1; exact Or.inr ⟨e2, (hS u).mpr (Or.inr rfl), hK, h⟩
theorem AI_en {A : Ab} (h : AI A) {s q : Int32} (hr : Run A s q) (hc : aC A < 512) : AI (enA A q) := by
  obtain ⟨h1, h2, h3, h4, h5, h6, h7⟩ := h
  have hF : ∀ d z, z ≠ q → aF (enA A q) d z = aF A d z := fun d z hz => by
    show (if _ then _ else _) = _
    rw [if_neg (fun e => hz e.1), if_neg (fun e => hz e.1)]
  have e4 : aF (enA A q) 4 q = nI (aC A + 1) := by
    show (if _ then _ else _) = _
    rw [if_pos ⟨rfl, Or.inl rfl⟩]
  have e2 : aF (enA A q) 2 q = -1 := by
    show (if q = q ∧ (2 = 4 ∨ 2 = 14) then _ else (if q = q ∧ 2 = 2 then _ else _)) = _
    rw [if_neg (by simp), if_pos ⟨rfl, rfl⟩]
  refine ⟨h1, show aC A + 1 ≤ 512 by omega, h3, fun z hz => ?_, fun a b t ha hb => ?_, fun z hz => ?_, h7⟩
  · by_cases e : z = q
    · subst e
      exact Or.inr ⟨e2, aC A + 1, by omega, Nat.le_refl _, e4⟩
    · rw [hF 4 z e, hF 2 z e]
      rcases h4 z hz with w | ⟨w1, p, w2, w3, w4⟩
      · exact Or.inl w
      · exact Or.inr ⟨w1, p, w2, Nat.le_succ_of_le w3, w4⟩
  · have na : ∀ a, Run (enA A q) t a → a ≠ q := fun a ha e => by
      subst e
      have := ha.2.2
      rw [e2] at this
      have h0 := ha.1
      rw [← this] at h0
      exact absurd h0 (by decide)
    refine h5 a b t ⟨ha.1, ha.2.1, ?_⟩ ⟨hb.1, hb.2.1, ?_⟩
    · rw [← hF 2 a (na a ha)]; exact ha.2.2
    · rw [← hF 2 b (na b hb)]; exact hb.2.2
  · have e6 : aF (enA A q) 6 z = aF A 6 z := by
      show (if z = q ∧ (6 = 4 ∨ 6 = 14) then _ else (if z = q ∧ 6 = 2 then _ else _)) = _
      rw [if_neg (by simp), if_neg (by simp)]
    rw [e6]
    obtain ⟨p, p1, p2⟩ := h6 z hz
    exact ⟨p, Nat.le_succ_of_le p1, p2⟩
theorem AI_tl {A : Ab} (h : AI A) {q : Int32} (hq : aK A q) (S : Int32 → Prop) : AI (tlP A q S) := by
  obtain ⟨h1, h2, h3, h4, h5, h6, h7⟩ := h
  refine ⟨h1, h2, h3, fun z hz => ?_, fun a b t ha hb => ?_, fun z hz => ?_, h7⟩
  · rw [tlP_F (by decide), tlP_F (by decide)]; exact h4 z hz
  · refine h5 a b t ⟨ha.1, ha.2.1, ?_⟩ ⟨hb.1, hb.2.1, ?_⟩
    · have := ha.2.2; rw [tlP_F (by decide)] at this; exact this
    · have := hb.2.2; rw [tlP_F (by decide)] at this; exact this
  · show ∃ p, p ≤ aC A ∧ cI (6 = 6 ∧ S z ∧ aK A z ∧ aA A z q ∧ (aF A 6 z = 0 ∨ aF A 4 q < aF A 6 z)) (aF A 4 q) (aF A 6 z) = nI p
    by_cases e : 6 = 6 ∧ S z ∧ aK A z ∧ aA A z q ∧ (aF A 6 z = 0 ∨ aF A 4 q < aF A 6 z)
    · rw [cI_t e]
      rcases h4 q hq with ⟨e0, -⟩ | ⟨-, p, -, p2, p3⟩
      · exact ⟨0, Nat.zero_le _, by rw [e0]; rfl⟩
      · exact ⟨p, p2, p3⟩
    · rw [cI_f e]; exact h6 z hz
theorem ptA_Fd {A : Ab} {x y z : Int32} {d : Nat} (hd : d ≠ 6) : aF (ptA A x y) d z = aF A d z := by
  show (if _ then _ else _) = _
  rw [if_neg (fun q => hd q.1)]
section AMR11
variable {m : MS} {A : Ab} {k : Nat}
/-- one who points at the one that commits -/
theorem r_commit_104 {B : Ab} {p q : Nat} {I : Nat → Int32} {Q : Int32 → MS → Prop} (G : Int32 → Int32 → MS → Option (Int32 × MS)) (hp : p < k) (hq : q < k) (hk : k ≤ 64) (hat : ∀ q, aK B q → ∃ i, i < k ∧ I i = q) (hkp : ∀ i, i < k → aK B (I i)) (hinj : ∀ i j, i < k → j < k → I i = I j → i = j) (hG : ∀ m2 : MS, m2.2.1 1 = I → AMk m2 (dpA B (I q) (mid B (I p) (I q))) k → OK (G (nI p) (nI (q + 1)) m2) Q) : ∀ (n j : Nat) (m1 : MS), j ≤ k → k - j < n → m1.2.1 1 = I → AMk m1 (dpA B (I q) (aF B 4 (I q) = 0 ∧ ∃ z, z < j ∧ aA B (I z) (I q) ∧ (aF B 4 (I z) = 0 ∨ I z = I p))) k → OK (g_M_commit_b104 G n (nI p) (nI q) (nI j) m1) Q := by
  intro n
  induction n with
  | zero => intro j m1 _ h; omega
  | succ n ih =>
    intro j m1 hj hn e1 h1
    have fin : ((aF B 4 (I q) = 0 ∧ ∃ z, z < j ∧ aA B (I z) (I q) ∧ (aF B 4 (I z) = 0 ∨ I z = I p)) ↔ mid B (I p) (I q)) → OK (G (nI p) (nI q + 1) m1) Q := fun hh => by
      rw [dp_eq hh] at h1
      rw [nI_1]
      exact hG m1 e1 h1
    rw [g_M_commit_b104]
    refine ok_if (fun hle => fin ?_) (fun hlt => ?_)
    · rw [h1.n, nI_leI (by omega) (by omega)] at hle
      refine and_congr Iff.rfl ⟨?_, ?_⟩
      · rintro ⟨z, hz, h2⟩
        exact ⟨I z, hkp z (by omega), h2⟩
      · rintro ⟨y, hy, h2⟩
        obtain ⟨z, hz, rfl⟩ := hat y hy
        exact ⟨z, by omega, h2⟩
    rw [h1.n, nI_leI (by omega) (by omega)] at hlt
    have hjk : j < k := by omega
    have q1 : j + 1 ≤ k := by clear fin; omega
    have q2 : k - (j + 1) < n := by clear fin; omega
    have f4 : ∀ z, z < k → m1.2.1 4 z = aF B 4 (I z) := fun z hz => by rw [h1.f4 hz, e1]; rfl
    refine ok_rI q rfl (by show q < 64; omega) ?_
    rw [f4 q hq]
    refine ok_if (fun e0 => ?_) (fun e0 => fin ⟨fun z => absurd z.1 e0, fun z => absurd z.1 e0⟩)
    have yes : (aD B (I q) ∨ (aF B 4 (I q) = 0 ∧ ∃ z, z < j + 1 ∧ aA B (I z) (I q) ∧ (aF B 4 (I z) = 0 ∨ I z = I p))) → OK (g_M_commit_b167 (g_M_commit_b104 G n) (nI p) (nI q) (nI j) (nI q) m1) Q := fun hh => by
      unfold g_M_commit_b167
      refine ok_wZ q rfl (by show q < 64; omega) (Or.inr rfl) ?_
      rw [nI_1]
      refine ih (j + 1) _ q1 q2 (by rw [sI_ne (by decide)]; exact e1) ?_
      rw [dp_dm hh]
      have := am_dm h1 hq
      rw [e1] at this
      exact this
    have no : m1.2.1 5 q = 0 → ¬ (aA B (I j) (I q) ∧ (aF B 4 (I j) = 0 ∨ I j = I p)) → OK (g_M_commit_b171 (g_M_commit_b104 G n) (nI p) (nI q) (nI j) (nI q) m1) Q := fun hz hh => by
      unfold g_M_commit_b171
      refine ok_wZ q rfl (by show q < 64; omega) (Or.inl rfl) ?_
      rw [nI_1]
      refine ih (j + 1) _ q1 q2 (by rw [sI_ne (by decide)]; exact e1) ?_
      have hq' : (aF B 4 (I q) = 0 ∧ ∃ z, z < j + 1 ∧ aA B (I z) (I q) ∧ (aF B 4 (I z) = 0 ∨ I z = I p)) ↔ (aF B 4 (I q) = 0 ∧ ∃ z, z < j ∧ aA B (I z) (I q) ∧ (aF B 4 (I z) = 0 ∨ I z = I p)) := by
        refine and_congr Iff.rfl ⟨?_, ?_⟩
        · rintro ⟨z, hz, h2⟩
          rcases Nat.lt_or_ge z j with hij | hij
          · exact ⟨z, hij, h2⟩
          · rw [show z = j by omega] at h2; exact absurd h2 hh
        · rintro ⟨z, hz, h2⟩
          exact ⟨z, by omega, h2⟩
      rw [dp_eq hq']
      exact am_d0 h1 hz
    refine ok_rI q rfl (by show q < 64; omega) (ok_if (fun z0 => ?_) (fun z0 => yes ?_))
    · have ha := h1.a hjk hq
      rw [e1] at ha
      refine ok_rI (64 * j + q) (ix64 j q) (by show 64 * j + q < 4096; omega) (ok_if (fun a0 => no z0 (fun w => ha.mpr w.1 a0)) (fun a0 => ?_))
      have a1 : aA B (I j) (I q) := ha.mp a0
      refine ok_rI j rfl (by show j < 64; omega) ?_
      rw [f4 j hjk]
      refine ok_if (fun e2 => yes (Or.inr ⟨e0, j, Nat.lt_succ_self j, a1, Or.inl e2⟩)) (fun e2 => ok_if (fun e3 => yes (Or.inr ⟨e0, j, Nat.lt_succ_self j, a1, Or.inr ?_⟩)) (fun e3 => no z0 (fun w => w.2.elim e2 (fun z => e3 ?_))))
      · rw [(nI_eq (by omega) (by omega)).mp e3]
      · rw [hinj j p hjk hp z]
    · have := (h1.d hq).mp z0
      rw [e1] at this
      rcases this with w | ⟨-, w1, z, w2, w3⟩
      · exact Or.inl w
      · exact Or.inr ⟨w1, z, by omega, w3⟩
theorem r_commit_73 (hA : AI A) {p : Nat} {I : Nat → Int32} (hp : p < k) (hk : k ≤ 64) (hat : ∀ q, aK A q → ∃ i, i < k ∧ I i = q) (hkp : ∀ i, i < k → aK A (I i)) (hinj : ∀ i j, i < k → j < k → I i = I j → i = j) (h0 : aF A 4 (I p) ≠ 0) : ∀ (n j : Nat) (m1 : MS), j ≤ k → k - j < n → m1.2.1 1 = I → AMk m1 (tlP A (I p) (fun z => ∃ i, i < j ∧ I i = z)) k → OK (g_M_commit_b73 n (nI p) (nI j) m1) (fun r m' => r = nI (aC A) ∧ ∃ k', AMk m' (fgA (tlP A (I p) (fun _ => True))) k') := by
  intro n
  induction n with
  | zero => intro j m1 _ h; omega
  | succ n ih =>
    intro j m1 hj hn e1 h1
    rw [g_M_commit_b73]
    refine ok_if (fun hle => ?_) (fun hlt => ?_)
    · rw [h1.n, nI_leI (by omega) (by omega)] at hle
      rw [tlP_all (fun y hy => by obtain ⟨i, hi, e⟩ := hat y hy; exact ⟨i, by omega, e⟩)] at h1
      refine ok_bnU (r_forget h1) ?_
      rintro m2 ⟨k', h2⟩
      exact ok_ret ⟨h2.mi.2.1, k', h2⟩
    rw [h1.n, nI_leI (by omega) (by omega)] at hlt
    have hjk : j < k := by omega
    have hS : ∀ z, (∃ i, i < j + 1 ∧ I i = z) ↔ (∃ i, i < j ∧ I i = z) ∨ z = I j := fun z => by
      constructor
      · rintro ⟨i, hi, e⟩
        rcases Nat.lt_or_ge i j with hij | hij
        · exact Or.inl ⟨i, hij, e⟩
        · exact Or.inr (by rw [← e, show i = j by omega])
      · rintro (⟨i, hi, e⟩ | e)
        · exact ⟨i, by omega, e⟩
        · exact ⟨j, by omega, e.symm⟩
    have ha := h1.a hjk hp
    rw [e1] at ha
    refine ok_rI (64 * j + p) (ix64 j p) (by show 64 * j + p < 4096; omega) (ok_if (fun a0 => ?_) (fun a0 => ?_))
    · rw [nI_1]
      refine ih (j + 1) m1 (by omega) (by omega) e1 ?_
      rw [tlP_skip (A := A) hS (fun w => ha.mpr w a0)]
      exact h1
    have a1 : aA A (I j) (I p) := ha.mp a0
    have hA1 := AI_tl hA (hkp p hp) (fun z => ∃ i, i < j ∧ I i = z)
    refine ok_bnU (r_point hA1 h1 hjk hp) ?_
    rw [e1]
    rintro m2 ⟨h2, e2, -⟩
    have F4 : ∀ z, aF (ptA (tlP A (I p) (fun z => ∃ i, i < j ∧ I i = z)) (I j) (I p)) 4 z = aF A 4 z := fun z => by
      rw [ptA_Fd (by decide)]
      exact congrFun (tlP_F (by decide)) z
    have E : ∀ u w, aA (ptA (tlP A (I p) (fun z => ∃ i, i < j ∧ I i = z)) (I j) (I p)) u w ↔ aA A u w := fun u w => by
      refine ⟨?_, Or.inl⟩
      rintro (e | ⟨e3, e4⟩)
      · exact e
      · rw [e3, e4]; exact a1
    refine r_commit_104 (B := ptA (tlP A (I p) (fun z => ∃ i, i < j ∧ I i = z)) (I j) (I p)) (I := I) (g_M_commit_b73 n) hp hjk hk hat hkp hinj (fun m3 e3 h3 => ?_) 2000 0 m2 (by omega) (by omega) e2 ?_
    · refine ih (j + 1) m3 (by omega) (by omega) e3 ?_
      rw [tlP_step hS (hkp j hjk) (fun ⟨i, hi, e⟩ => by have := hinj i j (by omega) hjk e; omega) h0 a1]
      rw [dp_eq (P' := mid A (I p) (I j))] at h3
      · exact h3
      · unfold mid
        rw [F4]
        refine and_congr Iff.rfl ⟨?_, ?_⟩
        · rintro ⟨z, w1, w2, w3⟩
          rw [F4] at w3
          exact ⟨z, w1, (E _ _).mp w2, w3⟩
        · rintro ⟨z, w1, w2, w3⟩
          exact ⟨z, w1, (E _ _).mpr w2, by rw [F4]; exact w3⟩
    · rw [dp_no (fun ⟨_, z, hz, _⟩ => by omega)]
      exact h2
theorem r_commit (hA : AI A) (hc : aC A < 512) (h : AMk m A k) {s q : Int32} (hr : Run A s q) (hd : ¬ aD A q) : OK (g_M_commit s m) (fun r m' => r = nI (aC A + 1) ∧ ∃ k', AMk m' (cmA A q) k') := by
  have hk := h.k64
  unfold g_M_commit
  refine ok_bn (r_running h s) ?_
  rintro r m1 ⟨rfl, hh⟩
  rcases hh with ⟨p, hp, rfl, hq⟩ | ⟨-, hn⟩
  · have e := hA.2.2.2.2.1 _ _ _ hr hq
    subst e
    refine ok_if (fun z => absurd z (nI_pos (by omega))) (fun _ => ok_rI p rfl (by show p < 64; omega) (ok_if (fun _ => ?_) (fun z => absurd ((h.d hp).mp z) hd)))
    have c1 : (wS m1 1 (m1.1 1 + 1)).1 1 = nI (aC A + 1) := by
      show m1.1 1 + 1 = _
      rw [h.mi.2.1, nI_1]
    obtain ⟨y, hy, ey⟩ := gd_id h.gd (Or.inl rfl) p
    refine ok_wI p rfl (by show p < 64; omega) (ok_rI p rfl (by show p < 64; omega) (ok_wI y ?_ (by show y < 520; omega) (ok_wI p rfl (by show p < 64; omega) ?_)))
    · rw [sI_ne (by decide)]; exact ey
    rw [c1]
    have c2 : (sI (wS m1 1 (m1.1 1 + 1)) 4 p (nI (aC A + 1))).1 1 = nI (aC A + 1) := c1
    rw [c2]
    have an : ∀ {d : Nat} {x : Int32}, d = 2 ∨ d = 4 ∨ d = 14 → okv d x := fun h => okv_any (by omega) (by omega) (by omega) (by omega) (by omega) (by omega) (by omega) (by omega)
    have mi0 : MI (aB A) (aC A + 1) k (wS m1 1 (m1.1 1 + 1)) := ⟨h.mi.1, c1, h.mi.2.2.1, h.mi.2.2.2.1, by omega, hk, h.gd⟩
    have mi3 : MI (aB A) (aC A + 1) k (sI (sI (sI (wS m1 1 (m1.1 1 + 1)) 4 p (nI (aC A + 1))) 14 y (nI (aC A + 1))) 2 p (-1)) := MI_sI (MI_sI (MI_sI mi0 (an (by decide))) (an (by decide))) (an (by decide))
    generalize hm3 : sI (sI (sI (wS m1 1 (m1.1 1 + 1)) 4 p (nI (aC A + 1))) 14 y (nI (aC A + 1))) 2 p (-1) = m3 at mi3 ⊢
    have g : ∀ d, d ≠ 4 → d ≠ 14 → d ≠ 2 → m3.2.1 d = m1.2.1 d := fun d d1 d2 d3 => by
      rw [← hm3, sI_ne d3, sI_ne d2, sI_ne d1]; rfl
    have g4 : ∀ i, m3.2.1 4 i = if i = p then nI (aC A + 1) else m1.2.1 4 i := fun i => by
      rw [← hm3, sI_ne (by decide), sI_ne (by decide), sI_at]; rfl
    have g2 : ∀ i, m3.2.1 2 i = if i = p then -1 else m1.2.1 2 i := fun i => by
      rw [← hm3, sI_at, sI_ne (by decide), sI_ne (by decide)]; rfl
    have g14 : ∀ i, m3.2.1 14 i = if i = y then nI (aC A + 1) else m1.2.1 14 i := fun i => by
      rw [← hm3, sI_ne (by decide), sI_at, sI_ne (by decide)]; rfl
    have g22 : m3.2.2 = m1.2.2 := by rw [← hm3]; rfl
    have e1 := g 1 (by decide) (by decide) (by decide)
    have FE : ∀ d i, i < k → aF (enA A (m1.2.1 1 p)) d (m1.2.1 1 i) = if i = p ∧ (d = 4 ∨ d = 14) then nI (aC A + 1) else if i = p ∧ d = 2 then -1 else aF A d (m1.2.1 1 i) := fun d i hi => by
      show (if m1.2.1 1 i = m1.2.1 1 p ∧ (d = 4 ∨ d = 14) then _ else (if m1.2.1 1 i = m1.2.1 1 p ∧ d = 2 then _ else _)) = _
      by_cases e : i = p
      · subst e
        simp
      · have e' : ¬ m1.2.1 1 i = m1.2.1 1 p := fun q => e (h.inj hi hp q)
        simp [e, e']
    have h3 : AMk m3 (enA A (m1.2.1 1 p)) k := by
      refine ⟨mi3, fun i hi => ?_, fun q hq => ?_, fun i j hi hj e => ?_, fun i hi => ?_, fun i j hi hj => ?_, fun j hj => ?_, fun n hn => ⟨?_, ?_⟩, ?_⟩
      · rw [e1]; exact h.kp hi
      · rw [e1]; exact h.at hq
      · rw [e1] at e; exact h.inj hi hj e
      · rw [e1]
        refine ⟨⟨?_, ?_, ?_, ?_⟩, ?_, fun t ht => ?_⟩
        · rw [g2, FE 2 i hi, if_neg (show ¬ (i = p ∧ (2 = 4 ∨ 2 = 14)) from fun z => absurd z.2 (by decide)), h.f2 hi]
          by_cases e : i = p
          · rw [if_pos e, if_pos ⟨e, rfl⟩]
          · rw [if_neg e, if_neg (fun z => e z.1)]
        · rw [g 3 (by decide) (by decide) (by decide), FE 3 i hi, if_neg (fun z => absurd z.2 (by decide)), if_neg (fun z => absurd z.2 (by decide))]; exact h.f3 hi
        · rw [g4, FE 4 i hi, h.f4 hi]
          by_cases e : i = p
          · rw [if_pos e, if_pos ⟨e, Or.inl rfl⟩]
          · rw [if_neg e, if_neg (fun z => e z.1), if_neg (fun z => e z.1)]
        · rw [g 6 (by decide) (by decide) (by decide), FE 6 i hi, if_neg (fun z => absurd z.2 (by decide)), if_neg (fun z => absurd z.2 (by decide))]; exact h.f6 hi
        · rw [g 5 (by decide) (by decide) (by decide)]; exact h.d hi
        · exact rr_congr (g 8 (by decide) (by decide) (by decide)) (g 9 (by decide) (by decide) (by decide)) (g 10 (by decide) (by decide) (by decide)) (by rw [g22]) (by rw [g22]) (h.r hi ht)
      · rw [e1, g 7 (by decide) (by decide) (by decide)]; exact h.a hi hj
      · rw [g 18 (by decide) (by decide) (by decide), g22]; exact h.v j hj
      · rw [g 13 (by decide) (by decide) (by decide)]
        show _ = (if nI n = m1.2.1 1 p ∧ (13 = 4 ∨ 13 = 14) then _ else (if nI n = m1.2.1 1 p ∧ 13 = 2 then _ else _))
        rw [if_neg (fun z => absurd z.2 (by decide)), if_neg (fun z => absurd z.2 (by decide))]
        exact (h.hr.1 n hn).1
      · rw [g14]
        show _ = (if nI n = m1.2.1 1 p ∧ (14 = 4 ∨ 14 = 14) then _ else (if nI n = m1.2.1 1 p ∧ 14 = 2 then _ else _))
        by_cases e : n = y
        · rw [if_pos e, if_pos ⟨by rw [ey, e], Or.inr rfl⟩]
        · rw [if_neg e, if_neg (fun z => e ((nI_eq (by omega) (by omega)).mp (z.1.trans ey))), if_neg (fun z => absurd z.2 (by decide))]
          exact (h.hr.1 n hn).2
      · rw [g22]; exact h.hr.2
    refine r_commit_73 (I := m1.2.1 1) (AI_en hA hr hc) hp hk (fun q hq => h.at hq) (fun i hi => h.kp hi) (fun i j hi hj => h.inj hi hj) ?_ 2000 0 m3 (by omega) (by omega) e1 ?_
    · rw [FE 4 p hp, if_pos ⟨rfl, Or.inl rfl⟩]
      exact nI_ne0 (by omega) (by omega)
    · rw [tlP_0 (fun y ⟨i, hi, _⟩ => by omega)]
      exact h3
  · exact absurd hr (hn q)
theorem r_commit_no (h : AMk m A k) {s : Int32} (hc : ∀ q, Run A s q → aD A q) : OK (g_M_commit s m) (fun r m' => m' = m ∧ ((r = 0 ∧ ∃ q, Run A s q) ∨ (r = -1 ∧ ∀ q, ¬ Run A s q))) := by
  have hk := h.k64
  unfold g_M_commit g_M_commit_b19
  refine ok_bn (r_running h s) ?_
  rintro r m1 ⟨rfl, hh⟩
  rcases hh with ⟨p, hp, rfl, hq⟩ | ⟨rfl, hn⟩
  · refine ok_if (fun z => absurd z (nI_pos (by omega))) (fun _ => ok_rI p rfl (by show p < 64; omega) (ok_if (fun z => absurd z ((h.d hp).mpr (hc _ hq))) (fun _ => ok_if (fun _ => ok_ret ⟨rfl, Or.inl ⟨rfl, _, hq⟩⟩) (fun z => absurd (Int32.not_lt.mp (nI_pos (n := p) (by omega))) z))))
  · exact ok_if (fun _ => ok_if (fun z => absurd z (by decide)) (fun _ => ok_ret ⟨rfl, Or.inr ⟨rfl, hn⟩⟩)) (fun z => absurd (by decide) z)
end AMR11
