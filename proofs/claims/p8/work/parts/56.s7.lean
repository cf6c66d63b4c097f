/-! miss -/
def dpA (A : Ab) (q : Int32) (P : Prop) : Ab := mkA (aB A) (aC A) (aK A) (aF A) (fun z => aD A z ∨ (z = q ∧ P)) (aA A) (aR A) (aH A) (aL A) (aE A)
theorem dp_dm {B : Ab} {q : Int32} {P P' : Prop} (h : aD B q ∨ P') : dpA B q P' = dmA (dpA B q P) q := by
  refine ab_ext rfl rfl (fun _ => Iff.rfl) (fun _ _ => rfl) (fun z => ⟨?_, ?_⟩) (fun _ _ => Iff.rfl) rfl rfl rfl (fun _ _ => Iff.rfl)
  · rintro (e | ⟨e, -⟩)
    · exact Or.inl (Or.inl e)
    · exact Or.inr e
  · rintro ((e | ⟨e, -⟩) | e)
    · exact Or.inl e
    · subst e; exact h.elim Or.inl (fun z => Or.inr ⟨rfl, z⟩)
    · subst e; exact h.elim Or.inl (fun z => Or.inr ⟨rfl, z⟩)
theorem dp_eq {B : Ab} {q : Int32} {P P' : Prop} (h : P ↔ P') : dpA B q P = dpA B q P' := by rw [propext h]
theorem dp_no {B : Ab} {q : Int32} {P : Prop} (h : ¬ P) : dpA B q P = B := by
  refine ab_ext rfl rfl (fun _ => Iff.rfl) (fun _ _ => rfl) (fun z => ⟨fun e => e.elim id (fun e => absurd e.2 h), Or.inl⟩) (fun _ _ => Iff.rfl) rfl rfl rfl (fun _ _ => Iff.rfl)
def sec (A : Ab) (q x : Int32) : Prop := aF A 4 x ≠ 0 ∧ ∃ y, aK A y ∧ aA A y q ∧ (aF A 4 y = 0 ∨ ¬ aF A 4 y < aF A 4 x)
def msA (A : Ab) (q x : Int32) : Ab := dpA (ptA A q x) q (dang (ptA A q x) q x ∨ sec (ptA A q x) q x)
theorem AI_pt {A : Ab} (h : AI A) {x y : Int32} (hy : aK A y) : AI (ptA A x y) := by
  have hF : ∀ d z, d ≠ 6 → aF (ptA A x y) d z = aF A d z := fun d z hd => by
    show (if _ then _ else _) = _
    rw [if_neg (fun q => hd q.1)]
  obtain ⟨h1, h2, h3, h4, h5, h6, h7⟩ := h
  refine ⟨h1, h2, h3, fun q hq => ?_, fun p q s hp hq => ?_, fun q hq => ?_, h7⟩
  · rw [hF 4 q (by decide), hF 2 q (by decide)]; exact h4 q hq
  · refine h5 p q s ⟨hp.1, hp.2.1, ?_⟩ ⟨hq.1, hq.2.1, ?_⟩
    · rw [← hF 2 p (by decide)]; exact hp.2.2
    · rw [← hF 2 q (by decide)]; exact hq.2.2
  · show ∃ p, p ≤ aC A ∧ (if (6 = 6 ∧ q = x ∧ aF A 4 y ≠ 0 ∧ (aF A 6 x = 0 ∨ aF A 4 y < aF A 6 x)) then aF A 4 y else aF A 6 q) = nI p
    by_cases e : (6 = 6 ∧ q = x ∧ aF A 4 y ≠ 0 ∧ (aF A 6 x = 0 ∨ aF A 4 y < aF A 6 x))
    · rw [if_pos e]
      rcases h4 y hy with ⟨e0, -⟩ | ⟨-, p, -, p2, p3⟩
      · exact absurd e0 e.2.2.1
      · exact ⟨p, p2, p3⟩
    · rw [if_neg e]; exact h6 q hq
section AMR7
variable {m : MS} {A : Ab} {k : Nat}
theorem r_miss_loop {B : Ab} {p i : Nat} {P0 : Prop} {I : Nat → Int32} (hB : AI B) (hp : p < k) (hi : i < k) (hk : k ≤ 64) (hat : ∀ q, aK B q → ∃ i, i < k ∧ I i = q) (hkp : ∀ i, i < k → aK B (I i)) : ∀ (n j : Nat) (m1 : MS), j ≤ k → k - j < n → m1.2.1 1 = I → AMk m1 (dpA B (I p) (P0 ∨ (aF B 4 (I i) ≠ 0 ∧ ∃ z, z < j ∧ aA B (I z) (I p) ∧ (aF B 4 (I z) = 0 ∨ ¬ aF B 4 (I z) < aF B 4 (I i))))) k → OK (g_M_miss_b80 n (nI p) (nI i) (nI j) m1) (fun r m' => AMk m' (dpA B (I p) (P0 ∨ sec B (I p) (I i))) k ∧ say (aD (dpA B (I p) (P0 ∨ sec B (I p) (I i))) (I p)) r) := by
  intro n
  induction n with
  | zero => intro j m1 _ h; omega
  | succ n ih =>
    intro j m1 hj hn e1 h1
    have fin : (P0 ∨ (aF B 4 (I i) ≠ 0 ∧ ∃ z, z < j ∧ aA B (I z) (I p) ∧ (aF B 4 (I z) = 0 ∨ ¬ aF B 4 (I z) < aF B 4 (I i))) ↔ P0 ∨ sec B (I p) (I i)) → OK (g_M_miss_b167 (nI p) m1) (fun r m' => AMk m' (dpA B (I p) (P0 ∨ sec B (I p) (I i))) k ∧ say (aD (dpA B (I p) (P0 ∨ sec B (I p) (I i))) (I p)) r) := fun hh => by
      rw [dp_eq hh] at h1
      have := r_doomed h1 hp
      rw [e1] at this
      exact this
    rw [g_M_miss_b80]
    refine ok_if (fun hle => fin ?_) (fun hlt => ?_)
    · rw [h1.n, nI_leI (by omega) (by omega)] at hle
      refine or_congr Iff.rfl (and_congr Iff.rfl ⟨?_, ?_⟩)
      · rintro ⟨z, hz, h2⟩
        exact ⟨I z, hkp z (by omega), h2⟩
      · rintro ⟨y, hy, h2⟩
        obtain ⟨z, hz, rfl⟩ := hat y hy
        exact ⟨z, by omega, h2⟩
    rw [h1.n, nI_leI (by omega) (by omega)] at hlt
    have hjk : j < k := by omega
    have f4 : ∀ z, z < k → m1.2.1 4 z = aF B 4 (I z) := fun z hz => by rw [h1.f4 hz, e1]; rfl
    refine ok_rI i rfl (by show i < 64; omega) ?_
    rw [f4 i hi]
    refine ok_if (fun e => fin ?_) (fun e => ?_)
    · have e0 := (hB.pl0 (hkp i hi)).mp e
      exact or_congr Iff.rfl ⟨fun q => absurd e0 q.1, fun q => absurd e0 q.1⟩
    have e0 : aF B 4 (I i) ≠ 0 := fun q => e ((hB.pl0 (hkp i hi)).mpr q)
    have yes : (aD B (I p) ∨ (P0 ∨ (aF B 4 (I i) ≠ 0 ∧ ∃ z, z < j + 1 ∧ aA B (I z) (I p) ∧ (aF B 4 (I z) = 0 ∨ ¬ aF B 4 (I z) < aF B 4 (I i))))) → OK (g_M_miss_b155 (g_M_miss_b80 n) (nI p) (nI i) (nI j) (nI p) m1) (fun r m' => AMk m' (dpA B (I p) (P0 ∨ sec B (I p) (I i))) k ∧ say (aD (dpA B (I p) (P0 ∨ sec B (I p) (I i))) (I p)) r) := fun hh => by
      unfold g_M_miss_b155
      refine ok_wZ p rfl (by show p < 64; omega) (Or.inr rfl) ?_
      rw [nI_1]
      refine ih (j + 1) _ (by omega) (by omega) (by rw [sI_ne (by decide)]; exact e1) ?_
      rw [dp_dm hh]
      have := am_dm h1 hp
      rw [e1] at this
      exact this
    have no : m1.2.1 5 p = 0 → ¬ (aA B (I j) (I p) ∧ (aF B 4 (I j) = 0 ∨ ¬ aF B 4 (I j) < aF B 4 (I i))) → OK (g_M_miss_b159 (g_M_miss_b80 n) (nI p) (nI i) (nI j) (nI p) m1) (fun r m' => AMk m' (dpA B (I p) (P0 ∨ sec B (I p) (I i))) k ∧ say (aD (dpA B (I p) (P0 ∨ sec B (I p) (I i))) (I p)) r) := fun hz hh => by
      unfold g_M_miss_b159
      refine ok_wZ p rfl (by show p < 64; omega) (Or.inl rfl) ?_
      rw [nI_1]
      refine ih (j + 1) _ (by omega) (by omega) (by rw [sI_ne (by decide)]; exact e1) ?_
      have hq : (P0 ∨ (aF B 4 (I i) ≠ 0 ∧ ∃ z, z < j + 1 ∧ aA B (I z) (I p) ∧ (aF B 4 (I z) = 0 ∨ ¬ aF B 4 (I z) < aF B 4 (I i)))) ↔ (P0 ∨ (aF B 4 (I i) ≠ 0 ∧ ∃ z, z < j ∧ aA B (I z) (I p) ∧ (aF B 4 (I z) = 0 ∨ ¬ aF B 4 (I z) < aF B 4 (I i)))) := by
        refine or_congr Iff.rfl (and_congr Iff.rfl ⟨?_, ?_⟩)
        · rintro ⟨z, hz, h2⟩
          rcases Nat.lt_or_ge z j with hij | hij
          · exact ⟨z, hij, h2⟩
          · rw [show z = j by omega] at h2; exact absurd h2 hh
        · rintro ⟨z, hz, h2⟩
          exact ⟨z, by omega, h2⟩
      rw [dp_eq hq]
      exact am_d0 h1 hz
    refine ok_rI p rfl (by show p < 64; omega) (ok_if (fun z0 => ?_) (fun z0 => yes ?_))
    · have ha := h1.a hjk hp
      rw [e1] at ha
      refine ok_rI (64 * j + p) (ix64 j p) (by show 64 * j + p < 4096; omega) (ok_if (fun a0 => no z0 (fun q => ha.mpr q.1 a0)) (fun a0 => ?_))
      have a1 : aA B (I j) (I p) := ha.mp a0
      refine ok_rI j rfl (by show j < 64; omega) ?_
      rw [f4 j hjk]
      refine ok_if (fun e2 => yes (Or.inr (Or.inr ⟨e0, j, by omega, a1, Or.inl e2⟩))) (fun e2 => ok_rI j rfl (by show j < 64; omega) (ok_rI i rfl (by show i < 64; omega) ?_))
      rw [f4 j hjk, f4 i hi]
      exact ok_if (fun e3 => no z0 (fun q => q.2.elim e2 (fun z => z e3))) (fun e3 => yes (Or.inr (Or.inr ⟨e0, j, by omega, a1, Or.inr e3⟩)))
    · have := (h1.d hp).mp z0
      rw [e1] at this
      rcases this with w | ⟨-, w | ⟨w1, z, w2, w3⟩⟩
      · exact Or.inl w
      · exact Or.inr (Or.inl w)
      · exact Or.inr (Or.inr ⟨w1, z, by omega, w3⟩)
/-- x is one whom q can miss -/
def canMiss (A : Ab) (q x : Int32) : Prop := aK A x ∧ x ≠ q ∧ conc A q x
theorem r_miss (hA : AI A) (h : AMk m A k) {s q : Int32} (hr : Run A s q) (x : Int32) : OK (g_M_miss s x m) (fun r m' => (canMiss A q x → AMk m' (msA A q x) k ∧ say (aD (msA A q x) q) r) ∧ (¬ canMiss A q x → AMk m' A k ∧ say (aD A q) r)) := by
  have hk := h.k64
  unfold g_M_miss
  refine ok_bn (r_running h s) ?_
  rintro r m1 ⟨rfl, hh⟩
  rcases hh with ⟨p, hp, rfl, hq⟩ | ⟨-, hn⟩
  · have e := hA.2.2.2.2.1 _ _ _ hr hq
    subst e
    have no : ¬ canMiss A (m1.2.1 1 p) x → OK (g_M_miss_b167 (nI p) m1) (fun r m' => (canMiss A (m1.2.1 1 p) x → AMk m' (msA A (m1.2.1 1 p) x) k ∧ say (aD (msA A (m1.2.1 1 p) x) (m1.2.1 1 p)) r) ∧ (¬ canMiss A (m1.2.1 1 p) x → AMk m' A k ∧ say (aD A (m1.2.1 1 p)) r)) := fun hc => by
      unfold g_M_miss_b167
      exact ok_imp (r_doomed h hp) (fun r m' z => ⟨fun w => absurd w hc, fun _ => z⟩)
    refine ok_if (fun _ => ?_) (fun z => absurd (Int32.not_lt.mp (nI_pos (n := p) (by omega))) z)
    refine ok_bn (r_find h x) ?_
    rintro r m2 ⟨rfl, hf⟩
    rcases hf with ⟨i, hi, rfl, rfl⟩ | ⟨rfl, hf⟩
    · refine ok_if (fun z => absurd z (nI_pos (by omega))) (fun _ => ok_if (fun e => no (fun w => w.2.1 ?_)) (fun e => ?_))
      · rw [(nI_eq (by omega) (by omega)).mp e]
      have hne : m2.2.1 1 i ≠ m2.2.1 1 p := fun q => e (by rw [h.inj hi hp q])
      refine ok_bn (r_concurrent h hp hi) ?_
      rintro r m3 ⟨rfl, hc⟩
      refine ok_if (fun r0 => no (fun w => ?_)) (fun r0 => ?_)
      · rcases hc with ⟨z, -⟩ | ⟨-, z⟩
        · rw [r0] at z; exact absurd z (by decide)
        · exact z w.2.2
      have hcm : canMiss A (m3.2.1 1 p) (m3.2.1 1 i) := by
        rcases hc with ⟨-, z⟩ | ⟨z, -⟩
        · exact ⟨h.kp hi, hne, z⟩
        · exact absurd z r0
      refine ok_bnU (r_point hA h hp hi) ?_
      rintro m4 ⟨h4, e4, d4⟩
      have hB : AI (ptA A (m3.2.1 1 p) (m3.2.1 1 i)) := AI_pt hA (h.kp hi)
      have go : ∀ m5 : MS, m5.2.1 1 = m3.2.1 1 → AMk m5 (dpA (ptA A (m3.2.1 1 p) (m3.2.1 1 i)) (m3.2.1 1 p) (dang (ptA A (m3.2.1 1 p) (m3.2.1 1 i)) (m3.2.1 1 p) (m3.2.1 1 i))) k → OK (g_M_miss_b80 2000 (nI p) (nI i) 0 m5) (fun r m' => (canMiss A (m3.2.1 1 p) (m3.2.1 1 i) → AMk m' (msA A (m3.2.1 1 p) (m3.2.1 1 i)) k ∧ say (aD (msA A (m3.2.1 1 p) (m3.2.1 1 i)) (m3.2.1 1 p)) r) ∧ (¬ canMiss A (m3.2.1 1 p) (m3.2.1 1 i) → AMk m' A k ∧ say (aD A (m3.2.1 1 p)) r)) := fun m5 e5 h5 => by
        refine ok_imp (r_miss_loop (I := m3.2.1 1) (P0 := dang (ptA A (m3.2.1 1 p) (m3.2.1 1 i)) (m3.2.1 1 p) (m3.2.1 1 i)) hB hp hi hk (fun q hq => h.at hq) (fun i hi => h.kp hi) 2000 0 m5 (by omega) (by omega) e5 ?_) (fun r m' z => ⟨fun _ => z, fun w => absurd hcm w⟩)
        rw [dp_eq (P' := dang (ptA A (m3.2.1 1 p) (m3.2.1 1 i)) (m3.2.1 1 p) (m3.2.1 1 i)) ⟨fun z => z.elim id (fun ⟨_, z, hz, _⟩ => by omega), Or.inl⟩]
        exact h5
      have yes : (aD (ptA A (m3.2.1 1 p) (m3.2.1 1 i)) (m3.2.1 1 p) ∨ dang (ptA A (m3.2.1 1 p) (m3.2.1 1 i)) (m3.2.1 1 p) (m3.2.1 1 i)) → OK (g_M_miss_b71 (nI p) (nI i) (nI p) m4) (fun r m' => (canMiss A (m3.2.1 1 p) (m3.2.1 1 i) → AMk m' (msA A (m3.2.1 1 p) (m3.2.1 1 i)) k ∧ say (aD (msA A (m3.2.1 1 p) (m3.2.1 1 i)) (m3.2.1 1 p)) r) ∧ (¬ canMiss A (m3.2.1 1 p) (m3.2.1 1 i) → AMk m' A k ∧ say (aD A (m3.2.1 1 p)) r)) := fun hd => by
        unfold g_M_miss_b71
        refine ok_wZ p rfl (by show p < 64; omega) (Or.inr rfl) ?_
        refine go _ (by rw [sI_ne (by decide)]; exact e4) ?_
        rw [dp_dm (P := False) hd, dp_no (fun h => h)]
        have := am_dm h4 hp
        rw [e4] at this
        exact this
      refine ok_rI p rfl (by show p < 64; omega) (ok_if (fun z0 => ?_) (fun z0 => yes (Or.inl ?_)))
      · refine ok_bn (r_isDanger hB h4 hp hi) ?_
        rw [e4]
        rintro r m5 ⟨rfl, hd⟩
        refine ok_if (fun r0 => ?_) (fun r0 => yes (Or.inr ?_))
        · refine ok_wZ p rfl (by show p < 64; omega) (Or.inl rfl) ?_
          refine go _ (by rw [sI_ne (by decide)]; exact e4) ?_
          rw [dp_no (by
            rcases hd with ⟨w, -⟩ | ⟨-, w⟩
            · rw [r0] at w; exact absurd w (by decide)
            · exact w)]
          exact am_d0 h4 z0
        · rcases hd with ⟨-, w⟩ | ⟨w, -⟩
          · exact w
          · exact absurd w r0
      · have := (h4.d hp).mp z0
        rw [e4] at this
        exact this
    · exact ok_if (fun _ => no (fun w => hf w.1)) (fun z => absurd (by decide) z)
  · exact absurd hr (hn q)
theorem r_miss_no (h : AMk m A k) {s : Int32} (hc : ∀ q, ¬ Run A s q) (x : Int32) : OK (g_M_miss s x m) (fun r m' => r = 0 ∧ m' = m) := by
  have hk := h.k64
  unfold g_M_miss
  refine ok_bn (r_running h s) ?_
  rintro r m1 ⟨rfl, hh⟩
  rcases hh with ⟨p, hp, rfl, hq⟩ | ⟨rfl, -⟩
  · exact absurd hq (hc _)
  · exact ok_if (fun z => absurd z (by decide)) (fun _ => ok_rZ (Or.inl rfl) ⟨rfl, rfl⟩)
end AMR7
