/-! write and miss: what they do to the state by ids -/
theorem AI_same {A B : Ab} (h : AI A) (h1 : aB B = aB A) (h2 : aC B = aC A) (h3 : aK B = aK A) (h4 : aF B = aF A) (h5 : aR B = aR A) : AI B := by
  unfold AI Run
  rw [h1, h2, h3, h4, h5]
  exact h
def hit (A : Ab) (q : Int32) (t : Nat) (y : Int32) : Prop := aK A y ∧ y ≠ q ∧ conc A y q ∧ inR A y t
/-- a write, as far as it met those of S -/
def wrP (A : Ab) (q : Int32) (t : Nat) (S : Int32 → Prop) : Ab := mkA (aB A) (aC A) (aK A) (aF A) (fun z => aD A z ∨ (z = q ∧ ∃ y, S y ∧ hit A q t y ∧ dang A y q)) (fun u w => aA A u w ∨ (w = q ∧ S u ∧ hit A q t u)) (aR A) (aH A) (aL A) (fun u w => aE A u w ∨ (w = q ∧ S u ∧ hit A q t u))
def wrA (A : Ab) (q : Int32) (t : Nat) : Ab := wrP A q t (fun _ => True)
theorem ptA_F {B : Ab} {y q : Int32} (h : aF B 4 q = 0) : aF (ptA B y q) = aF B := by
  funext d z
  show (if _ then _ else _) = _
  rw [if_neg (fun z => z.2.2.1 h)]
theorem wrP_0 {A : Ab} {q : Int32} {t : Nat} {S : Int32 → Prop} (h : ∀ y, S y → ¬ hit A q t y) : wrP A q t S = A := by
  refine ab_ext rfl rfl (fun _ => Iff.rfl) (fun _ _ => rfl) (fun z => ?_) (fun u w => ?_) rfl rfl rfl (fun u w => ?_)
  · exact ⟨fun e => e.elim id (fun ⟨_, y, h1, h2, _⟩ => absurd h2 (h y h1)), Or.inl⟩
  · exact ⟨fun e => e.elim id (fun ⟨_, h1, h2⟩ => absurd h2 (h u h1)), Or.inl⟩
  · exact ⟨fun e => e.elim id (fun ⟨_, h1, h2⟩ => absurd h2 (h u h1)), Or.inl⟩
theorem wrP_all {A : Ab} {q : Int32} {t : Nat} {S : Int32 → Prop} (h : ∀ y, aK A y → S y) : wrP A q t S = wrA A q t := by
  refine ab_ext rfl rfl (fun _ => Iff.rfl) (fun _ _ => rfl) (fun z => ?_) (fun u w => ?_) rfl rfl rfl (fun u w => ?_)
  · exact ⟨fun e => e.elim Or.inl (fun ⟨e1, y, h1, h2⟩ => Or.inr ⟨e1, y, trivial, h2⟩), fun e => e.elim Or.inl (fun ⟨e1, y, h1, h2⟩ => Or.inr ⟨e1, y, h y h2.1.1, h2⟩)⟩
  · exact ⟨fun e => e.elim Or.inl (fun ⟨e1, h1, h2⟩ => Or.inr ⟨e1, trivial, h2⟩), fun e => e.elim Or.inl (fun ⟨e1, h1, h2⟩ => Or.inr ⟨e1, h u h2.1, h2⟩)⟩
  · exact ⟨fun e => e.elim Or.inl (fun ⟨e1, h1, h2⟩ => Or.inr ⟨e1, trivial, h2⟩), fun e => e.elim Or.inl (fun ⟨e1, h1, h2⟩ => Or.inr ⟨e1, h u h2.1, h2⟩)⟩
theorem wrP_skip {A : Ab} {q y : Int32} {t : Nat} {S S' : Int32 → Prop} (hS : ∀ z, S' z ↔ S z ∨ z = y) (h : ¬ hit A q t y) : wrP A q t S' = wrP A q t S := by
  refine ab_ext rfl rfl (fun _ => Iff.rfl) (fun _ _ => rfl) (fun z => ?_) (fun u w => ?_) rfl rfl rfl (fun u w => ?_)
  · refine ⟨fun e => e.elim Or.inl (fun ⟨e1, x, h1, h2⟩ => Or.inr ⟨e1, x, ?_, h2⟩), fun e => e.elim Or.inl (fun ⟨e1, x, h1, h2⟩ => Or.inr ⟨e1, x, (hS x).mpr (Or.inl h1), h2⟩)⟩
    exact ((hS x).mp h1).elim id (fun e => absurd (e ▸ h2.1) h)
  · refine ⟨fun e => e.elim Or.inl (fun ⟨e1, h1, h2⟩ => Or.inr ⟨e1, ?_, h2⟩), fun e => e.elim Or.inl (fun ⟨e1, h1, h2⟩ => Or.inr ⟨e1, (hS u).mpr (Or.inl h1), h2⟩)⟩
    exact ((hS u).mp h1).elim id (fun e => absurd (e ▸ h2) h)
  · refine ⟨fun e => e.elim Or.inl (fun ⟨e1, h1, h2⟩ => Or.inr ⟨e1, ?_, h2⟩), fun e => e.elim Or.inl (fun ⟨e1, h1, h2⟩ => Or.inr ⟨e1, (hS u).mpr (Or.inl h1), h2⟩)⟩
    exact ((hS u).mp h1).elim id (fun e => absurd (e ▸ h2) h)
theorem wrP_pt {A : Ab} {q y : Int32} {t : Nat} {S S' : Int32 → Prop} (h0 : aF A 4 q = 0) (hS : ∀ z, S' z ↔ S z ∨ z = y) (h : hit A q t y) (hd : ¬ dang A y q) : wrP A q t S' = ptA (wrP A q t S) y q := by
  refine ab_ext rfl rfl (fun _ => Iff.rfl) (fun d z => ?_) (fun z => ?_) (fun u w => ?_) rfl rfl rfl (fun u w => ?_)
  · rw [ptA_F (by exact h0)]
    rfl
  · refine ⟨fun e => e.elim Or.inl (fun ⟨e1, x, h1, h2⟩ => Or.inr ⟨e1, x, ?_, h2⟩), fun e => e.elim Or.inl (fun ⟨e1, x, h1, h2⟩ => Or.inr ⟨e1, x, (hS x).mpr (Or.inl h1), h2⟩)⟩
    exact ((hS x).mp h1).elim id (fun e => absurd (e ▸ h2.2) hd)
  · constructor
    · rintro (e | ⟨e1, h1, h2⟩)
      · exact Or.inl (Or.inl e)
      · rcases (hS u).mp h1 with e | e
        · exact Or.inl (Or.inr ⟨e1, e, h2⟩)
        · exact Or.inr ⟨e, e1⟩
    · rintro ((e | ⟨e1, h1, h2⟩) | ⟨e1, e2⟩)
      · exact Or.inl e
      · exact Or.inr ⟨e1, (hS u).mpr (Or.inl h1), h2⟩
      · subst e1; exact Or.inr ⟨e2, (hS u).mpr (Or.inr rfl), h⟩
  · constructor
    · rintro (e | ⟨e1, h1, h2⟩)
      · exact Or.inl (Or.inl e)
      · rcases (hS u).mp h1 with e | e
        · exact Or.inl (Or.inr ⟨e1, e, h2⟩)
        · exact Or.inr ⟨e, e1⟩
    · rintro ((e | ⟨e1, h1, h2⟩) | ⟨e1, e2⟩)
      · exact Or.inl e
      · exact Or.inr ⟨e1, (hS u).mpr (Or.inl h1), h2⟩
      · subst e1; exact Or.inr ⟨e2, (hS u).mpr (Or.inr rfl), h⟩
theorem wrP_dm {A : Ab} {q y : Int32} {t : Nat} {S S' : Int32 → Prop} (h0 : aF A 4 q = 0) (hS : ∀ z, S' z ↔ S z ∨ z = y) (h : hit A q t y) (hd : dang A y q ∨ aD (wrP A q t S) q) : wrP A q t S' = dmA (ptA (wrP A q t S) y q) q := by
  refine ab_ext rfl rfl (fun _ => Iff.rfl) (fun d z => ?_) (fun z => ?_) (fun u w => ?_) rfl rfl rfl (fun u w => ?_)
  · show _ = aF (ptA (wrP A q t S) y q) d z
    rw [ptA_F (by exact h0)]
    rfl
  · constructor
    · rintro (e | ⟨e1, x, h1, h2⟩)
      · exact Or.inl (Or.inl e)
      · exact Or.inr e1
    · rintro ((e | ⟨e1, x, h1, h2⟩) | e)
      · exact Or.inl e
      · exact Or.inr ⟨e1, x, (hS x).mpr (Or.inl h1), h2⟩
      · subst e
        rcases hd with hd | hd
        · exact Or.inr ⟨rfl, y, (hS y).mpr (Or.inr rfl), h, hd⟩
        · rcases hd with hd | ⟨e1, x, h1, h2⟩
          · exact Or.inl hd
          · exact Or.inr ⟨rfl, x, (hS x).mpr (Or.inl h1), h2⟩
  · constructor
    · rintro (e | ⟨e1, h1, h2⟩)
      · exact Or.inl (Or.inl e)
      · rcases (hS u).mp h1 with e | e
        · exact Or.inl (Or.inr ⟨e1, e, h2⟩)
        · exact Or.inr ⟨e, e1⟩
    · rintro ((e | ⟨e1, h1, h2⟩) | ⟨e1, e2⟩)
      · exact Or.inl e
      · exact Or.inr ⟨e1, (hS u).mpr (Or.inl h1), h2⟩
      · subst e1; exact Or.inr ⟨e2, (hS u).mpr (Or.inr rfl), h⟩
  · constructor
    · rintro (e | ⟨e1, h1, h2⟩)
      · exact Or.inl (Or.inl e)
      · rcases (hS u).mp h1 with e | e
        · exact Or.inl (Or.inr ⟨e1, e, h2⟩)
        · exact Or.inr ⟨e, e1⟩
    · rintro ((e | ⟨e1, h1, h2⟩) | ⟨e1, e2⟩)
      · exact Or.inl e
      · exact Or.inr ⟨e1, (hS u).mpr (Or.inl h1), h2⟩
      · subst e1; exact Or.inr ⟨e2, (hS u).mpr (Or.inr rfl), h⟩
section AMR6
variable {m : MS} {A : Ab} {k : Nat}
/-- an answer that says whether P -/
abbrev say (P : Prop) (r : Int32) : Prop := (r = 1 ∧ P) ∨ (r = 0 ∧ ¬ P)
theorem r_doomed (h : AMk m A k) {p : Nat} (hp : p < k) : OK ((rI m 5 (nI p)).bind (fun x => rZm x m)) (fun r m' => AMk m' A k ∧ say (aD A (m.2.1 1 p)) r) := by
  have hk := h.k64
  have e := gd_z h.gd (Or.inl rfl) (d := 5) p
  refine ok_rI p rfl (by show p < 64; omega) (ok_rZ e ⟨h, ?_⟩)
  rcases e with e | e
  · exact Or.inr ⟨e, fun q => (h.d hp).mpr q e⟩
  · exact Or.inl ⟨e, (h.d hp).mp (by rw [e]; decide)⟩
theorem r_write_p (hA : AI A) (h : AMk m A k) {p t : Nat} (hp : p < k) (ht : t < 8) (h0 : aF A 4 (m.2.1 1 p) = 0) : OK (g_M_write_b25 2000 (nI t) (nI p) 0 m) (fun r m' => AMk m' (wrA A (m.2.1 1 p) t) k ∧ say (aD (wrA A (m.2.1 1 p) t) (m.2.1 1 p)) r) := by
  have hk := h.k64
  have key : ∀ (n j : Nat) (m1 : MS), j ≤ k → k - j < n → m1.2.1 1 = m.2.1 1 → AMk m1 (wrP A (m.2.1 1 p) t (fun z => ∃ i, i < j ∧ m.2.1 1 i = z)) k → OK (g_M_write_b25 n (nI t) (nI p) (nI j) m1) (fun r m' => AMk m' (wrA A (m.2.1 1 p) t) k ∧ say (aD (wrA A (m.2.1 1 p) t) (m.2.1 1 p)) r) := by
    intro n
    induction n with
    | zero => intro j m1 _ h; omega
    | succ n ih =>
      intro j m1 hj hn e1 h1
      rw [g_M_write_b25]
      refine ok_if (fun hle => ?_) (fun hlt => ?_)
      · rw [h1.n, nI_leI (by omega) (by omega)] at hle
        rw [wrP_all (fun y hy => by obtain ⟨i, hi, e⟩ := h.at hy; exact ⟨i, by omega, e⟩)] at h1
        have := r_doomed h1 hp
        rw [e1] at this
        exact this
      rw [h1.n, nI_leI (by omega) (by omega)] at hlt
      have hjk : j < k := by omega
      have hS : ∀ z, (∃ i, i < j + 1 ∧ m.2.1 1 i = z) ↔ (∃ i, i < j ∧ m.2.1 1 i = z) ∨ z = m.2.1 1 j := fun z => by
        constructor
        · rintro ⟨i, hi, e⟩
          rcases Nat.lt_or_ge i j with hij | hij
          · exact Or.inl ⟨i, hij, e⟩
          · exact Or.inr (by rw [← e, show i = j by omega])
        · rintro (⟨i, hi, e⟩ | e)
          · exact ⟨i, by omega, e⟩
          · exact ⟨j, by omega, e.symm⟩
      have hA1 : AI (wrP A (m.2.1 1 p) t (fun z => ∃ i, i < j ∧ m.2.1 1 i = z)) := AI_same hA rfl rfl rfl rfl rfl
      have skip : ¬ hit A (m.2.1 1 p) t (m.2.1 1 j) → OK (g_M_write_b25 n (nI t) (nI p) (nI j + 1) m1) (fun r m' => AMk m' (wrA A (m.2.1 1 p) t) k ∧ say (aD (wrA A (m.2.1 1 p) t) (m.2.1 1 p)) r) := fun hh => by
        rw [nI_1]
        refine ih (j + 1) m1 (by omega) (by omega) e1 ?_
        rw [wrP_skip hS hh]
        exact h1
      refine ok_if (fun e => ?_) (fun e => ?_)
      · have : j = p := (nI_eq (by omega) (by omega)).mp e
        exact skip (fun q => q.2.1 (by rw [this]))
      have hjp : m.2.1 1 j ≠ m.2.1 1 p := fun q => e (by rw [h.inj hjk hp q])
      refine ok_bn (r_concurrent h1 hjk hp) ?_
      rw [e1]
      rintro r m2 ⟨rfl, hr⟩
      refine ok_if (fun r0 => skip (fun q => ?_)) (fun r0 => ?_)
      · rcases hr with ⟨w, -⟩ | ⟨-, w⟩
        · rw [r0] at w; exact absurd w (by decide)
        · exact w q.2.2.1
      have hc : conc A (m.2.1 1 j) (m.2.1 1 p) := by
        rcases hr with ⟨-, w⟩ | ⟨w, -⟩
        · exact w
        · exact absurd w r0
      refine ok_bn (r_hasRead h1 hjk ht) ?_
      rw [e1]
      rintro r m3 ⟨rfl, hr⟩
      refine ok_if (fun r0 => skip (fun q => ?_)) (fun r0 => ?_)
      · rcases hr with ⟨w, -⟩ | ⟨-, w⟩
        · rw [r0] at w; exact absurd w (by decide)
        · exact w q.2.2.2
      have hi : inR A (m.2.1 1 j) t := by
        rcases hr with ⟨-, w⟩ | ⟨w, -⟩
        · exact w
        · exact absurd w r0
      have hh : hit A (m.2.1 1 p) t (m.2.1 1 j) := ⟨h.kp hjk, hjp, hc, hi⟩
      refine ok_bnU (r_point hA1 h1 hjk hp) ?_
      rw [e1]
      rintro m4 ⟨h4, e4, d4⟩
      have hA4 : AI (ptA (wrP A (m.2.1 1 p) t (fun z => ∃ i, i < j ∧ m.2.1 1 i = z)) (m.2.1 1 j) (m.2.1 1 p)) := AI_same hA rfl rfl rfl (ptA_F (by exact h0)) rfl
      have b91 : (dang A (m.2.1 1 j) (m.2.1 1 p) ∨ aD (wrP A (m.2.1 1 p) t (fun z => ∃ i, i < j ∧ m.2.1 1 i = z)) (m.2.1 1 p)) → OK (g_M_write_b91 (g_M_write_b25 n) (nI t) (nI p) (nI j) (nI p) m4) (fun r m' => AMk m' (wrA A (m.2.1 1 p) t) k ∧ say (aD (wrA A (m.2.1 1 p) t) (m.2.1 1 p)) r) := fun hd => by
        unfold g_M_write_b91
        refine ok_wZ p rfl (by show p < 64; omega) (Or.inr rfl) ?_
        rw [nI_1]
        refine ih (j + 1) _ (by omega) (by omega) (by rw [sI_ne (by decide)]; exact e4) ?_
        rw [wrP_dm h0 hS hh hd]
        have := am_dm h4 hp
        rw [e4] at this
        exact this
      refine ok_rI p rfl (by show p < 64; omega) (ok_if (fun z0 => ?_) (fun z0 => b91 (Or.inr ?_)))
      · refine ok_bn (r_isDanger hA4 h4 hjk hp) ?_
        rw [e4]
        rintro r m5 ⟨rfl, hr⟩
        have hdd : dang (ptA (wrP A (m.2.1 1 p) t (fun z => ∃ i, i < j ∧ m.2.1 1 i = z)) (m.2.1 1 j) (m.2.1 1 p)) (m.2.1 1 j) (m.2.1 1 p) ↔ dang A (m.2.1 1 j) (m.2.1 1 p) := by
          unfold dang
          rw [ptA_F (by exact h0)]
          exact Iff.rfl
        rw [hdd] at hr
        refine ok_if (fun r0 => ?_) (fun r0 => b91 (Or.inl ?_))
        · refine ok_wZ p rfl (by show p < 64; omega) (Or.inl rfl) ?_
          rw [nI_1]
          refine ih (j + 1) _ (by omega) (by omega) (by rw [sI_ne (by decide)]; exact e4) ?_
          rw [wrP_pt h0 hS hh (by
            rcases hr with ⟨w, -⟩ | ⟨-, w⟩
            · rw [r0] at w; exact absurd w (by decide)
            · exact w)]
          exact am_d0 h4 z0
        · rcases hr with ⟨-, w⟩ | ⟨w, -⟩
          · exact w
          · exact absurd w r0
      · rw [d4] at z0
        have := (h1.d hp).mp z0
        rw [e1] at this
        exact this
  refine key 2000 0 m (by omega) (by omega) rfl ?_
  rw [wrP_0 (fun y hy => by obtain ⟨i, hi, -⟩ := hy; omega)]
  exact h
theorem r_write (hA : AI A) (h : AMk m A k) {s q : Int32} (hr : Run A s q) {t : Nat} (ht : t < 8) : OK (g_M_write s (nI t) m) (fun r m' => AMk m' (wrA A q t) k ∧ say (aD (wrA A q t) q) r) := by
  have hk := h.k64
  unfold g_M_write
  refine ok_bn (r_running h s) ?_
  rintro r m1 ⟨rfl, hh⟩
  rcases hh with ⟨p, hp, rfl, hq⟩ | ⟨-, hn⟩
  · have e := hA.2.2.2.2.1 _ _ _ hr hq
    subst e
    refine ok_if (fun z => absurd z (nI_pos (by omega))) (fun _ => ok_if (fun z => absurd z (nI_pos (by omega))) (fun _ => ok_if (fun _ => r_write_p hA h hp ht (hA.run hr).1) (fun z => ?_)))
    rw [show (7 : Int32) = nI 7 from rfl, nI_leI (by omega) (by omega)] at z; omega
  · exact absurd hr (hn q)
theorem r_write_no (h : AMk m A k) {s x2 : Int32} (hc : (∀ q, ¬ Run A s q) ∨ x2 < 0 ∨ 7 < x2) : OK (g_M_write s x2 m) (fun r m' => r = 0 ∧ m' = m) := by
  have hk := h.k64
  unfold g_M_write
  refine ok_bn (r_running h s) ?_
  rintro r m1 ⟨rfl, hh⟩
  have ret : OK (rZm 0 m1) (fun r m' => r = 0 ∧ m' = m1) := ok_rZ (Or.inl rfl) ⟨rfl, rfl⟩
  refine ok_if (fun _ => ret) (fun f1 => ok_if (fun _ => ret) (fun f2 => ok_if (fun f3 => ?_) (fun _ => ret)))
  exfalso
  rcases hc with z | z | z
  · rcases hh with ⟨p, hp, rfl, hq⟩ | ⟨e, -⟩
    · exact z _ hq
    · rw [e] at f1; exact f1 (by decide)
  · exact f2 z
  · exact absurd z (Int32.not_lt.mpr f3)
end AMR6
