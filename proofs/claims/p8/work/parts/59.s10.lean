/-! drop and forget keep the state by ids -/
section AMR10
variable {m : MS} {A : Ab} {k : Nat}
theorem r_drop (h : AMk m A k) {x : Nat} (hx : x < k) : OK (g_M_drop (nI x) m) (fun _ m' => AMk m' (kpA A (fun z => z ≠ m.2.1 1 x)) (k - 1) ∧ ∀ i, i < k - 1 → m'.2.1 1 i = m.2.1 1 (sg x i)) := by
  have hk := h.k64
  refine ok_imp (ok_and (r_drop_f h.gd hk h.n hx) (s_drop h.mi hx)) ?_
  rintro _ m' ⟨⟨d1, d2, d3, d4, d5, d6, d7⟩, hm⟩
  have e1 : ∀ i, i < k - 1 → m'.2.1 1 i = m.2.1 1 (sg x i) := fun i hi => d1 1 (by decide) (by decide) i hi
  refine ⟨⟨hm, fun i hi => ?_, fun q hq => ?_, fun i j hi hj e => ?_, fun i hi => ?_, fun i j hi hj => ?_, fun j hj => ?_, hr_congr (d5 13 (by decide)) (d5 14 (by decide)) (d6 15 (by decide) (by decide)) rfl rfl h.hr⟩, e1⟩
  · rw [e1 i hi]
    exact ⟨h.kp (sg_lt hi), fun q => sg_ne (h.inj (sg_lt hi) hx q)⟩
  · obtain ⟨i, hi, e⟩ := h.at hq.1
    obtain ⟨j, hj, ej⟩ := sg_sur (x := x) hi (fun z => hq.2 (by rw [← e, z])) hx
    exact ⟨j, hj, by rw [e1 j hj, ej]; exact e⟩
  · rw [e1 i hi, e1 j hj] at e
    exact sg_inj (h.inj (sg_lt hi) (sg_lt hj) e)
  · have hs := sg_lt (x := x) hi
    rw [e1 i hi]
    refine ⟨⟨?_, ?_, ?_, ?_⟩, ?_, fun t ht => ?_⟩
    · rw [d1 2 (by decide) (by decide) i hi]; exact h.f2 hs
    · rw [d1 3 (by decide) (by decide) i hi]; exact h.f3 hs
    · rw [d1 4 (by decide) (by decide) i hi]; exact h.f4 hs
    · rw [d1 6 (by decide) (by decide) i hi]; exact h.f6 hs
    · rw [d1 5 (by decide) (by decide) i hi]; exact h.d hs
    · have en' : ∀ j, j < 8 → en m' (8 * (8 * i + t) + j) = en m (8 * (8 * sg x i + t) + j) := fun j hj => by
        rw [show 8 * (8 * i + t) + j = 64 * i + (8 * t + j) by omega, show 8 * (8 * sg x i + t) + j = 64 * sg x i + (8 * t + j) by omega]
        exact d3 i (8 * t + j) hi (by omega)
      have c8 := d2 i t hi ht
      obtain ⟨r1, r2⟩ := h.r hs ht
      refine ⟨fun hw => ?_, fun hw => ?_⟩
      · obtain ⟨a1, a2⟩ := r1 hw
        have z := congrArg (fun x : RG => x.1) (en' 0 (by omega))
        exact ⟨by rw [c8]; exact a1, z.trans a2⟩
      · obtain ⟨a0, a1, a2⟩ := r2 hw
        have a0' : (aR A (m.2.1 1 (sg x i)) t).2.1 ≤ 8 := a0
        refine ⟨a0, by rw [c8]; exact a1, fun x => (a2 x).trans ⟨?_, ?_⟩⟩
        · rintro ⟨j, hj, e⟩
          exact ⟨j, hj, by rw [en' j (by omega)]; exact e⟩
        · rintro ⟨j, hj, e⟩
          have hj' : j < (aR A (m.2.1 1 (sg _ i)) t).2.1 := hj
          exact ⟨j, hj, by rw [← en' j (by omega)]; exact e⟩
  · rw [e1 i hi, e1 j hj, d4 i j hi hj]; exact h.a (sg_lt hi) (sg_lt hj)
  · rw [d5 18 (by decide), d6 19 (by decide) (by decide)]; exact h.v j hj
/-- who is kept on -/
def stays (A : Ab) (y : Int32) : Prop := aF A 4 y = 0 ∨ ∃ z, aK A z ∧ aF A 4 z = 0 ∧ aF A 3 z < aF A 4 y
def fgA (A : Ab) : Ab := kpA A (stays A)
theorem kp_kp {A : Ab} {S S' : Int32 → Prop} : kpA (kpA A S) S' = kpA A (fun z => S z ∧ S' z) := by
  refine ab_ext rfl rfl (fun q => ?_) (fun _ _ => rfl) (fun _ => Iff.rfl) (fun _ _ => Iff.rfl) rfl rfl rfl (fun _ _ => Iff.rfl)
  exact and_assoc
theorem kp_fg {A : Ab} {S : Int32 → Prop} (h : ∀ y, aK A y → (S y ↔ stays A y)) : kpA A S = fgA A := by
  refine ab_ext rfl rfl (fun q => ?_) (fun _ _ => rfl) (fun _ => Iff.rfl) (fun _ _ => Iff.rfl) rfl rfl rfl (fun _ _ => Iff.rfl)
  exact and_congr_right (h q)
theorem kp_all {A : Ab} {S : Int32 → Prop} (h : ∀ y, aK A y → S y) : kpA A S = A := by
  refine ab_ext rfl rfl (fun q => ?_) (fun _ _ => rfl) (fun _ => Iff.rfl) (fun _ _ => Iff.rfl) rfl rfl rfl (fun _ _ => Iff.rfl)
  exact ⟨fun z => z.1, fun z => ⟨z, h q z⟩⟩
theorem r_forget (h : AMk m A k) : OK (g_M_forget m) (fun _ m' => ∃ k', AMk m' (fgA A) k') := by
  have hk := h.k64
  -- one place
  have h28 : ∀ (G : Int32 → MS → Option (Unit × MS)) (p k1 : Nat) (S : Int32 → Prop) (m1 : MS), p < k1 → k1 ≤ 64 → AMk m1 (kpA A S) k1 → (∀ y, aK A y → stays A y → S y) → (stays A (m1.2.1 1 p) → OK (G (nI p + (-1)) m1) (fun _ m' => ∃ k', AMk m' (fgA A) k')) → (¬ stays A (m1.2.1 1 p) → ∀ m2, AMk m2 (kpA (kpA A S) (fun z => z ≠ m1.2.1 1 p)) (k1 - 1) → (∀ i, i < k1 - 1 → m2.2.1 1 i = m1.2.1 1 (sg p i)) → OK (G (nI p + (-1)) m2) (fun _ m' => ∃ k', AMk m' (fgA A) k')) → ∀ (n j : Nat) (x2 : Int32), j ≤ k1 → k1 - j < n → ((x2 ≠ 0 ∧ stays A (m1.2.1 1 p)) ∨ (x2 = 0 ∧ aF A 4 (m1.2.1 1 p) ≠ 0 ∧ ∀ i, i < j → ¬ (aF A 4 (m1.2.1 1 i) = 0 ∧ aF A 3 (m1.2.1 1 i) < aF A 4 (m1.2.1 1 p)))) → OK (g_M_forget_b28 G n (nI p) x2 (nI j) m1) (fun _ m' => ∃ k', AMk m' (fgA A) k') := by
    intro G p k1 S m1 hp hk1 h1 hS hG1 hG2 n
    induction n with
    | zero => intro j x2 _ h; omega
    | succ n ih =>
      intro j x2 hj hn hx
      rw [g_M_forget_b28]
      refine ok_if (fun hle => ok_if (fun hz => ?_) (fun hz => ?_)) (fun hlt => ?_)
      · rw [h1.n, nI_leI (by omega) (by omega)] at hle
        rcases hx with ⟨z, -⟩ | ⟨-, z1, z2⟩
        · exact absurd hz z
        refine ok_bnU (r_drop h1 hp) ?_
        rintro m2 ⟨h2, e2⟩
        refine hG2 ?_ m2 h2 e2
        rintro (w | ⟨z, w1, w2, w3⟩)
        · exact z1 w
        · obtain ⟨i, hi, e⟩ := h1.at (q := z) ⟨w1, hS z w1 (Or.inl w2)⟩
          exact z2 i (by omega) (by rw [e]; exact ⟨w2, w3⟩)
      · rcases hx with ⟨-, z⟩ | ⟨z, -⟩
        · exact hG1 z
        · exact absurd z hz
      rw [h1.n, nI_leI (by clear hx; omega) (by clear hx; omega)] at hlt
      have q0 : j < k1 := by clear hx; omega
      have q1 : j + 1 ≤ k1 := by clear hx; omega
      have q2 : k1 - (j + 1) < n := by clear hx; omega
      have n64 : stays A (m1.2.1 1 p) → OK (g_M_forget_b64 (g_M_forget_b28 G n) (nI p) (nI j) m1) (fun _ m' => ∃ k', AMk m' (fgA A) k') := fun hs => by
        unfold g_M_forget_b64
        rw [nI_1]
        exact ih (j + 1) 1 q1 q2 (Or.inl ⟨by decide, hs⟩)
      refine ok_if (fun hz => ?_) (fun hz => ?_)
      · rcases hx with ⟨z, -⟩ | ⟨-, z1, z2⟩
        · exact absurd hz z
        have n68 : ¬ (aF A 4 (m1.2.1 1 j) = 0 ∧ aF A 3 (m1.2.1 1 j) < aF A 4 (m1.2.1 1 p)) → OK (g_M_forget_b68 (g_M_forget_b28 G n) (nI p) (nI j) m1) (fun _ m' => ∃ k', AMk m' (fgA A) k') := fun hs => by
          unfold g_M_forget_b68
          rw [nI_1]
          refine ih (j + 1) 0 q1 q2 (Or.inr ⟨rfl, z1, fun i hi => ?_⟩)
          rcases Nat.lt_or_ge i j with hij | hij
          · exact z2 i hij
          · rw [show i = j by omega]; exact hs
        refine ok_rI j rfl (by show j < 64; omega) ?_
        rw [h1.f4 q0]
        refine ok_if (fun e4 => ok_rI j rfl (by show j < 64; omega) (ok_rI p rfl (by show p < 64; omega) ?_)) (fun e4 => n68 (fun q => e4 q.1))
        rw [h1.f4 hp, h1.f3 q0]
        exact ok_if (fun e => n68 (fun q => absurd e (Int32.not_le.mpr q.2))) (fun e => n64 (Or.inr ⟨_, (h1.kp q0).1, e4, Int32.not_le.mp e⟩))
      · rcases hx with ⟨-, z⟩ | ⟨z, -⟩
        · exact n64 z
        · exact absurd z hz
  have h7 : ∀ (n j k1 : Nat) (S : Int32 → Prop) (m1 : MS), j ≤ k1 → k1 ≤ 64 → j < n → AMk m1 (kpA A S) k1 → (∀ y, aK A y → stays A y → S y) → (∀ i, j ≤ i → i < k1 → stays A (m1.2.1 1 i)) → OK (g_M_forget_b7 n (nI j + (-1)) m1) (fun _ m' => ∃ k', AMk m' (fgA A) k') := by
    intro n
    induction n with
    | zero => intro j k1 S m1 _ _ h; omega
    | succ n ih =>
      intro j k1 S m1 hj hk1 hn h1 hS hst
      rw [g_M_forget_b7]
      cases j with
      | zero =>
        refine ok_if (fun _ => ok_ret ⟨k1, ?_⟩) (fun hlt => absurd (by decide) hlt)
        rw [← kp_fg (S := S) (fun y hy => ⟨fun z => ?_, hS y hy⟩)]
        · exact h1
        · obtain ⟨i, hi, e⟩ := h1.at (q := y) ⟨hy, z⟩
          rw [← e]; exact hst i (by omega) hi
      | succ p =>
        rw [pk_m1]
        refine ok_if (fun hlt => absurd hlt (nI_pos (by omega))) (fun _ => ?_)
        have go := h28 (g_M_forget_b7 n) p k1 S m1 (by omega) hk1 h1 hS (fun hs => ih p k1 S m1 (by omega) hk1 (by omega) h1 hS (fun i hi hi2 => by
          rcases Nat.lt_or_ge p i with h | h
          · exact hst i (by omega) hi2
          · rw [show i = p by omega]; exact hs)) (fun hns m2 h2 e2 => by
          rw [kp_kp] at h2
          refine ih p (k1 - 1) _ m2 (by omega) (by omega) (by omega) h2 (fun y hy hs => ⟨hS y hy hs, fun e => hns (e ▸ hs)⟩) (fun i hi hi2 => ?_)
          rw [e2 i hi2, sg_hi hi]
          exact hst (i + 1) (by omega) (by omega)) 2000 0
        refine ok_rI p rfl (by show p < 64; omega) ?_
        rw [h1.f4 (by omega)]
        exact ok_if (fun e => go 1 (by omega) (by omega) (Or.inl ⟨by decide, Or.inl e⟩)) (fun e => go 0 (by omega) (by omega) (Or.inr ⟨rfl, e, fun i hi => by omega⟩))
  unfold g_M_forget
  rw [h.n, Int32.sub_eq_add_neg]
  refine h7 2000 k k (fun _ => True) m (by omega) hk (by omega) ?_ (fun _ _ _ => trivial) (fun i hi hi2 => by omega)
  rw [kp_all (fun _ _ => trivial)]
  exact h
theorem r_abort (hA : AI A) (h : AMk m A k) {s q : Int32} (hr : Run A s q) : OK (g_M_abort s m) (fun r m' => r = 1 ∧ ∃ k', AMk m' (fgA (kpA A (fun z => z ≠ q))) k') := by
  have hk := h.k64
  unfold g_M_abort
  refine ok_bn (r_running h s) ?_
  rintro r m1 ⟨rfl, hh⟩
  rcases hh with ⟨p, hp, rfl, hq⟩ | ⟨-, hn⟩
  · have e := hA.2.2.2.2.1 _ _ _ hr hq
    subst e
    refine ok_if (fun _ => ?_) (fun z => absurd (Int32.not_lt.mp (nI_pos (n := p) (by omega))) z)
    refine ok_bnU (r_drop h hp) ?_
    rintro m2 ⟨h2, -⟩
    refine ok_bnU (r_forget h2) ?_
    rintro m3 h3
    exact ok_rZ (Or.inr rfl) ⟨rfl, h3⟩
  · exact absurd hr (hn q)
theorem r_abort_no (h : AMk m A k) {s : Int32} (hc : ∀ q, ¬ Run A s q) : OK (g_M_abort s m) (fun r m' => r = 0 ∧ m' = m) := by
  unfold g_M_abort
  refine ok_bn (r_running h s) ?_
  rintro r m1 ⟨rfl, hh⟩
  rcases hh with ⟨p, hp, rfl, hq⟩ | ⟨rfl, -⟩
  · exact absurd hq (hc _)
  · exact ok_if (fun z => absurd z (by decide)) (fun _ => ok_rZ (Or.inl rfl) ⟨rfl, rfl⟩)
theorem r_doom (hA : AI A) (h : AMk m A k) {s q : Int32} (hr : Run A s q) : OK (g_M_doom s m) (fun r m' => r = 1 ∧ AMk m' (dmA A q) k) := by
  have hk := h.k64
  unfold g_M_doom
  refine ok_bn (r_running h s) ?_
  rintro r m1 ⟨rfl, hh⟩
  rcases hh with ⟨p, hp, rfl, hq⟩ | ⟨-, hn⟩
  · have e := hA.2.2.2.2.1 _ _ _ hr hq
    subst e
    refine ok_if (fun _ => ?_) (fun z => absurd (Int32.not_lt.mp (nI_pos (n := p) (by omega))) z)
    exact ok_wZ p rfl (by show p < 64; omega) (Or.inr rfl) (ok_rZ (Or.inr rfl) ⟨rfl, am_dm h hp⟩)
  · exact absurd hr (hn q)
theorem r_doom_no (h : AMk m A k) {s : Int32} (hc : ∀ q, ¬ Run A s q) : OK (g_M_doom s m) (fun r m' => r = 0 ∧ m' = m) := by
  unfold g_M_doom
  refine ok_bn (r_running h s) ?_
  rintro r m1 ⟨rfl, hh⟩
  rcases hh with ⟨p, hp, rfl, hq⟩ | ⟨rfl, -⟩
  · exact absurd hq (hc _)
  · exact ok_if (fun z => absurd z (by decide)) (fun _ => ok_rZ (Or.inl rfl) ⟨rfl, rfl⟩)
end AMR10
