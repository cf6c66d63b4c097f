def sg (x i : Nat) : Nat := if i < x then i else i + 1
theorem sg_lo {x i : Nat} (h : i < x) : sg x i = i := if_pos h
theorem sg_hi {x i : Nat} (h : x ≤ i) : sg x i = i + 1 := if_neg (by omega)
theorem sg_lt {x i k : Nat} (h : i < k - 1) : sg x i < k := by
  unfold sg
  split <;> omega
theorem sg_ne {x i : Nat} : sg x i ≠ x := by
  unfold sg
  split <;> omega
theorem sg_inj {x i j : Nat} (h : sg x i = sg x j) : i = j := by
  unfold sg at h
  split at h <;> split at h <;> omega
theorem sg_sur {x i k : Nat} (hi : i < k) (hne : i ≠ x) (hx : x < k) : ∃ j, j < k - 1 ∧ sg x j = i := by
  rcases Nat.lt_or_ge i x with h | h
  · exact ⟨i, by omega, sg_lo h⟩
  · exact ⟨i - 1, by omega, by rw [sg_hi (by omega)]; omega⟩
def Cw1 (m m1 : MS) (k x a j : Nat) : Prop := (∀ d, d ≠ 7 → m1.2.1 d = m.2.1 d) ∧ m1.2.2 = m.2.2 ∧ m1.1 = m.1 ∧ ∀ i z, i < 64 → z < 64 → m1.2.1 7 (64 * i + z) = if (i < a ∨ (i = a ∧ z < j)) ∧ x ≤ z ∧ z + 1 < k then m.2.1 7 (64 * i + z + 1) else m.2.1 7 (64 * i + z)
def Cw2 (m m1 : MS) (k x a j : Nat) : Prop := (∀ d, 1 ≤ d → d ≤ 6 → ∀ i, m1.2.1 d i = if x ≤ i ∧ i < a then m.2.1 d (i + 1) else m.2.1 d i) ∧ (∀ y, m1.2.1 8 y = if x ≤ y / 8 ∧ y / 8 < a then m.2.1 8 (y + 8) else m.2.1 8 y) ∧ (∀ y, en m1 y = if x ≤ y / 64 ∧ y / 64 < a then en m (y + 64) else en m y) ∧ (∀ d, 10 < d → m1.2.1 d = m.2.1 d) ∧ (∀ d, d ≠ 11 → d ≠ 12 → m1.2.2 d = m.2.2 d) ∧ m1.1 = m.1 ∧ ∀ i z, i < 64 → z < 64 → m1.2.1 7 (64 * i + z) = if (x ≤ i ∧ i < a ∧ z < k) ∨ (i = a ∧ z < j) then m.2.1 7 (64 * (i + 1) + z) else m.2.1 7 (64 * i + z)
def Cw3 (m m1 : MS) (k : Nat) : Prop := (∀ d, d ≠ 7 → m1.2.1 d = m.2.1 d) ∧ m1.2.2 = m.2.2 ∧ m1.1 = m.1 ∧ ∀ i z, i < k - 1 → z < k - 1 → m1.2.1 7 (64 * i + z) = m.2.1 7 (64 * i + z)
/-- place x is gone, those behind it have moved up -/
def DrR (m m' : MS) (k x : Nat) : Prop := (∀ d, 1 ≤ d → d ≤ 6 → ∀ i, i < k - 1 → m'.2.1 d i = m.2.1 d (sg x i)) ∧ (∀ i t, i < k - 1 → t < 8 → m'.2.1 8 (8 * i + t) = m.2.1 8 (8 * sg x i + t)) ∧ (∀ i z, i < k - 1 → z < 64 → en m' (64 * i + z) = en m (64 * sg x i + z)) ∧ (∀ i z, i < k - 1 → z < k - 1 → m'.2.1 7 (64 * i + z) = m.2.1 7 (64 * sg x i + sg x z)) ∧ (∀ d, 10 < d → m'.2.1 d = m.2.1 d) ∧ (∀ d, d ≠ 11 → d ≠ 12 → m'.2.2 d = m.2.2 d) ∧ (m'.1 0 = m.1 0 ∧ m'.1 1 = m.1 1 ∧ m'.1 2 = nI (k - 1))
theorem r_drop_f {m : MS} {k x : Nat} (hg : Gd m) (hk : k ≤ 64) (hn : m.1 2 = nI k) (hx : x < k) : OK (g_M_drop (nI x) m) (fun _ m' => DrR m m' k x) := by
  have g7 : ∀ i, m.2.1 7 i = 0 ∨ m.2.1 7 i = 1 := gd_z hg (by decide)
  have h136 : ∀ (m2 : MS), m2.1 2 = nI (k - 1) → ∀ (n j : Nat) (m1 : MS), j ≤ k → k - j < n → Cw3 m2 m1 k → OK (g_M_drop_b136 n (nI j) m1) (fun _ m' => Cw3 m2 m' k) := by
    intro m2 hm2 n
    induction n with
    | zero => intro j m1 _ h; omega
    | succ n ih =>
      intro j m1 hj hnn h
      obtain ⟨h1, h2, h3, h4⟩ := h
      have e2 : m1.1 2 = nI (k - 1) := by rw [h3]; exact hm2
      rw [g_M_drop_b136]
      refine ok_if (fun _ => ok_ret ⟨h1, h2, h3, h4⟩) (fun hlt => ?_)
      rw [e2, nI_ltI (by omega) (by omega)] at hlt
      refine ok_wZ (64 * (k - 1) + j) (by rw [e2]; exact ix64 _ _) (by show 64 * (k - 1) + j < 4096; omega) (Or.inl rfl) ?_
      refine ok_wZ (64 * j + (k - 1)) (by show (64 : Int32) * nI j + m1.1 2 = _; rw [e2]; exact ix64 _ _) (by show 64 * j + (k - 1) < 4096; omega) (Or.inl rfl) ?_
      rw [nI_1]
      refine ih (j + 1) _ (by omega) (by omega) ⟨fun d hd => ?_, h2, h3, fun i z hi hz => ?_⟩
      · rw [sI_ne hd, sI_ne hd]; exact h1 d hd
      · rw [sI_at, if_neg (by omega), sI_at, if_neg (by omega)]
        exact h4 i z hi hz
  have fin : ∀ m1 m2 m3 : MS, Cw1 m m1 k x k x → Cw2 m1 m2 k x (k - 1) 0 → Cw3 (wS m2 2 (m2.1 2 - 1)) m3 k → DrR m m3 k x := by
    rintro m1 m2 m3 ⟨a1, a2, a3, a4⟩ ⟨b1, b2, b3, b4, b5, b6, b7⟩ ⟨c1, c2, c3, c4⟩
    have en1 : ∀ y, en m1 y = en m y := fun y => by simp only [en]; rw [a1 9 (by decide), a1 10 (by decide), a2]
    refine ⟨fun d d1 d2 i hi => ?_, fun i t hi ht => ?_, fun i z hi hz => ?_, fun i z hi hz => ?_, fun d hd => ?_, fun d d1 d2 => ?_, ?_, ?_, ?_⟩
    · rw [c1 d (by omega)]
      show m2.2.1 d i = _
      rw [b1 d d1 d2, a1 d (by omega)]
      rcases Nat.lt_or_ge i x with h | h
      · rw [if_neg (by omega), sg_lo h]
      · rw [if_pos ⟨h, hi⟩, sg_hi h]
    · rw [c1 8 (by decide)]
      show m2.2.1 8 _ = _
      rw [b2, a1 8 (by decide)]
      rcases Nat.lt_or_ge i x with h | h
      · rw [if_neg (by omega), sg_lo h]
      · rw [if_pos (by omega), sg_hi h, show 8 * i + t + 8 = 8 * (i + 1) + t by omega]
    · have : en m3 (64 * i + z) = en m2 (64 * i + z) := by
        simp only [en]
        rw [c1 9 (by decide), c1 10 (by decide), c2]
        rfl
      rw [this, b3]
      rcases Nat.lt_or_ge i x with h | h
      · rw [if_neg (by omega), sg_lo h, en1]
      · rw [if_pos (by omega), sg_hi h, en1, show 64 * i + z + 64 = 64 * (i + 1) + z by omega]
    · rw [c4 i z hi hz]
      show m2.2.1 7 _ = _
      rw [b7 i z (by omega) (by omega)]
      rcases Nat.lt_or_ge i x with h | h
      · rw [if_neg (by omega), sg_lo h, a4 i z (by omega) (by omega)]
        rcases Nat.lt_or_ge z x with h2 | h2
        · rw [if_neg (by omega), sg_lo h2]
        · rw [if_pos (by omega), sg_hi h2, Nat.add_assoc]
      · rw [if_pos (by omega), sg_hi h, a4 (i + 1) z (by omega) (by omega)]
        rcases Nat.lt_or_ge z x with h2 | h2
        · rw [if_neg (by omega), sg_lo h2]
        · rw [if_pos (by omega), sg_hi h2, Nat.add_assoc]
    · rw [c1 d (by omega)]
      show m2.2.1 d = _
      rw [b4 d hd, a1 d (by omega)]
    · rw [c2]
      show m2.2.2 d = _
      rw [b5 d d1 d2, a2]
    · rw [c3]
      show m2.1 0 = _
      rw [b6, a3]
    · rw [c3]
      show m2.1 1 = _
      rw [b6, a3]
    · rw [c3]
      show m2.1 2 - 1 = _
      rw [b6, a3, hn, show (1 : Int32) = nI 1 from rfl, pk_sub (by omega)]
  have h60 : ∀ (m1 : MS), Cw1 m m1 k x k x → ∀ (n a : Nat) (m2 : MS), x ≤ a → a ≤ k - 1 → k - a < n → Cw2 m1 m2 k x a 0 → OK (g_M_drop_b60 n (nI a) m2) (fun _ m' => DrR m m' k x) := by
    intro m1 hc1 n
    have hk1 : m1.1 2 = nI k := by rw [hc1.2.2.1]; exact hn
    have z5 : ∀ i, m1.2.1 5 i = 0 ∨ m1.2.1 5 i = 1 := fun i => by rw [hc1.1 5 (by decide)]; exact gd_z hg (by decide) i
    have z7 : ∀ i z, i < 64 → z < 64 → m1.2.1 7 (64 * i + z) = 0 ∨ m1.2.1 7 (64 * i + z) = 1 := fun i z hi hz => by
      rw [hc1.2.2.2 i z hi hz]
      split
      · exact g7 _
      · exact g7 _
    induction n with
    | zero => intro a m2 _ _ h; omega
    | succ n ih =>
      intro a m2 hxa ha hnn hc2
      have e2 : m2.1 2 = nI k := by rw [hc2.2.2.2.2.2.1]; exact hk1
      rw [g_M_drop_b60, nI_1]
      refine ok_if (fun hle => ?_) (fun hlt => ?_)
      · rw [e2, nI_leI (by omega) (by omega)] at hle
        have ea : a = k - 1 := by omega
        subst ea
        refine ok_imp (h136 (wS m2 2 (m2.1 2 - 1)) ?_ 2000 0 _ (by omega) (by omega) ⟨fun _ _ => rfl, rfl, rfl, fun _ _ _ _ => rfl⟩) (fun _ m' h => fin m1 m2 m' hc1 hc2 h)
        show m2.1 2 - 1 = _
        rw [e2, show (1 : Int32) = nI 1 from rfl, pk_sub (by omega)]
      rw [e2, nI_leI (by omega) (by omega)] at hlt
      obtain ⟨b1, b2, b3, b4, b5, b6, b7⟩ := hc2
      have y5 : ∀ i, m2.2.1 5 i = 0 ∨ m2.2.1 5 i = 1 := fun i => by
        rw [b1 5 (by decide) (by decide) i]
        split
        · exact z5 _
        · exact z5 _
      refine ok_bnU (r_move y5 (a := a + 1) (b := a) (by omega) (by omega)) ?_
      rintro m3 ⟨d1, d2, d3, d4, d5, d6⟩
      -- the row of arrows
      have h80 : ∀ (f j : Nat) (m4 : MS), j ≤ k → k - j < f → ((∀ d, 1 ≤ d → d ≤ 6 → ∀ i, m4.2.1 d i = if x ≤ i ∧ i < a + 1 then m1.2.1 d (i + 1) else m1.2.1 d i) ∧ (∀ y, m4.2.1 8 y = if x ≤ y / 8 ∧ y / 8 < a + 1 then m1.2.1 8 (y + 8) else m1.2.1 8 y) ∧ (∀ y, en m4 y = if x ≤ y / 64 ∧ y / 64 < a + 1 then en m1 (y + 64) else en m1 y) ∧ (∀ d, 10 < d → m4.2.1 d = m1.2.1 d) ∧ (∀ d, d ≠ 11 → d ≠ 12 → m4.2.2 d = m1.2.2 d) ∧ m4.1 = m1.1 ∧ ∀ i z, i < 64 → z < 64 → m4.2.1 7 (64 * i + z) = if (x ≤ i ∧ i < a ∧ z < k) ∨ (i = a ∧ z < j) then m1.2.1 7 (64 * (i + 1) + z) else m1.2.1 7 (64 * i + z)) → OK (g_M_drop_b80 (g_M_drop_b60 n) f (nI a) (nI j) m4) (fun _ m' => DrR m m' k x) := by
        intro f
        induction f with
        | zero => intro j m4 _ h; omega
        | succ f ihf =>
          intro j m4 hj hf h4
          obtain ⟨f1, f2, f3, f4, f5, f6, f7⟩ := h4
          have e4 : m4.1 2 = nI k := by rw [f6]; exact hk1
          rw [g_M_drop_b80, nI_1]
          refine ok_if (fun hle => ?_) (fun hlt2 => ?_)
          · rw [e4, nI_leI (by omega) (by omega)] at hle
            refine ih (a + 1) m4 (by omega) (by omega) (by omega) ⟨f1, f2, f3, f4, f5, f6, fun i z hi hz => ?_⟩
            rw [f7 i z hi hz]
            by_cases e : (x ≤ i ∧ i < a ∧ z < k) ∨ (i = a ∧ z < j)
            · rw [if_pos e, if_pos (by omega)]
            · rw [if_neg e, if_neg (by omega)]
          rw [e4, nI_leI (by omega) (by omega)] at hlt2
          have ev : m4.2.1 7 (64 * (a + 1) + j) = m1.2.1 7 (64 * (a + 1) + j) := by rw [f7 (a + 1) j (by omega) (by omega), if_neg (by omega)]
          refine ok_rI (64 * (a + 1) + j) (ix64 _ _) (by show 64 * (a + 1) + j < 4096; omega) ?_
          rw [ev]
          refine ok_wZ (64 * a + j) (ix64 _ _) (by show 64 * a + j < 4096; omega) (z7 _ _ (by omega) (by omega)) ?_
          rw [nI_1]
          refine ihf (j + 1) _ (by omega) (by omega) ⟨fun d d1 d2 i => ?_, fun y => ?_, fun y => ?_, fun d hd => ?_, f5, f6, fun i z hi hz => ?_⟩
          · rw [sI_ne (by omega)]; exact f1 d d1 d2 i
          · rw [sI_ne (by omega)]; exact f2 y
          · rw [show ∀ z, en (sI m4 7 (64 * a + j) z) y = en m4 y from fun z => by simp [en, sI]]; exact f3 y
          · rw [sI_ne (by omega)]; exact f4 d hd
          · rw [sI_at]
            by_cases e : 64 * i + z = 64 * a + j
            · have e1 : i = a := by omega
              have e3 : z = j := by omega
              subst e1 e3
              rw [if_pos rfl, if_pos (by omega)]
            · rw [if_neg e, f7 i z hi hz]
              by_cases e3 : (x ≤ i ∧ i < a ∧ z < k) ∨ (i = a ∧ z < j)
              · rw [if_pos e3, if_pos (by omega)]
              · rw [if_neg e3, if_neg (by omega)]
      refine h80 2000 0 m3 (by omega) (by omega) ⟨fun d q1 q2 i => ?_, fun y => ?_, fun y => ?_, fun d hd => ?_, fun d q1 q2 => ?_, d6.trans b6, fun i z hi hz => ?_⟩
      · rw [d1 d q1 q2 i, b1 d q1 q2 (a + 1), b1 d q1 q2 i]
        by_cases e : i = a
        · subst e
          rw [if_pos rfl, if_neg (by omega), if_pos (by omega)]
        · rw [if_neg e]
          by_cases e3 : x ≤ i ∧ i < a
          · rw [if_pos e3, if_pos (by omega)]
          · rw [if_neg e3, if_neg (by omega)]
      · rw [d2 y, b2 (8 * (a + 1) + y % 8), b2 y]
        by_cases e : y / 8 = a
        · rw [if_pos ⟨e, by omega⟩, if_neg (by omega), if_pos (by omega), show 8 * (a + 1) + y % 8 = y + 8 by omega]
        · rw [if_neg (fun h => e h.1)]
          by_cases e3 : x ≤ y / 8 ∧ y / 8 < a
          · rw [if_pos e3, if_pos (by omega)]
          · rw [if_neg e3, if_neg (by omega)]
      · rw [d3 y, b3 (64 * (a + 1) + y % 64), b3 y]
        by_cases e : y / 64 = a
        · rw [if_pos ⟨e, by omega⟩, if_neg (by omega), if_pos (by omega), show 64 * (a + 1) + y % 64 = y + 64 by omega]
        · rw [if_neg (fun h => e h.1)]
          by_cases e3 : x ≤ y / 64 ∧ y / 64 < a
          · rw [if_pos e3, if_pos (by omega)]
          · rw [if_neg e3, if_neg (by omega)]
      · rw [d4 d (Or.inr hd)]; exact b4 d hd
      · rw [d5 d q1 q2]; exact b5 d q1 q2
      · rw [d4 7 (Or.inl rfl)]; exact b7 i z hi hz
  have h2 : ∀ (n a : Nat) (m1 : MS), a ≤ k → k - a < n → Cw1 m m1 k x a x → OK (g_M_drop_b2 n (nI x) (nI a) m1) (fun _ m' => DrR m m' k x) := by
    intro n
    induction n with
    | zero => intro a m1 _ h; omega
    | succ n ih =>
      intro a m1 ha hnn hc
      have hk1 : m1.1 2 = nI k := by rw [hc.2.2.1]; exact hn
      rw [g_M_drop_b2]
      refine ok_if (fun hle => ?_) (fun hlt => ?_)
      · rw [hk1, nI_leI (by omega) (by omega)] at hle
        have ea : a = k := by omega
        subst ea
        refine h60 m1 hc 2000 x m1 (by omega) (by omega) (by omega) ⟨fun d _ _ i => ?_, fun y => ?_, fun y => ?_, fun _ _ => rfl, fun _ _ _ => rfl, rfl, fun i z hi hz => ?_⟩
        · rw [if_neg (by omega)]
        · rw [if_neg (by omega)]
        · rw [if_neg (by omega)]
        · rw [if_neg (by omega)]
      rw [hk1, nI_leI (by omega) (by omega)] at hlt
      have h12 : ∀ (f j : Nat) (m2 : MS), x ≤ j → j ≤ k - 1 → k - j < f → Cw1 m m2 k x a j → OK (g_M_drop_b12 (g_M_drop_b2 n) f (nI x) (nI a) (nI j) m2) (fun _ m' => DrR m m' k x) := by
        intro f
        induction f with
        | zero => intro j m2 _ _ h; omega
        | succ f ihf =>
          intro j m2 hxj hj hf hc2
          obtain ⟨c1, c2, c3, c4⟩ := hc2
          have hk2 : m2.1 2 = nI k := by rw [c3]; exact hn
          rw [g_M_drop_b12, nI_1 j]
          refine ok_if (fun hle => ?_) (fun hlt2 => ?_)
          · rw [hk2, nI_leI (by omega) (by omega)] at hle
            rw [nI_1]
            refine ih (a + 1) m2 (by omega) (by omega) ⟨c1, c2, c3, fun i z hi hz => ?_⟩
            rw [c4 i z hi hz]
            by_cases e : (i < a ∨ (i = a ∧ z < j)) ∧ x ≤ z ∧ z + 1 < k
            · rw [if_pos e, if_pos (by omega)]
            · rw [if_neg e, if_neg (by omega)]
          rw [hk2, nI_leI (by omega) (by omega)] at hlt2
          have ev : m2.2.1 7 (64 * a + j + 1) = m.2.1 7 (64 * a + j + 1) := by
            rw [Nat.add_assoc, c4 a (j + 1) (by omega) (by omega), if_neg (by omega)]
          refine ok_rI (64 * a + j + 1) (by rw [ix64, nI_1]) (by show 64 * a + j + 1 < 4096; omega) ?_
          rw [ev]
          refine ok_wZ (64 * a + j) (ix64 _ _) (by show 64 * a + j < 4096; omega) (g7 _) ?_
          refine ihf (j + 1) _ (by omega) (by omega) (by omega) ⟨fun d hd => ?_, c2, c3, fun i z hi hz => ?_⟩
          · rw [sI_ne hd]; exact c1 d hd
          · rw [sI_at]
            by_cases e : 64 * i + z = 64 * a + j
            · have e1 : i = a := by omega
              have e3 : z = j := by omega
              subst e1 e3
              rw [if_pos rfl, if_pos (by omega)]
            · rw [if_neg e, c4 i z hi hz]
              by_cases e3 : (i < a ∨ (i = a ∧ z < j)) ∧ x ≤ z ∧ z + 1 < k
              · rw [if_pos e3, if_pos (by omega)]
              · rw [if_neg e3, if_neg (by omega)]
      exact h12 2000 x m1 (by omega) (by omega) (by omega) hc
  unfold g_M_drop
  refine h2 2000 0 m (by omega) (by omega) ⟨fun _ _ => rfl, rfl, rfl, fun i z hi hz => ?_⟩
  rw [if_neg (by omega)]
