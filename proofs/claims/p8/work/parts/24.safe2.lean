abbrev rb (m : MS) : Int32 → MS → Prop := fun r m' => m' = m ∧ (r = 0 ∨ r = 1)
theorem MI.k64 {b c k : Nat} {m : MS} (h : MI b c k m) : k ≤ 64 := h.2.2.2.2.2.1
theorem MI.gd {b c k : Nat} {m : MS} (h : MI b c k m) : Gd m := h.2.2.2.2.2.2
theorem i32_le {x : Int32} {n : Nat} {M : Int32} (hM : M.toInt = n) (h0 : ¬ x < 0) (h1 : x ≤ M) : ∃ j, j ≤ n ∧ x = nI j := nI_of2 hM h0 h1
theorem okv_col {x : Int32} (h1 : ¬ 7 < x) : okv 9 x := by
  refine okv_c ?_
  by_cases h0 : x < 0
  · exact Or.inl h0
  · obtain ⟨j, hj, e⟩ := i32_le (n := 7) (M := 7) (by decide) h0 (Int32.not_lt.mp h1)
    exact Or.inr ⟨j, by omega, e⟩
theorem s_setRange {b c k : Nat} {m : MS} (hm : MI b c k m) {j : Nat} (hj : j < 4096) {x2 : Int32} (hx : okv 9 x2) (x3 x5 : Int64) (x7 : Int32) : OK (g_M_setRange (nI j) x2 x3 x5 x7 m) (fun _ m' => MI b c k m') := by
  unfold g_M_setRange
  refine ok_wI j rfl hj (ok_wJ j rfl hj (ok_wJ j rfl hj (ok_wI j rfl hj (ok_ret ?_))))
  exact MI_sI (MI_sJ (MI_sJ (MI_sI hm hx))) (okv_any (by decide) (by decide) (by decide) (by decide) (by decide) (by decide) (by decide) (by decide))
theorem s_isSame {m : MS} {j : Nat} (hj : j < 4096) (x2 : Int32) (x3 x5 : Int64) (x7 : Int32) : OK (g_M_isSame (nI j) x2 x3 x5 x7 m) (rb m) := by
  have h51 : OK (g_M_isSame_b51 (nI j) x5 x7 m) (rb m) := by
    unfold g_M_isSame_b51
    exact ok_if (fun _ => ok_rJ j rfl hj (ok_if (fun _ => ok_rZ (Or.inr rfl) ⟨rfl, Or.inr rfl⟩) (fun _ => ok_rZ (Or.inl rfl) ⟨rfl, Or.inl rfl⟩))) (fun _ => ok_rZ (Or.inr rfl) ⟨rfl, Or.inr rfl⟩)
  have h26 : ∀ z, OK (g_M_isSame_b26 (nI j) x3 x5 x7 z m) (rb m) := fun z => by
    unfold g_M_isSame_b26
    exact ok_if (fun _ => ok_rZ (Or.inl rfl) ⟨rfl, Or.inl rfl⟩) (fun _ => ok_if (fun _ => ok_rJ j rfl hj (ok_if (fun _ => h51) (fun _ => ok_rZ (Or.inl rfl) ⟨rfl, Or.inl rfl⟩))) (fun _ => h51))
  unfold g_M_isSame g_M_isSame_b25
  exact ok_rI j rfl hj (ok_if (fun _ => ok_rI j rfl hj (ok_if (fun _ => h26 _) (fun _ => h26 _))) (fun _ => h26 _))
theorem s_begin {b c k : Nat} {m : MS} (hm : MI b c k m) (hb : b < 512) (s : Int32) : OK (g_M_begin s m) (fun _ m' => ∃ b' k', b' ≤ b + 1 ∧ MI b' c k' m') := by
  have h164 : ∀ (n j : Nat) (m : MS), j ≤ 8 → 8 - j < n → k < 64 → MI (b + 1) c k m → OK (g_M_begin_b164 n (nI j) m) (fun _ m' => MI (b + 1) c (k + 1) m') := by
    intro n
    induction n with
    | zero => intro j m _ h; omega
    | succ n ih =>
      intro j m hj hn hk hm
      rw [g_M_begin_b164]
      refine ok_if (fun _ => ok_ret ?_) (fun hlt => ?_)
      · refine ⟨hm.1, hm.2.1, ?_, hm.2.2.2.1, hm.2.2.2.2.1, by omega, hm.gd⟩
        show m.1 2 + 1 = nI (k + 1)
        rw [hm.2.2.1, nI_1]
      · rw [show (8 : Int32) = nI 8 from rfl, nI_leI (by omega) (by omega)] at hlt
        refine ok_wI (8 * k + j) (by rw [hm.2.2.1]; exact ix8 k j) (by show 8 * k + j < 512; omega) ?_
        rw [nI_1]
        exact ih (j + 1) _ (by omega) (by omega) hk (MI_sI hm (okv_r (y := 0) (by omega)))
  have h120 : ∀ (n j : Nat) (m : MS), j ≤ 64 → 64 - j < n → k < 64 → MI (b + 1) c k m → OK (g_M_begin_b120 n (nI j) m) (fun _ m' => MI (b + 1) c (k + 1) m') := by
    intro n
    induction n with
    | zero => intro j m _ h; omega
    | succ n ih =>
      intro j m hj hn hk hm
      rw [g_M_begin_b120]
      refine ok_if (fun _ => h164 2000 0 m (by omega) (by omega) hk hm) (fun hlt => ?_)
      rw [show (64 : Int32) = nI 64 from rfl, nI_leI (by omega) (by omega)] at hlt
      refine ok_wZ (64 * k + j) (by rw [hm.2.2.1]; exact ix64 k j) (by show 64 * k + j < 4096; omega) (Or.inl rfl) ?_
      refine ok_wZ (64 * j + k) (by show (64 : Int32) * nI j + m.1 2 = _; rw [hm.2.2.1]; exact ix64 j k) (by show 64 * j + k < 4096; omega) (Or.inl rfl) ?_
      rw [nI_1]
      exact ih (j + 1) _ (by omega) (by omega) hk (MI_sI (MI_sI hm (okv_z (by decide) (Or.inl rfl))) (okv_z (by decide) (Or.inl rfl)))
  unfold g_M_begin
  have hk := hm.k64
  refine ok_if (fun _ => ok_ret ⟨b, k, by omega, hm⟩) (fun _ => ok_if (fun _ => ok_ret ⟨b, k, by omega, hm⟩) (fun _ => ?_))
  refine ok_bn (s_running hm s) ?_
  rintro r m1 ⟨rfl, -⟩
  refine ok_if (fun _ => ok_ret ⟨b, k, by omega, hm⟩) (fun _ => ok_if (fun _ => ok_ret ⟨b, k, by omega, hm⟩) (fun hne => ?_))
  have hk2 : k < 64 := by
    rcases Nat.lt_or_ge k 64 with h | h
    · exact h
    · exact absurd (by rw [hm.2.2.1, show k = 64 by omega]; rfl) hne
  have hb1 : m1.1 0 + 1 = nI (b + 1) := by rw [hm.1, nI_1]
  have hm2 : MI (b + 1) c k (wS m1 0 (m1.1 0 + 1)) := ⟨hb1, hm.2.1, hm.2.2.1, by omega, hm.2.2.2.2.1, hm.2.2.2.2.2.1, hm.gd⟩
  generalize wS m1 0 (m1.1 0 + 1) = m2 at hm2 ⊢
  have an : ∀ {d : Nat} {x : Int32}, d = 2 ∨ d = 3 ∨ d = 13 ∨ d = 4 ∨ d = 6 → okv d x := fun h => okv_any (by omega) (by omega) (by omega) (by omega) (by omega) (by omega) (by omega) (by omega)
  refine ok_wI k hm2.2.2.1 (by show k < 64; omega) ?_
  have hm3 := MI_sI (d := 1) (i := k) hm2 (x := m2.1 0) (by rw [hm2.1]; exact okv_id (Or.inl rfl) (by omega))
  generalize sI m2 1 k (m2.1 0) = m3 at hm3 ⊢
  refine ok_wI k hm3.2.2.1 (by show k < 64; omega) ?_
  have hm4 := MI_sI (d := 2) (i := k) hm3 (x := s) (an (by decide))
  generalize sI m3 2 k s = m4 at hm4 ⊢
  refine ok_wI k hm4.2.2.1 (by show k < 64; omega) ?_
  have hm5 := MI_sI (d := 3) (i := k) hm4 (x := m4.1 1) (an (by decide))
  generalize sI m4 3 k (m4.1 1) = m5 at hm5 ⊢
  refine ok_wI (b + 1) hm5.1 (by show b + 1 < 520; omega) ?_
  have hm6 := MI_sI (d := 13) (i := b + 1) hm5 (x := m5.1 1) (an (by decide))
  generalize sI m5 13 (b + 1) (m5.1 1) = m6 at hm6 ⊢
  refine ok_wI k hm6.2.2.1 (by show k < 64; omega) ?_
  have hm7 := MI_sI (d := 4) (i := k) hm6 (x := 0) (an (by decide))
  generalize sI m6 4 k 0 = m7 at hm7 ⊢
  refine ok_wZ k hm7.2.2.1 (by show k < 64; omega) (Or.inl rfl) ?_
  have hm8 := MI_sI (d := 5) (i := k) hm7 (x := 0) (okv_z (by decide) (Or.inl rfl))
  generalize sI m7 5 k 0 = m8 at hm8 ⊢
  refine ok_wI k hm8.2.2.1 (by show k < 64; omega) ?_
  have hm9 := MI_sI (d := 6) (i := k) hm8 (x := 0) (an (by decide))
  exact ok_imp (h120 2000 0 _ (by omega) (by omega) hk2 hm9) (fun _ m' h => ⟨b + 1, k + 1, by omega, h⟩)
theorem s_cell {b c k : Nat} {m : MS} (hm : MI b c k m) (x1 : Int32) (x2 : Int64) : OK (g_M_cell x1 x2 m) (fun r m' => MI b c k m' ∧ r = if x1 < 0 ∨ 7 < x1 then 0 else 1) := by
  unfold g_M_cell
  refine ok_if (fun h => ok_rZ (Or.inl rfl) ⟨hm, by rw [if_pos (Or.inl h)]⟩) (fun h0 => ok_if (fun h7 => ?_) (fun h7 => ok_rZ (Or.inl rfl) ⟨hm, by rw [if_pos (Or.inr (Int32.not_le.mp h7))]⟩))
  obtain ⟨j, hj, rfl⟩ := i32_le (n := 7) (M := 7) (by decide) h0 h7
  refine ok_wZ j rfl (by show j < 8; omega) (Or.inr rfl) (ok_wJ j rfl (by show j < 8; omega) (ok_rZ (Or.inr rfl) ⟨MI_sJ (MI_sI hm (okv_z (by decide) (Or.inr rfl))), ?_⟩))
  rw [if_neg]
  rintro (h | h)
  · exact h0 h
  · exact absurd h7 (Int32.not_le.mpr h)
theorem s_clear {b c k : Nat} {m : MS} (hm : MI b c k m) : OK (g_M_clear m) (fun _ m' => MI b c k m') := by
  have key : ∀ (n j : Nat) (m : MS), j ≤ 8 → 8 - j < n → MI b c k m → OK (g_M_clear_b2 n (nI j) m) (fun _ m' => MI b c k m') := by
    intro n
    induction n with
    | zero => intro j m _ h; omega
    | succ n ih =>
      intro j m hj hn hm
      rw [g_M_clear_b2]
      refine ok_if (fun _ => ok_ret hm) (fun hlt => ?_)
      rw [show (8 : Int32) = nI 8 from rfl, nI_leI (by omega) (by omega)] at hlt
      refine ok_wZ j rfl (by show j < 8; omega) (Or.inl rfl) ?_
      rw [nI_1]
      exact ih (j + 1) _ (by omega) (by omega) (MI_sI hm (okv_z (by decide) (Or.inl rfl)))
  exact key 2000 0 m (by omega) (by omega) hm
theorem s_isIn {m : MS} (hg : Gd m) {j : Nat} (hj : j < 4096) : OK (g_M_isIn (nI j) m) (rb m) := by
  have z0 : OK (rZm 0 m) (rb m) := ok_rZ (Or.inl rfl) ⟨rfl, Or.inl rfl⟩
  have z1 : OK (rZm 1 m) (rb m) := ok_rZ (Or.inr rfl) ⟨rfl, Or.inr rfl⟩
  have h20 : ∀ x, OK (g_M_isIn_b20 x m) (rb m) := fun x => by
    unfold g_M_isIn_b20
    exact ok_if (fun _ => z0) (fun _ => z1)
  have h89 : ∀ x3 x5 z, OK (g_M_isIn_b89 (nI j) x3 x5 z m) (rb m) := fun x3 x5 z => by
    unfold g_M_isIn_b89
    exact ok_if (fun _ => z0) (fun _ => ok_if (fun _ => ok_if (fun _ => ok_rJ j rfl hj (ok_if (fun _ => z0) (fun _ => z1))) (fun _ => ok_rJ j rfl hj (ok_if (fun _ => z0) (fun _ => z1)))) (fun _ => z1))
  unfold g_M_isIn g_M_isIn_b84 g_M_isIn_b88
  refine ok_rI j rfl hj (ok_if (fun _ => h20 _) (fun hc => ?_))
  obtain h | ⟨y, hy, e⟩ := gd_c hg j
  · exact absurd h hc
  · rw [e]
    exact ok_rI y rfl (by show y < 8; omega) (ok_if (fun _ => h20 _) (fun _ => ok_rJ y rfl (by show y < 8; omega) (ok_rI j rfl hj (ok_if (fun _ => ok_if (fun _ => ok_rJ j rfl hj (ok_if (fun _ => h89 _ _ _) (fun _ => h89 _ _ _))) (fun _ => ok_rJ j rfl hj (ok_if (fun _ => h89 _ _ _) (fun _ => h89 _ _ _)))) (fun _ => h89 _ _ _)))))
theorem s_hasRead {m : MS} (hg : Gd m) {p t : Nat} (hp : p < 64) (ht : t < 8) : OK (g_M_hasRead (nI p) (nI t) m) (rb m) := by
  obtain ⟨y, hy, ey⟩ := gd_r hg (8 * p + t)
  have key : ∀ (n j : Nat) (x3 : Int32), j ≤ y → y - j < n → (x3 = 0 ∨ x3 = 1) → OK (g_M_hasRead_b5 n (nI p) (nI t) x3 (nI j) m) (rb m) := by
    intro n
    induction n with
    | zero => intro j x3 _ h; omega
    | succ n ih =>
      intro j x3 hj hn hx
      rw [g_M_hasRead_b5]
      refine ok_rI (8 * p + t) (ix8 p t) (by show 8 * p + t < 512; omega) ?_
      rw [ey]
      refine ok_if (fun _ => ok_rZ hx ⟨rfl, hx⟩) (fun hlt => ?_)
      rw [nI_leI (by omega) (by omega)] at hlt
      refine ok_if (fun _ => ?_) (fun _ => ?_)
      · refine ok_bn (s_isIn hg (j := 8 * (8 * p + t) + j) (by omega) |> fun h => by rw [ix8, ix8]; exact h) ?_
        rintro r m1 ⟨rfl, hr⟩
        refine ok_if (fun _ => ?_) (fun _ => ?_)
        · rw [nI_1]
          exact ih (j + 1) 0 (by omega) (by omega) (Or.inl rfl)
        · unfold g_M_hasRead_b44
          rw [nI_1]
          exact ih (j + 1) 1 (by omega) (by omega) (Or.inr rfl)
      · unfold g_M_hasRead_b44
        rw [nI_1]
        exact ih (j + 1) 1 (by omega) (by omega) (Or.inr rfl)
  exact key 2000 0 0 (by omega) (by omega) (Or.inl rfl)
theorem s_point {b c k : Nat} {m : MS} (hm : MI b c k m) {a p : Nat} (ha : a < 64) (hp : p < 64) : OK (g_M_point (nI a) (nI p) m) (fun _ m' => MI b c k m') := by
  have an : ∀ {x : Int32}, okv 6 x := okv_any (by decide) (by decide) (by decide) (by decide) (by decide) (by decide) (by decide) (by decide)
  have h110 : ∀ (m : MS), MI b c k m → OK (g_M_point_b110 (nI p) (nI a) m) (fun _ m' => MI b c k m') := fun m hm => by
    unfold g_M_point_b110
    exact ok_rI p rfl hp (ok_wI a rfl ha (ok_ret (MI_sI hm an)))
  have h119 : ∀ (m : MS), MI b c k m → OK (g_M_point_b119 (nI a) (nI a) m) (fun _ m' => MI b c k m') := fun m hm => by
    unfold g_M_point_b119
    exact ok_rI a rfl ha (ok_wI a rfl ha (ok_ret (MI_sI hm an)))
  unfold g_M_point
  refine ok_wZ (64 * a + p) (ix64 a p) (by show 64 * a + p < 4096; omega) (Or.inr rfl) ?_
  have hm1 := MI_sI (d := 7) (i := 64 * a + p) hm (x := 1) (okv_z (by decide) (Or.inr rfl))
  generalize sI m 7 (64 * a + p) 1 = m1 at hm1 ⊢
  obtain ⟨y, hy, ey⟩ := gd_id hm1.gd (Or.inl rfl) a
  obtain ⟨z, hz, ez⟩ := gd_id hm1.gd (Or.inl rfl) p
  refine ok_rI a rfl ha (ok_rI p rfl hp (ok_rI a rfl ha (ok_rI p rfl hp ?_)))
  rw [ey, ez]
  have e1 : (9 : Int32) * nI y + nI z / (64 : Int32) = nI (9 * y + z / 64) := by
    rw [show (9 : Int32) = nI 9 from rfl, show (64 : Int32) = nI 64 from rfl, pk_mul, pk_div (by omega) (by omega) (by omega), nI_add]
  refine ok_rJ (9 * y + z / 64) e1 (by show 9 * y + z / 64 < 4680; omega) (ok_rI p rfl hp (ok_wJ (9 * y + z / 64) e1 (by show 9 * y + z / 64 < 4680; omega) ?_))
  have hm2 := MI_sJ (d := 15) (i := 9 * y + z / 64) (x := m1.2.2 15 (9 * y + z / 64) ||| (1 : Int64) <<< (Int32.toInt64 (m1.2.1 1 p - m1.2.1 1 p / (64 : Int32) * (64 : Int32)) &&& 63)) hm1
  refine ok_rI p rfl hp (ok_if (fun _ => h119 _ hm2) (fun _ => ok_rI a rfl ha (ok_if (fun _ => h110 _ hm2) (fun _ => ok_rI p rfl hp (ok_rI a rfl ha (ok_if (fun _ => h119 _ hm2) (fun _ => h110 _ hm2)))))))
