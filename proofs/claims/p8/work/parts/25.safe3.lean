abbrev mi (b c k : Nat) {ρ : Type} : ρ → MS → Prop := fun _ m' => MI b c k m'
theorem s_read {b c k : Nat} {m : MS} (hm : MI b c k m) (x1 x2 x3 : Int32) (x4 x6 : Int64) (x8 : Int32) : OK (g_M_read x1 x2 x3 x4 x6 x8 m) (mi b c k) := by
  have hk := hm.k64
  have h186 : ∀ (p t : Nat), p < 64 → t < 8 → OK (g_M_read_b186 (nI t) (nI p) (nI (8 * (8 * p + t))) m) (mi b c k) := fun p t hp ht => by
    unfold g_M_read_b186
    refine ok_bnU (s_setRange hm (by omega) (okv_c (Or.inl (by decide))) 0 0 0) (fun m1 hm1 => ?_)
    exact ok_wI (8 * p + t) (ix8 p t) (by show 8 * p + t < 512; omega) (ok_ret (MI_sI hm1 (okv_r (y := 1) (by omega))))
  have h166 : ∀ (p t y : Nat) (x10 x13 : Int32), p < 64 → t < 8 → y ≤ 8 → okv 9 x3 → OK (g_M_read_b166 (nI t) x3 x4 x6 x8 (nI p) x10 (nI (8 * (8 * p + t))) (nI y) x13 m) (mi b c k) := fun p t y x10 x13 hp ht hy hx => by
    unfold g_M_read_b166
    refine ok_if (fun _ => ok_if (fun _ => ok_if (fun _ => h186 p t hp ht) (fun hne => ?_)) (fun _ => h186 p t hp ht)) (fun _ => ok_ret hm)
    have hy8 : y < 8 := by
      rcases Nat.lt_or_ge y 8 with h | h
      · exact h
      · exact absurd (by rw [show y = 8 by omega]; rfl) hne
    refine ok_bnU (s_setRange hm (j := 8 * (8 * p + t) + y) (by omega) hx x4 x6 x8 |> fun h => by rw [nI_add]; exact h) (fun m1 hm1 => ?_)
    refine ok_wI (8 * p + t) (ix8 p t) (by show 8 * p + t < 512; omega) (ok_ret (MI_sI hm1 ?_))
    rw [nI_1]
    exact okv_r (by omega)
  have h117 : ∀ (p t y : Nat), p < 64 → t < 8 → y ≤ 8 → okv 9 x3 → ∀ (n j : Nat) (x10 x13 : Int32), j ≤ y → y - j < n → OK (g_M_read_b117 n (nI t) x3 x4 x6 x8 (nI p) x10 (nI (8 * (8 * p + t))) (nI y) x13 (nI (8 * (8 * p + t) + j)) m) (mi b c k) := by
    intro p t y hp ht hy hx n
    induction n with
    | zero => intro j _ _ _ h; omega
    | succ n ih =>
      intro j x10 x13 hj hn
      rw [g_M_read_b117]
      refine ok_if (fun _ => h166 p t y x10 x13 hp ht hy hx) (fun hlt => ?_)
      rw [nI_add, nI_leI (by omega) (by omega)] at hlt
      refine ok_if (fun _ => ok_if (fun _ => ?_) (fun _ => ?_)) (fun _ => h166 p t y x10 x13 hp ht hy hx)
      · refine ok_bn (s_isSame (m := m) (j := 8 * (8 * p + t) + j) (by omega) x3 x4 x6 x8) ?_
        rintro r m1 ⟨rfl, hr⟩
        refine ok_if (fun _ => ?_) (fun _ => ?_)
        · rw [nI_1]
          exact ih (j + 1) _ _ (by omega) (by omega)
        · unfold g_M_read_b153
          rw [nI_1]
          exact ih (j + 1) _ _ (by omega) (by omega)
      · unfold g_M_read_b153
        rw [nI_1]
        exact ih (j + 1) _ _ (by omega) (by omega)
  have h64 : ∀ (p t : Nat) (x10 : Int32), p < 64 → t < 8 → okv 9 x3 → OK (g_M_read_b64 (nI t) x3 x4 x6 x8 (nI p) x10 m) (mi b c k) := fun p t x10 hp ht hx => by
    unfold g_M_read_b64 g_M_read_b110
    obtain ⟨y, hy, ey⟩ := gd_r hm.gd (8 * p + t)
    refine ok_rI (8 * p + t) (ix8 p t) (by show 8 * p + t < 512; omega) ?_
    rw [ey, ix8, ix8']
    exact ok_if (fun _ => h117 p t y hp ht hy hx 2000 0 x10 0 (by omega) (by omega)) (fun _ => ok_rI (8 * (8 * p + t)) rfl (by show 8 * (8 * p + t) < 4096; omega) (ok_if (fun _ => h117 p t y hp ht hy hx 2000 0 x10 1 (by omega) (by omega)) (fun _ => h117 p t y hp ht hy hx 2000 0 x10 0 (by omega) (by omega))))
  unfold g_M_read
  refine ok_bn (s_running hm x1) ?_
  rintro r m1 ⟨rfl, hr⟩
  have h17 : ∀ z, OK (g_M_read_b17 x2 x3 x4 x6 x8 r z m1) (mi b c k) := fun z => by
    unfold g_M_read_b17
    refine ok_if (fun _ => ok_ret hm) (fun h0 => ok_if (fun _ => ok_ret hm) (fun h1 => ok_if (fun _ => ok_ret hm) (fun h2 => ok_if (fun _ => ok_ret hm) (fun _ => ok_if (fun _ => ok_ret hm) (fun h3 => ?_)))))
    obtain rfl | ⟨p, hp, rfl⟩ := hr
    · exact absurd (by decide) h0
    · obtain ⟨t, ht, rfl⟩ := i32_le (n := 7) (M := 7) (by decide) h1 (Int32.not_lt.mp h2)
      have hx := okv_col h3
      exact ok_if (fun _ => ok_if (fun _ => ok_ret hm) (fun _ => ok_if (fun _ => h64 p t z (by omega) (by omega) hx) (fun _ => ok_ret hm))) (fun _ => h64 p t z (by omega) (by omega) hx)
  exact ok_if (fun _ => h17 _) (fun _ => h17 _)
theorem s_write {b c k : Nat} {m : MS} (hm : MI b c k m) (x1 x2 : Int32) : OK (g_M_write x1 x2 m) (mi b c k) := by
  have hk := hm.k64
  have key : ∀ (t p : Nat), t < 8 → p < 64 → ∀ (n j : Nat) (m : MS), j ≤ k → k - j < n → MI b c k m → OK (g_M_write_b25 n (nI t) (nI p) (nI j) m) (mi b c k) := by
    intro t p ht hp n
    induction n with
    | zero => intro j m _ h; omega
    | succ n ih =>
      intro j m hj hn hm
      rw [g_M_write_b25]
      refine ok_if (fun _ => ok_rI p rfl hp (ok_rZ (gd_z hm.gd (by decide) p) hm)) (fun hlt => ?_)
      rw [hm.2.2.1, nI_leI (by omega) (by omega)] at hlt
      have next : ∀ m, MI b c k m → OK (g_M_write_b25 n (nI t) (nI p) (nI j + 1) m) (mi b c k) := fun m hm => by
        rw [nI_1]
        exact ih (j + 1) m (by omega) (by omega) hm
      have n91 : ∀ m, MI b c k m → OK (g_M_write_b91 (g_M_write_b25 n) (nI t) (nI p) (nI j) (nI p) m) (mi b c k) := fun m hm => by
        unfold g_M_write_b91
        exact ok_wZ p rfl hp (Or.inr rfl) (next _ (MI_sI hm (okv_z (by decide) (Or.inr rfl))))
      refine ok_if (fun _ => next m hm) (fun _ => ?_)
      refine ok_bn (s_concurrent (m := m) (a := j) (p := p) (by omega) hp) ?_
      rintro r m1 ⟨rfl, -⟩
      refine ok_if (fun _ => next _ hm) (fun _ => ?_)
      refine ok_bn (s_hasRead hm.gd (p := j) (t := t) (by omega) ht) ?_
      rintro r m2 ⟨rfl, -⟩
      refine ok_if (fun _ => next _ hm) (fun _ => ?_)
      refine ok_bnU (s_point hm (a := j) (p := p) (by omega) hp) (fun m3 hm3 => ?_)
      refine ok_rI p rfl hp (ok_if (fun _ => ?_) (fun _ => n91 _ hm3))
      refine ok_bn (s_isDanger (m := m3) (a := j) (p := p) (by omega) hp) ?_
      rintro r m4 ⟨rfl, -⟩
      exact ok_if (fun _ => ok_wZ p rfl hp (Or.inl rfl) (next _ (MI_sI hm3 (okv_z (by decide) (Or.inl rfl))))) (fun _ => n91 _ hm3)
  unfold g_M_write
  refine ok_bn (s_running hm x1) ?_
  rintro r m1 ⟨rfl, hr⟩
  have z0 : OK (rZm 0 m1) (mi b c k) := ok_rZ (Or.inl rfl) hm
  refine ok_if (fun _ => z0) (fun h0 => ok_if (fun _ => z0) (fun h1 => ok_if (fun h2 => ?_) (fun _ => z0)))
  obtain rfl | ⟨p, hp, rfl⟩ := hr
  · exact absurd (by decide) h0
  · obtain ⟨t, ht, rfl⟩ := i32_le (n := 7) (M := 7) (by decide) h1 h2
    exact key t p (by omega) (by omega) 2000 0 _ (by omega) (by omega) hm
theorem s_miss {b c k : Nat} {m : MS} (hm : MI b c k m) (x1 x2 : Int32) : OK (g_M_miss x1 x2 m) (mi b c k) := by
  have hk := hm.k64
  have h167 : ∀ (p : Nat) (m : MS), p < 64 → MI b c k m → OK (g_M_miss_b167 (nI p) m) (mi b c k) := fun p m hp hm => by
    unfold g_M_miss_b167
    exact ok_rI p rfl hp (ok_rZ (gd_z hm.gd (by decide) p) hm)
  have key : ∀ (p q : Nat), p < 64 → q < 64 → ∀ (n j : Nat) (m : MS), j ≤ k → k - j < n → MI b c k m → OK (g_M_miss_b80 n (nI p) (nI q) (nI j) m) (mi b c k) := by
    intro p q hp hq n
    induction n with
    | zero => intro j m _ h; omega
    | succ n ih =>
      intro j m hj hn hm
      rw [g_M_miss_b80]
      refine ok_if (fun _ => h167 p m hp hm) (fun hlt => ?_)
      rw [hm.2.2.1, nI_leI (by omega) (by omega)] at hlt
      have next : ∀ m, MI b c k m → OK (g_M_miss_b80 n (nI p) (nI q) (nI j + 1) m) (mi b c k) := fun m hm => by
        rw [nI_1]
        exact ih (j + 1) m (by omega) (by omega) hm
      have n155 : OK (g_M_miss_b155 (g_M_miss_b80 n) (nI p) (nI q) (nI j) (nI p) m) (mi b c k) := by
        unfold g_M_miss_b155
        exact ok_wZ p rfl hp (Or.inr rfl) (next _ (MI_sI hm (okv_z (by decide) (Or.inr rfl))))
      have n159 : OK (g_M_miss_b159 (g_M_miss_b80 n) (nI p) (nI q) (nI j) (nI p) m) (mi b c k) := by
        unfold g_M_miss_b159
        exact ok_wZ p rfl hp (Or.inl rfl) (next _ (MI_sI hm (okv_z (by decide) (Or.inl rfl))))
      refine ok_rI q rfl hq (ok_if (fun _ => h167 p m hp hm) (fun _ => ok_rI p rfl hp (ok_if (fun _ => ?_) (fun _ => n155))))
      exact ok_rI (64 * j + p) (ix64 j p) (by show 64 * j + p < 4096; omega) (ok_if (fun _ => n159) (fun _ => ok_rI j rfl (by show j < 64; omega) (ok_if (fun _ => n155) (fun _ => ok_rI j rfl (by show j < 64; omega) (ok_rI q rfl hq (ok_if (fun _ => n159) (fun _ => n155)))))))
  unfold g_M_miss
  refine ok_bn (s_running hm x1) ?_
  rintro r m1 ⟨rfl, hr⟩
  refine ok_if (fun h0 => ?_) (fun _ => ok_rZ (Or.inl rfl) hm)
  obtain rfl | ⟨p, hp, rfl⟩ := hr
  · exact absurd h0 (by decide)
  refine ok_bn (s_find hm x2) ?_
  rintro r m2 ⟨rfl, hr⟩
  have hp6 : p < 64 := by omega
  refine ok_if (fun _ => h167 p _ hp6 hm) (fun h1 => ok_if (fun _ => h167 p _ hp6 hm) (fun _ => ?_))
  obtain rfl | ⟨q, hq, rfl⟩ := hr
  · exact absurd (by decide) h1
  have hq6 : q < 64 := by omega
  refine ok_bn (s_concurrent (m := m2) (a := p) (p := q) hp6 hq6) ?_
  rintro r m3 ⟨rfl, -⟩
  refine ok_if (fun _ => h167 p _ hp6 hm) (fun _ => ?_)
  refine ok_bnU (s_point hm (a := p) (p := q) hp6 hq6) (fun m4 hm4 => ?_)
  have h71 : OK (g_M_miss_b71 (nI p) (nI q) (nI p) m4) (mi b c k) := by
    unfold g_M_miss_b71
    exact ok_wZ p rfl hp6 (Or.inr rfl) (key p q hp6 hq6 2000 0 _ (by omega) (by omega) (MI_sI hm4 (okv_z (by decide) (Or.inr rfl))))
  refine ok_rI p rfl hp6 (ok_if (fun _ => ?_) (fun _ => h71))
  refine ok_bn (s_isDanger (m := m4) (a := p) (p := q) hp6 hq6) ?_
  rintro r m5 ⟨rfl, -⟩
  exact ok_if (fun _ => ok_wZ p rfl hp6 (Or.inl rfl) (key p q hp6 hq6 2000 0 _ (by omega) (by omega) (MI_sI hm4 (okv_z (by decide) (Or.inl rfl))))) (fun _ => h71)
theorem s_move {b c k : Nat} {m : MS} (hm : MI b c k m) {f t : Nat} (hf : f < 64) (ht : t < 64) : OK (g_M_move (nI f) (nI t) m) (mi b c k) := by
  have h110 : ∀ (n j : Nat) (m : MS), j ≤ 64 → 64 - j < n → MI b c k m → OK (g_M_move_b110 n (nI f) (nI t) (nI j) m) (mi b c k) := by
    intro n
    induction n with
    | zero => intro j m _ h; omega
    | succ n ih =>
      intro j m hj hn hm
      rw [g_M_move_b110]
      refine ok_if (fun _ => ok_ret hm) (fun hlt => ?_)
      rw [show (64 : Int32) = nI 64 from rfl, nI_leI (by omega) (by omega)] at hlt
      rw [ix64, ix64]
      have h1 : 64 * f + j < 4096 := by omega
      refine ok_rI _ rfl h1 (ok_rJ _ rfl h1 (ok_rJ _ rfl h1 (ok_rI _ rfl h1 ?_)))
      refine ok_bnU (s_setRange hm (j := 64 * t + j) (by omega) (okv_c (gd_c hm.gd _)) _ _ _) (fun m1 hm1 => ?_)
      rw [nI_1]
      exact ih (j + 1) m1 (by omega) (by omega) hm1
  have h74 : ∀ (n j : Nat) (m : MS), j ≤ 8 → 8 - j < n → MI b c k m → OK (g_M_move_b74 n (nI f) (nI t) (nI j) m) (mi b c k) := by
    intro n
    induction n with
    | zero => intro j m _ h; omega
    | succ n ih =>
      intro j m hj hn hm
      rw [g_M_move_b74]
      refine ok_if (fun _ => h110 2000 0 m (by omega) (by omega) hm) (fun hlt => ?_)
      rw [show (8 : Int32) = nI 8 from rfl, nI_leI (by omega) (by omega)] at hlt
      refine ok_rI (8 * f + j) (ix8 f j) (by show 8 * f + j < 512; omega) (ok_wI (8 * t + j) (ix8 t j) (by show 8 * t + j < 512; omega) ?_)
      rw [nI_1]
      exact ih (j + 1) _ (by omega) (by omega) (MI_sI hm (hm.gd 8 _))
  unfold g_M_move
  have st : ∀ {m : MS} (d : Nat), MI b c k m → MI b c k (sI m d t (m.2.1 d f)) := fun d hm => MI_sI hm (hm.gd d f)
  refine ok_rI f rfl hf (ok_wI t rfl ht ?_)
  have m1 := st 1 hm
  refine ok_rI f rfl hf (ok_wI t rfl ht ?_)
  have m2 := st 2 m1
  refine ok_rI f rfl hf (ok_wI t rfl ht ?_)
  have m3 := st 3 m2
  refine ok_rI f rfl hf (ok_wI t rfl ht ?_)
  have m4 := st 4 m3
  refine ok_rI f rfl hf (ok_wZ t rfl ht (gd_z m4.gd (by decide) f) ?_)
  have m5 := st 5 m4
  refine ok_rI f rfl hf (ok_wI t rfl ht ?_)
  exact h74 2000 0 _ (by omega) (by omega) (st 6 m5)
theorem s_drop {b c k : Nat} {m : MS} (hm : MI b c k m) {q : Nat} (hq : q < k) : OK (g_M_drop (nI q) m) (mi b c (k - 1)) := by
  have hk := hm.k64
  have h136 : ∀ (n j : Nat) (m : MS), j ≤ k → k - j < n → MI b c (k - 1) m → OK (g_M_drop_b136 n (nI j) m) (mi b c (k - 1)) := by
    intro n
    induction n with
    | zero => intro j m _ h; omega
    | succ n ih =>
      intro j m hj hn hm
      rw [g_M_drop_b136]
      refine ok_if (fun _ => ok_ret hm) (fun hlt => ?_)
      rw [hm.2.2.1, nI_ltI (by omega) (by omega)] at hlt
      refine ok_wZ (64 * (k - 1) + j) (by rw [hm.2.2.1]; exact ix64 _ _) (by show 64 * (k - 1) + j < 4096; omega) (Or.inl rfl) ?_
      refine ok_wZ (64 * j + (k - 1)) (by show (64 : Int32) * nI j + m.1 2 = _; rw [hm.2.2.1]; exact ix64 _ _) (by show 64 * j + (k - 1) < 4096; omega) (Or.inl rfl) ?_
      rw [nI_1]
      exact ih (j + 1) _ (by omega) (by omega) (MI_sI (MI_sI hm (okv_z (by decide) (Or.inl rfl))) (okv_z (by decide) (Or.inl rfl)))
  have h80 : ∀ (G : Int32 → MS → Option (Unit × MS)) (p : Nat), p + 1 < k → (∀ m, MI b c k m → OK (G (nI (p + 1)) m) (mi b c (k - 1))) → ∀ (n j : Nat) (m : MS), j ≤ k → k - j < n → MI b c k m → OK (g_M_drop_b80 G n (nI p) (nI j) m) (mi b c (k - 1)) := by
    intro G p hp hG n
    induction n with
    | zero => intro j m _ h; omega
    | succ n ih =>
      intro j m hj hn hm
      rw [g_M_drop_b80]
      refine ok_if (fun _ => by rw [nI_1]; exact hG m hm) (fun hlt => ?_)
      rw [hm.2.2.1, nI_leI (by omega) (by omega)] at hlt
      refine ok_rI (64 * (p + 1) + j) (by rw [nI_1]; exact ix64 _ _) (by show 64 * (p + 1) + j < 4096; omega) (ok_wZ (64 * p + j) (ix64 _ _) (by show 64 * p + j < 4096; omega) (gd_z hm.gd (by decide) _) ?_)
      rw [nI_1]
      exact ih (j + 1) _ (by omega) (by omega) (MI_sI hm (hm.gd 7 _))
  have h60 : ∀ (n j : Nat) (m : MS), j < k → k - j < n → MI b c k m → OK (g_M_drop_b60 n (nI j) m) (mi b c (k - 1)) := by
    intro n
    induction n with
    | zero => intro j m _ h; omega
    | succ n ih =>
      intro j m hj hn hm
      rw [g_M_drop_b60]
      refine ok_if (fun _ => ?_) (fun hlt => ?_)
      · refine h136 2000 0 _ (by omega) (by omega) ⟨hm.1, hm.2.1, ?_, hm.2.2.2.1, hm.2.2.2.2.1, by omega, hm.gd⟩
        show m.1 2 - 1 = nI (k - 1)
        rw [hm.2.2.1, show (1 : Int32) = nI 1 from rfl, pk_sub (by omega)]
      · rw [hm.2.2.1, nI_1, nI_leI (by omega) (by omega)] at hlt
        refine ok_bnU (s_move hm (f := j + 1) (t := j) (by omega) (by omega) |> fun h => by rw [nI_1]; exact h) (fun m1 hm1 => ?_)
        exact h80 (g_M_drop_b60 n) j (by omega) (fun m hm => ih (j + 1) m (by omega) (by omega) hm) 2000 0 m1 (by omega) (by omega) hm1
  have h12 : ∀ (G : Int32 → Int32 → MS → Option (Unit × MS)) (a : Nat), a < k → (∀ m, MI b c k m → OK (G (nI q) (nI (a + 1)) m) (mi b c (k - 1))) → ∀ (n j : Nat) (m : MS), j < k → k - j < n → MI b c k m → OK (g_M_drop_b12 G n (nI q) (nI a) (nI j) m) (mi b c (k - 1)) := by
    intro G a ha hG n
    induction n with
    | zero => intro j m _ h; omega
    | succ n ih =>
      intro j m hj hn hm
      rw [g_M_drop_b12]
      refine ok_if (fun _ => by rw [nI_1]; exact hG m hm) (fun hlt => ?_)
      rw [hm.2.2.1, nI_1, nI_leI (by omega) (by omega)] at hlt
      refine ok_rI (64 * a + j + 1) (by rw [ix64, nI_1]) (by show 64 * a + j + 1 < 4096; omega) (ok_wZ (64 * a + j) (ix64 _ _) (by show 64 * a + j < 4096; omega) (gd_z hm.gd (by decide) _) ?_)
      rw [nI_1]
      exact ih (j + 1) _ (by omega) (by omega) (MI_sI hm (hm.gd 7 _))
  have h2 : ∀ (n j : Nat) (m : MS), j ≤ k → k - j < n → MI b c k m → OK (g_M_drop_b2 n (nI q) (nI j) m) (mi b c (k - 1)) := by
    intro n
    induction n with
    | zero => intro j m _ h; omega
    | succ n ih =>
      intro j m hj hn hm
      rw [g_M_drop_b2]
      refine ok_if (fun _ => h60 2000 q m hq (by omega) hm) (fun hlt => ?_)
      rw [hm.2.2.1, nI_leI (by omega) (by omega)] at hlt
      exact h12 (g_M_drop_b2 n) j (by omega) (fun m hm => ih (j + 1) m (by omega) (by omega) hm) 2000 q m hq (by omega) hm
  exact h2 2000 0 m (by omega) (by omega) hm
