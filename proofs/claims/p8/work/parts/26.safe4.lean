theorem s_forget {b c k : Nat} {m : MS} (hm : MI b c k m) : OK (g_M_forget m) (fun _ m' => ∃ k', k' ≤ k ∧ MI b c k' m') := by
  have h28 : ∀ (G : Int32 → MS → Option (Unit × MS)) (p k1 : Nat), p < k1 → k1 ≤ k → (∀ (k2 : Nat) (m : MS), k2 ≤ k1 → p ≤ k2 → MI b c k2 m → OK (G (nI p + (-1)) m) (fun _ m' => ∃ k', k' ≤ k ∧ MI b c k' m')) → ∀ (n j : Nat) (x2 : Int32) (m : MS), j ≤ k1 → k1 - j < n → MI b c k1 m → OK (g_M_forget_b28 G n (nI p) x2 (nI j) m) (fun _ m' => ∃ k', k' ≤ k ∧ MI b c k' m') := by
    intro G p k1 hp hk1 hG n
    induction n with
    | zero => intro j x2 m _ h; omega
    | succ n ih =>
      intro j x2 m hj hn hm
      have hk := hm.k64
      rw [g_M_forget_b28]
      refine ok_if (fun _ => ok_if (fun _ => ?_) (fun _ => hG k1 m (by omega) (by omega) hm)) (fun hlt => ?_)
      · refine ok_bnU (s_drop hm hp) (fun m1 hm1 => ?_)
        exact hG (k1 - 1) m1 (by omega) (by omega) hm1
      · rw [hm.2.2.1, nI_leI (by omega) (by omega)] at hlt
        have n64 : OK (g_M_forget_b64 (g_M_forget_b28 G n) (nI p) (nI j) m) (fun _ m' => ∃ k', k' ≤ k ∧ MI b c k' m') := by
          unfold g_M_forget_b64
          rw [nI_1]
          exact ih (j + 1) 1 m (by omega) (by omega) hm
        have n68 : OK (g_M_forget_b68 (g_M_forget_b28 G n) (nI p) (nI j) m) (fun _ m' => ∃ k', k' ≤ k ∧ MI b c k' m') := by
          unfold g_M_forget_b68
          rw [nI_1]
          exact ih (j + 1) 0 m (by omega) (by omega) hm
        exact ok_if (fun _ => ok_rI j rfl (by show j < 64; omega) (ok_if (fun _ => ok_rI j rfl (by show j < 64; omega) (ok_rI p rfl (by show p < 64; omega) (ok_if (fun _ => n68) (fun _ => n64)))) (fun _ => n68))) (fun _ => n64)
  have h7 : ∀ (n j k1 : Nat) (m : MS), j ≤ k1 → k1 ≤ k → j < n → MI b c k1 m → OK (g_M_forget_b7 n (nI j + (-1)) m) (fun _ m' => ∃ k', k' ≤ k ∧ MI b c k' m') := by
    intro n
    induction n with
    | zero => intro j k1 m _ _ h; omega
    | succ n ih =>
      intro j k1 m hj hk1 hn hm
      have hk := hm.k64
      rw [g_M_forget_b7]
      refine ok_if (fun _ => ok_ret ⟨k1, hk1, hm⟩) (fun hlt => ?_)
      cases j with
      | zero => exact absurd (by decide) hlt
      | succ p =>
        rw [pk_m1]
        have go : ∀ x2, OK (g_M_forget_b28 (g_M_forget_b7 n) 2000 (nI p) x2 0 m) (fun _ m' => ∃ k', k' ≤ k ∧ MI b c k' m') := fun x2 =>
          h28 (g_M_forget_b7 n) p k1 (by omega) hk1 (fun k2 m hk2 hp hm => ih p k2 m hp (by omega) (by omega) hm) 2000 0 x2 m (by omega) (by omega) hm
        exact ok_rI p rfl (by show p < 64; omega) (ok_if (fun _ => go 1) (fun _ => go 0))
  have hk := hm.k64
  unfold g_M_forget
  rw [hm.2.2.1, Int32.sub_eq_add_neg]
  exact h7 2000 k k m (by omega) (by omega) (by omega) hm
theorem s_commit {b c k : Nat} {m : MS} (hm : MI b c k m) (hc : c < 512) (x1 : Int32) : OK (g_M_commit x1 m) (fun _ m' => ∃ c' k', c' ≤ c + 1 ∧ MI b c' k' m') := by
  have hk := hm.k64
  have h104 : ∀ (G : Int32 → Int32 → MS → Option (Int32 × MS)) (p q : Nat), p < 64 → q < k → (∀ m, MI b (c + 1) k m → OK (G (nI p) (nI (q + 1)) m) (fun _ m' => ∃ c' k', c' ≤ c + 1 ∧ MI b c' k' m')) → ∀ (n j : Nat) (m : MS), j ≤ k → k - j < n → MI b (c + 1) k m → OK (g_M_commit_b104 G n (nI p) (nI q) (nI j) m) (fun _ m' => ∃ c' k', c' ≤ c + 1 ∧ MI b c' k' m') := by
    intro G p q hp hq hG n
    induction n with
    | zero => intro j m _ h; omega
    | succ n ih =>
      intro j m hj hn hm
      rw [g_M_commit_b104]
      refine ok_if (fun _ => by rw [nI_1]; exact hG m hm) (fun hlt => ?_)
      rw [hm.2.2.1, nI_leI (by omega) (by omega)] at hlt
      have next : ∀ m, MI b (c + 1) k m → OK (g_M_commit_b104 G n (nI p) (nI q) (nI j + 1) m) (fun _ m' => ∃ c' k', c' ≤ c + 1 ∧ MI b c' k' m') := fun m hm => by
        rw [nI_1]
        exact ih (j + 1) m (by omega) (by omega) hm
      have n167 : OK (g_M_commit_b167 (g_M_commit_b104 G n) (nI p) (nI q) (nI j) (nI q) m) (fun _ m' => ∃ c' k', c' ≤ c + 1 ∧ MI b c' k' m') := by
        unfold g_M_commit_b167
        exact ok_wZ q rfl (by show q < 64; omega) (Or.inr rfl) (next _ (MI_sI hm (okv_z (by decide) (Or.inr rfl))))
      have n171 : OK (g_M_commit_b171 (g_M_commit_b104 G n) (nI p) (nI q) (nI j) (nI q) m) (fun _ m' => ∃ c' k', c' ≤ c + 1 ∧ MI b c' k' m') := by
        unfold g_M_commit_b171
        exact ok_wZ q rfl (by show q < 64; omega) (Or.inl rfl) (next _ (MI_sI hm (okv_z (by decide) (Or.inl rfl))))
      exact ok_rI q rfl (by show q < 64; omega) (ok_if (fun _ => ok_rI q rfl (by show q < 64; omega) (ok_if (fun _ => ok_rI (64 * j + q) (ix64 j q) (by show 64 * j + q < 4096; omega) (ok_if (fun _ => n171) (fun _ => ok_rI j rfl (by show j < 64; omega) (ok_if (fun _ => n167) (fun _ => ok_if (fun _ => n167) (fun _ => n171)))))) (fun _ => n167))) (fun _ => by rw [nI_1]; exact hG m hm))
  have h73 : ∀ (p : Nat), p < 64 → ∀ (n j : Nat) (m : MS), j ≤ k → k - j < n → MI b (c + 1) k m → OK (g_M_commit_b73 n (nI p) (nI j) m) (fun _ m' => ∃ c' k', c' ≤ c + 1 ∧ MI b c' k' m') := by
    intro p hp n
    induction n with
    | zero => intro j m _ h; omega
    | succ n ih =>
      intro j m hj hn hm
      rw [g_M_commit_b73]
      refine ok_if (fun _ => ?_) (fun hlt => ?_)
      · refine ok_bnU (s_forget hm) (fun m1 hm1 => ?_)
        obtain ⟨k', -, hm1⟩ := hm1
        exact ok_ret ⟨c + 1, k', by omega, hm1⟩
      · rw [hm.2.2.1, nI_leI (by omega) (by omega)] at hlt
        refine ok_rI (64 * j + p) (ix64 j p) (by show 64 * j + p < 4096; omega) (ok_if (fun _ => ?_) (fun _ => ?_))
        · rw [nI_1]
          exact ih (j + 1) m (by omega) (by omega) hm
        · refine ok_bnU (s_point hm (a := j) (p := p) (by omega) hp) (fun m1 hm1 => ?_)
          exact h104 (g_M_commit_b73 n) p j hp (by omega) (fun m hm => ih (j + 1) m (by omega) (by omega) hm) 2000 0 m1 (by omega) (by omega) hm1
  have h19 : ∀ x (m : MS), MI b c k m → OK (g_M_commit_b19 x m) (fun _ m' => ∃ c' k', c' ≤ c + 1 ∧ MI b c' k' m') := fun x m hm => by
    unfold g_M_commit_b19
    exact ok_if (fun _ => ok_ret ⟨c, k, by omega, hm⟩) (fun _ => ok_ret ⟨c, k, by omega, hm⟩)
  unfold g_M_commit
  refine ok_bn (s_running hm x1) ?_
  rintro r m1 ⟨rfl, hr⟩
  refine ok_if (fun _ => h19 _ _ hm) (fun h0 => ?_)
  obtain rfl | ⟨p, hp, rfl⟩ := hr
  · exact absurd (by decide) h0
  have hp6 : p < 64 := by omega
  refine ok_rI p rfl hp6 (ok_if (fun _ => ?_) (fun _ => h19 _ _ hm))
  have hm2 : MI b (c + 1) k (wS m1 1 (m1.1 1 + 1)) := ⟨hm.1, by show m1.1 1 + 1 = nI (c + 1); rw [hm.2.1, nI_1], hm.2.2.1, hm.2.2.2.1, by omega, hm.2.2.2.2.2.1, hm.gd⟩
  generalize wS m1 1 (m1.1 1 + 1) = m2 at hm2 ⊢
  have an : ∀ {d : Nat} {x : Int32}, d = 2 ∨ d = 14 ∨ d = 4 → okv d x := fun h => okv_any (by omega) (by omega) (by omega) (by omega) (by omega) (by omega) (by omega) (by omega)
  refine ok_wI p rfl hp6 ?_
  have hm3 := MI_sI (d := 4) (i := p) hm2 (x := m2.1 1) (an (by decide))
  generalize sI m2 4 p (m2.1 1) = m3 at hm3 ⊢
  obtain ⟨y, hy, ey⟩ := gd_id hm3.gd (Or.inl rfl) p
  refine ok_rI p rfl hp6 ?_
  rw [ey]
  refine ok_wI y rfl (by show y < 520; omega) (ok_wI p rfl hp6 ?_)
  exact h73 p hp6 2000 0 _ (by omega) (by omega) (MI_sI (MI_sI hm3 (an (by decide))) (an (by decide)))
theorem s_abort {b c k : Nat} {m : MS} (hm : MI b c k m) (x1 : Int32) : OK (g_M_abort x1 m) (fun _ m' => ∃ k', MI b c k' m') := by
  unfold g_M_abort
  refine ok_bn (s_running hm x1) ?_
  rintro r m1 ⟨rfl, hr⟩
  refine ok_if (fun h0 => ?_) (fun _ => ok_rZ (Or.inl rfl) ⟨k, hm⟩)
  obtain rfl | ⟨p, hp, rfl⟩ := hr
  · exact absurd h0 (by decide)
  refine ok_bnU (s_drop hm hp) (fun m2 hm2 => ?_)
  refine ok_bnU (s_forget hm2) (fun m3 hm3 => ?_)
  obtain ⟨k', -, hm3⟩ := hm3
  exact ok_rZ (Or.inr rfl) ⟨k', hm3⟩
theorem s_doom {b c k : Nat} {m : MS} (hm : MI b c k m) (x1 : Int32) : OK (g_M_doom x1 m) (mi b c k) := by
  have hk := hm.k64
  unfold g_M_doom
  refine ok_bn (s_running hm x1) ?_
  rintro r m1 ⟨rfl, hr⟩
  refine ok_if (fun h0 => ?_) (fun _ => ok_rZ (Or.inl rfl) hm)
  obtain rfl | ⟨p, hp, rfl⟩ := hr
  · exact absurd h0 (by decide)
  exact ok_wZ p rfl (by show p < 64; omega) (Or.inr rfl) (ok_rZ (Or.inr rfl) (MI_sI hm (okv_z (by decide) (Or.inr rfl))))
theorem s_look {b c k : Nat} {m : MS} (hm : MI b c k m) (x1 x2 : Int32) : OK (g_M_look x1 x2 m) (mi b c k) := by
  have hk := hm.k64
  have h19 : ∀ x, OK (g_M_look_b19 x m) (mi b c k) := fun x => by
    unfold g_M_look_b19
    exact ok_if (fun _ => ok_ret hm) (fun _ => ok_if (fun _ => ok_ret hm) (fun _ => ok_ret hm))
  have key : ∀ (p : Nat), p < 64 → ∀ (n j : Nat) (x4 : Int32), j ≤ k → k - j < n → OK (g_M_look_b40 n x2 (nI p) x4 (nI j) m) (mi b c k) := by
    intro p hp n
    induction n with
    | zero => intro j _ _ h; omega
    | succ n ih =>
      intro j x4 hj hn
      rw [g_M_look_b40]
      refine ok_if (fun _ => ?_) (fun hlt => ?_)
      · exact ok_if (fun _ => ok_rI p rfl hp (ok_if (fun _ => ok_ret hm) (fun _ => ok_ret hm))) (fun _ => ok_if (fun _ => ok_rI p rfl hp (ok_if (fun _ => ok_ret hm) (fun _ => ok_ret hm))) (fun _ => ok_if (fun _ => ok_rI p rfl hp (ok_ret hm)) (fun _ => ok_if (fun _ => ok_rI p rfl hp (ok_ret hm)) (fun _ => ok_if (fun _ => ok_rI p rfl hp (ok_ret hm)) (fun _ => ok_ret hm)))))
      · rw [hm.2.2.1, nI_leI (by omega) (by omega)] at hlt
        refine ok_rI (64 * j + p) (ix64 j p) (by show 64 * j + p < 4096; omega) ?_
        rw [nI_1]
        exact ok_if (fun _ => ih (j + 1) _ (by omega) (by omega)) (fun _ => ih (j + 1) _ (by omega) (by omega))
  unfold g_M_look
  refine ok_bn (s_find hm x1) ?_
  rintro r m1 ⟨rfl, hr⟩
  refine ok_if (fun _ => h19 _) (fun _ => ok_if (fun _ => h19 _) (fun _ => ok_if (fun h0 => ?_) (fun _ => h19 _)))
  obtain rfl | ⟨p, hp, rfl⟩ := hr
  · exact absurd h0 (by decide)
  exact key p (by omega) 2000 0 0 (by omega) (by omega)
theorem s_arrow {b c k : Nat} {m : MS} (hm : MI b c k m) (x1 x2 : Int32) : OK (g_M_arrow x1 x2 m) (mi b c k) := by
  have hk := hm.k64
  unfold g_M_arrow
  refine ok_bn (s_find hm x1) ?_
  rintro r m1 ⟨rfl, hr⟩
  refine ok_bn (s_find hm x2) ?_
  rintro r2 m2 ⟨rfl, hr2⟩
  have z0 : OK (rZm 0 m2) (mi b c k) := ok_rZ (Or.inl rfl) hm
  have z1 : OK (rZm 1 m2) (mi b c k) := ok_rZ (Or.inr rfl) hm
  refine ok_if (fun _ => z0) (fun h0 => ok_if (fun _ => z0) (fun h1 => ?_))
  obtain rfl | ⟨p, hp, rfl⟩ := hr
  · exact absurd (by decide) h0
  obtain rfl | ⟨q, hq, rfl⟩ := hr2
  · exact absurd (by decide) h1
  exact ok_rI (64 * p + q) (ix64 p q) (by show 64 * p + q < 4096; omega) (ok_if (fun _ => z0) (fun _ => z1))
theorem s_isBefore {m : MS} {x y : Nat} (hx : x ≤ 512) (hy : y ≤ 512) : OK (g_M_isBefore (nI x) (nI y) m) (rb m) := by
  have z0 : OK (rZm 0 m) (rb m) := ok_rZ (Or.inl rfl) ⟨rfl, Or.inl rfl⟩
  have z1 : OK (rZm 1 m) (rb m) := ok_rZ (Or.inr rfl) ⟨rfl, Or.inr rfl⟩
  have e1 : (9 : Int32) * nI x + nI y / (64 : Int32) = nI (9 * x + y / 64) := by
    rw [show (9 : Int32) = nI 9 from rfl, show (64 : Int32) = nI 64 from rfl, pk_mul, pk_div (by omega) (by omega) (by omega), nI_add]
  unfold g_M_isBefore
  exact ok_rI y rfl (by show y < 520; omega) (ok_if (fun _ => z0) (fun _ => ok_rI x rfl (by show x < 520; omega) (ok_rI y rfl (by show y < 520; omega) (ok_if (fun _ => z1) (fun _ => ok_rJ (9 * x + y / 64) e1 (by show 9 * x + y / 64 < 4680; omega) (ok_if (fun _ => z1) (fun _ => z0)))))))
/-- how many below N other than 0 and a are met -/
def ct (f : Nat → Int32) (a : Nat) : Nat → Nat
  | 0 => 0
  | n + 1 => ct f a n + if n ≠ 0 ∧ n ≠ a ∧ f n ≠ 0 then 1 else 0
theorem ct_le (f : Nat → Int32) (a N : Nat) : ct f a N ≤ N := by
  induction N with
  | zero => exact Nat.le_refl 0
  | succ n ih => unfold ct; split <;> omega
theorem ct_lt {f : Nat → Int32} {a N : Nat} (h : a < N) : ct f a N + 1 ≤ N := by
  induction N with
  | zero => omega
  | succ n ih =>
    unfold ct
    by_cases e : n = a
    · rw [if_neg (by rintro ⟨-, q, -⟩; exact q e)]
      have := ct_le f a n
      omega
    · have := ih (by omega)
      split <;> omega
theorem ct_same {f g : Nat → Int32} {a N : Nat} (h : ∀ n, n < N → n ≠ a → f n = g n) : ct f a N = ct g a N := by
  induction N with
  | zero => rfl
  | succ n ih =>
    unfold ct
    rw [ih (fun q hq => h q (by omega))]
    by_cases e : n = a
    · rw [if_neg (by rintro ⟨-, q, -⟩; exact q e), if_neg (by rintro ⟨-, q, -⟩; exact q e)]
    · rw [h n (by omega) e]
theorem ct_zero {f : Nat → Int32} {a N : Nat} (h : ∀ n, 1 ≤ n → n < N → f n = 0) : ct f a N = 0 := by
  induction N with
  | zero => rfl
  | succ n ih =>
    unfold ct
    rw [ih (fun q h1 hq => h q h1 (by omega)), if_neg]
    rintro ⟨h1, -, h3⟩
    exact h3 (h n (by omega) (by omega))
theorem ct_up {f : Nat → Int32} {a N y : Nat} (hy : y < N) (hy1 : 1 ≤ y) (hya : y ≠ a) (h0 : f y = 0) : ct (fun j => if j = y then 1 else f j) a N = ct f a N + 1 := by
  induction N with
  | zero => omega
  | succ n ih =>
    unfold ct
    by_cases e : n = y
    · subst e
      rw [ct_same (g := f) (fun q hq _ => if_neg (by omega)), if_pos ⟨by omega, hya, by simp⟩, if_neg (by rintro ⟨-, -, q⟩; exact q h0)]
    · rw [ih (by omega)]
      simp only [if_neg e]
      omega
abbrev mz (b c k : Nat) : Int32 → MS → Prop := fun r m' => MI b c k m' ∧ (r = 0 ∨ r = 1)
theorem s_comesBack {b c k : Nat} {m : MS} (hm : MI b c k m) {a : Nat} (ha : 1 ≤ a) (hab : a ≤ b) : OK (g_M_comesBack (nI a) m) (mz b c k) := by
  have hb : b ≤ 512 := hm.2.2.2.1
  have h127 : ∀ m, MI b c k m → OK (g_M_comesBack_b127 (nI a) m) (mz b c k) := fun m hm => by
    unfold g_M_comesBack_b127
    have hz := gd_z hm.gd (d := 16) (by decide) a
    exact ok_rI a rfl (by show a < 520; omega) (ok_rZ hz ⟨hm, hz⟩)
  have h51 : ∀ (G : Int32 → Int32 → Int32 → MS → Option (Int32 × MS)) (q : Nat), (∀ (n : Nat) (m : MS), q < n → MI b c k m → n = 1 + ct (m.2.1 16) a (b + 1) → OK (G (nI a) (nI n) (nI (q + 1)) m) (mz b c k)) → ∀ (f j n : Nat) (m : MS), q < n → j ≤ b + 1 → 1 ≤ j → b + 1 - j < f → MI b c k m → n = 1 + ct (m.2.1 16) a (b + 1) → OK (g_M_comesBack_b51 G f (nI a) (nI n) (nI q) (nI j) m) (mz b c k) := by
    intro G q hG f
    induction f with
    | zero => intro j n m _ _ _ h; omega
    | succ f ih =>
      intro j n m hq hj hj1 hf hm hn
      have hlt1 := ct_lt (f := m.2.1 16) (a := a) (N := b + 1) (by omega)
      rw [g_M_comesBack_b51]
      refine ok_if (fun _ => by rw [nI_1]; exact hG n m hq hm hn) (fun hlt => ?_)
      rw [hm.1, nI_ltI (by omega) (by omega)] at hlt
      rw [nI_1 j]
      refine ok_rI j rfl (by show j < 520; omega) (ok_if (fun h0 => ?_) (fun _ => ?_))
      · obtain ⟨y, hy, ey⟩ := gd_id hm.gd (d := 17) (by decide) q
        refine ok_rI q rfl (by show q < 520; omega) ?_
        rw [ey]
        refine ok_bn (s_isBefore (m := m) hy (y := j) (by omega)) ?_
        rintro r m1 ⟨rfl, -⟩
        refine ok_if (fun _ => ?_) (fun _ => ?_)
        · exact ih (j + 1) n _ hq (by omega) (by omega) (by omega) hm hn
        · refine ok_wZ j rfl (by show j < 520; omega) (Or.inr rfl) (ok_wI n rfl (by show n < 520; omega) ?_)
          have hm2 : MI b c k (sI (sI m1 16 j 1) 17 n (nI j)) := MI_sI (MI_sI hm (okv_z (by decide) (Or.inr rfl))) (okv_id (by decide) (by omega))
          have e16 : (sI (sI m1 16 j 1) 17 n (nI j)).2.1 16 = fun i => if i = j then 1 else m1.2.1 16 i := by
            funext i
            simp [sI]
          refine ok_if (fun ea => ?_) (fun ea => ?_)
          · have hja : j = a := (nI_eq (by omega) (by omega)).mp ea
            refine ih (j + 1) n _ hq (by omega) (by omega) (by omega) hm2 ?_
            rw [e16, hn]
            congr 1
            exact ct_same (fun i _ hi => by rw [if_neg (by omega)])
          · have hja : j ≠ a := fun e => ea (by rw [e])
            rw [nI_1 n]
            refine ih (j + 1) (n + 1) _ (by omega) (by omega) (by omega) (by omega) hm2 ?_
            rw [e16, ct_up (by omega) hj1 hja h0]
            omega
      · exact ih (j + 1) n m hq (by omega) (by omega) (by omega) hm hn
  have h34 : ∀ (f q n : Nat) (m : MS), q ≤ 514 → 514 - q < f → MI b c k m → n = 1 + ct (m.2.1 16) a (b + 1) → OK (g_M_comesBack_b34 f (nI a) (nI n) (nI q) m) (mz b c k) := by
    intro f
    induction f with
    | zero => intro q n m _ h; omega
    | succ f ih =>
      intro q n m hq hf hm hn
      have hlt1 := ct_lt (f := m.2.1 16) (a := a) (N := b + 1) (by omega)
      rw [g_M_comesBack_b34]
      refine ok_if (fun _ => h127 m hm) (fun hlt => ?_)
      rw [nI_leI (by omega) (by omega)] at hlt
      refine ok_rI a rfl (by show a < 520; omega) (ok_if (fun _ => ?_) (fun _ => h127 m hm))
      exact h51 (g_M_comesBack_b34 f) q (fun n m hq2 hm hn => ih (q + 1) n m (by have := ct_lt (f := m.2.1 16) (a := a) (N := b + 1) (by omega); omega) (by omega) hm hn) 2000 1 n m (by omega) (by omega) (by omega) (by omega) hm hn
  have h2 : ∀ (f j : Nat) (m : MS), 1 ≤ j → j ≤ b + 1 → b + 1 - j < f → MI b c k m → (∀ i, 1 ≤ i → i < j → m.2.1 16 i = 0) → OK (g_M_comesBack_b2 f (nI a) (nI j) m) (mz b c k) := by
    intro f
    induction f with
    | zero => intro j m _ _ h; omega
    | succ f ih =>
      intro j m hj1 hj hf hm h0
      rw [g_M_comesBack_b2]
      refine ok_if (fun hlt => ?_) (fun hlt => ?_)
      · rw [hm.1, nI_ltI (by omega) (by omega)] at hlt
        refine ok_wI 0 rfl (by decide) ?_
        refine h34 2000 0 1 _ (by omega) (by omega) (MI_sI hm (okv_id (by decide) (by omega))) ?_
        rw [show (sI m 17 0 (nI a)).2.1 16 = m.2.1 16 by funext i; simp [sI], ct_zero (fun n h1 h2 => h0 n h1 (by omega))]
      · rw [hm.1, nI_ltI (by omega) (by omega)] at hlt
        refine ok_wZ j rfl (by show j < 520; omega) (Or.inl rfl) ?_
        rw [nI_1]
        refine ih (j + 1) _ (by omega) (by omega) (by omega) (MI_sI hm (okv_z (by decide) (Or.inl rfl))) (fun i h1 h2 => ?_)
        simp only [sI, if_true]
        by_cases e : i = j
        · rw [if_pos e]
        · rw [if_neg e]; exact h0 i h1 (by omega)
  exact h2 2000 1 m (by omega) (by omega) (by omega) hm (fun i h1 h2 => by omega)
theorem s_rings {b c k : Nat} {m : MS} (hm : MI b c k m) : OK (g_M_rings m) (mi b c k) := by
  have hb : b ≤ 512 := hm.2.2.2.1
  have key : ∀ (f j : Nat) (x1 : Int32) (m : MS), 1 ≤ j → j ≤ b + 1 → b + 1 - j < f → MI b c k m → OK (g_M_rings_b4 f x1 (nI j) m) (mi b c k) := by
    intro f
    induction f with
    | zero => intro j x1 m _ _ h; omega
    | succ f ih =>
      intro j x1 m hj1 hj hf hm
      rw [g_M_rings_b4]
      refine ok_if (fun _ => ok_ret hm) (fun hlt => ?_)
      rw [hm.1, nI_ltI (by omega) (by omega)] at hlt
      unfold g_M_rings_b35
      rw [nI_1 j]
      refine ok_rI j rfl (by show j < 520; omega) (ok_if (fun _ => ih (j + 1) _ m (by omega) (by omega) (by omega) hm) (fun _ => ?_))
      refine ok_bn (s_comesBack hm hj1 (by omega)) ?_
      rintro r m1 ⟨hm1, -⟩
      exact ok_if (fun _ => ih (j + 1) _ m1 (by omega) (by omega) (by omega) hm1) (fun _ => ih (j + 1) _ m1 (by omega) (by omega) (by omega) hm1)
  exact key 2000 1 0 m (by omega) (by omega) (by omega) hm
theorem s_count {b c k : Nat} {m : MS} (hm : MI b c k m) (x1 : Int32) : OK (g_M_count x1 m) (mi b c k) := by
  unfold g_M_count
  exact ok_if (fun _ => ok_ret hm) (fun _ => ok_if (fun _ => ok_ret hm) (fun _ => ok_if (fun _ => ok_ret hm) (fun _ => ok_ret hm)))
