theorem li_up {X i : Nat} {h : AH} (hl : LI X i h) : LI X (i + 1) h := by
  obtain ⟨w, m, b, c, k, h1, h2, h3, h4, hm, hi, hb, hc⟩ := hl
  exact ⟨w, m, b, c, k, h1, h2, by omega, by omega, hm, hi, by omega, by omega⟩
set_option maxHeartbeats 2000000 in
theorem law_loop {X L : Nat} {xs : Nat → Int32} (hL : L ≤ 4608) : ∀ (n i : Nat) (h : AH), 513 - i < n → i ≤ 512 → LI X i h → OH (f_L_law_b18 L xs n X (X + 6) (nI (9 * i)) h) (fun r H => r = 1 ∧ H.2.1 ≤ X + 600000 ∧ H.2.2 ≤ 7302250) := by
  intro n
  induction n with
  | zero => intro i h h1; omega
  | succ n ih =>
    intro i h hn hi hl
    rw [f_L_law_b18]
    refine oh_if (fun _ => oh_ret ?_) (fun hlt => ?_)
    · obtain ⟨w, m, b, c, k, h1, h2, h3, h4, -⟩ := hl
      exact ⟨rfl, by omega, by omega⟩
    have hin : 9 * i + 9 ≤ L := by
      have e := pk_sub_toInt (a := L) (b := 9) (by omega) (by omega)
      rw [Int32.lt_iff_toInt_lt, show (9 : Int32) = nI 9 from rfl, e, nI_toInt (by omega)] at hlt
      omega
    have hi5 : i ≤ 511 := by omega
    have sx : ∀ (d : Nat) (y : Int32), y = nI d → nI (9 * i) + y = nI (9 * i + d) := fun d y hy => by rw [hy, nI_add]
    have next : ∀ H, LI X (i + 1) H → OH (f_L_law_b18 L xs n X (X + 6) (nI (9 * i) + 9) H) (fun r H => r = 1 ∧ H.2.1 ≤ X + 600000 ∧ H.2.2 ≤ 7302250) := fun H hl => by
      rw [sx 9 9 rfl, show 9 * i + 9 = 9 * (i + 1) by omega]
      exact ih (i + 1) H (by omega) (by omega) hl
    refine oh_sE (9 * i) rfl (by omega) hL ?_
    refine oh_if (fun _ => ?_) (fun _ => ?_)
    · skip
      refine oh_sE (9 * i + 1) (sx 1 _ rfl) (by omega) hL ?_
      refine li_rcvD hl ?_
      refine li_D (Qd := fun _ => True) hi5 hl (fun w h1 h2 h3 => oh_imp (k_begin h1 h2 _) (fun _ _ p => ⟨trivial, p⟩)) (fun r H hr hj => ?_)
      refine oh_sE (9 * i + 1) (sx 1 _ rfl) (by omega) hL ?_
      refine lj_rcvM hj ?_
      refine oh_bnd (lj_M (Qm := fun _ => True) (cg := g_M_begin _) hj (fun m => n_M_begin _ _ m) (fun m b c k hm hb hc => ok_imp (s_begin hm (by omega) _) (fun _ m' ⟨b', k', q1, q2⟩ => ⟨trivial, b', c, k', by omega, by omega, q2⟩))) ?_
      rintro r2 H2 ⟨-, hl2⟩
      exact next H2 hl2
    refine oh_if (fun _ => ?_) (fun _ => ?_)
    · skip
      refine oh_sE (9 * i + 1) (sx 1 _ rfl) (by omega) hL ?_
      refine oh_sE (9 * i + 2) (sx 2 _ rfl) (by omega) hL ?_
      refine oh_sE (9 * i + 3) (sx 3 _ rfl) (by omega) hL ?_
      refine oh_sE (9 * i + 4) (sx 4 _ rfl) (by omega) hL ?_
      refine oh_sE (9 * i + 5) (sx 5 _ rfl) (by omega) hL ?_
      refine oh_sE (9 * i + 6) (sx 6 _ rfl) (by omega) hL ?_
      refine oh_sE (9 * i + 7) (sx 7 _ rfl) (by omega) hL ?_
      refine oh_sE (9 * i + 8) (sx 8 _ rfl) (by omega) hL ?_
      refine li_rcvD hl ?_
      refine li_D (Qd := fun _ => True) hi5 hl (fun w h1 h2 h3 => oh_imp (k_read h1 h2 h3 _ _ _ _ _ _) (fun _ _ p => ⟨trivial, p⟩)) (fun r H hr hj => ?_)
      refine oh_sE (9 * i + 1) (sx 1 _ rfl) (by omega) hL ?_
      refine oh_sE (9 * i + 2) (sx 2 _ rfl) (by omega) hL ?_
      refine oh_sE (9 * i + 3) (sx 3 _ rfl) (by omega) hL ?_
      refine oh_sE (9 * i + 4) (sx 4 _ rfl) (by omega) hL ?_
      refine oh_sE (9 * i + 5) (sx 5 _ rfl) (by omega) hL ?_
      refine oh_sE (9 * i + 6) (sx 6 _ rfl) (by omega) hL ?_
      refine oh_sE (9 * i + 7) (sx 7 _ rfl) (by omega) hL ?_
      refine oh_sE (9 * i + 8) (sx 8 _ rfl) (by omega) hL ?_
      refine lj_rcvM hj ?_
      refine oh_bnd (lj_M (Qm := fun _ => True) (cg := g_M_read _ _ _ _ _ _) hj (fun m => n_M_read _ _ _ _ _ _ _ m) (fun m b c k hm hb hc => ok_imp (s_read hm _ _ _ _ _ _) (fun _ m' q => ⟨trivial, b, c, k, by omega, by omega, q⟩))) ?_
      rintro r2 H2 ⟨-, hl2⟩
      exact next H2 hl2
    refine oh_if (fun _ => ?_) (fun _ => ?_)
    · skip
      refine oh_sE (9 * i + 1) (sx 1 _ rfl) (by omega) hL ?_
      refine oh_sE (9 * i + 2) (sx 2 _ rfl) (by omega) hL ?_
      refine oh_sE (9 * i + 3) (sx 3 _ rfl) (by omega) hL ?_
      refine li_rcvD hl ?_
      refine li_D (Qd := fun r : Int32 => r = if xs (9 * i + 1) < 0 ∨ 7 < xs (9 * i + 1) then 0 else 1) hi5 hl (fun w h1 h2 h3 => cp_so h2 (t_cell (st_of h1) _ _)) (fun r H hr hj => ?_)
      refine oh_sE (9 * i + 1) (sx 1 _ rfl) (by omega) hL ?_
      refine oh_sE (9 * i + 2) (sx 2 _ rfl) (by omega) hL ?_
      refine oh_sE (9 * i + 3) (sx 3 _ rfl) (by omega) hL ?_
      refine lj_rcvM hj ?_
      refine oh_bnd (lj_M (Qm := fun r : Int32 => r = if xs (9 * i + 1) < 0 ∨ 7 < xs (9 * i + 1) then 0 else 1) (cg := g_M_cell _ _) hj (fun m => n_M_cell _ _ _ m) (fun m b c k hm hb hc => ok_imp (s_cell hm _ _) (fun _ m' q => ⟨q.2, b, c, k, by omega, by omega, q.1⟩))) ?_
      rintro r2 H2 ⟨hr2, hl2⟩
      exact oh_if (fun _ => next H2 hl2) (fun hne => absurd (hr.trans hr2.symm) hne)
    refine oh_if (fun _ => ?_) (fun _ => ?_)
    · skip
      refine li_rcvD hl ?_
      refine li_DU (Qd := fun _ => True) hi5 hl (fun w h1 h2 h3 => cp_so h2 (t_clear (st_of h1))) (fun H hj => ?_)
      refine lj_rcvM hj ?_
      refine oh_bndU (lj_M (Qm := fun _ => True) (cg := g_M_clear ) hj (fun m => n_M_clear  _ m) (fun m b c k hm hb hc => ok_imp (s_clear hm) (fun _ m' q => ⟨trivial, b, c, k, by omega, by omega, q⟩))) ?_
      rintro H2 ⟨-, hl2⟩
      exact next H2 hl2
    refine oh_if (fun _ => ?_) (fun _ => ?_)
    · skip
      refine oh_sE (9 * i + 1) (sx 1 _ rfl) (by omega) hL ?_
      refine oh_sE (9 * i + 2) (sx 2 _ rfl) (by omega) hL ?_
      refine li_rcvD hl ?_
      refine li_D (Qd := fun _ => True) hi5 hl (fun w h1 h2 h3 => cp_so h2 (so_imp (t_write h3 (st_of h1) _ _) (fun _ _ => trivial))) (fun r H hr hj => ?_)
      refine oh_sE (9 * i + 1) (sx 1 _ rfl) (by omega) hL ?_
      refine oh_sE (9 * i + 2) (sx 2 _ rfl) (by omega) hL ?_
      refine lj_rcvM hj ?_
      refine oh_bnd (lj_M (Qm := fun _ => True) (cg := g_M_write _ _) hj (fun m => n_M_write _ _ _ m) (fun m b c k hm hb hc => ok_imp (s_write hm _ _) (fun _ m' q => ⟨trivial, b, c, k, by omega, by omega, q⟩))) ?_
      rintro r2 H2 ⟨-, hl2⟩
      exact next H2 hl2
    refine oh_if (fun _ => ?_) (fun _ => ?_)
    · skip
      refine oh_sE (9 * i + 1) (sx 1 _ rfl) (by omega) hL ?_
      refine oh_sE (9 * i + 2) (sx 2 _ rfl) (by omega) hL ?_
      refine li_rcvD hl ?_
      refine li_D (Qd := fun _ => True) hi5 hl (fun w h1 h2 h3 => cp_so h2 (so_imp (t_miss (st_of h1) _ _) (fun _ _ => trivial))) (fun r H hr hj => ?_)
      refine oh_sE (9 * i + 1) (sx 1 _ rfl) (by omega) hL ?_
      refine oh_sE (9 * i + 2) (sx 2 _ rfl) (by omega) hL ?_
      refine lj_rcvM hj ?_
      refine oh_bnd (lj_M (Qm := fun _ => True) (cg := g_M_miss _ _) hj (fun m => n_M_miss _ _ _ m) (fun m b c k hm hb hc => ok_imp (s_miss hm _ _) (fun _ m' q => ⟨trivial, b, c, k, by omega, by omega, q⟩))) ?_
      rintro r2 H2 ⟨-, hl2⟩
      exact next H2 hl2
    refine oh_if (fun _ => ?_) (fun _ => ?_)
    · skip
      refine oh_sE (9 * i + 1) (sx 1 _ rfl) (by omega) hL ?_
      refine li_rcvD hl ?_
      refine li_D (Qd := fun _ => True) hi5 hl (fun w h1 h2 h3 => cp_so h2 (so_imp (t_commit (st_of h1) _) (fun _ _ => trivial))) (fun r H hr hj => ?_)
      refine oh_sE (9 * i + 1) (sx 1 _ rfl) (by omega) hL ?_
      refine lj_rcvM hj ?_
      refine oh_bnd (lj_M (Qm := fun _ => True) (cg := g_M_commit _) hj (fun m => n_M_commit _ _ m) (fun m b c k hm hb hc => ok_imp (s_commit hm (by omega) _) (fun _ m' ⟨c', k', q1, q2⟩ => ⟨trivial, b, c', k', by omega, by omega, q2⟩))) ?_
      rintro r2 H2 ⟨-, hl2⟩
      exact next H2 hl2
    refine oh_if (fun _ => ?_) (fun _ => ?_)
    · skip
      refine oh_sE (9 * i + 1) (sx 1 _ rfl) (by omega) hL ?_
      refine li_rcvD hl ?_
      refine li_D (Qd := fun _ => True) hi5 hl (fun w h1 h2 h3 => cp_so h2 (so_imp (t_abort (st_of h1) _) (fun _ _ => trivial))) (fun r H hr hj => ?_)
      refine oh_sE (9 * i + 1) (sx 1 _ rfl) (by omega) hL ?_
      refine lj_rcvM hj ?_
      refine oh_bnd (lj_M (Qm := fun _ => True) (cg := g_M_abort _) hj (fun m => n_M_abort _ _ m) (fun m b c k hm hb hc => ok_imp (s_abort hm _) (fun _ m' ⟨k', q⟩ => ⟨trivial, b, c, k', by omega, by omega, q⟩))) ?_
      rintro r2 H2 ⟨-, hl2⟩
      exact next H2 hl2
    refine oh_if (fun _ => ?_) (fun _ => ?_)
    · skip
      refine oh_sE (9 * i + 1) (sx 1 _ rfl) (by omega) hL ?_
      refine li_rcvD hl ?_
      refine li_D (Qd := fun _ => True) hi5 hl (fun w h1 h2 h3 => cp_so h2 (so_imp (t_doom (st_of h1) _) (fun _ _ => trivial))) (fun r H hr hj => ?_)
      refine oh_sE (9 * i + 1) (sx 1 _ rfl) (by omega) hL ?_
      refine lj_rcvM hj ?_
      refine oh_bnd (lj_M (Qm := fun _ => True) (cg := g_M_doom _) hj (fun m => n_M_doom _ _ m) (fun m b c k hm hb hc => ok_imp (s_doom hm _) (fun _ m' q => ⟨trivial, b, c, k, by omega, by omega, q⟩))) ?_
      rintro r2 H2 ⟨-, hl2⟩
      exact next H2 hl2
    refine oh_if (fun _ => ?_) (fun _ => ?_)
    · skip
      refine oh_sE (9 * i + 1) (sx 1 _ rfl) (by omega) hL ?_
      refine oh_sE (9 * i + 2) (sx 2 _ rfl) (by omega) hL ?_
      refine li_rcvD hl ?_
      refine li_D (Qd := fun _ => True) hi5 hl (fun w h1 h2 h3 => cp_so h2 (so_imp (t_look (st_of h1) _ _) (fun _ _ => trivial))) (fun r H hr hj => ?_)
      refine oh_sE (9 * i + 1) (sx 1 _ rfl) (by omega) hL ?_
      refine oh_sE (9 * i + 2) (sx 2 _ rfl) (by omega) hL ?_
      refine lj_rcvM hj ?_
      refine oh_bnd (lj_M (Qm := fun _ => True) (cg := g_M_look _ _) hj (fun m => n_M_look _ _ _ m) (fun m b c k hm hb hc => ok_imp (s_look hm _ _) (fun _ m' q => ⟨trivial, b, c, k, by omega, by omega, q⟩))) ?_
      rintro r2 H2 ⟨-, hl2⟩
      exact next H2 hl2
    refine oh_if (fun _ => ?_) (fun _ => ?_)
    · skip
      refine oh_sE (9 * i + 1) (sx 1 _ rfl) (by omega) hL ?_
      refine oh_sE (9 * i + 2) (sx 2 _ rfl) (by omega) hL ?_
      refine li_rcvD hl ?_
      refine li_D (Qd := fun _ => True) hi5 hl (fun w h1 h2 h3 => cp_so h2 (so_imp (t_arrow (st_of h1) _ _) (fun _ _ => trivial))) (fun r H hr hj => ?_)
      refine oh_sE (9 * i + 1) (sx 1 _ rfl) (by omega) hL ?_
      refine oh_sE (9 * i + 2) (sx 2 _ rfl) (by omega) hL ?_
      refine lj_rcvM hj ?_
      refine oh_bnd (lj_M (Qm := fun _ => True) (cg := g_M_arrow _ _) hj (fun m => n_M_arrow _ _ _ m) (fun m b c k hm hb hc => ok_imp (s_arrow hm _ _) (fun _ m' q => ⟨trivial, b, c, k, by omega, by omega, q⟩))) ?_
      rintro r2 H2 ⟨-, hl2⟩
      exact next H2 hl2
    refine oh_if (fun _ => ?_) (fun _ => ?_)
    · skip
      refine li_rcvD hl ?_
      refine li_D (Qd := fun _ => True) hi5 hl (fun w h1 h2 h3 => oh_ret ⟨trivial, cp_st h2 (st_of h1)⟩) (fun r H hr hj => ?_)
      refine lj_rcvM hj ?_
      refine oh_bnd (lj_M (Qm := fun _ => True) (cg := g_M_rings ) hj (fun m => n_M_rings  _ m) (fun m b c k hm hb hc => ok_imp (s_rings hm) (fun _ m' q => ⟨trivial, b, c, k, by omega, by omega, q⟩))) ?_
      rintro r2 H2 ⟨-, hl2⟩
      exact next H2 hl2
    refine oh_if (fun _ => ?_) (fun _ => ?_)
    · skip
      refine oh_sE (9 * i + 1) (sx 1 _ rfl) (by omega) hL ?_
      refine li_rcvD hl ?_
      refine li_D (Qd := fun _ => True) hi5 hl (fun w h1 h2 h3 => cp_so h2 (so_imp (t_count (st_of h1) _) (fun _ _ => trivial))) (fun r H hr hj => ?_)
      refine oh_sE (9 * i + 1) (sx 1 _ rfl) (by omega) hL ?_
      refine lj_rcvM hj ?_
      refine oh_bnd (lj_M (Qm := fun _ => True) (cg := g_M_count _) hj (fun m => n_M_count _ _ m) (fun m b c k hm hb hc => ok_imp (s_count hm _) (fun _ m' q => ⟨trivial, b, c, k, by omega, by omega, q⟩))) ?_
      rintro r2 H2 ⟨-, hl2⟩
      exact next H2 hl2
    exact next h (li_up hl)
theorem law_pure {L : Nat} {xs : Nat → Int32} (hL : L ≤ 4608) (n : Nat) : ∃ h' : AH, f_L_law L xs (h_0 n) = some (1, h') ∧ h'.2.1 ≤ n + 600000 ∧ h'.2.2 ≤ 7302250 := by
  have key : OH (f_L_law L xs (h_0 n)) (fun r H => r = 1 ∧ H.2.1 ≤ n + 600000 ∧ H.2.2 ≤ 7302250) := by
    unfold f_L_law
    refine oh_nO (fun h1 f1 o1 z1 y1 => ?_)
    refine oh_bndU (D_init_ok (X := n) f1 z1) ?_
    rintro h2 ⟨d1, d2, d3, d4, d5, d6, d7, d8, d9⟩
    refine oh_nO (fun h3 f3 o3 z3 y3 => ?_)
    rw [d8] at f3 o3 z3 ⊢
    refine oh_bndU (M_init_ok (M := n + 6) f3 z3) ?_
    rintro h4 ⟨m1, m2, m3, m4, m5⟩
    have old : ∀ q, q < n + 6 → h4.1 q = h2.1 q := fun q hq => (m3 q (by omega)).trans (o3 q (by omega))
    have bk : ∀ q, (q < n ∨ n + 26 ≤ q) → h4.1 q = none := fun q hq => by
      rw [m3 q (by omega), o3 q (by omega), d7 q (by omega), o1 q (show q ≠ n by omega)]
      rfl
    have e0 := (old n (by omega)).trans d1
    have e1 := (old (n + 1) (by omega)).trans d2
    have e2 := (old (n + 2) (by omega)).trans d3
    have e3 := (old (n + 3) (by omega)).trans d4
    have e4 := (old (n + 4) (by omega)).trans d5
    have e5 := (old (n + 5) (by omega)).trans d6
    have hm : MH (n + 6) m_0 h4 := ⟨m1, fun d q1 q2 => m2 d q1 q2⟩
    have hc : CI n (n + 26) h4 := by
      refine ⟨fun q e hq hr => ?_, ⟨by simp only [kd, e0]; rfl, by simp only [kd, e1]; rfl, by simp only [kd, e2]; rfl, by simp only [kd, e3]; rfl, by simp only [kd, e4]; rfl, by simp only [kd, e5]; rfl⟩, fun q c hk hcc => ?_, fun q hq => bk q (by omega), by omega⟩
      · rcases (show q < n ∨ q = n ∨ q = n + 1 ∨ q = n + 2 ∨ q = n + 3 ∨ q = n + 4 ∨ q = n + 5 ∨ n + 26 ≤ q by omega) with h9 | rfl | rfl | rfl | rfl | rfl | rfl | h9
        · rw [bk q (by omega)] at hq; cases hq
        · rw [e0] at hq; cases hq
          exact ⟨fun _ h => (by cases h), fun _ h => (by cases h), fun _ h => (by cases h), fun _ h => (by cases h; exact ⟨0, 0, 0, rfl⟩), fun _ _ h => (by cases h), fun _ _ h => (by cases h), fun _ _ h => (by cases h), fun _ _ h => (by cases h), fun _ _ h => (by cases h)⟩
        · rw [e1] at hq; cases hq
          exact ⟨fun _ h => (by cases h), fun _ h => (by cases h), fun _ h => (by cases h; rfl), fun _ h => (by cases h), fun _ _ h => (by cases h), fun _ _ h => (by cases h), fun _ _ h => (by cases h), fun _ _ h => (by cases h), fun _ _ h => (by cases h)⟩
        · rw [e2] at hq; cases hq
          exact ⟨fun _ h => (by cases h), fun _ h => (by cases h), fun _ h => (by cases h), fun _ h => (by cases h), fun _ _ h => (by cases h; exact ⟨fun _ => 0, rfl⟩), fun _ _ h => (by cases h), fun _ _ h => (by cases h), fun _ _ h => (by cases h), fun _ _ h => (by cases h)⟩
        · rw [e3] at hq; cases hq
          exact ⟨fun _ h => (by cases h), fun _ h => (by cases h), fun _ h => (by cases h), fun _ h => (by cases h), fun _ _ h => (by cases h), fun _ _ h => (by cases h; exact ⟨fun _ => 0, rfl, fun _ => Or.inl rfl⟩), fun _ _ h => (by cases h), fun _ _ h => (by cases h), fun _ _ h => (by cases h)⟩
        · rw [e4] at hq; cases hq
          exact ⟨fun _ h => (by cases h), fun _ h => (by cases h), fun _ h => (by cases h), fun _ h => (by cases h), fun _ _ h => (by cases h), fun _ _ h => (by cases h), fun _ _ h => (by cases h; exact ⟨fun _ => none, rfl, fun _ => Or.inl rfl⟩), fun _ _ h => (by cases h), fun _ _ h => (by cases h)⟩
        · rw [e5] at hq; cases hq
          exact ⟨fun _ h => (by cases h), fun _ h => (by cases h), fun _ h => (by cases h), fun _ h => (by cases h), fun _ _ h => (by cases h), fun _ _ h => (by cases h), fun _ _ h => (by cases h; exact ⟨fun _ => none, rfl, fun _ => Or.inl rfl⟩), fun _ _ h => (by cases h), fun _ _ h => (by cases h)⟩
        · rw [bk q (by omega)] at hq; cases hq
      · exfalso
        rcases (show (q < n ∨ n + 26 ≤ q) ∨ q = n ∨ q = n + 1 ∨ q = n + 2 ∨ q = n + 3 ∨ q = n + 4 ∨ q = n + 5 ∨ q = n + 6 ∨ (n + 7 ≤ q ∧ q ≤ n + 25) by omega) with h9 | rfl | rfl | rfl | rfl | rfl | rfl | rfl | ⟨g1, g2⟩
        · simp only [kd, bk q h9] at hk; cases hk
        · simp only [kd, e0] at hk; cases hk; omega
        · simp only [kd, e1] at hk; cases hk; omega
        · simp only [kd, e2] at hk; cases hk
        · simp only [kd, e3] at hk; cases hk
        · simp only [kd, e4] at hk; cases hk
        · simp only [kd, e5] at hk; cases hk
        · simp only [kd, hm.1] at hk; cases hk; omega
        · have := hm.2 (q - (n + 6)) (by omega) (by omega)
          rw [show n + 6 + (q - (n + 6)) = q by omega] at this
          simp only [kd, this] at hk
          cases hk
    have hg : Gd m_0 := fun d i => ⟨fun _ => ⟨0, by omega, rfl⟩, fun _ => Or.inl rfl, fun _ => ⟨0, by omega, rfl⟩, fun _ => Or.inr ⟨0, by omega, rfl⟩⟩
    have hs : msum 19 = 28152 := rfl
    refine law_loop (X := n) hL 2000 0 h4 (by omega) (by omega) ⟨n + 26, m_0, 0, 0, 0, hc, by omega, by omega, ?_, hm, ⟨rfl, rfl, rfl, by omega, by omega, by omega, hg⟩, by omega, by omega⟩
    rw [m5, hs, y3, d9, y1]
    show 0 + 6 + 88 + 22 + 28152 ≤ 28268 + 40 * 0
    omega
  obtain ⟨r, H, e, hr, h1, h2⟩ := key
  subst hr
  exact ⟨H, e, h1, h2⟩
