set_option maxHeartbeats 4000000 in
theorem law_loop {X L : Nat} {xs : Nat → Int32} (hL : L ≤ 4608) : ∀ (n i : Nat) (h : AH), 513 - i < n → i ≤ 512 → LR X i h → OH (f_L_law_b18 L xs n X (X + 6) (nI (9 * i)) h) (fun r H => r = 1 ∧ H.2.1 ≤ X + 600000 ∧ H.2.2 ≤ 7302250) := by
  have hL2 : L ≤ 4608 := by omega
  intro n
  induction n with
  | zero => intro i h h1; omega
  | succ n ih =>
    intro i h hn hi hl
    rw [f_L_law_b18]
    refine oh_if (fun _ => oh_ret ?_) (fun hlt => ?_)
    · obtain ⟨w, m, v, A, ⟨h1, h2, h3, h4⟩, -⟩ := hl
      exact ⟨rfl, by omega, by omega⟩
    have hin : 9 * i + 9 ≤ L := by
      have e := pk_sub_toInt (a := L) (b := 9) (by omega) (by omega)
      rw [Int32.lt_iff_toInt_lt, show (9 : Int32) = nI 9 from rfl, e, nI_toInt (by omega)] at hlt
      omega
    have hi5 : i ≤ 511 := by omega
    have sx : ∀ (d : Nat) (y : Int32), y = nI d → nI (9 * i) + y = nI (9 * i + d) := fun d y hy => by rw [hy, nI_add]
    have next : ∀ H, LR X (i + 1) H → OH (f_L_law_b18 L xs n X (X + 6) (nI (9 * i) + 9) H) (fun r H => r = 1 ∧ H.2.1 ≤ X + 600000 ∧ H.2.2 ≤ 7302250) := fun H hl => by
      rw [sx 9 9 rfl, show 9 * i + 9 = 9 * (i + 1) by omega]
      exact ih (i + 1) H (by omega) (by omega) hl
    refine oh_sE (9 * i) rfl (by omega) hL2 ?_
    refine oh_if (fun _ => ?_) (fun _ => ?_)
    · skip
      refine oh_sE (9 * i + 1) (sx 1 _ rfl) (by omega) hL2 ?_
      refine lr_rcvD hl ?_
      refine lr_D (Sd := fun A r B => Sbegin (xs (9 * i + 1)) A r B) (cv := cv_D_begin (xs (9 * i + 1))) hi5 hl (fun w h1 h2 h3 => k_begin h1 h2 _) (fun v => cw_D_begin (xs (9 * i + 1)) _ v) (fun v A hF hx => y_begin hi5 hF hx _) (fun r H hj => ?_)
      refine oh_sE (9 * i + 1) (sx 1 _ rfl) (by omega) hL2 ?_
      refine lt_rcvM hj ?_
      refine oh_bnd (lt_M (Sm := fun A r B => Sbegin (xs (9 * i + 1)) A r B) (Qd := fun r r2 => r = r2) (cg := g_M_begin (xs (9 * i + 1))) hj (fun m => n_M_begin (xs (9 * i + 1)) _ m) (fun m A hF hm => z_begin hi5 hF hm _) (fun A r r2 B B' hF h1 h2 => Sbegin_det h1 h2) (fun A r B hF hs => Fine_begin hi5 hF hs)) ?_
      rintro r2 H2 ⟨-, hl2⟩
      exact next H2 hl2
    refine oh_if (fun _ => ?_) (fun _ => ?_)
    · skip
      refine oh_sE (9 * i + 1) (sx 1 _ rfl) (by omega) hL2 ?_
      refine oh_sE (9 * i + 2) (sx 2 _ rfl) (by omega) hL2 ?_
      refine oh_sE (9 * i + 3) (sx 3 _ rfl) (by omega) hL2 ?_
      refine oh_sE (9 * i + 4) (sx 4 _ rfl) (by omega) hL2 ?_
      refine oh_sE (9 * i + 5) (sx 5 _ rfl) (by omega) hL2 ?_
      refine oh_sE (9 * i + 6) (sx 6 _ rfl) (by omega) hL2 ?_
      refine oh_sE (9 * i + 7) (sx 7 _ rfl) (by omega) hL2 ?_
      refine oh_sE (9 * i + 8) (sx 8 _ rfl) (by omega) hL2 ?_
      refine lr_rcvD hl ?_
      refine lr_D (Sd := fun A r B => Sread (xs (9 * i + 1)) (xs (9 * i + 2)) (xs (9 * i + 3)) (((Int32.toInt64 (xs (9 * i + 4))) <<< (Int32.toInt64 (32 : Int32) &&& 63)) ||| ((Int32.toInt64 (xs (9 * i + 5))) &&& (4294967295 : Int64))) (((Int32.toInt64 (xs (9 * i + 6))) <<< (Int32.toInt64 (32 : Int32) &&& 63)) ||| ((Int32.toInt64 (xs (9 * i + 7))) &&& (4294967295 : Int64))) (xs (9 * i + 8)) A r B) (cv := cv_D_read (xs (9 * i + 1)) (xs (9 * i + 2)) (xs (9 * i + 3)) (((Int32.toInt64 (xs (9 * i + 4))) <<< (Int32.toInt64 (32 : Int32) &&& 63)) ||| ((Int32.toInt64 (xs (9 * i + 5))) &&& (4294967295 : Int64))) (((Int32.toInt64 (xs (9 * i + 6))) <<< (Int32.toInt64 (32 : Int32) &&& 63)) ||| ((Int32.toInt64 (xs (9 * i + 7))) &&& (4294967295 : Int64))) (xs (9 * i + 8))) hi5 hl (fun w h1 h2 h3 => k_read h1 h2 h3 _ _ _ _ _ _) (fun v => cw_D_read (xs (9 * i + 1)) (xs (9 * i + 2)) (xs (9 * i + 3)) (((Int32.toInt64 (xs (9 * i + 4))) <<< (Int32.toInt64 (32 : Int32) &&& 63)) ||| ((Int32.toInt64 (xs (9 * i + 5))) &&& (4294967295 : Int64))) (((Int32.toInt64 (xs (9 * i + 6))) <<< (Int32.toInt64 (32 : Int32) &&& 63)) ||| ((Int32.toInt64 (xs (9 * i + 7))) &&& (4294967295 : Int64))) (xs (9 * i + 8)) _ v) (fun v A hF hx => y_read hF hx _ _ _ _ _ _) (fun r H hj => ?_)
      refine oh_sE (9 * i + 1) (sx 1 _ rfl) (by omega) hL2 ?_
      refine oh_sE (9 * i + 2) (sx 2 _ rfl) (by omega) hL2 ?_
      refine oh_sE (9 * i + 3) (sx 3 _ rfl) (by omega) hL2 ?_
      refine oh_sE (9 * i + 4) (sx 4 _ rfl) (by omega) hL2 ?_
      refine oh_sE (9 * i + 5) (sx 5 _ rfl) (by omega) hL2 ?_
      refine oh_sE (9 * i + 6) (sx 6 _ rfl) (by omega) hL2 ?_
      refine oh_sE (9 * i + 7) (sx 7 _ rfl) (by omega) hL2 ?_
      refine oh_sE (9 * i + 8) (sx 8 _ rfl) (by omega) hL2 ?_
      refine lt_rcvM hj ?_
      refine oh_bnd (lt_M (Sm := fun A r B => Sread (xs (9 * i + 1)) (xs (9 * i + 2)) (xs (9 * i + 3)) (((Int32.toInt64 (xs (9 * i + 4))) <<< (Int32.toInt64 (32 : Int32) &&& 63)) ||| ((Int32.toInt64 (xs (9 * i + 5))) &&& (4294967295 : Int64))) (((Int32.toInt64 (xs (9 * i + 6))) <<< (Int32.toInt64 (32 : Int32) &&& 63)) ||| ((Int32.toInt64 (xs (9 * i + 7))) &&& (4294967295 : Int64))) (xs (9 * i + 8)) A r B) (Qd := fun r r2 => i = 0 → r = r2) (cg := g_M_read (xs (9 * i + 1)) (xs (9 * i + 2)) (xs (9 * i + 3)) (((Int32.toInt64 (xs (9 * i + 4))) <<< (Int32.toInt64 (32 : Int32) &&& 63)) ||| ((Int32.toInt64 (xs (9 * i + 5))) &&& (4294967295 : Int64))) (((Int32.toInt64 (xs (9 * i + 6))) <<< (Int32.toInt64 (32 : Int32) &&& 63)) ||| ((Int32.toInt64 (xs (9 * i + 7))) &&& (4294967295 : Int64))) (xs (9 * i + 8))) hj (fun m => n_M_read (xs (9 * i + 1)) (xs (9 * i + 2)) (xs (9 * i + 3)) (((Int32.toInt64 (xs (9 * i + 4))) <<< (Int32.toInt64 (32 : Int32) &&& 63)) ||| ((Int32.toInt64 (xs (9 * i + 5))) &&& (4294967295 : Int64))) (((Int32.toInt64 (xs (9 * i + 6))) <<< (Int32.toInt64 (32 : Int32) &&& 63)) ||| ((Int32.toInt64 (xs (9 * i + 7))) &&& (4294967295 : Int64))) (xs (9 * i + 8)) _ m) (fun m A hF hm => z_read hF hm _ _ _ _ _ _) (fun A r r2 B B' hF h1 h2 => ⟨fun hz => (Sread_det hF.1 h1 h2).1 (fine0 hF hz _), (Sread_det hF.1 h1 h2).2⟩) (fun A r B hF hs => Fine_read hF hs)) ?_
      rintro r2 H2 ⟨-, hl2⟩
      exact next H2 hl2
    refine oh_if (fun _ => ?_) (fun _ => ?_)
    · skip
      refine oh_sE (9 * i + 1) (sx 1 _ rfl) (by omega) hL2 ?_
      refine oh_sE (9 * i + 2) (sx 2 _ rfl) (by omega) hL2 ?_
      refine oh_sE (9 * i + 3) (sx 3 _ rfl) (by omega) hL2 ?_
      refine lr_rcvD hl ?_
      refine lr_D (Sd := fun A r B => Scell (xs (9 * i + 1)) (((Int32.toInt64 (xs (9 * i + 2))) <<< (Int32.toInt64 (32 : Int32) &&& 63)) ||| ((Int32.toInt64 (xs (9 * i + 3))) &&& (4294967295 : Int64))) A r B) (cv := cv_D_cell (xs (9 * i + 1)) (((Int32.toInt64 (xs (9 * i + 2))) <<< (Int32.toInt64 (32 : Int32) &&& 63)) ||| ((Int32.toInt64 (xs (9 * i + 3))) &&& (4294967295 : Int64)))) hi5 hl (fun w h1 h2 h3 => oh_imp (cp_so h2 (t_cell (st_of h1) _ _)) (fun _ _ p => p.2)) (fun v => cw_D_cell (xs (9 * i + 1)) (((Int32.toInt64 (xs (9 * i + 2))) <<< (Int32.toInt64 (32 : Int32) &&& 63)) ||| ((Int32.toInt64 (xs (9 * i + 3))) &&& (4294967295 : Int64))) _ v) (fun v A hF hx => y_cell hx _ _) (fun r H hj => ?_)
      refine oh_sE (9 * i + 1) (sx 1 _ rfl) (by omega) hL2 ?_
      refine oh_sE (9 * i + 2) (sx 2 _ rfl) (by omega) hL2 ?_
      refine oh_sE (9 * i + 3) (sx 3 _ rfl) (by omega) hL2 ?_
      refine lt_rcvM hj ?_
      refine oh_bnd (lt_M (Sm := fun A r B => Scell (xs (9 * i + 1)) (((Int32.toInt64 (xs (9 * i + 2))) <<< (Int32.toInt64 (32 : Int32) &&& 63)) ||| ((Int32.toInt64 (xs (9 * i + 3))) &&& (4294967295 : Int64))) A r B) (Qd := fun r r2 => r = r2) (cg := g_M_cell (xs (9 * i + 1)) (((Int32.toInt64 (xs (9 * i + 2))) <<< (Int32.toInt64 (32 : Int32) &&& 63)) ||| ((Int32.toInt64 (xs (9 * i + 3))) &&& (4294967295 : Int64)))) hj (fun m => n_M_cell (xs (9 * i + 1)) (((Int32.toInt64 (xs (9 * i + 2))) <<< (Int32.toInt64 (32 : Int32) &&& 63)) ||| ((Int32.toInt64 (xs (9 * i + 3))) &&& (4294967295 : Int64))) _ m) (fun m A hF hm => z_cell hm _ _) (fun A r r2 B B' hF h1 h2 => Scell_det h1 h2) (fun A r B hF hs => Fine_cell hF hs)) ?_
      rintro r2 H2 ⟨-, hl2⟩
      exact next H2 hl2
    refine oh_if (fun _ => ?_) (fun _ => ?_)
    · skip
      refine lr_rcvD hl ?_
      refine lr_DU (Sd := fun A _ B => B = clA A) (cv := cv_D_clear ) hi5 hl (fun w h1 h2 h3 => oh_imp (cp_so h2 (t_clear (st_of h1))) (fun _ _ p => p.2)) (fun v => cw_D_clear  _ v) (fun v A hF hx => oc_imp (y_clear hx) (fun _ _ q => ⟨clA A, rfl, q⟩)) (fun H hj => ?_)
      refine lt_rcvM hj ?_
      refine oh_bndU (lt_M (Sm := fun A _ B => B = clA A) (Qd := fun _ _ => True) (cg := g_M_clear ) hj (fun m => n_M_clear  _ m) (fun m A hF hm => ok_imp (z_clear hm) (fun _ _ q => ⟨clA A, rfl, q⟩)) (fun A r r2 B B' hF h1 h2 => ⟨trivial, h1.trans h2.symm⟩) (fun A r B hF hs => by rw [hs]; exact Fine_clear hF)) ?_
      rintro H2 ⟨-, hl2⟩
      exact next H2 hl2
    refine oh_if (fun _ => ?_) (fun _ => ?_)
    · skip
      refine oh_sE (9 * i + 1) (sx 1 _ rfl) (by omega) hL2 ?_
      refine oh_sE (9 * i + 2) (sx 2 _ rfl) (by omega) hL2 ?_
      refine lr_rcvD hl ?_
      refine lr_D (Sd := fun A r B => Swrite (xs (9 * i + 1)) (xs (9 * i + 2)) A r B) (cv := cv_D_write (xs (9 * i + 1)) (xs (9 * i + 2))) hi5 hl (fun w h1 h2 h3 => oh_imp (cp_so h2 (t_write h3 (st_of h1) _ _)) (fun _ _ p => p.2)) (fun v => cw_D_write (xs (9 * i + 1)) (xs (9 * i + 2)) _ v) (fun v A hF hx => y_write hF hx _ _) (fun r H hj => ?_)
      refine oh_sE (9 * i + 1) (sx 1 _ rfl) (by omega) hL2 ?_
      refine oh_sE (9 * i + 2) (sx 2 _ rfl) (by omega) hL2 ?_
      refine lt_rcvM hj ?_
      refine oh_bnd (lt_M (Sm := fun A r B => Swrite (xs (9 * i + 1)) (xs (9 * i + 2)) A r B) (Qd := fun r r2 => r = r2) (cg := g_M_write (xs (9 * i + 1)) (xs (9 * i + 2))) hj (fun m => n_M_write (xs (9 * i + 1)) (xs (9 * i + 2)) _ m) (fun m A hF hm => z_write hF hm _ _) (fun A r r2 B B' hF h1 h2 => Swrite_det hF.1 h1 h2) (fun A r B hF hs => Fine_write hF hs)) ?_
      rintro r2 H2 ⟨-, hl2⟩
      exact next H2 hl2
    refine oh_if (fun _ => ?_) (fun _ => ?_)
    · skip
      refine oh_sE (9 * i + 1) (sx 1 _ rfl) (by omega) hL2 ?_
      refine oh_sE (9 * i + 2) (sx 2 _ rfl) (by omega) hL2 ?_
      refine lr_rcvD hl ?_
      refine lr_D (Sd := fun A r B => Smiss (xs (9 * i + 1)) (xs (9 * i + 2)) A r B) (cv := cv_D_miss (xs (9 * i + 1)) (xs (9 * i + 2))) hi5 hl (fun w h1 h2 h3 => oh_imp (cp_so h2 (t_miss (st_of h1) _ _)) (fun _ _ p => p.2)) (fun v => cw_D_miss (xs (9 * i + 1)) (xs (9 * i + 2)) _ v) (fun v A hF hx => y_miss hF hx _ _) (fun r H hj => ?_)
      refine oh_sE (9 * i + 1) (sx 1 _ rfl) (by omega) hL2 ?_
      refine oh_sE (9 * i + 2) (sx 2 _ rfl) (by omega) hL2 ?_
      refine lt_rcvM hj ?_
      refine oh_bnd (lt_M (Sm := fun A r B => Smiss (xs (9 * i + 1)) (xs (9 * i + 2)) A r B) (Qd := fun r r2 => r = r2) (cg := g_M_miss (xs (9 * i + 1)) (xs (9 * i + 2))) hj (fun m => n_M_miss (xs (9 * i + 1)) (xs (9 * i + 2)) _ m) (fun m A hF hm => z_miss hF hm _ _) (fun A r r2 B B' hF h1 h2 => Smiss_det hF.1 h1 h2) (fun A r B hF hs => Fine_miss hF hs)) ?_
      rintro r2 H2 ⟨-, hl2⟩
      exact next H2 hl2
    refine oh_if (fun _ => ?_) (fun _ => ?_)
    · skip
      refine oh_sE (9 * i + 1) (sx 1 _ rfl) (by omega) hL2 ?_
      refine lr_rcvD hl ?_
      refine lr_D (Sd := fun A r B => Scommit (xs (9 * i + 1)) A r B) (cv := cv_D_commit (xs (9 * i + 1))) hi5 hl (fun w h1 h2 h3 => oh_imp (cp_so h2 (t_commit (st_of h1) _)) (fun _ _ p => p.2)) (fun v => cw_D_commit (xs (9 * i + 1)) _ v) (fun v A hF hx => y_commit hi5 hF hx _) (fun r H hj => ?_)
      refine oh_sE (9 * i + 1) (sx 1 _ rfl) (by omega) hL2 ?_
      refine lt_rcvM hj ?_
      refine oh_bnd (lt_M (Sm := fun A r B => Scommit (xs (9 * i + 1)) A r B) (Qd := fun r r2 => r = r2) (cg := g_M_commit (xs (9 * i + 1))) hj (fun m => n_M_commit (xs (9 * i + 1)) _ m) (fun m A hF hm => z_commit hi5 hF hm _) (fun A r r2 B B' hF h1 h2 => Scommit_det hF.1 h1 h2) (fun A r B hF hs => Fine_commit hi5 hF hs)) ?_
      rintro r2 H2 ⟨he, hl2⟩
      exact oh_if (fun _ => next H2 hl2) (fun hne => absurd he hne)
    refine oh_if (fun _ => ?_) (fun _ => ?_)
    · skip
      refine oh_sE (9 * i + 1) (sx 1 _ rfl) (by omega) hL2 ?_
      refine lr_rcvD hl ?_
      refine lr_D (Sd := fun A r B => Sabort (xs (9 * i + 1)) A r B) (cv := cv_D_abort (xs (9 * i + 1))) hi5 hl (fun w h1 h2 h3 => oh_imp (cp_so h2 (t_abort (st_of h1) _)) (fun _ _ p => p.2)) (fun v => cw_D_abort (xs (9 * i + 1)) _ v) (fun v A hF hx => y_abort hF hx _) (fun r H hj => ?_)
      refine oh_sE (9 * i + 1) (sx 1 _ rfl) (by omega) hL2 ?_
      refine lt_rcvM hj ?_
      refine oh_bnd (lt_M (Sm := fun A r B => Sabort (xs (9 * i + 1)) A r B) (Qd := fun r r2 => r = r2) (cg := g_M_abort (xs (9 * i + 1))) hj (fun m => n_M_abort (xs (9 * i + 1)) _ m) (fun m A hF hm => z_abort hF hm _) (fun A r r2 B B' hF h1 h2 => Sabort_det hF.1 h1 h2) (fun A r B hF hs => Fine_abort hF hs)) ?_
      rintro r2 H2 ⟨-, hl2⟩
      exact next H2 hl2
    refine oh_if (fun _ => ?_) (fun _ => ?_)
    · skip
      refine oh_sE (9 * i + 1) (sx 1 _ rfl) (by omega) hL2 ?_
      refine lr_rcvD hl ?_
      refine lr_D (Sd := fun A r B => Sdoom (xs (9 * i + 1)) A r B) (cv := cv_D_doom (xs (9 * i + 1))) hi5 hl (fun w h1 h2 h3 => oh_imp (cp_so h2 (t_doom (st_of h1) _)) (fun _ _ p => p.2)) (fun v => cw_D_doom (xs (9 * i + 1)) _ v) (fun v A hF hx => y_doom hF hx _) (fun r H hj => ?_)
      refine oh_sE (9 * i + 1) (sx 1 _ rfl) (by omega) hL2 ?_
      refine lt_rcvM hj ?_
      refine oh_bnd (lt_M (Sm := fun A r B => Sdoom (xs (9 * i + 1)) A r B) (Qd := fun r r2 => r = r2) (cg := g_M_doom (xs (9 * i + 1))) hj (fun m => n_M_doom (xs (9 * i + 1)) _ m) (fun m A hF hm => z_doom hF hm _) (fun A r r2 B B' hF h1 h2 => Sdoom_det hF.1 h1 h2) (fun A r B hF hs => Fine_doom hF hs)) ?_
      rintro r2 H2 ⟨-, hl2⟩
      exact next H2 hl2
    refine oh_if (fun _ => ?_) (fun _ => ?_)
    · skip
      refine oh_sE (9 * i + 1) (sx 1 _ rfl) (by omega) hL2 ?_
      refine oh_sE (9 * i + 2) (sx 2 _ rfl) (by omega) hL2 ?_
      refine lr_rcvD hl ?_
      refine lr_D (Sd := fun A r B => Slook (xs (9 * i + 1)) (xs (9 * i + 2)) A r ∧ B = A) (cv := cv_D_look (xs (9 * i + 1)) (xs (9 * i + 2))) hi5 hl (fun w h1 h2 h3 => oh_imp (cp_so h2 (t_look (st_of h1) _ _)) (fun _ _ p => p.2)) (fun v => cw_D_look (xs (9 * i + 1)) (xs (9 * i + 2)) _ v) (fun v A hF hx => oc_imp (y_look hF hx _ _) (fun _ _ q => ⟨A, ⟨q.1, rfl⟩, q.2⟩)) (fun r H hj => ?_)
      refine oh_sE (9 * i + 1) (sx 1 _ rfl) (by omega) hL2 ?_
      refine oh_sE (9 * i + 2) (sx 2 _ rfl) (by omega) hL2 ?_
      refine lt_rcvM hj ?_
      refine oh_bnd (lt_M (Sm := fun A r B => Slook (xs (9 * i + 1)) (xs (9 * i + 2)) A r ∧ B = A) (Qd := fun r r2 => r = r2) (cg := g_M_look (xs (9 * i + 1)) (xs (9 * i + 2))) hj (fun m => n_M_look (xs (9 * i + 1)) (xs (9 * i + 2)) _ m) (fun m A hF hm => ok_imp (z_look hF hm _ _) (fun _ _ q => ⟨A, ⟨q.1, rfl⟩, q.2⟩)) (fun A r r2 B B' hF h1 h2 => ⟨Slook_det h1.1 h2.1, h1.2.trans h2.2.symm⟩) (fun A r B hF hs => by rw [hs.2]; exact Fine_up hF)) ?_
      rintro r2 H2 ⟨-, hl2⟩
      exact next H2 hl2
    refine oh_if (fun _ => ?_) (fun _ => ?_)
    · skip
      refine oh_sE (9 * i + 1) (sx 1 _ rfl) (by omega) hL2 ?_
      refine oh_sE (9 * i + 2) (sx 2 _ rfl) (by omega) hL2 ?_
      refine lr_rcvD hl ?_
      refine lr_D (Sd := fun A r B => say (aK A (xs (9 * i + 1)) ∧ aK A (xs (9 * i + 2)) ∧ aA A (xs (9 * i + 1)) (xs (9 * i + 2))) r ∧ B = A) (cv := cv_D_arrow (xs (9 * i + 1)) (xs (9 * i + 2))) hi5 hl (fun w h1 h2 h3 => oh_imp (cp_so h2 (t_arrow (st_of h1) _ _)) (fun _ _ p => p.2)) (fun v => cw_D_arrow (xs (9 * i + 1)) (xs (9 * i + 2)) _ v) (fun v A hF hx => oc_imp (y_arrow hx _ _) (fun _ _ q => ⟨A, ⟨q.1, rfl⟩, q.2⟩)) (fun r H hj => ?_)
      refine oh_sE (9 * i + 1) (sx 1 _ rfl) (by omega) hL2 ?_
      refine oh_sE (9 * i + 2) (sx 2 _ rfl) (by omega) hL2 ?_
      refine lt_rcvM hj ?_
      refine oh_bnd (lt_M (Sm := fun A r B => say (aK A (xs (9 * i + 1)) ∧ aK A (xs (9 * i + 2)) ∧ aA A (xs (9 * i + 1)) (xs (9 * i + 2))) r ∧ B = A) (Qd := fun r r2 => r = r2) (cg := g_M_arrow (xs (9 * i + 1)) (xs (9 * i + 2))) hj (fun m => n_M_arrow (xs (9 * i + 1)) (xs (9 * i + 2)) _ m) (fun m A hF hm => ok_imp (z_arrow hm _ _) (fun _ _ q => ⟨A, ⟨q.1, rfl⟩, q.2⟩)) (fun A r r2 B B' hF h1 h2 => ⟨say_det h1.1 h2.1, h1.2.trans h2.2.symm⟩) (fun A r B hF hs => by rw [hs.2]; exact Fine_up hF)) ?_
      rintro r2 H2 ⟨-, hl2⟩
      exact next H2 hl2
    refine oh_if (fun _ => ?_) (fun _ => ?_)
    · skip
      refine lr_rcvD hl ?_
      refine lr_D (Sd := fun A (r : Int32) B => r = 0 ∧ B = A) (cv := cv_D_rings ) hi5 hl (fun w h1 h2 h3 => oh_ret (cp_st h2 (st_of h1))) (fun v => cw_D_rings  _ v) (fun v A hF hx => oc_imp (y_rings hx) (fun _ _ q => ⟨A, ⟨q.1, rfl⟩, q.2⟩)) (fun r H hj => ?_)
      refine lt_rcvM hj ?_
      refine oh_bnd (lt_M (Sm := fun A (r : Int32) B => r = 0 ∧ B = A) (Qd := fun r r2 => r = r2) (cg := g_M_rings ) hj (fun m => n_M_rings  _ m) (fun m A hF hm => ok_imp (z_rings hF hm) (fun _ _ q => ⟨A, ⟨q.1, rfl⟩, q.2⟩)) (fun A r r2 B B' hF h1 h2 => ⟨h1.1.trans h2.1.symm, h1.2.trans h2.2.symm⟩) (fun A r B hF hs => by rw [hs.2]; exact Fine_up hF)) ?_
      rintro r2 H2 ⟨-, hl2⟩
      exact next H2 hl2
    refine oh_if (fun _ => ?_) (fun _ => ?_)
    · skip
      refine oh_sE (9 * i + 1) (sx 1 _ rfl) (by omega) hL2 ?_
      refine lr_rcvD hl ?_
      refine lr_D (Sd := fun A r B => Scount (xs (9 * i + 1)) A r ∧ B = A) (cv := cv_D_count (xs (9 * i + 1))) hi5 hl (fun w h1 h2 h3 => oh_imp (cp_so h2 (t_count (st_of h1) _)) (fun _ _ p => p.2)) (fun v => cw_D_count (xs (9 * i + 1)) _ v) (fun v A hF hx => oc_imp (y_count hF hx _) (fun _ _ q => ⟨A, ⟨q.1, rfl⟩, q.2⟩)) (fun r H hj => ?_)
      refine oh_sE (9 * i + 1) (sx 1 _ rfl) (by omega) hL2 ?_
      refine lt_rcvM hj ?_
      refine oh_bnd (lt_M (Sm := fun A r B => Scount (xs (9 * i + 1)) A r ∧ B = A) (Qd := fun r r2 => r = r2) (cg := g_M_count (xs (9 * i + 1))) hj (fun m => n_M_count (xs (9 * i + 1)) _ m) (fun m A hF hm => ok_imp (z_count hF hm _) (fun _ _ q => ⟨A, ⟨q.1, rfl⟩, q.2⟩)) (fun A r r2 B B' hF h1 h2 => ⟨h1.1.trans h2.1.symm, h1.2.trans h2.2.symm⟩) (fun A r B hF hs => by rw [hs.2]; exact Fine_up hF)) ?_
      rintro r2 H2 ⟨-, hl2⟩
      exact next H2 hl2
    exact next h (lr_up hl)
theorem law_pure {L : Nat} {xs : Nat → Int32} (hL : L ≤ 4608) (n : Nat) : ∃ h' : AH, f_L_law L xs (h_0 n) = some (1, h') ∧ h'.2.1 ≤ n + 600000 ∧ h'.2.2 ≤ 7302250 := by
  have key : OH (f_L_law L xs (h_0 n)) (fun r H => r = 1 ∧ H.2.1 ≤ n + 600000 ∧ H.2.2 ≤ 7302250) := by
    unfold f_L_law
    refine oh_nO (fun h1 f1 o1 z1 y1 => ?_)
    refine oh_bndU (D_init_ok (X := n) f1 z1) ?_
    rintro h2 ⟨d1, d2, d3, d4, d5, d6, d7, d8, d9⟩
    refine oh_nO (fun h3 f3 o3 z3 y3 => ?_)
    rw [d8] at f3 o3 z3 ⊢
    refine oh_bndU (M_init_ok (M := n + 6) f3 z3) ?_
    rintro h4 ⟨m1, m2, m3, m4, m5⟩
    have old : ∀ q, q < n + 6 → h4.1 q = h2.1 q := fun q hq => (m3 q (by omega)).trans (o3 q (by omega))
    have bk : ∀ q, (q < n ∨ n + 26 ≤ q) → h4.1 q = none := fun q hq => by
      rw [m3 q (by omega), o3 q (by omega), d7 q (by omega), o1 q (show q ≠ n by omega)]
      rfl
    have e0 := (old n (by omega)).trans d1
    have e1 := (old (n + 1) (by omega)).trans d2
    have e2 := (old (n + 2) (by omega)).trans d3
    have e3 := (old (n + 3) (by omega)).trans d4
    have e4 := (old (n + 4) (by omega)).trans d5
    have e5 := (old (n + 5) (by omega)).trans d6
    have hm : MH (n + 6) m_0 h4 := ⟨m1, fun d q1 q2 => m2 d q1 q2⟩
    have hc : CI n (n + 26) h4 := by
      refine ⟨fun q e hq hr => ?_, ⟨by simp only [kd, e0]; rfl, by simp only [kd, e1]; rfl, by simp only [kd, e2]; rfl, by simp only [kd, e3]; rfl, by simp only [kd, e4]; rfl, by simp only [kd, e5]; rfl⟩, fun q c hk hcc => ?_, fun q hq => bk q (by omega), by omega⟩
      · rcases (show q < n ∨ q = n ∨ q = n + 1 ∨ q = n + 2 ∨ q = n + 3 ∨ q = n + 4 ∨ q = n + 5 ∨ n + 26 ≤ q by omega) with h9 | rfl | rfl | rfl | rfl | rfl | rfl | h9
        · rw [bk q (by omega)] at hq; cases hq
        · rw [e0] at hq; cases hq
          exact ⟨fun _ h => (by cases h), fun _ h => (by cases h), fun _ h => (by cases h), fun _ h => (by cases h; exact ⟨0, 0, 0, rfl⟩), fun _ _ h => (by cases h), fun _ _ h => (by cases h), fun _ _ h => (by cases h), fun _ _ h => (by cases h), fun _ _ h => (by cases h)⟩
        · rw [e1] at hq; cases hq
          exact ⟨fun _ h => (by cases h), fun _ h => (by cases h), fun _ h => (by cases h; rfl), fun _ h => (by cases h), fun _ _ h => (by cases h), fun _ _ h => (by cases h), fun _ _ h => (by cases h), fun _ _ h => (by cases h), fun _ _ h => (by cases h)⟩
        · rw [e2] at hq; cases hq
          exact ⟨fun _ h => (by cases h), fun _ h => (by cases h), fun _ h => (by cases h), fun _ h => (by cases h), fun _ _ h => (by cases h; exact ⟨fun _ => 0, rfl⟩), fun _ _ h => (by cases h), fun _ _ h => (by cases h), fun _ _ h => (by cases h), fun _ _ h => (by cases h)⟩
        · rw [e3] at hq; cases hq
          exact ⟨fun _ h => (by cases h), fun _ h => (by cases h), fun _ h => (by cases h), fun _ h => (by cases h), fun _ _ h => (by cases h), fun _ _ h => (by cases h; exact ⟨fun _ => 0, rfl, fun _ => Or.inl rfl⟩), fun _ _ h => (by cases h), fun _ _ h => (by cases h), fun _ _ h => (by cases h)⟩
        · rw [e4] at hq; cases hq
          exact ⟨fun _ h => (by cases h), fun _ h => (by cases h), fun _ h => (by cases h), fun _ h => (by cases h), fun _ _ h => (by cases h), fun _ _ h => (by cases h), fun _ _ h => (by cases h; exact ⟨fun _ => none, rfl, fun _ => Or.inl rfl⟩), fun _ _ h => (by cases h), fun _ _ h => (by cases h)⟩
        · rw [e5] at hq; cases hq
          exact ⟨fun _ h => (by cases h), fun _ h => (by cases h), fun _ h => (by cases h), fun _ h => (by cases h), fun _ _ h => (by cases h), fun _ _ h => (by cases h), fun _ _ h => (by cases h; exact ⟨fun _ => none, rfl, fun _ => Or.inl rfl⟩), fun _ _ h => (by cases h), fun _ _ h => (by cases h)⟩
        · rw [bk q (by omega)] at hq; cases hq
      · exfalso
        rcases (show (q < n ∨ n + 26 ≤ q) ∨ q = n ∨ q = n + 1 ∨ q = n + 2 ∨ q = n + 3 ∨ q = n + 4 ∨ q = n + 5 ∨ q = n + 6 ∨ (n + 7 ≤ q ∧ q ≤ n + 25) by omega) with h9 | rfl | rfl | rfl | rfl | rfl | rfl | rfl | ⟨g1, g2⟩
        · simp only [kd, bk q h9] at hk; cases hk
        · simp only [kd, e0] at hk; cases hk; omega
        · simp only [kd, e1] at hk; cases hk; omega
        · simp only [kd, e2] at hk; cases hk
        · simp only [kd, e3] at hk; cases hk
        · simp only [kd, e4] at hk; cases hk
        · simp only [kd, e5] at hk; cases hk
        · simp only [kd, hm.1] at hk; cases hk; omega
        · have := hm.2 (q - (n + 6)) (by omega) (by omega)
          rw [show n + 6 + (q - (n + 6)) = q by omega] at this
          simp only [kd, this] at hk
          cases hk
    have hs : msum 19 = 28152 := rfl
    have hch : CH n (v_0 h4.2) h4 := by
      have z1 : (cZ (v_0 h4.2)).1 = n + 26 := m4
      refine ⟨⟨e0, e1, e2, e3, e4, e5⟩, fun a t ht => (by cases ht), fun b g hg => (by cases hg), rfl, by rw [z1]; exact Nat.le_refl _, fun q hq => bk q (Or.inr (by rw [z1] at hq; exact hq))⟩
    refine law_loop (X := n) hL 2000 0 h4 (by omega) (by omega) ⟨n + 26, m_0, v_0 h4.2, A_0, ⟨hc, by omega, by omega, ?_⟩, hm, hch, AM_0, AX_0 _, Fine_0⟩
    rw [m5, hs, y3, d9, y1]
    show 0 + 6 + 88 + 22 + 28152 ≤ 28268 + 40 * 0
    omega
  obtain ⟨r, H, e, hr, h1, h2⟩ := key
  subst hr
  exact ⟨H, e, h1, h2⟩
