/-! SerialDeskModel.hasRead(II)Z -/
theorem d_M_hasRead_0 : decode b_M_hasRead 0 = .ok (.iconst 0, 1) := by decide +kernel
theorem d_M_hasRead_1 : decode b_M_hasRead 1 = .ok (.istore_n 3, 1) := by decide +kernel
theorem d_M_hasRead_2 : decode b_M_hasRead 2 = .ok (.iconst 0, 1) := by decide +kernel
theorem d_M_hasRead_3 : decode b_M_hasRead 3 = .ok (.istore 4, 2) := by decide +kernel
theorem d_M_hasRead_5 : decode b_M_hasRead 5 = .ok (.iload 4, 2) := by decide +kernel
theorem d_M_hasRead_7 : decode b_M_hasRead 7 = .ok (.aload_n 0, 1) := by decide +kernel
theorem d_M_hasRead_8 : decode b_M_hasRead 8 = .ok (.getfield 32, 3) := by decide +kernel
theorem d_M_hasRead_11 : decode b_M_hasRead 11 = .ok (.bipush 8, 2) := by decide +kernel
theorem d_M_hasRead_13 : decode b_M_hasRead 13 = .ok (.iload_n 1, 1) := by decide +kernel
theorem d_M_hasRead_14 : decode b_M_hasRead 14 = .ok (.imul, 1) := by decide +kernel
theorem d_M_hasRead_15 : decode b_M_hasRead 15 = .ok (.iload_n 2, 1) := by decide +kernel
theorem d_M_hasRead_16 : decode b_M_hasRead 16 = .ok (.iadd, 1) := by decide +kernel
theorem d_M_hasRead_17 : decode b_M_hasRead 17 = .ok (.iaload, 1) := by decide +kernel
theorem d_M_hasRead_18 : decode b_M_hasRead 18 = .ok (.if_icmp .ge 38, 3) := by decide +kernel
theorem d_M_hasRead_21 : decode b_M_hasRead 21 = .ok (.iload_n 3, 1) := by decide +kernel
theorem d_M_hasRead_22 : decode b_M_hasRead 22 = .ok (.ifCond .ne 22, 3) := by decide +kernel
theorem d_M_hasRead_25 : decode b_M_hasRead 25 = .ok (.aload_n 0, 1) := by decide +kernel
theorem d_M_hasRead_26 : decode b_M_hasRead 26 = .ok (.bipush 8, 2) := by decide +kernel
theorem d_M_hasRead_28 : decode b_M_hasRead 28 = .ok (.bipush 8, 2) := by decide +kernel
theorem d_M_hasRead_30 : decode b_M_hasRead 30 = .ok (.iload_n 1, 1) := by decide +kernel
theorem d_M_hasRead_31 : decode b_M_hasRead 31 = .ok (.imul, 1) := by decide +kernel
theorem d_M_hasRead_32 : decode b_M_hasRead 32 = .ok (.iload_n 2, 1) := by decide +kernel
theorem d_M_hasRead_33 : decode b_M_hasRead 33 = .ok (.iadd, 1) := by decide +kernel
theorem d_M_hasRead_34 : decode b_M_hasRead 34 = .ok (.imul, 1) := by decide +kernel
theorem d_M_hasRead_35 : decode b_M_hasRead 35 = .ok (.iload 4, 2) := by decide +kernel
theorem d_M_hasRead_37 : decode b_M_hasRead 37 = .ok (.iadd, 1) := by decide +kernel
theorem d_M_hasRead_38 : decode b_M_hasRead 38 = .ok (.invokevirtual 91, 3) := by decide +kernel
theorem d_M_hasRead_41 : decode b_M_hasRead 41 = .ok (.ifCond .eq 7, 3) := by decide +kernel
theorem d_M_hasRead_44 : decode b_M_hasRead 44 = .ok (.iconst 1, 1) := by decide +kernel
theorem d_M_hasRead_45 : decode b_M_hasRead 45 = .ok (.goto 4, 3) := by decide +kernel
theorem d_M_hasRead_48 : decode b_M_hasRead 48 = .ok (.iconst 0, 1) := by decide +kernel
theorem d_M_hasRead_49 : decode b_M_hasRead 49 = .ok (.istore_n 3, 1) := by decide +kernel
theorem d_M_hasRead_50 : decode b_M_hasRead 50 = .ok (.iinc 4 1, 3) := by decide +kernel
theorem d_M_hasRead_53 : decode b_M_hasRead 53 = .ok (.goto (-48), 3) := by decide +kernel
theorem d_M_hasRead_56 : decode b_M_hasRead 56 = .ok (.iload_n 3, 1) := by decide +kernel
theorem d_M_hasRead_57 : decode b_M_hasRead 57 = .ok (.ireturn, 1) := by decide +kernel
abbrev X_M_hasRead (p : Program) (l : Launch) (e : Env) (k1 k2 : Nat) (s : State) (m : MethodId) (args : Array Value) (below : List Frame) (meth : Method) (c : Code) (B : AB) (n0 m0 : Nat) (h : AH) (pc : Nat) (lv : List (Nat × Value)) (st : List Value) (comp : Option (Int32 × AH)) : Prop := XX p l e { frames := 1, cells := k1, slots := k2, locals := 26 } s m args below meth c b_M_hasRead o_M lw_tt 5 (Option.some Jvm.ClassFile.FieldType.boolean) "hasRead" B n0 m0 (QM B below args s { frames := 1, cells := k1, slots := k2, locals := 26 } eI) h pc lv st comp
def f_M_hasRead_b44 (K5 : Nat → Int32 → Int32 → Int32 → Int32 → AH → Option (Int32 × AH)) (a0 : Nat) (x1 : Int32) (x2 : Int32) (x4 : Int32) (h : AH) : Option (Int32 × AH) := K5 a0 x1 x2 (1 : Int32) (x4 + 1) h
def f_M_hasRead_b5 : Nat → Nat → Int32 → Int32 → Int32 → Int32 → AH → Option (Int32 × AH)
  | 0, _, _, _, _, _, _ => none
  | n + 1, a0, x1, x2, x3, x4, h => (fR h 4 10 (some a0)).bind (fun r1001 => (lI h 4 r1001 (((8 : Int32) * x1) + x2)).bind (fun x1002 => (if x1002 ≤ x4 then rZ x3 h else (if x3 = 0 then rcv h 4 (some a0) (fun b1005 => bnd (f_M_isIn b1005 (((8 : Int32) * (((8 : Int32) * x1) + x2)) + x4) h) (fun x1004 h1003 => (if x1004 = 0 then f_M_hasRead_b5 n a0 x1 x2 (0 : Int32) (x4 + 1) h1003 else f_M_hasRead_b44 (f_M_hasRead_b5 n) a0 x1 x2 x4 h1003))) else f_M_hasRead_b44 (f_M_hasRead_b5 n) a0 x1 x2 x4 h))))
def f_M_hasRead (a0 : Nat) (x1 : Int32) (x2 : Int32) (h : AH) : Option (Int32 × AH) := f_M_hasRead_b5 2000 a0 x1 x2 (0 : Int32) (0 : Int32) h
set_option maxHeartbeats 4000000 in
set_option maxRecDepth 100000 in
theorem x_M_hasRead_b44 {p : Program} {l : Launch} {e : Env} {k1 k2 : Nat} {s : State} {m : MethodId} {args : Array Value} {below : List Frame} {meth : Method} {c : Code} {B : AB} {n0 m0 : Nat} (K5 : Nat → Int32 → Int32 → Int32 → Int32 → AH → Option (Int32 × AH)) (hK5 : ∀ (a0 : Nat) (x1 : Int32) (x2 : Int32) (x3 : Int32) (x4 : Int32) (h : AH), X_M_hasRead p l e k1 k2 s m args below meth c B n0 m0 h 5 [(0, .ref a0), (1, .int x1), (2, .int x2), (3, .int x3), (4, .int x4)] [] (K5 a0 x1 x2 x3 x4 h)) (a0 : Nat) (x1 : Int32) (x2 : Int32) (x4 : Int32) (h : AH) : X_M_hasRead p l e k1 k2 s m args below meth c B n0 m0 h 44 [(0, .ref a0), (1, .int x1), (2, .int x2), (4, .int x4)] [] (f_M_hasRead_b44 K5 a0 x1 x2 x4 h) := by
  unfold f_M_hasRead_b44
  refine x_go (pc' := 45) (st' := [.int (1 : Int32)]) (fun hC _ _ _ _ _ _ hl k => lv_iconst (v := 1) hC.1 hC.2.1 d_M_hasRead_44 (by decide) k) ?_
  refine x_go (pc' := 49) (st' := [.int (1 : Int32)]) (fun hC _ _ _ _ _ _ hl k => lv_goto (tgt := 49) hC.1 hC.2.1 d_M_hasRead_45 (by decide) k) ?_
  refine x_lift (pc' := 50) (st' := []) (lv' := [(3, .int (1 : Int32)), (0, .ref a0), (1, .int x1), (2, .int x2), (4, .int x4)]) (fun hC _ _ _ _ _ _ hl k => lv_istore_n (i := 3) hC.1 hC.2.1 d_M_hasRead_49 rfl hl (by decide) rfl k) ?_
  refine x_lift (pc' := 53) (st' := []) (lv' := [(4, .int (x4 + 1)), (3, .int (1 : Int32)), (0, .ref a0), (1, .int x1), (2, .int x2)]) (fun hC _ _ _ _ _ _ hl k => lv_iinc (v := (x4 + 1)) hC.1 hC.2.1 d_M_hasRead_50 hl (k := 4) rfl rfl (by decide) rfl k) ?_
  refine x_go (pc' := 5) (st' := []) (fun hC _ _ _ _ _ _ hl k => lv_goto (tgt := 5) hC.1 hC.2.1 d_M_hasRead_53 (by decide) k) ?_
  exact x_sub (lv' := [(0, .ref a0), (1, .int x1), (2, .int x2), (3, .int (1 : Int32)), (4, .int (x4 + 1))]) [2, 3, 4, 1, 0] rfl (hK5 a0 x1 x2 (1 : Int32) (x4 + 1) h)
set_option maxHeartbeats 4000000 in
set_option maxRecDepth 100000 in
theorem x_M_hasRead_b5 {p : Program} {l : Launch} {e : Env} {k1 k2 : Nat} {s : State} {m : MethodId} {args : Array Value} {below : List Frame} {meth : Method} {c : Code} {B : AB} {n0 m0 : Nat} : ∀ (n : Nat) (a0 : Nat) (x1 : Int32) (x2 : Int32) (x3 : Int32) (x4 : Int32) (h : AH), X_M_hasRead p l e k1 k2 s m args below meth c B n0 m0 h 5 [(0, .ref a0), (1, .int x1), (2, .int x2), (3, .int x3), (4, .int x4)] [] (f_M_hasRead_b5 n a0 x1 x2 x3 x4 h) := by
  intro n
  induction n with
  | zero => intro a0 x1 x2 x3 x4 h; exact x_none
  | succ n ih =>
    intro a0 x1 x2 x3 x4 h
    rw [f_M_hasRead_b5]
    refine x_go (pc' := 7) (st' := [.int x4]) (fun hC _ _ _ _ _ _ hl k => lv_iload hC.1 hC.2.1 d_M_hasRead_5 (lv_at hl 4 rfl) k) ?_
    refine x_go (pc' := 8) (st' := [.ref a0, .int x4]) (fun hC _ _ _ _ _ _ hl k => lv_aload_n hC.1 hC.2.1 d_M_hasRead_7 rfl (lv_at hl 0 rfl) k) ?_
    refine x_getR (ci := 4) (kf := 10) (r := (some a0)) (fun hC => w_get hC iw_4 rfl 10 (by decide) tw_324 rfl d_M_hasRead_8) (fun r1001 => ?_)
    refine x_go (pc' := 13) (st' := [.int (8 : Int32), va_rf r1001, .int x4]) (fun hC _ _ _ _ _ _ hl k => lv_bipush (v := 8) hC.1 hC.2.1 d_M_hasRead_11 (by decide) k) ?_
    refine x_go (pc' := 14) (st' := [.int x1, .int (8 : Int32), va_rf r1001, .int x4]) (fun hC _ _ _ _ _ _ hl k => lv_iload_n hC.1 hC.2.1 d_M_hasRead_13 rfl (lv_at hl 1 rfl) k) ?_
    refine x_go (pc' := 15) (st' := [.int ((8 : Int32) * x1), va_rf r1001, .int x4]) (fun hC _ _ _ _ _ _ hl k => lv_imul hC.1 hC.2.1 d_M_hasRead_14 k) ?_
    refine x_go (pc' := 16) (st' := [.int x2, .int ((8 : Int32) * x1), va_rf r1001, .int x4]) (fun hC _ _ _ _ _ _ hl k => lv_iload_n hC.1 hC.2.1 d_M_hasRead_15 rfl (lv_at hl 2 rfl) k) ?_
    refine x_go (pc' := 17) (st' := [.int (((8 : Int32) * x1) + x2), va_rf r1001, .int x4]) (fun hC _ _ _ _ _ _ hl k => lv_iadd hC.1 hC.2.1 d_M_hasRead_16 k) ?_
    refine x_iald (t := 4) rfl (r := r1001) (i := (((8 : Int32) * x1) + x2)) d_M_hasRead_17 (fun x1002 => ?_)
    refine x_if (P := x1002 ≤ x4) (pt := 56) (pf := 21) (st' := []) (fun hC _ _ _ _ _ _ kt kf => lv_icmp_ge (tgt := 56) hC.1 hC.2.1 d_M_hasRead_18 (by decide) kt kf) ?_ ?_
    · refine x_go (pc' := 57) (st' := [.int x3]) (fun hC _ _ _ _ _ _ hl k => lv_iload_n hC.1 hC.2.1 d_M_hasRead_56 rfl (lv_at hl 3 rfl) k) ?_
      exact x_zret d_M_hasRead_57
    · refine x_go (pc' := 22) (st' := [.int x3]) (fun hC _ _ _ _ _ _ hl k => lv_iload_n hC.1 hC.2.1 d_M_hasRead_21 rfl (lv_at hl 3 rfl) k) ?_
      refine x_if (P := x3 = 0) (pt := 25) (pf := 44) (st' := []) (fun hC _ _ _ _ _ _ kt kf => lv_if_ne (tgt := 44) hC.1 hC.2.1 d_M_hasRead_22 (by decide) kf kt) ?_ ?_
      · refine x_go (pc' := 26) (st' := [.ref a0]) (fun hC _ _ _ _ _ _ hl k => lv_aload_n hC.1 hC.2.1 d_M_hasRead_25 rfl (lv_at hl 0 rfl) k) ?_
        refine x_go (pc' := 28) (st' := [.int (8 : Int32), .ref a0]) (fun hC _ _ _ _ _ _ hl k => lv_bipush (v := 8) hC.1 hC.2.1 d_M_hasRead_26 (by decide) k) ?_
        refine x_go (pc' := 30) (st' := [.int (8 : Int32), .int (8 : Int32), .ref a0]) (fun hC _ _ _ _ _ _ hl k => lv_bipush (v := 8) hC.1 hC.2.1 d_M_hasRead_28 (by decide) k) ?_
        refine x_go (pc' := 31) (st' := [.int x1, .int (8 : Int32), .int (8 : Int32), .ref a0]) (fun hC _ _ _ _ _ _ hl k => lv_iload_n hC.1 hC.2.1 d_M_hasRead_30 rfl (lv_at hl 1 rfl) k) ?_
        refine x_go (pc' := 32) (st' := [.int ((8 : Int32) * x1), .int (8 : Int32), .ref a0]) (fun hC _ _ _ _ _ _ hl k => lv_imul hC.1 hC.2.1 d_M_hasRead_31 k) ?_
        refine x_go (pc' := 33) (st' := [.int x2, .int ((8 : Int32) * x1), .int (8 : Int32), .ref a0]) (fun hC _ _ _ _ _ _ hl k => lv_iload_n hC.1 hC.2.1 d_M_hasRead_32 rfl (lv_at hl 2 rfl) k) ?_
        refine x_go (pc' := 34) (st' := [.int (((8 : Int32) * x1) + x2), .int (8 : Int32), .ref a0]) (fun hC _ _ _ _ _ _ hl k => lv_iadd hC.1 hC.2.1 d_M_hasRead_33 k) ?_
        refine x_go (pc' := 35) (st' := [.int ((8 : Int32) * (((8 : Int32) * x1) + x2)), .ref a0]) (fun hC _ _ _ _ _ _ hl k => lv_imul hC.1 hC.2.1 d_M_hasRead_34 k) ?_
        refine x_go (pc' := 37) (st' := [.int x4, .int ((8 : Int32) * (((8 : Int32) * x1) + x2)), .ref a0]) (fun hC _ _ _ _ _ _ hl k => lv_iload hC.1 hC.2.1 d_M_hasRead_35 (lv_at hl 4 rfl) k) ?_
        refine x_go (pc' := 38) (st' := [.int (((8 : Int32) * (((8 : Int32) * x1) + x2)) + x4), .ref a0]) (fun hC _ _ _ _ _ _ hl k => lv_iadd hC.1 hC.2.1 d_M_hasRead_37 k) ?_
        refine x_recv (ci := 4) (r := (some a0)) (fun b1005 _ eb1005 gb1005 => ?_)
        refine x_callI (rest := []) (c_M_isIn l B b1005 (((8 : Int32) * (((8 : Int32) * x1) + x2)) + x4) h) (fun hC => fun e1 e2 e3 e4 hM => fun hR hsz hc hs => run_V (n := 1) hC lw_good rfl rfl tw_421 tw_423 tv_19 tw_3 tw_424 (by decide) d_M_hasRead_38 gb1005 (by rw [e1]; exact Nat.le_of_ble_eq_true rfl) (by rw [e2]; exact Nat.le_of_ble_eq_true rfl) e3 e4 hM hR hsz hc hs rfl (by cases eb1005; rfl) (Nat.le_of_ble_eq_true rfl)) (fun x1004 h1003 => ?_)
        refine x_if (P := x1004 = 0) (pt := 48) (pf := 44) (st' := []) (fun hC _ _ _ _ _ _ kt kf => lv_if_eq (tgt := 48) hC.1 hC.2.1 d_M_hasRead_41 (by decide) kt kf) ?_ ?_
        · refine x_go (pc' := 49) (st' := [.int (0 : Int32)]) (fun hC _ _ _ _ _ _ hl k => lv_iconst (v := 0) hC.1 hC.2.1 d_M_hasRead_48 (by decide) k) ?_
          refine x_lift (pc' := 50) (st' := []) (lv' := [(3, .int (0 : Int32)), (0, .ref a0), (1, .int x1), (2, .int x2), (4, .int x4)]) (fun hC _ _ _ _ _ _ hl k => lv_istore_n (i := 3) hC.1 hC.2.1 d_M_hasRead_49 rfl hl (by decide) rfl k) ?_
          refine x_lift (pc' := 53) (st' := []) (lv' := [(4, .int (x4 + 1)), (3, .int (0 : Int32)), (0, .ref a0), (1, .int x1), (2, .int x2)]) (fun hC _ _ _ _ _ _ hl k => lv_iinc (v := (x4 + 1)) hC.1 hC.2.1 d_M_hasRead_50 hl (k := 4) rfl rfl (by decide) rfl k) ?_
          refine x_go (pc' := 5) (st' := []) (fun hC _ _ _ _ _ _ hl k => lv_goto (tgt := 5) hC.1 hC.2.1 d_M_hasRead_53 (by decide) k) ?_
          exact x_sub (lv' := [(0, .ref a0), (1, .int x1), (2, .int x2), (3, .int (0 : Int32)), (4, .int (x4 + 1))]) [2, 3, 4, 1, 0] rfl (ih a0 x1 x2 (0 : Int32) (x4 + 1) h1003)
        · exact x_sub (lv' := [(0, .ref a0), (1, .int x1), (2, .int x2), (4, .int x4)]) [0, 1, 2, 4] rfl (x_M_hasRead_b44 (f_M_hasRead_b5 n) ih a0 x1 x2 x4 h1003)
      · exact x_sub (lv' := [(0, .ref a0), (1, .int x1), (2, .int x2), (4, .int x4)]) [0, 1, 2, 4] rfl (x_M_hasRead_b44 (f_M_hasRead_b5 n) ih a0 x1 x2 x4 h)
set_option maxHeartbeats 4000000 in
set_option maxRecDepth 100000 in
theorem c_M_hasRead (l : Launch) (B : AB) (a0 : Nat) (x1 : Int32) (x2 : Int32) (h : AH) : CT l B y_M_hasRead (Cond.code y_M_hasRead b_M_hasRead 5 (Option.some Jvm.ClassFile.FieldType.boolean) :: lw_tt) 1 26 eI [.ref a0, .int x1, .int x2] h (f_M_hasRead a0 x1 x2 h) := by
  refine ct_of (own := o_M) (nm := "hasRead") (by decide +kernel) rfl rfl (Nat.le_of_ble_eq_true rfl) (fun p e k1 k2 s m args below meth c => ?_)
  refine x_sub (lv' := [(0, .ref a0), (1, .int x1), (2, .int x2)]) [0, 1, 2] rfl ?_
  unfold f_M_hasRead
  refine x_go (pc' := 1) (st' := [.int (0 : Int32)]) (fun hC _ _ _ _ _ _ hl k => lv_iconst (v := 0) hC.1 hC.2.1 d_M_hasRead_0 (by decide) k) ?_
  refine x_lift (pc' := 2) (st' := []) (lv' := [(3, .int (0 : Int32)), (0, .ref a0), (1, .int x1), (2, .int x2)]) (fun hC _ _ _ _ _ _ hl k => lv_istore_n (i := 3) hC.1 hC.2.1 d_M_hasRead_1 rfl hl (by decide) rfl k) ?_
  refine x_go (pc' := 3) (st' := [.int (0 : Int32)]) (fun hC _ _ _ _ _ _ hl k => lv_iconst (v := 0) hC.1 hC.2.1 d_M_hasRead_2 (by decide) k) ?_
  refine x_lift (pc' := 5) (st' := []) (lv' := [(4, .int (0 : Int32)), (3, .int (0 : Int32)), (0, .ref a0), (1, .int x1), (2, .int x2)]) (fun hC _ _ _ _ _ _ hl k => lv_istore (i := 4) hC.1 hC.2.1 d_M_hasRead_3 hl (by decide) rfl k) ?_
  exact x_sub (lv' := [(0, .ref a0), (1, .int x1), (2, .int x2), (3, .int (0 : Int32)), (4, .int (0 : Int32))]) [2, 3, 4, 1, 0] rfl (x_M_hasRead_b5 2000 a0 x1 x2 (0 : Int32) (0 : Int32) h)
/-! SerialDeskModel.isDanger(II)Z -/
theorem d_M_isDanger_0 : decode b_M_isDanger 0 = .ok (.aload_n 0, 1) := by decide +kernel
theorem d_M_isDanger_1 : decode b_M_isDanger 1 = .ok (.getfield 26, 3) := by decide +kernel
theorem d_M_isDanger_4 : decode b_M_isDanger 4 = .ok (.iload_n 2, 1) := by decide +kernel
theorem d_M_isDanger_5 : decode b_M_isDanger 5 = .ok (.iaload, 1) := by decide +kernel
theorem d_M_isDanger_6 : decode b_M_isDanger 6 = .ok (.istore_n 3, 1) := by decide +kernel
theorem d_M_isDanger_7 : decode b_M_isDanger 7 = .ok (.iload_n 3, 1) := by decide +kernel
theorem d_M_isDanger_8 : decode b_M_isDanger 8 = .ok (.ifCond .le 45, 3) := by decide +kernel
theorem d_M_isDanger_11 : decode b_M_isDanger 11 = .ok (.aload_n 0, 1) := by decide +kernel
theorem d_M_isDanger_12 : decode b_M_isDanger 12 = .ok (.getfield 19, 3) := by decide +kernel
theorem d_M_isDanger_15 : decode b_M_isDanger 15 = .ok (.iload_n 1, 1) := by decide +kernel
theorem d_M_isDanger_16 : decode b_M_isDanger 16 = .ok (.iaload, 1) := by decide +kernel
theorem d_M_isDanger_17 : decode b_M_isDanger 17 = .ok (.ifCond .eq 13, 3) := by decide +kernel
theorem d_M_isDanger_20 : decode b_M_isDanger 20 = .ok (.aload_n 0, 1) := by decide +kernel
theorem d_M_isDanger_21 : decode b_M_isDanger 21 = .ok (.getfield 19, 3) := by decide +kernel
theorem d_M_isDanger_24 : decode b_M_isDanger 24 = .ok (.iload_n 1, 1) := by decide +kernel
theorem d_M_isDanger_25 : decode b_M_isDanger 25 = .ok (.iaload, 1) := by decide +kernel
theorem d_M_isDanger_26 : decode b_M_isDanger 26 = .ok (.iload_n 3, 1) := by decide +kernel
theorem d_M_isDanger_27 : decode b_M_isDanger 27 = .ok (.if_icmp .lt 26, 3) := by decide +kernel
theorem d_M_isDanger_30 : decode b_M_isDanger 30 = .ok (.aload_n 0, 1) := by decide +kernel
theorem d_M_isDanger_31 : decode b_M_isDanger 31 = .ok (.getfield 19, 3) := by decide +kernel
theorem d_M_isDanger_34 : decode b_M_isDanger 34 = .ok (.iload_n 2, 1) := by decide +kernel
theorem d_M_isDanger_35 : decode b_M_isDanger 35 = .ok (.iaload, 1) := by decide +kernel
theorem d_M_isDanger_36 : decode b_M_isDanger 36 = .ok (.ifCond .eq 13, 3) := by decide +kernel
theorem d_M_isDanger_39 : decode b_M_isDanger 39 = .ok (.aload_n 0, 1) := by decide +kernel
theorem d_M_isDanger_40 : decode b_M_isDanger 40 = .ok (.getfield 19, 3) := by decide +kernel
theorem d_M_isDanger_43 : decode b_M_isDanger 43 = .ok (.iload_n 2, 1) := by decide +kernel
theorem d_M_isDanger_44 : decode b_M_isDanger 44 = .ok (.iaload, 1) := by decide +kernel
theorem d_M_isDanger_45 : decode b_M_isDanger 45 = .ok (.iload_n 3, 1) := by decide +kernel
theorem d_M_isDanger_46 : decode b_M_isDanger 46 = .ok (.if_icmp .lt 7, 3) := by decide +kernel
theorem d_M_isDanger_49 : decode b_M_isDanger 49 = .ok (.iconst 1, 1) := by decide +kernel
theorem d_M_isDanger_50 : decode b_M_isDanger 50 = .ok (.goto 4, 3) := by decide +kernel
theorem d_M_isDanger_53 : decode b_M_isDanger 53 = .ok (.iconst 0, 1) := by decide +kernel
theorem d_M_isDanger_54 : decode b_M_isDanger 54 = .ok (.ireturn, 1) := by decide +kernel
abbrev X_M_isDanger (p : Program) (l : Launch) (e : Env) (k1 k2 : Nat) (s : State) (m : MethodId) (args : Array Value) (below : List Frame) (meth : Method) (c : Code) (B : AB) (n0 m0 : Nat) (h : AH) (pc : Nat) (lv : List (Nat × Value)) (st : List Value) (comp : Option (Int32 × AH)) : Prop := XX p l e { frames := 0, cells := k1, slots := k2, locals := 0 } s m args below meth c b_M_isDanger o_M lw_tt 4 (Option.some Jvm.ClassFile.FieldType.boolean) "isDanger" B n0 m0 (QM B below args s { frames := 0, cells := k1, slots := k2, locals := 0 } eI) h pc lv st comp
def f_M_isDanger_b30 (a0 : Nat) (x2 : Int32) (x3 : Int32) (h : AH) : Option (Int32 × AH) := (fR h 4 6 (some a0)).bind (fun r1001 => (lI h 4 r1001 x2).bind (fun x1002 => (if x1002 = 0 then rZ (1 : Int32) h else (fR h 4 6 (some a0)).bind (fun r1003 => (lI h 4 r1003 x2).bind (fun x1004 => (if x1004 < x3 then rZ (0 : Int32) h else rZ (1 : Int32) h))))))
def f_M_isDanger (a0 : Nat) (x1 : Int32) (x2 : Int32) (h : AH) : Option (Int32 × AH) := (fR h 4 8 (some a0)).bind (fun r101 => (lI h 4 r101 x2).bind (fun x102 => (if x102 ≤ 0 then rZ (0 : Int32) h else (fR h 4 6 (some a0)).bind (fun r103 => (lI h 4 r103 x1).bind (fun x104 => (if x104 = 0 then f_M_isDanger_b30 a0 x2 x102 h else (fR h 4 6 (some a0)).bind (fun r105 => (lI h 4 r105 x1).bind (fun x106 => (if x106 < x102 then rZ (0 : Int32) h else f_M_isDanger_b30 a0 x2 x102 h)))))))))
set_option maxHeartbeats 4000000 in
set_option maxRecDepth 100000 in
theorem x_M_isDanger_b30 {p : Program} {l : Launch} {e : Env} {k1 k2 : Nat} {s : State} {m : MethodId} {args : Array Value} {below : List Frame} {meth : Method} {c : Code} {B : AB} {n0 m0 : Nat} (a0 : Nat) (x2 : Int32) (x3 : Int32) (h : AH) : X_M_isDanger p l e k1 k2 s m args below meth c B n0 m0 h 30 [(0, .ref a0), (2, .int x2), (3, .int x3)] [] (f_M_isDanger_b30 a0 x2 x3 h) := by
  unfold f_M_isDanger_b30
  refine x_go (pc' := 31) (st' := [.ref a0]) (fun hC _ _ _ _ _ _ hl k => lv_aload_n hC.1 hC.2.1 d_M_isDanger_30 rfl (lv_at hl 0 rfl) k) ?_
  refine x_getR (ci := 4) (kf := 6) (r := (some a0)) (fun hC => w_get hC iw_4 rfl 6 (by decide) tw_320 rfl d_M_isDanger_31) (fun r1001 => ?_)
  refine x_go (pc' := 35) (st' := [.int x2, va_rf r1001]) (fun hC _ _ _ _ _ _ hl k => lv_iload_n hC.1 hC.2.1 d_M_isDanger_34 rfl (lv_at hl 1 rfl) k) ?_
  refine x_iald (t := 4) rfl (r := r1001) (i := x2) d_M_isDanger_35 (fun x1002 => ?_)
  refine x_if (P := x1002 = 0) (pt := 49) (pf := 39) (st' := []) (fun hC _ _ _ _ _ _ kt kf => lv_if_eq (tgt := 49) hC.1 hC.2.1 d_M_isDanger_36 (by decide) kt kf) ?_ ?_
  · refine x_go (pc' := 50) (st' := [.int (1 : Int32)]) (fun hC _ _ _ _ _ _ hl k => lv_iconst (v := 1) hC.1 hC.2.1 d_M_isDanger_49 (by decide) k) ?_
    refine x_go (pc' := 54) (st' := [.int (1 : Int32)]) (fun hC _ _ _ _ _ _ hl k => lv_goto (tgt := 54) hC.1 hC.2.1 d_M_isDanger_50 (by decide) k) ?_
    exact x_zret d_M_isDanger_54
  · refine x_go (pc' := 40) (st' := [.ref a0]) (fun hC _ _ _ _ _ _ hl k => lv_aload_n hC.1 hC.2.1 d_M_isDanger_39 rfl (lv_at hl 0 rfl) k) ?_
    refine x_getR (ci := 4) (kf := 6) (r := (some a0)) (fun hC => w_get hC iw_4 rfl 6 (by decide) tw_320 rfl d_M_isDanger_40) (fun r1003 => ?_)
    refine x_go (pc' := 44) (st' := [.int x2, va_rf r1003]) (fun hC _ _ _ _ _ _ hl k => lv_iload_n hC.1 hC.2.1 d_M_isDanger_43 rfl (lv_at hl 1 rfl) k) ?_
    refine x_iald (t := 4) rfl (r := r1003) (i := x2) d_M_isDanger_44 (fun x1004 => ?_)
    refine x_go (pc' := 46) (st' := [.int x3, .int x1004]) (fun hC _ _ _ _ _ _ hl k => lv_iload_n hC.1 hC.2.1 d_M_isDanger_45 rfl (lv_at hl 2 rfl) k) ?_
    refine x_if (P := x1004 < x3) (pt := 53) (pf := 49) (st' := []) (fun hC _ _ _ _ _ _ kt kf => lv_icmp_lt (tgt := 53) hC.1 hC.2.1 d_M_isDanger_46 (by decide) kt kf) ?_ ?_
    · refine x_go (pc' := 54) (st' := [.int (0 : Int32)]) (fun hC _ _ _ _ _ _ hl k => lv_iconst (v := 0) hC.1 hC.2.1 d_M_isDanger_53 (by decide) k) ?_
      exact x_zret d_M_isDanger_54
    · refine x_go (pc' := 50) (st' := [.int (1 : Int32)]) (fun hC _ _ _ _ _ _ hl k => lv_iconst (v := 1) hC.1 hC.2.1 d_M_isDanger_49 (by decide) k) ?_
      refine x_go (pc' := 54) (st' := [.int (1 : Int32)]) (fun hC _ _ _ _ _ _ hl k => lv_goto (tgt := 54) hC.1 hC.2.1 d_M_isDanger_50 (by decide) k) ?_
      exact x_zret d_M_isDanger_54
set_option maxHeartbeats 4000000 in
set_option maxRecDepth 100000 in
theorem c_M_isDanger (l : Launch) (B : AB) (a0 : Nat) (x1 : Int32) (x2 : Int32) (h : AH) : CT l B y_M_isDanger (Cond.code y_M_isDanger b_M_isDanger 4 (Option.some Jvm.ClassFile.FieldType.boolean) :: lw_tt) 0 0 eI [.ref a0, .int x1, .int x2] h (f_M_isDanger a0 x1 x2 h) := by
  refine ct_of (own := o_M) (nm := "isDanger") (by decide +kernel) rfl rfl (Nat.le_of_ble_eq_true rfl) (fun p e k1 k2 s m args below meth c => ?_)
  refine x_sub (lv' := [(0, .ref a0), (1, .int x1), (2, .int x2)]) [0, 1, 2] rfl ?_
  unfold f_M_isDanger
  refine x_go (pc' := 1) (st' := [.ref a0]) (fun hC _ _ _ _ _ _ hl k => lv_aload_n hC.1 hC.2.1 d_M_isDanger_0 rfl (lv_at hl 0 rfl) k) ?_
  refine x_getR (ci := 4) (kf := 8) (r := (some a0)) (fun hC => w_get hC iw_4 rfl 8 (by decide) tw_322 rfl d_M_isDanger_1) (fun r101 => ?_)
  refine x_go (pc' := 5) (st' := [.int x2, va_rf r101]) (fun hC _ _ _ _ _ _ hl k => lv_iload_n hC.1 hC.2.1 d_M_isDanger_4 rfl (lv_at hl 2 rfl) k) ?_
  refine x_iald (t := 4) rfl (r := r101) (i := x2) d_M_isDanger_5 (fun x102 => ?_)
  refine x_lift (pc' := 7) (st' := []) (lv' := [(3, .int x102), (0, .ref a0), (1, .int x1), (2, .int x2)]) (fun hC _ _ _ _ _ _ hl k => lv_istore_n (i := 3) hC.1 hC.2.1 d_M_isDanger_6 rfl hl (by decide) rfl k) ?_
  refine x_go (pc' := 8) (st' := [.int x102]) (fun hC _ _ _ _ _ _ hl k => lv_iload_n hC.1 hC.2.1 d_M_isDanger_7 rfl (lv_at hl 0 rfl) k) ?_
  refine x_if (P := x102 ≤ 0) (pt := 53) (pf := 11) (st' := []) (fun hC _ _ _ _ _ _ kt kf => lv_if_le (tgt := 53) hC.1 hC.2.1 d_M_isDanger_8 (by decide) kt kf) ?_ ?_
  · refine x_go (pc' := 54) (st' := [.int (0 : Int32)]) (fun hC _ _ _ _ _ _ hl k => lv_iconst (v := 0) hC.1 hC.2.1 d_M_isDanger_53 (by decide) k) ?_
    exact x_zret d_M_isDanger_54
  · refine x_go (pc' := 12) (st' := [.ref a0]) (fun hC _ _ _ _ _ _ hl k => lv_aload_n hC.1 hC.2.1 d_M_isDanger_11 rfl (lv_at hl 1 rfl) k) ?_
    refine x_getR (ci := 4) (kf := 6) (r := (some a0)) (fun hC => w_get hC iw_4 rfl 6 (by decide) tw_320 rfl d_M_isDanger_12) (fun r103 => ?_)
    refine x_go (pc' := 16) (st' := [.int x1, va_rf r103]) (fun hC _ _ _ _ _ _ hl k => lv_iload_n hC.1 hC.2.1 d_M_isDanger_15 rfl (lv_at hl 2 rfl) k) ?_
    refine x_iald (t := 4) rfl (r := r103) (i := x1) d_M_isDanger_16 (fun x104 => ?_)
    refine x_if (P := x104 = 0) (pt := 30) (pf := 20) (st' := []) (fun hC _ _ _ _ _ _ kt kf => lv_if_eq (tgt := 30) hC.1 hC.2.1 d_M_isDanger_17 (by decide) kt kf) ?_ ?_
    · exact x_sub (lv' := [(0, .ref a0), (2, .int x2), (3, .int x102)]) [1, 3, 0] rfl (x_M_isDanger_b30 a0 x2 x102 h)
    · refine x_go (pc' := 21) (st' := [.ref a0]) (fun hC _ _ _ _ _ _ hl k => lv_aload_n hC.1 hC.2.1 d_M_isDanger_20 rfl (lv_at hl 1 rfl) k) ?_
      refine x_getR (ci := 4) (kf := 6) (r := (some a0)) (fun hC => w_get hC iw_4 rfl 6 (by decide) tw_320 rfl d_M_isDanger_21) (fun r105 => ?_)
      refine x_go (pc' := 25) (st' := [.int x1, va_rf r105]) (fun hC _ _ _ _ _ _ hl k => lv_iload_n hC.1 hC.2.1 d_M_isDanger_24 rfl (lv_at hl 2 rfl) k) ?_
      refine x_iald (t := 4) rfl (r := r105) (i := x1) d_M_isDanger_25 (fun x106 => ?_)
      refine x_go (pc' := 27) (st' := [.int x102, .int x106]) (fun hC _ _ _ _ _ _ hl k => lv_iload_n hC.1 hC.2.1 d_M_isDanger_26 rfl (lv_at hl 0 rfl) k) ?_
      refine x_if (P := x106 < x102) (pt := 53) (pf := 30) (st' := []) (fun hC _ _ _ _ _ _ kt kf => lv_icmp_lt (tgt := 53) hC.1 hC.2.1 d_M_isDanger_27 (by decide) kt kf) ?_ ?_
      · refine x_go (pc' := 54) (st' := [.int (0 : Int32)]) (fun hC _ _ _ _ _ _ hl k => lv_iconst (v := 0) hC.1 hC.2.1 d_M_isDanger_53 (by decide) k) ?_
        exact x_zret d_M_isDanger_54
      · exact x_sub (lv' := [(0, .ref a0), (2, .int x2), (3, .int x102)]) [1, 3, 0] rfl (x_M_isDanger_b30 a0 x2 x102 h)
/-! SerialDeskModel.point(II)V -/
theorem d_M_point_0 : decode b_M_point 0 = .ok (.aload_n 0, 1) := by decide +kernel
theorem d_M_point_1 : decode b_M_point 1 = .ok (.getfield 29, 3) := by decide +kernel
theorem d_M_point_4 : decode b_M_point 4 = .ok (.bipush 64, 2) := by decide +kernel
theorem d_M_point_6 : decode b_M_point 6 = .ok (.iload_n 1, 1) := by decide +kernel
theorem d_M_point_7 : decode b_M_point 7 = .ok (.imul, 1) := by decide +kernel
theorem d_M_point_8 : decode b_M_point 8 = .ok (.iload_n 2, 1) := by decide +kernel
theorem d_M_point_9 : decode b_M_point 9 = .ok (.iadd, 1) := by decide +kernel
theorem d_M_point_10 : decode b_M_point 10 = .ok (.iconst 1, 1) := by decide +kernel
theorem d_M_point_11 : decode b_M_point 11 = .ok (.bastore, 1) := by decide +kernel
theorem d_M_point_12 : decode b_M_point 12 = .ok (.aload_n 0, 1) := by decide +kernel
theorem d_M_point_13 : decode b_M_point 13 = .ok (.getfield 54, 3) := by decide +kernel
theorem d_M_point_16 : decode b_M_point 16 = .ok (.bipush 9, 2) := by decide +kernel
theorem d_M_point_18 : decode b_M_point 18 = .ok (.aload_n 0, 1) := by decide +kernel
theorem d_M_point_19 : decode b_M_point 19 = .ok (.getfield 7, 3) := by decide +kernel
theorem d_M_point_22 : decode b_M_point 22 = .ok (.iload_n 1, 1) := by decide +kernel
theorem d_M_point_23 : decode b_M_point 23 = .ok (.iaload, 1) := by decide +kernel
theorem d_M_point_24 : decode b_M_point 24 = .ok (.imul, 1) := by decide +kernel
theorem d_M_point_25 : decode b_M_point 25 = .ok (.aload_n 0, 1) := by decide +kernel
theorem d_M_point_26 : decode b_M_point 26 = .ok (.getfield 7, 3) := by decide +kernel
theorem d_M_point_29 : decode b_M_point 29 = .ok (.iload_n 2, 1) := by decide +kernel
theorem d_M_point_30 : decode b_M_point 30 = .ok (.iaload, 1) := by decide +kernel
theorem d_M_point_31 : decode b_M_point 31 = .ok (.bipush 64, 2) := by decide +kernel
theorem d_M_point_33 : decode b_M_point 33 = .ok (.idiv, 1) := by decide +kernel
theorem d_M_point_34 : decode b_M_point 34 = .ok (.iadd, 1) := by decide +kernel
theorem d_M_point_35 : decode b_M_point 35 = .ok (.aload_n 0, 1) := by decide +kernel
theorem d_M_point_36 : decode b_M_point 36 = .ok (.getfield 54, 3) := by decide +kernel
theorem d_M_point_39 : decode b_M_point 39 = .ok (.bipush 9, 2) := by decide +kernel
theorem d_M_point_41 : decode b_M_point 41 = .ok (.aload_n 0, 1) := by decide +kernel
theorem d_M_point_42 : decode b_M_point 42 = .ok (.getfield 7, 3) := by decide +kernel
theorem d_M_point_45 : decode b_M_point 45 = .ok (.iload_n 1, 1) := by decide +kernel
theorem d_M_point_46 : decode b_M_point 46 = .ok (.iaload, 1) := by decide +kernel
theorem d_M_point_47 : decode b_M_point 47 = .ok (.imul, 1) := by decide +kernel
theorem d_M_point_48 : decode b_M_point 48 = .ok (.aload_n 0, 1) := by decide +kernel
theorem d_M_point_49 : decode b_M_point 49 = .ok (.getfield 7, 3) := by decide +kernel
theorem d_M_point_52 : decode b_M_point 52 = .ok (.iload_n 2, 1) := by decide +kernel
theorem d_M_point_53 : decode b_M_point 53 = .ok (.iaload, 1) := by decide +kernel
theorem d_M_point_54 : decode b_M_point 54 = .ok (.bipush 64, 2) := by decide +kernel
theorem d_M_point_56 : decode b_M_point 56 = .ok (.idiv, 1) := by decide +kernel
theorem d_M_point_57 : decode b_M_point 57 = .ok (.iadd, 1) := by decide +kernel
theorem d_M_point_58 : decode b_M_point 58 = .ok (.laload, 1) := by decide +kernel
theorem d_M_point_59 : decode b_M_point 59 = .ok (.lconst 1, 1) := by decide +kernel
theorem d_M_point_60 : decode b_M_point 60 = .ok (.aload_n 0, 1) := by decide +kernel
theorem d_M_point_61 : decode b_M_point 61 = .ok (.getfield 7, 3) := by decide +kernel
theorem d_M_point_64 : decode b_M_point 64 = .ok (.iload_n 2, 1) := by decide +kernel
theorem d_M_point_65 : decode b_M_point 65 = .ok (.iaload, 1) := by decide +kernel
theorem d_M_point_66 : decode b_M_point 66 = .ok (.bipush 64, 2) := by decide +kernel
theorem d_M_point_68 : decode b_M_point 68 = .ok (.irem, 1) := by decide +kernel
theorem d_M_point_69 : decode b_M_point 69 = .ok (.lshl, 1) := by decide +kernel
theorem d_M_point_70 : decode b_M_point 70 = .ok (.lor, 1) := by decide +kernel
theorem d_M_point_71 : decode b_M_point 71 = .ok (.lastore, 1) := by decide +kernel
theorem d_M_point_72 : decode b_M_point 72 = .ok (.aload_n 0, 1) := by decide +kernel
theorem d_M_point_73 : decode b_M_point 73 = .ok (.getfield 26, 3) := by decide +kernel
theorem d_M_point_76 : decode b_M_point 76 = .ok (.iload_n 1, 1) := by decide +kernel
theorem d_M_point_77 : decode b_M_point 77 = .ok (.aload_n 0, 1) := by decide +kernel
theorem d_M_point_78 : decode b_M_point 78 = .ok (.getfield 19, 3) := by decide +kernel
theorem d_M_point_81 : decode b_M_point 81 = .ok (.iload_n 2, 1) := by decide +kernel
theorem d_M_point_82 : decode b_M_point 82 = .ok (.iaload, 1) := by decide +kernel
theorem d_M_point_83 : decode b_M_point 83 = .ok (.ifCond .le 36, 3) := by decide +kernel
theorem d_M_point_86 : decode b_M_point 86 = .ok (.aload_n 0, 1) := by decide +kernel
theorem d_M_point_87 : decode b_M_point 87 = .ok (.getfield 26, 3) := by decide +kernel
theorem d_M_point_90 : decode b_M_point 90 = .ok (.iload_n 1, 1) := by decide +kernel
theorem d_M_point_91 : decode b_M_point 91 = .ok (.iaload, 1) := by decide +kernel
theorem d_M_point_92 : decode b_M_point 92 = .ok (.ifCond .eq 18, 3) := by decide +kernel
theorem d_M_point_95 : decode b_M_point 95 = .ok (.aload_n 0, 1) := by decide +kernel
theorem d_M_point_96 : decode b_M_point 96 = .ok (.getfield 19, 3) := by decide +kernel
theorem d_M_point_99 : decode b_M_point 99 = .ok (.iload_n 2, 1) := by decide +kernel
theorem d_M_point_100 : decode b_M_point 100 = .ok (.iaload, 1) := by decide +kernel
theorem d_M_point_101 : decode b_M_point 101 = .ok (.aload_n 0, 1) := by decide +kernel
theorem d_M_point_102 : decode b_M_point 102 = .ok (.getfield 26, 3) := by decide +kernel
theorem d_M_point_105 : decode b_M_point 105 = .ok (.iload_n 1, 1) := by decide +kernel
theorem d_M_point_106 : decode b_M_point 106 = .ok (.iaload, 1) := by decide +kernel
theorem d_M_point_107 : decode b_M_point 107 = .ok (.if_icmp .ge 12, 3) := by decide +kernel
theorem d_M_point_110 : decode b_M_point 110 = .ok (.aload_n 0, 1) := by decide +kernel
theorem d_M_point_111 : decode b_M_point 111 = .ok (.getfield 19, 3) := by decide +kernel
theorem d_M_point_114 : decode b_M_point 114 = .ok (.iload_n 2, 1) := by decide +kernel
theorem d_M_point_115 : decode b_M_point 115 = .ok (.iaload, 1) := by decide +kernel
theorem d_M_point_116 : decode b_M_point 116 = .ok (.goto 9, 3) := by decide +kernel
theorem d_M_point_119 : decode b_M_point 119 = .ok (.aload_n 0, 1) := by decide +kernel
theorem d_M_point_120 : decode b_M_point 120 = .ok (.getfield 26, 3) := by decide +kernel
theorem d_M_point_123 : decode b_M_point 123 = .ok (.iload_n 1, 1) := by decide +kernel
theorem d_M_point_124 : decode b_M_point 124 = .ok (.iaload, 1) := by decide +kernel
theorem d_M_point_125 : decode b_M_point 125 = .ok (.iastore, 1) := by decide +kernel
theorem d_M_point_126 : decode b_M_point 126 = .ok (.return_, 1) := by decide +kernel
abbrev X_M_point (p : Program) (l : Launch) (e : Env) (k1 k2 : Nat) (s : State) (m : MethodId) (args : Array Value) (below : List Frame) (meth : Method) (c : Code) (B : AB) (n0 m0 : Nat) (h : AH) (pc : Nat) (lv : List (Nat × Value)) (st : List Value) (comp : Option (Unit × AH)) : Prop := XX p l e { frames := 0, cells := k1, slots := k2, locals := 0 } s m args below meth c b_M_point o_M lw_tt 3 (Option.none : Option Jvm.ClassFile.FieldType) "point" B n0 m0 (QM B below args s { frames := 0, cells := k1, slots := k2, locals := 0 } eU) h pc lv st comp
def f_M_point_b110 (a0 : Nat) (x2 : Int32) (rs0 : Option Nat) (xs1 : Int32) (h : AH) : Option (Unit × AH) := (fR h 4 6 (some a0)).bind (fun r1001 => (lI h 4 r1001 x2).bind (fun x1002 => (pE h 4 rs0 xs1 (.int x1002)).bind (fun h1003 => some ((), h1003))))
def f_M_point_b119 (a0 : Nat) (x1 : Int32) (rs0 : Option Nat) (xs1 : Int32) (h : AH) : Option (Unit × AH) := (fR h 4 8 (some a0)).bind (fun r1001 => (lI h 4 r1001 x1).bind (fun x1002 => (pE h 4 rs0 xs1 (.int x1002)).bind (fun h1003 => some ((), h1003))))
def f_M_point (a0 : Nat) (x1 : Int32) (x2 : Int32) (h : AH) : Option (Unit × AH) := (fR h 4 9 (some a0)).bind (fun r101 => (qE h 1 r101 (((64 : Int32) * x1) + x2) (1 : Int32)).bind (fun h102 => (fR h102 4 17 (some a0)).bind (fun r103 => (fR h102 4 3 (some a0)).bind (fun r104 => (lI h102 4 r104 x1).bind (fun x105 => (fR h102 4 3 (some a0)).bind (fun r106 => (lI h102 4 r106 x2).bind (fun x107 => (fR h102 4 17 (some a0)).bind (fun r108 => (fR h102 4 3 (some a0)).bind (fun r109 => (lI h102 4 r109 x1).bind (fun x110 => (fR h102 4 3 (some a0)).bind (fun r111 => (lI h102 4 r111 x2).bind (fun x112 => (lL h102 0 r108 (((9 : Int32) * x110) + (x112 / (64 : Int32)))).bind (fun x113 => (fR h102 4 3 (some a0)).bind (fun r114 => (lI h102 4 r114 x2).bind (fun x115 => (pE h102 0 r103 (((9 : Int32) * x105) + (x107 / (64 : Int32))) (.long (x113 ||| ((1 : Int64) <<< (Int32.toInt64 (x115 - x115 / (64 : Int32) * (64 : Int32)) &&& 63))))).bind (fun h116 => (fR h116 4 8 (some a0)).bind (fun r117 => (fR h116 4 6 (some a0)).bind (fun r118 => (lI h116 4 r118 x2).bind (fun x119 => (if x119 ≤ 0 then f_M_point_b119 a0 x1 r117 x1 h116 else (fR h116 4 8 (some a0)).bind (fun r120 => (lI h116 4 r120 x1).bind (fun x121 => (if x121 = 0 then f_M_point_b110 a0 x2 r117 x1 h116 else (fR h116 4 6 (some a0)).bind (fun r122 => (lI h116 4 r122 x2).bind (fun x123 => (fR h116 4 8 (some a0)).bind (fun r124 => (lI h116 4 r124 x1).bind (fun x125 => (if x125 ≤ x123 then f_M_point_b119 a0 x1 r117 x1 h116 else f_M_point_b110 a0 x2 r117 x1 h116))))))))))))))))))))))))))))
set_option maxHeartbeats 4000000 in
set_option maxRecDepth 100000 in
theorem x_M_point_b110 {p : Program} {l : Launch} {e : Env} {k1 k2 : Nat} {s : State} {m : MethodId} {args : Array Value} {below : List Frame} {meth : Method} {c : Code} {B : AB} {n0 m0 : Nat} (a0 : Nat) (x2 : Int32) (rs0 : Option Nat) (xs1 : Int32) (h : AH) : X_M_point p l e k1 k2 s m args below meth c B n0 m0 h 110 [(0, .ref a0), (2, .int x2)] [.int xs1, va_rf rs0] (f_M_point_b110 a0 x2 rs0 xs1 h) := by
  unfold f_M_point_b110
  refine x_go (pc' := 111) (st' := [.ref a0, .int xs1, va_rf rs0]) (fun hC _ _ _ _ _ _ hl k => lv_aload_n hC.1 hC.2.1 d_M_point_110 rfl (lv_at hl 0 rfl) k) ?_
  refine x_getR (ci := 4) (kf := 6) (r := (some a0)) (fun hC => w_get hC iw_4 rfl 6 (by decide) tw_320 rfl d_M_point_111) (fun r1001 => ?_)
  refine x_go (pc' := 115) (st' := [.int x2, va_rf r1001, .int xs1, va_rf rs0]) (fun hC _ _ _ _ _ _ hl k => lv_iload_n hC.1 hC.2.1 d_M_point_114 rfl (lv_at hl 1 rfl) k) ?_
  refine x_iald (t := 4) rfl (r := r1001) (i := x2) d_M_point_115 (fun x1002 => ?_)
  refine x_go (pc' := 125) (st' := [.int x1002, .int xs1, va_rf rs0]) (fun hC _ _ _ _ _ _ hl k => lv_goto (tgt := 125) hC.1 hC.2.1 d_M_point_116 (by decide) k) ?_
  refine x_iast (t := 4) rfl (r := rs0) (i := xs1) (x := x1002) d_M_point_125 (fun h1003 => ?_)
  exact x_vret d_M_point_126
set_option maxHeartbeats 4000000 in
set_option maxRecDepth 100000 in
theorem x_M_point_b119 {p : Program} {l : Launch} {e : Env} {k1 k2 : Nat} {s : State} {m : MethodId} {args : Array Value} {below : List Frame} {meth : Method} {c : Code} {B : AB} {n0 m0 : Nat} (a0 : Nat) (x1 : Int32) (rs0 : Option Nat) (xs1 : Int32) (h : AH) : X_M_point p l e k1 k2 s m args below meth c B n0 m0 h 119 [(0, .ref a0), (1, .int x1)] [.int xs1, va_rf rs0] (f_M_point_b119 a0 x1 rs0 xs1 h) := by
  unfold f_M_point_b119
  refine x_go (pc' := 120) (st' := [.ref a0, .int xs1, va_rf rs0]) (fun hC _ _ _ _ _ _ hl k => lv_aload_n hC.1 hC.2.1 d_M_point_119 rfl (lv_at hl 0 rfl) k) ?_
  refine x_getR (ci := 4) (kf := 8) (r := (some a0)) (fun hC => w_get hC iw_4 rfl 8 (by decide) tw_322 rfl d_M_point_120) (fun r1001 => ?_)
  refine x_go (pc' := 124) (st' := [.int x1, va_rf r1001, .int xs1, va_rf rs0]) (fun hC _ _ _ _ _ _ hl k => lv_iload_n hC.1 hC.2.1 d_M_point_123 rfl (lv_at hl 1 rfl) k) ?_
  refine x_iald (t := 4) rfl (r := r1001) (i := x1) d_M_point_124 (fun x1002 => ?_)
  refine x_iast (t := 4) rfl (r := rs0) (i := xs1) (x := x1002) d_M_point_125 (fun h1003 => ?_)
  exact x_vret d_M_point_126
set_option maxHeartbeats 4000000 in
set_option maxRecDepth 100000 in
theorem c_M_point (l : Launch) (B : AB) (a0 : Nat) (x1 : Int32) (x2 : Int32) (h : AH) : CT l B y_M_point (Cond.code y_M_point b_M_point 3 (Option.none : Option Jvm.ClassFile.FieldType) :: lw_tt) 0 0 eU [.ref a0, .int x1, .int x2] h (f_M_point a0 x1 x2 h) := by
  refine ct_of (own := o_M) (nm := "point") (by decide +kernel) rfl rfl (Nat.le_of_ble_eq_true rfl) (fun p e k1 k2 s m args below meth c => ?_)
  refine x_sub (lv' := [(0, .ref a0), (1, .int x1), (2, .int x2)]) [0, 1, 2] rfl ?_
  unfold f_M_point
  refine x_go (pc' := 1) (st' := [.ref a0]) (fun hC _ _ _ _ _ _ hl k => lv_aload_n hC.1 hC.2.1 d_M_point_0 rfl (lv_at hl 0 rfl) k) ?_
  refine x_getR (ci := 4) (kf := 9) (r := (some a0)) (fun hC => w_get hC iw_4 rfl 9 (by decide) tw_323 rfl d_M_point_1) (fun r101 => ?_)
  refine x_go (pc' := 6) (st' := [.int (64 : Int32), va_rf r101]) (fun hC _ _ _ _ _ _ hl k => lv_bipush (v := 64) hC.1 hC.2.1 d_M_point_4 (by decide) k) ?_
  refine x_go (pc' := 7) (st' := [.int x1, .int (64 : Int32), va_rf r101]) (fun hC _ _ _ _ _ _ hl k => lv_iload_n hC.1 hC.2.1 d_M_point_6 rfl (lv_at hl 1 rfl) k) ?_
  refine x_go (pc' := 8) (st' := [.int ((64 : Int32) * x1), va_rf r101]) (fun hC _ _ _ _ _ _ hl k => lv_imul hC.1 hC.2.1 d_M_point_7 k) ?_
  refine x_go (pc' := 9) (st' := [.int x2, .int ((64 : Int32) * x1), va_rf r101]) (fun hC _ _ _ _ _ _ hl k => lv_iload_n hC.1 hC.2.1 d_M_point_8 rfl (lv_at hl 2 rfl) k) ?_
  refine x_go (pc' := 10) (st' := [.int (((64 : Int32) * x1) + x2), va_rf r101]) (fun hC _ _ _ _ _ _ hl k => lv_iadd hC.1 hC.2.1 d_M_point_9 k) ?_
  refine x_go (pc' := 11) (st' := [.int (1 : Int32), .int (((64 : Int32) * x1) + x2), va_rf r101]) (fun hC _ _ _ _ _ _ hl k => lv_iconst (v := 1) hC.1 hC.2.1 d_M_point_10 (by decide) k) ?_
  refine x_zast (t := 1) rfl (r := r101) (i := (((64 : Int32) * x1) + x2)) (x := (1 : Int32)) d_M_point_11 (fun h102 => ?_)
  refine x_go (pc' := 13) (st' := [.ref a0]) (fun hC _ _ _ _ _ _ hl k => lv_aload_n hC.1 hC.2.1 d_M_point_12 rfl (lv_at hl 0 rfl) k) ?_
  refine x_getR (ci := 4) (kf := 17) (r := (some a0)) (fun hC => w_get hC iw_4 rfl 17 (by decide) tw_331 rfl d_M_point_13) (fun r103 => ?_)
  refine x_go (pc' := 18) (st' := [.int (9 : Int32), va_rf r103]) (fun hC _ _ _ _ _ _ hl k => lv_bipush (v := 9) hC.1 hC.2.1 d_M_point_16 (by decide) k) ?_
  refine x_go (pc' := 19) (st' := [.ref a0, .int (9 : Int32), va_rf r103]) (fun hC _ _ _ _ _ _ hl k => lv_aload_n hC.1 hC.2.1 d_M_point_18 rfl (lv_at hl 0 rfl) k) ?_
  refine x_getR (ci := 4) (kf := 3) (r := (some a0)) (fun hC => w_get hC iw_4 rfl 3 (by decide) tw_317 rfl d_M_point_19) (fun r104 => ?_)
  refine x_go (pc' := 23) (st' := [.int x1, va_rf r104, .int (9 : Int32), va_rf r103]) (fun hC _ _ _ _ _ _ hl k => lv_iload_n hC.1 hC.2.1 d_M_point_22 rfl (lv_at hl 1 rfl) k) ?_
  refine x_iald (t := 4) rfl (r := r104) (i := x1) d_M_point_23 (fun x105 => ?_)
  refine x_go (pc' := 25) (st' := [.int ((9 : Int32) * x105), va_rf r103]) (fun hC _ _ _ _ _ _ hl k => lv_imul hC.1 hC.2.1 d_M_point_24 k) ?_
  refine x_go (pc' := 26) (st' := [.ref a0, .int ((9 : Int32) * x105), va_rf r103]) (fun hC _ _ _ _ _ _ hl k => lv_aload_n hC.1 hC.2.1 d_M_point_25 rfl (lv_at hl 0 rfl) k) ?_
  refine x_getR (ci := 4) (kf := 3) (r := (some a0)) (fun hC => w_get hC iw_4 rfl 3 (by decide) tw_317 rfl d_M_point_26) (fun r106 => ?_)
  refine x_go (pc' := 30) (st' := [.int x2, va_rf r106, .int ((9 : Int32) * x105), va_rf r103]) (fun hC _ _ _ _ _ _ hl k => lv_iload_n hC.1 hC.2.1 d_M_point_29 rfl (lv_at hl 2 rfl) k) ?_
  refine x_iald (t := 4) rfl (r := r106) (i := x2) d_M_point_30 (fun x107 => ?_)
  refine x_go (pc' := 33) (st' := [.int (64 : Int32), .int x107, .int ((9 : Int32) * x105), va_rf r103]) (fun hC _ _ _ _ _ _ hl k => lv_bipush (v := 64) hC.1 hC.2.1 d_M_point_31 (by decide) k) ?_
  refine x_go (pc' := 34) (st' := [.int (x107 / (64 : Int32)), .int ((9 : Int32) * x105), va_rf r103]) (fun hC _ _ _ _ _ _ hl k => lv_idiv hC.1 hC.2.1 d_M_point_33 (by decide) k) ?_
  refine x_go (pc' := 35) (st' := [.int (((9 : Int32) * x105) + (x107 / (64 : Int32))), va_rf r103]) (fun hC _ _ _ _ _ _ hl k => lv_iadd hC.1 hC.2.1 d_M_point_34 k) ?_
  refine x_go (pc' := 36) (st' := [.ref a0, .int (((9 : Int32) * x105) + (x107 / (64 : Int32))), va_rf r103]) (fun hC _ _ _ _ _ _ hl k => lv_aload_n hC.1 hC.2.1 d_M_point_35 rfl (lv_at hl 0 rfl) k) ?_
  refine x_getR (ci := 4) (kf := 17) (r := (some a0)) (fun hC => w_get hC iw_4 rfl 17 (by decide) tw_331 rfl d_M_point_36) (fun r108 => ?_)
  refine x_go (pc' := 41) (st' := [.int (9 : Int32), va_rf r108, .int (((9 : Int32) * x105) + (x107 / (64 : Int32))), va_rf r103]) (fun hC _ _ _ _ _ _ hl k => lv_bipush (v := 9) hC.1 hC.2.1 d_M_point_39 (by decide) k) ?_
  refine x_go (pc' := 42) (st' := [.ref a0, .int (9 : Int32), va_rf r108, .int (((9 : Int32) * x105) + (x107 / (64 : Int32))), va_rf r103]) (fun hC _ _ _ _ _ _ hl k => lv_aload_n hC.1 hC.2.1 d_M_point_41 rfl (lv_at hl 0 rfl) k) ?_
  refine x_getR (ci := 4) (kf := 3) (r := (some a0)) (fun hC => w_get hC iw_4 rfl 3 (by decide) tw_317 rfl d_M_point_42) (fun r109 => ?_)
  refine x_go (pc' := 46) (st' := [.int x1, va_rf r109, .int (9 : Int32), va_rf r108, .int (((9 : Int32) * x105) + (x107 / (64 : Int32))), va_rf r103]) (fun hC _ _ _ _ _ _ hl k => lv_iload_n hC.1 hC.2.1 d_M_point_45 rfl (lv_at hl 1 rfl) k) ?_
  refine x_iald (t := 4) rfl (r := r109) (i := x1) d_M_point_46 (fun x110 => ?_)
  refine x_go (pc' := 48) (st' := [.int ((9 : Int32) * x110), va_rf r108, .int (((9 : Int32) * x105) + (x107 / (64 : Int32))), va_rf r103]) (fun hC _ _ _ _ _ _ hl k => lv_imul hC.1 hC.2.1 d_M_point_47 k) ?_
  refine x_go (pc' := 49) (st' := [.ref a0, .int ((9 : Int32) * x110), va_rf r108, .int (((9 : Int32) * x105) + (x107 / (64 : Int32))), va_rf r103]) (fun hC _ _ _ _ _ _ hl k => lv_aload_n hC.1 hC.2.1 d_M_point_48 rfl (lv_at hl 0 rfl) k) ?_
  refine x_getR (ci := 4) (kf := 3) (r := (some a0)) (fun hC => w_get hC iw_4 rfl 3 (by decide) tw_317 rfl d_M_point_49) (fun r111 => ?_)
  refine x_go (pc' := 53) (st' := [.int x2, va_rf r111, .int ((9 : Int32) * x110), va_rf r108, .int (((9 : Int32) * x105) + (x107 / (64 : Int32))), va_rf r103]) (fun hC _ _ _ _ _ _ hl k => lv_iload_n hC.1 hC.2.1 d_M_point_52 rfl (lv_at hl 2 rfl) k) ?_
  refine x_iald (t := 4) rfl (r := r111) (i := x2) d_M_point_53 (fun x112 => ?_)
  refine x_go (pc' := 56) (st' := [.int (64 : Int32), .int x112, .int ((9 : Int32) * x110), va_rf r108, .int (((9 : Int32) * x105) + (x107 / (64 : Int32))), va_rf r103]) (fun hC _ _ _ _ _ _ hl k => lv_bipush (v := 64) hC.1 hC.2.1 d_M_point_54 (by decide) k) ?_
  refine x_go (pc' := 57) (st' := [.int (x112 / (64 : Int32)), .int ((9 : Int32) * x110), va_rf r108, .int (((9 : Int32) * x105) + (x107 / (64 : Int32))), va_rf r103]) (fun hC _ _ _ _ _ _ hl k => lv_idiv hC.1 hC.2.1 d_M_point_56 (by decide) k) ?_
  refine x_go (pc' := 58) (st' := [.int (((9 : Int32) * x110) + (x112 / (64 : Int32))), va_rf r108, .int (((9 : Int32) * x105) + (x107 / (64 : Int32))), va_rf r103]) (fun hC _ _ _ _ _ _ hl k => lv_iadd hC.1 hC.2.1 d_M_point_57 k) ?_
  refine x_lald (t := 0) rfl (r := r108) (i := (((9 : Int32) * x110) + (x112 / (64 : Int32)))) d_M_point_58 (fun x113 => ?_)
  refine x_go (pc' := 60) (st' := [.long (1 : Int64), .long x113, .int (((9 : Int32) * x105) + (x107 / (64 : Int32))), va_rf r103]) (fun hC _ _ _ _ _ _ hl k => lv_lconst (v := 1) hC.1 hC.2.1 d_M_point_59 (by decide) k) ?_
  refine x_go (pc' := 61) (st' := [.ref a0, .long (1 : Int64), .long x113, .int (((9 : Int32) * x105) + (x107 / (64 : Int32))), va_rf r103]) (fun hC _ _ _ _ _ _ hl k => lv_aload_n hC.1 hC.2.1 d_M_point_60 rfl (lv_at hl 0 rfl) k) ?_
  refine x_getR (ci := 4) (kf := 3) (r := (some a0)) (fun hC => w_get hC iw_4 rfl 3 (by decide) tw_317 rfl d_M_point_61) (fun r114 => ?_)
  refine x_go (pc' := 65) (st' := [.int x2, va_rf r114, .long (1 : Int64), .long x113, .int (((9 : Int32) * x105) + (x107 / (64 : Int32))), va_rf r103]) (fun hC _ _ _ _ _ _ hl k => lv_iload_n hC.1 hC.2.1 d_M_point_64 rfl (lv_at hl 2 rfl) k) ?_
  refine x_iald (t := 4) rfl (r := r114) (i := x2) d_M_point_65 (fun x115 => ?_)
  refine x_go (pc' := 68) (st' := [.int (64 : Int32), .int x115, .long (1 : Int64), .long x113, .int (((9 : Int32) * x105) + (x107 / (64 : Int32))), va_rf r103]) (fun hC _ _ _ _ _ _ hl k => lv_bipush (v := 64) hC.1 hC.2.1 d_M_point_66 (by decide) k) ?_
  refine x_go (pc' := 69) (st' := [.int (x115 - x115 / (64 : Int32) * (64 : Int32)), .long (1 : Int64), .long x113, .int (((9 : Int32) * x105) + (x107 / (64 : Int32))), va_rf r103]) (fun hC _ _ _ _ _ _ hl k => lv_irem hC.1 hC.2.1 d_M_point_68 (by decide) k) ?_
  refine x_go (pc' := 70) (st' := [.long ((1 : Int64) <<< (Int32.toInt64 (x115 - x115 / (64 : Int32) * (64 : Int32)) &&& 63)), .long x113, .int (((9 : Int32) * x105) + (x107 / (64 : Int32))), va_rf r103]) (fun hC _ _ _ _ _ _ hl k => lv_lshl hC.1 hC.2.1 d_M_point_69 rfl k) ?_
  refine x_go (pc' := 71) (st' := [.long (x113 ||| ((1 : Int64) <<< (Int32.toInt64 (x115 - x115 / (64 : Int32) * (64 : Int32)) &&& 63))), .int (((9 : Int32) * x105) + (x107 / (64 : Int32))), va_rf r103]) (fun hC _ _ _ _ _ _ hl k => lv_lor hC.1 hC.2.1 d_M_point_70 k) ?_
  refine x_last (t := 0) rfl (r := r103) (i := (((9 : Int32) * x105) + (x107 / (64 : Int32)))) (x := (x113 ||| ((1 : Int64) <<< (Int32.toInt64 (x115 - x115 / (64 : Int32) * (64 : Int32)) &&& 63)))) d_M_point_71 (fun h116 => ?_)
  refine x_go (pc' := 73) (st' := [.ref a0]) (fun hC _ _ _ _ _ _ hl k => lv_aload_n hC.1 hC.2.1 d_M_point_72 rfl (lv_at hl 0 rfl) k) ?_
  refine x_getR (ci := 4) (kf := 8) (r := (some a0)) (fun hC => w_get hC iw_4 rfl 8 (by decide) tw_322 rfl d_M_point_73) (fun r117 => ?_)
  refine x_go (pc' := 77) (st' := [.int x1, va_rf r117]) (fun hC _ _ _ _ _ _ hl k => lv_iload_n hC.1 hC.2.1 d_M_point_76 rfl (lv_at hl 1 rfl) k) ?_
  refine x_go (pc' := 78) (st' := [.ref a0, .int x1, va_rf r117]) (fun hC _ _ _ _ _ _ hl k => lv_aload_n hC.1 hC.2.1 d_M_point_77 rfl (lv_at hl 0 rfl) k) ?_
  refine x_getR (ci := 4) (kf := 6) (r := (some a0)) (fun hC => w_get hC iw_4 rfl 6 (by decide) tw_320 rfl d_M_point_78) (fun r118 => ?_)
  refine x_go (pc' := 82) (st' := [.int x2, va_rf r118, .int x1, va_rf r117]) (fun hC _ _ _ _ _ _ hl k => lv_iload_n hC.1 hC.2.1 d_M_point_81 rfl (lv_at hl 2 rfl) k) ?_
  refine x_iald (t := 4) rfl (r := r118) (i := x2) d_M_point_82 (fun x119 => ?_)
  refine x_if (P := x119 ≤ 0) (pt := 119) (pf := 86) (st' := [.int x1, va_rf r117]) (fun hC _ _ _ _ _ _ kt kf => lv_if_le (tgt := 119) hC.1 hC.2.1 d_M_point_83 (by decide) kt kf) ?_ ?_
  · exact x_sub (lv' := [(0, .ref a0), (1, .int x1)]) [0, 1] rfl (x_M_point_b119 a0 x1 r117 x1 h116)
  · refine x_go (pc' := 87) (st' := [.ref a0, .int x1, va_rf r117]) (fun hC _ _ _ _ _ _ hl k => lv_aload_n hC.1 hC.2.1 d_M_point_86 rfl (lv_at hl 0 rfl) k) ?_
    refine x_getR (ci := 4) (kf := 8) (r := (some a0)) (fun hC => w_get hC iw_4 rfl 8 (by decide) tw_322 rfl d_M_point_87) (fun r120 => ?_)
    refine x_go (pc' := 91) (st' := [.int x1, va_rf r120, .int x1, va_rf r117]) (fun hC _ _ _ _ _ _ hl k => lv_iload_n hC.1 hC.2.1 d_M_point_90 rfl (lv_at hl 1 rfl) k) ?_
    refine x_iald (t := 4) rfl (r := r120) (i := x1) d_M_point_91 (fun x121 => ?_)
    refine x_if (P := x121 = 0) (pt := 110) (pf := 95) (st' := [.int x1, va_rf r117]) (fun hC _ _ _ _ _ _ kt kf => lv_if_eq (tgt := 110) hC.1 hC.2.1 d_M_point_92 (by decide) kt kf) ?_ ?_
    · exact x_sub (lv' := [(0, .ref a0), (2, .int x2)]) [0, 2] rfl (x_M_point_b110 a0 x2 r117 x1 h116)
    · refine x_go (pc' := 96) (st' := [.ref a0, .int x1, va_rf r117]) (fun hC _ _ _ _ _ _ hl k => lv_aload_n hC.1 hC.2.1 d_M_point_95 rfl (lv_at hl 0 rfl) k) ?_
      refine x_getR (ci := 4) (kf := 6) (r := (some a0)) (fun hC => w_get hC iw_4 rfl 6 (by decide) tw_320 rfl d_M_point_96) (fun r122 => ?_)
      refine x_go (pc' := 100) (st' := [.int x2, va_rf r122, .int x1, va_rf r117]) (fun hC _ _ _ _ _ _ hl k => lv_iload_n hC.1 hC.2.1 d_M_point_99 rfl (lv_at hl 2 rfl) k) ?_
      refine x_iald (t := 4) rfl (r := r122) (i := x2) d_M_point_100 (fun x123 => ?_)
      refine x_go (pc' := 102) (st' := [.ref a0, .int x123, .int x1, va_rf r117]) (fun hC _ _ _ _ _ _ hl k => lv_aload_n hC.1 hC.2.1 d_M_point_101 rfl (lv_at hl 0 rfl) k) ?_
      refine x_getR (ci := 4) (kf := 8) (r := (some a0)) (fun hC => w_get hC iw_4 rfl 8 (by decide) tw_322 rfl d_M_point_102) (fun r124 => ?_)
      refine x_go (pc' := 106) (st' := [.int x1, va_rf r124, .int x123, .int x1, va_rf r117]) (fun hC _ _ _ _ _ _ hl k => lv_iload_n hC.1 hC.2.1 d_M_point_105 rfl (lv_at hl 1 rfl) k) ?_
      refine x_iald (t := 4) rfl (r := r124) (i := x1) d_M_point_106 (fun x125 => ?_)
      refine x_if (P := x125 ≤ x123) (pt := 119) (pf := 110) (st' := [.int x1, va_rf r117]) (fun hC _ _ _ _ _ _ kt kf => lv_icmp_ge (tgt := 119) hC.1 hC.2.1 d_M_point_107 (by decide) kt kf) ?_ ?_
      · exact x_sub (lv' := [(0, .ref a0), (1, .int x1)]) [0, 1] rfl (x_M_point_b119 a0 x1 r117 x1 h116)
      · exact x_sub (lv' := [(0, .ref a0), (2, .int x2)]) [0, 2] rfl (x_M_point_b110 a0 x2 r117 x1 h116)
/-! SerialDeskModel.write(II)Z -/
theorem d_M_write_0 : decode b_M_write 0 = .ok (.aload_n 0, 1) := by decide +kernel
theorem d_M_write_1 : decode b_M_write 1 = .ok (.iload_n 1, 1) := by decide +kernel
theorem d_M_write_2 : decode b_M_write 2 = .ok (.invokevirtual 73, 3) := by decide +kernel
theorem d_M_write_5 : decode b_M_write 5 = .ok (.istore_n 3, 1) := by decide +kernel
theorem d_M_write_6 : decode b_M_write 6 = .ok (.iload_n 3, 1) := by decide +kernel
theorem d_M_write_7 : decode b_M_write 7 = .ok (.ifCond .lt 13, 3) := by decide +kernel
theorem d_M_write_10 : decode b_M_write 10 = .ok (.iload_n 2, 1) := by decide +kernel
theorem d_M_write_11 : decode b_M_write 11 = .ok (.ifCond .lt 9, 3) := by decide +kernel
theorem d_M_write_14 : decode b_M_write 14 = .ok (.iload_n 2, 1) := by decide +kernel
theorem d_M_write_15 : decode b_M_write 15 = .ok (.bipush 7, 2) := by decide +kernel
theorem d_M_write_17 : decode b_M_write 17 = .ok (.if_icmp .le 5, 3) := by decide +kernel
theorem d_M_write_20 : decode b_M_write 20 = .ok (.iconst 0, 1) := by decide +kernel
theorem d_M_write_21 : decode b_M_write 21 = .ok (.ireturn, 1) := by decide +kernel
theorem d_M_write_22 : decode b_M_write 22 = .ok (.iconst 0, 1) := by decide +kernel
theorem d_M_write_23 : decode b_M_write 23 = .ok (.istore 4, 2) := by decide +kernel
theorem d_M_write_25 : decode b_M_write 25 = .ok (.iload 4, 2) := by decide +kernel
theorem d_M_write_27 : decode b_M_write 27 = .ok (.aload_n 0, 1) := by decide +kernel
theorem d_M_write_28 : decode b_M_write 28 = .ok (.getfield 69, 3) := by decide +kernel
theorem d_M_write_31 : decode b_M_write 31 = .ok (.if_icmp .ge 72, 3) := by decide +kernel
theorem d_M_write_34 : decode b_M_write 34 = .ok (.iload 4, 2) := by decide +kernel
theorem d_M_write_36 : decode b_M_write 36 = .ok (.iload_n 3, 1) := by decide +kernel
theorem d_M_write_37 : decode b_M_write 37 = .ok (.if_icmp .eq 60, 3) := by decide +kernel
theorem d_M_write_40 : decode b_M_write 40 = .ok (.aload_n 0, 1) := by decide +kernel
theorem d_M_write_41 : decode b_M_write 41 = .ok (.iload 4, 2) := by decide +kernel
theorem d_M_write_43 : decode b_M_write 43 = .ok (.iload_n 3, 1) := by decide +kernel
theorem d_M_write_44 : decode b_M_write 44 = .ok (.invokevirtual 95, 3) := by decide +kernel
theorem d_M_write_47 : decode b_M_write 47 = .ok (.ifCond .eq 50, 3) := by decide +kernel
theorem d_M_write_50 : decode b_M_write 50 = .ok (.aload_n 0, 1) := by decide +kernel
theorem d_M_write_51 : decode b_M_write 51 = .ok (.iload 4, 2) := by decide +kernel
theorem d_M_write_53 : decode b_M_write 53 = .ok (.iload_n 2, 1) := by decide +kernel
theorem d_M_write_54 : decode b_M_write 54 = .ok (.invokevirtual 99, 3) := by decide +kernel
theorem d_M_write_57 : decode b_M_write 57 = .ok (.ifCond .eq 40, 3) := by decide +kernel
theorem d_M_write_60 : decode b_M_write 60 = .ok (.aload_n 0, 1) := by decide +kernel
theorem d_M_write_61 : decode b_M_write 61 = .ok (.iload 4, 2) := by decide +kernel
theorem d_M_write_63 : decode b_M_write 63 = .ok (.iload_n 3, 1) := by decide +kernel
theorem d_M_write_64 : decode b_M_write 64 = .ok (.invokevirtual 102, 3) := by decide +kernel
theorem d_M_write_67 : decode b_M_write 67 = .ok (.aload_n 0, 1) := by decide +kernel
theorem d_M_write_68 : decode b_M_write 68 = .ok (.getfield 22, 3) := by decide +kernel
theorem d_M_write_71 : decode b_M_write 71 = .ok (.iload_n 3, 1) := by decide +kernel
theorem d_M_write_72 : decode b_M_write 72 = .ok (.aload_n 0, 1) := by decide +kernel
theorem d_M_write_73 : decode b_M_write 73 = .ok (.getfield 22, 3) := by decide +kernel
theorem d_M_write_76 : decode b_M_write 76 = .ok (.iload_n 3, 1) := by decide +kernel
theorem d_M_write_77 : decode b_M_write 77 = .ok (.baload, 1) := by decide +kernel
theorem d_M_write_78 : decode b_M_write 78 = .ok (.ifCond .ne 13, 3) := by decide +kernel
theorem d_M_write_81 : decode b_M_write 81 = .ok (.aload_n 0, 1) := by decide +kernel
theorem d_M_write_82 : decode b_M_write 82 = .ok (.iload 4, 2) := by decide +kernel
theorem d_M_write_84 : decode b_M_write 84 = .ok (.iload_n 3, 1) := by decide +kernel
theorem d_M_write_85 : decode b_M_write 85 = .ok (.invokevirtual 106, 3) := by decide +kernel
theorem d_M_write_88 : decode b_M_write 88 = .ok (.ifCond .eq 7, 3) := by decide +kernel
theorem d_M_write_91 : decode b_M_write 91 = .ok (.iconst 1, 1) := by decide +kernel
theorem d_M_write_92 : decode b_M_write 92 = .ok (.goto 4, 3) := by decide +kernel
theorem d_M_write_95 : decode b_M_write 95 = .ok (.iconst 0, 1) := by decide +kernel
theorem d_M_write_96 : decode b_M_write 96 = .ok (.bastore, 1) := by decide +kernel
theorem d_M_write_97 : decode b_M_write 97 = .ok (.iinc 4 1, 3) := by decide +kernel
theorem d_M_write_100 : decode b_M_write 100 = .ok (.goto (-75), 3) := by decide +kernel
theorem d_M_write_103 : decode b_M_write 103 = .ok (.aload_n 0, 1) := by decide +kernel
theorem d_M_write_104 : decode b_M_write 104 = .ok (.getfield 22, 3) := by decide +kernel
theorem d_M_write_107 : decode b_M_write 107 = .ok (.iload_n 3, 1) := by decide +kernel
theorem d_M_write_108 : decode b_M_write 108 = .ok (.baload, 1) := by decide +kernel
theorem d_M_write_109 : decode b_M_write 109 = .ok (.ireturn, 1) := by decide +kernel
abbrev X_M_write (p : Program) (l : Launch) (e : Env) (k1 k2 : Nat) (s : State) (m : MethodId) (args : Array Value) (below : List Frame) (meth : Method) (c : Code) (B : AB) (n0 m0 : Nat) (h : AH) (pc : Nat) (lv : List (Nat × Value)) (st : List Value) (comp : Option (Int32 × AH)) : Prop := XX p l e { frames := 2, cells := k1, slots := k2, locals := 50 } s m args below meth c b_M_write o_M lw_tt 5 (Option.some Jvm.ClassFile.FieldType.boolean) "write" B n0 m0 (QM B below args s { frames := 2, cells := k1, slots := k2, locals := 50 } eI) h pc lv st comp
def f_M_write_b91 (K25 : Nat → Int32 → Int32 → Int32 → AH → Option (Int32 × AH)) (a0 : Nat) (x2 : Int32) (x3 : Int32) (x4 : Int32) (rs0 : Option Nat) (xs1 : Int32) (h : AH) : Option (Int32 × AH) := (qE h 1 rs0 xs1 (1 : Int32)).bind (fun h1001 => K25 a0 x2 x3 (x4 + 1) h1001)
def f_M_write_b25 : Nat → Nat → Int32 → Int32 → Int32 → AH → Option (Int32 × AH)
  | 0, _, _, _, _, _ => none
  | n + 1, a0, x2, x3, x4, h => (fI h 4 2 (some a0)).bind (fun x1001 => (if x1001 ≤ x4 then (fR h 4 7 (some a0)).bind (fun r1002 => (lI h 1 r1002 x3).bind (fun x1003 => rZ x1003 h)) else (if x4 = x3 then f_M_write_b25 n a0 x2 x3 (x4 + 1) h else rcv h 4 (some a0) (fun b1006 => bnd (f_M_concurrent b1006 x4 x3 h) (fun x1005 h1004 => (if x1005 = 0 then f_M_write_b25 n a0 x2 x3 (x4 + 1) h1004 else rcv h1004 4 (some a0) (fun b1009 => bnd (f_M_hasRead b1009 x4 x2 h1004) (fun x1008 h1007 => (if x1008 = 0 then f_M_write_b25 n a0 x2 x3 (x4 + 1) h1007 else rcv h1007 4 (some a0) (fun b1011 => bndU (f_M_point b1011 x4 x3 h1007) (fun h1010 => (fR h1010 4 7 (some a0)).bind (fun r1012 => (fR h1010 4 7 (some a0)).bind (fun r1013 => (lI h1010 1 r1013 x3).bind (fun x1014 => (if x1014 = 0 then rcv h1010 4 (some a0) (fun b1017 => bnd (f_M_isDanger b1017 x4 x3 h1010) (fun x1016 h1015 => (if x1016 = 0 then (qE h1015 1 r1012 x3 (0 : Int32)).bind (fun h1018 => f_M_write_b25 n a0 x2 x3 (x4 + 1) h1018) else f_M_write_b91 (f_M_write_b25 n) a0 x2 x3 x4 r1012 x3 h1015))) else f_M_write_b91 (f_M_write_b25 n) a0 x2 x3 x4 r1012 x3 h1010)))))))))))))))
def f_M_write (a0 : Nat) (x1 : Int32) (x2 : Int32) (h : AH) : Option (Int32 × AH) := rcv h 4 (some a0) (fun b103 => bnd (f_M_running b103 x1 h) (fun x102 h101 => (if x102 < 0 then rZ (0 : Int32) h101 else (if x2 < 0 then rZ (0 : Int32) h101 else (if x2 ≤ (7 : Int32) then f_M_write_b25 2000 a0 x2 x102 (0 : Int32) h101 else rZ (0 : Int32) h101)))))
set_option maxHeartbeats 4000000 in
set_option maxRecDepth 100000 in
theorem x_M_write_b91 {p : Program} {l : Launch} {e : Env} {k1 k2 : Nat} {s : State} {m : MethodId} {args : Array Value} {below : List Frame} {meth : Method} {c : Code} {B : AB} {n0 m0 : Nat} (K25 : Nat → Int32 → Int32 → Int32 → AH → Option (Int32 × AH)) (hK25 : ∀ (a0 : Nat) (x2 : Int32) (x3 : Int32) (x4 : Int32) (h : AH), X_M_write p l e k1 k2 s m args below meth c B n0 m0 h 25 [(0, .ref a0), (2, .int x2), (3, .int x3), (4, .int x4)] [] (K25 a0 x2 x3 x4 h)) (a0 : Nat) (x2 : Int32) (x3 : Int32) (x4 : Int32) (rs0 : Option Nat) (xs1 : Int32) (h : AH) : X_M_write p l e k1 k2 s m args below meth c B n0 m0 h 91 [(0, .ref a0), (2, .int x2), (3, .int x3), (4, .int x4)] [.int xs1, va_rf rs0] (f_M_write_b91 K25 a0 x2 x3 x4 rs0 xs1 h) := by
  unfold f_M_write_b91
  refine x_go (pc' := 92) (st' := [.int (1 : Int32), .int xs1, va_rf rs0]) (fun hC _ _ _ _ _ _ hl k => lv_iconst (v := 1) hC.1 hC.2.1 d_M_write_91 (by decide) k) ?_
  refine x_go (pc' := 96) (st' := [.int (1 : Int32), .int xs1, va_rf rs0]) (fun hC _ _ _ _ _ _ hl k => lv_goto (tgt := 96) hC.1 hC.2.1 d_M_write_92 (by decide) k) ?_
  refine x_zast (t := 1) rfl (r := rs0) (i := xs1) (x := (1 : Int32)) d_M_write_96 (fun h1001 => ?_)
  refine x_lift (pc' := 100) (st' := []) (lv' := [(4, .int (x4 + 1)), (0, .ref a0), (2, .int x2), (3, .int x3)]) (fun hC _ _ _ _ _ _ hl k => lv_iinc (v := (x4 + 1)) hC.1 hC.2.1 d_M_write_97 hl (k := 3) rfl rfl (by decide) rfl k) ?_
  refine x_go (pc' := 25) (st' := []) (fun hC _ _ _ _ _ _ hl k => lv_goto (tgt := 25) hC.1 hC.2.1 d_M_write_100 (by decide) k) ?_
  exact x_sub (lv' := [(0, .ref a0), (2, .int x2), (3, .int x3), (4, .int (x4 + 1))]) [1, 2, 3, 0] rfl (hK25 a0 x2 x3 (x4 + 1) h1001)
set_option maxHeartbeats 4000000 in
set_option maxRecDepth 100000 in
theorem x_M_write_b25 {p : Program} {l : Launch} {e : Env} {k1 k2 : Nat} {s : State} {m : MethodId} {args : Array Value} {below : List Frame} {meth : Method} {c : Code} {B : AB} {n0 m0 : Nat} : ∀ (n : Nat) (a0 : Nat) (x2 : Int32) (x3 : Int32) (x4 : Int32) (h : AH), X_M_write p l e k1 k2 s m args below meth c B n0 m0 h 25 [(0, .ref a0), (2, .int x2), (3, .int x3), (4, .int x4)] [] (f_M_write_b25 n a0 x2 x3 x4 h) := by
  intro n
  induction n with
  | zero => intro a0 x2 x3 x4 h; exact x_none
  | succ n ih =>
    intro a0 x2 x3 x4 h
    rw [f_M_write_b25]
    refine x_go (pc' := 27) (st' := [.int x4]) (fun hC _ _ _ _ _ _ hl k => lv_iload hC.1 hC.2.1 d_M_write_25 (lv_at hl 3 rfl) k) ?_
    refine x_go (pc' := 28) (st' := [.ref a0, .int x4]) (fun hC _ _ _ _ _ _ hl k => lv_aload_n hC.1 hC.2.1 d_M_write_27 rfl (lv_at hl 0 rfl) k) ?_
    refine x_getI (ci := 4) (kf := 2) (r := (some a0)) (fun hC => w_get hC iw_4 rfl 2 (by decide) tw_316 rfl d_M_write_28) (fun x1001 => ?_)
    refine x_if (P := x1001 ≤ x4) (pt := 103) (pf := 34) (st' := []) (fun hC _ _ _ _ _ _ kt kf => lv_icmp_ge (tgt := 103) hC.1 hC.2.1 d_M_write_31 (by decide) kt kf) ?_ ?_
    · refine x_go (pc' := 104) (st' := [.ref a0]) (fun hC _ _ _ _ _ _ hl k => lv_aload_n hC.1 hC.2.1 d_M_write_103 rfl (lv_at hl 0 rfl) k) ?_
      refine x_getR (ci := 4) (kf := 7) (r := (some a0)) (fun hC => w_get hC iw_4 rfl 7 (by decide) tw_321 rfl d_M_write_104) (fun r1002 => ?_)
      refine x_go (pc' := 108) (st' := [.int x3, va_rf r1002]) (fun hC _ _ _ _ _ _ hl k => lv_iload_n hC.1 hC.2.1 d_M_write_107 rfl (lv_at hl 2 rfl) k) ?_
      refine x_zald (t := 1) rfl (r := r1002) (i := x3) d_M_write_108 (fun x1003 => ?_)
      exact x_zret d_M_write_109
    · refine x_go (pc' := 36) (st' := [.int x4]) (fun hC _ _ _ _ _ _ hl k => lv_iload hC.1 hC.2.1 d_M_write_34 (lv_at hl 3 rfl) k) ?_
      refine x_go (pc' := 37) (st' := [.int x3, .int x4]) (fun hC _ _ _ _ _ _ hl k => lv_iload_n hC.1 hC.2.1 d_M_write_36 rfl (lv_at hl 2 rfl) k) ?_
      refine x_if (P := x4 = x3) (pt := 97) (pf := 40) (st' := []) (fun hC _ _ _ _ _ _ kt kf => lv_icmp_eq (tgt := 97) hC.1 hC.2.1 d_M_write_37 (by decide) kt kf) ?_ ?_
      · refine x_lift (pc' := 100) (st' := []) (lv' := [(4, .int (x4 + 1)), (0, .ref a0), (2, .int x2), (3, .int x3)]) (fun hC _ _ _ _ _ _ hl k => lv_iinc (v := (x4 + 1)) hC.1 hC.2.1 d_M_write_97 hl (k := 3) rfl rfl (by decide) rfl k) ?_
        refine x_go (pc' := 25) (st' := []) (fun hC _ _ _ _ _ _ hl k => lv_goto (tgt := 25) hC.1 hC.2.1 d_M_write_100 (by decide) k) ?_
        exact x_sub (lv' := [(0, .ref a0), (2, .int x2), (3, .int x3), (4, .int (x4 + 1))]) [1, 2, 3, 0] rfl (ih a0 x2 x3 (x4 + 1) h)
      · refine x_go (pc' := 41) (st' := [.ref a0]) (fun hC _ _ _ _ _ _ hl k => lv_aload_n hC.1 hC.2.1 d_M_write_40 rfl (lv_at hl 0 rfl) k) ?_
        refine x_go (pc' := 43) (st' := [.int x4, .ref a0]) (fun hC _ _ _ _ _ _ hl k => lv_iload hC.1 hC.2.1 d_M_write_41 (lv_at hl 3 rfl) k) ?_
        refine x_go (pc' := 44) (st' := [.int x3, .int x4, .ref a0]) (fun hC _ _ _ _ _ _ hl k => lv_iload_n hC.1 hC.2.1 d_M_write_43 rfl (lv_at hl 2 rfl) k) ?_
        refine x_recv (ci := 4) (r := (some a0)) (fun b1006 _ eb1006 gb1006 => ?_)
        refine x_callI (rest := []) (c_M_concurrent l B b1006 x4 x3 h) (fun hC => fun e1 e2 e3 e4 hM => fun hR hsz hc hs => run_V (n := 2) hC lw_good rfl rfl tw_413 tw_415 tv_17 tw_3 tw_416 (by decide) d_M_write_44 gb1006 (by rw [e1]; exact Nat.le_of_ble_eq_true rfl) (by rw [e2]; exact Nat.le_of_ble_eq_true rfl) e3 e4 hM hR hsz hc hs rfl (by cases eb1006; rfl) (Nat.le_of_ble_eq_true rfl)) (fun x1005 h1004 => ?_)
        refine x_if (P := x1005 = 0) (pt := 97) (pf := 50) (st' := []) (fun hC _ _ _ _ _ _ kt kf => lv_if_eq (tgt := 97) hC.1 hC.2.1 d_M_write_47 (by decide) kt kf) ?_ ?_
        · refine x_lift (pc' := 100) (st' := []) (lv' := [(4, .int (x4 + 1)), (0, .ref a0), (2, .int x2), (3, .int x3)]) (fun hC _ _ _ _ _ _ hl k => lv_iinc (v := (x4 + 1)) hC.1 hC.2.1 d_M_write_97 hl (k := 3) rfl rfl (by decide) rfl k) ?_
          refine x_go (pc' := 25) (st' := []) (fun hC _ _ _ _ _ _ hl k => lv_goto (tgt := 25) hC.1 hC.2.1 d_M_write_100 (by decide) k) ?_
          exact x_sub (lv' := [(0, .ref a0), (2, .int x2), (3, .int x3), (4, .int (x4 + 1))]) [1, 2, 3, 0] rfl (ih a0 x2 x3 (x4 + 1) h1004)
        · refine x_go (pc' := 51) (st' := [.ref a0]) (fun hC _ _ _ _ _ _ hl k => lv_aload_n hC.1 hC.2.1 d_M_write_50 rfl (lv_at hl 0 rfl) k) ?_
          refine x_go (pc' := 53) (st' := [.int x4, .ref a0]) (fun hC _ _ _ _ _ _ hl k => lv_iload hC.1 hC.2.1 d_M_write_51 (lv_at hl 3 rfl) k) ?_
          refine x_go (pc' := 54) (st' := [.int x2, .int x4, .ref a0]) (fun hC _ _ _ _ _ _ hl k => lv_iload_n hC.1 hC.2.1 d_M_write_53 rfl (lv_at hl 1 rfl) k) ?_
          refine x_recv (ci := 4) (r := (some a0)) (fun b1009 _ eb1009 gb1009 => ?_)
          refine x_callI (rest := []) (c_M_hasRead l B b1009 x4 x2 h1004) (fun hC => fun e1 e2 e3 e4 hM => fun hR hsz hc hs => run_V (n := 2) hC lw_good rfl rfl tw_417 tw_419 tv_18 tw_3 tw_420 (by decide) d_M_write_54 gb1009 (by rw [e1]; exact Nat.le_of_ble_eq_true rfl) (by rw [e2]; exact Nat.le_of_ble_eq_true rfl) e3 e4 hM hR hsz hc hs rfl (by cases eb1009; rfl) (Nat.le_of_ble_eq_true rfl)) (fun x1008 h1007 => ?_)
          refine x_if (P := x1008 = 0) (pt := 97) (pf := 60) (st' := []) (fun hC _ _ _ _ _ _ kt kf => lv_if_eq (tgt := 97) hC.1 hC.2.1 d_M_write_57 (by decide) kt kf) ?_ ?_
          · refine x_lift (pc' := 100) (st' := []) (lv' := [(4, .int (x4 + 1)), (0, .ref a0), (2, .int x2), (3, .int x3)]) (fun hC _ _ _ _ _ _ hl k => lv_iinc (v := (x4 + 1)) hC.1 hC.2.1 d_M_write_97 hl (k := 3) rfl rfl (by decide) rfl k) ?_
            refine x_go (pc' := 25) (st' := []) (fun hC _ _ _ _ _ _ hl k => lv_goto (tgt := 25) hC.1 hC.2.1 d_M_write_100 (by decide) k) ?_
            exact x_sub (lv' := [(0, .ref a0), (2, .int x2), (3, .int x3), (4, .int (x4 + 1))]) [1, 2, 3, 0] rfl (ih a0 x2 x3 (x4 + 1) h1007)
          · refine x_go (pc' := 61) (st' := [.ref a0]) (fun hC _ _ _ _ _ _ hl k => lv_aload_n hC.1 hC.2.1 d_M_write_60 rfl (lv_at hl 0 rfl) k) ?_
            refine x_go (pc' := 63) (st' := [.int x4, .ref a0]) (fun hC _ _ _ _ _ _ hl k => lv_iload hC.1 hC.2.1 d_M_write_61 (lv_at hl 3 rfl) k) ?_
            refine x_go (pc' := 64) (st' := [.int x3, .int x4, .ref a0]) (fun hC _ _ _ _ _ _ hl k => lv_iload_n hC.1 hC.2.1 d_M_write_63 rfl (lv_at hl 2 rfl) k) ?_
            refine x_recv (ci := 4) (r := (some a0)) (fun b1011 _ eb1011 gb1011 => ?_)
            refine x_callU (rest := []) (c_M_point l B b1011 x4 x3 h1007) (fun hC => fun e1 e2 e3 e4 hM => fun hR hsz hc hs => run_V (n := 2) hC lw_good rfl rfl tw_425 tw_427 tv_20 tw_3 tw_428 (by decide) d_M_write_64 gb1011 (by rw [e1]; exact Nat.le_of_ble_eq_true rfl) (by rw [e2]; exact Nat.le_of_ble_eq_true rfl) e3 e4 hM hR hsz hc hs rfl (by cases eb1011; rfl) (Nat.le_of_ble_eq_true rfl)) (fun h1010 => ?_)
            refine x_go (pc' := 68) (st' := [.ref a0]) (fun hC _ _ _ _ _ _ hl k => lv_aload_n hC.1 hC.2.1 d_M_write_67 rfl (lv_at hl 0 rfl) k) ?_
            refine x_getR (ci := 4) (kf := 7) (r := (some a0)) (fun hC => w_get hC iw_4 rfl 7 (by decide) tw_321 rfl d_M_write_68) (fun r1012 => ?_)
            refine x_go (pc' := 72) (st' := [.int x3, va_rf r1012]) (fun hC _ _ _ _ _ _ hl k => lv_iload_n hC.1 hC.2.1 d_M_write_71 rfl (lv_at hl 2 rfl) k) ?_
            refine x_go (pc' := 73) (st' := [.ref a0, .int x3, va_rf r1012]) (fun hC _ _ _ _ _ _ hl k => lv_aload_n hC.1 hC.2.1 d_M_write_72 rfl (lv_at hl 0 rfl) k) ?_
            refine x_getR (ci := 4) (kf := 7) (r := (some a0)) (fun hC => w_get hC iw_4 rfl 7 (by decide) tw_321 rfl d_M_write_73) (fun r1013 => ?_)
            refine x_go (pc' := 77) (st' := [.int x3, va_rf r1013, .int x3, va_rf r1012]) (fun hC _ _ _ _ _ _ hl k => lv_iload_n hC.1 hC.2.1 d_M_write_76 rfl (lv_at hl 2 rfl) k) ?_
            refine x_zald (t := 1) rfl (r := r1013) (i := x3) d_M_write_77 (fun x1014 => ?_)
            refine x_if (P := x1014 = 0) (pt := 81) (pf := 91) (st' := [.int x3, va_rf r1012]) (fun hC _ _ _ _ _ _ kt kf => lv_if_ne (tgt := 91) hC.1 hC.2.1 d_M_write_78 (by decide) kf kt) ?_ ?_
            · refine x_go (pc' := 82) (st' := [.ref a0, .int x3, va_rf r1012]) (fun hC _ _ _ _ _ _ hl k => lv_aload_n hC.1 hC.2.1 d_M_write_81 rfl (lv_at hl 0 rfl) k) ?_
              refine x_go (pc' := 84) (st' := [.int x4, .ref a0, .int x3, va_rf r1012]) (fun hC _ _ _ _ _ _ hl k => lv_iload hC.1 hC.2.1 d_M_write_82 (lv_at hl 3 rfl) k) ?_
              refine x_go (pc' := 85) (st' := [.int x3, .int x4, .ref a0, .int x3, va_rf r1012]) (fun hC _ _ _ _ _ _ hl k => lv_iload_n hC.1 hC.2.1 d_M_write_84 rfl (lv_at hl 2 rfl) k) ?_
              refine x_recv (ci := 4) (r := (some a0)) (fun b1017 _ eb1017 gb1017 => ?_)
              refine x_callI (rest := [.int x3, va_rf r1012]) (c_M_isDanger l B b1017 x4 x3 h1010) (fun hC => fun e1 e2 e3 e4 hM => fun hR hsz hc hs => run_V (n := 2) hC lw_good rfl rfl tw_429 tw_431 tv_21 tw_3 tw_432 (by decide) d_M_write_85 gb1017 (by rw [e1]; exact Nat.le_of_ble_eq_true rfl) (by rw [e2]; exact Nat.le_of_ble_eq_true rfl) e3 e4 hM hR hsz hc hs rfl (by cases eb1017; rfl) (by simp [rf_cat, cat_i, cat_l, cat_r])) (fun x1016 h1015 => ?_)
              refine x_if (P := x1016 = 0) (pt := 95) (pf := 91) (st' := [.int x3, va_rf r1012]) (fun hC _ _ _ _ _ _ kt kf => lv_if_eq (tgt := 95) hC.1 hC.2.1 d_M_write_88 (by decide) kt kf) ?_ ?_
              · refine x_go (pc' := 96) (st' := [.int (0 : Int32), .int x3, va_rf r1012]) (fun hC _ _ _ _ _ _ hl k => lv_iconst (v := 0) hC.1 hC.2.1 d_M_write_95 (by decide) k) ?_
                refine x_zast (t := 1) rfl (r := r1012) (i := x3) (x := (0 : Int32)) d_M_write_96 (fun h1018 => ?_)
                refine x_lift (pc' := 100) (st' := []) (lv' := [(4, .int (x4 + 1)), (0, .ref a0), (2, .int x2), (3, .int x3)]) (fun hC _ _ _ _ _ _ hl k => lv_iinc (v := (x4 + 1)) hC.1 hC.2.1 d_M_write_97 hl (k := 3) rfl rfl (by decide) rfl k) ?_
                refine x_go (pc' := 25) (st' := []) (fun hC _ _ _ _ _ _ hl k => lv_goto (tgt := 25) hC.1 hC.2.1 d_M_write_100 (by decide) k) ?_
                exact x_sub (lv' := [(0, .ref a0), (2, .int x2), (3, .int x3), (4, .int (x4 + 1))]) [1, 2, 3, 0] rfl (ih a0 x2 x3 (x4 + 1) h1018)
              · exact x_sub (lv' := [(0, .ref a0), (2, .int x2), (3, .int x3), (4, .int x4)]) [0, 1, 2, 3] rfl (x_M_write_b91 (f_M_write_b25 n) ih a0 x2 x3 x4 r1012 x3 h1015)
            · exact x_sub (lv' := [(0, .ref a0), (2, .int x2), (3, .int x3), (4, .int x4)]) [0, 1, 2, 3] rfl (x_M_write_b91 (f_M_write_b25 n) ih a0 x2 x3 x4 r1012 x3 h1010)
set_option maxHeartbeats 4000000 in
set_option maxRecDepth 100000 in
theorem c_M_write (l : Launch) (B : AB) (a0 : Nat) (x1 : Int32) (x2 : Int32) (h : AH) : CT l B y_M_write (Cond.code y_M_write b_M_write 5 (Option.some Jvm.ClassFile.FieldType.boolean) :: lw_tt) 2 50 eI [.ref a0, .int x1, .int x2] h (f_M_write a0 x1 x2 h) := by
  refine ct_of (own := o_M) (nm := "write") (by decide +kernel) rfl rfl (Nat.le_of_ble_eq_true rfl) (fun p e k1 k2 s m args below meth c => ?_)
  refine x_sub (lv' := [(0, .ref a0), (1, .int x1), (2, .int x2)]) [0, 1, 2] rfl ?_
  unfold f_M_write
  refine x_go (pc' := 1) (st' := [.ref a0]) (fun hC _ _ _ _ _ _ hl k => lv_aload_n hC.1 hC.2.1 d_M_write_0 rfl (lv_at hl 0 rfl) k) ?_
  refine x_go (pc' := 2) (st' := [.int x1, .ref a0]) (fun hC _ _ _ _ _ _ hl k => lv_iload_n hC.1 hC.2.1 d_M_write_1 rfl (lv_at hl 1 rfl) k) ?_
  refine x_recv (ci := 4) (r := (some a0)) (fun b103 _ eb103 gb103 => ?_)
  refine x_callI (rest := []) (c_M_running l B b103 x1 h) (fun hC => fun e1 e2 e3 e4 hM => fun hR hsz hc hs => run_V (n := 1) hC lw_good rfl rfl tw_385 tw_387 tv_14 tw_3 tw_388 (by decide) d_M_write_2 gb103 (by rw [e1]; exact Nat.le_of_ble_eq_true rfl) (by rw [e2]; exact Nat.le_of_ble_eq_true rfl) e3 e4 hM hR hsz hc hs rfl (by cases eb103; rfl) (Nat.le_of_ble_eq_true rfl)) (fun x102 h101 => ?_)
  refine x_lift (pc' := 6) (st' := []) (lv' := [(3, .int x102), (0, .ref a0), (1, .int x1), (2, .int x2)]) (fun hC _ _ _ _ _ _ hl k => lv_istore_n (i := 3) hC.1 hC.2.1 d_M_write_5 rfl hl (by decide) rfl k) ?_
  refine x_go (pc' := 7) (st' := [.int x102]) (fun hC _ _ _ _ _ _ hl k => lv_iload_n hC.1 hC.2.1 d_M_write_6 rfl (lv_at hl 0 rfl) k) ?_
  refine x_if (P := x102 < 0) (pt := 20) (pf := 10) (st' := []) (fun hC _ _ _ _ _ _ kt kf => lv_if_lt (tgt := 20) hC.1 hC.2.1 d_M_write_7 (by decide) kt kf) ?_ ?_
  · refine x_go (pc' := 21) (st' := [.int (0 : Int32)]) (fun hC _ _ _ _ _ _ hl k => lv_iconst (v := 0) hC.1 hC.2.1 d_M_write_20 (by decide) k) ?_
    exact x_zret d_M_write_21
  · refine x_go (pc' := 11) (st' := [.int x2]) (fun hC _ _ _ _ _ _ hl k => lv_iload_n hC.1 hC.2.1 d_M_write_10 rfl (lv_at hl 3 rfl) k) ?_
    refine x_if (P := x2 < 0) (pt := 20) (pf := 14) (st' := []) (fun hC _ _ _ _ _ _ kt kf => lv_if_lt (tgt := 20) hC.1 hC.2.1 d_M_write_11 (by decide) kt kf) ?_ ?_
    · refine x_go (pc' := 21) (st' := [.int (0 : Int32)]) (fun hC _ _ _ _ _ _ hl k => lv_iconst (v := 0) hC.1 hC.2.1 d_M_write_20 (by decide) k) ?_
      exact x_zret d_M_write_21
    · refine x_go (pc' := 15) (st' := [.int x2]) (fun hC _ _ _ _ _ _ hl k => lv_iload_n hC.1 hC.2.1 d_M_write_14 rfl (lv_at hl 3 rfl) k) ?_
      refine x_go (pc' := 17) (st' := [.int (7 : Int32), .int x2]) (fun hC _ _ _ _ _ _ hl k => lv_bipush (v := 7) hC.1 hC.2.1 d_M_write_15 (by decide) k) ?_
      refine x_if (P := x2 ≤ (7 : Int32)) (pt := 22) (pf := 20) (st' := []) (fun hC _ _ _ _ _ _ kt kf => lv_icmp_le (tgt := 22) hC.1 hC.2.1 d_M_write_17 (by decide) kt kf) ?_ ?_
      · refine x_go (pc' := 23) (st' := [.int (0 : Int32)]) (fun hC _ _ _ _ _ _ hl k => lv_iconst (v := 0) hC.1 hC.2.1 d_M_write_22 (by decide) k) ?_
        refine x_lift (pc' := 25) (st' := []) (lv' := [(4, .int (0 : Int32)), (3, .int x102), (0, .ref a0), (1, .int x1), (2, .int x2)]) (fun hC _ _ _ _ _ _ hl k => lv_istore (i := 4) hC.1 hC.2.1 d_M_write_23 hl (by decide) rfl k) ?_
        exact x_sub (lv' := [(0, .ref a0), (2, .int x2), (3, .int x102), (4, .int (0 : Int32))]) [2, 4, 1, 0] rfl (x_M_write_b25 2000 a0 x2 x102 (0 : Int32) h101)
      · refine x_go (pc' := 21) (st' := [.int (0 : Int32)]) (fun hC _ _ _ _ _ _ hl k => lv_iconst (v := 0) hC.1 hC.2.1 d_M_write_20 (by decide) k) ?_
        exact x_zret d_M_write_21
/-! SerialDeskModel.miss(II)Z -/
theorem d_M_miss_0 : decode b_M_miss 0 = .ok (.aload_n 0, 1) := by decide +kernel
theorem d_M_miss_1 : decode b_M_miss 1 = .ok (.iload_n 1, 1) := by decide +kernel
theorem d_M_miss_2 : decode b_M_miss 2 = .ok (.invokevirtual 73, 3) := by decide +kernel
theorem d_M_miss_5 : decode b_M_miss 5 = .ok (.istore_n 3, 1) := by decide +kernel
theorem d_M_miss_6 : decode b_M_miss 6 = .ok (.iload_n 3, 1) := by decide +kernel
theorem d_M_miss_7 : decode b_M_miss 7 = .ok (.ifCond .ge 5, 3) := by decide +kernel
theorem d_M_miss_10 : decode b_M_miss 10 = .ok (.iconst 0, 1) := by decide +kernel
theorem d_M_miss_11 : decode b_M_miss 11 = .ok (.ireturn, 1) := by decide +kernel
theorem d_M_miss_12 : decode b_M_miss 12 = .ok (.aload_n 0, 1) := by decide +kernel
theorem d_M_miss_13 : decode b_M_miss 13 = .ok (.iload_n 2, 1) := by decide +kernel
theorem d_M_miss_14 : decode b_M_miss 14 = .ok (.invokevirtual 109, 3) := by decide +kernel
theorem d_M_miss_17 : decode b_M_miss 17 = .ok (.istore 4, 2) := by decide +kernel
theorem d_M_miss_19 : decode b_M_miss 19 = .ok (.iload 4, 2) := by decide +kernel
theorem d_M_miss_21 : decode b_M_miss 21 = .ok (.ifCond .lt 146, 3) := by decide +kernel
theorem d_M_miss_24 : decode b_M_miss 24 = .ok (.iload 4, 2) := by decide +kernel
theorem d_M_miss_26 : decode b_M_miss 26 = .ok (.iload_n 3, 1) := by decide +kernel
theorem d_M_miss_27 : decode b_M_miss 27 = .ok (.if_icmp .eq 140, 3) := by decide +kernel
theorem d_M_miss_30 : decode b_M_miss 30 = .ok (.aload_n 0, 1) := by decide +kernel
theorem d_M_miss_31 : decode b_M_miss 31 = .ok (.iload_n 3, 1) := by decide +kernel
theorem d_M_miss_32 : decode b_M_miss 32 = .ok (.iload 4, 2) := by decide +kernel
theorem d_M_miss_34 : decode b_M_miss 34 = .ok (.invokevirtual 95, 3) := by decide +kernel
theorem d_M_miss_37 : decode b_M_miss 37 = .ok (.ifCond .eq 130, 3) := by decide +kernel
theorem d_M_miss_40 : decode b_M_miss 40 = .ok (.aload_n 0, 1) := by decide +kernel
theorem d_M_miss_41 : decode b_M_miss 41 = .ok (.iload_n 3, 1) := by decide +kernel
theorem d_M_miss_42 : decode b_M_miss 42 = .ok (.iload 4, 2) := by decide +kernel
theorem d_M_miss_44 : decode b_M_miss 44 = .ok (.invokevirtual 102, 3) := by decide +kernel
theorem d_M_miss_47 : decode b_M_miss 47 = .ok (.aload_n 0, 1) := by decide +kernel
theorem d_M_miss_48 : decode b_M_miss 48 = .ok (.getfield 22, 3) := by decide +kernel
theorem d_M_miss_51 : decode b_M_miss 51 = .ok (.iload_n 3, 1) := by decide +kernel
theorem d_M_miss_52 : decode b_M_miss 52 = .ok (.aload_n 0, 1) := by decide +kernel
theorem d_M_miss_53 : decode b_M_miss 53 = .ok (.getfield 22, 3) := by decide +kernel
theorem d_M_miss_56 : decode b_M_miss 56 = .ok (.iload_n 3, 1) := by decide +kernel
theorem d_M_miss_57 : decode b_M_miss 57 = .ok (.baload, 1) := by decide +kernel
theorem d_M_miss_58 : decode b_M_miss 58 = .ok (.ifCond .ne 13, 3) := by decide +kernel
theorem d_M_miss_61 : decode b_M_miss 61 = .ok (.aload_n 0, 1) := by decide +kernel
theorem d_M_miss_62 : decode b_M_miss 62 = .ok (.iload_n 3, 1) := by decide +kernel
theorem d_M_miss_63 : decode b_M_miss 63 = .ok (.iload 4, 2) := by decide +kernel
theorem d_M_miss_65 : decode b_M_miss 65 = .ok (.invokevirtual 106, 3) := by decide +kernel
theorem d_M_miss_68 : decode b_M_miss 68 = .ok (.ifCond .eq 7, 3) := by decide +kernel
theorem d_M_miss_71 : decode b_M_miss 71 = .ok (.iconst 1, 1) := by decide +kernel
theorem d_M_miss_72 : decode b_M_miss 72 = .ok (.goto 4, 3) := by decide +kernel
theorem d_M_miss_75 : decode b_M_miss 75 = .ok (.iconst 0, 1) := by decide +kernel
theorem d_M_miss_76 : decode b_M_miss 76 = .ok (.bastore, 1) := by decide +kernel
theorem d_M_miss_77 : decode b_M_miss 77 = .ok (.iconst 0, 1) := by decide +kernel
theorem d_M_miss_78 : decode b_M_miss 78 = .ok (.istore 5, 2) := by decide +kernel
theorem d_M_miss_80 : decode b_M_miss 80 = .ok (.iload 5, 2) := by decide +kernel
theorem d_M_miss_82 : decode b_M_miss 82 = .ok (.aload_n 0, 1) := by decide +kernel
theorem d_M_miss_83 : decode b_M_miss 83 = .ok (.getfield 69, 3) := by decide +kernel
theorem d_M_miss_86 : decode b_M_miss 86 = .ok (.if_icmp .ge 81, 3) := by decide +kernel
theorem d_M_miss_89 : decode b_M_miss 89 = .ok (.aload_n 0, 1) := by decide +kernel
theorem d_M_miss_90 : decode b_M_miss 90 = .ok (.getfield 19, 3) := by decide +kernel
theorem d_M_miss_93 : decode b_M_miss 93 = .ok (.iload 4, 2) := by decide +kernel
theorem d_M_miss_95 : decode b_M_miss 95 = .ok (.iaload, 1) := by decide +kernel
theorem d_M_miss_96 : decode b_M_miss 96 = .ok (.ifCond .le 71, 3) := by decide +kernel
theorem d_M_miss_99 : decode b_M_miss 99 = .ok (.aload_n 0, 1) := by decide +kernel
theorem d_M_miss_100 : decode b_M_miss 100 = .ok (.getfield 22, 3) := by decide +kernel
theorem d_M_miss_103 : decode b_M_miss 103 = .ok (.iload_n 3, 1) := by decide +kernel
theorem d_M_miss_104 : decode b_M_miss 104 = .ok (.aload_n 0, 1) := by decide +kernel
theorem d_M_miss_105 : decode b_M_miss 105 = .ok (.getfield 22, 3) := by decide +kernel
theorem d_M_miss_108 : decode b_M_miss 108 = .ok (.iload_n 3, 1) := by decide +kernel
theorem d_M_miss_109 : decode b_M_miss 109 = .ok (.baload, 1) := by decide +kernel
theorem d_M_miss_110 : decode b_M_miss 110 = .ok (.ifCond .ne 45, 3) := by decide +kernel
theorem d_M_miss_113 : decode b_M_miss 113 = .ok (.aload_n 0, 1) := by decide +kernel
theorem d_M_miss_114 : decode b_M_miss 114 = .ok (.getfield 29, 3) := by decide +kernel
theorem d_M_miss_117 : decode b_M_miss 117 = .ok (.bipush 64, 2) := by decide +kernel
theorem d_M_miss_119 : decode b_M_miss 119 = .ok (.iload 5, 2) := by decide +kernel
theorem d_M_miss_121 : decode b_M_miss 121 = .ok (.imul, 1) := by decide +kernel
theorem d_M_miss_122 : decode b_M_miss 122 = .ok (.iload_n 3, 1) := by decide +kernel
theorem d_M_miss_123 : decode b_M_miss 123 = .ok (.iadd, 1) := by decide +kernel
theorem d_M_miss_124 : decode b_M_miss 124 = .ok (.baload, 1) := by decide +kernel
theorem d_M_miss_125 : decode b_M_miss 125 = .ok (.ifCond .eq 34, 3) := by decide +kernel
theorem d_M_miss_128 : decode b_M_miss 128 = .ok (.aload_n 0, 1) := by decide +kernel
theorem d_M_miss_129 : decode b_M_miss 129 = .ok (.getfield 19, 3) := by decide +kernel
theorem d_M_miss_132 : decode b_M_miss 132 = .ok (.iload 5, 2) := by decide +kernel
theorem d_M_miss_134 : decode b_M_miss 134 = .ok (.iaload, 1) := by decide +kernel
theorem d_M_miss_135 : decode b_M_miss 135 = .ok (.ifCond .eq 20, 3) := by decide +kernel
theorem d_M_miss_138 : decode b_M_miss 138 = .ok (.aload_n 0, 1) := by decide +kernel
theorem d_M_miss_139 : decode b_M_miss 139 = .ok (.getfield 19, 3) := by decide +kernel
theorem d_M_miss_142 : decode b_M_miss 142 = .ok (.iload 5, 2) := by decide +kernel
theorem d_M_miss_144 : decode b_M_miss 144 = .ok (.iaload, 1) := by decide +kernel
theorem d_M_miss_145 : decode b_M_miss 145 = .ok (.aload_n 0, 1) := by decide +kernel
theorem d_M_miss_146 : decode b_M_miss 146 = .ok (.getfield 19, 3) := by decide +kernel
theorem d_M_miss_149 : decode b_M_miss 149 = .ok (.iload 4, 2) := by decide +kernel
theorem d_M_miss_151 : decode b_M_miss 151 = .ok (.iaload, 1) := by decide +kernel
theorem d_M_miss_152 : decode b_M_miss 152 = .ok (.if_icmp .lt 7, 3) := by decide +kernel
theorem d_M_miss_155 : decode b_M_miss 155 = .ok (.iconst 1, 1) := by decide +kernel
theorem d_M_miss_156 : decode b_M_miss 156 = .ok (.goto 4, 3) := by decide +kernel
theorem d_M_miss_159 : decode b_M_miss 159 = .ok (.iconst 0, 1) := by decide +kernel
theorem d_M_miss_160 : decode b_M_miss 160 = .ok (.bastore, 1) := by decide +kernel
theorem d_M_miss_161 : decode b_M_miss 161 = .ok (.iinc 5 1, 3) := by decide +kernel
theorem d_M_miss_164 : decode b_M_miss 164 = .ok (.goto (-84), 3) := by decide +kernel
theorem d_M_miss_167 : decode b_M_miss 167 = .ok (.aload_n 0, 1) := by decide +kernel
theorem d_M_miss_168 : decode b_M_miss 168 = .ok (.getfield 22, 3) := by decide +kernel
theorem d_M_miss_171 : decode b_M_miss 171 = .ok (.iload_n 3, 1) := by decide +kernel
theorem d_M_miss_172 : decode b_M_miss 172 = .ok (.baload, 1) := by decide +kernel
theorem d_M_miss_173 : decode b_M_miss 173 = .ok (.ireturn, 1) := by decide +kernel
abbrev X_M_miss (p : Program) (l : Launch) (e : Env) (k1 k2 : Nat) (s : State) (m : MethodId) (args : Array Value) (below : List Frame) (meth : Method) (c : Code) (B : AB) (n0 m0 : Nat) (h : AH) (pc : Nat) (lv : List (Nat × Value)) (st : List Value) (comp : Option (Int32 × AH)) : Prop := XX p l e { frames := 1, cells := k1, slots := k2, locals := 23 } s m args below meth c b_M_miss o_M lw_tt 6 (Option.some Jvm.ClassFile.FieldType.boolean) "miss" B n0 m0 (QM B below args s { frames := 1, cells := k1, slots := k2, locals := 23 } eI) h pc lv st comp
def f_M_miss_b155 (K80 : Nat → Int32 → Int32 → Int32 → AH → Option (Int32 × AH)) (a0 : Nat) (x3 : Int32) (x4 : Int32) (x5 : Int32) (rs0 : Option Nat) (xs1 : Int32) (h : AH) : Option (Int32 × AH) := (qE h 1 rs0 xs1 (1 : Int32)).bind (fun h1001 => K80 a0 x3 x4 (x5 + 1) h1001)
def f_M_miss_b159 (K80 : Nat → Int32 → Int32 → Int32 → AH → Option (Int32 × AH)) (a0 : Nat) (x3 : Int32) (x4 : Int32) (x5 : Int32) (rs0 : Option Nat) (xs1 : Int32) (h : AH) : Option (Int32 × AH) := (qE h 1 rs0 xs1 (0 : Int32)).bind (fun h1001 => K80 a0 x3 x4 (x5 + 1) h1001)
def f_M_miss_b167 (a0 : Nat) (x3 : Int32) (h : AH) : Option (Int32 × AH) := (fR h 4 7 (some a0)).bind (fun r1001 => (lI h 1 r1001 x3).bind (fun x1002 => rZ x1002 h))
def f_M_miss_b80 : Nat → Nat → Int32 → Int32 → Int32 → AH → Option (Int32 × AH)
  | 0, _, _, _, _, _ => none
  | n + 1, a0, x3, x4, x5, h => (fI h 4 2 (some a0)).bind (fun x1001 => (if x1001 ≤ x5 then f_M_miss_b167 a0 x3 h else (fR h 4 6 (some a0)).bind (fun r1002 => (lI h 4 r1002 x4).bind (fun x1003 => (if x1003 ≤ 0 then f_M_miss_b167 a0 x3 h else (fR h 4 7 (some a0)).bind (fun r1004 => (fR h 4 7 (some a0)).bind (fun r1005 => (lI h 1 r1005 x3).bind (fun x1006 => (if x1006 = 0 then (fR h 4 9 (some a0)).bind (fun r1007 => (lI h 1 r1007 (((64 : Int32) * x5) + x3)).bind (fun x1008 => (if x1008 = 0 then f_M_miss_b159 (f_M_miss_b80 n) a0 x3 x4 x5 r1004 x3 h else (fR h 4 6 (some a0)).bind (fun r1009 => (lI h 4 r1009 x5).bind (fun x1010 => (if x1010 = 0 then f_M_miss_b155 (f_M_miss_b80 n) a0 x3 x4 x5 r1004 x3 h else (fR h 4 6 (some a0)).bind (fun r1011 => (lI h 4 r1011 x5).bind (fun x1012 => (fR h 4 6 (some a0)).bind (fun r1013 => (lI h 4 r1013 x4).bind (fun x1014 => (if x1012 < x1014 then f_M_miss_b159 (f_M_miss_b80 n) a0 x3 x4 x5 r1004 x3 h else f_M_miss_b155 (f_M_miss_b80 n) a0 x3 x4 x5 r1004 x3 h))))))))))) else f_M_miss_b155 (f_M_miss_b80 n) a0 x3 x4 x5 r1004 x3 h)))))))))
def f_M_miss_b71 (a0 : Nat) (x3 : Int32) (x4 : Int32) (rs0 : Option Nat) (xs1 : Int32) (h : AH) : Option (Int32 × AH) := (qE h 1 rs0 xs1 (1 : Int32)).bind (fun h1001 => f_M_miss_b80 2000 a0 x3 x4 (0 : Int32) h1001)
def f_M_miss (a0 : Nat) (x1 : Int32) (x2 : Int32) (h : AH) : Option (Int32 × AH) := rcv h 4 (some a0) (fun b103 => bnd (f_M_running b103 x1 h) (fun x102 h101 => (if 0 ≤ x102 then rcv h101 4 (some a0) (fun b106 => bnd (f_M_find b106 x2 h101) (fun x105 h104 => (if x105 < 0 then f_M_miss_b167 a0 x102 h104 else (if x105 = x102 then f_M_miss_b167 a0 x102 h104 else rcv h104 4 (some a0) (fun b109 => bnd (f_M_concurrent b109 x102 x105 h104) (fun x108 h107 => (if x108 = 0 then f_M_miss_b167 a0 x102 h107 else rcv h107 4 (some a0) (fun b111 => bndU (f_M_point b111 x102 x105 h107) (fun h110 => (fR h110 4 7 (some a0)).bind (fun r112 => (fR h110 4 7 (some a0)).bind (fun r113 => (lI h110 1 r113 x102).bind (fun x114 => (if x114 = 0 then rcv h110 4 (some a0) (fun b117 => bnd (f_M_isDanger b117 x102 x105 h110) (fun x116 h115 => (if x116 = 0 then (qE h115 1 r112 x102 (0 : Int32)).bind (fun h118 => f_M_miss_b80 2000 a0 x102 x105 (0 : Int32) h118) else f_M_miss_b71 a0 x102 x105 r112 x102 h115))) else f_M_miss_b71 a0 x102 x105 r112 x102 h110))))))))))))) else rZ (0 : Int32) h101)))
set_option maxHeartbeats 4000000 in
set_option maxRecDepth 100000 in
theorem x_M_miss_b155 {p : Program} {l : Launch} {e : Env} {k1 k2 : Nat} {s : State} {m : MethodId} {args : Array Value} {below : List Frame} {meth : Method} {c : Code} {B : AB} {n0 m0 : Nat} (K80 : Nat → Int32 → Int32 → Int32 → AH → Option (Int32 × AH)) (hK80 : ∀ (a0 : Nat) (x3 : Int32) (x4 : Int32) (x5 : Int32) (h : AH), X_M_miss p l e k1 k2 s m args below meth c B n0 m0 h 80 [(0, .ref a0), (3, .int x3), (4, .int x4), (5, .int x5)] [] (K80 a0 x3 x4 x5 h)) (a0 : Nat) (x3 : Int32) (x4 : Int32) (x5 : Int32) (rs0 : Option Nat) (xs1 : Int32) (h : AH) : X_M_miss p l e k1 k2 s m args below meth c B n0 m0 h 155 [(0, .ref a0), (3, .int x3), (4, .int x4), (5, .int x5)] [.int xs1, va_rf rs0] (f_M_miss_b155 K80 a0 x3 x4 x5 rs0 xs1 h) := by
  unfold f_M_miss_b155
  refine x_go (pc' := 156) (st' := [.int (1 : Int32), .int xs1, va_rf rs0]) (fun hC _ _ _ _ _ _ hl k => lv_iconst (v := 1) hC.1 hC.2.1 d_M_miss_155 (by decide) k) ?_
  refine x_go (pc' := 160) (st' := [.int (1 : Int32), .int xs1, va_rf rs0]) (fun hC _ _ _ _ _ _ hl k => lv_goto (tgt := 160) hC.1 hC.2.1 d_M_miss_156 (by decide) k) ?_
  refine x_zast (t := 1) rfl (r := rs0) (i := xs1) (x := (1 : Int32)) d_M_miss_160 (fun h1001 => ?_)
  refine x_lift (pc' := 164) (st' := []) (lv' := [(5, .int (x5 + 1)), (0, .ref a0), (3, .int x3), (4, .int x4)]) (fun hC _ _ _ _ _ _ hl k => lv_iinc (v := (x5 + 1)) hC.1 hC.2.1 d_M_miss_161 hl (k := 3) rfl rfl (by decide) rfl k) ?_
  refine x_go (pc' := 80) (st' := []) (fun hC _ _ _ _ _ _ hl k => lv_goto (tgt := 80) hC.1 hC.2.1 d_M_miss_164 (by decide) k) ?_
  exact x_sub (lv' := [(0, .ref a0), (3, .int x3), (4, .int x4), (5, .int (x5 + 1))]) [1, 2, 3, 0] rfl (hK80 a0 x3 x4 (x5 + 1) h1001)
set_option maxHeartbeats 4000000 in
set_option maxRecDepth 100000 in
theorem x_M_miss_b159 {p : Program} {l : Launch} {e : Env} {k1 k2 : Nat} {s : State} {m : MethodId} {args : Array Value} {below : List Frame} {meth : Method} {c : Code} {B : AB} {n0 m0 : Nat} (K80 : Nat → Int32 → Int32 → Int32 → AH → Option (Int32 × AH)) (hK80 : ∀ (a0 : Nat) (x3 : Int32) (x4 : Int32) (x5 : Int32) (h : AH), X_M_miss p l e k1 k2 s m args below meth c B n0 m0 h 80 [(0, .ref a0), (3, .int x3), (4, .int x4), (5, .int x5)] [] (K80 a0 x3 x4 x5 h)) (a0 : Nat) (x3 : Int32) (x4 : Int32) (x5 : Int32) (rs0 : Option Nat) (xs1 : Int32) (h : AH) : X_M_miss p l e k1 k2 s m args below meth c B n0 m0 h 159 [(0, .ref a0), (3, .int x3), (4, .int x4), (5, .int x5)] [.int xs1, va_rf rs0] (f_M_miss_b159 K80 a0 x3 x4 x5 rs0 xs1 h) := by
  unfold f_M_miss_b159
  refine x_go (pc' := 160) (st' := [.int (0 : Int32), .int xs1, va_rf rs0]) (fun hC _ _ _ _ _ _ hl k => lv_iconst (v := 0) hC.1 hC.2.1 d_M_miss_159 (by decide) k) ?_
  refine x_zast (t := 1) rfl (r := rs0) (i := xs1) (x := (0 : Int32)) d_M_miss_160 (fun h1001 => ?_)
  refine x_lift (pc' := 164) (st' := []) (lv' := [(5, .int (x5 + 1)), (0, .ref a0), (3, .int x3), (4, .int x4)]) (fun hC _ _ _ _ _ _ hl k => lv_iinc (v := (x5 + 1)) hC.1 hC.2.1 d_M_miss_161 hl (k := 3) rfl rfl (by decide) rfl k) ?_
  refine x_go (pc' := 80) (st' := []) (fun hC _ _ _ _ _ _ hl k => lv_goto (tgt := 80) hC.1 hC.2.1 d_M_miss_164 (by decide) k) ?_
  exact x_sub (lv' := [(0, .ref a0), (3, .int x3), (4, .int x4), (5, .int (x5 + 1))]) [1, 2, 3, 0] rfl (hK80 a0 x3 x4 (x5 + 1) h1001)
set_option maxHeartbeats 4000000 in
set_option maxRecDepth 100000 in
theorem x_M_miss_b167 {p : Program} {l : Launch} {e : Env} {k1 k2 : Nat} {s : State} {m : MethodId} {args : Array Value} {below : List Frame} {meth : Method} {c : Code} {B : AB} {n0 m0 : Nat} (a0 : Nat) (x3 : Int32) (h : AH) : X_M_miss p l e k1 k2 s m args below meth c B n0 m0 h 167 [(0, .ref a0), (3, .int x3)] [] (f_M_miss_b167 a0 x3 h) := by
  unfold f_M_miss_b167
  refine x_go (pc' := 168) (st' := [.ref a0]) (fun hC _ _ _ _ _ _ hl k => lv_aload_n hC.1 hC.2.1 d_M_miss_167 rfl (lv_at hl 0 rfl) k) ?_
  refine x_getR (ci := 4) (kf := 7) (r := (some a0)) (fun hC => w_get hC iw_4 rfl 7 (by decide) tw_321 rfl d_M_miss_168) (fun r1001 => ?_)
  refine x_go (pc' := 172) (st' := [.int x3, va_rf r1001]) (fun hC _ _ _ _ _ _ hl k => lv_iload_n hC.1 hC.2.1 d_M_miss_171 rfl (lv_at hl 1 rfl) k) ?_
  refine x_zald (t := 1) rfl (r := r1001) (i := x3) d_M_miss_172 (fun x1002 => ?_)
  exact x_zret d_M_miss_173
set_option maxHeartbeats 4000000 in
set_option maxRecDepth 100000 in
theorem x_M_miss_b80 {p : Program} {l : Launch} {e : Env} {k1 k2 : Nat} {s : State} {m : MethodId} {args : Array Value} {below : List Frame} {meth : Method} {c : Code} {B : AB} {n0 m0 : Nat} : ∀ (n : Nat) (a0 : Nat) (x3 : Int32) (x4 : Int32) (x5 : Int32) (h : AH), X_M_miss p l e k1 k2 s m args below meth c B n0 m0 h 80 [(0, .ref a0), (3, .int x3), (4, .int x4), (5, .int x5)] [] (f_M_miss_b80 n a0 x3 x4 x5 h) := by
  intro n
  induction n with
  | zero => intro a0 x3 x4 x5 h; exact x_none
  | succ n ih =>
    intro a0 x3 x4 x5 h
    rw [f_M_miss_b80]
    refine x_go (pc' := 82) (st' := [.int x5]) (fun hC _ _ _ _ _ _ hl k => lv_iload hC.1 hC.2.1 d_M_miss_80 (lv_at hl 3 rfl) k) ?_
    refine x_go (pc' := 83) (st' := [.ref a0, .int x5]) (fun hC _ _ _ _ _ _ hl k => lv_aload_n hC.1 hC.2.1 d_M_miss_82 rfl (lv_at hl 0 rfl) k) ?_
    refine x_getI (ci := 4) (kf := 2) (r := (some a0)) (fun hC => w_get hC iw_4 rfl 2 (by decide) tw_316 rfl d_M_miss_83) (fun x1001 => ?_)
    refine x_if (P := x1001 ≤ x5) (pt := 167) (pf := 89) (st' := []) (fun hC _ _ _ _ _ _ kt kf => lv_icmp_ge (tgt := 167) hC.1 hC.2.1 d_M_miss_86 (by decide) kt kf) ?_ ?_
    · exact x_sub (lv' := [(0, .ref a0), (3, .int x3)]) [0, 1] rfl (x_M_miss_b167 a0 x3 h)
    · refine x_go (pc' := 90) (st' := [.ref a0]) (fun hC _ _ _ _ _ _ hl k => lv_aload_n hC.1 hC.2.1 d_M_miss_89 rfl (lv_at hl 0 rfl) k) ?_
      refine x_getR (ci := 4) (kf := 6) (r := (some a0)) (fun hC => w_get hC iw_4 rfl 6 (by decide) tw_320 rfl d_M_miss_90) (fun r1002 => ?_)
      refine x_go (pc' := 95) (st' := [.int x4, va_rf r1002]) (fun hC _ _ _ _ _ _ hl k => lv_iload hC.1 hC.2.1 d_M_miss_93 (lv_at hl 2 rfl) k) ?_
      refine x_iald (t := 4) rfl (r := r1002) (i := x4) d_M_miss_95 (fun x1003 => ?_)
      refine x_if (P := x1003 ≤ 0) (pt := 167) (pf := 99) (st' := []) (fun hC _ _ _ _ _ _ kt kf => lv_if_le (tgt := 167) hC.1 hC.2.1 d_M_miss_96 (by decide) kt kf) ?_ ?_
      · exact x_sub (lv' := [(0, .ref a0), (3, .int x3)]) [0, 1] rfl (x_M_miss_b167 a0 x3 h)
      · refine x_go (pc' := 100) (st' := [.ref a0]) (fun hC _ _ _ _ _ _ hl k => lv_aload_n hC.1 hC.2.1 d_M_miss_99 rfl (lv_at hl 0 rfl) k) ?_
        refine x_getR (ci := 4) (kf := 7) (r := (some a0)) (fun hC => w_get hC iw_4 rfl 7 (by decide) tw_321 rfl d_M_miss_100) (fun r1004 => ?_)
        refine x_go (pc' := 104) (st' := [.int x3, va_rf r1004]) (fun hC _ _ _ _ _ _ hl k => lv_iload_n hC.1 hC.2.1 d_M_miss_103 rfl (lv_at hl 1 rfl) k) ?_
        refine x_go (pc' := 105) (st' := [.ref a0, .int x3, va_rf r1004]) (fun hC _ _ _ _ _ _ hl k => lv_aload_n hC.1 hC.2.1 d_M_miss_104 rfl (lv_at hl 0 rfl) k) ?_
        refine x_getR (ci := 4) (kf := 7) (r := (some a0)) (fun hC => w_get hC iw_4 rfl 7 (by decide) tw_321 rfl d_M_miss_105) (fun r1005 => ?_)
        refine x_go (pc' := 109) (st' := [.int x3, va_rf r1005, .int x3, va_rf r1004]) (fun hC _ _ _ _ _ _ hl k => lv_iload_n hC.1 hC.2.1 d_M_miss_108 rfl (lv_at hl 1 rfl) k) ?_
        refine x_zald (t := 1) rfl (r := r1005) (i := x3) d_M_miss_109 (fun x1006 => ?_)
        refine x_if (P := x1006 = 0) (pt := 113) (pf := 155) (st' := [.int x3, va_rf r1004]) (fun hC _ _ _ _ _ _ kt kf => lv_if_ne (tgt := 155) hC.1 hC.2.1 d_M_miss_110 (by decide) kf kt) ?_ ?_
        · refine x_go (pc' := 114) (st' := [.ref a0, .int x3, va_rf r1004]) (fun hC _ _ _ _ _ _ hl k => lv_aload_n hC.1 hC.2.1 d_M_miss_113 rfl (lv_at hl 0 rfl) k) ?_
          refine x_getR (ci := 4) (kf := 9) (r := (some a0)) (fun hC => w_get hC iw_4 rfl 9 (by decide) tw_323 rfl d_M_miss_114) (fun r1007 => ?_)
          refine x_go (pc' := 119) (st' := [.int (64 : Int32), va_rf r1007, .int x3, va_rf r1004]) (fun hC _ _ _ _ _ _ hl k => lv_bipush (v := 64) hC.1 hC.2.1 d_M_miss_117 (by decide) k) ?_
          refine x_go (pc' := 121) (st' := [.int x5, .int (64 : Int32), va_rf r1007, .int x3, va_rf r1004]) (fun hC _ _ _ _ _ _ hl k => lv_iload hC.1 hC.2.1 d_M_miss_119 (lv_at hl 3 rfl) k) ?_
          refine x_go (pc' := 122) (st' := [.int ((64 : Int32) * x5), va_rf r1007, .int x3, va_rf r1004]) (fun hC _ _ _ _ _ _ hl k => lv_imul hC.1 hC.2.1 d_M_miss_121 k) ?_
          refine x_go (pc' := 123) (st' := [.int x3, .int ((64 : Int32) * x5), va_rf r1007, .int x3, va_rf r1004]) (fun hC _ _ _ _ _ _ hl k => lv_iload_n hC.1 hC.2.1 d_M_miss_122 rfl (lv_at hl 1 rfl) k) ?_
          refine x_go (pc' := 124) (st' := [.int (((64 : Int32) * x5) + x3), va_rf r1007, .int x3, va_rf r1004]) (fun hC _ _ _ _ _ _ hl k => lv_iadd hC.1 hC.2.1 d_M_miss_123 k) ?_
          refine x_zald (t := 1) rfl (r := r1007) (i := (((64 : Int32) * x5) + x3)) d_M_miss_124 (fun x1008 => ?_)
          refine x_if (P := x1008 = 0) (pt := 159) (pf := 128) (st' := [.int x3, va_rf r1004]) (fun hC _ _ _ _ _ _ kt kf => lv_if_eq (tgt := 159) hC.1 hC.2.1 d_M_miss_125 (by decide) kt kf) ?_ ?_
          · exact x_sub (lv' := [(0, .ref a0), (3, .int x3), (4, .int x4), (5, .int x5)]) [0, 1, 2, 3] rfl (x_M_miss_b159 (f_M_miss_b80 n) ih a0 x3 x4 x5 r1004 x3 h)
          · refine x_go (pc' := 129) (st' := [.ref a0, .int x3, va_rf r1004]) (fun hC _ _ _ _ _ _ hl k => lv_aload_n hC.1 hC.2.1 d_M_miss_128 rfl (lv_at hl 0 rfl) k) ?_
            refine x_getR (ci := 4) (kf := 6) (r := (some a0)) (fun hC => w_get hC iw_4 rfl 6 (by decide) tw_320 rfl d_M_miss_129) (fun r1009 => ?_)
            refine x_go (pc' := 134) (st' := [.int x5, va_rf r1009, .int x3, va_rf r1004]) (fun hC _ _ _ _ _ _ hl k => lv_iload hC.1 hC.2.1 d_M_miss_132 (lv_at hl 3 rfl) k) ?_
            refine x_iald (t := 4) rfl (r := r1009) (i := x5) d_M_miss_134 (fun x1010 => ?_)
            refine x_if (P := x1010 = 0) (pt := 155) (pf := 138) (st' := [.int x3, va_rf r1004]) (fun hC _ _ _ _ _ _ kt kf => lv_if_eq (tgt := 155) hC.1 hC.2.1 d_M_miss_135 (by decide) kt kf) ?_ ?_
            · exact x_sub (lv' := [(0, .ref a0), (3, .int x3), (4, .int x4), (5, .int x5)]) [0, 1, 2, 3] rfl (x_M_miss_b155 (f_M_miss_b80 n) ih a0 x3 x4 x5 r1004 x3 h)
            · refine x_go (pc' := 139) (st' := [.ref a0, .int x3, va_rf r1004]) (fun hC _ _ _ _ _ _ hl k => lv_aload_n hC.1 hC.2.1 d_M_miss_138 rfl (lv_at hl 0 rfl) k) ?_
              refine x_getR (ci := 4) (kf := 6) (r := (some a0)) (fun hC => w_get hC iw_4 rfl 6 (by decide) tw_320 rfl d_M_miss_139) (fun r1011 => ?_)
              refine x_go (pc' := 144) (st' := [.int x5, va_rf r1011, .int x3, va_rf r1004]) (fun hC _ _ _ _ _ _ hl k => lv_iload hC.1 hC.2.1 d_M_miss_142 (lv_at hl 3 rfl) k) ?_
              refine x_iald (t := 4) rfl (r := r1011) (i := x5) d_M_miss_144 (fun x1012 => ?_)
              refine x_go (pc' := 146) (st' := [.ref a0, .int x1012, .int x3, va_rf r1004]) (fun hC _ _ _ _ _ _ hl k => lv_aload_n hC.1 hC.2.1 d_M_miss_145 rfl (lv_at hl 0 rfl) k) ?_
              refine x_getR (ci := 4) (kf := 6) (r := (some a0)) (fun hC => w_get hC iw_4 rfl 6 (by decide) tw_320 rfl d_M_miss_146) (fun r1013 => ?_)
              refine x_go (pc' := 151) (st' := [.int x4, va_rf r1013, .int x1012, .int x3, va_rf r1004]) (fun hC _ _ _ _ _ _ hl k => lv_iload hC.1 hC.2.1 d_M_miss_149 (lv_at hl 2 rfl) k) ?_
              refine x_iald (t := 4) rfl (r := r1013) (i := x4) d_M_miss_151 (fun x1014 => ?_)
              refine x_if (P := x1012 < x1014) (pt := 159) (pf := 155) (st' := [.int x3, va_rf r1004]) (fun hC _ _ _ _ _ _ kt kf => lv_icmp_lt (tgt := 159) hC.1 hC.2.1 d_M_miss_152 (by decide) kt kf) ?_ ?_
              · exact x_sub (lv' := [(0, .ref a0), (3, .int x3), (4, .int x4), (5, .int x5)]) [0, 1, 2, 3] rfl (x_M_miss_b159 (f_M_miss_b80 n) ih a0 x3 x4 x5 r1004 x3 h)
              · exact x_sub (lv' := [(0, .ref a0), (3, .int x3), (4, .int x4), (5, .int x5)]) [0, 1, 2, 3] rfl (x_M_miss_b155 (f_M_miss_b80 n) ih a0 x3 x4 x5 r1004 x3 h)
        · exact x_sub (lv' := [(0, .ref a0), (3, .int x3), (4, .int x4), (5, .int x5)]) [0, 1, 2, 3] rfl (x_M_miss_b155 (f_M_miss_b80 n) ih a0 x3 x4 x5 r1004 x3 h)
set_option maxHeartbeats 4000000 in
set_option maxRecDepth 100000 in
theorem x_M_miss_b71 {p : Program} {l : Launch} {e : Env} {k1 k2 : Nat} {s : State} {m : MethodId} {args : Array Value} {below : List Frame} {meth : Method} {c : Code} {B : AB} {n0 m0 : Nat} (a0 : Nat) (x3 : Int32) (x4 : Int32) (rs0 : Option Nat) (xs1 : Int32) (h : AH) : X_M_miss p l e k1 k2 s m args below meth c B n0 m0 h 71 [(0, .ref a0), (3, .int x3), (4, .int x4)] [.int xs1, va_rf rs0] (f_M_miss_b71 a0 x3 x4 rs0 xs1 h) := by
  unfold f_M_miss_b71
  refine x_go (pc' := 72) (st' := [.int (1 : Int32), .int xs1, va_rf rs0]) (fun hC _ _ _ _ _ _ hl k => lv_iconst (v := 1) hC.1 hC.2.1 d_M_miss_71 (by decide) k) ?_
  refine x_go (pc' := 76) (st' := [.int (1 : Int32), .int xs1, va_rf rs0]) (fun hC _ _ _ _ _ _ hl k => lv_goto (tgt := 76) hC.1 hC.2.1 d_M_miss_72 (by decide) k) ?_
  refine x_zast (t := 1) rfl (r := rs0) (i := xs1) (x := (1 : Int32)) d_M_miss_76 (fun h1001 => ?_)
  refine x_go (pc' := 78) (st' := [.int (0 : Int32)]) (fun hC _ _ _ _ _ _ hl k => lv_iconst (v := 0) hC.1 hC.2.1 d_M_miss_77 (by decide) k) ?_
  refine x_lift (pc' := 80) (st' := []) (lv' := [(5, .int (0 : Int32)), (0, .ref a0), (3, .int x3), (4, .int x4)]) (fun hC _ _ _ _ _ _ hl k => lv_istore (i := 5) hC.1 hC.2.1 d_M_miss_78 hl (by decide) rfl k) ?_
  exact x_sub (lv' := [(0, .ref a0), (3, .int x3), (4, .int x4), (5, .int (0 : Int32))]) [1, 2, 3, 0] rfl (x_M_miss_b80 2000 a0 x3 x4 (0 : Int32) h1001)
set_option maxHeartbeats 4000000 in
set_option maxRecDepth 100000 in
theorem c_M_miss (l : Launch) (B : AB) (a0 : Nat) (x1 : Int32) (x2 : Int32) (h : AH) : CT l B y_M_miss (Cond.code y_M_miss b_M_miss 6 (Option.some Jvm.ClassFile.FieldType.boolean) :: lw_tt) 1 23 eI [.ref a0, .int x1, .int x2] h (f_M_miss a0 x1 x2 h) := by
  refine ct_of (own := o_M) (nm := "miss") (by decide +kernel) rfl rfl (Nat.le_of_ble_eq_true rfl) (fun p e k1 k2 s m args below meth c => ?_)
  refine x_sub (lv' := [(0, .ref a0), (1, .int x1), (2, .int x2)]) [0, 1, 2] rfl ?_
  unfold f_M_miss
  refine x_go (pc' := 1) (st' := [.ref a0]) (fun hC _ _ _ _ _ _ hl k => lv_aload_n hC.1 hC.2.1 d_M_miss_0 rfl (lv_at hl 0 rfl) k) ?_
  refine x_go (pc' := 2) (st' := [.int x1, .ref a0]) (fun hC _ _ _ _ _ _ hl k => lv_iload_n hC.1 hC.2.1 d_M_miss_1 rfl (lv_at hl 1 rfl) k) ?_
  refine x_recv (ci := 4) (r := (some a0)) (fun b103 _ eb103 gb103 => ?_)
  refine x_callI (rest := []) (c_M_running l B b103 x1 h) (fun hC => fun e1 e2 e3 e4 hM => fun hR hsz hc hs => run_V (n := 1) hC lw_good rfl rfl tw_385 tw_387 tv_14 tw_3 tw_388 (by decide) d_M_miss_2 gb103 (by rw [e1]; exact Nat.le_of_ble_eq_true rfl) (by rw [e2]; exact Nat.le_of_ble_eq_true rfl) e3 e4 hM hR hsz hc hs rfl (by cases eb103; rfl) (Nat.le_of_ble_eq_true rfl)) (fun x102 h101 => ?_)
  refine x_lift (pc' := 6) (st' := []) (lv' := [(3, .int x102), (0, .ref a0), (1, .int x1), (2, .int x2)]) (fun hC _ _ _ _ _ _ hl k => lv_istore_n (i := 3) hC.1 hC.2.1 d_M_miss_5 rfl hl (by decide) rfl k) ?_
  refine x_go (pc' := 7) (st' := [.int x102]) (fun hC _ _ _ _ _ _ hl k => lv_iload_n hC.1 hC.2.1 d_M_miss_6 rfl (lv_at hl 0 rfl) k) ?_
  refine x_if (P := 0 ≤ x102) (pt := 12) (pf := 10) (st' := []) (fun hC _ _ _ _ _ _ kt kf => lv_if_ge (tgt := 12) hC.1 hC.2.1 d_M_miss_7 (by decide) kt kf) ?_ ?_
  · refine x_go (pc' := 13) (st' := [.ref a0]) (fun hC _ _ _ _ _ _ hl k => lv_aload_n hC.1 hC.2.1 d_M_miss_12 rfl (lv_at hl 1 rfl) k) ?_
    refine x_go (pc' := 14) (st' := [.int x2, .ref a0]) (fun hC _ _ _ _ _ _ hl k => lv_iload_n hC.1 hC.2.1 d_M_miss_13 rfl (lv_at hl 3 rfl) k) ?_
    refine x_recv (ci := 4) (r := (some a0)) (fun b106 _ eb106 gb106 => ?_)
    refine x_callI (rest := []) (c_M_find l B b106 x2 h101) (fun hC => fun e1 e2 e3 e4 hM => fun hR hsz hc hs => run_V (n := 1) hC lw_good rfl rfl tw_437 tw_439 tv_22 tw_3 tw_440 (by decide) d_M_miss_14 gb106 (by rw [e1]; exact Nat.le_of_ble_eq_true rfl) (by rw [e2]; exact Nat.le_of_ble_eq_true rfl) e3 e4 hM hR hsz hc hs rfl (by cases eb106; rfl) (Nat.le_of_ble_eq_true rfl)) (fun x105 h104 => ?_)
    refine x_lift (pc' := 19) (st' := []) (lv' := [(4, .int x105), (3, .int x102), (0, .ref a0), (1, .int x1), (2, .int x2)]) (fun hC _ _ _ _ _ _ hl k => lv_istore (i := 4) hC.1 hC.2.1 d_M_miss_17 hl (by decide) rfl k) ?_
    refine x_go (pc' := 21) (st' := [.int x105]) (fun hC _ _ _ _ _ _ hl k => lv_iload hC.1 hC.2.1 d_M_miss_19 (lv_at hl 0 rfl) k) ?_
    refine x_if (P := x105 < 0) (pt := 167) (pf := 24) (st' := []) (fun hC _ _ _ _ _ _ kt kf => lv_if_lt (tgt := 167) hC.1 hC.2.1 d_M_miss_21 (by decide) kt kf) ?_ ?_
    · exact x_sub (lv' := [(0, .ref a0), (3, .int x102)]) [2, 1] rfl (x_M_miss_b167 a0 x102 h104)
    · refine x_go (pc' := 26) (st' := [.int x105]) (fun hC _ _ _ _ _ _ hl k => lv_iload hC.1 hC.2.1 d_M_miss_24 (lv_at hl 0 rfl) k) ?_
      refine x_go (pc' := 27) (st' := [.int x102, .int x105]) (fun hC _ _ _ _ _ _ hl k => lv_iload_n hC.1 hC.2.1 d_M_miss_26 rfl (lv_at hl 1 rfl) k) ?_
      refine x_if (P := x105 = x102) (pt := 167) (pf := 30) (st' := []) (fun hC _ _ _ _ _ _ kt kf => lv_icmp_eq (tgt := 167) hC.1 hC.2.1 d_M_miss_27 (by decide) kt kf) ?_ ?_
      · exact x_sub (lv' := [(0, .ref a0), (3, .int x102)]) [2, 1] rfl (x_M_miss_b167 a0 x102 h104)
      · refine x_go (pc' := 31) (st' := [.ref a0]) (fun hC _ _ _ _ _ _ hl k => lv_aload_n hC.1 hC.2.1 d_M_miss_30 rfl (lv_at hl 2 rfl) k) ?_
        refine x_go (pc' := 32) (st' := [.int x102, .ref a0]) (fun hC _ _ _ _ _ _ hl k => lv_iload_n hC.1 hC.2.1 d_M_miss_31 rfl (lv_at hl 1 rfl) k) ?_
        refine x_go (pc' := 34) (st' := [.int x105, .int x102, .ref a0]) (fun hC _ _ _ _ _ _ hl k => lv_iload hC.1 hC.2.1 d_M_miss_32 (lv_at hl 0 rfl) k) ?_
        refine x_recv (ci := 4) (r := (some a0)) (fun b109 _ eb109 gb109 => ?_)
        refine x_callI (rest := []) (c_M_concurrent l B b109 x102 x105 h104) (fun hC => fun e1 e2 e3 e4 hM => fun hR hsz hc hs => run_V (n := 2) hC lw_good rfl rfl tw_413 tw_415 tv_17 tw_3 tw_416 (by decide) d_M_miss_34 gb109 (by rw [e1]; exact Nat.le_of_ble_eq_true rfl) (by rw [e2]; exact Nat.le_of_ble_eq_true rfl) e3 e4 hM hR hsz hc hs rfl (by cases eb109; rfl) (Nat.le_of_ble_eq_true rfl)) (fun x108 h107 => ?_)
        refine x_if (P := x108 = 0) (pt := 167) (pf := 40) (st' := []) (fun hC _ _ _ _ _ _ kt kf => lv_if_eq (tgt := 167) hC.1 hC.2.1 d_M_miss_37 (by decide) kt kf) ?_ ?_
        · exact x_sub (lv' := [(0, .ref a0), (3, .int x102)]) [2, 1] rfl (x_M_miss_b167 a0 x102 h107)
        · refine x_go (pc' := 41) (st' := [.ref a0]) (fun hC _ _ _ _ _ _ hl k => lv_aload_n hC.1 hC.2.1 d_M_miss_40 rfl (lv_at hl 2 rfl) k) ?_
          refine x_go (pc' := 42) (st' := [.int x102, .ref a0]) (fun hC _ _ _ _ _ _ hl k => lv_iload_n hC.1 hC.2.1 d_M_miss_41 rfl (lv_at hl 1 rfl) k) ?_
          refine x_go (pc' := 44) (st' := [.int x105, .int x102, .ref a0]) (fun hC _ _ _ _ _ _ hl k => lv_iload hC.1 hC.2.1 d_M_miss_42 (lv_at hl 0 rfl) k) ?_
          refine x_recv (ci := 4) (r := (some a0)) (fun b111 _ eb111 gb111 => ?_)
          refine x_callU (rest := []) (c_M_point l B b111 x102 x105 h107) (fun hC => fun e1 e2 e3 e4 hM => fun hR hsz hc hs => run_V (n := 2) hC lw_good rfl rfl tw_425 tw_427 tv_20 tw_3 tw_428 (by decide) d_M_miss_44 gb111 (by rw [e1]; exact Nat.le_of_ble_eq_true rfl) (by rw [e2]; exact Nat.le_of_ble_eq_true rfl) e3 e4 hM hR hsz hc hs rfl (by cases eb111; rfl) (Nat.le_of_ble_eq_true rfl)) (fun h110 => ?_)
          refine x_go (pc' := 48) (st' := [.ref a0]) (fun hC _ _ _ _ _ _ hl k => lv_aload_n hC.1 hC.2.1 d_M_miss_47 rfl (lv_at hl 2 rfl) k) ?_
          refine x_getR (ci := 4) (kf := 7) (r := (some a0)) (fun hC => w_get hC iw_4 rfl 7 (by decide) tw_321 rfl d_M_miss_48) (fun r112 => ?_)
          refine x_go (pc' := 52) (st' := [.int x102, va_rf r112]) (fun hC _ _ _ _ _ _ hl k => lv_iload_n hC.1 hC.2.1 d_M_miss_51 rfl (lv_at hl 1 rfl) k) ?_
          refine x_go (pc' := 53) (st' := [.ref a0, .int x102, va_rf r112]) (fun hC _ _ _ _ _ _ hl k => lv_aload_n hC.1 hC.2.1 d_M_miss_52 rfl (lv_at hl 2 rfl) k) ?_
          refine x_getR (ci := 4) (kf := 7) (r := (some a0)) (fun hC => w_get hC iw_4 rfl 7 (by decide) tw_321 rfl d_M_miss_53) (fun r113 => ?_)
          refine x_go (pc' := 57) (st' := [.int x102, va_rf r113, .int x102, va_rf r112]) (fun hC _ _ _ _ _ _ hl k => lv_iload_n hC.1 hC.2.1 d_M_miss_56 rfl (lv_at hl 1 rfl) k) ?_
          refine x_zald (t := 1) rfl (r := r113) (i := x102) d_M_miss_57 (fun x114 => ?_)
          refine x_if (P := x114 = 0) (pt := 61) (pf := 71) (st' := [.int x102, va_rf r112]) (fun hC _ _ _ _ _ _ kt kf => lv_if_ne (tgt := 71) hC.1 hC.2.1 d_M_miss_58 (by decide) kf kt) ?_ ?_
          · refine x_go (pc' := 62) (st' := [.ref a0, .int x102, va_rf r112]) (fun hC _ _ _ _ _ _ hl k => lv_aload_n hC.1 hC.2.1 d_M_miss_61 rfl (lv_at hl 2 rfl) k) ?_
            refine x_go (pc' := 63) (st' := [.int x102, .ref a0, .int x102, va_rf r112]) (fun hC _ _ _ _ _ _ hl k => lv_iload_n hC.1 hC.2.1 d_M_miss_62 rfl (lv_at hl 1 rfl) k) ?_
            refine x_go (pc' := 65) (st' := [.int x105, .int x102, .ref a0, .int x102, va_rf r112]) (fun hC _ _ _ _ _ _ hl k => lv_iload hC.1 hC.2.1 d_M_miss_63 (lv_at hl 0 rfl) k) ?_
            refine x_recv (ci := 4) (r := (some a0)) (fun b117 _ eb117 gb117 => ?_)
            refine x_callI (rest := [.int x102, va_rf r112]) (c_M_isDanger l B b117 x102 x105 h110) (fun hC => fun e1 e2 e3 e4 hM => fun hR hsz hc hs => run_V (n := 2) hC lw_good rfl rfl tw_429 tw_431 tv_21 tw_3 tw_432 (by decide) d_M_miss_65 gb117 (by rw [e1]; exact Nat.le_of_ble_eq_true rfl) (by rw [e2]; exact Nat.le_of_ble_eq_true rfl) e3 e4 hM hR hsz hc hs rfl (by cases eb117; rfl) (by simp [rf_cat, cat_i, cat_l, cat_r])) (fun x116 h115 => ?_)
            refine x_if (P := x116 = 0) (pt := 75) (pf := 71) (st' := [.int x102, va_rf r112]) (fun hC _ _ _ _ _ _ kt kf => lv_if_eq (tgt := 75) hC.1 hC.2.1 d_M_miss_68 (by decide) kt kf) ?_ ?_
            · refine x_go (pc' := 76) (st' := [.int (0 : Int32), .int x102, va_rf r112]) (fun hC _ _ _ _ _ _ hl k => lv_iconst (v := 0) hC.1 hC.2.1 d_M_miss_75 (by decide) k) ?_
              refine x_zast (t := 1) rfl (r := r112) (i := x102) (x := (0 : Int32)) d_M_miss_76 (fun h118 => ?_)
              refine x_go (pc' := 78) (st' := [.int (0 : Int32)]) (fun hC _ _ _ _ _ _ hl k => lv_iconst (v := 0) hC.1 hC.2.1 d_M_miss_77 (by decide) k) ?_
              refine x_lift (pc' := 80) (st' := []) (lv' := [(5, .int (0 : Int32)), (4, .int x105), (3, .int x102), (0, .ref a0), (1, .int x1), (2, .int x2)]) (fun hC _ _ _ _ _ _ hl k => lv_istore (i := 5) hC.1 hC.2.1 d_M_miss_78 hl (by decide) rfl k) ?_
              exact x_sub (lv' := [(0, .ref a0), (3, .int x102), (4, .int x105), (5, .int (0 : Int32))]) [3, 2, 1, 0] rfl (x_M_miss_b80 2000 a0 x102 x105 (0 : Int32) h118)
            · exact x_sub (lv' := [(0, .ref a0), (3, .int x102), (4, .int x105)]) [2, 1, 0] rfl (x_M_miss_b71 a0 x102 x105 r112 x102 h115)
          · exact x_sub (lv' := [(0, .ref a0), (3, .int x102), (4, .int x105)]) [2, 1, 0] rfl (x_M_miss_b71 a0 x102 x105 r112 x102 h110)
  · refine x_go (pc' := 11) (st' := [.int (0 : Int32)]) (fun hC _ _ _ _ _ _ hl k => lv_iconst (v := 0) hC.1 hC.2.1 d_M_miss_10 (by decide) k) ?_
    exact x_zret d_M_miss_11
