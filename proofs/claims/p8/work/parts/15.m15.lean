/-! SerialDeskModel.arrow(II)Z -/
theorem d_M_arrow_0 : decode b_M_arrow 0 = .ok (.aload_n 0, 1) := by decide +kernel
theorem d_M_arrow_1 : decode b_M_arrow 1 = .ok (.iload_n 1, 1) := by decide +kernel
theorem d_M_arrow_2 : decode b_M_arrow 2 = .ok (.invokevirtual 109, 3) := by decide +kernel
theorem d_M_arrow_5 : decode b_M_arrow 5 = .ok (.istore_n 3, 1) := by decide +kernel
theorem d_M_arrow_6 : decode b_M_arrow 6 = .ok (.aload_n 0, 1) := by decide +kernel
theorem d_M_arrow_7 : decode b_M_arrow 7 = .ok (.iload_n 2, 1) := by decide +kernel
theorem d_M_arrow_8 : decode b_M_arrow 8 = .ok (.invokevirtual 109, 3) := by decide +kernel
theorem d_M_arrow_11 : decode b_M_arrow 11 = .ok (.istore 4, 2) := by decide +kernel
theorem d_M_arrow_13 : decode b_M_arrow 13 = .ok (.iload_n 3, 1) := by decide +kernel
theorem d_M_arrow_14 : decode b_M_arrow 14 = .ok (.ifCond .lt 27, 3) := by decide +kernel
theorem d_M_arrow_17 : decode b_M_arrow 17 = .ok (.iload 4, 2) := by decide +kernel
theorem d_M_arrow_19 : decode b_M_arrow 19 = .ok (.ifCond .lt 22, 3) := by decide +kernel
theorem d_M_arrow_22 : decode b_M_arrow 22 = .ok (.aload_n 0, 1) := by decide +kernel
theorem d_M_arrow_23 : decode b_M_arrow 23 = .ok (.getfield 29, 3) := by decide +kernel
theorem d_M_arrow_26 : decode b_M_arrow 26 = .ok (.bipush 64, 2) := by decide +kernel
theorem d_M_arrow_28 : decode b_M_arrow 28 = .ok (.iload_n 3, 1) := by decide +kernel
theorem d_M_arrow_29 : decode b_M_arrow 29 = .ok (.imul, 1) := by decide +kernel
theorem d_M_arrow_30 : decode b_M_arrow 30 = .ok (.iload 4, 2) := by decide +kernel
theorem d_M_arrow_32 : decode b_M_arrow 32 = .ok (.iadd, 1) := by decide +kernel
theorem d_M_arrow_33 : decode b_M_arrow 33 = .ok (.baload, 1) := by decide +kernel
theorem d_M_arrow_34 : decode b_M_arrow 34 = .ok (.ifCond .eq 7, 3) := by decide +kernel
theorem d_M_arrow_37 : decode b_M_arrow 37 = .ok (.iconst 1, 1) := by decide +kernel
theorem d_M_arrow_38 : decode b_M_arrow 38 = .ok (.goto 4, 3) := by decide +kernel
theorem d_M_arrow_41 : decode b_M_arrow 41 = .ok (.iconst 0, 1) := by decide +kernel
theorem d_M_arrow_42 : decode b_M_arrow 42 = .ok (.ireturn, 1) := by decide +kernel
abbrev X_M_arrow (p : Program) (l : Launch) (e : Env) (k1 k2 : Nat) (s : State) (m : MethodId) (args : Array Value) (below : List Frame) (meth : Method) (c : Code) (B : AB) (n0 m0 : Nat) (h : AH) (pc : Nat) (lv : List (Nat × Value)) (st : List Value) (comp : Option (Int32 × AH)) : Prop := XX p l e { frames := 1, cells := k1, slots := k2, locals := 23 } s m args below meth c b_M_arrow o_M lw_tt 5 (Option.some Jvm.ClassFile.FieldType.boolean) "arrow" B n0 m0 (QM B below args s { frames := 1, cells := k1, slots := k2, locals := 23 } eI) h pc lv st comp
def f_M_arrow (a0 : Nat) (x1 : Int32) (x2 : Int32) (h : AH) : Option (Int32 × AH) := rcv h 4 (some a0) (fun b103 => bnd (f_M_find b103 x1 h) (fun x102 h101 => rcv h101 4 (some a0) (fun b106 => bnd (f_M_find b106 x2 h101) (fun x105 h104 => (if x102 < 0 then rZ (0 : Int32) h104 else (if x105 < 0 then rZ (0 : Int32) h104 else (fR h104 4 9 (some a0)).bind (fun r107 => (lI h104 1 r107 (((64 : Int32) * x102) + x105)).bind (fun x108 => (if x108 = 0 then rZ (0 : Int32) h104 else rZ (1 : Int32) h104)))))))))
set_option maxHeartbeats 4000000 in
set_option maxRecDepth 100000 in
theorem c_M_arrow (l : Launch) (B : AB) (a0 : Nat) (x1 : Int32) (x2 : Int32) (h : AH) : CT l B y_M_arrow (Cond.code y_M_arrow b_M_arrow 5 (Option.some Jvm.ClassFile.FieldType.boolean) :: lw_tt) 1 23 eI [.ref a0, .int x1, .int x2] h (f_M_arrow a0 x1 x2 h) := by
  refine ct_of (own := o_M) (nm := "arrow") (by decide +kernel) rfl rfl (Nat.le_of_ble_eq_true rfl) (fun p e k1 k2 s m args below meth c => ?_)
  refine x_sub (lv' := [(0, .ref a0), (1, .int x1), (2, .int x2)]) [0, 1, 2] rfl ?_
  unfold f_M_arrow
  refine x_go (pc' := 1) (st' := [.ref a0]) (fun hC _ _ _ _ _ _ hl k => lv_aload_n hC.1 hC.2.1 d_M_arrow_0 rfl (lv_at hl 0 rfl) k) ?_
  refine x_go (pc' := 2) (st' := [.int x1, .ref a0]) (fun hC _ _ _ _ _ _ hl k => lv_iload_n hC.1 hC.2.1 d_M_arrow_1 rfl (lv_at hl 1 rfl) k) ?_
  refine x_recv (ci := 4) (r := (some a0)) (fun b103 _ eb103 gb103 => ?_)
  refine x_callI (rest := []) (c_M_find l B b103 x1 h) (fun hC => fun e1 e2 e3 e4 hM => fun hR hsz hc hs => run_V (n := 1) hC lw_good rfl rfl tw_437 tw_439 tv_22 tw_3 tw_440 (by decide) d_M_arrow_2 gb103 (by rw [e1]; exact Nat.le_of_ble_eq_true rfl) (by rw [e2]; exact Nat.le_of_ble_eq_true rfl) e3 e4 hM hR hsz hc hs rfl (by cases eb103; rfl) (Nat.le_of_ble_eq_true rfl)) (fun x102 h101 => ?_)
  refine x_lift (pc' := 6) (st' := []) (lv' := [(3, .int x102), (0, .ref a0), (1, .int x1), (2, .int x2)]) (fun hC _ _ _ _ _ _ hl k => lv_istore_n (i := 3) hC.1 hC.2.1 d_M_arrow_5 rfl hl (by decide) rfl k) ?_
  refine x_go (pc' := 7) (st' := [.ref a0]) (fun hC _ _ _ _ _ _ hl k => lv_aload_n hC.1 hC.2.1 d_M_arrow_6 rfl (lv_at hl 1 rfl) k) ?_
  refine x_go (pc' := 8) (st' := [.int x2, .ref a0]) (fun hC _ _ _ _ _ _ hl k => lv_iload_n hC.1 hC.2.1 d_M_arrow_7 rfl (lv_at hl 3 rfl) k) ?_
  refine x_recv (ci := 4) (r := (some a0)) (fun b106 _ eb106 gb106 => ?_)
  refine x_callI (rest := []) (c_M_find l B b106 x2 h101) (fun hC => fun e1 e2 e3 e4 hM => fun hR hsz hc hs => run_V (n := 1) hC lw_good rfl rfl tw_437 tw_439 tv_22 tw_3 tw_440 (by decide) d_M_arrow_8 gb106 (by rw [e1]; exact Nat.le_of_ble_eq_true rfl) (by rw [e2]; exact Nat.le_of_ble_eq_true rfl) e3 e4 hM hR hsz hc hs rfl (by cases eb106; rfl) (Nat.le_of_ble_eq_true rfl)) (fun x105 h104 => ?_)
  refine x_lift (pc' := 13) (st' := []) (lv' := [(4, .int x105), (3, .int x102), (0, .ref a0), (1, .int x1), (2, .int x2)]) (fun hC _ _ _ _ _ _ hl k => lv_istore (i := 4) hC.1 hC.2.1 d_M_arrow_11 hl (by decide) rfl k) ?_
  refine x_go (pc' := 14) (st' := [.int x102]) (fun hC _ _ _ _ _ _ hl k => lv_iload_n hC.1 hC.2.1 d_M_arrow_13 rfl (lv_at hl 1 rfl) k) ?_
  refine x_if (P := x102 < 0) (pt := 41) (pf := 17) (st' := []) (fun hC _ _ _ _ _ _ kt kf => lv_if_lt (tgt := 41) hC.1 hC.2.1 d_M_arrow_14 (by decide) kt kf) ?_ ?_
  · refine x_go (pc' := 42) (st' := [.int (0 : Int32)]) (fun hC _ _ _ _ _ _ hl k => lv_iconst (v := 0) hC.1 hC.2.1 d_M_arrow_41 (by decide) k) ?_
    exact x_zret d_M_arrow_42
  · refine x_go (pc' := 19) (st' := [.int x105]) (fun hC _ _ _ _ _ _ hl k => lv_iload hC.1 hC.2.1 d_M_arrow_17 (lv_at hl 0 rfl) k) ?_
    refine x_if (P := x105 < 0) (pt := 41) (pf := 22) (st' := []) (fun hC _ _ _ _ _ _ kt kf => lv_if_lt (tgt := 41) hC.1 hC.2.1 d_M_arrow_19 (by decide) kt kf) ?_ ?_
    · refine x_go (pc' := 42) (st' := [.int (0 : Int32)]) (fun hC _ _ _ _ _ _ hl k => lv_iconst (v := 0) hC.1 hC.2.1 d_M_arrow_41 (by decide) k) ?_
      exact x_zret d_M_arrow_42
    · refine x_go (pc' := 23) (st' := [.ref a0]) (fun hC _ _ _ _ _ _ hl k => lv_aload_n hC.1 hC.2.1 d_M_arrow_22 rfl (lv_at hl 2 rfl) k) ?_
      refine x_getR (ci := 4) (kf := 9) (r := (some a0)) (fun hC => w_get hC iw_4 rfl 9 (by decide) tw_323 rfl d_M_arrow_23) (fun r107 => ?_)
      refine x_go (pc' := 28) (st' := [.int (64 : Int32), va_rf r107]) (fun hC _ _ _ _ _ _ hl k => lv_bipush (v := 64) hC.1 hC.2.1 d_M_arrow_26 (by decide) k) ?_
      refine x_go (pc' := 29) (st' := [.int x102, .int (64 : Int32), va_rf r107]) (fun hC _ _ _ _ _ _ hl k => lv_iload_n hC.1 hC.2.1 d_M_arrow_28 rfl (lv_at hl 1 rfl) k) ?_
      refine x_go (pc' := 30) (st' := [.int ((64 : Int32) * x102), va_rf r107]) (fun hC _ _ _ _ _ _ hl k => lv_imul hC.1 hC.2.1 d_M_arrow_29 k) ?_
      refine x_go (pc' := 32) (st' := [.int x105, .int ((64 : Int32) * x102), va_rf r107]) (fun hC _ _ _ _ _ _ hl k => lv_iload hC.1 hC.2.1 d_M_arrow_30 (lv_at hl 0 rfl) k) ?_
      refine x_go (pc' := 33) (st' := [.int (((64 : Int32) * x102) + x105), va_rf r107]) (fun hC _ _ _ _ _ _ hl k => lv_iadd hC.1 hC.2.1 d_M_arrow_32 k) ?_
      refine x_zald (t := 1) rfl (r := r107) (i := (((64 : Int32) * x102) + x105)) d_M_arrow_33 (fun x108 => ?_)
      refine x_if (P := x108 = 0) (pt := 41) (pf := 37) (st' := []) (fun hC _ _ _ _ _ _ kt kf => lv_if_eq (tgt := 41) hC.1 hC.2.1 d_M_arrow_34 (by decide) kt kf) ?_ ?_
      · refine x_go (pc' := 42) (st' := [.int (0 : Int32)]) (fun hC _ _ _ _ _ _ hl k => lv_iconst (v := 0) hC.1 hC.2.1 d_M_arrow_41 (by decide) k) ?_
        exact x_zret d_M_arrow_42
      · refine x_go (pc' := 38) (st' := [.int (1 : Int32)]) (fun hC _ _ _ _ _ _ hl k => lv_iconst (v := 1) hC.1 hC.2.1 d_M_arrow_37 (by decide) k) ?_
        refine x_go (pc' := 42) (st' := [.int (1 : Int32)]) (fun hC _ _ _ _ _ _ hl k => lv_goto (tgt := 42) hC.1 hC.2.1 d_M_arrow_38 (by decide) k) ?_
        exact x_zret d_M_arrow_42
/-! SerialDeskModel.isBefore(II)Z -/
theorem d_M_isBefore_0 : decode b_M_isBefore 0 = .ok (.aload_n 0, 1) := by decide +kernel
theorem d_M_isBefore_1 : decode b_M_isBefore 1 = .ok (.getfield 51, 3) := by decide +kernel
theorem d_M_isBefore_4 : decode b_M_isBefore 4 = .ok (.iload_n 2, 1) := by decide +kernel
theorem d_M_isBefore_5 : decode b_M_isBefore 5 = .ok (.iaload, 1) := by decide +kernel
theorem d_M_isBefore_6 : decode b_M_isBefore 6 = .ok (.ifCond .le 48, 3) := by decide +kernel
theorem d_M_isBefore_9 : decode b_M_isBefore 9 = .ok (.aload_n 0, 1) := by decide +kernel
theorem d_M_isBefore_10 : decode b_M_isBefore 10 = .ok (.getfield 51, 3) := by decide +kernel
theorem d_M_isBefore_13 : decode b_M_isBefore 13 = .ok (.iload_n 1, 1) := by decide +kernel
theorem d_M_isBefore_14 : decode b_M_isBefore 14 = .ok (.iaload, 1) := by decide +kernel
theorem d_M_isBefore_15 : decode b_M_isBefore 15 = .ok (.aload_n 0, 1) := by decide +kernel
theorem d_M_isBefore_16 : decode b_M_isBefore 16 = .ok (.getfield 48, 3) := by decide +kernel
theorem d_M_isBefore_19 : decode b_M_isBefore 19 = .ok (.iload_n 2, 1) := by decide +kernel
theorem d_M_isBefore_20 : decode b_M_isBefore 20 = .ok (.iaload, 1) := by decide +kernel
theorem d_M_isBefore_21 : decode b_M_isBefore 21 = .ok (.if_icmp .le 29, 3) := by decide +kernel
theorem d_M_isBefore_24 : decode b_M_isBefore 24 = .ok (.aload_n 0, 1) := by decide +kernel
theorem d_M_isBefore_25 : decode b_M_isBefore 25 = .ok (.getfield 54, 3) := by decide +kernel
theorem d_M_isBefore_28 : decode b_M_isBefore 28 = .ok (.bipush 9, 2) := by decide +kernel
theorem d_M_isBefore_30 : decode b_M_isBefore 30 = .ok (.iload_n 1, 1) := by decide +kernel
theorem d_M_isBefore_31 : decode b_M_isBefore 31 = .ok (.imul, 1) := by decide +kernel
theorem d_M_isBefore_32 : decode b_M_isBefore 32 = .ok (.iload_n 2, 1) := by decide +kernel
theorem d_M_isBefore_33 : decode b_M_isBefore 33 = .ok (.bipush 64, 2) := by decide +kernel
theorem d_M_isBefore_35 : decode b_M_isBefore 35 = .ok (.idiv, 1) := by decide +kernel
theorem d_M_isBefore_36 : decode b_M_isBefore 36 = .ok (.iadd, 1) := by decide +kernel
theorem d_M_isBefore_37 : decode b_M_isBefore 37 = .ok (.laload, 1) := by decide +kernel
theorem d_M_isBefore_38 : decode b_M_isBefore 38 = .ok (.iload_n 2, 1) := by decide +kernel
theorem d_M_isBefore_39 : decode b_M_isBefore 39 = .ok (.bipush 64, 2) := by decide +kernel
theorem d_M_isBefore_41 : decode b_M_isBefore 41 = .ok (.irem, 1) := by decide +kernel
theorem d_M_isBefore_42 : decode b_M_isBefore 42 = .ok (.lshr, 1) := by decide +kernel
theorem d_M_isBefore_43 : decode b_M_isBefore 43 = .ok (.lconst 1, 1) := by decide +kernel
theorem d_M_isBefore_44 : decode b_M_isBefore 44 = .ok (.land, 1) := by decide +kernel
theorem d_M_isBefore_45 : decode b_M_isBefore 45 = .ok (.lconst 1, 1) := by decide +kernel
theorem d_M_isBefore_46 : decode b_M_isBefore 46 = .ok (.lcmp, 1) := by decide +kernel
theorem d_M_isBefore_47 : decode b_M_isBefore 47 = .ok (.ifCond .ne 7, 3) := by decide +kernel
theorem d_M_isBefore_50 : decode b_M_isBefore 50 = .ok (.iconst 1, 1) := by decide +kernel
theorem d_M_isBefore_51 : decode b_M_isBefore 51 = .ok (.goto 4, 3) := by decide +kernel
theorem d_M_isBefore_54 : decode b_M_isBefore 54 = .ok (.iconst 0, 1) := by decide +kernel
theorem d_M_isBefore_55 : decode b_M_isBefore 55 = .ok (.ireturn, 1) := by decide +kernel
abbrev X_M_isBefore (p : Program) (l : Launch) (e : Env) (k1 k2 : Nat) (s : State) (m : MethodId) (args : Array Value) (below : List Frame) (meth : Method) (c : Code) (B : AB) (n0 m0 : Nat) (h : AH) (pc : Nat) (lv : List (Nat × Value)) (st : List Value) (comp : Option (Int32 × AH)) : Prop := XX p l e { frames := 0, cells := k1, slots := k2, locals := 0 } s m args below meth c b_M_isBefore o_M lw_tt 3 (Option.some Jvm.ClassFile.FieldType.boolean) "isBefore" B n0 m0 (QM B below args s { frames := 0, cells := k1, slots := k2, locals := 0 } eI) h pc lv st comp
def f_M_isBefore (a0 : Nat) (x1 : Int32) (x2 : Int32) (h : AH) : Option (Int32 × AH) := (fR h 4 16 (some a0)).bind (fun r101 => (lI h 4 r101 x2).bind (fun x102 => (if x102 ≤ 0 then rZ (0 : Int32) h else (fR h 4 16 (some a0)).bind (fun r103 => (lI h 4 r103 x1).bind (fun x104 => (fR h 4 15 (some a0)).bind (fun r105 => (lI h 4 r105 x2).bind (fun x106 => (if x104 ≤ x106 then rZ (1 : Int32) h else (fR h 4 17 (some a0)).bind (fun r107 => (lL h 0 r107 (((9 : Int32) * x1) + (x2 / (64 : Int32)))).bind (fun x108 => (if (lg_cmp ((x108 >>> (Int32.toInt64 (x2 - x2 / (64 : Int32) * (64 : Int32)) &&& 63)) &&& (1 : Int64)) (1 : Int64)) = 0 then rZ (1 : Int32) h else rZ (0 : Int32) h)))))))))))
set_option maxHeartbeats 4000000 in
set_option maxRecDepth 100000 in
theorem c_M_isBefore (l : Launch) (B : AB) (a0 : Nat) (x1 : Int32) (x2 : Int32) (h : AH) : CT l B y_M_isBefore (Cond.code y_M_isBefore b_M_isBefore 3 (Option.some Jvm.ClassFile.FieldType.boolean) :: lw_tt) 0 0 eI [.ref a0, .int x1, .int x2] h (f_M_isBefore a0 x1 x2 h) := by
  refine ct_of (own := o_M) (nm := "isBefore") (by decide +kernel) rfl rfl (Nat.le_of_ble_eq_true rfl) (fun p e k1 k2 s m args below meth c => ?_)
  refine x_sub (lv' := [(0, .ref a0), (1, .int x1), (2, .int x2)]) [0, 1, 2] rfl ?_
  unfold f_M_isBefore
  refine x_go (pc' := 1) (st' := [.ref a0]) (fun hC _ _ _ _ _ _ hl k => lv_aload_n hC.1 hC.2.1 d_M_isBefore_0 rfl (lv_at hl 0 rfl) k) ?_
  refine x_getR (ci := 4) (kf := 16) (r := (some a0)) (fun hC => w_get hC iw_4 rfl 16 (by decide) tw_330 rfl d_M_isBefore_1) (fun r101 => ?_)
  refine x_go (pc' := 5) (st' := [.int x2, va_rf r101]) (fun hC _ _ _ _ _ _ hl k => lv_iload_n hC.1 hC.2.1 d_M_isBefore_4 rfl (lv_at hl 2 rfl) k) ?_
  refine x_iald (t := 4) rfl (r := r101) (i := x2) d_M_isBefore_5 (fun x102 => ?_)
  refine x_if (P := x102 ≤ 0) (pt := 54) (pf := 9) (st' := []) (fun hC _ _ _ _ _ _ kt kf => lv_if_le (tgt := 54) hC.1 hC.2.1 d_M_isBefore_6 (by decide) kt kf) ?_ ?_
  · refine x_go (pc' := 55) (st' := [.int (0 : Int32)]) (fun hC _ _ _ _ _ _ hl k => lv_iconst (v := 0) hC.1 hC.2.1 d_M_isBefore_54 (by decide) k) ?_
    exact x_zret d_M_isBefore_55
  · refine x_go (pc' := 10) (st' := [.ref a0]) (fun hC _ _ _ _ _ _ hl k => lv_aload_n hC.1 hC.2.1 d_M_isBefore_9 rfl (lv_at hl 0 rfl) k) ?_
    refine x_getR (ci := 4) (kf := 16) (r := (some a0)) (fun hC => w_get hC iw_4 rfl 16 (by decide) tw_330 rfl d_M_isBefore_10) (fun r103 => ?_)
    refine x_go (pc' := 14) (st' := [.int x1, va_rf r103]) (fun hC _ _ _ _ _ _ hl k => lv_iload_n hC.1 hC.2.1 d_M_isBefore_13 rfl (lv_at hl 1 rfl) k) ?_
    refine x_iald (t := 4) rfl (r := r103) (i := x1) d_M_isBefore_14 (fun x104 => ?_)
    refine x_go (pc' := 16) (st' := [.ref a0, .int x104]) (fun hC _ _ _ _ _ _ hl k => lv_aload_n hC.1 hC.2.1 d_M_isBefore_15 rfl (lv_at hl 0 rfl) k) ?_
    refine x_getR (ci := 4) (kf := 15) (r := (some a0)) (fun hC => w_get hC iw_4 rfl 15 (by decide) tw_329 rfl d_M_isBefore_16) (fun r105 => ?_)
    refine x_go (pc' := 20) (st' := [.int x2, va_rf r105, .int x104]) (fun hC _ _ _ _ _ _ hl k => lv_iload_n hC.1 hC.2.1 d_M_isBefore_19 rfl (lv_at hl 2 rfl) k) ?_
    refine x_iald (t := 4) rfl (r := r105) (i := x2) d_M_isBefore_20 (fun x106 => ?_)
    refine x_if (P := x104 ≤ x106) (pt := 50) (pf := 24) (st' := []) (fun hC _ _ _ _ _ _ kt kf => lv_icmp_le (tgt := 50) hC.1 hC.2.1 d_M_isBefore_21 (by decide) kt kf) ?_ ?_
    · refine x_go (pc' := 51) (st' := [.int (1 : Int32)]) (fun hC _ _ _ _ _ _ hl k => lv_iconst (v := 1) hC.1 hC.2.1 d_M_isBefore_50 (by decide) k) ?_
      refine x_go (pc' := 55) (st' := [.int (1 : Int32)]) (fun hC _ _ _ _ _ _ hl k => lv_goto (tgt := 55) hC.1 hC.2.1 d_M_isBefore_51 (by decide) k) ?_
      exact x_zret d_M_isBefore_55
    · refine x_go (pc' := 25) (st' := [.ref a0]) (fun hC _ _ _ _ _ _ hl k => lv_aload_n hC.1 hC.2.1 d_M_isBefore_24 rfl (lv_at hl 0 rfl) k) ?_
      refine x_getR (ci := 4) (kf := 17) (r := (some a0)) (fun hC => w_get hC iw_4 rfl 17 (by decide) tw_331 rfl d_M_isBefore_25) (fun r107 => ?_)
      refine x_go (pc' := 30) (st' := [.int (9 : Int32), va_rf r107]) (fun hC _ _ _ _ _ _ hl k => lv_bipush (v := 9) hC.1 hC.2.1 d_M_isBefore_28 (by decide) k) ?_
      refine x_go (pc' := 31) (st' := [.int x1, .int (9 : Int32), va_rf r107]) (fun hC _ _ _ _ _ _ hl k => lv_iload_n hC.1 hC.2.1 d_M_isBefore_30 rfl (lv_at hl 1 rfl) k) ?_
      refine x_go (pc' := 32) (st' := [.int ((9 : Int32) * x1), va_rf r107]) (fun hC _ _ _ _ _ _ hl k => lv_imul hC.1 hC.2.1 d_M_isBefore_31 k) ?_
      refine x_go (pc' := 33) (st' := [.int x2, .int ((9 : Int32) * x1), va_rf r107]) (fun hC _ _ _ _ _ _ hl k => lv_iload_n hC.1 hC.2.1 d_M_isBefore_32 rfl (lv_at hl 2 rfl) k) ?_
      refine x_go (pc' := 35) (st' := [.int (64 : Int32), .int x2, .int ((9 : Int32) * x1), va_rf r107]) (fun hC _ _ _ _ _ _ hl k => lv_bipush (v := 64) hC.1 hC.2.1 d_M_isBefore_33 (by decide) k) ?_
      refine x_go (pc' := 36) (st' := [.int (x2 / (64 : Int32)), .int ((9 : Int32) * x1), va_rf r107]) (fun hC _ _ _ _ _ _ hl k => lv_idiv hC.1 hC.2.1 d_M_isBefore_35 (by decide) k) ?_
      refine x_go (pc' := 37) (st' := [.int (((9 : Int32) * x1) + (x2 / (64 : Int32))), va_rf r107]) (fun hC _ _ _ _ _ _ hl k => lv_iadd hC.1 hC.2.1 d_M_isBefore_36 k) ?_
      refine x_lald (t := 0) rfl (r := r107) (i := (((9 : Int32) * x1) + (x2 / (64 : Int32)))) d_M_isBefore_37 (fun x108 => ?_)
      refine x_go (pc' := 39) (st' := [.int x2, .long x108]) (fun hC _ _ _ _ _ _ hl k => lv_iload_n hC.1 hC.2.1 d_M_isBefore_38 rfl (lv_at hl 2 rfl) k) ?_
      refine x_go (pc' := 41) (st' := [.int (64 : Int32), .int x2, .long x108]) (fun hC _ _ _ _ _ _ hl k => lv_bipush (v := 64) hC.1 hC.2.1 d_M_isBefore_39 (by decide) k) ?_
      refine x_go (pc' := 42) (st' := [.int (x2 - x2 / (64 : Int32) * (64 : Int32)), .long x108]) (fun hC _ _ _ _ _ _ hl k => lv_irem hC.1 hC.2.1 d_M_isBefore_41 (by decide) k) ?_
      refine x_go (pc' := 43) (st' := [.long (x108 >>> (Int32.toInt64 (x2 - x2 / (64 : Int32) * (64 : Int32)) &&& 63))]) (fun hC _ _ _ _ _ _ hl k => lv_lshr hC.1 hC.2.1 d_M_isBefore_42 rfl k) ?_
      refine x_go (pc' := 44) (st' := [.long (1 : Int64), .long (x108 >>> (Int32.toInt64 (x2 - x2 / (64 : Int32) * (64 : Int32)) &&& 63))]) (fun hC _ _ _ _ _ _ hl k => lv_lconst (v := 1) hC.1 hC.2.1 d_M_isBefore_43 (by decide) k) ?_
      refine x_go (pc' := 45) (st' := [.long ((x108 >>> (Int32.toInt64 (x2 - x2 / (64 : Int32) * (64 : Int32)) &&& 63)) &&& (1 : Int64))]) (fun hC _ _ _ _ _ _ hl k => lv_land hC.1 hC.2.1 d_M_isBefore_44 k) ?_
      refine x_go (pc' := 46) (st' := [.long (1 : Int64), .long ((x108 >>> (Int32.toInt64 (x2 - x2 / (64 : Int32) * (64 : Int32)) &&& 63)) &&& (1 : Int64))]) (fun hC _ _ _ _ _ _ hl k => lv_lconst (v := 1) hC.1 hC.2.1 d_M_isBefore_45 (by decide) k) ?_
      refine x_go (pc' := 47) (st' := [.int (lg_cmp ((x108 >>> (Int32.toInt64 (x2 - x2 / (64 : Int32) * (64 : Int32)) &&& 63)) &&& (1 : Int64)) (1 : Int64))]) (fun hC _ _ _ _ _ _ hl k => W.lcmp hC.1 hC.2.1 d_M_isBefore_46 k) ?_
      refine x_if (P := (lg_cmp ((x108 >>> (Int32.toInt64 (x2 - x2 / (64 : Int32) * (64 : Int32)) &&& 63)) &&& (1 : Int64)) (1 : Int64)) = 0) (pt := 50) (pf := 54) (st' := []) (fun hC _ _ _ _ _ _ kt kf => lv_if_ne (tgt := 54) hC.1 hC.2.1 d_M_isBefore_47 (by decide) kf kt) ?_ ?_
      · refine x_go (pc' := 51) (st' := [.int (1 : Int32)]) (fun hC _ _ _ _ _ _ hl k => lv_iconst (v := 1) hC.1 hC.2.1 d_M_isBefore_50 (by decide) k) ?_
        refine x_go (pc' := 55) (st' := [.int (1 : Int32)]) (fun hC _ _ _ _ _ _ hl k => lv_goto (tgt := 55) hC.1 hC.2.1 d_M_isBefore_51 (by decide) k) ?_
        exact x_zret d_M_isBefore_55
      · refine x_go (pc' := 55) (st' := [.int (0 : Int32)]) (fun hC _ _ _ _ _ _ hl k => lv_iconst (v := 0) hC.1 hC.2.1 d_M_isBefore_54 (by decide) k) ?_
        exact x_zret d_M_isBefore_55
/-! SerialDeskModel.comesBack(I)Z -/
theorem d_M_comesBack_0 : decode b_M_comesBack 0 = .ok (.iconst 1, 1) := by decide +kernel
theorem d_M_comesBack_1 : decode b_M_comesBack 1 = .ok (.istore_n 2, 1) := by decide +kernel
theorem d_M_comesBack_2 : decode b_M_comesBack 2 = .ok (.iload_n 2, 1) := by decide +kernel
theorem d_M_comesBack_3 : decode b_M_comesBack 3 = .ok (.aload_n 0, 1) := by decide +kernel
theorem d_M_comesBack_4 : decode b_M_comesBack 4 = .ok (.getfield 77, 3) := by decide +kernel
theorem d_M_comesBack_7 : decode b_M_comesBack 7 = .ok (.if_icmp .gt 16, 3) := by decide +kernel
theorem d_M_comesBack_10 : decode b_M_comesBack 10 = .ok (.aload_n 0, 1) := by decide +kernel
theorem d_M_comesBack_11 : decode b_M_comesBack 11 = .ok (.getfield 57, 3) := by decide +kernel
theorem d_M_comesBack_14 : decode b_M_comesBack 14 = .ok (.iload_n 2, 1) := by decide +kernel
theorem d_M_comesBack_15 : decode b_M_comesBack 15 = .ok (.iconst 0, 1) := by decide +kernel
theorem d_M_comesBack_16 : decode b_M_comesBack 16 = .ok (.bastore, 1) := by decide +kernel
theorem d_M_comesBack_17 : decode b_M_comesBack 17 = .ok (.iinc 2 1, 3) := by decide +kernel
theorem d_M_comesBack_20 : decode b_M_comesBack 20 = .ok (.goto (-18), 3) := by decide +kernel
theorem d_M_comesBack_23 : decode b_M_comesBack 23 = .ok (.iconst 1, 1) := by decide +kernel
theorem d_M_comesBack_24 : decode b_M_comesBack 24 = .ok (.istore_n 2, 1) := by decide +kernel
theorem d_M_comesBack_25 : decode b_M_comesBack 25 = .ok (.aload_n 0, 1) := by decide +kernel
theorem d_M_comesBack_26 : decode b_M_comesBack 26 = .ok (.getfield 60, 3) := by decide +kernel
theorem d_M_comesBack_29 : decode b_M_comesBack 29 = .ok (.iconst 0, 1) := by decide +kernel
theorem d_M_comesBack_30 : decode b_M_comesBack 30 = .ok (.iload_n 1, 1) := by decide +kernel
theorem d_M_comesBack_31 : decode b_M_comesBack 31 = .ok (.iastore, 1) := by decide +kernel
theorem d_M_comesBack_32 : decode b_M_comesBack 32 = .ok (.iconst 0, 1) := by decide +kernel
theorem d_M_comesBack_33 : decode b_M_comesBack 33 = .ok (.istore_n 3, 1) := by decide +kernel
theorem d_M_comesBack_34 : decode b_M_comesBack 34 = .ok (.iload_n 3, 1) := by decide +kernel
theorem d_M_comesBack_35 : decode b_M_comesBack 35 = .ok (.iload_n 2, 1) := by decide +kernel
theorem d_M_comesBack_36 : decode b_M_comesBack 36 = .ok (.if_icmp .ge 91, 3) := by decide +kernel
theorem d_M_comesBack_39 : decode b_M_comesBack 39 = .ok (.aload_n 0, 1) := by decide +kernel
theorem d_M_comesBack_40 : decode b_M_comesBack 40 = .ok (.getfield 57, 3) := by decide +kernel
theorem d_M_comesBack_43 : decode b_M_comesBack 43 = .ok (.iload_n 1, 1) := by decide +kernel
theorem d_M_comesBack_44 : decode b_M_comesBack 44 = .ok (.baload, 1) := by decide +kernel
theorem d_M_comesBack_45 : decode b_M_comesBack 45 = .ok (.ifCond .ne 82, 3) := by decide +kernel
theorem d_M_comesBack_48 : decode b_M_comesBack 48 = .ok (.iconst 1, 1) := by decide +kernel
theorem d_M_comesBack_49 : decode b_M_comesBack 49 = .ok (.istore 4, 2) := by decide +kernel
theorem d_M_comesBack_51 : decode b_M_comesBack 51 = .ok (.iload 4, 2) := by decide +kernel
theorem d_M_comesBack_53 : decode b_M_comesBack 53 = .ok (.aload_n 0, 1) := by decide +kernel
theorem d_M_comesBack_54 : decode b_M_comesBack 54 = .ok (.getfield 77, 3) := by decide +kernel
theorem d_M_comesBack_57 : decode b_M_comesBack 57 = .ok (.if_icmp .gt 64, 3) := by decide +kernel
theorem d_M_comesBack_60 : decode b_M_comesBack 60 = .ok (.aload_n 0, 1) := by decide +kernel
theorem d_M_comesBack_61 : decode b_M_comesBack 61 = .ok (.getfield 57, 3) := by decide +kernel
theorem d_M_comesBack_64 : decode b_M_comesBack 64 = .ok (.iload 4, 2) := by decide +kernel
theorem d_M_comesBack_66 : decode b_M_comesBack 66 = .ok (.baload, 1) := by decide +kernel
theorem d_M_comesBack_67 : decode b_M_comesBack 67 = .ok (.ifCond .ne 48, 3) := by decide +kernel
theorem d_M_comesBack_70 : decode b_M_comesBack 70 = .ok (.aload_n 0, 1) := by decide +kernel
theorem d_M_comesBack_71 : decode b_M_comesBack 71 = .ok (.aload_n 0, 1) := by decide +kernel
theorem d_M_comesBack_72 : decode b_M_comesBack 72 = .ok (.getfield 60, 3) := by decide +kernel
theorem d_M_comesBack_75 : decode b_M_comesBack 75 = .ok (.iload_n 3, 1) := by decide +kernel
theorem d_M_comesBack_76 : decode b_M_comesBack 76 = .ok (.iaload, 1) := by decide +kernel
theorem d_M_comesBack_77 : decode b_M_comesBack 77 = .ok (.iload 4, 2) := by decide +kernel
theorem d_M_comesBack_79 : decode b_M_comesBack 79 = .ok (.invokevirtual 122, 3) := by decide +kernel
theorem d_M_comesBack_82 : decode b_M_comesBack 82 = .ok (.ifCond .eq 33, 3) := by decide +kernel
theorem d_M_comesBack_85 : decode b_M_comesBack 85 = .ok (.aload_n 0, 1) := by decide +kernel
theorem d_M_comesBack_86 : decode b_M_comesBack 86 = .ok (.getfield 57, 3) := by decide +kernel
theorem d_M_comesBack_89 : decode b_M_comesBack 89 = .ok (.iload 4, 2) := by decide +kernel
theorem d_M_comesBack_91 : decode b_M_comesBack 91 = .ok (.iconst 1, 1) := by decide +kernel
theorem d_M_comesBack_92 : decode b_M_comesBack 92 = .ok (.bastore, 1) := by decide +kernel
theorem d_M_comesBack_93 : decode b_M_comesBack 93 = .ok (.aload_n 0, 1) := by decide +kernel
theorem d_M_comesBack_94 : decode b_M_comesBack 94 = .ok (.getfield 60, 3) := by decide +kernel
theorem d_M_comesBack_97 : decode b_M_comesBack 97 = .ok (.iload_n 2, 1) := by decide +kernel
theorem d_M_comesBack_98 : decode b_M_comesBack 98 = .ok (.iload 4, 2) := by decide +kernel
theorem d_M_comesBack_100 : decode b_M_comesBack 100 = .ok (.iastore, 1) := by decide +kernel
theorem d_M_comesBack_101 : decode b_M_comesBack 101 = .ok (.iload 4, 2) := by decide +kernel
theorem d_M_comesBack_103 : decode b_M_comesBack 103 = .ok (.iload_n 1, 1) := by decide +kernel
theorem d_M_comesBack_104 : decode b_M_comesBack 104 = .ok (.if_icmp .ne 7, 3) := by decide +kernel
theorem d_M_comesBack_107 : decode b_M_comesBack 107 = .ok (.iload_n 2, 1) := by decide +kernel
theorem d_M_comesBack_108 : decode b_M_comesBack 108 = .ok (.goto 6, 3) := by decide +kernel
theorem d_M_comesBack_111 : decode b_M_comesBack 111 = .ok (.iload_n 2, 1) := by decide +kernel
theorem d_M_comesBack_112 : decode b_M_comesBack 112 = .ok (.iconst 1, 1) := by decide +kernel
theorem d_M_comesBack_113 : decode b_M_comesBack 113 = .ok (.iadd, 1) := by decide +kernel
theorem d_M_comesBack_114 : decode b_M_comesBack 114 = .ok (.istore_n 2, 1) := by decide +kernel
theorem d_M_comesBack_115 : decode b_M_comesBack 115 = .ok (.iinc 4 1, 3) := by decide +kernel
theorem d_M_comesBack_118 : decode b_M_comesBack 118 = .ok (.goto (-67), 3) := by decide +kernel
theorem d_M_comesBack_121 : decode b_M_comesBack 121 = .ok (.iinc 3 1, 3) := by decide +kernel
theorem d_M_comesBack_124 : decode b_M_comesBack 124 = .ok (.goto (-90), 3) := by decide +kernel
theorem d_M_comesBack_127 : decode b_M_comesBack 127 = .ok (.aload_n 0, 1) := by decide +kernel
theorem d_M_comesBack_128 : decode b_M_comesBack 128 = .ok (.getfield 57, 3) := by decide +kernel
theorem d_M_comesBack_131 : decode b_M_comesBack 131 = .ok (.iload_n 1, 1) := by decide +kernel
theorem d_M_comesBack_132 : decode b_M_comesBack 132 = .ok (.baload, 1) := by decide +kernel
theorem d_M_comesBack_133 : decode b_M_comesBack 133 = .ok (.ireturn, 1) := by decide +kernel
abbrev X_M_comesBack (p : Program) (l : Launch) (e : Env) (k1 k2 : Nat) (s : State) (m : MethodId) (args : Array Value) (below : List Frame) (meth : Method) (c : Code) (B : AB) (n0 m0 : Nat) (h : AH) (pc : Nat) (lv : List (Nat × Value)) (st : List Value) (comp : Option (Int32 × AH)) : Prop := XX p l e { frames := 1, cells := k1, slots := k2, locals := 22 } s m args below meth c b_M_comesBack o_M lw_tt 5 (Option.some Jvm.ClassFile.FieldType.boolean) "comesBack" B n0 m0 (QM B below args s { frames := 1, cells := k1, slots := k2, locals := 22 } eI) h pc lv st comp
def f_M_comesBack_b51 (K34 : Nat → Int32 → Int32 → Int32 → AH → Option (Int32 × AH)) : Nat → Nat → Int32 → Int32 → Int32 → Int32 → AH → Option (Int32 × AH)
  | 0, _, _, _, _, _, _ => none
  | n + 1, a0, x1, x2, x3, x4, h => (fI h 4 0 (some a0)).bind (fun x1001 => (if x1001 < x4 then K34 a0 x1 x2 (x3 + 1) h else (fR h 4 18 (some a0)).bind (fun r1002 => (lI h 1 r1002 x4).bind (fun x1003 => (if x1003 = 0 then (fR h 4 19 (some a0)).bind (fun r1004 => (lI h 4 r1004 x3).bind (fun x1005 => rcv h 4 (some a0) (fun b1008 => bnd (f_M_isBefore b1008 x1005 x4 h) (fun x1007 h1006 => (if x1007 = 0 then f_M_comesBack_b51 K34 n a0 x1 x2 x3 (x4 + 1) h1006 else (fR h1006 4 18 (some a0)).bind (fun r1009 => (qE h1006 1 r1009 x4 (1 : Int32)).bind (fun h1010 => (fR h1010 4 19 (some a0)).bind (fun r1011 => (pE h1010 4 r1011 x2 (.int x4)).bind (fun h1012 => (if x4 = x1 then f_M_comesBack_b51 K34 n a0 x1 x2 x3 (x4 + 1) h1012 else f_M_comesBack_b51 K34 n a0 x1 (x2 + (1 : Int32)) x3 (x4 + 1) h1012)))))))))) else f_M_comesBack_b51 K34 n a0 x1 x2 x3 (x4 + 1) h)))))
def f_M_comesBack_b127 (a0 : Nat) (x1 : Int32) (h : AH) : Option (Int32 × AH) := (fR h 4 18 (some a0)).bind (fun r1001 => (lI h 1 r1001 x1).bind (fun x1002 => rZ x1002 h))
def f_M_comesBack_b34 : Nat → Nat → Int32 → Int32 → Int32 → AH → Option (Int32 × AH)
  | 0, _, _, _, _, _ => none
  | n + 1, a0, x1, x2, x3, h => (if x2 ≤ x3 then f_M_comesBack_b127 a0 x1 h else (fR h 4 18 (some a0)).bind (fun r1001 => (lI h 1 r1001 x1).bind (fun x1002 => (if x1002 = 0 then f_M_comesBack_b51 (f_M_comesBack_b34 n) 2000 a0 x1 x2 x3 (1 : Int32) h else f_M_comesBack_b127 a0 x1 h))))
def f_M_comesBack_b2 : Nat → Nat → Int32 → Int32 → AH → Option (Int32 × AH)
  | 0, _, _, _, _ => none
  | n + 1, a0, x1, x2, h => (fI h 4 0 (some a0)).bind (fun x1001 => (if x1001 < x2 then (fR h 4 19 (some a0)).bind (fun r1002 => (pE h 4 r1002 (0 : Int32) (.int x1)).bind (fun h1003 => f_M_comesBack_b34 2000 a0 x1 (1 : Int32) (0 : Int32) h1003)) else (fR h 4 18 (some a0)).bind (fun r1004 => (qE h 1 r1004 x2 (0 : Int32)).bind (fun h1005 => f_M_comesBack_b2 n a0 x1 (x2 + 1) h1005))))
def f_M_comesBack (a0 : Nat) (x1 : Int32) (h : AH) : Option (Int32 × AH) := f_M_comesBack_b2 2000 a0 x1 (1 : Int32) h
set_option maxHeartbeats 4000000 in
set_option maxRecDepth 100000 in
theorem x_M_comesBack_b51 {p : Program} {l : Launch} {e : Env} {k1 k2 : Nat} {s : State} {m : MethodId} {args : Array Value} {below : List Frame} {meth : Method} {c : Code} {B : AB} {n0 m0 : Nat} (K34 : Nat → Int32 → Int32 → Int32 → AH → Option (Int32 × AH)) (hK34 : ∀ (a0 : Nat) (x1 : Int32) (x2 : Int32) (x3 : Int32) (h : AH), X_M_comesBack p l e k1 k2 s m args below meth c B n0 m0 h 34 [(0, .ref a0), (1, .int x1), (2, .int x2), (3, .int x3)] [] (K34 a0 x1 x2 x3 h)) : ∀ (n : Nat) (a0 : Nat) (x1 : Int32) (x2 : Int32) (x3 : Int32) (x4 : Int32) (h : AH), X_M_comesBack p l e k1 k2 s m args below meth c B n0 m0 h 51 [(0, .ref a0), (1, .int x1), (2, .int x2), (3, .int x3), (4, .int x4)] [] (f_M_comesBack_b51 K34 n a0 x1 x2 x3 x4 h) := by
  intro n
  induction n with
  | zero => intro a0 x1 x2 x3 x4 h; exact x_none
  | succ n ih =>
    intro a0 x1 x2 x3 x4 h
    rw [f_M_comesBack_b51]
    refine x_go (pc' := 53) (st' := [.int x4]) (fun hC _ _ _ _ _ _ hl k => lv_iload hC.1 hC.2.1 d_M_comesBack_51 (lv_at hl 4 rfl) k) ?_
    refine x_go (pc' := 54) (st' := [.ref a0, .int x4]) (fun hC _ _ _ _ _ _ hl k => lv_aload_n hC.1 hC.2.1 d_M_comesBack_53 rfl (lv_at hl 0 rfl) k) ?_
    refine x_getI (ci := 4) (kf := 0) (r := (some a0)) (fun hC => w_get hC iw_4 rfl 0 (by decide) tw_314 rfl d_M_comesBack_54) (fun x1001 => ?_)
    refine x_if (P := x1001 < x4) (pt := 121) (pf := 60) (st' := []) (fun hC _ _ _ _ _ _ kt kf => lv_icmp_gt (tgt := 121) hC.1 hC.2.1 d_M_comesBack_57 (by decide) kt kf) ?_ ?_
    · refine x_lift (pc' := 124) (st' := []) (lv' := [(3, .int (x3 + 1)), (0, .ref a0), (1, .int x1), (2, .int x2), (4, .int x4)]) (fun hC _ _ _ _ _ _ hl k => lv_iinc (v := (x3 + 1)) hC.1 hC.2.1 d_M_comesBack_121 hl (k := 3) rfl rfl (by decide) rfl k) ?_
      refine x_go (pc' := 34) (st' := []) (fun hC _ _ _ _ _ _ hl k => lv_goto (tgt := 34) hC.1 hC.2.1 d_M_comesBack_124 (by decide) k) ?_
      exact x_sub (lv' := [(0, .ref a0), (1, .int x1), (2, .int x2), (3, .int (x3 + 1))]) [1, 2, 3, 0] rfl (hK34 a0 x1 x2 (x3 + 1) h)
    · refine x_go (pc' := 61) (st' := [.ref a0]) (fun hC _ _ _ _ _ _ hl k => lv_aload_n hC.1 hC.2.1 d_M_comesBack_60 rfl (lv_at hl 0 rfl) k) ?_
      refine x_getR (ci := 4) (kf := 18) (r := (some a0)) (fun hC => w_get hC iw_4 rfl 18 (by decide) tw_332 rfl d_M_comesBack_61) (fun r1002 => ?_)
      refine x_go (pc' := 66) (st' := [.int x4, va_rf r1002]) (fun hC _ _ _ _ _ _ hl k => lv_iload hC.1 hC.2.1 d_M_comesBack_64 (lv_at hl 4 rfl) k) ?_
      refine x_zald (t := 1) rfl (r := r1002) (i := x4) d_M_comesBack_66 (fun x1003 => ?_)
      refine x_if (P := x1003 = 0) (pt := 70) (pf := 115) (st' := []) (fun hC _ _ _ _ _ _ kt kf => lv_if_ne (tgt := 115) hC.1 hC.2.1 d_M_comesBack_67 (by decide) kf kt) ?_ ?_
      · refine x_go (pc' := 71) (st' := [.ref a0]) (fun hC _ _ _ _ _ _ hl k => lv_aload_n hC.1 hC.2.1 d_M_comesBack_70 rfl (lv_at hl 0 rfl) k) ?_
        refine x_go (pc' := 72) (st' := [.ref a0, .ref a0]) (fun hC _ _ _ _ _ _ hl k => lv_aload_n hC.1 hC.2.1 d_M_comesBack_71 rfl (lv_at hl 0 rfl) k) ?_
        refine x_getR (ci := 4) (kf := 19) (r := (some a0)) (fun hC => w_get hC iw_4 rfl 19 (by decide) tw_333 rfl d_M_comesBack_72) (fun r1004 => ?_)
        refine x_go (pc' := 76) (st' := [.int x3, va_rf r1004, .ref a0]) (fun hC _ _ _ _ _ _ hl k => lv_iload_n hC.1 hC.2.1 d_M_comesBack_75 rfl (lv_at hl 3 rfl) k) ?_
        refine x_iald (t := 4) rfl (r := r1004) (i := x3) d_M_comesBack_76 (fun x1005 => ?_)
        refine x_go (pc' := 79) (st' := [.int x4, .int x1005, .ref a0]) (fun hC _ _ _ _ _ _ hl k => lv_iload hC.1 hC.2.1 d_M_comesBack_77 (lv_at hl 4 rfl) k) ?_
        refine x_recv (ci := 4) (r := (some a0)) (fun b1008 _ eb1008 gb1008 => ?_)
        refine x_callI (rest := []) (c_M_isBefore l B b1008 x1005 x4 h) (fun hC => fun e1 e2 e3 e4 hM => fun hR hsz hc hs => run_V (n := 2) hC lw_good rfl rfl tw_481 tw_483 tv_27 tw_3 tw_484 (by decide) d_M_comesBack_79 gb1008 (by rw [e1]; exact Nat.le_of_ble_eq_true rfl) (by rw [e2]; exact Nat.le_of_ble_eq_true rfl) e3 e4 hM hR hsz hc hs rfl (by cases eb1008; rfl) (Nat.le_of_ble_eq_true rfl)) (fun x1007 h1006 => ?_)
        refine x_if (P := x1007 = 0) (pt := 115) (pf := 85) (st' := []) (fun hC _ _ _ _ _ _ kt kf => lv_if_eq (tgt := 115) hC.1 hC.2.1 d_M_comesBack_82 (by decide) kt kf) ?_ ?_
        · refine x_lift (pc' := 118) (st' := []) (lv' := [(4, .int (x4 + 1)), (0, .ref a0), (1, .int x1), (2, .int x2), (3, .int x3)]) (fun hC _ _ _ _ _ _ hl k => lv_iinc (v := (x4 + 1)) hC.1 hC.2.1 d_M_comesBack_115 hl (k := 4) rfl rfl (by decide) rfl k) ?_
          refine x_go (pc' := 51) (st' := []) (fun hC _ _ _ _ _ _ hl k => lv_goto (tgt := 51) hC.1 hC.2.1 d_M_comesBack_118 (by decide) k) ?_
          exact x_sub (lv' := [(0, .ref a0), (1, .int x1), (2, .int x2), (3, .int x3), (4, .int (x4 + 1))]) [1, 2, 3, 4, 0] rfl (ih a0 x1 x2 x3 (x4 + 1) h1006)
        · refine x_go (pc' := 86) (st' := [.ref a0]) (fun hC _ _ _ _ _ _ hl k => lv_aload_n hC.1 hC.2.1 d_M_comesBack_85 rfl (lv_at hl 0 rfl) k) ?_
          refine x_getR (ci := 4) (kf := 18) (r := (some a0)) (fun hC => w_get hC iw_4 rfl 18 (by decide) tw_332 rfl d_M_comesBack_86) (fun r1009 => ?_)
          refine x_go (pc' := 91) (st' := [.int x4, va_rf r1009]) (fun hC _ _ _ _ _ _ hl k => lv_iload hC.1 hC.2.1 d_M_comesBack_89 (lv_at hl 4 rfl) k) ?_
          refine x_go (pc' := 92) (st' := [.int (1 : Int32), .int x4, va_rf r1009]) (fun hC _ _ _ _ _ _ hl k => lv_iconst (v := 1) hC.1 hC.2.1 d_M_comesBack_91 (by decide) k) ?_
          refine x_zast (t := 1) rfl (r := r1009) (i := x4) (x := (1 : Int32)) d_M_comesBack_92 (fun h1010 => ?_)
          refine x_go (pc' := 94) (st' := [.ref a0]) (fun hC _ _ _ _ _ _ hl k => lv_aload_n hC.1 hC.2.1 d_M_comesBack_93 rfl (lv_at hl 0 rfl) k) ?_
          refine x_getR (ci := 4) (kf := 19) (r := (some a0)) (fun hC => w_get hC iw_4 rfl 19 (by decide) tw_333 rfl d_M_comesBack_94) (fun r1011 => ?_)
          refine x_go (pc' := 98) (st' := [.int x2, va_rf r1011]) (fun hC _ _ _ _ _ _ hl k => lv_iload_n hC.1 hC.2.1 d_M_comesBack_97 rfl (lv_at hl 2 rfl) k) ?_
          refine x_go (pc' := 100) (st' := [.int x4, .int x2, va_rf r1011]) (fun hC _ _ _ _ _ _ hl k => lv_iload hC.1 hC.2.1 d_M_comesBack_98 (lv_at hl 4 rfl) k) ?_
          refine x_iast (t := 4) rfl (r := r1011) (i := x2) (x := x4) d_M_comesBack_100 (fun h1012 => ?_)
          refine x_go (pc' := 103) (st' := [.int x4]) (fun hC _ _ _ _ _ _ hl k => lv_iload hC.1 hC.2.1 d_M_comesBack_101 (lv_at hl 4 rfl) k) ?_
          refine x_go (pc' := 104) (st' := [.int x1, .int x4]) (fun hC _ _ _ _ _ _ hl k => lv_iload_n hC.1 hC.2.1 d_M_comesBack_103 rfl (lv_at hl 1 rfl) k) ?_
          refine x_if (P := x4 = x1) (pt := 107) (pf := 111) (st' := []) (fun hC _ _ _ _ _ _ kt kf => lv_icmp_ne (tgt := 111) hC.1 hC.2.1 d_M_comesBack_104 (by decide) kf kt) ?_ ?_
          · refine x_go (pc' := 108) (st' := [.int x2]) (fun hC _ _ _ _ _ _ hl k => lv_iload_n hC.1 hC.2.1 d_M_comesBack_107 rfl (lv_at hl 2 rfl) k) ?_
            refine x_go (pc' := 114) (st' := [.int x2]) (fun hC _ _ _ _ _ _ hl k => lv_goto (tgt := 114) hC.1 hC.2.1 d_M_comesBack_108 (by decide) k) ?_
            refine x_lift (pc' := 115) (st' := []) (lv' := [(2, .int x2), (0, .ref a0), (1, .int x1), (3, .int x3), (4, .int x4)]) (fun hC _ _ _ _ _ _ hl k => lv_istore_n (i := 2) hC.1 hC.2.1 d_M_comesBack_114 rfl hl (by decide) rfl k) ?_
            refine x_lift (pc' := 118) (st' := []) (lv' := [(4, .int (x4 + 1)), (2, .int x2), (0, .ref a0), (1, .int x1), (3, .int x3)]) (fun hC _ _ _ _ _ _ hl k => lv_iinc (v := (x4 + 1)) hC.1 hC.2.1 d_M_comesBack_115 hl (k := 4) rfl rfl (by decide) rfl k) ?_
            refine x_go (pc' := 51) (st' := []) (fun hC _ _ _ _ _ _ hl k => lv_goto (tgt := 51) hC.1 hC.2.1 d_M_comesBack_118 (by decide) k) ?_
            exact x_sub (lv' := [(0, .ref a0), (1, .int x1), (2, .int x2), (3, .int x3), (4, .int (x4 + 1))]) [2, 3, 1, 4, 0] rfl (ih a0 x1 x2 x3 (x4 + 1) h1012)
          · refine x_go (pc' := 112) (st' := [.int x2]) (fun hC _ _ _ _ _ _ hl k => lv_iload_n hC.1 hC.2.1 d_M_comesBack_111 rfl (lv_at hl 2 rfl) k) ?_
            refine x_go (pc' := 113) (st' := [.int (1 : Int32), .int x2]) (fun hC _ _ _ _ _ _ hl k => lv_iconst (v := 1) hC.1 hC.2.1 d_M_comesBack_112 (by decide) k) ?_
            refine x_go (pc' := 114) (st' := [.int (x2 + (1 : Int32))]) (fun hC _ _ _ _ _ _ hl k => lv_iadd hC.1 hC.2.1 d_M_comesBack_113 k) ?_
            refine x_lift (pc' := 115) (st' := []) (lv' := [(2, .int (x2 + (1 : Int32))), (0, .ref a0), (1, .int x1), (3, .int x3), (4, .int x4)]) (fun hC _ _ _ _ _ _ hl k => lv_istore_n (i := 2) hC.1 hC.2.1 d_M_comesBack_114 rfl hl (by decide) rfl k) ?_
            refine x_lift (pc' := 118) (st' := []) (lv' := [(4, .int (x4 + 1)), (2, .int (x2 + (1 : Int32))), (0, .ref a0), (1, .int x1), (3, .int x3)]) (fun hC _ _ _ _ _ _ hl k => lv_iinc (v := (x4 + 1)) hC.1 hC.2.1 d_M_comesBack_115 hl (k := 4) rfl rfl (by decide) rfl k) ?_
            refine x_go (pc' := 51) (st' := []) (fun hC _ _ _ _ _ _ hl k => lv_goto (tgt := 51) hC.1 hC.2.1 d_M_comesBack_118 (by decide) k) ?_
            exact x_sub (lv' := [(0, .ref a0), (1, .int x1), (2, .int (x2 + (1 : Int32))), (3, .int x3), (4, .int (x4 + 1))]) [2, 3, 1, 4, 0] rfl (ih a0 x1 (x2 + (1 : Int32)) x3 (x4 + 1) h1012)
      · refine x_lift (pc' := 118) (st' := []) (lv' := [(4, .int (x4 + 1)), (0, .ref a0), (1, .int x1), (2, .int x2), (3, .int x3)]) (fun hC _ _ _ _ _ _ hl k => lv_iinc (v := (x4 + 1)) hC.1 hC.2.1 d_M_comesBack_115 hl (k := 4) rfl rfl (by decide) rfl k) ?_
        refine x_go (pc' := 51) (st' := []) (fun hC _ _ _ _ _ _ hl k => lv_goto (tgt := 51) hC.1 hC.2.1 d_M_comesBack_118 (by decide) k) ?_
        exact x_sub (lv' := [(0, .ref a0), (1, .int x1), (2, .int x2), (3, .int x3), (4, .int (x4 + 1))]) [1, 2, 3, 4, 0] rfl (ih a0 x1 x2 x3 (x4 + 1) h)
set_option maxHeartbeats 4000000 in
set_option maxRecDepth 100000 in
theorem x_M_comesBack_b127 {p : Program} {l : Launch} {e : Env} {k1 k2 : Nat} {s : State} {m : MethodId} {args : Array Value} {below : List Frame} {meth : Method} {c : Code} {B : AB} {n0 m0 : Nat} (a0 : Nat) (x1 : Int32) (h : AH) : X_M_comesBack p l e k1 k2 s m args below meth c B n0 m0 h 127 [(0, .ref a0), (1, .int x1)] [] (f_M_comesBack_b127 a0 x1 h) := by
  unfold f_M_comesBack_b127
  refine x_go (pc' := 128) (st' := [.ref a0]) (fun hC _ _ _ _ _ _ hl k => lv_aload_n hC.1 hC.2.1 d_M_comesBack_127 rfl (lv_at hl 0 rfl) k) ?_
  refine x_getR (ci := 4) (kf := 18) (r := (some a0)) (fun hC => w_get hC iw_4 rfl 18 (by decide) tw_332 rfl d_M_comesBack_128) (fun r1001 => ?_)
  refine x_go (pc' := 132) (st' := [.int x1, va_rf r1001]) (fun hC _ _ _ _ _ _ hl k => lv_iload_n hC.1 hC.2.1 d_M_comesBack_131 rfl (lv_at hl 1 rfl) k) ?_
  refine x_zald (t := 1) rfl (r := r1001) (i := x1) d_M_comesBack_132 (fun x1002 => ?_)
  exact x_zret d_M_comesBack_133
set_option maxHeartbeats 4000000 in
set_option maxRecDepth 100000 in
theorem x_M_comesBack_b34 {p : Program} {l : Launch} {e : Env} {k1 k2 : Nat} {s : State} {m : MethodId} {args : Array Value} {below : List Frame} {meth : Method} {c : Code} {B : AB} {n0 m0 : Nat} : ∀ (n : Nat) (a0 : Nat) (x1 : Int32) (x2 : Int32) (x3 : Int32) (h : AH), X_M_comesBack p l e k1 k2 s m args below meth c B n0 m0 h 34 [(0, .ref a0), (1, .int x1), (2, .int x2), (3, .int x3)] [] (f_M_comesBack_b34 n a0 x1 x2 x3 h) := by
  intro n
  induction n with
  | zero => intro a0 x1 x2 x3 h; exact x_none
  | succ n ih =>
    intro a0 x1 x2 x3 h
    rw [f_M_comesBack_b34]
    refine x_go (pc' := 35) (st' := [.int x3]) (fun hC _ _ _ _ _ _ hl k => lv_iload_n hC.1 hC.2.1 d_M_comesBack_34 rfl (lv_at hl 3 rfl) k) ?_
    refine x_go (pc' := 36) (st' := [.int x2, .int x3]) (fun hC _ _ _ _ _ _ hl k => lv_iload_n hC.1 hC.2.1 d_M_comesBack_35 rfl (lv_at hl 2 rfl) k) ?_
    refine x_if (P := x2 ≤ x3) (pt := 127) (pf := 39) (st' := []) (fun hC _ _ _ _ _ _ kt kf => lv_icmp_ge (tgt := 127) hC.1 hC.2.1 d_M_comesBack_36 (by decide) kt kf) ?_ ?_
    · exact x_sub (lv' := [(0, .ref a0), (1, .int x1)]) [0, 1] rfl (x_M_comesBack_b127 a0 x1 h)
    · refine x_go (pc' := 40) (st' := [.ref a0]) (fun hC _ _ _ _ _ _ hl k => lv_aload_n hC.1 hC.2.1 d_M_comesBack_39 rfl (lv_at hl 0 rfl) k) ?_
      refine x_getR (ci := 4) (kf := 18) (r := (some a0)) (fun hC => w_get hC iw_4 rfl 18 (by decide) tw_332 rfl d_M_comesBack_40) (fun r1001 => ?_)
      refine x_go (pc' := 44) (st' := [.int x1, va_rf r1001]) (fun hC _ _ _ _ _ _ hl k => lv_iload_n hC.1 hC.2.1 d_M_comesBack_43 rfl (lv_at hl 1 rfl) k) ?_
      refine x_zald (t := 1) rfl (r := r1001) (i := x1) d_M_comesBack_44 (fun x1002 => ?_)
      refine x_if (P := x1002 = 0) (pt := 48) (pf := 127) (st' := []) (fun hC _ _ _ _ _ _ kt kf => lv_if_ne (tgt := 127) hC.1 hC.2.1 d_M_comesBack_45 (by decide) kf kt) ?_ ?_
      · refine x_go (pc' := 49) (st' := [.int (1 : Int32)]) (fun hC _ _ _ _ _ _ hl k => lv_iconst (v := 1) hC.1 hC.2.1 d_M_comesBack_48 (by decide) k) ?_
        refine x_lift (pc' := 51) (st' := []) (lv' := [(4, .int (1 : Int32)), (0, .ref a0), (1, .int x1), (2, .int x2), (3, .int x3)]) (fun hC _ _ _ _ _ _ hl k => lv_istore (i := 4) hC.1 hC.2.1 d_M_comesBack_49 hl (by decide) rfl k) ?_
        exact x_sub (lv' := [(0, .ref a0), (1, .int x1), (2, .int x2), (3, .int x3), (4, .int (1 : Int32))]) [1, 2, 3, 4, 0] rfl (x_M_comesBack_b51 (f_M_comesBack_b34 n) ih 2000 a0 x1 x2 x3 (1 : Int32) h)
      · exact x_sub (lv' := [(0, .ref a0), (1, .int x1)]) [0, 1] rfl (x_M_comesBack_b127 a0 x1 h)
set_option maxHeartbeats 4000000 in
set_option maxRecDepth 100000 in
theorem x_M_comesBack_b2 {p : Program} {l : Launch} {e : Env} {k1 k2 : Nat} {s : State} {m : MethodId} {args : Array Value} {below : List Frame} {meth : Method} {c : Code} {B : AB} {n0 m0 : Nat} : ∀ (n : Nat) (a0 : Nat) (x1 : Int32) (x2 : Int32) (h : AH), X_M_comesBack p l e k1 k2 s m args below meth c B n0 m0 h 2 [(0, .ref a0), (1, .int x1), (2, .int x2)] [] (f_M_comesBack_b2 n a0 x1 x2 h) := by
  intro n
  induction n with
  | zero => intro a0 x1 x2 h; exact x_none
  | succ n ih =>
    intro a0 x1 x2 h
    rw [f_M_comesBack_b2]
    refine x_go (pc' := 3) (st' := [.int x2]) (fun hC _ _ _ _ _ _ hl k => lv_iload_n hC.1 hC.2.1 d_M_comesBack_2 rfl (lv_at hl 2 rfl) k) ?_
    refine x_go (pc' := 4) (st' := [.ref a0, .int x2]) (fun hC _ _ _ _ _ _ hl k => lv_aload_n hC.1 hC.2.1 d_M_comesBack_3 rfl (lv_at hl 0 rfl) k) ?_
    refine x_getI (ci := 4) (kf := 0) (r := (some a0)) (fun hC => w_get hC iw_4 rfl 0 (by decide) tw_314 rfl d_M_comesBack_4) (fun x1001 => ?_)
    refine x_if (P := x1001 < x2) (pt := 23) (pf := 10) (st' := []) (fun hC _ _ _ _ _ _ kt kf => lv_icmp_gt (tgt := 23) hC.1 hC.2.1 d_M_comesBack_7 (by decide) kt kf) ?_ ?_
    · refine x_go (pc' := 24) (st' := [.int (1 : Int32)]) (fun hC _ _ _ _ _ _ hl k => lv_iconst (v := 1) hC.1 hC.2.1 d_M_comesBack_23 (by decide) k) ?_
      refine x_lift (pc' := 25) (st' := []) (lv' := [(2, .int (1 : Int32)), (0, .ref a0), (1, .int x1)]) (fun hC _ _ _ _ _ _ hl k => lv_istore_n (i := 2) hC.1 hC.2.1 d_M_comesBack_24 rfl hl (by decide) rfl k) ?_
      refine x_go (pc' := 26) (st' := [.ref a0]) (fun hC _ _ _ _ _ _ hl k => lv_aload_n hC.1 hC.2.1 d_M_comesBack_25 rfl (lv_at hl 1 rfl) k) ?_
      refine x_getR (ci := 4) (kf := 19) (r := (some a0)) (fun hC => w_get hC iw_4 rfl 19 (by decide) tw_333 rfl d_M_comesBack_26) (fun r1002 => ?_)
      refine x_go (pc' := 30) (st' := [.int (0 : Int32), va_rf r1002]) (fun hC _ _ _ _ _ _ hl k => lv_iconst (v := 0) hC.1 hC.2.1 d_M_comesBack_29 (by decide) k) ?_
      refine x_go (pc' := 31) (st' := [.int x1, .int (0 : Int32), va_rf r1002]) (fun hC _ _ _ _ _ _ hl k => lv_iload_n hC.1 hC.2.1 d_M_comesBack_30 rfl (lv_at hl 2 rfl) k) ?_
      refine x_iast (t := 4) rfl (r := r1002) (i := (0 : Int32)) (x := x1) d_M_comesBack_31 (fun h1003 => ?_)
      refine x_go (pc' := 33) (st' := [.int (0 : Int32)]) (fun hC _ _ _ _ _ _ hl k => lv_iconst (v := 0) hC.1 hC.2.1 d_M_comesBack_32 (by decide) k) ?_
      refine x_lift (pc' := 34) (st' := []) (lv' := [(3, .int (0 : Int32)), (2, .int (1 : Int32)), (0, .ref a0), (1, .int x1)]) (fun hC _ _ _ _ _ _ hl k => lv_istore_n (i := 3) hC.1 hC.2.1 d_M_comesBack_33 rfl hl (by decide) rfl k) ?_
      exact x_sub (lv' := [(0, .ref a0), (1, .int x1), (2, .int (1 : Int32)), (3, .int (0 : Int32))]) [2, 3, 1, 0] rfl (x_M_comesBack_b34 2000 a0 x1 (1 : Int32) (0 : Int32) h1003)
    · refine x_go (pc' := 11) (st' := [.ref a0]) (fun hC _ _ _ _ _ _ hl k => lv_aload_n hC.1 hC.2.1 d_M_comesBack_10 rfl (lv_at hl 0 rfl) k) ?_
      refine x_getR (ci := 4) (kf := 18) (r := (some a0)) (fun hC => w_get hC iw_4 rfl 18 (by decide) tw_332 rfl d_M_comesBack_11) (fun r1004 => ?_)
      refine x_go (pc' := 15) (st' := [.int x2, va_rf r1004]) (fun hC _ _ _ _ _ _ hl k => lv_iload_n hC.1 hC.2.1 d_M_comesBack_14 rfl (lv_at hl 2 rfl) k) ?_
      refine x_go (pc' := 16) (st' := [.int (0 : Int32), .int x2, va_rf r1004]) (fun hC _ _ _ _ _ _ hl k => lv_iconst (v := 0) hC.1 hC.2.1 d_M_comesBack_15 (by decide) k) ?_
      refine x_zast (t := 1) rfl (r := r1004) (i := x2) (x := (0 : Int32)) d_M_comesBack_16 (fun h1005 => ?_)
      refine x_lift (pc' := 20) (st' := []) (lv' := [(2, .int (x2 + 1)), (0, .ref a0), (1, .int x1)]) (fun hC _ _ _ _ _ _ hl k => lv_iinc (v := (x2 + 1)) hC.1 hC.2.1 d_M_comesBack_17 hl (k := 2) rfl rfl (by decide) rfl k) ?_
      refine x_go (pc' := 2) (st' := []) (fun hC _ _ _ _ _ _ hl k => lv_goto (tgt := 2) hC.1 hC.2.1 d_M_comesBack_20 (by decide) k) ?_
      exact x_sub (lv' := [(0, .ref a0), (1, .int x1), (2, .int (x2 + 1))]) [1, 2, 0] rfl (ih a0 x1 (x2 + 1) h1005)
set_option maxHeartbeats 4000000 in
set_option maxRecDepth 100000 in
theorem c_M_comesBack (l : Launch) (B : AB) (a0 : Nat) (x1 : Int32) (h : AH) : CT l B y_M_comesBack (Cond.code y_M_comesBack b_M_comesBack 5 (Option.some Jvm.ClassFile.FieldType.boolean) :: lw_tt) 1 22 eI [.ref a0, .int x1] h (f_M_comesBack a0 x1 h) := by
  refine ct_of (own := o_M) (nm := "comesBack") (by decide +kernel) rfl rfl (Nat.le_of_ble_eq_true rfl) (fun p e k1 k2 s m args below meth c => ?_)
  refine x_sub (lv' := [(0, .ref a0), (1, .int x1)]) [0, 1] rfl ?_
  unfold f_M_comesBack
  refine x_go (pc' := 1) (st' := [.int (1 : Int32)]) (fun hC _ _ _ _ _ _ hl k => lv_iconst (v := 1) hC.1 hC.2.1 d_M_comesBack_0 (by decide) k) ?_
  refine x_lift (pc' := 2) (st' := []) (lv' := [(2, .int (1 : Int32)), (0, .ref a0), (1, .int x1)]) (fun hC _ _ _ _ _ _ hl k => lv_istore_n (i := 2) hC.1 hC.2.1 d_M_comesBack_1 rfl hl (by decide) rfl k) ?_
  exact x_sub (lv' := [(0, .ref a0), (1, .int x1), (2, .int (1 : Int32))]) [1, 2, 0] rfl (x_M_comesBack_b2 2000 a0 x1 (1 : Int32) h)
/-! SerialDeskModel.rings()I -/
theorem d_M_rings_0 : decode b_M_rings 0 = .ok (.iconst 0, 1) := by decide +kernel
theorem d_M_rings_1 : decode b_M_rings 1 = .ok (.istore_n 1, 1) := by decide +kernel
theorem d_M_rings_2 : decode b_M_rings 2 = .ok (.iconst 1, 1) := by decide +kernel
theorem d_M_rings_3 : decode b_M_rings 3 = .ok (.istore_n 2, 1) := by decide +kernel
theorem d_M_rings_4 : decode b_M_rings 4 = .ok (.iload_n 2, 1) := by decide +kernel
theorem d_M_rings_5 : decode b_M_rings 5 = .ok (.aload_n 0, 1) := by decide +kernel
theorem d_M_rings_6 : decode b_M_rings 6 = .ok (.getfield 77, 3) := by decide +kernel
theorem d_M_rings_9 : decode b_M_rings 9 = .ok (.if_icmp .gt 34, 3) := by decide +kernel
theorem d_M_rings_12 : decode b_M_rings 12 = .ok (.aload_n 0, 1) := by decide +kernel
theorem d_M_rings_13 : decode b_M_rings 13 = .ok (.getfield 51, 3) := by decide +kernel
theorem d_M_rings_16 : decode b_M_rings 16 = .ok (.iload_n 2, 1) := by decide +kernel
theorem d_M_rings_17 : decode b_M_rings 17 = .ok (.iaload, 1) := by decide +kernel
theorem d_M_rings_18 : decode b_M_rings 18 = .ok (.ifCond .le 17, 3) := by decide +kernel
theorem d_M_rings_21 : decode b_M_rings 21 = .ok (.aload_n 0, 1) := by decide +kernel
theorem d_M_rings_22 : decode b_M_rings 22 = .ok (.iload_n 2, 1) := by decide +kernel
theorem d_M_rings_23 : decode b_M_rings 23 = .ok (.invokevirtual 125, 3) := by decide +kernel
theorem d_M_rings_26 : decode b_M_rings 26 = .ok (.ifCond .eq 9, 3) := by decide +kernel
theorem d_M_rings_29 : decode b_M_rings 29 = .ok (.iload_n 1, 1) := by decide +kernel
theorem d_M_rings_30 : decode b_M_rings 30 = .ok (.iconst 1, 1) := by decide +kernel
theorem d_M_rings_31 : decode b_M_rings 31 = .ok (.iadd, 1) := by decide +kernel
theorem d_M_rings_32 : decode b_M_rings 32 = .ok (.goto 4, 3) := by decide +kernel
theorem d_M_rings_35 : decode b_M_rings 35 = .ok (.iload_n 1, 1) := by decide +kernel
theorem d_M_rings_36 : decode b_M_rings 36 = .ok (.istore_n 1, 1) := by decide +kernel
theorem d_M_rings_37 : decode b_M_rings 37 = .ok (.iinc 2 1, 3) := by decide +kernel
theorem d_M_rings_40 : decode b_M_rings 40 = .ok (.goto (-36), 3) := by decide +kernel
theorem d_M_rings_43 : decode b_M_rings 43 = .ok (.iload_n 1, 1) := by decide +kernel
theorem d_M_rings_44 : decode b_M_rings 44 = .ok (.ireturn, 1) := by decide +kernel
abbrev X_M_rings (p : Program) (l : Launch) (e : Env) (k1 k2 : Nat) (s : State) (m : MethodId) (args : Array Value) (below : List Frame) (meth : Method) (c : Code) (B : AB) (n0 m0 : Nat) (h : AH) (pc : Nat) (lv : List (Nat × Value)) (st : List Value) (comp : Option (Int32 × AH)) : Prop := XX p l e { frames := 2, cells := k1, slots := k2, locals := 46 } s m args below meth c b_M_rings o_M lw_tt 3 (Option.some Jvm.ClassFile.FieldType.int) "rings" B n0 m0 (QM B below args s { frames := 2, cells := k1, slots := k2, locals := 46 } eI) h pc lv st comp
def f_M_rings_b35 (K4 : Nat → Int32 → Int32 → AH → Option (Int32 × AH)) (a0 : Nat) (x1 : Int32) (x2 : Int32) (h : AH) : Option (Int32 × AH) := K4 a0 x1 (x2 + 1) h
def f_M_rings_b4 : Nat → Nat → Int32 → Int32 → AH → Option (Int32 × AH)
  | 0, _, _, _, _ => none
  | n + 1, a0, x1, x2, h => (fI h 4 0 (some a0)).bind (fun x1001 => (if x1001 < x2 then some (x1, h) else (fR h 4 16 (some a0)).bind (fun r1002 => (lI h 4 r1002 x2).bind (fun x1003 => (if x1003 ≤ 0 then f_M_rings_b35 (f_M_rings_b4 n) a0 x1 x2 h else rcv h 4 (some a0) (fun b1006 => bnd (f_M_comesBack b1006 x2 h) (fun x1005 h1004 => (if x1005 = 0 then f_M_rings_b35 (f_M_rings_b4 n) a0 x1 x2 h1004 else f_M_rings_b4 n a0 (x1 + (1 : Int32)) (x2 + 1) h1004))))))))
def f_M_rings (a0 : Nat) (h : AH) : Option (Int32 × AH) := f_M_rings_b4 2000 a0 (0 : Int32) (1 : Int32) h
set_option maxHeartbeats 4000000 in
set_option maxRecDepth 100000 in
theorem x_M_rings_b35 {p : Program} {l : Launch} {e : Env} {k1 k2 : Nat} {s : State} {m : MethodId} {args : Array Value} {below : List Frame} {meth : Method} {c : Code} {B : AB} {n0 m0 : Nat} (K4 : Nat → Int32 → Int32 → AH → Option (Int32 × AH)) (hK4 : ∀ (a0 : Nat) (x1 : Int32) (x2 : Int32) (h : AH), X_M_rings p l e k1 k2 s m args below meth c B n0 m0 h 4 [(0, .ref a0), (1, .int x1), (2, .int x2)] [] (K4 a0 x1 x2 h)) (a0 : Nat) (x1 : Int32) (x2 : Int32) (h : AH) : X_M_rings p l e k1 k2 s m args below meth c B n0 m0 h 35 [(0, .ref a0), (1, .int x1), (2, .int x2)] [] (f_M_rings_b35 K4 a0 x1 x2 h) := by
  unfold f_M_rings_b35
  refine x_go (pc' := 36) (st' := [.int x1]) (fun hC _ _ _ _ _ _ hl k => lv_iload_n hC.1 hC.2.1 d_M_rings_35 rfl (lv_at hl 1 rfl) k) ?_
  refine x_lift (pc' := 37) (st' := []) (lv' := [(1, .int x1), (0, .ref a0), (2, .int x2)]) (fun hC _ _ _ _ _ _ hl k => lv_istore_n (i := 1) hC.1 hC.2.1 d_M_rings_36 rfl hl (by decide) rfl k) ?_
  refine x_lift (pc' := 40) (st' := []) (lv' := [(2, .int (x2 + 1)), (1, .int x1), (0, .ref a0)]) (fun hC _ _ _ _ _ _ hl k => lv_iinc (v := (x2 + 1)) hC.1 hC.2.1 d_M_rings_37 hl (k := 2) rfl rfl (by decide) rfl k) ?_
  refine x_go (pc' := 4) (st' := []) (fun hC _ _ _ _ _ _ hl k => lv_goto (tgt := 4) hC.1 hC.2.1 d_M_rings_40 (by decide) k) ?_
  exact x_sub (lv' := [(0, .ref a0), (1, .int x1), (2, .int (x2 + 1))]) [2, 1, 0] rfl (hK4 a0 x1 (x2 + 1) h)
set_option maxHeartbeats 4000000 in
set_option maxRecDepth 100000 in
theorem x_M_rings_b4 {p : Program} {l : Launch} {e : Env} {k1 k2 : Nat} {s : State} {m : MethodId} {args : Array Value} {below : List Frame} {meth : Method} {c : Code} {B : AB} {n0 m0 : Nat} : ∀ (n : Nat) (a0 : Nat) (x1 : Int32) (x2 : Int32) (h : AH), X_M_rings p l e k1 k2 s m args below meth c B n0 m0 h 4 [(0, .ref a0), (1, .int x1), (2, .int x2)] [] (f_M_rings_b4 n a0 x1 x2 h) := by
  intro n
  induction n with
  | zero => intro a0 x1 x2 h; exact x_none
  | succ n ih =>
    intro a0 x1 x2 h
    rw [f_M_rings_b4]
    refine x_go (pc' := 5) (st' := [.int x2]) (fun hC _ _ _ _ _ _ hl k => lv_iload_n hC.1 hC.2.1 d_M_rings_4 rfl (lv_at hl 2 rfl) k) ?_
    refine x_go (pc' := 6) (st' := [.ref a0, .int x2]) (fun hC _ _ _ _ _ _ hl k => lv_aload_n hC.1 hC.2.1 d_M_rings_5 rfl (lv_at hl 0 rfl) k) ?_
    refine x_getI (ci := 4) (kf := 0) (r := (some a0)) (fun hC => w_get hC iw_4 rfl 0 (by decide) tw_314 rfl d_M_rings_6) (fun x1001 => ?_)
    refine x_if (P := x1001 < x2) (pt := 43) (pf := 12) (st' := []) (fun hC _ _ _ _ _ _ kt kf => lv_icmp_gt (tgt := 43) hC.1 hC.2.1 d_M_rings_9 (by decide) kt kf) ?_ ?_
    · refine x_go (pc' := 44) (st' := [.int x1]) (fun hC _ _ _ _ _ _ hl k => lv_iload_n hC.1 hC.2.1 d_M_rings_43 rfl (lv_at hl 1 rfl) k) ?_
      exact x_iret d_M_rings_44
    · refine x_go (pc' := 13) (st' := [.ref a0]) (fun hC _ _ _ _ _ _ hl k => lv_aload_n hC.1 hC.2.1 d_M_rings_12 rfl (lv_at hl 0 rfl) k) ?_
      refine x_getR (ci := 4) (kf := 16) (r := (some a0)) (fun hC => w_get hC iw_4 rfl 16 (by decide) tw_330 rfl d_M_rings_13) (fun r1002 => ?_)
      refine x_go (pc' := 17) (st' := [.int x2, va_rf r1002]) (fun hC _ _ _ _ _ _ hl k => lv_iload_n hC.1 hC.2.1 d_M_rings_16 rfl (lv_at hl 2 rfl) k) ?_
      refine x_iald (t := 4) rfl (r := r1002) (i := x2) d_M_rings_17 (fun x1003 => ?_)
      refine x_if (P := x1003 ≤ 0) (pt := 35) (pf := 21) (st' := []) (fun hC _ _ _ _ _ _ kt kf => lv_if_le (tgt := 35) hC.1 hC.2.1 d_M_rings_18 (by decide) kt kf) ?_ ?_
      · exact x_sub (lv' := [(0, .ref a0), (1, .int x1), (2, .int x2)]) [0, 1, 2] rfl (x_M_rings_b35 (f_M_rings_b4 n) ih a0 x1 x2 h)
      · refine x_go (pc' := 22) (st' := [.ref a0]) (fun hC _ _ _ _ _ _ hl k => lv_aload_n hC.1 hC.2.1 d_M_rings_21 rfl (lv_at hl 0 rfl) k) ?_
        refine x_go (pc' := 23) (st' := [.int x2, .ref a0]) (fun hC _ _ _ _ _ _ hl k => lv_iload_n hC.1 hC.2.1 d_M_rings_22 rfl (lv_at hl 2 rfl) k) ?_
        refine x_recv (ci := 4) (r := (some a0)) (fun b1006 _ eb1006 gb1006 => ?_)
        refine x_callI (rest := []) (c_M_comesBack l B b1006 x2 h) (fun hC => fun e1 e2 e3 e4 hM => fun hR hsz hc hs => run_V (n := 1) hC lw_good rfl rfl tw_477 tw_479 tv_26 tw_3 tw_480 (by decide) d_M_rings_23 gb1006 (by rw [e1]; exact Nat.le_of_ble_eq_true rfl) (by rw [e2]; exact Nat.le_of_ble_eq_true rfl) e3 e4 hM hR hsz hc hs rfl (by cases eb1006; rfl) (Nat.le_of_ble_eq_true rfl)) (fun x1005 h1004 => ?_)
        refine x_if (P := x1005 = 0) (pt := 35) (pf := 29) (st' := []) (fun hC _ _ _ _ _ _ kt kf => lv_if_eq (tgt := 35) hC.1 hC.2.1 d_M_rings_26 (by decide) kt kf) ?_ ?_
        · exact x_sub (lv' := [(0, .ref a0), (1, .int x1), (2, .int x2)]) [0, 1, 2] rfl (x_M_rings_b35 (f_M_rings_b4 n) ih a0 x1 x2 h1004)
        · refine x_go (pc' := 30) (st' := [.int x1]) (fun hC _ _ _ _ _ _ hl k => lv_iload_n hC.1 hC.2.1 d_M_rings_29 rfl (lv_at hl 1 rfl) k) ?_
          refine x_go (pc' := 31) (st' := [.int (1 : Int32), .int x1]) (fun hC _ _ _ _ _ _ hl k => lv_iconst (v := 1) hC.1 hC.2.1 d_M_rings_30 (by decide) k) ?_
          refine x_go (pc' := 32) (st' := [.int (x1 + (1 : Int32))]) (fun hC _ _ _ _ _ _ hl k => lv_iadd hC.1 hC.2.1 d_M_rings_31 k) ?_
          refine x_go (pc' := 36) (st' := [.int (x1 + (1 : Int32))]) (fun hC _ _ _ _ _ _ hl k => lv_goto (tgt := 36) hC.1 hC.2.1 d_M_rings_32 (by decide) k) ?_
          refine x_lift (pc' := 37) (st' := []) (lv' := [(1, .int (x1 + (1 : Int32))), (0, .ref a0), (2, .int x2)]) (fun hC _ _ _ _ _ _ hl k => lv_istore_n (i := 1) hC.1 hC.2.1 d_M_rings_36 rfl hl (by decide) rfl k) ?_
          refine x_lift (pc' := 40) (st' := []) (lv' := [(2, .int (x2 + 1)), (1, .int (x1 + (1 : Int32))), (0, .ref a0)]) (fun hC _ _ _ _ _ _ hl k => lv_iinc (v := (x2 + 1)) hC.1 hC.2.1 d_M_rings_37 hl (k := 2) rfl rfl (by decide) rfl k) ?_
          refine x_go (pc' := 4) (st' := []) (fun hC _ _ _ _ _ _ hl k => lv_goto (tgt := 4) hC.1 hC.2.1 d_M_rings_40 (by decide) k) ?_
          exact x_sub (lv' := [(0, .ref a0), (1, .int (x1 + (1 : Int32))), (2, .int (x2 + 1))]) [2, 1, 0] rfl (ih a0 (x1 + (1 : Int32)) (x2 + 1) h1004)
set_option maxHeartbeats 4000000 in
set_option maxRecDepth 100000 in
theorem c_M_rings (l : Launch) (B : AB) (a0 : Nat) (h : AH) : CT l B y_M_rings (Cond.code y_M_rings b_M_rings 3 (Option.some Jvm.ClassFile.FieldType.int) :: lw_tt) 2 46 eI [.ref a0] h (f_M_rings a0 h) := by
  refine ct_of (own := o_M) (nm := "rings") (by decide +kernel) rfl rfl (Nat.le_of_ble_eq_true rfl) (fun p e k1 k2 s m args below meth c => ?_)
  refine x_sub (lv' := [(0, .ref a0)]) [0] rfl ?_
  unfold f_M_rings
  refine x_go (pc' := 1) (st' := [.int (0 : Int32)]) (fun hC _ _ _ _ _ _ hl k => lv_iconst (v := 0) hC.1 hC.2.1 d_M_rings_0 (by decide) k) ?_
  refine x_lift (pc' := 2) (st' := []) (lv' := [(1, .int (0 : Int32)), (0, .ref a0)]) (fun hC _ _ _ _ _ _ hl k => lv_istore_n (i := 1) hC.1 hC.2.1 d_M_rings_1 rfl hl (by decide) rfl k) ?_
  refine x_go (pc' := 3) (st' := [.int (1 : Int32)]) (fun hC _ _ _ _ _ _ hl k => lv_iconst (v := 1) hC.1 hC.2.1 d_M_rings_2 (by decide) k) ?_
  refine x_lift (pc' := 4) (st' := []) (lv' := [(2, .int (1 : Int32)), (1, .int (0 : Int32)), (0, .ref a0)]) (fun hC _ _ _ _ _ _ hl k => lv_istore_n (i := 2) hC.1 hC.2.1 d_M_rings_3 rfl hl (by decide) rfl k) ?_
  exact x_sub (lv' := [(0, .ref a0), (1, .int (0 : Int32)), (2, .int (1 : Int32))]) [2, 1, 0] rfl (x_M_rings_b4 2000 a0 (0 : Int32) (1 : Int32) h)
/-! SerialDeskModel.count(I)I -/
theorem d_M_count_0 : decode b_M_count 0 = .ok (.iload_n 1, 1) := by decide +kernel
theorem d_M_count_1 : decode b_M_count 1 = .ok (.ifCond .ne 10, 3) := by decide +kernel
theorem d_M_count_4 : decode b_M_count 4 = .ok (.aload_n 0, 1) := by decide +kernel
theorem d_M_count_5 : decode b_M_count 5 = .ok (.getfield 69, 3) := by decide +kernel
theorem d_M_count_8 : decode b_M_count 8 = .ok (.goto 28, 3) := by decide +kernel
theorem d_M_count_11 : decode b_M_count 11 = .ok (.iload_n 1, 1) := by decide +kernel
theorem d_M_count_12 : decode b_M_count 12 = .ok (.iconst 1, 1) := by decide +kernel
theorem d_M_count_13 : decode b_M_count 13 = .ok (.if_icmp .ne 10, 3) := by decide +kernel
theorem d_M_count_16 : decode b_M_count 16 = .ok (.aload_n 0, 1) := by decide +kernel
theorem d_M_count_17 : decode b_M_count 17 = .ok (.getfield 77, 3) := by decide +kernel
theorem d_M_count_20 : decode b_M_count 20 = .ok (.goto 16, 3) := by decide +kernel
theorem d_M_count_23 : decode b_M_count 23 = .ok (.iload_n 1, 1) := by decide +kernel
theorem d_M_count_24 : decode b_M_count 24 = .ok (.iconst 2, 1) := by decide +kernel
theorem d_M_count_25 : decode b_M_count 25 = .ok (.if_icmp .ne 10, 3) := by decide +kernel
theorem d_M_count_28 : decode b_M_count 28 = .ok (.aload_n 0, 1) := by decide +kernel
theorem d_M_count_29 : decode b_M_count 29 = .ok (.getfield 80, 3) := by decide +kernel
theorem d_M_count_32 : decode b_M_count 32 = .ok (.goto 4, 3) := by decide +kernel
theorem d_M_count_35 : decode b_M_count 35 = .ok (.iconst (-1), 1) := by decide +kernel
theorem d_M_count_36 : decode b_M_count 36 = .ok (.ireturn, 1) := by decide +kernel
abbrev X_M_count (p : Program) (l : Launch) (e : Env) (k1 k2 : Nat) (s : State) (m : MethodId) (args : Array Value) (below : List Frame) (meth : Method) (c : Code) (B : AB) (n0 m0 : Nat) (h : AH) (pc : Nat) (lv : List (Nat × Value)) (st : List Value) (comp : Option (Int32 × AH)) : Prop := XX p l e { frames := 0, cells := k1, slots := k2, locals := 0 } s m args below meth c b_M_count o_M lw_tt 2 (Option.some Jvm.ClassFile.FieldType.int) "count" B n0 m0 (QM B below args s { frames := 0, cells := k1, slots := k2, locals := 0 } eI) h pc lv st comp
def f_M_count (a0 : Nat) (x1 : Int32) (h : AH) : Option (Int32 × AH) := (if x1 = 0 then (fI h 4 2 (some a0)).bind (fun x101 => some (x101, h)) else (if x1 = (1 : Int32) then (fI h 4 0 (some a0)).bind (fun x102 => some (x102, h)) else (if x1 = (2 : Int32) then (fI h 4 1 (some a0)).bind (fun x103 => some (x103, h)) else some ((-1 : Int32), h))))
set_option maxHeartbeats 4000000 in
set_option maxRecDepth 100000 in
theorem c_M_count (l : Launch) (B : AB) (a0 : Nat) (x1 : Int32) (h : AH) : CT l B y_M_count (Cond.code y_M_count b_M_count 2 (Option.some Jvm.ClassFile.FieldType.int) :: lw_tt) 0 0 eI [.ref a0, .int x1] h (f_M_count a0 x1 h) := by
  refine ct_of (own := o_M) (nm := "count") (by decide +kernel) rfl rfl (Nat.le_of_ble_eq_true rfl) (fun p e k1 k2 s m args below meth c => ?_)
  refine x_sub (lv' := [(0, .ref a0), (1, .int x1)]) [0, 1] rfl ?_
  unfold f_M_count
  refine x_go (pc' := 1) (st' := [.int x1]) (fun hC _ _ _ _ _ _ hl k => lv_iload_n hC.1 hC.2.1 d_M_count_0 rfl (lv_at hl 1 rfl) k) ?_
  refine x_if (P := x1 = 0) (pt := 4) (pf := 11) (st' := []) (fun hC _ _ _ _ _ _ kt kf => lv_if_ne (tgt := 11) hC.1 hC.2.1 d_M_count_1 (by decide) kf kt) ?_ ?_
  · refine x_go (pc' := 5) (st' := [.ref a0]) (fun hC _ _ _ _ _ _ hl k => lv_aload_n hC.1 hC.2.1 d_M_count_4 rfl (lv_at hl 0 rfl) k) ?_
    refine x_getI (ci := 4) (kf := 2) (r := (some a0)) (fun hC => w_get hC iw_4 rfl 2 (by decide) tw_316 rfl d_M_count_5) (fun x101 => ?_)
    refine x_go (pc' := 36) (st' := [.int x101]) (fun hC _ _ _ _ _ _ hl k => lv_goto (tgt := 36) hC.1 hC.2.1 d_M_count_8 (by decide) k) ?_
    exact x_iret d_M_count_36
  · refine x_go (pc' := 12) (st' := [.int x1]) (fun hC _ _ _ _ _ _ hl k => lv_iload_n hC.1 hC.2.1 d_M_count_11 rfl (lv_at hl 1 rfl) k) ?_
    refine x_go (pc' := 13) (st' := [.int (1 : Int32), .int x1]) (fun hC _ _ _ _ _ _ hl k => lv_iconst (v := 1) hC.1 hC.2.1 d_M_count_12 (by decide) k) ?_
    refine x_if (P := x1 = (1 : Int32)) (pt := 16) (pf := 23) (st' := []) (fun hC _ _ _ _ _ _ kt kf => lv_icmp_ne (tgt := 23) hC.1 hC.2.1 d_M_count_13 (by decide) kf kt) ?_ ?_
    · refine x_go (pc' := 17) (st' := [.ref a0]) (fun hC _ _ _ _ _ _ hl k => lv_aload_n hC.1 hC.2.1 d_M_count_16 rfl (lv_at hl 0 rfl) k) ?_
      refine x_getI (ci := 4) (kf := 0) (r := (some a0)) (fun hC => w_get hC iw_4 rfl 0 (by decide) tw_314 rfl d_M_count_17) (fun x102 => ?_)
      refine x_go (pc' := 36) (st' := [.int x102]) (fun hC _ _ _ _ _ _ hl k => lv_goto (tgt := 36) hC.1 hC.2.1 d_M_count_20 (by decide) k) ?_
      exact x_iret d_M_count_36
    · refine x_go (pc' := 24) (st' := [.int x1]) (fun hC _ _ _ _ _ _ hl k => lv_iload_n hC.1 hC.2.1 d_M_count_23 rfl (lv_at hl 1 rfl) k) ?_
      refine x_go (pc' := 25) (st' := [.int (2 : Int32), .int x1]) (fun hC _ _ _ _ _ _ hl k => lv_iconst (v := 2) hC.1 hC.2.1 d_M_count_24 (by decide) k) ?_
      refine x_if (P := x1 = (2 : Int32)) (pt := 28) (pf := 35) (st' := []) (fun hC _ _ _ _ _ _ kt kf => lv_icmp_ne (tgt := 35) hC.1 hC.2.1 d_M_count_25 (by decide) kf kt) ?_ ?_
      · refine x_go (pc' := 29) (st' := [.ref a0]) (fun hC _ _ _ _ _ _ hl k => lv_aload_n hC.1 hC.2.1 d_M_count_28 rfl (lv_at hl 0 rfl) k) ?_
        refine x_getI (ci := 4) (kf := 1) (r := (some a0)) (fun hC => w_get hC iw_4 rfl 1 (by decide) tw_315 rfl d_M_count_29) (fun x103 => ?_)
        refine x_go (pc' := 36) (st' := [.int x103]) (fun hC _ _ _ _ _ _ hl k => lv_goto (tgt := 36) hC.1 hC.2.1 d_M_count_32 (by decide) k) ?_
        exact x_iret d_M_count_36
      · refine x_go (pc' := 36) (st' := [.int (-1 : Int32)]) (fun hC _ _ _ _ _ _ hl k => lv_iconst (v := -1) hC.1 hC.2.1 d_M_count_35 (by decide) k) ?_
        exact x_iret d_M_count_36
