/-! SerialDesk$Range.isBelowHigh(J)Z -/
theorem d_R_isBelowHigh_0 : decode b_R_isBelowHigh 0 = .ok (.aload_n 0, 1) := by decide +kernel
theorem d_R_isBelowHigh_1 : decode b_R_isBelowHigh 1 = .ok (.bipush 8, 2) := by decide +kernel
theorem d_R_isBelowHigh_3 : decode b_R_isBelowHigh 3 = .ok (.invokevirtual 29, 3) := by decide +kernel
theorem d_R_isBelowHigh_6 : decode b_R_isBelowHigh 6 = .ok (.ifCond .eq 5, 3) := by decide +kernel
theorem d_R_isBelowHigh_9 : decode b_R_isBelowHigh 9 = .ok (.iconst 1, 1) := by decide +kernel
theorem d_R_isBelowHigh_10 : decode b_R_isBelowHigh 10 = .ok (.ireturn, 1) := by decide +kernel
theorem d_R_isBelowHigh_11 : decode b_R_isBelowHigh 11 = .ok (.aload_n 0, 1) := by decide +kernel
theorem d_R_isBelowHigh_12 : decode b_R_isBelowHigh 12 = .ok (.getfield 22, 3) := by decide +kernel
theorem d_R_isBelowHigh_15 : decode b_R_isBelowHigh 15 = .ok (.iconst 2, 1) := by decide +kernel
theorem d_R_isBelowHigh_16 : decode b_R_isBelowHigh 16 = .ok (.iand, 1) := by decide +kernel
theorem d_R_isBelowHigh_17 : decode b_R_isBelowHigh 17 = .ok (.ifCond .eq 20, 3) := by decide +kernel
theorem d_R_isBelowHigh_20 : decode b_R_isBelowHigh 20 = .ok (.lload_n 1, 1) := by decide +kernel
theorem d_R_isBelowHigh_21 : decode b_R_isBelowHigh 21 = .ok (.aload_n 0, 1) := by decide +kernel
theorem d_R_isBelowHigh_22 : decode b_R_isBelowHigh 22 = .ok (.getfield 19, 3) := by decide +kernel
theorem d_R_isBelowHigh_25 : decode b_R_isBelowHigh 25 = .ok (.lcmp, 1) := by decide +kernel
theorem d_R_isBelowHigh_26 : decode b_R_isBelowHigh 26 = .ok (.ifCond .ge 7, 3) := by decide +kernel
theorem d_R_isBelowHigh_29 : decode b_R_isBelowHigh 29 = .ok (.iconst 1, 1) := by decide +kernel
theorem d_R_isBelowHigh_30 : decode b_R_isBelowHigh 30 = .ok (.goto 21, 3) := by decide +kernel
theorem d_R_isBelowHigh_33 : decode b_R_isBelowHigh 33 = .ok (.iconst 0, 1) := by decide +kernel
theorem d_R_isBelowHigh_34 : decode b_R_isBelowHigh 34 = .ok (.goto 17, 3) := by decide +kernel
theorem d_R_isBelowHigh_37 : decode b_R_isBelowHigh 37 = .ok (.lload_n 1, 1) := by decide +kernel
theorem d_R_isBelowHigh_38 : decode b_R_isBelowHigh 38 = .ok (.aload_n 0, 1) := by decide +kernel
theorem d_R_isBelowHigh_39 : decode b_R_isBelowHigh 39 = .ok (.getfield 19, 3) := by decide +kernel
theorem d_R_isBelowHigh_42 : decode b_R_isBelowHigh 42 = .ok (.lcmp, 1) := by decide +kernel
theorem d_R_isBelowHigh_43 : decode b_R_isBelowHigh 43 = .ok (.ifCond .gt 7, 3) := by decide +kernel
theorem d_R_isBelowHigh_46 : decode b_R_isBelowHigh 46 = .ok (.iconst 1, 1) := by decide +kernel
theorem d_R_isBelowHigh_47 : decode b_R_isBelowHigh 47 = .ok (.goto 4, 3) := by decide +kernel
theorem d_R_isBelowHigh_50 : decode b_R_isBelowHigh 50 = .ok (.iconst 0, 1) := by decide +kernel
theorem d_R_isBelowHigh_51 : decode b_R_isBelowHigh 51 = .ok (.ireturn, 1) := by decide +kernel
abbrev X_R_isBelowHigh (p : Program) (l : Launch) (e : Env) (k1 k2 : Nat) (s : State) (m : MethodId) (args : Array Value) (below : List Frame) (meth : Method) (c : Code) (B : AB) (n0 m0 : Nat) (h : AH) (pc : Nat) (lv : List (Nat × Value)) (st : List Value) (comp : Option (Int32 × AH)) : Prop := XX p l e { frames := 1, cells := k1, slots := k2, locals := 21 } s m args below meth c b_R_isBelowHigh o_R lw_tt 3 (Option.some Jvm.ClassFile.FieldType.boolean) "isBelowHigh" B n0 m0 (QM B below args s { frames := 1, cells := k1, slots := k2, locals := 21 } eI) h pc lv st comp
def f_R_isBelowHigh (a0 : Nat) (x1 : Int64) (h : AH) : Option (Int32 × AH) := rcv h 0 (some a0) (fun b103 => bnd (f_R_lacks b103 (8 : Int32) h) (fun x102 h101 => (if x102 = 0 then (fI h101 0 3 (some a0)).bind (fun x104 => (if (x104 &&& (2 : Int32)) = 0 then (fL h101 0 2 (some a0)).bind (fun x105 => (if 0 < (lg_cmp x1 x105) then rZ (0 : Int32) h101 else rZ (1 : Int32) h101)) else (fL h101 0 2 (some a0)).bind (fun x106 => (if 0 ≤ (lg_cmp x1 x106) then rZ (0 : Int32) h101 else rZ (1 : Int32) h101)))) else rZ (1 : Int32) h101)))
set_option maxHeartbeats 4000000 in
set_option maxRecDepth 100000 in
theorem c_R_isBelowHigh (l : Launch) (B : AB) (a0 : Nat) (x1 : Int64) (h : AH) : CT l B y_R_isBelowHigh (Cond.code y_R_isBelowHigh b_R_isBelowHigh 3 (Option.some Jvm.ClassFile.FieldType.boolean) :: lw_tt) 1 21 eI [.ref a0, .long x1] h (f_R_isBelowHigh a0 x1 h) := by
  refine ct_of (own := o_R) (nm := "isBelowHigh") (by decide +kernel) rfl rfl (Nat.le_of_ble_eq_true rfl) (fun p e k1 k2 s m args below meth c => ?_)
  refine x_sub (lv' := [(0, .ref a0), (1, .long x1)]) [0, 1] rfl ?_
  unfold f_R_isBelowHigh
  refine x_go (pc' := 1) (st' := [.ref a0]) (fun hC _ _ _ _ _ _ hl k => lv_aload_n hC.1 hC.2.1 d_R_isBelowHigh_0 rfl (lv_at hl 0 rfl) k) ?_
  refine x_go (pc' := 3) (st' := [.int (8 : Int32), .ref a0]) (fun hC _ _ _ _ _ _ hl k => lv_bipush (v := 8) hC.1 hC.2.1 d_R_isBelowHigh_1 (by decide) k) ?_
  refine x_recv (ci := 0) (r := (some a0)) (fun b103 _ eb103 gb103 => ?_)
  refine x_callI (rest := []) (c_R_lacks l B b103 (8 : Int32) h) (fun hC => fun e1 e2 e3 e4 hM => fun hR hsz hc hs => run_V (n := 1) hC lw_good rfl rfl tw_156 tw_158 tv_3 tw_5 tw_159 (by decide) d_R_isBelowHigh_3 gb103 (by rw [e1]; exact Nat.le_of_ble_eq_true rfl) (by rw [e2]; exact Nat.le_of_ble_eq_true rfl) e3 e4 hM hR hsz hc hs rfl (by cases eb103; rfl) (Nat.le_of_ble_eq_true rfl)) (fun x102 h101 => ?_)
  refine x_if (P := x102 = 0) (pt := 11) (pf := 9) (st' := []) (fun hC _ _ _ _ _ _ kt kf => lv_if_eq (tgt := 11) hC.1 hC.2.1 d_R_isBelowHigh_6 (by decide) kt kf) ?_ ?_
  · refine x_go (pc' := 12) (st' := [.ref a0]) (fun hC _ _ _ _ _ _ hl k => lv_aload_n hC.1 hC.2.1 d_R_isBelowHigh_11 rfl (lv_at hl 0 rfl) k) ?_
    refine x_getI (ci := 0) (kf := 3) (r := (some a0)) (fun hC => w_get hC iw_0 rfl 3 (by decide) tw_125 rfl d_R_isBelowHigh_12) (fun x104 => ?_)
    refine x_go (pc' := 16) (st' := [.int (2 : Int32), .int x104]) (fun hC _ _ _ _ _ _ hl k => lv_iconst (v := 2) hC.1 hC.2.1 d_R_isBelowHigh_15 (by decide) k) ?_
    refine x_go (pc' := 17) (st' := [.int (x104 &&& (2 : Int32))]) (fun hC _ _ _ _ _ _ hl k => lv_iand hC.1 hC.2.1 d_R_isBelowHigh_16 k) ?_
    refine x_if (P := (x104 &&& (2 : Int32)) = 0) (pt := 37) (pf := 20) (st' := []) (fun hC _ _ _ _ _ _ kt kf => lv_if_eq (tgt := 37) hC.1 hC.2.1 d_R_isBelowHigh_17 (by decide) kt kf) ?_ ?_
    · refine x_go (pc' := 38) (st' := [.long x1]) (fun hC _ _ _ _ _ _ hl k => lv_lload_n hC.1 hC.2.1 d_R_isBelowHigh_37 rfl (lv_at hl 1 rfl) k) ?_
      refine x_go (pc' := 39) (st' := [.ref a0, .long x1]) (fun hC _ _ _ _ _ _ hl k => lv_aload_n hC.1 hC.2.1 d_R_isBelowHigh_38 rfl (lv_at hl 0 rfl) k) ?_
      refine x_getL (ci := 0) (kf := 2) (r := (some a0)) (fun hC => w_get hC iw_0 rfl 2 (by decide) tw_124 rfl d_R_isBelowHigh_39) (fun x105 => ?_)
      refine x_go (pc' := 43) (st' := [.int (lg_cmp x1 x105)]) (fun hC _ _ _ _ _ _ hl k => W.lcmp hC.1 hC.2.1 d_R_isBelowHigh_42 k) ?_
      refine x_if (P := 0 < (lg_cmp x1 x105)) (pt := 50) (pf := 46) (st' := []) (fun hC _ _ _ _ _ _ kt kf => lv_if_gt (tgt := 50) hC.1 hC.2.1 d_R_isBelowHigh_43 (by decide) kt kf) ?_ ?_
      · refine x_go (pc' := 51) (st' := [.int (0 : Int32)]) (fun hC _ _ _ _ _ _ hl k => lv_iconst (v := 0) hC.1 hC.2.1 d_R_isBelowHigh_50 (by decide) k) ?_
        exact x_zret d_R_isBelowHigh_51
      · refine x_go (pc' := 47) (st' := [.int (1 : Int32)]) (fun hC _ _ _ _ _ _ hl k => lv_iconst (v := 1) hC.1 hC.2.1 d_R_isBelowHigh_46 (by decide) k) ?_
        refine x_go (pc' := 51) (st' := [.int (1 : Int32)]) (fun hC _ _ _ _ _ _ hl k => lv_goto (tgt := 51) hC.1 hC.2.1 d_R_isBelowHigh_47 (by decide) k) ?_
        exact x_zret d_R_isBelowHigh_51
    · refine x_go (pc' := 21) (st' := [.long x1]) (fun hC _ _ _ _ _ _ hl k => lv_lload_n hC.1 hC.2.1 d_R_isBelowHigh_20 rfl (lv_at hl 1 rfl) k) ?_
      refine x_go (pc' := 22) (st' := [.ref a0, .long x1]) (fun hC _ _ _ _ _ _ hl k => lv_aload_n hC.1 hC.2.1 d_R_isBelowHigh_21 rfl (lv_at hl 0 rfl) k) ?_
      refine x_getL (ci := 0) (kf := 2) (r := (some a0)) (fun hC => w_get hC iw_0 rfl 2 (by decide) tw_124 rfl d_R_isBelowHigh_22) (fun x106 => ?_)
      refine x_go (pc' := 26) (st' := [.int (lg_cmp x1 x106)]) (fun hC _ _ _ _ _ _ hl k => W.lcmp hC.1 hC.2.1 d_R_isBelowHigh_25 k) ?_
      refine x_if (P := 0 ≤ (lg_cmp x1 x106)) (pt := 33) (pf := 29) (st' := []) (fun hC _ _ _ _ _ _ kt kf => lv_if_ge (tgt := 33) hC.1 hC.2.1 d_R_isBelowHigh_26 (by decide) kt kf) ?_ ?_
      · refine x_go (pc' := 34) (st' := [.int (0 : Int32)]) (fun hC _ _ _ _ _ _ hl k => lv_iconst (v := 0) hC.1 hC.2.1 d_R_isBelowHigh_33 (by decide) k) ?_
        refine x_go (pc' := 51) (st' := [.int (0 : Int32)]) (fun hC _ _ _ _ _ _ hl k => lv_goto (tgt := 51) hC.1 hC.2.1 d_R_isBelowHigh_34 (by decide) k) ?_
        exact x_zret d_R_isBelowHigh_51
      · refine x_go (pc' := 30) (st' := [.int (1 : Int32)]) (fun hC _ _ _ _ _ _ hl k => lv_iconst (v := 1) hC.1 hC.2.1 d_R_isBelowHigh_29 (by decide) k) ?_
        refine x_go (pc' := 51) (st' := [.int (1 : Int32)]) (fun hC _ _ _ _ _ _ hl k => lv_goto (tgt := 51) hC.1 hC.2.1 d_R_isBelowHigh_30 (by decide) k) ?_
        exact x_zret d_R_isBelowHigh_51
  · refine x_go (pc' := 10) (st' := [.int (1 : Int32)]) (fun hC _ _ _ _ _ _ hl k => lv_iconst (v := 1) hC.1 hC.2.1 d_R_isBelowHigh_9 (by decide) k) ?_
    exact x_zret d_R_isBelowHigh_10
/-! SerialDesk$Version.isFilled(I)Z -/
theorem d_V_isFilled_0 : decode b_V_isFilled 0 = .ok (.iload_n 1, 1) := by decide +kernel
theorem d_V_isFilled_1 : decode b_V_isFilled 1 = .ok (.invokestatic 19, 3) := by decide +kernel
theorem d_V_isFilled_4 : decode b_V_isFilled 4 = .ok (.ifCond .eq 16, 3) := by decide +kernel
theorem d_V_isFilled_7 : decode b_V_isFilled 7 = .ok (.aload_n 0, 1) := by decide +kernel
theorem d_V_isFilled_8 : decode b_V_isFilled 8 = .ok (.getfield 15, 3) := by decide +kernel
theorem d_V_isFilled_11 : decode b_V_isFilled 11 = .ok (.iload_n 1, 1) := by decide +kernel
theorem d_V_isFilled_12 : decode b_V_isFilled 12 = .ok (.baload, 1) := by decide +kernel
theorem d_V_isFilled_13 : decode b_V_isFilled 13 = .ok (.ifCond .eq 7, 3) := by decide +kernel
theorem d_V_isFilled_16 : decode b_V_isFilled 16 = .ok (.iconst 1, 1) := by decide +kernel
theorem d_V_isFilled_17 : decode b_V_isFilled 17 = .ok (.goto 4, 3) := by decide +kernel
theorem d_V_isFilled_20 : decode b_V_isFilled 20 = .ok (.iconst 0, 1) := by decide +kernel
theorem d_V_isFilled_21 : decode b_V_isFilled 21 = .ok (.ireturn, 1) := by decide +kernel
abbrev X_V_isFilled (p : Program) (l : Launch) (e : Env) (k1 k2 : Nat) (s : State) (m : MethodId) (args : Array Value) (below : List Frame) (meth : Method) (c : Code) (B : AB) (n0 m0 : Nat) (h : AH) (pc : Nat) (lv : List (Nat × Value)) (st : List Value) (comp : Option (Int32 × AH)) : Prop := XX p l e { frames := 1, cells := k1, slots := k2, locals := 20 } s m args below meth c b_V_isFilled o_V lw_tt 2 (Option.some Jvm.ClassFile.FieldType.boolean) "isFilled" B n0 m0 (QM B below args s { frames := 1, cells := k1, slots := k2, locals := 20 } eI) h pc lv st comp
def f_V_isFilled (a0 : Nat) (x1 : Int32) (h : AH) : Option (Int32 × AH) := bnd (f_D_isColumn x1 h) (fun x102 h101 => (if x102 = 0 then rZ (0 : Int32) h101 else (fR h101 2 1 (some a0)).bind (fun r103 => (lI h101 1 r103 x1).bind (fun x104 => (if x104 = 0 then rZ (0 : Int32) h101 else rZ (1 : Int32) h101)))))
set_option maxHeartbeats 4000000 in
set_option maxRecDepth 100000 in
theorem c_V_isFilled (l : Launch) (B : AB) (a0 : Nat) (x1 : Int32) (h : AH) : CT l B y_V_isFilled (Cond.code y_V_isFilled b_V_isFilled 2 (Option.some Jvm.ClassFile.FieldType.boolean) :: lw_tt) 1 20 eI [.ref a0, .int x1] h (f_V_isFilled a0 x1 h) := by
  refine ct_of (own := o_V) (nm := "isFilled") (by decide +kernel) rfl rfl (Nat.le_of_ble_eq_true rfl) (fun p e k1 k2 s m args below meth c => ?_)
  refine x_sub (lv' := [(0, .ref a0), (1, .int x1)]) [0, 1] rfl ?_
  unfold f_V_isFilled
  refine x_go (pc' := 1) (st' := [.int x1]) (fun hC _ _ _ _ _ _ hl k => lv_iload_n hC.1 hC.2.1 d_V_isFilled_0 rfl (lv_at hl 1 rfl) k) ?_
  refine x_callI (rest := []) (c_D_isColumn l B x1 h) (fun hC => fun e1 e2 e3 e4 hM => fun hR hsz hc hs => run_SN (host := "SerialDesk") (n := 1) hC lw_good (List.mem_of_getElem? (i := 3) rfl) tw_162 tw_1 tw_163 (by decide) d_V_isFilled_1 (by rw [e1]; exact Nat.le_of_ble_eq_true rfl) (by rw [e2]; exact Nat.le_of_ble_eq_true rfl) e3 e4 hM hR hsz hc hs rfl rfl (Nat.le_of_ble_eq_true rfl)) (fun x102 h101 => ?_)
  refine x_if (P := x102 = 0) (pt := 20) (pf := 7) (st' := []) (fun hC _ _ _ _ _ _ kt kf => lv_if_eq (tgt := 20) hC.1 hC.2.1 d_V_isFilled_4 (by decide) kt kf) ?_ ?_
  · refine x_go (pc' := 21) (st' := [.int (0 : Int32)]) (fun hC _ _ _ _ _ _ hl k => lv_iconst (v := 0) hC.1 hC.2.1 d_V_isFilled_20 (by decide) k) ?_
    exact x_zret d_V_isFilled_21
  · refine x_go (pc' := 8) (st' := [.ref a0]) (fun hC _ _ _ _ _ _ hl k => lv_aload_n hC.1 hC.2.1 d_V_isFilled_7 rfl (lv_at hl 0 rfl) k) ?_
    refine x_getR (ci := 2) (kf := 1) (r := (some a0)) (fun hC => w_get hC iw_2 rfl 1 (by decide) tw_21 rfl d_V_isFilled_8) (fun r103 => ?_)
    refine x_go (pc' := 12) (st' := [.int x1, va_rf r103]) (fun hC _ _ _ _ _ _ hl k => lv_iload_n hC.1 hC.2.1 d_V_isFilled_11 rfl (lv_at hl 1 rfl) k) ?_
    refine x_zald (t := 1) rfl (r := r103) (i := x1) d_V_isFilled_12 (fun x104 => ?_)
    refine x_if (P := x104 = 0) (pt := 20) (pf := 16) (st' := []) (fun hC _ _ _ _ _ _ kt kf => lv_if_eq (tgt := 20) hC.1 hC.2.1 d_V_isFilled_13 (by decide) kt kf) ?_ ?_
    · refine x_go (pc' := 21) (st' := [.int (0 : Int32)]) (fun hC _ _ _ _ _ _ hl k => lv_iconst (v := 0) hC.1 hC.2.1 d_V_isFilled_20 (by decide) k) ?_
      exact x_zret d_V_isFilled_21
    · refine x_go (pc' := 17) (st' := [.int (1 : Int32)]) (fun hC _ _ _ _ _ _ hl k => lv_iconst (v := 1) hC.1 hC.2.1 d_V_isFilled_16 (by decide) k) ?_
      refine x_go (pc' := 21) (st' := [.int (1 : Int32)]) (fun hC _ _ _ _ _ _ hl k => lv_goto (tgt := 21) hC.1 hC.2.1 d_V_isFilled_17 (by decide) k) ?_
      exact x_zret d_V_isFilled_21
/-! SerialDesk$Version.valueOf(I)J -/
theorem d_V_valueOf_0 : decode b_V_valueOf 0 = .ok (.iload_n 1, 1) := by decide +kernel
theorem d_V_valueOf_1 : decode b_V_valueOf 1 = .ok (.invokestatic 19, 3) := by decide +kernel
theorem d_V_valueOf_4 : decode b_V_valueOf 4 = .ok (.ifCond .eq 12, 3) := by decide +kernel
theorem d_V_valueOf_7 : decode b_V_valueOf 7 = .ok (.aload_n 0, 1) := by decide +kernel
theorem d_V_valueOf_8 : decode b_V_valueOf 8 = .ok (.getfield 9, 3) := by decide +kernel
theorem d_V_valueOf_11 : decode b_V_valueOf 11 = .ok (.iload_n 1, 1) := by decide +kernel
theorem d_V_valueOf_12 : decode b_V_valueOf 12 = .ok (.laload, 1) := by decide +kernel
theorem d_V_valueOf_13 : decode b_V_valueOf 13 = .ok (.goto 4, 3) := by decide +kernel
theorem d_V_valueOf_16 : decode b_V_valueOf 16 = .ok (.lconst 0, 1) := by decide +kernel
theorem d_V_valueOf_17 : decode b_V_valueOf 17 = .ok (.lreturn, 1) := by decide +kernel
abbrev X_V_valueOf (p : Program) (l : Launch) (e : Env) (k1 k2 : Nat) (s : State) (m : MethodId) (args : Array Value) (below : List Frame) (meth : Method) (c : Code) (B : AB) (n0 m0 : Nat) (h : AH) (pc : Nat) (lv : List (Nat × Value)) (st : List Value) (comp : Option (Int64 × AH)) : Prop := XX p l e { frames := 1, cells := k1, slots := k2, locals := 20 } s m args below meth c b_V_valueOf o_V lw_tt 2 (Option.some Jvm.ClassFile.FieldType.long) "valueOf" B n0 m0 (QM B below args s { frames := 1, cells := k1, slots := k2, locals := 20 } eL) h pc lv st comp
def f_V_valueOf (a0 : Nat) (x1 : Int32) (h : AH) : Option (Int64 × AH) := bnd (f_D_isColumn x1 h) (fun x102 h101 => (if x102 = 0 then some ((0 : Int64), h101) else (fR h101 2 0 (some a0)).bind (fun r103 => (lL h101 0 r103 x1).bind (fun x104 => some (x104, h101)))))
set_option maxHeartbeats 4000000 in
set_option maxRecDepth 100000 in
theorem c_V_valueOf (l : Launch) (B : AB) (a0 : Nat) (x1 : Int32) (h : AH) : CT l B y_V_valueOf (Cond.code y_V_valueOf b_V_valueOf 2 (Option.some Jvm.ClassFile.FieldType.long) :: lw_tt) 1 20 eL [.ref a0, .int x1] h (f_V_valueOf a0 x1 h) := by
  refine ct_of (own := o_V) (nm := "valueOf") (by decide +kernel) rfl rfl (Nat.le_of_ble_eq_true rfl) (fun p e k1 k2 s m args below meth c => ?_)
  refine x_sub (lv' := [(0, .ref a0), (1, .int x1)]) [0, 1] rfl ?_
  unfold f_V_valueOf
  refine x_go (pc' := 1) (st' := [.int x1]) (fun hC _ _ _ _ _ _ hl k => lv_iload_n hC.1 hC.2.1 d_V_valueOf_0 rfl (lv_at hl 1 rfl) k) ?_
  refine x_callI (rest := []) (c_D_isColumn l B x1 h) (fun hC => fun e1 e2 e3 e4 hM => fun hR hsz hc hs => run_SN (host := "SerialDesk") (n := 1) hC lw_good (List.mem_of_getElem? (i := 3) rfl) tw_162 tw_1 tw_163 (by decide) d_V_valueOf_1 (by rw [e1]; exact Nat.le_of_ble_eq_true rfl) (by rw [e2]; exact Nat.le_of_ble_eq_true rfl) e3 e4 hM hR hsz hc hs rfl rfl (Nat.le_of_ble_eq_true rfl)) (fun x102 h101 => ?_)
  refine x_if (P := x102 = 0) (pt := 16) (pf := 7) (st' := []) (fun hC _ _ _ _ _ _ kt kf => lv_if_eq (tgt := 16) hC.1 hC.2.1 d_V_valueOf_4 (by decide) kt kf) ?_ ?_
  · refine x_go (pc' := 17) (st' := [.long (0 : Int64)]) (fun hC _ _ _ _ _ _ hl k => lv_lconst (v := 0) hC.1 hC.2.1 d_V_valueOf_16 (by decide) k) ?_
    exact x_lret d_V_valueOf_17
  · refine x_go (pc' := 8) (st' := [.ref a0]) (fun hC _ _ _ _ _ _ hl k => lv_aload_n hC.1 hC.2.1 d_V_valueOf_7 rfl (lv_at hl 0 rfl) k) ?_
    refine x_getR (ci := 2) (kf := 0) (r := (some a0)) (fun hC => w_get hC iw_2 rfl 0 (by decide) tw_20 rfl d_V_valueOf_8) (fun r103 => ?_)
    refine x_go (pc' := 12) (st' := [.int x1, va_rf r103]) (fun hC _ _ _ _ _ _ hl k => lv_iload_n hC.1 hC.2.1 d_V_valueOf_11 rfl (lv_at hl 1 rfl) k) ?_
    refine x_lald (t := 0) rfl (r := r103) (i := x1) d_V_valueOf_12 (fun x104 => ?_)
    refine x_go (pc' := 17) (st' := [.long x104]) (fun hC _ _ _ _ _ _ hl k => lv_goto (tgt := 17) hC.1 hC.2.1 d_V_valueOf_13 (by decide) k) ?_
    exact x_lret d_V_valueOf_17
/-! SerialDesk$Range.holds(LSerialDesk$Version;)Z -/
theorem d_R_holds_0 : decode b_R_holds 0 = .ok (.aload_n 0, 1) := by decide +kernel
theorem d_R_holds_1 : decode b_R_holds 1 = .ok (.invokevirtual 33, 3) := by decide +kernel
theorem d_R_holds_4 : decode b_R_holds 4 = .ok (.ifCond .eq 5, 3) := by decide +kernel
theorem d_R_holds_7 : decode b_R_holds 7 = .ok (.iconst 1, 1) := by decide +kernel
theorem d_R_holds_8 : decode b_R_holds 8 = .ok (.ireturn, 1) := by decide +kernel
theorem d_R_holds_9 : decode b_R_holds 9 = .ok (.aload_n 1, 1) := by decide +kernel
theorem d_R_holds_10 : decode b_R_holds 10 = .ok (.aload_n 0, 1) := by decide +kernel
theorem d_R_holds_11 : decode b_R_holds 11 = .ok (.getfield 9, 3) := by decide +kernel
theorem d_R_holds_14 : decode b_R_holds 14 = .ok (.invokevirtual 37, 3) := by decide +kernel
theorem d_R_holds_17 : decode b_R_holds 17 = .ok (.ifCond .ne 5, 3) := by decide +kernel
theorem d_R_holds_20 : decode b_R_holds 20 = .ok (.iconst 0, 1) := by decide +kernel
theorem d_R_holds_21 : decode b_R_holds 21 = .ok (.ireturn, 1) := by decide +kernel
theorem d_R_holds_22 : decode b_R_holds 22 = .ok (.aload_n 1, 1) := by decide +kernel
theorem d_R_holds_23 : decode b_R_holds 23 = .ok (.aload_n 0, 1) := by decide +kernel
theorem d_R_holds_24 : decode b_R_holds 24 = .ok (.getfield 9, 3) := by decide +kernel
theorem d_R_holds_27 : decode b_R_holds 27 = .ok (.invokevirtual 42, 3) := by decide +kernel
theorem d_R_holds_30 : decode b_R_holds 30 = .ok (.lstore_n 2, 1) := by decide +kernel
theorem d_R_holds_31 : decode b_R_holds 31 = .ok (.aload_n 0, 1) := by decide +kernel
theorem d_R_holds_32 : decode b_R_holds 32 = .ok (.lload_n 2, 1) := by decide +kernel
theorem d_R_holds_33 : decode b_R_holds 33 = .ok (.invokevirtual 46, 3) := by decide +kernel
theorem d_R_holds_36 : decode b_R_holds 36 = .ok (.ifCond .eq 15, 3) := by decide +kernel
theorem d_R_holds_39 : decode b_R_holds 39 = .ok (.aload_n 0, 1) := by decide +kernel
theorem d_R_holds_40 : decode b_R_holds 40 = .ok (.lload_n 2, 1) := by decide +kernel
theorem d_R_holds_41 : decode b_R_holds 41 = .ok (.invokevirtual 50, 3) := by decide +kernel
theorem d_R_holds_44 : decode b_R_holds 44 = .ok (.ifCond .eq 7, 3) := by decide +kernel
theorem d_R_holds_47 : decode b_R_holds 47 = .ok (.iconst 1, 1) := by decide +kernel
theorem d_R_holds_48 : decode b_R_holds 48 = .ok (.goto 4, 3) := by decide +kernel
theorem d_R_holds_51 : decode b_R_holds 51 = .ok (.iconst 0, 1) := by decide +kernel
theorem d_R_holds_52 : decode b_R_holds 52 = .ok (.ireturn, 1) := by decide +kernel
abbrev X_R_holds (p : Program) (l : Launch) (e : Env) (k1 k2 : Nat) (s : State) (m : MethodId) (args : Array Value) (below : List Frame) (meth : Method) (c : Code) (B : AB) (n0 m0 : Nat) (h : AH) (pc : Nat) (lv : List (Nat × Value)) (st : List Value) (comp : Option (Int32 × AH)) : Prop := XX p l e { frames := 2, cells := k1, slots := k2, locals := 43 } s m args below meth c b_R_holds o_R lw_tt 4 (Option.some Jvm.ClassFile.FieldType.boolean) "holds" B n0 m0 (QM B below args s { frames := 2, cells := k1, slots := k2, locals := 43 } eI) h pc lv st comp
def f_R_holds (a0 : Nat) (r1 : Option Nat) (h : AH) : Option (Int32 × AH) := rcv h 0 (some a0) (fun b103 => bnd (f_R_isWholeTable b103 h) (fun x102 h101 => (if x102 = 0 then (fI h101 0 0 (some a0)).bind (fun x104 => rcv h101 2 r1 (fun b107 => bnd (f_V_isFilled b107 x104 h101) (fun x106 h105 => (if x106 = 0 then rZ (0 : Int32) h105 else (fI h105 0 0 (some a0)).bind (fun x108 => rcv h105 2 r1 (fun b111 => bnd (f_V_valueOf b111 x108 h105) (fun x110 h109 => rcv h109 0 (some a0) (fun b114 => bnd (f_R_isAboveLow b114 x110 h109) (fun x113 h112 => (if x113 = 0 then rZ (0 : Int32) h112 else rcv h112 0 (some a0) (fun b117 => bnd (f_R_isBelowHigh b117 x110 h112) (fun x116 h115 => (if x116 = 0 then rZ (0 : Int32) h115 else rZ (1 : Int32) h115))))))))))))) else rZ (1 : Int32) h101)))
set_option maxHeartbeats 4000000 in
set_option maxRecDepth 100000 in
theorem c_R_holds (l : Launch) (B : AB) (a0 : Nat) (r1 : Option Nat) (h : AH) : CT l B y_R_holds (Cond.code y_R_holds b_R_holds 4 (Option.some Jvm.ClassFile.FieldType.boolean) :: lw_tt) 2 43 eI [.ref a0, va_rf r1] h (f_R_holds a0 r1 h) := by
  refine ct_of (own := o_R) (nm := "holds") (by decide +kernel) rfl rfl (by simp [lg_sl, rf_cat, cat_i, cat_l, cat_r]) (fun p e k1 k2 s m args below meth c => ?_)
  refine x_sub (lv' := [(0, .ref a0), (1, va_rf r1)]) [0, 1] (by simp [lv_pick, lv_args, rf_cat, cat_i, cat_l, cat_r]) ?_
  unfold f_R_holds
  refine x_go (pc' := 1) (st' := [.ref a0]) (fun hC _ _ _ _ _ _ hl k => lv_aload_n hC.1 hC.2.1 d_R_holds_0 rfl (lv_at hl 0 rfl) k) ?_
  refine x_recv (ci := 0) (r := (some a0)) (fun b103 _ eb103 gb103 => ?_)
  refine x_callI (rest := []) (c_R_isWholeTable l B b103 h) (fun hC => fun e1 e2 e3 e4 hM => fun hR hsz hc hs => run_V (n := 0) hC lw_good rfl rfl tw_201 tw_149 tw_150 tw_5 tw_151 (by decide) d_R_holds_1 gb103 (by rw [e1]; exact Nat.le_of_ble_eq_true rfl) (by rw [e2]; exact Nat.le_of_ble_eq_true rfl) e3 e4 hM hR hsz hc hs rfl (by cases eb103; rfl) (Nat.le_of_ble_eq_true rfl)) (fun x102 h101 => ?_)
  refine x_if (P := x102 = 0) (pt := 9) (pf := 7) (st' := []) (fun hC _ _ _ _ _ _ kt kf => lv_if_eq (tgt := 9) hC.1 hC.2.1 d_R_holds_4 (by decide) kt kf) ?_ ?_
  · refine x_go (pc' := 10) (st' := [va_rf r1]) (fun hC _ _ _ _ _ _ hl k => lv_aload_nq (r := r1) hC.1 hC.2.1 d_R_holds_9 rfl (lv_at hl 1 rfl) k) ?_
    refine x_go (pc' := 11) (st' := [.ref a0, va_rf r1]) (fun hC _ _ _ _ _ _ hl k => lv_aload_n hC.1 hC.2.1 d_R_holds_10 rfl (lv_at hl 0 rfl) k) ?_
    refine x_getI (ci := 0) (kf := 0) (r := (some a0)) (fun hC => w_get hC iw_0 rfl 0 (by decide) tw_122 rfl d_R_holds_11) (fun x104 => ?_)
    refine x_recv (ci := 2) (r := r1) (fun b107 _ eb107 gb107 => ?_)
    refine x_callI (rest := []) (c_V_isFilled l B b107 x104 h101) (fun hC => fun e1 e2 e3 e4 hM => fun hR hsz hc hs => run_V (n := 1) hC lw_good rfl rfl tw_202 tw_203 tw_204 tw_2 tw_205 (by decide) d_R_holds_14 gb107 (by rw [e1]; exact Nat.le_of_ble_eq_true rfl) (by rw [e2]; exact Nat.le_of_ble_eq_true rfl) e3 e4 hM hR hsz hc hs rfl (by cases eb107; rfl) (Nat.le_of_ble_eq_true rfl)) (fun x106 h105 => ?_)
    refine x_if (P := x106 = 0) (pt := 20) (pf := 22) (st' := []) (fun hC _ _ _ _ _ _ kt kf => lv_if_ne (tgt := 22) hC.1 hC.2.1 d_R_holds_17 (by decide) kf kt) ?_ ?_
    · refine x_go (pc' := 21) (st' := [.int (0 : Int32)]) (fun hC _ _ _ _ _ _ hl k => lv_iconst (v := 0) hC.1 hC.2.1 d_R_holds_20 (by decide) k) ?_
      exact x_zret d_R_holds_21
    · refine x_go (pc' := 23) (st' := [va_rf r1]) (fun hC _ _ _ _ _ _ hl k => lv_aload_nq (r := r1) hC.1 hC.2.1 d_R_holds_22 rfl (lv_at hl 1 rfl) k) ?_
      refine x_go (pc' := 24) (st' := [.ref a0, va_rf r1]) (fun hC _ _ _ _ _ _ hl k => lv_aload_n hC.1 hC.2.1 d_R_holds_23 rfl (lv_at hl 0 rfl) k) ?_
      refine x_getI (ci := 0) (kf := 0) (r := (some a0)) (fun hC => w_get hC iw_0 rfl 0 (by decide) tw_122 rfl d_R_holds_24) (fun x108 => ?_)
      refine x_recv (ci := 2) (r := r1) (fun b111 _ eb111 gb111 => ?_)
      refine x_callL (rest := []) (c_V_valueOf l B b111 x108 h105) (fun hC => fun e1 e2 e3 e4 hM => fun hR hsz hc hs => run_V (n := 1) hC lw_good rfl rfl tw_206 tw_207 tw_208 tw_2 tw_209 (by decide) d_R_holds_27 gb111 (by rw [e1]; exact Nat.le_of_ble_eq_true rfl) (by rw [e2]; exact Nat.le_of_ble_eq_true rfl) e3 e4 hM hR hsz hc hs rfl (by cases eb111; rfl) (Nat.le_of_ble_eq_true rfl)) (fun x110 h109 => ?_)
      refine x_lift (pc' := 31) (st' := []) (lv' := [(2, .long x110), (0, .ref a0), (1, va_rf r1)]) (fun hC _ _ _ _ _ _ hl k => lv_lstore_n (i := 2) hC.1 hC.2.1 d_R_holds_30 rfl hl (by decide) (by simp [rf_cat, cat_i, cat_l, cat_r]) k) ?_
      refine x_go (pc' := 32) (st' := [.ref a0]) (fun hC _ _ _ _ _ _ hl k => lv_aload_n hC.1 hC.2.1 d_R_holds_31 rfl (lv_at hl 1 rfl) k) ?_
      refine x_go (pc' := 33) (st' := [.long x110, .ref a0]) (fun hC _ _ _ _ _ _ hl k => lv_lload_n hC.1 hC.2.1 d_R_holds_32 rfl (lv_at hl 0 rfl) k) ?_
      refine x_recv (ci := 0) (r := (some a0)) (fun b114 _ eb114 gb114 => ?_)
      refine x_callI (rest := []) (c_R_isAboveLow l B b114 x110 h109) (fun hC => fun e1 e2 e3 e4 hM => fun hR hsz hc hs => run_V (n := 1) hC lw_good rfl rfl tw_210 tw_212 tv_4 tw_5 tw_213 (by decide) d_R_holds_33 gb114 (by rw [e1]; exact Nat.le_of_ble_eq_true rfl) (by rw [e2]; exact Nat.le_of_ble_eq_true rfl) e3 e4 hM hR hsz hc hs rfl (by cases eb114; rfl) (Nat.le_of_ble_eq_true rfl)) (fun x113 h112 => ?_)
      refine x_if (P := x113 = 0) (pt := 51) (pf := 39) (st' := []) (fun hC _ _ _ _ _ _ kt kf => lv_if_eq (tgt := 51) hC.1 hC.2.1 d_R_holds_36 (by decide) kt kf) ?_ ?_
      · refine x_go (pc' := 52) (st' := [.int (0 : Int32)]) (fun hC _ _ _ _ _ _ hl k => lv_iconst (v := 0) hC.1 hC.2.1 d_R_holds_51 (by decide) k) ?_
        exact x_zret d_R_holds_52
      · refine x_go (pc' := 40) (st' := [.ref a0]) (fun hC _ _ _ _ _ _ hl k => lv_aload_n hC.1 hC.2.1 d_R_holds_39 rfl (lv_at hl 1 rfl) k) ?_
        refine x_go (pc' := 41) (st' := [.long x110, .ref a0]) (fun hC _ _ _ _ _ _ hl k => lv_lload_n hC.1 hC.2.1 d_R_holds_40 rfl (lv_at hl 0 rfl) k) ?_
        refine x_recv (ci := 0) (r := (some a0)) (fun b117 _ eb117 gb117 => ?_)
        refine x_callI (rest := []) (c_R_isBelowHigh l B b117 x110 h112) (fun hC => fun e1 e2 e3 e4 hM => fun hR hsz hc hs => run_V (n := 1) hC lw_good rfl rfl tw_214 tw_216 tv_5 tw_5 tw_217 (by decide) d_R_holds_41 gb117 (by rw [e1]; exact Nat.le_of_ble_eq_true rfl) (by rw [e2]; exact Nat.le_of_ble_eq_true rfl) e3 e4 hM hR hsz hc hs rfl (by cases eb117; rfl) (Nat.le_of_ble_eq_true rfl)) (fun x116 h115 => ?_)
        refine x_if (P := x116 = 0) (pt := 51) (pf := 47) (st' := []) (fun hC _ _ _ _ _ _ kt kf => lv_if_eq (tgt := 51) hC.1 hC.2.1 d_R_holds_44 (by decide) kt kf) ?_ ?_
        · refine x_go (pc' := 52) (st' := [.int (0 : Int32)]) (fun hC _ _ _ _ _ _ hl k => lv_iconst (v := 0) hC.1 hC.2.1 d_R_holds_51 (by decide) k) ?_
          exact x_zret d_R_holds_52
        · refine x_go (pc' := 48) (st' := [.int (1 : Int32)]) (fun hC _ _ _ _ _ _ hl k => lv_iconst (v := 1) hC.1 hC.2.1 d_R_holds_47 (by decide) k) ?_
          refine x_go (pc' := 52) (st' := [.int (1 : Int32)]) (fun hC _ _ _ _ _ _ hl k => lv_goto (tgt := 52) hC.1 hC.2.1 d_R_holds_48 (by decide) k) ?_
          exact x_zret d_R_holds_52
  · refine x_go (pc' := 8) (st' := [.int (1 : Int32)]) (fun hC _ _ _ _ _ _ hl k => lv_iconst (v := 1) hC.1 hC.2.1 d_R_holds_7 (by decide) k) ?_
    exact x_zret d_R_holds_8
/-! SerialDesk$Transaction.hasRangeWith(ILSerialDesk$Version;)Z -/
theorem d_T_hasRangeWith_0 : decode b_T_hasRangeWith 0 = .ok (.iload_n 1, 1) := by decide +kernel
theorem d_T_hasRangeWith_1 : decode b_T_hasRangeWith 1 = .ok (.invokestatic 55, 3) := by decide +kernel
theorem d_T_hasRangeWith_4 : decode b_T_hasRangeWith 4 = .ok (.ifCond .ne 5, 3) := by decide +kernel
theorem d_T_hasRangeWith_7 : decode b_T_hasRangeWith 7 = .ok (.iconst 0, 1) := by decide +kernel
theorem d_T_hasRangeWith_8 : decode b_T_hasRangeWith 8 = .ok (.ireturn, 1) := by decide +kernel
theorem d_T_hasRangeWith_9 : decode b_T_hasRangeWith 9 = .ok (.aload_n 0, 1) := by decide +kernel
theorem d_T_hasRangeWith_10 : decode b_T_hasRangeWith 10 = .ok (.getfield 37, 3) := by decide +kernel
theorem d_T_hasRangeWith_13 : decode b_T_hasRangeWith 13 = .ok (.iload_n 1, 1) := by decide +kernel
theorem d_T_hasRangeWith_14 : decode b_T_hasRangeWith 14 = .ok (.aaload, 1) := by decide +kernel
theorem d_T_hasRangeWith_15 : decode b_T_hasRangeWith 15 = .ok (.astore_n 3, 1) := by decide +kernel
theorem d_T_hasRangeWith_16 : decode b_T_hasRangeWith 16 = .ok (.aload_n 3, 1) := by decide +kernel
theorem d_T_hasRangeWith_17 : decode b_T_hasRangeWith 17 = .ok (.ifnull 21, 3) := by decide +kernel
theorem d_T_hasRangeWith_20 : decode b_T_hasRangeWith 20 = .ok (.aload_n 3, 1) := by decide +kernel
theorem d_T_hasRangeWith_21 : decode b_T_hasRangeWith 21 = .ok (.aload_n 2, 1) := by decide +kernel
theorem d_T_hasRangeWith_22 : decode b_T_hasRangeWith 22 = .ok (.invokevirtual 78, 3) := by decide +kernel
theorem d_T_hasRangeWith_25 : decode b_T_hasRangeWith 25 = .ok (.ifCond .eq 5, 3) := by decide +kernel
theorem d_T_hasRangeWith_28 : decode b_T_hasRangeWith 28 = .ok (.iconst 1, 1) := by decide +kernel
theorem d_T_hasRangeWith_29 : decode b_T_hasRangeWith 29 = .ok (.ireturn, 1) := by decide +kernel
theorem d_T_hasRangeWith_30 : decode b_T_hasRangeWith 30 = .ok (.aload_n 3, 1) := by decide +kernel
theorem d_T_hasRangeWith_31 : decode b_T_hasRangeWith 31 = .ok (.getfield 67, 3) := by decide +kernel
theorem d_T_hasRangeWith_34 : decode b_T_hasRangeWith 34 = .ok (.astore_n 3, 1) := by decide +kernel
theorem d_T_hasRangeWith_35 : decode b_T_hasRangeWith 35 = .ok (.goto (-19), 3) := by decide +kernel
theorem d_T_hasRangeWith_38 : decode b_T_hasRangeWith 38 = .ok (.iconst 0, 1) := by decide +kernel
theorem d_T_hasRangeWith_39 : decode b_T_hasRangeWith 39 = .ok (.ireturn, 1) := by decide +kernel
abbrev X_T_hasRangeWith (p : Program) (l : Launch) (e : Env) (k1 k2 : Nat) (s : State) (m : MethodId) (args : Array Value) (below : List Frame) (meth : Method) (c : Code) (B : AB) (n0 m0 : Nat) (h : AH) (pc : Nat) (lv : List (Nat × Value)) (st : List Value) (comp : Option (Int32 × AH)) : Prop := XX p l e { frames := 3, cells := k1, slots := k2, locals := 66 } s m args below meth c b_T_hasRangeWith o_T lw_tt 4 (Option.some Jvm.ClassFile.FieldType.boolean) "hasRangeWith" B n0 m0 (QM B below args s { frames := 3, cells := k1, slots := k2, locals := 66 } eI) h pc lv st comp
def f_T_hasRangeWith_b16 : Nat → Option Nat → Option Nat → AH → Option (Int32 × AH)
  | 0, _, _, _ => none
  | n + 1, r2, r3, h => (if r3 = none then rZ (0 : Int32) h else rcv h 0 r3 (fun b1003 => bnd (f_R_holds b1003 r2 h) (fun x1002 h1001 => (if x1002 = 0 then (fR h1001 0 4 r3).bind (fun r1004 => f_T_hasRangeWith_b16 n r2 r1004 h1001) else rZ (1 : Int32) h1001))))
def f_T_hasRangeWith (a0 : Nat) (x1 : Int32) (r2 : Option Nat) (h : AH) : Option (Int32 × AH) := bnd (f_D_isTable x1 h) (fun x102 h101 => (if x102 = 0 then rZ (0 : Int32) h101 else (fR h101 1 7 (some a0)).bind (fun r103 => (lR h101 3 r103 x1).bind (fun r104 => f_T_hasRangeWith_b16 2000 r2 r104 h101))))
set_option maxHeartbeats 4000000 in
set_option maxRecDepth 100000 in
theorem x_T_hasRangeWith_b16 {p : Program} {l : Launch} {e : Env} {k1 k2 : Nat} {s : State} {m : MethodId} {args : Array Value} {below : List Frame} {meth : Method} {c : Code} {B : AB} {n0 m0 : Nat} : ∀ (n : Nat) (r2 : Option Nat) (r3 : Option Nat) (h : AH), X_T_hasRangeWith p l e k1 k2 s m args below meth c B n0 m0 h 16 [(2, va_rf r2), (3, va_rf r3)] [] (f_T_hasRangeWith_b16 n r2 r3 h) := by
  intro n
  induction n with
  | zero => intro r2 r3 h; exact x_none
  | succ n ih =>
    intro r2 r3 h
    rw [f_T_hasRangeWith_b16]
    refine x_go (pc' := 17) (st' := [va_rf r3]) (fun hC _ _ _ _ _ _ hl k => lv_aload_nq (r := r3) hC.1 hC.2.1 d_T_hasRangeWith_16 rfl (lv_at hl 1 rfl) k) ?_
    refine x_if (P := r3 = none) (pt := 38) (pf := 20) (st' := []) (fun hC _ _ _ _ _ _ kt kf => lv_ifnull_q (r := r3) (tgt := 38) hC.1 hC.2.1 d_T_hasRangeWith_17 (by decide) kt kf) ?_ ?_
    · refine x_go (pc' := 39) (st' := [.int (0 : Int32)]) (fun hC _ _ _ _ _ _ hl k => lv_iconst (v := 0) hC.1 hC.2.1 d_T_hasRangeWith_38 (by decide) k) ?_
      exact x_zret d_T_hasRangeWith_39
    · refine x_go (pc' := 21) (st' := [va_rf r3]) (fun hC _ _ _ _ _ _ hl k => lv_aload_nq (r := r3) hC.1 hC.2.1 d_T_hasRangeWith_20 rfl (lv_at hl 1 rfl) k) ?_
      refine x_go (pc' := 22) (st' := [va_rf r2, va_rf r3]) (fun hC _ _ _ _ _ _ hl k => lv_aload_nq (r := r2) hC.1 hC.2.1 d_T_hasRangeWith_21 rfl (lv_at hl 0 rfl) k) ?_
      refine x_recv (ci := 0) (r := r3) (fun b1003 _ eb1003 gb1003 => ?_)
      refine x_callI (rest := []) (c_R_holds l B b1003 r2 h) (fun hC => fun e1 e2 e3 e4 hM => fun hR hsz hc hs => run_V (n := 1) hC lw_good rfl rfl tw_197 tw_198 tw_199 tw_5 tw_200 (by decide) d_T_hasRangeWith_22 gb1003 (by rw [e1]; exact Nat.le_of_ble_eq_true rfl) (by rw [e2]; exact Nat.le_of_ble_eq_true rfl) e3 e4 hM hR hsz hc hs rfl (by cases eb1003; rfl) (Nat.le_of_ble_eq_true rfl)) (fun x1002 h1001 => ?_)
      refine x_if (P := x1002 = 0) (pt := 30) (pf := 28) (st' := []) (fun hC _ _ _ _ _ _ kt kf => lv_if_eq (tgt := 30) hC.1 hC.2.1 d_T_hasRangeWith_25 (by decide) kt kf) ?_ ?_
      · refine x_go (pc' := 31) (st' := [va_rf r3]) (fun hC _ _ _ _ _ _ hl k => lv_aload_nq (r := r3) hC.1 hC.2.1 d_T_hasRangeWith_30 rfl (lv_at hl 1 rfl) k) ?_
        refine x_getR (ci := 0) (kf := 4) (r := r3) (fun hC => w_getN (host := "SerialDesk") hC iw_0 rfl 4 (by decide) (List.mem_of_getElem? (i := 1) rfl) rfl d_T_hasRangeWith_31) (fun r1004 => ?_)
        refine x_lift (pc' := 35) (st' := []) (lv' := [(3, va_rf r1004), (2, va_rf r2)]) (fun hC _ _ _ _ _ _ hl k => lv_astore_nq (r := r1004) (i := 3) hC.1 hC.2.1 d_T_hasRangeWith_34 rfl hl (by decide) (by simp [rf_cat, cat_i, cat_l, cat_r]) k) ?_
        refine x_go (pc' := 16) (st' := []) (fun hC _ _ _ _ _ _ hl k => lv_goto (tgt := 16) hC.1 hC.2.1 d_T_hasRangeWith_35 (by decide) k) ?_
        exact x_sub (lv' := [(2, va_rf r2), (3, va_rf r1004)]) [1, 0] rfl (ih r2 r1004 h1001)
      · refine x_go (pc' := 29) (st' := [.int (1 : Int32)]) (fun hC _ _ _ _ _ _ hl k => lv_iconst (v := 1) hC.1 hC.2.1 d_T_hasRangeWith_28 (by decide) k) ?_
        exact x_zret d_T_hasRangeWith_29
set_option maxHeartbeats 4000000 in
set_option maxRecDepth 100000 in
theorem c_T_hasRangeWith (l : Launch) (B : AB) (a0 : Nat) (x1 : Int32) (r2 : Option Nat) (h : AH) : CT l B y_T_hasRangeWith (Cond.code y_T_hasRangeWith b_T_hasRangeWith 4 (Option.some Jvm.ClassFile.FieldType.boolean) :: lw_tt) 3 66 eI [.ref a0, .int x1, va_rf r2] h (f_T_hasRangeWith a0 x1 r2 h) := by
  refine ct_of (own := o_T) (nm := "hasRangeWith") (by decide +kernel) rfl rfl (by simp [lg_sl, rf_cat, cat_i, cat_l, cat_r]) (fun p e k1 k2 s m args below meth c => ?_)
  refine x_sub (lv' := [(0, .ref a0), (1, .int x1), (2, va_rf r2)]) [0, 1, 2] (by simp [lv_pick, lv_args, rf_cat, cat_i, cat_l, cat_r]) ?_
  unfold f_T_hasRangeWith
  refine x_go (pc' := 1) (st' := [.int x1]) (fun hC _ _ _ _ _ _ hl k => lv_iload_n hC.1 hC.2.1 d_T_hasRangeWith_0 rfl (lv_at hl 1 rfl) k) ?_
  refine x_callI (rest := []) (c_D_isTable l B x1 h) (fun hC => fun e1 e2 e3 e4 hM => fun hR hsz hc hs => run_SN (host := "SerialDesk") (n := 1) hC lw_good (List.mem_of_getElem? (i := 1) rfl) tw_111 tw_1 tw_112 (by decide) d_T_hasRangeWith_1 (by rw [e1]; exact Nat.le_of_ble_eq_true rfl) (by rw [e2]; exact Nat.le_of_ble_eq_true rfl) e3 e4 hM hR hsz hc hs rfl rfl (Nat.le_of_ble_eq_true rfl)) (fun x102 h101 => ?_)
  refine x_if (P := x102 = 0) (pt := 7) (pf := 9) (st' := []) (fun hC _ _ _ _ _ _ kt kf => lv_if_ne (tgt := 9) hC.1 hC.2.1 d_T_hasRangeWith_4 (by decide) kf kt) ?_ ?_
  · refine x_go (pc' := 8) (st' := [.int (0 : Int32)]) (fun hC _ _ _ _ _ _ hl k => lv_iconst (v := 0) hC.1 hC.2.1 d_T_hasRangeWith_7 (by decide) k) ?_
    exact x_zret d_T_hasRangeWith_8
  · refine x_go (pc' := 10) (st' := [.ref a0]) (fun hC _ _ _ _ _ _ hl k => lv_aload_n hC.1 hC.2.1 d_T_hasRangeWith_9 rfl (lv_at hl 0 rfl) k) ?_
    refine x_getR (ci := 1) (kf := 7) (r := (some a0)) (fun hC => w_get hC iw_1 rfl 7 (by decide) tw_80 rfl d_T_hasRangeWith_10) (fun r103 => ?_)
    refine x_go (pc' := 14) (st' := [.int x1, va_rf r103]) (fun hC _ _ _ _ _ _ hl k => lv_iload_n hC.1 hC.2.1 d_T_hasRangeWith_13 rfl (lv_at hl 1 rfl) k) ?_
    refine x_aald (t := 3) rfl rfl (r := r103) (i := x1) d_T_hasRangeWith_14 (fun r104 => ?_)
    refine x_lift (pc' := 16) (st' := []) (lv' := [(3, va_rf r104), (0, .ref a0), (1, .int x1), (2, va_rf r2)]) (fun hC _ _ _ _ _ _ hl k => lv_astore_nq (r := r104) (i := 3) hC.1 hC.2.1 d_T_hasRangeWith_15 rfl hl (by decide) (by simp [rf_cat, cat_i, cat_l, cat_r]) k) ?_
    exact x_sub (lv' := [(2, va_rf r2), (3, va_rf r104)]) [3, 0] rfl (x_T_hasRangeWith_b16 2000 r2 r104 h101)
/-! SerialDesk$Transaction.isConcurrentWith(LSerialDesk$Transaction;)Z -/
theorem d_T_isConcurrentWith_0 : decode b_T_isConcurrentWith 0 = .ok (.aload_n 0, 1) := by decide +kernel
theorem d_T_isConcurrentWith_1 : decode b_T_isConcurrentWith 1 = .ok (.invokevirtual 45, 3) := by decide +kernel
theorem d_T_isConcurrentWith_4 : decode b_T_isConcurrentWith 4 = .ok (.ifCond .ne 14, 3) := by decide +kernel
theorem d_T_isConcurrentWith_7 : decode b_T_isConcurrentWith 7 = .ok (.aload_n 0, 1) := by decide +kernel
theorem d_T_isConcurrentWith_8 : decode b_T_isConcurrentWith 8 = .ok (.getfield 21, 3) := by decide +kernel
theorem d_T_isConcurrentWith_11 : decode b_T_isConcurrentWith 11 = .ok (.aload_n 1, 1) := by decide +kernel
theorem d_T_isConcurrentWith_12 : decode b_T_isConcurrentWith 12 = .ok (.getfield 18, 3) := by decide +kernel
theorem d_T_isConcurrentWith_15 : decode b_T_isConcurrentWith 15 = .ok (.if_icmp .le 7, 3) := by decide +kernel
theorem d_T_isConcurrentWith_18 : decode b_T_isConcurrentWith 18 = .ok (.iconst 1, 1) := by decide +kernel
theorem d_T_isConcurrentWith_19 : decode b_T_isConcurrentWith 19 = .ok (.goto 4, 3) := by decide +kernel
theorem d_T_isConcurrentWith_22 : decode b_T_isConcurrentWith 22 = .ok (.iconst 0, 1) := by decide +kernel
theorem d_T_isConcurrentWith_23 : decode b_T_isConcurrentWith 23 = .ok (.ireturn, 1) := by decide +kernel
abbrev X_T_isConcurrentWith (p : Program) (l : Launch) (e : Env) (k1 k2 : Nat) (s : State) (m : MethodId) (args : Array Value) (below : List Frame) (meth : Method) (c : Code) (B : AB) (n0 m0 : Nat) (h : AH) (pc : Nat) (lv : List (Nat × Value)) (st : List Value) (comp : Option (Int32 × AH)) : Prop := XX p l e { frames := 1, cells := k1, slots := k2, locals := 20 } s m args below meth c b_T_isConcurrentWith o_T lw_tt 2 (Option.some Jvm.ClassFile.FieldType.boolean) "isConcurrentWith" B n0 m0 (QM B below args s { frames := 1, cells := k1, slots := k2, locals := 20 } eI) h pc lv st comp
def f_T_isConcurrentWith (a0 : Nat) (r1 : Option Nat) (h : AH) : Option (Int32 × AH) := rcv h 1 (some a0) (fun b103 => bnd (f_T_isRunning b103 h) (fun x102 h101 => (if x102 = 0 then (fI h101 1 3 (some a0)).bind (fun x104 => (fI h101 1 2 r1).bind (fun x105 => (if x104 ≤ x105 then rZ (0 : Int32) h101 else rZ (1 : Int32) h101))) else rZ (1 : Int32) h101)))
set_option maxHeartbeats 4000000 in
set_option maxRecDepth 100000 in
theorem c_T_isConcurrentWith (l : Launch) (B : AB) (a0 : Nat) (r1 : Option Nat) (h : AH) : CT l B y_T_isConcurrentWith (Cond.code y_T_isConcurrentWith b_T_isConcurrentWith 2 (Option.some Jvm.ClassFile.FieldType.boolean) :: lw_tt) 1 20 eI [.ref a0, va_rf r1] h (f_T_isConcurrentWith a0 r1 h) := by
  refine ct_of (own := o_T) (nm := "isConcurrentWith") (by decide +kernel) rfl rfl (by simp [lg_sl, rf_cat, cat_i, cat_l, cat_r]) (fun p e k1 k2 s m args below meth c => ?_)
  refine x_sub (lv' := [(0, .ref a0), (1, va_rf r1)]) [0, 1] (by simp [lv_pick, lv_args, rf_cat, cat_i, cat_l, cat_r]) ?_
  unfold f_T_isConcurrentWith
  refine x_go (pc' := 1) (st' := [.ref a0]) (fun hC _ _ _ _ _ _ hl k => lv_aload_n hC.1 hC.2.1 d_T_isConcurrentWith_0 rfl (lv_at hl 0 rfl) k) ?_
  refine x_recv (ci := 1) (r := (some a0)) (fun b103 _ eb103 gb103 => ?_)
  refine x_callI (rest := []) (c_T_isRunning l B b103 h) (fun hC => fun e1 e2 e3 e4 hM => fun hR hsz hc hs => run_V (n := 0) hC lw_good rfl rfl tw_189 tw_190 tw_191 tw_4 tw_192 (by decide) d_T_isConcurrentWith_1 gb103 (by rw [e1]; exact Nat.le_of_ble_eq_true rfl) (by rw [e2]; exact Nat.le_of_ble_eq_true rfl) e3 e4 hM hR hsz hc hs rfl (by cases eb103; rfl) (Nat.le_of_ble_eq_true rfl)) (fun x102 h101 => ?_)
  refine x_if (P := x102 = 0) (pt := 7) (pf := 18) (st' := []) (fun hC _ _ _ _ _ _ kt kf => lv_if_ne (tgt := 18) hC.1 hC.2.1 d_T_isConcurrentWith_4 (by decide) kf kt) ?_ ?_
  · refine x_go (pc' := 8) (st' := [.ref a0]) (fun hC _ _ _ _ _ _ hl k => lv_aload_n hC.1 hC.2.1 d_T_isConcurrentWith_7 rfl (lv_at hl 0 rfl) k) ?_
    refine x_getI (ci := 1) (kf := 3) (r := (some a0)) (fun hC => w_get hC iw_1 rfl 3 (by decide) tw_73 rfl d_T_isConcurrentWith_8) (fun x104 => ?_)
    refine x_go (pc' := 12) (st' := [va_rf r1, .int x104]) (fun hC _ _ _ _ _ _ hl k => lv_aload_nq (r := r1) hC.1 hC.2.1 d_T_isConcurrentWith_11 rfl (lv_at hl 1 rfl) k) ?_
    refine x_getI (ci := 1) (kf := 2) (r := r1) (fun hC => w_get hC iw_1 rfl 2 (by decide) tw_71 rfl d_T_isConcurrentWith_12) (fun x105 => ?_)
    refine x_if (P := x104 ≤ x105) (pt := 22) (pf := 18) (st' := []) (fun hC _ _ _ _ _ _ kt kf => lv_icmp_le (tgt := 22) hC.1 hC.2.1 d_T_isConcurrentWith_15 (by decide) kt kf) ?_ ?_
    · refine x_go (pc' := 23) (st' := [.int (0 : Int32)]) (fun hC _ _ _ _ _ _ hl k => lv_iconst (v := 0) hC.1 hC.2.1 d_T_isConcurrentWith_22 (by decide) k) ?_
      exact x_zret d_T_isConcurrentWith_23
    · refine x_go (pc' := 19) (st' := [.int (1 : Int32)]) (fun hC _ _ _ _ _ _ hl k => lv_iconst (v := 1) hC.1 hC.2.1 d_T_isConcurrentWith_18 (by decide) k) ?_
      refine x_go (pc' := 23) (st' := [.int (1 : Int32)]) (fun hC _ _ _ _ _ _ hl k => lv_goto (tgt := 23) hC.1 hC.2.1 d_T_isConcurrentWith_19 (by decide) k) ?_
      exact x_zret d_T_isConcurrentWith_23
  · refine x_go (pc' := 19) (st' := [.int (1 : Int32)]) (fun hC _ _ _ _ _ _ hl k => lv_iconst (v := 1) hC.1 hC.2.1 d_T_isConcurrentWith_18 (by decide) k) ?_
    refine x_go (pc' := 23) (st' := [.int (1 : Int32)]) (fun hC _ _ _ _ _ _ hl k => lv_goto (tgt := 23) hC.1 hC.2.1 d_T_isConcurrentWith_19 (by decide) k) ?_
    exact x_zret d_T_isConcurrentWith_23
/-! SerialDesk$Transaction.noteCommitPointedAt(I)V -/
theorem d_T_noteCommitPointedAt_0 : decode b_T_noteCommitPointedAt 0 = .ok (.aload_n 0, 1) := by decide +kernel
theorem d_T_noteCommitPointedAt_1 : decode b_T_noteCommitPointedAt 1 = .ok (.getfield 32, 3) := by decide +kernel
theorem d_T_noteCommitPointedAt_4 : decode b_T_noteCommitPointedAt 4 = .ok (.ifCond .eq 11, 3) := by decide +kernel
theorem d_T_noteCommitPointedAt_7 : decode b_T_noteCommitPointedAt 7 = .ok (.iload_n 1, 1) := by decide +kernel
theorem d_T_noteCommitPointedAt_8 : decode b_T_noteCommitPointedAt 8 = .ok (.aload_n 0, 1) := by decide +kernel
theorem d_T_noteCommitPointedAt_9 : decode b_T_noteCommitPointedAt 9 = .ok (.getfield 32, 3) := by decide +kernel
theorem d_T_noteCommitPointedAt_12 : decode b_T_noteCommitPointedAt 12 = .ok (.if_icmp .ge 8, 3) := by decide +kernel
theorem d_T_noteCommitPointedAt_15 : decode b_T_noteCommitPointedAt 15 = .ok (.aload_n 0, 1) := by decide +kernel
theorem d_T_noteCommitPointedAt_16 : decode b_T_noteCommitPointedAt 16 = .ok (.iload_n 1, 1) := by decide +kernel
theorem d_T_noteCommitPointedAt_17 : decode b_T_noteCommitPointedAt 17 = .ok (.putfield 32, 3) := by decide +kernel
theorem d_T_noteCommitPointedAt_20 : decode b_T_noteCommitPointedAt 20 = .ok (.return_, 1) := by decide +kernel
abbrev X_T_noteCommitPointedAt (p : Program) (l : Launch) (e : Env) (k1 k2 : Nat) (s : State) (m : MethodId) (args : Array Value) (below : List Frame) (meth : Method) (c : Code) (B : AB) (n0 m0 : Nat) (h : AH) (pc : Nat) (lv : List (Nat × Value)) (st : List Value) (comp : Option (Unit × AH)) : Prop := XX p l e { frames := 0, cells := k1, slots := k2, locals := 0 } s m args below meth c b_T_noteCommitPointedAt o_T lw_tt 2 (Option.none : Option Jvm.ClassFile.FieldType) "noteCommitPointedAt" B n0 m0 (QM B below args s { frames := 0, cells := k1, slots := k2, locals := 0 } eU) h pc lv st comp
def f_T_noteCommitPointedAt_b15 (a0 : Nat) (x1 : Int32) (h : AH) : Option (Unit × AH) := (pF h 1 6 (some a0) (.int x1)).bind (fun h1001 => some ((), h1001))
def f_T_noteCommitPointedAt (a0 : Nat) (x1 : Int32) (h : AH) : Option (Unit × AH) := (fI h 1 6 (some a0)).bind (fun x101 => (if x101 = 0 then f_T_noteCommitPointedAt_b15 a0 x1 h else (fI h 1 6 (some a0)).bind (fun x102 => (if x102 ≤ x1 then some ((), h) else f_T_noteCommitPointedAt_b15 a0 x1 h))))
set_option maxHeartbeats 4000000 in
set_option maxRecDepth 100000 in
theorem x_T_noteCommitPointedAt_b15 {p : Program} {l : Launch} {e : Env} {k1 k2 : Nat} {s : State} {m : MethodId} {args : Array Value} {below : List Frame} {meth : Method} {c : Code} {B : AB} {n0 m0 : Nat} (a0 : Nat) (x1 : Int32) (h : AH) : X_T_noteCommitPointedAt p l e k1 k2 s m args below meth c B n0 m0 h 15 [(0, .ref a0), (1, .int x1)] [] (f_T_noteCommitPointedAt_b15 a0 x1 h) := by
  unfold f_T_noteCommitPointedAt_b15
  refine x_go (pc' := 16) (st' := [.ref a0]) (fun hC _ _ _ _ _ _ hl k => lv_aload_n hC.1 hC.2.1 d_T_noteCommitPointedAt_15 rfl (lv_at hl 0 rfl) k) ?_
  refine x_go (pc' := 17) (st' := [.int x1, .ref a0]) (fun hC _ _ _ _ _ _ hl k => lv_iload_n hC.1 hC.2.1 d_T_noteCommitPointedAt_16 rfl (lv_at hl 1 rfl) k) ?_
  refine x_putF (ci := 1) (kf := 6) (r := (some a0)) (v := .int x1) (fun hC => w_put (ty := .int) hC iw_1 ft_1 ft_1_ok fn_1 rfl 6 (by decide) tw_78 rfl rfl (by decide +kernel) rfl rfl d_T_noteCommitPointedAt_17) (fun h1001 => ?_)
  exact x_vret d_T_noteCommitPointedAt_20
set_option maxHeartbeats 4000000 in
set_option maxRecDepth 100000 in
theorem c_T_noteCommitPointedAt (l : Launch) (B : AB) (a0 : Nat) (x1 : Int32) (h : AH) : CT l B y_T_noteCommitPointedAt (Cond.code y_T_noteCommitPointedAt b_T_noteCommitPointedAt 2 (Option.none : Option Jvm.ClassFile.FieldType) :: lw_tt) 0 0 eU [.ref a0, .int x1] h (f_T_noteCommitPointedAt a0 x1 h) := by
  refine ct_of (own := o_T) (nm := "noteCommitPointedAt") (by decide +kernel) rfl rfl (Nat.le_of_ble_eq_true rfl) (fun p e k1 k2 s m args below meth c => ?_)
  refine x_sub (lv' := [(0, .ref a0), (1, .int x1)]) [0, 1] rfl ?_
  unfold f_T_noteCommitPointedAt
  refine x_go (pc' := 1) (st' := [.ref a0]) (fun hC _ _ _ _ _ _ hl k => lv_aload_n hC.1 hC.2.1 d_T_noteCommitPointedAt_0 rfl (lv_at hl 0 rfl) k) ?_
  refine x_getI (ci := 1) (kf := 6) (r := (some a0)) (fun hC => w_get hC iw_1 rfl 6 (by decide) tw_78 rfl d_T_noteCommitPointedAt_1) (fun x101 => ?_)
  refine x_if (P := x101 = 0) (pt := 15) (pf := 7) (st' := []) (fun hC _ _ _ _ _ _ kt kf => lv_if_eq (tgt := 15) hC.1 hC.2.1 d_T_noteCommitPointedAt_4 (by decide) kt kf) ?_ ?_
  · exact x_sub (lv' := [(0, .ref a0), (1, .int x1)]) [0, 1] rfl (x_T_noteCommitPointedAt_b15 a0 x1 h)
  · refine x_go (pc' := 8) (st' := [.int x1]) (fun hC _ _ _ _ _ _ hl k => lv_iload_n hC.1 hC.2.1 d_T_noteCommitPointedAt_7 rfl (lv_at hl 1 rfl) k) ?_
    refine x_go (pc' := 9) (st' := [.ref a0, .int x1]) (fun hC _ _ _ _ _ _ hl k => lv_aload_n hC.1 hC.2.1 d_T_noteCommitPointedAt_8 rfl (lv_at hl 0 rfl) k) ?_
    refine x_getI (ci := 1) (kf := 6) (r := (some a0)) (fun hC => w_get hC iw_1 rfl 6 (by decide) tw_78 rfl d_T_noteCommitPointedAt_9) (fun x102 => ?_)
    refine x_if (P := x102 ≤ x1) (pt := 20) (pf := 15) (st' := []) (fun hC _ _ _ _ _ _ kt kf => lv_icmp_ge (tgt := 20) hC.1 hC.2.1 d_T_noteCommitPointedAt_12 (by decide) kt kf) ?_ ?_
    · exact x_vret d_T_noteCommitPointedAt_20
    · exact x_sub (lv' := [(0, .ref a0), (1, .int x1)]) [0, 1] rfl (x_T_noteCommitPointedAt_b15 a0 x1 h)
/-! SerialDesk$Transaction.pointAt(LSerialDesk$Transaction;)V -/
theorem d_T_pointAt_0 : decode b_T_pointAt 0 = .ok (.aload_n 0, 1) := by decide +kernel
theorem d_T_pointAt_1 : decode b_T_pointAt 1 = .ok (.dup, 1) := by decide +kernel
theorem d_T_pointAt_2 : decode b_T_pointAt 2 = .ok (.getfield 28, 3) := by decide +kernel
theorem d_T_pointAt_5 : decode b_T_pointAt 5 = .ok (.lconst 1, 1) := by decide +kernel
theorem d_T_pointAt_6 : decode b_T_pointAt 6 = .ok (.aload_n 1, 1) := by decide +kernel
theorem d_T_pointAt_7 : decode b_T_pointAt 7 = .ok (.getfield 15, 3) := by decide +kernel
theorem d_T_pointAt_10 : decode b_T_pointAt 10 = .ok (.lshl, 1) := by decide +kernel
theorem d_T_pointAt_11 : decode b_T_pointAt 11 = .ok (.lor, 1) := by decide +kernel
theorem d_T_pointAt_12 : decode b_T_pointAt 12 = .ok (.putfield 28, 3) := by decide +kernel
theorem d_T_pointAt_15 : decode b_T_pointAt 15 = .ok (.aload_n 1, 1) := by decide +kernel
theorem d_T_pointAt_16 : decode b_T_pointAt 16 = .ok (.invokevirtual 45, 3) := by decide +kernel
theorem d_T_pointAt_19 : decode b_T_pointAt 19 = .ok (.ifCond .ne 11, 3) := by decide +kernel
theorem d_T_pointAt_22 : decode b_T_pointAt 22 = .ok (.aload_n 0, 1) := by decide +kernel
theorem d_T_pointAt_23 : decode b_T_pointAt 23 = .ok (.aload_n 1, 1) := by decide +kernel
theorem d_T_pointAt_24 : decode b_T_pointAt 24 = .ok (.getfield 21, 3) := by decide +kernel
theorem d_T_pointAt_27 : decode b_T_pointAt 27 = .ok (.invokevirtual 49, 3) := by decide +kernel
theorem d_T_pointAt_30 : decode b_T_pointAt 30 = .ok (.return_, 1) := by decide +kernel
abbrev X_T_pointAt (p : Program) (l : Launch) (e : Env) (k1 k2 : Nat) (s : State) (m : MethodId) (args : Array Value) (below : List Frame) (meth : Method) (c : Code) (B : AB) (n0 m0 : Nat) (h : AH) (pc : Nat) (lv : List (Nat × Value)) (st : List Value) (comp : Option (Unit × AH)) : Prop := XX p l e { frames := 1, cells := k1, slots := k2, locals := 21 } s m args below meth c b_T_pointAt o_T lw_tt 2 (Option.none : Option Jvm.ClassFile.FieldType) "pointAt" B n0 m0 (QM B below args s { frames := 1, cells := k1, slots := k2, locals := 21 } eU) h pc lv st comp
def f_T_pointAt (a0 : Nat) (r1 : Option Nat) (h : AH) : Option (Unit × AH) := (fL h 1 5 (some a0)).bind (fun x101 => (fI h 1 1 r1).bind (fun x102 => (pF h 1 5 (some a0) (.long (x101 ||| ((1 : Int64) <<< (Int32.toInt64 x102 &&& 63))))).bind (fun h103 => rcv h103 1 r1 (fun b106 => bnd (f_T_isRunning b106 h103) (fun x105 h104 => (if x105 = 0 then (fI h104 1 3 r1).bind (fun x107 => rcv h104 1 (some a0) (fun b109 => bndU (f_T_noteCommitPointedAt b109 x107 h104) (fun h108 => some ((), h108)))) else some ((), h104)))))))
set_option maxHeartbeats 4000000 in
set_option maxRecDepth 100000 in
theorem c_T_pointAt (l : Launch) (B : AB) (a0 : Nat) (r1 : Option Nat) (h : AH) : CT l B y_T_pointAt (Cond.code y_T_pointAt b_T_pointAt 2 (Option.none : Option Jvm.ClassFile.FieldType) :: lw_tt) 1 21 eU [.ref a0, va_rf r1] h (f_T_pointAt a0 r1 h) := by
  refine ct_of (own := o_T) (nm := "pointAt") (by decide +kernel) rfl rfl (by simp [lg_sl, rf_cat, cat_i, cat_l, cat_r]) (fun p e k1 k2 s m args below meth c => ?_)
  refine x_sub (lv' := [(0, .ref a0), (1, va_rf r1)]) [0, 1] (by simp [lv_pick, lv_args, rf_cat, cat_i, cat_l, cat_r]) ?_
  unfold f_T_pointAt
  refine x_go (pc' := 1) (st' := [.ref a0]) (fun hC _ _ _ _ _ _ hl k => lv_aload_n hC.1 hC.2.1 d_T_pointAt_0 rfl (lv_at hl 0 rfl) k) ?_
  refine x_go (pc' := 2) (st' := [.ref a0, .ref a0]) (fun hC _ _ _ _ _ _ hl k => lv_dup hC.1 hC.2.1 d_T_pointAt_1 rfl k) ?_
  refine x_getL (ci := 1) (kf := 5) (r := (some a0)) (fun hC => w_get hC iw_1 rfl 5 (by decide) tw_77 rfl d_T_pointAt_2) (fun x101 => ?_)
  refine x_go (pc' := 6) (st' := [.long (1 : Int64), .long x101, .ref a0]) (fun hC _ _ _ _ _ _ hl k => lv_lconst (v := 1) hC.1 hC.2.1 d_T_pointAt_5 (by decide) k) ?_
  refine x_go (pc' := 7) (st' := [va_rf r1, .long (1 : Int64), .long x101, .ref a0]) (fun hC _ _ _ _ _ _ hl k => lv_aload_nq (r := r1) hC.1 hC.2.1 d_T_pointAt_6 rfl (lv_at hl 1 rfl) k) ?_
  refine x_getI (ci := 1) (kf := 1) (r := r1) (fun hC => w_get hC iw_1 rfl 1 (by decide) tw_70 rfl d_T_pointAt_7) (fun x102 => ?_)
  refine x_go (pc' := 11) (st' := [.long ((1 : Int64) <<< (Int32.toInt64 x102 &&& 63)), .long x101, .ref a0]) (fun hC _ _ _ _ _ _ hl k => lv_lshl hC.1 hC.2.1 d_T_pointAt_10 rfl k) ?_
  refine x_go (pc' := 12) (st' := [.long (x101 ||| ((1 : Int64) <<< (Int32.toInt64 x102 &&& 63))), .ref a0]) (fun hC _ _ _ _ _ _ hl k => lv_lor hC.1 hC.2.1 d_T_pointAt_11 k) ?_
  refine x_putF (ci := 1) (kf := 5) (r := (some a0)) (v := .long (x101 ||| ((1 : Int64) <<< (Int32.toInt64 x102 &&& 63)))) (fun hC => w_put (ty := .long) hC iw_1 ft_1 ft_1_ok fn_1 rfl 5 (by decide) tw_77 rfl rfl (by decide +kernel) rfl rfl d_T_pointAt_12) (fun h103 => ?_)
  refine x_go (pc' := 16) (st' := [va_rf r1]) (fun hC _ _ _ _ _ _ hl k => lv_aload_nq (r := r1) hC.1 hC.2.1 d_T_pointAt_15 rfl (lv_at hl 1 rfl) k) ?_
  refine x_recv (ci := 1) (r := r1) (fun b106 _ eb106 gb106 => ?_)
  refine x_callI (rest := []) (c_T_isRunning l B b106 h103) (fun hC => fun e1 e2 e3 e4 hM => fun hR hsz hc hs => run_V (n := 0) hC lw_good rfl rfl tw_189 tw_190 tw_191 tw_4 tw_192 (by decide) d_T_pointAt_16 gb106 (by rw [e1]; exact Nat.le_of_ble_eq_true rfl) (by rw [e2]; exact Nat.le_of_ble_eq_true rfl) e3 e4 hM hR hsz hc hs rfl (by cases eb106; rfl) (Nat.le_of_ble_eq_true rfl)) (fun x105 h104 => ?_)
  refine x_if (P := x105 = 0) (pt := 22) (pf := 30) (st' := []) (fun hC _ _ _ _ _ _ kt kf => lv_if_ne (tgt := 30) hC.1 hC.2.1 d_T_pointAt_19 (by decide) kf kt) ?_ ?_
  · refine x_go (pc' := 23) (st' := [.ref a0]) (fun hC _ _ _ _ _ _ hl k => lv_aload_n hC.1 hC.2.1 d_T_pointAt_22 rfl (lv_at hl 0 rfl) k) ?_
    refine x_go (pc' := 24) (st' := [va_rf r1, .ref a0]) (fun hC _ _ _ _ _ _ hl k => lv_aload_nq (r := r1) hC.1 hC.2.1 d_T_pointAt_23 rfl (lv_at hl 1 rfl) k) ?_
    refine x_getI (ci := 1) (kf := 3) (r := r1) (fun hC => w_get hC iw_1 rfl 3 (by decide) tw_73 rfl d_T_pointAt_24) (fun x107 => ?_)
    refine x_recv (ci := 1) (r := (some a0)) (fun b109 _ eb109 gb109 => ?_)
    refine x_callU (rest := []) (c_T_noteCommitPointedAt l B b109 x107 h104) (fun hC => fun e1 e2 e3 e4 hM => fun hR hsz hc hs => run_V (n := 1) hC lw_good rfl rfl tw_222 tw_223 tw_224 tw_4 tw_225 (by decide) d_T_pointAt_27 gb109 (by rw [e1]; exact Nat.le_of_ble_eq_true rfl) (by rw [e2]; exact Nat.le_of_ble_eq_true rfl) e3 e4 hM hR hsz hc hs rfl (by cases eb109; rfl) (Nat.le_of_ble_eq_true rfl)) (fun h108 => ?_)
    exact x_vret d_T_pointAt_30
  · exact x_vret d_T_pointAt_30
/-! SerialDesk.write(II)Z -/
theorem d_D_write_0 : decode b_D_write 0 = .ok (.aload_n 0, 1) := by decide +kernel
theorem d_D_write_1 : decode b_D_write 1 = .ok (.iload_n 1, 1) := by decide +kernel
theorem d_D_write_2 : decode b_D_write 2 = .ok (.invokevirtual 49, 3) := by decide +kernel
theorem d_D_write_5 : decode b_D_write 5 = .ok (.astore_n 3, 1) := by decide +kernel
theorem d_D_write_6 : decode b_D_write 6 = .ok (.aload_n 3, 1) := by decide +kernel
theorem d_D_write_7 : decode b_D_write 7 = .ok (.ifnull 10, 3) := by decide +kernel
theorem d_D_write_10 : decode b_D_write 10 = .ok (.iload_n 2, 1) := by decide +kernel
theorem d_D_write_11 : decode b_D_write 11 = .ok (.invokestatic 53, 3) := by decide +kernel
theorem d_D_write_14 : decode b_D_write 14 = .ok (.ifCond .ne 5, 3) := by decide +kernel
theorem d_D_write_17 : decode b_D_write 17 = .ok (.iconst 0, 1) := by decide +kernel
theorem d_D_write_18 : decode b_D_write 18 = .ok (.ireturn, 1) := by decide +kernel
theorem d_D_write_19 : decode b_D_write 19 = .ok (.iconst 0, 1) := by decide +kernel
theorem d_D_write_20 : decode b_D_write 20 = .ok (.istore 4, 2) := by decide +kernel
theorem d_D_write_22 : decode b_D_write 22 = .ok (.iload 4, 2) := by decide +kernel
theorem d_D_write_24 : decode b_D_write 24 = .ok (.aload_n 0, 1) := by decide +kernel
theorem d_D_write_25 : decode b_D_write 25 = .ok (.getfield 22, 3) := by decide +kernel
theorem d_D_write_28 : decode b_D_write 28 = .ok (.arraylength, 1) := by decide +kernel
theorem d_D_write_29 : decode b_D_write 29 = .ok (.if_icmp .ge 71, 3) := by decide +kernel
theorem d_D_write_32 : decode b_D_write 32 = .ok (.aload_n 0, 1) := by decide +kernel
theorem d_D_write_33 : decode b_D_write 33 = .ok (.getfield 22, 3) := by decide +kernel
theorem d_D_write_36 : decode b_D_write 36 = .ok (.iload 4, 2) := by decide +kernel
theorem d_D_write_38 : decode b_D_write 38 = .ok (.aaload, 1) := by decide +kernel
theorem d_D_write_39 : decode b_D_write 39 = .ok (.astore 5, 2) := by decide +kernel
theorem d_D_write_41 : decode b_D_write 41 = .ok (.aload 5, 2) := by decide +kernel
theorem d_D_write_43 : decode b_D_write 43 = .ok (.ifnull 51, 3) := by decide +kernel
theorem d_D_write_46 : decode b_D_write 46 = .ok (.aload 5, 2) := by decide +kernel
theorem d_D_write_48 : decode b_D_write 48 = .ok (.aload_n 3, 1) := by decide +kernel
theorem d_D_write_49 : decode b_D_write 49 = .ok (.if_acmp .eq 45, 3) := by decide +kernel
theorem d_D_write_52 : decode b_D_write 52 = .ok (.aload 5, 2) := by decide +kernel
theorem d_D_write_54 : decode b_D_write 54 = .ok (.aload_n 3, 1) := by decide +kernel
theorem d_D_write_55 : decode b_D_write 55 = .ok (.invokevirtual 79, 3) := by decide +kernel
theorem d_D_write_58 : decode b_D_write 58 = .ok (.ifCond .eq 36, 3) := by decide +kernel
theorem d_D_write_61 : decode b_D_write 61 = .ok (.aload 5, 2) := by decide +kernel
theorem d_D_write_63 : decode b_D_write 63 = .ok (.iload_n 2, 1) := by decide +kernel
theorem d_D_write_64 : decode b_D_write 64 = .ok (.aload_n 0, 1) := by decide +kernel
theorem d_D_write_65 : decode b_D_write 65 = .ok (.getfield 12, 3) := by decide +kernel
theorem d_D_write_68 : decode b_D_write 68 = .ok (.invokevirtual 83, 3) := by decide +kernel
theorem d_D_write_71 : decode b_D_write 71 = .ok (.ifCond .eq 23, 3) := by decide +kernel
theorem d_D_write_74 : decode b_D_write 74 = .ok (.aload 5, 2) := by decide +kernel
theorem d_D_write_76 : decode b_D_write 76 = .ok (.aload_n 3, 1) := by decide +kernel
theorem d_D_write_77 : decode b_D_write 77 = .ok (.invokevirtual 87, 3) := by decide +kernel
theorem d_D_write_80 : decode b_D_write 80 = .ok (.aload 5, 2) := by decide +kernel
theorem d_D_write_82 : decode b_D_write 82 = .ok (.aload_n 3, 1) := by decide +kernel
theorem d_D_write_83 : decode b_D_write 83 = .ok (.invokestatic 91, 3) := by decide +kernel
theorem d_D_write_86 : decode b_D_write 86 = .ok (.ifCond .eq 8, 3) := by decide +kernel
theorem d_D_write_89 : decode b_D_write 89 = .ok (.aload_n 3, 1) := by decide +kernel
theorem d_D_write_90 : decode b_D_write 90 = .ok (.iconst 1, 1) := by decide +kernel
theorem d_D_write_91 : decode b_D_write 91 = .ok (.putfield 95, 3) := by decide +kernel
theorem d_D_write_94 : decode b_D_write 94 = .ok (.iinc 4 1, 3) := by decide +kernel
theorem d_D_write_97 : decode b_D_write 97 = .ok (.goto (-75), 3) := by decide +kernel
theorem d_D_write_100 : decode b_D_write 100 = .ok (.aload_n 3, 1) := by decide +kernel
theorem d_D_write_101 : decode b_D_write 101 = .ok (.getfield 95, 3) := by decide +kernel
theorem d_D_write_104 : decode b_D_write 104 = .ok (.ireturn, 1) := by decide +kernel
abbrev X_D_write (p : Program) (l : Launch) (e : Env) (k1 k2 : Nat) (s : State) (m : MethodId) (args : Array Value) (below : List Frame) (meth : Method) (c : Code) (B : AB) (n0 m0 : Nat) (h : AH) (pc : Nat) (lv : List (Nat × Value)) (st : List Value) (comp : Option (Int32 × AH)) : Prop := XX p l e { frames := 4, cells := k1, slots := k2, locals := 89 } s m args below meth c b_D_write o_D lw_tt 6 (Option.some Jvm.ClassFile.FieldType.boolean) "write" B n0 m0 (QM B below args s { frames := 4, cells := k1, slots := k2, locals := 89 } eI) h pc lv st comp
def f_D_write_b22 : Nat → Nat → Int32 → Option Nat → Int32 → AH → Option (Int32 × AH)
  | 0, _, _, _, _, _ => none
  | n + 1, a0, x2, r3, x4, h => (fR h 3 2 (some a0)).bind (fun r1001 => (gN h 2 r1001).bind (fun x1002 => (if x1002 ≤ x4 then (fI h 1 4 r3).bind (fun x1003 => rZ x1003 h) else (fR h 3 2 (some a0)).bind (fun r1004 => (lR h 2 r1004 x4).bind (fun r1005 => (if r1005 = none then f_D_write_b22 n a0 x2 r3 (x4 + 1) h else (if r1005 = r3 then f_D_write_b22 n a0 x2 r3 (x4 + 1) h else rcv h 1 r1005 (fun b1008 => bnd (f_T_isConcurrentWith b1008 r3 h) (fun x1007 h1006 => (if x1007 = 0 then f_D_write_b22 n a0 x2 r3 (x4 + 1) h1006 else (fR h1006 3 0 (some a0)).bind (fun r1009 => rcv h1006 1 r1005 (fun b1012 => bnd (f_T_hasRangeWith b1012 x2 r1009 h1006) (fun x1011 h1010 => (if x1011 = 0 then f_D_write_b22 n a0 x2 r3 (x4 + 1) h1010 else rcv h1010 1 r1005 (fun b1014 => bndU (f_T_pointAt b1014 r3 h1010) (fun h1013 => bnd (f_D_isFirstOfDanger r1005 r3 h1013) (fun x1016 h1015 => (if x1016 = 0 then f_D_write_b22 n a0 x2 r3 (x4 + 1) h1015 else (pZ h1015 1 4 r3 (1 : Int32)).bind (fun h1017 => f_D_write_b22 n a0 x2 r3 (x4 + 1) h1017)))))))))))))))))))
def f_D_write (a0 : Nat) (x1 : Int32) (x2 : Int32) (h : AH) : Option (Int32 × AH) := rcv h 3 (some a0) (fun b103 => bnd (f_D_runningIn b103 x1 h) (fun r102 h101 => (if r102 = none then rZ (0 : Int32) h101 else bnd (f_D_isTable x2 h101) (fun x105 h104 => (if x105 = 0 then rZ (0 : Int32) h104 else f_D_write_b22 2000 a0 x2 r102 (0 : Int32) h104)))))
set_option maxHeartbeats 4000000 in
set_option maxRecDepth 100000 in
theorem x_D_write_b22 {p : Program} {l : Launch} {e : Env} {k1 k2 : Nat} {s : State} {m : MethodId} {args : Array Value} {below : List Frame} {meth : Method} {c : Code} {B : AB} {n0 m0 : Nat} : ∀ (n : Nat) (a0 : Nat) (x2 : Int32) (r3 : Option Nat) (x4 : Int32) (h : AH), X_D_write p l e k1 k2 s m args below meth c B n0 m0 h 22 [(0, .ref a0), (2, .int x2), (3, va_rf r3), (4, .int x4)] [] (f_D_write_b22 n a0 x2 r3 x4 h) := by
  intro n
  induction n with
  | zero => intro a0 x2 r3 x4 h; exact x_none
  | succ n ih =>
    intro a0 x2 r3 x4 h
    rw [f_D_write_b22]
    refine x_go (pc' := 24) (st' := [.int x4]) (fun hC _ _ _ _ _ _ hl k => lv_iload hC.1 hC.2.1 d_D_write_22 (lv_at hl 3 rfl) k) ?_
    refine x_go (pc' := 25) (st' := [.ref a0, .int x4]) (fun hC _ _ _ _ _ _ hl k => lv_aload_n hC.1 hC.2.1 d_D_write_24 rfl (lv_at hl 0 rfl) k) ?_
    refine x_getR (ci := 3) (kf := 2) (r := (some a0)) (fun hC => w_get hC iw_3 rfl 2 (by decide) tw_33 rfl d_D_write_25) (fun r1001 => ?_)
    refine x_alen (t := 2) rfl (r := r1001) d_D_write_28 (fun x1002 => ?_)
    refine x_if (P := x1002 ≤ x4) (pt := 100) (pf := 32) (st' := []) (fun hC _ _ _ _ _ _ kt kf => lv_icmp_ge (tgt := 100) hC.1 hC.2.1 d_D_write_29 (by decide) kt kf) ?_ ?_
    · refine x_go (pc' := 101) (st' := [va_rf r3]) (fun hC _ _ _ _ _ _ hl k => lv_aload_nq (r := r3) hC.1 hC.2.1 d_D_write_100 rfl (lv_at hl 2 rfl) k) ?_
      refine x_getI (ci := 1) (kf := 4) (r := r3) (fun hC => w_getN (host := "SerialDesk") hC iw_1 rfl 4 (by decide) (List.mem_of_getElem? (i := 3) rfl) rfl d_D_write_101) (fun x1003 => ?_)
      exact x_zret d_D_write_104
    · refine x_go (pc' := 33) (st' := [.ref a0]) (fun hC _ _ _ _ _ _ hl k => lv_aload_n hC.1 hC.2.1 d_D_write_32 rfl (lv_at hl 0 rfl) k) ?_
      refine x_getR (ci := 3) (kf := 2) (r := (some a0)) (fun hC => w_get hC iw_3 rfl 2 (by decide) tw_33 rfl d_D_write_33) (fun r1004 => ?_)
      refine x_go (pc' := 38) (st' := [.int x4, va_rf r1004]) (fun hC _ _ _ _ _ _ hl k => lv_iload hC.1 hC.2.1 d_D_write_36 (lv_at hl 3 rfl) k) ?_
      refine x_aald (t := 2) rfl rfl (r := r1004) (i := x4) d_D_write_38 (fun r1005 => ?_)
      refine x_lift (pc' := 41) (st' := []) (lv' := [(5, va_rf r1005), (0, .ref a0), (2, .int x2), (3, va_rf r3), (4, .int x4)]) (fun hC _ _ _ _ _ _ hl k => lv_astore_q (r := r1005) (i := 5) hC.1 hC.2.1 d_D_write_39 hl (by decide) rfl k) ?_
      refine x_go (pc' := 43) (st' := [va_rf r1005]) (fun hC _ _ _ _ _ _ hl k => lv_aload_q (r := r1005) hC.1 hC.2.1 d_D_write_41 (lv_at hl 0 rfl) k) ?_
      refine x_if (P := r1005 = none) (pt := 94) (pf := 46) (st' := []) (fun hC _ _ _ _ _ _ kt kf => lv_ifnull_q (r := r1005) (tgt := 94) hC.1 hC.2.1 d_D_write_43 (by decide) kt kf) ?_ ?_
      · refine x_lift (pc' := 97) (st' := []) (lv' := [(4, .int (x4 + 1)), (5, va_rf r1005), (0, .ref a0), (2, .int x2), (3, va_rf r3)]) (fun hC _ _ _ _ _ _ hl k => lv_iinc (v := (x4 + 1)) hC.1 hC.2.1 d_D_write_94 hl (k := 4) rfl rfl (by decide) (by simp [rf_cat, cat_i, cat_l, cat_r]) k) ?_
        refine x_go (pc' := 22) (st' := []) (fun hC _ _ _ _ _ _ hl k => lv_goto (tgt := 22) hC.1 hC.2.1 d_D_write_97 (by decide) k) ?_
        exact x_sub (lv' := [(0, .ref a0), (2, .int x2), (3, va_rf r3), (4, .int (x4 + 1))]) [2, 3, 4, 0] rfl (ih a0 x2 r3 (x4 + 1) h)
      · refine x_go (pc' := 48) (st' := [va_rf r1005]) (fun hC _ _ _ _ _ _ hl k => lv_aload_q (r := r1005) hC.1 hC.2.1 d_D_write_46 (lv_at hl 0 rfl) k) ?_
        refine x_go (pc' := 49) (st' := [va_rf r3, va_rf r1005]) (fun hC _ _ _ _ _ _ hl k => lv_aload_nq (r := r3) hC.1 hC.2.1 d_D_write_48 rfl (lv_at hl 3 rfl) k) ?_
        refine x_if (P := r1005 = r3) (pt := 94) (pf := 52) (st' := []) (fun hC _ _ _ _ _ _ kt kf => lv_acmp_eq (rx := r1005) (ry := r3) (tgt := 94) hC.1 hC.2.1 d_D_write_49 (by decide) kt kf) ?_ ?_
        · refine x_lift (pc' := 97) (st' := []) (lv' := [(4, .int (x4 + 1)), (5, va_rf r1005), (0, .ref a0), (2, .int x2), (3, va_rf r3)]) (fun hC _ _ _ _ _ _ hl k => lv_iinc (v := (x4 + 1)) hC.1 hC.2.1 d_D_write_94 hl (k := 4) rfl rfl (by decide) (by simp [rf_cat, cat_i, cat_l, cat_r]) k) ?_
          refine x_go (pc' := 22) (st' := []) (fun hC _ _ _ _ _ _ hl k => lv_goto (tgt := 22) hC.1 hC.2.1 d_D_write_97 (by decide) k) ?_
          exact x_sub (lv' := [(0, .ref a0), (2, .int x2), (3, va_rf r3), (4, .int (x4 + 1))]) [2, 3, 4, 0] rfl (ih a0 x2 r3 (x4 + 1) h)
        · refine x_go (pc' := 54) (st' := [va_rf r1005]) (fun hC _ _ _ _ _ _ hl k => lv_aload_q (r := r1005) hC.1 hC.2.1 d_D_write_52 (lv_at hl 0 rfl) k) ?_
          refine x_go (pc' := 55) (st' := [va_rf r3, va_rf r1005]) (fun hC _ _ _ _ _ _ hl k => lv_aload_nq (r := r3) hC.1 hC.2.1 d_D_write_54 rfl (lv_at hl 3 rfl) k) ?_
          refine x_recv (ci := 1) (r := r1005) (fun b1008 _ eb1008 gb1008 => ?_)
          refine x_callI (rest := []) (c_T_isConcurrentWith l B b1008 r3 h) (fun hC => fun e1 e2 e3 e4 hM => fun hR hsz hc hs => run_V (n := 1) hC lw_good rfl rfl tw_185 tw_186 tw_187 tw_4 tw_188 (by decide) d_D_write_55 gb1008 (by rw [e1]; exact Nat.le_of_ble_eq_true rfl) (by rw [e2]; exact Nat.le_of_ble_eq_true rfl) e3 e4 hM hR hsz hc hs rfl (by cases eb1008; rfl) (Nat.le_of_ble_eq_true rfl)) (fun x1007 h1006 => ?_)
          refine x_if (P := x1007 = 0) (pt := 94) (pf := 61) (st' := []) (fun hC _ _ _ _ _ _ kt kf => lv_if_eq (tgt := 94) hC.1 hC.2.1 d_D_write_58 (by decide) kt kf) ?_ ?_
          · refine x_lift (pc' := 97) (st' := []) (lv' := [(4, .int (x4 + 1)), (5, va_rf r1005), (0, .ref a0), (2, .int x2), (3, va_rf r3)]) (fun hC _ _ _ _ _ _ hl k => lv_iinc (v := (x4 + 1)) hC.1 hC.2.1 d_D_write_94 hl (k := 4) rfl rfl (by decide) (by simp [rf_cat, cat_i, cat_l, cat_r]) k) ?_
            refine x_go (pc' := 22) (st' := []) (fun hC _ _ _ _ _ _ hl k => lv_goto (tgt := 22) hC.1 hC.2.1 d_D_write_97 (by decide) k) ?_
            exact x_sub (lv' := [(0, .ref a0), (2, .int x2), (3, va_rf r3), (4, .int (x4 + 1))]) [2, 3, 4, 0] rfl (ih a0 x2 r3 (x4 + 1) h1006)
          · refine x_go (pc' := 63) (st' := [va_rf r1005]) (fun hC _ _ _ _ _ _ hl k => lv_aload_q (r := r1005) hC.1 hC.2.1 d_D_write_61 (lv_at hl 0 rfl) k) ?_
            refine x_go (pc' := 64) (st' := [.int x2, va_rf r1005]) (fun hC _ _ _ _ _ _ hl k => lv_iload_n hC.1 hC.2.1 d_D_write_63 rfl (lv_at hl 2 rfl) k) ?_
            refine x_go (pc' := 65) (st' := [.ref a0, .int x2, va_rf r1005]) (fun hC _ _ _ _ _ _ hl k => lv_aload_n hC.1 hC.2.1 d_D_write_64 rfl (lv_at hl 1 rfl) k) ?_
            refine x_getR (ci := 3) (kf := 0) (r := (some a0)) (fun hC => w_get hC iw_3 rfl 0 (by decide) tw_31 rfl d_D_write_65) (fun r1009 => ?_)
            refine x_recv (ci := 1) (r := r1005) (fun b1012 _ eb1012 gb1012 => ?_)
            refine x_callI (rest := []) (c_T_hasRangeWith l B b1012 x2 r1009 h1006) (fun hC => fun e1 e2 e3 e4 hM => fun hR hsz hc hs => run_V (n := 2) hC lw_good rfl rfl tw_193 tw_194 tw_195 tw_4 tw_196 (by decide) d_D_write_68 gb1012 (by rw [e1]; exact Nat.le_of_ble_eq_true rfl) (by rw [e2]; exact Nat.le_of_ble_eq_true rfl) e3 e4 hM hR hsz hc hs rfl (by cases eb1012; rfl) (Nat.le_of_ble_eq_true rfl)) (fun x1011 h1010 => ?_)
            refine x_if (P := x1011 = 0) (pt := 94) (pf := 74) (st' := []) (fun hC _ _ _ _ _ _ kt kf => lv_if_eq (tgt := 94) hC.1 hC.2.1 d_D_write_71 (by decide) kt kf) ?_ ?_
            · refine x_lift (pc' := 97) (st' := []) (lv' := [(4, .int (x4 + 1)), (5, va_rf r1005), (0, .ref a0), (2, .int x2), (3, va_rf r3)]) (fun hC _ _ _ _ _ _ hl k => lv_iinc (v := (x4 + 1)) hC.1 hC.2.1 d_D_write_94 hl (k := 4) rfl rfl (by decide) (by simp [rf_cat, cat_i, cat_l, cat_r]) k) ?_
              refine x_go (pc' := 22) (st' := []) (fun hC _ _ _ _ _ _ hl k => lv_goto (tgt := 22) hC.1 hC.2.1 d_D_write_97 (by decide) k) ?_
              exact x_sub (lv' := [(0, .ref a0), (2, .int x2), (3, va_rf r3), (4, .int (x4 + 1))]) [2, 3, 4, 0] rfl (ih a0 x2 r3 (x4 + 1) h1010)
            · refine x_go (pc' := 76) (st' := [va_rf r1005]) (fun hC _ _ _ _ _ _ hl k => lv_aload_q (r := r1005) hC.1 hC.2.1 d_D_write_74 (lv_at hl 0 rfl) k) ?_
              refine x_go (pc' := 77) (st' := [va_rf r3, va_rf r1005]) (fun hC _ _ _ _ _ _ hl k => lv_aload_nq (r := r3) hC.1 hC.2.1 d_D_write_76 rfl (lv_at hl 3 rfl) k) ?_
              refine x_recv (ci := 1) (r := r1005) (fun b1014 _ eb1014 gb1014 => ?_)
              refine x_callU (rest := []) (c_T_pointAt l B b1014 r3 h1010) (fun hC => fun e1 e2 e3 e4 hM => fun hR hsz hc hs => run_V (n := 1) hC lw_good rfl rfl tw_218 tw_219 tw_220 tw_4 tw_221 (by decide) d_D_write_77 gb1014 (by rw [e1]; exact Nat.le_of_ble_eq_true rfl) (by rw [e2]; exact Nat.le_of_ble_eq_true rfl) e3 e4 hM hR hsz hc hs rfl (by cases eb1014; rfl) (Nat.le_of_ble_eq_true rfl)) (fun h1013 => ?_)
              refine x_go (pc' := 82) (st' := [va_rf r1005]) (fun hC _ _ _ _ _ _ hl k => lv_aload_q (r := r1005) hC.1 hC.2.1 d_D_write_80 (lv_at hl 0 rfl) k) ?_
              refine x_go (pc' := 83) (st' := [va_rf r3, va_rf r1005]) (fun hC _ _ _ _ _ _ hl k => lv_aload_nq (r := r3) hC.1 hC.2.1 d_D_write_82 rfl (lv_at hl 3 rfl) k) ?_
              refine x_callI (rest := []) (c_D_isFirstOfDanger l B r1005 r3 h1013) (fun hC => fun e1 e2 e3 e4 hM => fun hR hsz hc hs => run_S (n := 2) hC lw_good tw_226 tw_227 tw_1 tw_228 (by decide) d_D_write_83 (by rw [e1]; exact Nat.le_of_ble_eq_true rfl) (by rw [e2]; exact Nat.le_of_ble_eq_true rfl) e3 e4 hM hR hsz hc hs rfl rfl (Nat.le_of_ble_eq_true rfl)) (fun x1016 h1015 => ?_)
              refine x_if (P := x1016 = 0) (pt := 94) (pf := 89) (st' := []) (fun hC _ _ _ _ _ _ kt kf => lv_if_eq (tgt := 94) hC.1 hC.2.1 d_D_write_86 (by decide) kt kf) ?_ ?_
              · refine x_lift (pc' := 97) (st' := []) (lv' := [(4, .int (x4 + 1)), (5, va_rf r1005), (0, .ref a0), (2, .int x2), (3, va_rf r3)]) (fun hC _ _ _ _ _ _ hl k => lv_iinc (v := (x4 + 1)) hC.1 hC.2.1 d_D_write_94 hl (k := 4) rfl rfl (by decide) (by simp [rf_cat, cat_i, cat_l, cat_r]) k) ?_
                refine x_go (pc' := 22) (st' := []) (fun hC _ _ _ _ _ _ hl k => lv_goto (tgt := 22) hC.1 hC.2.1 d_D_write_97 (by decide) k) ?_
                exact x_sub (lv' := [(0, .ref a0), (2, .int x2), (3, va_rf r3), (4, .int (x4 + 1))]) [2, 3, 4, 0] rfl (ih a0 x2 r3 (x4 + 1) h1015)
              · refine x_go (pc' := 90) (st' := [va_rf r3]) (fun hC _ _ _ _ _ _ hl k => lv_aload_nq (r := r3) hC.1 hC.2.1 d_D_write_89 rfl (lv_at hl 3 rfl) k) ?_
                refine x_go (pc' := 91) (st' := [.int (1 : Int32), va_rf r3]) (fun hC _ _ _ _ _ _ hl k => lv_iconst (v := 1) hC.1 hC.2.1 d_D_write_90 (by decide) k) ?_
                refine x_putZ (ci := 1) (kf := 4) (r := r3) (x := (1 : Int32)) (fun hz hC => w_putN (host := "SerialDesk") (ty := .boolean) hC iw_1 ft_1 ft_1_ok fn_1 rfl 4 (by decide) (List.mem_of_getElem? (i := 3) rfl) rfl rfl (by decide +kernel) hz rfl d_D_write_91) (fun h1017 => ?_)
                refine x_lift (pc' := 97) (st' := []) (lv' := [(4, .int (x4 + 1)), (5, va_rf r1005), (0, .ref a0), (2, .int x2), (3, va_rf r3)]) (fun hC _ _ _ _ _ _ hl k => lv_iinc (v := (x4 + 1)) hC.1 hC.2.1 d_D_write_94 hl (k := 4) rfl rfl (by decide) (by simp [rf_cat, cat_i, cat_l, cat_r]) k) ?_
                refine x_go (pc' := 22) (st' := []) (fun hC _ _ _ _ _ _ hl k => lv_goto (tgt := 22) hC.1 hC.2.1 d_D_write_97 (by decide) k) ?_
                exact x_sub (lv' := [(0, .ref a0), (2, .int x2), (3, va_rf r3), (4, .int (x4 + 1))]) [2, 3, 4, 0] rfl (ih a0 x2 r3 (x4 + 1) h1017)
set_option maxHeartbeats 4000000 in
set_option maxRecDepth 100000 in
theorem c_D_write (l : Launch) (B : AB) (a0 : Nat) (x1 : Int32) (x2 : Int32) (h : AH) : CT l B y_D_write (Cond.code y_D_write b_D_write 6 (Option.some Jvm.ClassFile.FieldType.boolean) :: lw_tt) 4 89 eI [.ref a0, .int x1, .int x2] h (f_D_write a0 x1 x2 h) := by
  refine ct_of (own := o_D) (nm := "write") (by decide +kernel) rfl rfl (Nat.le_of_ble_eq_true rfl) (fun p e k1 k2 s m args below meth c => ?_)
  refine x_sub (lv' := [(0, .ref a0), (1, .int x1), (2, .int x2)]) [0, 1, 2] rfl ?_
  unfold f_D_write
  refine x_go (pc' := 1) (st' := [.ref a0]) (fun hC _ _ _ _ _ _ hl k => lv_aload_n hC.1 hC.2.1 d_D_write_0 rfl (lv_at hl 0 rfl) k) ?_
  refine x_go (pc' := 2) (st' := [.int x1, .ref a0]) (fun hC _ _ _ _ _ _ hl k => lv_iload_n hC.1 hC.2.1 d_D_write_1 rfl (lv_at hl 1 rfl) k) ?_
  refine x_recv (ci := 3) (r := (some a0)) (fun b103 _ eb103 gb103 => ?_)
  refine x_callR (rest := []) (c_D_runningIn l B b103 x1 h) (fun hC => fun e1 e2 e3 e4 hM => fun hR hsz hc hs => run_V (n := 1) hC lw_good rfl rfl tw_106 tw_108 tv_1 tw_1 tw_109 (by decide) d_D_write_2 gb103 (by rw [e1]; exact Nat.le_of_ble_eq_true rfl) (by rw [e2]; exact Nat.le_of_ble_eq_true rfl) e3 e4 hM hR hsz hc hs rfl (by cases eb103; rfl) (Nat.le_of_ble_eq_true rfl)) (fun r102 h101 => ?_)
  refine x_lift (pc' := 6) (st' := []) (lv' := [(3, va_rf r102), (0, .ref a0), (1, .int x1), (2, .int x2)]) (fun hC _ _ _ _ _ _ hl k => lv_astore_nq (r := r102) (i := 3) hC.1 hC.2.1 d_D_write_5 rfl hl (by decide) rfl k) ?_
  refine x_go (pc' := 7) (st' := [va_rf r102]) (fun hC _ _ _ _ _ _ hl k => lv_aload_nq (r := r102) hC.1 hC.2.1 d_D_write_6 rfl (lv_at hl 0 rfl) k) ?_
  refine x_if (P := r102 = none) (pt := 17) (pf := 10) (st' := []) (fun hC _ _ _ _ _ _ kt kf => lv_ifnull_q (r := r102) (tgt := 17) hC.1 hC.2.1 d_D_write_7 (by decide) kt kf) ?_ ?_
  · refine x_go (pc' := 18) (st' := [.int (0 : Int32)]) (fun hC _ _ _ _ _ _ hl k => lv_iconst (v := 0) hC.1 hC.2.1 d_D_write_17 (by decide) k) ?_
    exact x_zret d_D_write_18
  · refine x_go (pc' := 11) (st' := [.int x2]) (fun hC _ _ _ _ _ _ hl k => lv_iload_n hC.1 hC.2.1 d_D_write_10 rfl (lv_at hl 3 rfl) k) ?_
    refine x_callI (rest := []) (c_D_isTable l B x2 h101) (fun hC => fun e1 e2 e3 e4 hM => fun hR hsz hc hs => run_S (n := 1) hC lw_good tw_110 tw_111 tw_1 tw_112 (by decide) d_D_write_11 (by rw [e1]; exact Nat.le_of_ble_eq_true rfl) (by rw [e2]; exact Nat.le_of_ble_eq_true rfl) e3 e4 hM hR hsz hc hs rfl rfl (Nat.le_of_ble_eq_true rfl)) (fun x105 h104 => ?_)
    refine x_if (P := x105 = 0) (pt := 17) (pf := 19) (st' := []) (fun hC _ _ _ _ _ _ kt kf => lv_if_ne (tgt := 19) hC.1 hC.2.1 d_D_write_14 (by decide) kf kt) ?_ ?_
    · refine x_go (pc' := 18) (st' := [.int (0 : Int32)]) (fun hC _ _ _ _ _ _ hl k => lv_iconst (v := 0) hC.1 hC.2.1 d_D_write_17 (by decide) k) ?_
      exact x_zret d_D_write_18
    · refine x_go (pc' := 20) (st' := [.int (0 : Int32)]) (fun hC _ _ _ _ _ _ hl k => lv_iconst (v := 0) hC.1 hC.2.1 d_D_write_19 (by decide) k) ?_
      refine x_lift (pc' := 22) (st' := []) (lv' := [(4, .int (0 : Int32)), (3, va_rf r102), (0, .ref a0), (1, .int x1), (2, .int x2)]) (fun hC _ _ _ _ _ _ hl k => lv_istore (i := 4) hC.1 hC.2.1 d_D_write_20 hl (by decide) (by simp [rf_cat, cat_i, cat_l, cat_r]) k) ?_
      exact x_sub (lv' := [(0, .ref a0), (2, .int x2), (3, va_rf r102), (4, .int (0 : Int32))]) [2, 4, 1, 0] rfl (x_D_write_b22 2000 a0 x2 r102 (0 : Int32) h104)
/-! SerialDesk$Transaction.pointsAt(LSerialDesk$Transaction;)Z -/
theorem d_T_pointsAt_0 : decode b_T_pointsAt 0 = .ok (.aload_n 0, 1) := by decide +kernel
theorem d_T_pointsAt_1 : decode b_T_pointsAt 1 = .ok (.getfield 28, 3) := by decide +kernel
theorem d_T_pointsAt_4 : decode b_T_pointsAt 4 = .ok (.lconst 1, 1) := by decide +kernel
theorem d_T_pointsAt_5 : decode b_T_pointsAt 5 = .ok (.aload_n 1, 1) := by decide +kernel
theorem d_T_pointsAt_6 : decode b_T_pointsAt 6 = .ok (.getfield 15, 3) := by decide +kernel
theorem d_T_pointsAt_9 : decode b_T_pointsAt 9 = .ok (.lshl, 1) := by decide +kernel
theorem d_T_pointsAt_10 : decode b_T_pointsAt 10 = .ok (.land, 1) := by decide +kernel
theorem d_T_pointsAt_11 : decode b_T_pointsAt 11 = .ok (.lconst 0, 1) := by decide +kernel
theorem d_T_pointsAt_12 : decode b_T_pointsAt 12 = .ok (.lcmp, 1) := by decide +kernel
theorem d_T_pointsAt_13 : decode b_T_pointsAt 13 = .ok (.ifCond .eq 7, 3) := by decide +kernel
theorem d_T_pointsAt_16 : decode b_T_pointsAt 16 = .ok (.iconst 1, 1) := by decide +kernel
theorem d_T_pointsAt_17 : decode b_T_pointsAt 17 = .ok (.goto 4, 3) := by decide +kernel
theorem d_T_pointsAt_20 : decode b_T_pointsAt 20 = .ok (.iconst 0, 1) := by decide +kernel
theorem d_T_pointsAt_21 : decode b_T_pointsAt 21 = .ok (.ireturn, 1) := by decide +kernel
abbrev X_T_pointsAt (p : Program) (l : Launch) (e : Env) (k1 k2 : Nat) (s : State) (m : MethodId) (args : Array Value) (below : List Frame) (meth : Method) (c : Code) (B : AB) (n0 m0 : Nat) (h : AH) (pc : Nat) (lv : List (Nat × Value)) (st : List Value) (comp : Option (Int32 × AH)) : Prop := XX p l e { frames := 0, cells := k1, slots := k2, locals := 0 } s m args below meth c b_T_pointsAt o_T lw_tt 2 (Option.some Jvm.ClassFile.FieldType.boolean) "pointsAt" B n0 m0 (QM B below args s { frames := 0, cells := k1, slots := k2, locals := 0 } eI) h pc lv st comp
def f_T_pointsAt (a0 : Nat) (r1 : Option Nat) (h : AH) : Option (Int32 × AH) := (fL h 1 5 (some a0)).bind (fun x101 => (fI h 1 1 r1).bind (fun x102 => (if (lg_cmp (x101 &&& ((1 : Int64) <<< (Int32.toInt64 x102 &&& 63))) (0 : Int64)) = 0 then rZ (0 : Int32) h else rZ (1 : Int32) h)))
set_option maxHeartbeats 4000000 in
set_option maxRecDepth 100000 in
theorem c_T_pointsAt (l : Launch) (B : AB) (a0 : Nat) (r1 : Option Nat) (h : AH) : CT l B y_T_pointsAt (Cond.code y_T_pointsAt b_T_pointsAt 2 (Option.some Jvm.ClassFile.FieldType.boolean) :: lw_tt) 0 0 eI [.ref a0, va_rf r1] h (f_T_pointsAt a0 r1 h) := by
  refine ct_of (own := o_T) (nm := "pointsAt") (by decide +kernel) rfl rfl (by simp [lg_sl, rf_cat, cat_i, cat_l, cat_r]) (fun p e k1 k2 s m args below meth c => ?_)
  refine x_sub (lv' := [(0, .ref a0), (1, va_rf r1)]) [0, 1] (by simp [lv_pick, lv_args, rf_cat, cat_i, cat_l, cat_r]) ?_
  unfold f_T_pointsAt
  refine x_go (pc' := 1) (st' := [.ref a0]) (fun hC _ _ _ _ _ _ hl k => lv_aload_n hC.1 hC.2.1 d_T_pointsAt_0 rfl (lv_at hl 0 rfl) k) ?_
  refine x_getL (ci := 1) (kf := 5) (r := (some a0)) (fun hC => w_get hC iw_1 rfl 5 (by decide) tw_77 rfl d_T_pointsAt_1) (fun x101 => ?_)
  refine x_go (pc' := 5) (st' := [.long (1 : Int64), .long x101]) (fun hC _ _ _ _ _ _ hl k => lv_lconst (v := 1) hC.1 hC.2.1 d_T_pointsAt_4 (by decide) k) ?_
  refine x_go (pc' := 6) (st' := [va_rf r1, .long (1 : Int64), .long x101]) (fun hC _ _ _ _ _ _ hl k => lv_aload_nq (r := r1) hC.1 hC.2.1 d_T_pointsAt_5 rfl (lv_at hl 1 rfl) k) ?_
  refine x_getI (ci := 1) (kf := 1) (r := r1) (fun hC => w_get hC iw_1 rfl 1 (by decide) tw_70 rfl d_T_pointsAt_6) (fun x102 => ?_)
  refine x_go (pc' := 10) (st' := [.long ((1 : Int64) <<< (Int32.toInt64 x102 &&& 63)), .long x101]) (fun hC _ _ _ _ _ _ hl k => lv_lshl hC.1 hC.2.1 d_T_pointsAt_9 rfl k) ?_
  refine x_go (pc' := 11) (st' := [.long (x101 &&& ((1 : Int64) <<< (Int32.toInt64 x102 &&& 63)))]) (fun hC _ _ _ _ _ _ hl k => lv_land hC.1 hC.2.1 d_T_pointsAt_10 k) ?_
  refine x_go (pc' := 12) (st' := [.long (0 : Int64), .long (x101 &&& ((1 : Int64) <<< (Int32.toInt64 x102 &&& 63)))]) (fun hC _ _ _ _ _ _ hl k => lv_lconst (v := 0) hC.1 hC.2.1 d_T_pointsAt_11 (by decide) k) ?_
  refine x_go (pc' := 13) (st' := [.int (lg_cmp (x101 &&& ((1 : Int64) <<< (Int32.toInt64 x102 &&& 63))) (0 : Int64))]) (fun hC _ _ _ _ _ _ hl k => W.lcmp hC.1 hC.2.1 d_T_pointsAt_12 k) ?_
  refine x_if (P := (lg_cmp (x101 &&& ((1 : Int64) <<< (Int32.toInt64 x102 &&& 63))) (0 : Int64)) = 0) (pt := 20) (pf := 16) (st' := []) (fun hC _ _ _ _ _ _ kt kf => lv_if_eq (tgt := 20) hC.1 hC.2.1 d_T_pointsAt_13 (by decide) kt kf) ?_ ?_
  · refine x_go (pc' := 21) (st' := [.int (0 : Int32)]) (fun hC _ _ _ _ _ _ hl k => lv_iconst (v := 0) hC.1 hC.2.1 d_T_pointsAt_20 (by decide) k) ?_
    exact x_zret d_T_pointsAt_21
  · refine x_go (pc' := 17) (st' := [.int (1 : Int32)]) (fun hC _ _ _ _ _ _ hl k => lv_iconst (v := 1) hC.1 hC.2.1 d_T_pointsAt_16 (by decide) k) ?_
    refine x_go (pc' := 21) (st' := [.int (1 : Int32)]) (fun hC _ _ _ _ _ _ hl k => lv_goto (tgt := 21) hC.1 hC.2.1 d_T_pointsAt_17 (by decide) k) ?_
    exact x_zret d_T_pointsAt_21
/-! SerialDesk.isPointedAtByOneNotBefore(LSerialDesk$Transaction;I)Z -/
theorem d_D_isPointedAtByOneNotBefore_0 : decode b_D_isPointedAtByOneNotBefore 0 = .ok (.iconst 0, 1) := by decide +kernel
theorem d_D_isPointedAtByOneNotBefore_1 : decode b_D_isPointedAtByOneNotBefore 1 = .ok (.istore_n 3, 1) := by decide +kernel
theorem d_D_isPointedAtByOneNotBefore_2 : decode b_D_isPointedAtByOneNotBefore 2 = .ok (.iload_n 3, 1) := by decide +kernel
theorem d_D_isPointedAtByOneNotBefore_3 : decode b_D_isPointedAtByOneNotBefore 3 = .ok (.aload_n 0, 1) := by decide +kernel
theorem d_D_isPointedAtByOneNotBefore_4 : decode b_D_isPointedAtByOneNotBefore 4 = .ok (.getfield 22, 3) := by decide +kernel
theorem d_D_isPointedAtByOneNotBefore_7 : decode b_D_isPointedAtByOneNotBefore 7 = .ok (.arraylength, 1) := by decide +kernel
theorem d_D_isPointedAtByOneNotBefore_8 : decode b_D_isPointedAtByOneNotBefore 8 = .ok (.if_icmp .ge 42, 3) := by decide +kernel
theorem d_D_isPointedAtByOneNotBefore_11 : decode b_D_isPointedAtByOneNotBefore 11 = .ok (.aload_n 0, 1) := by decide +kernel
theorem d_D_isPointedAtByOneNotBefore_12 : decode b_D_isPointedAtByOneNotBefore 12 = .ok (.getfield 22, 3) := by decide +kernel
theorem d_D_isPointedAtByOneNotBefore_15 : decode b_D_isPointedAtByOneNotBefore 15 = .ok (.iload_n 3, 1) := by decide +kernel
theorem d_D_isPointedAtByOneNotBefore_16 : decode b_D_isPointedAtByOneNotBefore 16 = .ok (.aaload, 1) := by decide +kernel
theorem d_D_isPointedAtByOneNotBefore_17 : decode b_D_isPointedAtByOneNotBefore 17 = .ok (.astore 4, 2) := by decide +kernel
theorem d_D_isPointedAtByOneNotBefore_19 : decode b_D_isPointedAtByOneNotBefore 19 = .ok (.aload 4, 2) := by decide +kernel
theorem d_D_isPointedAtByOneNotBefore_21 : decode b_D_isPointedAtByOneNotBefore 21 = .ok (.ifnull 23, 3) := by decide +kernel
theorem d_D_isPointedAtByOneNotBefore_24 : decode b_D_isPointedAtByOneNotBefore 24 = .ok (.aload 4, 2) := by decide +kernel
theorem d_D_isPointedAtByOneNotBefore_26 : decode b_D_isPointedAtByOneNotBefore 26 = .ok (.aload_n 1, 1) := by decide +kernel
theorem d_D_isPointedAtByOneNotBefore_27 : decode b_D_isPointedAtByOneNotBefore 27 = .ok (.invokevirtual 131, 3) := by decide +kernel
theorem d_D_isPointedAtByOneNotBefore_30 : decode b_D_isPointedAtByOneNotBefore 30 = .ok (.ifCond .eq 14, 3) := by decide +kernel
theorem d_D_isPointedAtByOneNotBefore_33 : decode b_D_isPointedAtByOneNotBefore 33 = .ok (.aload 4, 2) := by decide +kernel
theorem d_D_isPointedAtByOneNotBefore_35 : decode b_D_isPointedAtByOneNotBefore 35 = .ok (.iload_n 2, 1) := by decide +kernel
theorem d_D_isPointedAtByOneNotBefore_36 : decode b_D_isPointedAtByOneNotBefore 36 = .ok (.invokevirtual 134, 3) := by decide +kernel
theorem d_D_isPointedAtByOneNotBefore_39 : decode b_D_isPointedAtByOneNotBefore 39 = .ok (.ifCond .ne 5, 3) := by decide +kernel
theorem d_D_isPointedAtByOneNotBefore_42 : decode b_D_isPointedAtByOneNotBefore 42 = .ok (.iconst 1, 1) := by decide +kernel
theorem d_D_isPointedAtByOneNotBefore_43 : decode b_D_isPointedAtByOneNotBefore 43 = .ok (.ireturn, 1) := by decide +kernel
theorem d_D_isPointedAtByOneNotBefore_44 : decode b_D_isPointedAtByOneNotBefore 44 = .ok (.iinc 3 1, 3) := by decide +kernel
theorem d_D_isPointedAtByOneNotBefore_47 : decode b_D_isPointedAtByOneNotBefore 47 = .ok (.goto (-45), 3) := by decide +kernel
theorem d_D_isPointedAtByOneNotBefore_50 : decode b_D_isPointedAtByOneNotBefore 50 = .ok (.iconst 0, 1) := by decide +kernel
theorem d_D_isPointedAtByOneNotBefore_51 : decode b_D_isPointedAtByOneNotBefore 51 = .ok (.ireturn, 1) := by decide +kernel
abbrev X_D_isPointedAtByOneNotBefore (p : Program) (l : Launch) (e : Env) (k1 k2 : Nat) (s : State) (m : MethodId) (args : Array Value) (below : List Frame) (meth : Method) (c : Code) (B : AB) (n0 m0 : Nat) (h : AH) (pc : Nat) (lv : List (Nat × Value)) (st : List Value) (comp : Option (Int32 × AH)) : Prop := XX p l e { frames := 2, cells := k1, slots := k2, locals := 41 } s m args below meth c b_D_isPointedAtByOneNotBefore o_D lw_tt 5 (Option.some Jvm.ClassFile.FieldType.boolean) "isPointedAtByOneNotBefore" B n0 m0 (QM B below args s { frames := 2, cells := k1, slots := k2, locals := 41 } eI) h pc lv st comp
def f_D_isPointedAtByOneNotBefore_b2 : Nat → Nat → Option Nat → Int32 → Int32 → AH → Option (Int32 × AH)
  | 0, _, _, _, _, _ => none
  | n + 1, a0, r1, x2, x3, h => (fR h 3 2 (some a0)).bind (fun r1001 => (gN h 2 r1001).bind (fun x1002 => (if x1002 ≤ x3 then rZ (0 : Int32) h else (fR h 3 2 (some a0)).bind (fun r1003 => (lR h 2 r1003 x3).bind (fun r1004 => (if r1004 = none then f_D_isPointedAtByOneNotBefore_b2 n a0 r1 x2 (x3 + 1) h else rcv h 1 r1004 (fun b1007 => bnd (f_T_pointsAt b1007 r1 h) (fun x1006 h1005 => (if x1006 = 0 then f_D_isPointedAtByOneNotBefore_b2 n a0 r1 x2 (x3 + 1) h1005 else rcv h1005 1 r1004 (fun b1010 => bnd (f_T_committedBefore b1010 x2 h1005) (fun x1009 h1008 => (if x1009 = 0 then rZ (1 : Int32) h1008 else f_D_isPointedAtByOneNotBefore_b2 n a0 r1 x2 (x3 + 1) h1008))))))))))))
def f_D_isPointedAtByOneNotBefore (a0 : Nat) (r1 : Option Nat) (x2 : Int32) (h : AH) : Option (Int32 × AH) := f_D_isPointedAtByOneNotBefore_b2 2000 a0 r1 x2 (0 : Int32) h
set_option maxHeartbeats 4000000 in
set_option maxRecDepth 100000 in
theorem x_D_isPointedAtByOneNotBefore_b2 {p : Program} {l : Launch} {e : Env} {k1 k2 : Nat} {s : State} {m : MethodId} {args : Array Value} {below : List Frame} {meth : Method} {c : Code} {B : AB} {n0 m0 : Nat} : ∀ (n : Nat) (a0 : Nat) (r1 : Option Nat) (x2 : Int32) (x3 : Int32) (h : AH), X_D_isPointedAtByOneNotBefore p l e k1 k2 s m args below meth c B n0 m0 h 2 [(0, .ref a0), (1, va_rf r1), (2, .int x2), (3, .int x3)] [] (f_D_isPointedAtByOneNotBefore_b2 n a0 r1 x2 x3 h) := by
  intro n
  induction n with
  | zero => intro a0 r1 x2 x3 h; exact x_none
  | succ n ih =>
    intro a0 r1 x2 x3 h
    rw [f_D_isPointedAtByOneNotBefore_b2]
    refine x_go (pc' := 3) (st' := [.int x3]) (fun hC _ _ _ _ _ _ hl k => lv_iload_n hC.1 hC.2.1 d_D_isPointedAtByOneNotBefore_2 rfl (lv_at hl 3 rfl) k) ?_
    refine x_go (pc' := 4) (st' := [.ref a0, .int x3]) (fun hC _ _ _ _ _ _ hl k => lv_aload_n hC.1 hC.2.1 d_D_isPointedAtByOneNotBefore_3 rfl (lv_at hl 0 rfl) k) ?_
    refine x_getR (ci := 3) (kf := 2) (r := (some a0)) (fun hC => w_get hC iw_3 rfl 2 (by decide) tw_33 rfl d_D_isPointedAtByOneNotBefore_4) (fun r1001 => ?_)
    refine x_alen (t := 2) rfl (r := r1001) d_D_isPointedAtByOneNotBefore_7 (fun x1002 => ?_)
    refine x_if (P := x1002 ≤ x3) (pt := 50) (pf := 11) (st' := []) (fun hC _ _ _ _ _ _ kt kf => lv_icmp_ge (tgt := 50) hC.1 hC.2.1 d_D_isPointedAtByOneNotBefore_8 (by decide) kt kf) ?_ ?_
    · refine x_go (pc' := 51) (st' := [.int (0 : Int32)]) (fun hC _ _ _ _ _ _ hl k => lv_iconst (v := 0) hC.1 hC.2.1 d_D_isPointedAtByOneNotBefore_50 (by decide) k) ?_
      exact x_zret d_D_isPointedAtByOneNotBefore_51
    · refine x_go (pc' := 12) (st' := [.ref a0]) (fun hC _ _ _ _ _ _ hl k => lv_aload_n hC.1 hC.2.1 d_D_isPointedAtByOneNotBefore_11 rfl (lv_at hl 0 rfl) k) ?_
      refine x_getR (ci := 3) (kf := 2) (r := (some a0)) (fun hC => w_get hC iw_3 rfl 2 (by decide) tw_33 rfl d_D_isPointedAtByOneNotBefore_12) (fun r1003 => ?_)
      refine x_go (pc' := 16) (st' := [.int x3, va_rf r1003]) (fun hC _ _ _ _ _ _ hl k => lv_iload_n hC.1 hC.2.1 d_D_isPointedAtByOneNotBefore_15 rfl (lv_at hl 3 rfl) k) ?_
      refine x_aald (t := 2) rfl rfl (r := r1003) (i := x3) d_D_isPointedAtByOneNotBefore_16 (fun r1004 => ?_)
      refine x_lift (pc' := 19) (st' := []) (lv' := [(4, va_rf r1004), (0, .ref a0), (1, va_rf r1), (2, .int x2), (3, .int x3)]) (fun hC _ _ _ _ _ _ hl k => lv_astore_q (r := r1004) (i := 4) hC.1 hC.2.1 d_D_isPointedAtByOneNotBefore_17 hl (by decide) rfl k) ?_
      refine x_go (pc' := 21) (st' := [va_rf r1004]) (fun hC _ _ _ _ _ _ hl k => lv_aload_q (r := r1004) hC.1 hC.2.1 d_D_isPointedAtByOneNotBefore_19 (lv_at hl 0 rfl) k) ?_
      refine x_if (P := r1004 = none) (pt := 44) (pf := 24) (st' := []) (fun hC _ _ _ _ _ _ kt kf => lv_ifnull_q (r := r1004) (tgt := 44) hC.1 hC.2.1 d_D_isPointedAtByOneNotBefore_21 (by decide) kt kf) ?_ ?_
      · refine x_lift (pc' := 47) (st' := []) (lv' := [(3, .int (x3 + 1)), (4, va_rf r1004), (0, .ref a0), (1, va_rf r1), (2, .int x2)]) (fun hC _ _ _ _ _ _ hl k => lv_iinc (v := (x3 + 1)) hC.1 hC.2.1 d_D_isPointedAtByOneNotBefore_44 hl (k := 4) rfl rfl (by decide) rfl k) ?_
        refine x_go (pc' := 2) (st' := []) (fun hC _ _ _ _ _ _ hl k => lv_goto (tgt := 2) hC.1 hC.2.1 d_D_isPointedAtByOneNotBefore_47 (by decide) k) ?_
        exact x_sub (lv' := [(0, .ref a0), (1, va_rf r1), (2, .int x2), (3, .int (x3 + 1))]) [2, 3, 4, 0] rfl (ih a0 r1 x2 (x3 + 1) h)
      · refine x_go (pc' := 26) (st' := [va_rf r1004]) (fun hC _ _ _ _ _ _ hl k => lv_aload_q (r := r1004) hC.1 hC.2.1 d_D_isPointedAtByOneNotBefore_24 (lv_at hl 0 rfl) k) ?_
        refine x_go (pc' := 27) (st' := [va_rf r1, va_rf r1004]) (fun hC _ _ _ _ _ _ hl k => lv_aload_nq (r := r1) hC.1 hC.2.1 d_D_isPointedAtByOneNotBefore_26 rfl (lv_at hl 2 rfl) k) ?_
        refine x_recv (ci := 1) (r := r1004) (fun b1007 _ eb1007 gb1007 => ?_)
        refine x_callI (rest := []) (c_T_pointsAt l B b1007 r1 h) (fun hC => fun e1 e2 e3 e4 hM => fun hR hsz hc hs => run_V (n := 1) hC lw_good rfl rfl tw_250 tw_251 tw_252 tw_4 tw_253 (by decide) d_D_isPointedAtByOneNotBefore_27 gb1007 (by rw [e1]; exact Nat.le_of_ble_eq_true rfl) (by rw [e2]; exact Nat.le_of_ble_eq_true rfl) e3 e4 hM hR hsz hc hs rfl (by cases eb1007; rfl) (Nat.le_of_ble_eq_true rfl)) (fun x1006 h1005 => ?_)
        refine x_if (P := x1006 = 0) (pt := 44) (pf := 33) (st' := []) (fun hC _ _ _ _ _ _ kt kf => lv_if_eq (tgt := 44) hC.1 hC.2.1 d_D_isPointedAtByOneNotBefore_30 (by decide) kt kf) ?_ ?_
        · refine x_lift (pc' := 47) (st' := []) (lv' := [(3, .int (x3 + 1)), (4, va_rf r1004), (0, .ref a0), (1, va_rf r1), (2, .int x2)]) (fun hC _ _ _ _ _ _ hl k => lv_iinc (v := (x3 + 1)) hC.1 hC.2.1 d_D_isPointedAtByOneNotBefore_44 hl (k := 4) rfl rfl (by decide) rfl k) ?_
          refine x_go (pc' := 2) (st' := []) (fun hC _ _ _ _ _ _ hl k => lv_goto (tgt := 2) hC.1 hC.2.1 d_D_isPointedAtByOneNotBefore_47 (by decide) k) ?_
          exact x_sub (lv' := [(0, .ref a0), (1, va_rf r1), (2, .int x2), (3, .int (x3 + 1))]) [2, 3, 4, 0] rfl (ih a0 r1 x2 (x3 + 1) h1005)
        · refine x_go (pc' := 35) (st' := [va_rf r1004]) (fun hC _ _ _ _ _ _ hl k => lv_aload_q (r := r1004) hC.1 hC.2.1 d_D_isPointedAtByOneNotBefore_33 (lv_at hl 0 rfl) k) ?_
          refine x_go (pc' := 36) (st' := [.int x2, va_rf r1004]) (fun hC _ _ _ _ _ _ hl k => lv_iload_n hC.1 hC.2.1 d_D_isPointedAtByOneNotBefore_35 rfl (lv_at hl 3 rfl) k) ?_
          refine x_recv (ci := 1) (r := r1004) (fun b1010 _ eb1010 gb1010 => ?_)
          refine x_callI (rest := []) (c_T_committedBefore l B b1010 x2 h1005) (fun hC => fun e1 e2 e3 e4 hM => fun hR hsz hc hs => run_V (n := 1) hC lw_good rfl rfl tw_229 tw_230 tw_231 tw_4 tw_232 (by decide) d_D_isPointedAtByOneNotBefore_36 gb1010 (by rw [e1]; exact Nat.le_of_ble_eq_true rfl) (by rw [e2]; exact Nat.le_of_ble_eq_true rfl) e3 e4 hM hR hsz hc hs rfl (by cases eb1010; rfl) (Nat.le_of_ble_eq_true rfl)) (fun x1009 h1008 => ?_)
          refine x_if (P := x1009 = 0) (pt := 42) (pf := 44) (st' := []) (fun hC _ _ _ _ _ _ kt kf => lv_if_ne (tgt := 44) hC.1 hC.2.1 d_D_isPointedAtByOneNotBefore_39 (by decide) kf kt) ?_ ?_
          · refine x_go (pc' := 43) (st' := [.int (1 : Int32)]) (fun hC _ _ _ _ _ _ hl k => lv_iconst (v := 1) hC.1 hC.2.1 d_D_isPointedAtByOneNotBefore_42 (by decide) k) ?_
            exact x_zret d_D_isPointedAtByOneNotBefore_43
          · refine x_lift (pc' := 47) (st' := []) (lv' := [(3, .int (x3 + 1)), (4, va_rf r1004), (0, .ref a0), (1, va_rf r1), (2, .int x2)]) (fun hC _ _ _ _ _ _ hl k => lv_iinc (v := (x3 + 1)) hC.1 hC.2.1 d_D_isPointedAtByOneNotBefore_44 hl (k := 4) rfl rfl (by decide) rfl k) ?_
            refine x_go (pc' := 2) (st' := []) (fun hC _ _ _ _ _ _ hl k => lv_goto (tgt := 2) hC.1 hC.2.1 d_D_isPointedAtByOneNotBefore_47 (by decide) k) ?_
            exact x_sub (lv' := [(0, .ref a0), (1, va_rf r1), (2, .int x2), (3, .int (x3 + 1))]) [2, 3, 4, 0] rfl (ih a0 r1 x2 (x3 + 1) h1008)
set_option maxHeartbeats 4000000 in
set_option maxRecDepth 100000 in
theorem c_D_isPointedAtByOneNotBefore (l : Launch) (B : AB) (a0 : Nat) (r1 : Option Nat) (x2 : Int32) (h : AH) : CT l B y_D_isPointedAtByOneNotBefore (Cond.code y_D_isPointedAtByOneNotBefore b_D_isPointedAtByOneNotBefore 5 (Option.some Jvm.ClassFile.FieldType.boolean) :: lw_tt) 2 41 eI [.ref a0, va_rf r1, .int x2] h (f_D_isPointedAtByOneNotBefore a0 r1 x2 h) := by
  refine ct_of (own := o_D) (nm := "isPointedAtByOneNotBefore") (by decide +kernel) rfl rfl (by simp [lg_sl, rf_cat, cat_i, cat_l, cat_r]) (fun p e k1 k2 s m args below meth c => ?_)
  refine x_sub (lv' := [(0, .ref a0), (1, va_rf r1), (2, .int x2)]) [0, 1, 2] (by simp [lv_pick, lv_args, rf_cat, cat_i, cat_l, cat_r]) ?_
  unfold f_D_isPointedAtByOneNotBefore
  refine x_go (pc' := 1) (st' := [.int (0 : Int32)]) (fun hC _ _ _ _ _ _ hl k => lv_iconst (v := 0) hC.1 hC.2.1 d_D_isPointedAtByOneNotBefore_0 (by decide) k) ?_
  refine x_lift (pc' := 2) (st' := []) (lv' := [(3, .int (0 : Int32)), (0, .ref a0), (1, va_rf r1), (2, .int x2)]) (fun hC _ _ _ _ _ _ hl k => lv_istore_n (i := 3) hC.1 hC.2.1 d_D_isPointedAtByOneNotBefore_1 rfl hl (by decide) rfl k) ?_
  exact x_sub (lv' := [(0, .ref a0), (1, va_rf r1), (2, .int x2), (3, .int (0 : Int32))]) [1, 2, 3, 0] rfl (x_D_isPointedAtByOneNotBefore_b2 2000 a0 r1 x2 (0 : Int32) h)
