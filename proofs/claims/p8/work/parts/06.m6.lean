/-! SerialDesk$Range.isWholeTable()Z -/
theorem d_R_isWholeTable_0 : decode b_R_isWholeTable 0 = .ok (.aload_n 0, 1) := by decide +kernel
theorem d_R_isWholeTable_1 : decode b_R_isWholeTable 1 = .ok (.getfield 9, 3) := by decide +kernel
theorem d_R_isWholeTable_4 : decode b_R_isWholeTable 4 = .ok (.iconst (-1), 1) := by decide +kernel
theorem d_R_isWholeTable_5 : decode b_R_isWholeTable 5 = .ok (.if_icmp .ne 7, 3) := by decide +kernel
theorem d_R_isWholeTable_8 : decode b_R_isWholeTable 8 = .ok (.iconst 1, 1) := by decide +kernel
theorem d_R_isWholeTable_9 : decode b_R_isWholeTable 9 = .ok (.goto 4, 3) := by decide +kernel
theorem d_R_isWholeTable_12 : decode b_R_isWholeTable 12 = .ok (.iconst 0, 1) := by decide +kernel
theorem d_R_isWholeTable_13 : decode b_R_isWholeTable 13 = .ok (.ireturn, 1) := by decide +kernel
abbrev X_R_isWholeTable (p : Program) (l : Launch) (e : Env) (k1 k2 : Nat) (s : State) (m : MethodId) (args : Array Value) (below : List Frame) (meth : Method) (c : Code) (B : AB) (n0 m0 : Nat) (h : AH) (pc : Nat) (lv : List (Nat × Value)) (st : List Value) (comp : Option (Int32 × AH)) : Prop := XX p l e { frames := 0, cells := k1, slots := k2, locals := 0 } s m args below meth c b_R_isWholeTable o_R lw_tt 1 (Option.some Jvm.ClassFile.FieldType.boolean) "isWholeTable" B n0 m0 (QM B below args s { frames := 0, cells := k1, slots := k2, locals := 0 } eI) h pc lv st comp
def f_R_isWholeTable (a0 : Nat) (h : AH) : Option (Int32 × AH) := (fI h 0 0 (some a0)).bind (fun x101 => (if x101 = (-1 : Int32) then rZ (1 : Int32) h else rZ (0 : Int32) h))
set_option maxHeartbeats 4000000 in
set_option maxRecDepth 100000 in
theorem c_R_isWholeTable (l : Launch) (B : AB) (a0 : Nat) (h : AH) : CT l B y_R_isWholeTable (Cond.code y_R_isWholeTable b_R_isWholeTable 1 (Option.some Jvm.ClassFile.FieldType.boolean) :: lw_tt) 0 0 eI [.ref a0] h (f_R_isWholeTable a0 h) := by
  refine ct_of (own := o_R) (nm := "isWholeTable") (by decide +kernel) rfl rfl (Nat.le_of_ble_eq_true rfl) (fun p e k1 k2 s m args below meth c => ?_)
  refine x_sub (lv' := [(0, .ref a0)]) [0] rfl ?_
  unfold f_R_isWholeTable
  refine x_go (pc' := 1) (st' := [.ref a0]) (fun hC _ _ _ _ _ _ hl k => lv_aload_n hC.1 hC.2.1 d_R_isWholeTable_0 rfl (lv_at hl 0 rfl) k) ?_
  refine x_getI (ci := 0) (kf := 0) (r := (some a0)) (fun hC => w_get hC iw_0 rfl 0 (by decide) tw_122 rfl d_R_isWholeTable_1) (fun x101 => ?_)
  refine x_go (pc' := 5) (st' := [.int (-1 : Int32), .int x101]) (fun hC _ _ _ _ _ _ hl k => lv_iconst (v := -1) hC.1 hC.2.1 d_R_isWholeTable_4 (by decide) k) ?_
  refine x_if (P := x101 = (-1 : Int32)) (pt := 8) (pf := 12) (st' := []) (fun hC _ _ _ _ _ _ kt kf => lv_icmp_ne (tgt := 12) hC.1 hC.2.1 d_R_isWholeTable_5 (by decide) kf kt) ?_ ?_
  · refine x_go (pc' := 9) (st' := [.int (1 : Int32)]) (fun hC _ _ _ _ _ _ hl k => lv_iconst (v := 1) hC.1 hC.2.1 d_R_isWholeTable_8 (by decide) k) ?_
    refine x_go (pc' := 13) (st' := [.int (1 : Int32)]) (fun hC _ _ _ _ _ _ hl k => lv_goto (tgt := 13) hC.1 hC.2.1 d_R_isWholeTable_9 (by decide) k) ?_
    exact x_zret d_R_isWholeTable_13
  · refine x_go (pc' := 13) (st' := [.int (0 : Int32)]) (fun hC _ _ _ _ _ _ hl k => lv_iconst (v := 0) hC.1 hC.2.1 d_R_isWholeTable_12 (by decide) k) ?_
    exact x_zret d_R_isWholeTable_13
/-! SerialDesk$Transaction.isCovered(ILSerialDesk$Range;)Z -/
theorem d_T_isCovered_0 : decode b_T_isCovered 0 = .ok (.iload_n 1, 1) := by decide +kernel
theorem d_T_isCovered_1 : decode b_T_isCovered 1 = .ok (.invokestatic 55, 3) := by decide +kernel
theorem d_T_isCovered_4 : decode b_T_isCovered 4 = .ok (.ifCond .ne 5, 3) := by decide +kernel
theorem d_T_isCovered_7 : decode b_T_isCovered 7 = .ok (.iconst 0, 1) := by decide +kernel
theorem d_T_isCovered_8 : decode b_T_isCovered 8 = .ok (.ireturn, 1) := by decide +kernel
theorem d_T_isCovered_9 : decode b_T_isCovered 9 = .ok (.aload_n 0, 1) := by decide +kernel
theorem d_T_isCovered_10 : decode b_T_isCovered 10 = .ok (.getfield 37, 3) := by decide +kernel
theorem d_T_isCovered_13 : decode b_T_isCovered 13 = .ok (.iload_n 1, 1) := by decide +kernel
theorem d_T_isCovered_14 : decode b_T_isCovered 14 = .ok (.aaload, 1) := by decide +kernel
theorem d_T_isCovered_15 : decode b_T_isCovered 15 = .ok (.astore_n 3, 1) := by decide +kernel
theorem d_T_isCovered_16 : decode b_T_isCovered 16 = .ok (.aload_n 3, 1) := by decide +kernel
theorem d_T_isCovered_17 : decode b_T_isCovered 17 = .ok (.ifnull 28, 3) := by decide +kernel
theorem d_T_isCovered_20 : decode b_T_isCovered 20 = .ok (.aload_n 3, 1) := by decide +kernel
theorem d_T_isCovered_21 : decode b_T_isCovered 21 = .ok (.invokevirtual 71, 3) := by decide +kernel
theorem d_T_isCovered_24 : decode b_T_isCovered 24 = .ok (.ifCond .ne 11, 3) := by decide +kernel
theorem d_T_isCovered_27 : decode b_T_isCovered 27 = .ok (.aload_n 3, 1) := by decide +kernel
theorem d_T_isCovered_28 : decode b_T_isCovered 28 = .ok (.aload_n 2, 1) := by decide +kernel
theorem d_T_isCovered_29 : decode b_T_isCovered 29 = .ok (.invokevirtual 74, 3) := by decide +kernel
theorem d_T_isCovered_32 : decode b_T_isCovered 32 = .ok (.ifCond .eq 5, 3) := by decide +kernel
theorem d_T_isCovered_35 : decode b_T_isCovered 35 = .ok (.iconst 1, 1) := by decide +kernel
theorem d_T_isCovered_36 : decode b_T_isCovered 36 = .ok (.ireturn, 1) := by decide +kernel
theorem d_T_isCovered_37 : decode b_T_isCovered 37 = .ok (.aload_n 3, 1) := by decide +kernel
theorem d_T_isCovered_38 : decode b_T_isCovered 38 = .ok (.getfield 67, 3) := by decide +kernel
theorem d_T_isCovered_41 : decode b_T_isCovered 41 = .ok (.astore_n 3, 1) := by decide +kernel
theorem d_T_isCovered_42 : decode b_T_isCovered 42 = .ok (.goto (-26), 3) := by decide +kernel
theorem d_T_isCovered_45 : decode b_T_isCovered 45 = .ok (.iconst 0, 1) := by decide +kernel
theorem d_T_isCovered_46 : decode b_T_isCovered 46 = .ok (.ireturn, 1) := by decide +kernel
abbrev X_T_isCovered (p : Program) (l : Launch) (e : Env) (k1 k2 : Nat) (s : State) (m : MethodId) (args : Array Value) (below : List Frame) (meth : Method) (c : Code) (B : AB) (n0 m0 : Nat) (h : AH) (pc : Nat) (lv : List (Nat × Value)) (st : List Value) (comp : Option (Int32 × AH)) : Prop := XX p l e { frames := 2, cells := k1, slots := k2, locals := 42 } s m args below meth c b_T_isCovered o_T lw_tt 4 (Option.some Jvm.ClassFile.FieldType.boolean) "isCovered" B n0 m0 (QM B below args s { frames := 2, cells := k1, slots := k2, locals := 42 } eI) h pc lv st comp
def f_T_isCovered_b16 : Nat → Option Nat → Option Nat → AH → Option (Int32 × AH)
  | 0, _, _, _ => none
  | n + 1, r2, r3, h => (if r3 = none then rZ (0 : Int32) h else rcv h 0 r3 (fun b1003 => bnd (f_R_isWholeTable b1003 h) (fun x1002 h1001 => (if x1002 = 0 then rcv h1001 0 r3 (fun b1006 => bnd (f_R_isSameAs b1006 r2 h1001) (fun x1005 h1004 => (if x1005 = 0 then (fR h1004 0 4 r3).bind (fun r1007 => f_T_isCovered_b16 n r2 r1007 h1004) else rZ (1 : Int32) h1004))) else rZ (1 : Int32) h1001))))
def f_T_isCovered (a0 : Nat) (x1 : Int32) (r2 : Option Nat) (h : AH) : Option (Int32 × AH) := bnd (f_D_isTable x1 h) (fun x102 h101 => (if x102 = 0 then rZ (0 : Int32) h101 else (fR h101 1 7 (some a0)).bind (fun r103 => (lR h101 3 r103 x1).bind (fun r104 => f_T_isCovered_b16 2000 r2 r104 h101))))
set_option maxHeartbeats 4000000 in
set_option maxRecDepth 100000 in
theorem x_T_isCovered_b16 {p : Program} {l : Launch} {e : Env} {k1 k2 : Nat} {s : State} {m : MethodId} {args : Array Value} {below : List Frame} {meth : Method} {c : Code} {B : AB} {n0 m0 : Nat} : ∀ (n : Nat) (r2 : Option Nat) (r3 : Option Nat) (h : AH), X_T_isCovered p l e k1 k2 s m args below meth c B n0 m0 h 16 [(2, va_rf r2), (3, va_rf r3)] [] (f_T_isCovered_b16 n r2 r3 h) := by
  intro n
  induction n with
  | zero => intro r2 r3 h; exact x_none
  | succ n ih =>
    intro r2 r3 h
    rw [f_T_isCovered_b16]
    refine x_go (pc' := 17) (st' := [va_rf r3]) (fun hC _ _ _ _ _ _ hl k => lv_aload_nq (r := r3) hC.1 hC.2.1 d_T_isCovered_16 rfl (lv_at hl 1 rfl) k) ?_
    refine x_if (P := r3 = none) (pt := 45) (pf := 20) (st' := []) (fun hC _ _ _ _ _ _ kt kf => lv_ifnull_q (r := r3) (tgt := 45) hC.1 hC.2.1 d_T_isCovered_17 (by decide) kt kf) ?_ ?_
    · refine x_go (pc' := 46) (st' := [.int (0 : Int32)]) (fun hC _ _ _ _ _ _ hl k => lv_iconst (v := 0) hC.1 hC.2.1 d_T_isCovered_45 (by decide) k) ?_
      exact x_zret d_T_isCovered_46
    · refine x_go (pc' := 21) (st' := [va_rf r3]) (fun hC _ _ _ _ _ _ hl k => lv_aload_nq (r := r3) hC.1 hC.2.1 d_T_isCovered_20 rfl (lv_at hl 1 rfl) k) ?_
      refine x_recv (ci := 0) (r := r3) (fun b1003 _ eb1003 gb1003 => ?_)
      refine x_callI (rest := []) (c_R_isWholeTable l B b1003 h) (fun hC => fun e1 e2 e3 e4 hM => fun hR hsz hc hs => run_V (n := 0) hC lw_good rfl rfl tw_148 tw_149 tw_150 tw_5 tw_151 (by decide) d_T_isCovered_21 gb1003 (by rw [e1]; exact Nat.le_of_ble_eq_true rfl) (by rw [e2]; exact Nat.le_of_ble_eq_true rfl) e3 e4 hM hR hsz hc hs rfl (by cases eb1003; rfl) (Nat.le_of_ble_eq_true rfl)) (fun x1002 h1001 => ?_)
      refine x_if (P := x1002 = 0) (pt := 27) (pf := 35) (st' := []) (fun hC _ _ _ _ _ _ kt kf => lv_if_ne (tgt := 35) hC.1 hC.2.1 d_T_isCovered_24 (by decide) kf kt) ?_ ?_
      · refine x_go (pc' := 28) (st' := [va_rf r3]) (fun hC _ _ _ _ _ _ hl k => lv_aload_nq (r := r3) hC.1 hC.2.1 d_T_isCovered_27 rfl (lv_at hl 1 rfl) k) ?_
        refine x_go (pc' := 29) (st' := [va_rf r2, va_rf r3]) (fun hC _ _ _ _ _ _ hl k => lv_aload_nq (r := r2) hC.1 hC.2.1 d_T_isCovered_28 rfl (lv_at hl 0 rfl) k) ?_
        refine x_recv (ci := 0) (r := r3) (fun b1006 _ eb1006 gb1006 => ?_)
        refine x_callI (rest := []) (c_R_isSameAs l B b1006 r2 h1001) (fun hC => fun e1 e2 e3 e4 hM => fun hR hsz hc hs => run_V (n := 1) hC lw_good rfl rfl tw_152 tw_153 tw_154 tw_5 tw_155 (by decide) d_T_isCovered_29 gb1006 (by rw [e1]; exact Nat.le_of_ble_eq_true rfl) (by rw [e2]; exact Nat.le_of_ble_eq_true rfl) e3 e4 hM hR hsz hc hs rfl (by cases eb1006; rfl) (Nat.le_of_ble_eq_true rfl)) (fun x1005 h1004 => ?_)
        refine x_if (P := x1005 = 0) (pt := 37) (pf := 35) (st' := []) (fun hC _ _ _ _ _ _ kt kf => lv_if_eq (tgt := 37) hC.1 hC.2.1 d_T_isCovered_32 (by decide) kt kf) ?_ ?_
        · refine x_go (pc' := 38) (st' := [va_rf r3]) (fun hC _ _ _ _ _ _ hl k => lv_aload_nq (r := r3) hC.1 hC.2.1 d_T_isCovered_37 rfl (lv_at hl 1 rfl) k) ?_
          refine x_getR (ci := 0) (kf := 4) (r := r3) (fun hC => w_getN (host := "SerialDesk") hC iw_0 rfl 4 (by decide) (List.mem_of_getElem? (i := 1) rfl) rfl d_T_isCovered_38) (fun r1007 => ?_)
          refine x_lift (pc' := 42) (st' := []) (lv' := [(3, va_rf r1007), (2, va_rf r2)]) (fun hC _ _ _ _ _ _ hl k => lv_astore_nq (r := r1007) (i := 3) hC.1 hC.2.1 d_T_isCovered_41 rfl hl (by decide) (by simp [rf_cat, cat_i, cat_l, cat_r]) k) ?_
          refine x_go (pc' := 16) (st' := []) (fun hC _ _ _ _ _ _ hl k => lv_goto (tgt := 16) hC.1 hC.2.1 d_T_isCovered_42 (by decide) k) ?_
          exact x_sub (lv' := [(2, va_rf r2), (3, va_rf r1007)]) [1, 0] rfl (ih r2 r1007 h1004)
        · refine x_go (pc' := 36) (st' := [.int (1 : Int32)]) (fun hC _ _ _ _ _ _ hl k => lv_iconst (v := 1) hC.1 hC.2.1 d_T_isCovered_35 (by decide) k) ?_
          exact x_zret d_T_isCovered_36
      · refine x_go (pc' := 36) (st' := [.int (1 : Int32)]) (fun hC _ _ _ _ _ _ hl k => lv_iconst (v := 1) hC.1 hC.2.1 d_T_isCovered_35 (by decide) k) ?_
        exact x_zret d_T_isCovered_36
set_option maxHeartbeats 4000000 in
set_option maxRecDepth 100000 in
theorem c_T_isCovered (l : Launch) (B : AB) (a0 : Nat) (x1 : Int32) (r2 : Option Nat) (h : AH) : CT l B y_T_isCovered (Cond.code y_T_isCovered b_T_isCovered 4 (Option.some Jvm.ClassFile.FieldType.boolean) :: lw_tt) 2 42 eI [.ref a0, .int x1, va_rf r2] h (f_T_isCovered a0 x1 r2 h) := by
  refine ct_of (own := o_T) (nm := "isCovered") (by decide +kernel) rfl rfl (by simp [lg_sl, rf_cat, cat_i, cat_l, cat_r]) (fun p e k1 k2 s m args below meth c => ?_)
  refine x_sub (lv' := [(0, .ref a0), (1, .int x1), (2, va_rf r2)]) [0, 1, 2] (by simp [lv_pick, lv_args, rf_cat, cat_i, cat_l, cat_r]) ?_
  unfold f_T_isCovered
  refine x_go (pc' := 1) (st' := [.int x1]) (fun hC _ _ _ _ _ _ hl k => lv_iload_n hC.1 hC.2.1 d_T_isCovered_0 rfl (lv_at hl 1 rfl) k) ?_
  refine x_callI (rest := []) (c_D_isTable l B x1 h) (fun hC => fun e1 e2 e3 e4 hM => fun hR hsz hc hs => run_SN (host := "SerialDesk") (n := 1) hC lw_good (List.mem_of_getElem? (i := 1) rfl) tw_111 tw_1 tw_112 (by decide) d_T_isCovered_1 (by rw [e1]; exact Nat.le_of_ble_eq_true rfl) (by rw [e2]; exact Nat.le_of_ble_eq_true rfl) e3 e4 hM hR hsz hc hs rfl rfl (Nat.le_of_ble_eq_true rfl)) (fun x102 h101 => ?_)
  refine x_if (P := x102 = 0) (pt := 7) (pf := 9) (st' := []) (fun hC _ _ _ _ _ _ kt kf => lv_if_ne (tgt := 9) hC.1 hC.2.1 d_T_isCovered_4 (by decide) kf kt) ?_ ?_
  · refine x_go (pc' := 8) (st' := [.int (0 : Int32)]) (fun hC _ _ _ _ _ _ hl k => lv_iconst (v := 0) hC.1 hC.2.1 d_T_isCovered_7 (by decide) k) ?_
    exact x_zret d_T_isCovered_8
  · refine x_go (pc' := 10) (st' := [.ref a0]) (fun hC _ _ _ _ _ _ hl k => lv_aload_n hC.1 hC.2.1 d_T_isCovered_9 rfl (lv_at hl 0 rfl) k) ?_
    refine x_getR (ci := 1) (kf := 7) (r := (some a0)) (fun hC => w_get hC iw_1 rfl 7 (by decide) tw_80 rfl d_T_isCovered_10) (fun r103 => ?_)
    refine x_go (pc' := 14) (st' := [.int x1, va_rf r103]) (fun hC _ _ _ _ _ _ hl k => lv_iload_n hC.1 hC.2.1 d_T_isCovered_13 rfl (lv_at hl 1 rfl) k) ?_
    refine x_aald (t := 3) rfl rfl (r := r103) (i := x1) d_T_isCovered_14 (fun r104 => ?_)
    refine x_lift (pc' := 16) (st' := []) (lv' := [(3, va_rf r104), (0, .ref a0), (1, .int x1), (2, va_rf r2)]) (fun hC _ _ _ _ _ _ hl k => lv_astore_nq (r := r104) (i := 3) hC.1 hC.2.1 d_T_isCovered_15 rfl hl (by decide) (by simp [rf_cat, cat_i, cat_l, cat_r]) k) ?_
    exact x_sub (lv' := [(2, va_rf r2), (3, va_rf r104)]) [3, 0] rfl (x_T_isCovered_b16 2000 r2 r104 h101)
/-! SerialDesk$Transaction.addRange(ILSerialDesk$Range;)I -/
theorem d_T_addRange_0 : decode b_T_addRange 0 = .ok (.iload_n 1, 1) := by decide +kernel
theorem d_T_addRange_1 : decode b_T_addRange 1 = .ok (.invokestatic 55, 3) := by decide +kernel
theorem d_T_addRange_4 : decode b_T_addRange 4 = .ok (.ifCond .ne 5, 3) := by decide +kernel
theorem d_T_addRange_7 : decode b_T_addRange 7 = .ok (.iconst (-1), 1) := by decide +kernel
theorem d_T_addRange_8 : decode b_T_addRange 8 = .ok (.ireturn, 1) := by decide +kernel
theorem d_T_addRange_9 : decode b_T_addRange 9 = .ok (.aload_n 0, 1) := by decide +kernel
theorem d_T_addRange_10 : decode b_T_addRange 10 = .ok (.iload_n 1, 1) := by decide +kernel
theorem d_T_addRange_11 : decode b_T_addRange 11 = .ok (.aload_n 2, 1) := by decide +kernel
theorem d_T_addRange_12 : decode b_T_addRange 12 = .ok (.invokevirtual 59, 3) := by decide +kernel
theorem d_T_addRange_15 : decode b_T_addRange 15 = .ok (.ifCond .eq 10, 3) := by decide +kernel
theorem d_T_addRange_18 : decode b_T_addRange 18 = .ok (.aload_n 0, 1) := by decide +kernel
theorem d_T_addRange_19 : decode b_T_addRange 19 = .ok (.getfield 41, 3) := by decide +kernel
theorem d_T_addRange_22 : decode b_T_addRange 22 = .ok (.iload_n 1, 1) := by decide +kernel
theorem d_T_addRange_23 : decode b_T_addRange 23 = .ok (.iaload, 1) := by decide +kernel
theorem d_T_addRange_24 : decode b_T_addRange 24 = .ok (.ireturn, 1) := by decide +kernel
theorem d_T_addRange_25 : decode b_T_addRange 25 = .ok (.aload_n 0, 1) := by decide +kernel
theorem d_T_addRange_26 : decode b_T_addRange 26 = .ok (.getfield 41, 3) := by decide +kernel
theorem d_T_addRange_29 : decode b_T_addRange 29 = .ok (.iload_n 1, 1) := by decide +kernel
theorem d_T_addRange_30 : decode b_T_addRange 30 = .ok (.iaload, 1) := by decide +kernel
theorem d_T_addRange_31 : decode b_T_addRange 31 = .ok (.bipush 8, 2) := by decide +kernel
theorem d_T_addRange_33 : decode b_T_addRange 33 = .ok (.if_icmp .lt 21, 3) := by decide +kernel
theorem d_T_addRange_36 : decode b_T_addRange 36 = .ok (.aload_n 0, 1) := by decide +kernel
theorem d_T_addRange_37 : decode b_T_addRange 37 = .ok (.getfield 37, 3) := by decide +kernel
theorem d_T_addRange_40 : decode b_T_addRange 40 = .ok (.iload_n 1, 1) := by decide +kernel
theorem d_T_addRange_41 : decode b_T_addRange 41 = .ok (.invokestatic 63, 3) := by decide +kernel
theorem d_T_addRange_44 : decode b_T_addRange 44 = .ok (.aastore, 1) := by decide +kernel
theorem d_T_addRange_45 : decode b_T_addRange 45 = .ok (.aload_n 0, 1) := by decide +kernel
theorem d_T_addRange_46 : decode b_T_addRange 46 = .ok (.getfield 41, 3) := by decide +kernel
theorem d_T_addRange_49 : decode b_T_addRange 49 = .ok (.iload_n 1, 1) := by decide +kernel
theorem d_T_addRange_50 : decode b_T_addRange 50 = .ok (.iconst 1, 1) := by decide +kernel
theorem d_T_addRange_51 : decode b_T_addRange 51 = .ok (.iastore, 1) := by decide +kernel
theorem d_T_addRange_52 : decode b_T_addRange 52 = .ok (.iconst 1, 1) := by decide +kernel
theorem d_T_addRange_53 : decode b_T_addRange 53 = .ok (.ireturn, 1) := by decide +kernel
theorem d_T_addRange_54 : decode b_T_addRange 54 = .ok (.aload_n 2, 1) := by decide +kernel
theorem d_T_addRange_55 : decode b_T_addRange 55 = .ok (.aload_n 0, 1) := by decide +kernel
theorem d_T_addRange_56 : decode b_T_addRange 56 = .ok (.getfield 37, 3) := by decide +kernel
theorem d_T_addRange_59 : decode b_T_addRange 59 = .ok (.iload_n 1, 1) := by decide +kernel
theorem d_T_addRange_60 : decode b_T_addRange 60 = .ok (.aaload, 1) := by decide +kernel
theorem d_T_addRange_61 : decode b_T_addRange 61 = .ok (.putfield 67, 3) := by decide +kernel
theorem d_T_addRange_64 : decode b_T_addRange 64 = .ok (.aload_n 0, 1) := by decide +kernel
theorem d_T_addRange_65 : decode b_T_addRange 65 = .ok (.getfield 37, 3) := by decide +kernel
theorem d_T_addRange_68 : decode b_T_addRange 68 = .ok (.iload_n 1, 1) := by decide +kernel
theorem d_T_addRange_69 : decode b_T_addRange 69 = .ok (.aload_n 2, 1) := by decide +kernel
theorem d_T_addRange_70 : decode b_T_addRange 70 = .ok (.aastore, 1) := by decide +kernel
theorem d_T_addRange_71 : decode b_T_addRange 71 = .ok (.aload_n 0, 1) := by decide +kernel
theorem d_T_addRange_72 : decode b_T_addRange 72 = .ok (.getfield 41, 3) := by decide +kernel
theorem d_T_addRange_75 : decode b_T_addRange 75 = .ok (.iload_n 1, 1) := by decide +kernel
theorem d_T_addRange_76 : decode b_T_addRange 76 = .ok (.dup2, 1) := by decide +kernel
theorem d_T_addRange_77 : decode b_T_addRange 77 = .ok (.iaload, 1) := by decide +kernel
theorem d_T_addRange_78 : decode b_T_addRange 78 = .ok (.iconst 1, 1) := by decide +kernel
theorem d_T_addRange_79 : decode b_T_addRange 79 = .ok (.iadd, 1) := by decide +kernel
theorem d_T_addRange_80 : decode b_T_addRange 80 = .ok (.iastore, 1) := by decide +kernel
theorem d_T_addRange_81 : decode b_T_addRange 81 = .ok (.aload_n 0, 1) := by decide +kernel
theorem d_T_addRange_82 : decode b_T_addRange 82 = .ok (.getfield 41, 3) := by decide +kernel
theorem d_T_addRange_85 : decode b_T_addRange 85 = .ok (.iload_n 1, 1) := by decide +kernel
theorem d_T_addRange_86 : decode b_T_addRange 86 = .ok (.iaload, 1) := by decide +kernel
theorem d_T_addRange_87 : decode b_T_addRange 87 = .ok (.ireturn, 1) := by decide +kernel
abbrev X_T_addRange (p : Program) (l : Launch) (e : Env) (k1 k2 : Nat) (s : State) (m : MethodId) (args : Array Value) (below : List Frame) (meth : Method) (c : Code) (B : AB) (n0 m0 : Nat) (h : AH) (pc : Nat) (lv : List (Nat × Value)) (st : List Value) (comp : Option (Int32 × AH)) : Prop := XX p l e { frames := 3, cells := k1, slots := k2, locals := 65 } s m args below meth c b_T_addRange o_T lw_tt 3 (Option.some Jvm.ClassFile.FieldType.int) "addRange" B n0 m0 (QM B below args s { frames := 3, cells := k1, slots := k2, locals := 65 } eI) h pc lv st comp
def f_T_addRange (a0 : Nat) (x1 : Int32) (r2 : Option Nat) (h : AH) : Option (Int32 × AH) := bnd (f_D_isTable x1 h) (fun x102 h101 => (if x102 = 0 then some ((-1 : Int32), h101) else rcv h101 1 (some a0) (fun b105 => bnd (f_T_isCovered b105 x1 r2 h101) (fun x104 h103 => (if x104 = 0 then (fR h103 1 8 (some a0)).bind (fun r106 => (lI h103 4 r106 x1).bind (fun x107 => (if x107 < (8 : Int32) then (fR h103 1 7 (some a0)).bind (fun r108 => (lR h103 3 r108 x1).bind (fun r109 => (pF h103 0 4 r2 (va_rf r109)).bind (fun h110 => (fR h110 1 7 (some a0)).bind (fun r111 => (qR h110 3 0 r111 x1 r2).bind (fun h112 => (fR h112 1 8 (some a0)).bind (fun r113 => (lI h112 4 r113 x1).bind (fun x114 => (pE h112 4 r113 x1 (.int (x114 + (1 : Int32)))).bind (fun h115 => (fR h115 1 8 (some a0)).bind (fun r116 => (lI h115 4 r116 x1).bind (fun x117 => some (x117, h115))))))))))) else (fR h103 1 7 (some a0)).bind (fun r118 => bnd (f_D_wholeTable h103) (fun r120 h119 => (qR h119 3 0 r118 x1 r120).bind (fun h121 => (fR h121 1 8 (some a0)).bind (fun r122 => (pE h121 4 r122 x1 (.int (1 : Int32))).bind (fun h123 => some ((1 : Int32), h123))))))))) else (fR h103 1 8 (some a0)).bind (fun r124 => (lI h103 4 r124 x1).bind (fun x125 => some (x125, h103))))))))
set_option maxHeartbeats 4000000 in
set_option maxRecDepth 100000 in
theorem c_T_addRange (l : Launch) (B : AB) (a0 : Nat) (x1 : Int32) (r2 : Option Nat) (h : AH) : CT l B y_T_addRange (Cond.code y_T_addRange b_T_addRange 3 (Option.some Jvm.ClassFile.FieldType.int) :: lw_tt) 3 65 eI [.ref a0, .int x1, va_rf r2] h (f_T_addRange a0 x1 r2 h) := by
  refine ct_of (own := o_T) (nm := "addRange") (by decide +kernel) rfl rfl (by simp [lg_sl, rf_cat, cat_i, cat_l, cat_r]) (fun p e k1 k2 s m args below meth c => ?_)
  refine x_sub (lv' := [(0, .ref a0), (1, .int x1), (2, va_rf r2)]) [0, 1, 2] (by simp [lv_pick, lv_args, rf_cat, cat_i, cat_l, cat_r]) ?_
  unfold f_T_addRange
  refine x_go (pc' := 1) (st' := [.int x1]) (fun hC _ _ _ _ _ _ hl k => lv_iload_n hC.1 hC.2.1 d_T_addRange_0 rfl (lv_at hl 1 rfl) k) ?_
  refine x_callI (rest := []) (c_D_isTable l B x1 h) (fun hC => fun e1 e2 e3 e4 hM => fun hR hsz hc hs => run_SN (host := "SerialDesk") (n := 1) hC lw_good (List.mem_of_getElem? (i := 1) rfl) tw_111 tw_1 tw_112 (by decide) d_T_addRange_1 (by rw [e1]; exact Nat.le_of_ble_eq_true rfl) (by rw [e2]; exact Nat.le_of_ble_eq_true rfl) e3 e4 hM hR hsz hc hs rfl rfl (Nat.le_of_ble_eq_true rfl)) (fun x102 h101 => ?_)
  refine x_if (P := x102 = 0) (pt := 7) (pf := 9) (st' := []) (fun hC _ _ _ _ _ _ kt kf => lv_if_ne (tgt := 9) hC.1 hC.2.1 d_T_addRange_4 (by decide) kf kt) ?_ ?_
  · refine x_go (pc' := 8) (st' := [.int (-1 : Int32)]) (fun hC _ _ _ _ _ _ hl k => lv_iconst (v := -1) hC.1 hC.2.1 d_T_addRange_7 (by decide) k) ?_
    exact x_iret d_T_addRange_8
  · refine x_go (pc' := 10) (st' := [.ref a0]) (fun hC _ _ _ _ _ _ hl k => lv_aload_n hC.1 hC.2.1 d_T_addRange_9 rfl (lv_at hl 0 rfl) k) ?_
    refine x_go (pc' := 11) (st' := [.int x1, .ref a0]) (fun hC _ _ _ _ _ _ hl k => lv_iload_n hC.1 hC.2.1 d_T_addRange_10 rfl (lv_at hl 1 rfl) k) ?_
    refine x_go (pc' := 12) (st' := [va_rf r2, .int x1, .ref a0]) (fun hC _ _ _ _ _ _ hl k => lv_aload_nq (r := r2) hC.1 hC.2.1 d_T_addRange_11 rfl (lv_at hl 2 rfl) k) ?_
    refine x_recv (ci := 1) (r := (some a0)) (fun b105 _ eb105 gb105 => ?_)
    refine x_callI (rest := []) (c_T_isCovered l B b105 x1 r2 h101) (fun hC => fun e1 e2 e3 e4 hM => fun hR hsz hc hs => run_V (n := 2) hC lw_good rfl rfl tw_144 tw_146 tv_2 tw_4 tw_147 (by decide) d_T_addRange_12 gb105 (by rw [e1]; exact Nat.le_of_ble_eq_true rfl) (by rw [e2]; exact Nat.le_of_ble_eq_true rfl) e3 e4 hM hR hsz hc hs rfl (by cases eb105; rfl) (Nat.le_of_ble_eq_true rfl)) (fun x104 h103 => ?_)
    refine x_if (P := x104 = 0) (pt := 25) (pf := 18) (st' := []) (fun hC _ _ _ _ _ _ kt kf => lv_if_eq (tgt := 25) hC.1 hC.2.1 d_T_addRange_15 (by decide) kt kf) ?_ ?_
    · refine x_go (pc' := 26) (st' := [.ref a0]) (fun hC _ _ _ _ _ _ hl k => lv_aload_n hC.1 hC.2.1 d_T_addRange_25 rfl (lv_at hl 0 rfl) k) ?_
      refine x_getR (ci := 1) (kf := 8) (r := (some a0)) (fun hC => w_get hC iw_1 rfl 8 (by decide) tw_81 rfl d_T_addRange_26) (fun r106 => ?_)
      refine x_go (pc' := 30) (st' := [.int x1, va_rf r106]) (fun hC _ _ _ _ _ _ hl k => lv_iload_n hC.1 hC.2.1 d_T_addRange_29 rfl (lv_at hl 1 rfl) k) ?_
      refine x_iald (t := 4) rfl (r := r106) (i := x1) d_T_addRange_30 (fun x107 => ?_)
      refine x_go (pc' := 33) (st' := [.int (8 : Int32), .int x107]) (fun hC _ _ _ _ _ _ hl k => lv_bipush (v := 8) hC.1 hC.2.1 d_T_addRange_31 (by decide) k) ?_
      refine x_if (P := x107 < (8 : Int32)) (pt := 54) (pf := 36) (st' := []) (fun hC _ _ _ _ _ _ kt kf => lv_icmp_lt (tgt := 54) hC.1 hC.2.1 d_T_addRange_33 (by decide) kt kf) ?_ ?_
      · refine x_go (pc' := 55) (st' := [va_rf r2]) (fun hC _ _ _ _ _ _ hl k => lv_aload_nq (r := r2) hC.1 hC.2.1 d_T_addRange_54 rfl (lv_at hl 2 rfl) k) ?_
        refine x_go (pc' := 56) (st' := [.ref a0, va_rf r2]) (fun hC _ _ _ _ _ _ hl k => lv_aload_n hC.1 hC.2.1 d_T_addRange_55 rfl (lv_at hl 0 rfl) k) ?_
        refine x_getR (ci := 1) (kf := 7) (r := (some a0)) (fun hC => w_get hC iw_1 rfl 7 (by decide) tw_80 rfl d_T_addRange_56) (fun r108 => ?_)
        refine x_go (pc' := 60) (st' := [.int x1, va_rf r108, va_rf r2]) (fun hC _ _ _ _ _ _ hl k => lv_iload_n hC.1 hC.2.1 d_T_addRange_59 rfl (lv_at hl 1 rfl) k) ?_
        refine x_aald (t := 3) rfl rfl (r := r108) (i := x1) d_T_addRange_60 (fun r109 => ?_)
        refine x_putF (ci := 0) (kf := 4) (r := r2) (v := va_rf r109) (fun hC => w_putN (host := "SerialDesk") (ty := .object "SerialDesk$Range") hC iw_0 ft_0 ft_0_ok fn_0 rfl 4 (by decide) (List.mem_of_getElem? (i := 1) rfl) rfl rfl (by decide +kernel) (rf_nar _ _) (rf_fit _ _) d_T_addRange_61) (fun h110 => ?_)
        refine x_go (pc' := 65) (st' := [.ref a0]) (fun hC _ _ _ _ _ _ hl k => lv_aload_n hC.1 hC.2.1 d_T_addRange_64 rfl (lv_at hl 0 rfl) k) ?_
        refine x_getR (ci := 1) (kf := 7) (r := (some a0)) (fun hC => w_get hC iw_1 rfl 7 (by decide) tw_80 rfl d_T_addRange_65) (fun r111 => ?_)
        refine x_go (pc' := 69) (st' := [.int x1, va_rf r111]) (fun hC _ _ _ _ _ _ hl k => lv_iload_n hC.1 hC.2.1 d_T_addRange_68 rfl (lv_at hl 1 rfl) k) ?_
        refine x_go (pc' := 70) (st' := [va_rf r2, .int x1, va_rf r111]) (fun hC _ _ _ _ _ _ hl k => lv_aload_nq (r := r2) hC.1 hC.2.1 d_T_addRange_69 rfl (lv_at hl 2 rfl) k) ?_
        refine x_aast (t := 3) (ci := 0) rfl rfl (r := r111) (x := r2) (i := x1) d_T_addRange_70 (fun h112 => ?_)
        refine x_go (pc' := 72) (st' := [.ref a0]) (fun hC _ _ _ _ _ _ hl k => lv_aload_n hC.1 hC.2.1 d_T_addRange_71 rfl (lv_at hl 0 rfl) k) ?_
        refine x_getR (ci := 1) (kf := 8) (r := (some a0)) (fun hC => w_get hC iw_1 rfl 8 (by decide) tw_81 rfl d_T_addRange_72) (fun r113 => ?_)
        refine x_go (pc' := 76) (st' := [.int x1, va_rf r113]) (fun hC _ _ _ _ _ _ hl k => lv_iload_n hC.1 hC.2.1 d_T_addRange_75 rfl (lv_at hl 1 rfl) k) ?_
        refine x_go (pc' := 77) (st' := [.int x1, va_rf r113, .int x1, va_rf r113]) (fun hC _ _ _ _ _ _ hl k => lv_dup2_11 hC.1 hC.2.1 d_T_addRange_76 rfl (rf_cat _) k) ?_
        refine x_iald (t := 4) rfl (r := r113) (i := x1) d_T_addRange_77 (fun x114 => ?_)
        refine x_go (pc' := 79) (st' := [.int (1 : Int32), .int x114, .int x1, va_rf r113]) (fun hC _ _ _ _ _ _ hl k => lv_iconst (v := 1) hC.1 hC.2.1 d_T_addRange_78 (by decide) k) ?_
        refine x_go (pc' := 80) (st' := [.int (x114 + (1 : Int32)), .int x1, va_rf r113]) (fun hC _ _ _ _ _ _ hl k => lv_iadd hC.1 hC.2.1 d_T_addRange_79 k) ?_
        refine x_iast (t := 4) rfl (r := r113) (i := x1) (x := (x114 + (1 : Int32))) d_T_addRange_80 (fun h115 => ?_)
        refine x_go (pc' := 82) (st' := [.ref a0]) (fun hC _ _ _ _ _ _ hl k => lv_aload_n hC.1 hC.2.1 d_T_addRange_81 rfl (lv_at hl 0 rfl) k) ?_
        refine x_getR (ci := 1) (kf := 8) (r := (some a0)) (fun hC => w_get hC iw_1 rfl 8 (by decide) tw_81 rfl d_T_addRange_82) (fun r116 => ?_)
        refine x_go (pc' := 86) (st' := [.int x1, va_rf r116]) (fun hC _ _ _ _ _ _ hl k => lv_iload_n hC.1 hC.2.1 d_T_addRange_85 rfl (lv_at hl 1 rfl) k) ?_
        refine x_iald (t := 4) rfl (r := r116) (i := x1) d_T_addRange_86 (fun x117 => ?_)
        exact x_iret d_T_addRange_87
      · refine x_go (pc' := 37) (st' := [.ref a0]) (fun hC _ _ _ _ _ _ hl k => lv_aload_n hC.1 hC.2.1 d_T_addRange_36 rfl (lv_at hl 0 rfl) k) ?_
        refine x_getR (ci := 1) (kf := 7) (r := (some a0)) (fun hC => w_get hC iw_1 rfl 7 (by decide) tw_80 rfl d_T_addRange_37) (fun r118 => ?_)
        refine x_go (pc' := 41) (st' := [.int x1, va_rf r118]) (fun hC _ _ _ _ _ _ hl k => lv_iload_n hC.1 hC.2.1 d_T_addRange_40 rfl (lv_at hl 1 rfl) k) ?_
        refine x_callR (rest := [.int x1, va_rf r118]) (c_D_wholeTable l B h103) (fun hC => fun e1 e2 e3 e4 hM => fun hR hsz hc hs => run_SN (host := "SerialDesk") (n := 0) hC lw_good (List.mem_of_getElem? (i := 2) rfl) tw_114 tw_1 tw_115 (by decide) d_T_addRange_41 (by rw [e1]; exact Nat.le_of_ble_eq_true rfl) (by rw [e2]; exact Nat.le_of_ble_eq_true rfl) e3 e4 hM hR hsz hc hs rfl rfl (by simp [rf_cat, cat_i, cat_l, cat_r])) (fun r120 h119 => ?_)
        refine x_aast (t := 3) (ci := 0) rfl rfl (r := r118) (x := r120) (i := x1) d_T_addRange_44 (fun h121 => ?_)
        refine x_go (pc' := 46) (st' := [.ref a0]) (fun hC _ _ _ _ _ _ hl k => lv_aload_n hC.1 hC.2.1 d_T_addRange_45 rfl (lv_at hl 0 rfl) k) ?_
        refine x_getR (ci := 1) (kf := 8) (r := (some a0)) (fun hC => w_get hC iw_1 rfl 8 (by decide) tw_81 rfl d_T_addRange_46) (fun r122 => ?_)
        refine x_go (pc' := 50) (st' := [.int x1, va_rf r122]) (fun hC _ _ _ _ _ _ hl k => lv_iload_n hC.1 hC.2.1 d_T_addRange_49 rfl (lv_at hl 1 rfl) k) ?_
        refine x_go (pc' := 51) (st' := [.int (1 : Int32), .int x1, va_rf r122]) (fun hC _ _ _ _ _ _ hl k => lv_iconst (v := 1) hC.1 hC.2.1 d_T_addRange_50 (by decide) k) ?_
        refine x_iast (t := 4) rfl (r := r122) (i := x1) (x := (1 : Int32)) d_T_addRange_51 (fun h123 => ?_)
        refine x_go (pc' := 53) (st' := [.int (1 : Int32)]) (fun hC _ _ _ _ _ _ hl k => lv_iconst (v := 1) hC.1 hC.2.1 d_T_addRange_52 (by decide) k) ?_
        exact x_iret d_T_addRange_53
    · refine x_go (pc' := 19) (st' := [.ref a0]) (fun hC _ _ _ _ _ _ hl k => lv_aload_n hC.1 hC.2.1 d_T_addRange_18 rfl (lv_at hl 0 rfl) k) ?_
      refine x_getR (ci := 1) (kf := 8) (r := (some a0)) (fun hC => w_get hC iw_1 rfl 8 (by decide) tw_81 rfl d_T_addRange_19) (fun r124 => ?_)
      refine x_go (pc' := 23) (st' := [.int x1, va_rf r124]) (fun hC _ _ _ _ _ _ hl k => lv_iload_n hC.1 hC.2.1 d_T_addRange_22 rfl (lv_at hl 1 rfl) k) ?_
      refine x_iald (t := 4) rfl (r := r124) (i := x1) d_T_addRange_23 (fun x125 => ?_)
      exact x_iret d_T_addRange_24
/-! SerialDesk.read(IIIJJI)I -/
theorem d_D_read_0 : decode b_D_read 0 = .ok (.aload_n 0, 1) := by decide +kernel
theorem d_D_read_1 : decode b_D_read 1 = .ok (.iload_n 1, 1) := by decide +kernel
theorem d_D_read_2 : decode b_D_read 2 = .ok (.invokevirtual 49, 3) := by decide +kernel
theorem d_D_read_5 : decode b_D_read 5 = .ok (.astore 9, 2) := by decide +kernel
theorem d_D_read_7 : decode b_D_read 7 = .ok (.aload 9, 2) := by decide +kernel
theorem d_D_read_9 : decode b_D_read 9 = .ok (.ifnull 10, 3) := by decide +kernel
theorem d_D_read_12 : decode b_D_read 12 = .ok (.iload_n 2, 1) := by decide +kernel
theorem d_D_read_13 : decode b_D_read 13 = .ok (.invokestatic 53, 3) := by decide +kernel
theorem d_D_read_16 : decode b_D_read 16 = .ok (.ifCond .ne 5, 3) := by decide +kernel
theorem d_D_read_19 : decode b_D_read 19 = .ok (.iconst (-1), 1) := by decide +kernel
theorem d_D_read_20 : decode b_D_read 20 = .ok (.ireturn, 1) := by decide +kernel
theorem d_D_read_21 : decode b_D_read 21 = .ok (.iload_n 3, 1) := by decide +kernel
theorem d_D_read_22 : decode b_D_read 22 = .ok (.iconst (-1), 1) := by decide +kernel
theorem d_D_read_23 : decode b_D_read 23 = .ok (.if_icmp .ne 13, 3) := by decide +kernel
theorem d_D_read_26 : decode b_D_read 26 = .ok (.aload 9, 2) := by decide +kernel
theorem d_D_read_28 : decode b_D_read 28 = .ok (.iload_n 2, 1) := by decide +kernel
theorem d_D_read_29 : decode b_D_read 29 = .ok (.invokestatic 56, 3) := by decide +kernel
theorem d_D_read_32 : decode b_D_read 32 = .ok (.invokevirtual 60, 3) := by decide +kernel
theorem d_D_read_35 : decode b_D_read 35 = .ok (.ireturn, 1) := by decide +kernel
theorem d_D_read_36 : decode b_D_read 36 = .ok (.iload_n 3, 1) := by decide +kernel
theorem d_D_read_37 : decode b_D_read 37 = .ok (.invokestatic 64, 3) := by decide +kernel
theorem d_D_read_40 : decode b_D_read 40 = .ok (.ifCond .eq 15, 3) := by decide +kernel
theorem d_D_read_43 : decode b_D_read 43 = .ok (.iload 8, 2) := by decide +kernel
theorem d_D_read_45 : decode b_D_read 45 = .ok (.ifCond .lt 10, 3) := by decide +kernel
theorem d_D_read_48 : decode b_D_read 48 = .ok (.iload 8, 2) := by decide +kernel
theorem d_D_read_50 : decode b_D_read 50 = .ok (.bipush 15, 2) := by decide +kernel
theorem d_D_read_52 : decode b_D_read 52 = .ok (.if_icmp .le 5, 3) := by decide +kernel
theorem d_D_read_55 : decode b_D_read 55 = .ok (.iconst (-1), 1) := by decide +kernel
theorem d_D_read_56 : decode b_D_read 56 = .ok (.ireturn, 1) := by decide +kernel
theorem d_D_read_57 : decode b_D_read 57 = .ok (.aload 9, 2) := by decide +kernel
theorem d_D_read_59 : decode b_D_read 59 = .ok (.iload_n 2, 1) := by decide +kernel
theorem d_D_read_60 : decode b_D_read 60 = .ok (.new 67, 3) := by decide +kernel
theorem d_D_read_63 : decode b_D_read 63 = .ok (.dup, 1) := by decide +kernel
theorem d_D_read_64 : decode b_D_read 64 = .ok (.iload_n 3, 1) := by decide +kernel
theorem d_D_read_65 : decode b_D_read 65 = .ok (.lload 4, 2) := by decide +kernel
theorem d_D_read_67 : decode b_D_read 67 = .ok (.lload 6, 2) := by decide +kernel
theorem d_D_read_69 : decode b_D_read 69 = .ok (.iload 8, 2) := by decide +kernel
theorem d_D_read_71 : decode b_D_read 71 = .ok (.invokespecial 69, 3) := by decide +kernel
theorem d_D_read_74 : decode b_D_read 74 = .ok (.invokevirtual 60, 3) := by decide +kernel
theorem d_D_read_77 : decode b_D_read 77 = .ok (.ireturn, 1) := by decide +kernel
abbrev X_D_read (p : Program) (l : Launch) (e : Env) (k1 k2 : Nat) (s : State) (m : MethodId) (args : Array Value) (below : List Frame) (meth : Method) (c : Code) (B : AB) (n0 m0 : Nat) (h : AH) (pc : Nat) (lv : List (Nat × Value)) (st : List Value) (comp : Option (Int32 × AH)) : Prop := XX p l e { frames := 4, cells := k1, slots := k2, locals := 87 } s m args below meth c b_D_read o_D lw_tt 10 (Option.some Jvm.ClassFile.FieldType.int) "read" B n0 m0 (QM B below args s { frames := 4, cells := k1, slots := k2, locals := 87 } eI) h pc lv st comp
def f_D_read (a0 : Nat) (x1 : Int32) (x2 : Int32) (x3 : Int32) (x4 : Int64) (x6 : Int64) (x8 : Int32) (h : AH) : Option (Int32 × AH) := rcv h 3 (some a0) (fun b103 => bnd (f_D_runningIn b103 x1 h) (fun r102 h101 => (if r102 = none then some ((-1 : Int32), h101) else bnd (f_D_isTable x2 h101) (fun x105 h104 => (if x105 = 0 then some ((-1 : Int32), h104) else (if x3 = (-1 : Int32) then bnd (f_D_wholeTable h104) (fun r107 h106 => rcv h106 1 r102 (fun b110 => bnd (f_T_addRange b110 x2 r107 h106) (fun x109 h108 => some (x109, h108)))) else bnd (f_D_isColumn x3 h104) (fun x112 h111 => (if x112 = 0 then some ((-1 : Int32), h111) else (if x8 < 0 then some ((-1 : Int32), h111) else (if x8 ≤ (15 : Int32) then nOk h111 0 [.int 0, .long 0, .long 0, .int 0, .null] (fun a113 h114 => bndU (f_R_init a113 x3 x4 x6 x8 h114) (fun h115 => rcv h115 1 r102 (fun b118 => bnd (f_T_addRange b118 x2 (some a113) h115) (fun x117 h116 => some (x117, h116))))) else some ((-1 : Int32), h111)))))))))))
set_option maxHeartbeats 4000000 in
set_option maxRecDepth 100000 in
theorem c_D_read (l : Launch) (B : AB) (a0 : Nat) (x1 : Int32) (x2 : Int32) (x3 : Int32) (x4 : Int64) (x6 : Int64) (x8 : Int32) (h : AH) : CT l B y_D_read (Cond.code y_D_read b_D_read 10 (Option.some Jvm.ClassFile.FieldType.int) :: lw_tt) 4 87 eI [.ref a0, .int x1, .int x2, .int x3, .long x4, .long x6, .int x8] h (f_D_read a0 x1 x2 x3 x4 x6 x8 h) := by
  refine ct_of (own := o_D) (nm := "read") (by decide +kernel) rfl rfl (Nat.le_of_ble_eq_true rfl) (fun p e k1 k2 s m args below meth c => ?_)
  refine x_sub (lv' := [(0, .ref a0), (1, .int x1), (2, .int x2), (3, .int x3), (4, .long x4), (6, .long x6), (8, .int x8)]) [0, 1, 2, 3, 4, 5, 6] rfl ?_
  unfold f_D_read
  refine x_go (pc' := 1) (st' := [.ref a0]) (fun hC _ _ _ _ _ _ hl k => lv_aload_n hC.1 hC.2.1 d_D_read_0 rfl (lv_at hl 0 rfl) k) ?_
  refine x_go (pc' := 2) (st' := [.int x1, .ref a0]) (fun hC _ _ _ _ _ _ hl k => lv_iload_n hC.1 hC.2.1 d_D_read_1 rfl (lv_at hl 1 rfl) k) ?_
  refine x_recv (ci := 3) (r := (some a0)) (fun b103 _ eb103 gb103 => ?_)
  refine x_callR (rest := []) (c_D_runningIn l B b103 x1 h) (fun hC => fun e1 e2 e3 e4 hM => fun hR hsz hc hs => run_V (n := 1) hC lw_good rfl rfl tw_106 tw_108 tv_1 tw_1 tw_109 (by decide) d_D_read_2 gb103 (by rw [e1]; exact Nat.le_of_ble_eq_true rfl) (by rw [e2]; exact Nat.le_of_ble_eq_true rfl) e3 e4 hM hR hsz hc hs rfl (by cases eb103; rfl) (Nat.le_of_ble_eq_true rfl)) (fun r102 h101 => ?_)
  refine x_lift (pc' := 7) (st' := []) (lv' := [(9, va_rf r102), (0, .ref a0), (1, .int x1), (2, .int x2), (3, .int x3), (4, .long x4), (6, .long x6), (8, .int x8)]) (fun hC _ _ _ _ _ _ hl k => lv_astore_q (r := r102) (i := 9) hC.1 hC.2.1 d_D_read_5 hl (by decide) rfl k) ?_
  refine x_go (pc' := 9) (st' := [va_rf r102]) (fun hC _ _ _ _ _ _ hl k => lv_aload_q (r := r102) hC.1 hC.2.1 d_D_read_7 (lv_at hl 0 rfl) k) ?_
  refine x_if (P := r102 = none) (pt := 19) (pf := 12) (st' := []) (fun hC _ _ _ _ _ _ kt kf => lv_ifnull_q (r := r102) (tgt := 19) hC.1 hC.2.1 d_D_read_9 (by decide) kt kf) ?_ ?_
  · refine x_go (pc' := 20) (st' := [.int (-1 : Int32)]) (fun hC _ _ _ _ _ _ hl k => lv_iconst (v := -1) hC.1 hC.2.1 d_D_read_19 (by decide) k) ?_
    exact x_iret d_D_read_20
  · refine x_go (pc' := 13) (st' := [.int x2]) (fun hC _ _ _ _ _ _ hl k => lv_iload_n hC.1 hC.2.1 d_D_read_12 rfl (lv_at hl 3 rfl) k) ?_
    refine x_callI (rest := []) (c_D_isTable l B x2 h101) (fun hC => fun e1 e2 e3 e4 hM => fun hR hsz hc hs => run_S (n := 1) hC lw_good tw_110 tw_111 tw_1 tw_112 (by decide) d_D_read_13 (by rw [e1]; exact Nat.le_of_ble_eq_true rfl) (by rw [e2]; exact Nat.le_of_ble_eq_true rfl) e3 e4 hM hR hsz hc hs rfl rfl (Nat.le_of_ble_eq_true rfl)) (fun x105 h104 => ?_)
    refine x_if (P := x105 = 0) (pt := 19) (pf := 21) (st' := []) (fun hC _ _ _ _ _ _ kt kf => lv_if_ne (tgt := 21) hC.1 hC.2.1 d_D_read_16 (by decide) kf kt) ?_ ?_
    · refine x_go (pc' := 20) (st' := [.int (-1 : Int32)]) (fun hC _ _ _ _ _ _ hl k => lv_iconst (v := -1) hC.1 hC.2.1 d_D_read_19 (by decide) k) ?_
      exact x_iret d_D_read_20
    · refine x_go (pc' := 22) (st' := [.int x3]) (fun hC _ _ _ _ _ _ hl k => lv_iload_n hC.1 hC.2.1 d_D_read_21 rfl (lv_at hl 4 rfl) k) ?_
      refine x_go (pc' := 23) (st' := [.int (-1 : Int32), .int x3]) (fun hC _ _ _ _ _ _ hl k => lv_iconst (v := -1) hC.1 hC.2.1 d_D_read_22 (by decide) k) ?_
      refine x_if (P := x3 = (-1 : Int32)) (pt := 26) (pf := 36) (st' := []) (fun hC _ _ _ _ _ _ kt kf => lv_icmp_ne (tgt := 36) hC.1 hC.2.1 d_D_read_23 (by decide) kf kt) ?_ ?_
      · refine x_go (pc' := 28) (st' := [va_rf r102]) (fun hC _ _ _ _ _ _ hl k => lv_aload_q (r := r102) hC.1 hC.2.1 d_D_read_26 (lv_at hl 0 rfl) k) ?_
        refine x_go (pc' := 29) (st' := [.int x2, va_rf r102]) (fun hC _ _ _ _ _ _ hl k => lv_iload_n hC.1 hC.2.1 d_D_read_28 rfl (lv_at hl 3 rfl) k) ?_
        refine x_callR (rest := [.int x2, va_rf r102]) (c_D_wholeTable l B h104) (fun hC => fun e1 e2 e3 e4 hM => fun hR hsz hc hs => run_S (n := 0) hC lw_good tw_113 tw_114 tw_1 tw_115 (by decide) d_D_read_29 (by rw [e1]; exact Nat.le_of_ble_eq_true rfl) (by rw [e2]; exact Nat.le_of_ble_eq_true rfl) e3 e4 hM hR hsz hc hs rfl rfl (by simp [rf_cat, cat_i, cat_l, cat_r])) (fun r107 h106 => ?_)
        refine x_recv (ci := 1) (r := r102) (fun b110 _ eb110 gb110 => ?_)
        refine x_callI (rest := []) (c_T_addRange l B b110 x2 r107 h106) (fun hC => fun e1 e2 e3 e4 hM => fun hR hsz hc hs => run_V (n := 2) hC lw_good rfl rfl tw_139 tw_140 tw_141 tw_4 tw_142 (by decide) d_D_read_32 gb110 (by rw [e1]; exact Nat.le_of_ble_eq_true rfl) (by rw [e2]; exact Nat.le_of_ble_eq_true rfl) e3 e4 hM hR hsz hc hs rfl (by cases eb110; rfl) (Nat.le_of_ble_eq_true rfl)) (fun x109 h108 => ?_)
        exact x_iret d_D_read_35
      · refine x_go (pc' := 37) (st' := [.int x3]) (fun hC _ _ _ _ _ _ hl k => lv_iload_n hC.1 hC.2.1 d_D_read_36 rfl (lv_at hl 4 rfl) k) ?_
        refine x_callI (rest := []) (c_D_isColumn l B x3 h104) (fun hC => fun e1 e2 e3 e4 hM => fun hR hsz hc hs => run_S (n := 1) hC lw_good tw_161 tw_162 tw_1 tw_163 (by decide) d_D_read_37 (by rw [e1]; exact Nat.le_of_ble_eq_true rfl) (by rw [e2]; exact Nat.le_of_ble_eq_true rfl) e3 e4 hM hR hsz hc hs rfl rfl (Nat.le_of_ble_eq_true rfl)) (fun x112 h111 => ?_)
        refine x_if (P := x112 = 0) (pt := 55) (pf := 43) (st' := []) (fun hC _ _ _ _ _ _ kt kf => lv_if_eq (tgt := 55) hC.1 hC.2.1 d_D_read_40 (by decide) kt kf) ?_ ?_
        · refine x_go (pc' := 56) (st' := [.int (-1 : Int32)]) (fun hC _ _ _ _ _ _ hl k => lv_iconst (v := -1) hC.1 hC.2.1 d_D_read_55 (by decide) k) ?_
          exact x_iret d_D_read_56
        · refine x_go (pc' := 45) (st' := [.int x8]) (fun hC _ _ _ _ _ _ hl k => lv_iload hC.1 hC.2.1 d_D_read_43 (lv_at hl 7 rfl) k) ?_
          refine x_if (P := x8 < 0) (pt := 55) (pf := 48) (st' := []) (fun hC _ _ _ _ _ _ kt kf => lv_if_lt (tgt := 55) hC.1 hC.2.1 d_D_read_45 (by decide) kt kf) ?_ ?_
          · refine x_go (pc' := 56) (st' := [.int (-1 : Int32)]) (fun hC _ _ _ _ _ _ hl k => lv_iconst (v := -1) hC.1 hC.2.1 d_D_read_55 (by decide) k) ?_
            exact x_iret d_D_read_56
          · refine x_go (pc' := 50) (st' := [.int x8]) (fun hC _ _ _ _ _ _ hl k => lv_iload hC.1 hC.2.1 d_D_read_48 (lv_at hl 7 rfl) k) ?_
            refine x_go (pc' := 52) (st' := [.int (15 : Int32), .int x8]) (fun hC _ _ _ _ _ _ hl k => lv_bipush (v := 15) hC.1 hC.2.1 d_D_read_50 (by decide) k) ?_
            refine x_if (P := x8 ≤ (15 : Int32)) (pt := 57) (pf := 55) (st' := []) (fun hC _ _ _ _ _ _ kt kf => lv_icmp_le (tgt := 57) hC.1 hC.2.1 d_D_read_52 (by decide) kt kf) ?_ ?_
            · refine x_go (pc' := 59) (st' := [va_rf r102]) (fun hC _ _ _ _ _ _ hl k => lv_aload_q (r := r102) hC.1 hC.2.1 d_D_read_57 (lv_at hl 0 rfl) k) ?_
              refine x_go (pc' := 60) (st' := [.int x2, va_rf r102]) (fun hC _ _ _ _ _ _ hl k => lv_iload_n hC.1 hC.2.1 d_D_read_59 rfl (lv_at hl 3 rfl) k) ?_
              refine x_new (ci := 0) (fs := [.int 0, .long 0, .long 0, .int 0, .null]) iw_0 ft_0 ft_0_ok tw_116 tw_117 tw_5 rfl rfl (by decide) d_D_read_60 (fun a113 h114 => ?_)
              refine x_go (pc' := 64) (st' := [.ref a113, .ref a113, .int x2, va_rf r102]) (fun hC _ _ _ _ _ _ hl k => lv_dup hC.1 hC.2.1 d_D_read_63 rfl k) ?_
              refine x_go (pc' := 65) (st' := [.int x3, .ref a113, .ref a113, .int x2, va_rf r102]) (fun hC _ _ _ _ _ _ hl k => lv_iload_n hC.1 hC.2.1 d_D_read_64 rfl (lv_at hl 4 rfl) k) ?_
              refine x_go (pc' := 67) (st' := [.long x4, .int x3, .ref a113, .ref a113, .int x2, va_rf r102]) (fun hC _ _ _ _ _ _ hl k => lv_lload hC.1 hC.2.1 d_D_read_65 (lv_at hl 5 rfl) k) ?_
              refine x_go (pc' := 69) (st' := [.long x6, .long x4, .int x3, .ref a113, .ref a113, .int x2, va_rf r102]) (fun hC _ _ _ _ _ _ hl k => lv_lload hC.1 hC.2.1 d_D_read_67 (lv_at hl 6 rfl) k) ?_
              refine x_go (pc' := 71) (st' := [.int x8, .long x6, .long x4, .int x3, .ref a113, .ref a113, .int x2, va_rf r102]) (fun hC _ _ _ _ _ _ hl k => lv_iload hC.1 hC.2.1 d_D_read_69 (lv_at hl 7 rfl) k) ?_
              refine x_callU (rest := [.ref a113, .int x2, va_rf r102]) (c_R_init l B a113 x3 x4 x6 x8 h114) (fun hC => fun e1 e2 e3 e4 hM => fun hR hsz hc hs => run_I (n := 4) hC lw_good tw_118 tw_119 tw_5 tw_120 rfl (by decide) d_D_read_71 (by rw [e1]; exact Nat.le_of_ble_eq_true rfl) (by rw [e2]; exact Nat.le_of_ble_eq_true rfl) e3 e4 hM hR hsz hc hs rfl rfl (by simp [rf_cat, cat_i, cat_l, cat_r])) (fun h115 => ?_)
              refine x_recv (ci := 1) (r := r102) (fun b118 _ eb118 gb118 => ?_)
              refine x_callI (rest := []) (c_T_addRange l B b118 x2 (some a113) h115) (fun hC => fun e1 e2 e3 e4 hM => fun hR hsz hc hs => run_V (n := 2) hC lw_good rfl rfl tw_139 tw_140 tw_141 tw_4 tw_142 (by decide) d_D_read_74 gb118 (by rw [e1]; exact Nat.le_of_ble_eq_true rfl) (by rw [e2]; exact Nat.le_of_ble_eq_true rfl) e3 e4 hM hR hsz hc hs rfl (by cases eb118; rfl) (Nat.le_of_ble_eq_true rfl)) (fun x117 h116 => ?_)
              exact x_iret d_D_read_77
            · refine x_go (pc' := 56) (st' := [.int (-1 : Int32)]) (fun hC _ _ _ _ _ _ hl k => lv_iconst (v := -1) hC.1 hC.2.1 d_D_read_55 (by decide) k) ?_
              exact x_iret d_D_read_56
/-! SerialDesk$Version.fill(IJ)V -/
theorem d_V_fill_0 : decode b_V_fill 0 = .ok (.iload_n 1, 1) := by decide +kernel
theorem d_V_fill_1 : decode b_V_fill 1 = .ok (.invokestatic 19, 3) := by decide +kernel
theorem d_V_fill_4 : decode b_V_fill 4 = .ok (.ifCond .eq 17, 3) := by decide +kernel
theorem d_V_fill_7 : decode b_V_fill 7 = .ok (.aload_n 0, 1) := by decide +kernel
theorem d_V_fill_8 : decode b_V_fill 8 = .ok (.getfield 9, 3) := by decide +kernel
theorem d_V_fill_11 : decode b_V_fill 11 = .ok (.iload_n 1, 1) := by decide +kernel
theorem d_V_fill_12 : decode b_V_fill 12 = .ok (.lload_n 2, 1) := by decide +kernel
theorem d_V_fill_13 : decode b_V_fill 13 = .ok (.lastore, 1) := by decide +kernel
theorem d_V_fill_14 : decode b_V_fill 14 = .ok (.aload_n 0, 1) := by decide +kernel
theorem d_V_fill_15 : decode b_V_fill 15 = .ok (.getfield 15, 3) := by decide +kernel
theorem d_V_fill_18 : decode b_V_fill 18 = .ok (.iload_n 1, 1) := by decide +kernel
theorem d_V_fill_19 : decode b_V_fill 19 = .ok (.iconst 1, 1) := by decide +kernel
theorem d_V_fill_20 : decode b_V_fill 20 = .ok (.bastore, 1) := by decide +kernel
theorem d_V_fill_21 : decode b_V_fill 21 = .ok (.return_, 1) := by decide +kernel
abbrev X_V_fill (p : Program) (l : Launch) (e : Env) (k1 k2 : Nat) (s : State) (m : MethodId) (args : Array Value) (below : List Frame) (meth : Method) (c : Code) (B : AB) (n0 m0 : Nat) (h : AH) (pc : Nat) (lv : List (Nat × Value)) (st : List Value) (comp : Option (Unit × AH)) : Prop := XX p l e { frames := 1, cells := k1, slots := k2, locals := 20 } s m args below meth c b_V_fill o_V lw_tt 4 (Option.none : Option Jvm.ClassFile.FieldType) "fill" B n0 m0 (QM B below args s { frames := 1, cells := k1, slots := k2, locals := 20 } eU) h pc lv st comp
def f_V_fill (a0 : Nat) (x1 : Int32) (x2 : Int64) (h : AH) : Option (Unit × AH) := bnd (f_D_isColumn x1 h) (fun x102 h101 => (if x102 = 0 then some ((), h101) else (fR h101 2 0 (some a0)).bind (fun r103 => (pE h101 0 r103 x1 (.long x2)).bind (fun h104 => (fR h104 2 1 (some a0)).bind (fun r105 => (qE h104 1 r105 x1 (1 : Int32)).bind (fun h106 => some ((), h106)))))))
set_option maxHeartbeats 4000000 in
set_option maxRecDepth 100000 in
theorem c_V_fill (l : Launch) (B : AB) (a0 : Nat) (x1 : Int32) (x2 : Int64) (h : AH) : CT l B y_V_fill (Cond.code y_V_fill b_V_fill 4 (Option.none : Option Jvm.ClassFile.FieldType) :: lw_tt) 1 20 eU [.ref a0, .int x1, .long x2] h (f_V_fill a0 x1 x2 h) := by
  refine ct_of (own := o_V) (nm := "fill") (by decide +kernel) rfl rfl (Nat.le_of_ble_eq_true rfl) (fun p e k1 k2 s m args below meth c => ?_)
  refine x_sub (lv' := [(0, .ref a0), (1, .int x1), (2, .long x2)]) [0, 1, 2] rfl ?_
  unfold f_V_fill
  refine x_go (pc' := 1) (st' := [.int x1]) (fun hC _ _ _ _ _ _ hl k => lv_iload_n hC.1 hC.2.1 d_V_fill_0 rfl (lv_at hl 1 rfl) k) ?_
  refine x_callI (rest := []) (c_D_isColumn l B x1 h) (fun hC => fun e1 e2 e3 e4 hM => fun hR hsz hc hs => run_SN (host := "SerialDesk") (n := 1) hC lw_good (List.mem_of_getElem? (i := 3) rfl) tw_162 tw_1 tw_163 (by decide) d_V_fill_1 (by rw [e1]; exact Nat.le_of_ble_eq_true rfl) (by rw [e2]; exact Nat.le_of_ble_eq_true rfl) e3 e4 hM hR hsz hc hs rfl rfl (Nat.le_of_ble_eq_true rfl)) (fun x102 h101 => ?_)
  refine x_if (P := x102 = 0) (pt := 21) (pf := 7) (st' := []) (fun hC _ _ _ _ _ _ kt kf => lv_if_eq (tgt := 21) hC.1 hC.2.1 d_V_fill_4 (by decide) kt kf) ?_ ?_
  · exact x_vret d_V_fill_21
  · refine x_go (pc' := 8) (st' := [.ref a0]) (fun hC _ _ _ _ _ _ hl k => lv_aload_n hC.1 hC.2.1 d_V_fill_7 rfl (lv_at hl 0 rfl) k) ?_
    refine x_getR (ci := 2) (kf := 0) (r := (some a0)) (fun hC => w_get hC iw_2 rfl 0 (by decide) tw_20 rfl d_V_fill_8) (fun r103 => ?_)
    refine x_go (pc' := 12) (st' := [.int x1, va_rf r103]) (fun hC _ _ _ _ _ _ hl k => lv_iload_n hC.1 hC.2.1 d_V_fill_11 rfl (lv_at hl 1 rfl) k) ?_
    refine x_go (pc' := 13) (st' := [.long x2, .int x1, va_rf r103]) (fun hC _ _ _ _ _ _ hl k => lv_lload_n hC.1 hC.2.1 d_V_fill_12 rfl (lv_at hl 2 rfl) k) ?_
    refine x_last (t := 0) rfl (r := r103) (i := x1) (x := x2) d_V_fill_13 (fun h104 => ?_)
    refine x_go (pc' := 15) (st' := [.ref a0]) (fun hC _ _ _ _ _ _ hl k => lv_aload_n hC.1 hC.2.1 d_V_fill_14 rfl (lv_at hl 0 rfl) k) ?_
    refine x_getR (ci := 2) (kf := 1) (r := (some a0)) (fun hC => w_get hC iw_2 rfl 1 (by decide) tw_21 rfl d_V_fill_15) (fun r105 => ?_)
    refine x_go (pc' := 19) (st' := [.int x1, va_rf r105]) (fun hC _ _ _ _ _ _ hl k => lv_iload_n hC.1 hC.2.1 d_V_fill_18 rfl (lv_at hl 1 rfl) k) ?_
    refine x_go (pc' := 20) (st' := [.int (1 : Int32), .int x1, va_rf r105]) (fun hC _ _ _ _ _ _ hl k => lv_iconst (v := 1) hC.1 hC.2.1 d_V_fill_19 (by decide) k) ?_
    refine x_zast (t := 1) rfl (r := r105) (i := x1) (x := (1 : Int32)) d_V_fill_20 (fun h106 => ?_)
    exact x_vret d_V_fill_21
/-! SerialDesk.cell(IJ)Z -/
theorem d_D_cell_0 : decode b_D_cell 0 = .ok (.iload_n 1, 1) := by decide +kernel
theorem d_D_cell_1 : decode b_D_cell 1 = .ok (.invokestatic 64, 3) := by decide +kernel
theorem d_D_cell_4 : decode b_D_cell 4 = .ok (.ifCond .ne 5, 3) := by decide +kernel
theorem d_D_cell_7 : decode b_D_cell 7 = .ok (.iconst 0, 1) := by decide +kernel
theorem d_D_cell_8 : decode b_D_cell 8 = .ok (.ireturn, 1) := by decide +kernel
theorem d_D_cell_9 : decode b_D_cell 9 = .ok (.aload_n 0, 1) := by decide +kernel
theorem d_D_cell_10 : decode b_D_cell 10 = .ok (.getfield 12, 3) := by decide +kernel
theorem d_D_cell_13 : decode b_D_cell 13 = .ok (.iload_n 1, 1) := by decide +kernel
theorem d_D_cell_14 : decode b_D_cell 14 = .ok (.lload_n 2, 1) := by decide +kernel
theorem d_D_cell_15 : decode b_D_cell 15 = .ok (.invokevirtual 72, 3) := by decide +kernel
theorem d_D_cell_18 : decode b_D_cell 18 = .ok (.iconst 1, 1) := by decide +kernel
theorem d_D_cell_19 : decode b_D_cell 19 = .ok (.ireturn, 1) := by decide +kernel
abbrev X_D_cell (p : Program) (l : Launch) (e : Env) (k1 k2 : Nat) (s : State) (m : MethodId) (args : Array Value) (below : List Frame) (meth : Method) (c : Code) (B : AB) (n0 m0 : Nat) (h : AH) (pc : Nat) (lv : List (Nat × Value)) (st : List Value) (comp : Option (Int32 × AH)) : Prop := XX p l e { frames := 2, cells := k1, slots := k2, locals := 43 } s m args below meth c b_D_cell o_D lw_tt 4 (Option.some Jvm.ClassFile.FieldType.boolean) "cell" B n0 m0 (QM B below args s { frames := 2, cells := k1, slots := k2, locals := 43 } eI) h pc lv st comp
def f_D_cell (a0 : Nat) (x1 : Int32) (x2 : Int64) (h : AH) : Option (Int32 × AH) := bnd (f_D_isColumn x1 h) (fun x102 h101 => (if x102 = 0 then rZ (0 : Int32) h101 else (fR h101 3 0 (some a0)).bind (fun r103 => rcv h101 2 r103 (fun b105 => bndU (f_V_fill b105 x1 x2 h101) (fun h104 => rZ (1 : Int32) h104)))))
set_option maxHeartbeats 4000000 in
set_option maxRecDepth 100000 in
theorem c_D_cell (l : Launch) (B : AB) (a0 : Nat) (x1 : Int32) (x2 : Int64) (h : AH) : CT l B y_D_cell (Cond.code y_D_cell b_D_cell 4 (Option.some Jvm.ClassFile.FieldType.boolean) :: lw_tt) 2 43 eI [.ref a0, .int x1, .long x2] h (f_D_cell a0 x1 x2 h) := by
  refine ct_of (own := o_D) (nm := "cell") (by decide +kernel) rfl rfl (Nat.le_of_ble_eq_true rfl) (fun p e k1 k2 s m args below meth c => ?_)
  refine x_sub (lv' := [(0, .ref a0), (1, .int x1), (2, .long x2)]) [0, 1, 2] rfl ?_
  unfold f_D_cell
  refine x_go (pc' := 1) (st' := [.int x1]) (fun hC _ _ _ _ _ _ hl k => lv_iload_n hC.1 hC.2.1 d_D_cell_0 rfl (lv_at hl 1 rfl) k) ?_
  refine x_callI (rest := []) (c_D_isColumn l B x1 h) (fun hC => fun e1 e2 e3 e4 hM => fun hR hsz hc hs => run_S (n := 1) hC lw_good tw_161 tw_162 tw_1 tw_163 (by decide) d_D_cell_1 (by rw [e1]; exact Nat.le_of_ble_eq_true rfl) (by rw [e2]; exact Nat.le_of_ble_eq_true rfl) e3 e4 hM hR hsz hc hs rfl rfl (Nat.le_of_ble_eq_true rfl)) (fun x102 h101 => ?_)
  refine x_if (P := x102 = 0) (pt := 7) (pf := 9) (st' := []) (fun hC _ _ _ _ _ _ kt kf => lv_if_ne (tgt := 9) hC.1 hC.2.1 d_D_cell_4 (by decide) kf kt) ?_ ?_
  · refine x_go (pc' := 8) (st' := [.int (0 : Int32)]) (fun hC _ _ _ _ _ _ hl k => lv_iconst (v := 0) hC.1 hC.2.1 d_D_cell_7 (by decide) k) ?_
    exact x_zret d_D_cell_8
  · refine x_go (pc' := 10) (st' := [.ref a0]) (fun hC _ _ _ _ _ _ hl k => lv_aload_n hC.1 hC.2.1 d_D_cell_9 rfl (lv_at hl 0 rfl) k) ?_
    refine x_getR (ci := 3) (kf := 0) (r := (some a0)) (fun hC => w_get hC iw_3 rfl 0 (by decide) tw_31 rfl d_D_cell_10) (fun r103 => ?_)
    refine x_go (pc' := 14) (st' := [.int x1, va_rf r103]) (fun hC _ _ _ _ _ _ hl k => lv_iload_n hC.1 hC.2.1 d_D_cell_13 rfl (lv_at hl 1 rfl) k) ?_
    refine x_go (pc' := 15) (st' := [.long x2, .int x1, va_rf r103]) (fun hC _ _ _ _ _ _ hl k => lv_lload_n hC.1 hC.2.1 d_D_cell_14 rfl (lv_at hl 2 rfl) k) ?_
    refine x_recv (ci := 2) (r := r103) (fun b105 _ eb105 gb105 => ?_)
    refine x_callU (rest := []) (c_V_fill l B b105 x1 x2 h101) (fun hC => fun e1 e2 e3 e4 hM => fun hR hsz hc hs => run_V (n := 2) hC lw_good rfl rfl tw_168 tw_169 tw_170 tw_2 tw_171 (by decide) d_D_cell_15 gb105 (by rw [e1]; exact Nat.le_of_ble_eq_true rfl) (by rw [e2]; exact Nat.le_of_ble_eq_true rfl) e3 e4 hM hR hsz hc hs rfl (by cases eb105; rfl) (Nat.le_of_ble_eq_true rfl)) (fun h104 => ?_)
    refine x_go (pc' := 19) (st' := [.int (1 : Int32)]) (fun hC _ _ _ _ _ _ hl k => lv_iconst (v := 1) hC.1 hC.2.1 d_D_cell_18 (by decide) k) ?_
    exact x_zret d_D_cell_19
/-! SerialDesk$Version.empty()V -/
theorem d_V_empty_0 : decode b_V_empty 0 = .ok (.iconst 0, 1) := by decide +kernel
theorem d_V_empty_1 : decode b_V_empty 1 = .ok (.istore_n 1, 1) := by decide +kernel
theorem d_V_empty_2 : decode b_V_empty 2 = .ok (.iload_n 1, 1) := by decide +kernel
theorem d_V_empty_3 : decode b_V_empty 3 = .ok (.aload_n 0, 1) := by decide +kernel
theorem d_V_empty_4 : decode b_V_empty 4 = .ok (.getfield 15, 3) := by decide +kernel
theorem d_V_empty_7 : decode b_V_empty 7 = .ok (.arraylength, 1) := by decide +kernel
theorem d_V_empty_8 : decode b_V_empty 8 = .ok (.if_icmp .ge 16, 3) := by decide +kernel
theorem d_V_empty_11 : decode b_V_empty 11 = .ok (.aload_n 0, 1) := by decide +kernel
theorem d_V_empty_12 : decode b_V_empty 12 = .ok (.getfield 15, 3) := by decide +kernel
theorem d_V_empty_15 : decode b_V_empty 15 = .ok (.iload_n 1, 1) := by decide +kernel
theorem d_V_empty_16 : decode b_V_empty 16 = .ok (.iconst 0, 1) := by decide +kernel
theorem d_V_empty_17 : decode b_V_empty 17 = .ok (.bastore, 1) := by decide +kernel
theorem d_V_empty_18 : decode b_V_empty 18 = .ok (.iinc 1 1, 3) := by decide +kernel
theorem d_V_empty_21 : decode b_V_empty 21 = .ok (.goto (-19), 3) := by decide +kernel
theorem d_V_empty_24 : decode b_V_empty 24 = .ok (.return_, 1) := by decide +kernel
abbrev X_V_empty (p : Program) (l : Launch) (e : Env) (k1 k2 : Nat) (s : State) (m : MethodId) (args : Array Value) (below : List Frame) (meth : Method) (c : Code) (B : AB) (n0 m0 : Nat) (h : AH) (pc : Nat) (lv : List (Nat × Value)) (st : List Value) (comp : Option (Unit × AH)) : Prop := XX p l e { frames := 0, cells := k1, slots := k2, locals := 0 } s m args below meth c b_V_empty o_V lw_tt 2 (Option.none : Option Jvm.ClassFile.FieldType) "empty" B n0 m0 (QM B below args s { frames := 0, cells := k1, slots := k2, locals := 0 } eU) h pc lv st comp
def f_V_empty_b2 : Nat → Nat → Int32 → AH → Option (Unit × AH)
  | 0, _, _, _ => none
  | n + 1, a0, x1, h => (fR h 2 1 (some a0)).bind (fun r1001 => (gN h 1 r1001).bind (fun x1002 => (if x1002 ≤ x1 then some ((), h) else (fR h 2 1 (some a0)).bind (fun r1003 => (qE h 1 r1003 x1 (0 : Int32)).bind (fun h1004 => f_V_empty_b2 n a0 (x1 + 1) h1004)))))
def f_V_empty (a0 : Nat) (h : AH) : Option (Unit × AH) := f_V_empty_b2 2000 a0 (0 : Int32) h
set_option maxHeartbeats 4000000 in
set_option maxRecDepth 100000 in
theorem x_V_empty_b2 {p : Program} {l : Launch} {e : Env} {k1 k2 : Nat} {s : State} {m : MethodId} {args : Array Value} {below : List Frame} {meth : Method} {c : Code} {B : AB} {n0 m0 : Nat} : ∀ (n : Nat) (a0 : Nat) (x1 : Int32) (h : AH), X_V_empty p l e k1 k2 s m args below meth c B n0 m0 h 2 [(0, .ref a0), (1, .int x1)] [] (f_V_empty_b2 n a0 x1 h) := by
  intro n
  induction n with
  | zero => intro a0 x1 h; exact x_none
  | succ n ih =>
    intro a0 x1 h
    rw [f_V_empty_b2]
    refine x_go (pc' := 3) (st' := [.int x1]) (fun hC _ _ _ _ _ _ hl k => lv_iload_n hC.1 hC.2.1 d_V_empty_2 rfl (lv_at hl 1 rfl) k) ?_
    refine x_go (pc' := 4) (st' := [.ref a0, .int x1]) (fun hC _ _ _ _ _ _ hl k => lv_aload_n hC.1 hC.2.1 d_V_empty_3 rfl (lv_at hl 0 rfl) k) ?_
    refine x_getR (ci := 2) (kf := 1) (r := (some a0)) (fun hC => w_get hC iw_2 rfl 1 (by decide) tw_21 rfl d_V_empty_4) (fun r1001 => ?_)
    refine x_alen (t := 1) rfl (r := r1001) d_V_empty_7 (fun x1002 => ?_)
    refine x_if (P := x1002 ≤ x1) (pt := 24) (pf := 11) (st' := []) (fun hC _ _ _ _ _ _ kt kf => lv_icmp_ge (tgt := 24) hC.1 hC.2.1 d_V_empty_8 (by decide) kt kf) ?_ ?_
    · exact x_vret d_V_empty_24
    · refine x_go (pc' := 12) (st' := [.ref a0]) (fun hC _ _ _ _ _ _ hl k => lv_aload_n hC.1 hC.2.1 d_V_empty_11 rfl (lv_at hl 0 rfl) k) ?_
      refine x_getR (ci := 2) (kf := 1) (r := (some a0)) (fun hC => w_get hC iw_2 rfl 1 (by decide) tw_21 rfl d_V_empty_12) (fun r1003 => ?_)
      refine x_go (pc' := 16) (st' := [.int x1, va_rf r1003]) (fun hC _ _ _ _ _ _ hl k => lv_iload_n hC.1 hC.2.1 d_V_empty_15 rfl (lv_at hl 1 rfl) k) ?_
      refine x_go (pc' := 17) (st' := [.int (0 : Int32), .int x1, va_rf r1003]) (fun hC _ _ _ _ _ _ hl k => lv_iconst (v := 0) hC.1 hC.2.1 d_V_empty_16 (by decide) k) ?_
      refine x_zast (t := 1) rfl (r := r1003) (i := x1) (x := (0 : Int32)) d_V_empty_17 (fun h1004 => ?_)
      refine x_lift (pc' := 21) (st' := []) (lv' := [(1, .int (x1 + 1)), (0, .ref a0)]) (fun hC _ _ _ _ _ _ hl k => lv_iinc (v := (x1 + 1)) hC.1 hC.2.1 d_V_empty_18 hl (k := 1) rfl rfl (by decide) rfl k) ?_
      refine x_go (pc' := 2) (st' := []) (fun hC _ _ _ _ _ _ hl k => lv_goto (tgt := 2) hC.1 hC.2.1 d_V_empty_21 (by decide) k) ?_
      exact x_sub (lv' := [(0, .ref a0), (1, .int (x1 + 1))]) [1, 0] rfl (ih a0 (x1 + 1) h1004)
set_option maxHeartbeats 4000000 in
set_option maxRecDepth 100000 in
theorem c_V_empty (l : Launch) (B : AB) (a0 : Nat) (h : AH) : CT l B y_V_empty (Cond.code y_V_empty b_V_empty 2 (Option.none : Option Jvm.ClassFile.FieldType) :: lw_tt) 0 0 eU [.ref a0] h (f_V_empty a0 h) := by
  refine ct_of (own := o_V) (nm := "empty") (by decide +kernel) rfl rfl (Nat.le_of_ble_eq_true rfl) (fun p e k1 k2 s m args below meth c => ?_)
  refine x_sub (lv' := [(0, .ref a0)]) [0] rfl ?_
  unfold f_V_empty
  refine x_go (pc' := 1) (st' := [.int (0 : Int32)]) (fun hC _ _ _ _ _ _ hl k => lv_iconst (v := 0) hC.1 hC.2.1 d_V_empty_0 (by decide) k) ?_
  refine x_lift (pc' := 2) (st' := []) (lv' := [(1, .int (0 : Int32)), (0, .ref a0)]) (fun hC _ _ _ _ _ _ hl k => lv_istore_n (i := 1) hC.1 hC.2.1 d_V_empty_1 rfl hl (by decide) rfl k) ?_
  exact x_sub (lv' := [(0, .ref a0), (1, .int (0 : Int32))]) [1, 0] rfl (x_V_empty_b2 2000 a0 (0 : Int32) h)
/-! SerialDesk.clear()V -/
theorem d_D_clear_0 : decode b_D_clear 0 = .ok (.aload_n 0, 1) := by decide +kernel
theorem d_D_clear_1 : decode b_D_clear 1 = .ok (.getfield 12, 3) := by decide +kernel
theorem d_D_clear_4 : decode b_D_clear 4 = .ok (.invokevirtual 76, 3) := by decide +kernel
theorem d_D_clear_7 : decode b_D_clear 7 = .ok (.return_, 1) := by decide +kernel
abbrev X_D_clear (p : Program) (l : Launch) (e : Env) (k1 k2 : Nat) (s : State) (m : MethodId) (args : Array Value) (below : List Frame) (meth : Method) (c : Code) (B : AB) (n0 m0 : Nat) (h : AH) (pc : Nat) (lv : List (Nat × Value)) (st : List Value) (comp : Option (Unit × AH)) : Prop := XX p l e { frames := 1, cells := k1, slots := k2, locals := 21 } s m args below meth c b_D_clear o_D lw_tt 1 (Option.none : Option Jvm.ClassFile.FieldType) "clear" B n0 m0 (QM B below args s { frames := 1, cells := k1, slots := k2, locals := 21 } eU) h pc lv st comp
def f_D_clear (a0 : Nat) (h : AH) : Option (Unit × AH) := (fR h 3 0 (some a0)).bind (fun r101 => rcv h 2 r101 (fun b103 => bndU (f_V_empty b103 h) (fun h102 => some ((), h102))))
set_option maxHeartbeats 4000000 in
set_option maxRecDepth 100000 in
theorem c_D_clear (l : Launch) (B : AB) (a0 : Nat) (h : AH) : CT l B y_D_clear (Cond.code y_D_clear b_D_clear 1 (Option.none : Option Jvm.ClassFile.FieldType) :: lw_tt) 1 21 eU [.ref a0] h (f_D_clear a0 h) := by
  refine ct_of (own := o_D) (nm := "clear") (by decide +kernel) rfl rfl (Nat.le_of_ble_eq_true rfl) (fun p e k1 k2 s m args below meth c => ?_)
  refine x_sub (lv' := [(0, .ref a0)]) [0] rfl ?_
  unfold f_D_clear
  refine x_go (pc' := 1) (st' := [.ref a0]) (fun hC _ _ _ _ _ _ hl k => lv_aload_n hC.1 hC.2.1 d_D_clear_0 rfl (lv_at hl 0 rfl) k) ?_
  refine x_getR (ci := 3) (kf := 0) (r := (some a0)) (fun hC => w_get hC iw_3 rfl 0 (by decide) tw_31 rfl d_D_clear_1) (fun r101 => ?_)
  refine x_recv (ci := 2) (r := r101) (fun b103 _ eb103 gb103 => ?_)
  refine x_callU (rest := []) (c_V_empty l B b103 h) (fun hC => fun e1 e2 e3 e4 hM => fun hR hsz hc hs => run_V (n := 0) hC lw_good rfl rfl tw_177 tw_178 tw_179 tw_2 tw_180 (by decide) d_D_clear_4 gb103 (by rw [e1]; exact Nat.le_of_ble_eq_true rfl) (by rw [e2]; exact Nat.le_of_ble_eq_true rfl) e3 e4 hM hR hsz hc hs rfl (by cases eb103; rfl) (Nat.le_of_ble_eq_true rfl)) (fun h102 => ?_)
  exact x_vret d_D_clear_7
/-! SerialDesk$Transaction.isRunning()Z -/
theorem d_T_isRunning_0 : decode b_T_isRunning 0 = .ok (.aload_n 0, 1) := by decide +kernel
theorem d_T_isRunning_1 : decode b_T_isRunning 1 = .ok (.getfield 21, 3) := by decide +kernel
theorem d_T_isRunning_4 : decode b_T_isRunning 4 = .ok (.ifCond .ne 7, 3) := by decide +kernel
theorem d_T_isRunning_7 : decode b_T_isRunning 7 = .ok (.iconst 1, 1) := by decide +kernel
theorem d_T_isRunning_8 : decode b_T_isRunning 8 = .ok (.goto 4, 3) := by decide +kernel
theorem d_T_isRunning_11 : decode b_T_isRunning 11 = .ok (.iconst 0, 1) := by decide +kernel
theorem d_T_isRunning_12 : decode b_T_isRunning 12 = .ok (.ireturn, 1) := by decide +kernel
abbrev X_T_isRunning (p : Program) (l : Launch) (e : Env) (k1 k2 : Nat) (s : State) (m : MethodId) (args : Array Value) (below : List Frame) (meth : Method) (c : Code) (B : AB) (n0 m0 : Nat) (h : AH) (pc : Nat) (lv : List (Nat × Value)) (st : List Value) (comp : Option (Int32 × AH)) : Prop := XX p l e { frames := 0, cells := k1, slots := k2, locals := 0 } s m args below meth c b_T_isRunning o_T lw_tt 1 (Option.some Jvm.ClassFile.FieldType.boolean) "isRunning" B n0 m0 (QM B below args s { frames := 0, cells := k1, slots := k2, locals := 0 } eI) h pc lv st comp
def f_T_isRunning (a0 : Nat) (h : AH) : Option (Int32 × AH) := (fI h 1 3 (some a0)).bind (fun x101 => (if x101 = 0 then rZ (1 : Int32) h else rZ (0 : Int32) h))
set_option maxHeartbeats 4000000 in
set_option maxRecDepth 100000 in
theorem c_T_isRunning (l : Launch) (B : AB) (a0 : Nat) (h : AH) : CT l B y_T_isRunning (Cond.code y_T_isRunning b_T_isRunning 1 (Option.some Jvm.ClassFile.FieldType.boolean) :: lw_tt) 0 0 eI [.ref a0] h (f_T_isRunning a0 h) := by
  refine ct_of (own := o_T) (nm := "isRunning") (by decide +kernel) rfl rfl (Nat.le_of_ble_eq_true rfl) (fun p e k1 k2 s m args below meth c => ?_)
  refine x_sub (lv' := [(0, .ref a0)]) [0] rfl ?_
  unfold f_T_isRunning
  refine x_go (pc' := 1) (st' := [.ref a0]) (fun hC _ _ _ _ _ _ hl k => lv_aload_n hC.1 hC.2.1 d_T_isRunning_0 rfl (lv_at hl 0 rfl) k) ?_
  refine x_getI (ci := 1) (kf := 3) (r := (some a0)) (fun hC => w_get hC iw_1 rfl 3 (by decide) tw_73 rfl d_T_isRunning_1) (fun x101 => ?_)
  refine x_if (P := x101 = 0) (pt := 7) (pf := 11) (st' := []) (fun hC _ _ _ _ _ _ kt kf => lv_if_ne (tgt := 11) hC.1 hC.2.1 d_T_isRunning_4 (by decide) kf kt) ?_ ?_
  · refine x_go (pc' := 8) (st' := [.int (1 : Int32)]) (fun hC _ _ _ _ _ _ hl k => lv_iconst (v := 1) hC.1 hC.2.1 d_T_isRunning_7 (by decide) k) ?_
    refine x_go (pc' := 12) (st' := [.int (1 : Int32)]) (fun hC _ _ _ _ _ _ hl k => lv_goto (tgt := 12) hC.1 hC.2.1 d_T_isRunning_8 (by decide) k) ?_
    exact x_zret d_T_isRunning_12
  · refine x_go (pc' := 12) (st' := [.int (0 : Int32)]) (fun hC _ _ _ _ _ _ hl k => lv_iconst (v := 0) hC.1 hC.2.1 d_T_isRunning_11 (by decide) k) ?_
    exact x_zret d_T_isRunning_12
/-! SerialDesk$Transaction.committedBefore(I)Z -/
theorem d_T_committedBefore_0 : decode b_T_committedBefore 0 = .ok (.aload_n 0, 1) := by decide +kernel
theorem d_T_committedBefore_1 : decode b_T_committedBefore 1 = .ok (.invokevirtual 45, 3) := by decide +kernel
theorem d_T_committedBefore_4 : decode b_T_committedBefore 4 = .ok (.ifCond .ne 15, 3) := by decide +kernel
theorem d_T_committedBefore_7 : decode b_T_committedBefore 7 = .ok (.aload_n 0, 1) := by decide +kernel
theorem d_T_committedBefore_8 : decode b_T_committedBefore 8 = .ok (.getfield 21, 3) := by decide +kernel
theorem d_T_committedBefore_11 : decode b_T_committedBefore 11 = .ok (.iload_n 1, 1) := by decide +kernel
theorem d_T_committedBefore_12 : decode b_T_committedBefore 12 = .ok (.if_icmp .ge 7, 3) := by decide +kernel
theorem d_T_committedBefore_15 : decode b_T_committedBefore 15 = .ok (.iconst 1, 1) := by decide +kernel
theorem d_T_committedBefore_16 : decode b_T_committedBefore 16 = .ok (.goto 4, 3) := by decide +kernel
theorem d_T_committedBefore_19 : decode b_T_committedBefore 19 = .ok (.iconst 0, 1) := by decide +kernel
theorem d_T_committedBefore_20 : decode b_T_committedBefore 20 = .ok (.ireturn, 1) := by decide +kernel
abbrev X_T_committedBefore (p : Program) (l : Launch) (e : Env) (k1 k2 : Nat) (s : State) (m : MethodId) (args : Array Value) (below : List Frame) (meth : Method) (c : Code) (B : AB) (n0 m0 : Nat) (h : AH) (pc : Nat) (lv : List (Nat × Value)) (st : List Value) (comp : Option (Int32 × AH)) : Prop := XX p l e { frames := 1, cells := k1, slots := k2, locals := 20 } s m args below meth c b_T_committedBefore o_T lw_tt 2 (Option.some Jvm.ClassFile.FieldType.boolean) "committedBefore" B n0 m0 (QM B below args s { frames := 1, cells := k1, slots := k2, locals := 20 } eI) h pc lv st comp
def f_T_committedBefore (a0 : Nat) (x1 : Int32) (h : AH) : Option (Int32 × AH) := rcv h 1 (some a0) (fun b103 => bnd (f_T_isRunning b103 h) (fun x102 h101 => (if x102 = 0 then (fI h101 1 3 (some a0)).bind (fun x104 => (if x1 ≤ x104 then rZ (0 : Int32) h101 else rZ (1 : Int32) h101)) else rZ (0 : Int32) h101)))
set_option maxHeartbeats 4000000 in
set_option maxRecDepth 100000 in
theorem c_T_committedBefore (l : Launch) (B : AB) (a0 : Nat) (x1 : Int32) (h : AH) : CT l B y_T_committedBefore (Cond.code y_T_committedBefore b_T_committedBefore 2 (Option.some Jvm.ClassFile.FieldType.boolean) :: lw_tt) 1 20 eI [.ref a0, .int x1] h (f_T_committedBefore a0 x1 h) := by
  refine ct_of (own := o_T) (nm := "committedBefore") (by decide +kernel) rfl rfl (Nat.le_of_ble_eq_true rfl) (fun p e k1 k2 s m args below meth c => ?_)
  refine x_sub (lv' := [(0, .ref a0), (1, .int x1)]) [0, 1] rfl ?_
  unfold f_T_committedBefore
  refine x_go (pc' := 1) (st' := [.ref a0]) (fun hC _ _ _ _ _ _ hl k => lv_aload_n hC.1 hC.2.1 d_T_committedBefore_0 rfl (lv_at hl 0 rfl) k) ?_
  refine x_recv (ci := 1) (r := (some a0)) (fun b103 _ eb103 gb103 => ?_)
  refine x_callI (rest := []) (c_T_isRunning l B b103 h) (fun hC => fun e1 e2 e3 e4 hM => fun hR hsz hc hs => run_V (n := 0) hC lw_good rfl rfl tw_189 tw_190 tw_191 tw_4 tw_192 (by decide) d_T_committedBefore_1 gb103 (by rw [e1]; exact Nat.le_of_ble_eq_true rfl) (by rw [e2]; exact Nat.le_of_ble_eq_true rfl) e3 e4 hM hR hsz hc hs rfl (by cases eb103; rfl) (Nat.le_of_ble_eq_true rfl)) (fun x102 h101 => ?_)
  refine x_if (P := x102 = 0) (pt := 7) (pf := 19) (st' := []) (fun hC _ _ _ _ _ _ kt kf => lv_if_ne (tgt := 19) hC.1 hC.2.1 d_T_committedBefore_4 (by decide) kf kt) ?_ ?_
  · refine x_go (pc' := 8) (st' := [.ref a0]) (fun hC _ _ _ _ _ _ hl k => lv_aload_n hC.1 hC.2.1 d_T_committedBefore_7 rfl (lv_at hl 0 rfl) k) ?_
    refine x_getI (ci := 1) (kf := 3) (r := (some a0)) (fun hC => w_get hC iw_1 rfl 3 (by decide) tw_73 rfl d_T_committedBefore_8) (fun x104 => ?_)
    refine x_go (pc' := 12) (st' := [.int x1, .int x104]) (fun hC _ _ _ _ _ _ hl k => lv_iload_n hC.1 hC.2.1 d_T_committedBefore_11 rfl (lv_at hl 1 rfl) k) ?_
    refine x_if (P := x1 ≤ x104) (pt := 19) (pf := 15) (st' := []) (fun hC _ _ _ _ _ _ kt kf => lv_icmp_ge (tgt := 19) hC.1 hC.2.1 d_T_committedBefore_12 (by decide) kt kf) ?_ ?_
    · refine x_go (pc' := 20) (st' := [.int (0 : Int32)]) (fun hC _ _ _ _ _ _ hl k => lv_iconst (v := 0) hC.1 hC.2.1 d_T_committedBefore_19 (by decide) k) ?_
      exact x_zret d_T_committedBefore_20
    · refine x_go (pc' := 16) (st' := [.int (1 : Int32)]) (fun hC _ _ _ _ _ _ hl k => lv_iconst (v := 1) hC.1 hC.2.1 d_T_committedBefore_15 (by decide) k) ?_
      refine x_go (pc' := 20) (st' := [.int (1 : Int32)]) (fun hC _ _ _ _ _ _ hl k => lv_goto (tgt := 20) hC.1 hC.2.1 d_T_committedBefore_16 (by decide) k) ?_
      exact x_zret d_T_committedBefore_20
  · refine x_go (pc' := 20) (st' := [.int (0 : Int32)]) (fun hC _ _ _ _ _ _ hl k => lv_iconst (v := 0) hC.1 hC.2.1 d_T_committedBefore_19 (by decide) k) ?_
    exact x_zret d_T_committedBefore_20
/-! SerialDesk.isFirstOfDanger(LSerialDesk$Transaction;LSerialDesk$Transaction;)Z -/
theorem d_D_isFirstOfDanger_0 : decode b_D_isFirstOfDanger 0 = .ok (.aload_n 1, 1) := by decide +kernel
theorem d_D_isFirstOfDanger_1 : decode b_D_isFirstOfDanger 1 = .ok (.getfield 124, 3) := by decide +kernel
theorem d_D_isFirstOfDanger_4 : decode b_D_isFirstOfDanger 4 = .ok (.istore_n 2, 1) := by decide +kernel
theorem d_D_isFirstOfDanger_5 : decode b_D_isFirstOfDanger 5 = .ok (.iload_n 2, 1) := by decide +kernel
theorem d_D_isFirstOfDanger_6 : decode b_D_isFirstOfDanger 6 = .ok (.ifCond .eq 23, 3) := by decide +kernel
theorem d_D_isFirstOfDanger_9 : decode b_D_isFirstOfDanger 9 = .ok (.aload_n 0, 1) := by decide +kernel
theorem d_D_isFirstOfDanger_10 : decode b_D_isFirstOfDanger 10 = .ok (.iload_n 2, 1) := by decide +kernel
theorem d_D_isFirstOfDanger_11 : decode b_D_isFirstOfDanger 11 = .ok (.invokevirtual 134, 3) := by decide +kernel
theorem d_D_isFirstOfDanger_14 : decode b_D_isFirstOfDanger 14 = .ok (.ifCond .ne 15, 3) := by decide +kernel
theorem d_D_isFirstOfDanger_17 : decode b_D_isFirstOfDanger 17 = .ok (.aload_n 1, 1) := by decide +kernel
theorem d_D_isFirstOfDanger_18 : decode b_D_isFirstOfDanger 18 = .ok (.iload_n 2, 1) := by decide +kernel
theorem d_D_isFirstOfDanger_19 : decode b_D_isFirstOfDanger 19 = .ok (.invokevirtual 134, 3) := by decide +kernel
theorem d_D_isFirstOfDanger_22 : decode b_D_isFirstOfDanger 22 = .ok (.ifCond .ne 7, 3) := by decide +kernel
theorem d_D_isFirstOfDanger_25 : decode b_D_isFirstOfDanger 25 = .ok (.iconst 1, 1) := by decide +kernel
theorem d_D_isFirstOfDanger_26 : decode b_D_isFirstOfDanger 26 = .ok (.goto 4, 3) := by decide +kernel
theorem d_D_isFirstOfDanger_29 : decode b_D_isFirstOfDanger 29 = .ok (.iconst 0, 1) := by decide +kernel
theorem d_D_isFirstOfDanger_30 : decode b_D_isFirstOfDanger 30 = .ok (.ireturn, 1) := by decide +kernel
abbrev X_D_isFirstOfDanger (p : Program) (l : Launch) (e : Env) (k1 k2 : Nat) (s : State) (m : MethodId) (args : Array Value) (below : List Frame) (meth : Method) (c : Code) (B : AB) (n0 m0 : Nat) (h : AH) (pc : Nat) (lv : List (Nat × Value)) (st : List Value) (comp : Option (Int32 × AH)) : Prop := XX p l e { frames := 2, cells := k1, slots := k2, locals := 41 } s m args below meth c b_D_isFirstOfDanger o_D lw_tt 3 (Option.some Jvm.ClassFile.FieldType.boolean) "isFirstOfDanger" B n0 m0 (QM B below args s { frames := 2, cells := k1, slots := k2, locals := 41 } eI) h pc lv st comp
def f_D_isFirstOfDanger (r0 : Option Nat) (r1 : Option Nat) (h : AH) : Option (Int32 × AH) := (fI h 1 6 r1).bind (fun x101 => (if x101 = 0 then rZ (0 : Int32) h else rcv h 1 r0 (fun b104 => bnd (f_T_committedBefore b104 x101 h) (fun x103 h102 => (if x103 = 0 then rcv h102 1 r1 (fun b107 => bnd (f_T_committedBefore b107 x101 h102) (fun x106 h105 => (if x106 = 0 then rZ (1 : Int32) h105 else rZ (0 : Int32) h105))) else rZ (0 : Int32) h102)))))
set_option maxHeartbeats 4000000 in
set_option maxRecDepth 100000 in
theorem c_D_isFirstOfDanger (l : Launch) (B : AB) (r0 : Option Nat) (r1 : Option Nat) (h : AH) : CT l B y_D_isFirstOfDanger (Cond.code y_D_isFirstOfDanger b_D_isFirstOfDanger 3 (Option.some Jvm.ClassFile.FieldType.boolean) :: lw_tt) 2 41 eI [va_rf r0, va_rf r1] h (f_D_isFirstOfDanger r0 r1 h) := by
  refine ct_of (own := o_D) (nm := "isFirstOfDanger") (by decide +kernel) rfl rfl (by simp [lg_sl, rf_cat, cat_i, cat_l, cat_r]) (fun p e k1 k2 s m args below meth c => ?_)
  refine x_sub (lv' := [(0, va_rf r0), (1, va_rf r1)]) [0, 1] (by simp [lv_pick, lv_args, rf_cat, cat_i, cat_l, cat_r]) ?_
  unfold f_D_isFirstOfDanger
  refine x_go (pc' := 1) (st' := [va_rf r1]) (fun hC _ _ _ _ _ _ hl k => lv_aload_nq (r := r1) hC.1 hC.2.1 d_D_isFirstOfDanger_0 rfl (lv_at hl 1 rfl) k) ?_
  refine x_getI (ci := 1) (kf := 6) (r := r1) (fun hC => w_getN (host := "SerialDesk") hC iw_1 rfl 6 (by decide) (List.mem_of_getElem? (i := 2) rfl) rfl d_D_isFirstOfDanger_1) (fun x101 => ?_)
  refine x_lift (pc' := 5) (st' := []) (lv' := [(2, .int x101), (0, va_rf r0), (1, va_rf r1)]) (fun hC _ _ _ _ _ _ hl k => lv_istore_n (i := 2) hC.1 hC.2.1 d_D_isFirstOfDanger_4 rfl hl (by decide) (by simp [rf_cat, cat_i, cat_l, cat_r]) k) ?_
  refine x_go (pc' := 6) (st' := [.int x101]) (fun hC _ _ _ _ _ _ hl k => lv_iload_n hC.1 hC.2.1 d_D_isFirstOfDanger_5 rfl (lv_at hl 0 rfl) k) ?_
  refine x_if (P := x101 = 0) (pt := 29) (pf := 9) (st' := []) (fun hC _ _ _ _ _ _ kt kf => lv_if_eq (tgt := 29) hC.1 hC.2.1 d_D_isFirstOfDanger_6 (by decide) kt kf) ?_ ?_
  · refine x_go (pc' := 30) (st' := [.int (0 : Int32)]) (fun hC _ _ _ _ _ _ hl k => lv_iconst (v := 0) hC.1 hC.2.1 d_D_isFirstOfDanger_29 (by decide) k) ?_
    exact x_zret d_D_isFirstOfDanger_30
  · refine x_go (pc' := 10) (st' := [va_rf r0]) (fun hC _ _ _ _ _ _ hl k => lv_aload_nq (r := r0) hC.1 hC.2.1 d_D_isFirstOfDanger_9 rfl (lv_at hl 1 rfl) k) ?_
    refine x_go (pc' := 11) (st' := [.int x101, va_rf r0]) (fun hC _ _ _ _ _ _ hl k => lv_iload_n hC.1 hC.2.1 d_D_isFirstOfDanger_10 rfl (lv_at hl 0 rfl) k) ?_
    refine x_recv (ci := 1) (r := r0) (fun b104 _ eb104 gb104 => ?_)
    refine x_callI (rest := []) (c_T_committedBefore l B b104 x101 h) (fun hC => fun e1 e2 e3 e4 hM => fun hR hsz hc hs => run_V (n := 1) hC lw_good rfl rfl tw_229 tw_230 tw_231 tw_4 tw_232 (by decide) d_D_isFirstOfDanger_11 gb104 (by rw [e1]; exact Nat.le_of_ble_eq_true rfl) (by rw [e2]; exact Nat.le_of_ble_eq_true rfl) e3 e4 hM hR hsz hc hs rfl (by cases eb104; rfl) (Nat.le_of_ble_eq_true rfl)) (fun x103 h102 => ?_)
    refine x_if (P := x103 = 0) (pt := 17) (pf := 29) (st' := []) (fun hC _ _ _ _ _ _ kt kf => lv_if_ne (tgt := 29) hC.1 hC.2.1 d_D_isFirstOfDanger_14 (by decide) kf kt) ?_ ?_
    · refine x_go (pc' := 18) (st' := [va_rf r1]) (fun hC _ _ _ _ _ _ hl k => lv_aload_nq (r := r1) hC.1 hC.2.1 d_D_isFirstOfDanger_17 rfl (lv_at hl 2 rfl) k) ?_
      refine x_go (pc' := 19) (st' := [.int x101, va_rf r1]) (fun hC _ _ _ _ _ _ hl k => lv_iload_n hC.1 hC.2.1 d_D_isFirstOfDanger_18 rfl (lv_at hl 0 rfl) k) ?_
      refine x_recv (ci := 1) (r := r1) (fun b107 _ eb107 gb107 => ?_)
      refine x_callI (rest := []) (c_T_committedBefore l B b107 x101 h102) (fun hC => fun e1 e2 e3 e4 hM => fun hR hsz hc hs => run_V (n := 1) hC lw_good rfl rfl tw_229 tw_230 tw_231 tw_4 tw_232 (by decide) d_D_isFirstOfDanger_19 gb107 (by rw [e1]; exact Nat.le_of_ble_eq_true rfl) (by rw [e2]; exact Nat.le_of_ble_eq_true rfl) e3 e4 hM hR hsz hc hs rfl (by cases eb107; rfl) (Nat.le_of_ble_eq_true rfl)) (fun x106 h105 => ?_)
      refine x_if (P := x106 = 0) (pt := 25) (pf := 29) (st' := []) (fun hC _ _ _ _ _ _ kt kf => lv_if_ne (tgt := 29) hC.1 hC.2.1 d_D_isFirstOfDanger_22 (by decide) kf kt) ?_ ?_
      · refine x_go (pc' := 26) (st' := [.int (1 : Int32)]) (fun hC _ _ _ _ _ _ hl k => lv_iconst (v := 1) hC.1 hC.2.1 d_D_isFirstOfDanger_25 (by decide) k) ?_
        refine x_go (pc' := 30) (st' := [.int (1 : Int32)]) (fun hC _ _ _ _ _ _ hl k => lv_goto (tgt := 30) hC.1 hC.2.1 d_D_isFirstOfDanger_26 (by decide) k) ?_
        exact x_zret d_D_isFirstOfDanger_30
      · refine x_go (pc' := 30) (st' := [.int (0 : Int32)]) (fun hC _ _ _ _ _ _ hl k => lv_iconst (v := 0) hC.1 hC.2.1 d_D_isFirstOfDanger_29 (by decide) k) ?_
        exact x_zret d_D_isFirstOfDanger_30
    · refine x_go (pc' := 30) (st' := [.int (0 : Int32)]) (fun hC _ _ _ _ _ _ hl k => lv_iconst (v := 0) hC.1 hC.2.1 d_D_isFirstOfDanger_29 (by decide) k) ?_
      exact x_zret d_D_isFirstOfDanger_30
/-! SerialDesk$Range.isAboveLow(J)Z -/
theorem d_R_isAboveLow_0 : decode b_R_isAboveLow 0 = .ok (.aload_n 0, 1) := by decide +kernel
theorem d_R_isAboveLow_1 : decode b_R_isAboveLow 1 = .ok (.iconst 4, 1) := by decide +kernel
theorem d_R_isAboveLow_2 : decode b_R_isAboveLow 2 = .ok (.invokevirtual 29, 3) := by decide +kernel
theorem d_R_isAboveLow_5 : decode b_R_isAboveLow 5 = .ok (.ifCond .eq 5, 3) := by decide +kernel
theorem d_R_isAboveLow_8 : decode b_R_isAboveLow 8 = .ok (.iconst 1, 1) := by decide +kernel
theorem d_R_isAboveLow_9 : decode b_R_isAboveLow 9 = .ok (.ireturn, 1) := by decide +kernel
theorem d_R_isAboveLow_10 : decode b_R_isAboveLow 10 = .ok (.aload_n 0, 1) := by decide +kernel
theorem d_R_isAboveLow_11 : decode b_R_isAboveLow 11 = .ok (.getfield 22, 3) := by decide +kernel
theorem d_R_isAboveLow_14 : decode b_R_isAboveLow 14 = .ok (.iconst 1, 1) := by decide +kernel
theorem d_R_isAboveLow_15 : decode b_R_isAboveLow 15 = .ok (.iand, 1) := by decide +kernel
theorem d_R_isAboveLow_16 : decode b_R_isAboveLow 16 = .ok (.ifCond .eq 20, 3) := by decide +kernel
theorem d_R_isAboveLow_19 : decode b_R_isAboveLow 19 = .ok (.lload_n 1, 1) := by decide +kernel
theorem d_R_isAboveLow_20 : decode b_R_isAboveLow 20 = .ok (.aload_n 0, 1) := by decide +kernel
theorem d_R_isAboveLow_21 : decode b_R_isAboveLow 21 = .ok (.getfield 15, 3) := by decide +kernel
theorem d_R_isAboveLow_24 : decode b_R_isAboveLow 24 = .ok (.lcmp, 1) := by decide +kernel
theorem d_R_isAboveLow_25 : decode b_R_isAboveLow 25 = .ok (.ifCond .le 7, 3) := by decide +kernel
theorem d_R_isAboveLow_28 : decode b_R_isAboveLow 28 = .ok (.iconst 1, 1) := by decide +kernel
theorem d_R_isAboveLow_29 : decode b_R_isAboveLow 29 = .ok (.goto 21, 3) := by decide +kernel
theorem d_R_isAboveLow_32 : decode b_R_isAboveLow 32 = .ok (.iconst 0, 1) := by decide +kernel
theorem d_R_isAboveLow_33 : decode b_R_isAboveLow 33 = .ok (.goto 17, 3) := by decide +kernel
theorem d_R_isAboveLow_36 : decode b_R_isAboveLow 36 = .ok (.lload_n 1, 1) := by decide +kernel
theorem d_R_isAboveLow_37 : decode b_R_isAboveLow 37 = .ok (.aload_n 0, 1) := by decide +kernel
theorem d_R_isAboveLow_38 : decode b_R_isAboveLow 38 = .ok (.getfield 15, 3) := by decide +kernel
theorem d_R_isAboveLow_41 : decode b_R_isAboveLow 41 = .ok (.lcmp, 1) := by decide +kernel
theorem d_R_isAboveLow_42 : decode b_R_isAboveLow 42 = .ok (.ifCond .lt 7, 3) := by decide +kernel
theorem d_R_isAboveLow_45 : decode b_R_isAboveLow 45 = .ok (.iconst 1, 1) := by decide +kernel
theorem d_R_isAboveLow_46 : decode b_R_isAboveLow 46 = .ok (.goto 4, 3) := by decide +kernel
theorem d_R_isAboveLow_49 : decode b_R_isAboveLow 49 = .ok (.iconst 0, 1) := by decide +kernel
theorem d_R_isAboveLow_50 : decode b_R_isAboveLow 50 = .ok (.ireturn, 1) := by decide +kernel
abbrev X_R_isAboveLow (p : Program) (l : Launch) (e : Env) (k1 k2 : Nat) (s : State) (m : MethodId) (args : Array Value) (below : List Frame) (meth : Method) (c : Code) (B : AB) (n0 m0 : Nat) (h : AH) (pc : Nat) (lv : List (Nat × Value)) (st : List Value) (comp : Option (Int32 × AH)) : Prop := XX p l e { frames := 1, cells := k1, slots := k2, locals := 21 } s m args below meth c b_R_isAboveLow o_R lw_tt 3 (Option.some Jvm.ClassFile.FieldType.boolean) "isAboveLow" B n0 m0 (QM B below args s { frames := 1, cells := k1, slots := k2, locals := 21 } eI) h pc lv st comp
def f_R_isAboveLow (a0 : Nat) (x1 : Int64) (h : AH) : Option (Int32 × AH) := rcv h 0 (some a0) (fun b103 => bnd (f_R_lacks b103 (4 : Int32) h) (fun x102 h101 => (if x102 = 0 then (fI h101 0 3 (some a0)).bind (fun x104 => (if (x104 &&& (1 : Int32)) = 0 then (fL h101 0 1 (some a0)).bind (fun x105 => (if (lg_cmp x1 x105) < 0 then rZ (0 : Int32) h101 else rZ (1 : Int32) h101)) else (fL h101 0 1 (some a0)).bind (fun x106 => (if (lg_cmp x1 x106) ≤ 0 then rZ (0 : Int32) h101 else rZ (1 : Int32) h101)))) else rZ (1 : Int32) h101)))
set_option maxHeartbeats 4000000 in
set_option maxRecDepth 100000 in
theorem c_R_isAboveLow (l : Launch) (B : AB) (a0 : Nat) (x1 : Int64) (h : AH) : CT l B y_R_isAboveLow (Cond.code y_R_isAboveLow b_R_isAboveLow 3 (Option.some Jvm.ClassFile.FieldType.boolean) :: lw_tt) 1 21 eI [.ref a0, .long x1] h (f_R_isAboveLow a0 x1 h) := by
  refine ct_of (own := o_R) (nm := "isAboveLow") (by decide +kernel) rfl rfl (Nat.le_of_ble_eq_true rfl) (fun p e k1 k2 s m args below meth c => ?_)
  refine x_sub (lv' := [(0, .ref a0), (1, .long x1)]) [0, 1] rfl ?_
  unfold f_R_isAboveLow
  refine x_go (pc' := 1) (st' := [.ref a0]) (fun hC _ _ _ _ _ _ hl k => lv_aload_n hC.1 hC.2.1 d_R_isAboveLow_0 rfl (lv_at hl 0 rfl) k) ?_
  refine x_go (pc' := 2) (st' := [.int (4 : Int32), .ref a0]) (fun hC _ _ _ _ _ _ hl k => lv_iconst (v := 4) hC.1 hC.2.1 d_R_isAboveLow_1 (by decide) k) ?_
  refine x_recv (ci := 0) (r := (some a0)) (fun b103 _ eb103 gb103 => ?_)
  refine x_callI (rest := []) (c_R_lacks l B b103 (4 : Int32) h) (fun hC => fun e1 e2 e3 e4 hM => fun hR hsz hc hs => run_V (n := 1) hC lw_good rfl rfl tw_156 tw_158 tv_3 tw_5 tw_159 (by decide) d_R_isAboveLow_2 gb103 (by rw [e1]; exact Nat.le_of_ble_eq_true rfl) (by rw [e2]; exact Nat.le_of_ble_eq_true rfl) e3 e4 hM hR hsz hc hs rfl (by cases eb103; rfl) (Nat.le_of_ble_eq_true rfl)) (fun x102 h101 => ?_)
  refine x_if (P := x102 = 0) (pt := 10) (pf := 8) (st' := []) (fun hC _ _ _ _ _ _ kt kf => lv_if_eq (tgt := 10) hC.1 hC.2.1 d_R_isAboveLow_5 (by decide) kt kf) ?_ ?_
  · refine x_go (pc' := 11) (st' := [.ref a0]) (fun hC _ _ _ _ _ _ hl k => lv_aload_n hC.1 hC.2.1 d_R_isAboveLow_10 rfl (lv_at hl 0 rfl) k) ?_
    refine x_getI (ci := 0) (kf := 3) (r := (some a0)) (fun hC => w_get hC iw_0 rfl 3 (by decide) tw_125 rfl d_R_isAboveLow_11) (fun x104 => ?_)
    refine x_go (pc' := 15) (st' := [.int (1 : Int32), .int x104]) (fun hC _ _ _ _ _ _ hl k => lv_iconst (v := 1) hC.1 hC.2.1 d_R_isAboveLow_14 (by decide) k) ?_
    refine x_go (pc' := 16) (st' := [.int (x104 &&& (1 : Int32))]) (fun hC _ _ _ _ _ _ hl k => lv_iand hC.1 hC.2.1 d_R_isAboveLow_15 k) ?_
    refine x_if (P := (x104 &&& (1 : Int32)) = 0) (pt := 36) (pf := 19) (st' := []) (fun hC _ _ _ _ _ _ kt kf => lv_if_eq (tgt := 36) hC.1 hC.2.1 d_R_isAboveLow_16 (by decide) kt kf) ?_ ?_
    · refine x_go (pc' := 37) (st' := [.long x1]) (fun hC _ _ _ _ _ _ hl k => lv_lload_n hC.1 hC.2.1 d_R_isAboveLow_36 rfl (lv_at hl 1 rfl) k) ?_
      refine x_go (pc' := 38) (st' := [.ref a0, .long x1]) (fun hC _ _ _ _ _ _ hl k => lv_aload_n hC.1 hC.2.1 d_R_isAboveLow_37 rfl (lv_at hl 0 rfl) k) ?_
      refine x_getL (ci := 0) (kf := 1) (r := (some a0)) (fun hC => w_get hC iw_0 rfl 1 (by decide) tw_123 rfl d_R_isAboveLow_38) (fun x105 => ?_)
      refine x_go (pc' := 42) (st' := [.int (lg_cmp x1 x105)]) (fun hC _ _ _ _ _ _ hl k => W.lcmp hC.1 hC.2.1 d_R_isAboveLow_41 k) ?_
      refine x_if (P := (lg_cmp x1 x105) < 0) (pt := 49) (pf := 45) (st' := []) (fun hC _ _ _ _ _ _ kt kf => lv_if_lt (tgt := 49) hC.1 hC.2.1 d_R_isAboveLow_42 (by decide) kt kf) ?_ ?_
      · refine x_go (pc' := 50) (st' := [.int (0 : Int32)]) (fun hC _ _ _ _ _ _ hl k => lv_iconst (v := 0) hC.1 hC.2.1 d_R_isAboveLow_49 (by decide) k) ?_
        exact x_zret d_R_isAboveLow_50
      · refine x_go (pc' := 46) (st' := [.int (1 : Int32)]) (fun hC _ _ _ _ _ _ hl k => lv_iconst (v := 1) hC.1 hC.2.1 d_R_isAboveLow_45 (by decide) k) ?_
        refine x_go (pc' := 50) (st' := [.int (1 : Int32)]) (fun hC _ _ _ _ _ _ hl k => lv_goto (tgt := 50) hC.1 hC.2.1 d_R_isAboveLow_46 (by decide) k) ?_
        exact x_zret d_R_isAboveLow_50
    · refine x_go (pc' := 20) (st' := [.long x1]) (fun hC _ _ _ _ _ _ hl k => lv_lload_n hC.1 hC.2.1 d_R_isAboveLow_19 rfl (lv_at hl 1 rfl) k) ?_
      refine x_go (pc' := 21) (st' := [.ref a0, .long x1]) (fun hC _ _ _ _ _ _ hl k => lv_aload_n hC.1 hC.2.1 d_R_isAboveLow_20 rfl (lv_at hl 0 rfl) k) ?_
      refine x_getL (ci := 0) (kf := 1) (r := (some a0)) (fun hC => w_get hC iw_0 rfl 1 (by decide) tw_123 rfl d_R_isAboveLow_21) (fun x106 => ?_)
      refine x_go (pc' := 25) (st' := [.int (lg_cmp x1 x106)]) (fun hC _ _ _ _ _ _ hl k => W.lcmp hC.1 hC.2.1 d_R_isAboveLow_24 k) ?_
      refine x_if (P := (lg_cmp x1 x106) ≤ 0) (pt := 32) (pf := 28) (st' := []) (fun hC _ _ _ _ _ _ kt kf => lv_if_le (tgt := 32) hC.1 hC.2.1 d_R_isAboveLow_25 (by decide) kt kf) ?_ ?_
      · refine x_go (pc' := 33) (st' := [.int (0 : Int32)]) (fun hC _ _ _ _ _ _ hl k => lv_iconst (v := 0) hC.1 hC.2.1 d_R_isAboveLow_32 (by decide) k) ?_
        refine x_go (pc' := 50) (st' := [.int (0 : Int32)]) (fun hC _ _ _ _ _ _ hl k => lv_goto (tgt := 50) hC.1 hC.2.1 d_R_isAboveLow_33 (by decide) k) ?_
        exact x_zret d_R_isAboveLow_50
      · refine x_go (pc' := 29) (st' := [.int (1 : Int32)]) (fun hC _ _ _ _ _ _ hl k => lv_iconst (v := 1) hC.1 hC.2.1 d_R_isAboveLow_28 (by decide) k) ?_
        refine x_go (pc' := 50) (st' := [.int (1 : Int32)]) (fun hC _ _ _ _ _ _ hl k => lv_goto (tgt := 50) hC.1 hC.2.1 d_R_isAboveLow_29 (by decide) k) ?_
        exact x_zret d_R_isAboveLow_50
  · refine x_go (pc' := 9) (st' := [.int (1 : Int32)]) (fun hC _ _ _ _ _ _ hl k => lv_iconst (v := 1) hC.1 hC.2.1 d_R_isAboveLow_8 (by decide) k) ?_
    exact x_zret d_R_isAboveLow_9
