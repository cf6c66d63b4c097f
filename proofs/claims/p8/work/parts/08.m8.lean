/-! SerialDesk.isSecondOfDanger(LSerialDesk$Transaction;LSerialDesk$Transaction;)Z -/
theorem d_D_isSecondOfDanger_0 : decode b_D_isSecondOfDanger 0 = .ok (.aload_n 2, 1) := by decide +kernel
theorem d_D_isSecondOfDanger_1 : decode b_D_isSecondOfDanger 1 = .ok (.invokevirtual 117, 3) := by decide +kernel
theorem d_D_isSecondOfDanger_4 : decode b_D_isSecondOfDanger 4 = .ok (.ifCond .ne 19, 3) := by decide +kernel
theorem d_D_isSecondOfDanger_7 : decode b_D_isSecondOfDanger 7 = .ok (.aload_n 0, 1) := by decide +kernel
theorem d_D_isSecondOfDanger_8 : decode b_D_isSecondOfDanger 8 = .ok (.aload_n 1, 1) := by decide +kernel
theorem d_D_isSecondOfDanger_9 : decode b_D_isSecondOfDanger 9 = .ok (.aload_n 2, 1) := by decide +kernel
theorem d_D_isSecondOfDanger_10 : decode b_D_isSecondOfDanger 10 = .ok (.getfield 105, 3) := by decide +kernel
theorem d_D_isSecondOfDanger_13 : decode b_D_isSecondOfDanger 13 = .ok (.invokevirtual 137, 3) := by decide +kernel
theorem d_D_isSecondOfDanger_16 : decode b_D_isSecondOfDanger 16 = .ok (.ifCond .eq 7, 3) := by decide +kernel
theorem d_D_isSecondOfDanger_19 : decode b_D_isSecondOfDanger 19 = .ok (.iconst 1, 1) := by decide +kernel
theorem d_D_isSecondOfDanger_20 : decode b_D_isSecondOfDanger 20 = .ok (.goto 4, 3) := by decide +kernel
theorem d_D_isSecondOfDanger_23 : decode b_D_isSecondOfDanger 23 = .ok (.iconst 0, 1) := by decide +kernel
theorem d_D_isSecondOfDanger_24 : decode b_D_isSecondOfDanger 24 = .ok (.ireturn, 1) := by decide +kernel
abbrev X_D_isSecondOfDanger (p : Program) (l : Launch) (e : Env) (k1 k2 : Nat) (s : State) (m : MethodId) (args : Array Value) (below : List Frame) (meth : Method) (c : Code) (B : AB) (n0 m0 : Nat) (h : AH) (pc : Nat) (lv : List (Nat × Value)) (st : List Value) (comp : Option (Int32 × AH)) : Prop := XX p l e { frames := 3, cells := k1, slots := k2, locals := 65 } s m args below meth c b_D_isSecondOfDanger o_D lw_tt 3 (Option.some Jvm.ClassFile.FieldType.boolean) "isSecondOfDanger" B n0 m0 (QM B below args s { frames := 3, cells := k1, slots := k2, locals := 65 } eI) h pc lv st comp
def f_D_isSecondOfDanger (a0 : Nat) (r1 : Option Nat) (r2 : Option Nat) (h : AH) : Option (Int32 × AH) := rcv h 1 r2 (fun b103 => bnd (f_T_isRunning b103 h) (fun x102 h101 => (if x102 = 0 then (fI h101 1 3 r2).bind (fun x104 => rcv h101 3 (some a0) (fun b107 => bnd (f_D_isPointedAtByOneNotBefore b107 r1 x104 h101) (fun x106 h105 => (if x106 = 0 then rZ (0 : Int32) h105 else rZ (1 : Int32) h105)))) else rZ (0 : Int32) h101)))
set_option maxHeartbeats 4000000 in
set_option maxRecDepth 100000 in
theorem c_D_isSecondOfDanger (l : Launch) (B : AB) (a0 : Nat) (r1 : Option Nat) (r2 : Option Nat) (h : AH) : CT l B y_D_isSecondOfDanger (Cond.code y_D_isSecondOfDanger b_D_isSecondOfDanger 3 (Option.some Jvm.ClassFile.FieldType.boolean) :: lw_tt) 3 65 eI [.ref a0, va_rf r1, va_rf r2] h (f_D_isSecondOfDanger a0 r1 r2 h) := by
  refine ct_of (own := o_D) (nm := "isSecondOfDanger") (by decide +kernel) rfl rfl (by simp [lg_sl, rf_cat, cat_i, cat_l, cat_r]) (fun p e k1 k2 s m args below meth c => ?_)
  refine x_sub (lv' := [(0, .ref a0), (1, va_rf r1), (2, va_rf r2)]) [0, 1, 2] (by simp [lv_pick, lv_args, rf_cat, cat_i, cat_l, cat_r]) ?_
  unfold f_D_isSecondOfDanger
  refine x_go (pc' := 1) (st' := [va_rf r2]) (fun hC _ _ _ _ _ _ hl k => lv_aload_nq (r := r2) hC.1 hC.2.1 d_D_isSecondOfDanger_0 rfl (lv_at hl 2 rfl) k) ?_
  refine x_recv (ci := 1) (r := r2) (fun b103 _ eb103 gb103 => ?_)
  refine x_callI (rest := []) (c_T_isRunning l B b103 h) (fun hC => fun e1 e2 e3 e4 hM => fun hR hsz hc hs => run_V (n := 0) hC lw_good rfl rfl tw_245 tw_190 tw_191 tw_4 tw_192 (by decide) d_D_isSecondOfDanger_1 gb103 (by rw [e1]; exact Nat.le_of_ble_eq_true rfl) (by rw [e2]; exact Nat.le_of_ble_eq_true rfl) e3 e4 hM hR hsz hc hs rfl (by cases eb103; rfl) (Nat.le_of_ble_eq_true rfl)) (fun x102 h101 => ?_)
  refine x_if (P := x102 = 0) (pt := 7) (pf := 23) (st' := []) (fun hC _ _ _ _ _ _ kt kf => lv_if_ne (tgt := 23) hC.1 hC.2.1 d_D_isSecondOfDanger_4 (by decide) kf kt) ?_ ?_
  · refine x_go (pc' := 8) (st' := [.ref a0]) (fun hC _ _ _ _ _ _ hl k => lv_aload_n hC.1 hC.2.1 d_D_isSecondOfDanger_7 rfl (lv_at hl 0 rfl) k) ?_
    refine x_go (pc' := 9) (st' := [va_rf r1, .ref a0]) (fun hC _ _ _ _ _ _ hl k => lv_aload_nq (r := r1) hC.1 hC.2.1 d_D_isSecondOfDanger_8 rfl (lv_at hl 1 rfl) k) ?_
    refine x_go (pc' := 10) (st' := [va_rf r2, va_rf r1, .ref a0]) (fun hC _ _ _ _ _ _ hl k => lv_aload_nq (r := r2) hC.1 hC.2.1 d_D_isSecondOfDanger_9 rfl (lv_at hl 2 rfl) k) ?_
    refine x_getI (ci := 1) (kf := 3) (r := r2) (fun hC => w_getN (host := "SerialDesk") hC iw_1 rfl 3 (by decide) (List.mem_of_getElem? (i := 4) rfl) rfl d_D_isSecondOfDanger_10) (fun x104 => ?_)
    refine x_recv (ci := 3) (r := (some a0)) (fun b107 _ eb107 gb107 => ?_)
    refine x_callI (rest := []) (c_D_isPointedAtByOneNotBefore l B b107 r1 x104 h101) (fun hC => fun e1 e2 e3 e4 hM => fun hR hsz hc hs => run_V (n := 2) hC lw_good rfl rfl tw_246 tw_248 tv_8 tw_1 tw_249 (by decide) d_D_isSecondOfDanger_13 gb107 (by rw [e1]; exact Nat.le_of_ble_eq_true rfl) (by rw [e2]; exact Nat.le_of_ble_eq_true rfl) e3 e4 hM hR hsz hc hs rfl (by cases eb107; rfl) (Nat.le_of_ble_eq_true rfl)) (fun x106 h105 => ?_)
    refine x_if (P := x106 = 0) (pt := 23) (pf := 19) (st' := []) (fun hC _ _ _ _ _ _ kt kf => lv_if_eq (tgt := 23) hC.1 hC.2.1 d_D_isSecondOfDanger_16 (by decide) kt kf) ?_ ?_
    · refine x_go (pc' := 24) (st' := [.int (0 : Int32)]) (fun hC _ _ _ _ _ _ hl k => lv_iconst (v := 0) hC.1 hC.2.1 d_D_isSecondOfDanger_23 (by decide) k) ?_
      exact x_zret d_D_isSecondOfDanger_24
    · refine x_go (pc' := 20) (st' := [.int (1 : Int32)]) (fun hC _ _ _ _ _ _ hl k => lv_iconst (v := 1) hC.1 hC.2.1 d_D_isSecondOfDanger_19 (by decide) k) ?_
      refine x_go (pc' := 24) (st' := [.int (1 : Int32)]) (fun hC _ _ _ _ _ _ hl k => lv_goto (tgt := 24) hC.1 hC.2.1 d_D_isSecondOfDanger_20 (by decide) k) ?_
      exact x_zret d_D_isSecondOfDanger_24
  · refine x_go (pc' := 24) (st' := [.int (0 : Int32)]) (fun hC _ _ _ _ _ _ hl k => lv_iconst (v := 0) hC.1 hC.2.1 d_D_isSecondOfDanger_23 (by decide) k) ?_
    exact x_zret d_D_isSecondOfDanger_24
/-! SerialDesk.keptWithId(I)LSerialDesk$Transaction; -/
theorem d_D_keptWithId_0 : decode b_D_keptWithId 0 = .ok (.iconst 0, 1) := by decide +kernel
theorem d_D_keptWithId_1 : decode b_D_keptWithId 1 = .ok (.istore_n 2, 1) := by decide +kernel
theorem d_D_keptWithId_2 : decode b_D_keptWithId 2 = .ok (.iload_n 2, 1) := by decide +kernel
theorem d_D_keptWithId_3 : decode b_D_keptWithId 3 = .ok (.aload_n 0, 1) := by decide +kernel
theorem d_D_keptWithId_4 : decode b_D_keptWithId 4 = .ok (.getfield 22, 3) := by decide +kernel
theorem d_D_keptWithId_7 : decode b_D_keptWithId 7 = .ok (.arraylength, 1) := by decide +kernel
theorem d_D_keptWithId_8 : decode b_D_keptWithId 8 = .ok (.if_icmp .ge 30, 3) := by decide +kernel
theorem d_D_keptWithId_11 : decode b_D_keptWithId 11 = .ok (.aload_n 0, 1) := by decide +kernel
theorem d_D_keptWithId_12 : decode b_D_keptWithId 12 = .ok (.getfield 22, 3) := by decide +kernel
theorem d_D_keptWithId_15 : decode b_D_keptWithId 15 = .ok (.iload_n 2, 1) := by decide +kernel
theorem d_D_keptWithId_16 : decode b_D_keptWithId 16 = .ok (.aaload, 1) := by decide +kernel
theorem d_D_keptWithId_17 : decode b_D_keptWithId 17 = .ok (.astore_n 3, 1) := by decide +kernel
theorem d_D_keptWithId_18 : decode b_D_keptWithId 18 = .ok (.aload_n 3, 1) := by decide +kernel
theorem d_D_keptWithId_19 : decode b_D_keptWithId 19 = .ok (.ifnull 13, 3) := by decide +kernel
theorem d_D_keptWithId_22 : decode b_D_keptWithId 22 = .ok (.aload_n 3, 1) := by decide +kernel
theorem d_D_keptWithId_23 : decode b_D_keptWithId 23 = .ok (.getfield 46, 3) := by decide +kernel
theorem d_D_keptWithId_26 : decode b_D_keptWithId 26 = .ok (.iload_n 1, 1) := by decide +kernel
theorem d_D_keptWithId_27 : decode b_D_keptWithId 27 = .ok (.if_icmp .ne 5, 3) := by decide +kernel
theorem d_D_keptWithId_30 : decode b_D_keptWithId 30 = .ok (.aload_n 3, 1) := by decide +kernel
theorem d_D_keptWithId_31 : decode b_D_keptWithId 31 = .ok (.areturn, 1) := by decide +kernel
theorem d_D_keptWithId_32 : decode b_D_keptWithId 32 = .ok (.iinc 2 1, 3) := by decide +kernel
theorem d_D_keptWithId_35 : decode b_D_keptWithId 35 = .ok (.goto (-33), 3) := by decide +kernel
theorem d_D_keptWithId_38 : decode b_D_keptWithId 38 = .ok (.aconst_null, 1) := by decide +kernel
theorem d_D_keptWithId_39 : decode b_D_keptWithId 39 = .ok (.areturn, 1) := by decide +kernel
abbrev X_D_keptWithId (p : Program) (l : Launch) (e : Env) (k1 k2 : Nat) (s : State) (m : MethodId) (args : Array Value) (below : List Frame) (meth : Method) (c : Code) (B : AB) (n0 m0 : Nat) (h : AH) (pc : Nat) (lv : List (Nat × Value)) (st : List Value) (comp : Option (Option Nat × AH)) : Prop := XX p l e { frames := 0, cells := k1, slots := k2, locals := 0 } s m args below meth c b_D_keptWithId o_D lw_tt 4 (Option.some (Jvm.ClassFile.FieldType.object "SerialDesk$Transaction")) "keptWithId" B n0 m0 (QM B below args s { frames := 0, cells := k1, slots := k2, locals := 0 } eR) h pc lv st comp
def f_D_keptWithId_b2 : Nat → Nat → Int32 → Int32 → AH → Option (Option Nat × AH)
  | 0, _, _, _, _ => none
  | n + 1, a0, x1, x2, h => (fR h 3 2 (some a0)).bind (fun r1001 => (gN h 2 r1001).bind (fun x1002 => (if x1002 ≤ x2 then some (none, h) else (fR h 3 2 (some a0)).bind (fun r1003 => (lR h 2 r1003 x2).bind (fun r1004 => (if r1004 = none then f_D_keptWithId_b2 n a0 x1 (x2 + 1) h else (fI h 1 0 r1004).bind (fun x1005 => (if x1005 = x1 then some (r1004, h) else f_D_keptWithId_b2 n a0 x1 (x2 + 1) h))))))))
def f_D_keptWithId (a0 : Nat) (x1 : Int32) (h : AH) : Option (Option Nat × AH) := f_D_keptWithId_b2 2000 a0 x1 (0 : Int32) h
set_option maxHeartbeats 4000000 in
set_option maxRecDepth 100000 in
theorem x_D_keptWithId_b2 {p : Program} {l : Launch} {e : Env} {k1 k2 : Nat} {s : State} {m : MethodId} {args : Array Value} {below : List Frame} {meth : Method} {c : Code} {B : AB} {n0 m0 : Nat} : ∀ (n : Nat) (a0 : Nat) (x1 : Int32) (x2 : Int32) (h : AH), X_D_keptWithId p l e k1 k2 s m args below meth c B n0 m0 h 2 [(0, .ref a0), (1, .int x1), (2, .int x2)] [] (f_D_keptWithId_b2 n a0 x1 x2 h) := by
  intro n
  induction n with
  | zero => intro a0 x1 x2 h; exact x_none
  | succ n ih =>
    intro a0 x1 x2 h
    rw [f_D_keptWithId_b2]
    refine x_go (pc' := 3) (st' := [.int x2]) (fun hC _ _ _ _ _ _ hl k => lv_iload_n hC.1 hC.2.1 d_D_keptWithId_2 rfl (lv_at hl 2 rfl) k) ?_
    refine x_go (pc' := 4) (st' := [.ref a0, .int x2]) (fun hC _ _ _ _ _ _ hl k => lv_aload_n hC.1 hC.2.1 d_D_keptWithId_3 rfl (lv_at hl 0 rfl) k) ?_
    refine x_getR (ci := 3) (kf := 2) (r := (some a0)) (fun hC => w_get hC iw_3 rfl 2 (by decide) tw_33 rfl d_D_keptWithId_4) (fun r1001 => ?_)
    refine x_alen (t := 2) rfl (r := r1001) d_D_keptWithId_7 (fun x1002 => ?_)
    refine x_if (P := x1002 ≤ x2) (pt := 38) (pf := 11) (st' := []) (fun hC _ _ _ _ _ _ kt kf => lv_icmp_ge (tgt := 38) hC.1 hC.2.1 d_D_keptWithId_8 (by decide) kt kf) ?_ ?_
    · refine x_go (pc' := 39) (st' := [va_rf none]) (fun hC _ _ _ _ _ _ hl k => lv_null hC.1 hC.2.1 d_D_keptWithId_38 k) ?_
      exact x_aret (x := none) (Or.inl ⟨_, rfl⟩) d_D_keptWithId_39
    · refine x_go (pc' := 12) (st' := [.ref a0]) (fun hC _ _ _ _ _ _ hl k => lv_aload_n hC.1 hC.2.1 d_D_keptWithId_11 rfl (lv_at hl 0 rfl) k) ?_
      refine x_getR (ci := 3) (kf := 2) (r := (some a0)) (fun hC => w_get hC iw_3 rfl 2 (by decide) tw_33 rfl d_D_keptWithId_12) (fun r1003 => ?_)
      refine x_go (pc' := 16) (st' := [.int x2, va_rf r1003]) (fun hC _ _ _ _ _ _ hl k => lv_iload_n hC.1 hC.2.1 d_D_keptWithId_15 rfl (lv_at hl 2 rfl) k) ?_
      refine x_aald (t := 2) rfl rfl (r := r1003) (i := x2) d_D_keptWithId_16 (fun r1004 => ?_)
      refine x_lift (pc' := 18) (st' := []) (lv' := [(3, va_rf r1004), (0, .ref a0), (1, .int x1), (2, .int x2)]) (fun hC _ _ _ _ _ _ hl k => lv_astore_nq (r := r1004) (i := 3) hC.1 hC.2.1 d_D_keptWithId_17 rfl hl (by decide) rfl k) ?_
      refine x_go (pc' := 19) (st' := [va_rf r1004]) (fun hC _ _ _ _ _ _ hl k => lv_aload_nq (r := r1004) hC.1 hC.2.1 d_D_keptWithId_18 rfl (lv_at hl 0 rfl) k) ?_
      refine x_if (P := r1004 = none) (pt := 32) (pf := 22) (st' := []) (fun hC _ _ _ _ _ _ kt kf => lv_ifnull_q (r := r1004) (tgt := 32) hC.1 hC.2.1 d_D_keptWithId_19 (by decide) kt kf) ?_ ?_
      · refine x_lift (pc' := 35) (st' := []) (lv' := [(2, .int (x2 + 1)), (3, va_rf r1004), (0, .ref a0), (1, .int x1)]) (fun hC _ _ _ _ _ _ hl k => lv_iinc (v := (x2 + 1)) hC.1 hC.2.1 d_D_keptWithId_32 hl (k := 3) rfl rfl (by decide) rfl k) ?_
        refine x_go (pc' := 2) (st' := []) (fun hC _ _ _ _ _ _ hl k => lv_goto (tgt := 2) hC.1 hC.2.1 d_D_keptWithId_35 (by decide) k) ?_
        exact x_sub (lv' := [(0, .ref a0), (1, .int x1), (2, .int (x2 + 1))]) [2, 3, 0] rfl (ih a0 x1 (x2 + 1) h)
      · refine x_go (pc' := 23) (st' := [va_rf r1004]) (fun hC _ _ _ _ _ _ hl k => lv_aload_nq (r := r1004) hC.1 hC.2.1 d_D_keptWithId_22 rfl (lv_at hl 0 rfl) k) ?_
        refine x_getI (ci := 1) (kf := 0) (r := r1004) (fun hC => w_getN (host := "SerialDesk") hC iw_1 rfl 0 (by decide) (List.mem_of_getElem? (i := 0) rfl) rfl d_D_keptWithId_23) (fun x1005 => ?_)
        refine x_go (pc' := 27) (st' := [.int x1, .int x1005]) (fun hC _ _ _ _ _ _ hl k => lv_iload_n hC.1 hC.2.1 d_D_keptWithId_26 rfl (lv_at hl 2 rfl) k) ?_
        refine x_if (P := x1005 = x1) (pt := 30) (pf := 32) (st' := []) (fun hC _ _ _ _ _ _ kt kf => lv_icmp_ne (tgt := 32) hC.1 hC.2.1 d_D_keptWithId_27 (by decide) kf kt) ?_ ?_
        · refine x_go (pc' := 31) (st' := [va_rf r1004]) (fun hC _ _ _ _ _ _ hl k => lv_aload_nq (r := r1004) hC.1 hC.2.1 d_D_keptWithId_30 rfl (lv_at hl 0 rfl) k) ?_
          exact x_aret (x := r1004) (Or.inl ⟨_, rfl⟩) d_D_keptWithId_31
        · refine x_lift (pc' := 35) (st' := []) (lv' := [(2, .int (x2 + 1)), (3, va_rf r1004), (0, .ref a0), (1, .int x1)]) (fun hC _ _ _ _ _ _ hl k => lv_iinc (v := (x2 + 1)) hC.1 hC.2.1 d_D_keptWithId_32 hl (k := 3) rfl rfl (by decide) rfl k) ?_
          refine x_go (pc' := 2) (st' := []) (fun hC _ _ _ _ _ _ hl k => lv_goto (tgt := 2) hC.1 hC.2.1 d_D_keptWithId_35 (by decide) k) ?_
          exact x_sub (lv' := [(0, .ref a0), (1, .int x1), (2, .int (x2 + 1))]) [2, 3, 0] rfl (ih a0 x1 (x2 + 1) h)
set_option maxHeartbeats 4000000 in
set_option maxRecDepth 100000 in
theorem c_D_keptWithId (l : Launch) (B : AB) (a0 : Nat) (x1 : Int32) (h : AH) : CT l B y_D_keptWithId (Cond.code y_D_keptWithId b_D_keptWithId 4 (Option.some (Jvm.ClassFile.FieldType.object "SerialDesk$Transaction")) :: lw_tt) 0 0 eR [.ref a0, .int x1] h (f_D_keptWithId a0 x1 h) := by
  refine ct_of (own := o_D) (nm := "keptWithId") (by decide +kernel) rfl rfl (Nat.le_of_ble_eq_true rfl) (fun p e k1 k2 s m args below meth c => ?_)
  refine x_sub (lv' := [(0, .ref a0), (1, .int x1)]) [0, 1] rfl ?_
  unfold f_D_keptWithId
  refine x_go (pc' := 1) (st' := [.int (0 : Int32)]) (fun hC _ _ _ _ _ _ hl k => lv_iconst (v := 0) hC.1 hC.2.1 d_D_keptWithId_0 (by decide) k) ?_
  refine x_lift (pc' := 2) (st' := []) (lv' := [(2, .int (0 : Int32)), (0, .ref a0), (1, .int x1)]) (fun hC _ _ _ _ _ _ hl k => lv_istore_n (i := 2) hC.1 hC.2.1 d_D_keptWithId_1 rfl hl (by decide) rfl k) ?_
  exact x_sub (lv' := [(0, .ref a0), (1, .int x1), (2, .int (0 : Int32))]) [1, 2, 0] rfl (x_D_keptWithId_b2 2000 a0 x1 (0 : Int32) h)
/-! SerialDesk.miss(II)Z -/
theorem d_D_miss_0 : decode b_D_miss 0 = .ok (.aload_n 0, 1) := by decide +kernel
theorem d_D_miss_1 : decode b_D_miss 1 = .ok (.iload_n 1, 1) := by decide +kernel
theorem d_D_miss_2 : decode b_D_miss 2 = .ok (.invokevirtual 49, 3) := by decide +kernel
theorem d_D_miss_5 : decode b_D_miss 5 = .ok (.astore_n 3, 1) := by decide +kernel
theorem d_D_miss_6 : decode b_D_miss 6 = .ok (.aload_n 3, 1) := by decide +kernel
theorem d_D_miss_7 : decode b_D_miss 7 = .ok (.ifnonnull 5, 3) := by decide +kernel
theorem d_D_miss_10 : decode b_D_miss 10 = .ok (.iconst 0, 1) := by decide +kernel
theorem d_D_miss_11 : decode b_D_miss 11 = .ok (.ireturn, 1) := by decide +kernel
theorem d_D_miss_12 : decode b_D_miss 12 = .ok (.aload_n 0, 1) := by decide +kernel
theorem d_D_miss_13 : decode b_D_miss 13 = .ok (.iload_n 2, 1) := by decide +kernel
theorem d_D_miss_14 : decode b_D_miss 14 = .ok (.invokevirtual 99, 3) := by decide +kernel
theorem d_D_miss_17 : decode b_D_miss 17 = .ok (.astore 4, 2) := by decide +kernel
theorem d_D_miss_19 : decode b_D_miss 19 = .ok (.aload 4, 2) := by decide +kernel
theorem d_D_miss_21 : decode b_D_miss 21 = .ok (.ifnull 48, 3) := by decide +kernel
theorem d_D_miss_24 : decode b_D_miss 24 = .ok (.aload 4, 2) := by decide +kernel
theorem d_D_miss_26 : decode b_D_miss 26 = .ok (.aload_n 3, 1) := by decide +kernel
theorem d_D_miss_27 : decode b_D_miss 27 = .ok (.if_acmp .eq 42, 3) := by decide +kernel
theorem d_D_miss_30 : decode b_D_miss 30 = .ok (.aload 4, 2) := by decide +kernel
theorem d_D_miss_32 : decode b_D_miss 32 = .ok (.aload_n 3, 1) := by decide +kernel
theorem d_D_miss_33 : decode b_D_miss 33 = .ok (.invokevirtual 79, 3) := by decide +kernel
theorem d_D_miss_36 : decode b_D_miss 36 = .ok (.ifCond .eq 33, 3) := by decide +kernel
theorem d_D_miss_39 : decode b_D_miss 39 = .ok (.aload_n 3, 1) := by decide +kernel
theorem d_D_miss_40 : decode b_D_miss 40 = .ok (.aload 4, 2) := by decide +kernel
theorem d_D_miss_42 : decode b_D_miss 42 = .ok (.invokevirtual 87, 3) := by decide +kernel
theorem d_D_miss_45 : decode b_D_miss 45 = .ok (.aload_n 3, 1) := by decide +kernel
theorem d_D_miss_46 : decode b_D_miss 46 = .ok (.aload 4, 2) := by decide +kernel
theorem d_D_miss_48 : decode b_D_miss 48 = .ok (.invokestatic 91, 3) := by decide +kernel
theorem d_D_miss_51 : decode b_D_miss 51 = .ok (.ifCond .ne 13, 3) := by decide +kernel
theorem d_D_miss_54 : decode b_D_miss 54 = .ok (.aload_n 0, 1) := by decide +kernel
theorem d_D_miss_55 : decode b_D_miss 55 = .ok (.aload_n 3, 1) := by decide +kernel
theorem d_D_miss_56 : decode b_D_miss 56 = .ok (.aload 4, 2) := by decide +kernel
theorem d_D_miss_58 : decode b_D_miss 58 = .ok (.invokevirtual 102, 3) := by decide +kernel
theorem d_D_miss_61 : decode b_D_miss 61 = .ok (.ifCond .eq 8, 3) := by decide +kernel
theorem d_D_miss_64 : decode b_D_miss 64 = .ok (.aload_n 3, 1) := by decide +kernel
theorem d_D_miss_65 : decode b_D_miss 65 = .ok (.iconst 1, 1) := by decide +kernel
theorem d_D_miss_66 : decode b_D_miss 66 = .ok (.putfield 95, 3) := by decide +kernel
theorem d_D_miss_69 : decode b_D_miss 69 = .ok (.aload_n 3, 1) := by decide +kernel
theorem d_D_miss_70 : decode b_D_miss 70 = .ok (.getfield 95, 3) := by decide +kernel
theorem d_D_miss_73 : decode b_D_miss 73 = .ok (.ireturn, 1) := by decide +kernel
abbrev X_D_miss (p : Program) (l : Launch) (e : Env) (k1 k2 : Nat) (s : State) (m : MethodId) (args : Array Value) (below : List Frame) (meth : Method) (c : Code) (B : AB) (n0 m0 : Nat) (h : AH) (pc : Nat) (lv : List (Nat × Value)) (st : List Value) (comp : Option (Int32 × AH)) : Prop := XX p l e { frames := 4, cells := k1, slots := k2, locals := 87 } s m args below meth c b_D_miss o_D lw_tt 5 (Option.some Jvm.ClassFile.FieldType.boolean) "miss" B n0 m0 (QM B below args s { frames := 4, cells := k1, slots := k2, locals := 87 } eI) h pc lv st comp
def f_D_miss_b64 (r3 : Option Nat) (h : AH) : Option (Int32 × AH) := (pZ h 1 4 r3 (1 : Int32)).bind (fun h1001 => (fI h1001 1 4 r3).bind (fun x1002 => rZ x1002 h1001))
def f_D_miss (a0 : Nat) (x1 : Int32) (x2 : Int32) (h : AH) : Option (Int32 × AH) := rcv h 3 (some a0) (fun b103 => bnd (f_D_runningIn b103 x1 h) (fun r102 h101 => (if r102 = none then rZ (0 : Int32) h101 else rcv h101 3 (some a0) (fun b106 => bnd (f_D_keptWithId b106 x2 h101) (fun r105 h104 => (if r105 = none then (fI h104 1 4 r102).bind (fun x107 => rZ x107 h104) else (if r105 = r102 then (fI h104 1 4 r102).bind (fun x108 => rZ x108 h104) else rcv h104 1 r105 (fun b111 => bnd (f_T_isConcurrentWith b111 r102 h104) (fun x110 h109 => (if x110 = 0 then (fI h109 1 4 r102).bind (fun x112 => rZ x112 h109) else rcv h109 1 r102 (fun b114 => bndU (f_T_pointAt b114 r105 h109) (fun h113 => bnd (f_D_isFirstOfDanger r102 r105 h113) (fun x116 h115 => (if x116 = 0 then rcv h115 3 (some a0) (fun b119 => bnd (f_D_isSecondOfDanger b119 r102 r105 h115) (fun x118 h117 => (if x118 = 0 then (fI h117 1 4 r102).bind (fun x120 => rZ x120 h117) else f_D_miss_b64 r102 h117))) else f_D_miss_b64 r102 h115))))))))))))))
set_option maxHeartbeats 4000000 in
set_option maxRecDepth 100000 in
theorem x_D_miss_b64 {p : Program} {l : Launch} {e : Env} {k1 k2 : Nat} {s : State} {m : MethodId} {args : Array Value} {below : List Frame} {meth : Method} {c : Code} {B : AB} {n0 m0 : Nat} (r3 : Option Nat) (h : AH) : X_D_miss p l e k1 k2 s m args below meth c B n0 m0 h 64 [(3, va_rf r3)] [] (f_D_miss_b64 r3 h) := by
  unfold f_D_miss_b64
  refine x_go (pc' := 65) (st' := [va_rf r3]) (fun hC _ _ _ _ _ _ hl k => lv_aload_nq (r := r3) hC.1 hC.2.1 d_D_miss_64 rfl (lv_at hl 0 rfl) k) ?_
  refine x_go (pc' := 66) (st' := [.int (1 : Int32), va_rf r3]) (fun hC _ _ _ _ _ _ hl k => lv_iconst (v := 1) hC.1 hC.2.1 d_D_miss_65 (by decide) k) ?_
  refine x_putZ (ci := 1) (kf := 4) (r := r3) (x := (1 : Int32)) (fun hz hC => w_putN (host := "SerialDesk") (ty := .boolean) hC iw_1 ft_1 ft_1_ok fn_1 rfl 4 (by decide) (List.mem_of_getElem? (i := 3) rfl) rfl rfl (by decide +kernel) hz rfl d_D_miss_66) (fun h1001 => ?_)
  refine x_go (pc' := 70) (st' := [va_rf r3]) (fun hC _ _ _ _ _ _ hl k => lv_aload_nq (r := r3) hC.1 hC.2.1 d_D_miss_69 rfl (lv_at hl 0 rfl) k) ?_
  refine x_getI (ci := 1) (kf := 4) (r := r3) (fun hC => w_getN (host := "SerialDesk") hC iw_1 rfl 4 (by decide) (List.mem_of_getElem? (i := 3) rfl) rfl d_D_miss_70) (fun x1002 => ?_)
  exact x_zret d_D_miss_73
set_option maxHeartbeats 4000000 in
set_option maxRecDepth 100000 in
theorem c_D_miss (l : Launch) (B : AB) (a0 : Nat) (x1 : Int32) (x2 : Int32) (h : AH) : CT l B y_D_miss (Cond.code y_D_miss b_D_miss 5 (Option.some Jvm.ClassFile.FieldType.boolean) :: lw_tt) 4 87 eI [.ref a0, .int x1, .int x2] h (f_D_miss a0 x1 x2 h) := by
  refine ct_of (own := o_D) (nm := "miss") (by decide +kernel) rfl rfl (Nat.le_of_ble_eq_true rfl) (fun p e k1 k2 s m args below meth c => ?_)
  refine x_sub (lv' := [(0, .ref a0), (1, .int x1), (2, .int x2)]) [0, 1, 2] rfl ?_
  unfold f_D_miss
  refine x_go (pc' := 1) (st' := [.ref a0]) (fun hC _ _ _ _ _ _ hl k => lv_aload_n hC.1 hC.2.1 d_D_miss_0 rfl (lv_at hl 0 rfl) k) ?_
  refine x_go (pc' := 2) (st' := [.int x1, .ref a0]) (fun hC _ _ _ _ _ _ hl k => lv_iload_n hC.1 hC.2.1 d_D_miss_1 rfl (lv_at hl 1 rfl) k) ?_
  refine x_recv (ci := 3) (r := (some a0)) (fun b103 _ eb103 gb103 => ?_)
  refine x_callR (rest := []) (c_D_runningIn l B b103 x1 h) (fun hC => fun e1 e2 e3 e4 hM => fun hR hsz hc hs => run_V (n := 1) hC lw_good rfl rfl tw_106 tw_108 tv_1 tw_1 tw_109 (by decide) d_D_miss_2 gb103 (by rw [e1]; exact Nat.le_of_ble_eq_true rfl) (by rw [e2]; exact Nat.le_of_ble_eq_true rfl) e3 e4 hM hR hsz hc hs rfl (by cases eb103; rfl) (Nat.le_of_ble_eq_true rfl)) (fun r102 h101 => ?_)
  refine x_lift (pc' := 6) (st' := []) (lv' := [(3, va_rf r102), (0, .ref a0), (1, .int x1), (2, .int x2)]) (fun hC _ _ _ _ _ _ hl k => lv_astore_nq (r := r102) (i := 3) hC.1 hC.2.1 d_D_miss_5 rfl hl (by decide) rfl k) ?_
  refine x_go (pc' := 7) (st' := [va_rf r102]) (fun hC _ _ _ _ _ _ hl k => lv_aload_nq (r := r102) hC.1 hC.2.1 d_D_miss_6 rfl (lv_at hl 0 rfl) k) ?_
  refine x_if (P := r102 = none) (pt := 10) (pf := 12) (st' := []) (fun hC _ _ _ _ _ _ kt kf => lv_ifnonnull_q (r := r102) (tgt := 12) hC.1 hC.2.1 d_D_miss_7 (by decide) kt kf) ?_ ?_
  · refine x_go (pc' := 11) (st' := [.int (0 : Int32)]) (fun hC _ _ _ _ _ _ hl k => lv_iconst (v := 0) hC.1 hC.2.1 d_D_miss_10 (by decide) k) ?_
    exact x_zret d_D_miss_11
  · refine x_go (pc' := 13) (st' := [.ref a0]) (fun hC _ _ _ _ _ _ hl k => lv_aload_n hC.1 hC.2.1 d_D_miss_12 rfl (lv_at hl 1 rfl) k) ?_
    refine x_go (pc' := 14) (st' := [.int x2, .ref a0]) (fun hC _ _ _ _ _ _ hl k => lv_iload_n hC.1 hC.2.1 d_D_miss_13 rfl (lv_at hl 3 rfl) k) ?_
    refine x_recv (ci := 3) (r := (some a0)) (fun b106 _ eb106 gb106 => ?_)
    refine x_callR (rest := []) (c_D_keptWithId l B b106 x2 h101) (fun hC => fun e1 e2 e3 e4 hM => fun hR hsz hc hs => run_V (n := 1) hC lw_good rfl rfl tw_237 tw_239 tv_6 tw_1 tw_240 (by decide) d_D_miss_14 gb106 (by rw [e1]; exact Nat.le_of_ble_eq_true rfl) (by rw [e2]; exact Nat.le_of_ble_eq_true rfl) e3 e4 hM hR hsz hc hs rfl (by cases eb106; rfl) (Nat.le_of_ble_eq_true rfl)) (fun r105 h104 => ?_)
    refine x_lift (pc' := 19) (st' := []) (lv' := [(4, va_rf r105), (3, va_rf r102), (0, .ref a0), (1, .int x1), (2, .int x2)]) (fun hC _ _ _ _ _ _ hl k => lv_astore_q (r := r105) (i := 4) hC.1 hC.2.1 d_D_miss_17 hl (by decide) (by simp [rf_cat, cat_i, cat_l, cat_r]) k) ?_
    refine x_go (pc' := 21) (st' := [va_rf r105]) (fun hC _ _ _ _ _ _ hl k => lv_aload_q (r := r105) hC.1 hC.2.1 d_D_miss_19 (lv_at hl 0 rfl) k) ?_
    refine x_if (P := r105 = none) (pt := 69) (pf := 24) (st' := []) (fun hC _ _ _ _ _ _ kt kf => lv_ifnull_q (r := r105) (tgt := 69) hC.1 hC.2.1 d_D_miss_21 (by decide) kt kf) ?_ ?_
    · refine x_go (pc' := 70) (st' := [va_rf r102]) (fun hC _ _ _ _ _ _ hl k => lv_aload_nq (r := r102) hC.1 hC.2.1 d_D_miss_69 rfl (lv_at hl 1 rfl) k) ?_
      refine x_getI (ci := 1) (kf := 4) (r := r102) (fun hC => w_getN (host := "SerialDesk") hC iw_1 rfl 4 (by decide) (List.mem_of_getElem? (i := 3) rfl) rfl d_D_miss_70) (fun x107 => ?_)
      exact x_zret d_D_miss_73
    · refine x_go (pc' := 26) (st' := [va_rf r105]) (fun hC _ _ _ _ _ _ hl k => lv_aload_q (r := r105) hC.1 hC.2.1 d_D_miss_24 (lv_at hl 0 rfl) k) ?_
      refine x_go (pc' := 27) (st' := [va_rf r102, va_rf r105]) (fun hC _ _ _ _ _ _ hl k => lv_aload_nq (r := r102) hC.1 hC.2.1 d_D_miss_26 rfl (lv_at hl 1 rfl) k) ?_
      refine x_if (P := r105 = r102) (pt := 69) (pf := 30) (st' := []) (fun hC _ _ _ _ _ _ kt kf => lv_acmp_eq (rx := r105) (ry := r102) (tgt := 69) hC.1 hC.2.1 d_D_miss_27 (by decide) kt kf) ?_ ?_
      · refine x_go (pc' := 70) (st' := [va_rf r102]) (fun hC _ _ _ _ _ _ hl k => lv_aload_nq (r := r102) hC.1 hC.2.1 d_D_miss_69 rfl (lv_at hl 1 rfl) k) ?_
        refine x_getI (ci := 1) (kf := 4) (r := r102) (fun hC => w_getN (host := "SerialDesk") hC iw_1 rfl 4 (by decide) (List.mem_of_getElem? (i := 3) rfl) rfl d_D_miss_70) (fun x108 => ?_)
        exact x_zret d_D_miss_73
      · refine x_go (pc' := 32) (st' := [va_rf r105]) (fun hC _ _ _ _ _ _ hl k => lv_aload_q (r := r105) hC.1 hC.2.1 d_D_miss_30 (lv_at hl 0 rfl) k) ?_
        refine x_go (pc' := 33) (st' := [va_rf r102, va_rf r105]) (fun hC _ _ _ _ _ _ hl k => lv_aload_nq (r := r102) hC.1 hC.2.1 d_D_miss_32 rfl (lv_at hl 1 rfl) k) ?_
        refine x_recv (ci := 1) (r := r105) (fun b111 _ eb111 gb111 => ?_)
        refine x_callI (rest := []) (c_T_isConcurrentWith l B b111 r102 h104) (fun hC => fun e1 e2 e3 e4 hM => fun hR hsz hc hs => run_V (n := 1) hC lw_good rfl rfl tw_185 tw_186 tw_187 tw_4 tw_188 (by decide) d_D_miss_33 gb111 (by rw [e1]; exact Nat.le_of_ble_eq_true rfl) (by rw [e2]; exact Nat.le_of_ble_eq_true rfl) e3 e4 hM hR hsz hc hs rfl (by cases eb111; rfl) (Nat.le_of_ble_eq_true rfl)) (fun x110 h109 => ?_)
        refine x_if (P := x110 = 0) (pt := 69) (pf := 39) (st' := []) (fun hC _ _ _ _ _ _ kt kf => lv_if_eq (tgt := 69) hC.1 hC.2.1 d_D_miss_36 (by decide) kt kf) ?_ ?_
        · refine x_go (pc' := 70) (st' := [va_rf r102]) (fun hC _ _ _ _ _ _ hl k => lv_aload_nq (r := r102) hC.1 hC.2.1 d_D_miss_69 rfl (lv_at hl 1 rfl) k) ?_
          refine x_getI (ci := 1) (kf := 4) (r := r102) (fun hC => w_getN (host := "SerialDesk") hC iw_1 rfl 4 (by decide) (List.mem_of_getElem? (i := 3) rfl) rfl d_D_miss_70) (fun x112 => ?_)
          exact x_zret d_D_miss_73
        · refine x_go (pc' := 40) (st' := [va_rf r102]) (fun hC _ _ _ _ _ _ hl k => lv_aload_nq (r := r102) hC.1 hC.2.1 d_D_miss_39 rfl (lv_at hl 1 rfl) k) ?_
          refine x_go (pc' := 42) (st' := [va_rf r105, va_rf r102]) (fun hC _ _ _ _ _ _ hl k => lv_aload_q (r := r105) hC.1 hC.2.1 d_D_miss_40 (lv_at hl 0 rfl) k) ?_
          refine x_recv (ci := 1) (r := r102) (fun b114 _ eb114 gb114 => ?_)
          refine x_callU (rest := []) (c_T_pointAt l B b114 r105 h109) (fun hC => fun e1 e2 e3 e4 hM => fun hR hsz hc hs => run_V (n := 1) hC lw_good rfl rfl tw_218 tw_219 tw_220 tw_4 tw_221 (by decide) d_D_miss_42 gb114 (by rw [e1]; exact Nat.le_of_ble_eq_true rfl) (by rw [e2]; exact Nat.le_of_ble_eq_true rfl) e3 e4 hM hR hsz hc hs rfl (by cases eb114; rfl) (Nat.le_of_ble_eq_true rfl)) (fun h113 => ?_)
          refine x_go (pc' := 46) (st' := [va_rf r102]) (fun hC _ _ _ _ _ _ hl k => lv_aload_nq (r := r102) hC.1 hC.2.1 d_D_miss_45 rfl (lv_at hl 1 rfl) k) ?_
          refine x_go (pc' := 48) (st' := [va_rf r105, va_rf r102]) (fun hC _ _ _ _ _ _ hl k => lv_aload_q (r := r105) hC.1 hC.2.1 d_D_miss_46 (lv_at hl 0 rfl) k) ?_
          refine x_callI (rest := []) (c_D_isFirstOfDanger l B r102 r105 h113) (fun hC => fun e1 e2 e3 e4 hM => fun hR hsz hc hs => run_S (n := 2) hC lw_good tw_226 tw_227 tw_1 tw_228 (by decide) d_D_miss_48 (by rw [e1]; exact Nat.le_of_ble_eq_true rfl) (by rw [e2]; exact Nat.le_of_ble_eq_true rfl) e3 e4 hM hR hsz hc hs rfl rfl (Nat.le_of_ble_eq_true rfl)) (fun x116 h115 => ?_)
          refine x_if (P := x116 = 0) (pt := 54) (pf := 64) (st' := []) (fun hC _ _ _ _ _ _ kt kf => lv_if_ne (tgt := 64) hC.1 hC.2.1 d_D_miss_51 (by decide) kf kt) ?_ ?_
          · refine x_go (pc' := 55) (st' := [.ref a0]) (fun hC _ _ _ _ _ _ hl k => lv_aload_n hC.1 hC.2.1 d_D_miss_54 rfl (lv_at hl 2 rfl) k) ?_
            refine x_go (pc' := 56) (st' := [va_rf r102, .ref a0]) (fun hC _ _ _ _ _ _ hl k => lv_aload_nq (r := r102) hC.1 hC.2.1 d_D_miss_55 rfl (lv_at hl 1 rfl) k) ?_
            refine x_go (pc' := 58) (st' := [va_rf r105, va_rf r102, .ref a0]) (fun hC _ _ _ _ _ _ hl k => lv_aload_q (r := r105) hC.1 hC.2.1 d_D_miss_56 (lv_at hl 0 rfl) k) ?_
            refine x_recv (ci := 3) (r := (some a0)) (fun b119 _ eb119 gb119 => ?_)
            refine x_callI (rest := []) (c_D_isSecondOfDanger l B b119 r102 r105 h115) (fun hC => fun e1 e2 e3 e4 hM => fun hR hsz hc hs => run_V (n := 2) hC lw_good rfl rfl tw_241 tw_243 tv_7 tw_1 tw_244 (by decide) d_D_miss_58 gb119 (by rw [e1]; exact Nat.le_of_ble_eq_true rfl) (by rw [e2]; exact Nat.le_of_ble_eq_true rfl) e3 e4 hM hR hsz hc hs rfl (by cases eb119; rfl) (Nat.le_of_ble_eq_true rfl)) (fun x118 h117 => ?_)
            refine x_if (P := x118 = 0) (pt := 69) (pf := 64) (st' := []) (fun hC _ _ _ _ _ _ kt kf => lv_if_eq (tgt := 69) hC.1 hC.2.1 d_D_miss_61 (by decide) kt kf) ?_ ?_
            · refine x_go (pc' := 70) (st' := [va_rf r102]) (fun hC _ _ _ _ _ _ hl k => lv_aload_nq (r := r102) hC.1 hC.2.1 d_D_miss_69 rfl (lv_at hl 1 rfl) k) ?_
              refine x_getI (ci := 1) (kf := 4) (r := r102) (fun hC => w_getN (host := "SerialDesk") hC iw_1 rfl 4 (by decide) (List.mem_of_getElem? (i := 3) rfl) rfl d_D_miss_70) (fun x120 => ?_)
              exact x_zret d_D_miss_73
            · exact x_sub (lv' := [(3, va_rf r102)]) [1] rfl (x_D_miss_b64 r102 h117)
          · exact x_sub (lv' := [(3, va_rf r102)]) [1] rfl (x_D_miss_b64 r102 h115)
/-! SerialDesk.commitsAtEarliestBegin()I -/
theorem d_D_commitsAtEarliestBegin_0 : decode b_D_commitsAtEarliestBegin 0 = .ok (.aload_n 0, 1) := by decide +kernel
theorem d_D_commitsAtEarliestBegin_1 : decode b_D_commitsAtEarliestBegin 1 = .ok (.getfield 32, 3) := by decide +kernel
theorem d_D_commitsAtEarliestBegin_4 : decode b_D_commitsAtEarliestBegin 4 = .ok (.istore_n 1, 1) := by decide +kernel
theorem d_D_commitsAtEarliestBegin_5 : decode b_D_commitsAtEarliestBegin 5 = .ok (.iconst 0, 1) := by decide +kernel
theorem d_D_commitsAtEarliestBegin_6 : decode b_D_commitsAtEarliestBegin 6 = .ok (.istore_n 2, 1) := by decide +kernel
theorem d_D_commitsAtEarliestBegin_7 : decode b_D_commitsAtEarliestBegin 7 = .ok (.iload_n 2, 1) := by decide +kernel
theorem d_D_commitsAtEarliestBegin_8 : decode b_D_commitsAtEarliestBegin 8 = .ok (.aload_n 0, 1) := by decide +kernel
theorem d_D_commitsAtEarliestBegin_9 : decode b_D_commitsAtEarliestBegin 9 = .ok (.getfield 18, 3) := by decide +kernel
theorem d_D_commitsAtEarliestBegin_12 : decode b_D_commitsAtEarliestBegin 12 = .ok (.arraylength, 1) := by decide +kernel
theorem d_D_commitsAtEarliestBegin_13 : decode b_D_commitsAtEarliestBegin 13 = .ok (.if_icmp .ge 33, 3) := by decide +kernel
theorem d_D_commitsAtEarliestBegin_16 : decode b_D_commitsAtEarliestBegin 16 = .ok (.aload_n 0, 1) := by decide +kernel
theorem d_D_commitsAtEarliestBegin_17 : decode b_D_commitsAtEarliestBegin 17 = .ok (.getfield 18, 3) := by decide +kernel
theorem d_D_commitsAtEarliestBegin_20 : decode b_D_commitsAtEarliestBegin 20 = .ok (.iload_n 2, 1) := by decide +kernel
theorem d_D_commitsAtEarliestBegin_21 : decode b_D_commitsAtEarliestBegin 21 = .ok (.aaload, 1) := by decide +kernel
theorem d_D_commitsAtEarliestBegin_22 : decode b_D_commitsAtEarliestBegin 22 = .ok (.astore_n 3, 1) := by decide +kernel
theorem d_D_commitsAtEarliestBegin_23 : decode b_D_commitsAtEarliestBegin 23 = .ok (.aload_n 3, 1) := by decide +kernel
theorem d_D_commitsAtEarliestBegin_24 : decode b_D_commitsAtEarliestBegin 24 = .ok (.ifnull 16, 3) := by decide +kernel
theorem d_D_commitsAtEarliestBegin_27 : decode b_D_commitsAtEarliestBegin 27 = .ok (.aload_n 3, 1) := by decide +kernel
theorem d_D_commitsAtEarliestBegin_28 : decode b_D_commitsAtEarliestBegin 28 = .ok (.getfield 121, 3) := by decide +kernel
theorem d_D_commitsAtEarliestBegin_31 : decode b_D_commitsAtEarliestBegin 31 = .ok (.iload_n 1, 1) := by decide +kernel
theorem d_D_commitsAtEarliestBegin_32 : decode b_D_commitsAtEarliestBegin 32 = .ok (.if_icmp .ge 8, 3) := by decide +kernel
theorem d_D_commitsAtEarliestBegin_35 : decode b_D_commitsAtEarliestBegin 35 = .ok (.aload_n 3, 1) := by decide +kernel
theorem d_D_commitsAtEarliestBegin_36 : decode b_D_commitsAtEarliestBegin 36 = .ok (.getfield 121, 3) := by decide +kernel
theorem d_D_commitsAtEarliestBegin_39 : decode b_D_commitsAtEarliestBegin 39 = .ok (.istore_n 1, 1) := by decide +kernel
theorem d_D_commitsAtEarliestBegin_40 : decode b_D_commitsAtEarliestBegin 40 = .ok (.iinc 2 1, 3) := by decide +kernel
theorem d_D_commitsAtEarliestBegin_43 : decode b_D_commitsAtEarliestBegin 43 = .ok (.goto (-36), 3) := by decide +kernel
theorem d_D_commitsAtEarliestBegin_46 : decode b_D_commitsAtEarliestBegin 46 = .ok (.iload_n 1, 1) := by decide +kernel
theorem d_D_commitsAtEarliestBegin_47 : decode b_D_commitsAtEarliestBegin 47 = .ok (.ireturn, 1) := by decide +kernel
abbrev X_D_commitsAtEarliestBegin (p : Program) (l : Launch) (e : Env) (k1 k2 : Nat) (s : State) (m : MethodId) (args : Array Value) (below : List Frame) (meth : Method) (c : Code) (B : AB) (n0 m0 : Nat) (h : AH) (pc : Nat) (lv : List (Nat × Value)) (st : List Value) (comp : Option (Int32 × AH)) : Prop := XX p l e { frames := 0, cells := k1, slots := k2, locals := 0 } s m args below meth c b_D_commitsAtEarliestBegin o_D lw_tt 4 (Option.some Jvm.ClassFile.FieldType.int) "commitsAtEarliestBegin" B n0 m0 (QM B below args s { frames := 0, cells := k1, slots := k2, locals := 0 } eI) h pc lv st comp
def f_D_commitsAtEarliestBegin_b7 : Nat → Nat → Int32 → Int32 → AH → Option (Int32 × AH)
  | 0, _, _, _, _ => none
  | n + 1, a0, x1, x2, h => (fR h 3 1 (some a0)).bind (fun r1001 => (gN h 2 r1001).bind (fun x1002 => (if x1002 ≤ x2 then some (x1, h) else (fR h 3 1 (some a0)).bind (fun r1003 => (lR h 2 r1003 x2).bind (fun r1004 => (if r1004 = none then f_D_commitsAtEarliestBegin_b7 n a0 x1 (x2 + 1) h else (fI h 1 2 r1004).bind (fun x1005 => (if x1 ≤ x1005 then f_D_commitsAtEarliestBegin_b7 n a0 x1 (x2 + 1) h else (fI h 1 2 r1004).bind (fun x1006 => f_D_commitsAtEarliestBegin_b7 n a0 x1006 (x2 + 1) h)))))))))
def f_D_commitsAtEarliestBegin (a0 : Nat) (h : AH) : Option (Int32 × AH) := (fI h 3 5 (some a0)).bind (fun x101 => f_D_commitsAtEarliestBegin_b7 2000 a0 x101 (0 : Int32) h)
set_option maxHeartbeats 4000000 in
set_option maxRecDepth 100000 in
theorem x_D_commitsAtEarliestBegin_b7 {p : Program} {l : Launch} {e : Env} {k1 k2 : Nat} {s : State} {m : MethodId} {args : Array Value} {below : List Frame} {meth : Method} {c : Code} {B : AB} {n0 m0 : Nat} : ∀ (n : Nat) (a0 : Nat) (x1 : Int32) (x2 : Int32) (h : AH), X_D_commitsAtEarliestBegin p l e k1 k2 s m args below meth c B n0 m0 h 7 [(0, .ref a0), (1, .int x1), (2, .int x2)] [] (f_D_commitsAtEarliestBegin_b7 n a0 x1 x2 h) := by
  intro n
  induction n with
  | zero => intro a0 x1 x2 h; exact x_none
  | succ n ih =>
    intro a0 x1 x2 h
    rw [f_D_commitsAtEarliestBegin_b7]
    refine x_go (pc' := 8) (st' := [.int x2]) (fun hC _ _ _ _ _ _ hl k => lv_iload_n hC.1 hC.2.1 d_D_commitsAtEarliestBegin_7 rfl (lv_at hl 2 rfl) k) ?_
    refine x_go (pc' := 9) (st' := [.ref a0, .int x2]) (fun hC _ _ _ _ _ _ hl k => lv_aload_n hC.1 hC.2.1 d_D_commitsAtEarliestBegin_8 rfl (lv_at hl 0 rfl) k) ?_
    refine x_getR (ci := 3) (kf := 1) (r := (some a0)) (fun hC => w_get hC iw_3 rfl 1 (by decide) tw_32 rfl d_D_commitsAtEarliestBegin_9) (fun r1001 => ?_)
    refine x_alen (t := 2) rfl (r := r1001) d_D_commitsAtEarliestBegin_12 (fun x1002 => ?_)
    refine x_if (P := x1002 ≤ x2) (pt := 46) (pf := 16) (st' := []) (fun hC _ _ _ _ _ _ kt kf => lv_icmp_ge (tgt := 46) hC.1 hC.2.1 d_D_commitsAtEarliestBegin_13 (by decide) kt kf) ?_ ?_
    · refine x_go (pc' := 47) (st' := [.int x1]) (fun hC _ _ _ _ _ _ hl k => lv_iload_n hC.1 hC.2.1 d_D_commitsAtEarliestBegin_46 rfl (lv_at hl 1 rfl) k) ?_
      exact x_iret d_D_commitsAtEarliestBegin_47
    · refine x_go (pc' := 17) (st' := [.ref a0]) (fun hC _ _ _ _ _ _ hl k => lv_aload_n hC.1 hC.2.1 d_D_commitsAtEarliestBegin_16 rfl (lv_at hl 0 rfl) k) ?_
      refine x_getR (ci := 3) (kf := 1) (r := (some a0)) (fun hC => w_get hC iw_3 rfl 1 (by decide) tw_32 rfl d_D_commitsAtEarliestBegin_17) (fun r1003 => ?_)
      refine x_go (pc' := 21) (st' := [.int x2, va_rf r1003]) (fun hC _ _ _ _ _ _ hl k => lv_iload_n hC.1 hC.2.1 d_D_commitsAtEarliestBegin_20 rfl (lv_at hl 2 rfl) k) ?_
      refine x_aald (t := 2) rfl rfl (r := r1003) (i := x2) d_D_commitsAtEarliestBegin_21 (fun r1004 => ?_)
      refine x_lift (pc' := 23) (st' := []) (lv' := [(3, va_rf r1004), (0, .ref a0), (1, .int x1), (2, .int x2)]) (fun hC _ _ _ _ _ _ hl k => lv_astore_nq (r := r1004) (i := 3) hC.1 hC.2.1 d_D_commitsAtEarliestBegin_22 rfl hl (by decide) rfl k) ?_
      refine x_go (pc' := 24) (st' := [va_rf r1004]) (fun hC _ _ _ _ _ _ hl k => lv_aload_nq (r := r1004) hC.1 hC.2.1 d_D_commitsAtEarliestBegin_23 rfl (lv_at hl 0 rfl) k) ?_
      refine x_if (P := r1004 = none) (pt := 40) (pf := 27) (st' := []) (fun hC _ _ _ _ _ _ kt kf => lv_ifnull_q (r := r1004) (tgt := 40) hC.1 hC.2.1 d_D_commitsAtEarliestBegin_24 (by decide) kt kf) ?_ ?_
      · refine x_lift (pc' := 43) (st' := []) (lv' := [(2, .int (x2 + 1)), (3, va_rf r1004), (0, .ref a0), (1, .int x1)]) (fun hC _ _ _ _ _ _ hl k => lv_iinc (v := (x2 + 1)) hC.1 hC.2.1 d_D_commitsAtEarliestBegin_40 hl (k := 3) rfl rfl (by decide) rfl k) ?_
        refine x_go (pc' := 7) (st' := []) (fun hC _ _ _ _ _ _ hl k => lv_goto (tgt := 7) hC.1 hC.2.1 d_D_commitsAtEarliestBegin_43 (by decide) k) ?_
        exact x_sub (lv' := [(0, .ref a0), (1, .int x1), (2, .int (x2 + 1))]) [2, 3, 0] rfl (ih a0 x1 (x2 + 1) h)
      · refine x_go (pc' := 28) (st' := [va_rf r1004]) (fun hC _ _ _ _ _ _ hl k => lv_aload_nq (r := r1004) hC.1 hC.2.1 d_D_commitsAtEarliestBegin_27 rfl (lv_at hl 0 rfl) k) ?_
        refine x_getI (ci := 1) (kf := 2) (r := r1004) (fun hC => w_getN (host := "SerialDesk") hC iw_1 rfl 2 (by decide) (List.mem_of_getElem? (i := 5) rfl) rfl d_D_commitsAtEarliestBegin_28) (fun x1005 => ?_)
        refine x_go (pc' := 32) (st' := [.int x1, .int x1005]) (fun hC _ _ _ _ _ _ hl k => lv_iload_n hC.1 hC.2.1 d_D_commitsAtEarliestBegin_31 rfl (lv_at hl 2 rfl) k) ?_
        refine x_if (P := x1 ≤ x1005) (pt := 40) (pf := 35) (st' := []) (fun hC _ _ _ _ _ _ kt kf => lv_icmp_ge (tgt := 40) hC.1 hC.2.1 d_D_commitsAtEarliestBegin_32 (by decide) kt kf) ?_ ?_
        · refine x_lift (pc' := 43) (st' := []) (lv' := [(2, .int (x2 + 1)), (3, va_rf r1004), (0, .ref a0), (1, .int x1)]) (fun hC _ _ _ _ _ _ hl k => lv_iinc (v := (x2 + 1)) hC.1 hC.2.1 d_D_commitsAtEarliestBegin_40 hl (k := 3) rfl rfl (by decide) rfl k) ?_
          refine x_go (pc' := 7) (st' := []) (fun hC _ _ _ _ _ _ hl k => lv_goto (tgt := 7) hC.1 hC.2.1 d_D_commitsAtEarliestBegin_43 (by decide) k) ?_
          exact x_sub (lv' := [(0, .ref a0), (1, .int x1), (2, .int (x2 + 1))]) [2, 3, 0] rfl (ih a0 x1 (x2 + 1) h)
        · refine x_go (pc' := 36) (st' := [va_rf r1004]) (fun hC _ _ _ _ _ _ hl k => lv_aload_nq (r := r1004) hC.1 hC.2.1 d_D_commitsAtEarliestBegin_35 rfl (lv_at hl 0 rfl) k) ?_
          refine x_getI (ci := 1) (kf := 2) (r := r1004) (fun hC => w_getN (host := "SerialDesk") hC iw_1 rfl 2 (by decide) (List.mem_of_getElem? (i := 5) rfl) rfl d_D_commitsAtEarliestBegin_36) (fun x1006 => ?_)
          refine x_lift (pc' := 40) (st' := []) (lv' := [(1, .int x1006), (3, va_rf r1004), (0, .ref a0), (2, .int x2)]) (fun hC _ _ _ _ _ _ hl k => lv_istore_n (i := 1) hC.1 hC.2.1 d_D_commitsAtEarliestBegin_39 rfl hl (by decide) rfl k) ?_
          refine x_lift (pc' := 43) (st' := []) (lv' := [(2, .int (x2 + 1)), (1, .int x1006), (3, va_rf r1004), (0, .ref a0)]) (fun hC _ _ _ _ _ _ hl k => lv_iinc (v := (x2 + 1)) hC.1 hC.2.1 d_D_commitsAtEarliestBegin_40 hl (k := 3) rfl rfl (by decide) rfl k) ?_
          refine x_go (pc' := 7) (st' := []) (fun hC _ _ _ _ _ _ hl k => lv_goto (tgt := 7) hC.1 hC.2.1 d_D_commitsAtEarliestBegin_43 (by decide) k) ?_
          exact x_sub (lv' := [(0, .ref a0), (1, .int x1006), (2, .int (x2 + 1))]) [3, 1, 0] rfl (ih a0 x1006 (x2 + 1) h)
set_option maxHeartbeats 4000000 in
set_option maxRecDepth 100000 in
theorem c_D_commitsAtEarliestBegin (l : Launch) (B : AB) (a0 : Nat) (h : AH) : CT l B y_D_commitsAtEarliestBegin (Cond.code y_D_commitsAtEarliestBegin b_D_commitsAtEarliestBegin 4 (Option.some Jvm.ClassFile.FieldType.int) :: lw_tt) 0 0 eI [.ref a0] h (f_D_commitsAtEarliestBegin a0 h) := by
  refine ct_of (own := o_D) (nm := "commitsAtEarliestBegin") (by decide +kernel) rfl rfl (Nat.le_of_ble_eq_true rfl) (fun p e k1 k2 s m args below meth c => ?_)
  refine x_sub (lv' := [(0, .ref a0)]) [0] rfl ?_
  unfold f_D_commitsAtEarliestBegin
  refine x_go (pc' := 1) (st' := [.ref a0]) (fun hC _ _ _ _ _ _ hl k => lv_aload_n hC.1 hC.2.1 d_D_commitsAtEarliestBegin_0 rfl (lv_at hl 0 rfl) k) ?_
  refine x_getI (ci := 3) (kf := 5) (r := (some a0)) (fun hC => w_get hC iw_3 rfl 5 (by decide) tw_36 rfl d_D_commitsAtEarliestBegin_1) (fun x101 => ?_)
  refine x_lift (pc' := 5) (st' := []) (lv' := [(1, .int x101), (0, .ref a0)]) (fun hC _ _ _ _ _ _ hl k => lv_istore_n (i := 1) hC.1 hC.2.1 d_D_commitsAtEarliestBegin_4 rfl hl (by decide) rfl k) ?_
  refine x_go (pc' := 6) (st' := [.int (0 : Int32)]) (fun hC _ _ _ _ _ _ hl k => lv_iconst (v := 0) hC.1 hC.2.1 d_D_commitsAtEarliestBegin_5 (by decide) k) ?_
  refine x_lift (pc' := 7) (st' := []) (lv' := [(2, .int (0 : Int32)), (1, .int x101), (0, .ref a0)]) (fun hC _ _ _ _ _ _ hl k => lv_istore_n (i := 2) hC.1 hC.2.1 d_D_commitsAtEarliestBegin_6 rfl hl (by decide) rfl k) ?_
  exact x_sub (lv' := [(0, .ref a0), (1, .int x101), (2, .int (0 : Int32))]) [2, 1, 0] rfl (x_D_commitsAtEarliestBegin_b7 2000 a0 x101 (0 : Int32) h)
/-! SerialDesk$Transaction.forgetArrowTo(LSerialDesk$Transaction;)V -/
theorem d_T_forgetArrowTo_0 : decode b_T_forgetArrowTo 0 = .ok (.aload_n 0, 1) := by decide +kernel
theorem d_T_forgetArrowTo_1 : decode b_T_forgetArrowTo 1 = .ok (.dup, 1) := by decide +kernel
theorem d_T_forgetArrowTo_2 : decode b_T_forgetArrowTo 2 = .ok (.getfield 28, 3) := by decide +kernel
theorem d_T_forgetArrowTo_5 : decode b_T_forgetArrowTo 5 = .ok (.lconst 1, 1) := by decide +kernel
theorem d_T_forgetArrowTo_6 : decode b_T_forgetArrowTo 6 = .ok (.aload_n 1, 1) := by decide +kernel
theorem d_T_forgetArrowTo_7 : decode b_T_forgetArrowTo 7 = .ok (.getfield 15, 3) := by decide +kernel
theorem d_T_forgetArrowTo_10 : decode b_T_forgetArrowTo 10 = .ok (.lshl, 1) := by decide +kernel
theorem d_T_forgetArrowTo_11 : decode b_T_forgetArrowTo 11 = .ok (.ldc2_w 53, 3) := by decide +kernel
theorem d_T_forgetArrowTo_14 : decode b_T_forgetArrowTo 14 = .ok (.lxor, 1) := by decide +kernel
theorem d_T_forgetArrowTo_15 : decode b_T_forgetArrowTo 15 = .ok (.land, 1) := by decide +kernel
theorem d_T_forgetArrowTo_16 : decode b_T_forgetArrowTo 16 = .ok (.putfield 28, 3) := by decide +kernel
theorem d_T_forgetArrowTo_19 : decode b_T_forgetArrowTo 19 = .ok (.return_, 1) := by decide +kernel
abbrev X_T_forgetArrowTo (p : Program) (l : Launch) (e : Env) (k1 k2 : Nat) (s : State) (m : MethodId) (args : Array Value) (below : List Frame) (meth : Method) (c : Code) (B : AB) (n0 m0 : Nat) (h : AH) (pc : Nat) (lv : List (Nat × Value)) (st : List Value) (comp : Option (Unit × AH)) : Prop := XX p l e { frames := 0, cells := k1, slots := k2, locals := 0 } s m args below meth c b_T_forgetArrowTo o_T lw_tt 2 (Option.none : Option Jvm.ClassFile.FieldType) "forgetArrowTo" B n0 m0 (QM B below args s { frames := 0, cells := k1, slots := k2, locals := 0 } eU) h pc lv st comp
def f_T_forgetArrowTo (a0 : Nat) (r1 : Option Nat) (h : AH) : Option (Unit × AH) := (fL h 1 5 (some a0)).bind (fun x101 => (fI h 1 1 r1).bind (fun x102 => (pF h 1 5 (some a0) (.long (x101 &&& (((1 : Int64) <<< (Int32.toInt64 x102 &&& 63)) ^^^ (-1 : Int64))))).bind (fun h103 => some ((), h103))))
set_option maxHeartbeats 4000000 in
set_option maxRecDepth 100000 in
theorem c_T_forgetArrowTo (l : Launch) (B : AB) (a0 : Nat) (r1 : Option Nat) (h : AH) : CT l B y_T_forgetArrowTo (Cond.code y_T_forgetArrowTo b_T_forgetArrowTo 2 (Option.none : Option Jvm.ClassFile.FieldType) :: lw_tt) 0 0 eU [.ref a0, va_rf r1] h (f_T_forgetArrowTo a0 r1 h) := by
  refine ct_of (own := o_T) (nm := "forgetArrowTo") (by decide +kernel) rfl rfl (by simp [lg_sl, rf_cat, cat_i, cat_l, cat_r]) (fun p e k1 k2 s m args below meth c => ?_)
  refine x_sub (lv' := [(0, .ref a0), (1, va_rf r1)]) [0, 1] (by simp [lv_pick, lv_args, rf_cat, cat_i, cat_l, cat_r]) ?_
  unfold f_T_forgetArrowTo
  refine x_go (pc' := 1) (st' := [.ref a0]) (fun hC _ _ _ _ _ _ hl k => lv_aload_n hC.1 hC.2.1 d_T_forgetArrowTo_0 rfl (lv_at hl 0 rfl) k) ?_
  refine x_go (pc' := 2) (st' := [.ref a0, .ref a0]) (fun hC _ _ _ _ _ _ hl k => lv_dup hC.1 hC.2.1 d_T_forgetArrowTo_1 rfl k) ?_
  refine x_getL (ci := 1) (kf := 5) (r := (some a0)) (fun hC => w_get hC iw_1 rfl 5 (by decide) tw_77 rfl d_T_forgetArrowTo_2) (fun x101 => ?_)
  refine x_go (pc' := 6) (st' := [.long (1 : Int64), .long x101, .ref a0]) (fun hC _ _ _ _ _ _ hl k => lv_lconst (v := 1) hC.1 hC.2.1 d_T_forgetArrowTo_5 (by decide) k) ?_
  refine x_go (pc' := 7) (st' := [va_rf r1, .long (1 : Int64), .long x101, .ref a0]) (fun hC _ _ _ _ _ _ hl k => lv_aload_nq (r := r1) hC.1 hC.2.1 d_T_forgetArrowTo_6 rfl (lv_at hl 1 rfl) k) ?_
  refine x_getI (ci := 1) (kf := 1) (r := r1) (fun hC => w_get hC iw_1 rfl 1 (by decide) tw_70 rfl d_T_forgetArrowTo_7) (fun x102 => ?_)
  refine x_go (pc' := 11) (st' := [.long ((1 : Int64) <<< (Int32.toInt64 x102 &&& 63)), .long x101, .ref a0]) (fun hC _ _ _ _ _ _ hl k => lv_lshl hC.1 hC.2.1 d_T_forgetArrowTo_10 rfl k) ?_
  refine x_go (pc' := 14) (st' := [.long (-1 : Int64), .long ((1 : Int64) <<< (Int32.toInt64 x102 &&& 63)), .long x101, .ref a0]) (fun hC _ _ _ _ _ _ hl k => lv_ldc2 hC.1 hC.2.1 hC.2.2.2.1 (hC.2.2.2.2.1 _ tw_279) d_T_forgetArrowTo_11 k) ?_
  refine x_go (pc' := 15) (st' := [.long (((1 : Int64) <<< (Int32.toInt64 x102 &&& 63)) ^^^ (-1 : Int64)), .long x101, .ref a0]) (fun hC _ _ _ _ _ _ hl k => lv_lxor hC.1 hC.2.1 d_T_forgetArrowTo_14 k) ?_
  refine x_go (pc' := 16) (st' := [.long (x101 &&& (((1 : Int64) <<< (Int32.toInt64 x102 &&& 63)) ^^^ (-1 : Int64))), .ref a0]) (fun hC _ _ _ _ _ _ hl k => lv_land hC.1 hC.2.1 d_T_forgetArrowTo_15 k) ?_
  refine x_putF (ci := 1) (kf := 5) (r := (some a0)) (v := .long (x101 &&& (((1 : Int64) <<< (Int32.toInt64 x102 &&& 63)) ^^^ (-1 : Int64)))) (fun hC => w_put (ty := .long) hC iw_1 ft_1 ft_1_ok fn_1 rfl 5 (by decide) tw_77 rfl rfl (by decide +kernel) rfl rfl d_T_forgetArrowTo_16) (fun h103 => ?_)
  exact x_vret d_T_forgetArrowTo_19
/-! SerialDesk.drop(LSerialDesk$Transaction;)V -/
theorem d_D_drop_0 : decode b_D_drop 0 = .ok (.iconst 0, 1) := by decide +kernel
theorem d_D_drop_1 : decode b_D_drop 1 = .ok (.istore_n 2, 1) := by decide +kernel
theorem d_D_drop_2 : decode b_D_drop 2 = .ok (.iload_n 2, 1) := by decide +kernel
theorem d_D_drop_3 : decode b_D_drop 3 = .ok (.aload_n 0, 1) := by decide +kernel
theorem d_D_drop_4 : decode b_D_drop 4 = .ok (.getfield 22, 3) := by decide +kernel
theorem d_D_drop_7 : decode b_D_drop 7 = .ok (.arraylength, 1) := by decide +kernel
theorem d_D_drop_8 : decode b_D_drop 8 = .ok (.if_icmp .ge 50, 3) := by decide +kernel
theorem d_D_drop_11 : decode b_D_drop 11 = .ok (.aload_n 0, 1) := by decide +kernel
theorem d_D_drop_12 : decode b_D_drop 12 = .ok (.getfield 22, 3) := by decide +kernel
theorem d_D_drop_15 : decode b_D_drop 15 = .ok (.iload_n 2, 1) := by decide +kernel
theorem d_D_drop_16 : decode b_D_drop 16 = .ok (.aaload, 1) := by decide +kernel
theorem d_D_drop_17 : decode b_D_drop 17 = .ok (.astore_n 3, 1) := by decide +kernel
theorem d_D_drop_18 : decode b_D_drop 18 = .ok (.aload_n 3, 1) := by decide +kernel
theorem d_D_drop_19 : decode b_D_drop 19 = .ok (.aload_n 1, 1) := by decide +kernel
theorem d_D_drop_20 : decode b_D_drop 20 = .ok (.if_acmp .ne 23, 3) := by decide +kernel
theorem d_D_drop_23 : decode b_D_drop 23 = .ok (.aload_n 0, 1) := by decide +kernel
theorem d_D_drop_24 : decode b_D_drop 24 = .ok (.getfield 22, 3) := by decide +kernel
theorem d_D_drop_27 : decode b_D_drop 27 = .ok (.iload_n 2, 1) := by decide +kernel
theorem d_D_drop_28 : decode b_D_drop 28 = .ok (.aconst_null, 1) := by decide +kernel
theorem d_D_drop_29 : decode b_D_drop 29 = .ok (.aastore, 1) := by decide +kernel
theorem d_D_drop_30 : decode b_D_drop 30 = .ok (.aload_n 0, 1) := by decide +kernel
theorem d_D_drop_31 : decode b_D_drop 31 = .ok (.dup, 1) := by decide +kernel
theorem d_D_drop_32 : decode b_D_drop 32 = .ok (.getfield 25, 3) := by decide +kernel
theorem d_D_drop_35 : decode b_D_drop 35 = .ok (.iconst 1, 1) := by decide +kernel
theorem d_D_drop_36 : decode b_D_drop 36 = .ok (.isub, 1) := by decide +kernel
theorem d_D_drop_37 : decode b_D_drop 37 = .ok (.putfield 25, 3) := by decide +kernel
theorem d_D_drop_40 : decode b_D_drop 40 = .ok (.goto 12, 3) := by decide +kernel
theorem d_D_drop_43 : decode b_D_drop 43 = .ok (.aload_n 3, 1) := by decide +kernel
theorem d_D_drop_44 : decode b_D_drop 44 = .ok (.ifnull 8, 3) := by decide +kernel
theorem d_D_drop_47 : decode b_D_drop 47 = .ok (.aload_n 3, 1) := by decide +kernel
theorem d_D_drop_48 : decode b_D_drop 48 = .ok (.aload_n 1, 1) := by decide +kernel
theorem d_D_drop_49 : decode b_D_drop 49 = .ok (.invokevirtual 148, 3) := by decide +kernel
theorem d_D_drop_52 : decode b_D_drop 52 = .ok (.iinc 2 1, 3) := by decide +kernel
theorem d_D_drop_55 : decode b_D_drop 55 = .ok (.goto (-53), 3) := by decide +kernel
theorem d_D_drop_58 : decode b_D_drop 58 = .ok (.return_, 1) := by decide +kernel
abbrev X_D_drop (p : Program) (l : Launch) (e : Env) (k1 k2 : Nat) (s : State) (m : MethodId) (args : Array Value) (below : List Frame) (meth : Method) (c : Code) (B : AB) (n0 m0 : Nat) (h : AH) (pc : Nat) (lv : List (Nat × Value)) (st : List Value) (comp : Option (Unit × AH)) : Prop := XX p l e { frames := 1, cells := k1, slots := k2, locals := 21 } s m args below meth c b_D_drop o_D lw_tt 4 (Option.none : Option Jvm.ClassFile.FieldType) "drop" B n0 m0 (QM B below args s { frames := 1, cells := k1, slots := k2, locals := 21 } eU) h pc lv st comp
def f_D_drop_b2 : Nat → Nat → Option Nat → Int32 → AH → Option (Unit × AH)
  | 0, _, _, _, _ => none
  | n + 1, a0, r1, x2, h => (fR h 3 2 (some a0)).bind (fun r1001 => (gN h 2 r1001).bind (fun x1002 => (if x1002 ≤ x2 then some ((), h) else (fR h 3 2 (some a0)).bind (fun r1003 => (lR h 2 r1003 x2).bind (fun r1004 => (if r1004 = r1 then (fR h 3 2 (some a0)).bind (fun r1005 => (qR h 2 1 r1005 x2 none).bind (fun h1006 => (fI h1006 3 3 (some a0)).bind (fun x1007 => (pF h1006 3 3 (some a0) (.int (x1007 - (1 : Int32)))).bind (fun h1008 => f_D_drop_b2 n a0 r1 (x2 + 1) h1008)))) else (if r1004 = none then f_D_drop_b2 n a0 r1 (x2 + 1) h else rcv h 1 r1004 (fun b1010 => bndU (f_T_forgetArrowTo b1010 r1 h) (fun h1009 => f_D_drop_b2 n a0 r1 (x2 + 1) h1009)))))))))
def f_D_drop (a0 : Nat) (r1 : Option Nat) (h : AH) : Option (Unit × AH) := f_D_drop_b2 2000 a0 r1 (0 : Int32) h
set_option maxHeartbeats 4000000 in
set_option maxRecDepth 100000 in
theorem x_D_drop_b2 {p : Program} {l : Launch} {e : Env} {k1 k2 : Nat} {s : State} {m : MethodId} {args : Array Value} {below : List Frame} {meth : Method} {c : Code} {B : AB} {n0 m0 : Nat} : ∀ (n : Nat) (a0 : Nat) (r1 : Option Nat) (x2 : Int32) (h : AH), X_D_drop p l e k1 k2 s m args below meth c B n0 m0 h 2 [(0, .ref a0), (1, va_rf r1), (2, .int x2)] [] (f_D_drop_b2 n a0 r1 x2 h) := by
  intro n
  induction n with
  | zero => intro a0 r1 x2 h; exact x_none
  | succ n ih =>
    intro a0 r1 x2 h
    rw [f_D_drop_b2]
    refine x_go (pc' := 3) (st' := [.int x2]) (fun hC _ _ _ _ _ _ hl k => lv_iload_n hC.1 hC.2.1 d_D_drop_2 rfl (lv_at hl 2 rfl) k) ?_
    refine x_go (pc' := 4) (st' := [.ref a0, .int x2]) (fun hC _ _ _ _ _ _ hl k => lv_aload_n hC.1 hC.2.1 d_D_drop_3 rfl (lv_at hl 0 rfl) k) ?_
    refine x_getR (ci := 3) (kf := 2) (r := (some a0)) (fun hC => w_get hC iw_3 rfl 2 (by decide) tw_33 rfl d_D_drop_4) (fun r1001 => ?_)
    refine x_alen (t := 2) rfl (r := r1001) d_D_drop_7 (fun x1002 => ?_)
    refine x_if (P := x1002 ≤ x2) (pt := 58) (pf := 11) (st' := []) (fun hC _ _ _ _ _ _ kt kf => lv_icmp_ge (tgt := 58) hC.1 hC.2.1 d_D_drop_8 (by decide) kt kf) ?_ ?_
    · exact x_vret d_D_drop_58
    · refine x_go (pc' := 12) (st' := [.ref a0]) (fun hC _ _ _ _ _ _ hl k => lv_aload_n hC.1 hC.2.1 d_D_drop_11 rfl (lv_at hl 0 rfl) k) ?_
      refine x_getR (ci := 3) (kf := 2) (r := (some a0)) (fun hC => w_get hC iw_3 rfl 2 (by decide) tw_33 rfl d_D_drop_12) (fun r1003 => ?_)
      refine x_go (pc' := 16) (st' := [.int x2, va_rf r1003]) (fun hC _ _ _ _ _ _ hl k => lv_iload_n hC.1 hC.2.1 d_D_drop_15 rfl (lv_at hl 2 rfl) k) ?_
      refine x_aald (t := 2) rfl rfl (r := r1003) (i := x2) d_D_drop_16 (fun r1004 => ?_)
      refine x_lift (pc' := 18) (st' := []) (lv' := [(3, va_rf r1004), (0, .ref a0), (1, va_rf r1), (2, .int x2)]) (fun hC _ _ _ _ _ _ hl k => lv_astore_nq (r := r1004) (i := 3) hC.1 hC.2.1 d_D_drop_17 rfl hl (by decide) rfl k) ?_
      refine x_go (pc' := 19) (st' := [va_rf r1004]) (fun hC _ _ _ _ _ _ hl k => lv_aload_nq (r := r1004) hC.1 hC.2.1 d_D_drop_18 rfl (lv_at hl 0 rfl) k) ?_
      refine x_go (pc' := 20) (st' := [va_rf r1, va_rf r1004]) (fun hC _ _ _ _ _ _ hl k => lv_aload_nq (r := r1) hC.1 hC.2.1 d_D_drop_19 rfl (lv_at hl 2 rfl) k) ?_
      refine x_if (P := r1004 = r1) (pt := 23) (pf := 43) (st' := []) (fun hC _ _ _ _ _ _ kt kf => lv_acmp_ne (rx := r1004) (ry := r1) (tgt := 43) hC.1 hC.2.1 d_D_drop_20 (by decide) kf kt) ?_ ?_
      · refine x_go (pc' := 24) (st' := [.ref a0]) (fun hC _ _ _ _ _ _ hl k => lv_aload_n hC.1 hC.2.1 d_D_drop_23 rfl (lv_at hl 1 rfl) k) ?_
        refine x_getR (ci := 3) (kf := 2) (r := (some a0)) (fun hC => w_get hC iw_3 rfl 2 (by decide) tw_33 rfl d_D_drop_24) (fun r1005 => ?_)
        refine x_go (pc' := 28) (st' := [.int x2, va_rf r1005]) (fun hC _ _ _ _ _ _ hl k => lv_iload_n hC.1 hC.2.1 d_D_drop_27 rfl (lv_at hl 3 rfl) k) ?_
        refine x_go (pc' := 29) (st' := [va_rf none, .int x2, va_rf r1005]) (fun hC _ _ _ _ _ _ hl k => lv_null hC.1 hC.2.1 d_D_drop_28 k) ?_
        refine x_aast (t := 2) (ci := 1) rfl rfl (r := r1005) (x := none) (i := x2) d_D_drop_29 (fun h1006 => ?_)
        refine x_go (pc' := 31) (st' := [.ref a0]) (fun hC _ _ _ _ _ _ hl k => lv_aload_n hC.1 hC.2.1 d_D_drop_30 rfl (lv_at hl 1 rfl) k) ?_
        refine x_go (pc' := 32) (st' := [.ref a0, .ref a0]) (fun hC _ _ _ _ _ _ hl k => lv_dup hC.1 hC.2.1 d_D_drop_31 rfl k) ?_
        refine x_getI (ci := 3) (kf := 3) (r := (some a0)) (fun hC => w_get hC iw_3 rfl 3 (by decide) tw_34 rfl d_D_drop_32) (fun x1007 => ?_)
        refine x_go (pc' := 36) (st' := [.int (1 : Int32), .int x1007, .ref a0]) (fun hC _ _ _ _ _ _ hl k => lv_iconst (v := 1) hC.1 hC.2.1 d_D_drop_35 (by decide) k) ?_
        refine x_go (pc' := 37) (st' := [.int (x1007 - (1 : Int32)), .ref a0]) (fun hC _ _ _ _ _ _ hl k => lv_isub hC.1 hC.2.1 d_D_drop_36 k) ?_
        refine x_putF (ci := 3) (kf := 3) (r := (some a0)) (v := .int (x1007 - (1 : Int32))) (fun hC => w_put (ty := .int) hC iw_3 ft_3 ft_3_ok fn_3 rfl 3 (by decide) tw_34 rfl rfl (by decide +kernel) rfl rfl d_D_drop_37) (fun h1008 => ?_)
        refine x_go (pc' := 52) (st' := []) (fun hC _ _ _ _ _ _ hl k => lv_goto (tgt := 52) hC.1 hC.2.1 d_D_drop_40 (by decide) k) ?_
        refine x_lift (pc' := 55) (st' := []) (lv' := [(2, .int (x2 + 1)), (3, va_rf r1004), (0, .ref a0), (1, va_rf r1)]) (fun hC _ _ _ _ _ _ hl k => lv_iinc (v := (x2 + 1)) hC.1 hC.2.1 d_D_drop_52 hl (k := 3) rfl rfl (by decide) (by simp [rf_cat, cat_i, cat_l, cat_r]) k) ?_
        refine x_go (pc' := 2) (st' := []) (fun hC _ _ _ _ _ _ hl k => lv_goto (tgt := 2) hC.1 hC.2.1 d_D_drop_55 (by decide) k) ?_
        exact x_sub (lv' := [(0, .ref a0), (1, va_rf r1), (2, .int (x2 + 1))]) [2, 3, 0] rfl (ih a0 r1 (x2 + 1) h1008)
      · refine x_go (pc' := 44) (st' := [va_rf r1004]) (fun hC _ _ _ _ _ _ hl k => lv_aload_nq (r := r1004) hC.1 hC.2.1 d_D_drop_43 rfl (lv_at hl 0 rfl) k) ?_
        refine x_if (P := r1004 = none) (pt := 52) (pf := 47) (st' := []) (fun hC _ _ _ _ _ _ kt kf => lv_ifnull_q (r := r1004) (tgt := 52) hC.1 hC.2.1 d_D_drop_44 (by decide) kt kf) ?_ ?_
        · refine x_lift (pc' := 55) (st' := []) (lv' := [(2, .int (x2 + 1)), (3, va_rf r1004), (0, .ref a0), (1, va_rf r1)]) (fun hC _ _ _ _ _ _ hl k => lv_iinc (v := (x2 + 1)) hC.1 hC.2.1 d_D_drop_52 hl (k := 3) rfl rfl (by decide) (by simp [rf_cat, cat_i, cat_l, cat_r]) k) ?_
          refine x_go (pc' := 2) (st' := []) (fun hC _ _ _ _ _ _ hl k => lv_goto (tgt := 2) hC.1 hC.2.1 d_D_drop_55 (by decide) k) ?_
          exact x_sub (lv' := [(0, .ref a0), (1, va_rf r1), (2, .int (x2 + 1))]) [2, 3, 0] rfl (ih a0 r1 (x2 + 1) h)
        · refine x_go (pc' := 48) (st' := [va_rf r1004]) (fun hC _ _ _ _ _ _ hl k => lv_aload_nq (r := r1004) hC.1 hC.2.1 d_D_drop_47 rfl (lv_at hl 0 rfl) k) ?_
          refine x_go (pc' := 49) (st' := [va_rf r1, va_rf r1004]) (fun hC _ _ _ _ _ _ hl k => lv_aload_nq (r := r1) hC.1 hC.2.1 d_D_drop_48 rfl (lv_at hl 2 rfl) k) ?_
          refine x_recv (ci := 1) (r := r1004) (fun b1010 _ eb1010 gb1010 => ?_)
          refine x_callU (rest := []) (c_T_forgetArrowTo l B b1010 r1 h) (fun hC => fun e1 e2 e3 e4 hM => fun hR hsz hc hs => run_V (n := 1) hC lw_good rfl rfl tw_275 tw_276 tw_277 tw_4 tw_278 (by decide) d_D_drop_49 gb1010 (by rw [e1]; exact Nat.le_of_ble_eq_true rfl) (by rw [e2]; exact Nat.le_of_ble_eq_true rfl) e3 e4 hM hR hsz hc hs rfl (by cases eb1010; rfl) (Nat.le_of_ble_eq_true rfl)) (fun h1009 => ?_)
          refine x_lift (pc' := 55) (st' := []) (lv' := [(2, .int (x2 + 1)), (3, va_rf r1004), (0, .ref a0), (1, va_rf r1)]) (fun hC _ _ _ _ _ _ hl k => lv_iinc (v := (x2 + 1)) hC.1 hC.2.1 d_D_drop_52 hl (k := 3) rfl rfl (by decide) (by simp [rf_cat, cat_i, cat_l, cat_r]) k) ?_
          refine x_go (pc' := 2) (st' := []) (fun hC _ _ _ _ _ _ hl k => lv_goto (tgt := 2) hC.1 hC.2.1 d_D_drop_55 (by decide) k) ?_
          exact x_sub (lv' := [(0, .ref a0), (1, va_rf r1), (2, .int (x2 + 1))]) [2, 3, 0] rfl (ih a0 r1 (x2 + 1) h1009)
set_option maxHeartbeats 4000000 in
set_option maxRecDepth 100000 in
theorem c_D_drop (l : Launch) (B : AB) (a0 : Nat) (r1 : Option Nat) (h : AH) : CT l B y_D_drop (Cond.code y_D_drop b_D_drop 4 (Option.none : Option Jvm.ClassFile.FieldType) :: lw_tt) 1 21 eU [.ref a0, va_rf r1] h (f_D_drop a0 r1 h) := by
  refine ct_of (own := o_D) (nm := "drop") (by decide +kernel) rfl rfl (by simp [lg_sl, rf_cat, cat_i, cat_l, cat_r]) (fun p e k1 k2 s m args below meth c => ?_)
  refine x_sub (lv' := [(0, .ref a0), (1, va_rf r1)]) [0, 1] (by simp [lv_pick, lv_args, rf_cat, cat_i, cat_l, cat_r]) ?_
  unfold f_D_drop
  refine x_go (pc' := 1) (st' := [.int (0 : Int32)]) (fun hC _ _ _ _ _ _ hl k => lv_iconst (v := 0) hC.1 hC.2.1 d_D_drop_0 (by decide) k) ?_
  refine x_lift (pc' := 2) (st' := []) (lv' := [(2, .int (0 : Int32)), (0, .ref a0), (1, va_rf r1)]) (fun hC _ _ _ _ _ _ hl k => lv_istore_n (i := 2) hC.1 hC.2.1 d_D_drop_1 rfl hl (by decide) (by simp [rf_cat, cat_i, cat_l, cat_r]) k) ?_
  exact x_sub (lv' := [(0, .ref a0), (1, va_rf r1), (2, .int (0 : Int32))]) [1, 2, 0] rfl (x_D_drop_b2 2000 a0 r1 (0 : Int32) h)
/-! SerialDesk.dropNoLongerKept()V -/
theorem d_D_dropNoLongerKept_0 : decode b_D_dropNoLongerKept 0 = .ok (.aload_n 0, 1) := by decide +kernel
theorem d_D_dropNoLongerKept_1 : decode b_D_dropNoLongerKept 1 = .ok (.invokevirtual 145, 3) := by decide +kernel
theorem d_D_dropNoLongerKept_4 : decode b_D_dropNoLongerKept 4 = .ok (.istore_n 1, 1) := by decide +kernel
theorem d_D_dropNoLongerKept_5 : decode b_D_dropNoLongerKept 5 = .ok (.iconst 0, 1) := by decide +kernel
theorem d_D_dropNoLongerKept_6 : decode b_D_dropNoLongerKept 6 = .ok (.istore_n 2, 1) := by decide +kernel
theorem d_D_dropNoLongerKept_7 : decode b_D_dropNoLongerKept 7 = .ok (.iload_n 2, 1) := by decide +kernel
theorem d_D_dropNoLongerKept_8 : decode b_D_dropNoLongerKept 8 = .ok (.aload_n 0, 1) := by decide +kernel
theorem d_D_dropNoLongerKept_9 : decode b_D_dropNoLongerKept 9 = .ok (.getfield 22, 3) := by decide +kernel
theorem d_D_dropNoLongerKept_12 : decode b_D_dropNoLongerKept 12 = .ok (.arraylength, 1) := by decide +kernel
theorem d_D_dropNoLongerKept_13 : decode b_D_dropNoLongerKept 13 = .ok (.if_icmp .ge 40, 3) := by decide +kernel
theorem d_D_dropNoLongerKept_16 : decode b_D_dropNoLongerKept 16 = .ok (.aload_n 0, 1) := by decide +kernel
theorem d_D_dropNoLongerKept_17 : decode b_D_dropNoLongerKept 17 = .ok (.getfield 22, 3) := by decide +kernel
theorem d_D_dropNoLongerKept_20 : decode b_D_dropNoLongerKept 20 = .ok (.iload_n 2, 1) := by decide +kernel
theorem d_D_dropNoLongerKept_21 : decode b_D_dropNoLongerKept 21 = .ok (.aaload, 1) := by decide +kernel
theorem d_D_dropNoLongerKept_22 : decode b_D_dropNoLongerKept 22 = .ok (.astore_n 3, 1) := by decide +kernel
theorem d_D_dropNoLongerKept_23 : decode b_D_dropNoLongerKept 23 = .ok (.aload_n 3, 1) := by decide +kernel
theorem d_D_dropNoLongerKept_24 : decode b_D_dropNoLongerKept 24 = .ok (.ifnull 23, 3) := by decide +kernel
theorem d_D_dropNoLongerKept_27 : decode b_D_dropNoLongerKept 27 = .ok (.aload_n 3, 1) := by decide +kernel
theorem d_D_dropNoLongerKept_28 : decode b_D_dropNoLongerKept 28 = .ok (.invokevirtual 117, 3) := by decide +kernel
theorem d_D_dropNoLongerKept_31 : decode b_D_dropNoLongerKept 31 = .ok (.ifCond .ne 16, 3) := by decide +kernel
theorem d_D_dropNoLongerKept_34 : decode b_D_dropNoLongerKept 34 = .ok (.aload_n 3, 1) := by decide +kernel
theorem d_D_dropNoLongerKept_35 : decode b_D_dropNoLongerKept 35 = .ok (.getfield 105, 3) := by decide +kernel
theorem d_D_dropNoLongerKept_38 : decode b_D_dropNoLongerKept 38 = .ok (.iload_n 1, 1) := by decide +kernel
theorem d_D_dropNoLongerKept_39 : decode b_D_dropNoLongerKept 39 = .ok (.if_icmp .gt 8, 3) := by decide +kernel
theorem d_D_dropNoLongerKept_42 : decode b_D_dropNoLongerKept 42 = .ok (.aload_n 0, 1) := by decide +kernel
theorem d_D_dropNoLongerKept_43 : decode b_D_dropNoLongerKept 43 = .ok (.aload_n 3, 1) := by decide +kernel
theorem d_D_dropNoLongerKept_44 : decode b_D_dropNoLongerKept 44 = .ok (.invokevirtual 114, 3) := by decide +kernel
theorem d_D_dropNoLongerKept_47 : decode b_D_dropNoLongerKept 47 = .ok (.iinc 2 1, 3) := by decide +kernel
theorem d_D_dropNoLongerKept_50 : decode b_D_dropNoLongerKept 50 = .ok (.goto (-43), 3) := by decide +kernel
theorem d_D_dropNoLongerKept_53 : decode b_D_dropNoLongerKept 53 = .ok (.return_, 1) := by decide +kernel
abbrev X_D_dropNoLongerKept (p : Program) (l : Launch) (e : Env) (k1 k2 : Nat) (s : State) (m : MethodId) (args : Array Value) (below : List Frame) (meth : Method) (c : Code) (B : AB) (n0 m0 : Nat) (h : AH) (pc : Nat) (lv : List (Nat × Value)) (st : List Value) (comp : Option (Unit × AH)) : Prop := XX p l e { frames := 2, cells := k1, slots := k2, locals := 44 } s m args below meth c b_D_dropNoLongerKept o_D lw_tt 4 (Option.none : Option Jvm.ClassFile.FieldType) "dropNoLongerKept" B n0 m0 (QM B below args s { frames := 2, cells := k1, slots := k2, locals := 44 } eU) h pc lv st comp
def f_D_dropNoLongerKept_b7 : Nat → Nat → Int32 → Int32 → AH → Option (Unit × AH)
  | 0, _, _, _, _ => none
  | n + 1, a0, x1, x2, h => (fR h 3 2 (some a0)).bind (fun r1001 => (gN h 2 r1001).bind (fun x1002 => (if x1002 ≤ x2 then some ((), h) else (fR h 3 2 (some a0)).bind (fun r1003 => (lR h 2 r1003 x2).bind (fun r1004 => (if r1004 = none then f_D_dropNoLongerKept_b7 n a0 x1 (x2 + 1) h else rcv h 1 r1004 (fun b1007 => bnd (f_T_isRunning b1007 h) (fun x1006 h1005 => (if x1006 = 0 then (fI h1005 1 3 r1004).bind (fun x1008 => (if x1 < x1008 then f_D_dropNoLongerKept_b7 n a0 x1 (x2 + 1) h1005 else rcv h1005 3 (some a0) (fun b1010 => bndU (f_D_drop b1010 r1004 h1005) (fun h1009 => f_D_dropNoLongerKept_b7 n a0 x1 (x2 + 1) h1009)))) else f_D_dropNoLongerKept_b7 n a0 x1 (x2 + 1) h1005)))))))))
def f_D_dropNoLongerKept (a0 : Nat) (h : AH) : Option (Unit × AH) := rcv h 3 (some a0) (fun b103 => bnd (f_D_commitsAtEarliestBegin b103 h) (fun x102 h101 => f_D_dropNoLongerKept_b7 2000 a0 x102 (0 : Int32) h101))
set_option maxHeartbeats 4000000 in
set_option maxRecDepth 100000 in
theorem x_D_dropNoLongerKept_b7 {p : Program} {l : Launch} {e : Env} {k1 k2 : Nat} {s : State} {m : MethodId} {args : Array Value} {below : List Frame} {meth : Method} {c : Code} {B : AB} {n0 m0 : Nat} : ∀ (n : Nat) (a0 : Nat) (x1 : Int32) (x2 : Int32) (h : AH), X_D_dropNoLongerKept p l e k1 k2 s m args below meth c B n0 m0 h 7 [(0, .ref a0), (1, .int x1), (2, .int x2)] [] (f_D_dropNoLongerKept_b7 n a0 x1 x2 h) := by
  intro n
  induction n with
  | zero => intro a0 x1 x2 h; exact x_none
  | succ n ih =>
    intro a0 x1 x2 h
    rw [f_D_dropNoLongerKept_b7]
    refine x_go (pc' := 8) (st' := [.int x2]) (fun hC _ _ _ _ _ _ hl k => lv_iload_n hC.1 hC.2.1 d_D_dropNoLongerKept_7 rfl (lv_at hl 2 rfl) k) ?_
    refine x_go (pc' := 9) (st' := [.ref a0, .int x2]) (fun hC _ _ _ _ _ _ hl k => lv_aload_n hC.1 hC.2.1 d_D_dropNoLongerKept_8 rfl (lv_at hl 0 rfl) k) ?_
    refine x_getR (ci := 3) (kf := 2) (r := (some a0)) (fun hC => w_get hC iw_3 rfl 2 (by decide) tw_33 rfl d_D_dropNoLongerKept_9) (fun r1001 => ?_)
    refine x_alen (t := 2) rfl (r := r1001) d_D_dropNoLongerKept_12 (fun x1002 => ?_)
    refine x_if (P := x1002 ≤ x2) (pt := 53) (pf := 16) (st' := []) (fun hC _ _ _ _ _ _ kt kf => lv_icmp_ge (tgt := 53) hC.1 hC.2.1 d_D_dropNoLongerKept_13 (by decide) kt kf) ?_ ?_
    · exact x_vret d_D_dropNoLongerKept_53
    · refine x_go (pc' := 17) (st' := [.ref a0]) (fun hC _ _ _ _ _ _ hl k => lv_aload_n hC.1 hC.2.1 d_D_dropNoLongerKept_16 rfl (lv_at hl 0 rfl) k) ?_
      refine x_getR (ci := 3) (kf := 2) (r := (some a0)) (fun hC => w_get hC iw_3 rfl 2 (by decide) tw_33 rfl d_D_dropNoLongerKept_17) (fun r1003 => ?_)
      refine x_go (pc' := 21) (st' := [.int x2, va_rf r1003]) (fun hC _ _ _ _ _ _ hl k => lv_iload_n hC.1 hC.2.1 d_D_dropNoLongerKept_20 rfl (lv_at hl 2 rfl) k) ?_
      refine x_aald (t := 2) rfl rfl (r := r1003) (i := x2) d_D_dropNoLongerKept_21 (fun r1004 => ?_)
      refine x_lift (pc' := 23) (st' := []) (lv' := [(3, va_rf r1004), (0, .ref a0), (1, .int x1), (2, .int x2)]) (fun hC _ _ _ _ _ _ hl k => lv_astore_nq (r := r1004) (i := 3) hC.1 hC.2.1 d_D_dropNoLongerKept_22 rfl hl (by decide) rfl k) ?_
      refine x_go (pc' := 24) (st' := [va_rf r1004]) (fun hC _ _ _ _ _ _ hl k => lv_aload_nq (r := r1004) hC.1 hC.2.1 d_D_dropNoLongerKept_23 rfl (lv_at hl 0 rfl) k) ?_
      refine x_if (P := r1004 = none) (pt := 47) (pf := 27) (st' := []) (fun hC _ _ _ _ _ _ kt kf => lv_ifnull_q (r := r1004) (tgt := 47) hC.1 hC.2.1 d_D_dropNoLongerKept_24 (by decide) kt kf) ?_ ?_
      · refine x_lift (pc' := 50) (st' := []) (lv' := [(2, .int (x2 + 1)), (3, va_rf r1004), (0, .ref a0), (1, .int x1)]) (fun hC _ _ _ _ _ _ hl k => lv_iinc (v := (x2 + 1)) hC.1 hC.2.1 d_D_dropNoLongerKept_47 hl (k := 3) rfl rfl (by decide) rfl k) ?_
        refine x_go (pc' := 7) (st' := []) (fun hC _ _ _ _ _ _ hl k => lv_goto (tgt := 7) hC.1 hC.2.1 d_D_dropNoLongerKept_50 (by decide) k) ?_
        exact x_sub (lv' := [(0, .ref a0), (1, .int x1), (2, .int (x2 + 1))]) [2, 3, 0] rfl (ih a0 x1 (x2 + 1) h)
      · refine x_go (pc' := 28) (st' := [va_rf r1004]) (fun hC _ _ _ _ _ _ hl k => lv_aload_nq (r := r1004) hC.1 hC.2.1 d_D_dropNoLongerKept_27 rfl (lv_at hl 0 rfl) k) ?_
        refine x_recv (ci := 1) (r := r1004) (fun b1007 _ eb1007 gb1007 => ?_)
        refine x_callI (rest := []) (c_T_isRunning l B b1007 h) (fun hC => fun e1 e2 e3 e4 hM => fun hR hsz hc hs => run_V (n := 0) hC lw_good rfl rfl tw_245 tw_190 tw_191 tw_4 tw_192 (by decide) d_D_dropNoLongerKept_28 gb1007 (by rw [e1]; exact Nat.le_of_ble_eq_true rfl) (by rw [e2]; exact Nat.le_of_ble_eq_true rfl) e3 e4 hM hR hsz hc hs rfl (by cases eb1007; rfl) (Nat.le_of_ble_eq_true rfl)) (fun x1006 h1005 => ?_)
        refine x_if (P := x1006 = 0) (pt := 34) (pf := 47) (st' := []) (fun hC _ _ _ _ _ _ kt kf => lv_if_ne (tgt := 47) hC.1 hC.2.1 d_D_dropNoLongerKept_31 (by decide) kf kt) ?_ ?_
        · refine x_go (pc' := 35) (st' := [va_rf r1004]) (fun hC _ _ _ _ _ _ hl k => lv_aload_nq (r := r1004) hC.1 hC.2.1 d_D_dropNoLongerKept_34 rfl (lv_at hl 0 rfl) k) ?_
          refine x_getI (ci := 1) (kf := 3) (r := r1004) (fun hC => w_getN (host := "SerialDesk") hC iw_1 rfl 3 (by decide) (List.mem_of_getElem? (i := 4) rfl) rfl d_D_dropNoLongerKept_35) (fun x1008 => ?_)
          refine x_go (pc' := 39) (st' := [.int x1, .int x1008]) (fun hC _ _ _ _ _ _ hl k => lv_iload_n hC.1 hC.2.1 d_D_dropNoLongerKept_38 rfl (lv_at hl 2 rfl) k) ?_
          refine x_if (P := x1 < x1008) (pt := 47) (pf := 42) (st' := []) (fun hC _ _ _ _ _ _ kt kf => lv_icmp_gt (tgt := 47) hC.1 hC.2.1 d_D_dropNoLongerKept_39 (by decide) kt kf) ?_ ?_
          · refine x_lift (pc' := 50) (st' := []) (lv' := [(2, .int (x2 + 1)), (3, va_rf r1004), (0, .ref a0), (1, .int x1)]) (fun hC _ _ _ _ _ _ hl k => lv_iinc (v := (x2 + 1)) hC.1 hC.2.1 d_D_dropNoLongerKept_47 hl (k := 3) rfl rfl (by decide) rfl k) ?_
            refine x_go (pc' := 7) (st' := []) (fun hC _ _ _ _ _ _ hl k => lv_goto (tgt := 7) hC.1 hC.2.1 d_D_dropNoLongerKept_50 (by decide) k) ?_
            exact x_sub (lv' := [(0, .ref a0), (1, .int x1), (2, .int (x2 + 1))]) [2, 3, 0] rfl (ih a0 x1 (x2 + 1) h1005)
          · refine x_go (pc' := 43) (st' := [.ref a0]) (fun hC _ _ _ _ _ _ hl k => lv_aload_n hC.1 hC.2.1 d_D_dropNoLongerKept_42 rfl (lv_at hl 1 rfl) k) ?_
            refine x_go (pc' := 44) (st' := [va_rf r1004, .ref a0]) (fun hC _ _ _ _ _ _ hl k => lv_aload_nq (r := r1004) hC.1 hC.2.1 d_D_dropNoLongerKept_43 rfl (lv_at hl 0 rfl) k) ?_
            refine x_recv (ci := 3) (r := (some a0)) (fun b1010 _ eb1010 gb1010 => ?_)
            refine x_callU (rest := []) (c_D_drop l B b1010 r1004 h1005) (fun hC => fun e1 e2 e3 e4 hM => fun hR hsz hc hs => run_V (n := 1) hC lw_good rfl rfl tw_271 tw_273 tv_12 tw_1 tw_274 (by decide) d_D_dropNoLongerKept_44 gb1010 (by rw [e1]; exact Nat.le_of_ble_eq_true rfl) (by rw [e2]; exact Nat.le_of_ble_eq_true rfl) e3 e4 hM hR hsz hc hs rfl (by cases eb1010; rfl) (Nat.le_of_ble_eq_true rfl)) (fun h1009 => ?_)
            refine x_lift (pc' := 50) (st' := []) (lv' := [(2, .int (x2 + 1)), (3, va_rf r1004), (0, .ref a0), (1, .int x1)]) (fun hC _ _ _ _ _ _ hl k => lv_iinc (v := (x2 + 1)) hC.1 hC.2.1 d_D_dropNoLongerKept_47 hl (k := 3) rfl rfl (by decide) rfl k) ?_
            refine x_go (pc' := 7) (st' := []) (fun hC _ _ _ _ _ _ hl k => lv_goto (tgt := 7) hC.1 hC.2.1 d_D_dropNoLongerKept_50 (by decide) k) ?_
            exact x_sub (lv' := [(0, .ref a0), (1, .int x1), (2, .int (x2 + 1))]) [2, 3, 0] rfl (ih a0 x1 (x2 + 1) h1009)
        · refine x_lift (pc' := 50) (st' := []) (lv' := [(2, .int (x2 + 1)), (3, va_rf r1004), (0, .ref a0), (1, .int x1)]) (fun hC _ _ _ _ _ _ hl k => lv_iinc (v := (x2 + 1)) hC.1 hC.2.1 d_D_dropNoLongerKept_47 hl (k := 3) rfl rfl (by decide) rfl k) ?_
          refine x_go (pc' := 7) (st' := []) (fun hC _ _ _ _ _ _ hl k => lv_goto (tgt := 7) hC.1 hC.2.1 d_D_dropNoLongerKept_50 (by decide) k) ?_
          exact x_sub (lv' := [(0, .ref a0), (1, .int x1), (2, .int (x2 + 1))]) [2, 3, 0] rfl (ih a0 x1 (x2 + 1) h1005)
set_option maxHeartbeats 4000000 in
set_option maxRecDepth 100000 in
theorem c_D_dropNoLongerKept (l : Launch) (B : AB) (a0 : Nat) (h : AH) : CT l B y_D_dropNoLongerKept (Cond.code y_D_dropNoLongerKept b_D_dropNoLongerKept 4 (Option.none : Option Jvm.ClassFile.FieldType) :: lw_tt) 2 44 eU [.ref a0] h (f_D_dropNoLongerKept a0 h) := by
  refine ct_of (own := o_D) (nm := "dropNoLongerKept") (by decide +kernel) rfl rfl (Nat.le_of_ble_eq_true rfl) (fun p e k1 k2 s m args below meth c => ?_)
  refine x_sub (lv' := [(0, .ref a0)]) [0] rfl ?_
  unfold f_D_dropNoLongerKept
  refine x_go (pc' := 1) (st' := [.ref a0]) (fun hC _ _ _ _ _ _ hl k => lv_aload_n hC.1 hC.2.1 d_D_dropNoLongerKept_0 rfl (lv_at hl 0 rfl) k) ?_
  refine x_recv (ci := 3) (r := (some a0)) (fun b103 _ eb103 gb103 => ?_)
  refine x_callI (rest := []) (c_D_commitsAtEarliestBegin l B b103 h) (fun hC => fun e1 e2 e3 e4 hM => fun hR hsz hc hs => run_V (n := 0) hC lw_good rfl rfl tw_267 tw_269 tv_11 tw_1 tw_270 (by decide) d_D_dropNoLongerKept_1 gb103 (by rw [e1]; exact Nat.le_of_ble_eq_true rfl) (by rw [e2]; exact Nat.le_of_ble_eq_true rfl) e3 e4 hM hR hsz hc hs rfl (by cases eb103; rfl) (Nat.le_of_ble_eq_true rfl)) (fun x102 h101 => ?_)
  refine x_lift (pc' := 5) (st' := []) (lv' := [(1, .int x102), (0, .ref a0)]) (fun hC _ _ _ _ _ _ hl k => lv_istore_n (i := 1) hC.1 hC.2.1 d_D_dropNoLongerKept_4 rfl hl (by decide) rfl k) ?_
  refine x_go (pc' := 6) (st' := [.int (0 : Int32)]) (fun hC _ _ _ _ _ _ hl k => lv_iconst (v := 0) hC.1 hC.2.1 d_D_dropNoLongerKept_5 (by decide) k) ?_
  refine x_lift (pc' := 7) (st' := []) (lv' := [(2, .int (0 : Int32)), (1, .int x102), (0, .ref a0)]) (fun hC _ _ _ _ _ _ hl k => lv_istore_n (i := 2) hC.1 hC.2.1 d_D_dropNoLongerKept_6 rfl hl (by decide) rfl k) ?_
  exact x_sub (lv' := [(0, .ref a0), (1, .int x102), (2, .int (0 : Int32))]) [2, 1, 0] rfl (x_D_dropNoLongerKept_b7 2000 a0 x102 (0 : Int32) h101)
/-! SerialDesk.tellCommit(LSerialDesk$Transaction;)V -/
theorem d_D_tellCommit_0 : decode b_D_tellCommit 0 = .ok (.iconst 0, 1) := by decide +kernel
theorem d_D_tellCommit_1 : decode b_D_tellCommit 1 = .ok (.istore_n 2, 1) := by decide +kernel
theorem d_D_tellCommit_2 : decode b_D_tellCommit 2 = .ok (.iload_n 2, 1) := by decide +kernel
theorem d_D_tellCommit_3 : decode b_D_tellCommit 3 = .ok (.aload_n 0, 1) := by decide +kernel
theorem d_D_tellCommit_4 : decode b_D_tellCommit 4 = .ok (.getfield 22, 3) := by decide +kernel
theorem d_D_tellCommit_7 : decode b_D_tellCommit 7 = .ok (.arraylength, 1) := by decide +kernel
theorem d_D_tellCommit_8 : decode b_D_tellCommit 8 = .ok (.if_icmp .ge 57, 3) := by decide +kernel
theorem d_D_tellCommit_11 : decode b_D_tellCommit 11 = .ok (.aload_n 0, 1) := by decide +kernel
theorem d_D_tellCommit_12 : decode b_D_tellCommit 12 = .ok (.getfield 22, 3) := by decide +kernel
theorem d_D_tellCommit_15 : decode b_D_tellCommit 15 = .ok (.iload_n 2, 1) := by decide +kernel
theorem d_D_tellCommit_16 : decode b_D_tellCommit 16 = .ok (.aaload, 1) := by decide +kernel
theorem d_D_tellCommit_17 : decode b_D_tellCommit 17 = .ok (.astore_n 3, 1) := by decide +kernel
theorem d_D_tellCommit_18 : decode b_D_tellCommit 18 = .ok (.aload_n 3, 1) := by decide +kernel
theorem d_D_tellCommit_19 : decode b_D_tellCommit 19 = .ok (.ifnull 40, 3) := by decide +kernel
theorem d_D_tellCommit_22 : decode b_D_tellCommit 22 = .ok (.aload_n 3, 1) := by decide +kernel
theorem d_D_tellCommit_23 : decode b_D_tellCommit 23 = .ok (.aload_n 1, 1) := by decide +kernel
theorem d_D_tellCommit_24 : decode b_D_tellCommit 24 = .ok (.invokevirtual 131, 3) := by decide +kernel
theorem d_D_tellCommit_27 : decode b_D_tellCommit 27 = .ok (.ifCond .eq 32, 3) := by decide +kernel
theorem d_D_tellCommit_30 : decode b_D_tellCommit 30 = .ok (.aload_n 3, 1) := by decide +kernel
theorem d_D_tellCommit_31 : decode b_D_tellCommit 31 = .ok (.aload_n 1, 1) := by decide +kernel
theorem d_D_tellCommit_32 : decode b_D_tellCommit 32 = .ok (.getfield 105, 3) := by decide +kernel
theorem d_D_tellCommit_35 : decode b_D_tellCommit 35 = .ok (.invokevirtual 141, 3) := by decide +kernel
theorem d_D_tellCommit_38 : decode b_D_tellCommit 38 = .ok (.aload_n 3, 1) := by decide +kernel
theorem d_D_tellCommit_39 : decode b_D_tellCommit 39 = .ok (.invokevirtual 117, 3) := by decide +kernel
theorem d_D_tellCommit_42 : decode b_D_tellCommit 42 = .ok (.ifCond .eq 17, 3) := by decide +kernel
theorem d_D_tellCommit_45 : decode b_D_tellCommit 45 = .ok (.aload_n 0, 1) := by decide +kernel
theorem d_D_tellCommit_46 : decode b_D_tellCommit 46 = .ok (.aload_n 3, 1) := by decide +kernel
theorem d_D_tellCommit_47 : decode b_D_tellCommit 47 = .ok (.aload_n 1, 1) := by decide +kernel
theorem d_D_tellCommit_48 : decode b_D_tellCommit 48 = .ok (.invokevirtual 102, 3) := by decide +kernel
theorem d_D_tellCommit_51 : decode b_D_tellCommit 51 = .ok (.ifCond .eq 8, 3) := by decide +kernel
theorem d_D_tellCommit_54 : decode b_D_tellCommit 54 = .ok (.aload_n 3, 1) := by decide +kernel
theorem d_D_tellCommit_55 : decode b_D_tellCommit 55 = .ok (.iconst 1, 1) := by decide +kernel
theorem d_D_tellCommit_56 : decode b_D_tellCommit 56 = .ok (.putfield 95, 3) := by decide +kernel
theorem d_D_tellCommit_59 : decode b_D_tellCommit 59 = .ok (.iinc 2 1, 3) := by decide +kernel
theorem d_D_tellCommit_62 : decode b_D_tellCommit 62 = .ok (.goto (-60), 3) := by decide +kernel
theorem d_D_tellCommit_65 : decode b_D_tellCommit 65 = .ok (.return_, 1) := by decide +kernel
abbrev X_D_tellCommit (p : Program) (l : Launch) (e : Env) (k1 k2 : Nat) (s : State) (m : MethodId) (args : Array Value) (below : List Frame) (meth : Method) (c : Code) (B : AB) (n0 m0 : Nat) (h : AH) (pc : Nat) (lv : List (Nat × Value)) (st : List Value) (comp : Option (Unit × AH)) : Prop := XX p l e { frames := 4, cells := k1, slots := k2, locals := 87 } s m args below meth c b_D_tellCommit o_D lw_tt 4 (Option.none : Option Jvm.ClassFile.FieldType) "tellCommit" B n0 m0 (QM B below args s { frames := 4, cells := k1, slots := k2, locals := 87 } eU) h pc lv st comp
def f_D_tellCommit_b2 : Nat → Nat → Option Nat → Int32 → AH → Option (Unit × AH)
  | 0, _, _, _, _ => none
  | n + 1, a0, r1, x2, h => (fR h 3 2 (some a0)).bind (fun r1001 => (gN h 2 r1001).bind (fun x1002 => (if x1002 ≤ x2 then some ((), h) else (fR h 3 2 (some a0)).bind (fun r1003 => (lR h 2 r1003 x2).bind (fun r1004 => (if r1004 = none then f_D_tellCommit_b2 n a0 r1 (x2 + 1) h else rcv h 1 r1004 (fun b1007 => bnd (f_T_pointsAt b1007 r1 h) (fun x1006 h1005 => (if x1006 = 0 then f_D_tellCommit_b2 n a0 r1 (x2 + 1) h1005 else (fI h1005 1 3 r1).bind (fun x1008 => rcv h1005 1 r1004 (fun b1010 => bndU (f_T_noteCommitPointedAt b1010 x1008 h1005) (fun h1009 => rcv h1009 1 r1004 (fun b1013 => bnd (f_T_isRunning b1013 h1009) (fun x1012 h1011 => (if x1012 = 0 then f_D_tellCommit_b2 n a0 r1 (x2 + 1) h1011 else rcv h1011 3 (some a0) (fun b1016 => bnd (f_D_isSecondOfDanger b1016 r1004 r1 h1011) (fun x1015 h1014 => (if x1015 = 0 then f_D_tellCommit_b2 n a0 r1 (x2 + 1) h1014 else (pZ h1014 1 4 r1004 (1 : Int32)).bind (fun h1017 => f_D_tellCommit_b2 n a0 r1 (x2 + 1) h1017)))))))))))))))))))
def f_D_tellCommit (a0 : Nat) (r1 : Option Nat) (h : AH) : Option (Unit × AH) := f_D_tellCommit_b2 2000 a0 r1 (0 : Int32) h
set_option maxHeartbeats 4000000 in
set_option maxRecDepth 100000 in
theorem x_D_tellCommit_b2 {p : Program} {l : Launch} {e : Env} {k1 k2 : Nat} {s : State} {m : MethodId} {args : Array Value} {below : List Frame} {meth : Method} {c : Code} {B : AB} {n0 m0 : Nat} : ∀ (n : Nat) (a0 : Nat) (r1 : Option Nat) (x2 : Int32) (h : AH), X_D_tellCommit p l e k1 k2 s m args below meth c B n0 m0 h 2 [(0, .ref a0), (1, va_rf r1), (2, .int x2)] [] (f_D_tellCommit_b2 n a0 r1 x2 h) := by
  intro n
  induction n with
  | zero => intro a0 r1 x2 h; exact x_none
  | succ n ih =>
    intro a0 r1 x2 h
    rw [f_D_tellCommit_b2]
    refine x_go (pc' := 3) (st' := [.int x2]) (fun hC _ _ _ _ _ _ hl k => lv_iload_n hC.1 hC.2.1 d_D_tellCommit_2 rfl (lv_at hl 2 rfl) k) ?_
    refine x_go (pc' := 4) (st' := [.ref a0, .int x2]) (fun hC _ _ _ _ _ _ hl k => lv_aload_n hC.1 hC.2.1 d_D_tellCommit_3 rfl (lv_at hl 0 rfl) k) ?_
    refine x_getR (ci := 3) (kf := 2) (r := (some a0)) (fun hC => w_get hC iw_3 rfl 2 (by decide) tw_33 rfl d_D_tellCommit_4) (fun r1001 => ?_)
    refine x_alen (t := 2) rfl (r := r1001) d_D_tellCommit_7 (fun x1002 => ?_)
    refine x_if (P := x1002 ≤ x2) (pt := 65) (pf := 11) (st' := []) (fun hC _ _ _ _ _ _ kt kf => lv_icmp_ge (tgt := 65) hC.1 hC.2.1 d_D_tellCommit_8 (by decide) kt kf) ?_ ?_
    · exact x_vret d_D_tellCommit_65
    · refine x_go (pc' := 12) (st' := [.ref a0]) (fun hC _ _ _ _ _ _ hl k => lv_aload_n hC.1 hC.2.1 d_D_tellCommit_11 rfl (lv_at hl 0 rfl) k) ?_
      refine x_getR (ci := 3) (kf := 2) (r := (some a0)) (fun hC => w_get hC iw_3 rfl 2 (by decide) tw_33 rfl d_D_tellCommit_12) (fun r1003 => ?_)
      refine x_go (pc' := 16) (st' := [.int x2, va_rf r1003]) (fun hC _ _ _ _ _ _ hl k => lv_iload_n hC.1 hC.2.1 d_D_tellCommit_15 rfl (lv_at hl 2 rfl) k) ?_
      refine x_aald (t := 2) rfl rfl (r := r1003) (i := x2) d_D_tellCommit_16 (fun r1004 => ?_)
      refine x_lift (pc' := 18) (st' := []) (lv' := [(3, va_rf r1004), (0, .ref a0), (1, va_rf r1), (2, .int x2)]) (fun hC _ _ _ _ _ _ hl k => lv_astore_nq (r := r1004) (i := 3) hC.1 hC.2.1 d_D_tellCommit_17 rfl hl (by decide) rfl k) ?_
      refine x_go (pc' := 19) (st' := [va_rf r1004]) (fun hC _ _ _ _ _ _ hl k => lv_aload_nq (r := r1004) hC.1 hC.2.1 d_D_tellCommit_18 rfl (lv_at hl 0 rfl) k) ?_
      refine x_if (P := r1004 = none) (pt := 59) (pf := 22) (st' := []) (fun hC _ _ _ _ _ _ kt kf => lv_ifnull_q (r := r1004) (tgt := 59) hC.1 hC.2.1 d_D_tellCommit_19 (by decide) kt kf) ?_ ?_
      · refine x_lift (pc' := 62) (st' := []) (lv' := [(2, .int (x2 + 1)), (3, va_rf r1004), (0, .ref a0), (1, va_rf r1)]) (fun hC _ _ _ _ _ _ hl k => lv_iinc (v := (x2 + 1)) hC.1 hC.2.1 d_D_tellCommit_59 hl (k := 3) rfl rfl (by decide) (by simp [rf_cat, cat_i, cat_l, cat_r]) k) ?_
        refine x_go (pc' := 2) (st' := []) (fun hC _ _ _ _ _ _ hl k => lv_goto (tgt := 2) hC.1 hC.2.1 d_D_tellCommit_62 (by decide) k) ?_
        exact x_sub (lv' := [(0, .ref a0), (1, va_rf r1), (2, .int (x2 + 1))]) [2, 3, 0] rfl (ih a0 r1 (x2 + 1) h)
      · refine x_go (pc' := 23) (st' := [va_rf r1004]) (fun hC _ _ _ _ _ _ hl k => lv_aload_nq (r := r1004) hC.1 hC.2.1 d_D_tellCommit_22 rfl (lv_at hl 0 rfl) k) ?_
        refine x_go (pc' := 24) (st' := [va_rf r1, va_rf r1004]) (fun hC _ _ _ _ _ _ hl k => lv_aload_nq (r := r1) hC.1 hC.2.1 d_D_tellCommit_23 rfl (lv_at hl 2 rfl) k) ?_
        refine x_recv (ci := 1) (r := r1004) (fun b1007 _ eb1007 gb1007 => ?_)
        refine x_callI (rest := []) (c_T_pointsAt l B b1007 r1 h) (fun hC => fun e1 e2 e3 e4 hM => fun hR hsz hc hs => run_V (n := 1) hC lw_good rfl rfl tw_250 tw_251 tw_252 tw_4 tw_253 (by decide) d_D_tellCommit_24 gb1007 (by rw [e1]; exact Nat.le_of_ble_eq_true rfl) (by rw [e2]; exact Nat.le_of_ble_eq_true rfl) e3 e4 hM hR hsz hc hs rfl (by cases eb1007; rfl) (Nat.le_of_ble_eq_true rfl)) (fun x1006 h1005 => ?_)
        refine x_if (P := x1006 = 0) (pt := 59) (pf := 30) (st' := []) (fun hC _ _ _ _ _ _ kt kf => lv_if_eq (tgt := 59) hC.1 hC.2.1 d_D_tellCommit_27 (by decide) kt kf) ?_ ?_
        · refine x_lift (pc' := 62) (st' := []) (lv' := [(2, .int (x2 + 1)), (3, va_rf r1004), (0, .ref a0), (1, va_rf r1)]) (fun hC _ _ _ _ _ _ hl k => lv_iinc (v := (x2 + 1)) hC.1 hC.2.1 d_D_tellCommit_59 hl (k := 3) rfl rfl (by decide) (by simp [rf_cat, cat_i, cat_l, cat_r]) k) ?_
          refine x_go (pc' := 2) (st' := []) (fun hC _ _ _ _ _ _ hl k => lv_goto (tgt := 2) hC.1 hC.2.1 d_D_tellCommit_62 (by decide) k) ?_
          exact x_sub (lv' := [(0, .ref a0), (1, va_rf r1), (2, .int (x2 + 1))]) [2, 3, 0] rfl (ih a0 r1 (x2 + 1) h1005)
        · refine x_go (pc' := 31) (st' := [va_rf r1004]) (fun hC _ _ _ _ _ _ hl k => lv_aload_nq (r := r1004) hC.1 hC.2.1 d_D_tellCommit_30 rfl (lv_at hl 0 rfl) k) ?_
          refine x_go (pc' := 32) (st' := [va_rf r1, va_rf r1004]) (fun hC _ _ _ _ _ _ hl k => lv_aload_nq (r := r1) hC.1 hC.2.1 d_D_tellCommit_31 rfl (lv_at hl 2 rfl) k) ?_
          refine x_getI (ci := 1) (kf := 3) (r := r1) (fun hC => w_getN (host := "SerialDesk") hC iw_1 rfl 3 (by decide) (List.mem_of_getElem? (i := 4) rfl) rfl d_D_tellCommit_32) (fun x1008 => ?_)
          refine x_recv (ci := 1) (r := r1004) (fun b1010 _ eb1010 gb1010 => ?_)
          refine x_callU (rest := []) (c_T_noteCommitPointedAt l B b1010 x1008 h1005) (fun hC => fun e1 e2 e3 e4 hM => fun hR hsz hc hs => run_V (n := 1) hC lw_good rfl rfl tw_262 tw_223 tw_224 tw_4 tw_225 (by decide) d_D_tellCommit_35 gb1010 (by rw [e1]; exact Nat.le_of_ble_eq_true rfl) (by rw [e2]; exact Nat.le_of_ble_eq_true rfl) e3 e4 hM hR hsz hc hs rfl (by cases eb1010; rfl) (Nat.le_of_ble_eq_true rfl)) (fun h1009 => ?_)
          refine x_go (pc' := 39) (st' := [va_rf r1004]) (fun hC _ _ _ _ _ _ hl k => lv_aload_nq (r := r1004) hC.1 hC.2.1 d_D_tellCommit_38 rfl (lv_at hl 0 rfl) k) ?_
          refine x_recv (ci := 1) (r := r1004) (fun b1013 _ eb1013 gb1013 => ?_)
          refine x_callI (rest := []) (c_T_isRunning l B b1013 h1009) (fun hC => fun e1 e2 e3 e4 hM => fun hR hsz hc hs => run_V (n := 0) hC lw_good rfl rfl tw_245 tw_190 tw_191 tw_4 tw_192 (by decide) d_D_tellCommit_39 gb1013 (by rw [e1]; exact Nat.le_of_ble_eq_true rfl) (by rw [e2]; exact Nat.le_of_ble_eq_true rfl) e3 e4 hM hR hsz hc hs rfl (by cases eb1013; rfl) (Nat.le_of_ble_eq_true rfl)) (fun x1012 h1011 => ?_)
          refine x_if (P := x1012 = 0) (pt := 59) (pf := 45) (st' := []) (fun hC _ _ _ _ _ _ kt kf => lv_if_eq (tgt := 59) hC.1 hC.2.1 d_D_tellCommit_42 (by decide) kt kf) ?_ ?_
          · refine x_lift (pc' := 62) (st' := []) (lv' := [(2, .int (x2 + 1)), (3, va_rf r1004), (0, .ref a0), (1, va_rf r1)]) (fun hC _ _ _ _ _ _ hl k => lv_iinc (v := (x2 + 1)) hC.1 hC.2.1 d_D_tellCommit_59 hl (k := 3) rfl rfl (by decide) (by simp [rf_cat, cat_i, cat_l, cat_r]) k) ?_
            refine x_go (pc' := 2) (st' := []) (fun hC _ _ _ _ _ _ hl k => lv_goto (tgt := 2) hC.1 hC.2.1 d_D_tellCommit_62 (by decide) k) ?_
            exact x_sub (lv' := [(0, .ref a0), (1, va_rf r1), (2, .int (x2 + 1))]) [2, 3, 0] rfl (ih a0 r1 (x2 + 1) h1011)
          · refine x_go (pc' := 46) (st' := [.ref a0]) (fun hC _ _ _ _ _ _ hl k => lv_aload_n hC.1 hC.2.1 d_D_tellCommit_45 rfl (lv_at hl 1 rfl) k) ?_
            refine x_go (pc' := 47) (st' := [va_rf r1004, .ref a0]) (fun hC _ _ _ _ _ _ hl k => lv_aload_nq (r := r1004) hC.1 hC.2.1 d_D_tellCommit_46 rfl (lv_at hl 0 rfl) k) ?_
            refine x_go (pc' := 48) (st' := [va_rf r1, va_rf r1004, .ref a0]) (fun hC _ _ _ _ _ _ hl k => lv_aload_nq (r := r1) hC.1 hC.2.1 d_D_tellCommit_47 rfl (lv_at hl 2 rfl) k) ?_
            refine x_recv (ci := 3) (r := (some a0)) (fun b1016 _ eb1016 gb1016 => ?_)
            refine x_callI (rest := []) (c_D_isSecondOfDanger l B b1016 r1004 r1 h1011) (fun hC => fun e1 e2 e3 e4 hM => fun hR hsz hc hs => run_V (n := 2) hC lw_good rfl rfl tw_241 tw_243 tv_7 tw_1 tw_244 (by decide) d_D_tellCommit_48 gb1016 (by rw [e1]; exact Nat.le_of_ble_eq_true rfl) (by rw [e2]; exact Nat.le_of_ble_eq_true rfl) e3 e4 hM hR hsz hc hs rfl (by cases eb1016; rfl) (Nat.le_of_ble_eq_true rfl)) (fun x1015 h1014 => ?_)
            refine x_if (P := x1015 = 0) (pt := 59) (pf := 54) (st' := []) (fun hC _ _ _ _ _ _ kt kf => lv_if_eq (tgt := 59) hC.1 hC.2.1 d_D_tellCommit_51 (by decide) kt kf) ?_ ?_
            · refine x_lift (pc' := 62) (st' := []) (lv' := [(2, .int (x2 + 1)), (3, va_rf r1004), (0, .ref a0), (1, va_rf r1)]) (fun hC _ _ _ _ _ _ hl k => lv_iinc (v := (x2 + 1)) hC.1 hC.2.1 d_D_tellCommit_59 hl (k := 3) rfl rfl (by decide) (by simp [rf_cat, cat_i, cat_l, cat_r]) k) ?_
              refine x_go (pc' := 2) (st' := []) (fun hC _ _ _ _ _ _ hl k => lv_goto (tgt := 2) hC.1 hC.2.1 d_D_tellCommit_62 (by decide) k) ?_
              exact x_sub (lv' := [(0, .ref a0), (1, va_rf r1), (2, .int (x2 + 1))]) [2, 3, 0] rfl (ih a0 r1 (x2 + 1) h1014)
            · refine x_go (pc' := 55) (st' := [va_rf r1004]) (fun hC _ _ _ _ _ _ hl k => lv_aload_nq (r := r1004) hC.1 hC.2.1 d_D_tellCommit_54 rfl (lv_at hl 0 rfl) k) ?_
              refine x_go (pc' := 56) (st' := [.int (1 : Int32), va_rf r1004]) (fun hC _ _ _ _ _ _ hl k => lv_iconst (v := 1) hC.1 hC.2.1 d_D_tellCommit_55 (by decide) k) ?_
              refine x_putZ (ci := 1) (kf := 4) (r := r1004) (x := (1 : Int32)) (fun hz hC => w_putN (host := "SerialDesk") (ty := .boolean) hC iw_1 ft_1 ft_1_ok fn_1 rfl 4 (by decide) (List.mem_of_getElem? (i := 3) rfl) rfl rfl (by decide +kernel) hz rfl d_D_tellCommit_56) (fun h1017 => ?_)
              refine x_lift (pc' := 62) (st' := []) (lv' := [(2, .int (x2 + 1)), (3, va_rf r1004), (0, .ref a0), (1, va_rf r1)]) (fun hC _ _ _ _ _ _ hl k => lv_iinc (v := (x2 + 1)) hC.1 hC.2.1 d_D_tellCommit_59 hl (k := 3) rfl rfl (by decide) (by simp [rf_cat, cat_i, cat_l, cat_r]) k) ?_
              refine x_go (pc' := 2) (st' := []) (fun hC _ _ _ _ _ _ hl k => lv_goto (tgt := 2) hC.1 hC.2.1 d_D_tellCommit_62 (by decide) k) ?_
              exact x_sub (lv' := [(0, .ref a0), (1, va_rf r1), (2, .int (x2 + 1))]) [2, 3, 0] rfl (ih a0 r1 (x2 + 1) h1017)
set_option maxHeartbeats 4000000 in
set_option maxRecDepth 100000 in
theorem c_D_tellCommit (l : Launch) (B : AB) (a0 : Nat) (r1 : Option Nat) (h : AH) : CT l B y_D_tellCommit (Cond.code y_D_tellCommit b_D_tellCommit 4 (Option.none : Option Jvm.ClassFile.FieldType) :: lw_tt) 4 87 eU [.ref a0, va_rf r1] h (f_D_tellCommit a0 r1 h) := by
  refine ct_of (own := o_D) (nm := "tellCommit") (by decide +kernel) rfl rfl (by simp [lg_sl, rf_cat, cat_i, cat_l, cat_r]) (fun p e k1 k2 s m args below meth c => ?_)
  refine x_sub (lv' := [(0, .ref a0), (1, va_rf r1)]) [0, 1] (by simp [lv_pick, lv_args, rf_cat, cat_i, cat_l, cat_r]) ?_
  unfold f_D_tellCommit
  refine x_go (pc' := 1) (st' := [.int (0 : Int32)]) (fun hC _ _ _ _ _ _ hl k => lv_iconst (v := 0) hC.1 hC.2.1 d_D_tellCommit_0 (by decide) k) ?_
  refine x_lift (pc' := 2) (st' := []) (lv' := [(2, .int (0 : Int32)), (0, .ref a0), (1, va_rf r1)]) (fun hC _ _ _ _ _ _ hl k => lv_istore_n (i := 2) hC.1 hC.2.1 d_D_tellCommit_1 rfl hl (by decide) (by simp [rf_cat, cat_i, cat_l, cat_r]) k) ?_
  exact x_sub (lv' := [(0, .ref a0), (1, va_rf r1), (2, .int (0 : Int32))]) [1, 2, 0] rfl (x_D_tellCommit_b2 2000 a0 r1 (0 : Int32) h)
/-! SerialDesk.commit(I)I -/
theorem d_D_commit_0 : decode b_D_commit 0 = .ok (.aload_n 0, 1) := by decide +kernel
theorem d_D_commit_1 : decode b_D_commit 1 = .ok (.iload_n 1, 1) := by decide +kernel
theorem d_D_commit_2 : decode b_D_commit 2 = .ok (.invokevirtual 49, 3) := by decide +kernel
theorem d_D_commit_5 : decode b_D_commit 5 = .ok (.astore_n 2, 1) := by decide +kernel
theorem d_D_commit_6 : decode b_D_commit 6 = .ok (.aload_n 2, 1) := by decide +kernel
theorem d_D_commit_7 : decode b_D_commit 7 = .ok (.ifnull 10, 3) := by decide +kernel
theorem d_D_commit_10 : decode b_D_commit 10 = .ok (.iload_n 1, 1) := by decide +kernel
theorem d_D_commit_11 : decode b_D_commit 11 = .ok (.invokestatic 39, 3) := by decide +kernel
theorem d_D_commit_14 : decode b_D_commit 14 = .ok (.ifCond .ne 5, 3) := by decide +kernel
theorem d_D_commit_17 : decode b_D_commit 17 = .ok (.iconst (-1), 1) := by decide +kernel
theorem d_D_commit_18 : decode b_D_commit 18 = .ok (.ireturn, 1) := by decide +kernel
theorem d_D_commit_19 : decode b_D_commit 19 = .ok (.aload_n 2, 1) := by decide +kernel
theorem d_D_commit_20 : decode b_D_commit 20 = .ok (.getfield 95, 3) := by decide +kernel
theorem d_D_commit_23 : decode b_D_commit 23 = .ok (.ifCond .eq 5, 3) := by decide +kernel
theorem d_D_commit_26 : decode b_D_commit 26 = .ok (.iconst 0, 1) := by decide +kernel
theorem d_D_commit_27 : decode b_D_commit 27 = .ok (.ireturn, 1) := by decide +kernel
theorem d_D_commit_28 : decode b_D_commit 28 = .ok (.aload_n 0, 1) := by decide +kernel
theorem d_D_commit_29 : decode b_D_commit 29 = .ok (.dup, 1) := by decide +kernel
theorem d_D_commit_30 : decode b_D_commit 30 = .ok (.getfield 32, 3) := by decide +kernel
theorem d_D_commit_33 : decode b_D_commit 33 = .ok (.iconst 1, 1) := by decide +kernel
theorem d_D_commit_34 : decode b_D_commit 34 = .ok (.iadd, 1) := by decide +kernel
theorem d_D_commit_35 : decode b_D_commit 35 = .ok (.putfield 32, 3) := by decide +kernel
theorem d_D_commit_38 : decode b_D_commit 38 = .ok (.aload_n 2, 1) := by decide +kernel
theorem d_D_commit_39 : decode b_D_commit 39 = .ok (.aload_n 0, 1) := by decide +kernel
theorem d_D_commit_40 : decode b_D_commit 40 = .ok (.getfield 32, 3) := by decide +kernel
theorem d_D_commit_43 : decode b_D_commit 43 = .ok (.putfield 105, 3) := by decide +kernel
theorem d_D_commit_46 : decode b_D_commit 46 = .ok (.aload_n 0, 1) := by decide +kernel
theorem d_D_commit_47 : decode b_D_commit 47 = .ok (.getfield 18, 3) := by decide +kernel
theorem d_D_commit_50 : decode b_D_commit 50 = .ok (.iload_n 1, 1) := by decide +kernel
theorem d_D_commit_51 : decode b_D_commit 51 = .ok (.aconst_null, 1) := by decide +kernel
theorem d_D_commit_52 : decode b_D_commit 52 = .ok (.aastore, 1) := by decide +kernel
theorem d_D_commit_53 : decode b_D_commit 53 = .ok (.aload_n 0, 1) := by decide +kernel
theorem d_D_commit_54 : decode b_D_commit 54 = .ok (.aload_n 2, 1) := by decide +kernel
theorem d_D_commit_55 : decode b_D_commit 55 = .ok (.invokevirtual 108, 3) := by decide +kernel
theorem d_D_commit_58 : decode b_D_commit 58 = .ok (.aload_n 0, 1) := by decide +kernel
theorem d_D_commit_59 : decode b_D_commit 59 = .ok (.invokevirtual 111, 3) := by decide +kernel
theorem d_D_commit_62 : decode b_D_commit 62 = .ok (.aload_n 0, 1) := by decide +kernel
theorem d_D_commit_63 : decode b_D_commit 63 = .ok (.getfield 32, 3) := by decide +kernel
theorem d_D_commit_66 : decode b_D_commit 66 = .ok (.ireturn, 1) := by decide +kernel
abbrev X_D_commit (p : Program) (l : Launch) (e : Env) (k1 k2 : Nat) (s : State) (m : MethodId) (args : Array Value) (below : List Frame) (meth : Method) (c : Code) (B : AB) (n0 m0 : Nat) (h : AH) (pc : Nat) (lv : List (Nat × Value)) (st : List Value) (comp : Option (Int32 × AH)) : Prop := XX p l e { frames := 5, cells := k1, slots := k2, locals := 110 } s m args below meth c b_D_commit o_D lw_tt 3 (Option.some Jvm.ClassFile.FieldType.int) "commit" B n0 m0 (QM B below args s { frames := 5, cells := k1, slots := k2, locals := 110 } eI) h pc lv st comp
def f_D_commit (a0 : Nat) (x1 : Int32) (h : AH) : Option (Int32 × AH) := rcv h 3 (some a0) (fun b103 => bnd (f_D_runningIn b103 x1 h) (fun r102 h101 => (if r102 = none then some ((-1 : Int32), h101) else bnd (f_D_isSession x1 h101) (fun x105 h104 => (if x105 = 0 then some ((-1 : Int32), h104) else (fI h104 1 4 r102).bind (fun x106 => (if x106 = 0 then (fI h104 3 5 (some a0)).bind (fun x107 => (pF h104 3 5 (some a0) (.int (x107 + (1 : Int32)))).bind (fun h108 => (fI h108 3 5 (some a0)).bind (fun x109 => (pF h108 1 3 r102 (.int x109)).bind (fun h110 => (fR h110 3 1 (some a0)).bind (fun r111 => (qR h110 2 1 r111 x1 none).bind (fun h112 => rcv h112 3 (some a0) (fun b114 => bndU (f_D_tellCommit b114 r102 h112) (fun h113 => rcv h113 3 (some a0) (fun b116 => bndU (f_D_dropNoLongerKept b116 h113) (fun h115 => (fI h115 3 5 (some a0)).bind (fun x117 => some (x117, h115)))))))))))) else some ((0 : Int32), h104))))))))
set_option maxHeartbeats 4000000 in
set_option maxRecDepth 100000 in
theorem c_D_commit (l : Launch) (B : AB) (a0 : Nat) (x1 : Int32) (h : AH) : CT l B y_D_commit (Cond.code y_D_commit b_D_commit 3 (Option.some Jvm.ClassFile.FieldType.int) :: lw_tt) 5 110 eI [.ref a0, .int x1] h (f_D_commit a0 x1 h) := by
  refine ct_of (own := o_D) (nm := "commit") (by decide +kernel) rfl rfl (Nat.le_of_ble_eq_true rfl) (fun p e k1 k2 s m args below meth c => ?_)
  refine x_sub (lv' := [(0, .ref a0), (1, .int x1)]) [0, 1] rfl ?_
  unfold f_D_commit
  refine x_go (pc' := 1) (st' := [.ref a0]) (fun hC _ _ _ _ _ _ hl k => lv_aload_n hC.1 hC.2.1 d_D_commit_0 rfl (lv_at hl 0 rfl) k) ?_
  refine x_go (pc' := 2) (st' := [.int x1, .ref a0]) (fun hC _ _ _ _ _ _ hl k => lv_iload_n hC.1 hC.2.1 d_D_commit_1 rfl (lv_at hl 1 rfl) k) ?_
  refine x_recv (ci := 3) (r := (some a0)) (fun b103 _ eb103 gb103 => ?_)
  refine x_callR (rest := []) (c_D_runningIn l B b103 x1 h) (fun hC => fun e1 e2 e3 e4 hM => fun hR hsz hc hs => run_V (n := 1) hC lw_good rfl rfl tw_106 tw_108 tv_1 tw_1 tw_109 (by decide) d_D_commit_2 gb103 (by rw [e1]; exact Nat.le_of_ble_eq_true rfl) (by rw [e2]; exact Nat.le_of_ble_eq_true rfl) e3 e4 hM hR hsz hc hs rfl (by cases eb103; rfl) (Nat.le_of_ble_eq_true rfl)) (fun r102 h101 => ?_)
  refine x_lift (pc' := 6) (st' := []) (lv' := [(2, va_rf r102), (0, .ref a0), (1, .int x1)]) (fun hC _ _ _ _ _ _ hl k => lv_astore_nq (r := r102) (i := 2) hC.1 hC.2.1 d_D_commit_5 rfl hl (by decide) rfl k) ?_
  refine x_go (pc' := 7) (st' := [va_rf r102]) (fun hC _ _ _ _ _ _ hl k => lv_aload_nq (r := r102) hC.1 hC.2.1 d_D_commit_6 rfl (lv_at hl 0 rfl) k) ?_
  refine x_if (P := r102 = none) (pt := 17) (pf := 10) (st' := []) (fun hC _ _ _ _ _ _ kt kf => lv_ifnull_q (r := r102) (tgt := 17) hC.1 hC.2.1 d_D_commit_7 (by decide) kt kf) ?_ ?_
  · refine x_go (pc' := 18) (st' := [.int (-1 : Int32)]) (fun hC _ _ _ _ _ _ hl k => lv_iconst (v := -1) hC.1 hC.2.1 d_D_commit_17 (by decide) k) ?_
    exact x_iret d_D_commit_18
  · refine x_go (pc' := 11) (st' := [.int x1]) (fun hC _ _ _ _ _ _ hl k => lv_iload_n hC.1 hC.2.1 d_D_commit_10 rfl (lv_at hl 2 rfl) k) ?_
    refine x_callI (rest := []) (c_D_isSession l B x1 h101) (fun hC => fun e1 e2 e3 e4 hM => fun hR hsz hc hs => run_S (n := 1) hC lw_good tw_58 tw_59 tw_1 tw_60 (by decide) d_D_commit_11 (by rw [e1]; exact Nat.le_of_ble_eq_true rfl) (by rw [e2]; exact Nat.le_of_ble_eq_true rfl) e3 e4 hM hR hsz hc hs rfl rfl (Nat.le_of_ble_eq_true rfl)) (fun x105 h104 => ?_)
    refine x_if (P := x105 = 0) (pt := 17) (pf := 19) (st' := []) (fun hC _ _ _ _ _ _ kt kf => lv_if_ne (tgt := 19) hC.1 hC.2.1 d_D_commit_14 (by decide) kf kt) ?_ ?_
    · refine x_go (pc' := 18) (st' := [.int (-1 : Int32)]) (fun hC _ _ _ _ _ _ hl k => lv_iconst (v := -1) hC.1 hC.2.1 d_D_commit_17 (by decide) k) ?_
      exact x_iret d_D_commit_18
    · refine x_go (pc' := 20) (st' := [va_rf r102]) (fun hC _ _ _ _ _ _ hl k => lv_aload_nq (r := r102) hC.1 hC.2.1 d_D_commit_19 rfl (lv_at hl 0 rfl) k) ?_
      refine x_getI (ci := 1) (kf := 4) (r := r102) (fun hC => w_getN (host := "SerialDesk") hC iw_1 rfl 4 (by decide) (List.mem_of_getElem? (i := 3) rfl) rfl d_D_commit_20) (fun x106 => ?_)
      refine x_if (P := x106 = 0) (pt := 28) (pf := 26) (st' := []) (fun hC _ _ _ _ _ _ kt kf => lv_if_eq (tgt := 28) hC.1 hC.2.1 d_D_commit_23 (by decide) kt kf) ?_ ?_
      · refine x_go (pc' := 29) (st' := [.ref a0]) (fun hC _ _ _ _ _ _ hl k => lv_aload_n hC.1 hC.2.1 d_D_commit_28 rfl (lv_at hl 1 rfl) k) ?_
        refine x_go (pc' := 30) (st' := [.ref a0, .ref a0]) (fun hC _ _ _ _ _ _ hl k => lv_dup hC.1 hC.2.1 d_D_commit_29 rfl k) ?_
        refine x_getI (ci := 3) (kf := 5) (r := (some a0)) (fun hC => w_get hC iw_3 rfl 5 (by decide) tw_36 rfl d_D_commit_30) (fun x107 => ?_)
        refine x_go (pc' := 34) (st' := [.int (1 : Int32), .int x107, .ref a0]) (fun hC _ _ _ _ _ _ hl k => lv_iconst (v := 1) hC.1 hC.2.1 d_D_commit_33 (by decide) k) ?_
        refine x_go (pc' := 35) (st' := [.int (x107 + (1 : Int32)), .ref a0]) (fun hC _ _ _ _ _ _ hl k => lv_iadd hC.1 hC.2.1 d_D_commit_34 k) ?_
        refine x_putF (ci := 3) (kf := 5) (r := (some a0)) (v := .int (x107 + (1 : Int32))) (fun hC => w_put (ty := .int) hC iw_3 ft_3 ft_3_ok fn_3 rfl 5 (by decide) tw_36 rfl rfl (by decide +kernel) rfl rfl d_D_commit_35) (fun h108 => ?_)
        refine x_go (pc' := 39) (st' := [va_rf r102]) (fun hC _ _ _ _ _ _ hl k => lv_aload_nq (r := r102) hC.1 hC.2.1 d_D_commit_38 rfl (lv_at hl 0 rfl) k) ?_
        refine x_go (pc' := 40) (st' := [.ref a0, va_rf r102]) (fun hC _ _ _ _ _ _ hl k => lv_aload_n hC.1 hC.2.1 d_D_commit_39 rfl (lv_at hl 1 rfl) k) ?_
        refine x_getI (ci := 3) (kf := 5) (r := (some a0)) (fun hC => w_get hC iw_3 rfl 5 (by decide) tw_36 rfl d_D_commit_40) (fun x109 => ?_)
        refine x_putF (ci := 1) (kf := 3) (r := r102) (v := .int x109) (fun hC => w_putN (host := "SerialDesk") (ty := .int) hC iw_1 ft_1 ft_1_ok fn_1 rfl 3 (by decide) (List.mem_of_getElem? (i := 4) rfl) rfl rfl (by decide +kernel) rfl rfl d_D_commit_43) (fun h110 => ?_)
        refine x_go (pc' := 47) (st' := [.ref a0]) (fun hC _ _ _ _ _ _ hl k => lv_aload_n hC.1 hC.2.1 d_D_commit_46 rfl (lv_at hl 1 rfl) k) ?_
        refine x_getR (ci := 3) (kf := 1) (r := (some a0)) (fun hC => w_get hC iw_3 rfl 1 (by decide) tw_32 rfl d_D_commit_47) (fun r111 => ?_)
        refine x_go (pc' := 51) (st' := [.int x1, va_rf r111]) (fun hC _ _ _ _ _ _ hl k => lv_iload_n hC.1 hC.2.1 d_D_commit_50 rfl (lv_at hl 2 rfl) k) ?_
        refine x_go (pc' := 52) (st' := [va_rf none, .int x1, va_rf r111]) (fun hC _ _ _ _ _ _ hl k => lv_null hC.1 hC.2.1 d_D_commit_51 k) ?_
        refine x_aast (t := 2) (ci := 1) rfl rfl (r := r111) (x := none) (i := x1) d_D_commit_52 (fun h112 => ?_)
        refine x_go (pc' := 54) (st' := [.ref a0]) (fun hC _ _ _ _ _ _ hl k => lv_aload_n hC.1 hC.2.1 d_D_commit_53 rfl (lv_at hl 1 rfl) k) ?_
        refine x_go (pc' := 55) (st' := [va_rf r102, .ref a0]) (fun hC _ _ _ _ _ _ hl k => lv_aload_nq (r := r102) hC.1 hC.2.1 d_D_commit_54 rfl (lv_at hl 0 rfl) k) ?_
        refine x_recv (ci := 3) (r := (some a0)) (fun b114 _ eb114 gb114 => ?_)
        refine x_callU (rest := []) (c_D_tellCommit l B b114 r102 h112) (fun hC => fun e1 e2 e3 e4 hM => fun hR hsz hc hs => run_V (n := 1) hC lw_good rfl rfl tw_258 tw_260 tv_9 tw_1 tw_261 (by decide) d_D_commit_55 gb114 (by rw [e1]; exact Nat.le_of_ble_eq_true rfl) (by rw [e2]; exact Nat.le_of_ble_eq_true rfl) e3 e4 hM hR hsz hc hs rfl (by cases eb114; rfl) (Nat.le_of_ble_eq_true rfl)) (fun h113 => ?_)
        refine x_go (pc' := 59) (st' := [.ref a0]) (fun hC _ _ _ _ _ _ hl k => lv_aload_n hC.1 hC.2.1 d_D_commit_58 rfl (lv_at hl 1 rfl) k) ?_
        refine x_recv (ci := 3) (r := (some a0)) (fun b116 _ eb116 gb116 => ?_)
        refine x_callU (rest := []) (c_D_dropNoLongerKept l B b116 h113) (fun hC => fun e1 e2 e3 e4 hM => fun hR hsz hc hs => run_V (n := 0) hC lw_good rfl rfl tw_263 tw_265 tv_10 tw_1 tw_266 (by decide) d_D_commit_59 gb116 (by rw [e1]; exact Nat.le_of_ble_eq_true rfl) (by rw [e2]; exact Nat.le_of_ble_eq_true rfl) e3 e4 hM hR hsz hc hs rfl (by cases eb116; rfl) (Nat.le_of_ble_eq_true rfl)) (fun h115 => ?_)
        refine x_go (pc' := 63) (st' := [.ref a0]) (fun hC _ _ _ _ _ _ hl k => lv_aload_n hC.1 hC.2.1 d_D_commit_62 rfl (lv_at hl 1 rfl) k) ?_
        refine x_getI (ci := 3) (kf := 5) (r := (some a0)) (fun hC => w_get hC iw_3 rfl 5 (by decide) tw_36 rfl d_D_commit_63) (fun x117 => ?_)
        exact x_iret d_D_commit_66
      · refine x_go (pc' := 27) (st' := [.int (0 : Int32)]) (fun hC _ _ _ _ _ _ hl k => lv_iconst (v := 0) hC.1 hC.2.1 d_D_commit_26 (by decide) k) ?_
        exact x_iret d_D_commit_27
