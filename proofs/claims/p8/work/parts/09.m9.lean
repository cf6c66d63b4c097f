/-! SerialDesk.abort(I)Z -/
theorem d_D_abort_0 : decode b_D_abort 0 = .ok (.aload_n 0, 1) := by decide +kernel
theorem d_D_abort_1 : decode b_D_abort 1 = .ok (.iload_n 1, 1) := by decide +kernel
theorem d_D_abort_2 : decode b_D_abort 2 = .ok (.invokevirtual 49, 3) := by decide +kernel
theorem d_D_abort_5 : decode b_D_abort 5 = .ok (.astore_n 2, 1) := by decide +kernel
theorem d_D_abort_6 : decode b_D_abort 6 = .ok (.aload_n 2, 1) := by decide +kernel
theorem d_D_abort_7 : decode b_D_abort 7 = .ok (.ifnull 10, 3) := by decide +kernel
theorem d_D_abort_10 : decode b_D_abort 10 = .ok (.iload_n 1, 1) := by decide +kernel
theorem d_D_abort_11 : decode b_D_abort 11 = .ok (.invokestatic 39, 3) := by decide +kernel
theorem d_D_abort_14 : decode b_D_abort 14 = .ok (.ifCond .ne 5, 3) := by decide +kernel
theorem d_D_abort_17 : decode b_D_abort 17 = .ok (.iconst 0, 1) := by decide +kernel
theorem d_D_abort_18 : decode b_D_abort 18 = .ok (.ireturn, 1) := by decide +kernel
theorem d_D_abort_19 : decode b_D_abort 19 = .ok (.aload_n 0, 1) := by decide +kernel
theorem d_D_abort_20 : decode b_D_abort 20 = .ok (.getfield 18, 3) := by decide +kernel
theorem d_D_abort_23 : decode b_D_abort 23 = .ok (.iload_n 1, 1) := by decide +kernel
theorem d_D_abort_24 : decode b_D_abort 24 = .ok (.aconst_null, 1) := by decide +kernel
theorem d_D_abort_25 : decode b_D_abort 25 = .ok (.aastore, 1) := by decide +kernel
theorem d_D_abort_26 : decode b_D_abort 26 = .ok (.aload_n 0, 1) := by decide +kernel
theorem d_D_abort_27 : decode b_D_abort 27 = .ok (.aload_n 2, 1) := by decide +kernel
theorem d_D_abort_28 : decode b_D_abort 28 = .ok (.invokevirtual 114, 3) := by decide +kernel
theorem d_D_abort_31 : decode b_D_abort 31 = .ok (.aload_n 0, 1) := by decide +kernel
theorem d_D_abort_32 : decode b_D_abort 32 = .ok (.invokevirtual 111, 3) := by decide +kernel
theorem d_D_abort_35 : decode b_D_abort 35 = .ok (.iconst 1, 1) := by decide +kernel
theorem d_D_abort_36 : decode b_D_abort 36 = .ok (.ireturn, 1) := by decide +kernel
abbrev X_D_abort (p : Program) (l : Launch) (e : Env) (k1 k2 : Nat) (s : State) (m : MethodId) (args : Array Value) (below : List Frame) (meth : Method) (c : Code) (B : AB) (n0 m0 : Nat) (h : AH) (pc : Nat) (lv : List (Nat × Value)) (st : List Value) (comp : Option (Int32 × AH)) : Prop := XX p l e { frames := 3, cells := k1, slots := k2, locals := 67 } s m args below meth c b_D_abort o_D lw_tt 3 (Option.some Jvm.ClassFile.FieldType.boolean) "abort" B n0 m0 (QM B below args s { frames := 3, cells := k1, slots := k2, locals := 67 } eI) h pc lv st comp
def f_D_abort (a0 : Nat) (x1 : Int32) (h : AH) : Option (Int32 × AH) := rcv h 3 (some a0) (fun b103 => bnd (f_D_runningIn b103 x1 h) (fun r102 h101 => (if r102 = none then rZ (0 : Int32) h101 else bnd (f_D_isSession x1 h101) (fun x105 h104 => (if x105 = 0 then rZ (0 : Int32) h104 else (fR h104 3 1 (some a0)).bind (fun r106 => (qR h104 2 1 r106 x1 none).bind (fun h107 => rcv h107 3 (some a0) (fun b109 => bndU (f_D_drop b109 r102 h107) (fun h108 => rcv h108 3 (some a0) (fun b111 => bndU (f_D_dropNoLongerKept b111 h108) (fun h110 => rZ (1 : Int32) h110)))))))))))
set_option maxHeartbeats 4000000 in
set_option maxRecDepth 100000 in
theorem c_D_abort (l : Launch) (B : AB) (a0 : Nat) (x1 : Int32) (h : AH) : CT l B y_D_abort (Cond.code y_D_abort b_D_abort 3 (Option.some Jvm.ClassFile.FieldType.boolean) :: lw_tt) 3 67 eI [.ref a0, .int x1] h (f_D_abort a0 x1 h) := by
  refine ct_of (own := o_D) (nm := "abort") (by decide +kernel) rfl rfl (Nat.le_of_ble_eq_true rfl) (fun p e k1 k2 s m args below meth c => ?_)
  refine x_sub (lv' := [(0, .ref a0), (1, .int x1)]) [0, 1] rfl ?_
  unfold f_D_abort
  refine x_go (pc' := 1) (st' := [.ref a0]) (fun hC _ _ _ _ _ _ hl k => lv_aload_n hC.1 hC.2.1 d_D_abort_0 rfl (lv_at hl 0 rfl) k) ?_
  refine x_go (pc' := 2) (st' := [.int x1, .ref a0]) (fun hC _ _ _ _ _ _ hl k => lv_iload_n hC.1 hC.2.1 d_D_abort_1 rfl (lv_at hl 1 rfl) k) ?_
  refine x_recv (ci := 3) (r := (some a0)) (fun b103 _ eb103 gb103 => ?_)
  refine x_callR (rest := []) (c_D_runningIn l B b103 x1 h) (fun hC => fun e1 e2 e3 e4 hM => fun hR hsz hc hs => run_V (n := 1) hC lw_good rfl rfl tw_106 tw_108 tv_1 tw_1 tw_109 (by decide) d_D_abort_2 gb103 (by rw [e1]; exact Nat.le_of_ble_eq_true rfl) (by rw [e2]; exact Nat.le_of_ble_eq_true rfl) e3 e4 hM hR hsz hc hs rfl (by cases eb103; rfl) (Nat.le_of_ble_eq_true rfl)) (fun r102 h101 => ?_)
  refine x_lift (pc' := 6) (st' := []) (lv' := [(2, va_rf r102), (0, .ref a0), (1, .int x1)]) (fun hC _ _ _ _ _ _ hl k => lv_astore_nq (r := r102) (i := 2) hC.1 hC.2.1 d_D_abort_5 rfl hl (by decide) rfl k) ?_
  refine x_go (pc' := 7) (st' := [va_rf r102]) (fun hC _ _ _ _ _ _ hl k => lv_aload_nq (r := r102) hC.1 hC.2.1 d_D_abort_6 rfl (lv_at hl 0 rfl) k) ?_
  refine x_if (P := r102 = none) (pt := 17) (pf := 10) (st' := []) (fun hC _ _ _ _ _ _ kt kf => lv_ifnull_q (r := r102) (tgt := 17) hC.1 hC.2.1 d_D_abort_7 (by decide) kt kf) ?_ ?_
  · refine x_go (pc' := 18) (st' := [.int (0 : Int32)]) (fun hC _ _ _ _ _ _ hl k => lv_iconst (v := 0) hC.1 hC.2.1 d_D_abort_17 (by decide) k) ?_
    exact x_zret d_D_abort_18
  · refine x_go (pc' := 11) (st' := [.int x1]) (fun hC _ _ _ _ _ _ hl k => lv_iload_n hC.1 hC.2.1 d_D_abort_10 rfl (lv_at hl 2 rfl) k) ?_
    refine x_callI (rest := []) (c_D_isSession l B x1 h101) (fun hC => fun e1 e2 e3 e4 hM => fun hR hsz hc hs => run_S (n := 1) hC lw_good tw_58 tw_59 tw_1 tw_60 (by decide) d_D_abort_11 (by rw [e1]; exact Nat.le_of_ble_eq_true rfl) (by rw [e2]; exact Nat.le_of_ble_eq_true rfl) e3 e4 hM hR hsz hc hs rfl rfl (Nat.le_of_ble_eq_true rfl)) (fun x105 h104 => ?_)
    refine x_if (P := x105 = 0) (pt := 17) (pf := 19) (st' := []) (fun hC _ _ _ _ _ _ kt kf => lv_if_ne (tgt := 19) hC.1 hC.2.1 d_D_abort_14 (by decide) kf kt) ?_ ?_
    · refine x_go (pc' := 18) (st' := [.int (0 : Int32)]) (fun hC _ _ _ _ _ _ hl k => lv_iconst (v := 0) hC.1 hC.2.1 d_D_abort_17 (by decide) k) ?_
      exact x_zret d_D_abort_18
    · refine x_go (pc' := 20) (st' := [.ref a0]) (fun hC _ _ _ _ _ _ hl k => lv_aload_n hC.1 hC.2.1 d_D_abort_19 rfl (lv_at hl 1 rfl) k) ?_
      refine x_getR (ci := 3) (kf := 1) (r := (some a0)) (fun hC => w_get hC iw_3 rfl 1 (by decide) tw_32 rfl d_D_abort_20) (fun r106 => ?_)
      refine x_go (pc' := 24) (st' := [.int x1, va_rf r106]) (fun hC _ _ _ _ _ _ hl k => lv_iload_n hC.1 hC.2.1 d_D_abort_23 rfl (lv_at hl 2 rfl) k) ?_
      refine x_go (pc' := 25) (st' := [va_rf none, .int x1, va_rf r106]) (fun hC _ _ _ _ _ _ hl k => lv_null hC.1 hC.2.1 d_D_abort_24 k) ?_
      refine x_aast (t := 2) (ci := 1) rfl rfl (r := r106) (x := none) (i := x1) d_D_abort_25 (fun h107 => ?_)
      refine x_go (pc' := 27) (st' := [.ref a0]) (fun hC _ _ _ _ _ _ hl k => lv_aload_n hC.1 hC.2.1 d_D_abort_26 rfl (lv_at hl 1 rfl) k) ?_
      refine x_go (pc' := 28) (st' := [va_rf r102, .ref a0]) (fun hC _ _ _ _ _ _ hl k => lv_aload_nq (r := r102) hC.1 hC.2.1 d_D_abort_27 rfl (lv_at hl 0 rfl) k) ?_
      refine x_recv (ci := 3) (r := (some a0)) (fun b109 _ eb109 gb109 => ?_)
      refine x_callU (rest := []) (c_D_drop l B b109 r102 h107) (fun hC => fun e1 e2 e3 e4 hM => fun hR hsz hc hs => run_V (n := 1) hC lw_good rfl rfl tw_271 tw_273 tv_12 tw_1 tw_274 (by decide) d_D_abort_28 gb109 (by rw [e1]; exact Nat.le_of_ble_eq_true rfl) (by rw [e2]; exact Nat.le_of_ble_eq_true rfl) e3 e4 hM hR hsz hc hs rfl (by cases eb109; rfl) (Nat.le_of_ble_eq_true rfl)) (fun h108 => ?_)
      refine x_go (pc' := 32) (st' := [.ref a0]) (fun hC _ _ _ _ _ _ hl k => lv_aload_n hC.1 hC.2.1 d_D_abort_31 rfl (lv_at hl 1 rfl) k) ?_
      refine x_recv (ci := 3) (r := (some a0)) (fun b111 _ eb111 gb111 => ?_)
      refine x_callU (rest := []) (c_D_dropNoLongerKept l B b111 h108) (fun hC => fun e1 e2 e3 e4 hM => fun hR hsz hc hs => run_V (n := 0) hC lw_good rfl rfl tw_263 tw_265 tv_10 tw_1 tw_266 (by decide) d_D_abort_32 gb111 (by rw [e1]; exact Nat.le_of_ble_eq_true rfl) (by rw [e2]; exact Nat.le_of_ble_eq_true rfl) e3 e4 hM hR hsz hc hs rfl (by cases eb111; rfl) (Nat.le_of_ble_eq_true rfl)) (fun h110 => ?_)
      refine x_go (pc' := 36) (st' := [.int (1 : Int32)]) (fun hC _ _ _ _ _ _ hl k => lv_iconst (v := 1) hC.1 hC.2.1 d_D_abort_35 (by decide) k) ?_
      exact x_zret d_D_abort_36
/-! SerialDesk.doom(I)Z -/
theorem d_D_doom_0 : decode b_D_doom 0 = .ok (.aload_n 0, 1) := by decide +kernel
theorem d_D_doom_1 : decode b_D_doom 1 = .ok (.iload_n 1, 1) := by decide +kernel
theorem d_D_doom_2 : decode b_D_doom 2 = .ok (.invokevirtual 49, 3) := by decide +kernel
theorem d_D_doom_5 : decode b_D_doom 5 = .ok (.astore_n 2, 1) := by decide +kernel
theorem d_D_doom_6 : decode b_D_doom 6 = .ok (.aload_n 2, 1) := by decide +kernel
theorem d_D_doom_7 : decode b_D_doom 7 = .ok (.ifnonnull 5, 3) := by decide +kernel
theorem d_D_doom_10 : decode b_D_doom 10 = .ok (.iconst 0, 1) := by decide +kernel
theorem d_D_doom_11 : decode b_D_doom 11 = .ok (.ireturn, 1) := by decide +kernel
theorem d_D_doom_12 : decode b_D_doom 12 = .ok (.aload_n 2, 1) := by decide +kernel
theorem d_D_doom_13 : decode b_D_doom 13 = .ok (.iconst 1, 1) := by decide +kernel
theorem d_D_doom_14 : decode b_D_doom 14 = .ok (.putfield 95, 3) := by decide +kernel
theorem d_D_doom_17 : decode b_D_doom 17 = .ok (.iconst 1, 1) := by decide +kernel
theorem d_D_doom_18 : decode b_D_doom 18 = .ok (.ireturn, 1) := by decide +kernel
abbrev X_D_doom (p : Program) (l : Launch) (e : Env) (k1 k2 : Nat) (s : State) (m : MethodId) (args : Array Value) (below : List Frame) (meth : Method) (c : Code) (B : AB) (n0 m0 : Nat) (h : AH) (pc : Nat) (lv : List (Nat × Value)) (st : List Value) (comp : Option (Int32 × AH)) : Prop := XX p l e { frames := 2, cells := k1, slots := k2, locals := 41 } s m args below meth c b_D_doom o_D lw_tt 3 (Option.some Jvm.ClassFile.FieldType.boolean) "doom" B n0 m0 (QM B below args s { frames := 2, cells := k1, slots := k2, locals := 41 } eI) h pc lv st comp
def f_D_doom (a0 : Nat) (x1 : Int32) (h : AH) : Option (Int32 × AH) := rcv h 3 (some a0) (fun b103 => bnd (f_D_runningIn b103 x1 h) (fun r102 h101 => (if r102 = none then rZ (0 : Int32) h101 else (pZ h101 1 4 r102 (1 : Int32)).bind (fun h104 => rZ (1 : Int32) h104))))
set_option maxHeartbeats 4000000 in
set_option maxRecDepth 100000 in
theorem c_D_doom (l : Launch) (B : AB) (a0 : Nat) (x1 : Int32) (h : AH) : CT l B y_D_doom (Cond.code y_D_doom b_D_doom 3 (Option.some Jvm.ClassFile.FieldType.boolean) :: lw_tt) 2 41 eI [.ref a0, .int x1] h (f_D_doom a0 x1 h) := by
  refine ct_of (own := o_D) (nm := "doom") (by decide +kernel) rfl rfl (Nat.le_of_ble_eq_true rfl) (fun p e k1 k2 s m args below meth c => ?_)
  refine x_sub (lv' := [(0, .ref a0), (1, .int x1)]) [0, 1] rfl ?_
  unfold f_D_doom
  refine x_go (pc' := 1) (st' := [.ref a0]) (fun hC _ _ _ _ _ _ hl k => lv_aload_n hC.1 hC.2.1 d_D_doom_0 rfl (lv_at hl 0 rfl) k) ?_
  refine x_go (pc' := 2) (st' := [.int x1, .ref a0]) (fun hC _ _ _ _ _ _ hl k => lv_iload_n hC.1 hC.2.1 d_D_doom_1 rfl (lv_at hl 1 rfl) k) ?_
  refine x_recv (ci := 3) (r := (some a0)) (fun b103 _ eb103 gb103 => ?_)
  refine x_callR (rest := []) (c_D_runningIn l B b103 x1 h) (fun hC => fun e1 e2 e3 e4 hM => fun hR hsz hc hs => run_V (n := 1) hC lw_good rfl rfl tw_106 tw_108 tv_1 tw_1 tw_109 (by decide) d_D_doom_2 gb103 (by rw [e1]; exact Nat.le_of_ble_eq_true rfl) (by rw [e2]; exact Nat.le_of_ble_eq_true rfl) e3 e4 hM hR hsz hc hs rfl (by cases eb103; rfl) (Nat.le_of_ble_eq_true rfl)) (fun r102 h101 => ?_)
  refine x_lift (pc' := 6) (st' := []) (lv' := [(2, va_rf r102), (0, .ref a0), (1, .int x1)]) (fun hC _ _ _ _ _ _ hl k => lv_astore_nq (r := r102) (i := 2) hC.1 hC.2.1 d_D_doom_5 rfl hl (by decide) rfl k) ?_
  refine x_go (pc' := 7) (st' := [va_rf r102]) (fun hC _ _ _ _ _ _ hl k => lv_aload_nq (r := r102) hC.1 hC.2.1 d_D_doom_6 rfl (lv_at hl 0 rfl) k) ?_
  refine x_if (P := r102 = none) (pt := 10) (pf := 12) (st' := []) (fun hC _ _ _ _ _ _ kt kf => lv_ifnonnull_q (r := r102) (tgt := 12) hC.1 hC.2.1 d_D_doom_7 (by decide) kt kf) ?_ ?_
  · refine x_go (pc' := 11) (st' := [.int (0 : Int32)]) (fun hC _ _ _ _ _ _ hl k => lv_iconst (v := 0) hC.1 hC.2.1 d_D_doom_10 (by decide) k) ?_
    exact x_zret d_D_doom_11
  · refine x_go (pc' := 13) (st' := [va_rf r102]) (fun hC _ _ _ _ _ _ hl k => lv_aload_nq (r := r102) hC.1 hC.2.1 d_D_doom_12 rfl (lv_at hl 0 rfl) k) ?_
    refine x_go (pc' := 14) (st' := [.int (1 : Int32), va_rf r102]) (fun hC _ _ _ _ _ _ hl k => lv_iconst (v := 1) hC.1 hC.2.1 d_D_doom_13 (by decide) k) ?_
    refine x_putZ (ci := 1) (kf := 4) (r := r102) (x := (1 : Int32)) (fun hz hC => w_putN (host := "SerialDesk") (ty := .boolean) hC iw_1 ft_1 ft_1_ok fn_1 rfl 4 (by decide) (List.mem_of_getElem? (i := 3) rfl) rfl rfl (by decide +kernel) hz rfl d_D_doom_14) (fun h104 => ?_)
    refine x_go (pc' := 18) (st' := [.int (1 : Int32)]) (fun hC _ _ _ _ _ _ hl k => lv_iconst (v := 1) hC.1 hC.2.1 d_D_doom_17 (by decide) k) ?_
    exact x_zret d_D_doom_18
/-! SerialDesk.arrowsInto(LSerialDesk$Transaction;)I -/
theorem d_D_arrowsInto_0 : decode b_D_arrowsInto 0 = .ok (.iconst 0, 1) := by decide +kernel
theorem d_D_arrowsInto_1 : decode b_D_arrowsInto 1 = .ok (.istore_n 2, 1) := by decide +kernel
theorem d_D_arrowsInto_2 : decode b_D_arrowsInto 2 = .ok (.iconst 0, 1) := by decide +kernel
theorem d_D_arrowsInto_3 : decode b_D_arrowsInto 3 = .ok (.istore_n 3, 1) := by decide +kernel
theorem d_D_arrowsInto_4 : decode b_D_arrowsInto 4 = .ok (.iload_n 3, 1) := by decide +kernel
theorem d_D_arrowsInto_5 : decode b_D_arrowsInto 5 = .ok (.aload_n 0, 1) := by decide +kernel
theorem d_D_arrowsInto_6 : decode b_D_arrowsInto 6 = .ok (.getfield 22, 3) := by decide +kernel
theorem d_D_arrowsInto_9 : decode b_D_arrowsInto 9 = .ok (.arraylength, 1) := by decide +kernel
theorem d_D_arrowsInto_10 : decode b_D_arrowsInto 10 = .ok (.if_icmp .ge 34, 3) := by decide +kernel
theorem d_D_arrowsInto_13 : decode b_D_arrowsInto 13 = .ok (.aload_n 0, 1) := by decide +kernel
theorem d_D_arrowsInto_14 : decode b_D_arrowsInto 14 = .ok (.getfield 22, 3) := by decide +kernel
theorem d_D_arrowsInto_17 : decode b_D_arrowsInto 17 = .ok (.iload_n 3, 1) := by decide +kernel
theorem d_D_arrowsInto_18 : decode b_D_arrowsInto 18 = .ok (.aaload, 1) := by decide +kernel
theorem d_D_arrowsInto_19 : decode b_D_arrowsInto 19 = .ok (.astore 4, 2) := by decide +kernel
theorem d_D_arrowsInto_21 : decode b_D_arrowsInto 21 = .ok (.aload 4, 2) := by decide +kernel
theorem d_D_arrowsInto_23 : decode b_D_arrowsInto 23 = .ok (.ifnull 15, 3) := by decide +kernel
theorem d_D_arrowsInto_26 : decode b_D_arrowsInto 26 = .ok (.aload 4, 2) := by decide +kernel
theorem d_D_arrowsInto_28 : decode b_D_arrowsInto 28 = .ok (.aload_n 1, 1) := by decide +kernel
theorem d_D_arrowsInto_29 : decode b_D_arrowsInto 29 = .ok (.invokevirtual 131, 3) := by decide +kernel
theorem d_D_arrowsInto_32 : decode b_D_arrowsInto 32 = .ok (.ifCond .eq 6, 3) := by decide +kernel
theorem d_D_arrowsInto_35 : decode b_D_arrowsInto 35 = .ok (.iinc 2 1, 3) := by decide +kernel
theorem d_D_arrowsInto_38 : decode b_D_arrowsInto 38 = .ok (.iinc 3 1, 3) := by decide +kernel
theorem d_D_arrowsInto_41 : decode b_D_arrowsInto 41 = .ok (.goto (-37), 3) := by decide +kernel
theorem d_D_arrowsInto_44 : decode b_D_arrowsInto 44 = .ok (.iload_n 2, 1) := by decide +kernel
theorem d_D_arrowsInto_45 : decode b_D_arrowsInto 45 = .ok (.ireturn, 1) := by decide +kernel
abbrev X_D_arrowsInto (p : Program) (l : Launch) (e : Env) (k1 k2 : Nat) (s : State) (m : MethodId) (args : Array Value) (below : List Frame) (meth : Method) (c : Code) (B : AB) (n0 m0 : Nat) (h : AH) (pc : Nat) (lv : List (Nat × Value)) (st : List Value) (comp : Option (Int32 × AH)) : Prop := XX p l e { frames := 1, cells := k1, slots := k2, locals := 21 } s m args below meth c b_D_arrowsInto o_D lw_tt 5 (Option.some Jvm.ClassFile.FieldType.int) "arrowsInto" B n0 m0 (QM B below args s { frames := 1, cells := k1, slots := k2, locals := 21 } eI) h pc lv st comp
def f_D_arrowsInto_b4 : Nat → Nat → Option Nat → Int32 → Int32 → AH → Option (Int32 × AH)
  | 0, _, _, _, _, _ => none
  | n + 1, a0, r1, x2, x3, h => (fR h 3 2 (some a0)).bind (fun r1001 => (gN h 2 r1001).bind (fun x1002 => (if x1002 ≤ x3 then some (x2, h) else (fR h 3 2 (some a0)).bind (fun r1003 => (lR h 2 r1003 x3).bind (fun r1004 => (if r1004 = none then f_D_arrowsInto_b4 n a0 r1 x2 (x3 + 1) h else rcv h 1 r1004 (fun b1007 => bnd (f_T_pointsAt b1007 r1 h) (fun x1006 h1005 => (if x1006 = 0 then f_D_arrowsInto_b4 n a0 r1 x2 (x3 + 1) h1005 else f_D_arrowsInto_b4 n a0 r1 (x2 + 1) (x3 + 1) h1005)))))))))
def f_D_arrowsInto (a0 : Nat) (r1 : Option Nat) (h : AH) : Option (Int32 × AH) := f_D_arrowsInto_b4 2000 a0 r1 (0 : Int32) (0 : Int32) h
set_option maxHeartbeats 4000000 in
set_option maxRecDepth 100000 in
theorem x_D_arrowsInto_b4 {p : Program} {l : Launch} {e : Env} {k1 k2 : Nat} {s : State} {m : MethodId} {args : Array Value} {below : List Frame} {meth : Method} {c : Code} {B : AB} {n0 m0 : Nat} : ∀ (n : Nat) (a0 : Nat) (r1 : Option Nat) (x2 : Int32) (x3 : Int32) (h : AH), X_D_arrowsInto p l e k1 k2 s m args below meth c B n0 m0 h 4 [(0, .ref a0), (1, va_rf r1), (2, .int x2), (3, .int x3)] [] (f_D_arrowsInto_b4 n a0 r1 x2 x3 h) := by
  intro n
  induction n with
  | zero => intro a0 r1 x2 x3 h; exact x_none
  | succ n ih =>
    intro a0 r1 x2 x3 h
    rw [f_D_arrowsInto_b4]
    refine x_go (pc' := 5) (st' := [.int x3]) (fun hC _ _ _ _ _ _ hl k => lv_iload_n hC.1 hC.2.1 d_D_arrowsInto_4 rfl (lv_at hl 3 rfl) k) ?_
    refine x_go (pc' := 6) (st' := [.ref a0, .int x3]) (fun hC _ _ _ _ _ _ hl k => lv_aload_n hC.1 hC.2.1 d_D_arrowsInto_5 rfl (lv_at hl 0 rfl) k) ?_
    refine x_getR (ci := 3) (kf := 2) (r := (some a0)) (fun hC => w_get hC iw_3 rfl 2 (by decide) tw_33 rfl d_D_arrowsInto_6) (fun r1001 => ?_)
    refine x_alen (t := 2) rfl (r := r1001) d_D_arrowsInto_9 (fun x1002 => ?_)
    refine x_if (P := x1002 ≤ x3) (pt := 44) (pf := 13) (st' := []) (fun hC _ _ _ _ _ _ kt kf => lv_icmp_ge (tgt := 44) hC.1 hC.2.1 d_D_arrowsInto_10 (by decide) kt kf) ?_ ?_
    · refine x_go (pc' := 45) (st' := [.int x2]) (fun hC _ _ _ _ _ _ hl k => lv_iload_n hC.1 hC.2.1 d_D_arrowsInto_44 rfl (lv_at hl 2 rfl) k) ?_
      exact x_iret d_D_arrowsInto_45
    · refine x_go (pc' := 14) (st' := [.ref a0]) (fun hC _ _ _ _ _ _ hl k => lv_aload_n hC.1 hC.2.1 d_D_arrowsInto_13 rfl (lv_at hl 0 rfl) k) ?_
      refine x_getR (ci := 3) (kf := 2) (r := (some a0)) (fun hC => w_get hC iw_3 rfl 2 (by decide) tw_33 rfl d_D_arrowsInto_14) (fun r1003 => ?_)
      refine x_go (pc' := 18) (st' := [.int x3, va_rf r1003]) (fun hC _ _ _ _ _ _ hl k => lv_iload_n hC.1 hC.2.1 d_D_arrowsInto_17 rfl (lv_at hl 3 rfl) k) ?_
      refine x_aald (t := 2) rfl rfl (r := r1003) (i := x3) d_D_arrowsInto_18 (fun r1004 => ?_)
      refine x_lift (pc' := 21) (st' := []) (lv' := [(4, va_rf r1004), (0, .ref a0), (1, va_rf r1), (2, .int x2), (3, .int x3)]) (fun hC _ _ _ _ _ _ hl k => lv_astore_q (r := r1004) (i := 4) hC.1 hC.2.1 d_D_arrowsInto_19 hl (by decide) rfl k) ?_
      refine x_go (pc' := 23) (st' := [va_rf r1004]) (fun hC _ _ _ _ _ _ hl k => lv_aload_q (r := r1004) hC.1 hC.2.1 d_D_arrowsInto_21 (lv_at hl 0 rfl) k) ?_
      refine x_if (P := r1004 = none) (pt := 38) (pf := 26) (st' := []) (fun hC _ _ _ _ _ _ kt kf => lv_ifnull_q (r := r1004) (tgt := 38) hC.1 hC.2.1 d_D_arrowsInto_23 (by decide) kt kf) ?_ ?_
      · refine x_lift (pc' := 41) (st' := []) (lv' := [(3, .int (x3 + 1)), (4, va_rf r1004), (0, .ref a0), (1, va_rf r1), (2, .int x2)]) (fun hC _ _ _ _ _ _ hl k => lv_iinc (v := (x3 + 1)) hC.1 hC.2.1 d_D_arrowsInto_38 hl (k := 4) rfl rfl (by decide) rfl k) ?_
        refine x_go (pc' := 4) (st' := []) (fun hC _ _ _ _ _ _ hl k => lv_goto (tgt := 4) hC.1 hC.2.1 d_D_arrowsInto_41 (by decide) k) ?_
        exact x_sub (lv' := [(0, .ref a0), (1, va_rf r1), (2, .int x2), (3, .int (x3 + 1))]) [2, 3, 4, 0] rfl (ih a0 r1 x2 (x3 + 1) h)
      · refine x_go (pc' := 28) (st' := [va_rf r1004]) (fun hC _ _ _ _ _ _ hl k => lv_aload_q (r := r1004) hC.1 hC.2.1 d_D_arrowsInto_26 (lv_at hl 0 rfl) k) ?_
        refine x_go (pc' := 29) (st' := [va_rf r1, va_rf r1004]) (fun hC _ _ _ _ _ _ hl k => lv_aload_nq (r := r1) hC.1 hC.2.1 d_D_arrowsInto_28 rfl (lv_at hl 2 rfl) k) ?_
        refine x_recv (ci := 1) (r := r1004) (fun b1007 _ eb1007 gb1007 => ?_)
        refine x_callI (rest := []) (c_T_pointsAt l B b1007 r1 h) (fun hC => fun e1 e2 e3 e4 hM => fun hR hsz hc hs => run_V (n := 1) hC lw_good rfl rfl tw_250 tw_251 tw_252 tw_4 tw_253 (by decide) d_D_arrowsInto_29 gb1007 (by rw [e1]; exact Nat.le_of_ble_eq_true rfl) (by rw [e2]; exact Nat.le_of_ble_eq_true rfl) e3 e4 hM hR hsz hc hs rfl (by cases eb1007; rfl) (Nat.le_of_ble_eq_true rfl)) (fun x1006 h1005 => ?_)
        refine x_if (P := x1006 = 0) (pt := 38) (pf := 35) (st' := []) (fun hC _ _ _ _ _ _ kt kf => lv_if_eq (tgt := 38) hC.1 hC.2.1 d_D_arrowsInto_32 (by decide) kt kf) ?_ ?_
        · refine x_lift (pc' := 41) (st' := []) (lv' := [(3, .int (x3 + 1)), (4, va_rf r1004), (0, .ref a0), (1, va_rf r1), (2, .int x2)]) (fun hC _ _ _ _ _ _ hl k => lv_iinc (v := (x3 + 1)) hC.1 hC.2.1 d_D_arrowsInto_38 hl (k := 4) rfl rfl (by decide) rfl k) ?_
          refine x_go (pc' := 4) (st' := []) (fun hC _ _ _ _ _ _ hl k => lv_goto (tgt := 4) hC.1 hC.2.1 d_D_arrowsInto_41 (by decide) k) ?_
          exact x_sub (lv' := [(0, .ref a0), (1, va_rf r1), (2, .int x2), (3, .int (x3 + 1))]) [2, 3, 4, 0] rfl (ih a0 r1 x2 (x3 + 1) h1005)
        · refine x_lift (pc' := 38) (st' := []) (lv' := [(2, .int (x2 + 1)), (4, va_rf r1004), (0, .ref a0), (1, va_rf r1), (3, .int x3)]) (fun hC _ _ _ _ _ _ hl k => lv_iinc (v := (x2 + 1)) hC.1 hC.2.1 d_D_arrowsInto_35 hl (k := 3) rfl rfl (by decide) (by simp [rf_cat, cat_i, cat_l, cat_r]) k) ?_
          refine x_lift (pc' := 41) (st' := []) (lv' := [(3, .int (x3 + 1)), (2, .int (x2 + 1)), (4, va_rf r1004), (0, .ref a0), (1, va_rf r1)]) (fun hC _ _ _ _ _ _ hl k => lv_iinc (v := (x3 + 1)) hC.1 hC.2.1 d_D_arrowsInto_38 hl (k := 4) rfl rfl (by decide) rfl k) ?_
          refine x_go (pc' := 4) (st' := []) (fun hC _ _ _ _ _ _ hl k => lv_goto (tgt := 4) hC.1 hC.2.1 d_D_arrowsInto_41 (by decide) k) ?_
          exact x_sub (lv' := [(0, .ref a0), (1, va_rf r1), (2, .int (x2 + 1)), (3, .int (x3 + 1))]) [3, 4, 1, 0] rfl (ih a0 r1 (x2 + 1) (x3 + 1) h1005)
set_option maxHeartbeats 4000000 in
set_option maxRecDepth 100000 in
theorem c_D_arrowsInto (l : Launch) (B : AB) (a0 : Nat) (r1 : Option Nat) (h : AH) : CT l B y_D_arrowsInto (Cond.code y_D_arrowsInto b_D_arrowsInto 5 (Option.some Jvm.ClassFile.FieldType.int) :: lw_tt) 1 21 eI [.ref a0, va_rf r1] h (f_D_arrowsInto a0 r1 h) := by
  refine ct_of (own := o_D) (nm := "arrowsInto") (by decide +kernel) rfl rfl (by simp [lg_sl, rf_cat, cat_i, cat_l, cat_r]) (fun p e k1 k2 s m args below meth c => ?_)
  refine x_sub (lv' := [(0, .ref a0), (1, va_rf r1)]) [0, 1] (by simp [lv_pick, lv_args, rf_cat, cat_i, cat_l, cat_r]) ?_
  unfold f_D_arrowsInto
  refine x_go (pc' := 1) (st' := [.int (0 : Int32)]) (fun hC _ _ _ _ _ _ hl k => lv_iconst (v := 0) hC.1 hC.2.1 d_D_arrowsInto_0 (by decide) k) ?_
  refine x_lift (pc' := 2) (st' := []) (lv' := [(2, .int (0 : Int32)), (0, .ref a0), (1, va_rf r1)]) (fun hC _ _ _ _ _ _ hl k => lv_istore_n (i := 2) hC.1 hC.2.1 d_D_arrowsInto_1 rfl hl (by decide) (by simp [rf_cat, cat_i, cat_l, cat_r]) k) ?_
  refine x_go (pc' := 3) (st' := [.int (0 : Int32)]) (fun hC _ _ _ _ _ _ hl k => lv_iconst (v := 0) hC.1 hC.2.1 d_D_arrowsInto_2 (by decide) k) ?_
  refine x_lift (pc' := 4) (st' := []) (lv' := [(3, .int (0 : Int32)), (2, .int (0 : Int32)), (0, .ref a0), (1, va_rf r1)]) (fun hC _ _ _ _ _ _ hl k => lv_istore_n (i := 3) hC.1 hC.2.1 d_D_arrowsInto_3 rfl hl (by decide) rfl k) ?_
  exact x_sub (lv' := [(0, .ref a0), (1, va_rf r1), (2, .int (0 : Int32)), (3, .int (0 : Int32))]) [2, 3, 1, 0] rfl (x_D_arrowsInto_b4 2000 a0 r1 (0 : Int32) (0 : Int32) h)
/-! SerialDesk.look(II)I -/
theorem d_D_look_0 : decode b_D_look 0 = .ok (.iload_n 2, 1) := by decide +kernel
theorem d_D_look_1 : decode b_D_look 1 = .ok (.ifCond .lt 8, 3) := by decide +kernel
theorem d_D_look_4 : decode b_D_look 4 = .ok (.iload_n 2, 1) := by decide +kernel
theorem d_D_look_5 : decode b_D_look 5 = .ok (.iconst 5, 1) := by decide +kernel
theorem d_D_look_6 : decode b_D_look 6 = .ok (.if_icmp .le 5, 3) := by decide +kernel
theorem d_D_look_9 : decode b_D_look 9 = .ok (.iconst (-1), 1) := by decide +kernel
theorem d_D_look_10 : decode b_D_look 10 = .ok (.ireturn, 1) := by decide +kernel
theorem d_D_look_11 : decode b_D_look 11 = .ok (.aload_n 0, 1) := by decide +kernel
theorem d_D_look_12 : decode b_D_look 12 = .ok (.iload_n 1, 1) := by decide +kernel
theorem d_D_look_13 : decode b_D_look 13 = .ok (.invokevirtual 99, 3) := by decide +kernel
theorem d_D_look_16 : decode b_D_look 16 = .ok (.astore_n 3, 1) := by decide +kernel
theorem d_D_look_17 : decode b_D_look 17 = .ok (.aload_n 3, 1) := by decide +kernel
theorem d_D_look_18 : decode b_D_look 18 = .ok (.ifnonnull 5, 3) := by decide +kernel
theorem d_D_look_21 : decode b_D_look 21 = .ok (.iconst 0, 1) := by decide +kernel
theorem d_D_look_22 : decode b_D_look 22 = .ok (.ireturn, 1) := by decide +kernel
theorem d_D_look_23 : decode b_D_look 23 = .ok (.iload_n 2, 1) := by decide +kernel
theorem d_D_look_24 : decode b_D_look 24 = .ok (.tableswitch 77 0 4 #[36, 49, 62, 67, 72], 36) := by decide +kernel
theorem d_D_look_60 : decode b_D_look 60 = .ok (.aload_n 3, 1) := by decide +kernel
theorem d_D_look_61 : decode b_D_look 61 = .ok (.invokevirtual 117, 3) := by decide +kernel
theorem d_D_look_64 : decode b_D_look 64 = .ok (.ifCond .eq 7, 3) := by decide +kernel
theorem d_D_look_67 : decode b_D_look 67 = .ok (.iconst 1, 1) := by decide +kernel
theorem d_D_look_68 : decode b_D_look 68 = .ok (.goto 4, 3) := by decide +kernel
theorem d_D_look_71 : decode b_D_look 71 = .ok (.iconst 2, 1) := by decide +kernel
theorem d_D_look_72 : decode b_D_look 72 = .ok (.ireturn, 1) := by decide +kernel
theorem d_D_look_73 : decode b_D_look 73 = .ok (.aload_n 3, 1) := by decide +kernel
theorem d_D_look_74 : decode b_D_look 74 = .ok (.getfield 95, 3) := by decide +kernel
theorem d_D_look_77 : decode b_D_look 77 = .ok (.ifCond .eq 7, 3) := by decide +kernel
theorem d_D_look_80 : decode b_D_look 80 = .ok (.iconst 1, 1) := by decide +kernel
theorem d_D_look_81 : decode b_D_look 81 = .ok (.goto 4, 3) := by decide +kernel
theorem d_D_look_84 : decode b_D_look 84 = .ok (.iconst 0, 1) := by decide +kernel
theorem d_D_look_85 : decode b_D_look 85 = .ok (.ireturn, 1) := by decide +kernel
theorem d_D_look_86 : decode b_D_look 86 = .ok (.aload_n 3, 1) := by decide +kernel
theorem d_D_look_87 : decode b_D_look 87 = .ok (.getfield 121, 3) := by decide +kernel
theorem d_D_look_90 : decode b_D_look 90 = .ok (.ireturn, 1) := by decide +kernel
theorem d_D_look_91 : decode b_D_look 91 = .ok (.aload_n 3, 1) := by decide +kernel
theorem d_D_look_92 : decode b_D_look 92 = .ok (.getfield 105, 3) := by decide +kernel
theorem d_D_look_95 : decode b_D_look 95 = .ok (.ireturn, 1) := by decide +kernel
theorem d_D_look_96 : decode b_D_look 96 = .ok (.aload_n 3, 1) := by decide +kernel
theorem d_D_look_97 : decode b_D_look 97 = .ok (.getfield 124, 3) := by decide +kernel
theorem d_D_look_100 : decode b_D_look 100 = .ok (.ireturn, 1) := by decide +kernel
theorem d_D_look_101 : decode b_D_look 101 = .ok (.aload_n 0, 1) := by decide +kernel
theorem d_D_look_102 : decode b_D_look 102 = .ok (.aload_n 3, 1) := by decide +kernel
theorem d_D_look_103 : decode b_D_look 103 = .ok (.invokevirtual 127, 3) := by decide +kernel
theorem d_D_look_106 : decode b_D_look 106 = .ok (.ireturn, 1) := by decide +kernel
abbrev X_D_look (p : Program) (l : Launch) (e : Env) (k1 k2 : Nat) (s : State) (m : MethodId) (args : Array Value) (below : List Frame) (meth : Method) (c : Code) (B : AB) (n0 m0 : Nat) (h : AH) (pc : Nat) (lv : List (Nat × Value)) (st : List Value) (comp : Option (Int32 × AH)) : Prop := XX p l e { frames := 2, cells := k1, slots := k2, locals := 45 } s m args below meth c b_D_look o_D lw_tt 4 (Option.some Jvm.ClassFile.FieldType.int) "look" B n0 m0 (QM B below args s { frames := 2, cells := k1, slots := k2, locals := 45 } eI) h pc lv st comp
def f_D_look (a0 : Nat) (x1 : Int32) (x2 : Int32) (h : AH) : Option (Int32 × AH) := (if x2 < 0 then some ((-1 : Int32), h) else (if x2 ≤ (5 : Int32) then rcv h 3 (some a0) (fun b103 => bnd (f_D_keptWithId b103 x1 h) (fun r102 h101 => (if r102 = none then some ((0 : Int32), h101) else (if x2 = 0 then rcv h101 1 r102 (fun b106 => bnd (f_T_isRunning b106 h101) (fun x105 h104 => (if x105 = 0 then some ((2 : Int32), h104) else some ((1 : Int32), h104)))) else (if x2 = 1 then (fI h101 1 4 r102).bind (fun x107 => (if x107 = 0 then some ((0 : Int32), h101) else some ((1 : Int32), h101))) else (if x2 = 2 then (fI h101 1 2 r102).bind (fun x108 => some (x108, h101)) else (if x2 = 3 then (fI h101 1 3 r102).bind (fun x109 => some (x109, h101)) else (if x2 = 4 then (fI h101 1 6 r102).bind (fun x110 => some (x110, h101)) else rcv h101 3 (some a0) (fun b113 => bnd (f_D_arrowsInto b113 r102 h101) (fun x112 h111 => some (x112, h111))))))))))) else some ((-1 : Int32), h)))
set_option maxHeartbeats 4000000 in
set_option maxRecDepth 100000 in
theorem c_D_look (l : Launch) (B : AB) (a0 : Nat) (x1 : Int32) (x2 : Int32) (h : AH) : CT l B y_D_look (Cond.code y_D_look b_D_look 4 (Option.some Jvm.ClassFile.FieldType.int) :: lw_tt) 2 45 eI [.ref a0, .int x1, .int x2] h (f_D_look a0 x1 x2 h) := by
  refine ct_of (own := o_D) (nm := "look") (by decide +kernel) rfl rfl (Nat.le_of_ble_eq_true rfl) (fun p e k1 k2 s m args below meth c => ?_)
  refine x_sub (lv' := [(0, .ref a0), (1, .int x1), (2, .int x2)]) [0, 1, 2] rfl ?_
  unfold f_D_look
  refine x_go (pc' := 1) (st' := [.int x2]) (fun hC _ _ _ _ _ _ hl k => lv_iload_n hC.1 hC.2.1 d_D_look_0 rfl (lv_at hl 2 rfl) k) ?_
  refine x_if (P := x2 < 0) (pt := 9) (pf := 4) (st' := []) (fun hC _ _ _ _ _ _ kt kf => lv_if_lt (tgt := 9) hC.1 hC.2.1 d_D_look_1 (by decide) kt kf) ?_ ?_
  · refine x_go (pc' := 10) (st' := [.int (-1 : Int32)]) (fun hC _ _ _ _ _ _ hl k => lv_iconst (v := -1) hC.1 hC.2.1 d_D_look_9 (by decide) k) ?_
    exact x_iret d_D_look_10
  · refine x_go (pc' := 5) (st' := [.int x2]) (fun hC _ _ _ _ _ _ hl k => lv_iload_n hC.1 hC.2.1 d_D_look_4 rfl (lv_at hl 2 rfl) k) ?_
    refine x_go (pc' := 6) (st' := [.int (5 : Int32), .int x2]) (fun hC _ _ _ _ _ _ hl k => lv_iconst (v := 5) hC.1 hC.2.1 d_D_look_5 (by decide) k) ?_
    refine x_if (P := x2 ≤ (5 : Int32)) (pt := 11) (pf := 9) (st' := []) (fun hC _ _ _ _ _ _ kt kf => lv_icmp_le (tgt := 11) hC.1 hC.2.1 d_D_look_6 (by decide) kt kf) ?_ ?_
    · refine x_go (pc' := 12) (st' := [.ref a0]) (fun hC _ _ _ _ _ _ hl k => lv_aload_n hC.1 hC.2.1 d_D_look_11 rfl (lv_at hl 0 rfl) k) ?_
      refine x_go (pc' := 13) (st' := [.int x1, .ref a0]) (fun hC _ _ _ _ _ _ hl k => lv_iload_n hC.1 hC.2.1 d_D_look_12 rfl (lv_at hl 1 rfl) k) ?_
      refine x_recv (ci := 3) (r := (some a0)) (fun b103 _ eb103 gb103 => ?_)
      refine x_callR (rest := []) (c_D_keptWithId l B b103 x1 h) (fun hC => fun e1 e2 e3 e4 hM => fun hR hsz hc hs => run_V (n := 1) hC lw_good rfl rfl tw_237 tw_239 tv_6 tw_1 tw_240 (by decide) d_D_look_13 gb103 (by rw [e1]; exact Nat.le_of_ble_eq_true rfl) (by rw [e2]; exact Nat.le_of_ble_eq_true rfl) e3 e4 hM hR hsz hc hs rfl (by cases eb103; rfl) (Nat.le_of_ble_eq_true rfl)) (fun r102 h101 => ?_)
      refine x_lift (pc' := 17) (st' := []) (lv' := [(3, va_rf r102), (0, .ref a0), (1, .int x1), (2, .int x2)]) (fun hC _ _ _ _ _ _ hl k => lv_astore_nq (r := r102) (i := 3) hC.1 hC.2.1 d_D_look_16 rfl hl (by decide) rfl k) ?_
      refine x_go (pc' := 18) (st' := [va_rf r102]) (fun hC _ _ _ _ _ _ hl k => lv_aload_nq (r := r102) hC.1 hC.2.1 d_D_look_17 rfl (lv_at hl 0 rfl) k) ?_
      refine x_if (P := r102 = none) (pt := 21) (pf := 23) (st' := []) (fun hC _ _ _ _ _ _ kt kf => lv_ifnonnull_q (r := r102) (tgt := 23) hC.1 hC.2.1 d_D_look_18 (by decide) kt kf) ?_ ?_
      · refine x_go (pc' := 22) (st' := [.int (0 : Int32)]) (fun hC _ _ _ _ _ _ hl k => lv_iconst (v := 0) hC.1 hC.2.1 d_D_look_21 (by decide) k) ?_
        exact x_iret d_D_look_22
      · refine x_go (pc' := 24) (st' := [.int x2]) (fun hC _ _ _ _ _ _ hl k => lv_iload_n hC.1 hC.2.1 d_D_look_23 rfl (lv_at hl 3 rfl) k) ?_
        refine x_split (P := x2 = 0) (fun ec => ?_) (fun ed0 => ?_)
        · refine x_go (pc' := 60) (st' := []) (fun hC _ _ _ _ _ _ hl k => lv_tableIn (tgt := 60) hC.1 hC.2.1 d_D_look_24 (by rw [ec]; decide) (by rw [ec]; decide) (by rw [ec]; rfl) (by decide) k) ?_
          refine x_go (pc' := 61) (st' := [va_rf r102]) (fun hC _ _ _ _ _ _ hl k => lv_aload_nq (r := r102) hC.1 hC.2.1 d_D_look_60 rfl (lv_at hl 0 rfl) k) ?_
          refine x_recv (ci := 1) (r := r102) (fun b106 _ eb106 gb106 => ?_)
          refine x_callI (rest := []) (c_T_isRunning l B b106 h101) (fun hC => fun e1 e2 e3 e4 hM => fun hR hsz hc hs => run_V (n := 0) hC lw_good rfl rfl tw_245 tw_190 tw_191 tw_4 tw_192 (by decide) d_D_look_61 gb106 (by rw [e1]; exact Nat.le_of_ble_eq_true rfl) (by rw [e2]; exact Nat.le_of_ble_eq_true rfl) e3 e4 hM hR hsz hc hs rfl (by cases eb106; rfl) (Nat.le_of_ble_eq_true rfl)) (fun x105 h104 => ?_)
          refine x_if (P := x105 = 0) (pt := 71) (pf := 67) (st' := []) (fun hC _ _ _ _ _ _ kt kf => lv_if_eq (tgt := 71) hC.1 hC.2.1 d_D_look_64 (by decide) kt kf) ?_ ?_
          · refine x_go (pc' := 72) (st' := [.int (2 : Int32)]) (fun hC _ _ _ _ _ _ hl k => lv_iconst (v := 2) hC.1 hC.2.1 d_D_look_71 (by decide) k) ?_
            exact x_iret d_D_look_72
          · refine x_go (pc' := 68) (st' := [.int (1 : Int32)]) (fun hC _ _ _ _ _ _ hl k => lv_iconst (v := 1) hC.1 hC.2.1 d_D_look_67 (by decide) k) ?_
            refine x_go (pc' := 72) (st' := [.int (1 : Int32)]) (fun hC _ _ _ _ _ _ hl k => lv_goto (tgt := 72) hC.1 hC.2.1 d_D_look_68 (by decide) k) ?_
            exact x_iret d_D_look_72
        refine x_split (P := x2 = 1) (fun ec => ?_) (fun ed1 => ?_)
        · refine x_go (pc' := 73) (st' := []) (fun hC _ _ _ _ _ _ hl k => lv_tableIn (tgt := 73) hC.1 hC.2.1 d_D_look_24 (by rw [ec]; decide) (by rw [ec]; decide) (by rw [ec]; rfl) (by decide) k) ?_
          refine x_go (pc' := 74) (st' := [va_rf r102]) (fun hC _ _ _ _ _ _ hl k => lv_aload_nq (r := r102) hC.1 hC.2.1 d_D_look_73 rfl (lv_at hl 0 rfl) k) ?_
          refine x_getI (ci := 1) (kf := 4) (r := r102) (fun hC => w_getN (host := "SerialDesk") hC iw_1 rfl 4 (by decide) (List.mem_of_getElem? (i := 3) rfl) rfl d_D_look_74) (fun x107 => ?_)
          refine x_if (P := x107 = 0) (pt := 84) (pf := 80) (st' := []) (fun hC _ _ _ _ _ _ kt kf => lv_if_eq (tgt := 84) hC.1 hC.2.1 d_D_look_77 (by decide) kt kf) ?_ ?_
          · refine x_go (pc' := 85) (st' := [.int (0 : Int32)]) (fun hC _ _ _ _ _ _ hl k => lv_iconst (v := 0) hC.1 hC.2.1 d_D_look_84 (by decide) k) ?_
            exact x_iret d_D_look_85
          · refine x_go (pc' := 81) (st' := [.int (1 : Int32)]) (fun hC _ _ _ _ _ _ hl k => lv_iconst (v := 1) hC.1 hC.2.1 d_D_look_80 (by decide) k) ?_
            refine x_go (pc' := 85) (st' := [.int (1 : Int32)]) (fun hC _ _ _ _ _ _ hl k => lv_goto (tgt := 85) hC.1 hC.2.1 d_D_look_81 (by decide) k) ?_
            exact x_iret d_D_look_85
        refine x_split (P := x2 = 2) (fun ec => ?_) (fun ed2 => ?_)
        · refine x_go (pc' := 86) (st' := []) (fun hC _ _ _ _ _ _ hl k => lv_tableIn (tgt := 86) hC.1 hC.2.1 d_D_look_24 (by rw [ec]; decide) (by rw [ec]; decide) (by rw [ec]; rfl) (by decide) k) ?_
          refine x_go (pc' := 87) (st' := [va_rf r102]) (fun hC _ _ _ _ _ _ hl k => lv_aload_nq (r := r102) hC.1 hC.2.1 d_D_look_86 rfl (lv_at hl 0 rfl) k) ?_
          refine x_getI (ci := 1) (kf := 2) (r := r102) (fun hC => w_getN (host := "SerialDesk") hC iw_1 rfl 2 (by decide) (List.mem_of_getElem? (i := 5) rfl) rfl d_D_look_87) (fun x108 => ?_)
          exact x_iret d_D_look_90
        refine x_split (P := x2 = 3) (fun ec => ?_) (fun ed3 => ?_)
        · refine x_go (pc' := 91) (st' := []) (fun hC _ _ _ _ _ _ hl k => lv_tableIn (tgt := 91) hC.1 hC.2.1 d_D_look_24 (by rw [ec]; decide) (by rw [ec]; decide) (by rw [ec]; rfl) (by decide) k) ?_
          refine x_go (pc' := 92) (st' := [va_rf r102]) (fun hC _ _ _ _ _ _ hl k => lv_aload_nq (r := r102) hC.1 hC.2.1 d_D_look_91 rfl (lv_at hl 0 rfl) k) ?_
          refine x_getI (ci := 1) (kf := 3) (r := r102) (fun hC => w_getN (host := "SerialDesk") hC iw_1 rfl 3 (by decide) (List.mem_of_getElem? (i := 4) rfl) rfl d_D_look_92) (fun x109 => ?_)
          exact x_iret d_D_look_95
        refine x_split (P := x2 = 4) (fun ec => ?_) (fun ed4 => ?_)
        · refine x_go (pc' := 96) (st' := []) (fun hC _ _ _ _ _ _ hl k => lv_tableIn (tgt := 96) hC.1 hC.2.1 d_D_look_24 (by rw [ec]; decide) (by rw [ec]; decide) (by rw [ec]; rfl) (by decide) k) ?_
          refine x_go (pc' := 97) (st' := [va_rf r102]) (fun hC _ _ _ _ _ _ hl k => lv_aload_nq (r := r102) hC.1 hC.2.1 d_D_look_96 rfl (lv_at hl 0 rfl) k) ?_
          refine x_getI (ci := 1) (kf := 6) (r := r102) (fun hC => w_getN (host := "SerialDesk") hC iw_1 rfl 6 (by decide) (List.mem_of_getElem? (i := 2) rfl) rfl d_D_look_97) (fun x110 => ?_)
          exact x_iret d_D_look_100
        refine x_go (pc' := 101) (st' := []) (fun hC _ _ _ _ _ _ hl k => lv_tableOut (tgt := 101) hC.1 hC.2.1 d_D_look_24 (by have := lv_neT (a := 0) ed0 (by decide); have := lv_neT (a := 1) ed1 (by decide); have := lv_neT (a := 2) ed2 (by decide); have := lv_neT (a := 3) ed3 (by decide); have := lv_neT (a := 4) ed4 (by decide); omega) (by decide) k) ?_
        refine x_go (pc' := 102) (st' := [.ref a0]) (fun hC _ _ _ _ _ _ hl k => lv_aload_n hC.1 hC.2.1 d_D_look_101 rfl (lv_at hl 1 rfl) k) ?_
        refine x_go (pc' := 103) (st' := [va_rf r102, .ref a0]) (fun hC _ _ _ _ _ _ hl k => lv_aload_nq (r := r102) hC.1 hC.2.1 d_D_look_102 rfl (lv_at hl 0 rfl) k) ?_
        refine x_recv (ci := 3) (r := (some a0)) (fun b113 _ eb113 gb113 => ?_)
        refine x_callI (rest := []) (c_D_arrowsInto l B b113 r102 h101) (fun hC => fun e1 e2 e3 e4 hM => fun hR hsz hc hs => run_V (n := 1) hC lw_good rfl rfl tw_292 tw_294 tv_13 tw_1 tw_295 (by decide) d_D_look_103 gb113 (by rw [e1]; exact Nat.le_of_ble_eq_true rfl) (by rw [e2]; exact Nat.le_of_ble_eq_true rfl) e3 e4 hM hR hsz hc hs rfl (by cases eb113; rfl) (Nat.le_of_ble_eq_true rfl)) (fun x112 h111 => ?_)
        exact x_iret d_D_look_106
    · refine x_go (pc' := 10) (st' := [.int (-1 : Int32)]) (fun hC _ _ _ _ _ _ hl k => lv_iconst (v := -1) hC.1 hC.2.1 d_D_look_9 (by decide) k) ?_
      exact x_iret d_D_look_10
/-! SerialDesk.arrow(II)Z -/
theorem d_D_arrow_0 : decode b_D_arrow 0 = .ok (.aload_n 0, 1) := by decide +kernel
theorem d_D_arrow_1 : decode b_D_arrow 1 = .ok (.iload_n 1, 1) := by decide +kernel
theorem d_D_arrow_2 : decode b_D_arrow 2 = .ok (.invokevirtual 99, 3) := by decide +kernel
theorem d_D_arrow_5 : decode b_D_arrow 5 = .ok (.astore_n 3, 1) := by decide +kernel
theorem d_D_arrow_6 : decode b_D_arrow 6 = .ok (.aload_n 0, 1) := by decide +kernel
theorem d_D_arrow_7 : decode b_D_arrow 7 = .ok (.iload_n 2, 1) := by decide +kernel
theorem d_D_arrow_8 : decode b_D_arrow 8 = .ok (.invokevirtual 99, 3) := by decide +kernel
theorem d_D_arrow_11 : decode b_D_arrow 11 = .ok (.astore 4, 2) := by decide +kernel
theorem d_D_arrow_13 : decode b_D_arrow 13 = .ok (.aload_n 3, 1) := by decide +kernel
theorem d_D_arrow_14 : decode b_D_arrow 14 = .ok (.ifnull 21, 3) := by decide +kernel
theorem d_D_arrow_17 : decode b_D_arrow 17 = .ok (.aload 4, 2) := by decide +kernel
theorem d_D_arrow_19 : decode b_D_arrow 19 = .ok (.ifnull 16, 3) := by decide +kernel
theorem d_D_arrow_22 : decode b_D_arrow 22 = .ok (.aload_n 3, 1) := by decide +kernel
theorem d_D_arrow_23 : decode b_D_arrow 23 = .ok (.aload 4, 2) := by decide +kernel
theorem d_D_arrow_25 : decode b_D_arrow 25 = .ok (.invokevirtual 131, 3) := by decide +kernel
theorem d_D_arrow_28 : decode b_D_arrow 28 = .ok (.ifCond .eq 7, 3) := by decide +kernel
theorem d_D_arrow_31 : decode b_D_arrow 31 = .ok (.iconst 1, 1) := by decide +kernel
theorem d_D_arrow_32 : decode b_D_arrow 32 = .ok (.goto 4, 3) := by decide +kernel
theorem d_D_arrow_35 : decode b_D_arrow 35 = .ok (.iconst 0, 1) := by decide +kernel
theorem d_D_arrow_36 : decode b_D_arrow 36 = .ok (.ireturn, 1) := by decide +kernel
abbrev X_D_arrow (p : Program) (l : Launch) (e : Env) (k1 k2 : Nat) (s : State) (m : MethodId) (args : Array Value) (below : List Frame) (meth : Method) (c : Code) (B : AB) (n0 m0 : Nat) (h : AH) (pc : Nat) (lv : List (Nat × Value)) (st : List Value) (comp : Option (Int32 × AH)) : Prop := XX p l e { frames := 1, cells := k1, slots := k2, locals := 23 } s m args below meth c b_D_arrow o_D lw_tt 5 (Option.some Jvm.ClassFile.FieldType.boolean) "arrow" B n0 m0 (QM B below args s { frames := 1, cells := k1, slots := k2, locals := 23 } eI) h pc lv st comp
def f_D_arrow (a0 : Nat) (x1 : Int32) (x2 : Int32) (h : AH) : Option (Int32 × AH) := rcv h 3 (some a0) (fun b103 => bnd (f_D_keptWithId b103 x1 h) (fun r102 h101 => rcv h101 3 (some a0) (fun b106 => bnd (f_D_keptWithId b106 x2 h101) (fun r105 h104 => (if r102 = none then rZ (0 : Int32) h104 else (if r105 = none then rZ (0 : Int32) h104 else rcv h104 1 r102 (fun b109 => bnd (f_T_pointsAt b109 r105 h104) (fun x108 h107 => (if x108 = 0 then rZ (0 : Int32) h107 else rZ (1 : Int32) h107)))))))))
set_option maxHeartbeats 4000000 in
set_option maxRecDepth 100000 in
theorem c_D_arrow (l : Launch) (B : AB) (a0 : Nat) (x1 : Int32) (x2 : Int32) (h : AH) : CT l B y_D_arrow (Cond.code y_D_arrow b_D_arrow 5 (Option.some Jvm.ClassFile.FieldType.boolean) :: lw_tt) 1 23 eI [.ref a0, .int x1, .int x2] h (f_D_arrow a0 x1 x2 h) := by
  refine ct_of (own := o_D) (nm := "arrow") (by decide +kernel) rfl rfl (Nat.le_of_ble_eq_true rfl) (fun p e k1 k2 s m args below meth c => ?_)
  refine x_sub (lv' := [(0, .ref a0), (1, .int x1), (2, .int x2)]) [0, 1, 2] rfl ?_
  unfold f_D_arrow
  refine x_go (pc' := 1) (st' := [.ref a0]) (fun hC _ _ _ _ _ _ hl k => lv_aload_n hC.1 hC.2.1 d_D_arrow_0 rfl (lv_at hl 0 rfl) k) ?_
  refine x_go (pc' := 2) (st' := [.int x1, .ref a0]) (fun hC _ _ _ _ _ _ hl k => lv_iload_n hC.1 hC.2.1 d_D_arrow_1 rfl (lv_at hl 1 rfl) k) ?_
  refine x_recv (ci := 3) (r := (some a0)) (fun b103 _ eb103 gb103 => ?_)
  refine x_callR (rest := []) (c_D_keptWithId l B b103 x1 h) (fun hC => fun e1 e2 e3 e4 hM => fun hR hsz hc hs => run_V (n := 1) hC lw_good rfl rfl tw_237 tw_239 tv_6 tw_1 tw_240 (by decide) d_D_arrow_2 gb103 (by rw [e1]; exact Nat.le_of_ble_eq_true rfl) (by rw [e2]; exact Nat.le_of_ble_eq_true rfl) e3 e4 hM hR hsz hc hs rfl (by cases eb103; rfl) (Nat.le_of_ble_eq_true rfl)) (fun r102 h101 => ?_)
  refine x_lift (pc' := 6) (st' := []) (lv' := [(3, va_rf r102), (0, .ref a0), (1, .int x1), (2, .int x2)]) (fun hC _ _ _ _ _ _ hl k => lv_astore_nq (r := r102) (i := 3) hC.1 hC.2.1 d_D_arrow_5 rfl hl (by decide) rfl k) ?_
  refine x_go (pc' := 7) (st' := [.ref a0]) (fun hC _ _ _ _ _ _ hl k => lv_aload_n hC.1 hC.2.1 d_D_arrow_6 rfl (lv_at hl 1 rfl) k) ?_
  refine x_go (pc' := 8) (st' := [.int x2, .ref a0]) (fun hC _ _ _ _ _ _ hl k => lv_iload_n hC.1 hC.2.1 d_D_arrow_7 rfl (lv_at hl 3 rfl) k) ?_
  refine x_recv (ci := 3) (r := (some a0)) (fun b106 _ eb106 gb106 => ?_)
  refine x_callR (rest := []) (c_D_keptWithId l B b106 x2 h101) (fun hC => fun e1 e2 e3 e4 hM => fun hR hsz hc hs => run_V (n := 1) hC lw_good rfl rfl tw_237 tw_239 tv_6 tw_1 tw_240 (by decide) d_D_arrow_8 gb106 (by rw [e1]; exact Nat.le_of_ble_eq_true rfl) (by rw [e2]; exact Nat.le_of_ble_eq_true rfl) e3 e4 hM hR hsz hc hs rfl (by cases eb106; rfl) (Nat.le_of_ble_eq_true rfl)) (fun r105 h104 => ?_)
  refine x_lift (pc' := 13) (st' := []) (lv' := [(4, va_rf r105), (3, va_rf r102), (0, .ref a0), (1, .int x1), (2, .int x2)]) (fun hC _ _ _ _ _ _ hl k => lv_astore_q (r := r105) (i := 4) hC.1 hC.2.1 d_D_arrow_11 hl (by decide) (by simp [rf_cat, cat_i, cat_l, cat_r]) k) ?_
  refine x_go (pc' := 14) (st' := [va_rf r102]) (fun hC _ _ _ _ _ _ hl k => lv_aload_nq (r := r102) hC.1 hC.2.1 d_D_arrow_13 rfl (lv_at hl 1 rfl) k) ?_
  refine x_if (P := r102 = none) (pt := 35) (pf := 17) (st' := []) (fun hC _ _ _ _ _ _ kt kf => lv_ifnull_q (r := r102) (tgt := 35) hC.1 hC.2.1 d_D_arrow_14 (by decide) kt kf) ?_ ?_
  · refine x_go (pc' := 36) (st' := [.int (0 : Int32)]) (fun hC _ _ _ _ _ _ hl k => lv_iconst (v := 0) hC.1 hC.2.1 d_D_arrow_35 (by decide) k) ?_
    exact x_zret d_D_arrow_36
  · refine x_go (pc' := 19) (st' := [va_rf r105]) (fun hC _ _ _ _ _ _ hl k => lv_aload_q (r := r105) hC.1 hC.2.1 d_D_arrow_17 (lv_at hl 0 rfl) k) ?_
    refine x_if (P := r105 = none) (pt := 35) (pf := 22) (st' := []) (fun hC _ _ _ _ _ _ kt kf => lv_ifnull_q (r := r105) (tgt := 35) hC.1 hC.2.1 d_D_arrow_19 (by decide) kt kf) ?_ ?_
    · refine x_go (pc' := 36) (st' := [.int (0 : Int32)]) (fun hC _ _ _ _ _ _ hl k => lv_iconst (v := 0) hC.1 hC.2.1 d_D_arrow_35 (by decide) k) ?_
      exact x_zret d_D_arrow_36
    · refine x_go (pc' := 23) (st' := [va_rf r102]) (fun hC _ _ _ _ _ _ hl k => lv_aload_nq (r := r102) hC.1 hC.2.1 d_D_arrow_22 rfl (lv_at hl 1 rfl) k) ?_
      refine x_go (pc' := 25) (st' := [va_rf r105, va_rf r102]) (fun hC _ _ _ _ _ _ hl k => lv_aload_q (r := r105) hC.1 hC.2.1 d_D_arrow_23 (lv_at hl 0 rfl) k) ?_
      refine x_recv (ci := 1) (r := r102) (fun b109 _ eb109 gb109 => ?_)
      refine x_callI (rest := []) (c_T_pointsAt l B b109 r105 h104) (fun hC => fun e1 e2 e3 e4 hM => fun hR hsz hc hs => run_V (n := 1) hC lw_good rfl rfl tw_250 tw_251 tw_252 tw_4 tw_253 (by decide) d_D_arrow_25 gb109 (by rw [e1]; exact Nat.le_of_ble_eq_true rfl) (by rw [e2]; exact Nat.le_of_ble_eq_true rfl) e3 e4 hM hR hsz hc hs rfl (by cases eb109; rfl) (Nat.le_of_ble_eq_true rfl)) (fun x108 h107 => ?_)
      refine x_if (P := x108 = 0) (pt := 35) (pf := 31) (st' := []) (fun hC _ _ _ _ _ _ kt kf => lv_if_eq (tgt := 35) hC.1 hC.2.1 d_D_arrow_28 (by decide) kt kf) ?_ ?_
      · refine x_go (pc' := 36) (st' := [.int (0 : Int32)]) (fun hC _ _ _ _ _ _ hl k => lv_iconst (v := 0) hC.1 hC.2.1 d_D_arrow_35 (by decide) k) ?_
        exact x_zret d_D_arrow_36
      · refine x_go (pc' := 32) (st' := [.int (1 : Int32)]) (fun hC _ _ _ _ _ _ hl k => lv_iconst (v := 1) hC.1 hC.2.1 d_D_arrow_31 (by decide) k) ?_
        refine x_go (pc' := 36) (st' := [.int (1 : Int32)]) (fun hC _ _ _ _ _ _ hl k => lv_goto (tgt := 36) hC.1 hC.2.1 d_D_arrow_32 (by decide) k) ?_
        exact x_zret d_D_arrow_36
/-! SerialDesk.rings()I -/
theorem d_D_rings_0 : decode b_D_rings 0 = .ok (.iconst 0, 1) := by decide +kernel
theorem d_D_rings_1 : decode b_D_rings 1 = .ok (.ireturn, 1) := by decide +kernel
abbrev X_D_rings (p : Program) (l : Launch) (e : Env) (k1 k2 : Nat) (s : State) (m : MethodId) (args : Array Value) (below : List Frame) (meth : Method) (c : Code) (B : AB) (n0 m0 : Nat) (h : AH) (pc : Nat) (lv : List (Nat × Value)) (st : List Value) (comp : Option (Int32 × AH)) : Prop := XX p l e { frames := 0, cells := k1, slots := k2, locals := 0 } s m args below meth c b_D_rings o_D lw_tt 1 (Option.some Jvm.ClassFile.FieldType.int) "rings" B n0 m0 (QM B below args s { frames := 0, cells := k1, slots := k2, locals := 0 } eI) h pc lv st comp
def f_D_rings (a0 : Nat) (h : AH) : Option (Int32 × AH) := some ((0 : Int32), h)
set_option maxHeartbeats 4000000 in
set_option maxRecDepth 100000 in
theorem c_D_rings (l : Launch) (B : AB) (a0 : Nat) (h : AH) : CT l B y_D_rings (Cond.code y_D_rings b_D_rings 1 (Option.some Jvm.ClassFile.FieldType.int) :: lw_tt) 0 0 eI [.ref a0] h (f_D_rings a0 h) := by
  refine ct_of (own := o_D) (nm := "rings") (by decide +kernel) rfl rfl (Nat.le_of_ble_eq_true rfl) (fun p e k1 k2 s m args below meth c => ?_)
  refine x_sub (lv' := [(0, .ref a0)]) [0] rfl ?_
  unfold f_D_rings
  refine x_go (pc' := 1) (st' := [.int (0 : Int32)]) (fun hC _ _ _ _ _ _ hl k => lv_iconst (v := 0) hC.1 hC.2.1 d_D_rings_0 (by decide) k) ?_
  exact x_iret d_D_rings_1
/-! SerialDesk.count(I)I -/
theorem d_D_count_0 : decode b_D_count 0 = .ok (.iload_n 1, 1) := by decide +kernel
theorem d_D_count_1 : decode b_D_count 1 = .ok (.tableswitch 42 0 2 #[27, 32, 37], 27) := by decide +kernel
theorem d_D_count_28 : decode b_D_count 28 = .ok (.aload_n 0, 1) := by decide +kernel
theorem d_D_count_29 : decode b_D_count 29 = .ok (.getfield 25, 3) := by decide +kernel
theorem d_D_count_32 : decode b_D_count 32 = .ok (.ireturn, 1) := by decide +kernel
theorem d_D_count_33 : decode b_D_count 33 = .ok (.aload_n 0, 1) := by decide +kernel
theorem d_D_count_34 : decode b_D_count 34 = .ok (.getfield 29, 3) := by decide +kernel
theorem d_D_count_37 : decode b_D_count 37 = .ok (.ireturn, 1) := by decide +kernel
theorem d_D_count_38 : decode b_D_count 38 = .ok (.aload_n 0, 1) := by decide +kernel
theorem d_D_count_39 : decode b_D_count 39 = .ok (.getfield 32, 3) := by decide +kernel
theorem d_D_count_42 : decode b_D_count 42 = .ok (.ireturn, 1) := by decide +kernel
theorem d_D_count_43 : decode b_D_count 43 = .ok (.iconst (-1), 1) := by decide +kernel
theorem d_D_count_44 : decode b_D_count 44 = .ok (.ireturn, 1) := by decide +kernel
abbrev X_D_count (p : Program) (l : Launch) (e : Env) (k1 k2 : Nat) (s : State) (m : MethodId) (args : Array Value) (below : List Frame) (meth : Method) (c : Code) (B : AB) (n0 m0 : Nat) (h : AH) (pc : Nat) (lv : List (Nat × Value)) (st : List Value) (comp : Option (Int32 × AH)) : Prop := XX p l e { frames := 0, cells := k1, slots := k2, locals := 0 } s m args below meth c b_D_count o_D lw_tt 2 (Option.some Jvm.ClassFile.FieldType.int) "count" B n0 m0 (QM B below args s { frames := 0, cells := k1, slots := k2, locals := 0 } eI) h pc lv st comp
def f_D_count (a0 : Nat) (x1 : Int32) (h : AH) : Option (Int32 × AH) := (if x1 = 0 then (fI h 3 3 (some a0)).bind (fun x101 => some (x101, h)) else (if x1 = 1 then (fI h 3 4 (some a0)).bind (fun x102 => some (x102, h)) else (if x1 = 2 then (fI h 3 5 (some a0)).bind (fun x103 => some (x103, h)) else some ((-1 : Int32), h))))
set_option maxHeartbeats 4000000 in
set_option maxRecDepth 100000 in
theorem c_D_count (l : Launch) (B : AB) (a0 : Nat) (x1 : Int32) (h : AH) : CT l B y_D_count (Cond.code y_D_count b_D_count 2 (Option.some Jvm.ClassFile.FieldType.int) :: lw_tt) 0 0 eI [.ref a0, .int x1] h (f_D_count a0 x1 h) := by
  refine ct_of (own := o_D) (nm := "count") (by decide +kernel) rfl rfl (Nat.le_of_ble_eq_true rfl) (fun p e k1 k2 s m args below meth c => ?_)
  refine x_sub (lv' := [(0, .ref a0), (1, .int x1)]) [0, 1] rfl ?_
  unfold f_D_count
  refine x_go (pc' := 1) (st' := [.int x1]) (fun hC _ _ _ _ _ _ hl k => lv_iload_n hC.1 hC.2.1 d_D_count_0 rfl (lv_at hl 1 rfl) k) ?_
  refine x_split (P := x1 = 0) (fun ec => ?_) (fun ed0 => ?_)
  · refine x_go (pc' := 28) (st' := []) (fun hC _ _ _ _ _ _ hl k => lv_tableIn (tgt := 28) hC.1 hC.2.1 d_D_count_1 (by rw [ec]; decide) (by rw [ec]; decide) (by rw [ec]; rfl) (by decide) k) ?_
    refine x_go (pc' := 29) (st' := [.ref a0]) (fun hC _ _ _ _ _ _ hl k => lv_aload_n hC.1 hC.2.1 d_D_count_28 rfl (lv_at hl 0 rfl) k) ?_
    refine x_getI (ci := 3) (kf := 3) (r := (some a0)) (fun hC => w_get hC iw_3 rfl 3 (by decide) tw_34 rfl d_D_count_29) (fun x101 => ?_)
    exact x_iret d_D_count_32
  refine x_split (P := x1 = 1) (fun ec => ?_) (fun ed1 => ?_)
  · refine x_go (pc' := 33) (st' := []) (fun hC _ _ _ _ _ _ hl k => lv_tableIn (tgt := 33) hC.1 hC.2.1 d_D_count_1 (by rw [ec]; decide) (by rw [ec]; decide) (by rw [ec]; rfl) (by decide) k) ?_
    refine x_go (pc' := 34) (st' := [.ref a0]) (fun hC _ _ _ _ _ _ hl k => lv_aload_n hC.1 hC.2.1 d_D_count_33 rfl (lv_at hl 0 rfl) k) ?_
    refine x_getI (ci := 3) (kf := 4) (r := (some a0)) (fun hC => w_get hC iw_3 rfl 4 (by decide) tw_35 rfl d_D_count_34) (fun x102 => ?_)
    exact x_iret d_D_count_37
  refine x_split (P := x1 = 2) (fun ec => ?_) (fun ed2 => ?_)
  · refine x_go (pc' := 38) (st' := []) (fun hC _ _ _ _ _ _ hl k => lv_tableIn (tgt := 38) hC.1 hC.2.1 d_D_count_1 (by rw [ec]; decide) (by rw [ec]; decide) (by rw [ec]; rfl) (by decide) k) ?_
    refine x_go (pc' := 39) (st' := [.ref a0]) (fun hC _ _ _ _ _ _ hl k => lv_aload_n hC.1 hC.2.1 d_D_count_38 rfl (lv_at hl 0 rfl) k) ?_
    refine x_getI (ci := 3) (kf := 5) (r := (some a0)) (fun hC => w_get hC iw_3 rfl 5 (by decide) tw_36 rfl d_D_count_39) (fun x103 => ?_)
    exact x_iret d_D_count_42
  refine x_go (pc' := 43) (st' := []) (fun hC _ _ _ _ _ _ hl k => lv_tableOut (tgt := 43) hC.1 hC.2.1 d_D_count_1 (by have := lv_neT (a := 0) ed0 (by decide); have := lv_neT (a := 1) ed1 (by decide); have := lv_neT (a := 2) ed2 (by decide); omega) (by decide) k) ?_
  refine x_go (pc' := 44) (st' := [.int (-1 : Int32)]) (fun hC _ _ _ _ _ _ hl k => lv_iconst (v := -1) hC.1 hC.2.1 d_D_count_43 (by decide) k) ?_
  exact x_iret d_D_count_44
/-! SerialDeskModel.<init>()V -/
theorem d_M_init_0 : decode b_M_init 0 = .ok (.aload_n 0, 1) := by decide +kernel
theorem d_M_init_1 : decode b_M_init 1 = .ok (.invokespecial 1, 3) := by decide +kernel
theorem d_M_init_4 : decode b_M_init 4 = .ok (.aload_n 0, 1) := by decide +kernel
theorem d_M_init_5 : decode b_M_init 5 = .ok (.bipush 64, 2) := by decide +kernel
theorem d_M_init_7 : decode b_M_init 7 = .ok (.newarray .int, 2) := by decide +kernel
theorem d_M_init_9 : decode b_M_init 9 = .ok (.putfield 7, 3) := by decide +kernel
theorem d_M_init_12 : decode b_M_init 12 = .ok (.aload_n 0, 1) := by decide +kernel
theorem d_M_init_13 : decode b_M_init 13 = .ok (.bipush 64, 2) := by decide +kernel
theorem d_M_init_15 : decode b_M_init 15 = .ok (.newarray .int, 2) := by decide +kernel
theorem d_M_init_17 : decode b_M_init 17 = .ok (.putfield 13, 3) := by decide +kernel
theorem d_M_init_20 : decode b_M_init 20 = .ok (.aload_n 0, 1) := by decide +kernel
theorem d_M_init_21 : decode b_M_init 21 = .ok (.bipush 64, 2) := by decide +kernel
theorem d_M_init_23 : decode b_M_init 23 = .ok (.newarray .int, 2) := by decide +kernel
theorem d_M_init_25 : decode b_M_init 25 = .ok (.putfield 16, 3) := by decide +kernel
theorem d_M_init_28 : decode b_M_init 28 = .ok (.aload_n 0, 1) := by decide +kernel
theorem d_M_init_29 : decode b_M_init 29 = .ok (.bipush 64, 2) := by decide +kernel
theorem d_M_init_31 : decode b_M_init 31 = .ok (.newarray .int, 2) := by decide +kernel
theorem d_M_init_33 : decode b_M_init 33 = .ok (.putfield 19, 3) := by decide +kernel
theorem d_M_init_36 : decode b_M_init 36 = .ok (.aload_n 0, 1) := by decide +kernel
theorem d_M_init_37 : decode b_M_init 37 = .ok (.bipush 64, 2) := by decide +kernel
theorem d_M_init_39 : decode b_M_init 39 = .ok (.newarray .boolean, 2) := by decide +kernel
theorem d_M_init_41 : decode b_M_init 41 = .ok (.putfield 22, 3) := by decide +kernel
theorem d_M_init_44 : decode b_M_init 44 = .ok (.aload_n 0, 1) := by decide +kernel
theorem d_M_init_45 : decode b_M_init 45 = .ok (.bipush 64, 2) := by decide +kernel
theorem d_M_init_47 : decode b_M_init 47 = .ok (.newarray .int, 2) := by decide +kernel
theorem d_M_init_49 : decode b_M_init 49 = .ok (.putfield 26, 3) := by decide +kernel
theorem d_M_init_52 : decode b_M_init 52 = .ok (.aload_n 0, 1) := by decide +kernel
theorem d_M_init_53 : decode b_M_init 53 = .ok (.sipush 4096, 3) := by decide +kernel
theorem d_M_init_56 : decode b_M_init 56 = .ok (.newarray .boolean, 2) := by decide +kernel
theorem d_M_init_58 : decode b_M_init 58 = .ok (.putfield 29, 3) := by decide +kernel
theorem d_M_init_61 : decode b_M_init 61 = .ok (.aload_n 0, 1) := by decide +kernel
theorem d_M_init_62 : decode b_M_init 62 = .ok (.sipush 512, 3) := by decide +kernel
theorem d_M_init_65 : decode b_M_init 65 = .ok (.newarray .int, 2) := by decide +kernel
theorem d_M_init_67 : decode b_M_init 67 = .ok (.putfield 32, 3) := by decide +kernel
theorem d_M_init_70 : decode b_M_init 70 = .ok (.aload_n 0, 1) := by decide +kernel
theorem d_M_init_71 : decode b_M_init 71 = .ok (.sipush 4096, 3) := by decide +kernel
theorem d_M_init_74 : decode b_M_init 74 = .ok (.newarray .int, 2) := by decide +kernel
theorem d_M_init_76 : decode b_M_init 76 = .ok (.putfield 35, 3) := by decide +kernel
theorem d_M_init_79 : decode b_M_init 79 = .ok (.aload_n 0, 1) := by decide +kernel
theorem d_M_init_80 : decode b_M_init 80 = .ok (.sipush 4096, 3) := by decide +kernel
theorem d_M_init_83 : decode b_M_init 83 = .ok (.newarray .int, 2) := by decide +kernel
theorem d_M_init_85 : decode b_M_init 85 = .ok (.putfield 38, 3) := by decide +kernel
theorem d_M_init_88 : decode b_M_init 88 = .ok (.aload_n 0, 1) := by decide +kernel
theorem d_M_init_89 : decode b_M_init 89 = .ok (.sipush 4096, 3) := by decide +kernel
theorem d_M_init_92 : decode b_M_init 92 = .ok (.newarray .long, 2) := by decide +kernel
theorem d_M_init_94 : decode b_M_init 94 = .ok (.putfield 41, 3) := by decide +kernel
theorem d_M_init_97 : decode b_M_init 97 = .ok (.aload_n 0, 1) := by decide +kernel
theorem d_M_init_98 : decode b_M_init 98 = .ok (.sipush 4096, 3) := by decide +kernel
theorem d_M_init_101 : decode b_M_init 101 = .ok (.newarray .long, 2) := by decide +kernel
theorem d_M_init_103 : decode b_M_init 103 = .ok (.putfield 45, 3) := by decide +kernel
theorem d_M_init_106 : decode b_M_init 106 = .ok (.aload_n 0, 1) := by decide +kernel
theorem d_M_init_107 : decode b_M_init 107 = .ok (.sipush 520, 3) := by decide +kernel
theorem d_M_init_110 : decode b_M_init 110 = .ok (.newarray .int, 2) := by decide +kernel
theorem d_M_init_112 : decode b_M_init 112 = .ok (.putfield 48, 3) := by decide +kernel
theorem d_M_init_115 : decode b_M_init 115 = .ok (.aload_n 0, 1) := by decide +kernel
theorem d_M_init_116 : decode b_M_init 116 = .ok (.sipush 520, 3) := by decide +kernel
theorem d_M_init_119 : decode b_M_init 119 = .ok (.newarray .int, 2) := by decide +kernel
theorem d_M_init_121 : decode b_M_init 121 = .ok (.putfield 51, 3) := by decide +kernel
theorem d_M_init_124 : decode b_M_init 124 = .ok (.aload_n 0, 1) := by decide +kernel
theorem d_M_init_125 : decode b_M_init 125 = .ok (.sipush 4680, 3) := by decide +kernel
theorem d_M_init_128 : decode b_M_init 128 = .ok (.newarray .long, 2) := by decide +kernel
theorem d_M_init_130 : decode b_M_init 130 = .ok (.putfield 54, 3) := by decide +kernel
theorem d_M_init_133 : decode b_M_init 133 = .ok (.aload_n 0, 1) := by decide +kernel
theorem d_M_init_134 : decode b_M_init 134 = .ok (.sipush 520, 3) := by decide +kernel
theorem d_M_init_137 : decode b_M_init 137 = .ok (.newarray .boolean, 2) := by decide +kernel
theorem d_M_init_139 : decode b_M_init 139 = .ok (.putfield 57, 3) := by decide +kernel
theorem d_M_init_142 : decode b_M_init 142 = .ok (.aload_n 0, 1) := by decide +kernel
theorem d_M_init_143 : decode b_M_init 143 = .ok (.sipush 520, 3) := by decide +kernel
theorem d_M_init_146 : decode b_M_init 146 = .ok (.newarray .int, 2) := by decide +kernel
theorem d_M_init_148 : decode b_M_init 148 = .ok (.putfield 60, 3) := by decide +kernel
theorem d_M_init_151 : decode b_M_init 151 = .ok (.aload_n 0, 1) := by decide +kernel
theorem d_M_init_152 : decode b_M_init 152 = .ok (.bipush 8, 2) := by decide +kernel
theorem d_M_init_154 : decode b_M_init 154 = .ok (.newarray .boolean, 2) := by decide +kernel
theorem d_M_init_156 : decode b_M_init 156 = .ok (.putfield 63, 3) := by decide +kernel
theorem d_M_init_159 : decode b_M_init 159 = .ok (.aload_n 0, 1) := by decide +kernel
theorem d_M_init_160 : decode b_M_init 160 = .ok (.bipush 8, 2) := by decide +kernel
theorem d_M_init_162 : decode b_M_init 162 = .ok (.newarray .long, 2) := by decide +kernel
theorem d_M_init_164 : decode b_M_init 164 = .ok (.putfield 66, 3) := by decide +kernel
theorem d_M_init_167 : decode b_M_init 167 = .ok (.return_, 1) := by decide +kernel
abbrev X_M_init (p : Program) (l : Launch) (e : Env) (k1 k2 : Nat) (s : State) (m : MethodId) (args : Array Value) (below : List Frame) (meth : Method) (c : Code) (B : AB) (n0 m0 : Nat) (h : AH) (pc : Nat) (lv : List (Nat × Value)) (st : List Value) (comp : Option (Unit × AH)) : Prop := XX p l e { frames := 1, cells := k1, slots := k2, locals := 12 } s m args below meth c b_M_init o_M lw_tt 1 (Option.none : Option Jvm.ClassFile.FieldType) "<init>" B n0 m0 (QM B below args s { frames := 1, cells := k1, slots := k2, locals := 12 } eU) h pc lv st comp
def f_M_init (a0 : Nat) (h : AH) : Option (Unit × AH) := nAk h 4 (64 : Int32) (defaultValue .int) (fun a101 h102 => (pF h102 4 3 (some a0) (.ref a101)).bind (fun h103 => nAk h103 4 (64 : Int32) (defaultValue .int) (fun a104 h105 => (pF h105 4 4 (some a0) (.ref a104)).bind (fun h106 => nAk h106 4 (64 : Int32) (defaultValue .int) (fun a107 h108 => (pF h108 4 5 (some a0) (.ref a107)).bind (fun h109 => nAk h109 4 (64 : Int32) (defaultValue .int) (fun a110 h111 => (pF h111 4 6 (some a0) (.ref a110)).bind (fun h112 => nAk h112 1 (64 : Int32) (defaultValue .boolean) (fun a113 h114 => (pF h114 4 7 (some a0) (.ref a113)).bind (fun h115 => nAk h115 4 (64 : Int32) (defaultValue .int) (fun a116 h117 => (pF h117 4 8 (some a0) (.ref a116)).bind (fun h118 => nAk h118 1 (4096 : Int32) (defaultValue .boolean) (fun a119 h120 => (pF h120 4 9 (some a0) (.ref a119)).bind (fun h121 => nAk h121 4 (512 : Int32) (defaultValue .int) (fun a122 h123 => (pF h123 4 10 (some a0) (.ref a122)).bind (fun h124 => nAk h124 4 (4096 : Int32) (defaultValue .int) (fun a125 h126 => (pF h126 4 11 (some a0) (.ref a125)).bind (fun h127 => nAk h127 4 (4096 : Int32) (defaultValue .int) (fun a128 h129 => (pF h129 4 12 (some a0) (.ref a128)).bind (fun h130 => nAk h130 0 (4096 : Int32) (defaultValue .long) (fun a131 h132 => (pF h132 4 13 (some a0) (.ref a131)).bind (fun h133 => nAk h133 0 (4096 : Int32) (defaultValue .long) (fun a134 h135 => (pF h135 4 14 (some a0) (.ref a134)).bind (fun h136 => nAk h136 4 (520 : Int32) (defaultValue .int) (fun a137 h138 => (pF h138 4 15 (some a0) (.ref a137)).bind (fun h139 => nAk h139 4 (520 : Int32) (defaultValue .int) (fun a140 h141 => (pF h141 4 16 (some a0) (.ref a140)).bind (fun h142 => nAk h142 0 (4680 : Int32) (defaultValue .long) (fun a143 h144 => (pF h144 4 17 (some a0) (.ref a143)).bind (fun h145 => nAk h145 1 (520 : Int32) (defaultValue .boolean) (fun a146 h147 => (pF h147 4 18 (some a0) (.ref a146)).bind (fun h148 => nAk h148 4 (520 : Int32) (defaultValue .int) (fun a149 h150 => (pF h150 4 19 (some a0) (.ref a149)).bind (fun h151 => nAk h151 1 (8 : Int32) (defaultValue .boolean) (fun a152 h153 => (pF h153 4 20 (some a0) (.ref a152)).bind (fun h154 => nAk h154 0 (8 : Int32) (defaultValue .long) (fun a155 h156 => (pF h156 4 21 (some a0) (.ref a155)).bind (fun h157 => some ((), h157)))))))))))))))))))))))))))))))))))))))
set_option maxHeartbeats 4000000 in
set_option maxRecDepth 100000 in
theorem c_M_init (l : Launch) (B : AB) (a0 : Nat) (h : AH) : CT l B y_M_init (Cond.code y_M_init b_M_init 1 (Option.none : Option Jvm.ClassFile.FieldType) :: lw_tt) 1 12 eU [.ref a0] h (f_M_init a0 h) := by
  refine ct_of (own := o_M) (nm := "<init>") (by decide +kernel) rfl rfl (Nat.le_of_ble_eq_true rfl) (fun p e k1 k2 s m args below meth c => ?_)
  refine x_sub (lv' := [(0, .ref a0)]) [0] rfl ?_
  unfold f_M_init
  refine x_go (pc' := 1) (st' := [.ref a0]) (fun hC _ _ _ _ _ _ hl k => lv_aload_n hC.1 hC.2.1 d_M_init_0 rfl (lv_at hl 0 rfl) k) ?_
  refine x_go (pc' := 4) (st' := []) (fun hC _ _ _ _ _ _ hl k => W.objInit hC.1 hC.2.1 hC.2.2.2.1 (hC.2.2.2.2.1 _ tw_313) (hC.2.2.2.2.1 _ tw_12) (hC.2.2.2.2.1 _ tw_13) rfl (by rw [hC.2.2.1]; exact hl.1) rfl d_M_init_1 (Nat.le_of_ble_eq_true rfl) (Nat.le_of_ble_eq_true rfl) k) ?_
  refine x_go (pc' := 5) (st' := [.ref a0]) (fun hC _ _ _ _ _ _ hl k => lv_aload_n hC.1 hC.2.1 d_M_init_4 rfl (lv_at hl 0 rfl) k) ?_
  refine x_go (pc' := 7) (st' := [.int (64 : Int32), .ref a0]) (fun hC _ _ _ _ _ _ hl k => lv_bipush (v := 64) hC.1 hC.2.1 d_M_init_5 (by decide) k) ?_
  refine x_newa (t := 4) (ty := .int) rfl rfl (fun _ _ => rfl) tw_101 (by decide) d_M_init_7 (fun a101 h102 => ?_)
  refine x_putF (ci := 4) (kf := 3) (r := (some a0)) (v := .ref a101) (fun hC => w_putF (ty := .array .int) hC iw_4 ft_4 ft_4_ok fn_4 rfl 3 (by decide) tw_317 rfl rfl rfl (by decide +kernel) rfl rfl d_M_init_9) (fun h103 => ?_)
  refine x_go (pc' := 13) (st' := [.ref a0]) (fun hC _ _ _ _ _ _ hl k => lv_aload_n hC.1 hC.2.1 d_M_init_12 rfl (lv_at hl 0 rfl) k) ?_
  refine x_go (pc' := 15) (st' := [.int (64 : Int32), .ref a0]) (fun hC _ _ _ _ _ _ hl k => lv_bipush (v := 64) hC.1 hC.2.1 d_M_init_13 (by decide) k) ?_
  refine x_newa (t := 4) (ty := .int) rfl rfl (fun _ _ => rfl) tw_101 (by decide) d_M_init_15 (fun a104 h105 => ?_)
  refine x_putF (ci := 4) (kf := 4) (r := (some a0)) (v := .ref a104) (fun hC => w_putF (ty := .array .int) hC iw_4 ft_4 ft_4_ok fn_4 rfl 4 (by decide) tw_318 rfl rfl rfl (by decide +kernel) rfl rfl d_M_init_17) (fun h106 => ?_)
  refine x_go (pc' := 21) (st' := [.ref a0]) (fun hC _ _ _ _ _ _ hl k => lv_aload_n hC.1 hC.2.1 d_M_init_20 rfl (lv_at hl 0 rfl) k) ?_
  refine x_go (pc' := 23) (st' := [.int (64 : Int32), .ref a0]) (fun hC _ _ _ _ _ _ hl k => lv_bipush (v := 64) hC.1 hC.2.1 d_M_init_21 (by decide) k) ?_
  refine x_newa (t := 4) (ty := .int) rfl rfl (fun _ _ => rfl) tw_101 (by decide) d_M_init_23 (fun a107 h108 => ?_)
  refine x_putF (ci := 4) (kf := 5) (r := (some a0)) (v := .ref a107) (fun hC => w_putF (ty := .array .int) hC iw_4 ft_4 ft_4_ok fn_4 rfl 5 (by decide) tw_319 rfl rfl rfl (by decide +kernel) rfl rfl d_M_init_25) (fun h109 => ?_)
  refine x_go (pc' := 29) (st' := [.ref a0]) (fun hC _ _ _ _ _ _ hl k => lv_aload_n hC.1 hC.2.1 d_M_init_28 rfl (lv_at hl 0 rfl) k) ?_
  refine x_go (pc' := 31) (st' := [.int (64 : Int32), .ref a0]) (fun hC _ _ _ _ _ _ hl k => lv_bipush (v := 64) hC.1 hC.2.1 d_M_init_29 (by decide) k) ?_
  refine x_newa (t := 4) (ty := .int) rfl rfl (fun _ _ => rfl) tw_101 (by decide) d_M_init_31 (fun a110 h111 => ?_)
  refine x_putF (ci := 4) (kf := 6) (r := (some a0)) (v := .ref a110) (fun hC => w_putF (ty := .array .int) hC iw_4 ft_4 ft_4_ok fn_4 rfl 6 (by decide) tw_320 rfl rfl rfl (by decide +kernel) rfl rfl d_M_init_33) (fun h112 => ?_)
  refine x_go (pc' := 37) (st' := [.ref a0]) (fun hC _ _ _ _ _ _ hl k => lv_aload_n hC.1 hC.2.1 d_M_init_36 rfl (lv_at hl 0 rfl) k) ?_
  refine x_go (pc' := 39) (st' := [.int (64 : Int32), .ref a0]) (fun hC _ _ _ _ _ _ hl k => lv_bipush (v := 64) hC.1 hC.2.1 d_M_init_37 (by decide) k) ?_
  refine x_newa (t := 1) (ty := .boolean) rfl rfl (fun _ _ => rfl) tw_28 (by decide) d_M_init_39 (fun a113 h114 => ?_)
  refine x_putF (ci := 4) (kf := 7) (r := (some a0)) (v := .ref a113) (fun hC => w_putF (ty := .array .boolean) hC iw_4 ft_4 ft_4_ok fn_4 rfl 7 (by decide) tw_321 rfl rfl rfl (by decide +kernel) rfl rfl d_M_init_41) (fun h115 => ?_)
  refine x_go (pc' := 45) (st' := [.ref a0]) (fun hC _ _ _ _ _ _ hl k => lv_aload_n hC.1 hC.2.1 d_M_init_44 rfl (lv_at hl 0 rfl) k) ?_
  refine x_go (pc' := 47) (st' := [.int (64 : Int32), .ref a0]) (fun hC _ _ _ _ _ _ hl k => lv_bipush (v := 64) hC.1 hC.2.1 d_M_init_45 (by decide) k) ?_
  refine x_newa (t := 4) (ty := .int) rfl rfl (fun _ _ => rfl) tw_101 (by decide) d_M_init_47 (fun a116 h117 => ?_)
  refine x_putF (ci := 4) (kf := 8) (r := (some a0)) (v := .ref a116) (fun hC => w_putF (ty := .array .int) hC iw_4 ft_4 ft_4_ok fn_4 rfl 8 (by decide) tw_322 rfl rfl rfl (by decide +kernel) rfl rfl d_M_init_49) (fun h118 => ?_)
  refine x_go (pc' := 53) (st' := [.ref a0]) (fun hC _ _ _ _ _ _ hl k => lv_aload_n hC.1 hC.2.1 d_M_init_52 rfl (lv_at hl 0 rfl) k) ?_
  refine x_go (pc' := 56) (st' := [.int (4096 : Int32), .ref a0]) (fun hC _ _ _ _ _ _ hl k => lv_sipush (v := 4096) hC.1 hC.2.1 d_M_init_53 (by decide) k) ?_
  refine x_newa (t := 1) (ty := .boolean) rfl rfl (fun _ _ => rfl) tw_28 (by decide) d_M_init_56 (fun a119 h120 => ?_)
  refine x_putF (ci := 4) (kf := 9) (r := (some a0)) (v := .ref a119) (fun hC => w_putF (ty := .array .boolean) hC iw_4 ft_4 ft_4_ok fn_4 rfl 9 (by decide) tw_323 rfl rfl rfl (by decide +kernel) rfl rfl d_M_init_58) (fun h121 => ?_)
  refine x_go (pc' := 62) (st' := [.ref a0]) (fun hC _ _ _ _ _ _ hl k => lv_aload_n hC.1 hC.2.1 d_M_init_61 rfl (lv_at hl 0 rfl) k) ?_
  refine x_go (pc' := 65) (st' := [.int (512 : Int32), .ref a0]) (fun hC _ _ _ _ _ _ hl k => lv_sipush (v := 512) hC.1 hC.2.1 d_M_init_62 (by decide) k) ?_
  refine x_newa (t := 4) (ty := .int) rfl rfl (fun _ _ => rfl) tw_101 (by decide) d_M_init_65 (fun a122 h123 => ?_)
  refine x_putF (ci := 4) (kf := 10) (r := (some a0)) (v := .ref a122) (fun hC => w_putF (ty := .array .int) hC iw_4 ft_4 ft_4_ok fn_4 rfl 10 (by decide) tw_324 rfl rfl rfl (by decide +kernel) rfl rfl d_M_init_67) (fun h124 => ?_)
  refine x_go (pc' := 71) (st' := [.ref a0]) (fun hC _ _ _ _ _ _ hl k => lv_aload_n hC.1 hC.2.1 d_M_init_70 rfl (lv_at hl 0 rfl) k) ?_
  refine x_go (pc' := 74) (st' := [.int (4096 : Int32), .ref a0]) (fun hC _ _ _ _ _ _ hl k => lv_sipush (v := 4096) hC.1 hC.2.1 d_M_init_71 (by decide) k) ?_
  refine x_newa (t := 4) (ty := .int) rfl rfl (fun _ _ => rfl) tw_101 (by decide) d_M_init_74 (fun a125 h126 => ?_)
  refine x_putF (ci := 4) (kf := 11) (r := (some a0)) (v := .ref a125) (fun hC => w_putF (ty := .array .int) hC iw_4 ft_4 ft_4_ok fn_4 rfl 11 (by decide) tw_325 rfl rfl rfl (by decide +kernel) rfl rfl d_M_init_76) (fun h127 => ?_)
  refine x_go (pc' := 80) (st' := [.ref a0]) (fun hC _ _ _ _ _ _ hl k => lv_aload_n hC.1 hC.2.1 d_M_init_79 rfl (lv_at hl 0 rfl) k) ?_
  refine x_go (pc' := 83) (st' := [.int (4096 : Int32), .ref a0]) (fun hC _ _ _ _ _ _ hl k => lv_sipush (v := 4096) hC.1 hC.2.1 d_M_init_80 (by decide) k) ?_
  refine x_newa (t := 4) (ty := .int) rfl rfl (fun _ _ => rfl) tw_101 (by decide) d_M_init_83 (fun a128 h129 => ?_)
  refine x_putF (ci := 4) (kf := 12) (r := (some a0)) (v := .ref a128) (fun hC => w_putF (ty := .array .int) hC iw_4 ft_4 ft_4_ok fn_4 rfl 12 (by decide) tw_326 rfl rfl rfl (by decide +kernel) rfl rfl d_M_init_85) (fun h130 => ?_)
  refine x_go (pc' := 89) (st' := [.ref a0]) (fun hC _ _ _ _ _ _ hl k => lv_aload_n hC.1 hC.2.1 d_M_init_88 rfl (lv_at hl 0 rfl) k) ?_
  refine x_go (pc' := 92) (st' := [.int (4096 : Int32), .ref a0]) (fun hC _ _ _ _ _ _ hl k => lv_sipush (v := 4096) hC.1 hC.2.1 d_M_init_89 (by decide) k) ?_
  refine x_newa (t := 0) (ty := .long) rfl rfl (fun _ _ => rfl) tw_27 (by decide) d_M_init_92 (fun a131 h132 => ?_)
  refine x_putF (ci := 4) (kf := 13) (r := (some a0)) (v := .ref a131) (fun hC => w_putF (ty := .array .long) hC iw_4 ft_4 ft_4_ok fn_4 rfl 13 (by decide) tw_327 rfl rfl rfl (by decide +kernel) rfl rfl d_M_init_94) (fun h133 => ?_)
  refine x_go (pc' := 98) (st' := [.ref a0]) (fun hC _ _ _ _ _ _ hl k => lv_aload_n hC.1 hC.2.1 d_M_init_97 rfl (lv_at hl 0 rfl) k) ?_
  refine x_go (pc' := 101) (st' := [.int (4096 : Int32), .ref a0]) (fun hC _ _ _ _ _ _ hl k => lv_sipush (v := 4096) hC.1 hC.2.1 d_M_init_98 (by decide) k) ?_
  refine x_newa (t := 0) (ty := .long) rfl rfl (fun _ _ => rfl) tw_27 (by decide) d_M_init_101 (fun a134 h135 => ?_)
  refine x_putF (ci := 4) (kf := 14) (r := (some a0)) (v := .ref a134) (fun hC => w_putF (ty := .array .long) hC iw_4 ft_4 ft_4_ok fn_4 rfl 14 (by decide) tw_328 rfl rfl rfl (by decide +kernel) rfl rfl d_M_init_103) (fun h136 => ?_)
  refine x_go (pc' := 107) (st' := [.ref a0]) (fun hC _ _ _ _ _ _ hl k => lv_aload_n hC.1 hC.2.1 d_M_init_106 rfl (lv_at hl 0 rfl) k) ?_
  refine x_go (pc' := 110) (st' := [.int (520 : Int32), .ref a0]) (fun hC _ _ _ _ _ _ hl k => lv_sipush (v := 520) hC.1 hC.2.1 d_M_init_107 (by decide) k) ?_
  refine x_newa (t := 4) (ty := .int) rfl rfl (fun _ _ => rfl) tw_101 (by decide) d_M_init_110 (fun a137 h138 => ?_)
  refine x_putF (ci := 4) (kf := 15) (r := (some a0)) (v := .ref a137) (fun hC => w_putF (ty := .array .int) hC iw_4 ft_4 ft_4_ok fn_4 rfl 15 (by decide) tw_329 rfl rfl rfl (by decide +kernel) rfl rfl d_M_init_112) (fun h139 => ?_)
  refine x_go (pc' := 116) (st' := [.ref a0]) (fun hC _ _ _ _ _ _ hl k => lv_aload_n hC.1 hC.2.1 d_M_init_115 rfl (lv_at hl 0 rfl) k) ?_
  refine x_go (pc' := 119) (st' := [.int (520 : Int32), .ref a0]) (fun hC _ _ _ _ _ _ hl k => lv_sipush (v := 520) hC.1 hC.2.1 d_M_init_116 (by decide) k) ?_
  refine x_newa (t := 4) (ty := .int) rfl rfl (fun _ _ => rfl) tw_101 (by decide) d_M_init_119 (fun a140 h141 => ?_)
  refine x_putF (ci := 4) (kf := 16) (r := (some a0)) (v := .ref a140) (fun hC => w_putF (ty := .array .int) hC iw_4 ft_4 ft_4_ok fn_4 rfl 16 (by decide) tw_330 rfl rfl rfl (by decide +kernel) rfl rfl d_M_init_121) (fun h142 => ?_)
  refine x_go (pc' := 125) (st' := [.ref a0]) (fun hC _ _ _ _ _ _ hl k => lv_aload_n hC.1 hC.2.1 d_M_init_124 rfl (lv_at hl 0 rfl) k) ?_
  refine x_go (pc' := 128) (st' := [.int (4680 : Int32), .ref a0]) (fun hC _ _ _ _ _ _ hl k => lv_sipush (v := 4680) hC.1 hC.2.1 d_M_init_125 (by decide) k) ?_
  refine x_newa (t := 0) (ty := .long) rfl rfl (fun _ _ => rfl) tw_27 (by decide) d_M_init_128 (fun a143 h144 => ?_)
  refine x_putF (ci := 4) (kf := 17) (r := (some a0)) (v := .ref a143) (fun hC => w_putF (ty := .array .long) hC iw_4 ft_4 ft_4_ok fn_4 rfl 17 (by decide) tw_331 rfl rfl rfl (by decide +kernel) rfl rfl d_M_init_130) (fun h145 => ?_)
  refine x_go (pc' := 134) (st' := [.ref a0]) (fun hC _ _ _ _ _ _ hl k => lv_aload_n hC.1 hC.2.1 d_M_init_133 rfl (lv_at hl 0 rfl) k) ?_
  refine x_go (pc' := 137) (st' := [.int (520 : Int32), .ref a0]) (fun hC _ _ _ _ _ _ hl k => lv_sipush (v := 520) hC.1 hC.2.1 d_M_init_134 (by decide) k) ?_
  refine x_newa (t := 1) (ty := .boolean) rfl rfl (fun _ _ => rfl) tw_28 (by decide) d_M_init_137 (fun a146 h147 => ?_)
  refine x_putF (ci := 4) (kf := 18) (r := (some a0)) (v := .ref a146) (fun hC => w_putF (ty := .array .boolean) hC iw_4 ft_4 ft_4_ok fn_4 rfl 18 (by decide) tw_332 rfl rfl rfl (by decide +kernel) rfl rfl d_M_init_139) (fun h148 => ?_)
  refine x_go (pc' := 143) (st' := [.ref a0]) (fun hC _ _ _ _ _ _ hl k => lv_aload_n hC.1 hC.2.1 d_M_init_142 rfl (lv_at hl 0 rfl) k) ?_
  refine x_go (pc' := 146) (st' := [.int (520 : Int32), .ref a0]) (fun hC _ _ _ _ _ _ hl k => lv_sipush (v := 520) hC.1 hC.2.1 d_M_init_143 (by decide) k) ?_
  refine x_newa (t := 4) (ty := .int) rfl rfl (fun _ _ => rfl) tw_101 (by decide) d_M_init_146 (fun a149 h150 => ?_)
  refine x_putF (ci := 4) (kf := 19) (r := (some a0)) (v := .ref a149) (fun hC => w_putF (ty := .array .int) hC iw_4 ft_4 ft_4_ok fn_4 rfl 19 (by decide) tw_333 rfl rfl rfl (by decide +kernel) rfl rfl d_M_init_148) (fun h151 => ?_)
  refine x_go (pc' := 152) (st' := [.ref a0]) (fun hC _ _ _ _ _ _ hl k => lv_aload_n hC.1 hC.2.1 d_M_init_151 rfl (lv_at hl 0 rfl) k) ?_
  refine x_go (pc' := 154) (st' := [.int (8 : Int32), .ref a0]) (fun hC _ _ _ _ _ _ hl k => lv_bipush (v := 8) hC.1 hC.2.1 d_M_init_152 (by decide) k) ?_
  refine x_newa (t := 1) (ty := .boolean) rfl rfl (fun _ _ => rfl) tw_28 (by decide) d_M_init_154 (fun a152 h153 => ?_)
  refine x_putF (ci := 4) (kf := 20) (r := (some a0)) (v := .ref a152) (fun hC => w_putF (ty := .array .boolean) hC iw_4 ft_4 ft_4_ok fn_4 rfl 20 (by decide) tw_334 rfl rfl rfl (by decide +kernel) rfl rfl d_M_init_156) (fun h154 => ?_)
  refine x_go (pc' := 160) (st' := [.ref a0]) (fun hC _ _ _ _ _ _ hl k => lv_aload_n hC.1 hC.2.1 d_M_init_159 rfl (lv_at hl 0 rfl) k) ?_
  refine x_go (pc' := 162) (st' := [.int (8 : Int32), .ref a0]) (fun hC _ _ _ _ _ _ hl k => lv_bipush (v := 8) hC.1 hC.2.1 d_M_init_160 (by decide) k) ?_
  refine x_newa (t := 0) (ty := .long) rfl rfl (fun _ _ => rfl) tw_27 (by decide) d_M_init_162 (fun a155 h156 => ?_)
  refine x_putF (ci := 4) (kf := 21) (r := (some a0)) (v := .ref a155) (fun hC => w_putF (ty := .array .long) hC iw_4 ft_4 ft_4_ok fn_4 rfl 21 (by decide) tw_335 rfl rfl rfl (by decide +kernel) rfl rfl d_M_init_164) (fun h157 => ?_)
  exact x_vret d_M_init_167
/-! SerialDeskModel.running(I)I -/
theorem d_M_running_0 : decode b_M_running 0 = .ok (.iconst (-1), 1) := by decide +kernel
theorem d_M_running_1 : decode b_M_running 1 = .ok (.istore_n 2, 1) := by decide +kernel
theorem d_M_running_2 : decode b_M_running 2 = .ok (.iconst 0, 1) := by decide +kernel
theorem d_M_running_3 : decode b_M_running 3 = .ok (.istore_n 3, 1) := by decide +kernel
theorem d_M_running_4 : decode b_M_running 4 = .ok (.iload_n 3, 1) := by decide +kernel
theorem d_M_running_5 : decode b_M_running 5 = .ok (.aload_n 0, 1) := by decide +kernel
theorem d_M_running_6 : decode b_M_running 6 = .ok (.getfield 69, 3) := by decide +kernel
theorem d_M_running_9 : decode b_M_running 9 = .ok (.if_icmp .ge 29, 3) := by decide +kernel
theorem d_M_running_12 : decode b_M_running 12 = .ok (.iload_n 1, 1) := by decide +kernel
theorem d_M_running_13 : decode b_M_running 13 = .ok (.ifCond .lt 25, 3) := by decide +kernel
theorem d_M_running_16 : decode b_M_running 16 = .ok (.aload_n 0, 1) := by decide +kernel
theorem d_M_running_17 : decode b_M_running 17 = .ok (.getfield 13, 3) := by decide +kernel
theorem d_M_running_20 : decode b_M_running 20 = .ok (.iload_n 3, 1) := by decide +kernel
theorem d_M_running_21 : decode b_M_running 21 = .ok (.iaload, 1) := by decide +kernel
theorem d_M_running_22 : decode b_M_running 22 = .ok (.iload_n 1, 1) := by decide +kernel
theorem d_M_running_23 : decode b_M_running 23 = .ok (.if_icmp .ne 7, 3) := by decide +kernel
theorem d_M_running_26 : decode b_M_running 26 = .ok (.iload_n 3, 1) := by decide +kernel
theorem d_M_running_27 : decode b_M_running 27 = .ok (.goto 4, 3) := by decide +kernel
theorem d_M_running_30 : decode b_M_running 30 = .ok (.iload_n 2, 1) := by decide +kernel
theorem d_M_running_31 : decode b_M_running 31 = .ok (.istore_n 2, 1) := by decide +kernel
theorem d_M_running_32 : decode b_M_running 32 = .ok (.iinc 3 1, 3) := by decide +kernel
theorem d_M_running_35 : decode b_M_running 35 = .ok (.goto (-31), 3) := by decide +kernel
theorem d_M_running_38 : decode b_M_running 38 = .ok (.iload_n 2, 1) := by decide +kernel
theorem d_M_running_39 : decode b_M_running 39 = .ok (.ireturn, 1) := by decide +kernel
abbrev X_M_running (p : Program) (l : Launch) (e : Env) (k1 k2 : Nat) (s : State) (m : MethodId) (args : Array Value) (below : List Frame) (meth : Method) (c : Code) (B : AB) (n0 m0 : Nat) (h : AH) (pc : Nat) (lv : List (Nat × Value)) (st : List Value) (comp : Option (Int32 × AH)) : Prop := XX p l e { frames := 0, cells := k1, slots := k2, locals := 0 } s m args below meth c b_M_running o_M lw_tt 4 (Option.some Jvm.ClassFile.FieldType.int) "running" B n0 m0 (QM B below args s { frames := 0, cells := k1, slots := k2, locals := 0 } eI) h pc lv st comp
def f_M_running_b4 : Nat → Nat → Int32 → Int32 → Int32 → AH → Option (Int32 × AH)
  | 0, _, _, _, _, _ => none
  | n + 1, a0, x1, x2, x3, h => (fI h 4 2 (some a0)).bind (fun x1001 => (if x1001 ≤ x3 then some (x2, h) else (if x1 < 0 then some (x2, h) else (fR h 4 4 (some a0)).bind (fun r1002 => (lI h 4 r1002 x3).bind (fun x1003 => (if x1003 = x1 then f_M_running_b4 n a0 x1 x3 (x3 + 1) h else f_M_running_b4 n a0 x1 x2 (x3 + 1) h))))))
def f_M_running (a0 : Nat) (x1 : Int32) (h : AH) : Option (Int32 × AH) := f_M_running_b4 2000 a0 x1 (-1 : Int32) (0 : Int32) h
set_option maxHeartbeats 4000000 in
set_option maxRecDepth 100000 in
theorem x_M_running_b4 {p : Program} {l : Launch} {e : Env} {k1 k2 : Nat} {s : State} {m : MethodId} {args : Array Value} {below : List Frame} {meth : Method} {c : Code} {B : AB} {n0 m0 : Nat} : ∀ (n : Nat) (a0 : Nat) (x1 : Int32) (x2 : Int32) (x3 : Int32) (h : AH), X_M_running p l e k1 k2 s m args below meth c B n0 m0 h 4 [(0, .ref a0), (1, .int x1), (2, .int x2), (3, .int x3)] [] (f_M_running_b4 n a0 x1 x2 x3 h) := by
  intro n
  induction n with
  | zero => intro a0 x1 x2 x3 h; exact x_none
  | succ n ih =>
    intro a0 x1 x2 x3 h
    rw [f_M_running_b4]
    refine x_go (pc' := 5) (st' := [.int x3]) (fun hC _ _ _ _ _ _ hl k => lv_iload_n hC.1 hC.2.1 d_M_running_4 rfl (lv_at hl 3 rfl) k) ?_
    refine x_go (pc' := 6) (st' := [.ref a0, .int x3]) (fun hC _ _ _ _ _ _ hl k => lv_aload_n hC.1 hC.2.1 d_M_running_5 rfl (lv_at hl 0 rfl) k) ?_
    refine x_getI (ci := 4) (kf := 2) (r := (some a0)) (fun hC => w_get hC iw_4 rfl 2 (by decide) tw_316 rfl d_M_running_6) (fun x1001 => ?_)
    refine x_if (P := x1001 ≤ x3) (pt := 38) (pf := 12) (st' := []) (fun hC _ _ _ _ _ _ kt kf => lv_icmp_ge (tgt := 38) hC.1 hC.2.1 d_M_running_9 (by decide) kt kf) ?_ ?_
    · refine x_go (pc' := 39) (st' := [.int x2]) (fun hC _ _ _ _ _ _ hl k => lv_iload_n hC.1 hC.2.1 d_M_running_38 rfl (lv_at hl 2 rfl) k) ?_
      exact x_iret d_M_running_39
    · refine x_go (pc' := 13) (st' := [.int x1]) (fun hC _ _ _ _ _ _ hl k => lv_iload_n hC.1 hC.2.1 d_M_running_12 rfl (lv_at hl 1 rfl) k) ?_
      refine x_if (P := x1 < 0) (pt := 38) (pf := 16) (st' := []) (fun hC _ _ _ _ _ _ kt kf => lv_if_lt (tgt := 38) hC.1 hC.2.1 d_M_running_13 (by decide) kt kf) ?_ ?_
      · refine x_go (pc' := 39) (st' := [.int x2]) (fun hC _ _ _ _ _ _ hl k => lv_iload_n hC.1 hC.2.1 d_M_running_38 rfl (lv_at hl 2 rfl) k) ?_
        exact x_iret d_M_running_39
      · refine x_go (pc' := 17) (st' := [.ref a0]) (fun hC _ _ _ _ _ _ hl k => lv_aload_n hC.1 hC.2.1 d_M_running_16 rfl (lv_at hl 0 rfl) k) ?_
        refine x_getR (ci := 4) (kf := 4) (r := (some a0)) (fun hC => w_get hC iw_4 rfl 4 (by decide) tw_318 rfl d_M_running_17) (fun r1002 => ?_)
        refine x_go (pc' := 21) (st' := [.int x3, va_rf r1002]) (fun hC _ _ _ _ _ _ hl k => lv_iload_n hC.1 hC.2.1 d_M_running_20 rfl (lv_at hl 3 rfl) k) ?_
        refine x_iald (t := 4) rfl (r := r1002) (i := x3) d_M_running_21 (fun x1003 => ?_)
        refine x_go (pc' := 23) (st' := [.int x1, .int x1003]) (fun hC _ _ _ _ _ _ hl k => lv_iload_n hC.1 hC.2.1 d_M_running_22 rfl (lv_at hl 1 rfl) k) ?_
        refine x_if (P := x1003 = x1) (pt := 26) (pf := 30) (st' := []) (fun hC _ _ _ _ _ _ kt kf => lv_icmp_ne (tgt := 30) hC.1 hC.2.1 d_M_running_23 (by decide) kf kt) ?_ ?_
        · refine x_go (pc' := 27) (st' := [.int x3]) (fun hC _ _ _ _ _ _ hl k => lv_iload_n hC.1 hC.2.1 d_M_running_26 rfl (lv_at hl 3 rfl) k) ?_
          refine x_go (pc' := 31) (st' := [.int x3]) (fun hC _ _ _ _ _ _ hl k => lv_goto (tgt := 31) hC.1 hC.2.1 d_M_running_27 (by decide) k) ?_
          refine x_lift (pc' := 32) (st' := []) (lv' := [(2, .int x3), (0, .ref a0), (1, .int x1), (3, .int x3)]) (fun hC _ _ _ _ _ _ hl k => lv_istore_n (i := 2) hC.1 hC.2.1 d_M_running_31 rfl hl (by decide) rfl k) ?_
          refine x_lift (pc' := 35) (st' := []) (lv' := [(3, .int (x3 + 1)), (2, .int x3), (0, .ref a0), (1, .int x1)]) (fun hC _ _ _ _ _ _ hl k => lv_iinc (v := (x3 + 1)) hC.1 hC.2.1 d_M_running_32 hl (k := 3) rfl rfl (by decide) rfl k) ?_
          refine x_go (pc' := 4) (st' := []) (fun hC _ _ _ _ _ _ hl k => lv_goto (tgt := 4) hC.1 hC.2.1 d_M_running_35 (by decide) k) ?_
          exact x_sub (lv' := [(0, .ref a0), (1, .int x1), (2, .int x3), (3, .int (x3 + 1))]) [2, 3, 1, 0] rfl (ih a0 x1 x3 (x3 + 1) h)
        · refine x_go (pc' := 31) (st' := [.int x2]) (fun hC _ _ _ _ _ _ hl k => lv_iload_n hC.1 hC.2.1 d_M_running_30 rfl (lv_at hl 2 rfl) k) ?_
          refine x_lift (pc' := 32) (st' := []) (lv' := [(2, .int x2), (0, .ref a0), (1, .int x1), (3, .int x3)]) (fun hC _ _ _ _ _ _ hl k => lv_istore_n (i := 2) hC.1 hC.2.1 d_M_running_31 rfl hl (by decide) rfl k) ?_
          refine x_lift (pc' := 35) (st' := []) (lv' := [(3, .int (x3 + 1)), (2, .int x2), (0, .ref a0), (1, .int x1)]) (fun hC _ _ _ _ _ _ hl k => lv_iinc (v := (x3 + 1)) hC.1 hC.2.1 d_M_running_32 hl (k := 3) rfl rfl (by decide) rfl k) ?_
          refine x_go (pc' := 4) (st' := []) (fun hC _ _ _ _ _ _ hl k => lv_goto (tgt := 4) hC.1 hC.2.1 d_M_running_35 (by decide) k) ?_
          exact x_sub (lv' := [(0, .ref a0), (1, .int x1), (2, .int x2), (3, .int (x3 + 1))]) [2, 3, 1, 0] rfl (ih a0 x1 x2 (x3 + 1) h)
set_option maxHeartbeats 4000000 in
set_option maxRecDepth 100000 in
theorem c_M_running (l : Launch) (B : AB) (a0 : Nat) (x1 : Int32) (h : AH) : CT l B y_M_running (Cond.code y_M_running b_M_running 4 (Option.some Jvm.ClassFile.FieldType.int) :: lw_tt) 0 0 eI [.ref a0, .int x1] h (f_M_running a0 x1 h) := by
  refine ct_of (own := o_M) (nm := "running") (by decide +kernel) rfl rfl (Nat.le_of_ble_eq_true rfl) (fun p e k1 k2 s m args below meth c => ?_)
  refine x_sub (lv' := [(0, .ref a0), (1, .int x1)]) [0, 1] rfl ?_
  unfold f_M_running
  refine x_go (pc' := 1) (st' := [.int (-1 : Int32)]) (fun hC _ _ _ _ _ _ hl k => lv_iconst (v := -1) hC.1 hC.2.1 d_M_running_0 (by decide) k) ?_
  refine x_lift (pc' := 2) (st' := []) (lv' := [(2, .int (-1 : Int32)), (0, .ref a0), (1, .int x1)]) (fun hC _ _ _ _ _ _ hl k => lv_istore_n (i := 2) hC.1 hC.2.1 d_M_running_1 rfl hl (by decide) rfl k) ?_
  refine x_go (pc' := 3) (st' := [.int (0 : Int32)]) (fun hC _ _ _ _ _ _ hl k => lv_iconst (v := 0) hC.1 hC.2.1 d_M_running_2 (by decide) k) ?_
  refine x_lift (pc' := 4) (st' := []) (lv' := [(3, .int (0 : Int32)), (2, .int (-1 : Int32)), (0, .ref a0), (1, .int x1)]) (fun hC _ _ _ _ _ _ hl k => lv_istore_n (i := 3) hC.1 hC.2.1 d_M_running_3 rfl hl (by decide) rfl k) ?_
  exact x_sub (lv' := [(0, .ref a0), (1, .int x1), (2, .int (-1 : Int32)), (3, .int (0 : Int32))]) [2, 3, 1, 0] rfl (x_M_running_b4 2000 a0 x1 (-1 : Int32) (0 : Int32) h)
