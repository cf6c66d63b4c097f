/-! SerialDesk$Version.<init>()V -/
theorem d_V_init_0 : decode b_V_init 0 = .ok (.aload_n 0, 1) := by decide +kernel
theorem d_V_init_1 : decode b_V_init 1 = .ok (.invokespecial 3, 3) := by decide +kernel
theorem d_V_init_4 : decode b_V_init 4 = .ok (.aload_n 0, 1) := by decide +kernel
theorem d_V_init_5 : decode b_V_init 5 = .ok (.bipush 8, 2) := by decide +kernel
theorem d_V_init_7 : decode b_V_init 7 = .ok (.newarray .long, 2) := by decide +kernel
theorem d_V_init_9 : decode b_V_init 9 = .ok (.putfield 9, 3) := by decide +kernel
theorem d_V_init_12 : decode b_V_init 12 = .ok (.aload_n 0, 1) := by decide +kernel
theorem d_V_init_13 : decode b_V_init 13 = .ok (.bipush 8, 2) := by decide +kernel
theorem d_V_init_15 : decode b_V_init 15 = .ok (.newarray .boolean, 2) := by decide +kernel
theorem d_V_init_17 : decode b_V_init 17 = .ok (.putfield 15, 3) := by decide +kernel
theorem d_V_init_20 : decode b_V_init 20 = .ok (.return_, 1) := by decide +kernel
abbrev X_V_init (p : Program) (l : Launch) (e : Env) (k1 k2 : Nat) (s : State) (m : MethodId) (args : Array Value) (below : List Frame) (meth : Method) (c : Code) (B : AB) (n0 m0 : Nat) (h : AH) (pc : Nat) (lv : List (Nat × Value)) (st : List Value) (comp : Option (Unit × AH)) : Prop := XX p l e { frames := 1, cells := k1, slots := k2, locals := 12 } s m args below meth c b_V_init o_V lw_tt 1 (Option.none : Option Jvm.ClassFile.FieldType) "<init>" B n0 m0 (QM B below args s { frames := 1, cells := k1, slots := k2, locals := 12 } eU) h pc lv st comp
def f_V_init (a0 : Nat) (h : AH) : Option (Unit × AH) := nAk h 0 (8 : Int32) (defaultValue .long) (fun a101 h102 => (pF h102 2 0 (some a0) (.ref a101)).bind (fun h103 => nAk h103 1 (8 : Int32) (defaultValue .boolean) (fun a104 h105 => (pF h105 2 1 (some a0) (.ref a104)).bind (fun h106 => some ((), h106)))))
set_option maxHeartbeats 4000000 in
set_option maxRecDepth 100000 in
theorem c_V_init (l : Launch) (B : AB) (a0 : Nat) (h : AH) : CT l B y_V_init (Cond.code y_V_init b_V_init 1 (Option.none : Option Jvm.ClassFile.FieldType) :: lw_tt) 1 12 eU [.ref a0] h (f_V_init a0 h) := by
  refine ct_of (own := o_V) (nm := "<init>") (by decide +kernel) rfl rfl (Nat.le_of_ble_eq_true rfl) (fun p e k1 k2 s m args below meth c => ?_)
  refine x_sub (lv' := [(0, .ref a0)]) [0] rfl ?_
  unfold f_V_init
  refine x_go (pc' := 1) (st' := [.ref a0]) (fun hC _ _ _ _ _ _ hl k => lv_aload_n hC.1 hC.2.1 d_V_init_0 rfl (lv_at hl 0 rfl) k) ?_
  refine x_go (pc' := 4) (st' := []) (fun hC _ _ _ _ _ _ hl k => W.objInit hC.1 hC.2.1 hC.2.2.2.1 (hC.2.2.2.2.1 _ tw_19) (hC.2.2.2.2.1 _ tw_12) (hC.2.2.2.2.1 _ tw_13) rfl (by rw [hC.2.2.1]; exact hl.1) rfl d_V_init_1 (Nat.le_of_ble_eq_true rfl) (Nat.le_of_ble_eq_true rfl) k) ?_
  refine x_go (pc' := 5) (st' := [.ref a0]) (fun hC _ _ _ _ _ _ hl k => lv_aload_n hC.1 hC.2.1 d_V_init_4 rfl (lv_at hl 0 rfl) k) ?_
  refine x_go (pc' := 7) (st' := [.int (8 : Int32), .ref a0]) (fun hC _ _ _ _ _ _ hl k => lv_bipush (v := 8) hC.1 hC.2.1 d_V_init_5 (by decide) k) ?_
  refine x_newa (t := 0) (ty := .long) rfl rfl (fun _ _ => rfl) tw_27 (by decide) d_V_init_7 (fun a101 h102 => ?_)
  refine x_putF (ci := 2) (kf := 0) (r := (some a0)) (v := .ref a101) (fun hC => w_putF (ty := .array .long) hC iw_2 ft_2 ft_2_ok fn_2 rfl 0 (by decide) tw_20 rfl rfl rfl (by decide +kernel) rfl rfl d_V_init_9) (fun h103 => ?_)
  refine x_go (pc' := 13) (st' := [.ref a0]) (fun hC _ _ _ _ _ _ hl k => lv_aload_n hC.1 hC.2.1 d_V_init_12 rfl (lv_at hl 0 rfl) k) ?_
  refine x_go (pc' := 15) (st' := [.int (8 : Int32), .ref a0]) (fun hC _ _ _ _ _ _ hl k => lv_bipush (v := 8) hC.1 hC.2.1 d_V_init_13 (by decide) k) ?_
  refine x_newa (t := 1) (ty := .boolean) rfl rfl (fun _ _ => rfl) tw_28 (by decide) d_V_init_15 (fun a104 h105 => ?_)
  refine x_putF (ci := 2) (kf := 1) (r := (some a0)) (v := .ref a104) (fun hC => w_putF (ty := .array .boolean) hC iw_2 ft_2 ft_2_ok fn_2 rfl 1 (by decide) tw_21 rfl rfl rfl (by decide +kernel) rfl rfl d_V_init_17) (fun h106 => ?_)
  exact x_vret d_V_init_20
/-! SerialDesk.<init>()V -/
theorem d_D_init_0 : decode b_D_init 0 = .ok (.aload_n 0, 1) := by decide +kernel
theorem d_D_init_1 : decode b_D_init 1 = .ok (.invokespecial 3, 3) := by decide +kernel
theorem d_D_init_4 : decode b_D_init 4 = .ok (.aload_n 0, 1) := by decide +kernel
theorem d_D_init_5 : decode b_D_init 5 = .ok (.new 9, 3) := by decide +kernel
theorem d_D_init_8 : decode b_D_init 8 = .ok (.dup, 1) := by decide +kernel
theorem d_D_init_9 : decode b_D_init 9 = .ok (.invokespecial 11, 3) := by decide +kernel
theorem d_D_init_12 : decode b_D_init 12 = .ok (.putfield 12, 3) := by decide +kernel
theorem d_D_init_15 : decode b_D_init 15 = .ok (.aload_n 0, 1) := by decide +kernel
theorem d_D_init_16 : decode b_D_init 16 = .ok (.bipush 6, 2) := by decide +kernel
theorem d_D_init_18 : decode b_D_init 18 = .ok (.anewarray 16, 3) := by decide +kernel
theorem d_D_init_21 : decode b_D_init 21 = .ok (.putfield 18, 3) := by decide +kernel
theorem d_D_init_24 : decode b_D_init 24 = .ok (.aload_n 0, 1) := by decide +kernel
theorem d_D_init_25 : decode b_D_init 25 = .ok (.bipush 64, 2) := by decide +kernel
theorem d_D_init_27 : decode b_D_init 27 = .ok (.anewarray 16, 3) := by decide +kernel
theorem d_D_init_30 : decode b_D_init 30 = .ok (.putfield 22, 3) := by decide +kernel
theorem d_D_init_33 : decode b_D_init 33 = .ok (.aload_n 0, 1) := by decide +kernel
theorem d_D_init_34 : decode b_D_init 34 = .ok (.iconst 0, 1) := by decide +kernel
theorem d_D_init_35 : decode b_D_init 35 = .ok (.putfield 25, 3) := by decide +kernel
theorem d_D_init_38 : decode b_D_init 38 = .ok (.aload_n 0, 1) := by decide +kernel
theorem d_D_init_39 : decode b_D_init 39 = .ok (.iconst 0, 1) := by decide +kernel
theorem d_D_init_40 : decode b_D_init 40 = .ok (.putfield 29, 3) := by decide +kernel
theorem d_D_init_43 : decode b_D_init 43 = .ok (.aload_n 0, 1) := by decide +kernel
theorem d_D_init_44 : decode b_D_init 44 = .ok (.iconst 0, 1) := by decide +kernel
theorem d_D_init_45 : decode b_D_init 45 = .ok (.putfield 32, 3) := by decide +kernel
theorem d_D_init_48 : decode b_D_init 48 = .ok (.return_, 1) := by decide +kernel
abbrev X_D_init (p : Program) (l : Launch) (e : Env) (k1 k2 : Nat) (s : State) (m : MethodId) (args : Array Value) (below : List Frame) (meth : Method) (c : Code) (B : AB) (n0 m0 : Nat) (h : AH) (pc : Nat) (lv : List (Nat × Value)) (st : List Value) (comp : Option (Unit × AH)) : Prop := XX p l e { frames := 2, cells := k1, slots := k2, locals := 32 } s m args below meth c b_D_init o_D lw_tt 1 (Option.none : Option Jvm.ClassFile.FieldType) "<init>" B n0 m0 (QM B below args s { frames := 2, cells := k1, slots := k2, locals := 32 } eU) h pc lv st comp
def f_D_init (a0 : Nat) (h : AH) : Option (Unit × AH) := nOk h 2 [.null, .null] (fun a101 h102 => bndU (f_V_init a101 h102) (fun h103 => (pF h103 3 0 (some a0) (.ref a101)).bind (fun h104 => nAk h104 2 (6 : Int32) .null (fun a105 h106 => (pF h106 3 1 (some a0) (.ref a105)).bind (fun h107 => nAk h107 2 (64 : Int32) .null (fun a108 h109 => (pF h109 3 2 (some a0) (.ref a108)).bind (fun h110 => (pF h110 3 3 (some a0) (.int (0 : Int32))).bind (fun h111 => (pF h111 3 4 (some a0) (.int (0 : Int32))).bind (fun h112 => (pF h112 3 5 (some a0) (.int (0 : Int32))).bind (fun h113 => some ((), h113)))))))))))
set_option maxHeartbeats 4000000 in
set_option maxRecDepth 100000 in
theorem c_D_init (l : Launch) (B : AB) (a0 : Nat) (h : AH) : CT l B y_D_init (Cond.code y_D_init b_D_init 1 (Option.none : Option Jvm.ClassFile.FieldType) :: lw_tt) 2 32 eU [.ref a0] h (f_D_init a0 h) := by
  refine ct_of (own := o_D) (nm := "<init>") (by decide +kernel) rfl rfl (Nat.le_of_ble_eq_true rfl) (fun p e k1 k2 s m args below meth c => ?_)
  refine x_sub (lv' := [(0, .ref a0)]) [0] rfl ?_
  unfold f_D_init
  refine x_go (pc' := 1) (st' := [.ref a0]) (fun hC _ _ _ _ _ _ hl k => lv_aload_n hC.1 hC.2.1 d_D_init_0 rfl (lv_at hl 0 rfl) k) ?_
  refine x_go (pc' := 4) (st' := []) (fun hC _ _ _ _ _ _ hl k => W.objInit hC.1 hC.2.1 hC.2.2.2.1 (hC.2.2.2.2.1 _ tw_11) (hC.2.2.2.2.1 _ tw_12) (hC.2.2.2.2.1 _ tw_13) rfl (by rw [hC.2.2.1]; exact hl.1) rfl d_D_init_1 (Nat.le_of_ble_eq_true rfl) (Nat.le_of_ble_eq_true rfl) k) ?_
  refine x_go (pc' := 5) (st' := [.ref a0]) (fun hC _ _ _ _ _ _ hl k => lv_aload_n hC.1 hC.2.1 d_D_init_4 rfl (lv_at hl 0 rfl) k) ?_
  refine x_new (ci := 2) (fs := [.null, .null]) iw_2 ft_2 ft_2_ok tw_14 tw_15 tw_2 rfl rfl (by decide) d_D_init_5 (fun a101 h102 => ?_)
  refine x_go (pc' := 9) (st' := [.ref a101, .ref a101, .ref a0]) (fun hC _ _ _ _ _ _ hl k => lv_dup hC.1 hC.2.1 d_D_init_8 rfl k) ?_
  refine x_callU (rest := [.ref a101, .ref a0]) (c_V_init l B a101 h102) (fun hC => fun e1 e2 e3 e4 hM => fun hR hsz hc hs => run_IN (host := "SerialDesk") (n := 0) hC lw_good (List.mem_of_getElem? (i := 0) rfl) tw_17 tw_2 tw_18 rfl (by decide) d_D_init_9 (by rw [e1]; exact Nat.le_of_ble_eq_true rfl) (by rw [e2]; exact Nat.le_of_ble_eq_true rfl) e3 e4 hM hR hsz hc hs rfl rfl (Nat.le_of_ble_eq_true rfl)) (fun h103 => ?_)
  refine x_putF (ci := 3) (kf := 0) (r := (some a0)) (v := .ref a101) (fun hC => w_putF (ty := .object "SerialDesk$Version") hC iw_3 ft_3 ft_3_ok fn_3 rfl 0 (by decide) tw_31 rfl rfl rfl (by decide +kernel) rfl rfl d_D_init_12) (fun h104 => ?_)
  refine x_go (pc' := 16) (st' := [.ref a0]) (fun hC _ _ _ _ _ _ hl k => lv_aload_n hC.1 hC.2.1 d_D_init_15 rfl (lv_at hl 0 rfl) k) ?_
  refine x_go (pc' := 18) (st' := [.int (6 : Int32), .ref a0]) (fun hC _ _ _ _ _ _ hl k => lv_bipush (v := 6) hC.1 hC.2.1 d_D_init_16 (by decide) k) ?_
  refine x_anew (t := 2) rfl tw_29 (List.mem_of_getElem? (i := 0) rfl) d_D_init_18 (fun a105 h106 => ?_)
  refine x_putF (ci := 3) (kf := 1) (r := (some a0)) (v := .ref a105) (fun hC => w_putF (ty := .array (.object "SerialDesk$Transaction")) hC iw_3 ft_3 ft_3_ok fn_3 rfl 1 (by decide) tw_32 rfl rfl rfl (by decide +kernel) rfl rfl d_D_init_21) (fun h107 => ?_)
  refine x_go (pc' := 25) (st' := [.ref a0]) (fun hC _ _ _ _ _ _ hl k => lv_aload_n hC.1 hC.2.1 d_D_init_24 rfl (lv_at hl 0 rfl) k) ?_
  refine x_go (pc' := 27) (st' := [.int (64 : Int32), .ref a0]) (fun hC _ _ _ _ _ _ hl k => lv_bipush (v := 64) hC.1 hC.2.1 d_D_init_25 (by decide) k) ?_
  refine x_anew (t := 2) rfl tw_29 (List.mem_of_getElem? (i := 0) rfl) d_D_init_27 (fun a108 h109 => ?_)
  refine x_putF (ci := 3) (kf := 2) (r := (some a0)) (v := .ref a108) (fun hC => w_putF (ty := .array (.object "SerialDesk$Transaction")) hC iw_3 ft_3 ft_3_ok fn_3 rfl 2 (by decide) tw_33 rfl rfl rfl (by decide +kernel) rfl rfl d_D_init_30) (fun h110 => ?_)
  refine x_go (pc' := 34) (st' := [.ref a0]) (fun hC _ _ _ _ _ _ hl k => lv_aload_n hC.1 hC.2.1 d_D_init_33 rfl (lv_at hl 0 rfl) k) ?_
  refine x_go (pc' := 35) (st' := [.int (0 : Int32), .ref a0]) (fun hC _ _ _ _ _ _ hl k => lv_iconst (v := 0) hC.1 hC.2.1 d_D_init_34 (by decide) k) ?_
  refine x_putF (ci := 3) (kf := 3) (r := (some a0)) (v := .int (0 : Int32)) (fun hC => w_put (ty := .int) hC iw_3 ft_3 ft_3_ok fn_3 rfl 3 (by decide) tw_34 rfl rfl (by decide +kernel) rfl rfl d_D_init_35) (fun h111 => ?_)
  refine x_go (pc' := 39) (st' := [.ref a0]) (fun hC _ _ _ _ _ _ hl k => lv_aload_n hC.1 hC.2.1 d_D_init_38 rfl (lv_at hl 0 rfl) k) ?_
  refine x_go (pc' := 40) (st' := [.int (0 : Int32), .ref a0]) (fun hC _ _ _ _ _ _ hl k => lv_iconst (v := 0) hC.1 hC.2.1 d_D_init_39 (by decide) k) ?_
  refine x_putF (ci := 3) (kf := 4) (r := (some a0)) (v := .int (0 : Int32)) (fun hC => w_put (ty := .int) hC iw_3 ft_3 ft_3_ok fn_3 rfl 4 (by decide) tw_35 rfl rfl (by decide +kernel) rfl rfl d_D_init_40) (fun h112 => ?_)
  refine x_go (pc' := 44) (st' := [.ref a0]) (fun hC _ _ _ _ _ _ hl k => lv_aload_n hC.1 hC.2.1 d_D_init_43 rfl (lv_at hl 0 rfl) k) ?_
  refine x_go (pc' := 45) (st' := [.int (0 : Int32), .ref a0]) (fun hC _ _ _ _ _ _ hl k => lv_iconst (v := 0) hC.1 hC.2.1 d_D_init_44 (by decide) k) ?_
  refine x_putF (ci := 3) (kf := 5) (r := (some a0)) (v := .int (0 : Int32)) (fun hC => w_put (ty := .int) hC iw_3 ft_3 ft_3_ok fn_3 rfl 5 (by decide) tw_36 rfl rfl (by decide +kernel) rfl rfl d_D_init_45) (fun h113 => ?_)
  exact x_vret d_D_init_48
/-! SerialDesk.freeSlot()I -/
theorem d_D_freeSlot_0 : decode b_D_freeSlot 0 = .ok (.iconst 0, 1) := by decide +kernel
theorem d_D_freeSlot_1 : decode b_D_freeSlot 1 = .ok (.istore_n 1, 1) := by decide +kernel
theorem d_D_freeSlot_2 : decode b_D_freeSlot 2 = .ok (.iload_n 1, 1) := by decide +kernel
theorem d_D_freeSlot_3 : decode b_D_freeSlot 3 = .ok (.aload_n 0, 1) := by decide +kernel
theorem d_D_freeSlot_4 : decode b_D_freeSlot 4 = .ok (.getfield 22, 3) := by decide +kernel
theorem d_D_freeSlot_7 : decode b_D_freeSlot 7 = .ok (.arraylength, 1) := by decide +kernel
theorem d_D_freeSlot_8 : decode b_D_freeSlot 8 = .ok (.if_icmp .ge 20, 3) := by decide +kernel
theorem d_D_freeSlot_11 : decode b_D_freeSlot 11 = .ok (.aload_n 0, 1) := by decide +kernel
theorem d_D_freeSlot_12 : decode b_D_freeSlot 12 = .ok (.getfield 22, 3) := by decide +kernel
theorem d_D_freeSlot_15 : decode b_D_freeSlot 15 = .ok (.iload_n 1, 1) := by decide +kernel
theorem d_D_freeSlot_16 : decode b_D_freeSlot 16 = .ok (.aaload, 1) := by decide +kernel
theorem d_D_freeSlot_17 : decode b_D_freeSlot 17 = .ok (.ifnonnull 5, 3) := by decide +kernel
theorem d_D_freeSlot_20 : decode b_D_freeSlot 20 = .ok (.iload_n 1, 1) := by decide +kernel
theorem d_D_freeSlot_21 : decode b_D_freeSlot 21 = .ok (.ireturn, 1) := by decide +kernel
theorem d_D_freeSlot_22 : decode b_D_freeSlot 22 = .ok (.iinc 1 1, 3) := by decide +kernel
theorem d_D_freeSlot_25 : decode b_D_freeSlot 25 = .ok (.goto (-23), 3) := by decide +kernel
theorem d_D_freeSlot_28 : decode b_D_freeSlot 28 = .ok (.iconst (-1), 1) := by decide +kernel
theorem d_D_freeSlot_29 : decode b_D_freeSlot 29 = .ok (.ireturn, 1) := by decide +kernel
abbrev X_D_freeSlot (p : Program) (l : Launch) (e : Env) (k1 k2 : Nat) (s : State) (m : MethodId) (args : Array Value) (below : List Frame) (meth : Method) (c : Code) (B : AB) (n0 m0 : Nat) (h : AH) (pc : Nat) (lv : List (Nat × Value)) (st : List Value) (comp : Option (Int32 × AH)) : Prop := XX p l e { frames := 0, cells := k1, slots := k2, locals := 0 } s m args below meth c b_D_freeSlot o_D lw_tt 2 (Option.some Jvm.ClassFile.FieldType.int) "freeSlot" B n0 m0 (QM B below args s { frames := 0, cells := k1, slots := k2, locals := 0 } eI) h pc lv st comp
def f_D_freeSlot_b2 : Nat → Nat → Int32 → AH → Option (Int32 × AH)
  | 0, _, _, _ => none
  | n + 1, a0, x1, h => (fR h 3 2 (some a0)).bind (fun r1001 => (gN h 2 r1001).bind (fun x1002 => (if x1002 ≤ x1 then some ((-1 : Int32), h) else (fR h 3 2 (some a0)).bind (fun r1003 => (lR h 2 r1003 x1).bind (fun r1004 => (if r1004 = none then some (x1, h) else f_D_freeSlot_b2 n a0 (x1 + 1) h))))))
def f_D_freeSlot (a0 : Nat) (h : AH) : Option (Int32 × AH) := f_D_freeSlot_b2 2000 a0 (0 : Int32) h
set_option maxHeartbeats 4000000 in
set_option maxRecDepth 100000 in
theorem x_D_freeSlot_b2 {p : Program} {l : Launch} {e : Env} {k1 k2 : Nat} {s : State} {m : MethodId} {args : Array Value} {below : List Frame} {meth : Method} {c : Code} {B : AB} {n0 m0 : Nat} : ∀ (n : Nat) (a0 : Nat) (x1 : Int32) (h : AH), X_D_freeSlot p l e k1 k2 s m args below meth c B n0 m0 h 2 [(0, .ref a0), (1, .int x1)] [] (f_D_freeSlot_b2 n a0 x1 h) := by
  intro n
  induction n with
  | zero => intro a0 x1 h; exact x_none
  | succ n ih =>
    intro a0 x1 h
    rw [f_D_freeSlot_b2]
    refine x_go (pc' := 3) (st' := [.int x1]) (fun hC _ _ _ _ _ _ hl k => lv_iload_n hC.1 hC.2.1 d_D_freeSlot_2 rfl (lv_at hl 1 rfl) k) ?_
    refine x_go (pc' := 4) (st' := [.ref a0, .int x1]) (fun hC _ _ _ _ _ _ hl k => lv_aload_n hC.1 hC.2.1 d_D_freeSlot_3 rfl (lv_at hl 0 rfl) k) ?_
    refine x_getR (ci := 3) (kf := 2) (r := (some a0)) (fun hC => w_get hC iw_3 rfl 2 (by decide) tw_33 rfl d_D_freeSlot_4) (fun r1001 => ?_)
    refine x_alen (t := 2) rfl (r := r1001) d_D_freeSlot_7 (fun x1002 => ?_)
    refine x_if (P := x1002 ≤ x1) (pt := 28) (pf := 11) (st' := []) (fun hC _ _ _ _ _ _ kt kf => lv_icmp_ge (tgt := 28) hC.1 hC.2.1 d_D_freeSlot_8 (by decide) kt kf) ?_ ?_
    · refine x_go (pc' := 29) (st' := [.int (-1 : Int32)]) (fun hC _ _ _ _ _ _ hl k => lv_iconst (v := -1) hC.1 hC.2.1 d_D_freeSlot_28 (by decide) k) ?_
      exact x_iret d_D_freeSlot_29
    · refine x_go (pc' := 12) (st' := [.ref a0]) (fun hC _ _ _ _ _ _ hl k => lv_aload_n hC.1 hC.2.1 d_D_freeSlot_11 rfl (lv_at hl 0 rfl) k) ?_
      refine x_getR (ci := 3) (kf := 2) (r := (some a0)) (fun hC => w_get hC iw_3 rfl 2 (by decide) tw_33 rfl d_D_freeSlot_12) (fun r1003 => ?_)
      refine x_go (pc' := 16) (st' := [.int x1, va_rf r1003]) (fun hC _ _ _ _ _ _ hl k => lv_iload_n hC.1 hC.2.1 d_D_freeSlot_15 rfl (lv_at hl 1 rfl) k) ?_
      refine x_aald (t := 2) rfl rfl (r := r1003) (i := x1) d_D_freeSlot_16 (fun r1004 => ?_)
      refine x_if (P := r1004 = none) (pt := 20) (pf := 22) (st' := []) (fun hC _ _ _ _ _ _ kt kf => lv_ifnonnull_q (r := r1004) (tgt := 22) hC.1 hC.2.1 d_D_freeSlot_17 (by decide) kt kf) ?_ ?_
      · refine x_go (pc' := 21) (st' := [.int x1]) (fun hC _ _ _ _ _ _ hl k => lv_iload_n hC.1 hC.2.1 d_D_freeSlot_20 rfl (lv_at hl 1 rfl) k) ?_
        exact x_iret d_D_freeSlot_21
      · refine x_lift (pc' := 25) (st' := []) (lv' := [(1, .int (x1 + 1)), (0, .ref a0)]) (fun hC _ _ _ _ _ _ hl k => lv_iinc (v := (x1 + 1)) hC.1 hC.2.1 d_D_freeSlot_22 hl (k := 1) rfl rfl (by decide) rfl k) ?_
        refine x_go (pc' := 2) (st' := []) (fun hC _ _ _ _ _ _ hl k => lv_goto (tgt := 2) hC.1 hC.2.1 d_D_freeSlot_25 (by decide) k) ?_
        exact x_sub (lv' := [(0, .ref a0), (1, .int (x1 + 1))]) [1, 0] rfl (ih a0 (x1 + 1) h)
set_option maxHeartbeats 4000000 in
set_option maxRecDepth 100000 in
theorem c_D_freeSlot (l : Launch) (B : AB) (a0 : Nat) (h : AH) : CT l B y_D_freeSlot (Cond.code y_D_freeSlot b_D_freeSlot 2 (Option.some Jvm.ClassFile.FieldType.int) :: lw_tt) 0 0 eI [.ref a0] h (f_D_freeSlot a0 h) := by
  refine ct_of (own := o_D) (nm := "freeSlot") (by decide +kernel) rfl rfl (Nat.le_of_ble_eq_true rfl) (fun p e k1 k2 s m args below meth c => ?_)
  refine x_sub (lv' := [(0, .ref a0)]) [0] rfl ?_
  unfold f_D_freeSlot
  refine x_go (pc' := 1) (st' := [.int (0 : Int32)]) (fun hC _ _ _ _ _ _ hl k => lv_iconst (v := 0) hC.1 hC.2.1 d_D_freeSlot_0 (by decide) k) ?_
  refine x_lift (pc' := 2) (st' := []) (lv' := [(1, .int (0 : Int32)), (0, .ref a0)]) (fun hC _ _ _ _ _ _ hl k => lv_istore_n (i := 1) hC.1 hC.2.1 d_D_freeSlot_1 rfl hl (by decide) rfl k) ?_
  exact x_sub (lv' := [(0, .ref a0), (1, .int (0 : Int32))]) [1, 0] rfl (x_D_freeSlot_b2 2000 a0 (0 : Int32) h)
/-! SerialDesk.isSession(I)Z -/
theorem d_D_isSession_0 : decode b_D_isSession 0 = .ok (.iload_n 0, 1) := by decide +kernel
theorem d_D_isSession_1 : decode b_D_isSession 1 = .ok (.ifCond .lt 13, 3) := by decide +kernel
theorem d_D_isSession_4 : decode b_D_isSession 4 = .ok (.iload_n 0, 1) := by decide +kernel
theorem d_D_isSession_5 : decode b_D_isSession 5 = .ok (.bipush 6, 2) := by decide +kernel
theorem d_D_isSession_7 : decode b_D_isSession 7 = .ok (.if_icmp .ge 7, 3) := by decide +kernel
theorem d_D_isSession_10 : decode b_D_isSession 10 = .ok (.iconst 1, 1) := by decide +kernel
theorem d_D_isSession_11 : decode b_D_isSession 11 = .ok (.goto 4, 3) := by decide +kernel
theorem d_D_isSession_14 : decode b_D_isSession 14 = .ok (.iconst 0, 1) := by decide +kernel
theorem d_D_isSession_15 : decode b_D_isSession 15 = .ok (.ireturn, 1) := by decide +kernel
abbrev X_D_isSession (p : Program) (l : Launch) (e : Env) (k1 k2 : Nat) (s : State) (m : MethodId) (args : Array Value) (below : List Frame) (meth : Method) (c : Code) (B : AB) (n0 m0 : Nat) (h : AH) (pc : Nat) (lv : List (Nat × Value)) (st : List Value) (comp : Option (Int32 × AH)) : Prop := XX p l e { frames := 0, cells := k1, slots := k2, locals := 0 } s m args below meth c b_D_isSession o_D lw_tt 1 (Option.some Jvm.ClassFile.FieldType.boolean) "isSession" B n0 m0 (QM B below args s { frames := 0, cells := k1, slots := k2, locals := 0 } eI) h pc lv st comp
def f_D_isSession (x0 : Int32) (h : AH) : Option (Int32 × AH) := (if x0 < 0 then rZ (0 : Int32) h else (if (6 : Int32) ≤ x0 then rZ (0 : Int32) h else rZ (1 : Int32) h))
set_option maxHeartbeats 4000000 in
set_option maxRecDepth 100000 in
theorem c_D_isSession (l : Launch) (B : AB) (x0 : Int32) (h : AH) : CT l B y_D_isSession (Cond.code y_D_isSession b_D_isSession 1 (Option.some Jvm.ClassFile.FieldType.boolean) :: lw_tt) 0 0 eI [.int x0] h (f_D_isSession x0 h) := by
  refine ct_of (own := o_D) (nm := "isSession") (by decide +kernel) rfl rfl (Nat.le_of_ble_eq_true rfl) (fun p e k1 k2 s m args below meth c => ?_)
  refine x_sub (lv' := [(0, .int x0)]) [0] rfl ?_
  unfold f_D_isSession
  refine x_go (pc' := 1) (st' := [.int x0]) (fun hC _ _ _ _ _ _ hl k => lv_iload_n hC.1 hC.2.1 d_D_isSession_0 rfl (lv_at hl 0 rfl) k) ?_
  refine x_if (P := x0 < 0) (pt := 14) (pf := 4) (st' := []) (fun hC _ _ _ _ _ _ kt kf => lv_if_lt (tgt := 14) hC.1 hC.2.1 d_D_isSession_1 (by decide) kt kf) ?_ ?_
  · refine x_go (pc' := 15) (st' := [.int (0 : Int32)]) (fun hC _ _ _ _ _ _ hl k => lv_iconst (v := 0) hC.1 hC.2.1 d_D_isSession_14 (by decide) k) ?_
    exact x_zret d_D_isSession_15
  · refine x_go (pc' := 5) (st' := [.int x0]) (fun hC _ _ _ _ _ _ hl k => lv_iload_n hC.1 hC.2.1 d_D_isSession_4 rfl (lv_at hl 0 rfl) k) ?_
    refine x_go (pc' := 7) (st' := [.int (6 : Int32), .int x0]) (fun hC _ _ _ _ _ _ hl k => lv_bipush (v := 6) hC.1 hC.2.1 d_D_isSession_5 (by decide) k) ?_
    refine x_if (P := (6 : Int32) ≤ x0) (pt := 14) (pf := 10) (st' := []) (fun hC _ _ _ _ _ _ kt kf => lv_icmp_ge (tgt := 14) hC.1 hC.2.1 d_D_isSession_7 (by decide) kt kf) ?_ ?_
    · refine x_go (pc' := 15) (st' := [.int (0 : Int32)]) (fun hC _ _ _ _ _ _ hl k => lv_iconst (v := 0) hC.1 hC.2.1 d_D_isSession_14 (by decide) k) ?_
      exact x_zret d_D_isSession_15
    · refine x_go (pc' := 11) (st' := [.int (1 : Int32)]) (fun hC _ _ _ _ _ _ hl k => lv_iconst (v := 1) hC.1 hC.2.1 d_D_isSession_10 (by decide) k) ?_
      refine x_go (pc' := 15) (st' := [.int (1 : Int32)]) (fun hC _ _ _ _ _ _ hl k => lv_goto (tgt := 15) hC.1 hC.2.1 d_D_isSession_11 (by decide) k) ?_
      exact x_zret d_D_isSession_15
/-! SerialDesk$Transaction.<init>(III)V -/
theorem d_T_init_0 : decode b_T_init 0 = .ok (.aload_n 0, 1) := by decide +kernel
theorem d_T_init_1 : decode b_T_init 1 = .ok (.invokespecial 3, 3) := by decide +kernel
theorem d_T_init_4 : decode b_T_init 4 = .ok (.aload_n 0, 1) := by decide +kernel
theorem d_T_init_5 : decode b_T_init 5 = .ok (.iload_n 1, 1) := by decide +kernel
theorem d_T_init_6 : decode b_T_init 6 = .ok (.putfield 9, 3) := by decide +kernel
theorem d_T_init_9 : decode b_T_init 9 = .ok (.aload_n 0, 1) := by decide +kernel
theorem d_T_init_10 : decode b_T_init 10 = .ok (.iload_n 2, 1) := by decide +kernel
theorem d_T_init_11 : decode b_T_init 11 = .ok (.putfield 15, 3) := by decide +kernel
theorem d_T_init_14 : decode b_T_init 14 = .ok (.aload_n 0, 1) := by decide +kernel
theorem d_T_init_15 : decode b_T_init 15 = .ok (.iload_n 3, 1) := by decide +kernel
theorem d_T_init_16 : decode b_T_init 16 = .ok (.putfield 18, 3) := by decide +kernel
theorem d_T_init_19 : decode b_T_init 19 = .ok (.aload_n 0, 1) := by decide +kernel
theorem d_T_init_20 : decode b_T_init 20 = .ok (.iconst 0, 1) := by decide +kernel
theorem d_T_init_21 : decode b_T_init 21 = .ok (.putfield 21, 3) := by decide +kernel
theorem d_T_init_24 : decode b_T_init 24 = .ok (.aload_n 0, 1) := by decide +kernel
theorem d_T_init_25 : decode b_T_init 25 = .ok (.iconst 0, 1) := by decide +kernel
theorem d_T_init_26 : decode b_T_init 26 = .ok (.putfield 24, 3) := by decide +kernel
theorem d_T_init_29 : decode b_T_init 29 = .ok (.aload_n 0, 1) := by decide +kernel
theorem d_T_init_30 : decode b_T_init 30 = .ok (.lconst 0, 1) := by decide +kernel
theorem d_T_init_31 : decode b_T_init 31 = .ok (.putfield 28, 3) := by decide +kernel
theorem d_T_init_34 : decode b_T_init 34 = .ok (.aload_n 0, 1) := by decide +kernel
theorem d_T_init_35 : decode b_T_init 35 = .ok (.iconst 0, 1) := by decide +kernel
theorem d_T_init_36 : decode b_T_init 36 = .ok (.putfield 32, 3) := by decide +kernel
theorem d_T_init_39 : decode b_T_init 39 = .ok (.aload_n 0, 1) := by decide +kernel
theorem d_T_init_40 : decode b_T_init 40 = .ok (.bipush 8, 2) := by decide +kernel
theorem d_T_init_42 : decode b_T_init 42 = .ok (.anewarray 35, 3) := by decide +kernel
theorem d_T_init_45 : decode b_T_init 45 = .ok (.putfield 37, 3) := by decide +kernel
theorem d_T_init_48 : decode b_T_init 48 = .ok (.aload_n 0, 1) := by decide +kernel
theorem d_T_init_49 : decode b_T_init 49 = .ok (.bipush 8, 2) := by decide +kernel
theorem d_T_init_51 : decode b_T_init 51 = .ok (.newarray .int, 2) := by decide +kernel
theorem d_T_init_53 : decode b_T_init 53 = .ok (.putfield 41, 3) := by decide +kernel
theorem d_T_init_56 : decode b_T_init 56 = .ok (.return_, 1) := by decide +kernel
abbrev X_T_init (p : Program) (l : Launch) (e : Env) (k1 k2 : Nat) (s : State) (m : MethodId) (args : Array Value) (below : List Frame) (meth : Method) (c : Code) (B : AB) (n0 m0 : Nat) (h : AH) (pc : Nat) (lv : List (Nat × Value)) (st : List Value) (comp : Option (Unit × AH)) : Prop := XX p l e { frames := 1, cells := k1, slots := k2, locals := 12 } s m args below meth c b_T_init o_T lw_tt 4 (Option.none : Option Jvm.ClassFile.FieldType) "<init>" B n0 m0 (QM B below args s { frames := 1, cells := k1, slots := k2, locals := 12 } eU) h pc lv st comp
def f_T_init (a0 : Nat) (x1 : Int32) (x2 : Int32) (x3 : Int32) (h : AH) : Option (Unit × AH) := (pF h 1 0 (some a0) (.int x1)).bind (fun h101 => (pF h101 1 1 (some a0) (.int x2)).bind (fun h102 => (pF h102 1 2 (some a0) (.int x3)).bind (fun h103 => (pF h103 1 3 (some a0) (.int (0 : Int32))).bind (fun h104 => (pZ h104 1 4 (some a0) (0 : Int32)).bind (fun h105 => (pF h105 1 5 (some a0) (.long (0 : Int64))).bind (fun h106 => (pF h106 1 6 (some a0) (.int (0 : Int32))).bind (fun h107 => nAk h107 3 (8 : Int32) .null (fun a108 h109 => (pF h109 1 7 (some a0) (.ref a108)).bind (fun h110 => nAk h110 4 (8 : Int32) (defaultValue .int) (fun a111 h112 => (pF h112 1 8 (some a0) (.ref a111)).bind (fun h113 => some ((), h113))))))))))))
set_option maxHeartbeats 4000000 in
set_option maxRecDepth 100000 in
theorem c_T_init (l : Launch) (B : AB) (a0 : Nat) (x1 : Int32) (x2 : Int32) (x3 : Int32) (h : AH) : CT l B y_T_init (Cond.code y_T_init b_T_init 4 (Option.none : Option Jvm.ClassFile.FieldType) :: lw_tt) 1 12 eU [.ref a0, .int x1, .int x2, .int x3] h (f_T_init a0 x1 x2 x3 h) := by
  refine ct_of (own := o_T) (nm := "<init>") (by decide +kernel) rfl rfl (Nat.le_of_ble_eq_true rfl) (fun p e k1 k2 s m args below meth c => ?_)
  refine x_sub (lv' := [(0, .ref a0), (1, .int x1), (2, .int x2), (3, .int x3)]) [0, 1, 2, 3] rfl ?_
  unfold f_T_init
  refine x_go (pc' := 1) (st' := [.ref a0]) (fun hC _ _ _ _ _ _ hl k => lv_aload_n hC.1 hC.2.1 d_T_init_0 rfl (lv_at hl 0 rfl) k) ?_
  refine x_go (pc' := 4) (st' := []) (fun hC _ _ _ _ _ _ hl k => W.objInit hC.1 hC.2.1 hC.2.2.2.1 (hC.2.2.2.2.1 _ tw_65) (hC.2.2.2.2.1 _ tw_12) (hC.2.2.2.2.1 _ tw_13) rfl (by rw [hC.2.2.1]; exact hl.1) rfl d_T_init_1 (Nat.le_of_ble_eq_true rfl) (Nat.le_of_ble_eq_true rfl) k) ?_
  refine x_go (pc' := 5) (st' := [.ref a0]) (fun hC _ _ _ _ _ _ hl k => lv_aload_n hC.1 hC.2.1 d_T_init_4 rfl (lv_at hl 0 rfl) k) ?_
  refine x_go (pc' := 6) (st' := [.int x1, .ref a0]) (fun hC _ _ _ _ _ _ hl k => lv_iload_n hC.1 hC.2.1 d_T_init_5 rfl (lv_at hl 1 rfl) k) ?_
  refine x_putF (ci := 1) (kf := 0) (r := (some a0)) (v := .int x1) (fun hC => w_putF (ty := .int) hC iw_1 ft_1 ft_1_ok fn_1 rfl 0 (by decide) tw_68 rfl rfl rfl (by decide +kernel) rfl rfl d_T_init_6) (fun h101 => ?_)
  refine x_go (pc' := 10) (st' := [.ref a0]) (fun hC _ _ _ _ _ _ hl k => lv_aload_n hC.1 hC.2.1 d_T_init_9 rfl (lv_at hl 0 rfl) k) ?_
  refine x_go (pc' := 11) (st' := [.int x2, .ref a0]) (fun hC _ _ _ _ _ _ hl k => lv_iload_n hC.1 hC.2.1 d_T_init_10 rfl (lv_at hl 2 rfl) k) ?_
  refine x_putF (ci := 1) (kf := 1) (r := (some a0)) (v := .int x2) (fun hC => w_putF (ty := .int) hC iw_1 ft_1 ft_1_ok fn_1 rfl 1 (by decide) tw_70 rfl rfl rfl (by decide +kernel) rfl rfl d_T_init_11) (fun h102 => ?_)
  refine x_go (pc' := 15) (st' := [.ref a0]) (fun hC _ _ _ _ _ _ hl k => lv_aload_n hC.1 hC.2.1 d_T_init_14 rfl (lv_at hl 0 rfl) k) ?_
  refine x_go (pc' := 16) (st' := [.int x3, .ref a0]) (fun hC _ _ _ _ _ _ hl k => lv_iload_n hC.1 hC.2.1 d_T_init_15 rfl (lv_at hl 3 rfl) k) ?_
  refine x_putF (ci := 1) (kf := 2) (r := (some a0)) (v := .int x3) (fun hC => w_putF (ty := .int) hC iw_1 ft_1 ft_1_ok fn_1 rfl 2 (by decide) tw_71 rfl rfl rfl (by decide +kernel) rfl rfl d_T_init_16) (fun h103 => ?_)
  refine x_go (pc' := 20) (st' := [.ref a0]) (fun hC _ _ _ _ _ _ hl k => lv_aload_n hC.1 hC.2.1 d_T_init_19 rfl (lv_at hl 0 rfl) k) ?_
  refine x_go (pc' := 21) (st' := [.int (0 : Int32), .ref a0]) (fun hC _ _ _ _ _ _ hl k => lv_iconst (v := 0) hC.1 hC.2.1 d_T_init_20 (by decide) k) ?_
  refine x_putF (ci := 1) (kf := 3) (r := (some a0)) (v := .int (0 : Int32)) (fun hC => w_put (ty := .int) hC iw_1 ft_1 ft_1_ok fn_1 rfl 3 (by decide) tw_73 rfl rfl (by decide +kernel) rfl rfl d_T_init_21) (fun h104 => ?_)
  refine x_go (pc' := 25) (st' := [.ref a0]) (fun hC _ _ _ _ _ _ hl k => lv_aload_n hC.1 hC.2.1 d_T_init_24 rfl (lv_at hl 0 rfl) k) ?_
  refine x_go (pc' := 26) (st' := [.int (0 : Int32), .ref a0]) (fun hC _ _ _ _ _ _ hl k => lv_iconst (v := 0) hC.1 hC.2.1 d_T_init_25 (by decide) k) ?_
  refine x_putZ (ci := 1) (kf := 4) (r := (some a0)) (x := (0 : Int32)) (fun hz hC => w_put (ty := .boolean) hC iw_1 ft_1 ft_1_ok fn_1 rfl 4 (by decide) tw_75 rfl rfl (by decide +kernel) hz rfl d_T_init_26) (fun h105 => ?_)
  refine x_go (pc' := 30) (st' := [.ref a0]) (fun hC _ _ _ _ _ _ hl k => lv_aload_n hC.1 hC.2.1 d_T_init_29 rfl (lv_at hl 0 rfl) k) ?_
  refine x_go (pc' := 31) (st' := [.long (0 : Int64), .ref a0]) (fun hC _ _ _ _ _ _ hl k => lv_lconst (v := 0) hC.1 hC.2.1 d_T_init_30 (by decide) k) ?_
  refine x_putF (ci := 1) (kf := 5) (r := (some a0)) (v := .long (0 : Int64)) (fun hC => w_put (ty := .long) hC iw_1 ft_1 ft_1_ok fn_1 rfl 5 (by decide) tw_77 rfl rfl (by decide +kernel) rfl rfl d_T_init_31) (fun h106 => ?_)
  refine x_go (pc' := 35) (st' := [.ref a0]) (fun hC _ _ _ _ _ _ hl k => lv_aload_n hC.1 hC.2.1 d_T_init_34 rfl (lv_at hl 0 rfl) k) ?_
  refine x_go (pc' := 36) (st' := [.int (0 : Int32), .ref a0]) (fun hC _ _ _ _ _ _ hl k => lv_iconst (v := 0) hC.1 hC.2.1 d_T_init_35 (by decide) k) ?_
  refine x_putF (ci := 1) (kf := 6) (r := (some a0)) (v := .int (0 : Int32)) (fun hC => w_put (ty := .int) hC iw_1 ft_1 ft_1_ok fn_1 rfl 6 (by decide) tw_78 rfl rfl (by decide +kernel) rfl rfl d_T_init_36) (fun h107 => ?_)
  refine x_go (pc' := 40) (st' := [.ref a0]) (fun hC _ _ _ _ _ _ hl k => lv_aload_n hC.1 hC.2.1 d_T_init_39 rfl (lv_at hl 0 rfl) k) ?_
  refine x_go (pc' := 42) (st' := [.int (8 : Int32), .ref a0]) (fun hC _ _ _ _ _ _ hl k => lv_bipush (v := 8) hC.1 hC.2.1 d_T_init_40 (by decide) k) ?_
  refine x_anew (t := 3) rfl tw_66 (List.mem_of_getElem? (i := 1) rfl) d_T_init_42 (fun a108 h109 => ?_)
  refine x_putF (ci := 1) (kf := 7) (r := (some a0)) (v := .ref a108) (fun hC => w_putF (ty := .array (.object "SerialDesk$Range")) hC iw_1 ft_1 ft_1_ok fn_1 rfl 7 (by decide) tw_80 rfl rfl rfl (by decide +kernel) rfl rfl d_T_init_45) (fun h110 => ?_)
  refine x_go (pc' := 49) (st' := [.ref a0]) (fun hC _ _ _ _ _ _ hl k => lv_aload_n hC.1 hC.2.1 d_T_init_48 rfl (lv_at hl 0 rfl) k) ?_
  refine x_go (pc' := 51) (st' := [.int (8 : Int32), .ref a0]) (fun hC _ _ _ _ _ _ hl k => lv_bipush (v := 8) hC.1 hC.2.1 d_T_init_49 (by decide) k) ?_
  refine x_newa (t := 4) (ty := .int) rfl rfl (fun _ _ => rfl) tw_101 (by decide) d_T_init_51 (fun a111 h112 => ?_)
  refine x_putF (ci := 1) (kf := 8) (r := (some a0)) (v := .ref a111) (fun hC => w_putF (ty := .array .int) hC iw_1 ft_1 ft_1_ok fn_1 rfl 8 (by decide) tw_81 rfl rfl rfl (by decide +kernel) rfl rfl d_T_init_53) (fun h113 => ?_)
  exact x_vret d_T_init_56
/-! SerialDesk.begin(I)I -/
theorem d_D_begin_0 : decode b_D_begin 0 = .ok (.aload_n 0, 1) := by decide +kernel
theorem d_D_begin_1 : decode b_D_begin 1 = .ok (.invokevirtual 35, 3) := by decide +kernel
theorem d_D_begin_4 : decode b_D_begin 4 = .ok (.istore_n 2, 1) := by decide +kernel
theorem d_D_begin_5 : decode b_D_begin 5 = .ok (.iload_n 1, 1) := by decide +kernel
theorem d_D_begin_6 : decode b_D_begin 6 = .ok (.invokestatic 39, 3) := by decide +kernel
theorem d_D_begin_9 : decode b_D_begin 9 = .ok (.ifCond .eq 16, 3) := by decide +kernel
theorem d_D_begin_12 : decode b_D_begin 12 = .ok (.aload_n 0, 1) := by decide +kernel
theorem d_D_begin_13 : decode b_D_begin 13 = .ok (.getfield 18, 3) := by decide +kernel
theorem d_D_begin_16 : decode b_D_begin 16 = .ok (.iload_n 1, 1) := by decide +kernel
theorem d_D_begin_17 : decode b_D_begin 17 = .ok (.aaload, 1) := by decide +kernel
theorem d_D_begin_18 : decode b_D_begin 18 = .ok (.ifnonnull 7, 3) := by decide +kernel
theorem d_D_begin_21 : decode b_D_begin 21 = .ok (.iload_n 2, 1) := by decide +kernel
theorem d_D_begin_22 : decode b_D_begin 22 = .ok (.ifCond .ge 5, 3) := by decide +kernel
theorem d_D_begin_25 : decode b_D_begin 25 = .ok (.iconst (-1), 1) := by decide +kernel
theorem d_D_begin_26 : decode b_D_begin 26 = .ok (.ireturn, 1) := by decide +kernel
theorem d_D_begin_27 : decode b_D_begin 27 = .ok (.aload_n 0, 1) := by decide +kernel
theorem d_D_begin_28 : decode b_D_begin 28 = .ok (.dup, 1) := by decide +kernel
theorem d_D_begin_29 : decode b_D_begin 29 = .ok (.getfield 29, 3) := by decide +kernel
theorem d_D_begin_32 : decode b_D_begin 32 = .ok (.iconst 1, 1) := by decide +kernel
theorem d_D_begin_33 : decode b_D_begin 33 = .ok (.iadd, 1) := by decide +kernel
theorem d_D_begin_34 : decode b_D_begin 34 = .ok (.putfield 29, 3) := by decide +kernel
theorem d_D_begin_37 : decode b_D_begin 37 = .ok (.new 16, 3) := by decide +kernel
theorem d_D_begin_40 : decode b_D_begin 40 = .ok (.dup, 1) := by decide +kernel
theorem d_D_begin_41 : decode b_D_begin 41 = .ok (.aload_n 0, 1) := by decide +kernel
theorem d_D_begin_42 : decode b_D_begin 42 = .ok (.getfield 29, 3) := by decide +kernel
theorem d_D_begin_45 : decode b_D_begin 45 = .ok (.iload_n 2, 1) := by decide +kernel
theorem d_D_begin_46 : decode b_D_begin 46 = .ok (.aload_n 0, 1) := by decide +kernel
theorem d_D_begin_47 : decode b_D_begin 47 = .ok (.getfield 32, 3) := by decide +kernel
theorem d_D_begin_50 : decode b_D_begin 50 = .ok (.invokespecial 43, 3) := by decide +kernel
theorem d_D_begin_53 : decode b_D_begin 53 = .ok (.astore_n 3, 1) := by decide +kernel
theorem d_D_begin_54 : decode b_D_begin 54 = .ok (.aload_n 0, 1) := by decide +kernel
theorem d_D_begin_55 : decode b_D_begin 55 = .ok (.getfield 18, 3) := by decide +kernel
theorem d_D_begin_58 : decode b_D_begin 58 = .ok (.iload_n 1, 1) := by decide +kernel
theorem d_D_begin_59 : decode b_D_begin 59 = .ok (.aload_n 3, 1) := by decide +kernel
theorem d_D_begin_60 : decode b_D_begin 60 = .ok (.aastore, 1) := by decide +kernel
theorem d_D_begin_61 : decode b_D_begin 61 = .ok (.aload_n 0, 1) := by decide +kernel
theorem d_D_begin_62 : decode b_D_begin 62 = .ok (.getfield 22, 3) := by decide +kernel
theorem d_D_begin_65 : decode b_D_begin 65 = .ok (.iload_n 2, 1) := by decide +kernel
theorem d_D_begin_66 : decode b_D_begin 66 = .ok (.aload_n 3, 1) := by decide +kernel
theorem d_D_begin_67 : decode b_D_begin 67 = .ok (.aastore, 1) := by decide +kernel
theorem d_D_begin_68 : decode b_D_begin 68 = .ok (.aload_n 0, 1) := by decide +kernel
theorem d_D_begin_69 : decode b_D_begin 69 = .ok (.dup, 1) := by decide +kernel
theorem d_D_begin_70 : decode b_D_begin 70 = .ok (.getfield 25, 3) := by decide +kernel
theorem d_D_begin_73 : decode b_D_begin 73 = .ok (.iconst 1, 1) := by decide +kernel
theorem d_D_begin_74 : decode b_D_begin 74 = .ok (.iadd, 1) := by decide +kernel
theorem d_D_begin_75 : decode b_D_begin 75 = .ok (.putfield 25, 3) := by decide +kernel
theorem d_D_begin_78 : decode b_D_begin 78 = .ok (.aload_n 3, 1) := by decide +kernel
theorem d_D_begin_79 : decode b_D_begin 79 = .ok (.getfield 46, 3) := by decide +kernel
theorem d_D_begin_82 : decode b_D_begin 82 = .ok (.ireturn, 1) := by decide +kernel
abbrev X_D_begin (p : Program) (l : Launch) (e : Env) (k1 k2 : Nat) (s : State) (m : MethodId) (args : Array Value) (below : List Frame) (meth : Method) (c : Code) (B : AB) (n0 m0 : Nat) (h : AH) (pc : Nat) (lv : List (Nat × Value)) (st : List Value) (comp : Option (Int32 × AH)) : Prop := XX p l e { frames := 2, cells := k1, slots := k2, locals := 35 } s m args below meth c b_D_begin o_D lw_tt 4 (Option.some Jvm.ClassFile.FieldType.int) "begin" B n0 m0 (QM B below args s { frames := 2, cells := k1, slots := k2, locals := 35 } eI) h pc lv st comp
def f_D_begin (a0 : Nat) (x1 : Int32) (h : AH) : Option (Int32 × AH) := rcv h 3 (some a0) (fun b103 => bnd (f_D_freeSlot b103 h) (fun x102 h101 => bnd (f_D_isSession x1 h101) (fun x105 h104 => (if x105 = 0 then some ((-1 : Int32), h104) else (fR h104 3 1 (some a0)).bind (fun r106 => (lR h104 2 r106 x1).bind (fun r107 => (if r107 = none then (if 0 ≤ x102 then (fI h104 3 4 (some a0)).bind (fun x108 => (pF h104 3 4 (some a0) (.int (x108 + (1 : Int32)))).bind (fun h109 => nOk h109 1 [.int 0, .int 0, .int 0, .int 0, .int 0, .long 0, .int 0, .null, .null] (fun a110 h111 => (fI h111 3 4 (some a0)).bind (fun x112 => (fI h111 3 5 (some a0)).bind (fun x113 => bndU (f_T_init a110 x112 x102 x113 h111) (fun h114 => (fR h114 3 1 (some a0)).bind (fun r115 => (qR h114 2 1 r115 x1 (some a110)).bind (fun h116 => (fR h116 3 2 (some a0)).bind (fun r117 => (qR h116 2 1 r117 x102 (some a110)).bind (fun h118 => (fI h118 3 3 (some a0)).bind (fun x119 => (pF h118 3 3 (some a0) (.int (x119 + (1 : Int32)))).bind (fun h120 => (fI h120 1 0 (some a110)).bind (fun x121 => some (x121, h120)))))))))))))) else some ((-1 : Int32), h104)) else some ((-1 : Int32), h104))))))))
set_option maxHeartbeats 4000000 in
set_option maxRecDepth 100000 in
theorem c_D_begin (l : Launch) (B : AB) (a0 : Nat) (x1 : Int32) (h : AH) : CT l B y_D_begin (Cond.code y_D_begin b_D_begin 4 (Option.some Jvm.ClassFile.FieldType.int) :: lw_tt) 2 35 eI [.ref a0, .int x1] h (f_D_begin a0 x1 h) := by
  refine ct_of (own := o_D) (nm := "begin") (by decide +kernel) rfl rfl (Nat.le_of_ble_eq_true rfl) (fun p e k1 k2 s m args below meth c => ?_)
  refine x_sub (lv' := [(0, .ref a0), (1, .int x1)]) [0, 1] rfl ?_
  unfold f_D_begin
  refine x_go (pc' := 1) (st' := [.ref a0]) (fun hC _ _ _ _ _ _ hl k => lv_aload_n hC.1 hC.2.1 d_D_begin_0 rfl (lv_at hl 0 rfl) k) ?_
  refine x_recv (ci := 3) (r := (some a0)) (fun b103 _ eb103 gb103 => ?_)
  refine x_callI (rest := []) (c_D_freeSlot l B b103 h) (fun hC => fun e1 e2 e3 e4 hM => fun hR hsz hc hs => run_V (n := 0) hC lw_good rfl rfl tw_54 tw_56 tv_0 tw_1 tw_57 (by decide) d_D_begin_1 gb103 (by rw [e1]; exact Nat.le_of_ble_eq_true rfl) (by rw [e2]; exact Nat.le_of_ble_eq_true rfl) e3 e4 hM hR hsz hc hs rfl (by cases eb103; rfl) (Nat.le_of_ble_eq_true rfl)) (fun x102 h101 => ?_)
  refine x_lift (pc' := 5) (st' := []) (lv' := [(2, .int x102), (0, .ref a0), (1, .int x1)]) (fun hC _ _ _ _ _ _ hl k => lv_istore_n (i := 2) hC.1 hC.2.1 d_D_begin_4 rfl hl (by decide) rfl k) ?_
  refine x_go (pc' := 6) (st' := [.int x1]) (fun hC _ _ _ _ _ _ hl k => lv_iload_n hC.1 hC.2.1 d_D_begin_5 rfl (lv_at hl 2 rfl) k) ?_
  refine x_callI (rest := []) (c_D_isSession l B x1 h101) (fun hC => fun e1 e2 e3 e4 hM => fun hR hsz hc hs => run_S (n := 1) hC lw_good tw_58 tw_59 tw_1 tw_60 (by decide) d_D_begin_6 (by rw [e1]; exact Nat.le_of_ble_eq_true rfl) (by rw [e2]; exact Nat.le_of_ble_eq_true rfl) e3 e4 hM hR hsz hc hs rfl rfl (Nat.le_of_ble_eq_true rfl)) (fun x105 h104 => ?_)
  refine x_if (P := x105 = 0) (pt := 25) (pf := 12) (st' := []) (fun hC _ _ _ _ _ _ kt kf => lv_if_eq (tgt := 25) hC.1 hC.2.1 d_D_begin_9 (by decide) kt kf) ?_ ?_
  · refine x_go (pc' := 26) (st' := [.int (-1 : Int32)]) (fun hC _ _ _ _ _ _ hl k => lv_iconst (v := -1) hC.1 hC.2.1 d_D_begin_25 (by decide) k) ?_
    exact x_iret d_D_begin_26
  · refine x_go (pc' := 13) (st' := [.ref a0]) (fun hC _ _ _ _ _ _ hl k => lv_aload_n hC.1 hC.2.1 d_D_begin_12 rfl (lv_at hl 1 rfl) k) ?_
    refine x_getR (ci := 3) (kf := 1) (r := (some a0)) (fun hC => w_get hC iw_3 rfl 1 (by decide) tw_32 rfl d_D_begin_13) (fun r106 => ?_)
    refine x_go (pc' := 17) (st' := [.int x1, va_rf r106]) (fun hC _ _ _ _ _ _ hl k => lv_iload_n hC.1 hC.2.1 d_D_begin_16 rfl (lv_at hl 2 rfl) k) ?_
    refine x_aald (t := 2) rfl rfl (r := r106) (i := x1) d_D_begin_17 (fun r107 => ?_)
    refine x_if (P := r107 = none) (pt := 21) (pf := 25) (st' := []) (fun hC _ _ _ _ _ _ kt kf => lv_ifnonnull_q (r := r107) (tgt := 25) hC.1 hC.2.1 d_D_begin_18 (by decide) kt kf) ?_ ?_
    · refine x_go (pc' := 22) (st' := [.int x102]) (fun hC _ _ _ _ _ _ hl k => lv_iload_n hC.1 hC.2.1 d_D_begin_21 rfl (lv_at hl 0 rfl) k) ?_
      refine x_if (P := 0 ≤ x102) (pt := 27) (pf := 25) (st' := []) (fun hC _ _ _ _ _ _ kt kf => lv_if_ge (tgt := 27) hC.1 hC.2.1 d_D_begin_22 (by decide) kt kf) ?_ ?_
      · refine x_go (pc' := 28) (st' := [.ref a0]) (fun hC _ _ _ _ _ _ hl k => lv_aload_n hC.1 hC.2.1 d_D_begin_27 rfl (lv_at hl 1 rfl) k) ?_
        refine x_go (pc' := 29) (st' := [.ref a0, .ref a0]) (fun hC _ _ _ _ _ _ hl k => lv_dup hC.1 hC.2.1 d_D_begin_28 rfl k) ?_
        refine x_getI (ci := 3) (kf := 4) (r := (some a0)) (fun hC => w_get hC iw_3 rfl 4 (by decide) tw_35 rfl d_D_begin_29) (fun x108 => ?_)
        refine x_go (pc' := 33) (st' := [.int (1 : Int32), .int x108, .ref a0]) (fun hC _ _ _ _ _ _ hl k => lv_iconst (v := 1) hC.1 hC.2.1 d_D_begin_32 (by decide) k) ?_
        refine x_go (pc' := 34) (st' := [.int (x108 + (1 : Int32)), .ref a0]) (fun hC _ _ _ _ _ _ hl k => lv_iadd hC.1 hC.2.1 d_D_begin_33 k) ?_
        refine x_putF (ci := 3) (kf := 4) (r := (some a0)) (v := .int (x108 + (1 : Int32))) (fun hC => w_put (ty := .int) hC iw_3 ft_3 ft_3_ok fn_3 rfl 4 (by decide) tw_35 rfl rfl (by decide +kernel) rfl rfl d_D_begin_34) (fun h109 => ?_)
        refine x_new (ci := 1) (fs := [.int 0, .int 0, .int 0, .int 0, .int 0, .long 0, .int 0, .null, .null]) iw_1 ft_1 ft_1_ok tw_29 tw_61 tw_4 rfl rfl (by decide) d_D_begin_37 (fun a110 h111 => ?_)
        refine x_go (pc' := 41) (st' := [.ref a110, .ref a110]) (fun hC _ _ _ _ _ _ hl k => lv_dup hC.1 hC.2.1 d_D_begin_40 rfl k) ?_
        refine x_go (pc' := 42) (st' := [.ref a0, .ref a110, .ref a110]) (fun hC _ _ _ _ _ _ hl k => lv_aload_n hC.1 hC.2.1 d_D_begin_41 rfl (lv_at hl 1 rfl) k) ?_
        refine x_getI (ci := 3) (kf := 4) (r := (some a0)) (fun hC => w_get hC iw_3 rfl 4 (by decide) tw_35 rfl d_D_begin_42) (fun x112 => ?_)
        refine x_go (pc' := 46) (st' := [.int x102, .int x112, .ref a110, .ref a110]) (fun hC _ _ _ _ _ _ hl k => lv_iload_n hC.1 hC.2.1 d_D_begin_45 rfl (lv_at hl 0 rfl) k) ?_
        refine x_go (pc' := 47) (st' := [.ref a0, .int x102, .int x112, .ref a110, .ref a110]) (fun hC _ _ _ _ _ _ hl k => lv_aload_n hC.1 hC.2.1 d_D_begin_46 rfl (lv_at hl 1 rfl) k) ?_
        refine x_getI (ci := 3) (kf := 5) (r := (some a0)) (fun hC => w_get hC iw_3 rfl 5 (by decide) tw_36 rfl d_D_begin_47) (fun x113 => ?_)
        refine x_callU (rest := [.ref a110]) (c_T_init l B a110 x112 x102 x113 h111) (fun hC => fun e1 e2 e3 e4 hM => fun hR hsz hc hs => run_I (n := 3) hC lw_good tw_62 tw_63 tw_4 tw_64 rfl (by decide) d_D_begin_50 (by rw [e1]; exact Nat.le_of_ble_eq_true rfl) (by rw [e2]; exact Nat.le_of_ble_eq_true rfl) e3 e4 hM hR hsz hc hs rfl rfl (Nat.le_of_ble_eq_true rfl)) (fun h114 => ?_)
        refine x_lift (pc' := 54) (st' := []) (lv' := [(3, .ref a110), (2, .int x102), (0, .ref a0), (1, .int x1)]) (fun hC _ _ _ _ _ _ hl k => lv_astore_n (i := 3) hC.1 hC.2.1 d_D_begin_53 rfl hl (by decide) rfl k) ?_
        refine x_go (pc' := 55) (st' := [.ref a0]) (fun hC _ _ _ _ _ _ hl k => lv_aload_n hC.1 hC.2.1 d_D_begin_54 rfl (lv_at hl 2 rfl) k) ?_
        refine x_getR (ci := 3) (kf := 1) (r := (some a0)) (fun hC => w_get hC iw_3 rfl 1 (by decide) tw_32 rfl d_D_begin_55) (fun r115 => ?_)
        refine x_go (pc' := 59) (st' := [.int x1, va_rf r115]) (fun hC _ _ _ _ _ _ hl k => lv_iload_n hC.1 hC.2.1 d_D_begin_58 rfl (lv_at hl 3 rfl) k) ?_
        refine x_go (pc' := 60) (st' := [.ref a110, .int x1, va_rf r115]) (fun hC _ _ _ _ _ _ hl k => lv_aload_n hC.1 hC.2.1 d_D_begin_59 rfl (lv_at hl 0 rfl) k) ?_
        refine x_aast (t := 2) (ci := 1) rfl rfl (r := r115) (x := (some a110)) (i := x1) d_D_begin_60 (fun h116 => ?_)
        refine x_go (pc' := 62) (st' := [.ref a0]) (fun hC _ _ _ _ _ _ hl k => lv_aload_n hC.1 hC.2.1 d_D_begin_61 rfl (lv_at hl 2 rfl) k) ?_
        refine x_getR (ci := 3) (kf := 2) (r := (some a0)) (fun hC => w_get hC iw_3 rfl 2 (by decide) tw_33 rfl d_D_begin_62) (fun r117 => ?_)
        refine x_go (pc' := 66) (st' := [.int x102, va_rf r117]) (fun hC _ _ _ _ _ _ hl k => lv_iload_n hC.1 hC.2.1 d_D_begin_65 rfl (lv_at hl 1 rfl) k) ?_
        refine x_go (pc' := 67) (st' := [.ref a110, .int x102, va_rf r117]) (fun hC _ _ _ _ _ _ hl k => lv_aload_n hC.1 hC.2.1 d_D_begin_66 rfl (lv_at hl 0 rfl) k) ?_
        refine x_aast (t := 2) (ci := 1) rfl rfl (r := r117) (x := (some a110)) (i := x102) d_D_begin_67 (fun h118 => ?_)
        refine x_go (pc' := 69) (st' := [.ref a0]) (fun hC _ _ _ _ _ _ hl k => lv_aload_n hC.1 hC.2.1 d_D_begin_68 rfl (lv_at hl 2 rfl) k) ?_
        refine x_go (pc' := 70) (st' := [.ref a0, .ref a0]) (fun hC _ _ _ _ _ _ hl k => lv_dup hC.1 hC.2.1 d_D_begin_69 rfl k) ?_
        refine x_getI (ci := 3) (kf := 3) (r := (some a0)) (fun hC => w_get hC iw_3 rfl 3 (by decide) tw_34 rfl d_D_begin_70) (fun x119 => ?_)
        refine x_go (pc' := 74) (st' := [.int (1 : Int32), .int x119, .ref a0]) (fun hC _ _ _ _ _ _ hl k => lv_iconst (v := 1) hC.1 hC.2.1 d_D_begin_73 (by decide) k) ?_
        refine x_go (pc' := 75) (st' := [.int (x119 + (1 : Int32)), .ref a0]) (fun hC _ _ _ _ _ _ hl k => lv_iadd hC.1 hC.2.1 d_D_begin_74 k) ?_
        refine x_putF (ci := 3) (kf := 3) (r := (some a0)) (v := .int (x119 + (1 : Int32))) (fun hC => w_put (ty := .int) hC iw_3 ft_3 ft_3_ok fn_3 rfl 3 (by decide) tw_34 rfl rfl (by decide +kernel) rfl rfl d_D_begin_75) (fun h120 => ?_)
        refine x_go (pc' := 79) (st' := [.ref a110]) (fun hC _ _ _ _ _ _ hl k => lv_aload_n hC.1 hC.2.1 d_D_begin_78 rfl (lv_at hl 0 rfl) k) ?_
        refine x_getI (ci := 1) (kf := 0) (r := (some a110)) (fun hC => w_getN (host := "SerialDesk") hC iw_1 rfl 0 (by decide) (List.mem_of_getElem? (i := 0) rfl) rfl d_D_begin_79) (fun x121 => ?_)
        exact x_iret d_D_begin_82
      · refine x_go (pc' := 26) (st' := [.int (-1 : Int32)]) (fun hC _ _ _ _ _ _ hl k => lv_iconst (v := -1) hC.1 hC.2.1 d_D_begin_25 (by decide) k) ?_
        exact x_iret d_D_begin_26
    · refine x_go (pc' := 26) (st' := [.int (-1 : Int32)]) (fun hC _ _ _ _ _ _ hl k => lv_iconst (v := -1) hC.1 hC.2.1 d_D_begin_25 (by decide) k) ?_
      exact x_iret d_D_begin_26
/-! SerialDesk.isColumn(I)Z -/
theorem d_D_isColumn_0 : decode b_D_isColumn 0 = .ok (.iload_n 0, 1) := by decide +kernel
theorem d_D_isColumn_1 : decode b_D_isColumn 1 = .ok (.ifCond .lt 13, 3) := by decide +kernel
theorem d_D_isColumn_4 : decode b_D_isColumn 4 = .ok (.iload_n 0, 1) := by decide +kernel
theorem d_D_isColumn_5 : decode b_D_isColumn 5 = .ok (.bipush 8, 2) := by decide +kernel
theorem d_D_isColumn_7 : decode b_D_isColumn 7 = .ok (.if_icmp .ge 7, 3) := by decide +kernel
theorem d_D_isColumn_10 : decode b_D_isColumn 10 = .ok (.iconst 1, 1) := by decide +kernel
theorem d_D_isColumn_11 : decode b_D_isColumn 11 = .ok (.goto 4, 3) := by decide +kernel
theorem d_D_isColumn_14 : decode b_D_isColumn 14 = .ok (.iconst 0, 1) := by decide +kernel
theorem d_D_isColumn_15 : decode b_D_isColumn 15 = .ok (.ireturn, 1) := by decide +kernel
abbrev X_D_isColumn (p : Program) (l : Launch) (e : Env) (k1 k2 : Nat) (s : State) (m : MethodId) (args : Array Value) (below : List Frame) (meth : Method) (c : Code) (B : AB) (n0 m0 : Nat) (h : AH) (pc : Nat) (lv : List (Nat × Value)) (st : List Value) (comp : Option (Int32 × AH)) : Prop := XX p l e { frames := 0, cells := k1, slots := k2, locals := 0 } s m args below meth c b_D_isColumn o_D lw_tt 1 (Option.some Jvm.ClassFile.FieldType.boolean) "isColumn" B n0 m0 (QM B below args s { frames := 0, cells := k1, slots := k2, locals := 0 } eI) h pc lv st comp
def f_D_isColumn (x0 : Int32) (h : AH) : Option (Int32 × AH) := (if x0 < 0 then rZ (0 : Int32) h else (if (8 : Int32) ≤ x0 then rZ (0 : Int32) h else rZ (1 : Int32) h))
set_option maxHeartbeats 4000000 in
set_option maxRecDepth 100000 in
theorem c_D_isColumn (l : Launch) (B : AB) (x0 : Int32) (h : AH) : CT l B y_D_isColumn (Cond.code y_D_isColumn b_D_isColumn 1 (Option.some Jvm.ClassFile.FieldType.boolean) :: lw_tt) 0 0 eI [.int x0] h (f_D_isColumn x0 h) := by
  refine ct_of (own := o_D) (nm := "isColumn") (by decide +kernel) rfl rfl (Nat.le_of_ble_eq_true rfl) (fun p e k1 k2 s m args below meth c => ?_)
  refine x_sub (lv' := [(0, .int x0)]) [0] rfl ?_
  unfold f_D_isColumn
  refine x_go (pc' := 1) (st' := [.int x0]) (fun hC _ _ _ _ _ _ hl k => lv_iload_n hC.1 hC.2.1 d_D_isColumn_0 rfl (lv_at hl 0 rfl) k) ?_
  refine x_if (P := x0 < 0) (pt := 14) (pf := 4) (st' := []) (fun hC _ _ _ _ _ _ kt kf => lv_if_lt (tgt := 14) hC.1 hC.2.1 d_D_isColumn_1 (by decide) kt kf) ?_ ?_
  · refine x_go (pc' := 15) (st' := [.int (0 : Int32)]) (fun hC _ _ _ _ _ _ hl k => lv_iconst (v := 0) hC.1 hC.2.1 d_D_isColumn_14 (by decide) k) ?_
    exact x_zret d_D_isColumn_15
  · refine x_go (pc' := 5) (st' := [.int x0]) (fun hC _ _ _ _ _ _ hl k => lv_iload_n hC.1 hC.2.1 d_D_isColumn_4 rfl (lv_at hl 0 rfl) k) ?_
    refine x_go (pc' := 7) (st' := [.int (8 : Int32), .int x0]) (fun hC _ _ _ _ _ _ hl k => lv_bipush (v := 8) hC.1 hC.2.1 d_D_isColumn_5 (by decide) k) ?_
    refine x_if (P := (8 : Int32) ≤ x0) (pt := 14) (pf := 10) (st' := []) (fun hC _ _ _ _ _ _ kt kf => lv_icmp_ge (tgt := 14) hC.1 hC.2.1 d_D_isColumn_7 (by decide) kt kf) ?_ ?_
    · refine x_go (pc' := 15) (st' := [.int (0 : Int32)]) (fun hC _ _ _ _ _ _ hl k => lv_iconst (v := 0) hC.1 hC.2.1 d_D_isColumn_14 (by decide) k) ?_
      exact x_zret d_D_isColumn_15
    · refine x_go (pc' := 11) (st' := [.int (1 : Int32)]) (fun hC _ _ _ _ _ _ hl k => lv_iconst (v := 1) hC.1 hC.2.1 d_D_isColumn_10 (by decide) k) ?_
      refine x_go (pc' := 15) (st' := [.int (1 : Int32)]) (fun hC _ _ _ _ _ _ hl k => lv_goto (tgt := 15) hC.1 hC.2.1 d_D_isColumn_11 (by decide) k) ?_
      exact x_zret d_D_isColumn_15
/-! SerialDesk.isTable(I)Z -/
theorem d_D_isTable_0 : decode b_D_isTable 0 = .ok (.iload_n 0, 1) := by decide +kernel
theorem d_D_isTable_1 : decode b_D_isTable 1 = .ok (.ifCond .lt 13, 3) := by decide +kernel
theorem d_D_isTable_4 : decode b_D_isTable 4 = .ok (.iload_n 0, 1) := by decide +kernel
theorem d_D_isTable_5 : decode b_D_isTable 5 = .ok (.bipush 8, 2) := by decide +kernel
theorem d_D_isTable_7 : decode b_D_isTable 7 = .ok (.if_icmp .ge 7, 3) := by decide +kernel
theorem d_D_isTable_10 : decode b_D_isTable 10 = .ok (.iconst 1, 1) := by decide +kernel
theorem d_D_isTable_11 : decode b_D_isTable 11 = .ok (.goto 4, 3) := by decide +kernel
theorem d_D_isTable_14 : decode b_D_isTable 14 = .ok (.iconst 0, 1) := by decide +kernel
theorem d_D_isTable_15 : decode b_D_isTable 15 = .ok (.ireturn, 1) := by decide +kernel
abbrev X_D_isTable (p : Program) (l : Launch) (e : Env) (k1 k2 : Nat) (s : State) (m : MethodId) (args : Array Value) (below : List Frame) (meth : Method) (c : Code) (B : AB) (n0 m0 : Nat) (h : AH) (pc : Nat) (lv : List (Nat × Value)) (st : List Value) (comp : Option (Int32 × AH)) : Prop := XX p l e { frames := 0, cells := k1, slots := k2, locals := 0 } s m args below meth c b_D_isTable o_D lw_tt 1 (Option.some Jvm.ClassFile.FieldType.boolean) "isTable" B n0 m0 (QM B below args s { frames := 0, cells := k1, slots := k2, locals := 0 } eI) h pc lv st comp
def f_D_isTable (x0 : Int32) (h : AH) : Option (Int32 × AH) := (if x0 < 0 then rZ (0 : Int32) h else (if (8 : Int32) ≤ x0 then rZ (0 : Int32) h else rZ (1 : Int32) h))
set_option maxHeartbeats 4000000 in
set_option maxRecDepth 100000 in
theorem c_D_isTable (l : Launch) (B : AB) (x0 : Int32) (h : AH) : CT l B y_D_isTable (Cond.code y_D_isTable b_D_isTable 1 (Option.some Jvm.ClassFile.FieldType.boolean) :: lw_tt) 0 0 eI [.int x0] h (f_D_isTable x0 h) := by
  refine ct_of (own := o_D) (nm := "isTable") (by decide +kernel) rfl rfl (Nat.le_of_ble_eq_true rfl) (fun p e k1 k2 s m args below meth c => ?_)
  refine x_sub (lv' := [(0, .int x0)]) [0] rfl ?_
  unfold f_D_isTable
  refine x_go (pc' := 1) (st' := [.int x0]) (fun hC _ _ _ _ _ _ hl k => lv_iload_n hC.1 hC.2.1 d_D_isTable_0 rfl (lv_at hl 0 rfl) k) ?_
  refine x_if (P := x0 < 0) (pt := 14) (pf := 4) (st' := []) (fun hC _ _ _ _ _ _ kt kf => lv_if_lt (tgt := 14) hC.1 hC.2.1 d_D_isTable_1 (by decide) kt kf) ?_ ?_
  · refine x_go (pc' := 15) (st' := [.int (0 : Int32)]) (fun hC _ _ _ _ _ _ hl k => lv_iconst (v := 0) hC.1 hC.2.1 d_D_isTable_14 (by decide) k) ?_
    exact x_zret d_D_isTable_15
  · refine x_go (pc' := 5) (st' := [.int x0]) (fun hC _ _ _ _ _ _ hl k => lv_iload_n hC.1 hC.2.1 d_D_isTable_4 rfl (lv_at hl 0 rfl) k) ?_
    refine x_go (pc' := 7) (st' := [.int (8 : Int32), .int x0]) (fun hC _ _ _ _ _ _ hl k => lv_bipush (v := 8) hC.1 hC.2.1 d_D_isTable_5 (by decide) k) ?_
    refine x_if (P := (8 : Int32) ≤ x0) (pt := 14) (pf := 10) (st' := []) (fun hC _ _ _ _ _ _ kt kf => lv_icmp_ge (tgt := 14) hC.1 hC.2.1 d_D_isTable_7 (by decide) kt kf) ?_ ?_
    · refine x_go (pc' := 15) (st' := [.int (0 : Int32)]) (fun hC _ _ _ _ _ _ hl k => lv_iconst (v := 0) hC.1 hC.2.1 d_D_isTable_14 (by decide) k) ?_
      exact x_zret d_D_isTable_15
    · refine x_go (pc' := 11) (st' := [.int (1 : Int32)]) (fun hC _ _ _ _ _ _ hl k => lv_iconst (v := 1) hC.1 hC.2.1 d_D_isTable_10 (by decide) k) ?_
      refine x_go (pc' := 15) (st' := [.int (1 : Int32)]) (fun hC _ _ _ _ _ _ hl k => lv_goto (tgt := 15) hC.1 hC.2.1 d_D_isTable_11 (by decide) k) ?_
      exact x_zret d_D_isTable_15
/-! SerialDesk.runningIn(I)LSerialDesk$Transaction; -/
theorem d_D_runningIn_0 : decode b_D_runningIn 0 = .ok (.iload_n 1, 1) := by decide +kernel
theorem d_D_runningIn_1 : decode b_D_runningIn 1 = .ok (.invokestatic 39, 3) := by decide +kernel
theorem d_D_runningIn_4 : decode b_D_runningIn 4 = .ok (.ifCond .eq 12, 3) := by decide +kernel
theorem d_D_runningIn_7 : decode b_D_runningIn 7 = .ok (.aload_n 0, 1) := by decide +kernel
theorem d_D_runningIn_8 : decode b_D_runningIn 8 = .ok (.getfield 18, 3) := by decide +kernel
theorem d_D_runningIn_11 : decode b_D_runningIn 11 = .ok (.iload_n 1, 1) := by decide +kernel
theorem d_D_runningIn_12 : decode b_D_runningIn 12 = .ok (.aaload, 1) := by decide +kernel
theorem d_D_runningIn_13 : decode b_D_runningIn 13 = .ok (.goto 4, 3) := by decide +kernel
theorem d_D_runningIn_16 : decode b_D_runningIn 16 = .ok (.aconst_null, 1) := by decide +kernel
theorem d_D_runningIn_17 : decode b_D_runningIn 17 = .ok (.areturn, 1) := by decide +kernel
abbrev X_D_runningIn (p : Program) (l : Launch) (e : Env) (k1 k2 : Nat) (s : State) (m : MethodId) (args : Array Value) (below : List Frame) (meth : Method) (c : Code) (B : AB) (n0 m0 : Nat) (h : AH) (pc : Nat) (lv : List (Nat × Value)) (st : List Value) (comp : Option (Option Nat × AH)) : Prop := XX p l e { frames := 1, cells := k1, slots := k2, locals := 20 } s m args below meth c b_D_runningIn o_D lw_tt 2 (Option.some (Jvm.ClassFile.FieldType.object "SerialDesk$Transaction")) "runningIn" B n0 m0 (QM B below args s { frames := 1, cells := k1, slots := k2, locals := 20 } eR) h pc lv st comp
def f_D_runningIn (a0 : Nat) (x1 : Int32) (h : AH) : Option (Option Nat × AH) := bnd (f_D_isSession x1 h) (fun x102 h101 => (if x102 = 0 then some (none, h101) else (fR h101 3 1 (some a0)).bind (fun r103 => (lR h101 2 r103 x1).bind (fun r104 => some (r104, h101)))))
set_option maxHeartbeats 4000000 in
set_option maxRecDepth 100000 in
theorem c_D_runningIn (l : Launch) (B : AB) (a0 : Nat) (x1 : Int32) (h : AH) : CT l B y_D_runningIn (Cond.code y_D_runningIn b_D_runningIn 2 (Option.some (Jvm.ClassFile.FieldType.object "SerialDesk$Transaction")) :: lw_tt) 1 20 eR [.ref a0, .int x1] h (f_D_runningIn a0 x1 h) := by
  refine ct_of (own := o_D) (nm := "runningIn") (by decide +kernel) rfl rfl (Nat.le_of_ble_eq_true rfl) (fun p e k1 k2 s m args below meth c => ?_)
  refine x_sub (lv' := [(0, .ref a0), (1, .int x1)]) [0, 1] rfl ?_
  unfold f_D_runningIn
  refine x_go (pc' := 1) (st' := [.int x1]) (fun hC _ _ _ _ _ _ hl k => lv_iload_n hC.1 hC.2.1 d_D_runningIn_0 rfl (lv_at hl 1 rfl) k) ?_
  refine x_callI (rest := []) (c_D_isSession l B x1 h) (fun hC => fun e1 e2 e3 e4 hM => fun hR hsz hc hs => run_S (n := 1) hC lw_good tw_58 tw_59 tw_1 tw_60 (by decide) d_D_runningIn_1 (by rw [e1]; exact Nat.le_of_ble_eq_true rfl) (by rw [e2]; exact Nat.le_of_ble_eq_true rfl) e3 e4 hM hR hsz hc hs rfl rfl (Nat.le_of_ble_eq_true rfl)) (fun x102 h101 => ?_)
  refine x_if (P := x102 = 0) (pt := 16) (pf := 7) (st' := []) (fun hC _ _ _ _ _ _ kt kf => lv_if_eq (tgt := 16) hC.1 hC.2.1 d_D_runningIn_4 (by decide) kt kf) ?_ ?_
  · refine x_go (pc' := 17) (st' := [va_rf none]) (fun hC _ _ _ _ _ _ hl k => lv_null hC.1 hC.2.1 d_D_runningIn_16 k) ?_
    exact x_aret (x := none) (Or.inl ⟨_, rfl⟩) d_D_runningIn_17
  · refine x_go (pc' := 8) (st' := [.ref a0]) (fun hC _ _ _ _ _ _ hl k => lv_aload_n hC.1 hC.2.1 d_D_runningIn_7 rfl (lv_at hl 0 rfl) k) ?_
    refine x_getR (ci := 3) (kf := 1) (r := (some a0)) (fun hC => w_get hC iw_3 rfl 1 (by decide) tw_32 rfl d_D_runningIn_8) (fun r103 => ?_)
    refine x_go (pc' := 12) (st' := [.int x1, va_rf r103]) (fun hC _ _ _ _ _ _ hl k => lv_iload_n hC.1 hC.2.1 d_D_runningIn_11 rfl (lv_at hl 1 rfl) k) ?_
    refine x_aald (t := 2) rfl rfl (r := r103) (i := x1) d_D_runningIn_12 (fun r104 => ?_)
    refine x_go (pc' := 17) (st' := [va_rf r104]) (fun hC _ _ _ _ _ _ hl k => lv_goto (tgt := 17) hC.1 hC.2.1 d_D_runningIn_13 (by decide) k) ?_
    exact x_aret (x := r104) (Or.inl ⟨_, rfl⟩) d_D_runningIn_17
/-! SerialDesk$Range.<init>(IJJI)V -/
theorem d_R_init_0 : decode b_R_init 0 = .ok (.aload_n 0, 1) := by decide +kernel
theorem d_R_init_1 : decode b_R_init 1 = .ok (.invokespecial 3, 3) := by decide +kernel
theorem d_R_init_4 : decode b_R_init 4 = .ok (.aload_n 0, 1) := by decide +kernel
theorem d_R_init_5 : decode b_R_init 5 = .ok (.iload_n 1, 1) := by decide +kernel
theorem d_R_init_6 : decode b_R_init 6 = .ok (.putfield 9, 3) := by decide +kernel
theorem d_R_init_9 : decode b_R_init 9 = .ok (.aload_n 0, 1) := by decide +kernel
theorem d_R_init_10 : decode b_R_init 10 = .ok (.lload_n 2, 1) := by decide +kernel
theorem d_R_init_11 : decode b_R_init 11 = .ok (.putfield 15, 3) := by decide +kernel
theorem d_R_init_14 : decode b_R_init 14 = .ok (.aload_n 0, 1) := by decide +kernel
theorem d_R_init_15 : decode b_R_init 15 = .ok (.lload 4, 2) := by decide +kernel
theorem d_R_init_17 : decode b_R_init 17 = .ok (.putfield 19, 3) := by decide +kernel
theorem d_R_init_20 : decode b_R_init 20 = .ok (.aload_n 0, 1) := by decide +kernel
theorem d_R_init_21 : decode b_R_init 21 = .ok (.iload 6, 2) := by decide +kernel
theorem d_R_init_23 : decode b_R_init 23 = .ok (.putfield 22, 3) := by decide +kernel
theorem d_R_init_26 : decode b_R_init 26 = .ok (.aload_n 0, 1) := by decide +kernel
theorem d_R_init_27 : decode b_R_init 27 = .ok (.aconst_null, 1) := by decide +kernel
theorem d_R_init_28 : decode b_R_init 28 = .ok (.putfield 25, 3) := by decide +kernel
theorem d_R_init_31 : decode b_R_init 31 = .ok (.return_, 1) := by decide +kernel
abbrev X_R_init (p : Program) (l : Launch) (e : Env) (k1 k2 : Nat) (s : State) (m : MethodId) (args : Array Value) (below : List Frame) (meth : Method) (c : Code) (B : AB) (n0 m0 : Nat) (h : AH) (pc : Nat) (lv : List (Nat × Value)) (st : List Value) (comp : Option (Unit × AH)) : Prop := XX p l e { frames := 1, cells := k1, slots := k2, locals := 12 } s m args below meth c b_R_init o_R lw_tt 7 (Option.none : Option Jvm.ClassFile.FieldType) "<init>" B n0 m0 (QM B below args s { frames := 1, cells := k1, slots := k2, locals := 12 } eU) h pc lv st comp
def f_R_init (a0 : Nat) (x1 : Int32) (x2 : Int64) (x4 : Int64) (x6 : Int32) (h : AH) : Option (Unit × AH) := (pF h 0 0 (some a0) (.int x1)).bind (fun h101 => (pF h101 0 1 (some a0) (.long x2)).bind (fun h102 => (pF h102 0 2 (some a0) (.long x4)).bind (fun h103 => (pF h103 0 3 (some a0) (.int x6)).bind (fun h104 => (pF h104 0 4 (some a0) (va_rf none)).bind (fun h105 => some ((), h105))))))
set_option maxHeartbeats 4000000 in
set_option maxRecDepth 100000 in
theorem c_R_init (l : Launch) (B : AB) (a0 : Nat) (x1 : Int32) (x2 : Int64) (x4 : Int64) (x6 : Int32) (h : AH) : CT l B y_R_init (Cond.code y_R_init b_R_init 7 (Option.none : Option Jvm.ClassFile.FieldType) :: lw_tt) 1 12 eU [.ref a0, .int x1, .long x2, .long x4, .int x6] h (f_R_init a0 x1 x2 x4 x6 h) := by
  refine ct_of (own := o_R) (nm := "<init>") (by decide +kernel) rfl rfl (Nat.le_of_ble_eq_true rfl) (fun p e k1 k2 s m args below meth c => ?_)
  refine x_sub (lv' := [(0, .ref a0), (1, .int x1), (2, .long x2), (4, .long x4), (6, .int x6)]) [0, 1, 2, 3, 4] rfl ?_
  unfold f_R_init
  refine x_go (pc' := 1) (st' := [.ref a0]) (fun hC _ _ _ _ _ _ hl k => lv_aload_n hC.1 hC.2.1 d_R_init_0 rfl (lv_at hl 0 rfl) k) ?_
  refine x_go (pc' := 4) (st' := []) (fun hC _ _ _ _ _ _ hl k => W.objInit hC.1 hC.2.1 hC.2.2.2.1 (hC.2.2.2.2.1 _ tw_121) (hC.2.2.2.2.1 _ tw_12) (hC.2.2.2.2.1 _ tw_13) rfl (by rw [hC.2.2.1]; exact hl.1) rfl d_R_init_1 (Nat.le_of_ble_eq_true rfl) (Nat.le_of_ble_eq_true rfl) k) ?_
  refine x_go (pc' := 5) (st' := [.ref a0]) (fun hC _ _ _ _ _ _ hl k => lv_aload_n hC.1 hC.2.1 d_R_init_4 rfl (lv_at hl 0 rfl) k) ?_
  refine x_go (pc' := 6) (st' := [.int x1, .ref a0]) (fun hC _ _ _ _ _ _ hl k => lv_iload_n hC.1 hC.2.1 d_R_init_5 rfl (lv_at hl 1 rfl) k) ?_
  refine x_putF (ci := 0) (kf := 0) (r := (some a0)) (v := .int x1) (fun hC => w_putF (ty := .int) hC iw_0 ft_0 ft_0_ok fn_0 rfl 0 (by decide) tw_122 rfl rfl rfl (by decide +kernel) rfl rfl d_R_init_6) (fun h101 => ?_)
  refine x_go (pc' := 10) (st' := [.ref a0]) (fun hC _ _ _ _ _ _ hl k => lv_aload_n hC.1 hC.2.1 d_R_init_9 rfl (lv_at hl 0 rfl) k) ?_
  refine x_go (pc' := 11) (st' := [.long x2, .ref a0]) (fun hC _ _ _ _ _ _ hl k => lv_lload_n hC.1 hC.2.1 d_R_init_10 rfl (lv_at hl 2 rfl) k) ?_
  refine x_putF (ci := 0) (kf := 1) (r := (some a0)) (v := .long x2) (fun hC => w_putF (ty := .long) hC iw_0 ft_0 ft_0_ok fn_0 rfl 1 (by decide) tw_123 rfl rfl rfl (by decide +kernel) rfl rfl d_R_init_11) (fun h102 => ?_)
  refine x_go (pc' := 15) (st' := [.ref a0]) (fun hC _ _ _ _ _ _ hl k => lv_aload_n hC.1 hC.2.1 d_R_init_14 rfl (lv_at hl 0 rfl) k) ?_
  refine x_go (pc' := 17) (st' := [.long x4, .ref a0]) (fun hC _ _ _ _ _ _ hl k => lv_lload hC.1 hC.2.1 d_R_init_15 (lv_at hl 3 rfl) k) ?_
  refine x_putF (ci := 0) (kf := 2) (r := (some a0)) (v := .long x4) (fun hC => w_putF (ty := .long) hC iw_0 ft_0 ft_0_ok fn_0 rfl 2 (by decide) tw_124 rfl rfl rfl (by decide +kernel) rfl rfl d_R_init_17) (fun h103 => ?_)
  refine x_go (pc' := 21) (st' := [.ref a0]) (fun hC _ _ _ _ _ _ hl k => lv_aload_n hC.1 hC.2.1 d_R_init_20 rfl (lv_at hl 0 rfl) k) ?_
  refine x_go (pc' := 23) (st' := [.int x6, .ref a0]) (fun hC _ _ _ _ _ _ hl k => lv_iload hC.1 hC.2.1 d_R_init_21 (lv_at hl 4 rfl) k) ?_
  refine x_putF (ci := 0) (kf := 3) (r := (some a0)) (v := .int x6) (fun hC => w_putF (ty := .int) hC iw_0 ft_0 ft_0_ok fn_0 rfl 3 (by decide) tw_125 rfl rfl rfl (by decide +kernel) rfl rfl d_R_init_23) (fun h104 => ?_)
  refine x_go (pc' := 27) (st' := [.ref a0]) (fun hC _ _ _ _ _ _ hl k => lv_aload_n hC.1 hC.2.1 d_R_init_26 rfl (lv_at hl 0 rfl) k) ?_
  refine x_go (pc' := 28) (st' := [va_rf none, .ref a0]) (fun hC _ _ _ _ _ _ hl k => lv_null hC.1 hC.2.1 d_R_init_27 k) ?_
  refine x_putF (ci := 0) (kf := 4) (r := (some a0)) (v := va_rf none) (fun hC => w_put (ty := .object "SerialDesk$Range") hC iw_0 ft_0 ft_0_ok fn_0 rfl 4 (by decide) tw_126 rfl rfl (by decide +kernel) (rf_nar _ _) (rf_fit _ _) d_R_init_28) (fun h105 => ?_)
  exact x_vret d_R_init_31
/-! SerialDesk.wholeTable()LSerialDesk$Range; -/
theorem d_D_wholeTable_0 : decode b_D_wholeTable 0 = .ok (.new 67, 3) := by decide +kernel
theorem d_D_wholeTable_3 : decode b_D_wholeTable 3 = .ok (.dup, 1) := by decide +kernel
theorem d_D_wholeTable_4 : decode b_D_wholeTable 4 = .ok (.iconst (-1), 1) := by decide +kernel
theorem d_D_wholeTable_5 : decode b_D_wholeTable 5 = .ok (.lconst 0, 1) := by decide +kernel
theorem d_D_wholeTable_6 : decode b_D_wholeTable 6 = .ok (.lconst 0, 1) := by decide +kernel
theorem d_D_wholeTable_7 : decode b_D_wholeTable 7 = .ok (.bipush 12, 2) := by decide +kernel
theorem d_D_wholeTable_9 : decode b_D_wholeTable 9 = .ok (.invokespecial 69, 3) := by decide +kernel
theorem d_D_wholeTable_12 : decode b_D_wholeTable 12 = .ok (.areturn, 1) := by decide +kernel
abbrev X_D_wholeTable (p : Program) (l : Launch) (e : Env) (k1 k2 : Nat) (s : State) (m : MethodId) (args : Array Value) (below : List Frame) (meth : Method) (c : Code) (B : AB) (n0 m0 : Nat) (h : AH) (pc : Nat) (lv : List (Nat × Value)) (st : List Value) (comp : Option (Option Nat × AH)) : Prop := XX p l e { frames := 2, cells := k1, slots := k2, locals := 38 } s m args below meth c b_D_wholeTable o_D lw_tt 0 (Option.some (Jvm.ClassFile.FieldType.object "SerialDesk$Range")) "wholeTable" B n0 m0 (QM B below args s { frames := 2, cells := k1, slots := k2, locals := 38 } eR) h pc lv st comp
def f_D_wholeTable (h : AH) : Option (Option Nat × AH) := nOk h 0 [.int 0, .long 0, .long 0, .int 0, .null] (fun a101 h102 => bndU (f_R_init a101 (-1 : Int32) (0 : Int64) (0 : Int64) (12 : Int32) h102) (fun h103 => some ((some a101), h103)))
set_option maxHeartbeats 4000000 in
set_option maxRecDepth 100000 in
theorem c_D_wholeTable (l : Launch) (B : AB) (h : AH) : CT l B y_D_wholeTable (Cond.code y_D_wholeTable b_D_wholeTable 0 (Option.some (Jvm.ClassFile.FieldType.object "SerialDesk$Range")) :: lw_tt) 2 38 eR [] h (f_D_wholeTable  h) := by
  refine ct_of (own := o_D) (nm := "wholeTable") (by decide +kernel) rfl rfl (Nat.le_of_ble_eq_true rfl) (fun p e k1 k2 s m args below meth c => ?_)
  refine x_sub (lv' := []) [] rfl ?_
  unfold f_D_wholeTable
  refine x_new (ci := 0) (fs := [.int 0, .long 0, .long 0, .int 0, .null]) iw_0 ft_0 ft_0_ok tw_116 tw_117 tw_5 rfl rfl (by decide) d_D_wholeTable_0 (fun a101 h102 => ?_)
  refine x_go (pc' := 4) (st' := [.ref a101, .ref a101]) (fun hC _ _ _ _ _ _ hl k => lv_dup hC.1 hC.2.1 d_D_wholeTable_3 rfl k) ?_
  refine x_go (pc' := 5) (st' := [.int (-1 : Int32), .ref a101, .ref a101]) (fun hC _ _ _ _ _ _ hl k => lv_iconst (v := -1) hC.1 hC.2.1 d_D_wholeTable_4 (by decide) k) ?_
  refine x_go (pc' := 6) (st' := [.long (0 : Int64), .int (-1 : Int32), .ref a101, .ref a101]) (fun hC _ _ _ _ _ _ hl k => lv_lconst (v := 0) hC.1 hC.2.1 d_D_wholeTable_5 (by decide) k) ?_
  refine x_go (pc' := 7) (st' := [.long (0 : Int64), .long (0 : Int64), .int (-1 : Int32), .ref a101, .ref a101]) (fun hC _ _ _ _ _ _ hl k => lv_lconst (v := 0) hC.1 hC.2.1 d_D_wholeTable_6 (by decide) k) ?_
  refine x_go (pc' := 9) (st' := [.int (12 : Int32), .long (0 : Int64), .long (0 : Int64), .int (-1 : Int32), .ref a101, .ref a101]) (fun hC _ _ _ _ _ _ hl k => lv_bipush (v := 12) hC.1 hC.2.1 d_D_wholeTable_7 (by decide) k) ?_
  refine x_callU (rest := [.ref a101]) (c_R_init l B a101 (-1 : Int32) (0 : Int64) (0 : Int64) (12 : Int32) h102) (fun hC => fun e1 e2 e3 e4 hM => fun hR hsz hc hs => run_I (n := 4) hC lw_good tw_118 tw_119 tw_5 tw_120 rfl (by decide) d_D_wholeTable_9 (by rw [e1]; exact Nat.le_of_ble_eq_true rfl) (by rw [e2]; exact Nat.le_of_ble_eq_true rfl) e3 e4 hM hR hsz hc hs rfl rfl (Nat.le_of_ble_eq_true rfl)) (fun h103 => ?_)
  exact x_aret (x := (some a101)) (Or.inl ⟨_, rfl⟩) d_D_wholeTable_12
/-! SerialDesk$Range.lacks(I)Z -/
theorem d_R_lacks_0 : decode b_R_lacks 0 = .ok (.aload_n 0, 1) := by decide +kernel
theorem d_R_lacks_1 : decode b_R_lacks 1 = .ok (.getfield 22, 3) := by decide +kernel
theorem d_R_lacks_4 : decode b_R_lacks 4 = .ok (.iload_n 1, 1) := by decide +kernel
theorem d_R_lacks_5 : decode b_R_lacks 5 = .ok (.iand, 1) := by decide +kernel
theorem d_R_lacks_6 : decode b_R_lacks 6 = .ok (.ifCond .eq 7, 3) := by decide +kernel
theorem d_R_lacks_9 : decode b_R_lacks 9 = .ok (.iconst 1, 1) := by decide +kernel
theorem d_R_lacks_10 : decode b_R_lacks 10 = .ok (.goto 4, 3) := by decide +kernel
theorem d_R_lacks_13 : decode b_R_lacks 13 = .ok (.iconst 0, 1) := by decide +kernel
theorem d_R_lacks_14 : decode b_R_lacks 14 = .ok (.ireturn, 1) := by decide +kernel
abbrev X_R_lacks (p : Program) (l : Launch) (e : Env) (k1 k2 : Nat) (s : State) (m : MethodId) (args : Array Value) (below : List Frame) (meth : Method) (c : Code) (B : AB) (n0 m0 : Nat) (h : AH) (pc : Nat) (lv : List (Nat × Value)) (st : List Value) (comp : Option (Int32 × AH)) : Prop := XX p l e { frames := 0, cells := k1, slots := k2, locals := 0 } s m args below meth c b_R_lacks o_R lw_tt 2 (Option.some Jvm.ClassFile.FieldType.boolean) "lacks" B n0 m0 (QM B below args s { frames := 0, cells := k1, slots := k2, locals := 0 } eI) h pc lv st comp
def f_R_lacks (a0 : Nat) (x1 : Int32) (h : AH) : Option (Int32 × AH) := (fI h 0 3 (some a0)).bind (fun x101 => (if (x101 &&& x1) = 0 then rZ (0 : Int32) h else rZ (1 : Int32) h))
set_option maxHeartbeats 4000000 in
set_option maxRecDepth 100000 in
theorem c_R_lacks (l : Launch) (B : AB) (a0 : Nat) (x1 : Int32) (h : AH) : CT l B y_R_lacks (Cond.code y_R_lacks b_R_lacks 2 (Option.some Jvm.ClassFile.FieldType.boolean) :: lw_tt) 0 0 eI [.ref a0, .int x1] h (f_R_lacks a0 x1 h) := by
  refine ct_of (own := o_R) (nm := "lacks") (by decide +kernel) rfl rfl (Nat.le_of_ble_eq_true rfl) (fun p e k1 k2 s m args below meth c => ?_)
  refine x_sub (lv' := [(0, .ref a0), (1, .int x1)]) [0, 1] rfl ?_
  unfold f_R_lacks
  refine x_go (pc' := 1) (st' := [.ref a0]) (fun hC _ _ _ _ _ _ hl k => lv_aload_n hC.1 hC.2.1 d_R_lacks_0 rfl (lv_at hl 0 rfl) k) ?_
  refine x_getI (ci := 0) (kf := 3) (r := (some a0)) (fun hC => w_get hC iw_0 rfl 3 (by decide) tw_125 rfl d_R_lacks_1) (fun x101 => ?_)
  refine x_go (pc' := 5) (st' := [.int x1, .int x101]) (fun hC _ _ _ _ _ _ hl k => lv_iload_n hC.1 hC.2.1 d_R_lacks_4 rfl (lv_at hl 1 rfl) k) ?_
  refine x_go (pc' := 6) (st' := [.int (x101 &&& x1)]) (fun hC _ _ _ _ _ _ hl k => lv_iand hC.1 hC.2.1 d_R_lacks_5 k) ?_
  refine x_if (P := (x101 &&& x1) = 0) (pt := 13) (pf := 9) (st' := []) (fun hC _ _ _ _ _ _ kt kf => lv_if_eq (tgt := 13) hC.1 hC.2.1 d_R_lacks_6 (by decide) kt kf) ?_ ?_
  · refine x_go (pc' := 14) (st' := [.int (0 : Int32)]) (fun hC _ _ _ _ _ _ hl k => lv_iconst (v := 0) hC.1 hC.2.1 d_R_lacks_13 (by decide) k) ?_
    exact x_zret d_R_lacks_14
  · refine x_go (pc' := 10) (st' := [.int (1 : Int32)]) (fun hC _ _ _ _ _ _ hl k => lv_iconst (v := 1) hC.1 hC.2.1 d_R_lacks_9 (by decide) k) ?_
    refine x_go (pc' := 14) (st' := [.int (1 : Int32)]) (fun hC _ _ _ _ _ _ hl k => lv_goto (tgt := 14) hC.1 hC.2.1 d_R_lacks_10 (by decide) k) ?_
    exact x_zret d_R_lacks_14
/-! SerialDesk$Range.isSameAs(LSerialDesk$Range;)Z -/
theorem d_R_isSameAs_0 : decode b_R_isSameAs 0 = .ok (.aload_n 0, 1) := by decide +kernel
theorem d_R_isSameAs_1 : decode b_R_isSameAs 1 = .ok (.getfield 9, 3) := by decide +kernel
theorem d_R_isSameAs_4 : decode b_R_isSameAs 4 = .ok (.aload_n 1, 1) := by decide +kernel
theorem d_R_isSameAs_5 : decode b_R_isSameAs 5 = .ok (.getfield 9, 3) := by decide +kernel
theorem d_R_isSameAs_8 : decode b_R_isSameAs 8 = .ok (.if_icmp .ne 59, 3) := by decide +kernel
theorem d_R_isSameAs_11 : decode b_R_isSameAs 11 = .ok (.aload_n 0, 1) := by decide +kernel
theorem d_R_isSameAs_12 : decode b_R_isSameAs 12 = .ok (.getfield 22, 3) := by decide +kernel
theorem d_R_isSameAs_15 : decode b_R_isSameAs 15 = .ok (.aload_n 1, 1) := by decide +kernel
theorem d_R_isSameAs_16 : decode b_R_isSameAs 16 = .ok (.getfield 22, 3) := by decide +kernel
theorem d_R_isSameAs_19 : decode b_R_isSameAs 19 = .ok (.if_icmp .ne 48, 3) := by decide +kernel
theorem d_R_isSameAs_22 : decode b_R_isSameAs 22 = .ok (.aload_n 0, 1) := by decide +kernel
theorem d_R_isSameAs_23 : decode b_R_isSameAs 23 = .ok (.iconst 4, 1) := by decide +kernel
theorem d_R_isSameAs_24 : decode b_R_isSameAs 24 = .ok (.invokevirtual 29, 3) := by decide +kernel
theorem d_R_isSameAs_27 : decode b_R_isSameAs 27 = .ok (.ifCond .ne 15, 3) := by decide +kernel
theorem d_R_isSameAs_30 : decode b_R_isSameAs 30 = .ok (.aload_n 0, 1) := by decide +kernel
theorem d_R_isSameAs_31 : decode b_R_isSameAs 31 = .ok (.getfield 15, 3) := by decide +kernel
theorem d_R_isSameAs_34 : decode b_R_isSameAs 34 = .ok (.aload_n 1, 1) := by decide +kernel
theorem d_R_isSameAs_35 : decode b_R_isSameAs 35 = .ok (.getfield 15, 3) := by decide +kernel
theorem d_R_isSameAs_38 : decode b_R_isSameAs 38 = .ok (.lcmp, 1) := by decide +kernel
theorem d_R_isSameAs_39 : decode b_R_isSameAs 39 = .ok (.ifCond .ne 28, 3) := by decide +kernel
theorem d_R_isSameAs_42 : decode b_R_isSameAs 42 = .ok (.aload_n 0, 1) := by decide +kernel
theorem d_R_isSameAs_43 : decode b_R_isSameAs 43 = .ok (.bipush 8, 2) := by decide +kernel
theorem d_R_isSameAs_45 : decode b_R_isSameAs 45 = .ok (.invokevirtual 29, 3) := by decide +kernel
theorem d_R_isSameAs_48 : decode b_R_isSameAs 48 = .ok (.ifCond .ne 15, 3) := by decide +kernel
theorem d_R_isSameAs_51 : decode b_R_isSameAs 51 = .ok (.aload_n 0, 1) := by decide +kernel
theorem d_R_isSameAs_52 : decode b_R_isSameAs 52 = .ok (.getfield 19, 3) := by decide +kernel
theorem d_R_isSameAs_55 : decode b_R_isSameAs 55 = .ok (.aload_n 1, 1) := by decide +kernel
theorem d_R_isSameAs_56 : decode b_R_isSameAs 56 = .ok (.getfield 19, 3) := by decide +kernel
theorem d_R_isSameAs_59 : decode b_R_isSameAs 59 = .ok (.lcmp, 1) := by decide +kernel
theorem d_R_isSameAs_60 : decode b_R_isSameAs 60 = .ok (.ifCond .ne 7, 3) := by decide +kernel
theorem d_R_isSameAs_63 : decode b_R_isSameAs 63 = .ok (.iconst 1, 1) := by decide +kernel
theorem d_R_isSameAs_64 : decode b_R_isSameAs 64 = .ok (.goto 4, 3) := by decide +kernel
theorem d_R_isSameAs_67 : decode b_R_isSameAs 67 = .ok (.iconst 0, 1) := by decide +kernel
theorem d_R_isSameAs_68 : decode b_R_isSameAs 68 = .ok (.ireturn, 1) := by decide +kernel
abbrev X_R_isSameAs (p : Program) (l : Launch) (e : Env) (k1 k2 : Nat) (s : State) (m : MethodId) (args : Array Value) (below : List Frame) (meth : Method) (c : Code) (B : AB) (n0 m0 : Nat) (h : AH) (pc : Nat) (lv : List (Nat × Value)) (st : List Value) (comp : Option (Int32 × AH)) : Prop := XX p l e { frames := 1, cells := k1, slots := k2, locals := 21 } s m args below meth c b_R_isSameAs o_R lw_tt 2 (Option.some Jvm.ClassFile.FieldType.boolean) "isSameAs" B n0 m0 (QM B below args s { frames := 1, cells := k1, slots := k2, locals := 21 } eI) h pc lv st comp
def f_R_isSameAs_b42 (a0 : Nat) (r1 : Option Nat) (h : AH) : Option (Int32 × AH) := rcv h 0 (some a0) (fun b1003 => bnd (f_R_lacks b1003 (8 : Int32) h) (fun x1002 h1001 => (if x1002 = 0 then (fL h1001 0 2 (some a0)).bind (fun x1004 => (fL h1001 0 2 r1).bind (fun x1005 => (if (lg_cmp x1004 x1005) = 0 then rZ (1 : Int32) h1001 else rZ (0 : Int32) h1001))) else rZ (1 : Int32) h1001)))
def f_R_isSameAs (a0 : Nat) (r1 : Option Nat) (h : AH) : Option (Int32 × AH) := (fI h 0 0 (some a0)).bind (fun x101 => (fI h 0 0 r1).bind (fun x102 => (if x101 = x102 then (fI h 0 3 (some a0)).bind (fun x103 => (fI h 0 3 r1).bind (fun x104 => (if x103 = x104 then rcv h 0 (some a0) (fun b107 => bnd (f_R_lacks b107 (4 : Int32) h) (fun x106 h105 => (if x106 = 0 then (fL h105 0 1 (some a0)).bind (fun x108 => (fL h105 0 1 r1).bind (fun x109 => (if (lg_cmp x108 x109) = 0 then f_R_isSameAs_b42 a0 r1 h105 else rZ (0 : Int32) h105))) else f_R_isSameAs_b42 a0 r1 h105))) else rZ (0 : Int32) h))) else rZ (0 : Int32) h)))
set_option maxHeartbeats 4000000 in
set_option maxRecDepth 100000 in
theorem x_R_isSameAs_b42 {p : Program} {l : Launch} {e : Env} {k1 k2 : Nat} {s : State} {m : MethodId} {args : Array Value} {below : List Frame} {meth : Method} {c : Code} {B : AB} {n0 m0 : Nat} (a0 : Nat) (r1 : Option Nat) (h : AH) : X_R_isSameAs p l e k1 k2 s m args below meth c B n0 m0 h 42 [(0, .ref a0), (1, va_rf r1)] [] (f_R_isSameAs_b42 a0 r1 h) := by
  unfold f_R_isSameAs_b42
  refine x_go (pc' := 43) (st' := [.ref a0]) (fun hC _ _ _ _ _ _ hl k => lv_aload_n hC.1 hC.2.1 d_R_isSameAs_42 rfl (lv_at hl 0 rfl) k) ?_
  refine x_go (pc' := 45) (st' := [.int (8 : Int32), .ref a0]) (fun hC _ _ _ _ _ _ hl k => lv_bipush (v := 8) hC.1 hC.2.1 d_R_isSameAs_43 (by decide) k) ?_
  refine x_recv (ci := 0) (r := (some a0)) (fun b1003 _ eb1003 gb1003 => ?_)
  refine x_callI (rest := []) (c_R_lacks l B b1003 (8 : Int32) h) (fun hC => fun e1 e2 e3 e4 hM => fun hR hsz hc hs => run_V (n := 1) hC lw_good rfl rfl tw_156 tw_158 tv_3 tw_5 tw_159 (by decide) d_R_isSameAs_45 gb1003 (by rw [e1]; exact Nat.le_of_ble_eq_true rfl) (by rw [e2]; exact Nat.le_of_ble_eq_true rfl) e3 e4 hM hR hsz hc hs rfl (by cases eb1003; rfl) (Nat.le_of_ble_eq_true rfl)) (fun x1002 h1001 => ?_)
  refine x_if (P := x1002 = 0) (pt := 51) (pf := 63) (st' := []) (fun hC _ _ _ _ _ _ kt kf => lv_if_ne (tgt := 63) hC.1 hC.2.1 d_R_isSameAs_48 (by decide) kf kt) ?_ ?_
  · refine x_go (pc' := 52) (st' := [.ref a0]) (fun hC _ _ _ _ _ _ hl k => lv_aload_n hC.1 hC.2.1 d_R_isSameAs_51 rfl (lv_at hl 0 rfl) k) ?_
    refine x_getL (ci := 0) (kf := 2) (r := (some a0)) (fun hC => w_get hC iw_0 rfl 2 (by decide) tw_124 rfl d_R_isSameAs_52) (fun x1004 => ?_)
    refine x_go (pc' := 56) (st' := [va_rf r1, .long x1004]) (fun hC _ _ _ _ _ _ hl k => lv_aload_nq (r := r1) hC.1 hC.2.1 d_R_isSameAs_55 rfl (lv_at hl 1 rfl) k) ?_
    refine x_getL (ci := 0) (kf := 2) (r := r1) (fun hC => w_get hC iw_0 rfl 2 (by decide) tw_124 rfl d_R_isSameAs_56) (fun x1005 => ?_)
    refine x_go (pc' := 60) (st' := [.int (lg_cmp x1004 x1005)]) (fun hC _ _ _ _ _ _ hl k => W.lcmp hC.1 hC.2.1 d_R_isSameAs_59 k) ?_
    refine x_if (P := (lg_cmp x1004 x1005) = 0) (pt := 63) (pf := 67) (st' := []) (fun hC _ _ _ _ _ _ kt kf => lv_if_ne (tgt := 67) hC.1 hC.2.1 d_R_isSameAs_60 (by decide) kf kt) ?_ ?_
    · refine x_go (pc' := 64) (st' := [.int (1 : Int32)]) (fun hC _ _ _ _ _ _ hl k => lv_iconst (v := 1) hC.1 hC.2.1 d_R_isSameAs_63 (by decide) k) ?_
      refine x_go (pc' := 68) (st' := [.int (1 : Int32)]) (fun hC _ _ _ _ _ _ hl k => lv_goto (tgt := 68) hC.1 hC.2.1 d_R_isSameAs_64 (by decide) k) ?_
      exact x_zret d_R_isSameAs_68
    · refine x_go (pc' := 68) (st' := [.int (0 : Int32)]) (fun hC _ _ _ _ _ _ hl k => lv_iconst (v := 0) hC.1 hC.2.1 d_R_isSameAs_67 (by decide) k) ?_
      exact x_zret d_R_isSameAs_68
  · refine x_go (pc' := 64) (st' := [.int (1 : Int32)]) (fun hC _ _ _ _ _ _ hl k => lv_iconst (v := 1) hC.1 hC.2.1 d_R_isSameAs_63 (by decide) k) ?_
    refine x_go (pc' := 68) (st' := [.int (1 : Int32)]) (fun hC _ _ _ _ _ _ hl k => lv_goto (tgt := 68) hC.1 hC.2.1 d_R_isSameAs_64 (by decide) k) ?_
    exact x_zret d_R_isSameAs_68
set_option maxHeartbeats 4000000 in
set_option maxRecDepth 100000 in
theorem c_R_isSameAs (l : Launch) (B : AB) (a0 : Nat) (r1 : Option Nat) (h : AH) : CT l B y_R_isSameAs (Cond.code y_R_isSameAs b_R_isSameAs 2 (Option.some Jvm.ClassFile.FieldType.boolean) :: lw_tt) 1 21 eI [.ref a0, va_rf r1] h (f_R_isSameAs a0 r1 h) := by
  refine ct_of (own := o_R) (nm := "isSameAs") (by decide +kernel) rfl rfl (by simp [lg_sl, rf_cat, cat_i, cat_l, cat_r]) (fun p e k1 k2 s m args below meth c => ?_)
  refine x_sub (lv' := [(0, .ref a0), (1, va_rf r1)]) [0, 1] (by simp [lv_pick, lv_args, rf_cat, cat_i, cat_l, cat_r]) ?_
  unfold f_R_isSameAs
  refine x_go (pc' := 1) (st' := [.ref a0]) (fun hC _ _ _ _ _ _ hl k => lv_aload_n hC.1 hC.2.1 d_R_isSameAs_0 rfl (lv_at hl 0 rfl) k) ?_
  refine x_getI (ci := 0) (kf := 0) (r := (some a0)) (fun hC => w_get hC iw_0 rfl 0 (by decide) tw_122 rfl d_R_isSameAs_1) (fun x101 => ?_)
  refine x_go (pc' := 5) (st' := [va_rf r1, .int x101]) (fun hC _ _ _ _ _ _ hl k => lv_aload_nq (r := r1) hC.1 hC.2.1 d_R_isSameAs_4 rfl (lv_at hl 1 rfl) k) ?_
  refine x_getI (ci := 0) (kf := 0) (r := r1) (fun hC => w_get hC iw_0 rfl 0 (by decide) tw_122 rfl d_R_isSameAs_5) (fun x102 => ?_)
  refine x_if (P := x101 = x102) (pt := 11) (pf := 67) (st' := []) (fun hC _ _ _ _ _ _ kt kf => lv_icmp_ne (tgt := 67) hC.1 hC.2.1 d_R_isSameAs_8 (by decide) kf kt) ?_ ?_
  · refine x_go (pc' := 12) (st' := [.ref a0]) (fun hC _ _ _ _ _ _ hl k => lv_aload_n hC.1 hC.2.1 d_R_isSameAs_11 rfl (lv_at hl 0 rfl) k) ?_
    refine x_getI (ci := 0) (kf := 3) (r := (some a0)) (fun hC => w_get hC iw_0 rfl 3 (by decide) tw_125 rfl d_R_isSameAs_12) (fun x103 => ?_)
    refine x_go (pc' := 16) (st' := [va_rf r1, .int x103]) (fun hC _ _ _ _ _ _ hl k => lv_aload_nq (r := r1) hC.1 hC.2.1 d_R_isSameAs_15 rfl (lv_at hl 1 rfl) k) ?_
    refine x_getI (ci := 0) (kf := 3) (r := r1) (fun hC => w_get hC iw_0 rfl 3 (by decide) tw_125 rfl d_R_isSameAs_16) (fun x104 => ?_)
    refine x_if (P := x103 = x104) (pt := 22) (pf := 67) (st' := []) (fun hC _ _ _ _ _ _ kt kf => lv_icmp_ne (tgt := 67) hC.1 hC.2.1 d_R_isSameAs_19 (by decide) kf kt) ?_ ?_
    · refine x_go (pc' := 23) (st' := [.ref a0]) (fun hC _ _ _ _ _ _ hl k => lv_aload_n hC.1 hC.2.1 d_R_isSameAs_22 rfl (lv_at hl 0 rfl) k) ?_
      refine x_go (pc' := 24) (st' := [.int (4 : Int32), .ref a0]) (fun hC _ _ _ _ _ _ hl k => lv_iconst (v := 4) hC.1 hC.2.1 d_R_isSameAs_23 (by decide) k) ?_
      refine x_recv (ci := 0) (r := (some a0)) (fun b107 _ eb107 gb107 => ?_)
      refine x_callI (rest := []) (c_R_lacks l B b107 (4 : Int32) h) (fun hC => fun e1 e2 e3 e4 hM => fun hR hsz hc hs => run_V (n := 1) hC lw_good rfl rfl tw_156 tw_158 tv_3 tw_5 tw_159 (by decide) d_R_isSameAs_24 gb107 (by rw [e1]; exact Nat.le_of_ble_eq_true rfl) (by rw [e2]; exact Nat.le_of_ble_eq_true rfl) e3 e4 hM hR hsz hc hs rfl (by cases eb107; rfl) (Nat.le_of_ble_eq_true rfl)) (fun x106 h105 => ?_)
      refine x_if (P := x106 = 0) (pt := 30) (pf := 42) (st' := []) (fun hC _ _ _ _ _ _ kt kf => lv_if_ne (tgt := 42) hC.1 hC.2.1 d_R_isSameAs_27 (by decide) kf kt) ?_ ?_
      · refine x_go (pc' := 31) (st' := [.ref a0]) (fun hC _ _ _ _ _ _ hl k => lv_aload_n hC.1 hC.2.1 d_R_isSameAs_30 rfl (lv_at hl 0 rfl) k) ?_
        refine x_getL (ci := 0) (kf := 1) (r := (some a0)) (fun hC => w_get hC iw_0 rfl 1 (by decide) tw_123 rfl d_R_isSameAs_31) (fun x108 => ?_)
        refine x_go (pc' := 35) (st' := [va_rf r1, .long x108]) (fun hC _ _ _ _ _ _ hl k => lv_aload_nq (r := r1) hC.1 hC.2.1 d_R_isSameAs_34 rfl (lv_at hl 1 rfl) k) ?_
        refine x_getL (ci := 0) (kf := 1) (r := r1) (fun hC => w_get hC iw_0 rfl 1 (by decide) tw_123 rfl d_R_isSameAs_35) (fun x109 => ?_)
        refine x_go (pc' := 39) (st' := [.int (lg_cmp x108 x109)]) (fun hC _ _ _ _ _ _ hl k => W.lcmp hC.1 hC.2.1 d_R_isSameAs_38 k) ?_
        refine x_if (P := (lg_cmp x108 x109) = 0) (pt := 42) (pf := 67) (st' := []) (fun hC _ _ _ _ _ _ kt kf => lv_if_ne (tgt := 67) hC.1 hC.2.1 d_R_isSameAs_39 (by decide) kf kt) ?_ ?_
        · exact x_sub (lv' := [(0, .ref a0), (1, va_rf r1)]) [0, 1] rfl (x_R_isSameAs_b42 a0 r1 h105)
        · refine x_go (pc' := 68) (st' := [.int (0 : Int32)]) (fun hC _ _ _ _ _ _ hl k => lv_iconst (v := 0) hC.1 hC.2.1 d_R_isSameAs_67 (by decide) k) ?_
          exact x_zret d_R_isSameAs_68
      · exact x_sub (lv' := [(0, .ref a0), (1, va_rf r1)]) [0, 1] rfl (x_R_isSameAs_b42 a0 r1 h105)
    · refine x_go (pc' := 68) (st' := [.int (0 : Int32)]) (fun hC _ _ _ _ _ _ hl k => lv_iconst (v := 0) hC.1 hC.2.1 d_R_isSameAs_67 (by decide) k) ?_
      exact x_zret d_R_isSameAs_68
  · refine x_go (pc' := 68) (st' := [.int (0 : Int32)]) (fun hC _ _ _ _ _ _ hl k => lv_iconst (v := 0) hC.1 hC.2.1 d_R_isSameAs_67 (by decide) k) ?_
    exact x_zret d_R_isSameAs_68
