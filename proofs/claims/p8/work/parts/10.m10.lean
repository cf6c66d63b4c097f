/-! SerialDeskModel.find(I)I -/
theorem d_M_find_0 : decode b_M_find 0 = .ok (.iconst (-1), 1) := by decide +kernel
theorem d_M_find_1 : decode b_M_find 1 = .ok (.istore_n 2, 1) := by decide +kernel
theorem d_M_find_2 : decode b_M_find 2 = .ok (.iconst 0, 1) := by decide +kernel
theorem d_M_find_3 : decode b_M_find 3 = .ok (.istore_n 3, 1) := by decide +kernel
theorem d_M_find_4 : decode b_M_find 4 = .ok (.iload_n 3, 1) := by decide +kernel
theorem d_M_find_5 : decode b_M_find 5 = .ok (.aload_n 0, 1) := by decide +kernel
theorem d_M_find_6 : decode b_M_find 6 = .ok (.getfield 69, 3) := by decide +kernel
theorem d_M_find_9 : decode b_M_find 9 = .ok (.if_icmp .ge 25, 3) := by decide +kernel
theorem d_M_find_12 : decode b_M_find 12 = .ok (.aload_n 0, 1) := by decide +kernel
theorem d_M_find_13 : decode b_M_find 13 = .ok (.getfield 7, 3) := by decide +kernel
theorem d_M_find_16 : decode b_M_find 16 = .ok (.iload_n 3, 1) := by decide +kernel
theorem d_M_find_17 : decode b_M_find 17 = .ok (.iaload, 1) := by decide +kernel
theorem d_M_find_18 : decode b_M_find 18 = .ok (.iload_n 1, 1) := by decide +kernel
theorem d_M_find_19 : decode b_M_find 19 = .ok (.if_icmp .ne 7, 3) := by decide +kernel
theorem d_M_find_22 : decode b_M_find 22 = .ok (.iload_n 3, 1) := by decide +kernel
theorem d_M_find_23 : decode b_M_find 23 = .ok (.goto 4, 3) := by decide +kernel
theorem d_M_find_26 : decode b_M_find 26 = .ok (.iload_n 2, 1) := by decide +kernel
theorem d_M_find_27 : decode b_M_find 27 = .ok (.istore_n 2, 1) := by decide +kernel
theorem d_M_find_28 : decode b_M_find 28 = .ok (.iinc 3 1, 3) := by decide +kernel
theorem d_M_find_31 : decode b_M_find 31 = .ok (.goto (-27), 3) := by decide +kernel
theorem d_M_find_34 : decode b_M_find 34 = .ok (.iload_n 2, 1) := by decide +kernel
theorem d_M_find_35 : decode b_M_find 35 = .ok (.ireturn, 1) := by decide +kernel
abbrev X_M_find (p : Program) (l : Launch) (e : Env) (k1 k2 : Nat) (s : State) (m : MethodId) (args : Array Value) (below : List Frame) (meth : Method) (c : Code) (B : AB) (n0 m0 : Nat) (h : AH) (pc : Nat) (lv : List (Nat × Value)) (st : List Value) (comp : Option (Int32 × AH)) : Prop := XX p l e { frames := 0, cells := k1, slots := k2, locals := 0 } s m args below meth c b_M_find o_M lw_tt 4 (Option.some Jvm.ClassFile.FieldType.int) "find" B n0 m0 (QM B below args s { frames := 0, cells := k1, slots := k2, locals := 0 } eI) h pc lv st comp
def f_M_find_b4 : Nat → Nat → Int32 → Int32 → Int32 → AH → Option (Int32 × AH)
  | 0, _, _, _, _, _ => none
  | n + 1, a0, x1, x2, x3, h => (fI h 4 2 (some a0)).bind (fun x1001 => (if x1001 ≤ x3 then some (x2, h) else (fR h 4 3 (some a0)).bind (fun r1002 => (lI h 4 r1002 x3).bind (fun x1003 => (if x1003 = x1 then f_M_find_b4 n a0 x1 x3 (x3 + 1) h else f_M_find_b4 n a0 x1 x2 (x3 + 1) h)))))
def f_M_find (a0 : Nat) (x1 : Int32) (h : AH) : Option (Int32 × AH) := f_M_find_b4 2000 a0 x1 (-1 : Int32) (0 : Int32) h
set_option maxHeartbeats 4000000 in
set_option maxRecDepth 100000 in
theorem x_M_find_b4 {p : Program} {l : Launch} {e : Env} {k1 k2 : Nat} {s : State} {m : MethodId} {args : Array Value} {below : List Frame} {meth : Method} {c : Code} {B : AB} {n0 m0 : Nat} : ∀ (n : Nat) (a0 : Nat) (x1 : Int32) (x2 : Int32) (x3 : Int32) (h : AH), X_M_find p l e k1 k2 s m args below meth c B n0 m0 h 4 [(0, .ref a0), (1, .int x1), (2, .int x2), (3, .int x3)] [] (f_M_find_b4 n a0 x1 x2 x3 h) := by
  intro n
  induction n with
  | zero => intro a0 x1 x2 x3 h; exact x_none
  | succ n ih =>
    intro a0 x1 x2 x3 h
    rw [f_M_find_b4]
    refine x_go (pc' := 5) (st' := [.int x3]) (fun hC _ _ _ _ _ _ hl k => lv_iload_n hC.1 hC.2.1 d_M_find_4 rfl (lv_at hl 3 rfl) k) ?_
    refine x_go (pc' := 6) (st' := [.ref a0, .int x3]) (fun hC _ _ _ _ _ _ hl k => lv_aload_n hC.1 hC.2.1 d_M_find_5 rfl (lv_at hl 0 rfl) k) ?_
    refine x_getI (ci := 4) (kf := 2) (r := (some a0)) (fun hC => w_get hC iw_4 rfl 2 (by decide) tw_316 rfl d_M_find_6) (fun x1001 => ?_)
    refine x_if (P := x1001 ≤ x3) (pt := 34) (pf := 12) (st' := []) (fun hC _ _ _ _ _ _ kt kf => lv_icmp_ge (tgt := 34) hC.1 hC.2.1 d_M_find_9 (by decide) kt kf) ?_ ?_
    · refine x_go (pc' := 35) (st' := [.int x2]) (fun hC _ _ _ _ _ _ hl k => lv_iload_n hC.1 hC.2.1 d_M_find_34 rfl (lv_at hl 2 rfl) k) ?_
      exact x_iret d_M_find_35
    · refine x_go (pc' := 13) (st' := [.ref a0]) (fun hC _ _ _ _ _ _ hl k => lv_aload_n hC.1 hC.2.1 d_M_find_12 rfl (lv_at hl 0 rfl) k) ?_
      refine x_getR (ci := 4) (kf := 3) (r := (some a0)) (fun hC => w_get hC iw_4 rfl 3 (by decide) tw_317 rfl d_M_find_13) (fun r1002 => ?_)
      refine x_go (pc' := 17) (st' := [.int x3, va_rf r1002]) (fun hC _ _ _ _ _ _ hl k => lv_iload_n hC.1 hC.2.1 d_M_find_16 rfl (lv_at hl 3 rfl) k) ?_
      refine x_iald (t := 4) rfl (r := r1002) (i := x3) d_M_find_17 (fun x1003 => ?_)
      refine x_go (pc' := 19) (st' := [.int x1, .int x1003]) (fun hC _ _ _ _ _ _ hl k => lv_iload_n hC.1 hC.2.1 d_M_find_18 rfl (lv_at hl 1 rfl) k) ?_
      refine x_if (P := x1003 = x1) (pt := 22) (pf := 26) (st' := []) (fun hC _ _ _ _ _ _ kt kf => lv_icmp_ne (tgt := 26) hC.1 hC.2.1 d_M_find_19 (by decide) kf kt) ?_ ?_
      · refine x_go (pc' := 23) (st' := [.int x3]) (fun hC _ _ _ _ _ _ hl k => lv_iload_n hC.1 hC.2.1 d_M_find_22 rfl (lv_at hl 3 rfl) k) ?_
        refine x_go (pc' := 27) (st' := [.int x3]) (fun hC _ _ _ _ _ _ hl k => lv_goto (tgt := 27) hC.1 hC.2.1 d_M_find_23 (by decide) k) ?_
        refine x_lift (pc' := 28) (st' := []) (lv' := [(2, .int x3), (0, .ref a0), (1, .int x1), (3, .int x3)]) (fun hC _ _ _ _ _ _ hl k => lv_istore_n (i := 2) hC.1 hC.2.1 d_M_find_27 rfl hl (by decide) rfl k) ?_
        refine x_lift (pc' := 31) (st' := []) (lv' := [(3, .int (x3 + 1)), (2, .int x3), (0, .ref a0), (1, .int x1)]) (fun hC _ _ _ _ _ _ hl k => lv_iinc (v := (x3 + 1)) hC.1 hC.2.1 d_M_find_28 hl (k := 3) rfl rfl (by decide) rfl k) ?_
        refine x_go (pc' := 4) (st' := []) (fun hC _ _ _ _ _ _ hl k => lv_goto (tgt := 4) hC.1 hC.2.1 d_M_find_31 (by decide) k) ?_
        exact x_sub (lv' := [(0, .ref a0), (1, .int x1), (2, .int x3), (3, .int (x3 + 1))]) [2, 3, 1, 0] rfl (ih a0 x1 x3 (x3 + 1) h)
      · refine x_go (pc' := 27) (st' := [.int x2]) (fun hC _ _ _ _ _ _ hl k => lv_iload_n hC.1 hC.2.1 d_M_find_26 rfl (lv_at hl 2 rfl) k) ?_
        refine x_lift (pc' := 28) (st' := []) (lv' := [(2, .int x2), (0, .ref a0), (1, .int x1), (3, .int x3)]) (fun hC _ _ _ _ _ _ hl k => lv_istore_n (i := 2) hC.1 hC.2.1 d_M_find_27 rfl hl (by decide) rfl k) ?_
        refine x_lift (pc' := 31) (st' := []) (lv' := [(3, .int (x3 + 1)), (2, .int x2), (0, .ref a0), (1, .int x1)]) (fun hC _ _ _ _ _ _ hl k => lv_iinc (v := (x3 + 1)) hC.1 hC.2.1 d_M_find_28 hl (k := 3) rfl rfl (by decide) rfl k) ?_
        refine x_go (pc' := 4) (st' := []) (fun hC _ _ _ _ _ _ hl k => lv_goto (tgt := 4) hC.1 hC.2.1 d_M_find_31 (by decide) k) ?_
        exact x_sub (lv' := [(0, .ref a0), (1, .int x1), (2, .int x2), (3, .int (x3 + 1))]) [2, 3, 1, 0] rfl (ih a0 x1 x2 (x3 + 1) h)
set_option maxHeartbeats 4000000 in
set_option maxRecDepth 100000 in
theorem c_M_find (l : Launch) (B : AB) (a0 : Nat) (x1 : Int32) (h : AH) : CT l B y_M_find (Cond.code y_M_find b_M_find 4 (Option.some Jvm.ClassFile.FieldType.int) :: lw_tt) 0 0 eI [.ref a0, .int x1] h (f_M_find a0 x1 h) := by
  refine ct_of (own := o_M) (nm := "find") (by decide +kernel) rfl rfl (Nat.le_of_ble_eq_true rfl) (fun p e k1 k2 s m args below meth c => ?_)
  refine x_sub (lv' := [(0, .ref a0), (1, .int x1)]) [0, 1] rfl ?_
  unfold f_M_find
  refine x_go (pc' := 1) (st' := [.int (-1 : Int32)]) (fun hC _ _ _ _ _ _ hl k => lv_iconst (v := -1) hC.1 hC.2.1 d_M_find_0 (by decide) k) ?_
  refine x_lift (pc' := 2) (st' := []) (lv' := [(2, .int (-1 : Int32)), (0, .ref a0), (1, .int x1)]) (fun hC _ _ _ _ _ _ hl k => lv_istore_n (i := 2) hC.1 hC.2.1 d_M_find_1 rfl hl (by decide) rfl k) ?_
  refine x_go (pc' := 3) (st' := [.int (0 : Int32)]) (fun hC _ _ _ _ _ _ hl k => lv_iconst (v := 0) hC.1 hC.2.1 d_M_find_2 (by decide) k) ?_
  refine x_lift (pc' := 4) (st' := []) (lv' := [(3, .int (0 : Int32)), (2, .int (-1 : Int32)), (0, .ref a0), (1, .int x1)]) (fun hC _ _ _ _ _ _ hl k => lv_istore_n (i := 3) hC.1 hC.2.1 d_M_find_3 rfl hl (by decide) rfl k) ?_
  exact x_sub (lv' := [(0, .ref a0), (1, .int x1), (2, .int (-1 : Int32)), (3, .int (0 : Int32))]) [2, 3, 1, 0] rfl (x_M_find_b4 2000 a0 x1 (-1 : Int32) (0 : Int32) h)
/-! SerialDeskModel.concurrent(II)Z -/
theorem d_M_concurrent_0 : decode b_M_concurrent 0 = .ok (.aload_n 0, 1) := by decide +kernel
theorem d_M_concurrent_1 : decode b_M_concurrent 1 = .ok (.getfield 19, 3) := by decide +kernel
theorem d_M_concurrent_4 : decode b_M_concurrent 4 = .ok (.iload_n 1, 1) := by decide +kernel
theorem d_M_concurrent_5 : decode b_M_concurrent 5 = .ok (.iaload, 1) := by decide +kernel
theorem d_M_concurrent_6 : decode b_M_concurrent 6 = .ok (.ifCond .eq 18, 3) := by decide +kernel
theorem d_M_concurrent_9 : decode b_M_concurrent 9 = .ok (.aload_n 0, 1) := by decide +kernel
theorem d_M_concurrent_10 : decode b_M_concurrent 10 = .ok (.getfield 19, 3) := by decide +kernel
theorem d_M_concurrent_13 : decode b_M_concurrent 13 = .ok (.iload_n 1, 1) := by decide +kernel
theorem d_M_concurrent_14 : decode b_M_concurrent 14 = .ok (.iaload, 1) := by decide +kernel
theorem d_M_concurrent_15 : decode b_M_concurrent 15 = .ok (.aload_n 0, 1) := by decide +kernel
theorem d_M_concurrent_16 : decode b_M_concurrent 16 = .ok (.getfield 16, 3) := by decide +kernel
theorem d_M_concurrent_19 : decode b_M_concurrent 19 = .ok (.iload_n 2, 1) := by decide +kernel
theorem d_M_concurrent_20 : decode b_M_concurrent 20 = .ok (.iaload, 1) := by decide +kernel
theorem d_M_concurrent_21 : decode b_M_concurrent 21 = .ok (.if_icmp .le 31, 3) := by decide +kernel
theorem d_M_concurrent_24 : decode b_M_concurrent 24 = .ok (.aload_n 0, 1) := by decide +kernel
theorem d_M_concurrent_25 : decode b_M_concurrent 25 = .ok (.getfield 19, 3) := by decide +kernel
theorem d_M_concurrent_28 : decode b_M_concurrent 28 = .ok (.iload_n 2, 1) := by decide +kernel
theorem d_M_concurrent_29 : decode b_M_concurrent 29 = .ok (.iaload, 1) := by decide +kernel
theorem d_M_concurrent_30 : decode b_M_concurrent 30 = .ok (.ifCond .eq 18, 3) := by decide +kernel
theorem d_M_concurrent_33 : decode b_M_concurrent 33 = .ok (.aload_n 0, 1) := by decide +kernel
theorem d_M_concurrent_34 : decode b_M_concurrent 34 = .ok (.getfield 19, 3) := by decide +kernel
theorem d_M_concurrent_37 : decode b_M_concurrent 37 = .ok (.iload_n 2, 1) := by decide +kernel
theorem d_M_concurrent_38 : decode b_M_concurrent 38 = .ok (.iaload, 1) := by decide +kernel
theorem d_M_concurrent_39 : decode b_M_concurrent 39 = .ok (.aload_n 0, 1) := by decide +kernel
theorem d_M_concurrent_40 : decode b_M_concurrent 40 = .ok (.getfield 16, 3) := by decide +kernel
theorem d_M_concurrent_43 : decode b_M_concurrent 43 = .ok (.iload_n 1, 1) := by decide +kernel
theorem d_M_concurrent_44 : decode b_M_concurrent 44 = .ok (.iaload, 1) := by decide +kernel
theorem d_M_concurrent_45 : decode b_M_concurrent 45 = .ok (.if_icmp .le 7, 3) := by decide +kernel
theorem d_M_concurrent_48 : decode b_M_concurrent 48 = .ok (.iconst 1, 1) := by decide +kernel
theorem d_M_concurrent_49 : decode b_M_concurrent 49 = .ok (.goto 4, 3) := by decide +kernel
theorem d_M_concurrent_52 : decode b_M_concurrent 52 = .ok (.iconst 0, 1) := by decide +kernel
theorem d_M_concurrent_53 : decode b_M_concurrent 53 = .ok (.ireturn, 1) := by decide +kernel
abbrev X_M_concurrent (p : Program) (l : Launch) (e : Env) (k1 k2 : Nat) (s : State) (m : MethodId) (args : Array Value) (below : List Frame) (meth : Method) (c : Code) (B : AB) (n0 m0 : Nat) (h : AH) (pc : Nat) (lv : List (Nat × Value)) (st : List Value) (comp : Option (Int32 × AH)) : Prop := XX p l e { frames := 0, cells := k1, slots := k2, locals := 0 } s m args below meth c b_M_concurrent o_M lw_tt 3 (Option.some Jvm.ClassFile.FieldType.boolean) "concurrent" B n0 m0 (QM B below args s { frames := 0, cells := k1, slots := k2, locals := 0 } eI) h pc lv st comp
def f_M_concurrent_b24 (a0 : Nat) (x1 : Int32) (x2 : Int32) (h : AH) : Option (Int32 × AH) := (fR h 4 6 (some a0)).bind (fun r1001 => (lI h 4 r1001 x2).bind (fun x1002 => (if x1002 = 0 then rZ (1 : Int32) h else (fR h 4 6 (some a0)).bind (fun r1003 => (lI h 4 r1003 x2).bind (fun x1004 => (fR h 4 5 (some a0)).bind (fun r1005 => (lI h 4 r1005 x1).bind (fun x1006 => (if x1004 ≤ x1006 then rZ (0 : Int32) h else rZ (1 : Int32) h))))))))
def f_M_concurrent (a0 : Nat) (x1 : Int32) (x2 : Int32) (h : AH) : Option (Int32 × AH) := (fR h 4 6 (some a0)).bind (fun r101 => (lI h 4 r101 x1).bind (fun x102 => (if x102 = 0 then f_M_concurrent_b24 a0 x1 x2 h else (fR h 4 6 (some a0)).bind (fun r103 => (lI h 4 r103 x1).bind (fun x104 => (fR h 4 5 (some a0)).bind (fun r105 => (lI h 4 r105 x2).bind (fun x106 => (if x104 ≤ x106 then rZ (0 : Int32) h else f_M_concurrent_b24 a0 x1 x2 h))))))))
set_option maxHeartbeats 4000000 in
set_option maxRecDepth 100000 in
theorem x_M_concurrent_b24 {p : Program} {l : Launch} {e : Env} {k1 k2 : Nat} {s : State} {m : MethodId} {args : Array Value} {below : List Frame} {meth : Method} {c : Code} {B : AB} {n0 m0 : Nat} (a0 : Nat) (x1 : Int32) (x2 : Int32) (h : AH) : X_M_concurrent p l e k1 k2 s m args below meth c B n0 m0 h 24 [(0, .ref a0), (1, .int x1), (2, .int x2)] [] (f_M_concurrent_b24 a0 x1 x2 h) := by
  unfold f_M_concurrent_b24
  refine x_go (pc' := 25) (st' := [.ref a0]) (fun hC _ _ _ _ _ _ hl k => lv_aload_n hC.1 hC.2.1 d_M_concurrent_24 rfl (lv_at hl 0 rfl) k) ?_
  refine x_getR (ci := 4) (kf := 6) (r := (some a0)) (fun hC => w_get hC iw_4 rfl 6 (by decide) tw_320 rfl d_M_concurrent_25) (fun r1001 => ?_)
  refine x_go (pc' := 29) (st' := [.int x2, va_rf r1001]) (fun hC _ _ _ _ _ _ hl k => lv_iload_n hC.1 hC.2.1 d_M_concurrent_28 rfl (lv_at hl 2 rfl) k) ?_
  refine x_iald (t := 4) rfl (r := r1001) (i := x2) d_M_concurrent_29 (fun x1002 => ?_)
  refine x_if (P := x1002 = 0) (pt := 48) (pf := 33) (st' := []) (fun hC _ _ _ _ _ _ kt kf => lv_if_eq (tgt := 48) hC.1 hC.2.1 d_M_concurrent_30 (by decide) kt kf) ?_ ?_
  · refine x_go (pc' := 49) (st' := [.int (1 : Int32)]) (fun hC _ _ _ _ _ _ hl k => lv_iconst (v := 1) hC.1 hC.2.1 d_M_concurrent_48 (by decide) k) ?_
    refine x_go (pc' := 53) (st' := [.int (1 : Int32)]) (fun hC _ _ _ _ _ _ hl k => lv_goto (tgt := 53) hC.1 hC.2.1 d_M_concurrent_49 (by decide) k) ?_
    exact x_zret d_M_concurrent_53
  · refine x_go (pc' := 34) (st' := [.ref a0]) (fun hC _ _ _ _ _ _ hl k => lv_aload_n hC.1 hC.2.1 d_M_concurrent_33 rfl (lv_at hl 0 rfl) k) ?_
    refine x_getR (ci := 4) (kf := 6) (r := (some a0)) (fun hC => w_get hC iw_4 rfl 6 (by decide) tw_320 rfl d_M_concurrent_34) (fun r1003 => ?_)
    refine x_go (pc' := 38) (st' := [.int x2, va_rf r1003]) (fun hC _ _ _ _ _ _ hl k => lv_iload_n hC.1 hC.2.1 d_M_concurrent_37 rfl (lv_at hl 2 rfl) k) ?_
    refine x_iald (t := 4) rfl (r := r1003) (i := x2) d_M_concurrent_38 (fun x1004 => ?_)
    refine x_go (pc' := 40) (st' := [.ref a0, .int x1004]) (fun hC _ _ _ _ _ _ hl k => lv_aload_n hC.1 hC.2.1 d_M_concurrent_39 rfl (lv_at hl 0 rfl) k) ?_
    refine x_getR (ci := 4) (kf := 5) (r := (some a0)) (fun hC => w_get hC iw_4 rfl 5 (by decide) tw_319 rfl d_M_concurrent_40) (fun r1005 => ?_)
    refine x_go (pc' := 44) (st' := [.int x1, va_rf r1005, .int x1004]) (fun hC _ _ _ _ _ _ hl k => lv_iload_n hC.1 hC.2.1 d_M_concurrent_43 rfl (lv_at hl 1 rfl) k) ?_
    refine x_iald (t := 4) rfl (r := r1005) (i := x1) d_M_concurrent_44 (fun x1006 => ?_)
    refine x_if (P := x1004 ≤ x1006) (pt := 52) (pf := 48) (st' := []) (fun hC _ _ _ _ _ _ kt kf => lv_icmp_le (tgt := 52) hC.1 hC.2.1 d_M_concurrent_45 (by decide) kt kf) ?_ ?_
    · refine x_go (pc' := 53) (st' := [.int (0 : Int32)]) (fun hC _ _ _ _ _ _ hl k => lv_iconst (v := 0) hC.1 hC.2.1 d_M_concurrent_52 (by decide) k) ?_
      exact x_zret d_M_concurrent_53
    · refine x_go (pc' := 49) (st' := [.int (1 : Int32)]) (fun hC _ _ _ _ _ _ hl k => lv_iconst (v := 1) hC.1 hC.2.1 d_M_concurrent_48 (by decide) k) ?_
      refine x_go (pc' := 53) (st' := [.int (1 : Int32)]) (fun hC _ _ _ _ _ _ hl k => lv_goto (tgt := 53) hC.1 hC.2.1 d_M_concurrent_49 (by decide) k) ?_
      exact x_zret d_M_concurrent_53
set_option maxHeartbeats 4000000 in
set_option maxRecDepth 100000 in
theorem c_M_concurrent (l : Launch) (B : AB) (a0 : Nat) (x1 : Int32) (x2 : Int32) (h : AH) : CT l B y_M_concurrent (Cond.code y_M_concurrent b_M_concurrent 3 (Option.some Jvm.ClassFile.FieldType.boolean) :: lw_tt) 0 0 eI [.ref a0, .int x1, .int x2] h (f_M_concurrent a0 x1 x2 h) := by
  refine ct_of (own := o_M) (nm := "concurrent") (by decide +kernel) rfl rfl (Nat.le_of_ble_eq_true rfl) (fun p e k1 k2 s m args below meth c => ?_)
  refine x_sub (lv' := [(0, .ref a0), (1, .int x1), (2, .int x2)]) [0, 1, 2] rfl ?_
  unfold f_M_concurrent
  refine x_go (pc' := 1) (st' := [.ref a0]) (fun hC _ _ _ _ _ _ hl k => lv_aload_n hC.1 hC.2.1 d_M_concurrent_0 rfl (lv_at hl 0 rfl) k) ?_
  refine x_getR (ci := 4) (kf := 6) (r := (some a0)) (fun hC => w_get hC iw_4 rfl 6 (by decide) tw_320 rfl d_M_concurrent_1) (fun r101 => ?_)
  refine x_go (pc' := 5) (st' := [.int x1, va_rf r101]) (fun hC _ _ _ _ _ _ hl k => lv_iload_n hC.1 hC.2.1 d_M_concurrent_4 rfl (lv_at hl 1 rfl) k) ?_
  refine x_iald (t := 4) rfl (r := r101) (i := x1) d_M_concurrent_5 (fun x102 => ?_)
  refine x_if (P := x102 = 0) (pt := 24) (pf := 9) (st' := []) (fun hC _ _ _ _ _ _ kt kf => lv_if_eq (tgt := 24) hC.1 hC.2.1 d_M_concurrent_6 (by decide) kt kf) ?_ ?_
  · exact x_sub (lv' := [(0, .ref a0), (1, .int x1), (2, .int x2)]) [0, 1, 2] rfl (x_M_concurrent_b24 a0 x1 x2 h)
  · refine x_go (pc' := 10) (st' := [.ref a0]) (fun hC _ _ _ _ _ _ hl k => lv_aload_n hC.1 hC.2.1 d_M_concurrent_9 rfl (lv_at hl 0 rfl) k) ?_
    refine x_getR (ci := 4) (kf := 6) (r := (some a0)) (fun hC => w_get hC iw_4 rfl 6 (by decide) tw_320 rfl d_M_concurrent_10) (fun r103 => ?_)
    refine x_go (pc' := 14) (st' := [.int x1, va_rf r103]) (fun hC _ _ _ _ _ _ hl k => lv_iload_n hC.1 hC.2.1 d_M_concurrent_13 rfl (lv_at hl 1 rfl) k) ?_
    refine x_iald (t := 4) rfl (r := r103) (i := x1) d_M_concurrent_14 (fun x104 => ?_)
    refine x_go (pc' := 16) (st' := [.ref a0, .int x104]) (fun hC _ _ _ _ _ _ hl k => lv_aload_n hC.1 hC.2.1 d_M_concurrent_15 rfl (lv_at hl 0 rfl) k) ?_
    refine x_getR (ci := 4) (kf := 5) (r := (some a0)) (fun hC => w_get hC iw_4 rfl 5 (by decide) tw_319 rfl d_M_concurrent_16) (fun r105 => ?_)
    refine x_go (pc' := 20) (st' := [.int x2, va_rf r105, .int x104]) (fun hC _ _ _ _ _ _ hl k => lv_iload_n hC.1 hC.2.1 d_M_concurrent_19 rfl (lv_at hl 2 rfl) k) ?_
    refine x_iald (t := 4) rfl (r := r105) (i := x2) d_M_concurrent_20 (fun x106 => ?_)
    refine x_if (P := x104 ≤ x106) (pt := 52) (pf := 24) (st' := []) (fun hC _ _ _ _ _ _ kt kf => lv_icmp_le (tgt := 52) hC.1 hC.2.1 d_M_concurrent_21 (by decide) kt kf) ?_ ?_
    · refine x_go (pc' := 53) (st' := [.int (0 : Int32)]) (fun hC _ _ _ _ _ _ hl k => lv_iconst (v := 0) hC.1 hC.2.1 d_M_concurrent_52 (by decide) k) ?_
      exact x_zret d_M_concurrent_53
    · exact x_sub (lv' := [(0, .ref a0), (1, .int x1), (2, .int x2)]) [0, 1, 2] rfl (x_M_concurrent_b24 a0 x1 x2 h)
/-! SerialDeskModel.begin(I)I -/
theorem d_M_begin_0 : decode b_M_begin 0 = .ok (.iload_n 1, 1) := by decide +kernel
theorem d_M_begin_1 : decode b_M_begin 1 = .ok (.ifCond .lt 26, 3) := by decide +kernel
theorem d_M_begin_4 : decode b_M_begin 4 = .ok (.iload_n 1, 1) := by decide +kernel
theorem d_M_begin_5 : decode b_M_begin 5 = .ok (.bipush 6, 2) := by decide +kernel
theorem d_M_begin_7 : decode b_M_begin 7 = .ok (.if_icmp .ge 20, 3) := by decide +kernel
theorem d_M_begin_10 : decode b_M_begin 10 = .ok (.aload_n 0, 1) := by decide +kernel
theorem d_M_begin_11 : decode b_M_begin 11 = .ok (.iload_n 1, 1) := by decide +kernel
theorem d_M_begin_12 : decode b_M_begin 12 = .ok (.invokevirtual 73, 3) := by decide +kernel
theorem d_M_begin_15 : decode b_M_begin 15 = .ok (.ifCond .ge 12, 3) := by decide +kernel
theorem d_M_begin_18 : decode b_M_begin 18 = .ok (.aload_n 0, 1) := by decide +kernel
theorem d_M_begin_19 : decode b_M_begin 19 = .ok (.getfield 69, 3) := by decide +kernel
theorem d_M_begin_22 : decode b_M_begin 22 = .ok (.bipush 64, 2) := by decide +kernel
theorem d_M_begin_24 : decode b_M_begin 24 = .ok (.if_icmp .ne 5, 3) := by decide +kernel
theorem d_M_begin_27 : decode b_M_begin 27 = .ok (.iconst (-1), 1) := by decide +kernel
theorem d_M_begin_28 : decode b_M_begin 28 = .ok (.ireturn, 1) := by decide +kernel
theorem d_M_begin_29 : decode b_M_begin 29 = .ok (.aload_n 0, 1) := by decide +kernel
theorem d_M_begin_30 : decode b_M_begin 30 = .ok (.dup, 1) := by decide +kernel
theorem d_M_begin_31 : decode b_M_begin 31 = .ok (.getfield 77, 3) := by decide +kernel
theorem d_M_begin_34 : decode b_M_begin 34 = .ok (.iconst 1, 1) := by decide +kernel
theorem d_M_begin_35 : decode b_M_begin 35 = .ok (.iadd, 1) := by decide +kernel
theorem d_M_begin_36 : decode b_M_begin 36 = .ok (.putfield 77, 3) := by decide +kernel
theorem d_M_begin_39 : decode b_M_begin 39 = .ok (.aload_n 0, 1) := by decide +kernel
theorem d_M_begin_40 : decode b_M_begin 40 = .ok (.getfield 7, 3) := by decide +kernel
theorem d_M_begin_43 : decode b_M_begin 43 = .ok (.aload_n 0, 1) := by decide +kernel
theorem d_M_begin_44 : decode b_M_begin 44 = .ok (.getfield 69, 3) := by decide +kernel
theorem d_M_begin_47 : decode b_M_begin 47 = .ok (.aload_n 0, 1) := by decide +kernel
theorem d_M_begin_48 : decode b_M_begin 48 = .ok (.getfield 77, 3) := by decide +kernel
theorem d_M_begin_51 : decode b_M_begin 51 = .ok (.iastore, 1) := by decide +kernel
theorem d_M_begin_52 : decode b_M_begin 52 = .ok (.aload_n 0, 1) := by decide +kernel
theorem d_M_begin_53 : decode b_M_begin 53 = .ok (.getfield 13, 3) := by decide +kernel
theorem d_M_begin_56 : decode b_M_begin 56 = .ok (.aload_n 0, 1) := by decide +kernel
theorem d_M_begin_57 : decode b_M_begin 57 = .ok (.getfield 69, 3) := by decide +kernel
theorem d_M_begin_60 : decode b_M_begin 60 = .ok (.iload_n 1, 1) := by decide +kernel
theorem d_M_begin_61 : decode b_M_begin 61 = .ok (.iastore, 1) := by decide +kernel
theorem d_M_begin_62 : decode b_M_begin 62 = .ok (.aload_n 0, 1) := by decide +kernel
theorem d_M_begin_63 : decode b_M_begin 63 = .ok (.getfield 16, 3) := by decide +kernel
theorem d_M_begin_66 : decode b_M_begin 66 = .ok (.aload_n 0, 1) := by decide +kernel
theorem d_M_begin_67 : decode b_M_begin 67 = .ok (.getfield 69, 3) := by decide +kernel
theorem d_M_begin_70 : decode b_M_begin 70 = .ok (.aload_n 0, 1) := by decide +kernel
theorem d_M_begin_71 : decode b_M_begin 71 = .ok (.getfield 80, 3) := by decide +kernel
theorem d_M_begin_74 : decode b_M_begin 74 = .ok (.iastore, 1) := by decide +kernel
theorem d_M_begin_75 : decode b_M_begin 75 = .ok (.aload_n 0, 1) := by decide +kernel
theorem d_M_begin_76 : decode b_M_begin 76 = .ok (.getfield 48, 3) := by decide +kernel
theorem d_M_begin_79 : decode b_M_begin 79 = .ok (.aload_n 0, 1) := by decide +kernel
theorem d_M_begin_80 : decode b_M_begin 80 = .ok (.getfield 77, 3) := by decide +kernel
theorem d_M_begin_83 : decode b_M_begin 83 = .ok (.aload_n 0, 1) := by decide +kernel
theorem d_M_begin_84 : decode b_M_begin 84 = .ok (.getfield 80, 3) := by decide +kernel
theorem d_M_begin_87 : decode b_M_begin 87 = .ok (.iastore, 1) := by decide +kernel
theorem d_M_begin_88 : decode b_M_begin 88 = .ok (.aload_n 0, 1) := by decide +kernel
theorem d_M_begin_89 : decode b_M_begin 89 = .ok (.getfield 19, 3) := by decide +kernel
theorem d_M_begin_92 : decode b_M_begin 92 = .ok (.aload_n 0, 1) := by decide +kernel
theorem d_M_begin_93 : decode b_M_begin 93 = .ok (.getfield 69, 3) := by decide +kernel
theorem d_M_begin_96 : decode b_M_begin 96 = .ok (.iconst 0, 1) := by decide +kernel
theorem d_M_begin_97 : decode b_M_begin 97 = .ok (.iastore, 1) := by decide +kernel
theorem d_M_begin_98 : decode b_M_begin 98 = .ok (.aload_n 0, 1) := by decide +kernel
theorem d_M_begin_99 : decode b_M_begin 99 = .ok (.getfield 22, 3) := by decide +kernel
theorem d_M_begin_102 : decode b_M_begin 102 = .ok (.aload_n 0, 1) := by decide +kernel
theorem d_M_begin_103 : decode b_M_begin 103 = .ok (.getfield 69, 3) := by decide +kernel
theorem d_M_begin_106 : decode b_M_begin 106 = .ok (.iconst 0, 1) := by decide +kernel
theorem d_M_begin_107 : decode b_M_begin 107 = .ok (.bastore, 1) := by decide +kernel
theorem d_M_begin_108 : decode b_M_begin 108 = .ok (.aload_n 0, 1) := by decide +kernel
theorem d_M_begin_109 : decode b_M_begin 109 = .ok (.getfield 26, 3) := by decide +kernel
theorem d_M_begin_112 : decode b_M_begin 112 = .ok (.aload_n 0, 1) := by decide +kernel
theorem d_M_begin_113 : decode b_M_begin 113 = .ok (.getfield 69, 3) := by decide +kernel
theorem d_M_begin_116 : decode b_M_begin 116 = .ok (.iconst 0, 1) := by decide +kernel
theorem d_M_begin_117 : decode b_M_begin 117 = .ok (.iastore, 1) := by decide +kernel
theorem d_M_begin_118 : decode b_M_begin 118 = .ok (.iconst 0, 1) := by decide +kernel
theorem d_M_begin_119 : decode b_M_begin 119 = .ok (.istore_n 2, 1) := by decide +kernel
theorem d_M_begin_120 : decode b_M_begin 120 = .ok (.iload_n 2, 1) := by decide +kernel
theorem d_M_begin_121 : decode b_M_begin 121 = .ok (.bipush 64, 2) := by decide +kernel
theorem d_M_begin_123 : decode b_M_begin 123 = .ok (.if_icmp .ge 39, 3) := by decide +kernel
theorem d_M_begin_126 : decode b_M_begin 126 = .ok (.aload_n 0, 1) := by decide +kernel
theorem d_M_begin_127 : decode b_M_begin 127 = .ok (.getfield 29, 3) := by decide +kernel
theorem d_M_begin_130 : decode b_M_begin 130 = .ok (.bipush 64, 2) := by decide +kernel
theorem d_M_begin_132 : decode b_M_begin 132 = .ok (.aload_n 0, 1) := by decide +kernel
theorem d_M_begin_133 : decode b_M_begin 133 = .ok (.getfield 69, 3) := by decide +kernel
theorem d_M_begin_136 : decode b_M_begin 136 = .ok (.imul, 1) := by decide +kernel
theorem d_M_begin_137 : decode b_M_begin 137 = .ok (.iload_n 2, 1) := by decide +kernel
theorem d_M_begin_138 : decode b_M_begin 138 = .ok (.iadd, 1) := by decide +kernel
theorem d_M_begin_139 : decode b_M_begin 139 = .ok (.iconst 0, 1) := by decide +kernel
theorem d_M_begin_140 : decode b_M_begin 140 = .ok (.bastore, 1) := by decide +kernel
theorem d_M_begin_141 : decode b_M_begin 141 = .ok (.aload_n 0, 1) := by decide +kernel
theorem d_M_begin_142 : decode b_M_begin 142 = .ok (.getfield 29, 3) := by decide +kernel
theorem d_M_begin_145 : decode b_M_begin 145 = .ok (.bipush 64, 2) := by decide +kernel
theorem d_M_begin_147 : decode b_M_begin 147 = .ok (.iload_n 2, 1) := by decide +kernel
theorem d_M_begin_148 : decode b_M_begin 148 = .ok (.imul, 1) := by decide +kernel
theorem d_M_begin_149 : decode b_M_begin 149 = .ok (.aload_n 0, 1) := by decide +kernel
theorem d_M_begin_150 : decode b_M_begin 150 = .ok (.getfield 69, 3) := by decide +kernel
theorem d_M_begin_153 : decode b_M_begin 153 = .ok (.iadd, 1) := by decide +kernel
theorem d_M_begin_154 : decode b_M_begin 154 = .ok (.iconst 0, 1) := by decide +kernel
theorem d_M_begin_155 : decode b_M_begin 155 = .ok (.bastore, 1) := by decide +kernel
theorem d_M_begin_156 : decode b_M_begin 156 = .ok (.iinc 2 1, 3) := by decide +kernel
theorem d_M_begin_159 : decode b_M_begin 159 = .ok (.goto (-39), 3) := by decide +kernel
theorem d_M_begin_162 : decode b_M_begin 162 = .ok (.iconst 0, 1) := by decide +kernel
theorem d_M_begin_163 : decode b_M_begin 163 = .ok (.istore_n 2, 1) := by decide +kernel
theorem d_M_begin_164 : decode b_M_begin 164 = .ok (.iload_n 2, 1) := by decide +kernel
theorem d_M_begin_165 : decode b_M_begin 165 = .ok (.bipush 8, 2) := by decide +kernel
theorem d_M_begin_167 : decode b_M_begin 167 = .ok (.if_icmp .ge 24, 3) := by decide +kernel
theorem d_M_begin_170 : decode b_M_begin 170 = .ok (.aload_n 0, 1) := by decide +kernel
theorem d_M_begin_171 : decode b_M_begin 171 = .ok (.getfield 32, 3) := by decide +kernel
theorem d_M_begin_174 : decode b_M_begin 174 = .ok (.bipush 8, 2) := by decide +kernel
theorem d_M_begin_176 : decode b_M_begin 176 = .ok (.aload_n 0, 1) := by decide +kernel
theorem d_M_begin_177 : decode b_M_begin 177 = .ok (.getfield 69, 3) := by decide +kernel
theorem d_M_begin_180 : decode b_M_begin 180 = .ok (.imul, 1) := by decide +kernel
theorem d_M_begin_181 : decode b_M_begin 181 = .ok (.iload_n 2, 1) := by decide +kernel
theorem d_M_begin_182 : decode b_M_begin 182 = .ok (.iadd, 1) := by decide +kernel
theorem d_M_begin_183 : decode b_M_begin 183 = .ok (.iconst 0, 1) := by decide +kernel
theorem d_M_begin_184 : decode b_M_begin 184 = .ok (.iastore, 1) := by decide +kernel
theorem d_M_begin_185 : decode b_M_begin 185 = .ok (.iinc 2 1, 3) := by decide +kernel
theorem d_M_begin_188 : decode b_M_begin 188 = .ok (.goto (-24), 3) := by decide +kernel
theorem d_M_begin_191 : decode b_M_begin 191 = .ok (.aload_n 0, 1) := by decide +kernel
theorem d_M_begin_192 : decode b_M_begin 192 = .ok (.dup, 1) := by decide +kernel
theorem d_M_begin_193 : decode b_M_begin 193 = .ok (.getfield 69, 3) := by decide +kernel
theorem d_M_begin_196 : decode b_M_begin 196 = .ok (.iconst 1, 1) := by decide +kernel
theorem d_M_begin_197 : decode b_M_begin 197 = .ok (.iadd, 1) := by decide +kernel
theorem d_M_begin_198 : decode b_M_begin 198 = .ok (.putfield 69, 3) := by decide +kernel
theorem d_M_begin_201 : decode b_M_begin 201 = .ok (.aload_n 0, 1) := by decide +kernel
theorem d_M_begin_202 : decode b_M_begin 202 = .ok (.getfield 77, 3) := by decide +kernel
theorem d_M_begin_205 : decode b_M_begin 205 = .ok (.ireturn, 1) := by decide +kernel
abbrev X_M_begin (p : Program) (l : Launch) (e : Env) (k1 k2 : Nat) (s : State) (m : MethodId) (args : Array Value) (below : List Frame) (meth : Method) (c : Code) (B : AB) (n0 m0 : Nat) (h : AH) (pc : Nat) (lv : List (Nat × Value)) (st : List Value) (comp : Option (Int32 × AH)) : Prop := XX p l e { frames := 1, cells := k1, slots := k2, locals := 23 } s m args below meth c b_M_begin o_M lw_tt 3 (Option.some Jvm.ClassFile.FieldType.int) "begin" B n0 m0 (QM B below args s { frames := 1, cells := k1, slots := k2, locals := 23 } eI) h pc lv st comp
def f_M_begin_b164 : Nat → Nat → Int32 → AH → Option (Int32 × AH)
  | 0, _, _, _ => none
  | n + 1, a0, x2, h => (if (8 : Int32) ≤ x2 then (fI h 4 2 (some a0)).bind (fun x1001 => (pF h 4 2 (some a0) (.int (x1001 + (1 : Int32)))).bind (fun h1002 => (fI h1002 4 0 (some a0)).bind (fun x1003 => some (x1003, h1002)))) else (fR h 4 10 (some a0)).bind (fun r1004 => (fI h 4 2 (some a0)).bind (fun x1005 => (pE h 4 r1004 (((8 : Int32) * x1005) + x2) (.int (0 : Int32))).bind (fun h1006 => f_M_begin_b164 n a0 (x2 + 1) h1006))))
def f_M_begin_b120 : Nat → Nat → Int32 → AH → Option (Int32 × AH)
  | 0, _, _, _ => none
  | n + 1, a0, x2, h => (if (64 : Int32) ≤ x2 then f_M_begin_b164 2000 a0 (0 : Int32) h else (fR h 4 9 (some a0)).bind (fun r1001 => (fI h 4 2 (some a0)).bind (fun x1002 => (qE h 1 r1001 (((64 : Int32) * x1002) + x2) (0 : Int32)).bind (fun h1003 => (fR h1003 4 9 (some a0)).bind (fun r1004 => (fI h1003 4 2 (some a0)).bind (fun x1005 => (qE h1003 1 r1004 (((64 : Int32) * x2) + x1005) (0 : Int32)).bind (fun h1006 => f_M_begin_b120 n a0 (x2 + 1) h1006)))))))
def f_M_begin (a0 : Nat) (x1 : Int32) (h : AH) : Option (Int32 × AH) := (if x1 < 0 then some ((-1 : Int32), h) else (if (6 : Int32) ≤ x1 then some ((-1 : Int32), h) else rcv h 4 (some a0) (fun b103 => bnd (f_M_running b103 x1 h) (fun x102 h101 => (if 0 ≤ x102 then some ((-1 : Int32), h101) else (fI h101 4 2 (some a0)).bind (fun x104 => (if x104 = (64 : Int32) then some ((-1 : Int32), h101) else (fI h101 4 0 (some a0)).bind (fun x105 => (pF h101 4 0 (some a0) (.int (x105 + (1 : Int32)))).bind (fun h106 => (fR h106 4 3 (some a0)).bind (fun r107 => (fI h106 4 2 (some a0)).bind (fun x108 => (fI h106 4 0 (some a0)).bind (fun x109 => (pE h106 4 r107 x108 (.int x109)).bind (fun h110 => (fR h110 4 4 (some a0)).bind (fun r111 => (fI h110 4 2 (some a0)).bind (fun x112 => (pE h110 4 r111 x112 (.int x1)).bind (fun h113 => (fR h113 4 5 (some a0)).bind (fun r114 => (fI h113 4 2 (some a0)).bind (fun x115 => (fI h113 4 1 (some a0)).bind (fun x116 => (pE h113 4 r114 x115 (.int x116)).bind (fun h117 => (fR h117 4 15 (some a0)).bind (fun r118 => (fI h117 4 0 (some a0)).bind (fun x119 => (fI h117 4 1 (some a0)).bind (fun x120 => (pE h117 4 r118 x119 (.int x120)).bind (fun h121 => (fR h121 4 6 (some a0)).bind (fun r122 => (fI h121 4 2 (some a0)).bind (fun x123 => (pE h121 4 r122 x123 (.int (0 : Int32))).bind (fun h124 => (fR h124 4 7 (some a0)).bind (fun r125 => (fI h124 4 2 (some a0)).bind (fun x126 => (qE h124 1 r125 x126 (0 : Int32)).bind (fun h127 => (fR h127 4 8 (some a0)).bind (fun r128 => (fI h127 4 2 (some a0)).bind (fun x129 => (pE h127 4 r128 x129 (.int (0 : Int32))).bind (fun h130 => f_M_begin_b120 2000 a0 (0 : Int32) h130)))))))))))))))))))))))))))))))))
set_option maxHeartbeats 4000000 in
set_option maxRecDepth 100000 in
theorem x_M_begin_b164 {p : Program} {l : Launch} {e : Env} {k1 k2 : Nat} {s : State} {m : MethodId} {args : Array Value} {below : List Frame} {meth : Method} {c : Code} {B : AB} {n0 m0 : Nat} : ∀ (n : Nat) (a0 : Nat) (x2 : Int32) (h : AH), X_M_begin p l e k1 k2 s m args below meth c B n0 m0 h 164 [(0, .ref a0), (2, .int x2)] [] (f_M_begin_b164 n a0 x2 h) := by
  intro n
  induction n with
  | zero => intro a0 x2 h; exact x_none
  | succ n ih =>
    intro a0 x2 h
    rw [f_M_begin_b164]
    refine x_go (pc' := 165) (st' := [.int x2]) (fun hC _ _ _ _ _ _ hl k => lv_iload_n hC.1 hC.2.1 d_M_begin_164 rfl (lv_at hl 1 rfl) k) ?_
    refine x_go (pc' := 167) (st' := [.int (8 : Int32), .int x2]) (fun hC _ _ _ _ _ _ hl k => lv_bipush (v := 8) hC.1 hC.2.1 d_M_begin_165 (by decide) k) ?_
    refine x_if (P := (8 : Int32) ≤ x2) (pt := 191) (pf := 170) (st' := []) (fun hC _ _ _ _ _ _ kt kf => lv_icmp_ge (tgt := 191) hC.1 hC.2.1 d_M_begin_167 (by decide) kt kf) ?_ ?_
    · refine x_go (pc' := 192) (st' := [.ref a0]) (fun hC _ _ _ _ _ _ hl k => lv_aload_n hC.1 hC.2.1 d_M_begin_191 rfl (lv_at hl 0 rfl) k) ?_
      refine x_go (pc' := 193) (st' := [.ref a0, .ref a0]) (fun hC _ _ _ _ _ _ hl k => lv_dup hC.1 hC.2.1 d_M_begin_192 rfl k) ?_
      refine x_getI (ci := 4) (kf := 2) (r := (some a0)) (fun hC => w_get hC iw_4 rfl 2 (by decide) tw_316 rfl d_M_begin_193) (fun x1001 => ?_)
      refine x_go (pc' := 197) (st' := [.int (1 : Int32), .int x1001, .ref a0]) (fun hC _ _ _ _ _ _ hl k => lv_iconst (v := 1) hC.1 hC.2.1 d_M_begin_196 (by decide) k) ?_
      refine x_go (pc' := 198) (st' := [.int (x1001 + (1 : Int32)), .ref a0]) (fun hC _ _ _ _ _ _ hl k => lv_iadd hC.1 hC.2.1 d_M_begin_197 k) ?_
      refine x_putF (ci := 4) (kf := 2) (r := (some a0)) (v := .int (x1001 + (1 : Int32))) (fun hC => w_put (ty := .int) hC iw_4 ft_4 ft_4_ok fn_4 rfl 2 (by decide) tw_316 rfl rfl (by decide +kernel) rfl rfl d_M_begin_198) (fun h1002 => ?_)
      refine x_go (pc' := 202) (st' := [.ref a0]) (fun hC _ _ _ _ _ _ hl k => lv_aload_n hC.1 hC.2.1 d_M_begin_201 rfl (lv_at hl 0 rfl) k) ?_
      refine x_getI (ci := 4) (kf := 0) (r := (some a0)) (fun hC => w_get hC iw_4 rfl 0 (by decide) tw_314 rfl d_M_begin_202) (fun x1003 => ?_)
      exact x_iret d_M_begin_205
    · refine x_go (pc' := 171) (st' := [.ref a0]) (fun hC _ _ _ _ _ _ hl k => lv_aload_n hC.1 hC.2.1 d_M_begin_170 rfl (lv_at hl 0 rfl) k) ?_
      refine x_getR (ci := 4) (kf := 10) (r := (some a0)) (fun hC => w_get hC iw_4 rfl 10 (by decide) tw_324 rfl d_M_begin_171) (fun r1004 => ?_)
      refine x_go (pc' := 176) (st' := [.int (8 : Int32), va_rf r1004]) (fun hC _ _ _ _ _ _ hl k => lv_bipush (v := 8) hC.1 hC.2.1 d_M_begin_174 (by decide) k) ?_
      refine x_go (pc' := 177) (st' := [.ref a0, .int (8 : Int32), va_rf r1004]) (fun hC _ _ _ _ _ _ hl k => lv_aload_n hC.1 hC.2.1 d_M_begin_176 rfl (lv_at hl 0 rfl) k) ?_
      refine x_getI (ci := 4) (kf := 2) (r := (some a0)) (fun hC => w_get hC iw_4 rfl 2 (by decide) tw_316 rfl d_M_begin_177) (fun x1005 => ?_)
      refine x_go (pc' := 181) (st' := [.int ((8 : Int32) * x1005), va_rf r1004]) (fun hC _ _ _ _ _ _ hl k => lv_imul hC.1 hC.2.1 d_M_begin_180 k) ?_
      refine x_go (pc' := 182) (st' := [.int x2, .int ((8 : Int32) * x1005), va_rf r1004]) (fun hC _ _ _ _ _ _ hl k => lv_iload_n hC.1 hC.2.1 d_M_begin_181 rfl (lv_at hl 1 rfl) k) ?_
      refine x_go (pc' := 183) (st' := [.int (((8 : Int32) * x1005) + x2), va_rf r1004]) (fun hC _ _ _ _ _ _ hl k => lv_iadd hC.1 hC.2.1 d_M_begin_182 k) ?_
      refine x_go (pc' := 184) (st' := [.int (0 : Int32), .int (((8 : Int32) * x1005) + x2), va_rf r1004]) (fun hC _ _ _ _ _ _ hl k => lv_iconst (v := 0) hC.1 hC.2.1 d_M_begin_183 (by decide) k) ?_
      refine x_iast (t := 4) rfl (r := r1004) (i := (((8 : Int32) * x1005) + x2)) (x := (0 : Int32)) d_M_begin_184 (fun h1006 => ?_)
      refine x_lift (pc' := 188) (st' := []) (lv' := [(2, .int (x2 + 1)), (0, .ref a0)]) (fun hC _ _ _ _ _ _ hl k => lv_iinc (v := (x2 + 1)) hC.1 hC.2.1 d_M_begin_185 hl (k := 1) rfl rfl (by decide) rfl k) ?_
      refine x_go (pc' := 164) (st' := []) (fun hC _ _ _ _ _ _ hl k => lv_goto (tgt := 164) hC.1 hC.2.1 d_M_begin_188 (by decide) k) ?_
      exact x_sub (lv' := [(0, .ref a0), (2, .int (x2 + 1))]) [1, 0] rfl (ih a0 (x2 + 1) h1006)
set_option maxHeartbeats 4000000 in
set_option maxRecDepth 100000 in
theorem x_M_begin_b120 {p : Program} {l : Launch} {e : Env} {k1 k2 : Nat} {s : State} {m : MethodId} {args : Array Value} {below : List Frame} {meth : Method} {c : Code} {B : AB} {n0 m0 : Nat} : ∀ (n : Nat) (a0 : Nat) (x2 : Int32) (h : AH), X_M_begin p l e k1 k2 s m args below meth c B n0 m0 h 120 [(0, .ref a0), (2, .int x2)] [] (f_M_begin_b120 n a0 x2 h) := by
  intro n
  induction n with
  | zero => intro a0 x2 h; exact x_none
  | succ n ih =>
    intro a0 x2 h
    rw [f_M_begin_b120]
    refine x_go (pc' := 121) (st' := [.int x2]) (fun hC _ _ _ _ _ _ hl k => lv_iload_n hC.1 hC.2.1 d_M_begin_120 rfl (lv_at hl 1 rfl) k) ?_
    refine x_go (pc' := 123) (st' := [.int (64 : Int32), .int x2]) (fun hC _ _ _ _ _ _ hl k => lv_bipush (v := 64) hC.1 hC.2.1 d_M_begin_121 (by decide) k) ?_
    refine x_if (P := (64 : Int32) ≤ x2) (pt := 162) (pf := 126) (st' := []) (fun hC _ _ _ _ _ _ kt kf => lv_icmp_ge (tgt := 162) hC.1 hC.2.1 d_M_begin_123 (by decide) kt kf) ?_ ?_
    · refine x_go (pc' := 163) (st' := [.int (0 : Int32)]) (fun hC _ _ _ _ _ _ hl k => lv_iconst (v := 0) hC.1 hC.2.1 d_M_begin_162 (by decide) k) ?_
      refine x_lift (pc' := 164) (st' := []) (lv' := [(2, .int (0 : Int32)), (0, .ref a0)]) (fun hC _ _ _ _ _ _ hl k => lv_istore_n (i := 2) hC.1 hC.2.1 d_M_begin_163 rfl hl (by decide) rfl k) ?_
      exact x_sub (lv' := [(0, .ref a0), (2, .int (0 : Int32))]) [1, 0] rfl (x_M_begin_b164 2000 a0 (0 : Int32) h)
    · refine x_go (pc' := 127) (st' := [.ref a0]) (fun hC _ _ _ _ _ _ hl k => lv_aload_n hC.1 hC.2.1 d_M_begin_126 rfl (lv_at hl 0 rfl) k) ?_
      refine x_getR (ci := 4) (kf := 9) (r := (some a0)) (fun hC => w_get hC iw_4 rfl 9 (by decide) tw_323 rfl d_M_begin_127) (fun r1001 => ?_)
      refine x_go (pc' := 132) (st' := [.int (64 : Int32), va_rf r1001]) (fun hC _ _ _ _ _ _ hl k => lv_bipush (v := 64) hC.1 hC.2.1 d_M_begin_130 (by decide) k) ?_
      refine x_go (pc' := 133) (st' := [.ref a0, .int (64 : Int32), va_rf r1001]) (fun hC _ _ _ _ _ _ hl k => lv_aload_n hC.1 hC.2.1 d_M_begin_132 rfl (lv_at hl 0 rfl) k) ?_
      refine x_getI (ci := 4) (kf := 2) (r := (some a0)) (fun hC => w_get hC iw_4 rfl 2 (by decide) tw_316 rfl d_M_begin_133) (fun x1002 => ?_)
      refine x_go (pc' := 137) (st' := [.int ((64 : Int32) * x1002), va_rf r1001]) (fun hC _ _ _ _ _ _ hl k => lv_imul hC.1 hC.2.1 d_M_begin_136 k) ?_
      refine x_go (pc' := 138) (st' := [.int x2, .int ((64 : Int32) * x1002), va_rf r1001]) (fun hC _ _ _ _ _ _ hl k => lv_iload_n hC.1 hC.2.1 d_M_begin_137 rfl (lv_at hl 1 rfl) k) ?_
      refine x_go (pc' := 139) (st' := [.int (((64 : Int32) * x1002) + x2), va_rf r1001]) (fun hC _ _ _ _ _ _ hl k => lv_iadd hC.1 hC.2.1 d_M_begin_138 k) ?_
      refine x_go (pc' := 140) (st' := [.int (0 : Int32), .int (((64 : Int32) * x1002) + x2), va_rf r1001]) (fun hC _ _ _ _ _ _ hl k => lv_iconst (v := 0) hC.1 hC.2.1 d_M_begin_139 (by decide) k) ?_
      refine x_zast (t := 1) rfl (r := r1001) (i := (((64 : Int32) * x1002) + x2)) (x := (0 : Int32)) d_M_begin_140 (fun h1003 => ?_)
      refine x_go (pc' := 142) (st' := [.ref a0]) (fun hC _ _ _ _ _ _ hl k => lv_aload_n hC.1 hC.2.1 d_M_begin_141 rfl (lv_at hl 0 rfl) k) ?_
      refine x_getR (ci := 4) (kf := 9) (r := (some a0)) (fun hC => w_get hC iw_4 rfl 9 (by decide) tw_323 rfl d_M_begin_142) (fun r1004 => ?_)
      refine x_go (pc' := 147) (st' := [.int (64 : Int32), va_rf r1004]) (fun hC _ _ _ _ _ _ hl k => lv_bipush (v := 64) hC.1 hC.2.1 d_M_begin_145 (by decide) k) ?_
      refine x_go (pc' := 148) (st' := [.int x2, .int (64 : Int32), va_rf r1004]) (fun hC _ _ _ _ _ _ hl k => lv_iload_n hC.1 hC.2.1 d_M_begin_147 rfl (lv_at hl 1 rfl) k) ?_
      refine x_go (pc' := 149) (st' := [.int ((64 : Int32) * x2), va_rf r1004]) (fun hC _ _ _ _ _ _ hl k => lv_imul hC.1 hC.2.1 d_M_begin_148 k) ?_
      refine x_go (pc' := 150) (st' := [.ref a0, .int ((64 : Int32) * x2), va_rf r1004]) (fun hC _ _ _ _ _ _ hl k => lv_aload_n hC.1 hC.2.1 d_M_begin_149 rfl (lv_at hl 0 rfl) k) ?_
      refine x_getI (ci := 4) (kf := 2) (r := (some a0)) (fun hC => w_get hC iw_4 rfl 2 (by decide) tw_316 rfl d_M_begin_150) (fun x1005 => ?_)
      refine x_go (pc' := 154) (st' := [.int (((64 : Int32) * x2) + x1005), va_rf r1004]) (fun hC _ _ _ _ _ _ hl k => lv_iadd hC.1 hC.2.1 d_M_begin_153 k) ?_
      refine x_go (pc' := 155) (st' := [.int (0 : Int32), .int (((64 : Int32) * x2) + x1005), va_rf r1004]) (fun hC _ _ _ _ _ _ hl k => lv_iconst (v := 0) hC.1 hC.2.1 d_M_begin_154 (by decide) k) ?_
      refine x_zast (t := 1) rfl (r := r1004) (i := (((64 : Int32) * x2) + x1005)) (x := (0 : Int32)) d_M_begin_155 (fun h1006 => ?_)
      refine x_lift (pc' := 159) (st' := []) (lv' := [(2, .int (x2 + 1)), (0, .ref a0)]) (fun hC _ _ _ _ _ _ hl k => lv_iinc (v := (x2 + 1)) hC.1 hC.2.1 d_M_begin_156 hl (k := 1) rfl rfl (by decide) rfl k) ?_
      refine x_go (pc' := 120) (st' := []) (fun hC _ _ _ _ _ _ hl k => lv_goto (tgt := 120) hC.1 hC.2.1 d_M_begin_159 (by decide) k) ?_
      exact x_sub (lv' := [(0, .ref a0), (2, .int (x2 + 1))]) [1, 0] rfl (ih a0 (x2 + 1) h1006)
set_option maxHeartbeats 4000000 in
set_option maxRecDepth 100000 in
theorem c_M_begin (l : Launch) (B : AB) (a0 : Nat) (x1 : Int32) (h : AH) : CT l B y_M_begin (Cond.code y_M_begin b_M_begin 3 (Option.some Jvm.ClassFile.FieldType.int) :: lw_tt) 1 23 eI [.ref a0, .int x1] h (f_M_begin a0 x1 h) := by
  refine ct_of (own := o_M) (nm := "begin") (by decide +kernel) rfl rfl (Nat.le_of_ble_eq_true rfl) (fun p e k1 k2 s m args below meth c => ?_)
  refine x_sub (lv' := [(0, .ref a0), (1, .int x1)]) [0, 1] rfl ?_
  unfold f_M_begin
  refine x_go (pc' := 1) (st' := [.int x1]) (fun hC _ _ _ _ _ _ hl k => lv_iload_n hC.1 hC.2.1 d_M_begin_0 rfl (lv_at hl 1 rfl) k) ?_
  refine x_if (P := x1 < 0) (pt := 27) (pf := 4) (st' := []) (fun hC _ _ _ _ _ _ kt kf => lv_if_lt (tgt := 27) hC.1 hC.2.1 d_M_begin_1 (by decide) kt kf) ?_ ?_
  · refine x_go (pc' := 28) (st' := [.int (-1 : Int32)]) (fun hC _ _ _ _ _ _ hl k => lv_iconst (v := -1) hC.1 hC.2.1 d_M_begin_27 (by decide) k) ?_
    exact x_iret d_M_begin_28
  · refine x_go (pc' := 5) (st' := [.int x1]) (fun hC _ _ _ _ _ _ hl k => lv_iload_n hC.1 hC.2.1 d_M_begin_4 rfl (lv_at hl 1 rfl) k) ?_
    refine x_go (pc' := 7) (st' := [.int (6 : Int32), .int x1]) (fun hC _ _ _ _ _ _ hl k => lv_bipush (v := 6) hC.1 hC.2.1 d_M_begin_5 (by decide) k) ?_
    refine x_if (P := (6 : Int32) ≤ x1) (pt := 27) (pf := 10) (st' := []) (fun hC _ _ _ _ _ _ kt kf => lv_icmp_ge (tgt := 27) hC.1 hC.2.1 d_M_begin_7 (by decide) kt kf) ?_ ?_
    · refine x_go (pc' := 28) (st' := [.int (-1 : Int32)]) (fun hC _ _ _ _ _ _ hl k => lv_iconst (v := -1) hC.1 hC.2.1 d_M_begin_27 (by decide) k) ?_
      exact x_iret d_M_begin_28
    · refine x_go (pc' := 11) (st' := [.ref a0]) (fun hC _ _ _ _ _ _ hl k => lv_aload_n hC.1 hC.2.1 d_M_begin_10 rfl (lv_at hl 0 rfl) k) ?_
      refine x_go (pc' := 12) (st' := [.int x1, .ref a0]) (fun hC _ _ _ _ _ _ hl k => lv_iload_n hC.1 hC.2.1 d_M_begin_11 rfl (lv_at hl 1 rfl) k) ?_
      refine x_recv (ci := 4) (r := (some a0)) (fun b103 _ eb103 gb103 => ?_)
      refine x_callI (rest := []) (c_M_running l B b103 x1 h) (fun hC => fun e1 e2 e3 e4 hM => fun hR hsz hc hs => run_V (n := 1) hC lw_good rfl rfl tw_385 tw_387 tv_14 tw_3 tw_388 (by decide) d_M_begin_12 gb103 (by rw [e1]; exact Nat.le_of_ble_eq_true rfl) (by rw [e2]; exact Nat.le_of_ble_eq_true rfl) e3 e4 hM hR hsz hc hs rfl (by cases eb103; rfl) (Nat.le_of_ble_eq_true rfl)) (fun x102 h101 => ?_)
      refine x_if (P := 0 ≤ x102) (pt := 27) (pf := 18) (st' := []) (fun hC _ _ _ _ _ _ kt kf => lv_if_ge (tgt := 27) hC.1 hC.2.1 d_M_begin_15 (by decide) kt kf) ?_ ?_
      · refine x_go (pc' := 28) (st' := [.int (-1 : Int32)]) (fun hC _ _ _ _ _ _ hl k => lv_iconst (v := -1) hC.1 hC.2.1 d_M_begin_27 (by decide) k) ?_
        exact x_iret d_M_begin_28
      · refine x_go (pc' := 19) (st' := [.ref a0]) (fun hC _ _ _ _ _ _ hl k => lv_aload_n hC.1 hC.2.1 d_M_begin_18 rfl (lv_at hl 0 rfl) k) ?_
        refine x_getI (ci := 4) (kf := 2) (r := (some a0)) (fun hC => w_get hC iw_4 rfl 2 (by decide) tw_316 rfl d_M_begin_19) (fun x104 => ?_)
        refine x_go (pc' := 24) (st' := [.int (64 : Int32), .int x104]) (fun hC _ _ _ _ _ _ hl k => lv_bipush (v := 64) hC.1 hC.2.1 d_M_begin_22 (by decide) k) ?_
        refine x_if (P := x104 = (64 : Int32)) (pt := 27) (pf := 29) (st' := []) (fun hC _ _ _ _ _ _ kt kf => lv_icmp_ne (tgt := 29) hC.1 hC.2.1 d_M_begin_24 (by decide) kf kt) ?_ ?_
        · refine x_go (pc' := 28) (st' := [.int (-1 : Int32)]) (fun hC _ _ _ _ _ _ hl k => lv_iconst (v := -1) hC.1 hC.2.1 d_M_begin_27 (by decide) k) ?_
          exact x_iret d_M_begin_28
        · refine x_go (pc' := 30) (st' := [.ref a0]) (fun hC _ _ _ _ _ _ hl k => lv_aload_n hC.1 hC.2.1 d_M_begin_29 rfl (lv_at hl 0 rfl) k) ?_
          refine x_go (pc' := 31) (st' := [.ref a0, .ref a0]) (fun hC _ _ _ _ _ _ hl k => lv_dup hC.1 hC.2.1 d_M_begin_30 rfl k) ?_
          refine x_getI (ci := 4) (kf := 0) (r := (some a0)) (fun hC => w_get hC iw_4 rfl 0 (by decide) tw_314 rfl d_M_begin_31) (fun x105 => ?_)
          refine x_go (pc' := 35) (st' := [.int (1 : Int32), .int x105, .ref a0]) (fun hC _ _ _ _ _ _ hl k => lv_iconst (v := 1) hC.1 hC.2.1 d_M_begin_34 (by decide) k) ?_
          refine x_go (pc' := 36) (st' := [.int (x105 + (1 : Int32)), .ref a0]) (fun hC _ _ _ _ _ _ hl k => lv_iadd hC.1 hC.2.1 d_M_begin_35 k) ?_
          refine x_putF (ci := 4) (kf := 0) (r := (some a0)) (v := .int (x105 + (1 : Int32))) (fun hC => w_put (ty := .int) hC iw_4 ft_4 ft_4_ok fn_4 rfl 0 (by decide) tw_314 rfl rfl (by decide +kernel) rfl rfl d_M_begin_36) (fun h106 => ?_)
          refine x_go (pc' := 40) (st' := [.ref a0]) (fun hC _ _ _ _ _ _ hl k => lv_aload_n hC.1 hC.2.1 d_M_begin_39 rfl (lv_at hl 0 rfl) k) ?_
          refine x_getR (ci := 4) (kf := 3) (r := (some a0)) (fun hC => w_get hC iw_4 rfl 3 (by decide) tw_317 rfl d_M_begin_40) (fun r107 => ?_)
          refine x_go (pc' := 44) (st' := [.ref a0, va_rf r107]) (fun hC _ _ _ _ _ _ hl k => lv_aload_n hC.1 hC.2.1 d_M_begin_43 rfl (lv_at hl 0 rfl) k) ?_
          refine x_getI (ci := 4) (kf := 2) (r := (some a0)) (fun hC => w_get hC iw_4 rfl 2 (by decide) tw_316 rfl d_M_begin_44) (fun x108 => ?_)
          refine x_go (pc' := 48) (st' := [.ref a0, .int x108, va_rf r107]) (fun hC _ _ _ _ _ _ hl k => lv_aload_n hC.1 hC.2.1 d_M_begin_47 rfl (lv_at hl 0 rfl) k) ?_
          refine x_getI (ci := 4) (kf := 0) (r := (some a0)) (fun hC => w_get hC iw_4 rfl 0 (by decide) tw_314 rfl d_M_begin_48) (fun x109 => ?_)
          refine x_iast (t := 4) rfl (r := r107) (i := x108) (x := x109) d_M_begin_51 (fun h110 => ?_)
          refine x_go (pc' := 53) (st' := [.ref a0]) (fun hC _ _ _ _ _ _ hl k => lv_aload_n hC.1 hC.2.1 d_M_begin_52 rfl (lv_at hl 0 rfl) k) ?_
          refine x_getR (ci := 4) (kf := 4) (r := (some a0)) (fun hC => w_get hC iw_4 rfl 4 (by decide) tw_318 rfl d_M_begin_53) (fun r111 => ?_)
          refine x_go (pc' := 57) (st' := [.ref a0, va_rf r111]) (fun hC _ _ _ _ _ _ hl k => lv_aload_n hC.1 hC.2.1 d_M_begin_56 rfl (lv_at hl 0 rfl) k) ?_
          refine x_getI (ci := 4) (kf := 2) (r := (some a0)) (fun hC => w_get hC iw_4 rfl 2 (by decide) tw_316 rfl d_M_begin_57) (fun x112 => ?_)
          refine x_go (pc' := 61) (st' := [.int x1, .int x112, va_rf r111]) (fun hC _ _ _ _ _ _ hl k => lv_iload_n hC.1 hC.2.1 d_M_begin_60 rfl (lv_at hl 1 rfl) k) ?_
          refine x_iast (t := 4) rfl (r := r111) (i := x112) (x := x1) d_M_begin_61 (fun h113 => ?_)
          refine x_go (pc' := 63) (st' := [.ref a0]) (fun hC _ _ _ _ _ _ hl k => lv_aload_n hC.1 hC.2.1 d_M_begin_62 rfl (lv_at hl 0 rfl) k) ?_
          refine x_getR (ci := 4) (kf := 5) (r := (some a0)) (fun hC => w_get hC iw_4 rfl 5 (by decide) tw_319 rfl d_M_begin_63) (fun r114 => ?_)
          refine x_go (pc' := 67) (st' := [.ref a0, va_rf r114]) (fun hC _ _ _ _ _ _ hl k => lv_aload_n hC.1 hC.2.1 d_M_begin_66 rfl (lv_at hl 0 rfl) k) ?_
          refine x_getI (ci := 4) (kf := 2) (r := (some a0)) (fun hC => w_get hC iw_4 rfl 2 (by decide) tw_316 rfl d_M_begin_67) (fun x115 => ?_)
          refine x_go (pc' := 71) (st' := [.ref a0, .int x115, va_rf r114]) (fun hC _ _ _ _ _ _ hl k => lv_aload_n hC.1 hC.2.1 d_M_begin_70 rfl (lv_at hl 0 rfl) k) ?_
          refine x_getI (ci := 4) (kf := 1) (r := (some a0)) (fun hC => w_get hC iw_4 rfl 1 (by decide) tw_315 rfl d_M_begin_71) (fun x116 => ?_)
          refine x_iast (t := 4) rfl (r := r114) (i := x115) (x := x116) d_M_begin_74 (fun h117 => ?_)
          refine x_go (pc' := 76) (st' := [.ref a0]) (fun hC _ _ _ _ _ _ hl k => lv_aload_n hC.1 hC.2.1 d_M_begin_75 rfl (lv_at hl 0 rfl) k) ?_
          refine x_getR (ci := 4) (kf := 15) (r := (some a0)) (fun hC => w_get hC iw_4 rfl 15 (by decide) tw_329 rfl d_M_begin_76) (fun r118 => ?_)
          refine x_go (pc' := 80) (st' := [.ref a0, va_rf r118]) (fun hC _ _ _ _ _ _ hl k => lv_aload_n hC.1 hC.2.1 d_M_begin_79 rfl (lv_at hl 0 rfl) k) ?_
          refine x_getI (ci := 4) (kf := 0) (r := (some a0)) (fun hC => w_get hC iw_4 rfl 0 (by decide) tw_314 rfl d_M_begin_80) (fun x119 => ?_)
          refine x_go (pc' := 84) (st' := [.ref a0, .int x119, va_rf r118]) (fun hC _ _ _ _ _ _ hl k => lv_aload_n hC.1 hC.2.1 d_M_begin_83 rfl (lv_at hl 0 rfl) k) ?_
          refine x_getI (ci := 4) (kf := 1) (r := (some a0)) (fun hC => w_get hC iw_4 rfl 1 (by decide) tw_315 rfl d_M_begin_84) (fun x120 => ?_)
          refine x_iast (t := 4) rfl (r := r118) (i := x119) (x := x120) d_M_begin_87 (fun h121 => ?_)
          refine x_go (pc' := 89) (st' := [.ref a0]) (fun hC _ _ _ _ _ _ hl k => lv_aload_n hC.1 hC.2.1 d_M_begin_88 rfl (lv_at hl 0 rfl) k) ?_
          refine x_getR (ci := 4) (kf := 6) (r := (some a0)) (fun hC => w_get hC iw_4 rfl 6 (by decide) tw_320 rfl d_M_begin_89) (fun r122 => ?_)
          refine x_go (pc' := 93) (st' := [.ref a0, va_rf r122]) (fun hC _ _ _ _ _ _ hl k => lv_aload_n hC.1 hC.2.1 d_M_begin_92 rfl (lv_at hl 0 rfl) k) ?_
          refine x_getI (ci := 4) (kf := 2) (r := (some a0)) (fun hC => w_get hC iw_4 rfl 2 (by decide) tw_316 rfl d_M_begin_93) (fun x123 => ?_)
          refine x_go (pc' := 97) (st' := [.int (0 : Int32), .int x123, va_rf r122]) (fun hC _ _ _ _ _ _ hl k => lv_iconst (v := 0) hC.1 hC.2.1 d_M_begin_96 (by decide) k) ?_
          refine x_iast (t := 4) rfl (r := r122) (i := x123) (x := (0 : Int32)) d_M_begin_97 (fun h124 => ?_)
          refine x_go (pc' := 99) (st' := [.ref a0]) (fun hC _ _ _ _ _ _ hl k => lv_aload_n hC.1 hC.2.1 d_M_begin_98 rfl (lv_at hl 0 rfl) k) ?_
          refine x_getR (ci := 4) (kf := 7) (r := (some a0)) (fun hC => w_get hC iw_4 rfl 7 (by decide) tw_321 rfl d_M_begin_99) (fun r125 => ?_)
          refine x_go (pc' := 103) (st' := [.ref a0, va_rf r125]) (fun hC _ _ _ _ _ _ hl k => lv_aload_n hC.1 hC.2.1 d_M_begin_102 rfl (lv_at hl 0 rfl) k) ?_
          refine x_getI (ci := 4) (kf := 2) (r := (some a0)) (fun hC => w_get hC iw_4 rfl 2 (by decide) tw_316 rfl d_M_begin_103) (fun x126 => ?_)
          refine x_go (pc' := 107) (st' := [.int (0 : Int32), .int x126, va_rf r125]) (fun hC _ _ _ _ _ _ hl k => lv_iconst (v := 0) hC.1 hC.2.1 d_M_begin_106 (by decide) k) ?_
          refine x_zast (t := 1) rfl (r := r125) (i := x126) (x := (0 : Int32)) d_M_begin_107 (fun h127 => ?_)
          refine x_go (pc' := 109) (st' := [.ref a0]) (fun hC _ _ _ _ _ _ hl k => lv_aload_n hC.1 hC.2.1 d_M_begin_108 rfl (lv_at hl 0 rfl) k) ?_
          refine x_getR (ci := 4) (kf := 8) (r := (some a0)) (fun hC => w_get hC iw_4 rfl 8 (by decide) tw_322 rfl d_M_begin_109) (fun r128 => ?_)
          refine x_go (pc' := 113) (st' := [.ref a0, va_rf r128]) (fun hC _ _ _ _ _ _ hl k => lv_aload_n hC.1 hC.2.1 d_M_begin_112 rfl (lv_at hl 0 rfl) k) ?_
          refine x_getI (ci := 4) (kf := 2) (r := (some a0)) (fun hC => w_get hC iw_4 rfl 2 (by decide) tw_316 rfl d_M_begin_113) (fun x129 => ?_)
          refine x_go (pc' := 117) (st' := [.int (0 : Int32), .int x129, va_rf r128]) (fun hC _ _ _ _ _ _ hl k => lv_iconst (v := 0) hC.1 hC.2.1 d_M_begin_116 (by decide) k) ?_
          refine x_iast (t := 4) rfl (r := r128) (i := x129) (x := (0 : Int32)) d_M_begin_117 (fun h130 => ?_)
          refine x_go (pc' := 119) (st' := [.int (0 : Int32)]) (fun hC _ _ _ _ _ _ hl k => lv_iconst (v := 0) hC.1 hC.2.1 d_M_begin_118 (by decide) k) ?_
          refine x_lift (pc' := 120) (st' := []) (lv' := [(2, .int (0 : Int32)), (0, .ref a0), (1, .int x1)]) (fun hC _ _ _ _ _ _ hl k => lv_istore_n (i := 2) hC.1 hC.2.1 d_M_begin_119 rfl hl (by decide) rfl k) ?_
          exact x_sub (lv' := [(0, .ref a0), (2, .int (0 : Int32))]) [1, 0] rfl (x_M_begin_b120 2000 a0 (0 : Int32) h130)
/-! SerialDeskModel.isSame(IIJJI)Z -/
theorem d_M_isSame_0 : decode b_M_isSame 0 = .ok (.aload_n 0, 1) := by decide +kernel
theorem d_M_isSame_1 : decode b_M_isSame 1 = .ok (.getfield 35, 3) := by decide +kernel
theorem d_M_isSame_4 : decode b_M_isSame 4 = .ok (.iload_n 1, 1) := by decide +kernel
theorem d_M_isSame_5 : decode b_M_isSame 5 = .ok (.iaload, 1) := by decide +kernel
theorem d_M_isSame_6 : decode b_M_isSame 6 = .ok (.iload_n 2, 1) := by decide +kernel
theorem d_M_isSame_7 : decode b_M_isSame 7 = .ok (.if_icmp .ne 18, 3) := by decide +kernel
theorem d_M_isSame_10 : decode b_M_isSame 10 = .ok (.aload_n 0, 1) := by decide +kernel
theorem d_M_isSame_11 : decode b_M_isSame 11 = .ok (.getfield 38, 3) := by decide +kernel
theorem d_M_isSame_14 : decode b_M_isSame 14 = .ok (.iload_n 1, 1) := by decide +kernel
theorem d_M_isSame_15 : decode b_M_isSame 15 = .ok (.iaload, 1) := by decide +kernel
theorem d_M_isSame_16 : decode b_M_isSame 16 = .ok (.iload 7, 2) := by decide +kernel
theorem d_M_isSame_18 : decode b_M_isSame 18 = .ok (.if_icmp .ne 7, 3) := by decide +kernel
theorem d_M_isSame_21 : decode b_M_isSame 21 = .ok (.iconst 1, 1) := by decide +kernel
theorem d_M_isSame_22 : decode b_M_isSame 22 = .ok (.goto 4, 3) := by decide +kernel
theorem d_M_isSame_25 : decode b_M_isSame 25 = .ok (.iconst 0, 1) := by decide +kernel
theorem d_M_isSame_26 : decode b_M_isSame 26 = .ok (.istore 8, 2) := by decide +kernel
theorem d_M_isSame_28 : decode b_M_isSame 28 = .ok (.iload 8, 2) := by decide +kernel
theorem d_M_isSame_30 : decode b_M_isSame 30 = .ok (.ifCond .eq 45, 3) := by decide +kernel
theorem d_M_isSame_33 : decode b_M_isSame 33 = .ok (.iload 7, 2) := by decide +kernel
theorem d_M_isSame_35 : decode b_M_isSame 35 = .ok (.iconst 4, 1) := by decide +kernel
theorem d_M_isSame_36 : decode b_M_isSame 36 = .ok (.iand, 1) := by decide +kernel
theorem d_M_isSame_37 : decode b_M_isSame 37 = .ok (.ifCond .ne 14, 3) := by decide +kernel
theorem d_M_isSame_40 : decode b_M_isSame 40 = .ok (.aload_n 0, 1) := by decide +kernel
theorem d_M_isSame_41 : decode b_M_isSame 41 = .ok (.getfield 41, 3) := by decide +kernel
theorem d_M_isSame_44 : decode b_M_isSame 44 = .ok (.iload_n 1, 1) := by decide +kernel
theorem d_M_isSame_45 : decode b_M_isSame 45 = .ok (.laload, 1) := by decide +kernel
theorem d_M_isSame_46 : decode b_M_isSame 46 = .ok (.lload_n 3, 1) := by decide +kernel
theorem d_M_isSame_47 : decode b_M_isSame 47 = .ok (.lcmp, 1) := by decide +kernel
theorem d_M_isSame_48 : decode b_M_isSame 48 = .ok (.ifCond .ne 27, 3) := by decide +kernel
theorem d_M_isSame_51 : decode b_M_isSame 51 = .ok (.iload 7, 2) := by decide +kernel
theorem d_M_isSame_53 : decode b_M_isSame 53 = .ok (.bipush 8, 2) := by decide +kernel
theorem d_M_isSame_55 : decode b_M_isSame 55 = .ok (.iand, 1) := by decide +kernel
theorem d_M_isSame_56 : decode b_M_isSame 56 = .ok (.ifCond .ne 15, 3) := by decide +kernel
theorem d_M_isSame_59 : decode b_M_isSame 59 = .ok (.aload_n 0, 1) := by decide +kernel
theorem d_M_isSame_60 : decode b_M_isSame 60 = .ok (.getfield 45, 3) := by decide +kernel
theorem d_M_isSame_63 : decode b_M_isSame 63 = .ok (.iload_n 1, 1) := by decide +kernel
theorem d_M_isSame_64 : decode b_M_isSame 64 = .ok (.laload, 1) := by decide +kernel
theorem d_M_isSame_65 : decode b_M_isSame 65 = .ok (.lload 5, 2) := by decide +kernel
theorem d_M_isSame_67 : decode b_M_isSame 67 = .ok (.lcmp, 1) := by decide +kernel
theorem d_M_isSame_68 : decode b_M_isSame 68 = .ok (.ifCond .ne 7, 3) := by decide +kernel
theorem d_M_isSame_71 : decode b_M_isSame 71 = .ok (.iconst 1, 1) := by decide +kernel
theorem d_M_isSame_72 : decode b_M_isSame 72 = .ok (.goto 4, 3) := by decide +kernel
theorem d_M_isSame_75 : decode b_M_isSame 75 = .ok (.iconst 0, 1) := by decide +kernel
theorem d_M_isSame_76 : decode b_M_isSame 76 = .ok (.ireturn, 1) := by decide +kernel
abbrev X_M_isSame (p : Program) (l : Launch) (e : Env) (k1 k2 : Nat) (s : State) (m : MethodId) (args : Array Value) (below : List Frame) (meth : Method) (c : Code) (B : AB) (n0 m0 : Nat) (h : AH) (pc : Nat) (lv : List (Nat × Value)) (st : List Value) (comp : Option (Int32 × AH)) : Prop := XX p l e { frames := 0, cells := k1, slots := k2, locals := 0 } s m args below meth c b_M_isSame o_M lw_tt 9 (Option.some Jvm.ClassFile.FieldType.boolean) "isSame" B n0 m0 (QM B below args s { frames := 0, cells := k1, slots := k2, locals := 0 } eI) h pc lv st comp
def f_M_isSame_b51 (a0 : Nat) (x1 : Int32) (x5 : Int64) (x7 : Int32) (h : AH) : Option (Int32 × AH) := (if (x7 &&& (8 : Int32)) = 0 then (fR h 4 14 (some a0)).bind (fun r1001 => (lL h 0 r1001 x1).bind (fun x1002 => (if (lg_cmp x1002 x5) = 0 then rZ (1 : Int32) h else rZ (0 : Int32) h))) else rZ (1 : Int32) h)
def f_M_isSame_b26 (a0 : Nat) (x1 : Int32) (x3 : Int64) (x5 : Int64) (x7 : Int32) (xs0 : Int32) (h : AH) : Option (Int32 × AH) := (if xs0 = 0 then rZ (0 : Int32) h else (if (x7 &&& (4 : Int32)) = 0 then (fR h 4 13 (some a0)).bind (fun r1001 => (lL h 0 r1001 x1).bind (fun x1002 => (if (lg_cmp x1002 x3) = 0 then f_M_isSame_b51 a0 x1 x5 x7 h else rZ (0 : Int32) h))) else f_M_isSame_b51 a0 x1 x5 x7 h))
def f_M_isSame_b25 (a0 : Nat) (x1 : Int32) (x3 : Int64) (x5 : Int64) (x7 : Int32) (h : AH) : Option (Int32 × AH) := f_M_isSame_b26 a0 x1 x3 x5 x7 (0 : Int32) h
def f_M_isSame (a0 : Nat) (x1 : Int32) (x2 : Int32) (x3 : Int64) (x5 : Int64) (x7 : Int32) (h : AH) : Option (Int32 × AH) := (fR h 4 11 (some a0)).bind (fun r101 => (lI h 4 r101 x1).bind (fun x102 => (if x102 = x2 then (fR h 4 12 (some a0)).bind (fun r103 => (lI h 4 r103 x1).bind (fun x104 => (if x104 = x7 then f_M_isSame_b26 a0 x1 x3 x5 x7 (1 : Int32) h else f_M_isSame_b25 a0 x1 x3 x5 x7 h))) else f_M_isSame_b25 a0 x1 x3 x5 x7 h)))
set_option maxHeartbeats 4000000 in
set_option maxRecDepth 100000 in
theorem x_M_isSame_b51 {p : Program} {l : Launch} {e : Env} {k1 k2 : Nat} {s : State} {m : MethodId} {args : Array Value} {below : List Frame} {meth : Method} {c : Code} {B : AB} {n0 m0 : Nat} (a0 : Nat) (x1 : Int32) (x5 : Int64) (x7 : Int32) (h : AH) : X_M_isSame p l e k1 k2 s m args below meth c B n0 m0 h 51 [(0, .ref a0), (1, .int x1), (5, .long x5), (7, .int x7)] [] (f_M_isSame_b51 a0 x1 x5 x7 h) := by
  unfold f_M_isSame_b51
  refine x_go (pc' := 53) (st' := [.int x7]) (fun hC _ _ _ _ _ _ hl k => lv_iload hC.1 hC.2.1 d_M_isSame_51 (lv_at hl 3 rfl) k) ?_
  refine x_go (pc' := 55) (st' := [.int (8 : Int32), .int x7]) (fun hC _ _ _ _ _ _ hl k => lv_bipush (v := 8) hC.1 hC.2.1 d_M_isSame_53 (by decide) k) ?_
  refine x_go (pc' := 56) (st' := [.int (x7 &&& (8 : Int32))]) (fun hC _ _ _ _ _ _ hl k => lv_iand hC.1 hC.2.1 d_M_isSame_55 k) ?_
  refine x_if (P := (x7 &&& (8 : Int32)) = 0) (pt := 59) (pf := 71) (st' := []) (fun hC _ _ _ _ _ _ kt kf => lv_if_ne (tgt := 71) hC.1 hC.2.1 d_M_isSame_56 (by decide) kf kt) ?_ ?_
  · refine x_go (pc' := 60) (st' := [.ref a0]) (fun hC _ _ _ _ _ _ hl k => lv_aload_n hC.1 hC.2.1 d_M_isSame_59 rfl (lv_at hl 0 rfl) k) ?_
    refine x_getR (ci := 4) (kf := 14) (r := (some a0)) (fun hC => w_get hC iw_4 rfl 14 (by decide) tw_328 rfl d_M_isSame_60) (fun r1001 => ?_)
    refine x_go (pc' := 64) (st' := [.int x1, va_rf r1001]) (fun hC _ _ _ _ _ _ hl k => lv_iload_n hC.1 hC.2.1 d_M_isSame_63 rfl (lv_at hl 1 rfl) k) ?_
    refine x_lald (t := 0) rfl (r := r1001) (i := x1) d_M_isSame_64 (fun x1002 => ?_)
    refine x_go (pc' := 67) (st' := [.long x5, .long x1002]) (fun hC _ _ _ _ _ _ hl k => lv_lload hC.1 hC.2.1 d_M_isSame_65 (lv_at hl 2 rfl) k) ?_
    refine x_go (pc' := 68) (st' := [.int (lg_cmp x1002 x5)]) (fun hC _ _ _ _ _ _ hl k => W.lcmp hC.1 hC.2.1 d_M_isSame_67 k) ?_
    refine x_if (P := (lg_cmp x1002 x5) = 0) (pt := 71) (pf := 75) (st' := []) (fun hC _ _ _ _ _ _ kt kf => lv_if_ne (tgt := 75) hC.1 hC.2.1 d_M_isSame_68 (by decide) kf kt) ?_ ?_
    · refine x_go (pc' := 72) (st' := [.int (1 : Int32)]) (fun hC _ _ _ _ _ _ hl k => lv_iconst (v := 1) hC.1 hC.2.1 d_M_isSame_71 (by decide) k) ?_
      refine x_go (pc' := 76) (st' := [.int (1 : Int32)]) (fun hC _ _ _ _ _ _ hl k => lv_goto (tgt := 76) hC.1 hC.2.1 d_M_isSame_72 (by decide) k) ?_
      exact x_zret d_M_isSame_76
    · refine x_go (pc' := 76) (st' := [.int (0 : Int32)]) (fun hC _ _ _ _ _ _ hl k => lv_iconst (v := 0) hC.1 hC.2.1 d_M_isSame_75 (by decide) k) ?_
      exact x_zret d_M_isSame_76
  · refine x_go (pc' := 72) (st' := [.int (1 : Int32)]) (fun hC _ _ _ _ _ _ hl k => lv_iconst (v := 1) hC.1 hC.2.1 d_M_isSame_71 (by decide) k) ?_
    refine x_go (pc' := 76) (st' := [.int (1 : Int32)]) (fun hC _ _ _ _ _ _ hl k => lv_goto (tgt := 76) hC.1 hC.2.1 d_M_isSame_72 (by decide) k) ?_
    exact x_zret d_M_isSame_76
set_option maxHeartbeats 4000000 in
set_option maxRecDepth 100000 in
theorem x_M_isSame_b26 {p : Program} {l : Launch} {e : Env} {k1 k2 : Nat} {s : State} {m : MethodId} {args : Array Value} {below : List Frame} {meth : Method} {c : Code} {B : AB} {n0 m0 : Nat} (a0 : Nat) (x1 : Int32) (x3 : Int64) (x5 : Int64) (x7 : Int32) (xs0 : Int32) (h : AH) : X_M_isSame p l e k1 k2 s m args below meth c B n0 m0 h 26 [(0, .ref a0), (1, .int x1), (3, .long x3), (5, .long x5), (7, .int x7)] [.int xs0] (f_M_isSame_b26 a0 x1 x3 x5 x7 xs0 h) := by
  unfold f_M_isSame_b26
  refine x_lift (pc' := 28) (st' := []) (lv' := [(8, .int xs0), (0, .ref a0), (1, .int x1), (3, .long x3), (5, .long x5), (7, .int x7)]) (fun hC _ _ _ _ _ _ hl k => lv_istore (i := 8) hC.1 hC.2.1 d_M_isSame_26 hl (by decide) rfl k) ?_
  refine x_go (pc' := 30) (st' := [.int xs0]) (fun hC _ _ _ _ _ _ hl k => lv_iload hC.1 hC.2.1 d_M_isSame_28 (lv_at hl 0 rfl) k) ?_
  refine x_if (P := xs0 = 0) (pt := 75) (pf := 33) (st' := []) (fun hC _ _ _ _ _ _ kt kf => lv_if_eq (tgt := 75) hC.1 hC.2.1 d_M_isSame_30 (by decide) kt kf) ?_ ?_
  · refine x_go (pc' := 76) (st' := [.int (0 : Int32)]) (fun hC _ _ _ _ _ _ hl k => lv_iconst (v := 0) hC.1 hC.2.1 d_M_isSame_75 (by decide) k) ?_
    exact x_zret d_M_isSame_76
  · refine x_go (pc' := 35) (st' := [.int x7]) (fun hC _ _ _ _ _ _ hl k => lv_iload hC.1 hC.2.1 d_M_isSame_33 (lv_at hl 5 rfl) k) ?_
    refine x_go (pc' := 36) (st' := [.int (4 : Int32), .int x7]) (fun hC _ _ _ _ _ _ hl k => lv_iconst (v := 4) hC.1 hC.2.1 d_M_isSame_35 (by decide) k) ?_
    refine x_go (pc' := 37) (st' := [.int (x7 &&& (4 : Int32))]) (fun hC _ _ _ _ _ _ hl k => lv_iand hC.1 hC.2.1 d_M_isSame_36 k) ?_
    refine x_if (P := (x7 &&& (4 : Int32)) = 0) (pt := 40) (pf := 51) (st' := []) (fun hC _ _ _ _ _ _ kt kf => lv_if_ne (tgt := 51) hC.1 hC.2.1 d_M_isSame_37 (by decide) kf kt) ?_ ?_
    · refine x_go (pc' := 41) (st' := [.ref a0]) (fun hC _ _ _ _ _ _ hl k => lv_aload_n hC.1 hC.2.1 d_M_isSame_40 rfl (lv_at hl 1 rfl) k) ?_
      refine x_getR (ci := 4) (kf := 13) (r := (some a0)) (fun hC => w_get hC iw_4 rfl 13 (by decide) tw_327 rfl d_M_isSame_41) (fun r1001 => ?_)
      refine x_go (pc' := 45) (st' := [.int x1, va_rf r1001]) (fun hC _ _ _ _ _ _ hl k => lv_iload_n hC.1 hC.2.1 d_M_isSame_44 rfl (lv_at hl 2 rfl) k) ?_
      refine x_lald (t := 0) rfl (r := r1001) (i := x1) d_M_isSame_45 (fun x1002 => ?_)
      refine x_go (pc' := 47) (st' := [.long x3, .long x1002]) (fun hC _ _ _ _ _ _ hl k => lv_lload_n hC.1 hC.2.1 d_M_isSame_46 rfl (lv_at hl 3 rfl) k) ?_
      refine x_go (pc' := 48) (st' := [.int (lg_cmp x1002 x3)]) (fun hC _ _ _ _ _ _ hl k => W.lcmp hC.1 hC.2.1 d_M_isSame_47 k) ?_
      refine x_if (P := (lg_cmp x1002 x3) = 0) (pt := 51) (pf := 75) (st' := []) (fun hC _ _ _ _ _ _ kt kf => lv_if_ne (tgt := 75) hC.1 hC.2.1 d_M_isSame_48 (by decide) kf kt) ?_ ?_
      · exact x_sub (lv' := [(0, .ref a0), (1, .int x1), (5, .long x5), (7, .int x7)]) [1, 2, 4, 5] rfl (x_M_isSame_b51 a0 x1 x5 x7 h)
      · refine x_go (pc' := 76) (st' := [.int (0 : Int32)]) (fun hC _ _ _ _ _ _ hl k => lv_iconst (v := 0) hC.1 hC.2.1 d_M_isSame_75 (by decide) k) ?_
        exact x_zret d_M_isSame_76
    · exact x_sub (lv' := [(0, .ref a0), (1, .int x1), (5, .long x5), (7, .int x7)]) [1, 2, 4, 5] rfl (x_M_isSame_b51 a0 x1 x5 x7 h)
set_option maxHeartbeats 4000000 in
set_option maxRecDepth 100000 in
theorem x_M_isSame_b25 {p : Program} {l : Launch} {e : Env} {k1 k2 : Nat} {s : State} {m : MethodId} {args : Array Value} {below : List Frame} {meth : Method} {c : Code} {B : AB} {n0 m0 : Nat} (a0 : Nat) (x1 : Int32) (x3 : Int64) (x5 : Int64) (x7 : Int32) (h : AH) : X_M_isSame p l e k1 k2 s m args below meth c B n0 m0 h 25 [(0, .ref a0), (1, .int x1), (3, .long x3), (5, .long x5), (7, .int x7)] [] (f_M_isSame_b25 a0 x1 x3 x5 x7 h) := by
  unfold f_M_isSame_b25
  refine x_go (pc' := 26) (st' := [.int (0 : Int32)]) (fun hC _ _ _ _ _ _ hl k => lv_iconst (v := 0) hC.1 hC.2.1 d_M_isSame_25 (by decide) k) ?_
  exact x_sub (lv' := [(0, .ref a0), (1, .int x1), (3, .long x3), (5, .long x5), (7, .int x7)]) [0, 1, 2, 3, 4] rfl (x_M_isSame_b26 a0 x1 x3 x5 x7 (0 : Int32) h)
set_option maxHeartbeats 4000000 in
set_option maxRecDepth 100000 in
theorem c_M_isSame (l : Launch) (B : AB) (a0 : Nat) (x1 : Int32) (x2 : Int32) (x3 : Int64) (x5 : Int64) (x7 : Int32) (h : AH) : CT l B y_M_isSame (Cond.code y_M_isSame b_M_isSame 9 (Option.some Jvm.ClassFile.FieldType.boolean) :: lw_tt) 0 0 eI [.ref a0, .int x1, .int x2, .long x3, .long x5, .int x7] h (f_M_isSame a0 x1 x2 x3 x5 x7 h) := by
  refine ct_of (own := o_M) (nm := "isSame") (by decide +kernel) rfl rfl (Nat.le_of_ble_eq_true rfl) (fun p e k1 k2 s m args below meth c => ?_)
  refine x_sub (lv' := [(0, .ref a0), (1, .int x1), (2, .int x2), (3, .long x3), (5, .long x5), (7, .int x7)]) [0, 1, 2, 3, 4, 5] rfl ?_
  unfold f_M_isSame
  refine x_go (pc' := 1) (st' := [.ref a0]) (fun hC _ _ _ _ _ _ hl k => lv_aload_n hC.1 hC.2.1 d_M_isSame_0 rfl (lv_at hl 0 rfl) k) ?_
  refine x_getR (ci := 4) (kf := 11) (r := (some a0)) (fun hC => w_get hC iw_4 rfl 11 (by decide) tw_325 rfl d_M_isSame_1) (fun r101 => ?_)
  refine x_go (pc' := 5) (st' := [.int x1, va_rf r101]) (fun hC _ _ _ _ _ _ hl k => lv_iload_n hC.1 hC.2.1 d_M_isSame_4 rfl (lv_at hl 1 rfl) k) ?_
  refine x_iald (t := 4) rfl (r := r101) (i := x1) d_M_isSame_5 (fun x102 => ?_)
  refine x_go (pc' := 7) (st' := [.int x2, .int x102]) (fun hC _ _ _ _ _ _ hl k => lv_iload_n hC.1 hC.2.1 d_M_isSame_6 rfl (lv_at hl 2 rfl) k) ?_
  refine x_if (P := x102 = x2) (pt := 10) (pf := 25) (st' := []) (fun hC _ _ _ _ _ _ kt kf => lv_icmp_ne (tgt := 25) hC.1 hC.2.1 d_M_isSame_7 (by decide) kf kt) ?_ ?_
  · refine x_go (pc' := 11) (st' := [.ref a0]) (fun hC _ _ _ _ _ _ hl k => lv_aload_n hC.1 hC.2.1 d_M_isSame_10 rfl (lv_at hl 0 rfl) k) ?_
    refine x_getR (ci := 4) (kf := 12) (r := (some a0)) (fun hC => w_get hC iw_4 rfl 12 (by decide) tw_326 rfl d_M_isSame_11) (fun r103 => ?_)
    refine x_go (pc' := 15) (st' := [.int x1, va_rf r103]) (fun hC _ _ _ _ _ _ hl k => lv_iload_n hC.1 hC.2.1 d_M_isSame_14 rfl (lv_at hl 1 rfl) k) ?_
    refine x_iald (t := 4) rfl (r := r103) (i := x1) d_M_isSame_15 (fun x104 => ?_)
    refine x_go (pc' := 18) (st' := [.int x7, .int x104]) (fun hC _ _ _ _ _ _ hl k => lv_iload hC.1 hC.2.1 d_M_isSame_16 (lv_at hl 5 rfl) k) ?_
    refine x_if (P := x104 = x7) (pt := 21) (pf := 25) (st' := []) (fun hC _ _ _ _ _ _ kt kf => lv_icmp_ne (tgt := 25) hC.1 hC.2.1 d_M_isSame_18 (by decide) kf kt) ?_ ?_
    · refine x_go (pc' := 22) (st' := [.int (1 : Int32)]) (fun hC _ _ _ _ _ _ hl k => lv_iconst (v := 1) hC.1 hC.2.1 d_M_isSame_21 (by decide) k) ?_
      refine x_go (pc' := 26) (st' := [.int (1 : Int32)]) (fun hC _ _ _ _ _ _ hl k => lv_goto (tgt := 26) hC.1 hC.2.1 d_M_isSame_22 (by decide) k) ?_
      exact x_sub (lv' := [(0, .ref a0), (1, .int x1), (3, .long x3), (5, .long x5), (7, .int x7)]) [0, 1, 3, 4, 5] rfl (x_M_isSame_b26 a0 x1 x3 x5 x7 (1 : Int32) h)
    · exact x_sub (lv' := [(0, .ref a0), (1, .int x1), (3, .long x3), (5, .long x5), (7, .int x7)]) [0, 1, 3, 4, 5] rfl (x_M_isSame_b25 a0 x1 x3 x5 x7 h)
  · exact x_sub (lv' := [(0, .ref a0), (1, .int x1), (3, .long x3), (5, .long x5), (7, .int x7)]) [0, 1, 3, 4, 5] rfl (x_M_isSame_b25 a0 x1 x3 x5 x7 h)
/-! SerialDeskModel.setRange(IIJJI)V -/
theorem d_M_setRange_0 : decode b_M_setRange 0 = .ok (.aload_n 0, 1) := by decide +kernel
theorem d_M_setRange_1 : decode b_M_setRange 1 = .ok (.getfield 35, 3) := by decide +kernel
theorem d_M_setRange_4 : decode b_M_setRange 4 = .ok (.iload_n 1, 1) := by decide +kernel
theorem d_M_setRange_5 : decode b_M_setRange 5 = .ok (.iload_n 2, 1) := by decide +kernel
theorem d_M_setRange_6 : decode b_M_setRange 6 = .ok (.iastore, 1) := by decide +kernel
theorem d_M_setRange_7 : decode b_M_setRange 7 = .ok (.aload_n 0, 1) := by decide +kernel
theorem d_M_setRange_8 : decode b_M_setRange 8 = .ok (.getfield 41, 3) := by decide +kernel
theorem d_M_setRange_11 : decode b_M_setRange 11 = .ok (.iload_n 1, 1) := by decide +kernel
theorem d_M_setRange_12 : decode b_M_setRange 12 = .ok (.lload_n 3, 1) := by decide +kernel
theorem d_M_setRange_13 : decode b_M_setRange 13 = .ok (.lastore, 1) := by decide +kernel
theorem d_M_setRange_14 : decode b_M_setRange 14 = .ok (.aload_n 0, 1) := by decide +kernel
theorem d_M_setRange_15 : decode b_M_setRange 15 = .ok (.getfield 45, 3) := by decide +kernel
theorem d_M_setRange_18 : decode b_M_setRange 18 = .ok (.iload_n 1, 1) := by decide +kernel
theorem d_M_setRange_19 : decode b_M_setRange 19 = .ok (.lload 5, 2) := by decide +kernel
theorem d_M_setRange_21 : decode b_M_setRange 21 = .ok (.lastore, 1) := by decide +kernel
theorem d_M_setRange_22 : decode b_M_setRange 22 = .ok (.aload_n 0, 1) := by decide +kernel
theorem d_M_setRange_23 : decode b_M_setRange 23 = .ok (.getfield 38, 3) := by decide +kernel
theorem d_M_setRange_26 : decode b_M_setRange 26 = .ok (.iload_n 1, 1) := by decide +kernel
theorem d_M_setRange_27 : decode b_M_setRange 27 = .ok (.iload 7, 2) := by decide +kernel
theorem d_M_setRange_29 : decode b_M_setRange 29 = .ok (.iastore, 1) := by decide +kernel
theorem d_M_setRange_30 : decode b_M_setRange 30 = .ok (.return_, 1) := by decide +kernel
abbrev X_M_setRange (p : Program) (l : Launch) (e : Env) (k1 k2 : Nat) (s : State) (m : MethodId) (args : Array Value) (below : List Frame) (meth : Method) (c : Code) (B : AB) (n0 m0 : Nat) (h : AH) (pc : Nat) (lv : List (Nat × Value)) (st : List Value) (comp : Option (Unit × AH)) : Prop := XX p l e { frames := 0, cells := k1, slots := k2, locals := 0 } s m args below meth c b_M_setRange o_M lw_tt 8 (Option.none : Option Jvm.ClassFile.FieldType) "setRange" B n0 m0 (QM B below args s { frames := 0, cells := k1, slots := k2, locals := 0 } eU) h pc lv st comp
def f_M_setRange (a0 : Nat) (x1 : Int32) (x2 : Int32) (x3 : Int64) (x5 : Int64) (x7 : Int32) (h : AH) : Option (Unit × AH) := (fR h 4 11 (some a0)).bind (fun r101 => (pE h 4 r101 x1 (.int x2)).bind (fun h102 => (fR h102 4 13 (some a0)).bind (fun r103 => (pE h102 0 r103 x1 (.long x3)).bind (fun h104 => (fR h104 4 14 (some a0)).bind (fun r105 => (pE h104 0 r105 x1 (.long x5)).bind (fun h106 => (fR h106 4 12 (some a0)).bind (fun r107 => (pE h106 4 r107 x1 (.int x7)).bind (fun h108 => some ((), h108)))))))))
set_option maxHeartbeats 4000000 in
set_option maxRecDepth 100000 in
theorem c_M_setRange (l : Launch) (B : AB) (a0 : Nat) (x1 : Int32) (x2 : Int32) (x3 : Int64) (x5 : Int64) (x7 : Int32) (h : AH) : CT l B y_M_setRange (Cond.code y_M_setRange b_M_setRange 8 (Option.none : Option Jvm.ClassFile.FieldType) :: lw_tt) 0 0 eU [.ref a0, .int x1, .int x2, .long x3, .long x5, .int x7] h (f_M_setRange a0 x1 x2 x3 x5 x7 h) := by
  refine ct_of (own := o_M) (nm := "setRange") (by decide +kernel) rfl rfl (Nat.le_of_ble_eq_true rfl) (fun p e k1 k2 s m args below meth c => ?_)
  refine x_sub (lv' := [(0, .ref a0), (1, .int x1), (2, .int x2), (3, .long x3), (5, .long x5), (7, .int x7)]) [0, 1, 2, 3, 4, 5] rfl ?_
  unfold f_M_setRange
  refine x_go (pc' := 1) (st' := [.ref a0]) (fun hC _ _ _ _ _ _ hl k => lv_aload_n hC.1 hC.2.1 d_M_setRange_0 rfl (lv_at hl 0 rfl) k) ?_
  refine x_getR (ci := 4) (kf := 11) (r := (some a0)) (fun hC => w_get hC iw_4 rfl 11 (by decide) tw_325 rfl d_M_setRange_1) (fun r101 => ?_)
  refine x_go (pc' := 5) (st' := [.int x1, va_rf r101]) (fun hC _ _ _ _ _ _ hl k => lv_iload_n hC.1 hC.2.1 d_M_setRange_4 rfl (lv_at hl 1 rfl) k) ?_
  refine x_go (pc' := 6) (st' := [.int x2, .int x1, va_rf r101]) (fun hC _ _ _ _ _ _ hl k => lv_iload_n hC.1 hC.2.1 d_M_setRange_5 rfl (lv_at hl 2 rfl) k) ?_
  refine x_iast (t := 4) rfl (r := r101) (i := x1) (x := x2) d_M_setRange_6 (fun h102 => ?_)
  refine x_go (pc' := 8) (st' := [.ref a0]) (fun hC _ _ _ _ _ _ hl k => lv_aload_n hC.1 hC.2.1 d_M_setRange_7 rfl (lv_at hl 0 rfl) k) ?_
  refine x_getR (ci := 4) (kf := 13) (r := (some a0)) (fun hC => w_get hC iw_4 rfl 13 (by decide) tw_327 rfl d_M_setRange_8) (fun r103 => ?_)
  refine x_go (pc' := 12) (st' := [.int x1, va_rf r103]) (fun hC _ _ _ _ _ _ hl k => lv_iload_n hC.1 hC.2.1 d_M_setRange_11 rfl (lv_at hl 1 rfl) k) ?_
  refine x_go (pc' := 13) (st' := [.long x3, .int x1, va_rf r103]) (fun hC _ _ _ _ _ _ hl k => lv_lload_n hC.1 hC.2.1 d_M_setRange_12 rfl (lv_at hl 3 rfl) k) ?_
  refine x_last (t := 0) rfl (r := r103) (i := x1) (x := x3) d_M_setRange_13 (fun h104 => ?_)
  refine x_go (pc' := 15) (st' := [.ref a0]) (fun hC _ _ _ _ _ _ hl k => lv_aload_n hC.1 hC.2.1 d_M_setRange_14 rfl (lv_at hl 0 rfl) k) ?_
  refine x_getR (ci := 4) (kf := 14) (r := (some a0)) (fun hC => w_get hC iw_4 rfl 14 (by decide) tw_328 rfl d_M_setRange_15) (fun r105 => ?_)
  refine x_go (pc' := 19) (st' := [.int x1, va_rf r105]) (fun hC _ _ _ _ _ _ hl k => lv_iload_n hC.1 hC.2.1 d_M_setRange_18 rfl (lv_at hl 1 rfl) k) ?_
  refine x_go (pc' := 21) (st' := [.long x5, .int x1, va_rf r105]) (fun hC _ _ _ _ _ _ hl k => lv_lload hC.1 hC.2.1 d_M_setRange_19 (lv_at hl 4 rfl) k) ?_
  refine x_last (t := 0) rfl (r := r105) (i := x1) (x := x5) d_M_setRange_21 (fun h106 => ?_)
  refine x_go (pc' := 23) (st' := [.ref a0]) (fun hC _ _ _ _ _ _ hl k => lv_aload_n hC.1 hC.2.1 d_M_setRange_22 rfl (lv_at hl 0 rfl) k) ?_
  refine x_getR (ci := 4) (kf := 12) (r := (some a0)) (fun hC => w_get hC iw_4 rfl 12 (by decide) tw_326 rfl d_M_setRange_23) (fun r107 => ?_)
  refine x_go (pc' := 27) (st' := [.int x1, va_rf r107]) (fun hC _ _ _ _ _ _ hl k => lv_iload_n hC.1 hC.2.1 d_M_setRange_26 rfl (lv_at hl 1 rfl) k) ?_
  refine x_go (pc' := 29) (st' := [.int x7, .int x1, va_rf r107]) (fun hC _ _ _ _ _ _ hl k => lv_iload hC.1 hC.2.1 d_M_setRange_27 (lv_at hl 5 rfl) k) ?_
  refine x_iast (t := 4) rfl (r := r107) (i := x1) (x := x7) d_M_setRange_29 (fun h108 => ?_)
  exact x_vret d_M_setRange_30
