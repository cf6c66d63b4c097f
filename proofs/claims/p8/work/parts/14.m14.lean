/-! SerialDeskModel.forget()V -/
theorem d_M_forget_0 : decode b_M_forget 0 = .ok (.aload_n 0, 1) := by decide +kernel
theorem d_M_forget_1 : decode b_M_forget 1 = .ok (.getfield 69, 3) := by decide +kernel
theorem d_M_forget_4 : decode b_M_forget 4 = .ok (.iconst 1, 1) := by decide +kernel
theorem d_M_forget_5 : decode b_M_forget 5 = .ok (.isub, 1) := by decide +kernel
theorem d_M_forget_6 : decode b_M_forget 6 = .ok (.istore_n 1, 1) := by decide +kernel
theorem d_M_forget_7 : decode b_M_forget 7 = .ok (.iload_n 1, 1) := by decide +kernel
theorem d_M_forget_8 : decode b_M_forget 8 = .ok (.ifCond .lt 83, 3) := by decide +kernel
theorem d_M_forget_11 : decode b_M_forget 11 = .ok (.aload_n 0, 1) := by decide +kernel
theorem d_M_forget_12 : decode b_M_forget 12 = .ok (.getfield 19, 3) := by decide +kernel
theorem d_M_forget_15 : decode b_M_forget 15 = .ok (.iload_n 1, 1) := by decide +kernel
theorem d_M_forget_16 : decode b_M_forget 16 = .ok (.iaload, 1) := by decide +kernel
theorem d_M_forget_17 : decode b_M_forget 17 = .ok (.ifCond .ne 7, 3) := by decide +kernel
theorem d_M_forget_20 : decode b_M_forget 20 = .ok (.iconst 1, 1) := by decide +kernel
theorem d_M_forget_21 : decode b_M_forget 21 = .ok (.goto 4, 3) := by decide +kernel
theorem d_M_forget_24 : decode b_M_forget 24 = .ok (.iconst 0, 1) := by decide +kernel
theorem d_M_forget_25 : decode b_M_forget 25 = .ok (.istore_n 2, 1) := by decide +kernel
theorem d_M_forget_26 : decode b_M_forget 26 = .ok (.iconst 0, 1) := by decide +kernel
theorem d_M_forget_27 : decode b_M_forget 27 = .ok (.istore_n 3, 1) := by decide +kernel
theorem d_M_forget_28 : decode b_M_forget 28 = .ok (.iload_n 3, 1) := by decide +kernel
theorem d_M_forget_29 : decode b_M_forget 29 = .ok (.aload_n 0, 1) := by decide +kernel
theorem d_M_forget_30 : decode b_M_forget 30 = .ok (.getfield 69, 3) := by decide +kernel
theorem d_M_forget_33 : decode b_M_forget 33 = .ok (.if_icmp .ge 43, 3) := by decide +kernel
theorem d_M_forget_36 : decode b_M_forget 36 = .ok (.iload_n 2, 1) := by decide +kernel
theorem d_M_forget_37 : decode b_M_forget 37 = .ok (.ifCond .ne 27, 3) := by decide +kernel
theorem d_M_forget_40 : decode b_M_forget 40 = .ok (.aload_n 0, 1) := by decide +kernel
theorem d_M_forget_41 : decode b_M_forget 41 = .ok (.getfield 19, 3) := by decide +kernel
theorem d_M_forget_44 : decode b_M_forget 44 = .ok (.iload_n 3, 1) := by decide +kernel
theorem d_M_forget_45 : decode b_M_forget 45 = .ok (.iaload, 1) := by decide +kernel
theorem d_M_forget_46 : decode b_M_forget 46 = .ok (.ifCond .ne 22, 3) := by decide +kernel
theorem d_M_forget_49 : decode b_M_forget 49 = .ok (.aload_n 0, 1) := by decide +kernel
theorem d_M_forget_50 : decode b_M_forget 50 = .ok (.getfield 16, 3) := by decide +kernel
theorem d_M_forget_53 : decode b_M_forget 53 = .ok (.iload_n 3, 1) := by decide +kernel
theorem d_M_forget_54 : decode b_M_forget 54 = .ok (.iaload, 1) := by decide +kernel
theorem d_M_forget_55 : decode b_M_forget 55 = .ok (.aload_n 0, 1) := by decide +kernel
theorem d_M_forget_56 : decode b_M_forget 56 = .ok (.getfield 19, 3) := by decide +kernel
theorem d_M_forget_59 : decode b_M_forget 59 = .ok (.iload_n 1, 1) := by decide +kernel
theorem d_M_forget_60 : decode b_M_forget 60 = .ok (.iaload, 1) := by decide +kernel
theorem d_M_forget_61 : decode b_M_forget 61 = .ok (.if_icmp .ge 7, 3) := by decide +kernel
theorem d_M_forget_64 : decode b_M_forget 64 = .ok (.iconst 1, 1) := by decide +kernel
theorem d_M_forget_65 : decode b_M_forget 65 = .ok (.goto 4, 3) := by decide +kernel
theorem d_M_forget_68 : decode b_M_forget 68 = .ok (.iconst 0, 1) := by decide +kernel
theorem d_M_forget_69 : decode b_M_forget 69 = .ok (.istore_n 2, 1) := by decide +kernel
theorem d_M_forget_70 : decode b_M_forget 70 = .ok (.iinc 3 1, 3) := by decide +kernel
theorem d_M_forget_73 : decode b_M_forget 73 = .ok (.goto (-45), 3) := by decide +kernel
theorem d_M_forget_76 : decode b_M_forget 76 = .ok (.iload_n 2, 1) := by decide +kernel
theorem d_M_forget_77 : decode b_M_forget 77 = .ok (.ifCond .ne 8, 3) := by decide +kernel
theorem d_M_forget_80 : decode b_M_forget 80 = .ok (.aload_n 0, 1) := by decide +kernel
theorem d_M_forget_81 : decode b_M_forget 81 = .ok (.iload_n 1, 1) := by decide +kernel
theorem d_M_forget_82 : decode b_M_forget 82 = .ok (.invokevirtual 115, 3) := by decide +kernel
theorem d_M_forget_85 : decode b_M_forget 85 = .ok (.iinc 1 (-1), 3) := by decide +kernel
theorem d_M_forget_88 : decode b_M_forget 88 = .ok (.goto (-81), 3) := by decide +kernel
theorem d_M_forget_91 : decode b_M_forget 91 = .ok (.return_, 1) := by decide +kernel
abbrev X_M_forget (p : Program) (l : Launch) (e : Env) (k1 k2 : Nat) (s : State) (m : MethodId) (args : Array Value) (below : List Frame) (meth : Method) (c : Code) (B : AB) (n0 m0 : Nat) (h : AH) (pc : Nat) (lv : List (Nat × Value)) (st : List Value) (comp : Option (Unit × AH)) : Prop := XX p l e { frames := 3, cells := k1, slots := k2, locals := 73 } s m args below meth c b_M_forget o_M lw_tt 4 (Option.none : Option Jvm.ClassFile.FieldType) "forget" B n0 m0 (QM B below args s { frames := 3, cells := k1, slots := k2, locals := 73 } eU) h pc lv st comp
def f_M_forget_b64 (K28 : Nat → Int32 → Int32 → Int32 → AH → Option (Unit × AH)) (a0 : Nat) (x1 : Int32) (x3 : Int32) (h : AH) : Option (Unit × AH) := K28 a0 x1 (1 : Int32) (x3 + 1) h
def f_M_forget_b68 (K28 : Nat → Int32 → Int32 → Int32 → AH → Option (Unit × AH)) (a0 : Nat) (x1 : Int32) (x3 : Int32) (h : AH) : Option (Unit × AH) := K28 a0 x1 (0 : Int32) (x3 + 1) h
def f_M_forget_b28 (K7 : Nat → Int32 → AH → Option (Unit × AH)) : Nat → Nat → Int32 → Int32 → Int32 → AH → Option (Unit × AH)
  | 0, _, _, _, _, _ => none
  | n + 1, a0, x1, x2, x3, h => (fI h 4 2 (some a0)).bind (fun x1001 => (if x1001 ≤ x3 then (if x2 = 0 then rcv h 4 (some a0) (fun b1003 => bndU (f_M_drop b1003 x1 h) (fun h1002 => K7 a0 (x1 + (-1)) h1002)) else K7 a0 (x1 + (-1)) h) else (if x2 = 0 then (fR h 4 6 (some a0)).bind (fun r1004 => (lI h 4 r1004 x3).bind (fun x1005 => (if x1005 = 0 then (fR h 4 5 (some a0)).bind (fun r1006 => (lI h 4 r1006 x3).bind (fun x1007 => (fR h 4 6 (some a0)).bind (fun r1008 => (lI h 4 r1008 x1).bind (fun x1009 => (if x1009 ≤ x1007 then f_M_forget_b68 (f_M_forget_b28 K7 n) a0 x1 x3 h else f_M_forget_b64 (f_M_forget_b28 K7 n) a0 x1 x3 h))))) else f_M_forget_b68 (f_M_forget_b28 K7 n) a0 x1 x3 h))) else f_M_forget_b64 (f_M_forget_b28 K7 n) a0 x1 x3 h)))
def f_M_forget_b7 : Nat → Nat → Int32 → AH → Option (Unit × AH)
  | 0, _, _, _ => none
  | n + 1, a0, x1, h => (if x1 < 0 then some ((), h) else (fR h 4 6 (some a0)).bind (fun r1001 => (lI h 4 r1001 x1).bind (fun x1002 => (if x1002 = 0 then f_M_forget_b28 (f_M_forget_b7 n) 2000 a0 x1 (1 : Int32) (0 : Int32) h else f_M_forget_b28 (f_M_forget_b7 n) 2000 a0 x1 (0 : Int32) (0 : Int32) h))))
def f_M_forget (a0 : Nat) (h : AH) : Option (Unit × AH) := (fI h 4 2 (some a0)).bind (fun x101 => f_M_forget_b7 2000 a0 (x101 - (1 : Int32)) h)
set_option maxHeartbeats 4000000 in
set_option maxRecDepth 100000 in
theorem x_M_forget_b64 {p : Program} {l : Launch} {e : Env} {k1 k2 : Nat} {s : State} {m : MethodId} {args : Array Value} {below : List Frame} {meth : Method} {c : Code} {B : AB} {n0 m0 : Nat} (K28 : Nat → Int32 → Int32 → Int32 → AH → Option (Unit × AH)) (hK28 : ∀ (a0 : Nat) (x1 : Int32) (x2 : Int32) (x3 : Int32) (h : AH), X_M_forget p l e k1 k2 s m args below meth c B n0 m0 h 28 [(0, .ref a0), (1, .int x1), (2, .int x2), (3, .int x3)] [] (K28 a0 x1 x2 x3 h)) (a0 : Nat) (x1 : Int32) (x3 : Int32) (h : AH) : X_M_forget p l e k1 k2 s m args below meth c B n0 m0 h 64 [(0, .ref a0), (1, .int x1), (3, .int x3)] [] (f_M_forget_b64 K28 a0 x1 x3 h) := by
  unfold f_M_forget_b64
  refine x_go (pc' := 65) (st' := [.int (1 : Int32)]) (fun hC _ _ _ _ _ _ hl k => lv_iconst (v := 1) hC.1 hC.2.1 d_M_forget_64 (by decide) k) ?_
  refine x_go (pc' := 69) (st' := [.int (1 : Int32)]) (fun hC _ _ _ _ _ _ hl k => lv_goto (tgt := 69) hC.1 hC.2.1 d_M_forget_65 (by decide) k) ?_
  refine x_lift (pc' := 70) (st' := []) (lv' := [(2, .int (1 : Int32)), (0, .ref a0), (1, .int x1), (3, .int x3)]) (fun hC _ _ _ _ _ _ hl k => lv_istore_n (i := 2) hC.1 hC.2.1 d_M_forget_69 rfl hl (by decide) rfl k) ?_
  refine x_lift (pc' := 73) (st' := []) (lv' := [(3, .int (x3 + 1)), (2, .int (1 : Int32)), (0, .ref a0), (1, .int x1)]) (fun hC _ _ _ _ _ _ hl k => lv_iinc (v := (x3 + 1)) hC.1 hC.2.1 d_M_forget_70 hl (k := 3) rfl rfl (by decide) rfl k) ?_
  refine x_go (pc' := 28) (st' := []) (fun hC _ _ _ _ _ _ hl k => lv_goto (tgt := 28) hC.1 hC.2.1 d_M_forget_73 (by decide) k) ?_
  exact x_sub (lv' := [(0, .ref a0), (1, .int x1), (2, .int (1 : Int32)), (3, .int (x3 + 1))]) [2, 3, 1, 0] rfl (hK28 a0 x1 (1 : Int32) (x3 + 1) h)
set_option maxHeartbeats 4000000 in
set_option maxRecDepth 100000 in
theorem x_M_forget_b68 {p : Program} {l : Launch} {e : Env} {k1 k2 : Nat} {s : State} {m : MethodId} {args : Array Value} {below : List Frame} {meth : Method} {c : Code} {B : AB} {n0 m0 : Nat} (K28 : Nat → Int32 → Int32 → Int32 → AH → Option (Unit × AH)) (hK28 : ∀ (a0 : Nat) (x1 : Int32) (x2 : Int32) (x3 : Int32) (h : AH), X_M_forget p l e k1 k2 s m args below meth c B n0 m0 h 28 [(0, .ref a0), (1, .int x1), (2, .int x2), (3, .int x3)] [] (K28 a0 x1 x2 x3 h)) (a0 : Nat) (x1 : Int32) (x3 : Int32) (h : AH) : X_M_forget p l e k1 k2 s m args below meth c B n0 m0 h 68 [(0, .ref a0), (1, .int x1), (3, .int x3)] [] (f_M_forget_b68 K28 a0 x1 x3 h) := by
  unfold f_M_forget_b68
  refine x_go (pc' := 69) (st' := [.int (0 : Int32)]) (fun hC _ _ _ _ _ _ hl k => lv_iconst (v := 0) hC.1 hC.2.1 d_M_forget_68 (by decide) k) ?_
  refine x_lift (pc' := 70) (st' := []) (lv' := [(2, .int (0 : Int32)), (0, .ref a0), (1, .int x1), (3, .int x3)]) (fun hC _ _ _ _ _ _ hl k => lv_istore_n (i := 2) hC.1 hC.2.1 d_M_forget_69 rfl hl (by decide) rfl k) ?_
  refine x_lift (pc' := 73) (st' := []) (lv' := [(3, .int (x3 + 1)), (2, .int (0 : Int32)), (0, .ref a0), (1, .int x1)]) (fun hC _ _ _ _ _ _ hl k => lv_iinc (v := (x3 + 1)) hC.1 hC.2.1 d_M_forget_70 hl (k := 3) rfl rfl (by decide) rfl k) ?_
  refine x_go (pc' := 28) (st' := []) (fun hC _ _ _ _ _ _ hl k => lv_goto (tgt := 28) hC.1 hC.2.1 d_M_forget_73 (by decide) k) ?_
  exact x_sub (lv' := [(0, .ref a0), (1, .int x1), (2, .int (0 : Int32)), (3, .int (x3 + 1))]) [2, 3, 1, 0] rfl (hK28 a0 x1 (0 : Int32) (x3 + 1) h)
set_option maxHeartbeats 4000000 in
set_option maxRecDepth 100000 in
theorem x_M_forget_b28 {p : Program} {l : Launch} {e : Env} {k1 k2 : Nat} {s : State} {m : MethodId} {args : Array Value} {below : List Frame} {meth : Method} {c : Code} {B : AB} {n0 m0 : Nat} (K7 : Nat → Int32 → AH → Option (Unit × AH)) (hK7 : ∀ (a0 : Nat) (x1 : Int32) (h : AH), X_M_forget p l e k1 k2 s m args below meth c B n0 m0 h 7 [(0, .ref a0), (1, .int x1)] [] (K7 a0 x1 h)) : ∀ (n : Nat) (a0 : Nat) (x1 : Int32) (x2 : Int32) (x3 : Int32) (h : AH), X_M_forget p l e k1 k2 s m args below meth c B n0 m0 h 28 [(0, .ref a0), (1, .int x1), (2, .int x2), (3, .int x3)] [] (f_M_forget_b28 K7 n a0 x1 x2 x3 h) := by
  intro n
  induction n with
  | zero => intro a0 x1 x2 x3 h; exact x_none
  | succ n ih =>
    intro a0 x1 x2 x3 h
    rw [f_M_forget_b28]
    refine x_go (pc' := 29) (st' := [.int x3]) (fun hC _ _ _ _ _ _ hl k => lv_iload_n hC.1 hC.2.1 d_M_forget_28 rfl (lv_at hl 3 rfl) k) ?_
    refine x_go (pc' := 30) (st' := [.ref a0, .int x3]) (fun hC _ _ _ _ _ _ hl k => lv_aload_n hC.1 hC.2.1 d_M_forget_29 rfl (lv_at hl 0 rfl) k) ?_
    refine x_getI (ci := 4) (kf := 2) (r := (some a0)) (fun hC => w_get hC iw_4 rfl 2 (by decide) tw_316 rfl d_M_forget_30) (fun x1001 => ?_)
    refine x_if (P := x1001 ≤ x3) (pt := 76) (pf := 36) (st' := []) (fun hC _ _ _ _ _ _ kt kf => lv_icmp_ge (tgt := 76) hC.1 hC.2.1 d_M_forget_33 (by decide) kt kf) ?_ ?_
    · refine x_go (pc' := 77) (st' := [.int x2]) (fun hC _ _ _ _ _ _ hl k => lv_iload_n hC.1 hC.2.1 d_M_forget_76 rfl (lv_at hl 2 rfl) k) ?_
      refine x_if (P := x2 = 0) (pt := 80) (pf := 85) (st' := []) (fun hC _ _ _ _ _ _ kt kf => lv_if_ne (tgt := 85) hC.1 hC.2.1 d_M_forget_77 (by decide) kf kt) ?_ ?_
      · refine x_go (pc' := 81) (st' := [.ref a0]) (fun hC _ _ _ _ _ _ hl k => lv_aload_n hC.1 hC.2.1 d_M_forget_80 rfl (lv_at hl 0 rfl) k) ?_
        refine x_go (pc' := 82) (st' := [.int x1, .ref a0]) (fun hC _ _ _ _ _ _ hl k => lv_iload_n hC.1 hC.2.1 d_M_forget_81 rfl (lv_at hl 1 rfl) k) ?_
        refine x_recv (ci := 4) (r := (some a0)) (fun b1003 _ eb1003 gb1003 => ?_)
        refine x_callU (rest := []) (c_M_drop l B b1003 x1 h) (fun hC => fun e1 e2 e3 e4 hM => fun hR hsz hc hs => run_V (n := 1) hC lw_good rfl rfl tw_449 tw_451 tv_24 tw_3 tw_452 (by decide) d_M_forget_82 gb1003 (by rw [e1]; exact Nat.le_of_ble_eq_true rfl) (by rw [e2]; exact Nat.le_of_ble_eq_true rfl) e3 e4 hM hR hsz hc hs rfl (by cases eb1003; rfl) (Nat.le_of_ble_eq_true rfl)) (fun h1002 => ?_)
        refine x_lift (pc' := 88) (st' := []) (lv' := [(1, .int (x1 + (-1))), (0, .ref a0), (2, .int x2), (3, .int x3)]) (fun hC _ _ _ _ _ _ hl k => lv_iinc (v := (x1 + (-1))) hC.1 hC.2.1 d_M_forget_85 hl (k := 1) rfl rfl (by decide) rfl k) ?_
        refine x_go (pc' := 7) (st' := []) (fun hC _ _ _ _ _ _ hl k => lv_goto (tgt := 7) hC.1 hC.2.1 d_M_forget_88 (by decide) k) ?_
        exact x_sub (lv' := [(0, .ref a0), (1, .int (x1 + (-1)))]) [1, 0] rfl (hK7 a0 (x1 + (-1)) h1002)
      · refine x_lift (pc' := 88) (st' := []) (lv' := [(1, .int (x1 + (-1))), (0, .ref a0), (2, .int x2), (3, .int x3)]) (fun hC _ _ _ _ _ _ hl k => lv_iinc (v := (x1 + (-1))) hC.1 hC.2.1 d_M_forget_85 hl (k := 1) rfl rfl (by decide) rfl k) ?_
        refine x_go (pc' := 7) (st' := []) (fun hC _ _ _ _ _ _ hl k => lv_goto (tgt := 7) hC.1 hC.2.1 d_M_forget_88 (by decide) k) ?_
        exact x_sub (lv' := [(0, .ref a0), (1, .int (x1 + (-1)))]) [1, 0] rfl (hK7 a0 (x1 + (-1)) h)
    · refine x_go (pc' := 37) (st' := [.int x2]) (fun hC _ _ _ _ _ _ hl k => lv_iload_n hC.1 hC.2.1 d_M_forget_36 rfl (lv_at hl 2 rfl) k) ?_
      refine x_if (P := x2 = 0) (pt := 40) (pf := 64) (st' := []) (fun hC _ _ _ _ _ _ kt kf => lv_if_ne (tgt := 64) hC.1 hC.2.1 d_M_forget_37 (by decide) kf kt) ?_ ?_
      · refine x_go (pc' := 41) (st' := [.ref a0]) (fun hC _ _ _ _ _ _ hl k => lv_aload_n hC.1 hC.2.1 d_M_forget_40 rfl (lv_at hl 0 rfl) k) ?_
        refine x_getR (ci := 4) (kf := 6) (r := (some a0)) (fun hC => w_get hC iw_4 rfl 6 (by decide) tw_320 rfl d_M_forget_41) (fun r1004 => ?_)
        refine x_go (pc' := 45) (st' := [.int x3, va_rf r1004]) (fun hC _ _ _ _ _ _ hl k => lv_iload_n hC.1 hC.2.1 d_M_forget_44 rfl (lv_at hl 3 rfl) k) ?_
        refine x_iald (t := 4) rfl (r := r1004) (i := x3) d_M_forget_45 (fun x1005 => ?_)
        refine x_if (P := x1005 = 0) (pt := 49) (pf := 68) (st' := []) (fun hC _ _ _ _ _ _ kt kf => lv_if_ne (tgt := 68) hC.1 hC.2.1 d_M_forget_46 (by decide) kf kt) ?_ ?_
        · refine x_go (pc' := 50) (st' := [.ref a0]) (fun hC _ _ _ _ _ _ hl k => lv_aload_n hC.1 hC.2.1 d_M_forget_49 rfl (lv_at hl 0 rfl) k) ?_
          refine x_getR (ci := 4) (kf := 5) (r := (some a0)) (fun hC => w_get hC iw_4 rfl 5 (by decide) tw_319 rfl d_M_forget_50) (fun r1006 => ?_)
          refine x_go (pc' := 54) (st' := [.int x3, va_rf r1006]) (fun hC _ _ _ _ _ _ hl k => lv_iload_n hC.1 hC.2.1 d_M_forget_53 rfl (lv_at hl 3 rfl) k) ?_
          refine x_iald (t := 4) rfl (r := r1006) (i := x3) d_M_forget_54 (fun x1007 => ?_)
          refine x_go (pc' := 56) (st' := [.ref a0, .int x1007]) (fun hC _ _ _ _ _ _ hl k => lv_aload_n hC.1 hC.2.1 d_M_forget_55 rfl (lv_at hl 0 rfl) k) ?_
          refine x_getR (ci := 4) (kf := 6) (r := (some a0)) (fun hC => w_get hC iw_4 rfl 6 (by decide) tw_320 rfl d_M_forget_56) (fun r1008 => ?_)
          refine x_go (pc' := 60) (st' := [.int x1, va_rf r1008, .int x1007]) (fun hC _ _ _ _ _ _ hl k => lv_iload_n hC.1 hC.2.1 d_M_forget_59 rfl (lv_at hl 1 rfl) k) ?_
          refine x_iald (t := 4) rfl (r := r1008) (i := x1) d_M_forget_60 (fun x1009 => ?_)
          refine x_if (P := x1009 ≤ x1007) (pt := 68) (pf := 64) (st' := []) (fun hC _ _ _ _ _ _ kt kf => lv_icmp_ge (tgt := 68) hC.1 hC.2.1 d_M_forget_61 (by decide) kt kf) ?_ ?_
          · exact x_sub (lv' := [(0, .ref a0), (1, .int x1), (3, .int x3)]) [0, 1, 3] rfl (x_M_forget_b68 (f_M_forget_b28 K7 n) ih a0 x1 x3 h)
          · exact x_sub (lv' := [(0, .ref a0), (1, .int x1), (3, .int x3)]) [0, 1, 3] rfl (x_M_forget_b64 (f_M_forget_b28 K7 n) ih a0 x1 x3 h)
        · exact x_sub (lv' := [(0, .ref a0), (1, .int x1), (3, .int x3)]) [0, 1, 3] rfl (x_M_forget_b68 (f_M_forget_b28 K7 n) ih a0 x1 x3 h)
      · exact x_sub (lv' := [(0, .ref a0), (1, .int x1), (3, .int x3)]) [0, 1, 3] rfl (x_M_forget_b64 (f_M_forget_b28 K7 n) ih a0 x1 x3 h)
set_option maxHeartbeats 4000000 in
set_option maxRecDepth 100000 in
theorem x_M_forget_b7 {p : Program} {l : Launch} {e : Env} {k1 k2 : Nat} {s : State} {m : MethodId} {args : Array Value} {below : List Frame} {meth : Method} {c : Code} {B : AB} {n0 m0 : Nat} : ∀ (n : Nat) (a0 : Nat) (x1 : Int32) (h : AH), X_M_forget p l e k1 k2 s m args below meth c B n0 m0 h 7 [(0, .ref a0), (1, .int x1)] [] (f_M_forget_b7 n a0 x1 h) := by
  intro n
  induction n with
  | zero => intro a0 x1 h; exact x_none
  | succ n ih =>
    intro a0 x1 h
    rw [f_M_forget_b7]
    refine x_go (pc' := 8) (st' := [.int x1]) (fun hC _ _ _ _ _ _ hl k => lv_iload_n hC.1 hC.2.1 d_M_forget_7 rfl (lv_at hl 1 rfl) k) ?_
    refine x_if (P := x1 < 0) (pt := 91) (pf := 11) (st' := []) (fun hC _ _ _ _ _ _ kt kf => lv_if_lt (tgt := 91) hC.1 hC.2.1 d_M_forget_8 (by decide) kt kf) ?_ ?_
    · exact x_vret d_M_forget_91
    · refine x_go (pc' := 12) (st' := [.ref a0]) (fun hC _ _ _ _ _ _ hl k => lv_aload_n hC.1 hC.2.1 d_M_forget_11 rfl (lv_at hl 0 rfl) k) ?_
      refine x_getR (ci := 4) (kf := 6) (r := (some a0)) (fun hC => w_get hC iw_4 rfl 6 (by decide) tw_320 rfl d_M_forget_12) (fun r1001 => ?_)
      refine x_go (pc' := 16) (st' := [.int x1, va_rf r1001]) (fun hC _ _ _ _ _ _ hl k => lv_iload_n hC.1 hC.2.1 d_M_forget_15 rfl (lv_at hl 1 rfl) k) ?_
      refine x_iald (t := 4) rfl (r := r1001) (i := x1) d_M_forget_16 (fun x1002 => ?_)
      refine x_if (P := x1002 = 0) (pt := 20) (pf := 24) (st' := []) (fun hC _ _ _ _ _ _ kt kf => lv_if_ne (tgt := 24) hC.1 hC.2.1 d_M_forget_17 (by decide) kf kt) ?_ ?_
      · refine x_go (pc' := 21) (st' := [.int (1 : Int32)]) (fun hC _ _ _ _ _ _ hl k => lv_iconst (v := 1) hC.1 hC.2.1 d_M_forget_20 (by decide) k) ?_
        refine x_go (pc' := 25) (st' := [.int (1 : Int32)]) (fun hC _ _ _ _ _ _ hl k => lv_goto (tgt := 25) hC.1 hC.2.1 d_M_forget_21 (by decide) k) ?_
        refine x_lift (pc' := 26) (st' := []) (lv' := [(2, .int (1 : Int32)), (0, .ref a0), (1, .int x1)]) (fun hC _ _ _ _ _ _ hl k => lv_istore_n (i := 2) hC.1 hC.2.1 d_M_forget_25 rfl hl (by decide) rfl k) ?_
        refine x_go (pc' := 27) (st' := [.int (0 : Int32)]) (fun hC _ _ _ _ _ _ hl k => lv_iconst (v := 0) hC.1 hC.2.1 d_M_forget_26 (by decide) k) ?_
        refine x_lift (pc' := 28) (st' := []) (lv' := [(3, .int (0 : Int32)), (2, .int (1 : Int32)), (0, .ref a0), (1, .int x1)]) (fun hC _ _ _ _ _ _ hl k => lv_istore_n (i := 3) hC.1 hC.2.1 d_M_forget_27 rfl hl (by decide) rfl k) ?_
        exact x_sub (lv' := [(0, .ref a0), (1, .int x1), (2, .int (1 : Int32)), (3, .int (0 : Int32))]) [2, 3, 1, 0] rfl (x_M_forget_b28 (f_M_forget_b7 n) ih 2000 a0 x1 (1 : Int32) (0 : Int32) h)
      · refine x_go (pc' := 25) (st' := [.int (0 : Int32)]) (fun hC _ _ _ _ _ _ hl k => lv_iconst (v := 0) hC.1 hC.2.1 d_M_forget_24 (by decide) k) ?_
        refine x_lift (pc' := 26) (st' := []) (lv' := [(2, .int (0 : Int32)), (0, .ref a0), (1, .int x1)]) (fun hC _ _ _ _ _ _ hl k => lv_istore_n (i := 2) hC.1 hC.2.1 d_M_forget_25 rfl hl (by decide) rfl k) ?_
        refine x_go (pc' := 27) (st' := [.int (0 : Int32)]) (fun hC _ _ _ _ _ _ hl k => lv_iconst (v := 0) hC.1 hC.2.1 d_M_forget_26 (by decide) k) ?_
        refine x_lift (pc' := 28) (st' := []) (lv' := [(3, .int (0 : Int32)), (2, .int (0 : Int32)), (0, .ref a0), (1, .int x1)]) (fun hC _ _ _ _ _ _ hl k => lv_istore_n (i := 3) hC.1 hC.2.1 d_M_forget_27 rfl hl (by decide) rfl k) ?_
        exact x_sub (lv' := [(0, .ref a0), (1, .int x1), (2, .int (0 : Int32)), (3, .int (0 : Int32))]) [2, 3, 1, 0] rfl (x_M_forget_b28 (f_M_forget_b7 n) ih 2000 a0 x1 (0 : Int32) (0 : Int32) h)
set_option maxHeartbeats 4000000 in
set_option maxRecDepth 100000 in
theorem c_M_forget (l : Launch) (B : AB) (a0 : Nat) (h : AH) : CT l B y_M_forget (Cond.code y_M_forget b_M_forget 4 (Option.none : Option Jvm.ClassFile.FieldType) :: lw_tt) 3 73 eU [.ref a0] h (f_M_forget a0 h) := by
  refine ct_of (own := o_M) (nm := "forget") (by decide +kernel) rfl rfl (Nat.le_of_ble_eq_true rfl) (fun p e k1 k2 s m args below meth c => ?_)
  refine x_sub (lv' := [(0, .ref a0)]) [0] rfl ?_
  unfold f_M_forget
  refine x_go (pc' := 1) (st' := [.ref a0]) (fun hC _ _ _ _ _ _ hl k => lv_aload_n hC.1 hC.2.1 d_M_forget_0 rfl (lv_at hl 0 rfl) k) ?_
  refine x_getI (ci := 4) (kf := 2) (r := (some a0)) (fun hC => w_get hC iw_4 rfl 2 (by decide) tw_316 rfl d_M_forget_1) (fun x101 => ?_)
  refine x_go (pc' := 5) (st' := [.int (1 : Int32), .int x101]) (fun hC _ _ _ _ _ _ hl k => lv_iconst (v := 1) hC.1 hC.2.1 d_M_forget_4 (by decide) k) ?_
  refine x_go (pc' := 6) (st' := [.int (x101 - (1 : Int32))]) (fun hC _ _ _ _ _ _ hl k => lv_isub hC.1 hC.2.1 d_M_forget_5 k) ?_
  refine x_lift (pc' := 7) (st' := []) (lv' := [(1, .int (x101 - (1 : Int32))), (0, .ref a0)]) (fun hC _ _ _ _ _ _ hl k => lv_istore_n (i := 1) hC.1 hC.2.1 d_M_forget_6 rfl hl (by decide) rfl k) ?_
  exact x_sub (lv' := [(0, .ref a0), (1, .int (x101 - (1 : Int32)))]) [1, 0] rfl (x_M_forget_b7 2000 a0 (x101 - (1 : Int32)) h)
/-! SerialDeskModel.commit(I)I -/
theorem d_M_commit_0 : decode b_M_commit 0 = .ok (.aload_n 0, 1) := by decide +kernel
theorem d_M_commit_1 : decode b_M_commit 1 = .ok (.iload_n 1, 1) := by decide +kernel
theorem d_M_commit_2 : decode b_M_commit 2 = .ok (.invokevirtual 73, 3) := by decide +kernel
theorem d_M_commit_5 : decode b_M_commit 5 = .ok (.istore_n 2, 1) := by decide +kernel
theorem d_M_commit_6 : decode b_M_commit 6 = .ok (.iload_n 2, 1) := by decide +kernel
theorem d_M_commit_7 : decode b_M_commit 7 = .ok (.ifCond .lt 12, 3) := by decide +kernel
theorem d_M_commit_10 : decode b_M_commit 10 = .ok (.aload_n 0, 1) := by decide +kernel
theorem d_M_commit_11 : decode b_M_commit 11 = .ok (.getfield 22, 3) := by decide +kernel
theorem d_M_commit_14 : decode b_M_commit 14 = .ok (.iload_n 2, 1) := by decide +kernel
theorem d_M_commit_15 : decode b_M_commit 15 = .ok (.baload, 1) := by decide +kernel
theorem d_M_commit_16 : decode b_M_commit 16 = .ok (.ifCond .eq 13, 3) := by decide +kernel
theorem d_M_commit_19 : decode b_M_commit 19 = .ok (.iload_n 2, 1) := by decide +kernel
theorem d_M_commit_20 : decode b_M_commit 20 = .ok (.ifCond .ge 7, 3) := by decide +kernel
theorem d_M_commit_23 : decode b_M_commit 23 = .ok (.iconst (-1), 1) := by decide +kernel
theorem d_M_commit_24 : decode b_M_commit 24 = .ok (.goto 4, 3) := by decide +kernel
theorem d_M_commit_27 : decode b_M_commit 27 = .ok (.iconst 0, 1) := by decide +kernel
theorem d_M_commit_28 : decode b_M_commit 28 = .ok (.ireturn, 1) := by decide +kernel
theorem d_M_commit_29 : decode b_M_commit 29 = .ok (.aload_n 0, 1) := by decide +kernel
theorem d_M_commit_30 : decode b_M_commit 30 = .ok (.dup, 1) := by decide +kernel
theorem d_M_commit_31 : decode b_M_commit 31 = .ok (.getfield 80, 3) := by decide +kernel
theorem d_M_commit_34 : decode b_M_commit 34 = .ok (.iconst 1, 1) := by decide +kernel
theorem d_M_commit_35 : decode b_M_commit 35 = .ok (.iadd, 1) := by decide +kernel
theorem d_M_commit_36 : decode b_M_commit 36 = .ok (.putfield 80, 3) := by decide +kernel
theorem d_M_commit_39 : decode b_M_commit 39 = .ok (.aload_n 0, 1) := by decide +kernel
theorem d_M_commit_40 : decode b_M_commit 40 = .ok (.getfield 19, 3) := by decide +kernel
theorem d_M_commit_43 : decode b_M_commit 43 = .ok (.iload_n 2, 1) := by decide +kernel
theorem d_M_commit_44 : decode b_M_commit 44 = .ok (.aload_n 0, 1) := by decide +kernel
theorem d_M_commit_45 : decode b_M_commit 45 = .ok (.getfield 80, 3) := by decide +kernel
theorem d_M_commit_48 : decode b_M_commit 48 = .ok (.iastore, 1) := by decide +kernel
theorem d_M_commit_49 : decode b_M_commit 49 = .ok (.aload_n 0, 1) := by decide +kernel
theorem d_M_commit_50 : decode b_M_commit 50 = .ok (.getfield 51, 3) := by decide +kernel
theorem d_M_commit_53 : decode b_M_commit 53 = .ok (.aload_n 0, 1) := by decide +kernel
theorem d_M_commit_54 : decode b_M_commit 54 = .ok (.getfield 7, 3) := by decide +kernel
theorem d_M_commit_57 : decode b_M_commit 57 = .ok (.iload_n 2, 1) := by decide +kernel
theorem d_M_commit_58 : decode b_M_commit 58 = .ok (.iaload, 1) := by decide +kernel
theorem d_M_commit_59 : decode b_M_commit 59 = .ok (.aload_n 0, 1) := by decide +kernel
theorem d_M_commit_60 : decode b_M_commit 60 = .ok (.getfield 80, 3) := by decide +kernel
theorem d_M_commit_63 : decode b_M_commit 63 = .ok (.iastore, 1) := by decide +kernel
theorem d_M_commit_64 : decode b_M_commit 64 = .ok (.aload_n 0, 1) := by decide +kernel
theorem d_M_commit_65 : decode b_M_commit 65 = .ok (.getfield 13, 3) := by decide +kernel
theorem d_M_commit_68 : decode b_M_commit 68 = .ok (.iload_n 2, 1) := by decide +kernel
theorem d_M_commit_69 : decode b_M_commit 69 = .ok (.iconst (-1), 1) := by decide +kernel
theorem d_M_commit_70 : decode b_M_commit 70 = .ok (.iastore, 1) := by decide +kernel
theorem d_M_commit_71 : decode b_M_commit 71 = .ok (.iconst 0, 1) := by decide +kernel
theorem d_M_commit_72 : decode b_M_commit 72 = .ok (.istore_n 3, 1) := by decide +kernel
theorem d_M_commit_73 : decode b_M_commit 73 = .ok (.iload_n 3, 1) := by decide +kernel
theorem d_M_commit_74 : decode b_M_commit 74 = .ok (.aload_n 0, 1) := by decide +kernel
theorem d_M_commit_75 : decode b_M_commit 75 = .ok (.getfield 69, 3) := by decide +kernel
theorem d_M_commit_78 : decode b_M_commit 78 = .ok (.if_icmp .ge 107, 3) := by decide +kernel
theorem d_M_commit_81 : decode b_M_commit 81 = .ok (.aload_n 0, 1) := by decide +kernel
theorem d_M_commit_82 : decode b_M_commit 82 = .ok (.getfield 29, 3) := by decide +kernel
theorem d_M_commit_85 : decode b_M_commit 85 = .ok (.bipush 64, 2) := by decide +kernel
theorem d_M_commit_87 : decode b_M_commit 87 = .ok (.iload_n 3, 1) := by decide +kernel
theorem d_M_commit_88 : decode b_M_commit 88 = .ok (.imul, 1) := by decide +kernel
theorem d_M_commit_89 : decode b_M_commit 89 = .ok (.iload_n 2, 1) := by decide +kernel
theorem d_M_commit_90 : decode b_M_commit 90 = .ok (.iadd, 1) := by decide +kernel
theorem d_M_commit_91 : decode b_M_commit 91 = .ok (.baload, 1) := by decide +kernel
theorem d_M_commit_92 : decode b_M_commit 92 = .ok (.ifCond .eq 87, 3) := by decide +kernel
theorem d_M_commit_95 : decode b_M_commit 95 = .ok (.aload_n 0, 1) := by decide +kernel
theorem d_M_commit_96 : decode b_M_commit 96 = .ok (.iload_n 3, 1) := by decide +kernel
theorem d_M_commit_97 : decode b_M_commit 97 = .ok (.iload_n 2, 1) := by decide +kernel
theorem d_M_commit_98 : decode b_M_commit 98 = .ok (.invokevirtual 102, 3) := by decide +kernel
theorem d_M_commit_101 : decode b_M_commit 101 = .ok (.iconst 0, 1) := by decide +kernel
theorem d_M_commit_102 : decode b_M_commit 102 = .ok (.istore 4, 2) := by decide +kernel
theorem d_M_commit_104 : decode b_M_commit 104 = .ok (.iload 4, 2) := by decide +kernel
theorem d_M_commit_106 : decode b_M_commit 106 = .ok (.aload_n 0, 1) := by decide +kernel
theorem d_M_commit_107 : decode b_M_commit 107 = .ok (.getfield 69, 3) := by decide +kernel
theorem d_M_commit_110 : decode b_M_commit 110 = .ok (.if_icmp .ge 69, 3) := by decide +kernel
theorem d_M_commit_113 : decode b_M_commit 113 = .ok (.aload_n 0, 1) := by decide +kernel
theorem d_M_commit_114 : decode b_M_commit 114 = .ok (.getfield 19, 3) := by decide +kernel
theorem d_M_commit_117 : decode b_M_commit 117 = .ok (.iload_n 3, 1) := by decide +kernel
theorem d_M_commit_118 : decode b_M_commit 118 = .ok (.iaload, 1) := by decide +kernel
theorem d_M_commit_119 : decode b_M_commit 119 = .ok (.ifCond .ne 60, 3) := by decide +kernel
theorem d_M_commit_122 : decode b_M_commit 122 = .ok (.aload_n 0, 1) := by decide +kernel
theorem d_M_commit_123 : decode b_M_commit 123 = .ok (.getfield 22, 3) := by decide +kernel
theorem d_M_commit_126 : decode b_M_commit 126 = .ok (.iload_n 3, 1) := by decide +kernel
theorem d_M_commit_127 : decode b_M_commit 127 = .ok (.aload_n 0, 1) := by decide +kernel
theorem d_M_commit_128 : decode b_M_commit 128 = .ok (.getfield 22, 3) := by decide +kernel
theorem d_M_commit_131 : decode b_M_commit 131 = .ok (.iload_n 3, 1) := by decide +kernel
theorem d_M_commit_132 : decode b_M_commit 132 = .ok (.baload, 1) := by decide +kernel
theorem d_M_commit_133 : decode b_M_commit 133 = .ok (.ifCond .ne 34, 3) := by decide +kernel
theorem d_M_commit_136 : decode b_M_commit 136 = .ok (.aload_n 0, 1) := by decide +kernel
theorem d_M_commit_137 : decode b_M_commit 137 = .ok (.getfield 29, 3) := by decide +kernel
theorem d_M_commit_140 : decode b_M_commit 140 = .ok (.bipush 64, 2) := by decide +kernel
theorem d_M_commit_142 : decode b_M_commit 142 = .ok (.iload 4, 2) := by decide +kernel
theorem d_M_commit_144 : decode b_M_commit 144 = .ok (.imul, 1) := by decide +kernel
theorem d_M_commit_145 : decode b_M_commit 145 = .ok (.iload_n 3, 1) := by decide +kernel
theorem d_M_commit_146 : decode b_M_commit 146 = .ok (.iadd, 1) := by decide +kernel
theorem d_M_commit_147 : decode b_M_commit 147 = .ok (.baload, 1) := by decide +kernel
theorem d_M_commit_148 : decode b_M_commit 148 = .ok (.ifCond .eq 23, 3) := by decide +kernel
theorem d_M_commit_151 : decode b_M_commit 151 = .ok (.aload_n 0, 1) := by decide +kernel
theorem d_M_commit_152 : decode b_M_commit 152 = .ok (.getfield 19, 3) := by decide +kernel
theorem d_M_commit_155 : decode b_M_commit 155 = .ok (.iload 4, 2) := by decide +kernel
theorem d_M_commit_157 : decode b_M_commit 157 = .ok (.iaload, 1) := by decide +kernel
theorem d_M_commit_158 : decode b_M_commit 158 = .ok (.ifCond .eq 9, 3) := by decide +kernel
theorem d_M_commit_161 : decode b_M_commit 161 = .ok (.iload 4, 2) := by decide +kernel
theorem d_M_commit_163 : decode b_M_commit 163 = .ok (.iload_n 2, 1) := by decide +kernel
theorem d_M_commit_164 : decode b_M_commit 164 = .ok (.if_icmp .ne 7, 3) := by decide +kernel
theorem d_M_commit_167 : decode b_M_commit 167 = .ok (.iconst 1, 1) := by decide +kernel
theorem d_M_commit_168 : decode b_M_commit 168 = .ok (.goto 4, 3) := by decide +kernel
theorem d_M_commit_171 : decode b_M_commit 171 = .ok (.iconst 0, 1) := by decide +kernel
theorem d_M_commit_172 : decode b_M_commit 172 = .ok (.bastore, 1) := by decide +kernel
theorem d_M_commit_173 : decode b_M_commit 173 = .ok (.iinc 4 1, 3) := by decide +kernel
theorem d_M_commit_176 : decode b_M_commit 176 = .ok (.goto (-72), 3) := by decide +kernel
theorem d_M_commit_179 : decode b_M_commit 179 = .ok (.iinc 3 1, 3) := by decide +kernel
theorem d_M_commit_182 : decode b_M_commit 182 = .ok (.goto (-109), 3) := by decide +kernel
theorem d_M_commit_185 : decode b_M_commit 185 = .ok (.aload_n 0, 1) := by decide +kernel
theorem d_M_commit_186 : decode b_M_commit 186 = .ok (.invokevirtual 119, 3) := by decide +kernel
theorem d_M_commit_189 : decode b_M_commit 189 = .ok (.aload_n 0, 1) := by decide +kernel
theorem d_M_commit_190 : decode b_M_commit 190 = .ok (.getfield 80, 3) := by decide +kernel
theorem d_M_commit_193 : decode b_M_commit 193 = .ok (.ireturn, 1) := by decide +kernel
abbrev X_M_commit (p : Program) (l : Launch) (e : Env) (k1 k2 : Nat) (s : State) (m : MethodId) (args : Array Value) (below : List Frame) (meth : Method) (c : Code) (B : AB) (n0 m0 : Nat) (h : AH) (pc : Nat) (lv : List (Nat × Value)) (st : List Value) (comp : Option (Int32 × AH)) : Prop := XX p l e { frames := 4, cells := k1, slots := k2, locals := 96 } s m args below meth c b_M_commit o_M lw_tt 5 (Option.some Jvm.ClassFile.FieldType.int) "commit" B n0 m0 (QM B below args s { frames := 4, cells := k1, slots := k2, locals := 96 } eI) h pc lv st comp
def f_M_commit_b19 (x2 : Int32) (h : AH) : Option (Int32 × AH) := (if 0 ≤ x2 then some ((0 : Int32), h) else some ((-1 : Int32), h))
def f_M_commit_b167 (K104 : Nat → Int32 → Int32 → Int32 → AH → Option (Int32 × AH)) (a0 : Nat) (x2 : Int32) (x3 : Int32) (x4 : Int32) (rs0 : Option Nat) (xs1 : Int32) (h : AH) : Option (Int32 × AH) := (qE h 1 rs0 xs1 (1 : Int32)).bind (fun h1001 => K104 a0 x2 x3 (x4 + 1) h1001)
def f_M_commit_b171 (K104 : Nat → Int32 → Int32 → Int32 → AH → Option (Int32 × AH)) (a0 : Nat) (x2 : Int32) (x3 : Int32) (x4 : Int32) (rs0 : Option Nat) (xs1 : Int32) (h : AH) : Option (Int32 × AH) := (qE h 1 rs0 xs1 (0 : Int32)).bind (fun h1001 => K104 a0 x2 x3 (x4 + 1) h1001)
def f_M_commit_b104 (K73 : Nat → Int32 → Int32 → AH → Option (Int32 × AH)) : Nat → Nat → Int32 → Int32 → Int32 → AH → Option (Int32 × AH)
  | 0, _, _, _, _, _ => none
  | n + 1, a0, x2, x3, x4, h => (fI h 4 2 (some a0)).bind (fun x1001 => (if x1001 ≤ x4 then K73 a0 x2 (x3 + 1) h else (fR h 4 6 (some a0)).bind (fun r1002 => (lI h 4 r1002 x3).bind (fun x1003 => (if x1003 = 0 then (fR h 4 7 (some a0)).bind (fun r1004 => (fR h 4 7 (some a0)).bind (fun r1005 => (lI h 1 r1005 x3).bind (fun x1006 => (if x1006 = 0 then (fR h 4 9 (some a0)).bind (fun r1007 => (lI h 1 r1007 (((64 : Int32) * x4) + x3)).bind (fun x1008 => (if x1008 = 0 then f_M_commit_b171 (f_M_commit_b104 K73 n) a0 x2 x3 x4 r1004 x3 h else (fR h 4 6 (some a0)).bind (fun r1009 => (lI h 4 r1009 x4).bind (fun x1010 => (if x1010 = 0 then f_M_commit_b167 (f_M_commit_b104 K73 n) a0 x2 x3 x4 r1004 x3 h else (if x4 = x2 then f_M_commit_b167 (f_M_commit_b104 K73 n) a0 x2 x3 x4 r1004 x3 h else f_M_commit_b171 (f_M_commit_b104 K73 n) a0 x2 x3 x4 r1004 x3 h))))))) else f_M_commit_b167 (f_M_commit_b104 K73 n) a0 x2 x3 x4 r1004 x3 h)))) else K73 a0 x2 (x3 + 1) h)))))
def f_M_commit_b73 : Nat → Nat → Int32 → Int32 → AH → Option (Int32 × AH)
  | 0, _, _, _, _ => none
  | n + 1, a0, x2, x3, h => (fI h 4 2 (some a0)).bind (fun x1001 => (if x1001 ≤ x3 then rcv h 4 (some a0) (fun b1003 => bndU (f_M_forget b1003 h) (fun h1002 => (fI h1002 4 1 (some a0)).bind (fun x1004 => some (x1004, h1002)))) else (fR h 4 9 (some a0)).bind (fun r1005 => (lI h 1 r1005 (((64 : Int32) * x3) + x2)).bind (fun x1006 => (if x1006 = 0 then f_M_commit_b73 n a0 x2 (x3 + 1) h else rcv h 4 (some a0) (fun b1008 => bndU (f_M_point b1008 x3 x2 h) (fun h1007 => f_M_commit_b104 (f_M_commit_b73 n) 2000 a0 x2 x3 (0 : Int32) h1007)))))))
def f_M_commit (a0 : Nat) (x1 : Int32) (h : AH) : Option (Int32 × AH) := rcv h 4 (some a0) (fun b103 => bnd (f_M_running b103 x1 h) (fun x102 h101 => (if x102 < 0 then f_M_commit_b19 x102 h101 else (fR h101 4 7 (some a0)).bind (fun r104 => (lI h101 1 r104 x102).bind (fun x105 => (if x105 = 0 then (fI h101 4 1 (some a0)).bind (fun x106 => (pF h101 4 1 (some a0) (.int (x106 + (1 : Int32)))).bind (fun h107 => (fR h107 4 6 (some a0)).bind (fun r108 => (fI h107 4 1 (some a0)).bind (fun x109 => (pE h107 4 r108 x102 (.int x109)).bind (fun h110 => (fR h110 4 16 (some a0)).bind (fun r111 => (fR h110 4 3 (some a0)).bind (fun r112 => (lI h110 4 r112 x102).bind (fun x113 => (fI h110 4 1 (some a0)).bind (fun x114 => (pE h110 4 r111 x113 (.int x114)).bind (fun h115 => (fR h115 4 4 (some a0)).bind (fun r116 => (pE h115 4 r116 x102 (.int (-1 : Int32))).bind (fun h117 => f_M_commit_b73 2000 a0 x102 (0 : Int32) h117)))))))))))) else f_M_commit_b19 x102 h101))))))
set_option maxHeartbeats 4000000 in
set_option maxRecDepth 100000 in
theorem x_M_commit_b19 {p : Program} {l : Launch} {e : Env} {k1 k2 : Nat} {s : State} {m : MethodId} {args : Array Value} {below : List Frame} {meth : Method} {c : Code} {B : AB} {n0 m0 : Nat} (x2 : Int32) (h : AH) : X_M_commit p l e k1 k2 s m args below meth c B n0 m0 h 19 [(2, .int x2)] [] (f_M_commit_b19 x2 h) := by
  unfold f_M_commit_b19
  refine x_go (pc' := 20) (st' := [.int x2]) (fun hC _ _ _ _ _ _ hl k => lv_iload_n hC.1 hC.2.1 d_M_commit_19 rfl (lv_at hl 0 rfl) k) ?_
  refine x_if (P := 0 ≤ x2) (pt := 27) (pf := 23) (st' := []) (fun hC _ _ _ _ _ _ kt kf => lv_if_ge (tgt := 27) hC.1 hC.2.1 d_M_commit_20 (by decide) kt kf) ?_ ?_
  · refine x_go (pc' := 28) (st' := [.int (0 : Int32)]) (fun hC _ _ _ _ _ _ hl k => lv_iconst (v := 0) hC.1 hC.2.1 d_M_commit_27 (by decide) k) ?_
    exact x_iret d_M_commit_28
  · refine x_go (pc' := 24) (st' := [.int (-1 : Int32)]) (fun hC _ _ _ _ _ _ hl k => lv_iconst (v := -1) hC.1 hC.2.1 d_M_commit_23 (by decide) k) ?_
    refine x_go (pc' := 28) (st' := [.int (-1 : Int32)]) (fun hC _ _ _ _ _ _ hl k => lv_goto (tgt := 28) hC.1 hC.2.1 d_M_commit_24 (by decide) k) ?_
    exact x_iret d_M_commit_28
set_option maxHeartbeats 4000000 in
set_option maxRecDepth 100000 in
theorem x_M_commit_b167 {p : Program} {l : Launch} {e : Env} {k1 k2 : Nat} {s : State} {m : MethodId} {args : Array Value} {below : List Frame} {meth : Method} {c : Code} {B : AB} {n0 m0 : Nat} (K104 : Nat → Int32 → Int32 → Int32 → AH → Option (Int32 × AH)) (hK104 : ∀ (a0 : Nat) (x2 : Int32) (x3 : Int32) (x4 : Int32) (h : AH), X_M_commit p l e k1 k2 s m args below meth c B n0 m0 h 104 [(0, .ref a0), (2, .int x2), (3, .int x3), (4, .int x4)] [] (K104 a0 x2 x3 x4 h)) (a0 : Nat) (x2 : Int32) (x3 : Int32) (x4 : Int32) (rs0 : Option Nat) (xs1 : Int32) (h : AH) : X_M_commit p l e k1 k2 s m args below meth c B n0 m0 h 167 [(0, .ref a0), (2, .int x2), (3, .int x3), (4, .int x4)] [.int xs1, va_rf rs0] (f_M_commit_b167 K104 a0 x2 x3 x4 rs0 xs1 h) := by
  unfold f_M_commit_b167
  refine x_go (pc' := 168) (st' := [.int (1 : Int32), .int xs1, va_rf rs0]) (fun hC _ _ _ _ _ _ hl k => lv_iconst (v := 1) hC.1 hC.2.1 d_M_commit_167 (by decide) k) ?_
  refine x_go (pc' := 172) (st' := [.int (1 : Int32), .int xs1, va_rf rs0]) (fun hC _ _ _ _ _ _ hl k => lv_goto (tgt := 172) hC.1 hC.2.1 d_M_commit_168 (by decide) k) ?_
  refine x_zast (t := 1) rfl (r := rs0) (i := xs1) (x := (1 : Int32)) d_M_commit_172 (fun h1001 => ?_)
  refine x_lift (pc' := 176) (st' := []) (lv' := [(4, .int (x4 + 1)), (0, .ref a0), (2, .int x2), (3, .int x3)]) (fun hC _ _ _ _ _ _ hl k => lv_iinc (v := (x4 + 1)) hC.1 hC.2.1 d_M_commit_173 hl (k := 3) rfl rfl (by decide) rfl k) ?_
  refine x_go (pc' := 104) (st' := []) (fun hC _ _ _ _ _ _ hl k => lv_goto (tgt := 104) hC.1 hC.2.1 d_M_commit_176 (by decide) k) ?_
  exact x_sub (lv' := [(0, .ref a0), (2, .int x2), (3, .int x3), (4, .int (x4 + 1))]) [1, 2, 3, 0] rfl (hK104 a0 x2 x3 (x4 + 1) h1001)
set_option maxHeartbeats 4000000 in
set_option maxRecDepth 100000 in
theorem x_M_commit_b171 {p : Program} {l : Launch} {e : Env} {k1 k2 : Nat} {s : State} {m : MethodId} {args : Array Value} {below : List Frame} {meth : Method} {c : Code} {B : AB} {n0 m0 : Nat} (K104 : Nat → Int32 → Int32 → Int32 → AH → Option (Int32 × AH)) (hK104 : ∀ (a0 : Nat) (x2 : Int32) (x3 : Int32) (x4 : Int32) (h : AH), X_M_commit p l e k1 k2 s m args below meth c B n0 m0 h 104 [(0, .ref a0), (2, .int x2), (3, .int x3), (4, .int x4)] [] (K104 a0 x2 x3 x4 h)) (a0 : Nat) (x2 : Int32) (x3 : Int32) (x4 : Int32) (rs0 : Option Nat) (xs1 : Int32) (h : AH) : X_M_commit p l e k1 k2 s m args below meth c B n0 m0 h 171 [(0, .ref a0), (2, .int x2), (3, .int x3), (4, .int x4)] [.int xs1, va_rf rs0] (f_M_commit_b171 K104 a0 x2 x3 x4 rs0 xs1 h) := by
  unfold f_M_commit_b171
  refine x_go (pc' := 172) (st' := [.int (0 : Int32), .int xs1, va_rf rs0]) (fun hC _ _ _ _ _ _ hl k => lv_iconst (v := 0) hC.1 hC.2.1 d_M_commit_171 (by decide) k) ?_
  refine x_zast (t := 1) rfl (r := rs0) (i := xs1) (x := (0 : Int32)) d_M_commit_172 (fun h1001 => ?_)
  refine x_lift (pc' := 176) (st' := []) (lv' := [(4, .int (x4 + 1)), (0, .ref a0), (2, .int x2), (3, .int x3)]) (fun hC _ _ _ _ _ _ hl k => lv_iinc (v := (x4 + 1)) hC.1 hC.2.1 d_M_commit_173 hl (k := 3) rfl rfl (by decide) rfl k) ?_
  refine x_go (pc' := 104) (st' := []) (fun hC _ _ _ _ _ _ hl k => lv_goto (tgt := 104) hC.1 hC.2.1 d_M_commit_176 (by decide) k) ?_
  exact x_sub (lv' := [(0, .ref a0), (2, .int x2), (3, .int x3), (4, .int (x4 + 1))]) [1, 2, 3, 0] rfl (hK104 a0 x2 x3 (x4 + 1) h1001)
set_option maxHeartbeats 4000000 in
set_option maxRecDepth 100000 in
theorem x_M_commit_b104 {p : Program} {l : Launch} {e : Env} {k1 k2 : Nat} {s : State} {m : MethodId} {args : Array Value} {below : List Frame} {meth : Method} {c : Code} {B : AB} {n0 m0 : Nat} (K73 : Nat → Int32 → Int32 → AH → Option (Int32 × AH)) (hK73 : ∀ (a0 : Nat) (x2 : Int32) (x3 : Int32) (h : AH), X_M_commit p l e k1 k2 s m args below meth c B n0 m0 h 73 [(0, .ref a0), (2, .int x2), (3, .int x3)] [] (K73 a0 x2 x3 h)) : ∀ (n : Nat) (a0 : Nat) (x2 : Int32) (x3 : Int32) (x4 : Int32) (h : AH), X_M_commit p l e k1 k2 s m args below meth c B n0 m0 h 104 [(0, .ref a0), (2, .int x2), (3, .int x3), (4, .int x4)] [] (f_M_commit_b104 K73 n a0 x2 x3 x4 h) := by
  intro n
  induction n with
  | zero => intro a0 x2 x3 x4 h; exact x_none
  | succ n ih =>
    intro a0 x2 x3 x4 h
    rw [f_M_commit_b104]
    refine x_go (pc' := 106) (st' := [.int x4]) (fun hC _ _ _ _ _ _ hl k => lv_iload hC.1 hC.2.1 d_M_commit_104 (lv_at hl 3 rfl) k) ?_
    refine x_go (pc' := 107) (st' := [.ref a0, .int x4]) (fun hC _ _ _ _ _ _ hl k => lv_aload_n hC.1 hC.2.1 d_M_commit_106 rfl (lv_at hl 0 rfl) k) ?_
    refine x_getI (ci := 4) (kf := 2) (r := (some a0)) (fun hC => w_get hC iw_4 rfl 2 (by decide) tw_316 rfl d_M_commit_107) (fun x1001 => ?_)
    refine x_if (P := x1001 ≤ x4) (pt := 179) (pf := 113) (st' := []) (fun hC _ _ _ _ _ _ kt kf => lv_icmp_ge (tgt := 179) hC.1 hC.2.1 d_M_commit_110 (by decide) kt kf) ?_ ?_
    · refine x_lift (pc' := 182) (st' := []) (lv' := [(3, .int (x3 + 1)), (0, .ref a0), (2, .int x2), (4, .int x4)]) (fun hC _ _ _ _ _ _ hl k => lv_iinc (v := (x3 + 1)) hC.1 hC.2.1 d_M_commit_179 hl (k := 2) rfl rfl (by decide) rfl k) ?_
      refine x_go (pc' := 73) (st' := []) (fun hC _ _ _ _ _ _ hl k => lv_goto (tgt := 73) hC.1 hC.2.1 d_M_commit_182 (by decide) k) ?_
      exact x_sub (lv' := [(0, .ref a0), (2, .int x2), (3, .int (x3 + 1))]) [1, 2, 0] rfl (hK73 a0 x2 (x3 + 1) h)
    · refine x_go (pc' := 114) (st' := [.ref a0]) (fun hC _ _ _ _ _ _ hl k => lv_aload_n hC.1 hC.2.1 d_M_commit_113 rfl (lv_at hl 0 rfl) k) ?_
      refine x_getR (ci := 4) (kf := 6) (r := (some a0)) (fun hC => w_get hC iw_4 rfl 6 (by decide) tw_320 rfl d_M_commit_114) (fun r1002 => ?_)
      refine x_go (pc' := 118) (st' := [.int x3, va_rf r1002]) (fun hC _ _ _ _ _ _ hl k => lv_iload_n hC.1 hC.2.1 d_M_commit_117 rfl (lv_at hl 2 rfl) k) ?_
      refine x_iald (t := 4) rfl (r := r1002) (i := x3) d_M_commit_118 (fun x1003 => ?_)
      refine x_if (P := x1003 = 0) (pt := 122) (pf := 179) (st' := []) (fun hC _ _ _ _ _ _ kt kf => lv_if_ne (tgt := 179) hC.1 hC.2.1 d_M_commit_119 (by decide) kf kt) ?_ ?_
      · refine x_go (pc' := 123) (st' := [.ref a0]) (fun hC _ _ _ _ _ _ hl k => lv_aload_n hC.1 hC.2.1 d_M_commit_122 rfl (lv_at hl 0 rfl) k) ?_
        refine x_getR (ci := 4) (kf := 7) (r := (some a0)) (fun hC => w_get hC iw_4 rfl 7 (by decide) tw_321 rfl d_M_commit_123) (fun r1004 => ?_)
        refine x_go (pc' := 127) (st' := [.int x3, va_rf r1004]) (fun hC _ _ _ _ _ _ hl k => lv_iload_n hC.1 hC.2.1 d_M_commit_126 rfl (lv_at hl 2 rfl) k) ?_
        refine x_go (pc' := 128) (st' := [.ref a0, .int x3, va_rf r1004]) (fun hC _ _ _ _ _ _ hl k => lv_aload_n hC.1 hC.2.1 d_M_commit_127 rfl (lv_at hl 0 rfl) k) ?_
        refine x_getR (ci := 4) (kf := 7) (r := (some a0)) (fun hC => w_get hC iw_4 rfl 7 (by decide) tw_321 rfl d_M_commit_128) (fun r1005 => ?_)
        refine x_go (pc' := 132) (st' := [.int x3, va_rf r1005, .int x3, va_rf r1004]) (fun hC _ _ _ _ _ _ hl k => lv_iload_n hC.1 hC.2.1 d_M_commit_131 rfl (lv_at hl 2 rfl) k) ?_
        refine x_zald (t := 1) rfl (r := r1005) (i := x3) d_M_commit_132 (fun x1006 => ?_)
        refine x_if (P := x1006 = 0) (pt := 136) (pf := 167) (st' := [.int x3, va_rf r1004]) (fun hC _ _ _ _ _ _ kt kf => lv_if_ne (tgt := 167) hC.1 hC.2.1 d_M_commit_133 (by decide) kf kt) ?_ ?_
        · refine x_go (pc' := 137) (st' := [.ref a0, .int x3, va_rf r1004]) (fun hC _ _ _ _ _ _ hl k => lv_aload_n hC.1 hC.2.1 d_M_commit_136 rfl (lv_at hl 0 rfl) k) ?_
          refine x_getR (ci := 4) (kf := 9) (r := (some a0)) (fun hC => w_get hC iw_4 rfl 9 (by decide) tw_323 rfl d_M_commit_137) (fun r1007 => ?_)
          refine x_go (pc' := 142) (st' := [.int (64 : Int32), va_rf r1007, .int x3, va_rf r1004]) (fun hC _ _ _ _ _ _ hl k => lv_bipush (v := 64) hC.1 hC.2.1 d_M_commit_140 (by decide) k) ?_
          refine x_go (pc' := 144) (st' := [.int x4, .int (64 : Int32), va_rf r1007, .int x3, va_rf r1004]) (fun hC _ _ _ _ _ _ hl k => lv_iload hC.1 hC.2.1 d_M_commit_142 (lv_at hl 3 rfl) k) ?_
          refine x_go (pc' := 145) (st' := [.int ((64 : Int32) * x4), va_rf r1007, .int x3, va_rf r1004]) (fun hC _ _ _ _ _ _ hl k => lv_imul hC.1 hC.2.1 d_M_commit_144 k) ?_
          refine x_go (pc' := 146) (st' := [.int x3, .int ((64 : Int32) * x4), va_rf r1007, .int x3, va_rf r1004]) (fun hC _ _ _ _ _ _ hl k => lv_iload_n hC.1 hC.2.1 d_M_commit_145 rfl (lv_at hl 2 rfl) k) ?_
          refine x_go (pc' := 147) (st' := [.int (((64 : Int32) * x4) + x3), va_rf r1007, .int x3, va_rf r1004]) (fun hC _ _ _ _ _ _ hl k => lv_iadd hC.1 hC.2.1 d_M_commit_146 k) ?_
          refine x_zald (t := 1) rfl (r := r1007) (i := (((64 : Int32) * x4) + x3)) d_M_commit_147 (fun x1008 => ?_)
          refine x_if (P := x1008 = 0) (pt := 171) (pf := 151) (st' := [.int x3, va_rf r1004]) (fun hC _ _ _ _ _ _ kt kf => lv_if_eq (tgt := 171) hC.1 hC.2.1 d_M_commit_148 (by decide) kt kf) ?_ ?_
          · exact x_sub (lv' := [(0, .ref a0), (2, .int x2), (3, .int x3), (4, .int x4)]) [0, 1, 2, 3] rfl (x_M_commit_b171 (f_M_commit_b104 K73 n) ih a0 x2 x3 x4 r1004 x3 h)
          · refine x_go (pc' := 152) (st' := [.ref a0, .int x3, va_rf r1004]) (fun hC _ _ _ _ _ _ hl k => lv_aload_n hC.1 hC.2.1 d_M_commit_151 rfl (lv_at hl 0 rfl) k) ?_
            refine x_getR (ci := 4) (kf := 6) (r := (some a0)) (fun hC => w_get hC iw_4 rfl 6 (by decide) tw_320 rfl d_M_commit_152) (fun r1009 => ?_)
            refine x_go (pc' := 157) (st' := [.int x4, va_rf r1009, .int x3, va_rf r1004]) (fun hC _ _ _ _ _ _ hl k => lv_iload hC.1 hC.2.1 d_M_commit_155 (lv_at hl 3 rfl) k) ?_
            refine x_iald (t := 4) rfl (r := r1009) (i := x4) d_M_commit_157 (fun x1010 => ?_)
            refine x_if (P := x1010 = 0) (pt := 167) (pf := 161) (st' := [.int x3, va_rf r1004]) (fun hC _ _ _ _ _ _ kt kf => lv_if_eq (tgt := 167) hC.1 hC.2.1 d_M_commit_158 (by decide) kt kf) ?_ ?_
            · exact x_sub (lv' := [(0, .ref a0), (2, .int x2), (3, .int x3), (4, .int x4)]) [0, 1, 2, 3] rfl (x_M_commit_b167 (f_M_commit_b104 K73 n) ih a0 x2 x3 x4 r1004 x3 h)
            · refine x_go (pc' := 163) (st' := [.int x4, .int x3, va_rf r1004]) (fun hC _ _ _ _ _ _ hl k => lv_iload hC.1 hC.2.1 d_M_commit_161 (lv_at hl 3 rfl) k) ?_
              refine x_go (pc' := 164) (st' := [.int x2, .int x4, .int x3, va_rf r1004]) (fun hC _ _ _ _ _ _ hl k => lv_iload_n hC.1 hC.2.1 d_M_commit_163 rfl (lv_at hl 1 rfl) k) ?_
              refine x_if (P := x4 = x2) (pt := 167) (pf := 171) (st' := [.int x3, va_rf r1004]) (fun hC _ _ _ _ _ _ kt kf => lv_icmp_ne (tgt := 171) hC.1 hC.2.1 d_M_commit_164 (by decide) kf kt) ?_ ?_
              · exact x_sub (lv' := [(0, .ref a0), (2, .int x2), (3, .int x3), (4, .int x4)]) [0, 1, 2, 3] rfl (x_M_commit_b167 (f_M_commit_b104 K73 n) ih a0 x2 x3 x4 r1004 x3 h)
              · exact x_sub (lv' := [(0, .ref a0), (2, .int x2), (3, .int x3), (4, .int x4)]) [0, 1, 2, 3] rfl (x_M_commit_b171 (f_M_commit_b104 K73 n) ih a0 x2 x3 x4 r1004 x3 h)
        · exact x_sub (lv' := [(0, .ref a0), (2, .int x2), (3, .int x3), (4, .int x4)]) [0, 1, 2, 3] rfl (x_M_commit_b167 (f_M_commit_b104 K73 n) ih a0 x2 x3 x4 r1004 x3 h)
      · refine x_lift (pc' := 182) (st' := []) (lv' := [(3, .int (x3 + 1)), (0, .ref a0), (2, .int x2), (4, .int x4)]) (fun hC _ _ _ _ _ _ hl k => lv_iinc (v := (x3 + 1)) hC.1 hC.2.1 d_M_commit_179 hl (k := 2) rfl rfl (by decide) rfl k) ?_
        refine x_go (pc' := 73) (st' := []) (fun hC _ _ _ _ _ _ hl k => lv_goto (tgt := 73) hC.1 hC.2.1 d_M_commit_182 (by decide) k) ?_
        exact x_sub (lv' := [(0, .ref a0), (2, .int x2), (3, .int (x3 + 1))]) [1, 2, 0] rfl (hK73 a0 x2 (x3 + 1) h)
set_option maxHeartbeats 4000000 in
set_option maxRecDepth 100000 in
theorem x_M_commit_b73 {p : Program} {l : Launch} {e : Env} {k1 k2 : Nat} {s : State} {m : MethodId} {args : Array Value} {below : List Frame} {meth : Method} {c : Code} {B : AB} {n0 m0 : Nat} : ∀ (n : Nat) (a0 : Nat) (x2 : Int32) (x3 : Int32) (h : AH), X_M_commit p l e k1 k2 s m args below meth c B n0 m0 h 73 [(0, .ref a0), (2, .int x2), (3, .int x3)] [] (f_M_commit_b73 n a0 x2 x3 h) := by
  intro n
  induction n with
  | zero => intro a0 x2 x3 h; exact x_none
  | succ n ih =>
    intro a0 x2 x3 h
    rw [f_M_commit_b73]
    refine x_go (pc' := 74) (st' := [.int x3]) (fun hC _ _ _ _ _ _ hl k => lv_iload_n hC.1 hC.2.1 d_M_commit_73 rfl (lv_at hl 2 rfl) k) ?_
    refine x_go (pc' := 75) (st' := [.ref a0, .int x3]) (fun hC _ _ _ _ _ _ hl k => lv_aload_n hC.1 hC.2.1 d_M_commit_74 rfl (lv_at hl 0 rfl) k) ?_
    refine x_getI (ci := 4) (kf := 2) (r := (some a0)) (fun hC => w_get hC iw_4 rfl 2 (by decide) tw_316 rfl d_M_commit_75) (fun x1001 => ?_)
    refine x_if (P := x1001 ≤ x3) (pt := 185) (pf := 81) (st' := []) (fun hC _ _ _ _ _ _ kt kf => lv_icmp_ge (tgt := 185) hC.1 hC.2.1 d_M_commit_78 (by decide) kt kf) ?_ ?_
    · refine x_go (pc' := 186) (st' := [.ref a0]) (fun hC _ _ _ _ _ _ hl k => lv_aload_n hC.1 hC.2.1 d_M_commit_185 rfl (lv_at hl 0 rfl) k) ?_
      refine x_recv (ci := 4) (r := (some a0)) (fun b1003 _ eb1003 gb1003 => ?_)
      refine x_callU (rest := []) (c_M_forget l B b1003 h) (fun hC => fun e1 e2 e3 e4 hM => fun hR hsz hc hs => run_V (n := 0) hC lw_good rfl rfl tw_445 tw_447 tv_23 tw_3 tw_448 (by decide) d_M_commit_186 gb1003 (by rw [e1]; exact Nat.le_of_ble_eq_true rfl) (by rw [e2]; exact Nat.le_of_ble_eq_true rfl) e3 e4 hM hR hsz hc hs rfl (by cases eb1003; rfl) (Nat.le_of_ble_eq_true rfl)) (fun h1002 => ?_)
      refine x_go (pc' := 190) (st' := [.ref a0]) (fun hC _ _ _ _ _ _ hl k => lv_aload_n hC.1 hC.2.1 d_M_commit_189 rfl (lv_at hl 0 rfl) k) ?_
      refine x_getI (ci := 4) (kf := 1) (r := (some a0)) (fun hC => w_get hC iw_4 rfl 1 (by decide) tw_315 rfl d_M_commit_190) (fun x1004 => ?_)
      exact x_iret d_M_commit_193
    · refine x_go (pc' := 82) (st' := [.ref a0]) (fun hC _ _ _ _ _ _ hl k => lv_aload_n hC.1 hC.2.1 d_M_commit_81 rfl (lv_at hl 0 rfl) k) ?_
      refine x_getR (ci := 4) (kf := 9) (r := (some a0)) (fun hC => w_get hC iw_4 rfl 9 (by decide) tw_323 rfl d_M_commit_82) (fun r1005 => ?_)
      refine x_go (pc' := 87) (st' := [.int (64 : Int32), va_rf r1005]) (fun hC _ _ _ _ _ _ hl k => lv_bipush (v := 64) hC.1 hC.2.1 d_M_commit_85 (by decide) k) ?_
      refine x_go (pc' := 88) (st' := [.int x3, .int (64 : Int32), va_rf r1005]) (fun hC _ _ _ _ _ _ hl k => lv_iload_n hC.1 hC.2.1 d_M_commit_87 rfl (lv_at hl 2 rfl) k) ?_
      refine x_go (pc' := 89) (st' := [.int ((64 : Int32) * x3), va_rf r1005]) (fun hC _ _ _ _ _ _ hl k => lv_imul hC.1 hC.2.1 d_M_commit_88 k) ?_
      refine x_go (pc' := 90) (st' := [.int x2, .int ((64 : Int32) * x3), va_rf r1005]) (fun hC _ _ _ _ _ _ hl k => lv_iload_n hC.1 hC.2.1 d_M_commit_89 rfl (lv_at hl 1 rfl) k) ?_
      refine x_go (pc' := 91) (st' := [.int (((64 : Int32) * x3) + x2), va_rf r1005]) (fun hC _ _ _ _ _ _ hl k => lv_iadd hC.1 hC.2.1 d_M_commit_90 k) ?_
      refine x_zald (t := 1) rfl (r := r1005) (i := (((64 : Int32) * x3) + x2)) d_M_commit_91 (fun x1006 => ?_)
      refine x_if (P := x1006 = 0) (pt := 179) (pf := 95) (st' := []) (fun hC _ _ _ _ _ _ kt kf => lv_if_eq (tgt := 179) hC.1 hC.2.1 d_M_commit_92 (by decide) kt kf) ?_ ?_
      · refine x_lift (pc' := 182) (st' := []) (lv' := [(3, .int (x3 + 1)), (0, .ref a0), (2, .int x2)]) (fun hC _ _ _ _ _ _ hl k => lv_iinc (v := (x3 + 1)) hC.1 hC.2.1 d_M_commit_179 hl (k := 2) rfl rfl (by decide) rfl k) ?_
        refine x_go (pc' := 73) (st' := []) (fun hC _ _ _ _ _ _ hl k => lv_goto (tgt := 73) hC.1 hC.2.1 d_M_commit_182 (by decide) k) ?_
        exact x_sub (lv' := [(0, .ref a0), (2, .int x2), (3, .int (x3 + 1))]) [1, 2, 0] rfl (ih a0 x2 (x3 + 1) h)
      · refine x_go (pc' := 96) (st' := [.ref a0]) (fun hC _ _ _ _ _ _ hl k => lv_aload_n hC.1 hC.2.1 d_M_commit_95 rfl (lv_at hl 0 rfl) k) ?_
        refine x_go (pc' := 97) (st' := [.int x3, .ref a0]) (fun hC _ _ _ _ _ _ hl k => lv_iload_n hC.1 hC.2.1 d_M_commit_96 rfl (lv_at hl 2 rfl) k) ?_
        refine x_go (pc' := 98) (st' := [.int x2, .int x3, .ref a0]) (fun hC _ _ _ _ _ _ hl k => lv_iload_n hC.1 hC.2.1 d_M_commit_97 rfl (lv_at hl 1 rfl) k) ?_
        refine x_recv (ci := 4) (r := (some a0)) (fun b1008 _ eb1008 gb1008 => ?_)
        refine x_callU (rest := []) (c_M_point l B b1008 x3 x2 h) (fun hC => fun e1 e2 e3 e4 hM => fun hR hsz hc hs => run_V (n := 2) hC lw_good rfl rfl tw_425 tw_427 tv_20 tw_3 tw_428 (by decide) d_M_commit_98 gb1008 (by rw [e1]; exact Nat.le_of_ble_eq_true rfl) (by rw [e2]; exact Nat.le_of_ble_eq_true rfl) e3 e4 hM hR hsz hc hs rfl (by cases eb1008; rfl) (Nat.le_of_ble_eq_true rfl)) (fun h1007 => ?_)
        refine x_go (pc' := 102) (st' := [.int (0 : Int32)]) (fun hC _ _ _ _ _ _ hl k => lv_iconst (v := 0) hC.1 hC.2.1 d_M_commit_101 (by decide) k) ?_
        refine x_lift (pc' := 104) (st' := []) (lv' := [(4, .int (0 : Int32)), (0, .ref a0), (2, .int x2), (3, .int x3)]) (fun hC _ _ _ _ _ _ hl k => lv_istore (i := 4) hC.1 hC.2.1 d_M_commit_102 hl (by decide) rfl k) ?_
        exact x_sub (lv' := [(0, .ref a0), (2, .int x2), (3, .int x3), (4, .int (0 : Int32))]) [1, 2, 3, 0] rfl (x_M_commit_b104 (f_M_commit_b73 n) ih 2000 a0 x2 x3 (0 : Int32) h1007)
set_option maxHeartbeats 4000000 in
set_option maxRecDepth 100000 in
theorem c_M_commit (l : Launch) (B : AB) (a0 : Nat) (x1 : Int32) (h : AH) : CT l B y_M_commit (Cond.code y_M_commit b_M_commit 5 (Option.some Jvm.ClassFile.FieldType.int) :: lw_tt) 4 96 eI [.ref a0, .int x1] h (f_M_commit a0 x1 h) := by
  refine ct_of (own := o_M) (nm := "commit") (by decide +kernel) rfl rfl (Nat.le_of_ble_eq_true rfl) (fun p e k1 k2 s m args below meth c => ?_)
  refine x_sub (lv' := [(0, .ref a0), (1, .int x1)]) [0, 1] rfl ?_
  unfold f_M_commit
  refine x_go (pc' := 1) (st' := [.ref a0]) (fun hC _ _ _ _ _ _ hl k => lv_aload_n hC.1 hC.2.1 d_M_commit_0 rfl (lv_at hl 0 rfl) k) ?_
  refine x_go (pc' := 2) (st' := [.int x1, .ref a0]) (fun hC _ _ _ _ _ _ hl k => lv_iload_n hC.1 hC.2.1 d_M_commit_1 rfl (lv_at hl 1 rfl) k) ?_
  refine x_recv (ci := 4) (r := (some a0)) (fun b103 _ eb103 gb103 => ?_)
  refine x_callI (rest := []) (c_M_running l B b103 x1 h) (fun hC => fun e1 e2 e3 e4 hM => fun hR hsz hc hs => run_V (n := 1) hC lw_good rfl rfl tw_385 tw_387 tv_14 tw_3 tw_388 (by decide) d_M_commit_2 gb103 (by rw [e1]; exact Nat.le_of_ble_eq_true rfl) (by rw [e2]; exact Nat.le_of_ble_eq_true rfl) e3 e4 hM hR hsz hc hs rfl (by cases eb103; rfl) (Nat.le_of_ble_eq_true rfl)) (fun x102 h101 => ?_)
  refine x_lift (pc' := 6) (st' := []) (lv' := [(2, .int x102), (0, .ref a0), (1, .int x1)]) (fun hC _ _ _ _ _ _ hl k => lv_istore_n (i := 2) hC.1 hC.2.1 d_M_commit_5 rfl hl (by decide) rfl k) ?_
  refine x_go (pc' := 7) (st' := [.int x102]) (fun hC _ _ _ _ _ _ hl k => lv_iload_n hC.1 hC.2.1 d_M_commit_6 rfl (lv_at hl 0 rfl) k) ?_
  refine x_if (P := x102 < 0) (pt := 19) (pf := 10) (st' := []) (fun hC _ _ _ _ _ _ kt kf => lv_if_lt (tgt := 19) hC.1 hC.2.1 d_M_commit_7 (by decide) kt kf) ?_ ?_
  · exact x_sub (lv' := [(2, .int x102)]) [0] rfl (x_M_commit_b19 x102 h101)
  · refine x_go (pc' := 11) (st' := [.ref a0]) (fun hC _ _ _ _ _ _ hl k => lv_aload_n hC.1 hC.2.1 d_M_commit_10 rfl (lv_at hl 1 rfl) k) ?_
    refine x_getR (ci := 4) (kf := 7) (r := (some a0)) (fun hC => w_get hC iw_4 rfl 7 (by decide) tw_321 rfl d_M_commit_11) (fun r104 => ?_)
    refine x_go (pc' := 15) (st' := [.int x102, va_rf r104]) (fun hC _ _ _ _ _ _ hl k => lv_iload_n hC.1 hC.2.1 d_M_commit_14 rfl (lv_at hl 0 rfl) k) ?_
    refine x_zald (t := 1) rfl (r := r104) (i := x102) d_M_commit_15 (fun x105 => ?_)
    refine x_if (P := x105 = 0) (pt := 29) (pf := 19) (st' := []) (fun hC _ _ _ _ _ _ kt kf => lv_if_eq (tgt := 29) hC.1 hC.2.1 d_M_commit_16 (by decide) kt kf) ?_ ?_
    · refine x_go (pc' := 30) (st' := [.ref a0]) (fun hC _ _ _ _ _ _ hl k => lv_aload_n hC.1 hC.2.1 d_M_commit_29 rfl (lv_at hl 1 rfl) k) ?_
      refine x_go (pc' := 31) (st' := [.ref a0, .ref a0]) (fun hC _ _ _ _ _ _ hl k => lv_dup hC.1 hC.2.1 d_M_commit_30 rfl k) ?_
      refine x_getI (ci := 4) (kf := 1) (r := (some a0)) (fun hC => w_get hC iw_4 rfl 1 (by decide) tw_315 rfl d_M_commit_31) (fun x106 => ?_)
      refine x_go (pc' := 35) (st' := [.int (1 : Int32), .int x106, .ref a0]) (fun hC _ _ _ _ _ _ hl k => lv_iconst (v := 1) hC.1 hC.2.1 d_M_commit_34 (by decide) k) ?_
      refine x_go (pc' := 36) (st' := [.int (x106 + (1 : Int32)), .ref a0]) (fun hC _ _ _ _ _ _ hl k => lv_iadd hC.1 hC.2.1 d_M_commit_35 k) ?_
      refine x_putF (ci := 4) (kf := 1) (r := (some a0)) (v := .int (x106 + (1 : Int32))) (fun hC => w_put (ty := .int) hC iw_4 ft_4 ft_4_ok fn_4 rfl 1 (by decide) tw_315 rfl rfl (by decide +kernel) rfl rfl d_M_commit_36) (fun h107 => ?_)
      refine x_go (pc' := 40) (st' := [.ref a0]) (fun hC _ _ _ _ _ _ hl k => lv_aload_n hC.1 hC.2.1 d_M_commit_39 rfl (lv_at hl 1 rfl) k) ?_
      refine x_getR (ci := 4) (kf := 6) (r := (some a0)) (fun hC => w_get hC iw_4 rfl 6 (by decide) tw_320 rfl d_M_commit_40) (fun r108 => ?_)
      refine x_go (pc' := 44) (st' := [.int x102, va_rf r108]) (fun hC _ _ _ _ _ _ hl k => lv_iload_n hC.1 hC.2.1 d_M_commit_43 rfl (lv_at hl 0 rfl) k) ?_
      refine x_go (pc' := 45) (st' := [.ref a0, .int x102, va_rf r108]) (fun hC _ _ _ _ _ _ hl k => lv_aload_n hC.1 hC.2.1 d_M_commit_44 rfl (lv_at hl 1 rfl) k) ?_
      refine x_getI (ci := 4) (kf := 1) (r := (some a0)) (fun hC => w_get hC iw_4 rfl 1 (by decide) tw_315 rfl d_M_commit_45) (fun x109 => ?_)
      refine x_iast (t := 4) rfl (r := r108) (i := x102) (x := x109) d_M_commit_48 (fun h110 => ?_)
      refine x_go (pc' := 50) (st' := [.ref a0]) (fun hC _ _ _ _ _ _ hl k => lv_aload_n hC.1 hC.2.1 d_M_commit_49 rfl (lv_at hl 1 rfl) k) ?_
      refine x_getR (ci := 4) (kf := 16) (r := (some a0)) (fun hC => w_get hC iw_4 rfl 16 (by decide) tw_330 rfl d_M_commit_50) (fun r111 => ?_)
      refine x_go (pc' := 54) (st' := [.ref a0, va_rf r111]) (fun hC _ _ _ _ _ _ hl k => lv_aload_n hC.1 hC.2.1 d_M_commit_53 rfl (lv_at hl 1 rfl) k) ?_
      refine x_getR (ci := 4) (kf := 3) (r := (some a0)) (fun hC => w_get hC iw_4 rfl 3 (by decide) tw_317 rfl d_M_commit_54) (fun r112 => ?_)
      refine x_go (pc' := 58) (st' := [.int x102, va_rf r112, va_rf r111]) (fun hC _ _ _ _ _ _ hl k => lv_iload_n hC.1 hC.2.1 d_M_commit_57 rfl (lv_at hl 0 rfl) k) ?_
      refine x_iald (t := 4) rfl (r := r112) (i := x102) d_M_commit_58 (fun x113 => ?_)
      refine x_go (pc' := 60) (st' := [.ref a0, .int x113, va_rf r111]) (fun hC _ _ _ _ _ _ hl k => lv_aload_n hC.1 hC.2.1 d_M_commit_59 rfl (lv_at hl 1 rfl) k) ?_
      refine x_getI (ci := 4) (kf := 1) (r := (some a0)) (fun hC => w_get hC iw_4 rfl 1 (by decide) tw_315 rfl d_M_commit_60) (fun x114 => ?_)
      refine x_iast (t := 4) rfl (r := r111) (i := x113) (x := x114) d_M_commit_63 (fun h115 => ?_)
      refine x_go (pc' := 65) (st' := [.ref a0]) (fun hC _ _ _ _ _ _ hl k => lv_aload_n hC.1 hC.2.1 d_M_commit_64 rfl (lv_at hl 1 rfl) k) ?_
      refine x_getR (ci := 4) (kf := 4) (r := (some a0)) (fun hC => w_get hC iw_4 rfl 4 (by decide) tw_318 rfl d_M_commit_65) (fun r116 => ?_)
      refine x_go (pc' := 69) (st' := [.int x102, va_rf r116]) (fun hC _ _ _ _ _ _ hl k => lv_iload_n hC.1 hC.2.1 d_M_commit_68 rfl (lv_at hl 0 rfl) k) ?_
      refine x_go (pc' := 70) (st' := [.int (-1 : Int32), .int x102, va_rf r116]) (fun hC _ _ _ _ _ _ hl k => lv_iconst (v := -1) hC.1 hC.2.1 d_M_commit_69 (by decide) k) ?_
      refine x_iast (t := 4) rfl (r := r116) (i := x102) (x := (-1 : Int32)) d_M_commit_70 (fun h117 => ?_)
      refine x_go (pc' := 72) (st' := [.int (0 : Int32)]) (fun hC _ _ _ _ _ _ hl k => lv_iconst (v := 0) hC.1 hC.2.1 d_M_commit_71 (by decide) k) ?_
      refine x_lift (pc' := 73) (st' := []) (lv' := [(3, .int (0 : Int32)), (2, .int x102), (0, .ref a0), (1, .int x1)]) (fun hC _ _ _ _ _ _ hl k => lv_istore_n (i := 3) hC.1 hC.2.1 d_M_commit_72 rfl hl (by decide) rfl k) ?_
      exact x_sub (lv' := [(0, .ref a0), (2, .int x102), (3, .int (0 : Int32))]) [2, 1, 0] rfl (x_M_commit_b73 2000 a0 x102 (0 : Int32) h117)
    · exact x_sub (lv' := [(2, .int x102)]) [0] rfl (x_M_commit_b19 x102 h101)
/-! SerialDeskModel.abort(I)Z -/
theorem d_M_abort_0 : decode b_M_abort 0 = .ok (.aload_n 0, 1) := by decide +kernel
theorem d_M_abort_1 : decode b_M_abort 1 = .ok (.iload_n 1, 1) := by decide +kernel
theorem d_M_abort_2 : decode b_M_abort 2 = .ok (.invokevirtual 73, 3) := by decide +kernel
theorem d_M_abort_5 : decode b_M_abort 5 = .ok (.istore_n 2, 1) := by decide +kernel
theorem d_M_abort_6 : decode b_M_abort 6 = .ok (.iload_n 2, 1) := by decide +kernel
theorem d_M_abort_7 : decode b_M_abort 7 = .ok (.ifCond .ge 5, 3) := by decide +kernel
theorem d_M_abort_10 : decode b_M_abort 10 = .ok (.iconst 0, 1) := by decide +kernel
theorem d_M_abort_11 : decode b_M_abort 11 = .ok (.ireturn, 1) := by decide +kernel
theorem d_M_abort_12 : decode b_M_abort 12 = .ok (.aload_n 0, 1) := by decide +kernel
theorem d_M_abort_13 : decode b_M_abort 13 = .ok (.iload_n 2, 1) := by decide +kernel
theorem d_M_abort_14 : decode b_M_abort 14 = .ok (.invokevirtual 115, 3) := by decide +kernel
theorem d_M_abort_17 : decode b_M_abort 17 = .ok (.aload_n 0, 1) := by decide +kernel
theorem d_M_abort_18 : decode b_M_abort 18 = .ok (.invokevirtual 119, 3) := by decide +kernel
theorem d_M_abort_21 : decode b_M_abort 21 = .ok (.iconst 1, 1) := by decide +kernel
theorem d_M_abort_22 : decode b_M_abort 22 = .ok (.ireturn, 1) := by decide +kernel
abbrev X_M_abort (p : Program) (l : Launch) (e : Env) (k1 k2 : Nat) (s : State) (m : MethodId) (args : Array Value) (below : List Frame) (meth : Method) (c : Code) (B : AB) (n0 m0 : Nat) (h : AH) (pc : Nat) (lv : List (Nat × Value)) (st : List Value) (comp : Option (Int32 × AH)) : Prop := XX p l e { frames := 4, cells := k1, slots := k2, locals := 96 } s m args below meth c b_M_abort o_M lw_tt 3 (Option.some Jvm.ClassFile.FieldType.boolean) "abort" B n0 m0 (QM B below args s { frames := 4, cells := k1, slots := k2, locals := 96 } eI) h pc lv st comp
def f_M_abort (a0 : Nat) (x1 : Int32) (h : AH) : Option (Int32 × AH) := rcv h 4 (some a0) (fun b103 => bnd (f_M_running b103 x1 h) (fun x102 h101 => (if 0 ≤ x102 then rcv h101 4 (some a0) (fun b105 => bndU (f_M_drop b105 x102 h101) (fun h104 => rcv h104 4 (some a0) (fun b107 => bndU (f_M_forget b107 h104) (fun h106 => rZ (1 : Int32) h106)))) else rZ (0 : Int32) h101)))
set_option maxHeartbeats 4000000 in
set_option maxRecDepth 100000 in
theorem c_M_abort (l : Launch) (B : AB) (a0 : Nat) (x1 : Int32) (h : AH) : CT l B y_M_abort (Cond.code y_M_abort b_M_abort 3 (Option.some Jvm.ClassFile.FieldType.boolean) :: lw_tt) 4 96 eI [.ref a0, .int x1] h (f_M_abort a0 x1 h) := by
  refine ct_of (own := o_M) (nm := "abort") (by decide +kernel) rfl rfl (Nat.le_of_ble_eq_true rfl) (fun p e k1 k2 s m args below meth c => ?_)
  refine x_sub (lv' := [(0, .ref a0), (1, .int x1)]) [0, 1] rfl ?_
  unfold f_M_abort
  refine x_go (pc' := 1) (st' := [.ref a0]) (fun hC _ _ _ _ _ _ hl k => lv_aload_n hC.1 hC.2.1 d_M_abort_0 rfl (lv_at hl 0 rfl) k) ?_
  refine x_go (pc' := 2) (st' := [.int x1, .ref a0]) (fun hC _ _ _ _ _ _ hl k => lv_iload_n hC.1 hC.2.1 d_M_abort_1 rfl (lv_at hl 1 rfl) k) ?_
  refine x_recv (ci := 4) (r := (some a0)) (fun b103 _ eb103 gb103 => ?_)
  refine x_callI (rest := []) (c_M_running l B b103 x1 h) (fun hC => fun e1 e2 e3 e4 hM => fun hR hsz hc hs => run_V (n := 1) hC lw_good rfl rfl tw_385 tw_387 tv_14 tw_3 tw_388 (by decide) d_M_abort_2 gb103 (by rw [e1]; exact Nat.le_of_ble_eq_true rfl) (by rw [e2]; exact Nat.le_of_ble_eq_true rfl) e3 e4 hM hR hsz hc hs rfl (by cases eb103; rfl) (Nat.le_of_ble_eq_true rfl)) (fun x102 h101 => ?_)
  refine x_lift (pc' := 6) (st' := []) (lv' := [(2, .int x102), (0, .ref a0), (1, .int x1)]) (fun hC _ _ _ _ _ _ hl k => lv_istore_n (i := 2) hC.1 hC.2.1 d_M_abort_5 rfl hl (by decide) rfl k) ?_
  refine x_go (pc' := 7) (st' := [.int x102]) (fun hC _ _ _ _ _ _ hl k => lv_iload_n hC.1 hC.2.1 d_M_abort_6 rfl (lv_at hl 0 rfl) k) ?_
  refine x_if (P := 0 ≤ x102) (pt := 12) (pf := 10) (st' := []) (fun hC _ _ _ _ _ _ kt kf => lv_if_ge (tgt := 12) hC.1 hC.2.1 d_M_abort_7 (by decide) kt kf) ?_ ?_
  · refine x_go (pc' := 13) (st' := [.ref a0]) (fun hC _ _ _ _ _ _ hl k => lv_aload_n hC.1 hC.2.1 d_M_abort_12 rfl (lv_at hl 1 rfl) k) ?_
    refine x_go (pc' := 14) (st' := [.int x102, .ref a0]) (fun hC _ _ _ _ _ _ hl k => lv_iload_n hC.1 hC.2.1 d_M_abort_13 rfl (lv_at hl 0 rfl) k) ?_
    refine x_recv (ci := 4) (r := (some a0)) (fun b105 _ eb105 gb105 => ?_)
    refine x_callU (rest := []) (c_M_drop l B b105 x102 h101) (fun hC => fun e1 e2 e3 e4 hM => fun hR hsz hc hs => run_V (n := 1) hC lw_good rfl rfl tw_449 tw_451 tv_24 tw_3 tw_452 (by decide) d_M_abort_14 gb105 (by rw [e1]; exact Nat.le_of_ble_eq_true rfl) (by rw [e2]; exact Nat.le_of_ble_eq_true rfl) e3 e4 hM hR hsz hc hs rfl (by cases eb105; rfl) (Nat.le_of_ble_eq_true rfl)) (fun h104 => ?_)
    refine x_go (pc' := 18) (st' := [.ref a0]) (fun hC _ _ _ _ _ _ hl k => lv_aload_n hC.1 hC.2.1 d_M_abort_17 rfl (lv_at hl 1 rfl) k) ?_
    refine x_recv (ci := 4) (r := (some a0)) (fun b107 _ eb107 gb107 => ?_)
    refine x_callU (rest := []) (c_M_forget l B b107 h104) (fun hC => fun e1 e2 e3 e4 hM => fun hR hsz hc hs => run_V (n := 0) hC lw_good rfl rfl tw_445 tw_447 tv_23 tw_3 tw_448 (by decide) d_M_abort_18 gb107 (by rw [e1]; exact Nat.le_of_ble_eq_true rfl) (by rw [e2]; exact Nat.le_of_ble_eq_true rfl) e3 e4 hM hR hsz hc hs rfl (by cases eb107; rfl) (Nat.le_of_ble_eq_true rfl)) (fun h106 => ?_)
    refine x_go (pc' := 22) (st' := [.int (1 : Int32)]) (fun hC _ _ _ _ _ _ hl k => lv_iconst (v := 1) hC.1 hC.2.1 d_M_abort_21 (by decide) k) ?_
    exact x_zret d_M_abort_22
  · refine x_go (pc' := 11) (st' := [.int (0 : Int32)]) (fun hC _ _ _ _ _ _ hl k => lv_iconst (v := 0) hC.1 hC.2.1 d_M_abort_10 (by decide) k) ?_
    exact x_zret d_M_abort_11
/-! SerialDeskModel.doom(I)Z -/
theorem d_M_doom_0 : decode b_M_doom 0 = .ok (.aload_n 0, 1) := by decide +kernel
theorem d_M_doom_1 : decode b_M_doom 1 = .ok (.iload_n 1, 1) := by decide +kernel
theorem d_M_doom_2 : decode b_M_doom 2 = .ok (.invokevirtual 73, 3) := by decide +kernel
theorem d_M_doom_5 : decode b_M_doom 5 = .ok (.istore_n 2, 1) := by decide +kernel
theorem d_M_doom_6 : decode b_M_doom 6 = .ok (.iload_n 2, 1) := by decide +kernel
theorem d_M_doom_7 : decode b_M_doom 7 = .ok (.ifCond .ge 5, 3) := by decide +kernel
theorem d_M_doom_10 : decode b_M_doom 10 = .ok (.iconst 0, 1) := by decide +kernel
theorem d_M_doom_11 : decode b_M_doom 11 = .ok (.ireturn, 1) := by decide +kernel
theorem d_M_doom_12 : decode b_M_doom 12 = .ok (.aload_n 0, 1) := by decide +kernel
theorem d_M_doom_13 : decode b_M_doom 13 = .ok (.getfield 22, 3) := by decide +kernel
theorem d_M_doom_16 : decode b_M_doom 16 = .ok (.iload_n 2, 1) := by decide +kernel
theorem d_M_doom_17 : decode b_M_doom 17 = .ok (.iconst 1, 1) := by decide +kernel
theorem d_M_doom_18 : decode b_M_doom 18 = .ok (.bastore, 1) := by decide +kernel
theorem d_M_doom_19 : decode b_M_doom 19 = .ok (.iconst 1, 1) := by decide +kernel
theorem d_M_doom_20 : decode b_M_doom 20 = .ok (.ireturn, 1) := by decide +kernel
abbrev X_M_doom (p : Program) (l : Launch) (e : Env) (k1 k2 : Nat) (s : State) (m : MethodId) (args : Array Value) (below : List Frame) (meth : Method) (c : Code) (B : AB) (n0 m0 : Nat) (h : AH) (pc : Nat) (lv : List (Nat × Value)) (st : List Value) (comp : Option (Int32 × AH)) : Prop := XX p l e { frames := 1, cells := k1, slots := k2, locals := 23 } s m args below meth c b_M_doom o_M lw_tt 3 (Option.some Jvm.ClassFile.FieldType.boolean) "doom" B n0 m0 (QM B below args s { frames := 1, cells := k1, slots := k2, locals := 23 } eI) h pc lv st comp
def f_M_doom (a0 : Nat) (x1 : Int32) (h : AH) : Option (Int32 × AH) := rcv h 4 (some a0) (fun b103 => bnd (f_M_running b103 x1 h) (fun x102 h101 => (if 0 ≤ x102 then (fR h101 4 7 (some a0)).bind (fun r104 => (qE h101 1 r104 x102 (1 : Int32)).bind (fun h105 => rZ (1 : Int32) h105)) else rZ (0 : Int32) h101)))
set_option maxHeartbeats 4000000 in
set_option maxRecDepth 100000 in
theorem c_M_doom (l : Launch) (B : AB) (a0 : Nat) (x1 : Int32) (h : AH) : CT l B y_M_doom (Cond.code y_M_doom b_M_doom 3 (Option.some Jvm.ClassFile.FieldType.boolean) :: lw_tt) 1 23 eI [.ref a0, .int x1] h (f_M_doom a0 x1 h) := by
  refine ct_of (own := o_M) (nm := "doom") (by decide +kernel) rfl rfl (Nat.le_of_ble_eq_true rfl) (fun p e k1 k2 s m args below meth c => ?_)
  refine x_sub (lv' := [(0, .ref a0), (1, .int x1)]) [0, 1] rfl ?_
  unfold f_M_doom
  refine x_go (pc' := 1) (st' := [.ref a0]) (fun hC _ _ _ _ _ _ hl k => lv_aload_n hC.1 hC.2.1 d_M_doom_0 rfl (lv_at hl 0 rfl) k) ?_
  refine x_go (pc' := 2) (st' := [.int x1, .ref a0]) (fun hC _ _ _ _ _ _ hl k => lv_iload_n hC.1 hC.2.1 d_M_doom_1 rfl (lv_at hl 1 rfl) k) ?_
  refine x_recv (ci := 4) (r := (some a0)) (fun b103 _ eb103 gb103 => ?_)
  refine x_callI (rest := []) (c_M_running l B b103 x1 h) (fun hC => fun e1 e2 e3 e4 hM => fun hR hsz hc hs => run_V (n := 1) hC lw_good rfl rfl tw_385 tw_387 tv_14 tw_3 tw_388 (by decide) d_M_doom_2 gb103 (by rw [e1]; exact Nat.le_of_ble_eq_true rfl) (by rw [e2]; exact Nat.le_of_ble_eq_true rfl) e3 e4 hM hR hsz hc hs rfl (by cases eb103; rfl) (Nat.le_of_ble_eq_true rfl)) (fun x102 h101 => ?_)
  refine x_lift (pc' := 6) (st' := []) (lv' := [(2, .int x102), (0, .ref a0), (1, .int x1)]) (fun hC _ _ _ _ _ _ hl k => lv_istore_n (i := 2) hC.1 hC.2.1 d_M_doom_5 rfl hl (by decide) rfl k) ?_
  refine x_go (pc' := 7) (st' := [.int x102]) (fun hC _ _ _ _ _ _ hl k => lv_iload_n hC.1 hC.2.1 d_M_doom_6 rfl (lv_at hl 0 rfl) k) ?_
  refine x_if (P := 0 ≤ x102) (pt := 12) (pf := 10) (st' := []) (fun hC _ _ _ _ _ _ kt kf => lv_if_ge (tgt := 12) hC.1 hC.2.1 d_M_doom_7 (by decide) kt kf) ?_ ?_
  · refine x_go (pc' := 13) (st' := [.ref a0]) (fun hC _ _ _ _ _ _ hl k => lv_aload_n hC.1 hC.2.1 d_M_doom_12 rfl (lv_at hl 1 rfl) k) ?_
    refine x_getR (ci := 4) (kf := 7) (r := (some a0)) (fun hC => w_get hC iw_4 rfl 7 (by decide) tw_321 rfl d_M_doom_13) (fun r104 => ?_)
    refine x_go (pc' := 17) (st' := [.int x102, va_rf r104]) (fun hC _ _ _ _ _ _ hl k => lv_iload_n hC.1 hC.2.1 d_M_doom_16 rfl (lv_at hl 0 rfl) k) ?_
    refine x_go (pc' := 18) (st' := [.int (1 : Int32), .int x102, va_rf r104]) (fun hC _ _ _ _ _ _ hl k => lv_iconst (v := 1) hC.1 hC.2.1 d_M_doom_17 (by decide) k) ?_
    refine x_zast (t := 1) rfl (r := r104) (i := x102) (x := (1 : Int32)) d_M_doom_18 (fun h105 => ?_)
    refine x_go (pc' := 20) (st' := [.int (1 : Int32)]) (fun hC _ _ _ _ _ _ hl k => lv_iconst (v := 1) hC.1 hC.2.1 d_M_doom_19 (by decide) k) ?_
    exact x_zret d_M_doom_20
  · refine x_go (pc' := 11) (st' := [.int (0 : Int32)]) (fun hC _ _ _ _ _ _ hl k => lv_iconst (v := 0) hC.1 hC.2.1 d_M_doom_10 (by decide) k) ?_
    exact x_zret d_M_doom_11
/-! SerialDeskModel.look(II)I -/
theorem d_M_look_0 : decode b_M_look 0 = .ok (.aload_n 0, 1) := by decide +kernel
theorem d_M_look_1 : decode b_M_look 1 = .ok (.iload_n 1, 1) := by decide +kernel
theorem d_M_look_2 : decode b_M_look 2 = .ok (.invokevirtual 109, 3) := by decide +kernel
theorem d_M_look_5 : decode b_M_look 5 = .ok (.istore_n 3, 1) := by decide +kernel
theorem d_M_look_6 : decode b_M_look 6 = .ok (.iload_n 2, 1) := by decide +kernel
theorem d_M_look_7 : decode b_M_look 7 = .ok (.ifCond .lt 12, 3) := by decide +kernel
theorem d_M_look_10 : decode b_M_look 10 = .ok (.iload_n 2, 1) := by decide +kernel
theorem d_M_look_11 : decode b_M_look 11 = .ok (.iconst 5, 1) := by decide +kernel
theorem d_M_look_12 : decode b_M_look 12 = .ok (.if_icmp .gt 7, 3) := by decide +kernel
theorem d_M_look_15 : decode b_M_look 15 = .ok (.iload_n 3, 1) := by decide +kernel
theorem d_M_look_16 : decode b_M_look 16 = .ok (.ifCond .ge 18, 3) := by decide +kernel
theorem d_M_look_19 : decode b_M_look 19 = .ok (.iload_n 2, 1) := by decide +kernel
theorem d_M_look_20 : decode b_M_look 20 = .ok (.ifCond .lt 8, 3) := by decide +kernel
theorem d_M_look_23 : decode b_M_look 23 = .ok (.iload_n 2, 1) := by decide +kernel
theorem d_M_look_24 : decode b_M_look 24 = .ok (.iconst 5, 1) := by decide +kernel
theorem d_M_look_25 : decode b_M_look 25 = .ok (.if_icmp .le 7, 3) := by decide +kernel
theorem d_M_look_28 : decode b_M_look 28 = .ok (.iconst (-1), 1) := by decide +kernel
theorem d_M_look_29 : decode b_M_look 29 = .ok (.goto 4, 3) := by decide +kernel
theorem d_M_look_32 : decode b_M_look 32 = .ok (.iconst 0, 1) := by decide +kernel
theorem d_M_look_33 : decode b_M_look 33 = .ok (.ireturn, 1) := by decide +kernel
theorem d_M_look_34 : decode b_M_look 34 = .ok (.iconst 0, 1) := by decide +kernel
theorem d_M_look_35 : decode b_M_look 35 = .ok (.istore 4, 2) := by decide +kernel
theorem d_M_look_37 : decode b_M_look 37 = .ok (.iconst 0, 1) := by decide +kernel
theorem d_M_look_38 : decode b_M_look 38 = .ok (.istore 5, 2) := by decide +kernel
theorem d_M_look_40 : decode b_M_look 40 = .ok (.iload 5, 2) := by decide +kernel
theorem d_M_look_42 : decode b_M_look 42 = .ok (.aload_n 0, 1) := by decide +kernel
theorem d_M_look_43 : decode b_M_look 43 = .ok (.getfield 69, 3) := by decide +kernel
theorem d_M_look_46 : decode b_M_look 46 = .ok (.if_icmp .ge 35, 3) := by decide +kernel
theorem d_M_look_49 : decode b_M_look 49 = .ok (.aload_n 0, 1) := by decide +kernel
theorem d_M_look_50 : decode b_M_look 50 = .ok (.getfield 29, 3) := by decide +kernel
theorem d_M_look_53 : decode b_M_look 53 = .ok (.bipush 64, 2) := by decide +kernel
theorem d_M_look_55 : decode b_M_look 55 = .ok (.iload 5, 2) := by decide +kernel
theorem d_M_look_57 : decode b_M_look 57 = .ok (.imul, 1) := by decide +kernel
theorem d_M_look_58 : decode b_M_look 58 = .ok (.iload_n 3, 1) := by decide +kernel
theorem d_M_look_59 : decode b_M_look 59 = .ok (.iadd, 1) := by decide +kernel
theorem d_M_look_60 : decode b_M_look 60 = .ok (.baload, 1) := by decide +kernel
theorem d_M_look_61 : decode b_M_look 61 = .ok (.ifCond .eq 10, 3) := by decide +kernel
theorem d_M_look_64 : decode b_M_look 64 = .ok (.iload 4, 2) := by decide +kernel
theorem d_M_look_66 : decode b_M_look 66 = .ok (.iconst 1, 1) := by decide +kernel
theorem d_M_look_67 : decode b_M_look 67 = .ok (.iadd, 1) := by decide +kernel
theorem d_M_look_68 : decode b_M_look 68 = .ok (.goto 5, 3) := by decide +kernel
theorem d_M_look_71 : decode b_M_look 71 = .ok (.iload 4, 2) := by decide +kernel
theorem d_M_look_73 : decode b_M_look 73 = .ok (.istore 4, 2) := by decide +kernel
theorem d_M_look_75 : decode b_M_look 75 = .ok (.iinc 5 1, 3) := by decide +kernel
theorem d_M_look_78 : decode b_M_look 78 = .ok (.goto (-38), 3) := by decide +kernel
theorem d_M_look_81 : decode b_M_look 81 = .ok (.iload_n 2, 1) := by decide +kernel
theorem d_M_look_82 : decode b_M_look 82 = .ok (.ifCond .ne 20, 3) := by decide +kernel
theorem d_M_look_85 : decode b_M_look 85 = .ok (.aload_n 0, 1) := by decide +kernel
theorem d_M_look_86 : decode b_M_look 86 = .ok (.getfield 19, 3) := by decide +kernel
theorem d_M_look_89 : decode b_M_look 89 = .ok (.iload_n 3, 1) := by decide +kernel
theorem d_M_look_90 : decode b_M_look 90 = .ok (.iaload, 1) := by decide +kernel
theorem d_M_look_91 : decode b_M_look 91 = .ok (.ifCond .ne 7, 3) := by decide +kernel
theorem d_M_look_94 : decode b_M_look 94 = .ok (.iconst 1, 1) := by decide +kernel
theorem d_M_look_95 : decode b_M_look 95 = .ok (.goto 73, 3) := by decide +kernel
theorem d_M_look_98 : decode b_M_look 98 = .ok (.iconst 2, 1) := by decide +kernel
theorem d_M_look_99 : decode b_M_look 99 = .ok (.goto 69, 3) := by decide +kernel
theorem d_M_look_102 : decode b_M_look 102 = .ok (.iload_n 2, 1) := by decide +kernel
theorem d_M_look_103 : decode b_M_look 103 = .ok (.iconst 1, 1) := by decide +kernel
theorem d_M_look_104 : decode b_M_look 104 = .ok (.if_icmp .ne 20, 3) := by decide +kernel
theorem d_M_look_107 : decode b_M_look 107 = .ok (.aload_n 0, 1) := by decide +kernel
theorem d_M_look_108 : decode b_M_look 108 = .ok (.getfield 22, 3) := by decide +kernel
theorem d_M_look_111 : decode b_M_look 111 = .ok (.iload_n 3, 1) := by decide +kernel
theorem d_M_look_112 : decode b_M_look 112 = .ok (.baload, 1) := by decide +kernel
theorem d_M_look_113 : decode b_M_look 113 = .ok (.ifCond .eq 7, 3) := by decide +kernel
theorem d_M_look_116 : decode b_M_look 116 = .ok (.iconst 1, 1) := by decide +kernel
theorem d_M_look_117 : decode b_M_look 117 = .ok (.goto 51, 3) := by decide +kernel
theorem d_M_look_120 : decode b_M_look 120 = .ok (.iconst 0, 1) := by decide +kernel
theorem d_M_look_121 : decode b_M_look 121 = .ok (.goto 47, 3) := by decide +kernel
theorem d_M_look_124 : decode b_M_look 124 = .ok (.iload_n 2, 1) := by decide +kernel
theorem d_M_look_125 : decode b_M_look 125 = .ok (.iconst 2, 1) := by decide +kernel
theorem d_M_look_126 : decode b_M_look 126 = .ok (.if_icmp .ne 12, 3) := by decide +kernel
theorem d_M_look_129 : decode b_M_look 129 = .ok (.aload_n 0, 1) := by decide +kernel
theorem d_M_look_130 : decode b_M_look 130 = .ok (.getfield 16, 3) := by decide +kernel
theorem d_M_look_133 : decode b_M_look 133 = .ok (.iload_n 3, 1) := by decide +kernel
theorem d_M_look_134 : decode b_M_look 134 = .ok (.iaload, 1) := by decide +kernel
theorem d_M_look_135 : decode b_M_look 135 = .ok (.goto 33, 3) := by decide +kernel
theorem d_M_look_138 : decode b_M_look 138 = .ok (.iload_n 2, 1) := by decide +kernel
theorem d_M_look_139 : decode b_M_look 139 = .ok (.iconst 3, 1) := by decide +kernel
theorem d_M_look_140 : decode b_M_look 140 = .ok (.if_icmp .ne 12, 3) := by decide +kernel
theorem d_M_look_143 : decode b_M_look 143 = .ok (.aload_n 0, 1) := by decide +kernel
theorem d_M_look_144 : decode b_M_look 144 = .ok (.getfield 19, 3) := by decide +kernel
theorem d_M_look_147 : decode b_M_look 147 = .ok (.iload_n 3, 1) := by decide +kernel
theorem d_M_look_148 : decode b_M_look 148 = .ok (.iaload, 1) := by decide +kernel
theorem d_M_look_149 : decode b_M_look 149 = .ok (.goto 19, 3) := by decide +kernel
theorem d_M_look_152 : decode b_M_look 152 = .ok (.iload_n 2, 1) := by decide +kernel
theorem d_M_look_153 : decode b_M_look 153 = .ok (.iconst 4, 1) := by decide +kernel
theorem d_M_look_154 : decode b_M_look 154 = .ok (.if_icmp .ne 12, 3) := by decide +kernel
theorem d_M_look_157 : decode b_M_look 157 = .ok (.aload_n 0, 1) := by decide +kernel
theorem d_M_look_158 : decode b_M_look 158 = .ok (.getfield 26, 3) := by decide +kernel
theorem d_M_look_161 : decode b_M_look 161 = .ok (.iload_n 3, 1) := by decide +kernel
theorem d_M_look_162 : decode b_M_look 162 = .ok (.iaload, 1) := by decide +kernel
theorem d_M_look_163 : decode b_M_look 163 = .ok (.goto 5, 3) := by decide +kernel
theorem d_M_look_166 : decode b_M_look 166 = .ok (.iload 4, 2) := by decide +kernel
theorem d_M_look_168 : decode b_M_look 168 = .ok (.ireturn, 1) := by decide +kernel
abbrev X_M_look (p : Program) (l : Launch) (e : Env) (k1 k2 : Nat) (s : State) (m : MethodId) (args : Array Value) (below : List Frame) (meth : Method) (c : Code) (B : AB) (n0 m0 : Nat) (h : AH) (pc : Nat) (lv : List (Nat × Value)) (st : List Value) (comp : Option (Int32 × AH)) : Prop := XX p l e { frames := 1, cells := k1, slots := k2, locals := 23 } s m args below meth c b_M_look o_M lw_tt 6 (Option.some Jvm.ClassFile.FieldType.int) "look" B n0 m0 (QM B below args s { frames := 1, cells := k1, slots := k2, locals := 23 } eI) h pc lv st comp
def f_M_look_b19 (x2 : Int32) (h : AH) : Option (Int32 × AH) := (if x2 < 0 then some ((-1 : Int32), h) else (if x2 ≤ (5 : Int32) then some ((0 : Int32), h) else some ((-1 : Int32), h)))
def f_M_look_b40 : Nat → Nat → Int32 → Int32 → Int32 → Int32 → AH → Option (Int32 × AH)
  | 0, _, _, _, _, _, _ => none
  | n + 1, a0, x2, x3, x4, x5, h => (fI h 4 2 (some a0)).bind (fun x1001 => (if x1001 ≤ x5 then (if x2 = 0 then (fR h 4 6 (some a0)).bind (fun r1002 => (lI h 4 r1002 x3).bind (fun x1003 => (if x1003 = 0 then some ((1 : Int32), h) else some ((2 : Int32), h)))) else (if x2 = (1 : Int32) then (fR h 4 7 (some a0)).bind (fun r1004 => (lI h 1 r1004 x3).bind (fun x1005 => (if x1005 = 0 then some ((0 : Int32), h) else some ((1 : Int32), h)))) else (if x2 = (2 : Int32) then (fR h 4 5 (some a0)).bind (fun r1006 => (lI h 4 r1006 x3).bind (fun x1007 => some (x1007, h))) else (if x2 = (3 : Int32) then (fR h 4 6 (some a0)).bind (fun r1008 => (lI h 4 r1008 x3).bind (fun x1009 => some (x1009, h))) else (if x2 = (4 : Int32) then (fR h 4 8 (some a0)).bind (fun r1010 => (lI h 4 r1010 x3).bind (fun x1011 => some (x1011, h))) else some (x4, h)))))) else (fR h 4 9 (some a0)).bind (fun r1012 => (lI h 1 r1012 (((64 : Int32) * x5) + x3)).bind (fun x1013 => (if x1013 = 0 then f_M_look_b40 n a0 x2 x3 x4 (x5 + 1) h else f_M_look_b40 n a0 x2 x3 (x4 + (1 : Int32)) (x5 + 1) h)))))
def f_M_look (a0 : Nat) (x1 : Int32) (x2 : Int32) (h : AH) : Option (Int32 × AH) := rcv h 4 (some a0) (fun b103 => bnd (f_M_find b103 x1 h) (fun x102 h101 => (if x2 < 0 then f_M_look_b19 x2 h101 else (if (5 : Int32) < x2 then f_M_look_b19 x2 h101 else (if 0 ≤ x102 then f_M_look_b40 2000 a0 x2 x102 (0 : Int32) (0 : Int32) h101 else f_M_look_b19 x2 h101)))))
set_option maxHeartbeats 4000000 in
set_option maxRecDepth 100000 in
theorem x_M_look_b19 {p : Program} {l : Launch} {e : Env} {k1 k2 : Nat} {s : State} {m : MethodId} {args : Array Value} {below : List Frame} {meth : Method} {c : Code} {B : AB} {n0 m0 : Nat} (x2 : Int32) (h : AH) : X_M_look p l e k1 k2 s m args below meth c B n0 m0 h 19 [(2, .int x2)] [] (f_M_look_b19 x2 h) := by
  unfold f_M_look_b19
  refine x_go (pc' := 20) (st' := [.int x2]) (fun hC _ _ _ _ _ _ hl k => lv_iload_n hC.1 hC.2.1 d_M_look_19 rfl (lv_at hl 0 rfl) k) ?_
  refine x_if (P := x2 < 0) (pt := 28) (pf := 23) (st' := []) (fun hC _ _ _ _ _ _ kt kf => lv_if_lt (tgt := 28) hC.1 hC.2.1 d_M_look_20 (by decide) kt kf) ?_ ?_
  · refine x_go (pc' := 29) (st' := [.int (-1 : Int32)]) (fun hC _ _ _ _ _ _ hl k => lv_iconst (v := -1) hC.1 hC.2.1 d_M_look_28 (by decide) k) ?_
    refine x_go (pc' := 33) (st' := [.int (-1 : Int32)]) (fun hC _ _ _ _ _ _ hl k => lv_goto (tgt := 33) hC.1 hC.2.1 d_M_look_29 (by decide) k) ?_
    exact x_iret d_M_look_33
  · refine x_go (pc' := 24) (st' := [.int x2]) (fun hC _ _ _ _ _ _ hl k => lv_iload_n hC.1 hC.2.1 d_M_look_23 rfl (lv_at hl 0 rfl) k) ?_
    refine x_go (pc' := 25) (st' := [.int (5 : Int32), .int x2]) (fun hC _ _ _ _ _ _ hl k => lv_iconst (v := 5) hC.1 hC.2.1 d_M_look_24 (by decide) k) ?_
    refine x_if (P := x2 ≤ (5 : Int32)) (pt := 32) (pf := 28) (st' := []) (fun hC _ _ _ _ _ _ kt kf => lv_icmp_le (tgt := 32) hC.1 hC.2.1 d_M_look_25 (by decide) kt kf) ?_ ?_
    · refine x_go (pc' := 33) (st' := [.int (0 : Int32)]) (fun hC _ _ _ _ _ _ hl k => lv_iconst (v := 0) hC.1 hC.2.1 d_M_look_32 (by decide) k) ?_
      exact x_iret d_M_look_33
    · refine x_go (pc' := 29) (st' := [.int (-1 : Int32)]) (fun hC _ _ _ _ _ _ hl k => lv_iconst (v := -1) hC.1 hC.2.1 d_M_look_28 (by decide) k) ?_
      refine x_go (pc' := 33) (st' := [.int (-1 : Int32)]) (fun hC _ _ _ _ _ _ hl k => lv_goto (tgt := 33) hC.1 hC.2.1 d_M_look_29 (by decide) k) ?_
      exact x_iret d_M_look_33
set_option maxHeartbeats 4000000 in
set_option maxRecDepth 100000 in
theorem x_M_look_b40 {p : Program} {l : Launch} {e : Env} {k1 k2 : Nat} {s : State} {m : MethodId} {args : Array Value} {below : List Frame} {meth : Method} {c : Code} {B : AB} {n0 m0 : Nat} : ∀ (n : Nat) (a0 : Nat) (x2 : Int32) (x3 : Int32) (x4 : Int32) (x5 : Int32) (h : AH), X_M_look p l e k1 k2 s m args below meth c B n0 m0 h 40 [(0, .ref a0), (2, .int x2), (3, .int x3), (4, .int x4), (5, .int x5)] [] (f_M_look_b40 n a0 x2 x3 x4 x5 h) := by
  intro n
  induction n with
  | zero => intro a0 x2 x3 x4 x5 h; exact x_none
  | succ n ih =>
    intro a0 x2 x3 x4 x5 h
    rw [f_M_look_b40]
    refine x_go (pc' := 42) (st' := [.int x5]) (fun hC _ _ _ _ _ _ hl k => lv_iload hC.1 hC.2.1 d_M_look_40 (lv_at hl 4 rfl) k) ?_
    refine x_go (pc' := 43) (st' := [.ref a0, .int x5]) (fun hC _ _ _ _ _ _ hl k => lv_aload_n hC.1 hC.2.1 d_M_look_42 rfl (lv_at hl 0 rfl) k) ?_
    refine x_getI (ci := 4) (kf := 2) (r := (some a0)) (fun hC => w_get hC iw_4 rfl 2 (by decide) tw_316 rfl d_M_look_43) (fun x1001 => ?_)
    refine x_if (P := x1001 ≤ x5) (pt := 81) (pf := 49) (st' := []) (fun hC _ _ _ _ _ _ kt kf => lv_icmp_ge (tgt := 81) hC.1 hC.2.1 d_M_look_46 (by decide) kt kf) ?_ ?_
    · refine x_go (pc' := 82) (st' := [.int x2]) (fun hC _ _ _ _ _ _ hl k => lv_iload_n hC.1 hC.2.1 d_M_look_81 rfl (lv_at hl 1 rfl) k) ?_
      refine x_if (P := x2 = 0) (pt := 85) (pf := 102) (st' := []) (fun hC _ _ _ _ _ _ kt kf => lv_if_ne (tgt := 102) hC.1 hC.2.1 d_M_look_82 (by decide) kf kt) ?_ ?_
      · refine x_go (pc' := 86) (st' := [.ref a0]) (fun hC _ _ _ _ _ _ hl k => lv_aload_n hC.1 hC.2.1 d_M_look_85 rfl (lv_at hl 0 rfl) k) ?_
        refine x_getR (ci := 4) (kf := 6) (r := (some a0)) (fun hC => w_get hC iw_4 rfl 6 (by decide) tw_320 rfl d_M_look_86) (fun r1002 => ?_)
        refine x_go (pc' := 90) (st' := [.int x3, va_rf r1002]) (fun hC _ _ _ _ _ _ hl k => lv_iload_n hC.1 hC.2.1 d_M_look_89 rfl (lv_at hl 2 rfl) k) ?_
        refine x_iald (t := 4) rfl (r := r1002) (i := x3) d_M_look_90 (fun x1003 => ?_)
        refine x_if (P := x1003 = 0) (pt := 94) (pf := 98) (st' := []) (fun hC _ _ _ _ _ _ kt kf => lv_if_ne (tgt := 98) hC.1 hC.2.1 d_M_look_91 (by decide) kf kt) ?_ ?_
        · refine x_go (pc' := 95) (st' := [.int (1 : Int32)]) (fun hC _ _ _ _ _ _ hl k => lv_iconst (v := 1) hC.1 hC.2.1 d_M_look_94 (by decide) k) ?_
          refine x_go (pc' := 168) (st' := [.int (1 : Int32)]) (fun hC _ _ _ _ _ _ hl k => lv_goto (tgt := 168) hC.1 hC.2.1 d_M_look_95 (by decide) k) ?_
          exact x_iret d_M_look_168
        · refine x_go (pc' := 99) (st' := [.int (2 : Int32)]) (fun hC _ _ _ _ _ _ hl k => lv_iconst (v := 2) hC.1 hC.2.1 d_M_look_98 (by decide) k) ?_
          refine x_go (pc' := 168) (st' := [.int (2 : Int32)]) (fun hC _ _ _ _ _ _ hl k => lv_goto (tgt := 168) hC.1 hC.2.1 d_M_look_99 (by decide) k) ?_
          exact x_iret d_M_look_168
      · refine x_go (pc' := 103) (st' := [.int x2]) (fun hC _ _ _ _ _ _ hl k => lv_iload_n hC.1 hC.2.1 d_M_look_102 rfl (lv_at hl 1 rfl) k) ?_
        refine x_go (pc' := 104) (st' := [.int (1 : Int32), .int x2]) (fun hC _ _ _ _ _ _ hl k => lv_iconst (v := 1) hC.1 hC.2.1 d_M_look_103 (by decide) k) ?_
        refine x_if (P := x2 = (1 : Int32)) (pt := 107) (pf := 124) (st' := []) (fun hC _ _ _ _ _ _ kt kf => lv_icmp_ne (tgt := 124) hC.1 hC.2.1 d_M_look_104 (by decide) kf kt) ?_ ?_
        · refine x_go (pc' := 108) (st' := [.ref a0]) (fun hC _ _ _ _ _ _ hl k => lv_aload_n hC.1 hC.2.1 d_M_look_107 rfl (lv_at hl 0 rfl) k) ?_
          refine x_getR (ci := 4) (kf := 7) (r := (some a0)) (fun hC => w_get hC iw_4 rfl 7 (by decide) tw_321 rfl d_M_look_108) (fun r1004 => ?_)
          refine x_go (pc' := 112) (st' := [.int x3, va_rf r1004]) (fun hC _ _ _ _ _ _ hl k => lv_iload_n hC.1 hC.2.1 d_M_look_111 rfl (lv_at hl 2 rfl) k) ?_
          refine x_zald (t := 1) rfl (r := r1004) (i := x3) d_M_look_112 (fun x1005 => ?_)
          refine x_if (P := x1005 = 0) (pt := 120) (pf := 116) (st' := []) (fun hC _ _ _ _ _ _ kt kf => lv_if_eq (tgt := 120) hC.1 hC.2.1 d_M_look_113 (by decide) kt kf) ?_ ?_
          · refine x_go (pc' := 121) (st' := [.int (0 : Int32)]) (fun hC _ _ _ _ _ _ hl k => lv_iconst (v := 0) hC.1 hC.2.1 d_M_look_120 (by decide) k) ?_
            refine x_go (pc' := 168) (st' := [.int (0 : Int32)]) (fun hC _ _ _ _ _ _ hl k => lv_goto (tgt := 168) hC.1 hC.2.1 d_M_look_121 (by decide) k) ?_
            exact x_iret d_M_look_168
          · refine x_go (pc' := 117) (st' := [.int (1 : Int32)]) (fun hC _ _ _ _ _ _ hl k => lv_iconst (v := 1) hC.1 hC.2.1 d_M_look_116 (by decide) k) ?_
            refine x_go (pc' := 168) (st' := [.int (1 : Int32)]) (fun hC _ _ _ _ _ _ hl k => lv_goto (tgt := 168) hC.1 hC.2.1 d_M_look_117 (by decide) k) ?_
            exact x_iret d_M_look_168
        · refine x_go (pc' := 125) (st' := [.int x2]) (fun hC _ _ _ _ _ _ hl k => lv_iload_n hC.1 hC.2.1 d_M_look_124 rfl (lv_at hl 1 rfl) k) ?_
          refine x_go (pc' := 126) (st' := [.int (2 : Int32), .int x2]) (fun hC _ _ _ _ _ _ hl k => lv_iconst (v := 2) hC.1 hC.2.1 d_M_look_125 (by decide) k) ?_
          refine x_if (P := x2 = (2 : Int32)) (pt := 129) (pf := 138) (st' := []) (fun hC _ _ _ _ _ _ kt kf => lv_icmp_ne (tgt := 138) hC.1 hC.2.1 d_M_look_126 (by decide) kf kt) ?_ ?_
          · refine x_go (pc' := 130) (st' := [.ref a0]) (fun hC _ _ _ _ _ _ hl k => lv_aload_n hC.1 hC.2.1 d_M_look_129 rfl (lv_at hl 0 rfl) k) ?_
            refine x_getR (ci := 4) (kf := 5) (r := (some a0)) (fun hC => w_get hC iw_4 rfl 5 (by decide) tw_319 rfl d_M_look_130) (fun r1006 => ?_)
            refine x_go (pc' := 134) (st' := [.int x3, va_rf r1006]) (fun hC _ _ _ _ _ _ hl k => lv_iload_n hC.1 hC.2.1 d_M_look_133 rfl (lv_at hl 2 rfl) k) ?_
            refine x_iald (t := 4) rfl (r := r1006) (i := x3) d_M_look_134 (fun x1007 => ?_)
            refine x_go (pc' := 168) (st' := [.int x1007]) (fun hC _ _ _ _ _ _ hl k => lv_goto (tgt := 168) hC.1 hC.2.1 d_M_look_135 (by decide) k) ?_
            exact x_iret d_M_look_168
          · refine x_go (pc' := 139) (st' := [.int x2]) (fun hC _ _ _ _ _ _ hl k => lv_iload_n hC.1 hC.2.1 d_M_look_138 rfl (lv_at hl 1 rfl) k) ?_
            refine x_go (pc' := 140) (st' := [.int (3 : Int32), .int x2]) (fun hC _ _ _ _ _ _ hl k => lv_iconst (v := 3) hC.1 hC.2.1 d_M_look_139 (by decide) k) ?_
            refine x_if (P := x2 = (3 : Int32)) (pt := 143) (pf := 152) (st' := []) (fun hC _ _ _ _ _ _ kt kf => lv_icmp_ne (tgt := 152) hC.1 hC.2.1 d_M_look_140 (by decide) kf kt) ?_ ?_
            · refine x_go (pc' := 144) (st' := [.ref a0]) (fun hC _ _ _ _ _ _ hl k => lv_aload_n hC.1 hC.2.1 d_M_look_143 rfl (lv_at hl 0 rfl) k) ?_
              refine x_getR (ci := 4) (kf := 6) (r := (some a0)) (fun hC => w_get hC iw_4 rfl 6 (by decide) tw_320 rfl d_M_look_144) (fun r1008 => ?_)
              refine x_go (pc' := 148) (st' := [.int x3, va_rf r1008]) (fun hC _ _ _ _ _ _ hl k => lv_iload_n hC.1 hC.2.1 d_M_look_147 rfl (lv_at hl 2 rfl) k) ?_
              refine x_iald (t := 4) rfl (r := r1008) (i := x3) d_M_look_148 (fun x1009 => ?_)
              refine x_go (pc' := 168) (st' := [.int x1009]) (fun hC _ _ _ _ _ _ hl k => lv_goto (tgt := 168) hC.1 hC.2.1 d_M_look_149 (by decide) k) ?_
              exact x_iret d_M_look_168
            · refine x_go (pc' := 153) (st' := [.int x2]) (fun hC _ _ _ _ _ _ hl k => lv_iload_n hC.1 hC.2.1 d_M_look_152 rfl (lv_at hl 1 rfl) k) ?_
              refine x_go (pc' := 154) (st' := [.int (4 : Int32), .int x2]) (fun hC _ _ _ _ _ _ hl k => lv_iconst (v := 4) hC.1 hC.2.1 d_M_look_153 (by decide) k) ?_
              refine x_if (P := x2 = (4 : Int32)) (pt := 157) (pf := 166) (st' := []) (fun hC _ _ _ _ _ _ kt kf => lv_icmp_ne (tgt := 166) hC.1 hC.2.1 d_M_look_154 (by decide) kf kt) ?_ ?_
              · refine x_go (pc' := 158) (st' := [.ref a0]) (fun hC _ _ _ _ _ _ hl k => lv_aload_n hC.1 hC.2.1 d_M_look_157 rfl (lv_at hl 0 rfl) k) ?_
                refine x_getR (ci := 4) (kf := 8) (r := (some a0)) (fun hC => w_get hC iw_4 rfl 8 (by decide) tw_322 rfl d_M_look_158) (fun r1010 => ?_)
                refine x_go (pc' := 162) (st' := [.int x3, va_rf r1010]) (fun hC _ _ _ _ _ _ hl k => lv_iload_n hC.1 hC.2.1 d_M_look_161 rfl (lv_at hl 2 rfl) k) ?_
                refine x_iald (t := 4) rfl (r := r1010) (i := x3) d_M_look_162 (fun x1011 => ?_)
                refine x_go (pc' := 168) (st' := [.int x1011]) (fun hC _ _ _ _ _ _ hl k => lv_goto (tgt := 168) hC.1 hC.2.1 d_M_look_163 (by decide) k) ?_
                exact x_iret d_M_look_168
              · refine x_go (pc' := 168) (st' := [.int x4]) (fun hC _ _ _ _ _ _ hl k => lv_iload hC.1 hC.2.1 d_M_look_166 (lv_at hl 3 rfl) k) ?_
                exact x_iret d_M_look_168
    · refine x_go (pc' := 50) (st' := [.ref a0]) (fun hC _ _ _ _ _ _ hl k => lv_aload_n hC.1 hC.2.1 d_M_look_49 rfl (lv_at hl 0 rfl) k) ?_
      refine x_getR (ci := 4) (kf := 9) (r := (some a0)) (fun hC => w_get hC iw_4 rfl 9 (by decide) tw_323 rfl d_M_look_50) (fun r1012 => ?_)
      refine x_go (pc' := 55) (st' := [.int (64 : Int32), va_rf r1012]) (fun hC _ _ _ _ _ _ hl k => lv_bipush (v := 64) hC.1 hC.2.1 d_M_look_53 (by decide) k) ?_
      refine x_go (pc' := 57) (st' := [.int x5, .int (64 : Int32), va_rf r1012]) (fun hC _ _ _ _ _ _ hl k => lv_iload hC.1 hC.2.1 d_M_look_55 (lv_at hl 4 rfl) k) ?_
      refine x_go (pc' := 58) (st' := [.int ((64 : Int32) * x5), va_rf r1012]) (fun hC _ _ _ _ _ _ hl k => lv_imul hC.1 hC.2.1 d_M_look_57 k) ?_
      refine x_go (pc' := 59) (st' := [.int x3, .int ((64 : Int32) * x5), va_rf r1012]) (fun hC _ _ _ _ _ _ hl k => lv_iload_n hC.1 hC.2.1 d_M_look_58 rfl (lv_at hl 2 rfl) k) ?_
      refine x_go (pc' := 60) (st' := [.int (((64 : Int32) * x5) + x3), va_rf r1012]) (fun hC _ _ _ _ _ _ hl k => lv_iadd hC.1 hC.2.1 d_M_look_59 k) ?_
      refine x_zald (t := 1) rfl (r := r1012) (i := (((64 : Int32) * x5) + x3)) d_M_look_60 (fun x1013 => ?_)
      refine x_if (P := x1013 = 0) (pt := 71) (pf := 64) (st' := []) (fun hC _ _ _ _ _ _ kt kf => lv_if_eq (tgt := 71) hC.1 hC.2.1 d_M_look_61 (by decide) kt kf) ?_ ?_
      · refine x_go (pc' := 73) (st' := [.int x4]) (fun hC _ _ _ _ _ _ hl k => lv_iload hC.1 hC.2.1 d_M_look_71 (lv_at hl 3 rfl) k) ?_
        refine x_lift (pc' := 75) (st' := []) (lv' := [(4, .int x4), (0, .ref a0), (2, .int x2), (3, .int x3), (5, .int x5)]) (fun hC _ _ _ _ _ _ hl k => lv_istore (i := 4) hC.1 hC.2.1 d_M_look_73 hl (by decide) rfl k) ?_
        refine x_lift (pc' := 78) (st' := []) (lv' := [(5, .int (x5 + 1)), (4, .int x4), (0, .ref a0), (2, .int x2), (3, .int x3)]) (fun hC _ _ _ _ _ _ hl k => lv_iinc (v := (x5 + 1)) hC.1 hC.2.1 d_M_look_75 hl (k := 4) rfl rfl (by decide) rfl k) ?_
        refine x_go (pc' := 40) (st' := []) (fun hC _ _ _ _ _ _ hl k => lv_goto (tgt := 40) hC.1 hC.2.1 d_M_look_78 (by decide) k) ?_
        exact x_sub (lv' := [(0, .ref a0), (2, .int x2), (3, .int x3), (4, .int x4), (5, .int (x5 + 1))]) [2, 3, 4, 1, 0] rfl (ih a0 x2 x3 x4 (x5 + 1) h)
      · refine x_go (pc' := 66) (st' := [.int x4]) (fun hC _ _ _ _ _ _ hl k => lv_iload hC.1 hC.2.1 d_M_look_64 (lv_at hl 3 rfl) k) ?_
        refine x_go (pc' := 67) (st' := [.int (1 : Int32), .int x4]) (fun hC _ _ _ _ _ _ hl k => lv_iconst (v := 1) hC.1 hC.2.1 d_M_look_66 (by decide) k) ?_
        refine x_go (pc' := 68) (st' := [.int (x4 + (1 : Int32))]) (fun hC _ _ _ _ _ _ hl k => lv_iadd hC.1 hC.2.1 d_M_look_67 k) ?_
        refine x_go (pc' := 73) (st' := [.int (x4 + (1 : Int32))]) (fun hC _ _ _ _ _ _ hl k => lv_goto (tgt := 73) hC.1 hC.2.1 d_M_look_68 (by decide) k) ?_
        refine x_lift (pc' := 75) (st' := []) (lv' := [(4, .int (x4 + (1 : Int32))), (0, .ref a0), (2, .int x2), (3, .int x3), (5, .int x5)]) (fun hC _ _ _ _ _ _ hl k => lv_istore (i := 4) hC.1 hC.2.1 d_M_look_73 hl (by decide) rfl k) ?_
        refine x_lift (pc' := 78) (st' := []) (lv' := [(5, .int (x5 + 1)), (4, .int (x4 + (1 : Int32))), (0, .ref a0), (2, .int x2), (3, .int x3)]) (fun hC _ _ _ _ _ _ hl k => lv_iinc (v := (x5 + 1)) hC.1 hC.2.1 d_M_look_75 hl (k := 4) rfl rfl (by decide) rfl k) ?_
        refine x_go (pc' := 40) (st' := []) (fun hC _ _ _ _ _ _ hl k => lv_goto (tgt := 40) hC.1 hC.2.1 d_M_look_78 (by decide) k) ?_
        exact x_sub (lv' := [(0, .ref a0), (2, .int x2), (3, .int x3), (4, .int (x4 + (1 : Int32))), (5, .int (x5 + 1))]) [2, 3, 4, 1, 0] rfl (ih a0 x2 x3 (x4 + (1 : Int32)) (x5 + 1) h)
set_option maxHeartbeats 4000000 in
set_option maxRecDepth 100000 in
theorem c_M_look (l : Launch) (B : AB) (a0 : Nat) (x1 : Int32) (x2 : Int32) (h : AH) : CT l B y_M_look (Cond.code y_M_look b_M_look 6 (Option.some Jvm.ClassFile.FieldType.int) :: lw_tt) 1 23 eI [.ref a0, .int x1, .int x2] h (f_M_look a0 x1 x2 h) := by
  refine ct_of (own := o_M) (nm := "look") (by decide +kernel) rfl rfl (Nat.le_of_ble_eq_true rfl) (fun p e k1 k2 s m args below meth c => ?_)
  refine x_sub (lv' := [(0, .ref a0), (1, .int x1), (2, .int x2)]) [0, 1, 2] rfl ?_
  unfold f_M_look
  refine x_go (pc' := 1) (st' := [.ref a0]) (fun hC _ _ _ _ _ _ hl k => lv_aload_n hC.1 hC.2.1 d_M_look_0 rfl (lv_at hl 0 rfl) k) ?_
  refine x_go (pc' := 2) (st' := [.int x1, .ref a0]) (fun hC _ _ _ _ _ _ hl k => lv_iload_n hC.1 hC.2.1 d_M_look_1 rfl (lv_at hl 1 rfl) k) ?_
  refine x_recv (ci := 4) (r := (some a0)) (fun b103 _ eb103 gb103 => ?_)
  refine x_callI (rest := []) (c_M_find l B b103 x1 h) (fun hC => fun e1 e2 e3 e4 hM => fun hR hsz hc hs => run_V (n := 1) hC lw_good rfl rfl tw_437 tw_439 tv_22 tw_3 tw_440 (by decide) d_M_look_2 gb103 (by rw [e1]; exact Nat.le_of_ble_eq_true rfl) (by rw [e2]; exact Nat.le_of_ble_eq_true rfl) e3 e4 hM hR hsz hc hs rfl (by cases eb103; rfl) (Nat.le_of_ble_eq_true rfl)) (fun x102 h101 => ?_)
  refine x_lift (pc' := 6) (st' := []) (lv' := [(3, .int x102), (0, .ref a0), (1, .int x1), (2, .int x2)]) (fun hC _ _ _ _ _ _ hl k => lv_istore_n (i := 3) hC.1 hC.2.1 d_M_look_5 rfl hl (by decide) rfl k) ?_
  refine x_go (pc' := 7) (st' := [.int x2]) (fun hC _ _ _ _ _ _ hl k => lv_iload_n hC.1 hC.2.1 d_M_look_6 rfl (lv_at hl 3 rfl) k) ?_
  refine x_if (P := x2 < 0) (pt := 19) (pf := 10) (st' := []) (fun hC _ _ _ _ _ _ kt kf => lv_if_lt (tgt := 19) hC.1 hC.2.1 d_M_look_7 (by decide) kt kf) ?_ ?_
  · exact x_sub (lv' := [(2, .int x2)]) [3] rfl (x_M_look_b19 x2 h101)
  · refine x_go (pc' := 11) (st' := [.int x2]) (fun hC _ _ _ _ _ _ hl k => lv_iload_n hC.1 hC.2.1 d_M_look_10 rfl (lv_at hl 3 rfl) k) ?_
    refine x_go (pc' := 12) (st' := [.int (5 : Int32), .int x2]) (fun hC _ _ _ _ _ _ hl k => lv_iconst (v := 5) hC.1 hC.2.1 d_M_look_11 (by decide) k) ?_
    refine x_if (P := (5 : Int32) < x2) (pt := 19) (pf := 15) (st' := []) (fun hC _ _ _ _ _ _ kt kf => lv_icmp_gt (tgt := 19) hC.1 hC.2.1 d_M_look_12 (by decide) kt kf) ?_ ?_
    · exact x_sub (lv' := [(2, .int x2)]) [3] rfl (x_M_look_b19 x2 h101)
    · refine x_go (pc' := 16) (st' := [.int x102]) (fun hC _ _ _ _ _ _ hl k => lv_iload_n hC.1 hC.2.1 d_M_look_15 rfl (lv_at hl 0 rfl) k) ?_
      refine x_if (P := 0 ≤ x102) (pt := 34) (pf := 19) (st' := []) (fun hC _ _ _ _ _ _ kt kf => lv_if_ge (tgt := 34) hC.1 hC.2.1 d_M_look_16 (by decide) kt kf) ?_ ?_
      · refine x_go (pc' := 35) (st' := [.int (0 : Int32)]) (fun hC _ _ _ _ _ _ hl k => lv_iconst (v := 0) hC.1 hC.2.1 d_M_look_34 (by decide) k) ?_
        refine x_lift (pc' := 37) (st' := []) (lv' := [(4, .int (0 : Int32)), (3, .int x102), (0, .ref a0), (1, .int x1), (2, .int x2)]) (fun hC _ _ _ _ _ _ hl k => lv_istore (i := 4) hC.1 hC.2.1 d_M_look_35 hl (by decide) rfl k) ?_
        refine x_go (pc' := 38) (st' := [.int (0 : Int32)]) (fun hC _ _ _ _ _ _ hl k => lv_iconst (v := 0) hC.1 hC.2.1 d_M_look_37 (by decide) k) ?_
        refine x_lift (pc' := 40) (st' := []) (lv' := [(5, .int (0 : Int32)), (4, .int (0 : Int32)), (3, .int x102), (0, .ref a0), (1, .int x1), (2, .int x2)]) (fun hC _ _ _ _ _ _ hl k => lv_istore (i := 5) hC.1 hC.2.1 d_M_look_38 hl (by decide) rfl k) ?_
        exact x_sub (lv' := [(0, .ref a0), (2, .int x2), (3, .int x102), (4, .int (0 : Int32)), (5, .int (0 : Int32))]) [3, 5, 2, 1, 0] rfl (x_M_look_b40 2000 a0 x2 x102 (0 : Int32) (0 : Int32) h101)
      · exact x_sub (lv' := [(2, .int x2)]) [3] rfl (x_M_look_b19 x2 h101)
