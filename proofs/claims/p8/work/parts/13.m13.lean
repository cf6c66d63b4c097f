/-! SerialDeskModel.move(II)V -/
theorem d_M_move_0 : decode b_M_move 0 = .ok (.aload_n 0, 1) := by decide +kernel
theorem d_M_move_1 : decode b_M_move 1 = .ok (.getfield 7, 3) := by decide +kernel
theorem d_M_move_4 : decode b_M_move 4 = .ok (.iload_n 2, 1) := by decide +kernel
theorem d_M_move_5 : decode b_M_move 5 = .ok (.aload_n 0, 1) := by decide +kernel
theorem d_M_move_6 : decode b_M_move 6 = .ok (.getfield 7, 3) := by decide +kernel
theorem d_M_move_9 : decode b_M_move 9 = .ok (.iload_n 1, 1) := by decide +kernel
theorem d_M_move_10 : decode b_M_move 10 = .ok (.iaload, 1) := by decide +kernel
theorem d_M_move_11 : decode b_M_move 11 = .ok (.iastore, 1) := by decide +kernel
theorem d_M_move_12 : decode b_M_move 12 = .ok (.aload_n 0, 1) := by decide +kernel
theorem d_M_move_13 : decode b_M_move 13 = .ok (.getfield 13, 3) := by decide +kernel
theorem d_M_move_16 : decode b_M_move 16 = .ok (.iload_n 2, 1) := by decide +kernel
theorem d_M_move_17 : decode b_M_move 17 = .ok (.aload_n 0, 1) := by decide +kernel
theorem d_M_move_18 : decode b_M_move 18 = .ok (.getfield 13, 3) := by decide +kernel
theorem d_M_move_21 : decode b_M_move 21 = .ok (.iload_n 1, 1) := by decide +kernel
theorem d_M_move_22 : decode b_M_move 22 = .ok (.iaload, 1) := by decide +kernel
theorem d_M_move_23 : decode b_M_move 23 = .ok (.iastore, 1) := by decide +kernel
theorem d_M_move_24 : decode b_M_move 24 = .ok (.aload_n 0, 1) := by decide +kernel
theorem d_M_move_25 : decode b_M_move 25 = .ok (.getfield 16, 3) := by decide +kernel
theorem d_M_move_28 : decode b_M_move 28 = .ok (.iload_n 2, 1) := by decide +kernel
theorem d_M_move_29 : decode b_M_move 29 = .ok (.aload_n 0, 1) := by decide +kernel
theorem d_M_move_30 : decode b_M_move 30 = .ok (.getfield 16, 3) := by decide +kernel
theorem d_M_move_33 : decode b_M_move 33 = .ok (.iload_n 1, 1) := by decide +kernel
theorem d_M_move_34 : decode b_M_move 34 = .ok (.iaload, 1) := by decide +kernel
theorem d_M_move_35 : decode b_M_move 35 = .ok (.iastore, 1) := by decide +kernel
theorem d_M_move_36 : decode b_M_move 36 = .ok (.aload_n 0, 1) := by decide +kernel
theorem d_M_move_37 : decode b_M_move 37 = .ok (.getfield 19, 3) := by decide +kernel
theorem d_M_move_40 : decode b_M_move 40 = .ok (.iload_n 2, 1) := by decide +kernel
theorem d_M_move_41 : decode b_M_move 41 = .ok (.aload_n 0, 1) := by decide +kernel
theorem d_M_move_42 : decode b_M_move 42 = .ok (.getfield 19, 3) := by decide +kernel
theorem d_M_move_45 : decode b_M_move 45 = .ok (.iload_n 1, 1) := by decide +kernel
theorem d_M_move_46 : decode b_M_move 46 = .ok (.iaload, 1) := by decide +kernel
theorem d_M_move_47 : decode b_M_move 47 = .ok (.iastore, 1) := by decide +kernel
theorem d_M_move_48 : decode b_M_move 48 = .ok (.aload_n 0, 1) := by decide +kernel
theorem d_M_move_49 : decode b_M_move 49 = .ok (.getfield 22, 3) := by decide +kernel
theorem d_M_move_52 : decode b_M_move 52 = .ok (.iload_n 2, 1) := by decide +kernel
theorem d_M_move_53 : decode b_M_move 53 = .ok (.aload_n 0, 1) := by decide +kernel
theorem d_M_move_54 : decode b_M_move 54 = .ok (.getfield 22, 3) := by decide +kernel
theorem d_M_move_57 : decode b_M_move 57 = .ok (.iload_n 1, 1) := by decide +kernel
theorem d_M_move_58 : decode b_M_move 58 = .ok (.baload, 1) := by decide +kernel
theorem d_M_move_59 : decode b_M_move 59 = .ok (.bastore, 1) := by decide +kernel
theorem d_M_move_60 : decode b_M_move 60 = .ok (.aload_n 0, 1) := by decide +kernel
theorem d_M_move_61 : decode b_M_move 61 = .ok (.getfield 26, 3) := by decide +kernel
theorem d_M_move_64 : decode b_M_move 64 = .ok (.iload_n 2, 1) := by decide +kernel
theorem d_M_move_65 : decode b_M_move 65 = .ok (.aload_n 0, 1) := by decide +kernel
theorem d_M_move_66 : decode b_M_move 66 = .ok (.getfield 26, 3) := by decide +kernel
theorem d_M_move_69 : decode b_M_move 69 = .ok (.iload_n 1, 1) := by decide +kernel
theorem d_M_move_70 : decode b_M_move 70 = .ok (.iaload, 1) := by decide +kernel
theorem d_M_move_71 : decode b_M_move 71 = .ok (.iastore, 1) := by decide +kernel
theorem d_M_move_72 : decode b_M_move 72 = .ok (.iconst 0, 1) := by decide +kernel
theorem d_M_move_73 : decode b_M_move 73 = .ok (.istore_n 3, 1) := by decide +kernel
theorem d_M_move_74 : decode b_M_move 74 = .ok (.iload_n 3, 1) := by decide +kernel
theorem d_M_move_75 : decode b_M_move 75 = .ok (.bipush 8, 2) := by decide +kernel
theorem d_M_move_77 : decode b_M_move 77 = .ok (.if_icmp .ge 31, 3) := by decide +kernel
theorem d_M_move_80 : decode b_M_move 80 = .ok (.aload_n 0, 1) := by decide +kernel
theorem d_M_move_81 : decode b_M_move 81 = .ok (.getfield 32, 3) := by decide +kernel
theorem d_M_move_84 : decode b_M_move 84 = .ok (.bipush 8, 2) := by decide +kernel
theorem d_M_move_86 : decode b_M_move 86 = .ok (.iload_n 2, 1) := by decide +kernel
theorem d_M_move_87 : decode b_M_move 87 = .ok (.imul, 1) := by decide +kernel
theorem d_M_move_88 : decode b_M_move 88 = .ok (.iload_n 3, 1) := by decide +kernel
theorem d_M_move_89 : decode b_M_move 89 = .ok (.iadd, 1) := by decide +kernel
theorem d_M_move_90 : decode b_M_move 90 = .ok (.aload_n 0, 1) := by decide +kernel
theorem d_M_move_91 : decode b_M_move 91 = .ok (.getfield 32, 3) := by decide +kernel
theorem d_M_move_94 : decode b_M_move 94 = .ok (.bipush 8, 2) := by decide +kernel
theorem d_M_move_96 : decode b_M_move 96 = .ok (.iload_n 1, 1) := by decide +kernel
theorem d_M_move_97 : decode b_M_move 97 = .ok (.imul, 1) := by decide +kernel
theorem d_M_move_98 : decode b_M_move 98 = .ok (.iload_n 3, 1) := by decide +kernel
theorem d_M_move_99 : decode b_M_move 99 = .ok (.iadd, 1) := by decide +kernel
theorem d_M_move_100 : decode b_M_move 100 = .ok (.iaload, 1) := by decide +kernel
theorem d_M_move_101 : decode b_M_move 101 = .ok (.iastore, 1) := by decide +kernel
theorem d_M_move_102 : decode b_M_move 102 = .ok (.iinc 3 1, 3) := by decide +kernel
theorem d_M_move_105 : decode b_M_move 105 = .ok (.goto (-31), 3) := by decide +kernel
theorem d_M_move_108 : decode b_M_move 108 = .ok (.iconst 0, 1) := by decide +kernel
theorem d_M_move_109 : decode b_M_move 109 = .ok (.istore_n 3, 1) := by decide +kernel
theorem d_M_move_110 : decode b_M_move 110 = .ok (.iload_n 3, 1) := by decide +kernel
theorem d_M_move_111 : decode b_M_move 111 = .ok (.bipush 64, 2) := by decide +kernel
theorem d_M_move_113 : decode b_M_move 113 = .ok (.if_icmp .ge 63, 3) := by decide +kernel
theorem d_M_move_116 : decode b_M_move 116 = .ok (.aload_n 0, 1) := by decide +kernel
theorem d_M_move_117 : decode b_M_move 117 = .ok (.bipush 64, 2) := by decide +kernel
theorem d_M_move_119 : decode b_M_move 119 = .ok (.iload_n 2, 1) := by decide +kernel
theorem d_M_move_120 : decode b_M_move 120 = .ok (.imul, 1) := by decide +kernel
theorem d_M_move_121 : decode b_M_move 121 = .ok (.iload_n 3, 1) := by decide +kernel
theorem d_M_move_122 : decode b_M_move 122 = .ok (.iadd, 1) := by decide +kernel
theorem d_M_move_123 : decode b_M_move 123 = .ok (.aload_n 0, 1) := by decide +kernel
theorem d_M_move_124 : decode b_M_move 124 = .ok (.getfield 35, 3) := by decide +kernel
theorem d_M_move_127 : decode b_M_move 127 = .ok (.bipush 64, 2) := by decide +kernel
theorem d_M_move_129 : decode b_M_move 129 = .ok (.iload_n 1, 1) := by decide +kernel
theorem d_M_move_130 : decode b_M_move 130 = .ok (.imul, 1) := by decide +kernel
theorem d_M_move_131 : decode b_M_move 131 = .ok (.iload_n 3, 1) := by decide +kernel
theorem d_M_move_132 : decode b_M_move 132 = .ok (.iadd, 1) := by decide +kernel
theorem d_M_move_133 : decode b_M_move 133 = .ok (.iaload, 1) := by decide +kernel
theorem d_M_move_134 : decode b_M_move 134 = .ok (.aload_n 0, 1) := by decide +kernel
theorem d_M_move_135 : decode b_M_move 135 = .ok (.getfield 41, 3) := by decide +kernel
theorem d_M_move_138 : decode b_M_move 138 = .ok (.bipush 64, 2) := by decide +kernel
theorem d_M_move_140 : decode b_M_move 140 = .ok (.iload_n 1, 1) := by decide +kernel
theorem d_M_move_141 : decode b_M_move 141 = .ok (.imul, 1) := by decide +kernel
theorem d_M_move_142 : decode b_M_move 142 = .ok (.iload_n 3, 1) := by decide +kernel
theorem d_M_move_143 : decode b_M_move 143 = .ok (.iadd, 1) := by decide +kernel
theorem d_M_move_144 : decode b_M_move 144 = .ok (.laload, 1) := by decide +kernel
theorem d_M_move_145 : decode b_M_move 145 = .ok (.aload_n 0, 1) := by decide +kernel
theorem d_M_move_146 : decode b_M_move 146 = .ok (.getfield 45, 3) := by decide +kernel
theorem d_M_move_149 : decode b_M_move 149 = .ok (.bipush 64, 2) := by decide +kernel
theorem d_M_move_151 : decode b_M_move 151 = .ok (.iload_n 1, 1) := by decide +kernel
theorem d_M_move_152 : decode b_M_move 152 = .ok (.imul, 1) := by decide +kernel
theorem d_M_move_153 : decode b_M_move 153 = .ok (.iload_n 3, 1) := by decide +kernel
theorem d_M_move_154 : decode b_M_move 154 = .ok (.iadd, 1) := by decide +kernel
theorem d_M_move_155 : decode b_M_move 155 = .ok (.laload, 1) := by decide +kernel
theorem d_M_move_156 : decode b_M_move 156 = .ok (.aload_n 0, 1) := by decide +kernel
theorem d_M_move_157 : decode b_M_move 157 = .ok (.getfield 38, 3) := by decide +kernel
theorem d_M_move_160 : decode b_M_move 160 = .ok (.bipush 64, 2) := by decide +kernel
theorem d_M_move_162 : decode b_M_move 162 = .ok (.iload_n 1, 1) := by decide +kernel
theorem d_M_move_163 : decode b_M_move 163 = .ok (.imul, 1) := by decide +kernel
theorem d_M_move_164 : decode b_M_move 164 = .ok (.iload_n 3, 1) := by decide +kernel
theorem d_M_move_165 : decode b_M_move 165 = .ok (.iadd, 1) := by decide +kernel
theorem d_M_move_166 : decode b_M_move 166 = .ok (.iaload, 1) := by decide +kernel
theorem d_M_move_167 : decode b_M_move 167 = .ok (.invokevirtual 87, 3) := by decide +kernel
theorem d_M_move_170 : decode b_M_move 170 = .ok (.iinc 3 1, 3) := by decide +kernel
theorem d_M_move_173 : decode b_M_move 173 = .ok (.goto (-63), 3) := by decide +kernel
theorem d_M_move_176 : decode b_M_move 176 = .ok (.return_, 1) := by decide +kernel
abbrev X_M_move (p : Program) (l : Launch) (e : Env) (k1 k2 : Nat) (s : State) (m : MethodId) (args : Array Value) (below : List Frame) (meth : Method) (c : Code) (B : AB) (n0 m0 : Nat) (h : AH) (pc : Nat) (lv : List (Nat × Value)) (st : List Value) (comp : Option (Unit × AH)) : Prop := XX p l e { frames := 1, cells := k1, slots := k2, locals := 27 } s m args below meth c b_M_move o_M lw_tt 4 (Option.none : Option Jvm.ClassFile.FieldType) "move" B n0 m0 (QM B below args s { frames := 1, cells := k1, slots := k2, locals := 27 } eU) h pc lv st comp
def f_M_move_b110 : Nat → Nat → Int32 → Int32 → Int32 → AH → Option (Unit × AH)
  | 0, _, _, _, _, _ => none
  | n + 1, a0, x1, x2, x3, h => (if (64 : Int32) ≤ x3 then some ((), h) else (fR h 4 11 (some a0)).bind (fun r1001 => (lI h 4 r1001 (((64 : Int32) * x1) + x3)).bind (fun x1002 => (fR h 4 13 (some a0)).bind (fun r1003 => (lL h 0 r1003 (((64 : Int32) * x1) + x3)).bind (fun x1004 => (fR h 4 14 (some a0)).bind (fun r1005 => (lL h 0 r1005 (((64 : Int32) * x1) + x3)).bind (fun x1006 => (fR h 4 12 (some a0)).bind (fun r1007 => (lI h 4 r1007 (((64 : Int32) * x1) + x3)).bind (fun x1008 => rcv h 4 (some a0) (fun b1010 => bndU (f_M_setRange b1010 (((64 : Int32) * x2) + x3) x1002 x1004 x1006 x1008 h) (fun h1009 => f_M_move_b110 n a0 x1 x2 (x3 + 1) h1009)))))))))))
def f_M_move_b74 : Nat → Nat → Int32 → Int32 → Int32 → AH → Option (Unit × AH)
  | 0, _, _, _, _, _ => none
  | n + 1, a0, x1, x2, x3, h => (if (8 : Int32) ≤ x3 then f_M_move_b110 2000 a0 x1 x2 (0 : Int32) h else (fR h 4 10 (some a0)).bind (fun r1001 => (fR h 4 10 (some a0)).bind (fun r1002 => (lI h 4 r1002 (((8 : Int32) * x1) + x3)).bind (fun x1003 => (pE h 4 r1001 (((8 : Int32) * x2) + x3) (.int x1003)).bind (fun h1004 => f_M_move_b74 n a0 x1 x2 (x3 + 1) h1004)))))
def f_M_move (a0 : Nat) (x1 : Int32) (x2 : Int32) (h : AH) : Option (Unit × AH) := (fR h 4 3 (some a0)).bind (fun r101 => (fR h 4 3 (some a0)).bind (fun r102 => (lI h 4 r102 x1).bind (fun x103 => (pE h 4 r101 x2 (.int x103)).bind (fun h104 => (fR h104 4 4 (some a0)).bind (fun r105 => (fR h104 4 4 (some a0)).bind (fun r106 => (lI h104 4 r106 x1).bind (fun x107 => (pE h104 4 r105 x2 (.int x107)).bind (fun h108 => (fR h108 4 5 (some a0)).bind (fun r109 => (fR h108 4 5 (some a0)).bind (fun r110 => (lI h108 4 r110 x1).bind (fun x111 => (pE h108 4 r109 x2 (.int x111)).bind (fun h112 => (fR h112 4 6 (some a0)).bind (fun r113 => (fR h112 4 6 (some a0)).bind (fun r114 => (lI h112 4 r114 x1).bind (fun x115 => (pE h112 4 r113 x2 (.int x115)).bind (fun h116 => (fR h116 4 7 (some a0)).bind (fun r117 => (fR h116 4 7 (some a0)).bind (fun r118 => (lI h116 1 r118 x1).bind (fun x119 => (qE h116 1 r117 x2 x119).bind (fun h120 => (fR h120 4 8 (some a0)).bind (fun r121 => (fR h120 4 8 (some a0)).bind (fun r122 => (lI h120 4 r122 x1).bind (fun x123 => (pE h120 4 r121 x2 (.int x123)).bind (fun h124 => f_M_move_b74 2000 a0 x1 x2 (0 : Int32) h124))))))))))))))))))))))))
set_option maxHeartbeats 4000000 in
set_option maxRecDepth 100000 in
theorem x_M_move_b110 {p : Program} {l : Launch} {e : Env} {k1 k2 : Nat} {s : State} {m : MethodId} {args : Array Value} {below : List Frame} {meth : Method} {c : Code} {B : AB} {n0 m0 : Nat} : ∀ (n : Nat) (a0 : Nat) (x1 : Int32) (x2 : Int32) (x3 : Int32) (h : AH), X_M_move p l e k1 k2 s m args below meth c B n0 m0 h 110 [(0, .ref a0), (1, .int x1), (2, .int x2), (3, .int x3)] [] (f_M_move_b110 n a0 x1 x2 x3 h) := by
  intro n
  induction n with
  | zero => intro a0 x1 x2 x3 h; exact x_none
  | succ n ih =>
    intro a0 x1 x2 x3 h
    rw [f_M_move_b110]
    refine x_go (pc' := 111) (st' := [.int x3]) (fun hC _ _ _ _ _ _ hl k => lv_iload_n hC.1 hC.2.1 d_M_move_110 rfl (lv_at hl 3 rfl) k) ?_
    refine x_go (pc' := 113) (st' := [.int (64 : Int32), .int x3]) (fun hC _ _ _ _ _ _ hl k => lv_bipush (v := 64) hC.1 hC.2.1 d_M_move_111 (by decide) k) ?_
    refine x_if (P := (64 : Int32) ≤ x3) (pt := 176) (pf := 116) (st' := []) (fun hC _ _ _ _ _ _ kt kf => lv_icmp_ge (tgt := 176) hC.1 hC.2.1 d_M_move_113 (by decide) kt kf) ?_ ?_
    · exact x_vret d_M_move_176
    · refine x_go (pc' := 117) (st' := [.ref a0]) (fun hC _ _ _ _ _ _ hl k => lv_aload_n hC.1 hC.2.1 d_M_move_116 rfl (lv_at hl 0 rfl) k) ?_
      refine x_go (pc' := 119) (st' := [.int (64 : Int32), .ref a0]) (fun hC _ _ _ _ _ _ hl k => lv_bipush (v := 64) hC.1 hC.2.1 d_M_move_117 (by decide) k) ?_
      refine x_go (pc' := 120) (st' := [.int x2, .int (64 : Int32), .ref a0]) (fun hC _ _ _ _ _ _ hl k => lv_iload_n hC.1 hC.2.1 d_M_move_119 rfl (lv_at hl 2 rfl) k) ?_
      refine x_go (pc' := 121) (st' := [.int ((64 : Int32) * x2), .ref a0]) (fun hC _ _ _ _ _ _ hl k => lv_imul hC.1 hC.2.1 d_M_move_120 k) ?_
      refine x_go (pc' := 122) (st' := [.int x3, .int ((64 : Int32) * x2), .ref a0]) (fun hC _ _ _ _ _ _ hl k => lv_iload_n hC.1 hC.2.1 d_M_move_121 rfl (lv_at hl 3 rfl) k) ?_
      refine x_go (pc' := 123) (st' := [.int (((64 : Int32) * x2) + x3), .ref a0]) (fun hC _ _ _ _ _ _ hl k => lv_iadd hC.1 hC.2.1 d_M_move_122 k) ?_
      refine x_go (pc' := 124) (st' := [.ref a0, .int (((64 : Int32) * x2) + x3), .ref a0]) (fun hC _ _ _ _ _ _ hl k => lv_aload_n hC.1 hC.2.1 d_M_move_123 rfl (lv_at hl 0 rfl) k) ?_
      refine x_getR (ci := 4) (kf := 11) (r := (some a0)) (fun hC => w_get hC iw_4 rfl 11 (by decide) tw_325 rfl d_M_move_124) (fun r1001 => ?_)
      refine x_go (pc' := 129) (st' := [.int (64 : Int32), va_rf r1001, .int (((64 : Int32) * x2) + x3), .ref a0]) (fun hC _ _ _ _ _ _ hl k => lv_bipush (v := 64) hC.1 hC.2.1 d_M_move_127 (by decide) k) ?_
      refine x_go (pc' := 130) (st' := [.int x1, .int (64 : Int32), va_rf r1001, .int (((64 : Int32) * x2) + x3), .ref a0]) (fun hC _ _ _ _ _ _ hl k => lv_iload_n hC.1 hC.2.1 d_M_move_129 rfl (lv_at hl 1 rfl) k) ?_
      refine x_go (pc' := 131) (st' := [.int ((64 : Int32) * x1), va_rf r1001, .int (((64 : Int32) * x2) + x3), .ref a0]) (fun hC _ _ _ _ _ _ hl k => lv_imul hC.1 hC.2.1 d_M_move_130 k) ?_
      refine x_go (pc' := 132) (st' := [.int x3, .int ((64 : Int32) * x1), va_rf r1001, .int (((64 : Int32) * x2) + x3), .ref a0]) (fun hC _ _ _ _ _ _ hl k => lv_iload_n hC.1 hC.2.1 d_M_move_131 rfl (lv_at hl 3 rfl) k) ?_
      refine x_go (pc' := 133) (st' := [.int (((64 : Int32) * x1) + x3), va_rf r1001, .int (((64 : Int32) * x2) + x3), .ref a0]) (fun hC _ _ _ _ _ _ hl k => lv_iadd hC.1 hC.2.1 d_M_move_132 k) ?_
      refine x_iald (t := 4) rfl (r := r1001) (i := (((64 : Int32) * x1) + x3)) d_M_move_133 (fun x1002 => ?_)
      refine x_go (pc' := 135) (st' := [.ref a0, .int x1002, .int (((64 : Int32) * x2) + x3), .ref a0]) (fun hC _ _ _ _ _ _ hl k => lv_aload_n hC.1 hC.2.1 d_M_move_134 rfl (lv_at hl 0 rfl) k) ?_
      refine x_getR (ci := 4) (kf := 13) (r := (some a0)) (fun hC => w_get hC iw_4 rfl 13 (by decide) tw_327 rfl d_M_move_135) (fun r1003 => ?_)
      refine x_go (pc' := 140) (st' := [.int (64 : Int32), va_rf r1003, .int x1002, .int (((64 : Int32) * x2) + x3), .ref a0]) (fun hC _ _ _ _ _ _ hl k => lv_bipush (v := 64) hC.1 hC.2.1 d_M_move_138 (by decide) k) ?_
      refine x_go (pc' := 141) (st' := [.int x1, .int (64 : Int32), va_rf r1003, .int x1002, .int (((64 : Int32) * x2) + x3), .ref a0]) (fun hC _ _ _ _ _ _ hl k => lv_iload_n hC.1 hC.2.1 d_M_move_140 rfl (lv_at hl 1 rfl) k) ?_
      refine x_go (pc' := 142) (st' := [.int ((64 : Int32) * x1), va_rf r1003, .int x1002, .int (((64 : Int32) * x2) + x3), .ref a0]) (fun hC _ _ _ _ _ _ hl k => lv_imul hC.1 hC.2.1 d_M_move_141 k) ?_
      refine x_go (pc' := 143) (st' := [.int x3, .int ((64 : Int32) * x1), va_rf r1003, .int x1002, .int (((64 : Int32) * x2) + x3), .ref a0]) (fun hC _ _ _ _ _ _ hl k => lv_iload_n hC.1 hC.2.1 d_M_move_142 rfl (lv_at hl 3 rfl) k) ?_
      refine x_go (pc' := 144) (st' := [.int (((64 : Int32) * x1) + x3), va_rf r1003, .int x1002, .int (((64 : Int32) * x2) + x3), .ref a0]) (fun hC _ _ _ _ _ _ hl k => lv_iadd hC.1 hC.2.1 d_M_move_143 k) ?_
      refine x_lald (t := 0) rfl (r := r1003) (i := (((64 : Int32) * x1) + x3)) d_M_move_144 (fun x1004 => ?_)
      refine x_go (pc' := 146) (st' := [.ref a0, .long x1004, .int x1002, .int (((64 : Int32) * x2) + x3), .ref a0]) (fun hC _ _ _ _ _ _ hl k => lv_aload_n hC.1 hC.2.1 d_M_move_145 rfl (lv_at hl 0 rfl) k) ?_
      refine x_getR (ci := 4) (kf := 14) (r := (some a0)) (fun hC => w_get hC iw_4 rfl 14 (by decide) tw_328 rfl d_M_move_146) (fun r1005 => ?_)
      refine x_go (pc' := 151) (st' := [.int (64 : Int32), va_rf r1005, .long x1004, .int x1002, .int (((64 : Int32) * x2) + x3), .ref a0]) (fun hC _ _ _ _ _ _ hl k => lv_bipush (v := 64) hC.1 hC.2.1 d_M_move_149 (by decide) k) ?_
      refine x_go (pc' := 152) (st' := [.int x1, .int (64 : Int32), va_rf r1005, .long x1004, .int x1002, .int (((64 : Int32) * x2) + x3), .ref a0]) (fun hC _ _ _ _ _ _ hl k => lv_iload_n hC.1 hC.2.1 d_M_move_151 rfl (lv_at hl 1 rfl) k) ?_
      refine x_go (pc' := 153) (st' := [.int ((64 : Int32) * x1), va_rf r1005, .long x1004, .int x1002, .int (((64 : Int32) * x2) + x3), .ref a0]) (fun hC _ _ _ _ _ _ hl k => lv_imul hC.1 hC.2.1 d_M_move_152 k) ?_
      refine x_go (pc' := 154) (st' := [.int x3, .int ((64 : Int32) * x1), va_rf r1005, .long x1004, .int x1002, .int (((64 : Int32) * x2) + x3), .ref a0]) (fun hC _ _ _ _ _ _ hl k => lv_iload_n hC.1 hC.2.1 d_M_move_153 rfl (lv_at hl 3 rfl) k) ?_
      refine x_go (pc' := 155) (st' := [.int (((64 : Int32) * x1) + x3), va_rf r1005, .long x1004, .int x1002, .int (((64 : Int32) * x2) + x3), .ref a0]) (fun hC _ _ _ _ _ _ hl k => lv_iadd hC.1 hC.2.1 d_M_move_154 k) ?_
      refine x_lald (t := 0) rfl (r := r1005) (i := (((64 : Int32) * x1) + x3)) d_M_move_155 (fun x1006 => ?_)
      refine x_go (pc' := 157) (st' := [.ref a0, .long x1006, .long x1004, .int x1002, .int (((64 : Int32) * x2) + x3), .ref a0]) (fun hC _ _ _ _ _ _ hl k => lv_aload_n hC.1 hC.2.1 d_M_move_156 rfl (lv_at hl 0 rfl) k) ?_
      refine x_getR (ci := 4) (kf := 12) (r := (some a0)) (fun hC => w_get hC iw_4 rfl 12 (by decide) tw_326 rfl d_M_move_157) (fun r1007 => ?_)
      refine x_go (pc' := 162) (st' := [.int (64 : Int32), va_rf r1007, .long x1006, .long x1004, .int x1002, .int (((64 : Int32) * x2) + x3), .ref a0]) (fun hC _ _ _ _ _ _ hl k => lv_bipush (v := 64) hC.1 hC.2.1 d_M_move_160 (by decide) k) ?_
      refine x_go (pc' := 163) (st' := [.int x1, .int (64 : Int32), va_rf r1007, .long x1006, .long x1004, .int x1002, .int (((64 : Int32) * x2) + x3), .ref a0]) (fun hC _ _ _ _ _ _ hl k => lv_iload_n hC.1 hC.2.1 d_M_move_162 rfl (lv_at hl 1 rfl) k) ?_
      refine x_go (pc' := 164) (st' := [.int ((64 : Int32) * x1), va_rf r1007, .long x1006, .long x1004, .int x1002, .int (((64 : Int32) * x2) + x3), .ref a0]) (fun hC _ _ _ _ _ _ hl k => lv_imul hC.1 hC.2.1 d_M_move_163 k) ?_
      refine x_go (pc' := 165) (st' := [.int x3, .int ((64 : Int32) * x1), va_rf r1007, .long x1006, .long x1004, .int x1002, .int (((64 : Int32) * x2) + x3), .ref a0]) (fun hC _ _ _ _ _ _ hl k => lv_iload_n hC.1 hC.2.1 d_M_move_164 rfl (lv_at hl 3 rfl) k) ?_
      refine x_go (pc' := 166) (st' := [.int (((64 : Int32) * x1) + x3), va_rf r1007, .long x1006, .long x1004, .int x1002, .int (((64 : Int32) * x2) + x3), .ref a0]) (fun hC _ _ _ _ _ _ hl k => lv_iadd hC.1 hC.2.1 d_M_move_165 k) ?_
      refine x_iald (t := 4) rfl (r := r1007) (i := (((64 : Int32) * x1) + x3)) d_M_move_166 (fun x1008 => ?_)
      refine x_recv (ci := 4) (r := (some a0)) (fun b1010 _ eb1010 gb1010 => ?_)
      refine x_callU (rest := []) (c_M_setRange l B b1010 (((64 : Int32) * x2) + x3) x1002 x1004 x1006 x1008 h) (fun hC => fun e1 e2 e3 e4 hM => fun hR hsz hc hs => run_V (n := 5) hC lw_good rfl rfl tw_397 tw_399 tv_16 tw_3 tw_400 (by decide) d_M_move_167 gb1010 (by rw [e1]; exact Nat.le_of_ble_eq_true rfl) (by rw [e2]; exact Nat.le_of_ble_eq_true rfl) e3 e4 hM hR hsz hc hs rfl (by cases eb1010; rfl) (Nat.le_of_ble_eq_true rfl)) (fun h1009 => ?_)
      refine x_lift (pc' := 173) (st' := []) (lv' := [(3, .int (x3 + 1)), (0, .ref a0), (1, .int x1), (2, .int x2)]) (fun hC _ _ _ _ _ _ hl k => lv_iinc (v := (x3 + 1)) hC.1 hC.2.1 d_M_move_170 hl (k := 3) rfl rfl (by decide) rfl k) ?_
      refine x_go (pc' := 110) (st' := []) (fun hC _ _ _ _ _ _ hl k => lv_goto (tgt := 110) hC.1 hC.2.1 d_M_move_173 (by decide) k) ?_
      exact x_sub (lv' := [(0, .ref a0), (1, .int x1), (2, .int x2), (3, .int (x3 + 1))]) [1, 2, 3, 0] rfl (ih a0 x1 x2 (x3 + 1) h1009)
set_option maxHeartbeats 4000000 in
set_option maxRecDepth 100000 in
theorem x_M_move_b74 {p : Program} {l : Launch} {e : Env} {k1 k2 : Nat} {s : State} {m : MethodId} {args : Array Value} {below : List Frame} {meth : Method} {c : Code} {B : AB} {n0 m0 : Nat} : ∀ (n : Nat) (a0 : Nat) (x1 : Int32) (x2 : Int32) (x3 : Int32) (h : AH), X_M_move p l e k1 k2 s m args below meth c B n0 m0 h 74 [(0, .ref a0), (1, .int x1), (2, .int x2), (3, .int x3)] [] (f_M_move_b74 n a0 x1 x2 x3 h) := by
  intro n
  induction n with
  | zero => intro a0 x1 x2 x3 h; exact x_none
  | succ n ih =>
    intro a0 x1 x2 x3 h
    rw [f_M_move_b74]
    refine x_go (pc' := 75) (st' := [.int x3]) (fun hC _ _ _ _ _ _ hl k => lv_iload_n hC.1 hC.2.1 d_M_move_74 rfl (lv_at hl 3 rfl) k) ?_
    refine x_go (pc' := 77) (st' := [.int (8 : Int32), .int x3]) (fun hC _ _ _ _ _ _ hl k => lv_bipush (v := 8) hC.1 hC.2.1 d_M_move_75 (by decide) k) ?_
    refine x_if (P := (8 : Int32) ≤ x3) (pt := 108) (pf := 80) (st' := []) (fun hC _ _ _ _ _ _ kt kf => lv_icmp_ge (tgt := 108) hC.1 hC.2.1 d_M_move_77 (by decide) kt kf) ?_ ?_
    · refine x_go (pc' := 109) (st' := [.int (0 : Int32)]) (fun hC _ _ _ _ _ _ hl k => lv_iconst (v := 0) hC.1 hC.2.1 d_M_move_108 (by decide) k) ?_
      refine x_lift (pc' := 110) (st' := []) (lv' := [(3, .int (0 : Int32)), (0, .ref a0), (1, .int x1), (2, .int x2)]) (fun hC _ _ _ _ _ _ hl k => lv_istore_n (i := 3) hC.1 hC.2.1 d_M_move_109 rfl hl (by decide) rfl k) ?_
      exact x_sub (lv' := [(0, .ref a0), (1, .int x1), (2, .int x2), (3, .int (0 : Int32))]) [1, 2, 3, 0] rfl (x_M_move_b110 2000 a0 x1 x2 (0 : Int32) h)
    · refine x_go (pc' := 81) (st' := [.ref a0]) (fun hC _ _ _ _ _ _ hl k => lv_aload_n hC.1 hC.2.1 d_M_move_80 rfl (lv_at hl 0 rfl) k) ?_
      refine x_getR (ci := 4) (kf := 10) (r := (some a0)) (fun hC => w_get hC iw_4 rfl 10 (by decide) tw_324 rfl d_M_move_81) (fun r1001 => ?_)
      refine x_go (pc' := 86) (st' := [.int (8 : Int32), va_rf r1001]) (fun hC _ _ _ _ _ _ hl k => lv_bipush (v := 8) hC.1 hC.2.1 d_M_move_84 (by decide) k) ?_
      refine x_go (pc' := 87) (st' := [.int x2, .int (8 : Int32), va_rf r1001]) (fun hC _ _ _ _ _ _ hl k => lv_iload_n hC.1 hC.2.1 d_M_move_86 rfl (lv_at hl 2 rfl) k) ?_
      refine x_go (pc' := 88) (st' := [.int ((8 : Int32) * x2), va_rf r1001]) (fun hC _ _ _ _ _ _ hl k => lv_imul hC.1 hC.2.1 d_M_move_87 k) ?_
      refine x_go (pc' := 89) (st' := [.int x3, .int ((8 : Int32) * x2), va_rf r1001]) (fun hC _ _ _ _ _ _ hl k => lv_iload_n hC.1 hC.2.1 d_M_move_88 rfl (lv_at hl 3 rfl) k) ?_
      refine x_go (pc' := 90) (st' := [.int (((8 : Int32) * x2) + x3), va_rf r1001]) (fun hC _ _ _ _ _ _ hl k => lv_iadd hC.1 hC.2.1 d_M_move_89 k) ?_
      refine x_go (pc' := 91) (st' := [.ref a0, .int (((8 : Int32) * x2) + x3), va_rf r1001]) (fun hC _ _ _ _ _ _ hl k => lv_aload_n hC.1 hC.2.1 d_M_move_90 rfl (lv_at hl 0 rfl) k) ?_
      refine x_getR (ci := 4) (kf := 10) (r := (some a0)) (fun hC => w_get hC iw_4 rfl 10 (by decide) tw_324 rfl d_M_move_91) (fun r1002 => ?_)
      refine x_go (pc' := 96) (st' := [.int (8 : Int32), va_rf r1002, .int (((8 : Int32) * x2) + x3), va_rf r1001]) (fun hC _ _ _ _ _ _ hl k => lv_bipush (v := 8) hC.1 hC.2.1 d_M_move_94 (by decide) k) ?_
      refine x_go (pc' := 97) (st' := [.int x1, .int (8 : Int32), va_rf r1002, .int (((8 : Int32) * x2) + x3), va_rf r1001]) (fun hC _ _ _ _ _ _ hl k => lv_iload_n hC.1 hC.2.1 d_M_move_96 rfl (lv_at hl 1 rfl) k) ?_
      refine x_go (pc' := 98) (st' := [.int ((8 : Int32) * x1), va_rf r1002, .int (((8 : Int32) * x2) + x3), va_rf r1001]) (fun hC _ _ _ _ _ _ hl k => lv_imul hC.1 hC.2.1 d_M_move_97 k) ?_
      refine x_go (pc' := 99) (st' := [.int x3, .int ((8 : Int32) * x1), va_rf r1002, .int (((8 : Int32) * x2) + x3), va_rf r1001]) (fun hC _ _ _ _ _ _ hl k => lv_iload_n hC.1 hC.2.1 d_M_move_98 rfl (lv_at hl 3 rfl) k) ?_
      refine x_go (pc' := 100) (st' := [.int (((8 : Int32) * x1) + x3), va_rf r1002, .int (((8 : Int32) * x2) + x3), va_rf r1001]) (fun hC _ _ _ _ _ _ hl k => lv_iadd hC.1 hC.2.1 d_M_move_99 k) ?_
      refine x_iald (t := 4) rfl (r := r1002) (i := (((8 : Int32) * x1) + x3)) d_M_move_100 (fun x1003 => ?_)
      refine x_iast (t := 4) rfl (r := r1001) (i := (((8 : Int32) * x2) + x3)) (x := x1003) d_M_move_101 (fun h1004 => ?_)
      refine x_lift (pc' := 105) (st' := []) (lv' := [(3, .int (x3 + 1)), (0, .ref a0), (1, .int x1), (2, .int x2)]) (fun hC _ _ _ _ _ _ hl k => lv_iinc (v := (x3 + 1)) hC.1 hC.2.1 d_M_move_102 hl (k := 3) rfl rfl (by decide) rfl k) ?_
      refine x_go (pc' := 74) (st' := []) (fun hC _ _ _ _ _ _ hl k => lv_goto (tgt := 74) hC.1 hC.2.1 d_M_move_105 (by decide) k) ?_
      exact x_sub (lv' := [(0, .ref a0), (1, .int x1), (2, .int x2), (3, .int (x3 + 1))]) [1, 2, 3, 0] rfl (ih a0 x1 x2 (x3 + 1) h1004)
set_option maxHeartbeats 4000000 in
set_option maxRecDepth 100000 in
theorem c_M_move (l : Launch) (B : AB) (a0 : Nat) (x1 : Int32) (x2 : Int32) (h : AH) : CT l B y_M_move (Cond.code y_M_move b_M_move 4 (Option.none : Option Jvm.ClassFile.FieldType) :: lw_tt) 1 27 eU [.ref a0, .int x1, .int x2] h (f_M_move a0 x1 x2 h) := by
  refine ct_of (own := o_M) (nm := "move") (by decide +kernel) rfl rfl (Nat.le_of_ble_eq_true rfl) (fun p e k1 k2 s m args below meth c => ?_)
  refine x_sub (lv' := [(0, .ref a0), (1, .int x1), (2, .int x2)]) [0, 1, 2] rfl ?_
  unfold f_M_move
  refine x_go (pc' := 1) (st' := [.ref a0]) (fun hC _ _ _ _ _ _ hl k => lv_aload_n hC.1 hC.2.1 d_M_move_0 rfl (lv_at hl 0 rfl) k) ?_
  refine x_getR (ci := 4) (kf := 3) (r := (some a0)) (fun hC => w_get hC iw_4 rfl 3 (by decide) tw_317 rfl d_M_move_1) (fun r101 => ?_)
  refine x_go (pc' := 5) (st' := [.int x2, va_rf r101]) (fun hC _ _ _ _ _ _ hl k => lv_iload_n hC.1 hC.2.1 d_M_move_4 rfl (lv_at hl 2 rfl) k) ?_
  refine x_go (pc' := 6) (st' := [.ref a0, .int x2, va_rf r101]) (fun hC _ _ _ _ _ _ hl k => lv_aload_n hC.1 hC.2.1 d_M_move_5 rfl (lv_at hl 0 rfl) k) ?_
  refine x_getR (ci := 4) (kf := 3) (r := (some a0)) (fun hC => w_get hC iw_4 rfl 3 (by decide) tw_317 rfl d_M_move_6) (fun r102 => ?_)
  refine x_go (pc' := 10) (st' := [.int x1, va_rf r102, .int x2, va_rf r101]) (fun hC _ _ _ _ _ _ hl k => lv_iload_n hC.1 hC.2.1 d_M_move_9 rfl (lv_at hl 1 rfl) k) ?_
  refine x_iald (t := 4) rfl (r := r102) (i := x1) d_M_move_10 (fun x103 => ?_)
  refine x_iast (t := 4) rfl (r := r101) (i := x2) (x := x103) d_M_move_11 (fun h104 => ?_)
  refine x_go (pc' := 13) (st' := [.ref a0]) (fun hC _ _ _ _ _ _ hl k => lv_aload_n hC.1 hC.2.1 d_M_move_12 rfl (lv_at hl 0 rfl) k) ?_
  refine x_getR (ci := 4) (kf := 4) (r := (some a0)) (fun hC => w_get hC iw_4 rfl 4 (by decide) tw_318 rfl d_M_move_13) (fun r105 => ?_)
  refine x_go (pc' := 17) (st' := [.int x2, va_rf r105]) (fun hC _ _ _ _ _ _ hl k => lv_iload_n hC.1 hC.2.1 d_M_move_16 rfl (lv_at hl 2 rfl) k) ?_
  refine x_go (pc' := 18) (st' := [.ref a0, .int x2, va_rf r105]) (fun hC _ _ _ _ _ _ hl k => lv_aload_n hC.1 hC.2.1 d_M_move_17 rfl (lv_at hl 0 rfl) k) ?_
  refine x_getR (ci := 4) (kf := 4) (r := (some a0)) (fun hC => w_get hC iw_4 rfl 4 (by decide) tw_318 rfl d_M_move_18) (fun r106 => ?_)
  refine x_go (pc' := 22) (st' := [.int x1, va_rf r106, .int x2, va_rf r105]) (fun hC _ _ _ _ _ _ hl k => lv_iload_n hC.1 hC.2.1 d_M_move_21 rfl (lv_at hl 1 rfl) k) ?_
  refine x_iald (t := 4) rfl (r := r106) (i := x1) d_M_move_22 (fun x107 => ?_)
  refine x_iast (t := 4) rfl (r := r105) (i := x2) (x := x107) d_M_move_23 (fun h108 => ?_)
  refine x_go (pc' := 25) (st' := [.ref a0]) (fun hC _ _ _ _ _ _ hl k => lv_aload_n hC.1 hC.2.1 d_M_move_24 rfl (lv_at hl 0 rfl) k) ?_
  refine x_getR (ci := 4) (kf := 5) (r := (some a0)) (fun hC => w_get hC iw_4 rfl 5 (by decide) tw_319 rfl d_M_move_25) (fun r109 => ?_)
  refine x_go (pc' := 29) (st' := [.int x2, va_rf r109]) (fun hC _ _ _ _ _ _ hl k => lv_iload_n hC.1 hC.2.1 d_M_move_28 rfl (lv_at hl 2 rfl) k) ?_
  refine x_go (pc' := 30) (st' := [.ref a0, .int x2, va_rf r109]) (fun hC _ _ _ _ _ _ hl k => lv_aload_n hC.1 hC.2.1 d_M_move_29 rfl (lv_at hl 0 rfl) k) ?_
  refine x_getR (ci := 4) (kf := 5) (r := (some a0)) (fun hC => w_get hC iw_4 rfl 5 (by decide) tw_319 rfl d_M_move_30) (fun r110 => ?_)
  refine x_go (pc' := 34) (st' := [.int x1, va_rf r110, .int x2, va_rf r109]) (fun hC _ _ _ _ _ _ hl k => lv_iload_n hC.1 hC.2.1 d_M_move_33 rfl (lv_at hl 1 rfl) k) ?_
  refine x_iald (t := 4) rfl (r := r110) (i := x1) d_M_move_34 (fun x111 => ?_)
  refine x_iast (t := 4) rfl (r := r109) (i := x2) (x := x111) d_M_move_35 (fun h112 => ?_)
  refine x_go (pc' := 37) (st' := [.ref a0]) (fun hC _ _ _ _ _ _ hl k => lv_aload_n hC.1 hC.2.1 d_M_move_36 rfl (lv_at hl 0 rfl) k) ?_
  refine x_getR (ci := 4) (kf := 6) (r := (some a0)) (fun hC => w_get hC iw_4 rfl 6 (by decide) tw_320 rfl d_M_move_37) (fun r113 => ?_)
  refine x_go (pc' := 41) (st' := [.int x2, va_rf r113]) (fun hC _ _ _ _ _ _ hl k => lv_iload_n hC.1 hC.2.1 d_M_move_40 rfl (lv_at hl 2 rfl) k) ?_
  refine x_go (pc' := 42) (st' := [.ref a0, .int x2, va_rf r113]) (fun hC _ _ _ _ _ _ hl k => lv_aload_n hC.1 hC.2.1 d_M_move_41 rfl (lv_at hl 0 rfl) k) ?_
  refine x_getR (ci := 4) (kf := 6) (r := (some a0)) (fun hC => w_get hC iw_4 rfl 6 (by decide) tw_320 rfl d_M_move_42) (fun r114 => ?_)
  refine x_go (pc' := 46) (st' := [.int x1, va_rf r114, .int x2, va_rf r113]) (fun hC _ _ _ _ _ _ hl k => lv_iload_n hC.1 hC.2.1 d_M_move_45 rfl (lv_at hl 1 rfl) k) ?_
  refine x_iald (t := 4) rfl (r := r114) (i := x1) d_M_move_46 (fun x115 => ?_)
  refine x_iast (t := 4) rfl (r := r113) (i := x2) (x := x115) d_M_move_47 (fun h116 => ?_)
  refine x_go (pc' := 49) (st' := [.ref a0]) (fun hC _ _ _ _ _ _ hl k => lv_aload_n hC.1 hC.2.1 d_M_move_48 rfl (lv_at hl 0 rfl) k) ?_
  refine x_getR (ci := 4) (kf := 7) (r := (some a0)) (fun hC => w_get hC iw_4 rfl 7 (by decide) tw_321 rfl d_M_move_49) (fun r117 => ?_)
  refine x_go (pc' := 53) (st' := [.int x2, va_rf r117]) (fun hC _ _ _ _ _ _ hl k => lv_iload_n hC.1 hC.2.1 d_M_move_52 rfl (lv_at hl 2 rfl) k) ?_
  refine x_go (pc' := 54) (st' := [.ref a0, .int x2, va_rf r117]) (fun hC _ _ _ _ _ _ hl k => lv_aload_n hC.1 hC.2.1 d_M_move_53 rfl (lv_at hl 0 rfl) k) ?_
  refine x_getR (ci := 4) (kf := 7) (r := (some a0)) (fun hC => w_get hC iw_4 rfl 7 (by decide) tw_321 rfl d_M_move_54) (fun r118 => ?_)
  refine x_go (pc' := 58) (st' := [.int x1, va_rf r118, .int x2, va_rf r117]) (fun hC _ _ _ _ _ _ hl k => lv_iload_n hC.1 hC.2.1 d_M_move_57 rfl (lv_at hl 1 rfl) k) ?_
  refine x_zald (t := 1) rfl (r := r118) (i := x1) d_M_move_58 (fun x119 => ?_)
  refine x_zast (t := 1) rfl (r := r117) (i := x2) (x := x119) d_M_move_59 (fun h120 => ?_)
  refine x_go (pc' := 61) (st' := [.ref a0]) (fun hC _ _ _ _ _ _ hl k => lv_aload_n hC.1 hC.2.1 d_M_move_60 rfl (lv_at hl 0 rfl) k) ?_
  refine x_getR (ci := 4) (kf := 8) (r := (some a0)) (fun hC => w_get hC iw_4 rfl 8 (by decide) tw_322 rfl d_M_move_61) (fun r121 => ?_)
  refine x_go (pc' := 65) (st' := [.int x2, va_rf r121]) (fun hC _ _ _ _ _ _ hl k => lv_iload_n hC.1 hC.2.1 d_M_move_64 rfl (lv_at hl 2 rfl) k) ?_
  refine x_go (pc' := 66) (st' := [.ref a0, .int x2, va_rf r121]) (fun hC _ _ _ _ _ _ hl k => lv_aload_n hC.1 hC.2.1 d_M_move_65 rfl (lv_at hl 0 rfl) k) ?_
  refine x_getR (ci := 4) (kf := 8) (r := (some a0)) (fun hC => w_get hC iw_4 rfl 8 (by decide) tw_322 rfl d_M_move_66) (fun r122 => ?_)
  refine x_go (pc' := 70) (st' := [.int x1, va_rf r122, .int x2, va_rf r121]) (fun hC _ _ _ _ _ _ hl k => lv_iload_n hC.1 hC.2.1 d_M_move_69 rfl (lv_at hl 1 rfl) k) ?_
  refine x_iald (t := 4) rfl (r := r122) (i := x1) d_M_move_70 (fun x123 => ?_)
  refine x_iast (t := 4) rfl (r := r121) (i := x2) (x := x123) d_M_move_71 (fun h124 => ?_)
  refine x_go (pc' := 73) (st' := [.int (0 : Int32)]) (fun hC _ _ _ _ _ _ hl k => lv_iconst (v := 0) hC.1 hC.2.1 d_M_move_72 (by decide) k) ?_
  refine x_lift (pc' := 74) (st' := []) (lv' := [(3, .int (0 : Int32)), (0, .ref a0), (1, .int x1), (2, .int x2)]) (fun hC _ _ _ _ _ _ hl k => lv_istore_n (i := 3) hC.1 hC.2.1 d_M_move_73 rfl hl (by decide) rfl k) ?_
  exact x_sub (lv' := [(0, .ref a0), (1, .int x1), (2, .int x2), (3, .int (0 : Int32))]) [1, 2, 3, 0] rfl (x_M_move_b74 2000 a0 x1 x2 (0 : Int32) h124)
/-! SerialDeskModel.drop(I)V -/
theorem d_M_drop_0 : decode b_M_drop 0 = .ok (.iconst 0, 1) := by decide +kernel
theorem d_M_drop_1 : decode b_M_drop 1 = .ok (.istore_n 2, 1) := by decide +kernel
theorem d_M_drop_2 : decode b_M_drop 2 = .ok (.iload_n 2, 1) := by decide +kernel
theorem d_M_drop_3 : decode b_M_drop 3 = .ok (.aload_n 0, 1) := by decide +kernel
theorem d_M_drop_4 : decode b_M_drop 4 = .ok (.getfield 69, 3) := by decide +kernel
theorem d_M_drop_7 : decode b_M_drop 7 = .ok (.if_icmp .ge 51, 3) := by decide +kernel
theorem d_M_drop_10 : decode b_M_drop 10 = .ok (.iload_n 1, 1) := by decide +kernel
theorem d_M_drop_11 : decode b_M_drop 11 = .ok (.istore_n 3, 1) := by decide +kernel
theorem d_M_drop_12 : decode b_M_drop 12 = .ok (.iload_n 3, 1) := by decide +kernel
theorem d_M_drop_13 : decode b_M_drop 13 = .ok (.iconst 1, 1) := by decide +kernel
theorem d_M_drop_14 : decode b_M_drop 14 = .ok (.iadd, 1) := by decide +kernel
theorem d_M_drop_15 : decode b_M_drop 15 = .ok (.aload_n 0, 1) := by decide +kernel
theorem d_M_drop_16 : decode b_M_drop 16 = .ok (.getfield 69, 3) := by decide +kernel
theorem d_M_drop_19 : decode b_M_drop 19 = .ok (.if_icmp .ge 33, 3) := by decide +kernel
theorem d_M_drop_22 : decode b_M_drop 22 = .ok (.aload_n 0, 1) := by decide +kernel
theorem d_M_drop_23 : decode b_M_drop 23 = .ok (.getfield 29, 3) := by decide +kernel
theorem d_M_drop_26 : decode b_M_drop 26 = .ok (.bipush 64, 2) := by decide +kernel
theorem d_M_drop_28 : decode b_M_drop 28 = .ok (.iload_n 2, 1) := by decide +kernel
theorem d_M_drop_29 : decode b_M_drop 29 = .ok (.imul, 1) := by decide +kernel
theorem d_M_drop_30 : decode b_M_drop 30 = .ok (.iload_n 3, 1) := by decide +kernel
theorem d_M_drop_31 : decode b_M_drop 31 = .ok (.iadd, 1) := by decide +kernel
theorem d_M_drop_32 : decode b_M_drop 32 = .ok (.aload_n 0, 1) := by decide +kernel
theorem d_M_drop_33 : decode b_M_drop 33 = .ok (.getfield 29, 3) := by decide +kernel
theorem d_M_drop_36 : decode b_M_drop 36 = .ok (.bipush 64, 2) := by decide +kernel
theorem d_M_drop_38 : decode b_M_drop 38 = .ok (.iload_n 2, 1) := by decide +kernel
theorem d_M_drop_39 : decode b_M_drop 39 = .ok (.imul, 1) := by decide +kernel
theorem d_M_drop_40 : decode b_M_drop 40 = .ok (.iload_n 3, 1) := by decide +kernel
theorem d_M_drop_41 : decode b_M_drop 41 = .ok (.iadd, 1) := by decide +kernel
theorem d_M_drop_42 : decode b_M_drop 42 = .ok (.iconst 1, 1) := by decide +kernel
theorem d_M_drop_43 : decode b_M_drop 43 = .ok (.iadd, 1) := by decide +kernel
theorem d_M_drop_44 : decode b_M_drop 44 = .ok (.baload, 1) := by decide +kernel
theorem d_M_drop_45 : decode b_M_drop 45 = .ok (.bastore, 1) := by decide +kernel
theorem d_M_drop_46 : decode b_M_drop 46 = .ok (.iinc 3 1, 3) := by decide +kernel
theorem d_M_drop_49 : decode b_M_drop 49 = .ok (.goto (-37), 3) := by decide +kernel
theorem d_M_drop_52 : decode b_M_drop 52 = .ok (.iinc 2 1, 3) := by decide +kernel
theorem d_M_drop_55 : decode b_M_drop 55 = .ok (.goto (-53), 3) := by decide +kernel
theorem d_M_drop_58 : decode b_M_drop 58 = .ok (.iload_n 1, 1) := by decide +kernel
theorem d_M_drop_59 : decode b_M_drop 59 = .ok (.istore_n 2, 1) := by decide +kernel
theorem d_M_drop_60 : decode b_M_drop 60 = .ok (.iload_n 2, 1) := by decide +kernel
theorem d_M_drop_61 : decode b_M_drop 61 = .ok (.iconst 1, 1) := by decide +kernel
theorem d_M_drop_62 : decode b_M_drop 62 = .ok (.iadd, 1) := by decide +kernel
theorem d_M_drop_63 : decode b_M_drop 63 = .ok (.aload_n 0, 1) := by decide +kernel
theorem d_M_drop_64 : decode b_M_drop 64 = .ok (.getfield 69, 3) := by decide +kernel
theorem d_M_drop_67 : decode b_M_drop 67 = .ok (.if_icmp .ge 57, 3) := by decide +kernel
theorem d_M_drop_70 : decode b_M_drop 70 = .ok (.aload_n 0, 1) := by decide +kernel
theorem d_M_drop_71 : decode b_M_drop 71 = .ok (.iload_n 2, 1) := by decide +kernel
theorem d_M_drop_72 : decode b_M_drop 72 = .ok (.iconst 1, 1) := by decide +kernel
theorem d_M_drop_73 : decode b_M_drop 73 = .ok (.iadd, 1) := by decide +kernel
theorem d_M_drop_74 : decode b_M_drop 74 = .ok (.iload_n 2, 1) := by decide +kernel
theorem d_M_drop_75 : decode b_M_drop 75 = .ok (.invokevirtual 112, 3) := by decide +kernel
theorem d_M_drop_78 : decode b_M_drop 78 = .ok (.iconst 0, 1) := by decide +kernel
theorem d_M_drop_79 : decode b_M_drop 79 = .ok (.istore_n 3, 1) := by decide +kernel
theorem d_M_drop_80 : decode b_M_drop 80 = .ok (.iload_n 3, 1) := by decide +kernel
theorem d_M_drop_81 : decode b_M_drop 81 = .ok (.aload_n 0, 1) := by decide +kernel
theorem d_M_drop_82 : decode b_M_drop 82 = .ok (.getfield 69, 3) := by decide +kernel
theorem d_M_drop_85 : decode b_M_drop 85 = .ok (.if_icmp .ge 33, 3) := by decide +kernel
theorem d_M_drop_88 : decode b_M_drop 88 = .ok (.aload_n 0, 1) := by decide +kernel
theorem d_M_drop_89 : decode b_M_drop 89 = .ok (.getfield 29, 3) := by decide +kernel
theorem d_M_drop_92 : decode b_M_drop 92 = .ok (.bipush 64, 2) := by decide +kernel
theorem d_M_drop_94 : decode b_M_drop 94 = .ok (.iload_n 2, 1) := by decide +kernel
theorem d_M_drop_95 : decode b_M_drop 95 = .ok (.imul, 1) := by decide +kernel
theorem d_M_drop_96 : decode b_M_drop 96 = .ok (.iload_n 3, 1) := by decide +kernel
theorem d_M_drop_97 : decode b_M_drop 97 = .ok (.iadd, 1) := by decide +kernel
theorem d_M_drop_98 : decode b_M_drop 98 = .ok (.aload_n 0, 1) := by decide +kernel
theorem d_M_drop_99 : decode b_M_drop 99 = .ok (.getfield 29, 3) := by decide +kernel
theorem d_M_drop_102 : decode b_M_drop 102 = .ok (.bipush 64, 2) := by decide +kernel
theorem d_M_drop_104 : decode b_M_drop 104 = .ok (.iload_n 2, 1) := by decide +kernel
theorem d_M_drop_105 : decode b_M_drop 105 = .ok (.iconst 1, 1) := by decide +kernel
theorem d_M_drop_106 : decode b_M_drop 106 = .ok (.iadd, 1) := by decide +kernel
theorem d_M_drop_107 : decode b_M_drop 107 = .ok (.imul, 1) := by decide +kernel
theorem d_M_drop_108 : decode b_M_drop 108 = .ok (.iload_n 3, 1) := by decide +kernel
theorem d_M_drop_109 : decode b_M_drop 109 = .ok (.iadd, 1) := by decide +kernel
theorem d_M_drop_110 : decode b_M_drop 110 = .ok (.baload, 1) := by decide +kernel
theorem d_M_drop_111 : decode b_M_drop 111 = .ok (.bastore, 1) := by decide +kernel
theorem d_M_drop_112 : decode b_M_drop 112 = .ok (.iinc 3 1, 3) := by decide +kernel
theorem d_M_drop_115 : decode b_M_drop 115 = .ok (.goto (-35), 3) := by decide +kernel
theorem d_M_drop_118 : decode b_M_drop 118 = .ok (.iinc 2 1, 3) := by decide +kernel
theorem d_M_drop_121 : decode b_M_drop 121 = .ok (.goto (-61), 3) := by decide +kernel
theorem d_M_drop_124 : decode b_M_drop 124 = .ok (.aload_n 0, 1) := by decide +kernel
theorem d_M_drop_125 : decode b_M_drop 125 = .ok (.dup, 1) := by decide +kernel
theorem d_M_drop_126 : decode b_M_drop 126 = .ok (.getfield 69, 3) := by decide +kernel
theorem d_M_drop_129 : decode b_M_drop 129 = .ok (.iconst 1, 1) := by decide +kernel
theorem d_M_drop_130 : decode b_M_drop 130 = .ok (.isub, 1) := by decide +kernel
theorem d_M_drop_131 : decode b_M_drop 131 = .ok (.putfield 69, 3) := by decide +kernel
theorem d_M_drop_134 : decode b_M_drop 134 = .ok (.iconst 0, 1) := by decide +kernel
theorem d_M_drop_135 : decode b_M_drop 135 = .ok (.istore_n 2, 1) := by decide +kernel
theorem d_M_drop_136 : decode b_M_drop 136 = .ok (.iload_n 2, 1) := by decide +kernel
theorem d_M_drop_137 : decode b_M_drop 137 = .ok (.aload_n 0, 1) := by decide +kernel
theorem d_M_drop_138 : decode b_M_drop 138 = .ok (.getfield 69, 3) := by decide +kernel
theorem d_M_drop_141 : decode b_M_drop 141 = .ok (.if_icmp .gt 39, 3) := by decide +kernel
theorem d_M_drop_144 : decode b_M_drop 144 = .ok (.aload_n 0, 1) := by decide +kernel
theorem d_M_drop_145 : decode b_M_drop 145 = .ok (.getfield 29, 3) := by decide +kernel
theorem d_M_drop_148 : decode b_M_drop 148 = .ok (.bipush 64, 2) := by decide +kernel
theorem d_M_drop_150 : decode b_M_drop 150 = .ok (.aload_n 0, 1) := by decide +kernel
theorem d_M_drop_151 : decode b_M_drop 151 = .ok (.getfield 69, 3) := by decide +kernel
theorem d_M_drop_154 : decode b_M_drop 154 = .ok (.imul, 1) := by decide +kernel
theorem d_M_drop_155 : decode b_M_drop 155 = .ok (.iload_n 2, 1) := by decide +kernel
theorem d_M_drop_156 : decode b_M_drop 156 = .ok (.iadd, 1) := by decide +kernel
theorem d_M_drop_157 : decode b_M_drop 157 = .ok (.iconst 0, 1) := by decide +kernel
theorem d_M_drop_158 : decode b_M_drop 158 = .ok (.bastore, 1) := by decide +kernel
theorem d_M_drop_159 : decode b_M_drop 159 = .ok (.aload_n 0, 1) := by decide +kernel
theorem d_M_drop_160 : decode b_M_drop 160 = .ok (.getfield 29, 3) := by decide +kernel
theorem d_M_drop_163 : decode b_M_drop 163 = .ok (.bipush 64, 2) := by decide +kernel
theorem d_M_drop_165 : decode b_M_drop 165 = .ok (.iload_n 2, 1) := by decide +kernel
theorem d_M_drop_166 : decode b_M_drop 166 = .ok (.imul, 1) := by decide +kernel
theorem d_M_drop_167 : decode b_M_drop 167 = .ok (.aload_n 0, 1) := by decide +kernel
theorem d_M_drop_168 : decode b_M_drop 168 = .ok (.getfield 69, 3) := by decide +kernel
theorem d_M_drop_171 : decode b_M_drop 171 = .ok (.iadd, 1) := by decide +kernel
theorem d_M_drop_172 : decode b_M_drop 172 = .ok (.iconst 0, 1) := by decide +kernel
theorem d_M_drop_173 : decode b_M_drop 173 = .ok (.bastore, 1) := by decide +kernel
theorem d_M_drop_174 : decode b_M_drop 174 = .ok (.iinc 2 1, 3) := by decide +kernel
theorem d_M_drop_177 : decode b_M_drop 177 = .ok (.goto (-41), 3) := by decide +kernel
theorem d_M_drop_180 : decode b_M_drop 180 = .ok (.return_, 1) := by decide +kernel
abbrev X_M_drop (p : Program) (l : Launch) (e : Env) (k1 k2 : Nat) (s : State) (m : MethodId) (args : Array Value) (below : List Frame) (meth : Method) (c : Code) (B : AB) (n0 m0 : Nat) (h : AH) (pc : Nat) (lv : List (Nat × Value)) (st : List Value) (comp : Option (Unit × AH)) : Prop := XX p l e { frames := 2, cells := k1, slots := k2, locals := 50 } s m args below meth c b_M_drop o_M lw_tt 4 (Option.none : Option Jvm.ClassFile.FieldType) "drop" B n0 m0 (QM B below args s { frames := 2, cells := k1, slots := k2, locals := 50 } eU) h pc lv st comp
def f_M_drop_b12 (K2 : Nat → Int32 → Int32 → AH → Option (Unit × AH)) : Nat → Nat → Int32 → Int32 → Int32 → AH → Option (Unit × AH)
  | 0, _, _, _, _, _ => none
  | n + 1, a0, x1, x2, x3, h => (fI h 4 2 (some a0)).bind (fun x1001 => (if x1001 ≤ (x3 + (1 : Int32)) then K2 a0 x1 (x2 + 1) h else (fR h 4 9 (some a0)).bind (fun r1002 => (fR h 4 9 (some a0)).bind (fun r1003 => (lI h 1 r1003 ((((64 : Int32) * x2) + x3) + (1 : Int32))).bind (fun x1004 => (qE h 1 r1002 (((64 : Int32) * x2) + x3) x1004).bind (fun h1005 => f_M_drop_b12 K2 n a0 x1 x2 (x3 + 1) h1005))))))
def f_M_drop_b80 (K60 : Nat → Int32 → AH → Option (Unit × AH)) : Nat → Nat → Int32 → Int32 → AH → Option (Unit × AH)
  | 0, _, _, _, _ => none
  | n + 1, a0, x2, x3, h => (fI h 4 2 (some a0)).bind (fun x1001 => (if x1001 ≤ x3 then K60 a0 (x2 + 1) h else (fR h 4 9 (some a0)).bind (fun r1002 => (fR h 4 9 (some a0)).bind (fun r1003 => (lI h 1 r1003 (((64 : Int32) * (x2 + (1 : Int32))) + x3)).bind (fun x1004 => (qE h 1 r1002 (((64 : Int32) * x2) + x3) x1004).bind (fun h1005 => f_M_drop_b80 K60 n a0 x2 (x3 + 1) h1005))))))
def f_M_drop_b136 : Nat → Nat → Int32 → AH → Option (Unit × AH)
  | 0, _, _, _ => none
  | n + 1, a0, x2, h => (fI h 4 2 (some a0)).bind (fun x1001 => (if x1001 < x2 then some ((), h) else (fR h 4 9 (some a0)).bind (fun r1002 => (fI h 4 2 (some a0)).bind (fun x1003 => (qE h 1 r1002 (((64 : Int32) * x1003) + x2) (0 : Int32)).bind (fun h1004 => (fR h1004 4 9 (some a0)).bind (fun r1005 => (fI h1004 4 2 (some a0)).bind (fun x1006 => (qE h1004 1 r1005 (((64 : Int32) * x2) + x1006) (0 : Int32)).bind (fun h1007 => f_M_drop_b136 n a0 (x2 + 1) h1007))))))))
def f_M_drop_b60 : Nat → Nat → Int32 → AH → Option (Unit × AH)
  | 0, _, _, _ => none
  | n + 1, a0, x2, h => (fI h 4 2 (some a0)).bind (fun x1001 => (if x1001 ≤ (x2 + (1 : Int32)) then (fI h 4 2 (some a0)).bind (fun x1002 => (pF h 4 2 (some a0) (.int (x1002 - (1 : Int32)))).bind (fun h1003 => f_M_drop_b136 2000 a0 (0 : Int32) h1003)) else rcv h 4 (some a0) (fun b1005 => bndU (f_M_move b1005 (x2 + (1 : Int32)) x2 h) (fun h1004 => f_M_drop_b80 (f_M_drop_b60 n) 2000 a0 x2 (0 : Int32) h1004))))
def f_M_drop_b2 : Nat → Nat → Int32 → Int32 → AH → Option (Unit × AH)
  | 0, _, _, _, _ => none
  | n + 1, a0, x1, x2, h => (fI h 4 2 (some a0)).bind (fun x1001 => (if x1001 ≤ x2 then f_M_drop_b60 2000 a0 x1 h else f_M_drop_b12 (f_M_drop_b2 n) 2000 a0 x1 x2 x1 h))
def f_M_drop (a0 : Nat) (x1 : Int32) (h : AH) : Option (Unit × AH) := f_M_drop_b2 2000 a0 x1 (0 : Int32) h
set_option maxHeartbeats 4000000 in
set_option maxRecDepth 100000 in
theorem x_M_drop_b12 {p : Program} {l : Launch} {e : Env} {k1 k2 : Nat} {s : State} {m : MethodId} {args : Array Value} {below : List Frame} {meth : Method} {c : Code} {B : AB} {n0 m0 : Nat} (K2 : Nat → Int32 → Int32 → AH → Option (Unit × AH)) (hK2 : ∀ (a0 : Nat) (x1 : Int32) (x2 : Int32) (h : AH), X_M_drop p l e k1 k2 s m args below meth c B n0 m0 h 2 [(0, .ref a0), (1, .int x1), (2, .int x2)] [] (K2 a0 x1 x2 h)) : ∀ (n : Nat) (a0 : Nat) (x1 : Int32) (x2 : Int32) (x3 : Int32) (h : AH), X_M_drop p l e k1 k2 s m args below meth c B n0 m0 h 12 [(0, .ref a0), (1, .int x1), (2, .int x2), (3, .int x3)] [] (f_M_drop_b12 K2 n a0 x1 x2 x3 h) := by
  intro n
  induction n with
  | zero => intro a0 x1 x2 x3 h; exact x_none
  | succ n ih =>
    intro a0 x1 x2 x3 h
    rw [f_M_drop_b12]
    refine x_go (pc' := 13) (st' := [.int x3]) (fun hC _ _ _ _ _ _ hl k => lv_iload_n hC.1 hC.2.1 d_M_drop_12 rfl (lv_at hl 3 rfl) k) ?_
    refine x_go (pc' := 14) (st' := [.int (1 : Int32), .int x3]) (fun hC _ _ _ _ _ _ hl k => lv_iconst (v := 1) hC.1 hC.2.1 d_M_drop_13 (by decide) k) ?_
    refine x_go (pc' := 15) (st' := [.int (x3 + (1 : Int32))]) (fun hC _ _ _ _ _ _ hl k => lv_iadd hC.1 hC.2.1 d_M_drop_14 k) ?_
    refine x_go (pc' := 16) (st' := [.ref a0, .int (x3 + (1 : Int32))]) (fun hC _ _ _ _ _ _ hl k => lv_aload_n hC.1 hC.2.1 d_M_drop_15 rfl (lv_at hl 0 rfl) k) ?_
    refine x_getI (ci := 4) (kf := 2) (r := (some a0)) (fun hC => w_get hC iw_4 rfl 2 (by decide) tw_316 rfl d_M_drop_16) (fun x1001 => ?_)
    refine x_if (P := x1001 ≤ (x3 + (1 : Int32))) (pt := 52) (pf := 22) (st' := []) (fun hC _ _ _ _ _ _ kt kf => lv_icmp_ge (tgt := 52) hC.1 hC.2.1 d_M_drop_19 (by decide) kt kf) ?_ ?_
    · refine x_lift (pc' := 55) (st' := []) (lv' := [(2, .int (x2 + 1)), (0, .ref a0), (1, .int x1), (3, .int x3)]) (fun hC _ _ _ _ _ _ hl k => lv_iinc (v := (x2 + 1)) hC.1 hC.2.1 d_M_drop_52 hl (k := 2) rfl rfl (by decide) rfl k) ?_
      refine x_go (pc' := 2) (st' := []) (fun hC _ _ _ _ _ _ hl k => lv_goto (tgt := 2) hC.1 hC.2.1 d_M_drop_55 (by decide) k) ?_
      exact x_sub (lv' := [(0, .ref a0), (1, .int x1), (2, .int (x2 + 1))]) [1, 2, 0] rfl (hK2 a0 x1 (x2 + 1) h)
    · refine x_go (pc' := 23) (st' := [.ref a0]) (fun hC _ _ _ _ _ _ hl k => lv_aload_n hC.1 hC.2.1 d_M_drop_22 rfl (lv_at hl 0 rfl) k) ?_
      refine x_getR (ci := 4) (kf := 9) (r := (some a0)) (fun hC => w_get hC iw_4 rfl 9 (by decide) tw_323 rfl d_M_drop_23) (fun r1002 => ?_)
      refine x_go (pc' := 28) (st' := [.int (64 : Int32), va_rf r1002]) (fun hC _ _ _ _ _ _ hl k => lv_bipush (v := 64) hC.1 hC.2.1 d_M_drop_26 (by decide) k) ?_
      refine x_go (pc' := 29) (st' := [.int x2, .int (64 : Int32), va_rf r1002]) (fun hC _ _ _ _ _ _ hl k => lv_iload_n hC.1 hC.2.1 d_M_drop_28 rfl (lv_at hl 2 rfl) k) ?_
      refine x_go (pc' := 30) (st' := [.int ((64 : Int32) * x2), va_rf r1002]) (fun hC _ _ _ _ _ _ hl k => lv_imul hC.1 hC.2.1 d_M_drop_29 k) ?_
      refine x_go (pc' := 31) (st' := [.int x3, .int ((64 : Int32) * x2), va_rf r1002]) (fun hC _ _ _ _ _ _ hl k => lv_iload_n hC.1 hC.2.1 d_M_drop_30 rfl (lv_at hl 3 rfl) k) ?_
      refine x_go (pc' := 32) (st' := [.int (((64 : Int32) * x2) + x3), va_rf r1002]) (fun hC _ _ _ _ _ _ hl k => lv_iadd hC.1 hC.2.1 d_M_drop_31 k) ?_
      refine x_go (pc' := 33) (st' := [.ref a0, .int (((64 : Int32) * x2) + x3), va_rf r1002]) (fun hC _ _ _ _ _ _ hl k => lv_aload_n hC.1 hC.2.1 d_M_drop_32 rfl (lv_at hl 0 rfl) k) ?_
      refine x_getR (ci := 4) (kf := 9) (r := (some a0)) (fun hC => w_get hC iw_4 rfl 9 (by decide) tw_323 rfl d_M_drop_33) (fun r1003 => ?_)
      refine x_go (pc' := 38) (st' := [.int (64 : Int32), va_rf r1003, .int (((64 : Int32) * x2) + x3), va_rf r1002]) (fun hC _ _ _ _ _ _ hl k => lv_bipush (v := 64) hC.1 hC.2.1 d_M_drop_36 (by decide) k) ?_
      refine x_go (pc' := 39) (st' := [.int x2, .int (64 : Int32), va_rf r1003, .int (((64 : Int32) * x2) + x3), va_rf r1002]) (fun hC _ _ _ _ _ _ hl k => lv_iload_n hC.1 hC.2.1 d_M_drop_38 rfl (lv_at hl 2 rfl) k) ?_
      refine x_go (pc' := 40) (st' := [.int ((64 : Int32) * x2), va_rf r1003, .int (((64 : Int32) * x2) + x3), va_rf r1002]) (fun hC _ _ _ _ _ _ hl k => lv_imul hC.1 hC.2.1 d_M_drop_39 k) ?_
      refine x_go (pc' := 41) (st' := [.int x3, .int ((64 : Int32) * x2), va_rf r1003, .int (((64 : Int32) * x2) + x3), va_rf r1002]) (fun hC _ _ _ _ _ _ hl k => lv_iload_n hC.1 hC.2.1 d_M_drop_40 rfl (lv_at hl 3 rfl) k) ?_
      refine x_go (pc' := 42) (st' := [.int (((64 : Int32) * x2) + x3), va_rf r1003, .int (((64 : Int32) * x2) + x3), va_rf r1002]) (fun hC _ _ _ _ _ _ hl k => lv_iadd hC.1 hC.2.1 d_M_drop_41 k) ?_
      refine x_go (pc' := 43) (st' := [.int (1 : Int32), .int (((64 : Int32) * x2) + x3), va_rf r1003, .int (((64 : Int32) * x2) + x3), va_rf r1002]) (fun hC _ _ _ _ _ _ hl k => lv_iconst (v := 1) hC.1 hC.2.1 d_M_drop_42 (by decide) k) ?_
      refine x_go (pc' := 44) (st' := [.int ((((64 : Int32) * x2) + x3) + (1 : Int32)), va_rf r1003, .int (((64 : Int32) * x2) + x3), va_rf r1002]) (fun hC _ _ _ _ _ _ hl k => lv_iadd hC.1 hC.2.1 d_M_drop_43 k) ?_
      refine x_zald (t := 1) rfl (r := r1003) (i := ((((64 : Int32) * x2) + x3) + (1 : Int32))) d_M_drop_44 (fun x1004 => ?_)
      refine x_zast (t := 1) rfl (r := r1002) (i := (((64 : Int32) * x2) + x3)) (x := x1004) d_M_drop_45 (fun h1005 => ?_)
      refine x_lift (pc' := 49) (st' := []) (lv' := [(3, .int (x3 + 1)), (0, .ref a0), (1, .int x1), (2, .int x2)]) (fun hC _ _ _ _ _ _ hl k => lv_iinc (v := (x3 + 1)) hC.1 hC.2.1 d_M_drop_46 hl (k := 3) rfl rfl (by decide) rfl k) ?_
      refine x_go (pc' := 12) (st' := []) (fun hC _ _ _ _ _ _ hl k => lv_goto (tgt := 12) hC.1 hC.2.1 d_M_drop_49 (by decide) k) ?_
      exact x_sub (lv' := [(0, .ref a0), (1, .int x1), (2, .int x2), (3, .int (x3 + 1))]) [1, 2, 3, 0] rfl (ih a0 x1 x2 (x3 + 1) h1005)
set_option maxHeartbeats 4000000 in
set_option maxRecDepth 100000 in
theorem x_M_drop_b80 {p : Program} {l : Launch} {e : Env} {k1 k2 : Nat} {s : State} {m : MethodId} {args : Array Value} {below : List Frame} {meth : Method} {c : Code} {B : AB} {n0 m0 : Nat} (K60 : Nat → Int32 → AH → Option (Unit × AH)) (hK60 : ∀ (a0 : Nat) (x2 : Int32) (h : AH), X_M_drop p l e k1 k2 s m args below meth c B n0 m0 h 60 [(0, .ref a0), (2, .int x2)] [] (K60 a0 x2 h)) : ∀ (n : Nat) (a0 : Nat) (x2 : Int32) (x3 : Int32) (h : AH), X_M_drop p l e k1 k2 s m args below meth c B n0 m0 h 80 [(0, .ref a0), (2, .int x2), (3, .int x3)] [] (f_M_drop_b80 K60 n a0 x2 x3 h) := by
  intro n
  induction n with
  | zero => intro a0 x2 x3 h; exact x_none
  | succ n ih =>
    intro a0 x2 x3 h
    rw [f_M_drop_b80]
    refine x_go (pc' := 81) (st' := [.int x3]) (fun hC _ _ _ _ _ _ hl k => lv_iload_n hC.1 hC.2.1 d_M_drop_80 rfl (lv_at hl 2 rfl) k) ?_
    refine x_go (pc' := 82) (st' := [.ref a0, .int x3]) (fun hC _ _ _ _ _ _ hl k => lv_aload_n hC.1 hC.2.1 d_M_drop_81 rfl (lv_at hl 0 rfl) k) ?_
    refine x_getI (ci := 4) (kf := 2) (r := (some a0)) (fun hC => w_get hC iw_4 rfl 2 (by decide) tw_316 rfl d_M_drop_82) (fun x1001 => ?_)
    refine x_if (P := x1001 ≤ x3) (pt := 118) (pf := 88) (st' := []) (fun hC _ _ _ _ _ _ kt kf => lv_icmp_ge (tgt := 118) hC.1 hC.2.1 d_M_drop_85 (by decide) kt kf) ?_ ?_
    · refine x_lift (pc' := 121) (st' := []) (lv' := [(2, .int (x2 + 1)), (0, .ref a0), (3, .int x3)]) (fun hC _ _ _ _ _ _ hl k => lv_iinc (v := (x2 + 1)) hC.1 hC.2.1 d_M_drop_118 hl (k := 1) rfl rfl (by decide) rfl k) ?_
      refine x_go (pc' := 60) (st' := []) (fun hC _ _ _ _ _ _ hl k => lv_goto (tgt := 60) hC.1 hC.2.1 d_M_drop_121 (by decide) k) ?_
      exact x_sub (lv' := [(0, .ref a0), (2, .int (x2 + 1))]) [1, 0] rfl (hK60 a0 (x2 + 1) h)
    · refine x_go (pc' := 89) (st' := [.ref a0]) (fun hC _ _ _ _ _ _ hl k => lv_aload_n hC.1 hC.2.1 d_M_drop_88 rfl (lv_at hl 0 rfl) k) ?_
      refine x_getR (ci := 4) (kf := 9) (r := (some a0)) (fun hC => w_get hC iw_4 rfl 9 (by decide) tw_323 rfl d_M_drop_89) (fun r1002 => ?_)
      refine x_go (pc' := 94) (st' := [.int (64 : Int32), va_rf r1002]) (fun hC _ _ _ _ _ _ hl k => lv_bipush (v := 64) hC.1 hC.2.1 d_M_drop_92 (by decide) k) ?_
      refine x_go (pc' := 95) (st' := [.int x2, .int (64 : Int32), va_rf r1002]) (fun hC _ _ _ _ _ _ hl k => lv_iload_n hC.1 hC.2.1 d_M_drop_94 rfl (lv_at hl 1 rfl) k) ?_
      refine x_go (pc' := 96) (st' := [.int ((64 : Int32) * x2), va_rf r1002]) (fun hC _ _ _ _ _ _ hl k => lv_imul hC.1 hC.2.1 d_M_drop_95 k) ?_
      refine x_go (pc' := 97) (st' := [.int x3, .int ((64 : Int32) * x2), va_rf r1002]) (fun hC _ _ _ _ _ _ hl k => lv_iload_n hC.1 hC.2.1 d_M_drop_96 rfl (lv_at hl 2 rfl) k) ?_
      refine x_go (pc' := 98) (st' := [.int (((64 : Int32) * x2) + x3), va_rf r1002]) (fun hC _ _ _ _ _ _ hl k => lv_iadd hC.1 hC.2.1 d_M_drop_97 k) ?_
      refine x_go (pc' := 99) (st' := [.ref a0, .int (((64 : Int32) * x2) + x3), va_rf r1002]) (fun hC _ _ _ _ _ _ hl k => lv_aload_n hC.1 hC.2.1 d_M_drop_98 rfl (lv_at hl 0 rfl) k) ?_
      refine x_getR (ci := 4) (kf := 9) (r := (some a0)) (fun hC => w_get hC iw_4 rfl 9 (by decide) tw_323 rfl d_M_drop_99) (fun r1003 => ?_)
      refine x_go (pc' := 104) (st' := [.int (64 : Int32), va_rf r1003, .int (((64 : Int32) * x2) + x3), va_rf r1002]) (fun hC _ _ _ _ _ _ hl k => lv_bipush (v := 64) hC.1 hC.2.1 d_M_drop_102 (by decide) k) ?_
      refine x_go (pc' := 105) (st' := [.int x2, .int (64 : Int32), va_rf r1003, .int (((64 : Int32) * x2) + x3), va_rf r1002]) (fun hC _ _ _ _ _ _ hl k => lv_iload_n hC.1 hC.2.1 d_M_drop_104 rfl (lv_at hl 1 rfl) k) ?_
      refine x_go (pc' := 106) (st' := [.int (1 : Int32), .int x2, .int (64 : Int32), va_rf r1003, .int (((64 : Int32) * x2) + x3), va_rf r1002]) (fun hC _ _ _ _ _ _ hl k => lv_iconst (v := 1) hC.1 hC.2.1 d_M_drop_105 (by decide) k) ?_
      refine x_go (pc' := 107) (st' := [.int (x2 + (1 : Int32)), .int (64 : Int32), va_rf r1003, .int (((64 : Int32) * x2) + x3), va_rf r1002]) (fun hC _ _ _ _ _ _ hl k => lv_iadd hC.1 hC.2.1 d_M_drop_106 k) ?_
      refine x_go (pc' := 108) (st' := [.int ((64 : Int32) * (x2 + (1 : Int32))), va_rf r1003, .int (((64 : Int32) * x2) + x3), va_rf r1002]) (fun hC _ _ _ _ _ _ hl k => lv_imul hC.1 hC.2.1 d_M_drop_107 k) ?_
      refine x_go (pc' := 109) (st' := [.int x3, .int ((64 : Int32) * (x2 + (1 : Int32))), va_rf r1003, .int (((64 : Int32) * x2) + x3), va_rf r1002]) (fun hC _ _ _ _ _ _ hl k => lv_iload_n hC.1 hC.2.1 d_M_drop_108 rfl (lv_at hl 2 rfl) k) ?_
      refine x_go (pc' := 110) (st' := [.int (((64 : Int32) * (x2 + (1 : Int32))) + x3), va_rf r1003, .int (((64 : Int32) * x2) + x3), va_rf r1002]) (fun hC _ _ _ _ _ _ hl k => lv_iadd hC.1 hC.2.1 d_M_drop_109 k) ?_
      refine x_zald (t := 1) rfl (r := r1003) (i := (((64 : Int32) * (x2 + (1 : Int32))) + x3)) d_M_drop_110 (fun x1004 => ?_)
      refine x_zast (t := 1) rfl (r := r1002) (i := (((64 : Int32) * x2) + x3)) (x := x1004) d_M_drop_111 (fun h1005 => ?_)
      refine x_lift (pc' := 115) (st' := []) (lv' := [(3, .int (x3 + 1)), (0, .ref a0), (2, .int x2)]) (fun hC _ _ _ _ _ _ hl k => lv_iinc (v := (x3 + 1)) hC.1 hC.2.1 d_M_drop_112 hl (k := 2) rfl rfl (by decide) rfl k) ?_
      refine x_go (pc' := 80) (st' := []) (fun hC _ _ _ _ _ _ hl k => lv_goto (tgt := 80) hC.1 hC.2.1 d_M_drop_115 (by decide) k) ?_
      exact x_sub (lv' := [(0, .ref a0), (2, .int x2), (3, .int (x3 + 1))]) [1, 2, 0] rfl (ih a0 x2 (x3 + 1) h1005)
set_option maxHeartbeats 4000000 in
set_option maxRecDepth 100000 in
theorem x_M_drop_b136 {p : Program} {l : Launch} {e : Env} {k1 k2 : Nat} {s : State} {m : MethodId} {args : Array Value} {below : List Frame} {meth : Method} {c : Code} {B : AB} {n0 m0 : Nat} : ∀ (n : Nat) (a0 : Nat) (x2 : Int32) (h : AH), X_M_drop p l e k1 k2 s m args below meth c B n0 m0 h 136 [(0, .ref a0), (2, .int x2)] [] (f_M_drop_b136 n a0 x2 h) := by
  intro n
  induction n with
  | zero => intro a0 x2 h; exact x_none
  | succ n ih =>
    intro a0 x2 h
    rw [f_M_drop_b136]
    refine x_go (pc' := 137) (st' := [.int x2]) (fun hC _ _ _ _ _ _ hl k => lv_iload_n hC.1 hC.2.1 d_M_drop_136 rfl (lv_at hl 1 rfl) k) ?_
    refine x_go (pc' := 138) (st' := [.ref a0, .int x2]) (fun hC _ _ _ _ _ _ hl k => lv_aload_n hC.1 hC.2.1 d_M_drop_137 rfl (lv_at hl 0 rfl) k) ?_
    refine x_getI (ci := 4) (kf := 2) (r := (some a0)) (fun hC => w_get hC iw_4 rfl 2 (by decide) tw_316 rfl d_M_drop_138) (fun x1001 => ?_)
    refine x_if (P := x1001 < x2) (pt := 180) (pf := 144) (st' := []) (fun hC _ _ _ _ _ _ kt kf => lv_icmp_gt (tgt := 180) hC.1 hC.2.1 d_M_drop_141 (by decide) kt kf) ?_ ?_
    · exact x_vret d_M_drop_180
    · refine x_go (pc' := 145) (st' := [.ref a0]) (fun hC _ _ _ _ _ _ hl k => lv_aload_n hC.1 hC.2.1 d_M_drop_144 rfl (lv_at hl 0 rfl) k) ?_
      refine x_getR (ci := 4) (kf := 9) (r := (some a0)) (fun hC => w_get hC iw_4 rfl 9 (by decide) tw_323 rfl d_M_drop_145) (fun r1002 => ?_)
      refine x_go (pc' := 150) (st' := [.int (64 : Int32), va_rf r1002]) (fun hC _ _ _ _ _ _ hl k => lv_bipush (v := 64) hC.1 hC.2.1 d_M_drop_148 (by decide) k) ?_
      refine x_go (pc' := 151) (st' := [.ref a0, .int (64 : Int32), va_rf r1002]) (fun hC _ _ _ _ _ _ hl k => lv_aload_n hC.1 hC.2.1 d_M_drop_150 rfl (lv_at hl 0 rfl) k) ?_
      refine x_getI (ci := 4) (kf := 2) (r := (some a0)) (fun hC => w_get hC iw_4 rfl 2 (by decide) tw_316 rfl d_M_drop_151) (fun x1003 => ?_)
      refine x_go (pc' := 155) (st' := [.int ((64 : Int32) * x1003), va_rf r1002]) (fun hC _ _ _ _ _ _ hl k => lv_imul hC.1 hC.2.1 d_M_drop_154 k) ?_
      refine x_go (pc' := 156) (st' := [.int x2, .int ((64 : Int32) * x1003), va_rf r1002]) (fun hC _ _ _ _ _ _ hl k => lv_iload_n hC.1 hC.2.1 d_M_drop_155 rfl (lv_at hl 1 rfl) k) ?_
      refine x_go (pc' := 157) (st' := [.int (((64 : Int32) * x1003) + x2), va_rf r1002]) (fun hC _ _ _ _ _ _ hl k => lv_iadd hC.1 hC.2.1 d_M_drop_156 k) ?_
      refine x_go (pc' := 158) (st' := [.int (0 : Int32), .int (((64 : Int32) * x1003) + x2), va_rf r1002]) (fun hC _ _ _ _ _ _ hl k => lv_iconst (v := 0) hC.1 hC.2.1 d_M_drop_157 (by decide) k) ?_
      refine x_zast (t := 1) rfl (r := r1002) (i := (((64 : Int32) * x1003) + x2)) (x := (0 : Int32)) d_M_drop_158 (fun h1004 => ?_)
      refine x_go (pc' := 160) (st' := [.ref a0]) (fun hC _ _ _ _ _ _ hl k => lv_aload_n hC.1 hC.2.1 d_M_drop_159 rfl (lv_at hl 0 rfl) k) ?_
      refine x_getR (ci := 4) (kf := 9) (r := (some a0)) (fun hC => w_get hC iw_4 rfl 9 (by decide) tw_323 rfl d_M_drop_160) (fun r1005 => ?_)
      refine x_go (pc' := 165) (st' := [.int (64 : Int32), va_rf r1005]) (fun hC _ _ _ _ _ _ hl k => lv_bipush (v := 64) hC.1 hC.2.1 d_M_drop_163 (by decide) k) ?_
      refine x_go (pc' := 166) (st' := [.int x2, .int (64 : Int32), va_rf r1005]) (fun hC _ _ _ _ _ _ hl k => lv_iload_n hC.1 hC.2.1 d_M_drop_165 rfl (lv_at hl 1 rfl) k) ?_
      refine x_go (pc' := 167) (st' := [.int ((64 : Int32) * x2), va_rf r1005]) (fun hC _ _ _ _ _ _ hl k => lv_imul hC.1 hC.2.1 d_M_drop_166 k) ?_
      refine x_go (pc' := 168) (st' := [.ref a0, .int ((64 : Int32) * x2), va_rf r1005]) (fun hC _ _ _ _ _ _ hl k => lv_aload_n hC.1 hC.2.1 d_M_drop_167 rfl (lv_at hl 0 rfl) k) ?_
      refine x_getI (ci := 4) (kf := 2) (r := (some a0)) (fun hC => w_get hC iw_4 rfl 2 (by decide) tw_316 rfl d_M_drop_168) (fun x1006 => ?_)
      refine x_go (pc' := 172) (st' := [.int (((64 : Int32) * x2) + x1006), va_rf r1005]) (fun hC _ _ _ _ _ _ hl k => lv_iadd hC.1 hC.2.1 d_M_drop_171 k) ?_
      refine x_go (pc' := 173) (st' := [.int (0 : Int32), .int (((64 : Int32) * x2) + x1006), va_rf r1005]) (fun hC _ _ _ _ _ _ hl k => lv_iconst (v := 0) hC.1 hC.2.1 d_M_drop_172 (by decide) k) ?_
      refine x_zast (t := 1) rfl (r := r1005) (i := (((64 : Int32) * x2) + x1006)) (x := (0 : Int32)) d_M_drop_173 (fun h1007 => ?_)
      refine x_lift (pc' := 177) (st' := []) (lv' := [(2, .int (x2 + 1)), (0, .ref a0)]) (fun hC _ _ _ _ _ _ hl k => lv_iinc (v := (x2 + 1)) hC.1 hC.2.1 d_M_drop_174 hl (k := 1) rfl rfl (by decide) rfl k) ?_
      refine x_go (pc' := 136) (st' := []) (fun hC _ _ _ _ _ _ hl k => lv_goto (tgt := 136) hC.1 hC.2.1 d_M_drop_177 (by decide) k) ?_
      exact x_sub (lv' := [(0, .ref a0), (2, .int (x2 + 1))]) [1, 0] rfl (ih a0 (x2 + 1) h1007)
set_option maxHeartbeats 4000000 in
set_option maxRecDepth 100000 in
theorem x_M_drop_b60 {p : Program} {l : Launch} {e : Env} {k1 k2 : Nat} {s : State} {m : MethodId} {args : Array Value} {below : List Frame} {meth : Method} {c : Code} {B : AB} {n0 m0 : Nat} : ∀ (n : Nat) (a0 : Nat) (x2 : Int32) (h : AH), X_M_drop p l e k1 k2 s m args below meth c B n0 m0 h 60 [(0, .ref a0), (2, .int x2)] [] (f_M_drop_b60 n a0 x2 h) := by
  intro n
  induction n with
  | zero => intro a0 x2 h; exact x_none
  | succ n ih =>
    intro a0 x2 h
    rw [f_M_drop_b60]
    refine x_go (pc' := 61) (st' := [.int x2]) (fun hC _ _ _ _ _ _ hl k => lv_iload_n hC.1 hC.2.1 d_M_drop_60 rfl (lv_at hl 1 rfl) k) ?_
    refine x_go (pc' := 62) (st' := [.int (1 : Int32), .int x2]) (fun hC _ _ _ _ _ _ hl k => lv_iconst (v := 1) hC.1 hC.2.1 d_M_drop_61 (by decide) k) ?_
    refine x_go (pc' := 63) (st' := [.int (x2 + (1 : Int32))]) (fun hC _ _ _ _ _ _ hl k => lv_iadd hC.1 hC.2.1 d_M_drop_62 k) ?_
    refine x_go (pc' := 64) (st' := [.ref a0, .int (x2 + (1 : Int32))]) (fun hC _ _ _ _ _ _ hl k => lv_aload_n hC.1 hC.2.1 d_M_drop_63 rfl (lv_at hl 0 rfl) k) ?_
    refine x_getI (ci := 4) (kf := 2) (r := (some a0)) (fun hC => w_get hC iw_4 rfl 2 (by decide) tw_316 rfl d_M_drop_64) (fun x1001 => ?_)
    refine x_if (P := x1001 ≤ (x2 + (1 : Int32))) (pt := 124) (pf := 70) (st' := []) (fun hC _ _ _ _ _ _ kt kf => lv_icmp_ge (tgt := 124) hC.1 hC.2.1 d_M_drop_67 (by decide) kt kf) ?_ ?_
    · refine x_go (pc' := 125) (st' := [.ref a0]) (fun hC _ _ _ _ _ _ hl k => lv_aload_n hC.1 hC.2.1 d_M_drop_124 rfl (lv_at hl 0 rfl) k) ?_
      refine x_go (pc' := 126) (st' := [.ref a0, .ref a0]) (fun hC _ _ _ _ _ _ hl k => lv_dup hC.1 hC.2.1 d_M_drop_125 rfl k) ?_
      refine x_getI (ci := 4) (kf := 2) (r := (some a0)) (fun hC => w_get hC iw_4 rfl 2 (by decide) tw_316 rfl d_M_drop_126) (fun x1002 => ?_)
      refine x_go (pc' := 130) (st' := [.int (1 : Int32), .int x1002, .ref a0]) (fun hC _ _ _ _ _ _ hl k => lv_iconst (v := 1) hC.1 hC.2.1 d_M_drop_129 (by decide) k) ?_
      refine x_go (pc' := 131) (st' := [.int (x1002 - (1 : Int32)), .ref a0]) (fun hC _ _ _ _ _ _ hl k => lv_isub hC.1 hC.2.1 d_M_drop_130 k) ?_
      refine x_putF (ci := 4) (kf := 2) (r := (some a0)) (v := .int (x1002 - (1 : Int32))) (fun hC => w_put (ty := .int) hC iw_4 ft_4 ft_4_ok fn_4 rfl 2 (by decide) tw_316 rfl rfl (by decide +kernel) rfl rfl d_M_drop_131) (fun h1003 => ?_)
      refine x_go (pc' := 135) (st' := [.int (0 : Int32)]) (fun hC _ _ _ _ _ _ hl k => lv_iconst (v := 0) hC.1 hC.2.1 d_M_drop_134 (by decide) k) ?_
      refine x_lift (pc' := 136) (st' := []) (lv' := [(2, .int (0 : Int32)), (0, .ref a0)]) (fun hC _ _ _ _ _ _ hl k => lv_istore_n (i := 2) hC.1 hC.2.1 d_M_drop_135 rfl hl (by decide) rfl k) ?_
      exact x_sub (lv' := [(0, .ref a0), (2, .int (0 : Int32))]) [1, 0] rfl (x_M_drop_b136 2000 a0 (0 : Int32) h1003)
    · refine x_go (pc' := 71) (st' := [.ref a0]) (fun hC _ _ _ _ _ _ hl k => lv_aload_n hC.1 hC.2.1 d_M_drop_70 rfl (lv_at hl 0 rfl) k) ?_
      refine x_go (pc' := 72) (st' := [.int x2, .ref a0]) (fun hC _ _ _ _ _ _ hl k => lv_iload_n hC.1 hC.2.1 d_M_drop_71 rfl (lv_at hl 1 rfl) k) ?_
      refine x_go (pc' := 73) (st' := [.int (1 : Int32), .int x2, .ref a0]) (fun hC _ _ _ _ _ _ hl k => lv_iconst (v := 1) hC.1 hC.2.1 d_M_drop_72 (by decide) k) ?_
      refine x_go (pc' := 74) (st' := [.int (x2 + (1 : Int32)), .ref a0]) (fun hC _ _ _ _ _ _ hl k => lv_iadd hC.1 hC.2.1 d_M_drop_73 k) ?_
      refine x_go (pc' := 75) (st' := [.int x2, .int (x2 + (1 : Int32)), .ref a0]) (fun hC _ _ _ _ _ _ hl k => lv_iload_n hC.1 hC.2.1 d_M_drop_74 rfl (lv_at hl 1 rfl) k) ?_
      refine x_recv (ci := 4) (r := (some a0)) (fun b1005 _ eb1005 gb1005 => ?_)
      refine x_callU (rest := []) (c_M_move l B b1005 (x2 + (1 : Int32)) x2 h) (fun hC => fun e1 e2 e3 e4 hM => fun hR hsz hc hs => run_V (n := 2) hC lw_good rfl rfl tw_453 tw_455 tv_25 tw_3 tw_456 (by decide) d_M_drop_75 gb1005 (by rw [e1]; exact Nat.le_of_ble_eq_true rfl) (by rw [e2]; exact Nat.le_of_ble_eq_true rfl) e3 e4 hM hR hsz hc hs rfl (by cases eb1005; rfl) (Nat.le_of_ble_eq_true rfl)) (fun h1004 => ?_)
      refine x_go (pc' := 79) (st' := [.int (0 : Int32)]) (fun hC _ _ _ _ _ _ hl k => lv_iconst (v := 0) hC.1 hC.2.1 d_M_drop_78 (by decide) k) ?_
      refine x_lift (pc' := 80) (st' := []) (lv' := [(3, .int (0 : Int32)), (0, .ref a0), (2, .int x2)]) (fun hC _ _ _ _ _ _ hl k => lv_istore_n (i := 3) hC.1 hC.2.1 d_M_drop_79 rfl hl (by decide) rfl k) ?_
      exact x_sub (lv' := [(0, .ref a0), (2, .int x2), (3, .int (0 : Int32))]) [1, 2, 0] rfl (x_M_drop_b80 (f_M_drop_b60 n) ih 2000 a0 x2 (0 : Int32) h1004)
set_option maxHeartbeats 4000000 in
set_option maxRecDepth 100000 in
theorem x_M_drop_b2 {p : Program} {l : Launch} {e : Env} {k1 k2 : Nat} {s : State} {m : MethodId} {args : Array Value} {below : List Frame} {meth : Method} {c : Code} {B : AB} {n0 m0 : Nat} : ∀ (n : Nat) (a0 : Nat) (x1 : Int32) (x2 : Int32) (h : AH), X_M_drop p l e k1 k2 s m args below meth c B n0 m0 h 2 [(0, .ref a0), (1, .int x1), (2, .int x2)] [] (f_M_drop_b2 n a0 x1 x2 h) := by
  intro n
  induction n with
  | zero => intro a0 x1 x2 h; exact x_none
  | succ n ih =>
    intro a0 x1 x2 h
    rw [f_M_drop_b2]
    refine x_go (pc' := 3) (st' := [.int x2]) (fun hC _ _ _ _ _ _ hl k => lv_iload_n hC.1 hC.2.1 d_M_drop_2 rfl (lv_at hl 2 rfl) k) ?_
    refine x_go (pc' := 4) (st' := [.ref a0, .int x2]) (fun hC _ _ _ _ _ _ hl k => lv_aload_n hC.1 hC.2.1 d_M_drop_3 rfl (lv_at hl 0 rfl) k) ?_
    refine x_getI (ci := 4) (kf := 2) (r := (some a0)) (fun hC => w_get hC iw_4 rfl 2 (by decide) tw_316 rfl d_M_drop_4) (fun x1001 => ?_)
    refine x_if (P := x1001 ≤ x2) (pt := 58) (pf := 10) (st' := []) (fun hC _ _ _ _ _ _ kt kf => lv_icmp_ge (tgt := 58) hC.1 hC.2.1 d_M_drop_7 (by decide) kt kf) ?_ ?_
    · refine x_go (pc' := 59) (st' := [.int x1]) (fun hC _ _ _ _ _ _ hl k => lv_iload_n hC.1 hC.2.1 d_M_drop_58 rfl (lv_at hl 1 rfl) k) ?_
      refine x_lift (pc' := 60) (st' := []) (lv' := [(2, .int x1), (0, .ref a0), (1, .int x1)]) (fun hC _ _ _ _ _ _ hl k => lv_istore_n (i := 2) hC.1 hC.2.1 d_M_drop_59 rfl hl (by decide) rfl k) ?_
      exact x_sub (lv' := [(0, .ref a0), (2, .int x1)]) [1, 0] rfl (x_M_drop_b60 2000 a0 x1 h)
    · refine x_go (pc' := 11) (st' := [.int x1]) (fun hC _ _ _ _ _ _ hl k => lv_iload_n hC.1 hC.2.1 d_M_drop_10 rfl (lv_at hl 1 rfl) k) ?_
      refine x_lift (pc' := 12) (st' := []) (lv' := [(3, .int x1), (0, .ref a0), (1, .int x1), (2, .int x2)]) (fun hC _ _ _ _ _ _ hl k => lv_istore_n (i := 3) hC.1 hC.2.1 d_M_drop_11 rfl hl (by decide) rfl k) ?_
      exact x_sub (lv' := [(0, .ref a0), (1, .int x1), (2, .int x2), (3, .int x1)]) [1, 2, 3, 0] rfl (x_M_drop_b12 (f_M_drop_b2 n) ih 2000 a0 x1 x2 x1 h)
set_option maxHeartbeats 4000000 in
set_option maxRecDepth 100000 in
theorem c_M_drop (l : Launch) (B : AB) (a0 : Nat) (x1 : Int32) (h : AH) : CT l B y_M_drop (Cond.code y_M_drop b_M_drop 4 (Option.none : Option Jvm.ClassFile.FieldType) :: lw_tt) 2 50 eU [.ref a0, .int x1] h (f_M_drop a0 x1 h) := by
  refine ct_of (own := o_M) (nm := "drop") (by decide +kernel) rfl rfl (Nat.le_of_ble_eq_true rfl) (fun p e k1 k2 s m args below meth c => ?_)
  refine x_sub (lv' := [(0, .ref a0), (1, .int x1)]) [0, 1] rfl ?_
  unfold f_M_drop
  refine x_go (pc' := 1) (st' := [.int (0 : Int32)]) (fun hC _ _ _ _ _ _ hl k => lv_iconst (v := 0) hC.1 hC.2.1 d_M_drop_0 (by decide) k) ?_
  refine x_lift (pc' := 2) (st' := []) (lv' := [(2, .int (0 : Int32)), (0, .ref a0), (1, .int x1)]) (fun hC _ _ _ _ _ _ hl k => lv_istore_n (i := 2) hC.1 hC.2.1 d_M_drop_1 rfl hl (by decide) rfl k) ?_
  exact x_sub (lv' := [(0, .ref a0), (1, .int x1), (2, .int (0 : Int32))]) [1, 2, 0] rfl (x_M_drop_b2 2000 a0 x1 (0 : Int32) h)
