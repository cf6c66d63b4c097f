/-! SerialDeskModel.read(IIIJJI)I -/
theorem d_M_read_0 : decode b_M_read 0 = .ok (.aload_n 0, 1) := by decide +kernel
theorem d_M_read_1 : decode b_M_read 1 = .ok (.iload_n 1, 1) := by decide +kernel
theorem d_M_read_2 : decode b_M_read 2 = .ok (.invokevirtual 73, 3) := by decide +kernel
theorem d_M_read_5 : decode b_M_read 5 = .ok (.istore 9, 2) := by decide +kernel
theorem d_M_read_7 : decode b_M_read 7 = .ok (.iload_n 3, 1) := by decide +kernel
theorem d_M_read_8 : decode b_M_read 8 = .ok (.iconst (-1), 1) := by decide +kernel
theorem d_M_read_9 : decode b_M_read 9 = .ok (.if_icmp .ne 7, 3) := by decide +kernel
theorem d_M_read_12 : decode b_M_read 12 = .ok (.iconst 1, 1) := by decide +kernel
theorem d_M_read_13 : decode b_M_read 13 = .ok (.goto 4, 3) := by decide +kernel
theorem d_M_read_16 : decode b_M_read 16 = .ok (.iconst 0, 1) := by decide +kernel
theorem d_M_read_17 : decode b_M_read 17 = .ok (.istore 10, 2) := by decide +kernel
theorem d_M_read_19 : decode b_M_read 19 = .ok (.iload 9, 2) := by decide +kernel
theorem d_M_read_21 : decode b_M_read 21 = .ok (.ifCond .lt 41, 3) := by decide +kernel
theorem d_M_read_24 : decode b_M_read 24 = .ok (.iload_n 2, 1) := by decide +kernel
theorem d_M_read_25 : decode b_M_read 25 = .ok (.ifCond .lt 37, 3) := by decide +kernel
theorem d_M_read_28 : decode b_M_read 28 = .ok (.iload_n 2, 1) := by decide +kernel
theorem d_M_read_29 : decode b_M_read 29 = .ok (.bipush 7, 2) := by decide +kernel
theorem d_M_read_31 : decode b_M_read 31 = .ok (.if_icmp .gt 31, 3) := by decide +kernel
theorem d_M_read_34 : decode b_M_read 34 = .ok (.iload_n 3, 1) := by decide +kernel
theorem d_M_read_35 : decode b_M_read 35 = .ok (.iconst (-1), 1) := by decide +kernel
theorem d_M_read_36 : decode b_M_read 36 = .ok (.if_icmp .lt 26, 3) := by decide +kernel
theorem d_M_read_39 : decode b_M_read 39 = .ok (.iload_n 3, 1) := by decide +kernel
theorem d_M_read_40 : decode b_M_read 40 = .ok (.bipush 7, 2) := by decide +kernel
theorem d_M_read_42 : decode b_M_read 42 = .ok (.if_icmp .gt 20, 3) := by decide +kernel
theorem d_M_read_45 : decode b_M_read 45 = .ok (.iload 10, 2) := by decide +kernel
theorem d_M_read_47 : decode b_M_read 47 = .ok (.ifCond .ne 17, 3) := by decide +kernel
theorem d_M_read_50 : decode b_M_read 50 = .ok (.iload 8, 2) := by decide +kernel
theorem d_M_read_52 : decode b_M_read 52 = .ok (.ifCond .lt 10, 3) := by decide +kernel
theorem d_M_read_55 : decode b_M_read 55 = .ok (.iload 8, 2) := by decide +kernel
theorem d_M_read_57 : decode b_M_read 57 = .ok (.bipush 15, 2) := by decide +kernel
theorem d_M_read_59 : decode b_M_read 59 = .ok (.if_icmp .le 5, 3) := by decide +kernel
theorem d_M_read_62 : decode b_M_read 62 = .ok (.iconst (-1), 1) := by decide +kernel
theorem d_M_read_63 : decode b_M_read 63 = .ok (.ireturn, 1) := by decide +kernel
theorem d_M_read_64 : decode b_M_read 64 = .ok (.bipush 8, 2) := by decide +kernel
theorem d_M_read_66 : decode b_M_read 66 = .ok (.bipush 8, 2) := by decide +kernel
theorem d_M_read_68 : decode b_M_read 68 = .ok (.iload 9, 2) := by decide +kernel
theorem d_M_read_70 : decode b_M_read 70 = .ok (.imul, 1) := by decide +kernel
theorem d_M_read_71 : decode b_M_read 71 = .ok (.iload_n 2, 1) := by decide +kernel
theorem d_M_read_72 : decode b_M_read 72 = .ok (.iadd, 1) := by decide +kernel
theorem d_M_read_73 : decode b_M_read 73 = .ok (.imul, 1) := by decide +kernel
theorem d_M_read_74 : decode b_M_read 74 = .ok (.istore 11, 2) := by decide +kernel
theorem d_M_read_76 : decode b_M_read 76 = .ok (.aload_n 0, 1) := by decide +kernel
theorem d_M_read_77 : decode b_M_read 77 = .ok (.getfield 32, 3) := by decide +kernel
theorem d_M_read_80 : decode b_M_read 80 = .ok (.bipush 8, 2) := by decide +kernel
theorem d_M_read_82 : decode b_M_read 82 = .ok (.iload 9, 2) := by decide +kernel
theorem d_M_read_84 : decode b_M_read 84 = .ok (.imul, 1) := by decide +kernel
theorem d_M_read_85 : decode b_M_read 85 = .ok (.iload_n 2, 1) := by decide +kernel
theorem d_M_read_86 : decode b_M_read 86 = .ok (.iadd, 1) := by decide +kernel
theorem d_M_read_87 : decode b_M_read 87 = .ok (.iaload, 1) := by decide +kernel
theorem d_M_read_88 : decode b_M_read 88 = .ok (.istore 12, 2) := by decide +kernel
theorem d_M_read_90 : decode b_M_read 90 = .ok (.iload 12, 2) := by decide +kernel
theorem d_M_read_92 : decode b_M_read 92 = .ok (.ifCond .le 18, 3) := by decide +kernel
theorem d_M_read_95 : decode b_M_read 95 = .ok (.aload_n 0, 1) := by decide +kernel
theorem d_M_read_96 : decode b_M_read 96 = .ok (.getfield 35, 3) := by decide +kernel
theorem d_M_read_99 : decode b_M_read 99 = .ok (.iload 11, 2) := by decide +kernel
theorem d_M_read_101 : decode b_M_read 101 = .ok (.iaload, 1) := by decide +kernel
theorem d_M_read_102 : decode b_M_read 102 = .ok (.iconst (-1), 1) := by decide +kernel
theorem d_M_read_103 : decode b_M_read 103 = .ok (.if_icmp .ne 7, 3) := by decide +kernel
theorem d_M_read_106 : decode b_M_read 106 = .ok (.iconst 1, 1) := by decide +kernel
theorem d_M_read_107 : decode b_M_read 107 = .ok (.goto 4, 3) := by decide +kernel
theorem d_M_read_110 : decode b_M_read 110 = .ok (.iconst 0, 1) := by decide +kernel
theorem d_M_read_111 : decode b_M_read 111 = .ok (.istore 13, 2) := by decide +kernel
theorem d_M_read_113 : decode b_M_read 113 = .ok (.iload 11, 2) := by decide +kernel
theorem d_M_read_115 : decode b_M_read 115 = .ok (.istore 14, 2) := by decide +kernel
theorem d_M_read_117 : decode b_M_read 117 = .ok (.iload 14, 2) := by decide +kernel
theorem d_M_read_119 : decode b_M_read 119 = .ok (.iload 11, 2) := by decide +kernel
theorem d_M_read_121 : decode b_M_read 121 = .ok (.iload 12, 2) := by decide +kernel
theorem d_M_read_123 : decode b_M_read 123 = .ok (.iadd, 1) := by decide +kernel
theorem d_M_read_124 : decode b_M_read 124 = .ok (.if_icmp .ge 42, 3) := by decide +kernel
theorem d_M_read_127 : decode b_M_read 127 = .ok (.iload 10, 2) := by decide +kernel
theorem d_M_read_129 : decode b_M_read 129 = .ok (.ifCond .ne 37, 3) := by decide +kernel
theorem d_M_read_132 : decode b_M_read 132 = .ok (.iload 13, 2) := by decide +kernel
theorem d_M_read_134 : decode b_M_read 134 = .ok (.ifCond .ne 19, 3) := by decide +kernel
theorem d_M_read_137 : decode b_M_read 137 = .ok (.aload_n 0, 1) := by decide +kernel
theorem d_M_read_138 : decode b_M_read 138 = .ok (.iload 14, 2) := by decide +kernel
theorem d_M_read_140 : decode b_M_read 140 = .ok (.iload_n 3, 1) := by decide +kernel
theorem d_M_read_141 : decode b_M_read 141 = .ok (.lload 4, 2) := by decide +kernel
theorem d_M_read_143 : decode b_M_read 143 = .ok (.lload 6, 2) := by decide +kernel
theorem d_M_read_145 : decode b_M_read 145 = .ok (.iload 8, 2) := by decide +kernel
theorem d_M_read_147 : decode b_M_read 147 = .ok (.invokevirtual 83, 3) := by decide +kernel
theorem d_M_read_150 : decode b_M_read 150 = .ok (.ifCond .eq 7, 3) := by decide +kernel
theorem d_M_read_153 : decode b_M_read 153 = .ok (.iconst 1, 1) := by decide +kernel
theorem d_M_read_154 : decode b_M_read 154 = .ok (.goto 4, 3) := by decide +kernel
theorem d_M_read_157 : decode b_M_read 157 = .ok (.iconst 0, 1) := by decide +kernel
theorem d_M_read_158 : decode b_M_read 158 = .ok (.istore 13, 2) := by decide +kernel
theorem d_M_read_160 : decode b_M_read 160 = .ok (.iinc 14 1, 3) := by decide +kernel
theorem d_M_read_163 : decode b_M_read 163 = .ok (.goto (-46), 3) := by decide +kernel
theorem d_M_read_166 : decode b_M_read 166 = .ok (.iload 13, 2) := by decide +kernel
theorem d_M_read_168 : decode b_M_read 168 = .ok (.ifCond .eq 6, 3) := by decide +kernel
theorem d_M_read_171 : decode b_M_read 171 = .ok (.iload 12, 2) := by decide +kernel
theorem d_M_read_173 : decode b_M_read 173 = .ok (.ireturn, 1) := by decide +kernel
theorem d_M_read_174 : decode b_M_read 174 = .ok (.iload 10, 2) := by decide +kernel
theorem d_M_read_176 : decode b_M_read 176 = .ok (.ifCond .ne 10, 3) := by decide +kernel
theorem d_M_read_179 : decode b_M_read 179 = .ok (.iload 12, 2) := by decide +kernel
theorem d_M_read_181 : decode b_M_read 181 = .ok (.bipush 8, 2) := by decide +kernel
theorem d_M_read_183 : decode b_M_read 183 = .ok (.if_icmp .ne 28, 3) := by decide +kernel
theorem d_M_read_186 : decode b_M_read 186 = .ok (.aload_n 0, 1) := by decide +kernel
theorem d_M_read_187 : decode b_M_read 187 = .ok (.iload 11, 2) := by decide +kernel
theorem d_M_read_189 : decode b_M_read 189 = .ok (.iconst (-1), 1) := by decide +kernel
theorem d_M_read_190 : decode b_M_read 190 = .ok (.lconst 0, 1) := by decide +kernel
theorem d_M_read_191 : decode b_M_read 191 = .ok (.lconst 0, 1) := by decide +kernel
theorem d_M_read_192 : decode b_M_read 192 = .ok (.iconst 0, 1) := by decide +kernel
theorem d_M_read_193 : decode b_M_read 193 = .ok (.invokevirtual 87, 3) := by decide +kernel
theorem d_M_read_196 : decode b_M_read 196 = .ok (.aload_n 0, 1) := by decide +kernel
theorem d_M_read_197 : decode b_M_read 197 = .ok (.getfield 32, 3) := by decide +kernel
theorem d_M_read_200 : decode b_M_read 200 = .ok (.bipush 8, 2) := by decide +kernel
theorem d_M_read_202 : decode b_M_read 202 = .ok (.iload 9, 2) := by decide +kernel
theorem d_M_read_204 : decode b_M_read 204 = .ok (.imul, 1) := by decide +kernel
theorem d_M_read_205 : decode b_M_read 205 = .ok (.iload_n 2, 1) := by decide +kernel
theorem d_M_read_206 : decode b_M_read 206 = .ok (.iadd, 1) := by decide +kernel
theorem d_M_read_207 : decode b_M_read 207 = .ok (.iconst 1, 1) := by decide +kernel
theorem d_M_read_208 : decode b_M_read 208 = .ok (.iastore, 1) := by decide +kernel
theorem d_M_read_209 : decode b_M_read 209 = .ok (.iconst 1, 1) := by decide +kernel
theorem d_M_read_210 : decode b_M_read 210 = .ok (.ireturn, 1) := by decide +kernel
theorem d_M_read_211 : decode b_M_read 211 = .ok (.aload_n 0, 1) := by decide +kernel
theorem d_M_read_212 : decode b_M_read 212 = .ok (.iload 11, 2) := by decide +kernel
theorem d_M_read_214 : decode b_M_read 214 = .ok (.iload 12, 2) := by decide +kernel
theorem d_M_read_216 : decode b_M_read 216 = .ok (.iadd, 1) := by decide +kernel
theorem d_M_read_217 : decode b_M_read 217 = .ok (.iload_n 3, 1) := by decide +kernel
theorem d_M_read_218 : decode b_M_read 218 = .ok (.lload 4, 2) := by decide +kernel
theorem d_M_read_220 : decode b_M_read 220 = .ok (.lload 6, 2) := by decide +kernel
theorem d_M_read_222 : decode b_M_read 222 = .ok (.iload 8, 2) := by decide +kernel
theorem d_M_read_224 : decode b_M_read 224 = .ok (.invokevirtual 87, 3) := by decide +kernel
theorem d_M_read_227 : decode b_M_read 227 = .ok (.aload_n 0, 1) := by decide +kernel
theorem d_M_read_228 : decode b_M_read 228 = .ok (.getfield 32, 3) := by decide +kernel
theorem d_M_read_231 : decode b_M_read 231 = .ok (.bipush 8, 2) := by decide +kernel
theorem d_M_read_233 : decode b_M_read 233 = .ok (.iload 9, 2) := by decide +kernel
theorem d_M_read_235 : decode b_M_read 235 = .ok (.imul, 1) := by decide +kernel
theorem d_M_read_236 : decode b_M_read 236 = .ok (.iload_n 2, 1) := by decide +kernel
theorem d_M_read_237 : decode b_M_read 237 = .ok (.iadd, 1) := by decide +kernel
theorem d_M_read_238 : decode b_M_read 238 = .ok (.iload 12, 2) := by decide +kernel
theorem d_M_read_240 : decode b_M_read 240 = .ok (.iconst 1, 1) := by decide +kernel
theorem d_M_read_241 : decode b_M_read 241 = .ok (.iadd, 1) := by decide +kernel
theorem d_M_read_242 : decode b_M_read 242 = .ok (.iastore, 1) := by decide +kernel
theorem d_M_read_243 : decode b_M_read 243 = .ok (.iload 12, 2) := by decide +kernel
theorem d_M_read_245 : decode b_M_read 245 = .ok (.iconst 1, 1) := by decide +kernel
theorem d_M_read_246 : decode b_M_read 246 = .ok (.iadd, 1) := by decide +kernel
theorem d_M_read_247 : decode b_M_read 247 = .ok (.ireturn, 1) := by decide +kernel
abbrev X_M_read (p : Program) (l : Launch) (e : Env) (k1 k2 : Nat) (s : State) (m : MethodId) (args : Array Value) (below : List Frame) (meth : Method) (c : Code) (B : AB) (n0 m0 : Nat) (h : AH) (pc : Nat) (lv : List (Nat × Value)) (st : List Value) (comp : Option (Int32 × AH)) : Prop := XX p l e { frames := 1, cells := k1, slots := k2, locals := 28 } s m args below meth c b_M_read o_M lw_tt 15 (Option.some Jvm.ClassFile.FieldType.int) "read" B n0 m0 (QM B below args s { frames := 1, cells := k1, slots := k2, locals := 28 } eI) h pc lv st comp
def f_M_read_b153 (K117 : Nat → Int32 → Int32 → Int64 → Int64 → Int32 → Int32 → Int32 → Int32 → Int32 → Int32 → Int32 → AH → Option (Int32 × AH)) (a0 : Nat) (x2 : Int32) (x3 : Int32) (x4 : Int64) (x6 : Int64) (x8 : Int32) (x9 : Int32) (x10 : Int32) (x11 : Int32) (x12 : Int32) (x14 : Int32) (h : AH) : Option (Int32 × AH) := K117 a0 x2 x3 x4 x6 x8 x9 x10 x11 x12 (1 : Int32) (x14 + 1) h
def f_M_read_b186 (a0 : Nat) (x2 : Int32) (x9 : Int32) (x11 : Int32) (h : AH) : Option (Int32 × AH) := rcv h 4 (some a0) (fun b1002 => bndU (f_M_setRange b1002 x11 (-1 : Int32) (0 : Int64) (0 : Int64) (0 : Int32) h) (fun h1001 => (fR h1001 4 10 (some a0)).bind (fun r1003 => (pE h1001 4 r1003 (((8 : Int32) * x9) + x2) (.int (1 : Int32))).bind (fun h1004 => some ((1 : Int32), h1004)))))
def f_M_read_b166 (a0 : Nat) (x2 : Int32) (x3 : Int32) (x4 : Int64) (x6 : Int64) (x8 : Int32) (x9 : Int32) (x10 : Int32) (x11 : Int32) (x12 : Int32) (x13 : Int32) (h : AH) : Option (Int32 × AH) := (if x13 = 0 then (if x10 = 0 then (if x12 = (8 : Int32) then f_M_read_b186 a0 x2 x9 x11 h else rcv h 4 (some a0) (fun b1002 => bndU (f_M_setRange b1002 (x11 + x12) x3 x4 x6 x8 h) (fun h1001 => (fR h1001 4 10 (some a0)).bind (fun r1003 => (pE h1001 4 r1003 (((8 : Int32) * x9) + x2) (.int (x12 + (1 : Int32)))).bind (fun h1004 => some ((x12 + (1 : Int32)), h1004)))))) else f_M_read_b186 a0 x2 x9 x11 h) else some (x12, h))
def f_M_read_b117 : Nat → Nat → Int32 → Int32 → Int64 → Int64 → Int32 → Int32 → Int32 → Int32 → Int32 → Int32 → Int32 → AH → Option (Int32 × AH)
  | 0, _, _, _, _, _, _, _, _, _, _, _, _, _ => none
  | n + 1, a0, x2, x3, x4, x6, x8, x9, x10, x11, x12, x13, x14, h => (if (x11 + x12) ≤ x14 then f_M_read_b166 a0 x2 x3 x4 x6 x8 x9 x10 x11 x12 x13 h else (if x10 = 0 then (if x13 = 0 then rcv h 4 (some a0) (fun b1003 => bnd (f_M_isSame b1003 x14 x3 x4 x6 x8 h) (fun x1002 h1001 => (if x1002 = 0 then f_M_read_b117 n a0 x2 x3 x4 x6 x8 x9 x10 x11 x12 (0 : Int32) (x14 + 1) h1001 else f_M_read_b153 (f_M_read_b117 n) a0 x2 x3 x4 x6 x8 x9 x10 x11 x12 x14 h1001))) else f_M_read_b153 (f_M_read_b117 n) a0 x2 x3 x4 x6 x8 x9 x10 x11 x12 x14 h) else f_M_read_b166 a0 x2 x3 x4 x6 x8 x9 x10 x11 x12 x13 h))
def f_M_read_b110 (a0 : Nat) (x2 : Int32) (x3 : Int32) (x4 : Int64) (x6 : Int64) (x8 : Int32) (x9 : Int32) (x10 : Int32) (x11 : Int32) (x12 : Int32) (h : AH) : Option (Int32 × AH) := f_M_read_b117 2000 a0 x2 x3 x4 x6 x8 x9 x10 x11 x12 (0 : Int32) x11 h
def f_M_read_b64 (a0 : Nat) (x2 : Int32) (x3 : Int32) (x4 : Int64) (x6 : Int64) (x8 : Int32) (x9 : Int32) (x10 : Int32) (h : AH) : Option (Int32 × AH) := (fR h 4 10 (some a0)).bind (fun r1001 => (lI h 4 r1001 (((8 : Int32) * x9) + x2)).bind (fun x1002 => (if x1002 ≤ 0 then f_M_read_b110 a0 x2 x3 x4 x6 x8 x9 x10 ((8 : Int32) * (((8 : Int32) * x9) + x2)) x1002 h else (fR h 4 11 (some a0)).bind (fun r1003 => (lI h 4 r1003 ((8 : Int32) * (((8 : Int32) * x9) + x2))).bind (fun x1004 => (if x1004 = (-1 : Int32) then f_M_read_b117 2000 a0 x2 x3 x4 x6 x8 x9 x10 ((8 : Int32) * (((8 : Int32) * x9) + x2)) x1002 (1 : Int32) ((8 : Int32) * (((8 : Int32) * x9) + x2)) h else f_M_read_b110 a0 x2 x3 x4 x6 x8 x9 x10 ((8 : Int32) * (((8 : Int32) * x9) + x2)) x1002 h))))))
def f_M_read_b17 (a0 : Nat) (x2 : Int32) (x3 : Int32) (x4 : Int64) (x6 : Int64) (x8 : Int32) (x9 : Int32) (xs0 : Int32) (h : AH) : Option (Int32 × AH) := (if x9 < 0 then some ((-1 : Int32), h) else (if x2 < 0 then some ((-1 : Int32), h) else (if (7 : Int32) < x2 then some ((-1 : Int32), h) else (if x3 < (-1 : Int32) then some ((-1 : Int32), h) else (if (7 : Int32) < x3 then some ((-1 : Int32), h) else (if xs0 = 0 then (if x8 < 0 then some ((-1 : Int32), h) else (if x8 ≤ (15 : Int32) then f_M_read_b64 a0 x2 x3 x4 x6 x8 x9 xs0 h else some ((-1 : Int32), h))) else f_M_read_b64 a0 x2 x3 x4 x6 x8 x9 xs0 h))))))
def f_M_read (a0 : Nat) (x1 : Int32) (x2 : Int32) (x3 : Int32) (x4 : Int64) (x6 : Int64) (x8 : Int32) (h : AH) : Option (Int32 × AH) := rcv h 4 (some a0) (fun b103 => bnd (f_M_running b103 x1 h) (fun x102 h101 => (if x3 = (-1 : Int32) then f_M_read_b17 a0 x2 x3 x4 x6 x8 x102 (1 : Int32) h101 else f_M_read_b17 a0 x2 x3 x4 x6 x8 x102 (0 : Int32) h101)))
set_option maxHeartbeats 4000000 in
set_option maxRecDepth 100000 in
theorem x_M_read_b153 {p : Program} {l : Launch} {e : Env} {k1 k2 : Nat} {s : State} {m : MethodId} {args : Array Value} {below : List Frame} {meth : Method} {c : Code} {B : AB} {n0 m0 : Nat} (K117 : Nat → Int32 → Int32 → Int64 → Int64 → Int32 → Int32 → Int32 → Int32 → Int32 → Int32 → Int32 → AH → Option (Int32 × AH)) (hK117 : ∀ (a0 : Nat) (x2 : Int32) (x3 : Int32) (x4 : Int64) (x6 : Int64) (x8 : Int32) (x9 : Int32) (x10 : Int32) (x11 : Int32) (x12 : Int32) (x13 : Int32) (x14 : Int32) (h : AH), X_M_read p l e k1 k2 s m args below meth c B n0 m0 h 117 [(0, .ref a0), (2, .int x2), (3, .int x3), (4, .long x4), (6, .long x6), (8, .int x8), (9, .int x9), (10, .int x10), (11, .int x11), (12, .int x12), (13, .int x13), (14, .int x14)] [] (K117 a0 x2 x3 x4 x6 x8 x9 x10 x11 x12 x13 x14 h)) (a0 : Nat) (x2 : Int32) (x3 : Int32) (x4 : Int64) (x6 : Int64) (x8 : Int32) (x9 : Int32) (x10 : Int32) (x11 : Int32) (x12 : Int32) (x14 : Int32) (h : AH) : X_M_read p l e k1 k2 s m args below meth c B n0 m0 h 153 [(0, .ref a0), (2, .int x2), (3, .int x3), (4, .long x4), (6, .long x6), (8, .int x8), (9, .int x9), (10, .int x10), (11, .int x11), (12, .int x12), (14, .int x14)] [] (f_M_read_b153 K117 a0 x2 x3 x4 x6 x8 x9 x10 x11 x12 x14 h) := by
  unfold f_M_read_b153
  refine x_go (pc' := 154) (st' := [.int (1 : Int32)]) (fun hC _ _ _ _ _ _ hl k => lv_iconst (v := 1) hC.1 hC.2.1 d_M_read_153 (by decide) k) ?_
  refine x_go (pc' := 158) (st' := [.int (1 : Int32)]) (fun hC _ _ _ _ _ _ hl k => lv_goto (tgt := 158) hC.1 hC.2.1 d_M_read_154 (by decide) k) ?_
  refine x_lift (pc' := 160) (st' := []) (lv' := [(13, .int (1 : Int32)), (0, .ref a0), (2, .int x2), (3, .int x3), (4, .long x4), (6, .long x6), (8, .int x8), (9, .int x9), (10, .int x10), (11, .int x11), (12, .int x12), (14, .int x14)]) (fun hC _ _ _ _ _ _ hl k => lv_istore (i := 13) hC.1 hC.2.1 d_M_read_158 hl (by decide) rfl k) ?_
  refine x_lift (pc' := 163) (st' := []) (lv' := [(14, .int (x14 + 1)), (13, .int (1 : Int32)), (0, .ref a0), (2, .int x2), (3, .int x3), (4, .long x4), (6, .long x6), (8, .int x8), (9, .int x9), (10, .int x10), (11, .int x11), (12, .int x12)]) (fun hC _ _ _ _ _ _ hl k => lv_iinc (v := (x14 + 1)) hC.1 hC.2.1 d_M_read_160 hl (k := 11) rfl rfl (by decide) rfl k) ?_
  refine x_go (pc' := 117) (st' := []) (fun hC _ _ _ _ _ _ hl k => lv_goto (tgt := 117) hC.1 hC.2.1 d_M_read_163 (by decide) k) ?_
  exact x_sub (lv' := [(0, .ref a0), (2, .int x2), (3, .int x3), (4, .long x4), (6, .long x6), (8, .int x8), (9, .int x9), (10, .int x10), (11, .int x11), (12, .int x12), (13, .int (1 : Int32)), (14, .int (x14 + 1))]) [2, 3, 4, 5, 6, 7, 8, 9, 10, 11, 1, 0] rfl (hK117 a0 x2 x3 x4 x6 x8 x9 x10 x11 x12 (1 : Int32) (x14 + 1) h)
set_option maxHeartbeats 4000000 in
set_option maxRecDepth 100000 in
theorem x_M_read_b186 {p : Program} {l : Launch} {e : Env} {k1 k2 : Nat} {s : State} {m : MethodId} {args : Array Value} {below : List Frame} {meth : Method} {c : Code} {B : AB} {n0 m0 : Nat} (a0 : Nat) (x2 : Int32) (x9 : Int32) (x11 : Int32) (h : AH) : X_M_read p l e k1 k2 s m args below meth c B n0 m0 h 186 [(0, .ref a0), (2, .int x2), (9, .int x9), (11, .int x11)] [] (f_M_read_b186 a0 x2 x9 x11 h) := by
  unfold f_M_read_b186
  refine x_go (pc' := 187) (st' := [.ref a0]) (fun hC _ _ _ _ _ _ hl k => lv_aload_n hC.1 hC.2.1 d_M_read_186 rfl (lv_at hl 0 rfl) k) ?_
  refine x_go (pc' := 189) (st' := [.int x11, .ref a0]) (fun hC _ _ _ _ _ _ hl k => lv_iload hC.1 hC.2.1 d_M_read_187 (lv_at hl 3 rfl) k) ?_
  refine x_go (pc' := 190) (st' := [.int (-1 : Int32), .int x11, .ref a0]) (fun hC _ _ _ _ _ _ hl k => lv_iconst (v := -1) hC.1 hC.2.1 d_M_read_189 (by decide) k) ?_
  refine x_go (pc' := 191) (st' := [.long (0 : Int64), .int (-1 : Int32), .int x11, .ref a0]) (fun hC _ _ _ _ _ _ hl k => lv_lconst (v := 0) hC.1 hC.2.1 d_M_read_190 (by decide) k) ?_
  refine x_go (pc' := 192) (st' := [.long (0 : Int64), .long (0 : Int64), .int (-1 : Int32), .int x11, .ref a0]) (fun hC _ _ _ _ _ _ hl k => lv_lconst (v := 0) hC.1 hC.2.1 d_M_read_191 (by decide) k) ?_
  refine x_go (pc' := 193) (st' := [.int (0 : Int32), .long (0 : Int64), .long (0 : Int64), .int (-1 : Int32), .int x11, .ref a0]) (fun hC _ _ _ _ _ _ hl k => lv_iconst (v := 0) hC.1 hC.2.1 d_M_read_192 (by decide) k) ?_
  refine x_recv (ci := 4) (r := (some a0)) (fun b1002 _ eb1002 gb1002 => ?_)
  refine x_callU (rest := []) (c_M_setRange l B b1002 x11 (-1 : Int32) (0 : Int64) (0 : Int64) (0 : Int32) h) (fun hC => fun e1 e2 e3 e4 hM => fun hR hsz hc hs => run_V (n := 5) hC lw_good rfl rfl tw_397 tw_399 tv_16 tw_3 tw_400 (by decide) d_M_read_193 gb1002 (by rw [e1]; exact Nat.le_of_ble_eq_true rfl) (by rw [e2]; exact Nat.le_of_ble_eq_true rfl) e3 e4 hM hR hsz hc hs rfl (by cases eb1002; rfl) (Nat.le_of_ble_eq_true rfl)) (fun h1001 => ?_)
  refine x_go (pc' := 197) (st' := [.ref a0]) (fun hC _ _ _ _ _ _ hl k => lv_aload_n hC.1 hC.2.1 d_M_read_196 rfl (lv_at hl 0 rfl) k) ?_
  refine x_getR (ci := 4) (kf := 10) (r := (some a0)) (fun hC => w_get hC iw_4 rfl 10 (by decide) tw_324 rfl d_M_read_197) (fun r1003 => ?_)
  refine x_go (pc' := 202) (st' := [.int (8 : Int32), va_rf r1003]) (fun hC _ _ _ _ _ _ hl k => lv_bipush (v := 8) hC.1 hC.2.1 d_M_read_200 (by decide) k) ?_
  refine x_go (pc' := 204) (st' := [.int x9, .int (8 : Int32), va_rf r1003]) (fun hC _ _ _ _ _ _ hl k => lv_iload hC.1 hC.2.1 d_M_read_202 (lv_at hl 2 rfl) k) ?_
  refine x_go (pc' := 205) (st' := [.int ((8 : Int32) * x9), va_rf r1003]) (fun hC _ _ _ _ _ _ hl k => lv_imul hC.1 hC.2.1 d_M_read_204 k) ?_
  refine x_go (pc' := 206) (st' := [.int x2, .int ((8 : Int32) * x9), va_rf r1003]) (fun hC _ _ _ _ _ _ hl k => lv_iload_n hC.1 hC.2.1 d_M_read_205 rfl (lv_at hl 1 rfl) k) ?_
  refine x_go (pc' := 207) (st' := [.int (((8 : Int32) * x9) + x2), va_rf r1003]) (fun hC _ _ _ _ _ _ hl k => lv_iadd hC.1 hC.2.1 d_M_read_206 k) ?_
  refine x_go (pc' := 208) (st' := [.int (1 : Int32), .int (((8 : Int32) * x9) + x2), va_rf r1003]) (fun hC _ _ _ _ _ _ hl k => lv_iconst (v := 1) hC.1 hC.2.1 d_M_read_207 (by decide) k) ?_
  refine x_iast (t := 4) rfl (r := r1003) (i := (((8 : Int32) * x9) + x2)) (x := (1 : Int32)) d_M_read_208 (fun h1004 => ?_)
  refine x_go (pc' := 210) (st' := [.int (1 : Int32)]) (fun hC _ _ _ _ _ _ hl k => lv_iconst (v := 1) hC.1 hC.2.1 d_M_read_209 (by decide) k) ?_
  exact x_iret d_M_read_210
set_option maxHeartbeats 4000000 in
set_option maxRecDepth 100000 in
theorem x_M_read_b166 {p : Program} {l : Launch} {e : Env} {k1 k2 : Nat} {s : State} {m : MethodId} {args : Array Value} {below : List Frame} {meth : Method} {c : Code} {B : AB} {n0 m0 : Nat} (a0 : Nat) (x2 : Int32) (x3 : Int32) (x4 : Int64) (x6 : Int64) (x8 : Int32) (x9 : Int32) (x10 : Int32) (x11 : Int32) (x12 : Int32) (x13 : Int32) (h : AH) : X_M_read p l e k1 k2 s m args below meth c B n0 m0 h 166 [(0, .ref a0), (2, .int x2), (3, .int x3), (4, .long x4), (6, .long x6), (8, .int x8), (9, .int x9), (10, .int x10), (11, .int x11), (12, .int x12), (13, .int x13)] [] (f_M_read_b166 a0 x2 x3 x4 x6 x8 x9 x10 x11 x12 x13 h) := by
  unfold f_M_read_b166
  refine x_go (pc' := 168) (st' := [.int x13]) (fun hC _ _ _ _ _ _ hl k => lv_iload hC.1 hC.2.1 d_M_read_166 (lv_at hl 10 rfl) k) ?_
  refine x_if (P := x13 = 0) (pt := 174) (pf := 171) (st' := []) (fun hC _ _ _ _ _ _ kt kf => lv_if_eq (tgt := 174) hC.1 hC.2.1 d_M_read_168 (by decide) kt kf) ?_ ?_
  · refine x_go (pc' := 176) (st' := [.int x10]) (fun hC _ _ _ _ _ _ hl k => lv_iload hC.1 hC.2.1 d_M_read_174 (lv_at hl 7 rfl) k) ?_
    refine x_if (P := x10 = 0) (pt := 179) (pf := 186) (st' := []) (fun hC _ _ _ _ _ _ kt kf => lv_if_ne (tgt := 186) hC.1 hC.2.1 d_M_read_176 (by decide) kf kt) ?_ ?_
    · refine x_go (pc' := 181) (st' := [.int x12]) (fun hC _ _ _ _ _ _ hl k => lv_iload hC.1 hC.2.1 d_M_read_179 (lv_at hl 9 rfl) k) ?_
      refine x_go (pc' := 183) (st' := [.int (8 : Int32), .int x12]) (fun hC _ _ _ _ _ _ hl k => lv_bipush (v := 8) hC.1 hC.2.1 d_M_read_181 (by decide) k) ?_
      refine x_if (P := x12 = (8 : Int32)) (pt := 186) (pf := 211) (st' := []) (fun hC _ _ _ _ _ _ kt kf => lv_icmp_ne (tgt := 211) hC.1 hC.2.1 d_M_read_183 (by decide) kf kt) ?_ ?_
      · exact x_sub (lv' := [(0, .ref a0), (2, .int x2), (9, .int x9), (11, .int x11)]) [0, 1, 6, 8] rfl (x_M_read_b186 a0 x2 x9 x11 h)
      · refine x_go (pc' := 212) (st' := [.ref a0]) (fun hC _ _ _ _ _ _ hl k => lv_aload_n hC.1 hC.2.1 d_M_read_211 rfl (lv_at hl 0 rfl) k) ?_
        refine x_go (pc' := 214) (st' := [.int x11, .ref a0]) (fun hC _ _ _ _ _ _ hl k => lv_iload hC.1 hC.2.1 d_M_read_212 (lv_at hl 8 rfl) k) ?_
        refine x_go (pc' := 216) (st' := [.int x12, .int x11, .ref a0]) (fun hC _ _ _ _ _ _ hl k => lv_iload hC.1 hC.2.1 d_M_read_214 (lv_at hl 9 rfl) k) ?_
        refine x_go (pc' := 217) (st' := [.int (x11 + x12), .ref a0]) (fun hC _ _ _ _ _ _ hl k => lv_iadd hC.1 hC.2.1 d_M_read_216 k) ?_
        refine x_go (pc' := 218) (st' := [.int x3, .int (x11 + x12), .ref a0]) (fun hC _ _ _ _ _ _ hl k => lv_iload_n hC.1 hC.2.1 d_M_read_217 rfl (lv_at hl 2 rfl) k) ?_
        refine x_go (pc' := 220) (st' := [.long x4, .int x3, .int (x11 + x12), .ref a0]) (fun hC _ _ _ _ _ _ hl k => lv_lload hC.1 hC.2.1 d_M_read_218 (lv_at hl 3 rfl) k) ?_
        refine x_go (pc' := 222) (st' := [.long x6, .long x4, .int x3, .int (x11 + x12), .ref a0]) (fun hC _ _ _ _ _ _ hl k => lv_lload hC.1 hC.2.1 d_M_read_220 (lv_at hl 4 rfl) k) ?_
        refine x_go (pc' := 224) (st' := [.int x8, .long x6, .long x4, .int x3, .int (x11 + x12), .ref a0]) (fun hC _ _ _ _ _ _ hl k => lv_iload hC.1 hC.2.1 d_M_read_222 (lv_at hl 5 rfl) k) ?_
        refine x_recv (ci := 4) (r := (some a0)) (fun b1002 _ eb1002 gb1002 => ?_)
        refine x_callU (rest := []) (c_M_setRange l B b1002 (x11 + x12) x3 x4 x6 x8 h) (fun hC => fun e1 e2 e3 e4 hM => fun hR hsz hc hs => run_V (n := 5) hC lw_good rfl rfl tw_397 tw_399 tv_16 tw_3 tw_400 (by decide) d_M_read_224 gb1002 (by rw [e1]; exact Nat.le_of_ble_eq_true rfl) (by rw [e2]; exact Nat.le_of_ble_eq_true rfl) e3 e4 hM hR hsz hc hs rfl (by cases eb1002; rfl) (Nat.le_of_ble_eq_true rfl)) (fun h1001 => ?_)
        refine x_go (pc' := 228) (st' := [.ref a0]) (fun hC _ _ _ _ _ _ hl k => lv_aload_n hC.1 hC.2.1 d_M_read_227 rfl (lv_at hl 0 rfl) k) ?_
        refine x_getR (ci := 4) (kf := 10) (r := (some a0)) (fun hC => w_get hC iw_4 rfl 10 (by decide) tw_324 rfl d_M_read_228) (fun r1003 => ?_)
        refine x_go (pc' := 233) (st' := [.int (8 : Int32), va_rf r1003]) (fun hC _ _ _ _ _ _ hl k => lv_bipush (v := 8) hC.1 hC.2.1 d_M_read_231 (by decide) k) ?_
        refine x_go (pc' := 235) (st' := [.int x9, .int (8 : Int32), va_rf r1003]) (fun hC _ _ _ _ _ _ hl k => lv_iload hC.1 hC.2.1 d_M_read_233 (lv_at hl 6 rfl) k) ?_
        refine x_go (pc' := 236) (st' := [.int ((8 : Int32) * x9), va_rf r1003]) (fun hC _ _ _ _ _ _ hl k => lv_imul hC.1 hC.2.1 d_M_read_235 k) ?_
        refine x_go (pc' := 237) (st' := [.int x2, .int ((8 : Int32) * x9), va_rf r1003]) (fun hC _ _ _ _ _ _ hl k => lv_iload_n hC.1 hC.2.1 d_M_read_236 rfl (lv_at hl 1 rfl) k) ?_
        refine x_go (pc' := 238) (st' := [.int (((8 : Int32) * x9) + x2), va_rf r1003]) (fun hC _ _ _ _ _ _ hl k => lv_iadd hC.1 hC.2.1 d_M_read_237 k) ?_
        refine x_go (pc' := 240) (st' := [.int x12, .int (((8 : Int32) * x9) + x2), va_rf r1003]) (fun hC _ _ _ _ _ _ hl k => lv_iload hC.1 hC.2.1 d_M_read_238 (lv_at hl 9 rfl) k) ?_
        refine x_go (pc' := 241) (st' := [.int (1 : Int32), .int x12, .int (((8 : Int32) * x9) + x2), va_rf r1003]) (fun hC _ _ _ _ _ _ hl k => lv_iconst (v := 1) hC.1 hC.2.1 d_M_read_240 (by decide) k) ?_
        refine x_go (pc' := 242) (st' := [.int (x12 + (1 : Int32)), .int (((8 : Int32) * x9) + x2), va_rf r1003]) (fun hC _ _ _ _ _ _ hl k => lv_iadd hC.1 hC.2.1 d_M_read_241 k) ?_
        refine x_iast (t := 4) rfl (r := r1003) (i := (((8 : Int32) * x9) + x2)) (x := (x12 + (1 : Int32))) d_M_read_242 (fun h1004 => ?_)
        refine x_go (pc' := 245) (st' := [.int x12]) (fun hC _ _ _ _ _ _ hl k => lv_iload hC.1 hC.2.1 d_M_read_243 (lv_at hl 9 rfl) k) ?_
        refine x_go (pc' := 246) (st' := [.int (1 : Int32), .int x12]) (fun hC _ _ _ _ _ _ hl k => lv_iconst (v := 1) hC.1 hC.2.1 d_M_read_245 (by decide) k) ?_
        refine x_go (pc' := 247) (st' := [.int (x12 + (1 : Int32))]) (fun hC _ _ _ _ _ _ hl k => lv_iadd hC.1 hC.2.1 d_M_read_246 k) ?_
        exact x_iret d_M_read_247
    · exact x_sub (lv' := [(0, .ref a0), (2, .int x2), (9, .int x9), (11, .int x11)]) [0, 1, 6, 8] rfl (x_M_read_b186 a0 x2 x9 x11 h)
  · refine x_go (pc' := 173) (st' := [.int x12]) (fun hC _ _ _ _ _ _ hl k => lv_iload hC.1 hC.2.1 d_M_read_171 (lv_at hl 9 rfl) k) ?_
    exact x_iret d_M_read_173
set_option maxHeartbeats 4000000 in
set_option maxRecDepth 100000 in
theorem x_M_read_b117 {p : Program} {l : Launch} {e : Env} {k1 k2 : Nat} {s : State} {m : MethodId} {args : Array Value} {below : List Frame} {meth : Method} {c : Code} {B : AB} {n0 m0 : Nat} : ∀ (n : Nat) (a0 : Nat) (x2 : Int32) (x3 : Int32) (x4 : Int64) (x6 : Int64) (x8 : Int32) (x9 : Int32) (x10 : Int32) (x11 : Int32) (x12 : Int32) (x13 : Int32) (x14 : Int32) (h : AH), X_M_read p l e k1 k2 s m args below meth c B n0 m0 h 117 [(0, .ref a0), (2, .int x2), (3, .int x3), (4, .long x4), (6, .long x6), (8, .int x8), (9, .int x9), (10, .int x10), (11, .int x11), (12, .int x12), (13, .int x13), (14, .int x14)] [] (f_M_read_b117 n a0 x2 x3 x4 x6 x8 x9 x10 x11 x12 x13 x14 h) := by
  intro n
  induction n with
  | zero => intro a0 x2 x3 x4 x6 x8 x9 x10 x11 x12 x13 x14 h; exact x_none
  | succ n ih =>
    intro a0 x2 x3 x4 x6 x8 x9 x10 x11 x12 x13 x14 h
    rw [f_M_read_b117]
    refine x_go (pc' := 119) (st' := [.int x14]) (fun hC _ _ _ _ _ _ hl k => lv_iload hC.1 hC.2.1 d_M_read_117 (lv_at hl 11 rfl) k) ?_
    refine x_go (pc' := 121) (st' := [.int x11, .int x14]) (fun hC _ _ _ _ _ _ hl k => lv_iload hC.1 hC.2.1 d_M_read_119 (lv_at hl 8 rfl) k) ?_
    refine x_go (pc' := 123) (st' := [.int x12, .int x11, .int x14]) (fun hC _ _ _ _ _ _ hl k => lv_iload hC.1 hC.2.1 d_M_read_121 (lv_at hl 9 rfl) k) ?_
    refine x_go (pc' := 124) (st' := [.int (x11 + x12), .int x14]) (fun hC _ _ _ _ _ _ hl k => lv_iadd hC.1 hC.2.1 d_M_read_123 k) ?_
    refine x_if (P := (x11 + x12) ≤ x14) (pt := 166) (pf := 127) (st' := []) (fun hC _ _ _ _ _ _ kt kf => lv_icmp_ge (tgt := 166) hC.1 hC.2.1 d_M_read_124 (by decide) kt kf) ?_ ?_
    · exact x_sub (lv' := [(0, .ref a0), (2, .int x2), (3, .int x3), (4, .long x4), (6, .long x6), (8, .int x8), (9, .int x9), (10, .int x10), (11, .int x11), (12, .int x12), (13, .int x13)]) [0, 1, 2, 3, 4, 5, 6, 7, 8, 9, 10] rfl (x_M_read_b166 a0 x2 x3 x4 x6 x8 x9 x10 x11 x12 x13 h)
    · refine x_go (pc' := 129) (st' := [.int x10]) (fun hC _ _ _ _ _ _ hl k => lv_iload hC.1 hC.2.1 d_M_read_127 (lv_at hl 7 rfl) k) ?_
      refine x_if (P := x10 = 0) (pt := 132) (pf := 166) (st' := []) (fun hC _ _ _ _ _ _ kt kf => lv_if_ne (tgt := 166) hC.1 hC.2.1 d_M_read_129 (by decide) kf kt) ?_ ?_
      · refine x_go (pc' := 134) (st' := [.int x13]) (fun hC _ _ _ _ _ _ hl k => lv_iload hC.1 hC.2.1 d_M_read_132 (lv_at hl 10 rfl) k) ?_
        refine x_if (P := x13 = 0) (pt := 137) (pf := 153) (st' := []) (fun hC _ _ _ _ _ _ kt kf => lv_if_ne (tgt := 153) hC.1 hC.2.1 d_M_read_134 (by decide) kf kt) ?_ ?_
        · refine x_go (pc' := 138) (st' := [.ref a0]) (fun hC _ _ _ _ _ _ hl k => lv_aload_n hC.1 hC.2.1 d_M_read_137 rfl (lv_at hl 0 rfl) k) ?_
          refine x_go (pc' := 140) (st' := [.int x14, .ref a0]) (fun hC _ _ _ _ _ _ hl k => lv_iload hC.1 hC.2.1 d_M_read_138 (lv_at hl 11 rfl) k) ?_
          refine x_go (pc' := 141) (st' := [.int x3, .int x14, .ref a0]) (fun hC _ _ _ _ _ _ hl k => lv_iload_n hC.1 hC.2.1 d_M_read_140 rfl (lv_at hl 2 rfl) k) ?_
          refine x_go (pc' := 143) (st' := [.long x4, .int x3, .int x14, .ref a0]) (fun hC _ _ _ _ _ _ hl k => lv_lload hC.1 hC.2.1 d_M_read_141 (lv_at hl 3 rfl) k) ?_
          refine x_go (pc' := 145) (st' := [.long x6, .long x4, .int x3, .int x14, .ref a0]) (fun hC _ _ _ _ _ _ hl k => lv_lload hC.1 hC.2.1 d_M_read_143 (lv_at hl 4 rfl) k) ?_
          refine x_go (pc' := 147) (st' := [.int x8, .long x6, .long x4, .int x3, .int x14, .ref a0]) (fun hC _ _ _ _ _ _ hl k => lv_iload hC.1 hC.2.1 d_M_read_145 (lv_at hl 5 rfl) k) ?_
          refine x_recv (ci := 4) (r := (some a0)) (fun b1003 _ eb1003 gb1003 => ?_)
          refine x_callI (rest := []) (c_M_isSame l B b1003 x14 x3 x4 x6 x8 h) (fun hC => fun e1 e2 e3 e4 hM => fun hR hsz hc hs => run_V (n := 5) hC lw_good rfl rfl tw_393 tw_395 tv_15 tw_3 tw_396 (by decide) d_M_read_147 gb1003 (by rw [e1]; exact Nat.le_of_ble_eq_true rfl) (by rw [e2]; exact Nat.le_of_ble_eq_true rfl) e3 e4 hM hR hsz hc hs rfl (by cases eb1003; rfl) (Nat.le_of_ble_eq_true rfl)) (fun x1002 h1001 => ?_)
          refine x_if (P := x1002 = 0) (pt := 157) (pf := 153) (st' := []) (fun hC _ _ _ _ _ _ kt kf => lv_if_eq (tgt := 157) hC.1 hC.2.1 d_M_read_150 (by decide) kt kf) ?_ ?_
          · refine x_go (pc' := 158) (st' := [.int (0 : Int32)]) (fun hC _ _ _ _ _ _ hl k => lv_iconst (v := 0) hC.1 hC.2.1 d_M_read_157 (by decide) k) ?_
            refine x_lift (pc' := 160) (st' := []) (lv' := [(13, .int (0 : Int32)), (0, .ref a0), (2, .int x2), (3, .int x3), (4, .long x4), (6, .long x6), (8, .int x8), (9, .int x9), (10, .int x10), (11, .int x11), (12, .int x12), (14, .int x14)]) (fun hC _ _ _ _ _ _ hl k => lv_istore (i := 13) hC.1 hC.2.1 d_M_read_158 hl (by decide) rfl k) ?_
            refine x_lift (pc' := 163) (st' := []) (lv' := [(14, .int (x14 + 1)), (13, .int (0 : Int32)), (0, .ref a0), (2, .int x2), (3, .int x3), (4, .long x4), (6, .long x6), (8, .int x8), (9, .int x9), (10, .int x10), (11, .int x11), (12, .int x12)]) (fun hC _ _ _ _ _ _ hl k => lv_iinc (v := (x14 + 1)) hC.1 hC.2.1 d_M_read_160 hl (k := 11) rfl rfl (by decide) rfl k) ?_
            refine x_go (pc' := 117) (st' := []) (fun hC _ _ _ _ _ _ hl k => lv_goto (tgt := 117) hC.1 hC.2.1 d_M_read_163 (by decide) k) ?_
            exact x_sub (lv' := [(0, .ref a0), (2, .int x2), (3, .int x3), (4, .long x4), (6, .long x6), (8, .int x8), (9, .int x9), (10, .int x10), (11, .int x11), (12, .int x12), (13, .int (0 : Int32)), (14, .int (x14 + 1))]) [2, 3, 4, 5, 6, 7, 8, 9, 10, 11, 1, 0] rfl (ih a0 x2 x3 x4 x6 x8 x9 x10 x11 x12 (0 : Int32) (x14 + 1) h1001)
          · exact x_sub (lv' := [(0, .ref a0), (2, .int x2), (3, .int x3), (4, .long x4), (6, .long x6), (8, .int x8), (9, .int x9), (10, .int x10), (11, .int x11), (12, .int x12), (14, .int x14)]) [0, 1, 2, 3, 4, 5, 6, 7, 8, 9, 11] rfl (x_M_read_b153 (f_M_read_b117 n) ih a0 x2 x3 x4 x6 x8 x9 x10 x11 x12 x14 h1001)
        · exact x_sub (lv' := [(0, .ref a0), (2, .int x2), (3, .int x3), (4, .long x4), (6, .long x6), (8, .int x8), (9, .int x9), (10, .int x10), (11, .int x11), (12, .int x12), (14, .int x14)]) [0, 1, 2, 3, 4, 5, 6, 7, 8, 9, 11] rfl (x_M_read_b153 (f_M_read_b117 n) ih a0 x2 x3 x4 x6 x8 x9 x10 x11 x12 x14 h)
      · exact x_sub (lv' := [(0, .ref a0), (2, .int x2), (3, .int x3), (4, .long x4), (6, .long x6), (8, .int x8), (9, .int x9), (10, .int x10), (11, .int x11), (12, .int x12), (13, .int x13)]) [0, 1, 2, 3, 4, 5, 6, 7, 8, 9, 10] rfl (x_M_read_b166 a0 x2 x3 x4 x6 x8 x9 x10 x11 x12 x13 h)
set_option maxHeartbeats 4000000 in
set_option maxRecDepth 100000 in
theorem x_M_read_b110 {p : Program} {l : Launch} {e : Env} {k1 k2 : Nat} {s : State} {m : MethodId} {args : Array Value} {below : List Frame} {meth : Method} {c : Code} {B : AB} {n0 m0 : Nat} (a0 : Nat) (x2 : Int32) (x3 : Int32) (x4 : Int64) (x6 : Int64) (x8 : Int32) (x9 : Int32) (x10 : Int32) (x11 : Int32) (x12 : Int32) (h : AH) : X_M_read p l e k1 k2 s m args below meth c B n0 m0 h 110 [(0, .ref a0), (2, .int x2), (3, .int x3), (4, .long x4), (6, .long x6), (8, .int x8), (9, .int x9), (10, .int x10), (11, .int x11), (12, .int x12)] [] (f_M_read_b110 a0 x2 x3 x4 x6 x8 x9 x10 x11 x12 h) := by
  unfold f_M_read_b110
  refine x_go (pc' := 111) (st' := [.int (0 : Int32)]) (fun hC _ _ _ _ _ _ hl k => lv_iconst (v := 0) hC.1 hC.2.1 d_M_read_110 (by decide) k) ?_
  refine x_lift (pc' := 113) (st' := []) (lv' := [(13, .int (0 : Int32)), (0, .ref a0), (2, .int x2), (3, .int x3), (4, .long x4), (6, .long x6), (8, .int x8), (9, .int x9), (10, .int x10), (11, .int x11), (12, .int x12)]) (fun hC _ _ _ _ _ _ hl k => lv_istore (i := 13) hC.1 hC.2.1 d_M_read_111 hl (by decide) rfl k) ?_
  refine x_go (pc' := 115) (st' := [.int x11]) (fun hC _ _ _ _ _ _ hl k => lv_iload hC.1 hC.2.1 d_M_read_113 (lv_at hl 9 rfl) k) ?_
  refine x_lift (pc' := 117) (st' := []) (lv' := [(14, .int x11), (13, .int (0 : Int32)), (0, .ref a0), (2, .int x2), (3, .int x3), (4, .long x4), (6, .long x6), (8, .int x8), (9, .int x9), (10, .int x10), (11, .int x11), (12, .int x12)]) (fun hC _ _ _ _ _ _ hl k => lv_istore (i := 14) hC.1 hC.2.1 d_M_read_115 hl (by decide) rfl k) ?_
  exact x_sub (lv' := [(0, .ref a0), (2, .int x2), (3, .int x3), (4, .long x4), (6, .long x6), (8, .int x8), (9, .int x9), (10, .int x10), (11, .int x11), (12, .int x12), (13, .int (0 : Int32)), (14, .int x11)]) [2, 3, 4, 5, 6, 7, 8, 9, 10, 11, 1, 0] rfl (x_M_read_b117 2000 a0 x2 x3 x4 x6 x8 x9 x10 x11 x12 (0 : Int32) x11 h)
set_option maxHeartbeats 4000000 in
set_option maxRecDepth 100000 in
theorem x_M_read_b64 {p : Program} {l : Launch} {e : Env} {k1 k2 : Nat} {s : State} {m : MethodId} {args : Array Value} {below : List Frame} {meth : Method} {c : Code} {B : AB} {n0 m0 : Nat} (a0 : Nat) (x2 : Int32) (x3 : Int32) (x4 : Int64) (x6 : Int64) (x8 : Int32) (x9 : Int32) (x10 : Int32) (h : AH) : X_M_read p l e k1 k2 s m args below meth c B n0 m0 h 64 [(0, .ref a0), (2, .int x2), (3, .int x3), (4, .long x4), (6, .long x6), (8, .int x8), (9, .int x9), (10, .int x10)] [] (f_M_read_b64 a0 x2 x3 x4 x6 x8 x9 x10 h) := by
  unfold f_M_read_b64
  refine x_go (pc' := 66) (st' := [.int (8 : Int32)]) (fun hC _ _ _ _ _ _ hl k => lv_bipush (v := 8) hC.1 hC.2.1 d_M_read_64 (by decide) k) ?_
  refine x_go (pc' := 68) (st' := [.int (8 : Int32), .int (8 : Int32)]) (fun hC _ _ _ _ _ _ hl k => lv_bipush (v := 8) hC.1 hC.2.1 d_M_read_66 (by decide) k) ?_
  refine x_go (pc' := 70) (st' := [.int x9, .int (8 : Int32), .int (8 : Int32)]) (fun hC _ _ _ _ _ _ hl k => lv_iload hC.1 hC.2.1 d_M_read_68 (lv_at hl 6 rfl) k) ?_
  refine x_go (pc' := 71) (st' := [.int ((8 : Int32) * x9), .int (8 : Int32)]) (fun hC _ _ _ _ _ _ hl k => lv_imul hC.1 hC.2.1 d_M_read_70 k) ?_
  refine x_go (pc' := 72) (st' := [.int x2, .int ((8 : Int32) * x9), .int (8 : Int32)]) (fun hC _ _ _ _ _ _ hl k => lv_iload_n hC.1 hC.2.1 d_M_read_71 rfl (lv_at hl 1 rfl) k) ?_
  refine x_go (pc' := 73) (st' := [.int (((8 : Int32) * x9) + x2), .int (8 : Int32)]) (fun hC _ _ _ _ _ _ hl k => lv_iadd hC.1 hC.2.1 d_M_read_72 k) ?_
  refine x_go (pc' := 74) (st' := [.int ((8 : Int32) * (((8 : Int32) * x9) + x2))]) (fun hC _ _ _ _ _ _ hl k => lv_imul hC.1 hC.2.1 d_M_read_73 k) ?_
  refine x_lift (pc' := 76) (st' := []) (lv' := [(11, .int ((8 : Int32) * (((8 : Int32) * x9) + x2))), (0, .ref a0), (2, .int x2), (3, .int x3), (4, .long x4), (6, .long x6), (8, .int x8), (9, .int x9), (10, .int x10)]) (fun hC _ _ _ _ _ _ hl k => lv_istore (i := 11) hC.1 hC.2.1 d_M_read_74 hl (by decide) rfl k) ?_
  refine x_go (pc' := 77) (st' := [.ref a0]) (fun hC _ _ _ _ _ _ hl k => lv_aload_n hC.1 hC.2.1 d_M_read_76 rfl (lv_at hl 1 rfl) k) ?_
  refine x_getR (ci := 4) (kf := 10) (r := (some a0)) (fun hC => w_get hC iw_4 rfl 10 (by decide) tw_324 rfl d_M_read_77) (fun r1001 => ?_)
  refine x_go (pc' := 82) (st' := [.int (8 : Int32), va_rf r1001]) (fun hC _ _ _ _ _ _ hl k => lv_bipush (v := 8) hC.1 hC.2.1 d_M_read_80 (by decide) k) ?_
  refine x_go (pc' := 84) (st' := [.int x9, .int (8 : Int32), va_rf r1001]) (fun hC _ _ _ _ _ _ hl k => lv_iload hC.1 hC.2.1 d_M_read_82 (lv_at hl 7 rfl) k) ?_
  refine x_go (pc' := 85) (st' := [.int ((8 : Int32) * x9), va_rf r1001]) (fun hC _ _ _ _ _ _ hl k => lv_imul hC.1 hC.2.1 d_M_read_84 k) ?_
  refine x_go (pc' := 86) (st' := [.int x2, .int ((8 : Int32) * x9), va_rf r1001]) (fun hC _ _ _ _ _ _ hl k => lv_iload_n hC.1 hC.2.1 d_M_read_85 rfl (lv_at hl 2 rfl) k) ?_
  refine x_go (pc' := 87) (st' := [.int (((8 : Int32) * x9) + x2), va_rf r1001]) (fun hC _ _ _ _ _ _ hl k => lv_iadd hC.1 hC.2.1 d_M_read_86 k) ?_
  refine x_iald (t := 4) rfl (r := r1001) (i := (((8 : Int32) * x9) + x2)) d_M_read_87 (fun x1002 => ?_)
  refine x_lift (pc' := 90) (st' := []) (lv' := [(12, .int x1002), (11, .int ((8 : Int32) * (((8 : Int32) * x9) + x2))), (0, .ref a0), (2, .int x2), (3, .int x3), (4, .long x4), (6, .long x6), (8, .int x8), (9, .int x9), (10, .int x10)]) (fun hC _ _ _ _ _ _ hl k => lv_istore (i := 12) hC.1 hC.2.1 d_M_read_88 hl (by decide) rfl k) ?_
  refine x_go (pc' := 92) (st' := [.int x1002]) (fun hC _ _ _ _ _ _ hl k => lv_iload hC.1 hC.2.1 d_M_read_90 (lv_at hl 0 rfl) k) ?_
  refine x_if (P := x1002 ≤ 0) (pt := 110) (pf := 95) (st' := []) (fun hC _ _ _ _ _ _ kt kf => lv_if_le (tgt := 110) hC.1 hC.2.1 d_M_read_92 (by decide) kt kf) ?_ ?_
  · exact x_sub (lv' := [(0, .ref a0), (2, .int x2), (3, .int x3), (4, .long x4), (6, .long x6), (8, .int x8), (9, .int x9), (10, .int x10), (11, .int ((8 : Int32) * (((8 : Int32) * x9) + x2))), (12, .int x1002)]) [2, 3, 4, 5, 6, 7, 8, 9, 1, 0] rfl (x_M_read_b110 a0 x2 x3 x4 x6 x8 x9 x10 ((8 : Int32) * (((8 : Int32) * x9) + x2)) x1002 h)
  · refine x_go (pc' := 96) (st' := [.ref a0]) (fun hC _ _ _ _ _ _ hl k => lv_aload_n hC.1 hC.2.1 d_M_read_95 rfl (lv_at hl 2 rfl) k) ?_
    refine x_getR (ci := 4) (kf := 11) (r := (some a0)) (fun hC => w_get hC iw_4 rfl 11 (by decide) tw_325 rfl d_M_read_96) (fun r1003 => ?_)
    refine x_go (pc' := 101) (st' := [.int ((8 : Int32) * (((8 : Int32) * x9) + x2)), va_rf r1003]) (fun hC _ _ _ _ _ _ hl k => lv_iload hC.1 hC.2.1 d_M_read_99 (lv_at hl 1 rfl) k) ?_
    refine x_iald (t := 4) rfl (r := r1003) (i := ((8 : Int32) * (((8 : Int32) * x9) + x2))) d_M_read_101 (fun x1004 => ?_)
    refine x_go (pc' := 103) (st' := [.int (-1 : Int32), .int x1004]) (fun hC _ _ _ _ _ _ hl k => lv_iconst (v := -1) hC.1 hC.2.1 d_M_read_102 (by decide) k) ?_
    refine x_if (P := x1004 = (-1 : Int32)) (pt := 106) (pf := 110) (st' := []) (fun hC _ _ _ _ _ _ kt kf => lv_icmp_ne (tgt := 110) hC.1 hC.2.1 d_M_read_103 (by decide) kf kt) ?_ ?_
    · refine x_go (pc' := 107) (st' := [.int (1 : Int32)]) (fun hC _ _ _ _ _ _ hl k => lv_iconst (v := 1) hC.1 hC.2.1 d_M_read_106 (by decide) k) ?_
      refine x_go (pc' := 111) (st' := [.int (1 : Int32)]) (fun hC _ _ _ _ _ _ hl k => lv_goto (tgt := 111) hC.1 hC.2.1 d_M_read_107 (by decide) k) ?_
      refine x_lift (pc' := 113) (st' := []) (lv' := [(13, .int (1 : Int32)), (12, .int x1002), (11, .int ((8 : Int32) * (((8 : Int32) * x9) + x2))), (0, .ref a0), (2, .int x2), (3, .int x3), (4, .long x4), (6, .long x6), (8, .int x8), (9, .int x9), (10, .int x10)]) (fun hC _ _ _ _ _ _ hl k => lv_istore (i := 13) hC.1 hC.2.1 d_M_read_111 hl (by decide) rfl k) ?_
      refine x_go (pc' := 115) (st' := [.int ((8 : Int32) * (((8 : Int32) * x9) + x2))]) (fun hC _ _ _ _ _ _ hl k => lv_iload hC.1 hC.2.1 d_M_read_113 (lv_at hl 2 rfl) k) ?_
      refine x_lift (pc' := 117) (st' := []) (lv' := [(14, .int ((8 : Int32) * (((8 : Int32) * x9) + x2))), (13, .int (1 : Int32)), (12, .int x1002), (11, .int ((8 : Int32) * (((8 : Int32) * x9) + x2))), (0, .ref a0), (2, .int x2), (3, .int x3), (4, .long x4), (6, .long x6), (8, .int x8), (9, .int x9), (10, .int x10)]) (fun hC _ _ _ _ _ _ hl k => lv_istore (i := 14) hC.1 hC.2.1 d_M_read_115 hl (by decide) rfl k) ?_
      exact x_sub (lv' := [(0, .ref a0), (2, .int x2), (3, .int x3), (4, .long x4), (6, .long x6), (8, .int x8), (9, .int x9), (10, .int x10), (11, .int ((8 : Int32) * (((8 : Int32) * x9) + x2))), (12, .int x1002), (13, .int (1 : Int32)), (14, .int ((8 : Int32) * (((8 : Int32) * x9) + x2)))]) [4, 5, 6, 7, 8, 9, 10, 11, 3, 2, 1, 0] rfl (x_M_read_b117 2000 a0 x2 x3 x4 x6 x8 x9 x10 ((8 : Int32) * (((8 : Int32) * x9) + x2)) x1002 (1 : Int32) ((8 : Int32) * (((8 : Int32) * x9) + x2)) h)
    · exact x_sub (lv' := [(0, .ref a0), (2, .int x2), (3, .int x3), (4, .long x4), (6, .long x6), (8, .int x8), (9, .int x9), (10, .int x10), (11, .int ((8 : Int32) * (((8 : Int32) * x9) + x2))), (12, .int x1002)]) [2, 3, 4, 5, 6, 7, 8, 9, 1, 0] rfl (x_M_read_b110 a0 x2 x3 x4 x6 x8 x9 x10 ((8 : Int32) * (((8 : Int32) * x9) + x2)) x1002 h)
set_option maxHeartbeats 4000000 in
set_option maxRecDepth 100000 in
theorem x_M_read_b17 {p : Program} {l : Launch} {e : Env} {k1 k2 : Nat} {s : State} {m : MethodId} {args : Array Value} {below : List Frame} {meth : Method} {c : Code} {B : AB} {n0 m0 : Nat} (a0 : Nat) (x2 : Int32) (x3 : Int32) (x4 : Int64) (x6 : Int64) (x8 : Int32) (x9 : Int32) (xs0 : Int32) (h : AH) : X_M_read p l e k1 k2 s m args below meth c B n0 m0 h 17 [(0, .ref a0), (2, .int x2), (3, .int x3), (4, .long x4), (6, .long x6), (8, .int x8), (9, .int x9)] [.int xs0] (f_M_read_b17 a0 x2 x3 x4 x6 x8 x9 xs0 h) := by
  unfold f_M_read_b17
  refine x_lift (pc' := 19) (st' := []) (lv' := [(10, .int xs0), (0, .ref a0), (2, .int x2), (3, .int x3), (4, .long x4), (6, .long x6), (8, .int x8), (9, .int x9)]) (fun hC _ _ _ _ _ _ hl k => lv_istore (i := 10) hC.1 hC.2.1 d_M_read_17 hl (by decide) rfl k) ?_
  refine x_go (pc' := 21) (st' := [.int x9]) (fun hC _ _ _ _ _ _ hl k => lv_iload hC.1 hC.2.1 d_M_read_19 (lv_at hl 7 rfl) k) ?_
  refine x_if (P := x9 < 0) (pt := 62) (pf := 24) (st' := []) (fun hC _ _ _ _ _ _ kt kf => lv_if_lt (tgt := 62) hC.1 hC.2.1 d_M_read_21 (by decide) kt kf) ?_ ?_
  · refine x_go (pc' := 63) (st' := [.int (-1 : Int32)]) (fun hC _ _ _ _ _ _ hl k => lv_iconst (v := -1) hC.1 hC.2.1 d_M_read_62 (by decide) k) ?_
    exact x_iret d_M_read_63
  · refine x_go (pc' := 25) (st' := [.int x2]) (fun hC _ _ _ _ _ _ hl k => lv_iload_n hC.1 hC.2.1 d_M_read_24 rfl (lv_at hl 2 rfl) k) ?_
    refine x_if (P := x2 < 0) (pt := 62) (pf := 28) (st' := []) (fun hC _ _ _ _ _ _ kt kf => lv_if_lt (tgt := 62) hC.1 hC.2.1 d_M_read_25 (by decide) kt kf) ?_ ?_
    · refine x_go (pc' := 63) (st' := [.int (-1 : Int32)]) (fun hC _ _ _ _ _ _ hl k => lv_iconst (v := -1) hC.1 hC.2.1 d_M_read_62 (by decide) k) ?_
      exact x_iret d_M_read_63
    · refine x_go (pc' := 29) (st' := [.int x2]) (fun hC _ _ _ _ _ _ hl k => lv_iload_n hC.1 hC.2.1 d_M_read_28 rfl (lv_at hl 2 rfl) k) ?_
      refine x_go (pc' := 31) (st' := [.int (7 : Int32), .int x2]) (fun hC _ _ _ _ _ _ hl k => lv_bipush (v := 7) hC.1 hC.2.1 d_M_read_29 (by decide) k) ?_
      refine x_if (P := (7 : Int32) < x2) (pt := 62) (pf := 34) (st' := []) (fun hC _ _ _ _ _ _ kt kf => lv_icmp_gt (tgt := 62) hC.1 hC.2.1 d_M_read_31 (by decide) kt kf) ?_ ?_
      · refine x_go (pc' := 63) (st' := [.int (-1 : Int32)]) (fun hC _ _ _ _ _ _ hl k => lv_iconst (v := -1) hC.1 hC.2.1 d_M_read_62 (by decide) k) ?_
        exact x_iret d_M_read_63
      · refine x_go (pc' := 35) (st' := [.int x3]) (fun hC _ _ _ _ _ _ hl k => lv_iload_n hC.1 hC.2.1 d_M_read_34 rfl (lv_at hl 3 rfl) k) ?_
        refine x_go (pc' := 36) (st' := [.int (-1 : Int32), .int x3]) (fun hC _ _ _ _ _ _ hl k => lv_iconst (v := -1) hC.1 hC.2.1 d_M_read_35 (by decide) k) ?_
        refine x_if (P := x3 < (-1 : Int32)) (pt := 62) (pf := 39) (st' := []) (fun hC _ _ _ _ _ _ kt kf => lv_icmp_lt (tgt := 62) hC.1 hC.2.1 d_M_read_36 (by decide) kt kf) ?_ ?_
        · refine x_go (pc' := 63) (st' := [.int (-1 : Int32)]) (fun hC _ _ _ _ _ _ hl k => lv_iconst (v := -1) hC.1 hC.2.1 d_M_read_62 (by decide) k) ?_
          exact x_iret d_M_read_63
        · refine x_go (pc' := 40) (st' := [.int x3]) (fun hC _ _ _ _ _ _ hl k => lv_iload_n hC.1 hC.2.1 d_M_read_39 rfl (lv_at hl 3 rfl) k) ?_
          refine x_go (pc' := 42) (st' := [.int (7 : Int32), .int x3]) (fun hC _ _ _ _ _ _ hl k => lv_bipush (v := 7) hC.1 hC.2.1 d_M_read_40 (by decide) k) ?_
          refine x_if (P := (7 : Int32) < x3) (pt := 62) (pf := 45) (st' := []) (fun hC _ _ _ _ _ _ kt kf => lv_icmp_gt (tgt := 62) hC.1 hC.2.1 d_M_read_42 (by decide) kt kf) ?_ ?_
          · refine x_go (pc' := 63) (st' := [.int (-1 : Int32)]) (fun hC _ _ _ _ _ _ hl k => lv_iconst (v := -1) hC.1 hC.2.1 d_M_read_62 (by decide) k) ?_
            exact x_iret d_M_read_63
          · refine x_go (pc' := 47) (st' := [.int xs0]) (fun hC _ _ _ _ _ _ hl k => lv_iload hC.1 hC.2.1 d_M_read_45 (lv_at hl 0 rfl) k) ?_
            refine x_if (P := xs0 = 0) (pt := 50) (pf := 64) (st' := []) (fun hC _ _ _ _ _ _ kt kf => lv_if_ne (tgt := 64) hC.1 hC.2.1 d_M_read_47 (by decide) kf kt) ?_ ?_
            · refine x_go (pc' := 52) (st' := [.int x8]) (fun hC _ _ _ _ _ _ hl k => lv_iload hC.1 hC.2.1 d_M_read_50 (lv_at hl 6 rfl) k) ?_
              refine x_if (P := x8 < 0) (pt := 62) (pf := 55) (st' := []) (fun hC _ _ _ _ _ _ kt kf => lv_if_lt (tgt := 62) hC.1 hC.2.1 d_M_read_52 (by decide) kt kf) ?_ ?_
              · refine x_go (pc' := 63) (st' := [.int (-1 : Int32)]) (fun hC _ _ _ _ _ _ hl k => lv_iconst (v := -1) hC.1 hC.2.1 d_M_read_62 (by decide) k) ?_
                exact x_iret d_M_read_63
              · refine x_go (pc' := 57) (st' := [.int x8]) (fun hC _ _ _ _ _ _ hl k => lv_iload hC.1 hC.2.1 d_M_read_55 (lv_at hl 6 rfl) k) ?_
                refine x_go (pc' := 59) (st' := [.int (15 : Int32), .int x8]) (fun hC _ _ _ _ _ _ hl k => lv_bipush (v := 15) hC.1 hC.2.1 d_M_read_57 (by decide) k) ?_
                refine x_if (P := x8 ≤ (15 : Int32)) (pt := 64) (pf := 62) (st' := []) (fun hC _ _ _ _ _ _ kt kf => lv_icmp_le (tgt := 64) hC.1 hC.2.1 d_M_read_59 (by decide) kt kf) ?_ ?_
                · exact x_sub (lv' := [(0, .ref a0), (2, .int x2), (3, .int x3), (4, .long x4), (6, .long x6), (8, .int x8), (9, .int x9), (10, .int xs0)]) [1, 2, 3, 4, 5, 6, 7, 0] rfl (x_M_read_b64 a0 x2 x3 x4 x6 x8 x9 xs0 h)
                · refine x_go (pc' := 63) (st' := [.int (-1 : Int32)]) (fun hC _ _ _ _ _ _ hl k => lv_iconst (v := -1) hC.1 hC.2.1 d_M_read_62 (by decide) k) ?_
                  exact x_iret d_M_read_63
            · exact x_sub (lv' := [(0, .ref a0), (2, .int x2), (3, .int x3), (4, .long x4), (6, .long x6), (8, .int x8), (9, .int x9), (10, .int xs0)]) [1, 2, 3, 4, 5, 6, 7, 0] rfl (x_M_read_b64 a0 x2 x3 x4 x6 x8 x9 xs0 h)
set_option maxHeartbeats 4000000 in
set_option maxRecDepth 100000 in
theorem c_M_read (l : Launch) (B : AB) (a0 : Nat) (x1 : Int32) (x2 : Int32) (x3 : Int32) (x4 : Int64) (x6 : Int64) (x8 : Int32) (h : AH) : CT l B y_M_read (Cond.code y_M_read b_M_read 15 (Option.some Jvm.ClassFile.FieldType.int) :: lw_tt) 1 28 eI [.ref a0, .int x1, .int x2, .int x3, .long x4, .long x6, .int x8] h (f_M_read a0 x1 x2 x3 x4 x6 x8 h) := by
  refine ct_of (own := o_M) (nm := "read") (by decide +kernel) rfl rfl (Nat.le_of_ble_eq_true rfl) (fun p e k1 k2 s m args below meth c => ?_)
  refine x_sub (lv' := [(0, .ref a0), (1, .int x1), (2, .int x2), (3, .int x3), (4, .long x4), (6, .long x6), (8, .int x8)]) [0, 1, 2, 3, 4, 5, 6] rfl ?_
  unfold f_M_read
  refine x_go (pc' := 1) (st' := [.ref a0]) (fun hC _ _ _ _ _ _ hl k => lv_aload_n hC.1 hC.2.1 d_M_read_0 rfl (lv_at hl 0 rfl) k) ?_
  refine x_go (pc' := 2) (st' := [.int x1, .ref a0]) (fun hC _ _ _ _ _ _ hl k => lv_iload_n hC.1 hC.2.1 d_M_read_1 rfl (lv_at hl 1 rfl) k) ?_
  refine x_recv (ci := 4) (r := (some a0)) (fun b103 _ eb103 gb103 => ?_)
  refine x_callI (rest := []) (c_M_running l B b103 x1 h) (fun hC => fun e1 e2 e3 e4 hM => fun hR hsz hc hs => run_V (n := 1) hC lw_good rfl rfl tw_385 tw_387 tv_14 tw_3 tw_388 (by decide) d_M_read_2 gb103 (by rw [e1]; exact Nat.le_of_ble_eq_true rfl) (by rw [e2]; exact Nat.le_of_ble_eq_true rfl) e3 e4 hM hR hsz hc hs rfl (by cases eb103; rfl) (Nat.le_of_ble_eq_true rfl)) (fun x102 h101 => ?_)
  refine x_lift (pc' := 7) (st' := []) (lv' := [(9, .int x102), (0, .ref a0), (1, .int x1), (2, .int x2), (3, .int x3), (4, .long x4), (6, .long x6), (8, .int x8)]) (fun hC _ _ _ _ _ _ hl k => lv_istore (i := 9) hC.1 hC.2.1 d_M_read_5 hl (by decide) rfl k) ?_
  refine x_go (pc' := 8) (st' := [.int x3]) (fun hC _ _ _ _ _ _ hl k => lv_iload_n hC.1 hC.2.1 d_M_read_7 rfl (lv_at hl 4 rfl) k) ?_
  refine x_go (pc' := 9) (st' := [.int (-1 : Int32), .int x3]) (fun hC _ _ _ _ _ _ hl k => lv_iconst (v := -1) hC.1 hC.2.1 d_M_read_8 (by decide) k) ?_
  refine x_if (P := x3 = (-1 : Int32)) (pt := 12) (pf := 16) (st' := []) (fun hC _ _ _ _ _ _ kt kf => lv_icmp_ne (tgt := 16) hC.1 hC.2.1 d_M_read_9 (by decide) kf kt) ?_ ?_
  · refine x_go (pc' := 13) (st' := [.int (1 : Int32)]) (fun hC _ _ _ _ _ _ hl k => lv_iconst (v := 1) hC.1 hC.2.1 d_M_read_12 (by decide) k) ?_
    refine x_go (pc' := 17) (st' := [.int (1 : Int32)]) (fun hC _ _ _ _ _ _ hl k => lv_goto (tgt := 17) hC.1 hC.2.1 d_M_read_13 (by decide) k) ?_
    exact x_sub (lv' := [(0, .ref a0), (2, .int x2), (3, .int x3), (4, .long x4), (6, .long x6), (8, .int x8), (9, .int x102)]) [1, 3, 4, 5, 6, 7, 0] rfl (x_M_read_b17 a0 x2 x3 x4 x6 x8 x102 (1 : Int32) h101)
  · refine x_go (pc' := 17) (st' := [.int (0 : Int32)]) (fun hC _ _ _ _ _ _ hl k => lv_iconst (v := 0) hC.1 hC.2.1 d_M_read_16 (by decide) k) ?_
    exact x_sub (lv' := [(0, .ref a0), (2, .int x2), (3, .int x3), (4, .long x4), (6, .long x6), (8, .int x8), (9, .int x102)]) [1, 3, 4, 5, 6, 7, 0] rfl (x_M_read_b17 a0 x2 x3 x4 x6 x8 x102 (0 : Int32) h101)
/-! SerialDeskModel.cell(IJ)Z -/
theorem d_M_cell_0 : decode b_M_cell 0 = .ok (.iload_n 1, 1) := by decide +kernel
theorem d_M_cell_1 : decode b_M_cell 1 = .ok (.ifCond .lt 9, 3) := by decide +kernel
theorem d_M_cell_4 : decode b_M_cell 4 = .ok (.iload_n 1, 1) := by decide +kernel
theorem d_M_cell_5 : decode b_M_cell 5 = .ok (.bipush 7, 2) := by decide +kernel
theorem d_M_cell_7 : decode b_M_cell 7 = .ok (.if_icmp .le 5, 3) := by decide +kernel
theorem d_M_cell_10 : decode b_M_cell 10 = .ok (.iconst 0, 1) := by decide +kernel
theorem d_M_cell_11 : decode b_M_cell 11 = .ok (.ireturn, 1) := by decide +kernel
theorem d_M_cell_12 : decode b_M_cell 12 = .ok (.aload_n 0, 1) := by decide +kernel
theorem d_M_cell_13 : decode b_M_cell 13 = .ok (.getfield 63, 3) := by decide +kernel
theorem d_M_cell_16 : decode b_M_cell 16 = .ok (.iload_n 1, 1) := by decide +kernel
theorem d_M_cell_17 : decode b_M_cell 17 = .ok (.iconst 1, 1) := by decide +kernel
theorem d_M_cell_18 : decode b_M_cell 18 = .ok (.bastore, 1) := by decide +kernel
theorem d_M_cell_19 : decode b_M_cell 19 = .ok (.aload_n 0, 1) := by decide +kernel
theorem d_M_cell_20 : decode b_M_cell 20 = .ok (.getfield 66, 3) := by decide +kernel
theorem d_M_cell_23 : decode b_M_cell 23 = .ok (.iload_n 1, 1) := by decide +kernel
theorem d_M_cell_24 : decode b_M_cell 24 = .ok (.lload_n 2, 1) := by decide +kernel
theorem d_M_cell_25 : decode b_M_cell 25 = .ok (.lastore, 1) := by decide +kernel
theorem d_M_cell_26 : decode b_M_cell 26 = .ok (.iconst 1, 1) := by decide +kernel
theorem d_M_cell_27 : decode b_M_cell 27 = .ok (.ireturn, 1) := by decide +kernel
abbrev X_M_cell (p : Program) (l : Launch) (e : Env) (k1 k2 : Nat) (s : State) (m : MethodId) (args : Array Value) (below : List Frame) (meth : Method) (c : Code) (B : AB) (n0 m0 : Nat) (h : AH) (pc : Nat) (lv : List (Nat × Value)) (st : List Value) (comp : Option (Int32 × AH)) : Prop := XX p l e { frames := 0, cells := k1, slots := k2, locals := 0 } s m args below meth c b_M_cell o_M lw_tt 4 (Option.some Jvm.ClassFile.FieldType.boolean) "cell" B n0 m0 (QM B below args s { frames := 0, cells := k1, slots := k2, locals := 0 } eI) h pc lv st comp
def f_M_cell (a0 : Nat) (x1 : Int32) (x2 : Int64) (h : AH) : Option (Int32 × AH) := (if x1 < 0 then rZ (0 : Int32) h else (if x1 ≤ (7 : Int32) then (fR h 4 20 (some a0)).bind (fun r101 => (qE h 1 r101 x1 (1 : Int32)).bind (fun h102 => (fR h102 4 21 (some a0)).bind (fun r103 => (pE h102 0 r103 x1 (.long x2)).bind (fun h104 => rZ (1 : Int32) h104)))) else rZ (0 : Int32) h))
set_option maxHeartbeats 4000000 in
set_option maxRecDepth 100000 in
theorem c_M_cell (l : Launch) (B : AB) (a0 : Nat) (x1 : Int32) (x2 : Int64) (h : AH) : CT l B y_M_cell (Cond.code y_M_cell b_M_cell 4 (Option.some Jvm.ClassFile.FieldType.boolean) :: lw_tt) 0 0 eI [.ref a0, .int x1, .long x2] h (f_M_cell a0 x1 x2 h) := by
  refine ct_of (own := o_M) (nm := "cell") (by decide +kernel) rfl rfl (Nat.le_of_ble_eq_true rfl) (fun p e k1 k2 s m args below meth c => ?_)
  refine x_sub (lv' := [(0, .ref a0), (1, .int x1), (2, .long x2)]) [0, 1, 2] rfl ?_
  unfold f_M_cell
  refine x_go (pc' := 1) (st' := [.int x1]) (fun hC _ _ _ _ _ _ hl k => lv_iload_n hC.1 hC.2.1 d_M_cell_0 rfl (lv_at hl 1 rfl) k) ?_
  refine x_if (P := x1 < 0) (pt := 10) (pf := 4) (st' := []) (fun hC _ _ _ _ _ _ kt kf => lv_if_lt (tgt := 10) hC.1 hC.2.1 d_M_cell_1 (by decide) kt kf) ?_ ?_
  · refine x_go (pc' := 11) (st' := [.int (0 : Int32)]) (fun hC _ _ _ _ _ _ hl k => lv_iconst (v := 0) hC.1 hC.2.1 d_M_cell_10 (by decide) k) ?_
    exact x_zret d_M_cell_11
  · refine x_go (pc' := 5) (st' := [.int x1]) (fun hC _ _ _ _ _ _ hl k => lv_iload_n hC.1 hC.2.1 d_M_cell_4 rfl (lv_at hl 1 rfl) k) ?_
    refine x_go (pc' := 7) (st' := [.int (7 : Int32), .int x1]) (fun hC _ _ _ _ _ _ hl k => lv_bipush (v := 7) hC.1 hC.2.1 d_M_cell_5 (by decide) k) ?_
    refine x_if (P := x1 ≤ (7 : Int32)) (pt := 12) (pf := 10) (st' := []) (fun hC _ _ _ _ _ _ kt kf => lv_icmp_le (tgt := 12) hC.1 hC.2.1 d_M_cell_7 (by decide) kt kf) ?_ ?_
    · refine x_go (pc' := 13) (st' := [.ref a0]) (fun hC _ _ _ _ _ _ hl k => lv_aload_n hC.1 hC.2.1 d_M_cell_12 rfl (lv_at hl 0 rfl) k) ?_
      refine x_getR (ci := 4) (kf := 20) (r := (some a0)) (fun hC => w_get hC iw_4 rfl 20 (by decide) tw_334 rfl d_M_cell_13) (fun r101 => ?_)
      refine x_go (pc' := 17) (st' := [.int x1, va_rf r101]) (fun hC _ _ _ _ _ _ hl k => lv_iload_n hC.1 hC.2.1 d_M_cell_16 rfl (lv_at hl 1 rfl) k) ?_
      refine x_go (pc' := 18) (st' := [.int (1 : Int32), .int x1, va_rf r101]) (fun hC _ _ _ _ _ _ hl k => lv_iconst (v := 1) hC.1 hC.2.1 d_M_cell_17 (by decide) k) ?_
      refine x_zast (t := 1) rfl (r := r101) (i := x1) (x := (1 : Int32)) d_M_cell_18 (fun h102 => ?_)
      refine x_go (pc' := 20) (st' := [.ref a0]) (fun hC _ _ _ _ _ _ hl k => lv_aload_n hC.1 hC.2.1 d_M_cell_19 rfl (lv_at hl 0 rfl) k) ?_
      refine x_getR (ci := 4) (kf := 21) (r := (some a0)) (fun hC => w_get hC iw_4 rfl 21 (by decide) tw_335 rfl d_M_cell_20) (fun r103 => ?_)
      refine x_go (pc' := 24) (st' := [.int x1, va_rf r103]) (fun hC _ _ _ _ _ _ hl k => lv_iload_n hC.1 hC.2.1 d_M_cell_23 rfl (lv_at hl 1 rfl) k) ?_
      refine x_go (pc' := 25) (st' := [.long x2, .int x1, va_rf r103]) (fun hC _ _ _ _ _ _ hl k => lv_lload_n hC.1 hC.2.1 d_M_cell_24 rfl (lv_at hl 2 rfl) k) ?_
      refine x_last (t := 0) rfl (r := r103) (i := x1) (x := x2) d_M_cell_25 (fun h104 => ?_)
      refine x_go (pc' := 27) (st' := [.int (1 : Int32)]) (fun hC _ _ _ _ _ _ hl k => lv_iconst (v := 1) hC.1 hC.2.1 d_M_cell_26 (by decide) k) ?_
      exact x_zret d_M_cell_27
    · refine x_go (pc' := 11) (st' := [.int (0 : Int32)]) (fun hC _ _ _ _ _ _ hl k => lv_iconst (v := 0) hC.1 hC.2.1 d_M_cell_10 (by decide) k) ?_
      exact x_zret d_M_cell_11
/-! SerialDeskModel.clear()V -/
theorem d_M_clear_0 : decode b_M_clear 0 = .ok (.iconst 0, 1) := by decide +kernel
theorem d_M_clear_1 : decode b_M_clear 1 = .ok (.istore_n 1, 1) := by decide +kernel
theorem d_M_clear_2 : decode b_M_clear 2 = .ok (.iload_n 1, 1) := by decide +kernel
theorem d_M_clear_3 : decode b_M_clear 3 = .ok (.bipush 8, 2) := by decide +kernel
theorem d_M_clear_5 : decode b_M_clear 5 = .ok (.if_icmp .ge 16, 3) := by decide +kernel
theorem d_M_clear_8 : decode b_M_clear 8 = .ok (.aload_n 0, 1) := by decide +kernel
theorem d_M_clear_9 : decode b_M_clear 9 = .ok (.getfield 63, 3) := by decide +kernel
theorem d_M_clear_12 : decode b_M_clear 12 = .ok (.iload_n 1, 1) := by decide +kernel
theorem d_M_clear_13 : decode b_M_clear 13 = .ok (.iconst 0, 1) := by decide +kernel
theorem d_M_clear_14 : decode b_M_clear 14 = .ok (.bastore, 1) := by decide +kernel
theorem d_M_clear_15 : decode b_M_clear 15 = .ok (.iinc 1 1, 3) := by decide +kernel
theorem d_M_clear_18 : decode b_M_clear 18 = .ok (.goto (-16), 3) := by decide +kernel
theorem d_M_clear_21 : decode b_M_clear 21 = .ok (.return_, 1) := by decide +kernel
abbrev X_M_clear (p : Program) (l : Launch) (e : Env) (k1 k2 : Nat) (s : State) (m : MethodId) (args : Array Value) (below : List Frame) (meth : Method) (c : Code) (B : AB) (n0 m0 : Nat) (h : AH) (pc : Nat) (lv : List (Nat × Value)) (st : List Value) (comp : Option (Unit × AH)) : Prop := XX p l e { frames := 0, cells := k1, slots := k2, locals := 0 } s m args below meth c b_M_clear o_M lw_tt 2 (Option.none : Option Jvm.ClassFile.FieldType) "clear" B n0 m0 (QM B below args s { frames := 0, cells := k1, slots := k2, locals := 0 } eU) h pc lv st comp
def f_M_clear_b2 : Nat → Nat → Int32 → AH → Option (Unit × AH)
  | 0, _, _, _ => none
  | n + 1, a0, x1, h => (if (8 : Int32) ≤ x1 then some ((), h) else (fR h 4 20 (some a0)).bind (fun r1001 => (qE h 1 r1001 x1 (0 : Int32)).bind (fun h1002 => f_M_clear_b2 n a0 (x1 + 1) h1002)))
def f_M_clear (a0 : Nat) (h : AH) : Option (Unit × AH) := f_M_clear_b2 2000 a0 (0 : Int32) h
set_option maxHeartbeats 4000000 in
set_option maxRecDepth 100000 in
theorem x_M_clear_b2 {p : Program} {l : Launch} {e : Env} {k1 k2 : Nat} {s : State} {m : MethodId} {args : Array Value} {below : List Frame} {meth : Method} {c : Code} {B : AB} {n0 m0 : Nat} : ∀ (n : Nat) (a0 : Nat) (x1 : Int32) (h : AH), X_M_clear p l e k1 k2 s m args below meth c B n0 m0 h 2 [(0, .ref a0), (1, .int x1)] [] (f_M_clear_b2 n a0 x1 h) := by
  intro n
  induction n with
  | zero => intro a0 x1 h; exact x_none
  | succ n ih =>
    intro a0 x1 h
    rw [f_M_clear_b2]
    refine x_go (pc' := 3) (st' := [.int x1]) (fun hC _ _ _ _ _ _ hl k => lv_iload_n hC.1 hC.2.1 d_M_clear_2 rfl (lv_at hl 1 rfl) k) ?_
    refine x_go (pc' := 5) (st' := [.int (8 : Int32), .int x1]) (fun hC _ _ _ _ _ _ hl k => lv_bipush (v := 8) hC.1 hC.2.1 d_M_clear_3 (by decide) k) ?_
    refine x_if (P := (8 : Int32) ≤ x1) (pt := 21) (pf := 8) (st' := []) (fun hC _ _ _ _ _ _ kt kf => lv_icmp_ge (tgt := 21) hC.1 hC.2.1 d_M_clear_5 (by decide) kt kf) ?_ ?_
    · exact x_vret d_M_clear_21
    · refine x_go (pc' := 9) (st' := [.ref a0]) (fun hC _ _ _ _ _ _ hl k => lv_aload_n hC.1 hC.2.1 d_M_clear_8 rfl (lv_at hl 0 rfl) k) ?_
      refine x_getR (ci := 4) (kf := 20) (r := (some a0)) (fun hC => w_get hC iw_4 rfl 20 (by decide) tw_334 rfl d_M_clear_9) (fun r1001 => ?_)
      refine x_go (pc' := 13) (st' := [.int x1, va_rf r1001]) (fun hC _ _ _ _ _ _ hl k => lv_iload_n hC.1 hC.2.1 d_M_clear_12 rfl (lv_at hl 1 rfl) k) ?_
      refine x_go (pc' := 14) (st' := [.int (0 : Int32), .int x1, va_rf r1001]) (fun hC _ _ _ _ _ _ hl k => lv_iconst (v := 0) hC.1 hC.2.1 d_M_clear_13 (by decide) k) ?_
      refine x_zast (t := 1) rfl (r := r1001) (i := x1) (x := (0 : Int32)) d_M_clear_14 (fun h1002 => ?_)
      refine x_lift (pc' := 18) (st' := []) (lv' := [(1, .int (x1 + 1)), (0, .ref a0)]) (fun hC _ _ _ _ _ _ hl k => lv_iinc (v := (x1 + 1)) hC.1 hC.2.1 d_M_clear_15 hl (k := 1) rfl rfl (by decide) rfl k) ?_
      refine x_go (pc' := 2) (st' := []) (fun hC _ _ _ _ _ _ hl k => lv_goto (tgt := 2) hC.1 hC.2.1 d_M_clear_18 (by decide) k) ?_
      exact x_sub (lv' := [(0, .ref a0), (1, .int (x1 + 1))]) [1, 0] rfl (ih a0 (x1 + 1) h1002)
set_option maxHeartbeats 4000000 in
set_option maxRecDepth 100000 in
theorem c_M_clear (l : Launch) (B : AB) (a0 : Nat) (h : AH) : CT l B y_M_clear (Cond.code y_M_clear b_M_clear 2 (Option.none : Option Jvm.ClassFile.FieldType) :: lw_tt) 0 0 eU [.ref a0] h (f_M_clear a0 h) := by
  refine ct_of (own := o_M) (nm := "clear") (by decide +kernel) rfl rfl (Nat.le_of_ble_eq_true rfl) (fun p e k1 k2 s m args below meth c => ?_)
  refine x_sub (lv' := [(0, .ref a0)]) [0] rfl ?_
  unfold f_M_clear
  refine x_go (pc' := 1) (st' := [.int (0 : Int32)]) (fun hC _ _ _ _ _ _ hl k => lv_iconst (v := 0) hC.1 hC.2.1 d_M_clear_0 (by decide) k) ?_
  refine x_lift (pc' := 2) (st' := []) (lv' := [(1, .int (0 : Int32)), (0, .ref a0)]) (fun hC _ _ _ _ _ _ hl k => lv_istore_n (i := 1) hC.1 hC.2.1 d_M_clear_1 rfl hl (by decide) rfl k) ?_
  exact x_sub (lv' := [(0, .ref a0), (1, .int (0 : Int32))]) [1, 0] rfl (x_M_clear_b2 2000 a0 (0 : Int32) h)
/-! SerialDeskModel.isIn(I)Z -/
theorem d_M_isIn_0 : decode b_M_isIn 0 = .ok (.aload_n 0, 1) := by decide +kernel
theorem d_M_isIn_1 : decode b_M_isIn 1 = .ok (.getfield 35, 3) := by decide +kernel
theorem d_M_isIn_4 : decode b_M_isIn 4 = .ok (.iload_n 1, 1) := by decide +kernel
theorem d_M_isIn_5 : decode b_M_isIn 5 = .ok (.iaload, 1) := by decide +kernel
theorem d_M_isIn_6 : decode b_M_isIn 6 = .ok (.istore_n 2, 1) := by decide +kernel
theorem d_M_isIn_7 : decode b_M_isIn 7 = .ok (.iload_n 2, 1) := by decide +kernel
theorem d_M_isIn_8 : decode b_M_isIn 8 = .ok (.ifCond .lt 12, 3) := by decide +kernel
theorem d_M_isIn_11 : decode b_M_isIn 11 = .ok (.aload_n 0, 1) := by decide +kernel
theorem d_M_isIn_12 : decode b_M_isIn 12 = .ok (.getfield 63, 3) := by decide +kernel
theorem d_M_isIn_15 : decode b_M_isIn 15 = .ok (.iload_n 2, 1) := by decide +kernel
theorem d_M_isIn_16 : decode b_M_isIn 16 = .ok (.baload, 1) := by decide +kernel
theorem d_M_isIn_17 : decode b_M_isIn 17 = .ok (.ifCond .ne 13, 3) := by decide +kernel
theorem d_M_isIn_20 : decode b_M_isIn 20 = .ok (.iload_n 2, 1) := by decide +kernel
theorem d_M_isIn_21 : decode b_M_isIn 21 = .ok (.ifCond .ge 7, 3) := by decide +kernel
theorem d_M_isIn_24 : decode b_M_isIn 24 = .ok (.iconst 1, 1) := by decide +kernel
theorem d_M_isIn_25 : decode b_M_isIn 25 = .ok (.goto 4, 3) := by decide +kernel
theorem d_M_isIn_28 : decode b_M_isIn 28 = .ok (.iconst 0, 1) := by decide +kernel
theorem d_M_isIn_29 : decode b_M_isIn 29 = .ok (.ireturn, 1) := by decide +kernel
theorem d_M_isIn_30 : decode b_M_isIn 30 = .ok (.aload_n 0, 1) := by decide +kernel
theorem d_M_isIn_31 : decode b_M_isIn 31 = .ok (.getfield 66, 3) := by decide +kernel
theorem d_M_isIn_34 : decode b_M_isIn 34 = .ok (.iload_n 2, 1) := by decide +kernel
theorem d_M_isIn_35 : decode b_M_isIn 35 = .ok (.laload, 1) := by decide +kernel
theorem d_M_isIn_36 : decode b_M_isIn 36 = .ok (.lstore_n 3, 1) := by decide +kernel
theorem d_M_isIn_37 : decode b_M_isIn 37 = .ok (.aload_n 0, 1) := by decide +kernel
theorem d_M_isIn_38 : decode b_M_isIn 38 = .ok (.getfield 38, 3) := by decide +kernel
theorem d_M_isIn_41 : decode b_M_isIn 41 = .ok (.iload_n 1, 1) := by decide +kernel
theorem d_M_isIn_42 : decode b_M_isIn 42 = .ok (.iaload, 1) := by decide +kernel
theorem d_M_isIn_43 : decode b_M_isIn 43 = .ok (.istore 5, 2) := by decide +kernel
theorem d_M_isIn_45 : decode b_M_isIn 45 = .ok (.iload 5, 2) := by decide +kernel
theorem d_M_isIn_47 : decode b_M_isIn 47 = .ok (.iconst 4, 1) := by decide +kernel
theorem d_M_isIn_48 : decode b_M_isIn 48 = .ok (.iand, 1) := by decide +kernel
theorem d_M_isIn_49 : decode b_M_isIn 49 = .ok (.ifCond .ne 35, 3) := by decide +kernel
theorem d_M_isIn_52 : decode b_M_isIn 52 = .ok (.iload 5, 2) := by decide +kernel
theorem d_M_isIn_54 : decode b_M_isIn 54 = .ok (.iconst 1, 1) := by decide +kernel
theorem d_M_isIn_55 : decode b_M_isIn 55 = .ok (.iand, 1) := by decide +kernel
theorem d_M_isIn_56 : decode b_M_isIn 56 = .ok (.ifCond .eq 17, 3) := by decide +kernel
theorem d_M_isIn_59 : decode b_M_isIn 59 = .ok (.lload_n 3, 1) := by decide +kernel
theorem d_M_isIn_60 : decode b_M_isIn 60 = .ok (.aload_n 0, 1) := by decide +kernel
theorem d_M_isIn_61 : decode b_M_isIn 61 = .ok (.getfield 41, 3) := by decide +kernel
theorem d_M_isIn_64 : decode b_M_isIn 64 = .ok (.iload_n 1, 1) := by decide +kernel
theorem d_M_isIn_65 : decode b_M_isIn 65 = .ok (.laload, 1) := by decide +kernel
theorem d_M_isIn_66 : decode b_M_isIn 66 = .ok (.lcmp, 1) := by decide +kernel
theorem d_M_isIn_67 : decode b_M_isIn 67 = .ok (.ifCond .le 21, 3) := by decide +kernel
theorem d_M_isIn_70 : decode b_M_isIn 70 = .ok (.goto 14, 3) := by decide +kernel
theorem d_M_isIn_73 : decode b_M_isIn 73 = .ok (.lload_n 3, 1) := by decide +kernel
theorem d_M_isIn_74 : decode b_M_isIn 74 = .ok (.aload_n 0, 1) := by decide +kernel
theorem d_M_isIn_75 : decode b_M_isIn 75 = .ok (.getfield 41, 3) := by decide +kernel
theorem d_M_isIn_78 : decode b_M_isIn 78 = .ok (.iload_n 1, 1) := by decide +kernel
theorem d_M_isIn_79 : decode b_M_isIn 79 = .ok (.laload, 1) := by decide +kernel
theorem d_M_isIn_80 : decode b_M_isIn 80 = .ok (.lcmp, 1) := by decide +kernel
theorem d_M_isIn_81 : decode b_M_isIn 81 = .ok (.ifCond .lt 7, 3) := by decide +kernel
theorem d_M_isIn_84 : decode b_M_isIn 84 = .ok (.iconst 1, 1) := by decide +kernel
theorem d_M_isIn_85 : decode b_M_isIn 85 = .ok (.goto 4, 3) := by decide +kernel
theorem d_M_isIn_88 : decode b_M_isIn 88 = .ok (.iconst 0, 1) := by decide +kernel
theorem d_M_isIn_89 : decode b_M_isIn 89 = .ok (.istore 6, 2) := by decide +kernel
theorem d_M_isIn_91 : decode b_M_isIn 91 = .ok (.iload 6, 2) := by decide +kernel
theorem d_M_isIn_93 : decode b_M_isIn 93 = .ok (.ifCond .eq 47, 3) := by decide +kernel
theorem d_M_isIn_96 : decode b_M_isIn 96 = .ok (.iload 5, 2) := by decide +kernel
theorem d_M_isIn_98 : decode b_M_isIn 98 = .ok (.bipush 8, 2) := by decide +kernel
theorem d_M_isIn_100 : decode b_M_isIn 100 = .ok (.iand, 1) := by decide +kernel
theorem d_M_isIn_101 : decode b_M_isIn 101 = .ok (.ifCond .ne 35, 3) := by decide +kernel
theorem d_M_isIn_104 : decode b_M_isIn 104 = .ok (.iload 5, 2) := by decide +kernel
theorem d_M_isIn_106 : decode b_M_isIn 106 = .ok (.iconst 2, 1) := by decide +kernel
theorem d_M_isIn_107 : decode b_M_isIn 107 = .ok (.iand, 1) := by decide +kernel
theorem d_M_isIn_108 : decode b_M_isIn 108 = .ok (.ifCond .eq 17, 3) := by decide +kernel
theorem d_M_isIn_111 : decode b_M_isIn 111 = .ok (.lload_n 3, 1) := by decide +kernel
theorem d_M_isIn_112 : decode b_M_isIn 112 = .ok (.aload_n 0, 1) := by decide +kernel
theorem d_M_isIn_113 : decode b_M_isIn 113 = .ok (.getfield 45, 3) := by decide +kernel
theorem d_M_isIn_116 : decode b_M_isIn 116 = .ok (.iload_n 1, 1) := by decide +kernel
theorem d_M_isIn_117 : decode b_M_isIn 117 = .ok (.laload, 1) := by decide +kernel
theorem d_M_isIn_118 : decode b_M_isIn 118 = .ok (.lcmp, 1) := by decide +kernel
theorem d_M_isIn_119 : decode b_M_isIn 119 = .ok (.ifCond .ge 21, 3) := by decide +kernel
theorem d_M_isIn_122 : decode b_M_isIn 122 = .ok (.goto 14, 3) := by decide +kernel
theorem d_M_isIn_125 : decode b_M_isIn 125 = .ok (.lload_n 3, 1) := by decide +kernel
theorem d_M_isIn_126 : decode b_M_isIn 126 = .ok (.aload_n 0, 1) := by decide +kernel
theorem d_M_isIn_127 : decode b_M_isIn 127 = .ok (.getfield 45, 3) := by decide +kernel
theorem d_M_isIn_130 : decode b_M_isIn 130 = .ok (.iload_n 1, 1) := by decide +kernel
theorem d_M_isIn_131 : decode b_M_isIn 131 = .ok (.laload, 1) := by decide +kernel
theorem d_M_isIn_132 : decode b_M_isIn 132 = .ok (.lcmp, 1) := by decide +kernel
theorem d_M_isIn_133 : decode b_M_isIn 133 = .ok (.ifCond .gt 7, 3) := by decide +kernel
theorem d_M_isIn_136 : decode b_M_isIn 136 = .ok (.iconst 1, 1) := by decide +kernel
theorem d_M_isIn_137 : decode b_M_isIn 137 = .ok (.goto 4, 3) := by decide +kernel
theorem d_M_isIn_140 : decode b_M_isIn 140 = .ok (.iconst 0, 1) := by decide +kernel
theorem d_M_isIn_141 : decode b_M_isIn 141 = .ok (.ireturn, 1) := by decide +kernel
abbrev X_M_isIn (p : Program) (l : Launch) (e : Env) (k1 k2 : Nat) (s : State) (m : MethodId) (args : Array Value) (below : List Frame) (meth : Method) (c : Code) (B : AB) (n0 m0 : Nat) (h : AH) (pc : Nat) (lv : List (Nat × Value)) (st : List Value) (comp : Option (Int32 × AH)) : Prop := XX p l e { frames := 0, cells := k1, slots := k2, locals := 0 } s m args below meth c b_M_isIn o_M lw_tt 7 (Option.some Jvm.ClassFile.FieldType.boolean) "isIn" B n0 m0 (QM B below args s { frames := 0, cells := k1, slots := k2, locals := 0 } eI) h pc lv st comp
def f_M_isIn_b20 (x2 : Int32) (h : AH) : Option (Int32 × AH) := (if 0 ≤ x2 then rZ (0 : Int32) h else rZ (1 : Int32) h)
def f_M_isIn_b89 (a0 : Nat) (x1 : Int32) (x3 : Int64) (x5 : Int32) (xs0 : Int32) (h : AH) : Option (Int32 × AH) := (if xs0 = 0 then rZ (0 : Int32) h else (if (x5 &&& (8 : Int32)) = 0 then (if (x5 &&& (2 : Int32)) = 0 then (fR h 4 14 (some a0)).bind (fun r1001 => (lL h 0 r1001 x1).bind (fun x1002 => (if 0 < (lg_cmp x3 x1002) then rZ (0 : Int32) h else rZ (1 : Int32) h))) else (fR h 4 14 (some a0)).bind (fun r1003 => (lL h 0 r1003 x1).bind (fun x1004 => (if 0 ≤ (lg_cmp x3 x1004) then rZ (0 : Int32) h else rZ (1 : Int32) h)))) else rZ (1 : Int32) h))
def f_M_isIn_b84 (a0 : Nat) (x1 : Int32) (x3 : Int64) (x5 : Int32) (h : AH) : Option (Int32 × AH) := f_M_isIn_b89 a0 x1 x3 x5 (1 : Int32) h
def f_M_isIn_b88 (a0 : Nat) (x1 : Int32) (x3 : Int64) (x5 : Int32) (h : AH) : Option (Int32 × AH) := f_M_isIn_b89 a0 x1 x3 x5 (0 : Int32) h
def f_M_isIn (a0 : Nat) (x1 : Int32) (h : AH) : Option (Int32 × AH) := (fR h 4 11 (some a0)).bind (fun r101 => (lI h 4 r101 x1).bind (fun x102 => (if x102 < 0 then f_M_isIn_b20 x102 h else (fR h 4 20 (some a0)).bind (fun r103 => (lI h 1 r103 x102).bind (fun x104 => (if x104 = 0 then f_M_isIn_b20 x102 h else (fR h 4 21 (some a0)).bind (fun r105 => (lL h 0 r105 x102).bind (fun x106 => (fR h 4 12 (some a0)).bind (fun r107 => (lI h 4 r107 x1).bind (fun x108 => (if (x108 &&& (4 : Int32)) = 0 then (if (x108 &&& (1 : Int32)) = 0 then (fR h 4 13 (some a0)).bind (fun r109 => (lL h 0 r109 x1).bind (fun x110 => (if (lg_cmp x106 x110) < 0 then f_M_isIn_b88 a0 x1 x106 x108 h else f_M_isIn_b84 a0 x1 x106 x108 h))) else (fR h 4 13 (some a0)).bind (fun r111 => (lL h 0 r111 x1).bind (fun x112 => (if (lg_cmp x106 x112) ≤ 0 then f_M_isIn_b88 a0 x1 x106 x108 h else f_M_isIn_b84 a0 x1 x106 x108 h)))) else f_M_isIn_b84 a0 x1 x106 x108 h)))))))))))
set_option maxHeartbeats 4000000 in
set_option maxRecDepth 100000 in
theorem x_M_isIn_b20 {p : Program} {l : Launch} {e : Env} {k1 k2 : Nat} {s : State} {m : MethodId} {args : Array Value} {below : List Frame} {meth : Method} {c : Code} {B : AB} {n0 m0 : Nat} (x2 : Int32) (h : AH) : X_M_isIn p l e k1 k2 s m args below meth c B n0 m0 h 20 [(2, .int x2)] [] (f_M_isIn_b20 x2 h) := by
  unfold f_M_isIn_b20
  refine x_go (pc' := 21) (st' := [.int x2]) (fun hC _ _ _ _ _ _ hl k => lv_iload_n hC.1 hC.2.1 d_M_isIn_20 rfl (lv_at hl 0 rfl) k) ?_
  refine x_if (P := 0 ≤ x2) (pt := 28) (pf := 24) (st' := []) (fun hC _ _ _ _ _ _ kt kf => lv_if_ge (tgt := 28) hC.1 hC.2.1 d_M_isIn_21 (by decide) kt kf) ?_ ?_
  · refine x_go (pc' := 29) (st' := [.int (0 : Int32)]) (fun hC _ _ _ _ _ _ hl k => lv_iconst (v := 0) hC.1 hC.2.1 d_M_isIn_28 (by decide) k) ?_
    exact x_zret d_M_isIn_29
  · refine x_go (pc' := 25) (st' := [.int (1 : Int32)]) (fun hC _ _ _ _ _ _ hl k => lv_iconst (v := 1) hC.1 hC.2.1 d_M_isIn_24 (by decide) k) ?_
    refine x_go (pc' := 29) (st' := [.int (1 : Int32)]) (fun hC _ _ _ _ _ _ hl k => lv_goto (tgt := 29) hC.1 hC.2.1 d_M_isIn_25 (by decide) k) ?_
    exact x_zret d_M_isIn_29
set_option maxHeartbeats 4000000 in
set_option maxRecDepth 100000 in
theorem x_M_isIn_b89 {p : Program} {l : Launch} {e : Env} {k1 k2 : Nat} {s : State} {m : MethodId} {args : Array Value} {below : List Frame} {meth : Method} {c : Code} {B : AB} {n0 m0 : Nat} (a0 : Nat) (x1 : Int32) (x3 : Int64) (x5 : Int32) (xs0 : Int32) (h : AH) : X_M_isIn p l e k1 k2 s m args below meth c B n0 m0 h 89 [(0, .ref a0), (1, .int x1), (3, .long x3), (5, .int x5)] [.int xs0] (f_M_isIn_b89 a0 x1 x3 x5 xs0 h) := by
  unfold f_M_isIn_b89
  refine x_lift (pc' := 91) (st' := []) (lv' := [(6, .int xs0), (0, .ref a0), (1, .int x1), (3, .long x3), (5, .int x5)]) (fun hC _ _ _ _ _ _ hl k => lv_istore (i := 6) hC.1 hC.2.1 d_M_isIn_89 hl (by decide) rfl k) ?_
  refine x_go (pc' := 93) (st' := [.int xs0]) (fun hC _ _ _ _ _ _ hl k => lv_iload hC.1 hC.2.1 d_M_isIn_91 (lv_at hl 0 rfl) k) ?_
  refine x_if (P := xs0 = 0) (pt := 140) (pf := 96) (st' := []) (fun hC _ _ _ _ _ _ kt kf => lv_if_eq (tgt := 140) hC.1 hC.2.1 d_M_isIn_93 (by decide) kt kf) ?_ ?_
  · refine x_go (pc' := 141) (st' := [.int (0 : Int32)]) (fun hC _ _ _ _ _ _ hl k => lv_iconst (v := 0) hC.1 hC.2.1 d_M_isIn_140 (by decide) k) ?_
    exact x_zret d_M_isIn_141
  · refine x_go (pc' := 98) (st' := [.int x5]) (fun hC _ _ _ _ _ _ hl k => lv_iload hC.1 hC.2.1 d_M_isIn_96 (lv_at hl 4 rfl) k) ?_
    refine x_go (pc' := 100) (st' := [.int (8 : Int32), .int x5]) (fun hC _ _ _ _ _ _ hl k => lv_bipush (v := 8) hC.1 hC.2.1 d_M_isIn_98 (by decide) k) ?_
    refine x_go (pc' := 101) (st' := [.int (x5 &&& (8 : Int32))]) (fun hC _ _ _ _ _ _ hl k => lv_iand hC.1 hC.2.1 d_M_isIn_100 k) ?_
    refine x_if (P := (x5 &&& (8 : Int32)) = 0) (pt := 104) (pf := 136) (st' := []) (fun hC _ _ _ _ _ _ kt kf => lv_if_ne (tgt := 136) hC.1 hC.2.1 d_M_isIn_101 (by decide) kf kt) ?_ ?_
    · refine x_go (pc' := 106) (st' := [.int x5]) (fun hC _ _ _ _ _ _ hl k => lv_iload hC.1 hC.2.1 d_M_isIn_104 (lv_at hl 4 rfl) k) ?_
      refine x_go (pc' := 107) (st' := [.int (2 : Int32), .int x5]) (fun hC _ _ _ _ _ _ hl k => lv_iconst (v := 2) hC.1 hC.2.1 d_M_isIn_106 (by decide) k) ?_
      refine x_go (pc' := 108) (st' := [.int (x5 &&& (2 : Int32))]) (fun hC _ _ _ _ _ _ hl k => lv_iand hC.1 hC.2.1 d_M_isIn_107 k) ?_
      refine x_if (P := (x5 &&& (2 : Int32)) = 0) (pt := 125) (pf := 111) (st' := []) (fun hC _ _ _ _ _ _ kt kf => lv_if_eq (tgt := 125) hC.1 hC.2.1 d_M_isIn_108 (by decide) kt kf) ?_ ?_
      · refine x_go (pc' := 126) (st' := [.long x3]) (fun hC _ _ _ _ _ _ hl k => lv_lload_n hC.1 hC.2.1 d_M_isIn_125 rfl (lv_at hl 3 rfl) k) ?_
        refine x_go (pc' := 127) (st' := [.ref a0, .long x3]) (fun hC _ _ _ _ _ _ hl k => lv_aload_n hC.1 hC.2.1 d_M_isIn_126 rfl (lv_at hl 1 rfl) k) ?_
        refine x_getR (ci := 4) (kf := 14) (r := (some a0)) (fun hC => w_get hC iw_4 rfl 14 (by decide) tw_328 rfl d_M_isIn_127) (fun r1001 => ?_)
        refine x_go (pc' := 131) (st' := [.int x1, va_rf r1001, .long x3]) (fun hC _ _ _ _ _ _ hl k => lv_iload_n hC.1 hC.2.1 d_M_isIn_130 rfl (lv_at hl 2 rfl) k) ?_
        refine x_lald (t := 0) rfl (r := r1001) (i := x1) d_M_isIn_131 (fun x1002 => ?_)
        refine x_go (pc' := 133) (st' := [.int (lg_cmp x3 x1002)]) (fun hC _ _ _ _ _ _ hl k => W.lcmp hC.1 hC.2.1 d_M_isIn_132 k) ?_
        refine x_if (P := 0 < (lg_cmp x3 x1002)) (pt := 140) (pf := 136) (st' := []) (fun hC _ _ _ _ _ _ kt kf => lv_if_gt (tgt := 140) hC.1 hC.2.1 d_M_isIn_133 (by decide) kt kf) ?_ ?_
        · refine x_go (pc' := 141) (st' := [.int (0 : Int32)]) (fun hC _ _ _ _ _ _ hl k => lv_iconst (v := 0) hC.1 hC.2.1 d_M_isIn_140 (by decide) k) ?_
          exact x_zret d_M_isIn_141
        · refine x_go (pc' := 137) (st' := [.int (1 : Int32)]) (fun hC _ _ _ _ _ _ hl k => lv_iconst (v := 1) hC.1 hC.2.1 d_M_isIn_136 (by decide) k) ?_
          refine x_go (pc' := 141) (st' := [.int (1 : Int32)]) (fun hC _ _ _ _ _ _ hl k => lv_goto (tgt := 141) hC.1 hC.2.1 d_M_isIn_137 (by decide) k) ?_
          exact x_zret d_M_isIn_141
      · refine x_go (pc' := 112) (st' := [.long x3]) (fun hC _ _ _ _ _ _ hl k => lv_lload_n hC.1 hC.2.1 d_M_isIn_111 rfl (lv_at hl 3 rfl) k) ?_
        refine x_go (pc' := 113) (st' := [.ref a0, .long x3]) (fun hC _ _ _ _ _ _ hl k => lv_aload_n hC.1 hC.2.1 d_M_isIn_112 rfl (lv_at hl 1 rfl) k) ?_
        refine x_getR (ci := 4) (kf := 14) (r := (some a0)) (fun hC => w_get hC iw_4 rfl 14 (by decide) tw_328 rfl d_M_isIn_113) (fun r1003 => ?_)
        refine x_go (pc' := 117) (st' := [.int x1, va_rf r1003, .long x3]) (fun hC _ _ _ _ _ _ hl k => lv_iload_n hC.1 hC.2.1 d_M_isIn_116 rfl (lv_at hl 2 rfl) k) ?_
        refine x_lald (t := 0) rfl (r := r1003) (i := x1) d_M_isIn_117 (fun x1004 => ?_)
        refine x_go (pc' := 119) (st' := [.int (lg_cmp x3 x1004)]) (fun hC _ _ _ _ _ _ hl k => W.lcmp hC.1 hC.2.1 d_M_isIn_118 k) ?_
        refine x_if (P := 0 ≤ (lg_cmp x3 x1004)) (pt := 140) (pf := 122) (st' := []) (fun hC _ _ _ _ _ _ kt kf => lv_if_ge (tgt := 140) hC.1 hC.2.1 d_M_isIn_119 (by decide) kt kf) ?_ ?_
        · refine x_go (pc' := 141) (st' := [.int (0 : Int32)]) (fun hC _ _ _ _ _ _ hl k => lv_iconst (v := 0) hC.1 hC.2.1 d_M_isIn_140 (by decide) k) ?_
          exact x_zret d_M_isIn_141
        · refine x_go (pc' := 136) (st' := []) (fun hC _ _ _ _ _ _ hl k => lv_goto (tgt := 136) hC.1 hC.2.1 d_M_isIn_122 (by decide) k) ?_
          refine x_go (pc' := 137) (st' := [.int (1 : Int32)]) (fun hC _ _ _ _ _ _ hl k => lv_iconst (v := 1) hC.1 hC.2.1 d_M_isIn_136 (by decide) k) ?_
          refine x_go (pc' := 141) (st' := [.int (1 : Int32)]) (fun hC _ _ _ _ _ _ hl k => lv_goto (tgt := 141) hC.1 hC.2.1 d_M_isIn_137 (by decide) k) ?_
          exact x_zret d_M_isIn_141
    · refine x_go (pc' := 137) (st' := [.int (1 : Int32)]) (fun hC _ _ _ _ _ _ hl k => lv_iconst (v := 1) hC.1 hC.2.1 d_M_isIn_136 (by decide) k) ?_
      refine x_go (pc' := 141) (st' := [.int (1 : Int32)]) (fun hC _ _ _ _ _ _ hl k => lv_goto (tgt := 141) hC.1 hC.2.1 d_M_isIn_137 (by decide) k) ?_
      exact x_zret d_M_isIn_141
set_option maxHeartbeats 4000000 in
set_option maxRecDepth 100000 in
theorem x_M_isIn_b84 {p : Program} {l : Launch} {e : Env} {k1 k2 : Nat} {s : State} {m : MethodId} {args : Array Value} {below : List Frame} {meth : Method} {c : Code} {B : AB} {n0 m0 : Nat} (a0 : Nat) (x1 : Int32) (x3 : Int64) (x5 : Int32) (h : AH) : X_M_isIn p l e k1 k2 s m args below meth c B n0 m0 h 84 [(0, .ref a0), (1, .int x1), (3, .long x3), (5, .int x5)] [] (f_M_isIn_b84 a0 x1 x3 x5 h) := by
  unfold f_M_isIn_b84
  refine x_go (pc' := 85) (st' := [.int (1 : Int32)]) (fun hC _ _ _ _ _ _ hl k => lv_iconst (v := 1) hC.1 hC.2.1 d_M_isIn_84 (by decide) k) ?_
  refine x_go (pc' := 89) (st' := [.int (1 : Int32)]) (fun hC _ _ _ _ _ _ hl k => lv_goto (tgt := 89) hC.1 hC.2.1 d_M_isIn_85 (by decide) k) ?_
  exact x_sub (lv' := [(0, .ref a0), (1, .int x1), (3, .long x3), (5, .int x5)]) [0, 1, 2, 3] rfl (x_M_isIn_b89 a0 x1 x3 x5 (1 : Int32) h)
set_option maxHeartbeats 4000000 in
set_option maxRecDepth 100000 in
theorem x_M_isIn_b88 {p : Program} {l : Launch} {e : Env} {k1 k2 : Nat} {s : State} {m : MethodId} {args : Array Value} {below : List Frame} {meth : Method} {c : Code} {B : AB} {n0 m0 : Nat} (a0 : Nat) (x1 : Int32) (x3 : Int64) (x5 : Int32) (h : AH) : X_M_isIn p l e k1 k2 s m args below meth c B n0 m0 h 88 [(0, .ref a0), (1, .int x1), (3, .long x3), (5, .int x5)] [] (f_M_isIn_b88 a0 x1 x3 x5 h) := by
  unfold f_M_isIn_b88
  refine x_go (pc' := 89) (st' := [.int (0 : Int32)]) (fun hC _ _ _ _ _ _ hl k => lv_iconst (v := 0) hC.1 hC.2.1 d_M_isIn_88 (by decide) k) ?_
  exact x_sub (lv' := [(0, .ref a0), (1, .int x1), (3, .long x3), (5, .int x5)]) [0, 1, 2, 3] rfl (x_M_isIn_b89 a0 x1 x3 x5 (0 : Int32) h)
set_option maxHeartbeats 4000000 in
set_option maxRecDepth 100000 in
theorem c_M_isIn (l : Launch) (B : AB) (a0 : Nat) (x1 : Int32) (h : AH) : CT l B y_M_isIn (Cond.code y_M_isIn b_M_isIn 7 (Option.some Jvm.ClassFile.FieldType.boolean) :: lw_tt) 0 0 eI [.ref a0, .int x1] h (f_M_isIn a0 x1 h) := by
  refine ct_of (own := o_M) (nm := "isIn") (by decide +kernel) rfl rfl (Nat.le_of_ble_eq_true rfl) (fun p e k1 k2 s m args below meth c => ?_)
  refine x_sub (lv' := [(0, .ref a0), (1, .int x1)]) [0, 1] rfl ?_
  unfold f_M_isIn
  refine x_go (pc' := 1) (st' := [.ref a0]) (fun hC _ _ _ _ _ _ hl k => lv_aload_n hC.1 hC.2.1 d_M_isIn_0 rfl (lv_at hl 0 rfl) k) ?_
  refine x_getR (ci := 4) (kf := 11) (r := (some a0)) (fun hC => w_get hC iw_4 rfl 11 (by decide) tw_325 rfl d_M_isIn_1) (fun r101 => ?_)
  refine x_go (pc' := 5) (st' := [.int x1, va_rf r101]) (fun hC _ _ _ _ _ _ hl k => lv_iload_n hC.1 hC.2.1 d_M_isIn_4 rfl (lv_at hl 1 rfl) k) ?_
  refine x_iald (t := 4) rfl (r := r101) (i := x1) d_M_isIn_5 (fun x102 => ?_)
  refine x_lift (pc' := 7) (st' := []) (lv' := [(2, .int x102), (0, .ref a0), (1, .int x1)]) (fun hC _ _ _ _ _ _ hl k => lv_istore_n (i := 2) hC.1 hC.2.1 d_M_isIn_6 rfl hl (by decide) rfl k) ?_
  refine x_go (pc' := 8) (st' := [.int x102]) (fun hC _ _ _ _ _ _ hl k => lv_iload_n hC.1 hC.2.1 d_M_isIn_7 rfl (lv_at hl 0 rfl) k) ?_
  refine x_if (P := x102 < 0) (pt := 20) (pf := 11) (st' := []) (fun hC _ _ _ _ _ _ kt kf => lv_if_lt (tgt := 20) hC.1 hC.2.1 d_M_isIn_8 (by decide) kt kf) ?_ ?_
  · exact x_sub (lv' := [(2, .int x102)]) [0] rfl (x_M_isIn_b20 x102 h)
  · refine x_go (pc' := 12) (st' := [.ref a0]) (fun hC _ _ _ _ _ _ hl k => lv_aload_n hC.1 hC.2.1 d_M_isIn_11 rfl (lv_at hl 1 rfl) k) ?_
    refine x_getR (ci := 4) (kf := 20) (r := (some a0)) (fun hC => w_get hC iw_4 rfl 20 (by decide) tw_334 rfl d_M_isIn_12) (fun r103 => ?_)
    refine x_go (pc' := 16) (st' := [.int x102, va_rf r103]) (fun hC _ _ _ _ _ _ hl k => lv_iload_n hC.1 hC.2.1 d_M_isIn_15 rfl (lv_at hl 0 rfl) k) ?_
    refine x_zald (t := 1) rfl (r := r103) (i := x102) d_M_isIn_16 (fun x104 => ?_)
    refine x_if (P := x104 = 0) (pt := 20) (pf := 30) (st' := []) (fun hC _ _ _ _ _ _ kt kf => lv_if_ne (tgt := 30) hC.1 hC.2.1 d_M_isIn_17 (by decide) kf kt) ?_ ?_
    · exact x_sub (lv' := [(2, .int x102)]) [0] rfl (x_M_isIn_b20 x102 h)
    · refine x_go (pc' := 31) (st' := [.ref a0]) (fun hC _ _ _ _ _ _ hl k => lv_aload_n hC.1 hC.2.1 d_M_isIn_30 rfl (lv_at hl 1 rfl) k) ?_
      refine x_getR (ci := 4) (kf := 21) (r := (some a0)) (fun hC => w_get hC iw_4 rfl 21 (by decide) tw_335 rfl d_M_isIn_31) (fun r105 => ?_)
      refine x_go (pc' := 35) (st' := [.int x102, va_rf r105]) (fun hC _ _ _ _ _ _ hl k => lv_iload_n hC.1 hC.2.1 d_M_isIn_34 rfl (lv_at hl 0 rfl) k) ?_
      refine x_lald (t := 0) rfl (r := r105) (i := x102) d_M_isIn_35 (fun x106 => ?_)
      refine x_lift (pc' := 37) (st' := []) (lv' := [(3, .long x106), (2, .int x102), (0, .ref a0), (1, .int x1)]) (fun hC _ _ _ _ _ _ hl k => lv_lstore_n (i := 3) hC.1 hC.2.1 d_M_isIn_36 rfl hl (by decide) rfl k) ?_
      refine x_go (pc' := 38) (st' := [.ref a0]) (fun hC _ _ _ _ _ _ hl k => lv_aload_n hC.1 hC.2.1 d_M_isIn_37 rfl (lv_at hl 2 rfl) k) ?_
      refine x_getR (ci := 4) (kf := 12) (r := (some a0)) (fun hC => w_get hC iw_4 rfl 12 (by decide) tw_326 rfl d_M_isIn_38) (fun r107 => ?_)
      refine x_go (pc' := 42) (st' := [.int x1, va_rf r107]) (fun hC _ _ _ _ _ _ hl k => lv_iload_n hC.1 hC.2.1 d_M_isIn_41 rfl (lv_at hl 3 rfl) k) ?_
      refine x_iald (t := 4) rfl (r := r107) (i := x1) d_M_isIn_42 (fun x108 => ?_)
      refine x_lift (pc' := 45) (st' := []) (lv' := [(5, .int x108), (3, .long x106), (2, .int x102), (0, .ref a0), (1, .int x1)]) (fun hC _ _ _ _ _ _ hl k => lv_istore (i := 5) hC.1 hC.2.1 d_M_isIn_43 hl (by decide) rfl k) ?_
      refine x_go (pc' := 47) (st' := [.int x108]) (fun hC _ _ _ _ _ _ hl k => lv_iload hC.1 hC.2.1 d_M_isIn_45 (lv_at hl 0 rfl) k) ?_
      refine x_go (pc' := 48) (st' := [.int (4 : Int32), .int x108]) (fun hC _ _ _ _ _ _ hl k => lv_iconst (v := 4) hC.1 hC.2.1 d_M_isIn_47 (by decide) k) ?_
      refine x_go (pc' := 49) (st' := [.int (x108 &&& (4 : Int32))]) (fun hC _ _ _ _ _ _ hl k => lv_iand hC.1 hC.2.1 d_M_isIn_48 k) ?_
      refine x_if (P := (x108 &&& (4 : Int32)) = 0) (pt := 52) (pf := 84) (st' := []) (fun hC _ _ _ _ _ _ kt kf => lv_if_ne (tgt := 84) hC.1 hC.2.1 d_M_isIn_49 (by decide) kf kt) ?_ ?_
      · refine x_go (pc' := 54) (st' := [.int x108]) (fun hC _ _ _ _ _ _ hl k => lv_iload hC.1 hC.2.1 d_M_isIn_52 (lv_at hl 0 rfl) k) ?_
        refine x_go (pc' := 55) (st' := [.int (1 : Int32), .int x108]) (fun hC _ _ _ _ _ _ hl k => lv_iconst (v := 1) hC.1 hC.2.1 d_M_isIn_54 (by decide) k) ?_
        refine x_go (pc' := 56) (st' := [.int (x108 &&& (1 : Int32))]) (fun hC _ _ _ _ _ _ hl k => lv_iand hC.1 hC.2.1 d_M_isIn_55 k) ?_
        refine x_if (P := (x108 &&& (1 : Int32)) = 0) (pt := 73) (pf := 59) (st' := []) (fun hC _ _ _ _ _ _ kt kf => lv_if_eq (tgt := 73) hC.1 hC.2.1 d_M_isIn_56 (by decide) kt kf) ?_ ?_
        · refine x_go (pc' := 74) (st' := [.long x106]) (fun hC _ _ _ _ _ _ hl k => lv_lload_n hC.1 hC.2.1 d_M_isIn_73 rfl (lv_at hl 1 rfl) k) ?_
          refine x_go (pc' := 75) (st' := [.ref a0, .long x106]) (fun hC _ _ _ _ _ _ hl k => lv_aload_n hC.1 hC.2.1 d_M_isIn_74 rfl (lv_at hl 3 rfl) k) ?_
          refine x_getR (ci := 4) (kf := 13) (r := (some a0)) (fun hC => w_get hC iw_4 rfl 13 (by decide) tw_327 rfl d_M_isIn_75) (fun r109 => ?_)
          refine x_go (pc' := 79) (st' := [.int x1, va_rf r109, .long x106]) (fun hC _ _ _ _ _ _ hl k => lv_iload_n hC.1 hC.2.1 d_M_isIn_78 rfl (lv_at hl 4 rfl) k) ?_
          refine x_lald (t := 0) rfl (r := r109) (i := x1) d_M_isIn_79 (fun x110 => ?_)
          refine x_go (pc' := 81) (st' := [.int (lg_cmp x106 x110)]) (fun hC _ _ _ _ _ _ hl k => W.lcmp hC.1 hC.2.1 d_M_isIn_80 k) ?_
          refine x_if (P := (lg_cmp x106 x110) < 0) (pt := 88) (pf := 84) (st' := []) (fun hC _ _ _ _ _ _ kt kf => lv_if_lt (tgt := 88) hC.1 hC.2.1 d_M_isIn_81 (by decide) kt kf) ?_ ?_
          · exact x_sub (lv' := [(0, .ref a0), (1, .int x1), (3, .long x106), (5, .int x108)]) [3, 4, 1, 0] rfl (x_M_isIn_b88 a0 x1 x106 x108 h)
          · exact x_sub (lv' := [(0, .ref a0), (1, .int x1), (3, .long x106), (5, .int x108)]) [3, 4, 1, 0] rfl (x_M_isIn_b84 a0 x1 x106 x108 h)
        · refine x_go (pc' := 60) (st' := [.long x106]) (fun hC _ _ _ _ _ _ hl k => lv_lload_n hC.1 hC.2.1 d_M_isIn_59 rfl (lv_at hl 1 rfl) k) ?_
          refine x_go (pc' := 61) (st' := [.ref a0, .long x106]) (fun hC _ _ _ _ _ _ hl k => lv_aload_n hC.1 hC.2.1 d_M_isIn_60 rfl (lv_at hl 3 rfl) k) ?_
          refine x_getR (ci := 4) (kf := 13) (r := (some a0)) (fun hC => w_get hC iw_4 rfl 13 (by decide) tw_327 rfl d_M_isIn_61) (fun r111 => ?_)
          refine x_go (pc' := 65) (st' := [.int x1, va_rf r111, .long x106]) (fun hC _ _ _ _ _ _ hl k => lv_iload_n hC.1 hC.2.1 d_M_isIn_64 rfl (lv_at hl 4 rfl) k) ?_
          refine x_lald (t := 0) rfl (r := r111) (i := x1) d_M_isIn_65 (fun x112 => ?_)
          refine x_go (pc' := 67) (st' := [.int (lg_cmp x106 x112)]) (fun hC _ _ _ _ _ _ hl k => W.lcmp hC.1 hC.2.1 d_M_isIn_66 k) ?_
          refine x_if (P := (lg_cmp x106 x112) ≤ 0) (pt := 88) (pf := 70) (st' := []) (fun hC _ _ _ _ _ _ kt kf => lv_if_le (tgt := 88) hC.1 hC.2.1 d_M_isIn_67 (by decide) kt kf) ?_ ?_
          · exact x_sub (lv' := [(0, .ref a0), (1, .int x1), (3, .long x106), (5, .int x108)]) [3, 4, 1, 0] rfl (x_M_isIn_b88 a0 x1 x106 x108 h)
          · refine x_go (pc' := 84) (st' := []) (fun hC _ _ _ _ _ _ hl k => lv_goto (tgt := 84) hC.1 hC.2.1 d_M_isIn_70 (by decide) k) ?_
            exact x_sub (lv' := [(0, .ref a0), (1, .int x1), (3, .long x106), (5, .int x108)]) [3, 4, 1, 0] rfl (x_M_isIn_b84 a0 x1 x106 x108 h)
      · exact x_sub (lv' := [(0, .ref a0), (1, .int x1), (3, .long x106), (5, .int x108)]) [3, 4, 1, 0] rfl (x_M_isIn_b84 a0 x1 x106 x108 h)
