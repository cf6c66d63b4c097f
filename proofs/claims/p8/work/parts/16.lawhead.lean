-- ===== end of PART A; then your names; then what follows =====
/-! THE CLAIM OUT OF ONE WALK OF THE LAW'S BODY. Your part is whole_start (and what it stands on); all else here is the same for every law, but numbers. -/
def R_law : String := "SerialDeskLaw"
def lw_P (b : Addr) (xs : List Int32) (args : Array Value) (s : State) : Prop := args = #[.ref b] ∧ s.IntsAt b xs ∧ xs.length ≤ 4608 ∧ (Jvm.Cond.and given_1 narrow_1).before args s = true
def lw_Q (_ : Array Value) (s : State) (o : Outcome) (t : State) : Prop := o = .returned (some (.int 1)) ∧ Framed s o t [] 600000 7302250
def lw_Z (below : List Frame) (a : Array Value) (s : State) : State → Prop := fun t => ∃ o, t.status = .running ∧ Ended t below o ∧ lw_Q a s o t
/-- the law's own end, with 1 on the stack, nothing written that was there before, its room as the claim has it -/
theorem lw_ret {p : Program} {l : Launch} {e : Env} {s : State} {m : MethodId} {below : List Frame} {meth : Method} {c : Code} {b : Nat} (hx : p.tables.exec = Jvm.exec) (hb : c.code = code) (hr : meth.sig.returnType = ret) (hlocks : meth.locks = false) {pc : Nat} {H : Heap} {ls : Array Slot} (hdg : decode code pc = .ok (.ireturn, 1)) : W p l e room_1 s m #[Value.ref b] below meth c H [] 600000 7302250 (lw_Z below #[Value.ref b] s) (F0 m pc ls [.int 1]) := by
  intro T hT X
  obtain ⟨fs, hret, hrun, hended, hW, hframe⟩ := X.leave (v := some (.int 1)) (hlocks := hlocks) (fun h => by rw [hr] at h; cases h)
  have hmeth' : T.vm.method? m = some meth := X.method'
  refine ⟨T.setFrames fs, ?_, .returned (some (.int 1)), hrun, hended, rfl, ⟨_, rfl⟩, hW, hframe⟩
  jvm_step X.here [X.here.top, hx, hb, hdg, hmeth', hr, ret, narrow_b1]
  (try refine ⟨rfl, ?_⟩); (try refine ⟨rfl, ?_⟩)
  first | (intro acts; rw [hret _ acts rfl rfl rfl]) | rw [hret _ _ rfl rfl rfl]
  exact Steps.refl _
/-- what holds at the law's entry: the machine, the code, the tables' words (any of lw_tbl by 'hts w (by decide +kernel)'), the script of L ints xs at the cell b, what the Statement gives of the start (any of its parts by flat_of_before) -/
def lw_At (p : Program) (s : State) (m : MethodId) (meth : Method) (c : Code) (b L : Nat) (xs : Nat → Int32) : Prop :=
  p.tables.exec = Jvm.exec ∧ c.code = code ∧ meth.sig.returnType = ret ∧ c.maxLocals = 4 ∧ s.vm.findClass R_law = some m.cls ∧ (∀ w ∈ lw_tbl, w.before #[Value.ref b] s = true) ∧ va_X b L xs s s.heap ∧ b < s.heap.size ∧ meth.locks = false ∧ (Jvm.Cond.and given_1 narrow_1).before #[Value.ref b] s = true
section XL
variable {ρ : Type} {p : Program} {l : Launch} {e : Env} {R : Room} {s : State} {m : MethodId} {args : Array Value} {below : List Frame} {meth : Method} {c : Code} {cc : ByteArray} {own : String} {Ts : List Cond} {nL : Nat} {rt : Option FieldType} {nm : String} {B : AB} {n0 m0 : Nat} {Q : ρ → AH → State → Prop} {h : AH} {pc : Nat} {lv : List (Nat × Value)} {st : List Value} {b L : Nat} {xs : Nat → Int32}
/-- the script is read -/
def sE (L : Nat) (xs : Nat → Int32) (i : Int32) : Option Int32 := if i < 0 ∨ L ≤ i.toNatClampNeg then none else some (xs i.toNatClampNeg)
theorem x_sld {i : Int32} {K : Int32 → Option (ρ × AH)} (hX : va_X b L xs s B.2.2.2) (hb : b < B.2.2.1) (hd : decode cc pc = .ok (.iaload, 1)) (k : ∀ x : Int32, XX p l e R s m args below meth c cc own Ts nL rt nm B n0 m0 Q h (pc + 1) lv (.int x :: st) (K x)) : XX p l e R s m args below meth c cc own Ts nL rt nm B n0 m0 Q h pc lv (.int i :: .ref b :: st) ((sE L xs i).bind K) := by
  intro r' h' hc
  obtain ⟨x, hv, hcz⟩ := Option.bind_eq_some_iff.mp hc
  unfold sE at hv
  by_cases hi : i < 0 ∨ L ≤ i.toNatClampNeg
  · rw [if_pos hi] at hv
    cases hv
  · rw [if_neg hi] at hv
    cases hv
    refine ⟨(k _ r' h' hcz).1, fun hC h1 h2 H locs ls cells slots hR hL hl e1 e2 => ?_⟩
    obtain ⟨scr, q1, q2, q3, q4, q5⟩ := hX
    exact W.iald hC.1 hC.2.1 ((hR.2.2.1 b hb).trans q1) q2 q3 (by rw [q4]; exact hi) (q5 _ (Nat.not_le.mp fun q => hi (Or.inr q))) rfl rfl hd ((k _ r' h' hcz).2 hC h1 h2 H locs ls cells slots hR hL hl e1 e2)
theorem x_slen {K : Option (ρ × AH)} (hX : va_X b L xs s B.2.2.2) (hb : b < B.2.2.1) (hd : decode cc pc = .ok (.arraylength, 1)) (k : XX p l e R s m args below meth c cc own Ts nL rt nm B n0 m0 Q h (pc + 1) lv (.int (nI L) :: st) K) : XX p l e R s m args below meth c cc own Ts nL rt nm B n0 m0 Q h pc lv (.ref b :: st) K := by
  intro r' h' hc
  refine ⟨(k r' h' hc).1, fun hC h1 h2 H locs ls cells slots hR hL hl e1 e2 => ?_⟩
  obtain ⟨scr, q1, q2, q3, q4, q5⟩ := hX
  exact W.alen (n := nI L) hC.1 hC.2.1 ((hR.2.2.1 b hb).trans q1) q2 (by rw [q4]; rfl) rfl rfl hd ((k r' h' hc).2 hC h1 h2 H locs ls cells slots hR hL hl e1 e2)
end XL
/-- the law's end -/
def QL (below : List Frame) (b : Nat) (s : State) : Int32 → AH → State → Prop := fun r _ t => r = 1 → lw_Z below #[Value.ref b] s t
theorem x_lawret {p : Program} {l : Launch} {e : Env} {s : State} {m : MethodId} {below : List Frame} {meth : Method} {c : Code} {own nm : String} {Ts : List Cond} {nL : Nat} {B : AB} {n0 m0 : Nat} {h : AH} {pc : Nat} {lv : List (Nat × Value)} {b : Nat} {x : Int32} (hB : B.2.2.1 = s.heap.size) (hd : decode code pc = .ok (.ireturn, 1)) : XX p l e room_1 s m #[Value.ref b] below meth c code own Ts nL ret nm B n0 m0 (QL below b s) h pc lv [.int x] (some (x, h)) := by
  refine x_ret fun hC H locs ls hR hL => ?_
  by_cases hx : x = 1
  · subst hx
    refine va_forget (fun q hq => by rw [← hB]; exact hL q hq) ?_
    have := lw_ret (p := p) (l := l) (e := e) (s := s) (m := m) (below := below) (meth := meth) (c := c) (b := b) (H := H) (ls := ls) hC.1 hC.2.1 hC.2.2.2.2.2.1 hC.2.2.2.2.2.2.1 hd
    intro T hT X
    obtain ⟨t, a1, b1⟩ := this T hT X
    exact ⟨t, a1, fun _ => b1⟩
  · intro T hT X
    exact ⟨_, Steps.refl _, fun h1 => absurd h1 hx⟩
/-- the classes and array classes at the start -/
theorem kx_start {s : State} {args : Array Value} (hts : ∀ w ∈ lw_tbl, w.before args s = true) (base : Nat) (H0 : Heap) : ∃ (D : va_G) (dA : Nat → ClassId), KX (D, dA, base, H0) s := by
  obtain ⟨c0, i0, hn0⟩ := u_known (C := o_R) (T := tb_0) (N := 5) (n := 5) (fun w hw => hts w (List.mem_filter.mp hw).1) iw_0 (hts _ (List.mem_filter.mp tw_117).1)
  obtain ⟨c1, i1, hn1⟩ := u_known (C := o_T) (T := tb_1) (N := 9) (n := 9) (fun w hw => hts w (List.mem_filter.mp hw).1) iw_1 (hts _ (List.mem_filter.mp tw_61).1)
  obtain ⟨c2, i2, hn2⟩ := u_known (C := o_V) (T := tb_2) (N := 2) (n := 2) (fun w hw => hts w (List.mem_filter.mp hw).1) iw_2 (hts _ (List.mem_filter.mp tw_15).1)
  obtain ⟨c3, i3, hn3⟩ := u_known (C := o_D) (T := tb_3) (N := 6) (n := 6) (fun w hw => hts w (List.mem_filter.mp hw).1) iw_3 (hts _ (List.mem_filter.mp tw_7).1)
  obtain ⟨c4, i4, hn4⟩ := u_known (C := o_M) (T := tb_4) (N := 22) (n := 22) (fun w hw => hts w (List.mem_filter.mp hw).1) iw_4 (hts _ (List.mem_filter.mp tw_309).1)
  have hK : ∃ D : va_G, va_K D vwCl [] s := by
    refine ⟨(fun k => if k = 0 then c0 else if k = 1 then c1 else if k = 2 then c2 else if k = 3 then c3 else c4, fun k => if k = 0 then i0 else if k = 1 then i1 else if k = 2 then i2 else if k = 3 then i3 else i4), ?_, fun k q h => by simp at h⟩
    intro k q hq
    match k, hq with
    | 0, hq => cases hq; exact hn0
    | 1, hq => cases hq; exact hn1
    | 2, hq => cases hq; exact hn2
    | 3, hq => cases hq; exact hn3
    | 4, hq => cases hq; exact hn4
    | k + 5, hq => simp [vwCl] at hq
  obtain ⟨D, hD⟩ := hK
  obtain ⟨a0, k0, m0, z0, v0, w0⟩ := Cond.arrayClass_spec (hts (.arrayClass .long) (by decide +kernel))
  obtain ⟨a1, k1, m1, z1, v1, w1⟩ := Cond.arrayClass_spec (hts (.arrayClass .boolean) (by decide +kernel))
  obtain ⟨m2, a2, k2, u2, -, v2, w2, z2⟩ := Cond.arrayOver_spec (hts (.arrayOver (.object "SerialDesk$Transaction")) (by decide +kernel))
  obtain ⟨m3, a3, k3, u3, -, v3, w3, z3⟩ := Cond.arrayOver_spec (hts (.arrayOver (.object "SerialDesk$Range")) (by decide +kernel))
  obtain ⟨a4, k4, m4, z4, v4, w4⟩ := Cond.arrayClass_spec (hts (.arrayClass .int) (by decide +kernel))
  refine ⟨D, fun k => if k = 0 then a0 else if k = 1 then a1 else if k = 2 then a2 else if k = 3 then a3 else a4, hD, ?_, ?_, ?_, ?_⟩
  · intro k ty hk
    match k, hk with
    | 0, hk => cases hk; exact ⟨fun N z => ⟨(fun k h => by cases h), k0, v0, m0, w0⟩, z0⟩
    | 1, hk => cases hk; exact ⟨fun N z => ⟨(fun k h => by cases h), k1, v1, m1, w1⟩, z1⟩
    | 2, hk => cases hk; exact ⟨fun N z => ⟨(fun k h => by cases h), k2, v2, m2, w2⟩, k2, m2, v2, w2, u2, z2⟩
    | 3, hk => cases hk; exact ⟨fun N z => ⟨(fun k h => by cases h), k3, v3, m3, w3⟩, k3, m3, v3, w3, u3, z3⟩
    | 4, hk => cases hk; exact ⟨fun N z => ⟨(fun k h => by cases h), k4, v4, m4, w4⟩, z4⟩
    | k + 5, hk => simp [aTys] at hk
  · exact fun w hw => by
      simp only [nwF, List.mem_cons, List.not_mem_nil, or_false] at hw
      rcases hw with rfl | rfl | rfl | rfl | rfl | rfl <;> exact va_Nw.of rfl (hts _ (by decide +kernel))
  · exact fun w hw => by
      simp only [nwM, List.mem_cons, List.not_mem_nil, or_false] at hw
      rcases hw with rfl | rfl | rfl | rfl <;> exact va_Nw.of rfl (hts _ (by decide +kernel))
  · exact fun w hw => by
      simp only [nwO, List.mem_cons, List.not_mem_nil, or_false] at hw
      rcases hw with rfl | rfl <;> exact va_AO.of (hts _ (by decide +kernel))
