section XA
variable {ρ : Type} {p : Program} {l : Launch} {e : Env} {R : Room} {s : State} {m : MethodId} {args : Array Value} {below : List Frame} {meth : Method} {c : Code} {cc : ByteArray} {own : String} {Ts : List Cond} {nL : Nat} {ret : Option FieldType} {nm : String} {B : AB} {n0 m0 : Nat} {Q : ρ → AH → State → Prop} {h : AH} {pc pc' : Nat} {lv lv' : List (Nat × Value)} {st st' : List Value} {comp : Option (ρ × AH)}
theorem ax_in {cA : ClassId} {i : Int32} {n : Nat} {f : Nat → Value} (hi : ¬ (i < 0 ∨ n ≤ i.toNatClampNeg)) : ¬ (i < 0 ∨ (arrV cA n f).slots.size ≤ i.toNatClampNeg) := by rw [arrV_size]; exact hi
theorem ax_rd {cA : ClassId} {i : Int32} {n : Nat} {f : Nat → Value} (hi : ¬ (i < 0 ∨ n ≤ i.toNatClampNeg)) : (arrV cA n f).slots[i.toNatClampNeg]? = some (f i.toNatClampNeg) := arrV_read _ _ (Nat.not_le.mp fun q => hi (Or.inr q))
/-- an element is read -/
theorem x_ldE {t : Nat} {ty : FieldType} (hty : aTys[t]? = some ty) {r : Option Nat} {i : Int32} {K : Value → Option (ρ × AH)}
    (hw : XC p s m args meth c cc own Ts nL ret nm B → ∀ {H : Heap} {a : Nat} {cell : Cell} {v : Value} {ls : Array Slot} {locs : List Loc} {cells slots : Nat} {Qs : State → Prop}, H[a]? = some cell → s.isArrayOf cell ty → cell.vm ≠ .unknown → ¬ (i < 0 ∨ cell.slots.size ≤ i.toNatClampNeg) → cell.slots[i.toNatClampNeg]? = some v → W p l e R s m args below meth c H locs cells slots Qs (F0 m (pc + 1) ls (v :: st)) → W p l e R s m args below meth c H locs cells slots Qs (F0 m pc ls (.int i :: .ref a :: st)))
    (k : ∀ v, XX p l e R s m args below meth c cc own Ts nL ret nm B n0 m0 Q h (pc + 1) lv (v :: st) (K v)) : XX p l e R s m args below meth c cc own Ts nL ret nm B n0 m0 Q h pc lv (.int i :: va_rf r :: st) ((gE h t r i).bind K) := by
  intro r' h' hc
  obtain ⟨v, hv0, hcz⟩ := Option.bind_eq_some_iff.mp hc
  obtain ⟨⟨a, n, f⟩, ho, hv⟩ := Option.bind_eq_some_iff.mp hv0
  obtain ⟨rfl, ha⟩ := gA_eq ho
  dsimp only at hv
  by_cases hi : i < 0 ∨ n ≤ i.toNatClampNeg
  · rw [if_pos hi] at hv
    cases hv
  · rw [if_neg hi] at hv
    cases hv
    exact ⟨(k _ r' h' hcz).1, fun hC h1 h2 H locs ls cells slots hR hL hl e1 e2 => hw hC (hR.2.2.2 a _ ha).2 ((hC.2.2.2.2.2.2.2.2.2.1 t ty hty).1 n f) (fun q => by cases q) (ax_in hi) (ax_rd hi) ((k _ r' h' hcz).2 hC h1 h2 H locs ls cells slots hR hL hl e1 e2)⟩
theorem x_iald {t : Nat} (hty : aTys[t]? = some .int) {r : Option Nat} {i : Int32} {K : Int32 → Option (ρ × AH)} (hd : decode cc pc = .ok (.iaload, 1)) (k : ∀ x : Int32, XX p l e R s m args below meth c cc own Ts nL ret nm B n0 m0 Q h (pc + 1) lv (.int x :: st) (K x)) : XX p l e R s m args below meth c cc own Ts nL ret nm B n0 m0 Q h pc lv (.int i :: va_rf r :: st) ((lI h t r i).bind K) := by
  have he : (lI h t r i).bind K = (gE h t r i).bind fun v => (vI v).bind K := by simp [lI, Option.bind_assoc]
  rw [he]
  refine x_ldE hty (fun hC => fun g1 g2 g3 g4 g5 kk => W.iald hC.1 hC.2.1 g1 g2 g3 g4 g5 rfl rfl hd kk) fun v => ?_
  intro r' h' hc
  obtain ⟨x, hx, hc⟩ := Option.bind_eq_some_iff.mp hc
  rw [vI_eq hx]
  exact k x r' h' hc
theorem x_zald {t : Nat} (hty : aTys[t]? = some .boolean) {r : Option Nat} {i : Int32} {K : Int32 → Option (ρ × AH)} (hd : decode cc pc = .ok (.baload, 1)) (k : ∀ x : Int32, XX p l e R s m args below meth c cc own Ts nL ret nm B n0 m0 Q h (pc + 1) lv (.int x :: st) (K x)) : XX p l e R s m args below meth c cc own Ts nL ret nm B n0 m0 Q h pc lv (.int i :: va_rf r :: st) ((lI h t r i).bind K) := by
  have he : (lI h t r i).bind K = (gE h t r i).bind fun v => (vI v).bind K := by simp [lI, Option.bind_assoc]
  rw [he]
  refine x_ldE hty (fun hC => fun g1 g2 g3 g4 g5 kk => W.zald hC.1 hC.2.1 g1 g2 g3 g4 g5 rfl rfl hd kk) fun v => ?_
  intro r' h' hc
  obtain ⟨x, hx, hc⟩ := Option.bind_eq_some_iff.mp hc
  rw [vI_eq hx]
  exact k x r' h' hc
theorem x_lald {t : Nat} (hty : aTys[t]? = some .long) {r : Option Nat} {i : Int32} {K : Int64 → Option (ρ × AH)} (hd : decode cc pc = .ok (.laload, 1)) (k : ∀ x : Int64, XX p l e R s m args below meth c cc own Ts nL ret nm B n0 m0 Q h (pc + 1) lv (.long x :: st) (K x)) : XX p l e R s m args below meth c cc own Ts nL ret nm B n0 m0 Q h pc lv (.int i :: va_rf r :: st) ((lL h t r i).bind K) := by
  have he : (lL h t r i).bind K = (gE h t r i).bind fun v => (vL v).bind K := by simp [lL, Option.bind_assoc]
  rw [he]
  refine x_ldE hty (fun hC => fun g1 g2 g3 g4 g5 kk => W.lald hC.1 hC.2.1 g1 g2 g3 g4 g5 rfl rfl hd kk) fun v => ?_
  intro r' h' hc
  obtain ⟨x, hx, hc⟩ := Option.bind_eq_some_iff.mp hc
  rw [vL_eq hx]
  exact k x r' h' hc
theorem x_aald {t : Nat} {ty : FieldType} (hty : aTys[t]? = some ty) (href : ty.isReference = true) {r : Option Nat} {i : Int32} {K : Option Nat → Option (ρ × AH)} (hd : decode cc pc = .ok (.aaload, 1)) (k : ∀ x : Option Nat, XX p l e R s m args below meth c cc own Ts nL ret nm B n0 m0 Q h (pc + 1) lv (va_rf x :: st) (K x)) : XX p l e R s m args below meth c cc own Ts nL ret nm B n0 m0 Q h pc lv (.int i :: va_rf r :: st) ((lR h t r i).bind K) := by
  have he : (lR h t r i).bind K = (gE h t r i).bind fun v => (vR v).bind K := by simp [lR, Option.bind_assoc]
  rw [he]
  refine x_ldE hty (fun hC => fun g1 g2 g3 g4 g5 kk => W.aald hC.1 hC.2.1 g1 g2 href g3 g4 g5 rfl rfl hd kk) fun v => ?_
  intro r' h' hc
  obtain ⟨x, hx, hc⟩ := Option.bind_eq_some_iff.mp hc
  rw [vR_eq hx]
  exact k x r' h' hc
/-- an element is written -/
theorem x_stE {t : Nat} {ty : FieldType} (hty : aTys[t]? = some ty) {r : Option Nat} {i : Int32} {v : Value} {K : AH → Option (ρ × AH)}
    (hw : XC p s m args meth c cc own Ts nL ret nm B → ∀ {H : Heap} {a n : Nat} {f : Nat → Value} {ls : Array Slot} {locs : List Loc} {cells slots : Nat} {Qs : State → Prop}, Rep B h H → H[a]? = some (arrV (B.2.1 t) n f) → ¬ (i < 0 ∨ n ≤ i.toNatClampNeg) → (∀ H1 : Heap, H1[a]? = some ((arrV (B.2.1 t) n f).setSlot i.toNatClampNeg v) → H1.size = H.size → (∀ q : Nat, q ≠ a → H1[q]? = H[q]?) → W p l e R s m args below meth c H1 (locs ++ [⟨a, i.toNatClampNeg⟩]) cells slots Qs (F0 m (pc + 1) ls st)) → W p l e R s m args below meth c H locs cells slots Qs (F0 m pc ls (v :: .int i :: .ref a :: st)))
    (k : ∀ h1, XX p l e R s m args below meth c cc own Ts nL ret nm B n0 m0 Q h1 (pc + 1) lv st (K h1)) : XX p l e R s m args below meth c cc own Ts nL ret nm B n0 m0 Q h pc lv (v :: .int i :: va_rf r :: st) ((pE h t r i v).bind K) := by
  intro r' h' hc
  obtain ⟨h1, hv0, hcz⟩ := Option.bind_eq_some_iff.mp hc
  obtain ⟨⟨a, n, f⟩, ho, hv⟩ := Option.bind_eq_some_iff.mp hv0
  obtain ⟨rfl, ha⟩ := gA_eq ho
  dsimp only at hv
  by_cases hi : i < 0 ∨ n ≤ i.toNatClampNeg
  · rw [if_pos hi] at hv
    cases hv
  · rw [if_neg hi] at hv
    cases hv
    refine ⟨(k _ r' h' hcz).1, fun hC q1 q2 H locs ls cells slots hR hL hl e1 e2 => hw hC hR (hR.2.2.2 a _ ha).2 hi fun H1 g1 g2 g3 => ?_⟩
    refine (k _ r' h' hcz).2 hC q1 q2 H1 _ ls cells slots (Rep_put hR ha g2 g3 ?_) (fun q hq => ?_) hl e1 e2
    · show H1[a]? = some (arrV _ _ _)
      rw [g1, arrV_store]
    · rcases List.mem_append.mp hq with hq | hq
      · exact hL q hq
      · rw [List.mem_singleton.mp hq]
        exact (hR.2.2.2 a _ ha).1
theorem x_iast {t : Nat} (hty : aTys[t]? = some .int) {r : Option Nat} {i x : Int32} {K : AH → Option (ρ × AH)} (hd : decode cc pc = .ok (.iastore, 1)) (k : ∀ h1, XX p l e R s m args below meth c cc own Ts nL ret nm B n0 m0 Q h1 (pc + 1) lv st (K h1)) : XX p l e R s m args below meth c cc own Ts nL ret nm B n0 m0 Q h pc lv (.int x :: .int i :: va_rf r :: st) ((pE h t r i (.int x)).bind K) :=
  x_stE hty (fun hC => fun _ g1 gi kk => W.iast hC.1 hC.2.1 g1 ((hC.2.2.2.2.2.2.2.2.2.1 t _ hty).1 _ _) (fun q => by cases q) (ax_in gi) rfl rfl hd kk) k
theorem x_last {t : Nat} (hty : aTys[t]? = some .long) {r : Option Nat} {i : Int32} {x : Int64} {K : AH → Option (ρ × AH)} (hd : decode cc pc = .ok (.lastore, 1)) (k : ∀ h1, XX p l e R s m args below meth c cc own Ts nL ret nm B n0 m0 Q h1 (pc + 1) lv st (K h1)) : XX p l e R s m args below meth c cc own Ts nL ret nm B n0 m0 Q h pc lv (.long x :: .int i :: va_rf r :: st) ((pE h t r i (.long x)).bind K) :=
  x_stE hty (fun hC => fun _ g1 gi kk => W.last hC.1 hC.2.1 g1 ((hC.2.2.2.2.2.2.2.2.2.1 t _ hty).1 _ _) (fun q => by cases q) (ax_in gi) rfl rfl hd kk) k
def qE (h : AH) (t : Nat) (r : Option Nat) (i x : Int32) : Option AH := if x = 0 ∨ x = 1 then pE h t r i (.int x) else none
theorem x_zast {t : Nat} (hty : aTys[t]? = some .boolean) {r : Option Nat} {i x : Int32} {K : AH → Option (ρ × AH)} (hd : decode cc pc = .ok (.bastore, 1)) (k : ∀ h1, XX p l e R s m args below meth c cc own Ts nL ret nm B n0 m0 Q h1 (pc + 1) lv st (K h1)) : XX p l e R s m args below meth c cc own Ts nL ret nm B n0 m0 Q h pc lv (.int x :: .int i :: va_rf r :: st) ((qE h t r i x).bind K) := by
  by_cases hx : x = 0 ∨ x = 1
  · rw [show qE h t r i x = pE h t r i (.int x) from if_pos hx]
    exact x_stE hty (fun hC => fun _ g1 gi kk => W.zast hC.1 hC.2.1 g1 ((hC.2.2.2.2.2.2.2.2.2.1 t _ hty).1 _ _) (fun q => by cases q) (ax_in gi) rfl rfl hd (fun H1 e1 => kk H1 (by rw [nZ hx] at e1; exact e1))) k
  · rw [show qE h t r i x = none from if_neg hx]
    exact x_none
/-- a reference is written: null, or an object whose class is the array's component -/
def qR (h : AH) (t ci : Nat) (r : Option Nat) (i : Int32) (x : Option Nat) : Option AH := match x with
  | none => pE h t r i .null
  | some v => (gO h ci (some v)).bind fun _ => pE h t r i (.ref v)
theorem x_aast {t ci : Nat} {q : vw_C} (hty : aTys[t]? = some (.object q.1)) (hc : vwCl[ci]? = some q) {r x : Option Nat} {i : Int32} {K : AH → Option (ρ × AH)} (hd : decode cc pc = .ok (.aastore, 1)) (k : ∀ h1, XX p l e R s m args below meth c cc own Ts nL ret nm B n0 m0 Q h1 (pc + 1) lv st (K h1)) : XX p l e R s m args below meth c cc own Ts nL ret nm B n0 m0 Q h pc lv (va_rf x :: .int i :: va_rf r :: st) ((qR h t ci r i x).bind K) := by
  cases x with
  | none =>
    exact x_stE hty (v := .null) (fun hC => fun _ g1 gi kk => va_WaastN (C := q.1) hC.1 hC.2.1 g1 ((hC.2.2.2.2.2.2.2.2.2.1 t _ hty).1 _ _) (fun q => by cases q) (ax_in gi) rfl rfl hd kk) k
  | some v =>
    intro r' h' hc'
    obtain ⟨h1, hv0, hcz⟩ := Option.bind_eq_some_iff.mp hc'
    obtain ⟨⟨v', vs⟩, ho, hv⟩ := Option.bind_eq_some_iff.mp hv0
    obtain ⟨ev, hva⟩ := gO_eq ho
    cases ev
    refine x_stE hty (v := .ref v) (fun hC => fun hR g1 gi kk => ?_) k r' h' (by rw [hv]; exact hcz)
    obtain ⟨r2, hr2, cellV, v1, v2, v3, -⟩ := (hR.2.2.2 v _ hva).2
    have hK := hC.2.2.2.2.2.2.2.2.1
    have hcls := (hK.1 ci q hc).2
    obtain ⟨kA, cp, k1, k2, k3, -⟩ := (hC.2.2.2.2.2.2.2.2.2.1 t _ hty).2
    have hcp : cp = B.1.1 ci := Option.some.inj (k3.symm.trans hcls.1)
    subst hcp
    obtain ⟨kC, hkC, -⟩ := id hcls.2
    exact W.aast hC.1 hC.2.1 g1 (fun q h => by cases h) (fun h => by cases h) k1 k2 rfl hkC ⟨fun q => gi (Or.inl q), by rw [arrV_size]; exact Nat.not_le.mp fun q => gi (Or.inr q)⟩ v1 (fun q h => by rw [v3] at h; cases h) (by rw [v2]; exact hkC) (by rw [v2]; exact va_assign hcls) rfl rfl hd kk
theorem x_alen {t : Nat} {ty : FieldType} (hty : aTys[t]? = some ty) {r : Option Nat} {K : Int32 → Option (ρ × AH)} (hd : decode cc pc = .ok (.arraylength, 1)) (k : ∀ x : Int32, XX p l e R s m args below meth c cc own Ts nL ret nm B n0 m0 Q h (pc + 1) lv (.int x :: st) (K x)) : XX p l e R s m args below meth c cc own Ts nL ret nm B n0 m0 Q h pc lv (va_rf r :: st) ((gN h t r).bind K) := by
  intro r' h' hc
  obtain ⟨x, hv0, hcz⟩ := Option.bind_eq_some_iff.mp hc
  obtain ⟨⟨a, n, f⟩, ho, hv⟩ := Option.bind_eq_some_iff.mp hv0
  obtain ⟨rfl, ha⟩ := gA_eq ho
  cases hv
  exact ⟨(k _ r' h' hcz).1, fun hC h1 h2 H locs ls cells slots hR hL hl e1 e2 => W.alen (n := nI n) (ty := ty) hC.1 hC.2.1 (hR.2.2.2 a _ ha).2 ((hC.2.2.2.2.2.2.2.2.2.1 t ty hty).1 n f) (by rw [arrV_size]; rfl) rfl rfl hd ((k _ r' h' hcz).2 hC h1 h2 H locs ls cells slots hR hL hl e1 e2)⟩
/-- new cells -/
theorem x_new {C : String} {T : u_T} {N ci index : Nat} {fs : List Value} {K : Nat → AH → Option (ρ × AH)} (hin : ∀ w ∈ u_ws C T N, w ∈ Ts) (ty : Nat → FieldType) (hty : ∀ k, k < N → parseFieldDescriptor (T k).2.2.1 = some (ty k)) (hcl : Cond.classLink own index C ∈ Ts) (hinst : Cond.instantiable C N ∈ Ts) (hini : Cond.initialized C ∈ Ts) (hc : vwCl[ci]? = some (C, T, N)) (hN : fs.length = N) (hfs : ∀ j, j < N → defaultValue (ty j) = vp_V fs j) (hd : decode cc pc = .ok (.new index, 3))
    (k : ∀ (a : Nat) (h1 : AH), XX p l e R s m args below meth c cc own Ts nL ret nm B n0 m0 Q h1 (pc + 3) lv (.ref a :: st) (K a h1)) : XX p l e R s m args below meth c cc own Ts nL ret nm B n0 m0 Q h pc lv st (nOk h ci fs K) := by
  subst hN
  intro r' h' hc'
  have k1 := k h.2.1 (apush h (.inr (ci, fs)) fs.length) r' h' hc'
  have m1 : h.2.1 + 1 ≤ h'.2.1 := k1.1.1
  have m2 : h.2.2 + fs.length ≤ h'.2.2 := k1.1.2
  refine ⟨⟨by omega, by omega⟩, fun hC h1 h2 H locs ls cells slots hR hL hl e1 e2 => ?_⟩
  have hts := hC.2.2.2.2.1
  have hKn := hC.2.2.2.2.2.2.2.2.1.1 ci _ hc
  refine W.newcK hC.1 hC.2.1 hC.2.2.2.1 (hts _ hcl) (hts _ hinst) (hts _ hini) rfl hd (by omega) (by omega) hKn.2.1 rfl fun H1 kC hkC g1 z1 o1 => ?_
  have hR1 : Rep B (apush h (.inr (ci, fs)) fs.length) H1 := Rep_push hR z1 o1 ⟨_, hc, (u_born ty hts hin hKn hkC g1 hty).to hfs⟩
  have := k1.2 hC h1 h2 H1 locs ls (cells + 1) (slots + fs.length) hR1 hL hl (by show n0 + (cells + 1) = h.2.1 + 1; omega) (by show m0 + (slots + fs.length) = h.2.2 + fs.length; omega)
  rw [hR.1]
  exact this
theorem x_newa {atype : ArrayType} {ty : FieldType} {t : Nat} {n : Int32} {K : Nat → AH → Option (ρ × AH)} (hty : aTys[t]? = some ty) (hat : newarray.typeOf atype = ty) (hra : ∀ (U : State) (cA : ClassId), va_RA U cA ty = (U.vm.findClass ("[" ++ ty.toString) = some cA)) (harr : Cond.arrayClass ty ∈ Ts) (hby : componentBytes ty ≤ 8) (hd : decode cc pc = .ok (.newarray atype, 2))
    (k : ∀ (a : Nat) (h1 : AH), XX p l e R s m args below meth c cc own Ts nL ret nm B n0 m0 Q h1 (pc + 2) lv (.ref a :: st) (K a h1)) : XX p l e R s m args below meth c cc own Ts nL ret nm B n0 m0 Q h pc lv (.int n :: st) (nAk h t n (defaultValue ty) K) := by
  subst hat
  intro r' h' hc'
  unfold nAk at hc'
  by_cases hn : n < 0 ∨ 100000 < n.toNatClampNeg
  · rw [if_pos hn] at hc'
    cases hc'
  · rw [if_neg hn] at hc'
    have k1 := k h.2.1 _ r' h' hc'
    have m1 : h.2.1 + 1 ≤ h'.2.1 := k1.1.1
    have m2 : h.2.2 + n.toNatClampNeg ≤ h'.2.2 := k1.1.2
    have hn1 : ¬ n < 0 := fun q => hn (Or.inl q)
    have hn2 : n.toNatClampNeg ≤ 100000 := Nat.not_lt.mp fun q => hn (Or.inr q)
    refine ⟨⟨by omega, by omega⟩, fun hC h1 h2 H locs ls cells slots hR hL hl e1 e2 => ?_⟩
    refine va_newaK hC.1 hC.2.1 (hC.2.2.2.2.1 _ harr) rfl hd rfl hn1 rfl (Nat.le_trans (Nat.mul_le_mul hn2 hby) (by decide)) (by omega) (by omega) rfl fun H1 cA g1 z1 o1 hAr hNm => ?_
    have hcA : cA = B.2.1 t := by
      have := (hC.2.2.2.2.2.2.2.2.2.1 t _ hty).2
      rw [hra] at this
      exact Option.some.inj (hNm.symm.trans this)
    subst hcA
    have hR1 : Rep B (apush h (.inl (t, n.toNatClampNeg, fun _ => defaultValue (newarray.typeOf atype))) n.toNatClampNeg) H1 := Rep_push hR z1 o1 g1
    have := k1.2 hC h1 h2 H1 locs ls (cells + 1) (slots + n.toNatClampNeg) hR1 hL hl (by show n0 + (cells + 1) = h.2.1 + 1; omega) (by show m0 + (slots + n.toNatClampNeg) = h.2.2 + n.toNatClampNeg; omega)
    rw [hR.1]
    exact this
theorem x_anew {C : String} {index t : Nat} {n : Int32} {K : Nat → AH → Option (ρ × AH)} (hty : aTys[t]? = some (.object C)) (hcl : Cond.classLink own index C ∈ Ts) (hov : C ∈ nwO) (hd : decode cc pc = .ok (.anewarray index, 3))
    (k : ∀ (a : Nat) (h1 : AH), XX p l e R s m args below meth c cc own Ts nL ret nm B n0 m0 Q h1 (pc + 3) lv (.ref a :: st) (K a h1)) : XX p l e R s m args below meth c cc own Ts nL ret nm B n0 m0 Q h pc lv (.int n :: st) (nAk h t n .null K) := by
  intro r' h' hc'
  unfold nAk at hc'
  by_cases hn : n < 0 ∨ 100000 < n.toNatClampNeg
  · rw [if_pos hn] at hc'
    cases hc'
  · rw [if_neg hn] at hc'
    have k1 := k h.2.1 _ r' h' hc'
    have m1 : h.2.1 + 1 ≤ h'.2.1 := k1.1.1
    have m2 : h.2.2 + n.toNatClampNeg ≤ h'.2.2 := k1.1.2
    have hn1 : ¬ n < 0 := fun q => hn (Or.inl q)
    have hn2 : n.toNatClampNeg ≤ 100000 := Nat.not_lt.mp fun q => hn (Or.inr q)
    refine ⟨⟨by omega, by omega⟩, fun hC h1 h2 H locs ls cells slots hR hL hl e1 e2 => ?_⟩
    refine W.anew hC.1 hC.2.1 hC.2.2.2.1 (hC.2.2.2.2.1 _ hcl) (va_AO.use (hC.2.2.2.2.2.2.2.2.2.2.2.2 _ hov)) rfl hd rfl hn1 (by omega) (by omega) (by omega) fun cA kA cp g1 g2 g3 g4 => ?_
    have hcA : cA = B.2.1 t := by
      obtain ⟨_, _, _, _, _, h9⟩ := (hC.2.2.2.2.2.2.2.2.2.1 t _ hty).2
      exact Option.some.inj (g1.symm.trans h9)
    subst hcA
    rw [arrV_new]
    have hR1 : Rep B (apush h (.inl (t, n.toNatClampNeg, fun _ => Value.null)) n.toNatClampNeg) (H.push (arrV (B.2.1 t) n.toNatClampNeg fun _ => Value.null)) := Rep_push hR (by simp) (fun q hq => by rw [Array.getElem?_push, if_neg (Nat.ne_of_lt hq)]) (by show (H.push _)[H.size]? = _; simp)
    have := k1.2 hC h1 h2 _ locs ls (cells + 1) (slots + n.toNatClampNeg) hR1 hL hl (by show n0 + (cells + 1) = h.2.1 + 1; omega) (by show m0 + (slots + n.toNatClampNeg) = h.2.2 + n.toNatClampNeg; omega)
    rw [hR.1]
    exact this
/-- calls -/
theorem w_call {H : Heap} {locs : List Loc} {ls : Array Slot} {cells slots mc ms : Nat} {Qs : State → Prop} {v : Option Value} {h1 : AH} {rest : List Value} (hr : va_Run p l e R s m args below meth c H locs cells slots mc ms (F0 m pc ls st) rest (fun _ oc t => oc = .returned v ∧ RU B h1 t) (fun q => B.2.2.1 ≤ q)) (hL : ∀ q ∈ locs, B.2.2.1 ≤ q.base)
    (kk : ∀ (H1 : Heap) (locs1 : List Loc), Rep B h1 H1 → (∀ q ∈ locs1, B.2.2.1 ≤ q.base) → W p l e R s m args below meth c H1 locs1 (cells + mc) (slots + ms) Qs (F0 m (pc + 3) ls (v.toList ++ rest))) : W p l e R s m args below meth c H locs cells slots Qs (F0 m pc ls st) := by
  intro T hT X
  obtain ⟨v', st₀, t, T', L, h0, X', hLL, e1, e2, ⟨hv, hRU⟩, go⟩ := hr T hT X
  cases hv
  obtain ⟨t2, a1, b1⟩ := kk T'.heap (locs ++ L) (by rw [e1]; exact hRU.1) (fun q hq => by
    rcases List.mem_append.mp hq with h | h
    · exact hL q h
    · exact hLL q h) T' rfl X'
  exact ⟨t2, go t2 a1, b1⟩
theorem x_call {σ : Type} {enc : σ → Option Value} {callee : Option (σ × AH)} {K : σ → AH → Option (ρ × AH)} {y : MethodName} {ws : List Cond} {fr lo : Nat} {av rest : List Value} (hM : CT l B y ws fr lo enc av h callee)
    (run : XC p s m args meth c cc own Ts nL ret nm B → ∀ {rm : Room} {Qc : Array Value → State → Outcome → State → Prop} {mc ms : Nat}, rm.frames = fr → rm.locals = lo → rm.cells = mc → rm.slots = ms → Met l y ws rm (va_Pc av (RU B h)) Qc mc ms (fun q => B.2.2.1 ≤ q) → ∀ {H : Heap} {locs : List Loc} {ls : Array Slot} {cells slots : Nat}, Rep B h H → ls.size = nL → cells + mc ≤ R.cells → slots + ms ≤ R.slots → va_Run p l e R s m args below meth c H locs cells slots mc ms (F0 m pc ls st) rest (Qc av.toArray) (fun q => B.2.2.1 ≤ q))
    (k : ∀ (x : σ) (h1 : AH), XX p l e R s m args below meth c cc own Ts nL ret nm B n0 m0 Q h1 (pc + 3) lv ((enc x).toList ++ rest) (K x h1)) : XX p l e R s m args below meth c cc own Ts nL ret nm B n0 m0 Q h pc lv st (bnd callee K) := by
  intro r' h' hc'
  obtain ⟨⟨x, h1⟩, hv, hc'⟩ := Option.bind_eq_some_iff.mp hc'
  obtain ⟨hmono, hMet⟩ := hM x h1 hv
  have hmono := hmono (p, e, s, m, args, below, meth, c)
  have k1 := k x h1 r' h' hc'
  refine ⟨⟨Nat.le_trans hmono.1 k1.1.1, Nat.le_trans hmono.2 k1.1.2⟩, fun hC q1 q2 H locs ls cells slots hR hL hl e1 e2 => ?_⟩
  have m1 := k1.1.1
  have m2 := k1.1.2
  have m3 := hmono.1
  have m4 := hmono.2
  refine w_call (mc := h1.2.1 - h.2.1) (ms := h1.2.2 - h.2.2) (run hC (mc := h1.2.1 - h.2.1) (ms := h1.2.2 - h.2.2) rfl rfl rfl rfl hMet hR hl.1 (by omega) (by omega)) hL fun H1 locs1 hR1 hL1 => ?_
  exact k1.2 hC q1 q2 H1 locs1 ls _ _ hR1 hL1 hl (by omega) (by omega)
theorem x_callI {callee : Option (Int32 × AH)} {K : Int32 → AH → Option (ρ × AH)} {y : MethodName} {ws : List Cond} {fr lo : Nat} {av rest : List Value} (hM : CT l B y ws fr lo eI av h callee)
    (run : XC p s m args meth c cc own Ts nL ret nm B → ∀ {rm : Room} {Qc : Array Value → State → Outcome → State → Prop} {mc ms : Nat}, rm.frames = fr → rm.locals = lo → rm.cells = mc → rm.slots = ms → Met l y ws rm (va_Pc av (RU B h)) Qc mc ms (fun q => B.2.2.1 ≤ q) → ∀ {H : Heap} {locs : List Loc} {ls : Array Slot} {cells slots : Nat}, Rep B h H → ls.size = nL → cells + mc ≤ R.cells → slots + ms ≤ R.slots → va_Run p l e R s m args below meth c H locs cells slots mc ms (F0 m pc ls st) rest (Qc av.toArray) (fun q => B.2.2.1 ≤ q))
    (k : ∀ (x : Int32) (h1 : AH), XX p l e R s m args below meth c cc own Ts nL ret nm B n0 m0 Q h1 (pc + 3) lv (.int x :: rest) (K x h1)) : XX p l e R s m args below meth c cc own Ts nL ret nm B n0 m0 Q h pc lv st (bnd callee K) := x_call hM run k
theorem x_callL {callee : Option (Int64 × AH)} {K : Int64 → AH → Option (ρ × AH)} {y : MethodName} {ws : List Cond} {fr lo : Nat} {av rest : List Value} (hM : CT l B y ws fr lo eL av h callee)
    (run : XC p s m args meth c cc own Ts nL ret nm B → ∀ {rm : Room} {Qc : Array Value → State → Outcome → State → Prop} {mc ms : Nat}, rm.frames = fr → rm.locals = lo → rm.cells = mc → rm.slots = ms → Met l y ws rm (va_Pc av (RU B h)) Qc mc ms (fun q => B.2.2.1 ≤ q) → ∀ {H : Heap} {locs : List Loc} {ls : Array Slot} {cells slots : Nat}, Rep B h H → ls.size = nL → cells + mc ≤ R.cells → slots + ms ≤ R.slots → va_Run p l e R s m args below meth c H locs cells slots mc ms (F0 m pc ls st) rest (Qc av.toArray) (fun q => B.2.2.1 ≤ q))
    (k : ∀ (x : Int64) (h1 : AH), XX p l e R s m args below meth c cc own Ts nL ret nm B n0 m0 Q h1 (pc + 3) lv (.long x :: rest) (K x h1)) : XX p l e R s m args below meth c cc own Ts nL ret nm B n0 m0 Q h pc lv st (bnd callee K) := x_call hM run k
theorem x_callR {callee : Option (Option Nat × AH)} {K : Option Nat → AH → Option (ρ × AH)} {y : MethodName} {ws : List Cond} {fr lo : Nat} {av rest : List Value} (hM : CT l B y ws fr lo eR av h callee)
    (run : XC p s m args meth c cc own Ts nL ret nm B → ∀ {rm : Room} {Qc : Array Value → State → Outcome → State → Prop} {mc ms : Nat}, rm.frames = fr → rm.locals = lo → rm.cells = mc → rm.slots = ms → Met l y ws rm (va_Pc av (RU B h)) Qc mc ms (fun q => B.2.2.1 ≤ q) → ∀ {H : Heap} {locs : List Loc} {ls : Array Slot} {cells slots : Nat}, Rep B h H → ls.size = nL → cells + mc ≤ R.cells → slots + ms ≤ R.slots → va_Run p l e R s m args below meth c H locs cells slots mc ms (F0 m pc ls st) rest (Qc av.toArray) (fun q => B.2.2.1 ≤ q))
    (k : ∀ (x : Option Nat) (h1 : AH), XX p l e R s m args below meth c cc own Ts nL ret nm B n0 m0 Q h1 (pc + 3) lv (va_rf x :: rest) (K x h1)) : XX p l e R s m args below meth c cc own Ts nL ret nm B n0 m0 Q h pc lv st (bnd callee K) := x_call hM run k
theorem x_callU {callee : Option (Unit × AH)} {K : AH → Option (ρ × AH)} {y : MethodName} {ws : List Cond} {fr lo : Nat} {av rest : List Value} (hM : CT l B y ws fr lo eU av h callee)
    (run : XC p s m args meth c cc own Ts nL ret nm B → ∀ {rm : Room} {Qc : Array Value → State → Outcome → State → Prop} {mc ms : Nat}, rm.frames = fr → rm.locals = lo → rm.cells = mc → rm.slots = ms → Met l y ws rm (va_Pc av (RU B h)) Qc mc ms (fun q => B.2.2.1 ≤ q) → ∀ {H : Heap} {locs : List Loc} {ls : Array Slot} {cells slots : Nat}, Rep B h H → ls.size = nL → cells + mc ≤ R.cells → slots + ms ≤ R.slots → va_Run p l e R s m args below meth c H locs cells slots mc ms (F0 m pc ls st) rest (Qc av.toArray) (fun q => B.2.2.1 ≤ q))
    (k : ∀ (h1 : AH), XX p l e R s m args below meth c cc own Ts nL ret nm B n0 m0 Q h1 (pc + 3) lv rest (K h1)) : XX p l e R s m args below meth c cc own Ts nL ret nm B n0 m0 Q h pc lv st (bndU callee K) := x_call hM run (fun _ h1 => k h1)
/-- a receiver is asked for its class -/
theorem x_recv {ci : Nat} {r : Option Nat} {K : Nat → Option (ρ × AH)} (k : ∀ (a : Nat) (fs : List Value), r = some a → h.1 a = some (.inr (ci, fs)) → XX p l e R s m args below meth c cc own Ts nL ret nm B n0 m0 Q h pc lv st (K a)) : XX p l e R s m args below meth c cc own Ts nL ret nm B n0 m0 Q h pc lv st (rcv h ci r K) := by
  intro r' h' hc'
  obtain ⟨⟨a, fs⟩, ho, hc'⟩ := Option.bind_eq_some_iff.mp hc'
  obtain ⟨e1, e2⟩ := gO_eq ho
  exact k a fs e1 e2 r' h' hc'
abbrev YD (y : MethodName) (n : Nat) : Prop := y.cls ≠ "java/lang/invoke/MethodHandle" ∧ y.cls ≠ "java/lang/invoke/VarHandle" ∧ (parseMethodDescriptor y.desc).map (fun d => d.parameters.length) = some n
theorem yd_len {y : MethodName} {n : Nat} (hd : YD y n) : ∀ sig, parseMethodDescriptor y.desc = some sig → n = sig.parameters.length := fun sig h => by
  have h2 := hd.2.2
  rw [h] at h2
  exact (Option.some.inj h2).symm
theorem run_V {y : MethodName} {bytes : ByteArray} {maxL : Nat} {rt : Option FieldType} {rm : Room} {Qc : Array Value → State → Outcome → State → Prop} {mc ms n index ci : Nat} {q : vw_C} {H : Heap} {locs : List Loc} {ls : Array Slot} {cells slots b : Nat} {fs As rest : List Value}
    (hC : XC p s m args meth c cc own Ts nL ret nm B) (hG : ∀ w ∈ Ts, (w.onTables && w.keeps) = true ∨ ∃ ty, w = .arrayClass ty) (hq : vwCl[ci]? = some q) (hyc : y.cls = q.1) (hl : Cond.methodLink own index y ∈ Ts) (hi : Cond.instanceMethod y ∈ Ts) (hs : Cond.selects q.1 y y ∈ Ts) (hini : Cond.initialized y.cls ∈ Ts) (hc : Cond.code y bytes maxL rt ∈ Ts) (hd : YD y n) (hdg : decode cc pc = .ok (.invokevirtual index, 3))
    (hb : h.1 b = some (.inr (ci, fs))) (hfr : rm.frames + 1 ≤ R.frames) (hlo : 8 + (maxL + 11) + rm.locals ≤ R.locals) (hrc : rm.cells = mc) (hrs : rm.slots = ms) (hM : Met l y (Cond.code y bytes maxL rt :: Ts) rm (va_Pc (.ref b :: As) (RU B h)) Qc mc ms (fun q => B.2.2.1 ≤ q)) (hR : Rep B h H) (hsz : ls.size = nL) (hcells : cells + mc ≤ R.cells) (hslots : slots + ms ≤ R.slots) (hn : As.length = n) (hst : st = As.reverse ++ .ref b :: rest) (hroom : (rest.map fun v => v.category).sum ≤ 8) :
    va_Run p l e R s m args below meth c H locs cells slots mc ms (F0 m pc ls st) rest (Qc (.ref b :: As).toArray) (fun q => B.2.2.1 ≤ q) := by
  have hts := hC.2.2.2.2.1
  obtain ⟨q', h1, cell, g1, g2, g3, -⟩ := (hR.2.2.2 b _ hb).2
  have hgood : ∀ w ∈ (Cond.code y bytes maxL rt :: Ts), w ∈ Ts ∧ ((w.onTables && w.keeps) = true ∨ ∃ ty, w = .arrayClass ty) := fun w hw => by
    rcases List.mem_cons.mp hw with rfl | hw
    · exact ⟨hc, hG _ hc⟩
    · exact ⟨hw, hG _ hw⟩
  exact va_runV (C := q.1) (bytes := bytes) (maxL := maxL) (ret := rt) ⟨hC.1, hC.2.1, hC.2.2.1, hC.2.2.2.1, hts⟩ hM ⟨⟨hrc, hrs, hfr, hlo, pay_in hts hgood, List.mem_cons_self, hts _ hc, hts _ hini, ⟨hd.1, hd.2.1⟩, yd_len hd, hts _ hl⟩, hts _ hi, hts _ hs⟩
    ⟨RU_blind, ⟨cell, g1, by rw [g3]; rfl, by rw [g2]; exact (hC.2.2.2.2.2.2.2.2.1.1 ci q hq).2.1⟩, fun U hU hW => ⟨rfl, by rw [hU]; exact hR, KX_warm hW hC.2.2.2.2.2.2.2.2⟩⟩ rfl hn hsz hst (lv_room hroom) hdg ⟨hcells, hslots⟩
theorem run_S {y : MethodName} {bytes : ByteArray} {maxL : Nat} {rt : Option FieldType} {rm : Room} {Qc : Array Value → State → Outcome → State → Prop} {mc ms n index : Nat} {H : Heap} {locs : List Loc} {ls : Array Slot} {cells slots : Nat} {As rest : List Value}
    (hC : XC p s m args meth c cc own Ts nL ret nm B) (hG : ∀ w ∈ Ts, (w.onTables && w.keeps) = true ∨ ∃ ty, w = .arrayClass ty) (hl : Cond.methodLink own index y ∈ Ts) (hi : Cond.static y ∈ Ts) (hini : Cond.initialized y.cls ∈ Ts) (hc : Cond.code y bytes maxL rt ∈ Ts) (hd : YD y n) (hdg : decode cc pc = .ok (.invokestatic index, 3))
    (hfr : rm.frames + 1 ≤ R.frames) (hlo : 8 + (maxL + 11) + rm.locals ≤ R.locals) (hrc : rm.cells = mc) (hrs : rm.slots = ms) (hM : Met l y (Cond.code y bytes maxL rt :: Ts) rm (va_Pc As (RU B h)) Qc mc ms (fun q => B.2.2.1 ≤ q)) (hR : Rep B h H) (hsz : ls.size = nL) (hcells : cells + mc ≤ R.cells) (hslots : slots + ms ≤ R.slots) (hn : As.length = n) (hst : st = As.reverse ++ rest) (hroom : (rest.map fun v => v.category).sum ≤ 8) :
    va_Run p l e R s m args below meth c H locs cells slots mc ms (F0 m pc ls st) rest (Qc As.toArray) (fun q => B.2.2.1 ≤ q) := by
  have hts := hC.2.2.2.2.1
  have hgood : ∀ w ∈ (Cond.code y bytes maxL rt :: Ts), w ∈ Ts ∧ ((w.onTables && w.keeps) = true ∨ ∃ ty, w = .arrayClass ty) := fun w hw => by
    rcases List.mem_cons.mp hw with rfl | hw
    · exact ⟨hc, hG _ hc⟩
    · exact ⟨hw, hG _ hw⟩
  exact va_runS (bytes := bytes) (maxL := maxL) (ret := rt) ⟨hC.1, hC.2.1, hC.2.2.1, hC.2.2.2.1, hts⟩ hM ⟨⟨hrc, hrs, hfr, hlo, pay_in hts hgood, List.mem_cons_self, hts _ hc, hts _ hini, ⟨hd.1, hd.2.1⟩, yd_len hd, hts _ hl⟩, hts _ hi⟩
    ⟨RU_blind, fun U hU hW => ⟨rfl, by rw [hU]; exact hR, KX_warm hW hC.2.2.2.2.2.2.2.2⟩⟩ rfl hn hsz hst (lv_room hroom) hdg ⟨hcells, hslots⟩
theorem run_SN {y : MethodName} {bytes : ByteArray} {maxL : Nat} {rt : Option FieldType} {rm : Room} {Qc : Array Value → State → Outcome → State → Prop} {mc ms n index : Nat} {host : String} {H : Heap} {locs : List Loc} {ls : Array Slot} {cells slots : Nat} {As rest : List Value}
    (hC : XC p s m args meth c cc own Ts nL ret nm B) (hG : ∀ w ∈ Ts, (w.onTables && w.keeps) = true ∨ ∃ ty, w = .arrayClass ty) (hl : (own, index, y, host) ∈ nwM) (hi : Cond.static y ∈ Ts) (hini : Cond.initialized y.cls ∈ Ts) (hc : Cond.code y bytes maxL rt ∈ Ts) (hd : YD y n) (hdg : decode cc pc = .ok (.invokestatic index, 3))
    (hfr : rm.frames + 1 ≤ R.frames) (hlo : 8 + (maxL + 11) + rm.locals ≤ R.locals) (hrc : rm.cells = mc) (hrs : rm.slots = ms) (hM : Met l y (Cond.code y bytes maxL rt :: Ts) rm (va_Pc As (RU B h)) Qc mc ms (fun q => B.2.2.1 ≤ q)) (hR : Rep B h H) (hsz : ls.size = nL) (hcells : cells + mc ≤ R.cells) (hslots : slots + ms ≤ R.slots) (hn : As.length = n) (hst : st = As.reverse ++ rest) (hroom : (rest.map fun v => v.category).sum ≤ 8) :
    va_Run p l e R s m args below meth c H locs cells slots mc ms (F0 m pc ls st) rest (Qc As.toArray) (fun q => B.2.2.1 ≤ q) := by
  have hts := hC.2.2.2.2.1
  have hgood : ∀ w ∈ (Cond.code y bytes maxL rt :: Ts), w ∈ Ts ∧ ((w.onTables && w.keeps) = true ∨ ∃ ty, w = .arrayClass ty) := fun w hw => by
    rcases List.mem_cons.mp hw with rfl | hw
    · exact ⟨hc, hG _ hc⟩
    · exact ⟨hw, hG _ hw⟩
  exact va_runSN (host := host) (bytes := bytes) (maxL := maxL) (ret := rt) ⟨hC.1, hC.2.1, hC.2.2.1, hC.2.2.2.1, hts⟩ hM ⟨⟨⟨hrc, hrs, hfr, hlo, pay_in hts hgood, List.mem_cons_self⟩, hts _ hc, hts _ hini, ⟨hd.1, hd.2.1⟩, yd_len hd, va_Nw.use rfl (hC.2.2.2.2.2.2.2.2.2.2.2.1 _ hl)⟩, hts _ hi, trivial⟩
    ⟨RU_blind, fun U hU hW => ⟨rfl, by rw [hU]; exact hR, KX_warm hW hC.2.2.2.2.2.2.2.2⟩⟩ rfl hn hsz hst (lv_room hroom) hdg ⟨hcells, hslots⟩
theorem run_I {y : MethodName} {bytes : ByteArray} {maxL : Nat} {rm : Room} {Qc : Array Value → State → Outcome → State → Prop} {mc ms n index : Nat} {H : Heap} {locs : List Loc} {ls : Array Slot} {cells slots b : Nat} {As rest : List Value}
    (hC : XC p s m args meth c cc own Ts nL ret nm B) (hG : ∀ w ∈ Ts, (w.onTables && w.keeps) = true ∨ ∃ ty, w = .arrayClass ty) (hl : Cond.methodLink own index y ∈ Ts) (hi : Cond.instanceMethod y ∈ Ts) (hini : Cond.initialized y.cls ∈ Ts) (hc : Cond.code y bytes maxL none ∈ Ts) (hy1 : y.name = "<init>") (hd : YD y n) (hdg : decode cc pc = .ok (.invokespecial index, 3))
    (hfr : rm.frames + 1 ≤ R.frames) (hlo : 8 + (maxL + 11) + rm.locals ≤ R.locals) (hrc : rm.cells = mc) (hrs : rm.slots = ms) (hM : Met l y (Cond.code y bytes maxL none :: Ts) rm (va_Pc (.ref b :: As) (RU B h)) Qc mc ms (fun q => B.2.2.1 ≤ q)) (hR : Rep B h H) (hsz : ls.size = nL) (hcells : cells + mc ≤ R.cells) (hslots : slots + ms ≤ R.slots) (hn : As.length = n) (hst : st = As.reverse ++ .ref b :: rest) (hroom : (rest.map fun v => v.category).sum ≤ 8) :
    va_Run p l e R s m args below meth c H locs cells slots mc ms (F0 m pc ls st) rest (Qc (.ref b :: As).toArray) (fun q => B.2.2.1 ≤ q) := by
  have hts := hC.2.2.2.2.1
  have hgood : ∀ w ∈ (Cond.code y bytes maxL none :: Ts), w ∈ Ts ∧ ((w.onTables && w.keeps) = true ∨ ∃ ty, w = .arrayClass ty) := fun w hw => by
    rcases List.mem_cons.mp hw with rfl | hw
    · exact ⟨hc, hG _ hc⟩
    · exact ⟨hw, hG _ hw⟩
  exact va_runI (bytes := bytes) (maxL := maxL) ⟨hC.1, hC.2.1, hC.2.2.1, hC.2.2.2.1, hts⟩ hM ⟨⟨hrc, hrs, hfr, hlo, pay_in hts hgood, List.mem_cons_self, hts _ hc, hts _ hini, ⟨hd.1, hd.2.1⟩, yd_len hd, hts _ hl⟩, hy1, hts _ hi⟩
    ⟨RU_blind, fun U hU hW => ⟨rfl, by rw [hU]; exact hR, KX_warm hW hC.2.2.2.2.2.2.2.2⟩⟩ rfl hn hsz hst (lv_room hroom) hdg ⟨hcells, hslots⟩
theorem run_VN {y : MethodName} {bytes : ByteArray} {maxL : Nat} {rt : Option FieldType} {rm : Room} {Qc : Array Value → State → Outcome → State → Prop} {mc ms n index ci : Nat} {host : String} {q : vw_C} {H : Heap} {locs : List Loc} {ls : Array Slot} {cells slots b : Nat} {fs As rest : List Value}
    (hC : XC p s m args meth c cc own Ts nL ret nm B) (hG : ∀ w ∈ Ts, (w.onTables && w.keeps) = true ∨ ∃ ty, w = .arrayClass ty) (hq : vwCl[ci]? = some q) (hyc : y.cls = q.1) (hl : (own, index, y, host) ∈ nwM) (hi : Cond.instanceMethod y ∈ Ts) (hs : Cond.selects q.1 y y ∈ Ts) (hini : Cond.initialized y.cls ∈ Ts) (hc : Cond.code y bytes maxL rt ∈ Ts) (hd : YD y n) (hdg : decode cc pc = .ok (.invokevirtual index, 3))
    (hb : h.1 b = some (.inr (ci, fs))) (hfr : rm.frames + 1 ≤ R.frames) (hlo : 8 + (maxL + 11) + rm.locals ≤ R.locals) (hrc : rm.cells = mc) (hrs : rm.slots = ms) (hM : Met l y (Cond.code y bytes maxL rt :: Ts) rm (va_Pc (.ref b :: As) (RU B h)) Qc mc ms (fun q => B.2.2.1 ≤ q)) (hR : Rep B h H) (hsz : ls.size = nL) (hcells : cells + mc ≤ R.cells) (hslots : slots + ms ≤ R.slots) (hn : As.length = n) (hst : st = As.reverse ++ .ref b :: rest) (hroom : (rest.map fun v => v.category).sum ≤ 8) :
    va_Run p l e R s m args below meth c H locs cells slots mc ms (F0 m pc ls st) rest (Qc (.ref b :: As).toArray) (fun q => B.2.2.1 ≤ q) := by
  have hts := hC.2.2.2.2.1
  obtain ⟨q', h1, cell, g1, g2, g3, -⟩ := (hR.2.2.2 b _ hb).2
  have hgood : ∀ w ∈ (Cond.code y bytes maxL rt :: Ts), w ∈ Ts ∧ ((w.onTables && w.keeps) = true ∨ ∃ ty, w = .arrayClass ty) := fun w hw => by
    rcases List.mem_cons.mp hw with rfl | hw
    · exact ⟨hc, hG _ hc⟩
    · exact ⟨hw, hG _ hw⟩
  exact va_runVN (host := host) (C := q.1) (bytes := bytes) (maxL := maxL) (ret := rt) ⟨hC.1, hC.2.1, hC.2.2.1, hC.2.2.2.1, hts⟩ hM ⟨⟨⟨hrc, hrs, hfr, hlo, pay_in hts hgood, List.mem_cons_self⟩, hts _ hc, hts _ hini, ⟨hd.1, hd.2.1⟩, yd_len hd, va_Nw.use rfl (hC.2.2.2.2.2.2.2.2.2.2.2.1 _ hl)⟩, hts _ hi, hts _ hs⟩
    ⟨RU_blind, ⟨cell, g1, by rw [g3]; rfl, by rw [g2]; exact (hC.2.2.2.2.2.2.2.2.1.1 ci q hq).2.1⟩, fun U hU hW => ⟨rfl, by rw [hU]; exact hR, KX_warm hW hC.2.2.2.2.2.2.2.2⟩⟩ rfl hn hsz hst (lv_room hroom) hdg ⟨hcells, hslots⟩
theorem run_IN {y : MethodName} {bytes : ByteArray} {maxL : Nat} {rm : Room} {Qc : Array Value → State → Outcome → State → Prop} {mc ms n index : Nat} {host : String} {H : Heap} {locs : List Loc} {ls : Array Slot} {cells slots b : Nat} {As rest : List Value}
    (hC : XC p s m args meth c cc own Ts nL ret nm B) (hG : ∀ w ∈ Ts, (w.onTables && w.keeps) = true ∨ ∃ ty, w = .arrayClass ty) (hl : (own, index, y, host) ∈ nwM) (hi : Cond.instanceMethod y ∈ Ts) (hini : Cond.initialized y.cls ∈ Ts) (hc : Cond.code y bytes maxL none ∈ Ts) (hy1 : y.name = "<init>") (hd : YD y n) (hdg : decode cc pc = .ok (.invokespecial index, 3))
    (hfr : rm.frames + 1 ≤ R.frames) (hlo : 8 + (maxL + 11) + rm.locals ≤ R.locals) (hrc : rm.cells = mc) (hrs : rm.slots = ms) (hM : Met l y (Cond.code y bytes maxL none :: Ts) rm (va_Pc (.ref b :: As) (RU B h)) Qc mc ms (fun q => B.2.2.1 ≤ q)) (hR : Rep B h H) (hsz : ls.size = nL) (hcells : cells + mc ≤ R.cells) (hslots : slots + ms ≤ R.slots) (hn : As.length = n) (hst : st = As.reverse ++ .ref b :: rest) (hroom : (rest.map fun v => v.category).sum ≤ 8) :
    va_Run p l e R s m args below meth c H locs cells slots mc ms (F0 m pc ls st) rest (Qc (.ref b :: As).toArray) (fun q => B.2.2.1 ≤ q) := by
  have hts := hC.2.2.2.2.1
  have hgood : ∀ w ∈ (Cond.code y bytes maxL none :: Ts), w ∈ Ts ∧ ((w.onTables && w.keeps) = true ∨ ∃ ty, w = .arrayClass ty) := fun w hw => by
    rcases List.mem_cons.mp hw with rfl | hw
    · exact ⟨hc, hG _ hc⟩
    · exact ⟨hw, hG _ hw⟩
  exact va_runIN (host := host) (bytes := bytes) (maxL := maxL) ⟨hC.1, hC.2.1, hC.2.2.1, hC.2.2.2.1, hts⟩ hM ⟨⟨⟨hrc, hrs, hfr, hlo, pay_in hts hgood, List.mem_cons_self⟩, hts _ hc, hts _ hini, ⟨hd.1, hd.2.1⟩, yd_len hd, va_Nw.use rfl (hC.2.2.2.2.2.2.2.2.2.2.2.1 _ hl)⟩, hy1, hts _ hi⟩
    ⟨RU_blind, fun U hU hW => ⟨rfl, by rw [hU]; exact hR, KX_warm hW hC.2.2.2.2.2.2.2.2⟩⟩ rfl hn hsz hst (lv_room hroom) hdg ⟨hcells, hslots⟩
end XA
