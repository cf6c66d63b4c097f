section XR
variable {ρ : Type} {p : Program} {l : Launch} {e : Env} {R : Room} {s : State} {m : MethodId} {args : Array Value} {below : List Frame} {meth : Method} {c : Code} {cc : ByteArray} {own : String} {Ts : List Cond} {nL : Nat} {ret : Option FieldType} {nm : String} {B : AB} {n0 m0 : Nat} {Q : ρ → AH → State → Prop} {h : AH} {pc pc' : Nat} {lv lv' : List (Nat × Value)} {st st' : List Value} {comp : Option (ρ × AH)}
theorem x_none : XX p l e R s m args below meth c cc own Ts nL ret nm B n0 m0 Q h pc lv st none := fun _ _ hc => by cases hc
/-- an instruction that leaves the heap -/
theorem x_lift (f : XC p s m args meth c cc own Ts nL ret nm B → ∀ (H : Heap) (locs : List Loc) (ls : Array Slot) (cells slots : Nat) (Qs : State → Prop), lv_has ls nL lv → (∀ ls' : Array Slot, lv_has ls' nL lv' → W p l e R s m args below meth c H locs cells slots Qs (F0 m pc' ls' st')) → W p l e R s m args below meth c H locs cells slots Qs (F0 m pc ls st))
    (k : XX p l e R s m args below meth c cc own Ts nL ret nm B n0 m0 Q h pc' lv' st' comp) : XX p l e R s m args below meth c cc own Ts nL ret nm B n0 m0 Q h pc lv st comp := fun r h' hc =>
  ⟨(k r h' hc).1, fun hC h1 h2 H locs ls cells slots hR hL hl e1 e2 => f hC H locs ls cells slots _ hl fun ls' hl' => (k r h' hc).2 hC h1 h2 H locs ls' cells slots hR hL hl' e1 e2⟩
/-- the same with the locals as they are -/
theorem x_go (f : XC p s m args meth c cc own Ts nL ret nm B → ∀ (H : Heap) (locs : List Loc) (ls : Array Slot) (cells slots : Nat) (Qs : State → Prop), lv_has ls nL lv → W p l e R s m args below meth c H locs cells slots Qs (F0 m pc' ls st') → W p l e R s m args below meth c H locs cells slots Qs (F0 m pc ls st))
    (k : XX p l e R s m args below meth c cc own Ts nL ret nm B n0 m0 Q h pc' lv st' comp) : XX p l e R s m args below meth c cc own Ts nL ret nm B n0 m0 Q h pc lv st comp := fun r h' hc =>
  ⟨(k r h' hc).1, fun hC h1 h2 H locs ls cells slots hR hL hl e1 e2 => f hC H locs ls cells slots _ hl ((k r h' hc).2 hC h1 h2 H locs ls cells slots hR hL hl e1 e2)⟩
/-- fewer locals, another order -/
theorem x_sub (ks : List Nat) (hs : lv_pick lv ks = lv') (k : XX p l e R s m args below meth c cc own Ts nL ret nm B n0 m0 Q h pc lv' st comp) : XX p l e R s m args below meth c cc own Ts nL ret nm B n0 m0 Q h pc lv st comp := fun r h' hc =>
  ⟨(k r h' hc).1, fun hC h1 h2 H locs ls cells slots hR hL hl e1 e2 => (k r h' hc).2 hC h1 h2 H locs ls cells slots hR hL (lv_sub hl ks hs) e1 e2⟩
/-- a branch -/
theorem x_if {P : Prop} [Decidable P] {pt pf : Nat} {ct cf : Option (ρ × AH)} (f : XC p s m args meth c cc own Ts nL ret nm B → ∀ (H : Heap) (locs : List Loc) (ls : Array Slot) (cells slots : Nat) (Qs : State → Prop), (P → W p l e R s m args below meth c H locs cells slots Qs (F0 m pt ls st')) → (¬ P → W p l e R s m args below meth c H locs cells slots Qs (F0 m pf ls st')) → W p l e R s m args below meth c H locs cells slots Qs (F0 m pc ls st))
    (kt : XX p l e R s m args below meth c cc own Ts nL ret nm B n0 m0 Q h pt lv st' ct) (kf : XX p l e R s m args below meth c cc own Ts nL ret nm B n0 m0 Q h pf lv st' cf) : XX p l e R s m args below meth c cc own Ts nL ret nm B n0 m0 Q h pc lv st (if P then ct else cf) := by
  intro r h' hc
  by_cases hP : P
  · rw [if_pos hP] at hc
    exact ⟨(kt r h' hc).1, fun hC h1 h2 H locs ls cells slots hR hL hl e1 e2 => f hC H locs ls cells slots _ (fun _ => (kt r h' hc).2 hC h1 h2 H locs ls cells slots hR hL hl e1 e2) (fun q => absurd hP q)⟩
  · rw [if_neg hP] at hc
    exact ⟨(kf r h' hc).1, fun hC h1 h2 H locs ls cells slots hR hL hl e1 e2 => f hC H locs ls cells slots _ (fun q => absurd q hP) (fun _ => (kf r h' hc).2 hC h1 h2 H locs ls cells slots hR hL hl e1 e2)⟩
/-- a check that the code does not make but the pure text does -/
theorem x_chk {P : Prop} [Decidable P] (k : P → XX p l e R s m args below meth c cc own Ts nL ret nm B n0 m0 Q h pc lv st comp) : XX p l e R s m args below meth c cc own Ts nL ret nm B n0 m0 Q h pc lv st (if P then comp else none) := by
  intro r h' hc
  by_cases hP : P
  · rw [if_pos hP] at hc
    exact k hP r h' hc
  · rw [if_neg hP] at hc
    cases hc
/-- a case that the code makes later -/
theorem x_split {P : Prop} [Decidable P] {ct cf : Option (ρ × AH)} (kt : P → XX p l e R s m args below meth c cc own Ts nL ret nm B n0 m0 Q h pc lv st ct) (kf : ¬ P → XX p l e R s m args below meth c cc own Ts nL ret nm B n0 m0 Q h pc lv st cf) : XX p l e R s m args below meth c cc own Ts nL ret nm B n0 m0 Q h pc lv st (if P then ct else cf) := by
  intro r h' hc
  by_cases hP : P
  · rw [if_pos hP] at hc
    exact kt hP r h' hc
  · rw [if_neg hP] at hc
    exact kf hP r h' hc
theorem rf_cat (r : Option Nat) : (va_rf r).category = 1 := by cases r <;> rfl
theorem cat_i (x : Int32) : (Value.int x).category = 1 := rfl
theorem cat_l (x : Int64) : (Value.long x).category = 2 := rfl
theorem cat_r (x : Nat) : (Value.ref x).category = 1 := rfl
theorem rf_nar (C : String) (r : Option Nat) : narrow (.object C) (va_rf r) = va_rf r := by cases r <;> rfl
theorem rf_fit (C : String) (r : Option Nat) : fits (.object C) (va_rf r) = true := by cases r <;> rfl
theorem rf_narA (t : FieldType) (r : Option Nat) : narrow (.array t) (va_rf r) = va_rf r := by cases r <;> rfl
theorem rf_fitA (t : FieldType) (r : Option Nat) : fits (.array t) (va_rf r) = true := by cases r <;> rfl
theorem lv_ifnull_q {H : Heap} {locs : List Loc} {ls : Array Slot} {cells slots : Nat} {Qs : State → Prop} (hx : p.tables.exec = Jvm.exec) (hb : c.code = cc) {r : Option Nat} {off : Int} {tgt : Nat} (hdg : decode cc pc = .ok (.ifnull off, 3)) (ht : (pc : Int) + off = (tgt : Int))
    (kt : r = none → W p l e R s m args below meth c H locs cells slots Qs (F0 m tgt ls st)) (kf : ¬ r = none → W p l e R s m args below meth c H locs cells slots Qs (F0 m (pc + 3) ls st)) : W p l e R s m args below meth c H locs cells slots Qs (F0 m pc ls (va_rf r :: st)) := by
  cases r with
  | none => exact lv_ifnullN hx hb hdg ht (kt rfl)
  | some a => exact lv_ifnull (x := a) hx hb hdg (kf (by simp))
theorem lv_ifnonnull_q {H : Heap} {locs : List Loc} {ls : Array Slot} {cells slots : Nat} {Qs : State → Prop} (hx : p.tables.exec = Jvm.exec) (hb : c.code = cc) {r : Option Nat} {off : Int} {tgt : Nat} (hdg : decode cc pc = .ok (.ifnonnull off, 3)) (ht : (pc : Int) + off = (tgt : Int))
    (kf : r = none → W p l e R s m args below meth c H locs cells slots Qs (F0 m (pc + 3) ls st)) (kt : ¬ r = none → W p l e R s m args below meth c H locs cells slots Qs (F0 m tgt ls st)) : W p l e R s m args below meth c H locs cells slots Qs (F0 m pc ls (va_rf r :: st)) := by
  cases r with
  | none => exact lv_ifnonnullN hx hb hdg (kf rfl)
  | some a => exact lv_ifnonnull (x := a) hx hb hdg ht (kt (by simp))
theorem lv_aload_nq {H : Heap} {locs : List Loc} {ls : Array Slot} {cells slots : Nat} {Qs : State → Prop} (hx : p.tables.exec = Jvm.exec) (hb : c.code = cc) {k : Fin 4} {i : Nat} {r : Option Nat} (hdg : decode cc pc = .ok (.aload_n k, 1)) (hi : (k : Nat) = i) (hl : ls[i]? = some (.val (va_rf r))) (kk : W p l e R s m args below meth c H locs cells slots Qs (F0 m (pc + 1) ls (va_rf r :: st))) : W p l e R s m args below meth c H locs cells slots Qs (F0 m pc ls st) := by
  cases r with
  | none => exact lv_aload_nN hx hb hdg hi hl kk
  | some a => exact lv_aload_n (x := a) hx hb hdg hi hl kk
theorem lv_aload_q {H : Heap} {locs : List Loc} {ls : Array Slot} {cells slots : Nat} {Qs : State → Prop} (hx : p.tables.exec = Jvm.exec) (hb : c.code = cc) {i : Nat} {r : Option Nat} (hdg : decode cc pc = .ok (.aload i, 2)) (hl : ls[i]? = some (.val (va_rf r))) (kk : W p l e R s m args below meth c H locs cells slots Qs (F0 m (pc + 2) ls (va_rf r :: st))) : W p l e R s m args below meth c H locs cells slots Qs (F0 m pc ls st) := by
  cases r with
  | none => exact lv_aloadN hx hb hdg hl kk
  | some a => exact lv_aload (x := a) hx hb hdg hl kk
theorem lv_astore_nq {H : Heap} {locs : List Loc} {ls : Array Slot} {cells slots : Nat} {Qs : State → Prop} (hx : p.tables.exec = Jvm.exec) (hb : c.code = cc) {k : Fin 4} {i : Nat} {r : Option Nat} (hdg : decode cc pc = .ok (.astore_n k, 1)) (hi : (k : Nat) = i) (hl : lv_has ls nL lv) (hn : i < nL) (hv : (i, va_rf r) :: lv.filter (fun q => !(q.1 == i) && !(q.1 + 1 == i && q.2.category == 2)) = lv') (kk : ∀ ls' : Array Slot, lv_has ls' nL lv' → W p l e R s m args below meth c H locs cells slots Qs (F0 m (pc + 1) ls' st)) : W p l e R s m args below meth c H locs cells slots Qs (F0 m pc ls (va_rf r :: st)) := by
  cases r with
  | none => exact lv_astore_nN hx hb hdg hi hl hn hv kk
  | some a => exact lv_astore_n (x := a) hx hb hdg hi hl hn hv kk
theorem lv_astore_q {H : Heap} {locs : List Loc} {ls : Array Slot} {cells slots : Nat} {Qs : State → Prop} (hx : p.tables.exec = Jvm.exec) (hb : c.code = cc) {i : Nat} {r : Option Nat} (hdg : decode cc pc = .ok (.astore i, 2)) (hl : lv_has ls nL lv) (hn : i < nL) (hv : (i, va_rf r) :: lv.filter (fun q => !(q.1 == i) && !(q.1 + 1 == i && q.2.category == 2)) = lv') (kk : ∀ ls' : Array Slot, lv_has ls' nL lv' → W p l e R s m args below meth c H locs cells slots Qs (F0 m (pc + 2) ls' st)) : W p l e R s m args below meth c H locs cells slots Qs (F0 m pc ls (va_rf r :: st)) := by
  cases r with
  | none => exact lv_astoreN hx hb hdg hl hn hv kk
  | some a => exact lv_astore (x := a) hx hb hdg hl hn hv kk
/-! returns -/
theorem x_ret {r : ρ} (f : XC p s m args meth c cc own Ts nL ret nm B → ∀ (H : Heap) (locs : List Loc) (ls : Array Slot), Rep B h H → (∀ q ∈ locs, B.2.2.1 ≤ q.base) → W p l e R s m args below meth c H locs R.cells R.slots (Q r h) (F0 m pc ls st)) : XX p l e R s m args below meth c cc own Ts nL ret nm B n0 m0 Q h pc lv st (some (r, h)) := by
  intro r' h' hc
  cases hc
  exact ⟨⟨Nat.le_refl _, Nat.le_refl _⟩, fun hC h1 h2 H locs ls cells slots hR hL hl e1 e2 => W.widen (by omega) (by omega) (f hC H locs ls hR hL)⟩
theorem x_iret {x : Int32} (hd : decode cc pc = .ok (.ireturn, 1)) : XX p l e R s m args below meth c cc own Ts nL (some .int) nm B n0 m0 (QM B below args s R eI) h pc lv [.int x] (some (x, h)) :=
  x_ret fun hC H locs ls hR hL => W.iret hC.1 hC.2.1 hC.2.2.2.2.2.1 (fun t ht hW => ⟨rfl, by rw [ht]; exact hR, KX_warm hW hC.2.2.2.2.2.2.2.2⟩) hL hd hC.2.2.2.2.2.2.1
theorem x_lret {x : Int64} (hd : decode cc pc = .ok (.lreturn, 1)) : XX p l e R s m args below meth c cc own Ts nL (some .long) nm B n0 m0 (QM B below args s R eL) h pc lv [.long x] (some (x, h)) :=
  x_ret fun hC H locs ls hR hL => W.lret hC.1 hC.2.1 hC.2.2.2.2.2.1 (fun t ht hW => ⟨rfl, by rw [ht]; exact hR, KX_warm hW hC.2.2.2.2.2.2.2.2⟩) hL hd hC.2.2.2.2.2.2.1
theorem x_vret (hd : decode cc pc = .ok (.return_, 1)) : XX p l e R s m args below meth c cc own Ts nL none nm B n0 m0 (QM B below args s R eU) h pc lv [] (some ((), h)) :=
  x_ret fun hC H locs ls hR hL => W.vret hC.1 hC.2.1 hC.2.2.2.2.2.1 (fun t ht hW => ⟨rfl, by rw [ht]; exact hR, KX_warm hW hC.2.2.2.2.2.2.2.2⟩) hL hd hC.2.2.2.2.2.2.1
theorem nZ {x : Int32} (hx : x = 0 ∨ x = 1) : narrow .boolean (.int x) = .int x := by rcases hx with rfl | rfl <;> rfl
theorem x_zret {x : Int32} (hd : decode cc pc = .ok (.ireturn, 1)) : XX p l e R s m args below meth c cc own Ts nL (some .boolean) nm B n0 m0 (QM B below args s R eI) h pc lv [.int x] (rZ x h) := by
  refine x_chk fun hx => ?_
  exact x_ret fun hC H locs ls hR hL => W.zret hC.1 hC.2.1 hC.2.2.2.2.2.1 (nZ hx) (fun t ht hW => ⟨rfl, by rw [ht]; exact hR, KX_warm hW hC.2.2.2.2.2.2.2.2⟩) hL hd hC.2.2.2.2.2.2.1
theorem x_aret {x : Option Nat} {rt : FieldType} (hrt : (∃ n, rt = .object n) ∨ ∃ t, rt = .array t) (hd : decode cc pc = .ok (.areturn, 1)) : XX p l e R s m args below meth c cc own Ts nL (some rt) nm B n0 m0 (QM B below args s R eR) h pc lv [va_rf x] (some (x, h)) :=
  x_ret fun hC H locs ls hR hL => W.aret hC.1 hC.2.1 hC.2.2.2.2.2.1 hrt (va_rf_or x) (fun t ht hW => ⟨rfl, by rw [ht]; exact hR, KX_warm hW hC.2.2.2.2.2.2.2.2⟩) hL hd hC.2.2.2.2.2.2.1
/-! fields -/
theorem x_getF {ci kf : Nat} {r : Option Nat} {K : Value → Option (ρ × AH)} (hw : XC p s m args meth c cc own Ts nL ret nm B → ∀ {H : Heap} {a : Nat} {fs : List Value} {v : Value} {ls : Array Slot} {locs : List Loc} {cells slots : Nat} {Qs : State → Prop}, va_at B.1 vwCl (a, .inr (ci, fs)) H → fs[kf]? = some v → W p l e R s m args below meth c H locs cells slots Qs (F0 m (pc + 3) ls (v :: st)) → W p l e R s m args below meth c H locs cells slots Qs (F0 m pc ls (.ref a :: st)))
    (k : ∀ v, XX p l e R s m args below meth c cc own Ts nL ret nm B n0 m0 Q h (pc + 3) lv (v :: st) (K v)) : XX p l e R s m args below meth c cc own Ts nL ret nm B n0 m0 Q h pc lv (va_rf r :: st) ((gF h ci kf r).bind K) := by
  intro r' h' hc
  obtain ⟨v, hv0, hcz⟩ := Option.bind_eq_some_iff.mp hc
  obtain ⟨⟨a, fs⟩, ho, hv⟩ := Option.bind_eq_some_iff.mp hv0
  obtain ⟨rfl, ha⟩ := gO_eq ho
  exact ⟨(k v r' h' hcz).1, fun hC h1 h2 H locs ls cells slots hR hL hl e1 e2 => hw hC (hR.2.2.2 a _ ha).2 hv ((k v r' h' hcz).2 hC h1 h2 H locs ls cells slots hR hL hl e1 e2)⟩
theorem x_getI {ci kf : Nat} {r : Option Nat} {K : Int32 → Option (ρ × AH)} (hw : XC p s m args meth c cc own Ts nL ret nm B → ∀ {H : Heap} {a : Nat} {fs : List Value} {v : Value} {ls : Array Slot} {locs : List Loc} {cells slots : Nat} {Qs : State → Prop}, va_at B.1 vwCl (a, .inr (ci, fs)) H → fs[kf]? = some v → W p l e R s m args below meth c H locs cells slots Qs (F0 m (pc + 3) ls (v :: st)) → W p l e R s m args below meth c H locs cells slots Qs (F0 m pc ls (.ref a :: st)))
    (k : ∀ x : Int32, XX p l e R s m args below meth c cc own Ts nL ret nm B n0 m0 Q h (pc + 3) lv (.int x :: st) (K x)) : XX p l e R s m args below meth c cc own Ts nL ret nm B n0 m0 Q h pc lv (va_rf r :: st) ((fI h ci kf r).bind K) := by
  have he : (fI h ci kf r).bind K = (gF h ci kf r).bind fun v => (vI v).bind K := by simp [fI, Option.bind_assoc]
  rw [he]
  refine x_getF hw fun v => ?_
  intro r' h' hc
  obtain ⟨x, hx, hc⟩ := Option.bind_eq_some_iff.mp hc
  rw [vI_eq hx]
  exact k x r' h' hc
theorem x_getL {ci kf : Nat} {r : Option Nat} {K : Int64 → Option (ρ × AH)} (hw : XC p s m args meth c cc own Ts nL ret nm B → ∀ {H : Heap} {a : Nat} {fs : List Value} {v : Value} {ls : Array Slot} {locs : List Loc} {cells slots : Nat} {Qs : State → Prop}, va_at B.1 vwCl (a, .inr (ci, fs)) H → fs[kf]? = some v → W p l e R s m args below meth c H locs cells slots Qs (F0 m (pc + 3) ls (v :: st)) → W p l e R s m args below meth c H locs cells slots Qs (F0 m pc ls (.ref a :: st)))
    (k : ∀ x : Int64, XX p l e R s m args below meth c cc own Ts nL ret nm B n0 m0 Q h (pc + 3) lv (.long x :: st) (K x)) : XX p l e R s m args below meth c cc own Ts nL ret nm B n0 m0 Q h pc lv (va_rf r :: st) ((fL h ci kf r).bind K) := by
  have he : (fL h ci kf r).bind K = (gF h ci kf r).bind fun v => (vL v).bind K := by simp [fL, Option.bind_assoc]
  rw [he]
  refine x_getF hw fun v => ?_
  intro r' h' hc
  obtain ⟨x, hx, hc⟩ := Option.bind_eq_some_iff.mp hc
  rw [vL_eq hx]
  exact k x r' h' hc
theorem x_getR {ci kf : Nat} {r : Option Nat} {K : Option Nat → Option (ρ × AH)} (hw : XC p s m args meth c cc own Ts nL ret nm B → ∀ {H : Heap} {a : Nat} {fs : List Value} {v : Value} {ls : Array Slot} {locs : List Loc} {cells slots : Nat} {Qs : State → Prop}, va_at B.1 vwCl (a, .inr (ci, fs)) H → fs[kf]? = some v → W p l e R s m args below meth c H locs cells slots Qs (F0 m (pc + 3) ls (v :: st)) → W p l e R s m args below meth c H locs cells slots Qs (F0 m pc ls (.ref a :: st)))
    (k : ∀ x : Option Nat, XX p l e R s m args below meth c cc own Ts nL ret nm B n0 m0 Q h (pc + 3) lv (va_rf x :: st) (K x)) : XX p l e R s m args below meth c cc own Ts nL ret nm B n0 m0 Q h pc lv (va_rf r :: st) ((fR h ci kf r).bind K) := by
  have he : (fR h ci kf r).bind K = (gF h ci kf r).bind fun v => (vR v).bind K := by simp [fR, Option.bind_assoc]
  rw [he]
  refine x_getF hw fun v => ?_
  intro r' h' hc
  obtain ⟨x, hx, hc⟩ := Option.bind_eq_some_iff.mp hc
  rw [vR_eq hx]
  exact k x r' h' hc
/-- the machine's put, as the heap's change -/
abbrev XP (p : Program) (l : Launch) (e : Env) (R : Room) (s : State) (m : MethodId) (args : Array Value) (below : List Frame) (meth : Method) (c : Code) (B : AB) (ci kf pc : Nat) (st : List Value) (v : Value) : Prop :=
  ∀ {H : Heap} {a : Nat} {fs : List Value} {ls : Array Slot} {locs : List Loc} {cells slots : Nat} {Qs : State → Prop}, va_at B.1 vwCl (a, .inr (ci, fs)) H → kf < fs.length → (∀ (H1 : Heap) (i : Nat), va_at B.1 vwCl (a, .inr (ci, fs.set kf v)) H1 → H1.size = H.size → (∀ q : Nat, q ≠ a → H1[q]? = H[q]?) → W p l e R s m args below meth c H1 (locs ++ [⟨a, i⟩]) cells slots Qs (F0 m (pc + 3) ls st)) → W p l e R s m args below meth c H locs cells slots Qs (F0 m pc ls (v :: .ref a :: st))
theorem x_putF {ci kf : Nat} {r : Option Nat} {v : Value} {K : AH → Option (ρ × AH)} (hw : XC p s m args meth c cc own Ts nL ret nm B → XP p l e R s m args below meth c B ci kf pc st v)
    (k : ∀ h1, XX p l e R s m args below meth c cc own Ts nL ret nm B n0 m0 Q h1 (pc + 3) lv st (K h1)) : XX p l e R s m args below meth c cc own Ts nL ret nm B n0 m0 Q h pc lv (v :: va_rf r :: st) ((pF h ci kf r v).bind K) := by
  intro r' h' hc
  obtain ⟨h1, hv0, hcz⟩ := Option.bind_eq_some_iff.mp hc
  obtain ⟨⟨a, fs⟩, ho, hv⟩ := Option.bind_eq_some_iff.mp hv0
  obtain ⟨rfl, ha⟩ := gO_eq ho
  dsimp only at hv
  by_cases hlt : kf < fs.length
  · rw [if_pos hlt] at hv
    cases hv
    refine ⟨(k _ r' h' hcz).1, fun hC q1 q2 H locs ls cells slots hR hL hl e1 e2 => hw hC (hR.2.2.2 a _ ha).2 hlt fun H1 i g1 g2 g3 => ?_⟩
    refine (k _ r' h' hcz).2 hC q1 q2 H1 _ ls cells slots (Rep_put hR ha g2 g3 g1) (fun q hq => ?_) hl e1 e2
    rcases List.mem_append.mp hq with hq | hq
    · exact hL q hq
    · rw [List.mem_singleton.mp hq]
      exact (hR.2.2.2 a _ ha).1
  · rw [if_neg hlt] at hv
    cases hv
theorem x_putZ {ci kf : Nat} {r : Option Nat} {x : Int32} {K : AH → Option (ρ × AH)} (hw : narrow .boolean (.int x) = .int x → XC p s m args meth c cc own Ts nL ret nm B → XP p l e R s m args below meth c B ci kf pc st (.int x))
    (k : ∀ h1, XX p l e R s m args below meth c cc own Ts nL ret nm B n0 m0 Q h1 (pc + 3) lv st (K h1)) : XX p l e R s m args below meth c cc own Ts nL ret nm B n0 m0 Q h pc lv (.int x :: va_rf r :: st) ((pZ h ci kf r x).bind K) := by
  by_cases hx : x = 0 ∨ x = 1
  · rw [show pZ h ci kf r x = pF h ci kf r (.int x) from if_pos hx]
    exact x_putF (hw (nZ hx)) k
  · rw [show pZ h ci kf r x = none from if_neg hx]
    exact x_none
/-- the kit's three puts, turned -/
theorem w_put {C ref : String} {T : u_T} {N ci index : Nat} (hC : XC p s m args meth c cc own Ts nL ret nm B) (hin : ∀ w ∈ u_ws C T N, w ∈ Ts) (ty0 : Nat → FieldType) (hty : ∀ k, k < N → parseFieldDescriptor (T k).2.2.1 = some (ty0 k)) (hnm : ∀ a, a < N → ∀ b, b < N → a ≠ b → (T a).2.1 ≠ (T b).2.1) (hc : vwCl[ci]? = some (C, T, N)) (k : Nat) (hk : k < N) (hlink : Cond.fieldLink own index ref (T k).2.1 (T k).2.2.1 ∈ Ts) (href : (T k).1 = ref) (hfin : (T k).2.2.2 = false) {ty : FieldType} {v : Value} (hd : parseFieldDescriptor (T k).2.2.1 = some ty) (hn : narrow ty v = v) (hfit : fits ty v = true) (hdg : decode cc pc = .ok (.putfield index, 3)) : XP p l e R s m args below meth c B ci k pc st v := by
  intro H a fs ls locs cells slots Qs hP hl kk
  have hK := hC.2.2.2.2.2.2.2.2.1
  have hts := hC.2.2.2.2.1
  have hap := va_apart (own := own) hts hin ty0 hty hnm hK hc
  obtain ⟨r, h1, cell, q1, q2, q3, q4⟩ := hP
  have hr : r = (C, T, N) := Option.some.inj (h1.symm.trans hc)
  subst hr
  obtain ⟨hS, hfc, kC, hkC, hkind⟩ := hK.1 ci _ hc
  obtain ⟨cf, kf, fi, f, hi, hsl⟩ := hS k hk
  have hlay := hts _ (hin _ (u_in_lay hk))
  unfold u_lay at hlay
  rw [if_neg (by rw [hfin]; decide)] at hlay
  have hst := (u_facts hfc hkC (u_lays hts hin hk) hi).1
  have h6 := u_store hfc hkC hkind hlay hi hd hn hfit
  rw [href] at hi
  refine W.putK hC.1 hC.2.1 (f := f) ⟨hC.2.2.2.1, hts _ hlink, ⟨_, _, _, hi⟩, hst⟩ (by rw [q2]; exact h6) q1 q3 (by rw [hsl]; exact k2_hasslot (q4 k hk)) rfl rfl hdg fun H' e1 e2 e3 => ?_
  rw [hsl] at e1
  exact kk H' _ ⟨_, hc, t_OB.to (V := updV (vp_V fs) k v) ⟨_, e1, q2, q3, t_set q4 hap hk v⟩ (fun j _ => vp_updV_set hl v j)⟩ e2 e3
theorem w_putF {C ref : String} {T : u_T} {N ci index : Nat} (hC : XC p s m args meth c cc own Ts nL ret "<init>" B) (hin : ∀ w ∈ u_ws C T N, w ∈ Ts) (ty0 : Nat → FieldType) (hty : ∀ k, k < N → parseFieldDescriptor (T k).2.2.1 = some (ty0 k)) (hnm : ∀ a, a < N → ∀ b, b < N → a ≠ b → (T a).2.1 ≠ (T b).2.1) (hc : vwCl[ci]? = some (C, T, N)) (k : Nat) (hk : k < N) (hlink : Cond.fieldLink own index ref (T k).2.1 (T k).2.2.1 ∈ Ts) (href : (T k).1 = ref) (hfin : (T k).2.2.2 = true) (hdecl : (T k).1 = own) {ty : FieldType} {v : Value} (hd : parseFieldDescriptor (T k).2.2.1 = some ty) (hn : narrow ty v = v) (hfit : fits ty v = true) (hdg : decode cc pc = .ok (.putfield index, 3)) : XP p l e R s m args below meth c B ci k pc st v := by
  intro H a fs ls locs cells slots Qs hP hl kk
  have hK := hC.2.2.2.2.2.2.2.2.1
  have hts := hC.2.2.2.2.1
  have hown := hC.2.2.2.1
  have hap := va_apart (own := own) hts hin ty0 hty hnm hK hc
  obtain ⟨r, h1, cell, q1, q2, q3, q4⟩ := hP
  have hr : r = (C, T, N) := Option.some.inj (h1.symm.trans hc)
  subst hr
  obtain ⟨hS, hfc, kC, hkC, hkind⟩ := hK.1 ci _ hc
  obtain ⟨cf, kf, fi, f, hi, hsl⟩ := hS k hk
  have hlay := hts _ (hin _ (u_in_lay hk))
  unfold u_lay at hlay
  rw [if_pos hfin] at hlay
  have hst := (u_facts hfc hkC (u_lays hts hin hk) hi).1
  have hcf : m.cls = cf := by
    obtain ⟨_, _, c', _, _, _, -, -, hf', -, -, -, hown2, -⟩ := Cond.laysFinal_spec hlay
    have e1 : c' = cf := by have := hi.symm.trans hf'; simp at this; exact this.1.symm
    rw [hdecl] at hown2
    rw [← e1]; exact Option.some.inj (hown.symm.trans hown2)
  have h6 := u_fits hfc hkC hkind (Or.inr hlay) hi hd hn hfit
  rw [href] at hi
  refine W.putFinK hC.1 hC.2.1 hown (hts _ hlink) hi hst hcf hC.2.2.2.2.2.2.2.1 (by rw [q2]; exact h6) q1 q3 (by rw [hsl]; exact k2_hasslot (q4 k hk)) rfl rfl hdg fun H' e1 e2 e3 => ?_
  rw [hsl] at e1
  exact kk H' _ ⟨_, hc, t_OB.to (V := updV (vp_V fs) k v) ⟨_, e1, q2, q3, t_set q4 hap hk v⟩ (fun j _ => vp_updV_set hl v j)⟩ e2 e3
theorem w_putN {C ref host : String} {T : u_T} {N ci index : Nat} (hC : XC p s m args meth c cc own Ts nL ret nm B) (hin : ∀ w ∈ u_ws C T N, w ∈ Ts) (ty0 : Nat → FieldType) (hty : ∀ k, k < N → parseFieldDescriptor (T k).2.2.1 = some (ty0 k)) (hnm : ∀ a, a < N → ∀ b, b < N → a ≠ b → (T a).2.1 ≠ (T b).2.1) (hc : vwCl[ci]? = some (C, T, N)) (k : Nat) (hk : k < N) (hlink : (own, index, ref, (T k).2.1, (T k).2.2.1, host) ∈ nwF) (href : (T k).1 = ref) (hfin : (T k).2.2.2 = false) {ty : FieldType} {v : Value} (hd : parseFieldDescriptor (T k).2.2.1 = some ty) (hn : narrow ty v = v) (hfit : fits ty v = true) (hdg : decode cc pc = .ok (.putfield index, 3)) : XP p l e R s m args below meth c B ci k pc st v := by
  intro H a fs ls locs cells slots Qs hP hl kk
  have hK := hC.2.2.2.2.2.2.2.2.1
  have hts := hC.2.2.2.2.1
  have hap := va_apart (own := own) hts hin ty0 hty hnm hK hc
  obtain ⟨r, h1, cell, q1, q2, q3, q4⟩ := hP
  have hr : r = (C, T, N) := Option.some.inj (h1.symm.trans hc)
  subst hr
  obtain ⟨hS, hfc, kC, hkC, hkind⟩ := hK.1 ci _ hc
  obtain ⟨cf, kf, fi, f, hi, hsl⟩ := hS k hk
  have hlay := hts _ (hin _ (u_in_lay hk))
  unfold u_lay at hlay
  rw [if_neg (by rw [hfin]; decide)] at hlay
  have hst := (u_facts hfc hkC (u_lays hts hin hk) hi).1
  have h6 := u_store hfc hkC hkind hlay hi hd hn hfit
  rw [href] at hi
  refine va_WputK (host := host) hC.1 hC.2.1 (f := f) hC.2.2.2.1 (va_Nw.use rfl (hC.2.2.2.2.2.2.2.2.2.2.1 _ hlink)) hi hst (by rw [q2]; exact h6) q1 q3 (by rw [hsl]; exact k2_hasslot (q4 k hk)) rfl rfl hdg fun H' e1 e2 e3 => ?_
  rw [hsl] at e1
  exact kk H' _ ⟨_, hc, t_OB.to (V := updV (vp_V fs) k v) ⟨_, e1, q2, q3, t_set q4 hap hk v⟩ (fun j _ => vp_updV_set hl v j)⟩ e2 e3
/-- the kit's two gets, turned -/
theorem w_get {C ref : String} {T : u_T} {N ci index : Nat} (hC : XC p s m args meth c cc own Ts nL ret nm B) (hin : ∀ w ∈ u_ws C T N, w ∈ Ts) (hc : vwCl[ci]? = some (C, T, N)) (k : Nat) (hk : k < N) (hlink : Cond.fieldLink own index ref (T k).2.1 (T k).2.2.1 ∈ Ts) (href : (T k).1 = ref) (hdg : decode cc pc = .ok (.getfield index, 3)) {H : Heap} {a : Nat} {fs : List Value} {v : Value} {ls : Array Slot} {locs : List Loc} {cells slots : Nat} {Qs : State → Prop} (hP : va_at B.1 vwCl (a, .inr (ci, fs)) H) (hv : fs[k]? = some v) (kk : W p l e R s m args below meth c H locs cells slots Qs (F0 m (pc + 3) ls (v :: st))) : W p l e R s m args below meth c H locs cells slots Qs (F0 m pc ls (.ref a :: st)) := by
  subst href
  exact va_get (ws := [(a, .inr (ci, fs))]) hC.1 hC.2.1 hC.2.2.2.2.1 hin hC.2.2.2.1 hC.2.2.2.2.2.2.2.2.1 (fun j q hj => by
    cases j with
    | zero => simp only [List.getElem?_cons_zero, Option.some.injEq] at hj; rw [← hj]; exact hP
    | succ j => simp at hj) 0 rfl hc k hk (hC.2.2.2.2.1 _ hlink) (fun _ h9 => h9) hv hdg kk
theorem w_getN {C ref host : String} {T : u_T} {N ci index : Nat} (hC : XC p s m args meth c cc own Ts nL ret nm B) (hin : ∀ w ∈ u_ws C T N, w ∈ Ts) (hc : vwCl[ci]? = some (C, T, N)) (k : Nat) (hk : k < N) (hlink : (own, index, ref, (T k).2.1, (T k).2.2.1, host) ∈ nwF) (href : (T k).1 = ref) (hdg : decode cc pc = .ok (.getfield index, 3)) {H : Heap} {a : Nat} {fs : List Value} {v : Value} {ls : Array Slot} {locs : List Loc} {cells slots : Nat} {Qs : State → Prop} (hP : va_at B.1 vwCl (a, .inr (ci, fs)) H) (hv : fs[k]? = some v) (kk : W p l e R s m args below meth c H locs cells slots Qs (F0 m (pc + 3) ls (v :: st))) : W p l e R s m args below meth c H locs cells slots Qs (F0 m pc ls (.ref a :: st)) := by
  subst href
  exact va_getN (host := host) (ws := [(a, .inr (ci, fs))]) hC.1 hC.2.1 hC.2.2.2.2.1 hin hC.2.2.2.1 hC.2.2.2.2.2.2.2.2.1 (fun j q hj => by
    cases j with
    | zero => simp only [List.getElem?_cons_zero, Option.some.injEq] at hj; rw [← hj]; exact hP
    | succ j => simp at hj) 0 rfl hc k hk (va_Nw.use rfl (hC.2.2.2.2.2.2.2.2.2.2.1 _ hlink)) (fun _ h9 => h9) hv hdg kk
end XR
