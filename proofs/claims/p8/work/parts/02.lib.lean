/-! THE OWN LIBRARY: an abstract heap as a function, a walk XX that carries a pure computation, a contract CT of a method out of it -/
abbrev AE : Type := (Nat × Nat × (Nat → Value)) ⊕ (Nat × List Value)
abbrev AH : Type := (Nat → Option AE) × Nat × Nat
abbrev AB : Type := va_G × (Nat → ClassId) × Nat × Heap
def aput (h : AH) (a : Nat) (e : AE) : AH := (fun q => if q = a then some e else h.1 q, h.2)
def apush (h : AH) (e : AE) (n : Nat) : AH := (fun q => if q = h.2.1 then some e else h.1 q, h.2.1 + 1, h.2.2 + n)
def aAt (B : AB) (a : Nat) (e : AE) (H : Heap) : Prop := match e with
  | .inl x => H[a]? = some (arrV (B.2.1 x.1) x.2.1 x.2.2)
  | .inr o => va_at B.1 vwCl (a, .inr o) H
theorem aAt_kept {B : AB} {a : Nat} {e : AE} {H H1 : Heap} (h : aAt B a e H) (hq : H1[a]? = H[a]?) : aAt B a e H1 := by
  cases e with
  | inl x => exact hq.trans h
  | inr o => exact va_at.kept (q := (a, .inr o)) h hq
theorem aAt_lt {B : AB} {a : Nat} {e : AE} {H : Heap} (h : aAt B a e H) : a < H.size := by
  cases e with
  | inl x => exact (Array.getElem?_eq_some_iff.mp h).1
  | inr o => exact va_at.lt (q := (a, .inr o)) h
def Rep (B : AB) (h : AH) (H : Heap) : Prop := H.size = h.2.1 ∧ B.2.2.1 ≤ H.size ∧ (∀ q : Nat, q < B.2.2.1 → H[q]? = B.2.2.2[q]?) ∧ ∀ (a : Nat) (e : AE), h.1 a = some e → B.2.2.1 ≤ a ∧ aAt B a e H
theorem Rep_put {B : AB} {h : AH} {H H1 : Heap} {a : Nat} {e0 e : AE} (hR : Rep B h H) (ha : h.1 a = some e0) (z : H1.size = H.size) (oq : ∀ q : Nat, q ≠ a → H1[q]? = H[q]?) (he : aAt B a e H1) : Rep B (aput h a e) H1 := by
  obtain ⟨r1, r2, r3, r4⟩ := hR
  have hb := (r4 a e0 ha).1
  refine ⟨z.trans r1, by rw [z]; exact r2, fun q hq => ?_, fun x e' hx => ?_⟩
  · rw [oq q (by omega)]; exact r3 q hq
  · by_cases hxa : x = a
    · subst hxa
      simp only [aput, if_true, Option.some.injEq] at hx
      subst hx
      exact ⟨hb, he⟩
    · simp only [aput, if_neg hxa] at hx
      exact ⟨(r4 x e' hx).1, aAt_kept (r4 x e' hx).2 (oq x hxa)⟩
theorem Rep_push {B : AB} {h : AH} {H H1 : Heap} {e : AE} {n : Nat} (hR : Rep B h H) (z : H1.size = H.size + 1) (oq : ∀ q : Nat, q < H.size → H1[q]? = H[q]?) (he : aAt B H.size e H1) : Rep B (apush h e n) H1 := by
  obtain ⟨r1, r2, r3, r4⟩ := hR
  refine ⟨by rw [z, r1]; rfl, by omega, fun q hq => ?_, fun x e' hx => ?_⟩
  · rw [oq q (by omega)]; exact r3 q hq
  · by_cases hxa : x = h.2.1
    · simp only [apush, if_pos hxa, Option.some.injEq] at hx
      subst hx
      rw [hxa, ← r1]
      exact ⟨r2, he⟩
    · simp only [apush, if_neg hxa] at hx
      exact ⟨(r4 x e' hx).1, aAt_kept (r4 x e' hx).2 (oq x (aAt_lt (r4 x e' hx).2))⟩
def KX (B : AB) (U : State) : Prop := va_K B.1 vwCl [] U ∧ (∀ (k : Nat) (ty : FieldType), aTys[k]? = some ty → ArrOfT U (B.2.1 k) ty ∧ va_RA U (B.2.1 k) ty) ∧ (∀ w ∈ nwF, va_Nw (.fieldLinkNest w.1 w.2.1 w.2.2.1 w.2.2.2.1 w.2.2.2.2.1 w.2.2.2.2.2) U) ∧ (∀ w ∈ nwM, va_Nw (.methodLinkNest w.1 w.2.1 w.2.2.1 w.2.2.2) U) ∧ ∀ C ∈ nwO, va_AO C U
theorem KX_warm {B : AB} {s U : State} (hW : s.WarmedH U.vm) (h : KX B s) : KX B U :=
  ⟨va_K.moved hW.alike h.1, fun k ty hk => ⟨arrOfT_moved hW.alike (h.2.1 k ty hk).1, (h.2.1 k ty hk).2.moved hW.alike⟩, fun w hw => va_Nw.warmF hW (h.2.2.1 w hw), fun w hw => va_Nw.warmM hW (h.2.2.2.1 w hw), fun C hc => va_AO.moved hW.alike (h.2.2.2.2 C hc)⟩
theorem KX_same {B : AB} {u U : State} (hv : u.vm = U.vm) (h : KX B u) : KX B U := by
  have ha : u.vm.Alike U.vm := by rw [hv]; exact Vm.Alike.refl _
  exact ⟨va_K.moved ha h.1, fun k ty hk => ⟨arrOfT_moved ha (h.2.1 k ty hk).1, (h.2.1 k ty hk).2.moved ha⟩, fun w hw => va_Nw.same rfl hv (h.2.2.1 w hw), fun w hw => va_Nw.same rfl hv (h.2.2.2.1 w hw), fun C hc => va_AO.moved ha (h.2.2.2.2 C hc)⟩
def RU (B : AB) (h : AH) (U : State) : Prop := Rep B h U.heap ∧ KX B U
theorem RU_blind {B : AB} {h : AH} {av : List Value} : FrameBlind (va_Pc av (RU B h)) := fun a U g mk q => ⟨q.1, q.2.1, KX_same (u := U) (U := U.calling g mk a) rfl q.2.2⟩
abbrev XC (p : Program) (s : State) (m : MethodId) (args : Array Value) (meth : Method) (c : Code) (cc : ByteArray) (own : String) (Ts : List Cond) (nL : Nat) (ret : Option FieldType) (nm : String) (B : AB) : Prop :=
  p.tables.exec = Jvm.exec ∧ c.code = cc ∧ c.maxLocals = nL ∧ s.vm.findClass own = some m.cls ∧ (∀ w ∈ Ts, w.before args s = true) ∧ meth.sig.returnType = ret ∧ meth.locks = false ∧ meth.name = nm ∧ KX B s
def XX {ρ : Type} (p : Program) (l : Launch) (e : Env) (R : Room) (s : State) (m : MethodId) (args : Array Value) (below : List Frame) (meth : Method) (c : Code) (cc : ByteArray) (own : String) (Ts : List Cond) (nL : Nat) (ret : Option FieldType) (nm : String) (B : AB) (n0 m0 : Nat) (Q : ρ → AH → State → Prop) (h : AH) (pc : Nat) (lv : List (Nat × Value)) (st : List Value) (comp : Option (ρ × AH)) : Prop :=
  ∀ (r : ρ) (h' : AH), comp = some (r, h') → (h.2.1 ≤ h'.2.1 ∧ h.2.2 ≤ h'.2.2) ∧
    (XC p s m args meth c cc own Ts nL ret nm B → h'.2.1 ≤ n0 + R.cells → h'.2.2 ≤ m0 + R.slots → ∀ (H : Heap) (locs : List Loc) (ls : Array Slot) (cells slots : Nat), Rep B h H → (∀ q ∈ locs, B.2.2.1 ≤ q.base) → lv_has ls nL lv → n0 + cells = h.2.1 → m0 + slots = h.2.2 → W p l e R s m args below meth c H locs cells slots (Q r h') (F0 m pc ls st))
abbrev DM : Type := Program × Env × State × MethodId × Array Value × List Frame × Method × Code
def CT {ρ : Type} (l : Launch) (B : AB) (y : MethodName) (ws : List Cond) (fr lo : Nat) (enc : ρ → Option Value) (av : List Value) (h : AH) (comp : Option (ρ × AH)) : Prop :=
  ∀ (r : ρ) (h' : AH), comp = some (r, h') → (∀ _ : DM, h.2.1 ≤ h'.2.1 ∧ h.2.2 ≤ h'.2.2) ∧
    Met l y ws { frames := fr, cells := h'.2.1 - h.2.1, slots := h'.2.2 - h.2.2, locals := lo } (va_Pc av (RU B h)) (fun _ _ oc t => oc = .returned (enc r) ∧ RU B h' t) (h'.2.1 - h.2.1) (h'.2.2 - h.2.2) (fun q => B.2.2.1 ≤ q)
def QM {ρ : Type} (B : AB) (below : List Frame) (args : Array Value) (s : State) (R : Room) (enc : ρ → Option Value) : ρ → AH → State → Prop := fun r h' => MQ below (fun _ _ oc t => oc = .returned (enc r) ∧ RU B h' t) args s R.cells R.slots (fun q => B.2.2.1 ≤ q)
abbrev eI : Int32 → Option Value := fun x => some (.int x)
abbrev eL : Int64 → Option Value := fun x => some (.long x)
abbrev eR : Option Nat → Option Value := fun x => some (va_rf x)
abbrev eU : Unit → Option Value := fun _ => none
set_option maxHeartbeats 1000000 in
theorem ct_of {ρ : Type} {l : Launch} {B : AB} {y : MethodName} {cc : ByteArray} {maxL : Nat} {ret : Option FieldType} {Ts : List Cond} {own nm : String} {enc : ρ → Option Value} {av : List Value} {h : AH} {comp : Option (ρ × AH)} {fr lo : Nat}
    (hy : plainName y.cls = true) (hyc : y.cls = own) (hyn : y.name = nm) (hsl : (lg_sl av).length ≤ maxL)
    (body : ∀ (p : Program) (e : Env) (k1 k2 : Nat) (s : State) (m : MethodId) (args : Array Value) (below : List Frame) (meth : Method) (c : Code), XX p l e { frames := fr, cells := k1, slots := k2, locals := lo } s m args below meth c cc own Ts maxL ret nm B h.2.1 h.2.2 (QM B below args s { frames := fr, cells := k1, slots := k2, locals := lo } enc) h 0 (lv_args 0 av) [] comp) :
    CT l B y (Cond.code y cc maxL ret :: Ts) fr lo enc av h comp := by
  intro r h' hc
  refine ⟨fun D => (body D.1 D.2.1 0 0 D.2.2.1 D.2.2.2.1 D.2.2.2.2.1 D.2.2.2.2.2.1 D.2.2.2.2.2.2.1 D.2.2.2.2.2.2.2 r h' hc).1, ?_⟩
  refine Met.ofW (cc := cc) (maxL := maxL) (ret := ret) hy rfl ?_
  intro p e s m args below meth c s₁ BB hml hv
  obtain ⟨rfl, hRU⟩ := hv
  rw [lg_entry_eq]
  have hl := lv_entry av hsl
  have hC : XC p s m av.toArray meth c cc own Ts maxL ret nm B := ⟨BB.exec, BB.bytes, hml, hyc ▸ findClass_of_methodNamed BB.named, fun w hw => atoms_spec (ws := Cond.code y cc maxL ret :: Ts) BB.pre w (List.mem_cons_of_mem _ hw), BB.returns, BB.notSynchronized, (name_of_methodNamed BB.named BB.method).1.trans hyn, hRU.2⟩
  exact (body p e (h'.2.1 - h.2.1) (h'.2.2 - h.2.2) s m av.toArray below meth c r h' hc).2 hC (by show h'.2.1 ≤ h.2.1 + (h'.2.1 - h.2.1); omega) (by show h'.2.2 ≤ h.2.2 + (h'.2.2 - h.2.2); omega) s.heap [] _ 0 0 hRU.1 (fun q hq => by cases hq) hl rfl rfl
/-! typed reads and writes of the abstract heap -/
def vI (v : Value) : Option Int32 := match v with | .int x => some x | _ => none
def vL (v : Value) : Option Int64 := match v with | .long x => some x | _ => none
def vR (v : Value) : Option (Option Nat) := match v with | .ref a => some (some a) | .null => some none | _ => none
theorem vI_eq {v : Value} {x : Int32} (h : vI v = some x) : v = .int x := by cases v <;> simp [vI] at h; rw [h]
theorem vL_eq {v : Value} {x : Int64} (h : vL v = some x) : v = .long x := by cases v <;> simp [vL] at h; rw [h]
theorem vR_eq {v : Value} {x : Option Nat} (h : vR v = some x) : v = va_rf x := by cases v <;> simp [vR] at h <;> subst h <;> rfl
def gO (h : AH) (ci : Nat) (r : Option Nat) : Option (Nat × List Value) := match r with
  | none => none
  | some a => match h.1 a with
    | some (.inr o) => if o.1 = ci then some (a, o.2) else none
    | _ => none
theorem gO_eq {h : AH} {ci a : Nat} {r : Option Nat} {fs : List Value} (hg : gO h ci r = some (a, fs)) : r = some a ∧ h.1 a = some (.inr (ci, fs)) := by
  unfold gO at hg
  split at hg
  · cases hg
  · split at hg
    · rename_i o ho
      split at hg
      · rename_i hc
        simp only [Option.some.injEq, Prod.mk.injEq] at hg
        obtain ⟨rfl, rfl⟩ := hg
        subst hc
        exact ⟨rfl, ho⟩
      · cases hg
    · cases hg
def gA (h : AH) (t : Nat) (r : Option Nat) : Option (Nat × Nat × (Nat → Value)) := match r with
  | none => none
  | some a => match h.1 a with
    | some (.inl o) => if o.1 = t then some (a, o.2) else none
    | _ => none
theorem gA_eq {h : AH} {t a n : Nat} {r : Option Nat} {f : Nat → Value} (hg : gA h t r = some (a, n, f)) : r = some a ∧ h.1 a = some (.inl (t, n, f)) := by
  unfold gA at hg
  split at hg
  · cases hg
  · split at hg
    · rename_i o ho
      split at hg
      · rename_i hc
        simp only [Option.some.injEq, Prod.mk.injEq] at hg
        obtain ⟨rfl, hg⟩ := hg
        obtain ⟨o1, o2⟩ := o
        simp only at hc hg
        subst hc
        subst hg
        exact ⟨rfl, ho⟩
      · cases hg
    · cases hg
def gF (h : AH) (ci k : Nat) (r : Option Nat) : Option Value := (gO h ci r).bind fun o => o.2[k]?
def fI (h : AH) (ci k : Nat) (r : Option Nat) : Option Int32 := (gF h ci k r).bind vI
def fL (h : AH) (ci k : Nat) (r : Option Nat) : Option Int64 := (gF h ci k r).bind vL
def fR (h : AH) (ci k : Nat) (r : Option Nat) : Option (Option Nat) := (gF h ci k r).bind vR
def pF (h : AH) (ci k : Nat) (r : Option Nat) (v : Value) : Option AH := (gO h ci r).bind fun o => if k < o.2.length then some (aput h o.1 (.inr (ci, o.2.set k v))) else none
def pZ (h : AH) (ci k : Nat) (r : Option Nat) (x : Int32) : Option AH := if x = 0 ∨ x = 1 then pF h ci k r (.int x) else none
def gE (h : AH) (t : Nat) (r : Option Nat) (i : Int32) : Option Value := (gA h t r).bind fun o => if i < 0 ∨ o.2.1 ≤ i.toNatClampNeg then none else some (o.2.2 i.toNatClampNeg)
def lI (h : AH) (t : Nat) (r : Option Nat) (i : Int32) : Option Int32 := (gE h t r i).bind vI
def lL (h : AH) (t : Nat) (r : Option Nat) (i : Int32) : Option Int64 := (gE h t r i).bind vL
def lR (h : AH) (t : Nat) (r : Option Nat) (i : Int32) : Option (Option Nat) := (gE h t r i).bind vR
def pE (h : AH) (t : Nat) (r : Option Nat) (i : Int32) (v : Value) : Option AH := (gA h t r).bind fun o => if i < 0 ∨ o.2.1 ≤ i.toNatClampNeg then none else some (aput h o.1 (.inl (t, o.2.1, updV o.2.2 i.toNatClampNeg v)))
def gN (h : AH) (t : Nat) (r : Option Nat) : Option Int32 := (gA h t r).bind fun o => some (nI o.2.1)
def nAk {α : Type} (h : AH) (t : Nat) (n : Int32) (d : Value) (K : Nat → AH → Option α) : Option α := if n < 0 ∨ 100000 < n.toNatClampNeg then none else K h.2.1 (apush h (.inl (t, n.toNatClampNeg, fun _ => d)) n.toNatClampNeg)
def nOk {α : Type} (h : AH) (ci : Nat) (fs : List Value) (K : Nat → AH → Option α) : Option α := K h.2.1 (apush h (.inr (ci, fs)) fs.length)
def bnd {α σ : Type} (c : Option (σ × AH)) (K : σ → AH → Option α) : Option α := c.bind fun q => K q.1 q.2
def bndU {α : Type} (c : Option (Unit × AH)) (K : AH → Option α) : Option α := c.bind fun q => K q.2
def rcv {α : Type} (h : AH) (ci : Nat) (r : Option Nat) (K : Nat → Option α) : Option α := (gO h ci r).bind fun o => K o.1
def rZ (x : Int32) (h : AH) : Option (Int32 × AH) := if x = 0 ∨ x = 1 then some (x, h) else none
