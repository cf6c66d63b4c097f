/-! THE CLASS WITHOUT A HEAP: numbers of the desk, the version, sessions, slots, transactions and ranges by their addresses, the heap's end -/
abbrev TX : Type := (Nat → Int32) × Int64 × (Nat → Option Nat) × (Nat → Int32)
abbrev RX : Type := (Nat → Int32) × (Nat → Int64) × Option Nat
abbrev CV : Type := (Nat → Int32) × (Nat → Int64) × (Nat → Int32) × (Nat → Option Nat) × (Nat → Option Nat) × (Nat → Option TX) × (Nat → Option RX) × (Nat × Nat)
def cD (v : CV) : Nat → Int32 := v.1
def cV (v : CV) : Nat → Int64 := v.2.1
def cF (v : CV) : Nat → Int32 := v.2.2.1
def cE (v : CV) : Nat → Option Nat := v.2.2.2.1
def cS (v : CV) : Nat → Option Nat := v.2.2.2.2.1
def cT (v : CV) : Nat → Option TX := v.2.2.2.2.2.1
def cR (v : CV) : Nat → Option RX := v.2.2.2.2.2.2.1
def cZ (v : CV) : Nat × Nat := v.2.2.2.2.2.2.2
def mkC (D : Nat → Int32) (V : Nat → Int64) (F : Nat → Int32) (E S : Nat → Option Nat) (T : Nat → Option TX) (R : Nat → Option RX) (Z : Nat × Nat) : CV := (D, V, F, E, S, T, R, Z)
def ofT (a : Nat) (t : TX) : List Value := txf a (t.1 0) (t.1 1) (t.1 2) (t.1 3) (t.1 4) t.2.1 (t.1 6)
def ofR (g : RX) : List Value := rgf (g.1 0) (g.2.1 1) (g.2.1 2) (g.1 3) g.2.2
def CH (X : Nat) (v : CV) (h : AH) : Prop :=
  (h.1 X = some (.inr (3, dkf X (cD v 3) (cD v 4) (cD v 5))) ∧ h.1 (X + 1) = some (.inr (2, [.ref (X + 2), .ref (X + 3)])) ∧ h.1 (X + 2) = some (.inl (0, 8, fun i => .long (cV v i))) ∧ h.1 (X + 3) = some (.inl (1, 8, fun i => .int (cF v i))) ∧ h.1 (X + 4) = some (.inl (2, 6, fun i => va_rf (cE v i))) ∧ h.1 (X + 5) = some (.inl (2, 64, fun i => va_rf (cS v i)))) ∧
  (∀ a t, cT v a = some t → X + 26 ≤ a ∧ h.1 a = some (.inr (1, ofT a t)) ∧ h.1 (a + 1) = some (.inl (3, 8, fun i => va_rf (t.2.2.1 i))) ∧ h.1 (a + 2) = some (.inl (4, 8, fun i => .int (t.2.2.2 i)))) ∧
  (∀ b g, cR v b = some g → X + 26 ≤ b ∧ h.1 b = some (.inr (0, ofR g))) ∧
  h.2 = cZ v ∧ X + 26 ≤ (cZ v).1 ∧ ∀ q, (cZ v).1 ≤ q → h.1 q = none
def FC (X : Nat) (h h' : AH) : Prop := ∀ q, X + 6 ≤ q → q ≤ X + 25 → h'.1 q = h.1 q
def C2 {ρ : Type} (X : Nat) (h : AH) (v : CV) (cf : Option (ρ × AH)) (cg : Option (ρ × CV)) : Prop := CH X v h → ∀ (r : ρ) (v' : CV), cg = some (r, v') → ∃ h', cf = some (r, h') ∧ CH X v' h' ∧ FC X h h'
/-- reads and writes -/
def okT (v : CV) (r : Option Nat) : Option Nat := r.bind fun a => (cT v a).map fun _ => a
def okR (v : CV) (r : Option Nat) : Option Nat := r.bind fun a => (cR v a).map fun _ => a
def tI (v : CV) (k : Nat) (r : Option Nat) : Option Int32 := r.bind fun a => (cT v a).map fun t => t.1 k
def tL (v : CV) (r : Option Nat) : Option Int64 := r.bind fun a => (cT v a).map fun t => t.2.1
def gI (v : CV) (k : Nat) (r : Option Nat) : Option Int32 := r.bind fun a => (cR v a).map fun g => g.1 k
def gL (v : CV) (k : Nat) (r : Option Nat) : Option Int64 := r.bind fun a => (cR v a).map fun g => g.2.1 k
def gX (v : CV) (r : Option Nat) : Option (Option Nat) := r.bind fun a => (cR v a).map fun g => g.2.2
def inb {α : Type} (n : Nat) (i : Int32) (x : α) : Option α := if i < 0 ∨ n ≤ i.toNatClampNeg then none else some x
def rE (v : CV) (i : Int32) : Option (Option Nat) := inb 6 i (cE v i.toNatClampNeg)
def rS (v : CV) (i : Int32) : Option (Option Nat) := inb 64 i (cS v i.toNatClampNeg)
def rV (v : CV) (i : Int32) : Option Int64 := inb 8 i (cV v i.toNatClampNeg)
def rB (v : CV) (i : Int32) : Option Int32 := inb 8 i (cF v i.toNatClampNeg)
def rF (v : CV) (a : Nat) (i : Int32) : Option (Option Nat) := (cT v a).bind fun t => inb 8 i (t.2.2.1 i.toNatClampNeg)
def rC (v : CV) (a : Nat) (i : Int32) : Option Int32 := (cT v a).bind fun t => inb 8 i (t.2.2.2 i.toNatClampNeg)
def up {α : Type} (f : Nat → α) (k : Nat) (x : α) : Nat → α := fun q => if q = k then x else f q
def wD (v : CV) (k : Nat) (x : Int32) : CV := mkC (up (cD v) k x) (cV v) (cF v) (cE v) (cS v) (cT v) (cR v) (cZ v)
def sT (v : CV) (a : Nat) (t : TX) : CV := mkC (cD v) (cV v) (cF v) (cE v) (cS v) (up (cT v) a (some t)) (cR v) (cZ v)
def sR (v : CV) (a : Nat) (g : RX) : CV := mkC (cD v) (cV v) (cF v) (cE v) (cS v) (cT v) (up (cR v) a (some g)) (cZ v)
def wT (v : CV) (k : Nat) (r : Option Nat) (x : Int32) : Option CV := r.bind fun a => (cT v a).map fun t => sT v a (up t.1 k x, t.2)
def wTZ (v : CV) (r : Option Nat) (x : Int32) : Option CV := if x = 0 ∨ x = 1 then wT v 4 r x else none
def wTL (v : CV) (r : Option Nat) (x : Int64) : Option CV := r.bind fun a => (cT v a).map fun t => sT v a (t.1, x, t.2.2)
def wX (v : CV) (r x : Option Nat) : Option CV := r.bind fun a => (cR v a).map fun g => sR v a (g.1, g.2.1, x)
def rok (v : CV) (x : Option Nat) : Bool := match x with | none => true | some b => (cR v b).isSome
def tok (v : CV) (x : Option Nat) : Bool := match x with | none => true | some b => (cT v b).isSome
def wF (v : CV) (a : Nat) (i : Int32) (x : Option Nat) : Option CV := if rok v x = true then (cT v a).bind fun t => inb 8 i (sT v a (t.1, t.2.1, up t.2.2.1 i.toNatClampNeg x, t.2.2.2)) else none
def wC (v : CV) (a : Nat) (i x : Int32) : Option CV := (cT v a).bind fun t => inb 8 i (sT v a (t.1, t.2.1, t.2.2.1, up t.2.2.2 i.toNatClampNeg x))
def wE (v : CV) (i : Int32) (x : Option Nat) : Option CV := if tok v x = true then inb 6 i (mkC (cD v) (cV v) (cF v) (up (cE v) i.toNatClampNeg x) (cS v) (cT v) (cR v) (cZ v)) else none
def wL (v : CV) (i : Int32) (x : Option Nat) : Option CV := if tok v x = true then inb 64 i (mkC (cD v) (cV v) (cF v) (cE v) (up (cS v) i.toNatClampNeg x) (cT v) (cR v) (cZ v)) else none
def wV (v : CV) (i : Int32) (x : Int64) : Option CV := inb 8 i (mkC (cD v) (up (cV v) i.toNatClampNeg x) (cF v) (cE v) (cS v) (cT v) (cR v) (cZ v))
def wB (v : CV) (i x : Int32) : Option CV := if x = 0 ∨ x = 1 then inb 8 i (mkC (cD v) (cV v) (up (cF v) i.toNatClampNeg x) (cE v) (cS v) (cT v) (cR v) (cZ v)) else none
def grow (v : CV) (n m : Nat) : CV := mkC (cD v) (cV v) (cF v) (cE v) (cS v) (cT v) (cR v) ((cZ v).1 + n, (cZ v).2 + m)
def nOv {α : Type} (v : CV) (m : Nat) (K : Nat → CV → Option α) : Option α := K (cZ v).1 (grow v 1 m)
def addT (v : CV) (a : Nat) (x1 x2 x3 : Int32) : CV := grow (sT v a (fun k => if k = 0 then x1 else if k = 1 then x2 else if k = 2 then x3 else 0, 0, fun _ => none, fun _ => 0)) 2 16
def addR (v : CV) (a : Nat) (x1 : Int32) (x2 x4 : Int64) (x6 : Int32) : CV := sR v a (fun k => if k = 0 then x1 else x6, fun k => if k = 1 then x2 else x4, none)
def rZc (x : Int32) (v : CV) : Option (Int32 × CV) := if x = 0 ∨ x = 1 then some (x, v) else none
def bnC {α σ : Type} (c : Option (σ × CV)) (K : σ → CV → Option α) : Option α := c.bind fun q => K q.1 q.2
def bnCU {α : Type} (c : Option (Unit × CV)) (K : CV → Option α) : Option α := c.bind fun q => K q.2
theorem FC_rfl {X : Nat} {h : AH} : FC X h h := fun _ _ _ => rfl
theorem FC_trans {X : Nat} {h h1 h2 : AH} (a : FC X h h1) (b : FC X h1 h2) : FC X h h2 := fun q q1 q2 => (b q q1 q2).trans (a q q1 q2)
section C2R
variable {ρ : Type} {X : Nat} {h : AH} {v : CV} {cf : Option (ρ × AH)} {cg : Option (ρ × CV)}
theorem c2_ret {r : ρ} : C2 X h v (some (r, h)) (some (r, v)) := fun hc r' v' e => by
  cases e
  exact ⟨h, rfl, hc, FC_rfl⟩
theorem c2_none : C2 X h v cf (none : Option (ρ × CV)) := fun _ _ _ e => by cases e
theorem c2_rZ {x : Int32} : C2 X h v (rZ x h) (rZc x v) := fun hc r' v' e => by
  unfold rZc at e
  unfold rZ
  by_cases hx : x = 0 ∨ x = 1
  · rw [if_pos hx] at e ⊢
    cases e
    exact ⟨h, rfl, hc, FC_rfl⟩
  · rw [if_neg hx] at e
    cases e
theorem c2_if {P : Prop} [Decidable P] {c1 c2 : Option (ρ × AH)} {g1 g2 : Option (ρ × CV)} (a : C2 X h v c1 g1) (b : C2 X h v c2 g2) : C2 X h v (if P then c1 else c2) (if P then g1 else g2) := by
  by_cases hP : P
  · rw [if_pos hP, if_pos hP]; exact a
  · rw [if_neg hP, if_neg hP]; exact b
theorem c2_bnd {σ : Type} {c : Option (σ × AH)} {g : Option (σ × CV)} {K : σ → AH → Option (ρ × AH)} {Kg : σ → CV → Option (ρ × CV)} (hcall : C2 X h v c g) (a : ∀ x h1 v1, C2 X h1 v1 (K x h1) (Kg x v1)) : C2 X h v (bnd c K) (bnC g Kg) := fun hc r v' e => by
  obtain ⟨⟨x, v1⟩, hx, e⟩ := Option.bind_eq_some_iff.mp e
  obtain ⟨h1, e1, e2, e3⟩ := hcall hc x v1 hx
  obtain ⟨h2, g1, g2, g3⟩ := a x h1 v1 e2 r v' e
  exact ⟨h2, by rw [e1]; exact g1, g2, FC_trans e3 g3⟩
theorem c2_bndU {c : Option (Unit × AH)} {g : Option (Unit × CV)} {K : AH → Option (ρ × AH)} {Kg : CV → Option (ρ × CV)} (hcall : C2 X h v c g) (a : ∀ h1 v1, C2 X h1 v1 (K h1) (Kg v1)) : C2 X h v (bndU c K) (bnCU g Kg) := fun hc r v' e => by
  obtain ⟨⟨x, v1⟩, hx, e⟩ := Option.bind_eq_some_iff.mp e
  obtain ⟨h1, e1, e2, e3⟩ := hcall hc x v1 hx
  obtain ⟨h2, g1, g2, g3⟩ := a h1 v1 e2 r v' e
  exact ⟨h2, by rw [e1]; exact g1, g2, FC_trans e3 g3⟩
theorem c2_eq {α : Type} {c : Option α} {x : α} {K : α → Option (ρ × AH)} (e : CH X v h → c = some x) (a : C2 X h v (K x) cg) : C2 X h v (c.bind K) cg := fun hc => by
  rw [e hc]
  exact a hc
/-- a read that both sides make -/
theorem c2_rd {α β : Type} {c : Option α} {g : Option β} {K : α → Option (ρ × AH)} {Kg : β → Option (ρ × CV)} (f : β → α) (e : CH X v h → ∀ y, g = some y → c = some (f y)) (a : ∀ y, C2 X h v (K (f y)) (Kg y)) : C2 X h v (c.bind K) (g.bind Kg) := fun hc r v' hv => by
  obtain ⟨y, hy, hv⟩ := Option.bind_eq_some_iff.mp hv
  rw [e hc y hy]
  exact a y hc r v' hv
/-- a write that both sides make -/
theorem c2_wr {c : Option AH} {g : Option CV} {K : AH → Option (ρ × AH)} {Kg : CV → Option (ρ × CV)} (e : CH X v h → ∀ v1, g = some v1 → ∃ h1, c = some h1 ∧ CH X v1 h1 ∧ FC X h h1) (a : ∀ h1 v1, C2 X h1 v1 (K h1) (Kg v1)) : C2 X h v (c.bind K) (g.bind Kg) := fun hc r v' hv => by
  obtain ⟨v1, hy, hv⟩ := Option.bind_eq_some_iff.mp hv
  obtain ⟨h1, e1, e2, e3⟩ := e hc v1 hy
  rw [e1]
  obtain ⟨h2, g1, g2, g3⟩ := a h1 v1 e2 r v' hv
  exact ⟨h2, g1, g2, FC_trans e3 g3⟩
end C2R
