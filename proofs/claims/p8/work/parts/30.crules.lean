/-! THE CLASS COMES TO AN ANSWER: a typed heap (kinds of cells), and rules that walk the class's functions over it. X the desk, X+1 the version, X+2 values, X+3 filled, X+4 bySession, X+5 bySlot, X+6 .. X+25 the reference's cells, from X+26 on transactions (their arrays behind them) and ranges -/
abbrev KD : Type := Nat → Option (Nat ⊕ (Nat × Nat))
def kof (e : AE) : Nat ⊕ (Nat × Nat) := match e with
  | .inr o => .inl o.1
  | .inl x => .inr (x.1, x.2.1)
def kd (h : AH) : KD := fun q => (h.1 q).map kof
def okr (κ : KD) (bn : Nat) (r : Option Nat) : Prop := r = none ∨ ∃ b, r = some b ∧ b < bn ∧ κ b = some (.inl 0)
def okt (κ : KD) (r : Option Nat) : Prop := r = none ∨ ∃ b, r = some b ∧ κ b = some (.inl 1)
def txf (q : Nat) (i1 i2 i3 i4 i5 : Int32) (l : Int64) (i6 : Int32) : List Value := [.int i1, .int i2, .int i3, .int i4, .int i5, .long l, .int i6, .ref (q + 1), .ref (q + 2)]
def rgf (c : Int32) (lo hi : Int64) (bd : Int32) (r : Option Nat) : List Value := [.int c, .long lo, .long hi, .int bd, va_rf r]
def dkf (X : Nat) (k1 k2 k3 : Int32) : List Value := [.ref (X + 1), .ref (X + 4), .ref (X + 5), .int k1, .int k2, .int k3]
def okc (X w : Nat) (κ : KD) (q : Nat) (e : AE) : Prop :=
  (∀ fs, e = .inr (0, fs) → ∃ c lo hi bd r, fs = rgf c lo hi bd r ∧ okr κ q r) ∧
  (∀ fs, e = .inr (1, fs) → ∃ i1 i2 i3 i4 i5 l i6, fs = txf q i1 i2 i3 i4 i5 l i6 ∧ (i5 = 0 ∨ i5 = 1) ∧ κ (q + 1) = some (.inr (3, 8)) ∧ κ (q + 2) = some (.inr (4, 8))) ∧
  (∀ fs, e = .inr (2, fs) → fs = [.ref (X + 2), .ref (X + 3)]) ∧
  (∀ fs, e = .inr (3, fs) → ∃ k1 k2 k3, fs = dkf X k1 k2 k3) ∧
  (∀ n f, e = .inl (0, n, f) → ∃ g : Nat → Int64, f = fun i => .long (g i)) ∧
  (∀ n f, e = .inl (1, n, f) → ∃ g : Nat → Int32, (f = fun i => .int (g i)) ∧ ∀ i, g i = 0 ∨ g i = 1) ∧
  (∀ n f, e = .inl (2, n, f) → ∃ g : Nat → Option Nat, (f = fun i => va_rf (g i)) ∧ ∀ i, okt κ (g i)) ∧
  (∀ n f, e = .inl (3, n, f) → ∃ g : Nat → Option Nat, (f = fun i => va_rf (g i)) ∧ ∀ i, okr κ w (g i)) ∧
  (∀ n f, e = .inl (4, n, f) → ∃ g : Nat → Int32, f = fun i => .int (g i))
def CI (X w : Nat) (h : AH) : Prop :=
  (∀ q e, h.1 q = some e → (q < X + 6 ∨ X + 26 ≤ q) → okc X w (kd h) q e) ∧
  (kd h X = some (.inl 3) ∧ kd h (X + 1) = some (.inl 2) ∧ kd h (X + 2) = some (.inr (0, 8)) ∧ kd h (X + 3) = some (.inr (1, 8)) ∧ kd h (X + 4) = some (.inr (2, 6)) ∧ kd h (X + 5) = some (.inr (2, 64))) ∧
  (∀ q c, kd h q = some (.inl c) → c < 2 → X + 26 ≤ q) ∧ (∀ q, h.2.1 ≤ q → h.1 q = none) ∧ X + 26 ≤ h.2.1
def ST (X w : Nat) (κ : KD) (z : Nat × Nat) (mm : Nat → Option AE) (h : AH) : Prop := CI X w h ∧ kd h = κ ∧ h.2 = z ∧ ∀ q, X + 6 ≤ q → q ≤ X + 25 → h.1 q = mm q
def SO {ρ : Type} (X w : Nat) (κ : KD) (z : Nat × Nat) (mm : Nat → Option AE) (comp : Option (ρ × AH)) (Q : ρ → Prop) : Prop := ∃ r h', comp = some (r, h') ∧ ST X w κ z mm h' ∧ Q r
theorem kd_obj {h : AH} {a c : Nat} (hk : kd h a = some (.inl c)) : ∃ fs, h.1 a = some (.inr (c, fs)) := by
  unfold kd at hk
  cases hh : h.1 a with
  | none => rw [hh] at hk; cases hk
  | some e =>
    rw [hh] at hk
    cases e with
    | inl x => cases hk
    | inr o =>
      simp only [Option.map_some, kof, Option.some.injEq, Sum.inl.injEq] at hk
      exact ⟨o.2, by rw [← hk]⟩
theorem kd_arr {h : AH} {a t n : Nat} (hk : kd h a = some (.inr (t, n))) : ∃ f, h.1 a = some (.inl (t, n, f)) := by
  unfold kd at hk
  cases hh : h.1 a with
  | none => rw [hh] at hk; cases hk
  | some e =>
    rw [hh] at hk
    cases e with
    | inr o => cases hk
    | inl x =>
      simp only [Option.map_some, kof, Option.some.injEq, Sum.inr.injEq, Prod.mk.injEq] at hk
      obtain ⟨x1, x2, x3⟩ := x
      exact ⟨x3, by rw [← hk.1, ← hk.2]⟩
section CR
variable {ρ : Type} {X w : Nat} {κ : KD} {z : Nat × Nat} {mm : Nat → Option AE} {h : AH} {Q : ρ → Prop}
theorem st_put {p : Nat} {e0 e : AE} (hs : ST X w κ z mm h) (hp : h.1 p = some e0) (ha : p < X + 6 ∨ X + 26 ≤ p) (hk : kof e = kof e0) (ho : okc X w κ p e) : ST X w κ z mm (aput h p e) := by
  obtain ⟨⟨c1, c2, c3, c4, c5⟩, h2, h3, h4⟩ := hs
  have hkd : kd (aput h p e) = kd h := by
    funext q
    simp only [kd, aput]
    by_cases hq : q = p
    · subst hq
      rw [if_pos rfl, hp]
      simp [hk]
    · rw [if_neg hq]
  refine ⟨⟨fun q e' hq hr => ?_, by rw [hkd]; exact c2, by rw [hkd]; exact c3, fun q hq => ?_, c5⟩, hkd.trans h2, h3, fun q q1 q2 => ?_⟩
  · rw [hkd]
    simp only [aput] at hq
    by_cases e1 : q = p
    · rw [if_pos e1] at hq
      cases hq
      rw [e1, h2]
      exact ho
    · rw [if_neg e1] at hq
      exact c1 q e' hq hr
  · have : q ≠ p := fun e1 => by
      subst e1
      rw [c4 q hq] at hp
      cases hp
    simp only [aput]
    rw [if_neg this]
    exact c4 q hq
  · simp only [aput]
    rw [if_neg (by omega)]
    exact h4 q q1 q2
theorem so_ret {r : ρ} (hs : ST X w κ z mm h) (hq : Q r) : SO X w κ z mm (some (r, h)) Q := ⟨r, h, rfl, hs, hq⟩
theorem so_rZ {x : Int32} {Q : Int32 → Prop} (hs : ST X w κ z mm h) (hx : x = 0 ∨ x = 1) (hq : Q x) : SO X w κ z mm (rZ x h) Q := ⟨x, h, if_pos hx, hs, hq⟩
theorem so_if {P : Prop} [Decidable P] {a b : Option (ρ × AH)} (ht : P → SO X w κ z mm a Q) (hf : ¬ P → SO X w κ z mm b Q) : SO X w κ z mm (if P then a else b) Q := by
  by_cases hP : P
  · rw [if_pos hP]; exact ht hP
  · rw [if_neg hP]; exact hf hP
theorem so_bnd {σ : Type} {c : Option (σ × AH)} {K : σ → AH → Option (ρ × AH)} {Q1 : σ → Prop} (hc : SO X w κ z mm c Q1) (hk : ∀ r h1, ST X w κ z mm h1 → Q1 r → SO X w κ z mm (K r h1) Q) : SO X w κ z mm (bnd c K) Q := by
  obtain ⟨r, h1, e, s, q⟩ := hc
  unfold bnd
  rw [e]
  exact hk r h1 s q
theorem so_bndU {c : Option (Unit × AH)} {K : AH → Option (ρ × AH)} {Q1 : Unit → Prop} (hc : SO X w κ z mm c Q1) (hk : ∀ h1, ST X w κ z mm h1 → SO X w κ z mm (K h1) Q) : SO X w κ z mm (bndU c K) Q := by
  obtain ⟨r, h1, e, s, q⟩ := hc
  unfold bndU
  rw [e]
  exact hk h1 s
theorem so_imp {c : Option (ρ × AH)} {Q1 : ρ → Prop} (hc : SO X w κ z mm c Q1) (hk : ∀ r, Q1 r → Q r) : SO X w κ z mm c Q := by
  obtain ⟨r, h1, e, s, q⟩ := hc
  exact ⟨r, h1, e, s, hk r q⟩
theorem so_obj {a ci : Nat} (hs : ST X w κ z mm h) (ha : κ a = some (.inl ci)) : ∃ fs, h.1 a = some (.inr (ci, fs)) := kd_obj (by rw [hs.2.1]; exact ha)
theorem so_arr {a t n : Nat} (hs : ST X w κ z mm h) (ha : κ a = some (.inr (t, n))) : ∃ f, h.1 a = some (.inl (t, n, f)) := kd_arr (by rw [hs.2.1]; exact ha)
theorem so_rcv {a ci : Nat} {K : Nat → Option (ρ × AH)} (hs : ST X w κ z mm h) (ha : κ a = some (.inl ci)) (hk : SO X w κ z mm (K a) Q) : SO X w κ z mm (rcv h ci (some a) K) Q := by
  obtain ⟨fs, hf⟩ := so_obj hs ha
  unfold rcv
  simp only [gO, hf, if_true, Option.bind_some]
  exact hk
theorem gO_of {a ci : Nat} {fs : List Value} (hf : h.1 a = some (.inr (ci, fs))) : gO h ci (some a) = some (a, fs) := by simp [gO, hf]
theorem gA_of {a t n : Nat} {f : Nat → Value} (hf : h.1 a = some (.inl (t, n, f))) : gA h t (some a) = some (a, n, f) := by simp [gA, hf]
theorem so_gN {a t n : Nat} {K : Int32 → Option (ρ × AH)} (hs : ST X w κ z mm h) (ha : κ a = some (.inr (t, n))) (hk : SO X w κ z mm (K (nI n)) Q) : SO X w κ z mm ((gN h t (some a)).bind K) Q := by
  obtain ⟨f, hf⟩ := so_arr hs ha
  unfold gN
  rw [gA_of hf]
  exact hk
theorem st_X (hs : ST X w κ z mm h) : κ X = some (.inl 3) ∧ κ (X + 1) = some (.inl 2) ∧ κ (X + 2) = some (.inr (0, 8)) ∧ κ (X + 3) = some (.inr (1, 8)) ∧ κ (X + 4) = some (.inr (2, 6)) ∧ κ (X + 5) = some (.inr (2, 64)) := by
  have := hs.1.2.1
  rw [hs.2.1] at this
  exact this
theorem st_hi {a c : Nat} (hs : ST X w κ z mm h) (ha : κ a = some (.inl c)) (hc : c < 2) : X + 26 ≤ a := hs.1.2.2.1 a c (by rw [hs.2.1]; exact ha) hc
theorem st_ok {a : Nat} {e : AE} (hs : ST X w κ z mm h) (ha : h.1 a = some e) (hr : a < X + 6 ∨ X + 26 ≤ a) : okc X w κ a e := by
  have := hs.1.1 a e ha hr
  rw [hs.2.1] at this
  exact this
/-- the desk -/
theorem st_dk (hs : ST X w κ z mm h) : ∃ k1 k2 k3, h.1 X = some (.inr (3, dkf X k1 k2 k3)) := by
  obtain ⟨fs, hf⟩ := so_obj hs (st_X hs).1
  obtain ⟨k1, k2, k3, e⟩ := (st_ok hs hf (Or.inl (by omega))).2.2.2.1 fs rfl
  exact ⟨k1, k2, k3, by rw [hf, e]⟩
theorem so_dR0 {K : Option Nat → Option (ρ × AH)} (hs : ST X w κ z mm h) (hk : SO X w κ z mm (K (some (X + 1))) Q) : SO X w κ z mm ((fR h 3 0 (some X)).bind K) Q := by
  obtain ⟨k1, k2, k3, hf⟩ := st_dk hs
  simp only [fR, gF, gO_of hf, dkf, Option.bind_some, List.getElem?_cons_zero, vR]
  exact hk
theorem so_dR1 {K : Option Nat → Option (ρ × AH)} (hs : ST X w κ z mm h) (hk : SO X w κ z mm (K (some (X + 4))) Q) : SO X w κ z mm ((fR h 3 1 (some X)).bind K) Q := by
  obtain ⟨k1, k2, k3, hf⟩ := st_dk hs
  simp only [fR, gF, gO_of hf, dkf, Option.bind_some, List.getElem?_cons_succ, List.getElem?_cons_zero, vR]
  exact hk
theorem so_dR2 {K : Option Nat → Option (ρ × AH)} (hs : ST X w κ z mm h) (hk : SO X w κ z mm (K (some (X + 5))) Q) : SO X w κ z mm ((fR h 3 2 (some X)).bind K) Q := by
  obtain ⟨k1, k2, k3, hf⟩ := st_dk hs
  simp only [fR, gF, gO_of hf, dkf, Option.bind_some, List.getElem?_cons_succ, List.getElem?_cons_zero, vR]
  exact hk
theorem so_dI {k : Nat} {K : Int32 → Option (ρ × AH)} (hs : ST X w κ z mm h) (h3 : k = 3 ∨ k = 4 ∨ k = 5) (hk : ∀ x, SO X w κ z mm (K x) Q) : SO X w κ z mm ((fI h 3 k (some X)).bind K) Q := by
  obtain ⟨k1, k2, k3, hf⟩ := st_dk hs
  rcases h3 with rfl | rfl | rfl <;> (simp only [fI, gF, gO_of hf, dkf, Option.bind_some, List.getElem?_cons_succ, List.getElem?_cons_zero, vI]; exact hk _)
theorem so_dP {k : Nat} {x : Int32} {K : AH → Option (ρ × AH)} (hs : ST X w κ z mm h) (h3 : k = 3 ∨ k = 4 ∨ k = 5) (hk : ∀ h1, ST X w κ z mm h1 → SO X w κ z mm (K h1) Q) : SO X w κ z mm ((pF h 3 k (some X) (.int x)).bind K) Q := by
  obtain ⟨k1, k2, k3, hf⟩ := st_dk hs
  have go : ∀ k1 k2 k3, ST X w κ z mm (aput h X (.inr (3, dkf X k1 k2 k3))) := fun k1 k2 k3 => st_put hs hf (Or.inl (by omega)) rfl ⟨fun _ h => (by cases h), fun _ h => (by cases h), fun _ h => (by cases h), fun _ h => (by cases h; exact ⟨_, _, _, rfl⟩), fun _ _ h => (by cases h), fun _ _ h => (by cases h), fun _ _ h => (by cases h), fun _ _ h => (by cases h), fun _ _ h => (by cases h)⟩
  rcases h3 with rfl | rfl | rfl
  · simp only [pF, gO_of hf, Option.bind_some]
    exact hk _ (go x k2 k3)
  · simp only [pF, gO_of hf, Option.bind_some]
    exact hk _ (go k1 x k3)
  · simp only [pF, gO_of hf, Option.bind_some]
    exact hk _ (go k1 k2 x)
/-- the version -/
theorem st_vr (hs : ST X w κ z mm h) : h.1 (X + 1) = some (.inr (2, [.ref (X + 2), .ref (X + 3)])) := by
  obtain ⟨fs, hf⟩ := so_obj hs (st_X hs).2.1
  have e := (st_ok hs hf (Or.inl (by omega))).2.2.1 fs rfl
  rw [hf, e]
theorem so_vR0 {K : Option Nat → Option (ρ × AH)} (hs : ST X w κ z mm h) (hk : SO X w κ z mm (K (some (X + 2))) Q) : SO X w κ z mm ((fR h 2 0 (some (X + 1))).bind K) Q := by
  simp only [fR, gF, gO_of (st_vr hs), Option.bind_some, List.getElem?_cons_zero, vR]
  exact hk
theorem so_vR1 {K : Option Nat → Option (ρ × AH)} (hs : ST X w κ z mm h) (hk : SO X w κ z mm (K (some (X + 3))) Q) : SO X w κ z mm ((fR h 2 1 (some (X + 1))).bind K) Q := by
  simp only [fR, gF, gO_of (st_vr hs), Option.bind_some, List.getElem?_cons_succ, List.getElem?_cons_zero, vR]
  exact hk
theorem ix_in {j n : Nat} (hj : j < n) (hn : n ≤ 64) : ¬ (nI j < 0 ∨ n ≤ (nI j).toNatClampNeg) := by
  rw [nI_clamp (by omega)]
  rintro (q | q)
  · exact nI_pos (by omega) q
  · omega
/-- elements -/
theorem gE_of {a t n j : Nat} {f : Nat → Value} (hf : h.1 a = some (.inl (t, n, f))) (hj : j < n) (hn : n ≤ 64) : gE h t (some a) (nI j) = some (f j) := by
  unfold gE
  rw [gA_of hf]
  simp only [Option.bind_some]
  rw [if_neg (ix_in hj hn), nI_clamp (by omega)]
theorem pE_of {a t n j : Nat} {f : Nat → Value} {v : Value} (hf : h.1 a = some (.inl (t, n, f))) (hj : j < n) (hn : n ≤ 64) : pE h t (some a) (nI j) v = some (aput h a (.inl (t, n, updV f j v))) := by
  unfold pE
  rw [gA_of hf]
  simp only [Option.bind_some]
  rw [if_neg (ix_in hj hn), nI_clamp (by omega)]
theorem so_lL0 {j : Nat} {K : Int64 → Option (ρ × AH)} (hs : ST X w κ z mm h) (hj : j < 8) (hk : ∀ x, SO X w κ z mm (K x) Q) : SO X w κ z mm ((lL h 0 (some (X + 2)) (nI j)).bind K) Q := by
  obtain ⟨f, hf⟩ := so_arr hs (st_X hs).2.2.1
  obtain ⟨g, rfl⟩ := (st_ok hs hf (Or.inl (by omega))).2.2.2.2.1 8 f rfl
  unfold lL
  rw [gE_of hf hj (by omega)]
  exact hk _
theorem so_lI1 {j : Nat} {K : Int32 → Option (ρ × AH)} (hs : ST X w κ z mm h) (hj : j < 8) (hk : ∀ x, SO X w κ z mm (K x) Q) : SO X w κ z mm ((lI h 1 (some (X + 3)) (nI j)).bind K) Q := by
  obtain ⟨f, hf⟩ := so_arr hs (st_X hs).2.2.2.1
  obtain ⟨g, rfl, -⟩ := (st_ok hs hf (Or.inl (by omega))).2.2.2.2.2.1 8 f rfl
  unfold lI
  rw [gE_of hf hj (by omega)]
  exact hk _
theorem so_pE0 {j : Nat} {x : Int64} {K : AH → Option (ρ × AH)} (hs : ST X w κ z mm h) (hj : j < 8) (hk : ∀ h1, ST X w κ z mm h1 → SO X w κ z mm (K h1) Q) : SO X w κ z mm ((pE h 0 (some (X + 2)) (nI j) (.long x)).bind K) Q := by
  obtain ⟨f, hf⟩ := so_arr hs (st_X hs).2.2.1
  obtain ⟨g, rfl⟩ := (st_ok hs hf (Or.inl (by omega))).2.2.2.2.1 8 f rfl
  rw [pE_of hf hj (by omega)]
  refine hk _ (st_put hs hf (Or.inl (by omega)) rfl ⟨fun _ h => (by cases h), fun _ h => (by cases h), fun _ h => (by cases h), fun _ h => (by cases h), fun _ _ h => ?_, fun _ _ h => (by cases h), fun _ _ h => (by cases h), fun _ _ h => (by cases h), fun _ _ h => (by cases h)⟩)
  cases h
  exact ⟨fun i => if i = j then x else g i, by funext i; by_cases e : i = j <;> simp [updV, e]⟩
theorem so_qE1 {j : Nat} {x : Int32} {K : AH → Option (ρ × AH)} (hs : ST X w κ z mm h) (hj : j < 8) (hx : x = 0 ∨ x = 1) (hk : ∀ h1, ST X w κ z mm h1 → SO X w κ z mm (K h1) Q) : SO X w κ z mm ((qE h 1 (some (X + 3)) (nI j) x).bind K) Q := by
  obtain ⟨f, hf⟩ := so_arr hs (st_X hs).2.2.2.1
  obtain ⟨g, rfl, hg⟩ := (st_ok hs hf (Or.inl (by omega))).2.2.2.2.2.1 8 f rfl
  rw [show qE h 1 (some (X + 3)) (nI j) x = pE h 1 (some (X + 3)) (nI j) (.int x) from if_pos hx, pE_of hf hj (by omega)]
  refine hk _ (st_put hs hf (Or.inl (by omega)) rfl ⟨fun _ h => (by cases h), fun _ h => (by cases h), fun _ h => (by cases h), fun _ h => (by cases h), fun _ _ h => (by cases h), fun _ _ h => ?_, fun _ _ h => (by cases h), fun _ _ h => (by cases h), fun _ _ h => (by cases h)⟩)
  cases h
  refine ⟨fun i => if i = j then x else g i, by funext i; by_cases e : i = j <;> simp [updV, e], fun i => ?_⟩
  by_cases e : i = j
  · simp only [if_pos e]; exact hx
  · simp only [if_neg e]; exact hg i
theorem vR_rf (r : Option Nat) : vR (va_rf r) = some r := by cases r <;> rfl
theorem so_lR2 {a n j : Nat} {K : Option Nat → Option (ρ × AH)} (hs : ST X w κ z mm h) (ha : κ a = some (.inr (2, n))) (hx : a < X + 6) (hj : j < n) (hn : n ≤ 64) (hk : ∀ r, okt κ r → SO X w κ z mm (K r) Q) : SO X w κ z mm ((lR h 2 (some a) (nI j)).bind K) Q := by
  obtain ⟨f, hf⟩ := so_arr hs ha
  obtain ⟨g, rfl, hg⟩ := (st_ok hs hf (Or.inl (by omega))).2.2.2.2.2.2.1 n f rfl
  unfold lR
  rw [gE_of hf hj hn, Option.bind_some, vR_rf]
  exact hk _ (hg j)
theorem so_qR2 {a n j : Nat} {r : Option Nat} {K : AH → Option (ρ × AH)} (hs : ST X w κ z mm h) (ha : κ a = some (.inr (2, n))) (hx : a < X + 6) (hj : j < n) (hn : n ≤ 64) (hr : okt κ r) (hk : ∀ h1, ST X w κ z mm h1 → SO X w κ z mm (K h1) Q) : SO X w κ z mm ((qR h 2 1 (some a) (nI j) r).bind K) Q := by
  obtain ⟨f, hf⟩ := so_arr hs ha
  obtain ⟨g, rfl, hg⟩ := (st_ok hs hf (Or.inl (by omega))).2.2.2.2.2.2.1 n f rfl
  have e : qR h 2 1 (some a) (nI j) r = some (aput h a (.inl (2, n, updV (fun i => va_rf (g i)) j (va_rf r)))) := by
    obtain rfl | ⟨b, rfl, hb⟩ := hr
    · exact pE_of hf hj hn
    · obtain ⟨fs, hb⟩ := so_obj hs hb
      show (gO h 1 (some b)).bind (fun _ => pE h 2 (some a) (nI j) (Value.ref b)) = _
      rw [gO_of hb]
      exact pE_of hf hj hn
  rw [e]
  refine hk _ (st_put hs hf (Or.inl (by omega)) rfl ⟨fun _ h => (by cases h), fun _ h => (by cases h), fun _ h => (by cases h), fun _ h => (by cases h), fun _ _ h => (by cases h), fun _ _ h => (by cases h), fun _ _ h => ?_, fun _ _ h => (by cases h), fun _ _ h => (by cases h)⟩)
  cases h
  refine ⟨fun i => if i = j then r else g i, by funext i; by_cases e : i = j <;> simp [updV, e], fun i => ?_⟩
  by_cases e : i = j
  · simp only [if_pos e]; exact hr
  · simp only [if_neg e]; exact hg i
/-- a transaction -/
theorem st_tx {a : Nat} (hs : ST X w κ z mm h) (ha : κ a = some (.inl 1)) : ∃ i1 i2 i3 i4 i5 l i6, h.1 a = some (.inr (1, txf a i1 i2 i3 i4 i5 l i6)) ∧ (i5 = 0 ∨ i5 = 1) ∧ κ (a + 1) = some (.inr (3, 8)) ∧ κ (a + 2) = some (.inr (4, 8)) ∧ X + 26 ≤ a := by
  obtain ⟨fs, hf⟩ := so_obj hs ha
  have hx := st_hi hs ha (by omega)
  obtain ⟨i1, i2, i3, i4, i5, l, i6, e, q1, q2, q3⟩ := (st_ok hs hf (Or.inr hx)).2.1 fs rfl
  exact ⟨i1, i2, i3, i4, i5, l, i6, by rw [hf, e], q1, q2, q3, hx⟩
theorem so_tI {a k : Nat} {K : Int32 → Option (ρ × AH)} (hs : ST X w κ z mm h) (ha : κ a = some (.inl 1)) (hkk : k = 0 ∨ k = 1 ∨ k = 2 ∨ k = 3 ∨ k = 6) (hk : ∀ x, SO X w κ z mm (K x) Q) : SO X w κ z mm ((fI h 1 k (some a)).bind K) Q := by
  obtain ⟨i1, i2, i3, i4, i5, l, i6, hf, -⟩ := st_tx hs ha
  rcases hkk with rfl | rfl | rfl | rfl | rfl <;> (simp only [fI, gF, gO_of hf, txf, Option.bind_some, List.getElem?_cons_succ, List.getElem?_cons_zero, vI]; exact hk _)
theorem so_tZ {a : Nat} {K : Int32 → Option (ρ × AH)} (hs : ST X w κ z mm h) (ha : κ a = some (.inl 1)) (hk : ∀ x, (x = 0 ∨ x = 1) → SO X w κ z mm (K x) Q) : SO X w κ z mm ((fI h 1 4 (some a)).bind K) Q := by
  obtain ⟨i1, i2, i3, i4, i5, l, i6, hf, h5, -⟩ := st_tx hs ha
  simp only [fI, gF, gO_of hf, txf, Option.bind_some, List.getElem?_cons_succ, List.getElem?_cons_zero, vI]
  exact hk _ h5
theorem so_tL {a : Nat} {K : Int64 → Option (ρ × AH)} (hs : ST X w κ z mm h) (ha : κ a = some (.inl 1)) (hk : ∀ x, SO X w κ z mm (K x) Q) : SO X w κ z mm ((fL h 1 5 (some a)).bind K) Q := by
  obtain ⟨i1, i2, i3, i4, i5, l, i6, hf, h5, -⟩ := st_tx hs ha
  simp only [fL, gF, gO_of hf, txf, Option.bind_some, List.getElem?_cons_succ, List.getElem?_cons_zero, vL]
  exact hk _
theorem so_tR7 {a : Nat} {K : Option Nat → Option (ρ × AH)} (hs : ST X w κ z mm h) (ha : κ a = some (.inl 1)) (hk : SO X w κ z mm (K (some (a + 1))) Q) : SO X w κ z mm ((fR h 1 7 (some a)).bind K) Q := by
  obtain ⟨i1, i2, i3, i4, i5, l, i6, hf, h5, -⟩ := st_tx hs ha
  simp only [fR, gF, gO_of hf, txf, Option.bind_some, List.getElem?_cons_succ, List.getElem?_cons_zero, vR]
  exact hk
theorem so_tR8 {a : Nat} {K : Option Nat → Option (ρ × AH)} (hs : ST X w κ z mm h) (ha : κ a = some (.inl 1)) (hk : SO X w κ z mm (K (some (a + 2))) Q) : SO X w κ z mm ((fR h 1 8 (some a)).bind K) Q := by
  obtain ⟨i1, i2, i3, i4, i5, l, i6, hf, h5, -⟩ := st_tx hs ha
  simp only [fR, gF, gO_of hf, txf, Option.bind_some, List.getElem?_cons_succ, List.getElem?_cons_zero, vR]
  exact hk
theorem st_tput {a : Nat} {fs : List Value} (hs : ST X w κ z mm h) (ha : κ a = some (.inl 1)) (hf : ∃ i1 i2 i3 i4 i5 l i6, fs = txf a i1 i2 i3 i4 i5 l i6 ∧ (i5 = 0 ∨ i5 = 1)) : ST X w κ z mm (aput h a (.inr (1, fs))) := by
  obtain ⟨j1, j2, j3, j4, j5, m, j6, hg, h5, q1, q2, q3⟩ := st_tx hs ha
  refine st_put hs hg (Or.inr q3) rfl ⟨fun _ h => (by cases h), fun _ h => ?_, fun _ h => (by cases h), fun _ h => (by cases h), fun _ _ h => (by cases h), fun _ _ h => (by cases h), fun _ _ h => (by cases h), fun _ _ h => (by cases h), fun _ _ h => (by cases h)⟩
  cases h
  obtain ⟨i1, i2, i3, i4, i5, l, i6, e, p⟩ := hf
  exact ⟨i1, i2, i3, i4, i5, l, i6, e, p, q1, q2⟩
theorem so_tP {a k : Nat} {x : Int32} {K : AH → Option (ρ × AH)} (hs : ST X w κ z mm h) (ha : κ a = some (.inl 1)) (hkk : k = 3 ∨ k = 6) (hk : ∀ h1, ST X w κ z mm h1 → SO X w κ z mm (K h1) Q) : SO X w κ z mm ((pF h 1 k (some a) (.int x)).bind K) Q := by
  obtain ⟨i1, i2, i3, i4, i5, l, i6, hf, h5, -⟩ := st_tx hs ha
  rcases hkk with rfl | rfl
  · simp only [pF, gO_of hf, Option.bind_some]
    exact hk _ (st_tput hs ha ⟨i1, i2, i3, x, i5, l, i6, rfl, h5⟩)
  · simp only [pF, gO_of hf, Option.bind_some]
    exact hk _ (st_tput hs ha ⟨i1, i2, i3, i4, i5, l, x, rfl, h5⟩)
theorem so_tPZ {a : Nat} {x : Int32} {K : AH → Option (ρ × AH)} (hs : ST X w κ z mm h) (ha : κ a = some (.inl 1)) (hx : x = 0 ∨ x = 1) (hk : ∀ h1, ST X w κ z mm h1 → SO X w κ z mm (K h1) Q) : SO X w κ z mm ((pZ h 1 4 (some a) x).bind K) Q := by
  obtain ⟨i1, i2, i3, i4, i5, l, i6, hf, h5, -⟩ := st_tx hs ha
  rw [show pZ h 1 4 (some a) x = pF h 1 4 (some a) (.int x) from if_pos hx]
  simp only [pF, gO_of hf, Option.bind_some]
  exact hk _ (st_tput hs ha ⟨i1, i2, i3, i4, x, l, i6, rfl, hx⟩)
theorem so_tPL {a : Nat} {x : Int64} {K : AH → Option (ρ × AH)} (hs : ST X w κ z mm h) (ha : κ a = some (.inl 1)) (hk : ∀ h1, ST X w κ z mm h1 → SO X w κ z mm (K h1) Q) : SO X w κ z mm ((pF h 1 5 (some a) (.long x)).bind K) Q := by
  obtain ⟨i1, i2, i3, i4, i5, l, i6, hf, h5, -⟩ := st_tx hs ha
  simp only [pF, gO_of hf, Option.bind_some]
  exact hk _ (st_tput hs ha ⟨i1, i2, i3, i4, i5, x, i6, rfl, h5⟩)
theorem so_lR3 {a j : Nat} {K : Option Nat → Option (ρ × AH)} (hs : ST X w κ z mm h) (ha : κ a = some (.inl 1)) (hj : j < 8) (hk : ∀ r, okr κ w r → SO X w κ z mm (K r) Q) : SO X w κ z mm ((lR h 3 (some (a + 1)) (nI j)).bind K) Q := by
  obtain ⟨i1, i2, i3, i4, i5, l, i6, -, -, q1, q2, q3⟩ := st_tx hs ha
  obtain ⟨f, hf⟩ := so_arr hs q1
  obtain ⟨g, rfl, hg⟩ := (st_ok hs hf (Or.inr (by omega))).2.2.2.2.2.2.2.1 8 f rfl
  unfold lR
  rw [gE_of hf hj (by omega), Option.bind_some, vR_rf]
  exact hk _ (hg j)
theorem so_lI4 {a j : Nat} {K : Int32 → Option (ρ × AH)} (hs : ST X w κ z mm h) (ha : κ a = some (.inl 1)) (hj : j < 8) (hk : ∀ x, SO X w κ z mm (K x) Q) : SO X w κ z mm ((lI h 4 (some (a + 2)) (nI j)).bind K) Q := by
  obtain ⟨i1, i2, i3, i4, i5, l, i6, -, -, q1, q2, q3⟩ := st_tx hs ha
  obtain ⟨f, hf⟩ := so_arr hs q2
  obtain ⟨g, rfl⟩ := (st_ok hs hf (Or.inr (by omega))).2.2.2.2.2.2.2.2 8 f rfl
  unfold lI
  rw [gE_of hf hj (by omega)]
  exact hk _
theorem so_pE4 {a j : Nat} {x : Int32} {K : AH → Option (ρ × AH)} (hs : ST X w κ z mm h) (ha : κ a = some (.inl 1)) (hj : j < 8) (hk : ∀ h1, ST X w κ z mm h1 → SO X w κ z mm (K h1) Q) : SO X w κ z mm ((pE h 4 (some (a + 2)) (nI j) (.int x)).bind K) Q := by
  obtain ⟨i1, i2, i3, i4, i5, l, i6, -, -, q1, q2, q3⟩ := st_tx hs ha
  obtain ⟨f, hf⟩ := so_arr hs q2
  obtain ⟨g, rfl⟩ := (st_ok hs hf (Or.inr (by omega))).2.2.2.2.2.2.2.2 8 f rfl
  rw [pE_of hf hj (by omega)]
  refine hk _ (st_put hs hf (Or.inr (by omega)) rfl ⟨fun _ h => (by cases h), fun _ h => (by cases h), fun _ h => (by cases h), fun _ h => (by cases h), fun _ _ h => (by cases h), fun _ _ h => (by cases h), fun _ _ h => (by cases h), fun _ _ h => (by cases h), fun _ _ h => ?_⟩)
  cases h
  exact ⟨fun i => if i = j then x else g i, by funext i; by_cases e : i = j <;> simp [updV, e]⟩
theorem so_qR3 {a j : Nat} {r : Option Nat} {K : AH → Option (ρ × AH)} (hs : ST X w κ z mm h) (ha : κ a = some (.inl 1)) (hj : j < 8) (hr : okr κ w r) (hk : ∀ h1, ST X w κ z mm h1 → SO X w κ z mm (K h1) Q) : SO X w κ z mm ((qR h 3 0 (some (a + 1)) (nI j) r).bind K) Q := by
  obtain ⟨i1, i2, i3, i4, i5, l, i6, -, -, q1, q2, q3⟩ := st_tx hs ha
  obtain ⟨f, hf⟩ := so_arr hs q1
  obtain ⟨g, rfl, hg⟩ := (st_ok hs hf (Or.inr (by omega))).2.2.2.2.2.2.2.1 8 f rfl
  have e : qR h 3 0 (some (a + 1)) (nI j) r = some (aput h (a + 1) (.inl (3, 8, updV (fun i => va_rf (g i)) j (va_rf r)))) := by
    obtain rfl | ⟨b, rfl, -, hb⟩ := hr
    · exact pE_of hf hj (by omega)
    · obtain ⟨fs, hb⟩ := so_obj hs hb
      show (gO h 0 (some b)).bind (fun _ => pE h 3 (some (a + 1)) (nI j) (Value.ref b)) = _
      rw [gO_of hb]
      exact pE_of hf hj (by omega)
  rw [e]
  refine hk _ (st_put hs hf (Or.inr (by omega)) rfl ⟨fun _ h => (by cases h), fun _ h => (by cases h), fun _ h => (by cases h), fun _ h => (by cases h), fun _ _ h => (by cases h), fun _ _ h => (by cases h), fun _ _ h => (by cases h), fun _ _ h => ?_, fun _ _ h => (by cases h)⟩)
  cases h
  refine ⟨fun i => if i = j then r else g i, by funext i; by_cases e : i = j <;> simp [updV, e], fun i => ?_⟩
  by_cases e : i = j
  · simp only [if_pos e]; exact hr
  · simp only [if_neg e]; exact hg i
/-- a range -/
theorem st_rg {b : Nat} (hs : ST X w κ z mm h) (hb : κ b = some (.inl 0)) : ∃ c lo hi bd r, h.1 b = some (.inr (0, rgf c lo hi bd r)) ∧ okr κ b r ∧ X + 26 ≤ b := by
  obtain ⟨fs, hf⟩ := so_obj hs hb
  have hx := st_hi hs hb (by omega)
  obtain ⟨c, lo, hi, bd, r, e, q⟩ := (st_ok hs hf (Or.inr hx)).1 fs rfl
  exact ⟨c, lo, hi, bd, r, by rw [hf, e], q, hx⟩
theorem so_rI {b k : Nat} {K : Int32 → Option (ρ × AH)} (hs : ST X w κ z mm h) (hb : κ b = some (.inl 0)) (hkk : k = 0 ∨ k = 3) (hk : ∀ x, SO X w κ z mm (K x) Q) : SO X w κ z mm ((fI h 0 k (some b)).bind K) Q := by
  obtain ⟨c, lo, hi, bd, r, hf, -⟩ := st_rg hs hb
  rcases hkk with rfl | rfl <;> (simp only [fI, gF, gO_of hf, rgf, Option.bind_some, List.getElem?_cons_succ, List.getElem?_cons_zero, vI]; exact hk _)
theorem so_rL {b k : Nat} {K : Int64 → Option (ρ × AH)} (hs : ST X w κ z mm h) (hb : κ b = some (.inl 0)) (hkk : k = 1 ∨ k = 2) (hk : ∀ x, SO X w κ z mm (K x) Q) : SO X w κ z mm ((fL h 0 k (some b)).bind K) Q := by
  obtain ⟨c, lo, hi, bd, r, hf, -⟩ := st_rg hs hb
  rcases hkk with rfl | rfl <;> (simp only [fL, gF, gO_of hf, rgf, Option.bind_some, List.getElem?_cons_succ, List.getElem?_cons_zero, vL]; exact hk _)
theorem so_rR {b : Nat} {K : Option Nat → Option (ρ × AH)} (hs : ST X w κ z mm h) (hb : κ b = some (.inl 0)) (hk : ∀ r, okr κ b r → SO X w κ z mm (K r) Q) : SO X w κ z mm ((fR h 0 4 (some b)).bind K) Q := by
  obtain ⟨c, lo, hi, bd, r, hf, hr, -⟩ := st_rg hs hb
  simp only [fR, gF, gO_of hf, rgf, Option.bind_some, List.getElem?_cons_succ, List.getElem?_cons_zero, vR_rf]
  exact hk _ hr
theorem so_rP {b : Nat} {r : Option Nat} {K : AH → Option (ρ × AH)} (hs : ST X w κ z mm h) (hb : κ b = some (.inl 0)) (hr : okr κ b r) (hk : ∀ h1, ST X w κ z mm h1 → SO X w κ z mm (K h1) Q) : SO X w κ z mm ((pF h 0 4 (some b) (va_rf r)).bind K) Q := by
  obtain ⟨c, lo, hi, bd, r0, hf, -, hx⟩ := st_rg hs hb
  simp only [pF, gO_of hf, Option.bind_some]
  refine hk _ (st_put hs hf (Or.inr hx) rfl ⟨fun _ h => ?_, fun _ h => (by cases h), fun _ h => (by cases h), fun _ h => (by cases h), fun _ _ h => (by cases h), fun _ _ h => (by cases h), fun _ _ h => (by cases h), fun _ _ h => (by cases h), fun _ _ h => (by cases h)⟩)
  cases h
  exact ⟨c, lo, hi, bd, r, rfl, hr⟩
end CR
