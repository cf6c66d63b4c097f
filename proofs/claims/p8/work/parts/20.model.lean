/-! THE REFERENCE WITHOUT A HEAP: its three numbers, its int and boolean arrays, its long arrays (1 id, 2 session, 3 since, 4 place, 5 doomed, 6 least, 7 arrows, 8 ranges, 9 columns, 10 bounds, 11 lows, 12 highs, 13 sinceOf, 14 commitOf, 15 ever, 16 met, 17 row, 18 has, 19 cells) -/
abbrev MS : Type := (Nat → Int32) × (Nat → Nat → Int32) × (Nat → Nat → Int64)
def mT (d : Nat) : Nat := if d = 11 ∨ d = 12 ∨ d = 15 ∨ d = 19 then 0 else if d = 5 ∨ d = 7 ∨ d = 16 ∨ d = 18 then 1 else 4
def mN (d : Nat) : Nat := if d ≤ 6 then 64 else if d = 7 then 4096 else if d = 8 then 512 else if d ≤ 12 then 4096 else if d ≤ 14 then 520 else if d = 15 then 4680 else if d ≤ 17 then 520 else 8
def mval (m : MS) (d : Nat) : Nat → Value := fun i => if mT d = 0 then .long (m.2.2 d i) else .int (m.2.1 d i)
def mobj (M : Nat) (m : MS) : List Value := [.int (m.1 0), .int (m.1 1), .int (m.1 2), .ref (M + 1), .ref (M + 2), .ref (M + 3), .ref (M + 4), .ref (M + 5), .ref (M + 6), .ref (M + 7), .ref (M + 8), .ref (M + 9), .ref (M + 10), .ref (M + 11), .ref (M + 12), .ref (M + 13), .ref (M + 14), .ref (M + 15), .ref (M + 16), .ref (M + 17), .ref (M + 18), .ref (M + 19)]
def MH (M : Nat) (m : MS) (h : AH) : Prop := h.1 M = some (.inr (4, mobj M m)) ∧ ∀ d, 1 ≤ d → d ≤ 19 → h.1 (M + d) = some (.inl (mT d, mN d, mval m d))
/-- nothing but the reference's own cells has changed -/
def Fr (M : Nat) (h h' : AH) : Prop := (∀ q, (q < M ∨ M + 19 < q) → h'.1 q = h.1 q) ∧ h'.2 = h.2
theorem Fr_rfl {M : Nat} {h : AH} : Fr M h h := ⟨fun _ _ => rfl, rfl⟩
theorem Fr_trans {M : Nat} {h h1 h2 : AH} (a : Fr M h h1) (b : Fr M h1 h2) : Fr M h h2 := ⟨fun q hq => (b.1 q hq).trans (a.1 q hq), b.2.trans a.2⟩
def wS (m : MS) (k : Nat) (x : Int32) : MS := (fun q => if q = k then x else m.1 q, m.2)
def sI (m : MS) (d i : Nat) (x : Int32) : MS := (m.1, (fun q => if q = d then fun j => if j = i then x else m.2.1 d j else m.2.1 q), m.2.2)
def sJ (m : MS) (d i : Nat) (x : Int64) : MS := (m.1, m.2.1, fun q => if q = d then fun j => if j = i then x else m.2.2 d j else m.2.2 q)
def rI (m : MS) (d : Nat) (i : Int32) : Option Int32 := if i < 0 ∨ mN d ≤ i.toNatClampNeg then none else some (m.2.1 d i.toNatClampNeg)
def rJ (m : MS) (d : Nat) (i : Int32) : Option Int64 := if i < 0 ∨ mN d ≤ i.toNatClampNeg then none else some (m.2.2 d i.toNatClampNeg)
def wI (m : MS) (d : Nat) (i x : Int32) : Option MS := if i < 0 ∨ mN d ≤ i.toNatClampNeg then none else some (sI m d i.toNatClampNeg x)
def wZ (m : MS) (d : Nat) (i x : Int32) : Option MS := if x = 0 ∨ x = 1 then wI m d i x else none
def wJ (m : MS) (d : Nat) (i : Int32) (x : Int64) : Option MS := if i < 0 ∨ mN d ≤ i.toNatClampNeg then none else some (sJ m d i.toNatClampNeg x)
def rZm (x : Int32) (m : MS) : Option (Int32 × MS) := if x = 0 ∨ x = 1 then some (x, m) else none
def bnM {α σ : Type} (c : Option (σ × MS)) (K : σ → MS → Option α) : Option α := c.bind fun q => K q.1 q.2
def bnMU {α : Type} (c : Option (Unit × MS)) (K : MS → Option α) : Option α := c.bind fun q => K q.2
def M2 {ρ : Type} (M : Nat) (h : AH) (m : MS) (cf : Option (ρ × AH)) (cg : Option (ρ × MS)) : Prop := MH M m h → ∀ (r : ρ) (m' : MS), cg = some (r, m') → ∃ h', cf = some (r, h') ∧ MH M m' h' ∧ Fr M h h'
section M2R
variable {ρ : Type} {M : Nat} {h : AH} {m : MS} {cf : Option (ρ × AH)} {cg : Option (ρ × MS)}
theorem m2_ret {r : ρ} : M2 M h m (some (r, h)) (some (r, m)) := fun hM r' m' hc => by
  cases hc
  exact ⟨h, rfl, hM, Fr_rfl⟩
theorem m2_rZ {x : Int32} : M2 M h m (rZ x h) (rZm x m) := fun hM r' m' hc => by
  unfold rZm at hc
  unfold rZ
  by_cases hx : x = 0 ∨ x = 1
  · rw [if_pos hx] at hc ⊢
    cases hc
    exact ⟨h, rfl, hM, Fr_rfl⟩
  · rw [if_neg hx] at hc
    cases hc
theorem m2_none : M2 M h m cf (none : Option (ρ × MS)) := fun _ _ _ hc => by cases hc
theorem m2_if {P : Prop} [Decidable P] {c1 c2 : Option (ρ × AH)} {g1 g2 : Option (ρ × MS)} (a : M2 M h m c1 g1) (b : M2 M h m c2 g2) : M2 M h m (if P then c1 else c2) (if P then g1 else g2) := by
  by_cases hP : P
  · rw [if_pos hP, if_pos hP]; exact a
  · rw [if_neg hP, if_neg hP]; exact b
theorem m2_fI {K : Int32 → Option (ρ × AH)} (k : Nat) (hk : k < 3) (a : M2 M h m (K (m.1 k)) cg) : M2 M h m ((fI h 4 k (some M)).bind K) cg := fun hM => by
  have e : fI h 4 k (some M) = some (m.1 k) := by
    rcases (show k = 0 ∨ k = 1 ∨ k = 2 by omega) with rfl | rfl | rfl <;> simp [fI, gF, gO, hM.1, mobj, vI]
  rw [e]
  exact a hM
theorem m2_fR {K : Option Nat → Option (ρ × AH)} (d : Nat) {j : Nat} (hj : j = d + 2) (hd : 1 ≤ d ∧ d ≤ 19) (a : M2 M h m (K (some (M + d))) cg) : M2 M h m ((fR h 4 j (some M)).bind K) cg := fun hM => by
  have e : fR h 4 j (some M) = some (some (M + d)) := by
    subst hj
    simp only [fR, gF, gO, hM.1, mobj]
    rcases (show d = 1 ∨ d = 2 ∨ d = 3 ∨ d = 4 ∨ d = 5 ∨ d = 6 ∨ d = 7 ∨ d = 8 ∨ d = 9 ∨ d = 10 ∨ d = 11 ∨ d = 12 ∨ d = 13 ∨ d = 14 ∨ d = 15 ∨ d = 16 ∨ d = 17 ∨ d = 18 ∨ d = 19 by omega) with rfl | rfl | rfl | rfl | rfl | rfl | rfl | rfl | rfl | rfl | rfl | rfl | rfl | rfl | rfl | rfl | rfl | rfl | rfl <;> rfl
  rw [e]
  exact a hM
theorem m2_rcv {K : Nat → Option (ρ × AH)} (a : M2 M h m (K M) cg) : M2 M h m (rcv h 4 (some M) K) cg := fun hM => by
  have e : gO h 4 (some M) = some (M, mobj M m) := by simp [gO, hM.1]
  unfold rcv
  rw [e]
  exact a hM
theorem m2_gA {d t : Nat} (hM : MH M m h) (hd : 1 ≤ d ∧ d ≤ 19) (ht : mT d = t) : gA h t (some (M + d)) = some (M + d, mN d, mval m d) := by
  simp only [gA, hM.2 d hd.1 hd.2, ht, if_true]
theorem m2_lI {K : Int32 → Option (ρ × AH)} {Kg : Int32 → Option (ρ × MS)} {t : Nat} {i : Int32} (d : Nat) (hd : 1 ≤ d ∧ d ≤ 19) (ht : mT d = t) (h0 : ¬ t = 0) (a : ∀ x, M2 M h m (K x) (Kg x)) : M2 M h m ((lI h t (some (M + d)) i).bind K) ((rI m d i).bind Kg) := fun hM => by
  have e : lI h t (some (M + d)) i = rI m d i := by
    unfold lI gE rI
    rw [m2_gA hM hd ht]
    by_cases hi : i < 0 ∨ mN d ≤ i.toNatClampNeg
    · simp [hi]
    · simp [hi, mval, ht, h0, vI]
  intro r m' hc
  obtain ⟨x, hx, hc⟩ := Option.bind_eq_some_iff.mp hc
  rw [e, hx]
  exact a x hM r m' hc
theorem m2_lL {K : Int64 → Option (ρ × AH)} {Kg : Int64 → Option (ρ × MS)} {i : Int32} (d : Nat) (hd : 1 ≤ d ∧ d ≤ 19) (ht : mT d = 0) (a : ∀ x, M2 M h m (K x) (Kg x)) : M2 M h m ((lL h 0 (some (M + d)) i).bind K) ((rJ m d i).bind Kg) := fun hM => by
  have e : lL h 0 (some (M + d)) i = rJ m d i := by
    unfold lL gE rJ
    rw [m2_gA hM hd ht]
    by_cases hi : i < 0 ∨ mN d ≤ i.toNatClampNeg
    · simp [hi]
    · simp [hi, mval, ht, vL]
  intro r m' hc
  obtain ⟨x, hx, hc⟩ := Option.bind_eq_some_iff.mp hc
  rw [e, hx]
  exact a x hM r m' hc
theorem m2_put {d : Nat} {m1 : MS} {v : Nat → Value} (hM : MH M m h) (hd : 1 ≤ d ∧ d ≤ 19) (h1 : m1.1 = m.1) (hs : mval m1 d = v) (ho : ∀ q, q ≠ d → mval m1 q = mval m q) : MH M m1 (aput h (M + d) (.inl (mT d, mN d, v))) ∧ Fr M h (aput h (M + d) (.inl (mT d, mN d, v))) := by
  refine ⟨⟨?_, fun q q1 q2 => ?_⟩, ⟨fun q hq => ?_, rfl⟩⟩
  · have : mobj M m1 = mobj M m := by simp [mobj, h1]
    simp only [aput]
    rw [if_neg (by omega), hM.1, this]
  · simp only [aput]
    by_cases e : q = d
    · subst e
      rw [if_pos rfl, hs]
    · rw [if_neg (by omega), hM.2 q q1 q2, ho q e]
  · simp only [aput]
    rw [if_neg (by omega)]
theorem m2_pE {K : AH → Option (ρ × AH)} {Kg : MS → Option (ρ × MS)} {t : Nat} {i x : Int32} (d : Nat) (hd : 1 ≤ d ∧ d ≤ 19) (ht : mT d = t) (h0 : ¬ t = 0) (a : ∀ h1 m1, M2 M h1 m1 (K h1) (Kg m1)) : M2 M h m ((pE h t (some (M + d)) i (.int x)).bind K) ((wI m d i x).bind Kg) := fun hM => by
  intro r m' hc
  obtain ⟨m1, hx, hc⟩ := Option.bind_eq_some_iff.mp hc
  unfold wI at hx
  by_cases hi : i < 0 ∨ mN d ≤ i.toNatClampNeg
  · rw [if_pos hi] at hx; cases hx
  · rw [if_neg hi] at hx
    cases hx
    have e : pE h t (some (M + d)) i (.int x) = some (aput h (M + d) (.inl (mT d, mN d, updV (mval m d) i.toNatClampNeg (.int x)))) := by
      unfold pE
      rw [m2_gA hM hd ht]
      simp [hi, ht]
    rw [e]
    obtain ⟨p1, p2⟩ := m2_put (m1 := sI m d i.toNatClampNeg x) (v := updV (mval m d) i.toNatClampNeg (.int x)) hM hd rfl (by
      funext q
      simp only [mval, sI, updV, ht, h0, if_false, if_true]
      by_cases hq : q = i.toNatClampNeg <;> simp [hq]) (fun q hq => by
      funext z
      simp [mval, sI, hq])
    obtain ⟨h2, g1, g2, g3⟩ := a _ _ p1 r m' hc
    exact ⟨h2, g1, g2, Fr_trans p2 g3⟩
theorem m2_qE {K : AH → Option (ρ × AH)} {Kg : MS → Option (ρ × MS)} {t : Nat} {i x : Int32} (d : Nat) (hd : 1 ≤ d ∧ d ≤ 19) (ht : mT d = t) (h0 : ¬ t = 0) (a : ∀ h1 m1, M2 M h1 m1 (K h1) (Kg m1)) : M2 M h m ((qE h t (some (M + d)) i x).bind K) ((wZ m d i x).bind Kg) := by
  unfold qE wZ
  by_cases hx : x = 0 ∨ x = 1
  · rw [if_pos hx, if_pos hx]
    exact m2_pE d hd ht h0 a
  · rw [if_neg hx, if_neg hx]
    exact m2_none
theorem m2_pL {K : AH → Option (ρ × AH)} {Kg : MS → Option (ρ × MS)} {i : Int32} {x : Int64} (d : Nat) (hd : 1 ≤ d ∧ d ≤ 19) (ht : mT d = 0) (a : ∀ h1 m1, M2 M h1 m1 (K h1) (Kg m1)) : M2 M h m ((pE h 0 (some (M + d)) i (.long x)).bind K) ((wJ m d i x).bind Kg) := fun hM => by
  intro r m' hc
  obtain ⟨m1, hx, hc⟩ := Option.bind_eq_some_iff.mp hc
  unfold wJ at hx
  by_cases hi : i < 0 ∨ mN d ≤ i.toNatClampNeg
  · rw [if_pos hi] at hx; cases hx
  · rw [if_neg hi] at hx
    cases hx
    have e : pE h 0 (some (M + d)) i (.long x) = some (aput h (M + d) (.inl (mT d, mN d, updV (mval m d) i.toNatClampNeg (.long x)))) := by
      unfold pE
      rw [m2_gA hM hd ht]
      simp [hi, ht]
    rw [e]
    obtain ⟨p1, p2⟩ := m2_put (m1 := sJ m d i.toNatClampNeg x) (v := updV (mval m d) i.toNatClampNeg (.long x)) hM hd rfl (by
      funext q
      simp only [mval, sJ, updV, ht, if_true]
      by_cases hq : q = i.toNatClampNeg <;> simp [hq]) (fun q hq => by
      funext z
      simp [mval, sJ, hq])
    obtain ⟨h2, g1, g2, g3⟩ := a _ _ p1 r m' hc
    exact ⟨h2, g1, g2, Fr_trans p2 g3⟩
theorem m2_pF {K : AH → Option (ρ × AH)} {Kg : Option (ρ × MS)} {x : Int32} (k : Nat) (hk : k < 3) (a : ∀ h1, M2 M h1 (wS m k x) (K h1) Kg) : M2 M h m ((pF h 4 k (some M) (.int x)).bind K) Kg := fun hM => by
  have e : pF h 4 k (some M) (.int x) = some (aput h M (.inr (4, mobj M (wS m k x)))) := by
    rcases (show k = 0 ∨ k = 1 ∨ k = 2 by omega) with rfl | rfl | rfl <;> simp [pF, gO, hM.1, mobj, wS]
  rw [e]
  have p1 : MH M (wS m k x) (aput h M (.inr (4, mobj M (wS m k x)))) := ⟨by simp [aput], fun d d1 d2 => by
    simp only [aput]
    rw [if_neg (by omega), hM.2 d d1 d2]
    rfl⟩
  have p2 : Fr M h (aput h M (.inr (4, mobj M (wS m k x)))) := ⟨fun q hq => by simp only [aput]; rw [if_neg (by omega)], rfl⟩
  intro r m' hc
  obtain ⟨h2, g1, g2, g3⟩ := a _ p1 r m' hc
  exact ⟨h2, g1, g2, Fr_trans p2 g3⟩
theorem m2_bnd {σ : Type} {c : Option (σ × AH)} {g : Option (σ × MS)} {K : σ → AH → Option (ρ × AH)} {Kg : σ → MS → Option (ρ × MS)} (hcall : M2 M h m c g) (a : ∀ x h1 m1, M2 M h1 m1 (K x h1) (Kg x m1)) : M2 M h m (bnd c K) (bnM g Kg) := fun hM r m' hc => by
  obtain ⟨⟨x, m1⟩, hx, hc⟩ := Option.bind_eq_some_iff.mp hc
  obtain ⟨h1, e1, e2, e3⟩ := hcall hM x m1 hx
  obtain ⟨h2, g1, g2, g3⟩ := a x h1 m1 e2 r m' hc
  exact ⟨h2, by rw [e1]; exact g1, g2, Fr_trans e3 g3⟩
theorem m2_bndU {c : Option (Unit × AH)} {g : Option (Unit × MS)} {K : AH → Option (ρ × AH)} {Kg : MS → Option (ρ × MS)} (hcall : M2 M h m c g) (a : ∀ h1 m1, M2 M h1 m1 (K h1) (Kg m1)) : M2 M h m (bndU c K) (bnMU g Kg) := fun hM r m' hc => by
  obtain ⟨⟨x, m1⟩, hx, hc⟩ := Option.bind_eq_some_iff.mp hc
  obtain ⟨h1, e1, e2, e3⟩ := hcall hM x m1 hx
  obtain ⟨h2, g1, g2, g3⟩ := a h1 m1 e2 r m' hc
  exact ⟨h2, by rw [e1]; exact g1, g2, Fr_trans e3 g3⟩
end M2R
