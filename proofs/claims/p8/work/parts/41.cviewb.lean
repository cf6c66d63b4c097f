section C2W
variable {ρ : Type} {X : Nat} {h : AH} {v : CV} {cf : Option (ρ × AH)} {cg : Option (ρ × CV)}
theorem inb_some {α : Type} {n : Nat} {i : Int32} {x y : α} (h : inb n i x = some y) : ¬ (i < 0 ∨ n ≤ i.toNatClampNeg) ∧ y = x := by
  unfold inb at h
  split at h
  · cases h
  · rename_i hn
    cases h
    exact ⟨hn, rfl⟩
theorem bm_some {α β : Type} {c : Nat → Option α} {r : Option Nat} {f : Nat → α → β} {y : β} (h : (r.bind fun a => (c a).map (f a)) = some y) : ∃ a t, r = some a ∧ c a = some t ∧ y = f a t := by
  obtain ⟨a, ha, h⟩ := Option.bind_eq_some_iff.mp h
  obtain ⟨t, ht, h⟩ := Option.map_eq_some_iff.mp h
  exact ⟨a, t, ha, ht, h.symm⟩
theorem gE_in {a t n : Nat} {f : Nat → Value} {i : Int32} (hf : h.1 a = some (.inl (t, n, f))) (hi : ¬ (i < 0 ∨ n ≤ i.toNatClampNeg)) : gE h t (some a) i = some (f i.toNatClampNeg) := by
  unfold gE
  rw [gA_of hf]
  simp only [Option.bind_some]
  rw [if_neg hi]
theorem pE_in {a t n : Nat} {f : Nat → Value} {i : Int32} {x : Value} (hf : h.1 a = some (.inl (t, n, f))) (hi : ¬ (i < 0 ∨ n ≤ i.toNatClampNeg)) : pE h t (some a) i x = some (aput h a (.inl (t, n, updV f i.toNatClampNeg x))) := by
  unfold pE
  rw [gA_of hf]
  simp only [Option.bind_some]
  rw [if_neg hi]
theorem fI_in {a ci k : Nat} {fs : List Value} {x : Int32} (hf : h.1 a = some (.inr (ci, fs))) (hv : fs[k]? = some (.int x)) : fI h ci k (some a) = some x := by
  unfold fI gF
  rw [gO_of hf]
  simp [hv, vI]
theorem fL_in {a ci k : Nat} {fs : List Value} {x : Int64} (hf : h.1 a = some (.inr (ci, fs))) (hv : fs[k]? = some (.long x)) : fL h ci k (some a) = some x := by
  unfold fL gF
  rw [gO_of hf]
  simp [hv, vL]
theorem fR_in {a ci k : Nat} {fs : List Value} {x : Option Nat} (hf : h.1 a = some (.inr (ci, fs))) (hv : fs[k]? = some (va_rf x)) : fR h ci k (some a) = some x := by
  unfold fR gF
  rw [gO_of hf]
  simp [hv, vR_rf]
theorem pF_in {a ci k : Nat} {fs : List Value} {x : Value} (hf : h.1 a = some (.inr (ci, fs))) (hk : k < fs.length) : pF h ci k (some a) x = some (aput h a (.inr (ci, fs.set k x))) := by
  unfold pF
  rw [gO_of hf]
  simp [hk]
theorem c2_rcvD {K : Nat → Option (ρ × AH)} (a : C2 X h v (K X) cg) : C2 X h v (rcv h 3 (some X) K) cg := fun hc => by
  unfold rcv
  rw [gO_of hc.1.1]
  exact a hc
theorem c2_rcvV {K : Nat → Option (ρ × AH)} (a : C2 X h v (K (X + 1)) cg) : C2 X h v (rcv h 2 (some (X + 1)) K) cg := fun hc => by
  unfold rcv
  rw [gO_of hc.1.2.1]
  exact a hc
theorem c2_rcvT {r : Option Nat} {K : Nat → Option (ρ × AH)} {Kg : Nat → Option (ρ × CV)} (a : ∀ q, C2 X h v (K q) (Kg q)) : C2 X h v (rcv h 1 r K) ((okT v r).bind Kg) := fun hc r' v' e => by
  obtain ⟨q, hq, e2⟩ := Option.bind_eq_some_iff.mp e
  obtain ⟨q', t, rfl, ht, rfl⟩ := bm_some hq
  unfold rcv
  rw [gO_of (hc.2.1 _ _ ht).2.1]
  exact a _ hc r' v' e2
theorem c2_rcvR {r : Option Nat} {K : Nat → Option (ρ × AH)} {Kg : Nat → Option (ρ × CV)} (a : ∀ q, C2 X h v (K q) (Kg q)) : C2 X h v (rcv h 0 r K) ((okR v r).bind Kg) := fun hc r' v' e => by
  obtain ⟨q, hq, e2⟩ := Option.bind_eq_some_iff.mp e
  obtain ⟨q', t, rfl, ht, rfl⟩ := bm_some hq
  unfold rcv
  rw [gO_of (hc.2.2.1 _ _ ht).2]
  exact a _ hc r' v' e2
theorem c2_dI {K : Int32 → Option (ρ × AH)} (k : Nat) (hk : k = 3 ∨ k = 4 ∨ k = 5) (a : C2 X h v (K (cD v k)) cg) : C2 X h v ((fI h 3 k (some X)).bind K) cg :=
  c2_eq (fun hc => by rcases hk with rfl | rfl | rfl <;> exact fI_in hc.1.1 rfl) a
theorem c2_dR0 {K : Option Nat → Option (ρ × AH)} (a : C2 X h v (K (some (X + 1))) cg) : C2 X h v ((fR h 3 0 (some X)).bind K) cg := c2_eq (fun hc => fR_in hc.1.1 rfl) a
theorem c2_dR1 {K : Option Nat → Option (ρ × AH)} (a : C2 X h v (K (some (X + 4))) cg) : C2 X h v ((fR h 3 1 (some X)).bind K) cg := c2_eq (fun hc => fR_in hc.1.1 rfl) a
theorem c2_dR2 {K : Option Nat → Option (ρ × AH)} (a : C2 X h v (K (some (X + 5))) cg) : C2 X h v ((fR h 3 2 (some X)).bind K) cg := c2_eq (fun hc => fR_in hc.1.1 rfl) a
theorem c2_vR0 {K : Option Nat → Option (ρ × AH)} (a : C2 X h v (K (some (X + 2))) cg) : C2 X h v ((fR h 2 0 (some (X + 1))).bind K) cg := c2_eq (fun hc => fR_in hc.1.2.1 rfl) a
theorem c2_vR1 {K : Option Nat → Option (ρ × AH)} (a : C2 X h v (K (some (X + 3))) cg) : C2 X h v ((fR h 2 1 (some (X + 1))).bind K) cg := c2_eq (fun hc => fR_in hc.1.2.1 rfl) a
theorem c2_gS {K : Int32 → Option (ρ × AH)} (a : C2 X h v (K (nI 64)) cg) : C2 X h v ((gN h 2 (some (X + 5))).bind K) cg := c2_eq (fun hc => by unfold gN; rw [gA_of hc.1.2.2.2.2.2]; rfl) a
theorem c2_gE {K : Int32 → Option (ρ × AH)} (a : C2 X h v (K (nI 6)) cg) : C2 X h v ((gN h 2 (some (X + 4))).bind K) cg := c2_eq (fun hc => by unfold gN; rw [gA_of hc.1.2.2.2.2.1]; rfl) a
theorem c2_gB {K : Int32 → Option (ρ × AH)} (a : C2 X h v (K (nI 8)) cg) : C2 X h v ((gN h 1 (some (X + 3))).bind K) cg := c2_eq (fun hc => by unfold gN; rw [gA_of hc.1.2.2.2.1]; rfl) a
theorem c2_rE {i : Int32} {K : Option Nat → Option (ρ × AH)} {Kg : Option Nat → Option (ρ × CV)} (a : ∀ y, C2 X h v (K y) (Kg y)) : C2 X h v ((lR h 2 (some (X + 4)) i).bind K) ((rE v i).bind Kg) :=
  c2_rd (fun y => y) (fun hc y e => by obtain ⟨hi, rfl⟩ := inb_some e; unfold lR; rw [gE_in hc.1.2.2.2.2.1 hi, Option.bind_some, vR_rf]) a
theorem c2_rS {i : Int32} {K : Option Nat → Option (ρ × AH)} {Kg : Option Nat → Option (ρ × CV)} (a : ∀ y, C2 X h v (K y) (Kg y)) : C2 X h v ((lR h 2 (some (X + 5)) i).bind K) ((rS v i).bind Kg) :=
  c2_rd (fun y => y) (fun hc y e => by obtain ⟨hi, rfl⟩ := inb_some e; unfold lR; rw [gE_in hc.1.2.2.2.2.2 hi, Option.bind_some, vR_rf]) a
theorem c2_rV {i : Int32} {K : Int64 → Option (ρ × AH)} {Kg : Int64 → Option (ρ × CV)} (a : ∀ y, C2 X h v (K y) (Kg y)) : C2 X h v ((lL h 0 (some (X + 2)) i).bind K) ((rV v i).bind Kg) :=
  c2_rd (fun y => y) (fun hc y e => by obtain ⟨hi, rfl⟩ := inb_some e; unfold lL; rw [gE_in hc.1.2.2.1 hi]; rfl) a
theorem c2_rB {i : Int32} {K : Int32 → Option (ρ × AH)} {Kg : Int32 → Option (ρ × CV)} (a : ∀ y, C2 X h v (K y) (Kg y)) : C2 X h v ((lI h 1 (some (X + 3)) i).bind K) ((rB v i).bind Kg) :=
  c2_rd (fun y => y) (fun hc y e => by obtain ⟨hi, rfl⟩ := inb_some e; unfold lI; rw [gE_in hc.1.2.2.2.1 hi]; rfl) a
theorem c2_tI {k : Nat} {r : Option Nat} {K : Int32 → Option (ρ × AH)} {Kg : Int32 → Option (ρ × CV)} (hk : k = 0 ∨ k = 1 ∨ k = 2 ∨ k = 3 ∨ k = 4 ∨ k = 6) (a : ∀ y, C2 X h v (K y) (Kg y)) : C2 X h v ((fI h 1 k r).bind K) ((tI v k r).bind Kg) :=
  c2_rd (fun y => y) (fun hc y e => by
    obtain ⟨q, t, rfl, ht, rfl⟩ := bm_some e
    rcases hk with rfl | rfl | rfl | rfl | rfl | rfl <;> exact fI_in (hc.2.1 _ _ ht).2.1 rfl) a
theorem c2_tL {r : Option Nat} {K : Int64 → Option (ρ × AH)} {Kg : Int64 → Option (ρ × CV)} (a : ∀ y, C2 X h v (K y) (Kg y)) : C2 X h v ((fL h 1 5 r).bind K) ((tL v r).bind Kg) :=
  c2_rd (fun y => y) (fun hc y e => by obtain ⟨q, t, rfl, ht, rfl⟩ := bm_some e; exact fL_in (hc.2.1 _ _ ht).2.1 rfl) a
theorem c2_t7 {r : Option Nat} {K : Option Nat → Option (ρ × AH)} {Kg : Nat → Option (ρ × CV)} (a : ∀ q, C2 X h v (K (some (q + 1))) (Kg q)) : C2 X h v ((fR h 1 7 r).bind K) ((okT v r).bind Kg) :=
  c2_rd (fun q => some (q + 1)) (fun hc y e => by obtain ⟨q, t, rfl, ht, rfl⟩ := bm_some e; exact fR_in (hc.2.1 _ _ ht).2.1 rfl) a
theorem c2_t8 {r : Option Nat} {K : Option Nat → Option (ρ × AH)} {Kg : Nat → Option (ρ × CV)} (a : ∀ q, C2 X h v (K (some (q + 2))) (Kg q)) : C2 X h v ((fR h 1 8 r).bind K) ((okT v r).bind Kg) :=
  c2_rd (fun q => some (q + 2)) (fun hc y e => by obtain ⟨q, t, rfl, ht, rfl⟩ := bm_some e; exact fR_in (hc.2.1 _ _ ht).2.1 rfl) a
theorem c2_rF {q : Nat} {i : Int32} {K : Option Nat → Option (ρ × AH)} {Kg : Option Nat → Option (ρ × CV)} (a : ∀ y, C2 X h v (K y) (Kg y)) : C2 X h v ((lR h 3 (some (q + 1)) i).bind K) ((rF v q i).bind Kg) :=
  c2_rd (fun y => y) (fun hc y e => by
    obtain ⟨t, ht, e⟩ := Option.bind_eq_some_iff.mp e
    obtain ⟨hi, rfl⟩ := inb_some e
    unfold lR
    rw [gE_in (hc.2.1 _ _ ht).2.2.1 hi, Option.bind_some, vR_rf]) a
theorem c2_rC {q : Nat} {i : Int32} {K : Int32 → Option (ρ × AH)} {Kg : Int32 → Option (ρ × CV)} (a : ∀ y, C2 X h v (K y) (Kg y)) : C2 X h v ((lI h 4 (some (q + 2)) i).bind K) ((rC v q i).bind Kg) :=
  c2_rd (fun y => y) (fun hc y e => by
    obtain ⟨t, ht, e⟩ := Option.bind_eq_some_iff.mp e
    obtain ⟨hi, rfl⟩ := inb_some e
    unfold lI
    rw [gE_in (hc.2.1 _ _ ht).2.2.2 hi]
    rfl) a
theorem c2_gI {k : Nat} {r : Option Nat} {K : Int32 → Option (ρ × AH)} {Kg : Int32 → Option (ρ × CV)} (hk : k = 0 ∨ k = 3) (a : ∀ y, C2 X h v (K y) (Kg y)) : C2 X h v ((fI h 0 k r).bind K) ((gI v k r).bind Kg) :=
  c2_rd (fun y => y) (fun hc y e => by
    obtain ⟨q, t, rfl, ht, rfl⟩ := bm_some e
    rcases hk with rfl | rfl <;> exact fI_in (hc.2.2.1 _ _ ht).2 rfl) a
theorem c2_gL {k : Nat} {r : Option Nat} {K : Int64 → Option (ρ × AH)} {Kg : Int64 → Option (ρ × CV)} (hk : k = 1 ∨ k = 2) (a : ∀ y, C2 X h v (K y) (Kg y)) : C2 X h v ((fL h 0 k r).bind K) ((gL v k r).bind Kg) :=
  c2_rd (fun y => y) (fun hc y e => by
    obtain ⟨q, t, rfl, ht, rfl⟩ := bm_some e
    rcases hk with rfl | rfl <;> exact fL_in (hc.2.2.1 _ _ ht).2 rfl) a
theorem c2_gX {r : Option Nat} {K : Option Nat → Option (ρ × AH)} {Kg : Option Nat → Option (ρ × CV)} (a : ∀ y, C2 X h v (K y) (Kg y)) : C2 X h v ((fR h 0 4 r).bind K) ((gX v r).bind Kg) :=
  c2_rd (fun y => y) (fun hc y e => by obtain ⟨q, t, rfl, ht, rfl⟩ := bm_some e; exact fR_in (hc.2.2.1 _ _ ht).2 rfl) a
/-! writes -/
theorem ap_s {p : Nat} {e : AE} : (aput h p e).1 p = some e := by simp [aput]
theorem ap_n {p q : Nat} {e : AE} (hq : q ≠ p) : (aput h p e).1 q = h.1 q := by simp [aput, hq]
theorem ne_k {p q : Nat} {e1 e2 : AE} (h1 : h.1 p = some e1) (h2 : h.1 q = some e2) (hk : kof e1 ≠ kof e2) : p ≠ q := fun e => by
  subst e
  rw [h1] at h2
  cases h2
  exact hk rfl
theorem ch_none {p : Nat} {e0 e : AE} (hc : CH X v h) (hp : h.1 p = some e0) : ∀ q, (cZ v).1 ≤ q → (aput h p e).1 q = none := fun q hq => by
  have : q ≠ p := fun e1 => by
    subst e1
    rw [hc.2.2.2.2.2 q hq] at hp
    cases hp
  rw [ap_n this]
  exact hc.2.2.2.2.2 q hq
theorem ch_low {p : Nat} {e : AE} {v' : CV} (hc : CH X v h) (hp : p < X + 6) (h0 : ∃ e0, h.1 p = some e0) (hT : cT v' = cT v) (hR : cR v' = cR v) (hZ : cZ v' = cZ v) (hF : ((aput h p e).1 X = some (.inr (3, dkf X (cD v' 3) (cD v' 4) (cD v' 5))) ∧ (aput h p e).1 (X + 1) = some (.inr (2, [.ref (X + 2), .ref (X + 3)])) ∧ (aput h p e).1 (X + 2) = some (.inl (0, 8, fun i => .long (cV v' i))) ∧ (aput h p e).1 (X + 3) = some (.inl (1, 8, fun i => .int (cF v' i))) ∧ (aput h p e).1 (X + 4) = some (.inl (2, 6, fun i => va_rf (cE v' i))) ∧ (aput h p e).1 (X + 5) = some (.inl (2, 64, fun i => va_rf (cS v' i))))) : CH X v' (aput h p e) ∧ FC X h (aput h p e) := by
  obtain ⟨e0, h0⟩ := h0
  refine ⟨⟨hF, fun a t ht => ?_, fun b g hg => ?_, by rw [hZ]; exact hc.2.2.2.1, by rw [hZ]; exact hc.2.2.2.2.1, by rw [hZ]; exact ch_none hc h0⟩, fun q q1 q2 => ap_n (by omega)⟩
  · rw [hT] at ht
    obtain ⟨a1, a2, a3, a4⟩ := hc.2.1 a t ht
    exact ⟨a1, by rw [ap_n (by omega)]; exact a2, by rw [ap_n (by omega)]; exact a3, by rw [ap_n (by omega)]; exact a4⟩
  · rw [hR] at hg
    obtain ⟨a1, a2⟩ := hc.2.2.1 b g hg
    exact ⟨a1, by rw [ap_n (by omega)]; exact a2⟩
theorem c2_dP {x : Int32} {K : AH → Option (ρ × AH)} (k : Nat) (hk : k = 3 ∨ k = 4 ∨ k = 5) (a : ∀ h1, C2 X h1 (wD v k x) (K h1) cg) : C2 X h v ((pF h 3 k (some X) (.int x)).bind K) cg := fun hc => by
  obtain ⟨f1, f2, f3, f4, f5, f6⟩ := hc.1
  have e : pF h 3 k (some X) (.int x) = some (aput h X (.inr (3, dkf X (cD (wD v k x) 3) (cD (wD v k x) 4) (cD (wD v k x) 5)))) := by
    rcases hk with rfl | rfl | rfl <;> exact pF_in f1 (Nat.le_of_ble_eq_true rfl)
  rw [e]
  obtain ⟨g1, g2⟩ := ch_low (p := X) (e := .inr (3, dkf X (cD (wD v k x) 3) (cD (wD v k x) 4) (cD (wD v k x) 5))) (v' := wD v k x) hc (by omega) ⟨_, f1⟩ rfl rfl rfl ⟨ap_s, by rw [ap_n (by omega)]; exact f2, by rw [ap_n (by omega)]; exact f3, by rw [ap_n (by omega)]; exact f4, by rw [ap_n (by omega)]; exact f5, by rw [ap_n (by omega)]; exact f6⟩
  intro r v' hv
  obtain ⟨h2, q1, q2, q3⟩ := a _ g1 r v' hv
  exact ⟨h2, q1, q2, FC_trans g2 q3⟩
theorem c2_wV {i : Int32} {x : Int64} {K : AH → Option (ρ × AH)} {Kg : CV → Option (ρ × CV)} (a : ∀ h1 v1, C2 X h1 v1 (K h1) (Kg v1)) : C2 X h v ((pE h 0 (some (X + 2)) i (.long x)).bind K) ((wV v i x).bind Kg) :=
  c2_wr (fun hc v1 e => by
    obtain ⟨hi, rfl⟩ := inb_some e
    obtain ⟨f1, f2, f3, f4, f5, f6⟩ := hc.1
    refine ⟨_, pE_in f3 hi, ch_low hc (by omega) ⟨_, f3⟩ rfl rfl rfl ⟨by rw [ap_n (by omega)]; exact f1, by rw [ap_n (by omega)]; exact f2, ?_, by rw [ap_n (by omega)]; exact f4, by rw [ap_n (by omega)]; exact f5, by rw [ap_n (by omega)]; exact f6⟩⟩
    rw [ap_s]
    congr 4
    funext q
    by_cases e : q = i.toNatClampNeg <;> simp [updV, e, up, cV, mkC]) a
theorem c2_wB {i x : Int32} {K : AH → Option (ρ × AH)} {Kg : CV → Option (ρ × CV)} (a : ∀ h1 v1, C2 X h1 v1 (K h1) (Kg v1)) : C2 X h v ((qE h 1 (some (X + 3)) i x).bind K) ((wB v i x).bind Kg) :=
  c2_wr (fun hc v1 e => by
    unfold wB at e
    by_cases hx : x = 0 ∨ x = 1
    · rw [if_pos hx] at e
      obtain ⟨hi, rfl⟩ := inb_some e
      obtain ⟨f1, f2, f3, f4, f5, f6⟩ := hc.1
      refine ⟨_, (if_pos hx).trans (pE_in f4 hi), ch_low hc (by omega) ⟨_, f4⟩ rfl rfl rfl ⟨by rw [ap_n (by omega)]; exact f1, by rw [ap_n (by omega)]; exact f2, by rw [ap_n (by omega)]; exact f3, ?_, by rw [ap_n (by omega)]; exact f5, by rw [ap_n (by omega)]; exact f6⟩⟩
      rw [ap_s]
      congr 4
      funext q
      by_cases e : q = i.toNatClampNeg <;> simp [updV, e, up, cF, mkC]
    · rw [if_neg hx] at e
      cases e) a
theorem qR_in {t ci p n : Nat} {f : Nat → Option Nat} {i : Int32} {x : Option Nat} (hf : h.1 p = some (.inl (t, n, fun j => va_rf (f j)))) (hi : ¬ (i < 0 ∨ n ≤ i.toNatClampNeg)) (hx : x = none ∨ ∃ b fs, x = some b ∧ h.1 b = some (.inr (ci, fs))) : qR h t ci (some p) i x = some (aput h p (.inl (t, n, fun j => va_rf (up f i.toNatClampNeg x j)))) := by
  have e2 : (fun j => va_rf (up f i.toNatClampNeg x j)) = updV (fun j => va_rf (f j)) i.toNatClampNeg (va_rf x) := by
    funext q
    by_cases e : q = i.toNatClampNeg <;> simp [updV, e, up]
  rw [e2]
  obtain rfl | ⟨b, fs, rfl, hb⟩ := hx
  · exact pE_in hf hi
  · show (gO h ci (some b)).bind (fun _ => pE h t (some p) i (Value.ref b)) = _
    rw [gO_of hb]
    exact pE_in hf hi
theorem tok_h {x : Option Nat} (hc : CH X v h) (hx : tok v x = true) : x = none ∨ ∃ b fs, x = some b ∧ h.1 b = some (.inr (1, fs)) := by
  cases x with
  | none => exact Or.inl rfl
  | some b =>
    obtain ⟨t, ht⟩ := Option.isSome_iff_exists.mp (show (cT v b).isSome = true from hx)
    exact Or.inr ⟨b, _, rfl, (hc.2.1 b t ht).2.1⟩
theorem rok_h {x : Option Nat} (hc : CH X v h) (hx : rok v x = true) : x = none ∨ ∃ b fs, x = some b ∧ h.1 b = some (.inr (0, fs)) := by
  cases x with
  | none => exact Or.inl rfl
  | some b =>
    obtain ⟨t, ht⟩ := Option.isSome_iff_exists.mp (show (cR v b).isSome = true from hx)
    exact Or.inr ⟨b, _, rfl, (hc.2.2.1 b t ht).2⟩
theorem c2_wE {i : Int32} {x : Option Nat} {K : AH → Option (ρ × AH)} {Kg : CV → Option (ρ × CV)} (a : ∀ h1 v1, C2 X h1 v1 (K h1) (Kg v1)) : C2 X h v ((qR h 2 1 (some (X + 4)) i x).bind K) ((wE v i x).bind Kg) :=
  c2_wr (fun hc v1 e => by
    unfold wE at e
    by_cases hx : tok v x = true
    · rw [if_pos hx] at e
      obtain ⟨hi, rfl⟩ := inb_some e
      obtain ⟨f1, f2, f3, f4, f5, f6⟩ := hc.1
      exact ⟨_, qR_in f5 hi (tok_h hc hx), ch_low hc (by omega) ⟨_, f5⟩ rfl rfl rfl ⟨by rw [ap_n (by omega)]; exact f1, by rw [ap_n (by omega)]; exact f2, by rw [ap_n (by omega)]; exact f3, by rw [ap_n (by omega)]; exact f4, ap_s, by rw [ap_n (by omega)]; exact f6⟩⟩
    · rw [if_neg hx] at e
      cases e) a
theorem c2_wL {i : Int32} {x : Option Nat} {K : AH → Option (ρ × AH)} {Kg : CV → Option (ρ × CV)} (a : ∀ h1 v1, C2 X h1 v1 (K h1) (Kg v1)) : C2 X h v ((qR h 2 1 (some (X + 5)) i x).bind K) ((wL v i x).bind Kg) :=
  c2_wr (fun hc v1 e => by
    unfold wL at e
    by_cases hx : tok v x = true
    · rw [if_pos hx] at e
      obtain ⟨hi, rfl⟩ := inb_some e
      obtain ⟨f1, f2, f3, f4, f5, f6⟩ := hc.1
      exact ⟨_, qR_in f6 hi (tok_h hc hx), ch_low hc (by omega) ⟨_, f6⟩ rfl rfl rfl ⟨by rw [ap_n (by omega)]; exact f1, by rw [ap_n (by omega)]; exact f2, by rw [ap_n (by omega)]; exact f3, by rw [ap_n (by omega)]; exact f4, by rw [ap_n (by omega)]; exact f5, ap_s⟩⟩
    · rw [if_neg hx] at e
      cases e) a
/-- a transaction's cell, or one of its two arrays, is written -/
theorem ch_T {p q : Nat} {t t' : TX} {e : AE} (hc : CH X v h) (ht : cT v q = some t) (hp : p = q ∨ p = q + 1 ∨ p = q + 2) (hq : (aput h p e).1 q = some (.inr (1, ofT q t')) ∧ (aput h p e).1 (q + 1) = some (.inl (3, 8, fun i => va_rf (t'.2.2.1 i))) ∧ (aput h p e).1 (q + 2) = some (.inl (4, 8, fun i => .int (t'.2.2.2 i)))) : CH X (sT v q t') (aput h p e) ∧ FC X h (aput h p e) := by
  obtain ⟨a1, a2, a3, a4⟩ := hc.2.1 q t ht
  obtain ⟨f1, f2, f3, f4, f5, f6⟩ := hc.1
  obtain ⟨e0, h0⟩ : ∃ e0, h.1 p = some e0 := by
    rcases hp with rfl | rfl | rfl
    · exact ⟨_, a2⟩
    · exact ⟨_, a3⟩
    · exact ⟨_, a4⟩
  refine ⟨⟨⟨by rw [ap_n (by omega)]; exact f1, by rw [ap_n (by omega)]; exact f2, by rw [ap_n (by omega)]; exact f3, by rw [ap_n (by omega)]; exact f4, by rw [ap_n (by omega)]; exact f5, by rw [ap_n (by omega)]; exact f6⟩, fun b s hs => ?_, fun b g hg => ?_, hc.2.2.2.1, hc.2.2.2.2.1, fun z hz => ch_none (v := v) hc h0 z hz⟩, fun z z1 z2 => ap_n (by omega)⟩
  · by_cases e1 : b = q
    · subst e1
      have : s = t' := by
        simp only [sT, mkC, cT, up, if_true] at hs
        exact (Option.some.inj hs).symm
      subst this
      exact ⟨a1, hq⟩
    · have hs' : cT v b = some s := by
        simp only [sT, mkC, cT, up, if_neg e1] at hs
        exact hs
      obtain ⟨b1, b2, b3, b4⟩ := hc.2.1 b s hs'
      have n1 := ne_k b2 a3 (by simp [kof])
      have n2 := ne_k b2 a4 (by simp [kof])
      have n3 := ne_k b3 a2 (by simp [kof])
      have n4 := ne_k b3 a4 (by simp [kof])
      have n5 := ne_k b4 a2 (by simp [kof])
      have n6 := ne_k b4 a3 (by simp [kof])
      exact ⟨b1, by rw [ap_n (by omega)]; exact b2, by rw [ap_n (by omega)]; exact b3, by rw [ap_n (by omega)]; exact b4⟩
  · obtain ⟨b1, b2⟩ := hc.2.2.1 b g hg
    have n1 := ne_k b2 a2 (by simp [kof])
    have n2 := ne_k b2 a3 (by simp [kof])
    have n3 := ne_k b2 a4 (by simp [kof])
    exact ⟨b1, by rw [ap_n (by omega)]; exact b2⟩
theorem c2_wT {k : Nat} {r : Option Nat} {x : Int32} {K : AH → Option (ρ × AH)} {Kg : CV → Option (ρ × CV)} (hk : k = 3 ∨ k = 4 ∨ k = 6) (a : ∀ h1 v1, C2 X h1 v1 (K h1) (Kg v1)) : C2 X h v ((pF h 1 k r (.int x)).bind K) ((wT v k r x).bind Kg) :=
  c2_wr (fun hc v1 e => by
    obtain ⟨q, t, rfl, ht, rfl⟩ := bm_some e
    obtain ⟨a1, a2, a3, a4⟩ := hc.2.1 q t ht
    have e1 : pF h 1 k (some q) (.int x) = some (aput h q (.inr (1, ofT q (up t.1 k x, t.2)))) := by
      rcases hk with rfl | rfl | rfl <;> exact pF_in a2 (Nat.le_of_ble_eq_true rfl)
    exact ⟨_, e1, ch_T hc ht (Or.inl rfl) ⟨ap_s, by rw [ap_n (by omega)]; exact a3, by rw [ap_n (by omega)]; exact a4⟩⟩) a
theorem c2_wTZ {r : Option Nat} {x : Int32} {K : AH → Option (ρ × AH)} {Kg : CV → Option (ρ × CV)} (a : ∀ h1 v1, C2 X h1 v1 (K h1) (Kg v1)) : C2 X h v ((pZ h 1 4 r x).bind K) ((wTZ v r x).bind Kg) := by
  unfold pZ wTZ
  by_cases hx : x = 0 ∨ x = 1
  · rw [if_pos hx, if_pos hx]
    exact c2_wT (by decide) a
  · rw [if_neg hx, if_neg hx]
    exact c2_none
theorem c2_wTL {r : Option Nat} {x : Int64} {K : AH → Option (ρ × AH)} {Kg : CV → Option (ρ × CV)} (a : ∀ h1 v1, C2 X h1 v1 (K h1) (Kg v1)) : C2 X h v ((pF h 1 5 r (.long x)).bind K) ((wTL v r x).bind Kg) :=
  c2_wr (fun hc v1 e => by
    obtain ⟨q, t, rfl, ht, rfl⟩ := bm_some e
    obtain ⟨a1, a2, a3, a4⟩ := hc.2.1 q t ht
    have e1 : pF h 1 5 (some q) (.long x) = some (aput h q (.inr (1, ofT q (t.1, x, t.2.2)))) := pF_in a2 (Nat.le_of_ble_eq_true rfl)
    exact ⟨_, e1, ch_T hc ht (Or.inl rfl) ⟨ap_s, by rw [ap_n (by omega)]; exact a3, by rw [ap_n (by omega)]; exact a4⟩⟩) a
theorem c2_wF {q : Nat} {i : Int32} {x : Option Nat} {K : AH → Option (ρ × AH)} {Kg : CV → Option (ρ × CV)} (a : ∀ h1 v1, C2 X h1 v1 (K h1) (Kg v1)) : C2 X h v ((qR h 3 0 (some (q + 1)) i x).bind K) ((wF v q i x).bind Kg) :=
  c2_wr (fun hc v1 e => by
    unfold wF at e
    by_cases hx : rok v x = true
    · rw [if_pos hx] at e
      obtain ⟨t, ht, e⟩ := Option.bind_eq_some_iff.mp e
      obtain ⟨hi, rfl⟩ := inb_some e
      obtain ⟨a1, a2, a3, a4⟩ := hc.2.1 q t ht
      exact ⟨_, qR_in a3 hi (rok_h hc hx), ch_T hc ht (Or.inr (Or.inl rfl)) ⟨by rw [ap_n (by omega)]; exact a2, ap_s, by rw [ap_n (by omega)]; exact a4⟩⟩
    · rw [if_neg hx] at e
      cases e) a
theorem c2_wC {q : Nat} {i x : Int32} {K : AH → Option (ρ × AH)} {Kg : CV → Option (ρ × CV)} (a : ∀ h1 v1, C2 X h1 v1 (K h1) (Kg v1)) : C2 X h v ((pE h 4 (some (q + 2)) i (.int x)).bind K) ((wC v q i x).bind Kg) :=
  c2_wr (fun hc v1 e => by
    obtain ⟨t, ht, e⟩ := Option.bind_eq_some_iff.mp e
    obtain ⟨hi, rfl⟩ := inb_some e
    obtain ⟨a1, a2, a3, a4⟩ := hc.2.1 q t ht
    refine ⟨_, pE_in a4 hi, ch_T hc ht (Or.inr (Or.inr rfl)) ⟨by rw [ap_n (by omega)]; exact a2, by rw [ap_n (by omega)]; exact a3, ?_⟩⟩
    rw [ap_s]
    congr 4
    funext z
    by_cases e : z = i.toNatClampNeg <;> simp [updV, e, up]) a
theorem c2_wX {r x : Option Nat} {K : AH → Option (ρ × AH)} {Kg : CV → Option (ρ × CV)} (a : ∀ h1 v1, C2 X h1 v1 (K h1) (Kg v1)) : C2 X h v ((pF h 0 4 r (va_rf x)).bind K) ((wX v r x).bind Kg) :=
  c2_wr (fun hc v1 e => by
    obtain ⟨q, g, rfl, hg, rfl⟩ := bm_some e
    obtain ⟨a1, a2⟩ := hc.2.2.1 q g hg
    obtain ⟨f1, f2, f3, f4, f5, f6⟩ := hc.1
    have e1 : pF h 0 4 (some q) (va_rf x) = some (aput h q (.inr (0, ofR (g.1, g.2.1, x)))) := pF_in a2 (Nat.le_of_ble_eq_true rfl)
    refine ⟨_, e1, ⟨⟨by rw [ap_n (by omega)]; exact f1, by rw [ap_n (by omega)]; exact f2, by rw [ap_n (by omega)]; exact f3, by rw [ap_n (by omega)]; exact f4, by rw [ap_n (by omega)]; exact f5, by rw [ap_n (by omega)]; exact f6⟩, fun b s hs => ?_, fun b g' hg' => ?_, hc.2.2.2.1, hc.2.2.2.2.1, fun z hz => ch_none (v := v) hc a2 z hz⟩, fun z z1 z2 => ap_n (by omega)⟩
    · obtain ⟨b1, b2, b3, b4⟩ := hc.2.1 b s hs
      have n1 := ne_k b2 a2 (by simp [kof])
      have n2 := ne_k b3 a2 (by simp [kof])
      have n3 := ne_k b4 a2 (by simp [kof])
      exact ⟨b1, by rw [ap_n n1]; exact b2, by rw [ap_n n2]; exact b3, by rw [ap_n n3]; exact b4⟩
    · by_cases e1 : b = q
      · subst e1
        have : g' = (g.1, g.2.1, x) := by
          simp only [sR, mkC, cR, up, if_true] at hg'
          exact (Option.some.inj hg').symm
        subst this
        exact ⟨a1, ap_s⟩
      · have hg2 : cR v b = some g' := by
          simp only [sR, mkC, cR, up, if_neg e1] at hg'
          exact hg'
        obtain ⟨b1, b2⟩ := hc.2.2.1 b g' hg2
        exact ⟨b1, by rw [ap_n e1]; exact b2⟩) a
end C2W
