/-! THE CLASS HOLDS IT: slots and addresses against ids -/
def OC {ρ : Type} (cg : Option (ρ × CV)) (Q : ρ → CV → Prop) : Prop := ∃ r v', cg = some (r, v') ∧ Q r v'
section OCR
variable {ρ : Type} {v : CV} {Q : ρ → CV → Prop}
theorem oc_ret {r : ρ} (h : Q r v) : OC (some (r, v)) Q := ⟨r, v, rfl, h⟩
theorem oc_rZ {x : Int32} {Q : Int32 → CV → Prop} (hx : x = 0 ∨ x = 1) (h : Q x v) : OC (rZc x v) Q := ⟨x, v, if_pos hx, h⟩
theorem oc_if {P : Prop} [Decidable P] {a b : Option (ρ × CV)} (ht : P → OC a Q) (hf : ¬ P → OC b Q) : OC (if P then a else b) Q := by
  by_cases hP : P
  · rw [if_pos hP]; exact ht hP
  · rw [if_neg hP]; exact hf hP
theorem oc_bn {σ : Type} {c : Option (σ × CV)} {K : σ → CV → Option (ρ × CV)} {Q1 : σ → CV → Prop} (hc : OC c Q1) (h : ∀ r v1, Q1 r v1 → OC (K r v1) Q) : OC (bnC c K) Q := by
  obtain ⟨r, v1, e, q⟩ := hc
  unfold bnC
  rw [e]
  exact h r v1 q
theorem oc_bnU {c : Option (Unit × CV)} {K : CV → Option (ρ × CV)} {Q1 : Unit → CV → Prop} (hc : OC c Q1) (h : ∀ v1, Q1 () v1 → OC (K v1) Q) : OC (bnCU c K) Q := by
  obtain ⟨r, v1, e, q⟩ := hc
  unfold bnCU
  rw [e]
  exact h v1 q
theorem oc_imp {cg : Option (ρ × CV)} {Q1 : ρ → CV → Prop} (hc : OC cg Q1) (h : ∀ r v1, Q1 r v1 → Q r v1) : OC cg Q := by
  obtain ⟨r, v1, e, q⟩ := hc
  exact ⟨r, v1, e, h r v1 q⟩
theorem inb_ok {α : Type} {n j : Nat} {i : Int32} {x : α} (hi : i = nI j) (hj : j < n) (hn : n ≤ 64) : inb n i x = some x := by
  subst hi
  unfold inb
  rw [nI_clamp (by omega), if_neg]
  rintro (q | q)
  · exact nI_pos (by omega) q
  · omega
theorem oc_okT {a : Nat} {t : TX} {K : Nat → Option (ρ × CV)} (ht : cT v a = some t) (h : OC (K a) Q) : OC ((okT v (some a)).bind K) Q := by
  have e : okT v (some a) = some a := by simp [okT, ht]
  rw [e]; exact h
theorem oc_okR {a : Nat} {t : RX} {K : Nat → Option (ρ × CV)} (ht : cR v a = some t) (h : OC (K a) Q) : OC ((okR v (some a)).bind K) Q := by
  have e : okR v (some a) = some a := by simp [okR, ht]
  rw [e]; exact h
theorem oc_tI {a k : Nat} {t : TX} {K : Int32 → Option (ρ × CV)} (ht : cT v a = some t) (h : OC (K (t.1 k)) Q) : OC ((tI v k (some a)).bind K) Q := by
  have e : tI v k (some a) = some (t.1 k) := by simp [tI, ht]
  rw [e]; exact h
theorem oc_tL {a : Nat} {t : TX} {K : Int64 → Option (ρ × CV)} (ht : cT v a = some t) (h : OC (K t.2.1) Q) : OC ((tL v (some a)).bind K) Q := by
  have e : tL v (some a) = some t.2.1 := by simp [tL, ht]
  rw [e]; exact h
theorem oc_gI {a k : Nat} {t : RX} {K : Int32 → Option (ρ × CV)} (ht : cR v a = some t) (h : OC (K (t.1 k)) Q) : OC ((gI v k (some a)).bind K) Q := by
  have e : gI v k (some a) = some (t.1 k) := by simp [gI, ht]
  rw [e]; exact h
theorem oc_gL {a k : Nat} {t : RX} {K : Int64 → Option (ρ × CV)} (ht : cR v a = some t) (h : OC (K (t.2.1 k)) Q) : OC ((gL v k (some a)).bind K) Q := by
  have e : gL v k (some a) = some (t.2.1 k) := by simp [gL, ht]
  rw [e]; exact h
theorem oc_gX {a : Nat} {t : RX} {K : Option Nat → Option (ρ × CV)} (ht : cR v a = some t) (h : OC (K t.2.2) Q) : OC ((gX v (some a)).bind K) Q := by
  have e : gX v (some a) = some t.2.2 := by simp [gX, ht]
  rw [e]; exact h
theorem oc_rE {i : Int32} {K : Option Nat → Option (ρ × CV)} (j : Nat) (hi : i = nI j) (hj : j < 6) (h : OC (K (cE v j)) Q) : OC ((rE v i).bind K) Q := by
  have e : rE v i = some (cE v j) := by unfold rE; rw [inb_ok hi hj (by decide), hi, nI_clamp (by omega)]
  rw [e]; exact h
theorem oc_rS {i : Int32} {K : Option Nat → Option (ρ × CV)} (j : Nat) (hi : i = nI j) (hj : j < 64) (h : OC (K (cS v j)) Q) : OC ((rS v i).bind K) Q := by
  have e : rS v i = some (cS v j) := by unfold rS; rw [inb_ok hi hj (by decide), hi, nI_clamp (by omega)]
  rw [e]; exact h
theorem oc_rV {i : Int32} {K : Int64 → Option (ρ × CV)} (j : Nat) (hi : i = nI j) (hj : j < 8) (h : OC (K (cV v j)) Q) : OC ((rV v i).bind K) Q := by
  have e : rV v i = some (cV v j) := by unfold rV; rw [inb_ok hi hj (by decide), hi, nI_clamp (by omega)]
  rw [e]; exact h
theorem oc_rB {i : Int32} {K : Int32 → Option (ρ × CV)} (j : Nat) (hi : i = nI j) (hj : j < 8) (h : OC (K (cF v j)) Q) : OC ((rB v i).bind K) Q := by
  have e : rB v i = some (cF v j) := by unfold rB; rw [inb_ok hi hj (by decide), hi, nI_clamp (by omega)]
  rw [e]; exact h
theorem oc_rF {a : Nat} {t : TX} {i : Int32} {K : Option Nat → Option (ρ × CV)} (ht : cT v a = some t) (j : Nat) (hi : i = nI j) (hj : j < 8) (h : OC (K (t.2.2.1 j)) Q) : OC ((rF v a i).bind K) Q := by
  have e : rF v a i = some (t.2.2.1 j) := by unfold rF; rw [ht]; show inb 8 i _ = _; rw [inb_ok hi hj (by decide), hi, nI_clamp (by omega)]
  rw [e]; exact h
theorem oc_rC {a : Nat} {t : TX} {i : Int32} {K : Int32 → Option (ρ × CV)} (ht : cT v a = some t) (j : Nat) (hi : i = nI j) (hj : j < 8) (h : OC (K (t.2.2.2 j)) Q) : OC ((rC v a i).bind K) Q := by
  have e : rC v a i = some (t.2.2.2 j) := by unfold rC; rw [ht]; show inb 8 i _ = _; rw [inb_ok hi hj (by decide), hi, nI_clamp (by omega)]
  rw [e]; exact h
theorem oc_wT {a k : Nat} {t : TX} {x : Int32} {K : CV → Option (ρ × CV)} (ht : cT v a = some t) (h : OC (K (sT v a (up t.1 k x, t.2))) Q) : OC ((wT v k (some a) x).bind K) Q := by
  have e : wT v k (some a) x = some (sT v a (up t.1 k x, t.2)) := by simp [wT, ht]
  rw [e]; exact h
theorem oc_wTZ {a : Nat} {t : TX} {x : Int32} {K : CV → Option (ρ × CV)} (ht : cT v a = some t) (hx : x = 0 ∨ x = 1) (h : OC (K (sT v a (up t.1 4 x, t.2))) Q) : OC ((wTZ v (some a) x).bind K) Q := by
  have e : wTZ v (some a) x = wT v 4 (some a) x := if_pos hx
  rw [e]; exact oc_wT ht h
theorem oc_wTL {a : Nat} {t : TX} {x : Int64} {K : CV → Option (ρ × CV)} (ht : cT v a = some t) (h : OC (K (sT v a (t.1, x, t.2.2))) Q) : OC ((wTL v (some a) x).bind K) Q := by
  have e : wTL v (some a) x = some (sT v a (t.1, x, t.2.2)) := by simp [wTL, ht]
  rw [e]; exact h
theorem oc_wX {a : Nat} {t : RX} {x : Option Nat} {K : CV → Option (ρ × CV)} (ht : cR v a = some t) (h : OC (K (sR v a (t.1, t.2.1, x))) Q) : OC ((wX v (some a) x).bind K) Q := by
  have e : wX v (some a) x = some (sR v a (t.1, t.2.1, x)) := by simp [wX, ht]
  rw [e]; exact h
theorem oc_wF {a : Nat} {t : TX} {i : Int32} {x : Option Nat} {K : CV → Option (ρ × CV)} (ht : cT v a = some t) (hx : rok v x = true) (j : Nat) (hi : i = nI j) (hj : j < 8) (h : OC (K (sT v a (t.1, t.2.1, up t.2.2.1 j x, t.2.2.2))) Q) : OC ((wF v a i x).bind K) Q := by
  have e : wF v a i x = some (sT v a (t.1, t.2.1, up t.2.2.1 j x, t.2.2.2)) := by unfold wF; rw [if_pos hx, ht]; show inb 8 i _ = _; rw [inb_ok hi hj (by decide), hi, nI_clamp (by omega)]
  rw [e]; exact h
theorem oc_wC {a : Nat} {t : TX} {i x : Int32} {K : CV → Option (ρ × CV)} (ht : cT v a = some t) (j : Nat) (hi : i = nI j) (hj : j < 8) (h : OC (K (sT v a (t.1, t.2.1, t.2.2.1, up t.2.2.2 j x))) Q) : OC ((wC v a i x).bind K) Q := by
  have e : wC v a i x = some (sT v a (t.1, t.2.1, t.2.2.1, up t.2.2.2 j x)) := by unfold wC; rw [ht]; show inb 8 i _ = _; rw [inb_ok hi hj (by decide), hi, nI_clamp (by omega)]
  rw [e]; exact h
theorem oc_wE {i : Int32} {x : Option Nat} {K : CV → Option (ρ × CV)} (hx : tok v x = true) (j : Nat) (hi : i = nI j) (hj : j < 6) (h : OC (K (mkC (cD v) (cV v) (cF v) (up (cE v) j x) (cS v) (cT v) (cR v) (cZ v))) Q) : OC ((wE v i x).bind K) Q := by
  have e : wE v i x = some (mkC (cD v) (cV v) (cF v) (up (cE v) j x) (cS v) (cT v) (cR v) (cZ v)) := by unfold wE; rw [if_pos hx, inb_ok hi hj (by decide), hi, nI_clamp (by omega)]
  rw [e]; exact h
theorem oc_wL {i : Int32} {x : Option Nat} {K : CV → Option (ρ × CV)} (hx : tok v x = true) (j : Nat) (hi : i = nI j) (hj : j < 64) (h : OC (K (mkC (cD v) (cV v) (cF v) (cE v) (up (cS v) j x) (cT v) (cR v) (cZ v))) Q) : OC ((wL v i x).bind K) Q := by
  have e : wL v i x = some (mkC (cD v) (cV v) (cF v) (cE v) (up (cS v) j x) (cT v) (cR v) (cZ v)) := by unfold wL; rw [if_pos hx, inb_ok hi hj (by decide), hi, nI_clamp (by omega)]
  rw [e]; exact h
theorem oc_wV {i : Int32} {x : Int64} {K : CV → Option (ρ × CV)} (j : Nat) (hi : i = nI j) (hj : j < 8) (h : OC (K (mkC (cD v) (up (cV v) j x) (cF v) (cE v) (cS v) (cT v) (cR v) (cZ v))) Q) : OC ((wV v i x).bind K) Q := by
  have e : wV v i x = some (mkC (cD v) (up (cV v) j x) (cF v) (cE v) (cS v) (cT v) (cR v) (cZ v)) := by unfold wV; rw [inb_ok hi hj (by decide), hi, nI_clamp (by omega)]
  rw [e]; exact h
theorem oc_wB {i x : Int32} {K : CV → Option (ρ × CV)} (hx : x = 0 ∨ x = 1) (j : Nat) (hi : i = nI j) (hj : j < 8) (h : OC (K (mkC (cD v) (cV v) (up (cF v) j x) (cE v) (cS v) (cT v) (cR v) (cZ v))) Q) : OC ((wB v i x).bind K) Q := by
  have e : wB v i x = some (mkC (cD v) (cV v) (up (cF v) j x) (cE v) (cS v) (cT v) (cR v) (cZ v)) := by unfold wB; rw [if_pos hx, inb_ok hi hj (by decide), hi, nI_clamp (by omega)]
  rw [e]; exact h
end OCR
/-- a chain of ranges -/
def gx (x : RX) : RG := (x.1 0, x.1 3, x.2.1 1, x.2.1 2)
def Ch (R : Nat → Option RX) : Option Nat → List RG → Prop
  | o, [] => o = none
  | o, g :: L => ∃ b x, o = some b ∧ R b = some x ∧ gx x = g ∧ Ch R x.2.2 L
theorem Ch_mono {R R' : Nat → Option RX} (h : ∀ b x, R b = some x → R' b = some x) : ∀ (L : List RG) (o : Option Nat), Ch R o L → Ch R' o L := by
  intro L
  induction L with
  | nil => intro o h; exact h
  | cons g L ih =>
    rintro o ⟨b, x, h1, h2, h3, h4⟩
    exact ⟨b, x, h1, h b x h2, h3, ih _ h4⟩
def Rg (R : Nat → Option RX) (o : Option Nat) (n : Int32) (g : RN) : Prop := ∃ L, Ch R o L ∧ L.length ≤ 8 ∧ n = nI L.length ∧ (∀ w, w ∈ L → w.1 = -1 ∨ ∃ y, y < 8 ∧ w.1 = nI y) ∧ (g.1 → ∃ w, w ∈ L ∧ w.1 = -1) ∧ (¬ g.1 → L.length = g.2.1 ∧ ∀ x, g.2.2 x ↔ x ∈ L)
theorem Rg_mono {R R' : Nat → Option RX} (h : ∀ b x, R b = some x → R' b = some x) {o : Option Nat} {n : Int32} {g : RN} (hg : Rg R o n g) : Rg R' o n g := by
  obtain ⟨L, h1, h2⟩ := hg
  exact ⟨L, Ch_mono h L o h1, h2⟩
def TR (A : Ab) (sl : Int32 → Nat) (q : Int32) (t : TX) : Prop := (t.1 0 = q ∧ t.1 1 = nI (sl q) ∧ t.1 2 = aF A 3 q ∧ t.1 3 = aF A 4 q ∧ t.1 6 = aF A 6 q) ∧ ((t.1 4 = 0 ∨ t.1 4 = 1) ∧ (t.1 4 ≠ 0 ↔ aD A q)) ∧ ∀ j, j < 64 → (tb t.2.1 j ↔ ∃ p, aK A p ∧ sl p = j ∧ aA A q p)
def CR (R : Nat → Option RX) (A : Ab) (q : Int32) (t : TX) : Prop := ∀ u, u < 8 → Rg R (t.2.2.1 u) (t.2.2.2 u) (aR A q u)
def CK (v : CV) (A : Ab) (sl ad : Int32 → Nat) : Prop := ∀ q, aK A q → sl q < 64 ∧ cS v (sl q) = some (ad q) ∧ ∃ t, cT v (ad q) = some t ∧ TR A sl q t ∧ CR (cR v) A q t
def CS (v : CV) (A : Ab) (sl ad : Int32 → Nat) : Prop := (∀ i a, i < 64 → cS v i = some a → ∃ q, aK A q ∧ sl q = i) ∧ ∀ s, s < 6 → (cE v s = none ∧ ∀ q, ¬ Run A (nI s) q) ∨ ∃ q, Run A (nI s) q ∧ cE v s = some (ad q)
def CN (v : CV) (A : Ab) : Prop := (cD v 4 = nI (aB A) ∧ cD v 5 = nI (aC A) ∧ cD v 3 = nI (cnt 64 (fun i => cS v i ≠ none))) ∧ (∀ j, j < 8 → (cF v j = 0 ∨ cF v j = 1) ∧ (cF v j ≠ 0 ↔ aH A j) ∧ cV v j = aL A j) ∧ (∀ a, cT v a ≠ none → a < (cZ v).1) ∧ ∀ b, cR v b ≠ none → b < (cZ v).1
def AC (v : CV) (A : Ab) (sl ad : Int32 → Nat) : Prop := CK v A sl ad ∧ CS v A sl ad ∧ CN v A
section ACR
variable {v : CV} {A : Ab} {sl ad : Int32 → Nat}
theorem AC.ks (h : AC v A sl ad) {q : Int32} (hq : aK A q) : sl q < 64 ∧ cS v (sl q) = some (ad q) := ⟨(h.1 q hq).1, (h.1 q hq).2.1⟩
theorem AC.t (h : AC v A sl ad) {q : Int32} (hq : aK A q) : ∃ t, cT v (ad q) = some t ∧ TR A sl q t ∧ CR (cR v) A q t := (h.1 q hq).2.2
theorem AC.adinj (h : AC v A sl ad) {p q : Int32} (hp : aK A p) (hq : aK A q) (e : ad p = ad q) : p = q := by
  obtain ⟨t, h1, h2, -⟩ := h.t hp
  obtain ⟨t', h1', h2', -⟩ := h.t hq
  rw [e, h1'] at h1
  cases h1
  rw [← h2.1.1, ← h2'.1.1]
theorem AC.slinj (h : AC v A sl ad) {p q : Int32} (hp : aK A p) (hq : aK A q) (e : sl p = sl q) : p = q := by
  have h1 := (h.ks hp).2
  rw [e, (h.ks hq).2] at h1
  exact h.adinj hp hq (Option.some.inj h1).symm
theorem AC.at (h : AC v A sl ad) {i a : Nat} (hi : i < 64) (e : cS v i = some a) : ∃ q, aK A q ∧ sl q = i ∧ ad q = a := by
  obtain ⟨q, h1, h2⟩ := h.2.1.1 i a hi e
  refine ⟨q, h1, h2, ?_⟩
  have := (h.ks h1).2
  rw [h2, e] at this
  exact (Option.some.inj this).symm
/-- one transaction changes, the rest stays -/
theorem ac_upd (h : AC v A sl ad) {v' : CV} {A' : Ab} {q : Int32} {t' : TX} (hq : aK A q) (hD : cD v' = cD v) (hV : cV v' = cV v) (hF : cF v' = cF v) (hE : cE v' = cE v) (hS : cS v' = cS v) (hR : cR v' = cR v) (hZ : cZ v' = cZ v) (hT : ∀ b, b ≠ ad q → cT v' b = cT v b) (ht : cT v' (ad q) = some t') (eB : aB A' = aB A) (eC : aC A' = aC A) (eK : aK A' = aK A) (eF2 : aF A' 2 = aF A 2) (eH : aH A' = aH A) (eL : aL A' = aL A) (eF : ∀ d z, z ≠ q → d = 3 ∨ d = 4 ∨ d = 6 → aF A' d z = aF A d z) (eD : ∀ z, z ≠ q → (aD A' z ↔ aD A z)) (eA : ∀ z p, z ≠ q → (aA A' z p ↔ aA A z p)) (eR : ∀ z, z ≠ q → aR A' z = aR A z) (hTR : TR A' sl q t') (hCR : CR (cR v) A' q t') : AC v' A' sl ad := by
  obtain ⟨h1, h2, h3⟩ := h
  refine ⟨fun z hz => ?_, ⟨fun i a hi e => ?_, fun s hs => ?_⟩, ⟨⟨?_, ?_, ?_⟩, fun j hj => ?_, fun a ha => ?_, fun b hb => ?_⟩⟩
  · rw [eK] at hz
    obtain ⟨k1, k2, t, k3, k4, k5⟩ := h1 z hz
    refine ⟨k1, by rw [hS]; exact k2, ?_⟩
    by_cases e : z = q
    · subst e
      exact ⟨t', ht, hTR, by rw [hR]; exact hCR⟩
    · refine ⟨t, ?_, ?_, ?_⟩
      · rw [hT]
        · exact k3
        · exact fun w => e (AC.adinj ⟨h1, h2, h3⟩ hz hq w)
      · obtain ⟨⟨t0, t1, t2, t3, t4⟩, ⟨t5, t6⟩, t7⟩ := k4
        refine ⟨⟨t0, t1, ?_, ?_, ?_⟩, ⟨t5, ?_⟩, fun j hj => ?_⟩
        · rw [eF 3 z e (Or.inl rfl)]; exact t2
        · rw [eF 4 z e (Or.inr (Or.inl rfl))]; exact t3
        · rw [eF 6 z e (Or.inr (Or.inr rfl))]; exact t4
        · rw [eD z e]; exact t6
        · rw [t7 j hj, eK]
          exact exists_congr (fun p => and_congr_right (fun _ => and_congr_right (fun _ => (eA z p e).symm)))
      · unfold CR
        rw [hR, eR z e]; exact k5
  · rw [hS] at e
    rw [eK]
    exact h2.1 i a hi e
  · have hrun : ∀ s z, Run A' s z ↔ Run A s z := fun s z => by unfold Run; rw [eK, eF2]
    rw [hE]
    rcases h2.2 s hs with ⟨w1, w2⟩ | ⟨z, w1, w2⟩
    · exact Or.inl ⟨w1, fun z hz => w2 z ((hrun _ z).mp hz)⟩
    · exact Or.inr ⟨z, (hrun _ z).mpr w1, w2⟩
  · rw [hD, eB]; exact h3.1.1
  · rw [hD, eC]; exact h3.1.2.1
  · rw [hD, hS]; exact h3.1.2.2
  · rw [hF, hV, eH, eL]; exact h3.2.1 j hj
  · rw [hZ]
    by_cases e : a = ad q
    · subst e
      obtain ⟨t, k, -⟩ := AC.t ⟨h1, h2, h3⟩ hq
      exact h3.2.2.1 _ (by rw [k]; exact fun w => by cases w)
    · rw [hT a e] at ha; exact h3.2.2.1 a ha
  · rw [hZ]; rw [hR] at hb; exact h3.2.2.2 b hb
end ACR
