section C2N
variable {ρ : Type} {X : Nat} {h : AH} {v : CV} {cg : Option (ρ × CV)}
theorem ch_lt {q : Nat} {e : AE} (hc : CH X v h) (hq : h.1 q = some e) : q < (cZ v).1 := by
  rcases Nat.lt_or_ge q (cZ v).1 with l | l
  · exact l
  · rw [hc.2.2.2.2.2 q l] at hq
    cases hq
theorem c2_nO {ci n : Nat} {fs : List Value} {K : Nat → AH → Option (ρ × AH)} {Kg : Nat → CV → Option (ρ × CV)} (hn : fs.length = n) (a : ∀ h1, h1.1 (cZ v).1 = some (.inr (ci, fs)) → C2 X h1 (grow v 1 n) (K (cZ v).1 h1) (Kg (cZ v).1 (grow v 1 n))) : C2 X h v (nOk h ci fs K) (nOv v n Kg) := fun hc r v' e => by
  subst hn
  have hz : h.2.1 = (cZ v).1 := by rw [hc.2.2.2.1]
  have e1 : nOk h ci fs K = K (cZ v).1 (apush h (.inr (ci, fs)) fs.length) := by
    unfold nOk
    rw [hz]
  have old : ∀ q e, h.1 q = some e → (apush h (.inr (ci, fs)) fs.length).1 q = some e := fun q e hq => by
    have := ch_lt hc hq
    simp only [apush]
    rw [if_neg (by omega)]
    exact hq
  have hX := hc.2.2.2.2.1
  obtain ⟨f1, f2, f3, f4, f5, f6⟩ := hc.1
  have hc1 : CH X (grow v 1 fs.length) (apush h (.inr (ci, fs)) fs.length) := by
    refine ⟨⟨old _ _ f1, old _ _ f2, old _ _ f3, old _ _ f4, old _ _ f5, old _ _ f6⟩, fun b t ht => ?_, fun b g hg => ?_, ?_, ?_, fun q hq => ?_⟩
    · obtain ⟨b1, b2, b3, b4⟩ := hc.2.1 b t ht
      exact ⟨b1, old _ _ b2, old _ _ b3, old _ _ b4⟩
    · obtain ⟨b1, b2⟩ := hc.2.2.1 b g hg
      exact ⟨b1, old _ _ b2⟩
    · show (h.2.1 + 1, h.2.2 + fs.length) = ((cZ v).1 + 1, (cZ v).2 + fs.length)
      rw [hc.2.2.2.1]
    · show X + 26 ≤ (cZ v).1 + 1
      omega
    · have hq : (cZ v).1 + 1 ≤ q := hq
      simp only [apush]
      rw [if_neg (by omega)]
      exact hc.2.2.2.2.2 q (by omega)
  have hr : (apush h (.inr (ci, fs)) fs.length).1 (cZ v).1 = some (.inr (ci, fs)) := by
    simp only [apush]
    rw [if_pos hz.symm]
  obtain ⟨h2, g1, g2, g3⟩ := a _ hr hc1 r v' e
  refine ⟨h2, e1.trans g1, g2, FC_trans (fun q q1 q2 => ?_) g3⟩
  simp only [apush]
  rw [if_neg (by omega)]
theorem c2_initT {q : Nat} {x1 x2 x3 : Int32} {K : AH → Option (ρ × AH)} (hraw : h.1 q = some (.inr (1, [.int 0, .int 0, .int 0, .int 0, .int 0, .long 0, .int 0, .null, .null]))) (hz : (cZ v).1 = q + 1) (hq : X + 26 ≤ q) (a : ∀ h1, C2 X h1 (addT v q x1 x2 x3) (K h1) cg) : C2 X h v (bndU (f_T_init q x1 x2 x3 h) K) cg := fun hc r v' e => by
  have hz2 : h.2.1 = q + 1 := by rw [hc.2.2.2.1]; exact hz
  obtain ⟨u, H, eH, g1, g2, g3, g4, g5, g6⟩ := T_init_ok hraw hz2 x1 x2 x3
  have old : ∀ b e, b ≠ q → h.1 b = some e → H.1 b = some e := fun b e hb hq => by
    have := ch_lt hc hq
    rw [g4 b hb (by omega) (by omega)]
    exact hq
  obtain ⟨f1, f2, f3, f4, f5, f6⟩ := hc.1
  have hcH : CH X (addT v q x1 x2 x3) H := by
    refine ⟨⟨old _ _ (by omega) f1, old _ _ (by omega) f2, old _ _ (by omega) f3, old _ _ (by omega) f4, old _ _ (by omega) f5, old _ _ (by omega) f6⟩, fun b t ht => ?_, fun b g hg => ?_, ?_, ?_, fun z hz3 => ?_⟩
    · by_cases e1 : b = q
      · subst e1
        have : t = (fun k => if k = 0 then x1 else if k = 1 then x2 else if k = 2 then x3 else 0, 0, fun _ => none, fun _ => 0) := by
          simp only [addT, grow, sT, mkC, cT, up, if_true] at ht
          exact (Option.some.inj ht).symm
        subst this
        exact ⟨hq, g1, g2, g3⟩
      · have ht2 : cT v b = some t := by
          simp only [addT, grow, sT, mkC, cT, up, if_neg e1] at ht
          exact ht
        obtain ⟨b1, b2, b3, b4⟩ := hc.2.1 b t ht2
        have n1 := ne_k b3 hraw (by simp [kof])
        have n2 := ne_k b4 hraw (by simp [kof])
        exact ⟨b1, old _ _ e1 b2, old _ _ n1 b3, old _ _ n2 b4⟩
    · obtain ⟨b1, b2⟩ := hc.2.2.1 b g hg
      exact ⟨b1, old _ _ (ne_k b2 hraw (by simp [kof])) b2⟩
    · show H.2 = ((cZ v).1 + 2, (cZ v).2 + 16)
      rw [hz, show (cZ v).2 = h.2.2 by rw [hc.2.2.2.1]]
      exact Prod.ext (by rw [g5]) (by rw [g6])
    · show X + 26 ≤ (cZ v).1 + 2
      omega
    · have hz3 : (cZ v).1 + 2 ≤ z := hz3
      rw [g4 z (by omega) (by omega) (by omega)]
      exact hc.2.2.2.2.2 z (by omega)
  obtain ⟨h2, q1, q2, q3⟩ := a H hcH r v' e
  refine ⟨h2, ?_, q2, FC_trans (fun z z1 z2 => g4 z (by omega) (by omega) (by omega)) q3⟩
  unfold bndU
  rw [eH]
  exact q1
theorem c2_initR {q : Nat} {x1 x6 : Int32} {x2 x4 : Int64} {K : AH → Option (ρ × AH)} (hraw : h.1 q = some (.inr (0, [.int 0, .long 0, .long 0, .int 0, .null]))) (hq : X + 26 ≤ q) (a : ∀ h1, C2 X h1 (addR v q x1 x2 x4 x6) (K h1) cg) : C2 X h v (bndU (f_R_init q x1 x2 x4 x6 h) K) cg := fun hc r v' e => by
  obtain ⟨u, H, eH, g1, g2, g3⟩ := R_init_ok hraw x1 x2 x4 x6
  obtain ⟨f1, f2, f3, f4, f5, f6⟩ := hc.1
  have hlt := ch_lt hc hraw
  have hcH : CH X (addR v q x1 x2 x4 x6) H := by
    refine ⟨⟨by rw [g2 _ (by omega)]; exact f1, by rw [g2 _ (by omega)]; exact f2, by rw [g2 _ (by omega)]; exact f3, by rw [g2 _ (by omega)]; exact f4, by rw [g2 _ (by omega)]; exact f5, by rw [g2 _ (by omega)]; exact f6⟩, fun b t ht => ?_, fun b g hg => ?_, by rw [g3]; exact hc.2.2.2.1, hc.2.2.2.2.1, fun z hz3 => ?_⟩
    · obtain ⟨b1, b2, b3, b4⟩ := hc.2.1 b t ht
      exact ⟨b1, by rw [g2 _ (ne_k b2 hraw (by simp [kof]))]; exact b2, by rw [g2 _ (ne_k b3 hraw (by simp [kof]))]; exact b3, by rw [g2 _ (ne_k b4 hraw (by simp [kof]))]; exact b4⟩
    · by_cases e1 : b = q
      · subst e1
        have : g = (fun k => if k = 0 then x1 else x6, fun k => if k = 1 then x2 else x4, none) := by
          simp only [addR, sR, mkC, cR, up, if_true] at hg
          exact (Option.some.inj hg).symm
        subst this
        exact ⟨hq, g1⟩
      · have hg2 : cR v b = some g := by
          simp only [addR, sR, mkC, cR, up, if_neg e1] at hg
          exact hg
        obtain ⟨b1, b2⟩ := hc.2.2.1 b g hg2
        exact ⟨b1, by rw [g2 _ e1]; exact b2⟩
    · have hz3 : (cZ v).1 ≤ z := hz3
      rw [g2 z (by omega)]
      exact hc.2.2.2.2.2 z hz3
  obtain ⟨h2, q1, q2, q3⟩ := a H hcH r v' e
  refine ⟨h2, ?_, q2, FC_trans (fun z z1 z2 => g2 z (by omega)) q3⟩
  unfold bndU
  rw [eH]
  exact q1
/-- the heap's end lies behind the two systems -/
theorem c2_hi {cf : Option (ρ × AH)} (a : X + 26 ≤ (cZ v).1 → C2 X h v cf cg) : C2 X h v cf cg := fun hc => a hc.2.2.2.2.1 hc
end C2N
