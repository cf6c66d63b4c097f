/-! drop, forget, commit and abort, in the class -/
section KD
variable {v : CV} {A : Ab} {sl ad : Int32 → Nat}
/-- the states agree on those that are kept -/
theorem ac_congr (h : AC v A sl ad) {B : Ab} (eB : aB B = aB A) (eC : aC B = aC A) (eK : ∀ q, aK B q ↔ aK A q) (eF : ∀ d q, aK A q → aF B d q = aF A d q) (eD : ∀ q, aK A q → (aD B q ↔ aD A q)) (eA : ∀ p q, aK A p → aK A q → (aA B p q ↔ aA A p q)) (eR : ∀ q, aK A q → aR B q = aR A q) (eH : aH B = aH A) (eL : aL B = aL A) : AC v B sl ad := by
  obtain ⟨h1, h2, h3⟩ := h
  have hrun : ∀ s q, Run B s q ↔ Run A s q := fun s q => by
    unfold Run
    constructor
    · rintro ⟨a, b, c⟩
      have b' := (eK q).mp b
      exact ⟨a, b', by rw [← eF 2 q b']; exact c⟩
    · rintro ⟨a, b, c⟩
      exact ⟨a, (eK q).mpr b, by rw [eF 2 q b]; exact c⟩
  refine ⟨fun q hq => ?_, ⟨fun i a hi e => ?_, fun s hs => ?_⟩, ⟨⟨by rw [eB]; exact h3.1.1, by rw [eC]; exact h3.1.2.1, h3.1.2.2⟩, fun j hj => by rw [eH, eL]; exact h3.2.1 j hj, h3.2.2⟩⟩
  · have hq' := (eK q).mp hq
    obtain ⟨k1, k2, t, k3, ⟨⟨t0, t1, t2, t3, t4⟩, ⟨t5, t6⟩, t7⟩, k5⟩ := h1 q hq'
    refine ⟨k1, k2, t, k3, ⟨⟨t0, t1, by rw [eF 3 q hq']; exact t2, by rw [eF 4 q hq']; exact t3, by rw [eF 6 q hq']; exact t4⟩, ⟨t5, by rw [eD q hq']; exact t6⟩, fun j hj => ?_⟩, ?_⟩
    · rw [t7 j hj]
      constructor
      · rintro ⟨p, p1, p2, p3⟩
        exact ⟨p, (eK p).mpr p1, p2, (eA q p hq' p1).mpr p3⟩
      · rintro ⟨p, p1, p2, p3⟩
        have p1' := (eK p).mp p1
        exact ⟨p, p1', p2, (eA q p hq' p1').mp p3⟩
    · unfold CR
      rw [eR q hq']; exact k5
  · obtain ⟨q, w1, w2⟩ := h2.1 i a hi e
    exact ⟨q, (eK q).mpr w1, w2⟩
  · rcases h2.2 s hs with ⟨w1, w2⟩ | ⟨q, w1, w2⟩
    · exact Or.inl ⟨w1, fun q hq => w2 q ((hrun _ q).mp hq)⟩
    · exact Or.inr ⟨q, (hrun _ q).mpr w1, w2⟩
def DrC (v v1 : CV) (A : Ab) (sl ad : Int32 → Nat) (q : Int32) (j : Nat) : Prop := ((∀ k, k ≠ 3 → cD v1 k = cD v k) ∧ cD v1 3 = (if sl q < j then cD v 3 - 1 else cD v 3) ∧ cV v1 = cV v ∧ cF v1 = cF v ∧ cE v1 = cE v ∧ cR v1 = cR v ∧ cZ v1 = cZ v) ∧ (∀ i, cS v1 i = if i = sl q ∧ sl q < j then none else cS v i) ∧ (∀ a, cT v1 a ≠ none → cT v a ≠ none) ∧ ∀ z t, aK A z → cT v (ad z) = some t → ∃ t1, cT v1 (ad z) = some t1 ∧ t1.1 = t.1 ∧ t1.2.2 = t.2.2 ∧ t1.2.1 = if z ≠ q ∧ sl z < j then t.2.1 &&& ((1 : Int64) <<< (Int32.toInt64 (nI (sl q)) &&& 63) ^^^ -1) else t.2.1
theorem k_drop_f (h : AC v A sl ad) {q : Int32} (hq : aK A q) : OC (cv_D_drop (some (ad q)) v) (fun _ v' => DrC v v' A sl ad q 64) := by
  have key : ∀ (n j : Nat) (v1 : CV), j ≤ 64 → 64 - j < n → DrC v v1 A sl ad q j → OC (cv_D_drop_b2 n (some (ad q)) (nI j) v1) (fun _ v' => DrC v v' A sl ad q 64) := by
    intro n
    induction n with
    | zero => intro j v1 _ h; omega
    | succ n ih =>
      intro j v1 hj hn hd
      rw [cv_D_drop_b2]
      refine oc_if (fun hle => oc_ret ?_) (fun hlt => ?_)
      · rw [nI_leI (by omega) (by omega)] at hle
        rw [show j = 64 by omega] at hd
        exact hd
      rw [nI_leI (by omega) (by omega)] at hlt
      rw [nI_1 j]
      obtain ⟨⟨d1, d2, d3, d4, d5, d6, d7⟩, d8, d9, d10⟩ := hd
      have hsj : cS v1 j = cS v j := by
        rw [d8]
        by_cases e : j = sl q
        · rw [if_neg (by omega)]
        · rw [if_neg (fun w => e w.1)]
      obtain ⟨tq, htq, hTq, -⟩ := h.t hq
      refine oc_rS j rfl (by omega) ?_
      rw [hsj]
      refine oc_if (fun e => ?_) (fun e => oc_if (fun e2 => ?_) (fun e2 => ?_))
      · -- the one that goes
        obtain ⟨y, hy, hs, had⟩ := h.at (by omega) e
        have hyq := h.adinj hy hq had
        subst hyq
        refine oc_wL rfl j rfl (by omega) (ih (j + 1) _ (by omega) (by omega) ⟨⟨fun k hk => ?_, ?_, d3, d4, d5, d6, d7⟩, fun i => ?_, d9, fun z t hz ht => ?_⟩)
        · show up (cD v1) 3 _ k = _
          rw [up_ne hk]; exact d1 k hk
        · show up (cD v1) 3 (cD v1 3 - 1) 3 = _
          rw [up_at, d2, if_neg (by omega), if_pos (by omega)]
        · show up (cS v1) j none i = _
          by_cases ei : i = j
          · subst ei
            rw [up_at, if_pos ⟨hs.symm, by omega⟩]
          · rw [up_ne ei, d8, if_neg (fun w => by omega), if_neg (fun w => by omega)]
        · obtain ⟨t1, a1, a2, a3, a4⟩ := d10 z t hz ht
          refine ⟨t1, a1, a2, a3, ?_⟩
          rw [a4]
          by_cases ez : z = y
          · rw [if_neg (fun w => w.1 ez), if_neg (fun w => w.1 ez)]
          · have : sl z ≠ j := fun w => ez (h.slinj hz hy (by omega))
            by_cases c : sl z < j
            · rw [if_pos ⟨ez, c⟩, if_pos ⟨ez, by omega⟩]
            · rw [if_neg (fun w => c w.2), if_neg (fun w => by omega)]
      · -- none there
        have nq : sl q ≠ j := fun w => by
          have := (h.ks hq).2
          rw [w, e2] at this
          cases this
        refine ih (j + 1) v1 (by omega) (by omega) ⟨⟨d1, ?_, d3, d4, d5, d6, d7⟩, fun i => ?_, d9, fun z t hz ht => ?_⟩
        · rw [d2]
          by_cases c : sl q < j
          · rw [if_pos c, if_pos (by omega)]
          · rw [if_neg c, if_neg (by omega)]
        · rw [d8]
          by_cases c : i = sl q ∧ sl q < j
          · rw [if_pos c, if_pos ⟨c.1, by omega⟩]
          · rw [if_neg c, if_neg (fun w => c ⟨w.1, by omega⟩)]
        · obtain ⟨t1, a1, a2, a3, a4⟩ := d10 z t hz ht
          refine ⟨t1, a1, a2, a3, ?_⟩
          have nz : sl z ≠ j := fun w => by
            have := (h.ks hz).2
            rw [w, e2] at this
            cases this
          rw [a4]
          by_cases c : z ≠ q ∧ sl z < j
          · rw [if_pos c, if_pos ⟨c.1, by omega⟩]
          · rw [if_neg c, if_neg (fun w => c ⟨w.1, by omega⟩)]
      · -- another one
        obtain ⟨a, ea⟩ := Option.ne_none_iff_exists'.mp e2
        obtain ⟨y, hy, hs, had⟩ := h.at (by omega) ea
        have hyq : y ≠ q := fun w => e (by rw [ea, ← had, w])
        have nq : sl q ≠ j := fun w => hyq (h.slinj hy hq (by omega))
        obtain ⟨ty, hty, -⟩ := h.t hy
        obtain ⟨t1, a1, a2, a3, a4⟩ := d10 y ty hy hty
        obtain ⟨t2, b1, b2, -, -⟩ := d10 q tq hq htq
        rw [ea, ← had]
        unfold cv_T_forgetArrowTo
        refine oc_okT a1 (oc_bnU (oc_tL a1 (oc_tI b1 (oc_wTL a1 (oc_ret (Q := fun _ v' => v' = sT v1 (ad y) (t1.1, t1.2.1 &&& ((1 : Int64) <<< (Int32.toInt64 (t2.1 1) &&& 63) ^^^ -1), t1.2.2)) rfl)))) ?_)
        rintro v2 rfl
        have e1 : t2.1 1 = nI (sl q) := by rw [b2]; exact hTq.1.2.1
        rw [e1]
        refine ih (j + 1) _ (by omega) (by omega) ⟨⟨d1, ?_, d3, d4, d5, d6, d7⟩, fun i => ?_, fun a ha => ?_, fun z t hz ht => ?_⟩
        · show cD v1 3 = _
          rw [d2]
          by_cases c : sl q < j
          · rw [if_pos c, if_pos (by omega)]
          · rw [if_neg c, if_neg (by omega)]
        · show cS v1 i = _
          rw [d8]
          by_cases c : i = sl q ∧ sl q < j
          · rw [if_pos c, if_pos ⟨c.1, by omega⟩]
          · rw [if_neg c, if_neg (fun w => c ⟨w.1, by omega⟩)]
        · by_cases c : a = ad y
          · rw [c, hty]; exact fun w => by cases w
          · rw [sT_ne c] at ha; exact d9 a ha
        · by_cases c : z = y
          · subst c
            rw [hty] at ht
            cases ht
            refine ⟨_, sT_at, a2, a3, ?_⟩
            show t1.2.1 &&& _ = _
            rw [a4, if_neg (by omega), if_pos ⟨hyq, by omega⟩]
          · obtain ⟨t3, g1, g2, g3, g4⟩ := d10 z t hz ht
            refine ⟨t3, ?_, g2, g3, ?_⟩
            · rw [sT_ne (fun w => c (h.adinj hz hy w))]; exact g1
            · have nz : sl z ≠ j := fun w => c (h.slinj hz hy (by omega))
              rw [g4]
              by_cases c2 : z ≠ q ∧ sl z < j
              · rw [if_pos c2, if_pos ⟨c2.1, by omega⟩]
              · rw [if_neg c2, if_neg (fun w => c2 ⟨w.1, by omega⟩)]
  refine key 2000 0 v (by omega) (by omega) ⟨⟨fun _ _ => rfl, by rw [if_neg (by omega)], rfl, rfl, rfl, rfl, rfl⟩, fun i => by rw [if_neg (by omega)], fun _ h => h, fun z t hz ht => ⟨t, ht, rfl, rfl, by rw [if_neg (by omega)]⟩⟩
theorem k_drop (h : AC v A sl ad) {q : Int32} (hq : aK A q) (hses : ∀ s, s < 6 → ¬ Run A (nI s) q) : OC (cv_D_drop (some (ad q)) v) (fun _ v' => AC v' (kpA A (fun z => z ≠ q)) sl ad) := by
  refine oc_imp (k_drop_f h hq) ?_
  rintro _ v' ⟨⟨d1, d2, d3, d4, d5, d6, d7⟩, d8, d9, d10⟩
  have hsq := (h.ks hq).1
  have S : ∀ i, cS v' i = if i = sl q then none else cS v i := fun i => by
    rw [d8]
    by_cases c : i = sl q
    · rw [if_pos ⟨c, hsq⟩, if_pos c]
    · rw [if_neg (fun w => c w.1), if_neg c]
  refine ⟨fun z hz => ?_, ⟨fun i a hi e => ?_, fun s hs => ?_⟩, ⟨⟨?_, ?_, ?_⟩, fun j hj => ?_, fun a ha => ?_, fun b hb => ?_⟩⟩
  · obtain ⟨hz1, hz2⟩ := hz
    obtain ⟨k1, k2, t, k3, ⟨⟨t0, t1, t2, t3, t4⟩, ⟨t5, t6⟩, t7⟩, k5⟩ := h.1 z hz1
    have nz : sl z ≠ sl q := fun w => hz2 (h.slinj hz1 hq w)
    obtain ⟨u, a1, a2, a3, a4⟩ := d10 z t hz1 k3
    rw [if_pos ⟨hz2, k1⟩] at a4
    refine ⟨k1, by rw [S, if_neg nz]; exact k2, u, a1, ⟨⟨by rw [a2]; exact t0, by rw [a2]; exact t1, by rw [a2]; exact t2, by rw [a2]; exact t3, by rw [a2]; exact t4⟩, ⟨by rw [a2]; exact t5, by rw [a2]; exact t6⟩, fun j hj => ?_⟩, ?_⟩
    · rw [a4, tb_cl hsq hj, t7 j hj]
      constructor
      · rintro ⟨⟨p, p1, p2, p3⟩, hne⟩
        exact ⟨p, ⟨p1, fun w => hne (by rw [← p2, w])⟩, p2, p3⟩
      · rintro ⟨p, ⟨p1, p4⟩, p2, p3⟩
        exact ⟨⟨p, p1, p2, p3⟩, fun w => p4 (h.slinj p1 hq (by omega))⟩
    · unfold CR
      rw [a3, d6]; exact k5
  · rw [S] at e
    by_cases c : i = sl q
    · rw [if_pos c] at e; cases e
    · rw [if_neg c] at e
      obtain ⟨p, p1, p2⟩ := h.2.1.1 i a hi e
      exact ⟨p, ⟨p1, fun w => c (by rw [← p2, w])⟩, p2⟩
  · rw [d5]
    rcases h.2.1.2 s hs with ⟨w1, w2⟩ | ⟨p, w1, w2⟩
    · exact Or.inl ⟨w1, fun z hz => w2 z ⟨hz.1, hz.2.1.1, hz.2.2⟩⟩
    · exact Or.inr ⟨p, ⟨w1.1, ⟨w1.2.1, fun e => hses s hs (e ▸ w1)⟩, w1.2.2⟩, w2⟩
  · rw [d1 4 (by decide)]; exact h.2.2.1.1
  · rw [d1 5 (by decide)]; exact h.2.2.1.2.1
  · rw [d2, if_pos hsq, h.2.2.1.2.2]
    have hc : cnt 64 (fun i => cS v i ≠ none) = cnt 64 (fun i => cS v' i ≠ none) + 1 := by
      refine cnt_add (j := sl q) hsq (fun w => w (by rw [S, if_pos rfl])) (fun i hi => ⟨fun w => ?_, fun w => ?_⟩)
      · by_cases c : i = sl q
        · exact Or.inr c
        · exact Or.inl (by rw [S, if_neg c]; exact w)
      · rcases w with w | w
        · rw [S] at w
          by_cases c : i = sl q
          · rw [if_pos c] at w; exact absurd rfl w
          · rw [if_neg c] at w; exact w
        · rw [w, (h.ks hq).2]; exact fun z => by cases z
    rw [hc, nI_pred]
  · rw [d3, d4]; exact h.2.2.2.1 j hj
  · rw [d7]; exact h.2.2.2.2.1 a (d9 a ha)
  · rw [d7]; rw [d6] at hb; exact h.2.2.2.2.2 b hb
theorem k_earliest (hA : AI A) (h : AC v A sl ad) : OC (cv_D_commitsAtEarliestBegin v) (fun r v' => v' = v ∧ r ≤ nI (aC A) ∧ (∀ s q, s < 6 → Run A (nI s) q → r ≤ aF A 3 q) ∧ (r = nI (aC A) ∨ ∃ s q, s < 6 ∧ Run A (nI s) q ∧ r = aF A 3 q)) := by
  have key : ∀ (n j : Nat) (x : Int32), j ≤ 6 → 6 - j < n → x ≤ nI (aC A) → (∀ s q, s < j → Run A (nI s) q → x ≤ aF A 3 q) → (x = nI (aC A) ∨ ∃ s q, s < 6 ∧ Run A (nI s) q ∧ x = aF A 3 q) → OC (cv_D_commitsAtEarliestBegin_b7 n x (nI j) v) (fun r v' => v' = v ∧ r ≤ nI (aC A) ∧ (∀ s q, s < 6 → Run A (nI s) q → r ≤ aF A 3 q) ∧ (r = nI (aC A) ∨ ∃ s q, s < 6 ∧ Run A (nI s) q ∧ r = aF A 3 q)) := by
    intro n
    induction n with
    | zero => intro j x _ h; omega
    | succ n ih =>
      intro j x hj hn h1 h2 h3
      rw [cv_D_commitsAtEarliestBegin_b7]
      refine oc_if (fun hle => oc_ret ?_) (fun hlt => ?_)
      · rw [nI_leI (by clear h3; omega) (by clear h3; omega)] at hle
        exact ⟨rfl, h1, fun s q hs => h2 s q (by clear h3; omega), h3⟩
      rw [nI_leI (by clear h3; omega) (by clear h3; omega)] at hlt
      have q0 : j < 6 := by clear h3; omega
      have q1 : j + 1 ≤ 6 := q0
      have q2 : 6 - (j + 1) < n := by clear h3; omega
      rw [nI_1 j]
      refine oc_rE j rfl q0 ?_
      rcases h.2.1.2 j q0 with ⟨w1, w2⟩ | ⟨q, w1, w2⟩
      · rw [w1]
        refine oc_if (fun _ => ih (j + 1) x q1 q2 h1 (fun s p hs hp => ?_) h3) (fun e => absurd rfl e)
        by_cases c : s = j
        · subst c; exact absurd hp (w2 p)
        · exact h2 s p (by clear h3; omega) hp
      · rw [w2]
        obtain ⟨t, ht, hT, -⟩ := h.t w1.2.1
        refine oc_if (fun e => by cases e) (fun _ => oc_tI ht ?_)
        rw [hT.1.2.2.1]
        refine oc_if (fun e => ih (j + 1) x q1 q2 h1 (fun s p hs hp => ?_) h3) (fun e => oc_tI ht ?_)
        · by_cases c : s = j
          · subst c; rw [hA.one hp w1]; exact e
          · exact h2 s p (by clear h3; omega) hp
        · rw [hT.1.2.2.1]
          have lt : aF A 3 q < x := Int32.not_le.mp e
          have tr : ∀ y : Int32, x ≤ y → aF A 3 q ≤ y := fun y hy => by
            rw [Int32.lt_iff_toInt_lt] at lt
            rw [Int32.le_iff_toInt_le] at hy ⊢
            omega
          refine ih (j + 1) _ q1 q2 (tr _ h1) (fun s p hs hp => ?_) (Or.inr ⟨j, q, q0, w1, rfl⟩)
          by_cases c : s = j
          · subst c; rw [hA.one hp w1]; exact Int32.le_refl _
          · exact tr _ (h2 s p (by clear h3; omega) hp)
  unfold cv_D_commitsAtEarliestBegin
  have e5 : cD v 5 = nI (aC A) := h.2.2.1.2.1
  rw [e5]
  exact key 2000 0 _ (by omega) (by omega) (Int32.le_refl _) (fun s q hs => by omega) (Or.inl rfl)
theorem k_forget (hA : AI A) (h : AC v A sl ad) : OC (cv_D_dropNoLongerKept v) (fun _ v' => AC v' (fgA A) sl ad) := by
  unfold cv_D_dropNoLongerKept
  refine oc_bn (k_earliest hA h) ?_
  rintro e v1 ⟨rfl, e1, e2, e3⟩
  have gone : ∀ z, aK A z → aF A 4 z ≠ 0 → aF A 4 z ≤ e → ¬ stays A z := by
    rintro z hz h0 hle (w | ⟨y, y1, y2, y3⟩)
    · exact h0 w
    · rcases hA.2.2.2.1 y y1 with ⟨-, s, hs, es⟩ | ⟨-, p, p1, p2, ep⟩
      · have := e2 s y hs ⟨Int32.not_lt.mp (nI_pos (by omega)), y1, es⟩
        rw [Int32.le_iff_toInt_le] at this hle
        rw [Int32.lt_iff_toInt_lt] at y3
        omega
      · rw [ep] at y2
        exact absurd y2 (nI_ne0 (by omega) (by have := hA.c512; omega))
  have keep : ∀ z, aK A z → e < aF A 4 z → stays A z := by
    intro z hz hlt
    rcases e3 with w | ⟨s, q, hs, hq, w⟩
    · rcases hA.pl hz with u | ⟨p, p1, p2, p3⟩
      · exact Or.inl u
      · have := hA.c512
        rw [w, p3, nI_ltI (by omega) (by omega)] at hlt
        omega
    · rw [w] at hlt
      exact Or.inr ⟨q, hq.2.1, (hA.run hq).1, hlt⟩
  have key : ∀ (n j : Nat) (v2 : CV) (S : Int32 → Prop), j ≤ 64 → 64 - j < n → AC v2 (kpA A S) sl ad → (∀ y, aK A y → stays A y → S y) → (∀ y, aK A y → S y → sl y < j → stays A y) → OC (cv_D_dropNoLongerKept_b7 n e (nI j) v2) (fun _ v' => AC v' (fgA A) sl ad) := by
    intro n
    induction n with
    | zero => intro j v2 S _ h; omega
    | succ n ih =>
      intro j v2 S hj hn h2 hS hst
      rw [cv_D_dropNoLongerKept_b7]
      refine oc_if (fun hle => oc_ret ?_) (fun hlt => ?_)
      · rw [nI_leI (by omega) (by omega)] at hle
        rw [← kp_fg (S := S) (fun y hy => ⟨fun w => hst y hy w (by have := (h.ks hy).1; omega), hS y hy⟩)]
        exact h2
      rw [nI_leI (by omega) (by omega)] at hlt
      rw [nI_1 j]
      refine oc_rS j rfl (by omega) (oc_if (fun w => ?_) (fun w => ?_))
      · refine ih (j + 1) v2 S (by omega) (by omega) h2 hS (fun y hy hy2 hs => ?_)
        exact hst y hy hy2 ((slot_none h2 w y).mp ⟨⟨hy, hy2⟩, hs⟩).2
      obtain ⟨a, ea⟩ := Option.ne_none_iff_exists'.mp w
      obtain ⟨y, hy, hs, had⟩ := h2.at (by omega) ea
      obtain ⟨t, ht, hT, -⟩ := h2.t hy
      have f4 : t.1 3 = aF A 4 y := hT.1.2.2.2.1
      rw [ea, ← had]
      have next : stays A y → OC (cv_D_dropNoLongerKept_b7 n e (nI (j + 1)) v2) (fun _ v' => AC v' (fgA A) sl ad) := fun hy3 => by
        refine ih (j + 1) v2 S (by omega) (by omega) h2 hS (fun z hz hz2 hs2 => ?_)
        rcases (slot_some h2 hy hs z).mp ⟨⟨hz, hz2⟩, hs2⟩ with u | u
        · exact hst z hz hz2 u.2
        · rw [u]; exact hy3
      refine oc_okT ht (oc_bn (k_isRunning ht) ?_)
      rintro r v3 ⟨rfl, hr⟩
      rw [f4] at hr
      refine oc_if (fun e4 => oc_tI ht ?_) (fun e4 => next (Or.inl (say1 hr e4)))
      rw [f4]
      have n0 := say0 hr e4
      refine oc_if (fun e5 => next (keep y hy.1 e5)) (fun e5 => ?_)
      have hg := gone y hy.1 n0 (Int32.not_lt.mp e5)
      refine oc_bnU (k_drop h2 hy (fun s hs2 hr2 => ?_)) ?_
      · rcases hA.2.2.2.1 y hy.1 with ⟨u, -⟩ | ⟨u, -⟩
        · exact n0 u
        · have h3 : aF A 2 y = nI s := hr2.2.2
          rw [u] at h3
          exact absurd (show nI s < 0 by rw [← h3]; decide) (nI_pos (by omega))
      · intro v4 h4
        rw [kp_kp] at h4
        refine ih (j + 1) v4 _ (by omega) (by omega) h4 (fun z hz hz2 => ⟨hS z hz hz2, fun u => hg (u ▸ hz2)⟩) (fun z hz hz2 hs2 => ?_)
        rcases (slot_some h2 hy hs z).mp ⟨⟨hz, hz2.1⟩, hs2⟩ with u | u
        · exact hst z hz hz2.1 u.2
        · exact absurd u hz2.2
  refine key 2000 0 v1 (fun _ => True) (by omega) (by omega) ?_ (fun _ _ _ => trivial) (fun y _ _ hs => by omega)
  rw [kp_all (fun _ _ => trivial)]
  exact h
/-- one who points at q hears of its commit -/
theorem ac_note (h : AC v A sl ad) {y q : Int32} (hy : aK A y) (ha : aA A y q) (h0 : aF A 4 q ≠ 0) {t : TX} (ht : cT v (ad y) = some t) : AC (if t.1 6 = 0 ∨ aF A 4 q < t.1 6 then sT v (ad y) (up t.1 6 (aF A 4 q), t.2) else v) (ptA A y q) sl ad := by
  obtain ⟨t', ht', hT, hTR⟩ := h.t hy
  rw [ht] at ht'
  cases ht'
  have fin : ∀ (t' : TX) (v' : CV), cD v' = cD v → cV v' = cV v → cF v' = cF v → cE v' = cE v → cS v' = cS v → cR v' = cR v → cZ v' = cZ v → (∀ b, b ≠ ad y → cT v' b = cT v b) → cT v' (ad y) = some t' → (∀ k, k ≠ 6 → t'.1 k = t.1 k) → t'.2 = t.2 → t'.1 6 = aF (ptA A y q) 6 y → AC v' (ptA A y q) sl ad := by
    intro t' v' e1 e2 e3 e4 e5 e6 e7 e8 e9 g1 g2 g4
    refine ac_upd h hy e1 e2 e3 e4 e5 e6 e7 e8 e9 rfl rfl rfl (funext fun z => ptA_Fd (by decide)) rfl rfl (fun d z hz _ => ptA_o hz) (fun _ _ => Iff.rfl) (fun z p hz => ⟨fun w => w.elim id (fun w => absurd w.1 hz), Or.inl⟩) (fun _ _ => rfl) ⟨⟨?_, ?_, ?_, ?_, g4⟩, ⟨?_, ?_⟩, fun j hj => ?_⟩ ?_
    · rw [g1 0 (by decide)]; exact hT.1.1
    · rw [g1 1 (by decide)]; exact hT.1.2.1
    · rw [g1 2 (by decide), ptA_Fd (by decide)]; exact hT.1.2.2.1
    · rw [g1 3 (by decide), ptA_Fd (by decide)]; exact hT.1.2.2.2.1
    · rw [g1 4 (by decide)]; exact hT.2.1.1
    · rw [g1 4 (by decide)]; exact hT.2.1.2
    · rw [g2, hT.2.2 j hj]
      constructor
      · rintro ⟨p, p1, p2, p3⟩
        exact ⟨p, p1, p2, Or.inl p3⟩
      · rintro ⟨p, p1, p2, p3 | ⟨-, p3⟩⟩
        · exact ⟨p, p1, p2, p3⟩
        · exact ⟨p, p1, p2, by rw [p3]; exact ha⟩
    · unfold CR
      rw [g2]; exact hTR
  have e6 : t.1 6 = aF A 6 y := hT.1.2.2.2.2
  by_cases c : t.1 6 = 0 ∨ aF A 4 q < t.1 6
  · rw [if_pos c]
    refine fin (up t.1 6 (aF A 4 q), t.2) _ rfl rfl rfl rfl rfl rfl rfl (fun b hb => sT_ne hb) sT_at (fun k hk => up_ne hk) rfl ?_
    rw [ptA_6, if_pos ⟨h0, by rw [← e6]; exact c⟩]; exact up_at (f := t.1) (k := 6) (x := aF A 4 q)
  · rw [if_neg c]
    refine fin t v rfl rfl rfl rfl rfl rfl rfl (fun _ _ => rfl) ht (fun _ _ => rfl) rfl ?_
    rw [ptA_6, if_neg (fun w => c (by rw [e6]; exact w.2))]; exact e6
theorem k_tell (hA : AI A) (h : AC v A sl ad) {q : Int32} (hq : aK A q) (h0 : aF A 4 q ≠ 0) (hlast : ∀ z, aK A z → aF A 4 z ≠ 0 → z ≠ q → aF A 4 z < aF A 4 q) : OC (cv_D_tellCommit (some (ad q)) v) (fun _ v' => AC v' (tlP A q (fun _ => True)) sl ad) := by
  have key : ∀ (n j : Nat) (v1 : CV), j ≤ 64 → 64 - j < n → AC v1 (tlP A q (fun z => aK A z ∧ sl z < j)) sl ad → OC (cv_D_tellCommit_b2 n (some (ad q)) (nI j) v1) (fun _ v' => AC v' (tlP A q (fun _ => True)) sl ad) := by
    intro n
    induction n with
    | zero => intro j v1 _ h; omega
    | succ n ih =>
      intro j v1 hj hn h1
      rw [cv_D_tellCommit_b2]
      refine oc_if (fun hle => oc_ret ?_) (fun hlt => ?_)
      · rw [nI_leI (by omega) (by omega)] at hle
        rw [tlP_all (fun y hy => ⟨hy, by have := (h.ks hy).1; omega⟩)] at h1
        exact h1
      rw [nI_leI (by omega) (by omega)] at hlt
      rw [nI_1 j]
      refine oc_rS j rfl (by omega) (oc_if (fun e => ?_) (fun e => ?_))
      · refine ih (j + 1) v1 (by omega) (by omega) ?_
        rw [show (fun z => aK A z ∧ sl z < j + 1) = (fun z => aK A z ∧ sl z < j) from funext fun z => propext (slot_none h1 e z)]
        exact h1
      obtain ⟨a, ea⟩ := Option.ne_none_iff_exists'.mp e
      obtain ⟨y, hy, hs, had⟩ := h1.at (by omega) ea
      have hy' : aK A y := hy
      have hS : ∀ z, (aK A z ∧ sl z < j + 1) ↔ (aK A z ∧ sl z < j) ∨ z = y := slot_some h1 hy hs
      obtain ⟨t, ht, hT, -⟩ := h1.t hy
      obtain ⟨tq, htq, hTq, -⟩ := h1.t (q := q) hq
      have B4 : ∀ z, aF (tlP A q (fun z => aK A z ∧ sl z < j)) 4 z = aF A 4 z := fun z => congrFun (tlP_F (by decide)) z
      rw [ea, ← had]
      refine oc_okT ht (oc_bn (k_pointsAt h1 hy hq) ?_)
      rintro r v2 ⟨rfl, hr⟩
      refine oc_if (fun e2 => ih (j + 1) v2 (by omega) (by omega) ?_) (fun e2 => ?_)
      · rw [tlP_skip (A := A) hS (say0 hr e2)]
        exact h1
      have har : aA A y q := say1 hr e2
      refine oc_tI htq ?_
      rw [hTq.1.2.2.2.1]
      refine oc_okT ht (oc_bnU (k_note ht _) ?_)
      rintro v3 rfl
      have h3 := ac_note h1 (q := q) hy har (by rw [B4]; exact h0) ht
      generalize (if t.1 6 = 0 ∨ aF (tlP A q (fun z => aK A z ∧ sl z < j)) 4 q < t.1 6 then sT v2 (ad y) (up t.1 6 (aF (tlP A q (fun z => aK A z ∧ sl z < j)) 4 q), t.2) else v2) = v3 at h3 ⊢
      obtain ⟨t3, ht3, hT3, -⟩ := h3.t (q := y) hy
      have step := tlP_step (A := A) hS hy' (fun w => by have := w.2; omega) h0 har
      have C4 : ∀ z, aF (ptA (tlP A q (fun z => aK A z ∧ sl z < j)) y q) 4 z = aF A 4 z := fun z => by rw [ptA_Fd (by decide)]; exact B4 z
      refine oc_okT ht3 (oc_bn (k_isRunning ht3) ?_)
      rintro r4 v4 ⟨rfl, hr4⟩
      rw [hT3.1.2.2.2.1, C4] at hr4
      have no : ¬ mid A q y → OC (cv_D_tellCommit_b2 n (some (ad q)) (nI (j + 1)) v4) (fun _ v' => AC v' (tlP A q (fun _ => True)) sl ad) := fun hm => by
        refine ih (j + 1) v4 (by omega) (by omega) ?_
        rw [step, dp_no hm]
        exact h3
      refine oc_if (fun e4 => no (fun w => say0 hr4 e4 w.1)) (fun e4 => oc_bn (k_second h3 (x := y) (y := q) hy hq) ?_)
      rintro r5 v5 ⟨rfl, hr5⟩
      have r4 := say1 hr4 e4
      have eq : sec (ptA (tlP A q (fun z => aK A z ∧ sl z < j)) y q) y q ↔ mid A q y := by
        constructor
        · rintro ⟨-, z, z1, z2, z3⟩
          rw [C4, C4] at z3
          have z2' : aA A z y := by
            rcases z2 with w | ⟨w1, w2⟩
            · exact w
            · rw [w2, w1]
              rw [w2] at r4
              exact absurd r4 h0
          refine ⟨r4, z, z1, z2', z3.imp id (fun w => ?_)⟩
          by_cases c : z = q
          · exact c
          · by_cases c2 : aF A 4 z = 0
            · exfalso
              rcases z3 with u | u
              · exact w (by
                  have : aF A 4 q ≠ 0 := h0
                  rcases hA.pl hq with g | ⟨p, p1, p2, p3⟩
                  · exact absurd g h0
                  · have := hA.c512
                    rw [c2, p3, show (0 : Int32) = nI 0 from rfl, nI_ltI (by omega) (by omega)]; omega)
              · exact u (by
                  rcases hA.pl hq with g | ⟨p, p1, p2, p3⟩
                  · exact absurd g h0
                  · have := hA.c512
                    rw [c2, p3, show (0 : Int32) = nI 0 from rfl, nI_ltI (by omega) (by omega)]; omega)
            · exact absurd (hlast z z1 c2 c) w
        · rintro ⟨-, z, z1, z2, z3⟩
          refine ⟨by rw [C4]; exact h0, z, z1, Or.inl z2, ?_⟩
          rw [C4, C4]
          rcases z3 with w | w
          · exact Or.inl w
          · refine Or.inr (fun u => ?_)
            rw [w] at u
            rw [Int32.lt_iff_toInt_lt] at u
            omega
      rw [eq] at hr5
      refine oc_if (fun e5 => no (say0 hr5 e5)) (fun e5 => ?_)
      refine oc_wTZ ht3 (Or.inr rfl) (ih (j + 1) _ (by omega) (by omega) ?_)
      rw [step, dp_dm (P := False) (Or.inr (say1 hr5 e5)), dp_no (fun w => w)]
      exact ac_dm h3 (x := y) hy ht3
  refine key 2000 0 v (by omega) (by omega) ?_
  rw [tlP_0 (fun y hy => by have := hy.2; omega)]
  exact h
theorem y_commit {i : Nat} (hi : i ≤ 511) (hF : Fine i A) (h : AX v A) (s : Int32) : OC (cv_D_commit s v) (fun r v' => ∃ B, Scommit s A r B ∧ AX v' B) := by
  obtain ⟨sl, ad, h⟩ := h
  have hA := hF.1
  have hC := hF.2.2.2
  unfold cv_D_commit
  refine oc_bn (k_runningIn hA h s) ?_
  rintro r v1 ⟨rfl, ⟨q, hq, rfl⟩ | ⟨rfl, hn⟩⟩
  · obtain ⟨h40, j, hj, rfl⟩ := hA.run hq
    have hqk := hq.2.1
    refine oc_if (fun e => by cases e) (fun _ => oc_bn (k_isSession _) ?_)
    rintro r2 v2 ⟨rfl, hr2⟩
    refine oc_if (fun e => absurd (ses_ok hj) (say0 hr2 e)) (fun _ => ?_)
    obtain ⟨t, ht, hT, hTR⟩ := h.t hqk
    refine oc_tI ht (oc_if (fun e => ?_) (fun e => oc_ret ⟨A, Or.inr (Or.inl ⟨q, hq, hT.2.1.2.mp e, rfl, rfl⟩), sl, ad, h⟩))
    have hd : ¬ aD A q := fun w => hT.2.1.2.mpr w e
    have c5 : cD (wD v2 5 (cD v2 5 + 1)) 5 = nI (aC A + 1) := by
      show up (cD v2) 5 (cD v2 5 + 1) 5 = _
      rw [up_at, h.2.2.1.2.1, nI_1]
    rw [c5]
    refine oc_wT (v := wD v2 5 (cD v2 5 + 1)) ht (oc_wE rfl j rfl hj ?_)
    -- the state once q has committed
    have Fo : ∀ d z, z ≠ q → aF (enA A q) d z = aF A d z := fun d z hz => by
      show (if _ then _ else _) = _
      rw [if_neg (fun e => hz e.1), if_neg (fun e => hz e.1)]
    have Fd : ∀ d z, d ≠ 4 → d ≠ 14 → d ≠ 2 → aF (enA A q) d z = aF A d z := fun d z h1 h2 h3 => by
      show (if z = q ∧ (d = 4 ∨ d = 14) then _ else (if z = q ∧ d = 2 then _ else _)) = _
      rw [if_neg (fun e => e.2.elim h1 h2), if_neg (fun e => h3 e.2)]
    have F4 : aF (enA A q) 4 q = nI (aC A + 1) := by
      show (if _ then _ else _) = _
      rw [if_pos ⟨rfl, Or.inl rfl⟩]
    have F2 : aF (enA A q) 2 q = -1 := by
      show (if q = q ∧ (2 = 4 ∨ 2 = 14) then _ else (if q = q ∧ 2 = 2 then _ else _)) = _
      rw [if_neg (by simp), if_pos ⟨rfl, rfl⟩]
    have hrun : ∀ u z, Run (enA A q) u z ↔ Run A u z ∧ z ≠ q := fun u z => by
      constructor
      · rintro ⟨a, b, c⟩
        have hz : z ≠ q := fun e => by
          subst e
          rw [F2] at c
          rw [← c] at a
          exact absurd a (by decide)
        exact ⟨⟨a, b, by rw [← Fo 2 z hz]; exact c⟩, hz⟩
      · rintro ⟨⟨a, b, c⟩, hz⟩
        exact ⟨a, b, by rw [Fo 2 z hz]; exact c⟩
    have h1 : AC (mkC (cD (sT (wD v2 5 (cD v2 5 + 1)) (ad q) (up t.1 3 (nI (aC A + 1)), t.2))) (cV (sT (wD v2 5 (cD v2 5 + 1)) (ad q) (up t.1 3 (nI (aC A + 1)), t.2))) (cF (sT (wD v2 5 (cD v2 5 + 1)) (ad q) (up t.1 3 (nI (aC A + 1)), t.2))) (up (cE (sT (wD v2 5 (cD v2 5 + 1)) (ad q) (up t.1 3 (nI (aC A + 1)), t.2))) j none) (cS (sT (wD v2 5 (cD v2 5 + 1)) (ad q) (up t.1 3 (nI (aC A + 1)), t.2))) (cT (sT (wD v2 5 (cD v2 5 + 1)) (ad q) (up t.1 3 (nI (aC A + 1)), t.2))) (cR (sT (wD v2 5 (cD v2 5 + 1)) (ad q) (up t.1 3 (nI (aC A + 1)), t.2))) (cZ (sT (wD v2 5 (cD v2 5 + 1)) (ad q) (up t.1 3 (nI (aC A + 1)), t.2)))) (enA A q) sl ad := by
      refine ⟨fun z hz => ?_, ⟨fun i a hi e => h.2.1.1 i a hi e, fun u hu => ?_⟩, ⟨⟨?_, c5, ?_⟩, h.2.2.2.1, fun a ha => ?_, h.2.2.2.2.2⟩⟩
      · obtain ⟨k1, k2, tz, k3, k4, k5⟩ := h.1 z hz
        by_cases c : z = q
        · subst c
          rw [ht] at k3
          cases k3
          refine ⟨k1, k2, _, sT_at, ⟨⟨hT.1.1, hT.1.2.1, ?_, ?_, ?_⟩, hT.2.1, hT.2.2⟩, k5⟩
          · rw [Fd 3 z (by decide) (by decide) (by decide)]; exact hT.1.2.2.1
          · rw [F4]; exact up_at (f := t.1) (k := 3) (x := nI (aC A + 1))
          · rw [Fd 6 z (by decide) (by decide) (by decide)]; exact hT.1.2.2.2.2
        · refine ⟨k1, k2, tz, ?_, ⟨⟨k4.1.1, k4.1.2.1, ?_, ?_, ?_⟩, k4.2.1, k4.2.2⟩, k5⟩
          · show cT (sT (wD v2 5 (cD v2 5 + 1)) (ad q) _) (ad z) = _
            rw [sT_ne (fun w => c (h.adinj hz hqk w))]; exact k3
          · rw [Fo 3 z c]; exact k4.1.2.2.1
          · rw [Fo 4 z c]; exact k4.1.2.2.2.1
          · rw [Fo 6 z c]; exact k4.1.2.2.2.2
      · show (up (cE v2) j none u = none ∧ _) ∨ ∃ z, _ ∧ up (cE v2) j none u = _
        by_cases c : u = j
        · subst c
          exact Or.inl ⟨up_at, fun z hz => ((hrun _ z).mp hz).2 (hA.one ((hrun _ z).mp hz).1 hq)⟩
        · rw [up_ne c]
          rcases h.2.1.2 u hu with ⟨w1, w2⟩ | ⟨z, w1, w2⟩
          · exact Or.inl ⟨w1, fun z hz => w2 z ((hrun _ z).mp hz).1⟩
          · refine Or.inr ⟨z, (hrun _ z).mpr ⟨w1, fun e => c ?_⟩, w2⟩
            subst e
            exact (nI_eq (by omega) (by omega)).mp (w1.2.2.symm.trans hq.2.2)
      · exact h.2.2.1.1
      · exact h.2.2.1.2.2
      · by_cases c : a = ad q
        · rw [c]; exact h.2.2.2.2.1 (ad q) (by rw [ht]; exact fun w => by cases w)
        · have ha' : cT (sT (wD v2 5 (cD v2 5 + 1)) (ad q) (up t.1 3 (nI (aC A + 1)), t.2)) a ≠ none := ha
          rw [sT_ne c] at ha'
          exact h.2.2.2.2.1 a ha'
    have hA1 := AI_en hA hq (by omega)
    have n0 : aF (enA A q) 4 q ≠ 0 := by rw [F4]; exact nI_ne0 (by omega) (by omega)
    refine oc_bnU (k_tell hA1 h1 (q := q) hqk n0 (fun z hz hz0 hne => ?_)) ?_
    · rw [F4]
      rw [Fo 4 z hne] at hz0 ⊢
      rcases hA.pl hz with w | ⟨p, p1, p2, p3⟩
      · exact absurd w hz0
      · rw [p3, nI_ltI (by omega) (by omega)]; omega
    intro v3 h3
    refine oc_bnU (k_forget (AI_tl hA1 (q := q) hqk _) h3) ?_
    intro v4 h4
    refine oc_ret ⟨_, Or.inl ⟨q, hq, hd, ?_, rfl⟩, sl, ad, h4⟩
    exact h4.2.2.1.2.1
  · exact oc_if (fun _ => oc_ret ⟨A, Or.inr (Or.inr ⟨hn, rfl, rfl⟩), sl, ad, h⟩) (fun e => absurd rfl e)
theorem y_abort {i : Nat} (hF : Fine i A) (h : AX v A) (s : Int32) : OC (cv_D_abort s v) (fun r v' => ∃ B, Sabort s A r B ∧ AX v' B) := by
  obtain ⟨sl, ad, h⟩ := h
  have hA := hF.1
  unfold cv_D_abort
  refine oc_bn (k_runningIn hA h s) ?_
  rintro r v1 ⟨rfl, ⟨q, hq, rfl⟩ | ⟨rfl, hn⟩⟩
  · obtain ⟨h40, j, hj, rfl⟩ := hA.run hq
    have hqk := hq.2.1
    refine oc_if (fun e => by cases e) (fun _ => oc_bn (k_isSession _) ?_)
    rintro r2 v2 ⟨rfl, hr2⟩
    refine oc_if (fun e => absurd (ses_ok hj) (say0 hr2 e)) (fun _ => oc_wE rfl j rfl hj ?_)
    -- q runs no more
    have h1 : AC (mkC (cD v2) (cV v2) (cF v2) (up (cE v2) j none) (cS v2) (cT v2) (cR v2) (cZ v2)) (mkA (aB A) (aC A) (aK A) (fun d z => if z = q ∧ d = 2 then -1 else aF A d z) (aD A) (aA A) (aR A) (aH A) (aL A) (aE A)) sl ad := by
      have Fd : ∀ d z, d ≠ 2 → (if z = q ∧ d = 2 then -1 else aF A d z) = aF A d z := fun d z hd => if_neg (fun w => hd w.2)
      have hrun : ∀ u z, Run (mkA (aB A) (aC A) (aK A) (fun d z => if z = q ∧ d = 2 then -1 else aF A d z) (aD A) (aA A) (aR A) (aH A) (aL A) (aE A)) u z ↔ Run A u z ∧ z ≠ q := fun u z => by
        constructor
        · rintro ⟨a, b, c⟩
          have c' : (if z = q ∧ 2 = 2 then -1 else aF A 2 z) = u := c
          have hz : z ≠ q := fun e => by
            rw [if_pos ⟨e, rfl⟩] at c'
            rw [← c'] at a
            exact absurd a (by decide)
          rw [if_neg (fun w => hz w.1)] at c'
          exact ⟨⟨a, b, c'⟩, hz⟩
        · rintro ⟨⟨a, b, c⟩, hz⟩
          refine ⟨a, b, ?_⟩
          show (if z = q ∧ 2 = 2 then -1 else aF A 2 z) = u
          rw [if_neg (fun w => hz w.1)]; exact c
      refine ⟨fun z hz => ?_, ⟨h.2.1.1, fun u hu => ?_⟩, ⟨h.2.2.1, h.2.2.2⟩⟩
      · obtain ⟨k1, k2, tz, k3, k4, k5⟩ := h.1 z hz
        refine ⟨k1, k2, tz, k3, ⟨⟨k4.1.1, k4.1.2.1, ?_, ?_, ?_⟩, k4.2.1, k4.2.2⟩, k5⟩
        · exact k4.1.2.2.1.trans (Fd 3 z (by decide)).symm
        · exact k4.1.2.2.2.1.trans (Fd 4 z (by decide)).symm
        · exact k4.1.2.2.2.2.trans (Fd 6 z (by decide)).symm
      · show (up (cE v2) j none u = none ∧ _) ∨ ∃ z, _ ∧ up (cE v2) j none u = _
        by_cases c : u = j
        · subst c
          exact Or.inl ⟨up_at, fun z hz => ((hrun _ z).mp hz).2 (hA.one ((hrun _ z).mp hz).1 hq)⟩
        · rw [up_ne c]
          rcases h.2.1.2 u hu with ⟨w1, w2⟩ | ⟨z, w1, w2⟩
          · exact Or.inl ⟨w1, fun z hz => w2 z ((hrun _ z).mp hz).1⟩
          · refine Or.inr ⟨z, (hrun _ z).mpr ⟨w1, fun e => c ?_⟩, w2⟩
            subst e
            exact (nI_eq (by omega) (by omega)).mp (w1.2.2.symm.trans hq.2.2)
    refine oc_bnU (k_drop h1 (q := q) hqk (fun u hu hr => ?_)) ?_
    · have c' : (if q = q ∧ 2 = 2 then -1 else aF A 2 q) = nI u := hr.2.2
      rw [if_pos ⟨rfl, rfl⟩] at c'
      exact absurd (show nI u < 0 by rw [← c']; decide) (nI_pos (by omega))
    intro v3 h3
    have h3' : AC v3 (kpA A (fun z => z ≠ q)) sl ad := by
      refine ac_congr h3 rfl rfl (fun _ => Iff.rfl) (fun d z hz => ?_) (fun _ _ => Iff.rfl) (fun _ _ _ _ => Iff.rfl) (fun _ _ => rfl) rfl rfl
      show aF A d z = (if z = q ∧ d = 2 then -1 else aF A d z)
      rw [if_neg (fun w => hz.2 w.1)]
    refine oc_bnU (k_forget (AI_kp hA _) h3') ?_
    intro v4 h4
    exact oc_rZ (Or.inr rfl) ⟨_, Or.inl ⟨q, hq, rfl, rfl⟩, sl, ad, h4⟩
  · exact oc_if (fun _ => oc_rZ (Or.inl rfl) ⟨A, Or.inr ⟨hn, rfl, rfl⟩, sl, ad, h⟩) (fun e => absurd rfl e)
end KD
