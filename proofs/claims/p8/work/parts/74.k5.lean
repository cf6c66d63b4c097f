/-! read, in the class -/
section KR
variable {v v0 : CV} {A : Ab} {sl ad : Int32 → Nat}
theorem ac_rd (h : AC v0 A sl ad) {v' : CV} {q : Int32} {u : Nat} {w : RG} {t t' : TX} (hq : aK A q) (ht : cT v0 (ad q) = some t) (hD : cD v' = cD v0) (hV : cV v' = cV v0) (hF : cF v' = cF v0) (hE : cE v' = cE v0) (hS : cS v' = cS v0) (hR : ∀ b x, cR v0 b = some x → cR v' b = some x) (hRz : ∀ b, cR v' b ≠ none → b < (cZ v').1) (hZ : (cZ v0).1 ≤ (cZ v').1) (hT : ∀ b, b ≠ ad q → cT v' b = cT v0 b) (ht' : cT v' (ad q) = some t') (e1 : t'.1 = t.1) (e2 : t'.2.1 = t.2.1) (e3 : ∀ u', u' ≠ u → t'.2.2.1 u' = t.2.2.1 u' ∧ t'.2.2.2 u' = t.2.2.2 u') (hG : Rg (cR v') (t'.2.2.1 u) (t'.2.2.2 u) (rdN (aR A q u) w)) : AC v' (rdA A q u w) sl ad := by
  obtain ⟨h1, h2, h3⟩ := h
  refine ⟨fun z hz => ?_, ⟨fun i a hi e => ?_, fun s hs => ?_⟩, ⟨⟨?_, ?_, ?_⟩, fun j hj => ?_, fun a ha => ?_, hRz⟩⟩
  · obtain ⟨k1, k2, tz, k3, k4, k5⟩ := h1 z hz
    refine ⟨k1, by rw [hS]; exact k2, ?_⟩
    by_cases e : z = q
    · subst e
      rw [ht] at k3
      cases k3
      refine ⟨t', ht', ⟨by rw [e1]; exact k4.1, by rw [e1]; exact k4.2.1, fun j hj => by rw [e2]; exact k4.2.2 j hj⟩, fun u' hu' => ?_⟩
      by_cases c : u' = u
      · subst c
        have : aR (rdA A z u' w) z u' = rdN (aR A z u') w := if_pos ⟨rfl, rfl⟩
        rw [this]; exact hG
      · have : aR (rdA A z u w) z u' = aR A z u' := if_neg (fun g => c g.2)
        rw [this, (e3 u' c).1, (e3 u' c).2]
        exact Rg_mono hR (k5 u' hu')
    · refine ⟨tz, ?_, k4, fun u' hu' => ?_⟩
      · rw [hT]
        · exact k3
        · exact fun g => e (AC.adinj ⟨h1, h2, h3⟩ hz hq g)
      · have : aR (rdA A q u w) z u' = aR A z u' := if_neg (fun g => e g.1)
        rw [this]
        exact Rg_mono hR (k5 u' hu')
  · rw [hS] at e; exact h2.1 i a hi e
  · rw [hE]; exact h2.2 s hs
  · rw [hD]; exact h3.1.1
  · rw [hD]; exact h3.1.2.1
  · rw [hD, hS]; exact h3.1.2.2
  · rw [hF, hV]; exact h3.2.1 j hj
  · refine Nat.lt_of_lt_of_le ?_ hZ
    by_cases e : a = ad q
    · rw [e]; exact h3.2.2.1 _ (by rw [ht]; exact fun g => by cases g)
    · rw [hT a e] at ha; exact h3.2.2.1 a ha
theorem k_same {a b : Nat} {x y : RX} (hy : cR v b = some y) (hx : cR v a = some x) : OC (cv_R_isSameAs b (some a) v) (sbv v (sameG (gx y) (gx x))) := by
  unfold cv_R_isSameAs
  refine oc_gI hy (oc_gI hx (oc_if (fun e1 => oc_gI hy (oc_gI hx (oc_if (fun e2 => ?_) (fun e2 => cb_f (fun w => e2 w.2.1))))) (fun e1 => cb_f (fun w => e1 w.1))))
  have b42 : ((¬ (x.1 3 &&& 4) = 0) ∨ lg_cmp (y.2.1 1) (x.2.1 1) = 0) → OC (cv_R_isSameAs_b42 b (some a) v) (sbv v (sameG (gx y) (gx x))) := fun hl => by
    unfold cv_R_isSameAs_b42
    refine oc_okR hy (oc_bn (k_lacks hy 8) ?_)
    rintro r v1 ⟨rfl, hr⟩
    rw [e2] at hr
    refine oc_if (fun e => oc_gL hy (oc_gL hx (oc_if (fun e3 => cb_t ⟨e1, e2, hl, Or.inr e3⟩) (fun e3 => cb_f (fun w => w.2.2.2.elim (say0 hr e) e3))))) (fun e => cb_t ⟨e1, e2, hl, Or.inl (say1 hr e)⟩)
  refine oc_okR hy (oc_bn (k_lacks hy 4) ?_)
  rintro r v1 ⟨rfl, hr⟩
  rw [e2] at hr
  exact oc_if (fun e => oc_gL hy (oc_gL hx (oc_if (fun e3 => b42 (Or.inr e3)) (fun e3 => cb_f (fun w => w.2.2.1.elim (say0 hr e) e3))))) (fun e => b42 (Or.inl (say1 hr e)))
theorem k_covered {a : Nat} {x : RX} (hx : cR v a = some x) : ∀ (L : List RG) (n : Nat) (o : Option Nat), L.length < n → Ch (cR v) o L → OC (cv_T_isCovered_b16 n (some a) o v) (sbv v (∃ g, g ∈ L ∧ (g.1 = -1 ∨ sameG g (gx x)))) := by
  intro L
  induction L with
  | nil =>
    intro n o hn hc
    cases n with
    | zero => exact absurd hn (Nat.not_lt_zero _)
    | succ n =>
      rw [cv_T_isCovered_b16]
      exact oc_if (fun _ => cb_f (fun ⟨g, hg, _⟩ => by cases hg)) (fun e => absurd hc e)
  | cons g L ih =>
    intro n o hn hc
    cases n with
    | zero => exact absurd hn (Nat.not_lt_zero _)
    | succ n =>
      obtain ⟨b, y, e1, e2, e3, e4⟩ := hc
      subst e1
      rw [cv_T_isCovered_b16]
      unfold cv_R_isWholeTable
      refine oc_if (fun e => by cases e) (fun _ => oc_okR e2 (oc_bn (oc_gI e2 (oc_if (fun e => cb_t (P := y.1 0 = -1) e) (fun e => cb_f e))) ?_))
      rintro r v1 ⟨rfl, hr⟩
      have eg : g.1 = y.1 0 := by rw [← e3]; rfl
      refine oc_if (fun e => oc_okR e2 (oc_bn (k_same e2 hx) ?_)) (fun e => cb_t ⟨g, List.mem_cons_self .., Or.inl (by rw [eg]; exact say1 hr e)⟩)
      rintro r2 v2 ⟨rfl, hr2⟩
      rw [e3] at hr2
      refine oc_if (fun e5 => oc_gX e2 ?_) (fun e5 => cb_t ⟨g, List.mem_cons_self .., Or.inr (say1 hr2 e5)⟩)
      refine oc_imp (ih n y.2.2 (by simp at hn; omega) e4) ?_
      rintro r3 v3 ⟨rfl, hr3⟩
      refine ⟨rfl, ?_⟩
      have : (∃ z, z ∈ g :: L ∧ (z.1 = -1 ∨ sameG z (gx x))) ↔ ∃ z, z ∈ L ∧ (z.1 = -1 ∨ sameG z (gx x)) := by
        constructor
        · rintro ⟨z, hz, hi⟩
          rcases List.mem_cons.mp hz with rfl | hz
          · exfalso
            rcases hi with w | w
            · exact say0 hr e (by rw [← eg]; exact w)
            · exact say0 hr2 e5 w
          · exact ⟨z, hz, hi⟩
        · rintro ⟨z, hz, hi⟩
          exact ⟨z, List.mem_cons_of_mem _ hz, hi⟩
      unfold say
      rw [this]
      exact hr3
/-- a is a new range, in nobody's chain -/
def NewR (v0 v : CV) (a : Nat) (x : RX) : Prop := (cD v = cD v0 ∧ cV v = cV v0 ∧ cF v = cF v0 ∧ cE v = cE v0 ∧ cS v = cS v0 ∧ cT v = cT v0) ∧ cR v = up (cR v0) a (some x) ∧ (a = (cZ v0).1 ∧ (cZ v0).1 < (cZ v).1)
theorem kk_addRange (hA : AI A) (h : AC v0 A sl ad) {a : Nat} {x : RX} {w : RG} (hv : NewR v0 v a x) {q : Int32} (hq : aK A q) {u : Nat} (hu : u < 8) (hw : (w.1 < 0 ∧ x.1 0 = -1) ∨ (¬ w.1 < 0 ∧ gx x = w ∧ ∃ y, y < 8 ∧ w.1 = nI y)) : OC (cv_T_addRange (ad q) (nI u) (some a) v) (fun _ v' => AC v' (rdA A q u w) sl ad) := by
  obtain ⟨⟨v1, v2, v3, v4, v5, v6⟩, v7, v8, v9⟩ := hv
  obtain ⟨t, ht0, hT, hTR⟩ := h.t hq
  obtain ⟨L, c1, c2, c3, c6, c4, c5⟩ := hTR u hu
  have fr : cR v0 a = none := by
    cases e : cR v0 a with
    | none => rfl
    | some z => exact absurd (h.2.2.2.2.2 a (by rw [e]; exact fun w => by cases w)) (by omega)
  have mono : ∀ (x' : RX) (b : Nat) (z : RX), cR v0 b = some z → up (cR v0) a (some x') b = some z := fun x' b z hz => by
    rw [up_ne (fun e => by rw [e, fr] at hz; cases hz)]; exact hz
  have ht : cT v (ad q) = some t := by rw [v6]; exact ht0
  have hx : cR v a = some x := by rw [v7]; exact up_at
  have chv : Ch (cR v) (t.2.2.1 u) L := Ch_mono (fun b z hz => by rw [v7]; exact mono x b z hz) L _ c1
  have bz : ∀ b, cR v0 b ≠ none → b < (cZ v).1 := fun b hb => by have := h.2.2.2.2.2 b hb; omega
  unfold cv_T_addRange cv_T_isCovered
  refine oc_bn (k_isTable (nI u)) ?_
  rintro r vv ⟨rfl, hr⟩
  refine oc_if (fun e => absurd (tab_ok hu) (say0 hr e)) (fun _ => oc_okT ht (oc_bn (oc_bn (k_isTable (nI u)) (Q := sbv vv (∃ g, g ∈ L ∧ (g.1 = -1 ∨ sameG g (gx x)))) ?_) ?_))
  · rintro r2 vv2 ⟨rfl, hr2⟩
    exact oc_if (fun e => absurd (tab_ok hu) (say0 hr2 e)) (fun _ => oc_okT ht (oc_rF ht u rfl hu (k_covered hx L 2000 _ (by omega) chv)))
  rintro r2 vv2 ⟨rfl, hr2⟩
  refine oc_if (fun e => ?_) (fun e => ?_)
  · -- not covered
    have hn := say0 hr2 e
    have nW : ¬ (aR A q u).1 := fun g => by
      obtain ⟨z, z1, z2⟩ := c4 g
      exact hn ⟨z, z1, Or.inl z2⟩
    obtain ⟨c7, c8⟩ := c5 nW
    have nS : ¬ w.1 < 0 → ¬ ∃ z, (aR A q u).2.2 z ∧ sameG z w := fun g ⟨z, z1, z2⟩ => by
      rcases hw with ⟨g2, -⟩ | ⟨-, g2, -⟩
      · exact g g2
      · exact hn ⟨z, (c8 z).mp z1, Or.inr (by rw [g2]; exact z2)⟩
    refine oc_okT ht (oc_rC ht u rfl hu ?_)
    rw [c3]
    refine oc_if (fun lt => ?_) (fun lt => ?_)
    · have lt8 : L.length < 8 := by rw [show (8 : Int32) = nI 8 from rfl, nI_ltI (by omega) (by omega)] at lt; exact lt
      refine oc_okT ht (oc_rF ht u rfl hu (oc_wX hx ?_))
      have hk1 : rok (sR vv2 a (x.1, x.2.1, t.2.2.1 u)) (some a) = true := by
        show (up (cR vv2) a _ a).isSome = true
        rw [up_at]; rfl
      refine oc_okT (v := sR vv2 a (x.1, x.2.1, t.2.2.1 u)) ht (oc_wF (v := sR vv2 a (x.1, x.2.1, t.2.2.1 u)) ht hk1 u rfl hu (oc_okT sT_at (oc_rC sT_at u rfl hu (oc_wC sT_at u rfl hu (oc_okT sT_at (oc_rC sT_at u rfl hu (oc_ret ?_)))))))
      have eR : ∀ b, cR (sT (sT (sR vv2 a (x.1, x.2.1, t.2.2.1 u)) (ad q) (t.1, t.2.1, up t.2.2.1 u (some a), t.2.2.2)) (ad q) (t.1, t.2.1, up t.2.2.1 u (some a), up t.2.2.2 u (t.2.2.2 u + 1))) b = up (cR v0) a (some (x.1, x.2.1, t.2.2.1 u)) b := fun b => by
        show up (cR vv2) a _ b = _
        by_cases eb : b = a
        · rw [eb, up_at, up_at]
        · rw [up_ne eb, up_ne eb, v7, up_ne eb]
      refine ac_rd h hq ht0 v1 v2 v3 v4 v5 (fun b z hz => by rw [eR]; exact mono _ b z hz) (fun b hb => ?_) (Nat.le_of_lt v9) (fun b hb => ?_) sT_at rfl rfl (fun u' hu' => ⟨up_ne hu', up_ne hu'⟩) ⟨gx x :: L, ⟨a, (x.1, x.2.1, t.2.2.1 u), up_at, by rw [eR, up_at], rfl, Ch_mono (fun b z hz => by rw [eR]; exact mono _ b z hz) L _ c1⟩, ?_, ?_, ?_, ?_, ?_⟩
      · show b < (cZ vv2).1
        rw [eR] at hb
        by_cases eb : b = a
        · rw [eb, v8]; exact v9
        · rw [up_ne eb] at hb; exact bz b hb
      · rw [sT_ne hb, sT_ne hb]; show cT vv2 b = _; rw [v6]
      · simp only [List.length_cons]; omega
      · show up t.2.2.2 u (t.2.2.2 u + 1) u = _
        rw [up_at, c3, nI_1, List.length_cons]
      · intro z hz
        rcases List.mem_cons.mp hz with rfl | hz
        · rcases hw with ⟨-, g⟩ | ⟨-, g, y, y1, y2⟩
          · exact Or.inl g
          · exact Or.inr ⟨y, y1, by rw [g]; exact y2⟩
        · exact c6 z hz
      · rintro (g | g | ⟨-, g⟩)
        · exact absurd g nW
        · rcases hw with ⟨-, g2⟩ | ⟨g2, -⟩
          · exact ⟨gx x, List.mem_cons_self .., g2⟩
          · exact absurd g g2
        · omega
      · intro g
        have g1 : ¬ w.1 < 0 := fun z => g (Or.inr (Or.inl z))
        have g2 := nS g1
        have g3 : gx x = w := by
          rcases hw with ⟨z, -⟩ | ⟨-, z, -⟩
          · exact absurd z g1
          · exact z
        have g4 : (rdN (aR A q u) w).2.1 = (aR A q u).2.1 + 1 := if_neg g2
        refine ⟨by rw [g4, List.length_cons, c7], fun z => ?_⟩
        rw [List.mem_cons, g3, ← c8 z]
        exact ⟨fun k => k.elim Or.inr (fun k => Or.inl k.2), fun k => k.elim (fun k => Or.inr ⟨g2, k⟩) Or.inl⟩
    · -- the ninth
      have lt8 : L.length = 8 := by
        rw [show (8 : Int32) = nI 8 from rfl, nI_ltI (by omega) (by omega)] at lt; omega
      unfold cv_D_wholeTable nOv
      refine oc_okT ht (oc_bn (oc_ret (Q := fun r v' => r = some (cZ vv2).1 ∧ v' = addR (grow vv2 1 5) (cZ vv2).1 (-1) 0 0 12) ⟨rfl, rfl⟩) ?_)
      rintro r3 vv3 ⟨rfl, rfl⟩
      have hk1 : rok (addR (grow vv2 1 5) (cZ vv2).1 (-1) 0 0 12) (some (cZ vv2).1) = true := by
        show (up (cR vv2) (cZ vv2).1 _ (cZ vv2).1).isSome = true
        rw [up_at]; rfl
      refine oc_wF (v := addR (grow vv2 1 5) (cZ vv2).1 (-1) 0 0 12) ht hk1 u rfl hu (oc_okT sT_at (oc_wC sT_at u rfl hu (oc_ret ?_)))
      have na : ∀ b z, cR v0 b = some z → b ≠ (cZ vv2).1 := fun b z hz e => by
        have := bz b (by rw [hz]; exact fun k => by cases k)
        omega
      refine ac_rd h hq ht0 v1 v2 v3 v4 v5 (fun b z hz => ?_) (fun b hb => ?_) ?_ (fun b hb => ?_) sT_at rfl rfl (fun u' hu' => ⟨up_ne hu', up_ne hu'⟩) ⟨[(-1, 12, 0, 0)], ⟨(cZ vv2).1, (fun k => if k = 0 then -1 else 12, fun k => if k = 1 then 0 else 0, none), up_at, up_at, rfl, rfl⟩, by simp, ?_, ?_, ?_, ?_⟩
      · show up (cR vv2) (cZ vv2).1 _ b = _
        rw [up_ne (na b z hz), v7]; exact mono _ b z hz
      · have hb' : up (cR vv2) (cZ vv2).1 (some (fun k => if k = 0 then (-1 : Int32) else 12, fun k => if k = 1 then (0 : Int64) else 0, none)) b ≠ none := hb
        show b < (cZ vv2).1 + 1
        by_cases eb : b = (cZ vv2).1
        · omega
        · rw [up_ne eb, v7] at hb'
          by_cases eb2 : b = a
          · omega
          · rw [up_ne eb2] at hb'
            have := bz b hb'
            omega
      · show (cZ v0).1 ≤ (cZ vv2).1 + 1
        omega
      · rw [sT_ne hb, sT_ne hb]; show cT vv2 b = _; rw [v6]
      · show up t.2.2.2 u 1 u = _
        rw [up_at]; rfl
      · intro z hz
        rw [List.mem_singleton] at hz
        exact Or.inl (by rw [hz])
      · intro _
        exact ⟨_, List.mem_singleton.mpr rfl, rfl⟩
      · intro g
        exfalso
        by_cases g1 : w.1 < 0
        · exact g (Or.inr (Or.inl g1))
        · exact g (Or.inr (Or.inr ⟨nS g1, by omega⟩))
  · -- covered
    obtain ⟨g, hg, hs⟩ := say1 hr2 e
    refine oc_okT ht (oc_rC ht u rfl hu (oc_ret ?_))
    have whole : g.1 = -1 → (aR A q u).1 := fun g1 => by
      by_cases k : (aR A q u).1
      · exact k
      · obtain ⟨y, y1, y2⟩ := (hA.2.2.2.2.2.2 q u hq hu k).2 g (((c5 k).2 g).mpr hg)
        rw [g1] at y2
        exact absurd (show nI y < 0 by rw [← y2]; decide) (nI_pos (by omega))
    refine ac_rd h hq ht0 v1 v2 v3 v4 v5 (fun b z hz => by rw [v7]; exact mono x b z hz) (fun b hb => ?_) (Nat.le_of_lt v9) (fun b _ => by rw [v6]) ht rfl rfl (fun _ _ => ⟨rfl, rfl⟩) ⟨L, chv, c2, c3, c6, ?_, ?_⟩
    · rw [v7] at hb
      by_cases eb : b = a
      · rw [eb, v8]; exact v9
      · rw [up_ne eb] at hb; exact bz b hb
    · intro k
      by_cases k1 : (aR A q u).1
      · exact c4 k1
      · have g1 : g.1 ≠ -1 := fun z => k1 (whole z)
        have s1 := hs.resolve_left g1
        rcases hw with ⟨-, g2⟩ | ⟨g2, g3, -⟩
        · exact absurd (s1.1.trans g2) g1
        · rw [g3] at s1
          rcases k with z | z | ⟨z, -⟩
          · exact absurd z k1
          · exact absurd z g2
          · exact absurd ⟨g, ((c5 k1).2 g).mpr hg, s1⟩ z
    · intro k
      have k1 : ¬ (aR A q u).1 := fun z => k (Or.inl z)
      have k2 : ¬ w.1 < 0 := fun z => k (Or.inr (Or.inl z))
      have g1 : g.1 ≠ -1 := fun z => k1 (whole z)
      have s1 := hs.resolve_left g1
      have g3 : gx x = w := by
        rcases hw with ⟨z, -⟩ | ⟨-, z, -⟩
        · exact absurd z k2
        · exact z
      rw [g3] at s1
      have ex : ∃ z, (aR A q u).2.2 z ∧ sameG z w := ⟨g, ((c5 k1).2 g).mpr hg, s1⟩
      have g4 : (rdN (aR A q u) w).2.1 = (aR A q u).2.1 := if_pos ex
      refine ⟨by rw [g4]; exact (c5 k1).1, fun z => ?_⟩
      rw [← (c5 k1).2 z]
      exact ⟨fun m => m.elim id (fun m => absurd ex m.1), Or.inl⟩
theorem ax_of {B : Ab} (h : AC v B sl ad) : AX v B := ⟨sl, ad, h⟩
theorem y_read {i : Nat} (hF : Fine i A) (h : AX v A) (s t x3 : Int32) (x4 x6 : Int64) (x8 : Int32) : OC (cv_D_read s t x3 x4 x6 x8 v) (fun r v' => ∃ B, Sread s t x3 x4 x6 x8 A r B ∧ AX v' B) := by
  obtain ⟨sl, ad, h⟩ := h
  have hA := hF.1
  unfold cv_D_read
  refine oc_bn (k_runningIn hA h s) ?_
  rintro r v1 ⟨rfl, ⟨q, hq, rfl⟩ | ⟨rfl, hn⟩⟩
  · refine oc_if (fun e => by cases e) (fun _ => oc_bn (k_isTable t) ?_)
    rintro r2 v2 ⟨rfl, hr2⟩
    obtain ⟨tq, htq, -⟩ := h.t hq.2.1
    refine oc_if (fun e => oc_ret ⟨A, Or.inr ⟨Or.inr ?_, rfl, rfl⟩, sl, ad, h⟩) (fun e => ?_)
    · rcases tab_dec t with ⟨j, hj, rfl⟩ | w
      · exact absurd (tab_ok hj) (say0 hr2 e)
      · exact w.elim Or.inl (fun w => Or.inr (Or.inl w))
    obtain ⟨j, hj, rfl⟩ := tab_of (say1 hr2 e)
    have yes : colOk x3 x8 → ∀ (a : Nat) (x : RX) (vv : CV), NewR v2 vv a x → (((x3, x8, x4, x6) : RG).1 < 0 ∧ x.1 0 = -1) ∨ (¬ ((x3, x8, x4, x6) : RG).1 < 0 ∧ gx x = (x3, x8, x4, x6) ∧ ∃ y, y < 8 ∧ ((x3, x8, x4, x6) : RG).1 = nI y) → OC ((okT vv (some (ad q))).bind (fun b => bnC (cv_T_addRange b (nI j) (some a) vv) (fun x v => some (x, v)))) (fun r v' => ∃ B, Sread s (nI j) x3 x4 x6 x8 A r B ∧ AX v' B) := fun hc a x vv hv hw => by
      have htv : cT vv (ad q) = some tq := by rw [hv.1.2.2.2.2.2]; exact htq
      refine oc_okT htv (oc_bn (kk_addRange hA h hv hq.2.1 hj hw) ?_)
      intro r4 v4 h4
      exact oc_ret ⟨_, Or.inl ⟨q, j, hq, rfl, hj, hc, rfl⟩, sl, ad, h4⟩
    refine oc_if (fun e3 => ?_) (fun e3 => ?_)
    · unfold cv_D_wholeTable nOv
      refine oc_bn (oc_ret (Q := fun r v' => r = some (cZ v2).1 ∧ v' = addR (grow v2 1 5) (cZ v2).1 (-1) 0 0 12) ⟨rfl, rfl⟩) ?_
      rintro r3 vv3 ⟨rfl, rfl⟩
      exact yes (Or.inl e3) (cZ v2).1 (fun k => if k = 0 then -1 else 12, fun k => if k = 1 then 0 else 0, none) _ ⟨⟨rfl, rfl, rfl, rfl, rfl, rfl⟩, rfl, rfl, Nat.lt_succ_self _⟩ (Or.inl ⟨by show x3 < 0; rw [e3]; decide, rfl⟩)
    · refine oc_bn (k_isColumn x3) ?_
      rintro r4 v4 ⟨rfl, hr4⟩
      have no : ¬ colOk x3 x8 → OC (some ((-1 : Int32), v4)) (fun r v' => ∃ B, Sread s (nI j) x3 x4 x6 x8 A r B ∧ AX v' B) := fun hc => oc_ret ⟨A, Or.inr ⟨Or.inr (Or.inr (Or.inr hc)), rfl, rfl⟩, sl, ad, h⟩
      have c87 : (¬ x3 < 0 ∧ ¬ 8 ≤ x3) ↔ (¬ x3 < 0 ∧ ¬ 7 < x3) := by
        refine and_congr_right (fun _ => not_congr ?_)
        rw [Int32.le_iff_toInt_le, Int32.lt_iff_toInt_lt]
        have e7 : (7 : Int32).toInt = 7 := by decide
        have e8 : (8 : Int32).toInt = 8 := by decide
        omega
      refine oc_if (fun e4 => no (fun w => ?_)) (fun e4 => oc_if (fun e5 => no (fun w => ?_)) (fun e5 => oc_if (fun e6 => ?_) (fun e6 => no (fun w => ?_))))
      · rcases w with w | ⟨w1, w2, -⟩
        · exact e3 w
        · exact say0 hr4 e4 (c87.mpr ⟨w1, w2⟩)
      · rcases w with w | ⟨-, -, w, -⟩
        · exact e3 w
        · exact w e5
      · obtain ⟨w1, w2⟩ := c87.mp (say1 hr4 e4)
        obtain ⟨y, hy, ey⟩ := tab_of (say1 hr4 e4)
        unfold nOv
        exact yes (Or.inr ⟨w1, w2, e5, e6⟩) (cZ v4).1 (fun k => if k = 0 then x3 else x8, fun k => if k = 1 then x4 else x6, none) _ ⟨⟨rfl, rfl, rfl, rfl, rfl, rfl⟩, rfl, rfl, Nat.lt_succ_self _⟩ (Or.inr ⟨w1, rfl, y, hy, ey⟩)
      · rcases w with w | ⟨-, -, -, w⟩
        · exact e3 w
        · exact e6 w
  · exact oc_if (fun _ => oc_ret ⟨A, Or.inr ⟨Or.inl hn, rfl, rfl⟩, sl, ad, h⟩) (fun e => absurd rfl e)
end KR
