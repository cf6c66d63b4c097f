/-! what the class asks -/
abbrev sbv (v : CV) (P : Prop) : Int32 → CV → Prop := fun r v' => v' = v ∧ say P r
section KQ
variable {v : CV} {A : Ab} {sl ad : Int32 → Nat}
theorem cb_t {P : Prop} (h : P) : OC (rZc 1 v) (sbv v P) := oc_rZ (Or.inr rfl) ⟨rfl, Or.inl ⟨rfl, h⟩⟩
theorem cb_f {P : Prop} (h : ¬ P) : OC (rZc 0 v) (sbv v P) := oc_rZ (Or.inl rfl) ⟨rfl, Or.inr ⟨rfl, h⟩⟩
theorem say0 {P : Prop} {r : Int32} (h : say P r) (h0 : r = 0) : ¬ P := by
  rcases h with ⟨e, -⟩ | ⟨-, e⟩
  · rw [h0] at e; exact absurd e (by decide)
  · exact e
theorem say1 {P : Prop} {r : Int32} (h : say P r) (h0 : ¬ r = 0) : P := by
  rcases h with ⟨-, e⟩ | ⟨e, -⟩
  · exact e
  · exact absurd e h0
theorem k_isSession (x : Int32) : OC (cv_D_isSession x v) (sbv v (¬ x < 0 ∧ ¬ 6 ≤ x)) := by
  unfold cv_D_isSession
  exact oc_if (fun e => cb_f (fun w => w.1 e)) (fun e => oc_if (fun e2 => cb_f (fun w => w.2 e2)) (fun e2 => cb_t ⟨e, e2⟩))
theorem k_isTable (x : Int32) : OC (cv_D_isTable x v) (sbv v (¬ x < 0 ∧ ¬ 8 ≤ x)) := by
  unfold cv_D_isTable
  exact oc_if (fun e => cb_f (fun w => w.1 e)) (fun e => oc_if (fun e2 => cb_f (fun w => w.2 e2)) (fun e2 => cb_t ⟨e, e2⟩))
theorem k_isColumn (x : Int32) : OC (cv_D_isColumn x v) (sbv v (¬ x < 0 ∧ ¬ 8 ≤ x)) := by
  unfold cv_D_isColumn
  exact oc_if (fun e => cb_f (fun w => w.1 e)) (fun e => oc_if (fun e2 => cb_f (fun w => w.2 e2)) (fun e2 => cb_t ⟨e, e2⟩))
theorem ses_of {x : Int32} (h : ¬ x < 0 ∧ ¬ 6 ≤ x) : ∃ j, j < 6 ∧ x = nI j := by
  rcases pk_ix x (n := 6) (by decide) with w | w | w
  · exact absurd w h.1
  · exact absurd w h.2
  · exact w
theorem tab_of {x : Int32} (h : ¬ x < 0 ∧ ¬ 8 ≤ x) : ∃ j, j < 8 ∧ x = nI j := by
  rcases pk_ix x (n := 8) (by decide) with w | w | w
  · exact absurd w h.1
  · exact absurd w h.2
  · exact w
theorem tab_ok {j : Nat} (hj : j < 8) : ¬ nI j < 0 ∧ ¬ 8 ≤ nI j := ⟨nI_pos (by omega), fun h => by
  rw [show (8 : Int32) = nI 8 from rfl, nI_leI (by omega) (by omega)] at h; omega⟩
theorem ses_ok {j : Nat} (hj : j < 6) : ¬ nI j < 0 ∧ ¬ 6 ≤ nI j := ⟨nI_pos (by omega), fun h => by
  rw [show (6 : Int32) = nI 6 from rfl, nI_leI (by omega) (by omega)] at h; omega⟩
theorem k_runningIn (hA : AI A) (h : AC v A sl ad) (s : Int32) : OC (cv_D_runningIn s v) (fun r v' => v' = v ∧ ((∃ q, Run A s q ∧ r = some (ad q)) ∨ (r = none ∧ noRun A s))) := by
  unfold cv_D_runningIn
  refine oc_bn (k_isSession s) ?_
  rintro r v1 ⟨rfl, hr⟩
  refine oc_if (fun e => oc_ret ⟨rfl, Or.inr ⟨rfl, fun q hq => ?_⟩⟩) (fun e => ?_)
  · obtain ⟨-, j, hj, e2⟩ := hA.run hq
    exact say0 hr e (by rw [e2]; exact ses_ok hj)
  · obtain ⟨j, hj, e2⟩ := ses_of (say1 hr e)
    refine oc_rE j e2 hj (oc_ret ⟨rfl, ?_⟩)
    rw [e2]
    rcases h.2.1.2 j hj with ⟨w1, w2⟩ | ⟨q, w1, w2⟩
    · exact Or.inr ⟨w1, w2⟩
    · exact Or.inl ⟨q, w1, w2⟩
theorem k_keptWithId (h : AC v A sl ad) (x : Int32) : OC (cv_D_keptWithId x v) (fun r v' => v' = v ∧ ((aK A x ∧ r = some (ad x)) ∨ (r = none ∧ ¬ aK A x))) := by
  have key : ∀ (n j : Nat), j ≤ 64 → 64 - j < n → (∀ q, aK A q → sl q < j → q ≠ x) → OC (cv_D_keptWithId_b2 n x (nI j) v) (fun r v' => v' = v ∧ ((aK A x ∧ r = some (ad x)) ∨ (r = none ∧ ¬ aK A x))) := by
    intro n
    induction n with
    | zero => intro j _ h; omega
    | succ n ih =>
      intro j hj hn hx
      rw [cv_D_keptWithId_b2]
      refine oc_if (fun hle => oc_ret ⟨rfl, Or.inr ⟨rfl, fun hk => ?_⟩⟩) (fun hlt => ?_)
      · rw [nI_leI (by omega) (by omega)] at hle
        exact hx x hk (by have := (h.ks hk).1; omega) rfl
      rw [nI_leI (by omega) (by omega)] at hlt
      refine oc_rS j rfl (by omega) (oc_if (fun e => ?_) (fun e => ?_))
      · rw [nI_1]
        refine ih (j + 1) (by omega) (by omega) (fun q hq hs => ?_)
        rcases Nat.lt_or_ge (sl q) j with w | w
        · exact hx q hq w
        · have := (h.ks hq).2
          rw [show sl q = j by omega, e] at this
          cases this
      · obtain ⟨a, ea⟩ := Option.ne_none_iff_exists'.mp e
        obtain ⟨q, hq, hs, had⟩ := h.at (by omega) ea
        obtain ⟨t, ht, hT, -⟩ := h.t hq
        rw [ea]
        rw [had] at ht
        refine oc_tI ht (oc_if (fun e2 => oc_ret ⟨rfl, Or.inl ?_⟩) (fun e2 => ?_))
        · rw [hT.1.1] at e2
          subst e2
          exact ⟨hq, by rw [had]⟩
        · rw [nI_1]
          refine ih (j + 1) (by omega) (by omega) (fun p hp hs2 => ?_)
          rcases Nat.lt_or_ge (sl p) j with w | w
          · exact hx p hp w
          · have : p = q := h.slinj hp hq (by omega)
            rw [this]
            rw [hT.1.1] at e2
            exact e2
  exact key 2000 0 (by omega) (by omega) (fun q _ w => by omega)
theorem k_isRunning {a : Nat} {t : TX} (ht : cT v a = some t) : OC (cv_T_isRunning a v) (sbv v (t.1 3 = 0)) := by
  unfold cv_T_isRunning
  exact oc_tI ht (oc_if (fun e => cb_t e) (fun e => cb_f e))
theorem k_before {a : Nat} {t : TX} (ht : cT v a = some t) (c : Int32) : OC (cv_T_committedBefore a c v) (sbv v (t.1 3 ≠ 0 ∧ t.1 3 < c)) := by
  unfold cv_T_committedBefore
  refine oc_okT ht (oc_bn (k_isRunning ht) ?_)
  rintro r v1 ⟨rfl, hr⟩
  refine oc_if (fun e => oc_tI ht (oc_if (fun e2 => cb_f (fun w => absurd e2 (Int32.not_le.mpr w.2))) (fun e2 => cb_t ⟨say0 hr e, Int32.not_le.mp e2⟩))) (fun e => cb_f (fun w => w.1 (say1 hr e)))
theorem k_first (h : AC v A sl ad) {x y : Int32} (hx : aK A x) (hy : aK A y) : OC (cv_D_isFirstOfDanger (some (ad x)) (some (ad y)) v) (sbv v (dang A x y)) := by
  obtain ⟨t, ht, hT, -⟩ := h.t hx
  obtain ⟨u, hu, hU, -⟩ := h.t hy
  unfold cv_D_isFirstOfDanger
  refine oc_tI hu ?_
  rw [hU.1.2.2.2.2]
  refine oc_if (fun e => cb_f (fun w => w.1 e)) (fun e => oc_okT ht (oc_bn (k_before ht _) ?_))
  rintro r v1 ⟨rfl, hr⟩
  rw [hT.1.2.2.2.1] at hr
  refine oc_if (fun e1 => oc_okT hu (oc_bn (k_before hu _) ?_)) (fun e1 => cb_f (fun w => ?_))
  · rintro r2 v2 ⟨rfl, hr2⟩
    rw [hU.1.2.2.2.1] at hr2
    have n1 := say0 hr e1
    have dd : ∀ p c : Int32, ¬ (p ≠ 0 ∧ p < c) → p = 0 ∨ ¬ p < c := fun p c w => by
      by_cases e : p = 0
      · exact Or.inl e
      · exact Or.inr (fun z => w ⟨e, z⟩)
    refine oc_if (fun e2 => cb_t ⟨e, dd _ _ n1, dd _ _ (say0 hr2 e2)⟩) (fun e2 => cb_f (fun w => ?_))
    obtain ⟨a1, a2⟩ := say1 hr2 e2
    exact w.2.2.elim a1 (fun z => z a2)
  · obtain ⟨a1, a2⟩ := say1 hr e1
    exact w.2.1.elim a1 (fun z => z a2)
theorem k_conc (h : AC v A sl ad) {x y : Int32} (hx : aK A x) (hy : aK A y) (h0 : aF A 4 y = 0) : OC (cv_T_isConcurrentWith (ad x) (some (ad y)) v) (sbv v (conc A x y)) := by
  obtain ⟨t, ht, hT, -⟩ := h.t hx
  obtain ⟨u, hu, hU, -⟩ := h.t hy
  unfold cv_T_isConcurrentWith
  refine oc_okT ht (oc_bn (k_isRunning ht) ?_)
  rintro r v1 ⟨rfl, hr⟩
  rw [hT.1.2.2.2.1] at hr
  refine oc_if (fun e => oc_tI ht (oc_tI hu ?_)) (fun e => cb_t ⟨Or.inl (say1 hr e), Or.inl h0⟩)
  rw [hT.1.2.2.2.1, hU.1.2.2.1]
  exact oc_if (fun e2 => cb_f (fun w => w.1.elim (say0 hr e) (fun z => absurd e2 (Int32.not_le.mpr z)))) (fun e2 => cb_t ⟨Or.inr (Int32.not_le.mp e2), Or.inl h0⟩)
theorem lg_zero {x : Int64} : lg_cmp x 0 = 0 ↔ x = 0 := by
  unfold lg_cmp
  constructor
  · intro h
    split at h
    · exact absurd h (by decide)
    · split at h
      · assumption
      · exact absurd h (by decide)
  · intro h
    rw [h]
    rfl
theorem k_pointsAt (h : AC v A sl ad) {x y : Int32} (hx : aK A x) (hy : aK A y) : OC (cv_T_pointsAt (ad x) (some (ad y)) v) (sbv v (aA A x y)) := by
  obtain ⟨t, ht, hT, -⟩ := h.t hx
  obtain ⟨u, hu, hU, -⟩ := h.t hy
  unfold cv_T_pointsAt
  refine oc_tL ht (oc_tI hu ?_)
  rw [hU.1.2.1]
  have hs := (h.ks hy).1
  have e : tb t.2.1 (sl y) ↔ aA A x y := by
    rw [hT.2.2 _ hs]
    constructor
    · rintro ⟨p, p1, p2, p3⟩
      rw [h.slinj p1 hy p2] at p3
      exact p3
    · intro w
      exact ⟨y, hy, rfl, w⟩
  refine oc_if (fun w => cb_f (fun z => ?_)) (fun w => cb_t ?_)
  · exact (tb_and hs).mpr (e.mpr z) (lg_zero.mp w)
  · exact e.mp ((tb_and hs).mp (fun z => w (lg_zero.mpr z)))
theorem k_pointed (h : AC v A sl ad) {y : Int32} (hy : aK A y) (c : Int32) : OC (cv_D_isPointedAtByOneNotBefore (some (ad y)) c v) (sbv v (∃ z, aK A z ∧ aA A z y ∧ (aF A 4 z = 0 ∨ ¬ aF A 4 z < c))) := by
  have key : ∀ (n j : Nat), j ≤ 64 → 64 - j < n → (∀ q, aK A q → sl q < j → ¬ (aA A q y ∧ (aF A 4 q = 0 ∨ ¬ aF A 4 q < c))) → OC (cv_D_isPointedAtByOneNotBefore_b2 n (some (ad y)) c (nI j) v) (sbv v (∃ z, aK A z ∧ aA A z y ∧ (aF A 4 z = 0 ∨ ¬ aF A 4 z < c))) := by
    intro n
    induction n with
    | zero => intro j _ h; omega
    | succ n ih =>
      intro j hj hn hx
      rw [cv_D_isPointedAtByOneNotBefore_b2]
      refine oc_if (fun hle => cb_f ?_) (fun hlt => ?_)
      · rw [nI_leI (by omega) (by omega)] at hle
        rintro ⟨z, z1, z2⟩
        exact hx z z1 (by have := (h.ks z1).1; omega) z2
      rw [nI_leI (by omega) (by omega)] at hlt
      refine oc_rS j rfl (by omega) (oc_if (fun e => ?_) (fun e => ?_))
      · rw [nI_1]
        refine ih (j + 1) (by omega) (by omega) (fun q hq hs => ?_)
        rcases Nat.lt_or_ge (sl q) j with w | w
        · exact hx q hq w
        · have := (h.ks hq).2
          rw [show sl q = j by omega, e] at this
          cases this
      · obtain ⟨a, ea⟩ := Option.ne_none_iff_exists'.mp e
        obtain ⟨q, hq, hs, had⟩ := h.at (by omega) ea
        obtain ⟨t, ht, hT, -⟩ := h.t hq
        rw [ea, ← had]
        have next : ¬ (aA A q y ∧ (aF A 4 q = 0 ∨ ¬ aF A 4 q < c)) → OC (cv_D_isPointedAtByOneNotBefore_b2 n (some (ad y)) c (nI j + 1) v) (sbv v (∃ z, aK A z ∧ aA A z y ∧ (aF A 4 z = 0 ∨ ¬ aF A 4 z < c))) := fun hno => by
          rw [nI_1]
          refine ih (j + 1) (by omega) (by omega) (fun p hp hs2 => ?_)
          rcases Nat.lt_or_ge (sl p) j with w | w
          · exact hx p hp w
          · rw [h.slinj hp hq (by omega)]; exact hno
        refine oc_okT ht (oc_bn (k_pointsAt h hq hy) ?_)
        rintro r v1 ⟨rfl, hr⟩
        refine oc_if (fun e1 => next (fun w => say0 hr e1 w.1)) (fun e1 => oc_okT ht (oc_bn (k_before ht c) ?_))
        rintro r2 v2 ⟨rfl, hr2⟩
        rw [hT.1.2.2.2.1] at hr2
        refine oc_if (fun e2 => cb_t ⟨q, hq, say1 hr e1, ?_⟩) (fun e2 => next (fun w => ?_))
        · have := say0 hr2 e2
          by_cases e : aF A 4 q = 0
          · exact Or.inl e
          · exact Or.inr (fun z => this ⟨e, z⟩)
        · obtain ⟨a1, a2⟩ := say1 hr2 e2
          exact w.2.elim a1 (fun z => z a2)
  exact key 2000 0 (by omega) (by omega) (fun q _ w => by omega)
theorem k_second (h : AC v A sl ad) {x y : Int32} (hx : aK A x) (hy : aK A y) : OC (cv_D_isSecondOfDanger (some (ad x)) (some (ad y)) v) (sbv v (sec A x y)) := by
  obtain ⟨u, hu, hU, -⟩ := h.t hy
  unfold cv_D_isSecondOfDanger
  refine oc_okT hu (oc_bn (k_isRunning hu) ?_)
  rintro r v1 ⟨rfl, hr⟩
  rw [hU.1.2.2.2.1] at hr
  refine oc_if (fun e => oc_tI hu ?_) (fun e => cb_f (fun w => w.1 (say1 hr e)))
  rw [hU.1.2.2.2.1]
  refine oc_bn (k_pointed h hx _) ?_
  rintro r2 v2 ⟨rfl, hr2⟩
  exact oc_if (fun e2 => cb_f (fun w => say0 hr2 e2 w.2)) (fun e2 => cb_t ⟨say0 hr e, say1 hr2 e2⟩)
theorem k_lacks {a : Nat} {x : RX} (hx : cR v a = some x) (c : Int32) : OC (cv_R_lacks a c v) (sbv v (¬ x.1 3 &&& c = 0)) := by
  unfold cv_R_lacks
  exact oc_gI hx (oc_if (fun e => cb_f (fun w => w e)) (fun e => cb_t e))
theorem k_above {a : Nat} {x : RX} (hx : cR v a = some x) (z : Int64) : OC (cv_R_isAboveLow a z v) (sbv v (loA (gx x) z)) := by
  unfold cv_R_isAboveLow
  refine oc_okR hx (oc_bn (k_lacks hx 4) ?_)
  rintro r v1 ⟨rfl, hr⟩
  refine oc_if (fun e => ?_) (fun e => cb_t (Or.inl (say1 hr e)))
  have n4 := say0 hr e
  refine oc_gI hx (oc_if (fun e1 => oc_gL hx (oc_if (fun e2 => cb_f ?_) (fun e2 => cb_t (Or.inr (Or.inl ⟨e1, e2⟩))))) (fun e1 => oc_gL hx (oc_if (fun e2 => cb_f ?_) (fun e2 => cb_t (Or.inr (Or.inr ⟨e1, e2⟩))))))
  · rintro (w | w | w)
    · exact n4 w
    · exact w.2 e2
    · exact w.1 e1
  · rintro (w | w | w)
    · exact n4 w
    · exact e1 w.1
    · exact w.2 e2
theorem k_below {a : Nat} {x : RX} (hx : cR v a = some x) (z : Int64) : OC (cv_R_isBelowHigh a z v) (sbv v (hiA (gx x) z)) := by
  unfold cv_R_isBelowHigh
  refine oc_okR hx (oc_bn (k_lacks hx 8) ?_)
  rintro r v1 ⟨rfl, hr⟩
  refine oc_if (fun e => ?_) (fun e => cb_t (Or.inl (say1 hr e)))
  have n4 := say0 hr e
  refine oc_gI hx (oc_if (fun e1 => oc_gL hx (oc_if (fun e2 => cb_f ?_) (fun e2 => cb_t (Or.inr (Or.inl ⟨e1, e2⟩))))) (fun e1 => oc_gL hx (oc_if (fun e2 => cb_f ?_) (fun e2 => cb_t (Or.inr (Or.inr ⟨e1, e2⟩))))))
  · rintro (w | w | w)
    · exact n4 w
    · exact w.2 e2
    · exact w.1 e1
  · rintro (w | w | w)
    · exact n4 w
    · exact e1 w.1
    · exact w.2 e2
theorem k_holds (h : AC v A sl ad) {a : Nat} {x : RX} (hx : cR v a = some x) (hc : x.1 0 = -1 ∨ ∃ y, y < 8 ∧ x.1 0 = nI y) : OC (cv_R_holds a v) (sbv v (inG A (gx x))) := by
  unfold cv_R_holds cv_R_isWholeTable
  refine oc_okR hx (oc_bn (oc_gI hx (oc_if (fun e => cb_t e) (fun e => cb_f e))) ?_)
  rintro r v1 ⟨rfl, hr⟩
  refine oc_if (fun e => ?_) (fun e => cb_t (Or.inl ?_))
  · obtain ⟨y, hy, ey⟩ := hc.resolve_left (say0 hr e)
    have hn : ¬ (gx x).1 < 0 := by show ¬ x.1 0 < 0; rw [ey]; exact nI_pos (by omega)
    have hcl : (gx x).1.toNatClampNeg = y := by show (x.1 0).toNatClampNeg = y; rw [ey, nI_clamp (by omega)]
    obtain ⟨f1, f2, f3⟩ := h.2.2.2.1 y hy
    refine oc_gI hx ?_
    rw [ey]
    unfold cv_V_isFilled
    refine oc_bn (oc_bn (k_isColumn (nI y)) (Q := sbv v1 (aH A y)) ?_) ?_
    · rintro r2 v2 ⟨rfl, hr2⟩
      refine oc_if (fun e2 => absurd (tab_ok hy) (say0 hr2 e2)) (fun _ => oc_rB y rfl hy (oc_if (fun e3 => cb_f (fun w => f2.mpr w e3)) (fun e3 => cb_t (f2.mp e3))))
    rintro r2 v2 ⟨rfl, hr2⟩
    refine oc_if (fun e2 => cb_f (fun w => ?_)) (fun e2 => oc_gI hx ?_)
    · rcases w with w | ⟨w, -⟩
      · exact hn w
      · rw [hcl] at w; exact say0 hr2 e2 w
    have hH := say1 hr2 e2
    rw [ey]
    unfold cv_V_valueOf
    refine oc_bn (oc_bn (k_isColumn (nI y)) (Q := fun r v' => v' = v2 ∧ r = aL A y) ?_) ?_
    · rintro r3 v3 ⟨rfl, hr3⟩
      exact oc_if (fun e2 => absurd (tab_ok hy) (say0 hr3 e2)) (fun _ => oc_rV y rfl hy (oc_ret ⟨rfl, f3⟩))
    rintro r3 v3 ⟨rfl, rfl⟩
    refine oc_okR hx (oc_bn (k_above hx _) ?_)
    rintro r4 v4 ⟨rfl, hr4⟩
    refine oc_if (fun e4 => cb_f (fun w => ?_)) (fun e4 => oc_okR hx (oc_bn (k_below hx _) ?_))
    · rcases w with w | ⟨-, w, -⟩
      · exact hn w
      · rw [hcl] at w; exact say0 hr4 e4 w
    rintro r5 v5 ⟨rfl, hr5⟩
    refine oc_if (fun e5 => cb_f (fun w => ?_)) (fun e5 => cb_t (Or.inr (by rw [hcl]; exact ⟨hH, say1 hr4 e4, say1 hr5 e5⟩)))
    rcases w with w | ⟨-, -, w⟩
    · exact hn w
    · rw [hcl] at w; exact say0 hr5 e5 w
  · show x.1 0 < 0
    rw [say1 hr e]; decide
theorem k_hasRange (h : AC v A sl ad) {q : Int32} (hq : aK A q) {u : Nat} (hu : u < 8) : OC (cv_T_hasRangeWith (ad q) (nI u) v) (sbv v (inR A q u)) := by
  obtain ⟨t, ht, hT, hR⟩ := h.t hq
  obtain ⟨L, c1, c2, c3, c6, c4, c5⟩ := hR u hu
  have key : ∀ (L : List RG) (n : Nat) (o : Option Nat), L.length < n → Ch (cR v) o L → (∀ w, w ∈ L → w.1 = -1 ∨ ∃ y, y < 8 ∧ w.1 = nI y) → OC (cv_T_hasRangeWith_b16 n o v) (sbv v (∃ g, g ∈ L ∧ inG A g)) := by
    intro L
    induction L with
    | nil =>
      intro n o hn hc _
      cases n with
      | zero => exact absurd hn (Nat.not_lt_zero _)
      | succ n =>
        rw [cv_T_hasRangeWith_b16]
        exact oc_if (fun _ => cb_f (fun ⟨g, hg, _⟩ => by cases hg)) (fun e => absurd hc e)
    | cons g L ih =>
      intro n o hn hc hcol
      cases n with
      | zero => exact absurd hn (Nat.not_lt_zero _)
      | succ n =>
        obtain ⟨b, x, e1, e2, e3, e4⟩ := hc
        subst e1
        rw [cv_T_hasRangeWith_b16]
        refine oc_if (fun e => by cases e) (fun _ => oc_okR e2 (oc_bn (k_holds h e2 ?_) ?_))
        · have := hcol g (List.mem_cons_self ..)
          rw [← e3] at this
          exact this
        rintro r v1 ⟨rfl, hr⟩
        rw [e3] at hr
        refine oc_if (fun e => oc_gX e2 ?_) (fun e => cb_t ⟨g, List.mem_cons_self .., say1 hr e⟩)
        refine oc_imp (ih n x.2.2 (by simp at hn; omega) e4 (fun w hw => hcol w (List.mem_cons_of_mem _ hw))) ?_
        rintro r2 v2 ⟨rfl, hr2⟩
        refine ⟨rfl, ?_⟩
        have : (∃ z, z ∈ g :: L ∧ inG A z) ↔ ∃ z, z ∈ L ∧ inG A z := by
          constructor
          · rintro ⟨z, hz, hi⟩
            rcases List.mem_cons.mp hz with rfl | hz
            · exact absurd hi (say0 hr e)
            · exact ⟨z, hz, hi⟩
          · rintro ⟨z, hz, hi⟩
            exact ⟨z, List.mem_cons_of_mem _ hz, hi⟩
        unfold say
        rw [this]
        exact hr2
  unfold cv_T_hasRangeWith
  refine oc_bn (k_isTable (nI u)) ?_
  rintro r v1 ⟨rfl, hr⟩
  refine oc_if (fun e => absurd (tab_ok hu) (say0 hr e)) (fun _ => oc_okT ht (oc_rF ht u rfl hu ?_))
  refine oc_imp (key L 2000 _ (by omega) c1 c6) ?_
  rintro r2 v2 ⟨rfl, hr2⟩
  refine ⟨rfl, ?_⟩
  have : inR A q u ↔ ∃ g, g ∈ L ∧ inG A g := by
    constructor
    · rintro (w | ⟨g, hg, hi⟩)
      · obtain ⟨g, hg, e⟩ := c4 w
        exact ⟨g, hg, Or.inl (by rw [e]; decide)⟩
      · by_cases w : (aR A q u).1
        · obtain ⟨g, hg, e⟩ := c4 w
          exact ⟨g, hg, Or.inl (by rw [e]; decide)⟩
        · exact ⟨g, ((c5 w).2 g).mp hg, hi⟩
    · rintro ⟨g, hg, hi⟩
      by_cases w : (aR A q u).1
      · exact Or.inl w
      · exact Or.inr ⟨g, ((c5 w).2 g).mpr hg, hi⟩
  unfold say
  rw [this]
  exact hr2
end KQ
