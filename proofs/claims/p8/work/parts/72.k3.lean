/-! arrows and dooms, in the class -/
theorem sT_at {v : CV} {a : Nat} {t : TX} : cT (sT v a t) a = some t := if_pos rfl
theorem sT_ne {v : CV} {a b : Nat} {t : TX} (h : b ≠ a) : cT (sT v a t) b = cT v b := if_neg h
theorem up_at {α : Type} {f : Nat → α} {k : Nat} {x : α} : up f k x k = x := if_pos rfl
theorem up_ne {α : Type} {f : Nat → α} {k j : Nat} {x : α} (h : j ≠ k) : up f k x j = f j := if_neg h
section KA
variable {v : CV} {A : Ab} {sl ad : Int32 → Nat}
theorem k_note {a : Nat} {t : TX} (ht : cT v a = some t) (c : Int32) : OC (cv_T_noteCommitPointedAt a c v) (fun _ v' => v' = if t.1 6 = 0 ∨ c < t.1 6 then sT v a (up t.1 6 c, t.2) else v) := by
  unfold cv_T_noteCommitPointedAt cv_T_noteCommitPointedAt_b15
  refine oc_tI ht (oc_if (fun e => oc_wT ht (oc_ret ?_)) (fun e => oc_tI ht (oc_if (fun e2 => oc_ret ?_) (fun e2 => oc_wT ht (oc_ret ?_)))))
  · rw [if_pos (Or.inl e)]
  · rw [if_neg]
    rintro (w | w)
    · exact e w
    · exact absurd e2 (Int32.not_le.mpr w)
  · rw [if_pos (Or.inr (Int32.not_le.mp e2))]
theorem ptA_6 {x y : Int32} : aF (ptA A x y) 6 x = if aF A 4 y ≠ 0 ∧ (aF A 6 x = 0 ∨ aF A 4 y < aF A 6 x) then aF A 4 y else aF A 6 x := by
  show (if 6 = 6 ∧ x = x ∧ aF A 4 y ≠ 0 ∧ (aF A 6 x = 0 ∨ aF A 4 y < aF A 6 x) then aF A 4 y else aF A 6 x) = _
  by_cases e : aF A 4 y ≠ 0 ∧ (aF A 6 x = 0 ∨ aF A 4 y < aF A 6 x)
  · rw [if_pos ⟨rfl, rfl, e⟩, if_pos e]
  · rw [if_neg (fun w => e w.2.2), if_neg e]
theorem ptA_o {x y z : Int32} {d : Nat} (hz : z ≠ x) : aF (ptA A x y) d z = aF A d z := by
  show (if _ then _ else _) = _
  rw [if_neg (fun w => hz w.2.1)]
theorem k_point (h : AC v A sl ad) {x y : Int32} (hx : aK A x) (hy : aK A y) (hne : x ≠ y) : OC (cv_T_pointAt (ad x) (some (ad y)) v) (fun _ v' => AC v' (ptA A x y) sl ad) := by
  obtain ⟨t, ht, hT, hTR⟩ := h.t hx
  obtain ⟨u, hu, hU, -⟩ := h.t hy
  have hs := (h.ks hy).1
  have hane : ad y ≠ ad x := fun e => hne (h.adinj hx hy e.symm)
  unfold cv_T_pointAt
  refine oc_tL ht (oc_tI hu (oc_wTL ht ?_))
  rw [hU.1.2.1]
  have fin : ∀ (t' : TX) (v' : CV), cD v' = cD v → cV v' = cV v → cF v' = cF v → cE v' = cE v → cS v' = cS v → cR v' = cR v → cZ v' = cZ v → (∀ b, b ≠ ad x → cT v' b = cT v b) → cT v' (ad x) = some t' → (∀ k, k ≠ 6 → t'.1 k = t.1 k) → t'.2.1 = (t.2.1 ||| (1 : Int64) <<< (Int32.toInt64 (nI (sl y)) &&& 63)) → t'.2.2 = t.2.2 → t'.1 6 = aF (ptA A x y) 6 x → AC v' (ptA A x y) sl ad := by
    intro t' v' e1 e2 e3 e4 e5 e6 e7 e8 e9 g1 g2 g3 g4
    refine ac_upd h hx e1 e2 e3 e4 e5 e6 e7 e8 e9 rfl rfl rfl (funext fun z => ptA_Fd (by decide)) rfl rfl (fun d z hz _ => ptA_o hz) (fun _ _ => Iff.rfl) (fun z p hz => ⟨fun w => w.elim id (fun w => absurd w.1 hz), Or.inl⟩) (fun _ _ => rfl) ⟨⟨?_, ?_, ?_, ?_, g4⟩, ⟨?_, ?_⟩, fun j hj => ?_⟩ ?_
    · rw [g1 0 (by decide)]; exact hT.1.1
    · rw [g1 1 (by decide)]; exact hT.1.2.1
    · rw [g1 2 (by decide), ptA_Fd (by decide)]; exact hT.1.2.2.1
    · rw [g1 3 (by decide), ptA_Fd (by decide)]; exact hT.1.2.2.2.1
    · rw [g1 4 (by decide)]; exact hT.2.1.1
    · rw [g1 4 (by decide)]; exact hT.2.1.2
    · rw [g2, tb_or hs hj, hT.2.2 j hj]
      constructor
      · rintro (⟨p, p1, p2, p3⟩ | e)
        · exact ⟨p, p1, p2, Or.inl p3⟩
        · exact ⟨y, hy, e.symm, Or.inr ⟨rfl, rfl⟩⟩
      · rintro ⟨p, p1, p2, p3 | ⟨-, p3⟩⟩
        · exact Or.inl ⟨p, p1, p2, p3⟩
        · exact Or.inr (by rw [← p2, p3])
    · unfold CR
      rw [g3]; exact hTR
  have hu1 : cT (sT v (ad x) (t.1, t.2.1 ||| (1 : Int64) <<< (Int32.toInt64 (nI (sl y)) &&& 63), t.2.2)) (ad y) = some u := by rw [sT_ne hane]; exact hu
  refine oc_okT hu1 (oc_bn (k_isRunning hu1) ?_)
  rintro r v1 ⟨rfl, hr⟩
  rw [hU.1.2.2.2.1] at hr
  refine oc_if (fun e => oc_tI hu1 (oc_okT sT_at (oc_bnU (k_note sT_at _) ?_))) (fun e => oc_ret ?_)
  · rintro v2 rfl
    rw [hU.1.2.2.2.1]
    have n0 := say0 hr e
    refine oc_ret ?_
    by_cases c : aF A 6 x = 0 ∨ aF A 4 y < aF A 6 x
    · have c' : t.1 6 = 0 ∨ aF A 4 y < t.1 6 := by rw [hT.1.2.2.2.2]; exact c
      rw [if_pos c']
      refine fin (up t.1 6 (aF A 4 y), t.2.1 ||| (1 : Int64) <<< (Int32.toInt64 (nI (sl y)) &&& 63), t.2.2) _ rfl rfl rfl rfl rfl rfl rfl (fun b hb => by rw [sT_ne hb, sT_ne hb]) sT_at (fun k hk => up_ne hk) rfl rfl ?_
      rw [ptA_6, if_pos ⟨n0, c⟩]; exact up_at (f := t.1) (k := 6) (x := aF A 4 y)
    · have c' : ¬ (t.1 6 = 0 ∨ aF A 4 y < t.1 6) := by rw [hT.1.2.2.2.2]; exact c
      rw [if_neg c']
      refine fin (t.1, t.2.1 ||| (1 : Int64) <<< (Int32.toInt64 (nI (sl y)) &&& 63), t.2.2) _ rfl rfl rfl rfl rfl rfl rfl (fun b hb => sT_ne hb) sT_at (fun k hk => rfl) rfl rfl ?_
      rw [ptA_6, if_neg (fun w => c w.2)]; exact hT.1.2.2.2.2
  · refine fin (t.1, t.2.1 ||| (1 : Int64) <<< (Int32.toInt64 (nI (sl y)) &&& 63), t.2.2) _ rfl rfl rfl rfl rfl rfl rfl (fun b hb => sT_ne hb) sT_at (fun k hk => rfl) rfl rfl ?_
    rw [ptA_6, if_neg (fun w => w.1 (say1 hr e))]; exact hT.1.2.2.2.2
/-- doomed -/
theorem ac_dm (h : AC v A sl ad) {x : Int32} (hx : aK A x) {t : TX} (ht : cT v (ad x) = some t) : AC (sT v (ad x) (up t.1 4 1, t.2)) (dmA A x) sl ad := by
  obtain ⟨t', ht', hT, hTR⟩ := h.t hx
  rw [ht] at ht'
  cases ht'
  refine ac_upd h hx rfl rfl rfl rfl rfl rfl rfl (fun b hb => sT_ne hb) sT_at rfl rfl rfl rfl rfl rfl (fun _ _ _ _ => rfl) (fun z hz => ⟨fun w => w.elim id (fun w => absurd w hz), Or.inl⟩) (fun _ _ _ => Iff.rfl) (fun _ _ => rfl) ⟨⟨hT.1.1, hT.1.2.1, hT.1.2.2.1, hT.1.2.2.2.1, hT.1.2.2.2.2⟩, ⟨Or.inr (up_at (f := t.1) (k := 4) (x := 1)), ?_⟩, hT.2.2⟩ hTR
  show up t.1 4 1 4 ≠ 0 ↔ _
  rw [up_at]
  exact ⟨fun _ => Or.inr rfl, fun _ => by decide⟩
theorem k_doomed (h : AC v A sl ad) {x : Int32} (hx : aK A x) : OC ((tI v 4 (some (ad x))).bind (fun r => rZc r v)) (sbv v (aD A x)) := by
  obtain ⟨t, ht, hT, -⟩ := h.t hx
  refine oc_tI ht ?_
  obtain ⟨w1, w2⟩ := hT.2.1
  refine oc_rZ w1 ⟨rfl, ?_⟩
  rcases w1 with e | e
  · exact Or.inr ⟨e, fun q => w2.mpr q e⟩
  · exact Or.inl ⟨e, w2.mp (by rw [e]; decide)⟩
/-- the slots up to j -/
theorem slot_none (h : AC v A sl ad) {j : Nat} (e : cS v j = none) (z : Int32) : (aK A z ∧ sl z < j + 1) ↔ (aK A z ∧ sl z < j) := by
  refine ⟨fun w => ⟨w.1, ?_⟩, fun w => ⟨w.1, by omega⟩⟩
  rcases Nat.lt_or_ge (sl z) j with u | u
  · exact u
  · have := (h.ks w.1).2
    rw [show sl z = j by omega, e] at this
    cases this
theorem slot_some (h : AC v A sl ad) {j : Nat} {q : Int32} (hq : aK A q) (hs : sl q = j) (z : Int32) : (aK A z ∧ sl z < j + 1) ↔ (aK A z ∧ sl z < j) ∨ z = q := by
  constructor
  · rintro ⟨w1, w2⟩
    rcases Nat.lt_or_ge (sl z) j with u | u
    · exact Or.inl ⟨w1, u⟩
    · exact Or.inr (h.slinj w1 hq (by omega))
  · rintro (w | w)
    · exact ⟨w.1, by omega⟩
    · subst w; exact ⟨hq, by omega⟩
theorem k_write (hA : AI A) (h : AC v A sl ad) {q : Int32} (hq : aK A q) (h0 : aF A 4 q = 0) {u : Nat} (hu : u < 8) : OC (cv_D_write_b22 2000 (nI u) (some (ad q)) 0 v) (fun r v' => AC v' (wrA A q u) sl ad ∧ say (aD (wrA A q u) q) r) := by
  have key : ∀ (n j : Nat) (v1 : CV), j ≤ 64 → 64 - j < n → AC v1 (wrP A q u (fun z => aK A z ∧ sl z < j)) sl ad → OC (cv_D_write_b22 n (nI u) (some (ad q)) (nI j) v1) (fun r v' => AC v' (wrA A q u) sl ad ∧ say (aD (wrA A q u) q) r) := by
    intro n
    induction n with
    | zero => intro j v1 _ h; omega
    | succ n ih =>
      intro j v1 hj hn h1
      rw [cv_D_write_b22]
      refine oc_if (fun hle => ?_) (fun hlt => ?_)
      · rw [nI_leI (by omega) (by omega)] at hle
        rw [wrP_all (fun y hy => ⟨hy, by have := (h.ks hy).1; omega⟩)] at h1
        refine oc_imp (k_doomed h1 (x := q) hq) ?_
        rintro r v2 ⟨rfl, hr⟩
        exact ⟨h1, hr⟩
      rw [nI_leI (by omega) (by omega)] at hlt
      rw [nI_1 j]
      refine oc_rS j rfl (by omega) (oc_if (fun e => ?_) (fun e => ?_))
      · refine ih (j + 1) v1 (by omega) (by omega) ?_
        rw [show (fun z => aK A z ∧ sl z < j + 1) = (fun z => aK A z ∧ sl z < j) from funext fun z => propext (slot_none h1 e z)]
        exact h1
      obtain ⟨a, ea⟩ := Option.ne_none_iff_exists'.mp e
      obtain ⟨y, hy, hs, had⟩ := h1.at (by omega) ea
      have hy' : aK A y := hy
      have hS : ∀ z, (aK A z ∧ sl z < j + 1) ↔ (aK A z ∧ sl z < j) ∨ z = y := slot_some h1 hy hs
      have hA1 : AI (wrP A q u (fun z => aK A z ∧ sl z < j)) := AI_same hA rfl rfl rfl rfl rfl
      have skip : ¬ hit A q u y → OC (cv_D_write_b22 n (nI u) (some (ad q)) (nI (j + 1)) v1) (fun r v' => AC v' (wrA A q u) sl ad ∧ say (aD (wrA A q u) q) r) := fun hh => by
        refine ih (j + 1) v1 (by omega) (by omega) ?_
        rw [wrP_skip hS hh]
        exact h1
      rw [ea, ← had]
      refine oc_if (fun e1 => skip (fun w => w.2.1 (h1.adinj hy hq (Option.some.inj e1)))) (fun e1 => ?_)
      have hne : y ≠ q := fun w => e1 (by rw [w])
      obtain ⟨t, ht, -⟩ := h1.t hy
      refine oc_okT ht (oc_bn (k_conc h1 hy hq h0) ?_)
      rintro r v2 ⟨rfl, hr⟩
      refine oc_if (fun e2 => skip (fun w => say0 hr e2 w.2.2.1)) (fun e2 => oc_okT ht (oc_bn (k_hasRange h1 hy hu) ?_))
      rintro r2 v3 ⟨rfl, hr2⟩
      refine oc_if (fun e3 => skip (fun w => say0 hr2 e3 w.2.2.2)) (fun e3 => oc_okT ht (oc_bnU (k_point h1 hy hq hne) ?_))
      have hh : hit A q u y := ⟨hy', hne, say1 hr e2, say1 hr2 e3⟩
      intro v4 h4
      refine oc_bn (k_first h4 hy hq) ?_
      rintro r5 v5 ⟨rfl, hr5⟩
      have hdd : dang (ptA (wrP A q u (fun z => aK A z ∧ sl z < j)) y q) y q ↔ dang A y q := by
        unfold dang
        rw [ptA_F (by exact h0)]
        exact Iff.rfl
      rw [hdd] at hr5
      refine oc_if (fun e5 => ih (j + 1) v5 (by omega) (by omega) ?_) (fun e5 => ?_)
      · rw [wrP_pt h0 hS hh (say0 hr5 e5)]
        exact h4
      · obtain ⟨t5, ht5, -⟩ := h4.t (q := q) hq
        refine oc_wTZ ht5 (Or.inr rfl) (ih (j + 1) _ (by omega) (by omega) ?_)
        rw [wrP_dm h0 hS hh (Or.inl (say1 hr5 e5))]
        exact ac_dm h4 hq ht5
  refine key 2000 0 v (by omega) (by omega) ?_
  rw [wrP_0 (fun y hy => by have := hy.2; omega)]
  exact h
/-- the class holds A -/
def AX (v : CV) (A : Ab) : Prop := ∃ sl ad, AC v A sl ad
theorem y_write {i : Nat} (hF : Fine i A) (h : AX v A) (s t : Int32) : OC (cv_D_write s t v) (fun r v' => ∃ B, Swrite s t A r B ∧ AX v' B) := by
  obtain ⟨sl, ad, h⟩ := h
  unfold cv_D_write
  refine oc_bn (k_runningIn hF.1 h s) ?_
  rintro r v1 ⟨rfl, ⟨q, hq, rfl⟩ | ⟨rfl, hn⟩⟩
  · refine oc_if (fun e => by cases e) (fun _ => oc_bn (k_isTable t) ?_)
    rintro r2 v2 ⟨rfl, hr2⟩
    refine oc_if (fun e => oc_rZ (Or.inl rfl) ⟨A, Or.inr ⟨Or.inr ?_, rfl, rfl⟩, sl, ad, h⟩) (fun e => ?_)
    · rcases tab_dec t with ⟨j, hj, rfl⟩ | w
      · exact absurd (tab_ok hj) (say0 hr2 e)
      · exact w
    · obtain ⟨j, hj, rfl⟩ := tab_of (say1 hr2 e)
      refine oc_imp (k_write hF.1 h hq.2.1 (hF.1.run hq).1 hj) ?_
      rintro r3 v3 ⟨h3, hr3⟩
      exact ⟨_, Or.inl ⟨q, j, hq, rfl, hj, rfl, hr3⟩, sl, ad, h3⟩
  · exact oc_if (fun _ => oc_rZ (Or.inl rfl) ⟨A, Or.inr ⟨Or.inl hn, rfl, rfl⟩, sl, ad, h⟩) (fun e => absurd rfl e)
theorem y_miss {i : Nat} (hF : Fine i A) (h : AX v A) (s x : Int32) : OC (cv_D_miss s x v) (fun r v' => ∃ B, Smiss s x A r B ∧ AX v' B) := by
  obtain ⟨sl, ad, h⟩ := h
  unfold cv_D_miss cv_D_miss_b64
  refine oc_bn (k_runningIn hF.1 h s) ?_
  rintro r v1 ⟨rfl, ⟨q, hq, rfl⟩ | ⟨rfl, hn⟩⟩
  · have hqk := hq.2.1
    have h0 := (hF.1.run hq).1
    have no : ∀ w : CV, w = v1 → ¬ canMiss A q x → OC ((tI w 4 (some (ad q))).bind (fun r => rZc r w)) (fun r v' => ∃ B, Smiss s x A r B ∧ AX v' B) := by
      rintro w rfl hc
      refine oc_imp (k_doomed h hqk) ?_
      rintro r2 v2 ⟨rfl, hr2⟩
      exact ⟨A, Or.inl ⟨q, hq, Or.inr ⟨hc, rfl⟩, hr2⟩, sl, ad, h⟩
    refine oc_if (fun e => by cases e) (fun _ => oc_bn (k_keptWithId h x) ?_)
    rintro r2 v2 ⟨rfl, ⟨hx, rfl⟩ | ⟨rfl, hx⟩⟩
    · refine oc_if (fun e => by cases e) (fun _ => oc_if (fun e => no v2 rfl (fun w => w.2.1 (h.adinj hx hqk (Option.some.inj e)))) (fun e => ?_))
      have hne : x ≠ q := fun w => e (by rw [w])
      obtain ⟨t, ht, -⟩ := h.t hx
      obtain ⟨tq, htq, -⟩ := h.t hqk
      refine oc_okT ht (oc_bn (k_conc h hx hqk h0) ?_)
      rintro r3 v3 ⟨rfl, hr3⟩
      refine oc_if (fun e3 => no v3 rfl (fun w => say0 hr3 e3 ⟨w.2.2.2, w.2.2.1⟩)) (fun e3 => ?_)
      have hcm : canMiss A q x := ⟨hx, hne, (say1 hr3 e3).2, (say1 hr3 e3).1⟩
      refine oc_okT htq (oc_bnU (k_point h hqk hx (fun w => hne w.symm)) ?_)
      intro v4 h4
      have hB : AI (ptA A q x) := AI_pt hF.1 hx
      have dm : (dang (ptA A q x) q x ∨ sec (ptA A q x) q x) → OC ((wTZ v4 (some (ad q)) 1).bind (fun v1002 => (tI v1002 4 (some (ad q))).bind (fun x1003 => rZc x1003 v1002))) (fun r v' => ∃ B, Smiss s x A r B ∧ AX v' B) := fun hd => by
        obtain ⟨t5, ht5, -⟩ := h4.t (q := q) hqk
        refine oc_wTZ ht5 (Or.inr rfl) ?_
        have h5 := ac_dm h4 (x := q) hqk ht5
        have eB : dmA (ptA A q x) q = msA A q x := by
          unfold msA
          rw [dp_dm (P := False) (Or.inr hd), dp_no (fun w => w)]
        rw [eB] at h5
        refine oc_imp (k_doomed h5 (x := q) hqk) ?_
        rintro r6 v6 ⟨rfl, hr6⟩
        exact ⟨_, Or.inl ⟨q, hq, Or.inl ⟨hcm, rfl⟩, hr6⟩, sl, ad, h5⟩
      refine oc_bn (k_first h4 hqk hx) ?_
      rintro r5 v5 ⟨rfl, hr5⟩
      refine oc_if (fun e5 => oc_bn (k_second h4 hqk hx) ?_) (fun e5 => dm (Or.inl (say1 hr5 e5)))
      rintro r6 v6 ⟨rfl, hr6⟩
      refine oc_if (fun e6 => ?_) (fun e6 => dm (Or.inr (say1 hr6 e6)))
      have eB : ptA A q x = msA A q x := by
        unfold msA
        rw [dp_no (fun w => w.elim (say0 hr5 e5) (say0 hr6 e6))]
      rw [eB] at h4
      refine oc_imp (k_doomed h4 (x := q) hqk) ?_
      rintro r7 v7 ⟨rfl, hr7⟩
      exact ⟨_, Or.inl ⟨q, hq, Or.inl ⟨hcm, rfl⟩, hr7⟩, sl, ad, h4⟩
    · exact oc_if (fun _ => no v2 rfl (fun w => hx w.1)) (fun e => absurd rfl e)
  · exact oc_if (fun _ => oc_rZ (Or.inl rfl) ⟨A, Or.inr ⟨hn, rfl, rfl⟩, sl, ad, h⟩) (fun e => absurd rfl e)
theorem y_doom {i : Nat} (hF : Fine i A) (h : AX v A) (s : Int32) : OC (cv_D_doom s v) (fun r v' => ∃ B, Sdoom s A r B ∧ AX v' B) := by
  obtain ⟨sl, ad, h⟩ := h
  unfold cv_D_doom
  refine oc_bn (k_runningIn hF.1 h s) ?_
  rintro r v1 ⟨rfl, ⟨q, hq, rfl⟩ | ⟨rfl, hn⟩⟩
  · obtain ⟨t, ht, -⟩ := h.t hq.2.1
    exact oc_if (fun e => by cases e) (fun _ => oc_wTZ ht (Or.inr rfl) (oc_rZ (Or.inr rfl) ⟨_, Or.inl ⟨q, hq, rfl, rfl⟩, sl, ad, ac_dm h hq.2.1 ht⟩))
  · exact oc_if (fun _ => oc_rZ (Or.inl rfl) ⟨A, Or.inr ⟨hn, rfl, rfl⟩, sl, ad, h⟩) (fun e => absurd rfl e)
end KA
