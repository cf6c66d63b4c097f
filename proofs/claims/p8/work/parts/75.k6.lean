/-! begin, the version, and what is looked at, in the class -/
section KB
variable {v : CV} {A : Ab} {sl ad : Int32 → Nat}
theorem ac_cnt (hA : AI A) (h : AC v A sl ad) (Q : Int32 → Prop) : cnt 513 (fun n => aK A (nI n) ∧ Q (nI n)) = cnt 64 (fun i => ∃ q, aK A q ∧ sl q = i ∧ Q q) := by
  refine cnt_bij (f := fun n => sl (nI n)) 513 _ _ (fun n hn hg => ⟨(h.ks hg.1).1, nI n, hg.1, rfl, hg.2⟩) (fun i j hi hj gi gj e => ?_) (fun i hi hQ => ?_)
  · exact (nI_eq (by omega) (by omega)).mp (h.slinj gi.1 gj.1 e)
  · obtain ⟨q, q1, q2, q3⟩ := hQ
    obtain ⟨n, n1, n2, n3⟩ := hA.2.2.1 q q1
    have hb := hA.1
    exact ⟨n, by omega, by rw [← n3]; exact ⟨q1, q3⟩, by show sl (nI n) = i; rw [← n3]; exact q2⟩
theorem ac_card (hA : AI A) (h : AC v A sl ad) : cnt 64 (fun i => cS v i ≠ none) = card A := by
  have e := ac_cnt hA h (fun _ => True)
  have e1 : card A = cnt 513 (fun n => aK A (nI n) ∧ True) := cnt_congr (fun i _ => ⟨fun z => ⟨z, trivial⟩, fun z => z.1⟩)
  rw [e1, e]
  refine cnt_congr (fun i hi => ⟨fun w => ?_, fun ⟨q, q1, q2, _⟩ => ?_⟩)
  · obtain ⟨a, ea⟩ := Option.ne_none_iff_exists'.mp w
    obtain ⟨q, q1, q2⟩ := h.2.1.1 i a hi ea
    exact ⟨q, q1, q2, trivial⟩
  · rw [← q2, (h.ks q1).2]; exact fun z => by cases z
theorem k_free : OC (cv_D_freeSlot v) (fun r v' => v' = v ∧ ((∃ j, j < 64 ∧ r = nI j ∧ cS v j = none) ∨ (r = -1 ∧ ∀ j, j < 64 → cS v j ≠ none))) := by
  have key : ∀ (n j : Nat), j ≤ 64 → 64 - j < n → (∀ i, i < j → cS v i ≠ none) → OC (cv_D_freeSlot_b2 n (nI j) v) (fun r v' => v' = v ∧ ((∃ j, j < 64 ∧ r = nI j ∧ cS v j = none) ∨ (r = -1 ∧ ∀ j, j < 64 → cS v j ≠ none))) := by
    intro n
    induction n with
    | zero => intro j _ h; omega
    | succ n ih =>
      intro j hj hn hx
      rw [cv_D_freeSlot_b2]
      refine oc_if (fun hle => oc_ret ⟨rfl, Or.inr ⟨rfl, fun i hi => hx i ?_⟩⟩) (fun hlt => ?_)
      · rw [nI_leI (by omega) (by omega)] at hle; omega
      rw [nI_leI (by omega) (by omega)] at hlt
      refine oc_rS j rfl (by omega) (oc_if (fun e => oc_ret ⟨rfl, Or.inl ⟨j, by omega, rfl, e⟩⟩) (fun e => ?_))
      rw [nI_1]
      refine ih (j + 1) (by omega) (by omega) (fun i hi => ?_)
      rcases Nat.lt_or_ge i j with w | w
      · exact hx i w
      · rw [show i = j by omega]; exact e
  exact key 2000 0 (by omega) (by omega) (fun i hi => by omega)
theorem ac_bg (hA : AI A) (h : AC v A sl ad) {v' : CV} {s : Int32} {j k : Nat} {a0 : Nat} (ej : s = nI j) (hj : j < 6) (hk : k < 64) (ek : cS v k = none) (s0 : ¬ s < 0) (ha0 : a0 = (cZ v).1) (w2 : ∀ q, ¬ Run A (nI j) q) (g4 : cD v' 4 = nI (aB A + 1)) (g5 : cD v' 5 = nI (aC A)) (g3 : cD v' 3 = cD v 3 + 1) (gV : cV v' = cV v) (gF : cF v' = cF v) (gE : cE v' = up (cE v) j (some a0)) (gS : cS v' = up (cS v) k (some a0)) (gT : cT v' = up (cT v) a0 (some (fun d => if d = 0 then nI (aB A + 1) else if d = 1 then nI k else if d = 2 then nI (aC A) else 0, 0, fun _ => none, fun _ => 0))) (gR : cR v' = cR v) (gZ : (cZ v).1 < (cZ v').1) : AC v' (bgA A s) (fun z => if z = nI (aB A + 1) then k else sl z) (fun z => if z = nI (aB A + 1) then a0 else ad z) := by
  have fr : ∀ z, aK A z → z ≠ nI (aB A + 1) := fun z hz => fresh hA hz
  have Fo : ∀ d z, z ≠ nI (aB A + 1) → aF (bgA A s) d z = aF A d z := fun d z hz => if_neg hz
  have Fn : ∀ d, aF (bgA A s) d (nI (aB A + 1)) = (if d = 2 then s else if d = 3 ∨ d = 13 then nI (aC A) else if d = 14 then aF A 14 (nI (aB A + 1)) else 0) := fun d => if_pos rfl
  have adlt : ∀ z, aK A z → ad z < a0 := fun z hz => by
    obtain ⟨tz, k3, -⟩ := h.t hz
    rw [ha0]
    exact h.2.2.2.2.1 _ (by rw [k3]; exact fun w => by cases w)
  have hrun : ∀ u z, Run (bgA A s) u z ↔ Run A u z ∨ (z = nI (aB A + 1) ∧ u = s) := fun u z => by
    constructor
    · rintro ⟨a, b, c⟩
      rcases b with b | b
      · exact Or.inl ⟨a, b, by rw [← Fo 2 z (fr z b)]; exact c⟩
      · subst b
        rw [Fn 2, if_pos rfl] at c
        exact Or.inr ⟨rfl, c.symm⟩
    · rintro (⟨a, b, c⟩ | ⟨a, b⟩)
      · exact ⟨a, Or.inl b, by rw [Fo 2 z (fr z b)]; exact c⟩
      · subst a b
        exact ⟨Int32.not_lt.mp s0, Or.inr rfl, by rw [Fn 2, if_pos rfl]⟩
  refine ⟨fun z hz => ?_, ⟨fun i a hi e => ?_, fun u hu => ?_⟩, ⟨⟨?_, ?_, ?_⟩, fun i hi => ?_, fun a ha => ?_, fun b hb => ?_⟩⟩
  · rcases hz with hz | hz
    · have nz := fr z hz
      obtain ⟨k1, k2, tz, k3, k4, k5⟩ := h.1 z hz
      have esl : (if z = nI (aB A + 1) then k else sl z) = sl z := if_neg nz
      have ead : (if z = nI (aB A + 1) then a0 else ad z) = ad z := if_neg nz
      show (if z = nI (aB A + 1) then k else sl z) < 64 ∧ cS v' (if z = nI (aB A + 1) then k else sl z) = some (if z = nI (aB A + 1) then a0 else ad z) ∧ ∃ t, cT v' (if z = nI (aB A + 1) then a0 else ad z) = some t ∧ _
      rw [esl, ead, gS, gT]
      have nk : sl z ≠ k := fun w => by rw [w, ek] at k2; cases k2
      refine ⟨k1, by rw [up_ne nk]; exact k2, tz, by rw [up_ne (by have := adlt z hz; omega)]; exact k3, ⟨⟨k4.1.1, ?_, ?_, ?_, ?_⟩, ⟨k4.2.1.1, ?_⟩, fun i hi => ?_⟩, ?_⟩
      · show tz.1 1 = nI (if z = nI (aB A + 1) then k else sl z)
        rw [esl]; exact k4.1.2.1
      · rw [Fo 3 z nz]; exact k4.1.2.2.1
      · rw [Fo 4 z nz]; exact k4.1.2.2.2.1
      · rw [Fo 6 z nz]; exact k4.1.2.2.2.2
      · exact k4.2.1.2.trans ⟨fun w => ⟨nz, w⟩, fun w => w.2⟩
      · rw [k4.2.2 i hi]
        constructor
        · rintro ⟨p, p1, p2, p3⟩
          exact ⟨p, Or.inl p1, by show (if p = nI (aB A + 1) then k else sl p) = i; rw [if_neg (fr p p1)]; exact p2, nz, fr p p1, p3⟩
        · rintro ⟨p, p1, p2, p3, p4, p5⟩
          have p2' : (if p = nI (aB A + 1) then k else sl p) = i := p2
          rw [if_neg p4] at p2'
          exact ⟨p, p1.resolve_right p4, p2', p5⟩
      · intro u hu
        have : aR (bgA A s) z u = aR A z u := if_neg nz
        rw [this, gR]; exact k5 u hu
    · subst hz
      show (if nI (aB A + 1) = nI (aB A + 1) then k else sl (nI (aB A + 1))) < 64 ∧ cS v' (if nI (aB A + 1) = nI (aB A + 1) then k else sl (nI (aB A + 1))) = some (if nI (aB A + 1) = nI (aB A + 1) then a0 else ad (nI (aB A + 1))) ∧ ∃ t, cT v' (if nI (aB A + 1) = nI (aB A + 1) then a0 else ad (nI (aB A + 1))) = some t ∧ _
      rw [if_pos rfl, if_pos rfl, gS, gT]
      refine ⟨hk, up_at, _, up_at, ⟨⟨rfl, ?_, ?_, ?_, ?_⟩, ⟨Or.inl rfl, ?_⟩, fun i hi => ?_⟩, ?_⟩
      · show nI k = nI (if nI (aB A + 1) = nI (aB A + 1) then k else sl (nI (aB A + 1)))
        rw [if_pos rfl]
      · rw [Fn 3]; rfl
      · rw [Fn 4]; rfl
      · rw [Fn 6]; rfl
      · exact ⟨fun w => absurd rfl w, fun w => absurd rfl w.1⟩
      · exact ⟨fun w => absurd w tb_zero, fun ⟨p, _, _, p3, _⟩ => absurd rfl p3⟩
      · intro u hu
        have : aR (bgA A s) (nI (aB A + 1)) u = (False, 0, fun _ => False) := if_pos rfl
        rw [this]
        exact ⟨[], rfl, Nat.zero_le _, rfl, (fun w hw => by cases hw), (fun w => w.elim), fun _ => ⟨rfl, fun x => ⟨fun w => w.elim, (fun w => by cases w)⟩⟩⟩
  · have e' := e
    rw [gS] at e'
    by_cases c : i = k
    · exact ⟨nI (aB A + 1), Or.inr rfl, by show (if nI (aB A + 1) = nI (aB A + 1) then k else sl (nI (aB A + 1))) = i; rw [if_pos rfl, c]⟩
    · rw [up_ne c] at e'
      obtain ⟨q, q1, q2⟩ := h.2.1.1 i a hi e'
      exact ⟨q, Or.inl q1, by show (if q = nI (aB A + 1) then k else sl q) = i; rw [if_neg (fr q q1)]; exact q2⟩
  · show (cE v' u = none ∧ _) ∨ ∃ z, _ ∧ cE v' u = some (if z = nI (aB A + 1) then a0 else ad z)
    rw [gE]
    by_cases c : u = j
    · subst c
      exact Or.inr ⟨nI (aB A + 1), (hrun _ _).mpr (Or.inr ⟨rfl, ej.symm⟩), by rw [up_at, if_pos rfl]⟩
    · rw [up_ne c]
      have nu : nI u ≠ s := fun w => c ((nI_eq (by omega) (by omega)).mp (w.trans ej))
      rcases h.2.1.2 u hu with ⟨u1, u2⟩ | ⟨z, u1, u2⟩
      · refine Or.inl ⟨u1, fun z hz => ?_⟩
        rcases (hrun _ z).mp hz with w | w
        · exact u2 z w
        · exact nu w.2
      · exact Or.inr ⟨z, (hrun _ z).mpr (Or.inl u1), by rw [if_neg (fr z u1.2.1)]; exact u2⟩
  · exact g4
  · exact g5
  · rw [g3, gS, h.2.2.1.2.2, nI_1]
    congr 1
    refine (cnt_add (j := k) hk (fun z => z ek) (fun i hi => ⟨fun w => ?_, fun w => ?_⟩)).symm
    · by_cases c : i = k
      · exact Or.inr c
      · rw [up_ne c] at w; exact Or.inl w
    · by_cases c : i = k
      · rw [c, up_at]; exact fun z => by cases z
      · rw [up_ne c]; exact w.resolve_right c
  · rw [gF, gV]; exact h.2.2.2.1 i hi
  · rw [gT] at ha
    by_cases c : a = a0
    · rw [c, ha0]; exact gZ
    · rw [up_ne c] at ha
      have := h.2.2.2.2.1 a ha
      omega
  · rw [gR] at hb
    have := h.2.2.2.2.2 b hb
    omega
set_option maxHeartbeats 1000000 in
theorem y_begin {i : Nat} (hi : i ≤ 511) (hF : Fine i A) (h : AX v A) (s : Int32) : OC (cv_D_begin s v) (fun r v' => ∃ B, Sbegin s A r B ∧ AX v' B) := by
  obtain ⟨sl, ad, h⟩ := h
  have hA := hF.1
  have hb := hF.2.2.1
  have hcard := ac_card hA h
  unfold cv_D_begin
  refine oc_bn k_free ?_
  rintro r v1 ⟨rfl, hr⟩
  refine oc_bn (k_isSession s) ?_
  rintro r2 v2 ⟨rfl, hr2⟩
  have no : (s < 0 ∨ 6 ≤ s ∨ (∃ q, Run A s q) ∨ card A = 64) → OC (some ((-1 : Int32), v2)) (fun r v' => ∃ B, Sbegin s A r B ∧ AX v' B) := fun c => oc_ret ⟨A, Or.inr ⟨c, rfl, rfl⟩, sl, ad, h⟩
  refine oc_if (fun e => no ?_) (fun e => ?_)
  · have := say0 hr2 e
    by_cases c : s < 0
    · exact Or.inl c
    · by_cases c2 : 6 ≤ s
      · exact Or.inr (Or.inl c2)
      · exact absurd ⟨c, c2⟩ this
  obtain ⟨s0, s6⟩ := say1 hr2 e
  obtain ⟨j, hj, ej⟩ := ses_of ⟨s0, s6⟩
  refine oc_rE j ej hj ?_
  rcases h.2.1.2 j hj with ⟨w1, w2⟩ | ⟨q, w1, w2⟩
  · rw [w1]
    refine oc_if (fun _ => ?_) (fun e => absurd rfl e)
    rcases hr with ⟨k, hk, rfl, ek⟩ | ⟨rfl, ek⟩
    · refine oc_if (fun _ => ?_) (fun z => absurd (Int32.not_lt.mp (nI_pos (n := k) (by omega))) z)
      have nr : noRun A s := fun q hq => w2 q (by rw [ej] at hq; exact hq)
      have c64 : card A ≠ 64 := fun w => by
        have := cnt_lt (f := fun i => cS v2 i ≠ none) 64 hk (fun z => z ek)
        omega
      unfold nOv
      -- the new one
      have c4 : cD (grow (wD v2 4 (cD v2 4 + 1)) 1 9) 4 = nI (aB A + 1) := by
        show up (cD v2) 4 (cD v2 4 + 1) 4 = _
        rw [up_at, h.2.2.1.1, nI_1]
      have c5 : cD (grow (wD v2 4 (cD v2 4 + 1)) 1 9) 5 = nI (aC A) := by
        show up (cD v2) 4 (cD v2 4 + 1) 5 = _
        rw [up_ne (by decide)]; exact h.2.2.1.2.1
      show OC ((wE (addT (grow (wD v2 4 (cD v2 4 + 1)) 1 9) (cZ (wD v2 4 (cD v2 4 + 1))).1 (cD (grow (wD v2 4 (cD v2 4 + 1)) 1 9) 4) (nI k) (cD (grow (wD v2 4 (cD v2 4 + 1)) 1 9) 5)) s (some (cZ (wD v2 4 (cD v2 4 + 1))).1)).bind (fun v117 => (wL v117 (nI k) (some (cZ (wD v2 4 (cD v2 4 + 1))).1)).bind fun v119 => (tI (wD v119 3 (cD v119 3 + 1)) 0 (some (cZ (wD v2 4 (cD v2 4 + 1))).1)).bind fun x122 => some (x122, wD v119 3 (cD v119 3 + 1)))) _
      rw [c4, c5]
      have ea : (cZ (wD v2 4 (cD v2 4 + 1))).1 = (cZ v2).1 := rfl
      rw [ea]
      have m3 : cD (addT (grow (wD v2 4 (cD v2 4 + 1)) 1 9) (cZ v2).1 (nI (aB A + 1)) (nI k) (nI (aC A))) 3 = cD v2 3 := by
        show up (cD v2) 4 (cD v2 4 + 1) 3 = _
        rw [up_ne (by decide)]
      have m4 : cD (addT (grow (wD v2 4 (cD v2 4 + 1)) 1 9) (cZ v2).1 (nI (aB A + 1)) (nI k) (nI (aC A))) 4 = nI (aB A + 1) := c4
      have m5 : cD (addT (grow (wD v2 4 (cD v2 4 + 1)) 1 9) (cZ v2).1 (nI (aB A + 1)) (nI k) (nI (aC A))) 5 = nI (aC A) := c5
      have mV : cV (addT (grow (wD v2 4 (cD v2 4 + 1)) 1 9) (cZ v2).1 (nI (aB A + 1)) (nI k) (nI (aC A))) = cV v2 := rfl
      have mF : cF (addT (grow (wD v2 4 (cD v2 4 + 1)) 1 9) (cZ v2).1 (nI (aB A + 1)) (nI k) (nI (aC A))) = cF v2 := rfl
      have mE : cE (addT (grow (wD v2 4 (cD v2 4 + 1)) 1 9) (cZ v2).1 (nI (aB A + 1)) (nI k) (nI (aC A))) = cE v2 := rfl
      have mS : cS (addT (grow (wD v2 4 (cD v2 4 + 1)) 1 9) (cZ v2).1 (nI (aB A + 1)) (nI k) (nI (aC A))) = cS v2 := rfl
      have mT : cT (addT (grow (wD v2 4 (cD v2 4 + 1)) 1 9) (cZ v2).1 (nI (aB A + 1)) (nI k) (nI (aC A))) = up (cT v2) (cZ v2).1 (some (fun d => if d = 0 then nI (aB A + 1) else if d = 1 then nI k else if d = 2 then nI (aC A) else 0, 0, fun _ => none, fun _ => 0)) := rfl
      have mR : cR (addT (grow (wD v2 4 (cD v2 4 + 1)) 1 9) (cZ v2).1 (nI (aB A + 1)) (nI k) (nI (aC A))) = cR v2 := rfl
      have mZ : (cZ (addT (grow (wD v2 4 (cD v2 4 + 1)) 1 9) (cZ v2).1 (nI (aB A + 1)) (nI k) (nI (aC A)))).1 = (cZ v2).1 + 1 + 2 := rfl
      generalize addT (grow (wD v2 4 (cD v2 4 + 1)) 1 9) (cZ v2).1 (nI (aB A + 1)) (nI k) (nI (aC A)) = v3 at m3 m4 m5 mV mF mE mS mT mR mZ ⊢
      have tk : ∀ w : CV, cT w = cT v3 → tok w (some (cZ v2).1) = true := fun w hw => by
        show ((cT w (cZ v2).1).isSome) = true
        rw [hw, mT, up_at]; rfl
      refine oc_wE (tk v3 rfl) j ej hj ?_
      have nE : cE (mkC (cD v3) (cV v3) (cF v3) (up (cE v3) j (some (cZ v2).1)) (cS v3) (cT v3) (cR v3) (cZ v3)) = up (cE v2) j (some (cZ v2).1) := by show up (cE v3) j _ = _; rw [mE]
      have nD : cD (mkC (cD v3) (cV v3) (cF v3) (up (cE v3) j (some (cZ v2).1)) (cS v3) (cT v3) (cR v3) (cZ v3)) = cD v3 := rfl
      have nV : cV (mkC (cD v3) (cV v3) (cF v3) (up (cE v3) j (some (cZ v2).1)) (cS v3) (cT v3) (cR v3) (cZ v3)) = cV v2 := mV
      have nF : cF (mkC (cD v3) (cV v3) (cF v3) (up (cE v3) j (some (cZ v2).1)) (cS v3) (cT v3) (cR v3) (cZ v3)) = cF v2 := mF
      have nS : cS (mkC (cD v3) (cV v3) (cF v3) (up (cE v3) j (some (cZ v2).1)) (cS v3) (cT v3) (cR v3) (cZ v3)) = cS v2 := mS
      have nT : cT (mkC (cD v3) (cV v3) (cF v3) (up (cE v3) j (some (cZ v2).1)) (cS v3) (cT v3) (cR v3) (cZ v3)) = cT v3 := rfl
      have nR : cR (mkC (cD v3) (cV v3) (cF v3) (up (cE v3) j (some (cZ v2).1)) (cS v3) (cT v3) (cR v3) (cZ v3)) = cR v2 := mR
      have nZ : (cZ (mkC (cD v3) (cV v3) (cF v3) (up (cE v3) j (some (cZ v2).1)) (cS v3) (cT v3) (cR v3) (cZ v3))).1 = (cZ v2).1 + 1 + 2 := mZ
      generalize mkC (cD v3) (cV v3) (cF v3) (up (cE v3) j (some (cZ v2).1)) (cS v3) (cT v3) (cR v3) (cZ v3) = v4 at nE nD nV nF nS nT nR nZ ⊢
      refine oc_wL (tk v4 nT) k rfl hk ?_
      have oS : cS (mkC (cD v4) (cV v4) (cF v4) (cE v4) (up (cS v4) k (some (cZ v2).1)) (cT v4) (cR v4) (cZ v4)) = up (cS v2) k (some (cZ v2).1) := by show up (cS v4) k _ = _; rw [nS]
      have oD : cD (mkC (cD v4) (cV v4) (cF v4) (cE v4) (up (cS v4) k (some (cZ v2).1)) (cT v4) (cR v4) (cZ v4)) = cD v3 := nD
      have oV : cV (mkC (cD v4) (cV v4) (cF v4) (cE v4) (up (cS v4) k (some (cZ v2).1)) (cT v4) (cR v4) (cZ v4)) = cV v2 := nV
      have oF : cF (mkC (cD v4) (cV v4) (cF v4) (cE v4) (up (cS v4) k (some (cZ v2).1)) (cT v4) (cR v4) (cZ v4)) = cF v2 := nF
      have oE : cE (mkC (cD v4) (cV v4) (cF v4) (cE v4) (up (cS v4) k (some (cZ v2).1)) (cT v4) (cR v4) (cZ v4)) = up (cE v2) j (some (cZ v2).1) := nE
      have oT : cT (mkC (cD v4) (cV v4) (cF v4) (cE v4) (up (cS v4) k (some (cZ v2).1)) (cT v4) (cR v4) (cZ v4)) = cT v3 := nT
      have oR : cR (mkC (cD v4) (cV v4) (cF v4) (cE v4) (up (cS v4) k (some (cZ v2).1)) (cT v4) (cR v4) (cZ v4)) = cR v2 := nR
      have oZ : (cZ (mkC (cD v4) (cV v4) (cF v4) (cE v4) (up (cS v4) k (some (cZ v2).1)) (cT v4) (cR v4) (cZ v4))).1 = (cZ v2).1 + 1 + 2 := nZ
      generalize mkC (cD v4) (cV v4) (cF v4) (cE v4) (up (cS v4) k (some (cZ v2).1)) (cT v4) (cR v4) (cZ v4) = v5 at oE oD oV oF oS oT oR oZ ⊢
      have hT0 : cT (wD v5 3 (cD v5 3 + 1)) (cZ v2).1 = some (fun d => if d = 0 then nI (aB A + 1) else if d = 1 then nI k else if d = 2 then nI (aC A) else 0, 0, fun _ => none, fun _ => 0) := by
        show cT v5 (cZ v2).1 = _
        rw [oT, mT, up_at]
      refine oc_tI hT0 (oc_ret ⟨bgA A s, Or.inl ⟨⟨s0, s6, nr, c64⟩, by simp, rfl⟩, fun z => if z = nI (aB A + 1) then k else sl z, fun z => if z = nI (aB A + 1) then (cZ v2).1 else ad z, ?_⟩)
      refine ac_bg hA h ej hj hk ek s0 rfl w2 ?_ ?_ ?_ oV oF oE oS (oT.trans mT) oR ?_
      · show up (cD v5) 3 (cD v5 3 + 1) 4 = _
        rw [up_ne (by decide), oD]; exact m4
      · show up (cD v5) 3 (cD v5 3 + 1) 5 = _
        rw [up_ne (by decide), oD]; exact m5
      · show up (cD v5) 3 (cD v5 3 + 1) 3 = _
        rw [up_at, oD, m3]
      · show (cZ v2).1 < (cZ v5).1
        rw [oZ]; omega
    · refine oc_if (fun z => absurd z (by decide)) (fun _ => no (Or.inr (Or.inr (Or.inr ?_))))
      rw [← hcard]
      exact cnt_all 64 (fun i hi => ek i hi)
  · rw [w2]
    exact oc_if (fun e => by cases e) (fun _ => no (Or.inr (Or.inr (Or.inl ⟨q, by rw [ej]; exact w1⟩))))
theorem y_cell (h : AX v A) (c : Int32) (x : Int64) : OC (cv_D_cell c x v) (fun r v' => ∃ B, Scell c x A r B ∧ AX v' B) := by
  obtain ⟨sl, ad, h⟩ := h
  unfold cv_D_cell cv_V_fill
  refine oc_bn (k_isColumn c) ?_
  rintro r v1 ⟨rfl, hr⟩
  refine oc_if (fun e => oc_rZ (Or.inl rfl) ⟨A, Or.inr ⟨?_, rfl, rfl⟩, sl, ad, h⟩) (fun e => ?_)
  · rcases tab_dec c with ⟨j, hj, rfl⟩ | w
    · exact absurd (tab_ok hj) (say0 hr e)
    · exact w
  obtain ⟨j, hj, rfl⟩ := tab_of (say1 hr e)
  refine oc_bnU (oc_bn (k_isColumn (nI j)) (Q := fun _ v' => AC v' (ceA A j x) sl ad) ?_) ?_
  · rintro r2 v2 ⟨rfl, hr2⟩
    refine oc_if (fun e => absurd (tab_ok hj) (say0 hr2 e)) (fun _ => oc_wV j rfl hj (oc_wB (Or.inr rfl) j rfl hj (oc_ret ?_)))
    refine ⟨h.1, h.2.1, ⟨h.2.2.1, fun i hi => ?_, h.2.2.2.2⟩⟩
    obtain ⟨f1, f2, f3⟩ := h.2.2.2.1 i hi
    show (up (cF v2) j 1 i = 0 ∨ up (cF v2) j 1 i = 1) ∧ (up (cF v2) j 1 i ≠ 0 ↔ (aH A i ∨ i = j)) ∧ up (cV v2) j x i = (if i = j then x else aL A i)
    by_cases c : i = j
    · rw [c, up_at, up_at, if_pos rfl]
      exact ⟨Or.inr rfl, ⟨fun _ => Or.inr rfl, fun _ => by decide⟩, rfl⟩
    · rw [up_ne c, up_ne c, if_neg c]
      exact ⟨f1, f2.trans ⟨Or.inl, fun w => w.resolve_right c⟩, f3⟩
  · intro v3 h3
    exact oc_rZ (Or.inr rfl) ⟨_, Or.inl ⟨j, hj, rfl, rfl, rfl⟩, sl, ad, h3⟩
theorem y_clear (h : AX v A) : OC (cv_D_clear v) (fun _ v' => AX v' (clA A)) := by
  obtain ⟨sl, ad, h⟩ := h
  have key : ∀ (n j : Nat) (F : Nat → Int32), j ≤ 8 → 8 - j < n → (∀ i, i < j → F i = 0) → OC (cv_V_empty_b2 n (nI j) (mkC (cD v) (cV v) F (cE v) (cS v) (cT v) (cR v) (cZ v))) (fun _ v' => ∃ G : Nat → Int32, (∀ i, i < 8 → G i = 0) ∧ v' = mkC (cD v) (cV v) G (cE v) (cS v) (cT v) (cR v) (cZ v)) := by
    intro n
    induction n with
    | zero => intro j F _ h; omega
    | succ n ih =>
      intro j F hj hn hF
      rw [cv_V_empty_b2]
      refine oc_if (fun hle => oc_ret ⟨F, fun i hi => hF i ?_, rfl⟩) (fun hlt => ?_)
      · rw [nI_leI (by omega) (by omega)] at hle; omega
      rw [nI_leI (by omega) (by omega)] at hlt
      refine oc_wB (Or.inl rfl) j rfl (by omega) ?_
      rw [nI_1]
      refine ih (j + 1) (up F j 0) (by omega) (by omega) (fun i hi => ?_)
      by_cases c : i = j
      · rw [c, up_at]
      · rw [up_ne c]; exact hF i (by omega)
  unfold cv_D_clear cv_V_empty
  refine oc_bnU (key 2000 0 (cF v) (by omega) (by omega) (fun i hi => by omega)) ?_
  rintro v1 ⟨G, hG, rfl⟩
  refine oc_ret ⟨sl, ad, h.1, h.2.1, ⟨h.2.2.1, fun i hi => ?_, h.2.2.2.2⟩⟩
  show (G i = 0 ∨ G i = 1) ∧ (G i ≠ 0 ↔ False) ∧ cV v i = aL A i
  rw [hG i hi]
  exact ⟨Or.inl rfl, ⟨fun w => absurd rfl w, fun w => w.elim⟩, (h.2.2.2.1 i hi).2.2⟩
theorem k_into (hA : AI A) (h : AC v A sl ad) {y : Int32} (hy : aK A y) : OC (cv_D_arrowsInto (some (ad y)) v) (fun r v' => v' = v ∧ r = nI (inA A y)) := by
  have key : ∀ (n j : Nat), j ≤ 64 → 64 - j < n → OC (cv_D_arrowsInto_b4 n (some (ad y)) (nI (cnt j (fun i => ∃ q, aK A q ∧ sl q = i ∧ aA A q y))) (nI j) v) (fun r v' => v' = v ∧ r = nI (cnt 64 (fun i => ∃ q, aK A q ∧ sl q = i ∧ aA A q y))) := by
    intro n
    induction n with
    | zero => intro j _ h; omega
    | succ n ih =>
      intro j hj hn
      rw [cv_D_arrowsInto_b4]
      refine oc_if (fun hle => oc_ret ⟨rfl, ?_⟩) (fun hlt => ?_)
      · rw [nI_leI (by omega) (by omega)] at hle
        rw [show j = 64 by omega]
      rw [nI_leI (by omega) (by omega)] at hlt
      have i1 := ih (j + 1) (by omega) (by omega)
      rw [nI_1 j]
      refine oc_rS j rfl (by omega) (oc_if (fun e => ?_) (fun e => ?_))
      · rw [cnt_f (fun ⟨q, q1, q2, _⟩ => by have := (h.ks q1).2; rw [q2, e] at this; cases this)] at i1
        exact i1
      · obtain ⟨a, ea⟩ := Option.ne_none_iff_exists'.mp e
        obtain ⟨q, hq, hs, had⟩ := h.at (by omega) ea
        obtain ⟨t, ht, -⟩ := h.t hq
        rw [ea, ← had]
        refine oc_okT ht (oc_bn (k_pointsAt h hq hy) ?_)
        rintro r v1 ⟨rfl, hr⟩
        refine oc_if (fun e2 => ?_) (fun e2 => ?_)
        · rw [cnt_f (fun ⟨p, p1, p2, p3⟩ => say0 hr e2 (by rw [← h.slinj p1 hq (by omega)]; exact p3))] at i1
          exact i1
        · rw [cnt_t ⟨q, hq, hs, say1 hr e2⟩, ← nI_1] at i1
          exact i1
  refine oc_imp (key 2000 0 (by omega) (by omega)) ?_
  rintro r v1 ⟨rfl, hr⟩
  refine ⟨rfl, ?_⟩
  rw [hr, ← ac_cnt hA h (fun z => aA A z y)]
  rfl
theorem y_look {i : Nat} (hF : Fine i A) (h : AX v A) (x w : Int32) : OC (cv_D_look x w v) (fun r v' => Slook x w A r ∧ AX v' A) := by
  obtain ⟨sl, ad, h⟩ := h
  have hA := hF.1
  unfold cv_D_look
  refine oc_if (fun e => oc_ret ⟨⟨fun _ => rfl, fun z => absurd (Or.inl e) z⟩, sl, ad, h⟩) (fun n0 => oc_if (fun e5 => ?_) (fun e5 => oc_ret ⟨⟨fun _ => rfl, fun z => absurd (Or.inr (Int32.not_le.mp e5)) z⟩, sl, ad, h⟩))
  have nn : ¬ (w < 0 ∨ 5 < w) := fun z => z.elim n0 (fun z => absurd z (Int32.not_lt.mpr e5))
  refine oc_bn (k_keptWithId h x) ?_
  rintro r v1 ⟨rfl, ⟨hx, rfl⟩ | ⟨rfl, hx⟩⟩
  · obtain ⟨t, ht, hT, -⟩ := h.t hx
    have fin : ∀ r, lookR A x w r → Slook x w A r := fun r hr => ⟨fun z => absurd z nn, fun _ => ⟨fun _ => hr, fun z => absurd hx z⟩⟩
    refine oc_if (fun e => by cases e) (fun _ => oc_if (fun e => ?_) (fun w0 => oc_if (fun e => ?_) (fun w1 => oc_if (fun e => ?_) (fun w2 => oc_if (fun e => ?_) (fun w3 => oc_if (fun e => ?_) (fun w4 => ?_))))))
    · subst e
      refine oc_okT ht (oc_bn (k_isRunning ht) ?_)
      rintro r2 v2 ⟨rfl, hr2⟩
      rw [hT.1.2.2.2.1] at hr2
      refine oc_if (fun e => oc_ret ⟨fin _ ?_, sl, ad, h⟩) (fun e => oc_ret ⟨fin _ ?_, sl, ad, h⟩)
      · exact ⟨fun _ => Or.inr ⟨rfl, say0 hr2 e⟩, fun z => absurd z (by decide), fun z => absurd z (by decide), fun z => absurd z (by decide), fun z => absurd z (by decide), fun z => absurd z (by decide)⟩
      · exact ⟨fun _ => Or.inl ⟨rfl, say1 hr2 e⟩, fun z => absurd z (by decide), fun z => absurd z (by decide), fun z => absurd z (by decide), fun z => absurd z (by decide), fun z => absurd z (by decide)⟩
    · subst e
      refine oc_tI ht (oc_if (fun e => oc_ret ⟨fin _ ?_, sl, ad, h⟩) (fun e => oc_ret ⟨fin _ ?_, sl, ad, h⟩))
      · exact ⟨fun z => absurd z (by decide), fun _ => Or.inr ⟨rfl, fun q => hT.2.1.2.mpr q e⟩, fun z => absurd z (by decide), fun z => absurd z (by decide), fun z => absurd z (by decide), fun z => absurd z (by decide)⟩
      · exact ⟨fun z => absurd z (by decide), fun _ => Or.inl ⟨rfl, hT.2.1.2.mp e⟩, fun z => absurd z (by decide), fun z => absurd z (by decide), fun z => absurd z (by decide), fun z => absurd z (by decide)⟩
    · subst e
      exact oc_tI ht (oc_ret ⟨fin _ ⟨fun z => absurd z (by decide), fun z => absurd z (by decide), fun _ => hT.1.2.2.1, fun z => absurd z (by decide), fun z => absurd z (by decide), fun z => absurd z (by decide)⟩, sl, ad, h⟩)
    · subst e
      exact oc_tI ht (oc_ret ⟨fin _ ⟨fun z => absurd z (by decide), fun z => absurd z (by decide), fun z => absurd z (by decide), fun _ => hT.1.2.2.2.1, fun z => absurd z (by decide), fun z => absurd z (by decide)⟩, sl, ad, h⟩)
    · subst e
      exact oc_tI ht (oc_ret ⟨fin _ ⟨fun z => absurd z (by decide), fun z => absurd z (by decide), fun z => absurd z (by decide), fun z => absurd z (by decide), fun _ => hT.1.2.2.2.2, fun z => absurd z (by decide)⟩, sl, ad, h⟩)
    · refine oc_bn (k_into hA h hx) ?_
      rintro r2 v2 ⟨rfl, rfl⟩
      exact oc_ret ⟨fin _ ⟨fun z => absurd z w0, fun z => absurd z w1, fun z => absurd z w2, fun z => absurd z w3, fun z => absurd z w4, fun _ => rfl⟩, sl, ad, h⟩
  · exact oc_if (fun _ => oc_ret ⟨⟨fun z => absurd z nn, fun _ => ⟨fun z => absurd z hx, fun _ => rfl⟩⟩, sl, ad, h⟩) (fun e => absurd rfl e)
theorem y_arrow (h : AX v A) (x y : Int32) : OC (cv_D_arrow x y v) (fun r v' => say (aK A x ∧ aK A y ∧ aA A x y) r ∧ AX v' A) := by
  obtain ⟨sl, ad, h⟩ := h
  unfold cv_D_arrow
  refine oc_bn (k_keptWithId h x) ?_
  rintro r v1 ⟨rfl, hx⟩
  refine oc_bn (k_keptWithId h y) ?_
  rintro r2 v2 ⟨rfl, hy⟩
  rcases hx with ⟨hx, rfl⟩ | ⟨rfl, hx⟩
  · refine oc_if (fun e => by cases e) (fun _ => ?_)
    rcases hy with ⟨hy, rfl⟩ | ⟨rfl, hy⟩
    · obtain ⟨t, ht, -⟩ := h.t hx
      refine oc_if (fun e => by cases e) (fun _ => oc_okT ht (oc_bn (k_pointsAt h hx hy) ?_))
      rintro r3 v3 ⟨rfl, hr3⟩
      exact oc_if (fun e => oc_rZ (Or.inl rfl) ⟨Or.inr ⟨rfl, fun w => say0 hr3 e w.2.2⟩, sl, ad, h⟩) (fun e => oc_rZ (Or.inr rfl) ⟨Or.inl ⟨rfl, hx, hy, say1 hr3 e⟩, sl, ad, h⟩)
    · exact oc_if (fun _ => oc_rZ (Or.inl rfl) ⟨Or.inr ⟨rfl, fun w => hy w.2.1⟩, sl, ad, h⟩) (fun e => absurd rfl e)
  · exact oc_if (fun _ => oc_rZ (Or.inl rfl) ⟨Or.inr ⟨rfl, fun w => hx w.1⟩, sl, ad, h⟩) (fun e => absurd rfl e)
theorem y_rings (h : AX v A) : OC (cv_D_rings v) (fun r v' => r = 0 ∧ AX v' A) := oc_ret ⟨rfl, h⟩
theorem y_count {i : Nat} (hF : Fine i A) (h : AX v A) (w : Int32) : OC (cv_D_count w v) (fun r v' => Scount w A r ∧ AX v' A) := by
  obtain ⟨sl, ad, h⟩ := h
  unfold cv_D_count Scount
  refine oc_if (fun e => oc_ret ⟨?_, sl, ad, h⟩) (fun e => oc_if (fun e1 => oc_ret ⟨?_, sl, ad, h⟩) (fun e1 => oc_if (fun e2 => oc_ret ⟨?_, sl, ad, h⟩) (fun e2 => oc_ret ⟨?_, sl, ad, h⟩)))
  · rw [if_pos e, ← ac_card hF.1 h]; exact h.2.2.1.2.2
  · rw [if_neg e, if_pos e1]; exact h.2.2.1.1
  · rw [if_neg e, if_neg e1, if_pos e2]; exact h.2.2.1.2.1
  · rw [if_neg e, if_neg e1, if_neg e2]
end KB
