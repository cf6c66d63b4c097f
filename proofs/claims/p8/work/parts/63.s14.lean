/-! WHY THERE ARE NO RINGS: of two arrows A -> P -> B with B the first to commit, A or P cannot commit -/
def cmI (A : Ab) (x : Int32) : Int := (aF A 14 x).toInt
def snI (A : Ab) (x : Int32) : Int := (aF A 13 x).toInt
def idb (A : Ab) (x : Int32) : Prop := ∃ n, 1 ≤ n ∧ n ≤ aB A ∧ x = nI n
def bad (A : Ab) (x : Int32) : Prop := cmI A x = 0 ∧ (¬ aK A x ∨ aD A x)
def HV1 (A : Ab) : Prop := (∀ x y, aE A x y → x ≠ y ∧ idb A x ∧ idb A y) ∧ (∀ x, aK A x → aF A 4 x = aF A 14 x ∧ aF A 3 x = aF A 13 x) ∧ (∀ x, idb A x → 0 ≤ cmI A x ∧ cmI A x ≤ aC A ∧ 0 ≤ snI A x ∧ snI A x ≤ aC A ∧ (0 < cmI A x → snI A x < cmI A x)) ∧ (∀ x y, aE A x y → (0 < cmI A y → snI A x < cmI A y) ∧ (0 < cmI A x → snI A y < cmI A x))
def HV2 (A : Ab) : Prop := (∀ x y, aK A x → aE A x y → 0 < cmI A y → 0 < (aF A 6 x).toInt ∧ (aF A 6 x).toInt ≤ cmI A y) ∧ (∀ x y, aK A x → aK A y → (aA A x y ↔ aE A x y)) ∧ (∀ a z, idb A a → 0 < cmI A a → aK A z → aF A 4 z = 0 → snI A z < cmI A a → aK A a) ∧ (∀ n, aB A < n → n ≤ 512 → aF A 14 (nI n) = 0)
def HV3 (A : Ab) : Prop := ∀ a p b, aE A a p → aE A p b → 0 < cmI A b → (cmI A a = 0 ∨ cmI A b ≤ cmI A a) → (cmI A p = 0 ∨ cmI A b ≤ cmI A p) → bad A a ∨ bad A p
def HV (A : Ab) : Prop := HV1 A ∧ HV2 A ∧ HV3 A
theorem i32z {x : Int32} : x = 0 ↔ x.toInt = 0 := by
  rw [← Int32.toInt_inj]; exact Iff.rfl
theorem HV.pl {A : Ab} (h : HV A) {x : Int32} (hx : aK A x) : (aF A 4 x).toInt = cmI A x := by rw [(h.1.2.1 x hx).1]; rfl
theorem HV.si {A : Ab} (h : HV A) {x : Int32} (hx : aK A x) : (aF A 3 x).toInt = snI A x := by rw [(h.1.2.1 x hx).2]; rfl
theorem AI.idb {A : Ab} (h : AI A) {x : Int32} (hx : aK A x) : idb A x := h.2.2.1 x hx
theorem HV_same {A B : Ab} (h : HV A) (h1 : aB B = aB A) (h2 : aC B = aC A) (h3 : aK B = aK A) (h4 : aF B = aF A) (h5 : aD B = aD A) (h6 : aA B = aA A) (h7 : aE B = aE A) : HV B := by
  unfold HV HV1 HV2 HV3 bad cmI snI idb
  rw [h1, h2, h3, h4, h5, h6, h7]
  exact h
/-- more are doomed -/
theorem HV_D {A B : Ab} (h : HV A) (h1 : aB B = aB A) (h2 : aC B = aC A) (h3 : aK B = aK A) (h4 : aF B = aF A) (h5 : ∀ x, aD A x → aD B x) (h6 : aA B = aA A) (h7 : aE B = aE A) : HV B := by
  have hbad : ∀ x, bad A x → bad B x := fun x hx => by
    unfold bad cmI at hx ⊢
    rw [h3, h4]
    exact ⟨hx.1, hx.2.imp id (h5 x)⟩
  refine ⟨?_, ?_, fun a p b e1 e2 c1 c2 c3 => ?_⟩
  · have := h.1
    unfold HV1 cmI snI idb at this ⊢
    rw [h1, h2, h3, h4, h7]; exact this
  · have := h.2.1
    unfold HV2 cmI snI idb at this ⊢
    rw [h1, h3, h4, h6, h7]; exact this
  · have e : ∀ x, cmI B x = cmI A x := fun x => by unfold cmI; rw [h4]
    rw [h7] at e1 e2
    rw [e] at c1 c2 c3
    rw [e] at c2 c3
    exact (h.2.2 a p b e1 e2 c1 c2 c3).imp (hbad a) (hbad p)
theorem HV_dm {A : Ab} (h : HV A) (q : Int32) : HV (dmA A q) := HV_D h rfl rfl rfl rfl (fun _ => Or.inl) rfl rfl
/-- fewer are kept -/
theorem HV_kp {A : Ab} (h : HV A) {S : Int32 → Prop} (hS : ∀ a z, idb A a → 0 < cmI A a → aK A a → aK A z → S z → aF A 4 z = 0 → snI A z < cmI A a → S a) : HV (kpA A S) := by
  obtain ⟨⟨a1, a2, a3, a4⟩, ⟨b1, b2, b3, b4⟩, c⟩ := h
  refine ⟨⟨a1, fun x hx => a2 x hx.1, a3, a4⟩, ⟨fun x y hx => b1 x y hx.1, fun x y hx hy => b2 x y hx.1 hy.1, fun a z h1 h2 h3 h4 h5 => ?_, b4⟩, fun a p b e1 e2 c1 c2 c3 => ?_⟩
  · have := b3 a z h1 h2 h3.1 h4 h5
    exact ⟨this, hS a z h1 h2 this h3.1 h3.2 h4 h5⟩
  · exact (c a p b e1 e2 c1 c2 c3).imp (fun w => ⟨w.1, w.2.imp (fun n q => n q.1) id⟩) (fun w => ⟨w.1, w.2.imp (fun n q => n q.1) id⟩)
theorem HV_fg {A : Ab} (h : HV A) : HV (fgA A) := by
  refine HV_kp h (fun a z _ h2 ha hz _ h4 h5 => Or.inr ⟨z, hz, h4, ?_⟩)
  rw [Int32.lt_iff_toInt_lt, h.si hz, h.pl ha]
  exact h5
theorem HV_ab {A : Ab} (hA : AI A) (h : HV A) {s q : Int32} (hr : Run A s q) : HV (kpA A (fun z => z ≠ q)) := by
  refine HV_kp h (fun a z _ h2 ha _ _ _ _ e => ?_)
  subst e
  have := h.pl ha
  rw [(hA.run hr).1] at this
  have e0 : (0 : Int32).toInt = 0 := rfl
  omega
theorem HV_wr {A : Ab} (hA : AI A) (h : HV A) {s q : Int32} (hr : Run A s q) (t : Nat) : HV (wrA A q t) := by
  have h0 := (hA.run hr).1
  have hq := hr.2.1
  have cq : cmI A q = 0 := by rw [← h.pl hq, h0]; rfl
  have e0 : (0 : Int32).toInt = 0 := rfl
  have iq := hA.idb hq
  have hc : ∀ x, hit A q t x → 0 < cmI A x → snI A q < cmI A x := fun x hx hp => by
    rcases hx.2.2.1.1 with w | w
    · rw [← h.pl hx.1, w] at hp; omega
    · rw [Int32.lt_iff_toInt_lt, h.si hq, h.pl hx.1] at w; exact w
  obtain ⟨⟨a1, a2, a3, a4⟩, ⟨b1, b2, b3, b4⟩, c⟩ := h
  refine ⟨⟨?_, a2, a3, ?_⟩, ⟨?_, ?_, b3, b4⟩, ?_⟩
  · rintro x y (e | ⟨rfl, -, e⟩)
    · exact a1 x y e
    · exact ⟨e.2.1, hA.idb e.1, iq⟩
  · rintro x y (e | ⟨rfl, -, e⟩)
    · exact a4 x y e
    · exact ⟨fun w => absurd w (by show ¬ 0 < cmI A y; omega), fun w => hc x e w⟩
  · rintro x y hx (e | ⟨rfl, -, e⟩) hy
    · exact b1 x y hx e hy
    · exact absurd hy (by show ¬ 0 < cmI A y; omega)
  · intro x y hx hy
    show (aA A x y ∨ _) ↔ (aE A x y ∨ _)
    rw [b2 x y hx hy]
  · intro a p b e1 e2 k1 k2 k3
    have hb : ∀ x, bad A x → bad (wrA A q t) x := fun x w => ⟨w.1, w.2.imp id Or.inl⟩
    have e2' : aE A p b := by
      rcases e2 with e | ⟨rfl, -, -⟩
      · exact e
      · exact absurd k1 (by show ¬ 0 < cmI A b; omega)
    rcases e1 with e1 | ⟨rfl, -, e1⟩
    · exact (c a p b e1 e2' k1 k2 k3).imp (hb a) (hb p)
    · refine Or.inr ⟨cq, Or.inr (Or.inr ⟨rfl, a, trivial, e1, ?_⟩)⟩
      obtain ⟨l1, l2⟩ := b1 p b hq e2' k1
      have l2' : (aF A 6 p).toInt ≤ cmI A b := l2
      have k1' : 0 < cmI A b := k1
      have k2' : cmI A a = 0 ∨ cmI A b ≤ cmI A a := k2
      have pa : (aF A 4 a).toInt = cmI A a := by rw [(a2 a e1.1).1]; rfl
      refine ⟨fun w => ?_, ?_, Or.inl h0⟩
      · rw [w] at l1; omega
      · rcases k2' with w | w
        · exact Or.inl (i32z.mpr (pa.trans w))
        · refine Or.inr (fun z => ?_)
          rw [Int32.lt_iff_toInt_lt, pa] at z
          omega
theorem HV_ms {A : Ab} (hA : AI A) (h : HV A) {s q x : Int32} (hr : Run A s q) (hx : canMiss A q x) : HV (msA A q x) := by
  have h0 := (hA.run hr).1
  have hq := hr.2.1
  obtain ⟨kx, hne, hcon⟩ := hx
  have cq : cmI A q = 0 := by rw [← h.pl hq, h0]; rfl
  have e0 : (0 : Int32).toInt = 0 := rfl
  have iq := hA.idb hq
  have ix := hA.idb kx
  have px := h.pl kx
  have sx : 0 < cmI A x → snI A q < cmI A x := fun hp => by
    rcases hcon.2 with w | w
    · rw [w] at px; omega
    · rw [Int32.lt_iff_toInt_lt, h.si hq, px] at w; exact w
  have F : ∀ d z, d ≠ 6 → aF (msA A q x) d z = aF A d z := fun d z hd => ptA_Fd hd
  have cmE : ∀ z, cmI (msA A q x) z = cmI A z := fun z => by unfold cmI; rw [F 14 z (by decide)]
  have snE : ∀ z, snI (msA A q x) z = snI A z := fun z => by unfold snI; rw [F 13 z (by decide)]
  have F6 : ∀ z, z ≠ q → aF (msA A q x) 6 z = aF A 6 z := fun z hz => by
    show (if 6 = 6 ∧ z = q ∧ aF A 4 x ≠ 0 ∧ (aF A 6 q = 0 ∨ aF A 4 x < aF A 6 q) then aF A 4 x else aF A 6 z) = _
    rw [if_neg (fun w => hz w.2.1)]
  have F6q : aF (msA A q x) 6 q = if aF A 4 x ≠ 0 ∧ (aF A 6 q = 0 ∨ aF A 4 x < aF A 6 q) then aF A 4 x else aF A 6 q := by
    show (if 6 = 6 ∧ q = q ∧ aF A 4 x ≠ 0 ∧ (aF A 6 q = 0 ∨ aF A 4 x < aF A 6 q) then aF A 4 x else aF A 6 q) = _
    by_cases e : aF A 4 x ≠ 0 ∧ (aF A 6 q = 0 ∨ aF A 4 x < aF A 6 q)
    · rw [if_pos ⟨rfl, rfl, e⟩, if_pos e]
    · rw [if_neg (fun w => e w.2.2), if_neg e]
  have pos6 : 0 ≤ (aF A 6 q).toInt := by
    obtain ⟨p, p1, e⟩ := hA.2.2.2.2.2.1 q hq
    have := hA.c512
    rw [e, nI_toInt (by omega)]; omega
  obtain ⟨⟨a1, a2, a3, a4⟩, ⟨b1, b2, b3, b4⟩, c⟩ := h
  refine ⟨⟨?_, fun z hz => ?_, fun z hz => ?_, ?_⟩, ⟨?_, ?_, fun a z => ?_, fun n n1 n2 => ?_⟩, ?_⟩
  · rintro u w (e | ⟨rfl, rfl⟩)
    · exact a1 u w e
    · exact ⟨fun z => hne z.symm, iq, ix⟩
  · rw [F 4 z (by decide), F 14 z (by decide), F 3 z (by decide), F 13 z (by decide)]; exact a2 z hz
  · rw [cmE, snE]; exact a3 z hz
  · intro u w e
    rw [cmE, cmE, snE, snE]
    rcases e with e | ⟨rfl, rfl⟩
    · exact a4 u w e
    · exact ⟨fun z => sx z, fun z => by omega⟩
  · intro u w hu e hw
    rw [cmE] at hw ⊢
    by_cases e1 : u = q
    · subst e1
      rw [F6q]
      rcases e with e | ⟨-, rfl⟩
      · obtain ⟨l1, l2⟩ := b1 u w hu e hw
        by_cases e : aF A 4 x ≠ 0 ∧ (aF A 6 u = 0 ∨ aF A 4 x < aF A 6 u)
        · rw [if_pos e]
          rcases e.2 with z | z
          · rw [z] at l1; omega
          · rw [Int32.lt_iff_toInt_lt] at z
            have : (aF A 4 x).toInt ≠ 0 := fun w => e.1 (i32z.mpr w)
            have := (a3 x ix).1
            omega
        · rw [if_neg e]; exact ⟨l1, l2⟩
      · by_cases e : aF A 4 w ≠ 0 ∧ (aF A 6 u = 0 ∨ aF A 4 w < aF A 6 u)
        · rw [if_pos e, px]; omega
        · rw [if_neg e]
          have n0 : aF A 4 w ≠ 0 := fun z => by rw [z] at px; omega
          have n1 : (aF A 6 u).toInt ≠ 0 := fun z => e ⟨n0, Or.inl (i32z.mpr z)⟩
          have n2 : ¬ aF A 4 w < aF A 6 u := fun z => e ⟨n0, Or.inr z⟩
          rw [Int32.lt_iff_toInt_lt, px] at n2
          omega
    · rw [F6 u e1]
      rcases e with e | ⟨e, -⟩
      · exact b1 u w hu e hw
      · exact absurd e e1
  · intro u w hu hw
    show (aA A u w ∨ _) ↔ (aE A u w ∨ _)
    rw [b2 u w hu hw]
  · rw [cmE, snE, F 4 z (by decide)]; exact b3 a z
  · rw [F 14 _ (by decide)]; exact b4 n n1 n2
  · intro a p b e1 e2 k1 k2 k3
    rw [cmE] at k1
    rw [cmE, cmE] at k2 k3
    have hb : ∀ z, bad A z → bad (msA A q x) z := fun z w => ⟨by rw [cmE]; exact w.1, w.2.imp id Or.inl⟩
    have bq : dang (ptA A q x) q x ∨ sec (ptA A q x) q x → bad (msA A q x) q := fun w => ⟨by rw [cmE]; exact cq, Or.inr (Or.inr ⟨rfl, w⟩)⟩
    have F4 : ∀ z, aF (ptA A q x) 4 z = aF A 4 z := fun z => ptA_Fd (by decide)
    have G6 : aF (ptA A q x) 6 x = aF A 6 x := by
      show (if 6 = 6 ∧ x = q ∧ aF A 4 x ≠ 0 ∧ (aF A 6 q = 0 ∨ aF A 4 x < aF A 6 q) then aF A 4 x else aF A 6 x) = _
      rw [if_neg (fun w => hne w.2.1)]
    rcases e1 with e1 | ⟨rfl, rfl⟩
    · rcases e2 with e2 | ⟨rfl, rfl⟩
      · exact (c a p b e1 e2 k1 k2 k3).imp (hb a) (hb p)
      · -- p is q, b is x
        by_cases ca : cmI A a = 0
        · by_cases ka : aK A a
          · refine Or.inr (bq (Or.inr ⟨?_, a, ka, Or.inl ((b2 a p ka hq).mpr e1), Or.inl ?_⟩))
            · rw [F4]; intro z; rw [z] at px; omega
            · rw [F4]
              exact i32z.mpr ((by rw [(a2 a ka).1]; rfl : (aF A 4 a).toInt = cmI A a).trans ca)
          · exact Or.inl ⟨by rw [cmE]; exact ca, Or.inl ka⟩
        · have k2' := k2.resolve_left ca
          have s1 := sx k1
          have ia := (a1 a p e1).2.1
          have ka : aK A a := b3 a p ia (by omega) hq h0 (by omega)
          refine Or.inr (bq (Or.inr ⟨?_, a, ka, Or.inl ((b2 a p ka hq).mpr e1), Or.inr ?_⟩))
          · rw [F4]; intro z; rw [z] at px; omega
          · rw [F4, F4, Int32.lt_iff_toInt_lt, px, (by rw [(a2 a ka).1]; rfl : (aF A 4 a).toInt = cmI A a)]
            omega
    · -- a is q, p is x
      rcases e2 with e2 | ⟨e2, -⟩
      · obtain ⟨l1, l2⟩ := b1 p b kx e2 k1
        refine Or.inl (bq (Or.inl ⟨?_, Or.inl ?_, ?_⟩))
        · rw [G6]; intro z; rw [z] at l1; omega
        · rw [F4]; exact h0
        · rw [F4, G6]
          rcases k3 with w | w
          · exact Or.inl (i32z.mpr (px.trans w))
          · refine Or.inr (fun z => ?_)
            rw [Int32.lt_iff_toInt_lt, px] at z
            omega
      · exact absurd e2 hne
theorem HV_cm {A : Ab} (hA : AI A) (h : HV A) (hc : aC A < 512) {s q : Int32} (hr : Run A s q) (hd : ¬ aD A q) : HV (cmA A q) := by
  have h0 := (hA.run hr).1
  have hq := hr.2.1
  have cq : cmI A q = 0 := by rw [← h.pl hq, h0]; rfl
  have e0 : (0 : Int32).toInt = 0 := rfl
  have iq := hA.idb hq
  have cc : (nI (aC A + 1)).toInt = (aC A : Int) + 1 := by rw [nI_toInt (by omega)]; rfl
  have Fo : ∀ d z, z ≠ q → aF (enA A q) d z = aF A d z := fun d z hz => by
    show (if _ then _ else _) = _
    rw [if_neg (fun e => hz e.1), if_neg (fun e => hz e.1)]
  have Fd : ∀ d z, d ≠ 4 → d ≠ 14 → d ≠ 2 → aF (enA A q) d z = aF A d z := fun d z h1 h2 h3 => by
    show (if z = q ∧ (d = 4 ∨ d = 14) then _ else (if z = q ∧ d = 2 then _ else _)) = _
    rw [if_neg (fun e => e.2.elim h1 h2), if_neg (fun e => h3 e.2)]
  have F14 : aF (enA A q) 14 q = nI (aC A + 1) := by
    show (if _ then _ else _) = _
    rw [if_pos ⟨rfl, Or.inr rfl⟩]
  have F4 : aF (enA A q) 4 q = nI (aC A + 1) := by
    show (if _ then _ else _) = _
    rw [if_pos ⟨rfl, Or.inl rfl⟩]
  refine HV_fg ?_
  have T : ∀ d, d ≠ 6 → aF (tlP (enA A q) q (fun _ => True)) d = aF (enA A q) d := fun d hd => tlP_F hd
  have cmq : cmI (tlP (enA A q) q (fun _ => True)) q = aC A + 1 := by unfold cmI; rw [T 14 (by decide), F14, cc]
  have cmo : ∀ z, z ≠ q → cmI (tlP (enA A q) q (fun _ => True)) z = cmI A z := fun z hz => by unfold cmI; rw [T 14 (by decide), Fo 14 z hz]
  have snE : ∀ z, snI (tlP (enA A q) q (fun _ => True)) z = snI A z := fun z => by unfold snI; rw [T 13 (by decide), Fd 13 z (by decide) (by decide) (by decide)]
  have G6 : ∀ z, aF (tlP (enA A q) q (fun _ => True)) 6 z = cI (aK A z ∧ aA A z q ∧ (aF A 6 z = 0 ∨ nI (aC A + 1) < aF A 6 z)) (nI (aC A + 1)) (aF A 6 z) := fun z => by
    show cI (6 = 6 ∧ True ∧ aK A z ∧ aA A z q ∧ (aF (enA A q) 6 z = 0 ∨ aF (enA A q) 4 q < aF (enA A q) 6 z)) (aF (enA A q) 4 q) (aF (enA A q) 6 z) = _
    rw [F4, Fd 6 z (by decide) (by decide) (by decide)]
    by_cases e : aK A z ∧ aA A z q ∧ (aF A 6 z = 0 ∨ nI (aC A + 1) < aF A 6 z)
    · rw [cI_t e, cI_t ⟨rfl, trivial, e⟩]
    · rw [cI_f e, cI_f (fun w => e w.2.2)]
  have b6 : ∀ z, aK A z → 0 ≤ (aF A 6 z).toInt ∧ (aF A 6 z).toInt ≤ aC A := fun z hz => by
    obtain ⟨p, p1, e⟩ := hA.2.2.2.2.2.1 z hz
    rw [e, nI_toInt (by omega)]; omega
  have pl : ∀ z, aK A z → (aF A 4 z).toInt = cmI A z := fun z hz => h.pl hz
  obtain ⟨⟨a1, a2, a3, a4⟩, ⟨b1, b2, b3, b4⟩, c⟩ := h
  have E : ∀ u w, aE (tlP (enA A q) q (fun _ => True)) u w ↔ aE A u w := fun u w => by
    refine ⟨?_, Or.inl⟩
    rintro (e | ⟨rfl, -, e1, e2⟩)
    · exact e
    · exact (b2 u w e1 hq).mp e2
  refine ⟨⟨fun x y e => a1 x y ((E x y).mp e), fun z hz => ?_, fun z hz => ?_, fun x y e => ?_⟩, ⟨fun x y hx e hy => ?_, fun x y hx hy => ?_, fun a z g1 g2 g3 g4 g5 => ?_, fun n n1 n2 => ?_⟩, fun a p b e1 e2 k1 k2 k3 => ?_⟩
  · rw [T 4 (by decide), T 14 (by decide), T 3 (by decide), T 13 (by decide), Fd 3 z (by decide) (by decide) (by decide), Fd 13 z (by decide) (by decide) (by decide)]
    by_cases e : z = q
    · subst e; rw [F4, F14]; exact ⟨rfl, (a2 z hz).2⟩
    · rw [Fo 4 z e, Fo 14 z e]; exact a2 z hz
  · have := a3 z hz
    rw [snE]
    show _ ∧ _ ≤ ((aC A + 1 : Nat) : Int) ∧ _ ∧ _ ≤ ((aC A + 1 : Nat) : Int) ∧ _
    by_cases e : z = q
    · subst e; rw [cmq]; omega
    · rw [cmo z e]; omega
  · have e' := (E x y).mp e
    have t := a4 x y e'
    have i1 := (a1 x y e').2.1
    have i2 := (a1 x y e').2.2
    have u1 := a3 x i1
    have u2 := a3 y i2
    rw [snE, snE]
    constructor
    · by_cases e : y = q
      · subst e; rw [cmq]; omega
      · rw [cmo y e]; exact t.1
    · by_cases e : x = q
      · subst e; rw [cmq]; omega
      · rw [cmo x e]; exact t.2
  · have e' := (E x y).mp e
    have hb := b6 x hx
    rw [G6]
    by_cases e : y = q
    · subst e
      rw [cmq]
      have ar := (b2 x y hx hq).mpr e'
      by_cases e : aK A x ∧ aA A x y ∧ (aF A 6 x = 0 ∨ nI (aC A + 1) < aF A 6 x)
      · rw [cI_t e, cc]; omega
      · rw [cI_f e]
        have : (aF A 6 x).toInt ≠ 0 := fun w => e ⟨hx, ar, Or.inl (i32z.mpr w)⟩
        omega
    · rw [cmo y e] at hy ⊢
      have t := b1 x y hx e' hy
      rw [cI_f]
      · exact t
      · rintro ⟨-, -, w | w⟩
        · rw [w] at t; omega
        · rw [Int32.lt_iff_toInt_lt, cc] at w; omega
  · rw [E x y]; exact b2 x y hx hy
  · by_cases e : a = q
    · subst e; exact hq
    · rw [cmo a e] at g2 g5
      rw [snE] at g5
      have zq : z ≠ q := fun w => by
        subst w
        rw [T 4 (by decide), F4] at g4
        have := congrArg Int32.toInt g4
        rw [cc] at this
        omega
      rw [T 4 (by decide), Fo 4 z zq] at g4
      exact b3 a z g1 g2 g3 g4 g5
  · rw [T 14 (by decide), Fo 14 _ (fun w => ?_)]
    · exact b4 n n1 n2
    · obtain ⟨m, m1, m2, m3⟩ := iq
      rw [m3] at w
      have : aB (tlP (enA A q) q (fun _ => True)) = aB A := rfl
      have hB := hA.1
      have := (nI_eq (by omega) (by omega)).mp w
      omega
  · rw [E] at e1 e2
    have hb : ∀ z, z ≠ q → bad A z → bad (tlP (enA A q) q (fun _ => True)) z := fun z hz w => ⟨by rw [cmo z hz]; exact w.1, w.2.imp id Or.inl⟩
    have nb : ¬ bad A q := fun w => w.2.elim (fun n => n hq) hd
    by_cases e : b = q
    · subst e
      rw [cmq] at k2 k3
      have pne : p ≠ b := (a1 p b e2).1
      rw [cmo p pne] at k3
      have i3 := a3 p (a1 p b e2).2.1
      have cp : cmI A p = 0 := by omega
      by_cases kp : aK A p
      · have arp := (b2 p b kp hq).mpr e2
        have p4 : aF (enA A b) 4 p = 0 := by
          rw [Fo 4 p pne]; exact i32z.mpr ((pl p kp).trans cp)
        have fin : ∀ z, aK A z → aA A z p → (aF (enA A b) 4 z = 0 ∨ z = b) → bad (tlP (enA A b) b (fun _ => True)) p := fun z z1 z2 z3 => ⟨by rw [cmo p pne]; exact cp, Or.inr (Or.inr ⟨trivial, kp, arp, p4, z, z1, z2, z3⟩)⟩
        by_cases ea : a = b
        · subst ea
          exact Or.inr (fin a hq ((b2 a p hq kp).mpr e1) (Or.inr rfl))
        · rw [cmo a ea] at k2
          have i4 := a3 a (a1 a p e1).2.1
          have ca : cmI A a = 0 := by omega
          by_cases ka : aK A a
          · refine Or.inr (fin a ka ((b2 a p ka kp).mpr e1) (Or.inl ?_))
            rw [Fo 4 a ea]; exact i32z.mpr ((pl a ka).trans ca)
          · exact Or.inl ⟨by rw [cmo a ea]; exact ca, Or.inl ka⟩
      · exact Or.inr ⟨by rw [cmo p pne]; exact cp, Or.inl kp⟩
    · rw [cmo b e] at k1 k2 k3
      have k2' : cmI A a = 0 ∨ cmI A b ≤ cmI A a := by
        by_cases ea : a = q
        · rw [ea]; exact Or.inl cq
        · rw [cmo a ea] at k2; exact k2
      have k3' : cmI A p = 0 ∨ cmI A b ≤ cmI A p := by
        by_cases ep : p = q
        · rw [ep]; exact Or.inl cq
        · rw [cmo p ep] at k3; exact k3
      rcases c a p b e1 e2 k1 k2' k3' with w | w
      · exact Or.inl (hb a (fun z => nb (z ▸ w)) w)
      · exact Or.inr (hb p (fun z => nb (z ▸ w)) w)
theorem HV_bg {A : Ab} (hA : AI A) (hb : aB A < 512) (h : HV A) (s : Int32) : HV (bgA A s) := by
  have hfr := fun {q : Int32} (hq : aK A q) => fresh hA hq
  have e0 : (0 : Int32).toInt = 0 := rfl
  have hC := hA.c512
  have Fo : ∀ d z, z ≠ nI (aB A + 1) → aF (bgA A s) d z = aF A d z := fun d z hz => if_neg hz
  have Fn : ∀ d, aF (bgA A s) d (nI (aB A + 1)) = (if d = 2 then s else if d = 3 ∨ d = 13 then nI (aC A) else if d = 14 then aF A 14 (nI (aB A + 1)) else 0) := fun d => if_pos rfl
  obtain ⟨⟨a1, a2, a3, a4⟩, ⟨b1, b2, b3, b4⟩, c⟩ := h
  have z14 : aF A 14 (nI (aB A + 1)) = 0 := b4 (aB A + 1) (by omega) (by omega)
  have cmE : ∀ z, cmI (bgA A s) z = cmI A z := fun z => by
    unfold cmI
    by_cases e : z = nI (aB A + 1)
    · subst e; rw [Fn 14]; rfl
    · rw [Fo 14 z e]
  have ne : ∀ x, idb A x → x ≠ nI (aB A + 1) := fun x hx => by
    obtain ⟨n, h1, h2, e⟩ := hx
    rw [e]
    intro w
    have := (nI_eq (by omega) (by omega)).mp w
    omega
  have snE : ∀ x, idb A x → snI (bgA A s) x = snI A x := fun x hx => by unfold snI; rw [Fo 13 x (ne x hx)]
  have up : ∀ x, idb A x → idb (bgA A s) x := fun x ⟨n, h1, h2, e⟩ => ⟨n, h1, Nat.le_succ_of_le h2, e⟩
  have dn : ∀ x, idb (bgA A s) x → idb A x ∨ x = nI (aB A + 1) := fun x ⟨n, h1, h2, e⟩ => by
    have h2' : n ≤ aB A + 1 := h2
    by_cases w : n = aB A + 1
    · exact Or.inr (by rw [e, w])
    · exact Or.inl ⟨n, h1, by omega, e⟩
  have cmn : cmI A (nI (aB A + 1)) = 0 := by unfold cmI; rw [z14]; rfl
  refine ⟨⟨fun x y e => ⟨(a1 x y e).1, up x (a1 x y e).2.1, up y (a1 x y e).2.2⟩, fun x hx => ?_, fun x hx => ?_, fun x y e => ?_⟩, ⟨fun x y hx e hy => ?_, fun x y hx hy => ?_, fun a z g1 g2 g3 g4 g5 => ?_, fun n n1 n2 => ?_⟩, fun a p b e1 e2 k1 k2 k3 => ?_⟩
  · rcases hx with hx | hx
    · rw [Fo 4 x (hfr hx), Fo 14 x (hfr hx), Fo 3 x (hfr hx), Fo 13 x (hfr hx)]; exact a2 x hx
    · subst hx
      rw [Fn 4, Fn 14, Fn 3, Fn 13]
      exact ⟨z14.symm, rfl⟩
  · rw [cmE]
    rcases dn x hx with w | w
    · rw [snE x w]; exact a3 x w
    · subst w
      have : snI (bgA A s) (nI (aB A + 1)) = aC A := by
        unfold snI
        rw [Fn 13]
        show (nI (aC A)).toInt = _
        rw [nI_toInt (by omega)]
      rw [this, cmn]
      show _ ∧ _ ≤ (aC A : Int) ∧ _ ∧ _ ≤ (aC A : Int) ∧ _
      omega
  · rw [cmE, cmE, snE x (a1 x y e).2.1, snE y (a1 x y e).2.2]; exact a4 x y e
  · rw [cmE] at hy ⊢
    have xn := ne x (a1 x y e).2.1
    rw [Fo 6 x xn]
    exact b1 x y (hx.resolve_right xn) e hy
  · show (x ≠ nI (aB A + 1) ∧ y ≠ nI (aB A + 1) ∧ aA A x y) ↔ aE A x y
    constructor
    · rintro ⟨w1, w2, w3⟩
      exact (b2 x y (hx.resolve_right w1) (hy.resolve_right w2)).mp w3
    · intro e
      have x1 := ne x (a1 x y e).2.1
      have y1 := ne y (a1 x y e).2.2
      exact ⟨x1, y1, (b2 x y (hx.resolve_right x1) (hy.resolve_right y1)).mpr e⟩
  · rw [cmE] at g2 g5
    have ia := (dn a g1).resolve_right (fun w => by rw [w, cmn] at g2; omega)
    have ca := a3 a ia
    rcases g3 with g3 | g3
    · rw [Fo 4 z (hfr g3)] at g4
      rw [snE z (hA.idb g3)] at g5
      exact Or.inl (b3 a z ia g2 g3 g4 g5)
    · subst g3
      have : snI (bgA A s) (nI (aB A + 1)) = aC A := by
        unfold snI
        rw [Fn 13]
        show (nI (aC A)).toInt = _
        rw [nI_toInt (by omega)]
      rw [this] at g5
      omega
  · have n1' : aB A + 1 < n := n1
    rw [Fo 14 _ (fun w => by have := (nI_eq (by omega) (by omega)).mp w; omega)]
    exact b4 n (by omega) n2
  · rw [cmE] at k1
    rw [cmE, cmE] at k2 k3
    have hbd : ∀ x, idb A x → bad A x → bad (bgA A s) x := fun x hx w => by
      refine ⟨by rw [cmE]; exact w.1, w.2.imp (fun n q => n (q.resolve_right (ne x hx))) (fun d => ⟨ne x hx, d⟩)⟩
    exact (c a p b e1 e2 k1 k2 k3).imp (hbd a (a1 a p e1).2.1) (hbd p (a1 p b e2).2.1)
