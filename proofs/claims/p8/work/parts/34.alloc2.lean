section OHR2
variable {ρ : Type} {h : AH} {P : ρ → AH → Prop}
theorem oh_rcv {a ci : Nat} {fs : List Value} {K : Nat → Option (ρ × AH)} (hf : h.1 a = some (.inr (ci, fs))) (hk : OH (K a) P) : OH (rcv h ci (some a) K) P := by
  unfold rcv
  rw [gO_of hf]
  exact hk
theorem oh_fI {a ci k : Nat} {fs : List Value} {x : Int32} {K : Int32 → Option (ρ × AH)} (hf : h.1 a = some (.inr (ci, fs))) (hv : fs[k]? = some (.int x)) (hk : OH (K x) P) : OH ((fI h ci k (some a)).bind K) P := by
  have e : fI h ci k (some a) = some x := by
    unfold fI gF
    rw [gO_of hf]
    simp [hv, vI]
  rw [e]
  exact hk
theorem oh_fR {a ci k : Nat} {fs : List Value} {r : Option Nat} {K : Option Nat → Option (ρ × AH)} (hf : h.1 a = some (.inr (ci, fs))) (hv : fs[k]? = some (va_rf r)) (hk : OH (K r) P) : OH ((fR h ci k (some a)).bind K) P := by
  have e : fR h ci k (some a) = some r := by
    unfold fR gF
    rw [gO_of hf]
    simp [hv, vR_rf]
  rw [e]
  exact hk
theorem oh_lR {a t n j : Nat} {f : Nat → Value} {r : Option Nat} {K : Option Nat → Option (ρ × AH)} (hf : h.1 a = some (.inl (t, n, f))) (hj : j < n) (hn : n ≤ 64) (hv : f j = va_rf r) (hk : OH (K r) P) : OH ((lR h t (some a) (nI j)).bind K) P := by
  unfold lR
  rw [gE_of hf hj hn, Option.bind_some, hv, vR_rf]
  exact hk
theorem oh_so {σ : Type} {X w : Nat} {κ : KD} {z : Nat × Nat} {mm : Nat → Option AE} {c : Option (σ × AH)} {K : σ → AH → Option (ρ × AH)} {Q1 : σ → Prop} (hc : SO X w κ z mm c Q1) (hk : ∀ r H, ST X w κ z mm H → Q1 r → OH (K r H) P) : OH (bnd c K) P := by
  obtain ⟨r, H, e, s, q⟩ := hc
  unfold bnd
  rw [e]
  exact hk r H s q
theorem oh_of {X w : Nat} {κ : KD} {z : Nat × Nat} {mm : Nat → Option AE} {c : Option (ρ × AH)} (hc : SO X w κ z mm c (fun _ => True)) (hk : ∀ r H, ST X w κ z mm H → P r H) : OH c P := by
  obtain ⟨r, H, e, s, q⟩ := hc
  exact ⟨r, H, e, hk r H s⟩
end OHR2
theorem cp_st {X w : Nat} {h H : AH} (hw : w ≤ h.2.1) (hs : ST X w (kd h) h.2 h.1 H) : CP X w h H := ⟨w, Nat.le_refl _, hs.1, by rw [hs.2.2.1]; exact hw, by rw [hs.2.2.1]; omega, by rw [hs.2.2.1]; omega, hs.2.2.2⟩
theorem k_begin {X w : Nat} {h : AH} (hc : CI X w h) (hw : w ≤ h.2.1) (x1 : Int32) : OH (f_D_begin X x1 h) (fun _ H => CP X w h H) := by
  have hs := st_of hc
  unfold f_D_begin
  obtain ⟨k1, k2, k3, hf⟩ := st_dk hs
  refine oh_rcv hf (oh_so (t_freeSlot hs) (fun r h1 hs hr => oh_so (t_isSession hs x1) (fun r2 h2 hs ⟨_, he⟩ => ?_)))
  refine oh_if (fun _ => oh_ret (cp_st hw hs)) (fun hne => ?_)
  obtain ⟨j, hj, rfl⟩ := he hne
  obtain ⟨k1, k2, k3, hf⟩ := st_dk hs
  refine oh_fR (r := some (X + 4)) hf rfl ?_
  obtain ⟨f, hfa⟩ := so_arr hs (st_X hs).2.2.2.2.1
  obtain ⟨g, rfl, hg⟩ := (st_ok hs hfa (Or.inl (by omega))).2.2.2.2.2.2.1 6 f rfl
  refine oh_lR hfa hj (by omega) rfl ?_
  refine oh_if (fun _ => oh_if (fun h0 => ?_) (fun _ => oh_ret (cp_st hw hs))) (fun _ => oh_ret (cp_st hw hs))
  obtain rfl | ⟨i, hi, rfl⟩ := hr
  · exact absurd h0 (by decide)
  refine oh_fI hf rfl ?_
  have hp := so_dP (k := 4) (x := k2 + 1) (K := fun h => some ((), h)) (Q := fun _ => True) hs (by decide) (fun h1 hs => so_ret hs trivial)
  obtain ⟨u3, h3, e3, hs3, _⟩ := hp
  obtain ⟨h3', e4, e5⟩ := Option.bind_eq_some_iff.mp e3
  cases e5
  rw [e4, Option.bind_some]
  refine oh_nO (fun h4 f4 o4 z4 y4 => ?_)
  have hz3 : h3.2 = h.2 := hs3.2.2.1
  obtain ⟨a, ha⟩ : ∃ a, a = h3.2.1 := ⟨_, rfl⟩
  rw [← ha] at f4 o4 z4 ⊢
  have haX : X + 26 ≤ a := by rw [ha]; exact hs3.1.2.2.2.2
  obtain ⟨k1, k2, k3, hf3⟩ := st_dk hs3
  have hf4 : h4.1 X = _ := (o4 X (by omega)).trans hf3
  refine oh_fI hf4 rfl (oh_fI hf4 rfl (oh_bndU (T_init_ok f4 z4 _ _ _) ?_))
  rintro h5 ⟨g1, g2, g3, g4, g5, g6⟩
  have old : ∀ q, q < a → h5.1 q = h3.1 q := fun q hq => (g4 q (by omega) (by omega) (by omega)).trans (o4 q (by omega))
  have kt : kd h5 a = some (.inl 1) := by simp only [kd, g1]; rfl
  have k1a : kd h5 (a + 1) = some (.inr (3, 8)) := by simp only [kd, g2]; rfl
  have k2a : kd h5 (a + 2) = some (.inr (4, 8)) := by simp only [kd, g3]; rfl
  have hend : ∀ q, a + 3 ≤ q → h5.1 q = none := fun q hq => ((g4 q (by omega) (by omega) (by omega)).trans (o4 q (by omega))).trans (hs3.1.2.2.2.1 q (by omega))
  have hc5 : CI X w h5 := by
    refine ci_grow hs3.1 (Nat.le_refl _) (by rw [← ha]; exact old) (by omega) (fun q e hq he => ?_) (by rw [g5]; exact hend) (fun q c hq _ _ => by omega)
    rw [← ha] at hq
    rcases (show q = a ∨ q = a + 1 ∨ q = a + 2 ∨ a + 3 ≤ q by omega) with rfl | rfl | rfl | h9
    · rw [g1] at he
      cases he
      exact ⟨fun _ h => (by cases h), fun _ h => (by cases h; exact ⟨_, _, _, _, _, _, _, rfl, Or.inl rfl, k1a, k2a⟩), fun _ h => (by cases h), fun _ h => (by cases h), fun _ _ h => (by cases h), fun _ _ h => (by cases h), fun _ _ h => (by cases h), fun _ _ h => (by cases h), fun _ _ h => (by cases h)⟩
    · rw [g2] at he
      cases he
      exact ⟨fun _ h => (by cases h), fun _ h => (by cases h), fun _ h => (by cases h), fun _ h => (by cases h), fun _ _ h => (by cases h), fun _ _ h => (by cases h), fun _ _ h => (by cases h), fun _ _ h => (by cases h; exact ⟨fun _ => none, rfl, fun _ => Or.inl rfl⟩), fun _ _ h => (by cases h)⟩
    · rw [g3] at he
      cases he
      exact ⟨fun _ h => (by cases h), fun _ h => (by cases h), fun _ h => (by cases h), fun _ h => (by cases h), fun _ _ h => (by cases h), fun _ _ h => (by cases h), fun _ _ h => (by cases h), fun _ _ h => (by cases h), fun _ _ h => (by cases h; exact ⟨fun _ => 0, rfl⟩)⟩
    · rw [hend q h9] at he
      cases he
  have hs5 := st_of hc5
  refine oh_of (so_dR1 hs5 (so_qR2 hs5 (st_X hs5).2.2.2.2.1 (by omega) hj (by omega) (Or.inr ⟨a, rfl, kt⟩) (fun h6 hs6 => so_dR2 hs6 (so_qR2 hs6 (st_X hs6).2.2.2.2.2 (by omega) hi (by omega) (Or.inr ⟨a, rfl, kt⟩) (fun h7 hs7 => so_dI hs7 (by decide) (fun x => so_dP hs7 (by decide) (fun h8 hs8 => so_tI hs8 kt (by decide) (fun y => so_ret hs8 trivial)))))))) (fun r H hsH => ?_)
  refine ⟨w, Nat.le_refl _, hsH.1, ?_, ?_, ?_, fun q q1 q2 => ?_⟩
  · rw [hsH.2.2.1, g5, ha, hz3]; omega
  · rw [hsH.2.2.1, g5, ha, hz3]; omega
  · rw [hsH.2.2.1, g6, y4, hz3]
    show h.2.2 + 9 + 16 ≤ _
    omega
  · rw [hsH.2.2.2 q q1 q2, old q (by omega)]
    exact hs3.2.2.2 q q1 q2
/-- a new range at the heap's end -/
def NR (X w : Nat) (h H : AH) : Prop := CI X w H ∧ kd H h.2.1 = some (.inl 0) ∧ H.2.1 = h.2.1 + 1 ∧ H.2.2 = h.2.2 + 5 ∧ (∀ q, q < h.2.1 → H.1 q = h.1 q)
theorem k_newR {ρ : Type} {P : ρ → AH → Prop} {X w : Nat} {h : AH} (hc : CI X w h) (x1 : Int32) (x2 x4 : Int64) (x6 : Int32) {K : Nat → AH → Option (ρ × AH)} (hK : ∀ H, NR X w h H → OH (K h.2.1 H) P) : OH (nOk h 0 [.int 0, .long 0, .long 0, .int 0, .null] (fun a h1 => bndU (f_R_init a x1 x2 x4 x6 h1) (fun h2 => K a h2))) P := by
  refine oh_nO (fun h1 f1 o1 z1 y1 => oh_bndU (R_init_ok f1 x1 x2 x4 x6) ?_)
  rintro h2 ⟨f2, o2, z2⟩
  have old : ∀ q, q < h.2.1 → h2.1 q = h.1 q := fun q hq => (o2 q (by omega)).trans (o1 q (by omega))
  have hend : ∀ q, h.2.1 + 1 ≤ q → h2.1 q = none := fun q hq => ((o2 q (by omega)).trans (o1 q (by omega))).trans (hc.2.2.2.1 q (by omega))
  refine hK h2 ⟨?_, by simp only [kd, f2]; rfl, by rw [z2, z1], by rw [z2, y1]; rfl, old⟩
  have hX := hc.2.2.2.2
  refine ci_grow hc (Nat.le_refl _) old (by rw [z2, z1]; omega) (fun q e hq he => ?_) (by rw [z2, z1]; exact hend) (fun q c hq _ _ => by omega)
  rcases (show q = h.2.1 ∨ h.2.1 + 1 ≤ q by omega) with rfl | h9
  · rw [f2] at he
    cases he
    exact ⟨fun _ h => (by cases h; exact ⟨_, _, _, _, _, rfl, Or.inl rfl⟩), fun _ h => (by cases h), fun _ h => (by cases h), fun _ h => (by cases h), fun _ _ h => (by cases h), fun _ _ h => (by cases h), fun _ _ h => (by cases h), fun _ _ h => (by cases h), fun _ _ h => (by cases h)⟩
  · rw [hend q h9] at he
    cases he
theorem k_whole {X w : Nat} {h : AH} (hc : CI X w h) : OH (f_D_wholeTable h) (fun r H => r = some h.2.1 ∧ NR X w h H) := by
  unfold f_D_wholeTable
  exact k_newR hc (-1) 0 0 12 (K := fun a h => some (some a, h)) (fun H hN => oh_ret ⟨rfl, hN⟩)
theorem st_mono {X w w' : Nat} {κ : KD} {z : Nat × Nat} {mm : Nat → Option AE} {h : AH} (hw : w ≤ w') (hs : ST X w κ z mm h) : ST X w' κ z mm h := ⟨⟨fun q e hq hr => okc_mono hw (fun _ _ h => h) (hs.1.1 q e hq hr), hs.1.2⟩, hs.2⟩
/-- what addRange leaves -/
def AP (X w : Nat) (h H : AH) : Prop := ∃ w', w ≤ w' ∧ CI X w' H ∧ w' ≤ H.2.1 ∧ H.2.1 ≤ h.2.1 + 1 ∧ H.2.2 ≤ h.2.2 + 5 ∧ ∀ q, X + 6 ≤ q → q ≤ X + 25 → H.1 q = h.1 q
theorem k_addRange {X w : Nat} {h : AH} (hc : CI X w h) (hw : w ≤ X + 1900) {a d : Nat} (ha : kd h a = some (.inl 1)) (hd : kd h d = some (.inl 0)) (hwd : w ≤ d) (hdz : d < h.2.1) (x : Int32) : OH (f_T_addRange a x (some d) h) (fun _ H => AP X w h H) := by
  have hs := st_of hc
  have fin : ∀ {w' : Nat} {H : AH}, w ≤ w' → w' ≤ d + 1 → ST X w' (kd h) h.2 h.1 H → AP X w h H := fun h1 h2 hs => ⟨_, h1, hs.1, by rw [hs.2.2.1]; omega, by rw [hs.2.2.1]; omega, by rw [hs.2.2.1]; omega, hs.2.2.2⟩
  unfold f_T_addRange
  refine oh_so (t_isTable hs x) (fun r h1 hs ⟨_, he⟩ => oh_if (fun _ => oh_ret (fin (Nat.le_refl _) (by omega) hs)) (fun hne => ?_))
  obtain ⟨j, hj, rfl⟩ := he hne
  obtain ⟨i1, i2, i3, i4, i5, l, i6, hf, -⟩ := st_tx hs ha
  refine oh_rcv hf (oh_so (t_isCovered hw hs ha hd (nI j)) (fun r h2 hs _ => oh_if (fun _ => ?_) (fun _ => ?_)))
  · obtain ⟨i1, i2, i3, i4, i5, l, i6, hf, -, q1, q2, q3⟩ := st_tx hs ha
    refine oh_fR (r := some (a + 2)) hf rfl ?_
    obtain ⟨f, hfa⟩ := so_arr hs q2
    obtain ⟨g, rfl⟩ := (st_ok hs hfa (Or.inr (by omega))).2.2.2.2.2.2.2.2 8 f rfl
    have e1 : lI h2 4 (some (a + 2)) (nI j) = some (g j) := by
      unfold lI
      rw [gE_of hfa hj (by omega)]
      rfl
    rw [e1, Option.bind_some]
    obtain ⟨f3, hf3⟩ := so_arr hs q1
    obtain ⟨g3, rfl, hg3⟩ := (st_ok hs hf3 (Or.inr (by omega))).2.2.2.2.2.2.2.1 8 f3 rfl
    refine oh_if (fun _ => ?_) (fun _ => ?_)
    · refine oh_fR (r := some (a + 1)) hf rfl (oh_lR hf3 hj (by omega) rfl ?_)
      have hr : okr (kd h) d (g3 j) := by
        obtain q | ⟨b, q, q4, q5⟩ := hg3 j
        · exact Or.inl q
        · exact Or.inr ⟨b, q, by omega, q5⟩
      have hs' := st_mono (w' := d + 1) (by omega) hs
      exact oh_of (so_rP hs' hd hr (fun h3 hs3 => so_tR7 hs3 ha (so_qR3 hs3 ha hj (Or.inr ⟨d, rfl, by omega, hd⟩) (fun h4 hs4 => so_tR8 hs4 ha (so_lI4 hs4 ha hj (fun y => so_pE4 hs4 ha hj (fun h5 hs5 => so_tR8 hs5 ha (so_lI4 hs5 ha hj (fun y => so_ret hs5 trivial))))))))) (fun r H hsH => fin (by omega) (Nat.le_refl _) hsH)
    · refine oh_fR (r := some (a + 1)) hf rfl (oh_bnd (k_whole hs.1) ?_)
      rintro r h3 ⟨rfl, hc3, n1, n2, n3, n4⟩
      have hz2 : h2.2 = h.2 := hs.2.2.1
      have hs3 := st_of (X := X) (w := h2.2.1 + 1) (h := h3) (st_mono (by rw [hz2]; omega) (st_of hc3)).1
      have aq : a < h2.2.1 := by
        rcases Nat.lt_or_ge a h2.2.1 with q | q
        · exact q
        · rw [hs.1.2.2.2.1 a q] at hf
          cases hf
      have ha3 : kd h3 a = some (.inl 1) := by
        simp only [kd, n4 a aq, hf]
        rfl
      refine oh_of (so_qR3 hs3 ha3 hj (Or.inr ⟨_, rfl, by omega, n1⟩) (fun h4 hs4 => so_tR8 hs4 ha3 (so_pE4 hs4 ha3 hj (fun h5 hs5 => so_ret hs5 trivial)))) (fun r H hsH => ?_)
      refine ⟨h2.2.1 + 1, by rw [hz2]; omega, hsH.1, ?_, ?_, ?_, fun q q1 q2 => ?_⟩
      · rw [hsH.2.2.1, n2]; omega
      · rw [hsH.2.2.1, n2, hz2]; omega
      · rw [hsH.2.2.1, n3, hz2]; omega
      · rw [hsH.2.2.2 q q1 q2, n4 q (by have := hs.1.2.2.2.2; omega)]
        exact hs.2.2.2 q q1 q2
  · exact oh_of (so_tR8 hs ha (so_lI4 hs ha hj (fun y => so_ret hs trivial))) (fun r H hsH => fin (Nat.le_refl _) (by omega) hsH)
theorem k_read {X w : Nat} {h : AH} (hc : CI X w h) (hw : w ≤ h.2.1) (hw2 : w ≤ X + 1900) (x1 x2 x3 : Int32) (x4 x6 : Int64) (x8 : Int32) : OH (f_D_read X x1 x2 x3 x4 x6 x8 h) (fun _ H => CP X w h H) := by
  have hs := st_of hc
  unfold f_D_read
  obtain ⟨k1, k2, k3, hf⟩ := st_dk hs
  refine oh_rcv hf (oh_so (t_runningIn hs x1) (fun r h1 hs ⟨hr, _⟩ => oh_if (fun _ => oh_ret (cp_st hw hs)) (fun hne => ?_)))
  obtain ⟨a, rfl, ha⟩ := okt_some hr hne
  refine oh_so (t_isTable hs x2) (fun r h2 hs _ => oh_if (fun _ => oh_ret (cp_st hw hs)) (fun _ => ?_))
  have go : ∀ (h2 h3 : AH), ST X w (kd h) h.2 h.1 h2 → NR X w h2 h3 → OH (rcv h3 1 (some a) (fun b => bnd (f_T_addRange b x2 (some h2.2.1) h3) (fun x h4 => some (x, h4)))) (fun _ H => CP X w h H) := by
    intro h2 h3 hs2 ⟨hc3, n1, n2, n3, n4⟩
    have hz2 : h2.2 = h.2 := hs2.2.2.1
    obtain ⟨i1, i2, i3, i4, i5, l, i6, hf, -, q1, q2, q3⟩ := st_tx hs2 ha
    have aq : a < h2.2.1 := by
      rcases Nat.lt_or_ge a h2.2.1 with q | q
      · exact q
      · rw [hs2.1.2.2.2.1 a q] at hf
        cases hf
    have hf3 : h3.1 a = _ := (n4 a aq).trans hf
    have ha3 : kd h3 a = some (.inl 1) := by
      simp only [kd, hf3]
      rfl
    refine oh_rcv hf3 (oh_bnd (k_addRange hc3 hw2 ha3 n1 (by rw [hz2]; exact hw) (by omega) x2) ?_)
    rintro r H ⟨w', p1, p2, p3, p4, p5, p6⟩
    refine oh_ret ⟨w', p1, p2, p3, by rw [n2, hz2] at p4; omega, by rw [n3, hz2] at p5; omega, fun q r1 r2 => ?_⟩
    rw [p6 q r1 r2, n4 q (by have := hs2.1.2.2.2.2; omega)]
    exact hs2.2.2.2 q r1 r2
  refine oh_if (fun _ => ?_) (fun _ => ?_)
  · refine oh_bnd (k_whole hs.1) ?_
    rintro r h3 ⟨rfl, hN⟩
    exact go h2 h3 hs hN
  · refine oh_so (t_isColumn hs x3) (fun r h3 hs _ => oh_if (fun _ => oh_ret (cp_st hw hs)) (fun _ => oh_if (fun _ => oh_ret (cp_st hw hs)) (fun _ => oh_if (fun _ => ?_) (fun _ => oh_ret (cp_st hw hs)))))
    exact k_newR hs.1 x3 x4 x6 x8 (K := fun a1 h4 => rcv h4 1 (some a) (fun b => bnd (f_T_addRange b x2 (some a1) h4) (fun x h5 => some (x, h5)))) (fun H hN => go h3 H hs hN)
