/-! new cells -/
def OH {ρ : Type} (comp : Option (ρ × AH)) (P : ρ → AH → Prop) : Prop := ∃ r H, comp = some (r, H) ∧ P r H
section OHR
variable {ρ : Type} {h : AH} {P : ρ → AH → Prop}
theorem oh_ret {r : ρ} (hp : P r h) : OH (some (r, h)) P := ⟨r, h, rfl, hp⟩
theorem oh_bnd {σ : Type} {c : Option (σ × AH)} {K : σ → AH → Option (ρ × AH)} {P1 : σ → AH → Prop} (hc : OH c P1) (hk : ∀ r H, P1 r H → OH (K r H) P) : OH (bnd c K) P := by
  obtain ⟨r, H, e, p⟩ := hc
  unfold bnd
  rw [e]
  exact hk r H p
theorem oh_bndU {c : Option (Unit × AH)} {K : AH → Option (ρ × AH)} {P1 : Unit → AH → Prop} (hc : OH c P1) (hk : ∀ H, P1 () H → OH (K H) P) : OH (bndU c K) P := by
  obtain ⟨r, H, e, p⟩ := hc
  unfold bndU
  rw [e]
  exact hk H p
theorem oh_imp {c : Option (ρ × AH)} {P1 : ρ → AH → Prop} (hc : OH c P1) (hk : ∀ r H, P1 r H → P r H) : OH c P := by
  obtain ⟨r, H, e, p⟩ := hc
  exact ⟨r, H, e, hk r H p⟩
theorem oh_if {Pr : Prop} [Decidable Pr] {a b : Option (ρ × AH)} (ht : Pr → OH a P) (hf : ¬ Pr → OH b P) : OH (if Pr then a else b) P := by
  by_cases hP : Pr
  · rw [if_pos hP]; exact ht hP
  · rw [if_neg hP]; exact hf hP
theorem oh_pF {a ci k : Nat} {fs : List Value} {v : Value} {K : AH → Option (ρ × AH)} (hf : h.1 a = some (.inr (ci, fs))) (hk : k < fs.length) (hK : ∀ H, H.1 a = some (.inr (ci, fs.set k v)) → (∀ q, q ≠ a → H.1 q = h.1 q) → H.2 = h.2 → OH (K H) P) : OH ((pF h ci k (some a) v).bind K) P := by
  have e : pF h ci k (some a) v = some (aput h a (.inr (ci, fs.set k v))) := by
    unfold pF
    rw [gO_of hf]
    simp [hk]
  rw [e]
  exact hK _ (by simp [aput]) (fun q hq => by simp [aput, hq]) rfl
theorem oh_pZ {a ci k : Nat} {fs : List Value} {x : Int32} {K : AH → Option (ρ × AH)} (hf : h.1 a = some (.inr (ci, fs))) (hx : x = 0 ∨ x = 1) (hk : k < fs.length) (hK : ∀ H, H.1 a = some (.inr (ci, fs.set k (.int x))) → (∀ q, q ≠ a → H.1 q = h.1 q) → H.2 = h.2 → OH (K H) P) : OH ((pZ h ci k (some a) x).bind K) P := by
  rw [show pZ h ci k (some a) x = pF h ci k (some a) (.int x) from if_pos hx]
  exact oh_pF hf hk hK
theorem oh_nA {t : Nat} {n : Int32} {d : Value} {K : Nat → AH → Option (ρ × AH)} (N : Nat) (hn : n = nI N) (hN : N ≤ 100000) (hK : ∀ H, H.1 h.2.1 = some (.inl (t, N, fun _ => d)) → (∀ q, q ≠ h.2.1 → H.1 q = h.1 q) → H.2.1 = h.2.1 + 1 → H.2.2 = h.2.2 + N → OH (K h.2.1 H) P) : OH (nAk h t n d K) P := by
  subst hn
  unfold nAk
  have hc : (nI N).toNatClampNeg = N := nI_clamp (by omega)
  rw [if_neg (by rw [hc]; rintro (q | q); exact nI_pos (by omega) q; omega), hc]
  exact hK _ (by simp [apush]) (fun q hq => by simp [apush, hq]) rfl rfl
theorem oh_nO {ci : Nat} {fs : List Value} {K : Nat → AH → Option (ρ × AH)} (hK : ∀ H, H.1 h.2.1 = some (.inr (ci, fs)) → (∀ q, q ≠ h.2.1 → H.1 q = h.1 q) → H.2.1 = h.2.1 + 1 → H.2.2 = h.2.2 + fs.length → OH (K h.2.1 H) P) : OH (nOk h ci fs K) P := hK _ (by simp [apush]) (fun q hq => by simp [apush, hq]) rfl rfl
end OHR
/-- Transaction(..) on a fresh object at the heap's end: its cells -/
theorem T_init_ok {h : AH} {a : Nat} (hf : h.1 a = some (.inr (1, [.int 0, .int 0, .int 0, .int 0, .int 0, .long 0, .int 0, .null, .null]))) (hz : h.2.1 = a + 1) (x1 x2 x3 : Int32) : OH (f_T_init a x1 x2 x3 h) (fun _ H => H.1 a = some (.inr (1, txf a x1 x2 x3 0 0 0 0)) ∧ H.1 (a + 1) = some (.inl (3, 8, fun _ => .null)) ∧ H.1 (a + 2) = some (.inl (4, 8, fun _ => .int 0)) ∧ (∀ q, q ≠ a → q ≠ a + 1 → q ≠ a + 2 → H.1 q = h.1 q) ∧ H.2.1 = a + 3 ∧ H.2.2 = h.2.2 + 16) := by
  unfold f_T_init
  refine oh_pF hf (Nat.le_of_ble_eq_true rfl) (fun H1 f1 o1 z1 => ?_)
  refine oh_pF f1 (Nat.le_of_ble_eq_true rfl) (fun H2 f2 o2 z2 => ?_)
  refine oh_pF f2 (Nat.le_of_ble_eq_true rfl) (fun H3 f3 o3 z3 => ?_)
  refine oh_pF f3 (Nat.le_of_ble_eq_true rfl) (fun H4 f4 o4 z4 => ?_)
  refine oh_pZ f4 (Or.inl rfl) (Nat.le_of_ble_eq_true rfl) (fun H5 f5 o5 z5 => ?_)
  refine oh_pF f5 (Nat.le_of_ble_eq_true rfl) (fun H6 f6 o6 z6 => ?_)
  refine oh_pF f6 (Nat.le_of_ble_eq_true rfl) (fun H7 f7 o7 z7 => ?_)
  have zz : H7.2 = h.2 := by rw [z7, z6, z5, z4, z3, z2, z1]
  have e7 : H7.2.1 = a + 1 := by rw [zz, hz]
  refine oh_nA 8 rfl (by omega) (fun H8 f8 o8 z8 y8 => ?_)
  rw [e7] at f8 o8 z8 ⊢
  have g8 : H8.1 a = _ := (o8 a (by omega)).trans f7
  refine oh_pF g8 (Nat.le_of_ble_eq_true rfl) (fun H9 f9 o9 z9 => ?_)
  have e9 : H9.2.1 = a + 2 := by rw [z9, z8]
  refine oh_nA 8 rfl (by omega) (fun H10 f10 o10 z10 y10 => ?_)
  rw [e9] at f10 o10 z10 ⊢
  have g10 : H10.1 a = _ := (o10 a (by omega)).trans f9
  refine oh_pF g10 (Nat.le_of_ble_eq_true rfl) (fun H11 f11 o11 z11 => ?_)
  refine oh_ret ⟨f11, ?_, ?_, fun q q1 q2 q3 => ?_, by rw [z11, z10], by rw [z11, y10, z9, y8, zz]⟩
  · rw [o11 _ (by omega), o10 _ (by omega), o9 _ (by omega)]; exact f8
  · rw [o11 _ (by omega)]; exact f10
  · rw [o11 _ q1, o10 _ q3, o9 _ q1, o8 _ q2, o7 _ q1, o6 _ q1, o5 _ q1, o4 _ q1, o3 _ q1, o2 _ q1, o1 _ q1]
theorem R_init_ok {h : AH} {a : Nat} (hf : h.1 a = some (.inr (0, [.int 0, .long 0, .long 0, .int 0, .null]))) (x1 : Int32) (x2 x4 : Int64) (x6 : Int32) : OH (f_R_init a x1 x2 x4 x6 h) (fun _ H => H.1 a = some (.inr (0, rgf x1 x2 x4 x6 none)) ∧ (∀ q, q ≠ a → H.1 q = h.1 q) ∧ H.2 = h.2) := by
  unfold f_R_init
  refine oh_pF hf (Nat.le_of_ble_eq_true rfl) (fun H1 f1 o1 z1 => ?_)
  refine oh_pF f1 (Nat.le_of_ble_eq_true rfl) (fun H2 f2 o2 z2 => ?_)
  refine oh_pF f2 (Nat.le_of_ble_eq_true rfl) (fun H3 f3 o3 z3 => ?_)
  refine oh_pF f3 (Nat.le_of_ble_eq_true rfl) (fun H4 f4 o4 z4 => ?_)
  refine oh_pF f4 (Nat.le_of_ble_eq_true rfl) (fun H5 f5 o5 z5 => ?_)
  exact oh_ret ⟨f5, fun q q1 => by rw [o5 _ q1, o4 _ q1, o3 _ q1, o2 _ q1, o1 _ q1], by rw [z5, z4, z3, z2, z1]⟩
/-- a world with more cells at its end -/
theorem okc_mono {X w w' : Nat} {κ κ' : KD} (hw : w ≤ w') (hk : ∀ q k, κ q = some k → κ' q = some k) {q : Nat} {e : AE} (h : okc X w κ q e) : okc X w' κ' q e := by
  obtain ⟨h0, h1, h2, h3, h4, h5, h6, h7, h8⟩ := h
  have orm : ∀ {b b' : Nat} {r : Option Nat}, b ≤ b' → okr κ b r → okr κ' b' r := fun hb h => by
    obtain rfl | ⟨x, rfl, h1, h2⟩ := h
    · exact Or.inl rfl
    · exact Or.inr ⟨x, rfl, by omega, hk _ _ h2⟩
  refine ⟨fun fs e => ?_, fun fs e => ?_, h2, h3, h4, h5, fun n f e => ?_, fun n f e => ?_, h8⟩
  · obtain ⟨c, lo, hi, bd, r, q1, q2⟩ := h0 fs e
    exact ⟨c, lo, hi, bd, r, q1, orm (Nat.le_refl _) q2⟩
  · obtain ⟨i1, i2, i3, i4, i5, l, i6, q1, q2, q3, q4⟩ := h1 fs e
    exact ⟨i1, i2, i3, i4, i5, l, i6, q1, q2, hk _ _ q3, hk _ _ q4⟩
  · obtain ⟨g, q1, q2⟩ := h6 n f e
    refine ⟨g, q1, fun i => ?_⟩
    obtain q | ⟨b, q, q3⟩ := q2 i
    · exact Or.inl q
    · exact Or.inr ⟨b, q, hk _ _ q3⟩
  · obtain ⟨g, q1, q2⟩ := h7 n f e
    exact ⟨g, q1, fun i => orm hw (q2 i)⟩
theorem ci_grow {X w w' : Nat} {h H : AH} (hc : CI X w h) (hw : w ≤ w') (hold : ∀ q, q < h.2.1 → H.1 q = h.1 q) (hsz : h.2.1 ≤ H.2.1) (hnew : ∀ q e, h.2.1 ≤ q → H.1 q = some e → okc X w' (kd H) q e) (hend : ∀ q, H.2.1 ≤ q → H.1 q = none) (hkn : ∀ q c, h.2.1 ≤ q → kd H q = some (.inl c) → c < 2 → X + 26 ≤ q) : CI X w' H := by
  obtain ⟨c1, c2, c3, c4, c5⟩ := hc
  have hk : ∀ q, q < h.2.1 → kd H q = kd h q := fun q hq => by simp only [kd, hold q hq]
  have hk2 : ∀ q k, kd h q = some k → kd H q = some k := fun q k hq => by
    have : q < h.2.1 := by
      rcases Nat.lt_or_ge q h.2.1 with l | l
      · exact l
      · simp only [kd, c4 q l] at hq
        cases hq
    rw [hk q this]; exact hq
  refine ⟨fun q e hq hr => ?_, ⟨hk2 _ _ c2.1, hk2 _ _ c2.2.1, hk2 _ _ c2.2.2.1, hk2 _ _ c2.2.2.2.1, hk2 _ _ c2.2.2.2.2.1, hk2 _ _ c2.2.2.2.2.2⟩, fun q c hq hcc => ?_, hend, by omega⟩
  · rcases Nat.lt_or_ge q h.2.1 with l | l
    · rw [hold q l] at hq
      exact okc_mono hw hk2 (c1 q e hq hr)
    · exact hnew q e l hq
  · rcases Nat.lt_or_ge q h.2.1 with l | l
    · rw [hk q l] at hq
      exact c3 q c hq hcc
    · exact hkn q c l hq hcc
theorem st_of {X w : Nat} {h : AH} (hc : CI X w h) : ST X w (kd h) h.2 h.1 h := ⟨hc, rfl, rfl, fun _ _ _ => rfl⟩
/-- what a call of the class leaves -/
def CP (X w : Nat) (h : AH) (H : AH) : Prop := ∃ w', w ≤ w' ∧ CI X w' H ∧ w' ≤ H.2.1 ∧ H.2.1 ≤ h.2.1 + 3 ∧ H.2.2 ≤ h.2.2 + 40 ∧ ∀ q, X + 6 ≤ q → q ≤ X + 25 → H.1 q = h.1 q
theorem cp_so {ρ : Type} {X w : Nat} {h : AH} {comp : Option (ρ × AH)} {Q : ρ → Prop} (hw : w ≤ h.2.1) (hs : SO X w (kd h) h.2 h.1 comp Q) : OH comp (fun r H => Q r ∧ CP X w h H) := by
  obtain ⟨r, H, e, ⟨c1, c2, c3, c4⟩, q⟩ := hs
  exact ⟨r, H, e, q, w, Nat.le_refl _, c1, by rw [c3]; exact hw, by rw [c3]; omega, by rw [c3]; omega, c4⟩
theorem t_freeSlot {X w : Nat} {κ : KD} {z : Nat × Nat} {mm : Nat → Option AE} {h : AH} (hs : ST X w κ z mm h) : SO X w κ z mm (f_D_freeSlot X h) (fun r => r = -1 ∨ ∃ j, j < 64 ∧ r = nI j) := by
  have key : ∀ (n j : Nat) (h : AH), j ≤ 64 → 64 - j < n → ST X w κ z mm h → SO X w κ z mm (f_D_freeSlot_b2 n X (nI j) h) (fun r => r = -1 ∨ ∃ j, j < 64 ∧ r = nI j) := by
    intro n
    induction n with
    | zero => intro j h _ h2; omega
    | succ n ih =>
      intro j h hj hn hs
      rw [f_D_freeSlot_b2]
      have hX := (st_X hs).2.2.2.2.2
      refine so_dR2 hs (so_gN hs hX (so_if (fun _ => so_ret hs (Or.inl rfl)) (fun hlt => ?_)))
      rw [nI_leI (by omega) (by omega)] at hlt
      rw [nI_1]
      exact so_dR2 hs (so_lR2 hs hX (by omega) (by omega) (by omega) (fun r hr => so_if (fun _ => so_ret hs (Or.inr ⟨j, by omega, rfl⟩)) (fun _ => ih (j + 1) _ (by omega) (by omega) hs)))
  unfold f_D_freeSlot
  exact key 2000 0 h (by omega) (by omega) hs
