/-! the two makers -/
theorem V_init_ok {h : AH} {a : Nat} (hf : h.1 a = some (.inr (2, [.null, .null]))) (hz : h.2.1 = a + 1) : OH (f_V_init a h) (fun _ H => H.1 a = some (.inr (2, [.ref (a + 1), .ref (a + 2)])) ∧ H.1 (a + 1) = some (.inl (0, 8, fun _ => .long 0)) ∧ H.1 (a + 2) = some (.inl (1, 8, fun _ => .int 0)) ∧ (∀ q, q ≠ a → q ≠ a + 1 → q ≠ a + 2 → H.1 q = h.1 q) ∧ H.2.1 = a + 3 ∧ H.2.2 = h.2.2 + 16) := by
  unfold f_V_init
  refine oh_nA 8 rfl (by omega) (fun H1 f1 o1 z1 y1 => ?_)
  rw [hz] at f1 o1 z1 ⊢
  have g1 : H1.1 a = _ := (o1 a (by omega)).trans hf
  refine oh_pF g1 (Nat.le_of_ble_eq_true rfl) (fun H2 f2 o2 z2 => ?_)
  have e2 : H2.2.1 = a + 2 := by rw [z2, z1]
  refine oh_nA 8 rfl (by omega) (fun H3 f3 o3 z3 y3 => ?_)
  rw [e2] at f3 o3 z3 ⊢
  have g3 : H3.1 a = _ := (o3 a (by omega)).trans f2
  refine oh_pF g3 (Nat.le_of_ble_eq_true rfl) (fun H4 f4 o4 z4 => ?_)
  refine oh_ret ⟨f4, ?_, ?_, fun q q1 q2 q3 => ?_, by rw [z4, z3], by rw [z4, y3, z2, y1]⟩
  · rw [o4 _ (by omega), o3 _ (by omega), o2 _ (by omega)]; exact f1
  · rw [o4 _ (by omega)]; exact f3
  · rw [o4 _ q1, o3 _ q3, o2 _ q1, o1 _ q2]
def DB (X : Nat) (h H : AH) : Prop := H.1 X = some (.inr (3, dkf X 0 0 0)) ∧ H.1 (X + 1) = some (.inr (2, [.ref (X + 2), .ref (X + 3)])) ∧ H.1 (X + 2) = some (.inl (0, 8, fun _ => .long 0)) ∧ H.1 (X + 3) = some (.inl (1, 8, fun _ => .int 0)) ∧ H.1 (X + 4) = some (.inl (2, 6, fun _ => .null)) ∧ H.1 (X + 5) = some (.inl (2, 64, fun _ => .null)) ∧ (∀ q, (q < X ∨ X + 5 < q) → H.1 q = h.1 q) ∧ H.2.1 = X + 6 ∧ H.2.2 = h.2.2 + 88
theorem D_init_ok {h : AH} {X : Nat} (hf : h.1 X = some (.inr (3, [.null, .null, .null, .int 0, .int 0, .int 0]))) (hz : h.2.1 = X + 1) : OH (f_D_init X h) (fun _ H => DB X h H) := by
  unfold f_D_init
  refine oh_nO (fun H1 f1 o1 z1 y1 => ?_)
  rw [hz] at f1 o1 z1 ⊢
  refine oh_bndU (V_init_ok f1 z1) ?_
  rintro H2 ⟨g1, g2, g3, g4, g5, g6⟩
  have d2 : H2.1 X = _ := ((g4 X (by omega) (by omega) (by omega)).trans (o1 X (by omega))).trans hf
  refine oh_pF d2 (Nat.le_of_ble_eq_true rfl) (fun H3 f3 o3 z3 => ?_)
  have e3 : H3.2.1 = X + 4 := by rw [z3, g5]
  refine oh_nA 6 rfl (by omega) (fun H4 f4 o4 z4 y4 => ?_)
  rw [e3] at f4 o4 z4 ⊢
  have d4 : H4.1 X = _ := (o4 X (by omega)).trans f3
  refine oh_pF d4 (Nat.le_of_ble_eq_true rfl) (fun H5 f5 o5 z5 => ?_)
  have e5 : H5.2.1 = X + 5 := by rw [z5, z4]
  refine oh_nA 64 rfl (by omega) (fun H6 f6 o6 z6 y6 => ?_)
  rw [e5] at f6 o6 z6 ⊢
  have d6 : H6.1 X = _ := (o6 X (by omega)).trans f5
  refine oh_pF d6 (Nat.le_of_ble_eq_true rfl) (fun H7 f7 o7 z7 => ?_)
  refine oh_pF f7 (Nat.le_of_ble_eq_true rfl) (fun H8 f8 o8 z8 => ?_)
  refine oh_pF f8 (Nat.le_of_ble_eq_true rfl) (fun H9 f9 o9 z9 => ?_)
  refine oh_pF f9 (Nat.le_of_ble_eq_true rfl) (fun H10 f10 o10 z10 => ?_)
  have up : ∀ q, q ≠ X → H10.1 q = H6.1 q := fun q hq => by rw [o10 q hq, o9 q hq, o8 q hq, o7 q hq]
  refine oh_ret ⟨f10, ?_, ?_, ?_, ?_, ?_, fun q hq => ?_, by rw [z10, z9, z8, z7, z6], by rw [z10, z9, z8, z7, y6, z5, y4, z3, g6, y1]; rfl⟩
  · rw [up _ (by omega), o6 _ (by omega), o5 _ (by omega), o4 _ (by omega), o3 _ (by omega)]; exact g1
  · rw [up _ (by omega), o6 _ (by omega), o5 _ (by omega), o4 _ (by omega), o3 _ (by omega)]; exact g2
  · rw [up _ (by omega), o6 _ (by omega), o5 _ (by omega), o4 _ (by omega), o3 _ (by omega)]; exact g3
  · rw [up _ (by omega), o6 _ (by omega), o5 _ (by omega)]; exact f4
  · rw [up _ (by omega)]; exact f6
  · rw [up _ (by omega), o6 _ (by omega), o5 _ (by omega), o4 _ (by omega), o3 _ (by omega), g4 _ (by omega) (by omega) (by omega), o1 _ (by omega)]
def m_0 : MS := (fun _ => 0, fun _ _ => 0, fun _ _ => 0)
def ml (M d : Nat) : List Value := [.int 0, .int 0, .int 0] ++ (List.range 19).map (fun i => if i < d then .ref (M + (i + 1)) else .null)
def msum : Nat → Nat
  | 0 => 0
  | d + 1 => msum d + mN (d + 1)
def MB (M d : Nat) (h H : AH) : Prop := H.1 M = some (.inr (4, ml M d)) ∧ (∀ i, 1 ≤ i → i ≤ d → H.1 (M + i) = some (.inl (mT i, mN i, mval m_0 i))) ∧ (∀ q, (q < M ∨ M + d < q) → H.1 q = h.1 q) ∧ H.2.1 = M + d + 1 ∧ H.2.2 = h.2.2 + msum d
theorem mb_step {ρ : Type} {P : ρ → AH → Prop} {M d k t : Nat} {n : Int32} {dv : Value} {h H : AH} {K : AH → Option (ρ × AH)} (hB : MB M d h H) (hk : k = d + 3) (hd : d < 19) (ht : mT (d + 1) = t) (hn : n = nI (mN (d + 1))) (hdv : (fun _ => dv) = mval m_0 (d + 1)) (hset : (ml M d).set k (.ref (M + (d + 1))) = ml M (d + 1)) (hK : ∀ H', MB M (d + 1) h H' → OH (K H') P) : OH (nAk H t n dv (fun a h => (pF h 4 k (some M) (.ref a)).bind K)) P := by
  obtain ⟨b1, b2, b3, b4, b5⟩ := hB
  have hN : mN (d + 1) ≤ 100000 := by unfold mN; (repeat' split) <;> omega
  refine oh_nA (mN (d + 1)) hn hN (fun H1 f1 o1 z1 y1 => ?_)
  rw [b4] at f1 o1 z1 ⊢
  have g1 : H1.1 M = _ := (o1 M (by omega)).trans b1
  refine oh_pF g1 (by simp [ml]; omega) (fun H2 f2 o2 z2 => ?_)
  refine hK H2 ⟨?_, fun i h1 h2 => ?_, fun q hq => ?_, by rw [z2, z1]; omega, by rw [z2, y1, b5]; show _ = h.2.2 + (msum d + mN (d + 1)); omega⟩
  · rw [f2, show M + d + 1 = M + (d + 1) by omega, hset]
  · rw [o2 _ (by omega)]
    by_cases e : i = d + 1
    · subst e
      rw [show M + (d + 1) = M + d + 1 by omega, f1, hdv, ht]
    · rw [o1 _ (by omega)]
      exact b2 i h1 (by omega)
  · rw [o2 _ (by omega), o1 _ (by omega)]
    exact b3 q (by omega)
set_option maxRecDepth 4000 in
theorem M_init_ok {h : AH} {M : Nat} (hf : h.1 M = some (.inr (4, ml M 0))) (hz : h.2.1 = M + 1) : OH (f_M_init M h) (fun _ H => MB M 19 h H) := by
  unfold f_M_init
  have hB : MB M 0 h h := ⟨hf, fun i h1 h2 => by omega, fun _ _ => rfl, by omega, rfl⟩
  refine mb_step hB rfl (by omega) rfl rfl rfl rfl (fun h hB => ?_)
  refine mb_step hB rfl (by omega) rfl rfl rfl rfl (fun h hB => ?_)
  refine mb_step hB rfl (by omega) rfl rfl rfl rfl (fun h hB => ?_)
  refine mb_step hB rfl (by omega) rfl rfl rfl rfl (fun h hB => ?_)
  refine mb_step hB rfl (by omega) rfl rfl rfl rfl (fun h hB => ?_)
  refine mb_step hB rfl (by omega) rfl rfl rfl rfl (fun h hB => ?_)
  refine mb_step hB rfl (by omega) rfl rfl rfl rfl (fun h hB => ?_)
  refine mb_step hB rfl (by omega) rfl rfl rfl rfl (fun h hB => ?_)
  refine mb_step hB rfl (by omega) rfl rfl rfl rfl (fun h hB => ?_)
  refine mb_step hB rfl (by omega) rfl rfl rfl rfl (fun h hB => ?_)
  refine mb_step hB rfl (by omega) rfl rfl rfl rfl (fun h hB => ?_)
  refine mb_step hB rfl (by omega) rfl rfl rfl rfl (fun h hB => ?_)
  refine mb_step hB rfl (by omega) rfl rfl rfl rfl (fun h hB => ?_)
  refine mb_step hB rfl (by omega) rfl rfl rfl rfl (fun h hB => ?_)
  refine mb_step hB rfl (by omega) rfl rfl rfl rfl (fun h hB => ?_)
  refine mb_step hB rfl (by omega) rfl rfl rfl rfl (fun h hB => ?_)
  refine mb_step hB rfl (by omega) rfl rfl rfl rfl (fun h hB => ?_)
  refine mb_step hB rfl (by omega) rfl rfl rfl rfl (fun h hB => ?_)
  refine mb_step hB rfl (by omega) rfl rfl rfl rfl (fun h hB => ?_)
  exact oh_ret hB
theorem ml_obj (M : Nat) : ml M 19 = mobj M m_0 := rfl
/-- the law's loop: i calls are done -/
def LI (X i : Nat) (h : AH) : Prop := ∃ w m b c k, CI X w h ∧ w ≤ h.2.1 ∧ h.2.1 ≤ X + 26 + 3 * i ∧ h.2.2 ≤ 28268 + 40 * i ∧ MH (X + 6) m h ∧ MI b c k m ∧ b ≤ i ∧ c ≤ i
def LJ (X i : Nat) (h : AH) : Prop := ∃ w m b c k, CI X w h ∧ w ≤ h.2.1 ∧ h.2.1 ≤ X + 26 + 3 * (i + 1) ∧ h.2.2 ≤ 28268 + 40 * (i + 1) ∧ MH (X + 6) m h ∧ MI b c k m ∧ b ≤ i ∧ c ≤ i
theorem kd_MH {M : Nat} {m m' : MS} {h h' : AH} (a : MH M m h) (b : MH M m' h') {q : Nat} (h1 : M ≤ q) (h2 : q ≤ M + 19) : kd h' q = kd h q := by
  obtain ⟨d, rfl⟩ : ∃ d, q = M + d := ⟨q - M, by omega⟩
  cases d with
  | zero =>
    simp only [kd, Nat.add_zero]
    rw [a.1, b.1]
    rfl
  | succ d =>
    simp only [kd]
    rw [a.2 (d + 1) (by omega) (by omega), b.2 (d + 1) (by omega) (by omega)]
    rfl
theorem ci_model {X w : Nat} {m m' : MS} {h h' : AH} (hc : CI X w h) (a : MH (X + 6) m h) (b : MH (X + 6) m' h') (hF : Fr (X + 6) h h') : CI X w h' := by
  have hkd : kd h' = kd h := by
    funext q
    by_cases hq : q < X + 6 ∨ X + 25 < q
    · simp only [kd]
      rw [hF.1 q (by omega)]
    · exact kd_MH a b (by omega) (by omega)
  obtain ⟨c1, c2, c3, c4, c5⟩ := hc
  refine ⟨fun q e hq hr => ?_, by rw [hkd]; exact c2, by rw [hkd]; exact c3, fun q hq => ?_, by rw [hF.2]; exact c5⟩
  · rw [hkd]
    rw [hF.1 q (by omega)] at hq
    exact c1 q e hq hr
  · rw [hF.2] at hq
    rw [hF.1 q (by omega)]
    exact c4 q hq
section LAW
variable {X i L : Nat} {xs : Nat → Int32} {h : AH} {P : Int32 → AH → Prop}
theorem oh_sE {x : Int32} {K : Int32 → Option (Int32 × AH)} (j : Nat) (hx : x = nI j) (hj : j < L) (hL : L ≤ 4608) (hk : OH (K (xs j)) P) : OH ((sE L xs x).bind K) P := by
  subst hx
  have e : sE L xs (nI j) = some (xs j) := by
    unfold sE
    rw [nI_clamp (by omega), if_neg]
    rintro (q | q)
    · exact nI_pos (by omega) q
    · omega
  rw [e]
  exact hk
theorem li_rcvD {K : Nat → Option (Int32 × AH)} (hl : LI X i h) (hk : OH (K X) P) : OH (rcv h 3 (some X) K) P := by
  obtain ⟨w, m, b, c, k, hc, -⟩ := hl
  obtain ⟨fs, hf⟩ := kd_obj hc.2.1.1
  exact oh_rcv hf hk
theorem lj_rcvM {K : Nat → Option (Int32 × AH)} (hl : LJ X i h) (hk : OH (K (X + 6)) P) : OH (rcv h 4 (some (X + 6)) K) P := by
  obtain ⟨w, m, b, c, k, -, -, -, -, hm, -⟩ := hl
  exact oh_rcv hm.1 hk
theorem lj_of {w : Nat} {m : MS} {b c k : Nat} {H : AH} (h3 : h.2.1 ≤ X + 26 + 3 * i) (h4 : h.2.2 ≤ 28268 + 40 * i) (hm : MH (X + 6) m h) (hi : MI b c k m) (hb : b ≤ i) (hcc : c ≤ i) (hp : CP X w h H) : LJ X i H := by
  obtain ⟨w', p1, p2, p3, p4, p5, p6⟩ := hp
  refine ⟨w', m, b, c, k, p2, p3, by omega, by omega, ⟨?_, fun d d1 d2 => ?_⟩, hi, hb, hcc⟩
  · rw [p6 _ (by omega) (by omega)]; exact hm.1
  · rw [p6 _ (by omega) (by omega)]; exact hm.2 d d1 d2
theorem li_D {σ : Type} {Qd : σ → Prop} {cd : Option (σ × AH)} {K : σ → AH → Option (Int32 × AH)} (hi5 : i ≤ 511) (hl : LI X i h) (hd : ∀ w, CI X w h → w ≤ h.2.1 → w ≤ X + 1900 → OH cd (fun r H => Qd r ∧ CP X w h H)) (hK : ∀ r H, Qd r → LJ X i H → OH (K r H) P) : OH (bnd cd K) P := by
  obtain ⟨w, m, b, c, k, h1, h2, h3, h4, hm, hi, hb, hcc⟩ := hl
  refine oh_bnd (hd w h1 h2 (by omega)) ?_
  rintro r H ⟨hq, hp⟩
  exact hK r H hq (lj_of h3 h4 hm hi hb hcc hp)
theorem li_DU {Qd : Unit → Prop} {cd : Option (Unit × AH)} {K : AH → Option (Int32 × AH)} (hi5 : i ≤ 511) (hl : LI X i h) (hd : ∀ w, CI X w h → w ≤ h.2.1 → w ≤ X + 1900 → OH cd (fun r H => Qd r ∧ CP X w h H)) (hK : ∀ H, LJ X i H → OH (K H) P) : OH (bndU cd K) P := by
  obtain ⟨w, m, b, c, k, h1, h2, h3, h4, hm, hi, hb, hcc⟩ := hl
  refine oh_bndU (hd w h1 h2 (by omega)) ?_
  rintro H ⟨hq, hp⟩
  exact hK H (lj_of h3 h4 hm hi hb hcc hp)
/-- what a call of the reference leaves -/
abbrev mq {τ : Type} (i : Nat) (Qm : τ → Prop) : τ → MS → Prop := fun r m' => Qm r ∧ ∃ b' c' k', b' ≤ i + 1 ∧ c' ≤ i + 1 ∧ MI b' c' k' m'
theorem lj_M {τ : Type} {Qm : τ → Prop} {cf : Option (τ × AH)} {cg : MS → Option (τ × MS)} (hl : LJ X i h) (h2 : ∀ m, M2 (X + 6) h m cf (cg m)) (hok : ∀ m b c k, MI b c k m → b ≤ i → c ≤ i → OK (cg m) (mq i Qm)) : OH cf (fun r H => Qm r ∧ LI X (i + 1) H) := by
  obtain ⟨w, m, b, c, k, h1, hw, h3, h4, hm, hi, hb, hcc⟩ := hl
  obtain ⟨r, m', e, hq, b', c', k', hb', hc', hi'⟩ := hok m b c k hi hb hcc
  obtain ⟨H, e2, hm2, hF⟩ := h2 m hm r m' e
  exact ⟨r, H, e2, hq, w, m', b', c', k', ci_model h1 hm hm2 hF, by rw [hF.2]; exact hw, by rw [hF.2]; exact h3, by rw [hF.2]; exact h4, hm2, hi', hb', hc'⟩
end LAW
