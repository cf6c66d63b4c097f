/-! drop, in the reference: where everything comes to lie -/
theorem ok_and {ρ : Type} {cg : Option (ρ × MS)} {Q1 Q2 : ρ → MS → Prop} (a : OK cg Q1) (b : OK cg Q2) : OK cg (fun r m => Q1 r m ∧ Q2 r m) := by
  obtain ⟨r, m1, e, q⟩ := a
  obtain ⟨r2, m2, e2, q2⟩ := b
  rw [e] at e2
  cases e2
  exact ⟨r, m1, e, q, q2⟩
/-- after the move of place a to place b, the first u tables and the first z ranges -/
def MvR (m m' : MS) (a b u z : Nat) : Prop := (∀ d, 1 ≤ d → d ≤ 6 → ∀ i, m'.2.1 d i = if i = b then m.2.1 d a else m.2.1 d i) ∧ (∀ y, m'.2.1 8 y = if y / 8 = b ∧ y % 8 < u then m.2.1 8 (8 * a + y % 8) else m.2.1 8 y) ∧ (∀ y, en m' y = if y / 64 = b ∧ y % 64 < z then en m (64 * a + y % 64) else en m y) ∧ (∀ d, d = 7 ∨ 10 < d → m'.2.1 d = m.2.1 d) ∧ (∀ d, d ≠ 11 → d ≠ 12 → m'.2.2 d = m.2.2 d) ∧ m'.1 = m.1
theorem r_move {m : MS} (hz : ∀ i, m.2.1 5 i = 0 ∨ m.2.1 5 i = 1) {a b : Nat} (ha : a < 64) (hb : b < 64) : OK (g_M_move (nI a) (nI b) m) (fun _ m' => MvR m m' a b 8 64) := by
  have h110 : ∀ (n j : Nat) (m1 : MS), j ≤ 64 → 64 - j < n → MvR m m1 a b 8 j → OK (g_M_move_b110 n (nI a) (nI b) (nI j) m1) (fun _ m' => MvR m m' a b 8 64) := by
    intro n
    induction n with
    | zero => intro j m1 _ h; omega
    | succ n ih =>
      intro j m1 hj hn h
      rw [g_M_move_b110]
      refine ok_if (fun hle => ok_ret ?_) (fun hlt => ?_)
      · rw [show (64 : Int32) = nI 64 from rfl, nI_leI (by omega) (by omega)] at hle
        rw [show j = 64 by omega] at h
        exact h
      rw [show (64 : Int32) = nI 64 from rfl, nI_leI (by omega) (by omega)] at hlt
      refine ok_rI (64 * a + j) (ix64 a j) (by show 64 * a + j < 4096; omega) (ok_rJ (64 * a + j) (ix64 a j) (by show 64 * a + j < 4096; omega) (ok_rJ (64 * a + j) (ix64 a j) (by show 64 * a + j < 4096; omega) (ok_rI (64 * a + j) (ix64 a j) (by show 64 * a + j < 4096; omega) ?_)))
      refine ok_bnU (by rw [ix64]; exact r_setRange (j := 64 * b + j) (by omega) _ _ _ _) ?_
      rintro m2 rfl
      rw [nI_1]
      obtain ⟨h1, h2, h3, h4, h5, h6⟩ := h
      refine ih (j + 1) _ (by omega) (by omega) ⟨fun d d1 d2 i => ?_, fun y => ?_, fun y => ?_, fun d hd => ?_, fun d d1 d2 => ?_, h6⟩
      · rw [setz_ne (by omega) (by omega)]; exact h1 d d1 d2 i
      · rw [setz_ne (by omega) (by omega)]; exact h2 y
      · rw [setz_en]
        have e1 : ((m1.2.1 9 (64 * a + j), m1.2.1 10 (64 * a + j), m1.2.2 11 (64 * a + j), m1.2.2 12 (64 * a + j)) : RG) = en m1 (64 * a + j) := rfl
        have e3 : en m1 (64 * a + j) = en m (64 * a + j) := by rw [h3, if_neg (by omega)]
        rw [e1, e3, h3 y]
        by_cases e : y = 64 * b + j
        · subst e
          rw [if_pos rfl, if_pos ⟨by omega, by omega⟩]
          congr 1
          omega
        · rw [if_neg e]
          by_cases e2 : y / 64 = b ∧ y % 64 < j
          · rw [if_pos e2, if_pos ⟨e2.1, by omega⟩]
          · rw [if_neg e2, if_neg (by omega)]
      · rw [setz_ne (by omega) (by omega)]; exact h4 d hd
      · have : (setz m1 (64 * b + j) (m1.2.1 9 (64 * a + j), m1.2.1 10 (64 * a + j), m1.2.2 11 (64 * a + j), m1.2.2 12 (64 * a + j))).2.2 d = m1.2.2 d := by simp [setz, sI, sJ, d1, d2]
        rw [this]; exact h5 d d1 d2
  have h74 : ∀ (n j : Nat) (m1 : MS), j ≤ 8 → 8 - j < n → MvR m m1 a b j 0 → OK (g_M_move_b74 n (nI a) (nI b) (nI j) m1) (fun _ m' => MvR m m' a b 8 64) := by
    intro n
    induction n with
    | zero => intro j m1 _ h; omega
    | succ n ih =>
      intro j m1 hj hn h
      rw [g_M_move_b74]
      refine ok_if (fun hle => ?_) (fun hlt => ?_)
      · rw [show (8 : Int32) = nI 8 from rfl, nI_leI (by omega) (by omega)] at hle
        rw [show j = 8 by omega] at h
        exact h110 2000 0 m1 (by omega) (by omega) h
      rw [show (8 : Int32) = nI 8 from rfl, nI_leI (by omega) (by omega)] at hlt
      refine ok_rI (8 * a + j) (ix8 a j) (by show 8 * a + j < 512; omega) (ok_wI (8 * b + j) (ix8 b j) (by show 8 * b + j < 512; omega) ?_)
      rw [nI_1]
      obtain ⟨h1, h2, h3, h4, h5, h6⟩ := h
      refine ih (j + 1) _ (by omega) (by omega) ⟨fun d d1 d2 i => ?_, fun y => ?_, fun y => ?_, fun d hd => ?_, fun d d1 d2 => h5 d d1 d2, h6⟩
      · rw [sI_ne (by omega)]; exact h1 d d1 d2 i
      · have e3 : m1.2.1 8 (8 * a + j) = m.2.1 8 (8 * a + j) := by rw [h2, if_neg (by omega)]
        rw [sI_at, e3, h2 y]
        by_cases e : y = 8 * b + j
        · subst e
          rw [if_pos rfl, if_pos ⟨by omega, by omega⟩, show (8 * b + j) % 8 = j by omega]
        · rw [if_neg e]
          by_cases e2 : y / 8 = b ∧ y % 8 < j
          · rw [if_pos e2, if_pos ⟨e2.1, by omega⟩]
          · rw [if_neg e2, if_neg (by omega)]
      · rw [en_s8]; exact h3 y
      · rw [sI_ne (by omega)]; exact h4 d hd
  unfold g_M_move
  refine ok_rI a rfl ha (ok_wI b rfl hb (ok_rI a rfl ha (ok_wI b rfl hb (ok_rI a rfl ha (ok_wI b rfl hb (ok_rI a rfl ha (ok_wI b rfl hb (ok_rI a rfl ha (ok_wZ b rfl hb ?_ (ok_rI a rfl ha (ok_wI b rfl hb ?_)))))))))))
  · rw [sI_ne (by decide), sI_ne (by decide), sI_ne (by decide), sI_ne (by decide)]; exact hz a
  refine h74 2000 0 _ (by omega) (by omega) ⟨fun d d1 d2 i => ?_, fun y => ?_, fun y => ?_, fun d hd => ?_, fun _ _ _ => rfl, rfl⟩
  · rcases (show d = 1 ∨ d = 2 ∨ d = 3 ∨ d = 4 ∨ d = 5 ∨ d = 6 by omega) with rfl | rfl | rfl | rfl | rfl | rfl <;> simp [sI]
  · rw [if_neg (by omega)]; simp [sI]
  · rw [if_neg (by omega)]; simp [en, sI]
  · rw [sI_ne (by omega), sI_ne (by omega), sI_ne (by omega), sI_ne (by omega), sI_ne (by omega), sI_ne (by omega)]
