/-! EACH CALL AS A STEP of the state by ids: answer and next state -/
def Fine (i : Nat) (A : Ab) : Prop := AI A ∧ HV A ∧ aB A ≤ i ∧ aC A ≤ i
def noRun (A : Ab) (s : Int32) : Prop := ∀ q, ¬ Run A s q
def Sbegin (s : Int32) (A : Ab) (r : Int32) (B : Ab) : Prop := ((¬ s < 0 ∧ ¬ 6 ≤ s ∧ noRun A s ∧ card A ≠ 64) ∧ r = nI (aB A + 1) ∧ B = bgA A s) ∨ ((s < 0 ∨ 6 ≤ s ∨ (∃ q, Run A s q) ∨ card A = 64) ∧ r = -1 ∧ B = A)
def colOk (x3 x8 : Int32) : Prop := x3 = -1 ∨ (¬ x3 < 0 ∧ ¬ 7 < x3 ∧ ¬ x8 < 0 ∧ x8 ≤ 15)
def Sread (s t x3 : Int32) (x4 x6 : Int64) (x8 : Int32) (A : Ab) (r : Int32) (B : Ab) : Prop := (∃ q j, Run A s q ∧ t = nI j ∧ j < 8 ∧ colOk x3 x8 ∧ B = rdA A q j (x3, x8, x4, x6)) ∨ ((noRun A s ∨ t < 0 ∨ 7 < t ∨ ¬ colOk x3 x8) ∧ r = -1 ∧ B = A)
def Scell (c : Int32) (x : Int64) (A : Ab) (r : Int32) (B : Ab) : Prop := (∃ j, j < 8 ∧ c = nI j ∧ r = 1 ∧ B = ceA A j x) ∨ ((c < 0 ∨ 7 < c) ∧ r = 0 ∧ B = A)
def Swrite (s t : Int32) (A : Ab) (r : Int32) (B : Ab) : Prop := (∃ q j, Run A s q ∧ t = nI j ∧ j < 8 ∧ B = wrA A q j ∧ say (aD B q) r) ∨ ((noRun A s ∨ t < 0 ∨ 7 < t) ∧ r = 0 ∧ B = A)
def Smiss (s x : Int32) (A : Ab) (r : Int32) (B : Ab) : Prop := (∃ q, Run A s q ∧ ((canMiss A q x ∧ B = msA A q x) ∨ (¬ canMiss A q x ∧ B = A)) ∧ say (aD B q) r) ∨ (noRun A s ∧ r = 0 ∧ B = A)
def Scommit (s : Int32) (A : Ab) (r : Int32) (B : Ab) : Prop := (∃ q, Run A s q ∧ ¬ aD A q ∧ r = nI (aC A + 1) ∧ B = cmA A q) ∨ (∃ q, Run A s q ∧ aD A q ∧ r = 0 ∧ B = A) ∨ (noRun A s ∧ r = -1 ∧ B = A)
def Sabort (s : Int32) (A : Ab) (r : Int32) (B : Ab) : Prop := (∃ q, Run A s q ∧ r = 1 ∧ B = fgA (kpA A (fun z => z ≠ q))) ∨ (noRun A s ∧ r = 0 ∧ B = A)
def Sdoom (s : Int32) (A : Ab) (r : Int32) (B : Ab) : Prop := (∃ q, Run A s q ∧ r = 1 ∧ B = dmA A q) ∨ (noRun A s ∧ r = 0 ∧ B = A)
def Slook (x w : Int32) (A : Ab) (r : Int32) : Prop := ((w < 0 ∨ 5 < w) → r = -1) ∧ (¬ (w < 0 ∨ 5 < w) → (aK A x → lookR A x w r) ∧ (¬ aK A x → r = 0))
def Scount (w : Int32) (A : Ab) (r : Int32) : Prop := r = if w = 0 then nI (card A) else if w = 1 then nI (aB A) else if w = 2 then nI (aC A) else -1
theorem say_det {P : Prop} {r r' : Int32} (h : say P r) (h' : say P r') : r = r' := by
  rcases h with ⟨h1, h2⟩ | ⟨h1, h2⟩ <;> rcases h' with ⟨k1, k2⟩ | ⟨k1, k2⟩
  · rw [h1, k1]
  · exact absurd h2 k2
  · exact absurd k2 h2
  · rw [h1, k1]
section DET
variable {A B B' : Ab} {r r' : Int32}
theorem AI.one (h : AI A) {s p q : Int32} (hp : Run A s p) (hq : Run A s q) : p = q := h.2.2.2.2.1 p q s hp hq
theorem tab_no {t : Int32} {j : Nat} (e : t = nI j) (hj : j < 8) (h : t < 0 ∨ 7 < t) : False := by
  subst e
  rcases h with h | h
  · exact nI_pos (by omega) h
  · rw [show (7 : Int32) = nI 7 from rfl, nI_ltI (by omega) (by omega)] at h; omega
theorem Sbegin_det {s : Int32} (h : Sbegin s A r B) (h' : Sbegin s A r' B') : r = r' ∧ B = B' := by
  have no : (¬ s < 0 ∧ ¬ 6 ≤ s ∧ noRun A s ∧ card A ≠ 64) → ¬ (s < 0 ∨ 6 ≤ s ∨ (∃ q, Run A s q) ∨ card A = 64) := by
    rintro ⟨a, b, c, d⟩ (w | w | ⟨q, w⟩ | w)
    · exact a w
    · exact b w
    · exact c q w
    · exact d w
  rcases h with ⟨h1, h2, h3⟩ | ⟨h1, h2, h3⟩ <;> rcases h' with ⟨k1, k2, k3⟩ | ⟨k1, k2, k3⟩
  · exact ⟨by rw [h2, k2], by rw [h3, k3]⟩
  · exact absurd k1 (no h1)
  · exact absurd h1 (no k1)
  · exact ⟨by rw [h2, k2], by rw [h3, k3]⟩
theorem Sread_det (hA : AI A) {s t x3 : Int32} {x4 x6 : Int64} {x8 : Int32} (h : Sread s t x3 x4 x6 x8 A r B) (h' : Sread s t x3 x4 x6 x8 A r' B') : (noRun A s → r = r') ∧ B = B' := by
  rcases h with ⟨q, j, h1, h2, h3, h4, h5⟩ | ⟨h1, h0, h2⟩ <;> rcases h' with ⟨q', j', k1, k2, k3, k4, k5⟩ | ⟨k1, k0, k2⟩
  · have e := hA.one h1 k1
    have e2 := (nI_eq (by omega) (by omega)).mp (h2.symm.trans k2)
    exact ⟨fun w => absurd h1 (w q), by rw [h5, k5, e, e2]⟩
  · exfalso
    rcases k1 with w | w | w | w
    · exact w q h1
    · exact tab_no h2 h3 (Or.inl w)
    · exact tab_no h2 h3 (Or.inr w)
    · exact w h4
  · exfalso
    rcases h1 with w | w | w | w
    · exact w q' k1
    · exact tab_no k2 k3 (Or.inl w)
    · exact tab_no k2 k3 (Or.inr w)
    · exact w k4
  · exact ⟨fun _ => by rw [h0, k0], by rw [h2, k2]⟩
theorem Scell_det {c : Int32} {x : Int64} (h : Scell c x A r B) (h' : Scell c x A r' B') : r = r' ∧ B = B' := by
  rcases h with ⟨j, h1, h2, h0, h3⟩ | ⟨h1, h0, h2⟩ <;> rcases h' with ⟨j', k1, k2, k0, k3⟩ | ⟨k1, k0, k2⟩
  · have e2 := (nI_eq (by omega) (by omega)).mp (h2.symm.trans k2)
    exact ⟨by rw [h0, k0], by rw [h3, k3, e2]⟩
  · exact (tab_no h2 h1 k1).elim
  · exact (tab_no k2 k1 h1).elim
  · exact ⟨by rw [h0, k0], by rw [h2, k2]⟩
theorem Swrite_det (hA : AI A) {s t : Int32} (h : Swrite s t A r B) (h' : Swrite s t A r' B') : r = r' ∧ B = B' := by
  rcases h with ⟨q, j, h1, h2, h3, h4, h5⟩ | ⟨h1, h2, h3⟩ <;> rcases h' with ⟨q', j', k1, k2, k3, k4, k5⟩ | ⟨k1, k2, k3⟩
  · have e := hA.one h1 k1
    have e2 := (nI_eq (by omega) (by omega)).mp (h2.symm.trans k2)
    subst e e2
    rw [← k4] at h4
    subst h4
    exact ⟨say_det h5 k5, rfl⟩
  · exfalso
    rcases k1 with w | w | w
    · exact w q h1
    · exact tab_no h2 h3 (Or.inl w)
    · exact tab_no h2 h3 (Or.inr w)
  · exfalso
    rcases h1 with w | w | w
    · exact w q' k1
    · exact tab_no k2 k3 (Or.inl w)
    · exact tab_no k2 k3 (Or.inr w)
  · exact ⟨by rw [h2, k2], by rw [h3, k3]⟩
theorem Smiss_det (hA : AI A) {s x : Int32} (h : Smiss s x A r B) (h' : Smiss s x A r' B') : r = r' ∧ B = B' := by
  rcases h with ⟨q, h1, h2, h3⟩ | ⟨h1, h2, h3⟩ <;> rcases h' with ⟨q', k1, k2, k3⟩ | ⟨k1, k2, k3⟩
  · have e := hA.one h1 k1
    subst e
    have eB : B = B' := by
      rcases h2 with ⟨w1, w2⟩ | ⟨w1, w2⟩ <;> rcases k2 with ⟨u1, u2⟩ | ⟨u1, u2⟩
      · rw [w2, u2]
      · exact absurd w1 u1
      · exact absurd u1 w1
      · rw [w2, u2]
    subst eB
    exact ⟨say_det h3 k3, rfl⟩
  · exact absurd h1 (k1 q)
  · exact absurd k1 (h1 q')
  · exact ⟨by rw [h2, k2], by rw [h3, k3]⟩
theorem Scommit_det (hA : AI A) {s : Int32} (h : Scommit s A r B) (h' : Scommit s A r' B') : r = r' ∧ B = B' := by
  rcases h with ⟨q, h1, h2, h3, h4⟩ | ⟨q, h1, h2, h3, h4⟩ | ⟨h1, h3, h4⟩ <;> rcases h' with ⟨q', k1, k2, k3, k4⟩ | ⟨q', k1, k2, k3, k4⟩ | ⟨k1, k3, k4⟩
  · have e := hA.one h1 k1
    subst e
    exact ⟨by rw [h3, k3], by rw [h4, k4]⟩
  · have e := hA.one h1 k1
    subst e
    exact absurd k2 h2
  · exact absurd h1 (k1 q)
  · have e := hA.one h1 k1
    subst e
    exact absurd h2 k2
  · exact ⟨by rw [h3, k3], by rw [h4, k4]⟩
  · exact absurd h1 (k1 q)
  · exact absurd k1 (h1 q')
  · exact absurd k1 (h1 q')
  · exact ⟨by rw [h3, k3], by rw [h4, k4]⟩
theorem Sabort_det (hA : AI A) {s : Int32} (h : Sabort s A r B) (h' : Sabort s A r' B') : r = r' ∧ B = B' := by
  rcases h with ⟨q, h1, h3, h4⟩ | ⟨h1, h3, h4⟩ <;> rcases h' with ⟨q', k1, k3, k4⟩ | ⟨k1, k3, k4⟩
  · have e := hA.one h1 k1
    subst e
    exact ⟨by rw [h3, k3], by rw [h4, k4]⟩
  · exact absurd h1 (k1 q)
  · exact absurd k1 (h1 q')
  · exact ⟨by rw [h3, k3], by rw [h4, k4]⟩
theorem Sdoom_det (hA : AI A) {s : Int32} (h : Sdoom s A r B) (h' : Sdoom s A r' B') : r = r' ∧ B = B' := by
  rcases h with ⟨q, h1, h3, h4⟩ | ⟨h1, h3, h4⟩ <;> rcases h' with ⟨q', k1, k3, k4⟩ | ⟨k1, k3, k4⟩
  · have e := hA.one h1 k1
    subst e
    exact ⟨by rw [h3, k3], by rw [h4, k4]⟩
  · exact absurd h1 (k1 q)
  · exact absurd k1 (h1 q')
  · exact ⟨by rw [h3, k3], by rw [h4, k4]⟩
theorem Slook_det {x w : Int32} (h : Slook x w A r) (h' : Slook x w A r') : r = r' := by
  by_cases hw : w < 0 ∨ 5 < w
  · rw [h.1 hw, h'.1 hw]
  · obtain ⟨a1, a2⟩ := h.2 hw
    obtain ⟨b1, b2⟩ := h'.2 hw
    by_cases hk : aK A x
    · obtain ⟨c0, c1, c2, c3, c4, c5⟩ := a1 hk
      obtain ⟨d0, d1, d2, d3, d4, d5⟩ := b1 hk
      have n0 : ¬ w < 0 := fun z => hw (Or.inl z)
      have n5 : w ≤ 5 := Int32.not_lt.mp (fun z => hw (Or.inr z))
      obtain ⟨j, hj, e⟩ := nI_of2 (n := 5) (M := 5) (by decide) n0 n5
      rcases (show j = 0 ∨ j = 1 ∨ j = 2 ∨ j = 3 ∨ j = 4 ∨ j = 5 by omega) with rfl | rfl | rfl | rfl | rfl | rfl
      · rcases c0 e with ⟨u1, u2⟩ | ⟨u1, u2⟩ <;> rcases d0 e with ⟨v1, v2⟩ | ⟨v1, v2⟩
        · rw [u1, v1]
        · exact absurd u2 v2
        · exact absurd v2 u2
        · rw [u1, v1]
      · exact say_det (c1 e) (d1 e)
      · rw [c2 e, d2 e]
      · rw [c3 e, d3 e]
      · rw [c4 e, d4 e]
      · rw [c5 e, d5 e]
    · rw [a2 hk, b2 hk]
end DET
section FINE
variable {A B : Ab} {r : Int32} {i : Nat}
theorem Fine_up (h : Fine i A) : Fine (i + 1) A := ⟨h.1, h.2.1, Nat.le_succ_of_le h.2.2.1, Nat.le_succ_of_le h.2.2.2⟩
theorem Fine_begin (hi : i ≤ 511) (h : Fine i A) {s : Int32} (hs : Sbegin s A r B) : Fine (i + 1) B := by
  rcases hs with ⟨⟨h1, h2, h3, h4⟩, -, rfl⟩ | ⟨-, -, rfl⟩
  · have := h.2.2.1
    exact ⟨AI_bg h.1 (by omega) h1 h2 h3, HV_bg h.1 (by omega) h.2.1 s, Nat.succ_le_succ h.2.2.1, Nat.le_succ_of_le h.2.2.2⟩
  · exact Fine_up h
theorem Fine_read (h : Fine i A) {s t x3 : Int32} {x4 x6 : Int64} {x8 : Int32} (hs : Sread s t x3 x4 x6 x8 A r B) : Fine (i + 1) B := by
  rcases hs with ⟨q, j, h1, h2, h3, h4, rfl⟩ | ⟨-, -, rfl⟩
  · refine ⟨AI_rd h.1 ?_, HV_same h.2.1 rfl rfl rfl rfl rfl rfl rfl, Nat.le_succ_of_le h.2.2.1, Nat.le_succ_of_le h.2.2.2⟩
    rcases h4 with e | ⟨w1, w2, -⟩
    · exact Or.inl (by show x3 < 0; rw [e]; decide)
    · obtain ⟨y, hy, e⟩ := nI_of2 (n := 7) (M := 7) (by decide) w1 (Int32.not_lt.mp w2)
      exact Or.inr ⟨y, by omega, e⟩
  · exact Fine_up h
theorem Fine_cell (h : Fine i A) {c : Int32} {x : Int64} (hs : Scell c x A r B) : Fine (i + 1) B := by
  rcases hs with ⟨j, -, -, -, rfl⟩ | ⟨-, -, rfl⟩
  · exact ⟨AI_ce h.1 _ _, HV_same h.2.1 rfl rfl rfl rfl rfl rfl rfl, Nat.le_succ_of_le h.2.2.1, Nat.le_succ_of_le h.2.2.2⟩
  · exact Fine_up h
theorem Fine_clear (h : Fine i A) : Fine (i + 1) (clA A) := ⟨AI_cl h.1, HV_same h.2.1 rfl rfl rfl rfl rfl rfl rfl, Nat.le_succ_of_le h.2.2.1, Nat.le_succ_of_le h.2.2.2⟩
theorem Fine_write (h : Fine i A) {s t : Int32} (hs : Swrite s t A r B) : Fine (i + 1) B := by
  rcases hs with ⟨q, j, h1, -, -, rfl, -⟩ | ⟨-, -, rfl⟩
  · exact ⟨AI_wr h.1 _ _, HV_wr h.1 h.2.1 h1 _, Nat.le_succ_of_le h.2.2.1, Nat.le_succ_of_le h.2.2.2⟩
  · exact Fine_up h
theorem Fine_miss (h : Fine i A) {s x : Int32} (hs : Smiss s x A r B) : Fine (i + 1) B := by
  rcases hs with ⟨q, h1, ⟨h2, rfl⟩ | ⟨-, rfl⟩, -⟩ | ⟨-, -, rfl⟩
  · exact ⟨AI_ms h.1 h2.1, HV_ms h.1 h.2.1 h1 h2, Nat.le_succ_of_le h.2.2.1, Nat.le_succ_of_le h.2.2.2⟩
  · exact Fine_up h
  · exact Fine_up h
theorem Fine_commit (hi : i ≤ 511) (h : Fine i A) {s : Int32} (hs : Scommit s A r B) : Fine (i + 1) B := by
  have := h.2.2.2
  rcases hs with ⟨q, h1, h2, -, rfl⟩ | ⟨q, -, -, -, rfl⟩ | ⟨-, -, rfl⟩
  · exact ⟨AI_cm h.1 h1 (by omega), HV_cm h.1 h.2.1 (by omega) h1 h2, Nat.le_succ_of_le h.2.2.1, Nat.succ_le_succ h.2.2.2⟩
  · exact Fine_up h
  · exact Fine_up h
theorem Fine_abort (h : Fine i A) {s : Int32} (hs : Sabort s A r B) : Fine (i + 1) B := by
  rcases hs with ⟨q, h1, -, rfl⟩ | ⟨-, -, rfl⟩
  · exact ⟨AI_fg (AI_kp h.1 _), HV_fg (HV_ab h.1 h.2.1 h1), Nat.le_succ_of_le h.2.2.1, Nat.le_succ_of_le h.2.2.2⟩
  · exact Fine_up h
theorem Fine_doom (h : Fine i A) {s : Int32} (hs : Sdoom s A r B) : Fine (i + 1) B := by
  rcases hs with ⟨q, -, -, rfl⟩ | ⟨-, -, rfl⟩
  · exact ⟨AI_dm h.1 _, HV_dm h.2.1 _, Nat.le_succ_of_le h.2.2.1, Nat.le_succ_of_le h.2.2.2⟩
  · exact Fine_up h
end FINE
/-- the reference holds A -/
def AM (m : MS) (A : Ab) : Prop := ∃ k, AMk m A k
section ZR
variable {m : MS} {A : Ab} {i : Nat}
theorem run_dec (A : Ab) (s : Int32) : (∃ q, Run A s q) ∨ noRun A s := by
  by_cases h : ∃ q, Run A s q
  · exact Or.inl h
  · exact Or.inr (fun q hq => h ⟨q, hq⟩)
theorem tab_dec (t : Int32) : (∃ j, j < 8 ∧ t = nI j) ∨ t < 0 ∨ 7 < t := by
  by_cases h0 : t < 0
  · exact Or.inr (Or.inl h0)
  · by_cases h7 : 7 < t
    · exact Or.inr (Or.inr h7)
    · obtain ⟨j, hj, e⟩ := nI_of2 (n := 7) (M := 7) (by decide) h0 (Int32.not_lt.mp h7)
      exact Or.inl ⟨j, by omega, e⟩
theorem z_begin (hi : i ≤ 511) (hF : Fine i A) (h : AM m A) (s : Int32) : OK (g_M_begin s m) (fun r m' => ∃ B, Sbegin s A r B ∧ AM m' B) := by
  obtain ⟨k, h⟩ := h
  have hb := hF.2.2.1
  have ek := am_card hF.1 h
  by_cases c : s < 0 ∨ 6 ≤ s ∨ (∃ q, Run A s q) ∨ card A = 64
  · refine ok_imp (r_begin_no h (by rw [ek]; exact c)) ?_
    rintro r m' ⟨rfl, rfl⟩
    exact ⟨A, Or.inr ⟨c, rfl, rfl⟩, k, h⟩
  · have c1 : ¬ s < 0 := fun w => c (Or.inl w)
    have c2 : ¬ 6 ≤ s := fun w => c (Or.inr (Or.inl w))
    have c3 : noRun A s := fun q w => c (Or.inr (Or.inr (Or.inl ⟨q, w⟩)))
    have c4 : card A ≠ 64 := fun w => c (Or.inr (Or.inr (Or.inr w)))
    refine ok_imp (r_begin hF.1 (by omega) h c1 c2 c3 (by rw [ek]; exact c4)) ?_
    rintro r m' ⟨rfl, h'⟩
    exact ⟨_, Or.inl ⟨⟨c1, c2, c3, c4⟩, rfl, rfl⟩, _, h'⟩
theorem z_read (hF : Fine i A) (h : AM m A) (s t x3 : Int32) (x4 x6 : Int64) (x8 : Int32) : OK (g_M_read s t x3 x4 x6 x8 m) (fun r m' => ∃ B, Sread s t x3 x4 x6 x8 A r B ∧ AM m' B) := by
  obtain ⟨k, h⟩ := h
  have no : (noRun A s ∨ t < 0 ∨ 7 < t ∨ ¬ colOk x3 x8) → OK (g_M_read s t x3 x4 x6 x8 m) (fun r m' => ∃ B, Sread s t x3 x4 x6 x8 A r B ∧ AM m' B) := fun c => by
    refine ok_imp (r_read_no hF.1 h x3 x4 x6 x8 ?_) ?_
    · rcases c with w | w | w | w
      · exact Or.inl w
      · exact Or.inr (Or.inl w)
      · exact Or.inr (Or.inr (Or.inl w))
      · refine Or.inr (Or.inr (Or.inr ⟨fun e => w (Or.inl e), ?_⟩))
        by_cases a : x3 < 0
        · exact Or.inl a
        · by_cases b : 7 < x3
          · exact Or.inr (Or.inl b)
          · by_cases d : x8 < 0
            · exact Or.inr (Or.inr (Or.inl d))
            · exact Or.inr (Or.inr (Or.inr (fun e => w (Or.inr ⟨a, b, d, e⟩))))
    · rintro r m' ⟨rfl, rfl⟩
      exact ⟨A, Or.inr ⟨c, rfl, rfl⟩, k, h⟩
  rcases run_dec A s with ⟨q, hq⟩ | hn
  · rcases tab_dec t with ⟨j, hj, rfl⟩ | ht
    · by_cases hc : colOk x3 x8
      · refine ok_imp (r_read hF.1 h hq hj x3 x4 x6 x8 hc) (fun r m' h' => ⟨_, Or.inl ⟨q, j, hq, rfl, hj, hc, rfl⟩, k, h'⟩)
      · exact no (Or.inr (Or.inr (Or.inr hc)))
    · exact no (ht.elim (fun w => Or.inr (Or.inl w)) (fun w => Or.inr (Or.inr (Or.inl w))))
  · exact no (Or.inl hn)
theorem z_cell (h : AM m A) (c : Int32) (x : Int64) : OK (g_M_cell c x m) (fun r m' => ∃ B, Scell c x A r B ∧ AM m' B) := by
  obtain ⟨k, h⟩ := h
  rcases tab_dec c with ⟨j, hj, rfl⟩ | ht
  · exact ok_imp (r_cell h hj x) (fun r m' h' => ⟨_, Or.inl ⟨j, hj, rfl, h'.1, rfl⟩, k, h'.2⟩)
  · unfold g_M_cell
    refine ok_if (fun _ => ok_rZ (Or.inl rfl) ⟨A, Or.inr ⟨ht, rfl, rfl⟩, k, h⟩) (fun h0 => ok_if (fun h7 => ?_) (fun _ => ok_rZ (Or.inl rfl) ⟨A, Or.inr ⟨ht, rfl, rfl⟩, k, h⟩))
    rcases ht with w | w
    · exact absurd w h0
    · exact absurd w (Int32.not_lt.mpr h7)
theorem z_clear (h : AM m A) : OK (g_M_clear m) (fun _ m' => AM m' (clA A)) := by
  obtain ⟨k, h⟩ := h
  exact ok_imp (r_clear h) (fun _ _ h' => ⟨k, h'⟩)
theorem z_write (hF : Fine i A) (h : AM m A) (s t : Int32) : OK (g_M_write s t m) (fun r m' => ∃ B, Swrite s t A r B ∧ AM m' B) := by
  obtain ⟨k, h⟩ := h
  have no : (noRun A s ∨ t < 0 ∨ 7 < t) → OK (g_M_write s t m) (fun r m' => ∃ B, Swrite s t A r B ∧ AM m' B) := fun c => by
    refine ok_imp (r_write_no h c) ?_
    rintro r m' ⟨rfl, rfl⟩
    exact ⟨A, Or.inr ⟨c, rfl, rfl⟩, k, h⟩
  rcases run_dec A s with ⟨q, hq⟩ | hn
  · rcases tab_dec t with ⟨j, hj, rfl⟩ | ht
    · exact ok_imp (r_write hF.1 h hq hj) (fun r m' h' => ⟨_, Or.inl ⟨q, j, hq, rfl, hj, rfl, h'.2⟩, k, h'.1⟩)
    · exact no (Or.inr ht)
  · exact no (Or.inl hn)
theorem z_miss (hF : Fine i A) (h : AM m A) (s x : Int32) : OK (g_M_miss s x m) (fun r m' => ∃ B, Smiss s x A r B ∧ AM m' B) := by
  obtain ⟨k, h⟩ := h
  rcases run_dec A s with ⟨q, hq⟩ | hn
  · refine ok_imp (r_miss hF.1 h hq x) (fun r m' h' => ?_)
    by_cases c : canMiss A q x
    · obtain ⟨h1, h2⟩ := h'.1 c
      exact ⟨_, Or.inl ⟨q, hq, Or.inl ⟨c, rfl⟩, h2⟩, k, h1⟩
    · obtain ⟨h1, h2⟩ := h'.2 c
      exact ⟨_, Or.inl ⟨q, hq, Or.inr ⟨c, rfl⟩, h2⟩, k, h1⟩
  · refine ok_imp (r_miss_no h hn x) ?_
    rintro r m' ⟨rfl, rfl⟩
    exact ⟨A, Or.inr ⟨hn, rfl, rfl⟩, k, h⟩
theorem z_commit (hi : i ≤ 511) (hF : Fine i A) (h : AM m A) (s : Int32) : OK (g_M_commit s m) (fun r m' => ∃ B, Scommit s A r B ∧ AM m' B) := by
  obtain ⟨k, h⟩ := h
  have hc := hF.2.2.2
  have no : (∀ q, Run A s q → aD A q) → OK (g_M_commit s m) (fun r m' => ∃ B, Scommit s A r B ∧ AM m' B) := fun c => by
    refine ok_imp (r_commit_no h c) ?_
    rintro r m' ⟨rfl, ⟨rfl, q, hq⟩ | ⟨rfl, hn⟩⟩
    · exact ⟨A, Or.inr (Or.inl ⟨q, hq, c q hq, rfl, rfl⟩), k, h⟩
    · exact ⟨A, Or.inr (Or.inr ⟨hn, rfl, rfl⟩), k, h⟩
  rcases run_dec A s with ⟨q, hq⟩ | hn
  · by_cases hd : aD A q
    · exact no (fun p hp => by rw [hF.1.one hp hq]; exact hd)
    · refine ok_imp (r_commit hF.1 (by omega) h hq hd) ?_
      rintro r m' ⟨rfl, h'⟩
      exact ⟨_, Or.inl ⟨q, hq, hd, rfl, rfl⟩, h'⟩
  · exact no (fun q hq => absurd hq (hn q))
theorem z_abort (hF : Fine i A) (h : AM m A) (s : Int32) : OK (g_M_abort s m) (fun r m' => ∃ B, Sabort s A r B ∧ AM m' B) := by
  obtain ⟨k, h⟩ := h
  rcases run_dec A s with ⟨q, hq⟩ | hn
  · refine ok_imp (r_abort hF.1 h hq) ?_
    rintro r m' ⟨rfl, h'⟩
    exact ⟨_, Or.inl ⟨q, hq, rfl, rfl⟩, h'⟩
  · refine ok_imp (r_abort_no h hn) ?_
    rintro r m' ⟨rfl, rfl⟩
    exact ⟨A, Or.inr ⟨hn, rfl, rfl⟩, k, h⟩
theorem z_doom (hF : Fine i A) (h : AM m A) (s : Int32) : OK (g_M_doom s m) (fun r m' => ∃ B, Sdoom s A r B ∧ AM m' B) := by
  obtain ⟨k, h⟩ := h
  rcases run_dec A s with ⟨q, hq⟩ | hn
  · refine ok_imp (r_doom hF.1 h hq) ?_
    rintro r m' ⟨rfl, h'⟩
    exact ⟨_, Or.inl ⟨q, hq, rfl, rfl⟩, k, h'⟩
  · refine ok_imp (r_doom_no h hn) ?_
    rintro r m' ⟨rfl, rfl⟩
    exact ⟨A, Or.inr ⟨hn, rfl, rfl⟩, k, h⟩
theorem z_look (hF : Fine i A) (h : AM m A) (x w : Int32) : OK (g_M_look x w m) (fun r m' => Slook x w A r ∧ AM m' A) := by
  obtain ⟨k, h⟩ := h
  refine ok_imp (r_look hF.1 h x w) ?_
  rintro r m' ⟨rfl, h1⟩
  exact ⟨h1, k, h⟩
theorem z_arrow (h : AM m A) (x y : Int32) : OK (g_M_arrow x y m) (fun r m' => say (aK A x ∧ aK A y ∧ aA A x y) r ∧ AM m' A) := by
  obtain ⟨k, h⟩ := h
  refine ok_imp (r_arrow h x y) ?_
  rintro r m' ⟨rfl, h1⟩
  exact ⟨h1, k, h⟩
theorem z_rings (hF : Fine i A) (h : AM m A) : OK (g_M_rings m) (fun r m' => r = 0 ∧ AM m' A) := by
  obtain ⟨k, h⟩ := h
  refine ok_imp (r_rings hF.1 hF.2.1 h) ?_
  rintro r m' ⟨h1, h2⟩
  exact ⟨h1, k, h2⟩
theorem z_count (hF : Fine i A) (h : AM m A) (w : Int32) : OK (g_M_count w m) (fun r m' => Scount w A r ∧ AM m' A) := by
  obtain ⟨k, h⟩ := h
  refine ok_imp (r_count hF.1 h w) ?_
  rintro r m' ⟨rfl, h1⟩
  exact ⟨h1, k, h⟩
end ZR
/-- at the start -/
def A_0 : Ab := mkA 0 0 (fun _ => False) (fun _ _ => 0) (fun _ => False) (fun _ _ => False) (fun _ _ => (False, 0, fun _ => False)) (fun _ => False) (fun _ => 0) (fun _ _ => False)
theorem Fine_0 : Fine 0 A_0 := by
  refine ⟨⟨Nat.zero_le _, Nat.zero_le _, fun q h => h.elim, fun q h => h.elim, fun p q s h => h.2.1.elim, fun q h => h.elim, fun q t h => h.elim⟩, ⟨⟨fun x y e => e.elim, fun x h => h.elim, fun x hx => ?_, fun x y e => e.elim⟩, ⟨fun x y h => h.elim, fun x y h => h.elim, fun a z h1 h2 h3 => h3.elim, fun n h1 h2 => rfl⟩, fun a p b e => e.elim⟩, Nat.le_refl _, Nat.le_refl _⟩
  obtain ⟨n, h1, h2, -⟩ := hx
  have : n ≤ 0 := h2
  omega
