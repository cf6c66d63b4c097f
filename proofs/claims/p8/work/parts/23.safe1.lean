/-! THE REFERENCE COMES TO AN ANSWER: an invariant of its arrays, and each function's run -/
def OK {ρ : Type} (cg : Option (ρ × MS)) (Q : ρ → MS → Prop) : Prop := ∃ r m', cg = some (r, m') ∧ Q r m'
section OKR
variable {ρ : Type} {m : MS} {Q : ρ → MS → Prop}
theorem ok_ret {r : ρ} (h : Q r m) : OK (some (r, m)) Q := ⟨r, m, rfl, h⟩
theorem ok_rZ {x : Int32} {Q : Int32 → MS → Prop} (hx : x = 0 ∨ x = 1) (h : Q x m) : OK (rZm x m) Q := ⟨x, m, if_pos hx, h⟩
theorem ok_if {P : Prop} [Decidable P] {a b : Option (ρ × MS)} (ht : P → OK a Q) (hf : ¬ P → OK b Q) : OK (if P then a else b) Q := by
  by_cases hP : P
  · rw [if_pos hP]; exact ht hP
  · rw [if_neg hP]; exact hf hP
theorem rI_ok {d j : Nat} {i : Int32} (hi : i = nI j) (hj : j < mN d) : rI m d i = some (m.2.1 d j) := by
  have hN : mN d ≤ 4680 := by unfold mN; (repeat' split) <;> omega
  have h31 : j < 2 ^ 31 := by omega
  subst hi
  unfold rI
  rw [if_neg (by rw [nI_clamp h31]; intro q; rcases q with q | q; exact nI_pos h31 q; omega), nI_clamp h31]
theorem rJ_ok {d j : Nat} {i : Int32} (hi : i = nI j) (hj : j < mN d) : rJ m d i = some (m.2.2 d j) := by
  have hN : mN d ≤ 4680 := by unfold mN; (repeat' split) <;> omega
  have h31 : j < 2 ^ 31 := by omega
  subst hi
  unfold rJ
  rw [if_neg (by rw [nI_clamp h31]; intro q; rcases q with q | q; exact nI_pos h31 q; omega), nI_clamp h31]
theorem wI_ok {d j : Nat} {i x : Int32} (hi : i = nI j) (hj : j < mN d) : wI m d i x = some (sI m d j x) := by
  have hN : mN d ≤ 4680 := by unfold mN; (repeat' split) <;> omega
  have h31 : j < 2 ^ 31 := by omega
  subst hi
  unfold wI
  rw [if_neg (by rw [nI_clamp h31]; intro q; rcases q with q | q; exact nI_pos h31 q; omega), nI_clamp h31]
theorem wJ_ok {d j : Nat} {i : Int32} {x : Int64} (hi : i = nI j) (hj : j < mN d) : wJ m d i x = some (sJ m d j x) := by
  have hN : mN d ≤ 4680 := by unfold mN; (repeat' split) <;> omega
  have h31 : j < 2 ^ 31 := by omega
  subst hi
  unfold wJ
  rw [if_neg (by rw [nI_clamp h31]; intro q; rcases q with q | q; exact nI_pos h31 q; omega), nI_clamp h31]
theorem ok_rI {d : Nat} {i : Int32} {K : Int32 → Option (ρ × MS)} (j : Nat) (hi : i = nI j) (hj : j < mN d) (h : OK (K (m.2.1 d j)) Q) : OK ((rI m d i).bind K) Q := by
  rw [rI_ok hi hj]; exact h
theorem ok_rJ {d : Nat} {i : Int32} {K : Int64 → Option (ρ × MS)} (j : Nat) (hi : i = nI j) (hj : j < mN d) (h : OK (K (m.2.2 d j)) Q) : OK ((rJ m d i).bind K) Q := by
  rw [rJ_ok hi hj]; exact h
theorem ok_wI {d : Nat} {i x : Int32} {K : MS → Option (ρ × MS)} (j : Nat) (hi : i = nI j) (hj : j < mN d) (h : OK (K (sI m d j x)) Q) : OK ((wI m d i x).bind K) Q := by
  rw [wI_ok hi hj]; exact h
theorem ok_wZ {d : Nat} {i x : Int32} {K : MS → Option (ρ × MS)} (j : Nat) (hi : i = nI j) (hj : j < mN d) (hx : x = 0 ∨ x = 1) (h : OK (K (sI m d j x)) Q) : OK ((wZ m d i x).bind K) Q := by
  rw [show wZ m d i x = wI m d i x from if_pos hx, wI_ok hi hj]; exact h
theorem ok_wJ {d : Nat} {i : Int32} {x : Int64} {K : MS → Option (ρ × MS)} (j : Nat) (hi : i = nI j) (hj : j < mN d) (h : OK (K (sJ m d j x)) Q) : OK ((wJ m d i x).bind K) Q := by
  rw [wJ_ok hi hj]; exact h
theorem ok_bn {σ : Type} {c : Option (σ × MS)} {K : σ → MS → Option (ρ × MS)} {Q1 : σ → MS → Prop} (hc : OK c Q1) (h : ∀ r m1, Q1 r m1 → OK (K r m1) Q) : OK (bnM c K) Q := by
  obtain ⟨r, m1, e, q⟩ := hc
  unfold bnM
  rw [e]
  exact h r m1 q
theorem ok_bnU {c : Option (Unit × MS)} {K : MS → Option (ρ × MS)} {Q1 : Unit → MS → Prop} (hc : OK c Q1) (h : ∀ m1, Q1 () m1 → OK (K m1) Q) : OK (bnMU c K) Q := by
  obtain ⟨r, m1, e, q⟩ := hc
  unfold bnMU
  rw [e]
  exact h m1 q
theorem ok_imp {cg : Option (ρ × MS)} {Q1 : ρ → MS → Prop} (hc : OK cg Q1) (h : ∀ r m1, Q1 r m1 → Q r m1) : OK cg Q := by
  obtain ⟨r, m1, e, q⟩ := hc
  exact ⟨r, m1, e, h r m1 q⟩
end OKR
/-- what an array may hold -/
def okv (d : Nat) (x : Int32) : Prop := (d = 1 ∨ d = 17 → ∃ y, y ≤ 512 ∧ x = nI y) ∧ (d = 5 ∨ d = 7 ∨ d = 16 ∨ d = 18 → x = 0 ∨ x = 1) ∧ (d = 8 → ∃ y, y ≤ 8 ∧ x = nI y) ∧ (d = 9 → x < 0 ∨ ∃ y, y < 8 ∧ x = nI y)
def Gd (m : MS) : Prop := ∀ d i, okv d (m.2.1 d i)
/-- begun b, commits c, kept k, within their bounds; the arrays good -/
def MI (b c k : Nat) (m : MS) : Prop := m.1 0 = nI b ∧ m.1 1 = nI c ∧ m.1 2 = nI k ∧ b ≤ 512 ∧ c ≤ 512 ∧ k ≤ 64 ∧ Gd m
theorem Gd_sI {m : MS} {d i : Nat} {x : Int32} (h : Gd m) (hx : okv d x) : Gd (sI m d i x) := by
  intro q j
  simp only [sI]
  by_cases hq : q = d
  · subst hq
    rw [if_pos rfl]
    by_cases hj : j = i
    · rw [if_pos hj]; exact hx
    · rw [if_neg hj]; exact h q j
  · rw [if_neg hq]; exact h q j
theorem MI_sI {b c k : Nat} {m : MS} {d i : Nat} {x : Int32} (h : MI b c k m) (hx : okv d x) : MI b c k (sI m d i x) := ⟨h.1, h.2.1, h.2.2.1, h.2.2.2.1, h.2.2.2.2.1, h.2.2.2.2.2.1, Gd_sI h.2.2.2.2.2.2 hx⟩
theorem MI_sJ {b c k : Nat} {m : MS} {d i : Nat} {x : Int64} (h : MI b c k m) : MI b c k (sJ m d i x) := h
theorem okv_any {d : Nat} {x : Int32} (h1 : d ≠ 1) (h2 : d ≠ 17) (h3 : d ≠ 5) (h4 : d ≠ 7) (h5 : d ≠ 16) (h6 : d ≠ 18) (h7 : d ≠ 8) (h8 : d ≠ 9) : okv d x := ⟨fun h => by omega, fun h => by omega, fun h => by omega, fun h => by omega⟩
theorem okv_z {d : Nat} {x : Int32} (hd : d = 5 ∨ d = 7 ∨ d = 16 ∨ d = 18) (hx : x = 0 ∨ x = 1) : okv d x := ⟨fun h => by omega, fun _ => hx, fun h => by omega, fun h => by omega⟩
theorem okv_id {d y : Nat} (hd : d = 1 ∨ d = 17) (hy : y ≤ 512) : okv d (nI y) := ⟨fun _ => ⟨y, hy, rfl⟩, fun h => by omega, fun h => by omega, fun h => by omega⟩
theorem okv_r {y : Nat} (hy : y ≤ 8) : okv 8 (nI y) := ⟨fun h => by omega, fun h => by omega, fun _ => ⟨y, hy, rfl⟩, fun h => by omega⟩
theorem okv_c {x : Int32} (hx : x < 0 ∨ ∃ y, y < 8 ∧ x = nI y) : okv 9 x := ⟨fun h => by omega, fun h => by omega, fun h => by omega, fun _ => hx⟩
theorem gd_z {m : MS} (h : Gd m) {d : Nat} (hd : d = 5 ∨ d = 7 ∨ d = 16 ∨ d = 18) (i : Nat) : m.2.1 d i = 0 ∨ m.2.1 d i = 1 := (h d i).2.1 hd
theorem gd_id {m : MS} (h : Gd m) {d : Nat} (hd : d = 1 ∨ d = 17) (i : Nat) : ∃ y, y ≤ 512 ∧ m.2.1 d i = nI y := (h d i).1 hd
theorem gd_r {m : MS} (h : Gd m) (i : Nat) : ∃ y, y ≤ 8 ∧ m.2.1 8 i = nI y := (h 8 i).2.2.1 rfl
theorem gd_c {m : MS} (h : Gd m) (i : Nat) : m.2.1 9 i < 0 ∨ ∃ y, y < 8 ∧ m.2.1 9 i = nI y := (h 9 i).2.2.2 rfl
theorem ix64 (a b : Nat) : (64 : Int32) * nI a + nI b = nI (64 * a + b) := by rw [show (64 : Int32) = nI 64 from rfl, pk_mul, nI_add]
theorem ix8 (a b : Nat) : (8 : Int32) * nI a + nI b = nI (8 * a + b) := by rw [show (8 : Int32) = nI 8 from rfl, pk_mul, nI_add]
theorem ix8' (a : Nat) : (8 : Int32) * nI a = nI (8 * a) := by rw [show (8 : Int32) = nI 8 from rfl, pk_mul]
/-- running(s): no place, or a place below kept -/
theorem s_running {b c k : Nat} {m : MS} (hm : MI b c k m) (s : Int32) : OK (g_M_running s m) (fun r m' => m' = m ∧ (r = -1 ∨ ∃ p, p < k ∧ r = nI p)) := by
  have key : ∀ (n j : Nat) (x2 : Int32), j ≤ k → k - j < n → (x2 = -1 ∨ ∃ p, p < k ∧ x2 = nI p) → OK (g_M_running_b4 n s x2 (nI j) m) (fun r m' => m' = m ∧ (r = -1 ∨ ∃ p, p < k ∧ r = nI p)) := by
    intro n
    induction n with
    | zero => intro j x2 _ h; omega
    | succ n ih =>
      intro j x2 hj hn hx
      rw [g_M_running_b4]
      have hk : k ≤ 64 := hm.2.2.2.2.2.1
      refine ok_if (fun _ => ok_ret ⟨rfl, hx⟩) (fun hlt => ?_)
      rw [hm.2.2.1, nI_leI (by omega) (by omega)] at hlt
      refine ok_if (fun _ => ok_ret ⟨rfl, hx⟩) (fun _ => ?_)
      refine ok_rI j rfl (by show j < 64; omega) ?_
      rw [nI_1]
      exact ok_if (fun _ => ih (j + 1) (nI j) (by omega) (by omega) (Or.inr ⟨j, by omega, rfl⟩)) (fun _ => ih (j + 1) x2 (by omega) (by omega) hx)
  have hk : k ≤ 64 := hm.2.2.2.2.2.1
  exact key 2000 0 (-1) (by omega) (by omega) (Or.inl rfl)
theorem s_find {b c k : Nat} {m : MS} (hm : MI b c k m) (v : Int32) : OK (g_M_find v m) (fun r m' => m' = m ∧ (r = -1 ∨ ∃ p, p < k ∧ r = nI p)) := by
  have key : ∀ (n j : Nat) (x2 : Int32), j ≤ k → k - j < n → (x2 = -1 ∨ ∃ p, p < k ∧ x2 = nI p) → OK (g_M_find_b4 n v x2 (nI j) m) (fun r m' => m' = m ∧ (r = -1 ∨ ∃ p, p < k ∧ r = nI p)) := by
    intro n
    induction n with
    | zero => intro j x2 _ h; omega
    | succ n ih =>
      intro j x2 hj hn hx
      rw [g_M_find_b4]
      have hk : k ≤ 64 := hm.2.2.2.2.2.1
      refine ok_if (fun _ => ok_ret ⟨rfl, hx⟩) (fun hlt => ?_)
      rw [hm.2.2.1, nI_leI (by omega) (by omega)] at hlt
      refine ok_rI j rfl (by show j < 64; omega) ?_
      rw [nI_1]
      exact ok_if (fun _ => ih (j + 1) (nI j) (by omega) (by omega) (Or.inr ⟨j, by omega, rfl⟩)) (fun _ => ih (j + 1) x2 (by omega) (by omega) hx)
  have hk : k ≤ 64 := hm.2.2.2.2.2.1
  exact key 2000 0 (-1) (by omega) (by omega) (Or.inl rfl)
theorem s_concurrent {m : MS} {a p : Nat} (ha : a < 64) (hp : p < 64) : OK (g_M_concurrent (nI a) (nI p) m) (fun r m' => m' = m ∧ (r = 0 ∨ r = 1)) := by
  have h2 : OK (g_M_concurrent_b24 (nI a) (nI p) m) (fun r m' => m' = m ∧ (r = 0 ∨ r = 1)) := by
    unfold g_M_concurrent_b24
    refine ok_rI p rfl hp (ok_if (fun _ => ok_rZ (Or.inr rfl) ⟨rfl, Or.inr rfl⟩) (fun _ => ok_rI p rfl hp (ok_rI a rfl ha (ok_if (fun _ => ok_rZ (Or.inl rfl) ⟨rfl, Or.inl rfl⟩) (fun _ => ok_rZ (Or.inr rfl) ⟨rfl, Or.inr rfl⟩)))))
  unfold g_M_concurrent
  exact ok_rI a rfl ha (ok_if (fun _ => h2) (fun _ => ok_rI a rfl ha (ok_rI p rfl hp (ok_if (fun _ => ok_rZ (Or.inl rfl) ⟨rfl, Or.inl rfl⟩) (fun _ => h2)))))
theorem s_isDanger {m : MS} {a p : Nat} (ha : a < 64) (hp : p < 64) : OK (g_M_isDanger (nI a) (nI p) m) (fun r m' => m' = m ∧ (r = 0 ∨ r = 1)) := by
  have h2 : ∀ x, OK (g_M_isDanger_b30 (nI p) x m) (fun r m' => m' = m ∧ (r = 0 ∨ r = 1)) := fun x => by
    unfold g_M_isDanger_b30
    exact ok_rI p rfl hp (ok_if (fun _ => ok_rZ (Or.inr rfl) ⟨rfl, Or.inr rfl⟩) (fun _ => ok_rI p rfl hp (ok_if (fun _ => ok_rZ (Or.inl rfl) ⟨rfl, Or.inl rfl⟩) (fun _ => ok_rZ (Or.inr rfl) ⟨rfl, Or.inr rfl⟩))))
  unfold g_M_isDanger
  exact ok_rI p rfl hp (ok_if (fun _ => ok_rZ (Or.inl rfl) ⟨rfl, Or.inl rfl⟩) (fun _ => ok_rI a rfl ha (ok_if (fun _ => h2 _) (fun _ => ok_rI a rfl ha (ok_if (fun _ => ok_rZ (Or.inl rfl) ⟨rfl, Or.inl rfl⟩) (fun _ => h2 _))))))
