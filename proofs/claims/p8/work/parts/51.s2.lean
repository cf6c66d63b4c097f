def tb (x : Int64) (j : Nat) : Prop := x.toBitVec.getLsbD j = true
theorem one_bit {i : Nat} (hi : i < 64) : ((1 : Int64) <<< (Int32.toInt64 (nI i) &&& 63)).toBitVec = BitVec.twoPow 64 i := by
  have h : ∀ i : Fin 64, ((1 : Int64) <<< (Int32.toInt64 (nI i.val) &&& 63)).toBitVec = BitVec.twoPow 64 i.val := by decide +kernel
  exact h ⟨i, hi⟩
theorem tb_or {x : Int64} {i j : Nat} (hi : i < 64) (hj : j < 64) : tb (x ||| (1 : Int64) <<< (Int32.toInt64 (nI i) &&& 63)) j ↔ tb x j ∨ j = i := by
  unfold tb
  rw [Int64.toBitVec_or, one_bit hi, BitVec.getLsbD_or, BitVec.getLsbD_twoPow]
  simp only [Bool.or_eq_true, Bool.and_eq_true, decide_eq_true_eq]
  exact or_congr Iff.rfl ⟨fun h => h.2.symm, fun h => ⟨hi, h.symm⟩⟩
theorem tb_and {x : Int64} {i : Nat} (hi : i < 64) : (¬ x &&& (1 : Int64) <<< (Int32.toInt64 (nI i) &&& 63) = 0) ↔ tb x i := by
  have key : (x &&& (1 : Int64) <<< (Int32.toInt64 (nI i) &&& 63) = 0) ↔ ¬ tb x i := by
    rw [← Int64.toBitVec_inj, Int64.toBitVec_and, one_bit hi]
    constructor
    · intro h hb
      have := congrArg (fun b : BitVec 64 => b.getLsbD i) h
      simp only [BitVec.getLsbD_and, BitVec.getLsbD_twoPow] at this
      unfold tb at hb
      rw [hb] at this
      simp [hi] at this
    · intro h
      apply BitVec.eq_of_getLsbD_eq
      intro j hj
      rw [BitVec.getLsbD_and, BitVec.getLsbD_twoPow]
      by_cases e : i = j
      · subst e
        have hb : x.toBitVec.getLsbD i = false := by
          cases hx : x.toBitVec.getLsbD i
          · rfl
          · exact absurd hx h
        rw [hb]
        simp
      · simp [e]
  rw [key]
  exact Classical.not_not
theorem tb_cl {x : Int64} {i j : Nat} (hi : i < 64) (hj : j < 64) : tb (x &&& ((1 : Int64) <<< (Int32.toInt64 (nI i) &&& 63) ^^^ -1)) j ↔ tb x j ∧ j ≠ i := by
  unfold tb
  rw [Int64.toBitVec_and, Int64.toBitVec_xor, one_bit hi, BitVec.getLsbD_and, BitVec.getLsbD_xor, BitVec.getLsbD_twoPow]
  have h1 : (-1 : Int64).toBitVec.getLsbD j = true := by
    have : (-1 : Int64).toBitVec = BitVec.allOnes 64 := by decide
    rw [this, BitVec.getLsbD_allOnes]
    simp [hj]
  rw [h1]
  by_cases e : i = j
  · subst e; simp [hi]
  · have e' : ¬ j = i := fun h => e h.symm
    simp [e, e']
theorem tb_zero {j : Nat} : ¬ tb 0 j := by
  unfold tb
  simp
/-! THE REFERENCE HOLDS IT: positions against ids -/
def en (m : MS) (z : Nat) : RG := (m.2.1 9 z, m.2.1 10 z, m.2.2 11 z, m.2.2 12 z)
def RR (m : MS) (i t : Nat) (g : RN) : Prop := (g.1 → m.2.1 8 (8 * i + t) = nI 1 ∧ m.2.1 9 (8 * (8 * i + t)) = -1) ∧ (¬ g.1 → g.2.1 ≤ 8 ∧ m.2.1 8 (8 * i + t) = nI g.2.1 ∧ ∀ x, g.2.2 x ↔ ∃ j, j < g.2.1 ∧ en m (8 * (8 * i + t) + j) = x)
def PR (m : MS) (A : Ab) (i : Nat) (q : Int32) : Prop := (m.2.1 2 i = aF A 2 q ∧ m.2.1 3 i = aF A 3 q ∧ m.2.1 4 i = aF A 4 q ∧ m.2.1 6 i = aF A 6 q) ∧ (m.2.1 5 i ≠ 0 ↔ aD A q) ∧ ∀ t, t < 8 → RR m i t (aR A q t)
def VR (m : MS) (A : Ab) : Prop := ∀ j, j < 8 → (m.2.1 18 j ≠ 0 ↔ aH A j) ∧ m.2.2 19 j = aL A j
/-- what ever was: since and commit by id, arrows as bits -/
def HR (m : MS) (A : Ab) : Prop := (∀ n, n ≤ 512 → m.2.1 13 n = aF A 13 (nI n) ∧ m.2.1 14 n = aF A 14 (nI n)) ∧ ∀ n q, n ≤ 512 → q ≤ 512 → (tb (m.2.2 15 (9 * n + q / 64)) (q % 64) ↔ aE A (nI n) (nI q))
theorem hr_congr {m m' : MS} {A A' : Ab} (h13 : m'.2.1 13 = m.2.1 13) (h14 : m'.2.1 14 = m.2.1 14) (h15 : m'.2.2 15 = m.2.2 15) (hF : aF A' = aF A) (hE : aE A' = aE A) (h : HR m A) : HR m' A' := by
  unfold HR
  rw [h13, h14, h15, hF, hE]
  exact h
def AMk (m : MS) (A : Ab) (k : Nat) : Prop := MI (aB A) (aC A) k m ∧ (∀ i, i < k → aK A (m.2.1 1 i)) ∧ (∀ q, aK A q → ∃ i, i < k ∧ m.2.1 1 i = q) ∧ (∀ i j, i < k → j < k → m.2.1 1 i = m.2.1 1 j → i = j) ∧ (∀ i, i < k → PR m A i (m.2.1 1 i)) ∧ (∀ i j, i < k → j < k → (m.2.1 7 (64 * i + j) ≠ 0 ↔ aA A (m.2.1 1 i) (m.2.1 1 j))) ∧ VR m A ∧ HR m A
section AMR
variable {m : MS} {A : Ab} {k : Nat}
theorem AMk.mi (h : AMk m A k) : MI (aB A) (aC A) k m := h.1
theorem AMk.k64 (h : AMk m A k) : k ≤ 64 := h.1.2.2.2.2.2.1
theorem AMk.gd (h : AMk m A k) : Gd m := h.1.2.2.2.2.2.2
theorem AMk.n (h : AMk m A k) : m.1 2 = nI k := h.1.2.2.1
theorem AMk.kp (h : AMk m A k) {i : Nat} (hi : i < k) : aK A (m.2.1 1 i) := h.2.1 i hi
theorem AMk.f2 (h : AMk m A k) {i : Nat} (hi : i < k) : m.2.1 2 i = aF A 2 (m.2.1 1 i) := (h.2.2.2.2.1 i hi).1.1
theorem AMk.f3 (h : AMk m A k) {i : Nat} (hi : i < k) : m.2.1 3 i = aF A 3 (m.2.1 1 i) := (h.2.2.2.2.1 i hi).1.2.1
theorem AMk.f4 (h : AMk m A k) {i : Nat} (hi : i < k) : m.2.1 4 i = aF A 4 (m.2.1 1 i) := (h.2.2.2.2.1 i hi).1.2.2.1
theorem AMk.f6 (h : AMk m A k) {i : Nat} (hi : i < k) : m.2.1 6 i = aF A 6 (m.2.1 1 i) := (h.2.2.2.2.1 i hi).1.2.2.2
theorem AMk.d (h : AMk m A k) {i : Nat} (hi : i < k) : m.2.1 5 i ≠ 0 ↔ aD A (m.2.1 1 i) := (h.2.2.2.2.1 i hi).2.1
theorem AMk.r (h : AMk m A k) {i : Nat} (hi : i < k) {t : Nat} (ht : t < 8) : RR m i t (aR A (m.2.1 1 i) t) := (h.2.2.2.2.1 i hi).2.2 t ht
theorem AMk.a (h : AMk m A k) {i j : Nat} (hi : i < k) (hj : j < k) : m.2.1 7 (64 * i + j) ≠ 0 ↔ aA A (m.2.1 1 i) (m.2.1 1 j) := h.2.2.2.2.2.1 i j hi hj
theorem AMk.v (h : AMk m A k) : VR m A := h.2.2.2.2.2.2.1
theorem AMk.hr (h : AMk m A k) : HR m A := h.2.2.2.2.2.2.2
theorem AMk.inj (h : AMk m A k) {i j : Nat} (hi : i < k) (hj : j < k) (e : m.2.1 1 i = m.2.1 1 j) : i = j := h.2.2.2.1 i j hi hj e
theorem AMk.at (h : AMk m A k) {q : Int32} (hq : aK A q) : ∃ i, i < k ∧ m.2.1 1 i = q := h.2.2.1 q hq
theorem sI_self {m : MS} {d i : Nat} {x : Int32} : (sI m d i x).2.1 d i = x := by simp [sI]
theorem sI_ne {m : MS} {d i q : Nat} {x : Int32} (h : q ≠ d) : (sI m d i x).2.1 q = m.2.1 q := by simp [sI, h]
theorem sI_at {m : MS} {d i j : Nat} {x : Int32} : (sI m d i x).2.1 d j = if j = i then x else m.2.1 d j := by simp [sI]
/-- which one runs in a session -/
theorem r_running (h : AMk m A k) (s : Int32) : OK (g_M_running s m) (fun r m' => m' = m ∧ ((∃ p, p < k ∧ r = nI p ∧ Run A s (m.2.1 1 p)) ∨ (r = -1 ∧ ∀ q, ¬ Run A s q))) := by
  have key : ∀ (n j : Nat) (x2 : Int32), j ≤ k → k - j < n → ((∃ p, p < k ∧ x2 = nI p ∧ Run A s (m.2.1 1 p)) ∨ (x2 = -1 ∧ (0 ≤ s → ∀ i, i < j → m.2.1 2 i ≠ s))) → OK (g_M_running_b4 n s x2 (nI j) m) (fun r m' => m' = m ∧ ((∃ p, p < k ∧ r = nI p ∧ Run A s (m.2.1 1 p)) ∨ (r = -1 ∧ ∀ q, ¬ Run A s q))) := by
    intro n
    induction n with
    | zero => intro j x2 _ h; omega
    | succ n ih =>
      intro j x2 hj hn hx
      rw [g_M_running_b4]
      have hk := h.k64
      have fin : (0 ≤ s → j = k) → ((∃ p, p < k ∧ x2 = nI p ∧ Run A s (m.2.1 1 p)) ∨ (x2 = -1 ∧ ∀ q, ¬ Run A s q)) := fun hz => by
        rcases hx with hx | ⟨h1, h2⟩
        · exact Or.inl hx
        · refine Or.inr ⟨h1, fun q hq => ?_⟩
          obtain ⟨i, hi, e⟩ := h.at hq.2.1
          exact h2 hq.1 i (by rw [hz hq.1]; exact hi) (by rw [h.f2 hi, e]; exact hq.2.2)
      refine ok_if (fun hle => ok_ret ⟨rfl, fin (fun _ => ?_)⟩) (fun hlt => ?_)
      · rw [h.n, nI_leI (by omega) (by omega)] at hle; omega
      rw [h.n, nI_leI (by omega) (by omega)] at hlt
      refine ok_if (fun hs => ok_ret ⟨rfl, fin (fun h0 => absurd hs (Int32.not_lt.mpr h0))⟩) (fun hs => ?_)
      refine ok_rI j rfl (by show j < 64; omega) ?_
      rw [nI_1]
      have h0 : 0 ≤ s := Int32.not_lt.mp hs
      have q1 : j + 1 ≤ k := by clear hx fin; omega
      have q2 : k - (j + 1) < n := by clear hx fin; omega
      refine ok_if (fun e => ih (j + 1) (nI j) q1 q2 (Or.inl ⟨j, q1, rfl, h0, h.kp q1, by rw [← h.f2 q1]; exact e⟩)) (fun e => ih (j + 1) x2 q1 q2 ?_)
      rcases hx with hx | ⟨h1, h2⟩
      · exact Or.inl hx
      · refine Or.inr ⟨h1, fun h0 i hi => ?_⟩
        rcases Nat.lt_or_ge i j with hij | hij
        · exact h2 h0 i hij
        · rw [show i = j by omega]; exact e
  have hk := h.k64
  exact key 2000 0 (-1) (by omega) (by omega) (Or.inr ⟨rfl, fun _ i hi => by omega⟩)
theorem r_find (h : AMk m A k) (v : Int32) : OK (g_M_find v m) (fun r m' => m' = m ∧ ((∃ p, p < k ∧ r = nI p ∧ m.2.1 1 p = v) ∨ (r = -1 ∧ ¬ aK A v))) := by
  have key : ∀ (n j : Nat) (x2 : Int32), j ≤ k → k - j < n → ((∃ p, p < k ∧ x2 = nI p ∧ m.2.1 1 p = v) ∨ (x2 = -1 ∧ ∀ i, i < j → m.2.1 1 i ≠ v)) → OK (g_M_find_b4 n v x2 (nI j) m) (fun r m' => m' = m ∧ ((∃ p, p < k ∧ r = nI p ∧ m.2.1 1 p = v) ∨ (r = -1 ∧ ¬ aK A v))) := by
    intro n
    induction n with
    | zero => intro j x2 _ h; omega
    | succ n ih =>
      intro j x2 hj hn hx
      rw [g_M_find_b4]
      have hk := h.k64
      refine ok_if (fun hle => ok_ret ⟨rfl, ?_⟩) (fun hlt => ?_)
      · rw [h.n, nI_leI (by omega) (by omega)] at hle
        rcases hx with hx | ⟨h1, h2⟩
        · exact Or.inl hx
        · refine Or.inr ⟨h1, fun hq => ?_⟩
          obtain ⟨i, hi, e⟩ := h.at hq
          exact h2 i (by omega) e
      rw [h.n, nI_leI (by omega) (by omega)] at hlt
      refine ok_rI j rfl (by show j < 64; omega) ?_
      rw [nI_1]
      have q1 : j + 1 ≤ k := by clear hx; omega
      have q2 : k - (j + 1) < n := by clear hx; omega
      refine ok_if (fun e => ih (j + 1) (nI j) q1 q2 (Or.inl ⟨j, q1, rfl, e⟩)) (fun e => ih (j + 1) x2 q1 q2 ?_)
      rcases hx with hx | ⟨h1, h2⟩
      · exact Or.inl hx
      · refine Or.inr ⟨h1, fun i hi => ?_⟩
        rcases Nat.lt_or_ge i j with hij | hij
        · exact h2 i hij
        · rw [show i = j by omega]; exact e
  have hk := h.k64
  exact key 2000 0 (-1) (by omega) (by omega) (Or.inr ⟨rfl, fun i hi => by omega⟩)
/-- a boolean answer that says P -/
abbrev sb (m : MS) (P : Prop) : Int32 → MS → Prop := fun r m' => m' = m ∧ ((r = 1 ∧ P) ∨ (r = 0 ∧ ¬ P))
theorem sb_t {P : Prop} (h : P) : OK (rZm 1 m) (sb m P) := ok_rZ (Or.inr rfl) ⟨rfl, Or.inl ⟨rfl, h⟩⟩
theorem sb_f {P : Prop} (h : ¬ P) : OK (rZm 0 m) (sb m P) := ok_rZ (Or.inl rfl) ⟨rfl, Or.inr ⟨rfl, h⟩⟩
/-- neither had committed when the other one began -/
def conc (A : Ab) (x y : Int32) : Prop := (aF A 4 x = 0 ∨ aF A 3 y < aF A 4 x) ∧ (aF A 4 y = 0 ∨ aF A 3 x < aF A 4 y)
theorem r_concurrent (h : AMk m A k) {a p : Nat} (ha : a < k) (hp : p < k) : OK (g_M_concurrent (nI a) (nI p) m) (sb m (conc A (m.2.1 1 a) (m.2.1 1 p))) := by
  have hk := h.k64
  have a64 : a < mN 4 := by show a < 64; omega
  have p64 : p < mN 4 := by show p < 64; omega
  have h2 : (aF A 4 (m.2.1 1 a) = 0 ∨ aF A 3 (m.2.1 1 p) < aF A 4 (m.2.1 1 a)) → OK (g_M_concurrent_b24 (nI a) (nI p) m) (sb m (conc A (m.2.1 1 a) (m.2.1 1 p))) := fun hl => by
    unfold g_M_concurrent_b24
    refine ok_rI p rfl p64 ?_
    rw [h.f4 hp]
    refine ok_if (fun e => sb_t ⟨hl, Or.inl e⟩) (fun e => ok_rI p rfl p64 (ok_rI a rfl a64 ?_))
    rw [h.f4 hp, h.f3 ha]
    exact ok_if (fun e2 => sb_f (fun q => q.2.elim e (fun z => absurd e2 (Int32.not_le.mpr z)))) (fun e2 => sb_t ⟨hl, Or.inr (Int32.not_le.mp e2)⟩)
  unfold g_M_concurrent
  refine ok_rI a rfl a64 ?_
  rw [h.f4 ha]
  refine ok_if (fun e => h2 (Or.inl e)) (fun e => ok_rI a rfl a64 (ok_rI p rfl p64 ?_))
  rw [h.f4 ha, h.f3 hp]
  exact ok_if (fun e2 => sb_f (fun q => q.1.elim e (fun z => absurd e2 (Int32.not_le.mpr z)))) (fun e2 => h2 (Or.inr (Int32.not_le.mp e2)))
/-- x -> y would be the first of a danger -/
def dang (A : Ab) (x y : Int32) : Prop := aF A 6 y ≠ 0 ∧ (aF A 4 x = 0 ∨ ¬ aF A 4 x < aF A 6 y) ∧ (aF A 4 y = 0 ∨ ¬ aF A 4 y < aF A 6 y)
theorem r_isDanger (hA : AI A) (h : AMk m A k) {a p : Nat} (ha : a < k) (hp : p < k) : OK (g_M_isDanger (nI a) (nI p) m) (sb m (dang A (m.2.1 1 a) (m.2.1 1 p))) := by
  have hk := h.k64
  have a64 : a < mN 4 := by show a < 64; omega
  have p64 : p < mN 4 := by show p < 64; omega
  have h2 : aF A 6 (m.2.1 1 p) ≠ 0 → (aF A 4 (m.2.1 1 a) = 0 ∨ ¬ aF A 4 (m.2.1 1 a) < aF A 6 (m.2.1 1 p)) → OK (g_M_isDanger_b30 (nI p) (aF A 6 (m.2.1 1 p)) m) (sb m (dang A (m.2.1 1 a) (m.2.1 1 p))) := fun hl hl2 => by
    unfold g_M_isDanger_b30
    refine ok_rI p rfl p64 ?_
    rw [h.f4 hp]
    refine ok_if (fun e => sb_t ⟨hl, hl2, Or.inl e⟩) (fun e => ok_rI p rfl p64 ?_)
    rw [h.f4 hp]
    exact ok_if (fun e2 => sb_f (fun q => q.2.2.elim e (fun z => absurd e2 z))) (fun e2 => sb_t ⟨hl, hl2, Or.inr e2⟩)
  unfold g_M_isDanger
  refine ok_rI p rfl (by show p < 64; omega) ?_
  rw [h.f6 hp]
  refine ok_if (fun e => sb_f (fun q => q.1 ((hA.le0 (h.kp hp)).mp e))) (fun e0 => ok_rI a rfl a64 ?_)
  have e0' := fun z => e0 ((hA.le0 (h.kp hp)).mpr z)
  rw [h.f4 ha]
  refine ok_if (fun e => h2 e0' (Or.inl e)) (fun e => ok_rI a rfl a64 ?_)
  rw [h.f4 ha]
  exact ok_if (fun e2 => sb_f (fun q => q.2.1.elim e (fun z => absurd e2 z))) (fun e2 => h2 e0' (Or.inr e2))
end AMR
