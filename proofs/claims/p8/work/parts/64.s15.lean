/-! no rings -/
def bef (A : Ab) (x y : Int32) : Prop := idb A x ∧ idb A y ∧ 0 < cmI A y ∧ (cmI A x ≤ snI A y ∨ aE A x y)
def Rch (A : Ab) (a y : Int32) : Prop := ∃ (n : Nat) (f : Nat → Int32), 1 ≤ n ∧ f 0 = a ∧ f n = y ∧ ∀ i, i < n → bef A (f i) (f (i + 1))
theorem Rch_one {A : Ab} {a y : Int32} (h : bef A a y) : Rch A a y := ⟨1, fun i => if i = 0 then a else y, Nat.le_refl _, rfl, rfl, fun i hi => by
  rw [show i = 0 by omega]
  exact h⟩
theorem Rch_snoc {A : Ab} {a x y : Int32} (h : Rch A a x) (hb : bef A x y) : Rch A a y := by
  obtain ⟨n, f, h1, h2, h3, h4⟩ := h
  refine ⟨n + 1, fun i => if i ≤ n then f i else y, by omega, ?_, ?_, fun i hi => ?_⟩
  · show (if 0 ≤ n then f 0 else y) = a
    rw [if_pos (Nat.zero_le n)]; exact h2
  · show (if n + 1 ≤ n then f (n + 1) else y) = y
    rw [if_neg (by omega)]
  · show bef A (if i ≤ n then f i else y) (if i + 1 ≤ n then f (i + 1) else y)
    rw [if_pos (by omega)]
    by_cases e : i = n
    · rw [if_neg (by omega), e, h3]; exact hb
    · rw [if_pos (by omega)]; exact h4 i (by omega)
theorem least_at (f : Nat → Nat) : ∃ j, ∀ i, f j ≤ f i := by
  have key : ∀ (v : Nat) (j : Nat), f j = v → ∃ j, ∀ i, f j ≤ f i := by
    intro v
    induction v using Nat.strongRecOn with
    | ind v ih =>
      intro j hj
      by_cases h : ∃ i, f i < v
      · obtain ⟨i, hi⟩ := h
        exact ih (f i) hi i rfl
      · exact ⟨j, fun i => by
          rcases Nat.lt_or_ge (f i) v with w | w
          · exact absurd ⟨i, w⟩ h
          · omega⟩
  exact key (f 0) 0 rfl
theorem no_ring {A : Ab} (h : HV A) (a : Int32) : ¬ Rch A a a := by
  rintro ⟨n, f, h1, h2, h3, h4⟩
  have hn : 0 < n := by omega
  have gb : ∀ i, bef A (f (i % n)) (f ((i + 1) % n)) := fun i => by
    have hi := Nat.mod_lt i hn
    have hb := h4 (i % n) hi
    by_cases e : i % n + 1 < n
    · rw [show (i + 1) % n = i % n + 1 by rw [Nat.add_mod, Nat.mod_eq_of_lt (a := 1) (by omega), Nat.mod_eq_of_lt e]]
      exact hb
    · have e1 : i % n + 1 = n := by omega
      have e2 : (i + 1) % n = 0 := by
        by_cases w : n = 1
        · rw [w]; exact Nat.mod_one _
        · rw [Nat.add_mod, Nat.mod_eq_of_lt (a := 1) (by omega), e1, Nat.mod_self]
      rw [e1] at hb
      rw [e2, h2, ← h3]
      exact hb
  have gc : ∀ i, 0 < cmI A (f (i % n)) := fun i => by
    have := (gb (i + (n - 1))).2.2.1
    rw [show i + (n - 1) + 1 = i + n by omega, Nat.add_mod_right] at this
    exact this
  obtain ⟨j, hj⟩ := least_at (fun i => (cmI A (f (i % n))).toNat)
  have hmin : ∀ i, cmI A (f (j % n)) ≤ cmI A (f (i % n)) := fun i => by
    have w : (cmI A (f (j % n))).toNat ≤ (cmI A (f (i % n))).toNat := hj i
    have c1 := gc j
    have c2 := gc i
    omega
  have m2 : (j + 2 * n) % n = j % n := by
    rw [show j + 2 * n = j + n + n by omega, Nat.add_mod_right, Nat.add_mod_right]
  have b1 := gb (j + 2 * n - 1)
  rw [show j + 2 * n - 1 + 1 = j + 2 * n by omega, m2] at b1
  have b2 := gb (j + 2 * n - 2)
  rw [show j + 2 * n - 2 + 1 = j + 2 * n - 1 by omega] at b2
  have k1 := hmin (j + 2 * n - 1)
  have k2 := hmin (j + 2 * n - 2)
  have c0 := gc j
  have c1 := gc (j + 2 * n - 1)
  have c2 := gc (j + 2 * n - 2)
  have eB : aE A (f ((j + 2 * n - 1) % n)) (f (j % n)) := by
    rcases b1.2.2.2 with w | w
    · have := (h.1.2.2.1 _ b1.2.1).2.2.2.2 c0
      omega
    · exact w
  have eP : aE A (f ((j + 2 * n - 2) % n)) (f ((j + 2 * n - 1) % n)) := by
    rcases b2.2.2.2 with w | w
    · have := (h.1.2.2.2 _ _ eB).1 c0
      omega
    · exact w
  rcases h.2.2 _ _ _ eP eB c0 (Or.inr k2) (Or.inr k1) with w | w
  · have := w.1; omega
  · have := w.1; omega
/-- what a computation answers, if it answers -/
def PC {ρ : Type} (cg : Option (ρ × MS)) (Q : ρ → MS → Prop) : Prop := ∀ r m', cg = some (r, m') → Q r m'
section PCR
variable {ρ : Type} {m : MS} {Q : ρ → MS → Prop}
theorem pc_ret {r : ρ} (h : Q r m) : PC (some (r, m)) Q := fun r' m' e => by cases e; exact h
theorem pc_rZ {x : Int32} {Q : Int32 → MS → Prop} (h : Q x m) : PC (rZm x m) Q := fun r' m' e => by
  unfold rZm at e
  split at e
  · cases e; exact h
  · cases e
theorem pc_if {P : Prop} [Decidable P] {a b : Option (ρ × MS)} (ht : P → PC a Q) (hf : ¬ P → PC b Q) : PC (if P then a else b) Q := by
  by_cases hP : P
  · rw [if_pos hP]; exact ht hP
  · rw [if_neg hP]; exact hf hP
theorem pc_rI {d : Nat} {i : Int32} {K : Int32 → Option (ρ × MS)} (j : Nat) (hi : i = nI j) (hj : j < 2 ^ 31) (h : PC (K (m.2.1 d j)) Q) : PC ((rI m d i).bind K) Q := fun r m' e => by
  subst hi
  unfold rI at e
  rw [nI_clamp hj] at e
  split at e
  · cases e
  · exact h r m' e
theorem pc_rJ {d : Nat} {i : Int32} {K : Int64 → Option (ρ × MS)} (j : Nat) (hi : i = nI j) (hj : j < 2 ^ 31) (h : PC (K (m.2.2 d j)) Q) : PC ((rJ m d i).bind K) Q := fun r m' e => by
  subst hi
  unfold rJ at e
  rw [nI_clamp hj] at e
  split at e
  · cases e
  · exact h r m' e
theorem pc_wI {d : Nat} {i x : Int32} {K : MS → Option (ρ × MS)} (j : Nat) (hi : i = nI j) (hj : j < 2 ^ 31) (h : PC (K (sI m d j x)) Q) : PC ((wI m d i x).bind K) Q := fun r m' e => by
  subst hi
  unfold wI at e
  rw [nI_clamp hj] at e
  split at e
  · cases e
  · exact h r m' e
theorem pc_wZ {d : Nat} {i x : Int32} {K : MS → Option (ρ × MS)} (j : Nat) (hi : i = nI j) (hj : j < 2 ^ 31) (h : PC (K (sI m d j x)) Q) : PC ((wZ m d i x).bind K) Q := fun r m' e => by
  unfold wZ at e
  split at e
  · exact pc_wI j hi hj h r m' e
  · cases e
theorem pc_bn {σ : Type} {c : Option (σ × MS)} {K : σ → MS → Option (ρ × MS)} {Q1 : σ → MS → Prop} (hc : PC c Q1) (h : ∀ r m1, Q1 r m1 → PC (K r m1) Q) : PC (bnM c K) Q := fun r m' e => by
  unfold bnM at e
  obtain ⟨⟨x, m1⟩, e1, e2⟩ := Option.bind_eq_some_iff.mp e
  exact h x m1 (hc x m1 e1) r m' e2
theorem pc_none : PC (none : Option (ρ × MS)) Q := fun _ _ e => by cases e
theorem ok_pc {cg : Option (ρ × MS)} {Q1 : ρ → MS → Prop} (a : OK cg Q1) (b : PC cg Q) : OK cg (fun r m => Q1 r m ∧ Q r m) := by
  obtain ⟨r, m1, e, q⟩ := a
  exact ⟨r, m1, e, q, b r m1 e⟩
end PCR
theorem sh_bit {w : Int64} {i : Nat} (hi : i < 64) (h : lg_cmp ((w >>> (Int32.toInt64 (nI i) &&& 63)) &&& 1) 1 = 0) : tb w i := by
  have h1 : ∀ i : Fin 64, (((Int32.toInt64 (nI i.val) &&& 63) : Int64).toBitVec.smod 64).toNat = i.val := by decide +kernel
  have h2 : (w >>> (Int32.toInt64 (nI i) &&& 63)) &&& 1 = 1 := by
    unfold lg_cmp at h
    split at h
    · exact absurd h (by decide)
    · split at h
      · assumption
      · exact absurd h (by decide)
  have h3 := congrArg (fun x : Int64 => x.toBitVec.getLsbD 0) h2
  simp only [Int64.toBitVec_and, BitVec.getLsbD_and, Int64.toBitVec_shiftRight, BitVec.sshiftRight'] at h3
  have h1' : (((nI i).toInt64.toBitVec &&& (63 : Int64).toBitVec).smod 64).toNat = i := h1 ⟨i, hi⟩
  rw [h1', BitVec.getLsbD_sshiftRight] at h3
  unfold tb
  simpa [hi] using h3
section AMR15
variable {m : MS} {A : Ab} {k : Nat}
/-- the same, but for the two rows that the search writes -/
def sm (m m' : MS) : Prop := (∀ d, d ≠ 16 → d ≠ 17 → m'.2.1 d = m.2.1 d) ∧ m'.2.2 = m.2.2 ∧ m'.1 = m.1
theorem sm_rfl : sm m m := ⟨fun _ _ _ => rfl, rfl, rfl⟩
theorem sm_sI {m1 : MS} {d i : Nat} {x : Int32} (h : sm m m1) (hd : d = 16 ∨ d = 17) : sm m (sI m1 d i x) := ⟨fun q q1 q2 => by rw [sI_ne (by omega)]; exact h.1 q q1 q2, h.2.1, h.2.2⟩
theorem am_sm {m1 : MS} (h : AMk m A k) (hs : sm m m1) (hg : Gd m1) : AMk m1 A k := by
  obtain ⟨g, g2, g3⟩ := hs
  refine ⟨⟨by rw [g3]; exact h.1.1, by rw [g3]; exact h.1.2.1, by rw [g3]; exact h.1.2.2.1, h.1.2.2.2.1, h.1.2.2.2.2.1, h.k64, hg⟩, fun i hi => ?_, fun q hq => ?_, fun i j hi hj e => ?_, fun i hi => ?_, fun i j hi hj => ?_, fun i hi => ⟨?_, ?_⟩, hr_congr (g 13 (by decide) (by decide)) (g 14 (by decide) (by decide)) (by rw [g2]) rfl rfl h.hr⟩
  · rw [g 1 (by decide) (by decide)]; exact h.kp hi
  · rw [g 1 (by decide) (by decide)]; exact h.at hq
  · rw [g 1 (by decide) (by decide)] at e; exact h.inj hi hj e
  · rw [g 1 (by decide) (by decide)]
    refine ⟨⟨?_, ?_, ?_, ?_⟩, ?_, fun t ht => ?_⟩
    · rw [g 2 (by decide) (by decide)]; exact h.f2 hi
    · rw [g 3 (by decide) (by decide)]; exact h.f3 hi
    · rw [g 4 (by decide) (by decide)]; exact h.f4 hi
    · rw [g 6 (by decide) (by decide)]; exact h.f6 hi
    · rw [g 5 (by decide) (by decide)]; exact h.d hi
    · exact rr_congr (g 8 (by decide) (by decide)) (g 9 (by decide) (by decide)) (g 10 (by decide) (by decide)) (by rw [g2]) (by rw [g2]) (h.r hi ht)
  · rw [g 1 (by decide) (by decide), g 7 (by decide) (by decide)]; exact h.a hi hj
  · rw [g 18 (by decide) (by decide)]; exact (h.v i hi).1
  · rw [g2]; exact (h.v i hi).2
theorem p_isBefore (h : AMk m A k) (hb : aB A ≤ 512) {m1 : MS} (hs : sm m m1) {x y : Nat} (hx : 1 ≤ x ∧ x ≤ aB A) (hy : 1 ≤ y ∧ y ≤ aB A) : PC (g_M_isBefore (nI x) (nI y) m1) (fun r m' => m' = m1 ∧ (r ≠ 0 → bef A (nI x) (nI y))) := by
  have e14 : ∀ n, n ≤ 512 → m1.2.1 14 n = aF A 14 (nI n) := fun n hn => by rw [hs.1 14 (by decide) (by decide)]; exact (h.hr.1 n hn).2
  have e13 : ∀ n, n ≤ 512 → m1.2.1 13 n = aF A 13 (nI n) := fun n hn => by rw [hs.1 13 (by decide) (by decide)]; exact (h.hr.1 n hn).1
  have z : PC (rZm 0 m1) (fun r m' => m' = m1 ∧ (r ≠ 0 → bef A (nI x) (nI y))) := pc_rZ ⟨rfl, fun w => absurd rfl w⟩
  have i0 : (0 : Int32).toInt = 0 := rfl
  unfold g_M_isBefore
  refine pc_rI y rfl (by omega) ?_
  rw [e14 y (by omega)]
  refine pc_if (fun _ => z) (fun n0 => ?_)
  have cy : 0 < cmI A (nI y) := by
    rw [Int32.le_iff_toInt_le] at n0
    show 0 < (aF A 14 (nI y)).toInt
    omega
  refine pc_rI x rfl (by omega) (pc_rI y rfl (by omega) ?_)
  rw [e14 x (by omega), e13 y (by omega)]
  refine pc_if (fun w => pc_rZ ⟨rfl, fun _ => ⟨⟨x, hx.1, hx.2, rfl⟩, ⟨y, hy.1, hy.2, rfl⟩, cy, Or.inl ?_⟩⟩) (fun _ => ?_)
  · rw [Int32.le_iff_toInt_le] at w; exact w
  have e2 : (9 : Int32) * nI x + nI y / (64 : Int32) = nI (9 * x + y / 64) := by
    rw [show (9 : Int32) = nI 9 from rfl, show (64 : Int32) = nI 64 from rfl, pk_mul, pk_div (by omega) (by omega) (by omega), nI_add]
  refine pc_rJ (9 * x + y / 64) e2 (by omega) ?_
  rw [show (64 : Int32) = nI 64 from rfl, pk_rem (by omega) (by omega) (by omega)]
  refine pc_if (fun w => pc_rZ ⟨rfl, fun _ => ⟨⟨x, hx.1, hx.2, rfl⟩, ⟨y, hy.1, hy.2, rfl⟩, cy, Or.inr ?_⟩⟩) (fun _ => z)
  rw [← h.hr.2 x y (by omega) (by omega), ← hs.2.1]
  exact sh_bit (by omega) w
theorem p_comesBack (h : AMk m A k) (hb : aB A ≤ 512) (hv : HV A) {m0 : MS} (hs0 : sm m m0) {a : Nat} (ha : 1 ≤ a ∧ a ≤ aB A) : PC (g_M_comesBack (nI a) m0) (fun r m' => r = 0 ∧ sm m m') := by
  have eb : ∀ m1, sm m m1 → m1.1 0 = nI (aB A) := fun m1 hs => by rw [hs.2.2]; exact h.mi.1
  -- who is met has been come to
  have h127 : ∀ m1, sm m m1 → (m1.2.1 16 a ≠ 0 → Rch A (nI a) (nI a)) → PC (g_M_comesBack_b127 (nI a) m1) (fun r m' => r = 0 ∧ sm m m') := fun m1 hs hm => by
    unfold g_M_comesBack_b127
    refine pc_rI a rfl (by omega) (pc_rZ ⟨?_, hs⟩)
    by_cases e : m1.2.1 16 a = 0
    · exact e
    · exact absurd (hm e) (no_ring hv _)
  have h51 : ∀ (G : Int32 → Int32 → Int32 → MS → Option (Int32 × MS)) (q B : Nat), B < 2 ^ 30 → q < B → (∀ (n : Nat) (m1 : MS), n ≤ B + 512 → sm m m1 → (∀ i, 1 ≤ i → i ≤ aB A → m1.2.1 16 i ≠ 0 → Rch A (nI a) (nI i)) → (∀ j, j < n → ∃ y, (1 ≤ y ∧ y ≤ aB A) ∧ m1.2.1 17 j = nI y ∧ (y = a ∨ Rch A (nI a) (nI y))) → PC (G (nI a) (nI n) (nI q + 1) m1) (fun r m' => r = 0 ∧ sm m m')) → ∀ (f j n : Nat) (m1 : MS), 1 ≤ j → j ≤ aB A + 1 → q < n → n ≤ B + j - 1 → sm m m1 → (∀ i, 1 ≤ i → i ≤ aB A → m1.2.1 16 i ≠ 0 → Rch A (nI a) (nI i)) → (∀ j, j < n → ∃ y, (1 ≤ y ∧ y ≤ aB A) ∧ m1.2.1 17 j = nI y ∧ (y = a ∨ Rch A (nI a) (nI y))) → PC (g_M_comesBack_b51 G f (nI a) (nI n) (nI q) (nI j) m1) (fun r m' => r = 0 ∧ sm m m') := by
    intro G q B hB hq hG f
    induction f with
    | zero => intros; exact pc_none
    | succ f ih =>
      intro j n m1 hj hj2 hqn hnB hs hm hrow
      rw [g_M_comesBack_b51]
      refine pc_if (fun _ => hG n m1 (by omega) hs hm hrow) (fun hlt => ?_)
      rw [eb m1 hs, nI_ltI (by omega) (by omega)] at hlt
      have hjb : j ≤ aB A := by omega
      have skip : PC (g_M_comesBack_b51 G f (nI a) (nI n) (nI q) (nI j + 1) m1) (fun r m' => r = 0 ∧ sm m m') := by
        rw [nI_1]
        exact ih (j + 1) n m1 (by omega) (by omega) hqn (by omega) hs hm hrow
      refine pc_rI j rfl (by omega) (pc_if (fun _ => ?_) (fun _ => skip))
      obtain ⟨x, hx, ex, hxr⟩ := hrow q hqn
      refine pc_rI q rfl (by omega) ?_
      rw [ex]
      refine pc_bn (p_isBefore h hb hs hx ⟨hj, hjb⟩) ?_
      rintro r m2 ⟨rfl, hbf⟩
      refine pc_if (fun _ => skip) (fun hr => ?_)
      have hj' : Rch A (nI a) (nI j) := by
        rcases hxr with w | w
        · rw [w] at hbf; exact Rch_one (hbf hr)
        · exact Rch_snoc w (hbf hr)
      refine pc_wZ j rfl (by omega) (pc_wI n rfl (by omega) ?_)
      have hs3 : sm m (sI (sI m2 16 j 1) 17 n (nI j)) := sm_sI (sm_sI hs (Or.inl rfl)) (Or.inr rfl)
      have hm3 : ∀ i, 1 ≤ i → i ≤ aB A → (sI (sI m2 16 j 1) 17 n (nI j)).2.1 16 i ≠ 0 → Rch A (nI a) (nI i) := fun i i1 i2 => by
        rw [sI_ne (by decide), sI_at]
        by_cases e : i = j
        · rw [if_pos e, e]; exact fun _ => hj'
        · rw [if_neg e]; exact hm i i1 i2
      have hr3 : ∀ z, z < n + 1 → ∃ y, (1 ≤ y ∧ y ≤ aB A) ∧ (sI (sI m2 16 j 1) 17 n (nI j)).2.1 17 z = nI y ∧ (y = a ∨ Rch A (nI a) (nI y)) := fun z hz => by
        rw [sI_at]
        by_cases e : z = n
        · exact ⟨j, ⟨hj, hjb⟩, by rw [if_pos e], Or.inr hj'⟩
        · rw [if_neg e, sI_ne (by decide)]; exact hrow z (by omega)
      rw [nI_1 j]
      refine pc_if (fun _ => ?_) (fun _ => ?_)
      · exact ih (j + 1) n _ (by omega) (by omega) hqn (by omega) hs3 hm3 (fun z hz => hr3 z (by omega))
      · rw [nI_1 n]
        exact ih (j + 1) (n + 1) _ (by omega) (by omega) (by omega) (by omega) hs3 hm3 hr3
  have h34 : ∀ (f q n : Nat) (m1 : MS), n ≤ 600 * (q + 1) → q < 2 ^ 20 - f → f ≤ 2000 → sm m m1 → (∀ i, 1 ≤ i → i ≤ aB A → m1.2.1 16 i ≠ 0 → Rch A (nI a) (nI i)) → (∀ j, j < n → ∃ y, (1 ≤ y ∧ y ≤ aB A) ∧ m1.2.1 17 j = nI y ∧ (y = a ∨ Rch A (nI a) (nI y))) → PC (g_M_comesBack_b34 f (nI a) (nI n) (nI q) m1) (fun r m' => r = 0 ∧ sm m m') := by
    intro f
    induction f with
    | zero => intros; exact pc_none
    | succ f ih =>
      intro q n m1 hn hq hf hs hm hrow
      rw [g_M_comesBack_b34]
      refine pc_if (fun _ => h127 m1 hs (hm a ha.1 ha.2)) (fun hlt => ?_)
      rw [nI_leI (by omega) (by omega)] at hlt
      refine pc_rI a rfl (by omega) (pc_if (fun _ => ?_) (fun _ => h127 m1 hs (hm a ha.1 ha.2)))
      refine h51 (g_M_comesBack_b34 f) q (n + 1) (by omega) (by omega) (fun n' m2 hn' hs2 hm2 hr2 => ?_) 2000 1 n m1 (by omega) (by omega) (by omega) (by omega) hs hm hrow
      rw [nI_1]
      exact ih (q + 1) n' m2 (by omega) (by omega) (by omega) hs2 hm2 hr2
  have h2 : ∀ (f j : Nat) (m1 : MS), 1 ≤ j → j ≤ aB A + 1 → sm m m1 → (∀ i, 1 ≤ i → i < j → m1.2.1 16 i = 0) → PC (g_M_comesBack_b2 f (nI a) (nI j) m1) (fun r m' => r = 0 ∧ sm m m') := by
    intro f
    induction f with
    | zero => intros; exact pc_none
    | succ f ih =>
      intro j m1 hj hj2 hs h0
      rw [g_M_comesBack_b2]
      refine pc_if (fun hlt => ?_) (fun hlt => ?_)
      · rw [eb m1 hs, nI_ltI (by omega) (by omega)] at hlt
        refine pc_wI 0 rfl (by omega) ?_
        refine h34 2000 0 1 _ (by omega) (by omega) (by omega) (sm_sI hs (Or.inr rfl)) (fun i i1 i2 hne => ?_) (fun z hz => ⟨a, ha, ?_, Or.inl rfl⟩)
        · rw [sI_ne (by decide)] at hne
          exact absurd (h0 i i1 (by omega)) hne
        · rw [show z = 0 by omega]; exact sI_self
      · rw [eb m1 hs, nI_ltI (by omega) (by omega)] at hlt
        refine pc_wZ j rfl (by omega) ?_
        rw [nI_1]
        refine ih (j + 1) _ (by omega) (by omega) (sm_sI hs (Or.inl rfl)) (fun i i1 i2 => ?_)
        rw [sI_at]
        by_cases e : i = j
        · rw [if_pos e]
        · rw [if_neg e]; exact h0 i i1 (by omega)
  exact h2 2000 1 m0 (by omega) (by omega) hs0 (fun i i1 i2 => by omega)
theorem p_rings (h : AMk m A k) (hb : aB A ≤ 512) (hv : HV A) : PC (g_M_rings m) (fun r m' => r = 0 ∧ sm m m') := by
  have key : ∀ (f j : Nat) (m1 : MS), 1 ≤ j → j ≤ aB A + 1 → sm m m1 → PC (g_M_rings_b4 f 0 (nI j) m1) (fun r m' => r = 0 ∧ sm m m') := by
    intro f
    induction f with
    | zero => intros; exact pc_none
    | succ f ih =>
      intro j m1 hj hj2 hs
      rw [g_M_rings_b4]
      refine pc_if (fun _ => pc_ret ⟨rfl, hs⟩) (fun hlt => ?_)
      rw [show m1.1 0 = nI (aB A) by rw [hs.2.2]; exact h.mi.1, nI_ltI (by omega) (by omega)] at hlt
      unfold g_M_rings_b35
      rw [nI_1 j]
      refine pc_rI j rfl (by omega) (pc_if (fun _ => ih (j + 1) m1 (by omega) (by omega) hs) (fun _ => ?_))
      refine pc_bn (p_comesBack h hb hv hs ⟨hj, by omega⟩) ?_
      rintro r m2 ⟨rfl, hs2⟩
      exact pc_if (fun _ => ih (j + 1) m2 (by omega) (by omega) hs2) (fun w => absurd rfl w)
  exact key 2000 1 m (by omega) (by omega) sm_rfl
/-- the reference answers that there are no rings -/
theorem r_rings (hA : AI A) (hv : HV A) (h : AMk m A k) : OK (g_M_rings m) (fun r m' => r = 0 ∧ AMk m' A k) := by
  refine ok_imp (ok_pc (s_rings h.mi) (p_rings h hA.1 hv)) ?_
  rintro r m' ⟨hm, hr, hs⟩
  exact ⟨hr, am_sm h hs hm.gd⟩
end AMR15
