/-! arrows and dooms, in the reference -/
section AMR5
variable {m : MS} {A : Ab} {k : Nat}
theorem rr_congr {m m' : MS} {i t : Nat} {g : RN} (h8 : m'.2.1 8 = m.2.1 8) (h9 : m'.2.1 9 = m.2.1 9) (h10 : m'.2.1 10 = m.2.1 10) (h11 : m'.2.2 11 = m.2.2 11) (h12 : m'.2.2 12 = m.2.2 12) (h : RR m i t g) : RR m' i t g := by
  have he : en m' = en m := by funext z; simp only [en, h9, h10, h11, h12]
  unfold RR
  rw [h8, h9, he]
  exact h
/-- the same but for doomed, least and the arrows -/
theorem am_upd (h : AMk m A k) {m' : MS} {A' : Ab} (hm : MI (aB A') (aC A') k m') (h1 : ∀ d, d ≠ 5 → d ≠ 6 → d ≠ 7 → m'.2.1 d = m.2.1 d) (h2 : ∀ d, d ≠ 15 → m'.2.2 d = m.2.2 d) (eK : aK A' = aK A) (eF : ∀ d q, d ≠ 6 → aF A' d q = aF A d q) (eR : aR A' = aR A) (eH : aH A' = aH A) (eL : aL A' = aL A) (e6 : ∀ i, i < k → m'.2.1 6 i = aF A' 6 (m.2.1 1 i)) (e5 : ∀ i, i < k → (m'.2.1 5 i ≠ 0 ↔ aD A' (m.2.1 1 i))) (e7 : ∀ i j, i < k → j < k → (m'.2.1 7 (64 * i + j) ≠ 0 ↔ aA A' (m.2.1 1 i) (m.2.1 1 j))) (e15 : ∀ n q, n ≤ 512 → q ≤ 512 → (tb (m'.2.2 15 (9 * n + q / 64)) (q % 64) ↔ aE A' (nI n) (nI q))) : AMk m' A' k := by
  have e1 := h1 1 (by decide) (by decide) (by decide)
  refine ⟨hm, fun i hi => ?_, fun q hq => ?_, fun i j hi hj e => ?_, fun i hi => ?_, fun i j hi hj => ?_, fun j hj => ?_, fun n hn => ⟨?_, ?_⟩, e15⟩
  · rw [e1, eK]; exact h.kp hi
  · rw [e1]; rw [eK] at hq; exact h.at hq
  · rw [e1] at e; exact h.inj hi hj e
  · rw [e1]
    refine ⟨⟨?_, ?_, ?_, e6 i hi⟩, e5 i hi, fun t ht => ?_⟩
    · rw [h1 2 (by decide) (by decide) (by decide), eF 2 _ (by decide)]; exact h.f2 hi
    · rw [h1 3 (by decide) (by decide) (by decide), eF 3 _ (by decide)]; exact h.f3 hi
    · rw [h1 4 (by decide) (by decide) (by decide), eF 4 _ (by decide)]; exact h.f4 hi
    · rw [eR]
      exact rr_congr (h1 8 (by decide) (by decide) (by decide)) (h1 9 (by decide) (by decide) (by decide)) (h1 10 (by decide) (by decide) (by decide)) (h2 11 (by decide)) (h2 12 (by decide)) (h.r hi ht)
  · rw [e1]; exact e7 i j hi hj
  · rw [h1 18 (by decide) (by decide) (by decide), h2 19 (by decide), eH, eL]; exact h.v j hj
  · rw [h1 13 (by decide) (by decide) (by decide), eF 13 _ (by decide)]; exact (h.hr.1 n hn).1
  · rw [h1 14 (by decide) (by decide) (by decide), eF 14 _ (by decide)]; exact (h.hr.1 n hn).2
/-- one bit more -/
theorem ev_set {m m' : MS} {A : Ab} {y z : Nat} (h : ∀ n q, n ≤ 512 → q ≤ 512 → (tb (m.2.2 15 (9 * n + q / 64)) (q % 64) ↔ aE A (nI n) (nI q))) (hy : y ≤ 512) (hz : z ≤ 512) (hm : ∀ i, m'.2.2 15 i = if i = 9 * y + z / 64 then m.2.2 15 (9 * y + z / 64) ||| (1 : Int64) <<< (Int32.toInt64 (nI z - nI z / (64 : Int32) * (64 : Int32)) &&& 63) else m.2.2 15 i) : ∀ n q, n ≤ 512 → q ≤ 512 → (tb (m'.2.2 15 (9 * n + q / 64)) (q % 64) ↔ (aE A (nI n) (nI q) ∨ (nI n = nI y ∧ nI q = nI z))) := by
  intro n q hn hq
  rw [hm]
  rw [nI_eq (by omega) (by omega), nI_eq (by omega) (by omega)]
  by_cases e : 9 * n + q / 64 = 9 * y + z / 64
  · have e1 : n = y := by omega
    subst e1
    rw [if_pos e, show (64 : Int32) = nI 64 from rfl, pk_rem (by omega) (by omega) (by omega), tb_or (by omega) (by omega), ← h n q hn hq, e]
    refine or_congr Iff.rfl ⟨fun w => ⟨rfl, by omega⟩, fun w => by rw [w.2]⟩
  · rw [if_neg e, h n q hn hq]
    exact ⟨Or.inl, fun w => w.elim id (fun w => absurd (by rw [w.1, w.2]) e)⟩
/-- doomed -/
theorem am_dm (h : AMk m A k) {i : Nat} (hi : i < k) : AMk (sI m 5 i 1) (dmA A (m.2.1 1 i)) k := by
  refine am_upd h (MI_sI h.mi (okv_z (by decide) (Or.inr rfl))) (fun d h5 _ _ => sI_ne h5) (fun _ _ => rfl) rfl (fun _ _ _ => rfl) rfl rfl rfl (fun j hj => ?_) (fun j hj => ?_) (fun a b ha hb => ?_) h.hr.2
  · rw [sI_ne (by decide)]; exact h.f6 hj
  · rw [sI_at]
    show _ ↔ (aD A _ ∨ _ = _)
    by_cases e : j = i
    · subst e
      rw [if_pos rfl]
      exact ⟨fun _ => Or.inr rfl, fun _ => by decide⟩
    · rw [if_neg e, h.d hj]
      exact ⟨Or.inl, fun z => z.elim id (fun z => absurd (h.inj hj hi z) e)⟩
  · rw [sI_ne (by decide)]; exact h.a ha hb
/-- a value is written where it stands -/
theorem am_d0 (h : AMk m A k) {i : Nat} {x : Int32} (hx : m.2.1 5 i = x) : AMk (sI m 5 i x) A k := by
  have : sI m 5 i x = m := by
    subst hx
    unfold sI
    have : (fun q => if q = 5 then fun j => if j = i then m.2.1 5 i else m.2.1 5 j else m.2.1 q) = m.2.1 := by
      funext q
      by_cases e : q = 5
      · subst e
        rw [if_pos rfl]
        funext j
        by_cases e : j = i
        · rw [if_pos e, e]
        · rw [if_neg e]
      · rw [if_neg e]
    rw [this]
  rw [this]
  exact h
theorem r_point (hA : AI A) (h : AMk m A k) {a p : Nat} (ha : a < k) (hp : p < k) : OK (g_M_point (nI a) (nI p) m) (fun _ m' => AMk m' (ptA A (m.2.1 1 a) (m.2.1 1 p)) k ∧ m'.2.1 1 = m.2.1 1 ∧ m'.2.1 5 = m.2.1 5) := by
  have hk := h.k64
  have an : ∀ {x : Int32}, okv 6 x := okv_any (by decide) (by decide) (by decide) (by decide) (by decide) (by decide) (by decide) (by decide)
  -- what is left, once least is known
  have fin : ∀ (z : Nat) (w : Int64) (x : Int32), (∀ n q, n ≤ 512 → q ≤ 512 → (tb ((sJ (sI m 7 (64 * a + p) 1) 15 z w).2.2 15 (9 * n + q / 64)) (q % 64) ↔ aE (ptA A (m.2.1 1 a) (m.2.1 1 p)) (nI n) (nI q))) → x = aF (ptA A (m.2.1 1 a) (m.2.1 1 p)) 6 (m.2.1 1 a) → AMk (sI (sJ (sI m 7 (64 * a + p) 1) 15 z w) 6 a x) (ptA A (m.2.1 1 a) (m.2.1 1 p)) k   := fun z w x hE hx => by
    refine am_upd h (MI_sI (MI_sJ (MI_sI h.mi (okv_z (by decide) (Or.inr rfl)))) an) (fun d _ h6 h7 => ?_) (fun d hd => ?_) rfl (fun d q hd => ?_) rfl rfl rfl (fun j hj => ?_) (fun j hj => ?_) (fun i j hi hj => ?_) hE
    · rw [sI_ne h6]; show (sI m 7 (64 * a + p) 1).2.1 d = _; rw [sI_ne h7]
    · simp [sI, sJ, hd]
    · show (if _ then _ else _) = _
      rw [if_neg (fun z => hd z.1)]
    · rw [sI_at]
      by_cases e : j = a
      · rw [if_pos e, hx, e]
      · rw [if_neg e]
        show (sI m 7 (64 * a + p) 1).2.1 6 j = _
        rw [sI_ne (by decide), h.f6 hj]
        show _ = (if _ then _ else _)
        rw [if_neg (fun z => e (h.inj hj ha z.2.1))]
    · rw [sI_ne (by decide)]
      show (sI m 7 (64 * a + p) 1).2.1 5 j ≠ 0 ↔ _
      rw [sI_ne (by decide)]
      exact h.d hj
    · rw [sI_ne (by decide)]
      show (sI m 7 (64 * a + p) 1).2.1 7 _ ≠ 0 ↔ (aA A _ _ ∨ _)
      rw [sI_at]
      by_cases e : 64 * i + j = 64 * a + p
      · have e1 : i = a := by omega
        have e2 : j = p := by omega
        subst e1 e2
        rw [if_pos rfl]
        exact ⟨fun _ => Or.inr ⟨rfl, rfl⟩, fun _ => by decide⟩
      · rw [if_neg e, h.a hi hj]
        refine ⟨Or.inl, fun z => z.elim id (fun z => absurd ?_ e)⟩
        rw [h.inj hi ha z.1, h.inj hj hp z.2]
  have same : ∀ (z : Nat) (w : Int64) (x : Int32), (sI (sJ (sI m 7 (64 * a + p) 1) 15 z w) 6 a x).2.1 1 = m.2.1 1 ∧ (sI (sJ (sI m 7 (64 * a + p) 1) 15 z w) 6 a x).2.1 5 = m.2.1 5 := fun z w x => by
    constructor
    · rw [sI_ne (by decide)]; show (sI m 7 (64 * a + p) 1).2.1 1 = _; rw [sI_ne (by decide)]
    · rw [sI_ne (by decide)]; show (sI m 7 (64 * a + p) 1).2.1 5 = _; rw [sI_ne (by decide)]
  have g4 : ∀ (z : Nat) (w : Int64) (d : Nat), d ≠ 7 → (sJ (sI m 7 (64 * a + p) 1) 15 z w).2.1 d = m.2.1 d := fun z w d hd => by
    show (sI m 7 (64 * a + p) 1).2.1 d = _
    rw [sI_ne hd]
  have h110 : ∀ (z : Nat) (w : Int64), (∀ n q, n ≤ 512 → q ≤ 512 → (tb ((sJ (sI m 7 (64 * a + p) 1) 15 z w).2.2 15 (9 * n + q / 64)) (q % 64) ↔ aE (ptA A (m.2.1 1 a) (m.2.1 1 p)) (nI n) (nI q))) → (aF A 4 (m.2.1 1 p) ≠ 0 ∧ (aF A 6 (m.2.1 1 a) = 0 ∨ aF A 4 (m.2.1 1 p) < aF A 6 (m.2.1 1 a))) → OK (g_M_point_b110 (nI p) (nI a) (sJ (sI m 7 (64 * a + p) 1) 15 z w)) (fun _ m' => AMk m' (ptA A (m.2.1 1 a) (m.2.1 1 p)) k ∧ m'.2.1 1 = m.2.1 1 ∧ m'.2.1 5 = m.2.1 5) := fun z w hE hc => by
    unfold g_M_point_b110
    refine ok_rI p rfl (by show p < 64; omega) (ok_wI a rfl (by show a < 64; omega) (ok_ret ⟨fin z w _ hE ?_, same z w _⟩))
    rw [g4 z w 4 (by decide), h.f4 hp]
    show _ = (if _ then _ else _)
    rw [if_pos ⟨rfl, rfl, hc⟩]
  have h119 : ∀ (z : Nat) (w : Int64), (∀ n q, n ≤ 512 → q ≤ 512 → (tb ((sJ (sI m 7 (64 * a + p) 1) 15 z w).2.2 15 (9 * n + q / 64)) (q % 64) ↔ aE (ptA A (m.2.1 1 a) (m.2.1 1 p)) (nI n) (nI q))) → (¬ (aF A 4 (m.2.1 1 p) ≠ 0 ∧ (aF A 6 (m.2.1 1 a) = 0 ∨ aF A 4 (m.2.1 1 p) < aF A 6 (m.2.1 1 a)))) → OK (g_M_point_b119 (nI a) (nI a) (sJ (sI m 7 (64 * a + p) 1) 15 z w)) (fun _ m' => AMk m' (ptA A (m.2.1 1 a) (m.2.1 1 p)) k ∧ m'.2.1 1 = m.2.1 1 ∧ m'.2.1 5 = m.2.1 5) := fun z w hE hc => by
    unfold g_M_point_b119
    refine ok_rI a rfl (by show a < 64; omega) (ok_wI a rfl (by show a < 64; omega) (ok_ret ⟨fin z w _ hE ?_, same z w _⟩))
    rw [g4 z w 6 (by decide), h.f6 ha]
    show _ = (if _ then _ else _)
    rw [if_neg (fun q => hc q.2.2)]
  unfold g_M_point
  refine ok_wZ (64 * a + p) (ix64 a p) (by show 64 * a + p < 4096; omega) (Or.inr rfl) ?_
  have e1 : (sI m 7 (64 * a + p) 1).2.1 1 = m.2.1 1 := sI_ne (by decide)
  obtain ⟨y, hy, ey⟩ := gd_id h.gd (Or.inl rfl) a
  obtain ⟨z, hz, ez⟩ := gd_id h.gd (Or.inl rfl) p
  refine ok_rI a rfl (by show a < 64; omega) (ok_rI p rfl (by show p < 64; omega) (ok_rI a rfl (by show a < 64; omega) (ok_rI p rfl (by show p < 64; omega) ?_)))
  have e2 : (9 : Int32) * (sI m 7 (64 * a + p) 1).2.1 1 a + (sI m 7 (64 * a + p) 1).2.1 1 p / (64 : Int32) = nI (9 * y + z / 64) := by
    rw [e1, ey, ez, show (9 : Int32) = nI 9 from rfl, show (64 : Int32) = nI 64 from rfl, pk_mul, pk_div (by omega) (by omega) (by omega), nI_add]
  refine ok_rJ (9 * y + z / 64) e2 (by show 9 * y + z / 64 < 4680; omega) (ok_rI p rfl (by show p < 64; omega) (ok_wJ (9 * y + z / 64) e2 (by show 9 * y + z / 64 < 4680; omega) ?_))
  have hE := ev_set h.hr.2 hy hz (m' := sJ (sI m 7 (64 * a + p) 1) 15 (9 * y + z / 64) ((sI m 7 (64 * a + p) 1).2.2 15 (9 * y + z / 64) ||| (1 : Int64) <<< (Int32.toInt64 ((sI m 7 (64 * a + p) 1).2.1 1 p - (sI m 7 (64 * a + p) 1).2.1 1 p / (64 : Int32) * (64 : Int32)) &&& 63))) (fun i => by
    rw [e1, ez]
    simp [sJ, sI])
  rw [← ey, ← ez] at hE
  revert hE
  generalize (sI m 7 (64 * a + p) 1).2.2 15 (9 * y + z / 64) ||| _ = W
  intro hE
  refine ok_rI p rfl (by show p < 64; omega) ?_
  rw [g4 _ _ 4 (by decide), h.f4 hp]
  refine ok_if (fun e => h119 _ _ hE (fun q => q.1 ((hA.pl0 (h.kp hp)).mp e))) (fun e => ok_rI a rfl (by show a < 64; omega) ?_)
  have e' : aF A 4 (m.2.1 1 p) ≠ 0 := fun q => e ((hA.pl0 (h.kp hp)).mpr q)
  rw [g4 _ _ 6 (by decide), h.f6 ha]
  refine ok_if (fun e0 => h110 _ _ hE ⟨e', Or.inl e0⟩) (fun e0 => ok_rI p rfl (by show p < 64; omega) (ok_rI a rfl (by show a < 64; omega) ?_))
  rw [g4 _ _ 6 (by decide), g4 _ _ 4 (by decide), h.f6 ha, h.f4 hp]
  exact ok_if (fun e3 => h119 _ _ hE (fun q => q.2.elim e0 (fun z => absurd e3 (Int32.not_le.mpr z)))) (fun e3 => h110 _ _ hE ⟨e', Or.inr (Int32.not_le.mp e3)⟩)
end AMR5
