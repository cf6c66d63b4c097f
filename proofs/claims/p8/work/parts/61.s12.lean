/-! begin, the version, and what is looked at -/
def bgA (A : Ab) (s : Int32) : Ab := mkA (aB A + 1) (aC A) (fun z => aK A z ∨ z = nI (aB A + 1)) (fun d z => if z = nI (aB A + 1) then (if d = 2 then s else if d = 3 ∨ d = 13 then nI (aC A) else if d = 14 then aF A 14 z else 0) else aF A d z) (fun z => z ≠ nI (aB A + 1) ∧ aD A z) (fun u w => u ≠ nI (aB A + 1) ∧ w ≠ nI (aB A + 1) ∧ aA A u w) (fun z t => if z = nI (aB A + 1) then (False, 0, fun _ => False) else aR A z t) (aH A) (aL A) (aE A)
def ceA (A : Ab) (j : Nat) (x : Int64) : Ab := mkA (aB A) (aC A) (aK A) (aF A) (aD A) (aA A) (aR A) (fun i => aH A i ∨ i = j) (fun i => if i = j then x else aL A i) (aE A)
def clA (A : Ab) : Ab := mkA (aB A) (aC A) (aK A) (aF A) (aD A) (aA A) (aR A) (fun _ => False) (aL A) (aE A)
/-- how many are kept -/
noncomputable def card (A : Ab) : Nat := cnt 513 (fun n => aK A (nI n))
/-- how many kept ones have an arrow to x -/
noncomputable def inA (A : Ab) (x : Int32) : Nat := cnt 513 (fun n => aK A (nI n) ∧ aA A (nI n) x)
theorem fresh {A : Ab} (hA : AI A) {q : Int32} (hq : aK A q) : q ≠ nI (aB A + 1) := by
  obtain ⟨n, h1, h2, e⟩ := hA.2.2.1 q hq
  have := hA.1
  rw [e]
  intro z
  have := (nI_eq (by omega) (by omega)).mp z
  omega
section AMR12
variable {m : MS} {A : Ab} {k : Nat}
theorem am_cnt (hA : AI A) (h : AMk m A k) (Q : Int32 → Prop) : cnt k (fun i => Q (m.2.1 1 i)) = cnt 513 (fun n => aK A (nI n) ∧ Q (nI n)) := by
  have hb := hA.1
  have idn : ∀ i, i < k → ∃ n, 1 ≤ n ∧ n ≤ aB A ∧ m.2.1 1 i = nI n := fun i hi => hA.2.2.1 _ (h.kp hi)
  have cl : ∀ i, i < k → nI (m.2.1 1 i).toNatClampNeg = m.2.1 1 i ∧ (m.2.1 1 i).toNatClampNeg < 513 := fun i hi => by
    obtain ⟨n, h1, h2, e⟩ := idn i hi
    rw [e, nI_clamp (by omega)]
    exact ⟨rfl, by omega⟩
  refine cnt_bij (f := fun i => (m.2.1 1 i).toNatClampNeg) k _ _ (fun i hi hg => ⟨(cl i hi).2, ?_, ?_⟩) (fun i j hi hj _ _ e => ?_) (fun q hq hQ => ?_)
  · show aK A (nI (m.2.1 1 i).toNatClampNeg)
    rw [(cl i hi).1]; exact h.kp hi
  · show Q (nI (m.2.1 1 i).toNatClampNeg)
    rw [(cl i hi).1]; exact hg
  · have e' : (m.2.1 1 i).toNatClampNeg = (m.2.1 1 j).toNatClampNeg := e
    exact h.inj hi hj (by rw [← (cl i hi).1, ← (cl j hj).1, e'])
  · obtain ⟨i, hi, e⟩ := h.at hQ.1
    refine ⟨i, hi, by show Q (m.2.1 1 i); rw [e]; exact hQ.2, ?_⟩
    show (m.2.1 1 i).toNatClampNeg = q
    rw [e, nI_clamp (by omega)]
theorem am_card (hA : AI A) (h : AMk m A k) : k = card A := by
  have := am_cnt hA h (fun _ => True)
  rw [cnt_all k (fun _ _ => trivial)] at this
  rw [this]
  exact cnt_congr (fun i _ => ⟨fun z => z.1, fun z => ⟨z, trivial⟩⟩)
/-- what begin does to the arrays -/
def BgR (m m' : MS) (k b c : Nat) (s : Int32) : Prop := (m'.1 0 = nI (b + 1) ∧ m'.1 1 = nI c ∧ m'.1 2 = nI (k + 1)) ∧ ((∀ i, m'.2.1 1 i = if i = k then nI (b + 1) else m.2.1 1 i) ∧ (∀ i, m'.2.1 2 i = if i = k then s else m.2.1 2 i) ∧ (∀ i, m'.2.1 3 i = if i = k then nI c else m.2.1 3 i) ∧ (∀ i, m'.2.1 4 i = if i = k then 0 else m.2.1 4 i) ∧ (∀ i, m'.2.1 5 i = if i = k then 0 else m.2.1 5 i) ∧ (∀ i, m'.2.1 6 i = if i = k then 0 else m.2.1 6 i)) ∧ (∀ i j, i < 64 → j < 64 → m'.2.1 7 (64 * i + j) = if i = k ∨ j = k then 0 else m.2.1 7 (64 * i + j)) ∧ (∀ y, m'.2.1 8 y = if y / 8 = k then 0 else m.2.1 8 y) ∧ (∀ d, (d = 9 ∨ d = 10 ∨ 13 < d) → m'.2.1 d = m.2.1 d) ∧ m'.2.2 = m.2.2 ∧ ∀ i, m'.2.1 13 i = if i = b + 1 then nI c else m.2.1 13 i
theorem r_begin_f {b c : Nat} (hm : MI b c k m) (hb : b < 512) (hk : k < 64) {s : Int32} (hs0 : ¬ s < 0) (hs6 : ¬ 6 ≤ s) (hr : OK (g_M_running s m) (fun r m' => m' = m ∧ r = -1)) : OK (g_M_begin s m) (fun r m' => r = nI (b + 1) ∧ BgR m m' k b c s) := by
  unfold g_M_begin
  refine ok_if (fun z => absurd z hs0) (fun _ => ok_if (fun z => absurd z hs6) (fun _ => ?_))
  refine ok_bn hr ?_
  rintro r m1 ⟨rfl, rfl⟩
  refine ok_if (fun z => absurd z (by decide)) (fun _ => ok_if (fun z => ?_) (fun _ => ?_))
  · rw [hm.2.2.1, show (64 : Int32) = nI 64 from rfl, nI_eq (by omega) (by omega)] at z; omega
  have hb1 : (wS m1 0 (m1.1 0 + 1)).1 0 = nI (b + 1) := by show m1.1 0 + 1 = _; rw [hm.1, nI_1]
  have hc1 : (wS m1 0 (m1.1 0 + 1)).1 1 = nI c := hm.2.1
  have hk1 : (wS m1 0 (m1.1 0 + 1)).1 2 = nI k := hm.2.2.1
  have e0 : (wS m1 0 (m1.1 0 + 1)).2 = m1.2 := rfl
  generalize wS m1 0 (m1.1 0 + 1) = m2 at hb1 hc1 hk1 e0 ⊢
  refine ok_wI k hk1 (by show k < 64; omega) (ok_wI k hk1 (by show k < 64; omega) (ok_wI k hk1 (by show k < 64; omega) (ok_wI (b + 1) hb1 (by show b + 1 < 520; omega) (ok_wI k hk1 (by show k < 64; omega) (ok_wZ k hk1 (by show k < 64; omega) (Or.inl rfl) (ok_wI k hk1 (by show k < 64; omega) ?_))))))
  -- the tables
  have h164 : ∀ (n j : Nat) (m3 : MS), j ≤ 8 → 8 - j < n → (m3.1 0 = nI (b + 1) ∧ m3.1 1 = nI c ∧ m3.1 2 = nI k) → ((∀ i, m3.2.1 1 i = if i = k then nI (b + 1) else m1.2.1 1 i) ∧ (∀ i, m3.2.1 2 i = if i = k then s else m1.2.1 2 i) ∧ (∀ i, m3.2.1 3 i = if i = k then nI c else m1.2.1 3 i) ∧ (∀ i, m3.2.1 4 i = if i = k then 0 else m1.2.1 4 i) ∧ (∀ i, m3.2.1 5 i = if i = k then 0 else m1.2.1 5 i) ∧ (∀ i, m3.2.1 6 i = if i = k then 0 else m1.2.1 6 i)) → (∀ i j, i < 64 → j < 64 → m3.2.1 7 (64 * i + j) = if i = k ∨ j = k then 0 else m1.2.1 7 (64 * i + j)) → (∀ y, m3.2.1 8 y = if y / 8 = k ∧ y % 8 < j then 0 else m1.2.1 8 y) → (∀ d, (d = 9 ∨ d = 10 ∨ 13 < d) → m3.2.1 d = m1.2.1 d) → m3.2.2 = m1.2.2 → (∀ i, m3.2.1 13 i = if i = b + 1 then nI c else m1.2.1 13 i) → OK (g_M_begin_b164 n (nI j) m3) (fun r m' => r = nI (b + 1) ∧ BgR m1 m' k b c s) := by
    intro n
    induction n with
    | zero => intro j m3 _ h; omega
    | succ n ih =>
      intro j m3 hj hn a1 a2 a3 a4 a5 a6 a7
      rw [g_M_begin_b164]
      refine ok_if (fun hle => ok_ret ⟨a1.1, ⟨a1.1, a1.2.1, ?_⟩, a2, a3, fun y => ?_, a5, a6, a7⟩) (fun hlt => ?_)
      · show m3.1 2 + 1 = _
        rw [a1.2.2, nI_1]
      · rw [show (8 : Int32) = nI 8 from rfl, nI_leI (by omega) (by omega)] at hle
        show m3.2.1 8 y = _
        rw [a4 y]
        by_cases e : y / 8 = k
        · rw [if_pos e, if_pos ⟨e, by omega⟩]
        · rw [if_neg e, if_neg (fun z => e z.1)]
      · rw [show (8 : Int32) = nI 8 from rfl, nI_leI (by omega) (by omega)] at hlt
        refine ok_wI (8 * k + j) (by rw [a1.2.2]; exact ix8 k j) (by show 8 * k + j < 512; omega) ?_
        rw [nI_1]
        refine ih (j + 1) _ (by omega) (by omega) a1 ?_ ?_ (fun y => ?_) (fun d hd => ?_) a6 ?_
        · exact ⟨by rw [sI_ne (by decide)]; exact a2.1, by rw [sI_ne (by decide)]; exact a2.2.1, by rw [sI_ne (by decide)]; exact a2.2.2.1, by rw [sI_ne (by decide)]; exact a2.2.2.2.1, by rw [sI_ne (by decide)]; exact a2.2.2.2.2.1, by rw [sI_ne (by decide)]; exact a2.2.2.2.2.2⟩
        · rw [sI_ne (by decide)]; exact a3
        · rw [sI_at, a4 y]
          by_cases e : y = 8 * k + j
          · rw [if_pos e, if_pos (by omega)]
          · rw [if_neg e]
            by_cases e2 : y / 8 = k ∧ y % 8 < j
            · rw [if_pos e2, if_pos (by omega)]
            · rw [if_neg e2, if_neg (by omega)]
        · rw [sI_ne (by omega)]; exact a5 d hd
        · rw [sI_ne (by decide)]; exact a7
  have h120 : ∀ (n j : Nat) (m3 : MS), j ≤ 64 → 64 - j < n → (m3.1 0 = nI (b + 1) ∧ m3.1 1 = nI c ∧ m3.1 2 = nI k) → ((∀ i, m3.2.1 1 i = if i = k then nI (b + 1) else m1.2.1 1 i) ∧ (∀ i, m3.2.1 2 i = if i = k then s else m1.2.1 2 i) ∧ (∀ i, m3.2.1 3 i = if i = k then nI c else m1.2.1 3 i) ∧ (∀ i, m3.2.1 4 i = if i = k then 0 else m1.2.1 4 i) ∧ (∀ i, m3.2.1 5 i = if i = k then 0 else m1.2.1 5 i) ∧ (∀ i, m3.2.1 6 i = if i = k then 0 else m1.2.1 6 i)) → (∀ i z, i < 64 → z < 64 → m3.2.1 7 (64 * i + z) = if (i = k ∧ z < j) ∨ (z = k ∧ i < j) then 0 else m1.2.1 7 (64 * i + z)) → (∀ y, m3.2.1 8 y = m1.2.1 8 y) → (∀ d, (d = 9 ∨ d = 10 ∨ 13 < d) → m3.2.1 d = m1.2.1 d) → m3.2.2 = m1.2.2 → (∀ i, m3.2.1 13 i = if i = b + 1 then nI c else m1.2.1 13 i) → OK (g_M_begin_b120 n (nI j) m3) (fun r m' => r = nI (b + 1) ∧ BgR m1 m' k b c s) := by
    intro n
    induction n with
    | zero => intro j m3 _ h; omega
    | succ n ih =>
      intro j m3 hj hn a1 a2 a3 a4 a5 a6 a7
      rw [g_M_begin_b120]
      refine ok_if (fun hle => ?_) (fun hlt => ?_)
      · rw [show (64 : Int32) = nI 64 from rfl, nI_leI (by omega) (by omega)] at hle
        refine h164 2000 0 m3 (by omega) (by omega) a1 a2 (fun i z hi hz => ?_) (fun y => ?_) a5 a6 a7
        · rw [a3 i z hi hz]
          by_cases e : i = k ∨ z = k
          · rw [if_pos e, if_pos (by omega)]
          · rw [if_neg e, if_neg (by omega)]
        · rw [if_neg (by omega)]; exact a4 y
      · rw [show (64 : Int32) = nI 64 from rfl, nI_leI (by omega) (by omega)] at hlt
        refine ok_wZ (64 * k + j) (by rw [a1.2.2]; exact ix64 k j) (by show 64 * k + j < 4096; omega) (Or.inl rfl) ?_
        refine ok_wZ (64 * j + k) (by show (64 : Int32) * nI j + m3.1 2 = _; rw [a1.2.2]; exact ix64 j k) (by show 64 * j + k < 4096; omega) (Or.inl rfl) ?_
        rw [nI_1]
        refine ih (j + 1) _ (by omega) (by omega) a1 ?_ (fun i z hi hz => ?_) (fun y => ?_) (fun d hd => ?_) a6 ?_
        · exact ⟨by rw [sI_ne (by decide), sI_ne (by decide)]; exact a2.1, by rw [sI_ne (by decide), sI_ne (by decide)]; exact a2.2.1, by rw [sI_ne (by decide), sI_ne (by decide)]; exact a2.2.2.1, by rw [sI_ne (by decide), sI_ne (by decide)]; exact a2.2.2.2.1, by rw [sI_ne (by decide), sI_ne (by decide)]; exact a2.2.2.2.2.1, by rw [sI_ne (by decide), sI_ne (by decide)]; exact a2.2.2.2.2.2⟩
        · rw [sI_at, sI_at, a3 i z hi hz]
          by_cases e : 64 * i + z = 64 * j + k
          · rw [if_pos e, if_pos (by omega)]
          · rw [if_neg e]
            by_cases e2 : 64 * i + z = 64 * k + j
            · rw [if_pos e2, if_pos (by omega)]
            · rw [if_neg e2]
              by_cases e3 : (i = k ∧ z < j) ∨ (z = k ∧ i < j)
              · rw [if_pos e3, if_pos (by omega)]
              · rw [if_neg e3, if_neg (by omega)]
        · rw [sI_ne (by decide), sI_ne (by decide)]; exact a4 y
        · rw [sI_ne (by omega), sI_ne (by omega)]; exact a5 d hd
        · rw [sI_ne (by decide), sI_ne (by decide)]; exact a7
  refine h120 2000 0 _ (by omega) (by omega) ⟨hb1, hc1, hk1⟩ ⟨fun i => ?_, fun i => ?_, fun i => ?_, fun i => ?_, fun i => ?_, fun i => ?_⟩ (fun i z hi hz => ?_) (fun y => ?_) (fun d hd => ?_) (by show m2.2.2 = _; rw [e0]) (fun i => ?_)
  · simp [sI, e0, hb1]
  · simp [sI, e0]
  · simp [sI, e0, hc1]
  · simp [sI, e0]
  · simp [sI, e0]
  · simp [sI, e0]
  · rw [if_neg (by omega)]; simp [sI, e0]
  · simp [sI, e0]
  · rw [sI_ne (by omega), sI_ne (by omega), sI_ne (by omega), sI_ne (by omega), sI_ne (by omega), sI_ne (by omega), sI_ne (by omega), e0]
  · simp [sI, e0, hc1]
theorem r_begin (hA : AI A) (hb : aB A < 512) (h : AMk m A k) {s : Int32} (hs0 : ¬ s < 0) (hs6 : ¬ 6 ≤ s) (hn : ∀ q, ¬ Run A s q) (hk : k ≠ 64) : OK (g_M_begin s m) (fun r m' => r = nI (aB A + 1) ∧ AMk m' (bgA A s) (k + 1)) := by
  have hk64 := h.k64
  have hrun : OK (g_M_running s m) (fun r m' => m' = m ∧ r = -1) := ok_imp (r_running h s) (fun r m' z => ⟨z.1, by
    rcases z.2 with ⟨p, -, -, hq⟩ | ⟨e, -⟩
    · exact absurd hq (hn _)
    · exact e⟩)
  refine ok_imp (ok_and (r_begin_f h.mi hb (by omega) hs0 hs6 hrun) (s_begin h.mi hb s)) ?_
  rintro r m' ⟨⟨hr, ⟨b1, b2, b3⟩, ⟨c1, c2, c3, c4, c5, c6⟩, c7, c8, c9, c10, c13⟩, b', k', -, hm⟩
  have frs : ∀ i, i < k → m.2.1 1 i ≠ nI (aB A + 1) := fun i hi => fresh hA (h.kp hi)
  have lt : ∀ {i}, i < k + 1 → i ≠ k → i < k := fun h1 h2 => by omega
  refine ⟨hr, ⟨b1, b2, b3, hb, hA.2.1, by omega, hm.gd⟩, fun i hi => ?_, fun q hq => ?_, fun i j hi hj e => ?_, fun i hi => ?_, fun i j hi hj => ?_, fun j hj => ?_, fun n hn => ⟨?_, ?_⟩, by rw [c10]; exact h.hr.2⟩
  · rw [c1]
    by_cases e : i = k
    · rw [if_pos e]; exact Or.inr rfl
    · rw [if_neg e]; exact Or.inl (h.kp (lt hi e))
  · rcases hq with hq | hq
    · obtain ⟨i, hi, e⟩ := h.at hq
      exact ⟨i, by omega, by rw [c1, if_neg (by omega)]; exact e⟩
    · exact ⟨k, by omega, by rw [c1, if_pos rfl]; exact hq.symm⟩
  · rw [c1, c1] at e
    by_cases e1 : i = k
    · by_cases e2 : j = k
      · rw [e1, e2]
      · rw [if_pos e1, if_neg e2] at e; exact absurd e.symm (frs j (lt hj e2))
    · by_cases e2 : j = k
      · rw [if_neg e1, if_pos e2] at e; exact absurd e (frs i (lt hi e1))
      · rw [if_neg e1, if_neg e2] at e; exact h.inj (lt hi e1) (lt hj e2) e
  · rw [c1]
    by_cases e : i = k
    · subst e
      rw [if_pos rfl]
      have F : ∀ d, aF (bgA A s) d (nI (aB A + 1)) = (if d = 2 then s else if d = 3 ∨ d = 13 then nI (aC A) else if d = 14 then aF A 14 (nI (aB A + 1)) else 0) := fun d => if_pos rfl
      refine ⟨⟨?_, ?_, ?_, ?_⟩, ?_, fun t ht => ?_⟩
      · rw [c2, if_pos rfl, F]; rfl
      · rw [c3, if_pos rfl, F]; rfl
      · rw [c4, if_pos rfl, F]; rfl
      · rw [c6, if_pos rfl, F]; rfl
      · rw [c5, if_pos rfl]
        exact ⟨fun z => absurd rfl z, fun z => absurd rfl z.1⟩
      · have eR : aR (bgA A s) (nI (aB A + 1)) t = (False, 0, fun _ => False) := if_pos rfl
        rw [eR]
        refine ⟨fun z => z.elim, fun _ => ⟨Nat.zero_le _, ?_, fun x => ⟨fun z => z.elim, fun ⟨j, hj, _⟩ => absurd hj (Nat.not_lt_zero j)⟩⟩⟩
        rw [c8, if_pos (by omega)]
        rfl
    · rw [if_neg e]
      have hik := lt hi e
      have ne := frs i hik
      have F : ∀ d, aF (bgA A s) d (m.2.1 1 i) = aF A d (m.2.1 1 i) := fun d => if_neg ne
      refine ⟨⟨?_, ?_, ?_, ?_⟩, ?_, fun t ht => ?_⟩
      · rw [c2, if_neg e, F]; exact h.f2 hik
      · rw [c3, if_neg e, F]; exact h.f3 hik
      · rw [c4, if_neg e, F]; exact h.f4 hik
      · rw [c6, if_neg e, F]; exact h.f6 hik
      · rw [c5, if_neg e]
        exact (h.d hik).trans ⟨fun z => ⟨ne, z⟩, fun z => z.2⟩
      · have eR : aR (bgA A s) (m.2.1 1 i) t = aR A (m.2.1 1 i) t := if_neg ne
        rw [eR]
        have he : en m' = en m := by funext z; simp only [en]; rw [c9 9 (Or.inl rfl), c9 10 (Or.inr (Or.inl rfl)), c10]
        have h8 : m'.2.1 8 (8 * i + t) = m.2.1 8 (8 * i + t) := by rw [c8, if_neg (by omega)]
        have := h.r hik ht
        unfold RR at this ⊢
        rw [h8, he, c9 9 (Or.inl rfl)]
        exact this
  · rw [c1, c1, c7 i j (by omega) (by omega)]
    by_cases e1 : i = k
    · rw [if_pos (Or.inl e1), if_pos e1]
      exact ⟨fun z => absurd rfl z, fun z => absurd rfl z.1⟩
    · by_cases e2 : j = k
      · rw [if_pos (Or.inr e2), if_pos e2]
        exact ⟨fun z => absurd rfl z, fun z => absurd rfl z.2.1⟩
      · rw [if_neg (fun z => z.elim e1 e2), if_neg e1, if_neg e2]
        exact (h.a (lt hi e1) (lt hj e2)).trans ⟨fun z => ⟨frs i (lt hi e1), frs j (lt hj e2), z⟩, fun z => z.2.2⟩
  · rw [c9 18 (Or.inr (Or.inr (by decide))), c10]; exact h.v j hj
  · rw [c13]
    show _ = (if nI n = nI (aB A + 1) then _ else _)
    by_cases e : n = aB A + 1
    · rw [if_pos e, if_pos (by rw [e])]; rfl
    · rw [if_neg e, if_neg (fun z => e ((nI_eq (by omega) (by omega)).mp z))]
      exact (h.hr.1 n hn).1
  · rw [c9 14 (Or.inr (Or.inr (by decide))), (h.hr.1 n hn).2]
    show _ = (if nI n = nI (aB A + 1) then _ else _)
    by_cases e : nI n = nI (aB A + 1)
    · rw [if_pos e]; rfl
    · rw [if_neg e]
theorem r_begin_no (h : AMk m A k) {s : Int32} (hc : s < 0 ∨ 6 ≤ s ∨ (∃ q, Run A s q) ∨ k = 64) : OK (g_M_begin s m) (fun r m' => r = -1 ∧ m' = m) := by
  have hk := h.k64
  unfold g_M_begin
  have ret : OK (some ((-1 : Int32), m)) (fun r m' => r = -1 ∧ m' = m) := ok_ret ⟨rfl, rfl⟩
  refine ok_if (fun _ => ret) (fun f1 => ok_if (fun _ => ret) (fun f2 => ok_bn (r_running h s) ?_))
  rintro r m1 ⟨rfl, hh⟩
  refine ok_if (fun _ => ret) (fun f3 => ok_if (fun _ => ret) (fun f4 => ?_))
  exfalso
  rcases hc with z | z | ⟨q, z⟩ | z
  · exact f1 z
  · exact f2 z
  · rcases hh with ⟨p, hp, rfl, -⟩ | ⟨-, e⟩
    · exact f3 (Int32.not_lt.mp (nI_pos (n := p) (by omega)))
    · exact e q z
  · exact f4 (by rw [h.n, z]; rfl)
theorem r_cell (h : AMk m A k) {j : Nat} (hj : j < 8) (x : Int64) : OK (g_M_cell (nI j) x m) (fun r m' => r = 1 ∧ AMk m' (ceA A j x) k) := by
  unfold g_M_cell
  refine ok_if (fun z => absurd z (nI_pos (by omega))) (fun _ => ok_if (fun _ => ?_) (fun z => ?_))
  · refine ok_wZ j rfl (by show j < 8; omega) (Or.inr rfl) (ok_wJ j rfl (by show j < 8; omega) (ok_rZ (Or.inr rfl) ⟨rfl, ?_⟩))
    have g : ∀ d, d ≠ 18 → (sJ (sI m 18 j 1) 19 j x).2.1 d = m.2.1 d := fun d hd => by show (sI m 18 j 1).2.1 d = _; rw [sI_ne hd]
    have g2 : ∀ d, d ≠ 19 → (sJ (sI m 18 j 1) 19 j x).2.2 d = m.2.2 d := fun d hd => by simp [sJ, sI, hd]
    refine ⟨MI_sJ (MI_sI h.mi (okv_z (by decide) (Or.inr rfl))), fun i hi => ?_, fun q hq => ?_, fun i j hi hj e => ?_, fun i hi => ?_, fun i j hi hj => ?_, fun i hi => ⟨?_, ?_⟩, hr_congr (g 13 (by decide)) (g 14 (by decide)) (g2 15 (by decide)) rfl rfl h.hr⟩
    · rw [g 1 (by decide)]; exact h.kp hi
    · rw [g 1 (by decide)]; exact h.at hq
    · rw [g 1 (by decide)] at e; exact h.inj hi hj e
    · rw [g 1 (by decide)]
      refine ⟨⟨?_, ?_, ?_, ?_⟩, ?_, fun t ht => ?_⟩
      · rw [g 2 (by decide)]; exact h.f2 hi
      · rw [g 3 (by decide)]; exact h.f3 hi
      · rw [g 4 (by decide)]; exact h.f4 hi
      · rw [g 6 (by decide)]; exact h.f6 hi
      · rw [g 5 (by decide)]; exact h.d hi
      · exact rr_congr (g 8 (by decide)) (g 9 (by decide)) (g 10 (by decide)) (g2 11 (by decide)) (g2 12 (by decide)) (h.r hi ht)
    · rw [g 1 (by decide), g 7 (by decide)]; exact h.a hi hj
    · show (sI m 18 j 1).2.1 18 i ≠ 0 ↔ (aH A i ∨ i = j)
      rw [sI_at]
      by_cases e : i = j
      · rw [if_pos e]; exact ⟨fun _ => Or.inr e, fun _ => by decide⟩
      · rw [if_neg e]; exact (h.v i hi).1.trans ⟨Or.inl, fun z => z.resolve_right e⟩
    · have e1 : (sJ (sI m 18 j 1) 19 j x).2.2 19 i = if i = j then x else m.2.2 19 i := by simp [sJ, sI]
      rw [e1]
      show _ = (if i = j then _ else _)
      by_cases e : i = j
      · rw [if_pos e, if_pos e]
      · rw [if_neg e, if_neg e]; exact (h.v i hi).2
  · rw [show (7 : Int32) = nI 7 from rfl, nI_leI (by omega) (by omega)] at z; omega
theorem r_clear (h : AMk m A k) : OK (g_M_clear m) (fun _ m' => AMk m' (clA A) k) := by
  have key : ∀ (n j : Nat) (m1 : MS), j ≤ 8 → 8 - j < n → (∀ d, d ≠ 18 → m1.2.1 d = m.2.1 d) → m1.2.2 = m.2.2 → m1.1 = m.1 → (∀ i, i < j → m1.2.1 18 i = 0) → OK (g_M_clear_b2 n (nI j) m1) (fun _ m' => (∀ d, d ≠ 18 → m'.2.1 d = m.2.1 d) ∧ m'.2.2 = m.2.2 ∧ m'.1 = m.1 ∧ ∀ i, i < 8 → m'.2.1 18 i = 0) := by
    intro n
    induction n with
    | zero => intro j m1 _ h; omega
    | succ n ih =>
      intro j m1 hj hn a1 a2 a3 a4
      rw [g_M_clear_b2]
      refine ok_if (fun hle => ok_ret ⟨a1, a2, a3, fun i hi => a4 i ?_⟩) (fun hlt => ?_)
      · rw [show (8 : Int32) = nI 8 from rfl, nI_leI (by omega) (by omega)] at hle; omega
      rw [show (8 : Int32) = nI 8 from rfl, nI_leI (by omega) (by omega)] at hlt
      refine ok_wZ j rfl (by show j < 8; omega) (Or.inl rfl) ?_
      rw [nI_1]
      refine ih (j + 1) _ (by omega) (by omega) (fun d hd => by rw [sI_ne hd]; exact a1 d hd) a2 a3 (fun i hi => ?_)
      rw [sI_at]
      by_cases e : i = j
      · rw [if_pos e]
      · rw [if_neg e]; exact a4 i (by omega)
  refine ok_imp (ok_and (key 2000 0 m (by omega) (by omega) (fun _ _ => rfl) rfl rfl (fun i hi => by omega)) (s_clear h.mi)) ?_
  rintro _ m' ⟨⟨g, g2, -, g4⟩, hm⟩
  refine ⟨hm, fun i hi => ?_, fun q hq => ?_, fun i j hi hj e => ?_, fun i hi => ?_, fun i j hi hj => ?_, fun i hi => ⟨?_, ?_⟩, hr_congr (g 13 (by decide)) (g 14 (by decide)) (by rw [g2]) rfl rfl h.hr⟩
  · rw [g 1 (by decide)]; exact h.kp hi
  · rw [g 1 (by decide)]; exact h.at hq
  · rw [g 1 (by decide)] at e; exact h.inj hi hj e
  · rw [g 1 (by decide)]
    refine ⟨⟨?_, ?_, ?_, ?_⟩, ?_, fun t ht => ?_⟩
    · rw [g 2 (by decide)]; exact h.f2 hi
    · rw [g 3 (by decide)]; exact h.f3 hi
    · rw [g 4 (by decide)]; exact h.f4 hi
    · rw [g 6 (by decide)]; exact h.f6 hi
    · rw [g 5 (by decide)]; exact h.d hi
    · exact rr_congr (g 8 (by decide)) (g 9 (by decide)) (g 10 (by decide)) (by rw [g2]) (by rw [g2]) (h.r hi ht)
  · rw [g 1 (by decide), g 7 (by decide)]; exact h.a hi hj
  · rw [g4 i hi]; exact ⟨fun z => absurd rfl z, fun z => z.elim⟩
  · rw [g2]; exact (h.v i hi).2
/-- what look answers of one that is kept -/
def lookR (A : Ab) (x w r : Int32) : Prop := (w = 0 → (r = 1 ∧ aF A 4 x = 0) ∨ (r = 2 ∧ aF A 4 x ≠ 0)) ∧ (w = 1 → say (aD A x) r) ∧ (w = 2 → r = aF A 3 x) ∧ (w = 3 → r = aF A 4 x) ∧ (w = 4 → r = aF A 6 x) ∧ (w = 5 → r = nI (inA A x))
theorem r_look (hA : AI A) (h : AMk m A k) (x w : Int32) : OK (g_M_look x w m) (fun r m' => m' = m ∧ ((w < 0 ∨ 5 < w) → r = -1) ∧ (¬ (w < 0 ∨ 5 < w) → (aK A x → lookR A x w r) ∧ (¬ aK A x → r = 0))) := by
  have hk := h.k64
  unfold g_M_look g_M_look_b19
  refine ok_bn (r_find h x) ?_
  rintro r m1 ⟨rfl, hf⟩
  refine ok_if (fun z => ok_if (fun _ => ok_ret ⟨rfl, fun _ => rfl, fun q => absurd (Or.inl z) q⟩) (fun q => absurd z q)) (fun n0 => ok_if (fun z => ok_if (fun q => absurd q n0) (fun _ => ok_if (fun q => absurd z (Int32.not_lt.mpr q)) (fun _ => ok_ret ⟨rfl, fun _ => rfl, fun q => absurd (Or.inr z) q⟩))) (fun n5 => ?_))
  have nn : ¬ (w < 0 ∨ 5 < w) := fun q => q.elim n0 n5
  rcases hf with ⟨p, hp, rfl, rfl⟩ | ⟨rfl, hf⟩
  · refine ok_if (fun _ => ?_) (fun z => absurd (Int32.not_lt.mp (nI_pos (n := p) (by omega))) z)
    have key : ∀ (n j : Nat), j ≤ k → k - j < n → OK (g_M_look_b40 n w (nI p) (nI (cnt j (fun i => aA A (m1.2.1 1 i) (m1.2.1 1 p)))) (nI j) m1) (fun r m' => m' = m1 ∧ lookR A (m1.2.1 1 p) w r) := by
      intro n
      induction n with
      | zero => intro j _ h; omega
      | succ n ih =>
        intro j hj hn
        rw [g_M_look_b40]
        refine ok_if (fun hle => ?_) (fun hlt => ?_)
        · rw [h.n, nI_leI (by omega) (by omega)] at hle
          have ej : j = k := by omega
          subst ej
          have p64 : p < 64 := by omega
          refine ok_if (fun e => ok_rI p rfl p64 ?_) (fun w0 => ok_if (fun e => ok_rI p rfl p64 ?_) (fun w1 => ok_if (fun e => ok_rI p rfl p64 (ok_ret ⟨rfl, ?_⟩)) (fun w2 => ok_if (fun e => ok_rI p rfl p64 (ok_ret ⟨rfl, ?_⟩)) (fun w3 => ok_if (fun e => ok_rI p rfl p64 (ok_ret ⟨rfl, ?_⟩)) (fun w4 => ok_ret ⟨rfl, ?_⟩)))))
          · subst e
            rw [h.f4 hp]
            refine ok_if (fun e => ok_ret ⟨rfl, ?_⟩) (fun e => ok_ret ⟨rfl, ?_⟩)
            · exact ⟨fun _ => Or.inl ⟨rfl, e⟩, fun z => absurd z (by decide), fun z => absurd z (by decide), fun z => absurd z (by decide), fun z => absurd z (by decide), fun z => absurd z (by decide)⟩
            · exact ⟨fun _ => Or.inr ⟨rfl, e⟩, fun z => absurd z (by decide), fun z => absurd z (by decide), fun z => absurd z (by decide), fun z => absurd z (by decide), fun z => absurd z (by decide)⟩
          · subst e
            refine ok_if (fun e => ok_ret ⟨rfl, ?_⟩) (fun e => ok_ret ⟨rfl, ?_⟩)
            · exact ⟨fun z => absurd z (by decide), fun _ => Or.inr ⟨rfl, fun q => (h.d hp).mpr q e⟩, fun z => absurd z (by decide), fun z => absurd z (by decide), fun z => absurd z (by decide), fun z => absurd z (by decide)⟩
            · exact ⟨fun z => absurd z (by decide), fun _ => Or.inl ⟨rfl, (h.d hp).mp e⟩, fun z => absurd z (by decide), fun z => absurd z (by decide), fun z => absurd z (by decide), fun z => absurd z (by decide)⟩
          · subst e
            exact ⟨fun z => absurd z (by decide), fun z => absurd z (by decide), fun _ => h.f3 hp, fun z => absurd z (by decide), fun z => absurd z (by decide), fun z => absurd z (by decide)⟩
          · subst e
            exact ⟨fun z => absurd z (by decide), fun z => absurd z (by decide), fun z => absurd z (by decide), fun _ => h.f4 hp, fun z => absurd z (by decide), fun z => absurd z (by decide)⟩
          · subst e
            exact ⟨fun z => absurd z (by decide), fun z => absurd z (by decide), fun z => absurd z (by decide), fun z => absurd z (by decide), fun _ => h.f6 hp, fun z => absurd z (by decide)⟩
          · refine ⟨fun z => absurd z w0, fun z => absurd z w1, fun z => absurd z w2, fun z => absurd z w3, fun z => absurd z w4, fun _ => ?_⟩
            rw [am_cnt hA h (fun z => aA A z (m1.2.1 1 p))]
            rfl
        · rw [h.n, nI_leI (by omega) (by omega)] at hlt
          have hjk : j < k := by omega
          refine ok_rI (64 * j + p) (ix64 j p) (by show 64 * j + p < 4096; omega) (ok_if (fun e => ?_) (fun e => ?_))
          · rw [nI_1]
            have := ih (j + 1) (by omega) (by omega)
            rw [cnt_f (fun q => (h.a hjk hp).mpr q e)] at this
            exact this
          · rw [nI_1, nI_1]
            have := ih (j + 1) (by omega) (by omega)
            rw [cnt_t ((h.a hjk hp).mp e)] at this
            exact this
    exact ok_imp (key 2000 0 (by omega) (by omega)) (fun r m' z => ⟨z.1, fun q => absurd q nn, fun _ => ⟨fun _ => z.2, fun q => absurd (h.kp hp) q⟩⟩)
  · exact ok_if (fun z => absurd z (by decide)) (fun _ => ok_if (fun q => absurd q n0) (fun _ => ok_if (fun _ => ok_ret ⟨rfl, fun q => absurd q nn, fun _ => ⟨fun q => absurd q hf, fun _ => rfl⟩⟩) (fun q => absurd (Int32.not_lt.mp n5) q)))
theorem r_arrow (h : AMk m A k) (x y : Int32) : OK (g_M_arrow x y m) (fun r m' => m' = m ∧ say (aK A x ∧ aK A y ∧ aA A x y) r) := by
  have hk := h.k64
  unfold g_M_arrow
  refine ok_bn (r_find h x) ?_
  rintro r m1 ⟨rfl, hf⟩
  refine ok_bn (r_find h y) ?_
  rintro r2 m2 ⟨rfl, hf2⟩
  rcases hf with ⟨p, hp, rfl, rfl⟩ | ⟨rfl, hf⟩
  · refine ok_if (fun z => absurd z (nI_pos (by omega))) (fun _ => ?_)
    rcases hf2 with ⟨q, hq, rfl, rfl⟩ | ⟨rfl, hf2⟩
    · refine ok_if (fun z => absurd z (nI_pos (by omega))) (fun _ => ok_rI (64 * p + q) (ix64 p q) (by show 64 * p + q < 4096; omega) (ok_if (fun e => ok_rZ (Or.inl rfl) ⟨rfl, Or.inr ⟨rfl, fun z => (h.a hp hq).mpr z.2.2 e⟩⟩) (fun e => ok_rZ (Or.inr rfl) ⟨rfl, Or.inl ⟨rfl, h.kp hp, h.kp hq, (h.a hp hq).mp e⟩⟩)))
    · exact ok_if (fun _ => ok_rZ (Or.inl rfl) ⟨rfl, Or.inr ⟨rfl, fun z => hf2 z.2.1⟩⟩) (fun z => absurd (by decide) z)
  · exact ok_if (fun _ => ok_rZ (Or.inl rfl) ⟨rfl, Or.inr ⟨rfl, fun z => hf z.1⟩⟩) (fun z => absurd (by decide) z)
theorem r_count (hA : AI A) (h : AMk m A k) (w : Int32) : OK (g_M_count w m) (fun r m' => m' = m ∧ r = if w = 0 then nI (card A) else if w = 1 then nI (aB A) else if w = 2 then nI (aC A) else -1) := by
  unfold g_M_count
  refine ok_if (fun e => ok_ret ⟨rfl, ?_⟩) (fun e => ok_if (fun e1 => ok_ret ⟨rfl, ?_⟩) (fun e1 => ok_if (fun e2 => ok_ret ⟨rfl, ?_⟩) (fun e2 => ok_ret ⟨rfl, ?_⟩)))
  · rw [if_pos e, ← am_card hA h]; exact h.n
  · rw [if_neg e, if_pos e1]; exact h.mi.1
  · rw [if_neg e, if_neg e1, if_pos e2]; exact h.mi.2.1
  · rw [if_neg e, if_neg e1, if_neg e2]
end AMR12
