/-! ranges -/
def loA (g : RG) (x : Int64) : Prop := (¬ (g.2.1 &&& 4) = 0) ∨ ((g.2.1 &&& 1) = 0 ∧ ¬ lg_cmp x g.2.2.1 < 0) ∨ ((¬ (g.2.1 &&& 1) = 0) ∧ ¬ lg_cmp x g.2.2.1 ≤ 0)
def hiA (g : RG) (x : Int64) : Prop := (¬ (g.2.1 &&& 8) = 0) ∨ ((g.2.1 &&& 2) = 0 ∧ ¬ 0 < lg_cmp x g.2.2.2) ∨ ((¬ (g.2.1 &&& 2) = 0) ∧ ¬ 0 ≤ lg_cmp x g.2.2.2)
/-- the version in hand is in it -/
def inG (A : Ab) (g : RG) : Prop := g.1 < 0 ∨ (aH A g.1.toNatClampNeg ∧ loA g (aL A g.1.toNatClampNeg) ∧ hiA g (aL A g.1.toNatClampNeg))
def inR (A : Ab) (q : Int32) (t : Nat) : Prop := (aR A q t).1 ∨ ∃ g, (aR A q t).2.2 g ∧ inG A g
def sameG (g w : RG) : Prop := g.1 = w.1 ∧ g.2.1 = w.2.1 ∧ ((¬ (w.2.1 &&& 4) = 0) ∨ lg_cmp g.2.2.1 w.2.2.1 = 0) ∧ ((¬ (w.2.1 &&& 8) = 0) ∨ lg_cmp g.2.2.2 w.2.2.2 = 0)
section AMR3
variable {m : MS} {A : Ab} {k : Nat}
theorem r_isSame {j : Nat} (hj : j < 4096) (x2 : Int32) (x3 x5 : Int64) (x7 : Int32) : OK (g_M_isSame (nI j) x2 x3 x5 x7 m) (sb m (sameG (en m j) (x2, x7, x3, x5))) := by
  have h51 : m.2.1 9 j = x2 → m.2.1 10 j = x7 → ((¬ (x7 &&& 4) = 0) ∨ lg_cmp (m.2.2 11 j) x3 = 0) → OK (g_M_isSame_b51 (nI j) x5 x7 m) (sb m (sameG (en m j) (x2, x7, x3, x5))) := fun h1 h2 h3 => by
    unfold g_M_isSame_b51
    exact ok_if (fun e => ok_rJ j rfl hj (ok_if (fun e2 => sb_t ⟨h1, h2, h3, Or.inr e2⟩) (fun e2 => sb_f (fun q => q.2.2.2.elim (fun z => z e) e2)))) (fun e => sb_t ⟨h1, h2, h3, Or.inl e⟩)
  unfold g_M_isSame g_M_isSame_b25 g_M_isSame_b26
  refine ok_rI j rfl hj (ok_if (fun e1 => ok_rI j rfl hj (ok_if (fun e2 => ok_if (fun z => absurd z (by decide)) (fun _ => ?_)) (fun e => ok_if (fun _ => sb_f (fun q => e q.2.1)) (fun z => absurd rfl z)))) (fun e => ok_if (fun _ => sb_f (fun q => e q.1)) (fun z => absurd rfl z)))
  exact ok_if (fun e => ok_rJ j rfl hj (ok_if (fun e3 => h51 e1 e2 (Or.inr e3)) (fun e3 => sb_f (fun q => q.2.2.1.elim (fun z => z e) e3)))) (fun e => h51 e1 e2 (Or.inl e))
theorem r_isIn (h : AMk m A k) {j : Nat} (hj : j < 4096) : OK (g_M_isIn (nI j) m) (sb m (inG A (en m j))) := by
  unfold g_M_isIn
  refine ok_rI j rfl hj (ok_if (fun e => ?_) (fun e => ?_))
  · unfold g_M_isIn_b20
    exact ok_if (fun z => absurd e (Int32.not_lt.mpr z)) (fun _ => sb_t (Or.inl e))
  obtain hc | ⟨y, hy, ec⟩ := gd_c h.gd j
  · exact absurd hc e
  have e9 : (en m j).1 = nI y := ec
  have ecl : (en m j).1.toNatClampNeg = y := by rw [e9, nI_clamp (by omega)]
  rw [ec]
  obtain ⟨v1, v2⟩ := h.v y hy
  refine ok_rI y rfl (by show y < 8; omega) (ok_if (fun e0 => ?_) (fun e0 => ?_))
  · unfold g_M_isIn_b20
    refine ok_if (fun _ => sb_f (fun q => ?_)) (fun z => absurd (Int32.not_lt.mp (nI_pos (n := y) (by omega))) z)
    rcases q with q | ⟨q, -⟩
    · exact e q
    · rw [ecl] at q; exact v1.mpr q e0
  have hy' : aH A y := v1.mp e0
  have h89 : ∀ z : Int32, (z = 0 ∨ z = 1) → (z ≠ 0 ↔ loA (en m j) (aL A y)) → OK (g_M_isIn_b89 (nI j) (m.2.2 19 y) (m.2.1 10 j) z m) (sb m (inG A (en m j))) := fun z hz hl => by
    unfold g_M_isIn_b89
    rw [v2]
    refine ok_if (fun e1 => sb_f (fun q => ?_)) (fun e1 => ?_)
    · rcases q with q | ⟨q1, q2, q3⟩
      · exact e q
      · rw [ecl] at q2; exact hl.mpr q2 e1
    have yes : hiA (en m j) (aL A y) → inG A (en m j) := fun q => Or.inr (by rw [ecl]; exact ⟨hy', hl.mp e1, q⟩)
    have no : ¬ hiA (en m j) (aL A y) → ¬ inG A (en m j) := fun q w => by
      rcases w with w | ⟨w1, w2, w3⟩
      · exact e w
      · rw [ecl] at w3; exact q w3
    exact ok_if (fun f1 => ok_if (fun f2 => ok_rJ j rfl hj (ok_if (fun f3 => sb_f (no (fun q => q.elim (fun z => z f1) (fun q => q.elim (fun z => z.2 f3) (fun z => z.1 f2))))) (fun f3 => sb_t (yes (Or.inr (Or.inl ⟨f2, f3⟩))))))
      (fun f2 => ok_rJ j rfl hj (ok_if (fun f3 => sb_f (no (fun q => q.elim (fun z => z f1) (fun q => q.elim (fun z => f2 z.1) (fun z => z.2 f3))))) (fun f3 => sb_t (yes (Or.inr (Or.inr ⟨f2, f3⟩))))))) (fun f1 => sb_t (yes (Or.inl f1)))
  unfold g_M_isIn_b84 g_M_isIn_b88
  refine ok_rJ y rfl (by show y < 8; omega) (ok_rI j rfl hj ?_)
  refine ok_if (fun f1 => ok_if (fun f2 => ok_rJ j rfl hj (ok_if (fun f3 => h89 0 (Or.inl rfl) ?_) (fun f3 => h89 1 (Or.inr rfl) ?_))) (fun f2 => ok_rJ j rfl hj (ok_if (fun f3 => h89 0 (Or.inl rfl) ?_) (fun f3 => h89 1 (Or.inr rfl) ?_)))) (fun f1 => h89 1 (Or.inr rfl) ?_)
  · rw [v2] at f3
    exact ⟨fun z => absurd rfl z, fun q => (q.elim (fun z => z f1) (fun q => q.elim (fun z => z.2 f3) (fun z => z.1 f2))).elim⟩
  · rw [v2] at f3
    exact ⟨fun _ => Or.inr (Or.inl ⟨f2, f3⟩), fun _ => by decide⟩
  · rw [v2] at f3
    exact ⟨fun z => absurd rfl z, fun q => (q.elim (fun z => z f1) (fun q => q.elim (fun z => f2 z.1) (fun z => z.2 f3))).elim⟩
  · rw [v2] at f3
    exact ⟨fun _ => Or.inr (Or.inr ⟨f2, f3⟩), fun _ => by decide⟩
  · exact ⟨fun _ => Or.inl f1, fun _ => by decide⟩
theorem rr_in (h : AMk m A k) {p t : Nat} (hp : p < k) (ht : t < 8) : ∃ y, y ≤ 8 ∧ m.2.1 8 (8 * p + t) = nI y ∧ (inR A (m.2.1 1 p) t ↔ ∃ j, j < y ∧ inG A (en m (8 * (8 * p + t) + j))) := by
  obtain ⟨y, hy, ey⟩ := gd_r h.gd (8 * p + t)
  refine ⟨y, hy, ey, ?_⟩
  obtain ⟨r1, r2⟩ := h.r hp ht
  by_cases hw : (aR A (m.2.1 1 p) t).1
  · obtain ⟨e1, e2⟩ := r1 hw
    have : y = 1 := (nI_eq (by omega) (by omega)).mp (ey.symm.trans e1)
    subst this
    refine ⟨fun _ => ⟨0, by omega, Or.inl ?_⟩, fun _ => Or.inl hw⟩
    show m.2.1 9 _ < 0
    rw [Nat.add_zero, e2]
    decide
  · obtain ⟨e0, e1, e2⟩ := r2 hw
    have ez : y = (aR A (m.2.1 1 p) t).2.1 := (nI_eq (by omega) (by omega)).mp (ey.symm.trans e1)
    constructor
    · rintro (q | ⟨g, hg, hi⟩)
      · exact absurd q hw
      · obtain ⟨j, hj, e⟩ := (e2 g).mp hg
        exact ⟨j, by omega, by rw [e]; exact hi⟩
    · rintro ⟨j, hj, hi⟩
      exact Or.inr ⟨_, (e2 _).mpr ⟨j, by omega, rfl⟩, hi⟩
theorem r_hasRead (h : AMk m A k) {p t : Nat} (hp : p < k) (ht : t < 8) : OK (g_M_hasRead (nI p) (nI t) m) (sb m (inR A (m.2.1 1 p) t)) := by
  have hk := h.k64
  obtain ⟨y, hy, ey, hin⟩ := rr_in h hp ht
  rw [hin]
  have key : ∀ (n j : Nat) (x3 : Int32), j ≤ y → y - j < n → ((x3 = 1 ∧ ∃ i, i < j ∧ inG A (en m (8 * (8 * p + t) + i))) ∨ (x3 = 0 ∧ ¬ ∃ i, i < j ∧ inG A (en m (8 * (8 * p + t) + i)))) → OK (g_M_hasRead_b5 n (nI p) (nI t) x3 (nI j) m) (sb m (∃ j, j < y ∧ inG A (en m (8 * (8 * p + t) + j)))) := by
    intro n
    induction n with
    | zero => intro j x3 _ h; omega
    | succ n ih =>
      intro j x3 hj hn hx
      have hx01 : x3 = 0 ∨ x3 = 1 := hx.elim (fun z => Or.inr z.1) (fun z => Or.inl z.1)
      rw [g_M_hasRead_b5]
      refine ok_rI (8 * p + t) (ix8 p t) (by show 8 * p + t < 512; omega) ?_
      rw [ey]
      refine ok_if (fun hle => ok_rZ hx01 ⟨rfl, ?_⟩) (fun hlt => ?_)
      · rw [nI_leI (by omega) (by omega)] at hle
        rw [show y = j by omega]
        exact hx
      rw [nI_leI (by omega) (by omega)] at hlt
      have q1 : j + 1 ≤ y := by clear hx; omega
      have q2 : y - (j + 1) < n := by clear hx; omega
      refine ok_if (fun hz => ?_) (fun hz => ?_)
      · refine ok_bn (r_isIn h (j := 8 * (8 * p + t) + j) (by clear hx; omega) |> fun h => by rw [ix8, ix8]; exact h) ?_
        rintro r m1 ⟨rfl, hr⟩
        refine ok_if (fun hr0 => ?_) (fun hr0 => ?_)
        · rw [nI_1]
          refine ih (j + 1) 0 q1 q2 (Or.inr ⟨rfl, ?_⟩)
          rintro ⟨i, hi, hg⟩
          rcases Nat.lt_or_ge i j with hij | hij
          · rcases hx with ⟨h1, -⟩ | ⟨-, h2⟩
            · rw [hz] at h1; exact absurd h1 (by decide)
            · exact h2 ⟨i, hij, hg⟩
          · rw [show i = j by omega] at hg
            rcases hr with ⟨h1, -⟩ | ⟨-, h2⟩
            · rw [hr0] at h1; exact absurd h1 (by decide)
            · exact h2 hg
        · unfold g_M_hasRead_b44
          rw [nI_1]
          refine ih (j + 1) 1 q1 q2 (Or.inl ⟨rfl, j, by omega, ?_⟩)
          rcases hr with ⟨-, h2⟩ | ⟨h1, -⟩
          · exact h2
          · exact absurd h1 hr0
      · unfold g_M_hasRead_b44
        rw [nI_1]
        rcases hx with ⟨-, i, h1, h2⟩ | ⟨h1, -⟩
        · exact ih (j + 1) 1 q1 q2 (Or.inl ⟨rfl, i, by omega, h2⟩)
        · exact absurd h1 hz
  exact key 2000 0 0 (by omega) (by omega) (Or.inr ⟨rfl, fun ⟨i, hi, _⟩ => by omega⟩)
/-- a range is read -/
noncomputable def rdN (g : RN) (w : RG) : RN := (g.1 ∨ w.1 < 0 ∨ ((¬ ∃ x, g.2.2 x ∧ sameG x w) ∧ g.2.1 = 8), @ite Nat (∃ x, g.2.2 x ∧ sameG x w) (Classical.propDecidable _) g.2.1 (g.2.1 + 1), fun y => g.2.2 y ∨ ((¬ ∃ x, g.2.2 x ∧ sameG x w) ∧ y = w))
noncomputable def rdA (A : Ab) (q : Int32) (t : Nat) (w : RG) : Ab := mkA (aB A) (aC A) (aK A) (aF A) (aD A) (aA A) (fun z u => if z = q ∧ u = t then rdN (aR A q t) w else aR A z u) (aH A) (aL A) (aE A)
theorem am_rd (h : AMk m A k) {m' : MS} {p t : Nat} {w : RG} (hp : p < k) (ht : t < 8) (hm : MI (aB A) (aC A) k m') (h1 : ∀ d, d ≠ 8 → d ≠ 9 → d ≠ 10 → m'.2.1 d = m.2.1 d) (h19 : m'.2.2 19 = m.2.2 19) (h15 : m'.2.2 15 = m.2.2 15) (h8 : ∀ z, z ≠ 8 * p + t → m'.2.1 8 z = m.2.1 8 z) (hb : ∀ z, z / 8 ≠ 8 * p + t → en m' z = en m z) (hR : RR m' p t (rdN (aR A (m.2.1 1 p) t) w)) : AMk m' (rdA A (m.2.1 1 p) t w) k := by
  have e1 := h1 1 (by decide) (by decide) (by decide)
  refine ⟨hm, fun i hi => ?_, fun q hq => ?_, fun i j hi hj e => ?_, fun i hi => ?_, fun i j hi hj => ?_, fun j hj => ?_, hr_congr (h1 13 (by decide) (by decide) (by decide)) (h1 14 (by decide) (by decide) (by decide)) h15 rfl rfl h.hr⟩
  · rw [e1]; exact h.kp hi
  · rw [e1]; exact h.at hq
  · rw [e1] at e; exact h.inj hi hj e
  · rw [e1]
    refine ⟨⟨?_, ?_, ?_, ?_⟩, ?_, fun u hu => ?_⟩
    · rw [h1 2 (by decide) (by decide) (by decide)]; exact h.f2 hi
    · rw [h1 3 (by decide) (by decide) (by decide)]; exact h.f3 hi
    · rw [h1 4 (by decide) (by decide) (by decide)]; exact h.f4 hi
    · rw [h1 6 (by decide) (by decide) (by decide)]; exact h.f6 hi
    · rw [h1 5 (by decide) (by decide) (by decide)]; exact h.d hi
    · by_cases e : i = p ∧ u = t
      · obtain ⟨rfl, rfl⟩ := e
        show RR m' i u (if _ then _ else _)
        rw [if_pos ⟨rfl, rfl⟩]
        exact hR
      · have e' : ¬ (m.2.1 1 i = m.2.1 1 p ∧ u = t) := fun q => e ⟨h.inj hi hp q.1, q.2⟩
        show RR m' i u (if _ then _ else _)
        rw [if_neg e']
        have en' : ∀ j, j < 8 → en m' (8 * (8 * i + u) + j) = en m (8 * (8 * i + u) + j) := fun j hj => hb _ (by
          rw [show (8 * (8 * i + u) + j) / 8 = 8 * i + u by omega]
          intro q
          exact e ⟨by omega, by omega⟩)
        have c8 : m'.2.1 8 (8 * i + u) = m.2.1 8 (8 * i + u) := h8 _ (fun q => e ⟨by omega, by omega⟩)
        obtain ⟨r1, r2⟩ := h.r hi hu
        refine ⟨fun hw => ?_, fun hw => ?_⟩
        · obtain ⟨a1, a2⟩ := r1 hw
          have z := congrArg (fun x : RG => x.1) (en' 0 (by omega))
          exact ⟨by rw [c8]; exact a1, z.trans a2⟩
        · obtain ⟨a0, a1, a2⟩ := r2 hw
          refine ⟨a0, by rw [c8]; exact a1, fun x => (a2 x).trans ⟨?_, ?_⟩⟩
          · rintro ⟨j, hj, e⟩
            exact ⟨j, hj, by rw [en' j (by omega)]; exact e⟩
          · rintro ⟨j, hj, e⟩
            exact ⟨j, hj, by rw [← en' j (by omega)]; exact e⟩
  · rw [e1, h1 7 (by decide) (by decide) (by decide)]; exact h.a hi hj
  · rw [h1 18 (by decide) (by decide) (by decide), h19]; exact h.v j hj
end AMR3
