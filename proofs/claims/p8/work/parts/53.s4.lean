/-! read, in the reference -/
def setz (m : MS) (z : Nat) (w : RG) : MS := sI (sJ (sJ (sI m 9 z w.1) 11 z w.2.2.1) 12 z w.2.2.2) 10 z w.2.1
theorem setz_en {m : MS} {z y : Nat} {w : RG} : en (setz m z w) y = if y = z then w else en m y := by
  by_cases e : y = z
  · rw [if_pos e]; simp [en, setz, sI, sJ, e]
  · rw [if_neg e]; simp [en, setz, sI, sJ, e]
theorem setz_ne {m : MS} {z d : Nat} {w : RG} (h9 : d ≠ 9) (h10 : d ≠ 10) : (setz m z w).2.1 d = m.2.1 d := by simp [setz, sI, sJ, h9, h10]
theorem setz_15 {m : MS} {z : Nat} {w : RG} : (setz m z w).2.2 15 = m.2.2 15 := by simp [setz, sI, sJ]
theorem setz_19 {m : MS} {z : Nat} {w : RG} : (setz m z w).2.2 19 = m.2.2 19 := by simp [setz, sI, sJ]
theorem r_setRange {m : MS} {j : Nat} (hj : j < 4096) (x2 : Int32) (x3 x5 : Int64) (x7 : Int32) : OK (g_M_setRange (nI j) x2 x3 x5 x7 m) (fun _ m' => m' = setz m j (x2, x7, x3, x5)) := by
  unfold g_M_setRange
  exact ok_wI j rfl hj (ok_wJ j rfl hj (ok_wJ j rfl hj (ok_wI j rfl hj (ok_ret rfl))))
section AMR4
variable {m : MS} {A : Ab} {k : Nat}
theorem mi_setz {b c k : Nat} {m : MS} {z : Nat} {w : RG} (h : MI b c k m) (hw : okv 9 w.1) : MI b c k (setz m z w) :=
  MI_sI (MI_sJ (MI_sJ (MI_sI h hw))) (okv_any (by decide) (by decide) (by decide) (by decide) (by decide) (by decide) (by decide) (by decide))
/-- one range is set, and the number of ranges -/
theorem am_set (h : AMk m A k) {p t j n : Nat} {w w' : RG} (hp : p < k) (ht : t < 8) (hj : j < 8) (hn : n ≤ 8) (hw : okv 9 w'.1) (hR : RR (sI (setz m (8 * (8 * p + t) + j) w') 8 (8 * p + t) (nI n)) p t (rdN (aR A (m.2.1 1 p) t) w)) : AMk (sI (setz m (8 * (8 * p + t) + j) w') 8 (8 * p + t) (nI n)) (rdA A (m.2.1 1 p) t w) k := by
  refine am_rd h hp ht (MI_sI (mi_setz h.mi hw) (okv_r hn)) (fun d h8 h9 h10 => ?_) ?_ (setz_15 (m := m) (z := 8 * (8 * p + t) + j) (w := w')) (fun z hz => ?_) (fun z hz => ?_) hR
  · rw [sI_ne h8, setz_ne h9 h10]
  · exact setz_19 (m := m) (z := 8 * (8 * p + t) + j) (w := w')
  · rw [sI_at, if_neg hz, setz_ne (by decide) (by decide)]
  · have : en (sI (setz m (8 * (8 * p + t) + j) w') 8 (8 * p + t) (nI n)) z = en (setz m (8 * (8 * p + t) + j) w') z := by
      simp only [en]
      rw [sI_ne (by decide), sI_ne (by decide)]
      rfl
    rw [this, setz_en, if_neg (by intro e; omega)]
theorem en_s8 {m : MS} {i z : Nat} {x : Int32} : en (sI m 8 i x) z = en m z := by
  simp only [en]
  rw [sI_ne (by decide), sI_ne (by decide)]
  rfl
theorem r_read_b186 (h : AMk m A k) {p t : Nat} {w : RG} (hp : p < k) (ht : t < 8) (hw : (rdN (aR A (m.2.1 1 p) t) w).1) : OK (g_M_read_b186 (nI t) (nI p) (nI (8 * (8 * p + t))) m) (fun _ m' => AMk m' (rdA A (m.2.1 1 p) t w) k) := by
  have hk := h.k64
  unfold g_M_read_b186
  refine ok_bnU (r_setRange (j := 8 * (8 * p + t)) (by omega) _ _ _ _) ?_
  rintro m1 rfl
  refine ok_wI (8 * p + t) (ix8 p t) (by show 8 * p + t < 512; omega) (ok_ret ?_)
  refine am_set (j := 0) (n := 1) h hp ht (by omega) (by omega) (okv_c (Or.inl (by decide))) ⟨fun _ => ⟨?_, ?_⟩, fun q => absurd hw q⟩
  · exact sI_self
  · have := congrArg (fun x : RG => x.1) (en_s8 (m := setz m (8 * (8 * p + t) + 0) (-1, 0, 0, 0)) (i := 8 * p + t) (z := 8 * (8 * p + t)) (x := nI 1))
    refine this.trans ?_
    rw [Nat.add_zero, setz_en, if_pos rfl]
/-- nothing is added -/
theorem am_same (h : AMk m A k) {p t : Nat} {w : RG} (hp : p < k) (ht : t < 8) (hs : (aR A (m.2.1 1 p) t).1 ∨ (¬ w.1 < 0 ∧ ∃ x, (aR A (m.2.1 1 p) t).2.2 x ∧ sameG x w)) : AMk m (rdA A (m.2.1 1 p) t w) k := by
  refine am_rd h hp ht h.mi (fun _ _ _ _ => rfl) rfl rfl (fun _ _ => rfl) (fun _ _ => rfl) ?_
  obtain ⟨r1, r2⟩ := h.r hp ht
  rcases hs with hs | ⟨h0, hs⟩
  · exact ⟨fun _ => r1 hs, fun q => absurd (Or.inl hs) q⟩
  · refine ⟨fun q => ?_, fun q => ?_⟩
    · rcases q with q | q | q
      · exact r1 q
      · exact absurd q h0
      · exact absurd hs q.1
    · obtain ⟨a0, a1, a2⟩ := r2 (fun z => q (Or.inl z))
      have en : (rdN (aR A (m.2.1 1 p) t) w).2.1 = (aR A (m.2.1 1 p) t).2.1 := if_pos hs
      rw [en]
      refine ⟨a0, a1, fun x => ?_⟩
      rw [← a2 x]
      exact ⟨fun z => z.elim id (fun z => absurd hs z.1), Or.inl⟩
theorem r_read_p (hA : AI A) (h : AMk m A k) {p t : Nat} (hp : p < k) (ht : t < 8) (x3 : Int32) (x4 x6 : Int64) (x8 x10 : Int32) (hc : (x10 = 1 ∧ x3 = -1) ∨ (x10 = 0 ∧ ¬ x3 < 0 ∧ ¬ 7 < x3)) : OK (g_M_read_b64 (nI t) x3 x4 x6 x8 (nI p) x10 m) (fun _ m' => AMk m' (rdA A (m.2.1 1 p) t (x3, x8, x4, x6)) k) := by
  have hk := h.k64
  obtain ⟨r1, r2⟩ := h.r hp ht
  obtain ⟨y, hy, ey⟩ := gd_r h.gd (8 * p + t)
  have hw9 : okv 9 x3 := by
    rcases hc with ⟨-, rfl⟩ | ⟨-, h1, h2⟩
    · exact okv_c (Or.inl (by decide))
    · obtain ⟨j, hj, e⟩ := nI_of2 (n := 7) (M := 7) (by decide) h1 (Int32.not_lt.mp h2)
      exact okv_c (Or.inr ⟨j, by omega, e⟩)
  -- the end
  have h166 : ∀ x13 : Int32, (x13 ≠ 0 → (aR A (m.2.1 1 p) t).1 ∨ (x10 = 0 ∧ ∃ x, (aR A (m.2.1 1 p) t).2.2 x ∧ sameG x (x3, x8, x4, x6))) → (x13 = 0 → ¬ (aR A (m.2.1 1 p) t).1 ∧ (x10 = 0 → ¬ ∃ x, (aR A (m.2.1 1 p) t).2.2 x ∧ sameG x (x3, x8, x4, x6))) → OK (g_M_read_b166 (nI t) x3 x4 x6 x8 (nI p) x10 (nI (8 * (8 * p + t))) (nI y) x13 m) (fun _ m' => AMk m' (rdA A (m.2.1 1 p) t (x3, x8, x4, x6)) k) := fun x13 g1 g2 => by
    unfold g_M_read_b166
    refine ok_if (fun e => ?_) (fun e => ok_ret ?_)
    · obtain ⟨n1, n2⟩ := g2 e
      obtain ⟨a0, a1, a2⟩ := r2 n1
      have ez : y = (aR A (m.2.1 1 p) t).2.1 := (nI_eq (by omega) (by omega)).mp (ey.symm.trans a1)
      refine ok_if (fun e10 => ?_) (fun e10 => ?_)
      · have hx3 : ¬ x3 < 0 := by
          rcases hc with ⟨z, -⟩ | ⟨-, z, -⟩
          · rw [e10] at z; exact absurd z (by decide)
          · exact z
        refine ok_if (fun e8 => ?_) (fun e8 => ?_)
        · have y8 : y = 8 := (nI_eq (a := y) (b := 8) (by omega) (by omega)).mp e8
          exact r_read_b186 h hp ht (Or.inr (Or.inr ⟨n2 e10, by omega⟩))
        · have y8 : y ≠ 8 := fun z => e8 (by rw [z]; rfl)
          rw [nI_add]
          refine ok_bnU (r_setRange (j := 8 * (8 * p + t) + y) (by omega) _ _ _ _) ?_
          rintro m1 rfl
          rw [nI_1]
          refine ok_wI (8 * p + t) (ix8 p t) (by show 8 * p + t < 512; omega) (ok_ret ?_)
          refine am_set (j := y) (n := y + 1) h hp ht (by omega) (by omega) hw9 ⟨fun q => ?_, fun q => ?_⟩
          · rcases q with q | q | q
            · exact absurd q n1
            · exact absurd q hx3
            · have := q.2; omega
          · have e1 : (rdN (aR A (m.2.1 1 p) t) (x3, x8, x4, x6)).2.1 = y + 1 := (if_neg (n2 e10)).trans (by rw [ez])
            rw [e1]
            refine ⟨by omega, sI_self, fun x => ?_⟩
            constructor
            · rintro (z | z)
              · obtain ⟨j, hj, e⟩ := (a2 x).mp z
                refine ⟨j, by omega, ?_⟩
                rw [en_s8, setz_en, if_neg (by omega)]
                exact e
              · refine ⟨y, by omega, ?_⟩
                rw [en_s8, setz_en, if_pos rfl]
                exact z.2.symm
            · rintro ⟨j, hj, e⟩
              rw [en_s8, setz_en] at e
              by_cases hjy : j = y
              · subst hjy
                rw [if_pos rfl] at e
                exact Or.inr ⟨n2 e10, e.symm⟩
              · rw [if_neg (by omega)] at e
                exact Or.inl ((a2 x).mpr ⟨j, by omega, e⟩)
      · have hx3 : x3 < 0 := by
          rcases hc with ⟨-, z⟩ | ⟨z, -⟩
          · rw [z]; decide
          · exact absurd z e10
        exact r_read_b186 h hp ht (Or.inr (Or.inl hx3))
    · refine am_same h hp ht ?_
      rcases g1 e with z | ⟨z1, z2⟩
      · exact Or.inl z
      · refine Or.inr ⟨?_, z2⟩
        rcases hc with ⟨z, -⟩ | ⟨-, z, -⟩
        · rw [z1] at z; exact absurd z (by decide)
        · exact z
  have h117 : ∀ (n j : Nat) (x13 : Int32), j ≤ y → y - j < n → ((x13 = 1 ∧ ((aR A (m.2.1 1 p) t).1 ∨ (x10 = 0 ∧ ∃ x, (aR A (m.2.1 1 p) t).2.2 x ∧ sameG x (x3, x8, x4, x6)))) ∨ (x13 = 0 ∧ ¬ (aR A (m.2.1 1 p) t).1 ∧ ∀ i, i < j → ¬ sameG (en m (8 * (8 * p + t) + i)) (x3, x8, x4, x6))) → OK (g_M_read_b117 n (nI t) x3 x4 x6 x8 (nI p) x10 (nI (8 * (8 * p + t))) (nI y) x13 (nI (8 * (8 * p + t) + j)) m) (fun _ m' => AMk m' (rdA A (m.2.1 1 p) t (x3, x8, x4, x6)) k) := by
    intro n
    induction n with
    | zero => intro j x13 _ h; omega
    | succ n ih =>
      intro j x13 hj hn hx
      rw [g_M_read_b117]
      refine ok_if (fun hle => h166 x13 (fun hne => ?_) (fun he => ?_)) (fun hlt => ?_)
      · rcases hx with ⟨-, z⟩ | ⟨z, -⟩
        · exact z
        · exact absurd z hne
      · rw [nI_add, nI_leI (by omega) (by omega)] at hle
        rcases hx with ⟨z, -⟩ | ⟨-, z1, z2⟩
        · rw [he] at z; exact absurd z (by decide)
        · refine ⟨z1, fun _ => ?_⟩
          rintro ⟨x, g1, g2⟩
          obtain ⟨a0, a1, a2⟩ := r2 z1
          have ez : y = (aR A (m.2.1 1 p) t).2.1 := (nI_eq (by omega) (by omega)).mp (ey.symm.trans a1)
          obtain ⟨i, hi, e⟩ := (a2 x).mp g1
          exact z2 i (by omega) (by rw [e]; exact g2)
      · rw [nI_add, nI_leI (by clear hx; omega) (by clear hx; omega)] at hlt
        have q1 : j + 1 ≤ y := by clear hx; omega
        have q2 : y - (j + 1) < n := by clear hx; omega
        have q3 : 8 * (8 * p + t) + j < 4096 := by clear hx; omega
        refine ok_if (fun e10 => ?_) (fun e10 => h166 x13 (fun hne => ?_) (fun he => ?_))
        · have b153 : ∀ m1, m1 = m → ((aR A (m.2.1 1 p) t).1 ∨ (x10 = 0 ∧ ∃ x, (aR A (m.2.1 1 p) t).2.2 x ∧ sameG x (x3, x8, x4, x6))) → OK (g_M_read_b153 (g_M_read_b117 n) (nI t) x3 x4 x6 x8 (nI p) x10 (nI (8 * (8 * p + t))) (nI y) (nI (8 * (8 * p + t) + j)) m1) (fun _ m' => AMk m' (rdA A (m.2.1 1 p) t (x3, x8, x4, x6)) k) := by
            rintro m1 rfl hh
            unfold g_M_read_b153
            rw [nI_1]
            exact ih (j + 1) 1 q1 q2 (Or.inl ⟨rfl, hh⟩)
          refine ok_if (fun e13 => ?_) (fun e13 => ?_)
          · rcases hx with ⟨z, -⟩ | ⟨-, z1, z2⟩
            · rw [e13] at z; exact absurd z (by decide)
            obtain ⟨a0, a1, a2⟩ := r2 z1
            have ez : y = (aR A (m.2.1 1 p) t).2.1 := (nI_eq (by omega) (by omega)).mp (ey.symm.trans a1)
            refine ok_bn (r_isSame q3 _ _ _ _) ?_
            rintro r m1 ⟨rfl, hr⟩
            refine ok_if (fun hr0 => ?_) (fun hr0 => ?_)
            · rw [nI_1]
              refine ih (j + 1) 0 q1 q2 (Or.inr ⟨rfl, z1, fun i hi => ?_⟩)
              rcases Nat.lt_or_ge i j with hij | hij
              · exact z2 i hij
              · rw [show i = j by omega]
                rcases hr with ⟨w, -⟩ | ⟨-, w⟩
                · rw [hr0] at w; exact absurd w (by decide)
                · exact w
            · refine b153 m1 rfl (Or.inr ⟨e10, en m1 (8 * (8 * p + t) + j), (a2 _).mpr ⟨j, by omega, rfl⟩, ?_⟩)
              rcases hr with ⟨-, w⟩ | ⟨w, -⟩
              · exact w
              · exact absurd w hr0
          · rcases hx with ⟨-, z⟩ | ⟨z, -⟩
            · exact b153 m rfl z
            · exact absurd z e13
        · rcases hx with ⟨-, z⟩ | ⟨z, -⟩
          · exact z
          · exact absurd z hne
        · rcases hx with ⟨z, -⟩ | ⟨-, z1, z2⟩
          · rw [he] at z; exact absurd z (by decide)
          · exact ⟨z1, fun z => absurd z e10⟩
  unfold g_M_read_b64 g_M_read_b110
  rw [ix8, ix8']
  refine ok_rI (8 * p + t) rfl (by show 8 * p + t < 512; omega) ?_
  rw [ey]
  have nw : ¬ (aR A (m.2.1 1 p) t).1 → OK (g_M_read_b117 2000 (nI t) x3 x4 x6 x8 (nI p) x10 (nI (8 * (8 * p + t))) (nI y) 0 (nI (8 * (8 * p + t))) m) (fun _ m' => AMk m' (rdA A (m.2.1 1 p) t (x3, x8, x4, x6)) k) := fun hz => by
    have := h117 2000 0 0 (by omega) (by omega) (Or.inr ⟨rfl, hz, fun i hi => by omega⟩)
    exact this
  refine ok_if (fun e0 => nw (fun hz => ?_)) (fun e0 => ?_)
  · have : y = 1 := (nI_eq (by omega) (by omega)).mp (ey.symm.trans (r1 hz).1)
    rw [this] at e0
    exact absurd e0 (by decide)
  · refine ok_rI (8 * (8 * p + t)) rfl (by show 8 * (8 * p + t) < 4096; omega) (ok_if (fun e1 => ?_) (fun e1 => nw (fun hz => e1 (r1 hz).2)))
    have hz : (aR A (m.2.1 1 p) t).1 := by
      by_cases hz : (aR A (m.2.1 1 p) t).1
      · exact hz
      · exfalso
        obtain ⟨a0, a1, a2⟩ := r2 hz
        have ez : y = (aR A (m.2.1 1 p) t).2.1 := (nI_eq (by omega) (by omega)).mp (ey.symm.trans a1)
        have y0 : 0 < y := by
          rcases Nat.eq_zero_or_pos y with z | z
          · rw [z] at e0; exact absurd (by decide) e0
          · exact z
        obtain ⟨u, hu, eu⟩ := (hA.2.2.2.2.2.2 _ t (h.kp hp) ht hz).2 _ ((a2 _).mpr ⟨0, by omega, rfl⟩)
        have e2 : m.2.1 9 (8 * (8 * p + t)) = nI u := eu
        rw [e1] at e2
        exact absurd (show nI u < 0 by rw [← e2]; decide) (nI_pos (by omega))
    have := h117 2000 0 1 (by omega) (by omega) (Or.inl ⟨rfl, Or.inl hz⟩)
    exact this
theorem r_read (hA : AI A) (h : AMk m A k) {s q : Int32} (hr : Run A s q) {t : Nat} (ht : t < 8) (x3 : Int32) (x4 x6 : Int64) (x8 : Int32) (hc : x3 = -1 ∨ (¬ x3 < 0 ∧ ¬ 7 < x3 ∧ ¬ x8 < 0 ∧ x8 ≤ 15)) : OK (g_M_read s (nI t) x3 x4 x6 x8 m) (fun _ m' => AMk m' (rdA A q t (x3, x8, x4, x6)) k) := by
  have hk := h.k64
  unfold g_M_read
  refine ok_bn (r_running h s) ?_
  rintro r m1 ⟨rfl, hh⟩
  rcases hh with ⟨p, hp, rfl, hq⟩ | ⟨-, hn⟩
  · have e := hA.2.2.2.2.1 _ _ _ hr hq
    subst e
    have go : ∀ x10 : Int32, ((x10 = 1 ∧ x3 = -1) ∨ (x10 = 0 ∧ ¬ x3 < 0 ∧ ¬ 7 < x3 ∧ ¬ x8 < 0 ∧ x8 ≤ 15)) → OK (g_M_read_b17 (nI t) x3 x4 x6 x8 (nI p) x10 m1) (fun _ m' => AMk m' (rdA A (m1.2.1 1 p) t (x3, x8, x4, x6)) k) := fun x10 hx => by
      unfold g_M_read_b17
      refine ok_if (fun z => absurd z (nI_pos (by omega))) (fun _ => ok_if (fun z => absurd z (nI_pos (by omega))) (fun _ => ok_if (fun z => ?_) (fun _ => ok_if (fun z => ?_) (fun _ => ok_if (fun z => ?_) (fun _ => ok_if (fun z => ?_) (fun z => ?_))))))
      · rw [show (7 : Int32) = nI 7 from rfl, nI_ltI (by omega) (by omega)] at z; omega
      · rcases hx with ⟨-, e⟩ | ⟨-, e, -⟩
        · rw [e] at z; exact absurd z (by decide)
        · refine absurd (?_ : x3 < 0) e
          rw [Int32.lt_iff_toInt_lt] at z ⊢
          have e1 : (-1 : Int32).toInt = -1 := by decide
          have e2 : (0 : Int32).toInt = 0 := by decide
          omega
      · rcases hx with ⟨-, e⟩ | ⟨-, -, e, -⟩
        · rw [e] at z; exact absurd z (by decide)
        · exact absurd z e
      · rcases hx with ⟨e, -⟩ | ⟨e, e1, e2, e3, e4⟩
        · rw [e] at z; exact absurd z (by decide)
        · exact ok_if (fun z => absurd z e3) (fun _ => ok_if (fun _ => r_read_p hA h hp ht x3 x4 x6 x8 x10 (Or.inr ⟨e, e1, e2⟩)) (fun z => absurd e4 z))
      · rcases hx with ⟨e, e1⟩ | ⟨e, -⟩
        · exact r_read_p hA h hp ht x3 x4 x6 x8 x10 (Or.inl ⟨e, e1⟩)
        · exact absurd e z
    refine ok_if (fun e => go 1 (Or.inl ⟨rfl, e⟩)) (fun e => go 0 (Or.inr ⟨rfl, hc.resolve_left e⟩))
  · exact absurd hr (hn q)
theorem r_read_no (hA : AI A) (h : AMk m A k) {s x2 : Int32} (x3 : Int32) (x4 x6 : Int64) (x8 : Int32) (hc : (∀ q, ¬ Run A s q) ∨ x2 < 0 ∨ 7 < x2 ∨ (x3 ≠ -1 ∧ (x3 < 0 ∨ 7 < x3 ∨ x8 < 0 ∨ ¬ x8 ≤ 15))) : OK (g_M_read s x2 x3 x4 x6 x8 m) (fun r m' => r = -1 ∧ m' = m) := by
  have hk := h.k64
  unfold g_M_read
  refine ok_bn (r_running h s) ?_
  rintro r m1 ⟨rfl, hh⟩
  have go : ∀ x10 : Int32, (x10 = 0 → x3 ≠ -1) → (x10 ≠ 0 → x3 = -1) → OK (g_M_read_b17 x2 x3 x4 x6 x8 r x10 m1) (fun r m' => r = -1 ∧ m' = m1) := fun x10 h1 h2 => by
    unfold g_M_read_b17
    have ret : OK (some ((-1 : Int32), m1)) (fun r m' => r = -1 ∧ m' = m1) := ok_ret ⟨rfl, rfl⟩
    refine ok_if (fun _ => ret) (fun f1 => ok_if (fun _ => ret) (fun f2 => ok_if (fun _ => ret) (fun f3 => ok_if (fun _ => ret) (fun f4 => ok_if (fun _ => ret) (fun f5 => ok_if (fun e => ok_if (fun _ => ret) (fun f6 => ok_if (fun f7 => ?_) (fun _ => ret))) (fun e => ?_))))))
    · exfalso
      rcases hc with z | z | z | ⟨z, z | z | z | z⟩
      · rcases hh with ⟨p, hp, rfl, hq⟩ | ⟨e, -⟩
        · exact z _ hq
        · rw [e] at f1; exact f1 (by decide)
      · exact f2 z
      · exact f3 z
      · have e1 : (-1 : Int32).toInt = -1 := by decide
        have e2 : (0 : Int32).toInt = 0 := by decide
        have n1 := h1 e
        rw [Int32.lt_iff_toInt_lt] at z f4
        exact n1 (Int32.toInt_inj.mp (by omega))
      · exact f5 z
      · exact f6 z
      · exact z f7
    · exfalso
      rcases hc with z | z | z | ⟨z, -⟩
      · rcases hh with ⟨p, hp, rfl, hq⟩ | ⟨e, -⟩
        · exact z _ hq
        · rw [e] at f1; exact f1 (by decide)
      · exact f2 z
      · exact f3 z
      · exact z (h2 e)
  exact ok_if (fun e => go 1 (fun z => absurd z (by decide)) (fun _ => e)) (fun e => go 0 (fun _ => e) (fun z => absurd rfl z))
end AMR4
