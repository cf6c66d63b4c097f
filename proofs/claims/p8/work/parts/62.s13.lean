/-! what holds between calls goes on holding -/
theorem AI_wr {A : Ab} (h : AI A) (q : Int32) (t : Nat) : AI (wrA A q t) := AI_same h rfl rfl rfl rfl rfl
theorem AI_dm {A : Ab} (h : AI A) (q : Int32) : AI (dmA A q) := AI_same h rfl rfl rfl rfl rfl
theorem AI_ce {A : Ab} (h : AI A) (j : Nat) (x : Int64) : AI (ceA A j x) := AI_same h rfl rfl rfl rfl rfl
theorem AI_cl {A : Ab} (h : AI A) : AI (clA A) := AI_same h rfl rfl rfl rfl rfl
theorem AI_ms {A : Ab} (h : AI A) {q x : Int32} (hx : aK A x) : AI (msA A q x) := AI_same (AI_pt (x := q) h hx) rfl rfl rfl rfl rfl
theorem AI_kp {A : Ab} (h : AI A) (S : Int32 → Prop) : AI (kpA A S) := by
  obtain ⟨h1, h2, h3, h4, h5, h6, h7⟩ := h
  exact ⟨h1, h2, fun q hq => h3 q hq.1, fun q hq => h4 q hq.1, fun p q s hp hq => h5 p q s ⟨hp.1, hp.2.1.1, hp.2.2⟩ ⟨hq.1, hq.2.1.1, hq.2.2⟩, fun q hq => h6 q hq.1, fun q t hq => h7 q t hq.1⟩
theorem AI_fg {A : Ab} (h : AI A) : AI (fgA A) := AI_kp h _
theorem AI_cm {A : Ab} (h : AI A) {s q : Int32} (hr : Run A s q) (hc : aC A < 512) : AI (cmA A q) := AI_fg (AI_tl (AI_en h hr hc) hr.2.1 _)
theorem AI_rd {A : Ab} (h : AI A) {q : Int32} {t : Nat} {w : RG} (hw : w.1 < 0 ∨ ∃ y, y < 8 ∧ w.1 = nI y) : AI (rdA A q t w) := by
  obtain ⟨h1, h2, h3, h4, h5, h6, h7⟩ := h
  refine ⟨h1, h2, h3, h4, h5, h6, fun z u hz hu => ?_⟩
  show ¬ (if z = q ∧ u = t then rdN (aR A q t) w else aR A z u).1 → (if z = q ∧ u = t then rdN (aR A q t) w else aR A z u).2.1 ≤ 8 ∧ ∀ g, (if z = q ∧ u = t then rdN (aR A q t) w else aR A z u).2.2 g → _
  by_cases e : z = q ∧ u = t
  · rw [if_pos e]
    obtain ⟨rfl, rfl⟩ := e
    intro hn
    have n1 : ¬ (aR A z u).1 := fun x => hn (Or.inl x)
    have n2 : ¬ w.1 < 0 := fun x => hn (Or.inr (Or.inl x))
    obtain ⟨a1, a2⟩ := h7 z u hz hu n1
    constructor
    · by_cases es : ∃ x, (aR A z u).2.2 x ∧ sameG x w
      · have : (rdN (aR A z u) w).2.1 = (aR A z u).2.1 := if_pos es
        rw [this]; exact a1
      · have : (rdN (aR A z u) w).2.1 = (aR A z u).2.1 + 1 := if_neg es
        rw [this]
        have : (aR A z u).2.1 ≠ 8 := fun x => hn (Or.inr (Or.inr ⟨es, x⟩))
        omega
    · rintro g (hg | ⟨-, rfl⟩)
      · exact a2 g hg
      · exact hw.resolve_left n2
  · rw [if_neg e]; exact h7 z u hz hu
theorem AI_bg {A : Ab} (h : AI A) (hb : aB A < 512) {s : Int32} (hs0 : ¬ s < 0) (hs6 : ¬ 6 ≤ s) (hn : ∀ q, ¬ Run A s q) : AI (bgA A s) := by
  have hfr := fun {q : Int32} (hq : aK A q) => fresh h hq
  obtain ⟨h1, h2, h3, h4, h5, h6, h7⟩ := h
  obtain ⟨j, hj, ej⟩ := nI_of2 (x := s) (n := 5) (M := 5) (by decide) hs0 (by
    rw [Int32.le_iff_toInt_le] at hs6 ⊢
    have e1 : (6 : Int32).toInt = 6 := by decide
    have e2 : (5 : Int32).toInt = 5 := by decide
    omega)
  have Fo : ∀ d z, z ≠ nI (aB A + 1) → aF (bgA A s) d z = aF A d z := fun d z hz => if_neg hz
  have Fn : ∀ d, aF (bgA A s) d (nI (aB A + 1)) = (if d = 2 then s else if d = 3 ∨ d = 13 then nI (aC A) else if d = 14 then aF A 14 (nI (aB A + 1)) else 0) := fun d => if_pos rfl
  refine ⟨hb, h2, fun q hq => ?_, fun q hq => ?_, fun p q t hp hq => ?_, fun q hq => ?_, fun q t hq ht => ?_⟩
  · rcases hq with hq | hq
    · obtain ⟨n, n1, n2, n3⟩ := h3 q hq
      exact ⟨n, n1, Nat.le_succ_of_le n2, n3⟩
    · exact ⟨aB A + 1, by omega, Nat.le_refl _, hq⟩
  · rcases hq with hq | hq
    · rw [Fo 4 q (hfr hq), Fo 2 q (hfr hq)]; exact h4 q hq
    · subst hq
      refine Or.inl ⟨Fn 4, j, by omega, ?_⟩
      rw [Fn 2, if_pos rfl]; exact ej
  · obtain ⟨p0, p1, p2⟩ := hp
    obtain ⟨q0, q1, q2⟩ := hq
    rcases p1 with p1 | p1
    · rw [Fo 2 p (hfr p1)] at p2
      rcases q1 with q1 | q1
      · rw [Fo 2 q (hfr q1)] at q2
        exact h5 p q t ⟨p0, p1, p2⟩ ⟨q0, q1, q2⟩
      · subst q1
        rw [Fn 2, if_pos rfl] at q2
        subst q2
        exact absurd ⟨p0, p1, p2⟩ (hn p)
    · subst p1
      rw [Fn 2, if_pos rfl] at p2
      subst p2
      rcases q1 with q1 | q1
      · rw [Fo 2 q (hfr q1)] at q2
        exact absurd ⟨p0, q1, q2⟩ (hn q)
      · exact q1.symm
  · rcases hq with hq | hq
    · rw [Fo 6 q (hfr hq)]; exact h6 q hq
    · subst hq; exact ⟨0, Nat.zero_le _, Fn 6⟩
  · rcases hq with hq | hq
    · have : aR (bgA A s) q t = aR A q t := if_neg (hfr hq)
      rw [this]; exact h7 q t hq ht
    · subst hq
      have : aR (bgA A s) (nI (aB A + 1)) t = (False, 0, fun _ => False) := if_pos rfl
      rw [this]
      exact fun _ => ⟨Nat.zero_le _, fun g hg => hg.elim⟩
