/-! WHAT BOTH HOLD: a state keyed by ids: begun and commits; kept; numbers by id (2 session, 3 since, 4 place, 6 least); doomed; arrows; ranges by table (all of it; how many; which); the version in hand -/
abbrev RG : Type := Int32 × Int32 × Int64 × Int64
abbrev RN : Type := Prop × Nat × (RG → Prop)
abbrev Ab : Type := (Nat × Nat) × (Int32 → Prop) × (Nat → Int32 → Int32) × (Int32 → Prop) × (Int32 → Int32 → Prop) × (Int32 → Nat → RN) × (Nat → Prop) × (Nat → Int64) × (Int32 → Int32 → Prop)
def aB (A : Ab) : Nat := A.1.1
def aC (A : Ab) : Nat := A.1.2
def aK (A : Ab) : Int32 → Prop := A.2.1
def aF (A : Ab) : Nat → Int32 → Int32 := A.2.2.1
def aD (A : Ab) : Int32 → Prop := A.2.2.2.1
def aA (A : Ab) : Int32 → Int32 → Prop := A.2.2.2.2.1
def aR (A : Ab) : Int32 → Nat → RN := A.2.2.2.2.2.1
def aH (A : Ab) : Nat → Prop := A.2.2.2.2.2.2.1
def aL (A : Ab) : Nat → Int64 := A.2.2.2.2.2.2.2.1
/-- the arrows that ever were -/
def aE (A : Ab) : Int32 → Int32 → Prop := A.2.2.2.2.2.2.2.2
def mkA (b c : Nat) (K : Int32 → Prop) (F : Nat → Int32 → Int32) (D : Int32 → Prop) (E : Int32 → Int32 → Prop) (R : Int32 → Nat → RN) (H : Nat → Prop) (L : Nat → Int64) (G : Int32 → Int32 → Prop) : Ab := ((b, c), K, F, D, E, R, H, L, G)
theorem ab_ext {A B : Ab} (h1 : aB A = aB B) (h2 : aC A = aC B) (h3 : ∀ q, aK A q ↔ aK B q) (h4 : ∀ d q, aF A d q = aF B d q) (h5 : ∀ q, aD A q ↔ aD B q) (h6 : ∀ p q, aA A p q ↔ aA B p q) (h7 : aR A = aR B) (h8 : aH A = aH B) (h9 : aL A = aL B) (h10 : ∀ p q, aE A p q ↔ aE B p q) : A = B := by
  obtain ⟨⟨a1, a2⟩, a3, a4, a5, a6, a7, a8, a9, a10⟩ := A
  obtain ⟨⟨b1, b2⟩, b3, b4, b5, b6, b7, b8, b9, b10⟩ := B
  simp only [aB, aC, aK, aF, aD, aA, aR, aH, aL, aE] at *
  have e3 : a3 = b3 := funext fun q => propext (h3 q)
  have e4 : a4 = b4 := funext fun d => funext fun q => h4 d q
  have e5 : a5 = b5 := funext fun q => propext (h5 q)
  have e6 : a6 = b6 := funext fun p => funext fun q => propext (h6 p q)
  have e10 : a10 = b10 := funext fun p => funext fun q => propext (h10 p q)
  subst h1 h2 e3 e4 e5 e6 h7 h8 h9 e10
  rfl
/-- an arrow x -> y comes -/
def ptA (A : Ab) (x y : Int32) : Ab := mkA (aB A) (aC A) (aK A) (fun d z => if d = 6 ∧ z = x ∧ aF A 4 y ≠ 0 ∧ (aF A 6 x = 0 ∨ aF A 4 y < aF A 6 x) then aF A 4 y else aF A d z) (aD A) (fun u w => aA A u w ∨ (u = x ∧ w = y)) (aR A) (aH A) (aL A) (fun u w => aE A u w ∨ (u = x ∧ w = y))
/-- x is doomed -/
def dmA (A : Ab) (x : Int32) : Ab := mkA (aB A) (aC A) (aK A) (aF A) (fun z => aD A z ∨ z = x) (aA A) (aR A) (aH A) (aL A) (aE A)
/-- kept are those of S alone -/
def kpA (A : Ab) (S : Int32 → Prop) : Ab := mkA (aB A) (aC A) (fun z => aK A z ∧ S z) (aF A) (aD A) (aA A) (aR A) (aH A) (aL A) (aE A)
/-- runs -/
def Run (A : Ab) (s q : Int32) : Prop := 0 ≤ s ∧ aK A q ∧ aF A 2 q = s
/-- what holds between calls -/
def AI (A : Ab) : Prop := aB A ≤ 512 ∧ aC A ≤ 512 ∧ (∀ q, aK A q → ∃ n, 1 ≤ n ∧ n ≤ aB A ∧ q = nI n) ∧ (∀ q, aK A q → (aF A 4 q = 0 ∧ ∃ s, s < 6 ∧ aF A 2 q = nI s) ∨ (aF A 2 q = -1 ∧ ∃ p, 1 ≤ p ∧ p ≤ aC A ∧ aF A 4 q = nI p)) ∧ (∀ p q s, Run A s p → Run A s q → p = q) ∧ (∀ q, aK A q → ∃ p, p ≤ aC A ∧ aF A 6 q = nI p) ∧ (∀ q t, aK A q → t < 8 → ¬ (aR A q t).1 → (aR A q t).2.1 ≤ 8 ∧ ∀ g, (aR A q t).2.2 g → ∃ y, y < 8 ∧ g.1 = nI y)
theorem AI.pl {A : Ab} (h : AI A) {q : Int32} (hq : aK A q) : aF A 4 q = 0 ∨ ∃ p, 1 ≤ p ∧ p ≤ aC A ∧ aF A 4 q = nI p := by
  rcases h.2.2.2.1 q hq with h | h
  · exact Or.inl h.1
  · exact Or.inr h.2
theorem AI.c512 {A : Ab} (h : AI A) : aC A ≤ 512 := h.2.1
theorem AI.pl0 {A : Ab} (h : AI A) {q : Int32} (hq : aK A q) : aF A 4 q ≤ 0 ↔ aF A 4 q = 0 := by
  rcases h.pl hq with e | ⟨p, h1, h2, e⟩
  · rw [e]; decide
  · have := h.c512
    rw [e]
    constructor
    · intro h3; exact absurd h3 (nI_nle (by omega) (by omega))
    · intro h3; exact absurd h3 (nI_ne0 (by omega) (by omega))
theorem AI.le0 {A : Ab} (h : AI A) {q : Int32} (hq : aK A q) : aF A 6 q ≤ 0 ↔ aF A 6 q = 0 := by
  obtain ⟨p, h1, e⟩ := h.2.2.2.2.2.1 q hq
  have := h.c512
  rw [e]
  cases p with
  | zero => rw [nI_0]; decide
  | succ p =>
    constructor
    · intro h3; exact absurd h3 (nI_nle (by omega) (by omega))
    · intro h3; exact absurd h3 (nI_ne0 (by omega) (by omega))
theorem AI.run {A : Ab} (h : AI A) {s q : Int32} (hr : Run A s q) : aF A 4 q = 0 ∧ ∃ j, j < 6 ∧ s = nI j := by
  rcases h.2.2.2.1 q hr.2.1 with ⟨h1, j, h2, h3⟩ | ⟨h1, -⟩
  · exact ⟨h1, j, h2, by rw [← hr.2.2, h3]⟩
  · exact absurd hr.1 (by rw [← hr.2.2, h1]; decide)
/-- how many of the first n -/
noncomputable def cnt : Nat → (Nat → Prop) → Nat
  | 0, _ => 0
  | n + 1, f => cnt n f + @ite Nat (f n) (Classical.propDecidable _) 1 0
theorem cnt_t {n : Nat} {f : Nat → Prop} (h : f n) : cnt (n + 1) f = cnt n f + 1 := by
  rw [cnt, if_pos h]
theorem cnt_f {n : Nat} {f : Nat → Prop} (h : ¬ f n) : cnt (n + 1) f = cnt n f := by
  rw [cnt, if_neg h]; rfl
theorem cnt_congr {f g : Nat → Prop} : ∀ {n : Nat}, (∀ i, i < n → (f i ↔ g i)) → cnt n f = cnt n g := by
  intro n
  induction n with
  | zero => intro _; rfl
  | succ n ih =>
    intro h
    have e := ih (fun i hi => h i (by omega))
    by_cases hn : f n
    · rw [cnt_t hn, cnt_t ((h n (by omega)).mp hn), e]
    · rw [cnt_f hn, cnt_f (fun q => hn ((h n (by omega)).mpr q)), e]
theorem cnt_le {f : Nat → Prop} : ∀ (n : Nat), cnt n f ≤ n := by
  intro n
  induction n with
  | zero => exact Nat.le_refl _
  | succ n ih =>
    by_cases hn : f n
    · rw [cnt_t hn]; omega
    · rw [cnt_f hn]; omega
theorem cnt_all {f : Nat → Prop} : ∀ (n : Nat), (∀ i, i < n → f i) → cnt n f = n := by
  intro n
  induction n with
  | zero => intro _; rfl
  | succ n ih =>
    intro h
    rw [cnt_t (h n (by omega)), ih (fun i hi => h i (by omega))]
theorem cnt_none {f : Nat → Prop} : ∀ (n : Nat), (∀ i, i < n → ¬ f i) → cnt n f = 0 := by
  intro n
  induction n with
  | zero => intro _; rfl
  | succ n ih =>
    intro h
    rw [cnt_f (h n (by omega)), ih (fun i hi => h i (by omega))]
theorem cnt_lt {f : Nat → Prop} {j : Nat} : ∀ (n : Nat), j < n → ¬ f j → cnt n f < n := by
  intro n
  induction n with
  | zero => intro h; omega
  | succ n ih =>
    intro h hj
    by_cases e : j = n
    · subst e
      rw [cnt_f hj]
      have := cnt_le (f := f) j
      omega
    · have := ih (by omega) hj
      by_cases hn : f n
      · rw [cnt_t hn]; omega
      · rw [cnt_f hn]; omega
/-- one more -/
theorem cnt_add {f g : Nat → Prop} {j : Nat} : ∀ {n : Nat}, j < n → ¬ f j → (∀ i, i < n → (g i ↔ f i ∨ i = j)) → cnt n g = cnt n f + 1 := by
  intro n
  induction n with
  | zero => intro h; omega
  | succ n ih =>
    intro h hj hg
    by_cases e : j = n
    · subst e
      rw [cnt_t ((hg j (by omega)).mpr (Or.inr rfl)), cnt_f hj, cnt_congr (fun i hi => (hg i (by omega)).trans ⟨fun q => q.resolve_right (by omega), Or.inl⟩)]
    · have h1 := ih (by omega) hj (fun i hi => hg i (by omega))
      by_cases hn : f n
      · rw [cnt_t hn, cnt_t ((hg n (by omega)).mpr (Or.inl hn)), h1]
      · rw [cnt_f hn, cnt_f (fun q => ((hg n (by omega)).mp q).elim hn (fun z => e z.symm)), h1]
/-- what maps onto one another counts alike -/
theorem cnt_bij {N : Nat} {f : Nat → Nat} : ∀ (n : Nat) (g Q : Nat → Prop), (∀ i, i < n → g i → f i < N ∧ Q (f i)) → (∀ i j, i < n → j < n → g i → g j → f i = f j → i = j) → (∀ q, q < N → Q q → ∃ i, i < n ∧ g i ∧ f i = q) → cnt n g = cnt N Q := by
  intro n
  induction n with
  | zero =>
    intro g Q _ _ h3
    rw [cnt_none N (fun i hi hQ => by obtain ⟨j, hj, -⟩ := h3 i hi hQ; omega)]
    rfl
  | succ n ih =>
    intro g Q h1 h2 h3
    by_cases hn : g n
    · rw [cnt_t hn, ih g (fun q => Q q ∧ q ≠ f n) (fun i hi hg => ⟨(h1 i (by omega) hg).1, (h1 i (by omega) hg).2, fun e => by have := h2 i n (by omega) (by omega) hg hn e; omega⟩) (fun i j hi hj => h2 i j (by omega) (by omega)) (fun q hq hQ => by
        obtain ⟨i, hi, hg, e⟩ := h3 q hq hQ.1
        refine ⟨i, ?_, hg, e⟩
        rcases Nat.lt_or_ge i n with h | h
        · exact h
        · exact absurd (by rw [← e, show i = n by omega]) hQ.2)]
      refine (cnt_add (j := f n) (h1 n (by omega) hn).1 (fun q => q.2 rfl) (fun i hi => ⟨fun q => ?_, fun q => ?_⟩)).symm
      · by_cases e : i = f n
        · exact Or.inr e
        · exact Or.inl ⟨q, e⟩
      · rcases q with q | q
        · exact q.1
        · rw [q]; exact (h1 n (by omega) hn).2
    · rw [cnt_f hn]
      refine ih g Q (fun i hi => h1 i (by omega)) (fun i j hi hj => h2 i j (by omega) (by omega)) (fun q hq hQ => ?_)
      obtain ⟨i, hi, hg, e⟩ := h3 q hq hQ
      refine ⟨i, ?_, hg, e⟩
      rcases Nat.lt_or_ge i n with h | h
      · exact h
      · exact absurd (by rw [show n = i by omega]; exact hg) hn
