/-! BETWEEN THE LAW'S CALLS: the heap holds the class and the reference, and both hold one state by ids -/
theorem ch_model {X : Nat} {v : CV} {h h' : AH} (hc : CH X v h) (hF : Fr (X + 6) h h') : CH X v h' := by
  obtain ⟨⟨c0, c1, c2, c3, c4, c5⟩, cT, cR, cz, cx, cn⟩ := hc
  have lo : ∀ q, q < X + 6 → h'.1 q = h.1 q := fun q hq => hF.1 q (Or.inl hq)
  have hi : ∀ q, X + 26 ≤ q → h'.1 q = h.1 q := fun q hq => hF.1 q (Or.inr (by omega))
  refine ⟨⟨?_, ?_, ?_, ?_, ?_, ?_⟩, fun a t ht => ?_, fun b g hg => ?_, by rw [hF.2]; exact cz, cx, fun q hq => ?_⟩
  · rw [lo X (by omega)]; exact c0
  · rw [lo (X + 1) (by omega)]; exact c1
  · rw [lo (X + 2) (by omega)]; exact c2
  · rw [lo (X + 3) (by omega)]; exact c3
  · rw [lo (X + 4) (by omega)]; exact c4
  · rw [lo (X + 5) (by omega)]; exact c5
  · obtain ⟨a1, a2, a3, a4⟩ := cT a t ht
    exact ⟨a1, by rw [hi a a1]; exact a2, by rw [hi (a + 1) (by omega)]; exact a3, by rw [hi (a + 2) (by omega)]; exact a4⟩
  · obtain ⟨a1, a2⟩ := cR b g hg
    exact ⟨a1, by rw [hi b a1]; exact a2⟩
  · rw [hi q (by omega)]; exact cn q hq
def LR (X i : Nat) (h : AH) : Prop := ∃ w m v A, (CI X w h ∧ w ≤ h.2.1 ∧ h.2.1 ≤ X + 26 + 3 * i ∧ h.2.2 ≤ 28268 + 40 * i) ∧ MH (X + 6) m h ∧ CH X v h ∧ AM m A ∧ AX v A ∧ Fine i A
def LT {σ : Type} (X i : Nat) (Sd : Ab → σ → Ab → Prop) (r : σ) (h : AH) : Prop := ∃ w m v A B, (CI X w h ∧ w ≤ h.2.1 ∧ h.2.1 ≤ X + 26 + 3 * (i + 1) ∧ h.2.2 ≤ 28268 + 40 * (i + 1)) ∧ MH (X + 6) m h ∧ CH X v h ∧ AM m A ∧ AX v B ∧ Fine i A ∧ Sd A r B
section LAWR
variable {X i : Nat} {h : AH} {P : Int32 → AH → Prop}
theorem lr_rcvD {K : Nat → Option (Int32 × AH)} (hl : LR X i h) (hk : OH (K X) P) : OH (rcv h 3 (some X) K) P := by
  obtain ⟨w, m, v, A, ⟨hc, -⟩, -⟩ := hl
  obtain ⟨fs, hf⟩ := kd_obj hc.2.1.1
  exact oh_rcv hf hk
theorem lt_rcvM {σ : Type} {Sd : Ab → σ → Ab → Prop} {r : σ} {K : Nat → Option (Int32 × AH)} (hl : LT X i Sd r h) (hk : OH (K (X + 6)) P) : OH (rcv h 4 (some (X + 6)) K) P := by
  obtain ⟨w, m, v, A, B, -, hm, -⟩ := hl
  exact oh_rcv hm.1 hk
theorem lr_call {σ : Type} {Sd : Ab → σ → Ab → Prop} {cd : Option (σ × AH)} {cv : CV → Option (σ × CV)} (hi5 : i ≤ 511) (hl : LR X i h) (hd : ∀ w, CI X w h → w ≤ h.2.1 → w ≤ X + 1900 → OH cd (fun _ H => CP X w h H)) (h2 : ∀ v, C2 X h v cd (cv v)) (hs : ∀ v A, Fine i A → AX v A → OC (cv v) (fun r v' => ∃ B, Sd A r B ∧ AX v' B)) : OH cd (fun r H => LT X i Sd r H) := by
  obtain ⟨w, m, v, A, ⟨h1, hw, h3, h4⟩, hm, hc, hA, hx, hF⟩ := hl
  obtain ⟨r, H, e, w', p1, p2, p3, p4, p5, p6⟩ := hd w h1 hw (by omega)
  obtain ⟨r', v', e', B, hB, hx'⟩ := hs v A hF hx
  obtain ⟨h', e2, hc', -⟩ := h2 v hc r' v' e'
  rw [e] at e2
  cases e2
  refine ⟨r, H, e, w', m, v', A, B, ⟨p2, p3, by omega, by omega⟩, ⟨?_, fun d d1 d2 => ?_⟩, hc', hA, hx', hF, hB⟩
  · rw [p6 _ (by omega) (by omega)]; exact hm.1
  · rw [p6 _ (by omega) (by omega)]; exact hm.2 d d1 d2
theorem lr_D {σ : Type} {Sd : Ab → σ → Ab → Prop} {cd : Option (σ × AH)} {K : σ → AH → Option (Int32 × AH)} {cv : CV → Option (σ × CV)} (hi5 : i ≤ 511) (hl : LR X i h) (hd : ∀ w, CI X w h → w ≤ h.2.1 → w ≤ X + 1900 → OH cd (fun _ H => CP X w h H)) (h2 : ∀ v, C2 X h v cd (cv v)) (hs : ∀ v A, Fine i A → AX v A → OC (cv v) (fun r v' => ∃ B, Sd A r B ∧ AX v' B)) (hK : ∀ r H, LT X i Sd r H → OH (K r H) P) : OH (bnd cd K) P :=
  oh_bnd (lr_call hi5 hl hd h2 hs) hK
theorem lr_DU {Sd : Ab → Unit → Ab → Prop} {cd : Option (Unit × AH)} {K : AH → Option (Int32 × AH)} {cv : CV → Option (Unit × CV)} (hi5 : i ≤ 511) (hl : LR X i h) (hd : ∀ w, CI X w h → w ≤ h.2.1 → w ≤ X + 1900 → OH cd (fun _ H => CP X w h H)) (h2 : ∀ v, C2 X h v cd (cv v)) (hs : ∀ v A, Fine i A → AX v A → OC (cv v) (fun r v' => ∃ B, Sd A r B ∧ AX v' B)) (hK : ∀ H, LT X i Sd () H → OH (K H) P) : OH (bndU cd K) P :=
  oh_bndU (lr_call hi5 hl hd h2 hs) hK
theorem lt_M {σ τ : Type} {Sd : Ab → σ → Ab → Prop} {Sm : Ab → τ → Ab → Prop} {Qd : σ → τ → Prop} {cf : Option (τ × AH)} {cg : MS → Option (τ × MS)} {r : σ} (hl : LT X i Sd r h) (h2 : ∀ m, M2 (X + 6) h m cf (cg m)) (hs : ∀ m A, Fine i A → AM m A → OK (cg m) (fun r m' => ∃ B, Sm A r B ∧ AM m' B)) (hdet : ∀ A r r2 B B', Fine i A → Sd A r B → Sm A r2 B' → Qd r r2 ∧ B = B') (hfine : ∀ A r B, Fine i A → Sd A r B → Fine (i + 1) B) : OH cf (fun r2 H => Qd r r2 ∧ LR X (i + 1) H) := by
  obtain ⟨w, m, v, A, B, ⟨h1, hw, h3, h4⟩, hm, hc, hA, hx, hF, hB⟩ := hl
  obtain ⟨r2, m', e, B', hB', hA'⟩ := hs m A hF hA
  obtain ⟨H, e2, hm2, hFr⟩ := h2 m hm r2 m' e
  obtain ⟨hq, eB⟩ := hdet A r r2 B B' hF hB hB'
  subst eB
  exact ⟨r2, H, e2, hq, w, m', v, B, ⟨ci_model h1 hm hm2 hFr, by rw [hFr.2]; exact hw, by rw [hFr.2]; exact h3, by rw [hFr.2]; exact h4⟩, hm2, ch_model hc hFr, hA', hx, hfine A r B hF hB⟩
theorem lr_up (hl : LR X i h) : LR X (i + 1) h := by
  obtain ⟨w, m, v, A, ⟨h1, h2, h3, h4⟩, hm, hc, hA, hx, hF⟩ := hl
  exact ⟨w, m, v, A, ⟨h1, h2, by omega, by omega⟩, hm, hc, hA, hx, Fine_up hF⟩
end LAWR
/-- nobody runs at the start -/
theorem fine0 {i : Nat} {A : Ab} (hF : Fine i A) (hi : i = 0) (s : Int32) : noRun A s := fun q hq => by
  obtain ⟨n, n1, n2, -⟩ := hF.1.2.2.1 q hq.2.1
  have := hF.2.2.1
  omega
def v_0 (z : Nat × Nat) : CV := mkC (fun _ => 0) (fun _ => 0) (fun _ => 0) (fun _ => none) (fun _ => none) (fun _ => none) (fun _ => none) z
theorem AX_0 (z : Nat × Nat) : AX (v_0 z) A_0 := by
  refine ⟨fun _ => 0, fun _ => 0, fun q hq => hq.elim, ⟨fun i a hi e => (by cases e), fun s hs => Or.inl ⟨rfl, fun q hq => hq.2.1.elim⟩⟩, ⟨⟨rfl, rfl, ?_⟩, fun j hj => ⟨Or.inl rfl, ⟨fun w => absurd rfl w, fun w => w.elim⟩, rfl⟩, fun a ha => absurd rfl ha, fun b hb => absurd rfl hb⟩⟩
  rw [cnt_none 64 (fun i _ w => w rfl)]
  rfl
theorem AM_0 : AM m_0 A_0 := by
  have hg : Gd m_0 := fun d i => ⟨fun _ => ⟨0, by omega, rfl⟩, fun _ => Or.inl rfl, fun _ => ⟨0, by omega, rfl⟩, fun _ => Or.inr ⟨0, by omega, rfl⟩⟩
  exact ⟨0, ⟨rfl, rfl, rfl, by decide, by decide, by omega, hg⟩, fun i hi => by omega, fun q hq => hq.elim, fun i j hi => by omega, fun i hi => by omega, fun i j hi => by omega, fun j hj => ⟨⟨fun w => absurd rfl w, fun w => w.elim⟩, rfl⟩, fun n hn => ⟨rfl, rfl⟩, fun n q _ _ => ⟨fun w => absurd w tb_zero, fun w => w.elim⟩⟩
