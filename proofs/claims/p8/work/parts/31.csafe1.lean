section CS1
variable {X w : Nat} {κ : KD} {z : Nat × Nat} {mm : Nat → Option AE}
abbrev b01 : Int32 → Prop := fun r => r = 0 ∨ r = 1
theorem c_z0 {h : AH} (hs : ST X w κ z mm h) : SO X w κ z mm (rZ 0 h) b01 := so_rZ hs (Or.inl rfl) (Or.inl rfl)
theorem c_z1 {h : AH} (hs : ST X w κ z mm h) : SO X w κ z mm (rZ 1 h) b01 := so_rZ hs (Or.inr rfl) (Or.inr rfl)
theorem t_isSession {h : AH} (hs : ST X w κ z mm h) (x : Int32) : SO X w κ z mm (f_D_isSession x h) (fun r => (r = 0 ∨ r = 1) ∧ (r ≠ 0 → ∃ j, j < 6 ∧ x = nI j)) := by
  unfold f_D_isSession
  refine so_if (fun _ => so_rZ hs (Or.inl rfl) ⟨Or.inl rfl, fun h => absurd rfl h⟩) (fun h0 => so_if (fun _ => so_rZ hs (Or.inl rfl) ⟨Or.inl rfl, fun h => absurd rfl h⟩) (fun h6 => so_rZ hs (Or.inr rfl) ⟨Or.inr rfl, fun _ => ?_⟩))
  obtain ⟨j, hj, rfl⟩ := nI_of h0
  refine ⟨j, ?_, rfl⟩
  rw [show (6 : Int32) = nI 6 from rfl, nI_leI (by omega) hj] at h6
  omega
theorem t_isTable {h : AH} (hs : ST X w κ z mm h) (x : Int32) : SO X w κ z mm (f_D_isTable x h) (fun r => (r = 0 ∨ r = 1) ∧ (r ≠ 0 → ∃ j, j < 8 ∧ x = nI j)) := by
  unfold f_D_isTable
  refine so_if (fun _ => so_rZ hs (Or.inl rfl) ⟨Or.inl rfl, fun h => absurd rfl h⟩) (fun h0 => so_if (fun _ => so_rZ hs (Or.inl rfl) ⟨Or.inl rfl, fun h => absurd rfl h⟩) (fun h6 => so_rZ hs (Or.inr rfl) ⟨Or.inr rfl, fun _ => ?_⟩))
  obtain ⟨j, hj, rfl⟩ := nI_of h0
  refine ⟨j, ?_, rfl⟩
  rw [show (8 : Int32) = nI 8 from rfl, nI_leI (by omega) hj] at h6
  omega
theorem t_isColumn {h : AH} (hs : ST X w κ z mm h) (x : Int32) : SO X w κ z mm (f_D_isColumn x h) (fun r => r = (if x < 0 ∨ 7 < x then 0 else 1) ∧ (r ≠ 0 → ∃ j, j < 8 ∧ x = nI j)) := by
  unfold f_D_isColumn
  refine so_if (fun h0 => so_rZ hs (Or.inl rfl) ⟨by rw [if_pos (Or.inl h0)], fun h => absurd rfl h⟩) (fun h0 => ?_)
  obtain ⟨j, hj, rfl⟩ := nI_of h0
  refine so_if (fun h8 => so_rZ hs (Or.inl rfl) ⟨?_, fun h => absurd rfl h⟩) (fun h8 => so_rZ hs (Or.inr rfl) ⟨?_, fun _ => ⟨j, ?_, rfl⟩⟩)
  · rw [show (8 : Int32) = nI 8 from rfl, nI_leI (by omega) hj] at h8
    rw [if_pos (Or.inr (by rw [show (7 : Int32) = nI 7 from rfl, nI_ltI (by omega) hj]; omega))]
  · rw [show (8 : Int32) = nI 8 from rfl, nI_leI (by omega) hj] at h8
    rw [if_neg]
    rintro (q | q)
    · exact h0 q
    · rw [show (7 : Int32) = nI 7 from rfl, nI_ltI (by omega) hj] at q
      omega
  · rw [show (8 : Int32) = nI 8 from rfl, nI_leI (by omega) hj] at h8
    omega
theorem t_runningIn {h : AH} (hs : ST X w κ z mm h) (x : Int32) : SO X w κ z mm (f_D_runningIn X x h) (fun r => okt κ r ∧ (r ≠ none → ∃ j, j < 6 ∧ x = nI j)) := by
  unfold f_D_runningIn
  refine so_bnd (t_isSession hs x) (fun r h1 hs ⟨hr, he⟩ => so_if (fun _ => so_ret hs ⟨Or.inl rfl, fun h => absurd rfl h⟩) (fun hne => ?_))
  obtain ⟨j, hj, rfl⟩ := he hne
  exact so_dR1 hs (so_lR2 hs (st_X hs).2.2.2.2.1 (by omega) hj (by omega) (fun r hr => so_ret hs ⟨hr, fun _ => ⟨j, hj, rfl⟩⟩))
theorem t_isRunning {h : AH} (hs : ST X w κ z mm h) {a : Nat} (ha : κ a = some (.inl 1)) : SO X w κ z mm (f_T_isRunning a h) b01 := by
  unfold f_T_isRunning
  exact so_tI hs ha (by decide) (fun x => so_if (fun _ => c_z1 hs) (fun _ => c_z0 hs))
theorem t_committedBefore {h : AH} (hs : ST X w κ z mm h) {a : Nat} (ha : κ a = some (.inl 1)) (x : Int32) : SO X w κ z mm (f_T_committedBefore a x h) b01 := by
  unfold f_T_committedBefore
  exact so_rcv hs ha (so_bnd (t_isRunning hs ha) (fun r h1 hs _ => so_if (fun _ => so_tI hs ha (by decide) (fun x => so_if (fun _ => c_z0 hs) (fun _ => c_z1 hs))) (fun _ => c_z0 hs)))
theorem t_isFirstOfDanger {h : AH} (hs : ST X w κ z mm h) {a b : Nat} (ha : κ a = some (.inl 1)) (hb : κ b = some (.inl 1)) : SO X w κ z mm (f_D_isFirstOfDanger (some a) (some b) h) b01 := by
  unfold f_D_isFirstOfDanger
  exact so_tI hs hb (by decide) (fun x => so_if (fun _ => c_z0 hs) (fun _ => so_rcv hs ha (so_bnd (t_committedBefore hs ha x) (fun r h1 hs _ => so_if (fun _ => so_rcv hs hb (so_bnd (t_committedBefore hs hb x) (fun r h2 hs _ => so_if (fun _ => c_z1 hs) (fun _ => c_z0 hs)))) (fun _ => c_z0 hs)))))
theorem t_lacks {h : AH} (hs : ST X w κ z mm h) {b : Nat} (hb : κ b = some (.inl 0)) (x : Int32) : SO X w κ z mm (f_R_lacks b x h) b01 := by
  unfold f_R_lacks
  exact so_rI hs hb (by decide) (fun y => so_if (fun _ => c_z0 hs) (fun _ => c_z1 hs))
theorem t_isWholeTable {h : AH} (hs : ST X w κ z mm h) {b : Nat} (hb : κ b = some (.inl 0)) : SO X w κ z mm (f_R_isWholeTable b h) b01 := by
  unfold f_R_isWholeTable
  exact so_rI hs hb (by decide) (fun y => so_if (fun _ => c_z1 hs) (fun _ => c_z0 hs))
theorem t_isSameAs {h : AH} (hs : ST X w κ z mm h) {b d : Nat} (hb : κ b = some (.inl 0)) (hd : κ d = some (.inl 0)) : SO X w κ z mm (f_R_isSameAs b (some d) h) b01 := by
  have h42 : ∀ h, ST X w κ z mm h → SO X w κ z mm (f_R_isSameAs_b42 b (some d) h) b01 := fun h hs => by
    unfold f_R_isSameAs_b42
    exact so_rcv hs hb (so_bnd (t_lacks hs hb 8) (fun r h1 hs _ => so_if (fun _ => so_rL hs hb (by decide) (fun x => so_rL hs hd (by decide) (fun y => so_if (fun _ => c_z1 hs) (fun _ => c_z0 hs)))) (fun _ => c_z1 hs)))
  unfold f_R_isSameAs
  exact so_rI hs hb (by decide) (fun x => so_rI hs hd (by decide) (fun y => so_if (fun _ => so_rI hs hb (by decide) (fun x => so_rI hs hd (by decide) (fun y => so_if (fun _ => so_rcv hs hb (so_bnd (t_lacks hs hb 4) (fun r h1 hs _ => so_if (fun _ => so_rL hs hb (by decide) (fun x => so_rL hs hd (by decide) (fun y => so_if (fun _ => h42 _ hs) (fun _ => c_z0 hs)))) (fun _ => h42 _ hs)))) (fun _ => c_z0 hs)))) (fun _ => c_z0 hs)))
theorem t_isAboveLow {h : AH} (hs : ST X w κ z mm h) {b : Nat} (hb : κ b = some (.inl 0)) (x : Int64) : SO X w κ z mm (f_R_isAboveLow b x h) b01 := by
  unfold f_R_isAboveLow
  exact so_rcv hs hb (so_bnd (t_lacks hs hb 4) (fun r h1 hs _ => so_if (fun _ => so_rI hs hb (by decide) (fun y => so_if (fun _ => so_rL hs hb (by decide) (fun y => so_if (fun _ => c_z0 hs) (fun _ => c_z1 hs))) (fun _ => so_rL hs hb (by decide) (fun y => so_if (fun _ => c_z0 hs) (fun _ => c_z1 hs))))) (fun _ => c_z1 hs)))
theorem t_isBelowHigh {h : AH} (hs : ST X w κ z mm h) {b : Nat} (hb : κ b = some (.inl 0)) (x : Int64) : SO X w κ z mm (f_R_isBelowHigh b x h) b01 := by
  unfold f_R_isBelowHigh
  exact so_rcv hs hb (so_bnd (t_lacks hs hb 8) (fun r h1 hs _ => so_if (fun _ => so_rI hs hb (by decide) (fun y => so_if (fun _ => so_rL hs hb (by decide) (fun y => so_if (fun _ => c_z0 hs) (fun _ => c_z1 hs))) (fun _ => so_rL hs hb (by decide) (fun y => so_if (fun _ => c_z0 hs) (fun _ => c_z1 hs))))) (fun _ => c_z1 hs)))
theorem t_isFilled {h : AH} (hs : ST X w κ z mm h) (x : Int32) : SO X w κ z mm (f_V_isFilled (X + 1) x h) b01 := by
  unfold f_V_isFilled
  refine so_bnd (t_isColumn hs x) (fun r h1 hs ⟨_, he⟩ => so_if (fun _ => c_z0 hs) (fun hne => ?_))
  obtain ⟨j, hj, rfl⟩ := he hne
  exact so_vR1 hs (so_lI1 hs hj (fun y => so_if (fun _ => c_z0 hs) (fun _ => c_z1 hs)))
theorem t_valueOf {h : AH} (hs : ST X w κ z mm h) (x : Int32) : SO X w κ z mm (f_V_valueOf (X + 1) x h) (fun _ => True) := by
  unfold f_V_valueOf
  refine so_bnd (t_isColumn hs x) (fun r h1 hs ⟨_, he⟩ => so_if (fun _ => so_ret hs trivial) (fun hne => ?_))
  obtain ⟨j, hj, rfl⟩ := he hne
  exact so_vR0 hs (so_lL0 hs hj (fun y => so_ret hs trivial))
theorem t_holds {h : AH} (hs : ST X w κ z mm h) {b : Nat} (hb : κ b = some (.inl 0)) : SO X w κ z mm (f_R_holds b (some (X + 1)) h) b01 := by
  have hv := (st_X hs).2.1
  unfold f_R_holds
  refine so_rcv hs hb (so_bnd (t_isWholeTable hs hb) (fun r h1 hs _ => so_if (fun _ => ?_) (fun _ => c_z1 hs)))
  refine so_rI hs hb (by decide) (fun x => so_rcv hs hv (so_bnd (t_isFilled hs x) (fun r h1 hs _ => so_if (fun _ => c_z0 hs) (fun _ => ?_))))
  refine so_rI hs hb (by decide) (fun x => so_rcv hs hv (so_bnd (t_valueOf hs x) (fun r h1 hs _ => so_rcv hs hb ?_)))
  exact so_bnd (t_isAboveLow hs hb _) (fun r h1 hs _ => so_if (fun _ => c_z0 hs) (fun _ => so_rcv hs hb (so_bnd (t_isBelowHigh hs hb _) (fun r h1 hs _ => so_if (fun _ => c_z0 hs) (fun _ => c_z1 hs)))))
theorem t_hasRangeWith (hw : w ≤ X + 1900) {h : AH} (hs : ST X w κ z mm h) {a : Nat} (ha : κ a = some (.inl 1)) (x : Int32) : SO X w κ z mm (f_T_hasRangeWith a x (some (X + 1)) h) b01 := by
  have key : ∀ (n bn : Nat) (r : Option Nat) (h : AH), bn < n + X + 26 → okr κ bn r → ST X w κ z mm h → SO X w κ z mm (f_T_hasRangeWith_b16 (n + 1) (some (X + 1)) r h) b01 := by
    intro n
    induction n with
    | zero =>
      intro bn r h hn hr hs
      rw [f_T_hasRangeWith_b16]
      obtain rfl | ⟨b, rfl, hb, hk⟩ := hr
      · exact so_if (fun _ => c_z0 hs) (fun h => absurd rfl h)
      · have := st_hi hs hk (by omega)
        omega
    | succ n ih =>
      intro bn r h hn hr hs
      rw [f_T_hasRangeWith_b16]
      obtain rfl | ⟨b, rfl, hb, hk⟩ := hr
      · exact so_if (fun _ => c_z0 hs) (fun h => absurd rfl h)
      · exact so_if (fun _ => c_z0 hs) (fun _ => so_rcv hs hk (so_bnd (t_holds hs hk) (fun r h1 hs _ => so_if (fun _ => so_rR hs hk (fun r hr => ih b r _ (by omega) hr hs)) (fun _ => c_z1 hs))))
  unfold f_T_hasRangeWith
  refine so_bnd (t_isTable hs x) (fun r h1 hs ⟨_, he⟩ => so_if (fun _ => c_z0 hs) (fun hne => ?_))
  obtain ⟨j, hj, rfl⟩ := he hne
  exact so_tR7 hs ha (so_lR3 hs ha hj (fun r hr => key 1999 w r _ (by omega) hr hs))
theorem t_isCovered (hw : w ≤ X + 1900) {h : AH} (hs : ST X w κ z mm h) {a d : Nat} (ha : κ a = some (.inl 1)) (hd : κ d = some (.inl 0)) (x : Int32) : SO X w κ z mm (f_T_isCovered a x (some d) h) b01 := by
  have key : ∀ (n bn : Nat) (r : Option Nat) (h : AH), bn < n + X + 26 → okr κ bn r → ST X w κ z mm h → SO X w κ z mm (f_T_isCovered_b16 (n + 1) (some d) r h) b01 := by
    intro n
    induction n with
    | zero =>
      intro bn r h hn hr hs
      rw [f_T_isCovered_b16]
      obtain rfl | ⟨b, rfl, hb, hk⟩ := hr
      · exact so_if (fun _ => c_z0 hs) (fun h => absurd rfl h)
      · have := st_hi hs hk (by omega)
        omega
    | succ n ih =>
      intro bn r h hn hr hs
      rw [f_T_isCovered_b16]
      obtain rfl | ⟨b, rfl, hb, hk⟩ := hr
      · exact so_if (fun _ => c_z0 hs) (fun h => absurd rfl h)
      · exact so_if (fun _ => c_z0 hs) (fun _ => so_rcv hs hk (so_bnd (t_isWholeTable hs hk) (fun r h1 hs _ => so_if (fun _ => so_rcv hs hk (so_bnd (t_isSameAs hs hk hd) (fun r h1 hs _ => so_if (fun _ => so_rR hs hk (fun r hr => ih b r _ (by omega) hr hs)) (fun _ => c_z1 hs)))) (fun _ => c_z1 hs))))
  unfold f_T_isCovered
  refine so_bnd (t_isTable hs x) (fun r h1 hs ⟨_, he⟩ => so_if (fun _ => c_z0 hs) (fun hne => ?_))
  obtain ⟨j, hj, rfl⟩ := he hne
  exact so_tR7 hs ha (so_lR3 hs ha hj (fun r hr => key 1999 w r _ (by omega) hr hs))
theorem t_isConcurrentWith {h : AH} (hs : ST X w κ z mm h) {a b : Nat} (ha : κ a = some (.inl 1)) (hb : κ b = some (.inl 1)) : SO X w κ z mm (f_T_isConcurrentWith a (some b) h) b01 := by
  unfold f_T_isConcurrentWith
  exact so_rcv hs ha (so_bnd (t_isRunning hs ha) (fun r h1 hs _ => so_if (fun _ => so_tI hs ha (by decide) (fun x => so_tI hs hb (by decide) (fun y => so_if (fun _ => c_z0 hs) (fun _ => c_z1 hs)))) (fun _ => c_z1 hs)))
theorem t_note {h : AH} (hs : ST X w κ z mm h) {a : Nat} (ha : κ a = some (.inl 1)) (x : Int32) : SO X w κ z mm (f_T_noteCommitPointedAt a x h) (fun _ => True) := by
  have h15 : SO X w κ z mm (f_T_noteCommitPointedAt_b15 a x h) (fun _ => True) := by
    unfold f_T_noteCommitPointedAt_b15
    exact so_tP hs ha (by decide) (fun h1 hs => so_ret hs trivial)
  unfold f_T_noteCommitPointedAt
  exact so_tI hs ha (by decide) (fun y => so_if (fun _ => h15) (fun _ => so_tI hs ha (by decide) (fun y => so_if (fun _ => so_ret hs trivial) (fun _ => h15))))
theorem t_pointAt {h : AH} (hs : ST X w κ z mm h) {a b : Nat} (ha : κ a = some (.inl 1)) (hb : κ b = some (.inl 1)) : SO X w κ z mm (f_T_pointAt a (some b) h) (fun _ => True) := by
  unfold f_T_pointAt
  exact so_tL hs ha (fun x => so_tI hs hb (by decide) (fun y => so_tPL hs ha (fun h1 hs => so_rcv hs hb (so_bnd (t_isRunning hs hb) (fun r h1 hs _ => so_if (fun _ => so_tI hs hb (by decide) (fun y => so_rcv hs ha (so_bndU (t_note hs ha y) (fun h1 hs => so_ret hs trivial)))) (fun _ => so_ret hs trivial))))))
theorem t_pointsAt {h : AH} (hs : ST X w κ z mm h) {a b : Nat} (ha : κ a = some (.inl 1)) (hb : κ b = some (.inl 1)) : SO X w κ z mm (f_T_pointsAt a (some b) h) b01 := by
  unfold f_T_pointsAt
  exact so_tL hs ha (fun x => so_tI hs hb (by decide) (fun y => so_if (fun _ => c_z0 hs) (fun _ => c_z1 hs)))
theorem t_forgetArrowTo {h : AH} (hs : ST X w κ z mm h) {a b : Nat} (ha : κ a = some (.inl 1)) (hb : κ b = some (.inl 1)) : SO X w κ z mm (f_T_forgetArrowTo a (some b) h) (fun _ => True) := by
  unfold f_T_forgetArrowTo
  exact so_tL hs ha (fun x => so_tI hs hb (by decide) (fun y => so_tPL hs ha (fun h1 hs => so_ret hs trivial)))
end CS1
