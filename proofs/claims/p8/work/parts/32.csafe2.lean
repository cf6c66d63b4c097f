section CS2
variable {X w : Nat} {κ : KD} {z : Nat × Nat} {mm : Nat → Option AE}
theorem okt_some {r : Option Nat} (h : okt κ r) (hn : ¬ r = none) : ∃ a, r = some a ∧ κ a = some (.inl 1) := by
  obtain rfl | ⟨a, rfl, ha⟩ := h
  · exact absurd rfl hn
  · exact ⟨a, rfl, ha⟩
abbrev tt : Unit → Prop := fun _ => True
theorem t_isPointed {h : AH} (hs : ST X w κ z mm h) {b : Nat} (hb : κ b = some (.inl 1)) (x : Int32) : SO X w κ z mm (f_D_isPointedAtByOneNotBefore X (some b) x h) b01 := by
  have key : ∀ (n j : Nat) (h : AH), j ≤ 64 → 64 - j < n → ST X w κ z mm h → SO X w κ z mm (f_D_isPointedAtByOneNotBefore_b2 n X (some b) x (nI j) h) b01 := by
    intro n
    induction n with
    | zero => intro j h _ h2; omega
    | succ n ih =>
      intro j h hj hn hs
      rw [f_D_isPointedAtByOneNotBefore_b2]
      have hX := (st_X hs).2.2.2.2.2
      refine so_dR2 hs (so_gN hs hX (so_if (fun _ => c_z0 hs) (fun hlt => ?_)))
      rw [nI_leI (by omega) (by omega)] at hlt
      have next : ∀ h, ST X w κ z mm h → SO X w κ z mm (f_D_isPointedAtByOneNotBefore_b2 n X (some b) x (nI j + 1) h) b01 := fun h hs => by
        rw [nI_1]
        exact ih (j + 1) h (by omega) (by omega) hs
      refine so_dR2 hs (so_lR2 hs hX (by omega) (by omega) (by omega) (fun r hr => so_if (fun _ => next _ hs) (fun hne => ?_)))
      obtain ⟨a, rfl, ha⟩ := okt_some hr hne
      exact so_rcv hs ha (so_bnd (t_pointsAt hs ha hb) (fun r h1 hs _ => so_if (fun _ => next _ hs) (fun _ => so_rcv hs ha (so_bnd (t_committedBefore hs ha x) (fun r h1 hs _ => so_if (fun _ => c_z1 hs) (fun _ => next _ hs))))))
  unfold f_D_isPointedAtByOneNotBefore
  exact key 2000 0 h (by omega) (by omega) hs
theorem t_isSecond {h : AH} (hs : ST X w κ z mm h) {a b : Nat} (ha : κ a = some (.inl 1)) (hb : κ b = some (.inl 1)) : SO X w κ z mm (f_D_isSecondOfDanger X (some a) (some b) h) b01 := by
  unfold f_D_isSecondOfDanger
  exact so_rcv hs hb (so_bnd (t_isRunning hs hb) (fun r h1 hs _ => so_if (fun _ => so_tI hs hb (by decide) (fun x => so_rcv hs (st_X hs).1 (so_bnd (t_isPointed hs ha x) (fun r h1 hs _ => so_if (fun _ => c_z0 hs) (fun _ => c_z1 hs))))) (fun _ => c_z0 hs)))
theorem t_write (hw : w ≤ X + 1900) {h : AH} (hs : ST X w κ z mm h) (x1 x2 : Int32) : SO X w κ z mm (f_D_write X x1 x2 h) b01 := by
  have key : ∀ (c : Nat), κ c = some (.inl 1) → ∀ (n j : Nat) (h : AH), j ≤ 64 → 64 - j < n → ST X w κ z mm h → SO X w κ z mm (f_D_write_b22 n X x2 (some c) (nI j) h) b01 := by
    intro c hc n
    induction n with
    | zero => intro j h _ h2; omega
    | succ n ih =>
      intro j h hj hn hs
      rw [f_D_write_b22]
      have hX := (st_X hs).2.2.2.2.2
      refine so_dR2 hs (so_gN hs hX (so_if (fun _ => so_tZ hs hc (fun x hx => so_rZ hs hx hx)) (fun hlt => ?_)))
      rw [nI_leI (by omega) (by omega)] at hlt
      have next : ∀ h, ST X w κ z mm h → SO X w κ z mm (f_D_write_b22 n X x2 (some c) (nI j + 1) h) b01 := fun h hs => by
        rw [nI_1]
        exact ih (j + 1) h (by omega) (by omega) hs
      refine so_dR2 hs (so_lR2 hs hX (by omega) (by omega) (by omega) (fun r hr => so_if (fun _ => next _ hs) (fun hne => so_if (fun _ => next _ hs) (fun _ => ?_))))
      obtain ⟨a, rfl, ha⟩ := okt_some hr hne
      refine so_rcv hs ha (so_bnd (t_isConcurrentWith hs ha hc) (fun r h1 hs _ => so_if (fun _ => next _ hs) (fun _ => ?_)))
      refine so_dR0 hs (so_rcv hs ha (so_bnd (t_hasRangeWith hw hs ha x2) (fun r h1 hs _ => so_if (fun _ => next _ hs) (fun _ => ?_))))
      exact so_rcv hs ha (so_bndU (t_pointAt hs ha hc) (fun h1 hs => so_bnd (t_isFirstOfDanger hs ha hc) (fun r h1 hs _ => so_if (fun _ => next _ hs) (fun _ => so_tPZ hs hc (Or.inr rfl) (fun h1 hs => next _ hs)))))
  unfold f_D_write
  refine so_rcv hs (st_X hs).1 (so_bnd (t_runningIn hs x1) (fun r h1 hs ⟨hr, _⟩ => so_if (fun _ => c_z0 hs) (fun hne => ?_)))
  obtain ⟨c, rfl, hc⟩ := okt_some hr hne
  exact so_bnd (t_isTable hs x2) (fun r h1 hs _ => so_if (fun _ => c_z0 hs) (fun _ => key c hc 2000 0 _ (by omega) (by omega) hs))
theorem t_keptWithId {h : AH} (hs : ST X w κ z mm h) (x : Int32) : SO X w κ z mm (f_D_keptWithId X x h) (okt κ) := by
  have key : ∀ (n j : Nat) (h : AH), j ≤ 64 → 64 - j < n → ST X w κ z mm h → SO X w κ z mm (f_D_keptWithId_b2 n X x (nI j) h) (okt κ) := by
    intro n
    induction n with
    | zero => intro j h _ h2; omega
    | succ n ih =>
      intro j h hj hn hs
      rw [f_D_keptWithId_b2]
      have hX := (st_X hs).2.2.2.2.2
      refine so_dR2 hs (so_gN hs hX (so_if (fun _ => so_ret hs (Or.inl rfl)) (fun hlt => ?_)))
      rw [nI_leI (by omega) (by omega)] at hlt
      rw [nI_1]
      refine so_dR2 hs (so_lR2 hs hX (by omega) (by omega) (by omega) (fun r hr => so_if (fun _ => ih (j + 1) _ (by omega) (by omega) hs) (fun hne => ?_)))
      obtain ⟨a, rfl, ha⟩ := okt_some hr hne
      exact so_tI hs ha (by decide) (fun y => so_if (fun _ => so_ret hs hr) (fun _ => ih (j + 1) _ (by omega) (by omega) hs))
  unfold f_D_keptWithId
  exact key 2000 0 h (by omega) (by omega) hs
theorem t_miss {h : AH} (hs : ST X w κ z mm h) (x1 x2 : Int32) : SO X w κ z mm (f_D_miss X x1 x2 h) b01 := by
  unfold f_D_miss
  have hX := (st_X hs).1
  refine so_rcv hs hX (so_bnd (t_runningIn hs x1) (fun r h1 hs ⟨hr, _⟩ => so_if (fun _ => c_z0 hs) (fun hne => ?_)))
  obtain ⟨c, rfl, hc⟩ := okt_some hr hne
  have hd : ∀ h, ST X w κ z mm h → SO X w κ z mm ((fI h 1 4 (some c)).bind fun x => rZ x h) b01 := fun h hs => so_tZ hs hc (fun x hx => so_rZ hs hx hx)
  have h64 : ∀ h, ST X w κ z mm h → SO X w κ z mm (f_D_miss_b64 (some c) h) b01 := fun h hs => by
    unfold f_D_miss_b64
    exact so_tPZ hs hc (Or.inr rfl) (fun h1 hs => hd _ hs)
  refine so_rcv hs hX (so_bnd (t_keptWithId hs x2) (fun r h1 hs hr => so_if (fun _ => hd _ hs) (fun hne => so_if (fun _ => hd _ hs) (fun _ => ?_))))
  obtain ⟨a, rfl, ha⟩ := okt_some hr hne
  refine so_rcv hs ha (so_bnd (t_isConcurrentWith hs ha hc) (fun r h1 hs _ => so_if (fun _ => hd _ hs) (fun _ => ?_)))
  exact so_rcv hs hc (so_bndU (t_pointAt hs hc ha) (fun h1 hs => so_bnd (t_isFirstOfDanger hs hc ha) (fun r h1 hs _ => so_if (fun _ => so_rcv hs hX (so_bnd (t_isSecond hs hc ha) (fun r h1 hs _ => so_if (fun _ => hd _ hs) (fun _ => h64 _ hs)))) (fun _ => h64 _ hs))))
theorem t_earliest {h : AH} (hs : ST X w κ z mm h) : SO X w κ z mm (f_D_commitsAtEarliestBegin X h) (fun _ => True) := by
  have key : ∀ (n j : Nat) (x : Int32) (h : AH), j ≤ 6 → 6 - j < n → ST X w κ z mm h → SO X w κ z mm (f_D_commitsAtEarliestBegin_b7 n X x (nI j) h) (fun _ => True) := by
    intro n
    induction n with
    | zero => intro j x h _ h2; omega
    | succ n ih =>
      intro j x h hj hn hs
      rw [f_D_commitsAtEarliestBegin_b7]
      have hX := (st_X hs).2.2.2.2.1
      refine so_dR1 hs (so_gN hs hX (so_if (fun _ => so_ret hs trivial) (fun hlt => ?_)))
      rw [nI_leI (by omega) (by omega)] at hlt
      rw [nI_1]
      refine so_dR1 hs (so_lR2 hs hX (by omega) (by omega) (by omega) (fun r hr => so_if (fun _ => ih (j + 1) _ _ (by omega) (by omega) hs) (fun hne => ?_)))
      obtain ⟨a, rfl, ha⟩ := okt_some hr hne
      exact so_tI hs ha (by decide) (fun y => so_if (fun _ => ih (j + 1) _ _ (by omega) (by omega) hs) (fun _ => so_tI hs ha (by decide) (fun y => ih (j + 1) _ _ (by omega) (by omega) hs)))
  unfold f_D_commitsAtEarliestBegin
  exact so_dI hs (by decide) (fun x => key 2000 0 x h (by omega) (by omega) hs)
theorem t_drop {h : AH} (hs : ST X w κ z mm h) {b : Nat} (hb : κ b = some (.inl 1)) : SO X w κ z mm (f_D_drop X (some b) h) tt := by
  have key : ∀ (n j : Nat) (h : AH), j ≤ 64 → 64 - j < n → ST X w κ z mm h → SO X w κ z mm (f_D_drop_b2 n X (some b) (nI j) h) tt := by
    intro n
    induction n with
    | zero => intro j h _ h2; omega
    | succ n ih =>
      intro j h hj hn hs
      rw [f_D_drop_b2]
      have hX := (st_X hs).2.2.2.2.2
      refine so_dR2 hs (so_gN hs hX (so_if (fun _ => so_ret hs trivial) (fun hlt => ?_)))
      rw [nI_leI (by omega) (by omega)] at hlt
      rw [nI_1]
      refine so_dR2 hs (so_lR2 hs hX (by omega) (by omega) (by omega) (fun r hr => so_if (fun _ => ?_) (fun _ => so_if (fun _ => ih (j + 1) _ (by omega) (by omega) hs) (fun hne => ?_))))
      · exact so_dR2 hs (so_qR2 hs hX (by omega) (by omega) (by omega) (Or.inl rfl) (fun h1 hs => so_dI hs (by decide) (fun x => so_dP hs (by decide) (fun h1 hs => ih (j + 1) _ (by omega) (by omega) hs))))
      · obtain ⟨a, rfl, ha⟩ := okt_some hr hne
        exact so_rcv hs ha (so_bndU (t_forgetArrowTo hs ha hb) (fun h1 hs => ih (j + 1) _ (by omega) (by omega) hs))
  unfold f_D_drop
  exact key 2000 0 h (by omega) (by omega) hs
theorem t_dropNo {h : AH} (hs : ST X w κ z mm h) : SO X w κ z mm (f_D_dropNoLongerKept X h) tt := by
  have key : ∀ (x : Int32) (n j : Nat) (h : AH), j ≤ 64 → 64 - j < n → ST X w κ z mm h → SO X w κ z mm (f_D_dropNoLongerKept_b7 n X x (nI j) h) tt := by
    intro x n
    induction n with
    | zero => intro j h _ h2; omega
    | succ n ih =>
      intro j h hj hn hs
      rw [f_D_dropNoLongerKept_b7]
      have hX := (st_X hs).2.2.2.2.2
      refine so_dR2 hs (so_gN hs hX (so_if (fun _ => so_ret hs trivial) (fun hlt => ?_)))
      rw [nI_leI (by omega) (by omega)] at hlt
      rw [nI_1]
      have next : ∀ h, ST X w κ z mm h → SO X w κ z mm (f_D_dropNoLongerKept_b7 n X x (nI (j + 1)) h) tt := fun h hs => ih (j + 1) h (by omega) (by omega) hs
      refine so_dR2 hs (so_lR2 hs hX (by omega) (by omega) (by omega) (fun r hr => so_if (fun _ => next _ hs) (fun hne => ?_)))
      obtain ⟨a, rfl, ha⟩ := okt_some hr hne
      exact so_rcv hs ha (so_bnd (t_isRunning hs ha) (fun r h1 hs _ => so_if (fun _ => so_tI hs ha (by decide) (fun y => so_if (fun _ => next _ hs) (fun _ => so_rcv hs (st_X hs).1 (so_bndU (t_drop hs ha) (fun h1 hs => next _ hs))))) (fun _ => next _ hs)))
  unfold f_D_dropNoLongerKept
  exact so_rcv hs (st_X hs).1 (so_bnd (t_earliest hs) (fun r h1 hs _ => key r 2000 0 _ (by omega) (by omega) hs))
theorem t_tell {h : AH} (hs : ST X w κ z mm h) {b : Nat} (hb : κ b = some (.inl 1)) : SO X w κ z mm (f_D_tellCommit X (some b) h) tt := by
  have key : ∀ (n j : Nat) (h : AH), j ≤ 64 → 64 - j < n → ST X w κ z mm h → SO X w κ z mm (f_D_tellCommit_b2 n X (some b) (nI j) h) tt := by
    intro n
    induction n with
    | zero => intro j h _ h2; omega
    | succ n ih =>
      intro j h hj hn hs
      rw [f_D_tellCommit_b2]
      have hX := (st_X hs).2.2.2.2.2
      refine so_dR2 hs (so_gN hs hX (so_if (fun _ => so_ret hs trivial) (fun hlt => ?_)))
      rw [nI_leI (by omega) (by omega)] at hlt
      rw [nI_1]
      have next : ∀ h, ST X w κ z mm h → SO X w κ z mm (f_D_tellCommit_b2 n X (some b) (nI (j + 1)) h) tt := fun h hs => ih (j + 1) h (by omega) (by omega) hs
      refine so_dR2 hs (so_lR2 hs hX (by omega) (by omega) (by omega) (fun r hr => so_if (fun _ => next _ hs) (fun hne => ?_)))
      obtain ⟨a, rfl, ha⟩ := okt_some hr hne
      refine so_rcv hs ha (so_bnd (t_pointsAt hs ha hb) (fun r h1 hs _ => so_if (fun _ => next _ hs) (fun _ => ?_)))
      refine so_tI hs hb (by decide) (fun y => so_rcv hs ha (so_bndU (t_note hs ha y) (fun h1 hs => so_rcv hs ha (so_bnd (t_isRunning hs ha) (fun r h1 hs _ => so_if (fun _ => next _ hs) (fun _ => ?_))))))
      exact so_rcv hs (st_X hs).1 (so_bnd (t_isSecond hs ha hb) (fun r h1 hs _ => so_if (fun _ => next _ hs) (fun _ => so_tPZ hs ha (Or.inr rfl) (fun h1 hs => next _ hs))))
  unfold f_D_tellCommit
  exact key 2000 0 h (by omega) (by omega) hs
theorem t_commit {h : AH} (hs : ST X w κ z mm h) (x1 : Int32) : SO X w κ z mm (f_D_commit X x1 h) (fun _ => True) := by
  unfold f_D_commit
  have hX := (st_X hs).1
  refine so_rcv hs hX (so_bnd (t_runningIn hs x1) (fun r h1 hs ⟨hr, _⟩ => so_if (fun _ => so_ret hs trivial) (fun hne => ?_)))
  obtain ⟨c, rfl, hc⟩ := okt_some hr hne
  refine so_bnd (t_isSession hs x1) (fun r h1 hs ⟨_, he⟩ => so_if (fun _ => so_ret hs trivial) (fun hne => ?_))
  obtain ⟨j, hj, rfl⟩ := he hne
  refine so_tZ hs hc (fun x hx => so_if (fun _ => ?_) (fun _ => so_ret hs trivial))
  refine so_dI hs (by decide) (fun x => so_dP hs (by decide) (fun h1 hs => so_dI hs (by decide) (fun x => so_tP hs hc (by decide) (fun h1 hs => ?_))))
  refine so_dR1 hs (so_qR2 hs (st_X hs).2.2.2.2.1 (by omega) hj (by omega) (Or.inl rfl) (fun h1 hs => ?_))
  exact so_rcv hs hX (so_bndU (t_tell hs hc) (fun h1 hs => so_rcv hs hX (so_bndU (t_dropNo hs) (fun h1 hs => so_dI hs (by decide) (fun x => so_ret hs trivial)))))
theorem t_abort {h : AH} (hs : ST X w κ z mm h) (x1 : Int32) : SO X w κ z mm (f_D_abort X x1 h) b01 := by
  unfold f_D_abort
  have hX := (st_X hs).1
  refine so_rcv hs hX (so_bnd (t_runningIn hs x1) (fun r h1 hs ⟨hr, _⟩ => so_if (fun _ => c_z0 hs) (fun hne => ?_)))
  obtain ⟨c, rfl, hc⟩ := okt_some hr hne
  refine so_bnd (t_isSession hs x1) (fun r h1 hs ⟨_, he⟩ => so_if (fun _ => c_z0 hs) (fun hne => ?_))
  obtain ⟨j, hj, rfl⟩ := he hne
  refine so_dR1 hs (so_qR2 hs (st_X hs).2.2.2.2.1 (by omega) hj (by omega) (Or.inl rfl) (fun h1 hs => ?_))
  exact so_rcv hs hX (so_bndU (t_drop hs hc) (fun h1 hs => so_rcv hs hX (so_bndU (t_dropNo hs) (fun h1 hs => c_z1 hs))))
theorem t_doom {h : AH} (hs : ST X w κ z mm h) (x1 : Int32) : SO X w κ z mm (f_D_doom X x1 h) b01 := by
  unfold f_D_doom
  refine so_rcv hs (st_X hs).1 (so_bnd (t_runningIn hs x1) (fun r h1 hs ⟨hr, _⟩ => so_if (fun _ => c_z0 hs) (fun hne => ?_)))
  obtain ⟨c, rfl, hc⟩ := okt_some hr hne
  exact so_tPZ hs hc (Or.inr rfl) (fun h1 hs => c_z1 hs)
theorem t_arrowsInto {h : AH} (hs : ST X w κ z mm h) {b : Nat} (hb : κ b = some (.inl 1)) : SO X w κ z mm (f_D_arrowsInto X (some b) h) (fun _ => True) := by
  have key : ∀ (n j : Nat) (x : Int32) (h : AH), j ≤ 64 → 64 - j < n → ST X w κ z mm h → SO X w κ z mm (f_D_arrowsInto_b4 n X (some b) x (nI j) h) (fun _ => True) := by
    intro n
    induction n with
    | zero => intro j x h _ h2; omega
    | succ n ih =>
      intro j x h hj hn hs
      rw [f_D_arrowsInto_b4]
      have hX := (st_X hs).2.2.2.2.2
      refine so_dR2 hs (so_gN hs hX (so_if (fun _ => so_ret hs trivial) (fun hlt => ?_)))
      rw [nI_leI (by omega) (by omega)] at hlt
      rw [nI_1 j]
      refine so_dR2 hs (so_lR2 hs hX (by omega) (by omega) (by omega) (fun r hr => so_if (fun _ => ih (j + 1) _ _ (by omega) (by omega) hs) (fun hne => ?_)))
      obtain ⟨a, rfl, ha⟩ := okt_some hr hne
      exact so_rcv hs ha (so_bnd (t_pointsAt hs ha hb) (fun r h1 hs _ => so_if (fun _ => ih (j + 1) _ _ (by omega) (by omega) hs) (fun _ => ih (j + 1) _ _ (by omega) (by omega) hs)))
  unfold f_D_arrowsInto
  exact key 2000 0 0 h (by omega) (by omega) hs
theorem t_look {h : AH} (hs : ST X w κ z mm h) (x1 x2 : Int32) : SO X w κ z mm (f_D_look X x1 x2 h) (fun _ => True) := by
  unfold f_D_look
  have hX := (st_X hs).1
  refine so_if (fun _ => so_ret hs trivial) (fun _ => so_if (fun _ => ?_) (fun _ => so_ret hs trivial))
  refine so_rcv hs hX (so_bnd (t_keptWithId hs x1) (fun r h1 hs hr => so_if (fun _ => so_ret hs trivial) (fun hne => ?_)))
  obtain ⟨a, rfl, ha⟩ := okt_some hr hne
  refine so_if (fun _ => so_rcv hs ha (so_bnd (t_isRunning hs ha) (fun r h1 hs _ => so_if (fun _ => so_ret hs trivial) (fun _ => so_ret hs trivial)))) (fun _ => so_if (fun _ => so_tZ hs ha (fun x _ => so_if (fun _ => so_ret hs trivial) (fun _ => so_ret hs trivial))) (fun _ => so_if (fun _ => so_tI hs ha (by decide) (fun x => so_ret hs trivial)) (fun _ => so_if (fun _ => so_tI hs ha (by decide) (fun x => so_ret hs trivial)) (fun _ => so_if (fun _ => so_tI hs ha (by decide) (fun x => so_ret hs trivial)) (fun _ => ?_)))))
  exact so_rcv hs hX (so_bnd (t_arrowsInto hs ha) (fun r h1 hs _ => so_ret hs trivial))
theorem t_arrow {h : AH} (hs : ST X w κ z mm h) (x1 x2 : Int32) : SO X w κ z mm (f_D_arrow X x1 x2 h) b01 := by
  unfold f_D_arrow
  have hX := (st_X hs).1
  refine so_rcv hs hX (so_bnd (t_keptWithId hs x1) (fun r h1 hs hr => so_rcv hs hX (so_bnd (t_keptWithId hs x2) (fun r2 h1 hs hr2 => so_if (fun _ => c_z0 hs) (fun hne => so_if (fun _ => c_z0 hs) (fun hne2 => ?_))))))
  obtain ⟨a, rfl, ha⟩ := okt_some hr hne
  obtain ⟨b, rfl, hb⟩ := okt_some hr2 hne2
  exact so_rcv hs ha (so_bnd (t_pointsAt hs ha hb) (fun r h1 hs _ => so_if (fun _ => c_z0 hs) (fun _ => c_z1 hs)))
theorem t_count {h : AH} (hs : ST X w κ z mm h) (x1 : Int32) : SO X w κ z mm (f_D_count X x1 h) (fun _ => True) := by
  unfold f_D_count
  exact so_if (fun _ => so_dI hs (by decide) (fun x => so_ret hs trivial)) (fun _ => so_if (fun _ => so_dI hs (by decide) (fun x => so_ret hs trivial)) (fun _ => so_if (fun _ => so_dI hs (by decide) (fun x => so_ret hs trivial)) (fun _ => so_ret hs trivial)))
theorem t_cell {h : AH} (hs : ST X w κ z mm h) (x1 : Int32) (x2 : Int64) : SO X w κ z mm (f_D_cell X x1 x2 h) (fun r => r = if x1 < 0 ∨ 7 < x1 then 0 else 1) := by
  have hv := (st_X hs).2.1
  have hfill : ∀ (j : Nat) (h : AH), j < 8 → ST X w κ z mm h → SO X w κ z mm (f_V_fill (X + 1) (nI j) x2 h) tt := fun j h hj hs => by
    unfold f_V_fill
    refine so_bnd (t_isColumn hs (nI j)) (fun r h1 hs _ => so_if (fun _ => so_ret hs trivial) (fun _ => ?_))
    exact so_vR0 hs (so_pE0 hs hj (fun h1 hs => so_vR1 hs (so_qE1 hs hj (Or.inr rfl) (fun h1 hs => so_ret hs trivial))))
  unfold f_D_cell
  refine so_bnd (t_isColumn hs x1) (fun r h1 hs ⟨hr, he⟩ => so_if (fun h0 => so_rZ hs (Or.inl rfl) (by rw [← hr]; exact h0.symm)) (fun hne => ?_))
  obtain ⟨j, hj, e⟩ := he hne
  subst e
  refine so_dR0 hs (so_rcv hs hv (so_bndU (hfill j _ hj hs) (fun h1 hs => so_rZ hs (Or.inr rfl) ?_)))
  by_cases hc : nI j < 0 ∨ 7 < nI j
  · rw [if_pos hc] at hr
    exact absurd hr hne
  · rw [if_neg hc]
theorem t_clear {h : AH} (hs : ST X w κ z mm h) : SO X w κ z mm (f_D_clear X h) tt := by
  have hv := (st_X hs).2.1
  have key : ∀ (n j : Nat) (h : AH), j ≤ 8 → 8 - j < n → ST X w κ z mm h → SO X w κ z mm (f_V_empty_b2 n (X + 1) (nI j) h) tt := by
    intro n
    induction n with
    | zero => intro j h _ h2; omega
    | succ n ih =>
      intro j h hj hn hs
      rw [f_V_empty_b2]
      refine so_vR1 hs (so_gN hs (st_X hs).2.2.2.1 (so_if (fun _ => so_ret hs trivial) (fun hlt => ?_)))
      rw [nI_leI (by omega) (by omega)] at hlt
      rw [nI_1]
      exact so_vR1 hs (so_qE1 hs (by omega) (Or.inl rfl) (fun h1 hs => ih (j + 1) _ (by omega) (by omega) hs))
  unfold f_D_clear f_V_empty
  exact so_dR0 hs (so_rcv hs hv (so_bndU (key 2000 0 _ (by omega) (by omega) hs) (fun h1 hs => so_ret hs trivial)))
end CS2
