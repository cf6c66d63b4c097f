set_option maxHeartbeats 1000000 in
theorem cw_D_freeSlot_b2 {X : Nat} : ∀ (n : Nat) (x1 : Int32) (h : AH) (v : CV), C2 X h v (f_D_freeSlot_b2 n X x1 h) (cv_D_freeSlot_b2 n x1 v) := by
  intro n
  induction n with
  | zero => intro x1 h v; exact c2_none
  | succ n ih =>
    intro x1 h v
    rw [f_D_freeSlot_b2, cv_D_freeSlot_b2]
    refine c2_dR2 ?_
    refine c2_gS ?_
    refine c2_if ?_ ?_
    · exact c2_ret
    · refine c2_dR2 ?_
      refine c2_rS (fun r1001 => ?_)
      refine c2_if ?_ ?_
      · exact c2_ret
      · exact ih _ _ _
set_option maxHeartbeats 1000000 in
theorem cw_D_freeSlot {X : Nat} (h : AH) (v : CV) : C2 X h v (f_D_freeSlot X h) (cv_D_freeSlot  v) := by
  unfold f_D_freeSlot cv_D_freeSlot
  exact cw_D_freeSlot_b2 2000 _ _ _
set_option maxHeartbeats 1000000 in
theorem cw_D_isSession {X : Nat} (x0 : Int32) (h : AH) (v : CV) : C2 X h v (f_D_isSession x0 h) (cv_D_isSession x0 v) := by
  unfold f_D_isSession cv_D_isSession
  refine c2_if ?_ ?_
  · exact c2_rZ
  · refine c2_if ?_ ?_
    · exact c2_rZ
    · exact c2_rZ
set_option maxHeartbeats 1000000 in
theorem cw_D_begin {X : Nat} (x1 : Int32) (h : AH) (v : CV) : C2 X h v (f_D_begin X x1 h) (cv_D_begin x1 v) := by
  unfold f_D_begin cv_D_begin
  refine c2_rcvD ?_
  refine c2_bnd (cw_D_freeSlot  _ _) (fun x103 h101 v102 => ?_)
  refine c2_bnd (cw_D_isSession _ _ _) (fun x106 h104 v105 => ?_)
  refine c2_if ?_ ?_
  · exact c2_ret
  · refine c2_dR1 ?_
    refine c2_rE (fun r107 => ?_)
    refine c2_if ?_ ?_
    · refine c2_if ?_ ?_
      · refine c2_dI 4 (by decide) ?_
        refine c2_dP 4 (by decide) (fun h108 => ?_)
        refine c2_hi (fun hhi => ?_)
        refine c2_nO rfl (fun h112 hraw => ?_)
        refine c2_dI 4 (by decide) ?_
        refine c2_dI 5 (by decide) ?_
        refine c2_initT hraw rfl hhi (fun h113 => ?_)
        refine c2_dR1 ?_
        refine c2_wE (fun h116 v117 => ?_)
        refine c2_dR2 ?_
        refine c2_wL (fun h118 v119 => ?_)
        refine c2_dI 3 (by decide) ?_
        refine c2_dP 3 (by decide) (fun h120 => ?_)
        refine c2_tI (by decide) (fun x122 => ?_)
        exact c2_ret
      · exact c2_ret
    · exact c2_ret
set_option maxHeartbeats 1000000 in
theorem cw_D_isColumn {X : Nat} (x0 : Int32) (h : AH) (v : CV) : C2 X h v (f_D_isColumn x0 h) (cv_D_isColumn x0 v) := by
  unfold f_D_isColumn cv_D_isColumn
  refine c2_if ?_ ?_
  · exact c2_rZ
  · refine c2_if ?_ ?_
    · exact c2_rZ
    · exact c2_rZ
set_option maxHeartbeats 1000000 in
theorem cw_D_isTable {X : Nat} (x0 : Int32) (h : AH) (v : CV) : C2 X h v (f_D_isTable x0 h) (cv_D_isTable x0 v) := by
  unfold f_D_isTable cv_D_isTable
  refine c2_if ?_ ?_
  · exact c2_rZ
  · refine c2_if ?_ ?_
    · exact c2_rZ
    · exact c2_rZ
set_option maxHeartbeats 1000000 in
theorem cw_D_runningIn {X : Nat} (x1 : Int32) (h : AH) (v : CV) : C2 X h v (f_D_runningIn X x1 h) (cv_D_runningIn x1 v) := by
  unfold f_D_runningIn cv_D_runningIn
  refine c2_bnd (cw_D_isSession _ _ _) (fun x103 h101 v102 => ?_)
  refine c2_if ?_ ?_
  · exact c2_ret
  · refine c2_dR1 ?_
    refine c2_rE (fun r104 => ?_)
    exact c2_ret
set_option maxHeartbeats 1000000 in
theorem cw_D_wholeTable {X : Nat} (h : AH) (v : CV) : C2 X h v (f_D_wholeTable  h) (cv_D_wholeTable  v) := by
  unfold f_D_wholeTable cv_D_wholeTable
  refine c2_hi (fun hhi => ?_)
  refine c2_nO rfl (fun h103 hraw => ?_)
  refine c2_initR hraw hhi (fun h104 => ?_)
  exact c2_ret
set_option maxHeartbeats 1000000 in
theorem cw_R_lacks {X : Nat} (a0 : Nat) (x1 : Int32) (h : AH) (v : CV) : C2 X h v (f_R_lacks a0 x1 h) (cv_R_lacks a0 x1 v) := by
  unfold f_R_lacks cv_R_lacks
  refine c2_gI (by decide) (fun x101 => ?_)
  refine c2_if ?_ ?_
  · exact c2_rZ
  · exact c2_rZ
set_option maxHeartbeats 1000000 in
theorem cw_R_isSameAs_b42 {X : Nat} (a0 : Nat) (r1 : Option Nat) (h : AH) (v : CV) : C2 X h v (f_R_isSameAs_b42 a0 r1 h) (cv_R_isSameAs_b42 a0 r1 v) := by
  unfold f_R_isSameAs_b42 cv_R_isSameAs_b42
  refine c2_rcvR (fun b1004 => ?_)
  refine c2_bnd (cw_R_lacks _ _ _ _) (fun x1003 h1001 v1002 => ?_)
  refine c2_if ?_ ?_
  · refine c2_gL (by decide) (fun x1005 => ?_)
    refine c2_gL (by decide) (fun x1006 => ?_)
    refine c2_if ?_ ?_
    · exact c2_rZ
    · exact c2_rZ
  · exact c2_rZ
set_option maxHeartbeats 1000000 in
theorem cw_R_isSameAs {X : Nat} (a0 : Nat) (r1 : Option Nat) (h : AH) (v : CV) : C2 X h v (f_R_isSameAs a0 r1 h) (cv_R_isSameAs a0 r1 v) := by
  unfold f_R_isSameAs cv_R_isSameAs
  refine c2_gI (by decide) (fun x101 => ?_)
  refine c2_gI (by decide) (fun x102 => ?_)
  refine c2_if ?_ ?_
  · refine c2_gI (by decide) (fun x103 => ?_)
    refine c2_gI (by decide) (fun x104 => ?_)
    refine c2_if ?_ ?_
    · refine c2_rcvR (fun b108 => ?_)
      refine c2_bnd (cw_R_lacks _ _ _ _) (fun x107 h105 v106 => ?_)
      refine c2_if ?_ ?_
      · refine c2_gL (by decide) (fun x109 => ?_)
        refine c2_gL (by decide) (fun x110 => ?_)
        refine c2_if ?_ ?_
        · exact cw_R_isSameAs_b42  _ _ _ _
        · exact c2_rZ
      · exact cw_R_isSameAs_b42  _ _ _ _
    · exact c2_rZ
  · exact c2_rZ
set_option maxHeartbeats 1000000 in
theorem cw_R_isWholeTable {X : Nat} (a0 : Nat) (h : AH) (v : CV) : C2 X h v (f_R_isWholeTable a0 h) (cv_R_isWholeTable a0 v) := by
  unfold f_R_isWholeTable cv_R_isWholeTable
  refine c2_gI (by decide) (fun x101 => ?_)
  refine c2_if ?_ ?_
  · exact c2_rZ
  · exact c2_rZ
set_option maxHeartbeats 1000000 in
theorem cw_T_isCovered_b16 {X : Nat} : ∀ (n : Nat) (r2 : Option Nat) (r3 : Option Nat) (h : AH) (v : CV), C2 X h v (f_T_isCovered_b16 n r2 r3 h) (cv_T_isCovered_b16 n r2 r3 v) := by
  intro n
  induction n with
  | zero => intro r2 r3 h v; exact c2_none
  | succ n ih =>
    intro r2 r3 h v
    rw [f_T_isCovered_b16, cv_T_isCovered_b16]
    refine c2_if ?_ ?_
    · exact c2_rZ
    · refine c2_rcvR (fun b1004 => ?_)
      refine c2_bnd (cw_R_isWholeTable _ _ _) (fun x1003 h1001 v1002 => ?_)
      refine c2_if ?_ ?_
      · refine c2_rcvR (fun b1008 => ?_)
        refine c2_bnd (cw_R_isSameAs _ _ _ _) (fun x1007 h1005 v1006 => ?_)
        refine c2_if ?_ ?_
        · refine c2_gX (fun r1009 => ?_)
          exact ih _ _ _ _
        · exact c2_rZ
      · exact c2_rZ
set_option maxHeartbeats 1000000 in
theorem cw_T_isCovered {X : Nat} (a0 : Nat) (x1 : Int32) (r2 : Option Nat) (h : AH) (v : CV) : C2 X h v (f_T_isCovered a0 x1 r2 h) (cv_T_isCovered a0 x1 r2 v) := by
  unfold f_T_isCovered cv_T_isCovered
  refine c2_bnd (cw_D_isTable _ _ _) (fun x103 h101 v102 => ?_)
  refine c2_if ?_ ?_
  · exact c2_rZ
  · refine c2_t7 (fun a104 => ?_)
    refine c2_rF (fun r105 => ?_)
    exact cw_T_isCovered_b16 2000 _ _ _ _
set_option maxHeartbeats 1000000 in
theorem cw_T_addRange {X : Nat} (a0 : Nat) (x1 : Int32) (r2 : Option Nat) (h : AH) (v : CV) : C2 X h v (f_T_addRange a0 x1 r2 h) (cv_T_addRange a0 x1 r2 v) := by
  unfold f_T_addRange cv_T_addRange
  refine c2_bnd (cw_D_isTable _ _ _) (fun x103 h101 v102 => ?_)
  refine c2_if ?_ ?_
  · exact c2_ret
  · refine c2_rcvT (fun b107 => ?_)
    refine c2_bnd (cw_T_isCovered _ _ _ _ _) (fun x106 h104 v105 => ?_)
    refine c2_if ?_ ?_
    · refine c2_t8 (fun a108 => ?_)
      refine c2_rC (fun x109 => ?_)
      refine c2_if ?_ ?_
      · refine c2_t7 (fun a110 => ?_)
        refine c2_rF (fun r111 => ?_)
        refine c2_wX (fun h112 v113 => ?_)
        refine c2_t7 (fun a114 => ?_)
        refine c2_wF (fun h115 v116 => ?_)
        refine c2_t8 (fun a117 => ?_)
        refine c2_rC (fun x118 => ?_)
        refine c2_wC (fun h119 v120 => ?_)
        refine c2_t8 (fun a121 => ?_)
        refine c2_rC (fun x122 => ?_)
        exact c2_ret
      · refine c2_t7 (fun a123 => ?_)
        refine c2_bnd (cw_D_wholeTable  _ _) (fun r126 h124 v125 => ?_)
        refine c2_wF (fun h127 v128 => ?_)
        refine c2_t8 (fun a129 => ?_)
        refine c2_wC (fun h130 v131 => ?_)
        exact c2_ret
    · refine c2_t8 (fun a132 => ?_)
      refine c2_rC (fun x133 => ?_)
      exact c2_ret
set_option maxHeartbeats 1000000 in
theorem cw_D_read {X : Nat} (x1 : Int32) (x2 : Int32) (x3 : Int32) (x4 : Int64) (x6 : Int64) (x8 : Int32) (h : AH) (v : CV) : C2 X h v (f_D_read X x1 x2 x3 x4 x6 x8 h) (cv_D_read x1 x2 x3 x4 x6 x8 v) := by
  unfold f_D_read cv_D_read
  refine c2_rcvD ?_
  refine c2_bnd (cw_D_runningIn _ _ _) (fun r103 h101 v102 => ?_)
  refine c2_if ?_ ?_
  · exact c2_ret
  · refine c2_bnd (cw_D_isTable _ _ _) (fun x106 h104 v105 => ?_)
    refine c2_if ?_ ?_
    · exact c2_ret
    · refine c2_if ?_ ?_
      · refine c2_bnd (cw_D_wholeTable  _ _) (fun r109 h107 v108 => ?_)
        refine c2_rcvT (fun b113 => ?_)
        refine c2_bnd (cw_T_addRange _ _ _ _ _) (fun x112 h110 v111 => ?_)
        exact c2_ret
      · refine c2_bnd (cw_D_isColumn _ _ _) (fun x116 h114 v115 => ?_)
        refine c2_if ?_ ?_
        · exact c2_ret
        · refine c2_if ?_ ?_
          · exact c2_ret
          · refine c2_if ?_ ?_
            · refine c2_hi (fun hhi => ?_)
              refine c2_nO rfl (fun h119 hraw => ?_)
              refine c2_initR hraw hhi (fun h120 => ?_)
              refine c2_rcvT (fun b126 => ?_)
              refine c2_bnd (cw_T_addRange _ _ _ _ _) (fun x125 h123 v124 => ?_)
              exact c2_ret
            · exact c2_ret
set_option maxHeartbeats 1000000 in
theorem cw_V_fill {X : Nat} (x1 : Int32) (x2 : Int64) (h : AH) (v : CV) : C2 X h v (f_V_fill (X + 1) x1 x2 h) (cv_V_fill x1 x2 v) := by
  unfold f_V_fill cv_V_fill
  refine c2_bnd (cw_D_isColumn _ _ _) (fun x103 h101 v102 => ?_)
  refine c2_if ?_ ?_
  · exact c2_ret
  · refine c2_vR0 ?_
    refine c2_wV (fun h104 v105 => ?_)
    refine c2_vR1 ?_
    refine c2_wB (fun h106 v107 => ?_)
    exact c2_ret
set_option maxHeartbeats 1000000 in
theorem cw_D_cell {X : Nat} (x1 : Int32) (x2 : Int64) (h : AH) (v : CV) : C2 X h v (f_D_cell X x1 x2 h) (cv_D_cell x1 x2 v) := by
  unfold f_D_cell cv_D_cell
  refine c2_bnd (cw_D_isColumn _ _ _) (fun x103 h101 v102 => ?_)
  refine c2_if ?_ ?_
  · exact c2_rZ
  · refine c2_dR0 ?_
    refine c2_rcvV ?_
    refine c2_bndU (cw_V_fill _ _ _ _) (fun h104 v105 => ?_)
    exact c2_rZ
set_option maxHeartbeats 1000000 in
theorem cw_V_empty_b2 {X : Nat} : ∀ (n : Nat) (x1 : Int32) (h : AH) (v : CV), C2 X h v (f_V_empty_b2 n (X + 1) x1 h) (cv_V_empty_b2 n x1 v) := by
  intro n
  induction n with
  | zero => intro x1 h v; exact c2_none
  | succ n ih =>
    intro x1 h v
    rw [f_V_empty_b2, cv_V_empty_b2]
    refine c2_vR1 ?_
    refine c2_gB ?_
    refine c2_if ?_ ?_
    · exact c2_ret
    · refine c2_vR1 ?_
      refine c2_wB (fun h1001 v1002 => ?_)
      exact ih _ _ _
set_option maxHeartbeats 1000000 in
theorem cw_V_empty {X : Nat} (h : AH) (v : CV) : C2 X h v (f_V_empty (X + 1) h) (cv_V_empty  v) := by
  unfold f_V_empty cv_V_empty
  exact cw_V_empty_b2 2000 _ _ _
set_option maxHeartbeats 1000000 in
theorem cw_D_clear {X : Nat} (h : AH) (v : CV) : C2 X h v (f_D_clear X h) (cv_D_clear  v) := by
  unfold f_D_clear cv_D_clear
  refine c2_dR0 ?_
  refine c2_rcvV ?_
  refine c2_bndU (cw_V_empty  _ _) (fun h101 v102 => ?_)
  exact c2_ret
set_option maxHeartbeats 1000000 in
theorem cw_T_isRunning {X : Nat} (a0 : Nat) (h : AH) (v : CV) : C2 X h v (f_T_isRunning a0 h) (cv_T_isRunning a0 v) := by
  unfold f_T_isRunning cv_T_isRunning
  refine c2_tI (by decide) (fun x101 => ?_)
  refine c2_if ?_ ?_
  · exact c2_rZ
  · exact c2_rZ
set_option maxHeartbeats 1000000 in
theorem cw_T_committedBefore {X : Nat} (a0 : Nat) (x1 : Int32) (h : AH) (v : CV) : C2 X h v (f_T_committedBefore a0 x1 h) (cv_T_committedBefore a0 x1 v) := by
  unfold f_T_committedBefore cv_T_committedBefore
  refine c2_rcvT (fun b104 => ?_)
  refine c2_bnd (cw_T_isRunning _ _ _) (fun x103 h101 v102 => ?_)
  refine c2_if ?_ ?_
  · refine c2_tI (by decide) (fun x105 => ?_)
    refine c2_if ?_ ?_
    · exact c2_rZ
    · exact c2_rZ
  · exact c2_rZ
set_option maxHeartbeats 1000000 in
theorem cw_D_isFirstOfDanger {X : Nat} (r0 : Option Nat) (r1 : Option Nat) (h : AH) (v : CV) : C2 X h v (f_D_isFirstOfDanger r0 r1 h) (cv_D_isFirstOfDanger r0 r1 v) := by
  unfold f_D_isFirstOfDanger cv_D_isFirstOfDanger
  refine c2_tI (by decide) (fun x101 => ?_)
  refine c2_if ?_ ?_
  · exact c2_rZ
  · refine c2_rcvT (fun b105 => ?_)
    refine c2_bnd (cw_T_committedBefore _ _ _ _) (fun x104 h102 v103 => ?_)
    refine c2_if ?_ ?_
    · refine c2_rcvT (fun b109 => ?_)
      refine c2_bnd (cw_T_committedBefore _ _ _ _) (fun x108 h106 v107 => ?_)
      refine c2_if ?_ ?_
      · exact c2_rZ
      · exact c2_rZ
    · exact c2_rZ
set_option maxHeartbeats 1000000 in
theorem cw_R_isAboveLow {X : Nat} (a0 : Nat) (x1 : Int64) (h : AH) (v : CV) : C2 X h v (f_R_isAboveLow a0 x1 h) (cv_R_isAboveLow a0 x1 v) := by
  unfold f_R_isAboveLow cv_R_isAboveLow
  refine c2_rcvR (fun b104 => ?_)
  refine c2_bnd (cw_R_lacks _ _ _ _) (fun x103 h101 v102 => ?_)
  refine c2_if ?_ ?_
  · refine c2_gI (by decide) (fun x105 => ?_)
    refine c2_if ?_ ?_
    · refine c2_gL (by decide) (fun x106 => ?_)
      refine c2_if ?_ ?_
      · exact c2_rZ
      · exact c2_rZ
    · refine c2_gL (by decide) (fun x107 => ?_)
      refine c2_if ?_ ?_
      · exact c2_rZ
      · exact c2_rZ
  · exact c2_rZ
set_option maxHeartbeats 1000000 in
theorem cw_R_isBelowHigh {X : Nat} (a0 : Nat) (x1 : Int64) (h : AH) (v : CV) : C2 X h v (f_R_isBelowHigh a0 x1 h) (cv_R_isBelowHigh a0 x1 v) := by
  unfold f_R_isBelowHigh cv_R_isBelowHigh
  refine c2_rcvR (fun b104 => ?_)
  refine c2_bnd (cw_R_lacks _ _ _ _) (fun x103 h101 v102 => ?_)
  refine c2_if ?_ ?_
  · refine c2_gI (by decide) (fun x105 => ?_)
    refine c2_if ?_ ?_
    · refine c2_gL (by decide) (fun x106 => ?_)
      refine c2_if ?_ ?_
      · exact c2_rZ
      · exact c2_rZ
    · refine c2_gL (by decide) (fun x107 => ?_)
      refine c2_if ?_ ?_
      · exact c2_rZ
      · exact c2_rZ
  · exact c2_rZ
set_option maxHeartbeats 1000000 in
theorem cw_V_isFilled {X : Nat} (x1 : Int32) (h : AH) (v : CV) : C2 X h v (f_V_isFilled (X + 1) x1 h) (cv_V_isFilled x1 v) := by
  unfold f_V_isFilled cv_V_isFilled
  refine c2_bnd (cw_D_isColumn _ _ _) (fun x103 h101 v102 => ?_)
  refine c2_if ?_ ?_
  · exact c2_rZ
  · refine c2_vR1 ?_
    refine c2_rB (fun x104 => ?_)
    refine c2_if ?_ ?_
    · exact c2_rZ
    · exact c2_rZ
set_option maxHeartbeats 1000000 in
theorem cw_V_valueOf {X : Nat} (x1 : Int32) (h : AH) (v : CV) : C2 X h v (f_V_valueOf (X + 1) x1 h) (cv_V_valueOf x1 v) := by
  unfold f_V_valueOf cv_V_valueOf
  refine c2_bnd (cw_D_isColumn _ _ _) (fun x103 h101 v102 => ?_)
  refine c2_if ?_ ?_
  · exact c2_ret
  · refine c2_vR0 ?_
    refine c2_rV (fun x104 => ?_)
    exact c2_ret
set_option maxHeartbeats 1000000 in
theorem cw_R_holds {X : Nat} (a0 : Nat) (h : AH) (v : CV) : C2 X h v (f_R_holds a0 (some (X + 1)) h) (cv_R_holds a0 v) := by
  unfold f_R_holds cv_R_holds
  refine c2_rcvR (fun b104 => ?_)
  refine c2_bnd (cw_R_isWholeTable _ _ _) (fun x103 h101 v102 => ?_)
  refine c2_if ?_ ?_
  · refine c2_gI (by decide) (fun x105 => ?_)
    refine c2_rcvV ?_
    refine c2_bnd (cw_V_isFilled _ _ _) (fun x108 h106 v107 => ?_)
    refine c2_if ?_ ?_
    · exact c2_rZ
    · refine c2_gI (by decide) (fun x109 => ?_)
      refine c2_rcvV ?_
      refine c2_bnd (cw_V_valueOf _ _ _) (fun x112 h110 v111 => ?_)
      refine c2_rcvR (fun b116 => ?_)
      refine c2_bnd (cw_R_isAboveLow _ _ _ _) (fun x115 h113 v114 => ?_)
      refine c2_if ?_ ?_
      · exact c2_rZ
      · refine c2_rcvR (fun b120 => ?_)
        refine c2_bnd (cw_R_isBelowHigh _ _ _ _) (fun x119 h117 v118 => ?_)
        refine c2_if ?_ ?_
        · exact c2_rZ
        · exact c2_rZ
  · exact c2_rZ
set_option maxHeartbeats 1000000 in
theorem cw_T_hasRangeWith_b16 {X : Nat} : ∀ (n : Nat) (r3 : Option Nat) (h : AH) (v : CV), C2 X h v (f_T_hasRangeWith_b16 n (some (X + 1)) r3 h) (cv_T_hasRangeWith_b16 n r3 v) := by
  intro n
  induction n with
  | zero => intro r3 h v; exact c2_none
  | succ n ih =>
    intro r3 h v
    rw [f_T_hasRangeWith_b16, cv_T_hasRangeWith_b16]
    refine c2_if ?_ ?_
    · exact c2_rZ
    · refine c2_rcvR (fun b1004 => ?_)
      refine c2_bnd (cw_R_holds _ _ _) (fun x1003 h1001 v1002 => ?_)
      refine c2_if ?_ ?_
      · refine c2_gX (fun r1005 => ?_)
        exact ih _ _ _
      · exact c2_rZ
set_option maxHeartbeats 1000000 in
theorem cw_T_hasRangeWith {X : Nat} (a0 : Nat) (x1 : Int32) (h : AH) (v : CV) : C2 X h v (f_T_hasRangeWith a0 x1 (some (X + 1)) h) (cv_T_hasRangeWith a0 x1 v) := by
  unfold f_T_hasRangeWith cv_T_hasRangeWith
  refine c2_bnd (cw_D_isTable _ _ _) (fun x103 h101 v102 => ?_)
  refine c2_if ?_ ?_
  · exact c2_rZ
  · refine c2_t7 (fun a104 => ?_)
    refine c2_rF (fun r105 => ?_)
    exact cw_T_hasRangeWith_b16 2000 _ _ _
set_option maxHeartbeats 1000000 in
theorem cw_T_isConcurrentWith {X : Nat} (a0 : Nat) (r1 : Option Nat) (h : AH) (v : CV) : C2 X h v (f_T_isConcurrentWith a0 r1 h) (cv_T_isConcurrentWith a0 r1 v) := by
  unfold f_T_isConcurrentWith cv_T_isConcurrentWith
  refine c2_rcvT (fun b104 => ?_)
  refine c2_bnd (cw_T_isRunning _ _ _) (fun x103 h101 v102 => ?_)
  refine c2_if ?_ ?_
  · refine c2_tI (by decide) (fun x105 => ?_)
    refine c2_tI (by decide) (fun x106 => ?_)
    refine c2_if ?_ ?_
    · exact c2_rZ
    · exact c2_rZ
  · exact c2_rZ
set_option maxHeartbeats 1000000 in
theorem cw_T_noteCommitPointedAt_b15 {X : Nat} (a0 : Nat) (x1 : Int32) (h : AH) (v : CV) : C2 X h v (f_T_noteCommitPointedAt_b15 a0 x1 h) (cv_T_noteCommitPointedAt_b15 a0 x1 v) := by
  unfold f_T_noteCommitPointedAt_b15 cv_T_noteCommitPointedAt_b15
  refine c2_wT (by decide) (fun h1001 v1002 => ?_)
  exact c2_ret
set_option maxHeartbeats 1000000 in
theorem cw_T_noteCommitPointedAt {X : Nat} (a0 : Nat) (x1 : Int32) (h : AH) (v : CV) : C2 X h v (f_T_noteCommitPointedAt a0 x1 h) (cv_T_noteCommitPointedAt a0 x1 v) := by
  unfold f_T_noteCommitPointedAt cv_T_noteCommitPointedAt
  refine c2_tI (by decide) (fun x101 => ?_)
  refine c2_if ?_ ?_
  · exact cw_T_noteCommitPointedAt_b15  _ _ _ _
  · refine c2_tI (by decide) (fun x102 => ?_)
    refine c2_if ?_ ?_
    · exact c2_ret
    · exact cw_T_noteCommitPointedAt_b15  _ _ _ _
set_option maxHeartbeats 1000000 in
theorem cw_T_pointAt {X : Nat} (a0 : Nat) (r1 : Option Nat) (h : AH) (v : CV) : C2 X h v (f_T_pointAt a0 r1 h) (cv_T_pointAt a0 r1 v) := by
  unfold f_T_pointAt cv_T_pointAt
  refine c2_tL (fun x101 => ?_)
  refine c2_tI (by decide) (fun x102 => ?_)
  refine c2_wTL (fun h103 v104 => ?_)
  refine c2_rcvT (fun b108 => ?_)
  refine c2_bnd (cw_T_isRunning _ _ _) (fun x107 h105 v106 => ?_)
  refine c2_if ?_ ?_
  · refine c2_tI (by decide) (fun x109 => ?_)
    refine c2_rcvT (fun b113 => ?_)
    refine c2_bndU (cw_T_noteCommitPointedAt _ _ _ _) (fun h110 v111 => ?_)
    exact c2_ret
  · exact c2_ret
set_option maxHeartbeats 1000000 in
theorem cw_D_write_b22 {X : Nat} : ∀ (n : Nat) (x2 : Int32) (r3 : Option Nat) (x4 : Int32) (h : AH) (v : CV), C2 X h v (f_D_write_b22 n X x2 r3 x4 h) (cv_D_write_b22 n x2 r3 x4 v) := by
  intro n
  induction n with
  | zero => intro x2 r3 x4 h v; exact c2_none
  | succ n ih =>
    intro x2 r3 x4 h v
    rw [f_D_write_b22, cv_D_write_b22]
    refine c2_dR2 ?_
    refine c2_gS ?_
    refine c2_if ?_ ?_
    · refine c2_tI (by decide) (fun x1001 => ?_)
      exact c2_rZ
    · refine c2_dR2 ?_
      refine c2_rS (fun r1002 => ?_)
      refine c2_if ?_ ?_
      · exact ih _ _ _ _ _
      · refine c2_if ?_ ?_
        · exact ih _ _ _ _ _
        · refine c2_rcvT (fun b1006 => ?_)
          refine c2_bnd (cw_T_isConcurrentWith _ _ _ _) (fun x1005 h1003 v1004 => ?_)
          refine c2_if ?_ ?_
          · exact ih _ _ _ _ _
          · refine c2_dR0 ?_
            refine c2_rcvT (fun b1010 => ?_)
            refine c2_bnd (cw_T_hasRangeWith _ _ _ _) (fun x1009 h1007 v1008 => ?_)
            refine c2_if ?_ ?_
            · exact ih _ _ _ _ _
            · refine c2_rcvT (fun b1014 => ?_)
              refine c2_bndU (cw_T_pointAt _ _ _ _) (fun h1011 v1012 => ?_)
              refine c2_bnd (cw_D_isFirstOfDanger _ _ _ _) (fun x1017 h1015 v1016 => ?_)
              refine c2_if ?_ ?_
              · exact ih _ _ _ _ _
              · refine c2_wTZ (fun h1018 v1019 => ?_)
                exact ih _ _ _ _ _
set_option maxHeartbeats 1000000 in
theorem cw_D_write {X : Nat} (x1 : Int32) (x2 : Int32) (h : AH) (v : CV) : C2 X h v (f_D_write X x1 x2 h) (cv_D_write x1 x2 v) := by
  unfold f_D_write cv_D_write
  refine c2_rcvD ?_
  refine c2_bnd (cw_D_runningIn _ _ _) (fun r103 h101 v102 => ?_)
  refine c2_if ?_ ?_
  · exact c2_rZ
  · refine c2_bnd (cw_D_isTable _ _ _) (fun x106 h104 v105 => ?_)
    refine c2_if ?_ ?_
    · exact c2_rZ
    · exact cw_D_write_b22 2000 _ _ _ _ _
set_option maxHeartbeats 1000000 in
theorem cw_T_pointsAt {X : Nat} (a0 : Nat) (r1 : Option Nat) (h : AH) (v : CV) : C2 X h v (f_T_pointsAt a0 r1 h) (cv_T_pointsAt a0 r1 v) := by
  unfold f_T_pointsAt cv_T_pointsAt
  refine c2_tL (fun x101 => ?_)
  refine c2_tI (by decide) (fun x102 => ?_)
  refine c2_if ?_ ?_
  · exact c2_rZ
  · exact c2_rZ
set_option maxHeartbeats 1000000 in
theorem cw_D_isPointedAtByOneNotBefore_b2 {X : Nat} : ∀ (n : Nat) (r1 : Option Nat) (x2 : Int32) (x3 : Int32) (h : AH) (v : CV), C2 X h v (f_D_isPointedAtByOneNotBefore_b2 n X r1 x2 x3 h) (cv_D_isPointedAtByOneNotBefore_b2 n r1 x2 x3 v) := by
  intro n
  induction n with
  | zero => intro r1 x2 x3 h v; exact c2_none
  | succ n ih =>
    intro r1 x2 x3 h v
    rw [f_D_isPointedAtByOneNotBefore_b2, cv_D_isPointedAtByOneNotBefore_b2]
    refine c2_dR2 ?_
    refine c2_gS ?_
    refine c2_if ?_ ?_
    · exact c2_rZ
    · refine c2_dR2 ?_
      refine c2_rS (fun r1001 => ?_)
      refine c2_if ?_ ?_
      · exact ih _ _ _ _ _
      · refine c2_rcvT (fun b1005 => ?_)
        refine c2_bnd (cw_T_pointsAt _ _ _ _) (fun x1004 h1002 v1003 => ?_)
        refine c2_if ?_ ?_
        · exact ih _ _ _ _ _
        · refine c2_rcvT (fun b1009 => ?_)
          refine c2_bnd (cw_T_committedBefore _ _ _ _) (fun x1008 h1006 v1007 => ?_)
          refine c2_if ?_ ?_
          · exact c2_rZ
          · exact ih _ _ _ _ _
set_option maxHeartbeats 1000000 in
theorem cw_D_isPointedAtByOneNotBefore {X : Nat} (r1 : Option Nat) (x2 : Int32) (h : AH) (v : CV) : C2 X h v (f_D_isPointedAtByOneNotBefore X r1 x2 h) (cv_D_isPointedAtByOneNotBefore r1 x2 v) := by
  unfold f_D_isPointedAtByOneNotBefore cv_D_isPointedAtByOneNotBefore
  exact cw_D_isPointedAtByOneNotBefore_b2 2000 _ _ _ _ _
set_option maxHeartbeats 1000000 in
theorem cw_D_isSecondOfDanger {X : Nat} (r1 : Option Nat) (r2 : Option Nat) (h : AH) (v : CV) : C2 X h v (f_D_isSecondOfDanger X r1 r2 h) (cv_D_isSecondOfDanger r1 r2 v) := by
  unfold f_D_isSecondOfDanger cv_D_isSecondOfDanger
  refine c2_rcvT (fun b104 => ?_)
  refine c2_bnd (cw_T_isRunning _ _ _) (fun x103 h101 v102 => ?_)
  refine c2_if ?_ ?_
  · refine c2_tI (by decide) (fun x105 => ?_)
    refine c2_rcvD ?_
    refine c2_bnd (cw_D_isPointedAtByOneNotBefore _ _ _ _) (fun x108 h106 v107 => ?_)
    refine c2_if ?_ ?_
    · exact c2_rZ
    · exact c2_rZ
  · exact c2_rZ
set_option maxHeartbeats 1000000 in
theorem cw_D_keptWithId_b2 {X : Nat} : ∀ (n : Nat) (x1 : Int32) (x2 : Int32) (h : AH) (v : CV), C2 X h v (f_D_keptWithId_b2 n X x1 x2 h) (cv_D_keptWithId_b2 n x1 x2 v) := by
  intro n
  induction n with
  | zero => intro x1 x2 h v; exact c2_none
  | succ n ih =>
    intro x1 x2 h v
    rw [f_D_keptWithId_b2, cv_D_keptWithId_b2]
    refine c2_dR2 ?_
    refine c2_gS ?_
    refine c2_if ?_ ?_
    · exact c2_ret
    · refine c2_dR2 ?_
      refine c2_rS (fun r1001 => ?_)
      refine c2_if ?_ ?_
      · exact ih _ _ _ _
      · refine c2_tI (by decide) (fun x1002 => ?_)
        refine c2_if ?_ ?_
        · exact c2_ret
        · exact ih _ _ _ _
set_option maxHeartbeats 1000000 in
theorem cw_D_keptWithId {X : Nat} (x1 : Int32) (h : AH) (v : CV) : C2 X h v (f_D_keptWithId X x1 h) (cv_D_keptWithId x1 v) := by
  unfold f_D_keptWithId cv_D_keptWithId
  exact cw_D_keptWithId_b2 2000 _ _ _ _
set_option maxHeartbeats 1000000 in
theorem cw_D_miss_b64 {X : Nat} (r3 : Option Nat) (h : AH) (v : CV) : C2 X h v (f_D_miss_b64 r3 h) (cv_D_miss_b64 r3 v) := by
  unfold f_D_miss_b64 cv_D_miss_b64
  refine c2_wTZ (fun h1001 v1002 => ?_)
  refine c2_tI (by decide) (fun x1003 => ?_)
  exact c2_rZ
set_option maxHeartbeats 1000000 in
theorem cw_D_miss {X : Nat} (x1 : Int32) (x2 : Int32) (h : AH) (v : CV) : C2 X h v (f_D_miss X x1 x2 h) (cv_D_miss x1 x2 v) := by
  unfold f_D_miss cv_D_miss
  refine c2_rcvD ?_
  refine c2_bnd (cw_D_runningIn _ _ _) (fun r103 h101 v102 => ?_)
  refine c2_if ?_ ?_
  · exact c2_rZ
  · refine c2_rcvD ?_
    refine c2_bnd (cw_D_keptWithId _ _ _) (fun r106 h104 v105 => ?_)
    refine c2_if ?_ ?_
    · refine c2_tI (by decide) (fun x107 => ?_)
      exact c2_rZ
    · refine c2_if ?_ ?_
      · refine c2_tI (by decide) (fun x108 => ?_)
        exact c2_rZ
      · refine c2_rcvT (fun b112 => ?_)
        refine c2_bnd (cw_T_isConcurrentWith _ _ _ _) (fun x111 h109 v110 => ?_)
        refine c2_if ?_ ?_
        · refine c2_tI (by decide) (fun x113 => ?_)
          exact c2_rZ
        · refine c2_rcvT (fun b117 => ?_)
          refine c2_bndU (cw_T_pointAt _ _ _ _) (fun h114 v115 => ?_)
          refine c2_bnd (cw_D_isFirstOfDanger _ _ _ _) (fun x120 h118 v119 => ?_)
          refine c2_if ?_ ?_
          · refine c2_rcvD ?_
            refine c2_bnd (cw_D_isSecondOfDanger _ _ _ _) (fun x123 h121 v122 => ?_)
            refine c2_if ?_ ?_
            · refine c2_tI (by decide) (fun x124 => ?_)
              exact c2_rZ
            · exact cw_D_miss_b64  _ _ _
          · exact cw_D_miss_b64  _ _ _
set_option maxHeartbeats 1000000 in
theorem cw_D_commitsAtEarliestBegin_b7 {X : Nat} : ∀ (n : Nat) (x1 : Int32) (x2 : Int32) (h : AH) (v : CV), C2 X h v (f_D_commitsAtEarliestBegin_b7 n X x1 x2 h) (cv_D_commitsAtEarliestBegin_b7 n x1 x2 v) := by
  intro n
  induction n with
  | zero => intro x1 x2 h v; exact c2_none
  | succ n ih =>
    intro x1 x2 h v
    rw [f_D_commitsAtEarliestBegin_b7, cv_D_commitsAtEarliestBegin_b7]
    refine c2_dR1 ?_
    refine c2_gE ?_
    refine c2_if ?_ ?_
    · exact c2_ret
    · refine c2_dR1 ?_
      refine c2_rE (fun r1001 => ?_)
      refine c2_if ?_ ?_
      · exact ih _ _ _ _
      · refine c2_tI (by decide) (fun x1002 => ?_)
        refine c2_if ?_ ?_
        · exact ih _ _ _ _
        · refine c2_tI (by decide) (fun x1003 => ?_)
          exact ih _ _ _ _
set_option maxHeartbeats 1000000 in
theorem cw_D_commitsAtEarliestBegin {X : Nat} (h : AH) (v : CV) : C2 X h v (f_D_commitsAtEarliestBegin X h) (cv_D_commitsAtEarliestBegin  v) := by
  unfold f_D_commitsAtEarliestBegin cv_D_commitsAtEarliestBegin
  refine c2_dI 5 (by decide) ?_
  exact cw_D_commitsAtEarliestBegin_b7 2000 _ _ _ _
set_option maxHeartbeats 1000000 in
theorem cw_T_forgetArrowTo {X : Nat} (a0 : Nat) (r1 : Option Nat) (h : AH) (v : CV) : C2 X h v (f_T_forgetArrowTo a0 r1 h) (cv_T_forgetArrowTo a0 r1 v) := by
  unfold f_T_forgetArrowTo cv_T_forgetArrowTo
  refine c2_tL (fun x101 => ?_)
  refine c2_tI (by decide) (fun x102 => ?_)
  refine c2_wTL (fun h103 v104 => ?_)
  exact c2_ret
set_option maxHeartbeats 1000000 in
theorem cw_D_drop_b2 {X : Nat} : ∀ (n : Nat) (r1 : Option Nat) (x2 : Int32) (h : AH) (v : CV), C2 X h v (f_D_drop_b2 n X r1 x2 h) (cv_D_drop_b2 n r1 x2 v) := by
  intro n
  induction n with
  | zero => intro r1 x2 h v; exact c2_none
  | succ n ih =>
    intro r1 x2 h v
    rw [f_D_drop_b2, cv_D_drop_b2]
    refine c2_dR2 ?_
    refine c2_gS ?_
    refine c2_if ?_ ?_
    · exact c2_ret
    · refine c2_dR2 ?_
      refine c2_rS (fun r1001 => ?_)
      refine c2_if ?_ ?_
      · refine c2_dR2 ?_
        refine c2_wL (fun h1002 v1003 => ?_)
        refine c2_dI 3 (by decide) ?_
        refine c2_dP 3 (by decide) (fun h1004 => ?_)
        exact ih _ _ _ _
      · refine c2_if ?_ ?_
        · exact ih _ _ _ _
        · refine c2_rcvT (fun b1009 => ?_)
          refine c2_bndU (cw_T_forgetArrowTo _ _ _ _) (fun h1006 v1007 => ?_)
          exact ih _ _ _ _
set_option maxHeartbeats 1000000 in
theorem cw_D_drop {X : Nat} (r1 : Option Nat) (h : AH) (v : CV) : C2 X h v (f_D_drop X r1 h) (cv_D_drop r1 v) := by
  unfold f_D_drop cv_D_drop
  exact cw_D_drop_b2 2000 _ _ _ _
set_option maxHeartbeats 1000000 in
theorem cw_D_dropNoLongerKept_b7 {X : Nat} : ∀ (n : Nat) (x1 : Int32) (x2 : Int32) (h : AH) (v : CV), C2 X h v (f_D_dropNoLongerKept_b7 n X x1 x2 h) (cv_D_dropNoLongerKept_b7 n x1 x2 v) := by
  intro n
  induction n with
  | zero => intro x1 x2 h v; exact c2_none
  | succ n ih =>
    intro x1 x2 h v
    rw [f_D_dropNoLongerKept_b7, cv_D_dropNoLongerKept_b7]
    refine c2_dR2 ?_
    refine c2_gS ?_
    refine c2_if ?_ ?_
    · exact c2_ret
    · refine c2_dR2 ?_
      refine c2_rS (fun r1001 => ?_)
      refine c2_if ?_ ?_
      · exact ih _ _ _ _
      · refine c2_rcvT (fun b1005 => ?_)
        refine c2_bnd (cw_T_isRunning _ _ _) (fun x1004 h1002 v1003 => ?_)
        refine c2_if ?_ ?_
        · refine c2_tI (by decide) (fun x1006 => ?_)
          refine c2_if ?_ ?_
          · exact ih _ _ _ _
          · refine c2_rcvD ?_
            refine c2_bndU (cw_D_drop _ _ _) (fun h1007 v1008 => ?_)
            exact ih _ _ _ _
        · exact ih _ _ _ _
set_option maxHeartbeats 1000000 in
theorem cw_D_dropNoLongerKept {X : Nat} (h : AH) (v : CV) : C2 X h v (f_D_dropNoLongerKept X h) (cv_D_dropNoLongerKept  v) := by
  unfold f_D_dropNoLongerKept cv_D_dropNoLongerKept
  refine c2_rcvD ?_
  refine c2_bnd (cw_D_commitsAtEarliestBegin  _ _) (fun x103 h101 v102 => ?_)
  exact cw_D_dropNoLongerKept_b7 2000 _ _ _ _
set_option maxHeartbeats 1000000 in
theorem cw_D_tellCommit_b2 {X : Nat} : ∀ (n : Nat) (r1 : Option Nat) (x2 : Int32) (h : AH) (v : CV), C2 X h v (f_D_tellCommit_b2 n X r1 x2 h) (cv_D_tellCommit_b2 n r1 x2 v) := by
  intro n
  induction n with
  | zero => intro r1 x2 h v; exact c2_none
  | succ n ih =>
    intro r1 x2 h v
    rw [f_D_tellCommit_b2, cv_D_tellCommit_b2]
    refine c2_dR2 ?_
    refine c2_gS ?_
    refine c2_if ?_ ?_
    · exact c2_ret
    · refine c2_dR2 ?_
      refine c2_rS (fun r1001 => ?_)
      refine c2_if ?_ ?_
      · exact ih _ _ _ _
      · refine c2_rcvT (fun b1005 => ?_)
        refine c2_bnd (cw_T_pointsAt _ _ _ _) (fun x1004 h1002 v1003 => ?_)
        refine c2_if ?_ ?_
        · exact ih _ _ _ _
        · refine c2_tI (by decide) (fun x1006 => ?_)
          refine c2_rcvT (fun b1010 => ?_)
          refine c2_bndU (cw_T_noteCommitPointedAt _ _ _ _) (fun h1007 v1008 => ?_)
          refine c2_rcvT (fun b1014 => ?_)
          refine c2_bnd (cw_T_isRunning _ _ _) (fun x1013 h1011 v1012 => ?_)
          refine c2_if ?_ ?_
          · exact ih _ _ _ _
          · refine c2_rcvD ?_
            refine c2_bnd (cw_D_isSecondOfDanger _ _ _ _) (fun x1017 h1015 v1016 => ?_)
            refine c2_if ?_ ?_
            · exact ih _ _ _ _
            · refine c2_wTZ (fun h1018 v1019 => ?_)
              exact ih _ _ _ _
set_option maxHeartbeats 1000000 in
theorem cw_D_tellCommit {X : Nat} (r1 : Option Nat) (h : AH) (v : CV) : C2 X h v (f_D_tellCommit X r1 h) (cv_D_tellCommit r1 v) := by
  unfold f_D_tellCommit cv_D_tellCommit
  exact cw_D_tellCommit_b2 2000 _ _ _ _
set_option maxHeartbeats 1000000 in
theorem cw_D_commit {X : Nat} (x1 : Int32) (h : AH) (v : CV) : C2 X h v (f_D_commit X x1 h) (cv_D_commit x1 v) := by
  unfold f_D_commit cv_D_commit
  refine c2_rcvD ?_
  refine c2_bnd (cw_D_runningIn _ _ _) (fun r103 h101 v102 => ?_)
  refine c2_if ?_ ?_
  · exact c2_ret
  · refine c2_bnd (cw_D_isSession _ _ _) (fun x106 h104 v105 => ?_)
    refine c2_if ?_ ?_
    · exact c2_ret
    · refine c2_tI (by decide) (fun x107 => ?_)
      refine c2_if ?_ ?_
      · refine c2_dI 5 (by decide) ?_
        refine c2_dP 5 (by decide) (fun h108 => ?_)
        refine c2_dI 5 (by decide) ?_
        refine c2_wT (by decide) (fun h110 v111 => ?_)
        refine c2_dR1 ?_
        refine c2_wE (fun h112 v113 => ?_)
        refine c2_rcvD ?_
        refine c2_bndU (cw_D_tellCommit _ _ _) (fun h114 v115 => ?_)
        refine c2_rcvD ?_
        refine c2_bndU (cw_D_dropNoLongerKept  _ _) (fun h117 v118 => ?_)
        refine c2_dI 5 (by decide) ?_
        exact c2_ret
      · exact c2_ret
set_option maxHeartbeats 1000000 in
theorem cw_D_abort {X : Nat} (x1 : Int32) (h : AH) (v : CV) : C2 X h v (f_D_abort X x1 h) (cv_D_abort x1 v) := by
  unfold f_D_abort cv_D_abort
  refine c2_rcvD ?_
  refine c2_bnd (cw_D_runningIn _ _ _) (fun r103 h101 v102 => ?_)
  refine c2_if ?_ ?_
  · exact c2_rZ
  · refine c2_bnd (cw_D_isSession _ _ _) (fun x106 h104 v105 => ?_)
    refine c2_if ?_ ?_
    · exact c2_rZ
    · refine c2_dR1 ?_
      refine c2_wE (fun h107 v108 => ?_)
      refine c2_rcvD ?_
      refine c2_bndU (cw_D_drop _ _ _) (fun h109 v110 => ?_)
      refine c2_rcvD ?_
      refine c2_bndU (cw_D_dropNoLongerKept  _ _) (fun h112 v113 => ?_)
      exact c2_rZ
set_option maxHeartbeats 1000000 in
theorem cw_D_doom {X : Nat} (x1 : Int32) (h : AH) (v : CV) : C2 X h v (f_D_doom X x1 h) (cv_D_doom x1 v) := by
  unfold f_D_doom cv_D_doom
  refine c2_rcvD ?_
  refine c2_bnd (cw_D_runningIn _ _ _) (fun r103 h101 v102 => ?_)
  refine c2_if ?_ ?_
  · exact c2_rZ
  · refine c2_wTZ (fun h104 v105 => ?_)
    exact c2_rZ
set_option maxHeartbeats 1000000 in
theorem cw_D_arrowsInto_b4 {X : Nat} : ∀ (n : Nat) (r1 : Option Nat) (x2 : Int32) (x3 : Int32) (h : AH) (v : CV), C2 X h v (f_D_arrowsInto_b4 n X r1 x2 x3 h) (cv_D_arrowsInto_b4 n r1 x2 x3 v) := by
  intro n
  induction n with
  | zero => intro r1 x2 x3 h v; exact c2_none
  | succ n ih =>
    intro r1 x2 x3 h v
    rw [f_D_arrowsInto_b4, cv_D_arrowsInto_b4]
    refine c2_dR2 ?_
    refine c2_gS ?_
    refine c2_if ?_ ?_
    · exact c2_ret
    · refine c2_dR2 ?_
      refine c2_rS (fun r1001 => ?_)
      refine c2_if ?_ ?_
      · exact ih _ _ _ _ _
      · refine c2_rcvT (fun b1005 => ?_)
        refine c2_bnd (cw_T_pointsAt _ _ _ _) (fun x1004 h1002 v1003 => ?_)
        refine c2_if ?_ ?_
        · exact ih _ _ _ _ _
        · exact ih _ _ _ _ _
set_option maxHeartbeats 1000000 in
theorem cw_D_arrowsInto {X : Nat} (r1 : Option Nat) (h : AH) (v : CV) : C2 X h v (f_D_arrowsInto X r1 h) (cv_D_arrowsInto r1 v) := by
  unfold f_D_arrowsInto cv_D_arrowsInto
  exact cw_D_arrowsInto_b4 2000 _ _ _ _ _
set_option maxHeartbeats 1000000 in
theorem cw_D_look {X : Nat} (x1 : Int32) (x2 : Int32) (h : AH) (v : CV) : C2 X h v (f_D_look X x1 x2 h) (cv_D_look x1 x2 v) := by
  unfold f_D_look cv_D_look
  refine c2_if ?_ ?_
  · exact c2_ret
  · refine c2_if ?_ ?_
    · refine c2_rcvD ?_
      refine c2_bnd (cw_D_keptWithId _ _ _) (fun r103 h101 v102 => ?_)
      refine c2_if ?_ ?_
      · exact c2_ret
      · refine c2_if ?_ ?_
        · refine c2_rcvT (fun b107 => ?_)
          refine c2_bnd (cw_T_isRunning _ _ _) (fun x106 h104 v105 => ?_)
          refine c2_if ?_ ?_
          · exact c2_ret
          · exact c2_ret
        refine c2_if ?_ ?_
        · refine c2_tI (by decide) (fun x108 => ?_)
          refine c2_if ?_ ?_
          · exact c2_ret
          · exact c2_ret
        refine c2_if ?_ ?_
        · refine c2_tI (by decide) (fun x109 => ?_)
          exact c2_ret
        refine c2_if ?_ ?_
        · refine c2_tI (by decide) (fun x110 => ?_)
          exact c2_ret
        refine c2_if ?_ ?_
        · refine c2_tI (by decide) (fun x111 => ?_)
          exact c2_ret
        refine c2_rcvD ?_
        refine c2_bnd (cw_D_arrowsInto _ _ _) (fun x114 h112 v113 => ?_)
        exact c2_ret
    · exact c2_ret
set_option maxHeartbeats 1000000 in
theorem cw_D_arrow {X : Nat} (x1 : Int32) (x2 : Int32) (h : AH) (v : CV) : C2 X h v (f_D_arrow X x1 x2 h) (cv_D_arrow x1 x2 v) := by
  unfold f_D_arrow cv_D_arrow
  refine c2_rcvD ?_
  refine c2_bnd (cw_D_keptWithId _ _ _) (fun r103 h101 v102 => ?_)
  refine c2_rcvD ?_
  refine c2_bnd (cw_D_keptWithId _ _ _) (fun r106 h104 v105 => ?_)
  refine c2_if ?_ ?_
  · exact c2_rZ
  · refine c2_if ?_ ?_
    · exact c2_rZ
    · refine c2_rcvT (fun b110 => ?_)
      refine c2_bnd (cw_T_pointsAt _ _ _ _) (fun x109 h107 v108 => ?_)
      refine c2_if ?_ ?_
      · exact c2_rZ
      · exact c2_rZ
set_option maxHeartbeats 1000000 in
theorem cw_D_rings {X : Nat} (h : AH) (v : CV) : C2 X h v (f_D_rings X h) (cv_D_rings  v) := by
  unfold f_D_rings cv_D_rings
  exact c2_ret
set_option maxHeartbeats 1000000 in
theorem cw_D_count {X : Nat} (x1 : Int32) (h : AH) (v : CV) : C2 X h v (f_D_count X x1 h) (cv_D_count x1 v) := by
  unfold f_D_count cv_D_count
  refine c2_if ?_ ?_
  · refine c2_dI 3 (by decide) ?_
    exact c2_ret
  refine c2_if ?_ ?_
  · refine c2_dI 4 (by decide) ?_
    exact c2_ret
  refine c2_if ?_ ?_
  · refine c2_dI 5 (by decide) ?_
    exact c2_ret
  exact c2_ret
