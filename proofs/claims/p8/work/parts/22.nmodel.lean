set_option maxHeartbeats 1000000 in
theorem n_M_running_b4 {M : Nat} : ∀ (n : Nat) (x1 : Int32) (x2 : Int32) (x3 : Int32) (h : AH) (m : MS), M2 M h m (f_M_running_b4 n M x1 x2 x3 h) (g_M_running_b4 n x1 x2 x3 m) := by
  intro n
  induction n with
  | zero => intro x1 x2 x3 h m; exact m2_none
  | succ n ih =>
    intro x1 x2 x3 h m
    rw [f_M_running_b4, g_M_running_b4]
    refine m2_fI 2 (by decide) ?_
    refine m2_if (P := (m.1 2) ≤ x3) ?_ ?_
    · exact m2_ret
    · refine m2_if (P := x1 < 0) ?_ ?_
      · exact m2_ret
      · refine m2_fR 2 rfl (by decide) ?_
        refine m2_lI 2 (by decide) rfl (by decide) (fun x1001 => ?_)
        refine m2_if (P := x1001 = x1) ?_ ?_
        · exact ih x1 x3 (x3 + 1) _ _
        · exact ih x1 x2 (x3 + 1) _ _
set_option maxHeartbeats 1000000 in
theorem n_M_running {M : Nat} (x1 : Int32) (h : AH) (m : MS) : M2 M h m (f_M_running M x1 h) (g_M_running x1 m) := by
  unfold f_M_running g_M_running
  exact n_M_running_b4 2000 x1 (-1 : Int32) (0 : Int32) _ _
set_option maxHeartbeats 1000000 in
theorem n_M_find_b4 {M : Nat} : ∀ (n : Nat) (x1 : Int32) (x2 : Int32) (x3 : Int32) (h : AH) (m : MS), M2 M h m (f_M_find_b4 n M x1 x2 x3 h) (g_M_find_b4 n x1 x2 x3 m) := by
  intro n
  induction n with
  | zero => intro x1 x2 x3 h m; exact m2_none
  | succ n ih =>
    intro x1 x2 x3 h m
    rw [f_M_find_b4, g_M_find_b4]
    refine m2_fI 2 (by decide) ?_
    refine m2_if (P := (m.1 2) ≤ x3) ?_ ?_
    · exact m2_ret
    · refine m2_fR 1 rfl (by decide) ?_
      refine m2_lI 1 (by decide) rfl (by decide) (fun x1001 => ?_)
      refine m2_if (P := x1001 = x1) ?_ ?_
      · exact ih x1 x3 (x3 + 1) _ _
      · exact ih x1 x2 (x3 + 1) _ _
set_option maxHeartbeats 1000000 in
theorem n_M_find {M : Nat} (x1 : Int32) (h : AH) (m : MS) : M2 M h m (f_M_find M x1 h) (g_M_find x1 m) := by
  unfold f_M_find g_M_find
  exact n_M_find_b4 2000 x1 (-1 : Int32) (0 : Int32) _ _
set_option maxHeartbeats 1000000 in
theorem n_M_concurrent_b24 {M : Nat} (x1 : Int32) (x2 : Int32) (h : AH) (m : MS) : M2 M h m (f_M_concurrent_b24 M x1 x2 h) (g_M_concurrent_b24 x1 x2 m) := by
  unfold f_M_concurrent_b24 g_M_concurrent_b24
  refine m2_fR 4 rfl (by decide) ?_
  refine m2_lI 4 (by decide) rfl (by decide) (fun x1001 => ?_)
  refine m2_if (P := x1001 = 0) ?_ ?_
  · exact m2_rZ
  · refine m2_fR 4 rfl (by decide) ?_
    refine m2_lI 4 (by decide) rfl (by decide) (fun x1002 => ?_)
    refine m2_fR 3 rfl (by decide) ?_
    refine m2_lI 3 (by decide) rfl (by decide) (fun x1003 => ?_)
    refine m2_if (P := x1002 ≤ x1003) ?_ ?_
    · exact m2_rZ
    · exact m2_rZ
set_option maxHeartbeats 1000000 in
theorem n_M_concurrent {M : Nat} (x1 : Int32) (x2 : Int32) (h : AH) (m : MS) : M2 M h m (f_M_concurrent M x1 x2 h) (g_M_concurrent x1 x2 m) := by
  unfold f_M_concurrent g_M_concurrent
  refine m2_fR 4 rfl (by decide) ?_
  refine m2_lI 4 (by decide) rfl (by decide) (fun x101 => ?_)
  refine m2_if (P := x101 = 0) ?_ ?_
  · exact n_M_concurrent_b24 x1 x2 _ _
  · refine m2_fR 4 rfl (by decide) ?_
    refine m2_lI 4 (by decide) rfl (by decide) (fun x102 => ?_)
    refine m2_fR 3 rfl (by decide) ?_
    refine m2_lI 3 (by decide) rfl (by decide) (fun x103 => ?_)
    refine m2_if (P := x102 ≤ x103) ?_ ?_
    · exact m2_rZ
    · exact n_M_concurrent_b24 x1 x2 _ _
set_option maxHeartbeats 1000000 in
theorem n_M_begin_b164 {M : Nat} : ∀ (n : Nat) (x2 : Int32) (h : AH) (m : MS), M2 M h m (f_M_begin_b164 n M x2 h) (g_M_begin_b164 n x2 m) := by
  intro n
  induction n with
  | zero => intro x2 h m; exact m2_none
  | succ n ih =>
    intro x2 h m
    rw [f_M_begin_b164, g_M_begin_b164]
    refine m2_if (P := (8 : Int32) ≤ x2) ?_ ?_
    · refine m2_fI 2 (by decide) ?_
      refine m2_pF 2 (by decide) (fun h1001 => ?_)
      refine m2_fI 0 (by decide) ?_
      exact m2_ret
    · refine m2_fR 8 rfl (by decide) ?_
      refine m2_fI 2 (by decide) ?_
      refine m2_pE 8 (by decide) rfl (by decide) (fun h1002 m1003 => ?_)
      exact ih (x2 + 1) _ _
set_option maxHeartbeats 1000000 in
theorem n_M_begin_b120 {M : Nat} : ∀ (n : Nat) (x2 : Int32) (h : AH) (m : MS), M2 M h m (f_M_begin_b120 n M x2 h) (g_M_begin_b120 n x2 m) := by
  intro n
  induction n with
  | zero => intro x2 h m; exact m2_none
  | succ n ih =>
    intro x2 h m
    rw [f_M_begin_b120, g_M_begin_b120]
    refine m2_if (P := (64 : Int32) ≤ x2) ?_ ?_
    · exact n_M_begin_b164 2000 (0 : Int32) _ _
    · refine m2_fR 7 rfl (by decide) ?_
      refine m2_fI 2 (by decide) ?_
      refine m2_qE 7 (by decide) rfl (by decide) (fun h1001 m1002 => ?_)
      refine m2_fR 7 rfl (by decide) ?_
      refine m2_fI 2 (by decide) ?_
      refine m2_qE 7 (by decide) rfl (by decide) (fun h1003 m1004 => ?_)
      exact ih (x2 + 1) _ _
set_option maxHeartbeats 1000000 in
theorem n_M_begin {M : Nat} (x1 : Int32) (h : AH) (m : MS) : M2 M h m (f_M_begin M x1 h) (g_M_begin x1 m) := by
  unfold f_M_begin g_M_begin
  refine m2_if (P := x1 < 0) ?_ ?_
  · exact m2_ret
  · refine m2_if (P := (6 : Int32) ≤ x1) ?_ ?_
    · exact m2_ret
    · refine m2_rcv ?_
      refine m2_bnd (n_M_running x1 _ _) (fun x103 h101 m102 => ?_)
      refine m2_if (P := 0 ≤ x103) ?_ ?_
      · exact m2_ret
      · refine m2_fI 2 (by decide) ?_
        refine m2_if (P := (m102.1 2) = (64 : Int32)) ?_ ?_
        · exact m2_ret
        · refine m2_fI 0 (by decide) ?_
          refine m2_pF 0 (by decide) (fun h104 => ?_)
          refine m2_fR 1 rfl (by decide) ?_
          refine m2_fI 2 (by decide) ?_
          refine m2_fI 0 (by decide) ?_
          refine m2_pE 1 (by decide) rfl (by decide) (fun h105 m106 => ?_)
          refine m2_fR 2 rfl (by decide) ?_
          refine m2_fI 2 (by decide) ?_
          refine m2_pE 2 (by decide) rfl (by decide) (fun h107 m108 => ?_)
          refine m2_fR 3 rfl (by decide) ?_
          refine m2_fI 2 (by decide) ?_
          refine m2_fI 1 (by decide) ?_
          refine m2_pE 3 (by decide) rfl (by decide) (fun h109 m110 => ?_)
          refine m2_fR 13 rfl (by decide) ?_
          refine m2_fI 0 (by decide) ?_
          refine m2_fI 1 (by decide) ?_
          refine m2_pE 13 (by decide) rfl (by decide) (fun h111 m112 => ?_)
          refine m2_fR 4 rfl (by decide) ?_
          refine m2_fI 2 (by decide) ?_
          refine m2_pE 4 (by decide) rfl (by decide) (fun h113 m114 => ?_)
          refine m2_fR 5 rfl (by decide) ?_
          refine m2_fI 2 (by decide) ?_
          refine m2_qE 5 (by decide) rfl (by decide) (fun h115 m116 => ?_)
          refine m2_fR 6 rfl (by decide) ?_
          refine m2_fI 2 (by decide) ?_
          refine m2_pE 6 (by decide) rfl (by decide) (fun h117 m118 => ?_)
          exact n_M_begin_b120 2000 (0 : Int32) _ _
set_option maxHeartbeats 1000000 in
theorem n_M_isSame_b51 {M : Nat} (x1 : Int32) (x5 : Int64) (x7 : Int32) (h : AH) (m : MS) : M2 M h m (f_M_isSame_b51 M x1 x5 x7 h) (g_M_isSame_b51 x1 x5 x7 m) := by
  unfold f_M_isSame_b51 g_M_isSame_b51
  refine m2_if (P := (x7 &&& (8 : Int32)) = 0) ?_ ?_
  · refine m2_fR 12 rfl (by decide) ?_
    refine m2_lL 12 (by decide) rfl (fun x1001 => ?_)
    refine m2_if (P := (lg_cmp x1001 x5) = 0) ?_ ?_
    · exact m2_rZ
    · exact m2_rZ
  · exact m2_rZ
set_option maxHeartbeats 1000000 in
theorem n_M_isSame_b26 {M : Nat} (x1 : Int32) (x3 : Int64) (x5 : Int64) (x7 : Int32) (xs0 : Int32) (h : AH) (m : MS) : M2 M h m (f_M_isSame_b26 M x1 x3 x5 x7 xs0 h) (g_M_isSame_b26 x1 x3 x5 x7 xs0 m) := by
  unfold f_M_isSame_b26 g_M_isSame_b26
  refine m2_if (P := xs0 = 0) ?_ ?_
  · exact m2_rZ
  · refine m2_if (P := (x7 &&& (4 : Int32)) = 0) ?_ ?_
    · refine m2_fR 11 rfl (by decide) ?_
      refine m2_lL 11 (by decide) rfl (fun x1001 => ?_)
      refine m2_if (P := (lg_cmp x1001 x3) = 0) ?_ ?_
      · exact n_M_isSame_b51 x1 x5 x7 _ _
      · exact m2_rZ
    · exact n_M_isSame_b51 x1 x5 x7 _ _
set_option maxHeartbeats 1000000 in
theorem n_M_isSame_b25 {M : Nat} (x1 : Int32) (x3 : Int64) (x5 : Int64) (x7 : Int32) (h : AH) (m : MS) : M2 M h m (f_M_isSame_b25 M x1 x3 x5 x7 h) (g_M_isSame_b25 x1 x3 x5 x7 m) := by
  unfold f_M_isSame_b25 g_M_isSame_b25
  exact n_M_isSame_b26 x1 x3 x5 x7 (0 : Int32) _ _
set_option maxHeartbeats 1000000 in
theorem n_M_isSame {M : Nat} (x1 : Int32) (x2 : Int32) (x3 : Int64) (x5 : Int64) (x7 : Int32) (h : AH) (m : MS) : M2 M h m (f_M_isSame M x1 x2 x3 x5 x7 h) (g_M_isSame x1 x2 x3 x5 x7 m) := by
  unfold f_M_isSame g_M_isSame
  refine m2_fR 9 rfl (by decide) ?_
  refine m2_lI 9 (by decide) rfl (by decide) (fun x101 => ?_)
  refine m2_if (P := x101 = x2) ?_ ?_
  · refine m2_fR 10 rfl (by decide) ?_
    refine m2_lI 10 (by decide) rfl (by decide) (fun x102 => ?_)
    refine m2_if (P := x102 = x7) ?_ ?_
    · exact n_M_isSame_b26 x1 x3 x5 x7 (1 : Int32) _ _
    · exact n_M_isSame_b25 x1 x3 x5 x7 _ _
  · exact n_M_isSame_b25 x1 x3 x5 x7 _ _
set_option maxHeartbeats 1000000 in
theorem n_M_setRange {M : Nat} (x1 : Int32) (x2 : Int32) (x3 : Int64) (x5 : Int64) (x7 : Int32) (h : AH) (m : MS) : M2 M h m (f_M_setRange M x1 x2 x3 x5 x7 h) (g_M_setRange x1 x2 x3 x5 x7 m) := by
  unfold f_M_setRange g_M_setRange
  refine m2_fR 9 rfl (by decide) ?_
  refine m2_pE 9 (by decide) rfl (by decide) (fun h101 m102 => ?_)
  refine m2_fR 11 rfl (by decide) ?_
  refine m2_pL 11 (by decide) rfl (fun h103 m104 => ?_)
  refine m2_fR 12 rfl (by decide) ?_
  refine m2_pL 12 (by decide) rfl (fun h105 m106 => ?_)
  refine m2_fR 10 rfl (by decide) ?_
  refine m2_pE 10 (by decide) rfl (by decide) (fun h107 m108 => ?_)
  exact m2_ret
set_option maxHeartbeats 1000000 in
theorem n_M_read_b153 {M : Nat} (K117 : Nat → Int32 → Int32 → Int64 → Int64 → Int32 → Int32 → Int32 → Int32 → Int32 → Int32 → Int32 → AH → Option (Int32 × AH)) (G117 : Int32 → Int32 → Int64 → Int64 → Int32 → Int32 → Int32 → Int32 → Int32 → Int32 → Int32 → MS → Option (Int32 × MS)) (hK117 : ∀ (x2 : Int32) (x3 : Int32) (x4 : Int64) (x6 : Int64) (x8 : Int32) (x9 : Int32) (x10 : Int32) (x11 : Int32) (x12 : Int32) (x13 : Int32) (x14 : Int32) (h : AH) (m : MS), M2 M h m (K117 M x2 x3 x4 x6 x8 x9 x10 x11 x12 x13 x14 h) (G117 x2 x3 x4 x6 x8 x9 x10 x11 x12 x13 x14 m)) (x2 : Int32) (x3 : Int32) (x4 : Int64) (x6 : Int64) (x8 : Int32) (x9 : Int32) (x10 : Int32) (x11 : Int32) (x12 : Int32) (x14 : Int32) (h : AH) (m : MS) : M2 M h m (f_M_read_b153 K117 M x2 x3 x4 x6 x8 x9 x10 x11 x12 x14 h) (g_M_read_b153 G117 x2 x3 x4 x6 x8 x9 x10 x11 x12 x14 m) := by
  unfold f_M_read_b153 g_M_read_b153
  exact hK117 x2 x3 x4 x6 x8 x9 x10 x11 x12 (1 : Int32) (x14 + 1) _ _
set_option maxHeartbeats 1000000 in
theorem n_M_read_b186 {M : Nat} (x2 : Int32) (x9 : Int32) (x11 : Int32) (h : AH) (m : MS) : M2 M h m (f_M_read_b186 M x2 x9 x11 h) (g_M_read_b186 x2 x9 x11 m) := by
  unfold f_M_read_b186 g_M_read_b186
  refine m2_rcv ?_
  refine m2_bndU (n_M_setRange x11 (-1 : Int32) (0 : Int64) (0 : Int64) (0 : Int32) _ _) (fun h1001 m1002 => ?_)
  refine m2_fR 8 rfl (by decide) ?_
  refine m2_pE 8 (by decide) rfl (by decide) (fun h1004 m1005 => ?_)
  exact m2_ret
set_option maxHeartbeats 1000000 in
theorem n_M_read_b166 {M : Nat} (x2 : Int32) (x3 : Int32) (x4 : Int64) (x6 : Int64) (x8 : Int32) (x9 : Int32) (x10 : Int32) (x11 : Int32) (x12 : Int32) (x13 : Int32) (h : AH) (m : MS) : M2 M h m (f_M_read_b166 M x2 x3 x4 x6 x8 x9 x10 x11 x12 x13 h) (g_M_read_b166 x2 x3 x4 x6 x8 x9 x10 x11 x12 x13 m) := by
  unfold f_M_read_b166 g_M_read_b166
  refine m2_if (P := x13 = 0) ?_ ?_
  · refine m2_if (P := x10 = 0) ?_ ?_
    · refine m2_if (P := x12 = (8 : Int32)) ?_ ?_
      · exact n_M_read_b186 x2 x9 x11 _ _
      · refine m2_rcv ?_
        refine m2_bndU (n_M_setRange (x11 + x12) x3 x4 x6 x8 _ _) (fun h1001 m1002 => ?_)
        refine m2_fR 8 rfl (by decide) ?_
        refine m2_pE 8 (by decide) rfl (by decide) (fun h1004 m1005 => ?_)
        exact m2_ret
    · exact n_M_read_b186 x2 x9 x11 _ _
  · exact m2_ret
set_option maxHeartbeats 1000000 in
theorem n_M_read_b117 {M : Nat} : ∀ (n : Nat) (x2 : Int32) (x3 : Int32) (x4 : Int64) (x6 : Int64) (x8 : Int32) (x9 : Int32) (x10 : Int32) (x11 : Int32) (x12 : Int32) (x13 : Int32) (x14 : Int32) (h : AH) (m : MS), M2 M h m (f_M_read_b117 n M x2 x3 x4 x6 x8 x9 x10 x11 x12 x13 x14 h) (g_M_read_b117 n x2 x3 x4 x6 x8 x9 x10 x11 x12 x13 x14 m) := by
  intro n
  induction n with
  | zero => intro x2 x3 x4 x6 x8 x9 x10 x11 x12 x13 x14 h m; exact m2_none
  | succ n ih =>
    intro x2 x3 x4 x6 x8 x9 x10 x11 x12 x13 x14 h m
    rw [f_M_read_b117, g_M_read_b117]
    refine m2_if (P := (x11 + x12) ≤ x14) ?_ ?_
    · exact n_M_read_b166 x2 x3 x4 x6 x8 x9 x10 x11 x12 x13 _ _
    · refine m2_if (P := x10 = 0) ?_ ?_
      · refine m2_if (P := x13 = 0) ?_ ?_
        · refine m2_rcv ?_
          refine m2_bnd (n_M_isSame x14 x3 x4 x6 x8 _ _) (fun x1003 h1001 m1002 => ?_)
          refine m2_if (P := x1003 = 0) ?_ ?_
          · exact ih x2 x3 x4 x6 x8 x9 x10 x11 x12 (0 : Int32) (x14 + 1) _ _
          · exact n_M_read_b153 _ _ ih x2 x3 x4 x6 x8 x9 x10 x11 x12 x14 _ _
        · exact n_M_read_b153 _ _ ih x2 x3 x4 x6 x8 x9 x10 x11 x12 x14 _ _
      · exact n_M_read_b166 x2 x3 x4 x6 x8 x9 x10 x11 x12 x13 _ _
set_option maxHeartbeats 1000000 in
theorem n_M_read_b110 {M : Nat} (x2 : Int32) (x3 : Int32) (x4 : Int64) (x6 : Int64) (x8 : Int32) (x9 : Int32) (x10 : Int32) (x11 : Int32) (x12 : Int32) (h : AH) (m : MS) : M2 M h m (f_M_read_b110 M x2 x3 x4 x6 x8 x9 x10 x11 x12 h) (g_M_read_b110 x2 x3 x4 x6 x8 x9 x10 x11 x12 m) := by
  unfold f_M_read_b110 g_M_read_b110
  exact n_M_read_b117 2000 x2 x3 x4 x6 x8 x9 x10 x11 x12 (0 : Int32) x11 _ _
set_option maxHeartbeats 1000000 in
theorem n_M_read_b64 {M : Nat} (x2 : Int32) (x3 : Int32) (x4 : Int64) (x6 : Int64) (x8 : Int32) (x9 : Int32) (x10 : Int32) (h : AH) (m : MS) : M2 M h m (f_M_read_b64 M x2 x3 x4 x6 x8 x9 x10 h) (g_M_read_b64 x2 x3 x4 x6 x8 x9 x10 m) := by
  unfold f_M_read_b64 g_M_read_b64
  refine m2_fR 8 rfl (by decide) ?_
  refine m2_lI 8 (by decide) rfl (by decide) (fun x1001 => ?_)
  refine m2_if (P := x1001 ≤ 0) ?_ ?_
  · exact n_M_read_b110 x2 x3 x4 x6 x8 x9 x10 ((8 : Int32) * (((8 : Int32) * x9) + x2)) x1001 _ _
  · refine m2_fR 9 rfl (by decide) ?_
    refine m2_lI 9 (by decide) rfl (by decide) (fun x1002 => ?_)
    refine m2_if (P := x1002 = (-1 : Int32)) ?_ ?_
    · exact n_M_read_b117 2000 x2 x3 x4 x6 x8 x9 x10 ((8 : Int32) * (((8 : Int32) * x9) + x2)) x1001 (1 : Int32) ((8 : Int32) * (((8 : Int32) * x9) + x2)) _ _
    · exact n_M_read_b110 x2 x3 x4 x6 x8 x9 x10 ((8 : Int32) * (((8 : Int32) * x9) + x2)) x1001 _ _
set_option maxHeartbeats 1000000 in
theorem n_M_read_b17 {M : Nat} (x2 : Int32) (x3 : Int32) (x4 : Int64) (x6 : Int64) (x8 : Int32) (x9 : Int32) (xs0 : Int32) (h : AH) (m : MS) : M2 M h m (f_M_read_b17 M x2 x3 x4 x6 x8 x9 xs0 h) (g_M_read_b17 x2 x3 x4 x6 x8 x9 xs0 m) := by
  unfold f_M_read_b17 g_M_read_b17
  refine m2_if (P := x9 < 0) ?_ ?_
  · exact m2_ret
  · refine m2_if (P := x2 < 0) ?_ ?_
    · exact m2_ret
    · refine m2_if (P := (7 : Int32) < x2) ?_ ?_
      · exact m2_ret
      · refine m2_if (P := x3 < (-1 : Int32)) ?_ ?_
        · exact m2_ret
        · refine m2_if (P := (7 : Int32) < x3) ?_ ?_
          · exact m2_ret
          · refine m2_if (P := xs0 = 0) ?_ ?_
            · refine m2_if (P := x8 < 0) ?_ ?_
              · exact m2_ret
              · refine m2_if (P := x8 ≤ (15 : Int32)) ?_ ?_
                · exact n_M_read_b64 x2 x3 x4 x6 x8 x9 xs0 _ _
                · exact m2_ret
            · exact n_M_read_b64 x2 x3 x4 x6 x8 x9 xs0 _ _
set_option maxHeartbeats 1000000 in
theorem n_M_read {M : Nat} (x1 : Int32) (x2 : Int32) (x3 : Int32) (x4 : Int64) (x6 : Int64) (x8 : Int32) (h : AH) (m : MS) : M2 M h m (f_M_read M x1 x2 x3 x4 x6 x8 h) (g_M_read x1 x2 x3 x4 x6 x8 m) := by
  unfold f_M_read g_M_read
  refine m2_rcv ?_
  refine m2_bnd (n_M_running x1 _ _) (fun x103 h101 m102 => ?_)
  refine m2_if (P := x3 = (-1 : Int32)) ?_ ?_
  · exact n_M_read_b17 x2 x3 x4 x6 x8 x103 (1 : Int32) _ _
  · exact n_M_read_b17 x2 x3 x4 x6 x8 x103 (0 : Int32) _ _
set_option maxHeartbeats 1000000 in
theorem n_M_cell {M : Nat} (x1 : Int32) (x2 : Int64) (h : AH) (m : MS) : M2 M h m (f_M_cell M x1 x2 h) (g_M_cell x1 x2 m) := by
  unfold f_M_cell g_M_cell
  refine m2_if (P := x1 < 0) ?_ ?_
  · exact m2_rZ
  · refine m2_if (P := x1 ≤ (7 : Int32)) ?_ ?_
    · refine m2_fR 18 rfl (by decide) ?_
      refine m2_qE 18 (by decide) rfl (by decide) (fun h101 m102 => ?_)
      refine m2_fR 19 rfl (by decide) ?_
      refine m2_pL 19 (by decide) rfl (fun h103 m104 => ?_)
      exact m2_rZ
    · exact m2_rZ
set_option maxHeartbeats 1000000 in
theorem n_M_clear_b2 {M : Nat} : ∀ (n : Nat) (x1 : Int32) (h : AH) (m : MS), M2 M h m (f_M_clear_b2 n M x1 h) (g_M_clear_b2 n x1 m) := by
  intro n
  induction n with
  | zero => intro x1 h m; exact m2_none
  | succ n ih =>
    intro x1 h m
    rw [f_M_clear_b2, g_M_clear_b2]
    refine m2_if (P := (8 : Int32) ≤ x1) ?_ ?_
    · exact m2_ret
    · refine m2_fR 18 rfl (by decide) ?_
      refine m2_qE 18 (by decide) rfl (by decide) (fun h1001 m1002 => ?_)
      exact ih (x1 + 1) _ _
set_option maxHeartbeats 1000000 in
theorem n_M_clear {M : Nat} (h : AH) (m : MS) : M2 M h m (f_M_clear M  h) (g_M_clear  m) := by
  unfold f_M_clear g_M_clear
  exact n_M_clear_b2 2000 (0 : Int32) _ _
set_option maxHeartbeats 1000000 in
theorem n_M_isIn_b20 {M : Nat} (x2 : Int32) (h : AH) (m : MS) : M2 M h m (f_M_isIn_b20 x2 h) (g_M_isIn_b20 x2 m) := by
  unfold f_M_isIn_b20 g_M_isIn_b20
  refine m2_if (P := 0 ≤ x2) ?_ ?_
  · exact m2_rZ
  · exact m2_rZ
set_option maxHeartbeats 1000000 in
theorem n_M_isIn_b89 {M : Nat} (x1 : Int32) (x3 : Int64) (x5 : Int32) (xs0 : Int32) (h : AH) (m : MS) : M2 M h m (f_M_isIn_b89 M x1 x3 x5 xs0 h) (g_M_isIn_b89 x1 x3 x5 xs0 m) := by
  unfold f_M_isIn_b89 g_M_isIn_b89
  refine m2_if (P := xs0 = 0) ?_ ?_
  · exact m2_rZ
  · refine m2_if (P := (x5 &&& (8 : Int32)) = 0) ?_ ?_
    · refine m2_if (P := (x5 &&& (2 : Int32)) = 0) ?_ ?_
      · refine m2_fR 12 rfl (by decide) ?_
        refine m2_lL 12 (by decide) rfl (fun x1001 => ?_)
        refine m2_if (P := 0 < (lg_cmp x3 x1001)) ?_ ?_
        · exact m2_rZ
        · exact m2_rZ
      · refine m2_fR 12 rfl (by decide) ?_
        refine m2_lL 12 (by decide) rfl (fun x1002 => ?_)
        refine m2_if (P := 0 ≤ (lg_cmp x3 x1002)) ?_ ?_
        · exact m2_rZ
        · exact m2_rZ
    · exact m2_rZ
set_option maxHeartbeats 1000000 in
theorem n_M_isIn_b84 {M : Nat} (x1 : Int32) (x3 : Int64) (x5 : Int32) (h : AH) (m : MS) : M2 M h m (f_M_isIn_b84 M x1 x3 x5 h) (g_M_isIn_b84 x1 x3 x5 m) := by
  unfold f_M_isIn_b84 g_M_isIn_b84
  exact n_M_isIn_b89 x1 x3 x5 (1 : Int32) _ _
set_option maxHeartbeats 1000000 in
theorem n_M_isIn_b88 {M : Nat} (x1 : Int32) (x3 : Int64) (x5 : Int32) (h : AH) (m : MS) : M2 M h m (f_M_isIn_b88 M x1 x3 x5 h) (g_M_isIn_b88 x1 x3 x5 m) := by
  unfold f_M_isIn_b88 g_M_isIn_b88
  exact n_M_isIn_b89 x1 x3 x5 (0 : Int32) _ _
set_option maxHeartbeats 1000000 in
theorem n_M_isIn {M : Nat} (x1 : Int32) (h : AH) (m : MS) : M2 M h m (f_M_isIn M x1 h) (g_M_isIn x1 m) := by
  unfold f_M_isIn g_M_isIn
  refine m2_fR 9 rfl (by decide) ?_
  refine m2_lI 9 (by decide) rfl (by decide) (fun x101 => ?_)
  refine m2_if (P := x101 < 0) ?_ ?_
  · exact n_M_isIn_b20 x101 _ _
  · refine m2_fR 18 rfl (by decide) ?_
    refine m2_lI 18 (by decide) rfl (by decide) (fun x102 => ?_)
    refine m2_if (P := x102 = 0) ?_ ?_
    · exact n_M_isIn_b20 x101 _ _
    · refine m2_fR 19 rfl (by decide) ?_
      refine m2_lL 19 (by decide) rfl (fun x103 => ?_)
      refine m2_fR 10 rfl (by decide) ?_
      refine m2_lI 10 (by decide) rfl (by decide) (fun x104 => ?_)
      refine m2_if (P := (x104 &&& (4 : Int32)) = 0) ?_ ?_
      · refine m2_if (P := (x104 &&& (1 : Int32)) = 0) ?_ ?_
        · refine m2_fR 11 rfl (by decide) ?_
          refine m2_lL 11 (by decide) rfl (fun x105 => ?_)
          refine m2_if (P := (lg_cmp x103 x105) < 0) ?_ ?_
          · exact n_M_isIn_b88 x1 x103 x104 _ _
          · exact n_M_isIn_b84 x1 x103 x104 _ _
        · refine m2_fR 11 rfl (by decide) ?_
          refine m2_lL 11 (by decide) rfl (fun x106 => ?_)
          refine m2_if (P := (lg_cmp x103 x106) ≤ 0) ?_ ?_
          · exact n_M_isIn_b88 x1 x103 x104 _ _
          · exact n_M_isIn_b84 x1 x103 x104 _ _
      · exact n_M_isIn_b84 x1 x103 x104 _ _
set_option maxHeartbeats 1000000 in
theorem n_M_hasRead_b44 {M : Nat} (K5 : Nat → Int32 → Int32 → Int32 → Int32 → AH → Option (Int32 × AH)) (G5 : Int32 → Int32 → Int32 → Int32 → MS → Option (Int32 × MS)) (hK5 : ∀ (x1 : Int32) (x2 : Int32) (x3 : Int32) (x4 : Int32) (h : AH) (m : MS), M2 M h m (K5 M x1 x2 x3 x4 h) (G5 x1 x2 x3 x4 m)) (x1 : Int32) (x2 : Int32) (x4 : Int32) (h : AH) (m : MS) : M2 M h m (f_M_hasRead_b44 K5 M x1 x2 x4 h) (g_M_hasRead_b44 G5 x1 x2 x4 m) := by
  unfold f_M_hasRead_b44 g_M_hasRead_b44
  exact hK5 x1 x2 (1 : Int32) (x4 + 1) _ _
set_option maxHeartbeats 1000000 in
theorem n_M_hasRead_b5 {M : Nat} : ∀ (n : Nat) (x1 : Int32) (x2 : Int32) (x3 : Int32) (x4 : Int32) (h : AH) (m : MS), M2 M h m (f_M_hasRead_b5 n M x1 x2 x3 x4 h) (g_M_hasRead_b5 n x1 x2 x3 x4 m) := by
  intro n
  induction n with
  | zero => intro x1 x2 x3 x4 h m; exact m2_none
  | succ n ih =>
    intro x1 x2 x3 x4 h m
    rw [f_M_hasRead_b5, g_M_hasRead_b5]
    refine m2_fR 8 rfl (by decide) ?_
    refine m2_lI 8 (by decide) rfl (by decide) (fun x1001 => ?_)
    refine m2_if (P := x1001 ≤ x4) ?_ ?_
    · exact m2_rZ
    · refine m2_if (P := x3 = 0) ?_ ?_
      · refine m2_rcv ?_
        refine m2_bnd (n_M_isIn (((8 : Int32) * (((8 : Int32) * x1) + x2)) + x4) _ _) (fun x1004 h1002 m1003 => ?_)
        refine m2_if (P := x1004 = 0) ?_ ?_
        · exact ih x1 x2 (0 : Int32) (x4 + 1) _ _
        · exact n_M_hasRead_b44 _ _ ih x1 x2 x4 _ _
      · exact n_M_hasRead_b44 _ _ ih x1 x2 x4 _ _
set_option maxHeartbeats 1000000 in
theorem n_M_hasRead {M : Nat} (x1 : Int32) (x2 : Int32) (h : AH) (m : MS) : M2 M h m (f_M_hasRead M x1 x2 h) (g_M_hasRead x1 x2 m) := by
  unfold f_M_hasRead g_M_hasRead
  exact n_M_hasRead_b5 2000 x1 x2 (0 : Int32) (0 : Int32) _ _
set_option maxHeartbeats 1000000 in
theorem n_M_isDanger_b30 {M : Nat} (x2 : Int32) (x3 : Int32) (h : AH) (m : MS) : M2 M h m (f_M_isDanger_b30 M x2 x3 h) (g_M_isDanger_b30 x2 x3 m) := by
  unfold f_M_isDanger_b30 g_M_isDanger_b30
  refine m2_fR 4 rfl (by decide) ?_
  refine m2_lI 4 (by decide) rfl (by decide) (fun x1001 => ?_)
  refine m2_if (P := x1001 = 0) ?_ ?_
  · exact m2_rZ
  · refine m2_fR 4 rfl (by decide) ?_
    refine m2_lI 4 (by decide) rfl (by decide) (fun x1002 => ?_)
    refine m2_if (P := x1002 < x3) ?_ ?_
    · exact m2_rZ
    · exact m2_rZ
set_option maxHeartbeats 1000000 in
theorem n_M_isDanger {M : Nat} (x1 : Int32) (x2 : Int32) (h : AH) (m : MS) : M2 M h m (f_M_isDanger M x1 x2 h) (g_M_isDanger x1 x2 m) := by
  unfold f_M_isDanger g_M_isDanger
  refine m2_fR 6 rfl (by decide) ?_
  refine m2_lI 6 (by decide) rfl (by decide) (fun x101 => ?_)
  refine m2_if (P := x101 ≤ 0) ?_ ?_
  · exact m2_rZ
  · refine m2_fR 4 rfl (by decide) ?_
    refine m2_lI 4 (by decide) rfl (by decide) (fun x102 => ?_)
    refine m2_if (P := x102 = 0) ?_ ?_
    · exact n_M_isDanger_b30 x2 x101 _ _
    · refine m2_fR 4 rfl (by decide) ?_
      refine m2_lI 4 (by decide) rfl (by decide) (fun x103 => ?_)
      refine m2_if (P := x103 < x101) ?_ ?_
      · exact m2_rZ
      · exact n_M_isDanger_b30 x2 x101 _ _
set_option maxHeartbeats 1000000 in
theorem n_M_point_b110 {M : Nat} (x2 : Int32) (xs1 : Int32) (h : AH) (m : MS) : M2 M h m (f_M_point_b110 M x2 (some (M + 6)) xs1 h) (g_M_point_b110 x2 xs1 m) := by
  unfold f_M_point_b110 g_M_point_b110
  refine m2_fR 4 rfl (by decide) ?_
  refine m2_lI 4 (by decide) rfl (by decide) (fun x1001 => ?_)
  refine m2_pE 6 (by decide) rfl (by decide) (fun h1002 m1003 => ?_)
  exact m2_ret
set_option maxHeartbeats 1000000 in
theorem n_M_point_b119 {M : Nat} (x1 : Int32) (xs1 : Int32) (h : AH) (m : MS) : M2 M h m (f_M_point_b119 M x1 (some (M + 6)) xs1 h) (g_M_point_b119 x1 xs1 m) := by
  unfold f_M_point_b119 g_M_point_b119
  refine m2_fR 6 rfl (by decide) ?_
  refine m2_lI 6 (by decide) rfl (by decide) (fun x1001 => ?_)
  refine m2_pE 6 (by decide) rfl (by decide) (fun h1002 m1003 => ?_)
  exact m2_ret
set_option maxHeartbeats 1000000 in
theorem n_M_point {M : Nat} (x1 : Int32) (x2 : Int32) (h : AH) (m : MS) : M2 M h m (f_M_point M x1 x2 h) (g_M_point x1 x2 m) := by
  unfold f_M_point g_M_point
  refine m2_fR 7 rfl (by decide) ?_
  refine m2_qE 7 (by decide) rfl (by decide) (fun h101 m102 => ?_)
  refine m2_fR 15 rfl (by decide) ?_
  refine m2_fR 1 rfl (by decide) ?_
  refine m2_lI 1 (by decide) rfl (by decide) (fun x103 => ?_)
  refine m2_fR 1 rfl (by decide) ?_
  refine m2_lI 1 (by decide) rfl (by decide) (fun x104 => ?_)
  refine m2_fR 15 rfl (by decide) ?_
  refine m2_fR 1 rfl (by decide) ?_
  refine m2_lI 1 (by decide) rfl (by decide) (fun x105 => ?_)
  refine m2_fR 1 rfl (by decide) ?_
  refine m2_lI 1 (by decide) rfl (by decide) (fun x106 => ?_)
  refine m2_lL 15 (by decide) rfl (fun x107 => ?_)
  refine m2_fR 1 rfl (by decide) ?_
  refine m2_lI 1 (by decide) rfl (by decide) (fun x108 => ?_)
  refine m2_pL 15 (by decide) rfl (fun h109 m110 => ?_)
  refine m2_fR 6 rfl (by decide) ?_
  refine m2_fR 4 rfl (by decide) ?_
  refine m2_lI 4 (by decide) rfl (by decide) (fun x111 => ?_)
  refine m2_if (P := x111 ≤ 0) ?_ ?_
  · exact n_M_point_b119 x1 x1 _ _
  · refine m2_fR 6 rfl (by decide) ?_
    refine m2_lI 6 (by decide) rfl (by decide) (fun x112 => ?_)
    refine m2_if (P := x112 = 0) ?_ ?_
    · exact n_M_point_b110 x2 x1 _ _
    · refine m2_fR 4 rfl (by decide) ?_
      refine m2_lI 4 (by decide) rfl (by decide) (fun x113 => ?_)
      refine m2_fR 6 rfl (by decide) ?_
      refine m2_lI 6 (by decide) rfl (by decide) (fun x114 => ?_)
      refine m2_if (P := x114 ≤ x113) ?_ ?_
      · exact n_M_point_b119 x1 x1 _ _
      · exact n_M_point_b110 x2 x1 _ _
set_option maxHeartbeats 1000000 in
theorem n_M_write_b91 {M : Nat} (K25 : Nat → Int32 → Int32 → Int32 → AH → Option (Int32 × AH)) (G25 : Int32 → Int32 → Int32 → MS → Option (Int32 × MS)) (hK25 : ∀ (x2 : Int32) (x3 : Int32) (x4 : Int32) (h : AH) (m : MS), M2 M h m (K25 M x2 x3 x4 h) (G25 x2 x3 x4 m)) (x2 : Int32) (x3 : Int32) (x4 : Int32) (xs1 : Int32) (h : AH) (m : MS) : M2 M h m (f_M_write_b91 K25 M x2 x3 x4 (some (M + 5)) xs1 h) (g_M_write_b91 G25 x2 x3 x4 xs1 m) := by
  unfold f_M_write_b91 g_M_write_b91
  refine m2_qE 5 (by decide) rfl (by decide) (fun h1001 m1002 => ?_)
  exact hK25 x2 x3 (x4 + 1) _ _
set_option maxHeartbeats 1000000 in
theorem n_M_write_b25 {M : Nat} : ∀ (n : Nat) (x2 : Int32) (x3 : Int32) (x4 : Int32) (h : AH) (m : MS), M2 M h m (f_M_write_b25 n M x2 x3 x4 h) (g_M_write_b25 n x2 x3 x4 m) := by
  intro n
  induction n with
  | zero => intro x2 x3 x4 h m; exact m2_none
  | succ n ih =>
    intro x2 x3 x4 h m
    rw [f_M_write_b25, g_M_write_b25]
    refine m2_fI 2 (by decide) ?_
    refine m2_if (P := (m.1 2) ≤ x4) ?_ ?_
    · refine m2_fR 5 rfl (by decide) ?_
      refine m2_lI 5 (by decide) rfl (by decide) (fun x1001 => ?_)
      exact m2_rZ
    · refine m2_if (P := x4 = x3) ?_ ?_
      · exact ih x2 x3 (x4 + 1) _ _
      · refine m2_rcv ?_
        refine m2_bnd (n_M_concurrent x4 x3 _ _) (fun x1004 h1002 m1003 => ?_)
        refine m2_if (P := x1004 = 0) ?_ ?_
        · exact ih x2 x3 (x4 + 1) _ _
        · refine m2_rcv ?_
          refine m2_bnd (n_M_hasRead x4 x2 _ _) (fun x1007 h1005 m1006 => ?_)
          refine m2_if (P := x1007 = 0) ?_ ?_
          · exact ih x2 x3 (x4 + 1) _ _
          · refine m2_rcv ?_
            refine m2_bndU (n_M_point x4 x3 _ _) (fun h1008 m1009 => ?_)
            refine m2_fR 5 rfl (by decide) ?_
            refine m2_fR 5 rfl (by decide) ?_
            refine m2_lI 5 (by decide) rfl (by decide) (fun x1011 => ?_)
            refine m2_if (P := x1011 = 0) ?_ ?_
            · refine m2_rcv ?_
              refine m2_bnd (n_M_isDanger x4 x3 _ _) (fun x1014 h1012 m1013 => ?_)
              refine m2_if (P := x1014 = 0) ?_ ?_
              · refine m2_qE 5 (by decide) rfl (by decide) (fun h1015 m1016 => ?_)
                exact ih x2 x3 (x4 + 1) _ _
              · exact n_M_write_b91 _ _ ih x2 x3 x4 x3 _ _
            · exact n_M_write_b91 _ _ ih x2 x3 x4 x3 _ _
set_option maxHeartbeats 1000000 in
theorem n_M_write {M : Nat} (x1 : Int32) (x2 : Int32) (h : AH) (m : MS) : M2 M h m (f_M_write M x1 x2 h) (g_M_write x1 x2 m) := by
  unfold f_M_write g_M_write
  refine m2_rcv ?_
  refine m2_bnd (n_M_running x1 _ _) (fun x103 h101 m102 => ?_)
  refine m2_if (P := x103 < 0) ?_ ?_
  · exact m2_rZ
  · refine m2_if (P := x2 < 0) ?_ ?_
    · exact m2_rZ
    · refine m2_if (P := x2 ≤ (7 : Int32)) ?_ ?_
      · exact n_M_write_b25 2000 x2 x103 (0 : Int32) _ _
      · exact m2_rZ
set_option maxHeartbeats 1000000 in
theorem n_M_miss_b155 {M : Nat} (K80 : Nat → Int32 → Int32 → Int32 → AH → Option (Int32 × AH)) (G80 : Int32 → Int32 → Int32 → MS → Option (Int32 × MS)) (hK80 : ∀ (x3 : Int32) (x4 : Int32) (x5 : Int32) (h : AH) (m : MS), M2 M h m (K80 M x3 x4 x5 h) (G80 x3 x4 x5 m)) (x3 : Int32) (x4 : Int32) (x5 : Int32) (xs1 : Int32) (h : AH) (m : MS) : M2 M h m (f_M_miss_b155 K80 M x3 x4 x5 (some (M + 5)) xs1 h) (g_M_miss_b155 G80 x3 x4 x5 xs1 m) := by
  unfold f_M_miss_b155 g_M_miss_b155
  refine m2_qE 5 (by decide) rfl (by decide) (fun h1001 m1002 => ?_)
  exact hK80 x3 x4 (x5 + 1) _ _
set_option maxHeartbeats 1000000 in
theorem n_M_miss_b159 {M : Nat} (K80 : Nat → Int32 → Int32 → Int32 → AH → Option (Int32 × AH)) (G80 : Int32 → Int32 → Int32 → MS → Option (Int32 × MS)) (hK80 : ∀ (x3 : Int32) (x4 : Int32) (x5 : Int32) (h : AH) (m : MS), M2 M h m (K80 M x3 x4 x5 h) (G80 x3 x4 x5 m)) (x3 : Int32) (x4 : Int32) (x5 : Int32) (xs1 : Int32) (h : AH) (m : MS) : M2 M h m (f_M_miss_b159 K80 M x3 x4 x5 (some (M + 5)) xs1 h) (g_M_miss_b159 G80 x3 x4 x5 xs1 m) := by
  unfold f_M_miss_b159 g_M_miss_b159
  refine m2_qE 5 (by decide) rfl (by decide) (fun h1001 m1002 => ?_)
  exact hK80 x3 x4 (x5 + 1) _ _
set_option maxHeartbeats 1000000 in
theorem n_M_miss_b167 {M : Nat} (x3 : Int32) (h : AH) (m : MS) : M2 M h m (f_M_miss_b167 M x3 h) (g_M_miss_b167 x3 m) := by
  unfold f_M_miss_b167 g_M_miss_b167
  refine m2_fR 5 rfl (by decide) ?_
  refine m2_lI 5 (by decide) rfl (by decide) (fun x1001 => ?_)
  exact m2_rZ
set_option maxHeartbeats 1000000 in
theorem n_M_miss_b80 {M : Nat} : ∀ (n : Nat) (x3 : Int32) (x4 : Int32) (x5 : Int32) (h : AH) (m : MS), M2 M h m (f_M_miss_b80 n M x3 x4 x5 h) (g_M_miss_b80 n x3 x4 x5 m) := by
  intro n
  induction n with
  | zero => intro x3 x4 x5 h m; exact m2_none
  | succ n ih =>
    intro x3 x4 x5 h m
    rw [f_M_miss_b80, g_M_miss_b80]
    refine m2_fI 2 (by decide) ?_
    refine m2_if (P := (m.1 2) ≤ x5) ?_ ?_
    · exact n_M_miss_b167 x3 _ _
    · refine m2_fR 4 rfl (by decide) ?_
      refine m2_lI 4 (by decide) rfl (by decide) (fun x1001 => ?_)
      refine m2_if (P := x1001 ≤ 0) ?_ ?_
      · exact n_M_miss_b167 x3 _ _
      · refine m2_fR 5 rfl (by decide) ?_
        refine m2_fR 5 rfl (by decide) ?_
        refine m2_lI 5 (by decide) rfl (by decide) (fun x1002 => ?_)
        refine m2_if (P := x1002 = 0) ?_ ?_
        · refine m2_fR 7 rfl (by decide) ?_
          refine m2_lI 7 (by decide) rfl (by decide) (fun x1003 => ?_)
          refine m2_if (P := x1003 = 0) ?_ ?_
          · exact n_M_miss_b159 _ _ ih x3 x4 x5 x3 _ _
          · refine m2_fR 4 rfl (by decide) ?_
            refine m2_lI 4 (by decide) rfl (by decide) (fun x1004 => ?_)
            refine m2_if (P := x1004 = 0) ?_ ?_
            · exact n_M_miss_b155 _ _ ih x3 x4 x5 x3 _ _
            · refine m2_fR 4 rfl (by decide) ?_
              refine m2_lI 4 (by decide) rfl (by decide) (fun x1005 => ?_)
              refine m2_fR 4 rfl (by decide) ?_
              refine m2_lI 4 (by decide) rfl (by decide) (fun x1006 => ?_)
              refine m2_if (P := x1005 < x1006) ?_ ?_
              · exact n_M_miss_b159 _ _ ih x3 x4 x5 x3 _ _
              · exact n_M_miss_b155 _ _ ih x3 x4 x5 x3 _ _
        · exact n_M_miss_b155 _ _ ih x3 x4 x5 x3 _ _
set_option maxHeartbeats 1000000 in
theorem n_M_miss_b71 {M : Nat} (x3 : Int32) (x4 : Int32) (xs1 : Int32) (h : AH) (m : MS) : M2 M h m (f_M_miss_b71 M x3 x4 (some (M + 5)) xs1 h) (g_M_miss_b71 x3 x4 xs1 m) := by
  unfold f_M_miss_b71 g_M_miss_b71
  refine m2_qE 5 (by decide) rfl (by decide) (fun h1001 m1002 => ?_)
  exact n_M_miss_b80 2000 x3 x4 (0 : Int32) _ _
set_option maxHeartbeats 1000000 in
theorem n_M_miss {M : Nat} (x1 : Int32) (x2 : Int32) (h : AH) (m : MS) : M2 M h m (f_M_miss M x1 x2 h) (g_M_miss x1 x2 m) := by
  unfold f_M_miss g_M_miss
  refine m2_rcv ?_
  refine m2_bnd (n_M_running x1 _ _) (fun x103 h101 m102 => ?_)
  refine m2_if (P := 0 ≤ x103) ?_ ?_
  · refine m2_rcv ?_
    refine m2_bnd (n_M_find x2 _ _) (fun x106 h104 m105 => ?_)
    refine m2_if (P := x106 < 0) ?_ ?_
    · exact n_M_miss_b167 x103 _ _
    · refine m2_if (P := x106 = x103) ?_ ?_
      · exact n_M_miss_b167 x103 _ _
      · refine m2_rcv ?_
        refine m2_bnd (n_M_concurrent x103 x106 _ _) (fun x109 h107 m108 => ?_)
        refine m2_if (P := x109 = 0) ?_ ?_
        · exact n_M_miss_b167 x103 _ _
        · refine m2_rcv ?_
          refine m2_bndU (n_M_point x103 x106 _ _) (fun h110 m111 => ?_)
          refine m2_fR 5 rfl (by decide) ?_
          refine m2_fR 5 rfl (by decide) ?_
          refine m2_lI 5 (by decide) rfl (by decide) (fun x113 => ?_)
          refine m2_if (P := x113 = 0) ?_ ?_
          · refine m2_rcv ?_
            refine m2_bnd (n_M_isDanger x103 x106 _ _) (fun x116 h114 m115 => ?_)
            refine m2_if (P := x116 = 0) ?_ ?_
            · refine m2_qE 5 (by decide) rfl (by decide) (fun h117 m118 => ?_)
              exact n_M_miss_b80 2000 x103 x106 (0 : Int32) _ _
            · exact n_M_miss_b71 x103 x106 x103 _ _
          · exact n_M_miss_b71 x103 x106 x103 _ _
  · exact m2_rZ
set_option maxHeartbeats 1000000 in
theorem n_M_move_b110 {M : Nat} : ∀ (n : Nat) (x1 : Int32) (x2 : Int32) (x3 : Int32) (h : AH) (m : MS), M2 M h m (f_M_move_b110 n M x1 x2 x3 h) (g_M_move_b110 n x1 x2 x3 m) := by
  intro n
  induction n with
  | zero => intro x1 x2 x3 h m; exact m2_none
  | succ n ih =>
    intro x1 x2 x3 h m
    rw [f_M_move_b110, g_M_move_b110]
    refine m2_if (P := (64 : Int32) ≤ x3) ?_ ?_
    · exact m2_ret
    · refine m2_fR 9 rfl (by decide) ?_
      refine m2_lI 9 (by decide) rfl (by decide) (fun x1001 => ?_)
      refine m2_fR 11 rfl (by decide) ?_
      refine m2_lL 11 (by decide) rfl (fun x1002 => ?_)
      refine m2_fR 12 rfl (by decide) ?_
      refine m2_lL 12 (by decide) rfl (fun x1003 => ?_)
      refine m2_fR 10 rfl (by decide) ?_
      refine m2_lI 10 (by decide) rfl (by decide) (fun x1004 => ?_)
      refine m2_rcv ?_
      refine m2_bndU (n_M_setRange (((64 : Int32) * x2) + x3) x1001 x1002 x1003 x1004 _ _) (fun h1005 m1006 => ?_)
      exact ih x1 x2 (x3 + 1) _ _
set_option maxHeartbeats 1000000 in
theorem n_M_move_b74 {M : Nat} : ∀ (n : Nat) (x1 : Int32) (x2 : Int32) (x3 : Int32) (h : AH) (m : MS), M2 M h m (f_M_move_b74 n M x1 x2 x3 h) (g_M_move_b74 n x1 x2 x3 m) := by
  intro n
  induction n with
  | zero => intro x1 x2 x3 h m; exact m2_none
  | succ n ih =>
    intro x1 x2 x3 h m
    rw [f_M_move_b74, g_M_move_b74]
    refine m2_if (P := (8 : Int32) ≤ x3) ?_ ?_
    · exact n_M_move_b110 2000 x1 x2 (0 : Int32) _ _
    · refine m2_fR 8 rfl (by decide) ?_
      refine m2_fR 8 rfl (by decide) ?_
      refine m2_lI 8 (by decide) rfl (by decide) (fun x1001 => ?_)
      refine m2_pE 8 (by decide) rfl (by decide) (fun h1002 m1003 => ?_)
      exact ih x1 x2 (x3 + 1) _ _
set_option maxHeartbeats 1000000 in
theorem n_M_move {M : Nat} (x1 : Int32) (x2 : Int32) (h : AH) (m : MS) : M2 M h m (f_M_move M x1 x2 h) (g_M_move x1 x2 m) := by
  unfold f_M_move g_M_move
  refine m2_fR 1 rfl (by decide) ?_
  refine m2_fR 1 rfl (by decide) ?_
  refine m2_lI 1 (by decide) rfl (by decide) (fun x101 => ?_)
  refine m2_pE 1 (by decide) rfl (by decide) (fun h102 m103 => ?_)
  refine m2_fR 2 rfl (by decide) ?_
  refine m2_fR 2 rfl (by decide) ?_
  refine m2_lI 2 (by decide) rfl (by decide) (fun x104 => ?_)
  refine m2_pE 2 (by decide) rfl (by decide) (fun h105 m106 => ?_)
  refine m2_fR 3 rfl (by decide) ?_
  refine m2_fR 3 rfl (by decide) ?_
  refine m2_lI 3 (by decide) rfl (by decide) (fun x107 => ?_)
  refine m2_pE 3 (by decide) rfl (by decide) (fun h108 m109 => ?_)
  refine m2_fR 4 rfl (by decide) ?_
  refine m2_fR 4 rfl (by decide) ?_
  refine m2_lI 4 (by decide) rfl (by decide) (fun x110 => ?_)
  refine m2_pE 4 (by decide) rfl (by decide) (fun h111 m112 => ?_)
  refine m2_fR 5 rfl (by decide) ?_
  refine m2_fR 5 rfl (by decide) ?_
  refine m2_lI 5 (by decide) rfl (by decide) (fun x113 => ?_)
  refine m2_qE 5 (by decide) rfl (by decide) (fun h114 m115 => ?_)
  refine m2_fR 6 rfl (by decide) ?_
  refine m2_fR 6 rfl (by decide) ?_
  refine m2_lI 6 (by decide) rfl (by decide) (fun x116 => ?_)
  refine m2_pE 6 (by decide) rfl (by decide) (fun h117 m118 => ?_)
  exact n_M_move_b74 2000 x1 x2 (0 : Int32) _ _
set_option maxHeartbeats 1000000 in
theorem n_M_drop_b12 {M : Nat} (K2 : Nat → Int32 → Int32 → AH → Option (Unit × AH)) (G2 : Int32 → Int32 → MS → Option (Unit × MS)) (hK2 : ∀ (x1 : Int32) (x2 : Int32) (h : AH) (m : MS), M2 M h m (K2 M x1 x2 h) (G2 x1 x2 m)) : ∀ (n : Nat) (x1 : Int32) (x2 : Int32) (x3 : Int32) (h : AH) (m : MS), M2 M h m (f_M_drop_b12 K2 n M x1 x2 x3 h) (g_M_drop_b12 G2 n x1 x2 x3 m) := by
  intro n
  induction n with
  | zero => intro x1 x2 x3 h m; exact m2_none
  | succ n ih =>
    intro x1 x2 x3 h m
    rw [f_M_drop_b12, g_M_drop_b12]
    refine m2_fI 2 (by decide) ?_
    refine m2_if (P := (m.1 2) ≤ (x3 + (1 : Int32))) ?_ ?_
    · exact hK2 x1 (x2 + 1) _ _
    · refine m2_fR 7 rfl (by decide) ?_
      refine m2_fR 7 rfl (by decide) ?_
      refine m2_lI 7 (by decide) rfl (by decide) (fun x1001 => ?_)
      refine m2_qE 7 (by decide) rfl (by decide) (fun h1002 m1003 => ?_)
      exact ih x1 x2 (x3 + 1) _ _
set_option maxHeartbeats 1000000 in
theorem n_M_drop_b80 {M : Nat} (K60 : Nat → Int32 → AH → Option (Unit × AH)) (G60 : Int32 → MS → Option (Unit × MS)) (hK60 : ∀ (x2 : Int32) (h : AH) (m : MS), M2 M h m (K60 M x2 h) (G60 x2 m)) : ∀ (n : Nat) (x2 : Int32) (x3 : Int32) (h : AH) (m : MS), M2 M h m (f_M_drop_b80 K60 n M x2 x3 h) (g_M_drop_b80 G60 n x2 x3 m) := by
  intro n
  induction n with
  | zero => intro x2 x3 h m; exact m2_none
  | succ n ih =>
    intro x2 x3 h m
    rw [f_M_drop_b80, g_M_drop_b80]
    refine m2_fI 2 (by decide) ?_
    refine m2_if (P := (m.1 2) ≤ x3) ?_ ?_
    · exact hK60 (x2 + 1) _ _
    · refine m2_fR 7 rfl (by decide) ?_
      refine m2_fR 7 rfl (by decide) ?_
      refine m2_lI 7 (by decide) rfl (by decide) (fun x1001 => ?_)
      refine m2_qE 7 (by decide) rfl (by decide) (fun h1002 m1003 => ?_)
      exact ih x2 (x3 + 1) _ _
set_option maxHeartbeats 1000000 in
theorem n_M_drop_b136 {M : Nat} : ∀ (n : Nat) (x2 : Int32) (h : AH) (m : MS), M2 M h m (f_M_drop_b136 n M x2 h) (g_M_drop_b136 n x2 m) := by
  intro n
  induction n with
  | zero => intro x2 h m; exact m2_none
  | succ n ih =>
    intro x2 h m
    rw [f_M_drop_b136, g_M_drop_b136]
    refine m2_fI 2 (by decide) ?_
    refine m2_if (P := (m.1 2) < x2) ?_ ?_
    · exact m2_ret
    · refine m2_fR 7 rfl (by decide) ?_
      refine m2_fI 2 (by decide) ?_
      refine m2_qE 7 (by decide) rfl (by decide) (fun h1001 m1002 => ?_)
      refine m2_fR 7 rfl (by decide) ?_
      refine m2_fI 2 (by decide) ?_
      refine m2_qE 7 (by decide) rfl (by decide) (fun h1003 m1004 => ?_)
      exact ih (x2 + 1) _ _
set_option maxHeartbeats 1000000 in
theorem n_M_drop_b60 {M : Nat} : ∀ (n : Nat) (x2 : Int32) (h : AH) (m : MS), M2 M h m (f_M_drop_b60 n M x2 h) (g_M_drop_b60 n x2 m) := by
  intro n
  induction n with
  | zero => intro x2 h m; exact m2_none
  | succ n ih =>
    intro x2 h m
    rw [f_M_drop_b60, g_M_drop_b60]
    refine m2_fI 2 (by decide) ?_
    refine m2_if (P := (m.1 2) ≤ (x2 + (1 : Int32))) ?_ ?_
    · refine m2_fI 2 (by decide) ?_
      refine m2_pF 2 (by decide) (fun h1001 => ?_)
      exact n_M_drop_b136 2000 (0 : Int32) _ _
    · refine m2_rcv ?_
      refine m2_bndU (n_M_move (x2 + (1 : Int32)) x2 _ _) (fun h1002 m1003 => ?_)
      exact n_M_drop_b80 _ _ ih 2000 x2 (0 : Int32) _ _
set_option maxHeartbeats 1000000 in
theorem n_M_drop_b2 {M : Nat} : ∀ (n : Nat) (x1 : Int32) (x2 : Int32) (h : AH) (m : MS), M2 M h m (f_M_drop_b2 n M x1 x2 h) (g_M_drop_b2 n x1 x2 m) := by
  intro n
  induction n with
  | zero => intro x1 x2 h m; exact m2_none
  | succ n ih =>
    intro x1 x2 h m
    rw [f_M_drop_b2, g_M_drop_b2]
    refine m2_fI 2 (by decide) ?_
    refine m2_if (P := (m.1 2) ≤ x2) ?_ ?_
    · exact n_M_drop_b60 2000 x1 _ _
    · exact n_M_drop_b12 _ _ ih 2000 x1 x2 x1 _ _
set_option maxHeartbeats 1000000 in
theorem n_M_drop {M : Nat} (x1 : Int32) (h : AH) (m : MS) : M2 M h m (f_M_drop M x1 h) (g_M_drop x1 m) := by
  unfold f_M_drop g_M_drop
  exact n_M_drop_b2 2000 x1 (0 : Int32) _ _
set_option maxHeartbeats 1000000 in
theorem n_M_forget_b64 {M : Nat} (K28 : Nat → Int32 → Int32 → Int32 → AH → Option (Unit × AH)) (G28 : Int32 → Int32 → Int32 → MS → Option (Unit × MS)) (hK28 : ∀ (x1 : Int32) (x2 : Int32) (x3 : Int32) (h : AH) (m : MS), M2 M h m (K28 M x1 x2 x3 h) (G28 x1 x2 x3 m)) (x1 : Int32) (x3 : Int32) (h : AH) (m : MS) : M2 M h m (f_M_forget_b64 K28 M x1 x3 h) (g_M_forget_b64 G28 x1 x3 m) := by
  unfold f_M_forget_b64 g_M_forget_b64
  exact hK28 x1 (1 : Int32) (x3 + 1) _ _
set_option maxHeartbeats 1000000 in
theorem n_M_forget_b68 {M : Nat} (K28 : Nat → Int32 → Int32 → Int32 → AH → Option (Unit × AH)) (G28 : Int32 → Int32 → Int32 → MS → Option (Unit × MS)) (hK28 : ∀ (x1 : Int32) (x2 : Int32) (x3 : Int32) (h : AH) (m : MS), M2 M h m (K28 M x1 x2 x3 h) (G28 x1 x2 x3 m)) (x1 : Int32) (x3 : Int32) (h : AH) (m : MS) : M2 M h m (f_M_forget_b68 K28 M x1 x3 h) (g_M_forget_b68 G28 x1 x3 m) := by
  unfold f_M_forget_b68 g_M_forget_b68
  exact hK28 x1 (0 : Int32) (x3 + 1) _ _
set_option maxHeartbeats 1000000 in
theorem n_M_forget_b28 {M : Nat} (K7 : Nat → Int32 → AH → Option (Unit × AH)) (G7 : Int32 → MS → Option (Unit × MS)) (hK7 : ∀ (x1 : Int32) (h : AH) (m : MS), M2 M h m (K7 M x1 h) (G7 x1 m)) : ∀ (n : Nat) (x1 : Int32) (x2 : Int32) (x3 : Int32) (h : AH) (m : MS), M2 M h m (f_M_forget_b28 K7 n M x1 x2 x3 h) (g_M_forget_b28 G7 n x1 x2 x3 m) := by
  intro n
  induction n with
  | zero => intro x1 x2 x3 h m; exact m2_none
  | succ n ih =>
    intro x1 x2 x3 h m
    rw [f_M_forget_b28, g_M_forget_b28]
    refine m2_fI 2 (by decide) ?_
    refine m2_if (P := (m.1 2) ≤ x3) ?_ ?_
    · refine m2_if (P := x2 = 0) ?_ ?_
      · refine m2_rcv ?_
        refine m2_bndU (n_M_drop x1 _ _) (fun h1001 m1002 => ?_)
        exact hK7 (x1 + (-1)) _ _
      · exact hK7 (x1 + (-1)) _ _
    · refine m2_if (P := x2 = 0) ?_ ?_
      · refine m2_fR 4 rfl (by decide) ?_
        refine m2_lI 4 (by decide) rfl (by decide) (fun x1004 => ?_)
        refine m2_if (P := x1004 = 0) ?_ ?_
        · refine m2_fR 3 rfl (by decide) ?_
          refine m2_lI 3 (by decide) rfl (by decide) (fun x1005 => ?_)
          refine m2_fR 4 rfl (by decide) ?_
          refine m2_lI 4 (by decide) rfl (by decide) (fun x1006 => ?_)
          refine m2_if (P := x1006 ≤ x1005) ?_ ?_
          · exact n_M_forget_b68 _ _ ih x1 x3 _ _
          · exact n_M_forget_b64 _ _ ih x1 x3 _ _
        · exact n_M_forget_b68 _ _ ih x1 x3 _ _
      · exact n_M_forget_b64 _ _ ih x1 x3 _ _
set_option maxHeartbeats 1000000 in
theorem n_M_forget_b7 {M : Nat} : ∀ (n : Nat) (x1 : Int32) (h : AH) (m : MS), M2 M h m (f_M_forget_b7 n M x1 h) (g_M_forget_b7 n x1 m) := by
  intro n
  induction n with
  | zero => intro x1 h m; exact m2_none
  | succ n ih =>
    intro x1 h m
    rw [f_M_forget_b7, g_M_forget_b7]
    refine m2_if (P := x1 < 0) ?_ ?_
    · exact m2_ret
    · refine m2_fR 4 rfl (by decide) ?_
      refine m2_lI 4 (by decide) rfl (by decide) (fun x1001 => ?_)
      refine m2_if (P := x1001 = 0) ?_ ?_
      · exact n_M_forget_b28 _ _ ih 2000 x1 (1 : Int32) (0 : Int32) _ _
      · exact n_M_forget_b28 _ _ ih 2000 x1 (0 : Int32) (0 : Int32) _ _
set_option maxHeartbeats 1000000 in
theorem n_M_forget {M : Nat} (h : AH) (m : MS) : M2 M h m (f_M_forget M  h) (g_M_forget  m) := by
  unfold f_M_forget g_M_forget
  refine m2_fI 2 (by decide) ?_
  exact n_M_forget_b7 2000 ((m.1 2) - (1 : Int32)) _ _
set_option maxHeartbeats 1000000 in
theorem n_M_commit_b19 {M : Nat} (x2 : Int32) (h : AH) (m : MS) : M2 M h m (f_M_commit_b19 x2 h) (g_M_commit_b19 x2 m) := by
  unfold f_M_commit_b19 g_M_commit_b19
  refine m2_if (P := 0 ≤ x2) ?_ ?_
  · exact m2_ret
  · exact m2_ret
set_option maxHeartbeats 1000000 in
theorem n_M_commit_b167 {M : Nat} (K104 : Nat → Int32 → Int32 → Int32 → AH → Option (Int32 × AH)) (G104 : Int32 → Int32 → Int32 → MS → Option (Int32 × MS)) (hK104 : ∀ (x2 : Int32) (x3 : Int32) (x4 : Int32) (h : AH) (m : MS), M2 M h m (K104 M x2 x3 x4 h) (G104 x2 x3 x4 m)) (x2 : Int32) (x3 : Int32) (x4 : Int32) (xs1 : Int32) (h : AH) (m : MS) : M2 M h m (f_M_commit_b167 K104 M x2 x3 x4 (some (M + 5)) xs1 h) (g_M_commit_b167 G104 x2 x3 x4 xs1 m) := by
  unfold f_M_commit_b167 g_M_commit_b167
  refine m2_qE 5 (by decide) rfl (by decide) (fun h1001 m1002 => ?_)
  exact hK104 x2 x3 (x4 + 1) _ _
set_option maxHeartbeats 1000000 in
theorem n_M_commit_b171 {M : Nat} (K104 : Nat → Int32 → Int32 → Int32 → AH → Option (Int32 × AH)) (G104 : Int32 → Int32 → Int32 → MS → Option (Int32 × MS)) (hK104 : ∀ (x2 : Int32) (x3 : Int32) (x4 : Int32) (h : AH) (m : MS), M2 M h m (K104 M x2 x3 x4 h) (G104 x2 x3 x4 m)) (x2 : Int32) (x3 : Int32) (x4 : Int32) (xs1 : Int32) (h : AH) (m : MS) : M2 M h m (f_M_commit_b171 K104 M x2 x3 x4 (some (M + 5)) xs1 h) (g_M_commit_b171 G104 x2 x3 x4 xs1 m) := by
  unfold f_M_commit_b171 g_M_commit_b171
  refine m2_qE 5 (by decide) rfl (by decide) (fun h1001 m1002 => ?_)
  exact hK104 x2 x3 (x4 + 1) _ _
set_option maxHeartbeats 1000000 in
theorem n_M_commit_b104 {M : Nat} (K73 : Nat → Int32 → Int32 → AH → Option (Int32 × AH)) (G73 : Int32 → Int32 → MS → Option (Int32 × MS)) (hK73 : ∀ (x2 : Int32) (x3 : Int32) (h : AH) (m : MS), M2 M h m (K73 M x2 x3 h) (G73 x2 x3 m)) : ∀ (n : Nat) (x2 : Int32) (x3 : Int32) (x4 : Int32) (h : AH) (m : MS), M2 M h m (f_M_commit_b104 K73 n M x2 x3 x4 h) (g_M_commit_b104 G73 n x2 x3 x4 m) := by
  intro n
  induction n with
  | zero => intro x2 x3 x4 h m; exact m2_none
  | succ n ih =>
    intro x2 x3 x4 h m
    rw [f_M_commit_b104, g_M_commit_b104]
    refine m2_fI 2 (by decide) ?_
    refine m2_if (P := (m.1 2) ≤ x4) ?_ ?_
    · exact hK73 x2 (x3 + 1) _ _
    · refine m2_fR 4 rfl (by decide) ?_
      refine m2_lI 4 (by decide) rfl (by decide) (fun x1001 => ?_)
      refine m2_if (P := x1001 = 0) ?_ ?_
      · refine m2_fR 5 rfl (by decide) ?_
        refine m2_fR 5 rfl (by decide) ?_
        refine m2_lI 5 (by decide) rfl (by decide) (fun x1002 => ?_)
        refine m2_if (P := x1002 = 0) ?_ ?_
        · refine m2_fR 7 rfl (by decide) ?_
          refine m2_lI 7 (by decide) rfl (by decide) (fun x1003 => ?_)
          refine m2_if (P := x1003 = 0) ?_ ?_
          · exact n_M_commit_b171 _ _ ih x2 x3 x4 x3 _ _
          · refine m2_fR 4 rfl (by decide) ?_
            refine m2_lI 4 (by decide) rfl (by decide) (fun x1004 => ?_)
            refine m2_if (P := x1004 = 0) ?_ ?_
            · exact n_M_commit_b167 _ _ ih x2 x3 x4 x3 _ _
            · refine m2_if (P := x4 = x2) ?_ ?_
              · exact n_M_commit_b167 _ _ ih x2 x3 x4 x3 _ _
              · exact n_M_commit_b171 _ _ ih x2 x3 x4 x3 _ _
        · exact n_M_commit_b167 _ _ ih x2 x3 x4 x3 _ _
      · exact hK73 x2 (x3 + 1) _ _
set_option maxHeartbeats 1000000 in
theorem n_M_commit_b73 {M : Nat} : ∀ (n : Nat) (x2 : Int32) (x3 : Int32) (h : AH) (m : MS), M2 M h m (f_M_commit_b73 n M x2 x3 h) (g_M_commit_b73 n x2 x3 m) := by
  intro n
  induction n with
  | zero => intro x2 x3 h m; exact m2_none
  | succ n ih =>
    intro x2 x3 h m
    rw [f_M_commit_b73, g_M_commit_b73]
    refine m2_fI 2 (by decide) ?_
    refine m2_if (P := (m.1 2) ≤ x3) ?_ ?_
    · refine m2_rcv ?_
      refine m2_bndU (n_M_forget  _ _) (fun h1001 m1002 => ?_)
      refine m2_fI 1 (by decide) ?_
      exact m2_ret
    · refine m2_fR 7 rfl (by decide) ?_
      refine m2_lI 7 (by decide) rfl (by decide) (fun x1004 => ?_)
      refine m2_if (P := x1004 = 0) ?_ ?_
      · exact ih x2 (x3 + 1) _ _
      · refine m2_rcv ?_
        refine m2_bndU (n_M_point x3 x2 _ _) (fun h1005 m1006 => ?_)
        exact n_M_commit_b104 _ _ ih 2000 x2 x3 (0 : Int32) _ _
set_option maxHeartbeats 1000000 in
theorem n_M_commit {M : Nat} (x1 : Int32) (h : AH) (m : MS) : M2 M h m (f_M_commit M x1 h) (g_M_commit x1 m) := by
  unfold f_M_commit g_M_commit
  refine m2_rcv ?_
  refine m2_bnd (n_M_running x1 _ _) (fun x103 h101 m102 => ?_)
  refine m2_if (P := x103 < 0) ?_ ?_
  · exact n_M_commit_b19 x103 _ _
  · refine m2_fR 5 rfl (by decide) ?_
    refine m2_lI 5 (by decide) rfl (by decide) (fun x104 => ?_)
    refine m2_if (P := x104 = 0) ?_ ?_
    · refine m2_fI 1 (by decide) ?_
      refine m2_pF 1 (by decide) (fun h105 => ?_)
      refine m2_fR 4 rfl (by decide) ?_
      refine m2_fI 1 (by decide) ?_
      refine m2_pE 4 (by decide) rfl (by decide) (fun h106 m107 => ?_)
      refine m2_fR 14 rfl (by decide) ?_
      refine m2_fR 1 rfl (by decide) ?_
      refine m2_lI 1 (by decide) rfl (by decide) (fun x108 => ?_)
      refine m2_fI 1 (by decide) ?_
      refine m2_pE 14 (by decide) rfl (by decide) (fun h109 m110 => ?_)
      refine m2_fR 2 rfl (by decide) ?_
      refine m2_pE 2 (by decide) rfl (by decide) (fun h111 m112 => ?_)
      exact n_M_commit_b73 2000 x103 (0 : Int32) _ _
    · exact n_M_commit_b19 x103 _ _
set_option maxHeartbeats 1000000 in
theorem n_M_abort {M : Nat} (x1 : Int32) (h : AH) (m : MS) : M2 M h m (f_M_abort M x1 h) (g_M_abort x1 m) := by
  unfold f_M_abort g_M_abort
  refine m2_rcv ?_
  refine m2_bnd (n_M_running x1 _ _) (fun x103 h101 m102 => ?_)
  refine m2_if (P := 0 ≤ x103) ?_ ?_
  · refine m2_rcv ?_
    refine m2_bndU (n_M_drop x103 _ _) (fun h104 m105 => ?_)
    refine m2_rcv ?_
    refine m2_bndU (n_M_forget  _ _) (fun h107 m108 => ?_)
    exact m2_rZ
  · exact m2_rZ
set_option maxHeartbeats 1000000 in
theorem n_M_doom {M : Nat} (x1 : Int32) (h : AH) (m : MS) : M2 M h m (f_M_doom M x1 h) (g_M_doom x1 m) := by
  unfold f_M_doom g_M_doom
  refine m2_rcv ?_
  refine m2_bnd (n_M_running x1 _ _) (fun x103 h101 m102 => ?_)
  refine m2_if (P := 0 ≤ x103) ?_ ?_
  · refine m2_fR 5 rfl (by decide) ?_
    refine m2_qE 5 (by decide) rfl (by decide) (fun h104 m105 => ?_)
    exact m2_rZ
  · exact m2_rZ
set_option maxHeartbeats 1000000 in
theorem n_M_look_b19 {M : Nat} (x2 : Int32) (h : AH) (m : MS) : M2 M h m (f_M_look_b19 x2 h) (g_M_look_b19 x2 m) := by
  unfold f_M_look_b19 g_M_look_b19
  refine m2_if (P := x2 < 0) ?_ ?_
  · exact m2_ret
  · refine m2_if (P := x2 ≤ (5 : Int32)) ?_ ?_
    · exact m2_ret
    · exact m2_ret
set_option maxHeartbeats 1000000 in
theorem n_M_look_b40 {M : Nat} : ∀ (n : Nat) (x2 : Int32) (x3 : Int32) (x4 : Int32) (x5 : Int32) (h : AH) (m : MS), M2 M h m (f_M_look_b40 n M x2 x3 x4 x5 h) (g_M_look_b40 n x2 x3 x4 x5 m) := by
  intro n
  induction n with
  | zero => intro x2 x3 x4 x5 h m; exact m2_none
  | succ n ih =>
    intro x2 x3 x4 x5 h m
    rw [f_M_look_b40, g_M_look_b40]
    refine m2_fI 2 (by decide) ?_
    refine m2_if (P := (m.1 2) ≤ x5) ?_ ?_
    · refine m2_if (P := x2 = 0) ?_ ?_
      · refine m2_fR 4 rfl (by decide) ?_
        refine m2_lI 4 (by decide) rfl (by decide) (fun x1001 => ?_)
        refine m2_if (P := x1001 = 0) ?_ ?_
        · exact m2_ret
        · exact m2_ret
      · refine m2_if (P := x2 = (1 : Int32)) ?_ ?_
        · refine m2_fR 5 rfl (by decide) ?_
          refine m2_lI 5 (by decide) rfl (by decide) (fun x1002 => ?_)
          refine m2_if (P := x1002 = 0) ?_ ?_
          · exact m2_ret
          · exact m2_ret
        · refine m2_if (P := x2 = (2 : Int32)) ?_ ?_
          · refine m2_fR 3 rfl (by decide) ?_
            refine m2_lI 3 (by decide) rfl (by decide) (fun x1003 => ?_)
            exact m2_ret
          · refine m2_if (P := x2 = (3 : Int32)) ?_ ?_
            · refine m2_fR 4 rfl (by decide) ?_
              refine m2_lI 4 (by decide) rfl (by decide) (fun x1004 => ?_)
              exact m2_ret
            · refine m2_if (P := x2 = (4 : Int32)) ?_ ?_
              · refine m2_fR 6 rfl (by decide) ?_
                refine m2_lI 6 (by decide) rfl (by decide) (fun x1005 => ?_)
                exact m2_ret
              · exact m2_ret
    · refine m2_fR 7 rfl (by decide) ?_
      refine m2_lI 7 (by decide) rfl (by decide) (fun x1006 => ?_)
      refine m2_if (P := x1006 = 0) ?_ ?_
      · exact ih x2 x3 x4 (x5 + 1) _ _
      · exact ih x2 x3 (x4 + (1 : Int32)) (x5 + 1) _ _
set_option maxHeartbeats 1000000 in
theorem n_M_look {M : Nat} (x1 : Int32) (x2 : Int32) (h : AH) (m : MS) : M2 M h m (f_M_look M x1 x2 h) (g_M_look x1 x2 m) := by
  unfold f_M_look g_M_look
  refine m2_rcv ?_
  refine m2_bnd (n_M_find x1 _ _) (fun x103 h101 m102 => ?_)
  refine m2_if (P := x2 < 0) ?_ ?_
  · exact n_M_look_b19 x2 _ _
  · refine m2_if (P := (5 : Int32) < x2) ?_ ?_
    · exact n_M_look_b19 x2 _ _
    · refine m2_if (P := 0 ≤ x103) ?_ ?_
      · exact n_M_look_b40 2000 x2 x103 (0 : Int32) (0 : Int32) _ _
      · exact n_M_look_b19 x2 _ _
set_option maxHeartbeats 1000000 in
theorem n_M_arrow {M : Nat} (x1 : Int32) (x2 : Int32) (h : AH) (m : MS) : M2 M h m (f_M_arrow M x1 x2 h) (g_M_arrow x1 x2 m) := by
  unfold f_M_arrow g_M_arrow
  refine m2_rcv ?_
  refine m2_bnd (n_M_find x1 _ _) (fun x103 h101 m102 => ?_)
  refine m2_rcv ?_
  refine m2_bnd (n_M_find x2 _ _) (fun x106 h104 m105 => ?_)
  refine m2_if (P := x103 < 0) ?_ ?_
  · exact m2_rZ
  · refine m2_if (P := x106 < 0) ?_ ?_
    · exact m2_rZ
    · refine m2_fR 7 rfl (by decide) ?_
      refine m2_lI 7 (by decide) rfl (by decide) (fun x107 => ?_)
      refine m2_if (P := x107 = 0) ?_ ?_
      · exact m2_rZ
      · exact m2_rZ
set_option maxHeartbeats 1000000 in
theorem n_M_isBefore {M : Nat} (x1 : Int32) (x2 : Int32) (h : AH) (m : MS) : M2 M h m (f_M_isBefore M x1 x2 h) (g_M_isBefore x1 x2 m) := by
  unfold f_M_isBefore g_M_isBefore
  refine m2_fR 14 rfl (by decide) ?_
  refine m2_lI 14 (by decide) rfl (by decide) (fun x101 => ?_)
  refine m2_if (P := x101 ≤ 0) ?_ ?_
  · exact m2_rZ
  · refine m2_fR 14 rfl (by decide) ?_
    refine m2_lI 14 (by decide) rfl (by decide) (fun x102 => ?_)
    refine m2_fR 13 rfl (by decide) ?_
    refine m2_lI 13 (by decide) rfl (by decide) (fun x103 => ?_)
    refine m2_if (P := x102 ≤ x103) ?_ ?_
    · exact m2_rZ
    · refine m2_fR 15 rfl (by decide) ?_
      refine m2_lL 15 (by decide) rfl (fun x104 => ?_)
      refine m2_if (P := (lg_cmp ((x104 >>> (Int32.toInt64 (x2 - x2 / (64 : Int32) * (64 : Int32)) &&& 63)) &&& (1 : Int64)) (1 : Int64)) = 0) ?_ ?_
      · exact m2_rZ
      · exact m2_rZ
set_option maxHeartbeats 1000000 in
theorem n_M_comesBack_b51 {M : Nat} (K34 : Nat → Int32 → Int32 → Int32 → AH → Option (Int32 × AH)) (G34 : Int32 → Int32 → Int32 → MS → Option (Int32 × MS)) (hK34 : ∀ (x1 : Int32) (x2 : Int32) (x3 : Int32) (h : AH) (m : MS), M2 M h m (K34 M x1 x2 x3 h) (G34 x1 x2 x3 m)) : ∀ (n : Nat) (x1 : Int32) (x2 : Int32) (x3 : Int32) (x4 : Int32) (h : AH) (m : MS), M2 M h m (f_M_comesBack_b51 K34 n M x1 x2 x3 x4 h) (g_M_comesBack_b51 G34 n x1 x2 x3 x4 m) := by
  intro n
  induction n with
  | zero => intro x1 x2 x3 x4 h m; exact m2_none
  | succ n ih =>
    intro x1 x2 x3 x4 h m
    rw [f_M_comesBack_b51, g_M_comesBack_b51]
    refine m2_fI 0 (by decide) ?_
    refine m2_if (P := (m.1 0) < x4) ?_ ?_
    · exact hK34 x1 x2 (x3 + 1) _ _
    · refine m2_fR 16 rfl (by decide) ?_
      refine m2_lI 16 (by decide) rfl (by decide) (fun x1001 => ?_)
      refine m2_if (P := x1001 = 0) ?_ ?_
      · refine m2_fR 17 rfl (by decide) ?_
        refine m2_lI 17 (by decide) rfl (by decide) (fun x1002 => ?_)
        refine m2_rcv ?_
        refine m2_bnd (n_M_isBefore x1002 x4 _ _) (fun x1005 h1003 m1004 => ?_)
        refine m2_if (P := x1005 = 0) ?_ ?_
        · exact ih x1 x2 x3 (x4 + 1) _ _
        · refine m2_fR 16 rfl (by decide) ?_
          refine m2_qE 16 (by decide) rfl (by decide) (fun h1006 m1007 => ?_)
          refine m2_fR 17 rfl (by decide) ?_
          refine m2_pE 17 (by decide) rfl (by decide) (fun h1008 m1009 => ?_)
          refine m2_if (P := x4 = x1) ?_ ?_
          · exact ih x1 x2 x3 (x4 + 1) _ _
          · exact ih x1 (x2 + (1 : Int32)) x3 (x4 + 1) _ _
      · exact ih x1 x2 x3 (x4 + 1) _ _
set_option maxHeartbeats 1000000 in
theorem n_M_comesBack_b127 {M : Nat} (x1 : Int32) (h : AH) (m : MS) : M2 M h m (f_M_comesBack_b127 M x1 h) (g_M_comesBack_b127 x1 m) := by
  unfold f_M_comesBack_b127 g_M_comesBack_b127
  refine m2_fR 16 rfl (by decide) ?_
  refine m2_lI 16 (by decide) rfl (by decide) (fun x1001 => ?_)
  exact m2_rZ
set_option maxHeartbeats 1000000 in
theorem n_M_comesBack_b34 {M : Nat} : ∀ (n : Nat) (x1 : Int32) (x2 : Int32) (x3 : Int32) (h : AH) (m : MS), M2 M h m (f_M_comesBack_b34 n M x1 x2 x3 h) (g_M_comesBack_b34 n x1 x2 x3 m) := by
  intro n
  induction n with
  | zero => intro x1 x2 x3 h m; exact m2_none
  | succ n ih =>
    intro x1 x2 x3 h m
    rw [f_M_comesBack_b34, g_M_comesBack_b34]
    refine m2_if (P := x2 ≤ x3) ?_ ?_
    · exact n_M_comesBack_b127 x1 _ _
    · refine m2_fR 16 rfl (by decide) ?_
      refine m2_lI 16 (by decide) rfl (by decide) (fun x1001 => ?_)
      refine m2_if (P := x1001 = 0) ?_ ?_
      · exact n_M_comesBack_b51 _ _ ih 2000 x1 x2 x3 (1 : Int32) _ _
      · exact n_M_comesBack_b127 x1 _ _
set_option maxHeartbeats 1000000 in
theorem n_M_comesBack_b2 {M : Nat} : ∀ (n : Nat) (x1 : Int32) (x2 : Int32) (h : AH) (m : MS), M2 M h m (f_M_comesBack_b2 n M x1 x2 h) (g_M_comesBack_b2 n x1 x2 m) := by
  intro n
  induction n with
  | zero => intro x1 x2 h m; exact m2_none
  | succ n ih =>
    intro x1 x2 h m
    rw [f_M_comesBack_b2, g_M_comesBack_b2]
    refine m2_fI 0 (by decide) ?_
    refine m2_if (P := (m.1 0) < x2) ?_ ?_
    · refine m2_fR 17 rfl (by decide) ?_
      refine m2_pE 17 (by decide) rfl (by decide) (fun h1001 m1002 => ?_)
      exact n_M_comesBack_b34 2000 x1 (1 : Int32) (0 : Int32) _ _
    · refine m2_fR 16 rfl (by decide) ?_
      refine m2_qE 16 (by decide) rfl (by decide) (fun h1003 m1004 => ?_)
      exact ih x1 (x2 + 1) _ _
set_option maxHeartbeats 1000000 in
theorem n_M_comesBack {M : Nat} (x1 : Int32) (h : AH) (m : MS) : M2 M h m (f_M_comesBack M x1 h) (g_M_comesBack x1 m) := by
  unfold f_M_comesBack g_M_comesBack
  exact n_M_comesBack_b2 2000 x1 (1 : Int32) _ _
set_option maxHeartbeats 1000000 in
theorem n_M_rings_b35 {M : Nat} (K4 : Nat → Int32 → Int32 → AH → Option (Int32 × AH)) (G4 : Int32 → Int32 → MS → Option (Int32 × MS)) (hK4 : ∀ (x1 : Int32) (x2 : Int32) (h : AH) (m : MS), M2 M h m (K4 M x1 x2 h) (G4 x1 x2 m)) (x1 : Int32) (x2 : Int32) (h : AH) (m : MS) : M2 M h m (f_M_rings_b35 K4 M x1 x2 h) (g_M_rings_b35 G4 x1 x2 m) := by
  unfold f_M_rings_b35 g_M_rings_b35
  exact hK4 x1 (x2 + 1) _ _
set_option maxHeartbeats 1000000 in
theorem n_M_rings_b4 {M : Nat} : ∀ (n : Nat) (x1 : Int32) (x2 : Int32) (h : AH) (m : MS), M2 M h m (f_M_rings_b4 n M x1 x2 h) (g_M_rings_b4 n x1 x2 m) := by
  intro n
  induction n with
  | zero => intro x1 x2 h m; exact m2_none
  | succ n ih =>
    intro x1 x2 h m
    rw [f_M_rings_b4, g_M_rings_b4]
    refine m2_fI 0 (by decide) ?_
    refine m2_if (P := (m.1 0) < x2) ?_ ?_
    · exact m2_ret
    · refine m2_fR 14 rfl (by decide) ?_
      refine m2_lI 14 (by decide) rfl (by decide) (fun x1001 => ?_)
      refine m2_if (P := x1001 ≤ 0) ?_ ?_
      · exact n_M_rings_b35 _ _ ih x1 x2 _ _
      · refine m2_rcv ?_
        refine m2_bnd (n_M_comesBack x2 _ _) (fun x1004 h1002 m1003 => ?_)
        refine m2_if (P := x1004 = 0) ?_ ?_
        · exact n_M_rings_b35 _ _ ih x1 x2 _ _
        · exact ih (x1 + (1 : Int32)) (x2 + 1) _ _
set_option maxHeartbeats 1000000 in
theorem n_M_rings {M : Nat} (h : AH) (m : MS) : M2 M h m (f_M_rings M  h) (g_M_rings  m) := by
  unfold f_M_rings g_M_rings
  exact n_M_rings_b4 2000 (0 : Int32) (1 : Int32) _ _
set_option maxHeartbeats 1000000 in
theorem n_M_count {M : Nat} (x1 : Int32) (h : AH) (m : MS) : M2 M h m (f_M_count M x1 h) (g_M_count x1 m) := by
  unfold f_M_count g_M_count
  refine m2_if (P := x1 = 0) ?_ ?_
  · refine m2_fI 2 (by decide) ?_
    exact m2_ret
  · refine m2_if (P := x1 = (1 : Int32)) ?_ ?_
    · refine m2_fI 0 (by decide) ?_
      exact m2_ret
    · refine m2_if (P := x1 = (2 : Int32)) ?_ ?_
      · refine m2_fI 1 (by decide) ?_
        exact m2_ret
      · exact m2_ret
