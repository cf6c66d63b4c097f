/-- the empty world at the law's entry -/
def h_0 (n : Nat) : AH := (fun _ => none, n, 0)
/-- THE LAW, from its entry, out of the pure run of it -/
theorem start_of {p : Program} {e : Env} {s : State} {m : MethodId} {below : List Frame} {meth : Method} {c : Code} (l : Launch) {b L : Nat} {xs : Nat → Int32} (C0 : lw_At p s m meth c b L xs) (hrun : ∀ n : Nat, ∃ h' : AH, f_L_law L xs (h_0 n) = some (1, h') ∧ h'.2.1 ≤ n + 600000 ∧ h'.2.2 ≤ 7302250) : W p l e room_1 s m #[Value.ref b] below meth c s.heap [] 0 0 (lw_Z below #[Value.ref b] s) (entryFrame m ([Value.ref b] : List Value).toArray 4) := by
  obtain ⟨hx, hb, hr, hml, hown, hts, hX, hbl, hlocks, hgv⟩ := C0
  obtain ⟨D, dA, hK⟩ := kx_start hts s.heap.size s.heap
  obtain ⟨h', hf, hc1, hc2⟩ := hrun s.heap.size
  have hC : XC p s m #[Value.ref b] meth c code o_L lw_tt 4 ret meth.name (D, dA, s.heap.size, s.heap) := ⟨hx, hb, hml, hown, fun w hw => hts w (List.mem_filter.mp hw).1, hr, hlocks, rfl, hK⟩
  have hl := lv_entry ([.ref b]) (n := 4) (Nat.le_of_ble_eq_true rfl)
  rw [lg_entry_eq]
  have hX1 := (x_L_law (p := p) (l := l) (e := e) (s := s) (m := m) (below := below) (meth := meth) (c := c) (B := (D, dA, s.heap.size, s.heap)) (n0 := s.heap.size) (m0 := 0) (b := b) (L := L) (xs := xs) hX hbl rfl (h_0 s.heap.size) 1 h' hf).2 hC hc1 (by rw [Nat.zero_add]; exact hc2) s.heap [] _ 0 0 ⟨rfl, Nat.le_refl _, fun _ _ => rfl, fun a e ha => by cases ha⟩ (fun q hq => by cases hq) hl rfl rfl
  intro T hT X
  obtain ⟨t, a1, b1⟩ := hX1 T hT X
  exact ⟨t, a1, b1 rfl⟩
