-- the statement
theorem i_vc (xs : Nat → Int32) (L : Nat) (hL : L ≤ 260) : wpL_law (fun r => r = 1) L xs := by
  refine lz_cell (j := 0) hL rfl (by omega) (fun x => lz_mod (m := 4) rfl (by omega) (by omega) (fun a ha => nm_r (e' := nI (1 + a)) (nI_add 1 a) ?_))
  refine lz_cell (j := 1) hL rfl (by omega) (fun y => lz_mod (m := 3) rfl (by omega) (by omega) (fun b hb => ⟨5, 177, by omega, by omega, ?_⟩))
  refine ⟨by omega, by omega, by omega, by omega, by omega, by omega, by omega, by omega, by omega, by omega, ?_⟩
  refine br_t (nI_le (a := 1) (by omega) (by omega)) (br_t (nI_le (b := 12) (by omega) (by omega)) ?_)
  refine br_t (nI_le (a := 0) (by omega) (by omega)) (br_t (nI_le (b := 8) (by omega) (by omega)) ?_)
  refine ⟨L + 1 + 2, lz_44 hL (by omega) (by omega) (by omega) (L + 1) 2 0 0 0 0 (-1) (fun _ => 0) (fun _ => 0) (fun _ => 0) (fun _ => 0) (fun _ => 0) (by omega) (by omega) ?_⟩
  exact ⟨0, 0, 0, fun _ => 0, fun _ => 0, fun _ => 0, fun _ => 0, fun _ => 0, fun _ => 0, -1, fun _ => 0, ir_clear ⟨by omega, by omega, by omega⟩ rfl,
    ⟨fun _ => 0, fun _ => 0, fun _ => 0, fun _ => 0, rfl, fun e he => absurd he (by omega), fun o ho => rfl, fun o ho => absurd ho (by omega), fun o ho => absurd ho (by omega)⟩, Or.inl ⟨rfl, rfl⟩⟩
