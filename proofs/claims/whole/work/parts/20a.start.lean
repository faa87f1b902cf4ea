/-! ===== both begin alike ===== -/
theorem rel_start : Rel (fun k => [zX11, zX8, zX1, zX9, zX9, zX9, zX7, zX4, zX3, zX0, zX6, zX5, z0, zX2, zX2, zX10, zX10].getD k z0) zX12 := by
  refine ⟨⟨0, fun _ => 0, by omega, rfl, rfl, fun j hj => by omega⟩, ⟨fun a _ => if a = 7 then 1 else 0, ⟨by decide, by decide, by decide, by decide, fun p hp => ⟨by show 0 ≤ 999; omega, by show 0 ≤ 999; omega, by show 0 ≤ 999; omega, by show 0 ≤ 9999; omega, fun h => ?_, fun h => ?_⟩⟩, ⟨rfl, rfl, rfl, rfl, fun p hp => ⟨rfl, rfl, rfl, rfl⟩⟩, ⟨rfl, rfl, fun p hp => ?_⟩⟩, ⟨0, by omega, rfl, rfl, fun e => by omega⟩, ⟨0, 5, by omega, by omega, rfl, rfl, rfl, rfl⟩, ⟨0, 0, fun _ => 0, fun _ => 0, fun _ => 0, fun _ => 0, fun _ => 0, fun _ => 0, by omega, by omega, rfl, rfl, fun j hj => by omega, fun j hj => by omega⟩, ⟨0, fun _ => 0, fun _ => 0, fun _ => 0, by omega, rfl, rfl, fun j hj => by omega⟩⟩
  · have h2 : (0 : Nat).testBit p = true := h
    rw [Nat.zero_testBit] at h2; cases h2
  · have h2 : (0 : Nat).testBit p = true := h
    rw [Nat.zero_testBit] at h2; cases h2
  · have e : ∀ q, q ≠ 97 → zX12 0 q = nI 0 := fun q hq => by
      show upd (z0 0) 97 1 q = _
      rw [upd_n hq]; rfl
    have t : nI (b01 ((0 : Nat).testBit p)) = nI 0 := by rw [Nat.zero_testBit]; rfl
    exact ⟨(e p (by omega)).trans t.symm, e (16 + p) (by omega), e (32 + p) (by omega), (e (48 + p) (by omega)).trans t.symm, e (64 + p) (by omega), e (80 + p) (by omega)⟩
