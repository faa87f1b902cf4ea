/-! ===== keep, undo ===== -/
theorem copies_n (f t : Nat → Int32) : fX12_copies f t = some (fa_fill f t 98) := by
  have e : fX12_copies_L2 f FU (fa_fill f t 0) (nI 0) = some (fa_fill f t 98) := by
    refine for_all (fun n (a : Nat → Int32) k => fX12_copies_L2 f n a (nI k)) 98 (fun k => fa_fill f t k) _ (fun n => ?_) (fun n k hk => ?_) (by decide)
    · show bX12_copies_L2 f _ _ _ = _
      unfold bX12_copies_L2
      rw [if_pos (yle_n (x := 98) (a := 98) rfl (by omega) (by decide))]
    · show bX12_copies_L2 f _ _ _ = fX12_copies_L2 f n _ _
      unfold bX12_copies_L2; dsimp only [lett]
      rw [if_neg (nle_n (x := 98) (a := 98) rfl hk (by decide)), gd_n hk (by decide), gd_n hk (by decide), ix_n (by omega), n1, fa_fill_succ]
  rw [fa_fill_0] at e
  exact e
theorem WkR_fill {N : Nat → Nat → Nat} {f t : Nat → Int32} (h : WkR N f) : WkR N (fa_fill f t 98) := by
  refine ⟨(fa_fill_in (by omega)).trans h.1, (fa_fill_in (by omega)).trans h.2.1, fun p hp => ?_⟩
  obtain ⟨r0, r1, r2, r3, r4, r5⟩ := h.2.2 p hp
  exact ⟨(fa_fill_in (by omega)).trans r0, (fa_fill_in (by omega)).trans r1, (fa_fill_in (by omega)).trans r2, (fa_fill_in (by omega)).trans r3, (fa_fill_in (by omega)).trans r4, (fa_fill_in (by omega)).trans r5⟩
theorem WkC_copy {N : Nat → Nat → Nat} {u w : St} (h : WkC N w) : WkC N (fX9_copyFrom u w) := by
  obtain ⟨h4, h5, h6, h7, h⟩ := h
  refine ⟨h4, h5, h6, h7, fun p hp => ?_⟩
  obtain ⟨c0, c1, c2, c3⟩ := h p hp
  refine ⟨?_, ?_, ?_, ?_⟩
  · show va_cpy (w 0) (u 0) 0 0 16 p = _
    rw [pk_cpy_in (by omega) (by omega)]; simpa using c0
  · show va_cpy (w 1) (u 1) 0 0 16 p = _
    rw [pk_cpy_in (by omega) (by omega)]; simpa using c1
  · show va_cpy (w 2) (u 2) 0 0 16 p = _
    rw [pk_cpy_in (by omega) (by omega)]; simpa using c2
  · show va_cpy (w 3) (u 3) 0 0 16 p = _
    rw [pk_cpy_in (by omega) (by omega)]; simpa using c3
theorem eq_keep (g : Nat → St) (w : Nat → Int64) (v : St) (hr : Rel g v) : ∃ (z : Int32 × St × St) (y : Int32 × St), fX11_keep (g 0) (g 3) (g 4) = z ∧ fX12_keep v = some y ∧ z.1 = y.1 ∧ Rel (sg (sg g 0 z.2.1) 4 z.2.2) y.2 := by
  obtain ⟨t1, ⟨N, ok, c, r⟩, t3, t4, t5, t6⟩ := hr
  refine ⟨(g 3 6 0, st (g 0) 15 0 1, fX9_copyFrom (g 4) (g 3)), (v 0 96, sa (st v 51 0 1) 2 (fa_fill (v 0) (v 2) 98)), rfl, ?_, ?_, ?_⟩
  · unfold fX12_keep; dsimp only [lett]
    rw [copies_n, sbind]
    rfl
  · exact c.2.2.1.trans r.1.symm
  · refine ⟨TR_ref t1 rfl rfl, ⟨N, ok, c, r⟩, ⟨1, by omega, rfl, rfl, fun _ => ⟨N, ok, WkC_copy c, WkR_fill r⟩⟩, RR_ref t4 rfl rfl, LR_ref t5 rfl rfl rfl rfl rfl rfl, VR_ref t6 rfl rfl rfl rfl⟩
theorem eq_undo (g : Nat → St) (w : Nat → Int64) (v : St) (hr : Rel g v) : ∃ (z : Int32 × St) (y : Int32 × St), fX11_undo (g 0) (g 3) (g 4) = some z ∧ fX12_undo v = some y ∧ z.1 = y.1 ∧ Rel (sg g 3 z.2) y.2 := by
  obtain ⟨t1, t2, ⟨k, hk, k1, k2, k3⟩, t4, t5, t6⟩ := id hr
  rcases (show k = 0 ∨ k = 1 by omega) with rfl | rfl
  · refine ⟨(0, g 3), (0, v), ?_, ?_, rfl, hr⟩
    · unfold fX11_undo; rw [k1, if_pos (by decide)]; rfl
    · unfold fX12_undo; rw [k2, if_pos (by decide)]
  · obtain ⟨N, ok, c, r⟩ := k3 rfl
    refine ⟨(1, fX9_copyFrom (g 3) (g 4)), (1, sa v 0 (fa_fill (v 2) (v 0) 98)), ?_, ?_, rfl, ?_⟩
    · unfold fX11_undo; rw [k1, if_neg (by decide)]; rfl
    · unfold fX12_undo; dsimp only [lett]; rw [k2, if_neg (by decide), copies_n, sbind]
    · exact ⟨TR_ref t1 rfl rfl, ⟨N, ok, WkC_copy c, WkR_fill r⟩, ⟨1, by omega, k1, k2, fun _ => ⟨N, ok, c, r⟩⟩, RR_ref t4 rfl rfl, LR_ref t5 rfl rfl rfl rfl rfl rfl, VR_ref t6 rfl rfl rfl rfl⟩
