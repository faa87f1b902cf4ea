set_option maxHeartbeats 4000000 in
set_option maxRecDepth 100000 in
theorem lc_pairs {p : Program} {e : Env} {s : State} {m : MethodId} {below : List Frame} {meth : Method} {c : Code} (l : Launch) {b L : Nat} {xs : Nat → Int32} {D : va_G} {T : Ty3} {kv : (Nat → Nat) × (Nat → Nat)} (hL : L ≤ 3072) (hx : p.tables.exec = Jvm.exec) (hb : c.code = cL_law) (hml : c.maxLocals = 4) (hown : s.vm.findClass RL = some m.cls) (hts : ∀ w ∈ lw_tbl, w.before #[Value.ref b] s = true) (hX : va_X b L xs s s.heap) (hbl : b < s.heap.size) (hK : cK D T s) (hE : sK (fun q : Nat => s.heap.size ≤ q) kv s s.heap) {i : Int32} {j : Nat} (hi : i = nI j) (hj : j + 6 ≤ L) {h hm : Nat} {a am : Nat → Nat} {aa : Nat → Nat → Nat} {g : Nat → St} {w : Nat → Int64} {v : St} {H : Heap} {locs : List Loc} {ls : Array Slot} (hRel : Rel g v) (hP : va_P D vwCl (WG T h a aa g w ++ kX12 T hm am v) H) (hD : va_D (fun q : Nat => s.heap.size ≤ q) (WG T h a aa g w ++ kX12 T hm am v)) (hS : va_S (fun q : Nat => s.heap.size ≤ q) s.heap H locs) (hl : lv_has ls 4 [(0, .ref b), (1, .ref h), (2, .ref hm), (3, .int i)]) (kk : ∀ (a' : Nat → Nat) (aa' : Nat → Nat → Nat) (g' : Nat → St) (w' : Nat → Int64) (v' : St) (H' : Heap) (locs' : List Loc) (ls' : Array Slot), Rel g' v' → va_P D vwCl (WG T h a' aa' g' w' ++ kX12 T hm am v') H' → va_D (fun q : Nat => s.heap.size ≤ q) (WG T h a' aa' g' w' ++ kX12 T hm am v') → va_S (fun q : Nat => s.heap.size ≤ q) s.heap H' locs' → lv_has ls' 4 [(0, .ref b), (1, .ref h), (2, .ref hm), (3, .int i)] → W p l e room_1 s m #[Value.ref b] below meth c H' locs' 96 13112 (lw_Z below #[Value.ref b] s) (F0 m 1070 ls' [])) : W p l e room_1 s m #[Value.ref b] below meth c H locs 96 13112 (lw_Z below #[Value.ref b] s) (F0 m 643 ls []) := by
  have hA : ∀ q : Nat, s.heap.size ≤ q → (fun q : Nat => s.heap.size ≤ q) q := fun _ h => h
  have hbA : ¬ (fun q : Nat => s.heap.size ≤ q) b := Nat.not_le.mpr hbl
  have hq1 : vp_in (i + 1) L := by rw [hi, show (1 : Int32) = nI 1 from rfl, nI_add]; exact vp_in_nI (by omega) (by omega)
  refine lv_aload_n hx hb dL_law_643 rfl (lv_at hl 1 rfl) ?_
  refine lv_aload_n hx hb dL_law_644 rfl (lv_at hl 0 rfl) ?_
  refine lv_iload_n hx hb dL_law_645 rfl (lv_at hl 3 rfl) ?_
  refine lv_iconst (v := 1) hx hb dL_law_646 (by decide) ?_
  refine lv_iadd hx hb dL_law_647 ?_
  refine va_sld hx hb hX hbl hbA hS hq1 dL_law_648 ?_
  obtain ⟨z, y, hz, hy, he, hR⟩ := eq_pairs g w v hRel (xs (ix (i + 1))) 
  have hFc9 := free_left hD hS hA
  refine cVM (As := [.int (xs (ix (i + 1)))]) (rest := []) ⟨hx, hb, hml, hown, fun w h => hts w (hv_X11_pairs w h)⟩ (mX11_pairs l D T aa h a (g 0) (g 1) (g 2) (g 3) (g 4) (g 5) (g 6) (g 7) (g 8) (g 9) (g 10) (g 11) w (g 13) (g 14) (g 15) (g 16) _ (xs (ix (i + 1))) z hz) (cwV 1 (fun w h => hts w (hv_X11_pairs w h)) gT_X11_pairs rfl rfl rfl (by decide +kernel) ⟨Nat.le_of_ble_eq_true rfl, Nat.le_of_ble_eq_true rfl⟩) (va_recv hK.1 (P_left hP) (ci := 11) (q0 := 0) rfl rfl) (P_left hP) hK rfl hl.1 rfl (Nat.le_of_ble_eq_true rfl) dL_law_649 ⟨Nat.le_of_ble_eq_true rfl, Nat.le_of_ble_eq_true rfl⟩ (D_left hD) hFc9 hS (fun H9 locs hP1 hD1 hk1 hS => ?_)
  obtain ⟨hP, hD⟩ := join_left hP hD hk1 hFc9 hP1 hD1
  generalize H9 = H at hP hS ⊢
  have hP : va_P D vwCl (WG T h a aa (sg g 9 z.2) w ++ kX12 T hm am v) H := hP
  have hD : va_D (fun q : Nat => s.heap.size ≤ q) (WG T h a aa (sg g 9 z.2) w ++ kX12 T hm am v) := hD
  refine lv_aload_n hx hb dL_law_652 rfl (lv_at hl 2 rfl) ?_
  refine lv_aload_n hx hb dL_law_653 rfl (lv_at hl 0 rfl) ?_
  refine lv_iload_n hx hb dL_law_654 rfl (lv_at hl 3 rfl) ?_
  refine lv_iconst (v := 1) hx hb dL_law_655 (by decide) ?_
  refine lv_iadd hx hb dL_law_656 ?_
  refine va_sld hx hb hX hbl hbA hS hq1 dL_law_657 ?_
  have hFc9 := free_right hD hS hA
  refine cVM (As := [.int (xs (ix (i + 1)))]) (rest := [.int z.1]) ⟨hx, hb, hml, hown, fun w h => hts w (hv_X12_pairs w h)⟩ (mX12_pairs l D T hm am v _ (xs (ix (i + 1))) y hy) (cwV 1 (fun w h => hts w (hv_X12_pairs w h)) gT_X12_pairs rfl rfl rfl (by decide +kernel) ⟨Nat.le_of_ble_eq_true rfl, Nat.le_of_ble_eq_true rfl⟩) (recM hK hP) (P_right hP) hK rfl hl.1 rfl (Nat.le_of_ble_eq_true rfl) dL_law_658 ⟨Nat.le_of_ble_eq_true rfl, Nat.le_of_ble_eq_true rfl⟩ (D_right hD) hFc9 hS (fun H9 locs hP1 hD1 hk1 hS => ?_)
  obtain ⟨hP, hD⟩ := join_right hP hD hk1 hFc9 hP1 hD1
  generalize H9 = H at hP hS ⊢
  refine lv_icmp_eq (tgt := 1070) hx hb dL_law_661 (by decide) (fun _ => ?_) (fun c9 => absurd he c9)
  exact kk a aa (sg g 9 z.2) w y.2 _ _ ls hR hP hD hS hl
set_option maxHeartbeats 4000000 in
set_option maxRecDepth 100000 in
theorem lc_liars {p : Program} {e : Env} {s : State} {m : MethodId} {below : List Frame} {meth : Method} {c : Code} (l : Launch) {b L : Nat} {xs : Nat → Int32} {D : va_G} {T : Ty3} {kv : (Nat → Nat) × (Nat → Nat)} (hL : L ≤ 3072) (hx : p.tables.exec = Jvm.exec) (hb : c.code = cL_law) (hml : c.maxLocals = 4) (hown : s.vm.findClass RL = some m.cls) (hts : ∀ w ∈ lw_tbl, w.before #[Value.ref b] s = true) (hX : va_X b L xs s s.heap) (hbl : b < s.heap.size) (hK : cK D T s) (hE : sK (fun q : Nat => s.heap.size ≤ q) kv s s.heap) {i : Int32} {j : Nat} (hi : i = nI j) (hj : j + 6 ≤ L) {h hm : Nat} {a am : Nat → Nat} {aa : Nat → Nat → Nat} {g : Nat → St} {w : Nat → Int64} {v : St} {H : Heap} {locs : List Loc} {ls : Array Slot} (hRel : Rel g v) (hP : va_P D vwCl (WG T h a aa g w ++ kX12 T hm am v) H) (hD : va_D (fun q : Nat => s.heap.size ≤ q) (WG T h a aa g w ++ kX12 T hm am v)) (hS : va_S (fun q : Nat => s.heap.size ≤ q) s.heap H locs) (hl : lv_has ls 4 [(0, .ref b), (1, .ref h), (2, .ref hm), (3, .int i)]) (kk : ∀ (a' : Nat → Nat) (aa' : Nat → Nat → Nat) (g' : Nat → St) (w' : Nat → Int64) (v' : St) (H' : Heap) (locs' : List Loc) (ls' : Array Slot), Rel g' v' → va_P D vwCl (WG T h a' aa' g' w' ++ kX12 T hm am v') H' → va_D (fun q : Nat => s.heap.size ≤ q) (WG T h a' aa' g' w' ++ kX12 T hm am v') → va_S (fun q : Nat => s.heap.size ≤ q) s.heap H' locs' → lv_has ls' 4 [(0, .ref b), (1, .ref h), (2, .ref hm), (3, .int i)] → W p l e room_1 s m #[Value.ref b] below meth c H' locs' 96 13112 (lw_Z below #[Value.ref b] s) (F0 m 1070 ls' [])) : W p l e room_1 s m #[Value.ref b] below meth c H locs 96 13112 (lw_Z below #[Value.ref b] s) (F0 m 666 ls []) := by
  have hA : ∀ q : Nat, s.heap.size ≤ q → (fun q : Nat => s.heap.size ≤ q) q := fun _ h => h
  have hbA : ¬ (fun q : Nat => s.heap.size ≤ q) b := Nat.not_le.mpr hbl
  have hq1 : vp_in (i + 1) L := by rw [hi, show (1 : Int32) = nI 1 from rfl, nI_add]; exact vp_in_nI (by omega) (by omega)
  refine lv_aload_n hx hb dL_law_666 rfl (lv_at hl 1 rfl) ?_
  refine lv_aload_n hx hb dL_law_667 rfl (lv_at hl 0 rfl) ?_
  refine lv_iload_n hx hb dL_law_668 rfl (lv_at hl 3 rfl) ?_
  refine lv_iconst (v := 1) hx hb dL_law_669 (by decide) ?_
  refine lv_iadd hx hb dL_law_670 ?_
  refine va_sld hx hb hX hbl hbA hS hq1 dL_law_671 ?_
  obtain ⟨z, y, hz, hy, he, hR⟩ := eq_liars g w v hRel (xs (ix (i + 1))) 
  refine cVR (As := [.int (xs (ix (i + 1)))]) (rest := []) ⟨hx, hb, hml, hown, fun w h => hts w (hv_X11_liars w h)⟩ (mX11_liars l D T aa h a (g 0) (g 1) (g 2) (g 3) (g 4) (g 5) (g 6) (g 7) (g 8) (g 9) (g 10) (g 11) w (g 13) (g 14) (g 15) (g 16) (xs (ix (i + 1))) z hz) (cwV 1 (fun w h => hts w (hv_X11_liars w h)) gT_X11_liars rfl rfl rfl (by decide +kernel) ⟨Nat.le_of_ble_eq_true rfl, Nat.le_of_ble_eq_true rfl⟩) (va_recv hK.1 (P_left hP) (ci := 11) (q0 := 0) rfl rfl) (P_left hP) hK rfl hl.1 rfl (Nat.le_of_ble_eq_true rfl) dL_law_672 ⟨Nat.le_of_ble_eq_true rfl, Nat.le_of_ble_eq_true rfl⟩ hP hS (fun H locs hP hS => ?_)
  refine lv_aload_n hx hb dL_law_675 rfl (lv_at hl 2 rfl) ?_
  refine lv_aload_n hx hb dL_law_676 rfl (lv_at hl 0 rfl) ?_
  refine lv_iload_n hx hb dL_law_677 rfl (lv_at hl 3 rfl) ?_
  refine lv_iconst (v := 1) hx hb dL_law_678 (by decide) ?_
  refine lv_iadd hx hb dL_law_679 ?_
  refine va_sld hx hb hX hbl hbA hS hq1 dL_law_680 ?_
  refine cVR (As := [.int (xs (ix (i + 1)))]) (rest := [.int z]) ⟨hx, hb, hml, hown, fun w h => hts w (hv_X12_liars w h)⟩ (mX12_liars l D T hm am v (xs (ix (i + 1))) y hy) (cwV 1 (fun w h => hts w (hv_X12_liars w h)) gT_X12_liars rfl rfl rfl (by decide +kernel) ⟨Nat.le_of_ble_eq_true rfl, Nat.le_of_ble_eq_true rfl⟩) (recM hK hP) (P_right hP) hK rfl hl.1 rfl (Nat.le_of_ble_eq_true rfl) dL_law_681 ⟨Nat.le_of_ble_eq_true rfl, Nat.le_of_ble_eq_true rfl⟩ hP hS (fun H locs hP hS => ?_)
  refine lv_icmp_eq (tgt := 1070) hx hb dL_law_684 (by decide) (fun _ => ?_) (fun c9 => absurd he c9)
  exact kk a aa g w v _ _ ls hR hP hD hS hl
set_option maxHeartbeats 4000000 in
set_option maxRecDepth 100000 in
theorem lc_teams {p : Program} {e : Env} {s : State} {m : MethodId} {below : List Frame} {meth : Method} {c : Code} (l : Launch) {b L : Nat} {xs : Nat → Int32} {D : va_G} {T : Ty3} {kv : (Nat → Nat) × (Nat → Nat)} (hL : L ≤ 3072) (hx : p.tables.exec = Jvm.exec) (hb : c.code = cL_law) (hml : c.maxLocals = 4) (hown : s.vm.findClass RL = some m.cls) (hts : ∀ w ∈ lw_tbl, w.before #[Value.ref b] s = true) (hX : va_X b L xs s s.heap) (hbl : b < s.heap.size) (hK : cK D T s) (hE : sK (fun q : Nat => s.heap.size ≤ q) kv s s.heap) {i : Int32} {j : Nat} (hi : i = nI j) (hj : j + 6 ≤ L) {h hm : Nat} {a am : Nat → Nat} {aa : Nat → Nat → Nat} {g : Nat → St} {w : Nat → Int64} {v : St} {H : Heap} {locs : List Loc} {ls : Array Slot} (hRel : Rel g v) (hP : va_P D vwCl (WG T h a aa g w ++ kX12 T hm am v) H) (hD : va_D (fun q : Nat => s.heap.size ≤ q) (WG T h a aa g w ++ kX12 T hm am v)) (hS : va_S (fun q : Nat => s.heap.size ≤ q) s.heap H locs) (hl : lv_has ls 4 [(0, .ref b), (1, .ref h), (2, .ref hm), (3, .int i)]) (kk : ∀ (a' : Nat → Nat) (aa' : Nat → Nat → Nat) (g' : Nat → St) (w' : Nat → Int64) (v' : St) (H' : Heap) (locs' : List Loc) (ls' : Array Slot), Rel g' v' → va_P D vwCl (WG T h a' aa' g' w' ++ kX12 T hm am v') H' → va_D (fun q : Nat => s.heap.size ≤ q) (WG T h a' aa' g' w' ++ kX12 T hm am v') → va_S (fun q : Nat => s.heap.size ≤ q) s.heap H' locs' → lv_has ls' 4 [(0, .ref b), (1, .ref h), (2, .ref hm), (3, .int i)] → W p l e room_1 s m #[Value.ref b] below meth c H' locs' 96 13112 (lw_Z below #[Value.ref b] s) (F0 m 1070 ls' [])) : W p l e room_1 s m #[Value.ref b] below meth c H locs 96 13112 (lw_Z below #[Value.ref b] s) (F0 m 689 ls []) := by
  have hA : ∀ q : Nat, s.heap.size ≤ q → (fun q : Nat => s.heap.size ≤ q) q := fun _ h => h
  have hbA : ¬ (fun q : Nat => s.heap.size ≤ q) b := Nat.not_le.mpr hbl
  have hq1 : vp_in (i + 1) L := by rw [hi, show (1 : Int32) = nI 1 from rfl, nI_add]; exact vp_in_nI (by omega) (by omega)
  refine lv_aload_n hx hb dL_law_689 rfl (lv_at hl 1 rfl) ?_
  refine lv_aload_n hx hb dL_law_690 rfl (lv_at hl 0 rfl) ?_
  refine lv_iload_n hx hb dL_law_691 rfl (lv_at hl 3 rfl) ?_
  refine lv_iconst (v := 1) hx hb dL_law_692 (by decide) ?_
  refine lv_iadd hx hb dL_law_693 ?_
  refine va_sld hx hb hX hbl hbA hS hq1 dL_law_694 ?_
  obtain ⟨z, y, hz, hy, he, hR⟩ := eq_teams g w v hRel (xs (ix (i + 1))) 
  have hFc9 := free_left hD hS hA
  refine cVM (As := [.int (xs (ix (i + 1)))]) (rest := []) ⟨hx, hb, hml, hown, fun w h => hts w (hv_X11_teams w h)⟩ (mX11_teams l D T aa h a (g 0) (g 1) (g 2) (g 3) (g 4) (g 5) (g 6) (g 7) (g 8) (g 9) (g 10) (g 11) w (g 13) (g 14) (g 15) (g 16) _ (xs (ix (i + 1))) z hz) (cwV 1 (fun w h => hts w (hv_X11_teams w h)) gT_X11_teams rfl rfl rfl (by decide +kernel) ⟨Nat.le_of_ble_eq_true rfl, Nat.le_of_ble_eq_true rfl⟩) (va_recv hK.1 (P_left hP) (ci := 11) (q0 := 0) rfl rfl) (P_left hP) hK rfl hl.1 rfl (Nat.le_of_ble_eq_true rfl) dL_law_695 ⟨Nat.le_of_ble_eq_true rfl, Nat.le_of_ble_eq_true rfl⟩ (D_left hD) hFc9 hS (fun H9 locs hP1 hD1 hk1 hS => ?_)
  obtain ⟨hP, hD⟩ := join_left hP hD hk1 hFc9 hP1 hD1
  generalize H9 = H at hP hS ⊢
  have hP : va_P D vwCl (WG T h a aa (sg g 9 z.2) w ++ kX12 T hm am v) H := hP
  have hD : va_D (fun q : Nat => s.heap.size ≤ q) (WG T h a aa (sg g 9 z.2) w ++ kX12 T hm am v) := hD
  refine lv_aload_n hx hb dL_law_698 rfl (lv_at hl 2 rfl) ?_
  refine lv_aload_n hx hb dL_law_699 rfl (lv_at hl 0 rfl) ?_
  refine lv_iload_n hx hb dL_law_700 rfl (lv_at hl 3 rfl) ?_
  refine lv_iconst (v := 1) hx hb dL_law_701 (by decide) ?_
  refine lv_iadd hx hb dL_law_702 ?_
  refine va_sld hx hb hX hbl hbA hS hq1 dL_law_703 ?_
  refine cVR (As := [.int (xs (ix (i + 1)))]) (rest := [.int z.1]) ⟨hx, hb, hml, hown, fun w h => hts w (hv_X12_teams w h)⟩ (mX12_teams l D T hm am v (xs (ix (i + 1))) y hy) (cwV 1 (fun w h => hts w (hv_X12_teams w h)) gT_X12_teams rfl rfl rfl (by decide +kernel) ⟨Nat.le_of_ble_eq_true rfl, Nat.le_of_ble_eq_true rfl⟩) (recM hK hP) (P_right hP) hK rfl hl.1 rfl (Nat.le_of_ble_eq_true rfl) dL_law_704 ⟨Nat.le_of_ble_eq_true rfl, Nat.le_of_ble_eq_true rfl⟩ hP hS (fun H locs hP hS => ?_)
  refine lv_icmp_eq (tgt := 1070) hx hb dL_law_707 (by decide) (fun _ => ?_) (fun c9 => absurd he c9)
  exact kk a aa (sg g 9 z.2) w v _ _ ls hR hP hD hS hl
set_option maxHeartbeats 4000000 in
set_option maxRecDepth 100000 in
theorem lc_share {p : Program} {e : Env} {s : State} {m : MethodId} {below : List Frame} {meth : Method} {c : Code} (l : Launch) {b L : Nat} {xs : Nat → Int32} {D : va_G} {T : Ty3} {kv : (Nat → Nat) × (Nat → Nat)} (hL : L ≤ 3072) (hx : p.tables.exec = Jvm.exec) (hb : c.code = cL_law) (hml : c.maxLocals = 4) (hown : s.vm.findClass RL = some m.cls) (hts : ∀ w ∈ lw_tbl, w.before #[Value.ref b] s = true) (hX : va_X b L xs s s.heap) (hbl : b < s.heap.size) (hK : cK D T s) (hE : sK (fun q : Nat => s.heap.size ≤ q) kv s s.heap) {i : Int32} {j : Nat} (hi : i = nI j) (hj : j + 6 ≤ L) {h hm : Nat} {a am : Nat → Nat} {aa : Nat → Nat → Nat} {g : Nat → St} {w : Nat → Int64} {v : St} {H : Heap} {locs : List Loc} {ls : Array Slot} (hRel : Rel g v) (hP : va_P D vwCl (WG T h a aa g w ++ kX12 T hm am v) H) (hD : va_D (fun q : Nat => s.heap.size ≤ q) (WG T h a aa g w ++ kX12 T hm am v)) (hS : va_S (fun q : Nat => s.heap.size ≤ q) s.heap H locs) (hl : lv_has ls 4 [(0, .ref b), (1, .ref h), (2, .ref hm), (3, .int i)]) (kk : ∀ (a' : Nat → Nat) (aa' : Nat → Nat → Nat) (g' : Nat → St) (w' : Nat → Int64) (v' : St) (H' : Heap) (locs' : List Loc) (ls' : Array Slot), Rel g' v' → va_P D vwCl (WG T h a' aa' g' w' ++ kX12 T hm am v') H' → va_D (fun q : Nat => s.heap.size ≤ q) (WG T h a' aa' g' w' ++ kX12 T hm am v') → va_S (fun q : Nat => s.heap.size ≤ q) s.heap H' locs' → lv_has ls' 4 [(0, .ref b), (1, .ref h), (2, .ref hm), (3, .int i)] → W p l e room_1 s m #[Value.ref b] below meth c H' locs' 96 13112 (lw_Z below #[Value.ref b] s) (F0 m 1070 ls' [])) : W p l e room_1 s m #[Value.ref b] below meth c H locs 96 13112 (lw_Z below #[Value.ref b] s) (F0 m 712 ls []) := by
  have hA : ∀ q : Nat, s.heap.size ≤ q → (fun q : Nat => s.heap.size ≤ q) q := fun _ h => h
  have hbA : ¬ (fun q : Nat => s.heap.size ≤ q) b := Nat.not_le.mpr hbl
  have hq1 : vp_in (i + 1) L := by rw [hi, show (1 : Int32) = nI 1 from rfl, nI_add]; exact vp_in_nI (by omega) (by omega)
  have hq2 : vp_in (i + 2) L := by rw [hi, show (2 : Int32) = nI 2 from rfl, nI_add]; exact vp_in_nI (by omega) (by omega)
  refine lv_aload_n hx hb dL_law_712 rfl (lv_at hl 1 rfl) ?_
  refine lv_aload_n hx hb dL_law_713 rfl (lv_at hl 0 rfl) ?_
  refine lv_iload_n hx hb dL_law_714 rfl (lv_at hl 3 rfl) ?_
  refine lv_iconst (v := 1) hx hb dL_law_715 (by decide) ?_
  refine lv_iadd hx hb dL_law_716 ?_
  refine va_sld hx hb hX hbl hbA hS hq1 dL_law_717 ?_
  refine lv_aload_n hx hb dL_law_718 rfl (lv_at hl 0 rfl) ?_
  refine lv_iload_n hx hb dL_law_719 rfl (lv_at hl 3 rfl) ?_
  refine lv_iconst (v := 2) hx hb dL_law_720 (by decide) ?_
  refine lv_iadd hx hb dL_law_721 ?_
  refine va_sld hx hb hX hbl hbA hS hq2 dL_law_722 ?_
  obtain ⟨z, y, hz, hy, he, hR⟩ := eq_share g w v hRel (xs (ix (i + 1))) (xs (ix (i + 2))) 
  refine cVR (As := [.int (xs (ix (i + 1))), .int (xs (ix (i + 2)))]) (rest := []) ⟨hx, hb, hml, hown, fun w h => hts w (hv_X11_share w h)⟩ (mX11_share l D T aa h a (g 0) (g 1) (g 2) (g 3) (g 4) (g 5) (g 6) (g 7) (g 8) (g 9) (g 10) (g 11) w (g 13) (g 14) (g 15) (g 16) (xs (ix (i + 1))) (xs (ix (i + 2))) z hz) (cwV 2 (fun w h => hts w (hv_X11_share w h)) gT_X11_share rfl rfl rfl (by decide +kernel) ⟨Nat.le_of_ble_eq_true rfl, Nat.le_of_ble_eq_true rfl⟩) (va_recv hK.1 (P_left hP) (ci := 11) (q0 := 0) rfl rfl) (P_left hP) hK rfl hl.1 rfl (Nat.le_of_ble_eq_true rfl) dL_law_723 ⟨Nat.le_of_ble_eq_true rfl, Nat.le_of_ble_eq_true rfl⟩ hP hS (fun H locs hP hS => ?_)
  refine lv_aload_n hx hb dL_law_726 rfl (lv_at hl 2 rfl) ?_
  refine lv_aload_n hx hb dL_law_727 rfl (lv_at hl 0 rfl) ?_
  refine lv_iload_n hx hb dL_law_728 rfl (lv_at hl 3 rfl) ?_
  refine lv_iconst (v := 1) hx hb dL_law_729 (by decide) ?_
  refine lv_iadd hx hb dL_law_730 ?_
  refine va_sld hx hb hX hbl hbA hS hq1 dL_law_731 ?_
  refine lv_aload_n hx hb dL_law_732 rfl (lv_at hl 0 rfl) ?_
  refine lv_iload_n hx hb dL_law_733 rfl (lv_at hl 3 rfl) ?_
  refine lv_iconst (v := 2) hx hb dL_law_734 (by decide) ?_
  refine lv_iadd hx hb dL_law_735 ?_
  refine va_sld hx hb hX hbl hbA hS hq2 dL_law_736 ?_
  refine cVR (As := [.int (xs (ix (i + 1))), .int (xs (ix (i + 2)))]) (rest := [.int z]) ⟨hx, hb, hml, hown, fun w h => hts w (hv_X12_share w h)⟩ (mX12_share l D T hm am v (xs (ix (i + 1))) (xs (ix (i + 2))) y hy) (cwV 2 (fun w h => hts w (hv_X12_share w h)) gT_X12_share rfl rfl rfl (by decide +kernel) ⟨Nat.le_of_ble_eq_true rfl, Nat.le_of_ble_eq_true rfl⟩) (recM hK hP) (P_right hP) hK rfl hl.1 rfl (Nat.le_of_ble_eq_true rfl) dL_law_737 ⟨Nat.le_of_ble_eq_true rfl, Nat.le_of_ble_eq_true rfl⟩ hP hS (fun H locs hP hS => ?_)
  refine lv_icmp_eq (tgt := 1070) hx hb dL_law_740 (by decide) (fun _ => ?_) (fun c9 => absurd he c9)
  exact kk a aa g w v _ _ ls hR hP hD hS hl
set_option maxHeartbeats 4000000 in
set_option maxRecDepth 100000 in
theorem lc_stones {p : Program} {e : Env} {s : State} {m : MethodId} {below : List Frame} {meth : Method} {c : Code} (l : Launch) {b L : Nat} {xs : Nat → Int32} {D : va_G} {T : Ty3} {kv : (Nat → Nat) × (Nat → Nat)} (hL : L ≤ 3072) (hx : p.tables.exec = Jvm.exec) (hb : c.code = cL_law) (hml : c.maxLocals = 4) (hown : s.vm.findClass RL = some m.cls) (hts : ∀ w ∈ lw_tbl, w.before #[Value.ref b] s = true) (hX : va_X b L xs s s.heap) (hbl : b < s.heap.size) (hK : cK D T s) (hE : sK (fun q : Nat => s.heap.size ≤ q) kv s s.heap) {i : Int32} {j : Nat} (hi : i = nI j) (hj : j + 6 ≤ L) {h hm : Nat} {a am : Nat → Nat} {aa : Nat → Nat → Nat} {g : Nat → St} {w : Nat → Int64} {v : St} {H : Heap} {locs : List Loc} {ls : Array Slot} (hRel : Rel g v) (hP : va_P D vwCl (WG T h a aa g w ++ kX12 T hm am v) H) (hD : va_D (fun q : Nat => s.heap.size ≤ q) (WG T h a aa g w ++ kX12 T hm am v)) (hS : va_S (fun q : Nat => s.heap.size ≤ q) s.heap H locs) (hl : lv_has ls 4 [(0, .ref b), (1, .ref h), (2, .ref hm), (3, .int i)]) (kk : ∀ (a' : Nat → Nat) (aa' : Nat → Nat → Nat) (g' : Nat → St) (w' : Nat → Int64) (v' : St) (H' : Heap) (locs' : List Loc) (ls' : Array Slot), Rel g' v' → va_P D vwCl (WG T h a' aa' g' w' ++ kX12 T hm am v') H' → va_D (fun q : Nat => s.heap.size ≤ q) (WG T h a' aa' g' w' ++ kX12 T hm am v') → va_S (fun q : Nat => s.heap.size ≤ q) s.heap H' locs' → lv_has ls' 4 [(0, .ref b), (1, .ref h), (2, .ref hm), (3, .int i)] → W p l e room_1 s m #[Value.ref b] below meth c H' locs' 96 13112 (lw_Z below #[Value.ref b] s) (F0 m 1070 ls' [])) : W p l e room_1 s m #[Value.ref b] below meth c H locs 96 13112 (lw_Z below #[Value.ref b] s) (F0 m 745 ls []) := by
  have hA : ∀ q : Nat, s.heap.size ≤ q → (fun q : Nat => s.heap.size ≤ q) q := fun _ h => h
  have hbA : ¬ (fun q : Nat => s.heap.size ≤ q) b := Nat.not_le.mpr hbl
  have hq1 : vp_in (i + 1) L := by rw [hi, show (1 : Int32) = nI 1 from rfl, nI_add]; exact vp_in_nI (by omega) (by omega)
  have hq2 : vp_in (i + 2) L := by rw [hi, show (2 : Int32) = nI 2 from rfl, nI_add]; exact vp_in_nI (by omega) (by omega)
  refine lv_aload_n hx hb dL_law_745 rfl (lv_at hl 1 rfl) ?_
  refine lv_aload_n hx hb dL_law_746 rfl (lv_at hl 0 rfl) ?_
  refine lv_iload_n hx hb dL_law_747 rfl (lv_at hl 3 rfl) ?_
  refine lv_iconst (v := 1) hx hb dL_law_748 (by decide) ?_
  refine lv_iadd hx hb dL_law_749 ?_
  refine va_sld hx hb hX hbl hbA hS hq1 dL_law_750 ?_
  refine lv_aload_n hx hb dL_law_751 rfl (lv_at hl 0 rfl) ?_
  refine lv_iload_n hx hb dL_law_752 rfl (lv_at hl 3 rfl) ?_
  refine lv_iconst (v := 2) hx hb dL_law_753 (by decide) ?_
  refine lv_iadd hx hb dL_law_754 ?_
  refine va_sld hx hb hX hbl hbA hS hq2 dL_law_755 ?_
  refine lv_if_eq (tgt := 763) hx hb dL_law_756 (by decide) (fun cb => ?_) (fun cb => ?_)
  · refine lv_iconst (v := 0) hx hb dL_law_763 (by decide) ?_
    obtain ⟨z, y, hz, hy, he, hR⟩ := eq_stones g w v hRel (xs (ix (i + 1))) 0 (Or.inl rfl)
    have hFc9 := free_left hD hS hA
    refine cVM (As := [.int (xs (ix (i + 1))), .int 0]) (rest := []) ⟨hx, hb, hml, hown, fun w h => hts w (hv_X11_stones w h)⟩ (mX11_stones l D T aa h a (g 0) (g 1) (g 2) (g 3) (g 4) (g 5) (g 6) (g 7) (g 8) (g 9) (g 10) (g 11) w (g 13) (g 14) (g 15) (g 16) _ (xs (ix (i + 1))) 0 z hz) (cwV 2 (fun w h => hts w (hv_X11_stones w h)) gT_X11_stones rfl rfl rfl (by decide +kernel) ⟨Nat.le_of_ble_eq_true rfl, Nat.le_of_ble_eq_true rfl⟩) (va_recv hK.1 (P_left hP) (ci := 11) (q0 := 0) rfl rfl) (P_left hP) hK rfl hl.1 rfl (Nat.le_of_ble_eq_true rfl) dL_law_764 ⟨Nat.le_of_ble_eq_true rfl, Nat.le_of_ble_eq_true rfl⟩ (D_left hD) hFc9 hS (fun H9 locs hP1 hD1 hk1 hS => ?_)
    obtain ⟨hP, hD⟩ := join_left hP hD hk1 hFc9 hP1 hD1
    generalize H9 = H at hP hS ⊢
    have hP : va_P D vwCl (WG T h a aa (sg (sg g 1 z.2.1) 11 z.2.2.1) z.2.2.2 ++ kX12 T hm am v) H := hP
    have hD : va_D (fun q : Nat => s.heap.size ≤ q) (WG T h a aa (sg (sg g 1 z.2.1) 11 z.2.2.1) z.2.2.2 ++ kX12 T hm am v) := hD
    refine lv_aload_n hx hb dL_law_767 rfl (lv_at hl 2 rfl) ?_
    refine lv_aload_n hx hb dL_law_768 rfl (lv_at hl 0 rfl) ?_
    refine lv_iload_n hx hb dL_law_769 rfl (lv_at hl 3 rfl) ?_
    refine lv_iconst (v := 1) hx hb dL_law_770 (by decide) ?_
    refine lv_iadd hx hb dL_law_771 ?_
    refine va_sld hx hb hX hbl hbA hS hq1 dL_law_772 ?_
    refine lv_aload_n hx hb dL_law_773 rfl (lv_at hl 0 rfl) ?_
    refine lv_iload_n hx hb dL_law_774 rfl (lv_at hl 3 rfl) ?_
    refine lv_iconst (v := 2) hx hb dL_law_775 (by decide) ?_
    refine lv_iadd hx hb dL_law_776 ?_
    refine va_sld hx hb hX hbl hbA hS hq2 dL_law_777 ?_
    refine lv_if_eq (tgt := 785) hx hb dL_law_778 (by decide) (fun _ => ?_) (fun c9 => absurd cb c9)
    refine lv_iconst (v := 0) hx hb dL_law_785 (by decide) ?_
    have hFc9 := free_right hD hS hA
    refine cVM (As := [.int (xs (ix (i + 1))), .int 0]) (rest := [.int z.1]) ⟨hx, hb, hml, hown, fun w h => hts w (hv_X12_stones w h)⟩ (mX12_stones l D T hm am v _ (xs (ix (i + 1))) 0 y hy) (cwV 2 (fun w h => hts w (hv_X12_stones w h)) gT_X12_stones rfl rfl rfl (by decide +kernel) ⟨Nat.le_of_ble_eq_true rfl, Nat.le_of_ble_eq_true rfl⟩) (recM hK hP) (P_right hP) hK rfl hl.1 rfl (Nat.le_of_ble_eq_true rfl) dL_law_786 ⟨Nat.le_of_ble_eq_true rfl, Nat.le_of_ble_eq_true rfl⟩ (D_right hD) hFc9 hS (fun H9 locs hP1 hD1 hk1 hS => ?_)
    obtain ⟨hP, hD⟩ := join_right hP hD hk1 hFc9 hP1 hD1
    generalize H9 = H at hP hS ⊢
    refine lv_icmp_eq (tgt := 1070) hx hb dL_law_789 (by decide) (fun _ => ?_) (fun c9 => absurd he c9)
    exact kk a aa (sg (sg g 1 z.2.1) 11 z.2.2.1) z.2.2.2 y.2 _ _ ls hR hP hD hS hl
  refine lv_iconst (v := 1) hx hb dL_law_759 (by decide) ?_
  refine lv_goto (tgt := 764) hx hb dL_law_760 (by decide) ?_
  obtain ⟨z, y, hz, hy, he, hR⟩ := eq_stones g w v hRel (xs (ix (i + 1))) 1 (Or.inr rfl)
  have hFc9 := free_left hD hS hA
  refine cVM (As := [.int (xs (ix (i + 1))), .int 1]) (rest := []) ⟨hx, hb, hml, hown, fun w h => hts w (hv_X11_stones w h)⟩ (mX11_stones l D T aa h a (g 0) (g 1) (g 2) (g 3) (g 4) (g 5) (g 6) (g 7) (g 8) (g 9) (g 10) (g 11) w (g 13) (g 14) (g 15) (g 16) _ (xs (ix (i + 1))) 1 z hz) (cwV 2 (fun w h => hts w (hv_X11_stones w h)) gT_X11_stones rfl rfl rfl (by decide +kernel) ⟨Nat.le_of_ble_eq_true rfl, Nat.le_of_ble_eq_true rfl⟩) (va_recv hK.1 (P_left hP) (ci := 11) (q0 := 0) rfl rfl) (P_left hP) hK rfl hl.1 rfl (Nat.le_of_ble_eq_true rfl) dL_law_764 ⟨Nat.le_of_ble_eq_true rfl, Nat.le_of_ble_eq_true rfl⟩ (D_left hD) hFc9 hS (fun H9 locs hP1 hD1 hk1 hS => ?_)
  obtain ⟨hP, hD⟩ := join_left hP hD hk1 hFc9 hP1 hD1
  generalize H9 = H at hP hS ⊢
  have hP : va_P D vwCl (WG T h a aa (sg (sg g 1 z.2.1) 11 z.2.2.1) z.2.2.2 ++ kX12 T hm am v) H := hP
  have hD : va_D (fun q : Nat => s.heap.size ≤ q) (WG T h a aa (sg (sg g 1 z.2.1) 11 z.2.2.1) z.2.2.2 ++ kX12 T hm am v) := hD
  refine lv_aload_n hx hb dL_law_767 rfl (lv_at hl 2 rfl) ?_
  refine lv_aload_n hx hb dL_law_768 rfl (lv_at hl 0 rfl) ?_
  refine lv_iload_n hx hb dL_law_769 rfl (lv_at hl 3 rfl) ?_
  refine lv_iconst (v := 1) hx hb dL_law_770 (by decide) ?_
  refine lv_iadd hx hb dL_law_771 ?_
  refine va_sld hx hb hX hbl hbA hS hq1 dL_law_772 ?_
  refine lv_aload_n hx hb dL_law_773 rfl (lv_at hl 0 rfl) ?_
  refine lv_iload_n hx hb dL_law_774 rfl (lv_at hl 3 rfl) ?_
  refine lv_iconst (v := 2) hx hb dL_law_775 (by decide) ?_
  refine lv_iadd hx hb dL_law_776 ?_
  refine va_sld hx hb hX hbl hbA hS hq2 dL_law_777 ?_
  refine lv_if_eq (tgt := 785) hx hb dL_law_778 (by decide) (fun c9 => absurd c9 cb) (fun _ => ?_)
  refine lv_iconst (v := 1) hx hb dL_law_781 (by decide) ?_
  refine lv_goto (tgt := 786) hx hb dL_law_782 (by decide) ?_
  have hFc9 := free_right hD hS hA
  refine cVM (As := [.int (xs (ix (i + 1))), .int 1]) (rest := [.int z.1]) ⟨hx, hb, hml, hown, fun w h => hts w (hv_X12_stones w h)⟩ (mX12_stones l D T hm am v _ (xs (ix (i + 1))) 1 y hy) (cwV 2 (fun w h => hts w (hv_X12_stones w h)) gT_X12_stones rfl rfl rfl (by decide +kernel) ⟨Nat.le_of_ble_eq_true rfl, Nat.le_of_ble_eq_true rfl⟩) (recM hK hP) (P_right hP) hK rfl hl.1 rfl (Nat.le_of_ble_eq_true rfl) dL_law_786 ⟨Nat.le_of_ble_eq_true rfl, Nat.le_of_ble_eq_true rfl⟩ (D_right hD) hFc9 hS (fun H9 locs hP1 hD1 hk1 hS => ?_)
  obtain ⟨hP, hD⟩ := join_right hP hD hk1 hFc9 hP1 hD1
  generalize H9 = H at hP hS ⊢
  refine lv_icmp_eq (tgt := 1070) hx hb dL_law_789 (by decide) (fun _ => ?_) (fun c9 => absurd he c9)
  exact kk a aa (sg (sg g 1 z.2.1) 11 z.2.2.1) z.2.2.2 y.2 _ _ ls hR hP hD hS hl
set_option maxHeartbeats 4000000 in
set_option maxRecDepth 100000 in
theorem lc_fewest {p : Program} {e : Env} {s : State} {m : MethodId} {below : List Frame} {meth : Method} {c : Code} (l : Launch) {b L : Nat} {xs : Nat → Int32} {D : va_G} {T : Ty3} {kv : (Nat → Nat) × (Nat → Nat)} (hL : L ≤ 3072) (hx : p.tables.exec = Jvm.exec) (hb : c.code = cL_law) (hml : c.maxLocals = 4) (hown : s.vm.findClass RL = some m.cls) (hts : ∀ w ∈ lw_tbl, w.before #[Value.ref b] s = true) (hX : va_X b L xs s s.heap) (hbl : b < s.heap.size) (hK : cK D T s) (hE : sK (fun q : Nat => s.heap.size ≤ q) kv s s.heap) {i : Int32} {j : Nat} (hi : i = nI j) (hj : j + 6 ≤ L) {h hm : Nat} {a am : Nat → Nat} {aa : Nat → Nat → Nat} {g : Nat → St} {w : Nat → Int64} {v : St} {H : Heap} {locs : List Loc} {ls : Array Slot} (hRel : Rel g v) (hP : va_P D vwCl (WG T h a aa g w ++ kX12 T hm am v) H) (hD : va_D (fun q : Nat => s.heap.size ≤ q) (WG T h a aa g w ++ kX12 T hm am v)) (hS : va_S (fun q : Nat => s.heap.size ≤ q) s.heap H locs) (hl : lv_has ls 4 [(0, .ref b), (1, .ref h), (2, .ref hm), (3, .int i)]) (kk : ∀ (a' : Nat → Nat) (aa' : Nat → Nat → Nat) (g' : Nat → St) (w' : Nat → Int64) (v' : St) (H' : Heap) (locs' : List Loc) (ls' : Array Slot), Rel g' v' → va_P D vwCl (WG T h a' aa' g' w' ++ kX12 T hm am v') H' → va_D (fun q : Nat => s.heap.size ≤ q) (WG T h a' aa' g' w' ++ kX12 T hm am v') → va_S (fun q : Nat => s.heap.size ≤ q) s.heap H' locs' → lv_has ls' 4 [(0, .ref b), (1, .ref h), (2, .ref hm), (3, .int i)] → W p l e room_1 s m #[Value.ref b] below meth c H' locs' 96 13112 (lw_Z below #[Value.ref b] s) (F0 m 1070 ls' [])) : W p l e room_1 s m #[Value.ref b] below meth c H locs 96 13112 (lw_Z below #[Value.ref b] s) (F0 m 794 ls []) := by
  have hA : ∀ q : Nat, s.heap.size ≤ q → (fun q : Nat => s.heap.size ≤ q) q := fun _ h => h
  have hbA : ¬ (fun q : Nat => s.heap.size ≤ q) b := Nat.not_le.mpr hbl
  have hq1 : vp_in (i + 1) L := by rw [hi, show (1 : Int32) = nI 1 from rfl, nI_add]; exact vp_in_nI (by omega) (by omega)
  have hq2 : vp_in (i + 2) L := by rw [hi, show (2 : Int32) = nI 2 from rfl, nI_add]; exact vp_in_nI (by omega) (by omega)
  refine lv_aload_n hx hb dL_law_794 rfl (lv_at hl 1 rfl) ?_
  refine lv_aload_n hx hb dL_law_795 rfl (lv_at hl 0 rfl) ?_
  refine lv_iload_n hx hb dL_law_796 rfl (lv_at hl 3 rfl) ?_
  refine lv_iconst (v := 1) hx hb dL_law_797 (by decide) ?_
  refine lv_iadd hx hb dL_law_798 ?_
  refine va_sld hx hb hX hbl hbA hS hq1 dL_law_799 ?_
  refine lv_aload_n hx hb dL_law_800 rfl (lv_at hl 0 rfl) ?_
  refine lv_iload_n hx hb dL_law_801 rfl (lv_at hl 3 rfl) ?_
  refine lv_iconst (v := 2) hx hb dL_law_802 (by decide) ?_
  refine lv_iadd hx hb dL_law_803 ?_
  refine va_sld hx hb hX hbl hbA hS hq2 dL_law_804 ?_
  obtain ⟨z, y, hz, hy, he, hR⟩ := eq_fewest g w v hRel (xs (ix (i + 1))) (xs (ix (i + 2))) 
  have hFc9 := free_left hD hS hA
  refine cVM (As := [.int (xs (ix (i + 1))), .int (xs (ix (i + 2)))]) (rest := []) ⟨hx, hb, hml, hown, fun w h => hts w (hv_X11_fewest w h)⟩ (mX11_fewest l D T aa h a (g 0) (g 1) (g 2) (g 3) (g 4) (g 5) (g 6) (g 7) (g 8) (g 9) (g 10) (g 11) w (g 13) (g 14) (g 15) (g 16) _ (xs (ix (i + 1))) (xs (ix (i + 2))) z hz) (cwV 2 (fun w h => hts w (hv_X11_fewest w h)) gT_X11_fewest rfl rfl rfl (by decide +kernel) ⟨Nat.le_of_ble_eq_true rfl, Nat.le_of_ble_eq_true rfl⟩) (va_recv hK.1 (P_left hP) (ci := 11) (q0 := 0) rfl rfl) (P_left hP) hK rfl hl.1 rfl (Nat.le_of_ble_eq_true rfl) dL_law_805 ⟨Nat.le_of_ble_eq_true rfl, Nat.le_of_ble_eq_true rfl⟩ (D_left hD) hFc9 hS (fun H9 locs hP1 hD1 hk1 hS => ?_)
  obtain ⟨hP, hD⟩ := join_left hP hD hk1 hFc9 hP1 hD1
  generalize H9 = H at hP hS ⊢
  have hP : va_P D vwCl (WG T h a aa (sg (sg g 1 z.2.1) 11 z.2.2) w ++ kX12 T hm am v) H := hP
  have hD : va_D (fun q : Nat => s.heap.size ≤ q) (WG T h a aa (sg (sg g 1 z.2.1) 11 z.2.2) w ++ kX12 T hm am v) := hD
  refine lv_aload_n hx hb dL_law_808 rfl (lv_at hl 2 rfl) ?_
  refine lv_aload_n hx hb dL_law_809 rfl (lv_at hl 0 rfl) ?_
  refine lv_iload_n hx hb dL_law_810 rfl (lv_at hl 3 rfl) ?_
  refine lv_iconst (v := 1) hx hb dL_law_811 (by decide) ?_
  refine lv_iadd hx hb dL_law_812 ?_
  refine va_sld hx hb hX hbl hbA hS hq1 dL_law_813 ?_
  refine lv_aload_n hx hb dL_law_814 rfl (lv_at hl 0 rfl) ?_
  refine lv_iload_n hx hb dL_law_815 rfl (lv_at hl 3 rfl) ?_
  refine lv_iconst (v := 2) hx hb dL_law_816 (by decide) ?_
  refine lv_iadd hx hb dL_law_817 ?_
  refine va_sld hx hb hX hbl hbA hS hq2 dL_law_818 ?_
  have hFc9 := free_right hD hS hA
  refine cVM (As := [.int (xs (ix (i + 1))), .int (xs (ix (i + 2)))]) (rest := [.int z.1]) ⟨hx, hb, hml, hown, fun w h => hts w (hv_X12_fewest w h)⟩ (mX12_fewest l D T hm am v _ (xs (ix (i + 1))) (xs (ix (i + 2))) y hy) (cwV 2 (fun w h => hts w (hv_X12_fewest w h)) gT_X12_fewest rfl rfl rfl (by decide +kernel) ⟨Nat.le_of_ble_eq_true rfl, Nat.le_of_ble_eq_true rfl⟩) (recM hK hP) (P_right hP) hK rfl hl.1 rfl (Nat.le_of_ble_eq_true rfl) dL_law_819 ⟨Nat.le_of_ble_eq_true rfl, Nat.le_of_ble_eq_true rfl⟩ (D_right hD) hFc9 hS (fun H9 locs hP1 hD1 hk1 hS => ?_)
  obtain ⟨hP, hD⟩ := join_right hP hD hk1 hFc9 hP1 hD1
  generalize H9 = H at hP hS ⊢
  refine lv_icmp_eq (tgt := 1070) hx hb dL_law_822 (by decide) (fun _ => ?_) (fun c9 => absurd he c9)
  exact kk a aa (sg (sg g 1 z.2.1) 11 z.2.2) w y.2 _ _ ls hR hP hD hS hl
set_option maxHeartbeats 4000000 in
set_option maxRecDepth 100000 in
theorem lc_seesaw {p : Program} {e : Env} {s : State} {m : MethodId} {below : List Frame} {meth : Method} {c : Code} (l : Launch) {b L : Nat} {xs : Nat → Int32} {D : va_G} {T : Ty3} {kv : (Nat → Nat) × (Nat → Nat)} (hL : L ≤ 3072) (hx : p.tables.exec = Jvm.exec) (hb : c.code = cL_law) (hml : c.maxLocals = 4) (hown : s.vm.findClass RL = some m.cls) (hts : ∀ w ∈ lw_tbl, w.before #[Value.ref b] s = true) (hX : va_X b L xs s s.heap) (hbl : b < s.heap.size) (hK : cK D T s) (hE : sK (fun q : Nat => s.heap.size ≤ q) kv s s.heap) {i : Int32} {j : Nat} (hi : i = nI j) (hj : j + 6 ≤ L) {h hm : Nat} {a am : Nat → Nat} {aa : Nat → Nat → Nat} {g : Nat → St} {w : Nat → Int64} {v : St} {H : Heap} {locs : List Loc} {ls : Array Slot} (hRel : Rel g v) (hP : va_P D vwCl (WG T h a aa g w ++ kX12 T hm am v) H) (hD : va_D (fun q : Nat => s.heap.size ≤ q) (WG T h a aa g w ++ kX12 T hm am v)) (hS : va_S (fun q : Nat => s.heap.size ≤ q) s.heap H locs) (hl : lv_has ls 4 [(0, .ref b), (1, .ref h), (2, .ref hm), (3, .int i)]) (kk : ∀ (a' : Nat → Nat) (aa' : Nat → Nat → Nat) (g' : Nat → St) (w' : Nat → Int64) (v' : St) (H' : Heap) (locs' : List Loc) (ls' : Array Slot), Rel g' v' → va_P D vwCl (WG T h a' aa' g' w' ++ kX12 T hm am v') H' → va_D (fun q : Nat => s.heap.size ≤ q) (WG T h a' aa' g' w' ++ kX12 T hm am v') → va_S (fun q : Nat => s.heap.size ≤ q) s.heap H' locs' → lv_has ls' 4 [(0, .ref b), (1, .ref h), (2, .ref hm), (3, .int i)] → W p l e room_1 s m #[Value.ref b] below meth c H' locs' 96 13112 (lw_Z below #[Value.ref b] s) (F0 m 1070 ls' [])) : W p l e room_1 s m #[Value.ref b] below meth c H locs 96 13112 (lw_Z below #[Value.ref b] s) (F0 m 827 ls []) := by
  have hA : ∀ q : Nat, s.heap.size ≤ q → (fun q : Nat => s.heap.size ≤ q) q := fun _ h => h
  have hbA : ¬ (fun q : Nat => s.heap.size ≤ q) b := Nat.not_le.mpr hbl
  have hq1 : vp_in (i + 1) L := by rw [hi, show (1 : Int32) = nI 1 from rfl, nI_add]; exact vp_in_nI (by omega) (by omega)
  refine lv_aload_n hx hb dL_law_827 rfl (lv_at hl 1 rfl) ?_
  refine lv_aload_n hx hb dL_law_828 rfl (lv_at hl 0 rfl) ?_
  refine lv_iload_n hx hb dL_law_829 rfl (lv_at hl 3 rfl) ?_
  refine lv_iconst (v := 1) hx hb dL_law_830 (by decide) ?_
  refine lv_iadd hx hb dL_law_831 ?_
  refine va_sld hx hb hX hbl hbA hS hq1 dL_law_832 ?_
  obtain ⟨z, y, hz, hy, he, hR⟩ := eq_seesaw g w v hRel (xs (ix (i + 1))) 
  have hFc9 := free_left hD hS hA
  refine cVM (As := [.int (xs (ix (i + 1)))]) (rest := []) ⟨hx, hb, hml, hown, fun w h => hts w (hv_X11_seesaw w h)⟩ (mX11_seesaw l D T aa h a (g 0) (g 1) (g 2) (g 3) (g 4) (g 5) (g 6) (g 7) (g 8) (g 9) (g 10) (g 11) w (g 13) (g 14) (g 15) (g 16) _ (xs (ix (i + 1))) z hz) (cwV 1 (fun w h => hts w (hv_X11_seesaw w h)) gT_X11_seesaw rfl rfl rfl (by decide +kernel) ⟨Nat.le_of_ble_eq_true rfl, Nat.le_of_ble_eq_true rfl⟩) (va_recv hK.1 (P_left hP) (ci := 11) (q0 := 0) rfl rfl) (P_left hP) hK rfl hl.1 rfl (Nat.le_of_ble_eq_true rfl) dL_law_833 ⟨Nat.le_of_ble_eq_true rfl, Nat.le_of_ble_eq_true rfl⟩ (D_left hD) hFc9 hS (fun H9 locs hP1 hD1 hk1 hS => ?_)
  obtain ⟨hP, hD⟩ := join_left hP hD hk1 hFc9 hP1 hD1
  generalize H9 = H at hP hS ⊢
  have hP : va_P D vwCl (WG T h a aa (sg (sg g 1 z.2.1) 11 z.2.2) w ++ kX12 T hm am v) H := hP
  have hD : va_D (fun q : Nat => s.heap.size ≤ q) (WG T h a aa (sg (sg g 1 z.2.1) 11 z.2.2) w ++ kX12 T hm am v) := hD
  refine lv_aload_n hx hb dL_law_836 rfl (lv_at hl 2 rfl) ?_
  refine lv_aload_n hx hb dL_law_837 rfl (lv_at hl 0 rfl) ?_
  refine lv_iload_n hx hb dL_law_838 rfl (lv_at hl 3 rfl) ?_
  refine lv_iconst (v := 1) hx hb dL_law_839 (by decide) ?_
  refine lv_iadd hx hb dL_law_840 ?_
  refine va_sld hx hb hX hbl hbA hS hq1 dL_law_841 ?_
  have hFc9 := free_right hD hS hA
  refine cVM (As := [.int (xs (ix (i + 1)))]) (rest := [.int z.1]) ⟨hx, hb, hml, hown, fun w h => hts w (hv_X12_seesaw w h)⟩ (mX12_seesaw l D T hm am v _ (xs (ix (i + 1))) y hy) (cwV 1 (fun w h => hts w (hv_X12_seesaw w h)) gT_X12_seesaw rfl rfl rfl (by decide +kernel) ⟨Nat.le_of_ble_eq_true rfl, Nat.le_of_ble_eq_true rfl⟩) (recM hK hP) (P_right hP) hK rfl hl.1 rfl (Nat.le_of_ble_eq_true rfl) dL_law_842 ⟨Nat.le_of_ble_eq_true rfl, Nat.le_of_ble_eq_true rfl⟩ (D_right hD) hFc9 hS (fun H9 locs hP1 hD1 hk1 hS => ?_)
  obtain ⟨hP, hD⟩ := join_right hP hD hk1 hFc9 hP1 hD1
  generalize H9 = H at hP hS ⊢
  refine lv_icmp_eq (tgt := 1070) hx hb dL_law_845 (by decide) (fun _ => ?_) (fun c9 => absurd he c9)
  exact kk a aa (sg (sg g 1 z.2.1) 11 z.2.2) w y.2 _ _ ls hR hP hD hS hl
set_option maxHeartbeats 4000000 in
set_option maxRecDepth 100000 in
theorem lc_row {p : Program} {e : Env} {s : State} {m : MethodId} {below : List Frame} {meth : Method} {c : Code} (l : Launch) {b L : Nat} {xs : Nat → Int32} {D : va_G} {T : Ty3} {kv : (Nat → Nat) × (Nat → Nat)} (hL : L ≤ 3072) (hx : p.tables.exec = Jvm.exec) (hb : c.code = cL_law) (hml : c.maxLocals = 4) (hown : s.vm.findClass RL = some m.cls) (hts : ∀ w ∈ lw_tbl, w.before #[Value.ref b] s = true) (hX : va_X b L xs s s.heap) (hbl : b < s.heap.size) (hK : cK D T s) (hE : sK (fun q : Nat => s.heap.size ≤ q) kv s s.heap) {i : Int32} {j : Nat} (hi : i = nI j) (hj : j + 6 ≤ L) {h hm : Nat} {a am : Nat → Nat} {aa : Nat → Nat → Nat} {g : Nat → St} {w : Nat → Int64} {v : St} {H : Heap} {locs : List Loc} {ls : Array Slot} (hRel : Rel g v) (hP : va_P D vwCl (WG T h a aa g w ++ kX12 T hm am v) H) (hD : va_D (fun q : Nat => s.heap.size ≤ q) (WG T h a aa g w ++ kX12 T hm am v)) (hS : va_S (fun q : Nat => s.heap.size ≤ q) s.heap H locs) (hl : lv_has ls 4 [(0, .ref b), (1, .ref h), (2, .ref hm), (3, .int i)]) (kk : ∀ (a' : Nat → Nat) (aa' : Nat → Nat → Nat) (g' : Nat → St) (w' : Nat → Int64) (v' : St) (H' : Heap) (locs' : List Loc) (ls' : Array Slot), Rel g' v' → va_P D vwCl (WG T h a' aa' g' w' ++ kX12 T hm am v') H' → va_D (fun q : Nat => s.heap.size ≤ q) (WG T h a' aa' g' w' ++ kX12 T hm am v') → va_S (fun q : Nat => s.heap.size ≤ q) s.heap H' locs' → lv_has ls' 4 [(0, .ref b), (1, .ref h), (2, .ref hm), (3, .int i)] → W p l e room_1 s m #[Value.ref b] below meth c H' locs' 96 13112 (lw_Z below #[Value.ref b] s) (F0 m 1070 ls' [])) : W p l e room_1 s m #[Value.ref b] below meth c H locs 96 13112 (lw_Z below #[Value.ref b] s) (F0 m 850 ls []) := by
  have hA : ∀ q : Nat, s.heap.size ≤ q → (fun q : Nat => s.heap.size ≤ q) q := fun _ h => h
  have hbA : ¬ (fun q : Nat => s.heap.size ≤ q) b := Nat.not_le.mpr hbl
  have hq1 : vp_in (i + 1) L := by rw [hi, show (1 : Int32) = nI 1 from rfl, nI_add]; exact vp_in_nI (by omega) (by omega)
  have hq2 : vp_in (i + 2) L := by rw [hi, show (2 : Int32) = nI 2 from rfl, nI_add]; exact vp_in_nI (by omega) (by omega)
  refine lv_aload_n hx hb dL_law_850 rfl (lv_at hl 1 rfl) ?_
  refine lv_aload_n hx hb dL_law_851 rfl (lv_at hl 0 rfl) ?_
  refine lv_iload_n hx hb dL_law_852 rfl (lv_at hl 3 rfl) ?_
  refine lv_iconst (v := 1) hx hb dL_law_853 (by decide) ?_
  refine lv_iadd hx hb dL_law_854 ?_
  refine va_sld hx hb hX hbl hbA hS hq1 dL_law_855 ?_
  refine lv_aload_n hx hb dL_law_856 rfl (lv_at hl 0 rfl) ?_
  refine lv_iload_n hx hb dL_law_857 rfl (lv_at hl 3 rfl) ?_
  refine lv_iconst (v := 2) hx hb dL_law_858 (by decide) ?_
  refine lv_iadd hx hb dL_law_859 ?_
  refine va_sld hx hb hX hbl hbA hS hq2 dL_law_860 ?_
  obtain ⟨z, y, hz, hy, he, hR⟩ := eq_row g w v hRel (xs (ix (i + 1))) (xs (ix (i + 2))) 
  have hFc9 := free_left hD hS hA
  refine cVM (As := [.int (xs (ix (i + 1))), .int (xs (ix (i + 2)))]) (rest := []) ⟨hx, hb, hml, hown, fun w h => hts w (hv_X11_row w h)⟩ (mX11_row l D T aa h a (g 0) (g 1) (g 2) (g 3) (g 4) (g 5) (g 6) (g 7) (g 8) (g 9) (g 10) (g 11) w (g 13) (g 14) (g 15) (g 16) _ (xs (ix (i + 1))) (xs (ix (i + 2))) z hz) (cwV 2 (fun w h => hts w (hv_X11_row w h)) gT_X11_row rfl rfl rfl (by decide +kernel) ⟨Nat.le_of_ble_eq_true rfl, Nat.le_of_ble_eq_true rfl⟩) (va_recv hK.1 (P_left hP) (ci := 11) (q0 := 0) rfl rfl) (P_left hP) hK rfl hl.1 rfl (Nat.le_of_ble_eq_true rfl) dL_law_861 ⟨Nat.le_of_ble_eq_true rfl, Nat.le_of_ble_eq_true rfl⟩ (D_left hD) hFc9 hS (fun H9 locs hP1 hD1 hk1 hS => ?_)
  obtain ⟨hP, hD⟩ := join_left hP hD hk1 hFc9 hP1 hD1
  generalize H9 = H at hP hS ⊢
  have hP : va_P D vwCl (WG T h a aa (sg (sg g 1 z.2.1) 11 z.2.2) w ++ kX12 T hm am v) H := hP
  have hD : va_D (fun q : Nat => s.heap.size ≤ q) (WG T h a aa (sg (sg g 1 z.2.1) 11 z.2.2) w ++ kX12 T hm am v) := hD
  refine lv_aload_n hx hb dL_law_864 rfl (lv_at hl 2 rfl) ?_
  refine lv_aload_n hx hb dL_law_865 rfl (lv_at hl 0 rfl) ?_
  refine lv_iload_n hx hb dL_law_866 rfl (lv_at hl 3 rfl) ?_
  refine lv_iconst (v := 1) hx hb dL_law_867 (by decide) ?_
  refine lv_iadd hx hb dL_law_868 ?_
  refine va_sld hx hb hX hbl hbA hS hq1 dL_law_869 ?_
  refine lv_aload_n hx hb dL_law_870 rfl (lv_at hl 0 rfl) ?_
  refine lv_iload_n hx hb dL_law_871 rfl (lv_at hl 3 rfl) ?_
  refine lv_iconst (v := 2) hx hb dL_law_872 (by decide) ?_
  refine lv_iadd hx hb dL_law_873 ?_
  refine va_sld hx hb hX hbl hbA hS hq2 dL_law_874 ?_
  have hFc9 := free_right hD hS hA
  refine cVM (As := [.int (xs (ix (i + 1))), .int (xs (ix (i + 2)))]) (rest := [.int z.1]) ⟨hx, hb, hml, hown, fun w h => hts w (hv_X12_row w h)⟩ (mX12_row l D T hm am v _ (xs (ix (i + 1))) (xs (ix (i + 2))) y hy) (cwV 2 (fun w h => hts w (hv_X12_row w h)) gT_X12_row rfl rfl rfl (by decide +kernel) ⟨Nat.le_of_ble_eq_true rfl, Nat.le_of_ble_eq_true rfl⟩) (recM hK hP) (P_right hP) hK rfl hl.1 rfl (Nat.le_of_ble_eq_true rfl) dL_law_875 ⟨Nat.le_of_ble_eq_true rfl, Nat.le_of_ble_eq_true rfl⟩ (D_right hD) hFc9 hS (fun H9 locs hP1 hD1 hk1 hS => ?_)
  obtain ⟨hP, hD⟩ := join_right hP hD hk1 hFc9 hP1 hD1
  generalize H9 = H at hP hS ⊢
  refine lv_icmp_eq (tgt := 1070) hx hb dL_law_878 (by decide) (fun _ => ?_) (fun c9 => absurd he c9)
  exact kk a aa (sg (sg g 1 z.2.1) 11 z.2.2) w y.2 _ _ ls hR hP hD hS hl
set_option maxHeartbeats 4000000 in
set_option maxRecDepth 100000 in
theorem lc_falseOne {p : Program} {e : Env} {s : State} {m : MethodId} {below : List Frame} {meth : Method} {c : Code} (l : Launch) {b L : Nat} {xs : Nat → Int32} {D : va_G} {T : Ty3} {kv : (Nat → Nat) × (Nat → Nat)} (hL : L ≤ 3072) (hx : p.tables.exec = Jvm.exec) (hb : c.code = cL_law) (hml : c.maxLocals = 4) (hown : s.vm.findClass RL = some m.cls) (hts : ∀ w ∈ lw_tbl, w.before #[Value.ref b] s = true) (hX : va_X b L xs s s.heap) (hbl : b < s.heap.size) (hK : cK D T s) (hE : sK (fun q : Nat => s.heap.size ≤ q) kv s s.heap) {i : Int32} {j : Nat} (hi : i = nI j) (hj : j + 6 ≤ L) {h hm : Nat} {a am : Nat → Nat} {aa : Nat → Nat → Nat} {g : Nat → St} {w : Nat → Int64} {v : St} {H : Heap} {locs : List Loc} {ls : Array Slot} (hRel : Rel g v) (hP : va_P D vwCl (WG T h a aa g w ++ kX12 T hm am v) H) (hD : va_D (fun q : Nat => s.heap.size ≤ q) (WG T h a aa g w ++ kX12 T hm am v)) (hS : va_S (fun q : Nat => s.heap.size ≤ q) s.heap H locs) (hl : lv_has ls 4 [(0, .ref b), (1, .ref h), (2, .ref hm), (3, .int i)]) (kk : ∀ (a' : Nat → Nat) (aa' : Nat → Nat → Nat) (g' : Nat → St) (w' : Nat → Int64) (v' : St) (H' : Heap) (locs' : List Loc) (ls' : Array Slot), Rel g' v' → va_P D vwCl (WG T h a' aa' g' w' ++ kX12 T hm am v') H' → va_D (fun q : Nat => s.heap.size ≤ q) (WG T h a' aa' g' w' ++ kX12 T hm am v') → va_S (fun q : Nat => s.heap.size ≤ q) s.heap H' locs' → lv_has ls' 4 [(0, .ref b), (1, .ref h), (2, .ref hm), (3, .int i)] → W p l e room_1 s m #[Value.ref b] below meth c H' locs' 96 13112 (lw_Z below #[Value.ref b] s) (F0 m 1070 ls' [])) : W p l e room_1 s m #[Value.ref b] below meth c H locs 96 13112 (lw_Z below #[Value.ref b] s) (F0 m 883 ls []) := by
  have hA : ∀ q : Nat, s.heap.size ≤ q → (fun q : Nat => s.heap.size ≤ q) q := fun _ h => h
  have hbA : ¬ (fun q : Nat => s.heap.size ≤ q) b := Nat.not_le.mpr hbl
  have hq1 : vp_in (i + 1) L := by rw [hi, show (1 : Int32) = nI 1 from rfl, nI_add]; exact vp_in_nI (by omega) (by omega)
  have hq2 : vp_in (i + 2) L := by rw [hi, show (2 : Int32) = nI 2 from rfl, nI_add]; exact vp_in_nI (by omega) (by omega)
  refine lv_aload_n hx hb dL_law_883 rfl (lv_at hl 1 rfl) ?_
  refine lv_aload_n hx hb dL_law_884 rfl (lv_at hl 0 rfl) ?_
  refine lv_iload_n hx hb dL_law_885 rfl (lv_at hl 3 rfl) ?_
  refine lv_iconst (v := 1) hx hb dL_law_886 (by decide) ?_
  refine lv_iadd hx hb dL_law_887 ?_
  refine va_sld hx hb hX hbl hbA hS hq1 dL_law_888 ?_
  refine lv_aload_n hx hb dL_law_889 rfl (lv_at hl 0 rfl) ?_
  refine lv_iload_n hx hb dL_law_890 rfl (lv_at hl 3 rfl) ?_
  refine lv_iconst (v := 2) hx hb dL_law_891 (by decide) ?_
  refine lv_iadd hx hb dL_law_892 ?_
  refine va_sld hx hb hX hbl hbA hS hq2 dL_law_893 ?_
  refine lv_if_eq (tgt := 901) hx hb dL_law_894 (by decide) (fun cb => ?_) (fun cb => ?_)
  · refine lv_iconst (v := 0) hx hb dL_law_901 (by decide) ?_
    obtain ⟨z, y, hz, hy, he, hR⟩ := eq_falseOne g w v hRel (xs (ix (i + 1))) 0 (Or.inl rfl)
    refine cVR (As := [.int (xs (ix (i + 1))), .int 0]) (rest := []) ⟨hx, hb, hml, hown, fun w h => hts w (hv_X11_falseOne w h)⟩ (mX11_falseOne l D T aa h a (g 0) (g 1) (g 2) (g 3) (g 4) (g 5) (g 6) (g 7) (g 8) (g 9) (g 10) (g 11) w (g 13) (g 14) (g 15) (g 16) (xs (ix (i + 1))) 0 z hz) (cwV 2 (fun w h => hts w (hv_X11_falseOne w h)) gT_X11_falseOne rfl rfl rfl (by decide +kernel) ⟨Nat.le_of_ble_eq_true rfl, Nat.le_of_ble_eq_true rfl⟩) (va_recv hK.1 (P_left hP) (ci := 11) (q0 := 0) rfl rfl) (P_left hP) hK rfl hl.1 rfl (Nat.le_of_ble_eq_true rfl) dL_law_902 ⟨Nat.le_of_ble_eq_true rfl, Nat.le_of_ble_eq_true rfl⟩ hP hS (fun H locs hP hS => ?_)
    refine lv_aload_n hx hb dL_law_905 rfl (lv_at hl 2 rfl) ?_
    refine lv_aload_n hx hb dL_law_906 rfl (lv_at hl 0 rfl) ?_
    refine lv_iload_n hx hb dL_law_907 rfl (lv_at hl 3 rfl) ?_
    refine lv_iconst (v := 1) hx hb dL_law_908 (by decide) ?_
    refine lv_iadd hx hb dL_law_909 ?_
    refine va_sld hx hb hX hbl hbA hS hq1 dL_law_910 ?_
    refine lv_aload_n hx hb dL_law_911 rfl (lv_at hl 0 rfl) ?_
    refine lv_iload_n hx hb dL_law_912 rfl (lv_at hl 3 rfl) ?_
    refine lv_iconst (v := 2) hx hb dL_law_913 (by decide) ?_
    refine lv_iadd hx hb dL_law_914 ?_
    refine va_sld hx hb hX hbl hbA hS hq2 dL_law_915 ?_
    refine lv_if_eq (tgt := 923) hx hb dL_law_916 (by decide) (fun _ => ?_) (fun c9 => absurd cb c9)
    refine lv_iconst (v := 0) hx hb dL_law_923 (by decide) ?_
    refine cVR (As := [.int (xs (ix (i + 1))), .int 0]) (rest := [.int z]) ⟨hx, hb, hml, hown, fun w h => hts w (hv_X12_falseOne w h)⟩ (mX12_falseOne l D T hm am v (xs (ix (i + 1))) 0 y hy) (cwV 2 (fun w h => hts w (hv_X12_falseOne w h)) gT_X12_falseOne rfl rfl rfl (by decide +kernel) ⟨Nat.le_of_ble_eq_true rfl, Nat.le_of_ble_eq_true rfl⟩) (recM hK hP) (P_right hP) hK rfl hl.1 rfl (Nat.le_of_ble_eq_true rfl) dL_law_924 ⟨Nat.le_of_ble_eq_true rfl, Nat.le_of_ble_eq_true rfl⟩ hP hS (fun H locs hP hS => ?_)
    refine lv_icmp_eq (tgt := 1070) hx hb dL_law_927 (by decide) (fun _ => ?_) (fun c9 => absurd he c9)
    exact kk a aa g w v _ _ ls hR hP hD hS hl
  refine lv_iconst (v := 1) hx hb dL_law_897 (by decide) ?_
  refine lv_goto (tgt := 902) hx hb dL_law_898 (by decide) ?_
  obtain ⟨z, y, hz, hy, he, hR⟩ := eq_falseOne g w v hRel (xs (ix (i + 1))) 1 (Or.inr rfl)
  refine cVR (As := [.int (xs (ix (i + 1))), .int 1]) (rest := []) ⟨hx, hb, hml, hown, fun w h => hts w (hv_X11_falseOne w h)⟩ (mX11_falseOne l D T aa h a (g 0) (g 1) (g 2) (g 3) (g 4) (g 5) (g 6) (g 7) (g 8) (g 9) (g 10) (g 11) w (g 13) (g 14) (g 15) (g 16) (xs (ix (i + 1))) 1 z hz) (cwV 2 (fun w h => hts w (hv_X11_falseOne w h)) gT_X11_falseOne rfl rfl rfl (by decide +kernel) ⟨Nat.le_of_ble_eq_true rfl, Nat.le_of_ble_eq_true rfl⟩) (va_recv hK.1 (P_left hP) (ci := 11) (q0 := 0) rfl rfl) (P_left hP) hK rfl hl.1 rfl (Nat.le_of_ble_eq_true rfl) dL_law_902 ⟨Nat.le_of_ble_eq_true rfl, Nat.le_of_ble_eq_true rfl⟩ hP hS (fun H locs hP hS => ?_)
  refine lv_aload_n hx hb dL_law_905 rfl (lv_at hl 2 rfl) ?_
  refine lv_aload_n hx hb dL_law_906 rfl (lv_at hl 0 rfl) ?_
  refine lv_iload_n hx hb dL_law_907 rfl (lv_at hl 3 rfl) ?_
  refine lv_iconst (v := 1) hx hb dL_law_908 (by decide) ?_
  refine lv_iadd hx hb dL_law_909 ?_
  refine va_sld hx hb hX hbl hbA hS hq1 dL_law_910 ?_
  refine lv_aload_n hx hb dL_law_911 rfl (lv_at hl 0 rfl) ?_
  refine lv_iload_n hx hb dL_law_912 rfl (lv_at hl 3 rfl) ?_
  refine lv_iconst (v := 2) hx hb dL_law_913 (by decide) ?_
  refine lv_iadd hx hb dL_law_914 ?_
  refine va_sld hx hb hX hbl hbA hS hq2 dL_law_915 ?_
  refine lv_if_eq (tgt := 923) hx hb dL_law_916 (by decide) (fun c9 => absurd c9 cb) (fun _ => ?_)
  refine lv_iconst (v := 1) hx hb dL_law_919 (by decide) ?_
  refine lv_goto (tgt := 924) hx hb dL_law_920 (by decide) ?_
  refine cVR (As := [.int (xs (ix (i + 1))), .int 1]) (rest := [.int z]) ⟨hx, hb, hml, hown, fun w h => hts w (hv_X12_falseOne w h)⟩ (mX12_falseOne l D T hm am v (xs (ix (i + 1))) 1 y hy) (cwV 2 (fun w h => hts w (hv_X12_falseOne w h)) gT_X12_falseOne rfl rfl rfl (by decide +kernel) ⟨Nat.le_of_ble_eq_true rfl, Nat.le_of_ble_eq_true rfl⟩) (recM hK hP) (P_right hP) hK rfl hl.1 rfl (Nat.le_of_ble_eq_true rfl) dL_law_924 ⟨Nat.le_of_ble_eq_true rfl, Nat.le_of_ble_eq_true rfl⟩ hP hS (fun H locs hP hS => ?_)
  refine lv_icmp_eq (tgt := 1070) hx hb dL_law_927 (by decide) (fun _ => ?_) (fun c9 => absurd he c9)
  exact kk a aa g w v _ _ ls hR hP hD hS hl
set_option maxHeartbeats 4000000 in
set_option maxRecDepth 100000 in
theorem lc_scales {p : Program} {e : Env} {s : State} {m : MethodId} {below : List Frame} {meth : Method} {c : Code} (l : Launch) {b L : Nat} {xs : Nat → Int32} {D : va_G} {T : Ty3} {kv : (Nat → Nat) × (Nat → Nat)} (hL : L ≤ 3072) (hx : p.tables.exec = Jvm.exec) (hb : c.code = cL_law) (hml : c.maxLocals = 4) (hown : s.vm.findClass RL = some m.cls) (hts : ∀ w ∈ lw_tbl, w.before #[Value.ref b] s = true) (hX : va_X b L xs s s.heap) (hbl : b < s.heap.size) (hK : cK D T s) (hE : sK (fun q : Nat => s.heap.size ≤ q) kv s s.heap) {i : Int32} {j : Nat} (hi : i = nI j) (hj : j + 6 ≤ L) {h hm : Nat} {a am : Nat → Nat} {aa : Nat → Nat → Nat} {g : Nat → St} {w : Nat → Int64} {v : St} {H : Heap} {locs : List Loc} {ls : Array Slot} (hRel : Rel g v) (hP : va_P D vwCl (WG T h a aa g w ++ kX12 T hm am v) H) (hD : va_D (fun q : Nat => s.heap.size ≤ q) (WG T h a aa g w ++ kX12 T hm am v)) (hS : va_S (fun q : Nat => s.heap.size ≤ q) s.heap H locs) (hl : lv_has ls 4 [(0, .ref b), (1, .ref h), (2, .ref hm), (3, .int i)]) (kk : ∀ (a' : Nat → Nat) (aa' : Nat → Nat → Nat) (g' : Nat → St) (w' : Nat → Int64) (v' : St) (H' : Heap) (locs' : List Loc) (ls' : Array Slot), Rel g' v' → va_P D vwCl (WG T h a' aa' g' w' ++ kX12 T hm am v') H' → va_D (fun q : Nat => s.heap.size ≤ q) (WG T h a' aa' g' w' ++ kX12 T hm am v') → va_S (fun q : Nat => s.heap.size ≤ q) s.heap H' locs' → lv_has ls' 4 [(0, .ref b), (1, .ref h), (2, .ref hm), (3, .int i)] → W p l e room_1 s m #[Value.ref b] below meth c H' locs' 96 13112 (lw_Z below #[Value.ref b] s) (F0 m 1070 ls' [])) : W p l e room_1 s m #[Value.ref b] below meth c H locs 96 13112 (lw_Z below #[Value.ref b] s) (F0 m 932 ls []) := by
  have hA : ∀ q : Nat, s.heap.size ≤ q → (fun q : Nat => s.heap.size ≤ q) q := fun _ h => h
  have hbA : ¬ (fun q : Nat => s.heap.size ≤ q) b := Nat.not_le.mpr hbl
  have hq1 : vp_in (i + 1) L := by rw [hi, show (1 : Int32) = nI 1 from rfl, nI_add]; exact vp_in_nI (by omega) (by omega)
  have hq2 : vp_in (i + 2) L := by rw [hi, show (2 : Int32) = nI 2 from rfl, nI_add]; exact vp_in_nI (by omega) (by omega)
  have hq3 : vp_in (i + 3) L := by rw [hi, show (3 : Int32) = nI 3 from rfl, nI_add]; exact vp_in_nI (by omega) (by omega)
  refine lv_aload_n hx hb dL_law_932 rfl (lv_at hl 1 rfl) ?_
  refine lv_aload_n hx hb dL_law_933 rfl (lv_at hl 0 rfl) ?_
  refine lv_iload_n hx hb dL_law_934 rfl (lv_at hl 3 rfl) ?_
  refine lv_iconst (v := 1) hx hb dL_law_935 (by decide) ?_
  refine lv_iadd hx hb dL_law_936 ?_
  refine va_sld hx hb hX hbl hbA hS hq1 dL_law_937 ?_
  refine lv_aload_n hx hb dL_law_938 rfl (lv_at hl 0 rfl) ?_
  refine lv_iload_n hx hb dL_law_939 rfl (lv_at hl 3 rfl) ?_
  refine lv_iconst (v := 2) hx hb dL_law_940 (by decide) ?_
  refine lv_iadd hx hb dL_law_941 ?_
  refine va_sld hx hb hX hbl hbA hS hq2 dL_law_942 ?_
  refine lv_aload_n hx hb dL_law_943 rfl (lv_at hl 0 rfl) ?_
  refine lv_iload_n hx hb dL_law_944 rfl (lv_at hl 3 rfl) ?_
  refine lv_iconst (v := 3) hx hb dL_law_945 (by decide) ?_
  refine lv_iadd hx hb dL_law_946 ?_
  refine va_sld hx hb hX hbl hbA hS hq3 dL_law_947 ?_
  obtain ⟨z, y, hz, hy, he, hR⟩ := eq_scales g w v hRel (xs (ix (i + 1))) (xs (ix (i + 2))) (xs (ix (i + 3))) 
  have hFc9 := free_left hD hS hA
  refine cVM (As := [.int (xs (ix (i + 1))), .int (xs (ix (i + 2))), .int (xs (ix (i + 3)))]) (rest := []) ⟨hx, hb, hml, hown, fun w h => hts w (hv_X11_scales w h)⟩ (mX11_scales l D T aa h a (g 0) (g 1) (g 2) (g 3) (g 4) (g 5) (g 6) (g 7) (g 8) (g 9) (g 10) (g 11) w (g 13) (g 14) (g 15) (g 16) _ (xs (ix (i + 1))) (xs (ix (i + 2))) (xs (ix (i + 3))) z hz) (cwV 3 (fun w h => hts w (hv_X11_scales w h)) gT_X11_scales rfl rfl rfl (by decide +kernel) ⟨Nat.le_of_ble_eq_true rfl, Nat.le_of_ble_eq_true rfl⟩) (va_recv hK.1 (P_left hP) (ci := 11) (q0 := 0) rfl rfl) (P_left hP) hK rfl hl.1 rfl (Nat.le_of_ble_eq_true rfl) dL_law_948 ⟨Nat.le_of_ble_eq_true rfl, Nat.le_of_ble_eq_true rfl⟩ (D_left hD) hFc9 hS (fun H9 locs hP1 hD1 hk1 hS => ?_)
  obtain ⟨hP, hD⟩ := join_left hP hD hk1 hFc9 hP1 hD1
  generalize H9 = H at hP hS ⊢
  have hP : va_P D vwCl (WG T h a aa (sg (sg g 1 z.2.1) 11 z.2.2) w ++ kX12 T hm am v) H := hP
  have hD : va_D (fun q : Nat => s.heap.size ≤ q) (WG T h a aa (sg (sg g 1 z.2.1) 11 z.2.2) w ++ kX12 T hm am v) := hD
  refine lv_aload_n hx hb dL_law_951 rfl (lv_at hl 2 rfl) ?_
  refine lv_aload_n hx hb dL_law_952 rfl (lv_at hl 0 rfl) ?_
  refine lv_iload_n hx hb dL_law_953 rfl (lv_at hl 3 rfl) ?_
  refine lv_iconst (v := 1) hx hb dL_law_954 (by decide) ?_
  refine lv_iadd hx hb dL_law_955 ?_
  refine va_sld hx hb hX hbl hbA hS hq1 dL_law_956 ?_
  refine lv_aload_n hx hb dL_law_957 rfl (lv_at hl 0 rfl) ?_
  refine lv_iload_n hx hb dL_law_958 rfl (lv_at hl 3 rfl) ?_
  refine lv_iconst (v := 2) hx hb dL_law_959 (by decide) ?_
  refine lv_iadd hx hb dL_law_960 ?_
  refine va_sld hx hb hX hbl hbA hS hq2 dL_law_961 ?_
  refine lv_aload_n hx hb dL_law_962 rfl (lv_at hl 0 rfl) ?_
  refine lv_iload_n hx hb dL_law_963 rfl (lv_at hl 3 rfl) ?_
  refine lv_iconst (v := 3) hx hb dL_law_964 (by decide) ?_
  refine lv_iadd hx hb dL_law_965 ?_
  refine va_sld hx hb hX hbl hbA hS hq3 dL_law_966 ?_
  have hFc9 := free_right hD hS hA
  refine cVM (As := [.int (xs (ix (i + 1))), .int (xs (ix (i + 2))), .int (xs (ix (i + 3)))]) (rest := [.int z.1]) ⟨hx, hb, hml, hown, fun w h => hts w (hv_X12_scales w h)⟩ (mX12_scales l D T hm am v _ (xs (ix (i + 1))) (xs (ix (i + 2))) (xs (ix (i + 3))) y hy) (cwV 3 (fun w h => hts w (hv_X12_scales w h)) gT_X12_scales rfl rfl rfl (by decide +kernel) ⟨Nat.le_of_ble_eq_true rfl, Nat.le_of_ble_eq_true rfl⟩) (recM hK hP) (P_right hP) hK rfl hl.1 rfl (Nat.le_of_ble_eq_true rfl) dL_law_967 ⟨Nat.le_of_ble_eq_true rfl, Nat.le_of_ble_eq_true rfl⟩ (D_right hD) hFc9 hS (fun H9 locs hP1 hD1 hk1 hS => ?_)
  obtain ⟨hP, hD⟩ := join_right hP hD hk1 hFc9 hP1 hD1
  generalize H9 = H at hP hS ⊢
  refine lv_icmp_eq (tgt := 1070) hx hb dL_law_970 (by decide) (fun _ => ?_) (fun c9 => absurd he c9)
  exact kk a aa (sg (sg g 1 z.2.1) 11 z.2.2) w y.2 _ _ ls hR hP hD hS hl
set_option maxHeartbeats 4000000 in
set_option maxRecDepth 100000 in
theorem lc_seed {p : Program} {e : Env} {s : State} {m : MethodId} {below : List Frame} {meth : Method} {c : Code} (l : Launch) {b L : Nat} {xs : Nat → Int32} {D : va_G} {T : Ty3} {kv : (Nat → Nat) × (Nat → Nat)} (hL : L ≤ 3072) (hx : p.tables.exec = Jvm.exec) (hb : c.code = cL_law) (hml : c.maxLocals = 4) (hown : s.vm.findClass RL = some m.cls) (hts : ∀ w ∈ lw_tbl, w.before #[Value.ref b] s = true) (hX : va_X b L xs s s.heap) (hbl : b < s.heap.size) (hK : cK D T s) (hE : sK (fun q : Nat => s.heap.size ≤ q) kv s s.heap) {i : Int32} {j : Nat} (hi : i = nI j) (hj : j + 6 ≤ L) {h hm : Nat} {a am : Nat → Nat} {aa : Nat → Nat → Nat} {g : Nat → St} {w : Nat → Int64} {v : St} {H : Heap} {locs : List Loc} {ls : Array Slot} (hRel : Rel g v) (hP : va_P D vwCl (WG T h a aa g w ++ kX12 T hm am v) H) (hD : va_D (fun q : Nat => s.heap.size ≤ q) (WG T h a aa g w ++ kX12 T hm am v)) (hS : va_S (fun q : Nat => s.heap.size ≤ q) s.heap H locs) (hl : lv_has ls 4 [(0, .ref b), (1, .ref h), (2, .ref hm), (3, .int i)]) (kk : ∀ (a' : Nat → Nat) (aa' : Nat → Nat → Nat) (g' : Nat → St) (w' : Nat → Int64) (v' : St) (H' : Heap) (locs' : List Loc) (ls' : Array Slot), Rel g' v' → va_P D vwCl (WG T h a' aa' g' w' ++ kX12 T hm am v') H' → va_D (fun q : Nat => s.heap.size ≤ q) (WG T h a' aa' g' w' ++ kX12 T hm am v') → va_S (fun q : Nat => s.heap.size ≤ q) s.heap H' locs' → lv_has ls' 4 [(0, .ref b), (1, .ref h), (2, .ref hm), (3, .int i)] → W p l e room_1 s m #[Value.ref b] below meth c H' locs' 96 13112 (lw_Z below #[Value.ref b] s) (F0 m 1070 ls' [])) : W p l e room_1 s m #[Value.ref b] below meth c H locs 96 13112 (lw_Z below #[Value.ref b] s) (F0 m 975 ls []) := by
  have hA : ∀ q : Nat, s.heap.size ≤ q → (fun q : Nat => s.heap.size ≤ q) q := fun _ h => h
  have hbA : ¬ (fun q : Nat => s.heap.size ≤ q) b := Nat.not_le.mpr hbl
  have hq1 : vp_in (i + 1) L := by rw [hi, show (1 : Int32) = nI 1 from rfl, nI_add]; exact vp_in_nI (by omega) (by omega)
  refine lv_aload_n hx hb dL_law_975 rfl (lv_at hl 1 rfl) ?_
  refine lv_aload_n hx hb dL_law_976 rfl (lv_at hl 0 rfl) ?_
  refine lv_iload_n hx hb dL_law_977 rfl (lv_at hl 3 rfl) ?_
  refine lv_iconst (v := 1) hx hb dL_law_978 (by decide) ?_
  refine lv_iadd hx hb dL_law_979 ?_
  refine va_sld hx hb hX hbl hbA hS hq1 dL_law_980 ?_
  obtain ⟨z, y, hz, hy, he, hR⟩ := eq_seed g w v hRel (xs (ix (i + 1))) 
  have hFc9 := free_left hD hS hA
  refine cVM (As := [.int (xs (ix (i + 1)))]) (rest := []) ⟨hx, hb, hml, hown, fun w h => hts w (hv_X11_seed w h)⟩ (mX11_seed l D T aa h a (g 0) (g 1) (g 2) (g 3) (g 4) (g 5) (g 6) (g 7) (g 8) (g 9) (g 10) (g 11) w (g 13) (g 14) (g 15) (g 16) _ (xs (ix (i + 1))) z hz) (cwV 1 (fun w h => hts w (hv_X11_seed w h)) gT_X11_seed rfl rfl rfl (by decide +kernel) ⟨Nat.le_of_ble_eq_true rfl, Nat.le_of_ble_eq_true rfl⟩) (va_recv hK.1 (P_left hP) (ci := 11) (q0 := 0) rfl rfl) (P_left hP) hK rfl hl.1 rfl (Nat.le_of_ble_eq_true rfl) dL_law_981 ⟨Nat.le_of_ble_eq_true rfl, Nat.le_of_ble_eq_true rfl⟩ (D_left hD) hFc9 hS (fun H9 locs hP1 hD1 hk1 hS => ?_)
  obtain ⟨hP, hD⟩ := join_left hP hD hk1 hFc9 hP1 hD1
  generalize H9 = H at hP hS ⊢
  have hP : va_P D vwCl (WG T h a aa (sg g 3 z.2) w ++ kX12 T hm am v) H := hP
  have hD : va_D (fun q : Nat => s.heap.size ≤ q) (WG T h a aa (sg g 3 z.2) w ++ kX12 T hm am v) := hD
  refine lv_aload_n hx hb dL_law_984 rfl (lv_at hl 2 rfl) ?_
  refine lv_aload_n hx hb dL_law_985 rfl (lv_at hl 0 rfl) ?_
  refine lv_iload_n hx hb dL_law_986 rfl (lv_at hl 3 rfl) ?_
  refine lv_iconst (v := 1) hx hb dL_law_987 (by decide) ?_
  refine lv_iadd hx hb dL_law_988 ?_
  refine va_sld hx hb hX hbl hbA hS hq1 dL_law_989 ?_
  have hFc9 := free_right hD hS hA
  refine cVM (As := [.int (xs (ix (i + 1)))]) (rest := [.int z.1]) ⟨hx, hb, hml, hown, fun w h => hts w (hv_X12_seed w h)⟩ (mX12_seed l D T hm am v _ (xs (ix (i + 1))) y hy) (cwV 1 (fun w h => hts w (hv_X12_seed w h)) gT_X12_seed rfl rfl rfl (by decide +kernel) ⟨Nat.le_of_ble_eq_true rfl, Nat.le_of_ble_eq_true rfl⟩) (recM hK hP) (P_right hP) hK rfl hl.1 rfl (Nat.le_of_ble_eq_true rfl) dL_law_990 ⟨Nat.le_of_ble_eq_true rfl, Nat.le_of_ble_eq_true rfl⟩ (D_right hD) hFc9 hS (fun H9 locs hP1 hD1 hk1 hS => ?_)
  obtain ⟨hP, hD⟩ := join_right hP hD hk1 hFc9 hP1 hD1
  generalize H9 = H at hP hS ⊢
  refine lv_icmp_eq (tgt := 1070) hx hb dL_law_993 (by decide) (fun _ => ?_) (fun c9 => absurd he c9)
  exact kk a aa (sg g 3 z.2) w y.2 _ _ ls hR hP hD hS hl
set_option maxHeartbeats 4000000 in
set_option maxRecDepth 100000 in
theorem lc_keep {p : Program} {e : Env} {s : State} {m : MethodId} {below : List Frame} {meth : Method} {c : Code} (l : Launch) {b L : Nat} {xs : Nat → Int32} {D : va_G} {T : Ty3} {kv : (Nat → Nat) × (Nat → Nat)} (hL : L ≤ 3072) (hx : p.tables.exec = Jvm.exec) (hb : c.code = cL_law) (hml : c.maxLocals = 4) (hown : s.vm.findClass RL = some m.cls) (hts : ∀ w ∈ lw_tbl, w.before #[Value.ref b] s = true) (hX : va_X b L xs s s.heap) (hbl : b < s.heap.size) (hK : cK D T s) (hE : sK (fun q : Nat => s.heap.size ≤ q) kv s s.heap) {i : Int32} {j : Nat} (hi : i = nI j) (hj : j + 6 ≤ L) {h hm : Nat} {a am : Nat → Nat} {aa : Nat → Nat → Nat} {g : Nat → St} {w : Nat → Int64} {v : St} {H : Heap} {locs : List Loc} {ls : Array Slot} (hRel : Rel g v) (hP : va_P D vwCl (WG T h a aa g w ++ kX12 T hm am v) H) (hD : va_D (fun q : Nat => s.heap.size ≤ q) (WG T h a aa g w ++ kX12 T hm am v)) (hS : va_S (fun q : Nat => s.heap.size ≤ q) s.heap H locs) (hl : lv_has ls 4 [(0, .ref b), (1, .ref h), (2, .ref hm), (3, .int i)]) (kk : ∀ (a' : Nat → Nat) (aa' : Nat → Nat → Nat) (g' : Nat → St) (w' : Nat → Int64) (v' : St) (H' : Heap) (locs' : List Loc) (ls' : Array Slot), Rel g' v' → va_P D vwCl (WG T h a' aa' g' w' ++ kX12 T hm am v') H' → va_D (fun q : Nat => s.heap.size ≤ q) (WG T h a' aa' g' w' ++ kX12 T hm am v') → va_S (fun q : Nat => s.heap.size ≤ q) s.heap H' locs' → lv_has ls' 4 [(0, .ref b), (1, .ref h), (2, .ref hm), (3, .int i)] → W p l e room_1 s m #[Value.ref b] below meth c H' locs' 96 13112 (lw_Z below #[Value.ref b] s) (F0 m 1070 ls' [])) : W p l e room_1 s m #[Value.ref b] below meth c H locs 96 13112 (lw_Z below #[Value.ref b] s) (F0 m 998 ls []) := by
  have hA : ∀ q : Nat, s.heap.size ≤ q → (fun q : Nat => s.heap.size ≤ q) q := fun _ h => h
  have hbA : ¬ (fun q : Nat => s.heap.size ≤ q) b := Nat.not_le.mpr hbl
  refine lv_aload_n hx hb dL_law_998 rfl (lv_at hl 1 rfl) ?_
  obtain ⟨z, y, hz, hy, he, hR⟩ := eq_keep g w v hRel  
  have hFc9 := free_left hD hS hA
  refine cVM (As := []) (rest := []) ⟨hx, hb, hml, hown, fun w h => hts w (hv_X11_keep w h)⟩ (mX11_keep l D T aa h a (g 0) (g 1) (g 2) (g 3) (g 4) (g 5) (g 6) (g 7) (g 8) (g 9) (g 10) (g 11) w (g 13) (g 14) (g 15) (g 16) _  z hz) (cwV 0 (fun w h => hts w (hv_X11_keep w h)) gT_X11_keep rfl rfl rfl (by decide +kernel) ⟨Nat.le_of_ble_eq_true rfl, Nat.le_of_ble_eq_true rfl⟩) (va_recv hK.1 (P_left hP) (ci := 11) (q0 := 0) rfl rfl) (P_left hP) hK rfl hl.1 rfl (Nat.le_of_ble_eq_true rfl) dL_law_999 ⟨Nat.le_of_ble_eq_true rfl, Nat.le_of_ble_eq_true rfl⟩ (D_left hD) hFc9 hS (fun H9 locs hP1 hD1 hk1 hS => ?_)
  obtain ⟨hP, hD⟩ := join_left hP hD hk1 hFc9 hP1 hD1
  generalize H9 = H at hP hS ⊢
  have hP : va_P D vwCl (WG T h a aa (sg (sg g 0 z.2.1) 4 z.2.2) w ++ kX12 T hm am v) H := hP
  have hD : va_D (fun q : Nat => s.heap.size ≤ q) (WG T h a aa (sg (sg g 0 z.2.1) 4 z.2.2) w ++ kX12 T hm am v) := hD
  refine lv_aload_n hx hb dL_law_1002 rfl (lv_at hl 2 rfl) ?_
  have hFc9 := free_right hD hS hA
  refine cVM (As := []) (rest := [.int z.1]) ⟨hx, hb, hml, hown, fun w h => hts w (hv_X12_keep w h)⟩ (mX12_keep l D T hm am v _  y hy) (cwV 0 (fun w h => hts w (hv_X12_keep w h)) gT_X12_keep rfl rfl rfl (by decide +kernel) ⟨Nat.le_of_ble_eq_true rfl, Nat.le_of_ble_eq_true rfl⟩) (recM hK hP) (P_right hP) hK rfl hl.1 rfl (Nat.le_of_ble_eq_true rfl) dL_law_1003 ⟨Nat.le_of_ble_eq_true rfl, Nat.le_of_ble_eq_true rfl⟩ (D_right hD) hFc9 hS (fun H9 locs hP1 hD1 hk1 hS => ?_)
  obtain ⟨hP, hD⟩ := join_right hP hD hk1 hFc9 hP1 hD1
  generalize H9 = H at hP hS ⊢
  refine lv_icmp_eq (tgt := 1070) hx hb dL_law_1006 (by decide) (fun _ => ?_) (fun c9 => absurd he c9)
  exact kk a aa (sg (sg g 0 z.2.1) 4 z.2.2) w y.2 _ _ ls hR hP hD hS hl
set_option maxHeartbeats 4000000 in
set_option maxRecDepth 100000 in
theorem lc_undo {p : Program} {e : Env} {s : State} {m : MethodId} {below : List Frame} {meth : Method} {c : Code} (l : Launch) {b L : Nat} {xs : Nat → Int32} {D : va_G} {T : Ty3} {kv : (Nat → Nat) × (Nat → Nat)} (hL : L ≤ 3072) (hx : p.tables.exec = Jvm.exec) (hb : c.code = cL_law) (hml : c.maxLocals = 4) (hown : s.vm.findClass RL = some m.cls) (hts : ∀ w ∈ lw_tbl, w.before #[Value.ref b] s = true) (hX : va_X b L xs s s.heap) (hbl : b < s.heap.size) (hK : cK D T s) (hE : sK (fun q : Nat => s.heap.size ≤ q) kv s s.heap) {i : Int32} {j : Nat} (hi : i = nI j) (hj : j + 6 ≤ L) {h hm : Nat} {a am : Nat → Nat} {aa : Nat → Nat → Nat} {g : Nat → St} {w : Nat → Int64} {v : St} {H : Heap} {locs : List Loc} {ls : Array Slot} (hRel : Rel g v) (hP : va_P D vwCl (WG T h a aa g w ++ kX12 T hm am v) H) (hD : va_D (fun q : Nat => s.heap.size ≤ q) (WG T h a aa g w ++ kX12 T hm am v)) (hS : va_S (fun q : Nat => s.heap.size ≤ q) s.heap H locs) (hl : lv_has ls 4 [(0, .ref b), (1, .ref h), (2, .ref hm), (3, .int i)]) (kk : ∀ (a' : Nat → Nat) (aa' : Nat → Nat → Nat) (g' : Nat → St) (w' : Nat → Int64) (v' : St) (H' : Heap) (locs' : List Loc) (ls' : Array Slot), Rel g' v' → va_P D vwCl (WG T h a' aa' g' w' ++ kX12 T hm am v') H' → va_D (fun q : Nat => s.heap.size ≤ q) (WG T h a' aa' g' w' ++ kX12 T hm am v') → va_S (fun q : Nat => s.heap.size ≤ q) s.heap H' locs' → lv_has ls' 4 [(0, .ref b), (1, .ref h), (2, .ref hm), (3, .int i)] → W p l e room_1 s m #[Value.ref b] below meth c H' locs' 96 13112 (lw_Z below #[Value.ref b] s) (F0 m 1070 ls' [])) : W p l e room_1 s m #[Value.ref b] below meth c H locs 96 13112 (lw_Z below #[Value.ref b] s) (F0 m 1011 ls []) := by
  have hA : ∀ q : Nat, s.heap.size ≤ q → (fun q : Nat => s.heap.size ≤ q) q := fun _ h => h
  have hbA : ¬ (fun q : Nat => s.heap.size ≤ q) b := Nat.not_le.mpr hbl
  refine lv_aload_n hx hb dL_law_1011 rfl (lv_at hl 1 rfl) ?_
  obtain ⟨z, y, hz, hy, he, hR⟩ := eq_undo g w v hRel  
  have hFc9 := free_left hD hS hA
  refine cVM (As := []) (rest := []) ⟨hx, hb, hml, hown, fun w h => hts w (hv_X11_undo w h)⟩ (mX11_undo l D T aa h a (g 0) (g 1) (g 2) (g 3) (g 4) (g 5) (g 6) (g 7) (g 8) (g 9) (g 10) (g 11) w (g 13) (g 14) (g 15) (g 16) _  z hz) (cwV 0 (fun w h => hts w (hv_X11_undo w h)) gT_X11_undo rfl rfl rfl (by decide +kernel) ⟨Nat.le_of_ble_eq_true rfl, Nat.le_of_ble_eq_true rfl⟩) (va_recv hK.1 (P_left hP) (ci := 11) (q0 := 0) rfl rfl) (P_left hP) hK rfl hl.1 rfl (Nat.le_of_ble_eq_true rfl) dL_law_1012 ⟨Nat.le_of_ble_eq_true rfl, Nat.le_of_ble_eq_true rfl⟩ (D_left hD) hFc9 hS (fun H9 locs hP1 hD1 hk1 hS => ?_)
  obtain ⟨hP, hD⟩ := join_left hP hD hk1 hFc9 hP1 hD1
  generalize H9 = H at hP hS ⊢
  have hP : va_P D vwCl (WG T h a aa (sg g 3 z.2) w ++ kX12 T hm am v) H := hP
  have hD : va_D (fun q : Nat => s.heap.size ≤ q) (WG T h a aa (sg g 3 z.2) w ++ kX12 T hm am v) := hD
  refine lv_aload_n hx hb dL_law_1015 rfl (lv_at hl 2 rfl) ?_
  have hFc9 := free_right hD hS hA
  refine cVM (As := []) (rest := [.int z.1]) ⟨hx, hb, hml, hown, fun w h => hts w (hv_X12_undo w h)⟩ (mX12_undo l D T hm am v _  y hy) (cwV 0 (fun w h => hts w (hv_X12_undo w h)) gT_X12_undo rfl rfl rfl (by decide +kernel) ⟨Nat.le_of_ble_eq_true rfl, Nat.le_of_ble_eq_true rfl⟩) (recM hK hP) (P_right hP) hK rfl hl.1 rfl (Nat.le_of_ble_eq_true rfl) dL_law_1016 ⟨Nat.le_of_ble_eq_true rfl, Nat.le_of_ble_eq_true rfl⟩ (D_right hD) hFc9 hS (fun H9 locs hP1 hD1 hk1 hS => ?_)
  obtain ⟨hP, hD⟩ := join_right hP hD hk1 hFc9 hP1 hD1
  generalize H9 = H at hP hS ⊢
  refine lv_icmp_eq (tgt := 1070) hx hb dL_law_1019 (by decide) (fun _ => ?_) (fun c9 => absurd he c9)
  exact kk a aa (sg g 3 z.2) w y.2 _ _ ls hR hP hD hS hl
set_option maxHeartbeats 4000000 in
set_option maxRecDepth 100000 in
theorem lc_check {p : Program} {e : Env} {s : State} {m : MethodId} {below : List Frame} {meth : Method} {c : Code} (l : Launch) {b L : Nat} {xs : Nat → Int32} {D : va_G} {T : Ty3} {kv : (Nat → Nat) × (Nat → Nat)} (hL : L ≤ 3072) (hx : p.tables.exec = Jvm.exec) (hb : c.code = cL_law) (hml : c.maxLocals = 4) (hown : s.vm.findClass RL = some m.cls) (hts : ∀ w ∈ lw_tbl, w.before #[Value.ref b] s = true) (hX : va_X b L xs s s.heap) (hbl : b < s.heap.size) (hK : cK D T s) (hE : sK (fun q : Nat => s.heap.size ≤ q) kv s s.heap) {i : Int32} {j : Nat} (hi : i = nI j) (hj : j + 6 ≤ L) {h hm : Nat} {a am : Nat → Nat} {aa : Nat → Nat → Nat} {g : Nat → St} {w : Nat → Int64} {v : St} {H : Heap} {locs : List Loc} {ls : Array Slot} (hRel : Rel g v) (hP : va_P D vwCl (WG T h a aa g w ++ kX12 T hm am v) H) (hD : va_D (fun q : Nat => s.heap.size ≤ q) (WG T h a aa g w ++ kX12 T hm am v)) (hS : va_S (fun q : Nat => s.heap.size ≤ q) s.heap H locs) (hl : lv_has ls 4 [(0, .ref b), (1, .ref h), (2, .ref hm), (3, .int i)]) (kk : ∀ (a' : Nat → Nat) (aa' : Nat → Nat → Nat) (g' : Nat → St) (w' : Nat → Int64) (v' : St) (H' : Heap) (locs' : List Loc) (ls' : Array Slot), Rel g' v' → va_P D vwCl (WG T h a' aa' g' w' ++ kX12 T hm am v') H' → va_D (fun q : Nat => s.heap.size ≤ q) (WG T h a' aa' g' w' ++ kX12 T hm am v') → va_S (fun q : Nat => s.heap.size ≤ q) s.heap H' locs' → lv_has ls' 4 [(0, .ref b), (1, .ref h), (2, .ref hm), (3, .int i)] → W p l e room_1 s m #[Value.ref b] below meth c H' locs' 96 13112 (lw_Z below #[Value.ref b] s) (F0 m 1070 ls' [])) : W p l e room_1 s m #[Value.ref b] below meth c H locs 96 13112 (lw_Z below #[Value.ref b] s) (F0 m 1024 ls []) := by
  have hA : ∀ q : Nat, s.heap.size ≤ q → (fun q : Nat => s.heap.size ≤ q) q := fun _ h => h
  have hbA : ¬ (fun q : Nat => s.heap.size ≤ q) b := Nat.not_le.mpr hbl
  have hq1 : vp_in (i + 1) L := by rw [hi, show (1 : Int32) = nI 1 from rfl, nI_add]; exact vp_in_nI (by omega) (by omega)
  refine lv_aload_n hx hb dL_law_1024 rfl (lv_at hl 1 rfl) ?_
  refine lv_aload_n hx hb dL_law_1025 rfl (lv_at hl 0 rfl) ?_
  refine lv_iload_n hx hb dL_law_1026 rfl (lv_at hl 3 rfl) ?_
  refine lv_iconst (v := 1) hx hb dL_law_1027 (by decide) ?_
  refine lv_iadd hx hb dL_law_1028 ?_
  refine va_sld hx hb hX hbl hbA hS hq1 dL_law_1029 ?_
  obtain ⟨z, y, hz, hy, he, hR⟩ := eq_check g w v hRel (xs (ix (i + 1))) 
  have hFc9 := free_left hD hS hA
  refine cVM (As := [.int (xs (ix (i + 1)))]) (rest := []) ⟨hx, hb, hml, hown, fun w h => hts w (hv_X11_check w h)⟩ (mX11_check l D T aa h a (g 0) (g 1) (g 2) (g 3) (g 4) (g 5) (g 6) (g 7) (g 8) (g 9) (g 10) (g 11) w (g 13) (g 14) (g 15) (g 16) _ (xs (ix (i + 1))) z hz) (cwV 1 (fun w h => hts w (hv_X11_check w h)) gT_X11_check rfl rfl rfl (by decide +kernel) ⟨Nat.le_of_ble_eq_true rfl, Nat.le_of_ble_eq_true rfl⟩) (va_recv hK.1 (P_left hP) (ci := 11) (q0 := 0) rfl rfl) (P_left hP) hK rfl hl.1 rfl (Nat.le_of_ble_eq_true rfl) dL_law_1030 ⟨Nat.le_of_ble_eq_true rfl, Nat.le_of_ble_eq_true rfl⟩ (D_left hD) hFc9 hS (fun H9 locs hP1 hD1 hk1 hS => ?_)
  obtain ⟨hP, hD⟩ := join_left hP hD hk1 hFc9 hP1 hD1
  generalize H9 = H at hP hS ⊢
  have hP : va_P D vwCl (WG T h a aa (sg g 1 z.2) w ++ kX12 T hm am v) H := hP
  have hD : va_D (fun q : Nat => s.heap.size ≤ q) (WG T h a aa (sg g 1 z.2) w ++ kX12 T hm am v) := hD
  refine lv_aload_n hx hb dL_law_1033 rfl (lv_at hl 2 rfl) ?_
  refine lv_aload_n hx hb dL_law_1034 rfl (lv_at hl 0 rfl) ?_
  refine lv_iload_n hx hb dL_law_1035 rfl (lv_at hl 3 rfl) ?_
  refine lv_iconst (v := 1) hx hb dL_law_1036 (by decide) ?_
  refine lv_iadd hx hb dL_law_1037 ?_
  refine va_sld hx hb hX hbl hbA hS hq1 dL_law_1038 ?_
  have hFc9 := free_right hD hS hA
  refine cVM (As := [.int (xs (ix (i + 1)))]) (rest := [.int z.1]) ⟨hx, hb, hml, hown, fun w h => hts w (hv_X12_check w h)⟩ (mX12_check l D T hm am v _ (xs (ix (i + 1))) y hy) (cwV 1 (fun w h => hts w (hv_X12_check w h)) gT_X12_check rfl rfl rfl (by decide +kernel) ⟨Nat.le_of_ble_eq_true rfl, Nat.le_of_ble_eq_true rfl⟩) (recM hK hP) (P_right hP) hK rfl hl.1 rfl (Nat.le_of_ble_eq_true rfl) dL_law_1039 ⟨Nat.le_of_ble_eq_true rfl, Nat.le_of_ble_eq_true rfl⟩ (D_right hD) hFc9 hS (fun H9 locs hP1 hD1 hk1 hS => ?_)
  obtain ⟨hP, hD⟩ := join_right hP hD hk1 hFc9 hP1 hD1
  generalize H9 = H at hP hS ⊢
  refine lv_icmp_eq (tgt := 1070) hx hb dL_law_1042 (by decide) (fun _ => ?_) (fun c9 => absurd he c9)
  exact kk a aa (sg g 1 z.2) w y.2 _ _ ls hR hP hD hS hl
set_option maxHeartbeats 4000000 in
set_option maxRecDepth 100000 in
theorem lc_count {p : Program} {e : Env} {s : State} {m : MethodId} {below : List Frame} {meth : Method} {c : Code} (l : Launch) {b L : Nat} {xs : Nat → Int32} {D : va_G} {T : Ty3} {kv : (Nat → Nat) × (Nat → Nat)} (hL : L ≤ 3072) (hx : p.tables.exec = Jvm.exec) (hb : c.code = cL_law) (hml : c.maxLocals = 4) (hown : s.vm.findClass RL = some m.cls) (hts : ∀ w ∈ lw_tbl, w.before #[Value.ref b] s = true) (hX : va_X b L xs s s.heap) (hbl : b < s.heap.size) (hK : cK D T s) (hE : sK (fun q : Nat => s.heap.size ≤ q) kv s s.heap) {i : Int32} {j : Nat} (hi : i = nI j) (hj : j + 6 ≤ L) {h hm : Nat} {a am : Nat → Nat} {aa : Nat → Nat → Nat} {g : Nat → St} {w : Nat → Int64} {v : St} {H : Heap} {locs : List Loc} {ls : Array Slot} (hRel : Rel g v) (hP : va_P D vwCl (WG T h a aa g w ++ kX12 T hm am v) H) (hD : va_D (fun q : Nat => s.heap.size ≤ q) (WG T h a aa g w ++ kX12 T hm am v)) (hS : va_S (fun q : Nat => s.heap.size ≤ q) s.heap H locs) (hl : lv_has ls 4 [(0, .ref b), (1, .ref h), (2, .ref hm), (3, .int i)]) (kk : ∀ (a' : Nat → Nat) (aa' : Nat → Nat → Nat) (g' : Nat → St) (w' : Nat → Int64) (v' : St) (H' : Heap) (locs' : List Loc) (ls' : Array Slot), Rel g' v' → va_P D vwCl (WG T h a' aa' g' w' ++ kX12 T hm am v') H' → va_D (fun q : Nat => s.heap.size ≤ q) (WG T h a' aa' g' w' ++ kX12 T hm am v') → va_S (fun q : Nat => s.heap.size ≤ q) s.heap H' locs' → lv_has ls' 4 [(0, .ref b), (1, .ref h), (2, .ref hm), (3, .int i)] → W p l e room_1 s m #[Value.ref b] below meth c H' locs' 96 13112 (lw_Z below #[Value.ref b] s) (F0 m 1070 ls' [])) : W p l e room_1 s m #[Value.ref b] below meth c H locs 96 13112 (lw_Z below #[Value.ref b] s) (F0 m 1047 ls []) := by
  have hA : ∀ q : Nat, s.heap.size ≤ q → (fun q : Nat => s.heap.size ≤ q) q := fun _ h => h
  have hbA : ¬ (fun q : Nat => s.heap.size ≤ q) b := Nat.not_le.mpr hbl
  have hq1 : vp_in (i + 1) L := by rw [hi, show (1 : Int32) = nI 1 from rfl, nI_add]; exact vp_in_nI (by omega) (by omega)
  refine lv_aload_n hx hb dL_law_1047 rfl (lv_at hl 1 rfl) ?_
  refine lv_aload_n hx hb dL_law_1048 rfl (lv_at hl 0 rfl) ?_
  refine lv_iload_n hx hb dL_law_1049 rfl (lv_at hl 3 rfl) ?_
  refine lv_iconst (v := 1) hx hb dL_law_1050 (by decide) ?_
  refine lv_iadd hx hb dL_law_1051 ?_
  refine va_sld hx hb hX hbl hbA hS hq1 dL_law_1052 ?_
  obtain ⟨z, y, hz, hy, he, hR⟩ := eq_count g w v hRel (xs (ix (i + 1))) 
  refine cVR (As := [.int (xs (ix (i + 1)))]) (rest := []) ⟨hx, hb, hml, hown, fun w h => hts w (hv_X11_count w h)⟩ (mX11_count l D T aa h a (g 0) (g 1) (g 2) (g 3) (g 4) (g 5) (g 6) (g 7) (g 8) (g 9) (g 10) (g 11) w (g 13) (g 14) (g 15) (g 16) (xs (ix (i + 1))) z hz) (cwV 1 (fun w h => hts w (hv_X11_count w h)) gT_X11_count rfl rfl rfl (by decide +kernel) ⟨Nat.le_of_ble_eq_true rfl, Nat.le_of_ble_eq_true rfl⟩) (va_recv hK.1 (P_left hP) (ci := 11) (q0 := 0) rfl rfl) (P_left hP) hK rfl hl.1 rfl (Nat.le_of_ble_eq_true rfl) dL_law_1053 ⟨Nat.le_of_ble_eq_true rfl, Nat.le_of_ble_eq_true rfl⟩ hP hS (fun H locs hP hS => ?_)
  refine lv_aload_n hx hb dL_law_1056 rfl (lv_at hl 2 rfl) ?_
  refine lv_aload_n hx hb dL_law_1057 rfl (lv_at hl 0 rfl) ?_
  refine lv_iload_n hx hb dL_law_1058 rfl (lv_at hl 3 rfl) ?_
  refine lv_iconst (v := 1) hx hb dL_law_1059 (by decide) ?_
  refine lv_iadd hx hb dL_law_1060 ?_
  refine va_sld hx hb hX hbl hbA hS hq1 dL_law_1061 ?_
  refine cVR (As := [.int (xs (ix (i + 1)))]) (rest := [.int z]) ⟨hx, hb, hml, hown, fun w h => hts w (hv_X12_count w h)⟩ (mX12_count l D T hm am v (xs (ix (i + 1))) y hy) (cwV 1 (fun w h => hts w (hv_X12_count w h)) gT_X12_count rfl rfl rfl (by decide +kernel) ⟨Nat.le_of_ble_eq_true rfl, Nat.le_of_ble_eq_true rfl⟩) (recM hK hP) (P_right hP) hK rfl hl.1 rfl (Nat.le_of_ble_eq_true rfl) dL_law_1062 ⟨Nat.le_of_ble_eq_true rfl, Nat.le_of_ble_eq_true rfl⟩ hP hS (fun H locs hP hS => ?_)
  refine lv_icmp_eq (tgt := 1070) hx hb dL_law_1065 (by decide) (fun _ => ?_) (fun c9 => absurd he c9)
  exact kk a aa g w v _ _ ls hR hP hD hS hl
