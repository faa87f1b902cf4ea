set_option maxHeartbeats 4000000 in
set_option maxRecDepth 100000 in
theorem law_loop {p : Program} {e : Env} {s : State} {m : MethodId} {below : List Frame} {meth : Method} {c : Code} (l : Launch) {b L : Nat} {xs : Nat → Int32} {D : va_G} {T : Ty3} {kv : (Nat → Nat) × (Nat → Nat)} (hL : L ≤ 3072) (hx : p.tables.exec = Jvm.exec) (hb : c.code = cL_law) (hml : c.maxLocals = 4) (hown : s.vm.findClass RL = some m.cls) (hts : ∀ w ∈ lw_tbl, w.before #[Value.ref b] s = true) (hX : va_X b L xs s s.heap) (hbl : b < s.heap.size) (hK : cK D T s) (hE : sK (fun q : Nat => s.heap.size ≤ q) kv s s.heap) (hr : meth.sig.returnType = ret) (hlocks : meth.locks = false) {h hm : Nat} {am : Nat → Nat} : ∀ (n j : Nat) (i : Int32) (a : Nat → Nat) (aa : Nat → Nat → Nat) (g : Nat → St) (w : Nat → Int64) (v : St) (H : Heap) (locs : List Loc) (ls : Array Slot), L + 6 - j < n → j ≤ L + 6 → i = nI j → Rel g v → va_P D vwCl (WG T h a aa g w ++ kX12 T hm am v) H → va_D (fun q : Nat => s.heap.size ≤ q) (WG T h a aa g w ++ kX12 T hm am v) → va_S (fun q : Nat => s.heap.size ≤ q) s.heap H locs → lv_has ls 4 [(0, .ref b), (1, .ref h), (2, .ref hm), (3, .int i)] → W p l e room_1 s m #[Value.ref b] below meth c H locs 96 13112 (lw_Z below #[Value.ref b] s) (F0 m 18 ls []) := by
  intro n
  induction n with
  | zero => intro j i a aa g w v H locs ls h1; omega
  | succ n ih =>
    intro j i a aa g w v H locs ls hn hjL hi hRel hP hD hS hl
    have hA : ∀ q : Nat, s.heap.size ≤ q → (fun q : Nat => s.heap.size ≤ q) q := fun _ h => h
    have hbA : ¬ (fun q : Nat => s.heap.size ≤ q) b := Nat.not_le.mpr hbl
    refine lv_iload_n hx hb dL_law_18 rfl (lv_at hl 3 rfl) ?_
    refine lv_aload_n hx hb dL_law_19 rfl (lv_at hl 0 rfl) ?_
    refine va_slen hx hb hX hbl hbA hS dL_law_20 ?_
    refine lv_bipush (v := 6) hx hb dL_law_21 (by decide) ?_
    refine lv_isub hx hb dL_law_23 ?_
    have hcmp : (Int32.ofNat L - 6 < i) ↔ (L : Int) - 6 < j := by
      rw [Int32.lt_iff_toInt_lt, show Int32.ofNat L - 6 = nI L - nI 6 from rfl, pk_sub_toInt (by omega) (by omega), hi, nI_toInt (by omega)]; omega
    refine lv_icmp_gt (tgt := 1076) hx hb dL_law_24 (by decide) (fun c1 => ?_) (fun c1 => ?_)
    · refine lv_iconst (v := 1) hx hb dL_law_1076 (by decide) ?_
      refine va_forget hS.2.2 ?_
      refine W.widen (k := 600000) (n := 7302250) (by decide) (by decide) ?_
      exact lw_ret hx hb hr hlocks dL_law_1077
    have hj : j + 6 ≤ L := by have := mt hcmp.mpr c1; omega
    have hq0 : vp_in i L := by rw [hi]; exact vp_in_nI (by omega) (by omega)
    refine lv_aload_n hx hb dL_law_27 rfl (lv_at hl 0 rfl) ?_
    refine lv_iload_n hx hb dL_law_28 rfl (lv_at hl 3 rfl) ?_
    refine va_sld hx hb hX hbl hbA hS hq0 dL_law_29 ?_
    refine lv_bipush (v := 31) hx hb dL_law_30 (by decide) ?_
    refine lv_iand hx hb dL_law_32 ?_
    have back : ∀ (a' : Nat → Nat) (aa' : Nat → Nat → Nat) (g' : Nat → St) (w' : Nat → Int64) (v' : St) (H' : Heap) (locs' : List Loc) (ls' : Array Slot), Rel g' v' → va_P D vwCl (WG T h a' aa' g' w' ++ kX12 T hm am v') H' → va_D (fun q : Nat => s.heap.size ≤ q) (WG T h a' aa' g' w' ++ kX12 T hm am v') → va_S (fun q : Nat => s.heap.size ≤ q) s.heap H' locs' → lv_has ls' 4 [(0, .ref b), (1, .ref h), (2, .ref hm), (3, .int i)] → W p l e room_1 s m #[Value.ref b] below meth c H' locs' 96 13112 (lw_Z below #[Value.ref b] s) (F0 m 1070 ls' []) := by
      intro a' aa' g' w' v' H' locs' ls' hR' hP' hD' hS' hl'
      obtain ⟨i2, ei2⟩ : ∃ y : Int32, y = i + 6 := ⟨_, rfl⟩
      refine lv_iinc (v := i2) (lv' := [(3, .int i2), (0, .ref b), (1, .ref h), (2, .ref hm)]) hx hb dL_law_1070 hl' (k := 3) rfl (by rw [ei2]; rfl) (by decide) rfl (fun ls hl => ?_)
      refine lv_goto (tgt := 18) hx hb dL_law_1073 (by decide) ?_
      exact ih (j + 6) i2 a' aa' g' w' v' H' locs' ls (by omega) (by omega) (by rw [ei2, hi, show (6 : Int32) = nI 6 from rfl, nI_add]) hR' hP' hD' hS' (lv_sub hl [1, 2, 3, 0] rfl)
    generalize xs i.toNatClampNeg &&& 31 = op
    by_cases c_0 : op = 0
    · refine lv_tableIn (off := 135) (tgt := 168) hx hb dL_law_33 (by rw [c_0]; decide) (by rw [c_0]; decide) (by rw [c_0]; rfl) (by decide) ?_
      exact lc_walker l hL hx hb hml hown hts hX hbl hK hE hi hj hRel hP hD hS hl back
    by_cases c_1 : op = 1
    · refine lv_tableIn (off := 168) (tgt := 201) hx hb dL_law_33 (by rw [c_1]; decide) (by rw [c_1]; decide) (by rw [c_1]; rfl) (by decide) ?_
      exact lc_rules l hL hx hb hml hown hts hX hbl hK hE hi hj hRel hP hD hS hl back
    by_cases c_2 : op = 2
    · refine lv_tableIn (off := 201) (tgt := 234) hx hb dL_law_33 (by rw [c_2]; decide) (by rw [c_2]; decide) (by rw [c_2]; rfl) (by decide) ?_
      exact lc_feed l hL hx hb hml hown hts hX hbl hK hE hi hj hRel hP hD hS hl back
    by_cases c_3 : op = 3
    · refine lv_tableIn (off := 264) (tgt := 297) hx hb dL_law_33 (by rw [c_3]; decide) (by rw [c_3]; decide) (by rw [c_3]; rfl) (by decide) ?_
      exact lc_law l hL hx hb hml hown hts hX hbl hK hE hi hj hRel hP hD hS hl back
    by_cases c_4 : op = 4
    · refine lv_tableIn (off := 287) (tgt := 320) hx hb dL_law_33 (by rw [c_4]; decide) (by rw [c_4]; decide) (by rw [c_4]; rfl) (by decide) ?_
      exact lc_orders l hL hx hb hml hown hts hX hbl hK hE hi hj hRel hP hD hS hl back
    by_cases c_5 : op = 5
    · refine lv_tableIn (off := 310) (tgt := 343) hx hb dL_law_33 (by rw [c_5]; decide) (by rw [c_5]; decide) (by rw [c_5]; rfl) (by decide) ?_
      exact lc_weighings l hL hx hb hml hown hts hX hbl hK hE hi hj hRel hP hD hS hl back
    by_cases c_6 : op = 6
    · refine lv_tableIn (off := 333) (tgt := 366) hx hb dL_law_33 (by rw [c_6]; decide) (by rw [c_6]; decide) (by rw [c_6]; rfl) (by decide) ?_
      exact lc_hours l hL hx hb hml hown hts hX hbl hK hE hi hj hRel hP hD hS hl back
    by_cases c_7 : op = 7
    · refine lv_tableIn (off := 356) (tgt := 389) hx hb dL_law_33 (by rw [c_7]; decide) (by rw [c_7]; decide) (by rw [c_7]; rfl) (by decide) ?_
      exact lc_tried l hL hx hb hml hown hts hX hbl hK hE hi hj hRel hP hD hS hl back
    by_cases c_8 : op = 8
    · refine lv_tableIn (off := 389) (tgt := 422) hx hb dL_law_33 (by rw [c_8]; decide) (by rw [c_8]; decide) (by rw [c_8]; rfl) (by decide) ?_
      exact lc_walkerIs l hL hx hb hml hown hts hX hbl hK hE hi hj hRel hP hD hS hl back
    by_cases c_9 : op = 9
    · refine lv_tableIn (off := 422) (tgt := 455) hx hb dL_law_33 (by rw [c_9]; decide) (by rw [c_9]; decide) (by rw [c_9]; rfl) (by decide) ?_
      exact lc_standsFor l hL hx hb hml hown hts hX hbl hK hE hi hj hRel hP hD hS hl back
    by_cases c_10 : op = 10
    · refine lv_tableIn (off := 455) (tgt := 488) hx hb dL_law_33 (by rw [c_10]; decide) (by rw [c_10]; decide) (by rw [c_10]; rfl) (by decide) ?_
      exact lc_colonel l hL hx hb hml hown hts hX hbl hK hE hi hj hRel hP hD hS hl back
    by_cases c_11 : op = 11
    · refine lv_tableIn (off := 488) (tgt := 521) hx hb dL_law_33 (by rw [c_11]; decide) (by rw [c_11]; decide) (by rw [c_11]; rfl) (by decide) ?_
      exact lc_party l hL hx hb hml hown hts hX hbl hK hE hi hj hRel hP hD hS hl back
    by_cases c_12 : op = 12
    · refine lv_tableIn (off := 531) (tgt := 564) hx hb dL_law_33 (by rw [c_12]; decide) (by rw [c_12]; decide) (by rw [c_12]; rfl) (by decide) ?_
      exact lc_areTrue l hL hx hb hml hown hts hX hbl hK hE hi hj hRel hP hD hS hl back
    by_cases c_13 : op = 13
    · refine lv_tableIn (off := 554) (tgt := 587) hx hb dL_law_33 (by rw [c_13]; decide) (by rw [c_13]; decide) (by rw [c_13]; rfl) (by decide) ?_
      exact lc_odd l hL hx hb hml hown hts hX hbl hK hE hi hj hRel hP hD hS hl back
    by_cases c_14 : op = 14
    · refine lv_tableIn (off := 577) (tgt := 610) hx hb dL_law_33 (by rw [c_14]; decide) (by rw [c_14]; decide) (by rw [c_14]; rfl) (by decide) ?_
      exact lc_heavier l hL hx hb hml hown hts hX hbl hK hE hi hj hRel hP hD hS hl back
    by_cases c_15 : op = 15
    · refine lv_tableIn (off := 610) (tgt := 643) hx hb dL_law_33 (by rw [c_15]; decide) (by rw [c_15]; decide) (by rw [c_15]; rfl) (by decide) ?_
      exact lc_pairs l hL hx hb hml hown hts hX hbl hK hE hi hj hRel hP hD hS hl back
    by_cases c_16 : op = 16
    · refine lv_tableIn (off := 633) (tgt := 666) hx hb dL_law_33 (by rw [c_16]; decide) (by rw [c_16]; decide) (by rw [c_16]; rfl) (by decide) ?_
      exact lc_liars l hL hx hb hml hown hts hX hbl hK hE hi hj hRel hP hD hS hl back
    by_cases c_17 : op = 17
    · refine lv_tableIn (off := 656) (tgt := 689) hx hb dL_law_33 (by rw [c_17]; decide) (by rw [c_17]; decide) (by rw [c_17]; rfl) (by decide) ?_
      exact lc_teams l hL hx hb hml hown hts hX hbl hK hE hi hj hRel hP hD hS hl back
    by_cases c_18 : op = 18
    · refine lv_tableIn (off := 679) (tgt := 712) hx hb dL_law_33 (by rw [c_18]; decide) (by rw [c_18]; decide) (by rw [c_18]; rfl) (by decide) ?_
      exact lc_share l hL hx hb hml hown hts hX hbl hK hE hi hj hRel hP hD hS hl back
    by_cases c_19 : op = 19
    · refine lv_tableIn (off := 712) (tgt := 745) hx hb dL_law_33 (by rw [c_19]; decide) (by rw [c_19]; decide) (by rw [c_19]; rfl) (by decide) ?_
      exact lc_stones l hL hx hb hml hown hts hX hbl hK hE hi hj hRel hP hD hS hl back
    by_cases c_20 : op = 20
    · refine lv_tableIn (off := 761) (tgt := 794) hx hb dL_law_33 (by rw [c_20]; decide) (by rw [c_20]; decide) (by rw [c_20]; rfl) (by decide) ?_
      exact lc_fewest l hL hx hb hml hown hts hX hbl hK hE hi hj hRel hP hD hS hl back
    by_cases c_21 : op = 21
    · refine lv_tableIn (off := 794) (tgt := 827) hx hb dL_law_33 (by rw [c_21]; decide) (by rw [c_21]; decide) (by rw [c_21]; rfl) (by decide) ?_
      exact lc_seesaw l hL hx hb hml hown hts hX hbl hK hE hi hj hRel hP hD hS hl back
    by_cases c_22 : op = 22
    · refine lv_tableIn (off := 817) (tgt := 850) hx hb dL_law_33 (by rw [c_22]; decide) (by rw [c_22]; decide) (by rw [c_22]; rfl) (by decide) ?_
      exact lc_row l hL hx hb hml hown hts hX hbl hK hE hi hj hRel hP hD hS hl back
    by_cases c_23 : op = 23
    · refine lv_tableIn (off := 850) (tgt := 883) hx hb dL_law_33 (by rw [c_23]; decide) (by rw [c_23]; decide) (by rw [c_23]; rfl) (by decide) ?_
      exact lc_falseOne l hL hx hb hml hown hts hX hbl hK hE hi hj hRel hP hD hS hl back
    by_cases c_24 : op = 24
    · refine lv_tableIn (off := 899) (tgt := 932) hx hb dL_law_33 (by rw [c_24]; decide) (by rw [c_24]; decide) (by rw [c_24]; rfl) (by decide) ?_
      exact lc_scales l hL hx hb hml hown hts hX hbl hK hE hi hj hRel hP hD hS hl back
    by_cases c_25 : op = 25
    · refine lv_tableIn (off := 942) (tgt := 975) hx hb dL_law_33 (by rw [c_25]; decide) (by rw [c_25]; decide) (by rw [c_25]; rfl) (by decide) ?_
      exact lc_seed l hL hx hb hml hown hts hX hbl hK hE hi hj hRel hP hD hS hl back
    by_cases c_26 : op = 26
    · refine lv_tableIn (off := 965) (tgt := 998) hx hb dL_law_33 (by rw [c_26]; decide) (by rw [c_26]; decide) (by rw [c_26]; rfl) (by decide) ?_
      exact lc_keep l hL hx hb hml hown hts hX hbl hK hE hi hj hRel hP hD hS hl back
    by_cases c_27 : op = 27
    · refine lv_tableIn (off := 978) (tgt := 1011) hx hb dL_law_33 (by rw [c_27]; decide) (by rw [c_27]; decide) (by rw [c_27]; rfl) (by decide) ?_
      exact lc_undo l hL hx hb hml hown hts hX hbl hK hE hi hj hRel hP hD hS hl back
    by_cases c_28 : op = 28
    · refine lv_tableIn (off := 991) (tgt := 1024) hx hb dL_law_33 (by rw [c_28]; decide) (by rw [c_28]; decide) (by rw [c_28]; rfl) (by decide) ?_
      exact lc_check l hL hx hb hml hown hts hX hbl hK hE hi hj hRel hP hD hS hl back
    by_cases c_29 : op = 29
    · refine lv_tableIn (off := 1014) (tgt := 1047) hx hb dL_law_33 (by rw [c_29]; decide) (by rw [c_29]; decide) (by rw [c_29]; rfl) (by decide) ?_
      exact lc_count l hL hx hb hml hown hts hX hbl hK hE hi hj hRel hP hD hS hl back
    refine lv_tableOut (tgt := 1070) hx hb dL_law_33 (sw_out (x := op) 30 (by decide) (fun k9 hk9 => match k9, hk9 with | 0, _ => fun e9 => c_0 (e9.trans (by decide)) | 1, _ => fun e9 => c_1 (e9.trans (by decide)) | 2, _ => fun e9 => c_2 (e9.trans (by decide)) | 3, _ => fun e9 => c_3 (e9.trans (by decide)) | 4, _ => fun e9 => c_4 (e9.trans (by decide)) | 5, _ => fun e9 => c_5 (e9.trans (by decide)) | 6, _ => fun e9 => c_6 (e9.trans (by decide)) | 7, _ => fun e9 => c_7 (e9.trans (by decide)) | 8, _ => fun e9 => c_8 (e9.trans (by decide)) | 9, _ => fun e9 => c_9 (e9.trans (by decide)) | 10, _ => fun e9 => c_10 (e9.trans (by decide)) | 11, _ => fun e9 => c_11 (e9.trans (by decide)) | 12, _ => fun e9 => c_12 (e9.trans (by decide)) | 13, _ => fun e9 => c_13 (e9.trans (by decide)) | 14, _ => fun e9 => c_14 (e9.trans (by decide)) | 15, _ => fun e9 => c_15 (e9.trans (by decide)) | 16, _ => fun e9 => c_16 (e9.trans (by decide)) | 17, _ => fun e9 => c_17 (e9.trans (by decide)) | 18, _ => fun e9 => c_18 (e9.trans (by decide)) | 19, _ => fun e9 => c_19 (e9.trans (by decide)) | 20, _ => fun e9 => c_20 (e9.trans (by decide)) | 21, _ => fun e9 => c_21 (e9.trans (by decide)) | 22, _ => fun e9 => c_22 (e9.trans (by decide)) | 23, _ => fun e9 => c_23 (e9.trans (by decide)) | 24, _ => fun e9 => c_24 (e9.trans (by decide)) | 25, _ => fun e9 => c_25 (e9.trans (by decide)) | 26, _ => fun e9 => c_26 (e9.trans (by decide)) | 27, _ => fun e9 => c_27 (e9.trans (by decide)) | 28, _ => fun e9 => c_28 (e9.trans (by decide)) | 29, _ => fun e9 => c_29 (e9.trans (by decide)) | k9 + 30, hk9 => absurd hk9 (by omega))) (by decide) ?_
    exact back a aa g w v _ _ ls hRel hP hD hS hl
def gz : Nat → St := fun k => [zX11, zX8, zX1, zX9, zX9, zX9, zX7, zX4, zX3, zX0, zX6, zX5, z0, zX2, zX2, zX10, zX10].getD k z0
set_option maxRecDepth 20000 in
theorem in_nest : ∀ w ∈ nestL.map (fun q => Cond.methodLinkNest q.1 q.2.1 q.2.2.1 q.2.2.2), w ∈ lw_tbl := List.forall_mem_cons.mpr ⟨inT1 _ (List.mem_of_getElem? (i := 33) rfl), List.forall_mem_cons.mpr ⟨inT1 _ (List.mem_of_getElem? (i := 75) rfl), List.forall_mem_cons.mpr ⟨inT1 _ (List.mem_of_getElem? (i := 130) rfl), List.forall_mem_cons.mpr ⟨inT1 _ (List.mem_of_getElem? (i := 161) rfl), List.forall_mem_cons.mpr ⟨inT1 _ (List.mem_of_getElem? (i := 191) rfl), List.forall_mem_cons.mpr ⟨inT1 _ (List.mem_of_getElem? (i := 216) rfl), List.forall_mem_cons.mpr ⟨inT1 _ (List.mem_of_getElem? (i := 231) rfl), List.forall_mem_cons.mpr ⟨inT2 _ (List.mem_of_getElem? (i := 14) rfl), List.forall_mem_cons.mpr ⟨inT2 _ (List.mem_of_getElem? (i := 58) rfl), List.forall_mem_cons.mpr ⟨inT2 _ (List.mem_of_getElem? (i := 167) rfl), List.forall_mem_cons.mpr ⟨inT3 _ (List.mem_of_getElem? (i := 89) rfl), List.forall_mem_cons.mpr ⟨inT3 _ (List.mem_of_getElem? (i := 123) rfl), List.forall_mem_cons.mpr ⟨inT3 _ (List.mem_of_getElem? (i := 147) rfl), List.forall_mem_cons.mpr ⟨inT3 _ (List.mem_of_getElem? (i := 149) rfl), List.forall_mem_cons.mpr ⟨inT3 _ (List.mem_of_getElem? (i := 166) rfl), List.forall_mem_cons.mpr ⟨inT3 _ (List.mem_of_getElem? (i := 189) rfl), List.forall_mem_cons.mpr ⟨inT3 _ (List.mem_of_getElem? (i := 201) rfl), List.forall_mem_cons.mpr ⟨inT3 _ (List.mem_of_getElem? (i := 232) rfl), List.forall_mem_cons.mpr ⟨inT4 _ (List.mem_of_getElem? (i := 7) rfl), List.forall_mem_cons.mpr ⟨inT4 _ (List.mem_of_getElem? (i := 37) rfl), List.forall_mem_cons.mpr ⟨inT4 _ (List.mem_of_getElem? (i := 38) rfl), List.forall_mem_cons.mpr ⟨inT4 _ (List.mem_of_getElem? (i := 110) rfl), List.forall_mem_cons.mpr ⟨inT4 _ (List.mem_of_getElem? (i := 124) rfl), List.forall_mem_cons.mpr ⟨inT4 _ (List.mem_of_getElem? (i := 189) rfl), List.forall_mem_cons.mpr ⟨inT5 _ (List.mem_of_getElem? (i := 68) rfl), fun _ h => absurd h List.not_mem_nil⟩⟩⟩⟩⟩⟩⟩⟩⟩⟩⟩⟩⟩⟩⟩⟩⟩⟩⟩⟩⟩⟩⟩⟩⟩
def tmS (i : Nat) : Term := if i = 0 then .string "RopeScale$LawReader" 34 else .string "RopeScale$LawReader" 114
set_option maxHeartbeats 4000000 in
set_option maxRecDepth 100000 in
theorem start_sK {s : State} {b : Nat} (hts0 : ∀ w ∈ lw_tbl, w.before #[Value.ref b] s = true) (hgv : (Jvm.Cond.and given_1 narrow_1).before #[Value.ref b] s = true) : ∃ kv : (Nat → Nat) × (Nat → Nat), sK (fun q : Nat => s.heap.size ≤ q) kv s s.heap := by
  have hs := flat_of_before _ hgv
  have hA9 : ∀ a : Nat, a < s.heap.size → ¬ (fun q : Nat => s.heap.size ≤ q) a := fun a h => Nat.not_le.mpr h
  obtain ⟨adK, adV, h1, h2⟩ := vk_Sof (args := #[Value.ref b]) (s := s) (N := 2) (tm := tmS) (len := lenS) (byt := bytS) (A := fun q : Nat => s.heap.size ≤ q) (fun i hi => match i, hi with | 0, _ => by decide | 1, _ => by decide | i + 2, hi => absurd hi (by omega))
    (fun i hi => match i, hi with | 0, _ => hs _ (by decide +kernel) | 1, _ => hs _ (by decide +kernel) | i + 2, hi => absurd hi (by omega))
    (fun i hi => match i, hi with | 0, _ => hs _ (by decide +kernel) | 1, _ => hs _ (by decide +kernel) | i + 2, hi => absurd hi (by omega))
    (fun i hi => match i, hi with | 0, _ => hs _ (by decide +kernel) | 1, _ => hs _ (by decide +kernel) | i + 2, hi => absurd hi (by omega))
    (fun i hi => match i, hi with | 0, _ => hs _ (by decide +kernel) | 1, _ => hs _ (by decide +kernel) | i + 2, hi => absurd hi (by omega))
    (fun i hi j hj => match i, hi, j, hj with | 0, _, 0, _ => hs _ (by decide +kernel) | 0, _, 1, _ => hs _ (by decide +kernel) | 0, _, 2, _ => hs _ (by decide +kernel) | 0, _, 3, _ => hs _ (by decide +kernel) | 0, _, 4, _ => hs _ (by decide +kernel) | 0, _, 5, _ => hs _ (by decide +kernel) | 0, _, 6, _ => hs _ (by decide +kernel) | 0, _, j + 7, hj => absurd hj (by simp [lenS]) | 1, _, 0, _ => hs _ (by decide +kernel) | 1, _, 1, _ => hs _ (by decide +kernel) | 1, _, 2, _ => hs _ (by decide +kernel) | 1, _, 3, _ => hs _ (by decide +kernel) | 1, _, 4, _ => hs _ (by decide +kernel) | 1, _, 5, _ => hs _ (by decide +kernel) | 1, _, 6, _ => hs _ (by decide +kernel) | 1, _, 7, _ => hs _ (by decide +kernel) | 1, _, j + 8, hj => absurd hj (by simp [lenS]) | i + 2, hi, _, _ => absurd hi (by omega))
    (fun i j hi hj hij => match i, hi, j, hj with | 0, _, 0, _ => absurd rfl hij | 1, _, 1, _ => absurd rfl hij | 0, _, 1, _ => Or.inl (hs _ (by decide +kernel)) | 1, _, 0, _ => Or.inr (hs _ (by decide +kernel)) | i + 2, hi, _, _ => absurd hi (by omega) | 0, _, j + 2, hj => absurd hj (by omega) | 1, _, j + 2, hj => absurd hj (by omega)) hA9
  refine ⟨(adK, adV), h1, va_Zof (hts0 (.laysStatic "java/lang/String" "COMPACT_STRINGS" "Z") (inT2 _ (List.mem_of_getElem? (i := 233) rfl))) (hts0 (.initialized "java/lang/String") (inT1 _ (List.mem_of_getElem? (i := 15) rfl))) (va_eqi (hs _ (by decide +kernel))) hA9, ?_, ?_⟩
  · exact vk_R.of (hts0 (.stringRef RX3 34 "grfebwl") (inT2 _ (List.mem_of_getElem? (i := 219) rfl))) (h2 0 (by decide))
  · exact vk_R.of (hts0 (.stringRef RX3 114 "pvcondht") (inT3 _ (List.mem_of_getElem? (i := 78) rfl))) (h2 1 (by decide))
theorem start_arr {s : State} {A : Array Value} {ty : FieldType} (hty : va_RA s = fun c t => va_RA s c t) (h : (Cond.arrayClass ty).before A s = true) : ∃ c : ClassId, ArrOfT s c ty ∧ s.vm.findClass ("[" ++ ty.toString) = some c := by
  obtain ⟨c, k, comp, h1, h2, h3⟩ := Cond.arrayClass_spec h
  exact ⟨c, fun n z => ⟨fun k h => (by cases h), k, h2, comp, h3⟩, h1⟩
set_option maxHeartbeats 4000000 in
set_option maxRecDepth 100000 in
theorem start_cK {s : State} {b : Nat} (hts0 : ∀ w ∈ lw_tbl, w.before #[Value.ref b] s = true) : ∃ (D : va_G) (T : Ty3), cK D T s := by
  obtain ⟨c0, iS0, hKn0⟩ := u_known (C := RX0) (T := TX0) (N := 6) (n := 6) hts0 in_wX0 (hts0 _ tw_0)
  obtain ⟨c1, iS1, hKn1⟩ := u_known (C := RX1) (T := TX1) (N := 5) (n := 5) hts0 in_wX1 (hts0 _ tw_1)
  obtain ⟨c2, iS2, hKn2⟩ := u_known (C := RX2) (T := TX2) (N := 10) (n := 10) hts0 in_wX2 (hts0 _ tw_2)
  obtain ⟨c3, iS3, hKn3⟩ := u_known (C := RX3) (T := TX3) (N := 1) (n := 1) hts0 in_wX3 (hts0 _ tw_3)
  obtain ⟨c4, iS4, hKn4⟩ := u_known (C := RX4) (T := TX4) (N := 4) (n := 4) hts0 in_wX4 (hts0 _ tw_4)
  obtain ⟨c5, iS5, hKn5⟩ := u_known (C := RX5) (T := TX5) (N := 5) (n := 5) hts0 in_wX5 (hts0 _ tw_5)
  obtain ⟨c6, iS6, hKn6⟩ := u_known (C := RX6) (T := TX6) (N := 2) (n := 2) hts0 in_wX6 (hts0 _ tw_6)
  obtain ⟨c7, iS7, hKn7⟩ := u_known (C := RX7) (T := TX7) (N := 6) (n := 6) hts0 in_wX7 (hts0 _ tw_7)
  obtain ⟨c8, iS8, hKn8⟩ := u_known (C := RX8) (T := TX8) (N := 2) (n := 2) hts0 in_wX8 (hts0 _ tw_8)
  obtain ⟨c9, iS9, hKn9⟩ := u_known (C := RX9) (T := TX9) (N := 8) (n := 8) hts0 in_wX9 (hts0 _ tw_9)
  obtain ⟨c10, iS10, hKn10⟩ := u_known (C := RX10) (T := TX10) (N := 4) (n := 4) hts0 in_wX10 (hts0 _ tw_10)
  obtain ⟨c11, iS11, hKn11⟩ := u_known (C := RX11) (T := TX11) (N := 16) (n := 16) hts0 in_wX11 (hts0 _ tw_11)
  obtain ⟨c12, iS12, hKn12⟩ := u_known (C := RX12) (T := TX12) (N := 52) (n := 52) hts0 in_wX12 (hts0 _ tw_12)
  obtain ⟨tI, hAI, hRI⟩ := start_arr rfl (hts0 _ tw_13)
  obtain ⟨tB, hAB, hRB⟩ := start_arr rfl (hts0 _ tw_14)
  obtain ⟨tJ, hAJ, hRJ⟩ := start_arr rfl (hts0 _ tw_15)
  refine ⟨(fun k => [c0, c1, c2, c3, c4, c5, c6, c7, c8, c9, c10, c11, c12].getD k c0, fun k => [iS0, iS1, iS2, iS3, iS4, iS5, iS6, iS7, iS8, iS9, iS10, iS11, iS12].getD k iS0), (tI, tB, tJ), ⟨fun k q hq => ?_, fun k q hq => ?_⟩, fun q hq => ?_⟩
  · match k, hq with
    | 0, hq => cases hq; exact hKn0
    | 1, hq => cases hq; exact hKn1
    | 2, hq => cases hq; exact hKn2
    | 3, hq => cases hq; exact hKn3
    | 4, hq => cases hq; exact hKn4
    | 5, hq => cases hq; exact hKn5
    | 6, hq => cases hq; exact hKn6
    | 7, hq => cases hq; exact hKn7
    | 8, hq => cases hq; exact hKn8
    | 9, hq => cases hq; exact hKn9
    | 10, hq => cases hq; exact hKn10
    | 11, hq => cases hq; exact hKn11
    | 12, hq => cases hq; exact hKn12
    | k + 13, hq => simp [vwCl] at hq
  · match k, hq with
    | 0, hq => cases hq; exact ⟨hAI, hRI⟩
    | 1, hq => cases hq; exact ⟨hAB, hRB⟩
    | 2, hq => cases hq; exact ⟨hAJ, hRJ⟩
    | k + 3, hq => simp at hq
  · exact va_Nw.of rfl (hts0 _ (in_nest _ (List.mem_map.mpr ⟨q, hq, rfl⟩)))
set_option maxHeartbeats 4000000 in
set_option maxRecDepth 100000 in
theorem whole_start {p : Program} {e : Env} {s : State} {m : MethodId} {below : List Frame} {meth : Method} {c : Code} (l : Launch) {b L : Nat} {xs : Nat → Int32} (hL : L ≤ 3072) (C0 : lw_At p s m meth c b L xs) : W p l e room_1 s m #[Value.ref b] below meth c s.heap [] 0 0 (lw_Z below #[Value.ref b] s) (entryFrame m ([Value.ref b] : List Value).toArray 4) := by
  obtain ⟨hx, hb, hr, hml, hown, hts0, hX, hbl, hlocks, hgv⟩ := id C0
  have hts := hts0
  obtain ⟨kv, hE⟩ := start_sK hts0 hgv
  obtain ⟨D, T, hK⟩ := start_cK hts0
  have hA : ∀ q : Nat, s.heap.size ≤ q → (fun q : Nat => s.heap.size ≤ q) q := fun _ h => h
  have hS : va_S (fun q : Nat => s.heap.size ≤ q) s.heap s.heap [] := va_S.rf
  have hP : va_P D vwCl [] s.heap := P0
  have hD : va_D (fun q : Nat => s.heap.size ≤ q) [] := ⟨fun i j p q h => by simp at h, fun k q h => by simp at h⟩
  have hl := lv_entry ([.ref b]) (n := 4) (Nat.le_of_ble_eq_true rfl)
  rw [lg_entry_eq]
  generalize (lg_sl ([.ref b]) ++ List.replicate (4 - (lg_sl ([.ref b])).length) Slot.unset).toArray = ls at hl ⊢
  have hl : lv_has ls 4 [(0, .ref b)] := hl
  refine va_new (ci := 11) (fs := [.null, .null, .null, .null, .null, .null, .null, .null, .null, .null, .null, .null, .null, .null, .null, .int 0]) (C := RX11) (T := TX11) (N := 16) hx hb hts0 in_wX11 tyX11 tyX11_ok hown (hts0 _ tw_16) (hts0 _ tw_11) (hts0 _ tw_17) hK.1 hP hD hS hA rfl (fun j hj => match j, hj with | 0, _ => rfl | 1, _ => rfl | 2, _ => rfl | 3, _ => rfl | 4, _ => rfl | 5, _ => rfl | 6, _ => rfl | 7, _ => rfl | 8, _ => rfl | 9, _ => rfl | 10, _ => rfl | 11, _ => rfl | 12, _ => rfl | 13, _ => rfl | 14, _ => rfl | 15, _ => rfl | j + 16, hj => absurd hj (by omega)) (Nat.le_of_ble_eq_true rfl) (Nat.le_of_ble_eq_true rfl) dL_law_0 (fun q0 H hP hD hS => ?_)
  refine W.cs (cells' := 1) (slots' := 16) rfl rfl ?_
  refine lv_dup hx hb dL_law_3 rfl ?_
  have hPc := P_right hP
  have hDc := D_right hD
  have hFc9 := free_right hD hS hA
  refine cI2 (As := []) (rest := [.ref q0]) (c' := 65) (s' := 2771) ⟨hx, hb, hml, hown, fun w h => hts w (hv_X11_init w h)⟩ (iX11 l D T q0 _) (cwI 0 (fun w h => hts w (hv_X11_init w h)) gT_X11_init rfl rfl rfl (hts0 _ tw_17) (hts0 _ tw_18) (hts0 _ tw_19) rfl (by decide +kernel) ⟨Nat.le_of_ble_eq_true rfl, Nat.le_of_ble_eq_true rfl⟩) hPc hK rfl hl.1 rfl (Nat.le_of_ble_eq_true rfl) dL_law_4 ⟨Nat.le_of_ble_eq_true rfl, Nat.le_of_ble_eq_true rfl⟩ rfl rfl hDc hFc9 hS (fun a aa H9 locs hP1 hD1 hk1 hS => ?_)
  obtain ⟨hP, hD⟩ := join_right hP hD hk1 hFc9 hP1 hD1
  generalize H9 = H at hP hS ⊢
  have hP : va_P D vwCl (WG T q0 a aa gz (fun _ => 0)) H := hP
  have hD : va_D (fun q : Nat => s.heap.size ≤ q) (WG T q0 a aa gz (fun _ => 0)) := hD
  refine lv_astore_n (lv' := [(1, .ref q0), (0, .ref b)]) hx hb dL_law_7 rfl hl (by decide) rfl (fun ls hl => ?_)
  refine va_new (ci := 12) (fs := [.null, .null, .null, .int 0, .int 0, .null, .int 0, .int 0, .int 0, .int 0, .int 0, .int 0, .int 0, .int 0, .int 0, .int 0, .null, .null, .null, .null, .null, .null, .null, .null, .null, .null, .null, .null, .null, .int 0, .null, .null, .null, .null, .null, .null, .int 0, .int 0, .int 0, .int 0, .int 0, .int 0, .int 0, .null, .null, .int 0, .null, .null, .null, .null, .null, .int 0]) (C := RX12) (T := TX12) (N := 52) hx hb hts0 in_wX12 tyX12 tyX12_ok hown (hts0 _ tw_20) (hts0 _ tw_12) (hts0 _ tw_21) hK.1 hP hD hS hA rfl (fun j hj => match j, hj with | 0, _ => rfl | 1, _ => rfl | 2, _ => rfl | 3, _ => rfl | 4, _ => rfl | 5, _ => rfl | 6, _ => rfl | 7, _ => rfl | 8, _ => rfl | 9, _ => rfl | 10, _ => rfl | 11, _ => rfl | 12, _ => rfl | 13, _ => rfl | 14, _ => rfl | 15, _ => rfl | 16, _ => rfl | 17, _ => rfl | 18, _ => rfl | 19, _ => rfl | 20, _ => rfl | 21, _ => rfl | 22, _ => rfl | 23, _ => rfl | 24, _ => rfl | 25, _ => rfl | 26, _ => rfl | 27, _ => rfl | 28, _ => rfl | 29, _ => rfl | 30, _ => rfl | 31, _ => rfl | 32, _ => rfl | 33, _ => rfl | 34, _ => rfl | 35, _ => rfl | 36, _ => rfl | 37, _ => rfl | 38, _ => rfl | 39, _ => rfl | 40, _ => rfl | 41, _ => rfl | 42, _ => rfl | 43, _ => rfl | 44, _ => rfl | 45, _ => rfl | 46, _ => rfl | 47, _ => rfl | 48, _ => rfl | 49, _ => rfl | 50, _ => rfl | 51, _ => rfl | j + 52, hj => absurd hj (by omega)) (Nat.le_of_ble_eq_true rfl) (Nat.le_of_ble_eq_true rfl) dL_law_8 (fun q1 H hP hD hS => ?_)
  refine W.cs (cells' := 66) (slots' := 2823) rfl rfl ?_
  refine lv_dup hx hb dL_law_11 rfl ?_
  have hPc := P_right hP
  have hDc := D_right hD
  have hFc9 := free_right hD hS hA
  refine cI (As := []) (rest := [.ref q1]) (c' := 96) (s' := 13112) ⟨hx, hb, hml, hown, fun w h => hts w (hv_X12_init w h)⟩ (iX12 l D T q1 _) (cwI 0 (fun w h => hts w (hv_X12_init w h)) gT_X12_init rfl rfl rfl (hts0 _ tw_21) (hts0 _ tw_22) (hts0 _ tw_23) rfl (by decide +kernel) ⟨Nat.le_of_ble_eq_true rfl, Nat.le_of_ble_eq_true rfl⟩) hPc hK rfl hl.1 rfl (Nat.le_of_ble_eq_true rfl) dL_law_12 ⟨Nat.le_of_ble_eq_true rfl, Nat.le_of_ble_eq_true rfl⟩ rfl rfl hDc hFc9 hS (fun am H9 locs hP1 hD1 hk1 hS => ?_)
  obtain ⟨hP, hD⟩ := join_right hP hD hk1 hFc9 hP1 hD1
  generalize H9 = H at hP hS ⊢
  refine lv_astore_n (lv' := [(2, .ref q1), (1, .ref q0), (0, .ref b)]) hx hb dL_law_15 rfl hl (by decide) rfl (fun ls hl => ?_)
  refine lv_iconst (v := 0) hx hb dL_law_16 (by decide) ?_
  refine lv_istore_n (lv' := [(3, .int 0), (2, .ref q1), (1, .ref q0), (0, .ref b)]) hx hb dL_law_17 rfl hl (by decide) rfl (fun ls hl => ?_)
  exact law_loop l hL hx hb hml hown hts hX hbl hK hE hr hlocks (L + 7) 0 0 a aa gz (fun _ => 0) zX12 _ _ ls (by omega) (by omega) rfl rel_start hP hD hS (lv_sub hl [3, 2, 1, 0] rfl)
