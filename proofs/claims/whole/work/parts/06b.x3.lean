def fJ1_canEncode_9a6ad   (p0 : Int32) : (Int32) := if p0 < 0 then 0 else if 255 < p0 then 0 else 1
set_option maxHeartbeats 4000000 in
set_option maxRecDepth 100000 in
theorem mJ1_canEncode_9a6ad (l : Launch) (D : va_G) (T : Ty3)  (p0 : Int32) (res : Int32) (hf : fJ1_canEncode_9a6ad p0 = res) : Met l yJ1_canEncode_9a6ad wsJ1_canEncode_9a6ad ({ frames := 0, cells := 0, slots := 0, locals := 0 }) (PcR D T ([]) [.int p0]) (QR res) 0 0 noA := by
  refine Met.ofW (cc := cJ1_canEncode_9a6ad) (maxL := 1) (ret := (some .boolean)) (by decide) rfl ?_
  intro p e s m args below meth c s₁ B hml hv
  obtain ⟨rfl, hP, hK⟩ := hv
  have hx := B.exec
  have hb := B.bytes
  have hr := B.returns
  have hts := atoms_spec (ws := wsJ1_canEncode_9a6ad) B.pre
  have hown : s.vm.findClass RJ1 = some m.cls := findClass_of_methodNamed B.named
  have hlocks := B.notSynchronized
  have hS : va_S noA s.heap s.heap [] := va_S.rf
  have hl := lv_entry ([.int p0]) (n := 1) (Nat.le_of_ble_eq_true rfl)
  rw [lg_entry_eq]
  generalize (lg_sl ([.int p0]) ++ List.replicate (1 - (lg_sl ([.int p0])).length) Slot.unset).toArray = ls at hl ⊢
  have hl : lv_has ls 1 [(0, .int p0)] := hl
  unfold fJ1_canEncode_9a6ad at hf
  refine lv_iload_n hx hb dJ1_canEncode_9a6ad_0 rfl (lv_at hl 0 rfl) ?_
  refine lv_if_lt (tgt := 15) hx hb dJ1_canEncode_9a6ad_1 (by decide) (fun c1 => ?_) (fun c1 => ?_)
  · replace hf := ifp c1 hf
    refine lv_iconst (v := 0) hx hb dJ1_canEncode_9a6ad_15 (by decide) ?_
    exact retRz hx hb hr hlocks hS rfl hf dJ1_canEncode_9a6ad_16
  replace hf := ifn c1 hf
  refine lv_iload_n hx hb dJ1_canEncode_9a6ad_4 rfl (lv_at hl 0 rfl) ?_
  refine lv_sipush (v := 255) hx hb dJ1_canEncode_9a6ad_5 (by decide) ?_
  refine lv_icmp_gt (tgt := 15) hx hb dJ1_canEncode_9a6ad_8 (by decide) (fun c2 => ?_) (fun c2 => ?_)
  · replace hf := ifp c2 hf
    refine lv_iconst (v := 0) hx hb dJ1_canEncode_9a6ad_15 (by decide) ?_
    exact retRz hx hb hr hlocks hS rfl hf dJ1_canEncode_9a6ad_16
  replace hf := ifn c2 hf
  refine lv_iconst (v := 1) hx hb dJ1_canEncode_9a6ad_11 (by decide) ?_
  refine lv_goto (tgt := 16) hx hb dJ1_canEncode_9a6ad_12 (by decide) ?_
  exact retRz hx hb hr hlocks hS rfl hf dJ1_canEncode_9a6ad_16
def fJ0_coder_7d493    : (Int32) := 0
set_option maxHeartbeats 4000000 in
set_option maxRecDepth 100000 in
theorem mJ0_coder_7d493 (l : Launch) (D : va_G) (T : Ty3) (kv : (Nat → Nat) × (Nat → Nat)) (i : Nat) (hi : i < 2)   (res : Int32) (hf : fJ0_coder_7d493  = res) : Met l yJ0_coder_7d493 wsJ0_coder_7d493 ({ frames := 0, cells := 0, slots := 0, locals := 0 }) (PcS D T kv [.ref (kv.1 i)]) (QR res) 0 0 noA := by
  refine Met.ofW (cc := cJ0_coder_7d493) (maxL := 1) (ret := (some .byte)) (by decide) rfl ?_
  intro p e s m args below meth c s₁ B hml hv
  obtain ⟨rfl, hP, hK, hE⟩ := hv
  have hx := B.exec
  have hb := B.bytes
  have hr := B.returns
  have hts := atoms_spec (ws := wsJ0_coder_7d493) B.pre
  have hown : s.vm.findClass RJ0 = some m.cls := findClass_of_methodNamed B.named
  have hlocks := B.notSynchronized
  have hS : va_S noA s.heap s.heap [] := va_S.rf
  have hl := lv_entry ([.ref (kv.1 i)]) (n := 1) (Nat.le_of_ble_eq_true rfl)
  rw [lg_entry_eq]
  generalize (lg_sl ([.ref (kv.1 i)]) ++ List.replicate (1 - (lg_sl ([.ref (kv.1 i)])).length) Slot.unset).toArray = ls at hl ⊢
  have hl : lv_has ls 1 [(0, .ref (kv.1 i))] := hl
  unfold fJ0_coder_7d493 at hf
  refine va_gets hx hb hE.2.1 hS hown (hts (.fieldLink RJ0 38 "java/lang/String" "COMPACT_STRINGS" "Z") (List.mem_of_getElem? (i := 1) rfl)) (fun _ h9 => h9) dJ0_coder_7d493_0 ?_
  refine lv_if_eq (tgt := 13) hx hb dJ0_coder_7d493_3 (by decide) (fun c9 => absurd c9 (by decide)) (fun _ => ?_)
  refine lv_aload_n hx hb dJ0_coder_7d493_6 rfl (lv_at hl 0 rfl) ?_
  refine vk_getf hx hb (hE.1.1 i hi).2.1 hS hown (hts (.fieldLink RJ0 15 "java/lang/String" "coder" "B") (List.mem_of_getElem? (i := 2) rfl)) (fun _ h9 => h9) dJ0_coder_7d493_7 ?_
  refine lv_goto (tgt := 14) hx hb dJ0_coder_7d493_10 (by decide) ?_
  exact retRb hx hb hr hlocks hS rfl hf dJ0_coder_7d493_14
def fJ0_isLatin1_aae02    : (Int32) := 1
set_option maxHeartbeats 4000000 in
set_option maxRecDepth 100000 in
theorem mJ0_isLatin1_aae02 (l : Launch) (D : va_G) (T : Ty3) (kv : (Nat → Nat) × (Nat → Nat)) (i : Nat) (hi : i < 2)   (res : Int32) (hf : fJ0_isLatin1_aae02  = res) : Met l yJ0_isLatin1_aae02 wsJ0_isLatin1_aae02 ({ frames := 0, cells := 0, slots := 0, locals := 0 }) (PcS D T kv [.ref (kv.1 i)]) (QR res) 0 0 noA := by
  refine Met.ofW (cc := cJ0_isLatin1_aae02) (maxL := 1) (ret := (some .boolean)) (by decide) rfl ?_
  intro p e s m args below meth c s₁ B hml hv
  obtain ⟨rfl, hP, hK, hE⟩ := hv
  have hx := B.exec
  have hb := B.bytes
  have hr := B.returns
  have hts := atoms_spec (ws := wsJ0_isLatin1_aae02) B.pre
  have hown : s.vm.findClass RJ0 = some m.cls := findClass_of_methodNamed B.named
  have hlocks := B.notSynchronized
  have hS : va_S noA s.heap s.heap [] := va_S.rf
  have hl := lv_entry ([.ref (kv.1 i)]) (n := 1) (Nat.le_of_ble_eq_true rfl)
  rw [lg_entry_eq]
  generalize (lg_sl ([.ref (kv.1 i)]) ++ List.replicate (1 - (lg_sl ([.ref (kv.1 i)])).length) Slot.unset).toArray = ls at hl ⊢
  have hl : lv_has ls 1 [(0, .ref (kv.1 i))] := hl
  unfold fJ0_isLatin1_aae02 at hf
  refine va_gets hx hb hE.2.1 hS hown (hts (.fieldLink RJ0 38 "java/lang/String" "COMPACT_STRINGS" "Z") (List.mem_of_getElem? (i := 1) rfl)) (fun _ h9 => h9) dJ0_isLatin1_aae02_0 ?_
  refine lv_if_eq (tgt := 17) hx hb dJ0_isLatin1_aae02_3 (by decide) (fun c9 => absurd c9 (by decide)) (fun _ => ?_)
  refine lv_aload_n hx hb dJ0_isLatin1_aae02_6 rfl (lv_at hl 0 rfl) ?_
  refine vk_getf hx hb (hE.1.1 i hi).2.1 hS hown (hts (.fieldLink RJ0 15 "java/lang/String" "coder" "B") (List.mem_of_getElem? (i := 2) rfl)) (fun _ h9 => h9) dJ0_isLatin1_aae02_7 ?_
  refine lv_if_ne (tgt := 17) hx hb dJ0_isLatin1_aae02_10 (by decide) (fun c9 => absurd c9 (by decide)) (fun _ => ?_)
  refine lv_iconst (v := 1) hx hb dJ0_isLatin1_aae02_13 (by decide) ?_
  refine lv_goto (tgt := 18) hx hb dJ0_isLatin1_aae02_14 (by decide) ?_
  exact retRz hx hb hr hlocks hS rfl hf dJ0_isLatin1_aae02_18
def fJ0_length_8abf5 (i : Nat)    : (Int32) := jshr (sn i) 0
set_option maxHeartbeats 4000000 in
set_option maxRecDepth 100000 in
theorem mJ0_length_8abf5 (l : Launch) (D : va_G) (T : Ty3) (kv : (Nat → Nat) × (Nat → Nat)) (i : Nat) (hi : i < 2)   (res : Int32) (hf : fJ0_length_8abf5 i  = res) : Met l yJ0_length_8abf5 wsJ0_length_8abf5 ({ frames := 1, cells := 0, slots := 0, locals := 20 }) (PcS D T kv [.ref (kv.1 i)]) (QR res) 0 0 noA := by
  refine Met.ofW (cc := cJ0_length_8abf5) (maxL := 1) (ret := (some .int)) (by decide) rfl ?_
  intro p e s m args below meth c s₁ B hml hv
  obtain ⟨rfl, hP, hK, hE⟩ := hv
  have hx := B.exec
  have hb := B.bytes
  have hr := B.returns
  have hts := atoms_spec (ws := wsJ0_length_8abf5) B.pre
  have hown : s.vm.findClass RJ0 = some m.cls := findClass_of_methodNamed B.named
  have hlocks := B.notSynchronized
  have hS : va_S noA s.heap s.heap [] := va_S.rf
  have hl := lv_entry ([.ref (kv.1 i)]) (n := 1) (Nat.le_of_ble_eq_true rfl)
  rw [lg_entry_eq]
  generalize (lg_sl ([.ref (kv.1 i)]) ++ List.replicate (1 - (lg_sl ([.ref (kv.1 i)])).length) Slot.unset).toArray = ls at hl ⊢
  have hl : lv_has ls 1 [(0, .ref (kv.1 i))] := hl
  unfold fJ0_length_8abf5 at hf
  refine lv_aload_n hx hb dJ0_length_8abf5_0 rfl (lv_at hl 0 rfl) ?_
  refine vk_getf hx hb (hE.1.1 i hi).2.2.1 hS hown (hts (.fieldLink RJ0 9 "java/lang/String" "value" "[B") (List.mem_of_getElem? (i := 1) rfl)) (fun _ h9 => h9) dJ0_length_8abf5_1 ?_
  refine va_tlen (v := sn i) hx hb (hE.1.1 i hi).2.2.2 hS rfl dJ0_length_8abf5_4 ?_
  refine lv_aload_n hx hb dJ0_length_8abf5_5 rfl (lv_at hl 0 rfl) ?_
  refine cVRS (As := []) (rest := [.int (sn i)]) ⟨hx, hb, hml, hown, hts⟩ (mJ0_coder_7d493 l D T kv i hi 0 rfl) (cwV 0 hts gJ0_length_8abf5_J0_coder_7d493 rfl rfl rfl (by decide +kernel) ⟨Nat.le_of_ble_eq_true rfl, Nat.le_of_ble_eq_true rfl⟩) (vk_recv hE.1 hi hS) P0 hK rfl hl.1 rfl (Nat.le_of_ble_eq_true rfl) dJ0_length_8abf5_6 ⟨Nat.le_of_ble_eq_true rfl, Nat.le_of_ble_eq_true rfl⟩ hE hP hS (fun H locs hP hS => ?_)
  refine lv_ishr hx hb dJ0_length_8abf5_9 ?_
  exact retR hx hb hr hlocks hS hf dJ0_length_8abf5_10
def bJ1_indexOfChar_4cfef_L7 (i : Nat)   (lp7 : Int32 → Int32 → Int32 → Option (Int32)) (x3 : Int32) (x4 : Int32) (x5 : Int32) : Option (Int32) := if x3 ≤ x5 then some (-1) else gd x5 (lenS.getD i 0) <| if (sb i (ix x5)) = x4 then some x5 else lett (x5 + 1) fun t3 => lp7 x3 x4 t3
def fJ1_indexOfChar_4cfef_L7 (i : Nat)   : Nat → Int32 → Int32 → Int32 → Option (Int32)
  | 0, _, _, _ => none
  | n + 1, x3, x4, x5 => bJ1_indexOfChar_4cfef_L7 i (fJ1_indexOfChar_4cfef_L7 i n) x3 x4 x5
def fJ1_indexOfChar_4cfef (i : Nat)   (p1 : Int32) (p2 : Int32) (p3 : Int32) : Option (Int32) := lett (ji2b p1) fun t5 => fJ1_indexOfChar_4cfef_L7 i FU p3 t5 p2
set_option maxHeartbeats 4000000 in
set_option maxRecDepth 100000 in
theorem mJ1_indexOfChar_4cfef (l : Launch) (D : va_G) (T : Ty3) (kv : (Nat → Nat) × (Nat → Nat)) (i : Nat) (hi : i < 2)  (p1 : Int32) (p2 : Int32) (p3 : Int32) (res : Int32) (hf : fJ1_indexOfChar_4cfef i p1 p2 p3 = some res) : Met l yJ1_indexOfChar_4cfef wsJ1_indexOfChar_4cfef ({ frames := 0, cells := 0, slots := 0, locals := 0 }) (PcS D T kv [.ref (kv.2 i), .int p1, .int p2, .int p3]) (QR res) 0 0 noA := by
  refine Met.ofW (cc := cJ1_indexOfChar_4cfef) (maxL := 6) (ret := (some .int)) (by decide) rfl ?_
  intro p e s m args below meth c s₁ B hml hv
  obtain ⟨rfl, hP, hK, hE⟩ := hv
  have hx := B.exec
  have hb := B.bytes
  have hr := B.returns
  have hts := atoms_spec (ws := wsJ1_indexOfChar_4cfef) B.pre
  have hown : s.vm.findClass RJ1 = some m.cls := findClass_of_methodNamed B.named
  have hlocks := B.notSynchronized
  have hS : va_S noA s.heap s.heap [] := va_S.rf
  have hl := lv_entry ([.ref (kv.2 i), .int p1, .int p2, .int p3]) (n := 6) (Nat.le_of_ble_eq_true rfl)
  rw [lg_entry_eq]
  generalize (lg_sl ([.ref (kv.2 i), .int p1, .int p2, .int p3]) ++ List.replicate (6 - (lg_sl ([.ref (kv.2 i), .int p1, .int p2, .int p3])).length) Slot.unset).toArray = ls at hl ⊢
  have hl : lv_has ls 6 [(0, .ref (kv.2 i)), (1, .int p1), (2, .int p2), (3, .int p3)] := hl
  have L7 : ∀ (n7 : Nat), ∀ (x3 : Int32) (x4 : Int32) (x5 : Int32) (H : Heap) (locs : List Loc) (ls : Array Slot), fJ1_indexOfChar_4cfef_L7 i n7 x3 x4 x5 = some res → va_P D vwCl ([]) H → va_S noA s.heap H locs → lv_has ls 6 [(0, .ref (kv.2 i)), (3, .int x3), (4, .int x4), (5, .int x5)] → W p l e (headSpec wsJ1_indexOfChar_4cfef ({ frames := 0, cells := 0, slots := 0, locals := 0 })).room s m ([.ref (kv.2 i), .int p1, .int p2, .int p3] : List Value).toArray below meth c H locs 0 0 (MQ below (QR res) ([.ref (kv.2 i), .int p1, .int p2, .int p3] : List Value).toArray s 0 0 noA) (F0 m 7 ls []) := by
    intro n7
    induction n7 with
    | zero => intro x3 x4 x5 H locs ls hf; exact nns hf
    | succ n7 ih7 =>
      intro x3 x4 x5 H locs ls hf hP hS hl
      replace hf : bJ1_indexOfChar_4cfef_L7 i (fJ1_indexOfChar_4cfef_L7 i n7) x3 x4 x5 = some res := hf
      unfold bJ1_indexOfChar_4cfef_L7 at hf
      refine lv_iload hx hb dJ1_indexOfChar_4cfef_7 (lv_at hl 3 rfl) ?_
      refine lv_iload_n hx hb dJ1_indexOfChar_4cfef_9 rfl (lv_at hl 1 rfl) ?_
      refine lv_icmp_ge (tgt := 31) hx hb dJ1_indexOfChar_4cfef_10 (by decide) (fun c1 => ?_) (fun c1 => ?_)
      · replace hf := ifp c1 hf
        refine lv_iconst (v := (-1)) hx hb dJ1_indexOfChar_4cfef_31 (by decide) ?_
        exact retR hx hb hr hlocks hS (Option.some.inj hf) dJ1_indexOfChar_4cfef_32
      replace hf := ifn c1 hf
      refine lv_aload_n hx hb dJ1_indexOfChar_4cfef_13 rfl (lv_at hl 0 rfl) ?_
      refine lv_iload hx hb dJ1_indexOfChar_4cfef_14 (lv_at hl 3 rfl) ?_
      obtain ⟨h4, hf⟩ := gd_e hf
      refine va_tb (v := .int (sb i (ix x5))) hx hb (hE.1.1 i hi).2.2.2 hS h4 rfl dJ1_indexOfChar_4cfef_16 ?_
      refine lv_iload hx hb dJ1_indexOfChar_4cfef_17 (lv_at hl 2 rfl) ?_
      refine lv_icmp_ne (tgt := 25) hx hb dJ1_indexOfChar_4cfef_19 (by decide) (fun c2 => ?_) (fun c2 => ?_)
      · replace hf := ifn c2 hf
        obtain ⟨t3, et3, hf⟩ := lett_e hf
        refine lv_iinc (v := t3) (lv' := [(5, .int t3), (0, .ref (kv.2 i)), (3, .int x3), (4, .int x4)]) hx hb dJ1_indexOfChar_4cfef_25 hl (k := 3) rfl (by rw [et3]; rfl) (by decide) rfl (fun ls hl => ?_)
        refine lv_goto (tgt := 7) hx hb dJ1_indexOfChar_4cfef_28 (by decide) ?_
        exact ih7 x3 x4 t3 _ _ _ hf hP hS (lv_sub hl [1, 2, 3, 0] rfl)
      replace hf := ifp c2 hf
      refine lv_iload hx hb dJ1_indexOfChar_4cfef_22 (lv_at hl 3 rfl) ?_
      exact retR hx hb hr hlocks hS (Option.some.inj hf) dJ1_indexOfChar_4cfef_24
  unfold fJ1_indexOfChar_4cfef at hf
  refine lv_iload_n hx hb dJ1_indexOfChar_4cfef_0 rfl (lv_at hl 1 rfl) ?_
  refine lv_i2b hx hb dJ1_indexOfChar_4cfef_1 rfl ?_
  obtain ⟨t5, et5, hf⟩ := lett_e hf
  refine lv_eqi et5 ?_
  refine lv_istore (lv' := [(4, .int t5), (0, .ref (kv.2 i)), (1, .int p1), (2, .int p2), (3, .int p3)]) hx hb dJ1_indexOfChar_4cfef_2 hl (by decide) rfl (fun ls hl => ?_)
  refine lv_iload_n hx hb dJ1_indexOfChar_4cfef_4 rfl (lv_at hl 3 rfl) ?_
  refine lv_istore (lv' := [(5, .int p2), (4, .int t5), (0, .ref (kv.2 i)), (1, .int p1), (2, .int p2), (3, .int p3)]) hx hb dJ1_indexOfChar_4cfef_5 hl (by decide) rfl (fun ls hl => ?_)
  exact L7 FU p3 t5 p2 _ _ _ hf hP hS (lv_sub hl [2, 5, 1, 0] rfl)
def fJ1_indexOf_4cfef (i : Nat)   (p1 : Int32) (p2 : Int32) (p3 : Int32) : Option (Int32) := lett (fJ1_canEncode_9a6ad p1) fun z1 => if z1 = 0 then some (-1) else lett (mx p2 0) fun t3 => lett (mn p3 (sn i)) fun t4 => if t3 < t4 then (fJ1_indexOfChar_4cfef i p1 t3 t4).bind fun z6 => some z6 else some (-1)
set_option maxHeartbeats 4000000 in
set_option maxRecDepth 100000 in
theorem mJ1_indexOf_4cfef (l : Launch) (D : va_G) (T : Ty3) (kv : (Nat → Nat) × (Nat → Nat)) (i : Nat) (hi : i < 2)  (p1 : Int32) (p2 : Int32) (p3 : Int32) (res : Int32) (hf : fJ1_indexOf_4cfef i p1 p2 p3 = some res) : Met l yJ1_indexOf_4cfef wsJ1_indexOf_4cfef ({ frames := 1, cells := 0, slots := 0, locals := 25 }) (PcS D T kv [.ref (kv.2 i), .int p1, .int p2, .int p3]) (QR res) 0 0 noA := by
  refine Met.ofW (cc := cJ1_indexOf_4cfef) (maxL := 4) (ret := (some .int)) (by decide) rfl ?_
  intro p e s m args below meth c s₁ B hml hv
  obtain ⟨rfl, hP, hK, hE⟩ := hv
  have hx := B.exec
  have hb := B.bytes
  have hr := B.returns
  have hts := atoms_spec (ws := wsJ1_indexOf_4cfef) B.pre
  have hown : s.vm.findClass RJ1 = some m.cls := findClass_of_methodNamed B.named
  have hlocks := B.notSynchronized
  have hS : va_S noA s.heap s.heap [] := va_S.rf
  have hl := lv_entry ([.ref (kv.2 i), .int p1, .int p2, .int p3]) (n := 4) (Nat.le_of_ble_eq_true rfl)
  rw [lg_entry_eq]
  generalize (lg_sl ([.ref (kv.2 i), .int p1, .int p2, .int p3]) ++ List.replicate (4 - (lg_sl ([.ref (kv.2 i), .int p1, .int p2, .int p3])).length) Slot.unset).toArray = ls at hl ⊢
  have hl : lv_has ls 4 [(0, .ref (kv.2 i)), (1, .int p1), (2, .int p2), (3, .int p3)] := hl
  unfold fJ1_indexOf_4cfef at hf
  refine lv_iload_n hx hb dJ1_indexOf_4cfef_0 rfl (lv_at hl 1 rfl) ?_
  obtain ⟨z1, hz1, hf⟩ := lett_e hf
  refine cSR (As := [.int p1]) (rest := []) ⟨hx, hb, hml, hown, hts⟩ (mJ1_canEncode_9a6ad l D T p1 z1 hz1.symm) (va_cwS 1 hts gJ1_indexOf_4cfef_J1_canEncode_9a6ad rfl rfl rfl (by decide +kernel) ⟨Nat.le_of_ble_eq_true rfl, Nat.le_of_ble_eq_true rfl⟩) P0 hK rfl hl.1 rfl (Nat.le_of_ble_eq_true rfl) dJ1_indexOf_4cfef_1 ⟨Nat.le_of_ble_eq_true rfl, Nat.le_of_ble_eq_true rfl⟩ hP hS (fun H locs hP hS => ?_)
  refine lv_if_ne (tgt := 9) hx hb dJ1_indexOf_4cfef_4 (by decide) (fun c2 => ?_) (fun c2 => ?_)
  · replace hf := ifn c2 hf
    refine lv_iload_n hx hb dJ1_indexOf_4cfef_9 rfl (lv_at hl 2 rfl) ?_
    refine lv_iconst (v := 0) hx hb dJ1_indexOf_4cfef_10 (by decide) ?_
    refine mmax hx hb (hml.trans hl.1.symm) hown (hts (.methodLink RJ1 92 Lib.Math.max.name) (List.mem_of_getElem? (i := 1) rfl)) (hts (.static Lib.Math.max.name) (List.mem_of_getElem? (i := 2) rfl)) (hts (.initialized "java/lang/Math") (List.mem_of_getElem? (i := 3) rfl)) (hts (.code Lib.Math.max.name Lib.Math.max.code 2 (some .int)) (List.mem_of_getElem? (i := 4) rfl)) (Nat.le_of_ble_eq_true rfl) (Nat.le_of_ble_eq_true rfl) (Nat.le_of_ble_eq_true rfl) (Nat.le_of_ble_eq_true rfl) dJ1_indexOf_4cfef_11 ?_
    obtain ⟨t3, et3, hf⟩ := lett_e hf
    refine lv_eqi et3 ?_
    refine lv_istore_n (lv' := [(2, .int t3), (0, .ref (kv.2 i)), (1, .int p1), (3, .int p3)]) hx hb dJ1_indexOf_4cfef_14 rfl hl (by decide) rfl (fun ls hl => ?_)
    refine lv_iload_n hx hb dJ1_indexOf_4cfef_15 rfl (lv_at hl 3 rfl) ?_
    refine lv_aload_n hx hb dJ1_indexOf_4cfef_16 rfl (lv_at hl 1 rfl) ?_
    refine va_tlen (v := sn i) hx hb (hE.1.1 i hi).2.2.2 hS rfl dJ1_indexOf_4cfef_17 ?_
    refine mmin hx hb (hml.trans hl.1.symm) hown (hts (.methodLink RJ1 38 Lib.Math.min.name) (List.mem_of_getElem? (i := 5) rfl)) (hts (.static Lib.Math.min.name) (List.mem_of_getElem? (i := 6) rfl)) (hts (.initialized "java/lang/Math") (List.mem_of_getElem? (i := 3) rfl)) (hts (.code Lib.Math.min.name Lib.Math.min.code 2 (some .int)) (List.mem_of_getElem? (i := 7) rfl)) (Nat.le_of_ble_eq_true rfl) (Nat.le_of_ble_eq_true rfl) (Nat.le_of_ble_eq_true rfl) (Nat.le_of_ble_eq_true rfl) dJ1_indexOf_4cfef_18 ?_
    obtain ⟨t4, et4, hf⟩ := lett_e hf
    refine lv_eqi et4 ?_
    refine lv_istore_n (lv' := [(3, .int t4), (2, .int t3), (0, .ref (kv.2 i)), (1, .int p1)]) hx hb dJ1_indexOf_4cfef_21 rfl hl (by decide) rfl (fun ls hl => ?_)
    refine lv_iload_n hx hb dJ1_indexOf_4cfef_22 rfl (lv_at hl 1 rfl) ?_
    refine lv_iload_n hx hb dJ1_indexOf_4cfef_23 rfl (lv_at hl 0 rfl) ?_
    refine lv_icmp_lt (tgt := 29) hx hb dJ1_indexOf_4cfef_24 (by decide) (fun c5 => ?_) (fun c5 => ?_)
    · replace hf := ifp c5 hf
      refine lv_aload_n hx hb dJ1_indexOf_4cfef_29 rfl (lv_at hl 2 rfl) ?_
      refine lv_iload_n hx hb dJ1_indexOf_4cfef_30 rfl (lv_at hl 3 rfl) ?_
      refine lv_iload_n hx hb dJ1_indexOf_4cfef_31 rfl (lv_at hl 1 rfl) ?_
      refine lv_iload_n hx hb dJ1_indexOf_4cfef_32 rfl (lv_at hl 0 rfl) ?_
      obtain ⟨z6, hz6, hf⟩ := bnd hf
      refine cSRS (As := [.ref (kv.2 i), .int p1, .int t3, .int t4]) (rest := []) ⟨hx, hb, hml, hown, hts⟩ (mJ1_indexOfChar_4cfef l D T kv i hi p1 t3 t4 z6 hz6) (va_cwS 4 hts gJ1_indexOf_4cfef_J1_indexOfChar_4cfef rfl rfl rfl (by decide +kernel) ⟨Nat.le_of_ble_eq_true rfl, Nat.le_of_ble_eq_true rfl⟩) P0 hK rfl hl.1 rfl (Nat.le_of_ble_eq_true rfl) dJ1_indexOf_4cfef_33 ⟨Nat.le_of_ble_eq_true rfl, Nat.le_of_ble_eq_true rfl⟩ hE hP hS (fun H locs hP hS => ?_)
      exact retR hx hb hr hlocks hS (Option.some.inj hf) dJ1_indexOf_4cfef_36
    replace hf := ifn c5 hf
    refine lv_iconst (v := (-1)) hx hb dJ1_indexOf_4cfef_27 (by decide) ?_
    exact retR hx hb hr hlocks hS (Option.some.inj hf) dJ1_indexOf_4cfef_28
  replace hf := ifp c2 hf
  refine lv_iconst (v := (-1)) hx hb dJ1_indexOf_4cfef_7 (by decide) ?_
  exact retR hx hb hr hlocks hS (Option.some.inj hf) dJ1_indexOf_4cfef_8
def fJ0_indexOf_7cf53 (i : Nat)   (p1 : Int32) (p2 : Int32) : Option (Int32) := lett (fJ0_length_8abf5 i) fun z3 => (fJ1_indexOf_4cfef i p1 p2 z3).bind fun z4 => some z4
set_option maxHeartbeats 4000000 in
set_option maxRecDepth 100000 in
theorem mJ0_indexOf_7cf53 (l : Launch) (D : va_G) (T : Ty3) (kv : (Nat → Nat) × (Nat → Nat)) (i : Nat) (hi : i < 2)  (p1 : Int32) (p2 : Int32) (res : Int32) (hf : fJ0_indexOf_7cf53 i p1 p2 = some res) : Met l yJ0_indexOf_7cf53 wsJ0_indexOf_7cf53 ({ frames := 2, cells := 0, slots := 0, locals := 48 }) (PcS D T kv [.ref (kv.1 i), .int p1, .int p2]) (QR res) 0 0 noA := by
  refine Met.ofW (cc := cJ0_indexOf_7cf53) (maxL := 3) (ret := (some .int)) (by decide) rfl ?_
  intro p e s m args below meth c s₁ B hml hv
  obtain ⟨rfl, hP, hK, hE⟩ := hv
  have hx := B.exec
  have hb := B.bytes
  have hr := B.returns
  have hts := atoms_spec (ws := wsJ0_indexOf_7cf53) B.pre
  have hown : s.vm.findClass RJ0 = some m.cls := findClass_of_methodNamed B.named
  have hlocks := B.notSynchronized
  have hS : va_S noA s.heap s.heap [] := va_S.rf
  have hl := lv_entry ([.ref (kv.1 i), .int p1, .int p2]) (n := 3) (Nat.le_of_ble_eq_true rfl)
  rw [lg_entry_eq]
  generalize (lg_sl ([.ref (kv.1 i), .int p1, .int p2]) ++ List.replicate (3 - (lg_sl ([.ref (kv.1 i), .int p1, .int p2])).length) Slot.unset).toArray = ls at hl ⊢
  have hl : lv_has ls 3 [(0, .ref (kv.1 i)), (1, .int p1), (2, .int p2)] := hl
  unfold fJ0_indexOf_7cf53 at hf
  refine lv_aload_n hx hb dJ0_indexOf_7cf53_0 rfl (lv_at hl 0 rfl) ?_
  refine cVRS (As := []) (rest := []) ⟨hx, hb, hml, hown, hts⟩ (mJ0_isLatin1_aae02 l D T kv i hi 1 rfl) (cwV 0 hts gJ0_indexOf_7cf53_J0_isLatin1_aae02 rfl rfl rfl (by decide +kernel) ⟨Nat.le_of_ble_eq_true rfl, Nat.le_of_ble_eq_true rfl⟩) (vk_recv hE.1 hi hS) P0 hK rfl hl.1 rfl (Nat.le_of_ble_eq_true rfl) dJ0_indexOf_7cf53_1 ⟨Nat.le_of_ble_eq_true rfl, Nat.le_of_ble_eq_true rfl⟩ hE hP hS (fun H locs hP hS => ?_)
  refine lv_if_eq (tgt := 23) hx hb dJ0_indexOf_7cf53_4 (by decide) (fun c9 => absurd c9 (by decide)) (fun _ => ?_)
  refine lv_aload_n hx hb dJ0_indexOf_7cf53_7 rfl (lv_at hl 0 rfl) ?_
  refine vk_getf hx hb (hE.1.1 i hi).2.2.1 hS hown (hts (.fieldLink RJ0 9 "java/lang/String" "value" "[B") (List.mem_of_getElem? (i := 1) rfl)) (fun _ h9 => h9) dJ0_indexOf_7cf53_8 ?_
  refine lv_iload_n hx hb dJ0_indexOf_7cf53_11 rfl (lv_at hl 1 rfl) ?_
  refine lv_iload_n hx hb dJ0_indexOf_7cf53_12 rfl (lv_at hl 2 rfl) ?_
  refine lv_aload_n hx hb dJ0_indexOf_7cf53_13 rfl (lv_at hl 0 rfl) ?_
  obtain ⟨z3, hz3, hf⟩ := lett_e hf
  refine cVRS (As := []) (rest := [.int p2, .int p1, .ref (kv.2 i)]) ⟨hx, hb, hml, hown, hts⟩ (mJ0_length_8abf5 l D T kv i hi z3 hz3.symm) (cwV 0 hts gJ0_indexOf_7cf53_J0_length_8abf5 rfl rfl rfl (by decide +kernel) ⟨Nat.le_of_ble_eq_true rfl, Nat.le_of_ble_eq_true rfl⟩) (vk_recv hE.1 hi hS) P0 hK rfl hl.1 rfl (Nat.le_of_ble_eq_true rfl) dJ0_indexOf_7cf53_14 ⟨Nat.le_of_ble_eq_true rfl, Nat.le_of_ble_eq_true rfl⟩ hE hP hS (fun H locs hP hS => ?_)
  obtain ⟨z4, hz4, hf⟩ := bnd hf
  refine cSRS (As := [.ref (kv.2 i), .int p1, .int p2, .int z3]) (rest := []) ⟨hx, hb, hml, hown, hts⟩ (mJ1_indexOf_4cfef l D T kv i hi p1 p2 z3 z4 hz4) (va_cwS 4 hts gJ0_indexOf_7cf53_J1_indexOf_4cfef rfl rfl rfl (by decide +kernel) ⟨Nat.le_of_ble_eq_true rfl, Nat.le_of_ble_eq_true rfl⟩) P0 hK rfl hl.1 rfl (Nat.le_of_ble_eq_true rfl) dJ0_indexOf_7cf53_17 ⟨Nat.le_of_ble_eq_true rfl, Nat.le_of_ble_eq_true rfl⟩ hE hP hS (fun H locs hP hS => ?_)
  refine lv_goto (tgt := 36) hx hb dJ0_indexOf_7cf53_20 (by decide) ?_
  exact retR hx hb hr hlocks hS (Option.some.inj hf) dJ0_indexOf_7cf53_36
def fJ0_indexOf_0f7a4 (i : Nat)   (p1 : Int32) : Option (Int32) := (fJ0_indexOf_7cf53 i p1 0).bind fun z1 => some z1
set_option maxHeartbeats 4000000 in
set_option maxRecDepth 100000 in
theorem mJ0_indexOf_0f7a4 (l : Launch) (D : va_G) (T : Ty3) (kv : (Nat → Nat) × (Nat → Nat)) (i : Nat) (hi : i < 2)  (p1 : Int32) (res : Int32) (hf : fJ0_indexOf_0f7a4 i p1 = some res) : Met l yJ0_indexOf_0f7a4 wsJ0_indexOf_0f7a4 ({ frames := 3, cells := 0, slots := 0, locals := 70 }) (PcS D T kv [.ref (kv.1 i), .int p1]) (QR res) 0 0 noA := by
  refine Met.ofW (cc := cJ0_indexOf_0f7a4) (maxL := 2) (ret := (some .int)) (by decide) rfl ?_
  intro p e s m args below meth c s₁ B hml hv
  obtain ⟨rfl, hP, hK, hE⟩ := hv
  have hx := B.exec
  have hb := B.bytes
  have hr := B.returns
  have hts := atoms_spec (ws := wsJ0_indexOf_0f7a4) B.pre
  have hown : s.vm.findClass RJ0 = some m.cls := findClass_of_methodNamed B.named
  have hlocks := B.notSynchronized
  have hS : va_S noA s.heap s.heap [] := va_S.rf
  have hl := lv_entry ([.ref (kv.1 i), .int p1]) (n := 2) (Nat.le_of_ble_eq_true rfl)
  rw [lg_entry_eq]
  generalize (lg_sl ([.ref (kv.1 i), .int p1]) ++ List.replicate (2 - (lg_sl ([.ref (kv.1 i), .int p1])).length) Slot.unset).toArray = ls at hl ⊢
  have hl : lv_has ls 2 [(0, .ref (kv.1 i)), (1, .int p1)] := hl
  unfold fJ0_indexOf_0f7a4 at hf
  refine lv_aload_n hx hb dJ0_indexOf_0f7a4_0 rfl (lv_at hl 0 rfl) ?_
  refine lv_iload_n hx hb dJ0_indexOf_0f7a4_1 rfl (lv_at hl 1 rfl) ?_
  refine lv_iconst (v := 0) hx hb dJ0_indexOf_0f7a4_2 (by decide) ?_
  obtain ⟨z1, hz1, hf⟩ := bnd hf
  refine cVRS (As := [.int p1, .int 0]) (rest := []) ⟨hx, hb, hml, hown, hts⟩ (mJ0_indexOf_7cf53 l D T kv i hi p1 0 z1 hz1) (cwV 2 hts gJ0_indexOf_0f7a4_J0_indexOf_7cf53 rfl rfl rfl (by decide +kernel) ⟨Nat.le_of_ble_eq_true rfl, Nat.le_of_ble_eq_true rfl⟩) (vk_recv hE.1 hi hS) P0 hK rfl hl.1 rfl (Nat.le_of_ble_eq_true rfl) dJ0_indexOf_0f7a4_3 ⟨Nat.le_of_ble_eq_true rfl, Nat.le_of_ble_eq_true rfl⟩ hE hP hS (fun H locs hP hS => ?_)
  exact retR hx hb hr hlocks hS (Option.some.inj hf) dJ0_indexOf_0f7a4_6
def fX3_opens  (uc : St) (utp : St) (p1 : Int32) : Option (Int32 × St) := if p1 < 6 then (fX1_next uc utp).bind fun z2 => some (1, z2) else lett (fX1_failHere uc 5) fun z3 => some (0, z3)
set_option maxHeartbeats 4000000 in
set_option maxRecDepth 100000 in
theorem mX3_opens (l : Launch) (D : va_G) (T : Ty3) (h : Nat) (a : Nat → Nat) (u : St) (ac : Nat → Nat) (uc : St) (atp : Nat → Nat) (utp : St) (sz : Nat) (p1 : Int32) (res : Int32 × St) (hf : fX3_opens uc utp p1 = some res) : Met l yX3_opens wsX3_opens ({ frames := 2, cells := 0, slots := 0, locals := 43 }) (PcM D T (kX3 T h a u ++ kX1 T (a 0) ac uc ++ kX8 T (ac 0) atp utp) sz [.ref h, .int p1]) (QM D (kX3 T h a u ++ kX1 T (a 0) ac uc ++ kX8 T (ac 0) atp utp) sz res.1 (kX3 T h a u ++ kX1 T (a 0) ac res.2 ++ kX8 T (ac 0) atp utp)) 0 0 (va_A (kX3 T h a u ++ kX1 T (a 0) ac uc ++ kX8 T (ac 0) atp utp) sz) := by
  refine Met.ofW (cc := cX3_opens) (maxL := 2) (ret := (some .boolean)) (by decide) rfl ?_
  intro p e s m args below meth c s₁ B hml hv
  obtain ⟨rfl, hsz, hP, hK, hD0⟩ := hv
  have hx := B.exec
  have hb := B.bytes
  have hr := B.returns
  have hts := atoms_spec (ws := wsX3_opens) B.pre
  have hown : s.vm.findClass RX3 = some m.cls := findClass_of_methodNamed B.named
  have hlocks := B.notSynchronized
  subst hsz
  have hD := hD0.self (sz := s.heap.size)
  have hA : ∀ q : Nat, s.heap.size ≤ q → va_A (kX3 T h a u ++ kX1 T (a 0) ac uc ++ kX8 T (ac 0) atp utp) s.heap.size q := fun q h => Or.inr h
  have hS : va_S (va_A (kX3 T h a u ++ kX1 T (a 0) ac uc ++ kX8 T (ac 0) atp utp) s.heap.size) s.heap s.heap [] := va_S.rf
  have hinX3 : ∀ w ∈ u_ws RX3 TX3 1, w ∈ wsX3_opens := fun w h => List.mem_cons_of_mem _ (List.mem_append_left _ (List.mem_append_left _ (List.mem_append_right _ h)))
  have hinX1 : ∀ w ∈ u_ws RX1 TX1 5, w ∈ wsX3_opens := fun w h => List.mem_cons_of_mem _ (List.mem_append_left _ (List.mem_append_right _ h))
  have hinX8 : ∀ w ∈ u_ws RX8 TX8 2, w ∈ wsX3_opens := fun w h => List.mem_cons_of_mem _ (List.mem_append_right _ h)
  have hl := lv_entry ([.ref h, .int p1]) (n := 2) (Nat.le_of_ble_eq_true rfl)
  rw [lg_entry_eq]
  generalize (lg_sl ([.ref h, .int p1]) ++ List.replicate (2 - (lg_sl ([.ref h, .int p1])).length) Slot.unset).toArray = ls at hl ⊢
  have hl : lv_has ls 2 [(0, .ref h), (1, .int p1)] := hl
  unfold fX3_opens at hf
  refine lv_iload_n hx hb dX3_opens_0 rfl (lv_at hl 1 rfl) ?_
  refine lv_bipush (v := 6) hx hb dX3_opens_1 (by decide) ?_
  refine lv_icmp_lt (tgt := 16) hx hb dX3_opens_3 (by decide) (fun c1 => ?_) (fun c1 => ?_)
  · replace hf := ifp c1 hf
    refine lv_aload_n hx hb dX3_opens_16 rfl (lv_at hl 0 rfl) ?_
    refine va_get (D := D) (ci := 3) (v := .ref (a 0)) (C := RX3) (T := TX3) (N := 1) hx hb hts hinX3 hown hK.1 hP 0 rfl rfl 0 (by decide) (hts (.fieldLink RX3 9 "RopeScale$LawReader" "cursor" "LRopeScale$Cursor;") (List.mem_of_getElem? (i := 1) rfl)) (fun _ h9 => h9) rfl dX3_opens_17 ?_
    obtain ⟨z2, hz2, hf⟩ := bnd hf
    have hPc := hP.sub (ws' := kX1 T (a 0) ac uc ++ kX8 T (ac 0) atp utp) [1, 2, 3] rfl
    have hDc := hD.sub (ws' := kX1 T (a 0) ac uc ++ kX8 T (ac 0) atp utp) [1, 2, 3] (by decide) rfl
    have hFc9 := va_free (wc := kX1 T (a 0) ac uc ++ kX8 T (ac 0) atp utp) hD hS hA [1, 2, 3] rfl
    refine cVMv (As := []) (rest := []) ⟨hx, hb, hml, hown, hts⟩ (mX1_next l D T (a 0) ac uc atp utp _ z2 hz2) (cwV 0 hts gX3_opens_X1_next rfl rfl rfl (by decide +kernel) ⟨Nat.le_of_ble_eq_true rfl, Nat.le_of_ble_eq_true rfl⟩) (va_recv hK.1 hP (ci := 1) (q0 := 1) rfl rfl) hPc hK rfl hl.1 rfl (Nat.le_of_ble_eq_true rfl) dX3_opens_20 ⟨Nat.le_of_ble_eq_true rfl, Nat.le_of_ble_eq_true rfl⟩ hDc hFc9 hS (fun H9 locs hP1 hD1 hk1 hS => ?_)
    obtain ⟨hP, hD⟩ := putAll_P (w1 := kX1 T (a 0) ac z2 ++ kX8 T (ac 0) atp utp) hP hD [1, 2, 3] rfl (by decide) hk1 hP1 rfl
    generalize H9 = H at hP hS ⊢
    have hP : va_P D vwCl (kX3 T h a u ++ kX1 T (a 0) ac z2 ++ kX8 T (ac 0) atp utp) H := by exact hP
    have hD : va_D (va_A (kX3 T h a u ++ kX1 T (a 0) ac uc ++ kX8 T (ac 0) atp utp) s.heap.size) (kX3 T h a u ++ kX1 T (a 0) ac z2 ++ kX8 T (ac 0) atp utp) := by exact hD
    refine lv_iconst (v := 1) hx hb dX3_opens_23 (by decide) ?_
    have e9 := Option.some.inj hf
    exact retMz hx hb hr hlocks hP hD hS rfl (congrArg (fun z => z.1) e9) (congrArg (fun z => (kX3 T h a u ++ kX1 T (a 0) ac z.2 ++ kX8 T (ac 0) atp utp : va_W)) e9) dX3_opens_24
  replace hf := ifn c1 hf
  refine lv_aload_n hx hb dX3_opens_6 rfl (lv_at hl 0 rfl) ?_
  refine va_get (D := D) (ci := 3) (v := .ref (a 0)) (C := RX3) (T := TX3) (N := 1) hx hb hts hinX3 hown hK.1 hP 0 rfl rfl 0 (by decide) (hts (.fieldLink RX3 9 "RopeScale$LawReader" "cursor" "LRopeScale$Cursor;") (List.mem_of_getElem? (i := 1) rfl)) (fun _ h9 => h9) rfl dX3_opens_7 ?_
  refine lv_iconst (v := 5) hx hb dX3_opens_10 (by decide) ?_
  obtain ⟨z3, hz3, hf⟩ := lett_e hf
  have hPc := hP.sub (ws' := kX1 T (a 0) ac uc) [1] rfl
  have hDc := hD.sub (ws' := kX1 T (a 0) ac uc) [1] (by decide) rfl
  have hFc9 := va_free (wc := kX1 T (a 0) ac uc) hD hS hA [1] rfl
  refine cVMv (As := [.int 5]) (rest := []) ⟨hx, hb, hml, hown, hts⟩ (mX1_failHere l D T (a 0) ac uc _ 5 z3 hz3.symm) (cwV 1 hts gX3_opens_X1_failHere rfl rfl rfl (by decide +kernel) ⟨Nat.le_of_ble_eq_true rfl, Nat.le_of_ble_eq_true rfl⟩) (va_recv hK.1 hP (ci := 1) (q0 := 1) rfl rfl) hPc hK rfl hl.1 rfl (Nat.le_of_ble_eq_true rfl) dX3_opens_11 ⟨Nat.le_of_ble_eq_true rfl, Nat.le_of_ble_eq_true rfl⟩ hDc hFc9 hS (fun H9 locs hP1 hD1 hk1 hS => ?_)
  obtain ⟨hP, hD⟩ := putAll_P (w1 := kX1 T (a 0) ac z3) hP hD [1] rfl (by decide) hk1 hP1 rfl
  generalize H9 = H at hP hS ⊢
  have hP : va_P D vwCl (kX3 T h a u ++ kX1 T (a 0) ac z3 ++ kX8 T (ac 0) atp utp) H := by exact hP
  have hD : va_D (va_A (kX3 T h a u ++ kX1 T (a 0) ac uc ++ kX8 T (ac 0) atp utp) s.heap.size) (kX3 T h a u ++ kX1 T (a 0) ac z3 ++ kX8 T (ac 0) atp utp) := by exact hD
  refine lv_iconst (v := 0) hx hb dX3_opens_14 (by decide) ?_
  have e9 := Option.some.inj hf
  exact retMz hx hb hr hlocks hP hD hS rfl (congrArg (fun z => z.1) e9) (congrArg (fun z => (kX3 T h a u ++ kX1 T (a 0) ac z.2 ++ kX8 T (ac 0) atp utp : va_W)) e9) dX3_opens_15
def fX3_seesTimes  (uc : St)  : (Int32) := lett (fX1_sees uc 42) fun z1 => if z1 = 0 then lett (fX1_sees uc 47) fun z3 => if z3 = 0 then lett (fX1_sees uc 37) fun z5 => if z5 = 0 then 0 else 1 else 1 else 1
set_option maxHeartbeats 4000000 in
set_option maxRecDepth 100000 in
theorem mX3_seesTimes (l : Launch) (D : va_G) (T : Ty3) (h : Nat) (a : Nat → Nat) (u : St) (ac : Nat → Nat) (uc : St) (atp : Nat → Nat) (utp : St)  (res : Int32) (hf : fX3_seesTimes uc = res) : Met l yX3_seesTimes wsX3_seesTimes ({ frames := 1, cells := 0, slots := 0, locals := 21 }) (PcR D T (kX3 T h a u ++ kX1 T (a 0) ac uc ++ kX8 T (ac 0) atp utp) [.ref h]) (QR res) 0 0 noA := by
  refine Met.ofW (cc := cX3_seesTimes) (maxL := 1) (ret := (some .boolean)) (by decide) rfl ?_
  intro p e s m args below meth c s₁ B hml hv
  obtain ⟨rfl, hP, hK⟩ := hv
  have hx := B.exec
  have hb := B.bytes
  have hr := B.returns
  have hts := atoms_spec (ws := wsX3_seesTimes) B.pre
  have hown : s.vm.findClass RX3 = some m.cls := findClass_of_methodNamed B.named
  have hlocks := B.notSynchronized
  have hS : va_S noA s.heap s.heap [] := va_S.rf
  have hinX3 : ∀ w ∈ u_ws RX3 TX3 1, w ∈ wsX3_seesTimes := fun w h => List.mem_cons_of_mem _ (List.mem_append_left _ (List.mem_append_right _ h))
  have hinX1 : ∀ w ∈ u_ws RX1 TX1 5, w ∈ wsX3_seesTimes := fun w h => List.mem_cons_of_mem _ (List.mem_append_right _ h)
  have hl := lv_entry ([.ref h]) (n := 1) (Nat.le_of_ble_eq_true rfl)
  rw [lg_entry_eq]
  generalize (lg_sl ([.ref h]) ++ List.replicate (1 - (lg_sl ([.ref h])).length) Slot.unset).toArray = ls at hl ⊢
  have hl : lv_has ls 1 [(0, .ref h)] := hl
  unfold fX3_seesTimes at hf
  refine lv_aload_n hx hb dX3_seesTimes_0 rfl (lv_at hl 0 rfl) ?_
  refine va_get (D := D) (ci := 3) (v := .ref (a 0)) (C := RX3) (T := TX3) (N := 1) hx hb hts hinX3 hown hK.1 hP 0 rfl rfl 0 (by decide) (hts (.fieldLink RX3 9 "RopeScale$LawReader" "cursor" "LRopeScale$Cursor;") (List.mem_of_getElem? (i := 1) rfl)) (fun _ h9 => h9) rfl dX3_seesTimes_1 ?_
  refine lv_bipush (v := 42) hx hb dX3_seesTimes_4 (by decide) ?_
  obtain ⟨z1, hz1, hf⟩ := lett_e hf
  refine cVR (As := [.int 42]) (rest := []) ⟨hx, hb, hml, hown, hts⟩ (mX1_sees l D T (a 0) ac uc 42 z1 hz1.symm) (cwV 1 hts gX3_seesTimes_X1_sees rfl rfl rfl (by decide +kernel) ⟨Nat.le_of_ble_eq_true rfl, Nat.le_of_ble_eq_true rfl⟩) (va_recv hK.1 hP (ci := 1) (q0 := 1) rfl rfl) (hP.sub (ws' := kX1 T (a 0) ac uc) [1] rfl) hK rfl hl.1 rfl (Nat.le_of_ble_eq_true rfl) dX3_seesTimes_6 ⟨Nat.le_of_ble_eq_true rfl, Nat.le_of_ble_eq_true rfl⟩ hP hS (fun H locs hP hS => ?_)
  refine lv_if_ne (tgt := 36) hx hb dX3_seesTimes_9 (by decide) (fun c2 => ?_) (fun c2 => ?_)
  · replace hf := ifn c2 hf
    refine lv_iconst (v := 1) hx hb dX3_seesTimes_36 (by decide) ?_
    refine lv_goto (tgt := 41) hx hb dX3_seesTimes_37 (by decide) ?_
    exact retRz hx hb hr hlocks hS rfl hf dX3_seesTimes_41
  replace hf := ifp c2 hf
  refine lv_aload_n hx hb dX3_seesTimes_12 rfl (lv_at hl 0 rfl) ?_
  refine va_get (D := D) (ci := 3) (v := .ref (a 0)) (C := RX3) (T := TX3) (N := 1) hx hb hts hinX3 hown hK.1 hP 0 rfl rfl 0 (by decide) (hts (.fieldLink RX3 9 "RopeScale$LawReader" "cursor" "LRopeScale$Cursor;") (List.mem_of_getElem? (i := 1) rfl)) (fun _ h9 => h9) rfl dX3_seesTimes_13 ?_
  refine lv_bipush (v := 47) hx hb dX3_seesTimes_16 (by decide) ?_
  obtain ⟨z3, hz3, hf⟩ := lett_e hf
  refine cVR (As := [.int 47]) (rest := []) ⟨hx, hb, hml, hown, hts⟩ (mX1_sees l D T (a 0) ac uc 47 z3 hz3.symm) (cwV 1 hts gX3_seesTimes_X1_sees rfl rfl rfl (by decide +kernel) ⟨Nat.le_of_ble_eq_true rfl, Nat.le_of_ble_eq_true rfl⟩) (va_recv hK.1 hP (ci := 1) (q0 := 1) rfl rfl) (hP.sub (ws' := kX1 T (a 0) ac uc) [1] rfl) hK rfl hl.1 rfl (Nat.le_of_ble_eq_true rfl) dX3_seesTimes_18 ⟨Nat.le_of_ble_eq_true rfl, Nat.le_of_ble_eq_true rfl⟩ hP hS (fun H locs hP hS => ?_)
  refine lv_if_ne (tgt := 36) hx hb dX3_seesTimes_21 (by decide) (fun c4 => ?_) (fun c4 => ?_)
  · replace hf := ifn c4 hf
    refine lv_iconst (v := 1) hx hb dX3_seesTimes_36 (by decide) ?_
    refine lv_goto (tgt := 41) hx hb dX3_seesTimes_37 (by decide) ?_
    exact retRz hx hb hr hlocks hS rfl hf dX3_seesTimes_41
  replace hf := ifp c4 hf
  refine lv_aload_n hx hb dX3_seesTimes_24 rfl (lv_at hl 0 rfl) ?_
  refine va_get (D := D) (ci := 3) (v := .ref (a 0)) (C := RX3) (T := TX3) (N := 1) hx hb hts hinX3 hown hK.1 hP 0 rfl rfl 0 (by decide) (hts (.fieldLink RX3 9 "RopeScale$LawReader" "cursor" "LRopeScale$Cursor;") (List.mem_of_getElem? (i := 1) rfl)) (fun _ h9 => h9) rfl dX3_seesTimes_25 ?_
  refine lv_bipush (v := 37) hx hb dX3_seesTimes_28 (by decide) ?_
  obtain ⟨z5, hz5, hf⟩ := lett_e hf
  refine cVR (As := [.int 37]) (rest := []) ⟨hx, hb, hml, hown, hts⟩ (mX1_sees l D T (a 0) ac uc 37 z5 hz5.symm) (cwV 1 hts gX3_seesTimes_X1_sees rfl rfl rfl (by decide +kernel) ⟨Nat.le_of_ble_eq_true rfl, Nat.le_of_ble_eq_true rfl⟩) (va_recv hK.1 hP (ci := 1) (q0 := 1) rfl rfl) (hP.sub (ws' := kX1 T (a 0) ac uc) [1] rfl) hK rfl hl.1 rfl (Nat.le_of_ble_eq_true rfl) dX3_seesTimes_30 ⟨Nat.le_of_ble_eq_true rfl, Nat.le_of_ble_eq_true rfl⟩ hP hS (fun H locs hP hS => ?_)
  refine lv_if_eq (tgt := 40) hx hb dX3_seesTimes_33 (by decide) (fun c6 => ?_) (fun c6 => ?_)
  · replace hf := ifp c6 hf
    refine lv_iconst (v := 0) hx hb dX3_seesTimes_40 (by decide) ?_
    exact retRz hx hb hr hlocks hS rfl hf dX3_seesTimes_41
  replace hf := ifn c6 hf
  refine lv_iconst (v := 1) hx hb dX3_seesTimes_36 (by decide) ?_
  refine lv_goto (tgt := 41) hx hb dX3_seesTimes_37 (by decide) ?_
  exact retRz hx hb hr hlocks hS rfl hf dX3_seesTimes_41
def fX3_readFactor_J24 (rc : St → St → St → Int32 → Option (St × St)) (utp : St)  (vc : St) (vlw : St) (x2 : Int32) (y0 : Int32) : Option (St × St) := lett (fX1_sees vc 91) fun z1 => if z1 = 0 then (fX1_seesDigit vc).bind fun z3 => if z3 = 0 then if y0 < 0 then lett (fX1_failHere vc 1) fun z6 => some (z6, vlw) else (fX2_put vlw 1 y0).bind fun z7 => (fX1_next vc utp).bind fun z8 => some (z8, z7.2) else (fX1_readNumber vc utp 5).bind fun z9 => (fX2_put vlw 0 z9.1).bind fun z10 => some (z9.2, z10.2) else (fX3_opens vc utp x2).bind fun z11 => if z11.1 = 0 then some (z11.2, vlw) else (rc z11.2 utp vlw (x2 + 1)).bind fun z13 => (fX1_take z13.1 utp 93).bind fun z14 => some (z14.2, z13.2)
def fX3_readFactor (rc : St → St → St → Int32 → Option (St × St))  (uc : St) (utp : St) (ulw : St) (p2 : Int32) : Option (St × St) := lett (uc 3 0) fun t15 => if t15 = (-1) then fX3_readFactor_J24 rc utp uc ulw p2 (-1) else (fJ0_indexOf_0f7a4 1 (ji2c t15)).bind fun z17 => fX3_readFactor_J24 rc utp uc ulw p2 z17
set_option maxHeartbeats 4000000 in
set_option maxRecDepth 100000 in
theorem mX3_readFactor (l : Launch) (D : va_G) (T : Ty3) (kv : (Nat → Nat) × (Nat → Nat)) (d : Nat) (rc : St → St → St → Int32 → Option (St × St)) (hrc : ∀ (h : Nat) (a : Nat → Nat) (u : St) (ac : Nat → Nat) (uc : St) (atp : Nat → Nat) (utp : St) (hlw : Nat) (alw : Nat → Nat) (ulw : St) (sz : Nat) (p2 : Int32) (res : St × St), rc uc utp ulw p2 = some res → Met l yX3_readSum wsX3_readSum ({ frames := 4 + d * 3, cells := 0, slots := 0, locals := 91 + d * 72 }) (PcMS D T kv (kX3 T h a u ++ kX1 T (a 0) ac uc ++ kX8 T (ac 0) atp utp ++ kX2 T hlw alw ulw) sz [.ref h, .ref hlw, .int p2]) (QMv D (kX3 T h a u ++ kX1 T (a 0) ac uc ++ kX8 T (ac 0) atp utp ++ kX2 T hlw alw ulw) sz (kX3 T h a u ++ kX1 T (a 0) ac res.1 ++ kX8 T (ac 0) atp utp ++ kX2 T hlw alw res.2)) 0 0 (va_A (kX3 T h a u ++ kX1 T (a 0) ac uc ++ kX8 T (ac 0) atp utp ++ kX2 T hlw alw ulw) sz)) (h : Nat) (a : Nat → Nat) (u : St) (ac : Nat → Nat) (uc : St) (atp : Nat → Nat) (utp : St) (hlw : Nat) (alw : Nat → Nat) (ulw : St) (sz : Nat) (p2 : Int32) (res : St × St) (hf : fX3_readFactor rc uc utp ulw p2 = some res) : Met l yX3_readFactor wsX3_readFactor ({ frames := 5 + d * 3, cells := 0, slots := 0, locals := 115 + d * 72 }) (PcMS D T kv (kX3 T h a u ++ kX1 T (a 0) ac uc ++ kX8 T (ac 0) atp utp ++ kX2 T hlw alw ulw) sz [.ref h, .ref hlw, .int p2]) (QMv D (kX3 T h a u ++ kX1 T (a 0) ac uc ++ kX8 T (ac 0) atp utp ++ kX2 T hlw alw ulw) sz (kX3 T h a u ++ kX1 T (a 0) ac res.1 ++ kX8 T (ac 0) atp utp ++ kX2 T hlw alw res.2)) 0 0 (va_A (kX3 T h a u ++ kX1 T (a 0) ac uc ++ kX8 T (ac 0) atp utp ++ kX2 T hlw alw ulw) sz) := by
  refine Met.ofW (cc := cX3_readFactor) (maxL := 5) (ret := none) (by decide) rfl ?_
  intro p e s m args below meth c s₁ B hml hv
  obtain ⟨rfl, hsz, hP, hK, hD0, hE⟩ := hv
  have hx := B.exec
  have hb := B.bytes
  have hr := B.returns
  have hts := atoms_spec (ws := wsX3_readFactor) B.pre
  have hown : s.vm.findClass RX3 = some m.cls := findClass_of_methodNamed B.named
  have hlocks := B.notSynchronized
  subst hsz
  have hD := hD0.self (sz := s.heap.size)
  have hA : ∀ q : Nat, s.heap.size ≤ q → va_A (kX3 T h a u ++ kX1 T (a 0) ac uc ++ kX8 T (ac 0) atp utp ++ kX2 T hlw alw ulw) s.heap.size q := fun q h => Or.inr h
  have hS : va_S (va_A (kX3 T h a u ++ kX1 T (a 0) ac uc ++ kX8 T (ac 0) atp utp ++ kX2 T hlw alw ulw) s.heap.size) s.heap s.heap [] := va_S.rf
  have hinX3 : ∀ w ∈ u_ws RX3 TX3 1, w ∈ wsX3_readFactor := fun w h => List.mem_cons_of_mem _ (List.mem_append_left _ (List.mem_append_left _ (List.mem_append_left _ (List.mem_append_right _ h))))
  have hinX1 : ∀ w ∈ u_ws RX1 TX1 5, w ∈ wsX3_readFactor := fun w h => List.mem_cons_of_mem _ (List.mem_append_left _ (List.mem_append_left _ (List.mem_append_right _ h)))
  have hinX8 : ∀ w ∈ u_ws RX8 TX8 2, w ∈ wsX3_readFactor := fun w h => List.mem_cons_of_mem _ (List.mem_append_left _ (List.mem_append_right _ h))
  have hinX2 : ∀ w ∈ u_ws RX2 TX2 10, w ∈ wsX3_readFactor := fun w h => List.mem_cons_of_mem _ (List.mem_append_right _ h)
  have hl := lv_entry ([.ref h, .ref hlw, .int p2]) (n := 5) (Nat.le_of_ble_eq_true rfl)
  rw [lg_entry_eq]
  generalize (lg_sl ([.ref h, .ref hlw, .int p2]) ++ List.replicate (5 - (lg_sl ([.ref h, .ref hlw, .int p2])).length) Slot.unset).toArray = ls at hl ⊢
  have hl : lv_has ls 5 [(0, .ref h), (1, .ref hlw), (2, .int p2)] := hl
  have J24 : ∀ (vc : St) (vlw : St) (x2 : Int32) (y0 : Int32) (H : Heap) (locs : List Loc) (ls : Array Slot), fX3_readFactor_J24 rc utp vc vlw x2 y0 = some res → va_P D vwCl (kX3 T h a u ++ kX1 T (a 0) ac vc ++ kX8 T (ac 0) atp utp ++ kX2 T hlw alw vlw) H → va_D (va_A (kX3 T h a u ++ kX1 T (a 0) ac uc ++ kX8 T (ac 0) atp utp ++ kX2 T hlw alw ulw) s.heap.size) (kX3 T h a u ++ kX1 T (a 0) ac vc ++ kX8 T (ac 0) atp utp ++ kX2 T hlw alw vlw) → va_S (va_A (kX3 T h a u ++ kX1 T (a 0) ac uc ++ kX8 T (ac 0) atp utp ++ kX2 T hlw alw ulw) s.heap.size) s.heap H locs → lv_has ls 5 [(0, .ref h), (1, .ref hlw), (2, .int x2)] → W p l e (headSpec wsX3_readFactor ({ frames := 5 + d * 3, cells := 0, slots := 0, locals := 115 + d * 72 })).room s m ([.ref h, .ref hlw, .int p2] : List Value).toArray below meth c H locs 0 0 (MQ below (QMv D (kX3 T h a u ++ kX1 T (a 0) ac uc ++ kX8 T (ac 0) atp utp ++ kX2 T hlw alw ulw) s.heap.size (kX3 T h a u ++ kX1 T (a 0) ac res.1 ++ kX8 T (ac 0) atp utp ++ kX2 T hlw alw res.2)) ([.ref h, .ref hlw, .int p2] : List Value).toArray s 0 0 (va_A (kX3 T h a u ++ kX1 T (a 0) ac uc ++ kX8 T (ac 0) atp utp ++ kX2 T hlw alw ulw) s.heap.size)) (F0 m 24 ls [.int y0]) := by
    intro vc vlw x2 y0 H locs ls hf hP hD hS hl
    unfold fX3_readFactor_J24 at hf
    refine lv_istore (lv' := [(4, .int y0), (0, .ref h), (1, .ref hlw), (2, .int x2)]) hx hb dX3_readFactor_24 hl (by decide) rfl (fun ls hl => ?_)
    refine lv_aload_n hx hb dX3_readFactor_26 rfl (lv_at hl 1 rfl) ?_
    refine va_get (D := D) (ci := 3) (v := .ref (a 0)) (C := RX3) (T := TX3) (N := 1) hx hb hts hinX3 hown hK.1 hP 0 rfl rfl 0 (by decide) (hts (.fieldLink RX3 9 "RopeScale$LawReader" "cursor" "LRopeScale$Cursor;") (List.mem_of_getElem? (i := 1) rfl)) (fun _ h9 => h9) rfl dX3_readFactor_27 ?_
    refine lv_bipush (v := 91) hx hb dX3_readFactor_30 (by decide) ?_
    obtain ⟨z1, hz1, hf⟩ := lett_e hf
    refine cVR (As := [.int 91]) (rest := []) ⟨hx, hb, hml, hown, hts⟩ (mX1_sees l D T (a 0) ac vc 91 z1 hz1.symm) (cwV 1 hts gX3_readFactor_X1_sees rfl rfl rfl (by decide +kernel) ⟨by show 0 + 1 ≤ 5 + d * 3; omega, by show 8 + (2 + 11) + (0) ≤ 115 + d * 72; omega⟩) (va_recv hK.1 hP (ci := 1) (q0 := 1) rfl rfl) (hP.sub (ws' := kX1 T (a 0) ac vc) [1] rfl) hK rfl hl.1 rfl (Nat.le_of_ble_eq_true rfl) dX3_readFactor_32 ⟨Nat.le_of_ble_eq_true rfl, Nat.le_of_ble_eq_true rfl⟩ hP hS (fun H locs hP hS => ?_)
    refine lv_if_eq (tgt := 67) hx hb dX3_readFactor_35 (by decide) (fun c2 => ?_) (fun c2 => ?_)
    · replace hf := ifp c2 hf
      refine lv_aload_n hx hb dX3_readFactor_67 rfl (lv_at hl 1 rfl) ?_
      refine va_get (D := D) (ci := 3) (v := .ref (a 0)) (C := RX3) (T := TX3) (N := 1) hx hb hts hinX3 hown hK.1 hP 0 rfl rfl 0 (by decide) (hts (.fieldLink RX3 9 "RopeScale$LawReader" "cursor" "LRopeScale$Cursor;") (List.mem_of_getElem? (i := 1) rfl)) (fun _ h9 => h9) rfl dX3_readFactor_68 ?_
      obtain ⟨z3, hz3, hf⟩ := bnd hf
      refine cVR (As := []) (rest := []) ⟨hx, hb, hml, hown, hts⟩ (mX1_seesDigit l D T (a 0) ac vc z3 hz3) (cwV 0 hts gX3_readFactor_X1_seesDigit rfl rfl rfl (by decide +kernel) ⟨by show 1 + 1 ≤ 5 + d * 3; omega, by show 8 + (1 + 11) + (22) ≤ 115 + d * 72; omega⟩) (va_recv hK.1 hP (ci := 1) (q0 := 1) rfl rfl) (hP.sub (ws' := kX1 T (a 0) ac vc) [1] rfl) hK rfl hl.1 rfl (Nat.le_of_ble_eq_true rfl) dX3_readFactor_71 ⟨Nat.le_of_ble_eq_true rfl, Nat.le_of_ble_eq_true rfl⟩ hP hS (fun H locs hP hS => ?_)
      refine lv_if_eq (tgt := 94) hx hb dX3_readFactor_74 (by decide) (fun c4 => ?_) (fun c4 => ?_)
      · replace hf := ifp c4 hf
        refine lv_iload hx hb dX3_readFactor_94 (lv_at hl 0 rfl) ?_
        refine lv_if_lt (tgt := 117) hx hb dX3_readFactor_96 (by decide) (fun c5 => ?_) (fun c5 => ?_)
        · replace hf := ifp c5 hf
          refine lv_aload_n hx hb dX3_readFactor_117 rfl (lv_at hl 1 rfl) ?_
          refine va_get (D := D) (ci := 3) (v := .ref (a 0)) (C := RX3) (T := TX3) (N := 1) hx hb hts hinX3 hown hK.1 hP 0 rfl rfl 0 (by decide) (hts (.fieldLink RX3 9 "RopeScale$LawReader" "cursor" "LRopeScale$Cursor;") (List.mem_of_getElem? (i := 1) rfl)) (fun _ h9 => h9) rfl dX3_readFactor_118 ?_
          refine lv_iconst (v := 1) hx hb dX3_readFactor_121 (by decide) ?_
          obtain ⟨z6, hz6, hf⟩ := lett_e hf
          have hPc := hP.sub (ws' := kX1 T (a 0) ac vc) [1] rfl
          have hDc := hD.sub (ws' := kX1 T (a 0) ac vc) [1] (by decide) rfl
          have hFc9 := va_free (wc := kX1 T (a 0) ac vc) hD hS hA [1] rfl
          refine cVMv (As := [.int 1]) (rest := []) ⟨hx, hb, hml, hown, hts⟩ (mX1_failHere l D T (a 0) ac vc _ 1 z6 hz6.symm) (cwV 1 hts gX3_readFactor_X1_failHere rfl rfl rfl (by decide +kernel) ⟨by show 1 + 1 ≤ 5 + d * 3; omega, by show 8 + (2 + 11) + (22) ≤ 115 + d * 72; omega⟩) (va_recv hK.1 hP (ci := 1) (q0 := 1) rfl rfl) hPc hK rfl hl.1 rfl (Nat.le_of_ble_eq_true rfl) dX3_readFactor_122 ⟨Nat.le_of_ble_eq_true rfl, Nat.le_of_ble_eq_true rfl⟩ hDc hFc9 hS (fun H9 locs hP1 hD1 hk1 hS => ?_)
          obtain ⟨hP, hD⟩ := putAll_P (w1 := kX1 T (a 0) ac z6) hP hD [1] rfl (by decide) hk1 hP1 rfl
          generalize H9 = H at hP hS ⊢
          have hP : va_P D vwCl (kX3 T h a u ++ kX1 T (a 0) ac z6 ++ kX8 T (ac 0) atp utp ++ kX2 T hlw alw vlw) H := by exact hP
          have hD : va_D (va_A (kX3 T h a u ++ kX1 T (a 0) ac uc ++ kX8 T (ac 0) atp utp ++ kX2 T hlw alw ulw) s.heap.size) (kX3 T h a u ++ kX1 T (a 0) ac z6 ++ kX8 T (ac 0) atp utp ++ kX2 T hlw alw vlw) := by exact hD
          have e9 := Option.some.inj hf
          exact retMv hx hb hr hlocks hP hD hS (congrArg (fun z => (kX3 T h a u ++ kX1 T (a 0) ac z.1 ++ kX8 T (ac 0) atp utp ++ kX2 T hlw alw z.2 : va_W)) e9) dX3_readFactor_125
        replace hf := ifn c5 hf
        refine lv_aload_n hx hb dX3_readFactor_99 rfl (lv_at hl 2 rfl) ?_
        refine lv_iconst (v := 1) hx hb dX3_readFactor_100 (by decide) ?_
        refine lv_iload hx hb dX3_readFactor_101 (lv_at hl 0 rfl) ?_
        obtain ⟨z7, hz7, hf⟩ := bnd hf
        have hPc := hP.sub (ws' := kX2 T hlw alw vlw) [4, 5, 6, 7, 8, 9, 10, 11, 12] rfl
        have hDc := hD.sub (ws' := kX2 T hlw alw vlw) [4, 5, 6, 7, 8, 9, 10, 11, 12] (by decide) rfl
        have hFc9 := va_free (wc := kX2 T hlw alw vlw) hD hS hA [4, 5, 6, 7, 8, 9, 10, 11, 12] rfl
        refine cVM (As := [.int 1, .int y0]) (rest := []) ⟨hx, hb, hml, hown, hts⟩ (mX2_put l D T hlw alw vlw _ 1 y0 z7 hz7) (cwV 2 hts gX3_readFactor_X2_put rfl rfl rfl (by decide +kernel) ⟨by show 0 + 1 ≤ 5 + d * 3; omega, by show 8 + (3 + 11) + (0) ≤ 115 + d * 72; omega⟩) (va_recv hK.1 hP (ci := 2) (q0 := 4) rfl rfl) hPc hK rfl hl.1 rfl (Nat.le_of_ble_eq_true rfl) dX3_readFactor_103 ⟨Nat.le_of_ble_eq_true rfl, Nat.le_of_ble_eq_true rfl⟩ hDc hFc9 hS (fun H9 locs hP1 hD1 hk1 hS => ?_)
        obtain ⟨hP, hD⟩ := putAll_P (w1 := kX2 T hlw alw z7.2) hP hD [4, 5, 6, 7, 8, 9, 10, 11, 12] rfl (by decide) hk1 hP1 rfl
        generalize H9 = H at hP hS ⊢
        have hP : va_P D vwCl (kX3 T h a u ++ kX1 T (a 0) ac vc ++ kX8 T (ac 0) atp utp ++ kX2 T hlw alw z7.2) H := by exact hP
        have hD : va_D (va_A (kX3 T h a u ++ kX1 T (a 0) ac uc ++ kX8 T (ac 0) atp utp ++ kX2 T hlw alw ulw) s.heap.size) (kX3 T h a u ++ kX1 T (a 0) ac vc ++ kX8 T (ac 0) atp utp ++ kX2 T hlw alw z7.2) := by exact hD
        refine lv_pop hx hb dX3_readFactor_106 rfl ?_
        refine lv_aload_n hx hb dX3_readFactor_107 rfl (lv_at hl 1 rfl) ?_
        refine va_get (D := D) (ci := 3) (v := .ref (a 0)) (C := RX3) (T := TX3) (N := 1) hx hb hts hinX3 hown hK.1 hP 0 rfl rfl 0 (by decide) (hts (.fieldLink RX3 9 "RopeScale$LawReader" "cursor" "LRopeScale$Cursor;") (List.mem_of_getElem? (i := 1) rfl)) (fun _ h9 => h9) rfl dX3_readFactor_108 ?_
        obtain ⟨z8, hz8, hf⟩ := bnd hf
        have hPc := hP.sub (ws' := kX1 T (a 0) ac vc ++ kX8 T (ac 0) atp utp) [1, 2, 3] rfl
        have hDc := hD.sub (ws' := kX1 T (a 0) ac vc ++ kX8 T (ac 0) atp utp) [1, 2, 3] (by decide) rfl
        have hFc9 := va_free (wc := kX1 T (a 0) ac vc ++ kX8 T (ac 0) atp utp) hD hS hA [1, 2, 3] rfl
        refine cVMv (As := []) (rest := []) ⟨hx, hb, hml, hown, hts⟩ (mX1_next l D T (a 0) ac vc atp utp _ z8 hz8) (cwV 0 hts gX3_readFactor_X1_next rfl rfl rfl (by decide +kernel) ⟨by show 1 + 1 ≤ 5 + d * 3; omega, by show 8 + (1 + 11) + (21) ≤ 115 + d * 72; omega⟩) (va_recv hK.1 hP (ci := 1) (q0 := 1) rfl rfl) hPc hK rfl hl.1 rfl (Nat.le_of_ble_eq_true rfl) dX3_readFactor_111 ⟨Nat.le_of_ble_eq_true rfl, Nat.le_of_ble_eq_true rfl⟩ hDc hFc9 hS (fun H9 locs hP1 hD1 hk1 hS => ?_)
        obtain ⟨hP, hD⟩ := putAll_P (w1 := kX1 T (a 0) ac z8 ++ kX8 T (ac 0) atp utp) hP hD [1, 2, 3] rfl (by decide) hk1 hP1 rfl
        generalize H9 = H at hP hS ⊢
        have hP : va_P D vwCl (kX3 T h a u ++ kX1 T (a 0) ac z8 ++ kX8 T (ac 0) atp utp ++ kX2 T hlw alw z7.2) H := by exact hP
        have hD : va_D (va_A (kX3 T h a u ++ kX1 T (a 0) ac uc ++ kX8 T (ac 0) atp utp ++ kX2 T hlw alw ulw) s.heap.size) (kX3 T h a u ++ kX1 T (a 0) ac z8 ++ kX8 T (ac 0) atp utp ++ kX2 T hlw alw z7.2) := by exact hD
        refine lv_goto (tgt := 125) hx hb dX3_readFactor_114 (by decide) ?_
        have e9 := Option.some.inj hf
        exact retMv hx hb hr hlocks hP hD hS (congrArg (fun z => (kX3 T h a u ++ kX1 T (a 0) ac z.1 ++ kX8 T (ac 0) atp utp ++ kX2 T hlw alw z.2 : va_W)) e9) dX3_readFactor_125
      replace hf := ifn c4 hf
      refine lv_aload_n hx hb dX3_readFactor_77 rfl (lv_at hl 2 rfl) ?_
      refine lv_iconst (v := 0) hx hb dX3_readFactor_78 (by decide) ?_
      refine lv_aload_n hx hb dX3_readFactor_79 rfl (lv_at hl 1 rfl) ?_
      refine va_get (D := D) (ci := 3) (v := .ref (a 0)) (C := RX3) (T := TX3) (N := 1) hx hb hts hinX3 hown hK.1 hP 0 rfl rfl 0 (by decide) (hts (.fieldLink RX3 9 "RopeScale$LawReader" "cursor" "LRopeScale$Cursor;") (List.mem_of_getElem? (i := 1) rfl)) (fun _ h9 => h9) rfl dX3_readFactor_80 ?_
      refine lv_iconst (v := 5) hx hb dX3_readFactor_83 (by decide) ?_
      obtain ⟨z9, hz9, hf⟩ := bnd hf
      have hPc := hP.sub (ws' := kX1 T (a 0) ac vc ++ kX8 T (ac 0) atp utp) [1, 2, 3] rfl
      have hDc := hD.sub (ws' := kX1 T (a 0) ac vc ++ kX8 T (ac 0) atp utp) [1, 2, 3] (by decide) rfl
      have hFc9 := va_free (wc := kX1 T (a 0) ac vc ++ kX8 T (ac 0) atp utp) hD hS hA [1, 2, 3] rfl
      refine cVM (As := [.int 5]) (rest := [.int 0, .ref hlw]) ⟨hx, hb, hml, hown, hts⟩ (mX1_readNumber l D T (a 0) ac vc atp utp _ 5 z9 hz9) (cwV 1 hts gX3_readFactor_X1_readNumber rfl rfl rfl (by decide +kernel) ⟨by show 2 + 1 ≤ 5 + d * 3; omega, by show 8 + (4 + 11) + (43) ≤ 115 + d * 72; omega⟩) (va_recv hK.1 hP (ci := 1) (q0 := 1) rfl rfl) hPc hK rfl hl.1 rfl (Nat.le_of_ble_eq_true rfl) dX3_readFactor_84 ⟨Nat.le_of_ble_eq_true rfl, Nat.le_of_ble_eq_true rfl⟩ hDc hFc9 hS (fun H9 locs hP1 hD1 hk1 hS => ?_)
      obtain ⟨hP, hD⟩ := putAll_P (w1 := kX1 T (a 0) ac z9.2 ++ kX8 T (ac 0) atp utp) hP hD [1, 2, 3] rfl (by decide) hk1 hP1 rfl
      generalize H9 = H at hP hS ⊢
      have hP : va_P D vwCl (kX3 T h a u ++ kX1 T (a 0) ac z9.2 ++ kX8 T (ac 0) atp utp ++ kX2 T hlw alw vlw) H := by exact hP
      have hD : va_D (va_A (kX3 T h a u ++ kX1 T (a 0) ac uc ++ kX8 T (ac 0) atp utp ++ kX2 T hlw alw ulw) s.heap.size) (kX3 T h a u ++ kX1 T (a 0) ac z9.2 ++ kX8 T (ac 0) atp utp ++ kX2 T hlw alw vlw) := by exact hD
      obtain ⟨z10, hz10, hf⟩ := bnd hf
      have hPc := hP.sub (ws' := kX2 T hlw alw vlw) [4, 5, 6, 7, 8, 9, 10, 11, 12] rfl
      have hDc := hD.sub (ws' := kX2 T hlw alw vlw) [4, 5, 6, 7, 8, 9, 10, 11, 12] (by decide) rfl
      have hFc9 := va_free (wc := kX2 T hlw alw vlw) hD hS hA [4, 5, 6, 7, 8, 9, 10, 11, 12] rfl
      refine cVM (As := [.int 0, .int z9.1]) (rest := []) ⟨hx, hb, hml, hown, hts⟩ (mX2_put l D T hlw alw vlw _ 0 z9.1 z10 hz10) (cwV 2 hts gX3_readFactor_X2_put rfl rfl rfl (by decide +kernel) ⟨by show 0 + 1 ≤ 5 + d * 3; omega, by show 8 + (3 + 11) + (0) ≤ 115 + d * 72; omega⟩) (va_recv hK.1 hP (ci := 2) (q0 := 4) rfl rfl) hPc hK rfl hl.1 rfl (Nat.le_of_ble_eq_true rfl) dX3_readFactor_87 ⟨Nat.le_of_ble_eq_true rfl, Nat.le_of_ble_eq_true rfl⟩ hDc hFc9 hS (fun H9 locs hP1 hD1 hk1 hS => ?_)
      obtain ⟨hP, hD⟩ := putAll_P (w1 := kX2 T hlw alw z10.2) hP hD [4, 5, 6, 7, 8, 9, 10, 11, 12] rfl (by decide) hk1 hP1 rfl
      generalize H9 = H at hP hS ⊢
      have hP : va_P D vwCl (kX3 T h a u ++ kX1 T (a 0) ac z9.2 ++ kX8 T (ac 0) atp utp ++ kX2 T hlw alw z10.2) H := by exact hP
      have hD : va_D (va_A (kX3 T h a u ++ kX1 T (a 0) ac uc ++ kX8 T (ac 0) atp utp ++ kX2 T hlw alw ulw) s.heap.size) (kX3 T h a u ++ kX1 T (a 0) ac z9.2 ++ kX8 T (ac 0) atp utp ++ kX2 T hlw alw z10.2) := by exact hD
      refine lv_pop hx hb dX3_readFactor_90 rfl ?_
      refine lv_goto (tgt := 125) hx hb dX3_readFactor_91 (by decide) ?_
      have e9 := Option.some.inj hf
      exact retMv hx hb hr hlocks hP hD hS (congrArg (fun z => (kX3 T h a u ++ kX1 T (a 0) ac z.1 ++ kX8 T (ac 0) atp utp ++ kX2 T hlw alw z.2 : va_W)) e9) dX3_readFactor_125
    replace hf := ifn c2 hf
    refine lv_aload_n hx hb dX3_readFactor_38 rfl (lv_at hl 1 rfl) ?_
    refine lv_iload_n hx hb dX3_readFactor_39 rfl (lv_at hl 3 rfl) ?_
    obtain ⟨z11, hz11, hf⟩ := bnd hf
    have hPc := hP.sub (ws' := kX3 T h a u ++ kX1 T (a 0) ac vc ++ kX8 T (ac 0) atp utp) [0, 1, 2, 3] rfl
    have hDc := hD.sub (ws' := kX3 T h a u ++ kX1 T (a 0) ac vc ++ kX8 T (ac 0) atp utp) [0, 1, 2, 3] (by decide) rfl
    have hFc9 := va_free (wc := kX3 T h a u ++ kX1 T (a 0) ac vc ++ kX8 T (ac 0) atp utp) hD hS hA [0, 1, 2, 3] rfl
    refine cVM (As := [.int x2]) (rest := []) ⟨hx, hb, hml, hown, hts⟩ (mX3_opens l D T h a u ac vc atp utp _ x2 z11 hz11) (cwV 1 hts gX3_readFactor_X3_opens rfl rfl rfl (by decide +kernel) ⟨by show 2 + 1 ≤ 5 + d * 3; omega, by show 8 + (2 + 11) + (43) ≤ 115 + d * 72; omega⟩) (va_recv hK.1 hP (ci := 3) (q0 := 0) rfl rfl) hPc hK rfl hl.1 rfl (Nat.le_of_ble_eq_true rfl) dX3_readFactor_40 ⟨Nat.le_of_ble_eq_true rfl, Nat.le_of_ble_eq_true rfl⟩ hDc hFc9 hS (fun H9 locs hP1 hD1 hk1 hS => ?_)
    obtain ⟨hP, hD⟩ := putAll_P (w1 := kX3 T h a u ++ kX1 T (a 0) ac z11.2 ++ kX8 T (ac 0) atp utp) hP hD [0, 1, 2, 3] rfl (by decide) hk1 hP1 rfl
    generalize H9 = H at hP hS ⊢
    have hP : va_P D vwCl (kX3 T h a u ++ kX1 T (a 0) ac z11.2 ++ kX8 T (ac 0) atp utp ++ kX2 T hlw alw vlw) H := by exact hP
    have hD : va_D (va_A (kX3 T h a u ++ kX1 T (a 0) ac uc ++ kX8 T (ac 0) atp utp ++ kX2 T hlw alw ulw) s.heap.size) (kX3 T h a u ++ kX1 T (a 0) ac z11.2 ++ kX8 T (ac 0) atp utp ++ kX2 T hlw alw vlw) := by exact hD
    refine lv_if_eq (tgt := 125) hx hb dX3_readFactor_43 (by decide) (fun c12 => ?_) (fun c12 => ?_)
    · replace hf := ifp c12 hf
      have e9 := Option.some.inj hf
      exact retMv hx hb hr hlocks hP hD hS (congrArg (fun z => (kX3 T h a u ++ kX1 T (a 0) ac z.1 ++ kX8 T (ac 0) atp utp ++ kX2 T hlw alw z.2 : va_W)) e9) dX3_readFactor_125
    replace hf := ifn c12 hf
    refine lv_aload_n hx hb dX3_readFactor_46 rfl (lv_at hl 1 rfl) ?_
    refine lv_aload_n hx hb dX3_readFactor_47 rfl (lv_at hl 2 rfl) ?_
    refine lv_iload_n hx hb dX3_readFactor_48 rfl (lv_at hl 3 rfl) ?_
    refine lv_iconst (v := 1) hx hb dX3_readFactor_49 (by decide) ?_
    refine lv_iadd hx hb dX3_readFactor_50 ?_
    obtain ⟨z13, hz13, hf⟩ := bnd hf
    have hFc9 := vaA_self hD hS hA
    refine cVMvS (As := [.ref hlw, .int (x2 + 1)]) (rest := []) ⟨hx, hb, hml, hown, hts⟩ (hrc h a u ac z11.2 atp utp hlw alw vlw _ (x2 + 1) z13 hz13) (cwV 2 hts gX3_readFactor_X3_readSum rfl rfl rfl (by decide +kernel) ⟨by show 4 + d * 3 + 1 ≤ 5 + d * 3; omega, by show 8 + (5 + 11) + (91 + d * 72) ≤ 115 + d * 72; omega⟩) (va_recv hK.1 hP (ci := 3) (q0 := 0) rfl rfl) hP hK rfl hl.1 rfl (Nat.le_of_ble_eq_true rfl) dX3_readFactor_51 ⟨Nat.le_of_ble_eq_true rfl, Nat.le_of_ble_eq_true rfl⟩ hD hFc9 hE hS (fun H locs hP hD1 _ hS => ?_)
    have hD := hD1.weaken (fun _ _ _ h9 => hFc9 _ h9)
    refine lv_aload_n hx hb dX3_readFactor_54 rfl (lv_at hl 1 rfl) ?_
    refine va_get (D := D) (ci := 3) (v := .ref (a 0)) (C := RX3) (T := TX3) (N := 1) hx hb hts hinX3 hown hK.1 hP 0 rfl rfl 0 (by decide) (hts (.fieldLink RX3 9 "RopeScale$LawReader" "cursor" "LRopeScale$Cursor;") (List.mem_of_getElem? (i := 1) rfl)) (fun _ h9 => h9) rfl dX3_readFactor_55 ?_
    refine lv_bipush (v := 93) hx hb dX3_readFactor_58 (by decide) ?_
    obtain ⟨z14, hz14, hf⟩ := bnd hf
    have hPc := hP.sub (ws' := kX1 T (a 0) ac z13.1 ++ kX8 T (ac 0) atp utp) [1, 2, 3] rfl
    have hDc := hD.sub (ws' := kX1 T (a 0) ac z13.1 ++ kX8 T (ac 0) atp utp) [1, 2, 3] (by decide) rfl
    have hFc9 := va_free (wc := kX1 T (a 0) ac z13.1 ++ kX8 T (ac 0) atp utp) hD hS hA [1, 2, 3] rfl
    refine cVM (As := [.int 93]) (rest := []) ⟨hx, hb, hml, hown, hts⟩ (mX1_take l D T (a 0) ac z13.1 atp utp _ 93 z14 hz14) (cwV 1 hts gX3_readFactor_X1_take rfl rfl rfl (by decide +kernel) ⟨by show 2 + 1 ≤ 5 + d * 3; omega, by show 8 + (2 + 11) + (43) ≤ 115 + d * 72; omega⟩) (va_recv hK.1 hP (ci := 1) (q0 := 1) rfl rfl) hPc hK rfl hl.1 rfl (Nat.le_of_ble_eq_true rfl) dX3_readFactor_60 ⟨Nat.le_of_ble_eq_true rfl, Nat.le_of_ble_eq_true rfl⟩ hDc hFc9 hS (fun H9 locs hP1 hD1 hk1 hS => ?_)
    obtain ⟨hP, hD⟩ := putAll_P (w1 := kX1 T (a 0) ac z14.2 ++ kX8 T (ac 0) atp utp) hP hD [1, 2, 3] rfl (by decide) hk1 hP1 rfl
    generalize H9 = H at hP hS ⊢
    have hP : va_P D vwCl (kX3 T h a u ++ kX1 T (a 0) ac z14.2 ++ kX8 T (ac 0) atp utp ++ kX2 T hlw alw z13.2) H := by exact hP
    have hD : va_D (va_A (kX3 T h a u ++ kX1 T (a 0) ac uc ++ kX8 T (ac 0) atp utp ++ kX2 T hlw alw ulw) s.heap.size) (kX3 T h a u ++ kX1 T (a 0) ac z14.2 ++ kX8 T (ac 0) atp utp ++ kX2 T hlw alw z13.2) := by exact hD
    refine lv_pop hx hb dX3_readFactor_63 rfl ?_
    refine lv_goto (tgt := 125) hx hb dX3_readFactor_64 (by decide) ?_
    have e9 := Option.some.inj hf
    exact retMv hx hb hr hlocks hP hD hS (congrArg (fun z => (kX3 T h a u ++ kX1 T (a 0) ac z.1 ++ kX8 T (ac 0) atp utp ++ kX2 T hlw alw z.2 : va_W)) e9) dX3_readFactor_125
  unfold fX3_readFactor at hf
  refine lv_aload_n hx hb dX3_readFactor_0 rfl (lv_at hl 0 rfl) ?_
  refine va_get (D := D) (ci := 3) (v := .ref (a 0)) (C := RX3) (T := TX3) (N := 1) hx hb hts hinX3 hown hK.1 hP 0 rfl rfl 0 (by decide) (hts (.fieldLink RX3 9 "RopeScale$LawReader" "cursor" "LRopeScale$Cursor;") (List.mem_of_getElem? (i := 1) rfl)) (fun _ h9 => h9) rfl dX3_readFactor_1 ?_
  refine va_get (D := D) (ci := 1) (v := .int (uc 3 0)) (C := RX1) (T := TX1) (N := 5) hx hb hts hinX1 hown hK.1 hP 1 rfl rfl 3 (by decide) (hts (.fieldLink RX3 30 "RopeScale$Cursor" "sign" "I") (List.mem_of_getElem? (i := 2) rfl)) (fun _ h9 => h9) rfl dX3_readFactor_4 ?_
  obtain ⟨t15, et15, hf⟩ := lett_e hf
  refine lv_eqi et15 ?_
  refine lv_istore_n (lv' := [(3, .int t15), (0, .ref h), (1, .ref hlw), (2, .int p2)]) hx hb dX3_readFactor_7 rfl hl (by decide) rfl (fun ls hl => ?_)
  refine lv_iload_n hx hb dX3_readFactor_8 rfl (lv_at hl 0 rfl) ?_
  refine lv_iconst (v := (-1)) hx hb dX3_readFactor_9 (by decide) ?_
  refine lv_icmp_ne (tgt := 17) hx hb dX3_readFactor_10 (by decide) (fun c16 => ?_) (fun c16 => ?_)
  · replace hf := ifn c16 hf
    refine va_ldcS hx hb hown hE.2.2.2 dX3_readFactor_17 ?_
    refine lv_iload_n hx hb dX3_readFactor_19 rfl (lv_at hl 0 rfl) ?_
    refine lv_i2c hx hb dX3_readFactor_20 rfl ?_
    obtain ⟨z17, hz17, hf⟩ := bnd hf
    refine cVRS (As := [.int (ji2c t15)]) (rest := []) ⟨hx, hb, hml, hown, hts⟩ (mJ0_indexOf_0f7a4 l D T kv 1 (by decide) (ji2c t15) z17 hz17) (cwV 1 hts gX3_readFactor_J0_indexOf_0f7a4 rfl rfl rfl (by decide +kernel) ⟨by show 3 + 1 ≤ 5 + d * 3; omega, by show 8 + (2 + 11) + (70) ≤ 115 + d * 72; omega⟩) (vk_recv hE.1 (by decide) hS) P0 hK rfl hl.1 rfl (Nat.le_of_ble_eq_true rfl) dX3_readFactor_21 ⟨Nat.le_of_ble_eq_true rfl, Nat.le_of_ble_eq_true rfl⟩ hE hP hS (fun H locs hP hS => ?_)
    exact J24 uc ulw p2 z17 _ _ _ hf hP hD hS (lv_sub hl [1, 2, 3] rfl)
  replace hf := ifp c16 hf
  refine lv_iconst (v := (-1)) hx hb dX3_readFactor_13 (by decide) ?_
  refine lv_goto (tgt := 24) hx hb dX3_readFactor_14 (by decide) ?_
  exact J24 uc ulw p2 (-1) _ _ _ hf hP hD hS (lv_sub hl [1, 2, 3] rfl)
def bX3_readProduct_L8 (rc : St → St → St → Int32 → Option (St × St)) (utp : St)  (lp8 : St → St → Int32 → Int32 → Option (St × St)) (vc : St) (vlw : St) (x2 : Int32) (x3 : Int32) : Option (St × St) := if 240 ≤ x3 then some (vc, vlw) else lett (fX3_seesTimes vc) fun z2 => if z2 = 0 then some (vc, vlw) else lett (vc 3 0) fun t4 => (fX1_next vc utp).bind fun z5 => (fX3_readFactor rc z5 utp vlw x2).bind fun z6 => (fX2_put z6.2 t4 0).bind fun z7 => lett (x3 + 1) fun t8 => lp8 z6.1 z7.2 x2 t8
def fX3_readProduct_L8 (rc : St → St → St → Int32 → Option (St × St)) (utp : St)  : Nat → St → St → Int32 → Int32 → Option (St × St)
  | 0, _, _, _, _ => none
  | n + 1, vc, vlw, x2, x3 => bX3_readProduct_L8 rc utp (fX3_readProduct_L8 rc utp n) vc vlw x2 x3
def fX3_readProduct (rc : St → St → St → Int32 → Option (St × St))  (uc : St) (utp : St) (ulw : St) (p2 : Int32) : Option (St × St) := (fX3_readFactor rc uc utp ulw p2).bind fun z9 => fX3_readProduct_L8 rc utp FU z9.1 z9.2 p2 1
set_option maxHeartbeats 4000000 in
set_option maxRecDepth 100000 in
theorem mX3_readProduct (l : Launch) (D : va_G) (T : Ty3) (kv : (Nat → Nat) × (Nat → Nat)) (d : Nat) (rc : St → St → St → Int32 → Option (St × St)) (hrc : ∀ (h : Nat) (a : Nat → Nat) (u : St) (ac : Nat → Nat) (uc : St) (atp : Nat → Nat) (utp : St) (hlw : Nat) (alw : Nat → Nat) (ulw : St) (sz : Nat) (p2 : Int32) (res : St × St), rc uc utp ulw p2 = some res → Met l yX3_readSum wsX3_readSum ({ frames := 4 + d * 3, cells := 0, slots := 0, locals := 91 + d * 72 }) (PcMS D T kv (kX3 T h a u ++ kX1 T (a 0) ac uc ++ kX8 T (ac 0) atp utp ++ kX2 T hlw alw ulw) sz [.ref h, .ref hlw, .int p2]) (QMv D (kX3 T h a u ++ kX1 T (a 0) ac uc ++ kX8 T (ac 0) atp utp ++ kX2 T hlw alw ulw) sz (kX3 T h a u ++ kX1 T (a 0) ac res.1 ++ kX8 T (ac 0) atp utp ++ kX2 T hlw alw res.2)) 0 0 (va_A (kX3 T h a u ++ kX1 T (a 0) ac uc ++ kX8 T (ac 0) atp utp ++ kX2 T hlw alw ulw) sz)) (h : Nat) (a : Nat → Nat) (u : St) (ac : Nat → Nat) (uc : St) (atp : Nat → Nat) (utp : St) (hlw : Nat) (alw : Nat → Nat) (ulw : St) (sz : Nat) (p2 : Int32) (res : St × St) (hf : fX3_readProduct rc uc utp ulw p2 = some res) : Met l yX3_readProduct wsX3_readProduct ({ frames := 6 + d * 3, cells := 0, slots := 0, locals := 139 + d * 72 }) (PcMS D T kv (kX3 T h a u ++ kX1 T (a 0) ac uc ++ kX8 T (ac 0) atp utp ++ kX2 T hlw alw ulw) sz [.ref h, .ref hlw, .int p2]) (QMv D (kX3 T h a u ++ kX1 T (a 0) ac uc ++ kX8 T (ac 0) atp utp ++ kX2 T hlw alw ulw) sz (kX3 T h a u ++ kX1 T (a 0) ac res.1 ++ kX8 T (ac 0) atp utp ++ kX2 T hlw alw res.2)) 0 0 (va_A (kX3 T h a u ++ kX1 T (a 0) ac uc ++ kX8 T (ac 0) atp utp ++ kX2 T hlw alw ulw) sz) := by
  refine Met.ofW (cc := cX3_readProduct) (maxL := 5) (ret := none) (by decide) rfl ?_
  intro p e s m args below meth c s₁ B hml hv
  obtain ⟨rfl, hsz, hP, hK, hD0, hE⟩ := hv
  have hx := B.exec
  have hb := B.bytes
  have hr := B.returns
  have hts := atoms_spec (ws := wsX3_readProduct) B.pre
  have hown : s.vm.findClass RX3 = some m.cls := findClass_of_methodNamed B.named
  have hlocks := B.notSynchronized
  subst hsz
  have hD := hD0.self (sz := s.heap.size)
  have hA : ∀ q : Nat, s.heap.size ≤ q → va_A (kX3 T h a u ++ kX1 T (a 0) ac uc ++ kX8 T (ac 0) atp utp ++ kX2 T hlw alw ulw) s.heap.size q := fun q h => Or.inr h
  have hS : va_S (va_A (kX3 T h a u ++ kX1 T (a 0) ac uc ++ kX8 T (ac 0) atp utp ++ kX2 T hlw alw ulw) s.heap.size) s.heap s.heap [] := va_S.rf
  have hinX3 : ∀ w ∈ u_ws RX3 TX3 1, w ∈ wsX3_readProduct := fun w h => List.mem_cons_of_mem _ (List.mem_append_left _ (List.mem_append_left _ (List.mem_append_left _ (List.mem_append_right _ h))))
  have hinX1 : ∀ w ∈ u_ws RX1 TX1 5, w ∈ wsX3_readProduct := fun w h => List.mem_cons_of_mem _ (List.mem_append_left _ (List.mem_append_left _ (List.mem_append_right _ h)))
  have hinX8 : ∀ w ∈ u_ws RX8 TX8 2, w ∈ wsX3_readProduct := fun w h => List.mem_cons_of_mem _ (List.mem_append_left _ (List.mem_append_right _ h))
  have hinX2 : ∀ w ∈ u_ws RX2 TX2 10, w ∈ wsX3_readProduct := fun w h => List.mem_cons_of_mem _ (List.mem_append_right _ h)
  have hl := lv_entry ([.ref h, .ref hlw, .int p2]) (n := 5) (Nat.le_of_ble_eq_true rfl)
  rw [lg_entry_eq]
  generalize (lg_sl ([.ref h, .ref hlw, .int p2]) ++ List.replicate (5 - (lg_sl ([.ref h, .ref hlw, .int p2])).length) Slot.unset).toArray = ls at hl ⊢
  have hl : lv_has ls 5 [(0, .ref h), (1, .ref hlw), (2, .int p2)] := hl
  have L8 : ∀ (n8 : Nat), ∀ (vc : St) (vlw : St) (x2 : Int32) (x3 : Int32) (H : Heap) (locs : List Loc) (ls : Array Slot), fX3_readProduct_L8 rc utp n8 vc vlw x2 x3 = some res → va_P D vwCl (kX3 T h a u ++ kX1 T (a 0) ac vc ++ kX8 T (ac 0) atp utp ++ kX2 T hlw alw vlw) H → va_D (va_A (kX3 T h a u ++ kX1 T (a 0) ac uc ++ kX8 T (ac 0) atp utp ++ kX2 T hlw alw ulw) s.heap.size) (kX3 T h a u ++ kX1 T (a 0) ac vc ++ kX8 T (ac 0) atp utp ++ kX2 T hlw alw vlw) → va_S (va_A (kX3 T h a u ++ kX1 T (a 0) ac uc ++ kX8 T (ac 0) atp utp ++ kX2 T hlw alw ulw) s.heap.size) s.heap H locs → lv_has ls 5 [(0, .ref h), (1, .ref hlw), (2, .int x2), (3, .int x3)] → W p l e (headSpec wsX3_readProduct ({ frames := 6 + d * 3, cells := 0, slots := 0, locals := 139 + d * 72 })).room s m ([.ref h, .ref hlw, .int p2] : List Value).toArray below meth c H locs 0 0 (MQ below (QMv D (kX3 T h a u ++ kX1 T (a 0) ac uc ++ kX8 T (ac 0) atp utp ++ kX2 T hlw alw ulw) s.heap.size (kX3 T h a u ++ kX1 T (a 0) ac res.1 ++ kX8 T (ac 0) atp utp ++ kX2 T hlw alw res.2)) ([.ref h, .ref hlw, .int p2] : List Value).toArray s 0 0 (va_A (kX3 T h a u ++ kX1 T (a 0) ac uc ++ kX8 T (ac 0) atp utp ++ kX2 T hlw alw ulw) s.heap.size)) (F0 m 8 ls []) := by
    intro n8
    induction n8 with
    | zero => intro vc vlw x2 x3 H locs ls hf; exact nns hf
    | succ n8 ih8 =>
      intro vc vlw x2 x3 H locs ls hf hP hD hS hl
      replace hf : bX3_readProduct_L8 rc utp (fX3_readProduct_L8 rc utp n8) vc vlw x2 x3 = some res := hf
      unfold bX3_readProduct_L8 at hf
      refine lv_iload_n hx hb dX3_readProduct_8 rfl (lv_at hl 3 rfl) ?_
      refine lv_sipush (v := 240) hx hb dX3_readProduct_9 (by decide) ?_
      refine lv_icmp_ge (tgt := 58) hx hb dX3_readProduct_12 (by decide) (fun c1 => ?_) (fun c1 => ?_)
      · replace hf := ifp c1 hf
        have e9 := Option.some.inj hf
        exact retMv hx hb hr hlocks hP hD hS (congrArg (fun z => (kX3 T h a u ++ kX1 T (a 0) ac z.1 ++ kX8 T (ac 0) atp utp ++ kX2 T hlw alw z.2 : va_W)) e9) dX3_readProduct_58
      replace hf := ifn c1 hf
      refine lv_aload_n hx hb dX3_readProduct_15 rfl (lv_at hl 0 rfl) ?_
      obtain ⟨z2, hz2, hf⟩ := lett_e hf
      refine cVR (As := []) (rest := []) ⟨hx, hb, hml, hown, hts⟩ (mX3_seesTimes l D T h a u ac vc atp utp z2 hz2.symm) (cwV 0 hts gX3_readProduct_X3_seesTimes rfl rfl rfl (by decide +kernel) ⟨by show 1 + 1 ≤ 6 + d * 3; omega, by show 8 + (1 + 11) + (21) ≤ 139 + d * 72; omega⟩) (va_recv hK.1 hP (ci := 3) (q0 := 0) rfl rfl) (hP.sub (ws' := kX3 T h a u ++ kX1 T (a 0) ac vc ++ kX8 T (ac 0) atp utp) [0, 1, 2, 3] rfl) hK rfl hl.1 rfl (Nat.le_of_ble_eq_true rfl) dX3_readProduct_16 ⟨Nat.le_of_ble_eq_true rfl, Nat.le_of_ble_eq_true rfl⟩ hP hS (fun H locs hP hS => ?_)
      refine lv_if_eq (tgt := 58) hx hb dX3_readProduct_19 (by decide) (fun c3 => ?_) (fun c3 => ?_)
      · replace hf := ifp c3 hf
        have e9 := Option.some.inj hf
        exact retMv hx hb hr hlocks hP hD hS (congrArg (fun z => (kX3 T h a u ++ kX1 T (a 0) ac z.1 ++ kX8 T (ac 0) atp utp ++ kX2 T hlw alw z.2 : va_W)) e9) dX3_readProduct_58
      replace hf := ifn c3 hf
      refine lv_aload_n hx hb dX3_readProduct_22 rfl (lv_at hl 0 rfl) ?_
      refine va_get (D := D) (ci := 3) (v := .ref (a 0)) (C := RX3) (T := TX3) (N := 1) hx hb hts hinX3 hown hK.1 hP 0 rfl rfl 0 (by decide) (hts (.fieldLink RX3 9 "RopeScale$LawReader" "cursor" "LRopeScale$Cursor;") (List.mem_of_getElem? (i := 1) rfl)) (fun _ h9 => h9) rfl dX3_readProduct_23 ?_
      refine va_get (D := D) (ci := 1) (v := .int (vc 3 0)) (C := RX1) (T := TX1) (N := 5) hx hb hts hinX1 hown hK.1 hP 1 rfl rfl 3 (by decide) (hts (.fieldLink RX3 30 "RopeScale$Cursor" "sign" "I") (List.mem_of_getElem? (i := 2) rfl)) (fun _ h9 => h9) rfl dX3_readProduct_26 ?_
      obtain ⟨t4, et4, hf⟩ := lett_e hf
      refine lv_eqi et4 ?_
      refine lv_istore (lv' := [(4, .int t4), (0, .ref h), (1, .ref hlw), (2, .int x2), (3, .int x3)]) hx hb dX3_readProduct_29 hl (by decide) rfl (fun ls hl => ?_)
      refine lv_aload_n hx hb dX3_readProduct_31 rfl (lv_at hl 1 rfl) ?_
      refine va_get (D := D) (ci := 3) (v := .ref (a 0)) (C := RX3) (T := TX3) (N := 1) hx hb hts hinX3 hown hK.1 hP 0 rfl rfl 0 (by decide) (hts (.fieldLink RX3 9 "RopeScale$LawReader" "cursor" "LRopeScale$Cursor;") (List.mem_of_getElem? (i := 1) rfl)) (fun _ h9 => h9) rfl dX3_readProduct_32 ?_
      obtain ⟨z5, hz5, hf⟩ := bnd hf
      have hPc := hP.sub (ws' := kX1 T (a 0) ac vc ++ kX8 T (ac 0) atp utp) [1, 2, 3] rfl
      have hDc := hD.sub (ws' := kX1 T (a 0) ac vc ++ kX8 T (ac 0) atp utp) [1, 2, 3] (by decide) rfl
      have hFc9 := va_free (wc := kX1 T (a 0) ac vc ++ kX8 T (ac 0) atp utp) hD hS hA [1, 2, 3] rfl
      refine cVMv (As := []) (rest := []) ⟨hx, hb, hml, hown, hts⟩ (mX1_next l D T (a 0) ac vc atp utp _ z5 hz5) (cwV 0 hts gX3_readProduct_X1_next rfl rfl rfl (by decide +kernel) ⟨by show 1 + 1 ≤ 6 + d * 3; omega, by show 8 + (1 + 11) + (21) ≤ 139 + d * 72; omega⟩) (va_recv hK.1 hP (ci := 1) (q0 := 1) rfl rfl) hPc hK rfl hl.1 rfl (Nat.le_of_ble_eq_true rfl) dX3_readProduct_35 ⟨Nat.le_of_ble_eq_true rfl, Nat.le_of_ble_eq_true rfl⟩ hDc hFc9 hS (fun H9 locs hP1 hD1 hk1 hS => ?_)
      obtain ⟨hP, hD⟩ := putAll_P (w1 := kX1 T (a 0) ac z5 ++ kX8 T (ac 0) atp utp) hP hD [1, 2, 3] rfl (by decide) hk1 hP1 rfl
      generalize H9 = H at hP hS ⊢
      have hP : va_P D vwCl (kX3 T h a u ++ kX1 T (a 0) ac z5 ++ kX8 T (ac 0) atp utp ++ kX2 T hlw alw vlw) H := by exact hP
      have hD : va_D (va_A (kX3 T h a u ++ kX1 T (a 0) ac uc ++ kX8 T (ac 0) atp utp ++ kX2 T hlw alw ulw) s.heap.size) (kX3 T h a u ++ kX1 T (a 0) ac z5 ++ kX8 T (ac 0) atp utp ++ kX2 T hlw alw vlw) := by exact hD
      refine lv_aload_n hx hb dX3_readProduct_38 rfl (lv_at hl 1 rfl) ?_
      refine lv_aload_n hx hb dX3_readProduct_39 rfl (lv_at hl 2 rfl) ?_
      refine lv_iload_n hx hb dX3_readProduct_40 rfl (lv_at hl 3 rfl) ?_
      obtain ⟨z6, hz6, hf⟩ := bnd hf
      have hFc9 := vaA_self hD hS hA
      refine cVMvS (As := [.ref hlw, .int x2]) (rest := []) ⟨hx, hb, hml, hown, hts⟩ (mX3_readFactor l D T kv d rc hrc h a u ac z5 atp utp hlw alw vlw _ x2 z6 hz6) (cwV 2 hts gX3_readProduct_X3_readFactor rfl rfl rfl (by decide +kernel) ⟨by show 5 + d * 3 + 1 ≤ 6 + d * 3; omega, by show 8 + (5 + 11) + (115 + d * 72) ≤ 139 + d * 72; omega⟩) (va_recv hK.1 hP (ci := 3) (q0 := 0) rfl rfl) hP hK rfl hl.1 rfl (Nat.le_of_ble_eq_true rfl) dX3_readProduct_41 ⟨Nat.le_of_ble_eq_true rfl, Nat.le_of_ble_eq_true rfl⟩ hD hFc9 hE hS (fun H locs hP hD1 _ hS => ?_)
      have hD := hD1.weaken (fun _ _ _ h9 => hFc9 _ h9)
      refine lv_aload_n hx hb dX3_readProduct_44 rfl (lv_at hl 2 rfl) ?_
      refine lv_iload hx hb dX3_readProduct_45 (lv_at hl 0 rfl) ?_
      refine lv_iconst (v := 0) hx hb dX3_readProduct_47 (by decide) ?_
      obtain ⟨z7, hz7, hf⟩ := bnd hf
      have hPc := hP.sub (ws' := kX2 T hlw alw z6.2) [4, 5, 6, 7, 8, 9, 10, 11, 12] rfl
      have hDc := hD.sub (ws' := kX2 T hlw alw z6.2) [4, 5, 6, 7, 8, 9, 10, 11, 12] (by decide) rfl
      have hFc9 := va_free (wc := kX2 T hlw alw z6.2) hD hS hA [4, 5, 6, 7, 8, 9, 10, 11, 12] rfl
      refine cVM (As := [.int t4, .int 0]) (rest := []) ⟨hx, hb, hml, hown, hts⟩ (mX2_put l D T hlw alw z6.2 _ t4 0 z7 hz7) (cwV 2 hts gX3_readProduct_X2_put rfl rfl rfl (by decide +kernel) ⟨by show 0 + 1 ≤ 6 + d * 3; omega, by show 8 + (3 + 11) + (0) ≤ 139 + d * 72; omega⟩) (va_recv hK.1 hP (ci := 2) (q0 := 4) rfl rfl) hPc hK rfl hl.1 rfl (Nat.le_of_ble_eq_true rfl) dX3_readProduct_48 ⟨Nat.le_of_ble_eq_true rfl, Nat.le_of_ble_eq_true rfl⟩ hDc hFc9 hS (fun H9 locs hP1 hD1 hk1 hS => ?_)
      obtain ⟨hP, hD⟩ := putAll_P (w1 := kX2 T hlw alw z7.2) hP hD [4, 5, 6, 7, 8, 9, 10, 11, 12] rfl (by decide) hk1 hP1 rfl
      generalize H9 = H at hP hS ⊢
      have hP : va_P D vwCl (kX3 T h a u ++ kX1 T (a 0) ac z6.1 ++ kX8 T (ac 0) atp utp ++ kX2 T hlw alw z7.2) H := by exact hP
      have hD : va_D (va_A (kX3 T h a u ++ kX1 T (a 0) ac uc ++ kX8 T (ac 0) atp utp ++ kX2 T hlw alw ulw) s.heap.size) (kX3 T h a u ++ kX1 T (a 0) ac z6.1 ++ kX8 T (ac 0) atp utp ++ kX2 T hlw alw z7.2) := by exact hD
      refine lv_pop hx hb dX3_readProduct_51 rfl ?_
      obtain ⟨t8, et8, hf⟩ := lett_e hf
      refine lv_iinc (v := t8) (lv' := [(3, .int t8), (4, .int t4), (0, .ref h), (1, .ref hlw), (2, .int x2)]) hx hb dX3_readProduct_52 hl (k := 4) rfl (by rw [et8]; rfl) (by decide) rfl (fun ls hl => ?_)
      refine lv_goto (tgt := 8) hx hb dX3_readProduct_55 (by decide) ?_
      exact ih8 z6.1 z7.2 x2 t8 _ _ _ hf hP hD hS (lv_sub hl [2, 3, 4, 0] rfl)
  unfold fX3_readProduct at hf
  refine lv_aload_n hx hb dX3_readProduct_0 rfl (lv_at hl 0 rfl) ?_
  refine lv_aload_n hx hb dX3_readProduct_1 rfl (lv_at hl 1 rfl) ?_
  refine lv_iload_n hx hb dX3_readProduct_2 rfl (lv_at hl 2 rfl) ?_
  obtain ⟨z9, hz9, hf⟩ := bnd hf
  have hFc9 := vaA_self hD hS hA
  refine cVMvS (As := [.ref hlw, .int p2]) (rest := []) ⟨hx, hb, hml, hown, hts⟩ (mX3_readFactor l D T kv d rc hrc h a u ac uc atp utp hlw alw ulw _ p2 z9 hz9) (cwV 2 hts gX3_readProduct_X3_readFactor rfl rfl rfl (by decide +kernel) ⟨by show 5 + d * 3 + 1 ≤ 6 + d * 3; omega, by show 8 + (5 + 11) + (115 + d * 72) ≤ 139 + d * 72; omega⟩) (va_recv hK.1 hP (ci := 3) (q0 := 0) rfl rfl) hP hK rfl hl.1 rfl (Nat.le_of_ble_eq_true rfl) dX3_readProduct_3 ⟨Nat.le_of_ble_eq_true rfl, Nat.le_of_ble_eq_true rfl⟩ hD hFc9 hE hS (fun H locs hP hD1 _ hS => ?_)
  have hD := hD1.weaken (fun _ _ _ h9 => hFc9 _ h9)
  refine lv_iconst (v := 1) hx hb dX3_readProduct_6 (by decide) ?_
  refine lv_istore_n (lv' := [(3, .int 1), (0, .ref h), (1, .ref hlw), (2, .int p2)]) hx hb dX3_readProduct_7 rfl hl (by decide) rfl (fun ls hl => ?_)
  exact L8 FU z9.1 z9.2 p2 1 _ _ _ hf hP hD hS (lv_sub hl [1, 2, 3, 0] rfl)
def fX3_readSum_J39 (rc : St → St → St → Int32 → Option (St × St)) (utp : St) (lp8 : St → St → Int32 → Int32 → Option (St × St)) (vc : St) (vlw : St) (x2 : Int32) (x3 : Int32) : Option (St × St) := lett (vc 3 0) fun t1 => (fX1_next vc utp).bind fun z2 => (fX3_readProduct rc z2 utp vlw x2).bind fun z3 => (fX2_put z3.2 t1 0).bind fun z4 => lett (x3 + 1) fun t5 => lp8 z3.1 z4.2 x2 t5
def bX3_readSum_L8 (rc : St → St → St → Int32 → Option (St × St)) (utp : St)  (lp8 : St → St → Int32 → Int32 → Option (St × St)) (vc : St) (vlw : St) (x2 : Int32) (x3 : Int32) : Option (St × St) := if 240 ≤ x3 then some (vc, vlw) else lett (fX1_sees vc 43) fun z7 => if z7 = 0 then lett (fX1_sees vc 45) fun z9 => if z9 = 0 then some (vc, vlw) else fX3_readSum_J39 rc utp lp8 vc vlw x2 x3 else fX3_readSum_J39 rc utp lp8 vc vlw x2 x3
def fX3_readSum_L8 (rc : St → St → St → Int32 → Option (St × St)) (utp : St)  : Nat → St → St → Int32 → Int32 → Option (St × St)
  | 0, _, _, _, _ => none
  | n + 1, vc, vlw, x2, x3 => bX3_readSum_L8 rc utp (fX3_readSum_L8 rc utp n) vc vlw x2 x3
def bX3_readSum (rc : St → St → St → Int32 → Option (St × St))  (uc : St) (utp : St) (ulw : St) (p2 : Int32) : Option (St × St) := (fX3_readProduct rc uc utp ulw p2).bind fun z11 => fX3_readSum_L8 rc utp FU z11.1 z11.2 p2 1
def fX3_readSum : Nat → St → St → St → Int32 → Option (St × St)
  | 0, _, _, _, _ => none
  | d + 1, uc, utp, ulw, p2 => bX3_readSum (fX3_readSum d) uc utp ulw p2
set_option maxHeartbeats 4000000 in
set_option maxRecDepth 100000 in
theorem mX3_readSum (l : Launch) (D : va_G) (T : Ty3) (kv : (Nat → Nat) × (Nat → Nat)) : ∀ (d : Nat), ∀ (h : Nat) (a : Nat → Nat) (u : St) (ac : Nat → Nat) (uc : St) (atp : Nat → Nat) (utp : St) (hlw : Nat) (alw : Nat → Nat) (ulw : St) (sz : Nat) (p2 : Int32) (res : St × St), fX3_readSum d uc utp ulw p2 = some res → Met l yX3_readSum wsX3_readSum ({ frames := 4 + d * 3, cells := 0, slots := 0, locals := 91 + d * 72 }) (PcMS D T kv (kX3 T h a u ++ kX1 T (a 0) ac uc ++ kX8 T (ac 0) atp utp ++ kX2 T hlw alw ulw) sz [.ref h, .ref hlw, .int p2]) (QMv D (kX3 T h a u ++ kX1 T (a 0) ac uc ++ kX8 T (ac 0) atp utp ++ kX2 T hlw alw ulw) sz (kX3 T h a u ++ kX1 T (a 0) ac res.1 ++ kX8 T (ac 0) atp utp ++ kX2 T hlw alw res.2)) 0 0 (va_A (kX3 T h a u ++ kX1 T (a 0) ac uc ++ kX8 T (ac 0) atp utp ++ kX2 T hlw alw ulw) sz) := by
  intro d
  induction d with
  | zero => intro h a u ac uc atp utp hlw alw ulw sz p2 res hf; exact nns hf
  | succ d hrc =>
    intro h a u ac uc atp utp hlw alw ulw sz p2 res hf
    replace hf : bX3_readSum (fX3_readSum d) uc utp ulw p2 = some res := hf
    generalize hrce : fX3_readSum d = rc at hrc hf
    refine Met.ofW (cc := cX3_readSum) (maxL := 5) (ret := none) (by decide) rfl ?_
    intro p e s m args below meth c s₁ B hml hv
    obtain ⟨rfl, hsz, hP, hK, hD0, hE⟩ := hv
    have hx := B.exec
    have hb := B.bytes
    have hr := B.returns
    have hts := atoms_spec (ws := wsX3_readSum) B.pre
    have hown : s.vm.findClass RX3 = some m.cls := findClass_of_methodNamed B.named
    have hlocks := B.notSynchronized
    subst hsz
    have hD := hD0.self (sz := s.heap.size)
    have hA : ∀ q : Nat, s.heap.size ≤ q → va_A (kX3 T h a u ++ kX1 T (a 0) ac uc ++ kX8 T (ac 0) atp utp ++ kX2 T hlw alw ulw) s.heap.size q := fun q h => Or.inr h
    have hS : va_S (va_A (kX3 T h a u ++ kX1 T (a 0) ac uc ++ kX8 T (ac 0) atp utp ++ kX2 T hlw alw ulw) s.heap.size) s.heap s.heap [] := va_S.rf
    have hinX3 : ∀ w ∈ u_ws RX3 TX3 1, w ∈ wsX3_readSum := fun w h => List.mem_cons_of_mem _ (List.mem_append_left _ (List.mem_append_left _ (List.mem_append_left _ (List.mem_append_right _ h))))
    have hinX1 : ∀ w ∈ u_ws RX1 TX1 5, w ∈ wsX3_readSum := fun w h => List.mem_cons_of_mem _ (List.mem_append_left _ (List.mem_append_left _ (List.mem_append_right _ h)))
    have hinX8 : ∀ w ∈ u_ws RX8 TX8 2, w ∈ wsX3_readSum := fun w h => List.mem_cons_of_mem _ (List.mem_append_left _ (List.mem_append_right _ h))
    have hinX2 : ∀ w ∈ u_ws RX2 TX2 10, w ∈ wsX3_readSum := fun w h => List.mem_cons_of_mem _ (List.mem_append_right _ h)
    have hl := lv_entry ([.ref h, .ref hlw, .int p2]) (n := 5) (Nat.le_of_ble_eq_true rfl)
    rw [lg_entry_eq]
    generalize (lg_sl ([.ref h, .ref hlw, .int p2]) ++ List.replicate (5 - (lg_sl ([.ref h, .ref hlw, .int p2])).length) Slot.unset).toArray = ls at hl ⊢
    have hl : lv_has ls 5 [(0, .ref h), (1, .ref hlw), (2, .int p2)] := hl
    have L8 : ∀ (n8 : Nat), ∀ (vc : St) (vlw : St) (x2 : Int32) (x3 : Int32) (H : Heap) (locs : List Loc) (ls : Array Slot), fX3_readSum_L8 rc utp n8 vc vlw x2 x3 = some res → va_P D vwCl (kX3 T h a u ++ kX1 T (a 0) ac vc ++ kX8 T (ac 0) atp utp ++ kX2 T hlw alw vlw) H → va_D (va_A (kX3 T h a u ++ kX1 T (a 0) ac uc ++ kX8 T (ac 0) atp utp ++ kX2 T hlw alw ulw) s.heap.size) (kX3 T h a u ++ kX1 T (a 0) ac vc ++ kX8 T (ac 0) atp utp ++ kX2 T hlw alw vlw) → va_S (va_A (kX3 T h a u ++ kX1 T (a 0) ac uc ++ kX8 T (ac 0) atp utp ++ kX2 T hlw alw ulw) s.heap.size) s.heap H locs → lv_has ls 5 [(0, .ref h), (1, .ref hlw), (2, .int x2), (3, .int x3)] → W p l e (headSpec wsX3_readSum ({ frames := 4 + (d + 1) * 3, cells := 0, slots := 0, locals := 91 + (d + 1) * 72 })).room s m ([.ref h, .ref hlw, .int p2] : List Value).toArray below meth c H locs 0 0 (MQ below (QMv D (kX3 T h a u ++ kX1 T (a 0) ac uc ++ kX8 T (ac 0) atp utp ++ kX2 T hlw alw ulw) s.heap.size (kX3 T h a u ++ kX1 T (a 0) ac res.1 ++ kX8 T (ac 0) atp utp ++ kX2 T hlw alw res.2)) ([.ref h, .ref hlw, .int p2] : List Value).toArray s 0 0 (va_A (kX3 T h a u ++ kX1 T (a 0) ac uc ++ kX8 T (ac 0) atp utp ++ kX2 T hlw alw ulw) s.heap.size)) (F0 m 8 ls []) := by
      intro n8
      induction n8 with
      | zero => intro vc vlw x2 x3 H locs ls hf; exact nns hf
      | succ n8 ih8 =>
        have J39 : ∀ (vc : St) (vlw : St) (x2 : Int32) (x3 : Int32) (H : Heap) (locs : List Loc) (ls : Array Slot), fX3_readSum_J39 rc utp (fX3_readSum_L8 rc utp n8) vc vlw x2 x3 = some res → va_P D vwCl (kX3 T h a u ++ kX1 T (a 0) ac vc ++ kX8 T (ac 0) atp utp ++ kX2 T hlw alw vlw) H → va_D (va_A (kX3 T h a u ++ kX1 T (a 0) ac uc ++ kX8 T (ac 0) atp utp ++ kX2 T hlw alw ulw) s.heap.size) (kX3 T h a u ++ kX1 T (a 0) ac vc ++ kX8 T (ac 0) atp utp ++ kX2 T hlw alw vlw) → va_S (va_A (kX3 T h a u ++ kX1 T (a 0) ac uc ++ kX8 T (ac 0) atp utp ++ kX2 T hlw alw ulw) s.heap.size) s.heap H locs → lv_has ls 5 [(0, .ref h), (1, .ref hlw), (2, .int x2), (3, .int x3)] → W p l e (headSpec wsX3_readSum ({ frames := 4 + (d + 1) * 3, cells := 0, slots := 0, locals := 91 + (d + 1) * 72 })).room s m ([.ref h, .ref hlw, .int p2] : List Value).toArray below meth c H locs 0 0 (MQ below (QMv D (kX3 T h a u ++ kX1 T (a 0) ac uc ++ kX8 T (ac 0) atp utp ++ kX2 T hlw alw ulw) s.heap.size (kX3 T h a u ++ kX1 T (a 0) ac res.1 ++ kX8 T (ac 0) atp utp ++ kX2 T hlw alw res.2)) ([.ref h, .ref hlw, .int p2] : List Value).toArray s 0 0 (va_A (kX3 T h a u ++ kX1 T (a 0) ac uc ++ kX8 T (ac 0) atp utp ++ kX2 T hlw alw ulw) s.heap.size)) (F0 m 39 ls []) := by
          intro vc vlw x2 x3 H locs ls hf hP hD hS hl
          unfold fX3_readSum_J39 at hf
          refine lv_aload_n hx hb dX3_readSum_39 rfl (lv_at hl 0 rfl) ?_
          refine va_get (D := D) (ci := 3) (v := .ref (a 0)) (C := RX3) (T := TX3) (N := 1) hx hb hts hinX3 hown hK.1 hP 0 rfl rfl 0 (by decide) (hts (.fieldLink RX3 9 "RopeScale$LawReader" "cursor" "LRopeScale$Cursor;") (List.mem_of_getElem? (i := 1) rfl)) (fun _ h9 => h9) rfl dX3_readSum_40 ?_
          refine va_get (D := D) (ci := 1) (v := .int (vc 3 0)) (C := RX1) (T := TX1) (N := 5) hx hb hts hinX1 hown hK.1 hP 1 rfl rfl 3 (by decide) (hts (.fieldLink RX3 30 "RopeScale$Cursor" "sign" "I") (List.mem_of_getElem? (i := 2) rfl)) (fun _ h9 => h9) rfl dX3_readSum_43 ?_
          obtain ⟨t1, et1, hf⟩ := lett_e hf
          refine lv_eqi et1 ?_
          refine lv_istore (lv' := [(4, .int t1), (0, .ref h), (1, .ref hlw), (2, .int x2), (3, .int x3)]) hx hb dX3_readSum_46 hl (by decide) rfl (fun ls hl => ?_)
          refine lv_aload_n hx hb dX3_readSum_48 rfl (lv_at hl 1 rfl) ?_
          refine va_get (D := D) (ci := 3) (v := .ref (a 0)) (C := RX3) (T := TX3) (N := 1) hx hb hts hinX3 hown hK.1 hP 0 rfl rfl 0 (by decide) (hts (.fieldLink RX3 9 "RopeScale$LawReader" "cursor" "LRopeScale$Cursor;") (List.mem_of_getElem? (i := 1) rfl)) (fun _ h9 => h9) rfl dX3_readSum_49 ?_
          obtain ⟨z2, hz2, hf⟩ := bnd hf
          have hPc := hP.sub (ws' := kX1 T (a 0) ac vc ++ kX8 T (ac 0) atp utp) [1, 2, 3] rfl
          have hDc := hD.sub (ws' := kX1 T (a 0) ac vc ++ kX8 T (ac 0) atp utp) [1, 2, 3] (by decide) rfl
          have hFc9 := va_free (wc := kX1 T (a 0) ac vc ++ kX8 T (ac 0) atp utp) hD hS hA [1, 2, 3] rfl
          refine cVMv (As := []) (rest := []) ⟨hx, hb, hml, hown, hts⟩ (mX1_next l D T (a 0) ac vc atp utp _ z2 hz2) (cwV 0 hts gX3_readSum_X1_next rfl rfl rfl (by decide +kernel) ⟨by show 1 + 1 ≤ 4 + (d + 1) * 3; omega, by show 8 + (1 + 11) + (21) ≤ 91 + (d + 1) * 72; omega⟩) (va_recv hK.1 hP (ci := 1) (q0 := 1) rfl rfl) hPc hK rfl hl.1 rfl (Nat.le_of_ble_eq_true rfl) dX3_readSum_52 ⟨Nat.le_of_ble_eq_true rfl, Nat.le_of_ble_eq_true rfl⟩ hDc hFc9 hS (fun H9 locs hP1 hD1 hk1 hS => ?_)
          obtain ⟨hP, hD⟩ := putAll_P (w1 := kX1 T (a 0) ac z2 ++ kX8 T (ac 0) atp utp) hP hD [1, 2, 3] rfl (by decide) hk1 hP1 rfl
          generalize H9 = H at hP hS ⊢
          have hP : va_P D vwCl (kX3 T h a u ++ kX1 T (a 0) ac z2 ++ kX8 T (ac 0) atp utp ++ kX2 T hlw alw vlw) H := by exact hP
          have hD : va_D (va_A (kX3 T h a u ++ kX1 T (a 0) ac uc ++ kX8 T (ac 0) atp utp ++ kX2 T hlw alw ulw) s.heap.size) (kX3 T h a u ++ kX1 T (a 0) ac z2 ++ kX8 T (ac 0) atp utp ++ kX2 T hlw alw vlw) := by exact hD
          refine lv_aload_n hx hb dX3_readSum_55 rfl (lv_at hl 1 rfl) ?_
          refine lv_aload_n hx hb dX3_readSum_56 rfl (lv_at hl 2 rfl) ?_
          refine lv_iload_n hx hb dX3_readSum_57 rfl (lv_at hl 3 rfl) ?_
          obtain ⟨z3, hz3, hf⟩ := bnd hf
          have hFc9 := vaA_self hD hS hA
          refine cVMvS (As := [.ref hlw, .int x2]) (rest := []) ⟨hx, hb, hml, hown, hts⟩ (mX3_readProduct l D T kv d rc hrc h a u ac z2 atp utp hlw alw vlw _ x2 z3 hz3) (cwV 2 hts gX3_readSum_X3_readProduct rfl rfl rfl (by decide +kernel) ⟨by show 6 + d * 3 + 1 ≤ 4 + (d + 1) * 3; omega, by show 8 + (5 + 11) + (139 + d * 72) ≤ 91 + (d + 1) * 72; omega⟩) (va_recv hK.1 hP (ci := 3) (q0 := 0) rfl rfl) hP hK rfl hl.1 rfl (Nat.le_of_ble_eq_true rfl) dX3_readSum_58 ⟨Nat.le_of_ble_eq_true rfl, Nat.le_of_ble_eq_true rfl⟩ hD hFc9 hE hS (fun H locs hP hD1 _ hS => ?_)
          have hD := hD1.weaken (fun _ _ _ h9 => hFc9 _ h9)
          refine lv_aload_n hx hb dX3_readSum_61 rfl (lv_at hl 2 rfl) ?_
          refine lv_iload hx hb dX3_readSum_62 (lv_at hl 0 rfl) ?_
          refine lv_iconst (v := 0) hx hb dX3_readSum_64 (by decide) ?_
          obtain ⟨z4, hz4, hf⟩ := bnd hf
          have hPc := hP.sub (ws' := kX2 T hlw alw z3.2) [4, 5, 6, 7, 8, 9, 10, 11, 12] rfl
          have hDc := hD.sub (ws' := kX2 T hlw alw z3.2) [4, 5, 6, 7, 8, 9, 10, 11, 12] (by decide) rfl
          have hFc9 := va_free (wc := kX2 T hlw alw z3.2) hD hS hA [4, 5, 6, 7, 8, 9, 10, 11, 12] rfl
          refine cVM (As := [.int t1, .int 0]) (rest := []) ⟨hx, hb, hml, hown, hts⟩ (mX2_put l D T hlw alw z3.2 _ t1 0 z4 hz4) (cwV 2 hts gX3_readSum_X2_put rfl rfl rfl (by decide +kernel) ⟨by show 0 + 1 ≤ 4 + (d + 1) * 3; omega, by show 8 + (3 + 11) + (0) ≤ 91 + (d + 1) * 72; omega⟩) (va_recv hK.1 hP (ci := 2) (q0 := 4) rfl rfl) hPc hK rfl hl.1 rfl (Nat.le_of_ble_eq_true rfl) dX3_readSum_65 ⟨Nat.le_of_ble_eq_true rfl, Nat.le_of_ble_eq_true rfl⟩ hDc hFc9 hS (fun H9 locs hP1 hD1 hk1 hS => ?_)
          obtain ⟨hP, hD⟩ := putAll_P (w1 := kX2 T hlw alw z4.2) hP hD [4, 5, 6, 7, 8, 9, 10, 11, 12] rfl (by decide) hk1 hP1 rfl
          generalize H9 = H at hP hS ⊢
          have hP : va_P D vwCl (kX3 T h a u ++ kX1 T (a 0) ac z3.1 ++ kX8 T (ac 0) atp utp ++ kX2 T hlw alw z4.2) H := by exact hP
          have hD : va_D (va_A (kX3 T h a u ++ kX1 T (a 0) ac uc ++ kX8 T (ac 0) atp utp ++ kX2 T hlw alw ulw) s.heap.size) (kX3 T h a u ++ kX1 T (a 0) ac z3.1 ++ kX8 T (ac 0) atp utp ++ kX2 T hlw alw z4.2) := by exact hD
          refine lv_pop hx hb dX3_readSum_68 rfl ?_
          obtain ⟨t5, et5, hf⟩ := lett_e hf
          refine lv_iinc (v := t5) (lv' := [(3, .int t5), (4, .int t1), (0, .ref h), (1, .ref hlw), (2, .int x2)]) hx hb dX3_readSum_69 hl (k := 4) rfl (by rw [et5]; rfl) (by decide) rfl (fun ls hl => ?_)
          refine lv_goto (tgt := 8) hx hb dX3_readSum_72 (by decide) ?_
          exact ih8 z3.1 z4.2 x2 t5 _ _ _ hf hP hD hS (lv_sub hl [2, 3, 4, 0] rfl)
        intro vc vlw x2 x3 H locs ls hf hP hD hS hl
        replace hf : bX3_readSum_L8 rc utp (fX3_readSum_L8 rc utp n8) vc vlw x2 x3 = some res := hf
        unfold bX3_readSum_L8 at hf
        refine lv_iload_n hx hb dX3_readSum_8 rfl (lv_at hl 3 rfl) ?_
        refine lv_sipush (v := 240) hx hb dX3_readSum_9 (by decide) ?_
        refine lv_icmp_ge (tgt := 75) hx hb dX3_readSum_12 (by decide) (fun c6 => ?_) (fun c6 => ?_)
        · replace hf := ifp c6 hf
          have e9 := Option.some.inj hf
          exact retMv hx hb hr hlocks hP hD hS (congrArg (fun z => (kX3 T h a u ++ kX1 T (a 0) ac z.1 ++ kX8 T (ac 0) atp utp ++ kX2 T hlw alw z.2 : va_W)) e9) dX3_readSum_75
        replace hf := ifn c6 hf
        refine lv_aload_n hx hb dX3_readSum_15 rfl (lv_at hl 0 rfl) ?_
        refine va_get (D := D) (ci := 3) (v := .ref (a 0)) (C := RX3) (T := TX3) (N := 1) hx hb hts hinX3 hown hK.1 hP 0 rfl rfl 0 (by decide) (hts (.fieldLink RX3 9 "RopeScale$LawReader" "cursor" "LRopeScale$Cursor;") (List.mem_of_getElem? (i := 1) rfl)) (fun _ h9 => h9) rfl dX3_readSum_16 ?_
        refine lv_bipush (v := 43) hx hb dX3_readSum_19 (by decide) ?_
        obtain ⟨z7, hz7, hf⟩ := lett_e hf
        refine cVR (As := [.int 43]) (rest := []) ⟨hx, hb, hml, hown, hts⟩ (mX1_sees l D T (a 0) ac vc 43 z7 hz7.symm) (cwV 1 hts gX3_readSum_X1_sees rfl rfl rfl (by decide +kernel) ⟨by show 0 + 1 ≤ 4 + (d + 1) * 3; omega, by show 8 + (2 + 11) + (0) ≤ 91 + (d + 1) * 72; omega⟩) (va_recv hK.1 hP (ci := 1) (q0 := 1) rfl rfl) (hP.sub (ws' := kX1 T (a 0) ac vc) [1] rfl) hK rfl hl.1 rfl (Nat.le_of_ble_eq_true rfl) dX3_readSum_21 ⟨Nat.le_of_ble_eq_true rfl, Nat.le_of_ble_eq_true rfl⟩ hP hS (fun H locs hP hS => ?_)
        refine lv_if_ne (tgt := 39) hx hb dX3_readSum_24 (by decide) (fun c8 => ?_) (fun c8 => ?_)
        · replace hf := ifn c8 hf
          exact J39 vc vlw x2 x3 _ _ _ hf hP hD hS (lv_sub hl [0, 1, 2, 3] rfl)
        replace hf := ifp c8 hf
        refine lv_aload_n hx hb dX3_readSum_27 rfl (lv_at hl 0 rfl) ?_
        refine va_get (D := D) (ci := 3) (v := .ref (a 0)) (C := RX3) (T := TX3) (N := 1) hx hb hts hinX3 hown hK.1 hP 0 rfl rfl 0 (by decide) (hts (.fieldLink RX3 9 "RopeScale$LawReader" "cursor" "LRopeScale$Cursor;") (List.mem_of_getElem? (i := 1) rfl)) (fun _ h9 => h9) rfl dX3_readSum_28 ?_
        refine lv_bipush (v := 45) hx hb dX3_readSum_31 (by decide) ?_
        obtain ⟨z9, hz9, hf⟩ := lett_e hf
        refine cVR (As := [.int 45]) (rest := []) ⟨hx, hb, hml, hown, hts⟩ (mX1_sees l D T (a 0) ac vc 45 z9 hz9.symm) (cwV 1 hts gX3_readSum_X1_sees rfl rfl rfl (by decide +kernel) ⟨by show 0 + 1 ≤ 4 + (d + 1) * 3; omega, by show 8 + (2 + 11) + (0) ≤ 91 + (d + 1) * 72; omega⟩) (va_recv hK.1 hP (ci := 1) (q0 := 1) rfl rfl) (hP.sub (ws' := kX1 T (a 0) ac vc) [1] rfl) hK rfl hl.1 rfl (Nat.le_of_ble_eq_true rfl) dX3_readSum_33 ⟨Nat.le_of_ble_eq_true rfl, Nat.le_of_ble_eq_true rfl⟩ hP hS (fun H locs hP hS => ?_)
        refine lv_if_eq (tgt := 75) hx hb dX3_readSum_36 (by decide) (fun c10 => ?_) (fun c10 => ?_)
        · replace hf := ifp c10 hf
          have e9 := Option.some.inj hf
          exact retMv hx hb hr hlocks hP hD hS (congrArg (fun z => (kX3 T h a u ++ kX1 T (a 0) ac z.1 ++ kX8 T (ac 0) atp utp ++ kX2 T hlw alw z.2 : va_W)) e9) dX3_readSum_75
        replace hf := ifn c10 hf
        exact J39 vc vlw x2 x3 _ _ _ hf hP hD hS (lv_sub hl [0, 1, 2, 3] rfl)
    unfold bX3_readSum at hf
    refine lv_aload_n hx hb dX3_readSum_0 rfl (lv_at hl 0 rfl) ?_
    refine lv_aload_n hx hb dX3_readSum_1 rfl (lv_at hl 1 rfl) ?_
    refine lv_iload_n hx hb dX3_readSum_2 rfl (lv_at hl 2 rfl) ?_
    obtain ⟨z11, hz11, hf⟩ := bnd hf
    have hFc9 := vaA_self hD hS hA
    refine cVMvS (As := [.ref hlw, .int p2]) (rest := []) ⟨hx, hb, hml, hown, hts⟩ (mX3_readProduct l D T kv d rc hrc h a u ac uc atp utp hlw alw ulw _ p2 z11 hz11) (cwV 2 hts gX3_readSum_X3_readProduct rfl rfl rfl (by decide +kernel) ⟨by show 6 + d * 3 + 1 ≤ 4 + (d + 1) * 3; omega, by show 8 + (5 + 11) + (139 + d * 72) ≤ 91 + (d + 1) * 72; omega⟩) (va_recv hK.1 hP (ci := 3) (q0 := 0) rfl rfl) hP hK rfl hl.1 rfl (Nat.le_of_ble_eq_true rfl) dX3_readSum_3 ⟨Nat.le_of_ble_eq_true rfl, Nat.le_of_ble_eq_true rfl⟩ hD hFc9 hE hS (fun H locs hP hD1 _ hS => ?_)
    have hD := hD1.weaken (fun _ _ _ h9 => hFc9 _ h9)
    refine lv_iconst (v := 1) hx hb dX3_readSum_6 (by decide) ?_
    refine lv_istore_n (lv' := [(3, .int 1), (0, .ref h), (1, .ref hlw), (2, .int p2)]) hx hb dX3_readSum_7 rfl hl (by decide) rfl (fun ls hl => ?_)
    exact L8 FU z11.1 z11.2 p2 1 _ _ _ hf hP hD hS (lv_sub hl [1, 2, 3, 0] rfl)
def bX3_readPart_L8 (rc : St → St → St → Int32 → Option (St × St)) (utp : St)  (lp8 : St → St → Int32 → Int32 → Option (St × St)) (vc : St) (vlw : St) (x2 : Int32) (x3 : Int32) : Option (St × St) := if 240 ≤ x3 then some (vc, vlw) else lett (fX1_sees vc 38) fun z2 => if z2 = 0 then some (vc, vlw) else (fX2_put vlw 38 0).bind fun z4 => (fX1_next vc utp).bind fun z5 => (rc z5 utp z4.2 x2).bind fun z6 => (fX2_leadHere z6.2 z4.1).bind fun z7 => lett (x3 + 1) fun t8 => lp8 z6.1 z7 x2 t8
def fX3_readPart_L8 (rc : St → St → St → Int32 → Option (St × St)) (utp : St)  : Nat → St → St → Int32 → Int32 → Option (St × St)
  | 0, _, _, _, _ => none
  | n + 1, vc, vlw, x2, x3 => bX3_readPart_L8 rc utp (fX3_readPart_L8 rc utp n) vc vlw x2 x3
def fX3_readPart (rc : St → St → St → Int32 → Option (St × St))  (uc : St) (utp : St) (ulw : St) (p2 : Int32) : Option (St × St) := (rc uc utp ulw p2).bind fun z9 => fX3_readPart_L8 rc utp FU z9.1 z9.2 p2 1
set_option maxHeartbeats 4000000 in
set_option maxRecDepth 100000 in
theorem mX3_readPart (l : Launch) (D : va_G) (T : Ty3) (kv : (Nat → Nat) × (Nat → Nat)) (d : Nat) (rc : St → St → St → Int32 → Option (St × St)) (hrc : ∀ (h : Nat) (a : Nat → Nat) (u : St) (ac : Nat → Nat) (uc : St) (atp : Nat → Nat) (utp : St) (hlw : Nat) (alw : Nat → Nat) (ulw : St) (sz : Nat) (p2 : Int32) (res : St × St), rc uc utp ulw p2 = some res → Met l yX3_readTest wsX3_readTest ({ frames := 29 + d * 3, cells := 0, slots := 0, locals := 691 + d * 71 }) (PcMS D T kv (kX3 T h a u ++ kX1 T (a 0) ac uc ++ kX8 T (ac 0) atp utp ++ kX2 T hlw alw ulw) sz [.ref h, .ref hlw, .int p2]) (QMv D (kX3 T h a u ++ kX1 T (a 0) ac uc ++ kX8 T (ac 0) atp utp ++ kX2 T hlw alw ulw) sz (kX3 T h a u ++ kX1 T (a 0) ac res.1 ++ kX8 T (ac 0) atp utp ++ kX2 T hlw alw res.2)) 0 0 (va_A (kX3 T h a u ++ kX1 T (a 0) ac uc ++ kX8 T (ac 0) atp utp ++ kX2 T hlw alw ulw) sz)) (h : Nat) (a : Nat → Nat) (u : St) (ac : Nat → Nat) (uc : St) (atp : Nat → Nat) (utp : St) (hlw : Nat) (alw : Nat → Nat) (ulw : St) (sz : Nat) (p2 : Int32) (res : St × St) (hf : fX3_readPart rc uc utp ulw p2 = some res) : Met l yX3_readPart wsX3_readPart ({ frames := 30 + d * 3, cells := 0, slots := 0, locals := 714 + d * 71 }) (PcMS D T kv (kX3 T h a u ++ kX1 T (a 0) ac uc ++ kX8 T (ac 0) atp utp ++ kX2 T hlw alw ulw) sz [.ref h, .ref hlw, .int p2]) (QMv D (kX3 T h a u ++ kX1 T (a 0) ac uc ++ kX8 T (ac 0) atp utp ++ kX2 T hlw alw ulw) sz (kX3 T h a u ++ kX1 T (a 0) ac res.1 ++ kX8 T (ac 0) atp utp ++ kX2 T hlw alw res.2)) 0 0 (va_A (kX3 T h a u ++ kX1 T (a 0) ac uc ++ kX8 T (ac 0) atp utp ++ kX2 T hlw alw ulw) sz) := by
  refine Met.ofW (cc := cX3_readPart) (maxL := 5) (ret := none) (by decide) rfl ?_
  intro p e s m args below meth c s₁ B hml hv
  obtain ⟨rfl, hsz, hP, hK, hD0, hE⟩ := hv
  have hx := B.exec
  have hb := B.bytes
  have hr := B.returns
  have hts := atoms_spec (ws := wsX3_readPart) B.pre
  have hown : s.vm.findClass RX3 = some m.cls := findClass_of_methodNamed B.named
  have hlocks := B.notSynchronized
  subst hsz
  have hD := hD0.self (sz := s.heap.size)
  have hA : ∀ q : Nat, s.heap.size ≤ q → va_A (kX3 T h a u ++ kX1 T (a 0) ac uc ++ kX8 T (ac 0) atp utp ++ kX2 T hlw alw ulw) s.heap.size q := fun q h => Or.inr h
  have hS : va_S (va_A (kX3 T h a u ++ kX1 T (a 0) ac uc ++ kX8 T (ac 0) atp utp ++ kX2 T hlw alw ulw) s.heap.size) s.heap s.heap [] := va_S.rf
  have hinX3 : ∀ w ∈ u_ws RX3 TX3 1, w ∈ wsX3_readPart := fun w h => List.mem_cons_of_mem _ (List.mem_append_left _ (List.mem_append_left _ (List.mem_append_left _ (List.mem_append_right _ h))))
  have hinX1 : ∀ w ∈ u_ws RX1 TX1 5, w ∈ wsX3_readPart := fun w h => List.mem_cons_of_mem _ (List.mem_append_left _ (List.mem_append_left _ (List.mem_append_right _ h)))
  have hinX2 : ∀ w ∈ u_ws RX2 TX2 10, w ∈ wsX3_readPart := fun w h => List.mem_cons_of_mem _ (List.mem_append_left _ (List.mem_append_right _ h))
  have hinX8 : ∀ w ∈ u_ws RX8 TX8 2, w ∈ wsX3_readPart := fun w h => List.mem_cons_of_mem _ (List.mem_append_right _ h)
  have hl := lv_entry ([.ref h, .ref hlw, .int p2]) (n := 5) (Nat.le_of_ble_eq_true rfl)
  rw [lg_entry_eq]
  generalize (lg_sl ([.ref h, .ref hlw, .int p2]) ++ List.replicate (5 - (lg_sl ([.ref h, .ref hlw, .int p2])).length) Slot.unset).toArray = ls at hl ⊢
  have hl : lv_has ls 5 [(0, .ref h), (1, .ref hlw), (2, .int p2)] := hl
  have L8 : ∀ (n8 : Nat), ∀ (vc : St) (vlw : St) (x2 : Int32) (x3 : Int32) (H : Heap) (locs : List Loc) (ls : Array Slot), fX3_readPart_L8 rc utp n8 vc vlw x2 x3 = some res → va_P D vwCl (kX3 T h a u ++ kX1 T (a 0) ac vc ++ kX8 T (ac 0) atp utp ++ kX2 T hlw alw vlw) H → va_D (va_A (kX3 T h a u ++ kX1 T (a 0) ac uc ++ kX8 T (ac 0) atp utp ++ kX2 T hlw alw ulw) s.heap.size) (kX3 T h a u ++ kX1 T (a 0) ac vc ++ kX8 T (ac 0) atp utp ++ kX2 T hlw alw vlw) → va_S (va_A (kX3 T h a u ++ kX1 T (a 0) ac uc ++ kX8 T (ac 0) atp utp ++ kX2 T hlw alw ulw) s.heap.size) s.heap H locs → lv_has ls 5 [(0, .ref h), (1, .ref hlw), (2, .int x2), (3, .int x3)] → W p l e (headSpec wsX3_readPart ({ frames := 30 + d * 3, cells := 0, slots := 0, locals := 714 + d * 71 })).room s m ([.ref h, .ref hlw, .int p2] : List Value).toArray below meth c H locs 0 0 (MQ below (QMv D (kX3 T h a u ++ kX1 T (a 0) ac uc ++ kX8 T (ac 0) atp utp ++ kX2 T hlw alw ulw) s.heap.size (kX3 T h a u ++ kX1 T (a 0) ac res.1 ++ kX8 T (ac 0) atp utp ++ kX2 T hlw alw res.2)) ([.ref h, .ref hlw, .int p2] : List Value).toArray s 0 0 (va_A (kX3 T h a u ++ kX1 T (a 0) ac uc ++ kX8 T (ac 0) atp utp ++ kX2 T hlw alw ulw) s.heap.size)) (F0 m 8 ls []) := by
    intro n8
    induction n8 with
    | zero => intro vc vlw x2 x3 H locs ls hf; exact nns hf
    | succ n8 ih8 =>
      intro vc vlw x2 x3 H locs ls hf hP hD hS hl
      replace hf : bX3_readPart_L8 rc utp (fX3_readPart_L8 rc utp n8) vc vlw x2 x3 = some res := hf
      unfold bX3_readPart_L8 at hf
      refine lv_iload_n hx hb dX3_readPart_8 rfl (lv_at hl 3 rfl) ?_
      refine lv_sipush (v := 240) hx hb dX3_readPart_9 (by decide) ?_
      refine lv_icmp_ge (tgt := 61) hx hb dX3_readPart_12 (by decide) (fun c1 => ?_) (fun c1 => ?_)
      · replace hf := ifp c1 hf
        have e9 := Option.some.inj hf
        exact retMv hx hb hr hlocks hP hD hS (congrArg (fun z => (kX3 T h a u ++ kX1 T (a 0) ac z.1 ++ kX8 T (ac 0) atp utp ++ kX2 T hlw alw z.2 : va_W)) e9) dX3_readPart_61
      replace hf := ifn c1 hf
      refine lv_aload_n hx hb dX3_readPart_15 rfl (lv_at hl 0 rfl) ?_
      refine va_get (D := D) (ci := 3) (v := .ref (a 0)) (C := RX3) (T := TX3) (N := 1) hx hb hts hinX3 hown hK.1 hP 0 rfl rfl 0 (by decide) (hts (.fieldLink RX3 9 "RopeScale$LawReader" "cursor" "LRopeScale$Cursor;") (List.mem_of_getElem? (i := 1) rfl)) (fun _ h9 => h9) rfl dX3_readPart_16 ?_
      refine lv_bipush (v := 38) hx hb dX3_readPart_19 (by decide) ?_
      obtain ⟨z2, hz2, hf⟩ := lett_e hf
      refine cVR (As := [.int 38]) (rest := []) ⟨hx, hb, hml, hown, hts⟩ (mX1_sees l D T (a 0) ac vc 38 z2 hz2.symm) (cwV 1 hts gX3_readPart_X1_sees rfl rfl rfl (by decide +kernel) ⟨by show 0 + 1 ≤ 30 + d * 3; omega, by show 8 + (2 + 11) + (0) ≤ 714 + d * 71; omega⟩) (va_recv hK.1 hP (ci := 1) (q0 := 1) rfl rfl) (hP.sub (ws' := kX1 T (a 0) ac vc) [1] rfl) hK rfl hl.1 rfl (Nat.le_of_ble_eq_true rfl) dX3_readPart_21 ⟨Nat.le_of_ble_eq_true rfl, Nat.le_of_ble_eq_true rfl⟩ hP hS (fun H locs hP hS => ?_)
      refine lv_if_eq (tgt := 61) hx hb dX3_readPart_24 (by decide) (fun c3 => ?_) (fun c3 => ?_)
      · replace hf := ifp c3 hf
        have e9 := Option.some.inj hf
        exact retMv hx hb hr hlocks hP hD hS (congrArg (fun z => (kX3 T h a u ++ kX1 T (a 0) ac z.1 ++ kX8 T (ac 0) atp utp ++ kX2 T hlw alw z.2 : va_W)) e9) dX3_readPart_61
      replace hf := ifn c3 hf
      refine lv_aload_n hx hb dX3_readPart_27 rfl (lv_at hl 1 rfl) ?_
      refine lv_bipush (v := 38) hx hb dX3_readPart_28 (by decide) ?_
      refine lv_iconst (v := 0) hx hb dX3_readPart_30 (by decide) ?_
      obtain ⟨z4, hz4, hf⟩ := bnd hf
      have hPc := hP.sub (ws' := kX2 T hlw alw vlw) [4, 5, 6, 7, 8, 9, 10, 11, 12] rfl
      have hDc := hD.sub (ws' := kX2 T hlw alw vlw) [4, 5, 6, 7, 8, 9, 10, 11, 12] (by decide) rfl
      have hFc9 := va_free (wc := kX2 T hlw alw vlw) hD hS hA [4, 5, 6, 7, 8, 9, 10, 11, 12] rfl
      refine cVM (As := [.int 38, .int 0]) (rest := []) ⟨hx, hb, hml, hown, hts⟩ (mX2_put l D T hlw alw vlw _ 38 0 z4 hz4) (cwV 2 hts gX3_readPart_X2_put rfl rfl rfl (by decide +kernel) ⟨by show 0 + 1 ≤ 30 + d * 3; omega, by show 8 + (3 + 11) + (0) ≤ 714 + d * 71; omega⟩) (va_recv hK.1 hP (ci := 2) (q0 := 4) rfl rfl) hPc hK rfl hl.1 rfl (Nat.le_of_ble_eq_true rfl) dX3_readPart_31 ⟨Nat.le_of_ble_eq_true rfl, Nat.le_of_ble_eq_true rfl⟩ hDc hFc9 hS (fun H9 locs hP1 hD1 hk1 hS => ?_)
      obtain ⟨hP, hD⟩ := putAll_P (w1 := kX2 T hlw alw z4.2) hP hD [4, 5, 6, 7, 8, 9, 10, 11, 12] rfl (by decide) hk1 hP1 rfl
      generalize H9 = H at hP hS ⊢
      have hP : va_P D vwCl (kX3 T h a u ++ kX1 T (a 0) ac vc ++ kX8 T (ac 0) atp utp ++ kX2 T hlw alw z4.2) H := by exact hP
      have hD : va_D (va_A (kX3 T h a u ++ kX1 T (a 0) ac uc ++ kX8 T (ac 0) atp utp ++ kX2 T hlw alw ulw) s.heap.size) (kX3 T h a u ++ kX1 T (a 0) ac vc ++ kX8 T (ac 0) atp utp ++ kX2 T hlw alw z4.2) := by exact hD
      refine lv_istore (lv' := [(4, .int z4.1), (0, .ref h), (1, .ref hlw), (2, .int x2), (3, .int x3)]) hx hb dX3_readPart_34 hl (by decide) rfl (fun ls hl => ?_)
      refine lv_aload_n hx hb dX3_readPart_36 rfl (lv_at hl 1 rfl) ?_
      refine va_get (D := D) (ci := 3) (v := .ref (a 0)) (C := RX3) (T := TX3) (N := 1) hx hb hts hinX3 hown hK.1 hP 0 rfl rfl 0 (by decide) (hts (.fieldLink RX3 9 "RopeScale$LawReader" "cursor" "LRopeScale$Cursor;") (List.mem_of_getElem? (i := 1) rfl)) (fun _ h9 => h9) rfl dX3_readPart_37 ?_
      obtain ⟨z5, hz5, hf⟩ := bnd hf
      have hPc := hP.sub (ws' := kX1 T (a 0) ac vc ++ kX8 T (ac 0) atp utp) [1, 2, 3] rfl
      have hDc := hD.sub (ws' := kX1 T (a 0) ac vc ++ kX8 T (ac 0) atp utp) [1, 2, 3] (by decide) rfl
      have hFc9 := va_free (wc := kX1 T (a 0) ac vc ++ kX8 T (ac 0) atp utp) hD hS hA [1, 2, 3] rfl
      refine cVMv (As := []) (rest := []) ⟨hx, hb, hml, hown, hts⟩ (mX1_next l D T (a 0) ac vc atp utp _ z5 hz5) (cwV 0 hts gX3_readPart_X1_next rfl rfl rfl (by decide +kernel) ⟨by show 1 + 1 ≤ 30 + d * 3; omega, by show 8 + (1 + 11) + (21) ≤ 714 + d * 71; omega⟩) (va_recv hK.1 hP (ci := 1) (q0 := 1) rfl rfl) hPc hK rfl hl.1 rfl (Nat.le_of_ble_eq_true rfl) dX3_readPart_40 ⟨Nat.le_of_ble_eq_true rfl, Nat.le_of_ble_eq_true rfl⟩ hDc hFc9 hS (fun H9 locs hP1 hD1 hk1 hS => ?_)
      obtain ⟨hP, hD⟩ := putAll_P (w1 := kX1 T (a 0) ac z5 ++ kX8 T (ac 0) atp utp) hP hD [1, 2, 3] rfl (by decide) hk1 hP1 rfl
      generalize H9 = H at hP hS ⊢
      have hP : va_P D vwCl (kX3 T h a u ++ kX1 T (a 0) ac z5 ++ kX8 T (ac 0) atp utp ++ kX2 T hlw alw z4.2) H := by exact hP
      have hD : va_D (va_A (kX3 T h a u ++ kX1 T (a 0) ac uc ++ kX8 T (ac 0) atp utp ++ kX2 T hlw alw ulw) s.heap.size) (kX3 T h a u ++ kX1 T (a 0) ac z5 ++ kX8 T (ac 0) atp utp ++ kX2 T hlw alw z4.2) := by exact hD
      refine lv_aload_n hx hb dX3_readPart_43 rfl (lv_at hl 1 rfl) ?_
      refine lv_aload_n hx hb dX3_readPart_44 rfl (lv_at hl 2 rfl) ?_
      refine lv_iload_n hx hb dX3_readPart_45 rfl (lv_at hl 3 rfl) ?_
      obtain ⟨z6, hz6, hf⟩ := bnd hf
      have hFc9 := vaA_self hD hS hA
      refine cVMvS (As := [.ref hlw, .int x2]) (rest := []) ⟨hx, hb, hml, hown, hts⟩ (hrc h a u ac z5 atp utp hlw alw z4.2 _ x2 z6 hz6) (cwV 2 hts gX3_readPart_X3_readTest rfl rfl rfl (by decide +kernel) ⟨by show 29 + d * 3 + 1 ≤ 30 + d * 3; omega, by show 8 + (4 + 11) + (691 + d * 71) ≤ 714 + d * 71; omega⟩) (va_recv hK.1 hP (ci := 3) (q0 := 0) rfl rfl) hP hK rfl hl.1 rfl (Nat.le_of_ble_eq_true rfl) dX3_readPart_46 ⟨Nat.le_of_ble_eq_true rfl, Nat.le_of_ble_eq_true rfl⟩ hD hFc9 hE hS (fun H locs hP hD1 _ hS => ?_)
      have hD := hD1.weaken (fun _ _ _ h9 => hFc9 _ h9)
      refine lv_aload_n hx hb dX3_readPart_49 rfl (lv_at hl 2 rfl) ?_
      refine lv_iload hx hb dX3_readPart_50 (lv_at hl 0 rfl) ?_
      obtain ⟨z7, hz7, hf⟩ := bnd hf
      have hPc := hP.sub (ws' := kX2 T hlw alw z6.2) [4, 5, 6, 7, 8, 9, 10, 11, 12] rfl
      have hDc := hD.sub (ws' := kX2 T hlw alw z6.2) [4, 5, 6, 7, 8, 9, 10, 11, 12] (by decide) rfl
      have hFc9 := va_free (wc := kX2 T hlw alw z6.2) hD hS hA [4, 5, 6, 7, 8, 9, 10, 11, 12] rfl
      refine cVMv (As := [.int z4.1]) (rest := []) ⟨hx, hb, hml, hown, hts⟩ (mX2_leadHere l D T hlw alw z6.2 _ z4.1 z7 hz7) (cwV 1 hts gX3_readPart_X2_leadHere rfl rfl rfl (by decide +kernel) ⟨by show 1 + 1 ≤ 30 + d * 3; omega, by show 8 + (2 + 11) + (22) ≤ 714 + d * 71; omega⟩) (va_recv hK.1 hP (ci := 2) (q0 := 4) rfl rfl) hPc hK rfl hl.1 rfl (Nat.le_of_ble_eq_true rfl) dX3_readPart_52 ⟨Nat.le_of_ble_eq_true rfl, Nat.le_of_ble_eq_true rfl⟩ hDc hFc9 hS (fun H9 locs hP1 hD1 hk1 hS => ?_)
      obtain ⟨hP, hD⟩ := putAll_P (w1 := kX2 T hlw alw z7) hP hD [4, 5, 6, 7, 8, 9, 10, 11, 12] rfl (by decide) hk1 hP1 rfl
      generalize H9 = H at hP hS ⊢
      have hP : va_P D vwCl (kX3 T h a u ++ kX1 T (a 0) ac z6.1 ++ kX8 T (ac 0) atp utp ++ kX2 T hlw alw z7) H := by exact hP
      have hD : va_D (va_A (kX3 T h a u ++ kX1 T (a 0) ac uc ++ kX8 T (ac 0) atp utp ++ kX2 T hlw alw ulw) s.heap.size) (kX3 T h a u ++ kX1 T (a 0) ac z6.1 ++ kX8 T (ac 0) atp utp ++ kX2 T hlw alw z7) := by exact hD
      obtain ⟨t8, et8, hf⟩ := lett_e hf
      refine lv_iinc (v := t8) (lv' := [(3, .int t8), (4, .int z4.1), (0, .ref h), (1, .ref hlw), (2, .int x2)]) hx hb dX3_readPart_55 hl (k := 4) rfl (by rw [et8]; rfl) (by decide) rfl (fun ls hl => ?_)
      refine lv_goto (tgt := 8) hx hb dX3_readPart_58 (by decide) ?_
      exact ih8 z6.1 z7 x2 t8 _ _ _ hf hP hD hS (lv_sub hl [2, 3, 4, 0] rfl)
  unfold fX3_readPart at hf
  refine lv_aload_n hx hb dX3_readPart_0 rfl (lv_at hl 0 rfl) ?_
  refine lv_aload_n hx hb dX3_readPart_1 rfl (lv_at hl 1 rfl) ?_
  refine lv_iload_n hx hb dX3_readPart_2 rfl (lv_at hl 2 rfl) ?_
  obtain ⟨z9, hz9, hf⟩ := bnd hf
  have hFc9 := vaA_self hD hS hA
  refine cVMvS (As := [.ref hlw, .int p2]) (rest := []) ⟨hx, hb, hml, hown, hts⟩ (hrc h a u ac uc atp utp hlw alw ulw _ p2 z9 hz9) (cwV 2 hts gX3_readPart_X3_readTest rfl rfl rfl (by decide +kernel) ⟨by show 29 + d * 3 + 1 ≤ 30 + d * 3; omega, by show 8 + (4 + 11) + (691 + d * 71) ≤ 714 + d * 71; omega⟩) (va_recv hK.1 hP (ci := 3) (q0 := 0) rfl rfl) hP hK rfl hl.1 rfl (Nat.le_of_ble_eq_true rfl) dX3_readPart_3 ⟨Nat.le_of_ble_eq_true rfl, Nat.le_of_ble_eq_true rfl⟩ hD hFc9 hE hS (fun H locs hP hD1 _ hS => ?_)
  have hD := hD1.weaken (fun _ _ _ h9 => hFc9 _ h9)
  refine lv_iconst (v := 1) hx hb dX3_readPart_6 (by decide) ?_
  refine lv_istore_n (lv' := [(3, .int 1), (0, .ref h), (1, .ref hlw), (2, .int p2)]) hx hb dX3_readPart_7 rfl hl (by decide) rfl (fun ls hl => ?_)
  exact L8 FU z9.1 z9.2 p2 1 _ _ _ hf hP hD hS (lv_sub hl [1, 2, 3, 0] rfl)
def bX3_readCondition_L8 (rc : St → St → St → Int32 → Option (St × St)) (utp : St)  (lp8 : St → St → Int32 → Int32 → Option (St × St)) (vc : St) (vlw : St) (x2 : Int32) (x3 : Int32) : Option (St × St) := if 240 ≤ x3 then some (vc, vlw) else lett (fX1_sees vc 124) fun z2 => if z2 = 0 then some (vc, vlw) else (fX2_put vlw 124 0).bind fun z4 => (fX1_next vc utp).bind fun z5 => (fX3_readPart rc z5 utp z4.2 x2).bind fun z6 => (fX2_leadHere z6.2 z4.1).bind fun z7 => lett (x3 + 1) fun t8 => lp8 z6.1 z7 x2 t8
def fX3_readCondition_L8 (rc : St → St → St → Int32 → Option (St × St)) (utp : St)  : Nat → St → St → Int32 → Int32 → Option (St × St)
  | 0, _, _, _, _ => none
  | n + 1, vc, vlw, x2, x3 => bX3_readCondition_L8 rc utp (fX3_readCondition_L8 rc utp n) vc vlw x2 x3
def fX3_readCondition (rc : St → St → St → Int32 → Option (St × St))  (uc : St) (utp : St) (ulw : St) (p2 : Int32) : Option (St × St) := (fX3_readPart rc uc utp ulw p2).bind fun z9 => fX3_readCondition_L8 rc utp FU z9.1 z9.2 p2 1
set_option maxHeartbeats 4000000 in
set_option maxRecDepth 100000 in
theorem mX3_readCondition (l : Launch) (D : va_G) (T : Ty3) (kv : (Nat → Nat) × (Nat → Nat)) (d : Nat) (rc : St → St → St → Int32 → Option (St × St)) (hrc : ∀ (h : Nat) (a : Nat → Nat) (u : St) (ac : Nat → Nat) (uc : St) (atp : Nat → Nat) (utp : St) (hlw : Nat) (alw : Nat → Nat) (ulw : St) (sz : Nat) (p2 : Int32) (res : St × St), rc uc utp ulw p2 = some res → Met l yX3_readTest wsX3_readTest ({ frames := 29 + d * 3, cells := 0, slots := 0, locals := 691 + d * 71 }) (PcMS D T kv (kX3 T h a u ++ kX1 T (a 0) ac uc ++ kX8 T (ac 0) atp utp ++ kX2 T hlw alw ulw) sz [.ref h, .ref hlw, .int p2]) (QMv D (kX3 T h a u ++ kX1 T (a 0) ac uc ++ kX8 T (ac 0) atp utp ++ kX2 T hlw alw ulw) sz (kX3 T h a u ++ kX1 T (a 0) ac res.1 ++ kX8 T (ac 0) atp utp ++ kX2 T hlw alw res.2)) 0 0 (va_A (kX3 T h a u ++ kX1 T (a 0) ac uc ++ kX8 T (ac 0) atp utp ++ kX2 T hlw alw ulw) sz)) (h : Nat) (a : Nat → Nat) (u : St) (ac : Nat → Nat) (uc : St) (atp : Nat → Nat) (utp : St) (hlw : Nat) (alw : Nat → Nat) (ulw : St) (sz : Nat) (p2 : Int32) (res : St × St) (hf : fX3_readCondition rc uc utp ulw p2 = some res) : Met l yX3_readCondition wsX3_readCondition ({ frames := 31 + d * 3, cells := 0, slots := 0, locals := 738 + d * 71 }) (PcMS D T kv (kX3 T h a u ++ kX1 T (a 0) ac uc ++ kX8 T (ac 0) atp utp ++ kX2 T hlw alw ulw) sz [.ref h, .ref hlw, .int p2]) (QMv D (kX3 T h a u ++ kX1 T (a 0) ac uc ++ kX8 T (ac 0) atp utp ++ kX2 T hlw alw ulw) sz (kX3 T h a u ++ kX1 T (a 0) ac res.1 ++ kX8 T (ac 0) atp utp ++ kX2 T hlw alw res.2)) 0 0 (va_A (kX3 T h a u ++ kX1 T (a 0) ac uc ++ kX8 T (ac 0) atp utp ++ kX2 T hlw alw ulw) sz) := by
  refine Met.ofW (cc := cX3_readCondition) (maxL := 5) (ret := none) (by decide) rfl ?_
  intro p e s m args below meth c s₁ B hml hv
  obtain ⟨rfl, hsz, hP, hK, hD0, hE⟩ := hv
  have hx := B.exec
  have hb := B.bytes
  have hr := B.returns
  have hts := atoms_spec (ws := wsX3_readCondition) B.pre
  have hown : s.vm.findClass RX3 = some m.cls := findClass_of_methodNamed B.named
  have hlocks := B.notSynchronized
  subst hsz
  have hD := hD0.self (sz := s.heap.size)
  have hA : ∀ q : Nat, s.heap.size ≤ q → va_A (kX3 T h a u ++ kX1 T (a 0) ac uc ++ kX8 T (ac 0) atp utp ++ kX2 T hlw alw ulw) s.heap.size q := fun q h => Or.inr h
  have hS : va_S (va_A (kX3 T h a u ++ kX1 T (a 0) ac uc ++ kX8 T (ac 0) atp utp ++ kX2 T hlw alw ulw) s.heap.size) s.heap s.heap [] := va_S.rf
  have hinX3 : ∀ w ∈ u_ws RX3 TX3 1, w ∈ wsX3_readCondition := fun w h => List.mem_cons_of_mem _ (List.mem_append_left _ (List.mem_append_left _ (List.mem_append_left _ (List.mem_append_right _ h))))
  have hinX1 : ∀ w ∈ u_ws RX1 TX1 5, w ∈ wsX3_readCondition := fun w h => List.mem_cons_of_mem _ (List.mem_append_left _ (List.mem_append_left _ (List.mem_append_right _ h)))
  have hinX2 : ∀ w ∈ u_ws RX2 TX2 10, w ∈ wsX3_readCondition := fun w h => List.mem_cons_of_mem _ (List.mem_append_left _ (List.mem_append_right _ h))
  have hinX8 : ∀ w ∈ u_ws RX8 TX8 2, w ∈ wsX3_readCondition := fun w h => List.mem_cons_of_mem _ (List.mem_append_right _ h)
  have hl := lv_entry ([.ref h, .ref hlw, .int p2]) (n := 5) (Nat.le_of_ble_eq_true rfl)
  rw [lg_entry_eq]
  generalize (lg_sl ([.ref h, .ref hlw, .int p2]) ++ List.replicate (5 - (lg_sl ([.ref h, .ref hlw, .int p2])).length) Slot.unset).toArray = ls at hl ⊢
  have hl : lv_has ls 5 [(0, .ref h), (1, .ref hlw), (2, .int p2)] := hl
  have L8 : ∀ (n8 : Nat), ∀ (vc : St) (vlw : St) (x2 : Int32) (x3 : Int32) (H : Heap) (locs : List Loc) (ls : Array Slot), fX3_readCondition_L8 rc utp n8 vc vlw x2 x3 = some res → va_P D vwCl (kX3 T h a u ++ kX1 T (a 0) ac vc ++ kX8 T (ac 0) atp utp ++ kX2 T hlw alw vlw) H → va_D (va_A (kX3 T h a u ++ kX1 T (a 0) ac uc ++ kX8 T (ac 0) atp utp ++ kX2 T hlw alw ulw) s.heap.size) (kX3 T h a u ++ kX1 T (a 0) ac vc ++ kX8 T (ac 0) atp utp ++ kX2 T hlw alw vlw) → va_S (va_A (kX3 T h a u ++ kX1 T (a 0) ac uc ++ kX8 T (ac 0) atp utp ++ kX2 T hlw alw ulw) s.heap.size) s.heap H locs → lv_has ls 5 [(0, .ref h), (1, .ref hlw), (2, .int x2), (3, .int x3)] → W p l e (headSpec wsX3_readCondition ({ frames := 31 + d * 3, cells := 0, slots := 0, locals := 738 + d * 71 })).room s m ([.ref h, .ref hlw, .int p2] : List Value).toArray below meth c H locs 0 0 (MQ below (QMv D (kX3 T h a u ++ kX1 T (a 0) ac uc ++ kX8 T (ac 0) atp utp ++ kX2 T hlw alw ulw) s.heap.size (kX3 T h a u ++ kX1 T (a 0) ac res.1 ++ kX8 T (ac 0) atp utp ++ kX2 T hlw alw res.2)) ([.ref h, .ref hlw, .int p2] : List Value).toArray s 0 0 (va_A (kX3 T h a u ++ kX1 T (a 0) ac uc ++ kX8 T (ac 0) atp utp ++ kX2 T hlw alw ulw) s.heap.size)) (F0 m 8 ls []) := by
    intro n8
    induction n8 with
    | zero => intro vc vlw x2 x3 H locs ls hf; exact nns hf
    | succ n8 ih8 =>
      intro vc vlw x2 x3 H locs ls hf hP hD hS hl
      replace hf : bX3_readCondition_L8 rc utp (fX3_readCondition_L8 rc utp n8) vc vlw x2 x3 = some res := hf
      unfold bX3_readCondition_L8 at hf
      refine lv_iload_n hx hb dX3_readCondition_8 rfl (lv_at hl 3 rfl) ?_
      refine lv_sipush (v := 240) hx hb dX3_readCondition_9 (by decide) ?_
      refine lv_icmp_ge (tgt := 61) hx hb dX3_readCondition_12 (by decide) (fun c1 => ?_) (fun c1 => ?_)
      · replace hf := ifp c1 hf
        have e9 := Option.some.inj hf
        exact retMv hx hb hr hlocks hP hD hS (congrArg (fun z => (kX3 T h a u ++ kX1 T (a 0) ac z.1 ++ kX8 T (ac 0) atp utp ++ kX2 T hlw alw z.2 : va_W)) e9) dX3_readCondition_61
      replace hf := ifn c1 hf
      refine lv_aload_n hx hb dX3_readCondition_15 rfl (lv_at hl 0 rfl) ?_
      refine va_get (D := D) (ci := 3) (v := .ref (a 0)) (C := RX3) (T := TX3) (N := 1) hx hb hts hinX3 hown hK.1 hP 0 rfl rfl 0 (by decide) (hts (.fieldLink RX3 9 "RopeScale$LawReader" "cursor" "LRopeScale$Cursor;") (List.mem_of_getElem? (i := 1) rfl)) (fun _ h9 => h9) rfl dX3_readCondition_16 ?_
      refine lv_bipush (v := 124) hx hb dX3_readCondition_19 (by decide) ?_
      obtain ⟨z2, hz2, hf⟩ := lett_e hf
      refine cVR (As := [.int 124]) (rest := []) ⟨hx, hb, hml, hown, hts⟩ (mX1_sees l D T (a 0) ac vc 124 z2 hz2.symm) (cwV 1 hts gX3_readCondition_X1_sees rfl rfl rfl (by decide +kernel) ⟨by show 0 + 1 ≤ 31 + d * 3; omega, by show 8 + (2 + 11) + (0) ≤ 738 + d * 71; omega⟩) (va_recv hK.1 hP (ci := 1) (q0 := 1) rfl rfl) (hP.sub (ws' := kX1 T (a 0) ac vc) [1] rfl) hK rfl hl.1 rfl (Nat.le_of_ble_eq_true rfl) dX3_readCondition_21 ⟨Nat.le_of_ble_eq_true rfl, Nat.le_of_ble_eq_true rfl⟩ hP hS (fun H locs hP hS => ?_)
      refine lv_if_eq (tgt := 61) hx hb dX3_readCondition_24 (by decide) (fun c3 => ?_) (fun c3 => ?_)
      · replace hf := ifp c3 hf
        have e9 := Option.some.inj hf
        exact retMv hx hb hr hlocks hP hD hS (congrArg (fun z => (kX3 T h a u ++ kX1 T (a 0) ac z.1 ++ kX8 T (ac 0) atp utp ++ kX2 T hlw alw z.2 : va_W)) e9) dX3_readCondition_61
      replace hf := ifn c3 hf
      refine lv_aload_n hx hb dX3_readCondition_27 rfl (lv_at hl 1 rfl) ?_
      refine lv_bipush (v := 124) hx hb dX3_readCondition_28 (by decide) ?_
      refine lv_iconst (v := 0) hx hb dX3_readCondition_30 (by decide) ?_
      obtain ⟨z4, hz4, hf⟩ := bnd hf
      have hPc := hP.sub (ws' := kX2 T hlw alw vlw) [4, 5, 6, 7, 8, 9, 10, 11, 12] rfl
      have hDc := hD.sub (ws' := kX2 T hlw alw vlw) [4, 5, 6, 7, 8, 9, 10, 11, 12] (by decide) rfl
      have hFc9 := va_free (wc := kX2 T hlw alw vlw) hD hS hA [4, 5, 6, 7, 8, 9, 10, 11, 12] rfl
      refine cVM (As := [.int 124, .int 0]) (rest := []) ⟨hx, hb, hml, hown, hts⟩ (mX2_put l D T hlw alw vlw _ 124 0 z4 hz4) (cwV 2 hts gX3_readCondition_X2_put rfl rfl rfl (by decide +kernel) ⟨by show 0 + 1 ≤ 31 + d * 3; omega, by show 8 + (3 + 11) + (0) ≤ 738 + d * 71; omega⟩) (va_recv hK.1 hP (ci := 2) (q0 := 4) rfl rfl) hPc hK rfl hl.1 rfl (Nat.le_of_ble_eq_true rfl) dX3_readCondition_31 ⟨Nat.le_of_ble_eq_true rfl, Nat.le_of_ble_eq_true rfl⟩ hDc hFc9 hS (fun H9 locs hP1 hD1 hk1 hS => ?_)
      obtain ⟨hP, hD⟩ := putAll_P (w1 := kX2 T hlw alw z4.2) hP hD [4, 5, 6, 7, 8, 9, 10, 11, 12] rfl (by decide) hk1 hP1 rfl
      generalize H9 = H at hP hS ⊢
      have hP : va_P D vwCl (kX3 T h a u ++ kX1 T (a 0) ac vc ++ kX8 T (ac 0) atp utp ++ kX2 T hlw alw z4.2) H := by exact hP
      have hD : va_D (va_A (kX3 T h a u ++ kX1 T (a 0) ac uc ++ kX8 T (ac 0) atp utp ++ kX2 T hlw alw ulw) s.heap.size) (kX3 T h a u ++ kX1 T (a 0) ac vc ++ kX8 T (ac 0) atp utp ++ kX2 T hlw alw z4.2) := by exact hD
      refine lv_istore (lv' := [(4, .int z4.1), (0, .ref h), (1, .ref hlw), (2, .int x2), (3, .int x3)]) hx hb dX3_readCondition_34 hl (by decide) rfl (fun ls hl => ?_)
      refine lv_aload_n hx hb dX3_readCondition_36 rfl (lv_at hl 1 rfl) ?_
      refine va_get (D := D) (ci := 3) (v := .ref (a 0)) (C := RX3) (T := TX3) (N := 1) hx hb hts hinX3 hown hK.1 hP 0 rfl rfl 0 (by decide) (hts (.fieldLink RX3 9 "RopeScale$LawReader" "cursor" "LRopeScale$Cursor;") (List.mem_of_getElem? (i := 1) rfl)) (fun _ h9 => h9) rfl dX3_readCondition_37 ?_
      obtain ⟨z5, hz5, hf⟩ := bnd hf
      have hPc := hP.sub (ws' := kX1 T (a 0) ac vc ++ kX8 T (ac 0) atp utp) [1, 2, 3] rfl
      have hDc := hD.sub (ws' := kX1 T (a 0) ac vc ++ kX8 T (ac 0) atp utp) [1, 2, 3] (by decide) rfl
      have hFc9 := va_free (wc := kX1 T (a 0) ac vc ++ kX8 T (ac 0) atp utp) hD hS hA [1, 2, 3] rfl
      refine cVMv (As := []) (rest := []) ⟨hx, hb, hml, hown, hts⟩ (mX1_next l D T (a 0) ac vc atp utp _ z5 hz5) (cwV 0 hts gX3_readCondition_X1_next rfl rfl rfl (by decide +kernel) ⟨by show 1 + 1 ≤ 31 + d * 3; omega, by show 8 + (1 + 11) + (21) ≤ 738 + d * 71; omega⟩) (va_recv hK.1 hP (ci := 1) (q0 := 1) rfl rfl) hPc hK rfl hl.1 rfl (Nat.le_of_ble_eq_true rfl) dX3_readCondition_40 ⟨Nat.le_of_ble_eq_true rfl, Nat.le_of_ble_eq_true rfl⟩ hDc hFc9 hS (fun H9 locs hP1 hD1 hk1 hS => ?_)
      obtain ⟨hP, hD⟩ := putAll_P (w1 := kX1 T (a 0) ac z5 ++ kX8 T (ac 0) atp utp) hP hD [1, 2, 3] rfl (by decide) hk1 hP1 rfl
      generalize H9 = H at hP hS ⊢
      have hP : va_P D vwCl (kX3 T h a u ++ kX1 T (a 0) ac z5 ++ kX8 T (ac 0) atp utp ++ kX2 T hlw alw z4.2) H := by exact hP
      have hD : va_D (va_A (kX3 T h a u ++ kX1 T (a 0) ac uc ++ kX8 T (ac 0) atp utp ++ kX2 T hlw alw ulw) s.heap.size) (kX3 T h a u ++ kX1 T (a 0) ac z5 ++ kX8 T (ac 0) atp utp ++ kX2 T hlw alw z4.2) := by exact hD
      refine lv_aload_n hx hb dX3_readCondition_43 rfl (lv_at hl 1 rfl) ?_
      refine lv_aload_n hx hb dX3_readCondition_44 rfl (lv_at hl 2 rfl) ?_
      refine lv_iload_n hx hb dX3_readCondition_45 rfl (lv_at hl 3 rfl) ?_
      obtain ⟨z6, hz6, hf⟩ := bnd hf
      have hFc9 := vaA_self hD hS hA
      refine cVMvS (As := [.ref hlw, .int x2]) (rest := []) ⟨hx, hb, hml, hown, hts⟩ (mX3_readPart l D T kv d rc hrc h a u ac z5 atp utp hlw alw z4.2 _ x2 z6 hz6) (cwV 2 hts gX3_readCondition_X3_readPart rfl rfl rfl (by decide +kernel) ⟨by show 30 + d * 3 + 1 ≤ 31 + d * 3; omega, by show 8 + (5 + 11) + (714 + d * 71) ≤ 738 + d * 71; omega⟩) (va_recv hK.1 hP (ci := 3) (q0 := 0) rfl rfl) hP hK rfl hl.1 rfl (Nat.le_of_ble_eq_true rfl) dX3_readCondition_46 ⟨Nat.le_of_ble_eq_true rfl, Nat.le_of_ble_eq_true rfl⟩ hD hFc9 hE hS (fun H locs hP hD1 _ hS => ?_)
      have hD := hD1.weaken (fun _ _ _ h9 => hFc9 _ h9)
      refine lv_aload_n hx hb dX3_readCondition_49 rfl (lv_at hl 2 rfl) ?_
      refine lv_iload hx hb dX3_readCondition_50 (lv_at hl 0 rfl) ?_
      obtain ⟨z7, hz7, hf⟩ := bnd hf
      have hPc := hP.sub (ws' := kX2 T hlw alw z6.2) [4, 5, 6, 7, 8, 9, 10, 11, 12] rfl
      have hDc := hD.sub (ws' := kX2 T hlw alw z6.2) [4, 5, 6, 7, 8, 9, 10, 11, 12] (by decide) rfl
      have hFc9 := va_free (wc := kX2 T hlw alw z6.2) hD hS hA [4, 5, 6, 7, 8, 9, 10, 11, 12] rfl
      refine cVMv (As := [.int z4.1]) (rest := []) ⟨hx, hb, hml, hown, hts⟩ (mX2_leadHere l D T hlw alw z6.2 _ z4.1 z7 hz7) (cwV 1 hts gX3_readCondition_X2_leadHere rfl rfl rfl (by decide +kernel) ⟨by show 1 + 1 ≤ 31 + d * 3; omega, by show 8 + (2 + 11) + (22) ≤ 738 + d * 71; omega⟩) (va_recv hK.1 hP (ci := 2) (q0 := 4) rfl rfl) hPc hK rfl hl.1 rfl (Nat.le_of_ble_eq_true rfl) dX3_readCondition_52 ⟨Nat.le_of_ble_eq_true rfl, Nat.le_of_ble_eq_true rfl⟩ hDc hFc9 hS (fun H9 locs hP1 hD1 hk1 hS => ?_)
      obtain ⟨hP, hD⟩ := putAll_P (w1 := kX2 T hlw alw z7) hP hD [4, 5, 6, 7, 8, 9, 10, 11, 12] rfl (by decide) hk1 hP1 rfl
      generalize H9 = H at hP hS ⊢
      have hP : va_P D vwCl (kX3 T h a u ++ kX1 T (a 0) ac z6.1 ++ kX8 T (ac 0) atp utp ++ kX2 T hlw alw z7) H := by exact hP
      have hD : va_D (va_A (kX3 T h a u ++ kX1 T (a 0) ac uc ++ kX8 T (ac 0) atp utp ++ kX2 T hlw alw ulw) s.heap.size) (kX3 T h a u ++ kX1 T (a 0) ac z6.1 ++ kX8 T (ac 0) atp utp ++ kX2 T hlw alw z7) := by exact hD
      obtain ⟨t8, et8, hf⟩ := lett_e hf
      refine lv_iinc (v := t8) (lv' := [(3, .int t8), (4, .int z4.1), (0, .ref h), (1, .ref hlw), (2, .int x2)]) hx hb dX3_readCondition_55 hl (k := 4) rfl (by rw [et8]; rfl) (by decide) rfl (fun ls hl => ?_)
      refine lv_goto (tgt := 8) hx hb dX3_readCondition_58 (by decide) ?_
      exact ih8 z6.1 z7 x2 t8 _ _ _ hf hP hD hS (lv_sub hl [2, 3, 4, 0] rfl)
  unfold fX3_readCondition at hf
  refine lv_aload_n hx hb dX3_readCondition_0 rfl (lv_at hl 0 rfl) ?_
  refine lv_aload_n hx hb dX3_readCondition_1 rfl (lv_at hl 1 rfl) ?_
  refine lv_iload_n hx hb dX3_readCondition_2 rfl (lv_at hl 2 rfl) ?_
  obtain ⟨z9, hz9, hf⟩ := bnd hf
  have hFc9 := vaA_self hD hS hA
  refine cVMvS (As := [.ref hlw, .int p2]) (rest := []) ⟨hx, hb, hml, hown, hts⟩ (mX3_readPart l D T kv d rc hrc h a u ac uc atp utp hlw alw ulw _ p2 z9 hz9) (cwV 2 hts gX3_readCondition_X3_readPart rfl rfl rfl (by decide +kernel) ⟨by show 30 + d * 3 + 1 ≤ 31 + d * 3; omega, by show 8 + (5 + 11) + (714 + d * 71) ≤ 738 + d * 71; omega⟩) (va_recv hK.1 hP (ci := 3) (q0 := 0) rfl rfl) hP hK rfl hl.1 rfl (Nat.le_of_ble_eq_true rfl) dX3_readCondition_3 ⟨Nat.le_of_ble_eq_true rfl, Nat.le_of_ble_eq_true rfl⟩ hD hFc9 hE hS (fun H locs hP hD1 _ hS => ?_)
  have hD := hD1.weaken (fun _ _ _ h9 => hFc9 _ h9)
  refine lv_iconst (v := 1) hx hb dX3_readCondition_6 (by decide) ?_
  refine lv_istore_n (lv' := [(3, .int 1), (0, .ref h), (1, .ref hlw), (2, .int p2)]) hx hb dX3_readCondition_7 rfl hl (by decide) rfl (fun ls hl => ?_)
  exact L8 FU z9.1 z9.2 p2 1 _ _ _ hf hP hD hS (lv_sub hl [1, 2, 3, 0] rfl)
def fX3_readTest_J111 (rc : St → St → St → Int32 → Option (St × St))   (vc : St) (vlw : St) : Option (St × St) := lett (fX1_failHere vc 1) fun z1 => some (z1, vlw)
def bX3_readTest (rc : St → St → St → Int32 → Option (St × St))  (uc : St) (utp : St) (ulw : St) (p2 : Int32) : Option (St × St) := lett (fX1_sees uc 33) fun z2 => if z2 = 0 then lett (fX1_sees uc 40) fun z4 => if z4 = 0 then (fX3_readSum 8 uc utp ulw p2).bind fun z6 => lett (z6.1 3 0) fun t7 => lett (fX1_isFaulty z6.1) fun z8 => if z8 = 0 then lett (fX10_isOutcome t7) fun z10 => if z10 = 0 then fX3_readTest_J111 rc z6.1 z6.2 else (fX1_next z6.1 utp).bind fun z12 => (fX3_readSum 8 z12 utp z6.2 p2).bind fun z13 => (fX2_put z13.2 t7 0).bind fun z14 => some (z13.1, z14.2) else fX3_readTest_J111 rc z6.1 z6.2 else (fX3_opens uc utp p2).bind fun z15 => if z15.1 = 0 then some (z15.2, ulw) else (fX3_readCondition rc z15.2 utp ulw (p2 + 1)).bind fun z17 => (fX1_take z17.1 utp 41).bind fun z18 => some (z18.2, z17.2) else (fX3_opens uc utp p2).bind fun z19 => if z19.1 = 0 then some (z19.2, ulw) else (rc z19.2 utp ulw (p2 + 1)).bind fun z21 => (fX2_put z21.2 33 0).bind fun z22 => some (z21.1, z22.2)
def fX3_readTest : Nat → St → St → St → Int32 → Option (St × St)
  | 0, _, _, _, _ => none
  | d + 1, uc, utp, ulw, p2 => bX3_readTest (fX3_readTest d) uc utp ulw p2
set_option maxHeartbeats 4000000 in
set_option maxRecDepth 100000 in
theorem mX3_readTest (l : Launch) (D : va_G) (T : Ty3) (kv : (Nat → Nat) × (Nat → Nat)) : ∀ (d : Nat), ∀ (h : Nat) (a : Nat → Nat) (u : St) (ac : Nat → Nat) (uc : St) (atp : Nat → Nat) (utp : St) (hlw : Nat) (alw : Nat → Nat) (ulw : St) (sz : Nat) (p2 : Int32) (res : St × St), fX3_readTest d uc utp ulw p2 = some res → Met l yX3_readTest wsX3_readTest ({ frames := 29 + d * 3, cells := 0, slots := 0, locals := 691 + d * 71 }) (PcMS D T kv (kX3 T h a u ++ kX1 T (a 0) ac uc ++ kX8 T (ac 0) atp utp ++ kX2 T hlw alw ulw) sz [.ref h, .ref hlw, .int p2]) (QMv D (kX3 T h a u ++ kX1 T (a 0) ac uc ++ kX8 T (ac 0) atp utp ++ kX2 T hlw alw ulw) sz (kX3 T h a u ++ kX1 T (a 0) ac res.1 ++ kX8 T (ac 0) atp utp ++ kX2 T hlw alw res.2)) 0 0 (va_A (kX3 T h a u ++ kX1 T (a 0) ac uc ++ kX8 T (ac 0) atp utp ++ kX2 T hlw alw ulw) sz) := by
  intro d
  induction d with
  | zero => intro h a u ac uc atp utp hlw alw ulw sz p2 res hf; exact nns hf
  | succ d hrc =>
    intro h a u ac uc atp utp hlw alw ulw sz p2 res hf
    replace hf : bX3_readTest (fX3_readTest d) uc utp ulw p2 = some res := hf
    generalize hrce : fX3_readTest d = rc at hrc hf
    refine Met.ofW (cc := cX3_readTest) (maxL := 4) (ret := none) (by decide) rfl ?_
    intro p e s m args below meth c s₁ B hml hv
    obtain ⟨rfl, hsz, hP, hK, hD0, hE⟩ := hv
    have hx := B.exec
    have hb := B.bytes
    have hr := B.returns
    have hts := atoms_spec (ws := wsX3_readTest) B.pre
    have hown : s.vm.findClass RX3 = some m.cls := findClass_of_methodNamed B.named
    have hlocks := B.notSynchronized
    subst hsz
    have hD := hD0.self (sz := s.heap.size)
    have hA : ∀ q : Nat, s.heap.size ≤ q → va_A (kX3 T h a u ++ kX1 T (a 0) ac uc ++ kX8 T (ac 0) atp utp ++ kX2 T hlw alw ulw) s.heap.size q := fun q h => Or.inr h
    have hS : va_S (va_A (kX3 T h a u ++ kX1 T (a 0) ac uc ++ kX8 T (ac 0) atp utp ++ kX2 T hlw alw ulw) s.heap.size) s.heap s.heap [] := va_S.rf
    have hinX3 : ∀ w ∈ u_ws RX3 TX3 1, w ∈ wsX3_readTest := fun w h => List.mem_cons_of_mem _ (List.mem_append_left _ (List.mem_append_left _ (List.mem_append_left _ (List.mem_append_right _ h))))
    have hinX1 : ∀ w ∈ u_ws RX1 TX1 5, w ∈ wsX3_readTest := fun w h => List.mem_cons_of_mem _ (List.mem_append_left _ (List.mem_append_left _ (List.mem_append_right _ h)))
    have hinX2 : ∀ w ∈ u_ws RX2 TX2 10, w ∈ wsX3_readTest := fun w h => List.mem_cons_of_mem _ (List.mem_append_left _ (List.mem_append_right _ h))
    have hinX8 : ∀ w ∈ u_ws RX8 TX8 2, w ∈ wsX3_readTest := fun w h => List.mem_cons_of_mem _ (List.mem_append_right _ h)
    have hl := lv_entry ([.ref h, .ref hlw, .int p2]) (n := 4) (Nat.le_of_ble_eq_true rfl)
    rw [lg_entry_eq]
    generalize (lg_sl ([.ref h, .ref hlw, .int p2]) ++ List.replicate (4 - (lg_sl ([.ref h, .ref hlw, .int p2])).length) Slot.unset).toArray = ls at hl ⊢
    have hl : lv_has ls 4 [(0, .ref h), (1, .ref hlw), (2, .int p2)] := hl
    have J111 : ∀ (vc : St) (vlw : St) (H : Heap) (locs : List Loc) (ls : Array Slot), fX3_readTest_J111 rc vc vlw = some res → va_P D vwCl (kX3 T h a u ++ kX1 T (a 0) ac vc ++ kX8 T (ac 0) atp utp ++ kX2 T hlw alw vlw) H → va_D (va_A (kX3 T h a u ++ kX1 T (a 0) ac uc ++ kX8 T (ac 0) atp utp ++ kX2 T hlw alw ulw) s.heap.size) (kX3 T h a u ++ kX1 T (a 0) ac vc ++ kX8 T (ac 0) atp utp ++ kX2 T hlw alw vlw) → va_S (va_A (kX3 T h a u ++ kX1 T (a 0) ac uc ++ kX8 T (ac 0) atp utp ++ kX2 T hlw alw ulw) s.heap.size) s.heap H locs → lv_has ls 4 [(0, .ref h)] → W p l e (headSpec wsX3_readTest ({ frames := 29 + (d + 1) * 3, cells := 0, slots := 0, locals := 691 + (d + 1) * 71 })).room s m ([.ref h, .ref hlw, .int p2] : List Value).toArray below meth c H locs 0 0 (MQ below (QMv D (kX3 T h a u ++ kX1 T (a 0) ac uc ++ kX8 T (ac 0) atp utp ++ kX2 T hlw alw ulw) s.heap.size (kX3 T h a u ++ kX1 T (a 0) ac res.1 ++ kX8 T (ac 0) atp utp ++ kX2 T hlw alw res.2)) ([.ref h, .ref hlw, .int p2] : List Value).toArray s 0 0 (va_A (kX3 T h a u ++ kX1 T (a 0) ac uc ++ kX8 T (ac 0) atp utp ++ kX2 T hlw alw ulw) s.heap.size)) (F0 m 111 ls []) := by
      intro vc vlw H locs ls hf hP hD hS hl
      unfold fX3_readTest_J111 at hf
      refine lv_aload_n hx hb dX3_readTest_111 rfl (lv_at hl 0 rfl) ?_
      refine va_get (D := D) (ci := 3) (v := .ref (a 0)) (C := RX3) (T := TX3) (N := 1) hx hb hts hinX3 hown hK.1 hP 0 rfl rfl 0 (by decide) (hts (.fieldLink RX3 9 "RopeScale$LawReader" "cursor" "LRopeScale$Cursor;") (List.mem_of_getElem? (i := 1) rfl)) (fun _ h9 => h9) rfl dX3_readTest_112 ?_
      refine lv_iconst (v := 1) hx hb dX3_readTest_115 (by decide) ?_
      obtain ⟨z1, hz1, hf⟩ := lett_e hf
      have hPc := hP.sub (ws' := kX1 T (a 0) ac vc) [1] rfl
      have hDc := hD.sub (ws' := kX1 T (a 0) ac vc) [1] (by decide) rfl
      have hFc9 := va_free (wc := kX1 T (a 0) ac vc) hD hS hA [1] rfl
      refine cVMv (As := [.int 1]) (rest := []) ⟨hx, hb, hml, hown, hts⟩ (mX1_failHere l D T (a 0) ac vc _ 1 z1 hz1.symm) (cwV 1 hts gX3_readTest_X1_failHere rfl rfl rfl (by decide +kernel) ⟨by show 1 + 1 ≤ 29 + (d + 1) * 3; omega, by show 8 + (2 + 11) + (22) ≤ 691 + (d + 1) * 71; omega⟩) (va_recv hK.1 hP (ci := 1) (q0 := 1) rfl rfl) hPc hK rfl hl.1 rfl (Nat.le_of_ble_eq_true rfl) dX3_readTest_116 ⟨Nat.le_of_ble_eq_true rfl, Nat.le_of_ble_eq_true rfl⟩ hDc hFc9 hS (fun H9 locs hP1 hD1 hk1 hS => ?_)
      obtain ⟨hP, hD⟩ := putAll_P (w1 := kX1 T (a 0) ac z1) hP hD [1] rfl (by decide) hk1 hP1 rfl
      generalize H9 = H at hP hS ⊢
      have hP : va_P D vwCl (kX3 T h a u ++ kX1 T (a 0) ac z1 ++ kX8 T (ac 0) atp utp ++ kX2 T hlw alw vlw) H := by exact hP
      have hD : va_D (va_A (kX3 T h a u ++ kX1 T (a 0) ac uc ++ kX8 T (ac 0) atp utp ++ kX2 T hlw alw ulw) s.heap.size) (kX3 T h a u ++ kX1 T (a 0) ac z1 ++ kX8 T (ac 0) atp utp ++ kX2 T hlw alw vlw) := by exact hD
      have e9 := Option.some.inj hf
      exact retMv hx hb hr hlocks hP hD hS (congrArg (fun z => (kX3 T h a u ++ kX1 T (a 0) ac z.1 ++ kX8 T (ac 0) atp utp ++ kX2 T hlw alw z.2 : va_W)) e9) dX3_readTest_119
    unfold bX3_readTest at hf
    refine lv_aload_n hx hb dX3_readTest_0 rfl (lv_at hl 0 rfl) ?_
    refine va_get (D := D) (ci := 3) (v := .ref (a 0)) (C := RX3) (T := TX3) (N := 1) hx hb hts hinX3 hown hK.1 hP 0 rfl rfl 0 (by decide) (hts (.fieldLink RX3 9 "RopeScale$LawReader" "cursor" "LRopeScale$Cursor;") (List.mem_of_getElem? (i := 1) rfl)) (fun _ h9 => h9) rfl dX3_readTest_1 ?_
    refine lv_bipush (v := 33) hx hb dX3_readTest_4 (by decide) ?_
    obtain ⟨z2, hz2, hf⟩ := lett_e hf
    refine cVR (As := [.int 33]) (rest := []) ⟨hx, hb, hml, hown, hts⟩ (mX1_sees l D T (a 0) ac uc 33 z2 hz2.symm) (cwV 1 hts gX3_readTest_X1_sees rfl rfl rfl (by decide +kernel) ⟨by show 0 + 1 ≤ 29 + (d + 1) * 3; omega, by show 8 + (2 + 11) + (0) ≤ 691 + (d + 1) * 71; omega⟩) (va_recv hK.1 hP (ci := 1) (q0 := 1) rfl rfl) (hP.sub (ws' := kX1 T (a 0) ac uc) [1] rfl) hK rfl hl.1 rfl (Nat.le_of_ble_eq_true rfl) dX3_readTest_6 ⟨Nat.le_of_ble_eq_true rfl, Nat.le_of_ble_eq_true rfl⟩ hP hS (fun H locs hP hS => ?_)
    refine lv_if_eq (tgt := 39) hx hb dX3_readTest_9 (by decide) (fun c3 => ?_) (fun c3 => ?_)
    · replace hf := ifp c3 hf
      refine lv_aload_n hx hb dX3_readTest_39 rfl (lv_at hl 0 rfl) ?_
      refine va_get (D := D) (ci := 3) (v := .ref (a 0)) (C := RX3) (T := TX3) (N := 1) hx hb hts hinX3 hown hK.1 hP 0 rfl rfl 0 (by decide) (hts (.fieldLink RX3 9 "RopeScale$LawReader" "cursor" "LRopeScale$Cursor;") (List.mem_of_getElem? (i := 1) rfl)) (fun _ h9 => h9) rfl dX3_readTest_40 ?_
      refine lv_bipush (v := 40) hx hb dX3_readTest_43 (by decide) ?_
      obtain ⟨z4, hz4, hf⟩ := lett_e hf
      refine cVR (As := [.int 40]) (rest := []) ⟨hx, hb, hml, hown, hts⟩ (mX1_sees l D T (a 0) ac uc 40 z4 hz4.symm) (cwV 1 hts gX3_readTest_X1_sees rfl rfl rfl (by decide +kernel) ⟨by show 0 + 1 ≤ 29 + (d + 1) * 3; omega, by show 8 + (2 + 11) + (0) ≤ 691 + (d + 1) * 71; omega⟩) (va_recv hK.1 hP (ci := 1) (q0 := 1) rfl rfl) (hP.sub (ws' := kX1 T (a 0) ac uc) [1] rfl) hK rfl hl.1 rfl (Nat.le_of_ble_eq_true rfl) dX3_readTest_45 ⟨Nat.le_of_ble_eq_true rfl, Nat.le_of_ble_eq_true rfl⟩ hP hS (fun H locs hP hS => ?_)
      refine lv_if_eq (tgt := 80) hx hb dX3_readTest_48 (by decide) (fun c5 => ?_) (fun c5 => ?_)
      · replace hf := ifp c5 hf
        refine lv_aload_n hx hb dX3_readTest_80 rfl (lv_at hl 0 rfl) ?_
        refine lv_aload_n hx hb dX3_readTest_81 rfl (lv_at hl 1 rfl) ?_
        refine lv_iload_n hx hb dX3_readTest_82 rfl (lv_at hl 2 rfl) ?_
        obtain ⟨z6, hz6, hf⟩ := bnd hf
        have hFc9 := vaA_self hD hS hA
        refine cVMvS (As := [.ref hlw, .int p2]) (rest := []) ⟨hx, hb, hml, hown, hts⟩ (mX3_readSum l D T kv 8 h a u ac uc atp utp hlw alw ulw _ p2 z6 hz6) (cwV 2 hts gX3_readTest_X3_readSum rfl rfl rfl (by decide +kernel) ⟨by show 4 + 8 * 3 + 1 ≤ 29 + (d + 1) * 3; omega, by show 8 + (5 + 11) + (91 + 8 * 72) ≤ 691 + (d + 1) * 71; omega⟩) (va_recv hK.1 hP (ci := 3) (q0 := 0) rfl rfl) hP hK rfl hl.1 rfl (Nat.le_of_ble_eq_true rfl) dX3_readTest_83 ⟨Nat.le_of_ble_eq_true rfl, Nat.le_of_ble_eq_true rfl⟩ hD hFc9 hE hS (fun H locs hP hD1 _ hS => ?_)
        have hD := hD1.weaken (fun _ _ _ h9 => hFc9 _ h9)
        refine lv_aload_n hx hb dX3_readTest_86 rfl (lv_at hl 0 rfl) ?_
        refine va_get (D := D) (ci := 3) (v := .ref (a 0)) (C := RX3) (T := TX3) (N := 1) hx hb hts hinX3 hown hK.1 hP 0 rfl rfl 0 (by decide) (hts (.fieldLink RX3 9 "RopeScale$LawReader" "cursor" "LRopeScale$Cursor;") (List.mem_of_getElem? (i := 1) rfl)) (fun _ h9 => h9) rfl dX3_readTest_87 ?_
        refine va_get (D := D) (ci := 1) (v := .int (z6.1 3 0)) (C := RX1) (T := TX1) (N := 5) hx hb hts hinX1 hown hK.1 hP 1 rfl rfl 3 (by decide) (hts (.fieldLink RX3 30 "RopeScale$Cursor" "sign" "I") (List.mem_of_getElem? (i := 2) rfl)) (fun _ h9 => h9) rfl dX3_readTest_90 ?_
        obtain ⟨t7, et7, hf⟩ := lett_e hf
        refine lv_eqi et7 ?_
        refine lv_istore_n (lv' := [(3, .int t7), (0, .ref h), (1, .ref hlw), (2, .int p2)]) hx hb dX3_readTest_93 rfl hl (by decide) rfl (fun ls hl => ?_)
        refine lv_aload_n hx hb dX3_readTest_94 rfl (lv_at hl 1 rfl) ?_
        refine va_get (D := D) (ci := 3) (v := .ref (a 0)) (C := RX3) (T := TX3) (N := 1) hx hb hts hinX3 hown hK.1 hP 0 rfl rfl 0 (by decide) (hts (.fieldLink RX3 9 "RopeScale$LawReader" "cursor" "LRopeScale$Cursor;") (List.mem_of_getElem? (i := 1) rfl)) (fun _ h9 => h9) rfl dX3_readTest_95 ?_
        obtain ⟨z8, hz8, hf⟩ := lett_e hf
        refine cVR (As := []) (rest := []) ⟨hx, hb, hml, hown, hts⟩ (mX1_isFaulty l D T (a 0) ac z6.1 z8 hz8.symm) (cwV 0 hts gX3_readTest_X1_isFaulty rfl rfl rfl (by decide +kernel) ⟨by show 0 + 1 ≤ 29 + (d + 1) * 3; omega, by show 8 + (1 + 11) + (0) ≤ 691 + (d + 1) * 71; omega⟩) (va_recv hK.1 hP (ci := 1) (q0 := 1) rfl rfl) (hP.sub (ws' := kX1 T (a 0) ac z6.1) [1] rfl) hK rfl hl.1 rfl (Nat.le_of_ble_eq_true rfl) dX3_readTest_98 ⟨Nat.le_of_ble_eq_true rfl, Nat.le_of_ble_eq_true rfl⟩ hP hS (fun H locs hP hS => ?_)
        refine lv_if_ne (tgt := 111) hx hb dX3_readTest_101 (by decide) (fun c9 => ?_) (fun c9 => ?_)
        · replace hf := ifn c9 hf
          exact J111 z6.1 z6.2 _ _ _ hf hP hD hS (lv_sub hl [1] rfl)
        replace hf := ifp c9 hf
        refine lv_iload_n hx hb dX3_readTest_104 rfl (lv_at hl 0 rfl) ?_
        obtain ⟨z10, hz10, hf⟩ := lett_e hf
        refine cSR (As := [.int t7]) (rest := []) ⟨hx, hb, hml, hown, hts⟩ (mX10_isOutcome l D T t7 z10 hz10.symm) (va_cwS 1 hts gX3_readTest_X10_isOutcome rfl rfl rfl (by decide +kernel) ⟨by show 0 + 1 ≤ 29 + (d + 1) * 3; omega, by show 8 + (1 + 11) + (0) ≤ 691 + (d + 1) * 71; omega⟩) P0 hK rfl hl.1 rfl (Nat.le_of_ble_eq_true rfl) dX3_readTest_105 ⟨Nat.le_of_ble_eq_true rfl, Nat.le_of_ble_eq_true rfl⟩ hP hS (fun H locs hP hS => ?_)
        refine lv_if_ne (tgt := 120) hx hb dX3_readTest_108 (by decide) (fun c11 => ?_) (fun c11 => ?_)
        · replace hf := ifn c11 hf
          refine lv_aload_n hx hb dX3_readTest_120 rfl (lv_at hl 1 rfl) ?_
          refine va_get (D := D) (ci := 3) (v := .ref (a 0)) (C := RX3) (T := TX3) (N := 1) hx hb hts hinX3 hown hK.1 hP 0 rfl rfl 0 (by decide) (hts (.fieldLink RX3 9 "RopeScale$LawReader" "cursor" "LRopeScale$Cursor;") (List.mem_of_getElem? (i := 1) rfl)) (fun _ h9 => h9) rfl dX3_readTest_121 ?_
          obtain ⟨z12, hz12, hf⟩ := bnd hf
          have hPc := hP.sub (ws' := kX1 T (a 0) ac z6.1 ++ kX8 T (ac 0) atp utp) [1, 2, 3] rfl
          have hDc := hD.sub (ws' := kX1 T (a 0) ac z6.1 ++ kX8 T (ac 0) atp utp) [1, 2, 3] (by decide) rfl
          have hFc9 := va_free (wc := kX1 T (a 0) ac z6.1 ++ kX8 T (ac 0) atp utp) hD hS hA [1, 2, 3] rfl
          refine cVMv (As := []) (rest := []) ⟨hx, hb, hml, hown, hts⟩ (mX1_next l D T (a 0) ac z6.1 atp utp _ z12 hz12) (cwV 0 hts gX3_readTest_X1_next rfl rfl rfl (by decide +kernel) ⟨by show 1 + 1 ≤ 29 + (d + 1) * 3; omega, by show 8 + (1 + 11) + (21) ≤ 691 + (d + 1) * 71; omega⟩) (va_recv hK.1 hP (ci := 1) (q0 := 1) rfl rfl) hPc hK rfl hl.1 rfl (Nat.le_of_ble_eq_true rfl) dX3_readTest_124 ⟨Nat.le_of_ble_eq_true rfl, Nat.le_of_ble_eq_true rfl⟩ hDc hFc9 hS (fun H9 locs hP1 hD1 hk1 hS => ?_)
          obtain ⟨hP, hD⟩ := putAll_P (w1 := kX1 T (a 0) ac z12 ++ kX8 T (ac 0) atp utp) hP hD [1, 2, 3] rfl (by decide) hk1 hP1 rfl
          generalize H9 = H at hP hS ⊢
          have hP : va_P D vwCl (kX3 T h a u ++ kX1 T (a 0) ac z12 ++ kX8 T (ac 0) atp utp ++ kX2 T hlw alw z6.2) H := by exact hP
          have hD : va_D (va_A (kX3 T h a u ++ kX1 T (a 0) ac uc ++ kX8 T (ac 0) atp utp ++ kX2 T hlw alw ulw) s.heap.size) (kX3 T h a u ++ kX1 T (a 0) ac z12 ++ kX8 T (ac 0) atp utp ++ kX2 T hlw alw z6.2) := by exact hD
          refine lv_aload_n hx hb dX3_readTest_127 rfl (lv_at hl 1 rfl) ?_
          refine lv_aload_n hx hb dX3_readTest_128 rfl (lv_at hl 2 rfl) ?_
          refine lv_iload_n hx hb dX3_readTest_129 rfl (lv_at hl 3 rfl) ?_
          obtain ⟨z13, hz13, hf⟩ := bnd hf
          have hFc9 := vaA_self hD hS hA
          refine cVMvS (As := [.ref hlw, .int p2]) (rest := []) ⟨hx, hb, hml, hown, hts⟩ (mX3_readSum l D T kv 8 h a u ac z12 atp utp hlw alw z6.2 _ p2 z13 hz13) (cwV 2 hts gX3_readTest_X3_readSum rfl rfl rfl (by decide +kernel) ⟨by show 4 + 8 * 3 + 1 ≤ 29 + (d + 1) * 3; omega, by show 8 + (5 + 11) + (91 + 8 * 72) ≤ 691 + (d + 1) * 71; omega⟩) (va_recv hK.1 hP (ci := 3) (q0 := 0) rfl rfl) hP hK rfl hl.1 rfl (Nat.le_of_ble_eq_true rfl) dX3_readTest_130 ⟨Nat.le_of_ble_eq_true rfl, Nat.le_of_ble_eq_true rfl⟩ hD hFc9 hE hS (fun H locs hP hD1 _ hS => ?_)
          have hD := hD1.weaken (fun _ _ _ h9 => hFc9 _ h9)
          refine lv_aload_n hx hb dX3_readTest_133 rfl (lv_at hl 2 rfl) ?_
          refine lv_iload_n hx hb dX3_readTest_134 rfl (lv_at hl 0 rfl) ?_
          refine lv_iconst (v := 0) hx hb dX3_readTest_135 (by decide) ?_
          obtain ⟨z14, hz14, hf⟩ := bnd hf
          have hPc := hP.sub (ws' := kX2 T hlw alw z13.2) [4, 5, 6, 7, 8, 9, 10, 11, 12] rfl
          have hDc := hD.sub (ws' := kX2 T hlw alw z13.2) [4, 5, 6, 7, 8, 9, 10, 11, 12] (by decide) rfl
          have hFc9 := va_free (wc := kX2 T hlw alw z13.2) hD hS hA [4, 5, 6, 7, 8, 9, 10, 11, 12] rfl
          refine cVM (As := [.int t7, .int 0]) (rest := []) ⟨hx, hb, hml, hown, hts⟩ (mX2_put l D T hlw alw z13.2 _ t7 0 z14 hz14) (cwV 2 hts gX3_readTest_X2_put rfl rfl rfl (by decide +kernel) ⟨by show 0 + 1 ≤ 29 + (d + 1) * 3; omega, by show 8 + (3 + 11) + (0) ≤ 691 + (d + 1) * 71; omega⟩) (va_recv hK.1 hP (ci := 2) (q0 := 4) rfl rfl) hPc hK rfl hl.1 rfl (Nat.le_of_ble_eq_true rfl) dX3_readTest_136 ⟨Nat.le_of_ble_eq_true rfl, Nat.le_of_ble_eq_true rfl⟩ hDc hFc9 hS (fun H9 locs hP1 hD1 hk1 hS => ?_)
          obtain ⟨hP, hD⟩ := putAll_P (w1 := kX2 T hlw alw z14.2) hP hD [4, 5, 6, 7, 8, 9, 10, 11, 12] rfl (by decide) hk1 hP1 rfl
          generalize H9 = H at hP hS ⊢
          have hP : va_P D vwCl (kX3 T h a u ++ kX1 T (a 0) ac z13.1 ++ kX8 T (ac 0) atp utp ++ kX2 T hlw alw z14.2) H := by exact hP
          have hD : va_D (va_A (kX3 T h a u ++ kX1 T (a 0) ac uc ++ kX8 T (ac 0) atp utp ++ kX2 T hlw alw ulw) s.heap.size) (kX3 T h a u ++ kX1 T (a 0) ac z13.1 ++ kX8 T (ac 0) atp utp ++ kX2 T hlw alw z14.2) := by exact hD
          refine lv_pop hx hb dX3_readTest_139 rfl ?_
          have e9 := Option.some.inj hf
          exact retMv hx hb hr hlocks hP hD hS (congrArg (fun z => (kX3 T h a u ++ kX1 T (a 0) ac z.1 ++ kX8 T (ac 0) atp utp ++ kX2 T hlw alw z.2 : va_W)) e9) dX3_readTest_140
        replace hf := ifp c11 hf
        exact J111 z6.1 z6.2 _ _ _ hf hP hD hS (lv_sub hl [1] rfl)
      replace hf := ifn c5 hf
      refine lv_aload_n hx hb dX3_readTest_51 rfl (lv_at hl 0 rfl) ?_
      refine lv_iload_n hx hb dX3_readTest_52 rfl (lv_at hl 2 rfl) ?_
      obtain ⟨z15, hz15, hf⟩ := bnd hf
      have hPc := hP.sub (ws' := kX3 T h a u ++ kX1 T (a 0) ac uc ++ kX8 T (ac 0) atp utp) [0, 1, 2, 3] rfl
      have hDc := hD.sub (ws' := kX3 T h a u ++ kX1 T (a 0) ac uc ++ kX8 T (ac 0) atp utp) [0, 1, 2, 3] (by decide) rfl
      have hFc9 := va_free (wc := kX3 T h a u ++ kX1 T (a 0) ac uc ++ kX8 T (ac 0) atp utp) hD hS hA [0, 1, 2, 3] rfl
      refine cVM (As := [.int p2]) (rest := []) ⟨hx, hb, hml, hown, hts⟩ (mX3_opens l D T h a u ac uc atp utp _ p2 z15 hz15) (cwV 1 hts gX3_readTest_X3_opens rfl rfl rfl (by decide +kernel) ⟨by show 2 + 1 ≤ 29 + (d + 1) * 3; omega, by show 8 + (2 + 11) + (43) ≤ 691 + (d + 1) * 71; omega⟩) (va_recv hK.1 hP (ci := 3) (q0 := 0) rfl rfl) hPc hK rfl hl.1 rfl (Nat.le_of_ble_eq_true rfl) dX3_readTest_53 ⟨Nat.le_of_ble_eq_true rfl, Nat.le_of_ble_eq_true rfl⟩ hDc hFc9 hS (fun H9 locs hP1 hD1 hk1 hS => ?_)
      obtain ⟨hP, hD⟩ := putAll_P (w1 := kX3 T h a u ++ kX1 T (a 0) ac z15.2 ++ kX8 T (ac 0) atp utp) hP hD [0, 1, 2, 3] rfl (by decide) hk1 hP1 rfl
      generalize H9 = H at hP hS ⊢
      have hP : va_P D vwCl (kX3 T h a u ++ kX1 T (a 0) ac z15.2 ++ kX8 T (ac 0) atp utp ++ kX2 T hlw alw ulw) H := by exact hP
      have hD : va_D (va_A (kX3 T h a u ++ kX1 T (a 0) ac uc ++ kX8 T (ac 0) atp utp ++ kX2 T hlw alw ulw) s.heap.size) (kX3 T h a u ++ kX1 T (a 0) ac z15.2 ++ kX8 T (ac 0) atp utp ++ kX2 T hlw alw ulw) := by exact hD
      refine lv_if_eq (tgt := 140) hx hb dX3_readTest_56 (by decide) (fun c16 => ?_) (fun c16 => ?_)
      · replace hf := ifp c16 hf
        have e9 := Option.some.inj hf
        exact retMv hx hb hr hlocks hP hD hS (congrArg (fun z => (kX3 T h a u ++ kX1 T (a 0) ac z.1 ++ kX8 T (ac 0) atp utp ++ kX2 T hlw alw z.2 : va_W)) e9) dX3_readTest_140
      replace hf := ifn c16 hf
      refine lv_aload_n hx hb dX3_readTest_59 rfl (lv_at hl 0 rfl) ?_
      refine lv_aload_n hx hb dX3_readTest_60 rfl (lv_at hl 1 rfl) ?_
      refine lv_iload_n hx hb dX3_readTest_61 rfl (lv_at hl 2 rfl) ?_
      refine lv_iconst (v := 1) hx hb dX3_readTest_62 (by decide) ?_
      refine lv_iadd hx hb dX3_readTest_63 ?_
      obtain ⟨z17, hz17, hf⟩ := bnd hf
      have hFc9 := vaA_self hD hS hA
      refine cVMvS (As := [.ref hlw, .int (p2 + 1)]) (rest := []) ⟨hx, hb, hml, hown, hts⟩ (mX3_readCondition l D T kv d rc hrc h a u ac z15.2 atp utp hlw alw ulw _ (p2 + 1) z17 hz17) (cwV 2 hts gX3_readTest_X3_readCondition rfl rfl rfl (by decide +kernel) ⟨by show 31 + d * 3 + 1 ≤ 29 + (d + 1) * 3; omega, by show 8 + (5 + 11) + (738 + d * 71) ≤ 691 + (d + 1) * 71; omega⟩) (va_recv hK.1 hP (ci := 3) (q0 := 0) rfl rfl) hP hK rfl hl.1 rfl (Nat.le_of_ble_eq_true rfl) dX3_readTest_64 ⟨Nat.le_of_ble_eq_true rfl, Nat.le_of_ble_eq_true rfl⟩ hD hFc9 hE hS (fun H locs hP hD1 _ hS => ?_)
      have hD := hD1.weaken (fun _ _ _ h9 => hFc9 _ h9)
      refine lv_aload_n hx hb dX3_readTest_67 rfl (lv_at hl 0 rfl) ?_
      refine va_get (D := D) (ci := 3) (v := .ref (a 0)) (C := RX3) (T := TX3) (N := 1) hx hb hts hinX3 hown hK.1 hP 0 rfl rfl 0 (by decide) (hts (.fieldLink RX3 9 "RopeScale$LawReader" "cursor" "LRopeScale$Cursor;") (List.mem_of_getElem? (i := 1) rfl)) (fun _ h9 => h9) rfl dX3_readTest_68 ?_
      refine lv_bipush (v := 41) hx hb dX3_readTest_71 (by decide) ?_
      obtain ⟨z18, hz18, hf⟩ := bnd hf
      have hPc := hP.sub (ws' := kX1 T (a 0) ac z17.1 ++ kX8 T (ac 0) atp utp) [1, 2, 3] rfl
      have hDc := hD.sub (ws' := kX1 T (a 0) ac z17.1 ++ kX8 T (ac 0) atp utp) [1, 2, 3] (by decide) rfl
      have hFc9 := va_free (wc := kX1 T (a 0) ac z17.1 ++ kX8 T (ac 0) atp utp) hD hS hA [1, 2, 3] rfl
      refine cVM (As := [.int 41]) (rest := []) ⟨hx, hb, hml, hown, hts⟩ (mX1_take l D T (a 0) ac z17.1 atp utp _ 41 z18 hz18) (cwV 1 hts gX3_readTest_X1_take rfl rfl rfl (by decide +kernel) ⟨by show 2 + 1 ≤ 29 + (d + 1) * 3; omega, by show 8 + (2 + 11) + (43) ≤ 691 + (d + 1) * 71; omega⟩) (va_recv hK.1 hP (ci := 1) (q0 := 1) rfl rfl) hPc hK rfl hl.1 rfl (Nat.le_of_ble_eq_true rfl) dX3_readTest_73 ⟨Nat.le_of_ble_eq_true rfl, Nat.le_of_ble_eq_true rfl⟩ hDc hFc9 hS (fun H9 locs hP1 hD1 hk1 hS => ?_)
      obtain ⟨hP, hD⟩ := putAll_P (w1 := kX1 T (a 0) ac z18.2 ++ kX8 T (ac 0) atp utp) hP hD [1, 2, 3] rfl (by decide) hk1 hP1 rfl
      generalize H9 = H at hP hS ⊢
      have hP : va_P D vwCl (kX3 T h a u ++ kX1 T (a 0) ac z18.2 ++ kX8 T (ac 0) atp utp ++ kX2 T hlw alw z17.2) H := by exact hP
      have hD : va_D (va_A (kX3 T h a u ++ kX1 T (a 0) ac uc ++ kX8 T (ac 0) atp utp ++ kX2 T hlw alw ulw) s.heap.size) (kX3 T h a u ++ kX1 T (a 0) ac z18.2 ++ kX8 T (ac 0) atp utp ++ kX2 T hlw alw z17.2) := by exact hD
      refine lv_pop hx hb dX3_readTest_76 rfl ?_
      refine lv_goto (tgt := 140) hx hb dX3_readTest_77 (by decide) ?_
      have e9 := Option.some.inj hf
      exact retMv hx hb hr hlocks hP hD hS (congrArg (fun z => (kX3 T h a u ++ kX1 T (a 0) ac z.1 ++ kX8 T (ac 0) atp utp ++ kX2 T hlw alw z.2 : va_W)) e9) dX3_readTest_140
    replace hf := ifn c3 hf
    refine lv_aload_n hx hb dX3_readTest_12 rfl (lv_at hl 0 rfl) ?_
    refine lv_iload_n hx hb dX3_readTest_13 rfl (lv_at hl 2 rfl) ?_
    obtain ⟨z19, hz19, hf⟩ := bnd hf
    have hPc := hP.sub (ws' := kX3 T h a u ++ kX1 T (a 0) ac uc ++ kX8 T (ac 0) atp utp) [0, 1, 2, 3] rfl
    have hDc := hD.sub (ws' := kX3 T h a u ++ kX1 T (a 0) ac uc ++ kX8 T (ac 0) atp utp) [0, 1, 2, 3] (by decide) rfl
    have hFc9 := va_free (wc := kX3 T h a u ++ kX1 T (a 0) ac uc ++ kX8 T (ac 0) atp utp) hD hS hA [0, 1, 2, 3] rfl
    refine cVM (As := [.int p2]) (rest := []) ⟨hx, hb, hml, hown, hts⟩ (mX3_opens l D T h a u ac uc atp utp _ p2 z19 hz19) (cwV 1 hts gX3_readTest_X3_opens rfl rfl rfl (by decide +kernel) ⟨by show 2 + 1 ≤ 29 + (d + 1) * 3; omega, by show 8 + (2 + 11) + (43) ≤ 691 + (d + 1) * 71; omega⟩) (va_recv hK.1 hP (ci := 3) (q0 := 0) rfl rfl) hPc hK rfl hl.1 rfl (Nat.le_of_ble_eq_true rfl) dX3_readTest_14 ⟨Nat.le_of_ble_eq_true rfl, Nat.le_of_ble_eq_true rfl⟩ hDc hFc9 hS (fun H9 locs hP1 hD1 hk1 hS => ?_)
    obtain ⟨hP, hD⟩ := putAll_P (w1 := kX3 T h a u ++ kX1 T (a 0) ac z19.2 ++ kX8 T (ac 0) atp utp) hP hD [0, 1, 2, 3] rfl (by decide) hk1 hP1 rfl
    generalize H9 = H at hP hS ⊢
    have hP : va_P D vwCl (kX3 T h a u ++ kX1 T (a 0) ac z19.2 ++ kX8 T (ac 0) atp utp ++ kX2 T hlw alw ulw) H := by exact hP
    have hD : va_D (va_A (kX3 T h a u ++ kX1 T (a 0) ac uc ++ kX8 T (ac 0) atp utp ++ kX2 T hlw alw ulw) s.heap.size) (kX3 T h a u ++ kX1 T (a 0) ac z19.2 ++ kX8 T (ac 0) atp utp ++ kX2 T hlw alw ulw) := by exact hD
    refine lv_if_eq (tgt := 140) hx hb dX3_readTest_17 (by decide) (fun c20 => ?_) (fun c20 => ?_)
    · replace hf := ifp c20 hf
      have e9 := Option.some.inj hf
      exact retMv hx hb hr hlocks hP hD hS (congrArg (fun z => (kX3 T h a u ++ kX1 T (a 0) ac z.1 ++ kX8 T (ac 0) atp utp ++ kX2 T hlw alw z.2 : va_W)) e9) dX3_readTest_140
    replace hf := ifn c20 hf
    refine lv_aload_n hx hb dX3_readTest_20 rfl (lv_at hl 0 rfl) ?_
    refine lv_aload_n hx hb dX3_readTest_21 rfl (lv_at hl 1 rfl) ?_
    refine lv_iload_n hx hb dX3_readTest_22 rfl (lv_at hl 2 rfl) ?_
    refine lv_iconst (v := 1) hx hb dX3_readTest_23 (by decide) ?_
    refine lv_iadd hx hb dX3_readTest_24 ?_
    obtain ⟨z21, hz21, hf⟩ := bnd hf
    have hFc9 := vaA_self hD hS hA
    refine cVMvS (As := [.ref hlw, .int (p2 + 1)]) (rest := []) ⟨hx, hb, hml, hown, hts⟩ (hrc h a u ac z19.2 atp utp hlw alw ulw _ (p2 + 1) z21 hz21) (cwV 2 hts gX3_readTest_X3_readTest rfl rfl rfl (by decide +kernel) ⟨by show 29 + d * 3 + 1 ≤ 29 + (d + 1) * 3; omega, by show 8 + (4 + 11) + (691 + d * 71) ≤ 691 + (d + 1) * 71; omega⟩) (va_recv hK.1 hP (ci := 3) (q0 := 0) rfl rfl) hP hK rfl hl.1 rfl (Nat.le_of_ble_eq_true rfl) dX3_readTest_25 ⟨Nat.le_of_ble_eq_true rfl, Nat.le_of_ble_eq_true rfl⟩ hD hFc9 hE hS (fun H locs hP hD1 _ hS => ?_)
    have hD := hD1.weaken (fun _ _ _ h9 => hFc9 _ h9)
    refine lv_aload_n hx hb dX3_readTest_28 rfl (lv_at hl 1 rfl) ?_
    refine lv_bipush (v := 33) hx hb dX3_readTest_29 (by decide) ?_
    refine lv_iconst (v := 0) hx hb dX3_readTest_31 (by decide) ?_
    obtain ⟨z22, hz22, hf⟩ := bnd hf
    have hPc := hP.sub (ws' := kX2 T hlw alw z21.2) [4, 5, 6, 7, 8, 9, 10, 11, 12] rfl
    have hDc := hD.sub (ws' := kX2 T hlw alw z21.2) [4, 5, 6, 7, 8, 9, 10, 11, 12] (by decide) rfl
    have hFc9 := va_free (wc := kX2 T hlw alw z21.2) hD hS hA [4, 5, 6, 7, 8, 9, 10, 11, 12] rfl
    refine cVM (As := [.int 33, .int 0]) (rest := []) ⟨hx, hb, hml, hown, hts⟩ (mX2_put l D T hlw alw z21.2 _ 33 0 z22 hz22) (cwV 2 hts gX3_readTest_X2_put rfl rfl rfl (by decide +kernel) ⟨by show 0 + 1 ≤ 29 + (d + 1) * 3; omega, by show 8 + (3 + 11) + (0) ≤ 691 + (d + 1) * 71; omega⟩) (va_recv hK.1 hP (ci := 2) (q0 := 4) rfl rfl) hPc hK rfl hl.1 rfl (Nat.le_of_ble_eq_true rfl) dX3_readTest_32 ⟨Nat.le_of_ble_eq_true rfl, Nat.le_of_ble_eq_true rfl⟩ hDc hFc9 hS (fun H9 locs hP1 hD1 hk1 hS => ?_)
    obtain ⟨hP, hD⟩ := putAll_P (w1 := kX2 T hlw alw z22.2) hP hD [4, 5, 6, 7, 8, 9, 10, 11, 12] rfl (by decide) hk1 hP1 rfl
    generalize H9 = H at hP hS ⊢
    have hP : va_P D vwCl (kX3 T h a u ++ kX1 T (a 0) ac z21.1 ++ kX8 T (ac 0) atp utp ++ kX2 T hlw alw z22.2) H := by exact hP
    have hD : va_D (va_A (kX3 T h a u ++ kX1 T (a 0) ac uc ++ kX8 T (ac 0) atp utp ++ kX2 T hlw alw ulw) s.heap.size) (kX3 T h a u ++ kX1 T (a 0) ac z21.1 ++ kX8 T (ac 0) atp utp ++ kX2 T hlw alw z22.2) := by exact hD
    refine lv_pop hx hb dX3_readTest_35 rfl ?_
    refine lv_goto (tgt := 140) hx hb dX3_readTest_36 (by decide) ?_
    have e9 := Option.some.inj hf
    exact retMv hx hb hr hlocks hP hD hS (congrArg (fun z => (kX3 T h a u ++ kX1 T (a 0) ac z.1 ++ kX8 T (ac 0) atp utp ++ kX2 T hlw alw z.2 : va_W)) e9) dX3_readTest_140
def fX3_readRule_J23   (vc : St) (vlw : St) : Option (St × St) := lett (fX1_failHere vc 1) fun z1 => some (z1, vlw)
def fX3_readRule_J131   (vc : St) (vlw : St) (x2 : Int32) : Option (St × St) := gd x2 16 <| lett (st vlw 3 (ix x2) (vlw 7 0)) fun u2 => lett (st u2 4 0 (x2 + 1)) fun u3 => some (vc, u3)
def fX3_readRule_J93 (utp : St)  (vc : St) (vlw : St) (x2 : Int32) : Option (St × St) := gd x2 16 <| lett (st vlw 2 (ix x2) (vlw 7 0)) fun u5 => (fX1_take vc utp 40).bind fun z6 => if z6.1 = 0 then fX3_readRule_J131 z6.2 u5 x2 else (fX3_readCondition (fX3_readTest 8) z6.2 utp u5 1).bind fun z8 => (fX1_take z8.1 utp 41).bind fun z9 => fX3_readRule_J131 z9.2 z8.2 x2
def fX3_readRule  (uc : St) (utp : St) (ulw : St) (p2 : Int32) : Option (St × St) := lett (uc 3 0) fun t11 => if t11 = (-1) then fX3_readRule_J23 uc ulw else (fJ0_indexOf_0f7a4 0 (ji2c t11)).bind fun z13 => if 0 ≤ z13 then if p2 < 16 then (fX1_next uc utp).bind fun z16 => gd p2 16 <| lett (st ulw 0 (ix p2) t11) fun u17 => gd p2 16 <| lett (st u17 1 (ix p2) (u17 7 0)) fun u18 => if t11 = 103 then fX3_readRule_J93 utp z16 u18 p2 else if t11 = 114 then fX3_readRule_J93 utp z16 u18 p2 else (fX3_readSum 8 z16 utp u18 0).bind fun z21 => fX3_readRule_J93 utp z21.1 z21.2 p2 else lett (fX1_failHere uc 4) fun z24 => some (z24, ulw) else fX3_readRule_J23 uc ulw
set_option maxHeartbeats 4000000 in
set_option maxRecDepth 100000 in
theorem mX3_readRule (l : Launch) (D : va_G) (T : Ty3) (kv : (Nat → Nat) × (Nat → Nat)) (h : Nat) (a : Nat → Nat) (u : St) (ac : Nat → Nat) (uc : St) (atp : Nat → Nat) (utp : St) (hlw : Nat) (alw : Nat → Nat) (ulw : St) (sz : Nat) (p2 : Int32) (res : St × St) (hf : fX3_readRule uc utp ulw p2 = some res) : Met l yX3_readRule wsX3_readRule ({ frames := 56, cells := 0, slots := 0, locals := 1330 }) (PcMS D T kv (kX3 T h a u ++ kX1 T (a 0) ac uc ++ kX8 T (ac 0) atp utp ++ kX2 T hlw alw ulw) sz [.ref h, .ref hlw, .int p2]) (QMv D (kX3 T h a u ++ kX1 T (a 0) ac uc ++ kX8 T (ac 0) atp utp ++ kX2 T hlw alw ulw) sz (kX3 T h a u ++ kX1 T (a 0) ac res.1 ++ kX8 T (ac 0) atp utp ++ kX2 T hlw alw res.2)) 0 0 (va_A (kX3 T h a u ++ kX1 T (a 0) ac uc ++ kX8 T (ac 0) atp utp ++ kX2 T hlw alw ulw) sz) := by
  refine Met.ofW (cc := cX3_readRule) (maxL := 4) (ret := none) (by decide) rfl ?_
  intro p e s m args below meth c s₁ B hml hv
  obtain ⟨rfl, hsz, hP, hK, hD0, hE⟩ := hv
  have hx := B.exec
  have hb := B.bytes
  have hr := B.returns
  have hts := atoms_spec (ws := wsX3_readRule) B.pre
  have hown : s.vm.findClass RX3 = some m.cls := findClass_of_methodNamed B.named
  have hlocks := B.notSynchronized
  subst hsz
  have hD := hD0.self (sz := s.heap.size)
  have hA : ∀ q : Nat, s.heap.size ≤ q → va_A (kX3 T h a u ++ kX1 T (a 0) ac uc ++ kX8 T (ac 0) atp utp ++ kX2 T hlw alw ulw) s.heap.size q := fun q h => Or.inr h
  have hS : va_S (va_A (kX3 T h a u ++ kX1 T (a 0) ac uc ++ kX8 T (ac 0) atp utp ++ kX2 T hlw alw ulw) s.heap.size) s.heap s.heap [] := va_S.rf
  have hinX3 : ∀ w ∈ u_ws RX3 TX3 1, w ∈ wsX3_readRule := fun w h => List.mem_cons_of_mem _ (List.mem_append_left _ (List.mem_append_left _ (List.mem_append_left _ (List.mem_append_right _ h))))
  have hinX1 : ∀ w ∈ u_ws RX1 TX1 5, w ∈ wsX3_readRule := fun w h => List.mem_cons_of_mem _ (List.mem_append_left _ (List.mem_append_left _ (List.mem_append_right _ h)))
  have hinX2 : ∀ w ∈ u_ws RX2 TX2 10, w ∈ wsX3_readRule := fun w h => List.mem_cons_of_mem _ (List.mem_append_left _ (List.mem_append_right _ h))
  have hinX8 : ∀ w ∈ u_ws RX8 TX8 2, w ∈ wsX3_readRule := fun w h => List.mem_cons_of_mem _ (List.mem_append_right _ h)
  have hl := lv_entry ([.ref h, .ref hlw, .int p2]) (n := 4) (Nat.le_of_ble_eq_true rfl)
  rw [lg_entry_eq]
  generalize (lg_sl ([.ref h, .ref hlw, .int p2]) ++ List.replicate (4 - (lg_sl ([.ref h, .ref hlw, .int p2])).length) Slot.unset).toArray = ls at hl ⊢
  have hl : lv_has ls 4 [(0, .ref h), (1, .ref hlw), (2, .int p2)] := hl
  have J23 : ∀ (vc : St) (vlw : St) (H : Heap) (locs : List Loc) (ls : Array Slot), fX3_readRule_J23  vc vlw = some res → va_P D vwCl (kX3 T h a u ++ kX1 T (a 0) ac vc ++ kX8 T (ac 0) atp utp ++ kX2 T hlw alw vlw) H → va_D (va_A (kX3 T h a u ++ kX1 T (a 0) ac uc ++ kX8 T (ac 0) atp utp ++ kX2 T hlw alw ulw) s.heap.size) (kX3 T h a u ++ kX1 T (a 0) ac vc ++ kX8 T (ac 0) atp utp ++ kX2 T hlw alw vlw) → va_S (va_A (kX3 T h a u ++ kX1 T (a 0) ac uc ++ kX8 T (ac 0) atp utp ++ kX2 T hlw alw ulw) s.heap.size) s.heap H locs → lv_has ls 4 [(0, .ref h)] → W p l e (headSpec wsX3_readRule ({ frames := 56, cells := 0, slots := 0, locals := 1330 })).room s m ([.ref h, .ref hlw, .int p2] : List Value).toArray below meth c H locs 0 0 (MQ below (QMv D (kX3 T h a u ++ kX1 T (a 0) ac uc ++ kX8 T (ac 0) atp utp ++ kX2 T hlw alw ulw) s.heap.size (kX3 T h a u ++ kX1 T (a 0) ac res.1 ++ kX8 T (ac 0) atp utp ++ kX2 T hlw alw res.2)) ([.ref h, .ref hlw, .int p2] : List Value).toArray s 0 0 (va_A (kX3 T h a u ++ kX1 T (a 0) ac uc ++ kX8 T (ac 0) atp utp ++ kX2 T hlw alw ulw) s.heap.size)) (F0 m 23 ls []) := by
    intro vc vlw H locs ls hf hP hD hS hl
    unfold fX3_readRule_J23 at hf
    refine lv_aload_n hx hb dX3_readRule_23 rfl (lv_at hl 0 rfl) ?_
    refine va_get (D := D) (ci := 3) (v := .ref (a 0)) (C := RX3) (T := TX3) (N := 1) hx hb hts hinX3 hown hK.1 hP 0 rfl rfl 0 (by decide) (hts (.fieldLink RX3 9 "RopeScale$LawReader" "cursor" "LRopeScale$Cursor;") (List.mem_of_getElem? (i := 1) rfl)) (fun _ h9 => h9) rfl dX3_readRule_24 ?_
    refine lv_iconst (v := 1) hx hb dX3_readRule_27 (by decide) ?_
    obtain ⟨z1, hz1, hf⟩ := lett_e hf
    have hPc := hP.sub (ws' := kX1 T (a 0) ac vc) [1] rfl
    have hDc := hD.sub (ws' := kX1 T (a 0) ac vc) [1] (by decide) rfl
    have hFc9 := va_free (wc := kX1 T (a 0) ac vc) hD hS hA [1] rfl
    refine cVMv (As := [.int 1]) (rest := []) ⟨hx, hb, hml, hown, hts⟩ (mX1_failHere l D T (a 0) ac vc _ 1 z1 hz1.symm) (cwV 1 hts gX3_readRule_X1_failHere rfl rfl rfl (by decide +kernel) ⟨Nat.le_of_ble_eq_true rfl, Nat.le_of_ble_eq_true rfl⟩) (va_recv hK.1 hP (ci := 1) (q0 := 1) rfl rfl) hPc hK rfl hl.1 rfl (Nat.le_of_ble_eq_true rfl) dX3_readRule_28 ⟨Nat.le_of_ble_eq_true rfl, Nat.le_of_ble_eq_true rfl⟩ hDc hFc9 hS (fun H9 locs hP1 hD1 hk1 hS => ?_)
    obtain ⟨hP, hD⟩ := putAll_P (w1 := kX1 T (a 0) ac z1) hP hD [1] rfl (by decide) hk1 hP1 rfl
    generalize H9 = H at hP hS ⊢
    have hP : va_P D vwCl (kX3 T h a u ++ kX1 T (a 0) ac z1 ++ kX8 T (ac 0) atp utp ++ kX2 T hlw alw vlw) H := by exact hP
    have hD : va_D (va_A (kX3 T h a u ++ kX1 T (a 0) ac uc ++ kX8 T (ac 0) atp utp ++ kX2 T hlw alw ulw) s.heap.size) (kX3 T h a u ++ kX1 T (a 0) ac z1 ++ kX8 T (ac 0) atp utp ++ kX2 T hlw alw vlw) := by exact hD
    refine lv_goto (tgt := 148) hx hb dX3_readRule_31 (by decide) ?_
    have e9 := Option.some.inj hf
    exact retMv hx hb hr hlocks hP hD hS (congrArg (fun z => (kX3 T h a u ++ kX1 T (a 0) ac z.1 ++ kX8 T (ac 0) atp utp ++ kX2 T hlw alw z.2 : va_W)) e9) dX3_readRule_148
  have J131 : ∀ (vc : St) (vlw : St) (x2 : Int32) (H : Heap) (locs : List Loc) (ls : Array Slot), fX3_readRule_J131  vc vlw x2 = some res → va_P D vwCl (kX3 T h a u ++ kX1 T (a 0) ac vc ++ kX8 T (ac 0) atp utp ++ kX2 T hlw alw vlw) H → va_D (va_A (kX3 T h a u ++ kX1 T (a 0) ac uc ++ kX8 T (ac 0) atp utp ++ kX2 T hlw alw ulw) s.heap.size) (kX3 T h a u ++ kX1 T (a 0) ac vc ++ kX8 T (ac 0) atp utp ++ kX2 T hlw alw vlw) → va_S (va_A (kX3 T h a u ++ kX1 T (a 0) ac uc ++ kX8 T (ac 0) atp utp ++ kX2 T hlw alw ulw) s.heap.size) s.heap H locs → lv_has ls 4 [(1, .ref hlw), (2, .int x2)] → W p l e (headSpec wsX3_readRule ({ frames := 56, cells := 0, slots := 0, locals := 1330 })).room s m ([.ref h, .ref hlw, .int p2] : List Value).toArray below meth c H locs 0 0 (MQ below (QMv D (kX3 T h a u ++ kX1 T (a 0) ac uc ++ kX8 T (ac 0) atp utp ++ kX2 T hlw alw ulw) s.heap.size (kX3 T h a u ++ kX1 T (a 0) ac res.1 ++ kX8 T (ac 0) atp utp ++ kX2 T hlw alw res.2)) ([.ref h, .ref hlw, .int p2] : List Value).toArray s 0 0 (va_A (kX3 T h a u ++ kX1 T (a 0) ac uc ++ kX8 T (ac 0) atp utp ++ kX2 T hlw alw ulw) s.heap.size)) (F0 m 131 ls []) := by
    intro vc vlw x2 H locs ls hf hP hD hS hl
    unfold fX3_readRule_J131 at hf
    refine lv_aload_n hx hb dX3_readRule_131 rfl (lv_at hl 0 rfl) ?_
    refine va_get (D := D) (ci := 2) (v := .ref (alw 3)) (C := RX2) (T := TX2) (N := 10) hx hb hts hinX2 hown hK.1 hP 4 rfl rfl 3 (by decide) (hts (.fieldLink RX3 71 "RopeScale$Law" "endOfC" "[I") (List.mem_of_getElem? (i := 7) rfl)) (fun _ h9 => h9) rfl dX3_readRule_132 ?_
    refine lv_iload_n hx hb dX3_readRule_135 rfl (lv_at hl 1 rfl) ?_
    refine lv_aload_n hx hb dX3_readRule_136 rfl (lv_at hl 0 rfl) ?_
    refine va_get (D := D) (ci := 2) (v := .int (vlw 7 0)) (C := RX2) (T := TX2) (N := 10) hx hb hts hinX2 hown hK.1 hP 4 rfl rfl 7 (by decide) (hts (.fieldLink RX3 56 "RopeScale$Law" "length" "I") (List.mem_of_getElem? (i := 5) rfl)) (fun _ h9 => h9) rfl dX3_readRule_137 ?_
    obtain ⟨h4, hf⟩ := gd_e hf
    obtain ⟨u2, eu2, hf⟩ := lett_e hf
    refine va_iast hx hb hK.1 hP hD hS 8 0 rfl rfl h4 dX3_readRule_140 (fun H locs hP hD hS => ?_)
    have hP : va_P D vwCl (kX3 T h a u ++ kX1 T (a 0) ac vc ++ kX8 T (ac 0) atp utp ++ kX2 T hlw alw u2) H := by rw [eu2]; exact hP
    have hD : va_D (va_A (kX3 T h a u ++ kX1 T (a 0) ac uc ++ kX8 T (ac 0) atp utp ++ kX2 T hlw alw ulw) s.heap.size) (kX3 T h a u ++ kX1 T (a 0) ac vc ++ kX8 T (ac 0) atp utp ++ kX2 T hlw alw u2) := by rw [eu2]; exact hD
    refine lv_aload_n hx hb dX3_readRule_141 rfl (lv_at hl 0 rfl) ?_
    refine lv_iload_n hx hb dX3_readRule_142 rfl (lv_at hl 1 rfl) ?_
    refine lv_iconst (v := 1) hx hb dX3_readRule_143 (by decide) ?_
    refine lv_iadd hx hb dX3_readRule_144 ?_
    obtain ⟨u3, eu3, hf⟩ := lett_e hf
    refine va_put (D := D) (ci := 2) (v := .int (x2 + 1)) (ty := .int) (C := RX2) (T := TX2) (N := 10) hx hb hts hinX2 tyX2 tyX2_ok nmX2 hown hK.1 hP hD hS 4 rfl rfl 4 (by decide) (hts (.fieldLink RX3 74 "RopeScale$Law" "rules" "I") (List.mem_of_getElem? (i := 8) rfl)) (fun _ h9 => h9) rfl (tyX2_ok 4 (by decide)) rfl rfl (Nat.le_of_ble_eq_true rfl) dX3_readRule_145 (fun H locs hP hD hS => ?_)
    have hP : va_P D vwCl (kX3 T h a u ++ kX1 T (a 0) ac vc ++ kX8 T (ac 0) atp utp ++ kX2 T hlw alw u3) H := by rw [eu3]; exact hP
    have hD : va_D (va_A (kX3 T h a u ++ kX1 T (a 0) ac uc ++ kX8 T (ac 0) atp utp ++ kX2 T hlw alw ulw) s.heap.size) (kX3 T h a u ++ kX1 T (a 0) ac vc ++ kX8 T (ac 0) atp utp ++ kX2 T hlw alw u3) := by rw [eu3]; exact hD
    have e9 := Option.some.inj hf
    exact retMv hx hb hr hlocks hP hD hS (congrArg (fun z => (kX3 T h a u ++ kX1 T (a 0) ac z.1 ++ kX8 T (ac 0) atp utp ++ kX2 T hlw alw z.2 : va_W)) e9) dX3_readRule_148
  have J93 : ∀ (vc : St) (vlw : St) (x2 : Int32) (H : Heap) (locs : List Loc) (ls : Array Slot), fX3_readRule_J93 utp vc vlw x2 = some res → va_P D vwCl (kX3 T h a u ++ kX1 T (a 0) ac vc ++ kX8 T (ac 0) atp utp ++ kX2 T hlw alw vlw) H → va_D (va_A (kX3 T h a u ++ kX1 T (a 0) ac uc ++ kX8 T (ac 0) atp utp ++ kX2 T hlw alw ulw) s.heap.size) (kX3 T h a u ++ kX1 T (a 0) ac vc ++ kX8 T (ac 0) atp utp ++ kX2 T hlw alw vlw) → va_S (va_A (kX3 T h a u ++ kX1 T (a 0) ac uc ++ kX8 T (ac 0) atp utp ++ kX2 T hlw alw ulw) s.heap.size) s.heap H locs → lv_has ls 4 [(0, .ref h), (1, .ref hlw), (2, .int x2)] → W p l e (headSpec wsX3_readRule ({ frames := 56, cells := 0, slots := 0, locals := 1330 })).room s m ([.ref h, .ref hlw, .int p2] : List Value).toArray below meth c H locs 0 0 (MQ below (QMv D (kX3 T h a u ++ kX1 T (a 0) ac uc ++ kX8 T (ac 0) atp utp ++ kX2 T hlw alw ulw) s.heap.size (kX3 T h a u ++ kX1 T (a 0) ac res.1 ++ kX8 T (ac 0) atp utp ++ kX2 T hlw alw res.2)) ([.ref h, .ref hlw, .int p2] : List Value).toArray s 0 0 (va_A (kX3 T h a u ++ kX1 T (a 0) ac uc ++ kX8 T (ac 0) atp utp ++ kX2 T hlw alw ulw) s.heap.size)) (F0 m 93 ls []) := by
    intro vc vlw x2 H locs ls hf hP hD hS hl
    unfold fX3_readRule_J93 at hf
    refine lv_aload_n hx hb dX3_readRule_93 rfl (lv_at hl 1 rfl) ?_
    refine va_get (D := D) (ci := 2) (v := .ref (alw 2)) (C := RX2) (T := TX2) (N := 10) hx hb hts hinX2 hown hK.1 hP 4 rfl rfl 2 (by decide) (hts (.fieldLink RX3 62 "RopeScale$Law" "startOfC" "[I") (List.mem_of_getElem? (i := 6) rfl)) (fun _ h9 => h9) rfl dX3_readRule_94 ?_
    refine lv_iload_n hx hb dX3_readRule_97 rfl (lv_at hl 2 rfl) ?_
    refine lv_aload_n hx hb dX3_readRule_98 rfl (lv_at hl 1 rfl) ?_
    refine va_get (D := D) (ci := 2) (v := .int (vlw 7 0)) (C := RX2) (T := TX2) (N := 10) hx hb hts hinX2 hown hK.1 hP 4 rfl rfl 7 (by decide) (hts (.fieldLink RX3 56 "RopeScale$Law" "length" "I") (List.mem_of_getElem? (i := 5) rfl)) (fun _ h9 => h9) rfl dX3_readRule_99 ?_
    obtain ⟨h10, hf⟩ := gd_e hf
    obtain ⟨u5, eu5, hf⟩ := lett_e hf
    refine va_iast hx hb hK.1 hP hD hS 7 0 rfl rfl h10 dX3_readRule_102 (fun H locs hP hD hS => ?_)
    have hP : va_P D vwCl (kX3 T h a u ++ kX1 T (a 0) ac vc ++ kX8 T (ac 0) atp utp ++ kX2 T hlw alw u5) H := by rw [eu5]; exact hP
    have hD : va_D (va_A (kX3 T h a u ++ kX1 T (a 0) ac uc ++ kX8 T (ac 0) atp utp ++ kX2 T hlw alw ulw) s.heap.size) (kX3 T h a u ++ kX1 T (a 0) ac vc ++ kX8 T (ac 0) atp utp ++ kX2 T hlw alw u5) := by rw [eu5]; exact hD
    refine lv_aload_n hx hb dX3_readRule_103 rfl (lv_at hl 0 rfl) ?_
    refine va_get (D := D) (ci := 3) (v := .ref (a 0)) (C := RX3) (T := TX3) (N := 1) hx hb hts hinX3 hown hK.1 hP 0 rfl rfl 0 (by decide) (hts (.fieldLink RX3 9 "RopeScale$LawReader" "cursor" "LRopeScale$Cursor;") (List.mem_of_getElem? (i := 1) rfl)) (fun _ h9 => h9) rfl dX3_readRule_104 ?_
    refine lv_bipush (v := 40) hx hb dX3_readRule_107 (by decide) ?_
    obtain ⟨z6, hz6, hf⟩ := bnd hf
    have hPc := hP.sub (ws' := kX1 T (a 0) ac vc ++ kX8 T (ac 0) atp utp) [1, 2, 3] rfl
    have hDc := hD.sub (ws' := kX1 T (a 0) ac vc ++ kX8 T (ac 0) atp utp) [1, 2, 3] (by decide) rfl
    have hFc9 := va_free (wc := kX1 T (a 0) ac vc ++ kX8 T (ac 0) atp utp) hD hS hA [1, 2, 3] rfl
    refine cVM (As := [.int 40]) (rest := []) ⟨hx, hb, hml, hown, hts⟩ (mX1_take l D T (a 0) ac vc atp utp _ 40 z6 hz6) (cwV 1 hts gX3_readRule_X1_take rfl rfl rfl (by decide +kernel) ⟨Nat.le_of_ble_eq_true rfl, Nat.le_of_ble_eq_true rfl⟩) (va_recv hK.1 hP (ci := 1) (q0 := 1) rfl rfl) hPc hK rfl hl.1 rfl (Nat.le_of_ble_eq_true rfl) dX3_readRule_109 ⟨Nat.le_of_ble_eq_true rfl, Nat.le_of_ble_eq_true rfl⟩ hDc hFc9 hS (fun H9 locs hP1 hD1 hk1 hS => ?_)
    obtain ⟨hP, hD⟩ := putAll_P (w1 := kX1 T (a 0) ac z6.2 ++ kX8 T (ac 0) atp utp) hP hD [1, 2, 3] rfl (by decide) hk1 hP1 rfl
    generalize H9 = H at hP hS ⊢
    have hP : va_P D vwCl (kX3 T h a u ++ kX1 T (a 0) ac z6.2 ++ kX8 T (ac 0) atp utp ++ kX2 T hlw alw u5) H := by exact hP
    have hD : va_D (va_A (kX3 T h a u ++ kX1 T (a 0) ac uc ++ kX8 T (ac 0) atp utp ++ kX2 T hlw alw ulw) s.heap.size) (kX3 T h a u ++ kX1 T (a 0) ac z6.2 ++ kX8 T (ac 0) atp utp ++ kX2 T hlw alw u5) := by exact hD
    refine lv_if_eq (tgt := 131) hx hb dX3_readRule_112 (by decide) (fun c7 => ?_) (fun c7 => ?_)
    · replace hf := ifp c7 hf
      exact J131 z6.2 u5 x2 _ _ _ hf hP hD hS (lv_sub hl [1, 2] rfl)
    replace hf := ifn c7 hf
    refine lv_aload_n hx hb dX3_readRule_115 rfl (lv_at hl 0 rfl) ?_
    refine lv_aload_n hx hb dX3_readRule_116 rfl (lv_at hl 1 rfl) ?_
    refine lv_iconst (v := 1) hx hb dX3_readRule_117 (by decide) ?_
    obtain ⟨z8, hz8, hf⟩ := bnd hf
    have hFc9 := vaA_self hD hS hA
    refine cVMvS (As := [.ref hlw, .int 1]) (rest := []) ⟨hx, hb, hml, hown, hts⟩ (mX3_readCondition l D T kv 8 (fX3_readTest 8) (mX3_readTest l D T kv 8) h a u ac z6.2 atp utp hlw alw u5 _ 1 z8 hz8) (cwV 2 hts gX3_readRule_X3_readCondition rfl rfl rfl (by decide +kernel) ⟨Nat.le_of_ble_eq_true rfl, Nat.le_of_ble_eq_true rfl⟩) (va_recv hK.1 hP (ci := 3) (q0 := 0) rfl rfl) hP hK rfl hl.1 rfl (Nat.le_of_ble_eq_true rfl) dX3_readRule_118 ⟨Nat.le_of_ble_eq_true rfl, Nat.le_of_ble_eq_true rfl⟩ hD hFc9 hE hS (fun H locs hP hD1 _ hS => ?_)
    have hD := hD1.weaken (fun _ _ _ h9 => hFc9 _ h9)
    refine lv_aload_n hx hb dX3_readRule_121 rfl (lv_at hl 0 rfl) ?_
    refine va_get (D := D) (ci := 3) (v := .ref (a 0)) (C := RX3) (T := TX3) (N := 1) hx hb hts hinX3 hown hK.1 hP 0 rfl rfl 0 (by decide) (hts (.fieldLink RX3 9 "RopeScale$LawReader" "cursor" "LRopeScale$Cursor;") (List.mem_of_getElem? (i := 1) rfl)) (fun _ h9 => h9) rfl dX3_readRule_122 ?_
    refine lv_bipush (v := 41) hx hb dX3_readRule_125 (by decide) ?_
    obtain ⟨z9, hz9, hf⟩ := bnd hf
    have hPc := hP.sub (ws' := kX1 T (a 0) ac z8.1 ++ kX8 T (ac 0) atp utp) [1, 2, 3] rfl
    have hDc := hD.sub (ws' := kX1 T (a 0) ac z8.1 ++ kX8 T (ac 0) atp utp) [1, 2, 3] (by decide) rfl
    have hFc9 := va_free (wc := kX1 T (a 0) ac z8.1 ++ kX8 T (ac 0) atp utp) hD hS hA [1, 2, 3] rfl
    refine cVM (As := [.int 41]) (rest := []) ⟨hx, hb, hml, hown, hts⟩ (mX1_take l D T (a 0) ac z8.1 atp utp _ 41 z9 hz9) (cwV 1 hts gX3_readRule_X1_take rfl rfl rfl (by decide +kernel) ⟨Nat.le_of_ble_eq_true rfl, Nat.le_of_ble_eq_true rfl⟩) (va_recv hK.1 hP (ci := 1) (q0 := 1) rfl rfl) hPc hK rfl hl.1 rfl (Nat.le_of_ble_eq_true rfl) dX3_readRule_127 ⟨Nat.le_of_ble_eq_true rfl, Nat.le_of_ble_eq_true rfl⟩ hDc hFc9 hS (fun H9 locs hP1 hD1 hk1 hS => ?_)
    obtain ⟨hP, hD⟩ := putAll_P (w1 := kX1 T (a 0) ac z9.2 ++ kX8 T (ac 0) atp utp) hP hD [1, 2, 3] rfl (by decide) hk1 hP1 rfl
    generalize H9 = H at hP hS ⊢
    have hP : va_P D vwCl (kX3 T h a u ++ kX1 T (a 0) ac z9.2 ++ kX8 T (ac 0) atp utp ++ kX2 T hlw alw z8.2) H := by exact hP
    have hD : va_D (va_A (kX3 T h a u ++ kX1 T (a 0) ac uc ++ kX8 T (ac 0) atp utp ++ kX2 T hlw alw ulw) s.heap.size) (kX3 T h a u ++ kX1 T (a 0) ac z9.2 ++ kX8 T (ac 0) atp utp ++ kX2 T hlw alw z8.2) := by exact hD
    refine lv_pop hx hb dX3_readRule_130 rfl ?_
    exact J131 z9.2 z8.2 x2 _ _ _ hf hP hD hS (lv_sub hl [1, 2] rfl)
  unfold fX3_readRule at hf
  refine lv_aload_n hx hb dX3_readRule_0 rfl (lv_at hl 0 rfl) ?_
  refine va_get (D := D) (ci := 3) (v := .ref (a 0)) (C := RX3) (T := TX3) (N := 1) hx hb hts hinX3 hown hK.1 hP 0 rfl rfl 0 (by decide) (hts (.fieldLink RX3 9 "RopeScale$LawReader" "cursor" "LRopeScale$Cursor;") (List.mem_of_getElem? (i := 1) rfl)) (fun _ h9 => h9) rfl dX3_readRule_1 ?_
  refine va_get (D := D) (ci := 1) (v := .int (uc 3 0)) (C := RX1) (T := TX1) (N := 5) hx hb hts hinX1 hown hK.1 hP 1 rfl rfl 3 (by decide) (hts (.fieldLink RX3 30 "RopeScale$Cursor" "sign" "I") (List.mem_of_getElem? (i := 2) rfl)) (fun _ h9 => h9) rfl dX3_readRule_4 ?_
  obtain ⟨t11, et11, hf⟩ := lett_e hf
  refine lv_eqi et11 ?_
  refine lv_istore_n (lv' := [(3, .int t11), (0, .ref h), (1, .ref hlw), (2, .int p2)]) hx hb dX3_readRule_7 rfl hl (by decide) rfl (fun ls hl => ?_)
  refine lv_iload_n hx hb dX3_readRule_8 rfl (lv_at hl 0 rfl) ?_
  refine lv_iconst (v := (-1)) hx hb dX3_readRule_9 (by decide) ?_
  refine lv_icmp_eq (tgt := 23) hx hb dX3_readRule_10 (by decide) (fun c12 => ?_) (fun c12 => ?_)
  · replace hf := ifp c12 hf
    exact J23 uc ulw _ _ _ hf hP hD hS (lv_sub hl [1] rfl)
  replace hf := ifn c12 hf
  refine va_ldcS hx hb hown hE.2.2.1 dX3_readRule_13 ?_
  refine lv_iload_n hx hb dX3_readRule_15 rfl (lv_at hl 0 rfl) ?_
  refine lv_i2c hx hb dX3_readRule_16 rfl ?_
  obtain ⟨z13, hz13, hf⟩ := bnd hf
  refine cVRS (As := [.int (ji2c t11)]) (rest := []) ⟨hx, hb, hml, hown, hts⟩ (mJ0_indexOf_0f7a4 l D T kv 0 (by decide) (ji2c t11) z13 hz13) (cwV 1 hts gX3_readRule_J0_indexOf_0f7a4 rfl rfl rfl (by decide +kernel) ⟨Nat.le_of_ble_eq_true rfl, Nat.le_of_ble_eq_true rfl⟩) (vk_recv hE.1 (by decide) hS) P0 hK rfl hl.1 rfl (Nat.le_of_ble_eq_true rfl) dX3_readRule_17 ⟨Nat.le_of_ble_eq_true rfl, Nat.le_of_ble_eq_true rfl⟩ hE hP hS (fun H locs hP hS => ?_)
  refine lv_if_ge (tgt := 34) hx hb dX3_readRule_20 (by decide) (fun c14 => ?_) (fun c14 => ?_)
  · replace hf := ifp c14 hf
    refine lv_iload_n hx hb dX3_readRule_34 rfl (lv_at hl 3 rfl) ?_
    refine lv_bipush (v := 16) hx hb dX3_readRule_35 (by decide) ?_
    refine lv_icmp_lt (tgt := 51) hx hb dX3_readRule_37 (by decide) (fun c15 => ?_) (fun c15 => ?_)
    · replace hf := ifp c15 hf
      refine lv_aload_n hx hb dX3_readRule_51 rfl (lv_at hl 1 rfl) ?_
      refine va_get (D := D) (ci := 3) (v := .ref (a 0)) (C := RX3) (T := TX3) (N := 1) hx hb hts hinX3 hown hK.1 hP 0 rfl rfl 0 (by decide) (hts (.fieldLink RX3 9 "RopeScale$LawReader" "cursor" "LRopeScale$Cursor;") (List.mem_of_getElem? (i := 1) rfl)) (fun _ h9 => h9) rfl dX3_readRule_52 ?_
      obtain ⟨z16, hz16, hf⟩ := bnd hf
      have hPc := hP.sub (ws' := kX1 T (a 0) ac uc ++ kX8 T (ac 0) atp utp) [1, 2, 3] rfl
      have hDc := hD.sub (ws' := kX1 T (a 0) ac uc ++ kX8 T (ac 0) atp utp) [1, 2, 3] (by decide) rfl
      have hFc9 := va_free (wc := kX1 T (a 0) ac uc ++ kX8 T (ac 0) atp utp) hD hS hA [1, 2, 3] rfl
      refine cVMv (As := []) (rest := []) ⟨hx, hb, hml, hown, hts⟩ (mX1_next l D T (a 0) ac uc atp utp _ z16 hz16) (cwV 0 hts gX3_readRule_X1_next rfl rfl rfl (by decide +kernel) ⟨Nat.le_of_ble_eq_true rfl, Nat.le_of_ble_eq_true rfl⟩) (va_recv hK.1 hP (ci := 1) (q0 := 1) rfl rfl) hPc hK rfl hl.1 rfl (Nat.le_of_ble_eq_true rfl) dX3_readRule_55 ⟨Nat.le_of_ble_eq_true rfl, Nat.le_of_ble_eq_true rfl⟩ hDc hFc9 hS (fun H9 locs hP1 hD1 hk1 hS => ?_)
      obtain ⟨hP, hD⟩ := putAll_P (w1 := kX1 T (a 0) ac z16 ++ kX8 T (ac 0) atp utp) hP hD [1, 2, 3] rfl (by decide) hk1 hP1 rfl
      generalize H9 = H at hP hS ⊢
      have hP : va_P D vwCl (kX3 T h a u ++ kX1 T (a 0) ac z16 ++ kX8 T (ac 0) atp utp ++ kX2 T hlw alw ulw) H := by exact hP
      have hD : va_D (va_A (kX3 T h a u ++ kX1 T (a 0) ac uc ++ kX8 T (ac 0) atp utp ++ kX2 T hlw alw ulw) s.heap.size) (kX3 T h a u ++ kX1 T (a 0) ac z16 ++ kX8 T (ac 0) atp utp ++ kX2 T hlw alw ulw) := by exact hD
      refine lv_aload_n hx hb dX3_readRule_58 rfl (lv_at hl 2 rfl) ?_
      refine va_get (D := D) (ci := 2) (v := .ref (alw 0)) (C := RX2) (T := TX2) (N := 10) hx hb hts hinX2 hown hK.1 hP 4 rfl rfl 0 (by decide) (hts (.fieldLink RX3 49 "RopeScale$Law" "kind" "[I") (List.mem_of_getElem? (i := 3) rfl)) (fun _ h9 => h9) rfl dX3_readRule_59 ?_
      refine lv_iload_n hx hb dX3_readRule_62 rfl (lv_at hl 3 rfl) ?_
      refine lv_iload_n hx hb dX3_readRule_63 rfl (lv_at hl 0 rfl) ?_
      obtain ⟨h23, hf⟩ := gd_e hf
      obtain ⟨u17, eu17, hf⟩ := lett_e hf
      refine va_iast hx hb hK.1 hP hD hS 5 0 rfl rfl h23 dX3_readRule_64 (fun H locs hP hD hS => ?_)
      have hP : va_P D vwCl (kX3 T h a u ++ kX1 T (a 0) ac z16 ++ kX8 T (ac 0) atp utp ++ kX2 T hlw alw u17) H := by rw [eu17]; exact hP
      have hD : va_D (va_A (kX3 T h a u ++ kX1 T (a 0) ac uc ++ kX8 T (ac 0) atp utp ++ kX2 T hlw alw ulw) s.heap.size) (kX3 T h a u ++ kX1 T (a 0) ac z16 ++ kX8 T (ac 0) atp utp ++ kX2 T hlw alw u17) := by rw [eu17]; exact hD
      refine lv_aload_n hx hb dX3_readRule_65 rfl (lv_at hl 2 rfl) ?_
      refine va_get (D := D) (ci := 2) (v := .ref (alw 1)) (C := RX2) (T := TX2) (N := 10) hx hb hts hinX2 hown hK.1 hP 4 rfl rfl 1 (by decide) (hts (.fieldLink RX3 53 "RopeScale$Law" "startOfE" "[I") (List.mem_of_getElem? (i := 4) rfl)) (fun _ h9 => h9) rfl dX3_readRule_66 ?_
      refine lv_iload_n hx hb dX3_readRule_69 rfl (lv_at hl 3 rfl) ?_
      refine lv_aload_n hx hb dX3_readRule_70 rfl (lv_at hl 2 rfl) ?_
      refine va_get (D := D) (ci := 2) (v := .int (u17 7 0)) (C := RX2) (T := TX2) (N := 10) hx hb hts hinX2 hown hK.1 hP 4 rfl rfl 7 (by decide) (hts (.fieldLink RX3 56 "RopeScale$Law" "length" "I") (List.mem_of_getElem? (i := 5) rfl)) (fun _ h9 => h9) rfl dX3_readRule_71 ?_
      obtain ⟨h22, hf⟩ := gd_e hf
      obtain ⟨u18, eu18, hf⟩ := lett_e hf
      refine va_iast hx hb hK.1 hP hD hS 6 0 rfl rfl h22 dX3_readRule_74 (fun H locs hP hD hS => ?_)
      have hP : va_P D vwCl (kX3 T h a u ++ kX1 T (a 0) ac z16 ++ kX8 T (ac 0) atp utp ++ kX2 T hlw alw u18) H := by rw [eu18]; exact hP
      have hD : va_D (va_A (kX3 T h a u ++ kX1 T (a 0) ac uc ++ kX8 T (ac 0) atp utp ++ kX2 T hlw alw ulw) s.heap.size) (kX3 T h a u ++ kX1 T (a 0) ac z16 ++ kX8 T (ac 0) atp utp ++ kX2 T hlw alw u18) := by rw [eu18]; exact hD
      refine lv_iload_n hx hb dX3_readRule_75 rfl (lv_at hl 0 rfl) ?_
      refine lv_bipush (v := 103) hx hb dX3_readRule_76 (by decide) ?_
      refine lv_icmp_eq (tgt := 93) hx hb dX3_readRule_78 (by decide) (fun c19 => ?_) (fun c19 => ?_)
      · replace hf := ifp c19 hf
        exact J93 z16 u18 p2 _ _ _ hf hP hD hS (lv_sub hl [1, 2, 3] rfl)
      replace hf := ifn c19 hf
      refine lv_iload_n hx hb dX3_readRule_81 rfl (lv_at hl 0 rfl) ?_
      refine lv_bipush (v := 114) hx hb dX3_readRule_82 (by decide) ?_
      refine lv_icmp_eq (tgt := 93) hx hb dX3_readRule_84 (by decide) (fun c20 => ?_) (fun c20 => ?_)
      · replace hf := ifp c20 hf
        exact J93 z16 u18 p2 _ _ _ hf hP hD hS (lv_sub hl [1, 2, 3] rfl)
      replace hf := ifn c20 hf
      refine lv_aload_n hx hb dX3_readRule_87 rfl (lv_at hl 1 rfl) ?_
      refine lv_aload_n hx hb dX3_readRule_88 rfl (lv_at hl 2 rfl) ?_
      refine lv_iconst (v := 0) hx hb dX3_readRule_89 (by decide) ?_
      obtain ⟨z21, hz21, hf⟩ := bnd hf
      have hFc9 := vaA_self hD hS hA
      refine cVMvS (As := [.ref hlw, .int 0]) (rest := []) ⟨hx, hb, hml, hown, hts⟩ (mX3_readSum l D T kv 8 h a u ac z16 atp utp hlw alw u18 _ 0 z21 hz21) (cwV 2 hts gX3_readRule_X3_readSum rfl rfl rfl (by decide +kernel) ⟨Nat.le_of_ble_eq_true rfl, Nat.le_of_ble_eq_true rfl⟩) (va_recv hK.1 hP (ci := 3) (q0 := 0) rfl rfl) hP hK rfl hl.1 rfl (Nat.le_of_ble_eq_true rfl) dX3_readRule_90 ⟨Nat.le_of_ble_eq_true rfl, Nat.le_of_ble_eq_true rfl⟩ hD hFc9 hE hS (fun H locs hP hD1 _ hS => ?_)
      have hD := hD1.weaken (fun _ _ _ h9 => hFc9 _ h9)
      exact J93 z21.1 z21.2 p2 _ _ _ hf hP hD hS (lv_sub hl [1, 2, 3] rfl)
    replace hf := ifn c15 hf
    refine lv_aload_n hx hb dX3_readRule_40 rfl (lv_at hl 1 rfl) ?_
    refine va_get (D := D) (ci := 3) (v := .ref (a 0)) (C := RX3) (T := TX3) (N := 1) hx hb hts hinX3 hown hK.1 hP 0 rfl rfl 0 (by decide) (hts (.fieldLink RX3 9 "RopeScale$LawReader" "cursor" "LRopeScale$Cursor;") (List.mem_of_getElem? (i := 1) rfl)) (fun _ h9 => h9) rfl dX3_readRule_41 ?_
    refine lv_iconst (v := 4) hx hb dX3_readRule_44 (by decide) ?_
    obtain ⟨z24, hz24, hf⟩ := lett_e hf
    have hPc := hP.sub (ws' := kX1 T (a 0) ac uc) [1] rfl
    have hDc := hD.sub (ws' := kX1 T (a 0) ac uc) [1] (by decide) rfl
    have hFc9 := va_free (wc := kX1 T (a 0) ac uc) hD hS hA [1] rfl
    refine cVMv (As := [.int 4]) (rest := []) ⟨hx, hb, hml, hown, hts⟩ (mX1_failHere l D T (a 0) ac uc _ 4 z24 hz24.symm) (cwV 1 hts gX3_readRule_X1_failHere rfl rfl rfl (by decide +kernel) ⟨Nat.le_of_ble_eq_true rfl, Nat.le_of_ble_eq_true rfl⟩) (va_recv hK.1 hP (ci := 1) (q0 := 1) rfl rfl) hPc hK rfl hl.1 rfl (Nat.le_of_ble_eq_true rfl) dX3_readRule_45 ⟨Nat.le_of_ble_eq_true rfl, Nat.le_of_ble_eq_true rfl⟩ hDc hFc9 hS (fun H9 locs hP1 hD1 hk1 hS => ?_)
    obtain ⟨hP, hD⟩ := putAll_P (w1 := kX1 T (a 0) ac z24) hP hD [1] rfl (by decide) hk1 hP1 rfl
    generalize H9 = H at hP hS ⊢
    have hP : va_P D vwCl (kX3 T h a u ++ kX1 T (a 0) ac z24 ++ kX8 T (ac 0) atp utp ++ kX2 T hlw alw ulw) H := by exact hP
    have hD : va_D (va_A (kX3 T h a u ++ kX1 T (a 0) ac uc ++ kX8 T (ac 0) atp utp ++ kX2 T hlw alw ulw) s.heap.size) (kX3 T h a u ++ kX1 T (a 0) ac z24 ++ kX8 T (ac 0) atp utp ++ kX2 T hlw alw ulw) := by exact hD
    refine lv_goto (tgt := 148) hx hb dX3_readRule_48 (by decide) ?_
    have e9 := Option.some.inj hf
    exact retMv hx hb hr hlocks hP hD hS (congrArg (fun z => (kX3 T h a u ++ kX1 T (a 0) ac z.1 ++ kX8 T (ac 0) atp utp ++ kX2 T hlw alw z.2 : va_W)) e9) dX3_readRule_148
  replace hf := ifn c14 hf
  exact J23 uc ulw _ _ _ hf hP hD hS (lv_sub hl [1] rfl)
def bX3_read_L6 (utp : St)  (lp6 : St → St → Int32 → Option (St × St)) (vc : St) (vlw : St) (x2 : Int32) : Option (St × St) := if 16 < x2 then some (vc, vlw) else (fX1_begins vc utp x2).bind fun z2 => if z2.1 = 0 then some (z2.2, vlw) else (fX3_readRule z2.2 utp vlw x2).bind fun z4 => lett (x2 + 1) fun t5 => lp6 z4.1 z4.2 t5
def fX3_read_L6 (utp : St)  : Nat → St → St → Int32 → Option (St × St)
  | 0, _, _, _ => none
  | n + 1, vc, vlw, x2 => bX3_read_L6 utp (fX3_read_L6 utp n) vc vlw x2
def fX3_read  (uc : St) (utp : St) (ulw : St)  : Option (St × St) := lett (fX2_clear ulw) fun z6 => fX3_read_L6 utp FU uc z6 0
set_option maxHeartbeats 4000000 in
set_option maxRecDepth 100000 in
theorem mX3_read (l : Launch) (D : va_G) (T : Ty3) (kv : (Nat → Nat) × (Nat → Nat)) (h : Nat) (a : Nat → Nat) (u : St) (ac : Nat → Nat) (uc : St) (atp : Nat → Nat) (utp : St) (hlw : Nat) (alw : Nat → Nat) (ulw : St) (sz : Nat)  (res : St × St) (hf : fX3_read uc utp ulw = some res) : Met l yX3_read wsX3_read ({ frames := 57, cells := 0, slots := 0, locals := 1353 }) (PcMS D T kv (kX3 T h a u ++ kX1 T (a 0) ac uc ++ kX8 T (ac 0) atp utp ++ kX2 T hlw alw ulw) sz [.ref h, .ref hlw]) (QMv D (kX3 T h a u ++ kX1 T (a 0) ac uc ++ kX8 T (ac 0) atp utp ++ kX2 T hlw alw ulw) sz (kX3 T h a u ++ kX1 T (a 0) ac res.1 ++ kX8 T (ac 0) atp utp ++ kX2 T hlw alw res.2)) 0 0 (va_A (kX3 T h a u ++ kX1 T (a 0) ac uc ++ kX8 T (ac 0) atp utp ++ kX2 T hlw alw ulw) sz) := by
  refine Met.ofW (cc := cX3_read) (maxL := 3) (ret := none) (by decide) rfl ?_
  intro p e s m args below meth c s₁ B hml hv
  obtain ⟨rfl, hsz, hP, hK, hD0, hE⟩ := hv
  have hx := B.exec
  have hb := B.bytes
  have hr := B.returns
  have hts := atoms_spec (ws := wsX3_read) B.pre
  have hown : s.vm.findClass RX3 = some m.cls := findClass_of_methodNamed B.named
  have hlocks := B.notSynchronized
  subst hsz
  have hD := hD0.self (sz := s.heap.size)
  have hA : ∀ q : Nat, s.heap.size ≤ q → va_A (kX3 T h a u ++ kX1 T (a 0) ac uc ++ kX8 T (ac 0) atp utp ++ kX2 T hlw alw ulw) s.heap.size q := fun q h => Or.inr h
  have hS : va_S (va_A (kX3 T h a u ++ kX1 T (a 0) ac uc ++ kX8 T (ac 0) atp utp ++ kX2 T hlw alw ulw) s.heap.size) s.heap s.heap [] := va_S.rf
  have hinX3 : ∀ w ∈ u_ws RX3 TX3 1, w ∈ wsX3_read := fun w h => List.mem_cons_of_mem _ (List.mem_append_left _ (List.mem_append_left _ (List.mem_append_left _ (List.mem_append_right _ h))))
  have hinX2 : ∀ w ∈ u_ws RX2 TX2 10, w ∈ wsX3_read := fun w h => List.mem_cons_of_mem _ (List.mem_append_left _ (List.mem_append_left _ (List.mem_append_right _ h)))
  have hinX1 : ∀ w ∈ u_ws RX1 TX1 5, w ∈ wsX3_read := fun w h => List.mem_cons_of_mem _ (List.mem_append_left _ (List.mem_append_right _ h))
  have hinX8 : ∀ w ∈ u_ws RX8 TX8 2, w ∈ wsX3_read := fun w h => List.mem_cons_of_mem _ (List.mem_append_right _ h)
  have hl := lv_entry ([.ref h, .ref hlw]) (n := 3) (Nat.le_of_ble_eq_true rfl)
  rw [lg_entry_eq]
  generalize (lg_sl ([.ref h, .ref hlw]) ++ List.replicate (3 - (lg_sl ([.ref h, .ref hlw])).length) Slot.unset).toArray = ls at hl ⊢
  have hl : lv_has ls 3 [(0, .ref h), (1, .ref hlw)] := hl
  have L6 : ∀ (n6 : Nat), ∀ (vc : St) (vlw : St) (x2 : Int32) (H : Heap) (locs : List Loc) (ls : Array Slot), fX3_read_L6 utp n6 vc vlw x2 = some res → va_P D vwCl (kX3 T h a u ++ kX1 T (a 0) ac vc ++ kX8 T (ac 0) atp utp ++ kX2 T hlw alw vlw) H → va_D (va_A (kX3 T h a u ++ kX1 T (a 0) ac uc ++ kX8 T (ac 0) atp utp ++ kX2 T hlw alw ulw) s.heap.size) (kX3 T h a u ++ kX1 T (a 0) ac vc ++ kX8 T (ac 0) atp utp ++ kX2 T hlw alw vlw) → va_S (va_A (kX3 T h a u ++ kX1 T (a 0) ac uc ++ kX8 T (ac 0) atp utp ++ kX2 T hlw alw ulw) s.heap.size) s.heap H locs → lv_has ls 3 [(0, .ref h), (1, .ref hlw), (2, .int x2)] → W p l e (headSpec wsX3_read ({ frames := 57, cells := 0, slots := 0, locals := 1353 })).room s m ([.ref h, .ref hlw] : List Value).toArray below meth c H locs 0 0 (MQ below (QMv D (kX3 T h a u ++ kX1 T (a 0) ac uc ++ kX8 T (ac 0) atp utp ++ kX2 T hlw alw ulw) s.heap.size (kX3 T h a u ++ kX1 T (a 0) ac res.1 ++ kX8 T (ac 0) atp utp ++ kX2 T hlw alw res.2)) ([.ref h, .ref hlw] : List Value).toArray s 0 0 (va_A (kX3 T h a u ++ kX1 T (a 0) ac uc ++ kX8 T (ac 0) atp utp ++ kX2 T hlw alw ulw) s.heap.size)) (F0 m 6 ls []) := by
    intro n6
    induction n6 with
    | zero => intro vc vlw x2 H locs ls hf; exact nns hf
    | succ n6 ih6 =>
      intro vc vlw x2 H locs ls hf hP hD hS hl
      replace hf : bX3_read_L6 utp (fX3_read_L6 utp n6) vc vlw x2 = some res := hf
      unfold bX3_read_L6 at hf
      refine lv_iload_n hx hb dX3_read_6 rfl (lv_at hl 2 rfl) ?_
      refine lv_bipush (v := 16) hx hb dX3_read_7 (by decide) ?_
      refine lv_icmp_gt (tgt := 35) hx hb dX3_read_9 (by decide) (fun c1 => ?_) (fun c1 => ?_)
      · replace hf := ifp c1 hf
        have e9 := Option.some.inj hf
        exact retMv hx hb hr hlocks hP hD hS (congrArg (fun z => (kX3 T h a u ++ kX1 T (a 0) ac z.1 ++ kX8 T (ac 0) atp utp ++ kX2 T hlw alw z.2 : va_W)) e9) dX3_read_35
      replace hf := ifn c1 hf
      refine lv_aload_n hx hb dX3_read_12 rfl (lv_at hl 0 rfl) ?_
      refine va_get (D := D) (ci := 3) (v := .ref (a 0)) (C := RX3) (T := TX3) (N := 1) hx hb hts hinX3 hown hK.1 hP 0 rfl rfl 0 (by decide) (hts (.fieldLink RX3 9 "RopeScale$LawReader" "cursor" "LRopeScale$Cursor;") (List.mem_of_getElem? (i := 1) rfl)) (fun _ h9 => h9) rfl dX3_read_13 ?_
      refine lv_iload_n hx hb dX3_read_16 rfl (lv_at hl 2 rfl) ?_
      obtain ⟨z2, hz2, hf⟩ := bnd hf
      have hPc := hP.sub (ws' := kX1 T (a 0) ac vc ++ kX8 T (ac 0) atp utp) [1, 2, 3] rfl
      have hDc := hD.sub (ws' := kX1 T (a 0) ac vc ++ kX8 T (ac 0) atp utp) [1, 2, 3] (by decide) rfl
      have hFc9 := va_free (wc := kX1 T (a 0) ac vc ++ kX8 T (ac 0) atp utp) hD hS hA [1, 2, 3] rfl
      refine cVM (As := [.int x2]) (rest := []) ⟨hx, hb, hml, hown, hts⟩ (mX1_begins l D T (a 0) ac vc atp utp _ x2 z2 hz2) (cwV 1 hts gX3_read_X1_begins rfl rfl rfl (by decide +kernel) ⟨Nat.le_of_ble_eq_true rfl, Nat.le_of_ble_eq_true rfl⟩) (va_recv hK.1 hP (ci := 1) (q0 := 1) rfl rfl) hPc hK rfl hl.1 rfl (Nat.le_of_ble_eq_true rfl) dX3_read_17 ⟨Nat.le_of_ble_eq_true rfl, Nat.le_of_ble_eq_true rfl⟩ hDc hFc9 hS (fun H9 locs hP1 hD1 hk1 hS => ?_)
      obtain ⟨hP, hD⟩ := putAll_P (w1 := kX1 T (a 0) ac z2.2 ++ kX8 T (ac 0) atp utp) hP hD [1, 2, 3] rfl (by decide) hk1 hP1 rfl
      generalize H9 = H at hP hS ⊢
      have hP : va_P D vwCl (kX3 T h a u ++ kX1 T (a 0) ac z2.2 ++ kX8 T (ac 0) atp utp ++ kX2 T hlw alw vlw) H := by exact hP
      have hD : va_D (va_A (kX3 T h a u ++ kX1 T (a 0) ac uc ++ kX8 T (ac 0) atp utp ++ kX2 T hlw alw ulw) s.heap.size) (kX3 T h a u ++ kX1 T (a 0) ac z2.2 ++ kX8 T (ac 0) atp utp ++ kX2 T hlw alw vlw) := by exact hD
      refine lv_if_eq (tgt := 35) hx hb dX3_read_20 (by decide) (fun c3 => ?_) (fun c3 => ?_)
      · replace hf := ifp c3 hf
        have e9 := Option.some.inj hf
        exact retMv hx hb hr hlocks hP hD hS (congrArg (fun z => (kX3 T h a u ++ kX1 T (a 0) ac z.1 ++ kX8 T (ac 0) atp utp ++ kX2 T hlw alw z.2 : va_W)) e9) dX3_read_35
      replace hf := ifn c3 hf
      refine lv_aload_n hx hb dX3_read_23 rfl (lv_at hl 0 rfl) ?_
      refine lv_aload_n hx hb dX3_read_24 rfl (lv_at hl 1 rfl) ?_
      refine lv_iload_n hx hb dX3_read_25 rfl (lv_at hl 2 rfl) ?_
      obtain ⟨z4, hz4, hf⟩ := bnd hf
      have hFc9 := vaA_self hD hS hA
      refine cVMvS (As := [.ref hlw, .int x2]) (rest := []) ⟨hx, hb, hml, hown, hts⟩ (mX3_readRule l D T kv h a u ac z2.2 atp utp hlw alw vlw _ x2 z4 hz4) (cwV 2 hts gX3_read_X3_readRule rfl rfl rfl (by decide +kernel) ⟨Nat.le_of_ble_eq_true rfl, Nat.le_of_ble_eq_true rfl⟩) (va_recv hK.1 hP (ci := 3) (q0 := 0) rfl rfl) hP hK rfl hl.1 rfl (Nat.le_of_ble_eq_true rfl) dX3_read_26 ⟨Nat.le_of_ble_eq_true rfl, Nat.le_of_ble_eq_true rfl⟩ hD hFc9 hE hS (fun H locs hP hD1 _ hS => ?_)
      have hD := hD1.weaken (fun _ _ _ h9 => hFc9 _ h9)
      obtain ⟨t5, et5, hf⟩ := lett_e hf
      refine lv_iinc (v := t5) (lv' := [(2, .int t5), (0, .ref h), (1, .ref hlw)]) hx hb dX3_read_29 hl (k := 2) rfl (by rw [et5]; rfl) (by decide) rfl (fun ls hl => ?_)
      refine lv_goto (tgt := 6) hx hb dX3_read_32 (by decide) ?_
      exact ih6 z4.1 z4.2 t5 _ _ _ hf hP hD hS (lv_sub hl [1, 2, 0] rfl)
  unfold fX3_read at hf
  refine lv_aload_n hx hb dX3_read_0 rfl (lv_at hl 1 rfl) ?_
  obtain ⟨z6, hz6, hf⟩ := lett_e hf
  have hPc := hP.sub (ws' := kX2 T hlw alw ulw) [4, 5, 6, 7, 8, 9, 10, 11, 12] rfl
  have hDc := hD.sub (ws' := kX2 T hlw alw ulw) [4, 5, 6, 7, 8, 9, 10, 11, 12] (by decide) rfl
  have hFc9 := va_free (wc := kX2 T hlw alw ulw) hD hS hA [4, 5, 6, 7, 8, 9, 10, 11, 12] rfl
  refine cVMv (As := []) (rest := []) ⟨hx, hb, hml, hown, hts⟩ (mX2_clear l D T hlw alw ulw _ z6 hz6.symm) (cwV 0 hts gX3_read_X2_clear rfl rfl rfl (by decide +kernel) ⟨Nat.le_of_ble_eq_true rfl, Nat.le_of_ble_eq_true rfl⟩) (va_recv hK.1 hP (ci := 2) (q0 := 4) rfl rfl) hPc hK rfl hl.1 rfl (Nat.le_of_ble_eq_true rfl) dX3_read_1 ⟨Nat.le_of_ble_eq_true rfl, Nat.le_of_ble_eq_true rfl⟩ hDc hFc9 hS (fun H9 locs hP1 hD1 hk1 hS => ?_)
  obtain ⟨hP, hD⟩ := putAll_P (w1 := kX2 T hlw alw z6) hP hD [4, 5, 6, 7, 8, 9, 10, 11, 12] rfl (by decide) hk1 hP1 rfl
  generalize H9 = H at hP hS ⊢
  have hP : va_P D vwCl (kX3 T h a u ++ kX1 T (a 0) ac uc ++ kX8 T (ac 0) atp utp ++ kX2 T hlw alw z6) H := by exact hP
  have hD : va_D (va_A (kX3 T h a u ++ kX1 T (a 0) ac uc ++ kX8 T (ac 0) atp utp ++ kX2 T hlw alw ulw) s.heap.size) (kX3 T h a u ++ kX1 T (a 0) ac uc ++ kX8 T (ac 0) atp utp ++ kX2 T hlw alw z6) := by exact hD
  refine lv_iconst (v := 0) hx hb dX3_read_4 (by decide) ?_
  refine lv_istore_n (lv' := [(2, .int 0), (0, .ref h), (1, .ref hlw)]) hx hb dX3_read_5 rfl hl (by decide) rfl (fun ls hl => ?_)
  exact L6 FU uc z6 0 _ _ _ hf hP hD hS (lv_sub hl [1, 2, 0] rfl)
