def fX12_armOf   (p0 : Int32) : (Int32) := if 5 ≤ p0 then p0 - 4 else (-1) - p0
set_option maxHeartbeats 4000000 in
set_option maxRecDepth 100000 in
theorem mX12_armOf (l : Launch) (D : va_G) (T : Ty3)  (p0 : Int32) (res : Int32) (hf : fX12_armOf p0 = res) : Met l yX12_armOf wsX12_armOf ({ frames := 0, cells := 0, slots := 0, locals := 0 }) (PcR D T ([]) [.int p0]) (QR res) 0 0 noA := by
  refine Met.ofW (cc := cX12_armOf) (maxL := 1) (ret := (some .int)) (by decide) rfl ?_
  intro p e s m args below meth c s₁ B hml hv
  obtain ⟨rfl, hP, hK⟩ := hv
  have hx := B.exec
  have hb := B.bytes
  have hr := B.returns
  have hts := atoms_spec (ws := wsX12_armOf) B.pre
  have hown : s.vm.findClass RX12 = some m.cls := findClass_of_methodNamed B.named
  have hlocks := B.notSynchronized
  have hS : va_S noA s.heap s.heap [] := va_S.rf
  have hl := lv_entry ([.int p0]) (n := 1) (Nat.le_of_ble_eq_true rfl)
  rw [lg_entry_eq]
  generalize (lg_sl ([.int p0]) ++ List.replicate (1 - (lg_sl ([.int p0])).length) Slot.unset).toArray = ls at hl ⊢
  have hl : lv_has ls 1 [(0, .int p0)] := hl
  unfold fX12_armOf at hf
  refine lv_iload_n hx hb dX12_armOf_0 rfl (lv_at hl 0 rfl) ?_
  refine lv_iconst (v := 5) hx hb dX12_armOf_1 (by decide) ?_
  refine lv_icmp_ge (tgt := 11) hx hb dX12_armOf_2 (by decide) (fun c1 => ?_) (fun c1 => ?_)
  · replace hf := ifp c1 hf
    refine lv_iload_n hx hb dX12_armOf_11 rfl (lv_at hl 0 rfl) ?_
    refine lv_iconst (v := 4) hx hb dX12_armOf_12 (by decide) ?_
    refine lv_isub hx hb dX12_armOf_13 ?_
    exact retR hx hb hr hlocks hS hf dX12_armOf_14
  replace hf := ifn c1 hf
  refine lv_iconst (v := (-1)) hx hb dX12_armOf_5 (by decide) ?_
  refine lv_iload_n hx hb dX12_armOf_6 rfl (lv_at hl 0 rfl) ?_
  refine lv_isub hx hb dX12_armOf_7 ?_
  refine lv_goto (tgt := 14) hx hb dX12_armOf_8 (by decide) ?_
  exact retR hx hb hr hlocks hS hf dX12_armOf_14
def bX12_tiltOf_L7 (u : St)  (lp7 : Int32 → Int32 → Int32 → Int32 → Option (Int32)) (x1 : Int32) (x2 : Int32) (x3 : Int32) (x4 : Int32) : Option (Int32) := if x1 ≤ x4 then lett (fX12_size x2) fun z2 => some z2 else gd x4 5 <| lett (fX12_has x3 (u 49 (ix x4))) fun z3 => if z3 = 0 then gd x4 5 <| lett (x3 ||| (jshl 1 (u 49 (ix x4)))) fun t5 => (fX12_octet u x4).bind fun z6 => gd x4 5 <| lett (fX12_armOf (u 49 (ix x4))) fun z7 => lett (x2 + (z6 * z7)) fun t8 => lett (x4 + 1) fun t9 => lp7 x1 t8 t5 t9 else some 1000000
def fX12_tiltOf_L7 (u : St)  : Nat → Int32 → Int32 → Int32 → Int32 → Option (Int32)
  | 0, _, _, _, _ => none
  | n + 1, x1, x2, x3, x4 => bX12_tiltOf_L7 u (fX12_tiltOf_L7 u n) x1 x2 x3 x4
def fX12_tiltOf  (u : St) (p1 : Int32) : Option (Int32) := fX12_tiltOf_L7 u FU p1 0 0 0
set_option maxHeartbeats 4000000 in
set_option maxRecDepth 100000 in
theorem mX12_tiltOf (l : Launch) (D : va_G) (T : Ty3) (h : Nat) (a : Nat → Nat) (u : St) (p1 : Int32) (res : Int32) (hf : fX12_tiltOf u p1 = some res) : Met l yX12_tiltOf wsX12_tiltOf ({ frames := 1, cells := 0, slots := 0, locals := 21 }) (PcR D T (kX12 T h a u) [.ref h, .int p1]) (QR res) 0 0 noA := by
  refine Met.ofW (cc := cX12_tiltOf) (maxL := 5) (ret := (some .int)) (by decide) rfl ?_
  intro p e s m args below meth c s₁ B hml hv
  obtain ⟨rfl, hP, hK⟩ := hv
  have hx := B.exec
  have hb := B.bytes
  have hr := B.returns
  have hts := atoms_spec (ws := wsX12_tiltOf) B.pre
  have hown : s.vm.findClass RX12 = some m.cls := findClass_of_methodNamed B.named
  have hlocks := B.notSynchronized
  have hS : va_S noA s.heap s.heap [] := va_S.rf
  have hinX12 : ∀ w ∈ u_ws RX12 TX12 52, w ∈ wsX12_tiltOf := fun w h => List.mem_cons_of_mem _ (List.mem_append_right _ h)
  have hl := lv_entry ([.ref h, .int p1]) (n := 5) (Nat.le_of_ble_eq_true rfl)
  rw [lg_entry_eq]
  generalize (lg_sl ([.ref h, .int p1]) ++ List.replicate (5 - (lg_sl ([.ref h, .int p1])).length) Slot.unset).toArray = ls at hl ⊢
  have hl : lv_has ls 5 [(0, .ref h), (1, .int p1)] := hl
  have L7 : ∀ (n7 : Nat), ∀ (x1 : Int32) (x2 : Int32) (x3 : Int32) (x4 : Int32) (H : Heap) (locs : List Loc) (ls : Array Slot), fX12_tiltOf_L7 u n7 x1 x2 x3 x4 = some res → va_P D vwCl (kX12 T h a u) H → va_S noA s.heap H locs → lv_has ls 5 [(0, .ref h), (1, .int x1), (2, .int x2), (3, .int x3), (4, .int x4)] → W p l e (headSpec wsX12_tiltOf ({ frames := 1, cells := 0, slots := 0, locals := 21 })).room s m ([.ref h, .int p1] : List Value).toArray below meth c H locs 0 0 (MQ below (QR res) ([.ref h, .int p1] : List Value).toArray s 0 0 noA) (F0 m 7 ls []) := by
    intro n7
    induction n7 with
    | zero => intro x1 x2 x3 x4 H locs ls hf; exact nns hf
    | succ n7 ih7 =>
      intro x1 x2 x3 x4 H locs ls hf hP hS hl
      replace hf : bX12_tiltOf_L7 u (fX12_tiltOf_L7 u n7) x1 x2 x3 x4 = some res := hf
      unfold bX12_tiltOf_L7 at hf
      refine lv_iload hx hb dX12_tiltOf_7 (lv_at hl 4 rfl) ?_
      refine lv_iload_n hx hb dX12_tiltOf_9 rfl (lv_at hl 1 rfl) ?_
      refine lv_icmp_ge (tgt := 69) hx hb dX12_tiltOf_10 (by decide) (fun c1 => ?_) (fun c1 => ?_)
      · replace hf := ifp c1 hf
        refine lv_iload_n hx hb dX12_tiltOf_69 rfl (lv_at hl 2 rfl) ?_
        obtain ⟨z2, hz2, hf⟩ := lett_e hf
        refine cSR (As := [.int x2]) (rest := []) ⟨hx, hb, hml, hown, hts⟩ (mX12_size l D T x2 z2 hz2.symm) (va_cwS 1 hts gX12_tiltOf_X12_size rfl rfl rfl (by decide +kernel) ⟨Nat.le_of_ble_eq_true rfl, Nat.le_of_ble_eq_true rfl⟩) P0 hK rfl hl.1 rfl (Nat.le_of_ble_eq_true rfl) dX12_tiltOf_70 ⟨Nat.le_of_ble_eq_true rfl, Nat.le_of_ble_eq_true rfl⟩ hP hS (fun H locs hP hS => ?_)
        exact retR hx hb hr hlocks hS (Option.some.inj hf) dX12_tiltOf_73
      replace hf := ifn c1 hf
      refine lv_iload_n hx hb dX12_tiltOf_13 rfl (lv_at hl 3 rfl) ?_
      refine lv_aload_n hx hb dX12_tiltOf_14 rfl (lv_at hl 0 rfl) ?_
      refine va_get (D := D) (ci := 12) (v := .ref (a 49)) (C := RX12) (T := TX12) (N := 52) hx hb hts hinX12 hown hK.1 hP 0 rfl rfl 49 (by decide) (hts (.fieldLink RX12 95 "RopeScaleModel" "spotOf" "[I") (List.mem_of_getElem? (i := 1) rfl)) (fun _ h9 => h9) rfl dX12_tiltOf_15 ?_
      refine lv_iload hx hb dX12_tiltOf_18 (lv_at hl 4 rfl) ?_
      obtain ⟨h12, hf⟩ := gd_e hf
      refine va_iald hx hb hK.1 hP 29 0 rfl rfl h12 dX12_tiltOf_20 ?_
      obtain ⟨z3, hz3, hf⟩ := lett_e hf
      refine cSR (As := [.int x3, .int (u 49 (ix x4))]) (rest := []) ⟨hx, hb, hml, hown, hts⟩ (mX12_has l D T x3 (u 49 (ix x4)) z3 hz3.symm) (va_cwS 2 hts gX12_tiltOf_X12_has rfl rfl rfl (by decide +kernel) ⟨Nat.le_of_ble_eq_true rfl, Nat.le_of_ble_eq_true rfl⟩) P0 hK rfl hl.1 rfl (Nat.le_of_ble_eq_true rfl) dX12_tiltOf_21 ⟨Nat.le_of_ble_eq_true rfl, Nat.le_of_ble_eq_true rfl⟩ hP hS (fun H locs hP hS => ?_)
      refine lv_if_eq (tgt := 31) hx hb dX12_tiltOf_24 (by decide) (fun c4 => ?_) (fun c4 => ?_)
      · replace hf := ifp c4 hf
        refine lv_iload_n hx hb dX12_tiltOf_31 rfl (lv_at hl 3 rfl) ?_
        refine lv_iconst (v := 1) hx hb dX12_tiltOf_32 (by decide) ?_
        refine lv_aload_n hx hb dX12_tiltOf_33 rfl (lv_at hl 0 rfl) ?_
        refine va_get (D := D) (ci := 12) (v := .ref (a 49)) (C := RX12) (T := TX12) (N := 52) hx hb hts hinX12 hown hK.1 hP 0 rfl rfl 49 (by decide) (hts (.fieldLink RX12 95 "RopeScaleModel" "spotOf" "[I") (List.mem_of_getElem? (i := 1) rfl)) (fun _ h9 => h9) rfl dX12_tiltOf_34 ?_
        refine lv_iload hx hb dX12_tiltOf_37 (lv_at hl 4 rfl) ?_
        obtain ⟨h11, hf⟩ := gd_e hf
        refine va_iald hx hb hK.1 hP 29 0 rfl rfl h11 dX12_tiltOf_39 ?_
        refine lv_ishl hx hb dX12_tiltOf_40 ?_
        refine lv_ior hx hb dX12_tiltOf_41 ?_
        obtain ⟨t5, et5, hf⟩ := lett_e hf
        refine lv_eqi et5 ?_
        refine lv_istore_n (lv' := [(3, .int t5), (0, .ref h), (1, .int x1), (2, .int x2), (4, .int x4)]) hx hb dX12_tiltOf_42 rfl hl (by decide) rfl (fun ls hl => ?_)
        refine lv_iload_n hx hb dX12_tiltOf_43 rfl (lv_at hl 3 rfl) ?_
        refine lv_aload_n hx hb dX12_tiltOf_44 rfl (lv_at hl 1 rfl) ?_
        refine lv_iload hx hb dX12_tiltOf_45 (lv_at hl 4 rfl) ?_
        obtain ⟨z6, hz6, hf⟩ := bnd hf
        refine cVR (As := [.int x4]) (rest := [.int x2]) ⟨hx, hb, hml, hown, hts⟩ (mX12_octet l D T h a u x4 z6 hz6) (cwV 1 hts gX12_tiltOf_X12_octet rfl rfl rfl (by decide +kernel) ⟨Nat.le_of_ble_eq_true rfl, Nat.le_of_ble_eq_true rfl⟩) (va_recv hK.1 hP (ci := 12) (q0 := 0) rfl rfl) hP hK rfl hl.1 rfl (Nat.le_of_ble_eq_true rfl) dX12_tiltOf_47 ⟨Nat.le_of_ble_eq_true rfl, Nat.le_of_ble_eq_true rfl⟩ hP hS (fun H locs hP hS => ?_)
        refine lv_aload_n hx hb dX12_tiltOf_50 rfl (lv_at hl 1 rfl) ?_
        refine va_get (D := D) (ci := 12) (v := .ref (a 49)) (C := RX12) (T := TX12) (N := 52) hx hb hts hinX12 hown hK.1 hP 0 rfl rfl 49 (by decide) (hts (.fieldLink RX12 95 "RopeScaleModel" "spotOf" "[I") (List.mem_of_getElem? (i := 1) rfl)) (fun _ h9 => h9) rfl dX12_tiltOf_51 ?_
        refine lv_iload hx hb dX12_tiltOf_54 (lv_at hl 4 rfl) ?_
        obtain ⟨h10, hf⟩ := gd_e hf
        refine va_iald hx hb hK.1 hP 29 0 rfl rfl h10 dX12_tiltOf_56 ?_
        obtain ⟨z7, hz7, hf⟩ := lett_e hf
        refine cSR (As := [.int (u 49 (ix x4))]) (rest := [.int z6, .int x2]) ⟨hx, hb, hml, hown, hts⟩ (mX12_armOf l D T (u 49 (ix x4)) z7 hz7.symm) (va_cwS 1 hts gX12_tiltOf_X12_armOf rfl rfl rfl (by decide +kernel) ⟨Nat.le_of_ble_eq_true rfl, Nat.le_of_ble_eq_true rfl⟩) P0 hK rfl hl.1 rfl (Nat.le_of_ble_eq_true rfl) dX12_tiltOf_57 ⟨Nat.le_of_ble_eq_true rfl, Nat.le_of_ble_eq_true rfl⟩ hP hS (fun H locs hP hS => ?_)
        refine lv_imul hx hb dX12_tiltOf_60 ?_
        refine lv_iadd hx hb dX12_tiltOf_61 ?_
        obtain ⟨t8, et8, hf⟩ := lett_e hf
        refine lv_eqi et8 ?_
        refine lv_istore_n (lv' := [(2, .int t8), (3, .int t5), (0, .ref h), (1, .int x1), (4, .int x4)]) hx hb dX12_tiltOf_62 rfl hl (by decide) rfl (fun ls hl => ?_)
        obtain ⟨t9, et9, hf⟩ := lett_e hf
        refine lv_iinc (v := t9) (lv' := [(4, .int t9), (2, .int t8), (3, .int t5), (0, .ref h), (1, .int x1)]) hx hb dX12_tiltOf_63 hl (k := 4) rfl (by rw [et9]; rfl) (by decide) rfl (fun ls hl => ?_)
        refine lv_goto (tgt := 7) hx hb dX12_tiltOf_66 (by decide) ?_
        exact ih7 x1 t8 t5 t9 _ _ _ hf hP hS (lv_sub hl [3, 4, 1, 2, 0] rfl)
      replace hf := ifn c4 hf
      refine lv_ldcw (v := 1000000) hx hb hown (hts (.constant RX12 360 (1000000)) (List.mem_of_getElem? (i := 2) rfl)) dX12_tiltOf_27 ?_
      exact retR hx hb hr hlocks hS (Option.some.inj hf) dX12_tiltOf_30
  unfold fX12_tiltOf at hf
  refine lv_iconst (v := 0) hx hb dX12_tiltOf_0 (by decide) ?_
  refine lv_istore_n (lv' := [(2, .int 0), (0, .ref h), (1, .int p1)]) hx hb dX12_tiltOf_1 rfl hl (by decide) rfl (fun ls hl => ?_)
  refine lv_iconst (v := 0) hx hb dX12_tiltOf_2 (by decide) ?_
  refine lv_istore_n (lv' := [(3, .int 0), (2, .int 0), (0, .ref h), (1, .int p1)]) hx hb dX12_tiltOf_3 rfl hl (by decide) rfl (fun ls hl => ?_)
  refine lv_iconst (v := 0) hx hb dX12_tiltOf_4 (by decide) ?_
  refine lv_istore (lv' := [(4, .int 0), (3, .int 0), (2, .int 0), (0, .ref h), (1, .int p1)]) hx hb dX12_tiltOf_5 hl (by decide) rfl (fun ls hl => ?_)
  exact L7 FU p1 0 0 0 _ _ _ hf hP hS (lv_sub hl [3, 4, 2, 1, 0] rfl)
def bX12_seesaw_L75  (lp62 : St → Int32 → Int32 → Int32 → Int32 → Option (Int32 × St)) (lp75 : St → Int32 → Int32 → Int32 → Int32 → Int32 → Int32 → Option (Int32 × St)) (v : St) (x1 : Int32) (x2 : Int32) (x3 : Int32) (x4 : Int32) (x5 : Int32) (x6 : Int32) : Option (Int32 × St) := if x1 ≤ x6 then (fX12_tiltOf v x1).bind fun z2 => lett (fX12_min x3 z2) fun z3 => lett (x4 + 1) fun t4 => lp62 v x1 x2 z3 t4 else gd x6 5 <| lett (st v 49 (ix x6) (jrem x5 10)) fun u5 => lett (x5 / 10) fun t6 => lett (x6 + 1) fun t7 => lp75 u5 x1 x2 x3 x4 t6 t7
def fX12_seesaw_L75  (lp62 : St → Int32 → Int32 → Int32 → Int32 → Option (Int32 × St)) : Nat → St → Int32 → Int32 → Int32 → Int32 → Int32 → Int32 → Option (Int32 × St)
  | 0, _, _, _, _, _, _, _ => none
  | n + 1, v, x1, x2, x3, x4, x5, x6 => bX12_seesaw_L75 lp62 (fX12_seesaw_L75 lp62 n) v x1 x2 x3 x4 x5 x6
def bX12_seesaw_L62   (lp62 : St → Int32 → Int32 → Int32 → Int32 → Option (Int32 × St)) (v : St) (x1 : Int32) (x2 : Int32) (x3 : Int32) (x4 : Int32) : Option (Int32 × St) := if x2 ≤ x4 then some (x3, v) else fX12_seesaw_L75 lp62 FU v x1 x2 x3 x4 x4 0
def fX12_seesaw_L62   : Nat → St → Int32 → Int32 → Int32 → Int32 → Option (Int32 × St)
  | 0, _, _, _, _, _ => none
  | n + 1, v, x1, x2, x3, x4 => bX12_seesaw_L62  (fX12_seesaw_L62  n) v x1 x2 x3 x4
def bX12_seesaw_L39   (lp39 : St → Int32 → Int32 → Int32 → Option (Int32 × St)) (v : St) (x1 : Int32) (x2 : Int32) (x3 : Int32) : Option (Int32 × St) := if x1 ≤ x3 then fX12_seesaw_L62 FU v x1 x2 1000000 0 else lett (x2 * 10) fun t11 => lett (x3 + 1) fun t12 => lp39 v x1 t11 t12
def fX12_seesaw_L39   : Nat → St → Int32 → Int32 → Int32 → Option (Int32 × St)
  | 0, _, _, _, _ => none
  | n + 1, v, x1, x2, x3 => bX12_seesaw_L39  (fX12_seesaw_L39  n) v x1 x2 x3
def fX12_seesaw  (u : St) (p1 : Int32) : Option (Int32 × St) := lett (fX12_in p1 1 5) fun z13 => if z13 = 0 then some ((-1), u) else if p1 ≤ (u 6 0) then lett (st u 6 0 0) fun u16 => (fX12_areAll u16 p1).bind fun z17 => if z17 = 0 then some ((-2), u16) else fX12_seesaw_L39 FU u16 p1 1 0 else some ((-1), u)
set_option maxHeartbeats 4000000 in
set_option maxRecDepth 100000 in
theorem mX12_seesaw (l : Launch) (D : va_G) (T : Ty3) (h : Nat) (a : Nat → Nat) (u : St) (sz : Nat) (p1 : Int32) (res : Int32 × St) (hf : fX12_seesaw u p1 = some res) : Met l yX12_seesaw wsX12_seesaw ({ frames := 2, cells := 0, slots := 0, locals := 45 }) (PcM D T (kX12 T h a u) sz [.ref h, .int p1]) (QM D (kX12 T h a u) sz res.1 (kX12 T h a res.2)) 0 0 (va_A (kX12 T h a u) sz) := by
  refine Met.ofW (cc := cX12_seesaw) (maxL := 7) (ret := (some .int)) (by decide) rfl ?_
  intro p e s m args below meth c s₁ B hml hv
  obtain ⟨rfl, hsz, hP, hK, hD0⟩ := hv
  have hx := B.exec
  have hb := B.bytes
  have hr := B.returns
  have hts := atoms_spec (ws := wsX12_seesaw) B.pre
  have hown : s.vm.findClass RX12 = some m.cls := findClass_of_methodNamed B.named
  have hlocks := B.notSynchronized
  subst hsz
  have hD := hD0.self (sz := s.heap.size)
  have hA : ∀ q : Nat, s.heap.size ≤ q → va_A (kX12 T h a u) s.heap.size q := fun q h => Or.inr h
  have hS : va_S (va_A (kX12 T h a u) s.heap.size) s.heap s.heap [] := va_S.rf
  have hinX12 : ∀ w ∈ u_ws RX12 TX12 52, w ∈ wsX12_seesaw := fun w h => List.mem_cons_of_mem _ (List.mem_append_right _ h)
  have hl := lv_entry ([.ref h, .int p1]) (n := 7) (Nat.le_of_ble_eq_true rfl)
  rw [lg_entry_eq]
  generalize (lg_sl ([.ref h, .int p1]) ++ List.replicate (7 - (lg_sl ([.ref h, .int p1])).length) Slot.unset).toArray = ls at hl ⊢
  have hl : lv_has ls 7 [(0, .ref h), (1, .int p1)] := hl
  have L62 : ∀ (n62 : Nat), ∀ (v : St) (x1 : Int32) (x2 : Int32) (x3 : Int32) (x4 : Int32) (H : Heap) (locs : List Loc) (ls : Array Slot), fX12_seesaw_L62  n62 v x1 x2 x3 x4 = some res → va_P D vwCl (kX12 T h a v) H → va_D (va_A (kX12 T h a u) s.heap.size) (kX12 T h a v) → va_S (va_A (kX12 T h a u) s.heap.size) s.heap H locs → lv_has ls 7 [(0, .ref h), (1, .int x1), (2, .int x2), (3, .int x3), (4, .int x4)] → W p l e (headSpec wsX12_seesaw ({ frames := 2, cells := 0, slots := 0, locals := 45 })).room s m ([.ref h, .int p1] : List Value).toArray below meth c H locs 0 0 (MQ below (QM D (kX12 T h a u) s.heap.size res.1 (kX12 T h a res.2)) ([.ref h, .int p1] : List Value).toArray s 0 0 (va_A (kX12 T h a u) s.heap.size)) (F0 m 62 ls []) := by
    intro n62
    induction n62 with
    | zero => intro v x1 x2 x3 x4 H locs ls hf; exact nns hf
    | succ n62 ih62 =>
      have L75 : ∀ (n75 : Nat), ∀ (v : St) (x1 : Int32) (x2 : Int32) (x3 : Int32) (x4 : Int32) (x5 : Int32) (x6 : Int32) (H : Heap) (locs : List Loc) (ls : Array Slot), fX12_seesaw_L75 (fX12_seesaw_L62  n62) n75 v x1 x2 x3 x4 x5 x6 = some res → va_P D vwCl (kX12 T h a v) H → va_D (va_A (kX12 T h a u) s.heap.size) (kX12 T h a v) → va_S (va_A (kX12 T h a u) s.heap.size) s.heap H locs → lv_has ls 7 [(0, .ref h), (1, .int x1), (2, .int x2), (3, .int x3), (4, .int x4), (5, .int x5), (6, .int x6)] → W p l e (headSpec wsX12_seesaw ({ frames := 2, cells := 0, slots := 0, locals := 45 })).room s m ([.ref h, .int p1] : List Value).toArray below meth c H locs 0 0 (MQ below (QM D (kX12 T h a u) s.heap.size res.1 (kX12 T h a res.2)) ([.ref h, .int p1] : List Value).toArray s 0 0 (va_A (kX12 T h a u) s.heap.size)) (F0 m 75 ls []) := by
        intro n75
        induction n75 with
        | zero => intro v x1 x2 x3 x4 x5 x6 H locs ls hf; exact nns hf
        | succ n75 ih75 =>
          intro v x1 x2 x3 x4 x5 x6 H locs ls hf hP hD hS hl
          replace hf : bX12_seesaw_L75 (fX12_seesaw_L62  n62) (fX12_seesaw_L75 (fX12_seesaw_L62  n62) n75) v x1 x2 x3 x4 x5 x6 = some res := hf
          unfold bX12_seesaw_L75 at hf
          refine lv_iload hx hb dX12_seesaw_75 (lv_at hl 6 rfl) ?_
          refine lv_iload_n hx hb dX12_seesaw_77 rfl (lv_at hl 1 rfl) ?_
          refine lv_icmp_ge (tgt := 106) hx hb dX12_seesaw_78 (by decide) (fun c1 => ?_) (fun c1 => ?_)
          · replace hf := ifp c1 hf
            refine lv_iload_n hx hb dX12_seesaw_106 rfl (lv_at hl 3 rfl) ?_
            refine lv_aload_n hx hb dX12_seesaw_107 rfl (lv_at hl 0 rfl) ?_
            refine lv_iload_n hx hb dX12_seesaw_108 rfl (lv_at hl 1 rfl) ?_
            obtain ⟨z2, hz2, hf⟩ := bnd hf
            refine cVR (As := [.int x1]) (rest := [.int x3]) ⟨hx, hb, hml, hown, hts⟩ (mX12_tiltOf l D T h a v x1 z2 hz2) (cwV 1 hts gX12_seesaw_X12_tiltOf rfl rfl rfl (by decide +kernel) ⟨Nat.le_of_ble_eq_true rfl, Nat.le_of_ble_eq_true rfl⟩) (va_recv hK.1 hP (ci := 12) (q0 := 0) rfl rfl) hP hK rfl hl.1 rfl (Nat.le_of_ble_eq_true rfl) dX12_seesaw_109 ⟨Nat.le_of_ble_eq_true rfl, Nat.le_of_ble_eq_true rfl⟩ hP hS (fun H locs hP hS => ?_)
            obtain ⟨z3, hz3, hf⟩ := lett_e hf
            refine cSR (As := [.int x3, .int z2]) (rest := []) ⟨hx, hb, hml, hown, hts⟩ (mX12_min l D T x3 z2 z3 hz3.symm) (va_cwS 2 hts gX12_seesaw_X12_min rfl rfl rfl (by decide +kernel) ⟨Nat.le_of_ble_eq_true rfl, Nat.le_of_ble_eq_true rfl⟩) P0 hK rfl hl.1 rfl (Nat.le_of_ble_eq_true rfl) dX12_seesaw_112 ⟨Nat.le_of_ble_eq_true rfl, Nat.le_of_ble_eq_true rfl⟩ hP hS (fun H locs hP hS => ?_)
            refine lv_istore_n (lv' := [(3, .int z3), (0, .ref h), (1, .int x1), (2, .int x2), (4, .int x4), (5, .int x5), (6, .int x6)]) hx hb dX12_seesaw_115 rfl hl (by decide) rfl (fun ls hl => ?_)
            obtain ⟨t4, et4, hf⟩ := lett_e hf
            refine lv_iinc (v := t4) (lv' := [(4, .int t4), (3, .int z3), (0, .ref h), (1, .int x1), (2, .int x2), (5, .int x5), (6, .int x6)]) hx hb dX12_seesaw_116 hl (k := 4) rfl (by rw [et4]; rfl) (by decide) rfl (fun ls hl => ?_)
            refine lv_goto (tgt := 62) hx hb dX12_seesaw_119 (by decide) ?_
            exact ih62 v x1 x2 z3 t4 _ _ _ hf hP hD hS (lv_sub hl [2, 3, 4, 1, 0] rfl)
          replace hf := ifn c1 hf
          refine lv_aload_n hx hb dX12_seesaw_81 rfl (lv_at hl 0 rfl) ?_
          refine va_get (D := D) (ci := 12) (v := .ref (a 49)) (C := RX12) (T := TX12) (N := 52) hx hb hts hinX12 hown hK.1 hP 0 rfl rfl 49 (by decide) (hts (.fieldLink RX12 95 "RopeScaleModel" "spotOf" "[I") (List.mem_of_getElem? (i := 3) rfl)) (fun _ h9 => h9) rfl dX12_seesaw_82 ?_
          refine lv_iload hx hb dX12_seesaw_85 (lv_at hl 6 rfl) ?_
          refine lv_iload hx hb dX12_seesaw_87 (lv_at hl 5 rfl) ?_
          refine lv_bipush (v := 10) hx hb dX12_seesaw_89 (by decide) ?_
          refine lv_irem hx hb dX12_seesaw_91 (by decide) ?_
          obtain ⟨h8, hf⟩ := gd_e hf
          obtain ⟨u5, eu5, hf⟩ := lett_e hf
          refine va_iast hx hb hK.1 hP hD hS 29 0 rfl rfl h8 dX12_seesaw_92 (fun H locs hP hD hS => ?_)
          have hP : va_P D vwCl (kX12 T h a u5) H := by rw [eu5]; exact hP
          have hD : va_D (va_A (kX12 T h a u) s.heap.size) (kX12 T h a u5) := by rw [eu5]; exact hD
          refine lv_iload hx hb dX12_seesaw_93 (lv_at hl 5 rfl) ?_
          refine lv_bipush (v := 10) hx hb dX12_seesaw_95 (by decide) ?_
          refine lv_idiv hx hb dX12_seesaw_97 (by decide) ?_
          obtain ⟨t6, et6, hf⟩ := lett_e hf
          refine lv_eqi et6 ?_
          refine lv_istore (lv' := [(5, .int t6), (0, .ref h), (1, .int x1), (2, .int x2), (3, .int x3), (4, .int x4), (6, .int x6)]) hx hb dX12_seesaw_98 hl (by decide) rfl (fun ls hl => ?_)
          obtain ⟨t7, et7, hf⟩ := lett_e hf
          refine lv_iinc (v := t7) (lv' := [(6, .int t7), (5, .int t6), (0, .ref h), (1, .int x1), (2, .int x2), (3, .int x3), (4, .int x4)]) hx hb dX12_seesaw_100 hl (k := 6) rfl (by rw [et7]; rfl) (by decide) rfl (fun ls hl => ?_)
          refine lv_goto (tgt := 75) hx hb dX12_seesaw_103 (by decide) ?_
          exact ih75 u5 x1 x2 x3 x4 t6 t7 _ _ _ hf hP hD hS (lv_sub hl [2, 3, 4, 5, 6, 1, 0] rfl)
      intro v x1 x2 x3 x4 H locs ls hf hP hD hS hl
      replace hf : bX12_seesaw_L62  (fX12_seesaw_L62  n62) v x1 x2 x3 x4 = some res := hf
      unfold bX12_seesaw_L62 at hf
      refine lv_iload hx hb dX12_seesaw_62 (lv_at hl 4 rfl) ?_
      refine lv_iload_n hx hb dX12_seesaw_64 rfl (lv_at hl 2 rfl) ?_
      refine lv_icmp_ge (tgt := 122) hx hb dX12_seesaw_65 (by decide) (fun c9 => ?_) (fun c9 => ?_)
      · replace hf := ifp c9 hf
        refine lv_iload_n hx hb dX12_seesaw_122 rfl (lv_at hl 3 rfl) ?_
        have e9 := Option.some.inj hf
        exact retM hx hb hr hlocks hP hD hS (congrArg (fun z => z.1) e9) (congrArg (fun z => (kX12 T h a z.2 : va_W)) e9) dX12_seesaw_123
      replace hf := ifn c9 hf
      refine lv_iload hx hb dX12_seesaw_68 (lv_at hl 4 rfl) ?_
      refine lv_istore (lv' := [(5, .int x4), (0, .ref h), (1, .int x1), (2, .int x2), (3, .int x3), (4, .int x4)]) hx hb dX12_seesaw_70 hl (by decide) rfl (fun ls hl => ?_)
      refine lv_iconst (v := 0) hx hb dX12_seesaw_72 (by decide) ?_
      refine lv_istore (lv' := [(6, .int 0), (5, .int x4), (0, .ref h), (1, .int x1), (2, .int x2), (3, .int x3), (4, .int x4)]) hx hb dX12_seesaw_73 hl (by decide) rfl (fun ls hl => ?_)
      exact L75 FU v x1 x2 x3 x4 x4 0 _ _ _ hf hP hD hS (lv_sub hl [2, 3, 4, 5, 6, 1, 0] rfl)
  have L39 : ∀ (n39 : Nat), ∀ (v : St) (x1 : Int32) (x2 : Int32) (x3 : Int32) (H : Heap) (locs : List Loc) (ls : Array Slot), fX12_seesaw_L39  n39 v x1 x2 x3 = some res → va_P D vwCl (kX12 T h a v) H → va_D (va_A (kX12 T h a u) s.heap.size) (kX12 T h a v) → va_S (va_A (kX12 T h a u) s.heap.size) s.heap H locs → lv_has ls 7 [(0, .ref h), (1, .int x1), (2, .int x2), (3, .int x3)] → W p l e (headSpec wsX12_seesaw ({ frames := 2, cells := 0, slots := 0, locals := 45 })).room s m ([.ref h, .int p1] : List Value).toArray below meth c H locs 0 0 (MQ below (QM D (kX12 T h a u) s.heap.size res.1 (kX12 T h a res.2)) ([.ref h, .int p1] : List Value).toArray s 0 0 (va_A (kX12 T h a u) s.heap.size)) (F0 m 39 ls []) := by
    intro n39
    induction n39 with
    | zero => intro v x1 x2 x3 H locs ls hf; exact nns hf
    | succ n39 ih39 =>
      intro v x1 x2 x3 H locs ls hf hP hD hS hl
      replace hf : bX12_seesaw_L39  (fX12_seesaw_L39  n39) v x1 x2 x3 = some res := hf
      unfold bX12_seesaw_L39 at hf
      refine lv_iload_n hx hb dX12_seesaw_39 rfl (lv_at hl 3 rfl) ?_
      refine lv_iload_n hx hb dX12_seesaw_40 rfl (lv_at hl 1 rfl) ?_
      refine lv_icmp_ge (tgt := 55) hx hb dX12_seesaw_41 (by decide) (fun c10 => ?_) (fun c10 => ?_)
      · replace hf := ifp c10 hf
        refine lv_ldcw (v := 1000000) hx hb hown (hts (.constant RX12 360 (1000000)) (List.mem_of_getElem? (i := 2) rfl)) dX12_seesaw_55 ?_
        refine lv_istore_n (lv' := [(3, .int 1000000), (0, .ref h), (1, .int x1), (2, .int x2)]) hx hb dX12_seesaw_58 rfl hl (by decide) rfl (fun ls hl => ?_)
        refine lv_iconst (v := 0) hx hb dX12_seesaw_59 (by decide) ?_
        refine lv_istore (lv' := [(4, .int 0), (3, .int 1000000), (0, .ref h), (1, .int x1), (2, .int x2)]) hx hb dX12_seesaw_60 hl (by decide) rfl (fun ls hl => ?_)
        exact L62 FU v x1 x2 1000000 0 _ _ _ hf hP hD hS (lv_sub hl [2, 3, 4, 1, 0] rfl)
      replace hf := ifn c10 hf
      refine lv_iload_n hx hb dX12_seesaw_44 rfl (lv_at hl 2 rfl) ?_
      refine lv_bipush (v := 10) hx hb dX12_seesaw_45 (by decide) ?_
      refine lv_imul hx hb dX12_seesaw_47 ?_
      obtain ⟨t11, et11, hf⟩ := lett_e hf
      refine lv_eqi et11 ?_
      refine lv_istore_n (lv' := [(2, .int t11), (0, .ref h), (1, .int x1), (3, .int x3)]) hx hb dX12_seesaw_48 rfl hl (by decide) rfl (fun ls hl => ?_)
      obtain ⟨t12, et12, hf⟩ := lett_e hf
      refine lv_iinc (v := t12) (lv' := [(3, .int t12), (2, .int t11), (0, .ref h), (1, .int x1)]) hx hb dX12_seesaw_49 hl (k := 3) rfl (by rw [et12]; rfl) (by decide) rfl (fun ls hl => ?_)
      refine lv_goto (tgt := 39) hx hb dX12_seesaw_52 (by decide) ?_
      exact ih39 v x1 t11 t12 _ _ _ hf hP hD hS (lv_sub hl [2, 3, 1, 0] rfl)
  unfold fX12_seesaw at hf
  refine lv_iload_n hx hb dX12_seesaw_0 rfl (lv_at hl 1 rfl) ?_
  refine lv_iconst (v := 1) hx hb dX12_seesaw_1 (by decide) ?_
  refine lv_iconst (v := 5) hx hb dX12_seesaw_2 (by decide) ?_
  obtain ⟨z13, hz13, hf⟩ := lett_e hf
  refine cSR (As := [.int p1, .int 1, .int 5]) (rest := []) ⟨hx, hb, hml, hown, hts⟩ (mX12_in l D T p1 1 5 z13 hz13.symm) (va_cwS 3 hts gX12_seesaw_X12_in rfl rfl rfl (by decide +kernel) ⟨Nat.le_of_ble_eq_true rfl, Nat.le_of_ble_eq_true rfl⟩) P0 hK rfl hl.1 rfl (Nat.le_of_ble_eq_true rfl) dX12_seesaw_3 ⟨Nat.le_of_ble_eq_true rfl, Nat.le_of_ble_eq_true rfl⟩ hP hS (fun H locs hP hS => ?_)
  refine lv_if_eq (tgt := 17) hx hb dX12_seesaw_6 (by decide) (fun c14 => ?_) (fun c14 => ?_)
  · replace hf := ifp c14 hf
    refine lv_iconst (v := (-1)) hx hb dX12_seesaw_17 (by decide) ?_
    have e9 := Option.some.inj hf
    exact retM hx hb hr hlocks hP hD hS (congrArg (fun z => z.1) e9) (congrArg (fun z => (kX12 T h a z.2 : va_W)) e9) dX12_seesaw_18
  replace hf := ifn c14 hf
  refine lv_iload_n hx hb dX12_seesaw_9 rfl (lv_at hl 1 rfl) ?_
  refine lv_aload_n hx hb dX12_seesaw_10 rfl (lv_at hl 0 rfl) ?_
  refine va_get (D := D) (ci := 12) (v := .int (u 6 0)) (C := RX12) (T := TX12) (N := 52) hx hb hts hinX12 hown hK.1 hP 0 rfl rfl 6 (by decide) (hts (.fieldLink RX12 119 "RopeScaleModel" "taped" "I") (List.mem_of_getElem? (i := 1) rfl)) (fun _ h9 => h9) rfl dX12_seesaw_11 ?_
  refine lv_icmp_le (tgt := 19) hx hb dX12_seesaw_14 (by decide) (fun c15 => ?_) (fun c15 => ?_)
  · replace hf := ifp c15 hf
    refine lv_aload_n hx hb dX12_seesaw_19 rfl (lv_at hl 0 rfl) ?_
    refine lv_iconst (v := 0) hx hb dX12_seesaw_20 (by decide) ?_
    obtain ⟨u16, eu16, hf⟩ := lett_e hf
    refine va_put (D := D) (ci := 12) (v := .int 0) (ty := .int) (C := RX12) (T := TX12) (N := 52) hx hb hts hinX12 tyX12 tyX12_ok nmX12 hown hK.1 hP hD hS 0 rfl rfl 6 (by decide) (hts (.fieldLink RX12 119 "RopeScaleModel" "taped" "I") (List.mem_of_getElem? (i := 1) rfl)) (fun _ h9 => h9) rfl (tyX12_ok 6 (by decide)) rfl rfl (Nat.le_of_ble_eq_true rfl) dX12_seesaw_21 (fun H locs hP hD hS => ?_)
    have hP : va_P D vwCl (kX12 T h a u16) H := by rw [eu16]; exact hP
    have hD : va_D (va_A (kX12 T h a u) s.heap.size) (kX12 T h a u16) := by rw [eu16]; exact hD
    refine lv_aload_n hx hb dX12_seesaw_24 rfl (lv_at hl 0 rfl) ?_
    refine lv_iload_n hx hb dX12_seesaw_25 rfl (lv_at hl 1 rfl) ?_
    obtain ⟨z17, hz17, hf⟩ := bnd hf
    refine cVR (As := [.int p1]) (rest := []) ⟨hx, hb, hml, hown, hts⟩ (mX12_areAll l D T h a u16 p1 z17 hz17) (cwV 1 hts gX12_seesaw_X12_areAll rfl rfl rfl (by decide +kernel) ⟨Nat.le_of_ble_eq_true rfl, Nat.le_of_ble_eq_true rfl⟩) (va_recv hK.1 hP (ci := 12) (q0 := 0) rfl rfl) hP hK rfl hl.1 rfl (Nat.le_of_ble_eq_true rfl) dX12_seesaw_26 ⟨Nat.le_of_ble_eq_true rfl, Nat.le_of_ble_eq_true rfl⟩ hP hS (fun H locs hP hS => ?_)
    refine lv_if_ne (tgt := 35) hx hb dX12_seesaw_29 (by decide) (fun c18 => ?_) (fun c18 => ?_)
    · replace hf := ifn c18 hf
      refine lv_iconst (v := 1) hx hb dX12_seesaw_35 (by decide) ?_
      refine lv_istore_n (lv' := [(2, .int 1), (0, .ref h), (1, .int p1)]) hx hb dX12_seesaw_36 rfl hl (by decide) rfl (fun ls hl => ?_)
      refine lv_iconst (v := 0) hx hb dX12_seesaw_37 (by decide) ?_
      refine lv_istore_n (lv' := [(3, .int 0), (2, .int 1), (0, .ref h), (1, .int p1)]) hx hb dX12_seesaw_38 rfl hl (by decide) rfl (fun ls hl => ?_)
      exact L39 FU u16 p1 1 0 _ _ _ hf hP hD hS (lv_sub hl [2, 3, 1, 0] rfl)
    replace hf := ifp c18 hf
    refine lv_bipush (v := (-2)) hx hb dX12_seesaw_32 (by decide) ?_
    have e9 := Option.some.inj hf
    exact retM hx hb hr hlocks hP hD hS (congrArg (fun z => z.1) e9) (congrArg (fun z => (kX12 T h a z.2 : va_W)) e9) dX12_seesaw_34
  replace hf := ifn c15 hf
  refine lv_iconst (v := (-1)) hx hb dX12_seesaw_17 (by decide) ?_
  have e9 := Option.some.inj hf
  exact retM hx hb hr hlocks hP hD hS (congrArg (fun z => z.1) e9) (congrArg (fun z => (kX12 T h a z.2 : va_W)) e9) dX12_seesaw_18
def fX12_row_J158  (lp45 : St → Int32 → Int32 → Int32 → Int32 → Int32 → Int32 → Option (Int32 × St)) (v : St) (x1 : Int32) (x2 : Int32) (x3 : Int32) (x5 : Int32) (x6 : Int32) (y0 : Int32) : Option (Int32 × St) := lett (fX12_max x5 y0) fun z1 => lett (x6 + 1) fun t2 => lp45 v x1 x2 x3 y0 z1 t2
def fX12_row_J157  (lp45 : St → Int32 → Int32 → Int32 → Int32 → Int32 → Int32 → Option (Int32 × St)) (v : St) (x1 : Int32) (x2 : Int32) (x3 : Int32) (x5 : Int32) (x6 : Int32) : Option (Int32 × St) := fX12_row_J158 lp45 v x1 x2 x3 x5 x6 1
def bX12_row_L62  (lp45 : St → Int32 → Int32 → Int32 → Int32 → Int32 → Int32 → Option (Int32 × St)) (lp62 : St → Int32 → Int32 → Int32 → Int32 → Int32 → Int32 → Int32 → Option (Int32 × St)) (v : St) (x1 : Int32) (x2 : Int32) (x3 : Int32) (x4 : Int32) (x5 : Int32) (x6 : Int32) (x7 : Int32) : Option (Int32 × St) := if x6 ≤ x7 then gd x6 16 <| lett (fX12_max x3 (v 50 (ix x6))) fun z4 => if x6 ≤ 0 then fX12_row_J157 lp45 v x1 x2 z4 x5 x6 else (fX12_octet v (x6 - 1)).bind fun z6 => (fX12_octet v x6).bind fun z7 => if z7 < z6 then fX12_row_J157 lp45 v x1 x2 z4 x5 x6 else fX12_row_J158 lp45 v x1 x2 z4 x5 x6 (x4 + 1) else (fX12_octet v x7).bind fun z10 => (fX12_octet v x6).bind fun z11 => if z11 < z10 then lett (x7 + 1) fun t13 => lp62 v x1 x2 x3 x4 x5 x6 t13 else gd x6 16 <| gd x7 16 <| lett (fX12_max (v 50 (ix x6)) ((v 50 (ix x7)) + 1)) fun z14 => gd x6 16 <| lett (st v 50 (ix x6) z14) fun u15 => lett (x7 + 1) fun t16 => lp62 u15 x1 x2 x3 x4 x5 x6 t16
def fX12_row_L62  (lp45 : St → Int32 → Int32 → Int32 → Int32 → Int32 → Int32 → Option (Int32 × St)) : Nat → St → Int32 → Int32 → Int32 → Int32 → Int32 → Int32 → Int32 → Option (Int32 × St)
  | 0, _, _, _, _, _, _, _, _ => none
  | n + 1, v, x1, x2, x3, x4, x5, x6, x7 => bX12_row_L62 lp45 (fX12_row_L62 lp45 n) v x1 x2 x3 x4 x5 x6 x7
def bX12_row_L45   (lp45 : St → Int32 → Int32 → Int32 → Int32 → Int32 → Int32 → Option (Int32 × St)) (v : St) (x1 : Int32) (x2 : Int32) (x3 : Int32) (x4 : Int32) (x5 : Int32) (x6 : Int32) : Option (Int32 × St) := if x1 ≤ x6 then if x2 = 0 then some (x1 - x3, v) else some (x5, v) else gd x6 16 <| lett (st v 50 (ix x6) 1) fun u22 => fX12_row_L62 lp45 FU u22 x1 x2 x3 x4 x5 x6 0
def fX12_row_L45   : Nat → St → Int32 → Int32 → Int32 → Int32 → Int32 → Int32 → Option (Int32 × St)
  | 0, _, _, _, _, _, _, _ => none
  | n + 1, v, x1, x2, x3, x4, x5, x6 => bX12_row_L45  (fX12_row_L45  n) v x1 x2 x3 x4 x5 x6
def fX12_row  (u : St) (p1 : Int32) (p2 : Int32) : Option (Int32 × St) := lett (fX12_in p1 1 16) fun z24 => if z24 = 0 then some ((-1), u) else lett (fX12_in p2 0 1) fun z26 => if z26 = 0 then some ((-1), u) else if p1 ≤ (u 6 0) then lett (st u 6 0 0) fun u29 => fX12_row_L45 FU u29 p1 p2 0 0 0 0 else some ((-1), u)
set_option maxHeartbeats 4000000 in
set_option maxRecDepth 100000 in
theorem mX12_row (l : Launch) (D : va_G) (T : Ty3) (h : Nat) (a : Nat → Nat) (u : St) (sz : Nat) (p1 : Int32) (p2 : Int32) (res : Int32 × St) (hf : fX12_row u p1 p2 = some res) : Met l yX12_row wsX12_row ({ frames := 1, cells := 0, slots := 0, locals := 22 }) (PcM D T (kX12 T h a u) sz [.ref h, .int p1, .int p2]) (QM D (kX12 T h a u) sz res.1 (kX12 T h a res.2)) 0 0 (va_A (kX12 T h a u) sz) := by
  refine Met.ofW (cc := cX12_row) (maxL := 8) (ret := (some .int)) (by decide) rfl ?_
  intro p e s m args below meth c s₁ B hml hv
  obtain ⟨rfl, hsz, hP, hK, hD0⟩ := hv
  have hx := B.exec
  have hb := B.bytes
  have hr := B.returns
  have hts := atoms_spec (ws := wsX12_row) B.pre
  have hown : s.vm.findClass RX12 = some m.cls := findClass_of_methodNamed B.named
  have hlocks := B.notSynchronized
  subst hsz
  have hD := hD0.self (sz := s.heap.size)
  have hA : ∀ q : Nat, s.heap.size ≤ q → va_A (kX12 T h a u) s.heap.size q := fun q h => Or.inr h
  have hS : va_S (va_A (kX12 T h a u) s.heap.size) s.heap s.heap [] := va_S.rf
  have hinX12 : ∀ w ∈ u_ws RX12 TX12 52, w ∈ wsX12_row := fun w h => List.mem_cons_of_mem _ (List.mem_append_right _ h)
  have hl := lv_entry ([.ref h, .int p1, .int p2]) (n := 8) (Nat.le_of_ble_eq_true rfl)
  rw [lg_entry_eq]
  generalize (lg_sl ([.ref h, .int p1, .int p2]) ++ List.replicate (8 - (lg_sl ([.ref h, .int p1, .int p2])).length) Slot.unset).toArray = ls at hl ⊢
  have hl : lv_has ls 8 [(0, .ref h), (1, .int p1), (2, .int p2)] := hl
  have L45 : ∀ (n45 : Nat), ∀ (v : St) (x1 : Int32) (x2 : Int32) (x3 : Int32) (x4 : Int32) (x5 : Int32) (x6 : Int32) (H : Heap) (locs : List Loc) (ls : Array Slot), fX12_row_L45  n45 v x1 x2 x3 x4 x5 x6 = some res → va_P D vwCl (kX12 T h a v) H → va_D (va_A (kX12 T h a u) s.heap.size) (kX12 T h a v) → va_S (va_A (kX12 T h a u) s.heap.size) s.heap H locs → lv_has ls 8 [(0, .ref h), (1, .int x1), (2, .int x2), (3, .int x3), (4, .int x4), (5, .int x5), (6, .int x6)] → W p l e (headSpec wsX12_row ({ frames := 1, cells := 0, slots := 0, locals := 22 })).room s m ([.ref h, .int p1, .int p2] : List Value).toArray below meth c H locs 0 0 (MQ below (QM D (kX12 T h a u) s.heap.size res.1 (kX12 T h a res.2)) ([.ref h, .int p1, .int p2] : List Value).toArray s 0 0 (va_A (kX12 T h a u) s.heap.size)) (F0 m 45 ls []) := by
    intro n45
    induction n45 with
    | zero => intro v x1 x2 x3 x4 x5 x6 H locs ls hf; exact nns hf
    | succ n45 ih45 =>
      have J158 : ∀ (v : St) (x1 : Int32) (x2 : Int32) (x3 : Int32) (x5 : Int32) (x6 : Int32) (y0 : Int32) (H : Heap) (locs : List Loc) (ls : Array Slot), fX12_row_J158 (fX12_row_L45  n45) v x1 x2 x3 x5 x6 y0 = some res → va_P D vwCl (kX12 T h a v) H → va_D (va_A (kX12 T h a u) s.heap.size) (kX12 T h a v) → va_S (va_A (kX12 T h a u) s.heap.size) s.heap H locs → lv_has ls 8 [(0, .ref h), (1, .int x1), (2, .int x2), (3, .int x3), (5, .int x5), (6, .int x6)] → W p l e (headSpec wsX12_row ({ frames := 1, cells := 0, slots := 0, locals := 22 })).room s m ([.ref h, .int p1, .int p2] : List Value).toArray below meth c H locs 0 0 (MQ below (QM D (kX12 T h a u) s.heap.size res.1 (kX12 T h a res.2)) ([.ref h, .int p1, .int p2] : List Value).toArray s 0 0 (va_A (kX12 T h a u) s.heap.size)) (F0 m 158 ls [.int y0]) := by
        intro v x1 x2 x3 x5 x6 y0 H locs ls hf hP hD hS hl
        unfold fX12_row_J158 at hf
        refine lv_istore (lv' := [(4, .int y0), (0, .ref h), (1, .int x1), (2, .int x2), (3, .int x3), (5, .int x5), (6, .int x6)]) hx hb dX12_row_158 hl (by decide) rfl (fun ls hl => ?_)
        refine lv_iload hx hb dX12_row_160 (lv_at hl 5 rfl) ?_
        refine lv_iload hx hb dX12_row_162 (lv_at hl 0 rfl) ?_
        obtain ⟨z1, hz1, hf⟩ := lett_e hf
        refine cSR (As := [.int x5, .int y0]) (rest := []) ⟨hx, hb, hml, hown, hts⟩ (mX12_max l D T x5 y0 z1 hz1.symm) (va_cwS 2 hts gX12_row_X12_max rfl rfl rfl (by decide +kernel) ⟨Nat.le_of_ble_eq_true rfl, Nat.le_of_ble_eq_true rfl⟩) P0 hK rfl hl.1 rfl (Nat.le_of_ble_eq_true rfl) dX12_row_164 ⟨Nat.le_of_ble_eq_true rfl, Nat.le_of_ble_eq_true rfl⟩ hP hS (fun H locs hP hS => ?_)
        refine lv_istore (lv' := [(5, .int z1), (4, .int y0), (0, .ref h), (1, .int x1), (2, .int x2), (3, .int x3), (6, .int x6)]) hx hb dX12_row_167 hl (by decide) rfl (fun ls hl => ?_)
        obtain ⟨t2, et2, hf⟩ := lett_e hf
        refine lv_iinc (v := t2) (lv' := [(6, .int t2), (5, .int z1), (4, .int y0), (0, .ref h), (1, .int x1), (2, .int x2), (3, .int x3)]) hx hb dX12_row_169 hl (k := 6) rfl (by rw [et2]; rfl) (by decide) rfl (fun ls hl => ?_)
        refine lv_goto (tgt := 45) hx hb dX12_row_172 (by decide) ?_
        exact ih45 v x1 x2 x3 y0 z1 t2 _ _ _ hf hP hD hS (lv_sub hl [3, 4, 5, 6, 2, 1, 0] rfl)
      have J157 : ∀ (v : St) (x1 : Int32) (x2 : Int32) (x3 : Int32) (x5 : Int32) (x6 : Int32) (H : Heap) (locs : List Loc) (ls : Array Slot), fX12_row_J157 (fX12_row_L45  n45) v x1 x2 x3 x5 x6 = some res → va_P D vwCl (kX12 T h a v) H → va_D (va_A (kX12 T h a u) s.heap.size) (kX12 T h a v) → va_S (va_A (kX12 T h a u) s.heap.size) s.heap H locs → lv_has ls 8 [(0, .ref h), (1, .int x1), (2, .int x2), (3, .int x3), (5, .int x5), (6, .int x6)] → W p l e (headSpec wsX12_row ({ frames := 1, cells := 0, slots := 0, locals := 22 })).room s m ([.ref h, .int p1, .int p2] : List Value).toArray below meth c H locs 0 0 (MQ below (QM D (kX12 T h a u) s.heap.size res.1 (kX12 T h a res.2)) ([.ref h, .int p1, .int p2] : List Value).toArray s 0 0 (va_A (kX12 T h a u) s.heap.size)) (F0 m 157 ls []) := by
        intro v x1 x2 x3 x5 x6 H locs ls hf hP hD hS hl
        unfold fX12_row_J157 at hf
        refine lv_iconst (v := 1) hx hb dX12_row_157 (by decide) ?_
        exact J158 v x1 x2 x3 x5 x6 1 _ _ _ hf hP hD hS (lv_sub hl [0, 1, 2, 3, 4, 5] rfl)
      have L62 : ∀ (n62 : Nat), ∀ (v : St) (x1 : Int32) (x2 : Int32) (x3 : Int32) (x4 : Int32) (x5 : Int32) (x6 : Int32) (x7 : Int32) (H : Heap) (locs : List Loc) (ls : Array Slot), fX12_row_L62 (fX12_row_L45  n45) n62 v x1 x2 x3 x4 x5 x6 x7 = some res → va_P D vwCl (kX12 T h a v) H → va_D (va_A (kX12 T h a u) s.heap.size) (kX12 T h a v) → va_S (va_A (kX12 T h a u) s.heap.size) s.heap H locs → lv_has ls 8 [(0, .ref h), (1, .int x1), (2, .int x2), (3, .int x3), (4, .int x4), (5, .int x5), (6, .int x6), (7, .int x7)] → W p l e (headSpec wsX12_row ({ frames := 1, cells := 0, slots := 0, locals := 22 })).room s m ([.ref h, .int p1, .int p2] : List Value).toArray below meth c H locs 0 0 (MQ below (QM D (kX12 T h a u) s.heap.size res.1 (kX12 T h a res.2)) ([.ref h, .int p1, .int p2] : List Value).toArray s 0 0 (va_A (kX12 T h a u) s.heap.size)) (F0 m 62 ls []) := by
        intro n62
        induction n62 with
        | zero => intro v x1 x2 x3 x4 x5 x6 x7 H locs ls hf; exact nns hf
        | succ n62 ih62 =>
          intro v x1 x2 x3 x4 x5 x6 x7 H locs ls hf hP hD hS hl
          replace hf : bX12_row_L62 (fX12_row_L45  n45) (fX12_row_L62 (fX12_row_L45  n45) n62) v x1 x2 x3 x4 x5 x6 x7 = some res := hf
          unfold bX12_row_L62 at hf
          refine lv_iload hx hb dX12_row_62 (lv_at hl 7 rfl) ?_
          refine lv_iload hx hb dX12_row_64 (lv_at hl 6 rfl) ?_
          refine lv_icmp_ge (tgt := 116) hx hb dX12_row_66 (by decide) (fun c3 => ?_) (fun c3 => ?_)
          · replace hf := ifp c3 hf
            refine lv_iload_n hx hb dX12_row_116 rfl (lv_at hl 3 rfl) ?_
            refine lv_aload_n hx hb dX12_row_117 rfl (lv_at hl 0 rfl) ?_
            refine va_get (D := D) (ci := 12) (v := .ref (a 50)) (C := RX12) (T := TX12) (N := 52) hx hb hts hinX12 hown hK.1 hP 0 rfl rfl 50 (by decide) (hts (.fieldLink RX12 98 "RopeScaleModel" "risesTo" "[I") (List.mem_of_getElem? (i := 2) rfl)) (fun _ h9 => h9) rfl dX12_row_118 ?_
            refine lv_iload hx hb dX12_row_121 (lv_at hl 6 rfl) ?_
            obtain ⟨h9, hf⟩ := gd_e hf
            refine va_iald hx hb hK.1 hP 30 0 rfl rfl h9 dX12_row_123 ?_
            obtain ⟨z4, hz4, hf⟩ := lett_e hf
            refine cSR (As := [.int x3, .int (v 50 (ix x6))]) (rest := []) ⟨hx, hb, hml, hown, hts⟩ (mX12_max l D T x3 (v 50 (ix x6)) z4 hz4.symm) (va_cwS 2 hts gX12_row_X12_max rfl rfl rfl (by decide +kernel) ⟨Nat.le_of_ble_eq_true rfl, Nat.le_of_ble_eq_true rfl⟩) P0 hK rfl hl.1 rfl (Nat.le_of_ble_eq_true rfl) dX12_row_124 ⟨Nat.le_of_ble_eq_true rfl, Nat.le_of_ble_eq_true rfl⟩ hP hS (fun H locs hP hS => ?_)
            refine lv_istore_n (lv' := [(3, .int z4), (0, .ref h), (1, .int x1), (2, .int x2), (4, .int x4), (5, .int x5), (6, .int x6), (7, .int x7)]) hx hb dX12_row_127 rfl hl (by decide) rfl (fun ls hl => ?_)
            refine lv_iload hx hb dX12_row_128 (lv_at hl 6 rfl) ?_
            refine lv_if_le (tgt := 157) hx hb dX12_row_130 (by decide) (fun c5 => ?_) (fun c5 => ?_)
            · replace hf := ifp c5 hf
              exact J157 v x1 x2 z4 x5 x6 _ _ _ hf hP hD hS (lv_sub hl [1, 2, 3, 0, 5, 6] rfl)
            replace hf := ifn c5 hf
            refine lv_aload_n hx hb dX12_row_133 rfl (lv_at hl 1 rfl) ?_
            refine lv_iload hx hb dX12_row_134 (lv_at hl 6 rfl) ?_
            refine lv_iconst (v := 1) hx hb dX12_row_136 (by decide) ?_
            refine lv_isub hx hb dX12_row_137 ?_
            obtain ⟨z6, hz6, hf⟩ := bnd hf
            refine cVR (As := [.int (x6 - 1)]) (rest := []) ⟨hx, hb, hml, hown, hts⟩ (mX12_octet l D T h a v (x6 - 1) z6 hz6) (cwV 1 hts gX12_row_X12_octet rfl rfl rfl (by decide +kernel) ⟨Nat.le_of_ble_eq_true rfl, Nat.le_of_ble_eq_true rfl⟩) (va_recv hK.1 hP (ci := 12) (q0 := 0) rfl rfl) hP hK rfl hl.1 rfl (Nat.le_of_ble_eq_true rfl) dX12_row_138 ⟨Nat.le_of_ble_eq_true rfl, Nat.le_of_ble_eq_true rfl⟩ hP hS (fun H locs hP hS => ?_)
            refine lv_aload_n hx hb dX12_row_141 rfl (lv_at hl 1 rfl) ?_
            refine lv_iload hx hb dX12_row_142 (lv_at hl 6 rfl) ?_
            obtain ⟨z7, hz7, hf⟩ := bnd hf
            refine cVR (As := [.int x6]) (rest := [.int z6]) ⟨hx, hb, hml, hown, hts⟩ (mX12_octet l D T h a v x6 z7 hz7) (cwV 1 hts gX12_row_X12_octet rfl rfl rfl (by decide +kernel) ⟨Nat.le_of_ble_eq_true rfl, Nat.le_of_ble_eq_true rfl⟩) (va_recv hK.1 hP (ci := 12) (q0 := 0) rfl rfl) hP hK rfl hl.1 rfl (Nat.le_of_ble_eq_true rfl) dX12_row_144 ⟨Nat.le_of_ble_eq_true rfl, Nat.le_of_ble_eq_true rfl⟩ hP hS (fun H locs hP hS => ?_)
            refine lv_icmp_gt (tgt := 157) hx hb dX12_row_147 (by decide) (fun c8 => ?_) (fun c8 => ?_)
            · replace hf := ifp c8 hf
              exact J157 v x1 x2 z4 x5 x6 _ _ _ hf hP hD hS (lv_sub hl [1, 2, 3, 0, 5, 6] rfl)
            replace hf := ifn c8 hf
            refine lv_iload hx hb dX12_row_150 (lv_at hl 4 rfl) ?_
            refine lv_iconst (v := 1) hx hb dX12_row_152 (by decide) ?_
            refine lv_iadd hx hb dX12_row_153 ?_
            refine lv_goto (tgt := 158) hx hb dX12_row_154 (by decide) ?_
            exact J158 v x1 x2 z4 x5 x6 (x4 + 1) _ _ _ hf hP hD hS (lv_sub hl [1, 2, 3, 0, 5, 6] rfl)
          replace hf := ifn c3 hf
          refine lv_aload_n hx hb dX12_row_69 rfl (lv_at hl 0 rfl) ?_
          refine lv_iload hx hb dX12_row_70 (lv_at hl 7 rfl) ?_
          obtain ⟨z10, hz10, hf⟩ := bnd hf
          refine cVR (As := [.int x7]) (rest := []) ⟨hx, hb, hml, hown, hts⟩ (mX12_octet l D T h a v x7 z10 hz10) (cwV 1 hts gX12_row_X12_octet rfl rfl rfl (by decide +kernel) ⟨Nat.le_of_ble_eq_true rfl, Nat.le_of_ble_eq_true rfl⟩) (va_recv hK.1 hP (ci := 12) (q0 := 0) rfl rfl) hP hK rfl hl.1 rfl (Nat.le_of_ble_eq_true rfl) dX12_row_72 ⟨Nat.le_of_ble_eq_true rfl, Nat.le_of_ble_eq_true rfl⟩ hP hS (fun H locs hP hS => ?_)
          refine lv_aload_n hx hb dX12_row_75 rfl (lv_at hl 0 rfl) ?_
          refine lv_iload hx hb dX12_row_76 (lv_at hl 6 rfl) ?_
          obtain ⟨z11, hz11, hf⟩ := bnd hf
          refine cVR (As := [.int x6]) (rest := [.int z10]) ⟨hx, hb, hml, hown, hts⟩ (mX12_octet l D T h a v x6 z11 hz11) (cwV 1 hts gX12_row_X12_octet rfl rfl rfl (by decide +kernel) ⟨Nat.le_of_ble_eq_true rfl, Nat.le_of_ble_eq_true rfl⟩) (va_recv hK.1 hP (ci := 12) (q0 := 0) rfl rfl) hP hK rfl hl.1 rfl (Nat.le_of_ble_eq_true rfl) dX12_row_78 ⟨Nat.le_of_ble_eq_true rfl, Nat.le_of_ble_eq_true rfl⟩ hP hS (fun H locs hP hS => ?_)
          refine lv_icmp_gt (tgt := 110) hx hb dX12_row_81 (by decide) (fun c12 => ?_) (fun c12 => ?_)
          · replace hf := ifp c12 hf
            obtain ⟨t13, et13, hf⟩ := lett_e hf
            refine lv_iinc (v := t13) (lv' := [(7, .int t13), (0, .ref h), (1, .int x1), (2, .int x2), (3, .int x3), (4, .int x4), (5, .int x5), (6, .int x6)]) hx hb dX12_row_110 hl (k := 7) rfl (by rw [et13]; rfl) (by decide) rfl (fun ls hl => ?_)
            refine lv_goto (tgt := 62) hx hb dX12_row_113 (by decide) ?_
            exact ih62 v x1 x2 x3 x4 x5 x6 t13 _ _ _ hf hP hD hS (lv_sub hl [1, 2, 3, 4, 5, 6, 7, 0] rfl)
          replace hf := ifn c12 hf
          refine lv_aload_n hx hb dX12_row_84 rfl (lv_at hl 0 rfl) ?_
          refine va_get (D := D) (ci := 12) (v := .ref (a 50)) (C := RX12) (T := TX12) (N := 52) hx hb hts hinX12 hown hK.1 hP 0 rfl rfl 50 (by decide) (hts (.fieldLink RX12 98 "RopeScaleModel" "risesTo" "[I") (List.mem_of_getElem? (i := 2) rfl)) (fun _ h9 => h9) rfl dX12_row_85 ?_
          refine lv_iload hx hb dX12_row_88 (lv_at hl 6 rfl) ?_
          refine lv_aload_n hx hb dX12_row_90 rfl (lv_at hl 0 rfl) ?_
          refine va_get (D := D) (ci := 12) (v := .ref (a 50)) (C := RX12) (T := TX12) (N := 52) hx hb hts hinX12 hown hK.1 hP 0 rfl rfl 50 (by decide) (hts (.fieldLink RX12 98 "RopeScaleModel" "risesTo" "[I") (List.mem_of_getElem? (i := 2) rfl)) (fun _ h9 => h9) rfl dX12_row_91 ?_
          refine lv_iload hx hb dX12_row_94 (lv_at hl 6 rfl) ?_
          obtain ⟨h19, hf⟩ := gd_e hf
          refine va_iald hx hb hK.1 hP 30 0 rfl rfl h19 dX12_row_96 ?_
          refine lv_aload_n hx hb dX12_row_97 rfl (lv_at hl 0 rfl) ?_
          refine va_get (D := D) (ci := 12) (v := .ref (a 50)) (C := RX12) (T := TX12) (N := 52) hx hb hts hinX12 hown hK.1 hP 0 rfl rfl 50 (by decide) (hts (.fieldLink RX12 98 "RopeScaleModel" "risesTo" "[I") (List.mem_of_getElem? (i := 2) rfl)) (fun _ h9 => h9) rfl dX12_row_98 ?_
          refine lv_iload hx hb dX12_row_101 (lv_at hl 7 rfl) ?_
          obtain ⟨h18, hf⟩ := gd_e hf
          refine va_iald hx hb hK.1 hP 30 0 rfl rfl h18 dX12_row_103 ?_
          refine lv_iconst (v := 1) hx hb dX12_row_104 (by decide) ?_
          refine lv_iadd hx hb dX12_row_105 ?_
          obtain ⟨z14, hz14, hf⟩ := lett_e hf
          refine cSR (As := [.int (v 50 (ix x6)), .int ((v 50 (ix x7)) + 1)]) (rest := [.int x6, .ref (a 50)]) ⟨hx, hb, hml, hown, hts⟩ (mX12_max l D T (v 50 (ix x6)) ((v 50 (ix x7)) + 1) z14 hz14.symm) (va_cwS 2 hts gX12_row_X12_max rfl rfl rfl (by decide +kernel) ⟨Nat.le_of_ble_eq_true rfl, Nat.le_of_ble_eq_true rfl⟩) P0 hK rfl hl.1 rfl (Nat.le_of_ble_eq_true rfl) dX12_row_106 ⟨Nat.le_of_ble_eq_true rfl, Nat.le_of_ble_eq_true rfl⟩ hP hS (fun H locs hP hS => ?_)
          obtain ⟨h17, hf⟩ := gd_e hf
          obtain ⟨u15, eu15, hf⟩ := lett_e hf
          refine va_iast hx hb hK.1 hP hD hS 30 0 rfl rfl h17 dX12_row_109 (fun H locs hP hD hS => ?_)
          have hP : va_P D vwCl (kX12 T h a u15) H := by rw [eu15]; exact hP
          have hD : va_D (va_A (kX12 T h a u) s.heap.size) (kX12 T h a u15) := by rw [eu15]; exact hD
          obtain ⟨t16, et16, hf⟩ := lett_e hf
          refine lv_iinc (v := t16) (lv' := [(7, .int t16), (0, .ref h), (1, .int x1), (2, .int x2), (3, .int x3), (4, .int x4), (5, .int x5), (6, .int x6)]) hx hb dX12_row_110 hl (k := 7) rfl (by rw [et16]; rfl) (by decide) rfl (fun ls hl => ?_)
          refine lv_goto (tgt := 62) hx hb dX12_row_113 (by decide) ?_
          exact ih62 u15 x1 x2 x3 x4 x5 x6 t16 _ _ _ hf hP hD hS (lv_sub hl [1, 2, 3, 4, 5, 6, 7, 0] rfl)
      intro v x1 x2 x3 x4 x5 x6 H locs ls hf hP hD hS hl
      replace hf : bX12_row_L45  (fX12_row_L45  n45) v x1 x2 x3 x4 x5 x6 = some res := hf
      unfold bX12_row_L45 at hf
      refine lv_iload hx hb dX12_row_45 (lv_at hl 6 rfl) ?_
      refine lv_iload_n hx hb dX12_row_47 rfl (lv_at hl 1 rfl) ?_
      refine lv_icmp_ge (tgt := 175) hx hb dX12_row_48 (by decide) (fun c20 => ?_) (fun c20 => ?_)
      · replace hf := ifp c20 hf
        refine lv_iload_n hx hb dX12_row_175 rfl (lv_at hl 2 rfl) ?_
        refine lv_if_ne (tgt := 185) hx hb dX12_row_176 (by decide) (fun c21 => ?_) (fun c21 => ?_)
        · replace hf := ifn c21 hf
          refine lv_iload hx hb dX12_row_185 (lv_at hl 5 rfl) ?_
          have e9 := Option.some.inj hf
          exact retM hx hb hr hlocks hP hD hS (congrArg (fun z => z.1) e9) (congrArg (fun z => (kX12 T h a z.2 : va_W)) e9) dX12_row_187
        replace hf := ifp c21 hf
        refine lv_iload_n hx hb dX12_row_179 rfl (lv_at hl 1 rfl) ?_
        refine lv_iload_n hx hb dX12_row_180 rfl (lv_at hl 3 rfl) ?_
        refine lv_isub hx hb dX12_row_181 ?_
        refine lv_goto (tgt := 187) hx hb dX12_row_182 (by decide) ?_
        have e9 := Option.some.inj hf
        exact retM hx hb hr hlocks hP hD hS (congrArg (fun z => z.1) e9) (congrArg (fun z => (kX12 T h a z.2 : va_W)) e9) dX12_row_187
      replace hf := ifn c20 hf
      refine lv_aload_n hx hb dX12_row_51 rfl (lv_at hl 0 rfl) ?_
      refine va_get (D := D) (ci := 12) (v := .ref (a 50)) (C := RX12) (T := TX12) (N := 52) hx hb hts hinX12 hown hK.1 hP 0 rfl rfl 50 (by decide) (hts (.fieldLink RX12 98 "RopeScaleModel" "risesTo" "[I") (List.mem_of_getElem? (i := 2) rfl)) (fun _ h9 => h9) rfl dX12_row_52 ?_
      refine lv_iload hx hb dX12_row_55 (lv_at hl 6 rfl) ?_
      refine lv_iconst (v := 1) hx hb dX12_row_57 (by decide) ?_
      obtain ⟨h23, hf⟩ := gd_e hf
      obtain ⟨u22, eu22, hf⟩ := lett_e hf
      refine va_iast hx hb hK.1 hP hD hS 30 0 rfl rfl h23 dX12_row_58 (fun H locs hP hD hS => ?_)
      have hP : va_P D vwCl (kX12 T h a u22) H := by rw [eu22]; exact hP
      have hD : va_D (va_A (kX12 T h a u) s.heap.size) (kX12 T h a u22) := by rw [eu22]; exact hD
      refine lv_iconst (v := 0) hx hb dX12_row_59 (by decide) ?_
      refine lv_istore (lv' := [(7, .int 0), (0, .ref h), (1, .int x1), (2, .int x2), (3, .int x3), (4, .int x4), (5, .int x5), (6, .int x6)]) hx hb dX12_row_60 hl (by decide) rfl (fun ls hl => ?_)
      exact L62 FU u22 x1 x2 x3 x4 x5 x6 0 _ _ _ hf hP hD hS (lv_sub hl [1, 2, 3, 4, 5, 6, 7, 0] rfl)
  unfold fX12_row at hf
  refine lv_iload_n hx hb dX12_row_0 rfl (lv_at hl 1 rfl) ?_
  refine lv_iconst (v := 1) hx hb dX12_row_1 (by decide) ?_
  refine lv_bipush (v := 16) hx hb dX12_row_2 (by decide) ?_
  obtain ⟨z24, hz24, hf⟩ := lett_e hf
  refine cSR (As := [.int p1, .int 1, .int 16]) (rest := []) ⟨hx, hb, hml, hown, hts⟩ (mX12_in l D T p1 1 16 z24 hz24.symm) (va_cwS 3 hts gX12_row_X12_in rfl rfl rfl (by decide +kernel) ⟨Nat.le_of_ble_eq_true rfl, Nat.le_of_ble_eq_true rfl⟩) P0 hK rfl hl.1 rfl (Nat.le_of_ble_eq_true rfl) dX12_row_4 ⟨Nat.le_of_ble_eq_true rfl, Nat.le_of_ble_eq_true rfl⟩ hP hS (fun H locs hP hS => ?_)
  refine lv_if_eq (tgt := 27) hx hb dX12_row_7 (by decide) (fun c25 => ?_) (fun c25 => ?_)
  · replace hf := ifp c25 hf
    refine lv_iconst (v := (-1)) hx hb dX12_row_27 (by decide) ?_
    have e9 := Option.some.inj hf
    exact retM hx hb hr hlocks hP hD hS (congrArg (fun z => z.1) e9) (congrArg (fun z => (kX12 T h a z.2 : va_W)) e9) dX12_row_28
  replace hf := ifn c25 hf
  refine lv_iload_n hx hb dX12_row_10 rfl (lv_at hl 2 rfl) ?_
  refine lv_iconst (v := 0) hx hb dX12_row_11 (by decide) ?_
  refine lv_iconst (v := 1) hx hb dX12_row_12 (by decide) ?_
  obtain ⟨z26, hz26, hf⟩ := lett_e hf
  refine cSR (As := [.int p2, .int 0, .int 1]) (rest := []) ⟨hx, hb, hml, hown, hts⟩ (mX12_in l D T p2 0 1 z26 hz26.symm) (va_cwS 3 hts gX12_row_X12_in rfl rfl rfl (by decide +kernel) ⟨Nat.le_of_ble_eq_true rfl, Nat.le_of_ble_eq_true rfl⟩) P0 hK rfl hl.1 rfl (Nat.le_of_ble_eq_true rfl) dX12_row_13 ⟨Nat.le_of_ble_eq_true rfl, Nat.le_of_ble_eq_true rfl⟩ hP hS (fun H locs hP hS => ?_)
  refine lv_if_eq (tgt := 27) hx hb dX12_row_16 (by decide) (fun c27 => ?_) (fun c27 => ?_)
  · replace hf := ifp c27 hf
    refine lv_iconst (v := (-1)) hx hb dX12_row_27 (by decide) ?_
    have e9 := Option.some.inj hf
    exact retM hx hb hr hlocks hP hD hS (congrArg (fun z => z.1) e9) (congrArg (fun z => (kX12 T h a z.2 : va_W)) e9) dX12_row_28
  replace hf := ifn c27 hf
  refine lv_iload_n hx hb dX12_row_19 rfl (lv_at hl 1 rfl) ?_
  refine lv_aload_n hx hb dX12_row_20 rfl (lv_at hl 0 rfl) ?_
  refine va_get (D := D) (ci := 12) (v := .int (u 6 0)) (C := RX12) (T := TX12) (N := 52) hx hb hts hinX12 hown hK.1 hP 0 rfl rfl 6 (by decide) (hts (.fieldLink RX12 119 "RopeScaleModel" "taped" "I") (List.mem_of_getElem? (i := 1) rfl)) (fun _ h9 => h9) rfl dX12_row_21 ?_
  refine lv_icmp_le (tgt := 29) hx hb dX12_row_24 (by decide) (fun c28 => ?_) (fun c28 => ?_)
  · replace hf := ifp c28 hf
    refine lv_aload_n hx hb dX12_row_29 rfl (lv_at hl 0 rfl) ?_
    refine lv_iconst (v := 0) hx hb dX12_row_30 (by decide) ?_
    obtain ⟨u29, eu29, hf⟩ := lett_e hf
    refine va_put (D := D) (ci := 12) (v := .int 0) (ty := .int) (C := RX12) (T := TX12) (N := 52) hx hb hts hinX12 tyX12 tyX12_ok nmX12 hown hK.1 hP hD hS 0 rfl rfl 6 (by decide) (hts (.fieldLink RX12 119 "RopeScaleModel" "taped" "I") (List.mem_of_getElem? (i := 1) rfl)) (fun _ h9 => h9) rfl (tyX12_ok 6 (by decide)) rfl rfl (Nat.le_of_ble_eq_true rfl) dX12_row_31 (fun H locs hP hD hS => ?_)
    have hP : va_P D vwCl (kX12 T h a u29) H := by rw [eu29]; exact hP
    have hD : va_D (va_A (kX12 T h a u) s.heap.size) (kX12 T h a u29) := by rw [eu29]; exact hD
    refine lv_iconst (v := 0) hx hb dX12_row_34 (by decide) ?_
    refine lv_istore_n (lv' := [(3, .int 0), (0, .ref h), (1, .int p1), (2, .int p2)]) hx hb dX12_row_35 rfl hl (by decide) rfl (fun ls hl => ?_)
    refine lv_iconst (v := 0) hx hb dX12_row_36 (by decide) ?_
    refine lv_istore (lv' := [(4, .int 0), (3, .int 0), (0, .ref h), (1, .int p1), (2, .int p2)]) hx hb dX12_row_37 hl (by decide) rfl (fun ls hl => ?_)
    refine lv_iconst (v := 0) hx hb dX12_row_39 (by decide) ?_
    refine lv_istore (lv' := [(5, .int 0), (4, .int 0), (3, .int 0), (0, .ref h), (1, .int p1), (2, .int p2)]) hx hb dX12_row_40 hl (by decide) rfl (fun ls hl => ?_)
    refine lv_iconst (v := 0) hx hb dX12_row_42 (by decide) ?_
    refine lv_istore (lv' := [(6, .int 0), (5, .int 0), (4, .int 0), (3, .int 0), (0, .ref h), (1, .int p1), (2, .int p2)]) hx hb dX12_row_43 hl (by decide) rfl (fun ls hl => ?_)
    exact L45 FU u29 p1 p2 0 0 0 0 _ _ _ hf hP hD hS (lv_sub hl [4, 5, 6, 3, 2, 1, 0] rfl)
  replace hf := ifn c28 hf
  refine lv_iconst (v := (-1)) hx hb dX12_row_27 (by decide) ?_
  have e9 := Option.some.inj hf
  exact retM hx hb hr hlocks hP hD hS (congrArg (fun z => z.1) e9) (congrArg (fun z => (kX12 T h a z.2 : va_W)) e9) dX12_row_28
def fX12_falseOne_J53  (lp30 : Int32 → Int32 → Int32 → Int32 → Option (Int32)) (x1 : Int32) (x2 : Int32) (x3 : Int32) (x4 : Int32) : Option (Int32) := lett (x3 + 1) fun t1 => lett (3 * x4) fun t2 => lp30 x1 x2 t1 t2
def bX12_falseOne_L30   (lp30 : Int32 → Int32 → Int32 → Int32 → Option (Int32)) (x1 : Int32) (x2 : Int32) (x3 : Int32) (x4 : Int32) : Option (Int32) := if x2 = 0 then if x1 ≤ ((x4 - 3) / 2) then some x3 else fX12_falseOne_J53 lp30 x1 x2 x3 x4 else if x1 ≤ x4 then some x3 else fX12_falseOne_J53 lp30 x1 x2 x3 x4
def fX12_falseOne_L30   : Nat → Int32 → Int32 → Int32 → Int32 → Option (Int32)
  | 0, _, _, _, _ => none
  | n + 1, x1, x2, x3, x4 => bX12_falseOne_L30  (fX12_falseOne_L30  n) x1 x2 x3 x4
def fX12_falseOne   (p1 : Int32) (p2 : Int32) : Option (Int32) := lett (fX12_in p1 1 9999) fun z6 => if z6 = 0 then some (-1) else if p2 = 0 then if 3 ≤ p1 then fX12_falseOne_L30 FU p1 p2 0 1 else some (-2) else fX12_falseOne_L30 FU p1 p2 0 1
set_option maxHeartbeats 4000000 in
set_option maxRecDepth 100000 in
theorem mX12_falseOne (l : Launch) (D : va_G) (T : Ty3) (h : Nat) (a : Nat → Nat) (u : St) (p1 : Int32) (p2 : Int32) (res : Int32) (hf : fX12_falseOne p1 p2 = some res) : Met l yX12_falseOne wsX12_falseOne ({ frames := 1, cells := 0, slots := 0, locals := 22 }) (PcR D T (kX12 T h a u) [.ref h, .int p1, .int p2]) (QR res) 0 0 noA := by
  refine Met.ofW (cc := cX12_falseOne) (maxL := 5) (ret := (some .int)) (by decide) rfl ?_
  intro p e s m args below meth c s₁ B hml hv
  obtain ⟨rfl, hP, hK⟩ := hv
  have hx := B.exec
  have hb := B.bytes
  have hr := B.returns
  have hts := atoms_spec (ws := wsX12_falseOne) B.pre
  have hown : s.vm.findClass RX12 = some m.cls := findClass_of_methodNamed B.named
  have hlocks := B.notSynchronized
  have hS : va_S noA s.heap s.heap [] := va_S.rf
  have hl := lv_entry ([.ref h, .int p1, .int p2]) (n := 5) (Nat.le_of_ble_eq_true rfl)
  rw [lg_entry_eq]
  generalize (lg_sl ([.ref h, .int p1, .int p2]) ++ List.replicate (5 - (lg_sl ([.ref h, .int p1, .int p2])).length) Slot.unset).toArray = ls at hl ⊢
  have hl : lv_has ls 5 [(0, .ref h), (1, .int p1), (2, .int p2)] := hl
  have L30 : ∀ (n30 : Nat), ∀ (x1 : Int32) (x2 : Int32) (x3 : Int32) (x4 : Int32) (H : Heap) (locs : List Loc) (ls : Array Slot), fX12_falseOne_L30  n30 x1 x2 x3 x4 = some res → va_P D vwCl (kX12 T h a u) H → va_S noA s.heap H locs → lv_has ls 5 [(1, .int x1), (2, .int x2), (3, .int x3), (4, .int x4)] → W p l e (headSpec wsX12_falseOne ({ frames := 1, cells := 0, slots := 0, locals := 22 })).room s m ([.ref h, .int p1, .int p2] : List Value).toArray below meth c H locs 0 0 (MQ below (QR res) ([.ref h, .int p1, .int p2] : List Value).toArray s 0 0 noA) (F0 m 30 ls []) := by
    intro n30
    induction n30 with
    | zero => intro x1 x2 x3 x4 H locs ls hf; exact nns hf
    | succ n30 ih30 =>
      have J53 : ∀ (x1 : Int32) (x2 : Int32) (x3 : Int32) (x4 : Int32) (H : Heap) (locs : List Loc) (ls : Array Slot), fX12_falseOne_J53 (fX12_falseOne_L30  n30) x1 x2 x3 x4 = some res → va_P D vwCl (kX12 T h a u) H → va_S noA s.heap H locs → lv_has ls 5 [(1, .int x1), (2, .int x2), (3, .int x3), (4, .int x4)] → W p l e (headSpec wsX12_falseOne ({ frames := 1, cells := 0, slots := 0, locals := 22 })).room s m ([.ref h, .int p1, .int p2] : List Value).toArray below meth c H locs 0 0 (MQ below (QR res) ([.ref h, .int p1, .int p2] : List Value).toArray s 0 0 noA) (F0 m 53 ls []) := by
        intro x1 x2 x3 x4 H locs ls hf hP hS hl
        unfold fX12_falseOne_J53 at hf
        refine lv_iload_n hx hb dX12_falseOne_53 rfl (lv_at hl 2 rfl) ?_
        refine lv_iconst (v := 1) hx hb dX12_falseOne_54 (by decide) ?_
        refine lv_iadd hx hb dX12_falseOne_55 ?_
        obtain ⟨t1, et1, hf⟩ := lett_e hf
        refine lv_eqi et1 ?_
        refine lv_istore_n (lv' := [(3, .int t1), (1, .int x1), (2, .int x2), (4, .int x4)]) hx hb dX12_falseOne_56 rfl hl (by decide) rfl (fun ls hl => ?_)
        refine lv_iconst (v := 3) hx hb dX12_falseOne_57 (by decide) ?_
        refine lv_iload hx hb dX12_falseOne_58 (lv_at hl 3 rfl) ?_
        refine lv_imul hx hb dX12_falseOne_60 ?_
        obtain ⟨t2, et2, hf⟩ := lett_e hf
        refine lv_eqi et2 ?_
        refine lv_istore (lv' := [(4, .int t2), (3, .int t1), (1, .int x1), (2, .int x2)]) hx hb dX12_falseOne_61 hl (by decide) rfl (fun ls hl => ?_)
        refine lv_goto (tgt := 30) hx hb dX12_falseOne_63 (by decide) ?_
        exact ih30 x1 x2 t1 t2 _ _ _ hf hP hS (lv_sub hl [2, 3, 1, 0] rfl)
      intro x1 x2 x3 x4 H locs ls hf hP hS hl
      replace hf : bX12_falseOne_L30  (fX12_falseOne_L30  n30) x1 x2 x3 x4 = some res := hf
      unfold bX12_falseOne_L30 at hf
      refine lv_iload_n hx hb dX12_falseOne_30 rfl (lv_at hl 1 rfl) ?_
      refine lv_if_eq (tgt := 43) hx hb dX12_falseOne_31 (by decide) (fun c3 => ?_) (fun c3 => ?_)
      · replace hf := ifp c3 hf
        refine lv_iload hx hb dX12_falseOne_43 (lv_at hl 3 rfl) ?_
        refine lv_iconst (v := 3) hx hb dX12_falseOne_45 (by decide) ?_
        refine lv_isub hx hb dX12_falseOne_46 ?_
        refine lv_iconst (v := 2) hx hb dX12_falseOne_47 (by decide) ?_
        refine lv_idiv hx hb dX12_falseOne_48 (by decide) ?_
        refine lv_iload_n hx hb dX12_falseOne_49 rfl (lv_at hl 0 rfl) ?_
        refine lv_icmp_ge (tgt := 66) hx hb dX12_falseOne_50 (by decide) (fun c4 => ?_) (fun c4 => ?_)
        · replace hf := ifp c4 hf
          refine lv_iload_n hx hb dX12_falseOne_66 rfl (lv_at hl 2 rfl) ?_
          exact retR hx hb hr hlocks hS (Option.some.inj hf) dX12_falseOne_67
        replace hf := ifn c4 hf
        exact J53 x1 x2 x3 x4 _ _ _ hf hP hS (lv_sub hl [0, 1, 2, 3] rfl)
      replace hf := ifn c3 hf
      refine lv_iload hx hb dX12_falseOne_34 (lv_at hl 3 rfl) ?_
      refine lv_iload_n hx hb dX12_falseOne_36 rfl (lv_at hl 0 rfl) ?_
      refine lv_icmp_ge (tgt := 66) hx hb dX12_falseOne_37 (by decide) (fun c5 => ?_) (fun c5 => ?_)
      · replace hf := ifp c5 hf
        refine lv_iload_n hx hb dX12_falseOne_66 rfl (lv_at hl 2 rfl) ?_
        exact retR hx hb hr hlocks hS (Option.some.inj hf) dX12_falseOne_67
      replace hf := ifn c5 hf
      refine lv_goto (tgt := 53) hx hb dX12_falseOne_40 (by decide) ?_
      exact J53 x1 x2 x3 x4 _ _ _ hf hP hS (lv_sub hl [0, 1, 2, 3] rfl)
  unfold fX12_falseOne at hf
  refine lv_iload_n hx hb dX12_falseOne_0 rfl (lv_at hl 1 rfl) ?_
  refine lv_iconst (v := 1) hx hb dX12_falseOne_1 (by decide) ?_
  refine lv_sipush (v := 9999) hx hb dX12_falseOne_2 (by decide) ?_
  obtain ⟨z6, hz6, hf⟩ := lett_e hf
  refine cSR (As := [.int p1, .int 1, .int 9999]) (rest := []) ⟨hx, hb, hml, hown, hts⟩ (mX12_in l D T p1 1 9999 z6 hz6.symm) (va_cwS 3 hts gX12_falseOne_X12_in rfl rfl rfl (by decide +kernel) ⟨Nat.le_of_ble_eq_true rfl, Nat.le_of_ble_eq_true rfl⟩) P0 hK rfl hl.1 rfl (Nat.le_of_ble_eq_true rfl) dX12_falseOne_5 ⟨Nat.le_of_ble_eq_true rfl, Nat.le_of_ble_eq_true rfl⟩ hP hS (fun H locs hP hS => ?_)
  refine lv_if_ne (tgt := 13) hx hb dX12_falseOne_8 (by decide) (fun c7 => ?_) (fun c7 => ?_)
  · replace hf := ifn c7 hf
    refine lv_iload_n hx hb dX12_falseOne_13 rfl (lv_at hl 2 rfl) ?_
    refine lv_if_ne (tgt := 25) hx hb dX12_falseOne_14 (by decide) (fun c8 => ?_) (fun c8 => ?_)
    · replace hf := ifn c8 hf
      refine lv_iconst (v := 0) hx hb dX12_falseOne_25 (by decide) ?_
      refine lv_istore_n (lv' := [(3, .int 0), (0, .ref h), (1, .int p1), (2, .int p2)]) hx hb dX12_falseOne_26 rfl hl (by decide) rfl (fun ls hl => ?_)
      refine lv_iconst (v := 1) hx hb dX12_falseOne_27 (by decide) ?_
      refine lv_istore (lv' := [(4, .int 1), (3, .int 0), (0, .ref h), (1, .int p1), (2, .int p2)]) hx hb dX12_falseOne_28 hl (by decide) rfl (fun ls hl => ?_)
      exact L30 FU p1 p2 0 1 _ _ _ hf hP hS (lv_sub hl [3, 4, 1, 0] rfl)
    replace hf := ifp c8 hf
    refine lv_iload_n hx hb dX12_falseOne_17 rfl (lv_at hl 1 rfl) ?_
    refine lv_iconst (v := 3) hx hb dX12_falseOne_18 (by decide) ?_
    refine lv_icmp_ge (tgt := 25) hx hb dX12_falseOne_19 (by decide) (fun c9 => ?_) (fun c9 => ?_)
    · replace hf := ifp c9 hf
      refine lv_iconst (v := 0) hx hb dX12_falseOne_25 (by decide) ?_
      refine lv_istore_n (lv' := [(3, .int 0), (0, .ref h), (1, .int p1), (2, .int p2)]) hx hb dX12_falseOne_26 rfl hl (by decide) rfl (fun ls hl => ?_)
      refine lv_iconst (v := 1) hx hb dX12_falseOne_27 (by decide) ?_
      refine lv_istore (lv' := [(4, .int 1), (3, .int 0), (0, .ref h), (1, .int p1), (2, .int p2)]) hx hb dX12_falseOne_28 hl (by decide) rfl (fun ls hl => ?_)
      exact L30 FU p1 p2 0 1 _ _ _ hf hP hS (lv_sub hl [3, 4, 1, 0] rfl)
    replace hf := ifn c9 hf
    refine lv_bipush (v := (-2)) hx hb dX12_falseOne_22 (by decide) ?_
    exact retR hx hb hr hlocks hS (Option.some.inj hf) dX12_falseOne_24
  replace hf := ifp c7 hf
  refine lv_iconst (v := (-1)) hx hb dX12_falseOne_11 (by decide) ?_
  exact retR hx hb hr hlocks hS (Option.some.inj hf) dX12_falseOne_12
def fX12_scales_J104  (lp57 : St → Int32 → Int32 → Int32 → Int32 → Int32 → Int32 → Int32 → Option (Int32 × St)) (v : St) (x1 : Int32) (x2 : Int32) (x3 : Int32) (x4 : Int32) (x5 : Int32) (x6 : Int32) (x7 : Int32) : Option (Int32 × St) := lett (fX12_max x6 x4) fun z1 => lett (x7 + 1) fun t2 => lp57 v x1 x2 x3 x4 x5 z1 t2
def fX12_scales_J90  (lp57 : St → Int32 → Int32 → Int32 → Int32 → Int32 → Int32 → Int32 → Option (Int32 × St)) (v : St) (x1 : Int32) (x2 : Int32) (x3 : Int32) (x5 : Int32) (x6 : Int32) (x7 : Int32) (y0 : Int32) (y1 : Int32) : Option (Int32 × St) := lett (y1 + y0) fun t3 => if t3 ≤ 0 then fX12_scales_J104 lp57 v x1 x2 x3 t3 x5 x6 x7 else lett (x5 + 1) fun t5 => fX12_scales_J104 lp57 v x1 x2 x3 t3 t5 x6 x7
def bX12_scales_L57   (lp57 : St → Int32 → Int32 → Int32 → Int32 → Int32 → Int32 → Int32 → Option (Int32 × St)) (v : St) (x1 : Int32) (x2 : Int32) (x3 : Int32) (x4 : Int32) (x5 : Int32) (x6 : Int32) (x7 : Int32) : Option (Int32 × St) := if x1 ≤ x7 then if x3 = 0 then some (x5, v) else some (x6, v) else lett (fX12_has x2 x7) fun z8 => if z8 = 0 then (fX12_octet v x7).bind fun z10 => fX12_scales_J90 lp57 v x1 x2 x3 x5 x6 x7 (-z10) x4 else (fX12_octet v x7).bind fun z11 => fX12_scales_J90 lp57 v x1 x2 x3 x5 x6 x7 z11 x4
def fX12_scales_L57   : Nat → St → Int32 → Int32 → Int32 → Int32 → Int32 → Int32 → Int32 → Option (Int32 × St)
  | 0, _, _, _, _, _, _, _, _ => none
  | n + 1, v, x1, x2, x3, x4, x5, x6, x7 => bX12_scales_L57  (fX12_scales_L57  n) v x1 x2 x3 x4 x5 x6 x7
def fX12_scales  (u : St) (p1 : Int32) (p2 : Int32) (p3 : Int32) : Option (Int32 × St) := lett (fX12_in p1 1 10) fun z12 => if z12 = 0 then some ((-1), u) else lett (fX12_in p2 0 1023) fun z14 => if z14 = 0 then some ((-1), u) else lett (fX12_in p3 0 1) fun z16 => if z16 = 0 then some ((-1), u) else if p1 ≤ (u 6 0) then lett (st u 6 0 0) fun u19 => fX12_scales_L57 FU u19 p1 p2 p3 0 0 0 0 else some ((-1), u)
set_option maxHeartbeats 4000000 in
set_option maxRecDepth 100000 in
theorem mX12_scales (l : Launch) (D : va_G) (T : Ty3) (h : Nat) (a : Nat → Nat) (u : St) (sz : Nat) (p1 : Int32) (p2 : Int32) (p3 : Int32) (res : Int32 × St) (hf : fX12_scales u p1 p2 p3 = some res) : Met l yX12_scales wsX12_scales ({ frames := 1, cells := 0, slots := 0, locals := 22 }) (PcM D T (kX12 T h a u) sz [.ref h, .int p1, .int p2, .int p3]) (QM D (kX12 T h a u) sz res.1 (kX12 T h a res.2)) 0 0 (va_A (kX12 T h a u) sz) := by
  refine Met.ofW (cc := cX12_scales) (maxL := 8) (ret := (some .int)) (by decide) rfl ?_
  intro p e s m args below meth c s₁ B hml hv
  obtain ⟨rfl, hsz, hP, hK, hD0⟩ := hv
  have hx := B.exec
  have hb := B.bytes
  have hr := B.returns
  have hts := atoms_spec (ws := wsX12_scales) B.pre
  have hown : s.vm.findClass RX12 = some m.cls := findClass_of_methodNamed B.named
  have hlocks := B.notSynchronized
  subst hsz
  have hD := hD0.self (sz := s.heap.size)
  have hA : ∀ q : Nat, s.heap.size ≤ q → va_A (kX12 T h a u) s.heap.size q := fun q h => Or.inr h
  have hS : va_S (va_A (kX12 T h a u) s.heap.size) s.heap s.heap [] := va_S.rf
  have hinX12 : ∀ w ∈ u_ws RX12 TX12 52, w ∈ wsX12_scales := fun w h => List.mem_cons_of_mem _ (List.mem_append_right _ h)
  have hl := lv_entry ([.ref h, .int p1, .int p2, .int p3]) (n := 8) (Nat.le_of_ble_eq_true rfl)
  rw [lg_entry_eq]
  generalize (lg_sl ([.ref h, .int p1, .int p2, .int p3]) ++ List.replicate (8 - (lg_sl ([.ref h, .int p1, .int p2, .int p3])).length) Slot.unset).toArray = ls at hl ⊢
  have hl : lv_has ls 8 [(0, .ref h), (1, .int p1), (2, .int p2), (3, .int p3)] := hl
  have L57 : ∀ (n57 : Nat), ∀ (v : St) (x1 : Int32) (x2 : Int32) (x3 : Int32) (x4 : Int32) (x5 : Int32) (x6 : Int32) (x7 : Int32) (H : Heap) (locs : List Loc) (ls : Array Slot), fX12_scales_L57  n57 v x1 x2 x3 x4 x5 x6 x7 = some res → va_P D vwCl (kX12 T h a v) H → va_D (va_A (kX12 T h a u) s.heap.size) (kX12 T h a v) → va_S (va_A (kX12 T h a u) s.heap.size) s.heap H locs → lv_has ls 8 [(0, .ref h), (1, .int x1), (2, .int x2), (3, .int x3), (4, .int x4), (5, .int x5), (6, .int x6), (7, .int x7)] → W p l e (headSpec wsX12_scales ({ frames := 1, cells := 0, slots := 0, locals := 22 })).room s m ([.ref h, .int p1, .int p2, .int p3] : List Value).toArray below meth c H locs 0 0 (MQ below (QM D (kX12 T h a u) s.heap.size res.1 (kX12 T h a res.2)) ([.ref h, .int p1, .int p2, .int p3] : List Value).toArray s 0 0 (va_A (kX12 T h a u) s.heap.size)) (F0 m 57 ls []) := by
    intro n57
    induction n57 with
    | zero => intro v x1 x2 x3 x4 x5 x6 x7 H locs ls hf; exact nns hf
    | succ n57 ih57 =>
      have J104 : ∀ (v : St) (x1 : Int32) (x2 : Int32) (x3 : Int32) (x4 : Int32) (x5 : Int32) (x6 : Int32) (x7 : Int32) (H : Heap) (locs : List Loc) (ls : Array Slot), fX12_scales_J104 (fX12_scales_L57  n57) v x1 x2 x3 x4 x5 x6 x7 = some res → va_P D vwCl (kX12 T h a v) H → va_D (va_A (kX12 T h a u) s.heap.size) (kX12 T h a v) → va_S (va_A (kX12 T h a u) s.heap.size) s.heap H locs → lv_has ls 8 [(0, .ref h), (1, .int x1), (2, .int x2), (3, .int x3), (4, .int x4), (5, .int x5), (6, .int x6), (7, .int x7)] → W p l e (headSpec wsX12_scales ({ frames := 1, cells := 0, slots := 0, locals := 22 })).room s m ([.ref h, .int p1, .int p2, .int p3] : List Value).toArray below meth c H locs 0 0 (MQ below (QM D (kX12 T h a u) s.heap.size res.1 (kX12 T h a res.2)) ([.ref h, .int p1, .int p2, .int p3] : List Value).toArray s 0 0 (va_A (kX12 T h a u) s.heap.size)) (F0 m 104 ls []) := by
        intro v x1 x2 x3 x4 x5 x6 x7 H locs ls hf hP hD hS hl
        unfold fX12_scales_J104 at hf
        refine lv_iload hx hb dX12_scales_104 (lv_at hl 6 rfl) ?_
        refine lv_iload hx hb dX12_scales_106 (lv_at hl 4 rfl) ?_
        obtain ⟨z1, hz1, hf⟩ := lett_e hf
        refine cSR (As := [.int x6, .int x4]) (rest := []) ⟨hx, hb, hml, hown, hts⟩ (mX12_max l D T x6 x4 z1 hz1.symm) (va_cwS 2 hts gX12_scales_X12_max rfl rfl rfl (by decide +kernel) ⟨Nat.le_of_ble_eq_true rfl, Nat.le_of_ble_eq_true rfl⟩) P0 hK rfl hl.1 rfl (Nat.le_of_ble_eq_true rfl) dX12_scales_108 ⟨Nat.le_of_ble_eq_true rfl, Nat.le_of_ble_eq_true rfl⟩ hP hS (fun H locs hP hS => ?_)
        refine lv_istore (lv' := [(6, .int z1), (0, .ref h), (1, .int x1), (2, .int x2), (3, .int x3), (4, .int x4), (5, .int x5), (7, .int x7)]) hx hb dX12_scales_111 hl (by decide) rfl (fun ls hl => ?_)
        obtain ⟨t2, et2, hf⟩ := lett_e hf
        refine lv_iinc (v := t2) (lv' := [(7, .int t2), (6, .int z1), (0, .ref h), (1, .int x1), (2, .int x2), (3, .int x3), (4, .int x4), (5, .int x5)]) hx hb dX12_scales_113 hl (k := 7) rfl (by rw [et2]; rfl) (by decide) rfl (fun ls hl => ?_)
        refine lv_goto (tgt := 57) hx hb dX12_scales_116 (by decide) ?_
        exact ih57 v x1 x2 x3 x4 x5 z1 t2 _ _ _ hf hP hD hS (lv_sub hl [2, 3, 4, 5, 6, 7, 1, 0] rfl)
      have J90 : ∀ (v : St) (x1 : Int32) (x2 : Int32) (x3 : Int32) (x5 : Int32) (x6 : Int32) (x7 : Int32) (y0 : Int32) (y1 : Int32) (H : Heap) (locs : List Loc) (ls : Array Slot), fX12_scales_J90 (fX12_scales_L57  n57) v x1 x2 x3 x5 x6 x7 y0 y1 = some res → va_P D vwCl (kX12 T h a v) H → va_D (va_A (kX12 T h a u) s.heap.size) (kX12 T h a v) → va_S (va_A (kX12 T h a u) s.heap.size) s.heap H locs → lv_has ls 8 [(0, .ref h), (1, .int x1), (2, .int x2), (3, .int x3), (5, .int x5), (6, .int x6), (7, .int x7)] → W p l e (headSpec wsX12_scales ({ frames := 1, cells := 0, slots := 0, locals := 22 })).room s m ([.ref h, .int p1, .int p2, .int p3] : List Value).toArray below meth c H locs 0 0 (MQ below (QM D (kX12 T h a u) s.heap.size res.1 (kX12 T h a res.2)) ([.ref h, .int p1, .int p2, .int p3] : List Value).toArray s 0 0 (va_A (kX12 T h a u) s.heap.size)) (F0 m 90 ls [.int y0, .int y1]) := by
        intro v x1 x2 x3 x5 x6 x7 y0 y1 H locs ls hf hP hD hS hl
        unfold fX12_scales_J90 at hf
        refine lv_iadd hx hb dX12_scales_90 ?_
        obtain ⟨t3, et3, hf⟩ := lett_e hf
        refine lv_eqi et3 ?_
        refine lv_istore (lv' := [(4, .int t3), (0, .ref h), (1, .int x1), (2, .int x2), (3, .int x3), (5, .int x5), (6, .int x6), (7, .int x7)]) hx hb dX12_scales_91 hl (by decide) rfl (fun ls hl => ?_)
        refine lv_iload hx hb dX12_scales_93 (lv_at hl 0 rfl) ?_
        refine lv_if_le (tgt := 104) hx hb dX12_scales_95 (by decide) (fun c4 => ?_) (fun c4 => ?_)
        · replace hf := ifp c4 hf
          exact J104 v x1 x2 x3 t3 x5 x6 x7 _ _ _ hf hP hD hS (lv_sub hl [1, 2, 3, 4, 0, 5, 6, 7] rfl)
        replace hf := ifn c4 hf
        refine lv_iload hx hb dX12_scales_98 (lv_at hl 5 rfl) ?_
        refine lv_iconst (v := 1) hx hb dX12_scales_100 (by decide) ?_
        refine lv_iadd hx hb dX12_scales_101 ?_
        obtain ⟨t5, et5, hf⟩ := lett_e hf
        refine lv_eqi et5 ?_
        refine lv_istore (lv' := [(5, .int t5), (4, .int t3), (0, .ref h), (1, .int x1), (2, .int x2), (3, .int x3), (6, .int x6), (7, .int x7)]) hx hb dX12_scales_102 hl (by decide) rfl (fun ls hl => ?_)
        exact J104 v x1 x2 x3 t3 t5 x6 x7 _ _ _ hf hP hD hS (lv_sub hl [2, 3, 4, 5, 1, 0, 6, 7] rfl)
      intro v x1 x2 x3 x4 x5 x6 x7 H locs ls hf hP hD hS hl
      replace hf : bX12_scales_L57  (fX12_scales_L57  n57) v x1 x2 x3 x4 x5 x6 x7 = some res := hf
      unfold bX12_scales_L57 at hf
      refine lv_iload hx hb dX12_scales_57 (lv_at hl 7 rfl) ?_
      refine lv_iload_n hx hb dX12_scales_59 rfl (lv_at hl 1 rfl) ?_
      refine lv_icmp_ge (tgt := 119) hx hb dX12_scales_60 (by decide) (fun c6 => ?_) (fun c6 => ?_)
      · replace hf := ifp c6 hf
        refine lv_iload_n hx hb dX12_scales_119 rfl (lv_at hl 3 rfl) ?_
        refine lv_if_ne (tgt := 128) hx hb dX12_scales_120 (by decide) (fun c7 => ?_) (fun c7 => ?_)
        · replace hf := ifn c7 hf
          refine lv_iload hx hb dX12_scales_128 (lv_at hl 6 rfl) ?_
          have e9 := Option.some.inj hf
          exact retM hx hb hr hlocks hP hD hS (congrArg (fun z => z.1) e9) (congrArg (fun z => (kX12 T h a z.2 : va_W)) e9) dX12_scales_130
        replace hf := ifp c7 hf
        refine lv_iload hx hb dX12_scales_123 (lv_at hl 5 rfl) ?_
        refine lv_goto (tgt := 130) hx hb dX12_scales_125 (by decide) ?_
        have e9 := Option.some.inj hf
        exact retM hx hb hr hlocks hP hD hS (congrArg (fun z => z.1) e9) (congrArg (fun z => (kX12 T h a z.2 : va_W)) e9) dX12_scales_130
      replace hf := ifn c6 hf
      refine lv_iload hx hb dX12_scales_63 (lv_at hl 4 rfl) ?_
      refine lv_iload_n hx hb dX12_scales_65 rfl (lv_at hl 2 rfl) ?_
      refine lv_iload hx hb dX12_scales_66 (lv_at hl 7 rfl) ?_
      obtain ⟨z8, hz8, hf⟩ := lett_e hf
      refine cSR (As := [.int x2, .int x7]) (rest := [.int x4]) ⟨hx, hb, hml, hown, hts⟩ (mX12_has l D T x2 x7 z8 hz8.symm) (va_cwS 2 hts gX12_scales_X12_has rfl rfl rfl (by decide +kernel) ⟨Nat.le_of_ble_eq_true rfl, Nat.le_of_ble_eq_true rfl⟩) P0 hK rfl hl.1 rfl (Nat.le_of_ble_eq_true rfl) dX12_scales_68 ⟨Nat.le_of_ble_eq_true rfl, Nat.le_of_ble_eq_true rfl⟩ hP hS (fun H locs hP hS => ?_)
      refine lv_if_eq (tgt := 83) hx hb dX12_scales_71 (by decide) (fun c9 => ?_) (fun c9 => ?_)
      · replace hf := ifp c9 hf
        refine lv_aload_n hx hb dX12_scales_83 rfl (lv_at hl 0 rfl) ?_
        refine lv_iload hx hb dX12_scales_84 (lv_at hl 7 rfl) ?_
        obtain ⟨z10, hz10, hf⟩ := bnd hf
        refine cVR (As := [.int x7]) (rest := [.int x4]) ⟨hx, hb, hml, hown, hts⟩ (mX12_octet l D T h a v x7 z10 hz10) (cwV 1 hts gX12_scales_X12_octet rfl rfl rfl (by decide +kernel) ⟨Nat.le_of_ble_eq_true rfl, Nat.le_of_ble_eq_true rfl⟩) (va_recv hK.1 hP (ci := 12) (q0 := 0) rfl rfl) hP hK rfl hl.1 rfl (Nat.le_of_ble_eq_true rfl) dX12_scales_86 ⟨Nat.le_of_ble_eq_true rfl, Nat.le_of_ble_eq_true rfl⟩ hP hS (fun H locs hP hS => ?_)
        refine lv_ineg hx hb dX12_scales_89 ?_
        exact J90 v x1 x2 x3 x5 x6 x7 (-z10) x4 _ _ _ hf hP hD hS (lv_sub hl [0, 1, 2, 3, 5, 6, 7] rfl)
      replace hf := ifn c9 hf
      refine lv_aload_n hx hb dX12_scales_74 rfl (lv_at hl 0 rfl) ?_
      refine lv_iload hx hb dX12_scales_75 (lv_at hl 7 rfl) ?_
      obtain ⟨z11, hz11, hf⟩ := bnd hf
      refine cVR (As := [.int x7]) (rest := [.int x4]) ⟨hx, hb, hml, hown, hts⟩ (mX12_octet l D T h a v x7 z11 hz11) (cwV 1 hts gX12_scales_X12_octet rfl rfl rfl (by decide +kernel) ⟨Nat.le_of_ble_eq_true rfl, Nat.le_of_ble_eq_true rfl⟩) (va_recv hK.1 hP (ci := 12) (q0 := 0) rfl rfl) hP hK rfl hl.1 rfl (Nat.le_of_ble_eq_true rfl) dX12_scales_77 ⟨Nat.le_of_ble_eq_true rfl, Nat.le_of_ble_eq_true rfl⟩ hP hS (fun H locs hP hS => ?_)
      refine lv_goto (tgt := 90) hx hb dX12_scales_80 (by decide) ?_
      exact J90 v x1 x2 x3 x5 x6 x7 z11 x4 _ _ _ hf hP hD hS (lv_sub hl [0, 1, 2, 3, 5, 6, 7] rfl)
  unfold fX12_scales at hf
  refine lv_iload_n hx hb dX12_scales_0 rfl (lv_at hl 1 rfl) ?_
  refine lv_iconst (v := 1) hx hb dX12_scales_1 (by decide) ?_
  refine lv_bipush (v := 10) hx hb dX12_scales_2 (by decide) ?_
  obtain ⟨z12, hz12, hf⟩ := lett_e hf
  refine cSR (As := [.int p1, .int 1, .int 10]) (rest := []) ⟨hx, hb, hml, hown, hts⟩ (mX12_in l D T p1 1 10 z12 hz12.symm) (va_cwS 3 hts gX12_scales_X12_in rfl rfl rfl (by decide +kernel) ⟨Nat.le_of_ble_eq_true rfl, Nat.le_of_ble_eq_true rfl⟩) P0 hK rfl hl.1 rfl (Nat.le_of_ble_eq_true rfl) dX12_scales_4 ⟨Nat.le_of_ble_eq_true rfl, Nat.le_of_ble_eq_true rfl⟩ hP hS (fun H locs hP hS => ?_)
  refine lv_if_eq (tgt := 38) hx hb dX12_scales_7 (by decide) (fun c13 => ?_) (fun c13 => ?_)
  · replace hf := ifp c13 hf
    refine lv_iconst (v := (-1)) hx hb dX12_scales_38 (by decide) ?_
    have e9 := Option.some.inj hf
    exact retM hx hb hr hlocks hP hD hS (congrArg (fun z => z.1) e9) (congrArg (fun z => (kX12 T h a z.2 : va_W)) e9) dX12_scales_39
  replace hf := ifn c13 hf
  refine lv_iload_n hx hb dX12_scales_10 rfl (lv_at hl 2 rfl) ?_
  refine lv_iconst (v := 0) hx hb dX12_scales_11 (by decide) ?_
  refine lv_sipush (v := 1023) hx hb dX12_scales_12 (by decide) ?_
  obtain ⟨z14, hz14, hf⟩ := lett_e hf
  refine cSR (As := [.int p2, .int 0, .int 1023]) (rest := []) ⟨hx, hb, hml, hown, hts⟩ (mX12_in l D T p2 0 1023 z14 hz14.symm) (va_cwS 3 hts gX12_scales_X12_in rfl rfl rfl (by decide +kernel) ⟨Nat.le_of_ble_eq_true rfl, Nat.le_of_ble_eq_true rfl⟩) P0 hK rfl hl.1 rfl (Nat.le_of_ble_eq_true rfl) dX12_scales_15 ⟨Nat.le_of_ble_eq_true rfl, Nat.le_of_ble_eq_true rfl⟩ hP hS (fun H locs hP hS => ?_)
  refine lv_if_eq (tgt := 38) hx hb dX12_scales_18 (by decide) (fun c15 => ?_) (fun c15 => ?_)
  · replace hf := ifp c15 hf
    refine lv_iconst (v := (-1)) hx hb dX12_scales_38 (by decide) ?_
    have e9 := Option.some.inj hf
    exact retM hx hb hr hlocks hP hD hS (congrArg (fun z => z.1) e9) (congrArg (fun z => (kX12 T h a z.2 : va_W)) e9) dX12_scales_39
  replace hf := ifn c15 hf
  refine lv_iload_n hx hb dX12_scales_21 rfl (lv_at hl 3 rfl) ?_
  refine lv_iconst (v := 0) hx hb dX12_scales_22 (by decide) ?_
  refine lv_iconst (v := 1) hx hb dX12_scales_23 (by decide) ?_
  obtain ⟨z16, hz16, hf⟩ := lett_e hf
  refine cSR (As := [.int p3, .int 0, .int 1]) (rest := []) ⟨hx, hb, hml, hown, hts⟩ (mX12_in l D T p3 0 1 z16 hz16.symm) (va_cwS 3 hts gX12_scales_X12_in rfl rfl rfl (by decide +kernel) ⟨Nat.le_of_ble_eq_true rfl, Nat.le_of_ble_eq_true rfl⟩) P0 hK rfl hl.1 rfl (Nat.le_of_ble_eq_true rfl) dX12_scales_24 ⟨Nat.le_of_ble_eq_true rfl, Nat.le_of_ble_eq_true rfl⟩ hP hS (fun H locs hP hS => ?_)
  refine lv_if_eq (tgt := 38) hx hb dX12_scales_27 (by decide) (fun c17 => ?_) (fun c17 => ?_)
  · replace hf := ifp c17 hf
    refine lv_iconst (v := (-1)) hx hb dX12_scales_38 (by decide) ?_
    have e9 := Option.some.inj hf
    exact retM hx hb hr hlocks hP hD hS (congrArg (fun z => z.1) e9) (congrArg (fun z => (kX12 T h a z.2 : va_W)) e9) dX12_scales_39
  replace hf := ifn c17 hf
  refine lv_iload_n hx hb dX12_scales_30 rfl (lv_at hl 1 rfl) ?_
  refine lv_aload_n hx hb dX12_scales_31 rfl (lv_at hl 0 rfl) ?_
  refine va_get (D := D) (ci := 12) (v := .int (u 6 0)) (C := RX12) (T := TX12) (N := 52) hx hb hts hinX12 hown hK.1 hP 0 rfl rfl 6 (by decide) (hts (.fieldLink RX12 119 "RopeScaleModel" "taped" "I") (List.mem_of_getElem? (i := 1) rfl)) (fun _ h9 => h9) rfl dX12_scales_32 ?_
  refine lv_icmp_le (tgt := 40) hx hb dX12_scales_35 (by decide) (fun c18 => ?_) (fun c18 => ?_)
  · replace hf := ifp c18 hf
    refine lv_aload_n hx hb dX12_scales_40 rfl (lv_at hl 0 rfl) ?_
    refine lv_iconst (v := 0) hx hb dX12_scales_41 (by decide) ?_
    obtain ⟨u19, eu19, hf⟩ := lett_e hf
    refine va_put (D := D) (ci := 12) (v := .int 0) (ty := .int) (C := RX12) (T := TX12) (N := 52) hx hb hts hinX12 tyX12 tyX12_ok nmX12 hown hK.1 hP hD hS 0 rfl rfl 6 (by decide) (hts (.fieldLink RX12 119 "RopeScaleModel" "taped" "I") (List.mem_of_getElem? (i := 1) rfl)) (fun _ h9 => h9) rfl (tyX12_ok 6 (by decide)) rfl rfl (Nat.le_of_ble_eq_true rfl) dX12_scales_42 (fun H locs hP hD hS => ?_)
    have hP : va_P D vwCl (kX12 T h a u19) H := by rw [eu19]; exact hP
    have hD : va_D (va_A (kX12 T h a u) s.heap.size) (kX12 T h a u19) := by rw [eu19]; exact hD
    refine lv_iconst (v := 0) hx hb dX12_scales_45 (by decide) ?_
    refine lv_istore (lv' := [(4, .int 0), (0, .ref h), (1, .int p1), (2, .int p2), (3, .int p3)]) hx hb dX12_scales_46 hl (by decide) rfl (fun ls hl => ?_)
    refine lv_iconst (v := 0) hx hb dX12_scales_48 (by decide) ?_
    refine lv_istore (lv' := [(5, .int 0), (4, .int 0), (0, .ref h), (1, .int p1), (2, .int p2), (3, .int p3)]) hx hb dX12_scales_49 hl (by decide) rfl (fun ls hl => ?_)
    refine lv_iconst (v := 0) hx hb dX12_scales_51 (by decide) ?_
    refine lv_istore (lv' := [(6, .int 0), (5, .int 0), (4, .int 0), (0, .ref h), (1, .int p1), (2, .int p2), (3, .int p3)]) hx hb dX12_scales_52 hl (by decide) rfl (fun ls hl => ?_)
    refine lv_iconst (v := 0) hx hb dX12_scales_54 (by decide) ?_
    refine lv_istore (lv' := [(7, .int 0), (6, .int 0), (5, .int 0), (4, .int 0), (0, .ref h), (1, .int p1), (2, .int p2), (3, .int p3)]) hx hb dX12_scales_55 hl (by decide) rfl (fun ls hl => ?_)
    exact L57 FU u19 p1 p2 p3 0 0 0 0 _ _ _ hf hP hD hS (lv_sub hl [4, 5, 6, 7, 3, 2, 1, 0] rfl)
  replace hf := ifn c18 hf
  refine lv_iconst (v := (-1)) hx hb dX12_scales_38 (by decide) ?_
  have e9 := Option.some.inj hf
  exact retM hx hb hr hlocks hP hD hS (congrArg (fun z => z.1) e9) (congrArg (fun z => (kX12 T h a z.2 : va_W)) e9) dX12_scales_39
def fX12_seed  (u : St) (p1 : Int32) : Option (Int32 × St) := lett (fX12_in p1 0 65535) fun z1 => if z1 = 0 then some (0, u) else gd 97 98 <| lett (st u 0 (ix 97) p1) fun u3 => some (1, u3)
set_option maxHeartbeats 4000000 in
set_option maxRecDepth 100000 in
theorem mX12_seed (l : Launch) (D : va_G) (T : Ty3) (h : Nat) (a : Nat → Nat) (u : St) (sz : Nat) (p1 : Int32) (res : Int32 × St) (hf : fX12_seed u p1 = some res) : Met l yX12_seed wsX12_seed ({ frames := 1, cells := 0, slots := 0, locals := 22 }) (PcM D T (kX12 T h a u) sz [.ref h, .int p1]) (QM D (kX12 T h a u) sz res.1 (kX12 T h a res.2)) 0 0 (va_A (kX12 T h a u) sz) := by
  refine Met.ofW (cc := cX12_seed) (maxL := 2) (ret := (some .boolean)) (by decide) rfl ?_
  intro p e s m args below meth c s₁ B hml hv
  obtain ⟨rfl, hsz, hP, hK, hD0⟩ := hv
  have hx := B.exec
  have hb := B.bytes
  have hr := B.returns
  have hts := atoms_spec (ws := wsX12_seed) B.pre
  have hown : s.vm.findClass RX12 = some m.cls := findClass_of_methodNamed B.named
  have hlocks := B.notSynchronized
  subst hsz
  have hD := hD0.self (sz := s.heap.size)
  have hA : ∀ q : Nat, s.heap.size ≤ q → va_A (kX12 T h a u) s.heap.size q := fun q h => Or.inr h
  have hS : va_S (va_A (kX12 T h a u) s.heap.size) s.heap s.heap [] := va_S.rf
  have hinX12 : ∀ w ∈ u_ws RX12 TX12 52, w ∈ wsX12_seed := fun w h => List.mem_cons_of_mem _ (List.mem_append_right _ h)
  have hl := lv_entry ([.ref h, .int p1]) (n := 2) (Nat.le_of_ble_eq_true rfl)
  rw [lg_entry_eq]
  generalize (lg_sl ([.ref h, .int p1]) ++ List.replicate (2 - (lg_sl ([.ref h, .int p1])).length) Slot.unset).toArray = ls at hl ⊢
  have hl : lv_has ls 2 [(0, .ref h), (1, .int p1)] := hl
  unfold fX12_seed at hf
  refine lv_iload_n hx hb dX12_seed_0 rfl (lv_at hl 1 rfl) ?_
  refine lv_iconst (v := 0) hx hb dX12_seed_1 (by decide) ?_
  refine lv_ldcw (v := 65535) hx hb hown (hts (.constant RX12 326 (65535)) (List.mem_of_getElem? (i := 1) rfl)) dX12_seed_2 ?_
  obtain ⟨z1, hz1, hf⟩ := lett_e hf
  refine cSR (As := [.int p1, .int 0, .int 65535]) (rest := []) ⟨hx, hb, hml, hown, hts⟩ (mX12_in l D T p1 0 65535 z1 hz1.symm) (va_cwS 3 hts gX12_seed_X12_in rfl rfl rfl (by decide +kernel) ⟨Nat.le_of_ble_eq_true rfl, Nat.le_of_ble_eq_true rfl⟩) P0 hK rfl hl.1 rfl (Nat.le_of_ble_eq_true rfl) dX12_seed_5 ⟨Nat.le_of_ble_eq_true rfl, Nat.le_of_ble_eq_true rfl⟩ hP hS (fun H locs hP hS => ?_)
  refine lv_if_ne (tgt := 13) hx hb dX12_seed_8 (by decide) (fun c2 => ?_) (fun c2 => ?_)
  · replace hf := ifn c2 hf
    refine lv_aload_n hx hb dX12_seed_13 rfl (lv_at hl 0 rfl) ?_
    refine va_get (D := D) (ci := 12) (v := .ref (a 0)) (C := RX12) (T := TX12) (N := 52) hx hb hts hinX12 hown hK.1 hP 0 rfl rfl 0 (by decide) (hts (.fieldLink RX12 7 "RopeScaleModel" "now" "[I") (List.mem_of_getElem? (i := 2) rfl)) (fun _ h9 => h9) rfl dX12_seed_14 ?_
    refine lv_bipush (v := 97) hx hb dX12_seed_17 (by decide) ?_
    refine lv_iload_n hx hb dX12_seed_19 rfl (lv_at hl 1 rfl) ?_
    obtain ⟨h4, hf⟩ := gd_e hf
    obtain ⟨u3, eu3, hf⟩ := lett_e hf
    refine va_iast hx hb hK.1 hP hD hS 1 0 rfl rfl h4 dX12_seed_20 (fun H locs hP hD hS => ?_)
    have hP : va_P D vwCl (kX12 T h a u3) H := by rw [eu3]; exact hP
    have hD : va_D (va_A (kX12 T h a u) s.heap.size) (kX12 T h a u3) := by rw [eu3]; exact hD
    refine lv_iconst (v := 1) hx hb dX12_seed_21 (by decide) ?_
    have e9 := Option.some.inj hf
    exact retMz hx hb hr hlocks hP hD hS rfl (congrArg (fun z => z.1) e9) (congrArg (fun z => (kX12 T h a z.2 : va_W)) e9) dX12_seed_22
  replace hf := ifp c2 hf
  refine lv_iconst (v := 0) hx hb dX12_seed_11 (by decide) ?_
  have e9 := Option.some.inj hf
  exact retMz hx hb hr hlocks hP hD hS rfl (congrArg (fun z => z.1) e9) (congrArg (fun z => (kX12 T h a z.2 : va_W)) e9) dX12_seed_12
def fX12_keep  (u : St)  : Option (Int32 × St) := lett (st u 51 0 1) fun u1 => (fX12_copies (u1 0) (u1 2)).bind fun z2 => lett (sa u1 2 z2) fun u3 => gd 96 98 <| some (u3 0 (ix 96), u3)
set_option maxHeartbeats 4000000 in
set_option maxRecDepth 100000 in
theorem mX12_keep (l : Launch) (D : va_G) (T : Ty3) (h : Nat) (a : Nat → Nat) (u : St) (sz : Nat)  (res : Int32 × St) (hf : fX12_keep u = some res) : Met l yX12_keep wsX12_keep ({ frames := 1, cells := 0, slots := 0, locals := 22 }) (PcM D T (kX12 T h a u) sz [.ref h]) (QM D (kX12 T h a u) sz res.1 (kX12 T h a res.2)) 0 0 (va_A (kX12 T h a u) sz) := by
  refine Met.ofW (cc := cX12_keep) (maxL := 1) (ret := (some .int)) (by decide) rfl ?_
  intro p e s m args below meth c s₁ B hml hv
  obtain ⟨rfl, hsz, hP, hK, hD0⟩ := hv
  have hx := B.exec
  have hb := B.bytes
  have hr := B.returns
  have hts := atoms_spec (ws := wsX12_keep) B.pre
  have hown : s.vm.findClass RX12 = some m.cls := findClass_of_methodNamed B.named
  have hlocks := B.notSynchronized
  subst hsz
  have hD := hD0.self (sz := s.heap.size)
  have hA : ∀ q : Nat, s.heap.size ≤ q → va_A (kX12 T h a u) s.heap.size q := fun q h => Or.inr h
  have hS : va_S (va_A (kX12 T h a u) s.heap.size) s.heap s.heap [] := va_S.rf
  have hinX12 : ∀ w ∈ u_ws RX12 TX12 52, w ∈ wsX12_keep := fun w h => List.mem_cons_of_mem _ (List.mem_append_right _ h)
  have hl := lv_entry ([.ref h]) (n := 1) (Nat.le_of_ble_eq_true rfl)
  rw [lg_entry_eq]
  generalize (lg_sl ([.ref h]) ++ List.replicate (1 - (lg_sl ([.ref h])).length) Slot.unset).toArray = ls at hl ⊢
  have hl : lv_has ls 1 [(0, .ref h)] := hl
  unfold fX12_keep at hf
  refine lv_aload_n hx hb dX12_keep_0 rfl (lv_at hl 0 rfl) ?_
  refine lv_iconst (v := 1) hx hb dX12_keep_1 (by decide) ?_
  obtain ⟨u1, eu1, hf⟩ := lett_e hf
  refine va_put (D := D) (ci := 12) (v := .int 1) (ty := .boolean) (C := RX12) (T := TX12) (N := 52) hx hb hts hinX12 tyX12 tyX12_ok nmX12 hown hK.1 hP hD hS 0 rfl rfl 51 (by decide) (hts (.fieldLink RX12 378 "RopeScaleModel" "isKept" "Z") (List.mem_of_getElem? (i := 1) rfl)) (fun _ h9 => h9) rfl (tyX12_ok 51 (by decide)) rfl rfl (Nat.le_of_ble_eq_true rfl) dX12_keep_2 (fun H locs hP hD hS => ?_)
  have hP : va_P D vwCl (kX12 T h a u1) H := by rw [eu1]; exact hP
  have hD : va_D (va_A (kX12 T h a u) s.heap.size) (kX12 T h a u1) := by rw [eu1]; exact hD
  refine lv_aload_n hx hb dX12_keep_5 rfl (lv_at hl 0 rfl) ?_
  refine va_get (D := D) (ci := 12) (v := .ref (a 0)) (C := RX12) (T := TX12) (N := 52) hx hb hts hinX12 hown hK.1 hP 0 rfl rfl 0 (by decide) (hts (.fieldLink RX12 7 "RopeScaleModel" "now" "[I") (List.mem_of_getElem? (i := 2) rfl)) (fun _ h9 => h9) rfl dX12_keep_6 ?_
  refine lv_aload_n hx hb dX12_keep_9 rfl (lv_at hl 0 rfl) ?_
  refine va_get (D := D) (ci := 12) (v := .ref (a 2)) (C := RX12) (T := TX12) (N := 52) hx hb hts hinX12 hown hK.1 hP 0 rfl rfl 2 (by decide) (hts (.fieldLink RX12 16 "RopeScaleModel" "kept" "[I") (List.mem_of_getElem? (i := 3) rfl)) (fun _ h9 => h9) rfl dX12_keep_10 ?_
  obtain ⟨z2, hz2, hf⟩ := bnd hf
  have hPc := hP.sub (ws' := [(a 0, .inl (T.1, 98, .inl (u1 0)))] ++ [(a 2, .inl (T.1, 98, .inl (u1 2)))]) [1, 3] rfl
  have hDc := hD.sub (ws' := [(a 0, .inl (T.1, 98, .inl (u1 0)))] ++ [(a 2, .inl (T.1, 98, .inl (u1 2)))]) [1, 3] (by decide) rfl
  have hFc9 := va_free (wc := [(a 0, .inl (T.1, 98, .inl (u1 0)))] ++ [(a 2, .inl (T.1, 98, .inl (u1 2)))]) hD hS hA [1, 3] rfl
  refine cSMv (As := [.ref (a 0), .ref (a 2)]) (rest := []) ⟨hx, hb, hml, hown, hts⟩ (mX12_copies l D T (a 0) (u1 0) (a 2) (u1 2) _ z2 hz2) (va_cwS 2 hts gX12_keep_X12_copies rfl rfl rfl (by decide +kernel) ⟨Nat.le_of_ble_eq_true rfl, Nat.le_of_ble_eq_true rfl⟩) hPc hK rfl hl.1 rfl (Nat.le_of_ble_eq_true rfl) dX12_keep_13 ⟨Nat.le_of_ble_eq_true rfl, Nat.le_of_ble_eq_true rfl⟩ hDc hFc9 hS (fun H9 locs hP1 hD1 hk1 hS => ?_)
  obtain ⟨hP, hD⟩ := putAll_P (w1 := [(a 0, .inl (T.1, 98, .inl (u1 0)))] ++ [(a 2, .inl (T.1, 98, .inl z2))]) hP hD [1, 3] rfl (by decide) hk1 hP1 rfl
  generalize H9 = H at hP hS ⊢
  obtain ⟨u3, eu3, hf⟩ := lett_e hf
  have hP : va_P D vwCl (kX12 T h a u3) H := by rw [eu3]; exact hP
  have hD : va_D (va_A (kX12 T h a u) s.heap.size) (kX12 T h a u3) := by rw [eu3]; exact hD
  refine lv_aload_n hx hb dX12_keep_16 rfl (lv_at hl 0 rfl) ?_
  refine va_get (D := D) (ci := 12) (v := .ref (a 0)) (C := RX12) (T := TX12) (N := 52) hx hb hts hinX12 hown hK.1 hP 0 rfl rfl 0 (by decide) (hts (.fieldLink RX12 7 "RopeScaleModel" "now" "[I") (List.mem_of_getElem? (i := 2) rfl)) (fun _ h9 => h9) rfl dX12_keep_17 ?_
  refine lv_bipush (v := 96) hx hb dX12_keep_20 (by decide) ?_
  obtain ⟨h4, hf⟩ := gd_e hf
  refine va_iald hx hb hK.1 hP 1 0 rfl rfl h4 dX12_keep_22 ?_
  have e9 := Option.some.inj hf
  exact retM hx hb hr hlocks hP hD hS (congrArg (fun z => z.1) e9) (congrArg (fun z => (kX12 T h a z.2 : va_W)) e9) dX12_keep_23
def fX12_undo  (u : St)  : Option (Int32 × St) := if (u 51 0) = 0 then some (0, u) else (fX12_copies (u 2) (u 0)).bind fun z2 => lett (sa u 0 z2) fun u3 => some (1, u3)
set_option maxHeartbeats 4000000 in
set_option maxRecDepth 100000 in
theorem mX12_undo (l : Launch) (D : va_G) (T : Ty3) (h : Nat) (a : Nat → Nat) (u : St) (sz : Nat)  (res : Int32 × St) (hf : fX12_undo u = some res) : Met l yX12_undo wsX12_undo ({ frames := 1, cells := 0, slots := 0, locals := 22 }) (PcM D T (kX12 T h a u) sz [.ref h]) (QM D (kX12 T h a u) sz res.1 (kX12 T h a res.2)) 0 0 (va_A (kX12 T h a u) sz) := by
  refine Met.ofW (cc := cX12_undo) (maxL := 1) (ret := (some .boolean)) (by decide) rfl ?_
  intro p e s m args below meth c s₁ B hml hv
  obtain ⟨rfl, hsz, hP, hK, hD0⟩ := hv
  have hx := B.exec
  have hb := B.bytes
  have hr := B.returns
  have hts := atoms_spec (ws := wsX12_undo) B.pre
  have hown : s.vm.findClass RX12 = some m.cls := findClass_of_methodNamed B.named
  have hlocks := B.notSynchronized
  subst hsz
  have hD := hD0.self (sz := s.heap.size)
  have hA : ∀ q : Nat, s.heap.size ≤ q → va_A (kX12 T h a u) s.heap.size q := fun q h => Or.inr h
  have hS : va_S (va_A (kX12 T h a u) s.heap.size) s.heap s.heap [] := va_S.rf
  have hinX12 : ∀ w ∈ u_ws RX12 TX12 52, w ∈ wsX12_undo := fun w h => List.mem_cons_of_mem _ (List.mem_append_right _ h)
  have hl := lv_entry ([.ref h]) (n := 1) (Nat.le_of_ble_eq_true rfl)
  rw [lg_entry_eq]
  generalize (lg_sl ([.ref h]) ++ List.replicate (1 - (lg_sl ([.ref h])).length) Slot.unset).toArray = ls at hl ⊢
  have hl : lv_has ls 1 [(0, .ref h)] := hl
  unfold fX12_undo at hf
  refine lv_aload_n hx hb dX12_undo_0 rfl (lv_at hl 0 rfl) ?_
  refine va_get (D := D) (ci := 12) (v := .int (u 51 0)) (C := RX12) (T := TX12) (N := 52) hx hb hts hinX12 hown hK.1 hP 0 rfl rfl 51 (by decide) (hts (.fieldLink RX12 378 "RopeScaleModel" "isKept" "Z") (List.mem_of_getElem? (i := 1) rfl)) (fun _ h9 => h9) rfl dX12_undo_1 ?_
  refine lv_if_ne (tgt := 9) hx hb dX12_undo_4 (by decide) (fun c1 => ?_) (fun c1 => ?_)
  · replace hf := ifn c1 hf
    refine lv_aload_n hx hb dX12_undo_9 rfl (lv_at hl 0 rfl) ?_
    refine va_get (D := D) (ci := 12) (v := .ref (a 2)) (C := RX12) (T := TX12) (N := 52) hx hb hts hinX12 hown hK.1 hP 0 rfl rfl 2 (by decide) (hts (.fieldLink RX12 16 "RopeScaleModel" "kept" "[I") (List.mem_of_getElem? (i := 2) rfl)) (fun _ h9 => h9) rfl dX12_undo_10 ?_
    refine lv_aload_n hx hb dX12_undo_13 rfl (lv_at hl 0 rfl) ?_
    refine va_get (D := D) (ci := 12) (v := .ref (a 0)) (C := RX12) (T := TX12) (N := 52) hx hb hts hinX12 hown hK.1 hP 0 rfl rfl 0 (by decide) (hts (.fieldLink RX12 7 "RopeScaleModel" "now" "[I") (List.mem_of_getElem? (i := 3) rfl)) (fun _ h9 => h9) rfl dX12_undo_14 ?_
    obtain ⟨z2, hz2, hf⟩ := bnd hf
    have hPc := hP.sub (ws' := [(a 2, .inl (T.1, 98, .inl (u 2)))] ++ [(a 0, .inl (T.1, 98, .inl (u 0)))]) [3, 1] rfl
    have hDc := hD.sub (ws' := [(a 2, .inl (T.1, 98, .inl (u 2)))] ++ [(a 0, .inl (T.1, 98, .inl (u 0)))]) [3, 1] (by decide) rfl
    have hFc9 := va_free (wc := [(a 2, .inl (T.1, 98, .inl (u 2)))] ++ [(a 0, .inl (T.1, 98, .inl (u 0)))]) hD hS hA [3, 1] rfl
    refine cSMv (As := [.ref (a 2), .ref (a 0)]) (rest := []) ⟨hx, hb, hml, hown, hts⟩ (mX12_copies l D T (a 2) (u 2) (a 0) (u 0) _ z2 hz2) (va_cwS 2 hts gX12_undo_X12_copies rfl rfl rfl (by decide +kernel) ⟨Nat.le_of_ble_eq_true rfl, Nat.le_of_ble_eq_true rfl⟩) hPc hK rfl hl.1 rfl (Nat.le_of_ble_eq_true rfl) dX12_undo_17 ⟨Nat.le_of_ble_eq_true rfl, Nat.le_of_ble_eq_true rfl⟩ hDc hFc9 hS (fun H9 locs hP1 hD1 hk1 hS => ?_)
    obtain ⟨hP, hD⟩ := putAll_P (w1 := [(a 2, .inl (T.1, 98, .inl (u 2)))] ++ [(a 0, .inl (T.1, 98, .inl z2))]) hP hD [3, 1] rfl (by decide) hk1 hP1 rfl
    generalize H9 = H at hP hS ⊢
    obtain ⟨u3, eu3, hf⟩ := lett_e hf
    have hP : va_P D vwCl (kX12 T h a u3) H := by rw [eu3]; exact hP
    have hD : va_D (va_A (kX12 T h a u) s.heap.size) (kX12 T h a u3) := by rw [eu3]; exact hD
    refine lv_iconst (v := 1) hx hb dX12_undo_20 (by decide) ?_
    have e9 := Option.some.inj hf
    exact retMz hx hb hr hlocks hP hD hS rfl (congrArg (fun z => z.1) e9) (congrArg (fun z => (kX12 T h a z.2 : va_W)) e9) dX12_undo_21
  replace hf := ifp c1 hf
  refine lv_iconst (v := 0) hx hb dX12_undo_7 (by decide) ?_
  have e9 := Option.some.inj hf
  exact retMz hx hb hr hlocks hP hD hS rfl (congrArg (fun z => z.1) e9) (congrArg (fun z => (kX12 T h a z.2 : va_W)) e9) dX12_undo_8
def fX12_check_J63  (lp28 : St → Int32 → Int32 → Option (Int32 × St)) (v : St) (x1 : Int32) (x2 : Int32) (y0 : Int32) (y1 : Int32) : Option (Int32 × St) := if y1 = y0 then lett (x2 + 1) fun t2 => lp28 v x1 t2 else some (x2, v)
def bX12_check_L28   (lp28 : St → Int32 → Int32 → Option (Int32 × St)) (v : St) (x1 : Int32) (x2 : Int32) : Option (Int32 × St) := if x1 ≤ x2 then some ((-1), v) else (fX12_octet v x2).bind fun z4 => (fX12_isTold v x2).bind fun z5 => if z5 = 0 then fX12_check_J63 lp28 v x1 x2 0 z4 else gd (16 + x2) 98 <| fX12_check_J63 lp28 v x1 x2 (jrem (v 0 (ix (16 + x2))) 256) z4
def fX12_check_L28   : Nat → St → Int32 → Int32 → Option (Int32 × St)
  | 0, _, _, _ => none
  | n + 1, v, x1, x2 => bX12_check_L28  (fX12_check_L28  n) v x1 x2
def fX12_check  (u : St) (p1 : Int32) : Option (Int32 × St) := lett (fX12_in p1 0 16) fun z8 => if z8 = 0 then some ((-2), u) else if p1 ≤ (u 6 0) then lett (st u 6 0 0) fun u11 => fX12_check_L28 FU u11 p1 0 else some ((-2), u)
set_option maxHeartbeats 4000000 in
set_option maxRecDepth 100000 in
theorem mX12_check (l : Launch) (D : va_G) (T : Ty3) (h : Nat) (a : Nat → Nat) (u : St) (sz : Nat) (p1 : Int32) (res : Int32 × St) (hf : fX12_check u p1 = some res) : Met l yX12_check wsX12_check ({ frames := 2, cells := 0, slots := 0, locals := 43 }) (PcM D T (kX12 T h a u) sz [.ref h, .int p1]) (QM D (kX12 T h a u) sz res.1 (kX12 T h a res.2)) 0 0 (va_A (kX12 T h a u) sz) := by
  refine Met.ofW (cc := cX12_check) (maxL := 3) (ret := (some .int)) (by decide) rfl ?_
  intro p e s m args below meth c s₁ B hml hv
  obtain ⟨rfl, hsz, hP, hK, hD0⟩ := hv
  have hx := B.exec
  have hb := B.bytes
  have hr := B.returns
  have hts := atoms_spec (ws := wsX12_check) B.pre
  have hown : s.vm.findClass RX12 = some m.cls := findClass_of_methodNamed B.named
  have hlocks := B.notSynchronized
  subst hsz
  have hD := hD0.self (sz := s.heap.size)
  have hA : ∀ q : Nat, s.heap.size ≤ q → va_A (kX12 T h a u) s.heap.size q := fun q h => Or.inr h
  have hS : va_S (va_A (kX12 T h a u) s.heap.size) s.heap s.heap [] := va_S.rf
  have hinX12 : ∀ w ∈ u_ws RX12 TX12 52, w ∈ wsX12_check := fun w h => List.mem_cons_of_mem _ (List.mem_append_right _ h)
  have hl := lv_entry ([.ref h, .int p1]) (n := 3) (Nat.le_of_ble_eq_true rfl)
  rw [lg_entry_eq]
  generalize (lg_sl ([.ref h, .int p1]) ++ List.replicate (3 - (lg_sl ([.ref h, .int p1])).length) Slot.unset).toArray = ls at hl ⊢
  have hl : lv_has ls 3 [(0, .ref h), (1, .int p1)] := hl
  have L28 : ∀ (n28 : Nat), ∀ (v : St) (x1 : Int32) (x2 : Int32) (H : Heap) (locs : List Loc) (ls : Array Slot), fX12_check_L28  n28 v x1 x2 = some res → va_P D vwCl (kX12 T h a v) H → va_D (va_A (kX12 T h a u) s.heap.size) (kX12 T h a v) → va_S (va_A (kX12 T h a u) s.heap.size) s.heap H locs → lv_has ls 3 [(0, .ref h), (1, .int x1), (2, .int x2)] → W p l e (headSpec wsX12_check ({ frames := 2, cells := 0, slots := 0, locals := 43 })).room s m ([.ref h, .int p1] : List Value).toArray below meth c H locs 0 0 (MQ below (QM D (kX12 T h a u) s.heap.size res.1 (kX12 T h a res.2)) ([.ref h, .int p1] : List Value).toArray s 0 0 (va_A (kX12 T h a u) s.heap.size)) (F0 m 28 ls []) := by
    intro n28
    induction n28 with
    | zero => intro v x1 x2 H locs ls hf; exact nns hf
    | succ n28 ih28 =>
      have J63 : ∀ (v : St) (x1 : Int32) (x2 : Int32) (y0 : Int32) (y1 : Int32) (H : Heap) (locs : List Loc) (ls : Array Slot), fX12_check_J63 (fX12_check_L28  n28) v x1 x2 y0 y1 = some res → va_P D vwCl (kX12 T h a v) H → va_D (va_A (kX12 T h a u) s.heap.size) (kX12 T h a v) → va_S (va_A (kX12 T h a u) s.heap.size) s.heap H locs → lv_has ls 3 [(0, .ref h), (1, .int x1), (2, .int x2)] → W p l e (headSpec wsX12_check ({ frames := 2, cells := 0, slots := 0, locals := 43 })).room s m ([.ref h, .int p1] : List Value).toArray below meth c H locs 0 0 (MQ below (QM D (kX12 T h a u) s.heap.size res.1 (kX12 T h a res.2)) ([.ref h, .int p1] : List Value).toArray s 0 0 (va_A (kX12 T h a u) s.heap.size)) (F0 m 63 ls [.int y0, .int y1]) := by
        intro v x1 x2 y0 y1 H locs ls hf hP hD hS hl
        unfold fX12_check_J63 at hf
        refine lv_icmp_eq (tgt := 68) hx hb dX12_check_63 (by decide) (fun c1 => ?_) (fun c1 => ?_)
        · replace hf := ifp c1 hf
          obtain ⟨t2, et2, hf⟩ := lett_e hf
          refine lv_iinc (v := t2) (lv' := [(2, .int t2), (0, .ref h), (1, .int x1)]) hx hb dX12_check_68 hl (k := 2) rfl (by rw [et2]; rfl) (by decide) rfl (fun ls hl => ?_)
          refine lv_goto (tgt := 28) hx hb dX12_check_71 (by decide) ?_
          exact ih28 v x1 t2 _ _ _ hf hP hD hS (lv_sub hl [1, 2, 0] rfl)
        replace hf := ifn c1 hf
        refine lv_iload_n hx hb dX12_check_66 rfl (lv_at hl 2 rfl) ?_
        have e9 := Option.some.inj hf
        exact retM hx hb hr hlocks hP hD hS (congrArg (fun z => z.1) e9) (congrArg (fun z => (kX12 T h a z.2 : va_W)) e9) dX12_check_67
      intro v x1 x2 H locs ls hf hP hD hS hl
      replace hf : bX12_check_L28  (fX12_check_L28  n28) v x1 x2 = some res := hf
      unfold bX12_check_L28 at hf
      refine lv_iload_n hx hb dX12_check_28 rfl (lv_at hl 2 rfl) ?_
      refine lv_iload_n hx hb dX12_check_29 rfl (lv_at hl 1 rfl) ?_
      refine lv_icmp_ge (tgt := 74) hx hb dX12_check_30 (by decide) (fun c3 => ?_) (fun c3 => ?_)
      · replace hf := ifp c3 hf
        refine lv_iconst (v := (-1)) hx hb dX12_check_74 (by decide) ?_
        have e9 := Option.some.inj hf
        exact retM hx hb hr hlocks hP hD hS (congrArg (fun z => z.1) e9) (congrArg (fun z => (kX12 T h a z.2 : va_W)) e9) dX12_check_75
      replace hf := ifn c3 hf
      refine lv_aload_n hx hb dX12_check_33 rfl (lv_at hl 0 rfl) ?_
      refine lv_iload_n hx hb dX12_check_34 rfl (lv_at hl 2 rfl) ?_
      obtain ⟨z4, hz4, hf⟩ := bnd hf
      refine cVR (As := [.int x2]) (rest := []) ⟨hx, hb, hml, hown, hts⟩ (mX12_octet l D T h a v x2 z4 hz4) (cwV 1 hts gX12_check_X12_octet rfl rfl rfl (by decide +kernel) ⟨Nat.le_of_ble_eq_true rfl, Nat.le_of_ble_eq_true rfl⟩) (va_recv hK.1 hP (ci := 12) (q0 := 0) rfl rfl) hP hK rfl hl.1 rfl (Nat.le_of_ble_eq_true rfl) dX12_check_35 ⟨Nat.le_of_ble_eq_true rfl, Nat.le_of_ble_eq_true rfl⟩ hP hS (fun H locs hP hS => ?_)
      refine lv_aload_n hx hb dX12_check_38 rfl (lv_at hl 0 rfl) ?_
      refine lv_iload_n hx hb dX12_check_39 rfl (lv_at hl 2 rfl) ?_
      obtain ⟨z5, hz5, hf⟩ := bnd hf
      refine cVR (As := [.int x2]) (rest := [.int z4]) ⟨hx, hb, hml, hown, hts⟩ (mX12_isTold l D T h a v x2 z5 hz5) (cwV 1 hts gX12_check_X12_isTold rfl rfl rfl (by decide +kernel) ⟨Nat.le_of_ble_eq_true rfl, Nat.le_of_ble_eq_true rfl⟩) (va_recv hK.1 hP (ci := 12) (q0 := 0) rfl rfl) hP hK rfl hl.1 rfl (Nat.le_of_ble_eq_true rfl) dX12_check_40 ⟨Nat.le_of_ble_eq_true rfl, Nat.le_of_ble_eq_true rfl⟩ hP hS (fun H locs hP hS => ?_)
      refine lv_if_eq (tgt := 62) hx hb dX12_check_43 (by decide) (fun c6 => ?_) (fun c6 => ?_)
      · replace hf := ifp c6 hf
        refine lv_iconst (v := 0) hx hb dX12_check_62 (by decide) ?_
        exact J63 v x1 x2 0 z4 _ _ _ hf hP hD hS (lv_sub hl [0, 1, 2] rfl)
      replace hf := ifn c6 hf
      refine lv_aload_n hx hb dX12_check_46 rfl (lv_at hl 0 rfl) ?_
      refine va_get (D := D) (ci := 12) (v := .ref (a 0)) (C := RX12) (T := TX12) (N := 52) hx hb hts hinX12 hown hK.1 hP 0 rfl rfl 0 (by decide) (hts (.fieldLink RX12 7 "RopeScaleModel" "now" "[I") (List.mem_of_getElem? (i := 2) rfl)) (fun _ h9 => h9) rfl dX12_check_47 ?_
      refine lv_bipush (v := 16) hx hb dX12_check_50 (by decide) ?_
      refine lv_iload_n hx hb dX12_check_52 rfl (lv_at hl 2 rfl) ?_
      refine lv_iadd hx hb dX12_check_53 ?_
      obtain ⟨h7, hf⟩ := gd_e hf
      refine va_iald hx hb hK.1 hP 1 0 rfl rfl h7 dX12_check_54 ?_
      refine lv_sipush (v := 256) hx hb dX12_check_55 (by decide) ?_
      refine lv_irem hx hb dX12_check_58 (by decide) ?_
      refine lv_goto (tgt := 63) hx hb dX12_check_59 (by decide) ?_
      exact J63 v x1 x2 (jrem (v 0 (ix (16 + x2))) 256) z4 _ _ _ hf hP hD hS (lv_sub hl [0, 1, 2] rfl)
  unfold fX12_check at hf
  refine lv_iload_n hx hb dX12_check_0 rfl (lv_at hl 1 rfl) ?_
  refine lv_iconst (v := 0) hx hb dX12_check_1 (by decide) ?_
  refine lv_bipush (v := 16) hx hb dX12_check_2 (by decide) ?_
  obtain ⟨z8, hz8, hf⟩ := lett_e hf
  refine cSR (As := [.int p1, .int 0, .int 16]) (rest := []) ⟨hx, hb, hml, hown, hts⟩ (mX12_in l D T p1 0 16 z8 hz8.symm) (va_cwS 3 hts gX12_check_X12_in rfl rfl rfl (by decide +kernel) ⟨Nat.le_of_ble_eq_true rfl, Nat.le_of_ble_eq_true rfl⟩) P0 hK rfl hl.1 rfl (Nat.le_of_ble_eq_true rfl) dX12_check_4 ⟨Nat.le_of_ble_eq_true rfl, Nat.le_of_ble_eq_true rfl⟩ hP hS (fun H locs hP hS => ?_)
  refine lv_if_eq (tgt := 18) hx hb dX12_check_7 (by decide) (fun c9 => ?_) (fun c9 => ?_)
  · replace hf := ifp c9 hf
    refine lv_bipush (v := (-2)) hx hb dX12_check_18 (by decide) ?_
    have e9 := Option.some.inj hf
    exact retM hx hb hr hlocks hP hD hS (congrArg (fun z => z.1) e9) (congrArg (fun z => (kX12 T h a z.2 : va_W)) e9) dX12_check_20
  replace hf := ifn c9 hf
  refine lv_iload_n hx hb dX12_check_10 rfl (lv_at hl 1 rfl) ?_
  refine lv_aload_n hx hb dX12_check_11 rfl (lv_at hl 0 rfl) ?_
  refine va_get (D := D) (ci := 12) (v := .int (u 6 0)) (C := RX12) (T := TX12) (N := 52) hx hb hts hinX12 hown hK.1 hP 0 rfl rfl 6 (by decide) (hts (.fieldLink RX12 119 "RopeScaleModel" "taped" "I") (List.mem_of_getElem? (i := 1) rfl)) (fun _ h9 => h9) rfl dX12_check_12 ?_
  refine lv_icmp_le (tgt := 21) hx hb dX12_check_15 (by decide) (fun c10 => ?_) (fun c10 => ?_)
  · replace hf := ifp c10 hf
    refine lv_aload_n hx hb dX12_check_21 rfl (lv_at hl 0 rfl) ?_
    refine lv_iconst (v := 0) hx hb dX12_check_22 (by decide) ?_
    obtain ⟨u11, eu11, hf⟩ := lett_e hf
    refine va_put (D := D) (ci := 12) (v := .int 0) (ty := .int) (C := RX12) (T := TX12) (N := 52) hx hb hts hinX12 tyX12 tyX12_ok nmX12 hown hK.1 hP hD hS 0 rfl rfl 6 (by decide) (hts (.fieldLink RX12 119 "RopeScaleModel" "taped" "I") (List.mem_of_getElem? (i := 1) rfl)) (fun _ h9 => h9) rfl (tyX12_ok 6 (by decide)) rfl rfl (Nat.le_of_ble_eq_true rfl) dX12_check_23 (fun H locs hP hD hS => ?_)
    have hP : va_P D vwCl (kX12 T h a u11) H := by rw [eu11]; exact hP
    have hD : va_D (va_A (kX12 T h a u) s.heap.size) (kX12 T h a u11) := by rw [eu11]; exact hD
    refine lv_iconst (v := 0) hx hb dX12_check_26 (by decide) ?_
    refine lv_istore_n (lv' := [(2, .int 0), (0, .ref h), (1, .int p1)]) hx hb dX12_check_27 rfl hl (by decide) rfl (fun ls hl => ?_)
    exact L28 FU u11 p1 0 _ _ _ hf hP hD hS (lv_sub hl [1, 2, 0] rfl)
  replace hf := ifn c10 hf
  refine lv_bipush (v := (-2)) hx hb dX12_check_18 (by decide) ?_
  have e9 := Option.some.inj hf
  exact retM hx hb hr hlocks hP hD hS (congrArg (fun z => z.1) e9) (congrArg (fun z => (kX12 T h a z.2 : va_W)) e9) dX12_check_20
def bX12_allOf_L4 (u : St)  (lp4 : Int32 → Int32 → Int32 → Option (Int32)) (x1 : Int32) (x2 : Int32) (x3 : Int32) : Option (Int32) := if 16 ≤ x3 then some x2 else (fX12_isTold u x3).bind fun z2 => if z2 = 0 then lett (x3 + 1) fun t4 => lp4 x1 x2 t4 else gd (x1 + x3) 98 <| lett (x2 + (u 0 (ix (x1 + x3)))) fun t5 => lett (x3 + 1) fun t6 => lp4 x1 t5 t6
def fX12_allOf_L4 (u : St)  : Nat → Int32 → Int32 → Int32 → Option (Int32)
  | 0, _, _, _ => none
  | n + 1, x1, x2, x3 => bX12_allOf_L4 u (fX12_allOf_L4 u n) x1 x2 x3
def fX12_allOf  (u : St) (p1 : Int32) : Option (Int32) := fX12_allOf_L4 u FU p1 0 0
set_option maxHeartbeats 4000000 in
set_option maxRecDepth 100000 in
theorem mX12_allOf (l : Launch) (D : va_G) (T : Ty3) (h : Nat) (a : Nat → Nat) (u : St) (p1 : Int32) (res : Int32) (hf : fX12_allOf u p1 = some res) : Met l yX12_allOf wsX12_allOf ({ frames := 2, cells := 0, slots := 0, locals := 43 }) (PcR D T (kX12 T h a u) [.ref h, .int p1]) (QR res) 0 0 noA := by
  refine Met.ofW (cc := cX12_allOf) (maxL := 4) (ret := (some .int)) (by decide) rfl ?_
  intro p e s m args below meth c s₁ B hml hv
  obtain ⟨rfl, hP, hK⟩ := hv
  have hx := B.exec
  have hb := B.bytes
  have hr := B.returns
  have hts := atoms_spec (ws := wsX12_allOf) B.pre
  have hown : s.vm.findClass RX12 = some m.cls := findClass_of_methodNamed B.named
  have hlocks := B.notSynchronized
  have hS : va_S noA s.heap s.heap [] := va_S.rf
  have hinX12 : ∀ w ∈ u_ws RX12 TX12 52, w ∈ wsX12_allOf := fun w h => List.mem_cons_of_mem _ (List.mem_append_right _ h)
  have hl := lv_entry ([.ref h, .int p1]) (n := 4) (Nat.le_of_ble_eq_true rfl)
  rw [lg_entry_eq]
  generalize (lg_sl ([.ref h, .int p1]) ++ List.replicate (4 - (lg_sl ([.ref h, .int p1])).length) Slot.unset).toArray = ls at hl ⊢
  have hl : lv_has ls 4 [(0, .ref h), (1, .int p1)] := hl
  have L4 : ∀ (n4 : Nat), ∀ (x1 : Int32) (x2 : Int32) (x3 : Int32) (H : Heap) (locs : List Loc) (ls : Array Slot), fX12_allOf_L4 u n4 x1 x2 x3 = some res → va_P D vwCl (kX12 T h a u) H → va_S noA s.heap H locs → lv_has ls 4 [(0, .ref h), (1, .int x1), (2, .int x2), (3, .int x3)] → W p l e (headSpec wsX12_allOf ({ frames := 2, cells := 0, slots := 0, locals := 43 })).room s m ([.ref h, .int p1] : List Value).toArray below meth c H locs 0 0 (MQ below (QR res) ([.ref h, .int p1] : List Value).toArray s 0 0 noA) (F0 m 4 ls []) := by
    intro n4
    induction n4 with
    | zero => intro x1 x2 x3 H locs ls hf; exact nns hf
    | succ n4 ih4 =>
      intro x1 x2 x3 H locs ls hf hP hS hl
      replace hf : bX12_allOf_L4 u (fX12_allOf_L4 u n4) x1 x2 x3 = some res := hf
      unfold bX12_allOf_L4 at hf
      refine lv_iload_n hx hb dX12_allOf_4 rfl (lv_at hl 3 rfl) ?_
      refine lv_bipush (v := 16) hx hb dX12_allOf_5 (by decide) ?_
      refine lv_icmp_ge (tgt := 35) hx hb dX12_allOf_7 (by decide) (fun c1 => ?_) (fun c1 => ?_)
      · replace hf := ifp c1 hf
        refine lv_iload_n hx hb dX12_allOf_35 rfl (lv_at hl 2 rfl) ?_
        exact retR hx hb hr hlocks hS (Option.some.inj hf) dX12_allOf_36
      replace hf := ifn c1 hf
      refine lv_aload_n hx hb dX12_allOf_10 rfl (lv_at hl 0 rfl) ?_
      refine lv_iload_n hx hb dX12_allOf_11 rfl (lv_at hl 3 rfl) ?_
      obtain ⟨z2, hz2, hf⟩ := bnd hf
      refine cVR (As := [.int x3]) (rest := []) ⟨hx, hb, hml, hown, hts⟩ (mX12_isTold l D T h a u x3 z2 hz2) (cwV 1 hts gX12_allOf_X12_isTold rfl rfl rfl (by decide +kernel) ⟨Nat.le_of_ble_eq_true rfl, Nat.le_of_ble_eq_true rfl⟩) (va_recv hK.1 hP (ci := 12) (q0 := 0) rfl rfl) hP hK rfl hl.1 rfl (Nat.le_of_ble_eq_true rfl) dX12_allOf_12 ⟨Nat.le_of_ble_eq_true rfl, Nat.le_of_ble_eq_true rfl⟩ hP hS (fun H locs hP hS => ?_)
      refine lv_if_eq (tgt := 29) hx hb dX12_allOf_15 (by decide) (fun c3 => ?_) (fun c3 => ?_)
      · replace hf := ifp c3 hf
        obtain ⟨t4, et4, hf⟩ := lett_e hf
        refine lv_iinc (v := t4) (lv' := [(3, .int t4), (0, .ref h), (1, .int x1), (2, .int x2)]) hx hb dX12_allOf_29 hl (k := 3) rfl (by rw [et4]; rfl) (by decide) rfl (fun ls hl => ?_)
        refine lv_goto (tgt := 4) hx hb dX12_allOf_32 (by decide) ?_
        exact ih4 x1 x2 t4 _ _ _ hf hP hS (lv_sub hl [1, 2, 3, 0] rfl)
      replace hf := ifn c3 hf
      refine lv_iload_n hx hb dX12_allOf_18 rfl (lv_at hl 2 rfl) ?_
      refine lv_aload_n hx hb dX12_allOf_19 rfl (lv_at hl 0 rfl) ?_
      refine va_get (D := D) (ci := 12) (v := .ref (a 0)) (C := RX12) (T := TX12) (N := 52) hx hb hts hinX12 hown hK.1 hP 0 rfl rfl 0 (by decide) (hts (.fieldLink RX12 7 "RopeScaleModel" "now" "[I") (List.mem_of_getElem? (i := 1) rfl)) (fun _ h9 => h9) rfl dX12_allOf_20 ?_
      refine lv_iload_n hx hb dX12_allOf_23 rfl (lv_at hl 1 rfl) ?_
      refine lv_iload_n hx hb dX12_allOf_24 rfl (lv_at hl 3 rfl) ?_
      refine lv_iadd hx hb dX12_allOf_25 ?_
      obtain ⟨h7, hf⟩ := gd_e hf
      refine va_iald hx hb hK.1 hP 1 0 rfl rfl h7 dX12_allOf_26 ?_
      refine lv_iadd hx hb dX12_allOf_27 ?_
      obtain ⟨t5, et5, hf⟩ := lett_e hf
      refine lv_eqi et5 ?_
      refine lv_istore_n (lv' := [(2, .int t5), (0, .ref h), (1, .int x1), (3, .int x3)]) hx hb dX12_allOf_28 rfl hl (by decide) rfl (fun ls hl => ?_)
      obtain ⟨t6, et6, hf⟩ := lett_e hf
      refine lv_iinc (v := t6) (lv' := [(3, .int t6), (2, .int t5), (0, .ref h), (1, .int x1)]) hx hb dX12_allOf_29 hl (k := 3) rfl (by rw [et6]; rfl) (by decide) rfl (fun ls hl => ?_)
      refine lv_goto (tgt := 4) hx hb dX12_allOf_32 (by decide) ?_
      exact ih4 x1 t5 t6 _ _ _ hf hP hS (lv_sub hl [2, 3, 1, 0] rfl)
  unfold fX12_allOf at hf
  refine lv_iconst (v := 0) hx hb dX12_allOf_0 (by decide) ?_
  refine lv_istore_n (lv' := [(2, .int 0), (0, .ref h), (1, .int p1)]) hx hb dX12_allOf_1 rfl hl (by decide) rfl (fun ls hl => ?_)
  refine lv_iconst (v := 0) hx hb dX12_allOf_2 (by decide) ?_
  refine lv_istore_n (lv' := [(3, .int 0), (2, .int 0), (0, .ref h), (1, .int p1)]) hx hb dX12_allOf_3 rfl hl (by decide) rfl (fun ls hl => ?_)
  exact L4 FU p1 0 0 _ _ _ hf hP hS (lv_sub hl [2, 3, 1, 0] rfl)
def fX12_count  (u : St) (p1 : Int32) : Option (Int32) := if p1 = 0 then gd 96 98 <| some (u 0 (ix 96)) else if p1 = 1 then (fX12_toldSet u).bind fun z4 => some z4 else if p1 = 2 then (fX12_toldSet u).bind fun z6 => (fX12_hereSet u).bind fun z7 => some (z6 &&& (z7 ^^^ (-1))) else if p1 = 3 then some (u 36 0) else if p1 = 4 then some (u 15 0) else if p1 = 5 then some (u 6 0) else if p1 = 6 then gd 97 98 <| some (u 0 (ix 97)) else if p1 = 7 then some (u 3 0) else if p1 = 8 then some (u 4 0) else if p1 = 9 then (fX12_named u).bind fun z16 => some z16 else if p1 = 10 then (fX12_allOf u 64).bind fun z18 => some z18 else if p1 = 11 then (fX12_allOf u 16).bind fun z20 => some z20 else some (-1)
set_option maxHeartbeats 4000000 in
set_option maxRecDepth 100000 in
theorem mX12_count (l : Launch) (D : va_G) (T : Ty3) (h : Nat) (a : Nat → Nat) (u : St) (p1 : Int32) (res : Int32) (hf : fX12_count u p1 = some res) : Met l yX12_count wsX12_count ({ frames := 4, cells := 0, slots := 0, locals := 86 }) (PcR D T (kX12 T h a u) [.ref h, .int p1]) (QR res) 0 0 noA := by
  refine Met.ofW (cc := cX12_count) (maxL := 2) (ret := (some .int)) (by decide) rfl ?_
  intro p e s m args below meth c s₁ B hml hv
  obtain ⟨rfl, hP, hK⟩ := hv
  have hx := B.exec
  have hb := B.bytes
  have hr := B.returns
  have hts := atoms_spec (ws := wsX12_count) B.pre
  have hown : s.vm.findClass RX12 = some m.cls := findClass_of_methodNamed B.named
  have hlocks := B.notSynchronized
  have hS : va_S noA s.heap s.heap [] := va_S.rf
  have hinX12 : ∀ w ∈ u_ws RX12 TX12 52, w ∈ wsX12_count := fun w h => List.mem_cons_of_mem _ (List.mem_append_right _ h)
  have hl := lv_entry ([.ref h, .int p1]) (n := 2) (Nat.le_of_ble_eq_true rfl)
  rw [lg_entry_eq]
  generalize (lg_sl ([.ref h, .int p1]) ++ List.replicate (2 - (lg_sl ([.ref h, .int p1])).length) Slot.unset).toArray = ls at hl ⊢
  have hl : lv_has ls 2 [(0, .ref h), (1, .int p1)] := hl
  unfold fX12_count at hf
  refine lv_iload_n hx hb dX12_count_0 rfl (lv_at hl 1 rfl) ?_
  by_cases c1 : p1 = 0
  · replace hf := ifp c1 hf
    refine lv_tableIn (off := 63) (tgt := 64) hx hb dX12_count_1 (by rw [c1]; decide) (by rw [c1]; decide) (by rw [c1]; rfl) (by decide) ?_
    refine lv_aload_n hx hb dX12_count_64 rfl (lv_at hl 0 rfl) ?_
    refine va_get (D := D) (ci := 12) (v := .ref (a 0)) (C := RX12) (T := TX12) (N := 52) hx hb hts hinX12 hown hK.1 hP 0 rfl rfl 0 (by decide) (hts (.fieldLink RX12 7 "RopeScaleModel" "now" "[I") (List.mem_of_getElem? (i := 1) rfl)) (fun _ h9 => h9) rfl dX12_count_65 ?_
    refine lv_bipush (v := 96) hx hb dX12_count_68 (by decide) ?_
    obtain ⟨h2, hf⟩ := gd_e hf
    refine va_iald hx hb hK.1 hP 1 0 rfl rfl h2 dX12_count_70 ?_
    exact retR hx hb hr hlocks hS (Option.some.inj hf) dX12_count_71
  replace hf := ifn c1 hf
  by_cases c3 : p1 = 1
  · replace hf := ifp c3 hf
    refine lv_tableIn (off := 71) (tgt := 72) hx hb dX12_count_1 (by rw [c3]; decide) (by rw [c3]; decide) (by rw [c3]; rfl) (by decide) ?_
    refine lv_aload_n hx hb dX12_count_72 rfl (lv_at hl 0 rfl) ?_
    obtain ⟨z4, hz4, hf⟩ := bnd hf
    refine cVR (As := []) (rest := []) ⟨hx, hb, hml, hown, hts⟩ (mX12_toldSet l D T h a u z4 hz4) (cwV 0 hts gX12_count_X12_toldSet rfl rfl rfl (by decide +kernel) ⟨Nat.le_of_ble_eq_true rfl, Nat.le_of_ble_eq_true rfl⟩) (va_recv hK.1 hP (ci := 12) (q0 := 0) rfl rfl) hP hK rfl hl.1 rfl (Nat.le_of_ble_eq_true rfl) dX12_count_73 ⟨Nat.le_of_ble_eq_true rfl, Nat.le_of_ble_eq_true rfl⟩ hP hS (fun H locs hP hS => ?_)
    exact retR hx hb hr hlocks hS (Option.some.inj hf) dX12_count_76
  replace hf := ifn c3 hf
  by_cases c5 : p1 = 2
  · replace hf := ifp c5 hf
    refine lv_tableIn (off := 76) (tgt := 77) hx hb dX12_count_1 (by rw [c5]; decide) (by rw [c5]; decide) (by rw [c5]; rfl) (by decide) ?_
    refine lv_aload_n hx hb dX12_count_77 rfl (lv_at hl 0 rfl) ?_
    obtain ⟨z6, hz6, hf⟩ := bnd hf
    refine cVR (As := []) (rest := []) ⟨hx, hb, hml, hown, hts⟩ (mX12_toldSet l D T h a u z6 hz6) (cwV 0 hts gX12_count_X12_toldSet rfl rfl rfl (by decide +kernel) ⟨Nat.le_of_ble_eq_true rfl, Nat.le_of_ble_eq_true rfl⟩) (va_recv hK.1 hP (ci := 12) (q0 := 0) rfl rfl) hP hK rfl hl.1 rfl (Nat.le_of_ble_eq_true rfl) dX12_count_78 ⟨Nat.le_of_ble_eq_true rfl, Nat.le_of_ble_eq_true rfl⟩ hP hS (fun H locs hP hS => ?_)
    refine lv_aload_n hx hb dX12_count_81 rfl (lv_at hl 0 rfl) ?_
    obtain ⟨z7, hz7, hf⟩ := bnd hf
    refine cVR (As := []) (rest := [.int z6]) ⟨hx, hb, hml, hown, hts⟩ (mX12_hereSet l D T h a u z7 hz7) (cwV 0 hts gX12_count_X12_hereSet rfl rfl rfl (by decide +kernel) ⟨Nat.le_of_ble_eq_true rfl, Nat.le_of_ble_eq_true rfl⟩) (va_recv hK.1 hP (ci := 12) (q0 := 0) rfl rfl) hP hK rfl hl.1 rfl (Nat.le_of_ble_eq_true rfl) dX12_count_82 ⟨Nat.le_of_ble_eq_true rfl, Nat.le_of_ble_eq_true rfl⟩ hP hS (fun H locs hP hS => ?_)
    refine lv_iconst (v := (-1)) hx hb dX12_count_85 (by decide) ?_
    refine lv_ixor hx hb dX12_count_86 ?_
    refine lv_iand hx hb dX12_count_87 ?_
    exact retR hx hb hr hlocks hS (Option.some.inj hf) dX12_count_88
  replace hf := ifn c5 hf
  by_cases c8 : p1 = 3
  · replace hf := ifp c8 hf
    refine lv_tableIn (off := 88) (tgt := 89) hx hb dX12_count_1 (by rw [c8]; decide) (by rw [c8]; decide) (by rw [c8]; rfl) (by decide) ?_
    refine lv_aload_n hx hb dX12_count_89 rfl (lv_at hl 0 rfl) ?_
    refine va_get (D := D) (ci := 12) (v := .int (u 36 0)) (C := RX12) (T := TX12) (N := 52) hx hb hts hinX12 hown hK.1 hP 0 rfl rfl 36 (by decide) (hts (.fieldLink RX12 274 "RopeScaleModel" "weighingMany" "I") (List.mem_of_getElem? (i := 2) rfl)) (fun _ h9 => h9) rfl dX12_count_90 ?_
    exact retR hx hb hr hlocks hS (Option.some.inj hf) dX12_count_93
  replace hf := ifn c8 hf
  by_cases c9 : p1 = 4
  · replace hf := ifp c9 hf
    refine lv_tableIn (off := 93) (tgt := 94) hx hb dX12_count_1 (by rw [c9]; decide) (by rw [c9]; decide) (by rw [c9]; rfl) (by decide) ?_
    refine lv_aload_n hx hb dX12_count_94 rfl (lv_at hl 0 rfl) ?_
    refine va_get (D := D) (ci := 12) (v := .int (u 15 0)) (C := RX12) (T := TX12) (N := 52) hx hb hts hinX12 hown hK.1 hP 0 rfl rfl 15 (by decide) (hts (.fieldLink RX12 220 "RopeScaleModel" "clauses" "I") (List.mem_of_getElem? (i := 3) rfl)) (fun _ h9 => h9) rfl dX12_count_95 ?_
    exact retR hx hb hr hlocks hS (Option.some.inj hf) dX12_count_98
  replace hf := ifn c9 hf
  by_cases c10 : p1 = 5
  · replace hf := ifp c10 hf
    refine lv_tableIn (off := 98) (tgt := 99) hx hb dX12_count_1 (by rw [c10]; decide) (by rw [c10]; decide) (by rw [c10]; rfl) (by decide) ?_
    refine lv_aload_n hx hb dX12_count_99 rfl (lv_at hl 0 rfl) ?_
    refine va_get (D := D) (ci := 12) (v := .int (u 6 0)) (C := RX12) (T := TX12) (N := 52) hx hb hts hinX12 hown hK.1 hP 0 rfl rfl 6 (by decide) (hts (.fieldLink RX12 119 "RopeScaleModel" "taped" "I") (List.mem_of_getElem? (i := 4) rfl)) (fun _ h9 => h9) rfl dX12_count_100 ?_
    exact retR hx hb hr hlocks hS (Option.some.inj hf) dX12_count_103
  replace hf := ifn c10 hf
  by_cases c11 : p1 = 6
  · replace hf := ifp c11 hf
    refine lv_tableIn (off := 103) (tgt := 104) hx hb dX12_count_1 (by rw [c11]; decide) (by rw [c11]; decide) (by rw [c11]; rfl) (by decide) ?_
    refine lv_aload_n hx hb dX12_count_104 rfl (lv_at hl 0 rfl) ?_
    refine va_get (D := D) (ci := 12) (v := .ref (a 0)) (C := RX12) (T := TX12) (N := 52) hx hb hts hinX12 hown hK.1 hP 0 rfl rfl 0 (by decide) (hts (.fieldLink RX12 7 "RopeScaleModel" "now" "[I") (List.mem_of_getElem? (i := 1) rfl)) (fun _ h9 => h9) rfl dX12_count_105 ?_
    refine lv_bipush (v := 97) hx hb dX12_count_108 (by decide) ?_
    obtain ⟨h12, hf⟩ := gd_e hf
    refine va_iald hx hb hK.1 hP 1 0 rfl rfl h12 dX12_count_110 ?_
    exact retR hx hb hr hlocks hS (Option.some.inj hf) dX12_count_111
  replace hf := ifn c11 hf
  by_cases c13 : p1 = 7
  · replace hf := ifp c13 hf
    refine lv_tableIn (off := 111) (tgt := 112) hx hb dX12_count_1 (by rw [c13]; decide) (by rw [c13]; decide) (by rw [c13]; rfl) (by decide) ?_
    refine lv_aload_n hx hb dX12_count_112 rfl (lv_at hl 0 rfl) ?_
    refine va_get (D := D) (ci := 12) (v := .int (u 3 0)) (C := RX12) (T := TX12) (N := 52) hx hb hts hinX12 hown hK.1 hP 0 rfl rfl 3 (by decide) (hts (.fieldLink RX12 116 "RopeScaleModel" "toleranceNow" "I") (List.mem_of_getElem? (i := 5) rfl)) (fun _ h9 => h9) rfl dX12_count_113 ?_
    exact retR hx hb hr hlocks hS (Option.some.inj hf) dX12_count_116
  replace hf := ifn c13 hf
  by_cases c14 : p1 = 8
  · replace hf := ifp c14 hf
    refine lv_tableIn (off := 116) (tgt := 117) hx hb dX12_count_1 (by rw [c14]; decide) (by rw [c14]; decide) (by rw [c14]; rfl) (by decide) ?_
    refine lv_aload_n hx hb dX12_count_117 rfl (lv_at hl 0 rfl) ?_
    refine va_get (D := D) (ci := 12) (v := .int (u 4 0)) (C := RX12) (T := TX12) (N := 52) hx hb hts hinX12 hown hK.1 hP 0 rfl rfl 4 (by decide) (hts (.fieldLink RX12 101 "RopeScaleModel" "toeNow" "I") (List.mem_of_getElem? (i := 6) rfl)) (fun _ h9 => h9) rfl dX12_count_118 ?_
    exact retR hx hb hr hlocks hS (Option.some.inj hf) dX12_count_121
  replace hf := ifn c14 hf
  by_cases c15 : p1 = 9
  · replace hf := ifp c15 hf
    refine lv_tableIn (off := 121) (tgt := 122) hx hb dX12_count_1 (by rw [c15]; decide) (by rw [c15]; decide) (by rw [c15]; rfl) (by decide) ?_
    refine lv_aload_n hx hb dX12_count_122 rfl (lv_at hl 0 rfl) ?_
    obtain ⟨z16, hz16, hf⟩ := bnd hf
    refine cVR (As := []) (rest := []) ⟨hx, hb, hml, hown, hts⟩ (mX12_named l D T h a u z16 hz16) (cwV 0 hts gX12_count_X12_named rfl rfl rfl (by decide +kernel) ⟨Nat.le_of_ble_eq_true rfl, Nat.le_of_ble_eq_true rfl⟩) (va_recv hK.1 hP (ci := 12) (q0 := 0) rfl rfl) hP hK rfl hl.1 rfl (Nat.le_of_ble_eq_true rfl) dX12_count_123 ⟨Nat.le_of_ble_eq_true rfl, Nat.le_of_ble_eq_true rfl⟩ hP hS (fun H locs hP hS => ?_)
    exact retR hx hb hr hlocks hS (Option.some.inj hf) dX12_count_126
  replace hf := ifn c15 hf
  by_cases c17 : p1 = 10
  · replace hf := ifp c17 hf
    refine lv_tableIn (off := 126) (tgt := 127) hx hb dX12_count_1 (by rw [c17]; decide) (by rw [c17]; decide) (by rw [c17]; rfl) (by decide) ?_
    refine lv_aload_n hx hb dX12_count_127 rfl (lv_at hl 0 rfl) ?_
    refine lv_bipush (v := 64) hx hb dX12_count_128 (by decide) ?_
    obtain ⟨z18, hz18, hf⟩ := bnd hf
    refine cVR (As := [.int 64]) (rest := []) ⟨hx, hb, hml, hown, hts⟩ (mX12_allOf l D T h a u 64 z18 hz18) (cwV 1 hts gX12_count_X12_allOf rfl rfl rfl (by decide +kernel) ⟨Nat.le_of_ble_eq_true rfl, Nat.le_of_ble_eq_true rfl⟩) (va_recv hK.1 hP (ci := 12) (q0 := 0) rfl rfl) hP hK rfl hl.1 rfl (Nat.le_of_ble_eq_true rfl) dX12_count_130 ⟨Nat.le_of_ble_eq_true rfl, Nat.le_of_ble_eq_true rfl⟩ hP hS (fun H locs hP hS => ?_)
    exact retR hx hb hr hlocks hS (Option.some.inj hf) dX12_count_133
  replace hf := ifn c17 hf
  by_cases c19 : p1 = 11
  · replace hf := ifp c19 hf
    refine lv_tableIn (off := 133) (tgt := 134) hx hb dX12_count_1 (by rw [c19]; decide) (by rw [c19]; decide) (by rw [c19]; rfl) (by decide) ?_
    refine lv_aload_n hx hb dX12_count_134 rfl (lv_at hl 0 rfl) ?_
    refine lv_bipush (v := 16) hx hb dX12_count_135 (by decide) ?_
    obtain ⟨z20, hz20, hf⟩ := bnd hf
    refine cVR (As := [.int 16]) (rest := []) ⟨hx, hb, hml, hown, hts⟩ (mX12_allOf l D T h a u 16 z20 hz20) (cwV 1 hts gX12_count_X12_allOf rfl rfl rfl (by decide +kernel) ⟨Nat.le_of_ble_eq_true rfl, Nat.le_of_ble_eq_true rfl⟩) (va_recv hK.1 hP (ci := 12) (q0 := 0) rfl rfl) hP hK rfl hl.1 rfl (Nat.le_of_ble_eq_true rfl) dX12_count_137 ⟨Nat.le_of_ble_eq_true rfl, Nat.le_of_ble_eq_true rfl⟩ hP hS (fun H locs hP hS => ?_)
    exact retR hx hb hr hlocks hS (Option.some.inj hf) dX12_count_140
  replace hf := ifn c19 hf
  refine lv_tableOut (tgt := 141) hx hb dX12_count_1 (sw_out (x := p1) 12 (by decide) (fun k9 hk9 => match k9, hk9 with | 0, _ => fun e9 => c1 (e9.trans (by decide)) | 1, _ => fun e9 => c3 (e9.trans (by decide)) | 2, _ => fun e9 => c5 (e9.trans (by decide)) | 3, _ => fun e9 => c8 (e9.trans (by decide)) | 4, _ => fun e9 => c9 (e9.trans (by decide)) | 5, _ => fun e9 => c10 (e9.trans (by decide)) | 6, _ => fun e9 => c11 (e9.trans (by decide)) | 7, _ => fun e9 => c13 (e9.trans (by decide)) | 8, _ => fun e9 => c14 (e9.trans (by decide)) | 9, _ => fun e9 => c15 (e9.trans (by decide)) | 10, _ => fun e9 => c17 (e9.trans (by decide)) | 11, _ => fun e9 => c19 (e9.trans (by decide)) | k9 + 12, hk9 => absurd hk9 (by omega))) (by decide) ?_
  refine lv_iconst (v := (-1)) hx hb dX12_count_141 (by decide) ?_
  exact retR hx hb hr hlocks hS (Option.some.inj hf) dX12_count_142
