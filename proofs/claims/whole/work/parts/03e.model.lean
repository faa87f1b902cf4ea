def bX12_colonel_L37 (u : St)  (lp37 : Int32 → Int32 → Int32 → Int32 → Int32 → Option (Int32)) (x1 : Int32) (x2 : Int32) (x3 : Int32) (x4 : Int32) (x5 : Int32) : Option (Int32) := if x3 < x5 then some x4 else if (x5 &&& (x3 ^^^ (-1))) = 0 then (fX12_bits x5).bind fun z4 => if z4 = x2 then (fX12_sumOf u x5).bind fun z7 => gd (16 + x1) 98 <| lett (fX12_size (z7 - (u 0 (ix (16 + x1))))) fun z8 => if (u 3 0) < z8 then lett (x5 + 1) fun t10 => lp37 x1 x2 x3 x4 t10 else lett (x4 + 1) fun t11 => lett (x5 + 1) fun t12 => lp37 x1 x2 x3 t11 t12 else lett (x5 + 1) fun t6 => lp37 x1 x2 x3 x4 t6 else lett (x5 + 1) fun t3 => lp37 x1 x2 x3 x4 t3
def fX12_colonel_L37 (u : St)  : Nat → Int32 → Int32 → Int32 → Int32 → Int32 → Option (Int32)
  | 0, _, _, _, _, _ => none
  | n + 1, x1, x2, x3, x4, x5 => bX12_colonel_L37 u (fX12_colonel_L37 u n) x1 x2 x3 x4 x5
def fX12_colonel  (u : St) (p1 : Int32) (p2 : Int32) : Option (Int32) := (fX12_isTold u p1).bind fun z14 => if z14 = 0 then some (-1) else lett (fX12_in p2 1 15) fun z16 => if z16 = 0 then some (-1) else (fX12_hereSet u).bind fun z18 => lett (z18 &&& ((jshl 1 p1) ^^^ (-1))) fun t19 => fX12_colonel_L37 u FU p1 p2 t19 0 0
set_option maxHeartbeats 4000000 in
set_option maxRecDepth 100000 in
theorem mX12_colonel (l : Launch) (D : va_G) (T : Ty3) (h : Nat) (a : Nat → Nat) (u : St) (p1 : Int32) (p2 : Int32) (res : Int32) (hf : fX12_colonel u p1 p2 = some res) : Met l yX12_colonel wsX12_colonel ({ frames := 4, cells := 0, slots := 0, locals := 86 }) (PcR D T (kX12 T h a u) [.ref h, .int p1, .int p2]) (QR res) 0 0 noA := by
  refine Met.ofW (cc := cX12_colonel) (maxL := 6) (ret := (some .int)) (by decide) rfl ?_
  intro p e s m args below meth c s₁ B hml hv
  obtain ⟨rfl, hP, hK⟩ := hv
  have hx := B.exec
  have hb := B.bytes
  have hr := B.returns
  have hts := atoms_spec (ws := wsX12_colonel) B.pre
  have hown : s.vm.findClass RX12 = some m.cls := findClass_of_methodNamed B.named
  have hlocks := B.notSynchronized
  have hS : va_S noA s.heap s.heap [] := va_S.rf
  have hinX12 : ∀ w ∈ u_ws RX12 TX12 52, w ∈ wsX12_colonel := fun w h => List.mem_cons_of_mem _ (List.mem_append_right _ h)
  have hl := lv_entry ([.ref h, .int p1, .int p2]) (n := 6) (Nat.le_of_ble_eq_true rfl)
  rw [lg_entry_eq]
  generalize (lg_sl ([.ref h, .int p1, .int p2]) ++ List.replicate (6 - (lg_sl ([.ref h, .int p1, .int p2])).length) Slot.unset).toArray = ls at hl ⊢
  have hl : lv_has ls 6 [(0, .ref h), (1, .int p1), (2, .int p2)] := hl
  have L37 : ∀ (n37 : Nat), ∀ (x1 : Int32) (x2 : Int32) (x3 : Int32) (x4 : Int32) (x5 : Int32) (H : Heap) (locs : List Loc) (ls : Array Slot), fX12_colonel_L37 u n37 x1 x2 x3 x4 x5 = some res → va_P D vwCl (kX12 T h a u) H → va_S noA s.heap H locs → lv_has ls 6 [(0, .ref h), (1, .int x1), (2, .int x2), (3, .int x3), (4, .int x4), (5, .int x5)] → W p l e (headSpec wsX12_colonel ({ frames := 4, cells := 0, slots := 0, locals := 86 })).room s m ([.ref h, .int p1, .int p2] : List Value).toArray below meth c H locs 0 0 (MQ below (QR res) ([.ref h, .int p1, .int p2] : List Value).toArray s 0 0 noA) (F0 m 37 ls []) := by
    intro n37
    induction n37 with
    | zero => intro x1 x2 x3 x4 x5 H locs ls hf; exact nns hf
    | succ n37 ih37 =>
      intro x1 x2 x3 x4 x5 H locs ls hf hP hS hl
      replace hf : bX12_colonel_L37 u (fX12_colonel_L37 u n37) x1 x2 x3 x4 x5 = some res := hf
      unfold bX12_colonel_L37 at hf
      refine lv_iload hx hb dX12_colonel_37 (lv_at hl 5 rfl) ?_
      refine lv_iload_n hx hb dX12_colonel_39 rfl (lv_at hl 3 rfl) ?_
      refine lv_icmp_gt (tgt := 99) hx hb dX12_colonel_40 (by decide) (fun c1 => ?_) (fun c1 => ?_)
      · replace hf := ifp c1 hf
        refine lv_iload hx hb dX12_colonel_99 (lv_at hl 4 rfl) ?_
        exact retR hx hb hr hlocks hS (Option.some.inj hf) dX12_colonel_101
      replace hf := ifn c1 hf
      refine lv_iload hx hb dX12_colonel_43 (lv_at hl 5 rfl) ?_
      refine lv_iload_n hx hb dX12_colonel_45 rfl (lv_at hl 3 rfl) ?_
      refine lv_iconst (v := (-1)) hx hb dX12_colonel_46 (by decide) ?_
      refine lv_ixor hx hb dX12_colonel_47 ?_
      refine lv_iand hx hb dX12_colonel_48 ?_
      refine lv_if_ne (tgt := 93) hx hb dX12_colonel_49 (by decide) (fun c2 => ?_) (fun c2 => ?_)
      · replace hf := ifn c2 hf
        obtain ⟨t3, et3, hf⟩ := lett_e hf
        refine lv_iinc (v := t3) (lv' := [(5, .int t3), (0, .ref h), (1, .int x1), (2, .int x2), (3, .int x3), (4, .int x4)]) hx hb dX12_colonel_93 hl (k := 5) rfl (by rw [et3]; rfl) (by decide) rfl (fun ls hl => ?_)
        refine lv_goto (tgt := 37) hx hb dX12_colonel_96 (by decide) ?_
        exact ih37 x1 x2 x3 x4 t3 _ _ _ hf hP hS (lv_sub hl [1, 2, 3, 4, 5, 0] rfl)
      replace hf := ifp c2 hf
      refine lv_iload hx hb dX12_colonel_52 (lv_at hl 5 rfl) ?_
      obtain ⟨z4, hz4, hf⟩ := bnd hf
      refine cSR (As := [.int x5]) (rest := []) ⟨hx, hb, hml, hown, hts⟩ (mX12_bits l D T x5 z4 hz4) (va_cwS 1 hts gX12_colonel_X12_bits rfl rfl rfl (by decide +kernel) ⟨Nat.le_of_ble_eq_true rfl, Nat.le_of_ble_eq_true rfl⟩) P0 hK rfl hl.1 rfl (Nat.le_of_ble_eq_true rfl) dX12_colonel_54 ⟨Nat.le_of_ble_eq_true rfl, Nat.le_of_ble_eq_true rfl⟩ hP hS (fun H locs hP hS => ?_)
      refine lv_iload_n hx hb dX12_colonel_57 rfl (lv_at hl 2 rfl) ?_
      refine lv_icmp_ne (tgt := 93) hx hb dX12_colonel_58 (by decide) (fun c5 => ?_) (fun c5 => ?_)
      · replace hf := ifn c5 hf
        obtain ⟨t6, et6, hf⟩ := lett_e hf
        refine lv_iinc (v := t6) (lv' := [(5, .int t6), (0, .ref h), (1, .int x1), (2, .int x2), (3, .int x3), (4, .int x4)]) hx hb dX12_colonel_93 hl (k := 5) rfl (by rw [et6]; rfl) (by decide) rfl (fun ls hl => ?_)
        refine lv_goto (tgt := 37) hx hb dX12_colonel_96 (by decide) ?_
        exact ih37 x1 x2 x3 x4 t6 _ _ _ hf hP hS (lv_sub hl [1, 2, 3, 4, 5, 0] rfl)
      replace hf := ifp c5 hf
      refine lv_aload_n hx hb dX12_colonel_61 rfl (lv_at hl 0 rfl) ?_
      refine lv_iload hx hb dX12_colonel_62 (lv_at hl 5 rfl) ?_
      obtain ⟨z7, hz7, hf⟩ := bnd hf
      refine cVR (As := [.int x5]) (rest := []) ⟨hx, hb, hml, hown, hts⟩ (mX12_sumOf l D T h a u x5 z7 hz7) (cwV 1 hts gX12_colonel_X12_sumOf rfl rfl rfl (by decide +kernel) ⟨Nat.le_of_ble_eq_true rfl, Nat.le_of_ble_eq_true rfl⟩) (va_recv hK.1 hP (ci := 12) (q0 := 0) rfl rfl) hP hK rfl hl.1 rfl (Nat.le_of_ble_eq_true rfl) dX12_colonel_64 ⟨Nat.le_of_ble_eq_true rfl, Nat.le_of_ble_eq_true rfl⟩ hP hS (fun H locs hP hS => ?_)
      refine lv_aload_n hx hb dX12_colonel_67 rfl (lv_at hl 0 rfl) ?_
      refine va_get (D := D) (ci := 12) (v := .ref (a 0)) (C := RX12) (T := TX12) (N := 52) hx hb hts hinX12 hown hK.1 hP 0 rfl rfl 0 (by decide) (hts (.fieldLink RX12 7 "RopeScaleModel" "now" "[I") (List.mem_of_getElem? (i := 1) rfl)) (fun _ h9 => h9) rfl dX12_colonel_68 ?_
      refine lv_bipush (v := 16) hx hb dX12_colonel_71 (by decide) ?_
      refine lv_iload_n hx hb dX12_colonel_73 rfl (lv_at hl 1 rfl) ?_
      refine lv_iadd hx hb dX12_colonel_74 ?_
      obtain ⟨h13, hf⟩ := gd_e hf
      refine va_iald hx hb hK.1 hP 1 0 rfl rfl h13 dX12_colonel_75 ?_
      refine lv_isub hx hb dX12_colonel_76 ?_
      obtain ⟨z8, hz8, hf⟩ := lett_e hf
      refine cSR (As := [.int (z7 - (u 0 (ix (16 + x1))))]) (rest := []) ⟨hx, hb, hml, hown, hts⟩ (mX12_size l D T (z7 - (u 0 (ix (16 + x1)))) z8 hz8.symm) (va_cwS 1 hts gX12_colonel_X12_size rfl rfl rfl (by decide +kernel) ⟨Nat.le_of_ble_eq_true rfl, Nat.le_of_ble_eq_true rfl⟩) P0 hK rfl hl.1 rfl (Nat.le_of_ble_eq_true rfl) dX12_colonel_77 ⟨Nat.le_of_ble_eq_true rfl, Nat.le_of_ble_eq_true rfl⟩ hP hS (fun H locs hP hS => ?_)
      refine lv_aload_n hx hb dX12_colonel_80 rfl (lv_at hl 0 rfl) ?_
      refine va_get (D := D) (ci := 12) (v := .int (u 3 0)) (C := RX12) (T := TX12) (N := 52) hx hb hts hinX12 hown hK.1 hP 0 rfl rfl 3 (by decide) (hts (.fieldLink RX12 116 "RopeScaleModel" "toleranceNow" "I") (List.mem_of_getElem? (i := 2) rfl)) (fun _ h9 => h9) rfl dX12_colonel_81 ?_
      refine lv_icmp_gt (tgt := 93) hx hb dX12_colonel_84 (by decide) (fun c9 => ?_) (fun c9 => ?_)
      · replace hf := ifp c9 hf
        obtain ⟨t10, et10, hf⟩ := lett_e hf
        refine lv_iinc (v := t10) (lv' := [(5, .int t10), (0, .ref h), (1, .int x1), (2, .int x2), (3, .int x3), (4, .int x4)]) hx hb dX12_colonel_93 hl (k := 5) rfl (by rw [et10]; rfl) (by decide) rfl (fun ls hl => ?_)
        refine lv_goto (tgt := 37) hx hb dX12_colonel_96 (by decide) ?_
        exact ih37 x1 x2 x3 x4 t10 _ _ _ hf hP hS (lv_sub hl [1, 2, 3, 4, 5, 0] rfl)
      replace hf := ifn c9 hf
      refine lv_iload hx hb dX12_colonel_87 (lv_at hl 4 rfl) ?_
      refine lv_iconst (v := 1) hx hb dX12_colonel_89 (by decide) ?_
      refine lv_iadd hx hb dX12_colonel_90 ?_
      obtain ⟨t11, et11, hf⟩ := lett_e hf
      refine lv_eqi et11 ?_
      refine lv_istore (lv' := [(4, .int t11), (0, .ref h), (1, .int x1), (2, .int x2), (3, .int x3), (5, .int x5)]) hx hb dX12_colonel_91 hl (by decide) rfl (fun ls hl => ?_)
      obtain ⟨t12, et12, hf⟩ := lett_e hf
      refine lv_iinc (v := t12) (lv' := [(5, .int t12), (4, .int t11), (0, .ref h), (1, .int x1), (2, .int x2), (3, .int x3)]) hx hb dX12_colonel_93 hl (k := 5) rfl (by rw [et12]; rfl) (by decide) rfl (fun ls hl => ?_)
      refine lv_goto (tgt := 37) hx hb dX12_colonel_96 (by decide) ?_
      exact ih37 x1 x2 x3 t11 t12 _ _ _ hf hP hS (lv_sub hl [2, 3, 4, 5, 1, 0] rfl)
  unfold fX12_colonel at hf
  refine lv_aload_n hx hb dX12_colonel_0 rfl (lv_at hl 0 rfl) ?_
  refine lv_iload_n hx hb dX12_colonel_1 rfl (lv_at hl 1 rfl) ?_
  obtain ⟨z14, hz14, hf⟩ := bnd hf
  refine cVR (As := [.int p1]) (rest := []) ⟨hx, hb, hml, hown, hts⟩ (mX12_isTold l D T h a u p1 z14 hz14) (cwV 1 hts gX12_colonel_X12_isTold rfl rfl rfl (by decide +kernel) ⟨Nat.le_of_ble_eq_true rfl, Nat.le_of_ble_eq_true rfl⟩) (va_recv hK.1 hP (ci := 12) (q0 := 0) rfl rfl) hP hK rfl hl.1 rfl (Nat.le_of_ble_eq_true rfl) dX12_colonel_2 ⟨Nat.le_of_ble_eq_true rfl, Nat.le_of_ble_eq_true rfl⟩ hP hS (fun H locs hP hS => ?_)
  refine lv_if_eq (tgt := 18) hx hb dX12_colonel_5 (by decide) (fun c15 => ?_) (fun c15 => ?_)
  · replace hf := ifp c15 hf
    refine lv_iconst (v := (-1)) hx hb dX12_colonel_18 (by decide) ?_
    exact retR hx hb hr hlocks hS (Option.some.inj hf) dX12_colonel_19
  replace hf := ifn c15 hf
  refine lv_iload_n hx hb dX12_colonel_8 rfl (lv_at hl 2 rfl) ?_
  refine lv_iconst (v := 1) hx hb dX12_colonel_9 (by decide) ?_
  refine lv_bipush (v := 15) hx hb dX12_colonel_10 (by decide) ?_
  obtain ⟨z16, hz16, hf⟩ := lett_e hf
  refine cSR (As := [.int p2, .int 1, .int 15]) (rest := []) ⟨hx, hb, hml, hown, hts⟩ (mX12_in l D T p2 1 15 z16 hz16.symm) (va_cwS 3 hts gX12_colonel_X12_in rfl rfl rfl (by decide +kernel) ⟨Nat.le_of_ble_eq_true rfl, Nat.le_of_ble_eq_true rfl⟩) P0 hK rfl hl.1 rfl (Nat.le_of_ble_eq_true rfl) dX12_colonel_12 ⟨Nat.le_of_ble_eq_true rfl, Nat.le_of_ble_eq_true rfl⟩ hP hS (fun H locs hP hS => ?_)
  refine lv_if_ne (tgt := 20) hx hb dX12_colonel_15 (by decide) (fun c17 => ?_) (fun c17 => ?_)
  · replace hf := ifn c17 hf
    refine lv_aload_n hx hb dX12_colonel_20 rfl (lv_at hl 0 rfl) ?_
    obtain ⟨z18, hz18, hf⟩ := bnd hf
    refine cVR (As := []) (rest := []) ⟨hx, hb, hml, hown, hts⟩ (mX12_hereSet l D T h a u z18 hz18) (cwV 0 hts gX12_colonel_X12_hereSet rfl rfl rfl (by decide +kernel) ⟨Nat.le_of_ble_eq_true rfl, Nat.le_of_ble_eq_true rfl⟩) (va_recv hK.1 hP (ci := 12) (q0 := 0) rfl rfl) hP hK rfl hl.1 rfl (Nat.le_of_ble_eq_true rfl) dX12_colonel_21 ⟨Nat.le_of_ble_eq_true rfl, Nat.le_of_ble_eq_true rfl⟩ hP hS (fun H locs hP hS => ?_)
    refine lv_iconst (v := 1) hx hb dX12_colonel_24 (by decide) ?_
    refine lv_iload_n hx hb dX12_colonel_25 rfl (lv_at hl 1 rfl) ?_
    refine lv_ishl hx hb dX12_colonel_26 ?_
    refine lv_iconst (v := (-1)) hx hb dX12_colonel_27 (by decide) ?_
    refine lv_ixor hx hb dX12_colonel_28 ?_
    refine lv_iand hx hb dX12_colonel_29 ?_
    obtain ⟨t19, et19, hf⟩ := lett_e hf
    refine lv_eqi et19 ?_
    refine lv_istore_n (lv' := [(3, .int t19), (0, .ref h), (1, .int p1), (2, .int p2)]) hx hb dX12_colonel_30 rfl hl (by decide) rfl (fun ls hl => ?_)
    refine lv_iconst (v := 0) hx hb dX12_colonel_31 (by decide) ?_
    refine lv_istore (lv' := [(4, .int 0), (3, .int t19), (0, .ref h), (1, .int p1), (2, .int p2)]) hx hb dX12_colonel_32 hl (by decide) rfl (fun ls hl => ?_)
    refine lv_iconst (v := 0) hx hb dX12_colonel_34 (by decide) ?_
    refine lv_istore (lv' := [(5, .int 0), (4, .int 0), (3, .int t19), (0, .ref h), (1, .int p1), (2, .int p2)]) hx hb dX12_colonel_35 hl (by decide) rfl (fun ls hl => ?_)
    exact L37 FU p1 p2 t19 0 0 _ _ _ hf hP hS (lv_sub hl [3, 4, 5, 2, 1, 0] rfl)
  replace hf := ifp c17 hf
  refine lv_iconst (v := (-1)) hx hb dX12_colonel_18 (by decide) ?_
  exact retR hx hb hr hlocks hS (Option.some.inj hf) dX12_colonel_19
def bX12_partySum_L4 (u : St)  (lp4 : Int32 → Int32 → Int32 → Option (Int32)) (x1 : Int32) (x2 : Int32) (x3 : Int32) : Option (Int32) := if (u 45 0) ≤ x3 then some x2 else lett (fX12_has x1 x3) fun z2 => if z2 = 0 then lett (x3 + 1) fun t4 => lp4 x1 x2 t4 else gd x3 8 <| gd (16 + (u 43 (ix x3))) 98 <| lett (x2 + (u 0 (ix (16 + (u 43 (ix x3)))))) fun t5 => lett (x3 + 1) fun t6 => lp4 x1 t5 t6
def fX12_partySum_L4 (u : St)  : Nat → Int32 → Int32 → Int32 → Option (Int32)
  | 0, _, _, _ => none
  | n + 1, x1, x2, x3 => bX12_partySum_L4 u (fX12_partySum_L4 u n) x1 x2 x3
def fX12_partySum  (u : St) (p1 : Int32) : Option (Int32) := fX12_partySum_L4 u FU p1 0 0
set_option maxHeartbeats 4000000 in
set_option maxRecDepth 100000 in
theorem mX12_partySum (l : Launch) (D : va_G) (T : Ty3) (h : Nat) (a : Nat → Nat) (u : St) (p1 : Int32) (res : Int32) (hf : fX12_partySum u p1 = some res) : Met l yX12_partySum wsX12_partySum ({ frames := 1, cells := 0, slots := 0, locals := 21 }) (PcR D T (kX12 T h a u) [.ref h, .int p1]) (QR res) 0 0 noA := by
  refine Met.ofW (cc := cX12_partySum) (maxL := 4) (ret := (some .int)) (by decide) rfl ?_
  intro p e s m args below meth c s₁ B hml hv
  obtain ⟨rfl, hP, hK⟩ := hv
  have hx := B.exec
  have hb := B.bytes
  have hr := B.returns
  have hts := atoms_spec (ws := wsX12_partySum) B.pre
  have hown : s.vm.findClass RX12 = some m.cls := findClass_of_methodNamed B.named
  have hlocks := B.notSynchronized
  have hS : va_S noA s.heap s.heap [] := va_S.rf
  have hinX12 : ∀ w ∈ u_ws RX12 TX12 52, w ∈ wsX12_partySum := fun w h => List.mem_cons_of_mem _ (List.mem_append_right _ h)
  have hl := lv_entry ([.ref h, .int p1]) (n := 4) (Nat.le_of_ble_eq_true rfl)
  rw [lg_entry_eq]
  generalize (lg_sl ([.ref h, .int p1]) ++ List.replicate (4 - (lg_sl ([.ref h, .int p1])).length) Slot.unset).toArray = ls at hl ⊢
  have hl : lv_has ls 4 [(0, .ref h), (1, .int p1)] := hl
  have L4 : ∀ (n4 : Nat), ∀ (x1 : Int32) (x2 : Int32) (x3 : Int32) (H : Heap) (locs : List Loc) (ls : Array Slot), fX12_partySum_L4 u n4 x1 x2 x3 = some res → va_P D vwCl (kX12 T h a u) H → va_S noA s.heap H locs → lv_has ls 4 [(0, .ref h), (1, .int x1), (2, .int x2), (3, .int x3)] → W p l e (headSpec wsX12_partySum ({ frames := 1, cells := 0, slots := 0, locals := 21 })).room s m ([.ref h, .int p1] : List Value).toArray below meth c H locs 0 0 (MQ below (QR res) ([.ref h, .int p1] : List Value).toArray s 0 0 noA) (F0 m 4 ls []) := by
    intro n4
    induction n4 with
    | zero => intro x1 x2 x3 H locs ls hf; exact nns hf
    | succ n4 ih4 =>
      intro x1 x2 x3 H locs ls hf hP hS hl
      replace hf : bX12_partySum_L4 u (fX12_partySum_L4 u n4) x1 x2 x3 = some res := hf
      unfold bX12_partySum_L4 at hf
      refine lv_iload_n hx hb dX12_partySum_4 rfl (lv_at hl 3 rfl) ?_
      refine lv_aload_n hx hb dX12_partySum_5 rfl (lv_at hl 0 rfl) ?_
      refine va_get (D := D) (ci := 12) (v := .int (u 45 0)) (C := RX12) (T := TX12) (N := 52) hx hb hts hinX12 hown hK.1 hP 0 rfl rfl 45 (by decide) (hts (.fieldLink RX12 317 "RopeScaleModel" "partyMany" "I") (List.mem_of_getElem? (i := 1) rfl)) (fun _ h9 => h9) rfl dX12_partySum_6 ?_
      refine lv_icmp_ge (tgt := 43) hx hb dX12_partySum_9 (by decide) (fun c1 => ?_) (fun c1 => ?_)
      · replace hf := ifp c1 hf
        refine lv_iload_n hx hb dX12_partySum_43 rfl (lv_at hl 2 rfl) ?_
        exact retR hx hb hr hlocks hS (Option.some.inj hf) dX12_partySum_44
      replace hf := ifn c1 hf
      refine lv_iload_n hx hb dX12_partySum_12 rfl (lv_at hl 1 rfl) ?_
      refine lv_iload_n hx hb dX12_partySum_13 rfl (lv_at hl 3 rfl) ?_
      obtain ⟨z2, hz2, hf⟩ := lett_e hf
      refine cSR (As := [.int x1, .int x3]) (rest := []) ⟨hx, hb, hml, hown, hts⟩ (mX12_has l D T x1 x3 z2 hz2.symm) (va_cwS 2 hts gX12_partySum_X12_has rfl rfl rfl (by decide +kernel) ⟨Nat.le_of_ble_eq_true rfl, Nat.le_of_ble_eq_true rfl⟩) P0 hK rfl hl.1 rfl (Nat.le_of_ble_eq_true rfl) dX12_partySum_14 ⟨Nat.le_of_ble_eq_true rfl, Nat.le_of_ble_eq_true rfl⟩ hP hS (fun H locs hP hS => ?_)
      refine lv_if_eq (tgt := 37) hx hb dX12_partySum_17 (by decide) (fun c3 => ?_) (fun c3 => ?_)
      · replace hf := ifp c3 hf
        obtain ⟨t4, et4, hf⟩ := lett_e hf
        refine lv_iinc (v := t4) (lv' := [(3, .int t4), (0, .ref h), (1, .int x1), (2, .int x2)]) hx hb dX12_partySum_37 hl (k := 3) rfl (by rw [et4]; rfl) (by decide) rfl (fun ls hl => ?_)
        refine lv_goto (tgt := 4) hx hb dX12_partySum_40 (by decide) ?_
        exact ih4 x1 x2 t4 _ _ _ hf hP hS (lv_sub hl [1, 2, 3, 0] rfl)
      replace hf := ifn c3 hf
      refine lv_iload_n hx hb dX12_partySum_20 rfl (lv_at hl 2 rfl) ?_
      refine lv_aload_n hx hb dX12_partySum_21 rfl (lv_at hl 0 rfl) ?_
      refine va_get (D := D) (ci := 12) (v := .ref (a 0)) (C := RX12) (T := TX12) (N := 52) hx hb hts hinX12 hown hK.1 hP 0 rfl rfl 0 (by decide) (hts (.fieldLink RX12 7 "RopeScaleModel" "now" "[I") (List.mem_of_getElem? (i := 2) rfl)) (fun _ h9 => h9) rfl dX12_partySum_22 ?_
      refine lv_bipush (v := 16) hx hb dX12_partySum_25 (by decide) ?_
      refine lv_aload_n hx hb dX12_partySum_27 rfl (lv_at hl 0 rfl) ?_
      refine va_get (D := D) (ci := 12) (v := .ref (a 43)) (C := RX12) (T := TX12) (N := 52) hx hb hts hinX12 hown hK.1 hP 0 rfl rfl 43 (by decide) (hts (.fieldLink RX12 80 "RopeScaleModel" "partyOf" "[I") (List.mem_of_getElem? (i := 3) rfl)) (fun _ h9 => h9) rfl dX12_partySum_28 ?_
      refine lv_iload_n hx hb dX12_partySum_31 rfl (lv_at hl 3 rfl) ?_
      obtain ⟨h8, hf⟩ := gd_e hf
      refine va_iald hx hb hK.1 hP 24 0 rfl rfl h8 dX12_partySum_32 ?_
      refine lv_iadd hx hb dX12_partySum_33 ?_
      obtain ⟨h7, hf⟩ := gd_e hf
      refine va_iald hx hb hK.1 hP 1 0 rfl rfl h7 dX12_partySum_34 ?_
      refine lv_iadd hx hb dX12_partySum_35 ?_
      obtain ⟨t5, et5, hf⟩ := lett_e hf
      refine lv_eqi et5 ?_
      refine lv_istore_n (lv' := [(2, .int t5), (0, .ref h), (1, .int x1), (3, .int x3)]) hx hb dX12_partySum_36 rfl hl (by decide) rfl (fun ls hl => ?_)
      obtain ⟨t6, et6, hf⟩ := lett_e hf
      refine lv_iinc (v := t6) (lv' := [(3, .int t6), (2, .int t5), (0, .ref h), (1, .int x1)]) hx hb dX12_partySum_37 hl (k := 3) rfl (by rw [et6]; rfl) (by decide) rfl (fun ls hl => ?_)
      refine lv_goto (tgt := 4) hx hb dX12_partySum_40 (by decide) ?_
      exact ih4 x1 t5 t6 _ _ _ hf hP hS (lv_sub hl [2, 3, 1, 0] rfl)
  unfold fX12_partySum at hf
  refine lv_iconst (v := 0) hx hb dX12_partySum_0 (by decide) ?_
  refine lv_istore_n (lv' := [(2, .int 0), (0, .ref h), (1, .int p1)]) hx hb dX12_partySum_1 rfl hl (by decide) rfl (fun ls hl => ?_)
  refine lv_iconst (v := 0) hx hb dX12_partySum_2 (by decide) ?_
  refine lv_istore_n (lv' := [(3, .int 0), (2, .int 0), (0, .ref h), (1, .int p1)]) hx hb dX12_partySum_3 rfl hl (by decide) rfl (fun ls hl => ?_)
  exact L4 FU p1 0 0 _ _ _ hf hP hS (lv_sub hl [2, 3, 1, 0] rfl)
def bX12_canGo_L28 (u : St)  (lp28 : Int32 → Int32 → Int32 → Int32 → Option (Int32)) (x3 : Int32) (x4 : Int32) (x5 : Int32) (x6 : Int32) : Option (Int32) := if x4 < x6 then some 0 else if (x6 &&& (x4 ^^^ (-1))) = 0 then (fX12_partySum u x6).bind fun z3 => lett (z3 - x5) fun t4 => lett (fX12_size t4) fun z5 => if z5 ≤ (u 3 0) then some 1 else lett (fX12_size (t4 + x3)) fun z7 => if (u 3 0) < z7 then lett (x6 + 1) fun t9 => lp28 x3 x4 x5 t9 else some 1 else lett (x6 + 1) fun t10 => lp28 x3 x4 x5 t10
def fX12_canGo_L28 (u : St)  : Nat → Int32 → Int32 → Int32 → Int32 → Option (Int32)
  | 0, _, _, _, _ => none
  | n + 1, x3, x4, x5, x6 => bX12_canGo_L28 u (fX12_canGo_L28 u n) x3 x4 x5 x6
def fX12_canGo  (u : St) (p1 : Int32) (p2 : Int32) (p3 : Int32) : Option (Int32) := lett (p2 &&& ((jshl 1 p1) ^^^ (-1))) fun t11 => gd p1 8 <| gd (16 + (u 43 (ix p1))) 98 <| lett (u 0 (ix (16 + (u 43 (ix p1))))) fun t12 => fX12_canGo_L28 u FU p3 t11 t12 0
set_option maxHeartbeats 4000000 in
set_option maxRecDepth 100000 in
theorem mX12_canGo (l : Launch) (D : va_G) (T : Ty3) (h : Nat) (a : Nat → Nat) (u : St) (p1 : Int32) (p2 : Int32) (p3 : Int32) (res : Int32) (hf : fX12_canGo u p1 p2 p3 = some res) : Met l yX12_canGo wsX12_canGo ({ frames := 2, cells := 0, slots := 0, locals := 44 }) (PcR D T (kX12 T h a u) [.ref h, .int p1, .int p2, .int p3]) (QR res) 0 0 noA := by
  refine Met.ofW (cc := cX12_canGo) (maxL := 8) (ret := (some .boolean)) (by decide) rfl ?_
  intro p e s m args below meth c s₁ B hml hv
  obtain ⟨rfl, hP, hK⟩ := hv
  have hx := B.exec
  have hb := B.bytes
  have hr := B.returns
  have hts := atoms_spec (ws := wsX12_canGo) B.pre
  have hown : s.vm.findClass RX12 = some m.cls := findClass_of_methodNamed B.named
  have hlocks := B.notSynchronized
  have hS : va_S noA s.heap s.heap [] := va_S.rf
  have hinX12 : ∀ w ∈ u_ws RX12 TX12 52, w ∈ wsX12_canGo := fun w h => List.mem_cons_of_mem _ (List.mem_append_right _ h)
  have hl := lv_entry ([.ref h, .int p1, .int p2, .int p3]) (n := 8) (Nat.le_of_ble_eq_true rfl)
  rw [lg_entry_eq]
  generalize (lg_sl ([.ref h, .int p1, .int p2, .int p3]) ++ List.replicate (8 - (lg_sl ([.ref h, .int p1, .int p2, .int p3])).length) Slot.unset).toArray = ls at hl ⊢
  have hl : lv_has ls 8 [(0, .ref h), (1, .int p1), (2, .int p2), (3, .int p3)] := hl
  have L28 : ∀ (n28 : Nat), ∀ (x3 : Int32) (x4 : Int32) (x5 : Int32) (x6 : Int32) (H : Heap) (locs : List Loc) (ls : Array Slot), fX12_canGo_L28 u n28 x3 x4 x5 x6 = some res → va_P D vwCl (kX12 T h a u) H → va_S noA s.heap H locs → lv_has ls 8 [(0, .ref h), (3, .int x3), (4, .int x4), (5, .int x5), (6, .int x6)] → W p l e (headSpec wsX12_canGo ({ frames := 2, cells := 0, slots := 0, locals := 44 })).room s m ([.ref h, .int p1, .int p2, .int p3] : List Value).toArray below meth c H locs 0 0 (MQ below (QR res) ([.ref h, .int p1, .int p2, .int p3] : List Value).toArray s 0 0 noA) (F0 m 28 ls []) := by
    intro n28
    induction n28 with
    | zero => intro x3 x4 x5 x6 H locs ls hf; exact nns hf
    | succ n28 ih28 =>
      intro x3 x4 x5 x6 H locs ls hf hP hS hl
      replace hf : bX12_canGo_L28 u (fX12_canGo_L28 u n28) x3 x4 x5 x6 = some res := hf
      unfold bX12_canGo_L28 at hf
      refine lv_iload hx hb dX12_canGo_28 (lv_at hl 4 rfl) ?_
      refine lv_iload hx hb dX12_canGo_30 (lv_at hl 2 rfl) ?_
      refine lv_icmp_gt (tgt := 93) hx hb dX12_canGo_32 (by decide) (fun c1 => ?_) (fun c1 => ?_)
      · replace hf := ifp c1 hf
        refine lv_iconst (v := 0) hx hb dX12_canGo_93 (by decide) ?_
        exact retRz hx hb hr hlocks hS rfl (Option.some.inj hf) dX12_canGo_94
      replace hf := ifn c1 hf
      refine lv_iload hx hb dX12_canGo_35 (lv_at hl 4 rfl) ?_
      refine lv_iload hx hb dX12_canGo_37 (lv_at hl 2 rfl) ?_
      refine lv_iconst (v := (-1)) hx hb dX12_canGo_39 (by decide) ?_
      refine lv_ixor hx hb dX12_canGo_40 ?_
      refine lv_iand hx hb dX12_canGo_41 ?_
      refine lv_if_eq (tgt := 48) hx hb dX12_canGo_42 (by decide) (fun c2 => ?_) (fun c2 => ?_)
      · replace hf := ifp c2 hf
        refine lv_aload_n hx hb dX12_canGo_48 rfl (lv_at hl 0 rfl) ?_
        refine lv_iload hx hb dX12_canGo_49 (lv_at hl 4 rfl) ?_
        obtain ⟨z3, hz3, hf⟩ := bnd hf
        refine cVR (As := [.int x6]) (rest := []) ⟨hx, hb, hml, hown, hts⟩ (mX12_partySum l D T h a u x6 z3 hz3) (cwV 1 hts gX12_canGo_X12_partySum rfl rfl rfl (by decide +kernel) ⟨Nat.le_of_ble_eq_true rfl, Nat.le_of_ble_eq_true rfl⟩) (va_recv hK.1 hP (ci := 12) (q0 := 0) rfl rfl) hP hK rfl hl.1 rfl (Nat.le_of_ble_eq_true rfl) dX12_canGo_51 ⟨Nat.le_of_ble_eq_true rfl, Nat.le_of_ble_eq_true rfl⟩ hP hS (fun H locs hP hS => ?_)
        refine lv_iload hx hb dX12_canGo_54 (lv_at hl 3 rfl) ?_
        refine lv_isub hx hb dX12_canGo_56 ?_
        obtain ⟨t4, et4, hf⟩ := lett_e hf
        refine lv_eqi et4 ?_
        refine lv_istore (lv' := [(7, .int t4), (0, .ref h), (3, .int x3), (4, .int x4), (5, .int x5), (6, .int x6)]) hx hb dX12_canGo_57 hl (by decide) rfl (fun ls hl => ?_)
        refine lv_iload hx hb dX12_canGo_59 (lv_at hl 0 rfl) ?_
        obtain ⟨z5, hz5, hf⟩ := lett_e hf
        refine cSR (As := [.int t4]) (rest := []) ⟨hx, hb, hml, hown, hts⟩ (mX12_size l D T t4 z5 hz5.symm) (va_cwS 1 hts gX12_canGo_X12_size rfl rfl rfl (by decide +kernel) ⟨Nat.le_of_ble_eq_true rfl, Nat.le_of_ble_eq_true rfl⟩) P0 hK rfl hl.1 rfl (Nat.le_of_ble_eq_true rfl) dX12_canGo_61 ⟨Nat.le_of_ble_eq_true rfl, Nat.le_of_ble_eq_true rfl⟩ hP hS (fun H locs hP hS => ?_)
        refine lv_aload_n hx hb dX12_canGo_64 rfl (lv_at hl 1 rfl) ?_
        refine va_get (D := D) (ci := 12) (v := .int (u 3 0)) (C := RX12) (T := TX12) (N := 52) hx hb hts hinX12 hown hK.1 hP 0 rfl rfl 3 (by decide) (hts (.fieldLink RX12 116 "RopeScaleModel" "toleranceNow" "I") (List.mem_of_getElem? (i := 3) rfl)) (fun _ h9 => h9) rfl dX12_canGo_65 ?_
        refine lv_icmp_le (tgt := 85) hx hb dX12_canGo_68 (by decide) (fun c6 => ?_) (fun c6 => ?_)
        · replace hf := ifp c6 hf
          refine lv_iconst (v := 1) hx hb dX12_canGo_85 (by decide) ?_
          exact retRz hx hb hr hlocks hS rfl (Option.some.inj hf) dX12_canGo_86
        replace hf := ifn c6 hf
        refine lv_iload hx hb dX12_canGo_71 (lv_at hl 0 rfl) ?_
        refine lv_iload_n hx hb dX12_canGo_73 rfl (lv_at hl 2 rfl) ?_
        refine lv_iadd hx hb dX12_canGo_74 ?_
        obtain ⟨z7, hz7, hf⟩ := lett_e hf
        refine cSR (As := [.int (t4 + x3)]) (rest := []) ⟨hx, hb, hml, hown, hts⟩ (mX12_size l D T (t4 + x3) z7 hz7.symm) (va_cwS 1 hts gX12_canGo_X12_size rfl rfl rfl (by decide +kernel) ⟨Nat.le_of_ble_eq_true rfl, Nat.le_of_ble_eq_true rfl⟩) P0 hK rfl hl.1 rfl (Nat.le_of_ble_eq_true rfl) dX12_canGo_75 ⟨Nat.le_of_ble_eq_true rfl, Nat.le_of_ble_eq_true rfl⟩ hP hS (fun H locs hP hS => ?_)
        refine lv_aload_n hx hb dX12_canGo_78 rfl (lv_at hl 1 rfl) ?_
        refine va_get (D := D) (ci := 12) (v := .int (u 3 0)) (C := RX12) (T := TX12) (N := 52) hx hb hts hinX12 hown hK.1 hP 0 rfl rfl 3 (by decide) (hts (.fieldLink RX12 116 "RopeScaleModel" "toleranceNow" "I") (List.mem_of_getElem? (i := 3) rfl)) (fun _ h9 => h9) rfl dX12_canGo_79 ?_
        refine lv_icmp_gt (tgt := 87) hx hb dX12_canGo_82 (by decide) (fun c8 => ?_) (fun c8 => ?_)
        · replace hf := ifp c8 hf
          obtain ⟨t9, et9, hf⟩ := lett_e hf
          refine lv_iinc (v := t9) (lv' := [(6, .int t9), (7, .int t4), (0, .ref h), (3, .int x3), (4, .int x4), (5, .int x5)]) hx hb dX12_canGo_87 hl (k := 5) rfl (by rw [et9]; rfl) (by decide) rfl (fun ls hl => ?_)
          refine lv_goto (tgt := 28) hx hb dX12_canGo_90 (by decide) ?_
          exact ih28 x3 x4 x5 t9 _ _ _ hf hP hS (lv_sub hl [2, 3, 4, 5, 0] rfl)
        replace hf := ifn c8 hf
        refine lv_iconst (v := 1) hx hb dX12_canGo_85 (by decide) ?_
        exact retRz hx hb hr hlocks hS rfl (Option.some.inj hf) dX12_canGo_86
      replace hf := ifn c2 hf
      refine lv_goto (tgt := 87) hx hb dX12_canGo_45 (by decide) ?_
      obtain ⟨t10, et10, hf⟩ := lett_e hf
      refine lv_iinc (v := t10) (lv' := [(6, .int t10), (0, .ref h), (3, .int x3), (4, .int x4), (5, .int x5)]) hx hb dX12_canGo_87 hl (k := 4) rfl (by rw [et10]; rfl) (by decide) rfl (fun ls hl => ?_)
      refine lv_goto (tgt := 28) hx hb dX12_canGo_90 (by decide) ?_
      exact ih28 x3 x4 x5 t10 _ _ _ hf hP hS (lv_sub hl [1, 2, 3, 4, 0] rfl)
  unfold fX12_canGo at hf
  refine lv_iload_n hx hb dX12_canGo_0 rfl (lv_at hl 2 rfl) ?_
  refine lv_iconst (v := 1) hx hb dX12_canGo_1 (by decide) ?_
  refine lv_iload_n hx hb dX12_canGo_2 rfl (lv_at hl 1 rfl) ?_
  refine lv_ishl hx hb dX12_canGo_3 ?_
  refine lv_iconst (v := (-1)) hx hb dX12_canGo_4 (by decide) ?_
  refine lv_ixor hx hb dX12_canGo_5 ?_
  refine lv_iand hx hb dX12_canGo_6 ?_
  obtain ⟨t11, et11, hf⟩ := lett_e hf
  refine lv_eqi et11 ?_
  refine lv_istore (lv' := [(4, .int t11), (0, .ref h), (1, .int p1), (2, .int p2), (3, .int p3)]) hx hb dX12_canGo_7 hl (by decide) rfl (fun ls hl => ?_)
  refine lv_aload_n hx hb dX12_canGo_9 rfl (lv_at hl 1 rfl) ?_
  refine va_get (D := D) (ci := 12) (v := .ref (a 0)) (C := RX12) (T := TX12) (N := 52) hx hb hts hinX12 hown hK.1 hP 0 rfl rfl 0 (by decide) (hts (.fieldLink RX12 7 "RopeScaleModel" "now" "[I") (List.mem_of_getElem? (i := 1) rfl)) (fun _ h9 => h9) rfl dX12_canGo_10 ?_
  refine lv_bipush (v := 16) hx hb dX12_canGo_13 (by decide) ?_
  refine lv_aload_n hx hb dX12_canGo_15 rfl (lv_at hl 1 rfl) ?_
  refine va_get (D := D) (ci := 12) (v := .ref (a 43)) (C := RX12) (T := TX12) (N := 52) hx hb hts hinX12 hown hK.1 hP 0 rfl rfl 43 (by decide) (hts (.fieldLink RX12 80 "RopeScaleModel" "partyOf" "[I") (List.mem_of_getElem? (i := 2) rfl)) (fun _ h9 => h9) rfl dX12_canGo_16 ?_
  refine lv_iload_n hx hb dX12_canGo_19 rfl (lv_at hl 2 rfl) ?_
  obtain ⟨h14, hf⟩ := gd_e hf
  refine va_iald hx hb hK.1 hP 24 0 rfl rfl h14 dX12_canGo_20 ?_
  refine lv_iadd hx hb dX12_canGo_21 ?_
  obtain ⟨h13, hf⟩ := gd_e hf
  refine va_iald hx hb hK.1 hP 1 0 rfl rfl h13 dX12_canGo_22 ?_
  obtain ⟨t12, et12, hf⟩ := lett_e hf
  refine lv_eqi et12 ?_
  refine lv_istore (lv' := [(5, .int t12), (4, .int t11), (0, .ref h), (1, .int p1), (2, .int p2), (3, .int p3)]) hx hb dX12_canGo_23 hl (by decide) rfl (fun ls hl => ?_)
  refine lv_iconst (v := 0) hx hb dX12_canGo_25 (by decide) ?_
  refine lv_istore (lv' := [(6, .int 0), (5, .int t12), (4, .int t11), (0, .ref h), (1, .int p1), (2, .int p2), (3, .int p3)]) hx hb dX12_canGo_26 hl (by decide) rfl (fun ls hl => ?_)
  exact L28 FU p3 t11 t12 0 _ _ _ hf hP hS (lv_sub hl [3, 6, 2, 1, 0] rfl)
def bX12_laysParty_L21  (lp2 : St → Int32 → Int32 → Option (St)) (lp21 : St → Int32 → Int32 → Int32 → Option (St)) (v : St) (x1 : Int32) (x2 : Int32) (x3 : Int32) : Option (St) := if (v 45 0) ≤ x3 then lett (x2 + 1) fun t2 => lp2 v x1 t2 else lett (fX12_has x2 x3) fun z3 => if z3 = 0 then lett (x3 + 1) fun t5 => lp21 v x1 x2 t5 else (fX12_canGo v x3 x2 x1).bind fun z6 => if z6 = 0 then lett (x3 + 1) fun t8 => lp21 v x1 x2 t8 else gd x2 256 <| gd (x2 &&& ((jshl 1 x3) ^^^ (-1))) 256 <| lett (fX12_max (v 44 (ix x2)) ((v 44 (ix (x2 &&& ((jshl 1 x3) ^^^ (-1))))) + 1)) fun z9 => gd x2 256 <| lett (st v 44 (ix x2) z9) fun u10 => lett (x3 + 1) fun t11 => lp21 u10 x1 x2 t11
def fX12_laysParty_L21  (lp2 : St → Int32 → Int32 → Option (St)) : Nat → St → Int32 → Int32 → Int32 → Option (St)
  | 0, _, _, _, _ => none
  | n + 1, v, x1, x2, x3 => bX12_laysParty_L21 lp2 (fX12_laysParty_L21 lp2 n) v x1 x2 x3
def bX12_laysParty_L2   (lp2 : St → Int32 → Int32 → Option (St)) (v : St) (x1 : Int32) (x2 : Int32) : Option (St) := if (jshl 1 (v 45 0)) ≤ x2 then some v else gd x2 256 <| lett (st v 44 (ix x2) 0) fun u16 => fX12_laysParty_L21 lp2 FU u16 x1 x2 0
def fX12_laysParty_L2   : Nat → St → Int32 → Int32 → Option (St)
  | 0, _, _, _ => none
  | n + 1, v, x1, x2 => bX12_laysParty_L2  (fX12_laysParty_L2  n) v x1 x2
def fX12_laysParty  (u : St) (p1 : Int32) : Option (St) := fX12_laysParty_L2 FU u p1 0
set_option maxHeartbeats 4000000 in
set_option maxRecDepth 100000 in
theorem mX12_laysParty (l : Launch) (D : va_G) (T : Ty3) (h : Nat) (a : Nat → Nat) (u : St) (sz : Nat) (p1 : Int32) (res : St) (hf : fX12_laysParty u p1 = some res) : Met l yX12_laysParty wsX12_laysParty ({ frames := 3, cells := 0, slots := 0, locals := 71 }) (PcM D T (kX12 T h a u) sz [.ref h, .int p1]) (QMv D (kX12 T h a u) sz (kX12 T h a res)) 0 0 (va_A (kX12 T h a u) sz) := by
  refine Met.ofW (cc := cX12_laysParty) (maxL := 4) (ret := none) (by decide) rfl ?_
  intro p e s m args below meth c s₁ B hml hv
  obtain ⟨rfl, hsz, hP, hK, hD0⟩ := hv
  have hx := B.exec
  have hb := B.bytes
  have hr := B.returns
  have hts := atoms_spec (ws := wsX12_laysParty) B.pre
  have hown : s.vm.findClass RX12 = some m.cls := findClass_of_methodNamed B.named
  have hlocks := B.notSynchronized
  subst hsz
  have hD := hD0.self (sz := s.heap.size)
  have hA : ∀ q : Nat, s.heap.size ≤ q → va_A (kX12 T h a u) s.heap.size q := fun q h => Or.inr h
  have hS : va_S (va_A (kX12 T h a u) s.heap.size) s.heap s.heap [] := va_S.rf
  have hinX12 : ∀ w ∈ u_ws RX12 TX12 52, w ∈ wsX12_laysParty := fun w h => List.mem_cons_of_mem _ (List.mem_append_right _ h)
  have hl := lv_entry ([.ref h, .int p1]) (n := 4) (Nat.le_of_ble_eq_true rfl)
  rw [lg_entry_eq]
  generalize (lg_sl ([.ref h, .int p1]) ++ List.replicate (4 - (lg_sl ([.ref h, .int p1])).length) Slot.unset).toArray = ls at hl ⊢
  have hl : lv_has ls 4 [(0, .ref h), (1, .int p1)] := hl
  have L2 : ∀ (n2 : Nat), ∀ (v : St) (x1 : Int32) (x2 : Int32) (H : Heap) (locs : List Loc) (ls : Array Slot), fX12_laysParty_L2  n2 v x1 x2 = some res → va_P D vwCl (kX12 T h a v) H → va_D (va_A (kX12 T h a u) s.heap.size) (kX12 T h a v) → va_S (va_A (kX12 T h a u) s.heap.size) s.heap H locs → lv_has ls 4 [(0, .ref h), (1, .int x1), (2, .int x2)] → W p l e (headSpec wsX12_laysParty ({ frames := 3, cells := 0, slots := 0, locals := 71 })).room s m ([.ref h, .int p1] : List Value).toArray below meth c H locs 0 0 (MQ below (QMv D (kX12 T h a u) s.heap.size (kX12 T h a res)) ([.ref h, .int p1] : List Value).toArray s 0 0 (va_A (kX12 T h a u) s.heap.size)) (F0 m 2 ls []) := by
    intro n2
    induction n2 with
    | zero => intro v x1 x2 H locs ls hf; exact nns hf
    | succ n2 ih2 =>
      have L21 : ∀ (n21 : Nat), ∀ (v : St) (x1 : Int32) (x2 : Int32) (x3 : Int32) (H : Heap) (locs : List Loc) (ls : Array Slot), fX12_laysParty_L21 (fX12_laysParty_L2  n2) n21 v x1 x2 x3 = some res → va_P D vwCl (kX12 T h a v) H → va_D (va_A (kX12 T h a u) s.heap.size) (kX12 T h a v) → va_S (va_A (kX12 T h a u) s.heap.size) s.heap H locs → lv_has ls 4 [(0, .ref h), (1, .int x1), (2, .int x2), (3, .int x3)] → W p l e (headSpec wsX12_laysParty ({ frames := 3, cells := 0, slots := 0, locals := 71 })).room s m ([.ref h, .int p1] : List Value).toArray below meth c H locs 0 0 (MQ below (QMv D (kX12 T h a u) s.heap.size (kX12 T h a res)) ([.ref h, .int p1] : List Value).toArray s 0 0 (va_A (kX12 T h a u) s.heap.size)) (F0 m 21 ls []) := by
        intro n21
        induction n21 with
        | zero => intro v x1 x2 x3 H locs ls hf; exact nns hf
        | succ n21 ih21 =>
          intro v x1 x2 x3 H locs ls hf hP hD hS hl
          replace hf : bX12_laysParty_L21 (fX12_laysParty_L2  n2) (fX12_laysParty_L21 (fX12_laysParty_L2  n2) n21) v x1 x2 x3 = some res := hf
          unfold bX12_laysParty_L21 at hf
          refine lv_iload_n hx hb dX12_laysParty_21 rfl (lv_at hl 3 rfl) ?_
          refine lv_aload_n hx hb dX12_laysParty_22 rfl (lv_at hl 0 rfl) ?_
          refine va_get (D := D) (ci := 12) (v := .int (v 45 0)) (C := RX12) (T := TX12) (N := 52) hx hb hts hinX12 hown hK.1 hP 0 rfl rfl 45 (by decide) (hts (.fieldLink RX12 317 "RopeScaleModel" "partyMany" "I") (List.mem_of_getElem? (i := 1) rfl)) (fun _ h9 => h9) rfl dX12_laysParty_23 ?_
          refine lv_icmp_ge (tgt := 82) hx hb dX12_laysParty_26 (by decide) (fun c1 => ?_) (fun c1 => ?_)
          · replace hf := ifp c1 hf
            obtain ⟨t2, et2, hf⟩ := lett_e hf
            refine lv_iinc (v := t2) (lv' := [(2, .int t2), (0, .ref h), (1, .int x1), (3, .int x3)]) hx hb dX12_laysParty_82 hl (k := 2) rfl (by rw [et2]; rfl) (by decide) rfl (fun ls hl => ?_)
            refine lv_goto (tgt := 2) hx hb dX12_laysParty_85 (by decide) ?_
            exact ih2 v x1 t2 _ _ _ hf hP hD hS (lv_sub hl [1, 2, 0] rfl)
          replace hf := ifn c1 hf
          refine lv_iload_n hx hb dX12_laysParty_29 rfl (lv_at hl 2 rfl) ?_
          refine lv_iload_n hx hb dX12_laysParty_30 rfl (lv_at hl 3 rfl) ?_
          obtain ⟨z3, hz3, hf⟩ := lett_e hf
          refine cSR (As := [.int x2, .int x3]) (rest := []) ⟨hx, hb, hml, hown, hts⟩ (mX12_has l D T x2 x3 z3 hz3.symm) (va_cwS 2 hts gX12_laysParty_X12_has rfl rfl rfl (by decide +kernel) ⟨Nat.le_of_ble_eq_true rfl, Nat.le_of_ble_eq_true rfl⟩) P0 hK rfl hl.1 rfl (Nat.le_of_ble_eq_true rfl) dX12_laysParty_31 ⟨Nat.le_of_ble_eq_true rfl, Nat.le_of_ble_eq_true rfl⟩ hP hS (fun H locs hP hS => ?_)
          refine lv_if_eq (tgt := 76) hx hb dX12_laysParty_34 (by decide) (fun c4 => ?_) (fun c4 => ?_)
          · replace hf := ifp c4 hf
            obtain ⟨t5, et5, hf⟩ := lett_e hf
            refine lv_iinc (v := t5) (lv' := [(3, .int t5), (0, .ref h), (1, .int x1), (2, .int x2)]) hx hb dX12_laysParty_76 hl (k := 3) rfl (by rw [et5]; rfl) (by decide) rfl (fun ls hl => ?_)
            refine lv_goto (tgt := 21) hx hb dX12_laysParty_79 (by decide) ?_
            exact ih21 v x1 x2 t5 _ _ _ hf hP hD hS (lv_sub hl [1, 2, 3, 0] rfl)
          replace hf := ifn c4 hf
          refine lv_aload_n hx hb dX12_laysParty_37 rfl (lv_at hl 0 rfl) ?_
          refine lv_iload_n hx hb dX12_laysParty_38 rfl (lv_at hl 3 rfl) ?_
          refine lv_iload_n hx hb dX12_laysParty_39 rfl (lv_at hl 2 rfl) ?_
          refine lv_iload_n hx hb dX12_laysParty_40 rfl (lv_at hl 1 rfl) ?_
          obtain ⟨z6, hz6, hf⟩ := bnd hf
          refine cVR (As := [.int x3, .int x2, .int x1]) (rest := []) ⟨hx, hb, hml, hown, hts⟩ (mX12_canGo l D T h a v x3 x2 x1 z6 hz6) (cwV 3 hts gX12_laysParty_X12_canGo rfl rfl rfl (by decide +kernel) ⟨Nat.le_of_ble_eq_true rfl, Nat.le_of_ble_eq_true rfl⟩) (va_recv hK.1 hP (ci := 12) (q0 := 0) rfl rfl) hP hK rfl hl.1 rfl (Nat.le_of_ble_eq_true rfl) dX12_laysParty_41 ⟨Nat.le_of_ble_eq_true rfl, Nat.le_of_ble_eq_true rfl⟩ hP hS (fun H locs hP hS => ?_)
          refine lv_if_eq (tgt := 76) hx hb dX12_laysParty_44 (by decide) (fun c7 => ?_) (fun c7 => ?_)
          · replace hf := ifp c7 hf
            obtain ⟨t8, et8, hf⟩ := lett_e hf
            refine lv_iinc (v := t8) (lv' := [(3, .int t8), (0, .ref h), (1, .int x1), (2, .int x2)]) hx hb dX12_laysParty_76 hl (k := 3) rfl (by rw [et8]; rfl) (by decide) rfl (fun ls hl => ?_)
            refine lv_goto (tgt := 21) hx hb dX12_laysParty_79 (by decide) ?_
            exact ih21 v x1 x2 t8 _ _ _ hf hP hD hS (lv_sub hl [1, 2, 3, 0] rfl)
          replace hf := ifn c7 hf
          refine lv_aload_n hx hb dX12_laysParty_47 rfl (lv_at hl 0 rfl) ?_
          refine va_get (D := D) (ci := 12) (v := .ref (a 44)) (C := RX12) (T := TX12) (N := 52) hx hb hts hinX12 hown hK.1 hP 0 rfl rfl 44 (by decide) (hts (.fieldLink RX12 83 "RopeScaleModel" "mostFrom" "[I") (List.mem_of_getElem? (i := 2) rfl)) (fun _ h9 => h9) rfl dX12_laysParty_48 ?_
          refine lv_iload_n hx hb dX12_laysParty_51 rfl (lv_at hl 2 rfl) ?_
          refine lv_aload_n hx hb dX12_laysParty_52 rfl (lv_at hl 0 rfl) ?_
          refine va_get (D := D) (ci := 12) (v := .ref (a 44)) (C := RX12) (T := TX12) (N := 52) hx hb hts hinX12 hown hK.1 hP 0 rfl rfl 44 (by decide) (hts (.fieldLink RX12 83 "RopeScaleModel" "mostFrom" "[I") (List.mem_of_getElem? (i := 2) rfl)) (fun _ h9 => h9) rfl dX12_laysParty_53 ?_
          refine lv_iload_n hx hb dX12_laysParty_56 rfl (lv_at hl 2 rfl) ?_
          obtain ⟨h14, hf⟩ := gd_e hf
          refine va_iald hx hb hK.1 hP 25 0 rfl rfl h14 dX12_laysParty_57 ?_
          refine lv_aload_n hx hb dX12_laysParty_58 rfl (lv_at hl 0 rfl) ?_
          refine va_get (D := D) (ci := 12) (v := .ref (a 44)) (C := RX12) (T := TX12) (N := 52) hx hb hts hinX12 hown hK.1 hP 0 rfl rfl 44 (by decide) (hts (.fieldLink RX12 83 "RopeScaleModel" "mostFrom" "[I") (List.mem_of_getElem? (i := 2) rfl)) (fun _ h9 => h9) rfl dX12_laysParty_59 ?_
          refine lv_iload_n hx hb dX12_laysParty_62 rfl (lv_at hl 2 rfl) ?_
          refine lv_iconst (v := 1) hx hb dX12_laysParty_63 (by decide) ?_
          refine lv_iload_n hx hb dX12_laysParty_64 rfl (lv_at hl 3 rfl) ?_
          refine lv_ishl hx hb dX12_laysParty_65 ?_
          refine lv_iconst (v := (-1)) hx hb dX12_laysParty_66 (by decide) ?_
          refine lv_ixor hx hb dX12_laysParty_67 ?_
          refine lv_iand hx hb dX12_laysParty_68 ?_
          obtain ⟨h13, hf⟩ := gd_e hf
          refine va_iald hx hb hK.1 hP 25 0 rfl rfl h13 dX12_laysParty_69 ?_
          refine lv_iconst (v := 1) hx hb dX12_laysParty_70 (by decide) ?_
          refine lv_iadd hx hb dX12_laysParty_71 ?_
          obtain ⟨z9, hz9, hf⟩ := lett_e hf
          refine cSR (As := [.int (v 44 (ix x2)), .int ((v 44 (ix (x2 &&& ((jshl 1 x3) ^^^ (-1))))) + 1)]) (rest := [.int x2, .ref (a 44)]) ⟨hx, hb, hml, hown, hts⟩ (mX12_max l D T (v 44 (ix x2)) ((v 44 (ix (x2 &&& ((jshl 1 x3) ^^^ (-1))))) + 1) z9 hz9.symm) (va_cwS 2 hts gX12_laysParty_X12_max rfl rfl rfl (by decide +kernel) ⟨Nat.le_of_ble_eq_true rfl, Nat.le_of_ble_eq_true rfl⟩) P0 hK rfl hl.1 rfl (Nat.le_of_ble_eq_true rfl) dX12_laysParty_72 ⟨Nat.le_of_ble_eq_true rfl, Nat.le_of_ble_eq_true rfl⟩ hP hS (fun H locs hP hS => ?_)
          obtain ⟨h12, hf⟩ := gd_e hf
          obtain ⟨u10, eu10, hf⟩ := lett_e hf
          refine va_iast hx hb hK.1 hP hD hS 25 0 rfl rfl h12 dX12_laysParty_75 (fun H locs hP hD hS => ?_)
          have hP : va_P D vwCl (kX12 T h a u10) H := by rw [eu10]; exact hP
          have hD : va_D (va_A (kX12 T h a u) s.heap.size) (kX12 T h a u10) := by rw [eu10]; exact hD
          obtain ⟨t11, et11, hf⟩ := lett_e hf
          refine lv_iinc (v := t11) (lv' := [(3, .int t11), (0, .ref h), (1, .int x1), (2, .int x2)]) hx hb dX12_laysParty_76 hl (k := 3) rfl (by rw [et11]; rfl) (by decide) rfl (fun ls hl => ?_)
          refine lv_goto (tgt := 21) hx hb dX12_laysParty_79 (by decide) ?_
          exact ih21 u10 x1 x2 t11 _ _ _ hf hP hD hS (lv_sub hl [1, 2, 3, 0] rfl)
      intro v x1 x2 H locs ls hf hP hD hS hl
      replace hf : bX12_laysParty_L2  (fX12_laysParty_L2  n2) v x1 x2 = some res := hf
      unfold bX12_laysParty_L2 at hf
      refine lv_iload_n hx hb dX12_laysParty_2 rfl (lv_at hl 2 rfl) ?_
      refine lv_iconst (v := 1) hx hb dX12_laysParty_3 (by decide) ?_
      refine lv_aload_n hx hb dX12_laysParty_4 rfl (lv_at hl 0 rfl) ?_
      refine va_get (D := D) (ci := 12) (v := .int (v 45 0)) (C := RX12) (T := TX12) (N := 52) hx hb hts hinX12 hown hK.1 hP 0 rfl rfl 45 (by decide) (hts (.fieldLink RX12 317 "RopeScaleModel" "partyMany" "I") (List.mem_of_getElem? (i := 1) rfl)) (fun _ h9 => h9) rfl dX12_laysParty_5 ?_
      refine lv_ishl hx hb dX12_laysParty_8 ?_
      refine lv_icmp_ge (tgt := 88) hx hb dX12_laysParty_9 (by decide) (fun c15 => ?_) (fun c15 => ?_)
      · replace hf := ifp c15 hf
        have e9 := Option.some.inj hf
        exact retMv hx hb hr hlocks hP hD hS (congrArg (fun z => (kX12 T h a z : va_W)) e9) dX12_laysParty_88
      replace hf := ifn c15 hf
      refine lv_aload_n hx hb dX12_laysParty_12 rfl (lv_at hl 0 rfl) ?_
      refine va_get (D := D) (ci := 12) (v := .ref (a 44)) (C := RX12) (T := TX12) (N := 52) hx hb hts hinX12 hown hK.1 hP 0 rfl rfl 44 (by decide) (hts (.fieldLink RX12 83 "RopeScaleModel" "mostFrom" "[I") (List.mem_of_getElem? (i := 2) rfl)) (fun _ h9 => h9) rfl dX12_laysParty_13 ?_
      refine lv_iload_n hx hb dX12_laysParty_16 rfl (lv_at hl 2 rfl) ?_
      refine lv_iconst (v := 0) hx hb dX12_laysParty_17 (by decide) ?_
      obtain ⟨h17, hf⟩ := gd_e hf
      obtain ⟨u16, eu16, hf⟩ := lett_e hf
      refine va_iast hx hb hK.1 hP hD hS 25 0 rfl rfl h17 dX12_laysParty_18 (fun H locs hP hD hS => ?_)
      have hP : va_P D vwCl (kX12 T h a u16) H := by rw [eu16]; exact hP
      have hD : va_D (va_A (kX12 T h a u) s.heap.size) (kX12 T h a u16) := by rw [eu16]; exact hD
      refine lv_iconst (v := 0) hx hb dX12_laysParty_19 (by decide) ?_
      refine lv_istore_n (lv' := [(3, .int 0), (0, .ref h), (1, .int x1), (2, .int x2)]) hx hb dX12_laysParty_20 rfl hl (by decide) rfl (fun ls hl => ?_)
      exact L21 FU u16 x1 x2 0 _ _ _ hf hP hD hS (lv_sub hl [1, 2, 3, 0] rfl)
  unfold fX12_laysParty at hf
  refine lv_iconst (v := 0) hx hb dX12_laysParty_0 (by decide) ?_
  refine lv_istore_n (lv' := [(2, .int 0), (0, .ref h), (1, .int p1)]) hx hb dX12_laysParty_1 rfl hl (by decide) rfl (fun ls hl => ?_)
  exact L2 FU u p1 0 _ _ _ hf hP hD hS (lv_sub hl [1, 2, 0] rfl)
def bX12_goesAt_L24 (u : St) (lp15 : Int32 → Int32 → Int32 → Int32 → Int32 → Option (Int32)) (lp24 : Int32 → Int32 → Int32 → Int32 → Int32 → Option (Int32)) (x1 : Int32) (x2 : Int32) (x3 : Int32) (x5 : Int32) (x6 : Int32) : Option (Int32) := lett (fX12_has x3 x6) fun z1 => if z1 = 0 then lett (x6 + 1) fun t3 => lp24 x1 x2 x3 x5 t3 else gd (x3 &&& ((jshl 1 x6) ^^^ (-1))) 256 <| gd x3 256 <| if ((u 44 (ix (x3 &&& ((jshl 1 x6) ^^^ (-1))))) + 1) = (u 44 (ix x3)) then (fX12_canGo u x6 x3 x2).bind fun z6 => if z6 = 0 then lett (x6 + 1) fun t12 => lp24 x1 x2 x3 x5 t12 else gd x6 8 <| lett (u 43 (ix x6)) fun t8 => lett (x3 &&& ((jshl 1 x6) ^^^ (-1))) fun t9 => lett (x5 + 1) fun t10 => lp15 x1 x2 t9 t8 t10 else lett (x6 + 1) fun t5 => lp24 x1 x2 x3 x5 t5
def fX12_goesAt_L24 (u : St) (lp15 : Int32 → Int32 → Int32 → Int32 → Int32 → Option (Int32)) : Nat → Int32 → Int32 → Int32 → Int32 → Int32 → Option (Int32)
  | 0, _, _, _, _, _ => none
  | n + 1, x1, x2, x3, x5, x6 => bX12_goesAt_L24 u lp15 (fX12_goesAt_L24 u lp15 n) x1 x2 x3 x5 x6
def bX12_goesAt_L15 (u : St)  (lp15 : Int32 → Int32 → Int32 → Int32 → Int32 → Option (Int32)) (x1 : Int32) (x2 : Int32) (x3 : Int32) (x4 : Int32) (x5 : Int32) : Option (Int32) := if x1 < x5 then some x4 else fX12_goesAt_L24 u lp15 FU x1 x2 x3 x5 0
def fX12_goesAt_L15 (u : St)  : Nat → Int32 → Int32 → Int32 → Int32 → Int32 → Option (Int32)
  | 0, _, _, _, _, _ => none
  | n + 1, x1, x2, x3, x4, x5 => bX12_goesAt_L15 u (fX12_goesAt_L15 u n) x1 x2 x3 x4 x5
def fX12_goesAt  (u : St) (p1 : Int32) (p2 : Int32) : Option (Int32) := lett ((jshl 1 (u 45 0)) - 1) fun t16 => fX12_goesAt_L15 u FU p1 p2 t16 (-1) 0
set_option maxHeartbeats 4000000 in
set_option maxRecDepth 100000 in
theorem mX12_goesAt (l : Launch) (D : va_G) (T : Ty3) (h : Nat) (a : Nat → Nat) (u : St) (p1 : Int32) (p2 : Int32) (res : Int32) (hf : fX12_goesAt u p1 p2 = some res) : Met l yX12_goesAt wsX12_goesAt ({ frames := 3, cells := 0, slots := 0, locals := 71 }) (PcR D T (kX12 T h a u) [.ref h, .int p1, .int p2]) (QR res) 0 0 noA := by
  refine Met.ofW (cc := cX12_goesAt) (maxL := 7) (ret := (some .int)) (by decide) rfl ?_
  intro p e s m args below meth c s₁ B hml hv
  obtain ⟨rfl, hP, hK⟩ := hv
  have hx := B.exec
  have hb := B.bytes
  have hr := B.returns
  have hts := atoms_spec (ws := wsX12_goesAt) B.pre
  have hown : s.vm.findClass RX12 = some m.cls := findClass_of_methodNamed B.named
  have hlocks := B.notSynchronized
  have hS : va_S noA s.heap s.heap [] := va_S.rf
  have hinX12 : ∀ w ∈ u_ws RX12 TX12 52, w ∈ wsX12_goesAt := fun w h => List.mem_cons_of_mem _ (List.mem_append_right _ h)
  have hl := lv_entry ([.ref h, .int p1, .int p2]) (n := 7) (Nat.le_of_ble_eq_true rfl)
  rw [lg_entry_eq]
  generalize (lg_sl ([.ref h, .int p1, .int p2]) ++ List.replicate (7 - (lg_sl ([.ref h, .int p1, .int p2])).length) Slot.unset).toArray = ls at hl ⊢
  have hl : lv_has ls 7 [(0, .ref h), (1, .int p1), (2, .int p2)] := hl
  have L15 : ∀ (n15 : Nat), ∀ (x1 : Int32) (x2 : Int32) (x3 : Int32) (x4 : Int32) (x5 : Int32) (H : Heap) (locs : List Loc) (ls : Array Slot), fX12_goesAt_L15 u n15 x1 x2 x3 x4 x5 = some res → va_P D vwCl (kX12 T h a u) H → va_S noA s.heap H locs → lv_has ls 7 [(0, .ref h), (1, .int x1), (2, .int x2), (3, .int x3), (4, .int x4), (5, .int x5)] → W p l e (headSpec wsX12_goesAt ({ frames := 3, cells := 0, slots := 0, locals := 71 })).room s m ([.ref h, .int p1, .int p2] : List Value).toArray below meth c H locs 0 0 (MQ below (QR res) ([.ref h, .int p1, .int p2] : List Value).toArray s 0 0 noA) (F0 m 15 ls []) := by
    intro n15
    induction n15 with
    | zero => intro x1 x2 x3 x4 x5 H locs ls hf; exact nns hf
    | succ n15 ih15 =>
      have L24 : ∀ (n24 : Nat), ∀ (x1 : Int32) (x2 : Int32) (x3 : Int32) (x5 : Int32) (x6 : Int32) (H : Heap) (locs : List Loc) (ls : Array Slot), fX12_goesAt_L24 u (fX12_goesAt_L15 u n15) n24 x1 x2 x3 x5 x6 = some res → va_P D vwCl (kX12 T h a u) H → va_S noA s.heap H locs → lv_has ls 7 [(0, .ref h), (1, .int x1), (2, .int x2), (3, .int x3), (5, .int x5), (6, .int x6)] → W p l e (headSpec wsX12_goesAt ({ frames := 3, cells := 0, slots := 0, locals := 71 })).room s m ([.ref h, .int p1, .int p2] : List Value).toArray below meth c H locs 0 0 (MQ below (QR res) ([.ref h, .int p1, .int p2] : List Value).toArray s 0 0 noA) (F0 m 24 ls []) := by
        intro n24
        induction n24 with
        | zero => intro x1 x2 x3 x5 x6 H locs ls hf; exact nns hf
        | succ n24 ih24 =>
          intro x1 x2 x3 x5 x6 H locs ls hf hP hS hl
          replace hf : bX12_goesAt_L24 u (fX12_goesAt_L15 u n15) (fX12_goesAt_L24 u (fX12_goesAt_L15 u n15) n24) x1 x2 x3 x5 x6 = some res := hf
          unfold bX12_goesAt_L24 at hf
          refine lv_iload_n hx hb dX12_goesAt_24 rfl (lv_at hl 3 rfl) ?_
          refine lv_iload hx hb dX12_goesAt_25 (lv_at hl 5 rfl) ?_
          obtain ⟨z1, hz1, hf⟩ := lett_e hf
          refine cSR (As := [.int x3, .int x6]) (rest := []) ⟨hx, hb, hml, hown, hts⟩ (mX12_has l D T x3 x6 z1 hz1.symm) (va_cwS 2 hts gX12_goesAt_X12_has rfl rfl rfl (by decide +kernel) ⟨Nat.le_of_ble_eq_true rfl, Nat.le_of_ble_eq_true rfl⟩) P0 hK rfl hl.1 rfl (Nat.le_of_ble_eq_true rfl) dX12_goesAt_27 ⟨Nat.le_of_ble_eq_true rfl, Nat.le_of_ble_eq_true rfl⟩ hP hS (fun H locs hP hS => ?_)
          refine lv_if_eq (tgt := 68) hx hb dX12_goesAt_30 (by decide) (fun c2 => ?_) (fun c2 => ?_)
          · replace hf := ifp c2 hf
            refine lv_iload hx hb dX12_goesAt_68 (lv_at hl 5 rfl) ?_
            refine lv_iconst (v := 1) hx hb dX12_goesAt_70 (by decide) ?_
            refine lv_iadd hx hb dX12_goesAt_71 ?_
            obtain ⟨t3, et3, hf⟩ := lett_e hf
            refine lv_eqi et3 ?_
            refine lv_istore (lv' := [(6, .int t3), (0, .ref h), (1, .int x1), (2, .int x2), (3, .int x3), (5, .int x5)]) hx hb dX12_goesAt_72 hl (by decide) rfl (fun ls hl => ?_)
            refine lv_goto (tgt := 24) hx hb dX12_goesAt_74 (by decide) ?_
            exact ih24 x1 x2 x3 x5 t3 _ _ _ hf hP hS (lv_sub hl [1, 2, 3, 4, 5, 0] rfl)
          replace hf := ifn c2 hf
          refine lv_aload_n hx hb dX12_goesAt_33 rfl (lv_at hl 0 rfl) ?_
          refine va_get (D := D) (ci := 12) (v := .ref (a 44)) (C := RX12) (T := TX12) (N := 52) hx hb hts hinX12 hown hK.1 hP 0 rfl rfl 44 (by decide) (hts (.fieldLink RX12 83 "RopeScaleModel" "mostFrom" "[I") (List.mem_of_getElem? (i := 2) rfl)) (fun _ h9 => h9) rfl dX12_goesAt_34 ?_
          refine lv_iload_n hx hb dX12_goesAt_37 rfl (lv_at hl 3 rfl) ?_
          refine lv_iconst (v := 1) hx hb dX12_goesAt_38 (by decide) ?_
          refine lv_iload hx hb dX12_goesAt_39 (lv_at hl 5 rfl) ?_
          refine lv_ishl hx hb dX12_goesAt_41 ?_
          refine lv_iconst (v := (-1)) hx hb dX12_goesAt_42 (by decide) ?_
          refine lv_ixor hx hb dX12_goesAt_43 ?_
          refine lv_iand hx hb dX12_goesAt_44 ?_
          obtain ⟨h14, hf⟩ := gd_e hf
          refine va_iald hx hb hK.1 hP 25 0 rfl rfl h14 dX12_goesAt_45 ?_
          refine lv_iconst (v := 1) hx hb dX12_goesAt_46 (by decide) ?_
          refine lv_iadd hx hb dX12_goesAt_47 ?_
          refine lv_aload_n hx hb dX12_goesAt_48 rfl (lv_at hl 0 rfl) ?_
          refine va_get (D := D) (ci := 12) (v := .ref (a 44)) (C := RX12) (T := TX12) (N := 52) hx hb hts hinX12 hown hK.1 hP 0 rfl rfl 44 (by decide) (hts (.fieldLink RX12 83 "RopeScaleModel" "mostFrom" "[I") (List.mem_of_getElem? (i := 2) rfl)) (fun _ h9 => h9) rfl dX12_goesAt_49 ?_
          refine lv_iload_n hx hb dX12_goesAt_52 rfl (lv_at hl 3 rfl) ?_
          obtain ⟨h13, hf⟩ := gd_e hf
          refine va_iald hx hb hK.1 hP 25 0 rfl rfl h13 dX12_goesAt_53 ?_
          refine lv_icmp_ne (tgt := 68) hx hb dX12_goesAt_54 (by decide) (fun c4 => ?_) (fun c4 => ?_)
          · replace hf := ifn c4 hf
            refine lv_iload hx hb dX12_goesAt_68 (lv_at hl 5 rfl) ?_
            refine lv_iconst (v := 1) hx hb dX12_goesAt_70 (by decide) ?_
            refine lv_iadd hx hb dX12_goesAt_71 ?_
            obtain ⟨t5, et5, hf⟩ := lett_e hf
            refine lv_eqi et5 ?_
            refine lv_istore (lv' := [(6, .int t5), (0, .ref h), (1, .int x1), (2, .int x2), (3, .int x3), (5, .int x5)]) hx hb dX12_goesAt_72 hl (by decide) rfl (fun ls hl => ?_)
            refine lv_goto (tgt := 24) hx hb dX12_goesAt_74 (by decide) ?_
            exact ih24 x1 x2 x3 x5 t5 _ _ _ hf hP hS (lv_sub hl [1, 2, 3, 4, 5, 0] rfl)
          replace hf := ifp c4 hf
          refine lv_aload_n hx hb dX12_goesAt_57 rfl (lv_at hl 0 rfl) ?_
          refine lv_iload hx hb dX12_goesAt_58 (lv_at hl 5 rfl) ?_
          refine lv_iload_n hx hb dX12_goesAt_60 rfl (lv_at hl 3 rfl) ?_
          refine lv_iload_n hx hb dX12_goesAt_61 rfl (lv_at hl 2 rfl) ?_
          obtain ⟨z6, hz6, hf⟩ := bnd hf
          refine cVR (As := [.int x6, .int x3, .int x2]) (rest := []) ⟨hx, hb, hml, hown, hts⟩ (mX12_canGo l D T h a u x6 x3 x2 z6 hz6) (cwV 3 hts gX12_goesAt_X12_canGo rfl rfl rfl (by decide +kernel) ⟨Nat.le_of_ble_eq_true rfl, Nat.le_of_ble_eq_true rfl⟩) (va_recv hK.1 hP (ci := 12) (q0 := 0) rfl rfl) hP hK rfl hl.1 rfl (Nat.le_of_ble_eq_true rfl) dX12_goesAt_62 ⟨Nat.le_of_ble_eq_true rfl, Nat.le_of_ble_eq_true rfl⟩ hP hS (fun H locs hP hS => ?_)
          refine lv_if_ne (tgt := 77) hx hb dX12_goesAt_65 (by decide) (fun c7 => ?_) (fun c7 => ?_)
          · replace hf := ifn c7 hf
            refine lv_aload_n hx hb dX12_goesAt_77 rfl (lv_at hl 0 rfl) ?_
            refine va_get (D := D) (ci := 12) (v := .ref (a 43)) (C := RX12) (T := TX12) (N := 52) hx hb hts hinX12 hown hK.1 hP 0 rfl rfl 43 (by decide) (hts (.fieldLink RX12 80 "RopeScaleModel" "partyOf" "[I") (List.mem_of_getElem? (i := 3) rfl)) (fun _ h9 => h9) rfl dX12_goesAt_78 ?_
            refine lv_iload hx hb dX12_goesAt_81 (lv_at hl 5 rfl) ?_
            obtain ⟨h11, hf⟩ := gd_e hf
            refine va_iald hx hb hK.1 hP 24 0 rfl rfl h11 dX12_goesAt_83 ?_
            obtain ⟨t8, et8, hf⟩ := lett_e hf
            refine lv_eqi et8 ?_
            refine lv_istore (lv' := [(4, .int t8), (0, .ref h), (1, .int x1), (2, .int x2), (3, .int x3), (5, .int x5), (6, .int x6)]) hx hb dX12_goesAt_84 hl (by decide) rfl (fun ls hl => ?_)
            refine lv_iload_n hx hb dX12_goesAt_86 rfl (lv_at hl 4 rfl) ?_
            refine lv_iconst (v := 1) hx hb dX12_goesAt_87 (by decide) ?_
            refine lv_iload hx hb dX12_goesAt_88 (lv_at hl 6 rfl) ?_
            refine lv_ishl hx hb dX12_goesAt_90 ?_
            refine lv_iconst (v := (-1)) hx hb dX12_goesAt_91 (by decide) ?_
            refine lv_ixor hx hb dX12_goesAt_92 ?_
            refine lv_iand hx hb dX12_goesAt_93 ?_
            obtain ⟨t9, et9, hf⟩ := lett_e hf
            refine lv_eqi et9 ?_
            refine lv_istore_n (lv' := [(3, .int t9), (4, .int t8), (0, .ref h), (1, .int x1), (2, .int x2), (5, .int x5), (6, .int x6)]) hx hb dX12_goesAt_94 rfl hl (by decide) rfl (fun ls hl => ?_)
            obtain ⟨t10, et10, hf⟩ := lett_e hf
            refine lv_iinc (v := t10) (lv' := [(5, .int t10), (3, .int t9), (4, .int t8), (0, .ref h), (1, .int x1), (2, .int x2), (6, .int x6)]) hx hb dX12_goesAt_95 hl (k := 5) rfl (by rw [et10]; rfl) (by decide) rfl (fun ls hl => ?_)
            refine lv_goto (tgt := 15) hx hb dX12_goesAt_98 (by decide) ?_
            exact ih15 x1 x2 t9 t8 t10 _ _ _ hf hP hS (lv_sub hl [3, 4, 5, 1, 2, 0] rfl)
          replace hf := ifp c7 hf
          refine lv_iload hx hb dX12_goesAt_68 (lv_at hl 5 rfl) ?_
          refine lv_iconst (v := 1) hx hb dX12_goesAt_70 (by decide) ?_
          refine lv_iadd hx hb dX12_goesAt_71 ?_
          obtain ⟨t12, et12, hf⟩ := lett_e hf
          refine lv_eqi et12 ?_
          refine lv_istore (lv' := [(6, .int t12), (0, .ref h), (1, .int x1), (2, .int x2), (3, .int x3), (5, .int x5)]) hx hb dX12_goesAt_72 hl (by decide) rfl (fun ls hl => ?_)
          refine lv_goto (tgt := 24) hx hb dX12_goesAt_74 (by decide) ?_
          exact ih24 x1 x2 x3 x5 t12 _ _ _ hf hP hS (lv_sub hl [1, 2, 3, 4, 5, 0] rfl)
      intro x1 x2 x3 x4 x5 H locs ls hf hP hS hl
      replace hf : bX12_goesAt_L15 u (fX12_goesAt_L15 u n15) x1 x2 x3 x4 x5 = some res := hf
      unfold bX12_goesAt_L15 at hf
      refine lv_iload hx hb dX12_goesAt_15 (lv_at hl 5 rfl) ?_
      refine lv_iload_n hx hb dX12_goesAt_17 rfl (lv_at hl 1 rfl) ?_
      refine lv_icmp_gt (tgt := 101) hx hb dX12_goesAt_18 (by decide) (fun c15 => ?_) (fun c15 => ?_)
      · replace hf := ifp c15 hf
        refine lv_iload hx hb dX12_goesAt_101 (lv_at hl 4 rfl) ?_
        exact retR hx hb hr hlocks hS (Option.some.inj hf) dX12_goesAt_103
      replace hf := ifn c15 hf
      refine lv_iconst (v := 0) hx hb dX12_goesAt_21 (by decide) ?_
      refine lv_istore (lv' := [(6, .int 0), (0, .ref h), (1, .int x1), (2, .int x2), (3, .int x3), (4, .int x4), (5, .int x5)]) hx hb dX12_goesAt_22 hl (by decide) rfl (fun ls hl => ?_)
      exact L24 FU x1 x2 x3 x5 0 _ _ _ hf hP hS (lv_sub hl [1, 2, 3, 4, 6, 0] rfl)
  unfold fX12_goesAt at hf
  refine lv_iconst (v := 1) hx hb dX12_goesAt_0 (by decide) ?_
  refine lv_aload_n hx hb dX12_goesAt_1 rfl (lv_at hl 0 rfl) ?_
  refine va_get (D := D) (ci := 12) (v := .int (u 45 0)) (C := RX12) (T := TX12) (N := 52) hx hb hts hinX12 hown hK.1 hP 0 rfl rfl 45 (by decide) (hts (.fieldLink RX12 317 "RopeScaleModel" "partyMany" "I") (List.mem_of_getElem? (i := 1) rfl)) (fun _ h9 => h9) rfl dX12_goesAt_2 ?_
  refine lv_ishl hx hb dX12_goesAt_5 ?_
  refine lv_iconst (v := 1) hx hb dX12_goesAt_6 (by decide) ?_
  refine lv_isub hx hb dX12_goesAt_7 ?_
  obtain ⟨t16, et16, hf⟩ := lett_e hf
  refine lv_eqi et16 ?_
  refine lv_istore_n (lv' := [(3, .int t16), (0, .ref h), (1, .int p1), (2, .int p2)]) hx hb dX12_goesAt_8 rfl hl (by decide) rfl (fun ls hl => ?_)
  refine lv_iconst (v := (-1)) hx hb dX12_goesAt_9 (by decide) ?_
  refine lv_istore (lv' := [(4, .int (-1)), (3, .int t16), (0, .ref h), (1, .int p1), (2, .int p2)]) hx hb dX12_goesAt_10 hl (by decide) rfl (fun ls hl => ?_)
  refine lv_iconst (v := 0) hx hb dX12_goesAt_12 (by decide) ?_
  refine lv_istore (lv' := [(5, .int 0), (4, .int (-1)), (3, .int t16), (0, .ref h), (1, .int p1), (2, .int p2)]) hx hb dX12_goesAt_13 hl (by decide) rfl (fun ls hl => ?_)
  exact L15 FU p1 p2 t16 (-1) 0 _ _ _ hf hP hS (lv_sub hl [3, 4, 5, 2, 1, 0] rfl)
def bX12_party_L71   (lp71 : St → Int32 → Int32 → Int32 → Int32 → Option (Int32 × St)) (v : St) (x1 : Int32) (x2 : Int32) (x3 : Int32) (x4 : Int32) : Option (Int32 × St) := if 16 ≤ x4 then (fX12_laysParty v x2).bind fun z2 => gd ((jshl 1 (z2 45 0)) - 1) 256 <| lett (z2 44 (ix ((jshl 1 (z2 45 0)) - 1))) fun t3 => if x3 = 100 then some (t3, z2) else if t3 ≤ x3 then some ((-4), z2) else (fX12_goesAt z2 x3 x2).bind fun z6 => some (z6, z2) else lett (fX12_has x1 x4) fun z8 => if z8 = 0 then lett (x4 + 1) fun t14 => lp71 v x1 x2 x3 t14 else gd (v 45 0) 8 <| lett (st v 43 (ix (v 45 0)) x4) fun u10 => lett (st u10 45 0 ((u10 45 0) + 1)) fun u11 => lett (x4 + 1) fun t12 => lp71 u11 x1 x2 x3 t12
def fX12_party_L71   : Nat → St → Int32 → Int32 → Int32 → Int32 → Option (Int32 × St)
  | 0, _, _, _, _, _ => none
  | n + 1, v, x1, x2, x3, x4 => bX12_party_L71  (fX12_party_L71  n) v x1 x2 x3 x4
def fX12_party_J49   (v : St) (x1 : Int32) (x2 : Int32) (x3 : Int32) : Option (Int32 × St) := (fX12_hereSet v).bind fun z15 => if (x1 &&& (z15 ^^^ (-1))) = 0 then lett (st v 45 0 0) fun u17 => fX12_party_L71 FU u17 x1 x2 x3 0 else some ((-2), v)
def fX12_party  (u : St) (p1 : Int32) (p2 : Int32) (p3 : Int32) : Option (Int32 × St) := lett (fX12_in p1 1 65535) fun z18 => if z18 = 0 then some ((-1), u) else (fX12_bits p1).bind fun z20 => if 8 < z20 then some ((-1), u) else lett (fX12_in p2 0 999) fun z22 => if z22 = 0 then some ((-1), u) else lett (fX12_in p3 0 7) fun z24 => if z24 = 0 then if p3 = 100 then fX12_party_J49 u p1 p2 p3 else some ((-1), u) else fX12_party_J49 u p1 p2 p3
set_option maxHeartbeats 4000000 in
set_option maxRecDepth 100000 in
theorem mX12_party (l : Launch) (D : va_G) (T : Ty3) (h : Nat) (a : Nat → Nat) (u : St) (sz : Nat) (p1 : Int32) (p2 : Int32) (p3 : Int32) (res : Int32 × St) (hf : fX12_party u p1 p2 p3 = some res) : Met l yX12_party wsX12_party ({ frames := 4, cells := 0, slots := 0, locals := 97 }) (PcM D T (kX12 T h a u) sz [.ref h, .int p1, .int p2, .int p3]) (QM D (kX12 T h a u) sz res.1 (kX12 T h a res.2)) 0 0 (va_A (kX12 T h a u) sz) := by
  refine Met.ofW (cc := cX12_party) (maxL := 5) (ret := (some .int)) (by decide) rfl ?_
  intro p e s m args below meth c s₁ B hml hv
  obtain ⟨rfl, hsz, hP, hK, hD0⟩ := hv
  have hx := B.exec
  have hb := B.bytes
  have hr := B.returns
  have hts := atoms_spec (ws := wsX12_party) B.pre
  have hown : s.vm.findClass RX12 = some m.cls := findClass_of_methodNamed B.named
  have hlocks := B.notSynchronized
  subst hsz
  have hD := hD0.self (sz := s.heap.size)
  have hA : ∀ q : Nat, s.heap.size ≤ q → va_A (kX12 T h a u) s.heap.size q := fun q h => Or.inr h
  have hS : va_S (va_A (kX12 T h a u) s.heap.size) s.heap s.heap [] := va_S.rf
  have hinX12 : ∀ w ∈ u_ws RX12 TX12 52, w ∈ wsX12_party := fun w h => List.mem_cons_of_mem _ (List.mem_append_right _ h)
  have hl := lv_entry ([.ref h, .int p1, .int p2, .int p3]) (n := 5) (Nat.le_of_ble_eq_true rfl)
  rw [lg_entry_eq]
  generalize (lg_sl ([.ref h, .int p1, .int p2, .int p3]) ++ List.replicate (5 - (lg_sl ([.ref h, .int p1, .int p2, .int p3])).length) Slot.unset).toArray = ls at hl ⊢
  have hl : lv_has ls 5 [(0, .ref h), (1, .int p1), (2, .int p2), (3, .int p3)] := hl
  have L71 : ∀ (n71 : Nat), ∀ (v : St) (x1 : Int32) (x2 : Int32) (x3 : Int32) (x4 : Int32) (H : Heap) (locs : List Loc) (ls : Array Slot), fX12_party_L71  n71 v x1 x2 x3 x4 = some res → va_P D vwCl (kX12 T h a v) H → va_D (va_A (kX12 T h a u) s.heap.size) (kX12 T h a v) → va_S (va_A (kX12 T h a u) s.heap.size) s.heap H locs → lv_has ls 5 [(0, .ref h), (1, .int x1), (2, .int x2), (3, .int x3), (4, .int x4)] → W p l e (headSpec wsX12_party ({ frames := 4, cells := 0, slots := 0, locals := 97 })).room s m ([.ref h, .int p1, .int p2, .int p3] : List Value).toArray below meth c H locs 0 0 (MQ below (QM D (kX12 T h a u) s.heap.size res.1 (kX12 T h a res.2)) ([.ref h, .int p1, .int p2, .int p3] : List Value).toArray s 0 0 (va_A (kX12 T h a u) s.heap.size)) (F0 m 71 ls []) := by
    intro n71
    induction n71 with
    | zero => intro v x1 x2 x3 x4 H locs ls hf; exact nns hf
    | succ n71 ih71 =>
      intro v x1 x2 x3 x4 H locs ls hf hP hD hS hl
      replace hf : bX12_party_L71  (fX12_party_L71  n71) v x1 x2 x3 x4 = some res := hf
      unfold bX12_party_L71 at hf
      refine lv_iload hx hb dX12_party_71 (lv_at hl 4 rfl) ?_
      refine lv_bipush (v := 16) hx hb dX12_party_73 (by decide) ?_
      refine lv_icmp_ge (tgt := 117) hx hb dX12_party_75 (by decide) (fun c1 => ?_) (fun c1 => ?_)
      · replace hf := ifp c1 hf
        refine lv_aload_n hx hb dX12_party_117 rfl (lv_at hl 0 rfl) ?_
        refine lv_iload_n hx hb dX12_party_118 rfl (lv_at hl 2 rfl) ?_
        obtain ⟨z2, hz2, hf⟩ := bnd hf
        have hFc9 := vaA_self hD hS hA
        refine cVMv (As := [.int x2]) (rest := []) ⟨hx, hb, hml, hown, hts⟩ (mX12_laysParty l D T h a v _ x2 z2 hz2) (cwV 1 hts gX12_party_X12_laysParty rfl rfl rfl (by decide +kernel) ⟨Nat.le_of_ble_eq_true rfl, Nat.le_of_ble_eq_true rfl⟩) (va_recv hK.1 hP (ci := 12) (q0 := 0) rfl rfl) hP hK rfl hl.1 rfl (Nat.le_of_ble_eq_true rfl) dX12_party_119 ⟨Nat.le_of_ble_eq_true rfl, Nat.le_of_ble_eq_true rfl⟩ hD hFc9 hS (fun H locs hP hD1 _ hS => ?_)
        have hD := hD1.weaken (fun _ _ _ h9 => hFc9 _ h9)
        refine lv_aload_n hx hb dX12_party_122 rfl (lv_at hl 0 rfl) ?_
        refine va_get (D := D) (ci := 12) (v := .ref (a 44)) (C := RX12) (T := TX12) (N := 52) hx hb hts hinX12 hown hK.1 hP 0 rfl rfl 44 (by decide) (hts (.fieldLink RX12 83 "RopeScaleModel" "mostFrom" "[I") (List.mem_of_getElem? (i := 4) rfl)) (fun _ h9 => h9) rfl dX12_party_123 ?_
        refine lv_iconst (v := 1) hx hb dX12_party_126 (by decide) ?_
        refine lv_aload_n hx hb dX12_party_127 rfl (lv_at hl 0 rfl) ?_
        refine va_get (D := D) (ci := 12) (v := .int (z2 45 0)) (C := RX12) (T := TX12) (N := 52) hx hb hts hinX12 hown hK.1 hP 0 rfl rfl 45 (by decide) (hts (.fieldLink RX12 317 "RopeScaleModel" "partyMany" "I") (List.mem_of_getElem? (i := 2) rfl)) (fun _ h9 => h9) rfl dX12_party_128 ?_
        refine lv_ishl hx hb dX12_party_131 ?_
        refine lv_iconst (v := 1) hx hb dX12_party_132 (by decide) ?_
        refine lv_isub hx hb dX12_party_133 ?_
        obtain ⟨h7, hf⟩ := gd_e hf
        refine va_iald hx hb hK.1 hP 25 0 rfl rfl h7 dX12_party_134 ?_
        obtain ⟨t3, et3, hf⟩ := lett_e hf
        refine lv_eqi et3 ?_
        refine lv_istore (lv' := [(4, .int t3), (0, .ref h), (1, .int x1), (2, .int x2), (3, .int x3)]) hx hb dX12_party_135 hl (by decide) rfl (fun ls hl => ?_)
        refine lv_iload_n hx hb dX12_party_137 rfl (lv_at hl 4 rfl) ?_
        refine lv_bipush (v := 100) hx hb dX12_party_138 (by decide) ?_
        refine lv_icmp_ne (tgt := 146) hx hb dX12_party_140 (by decide) (fun c4 => ?_) (fun c4 => ?_)
        · replace hf := ifn c4 hf
          refine lv_iload_n hx hb dX12_party_146 rfl (lv_at hl 4 rfl) ?_
          refine lv_iload hx hb dX12_party_147 (lv_at hl 0 rfl) ?_
          refine lv_icmp_ge (tgt := 161) hx hb dX12_party_149 (by decide) (fun c5 => ?_) (fun c5 => ?_)
          · replace hf := ifp c5 hf
            refine lv_bipush (v := (-4)) hx hb dX12_party_161 (by decide) ?_
            have e9 := Option.some.inj hf
            exact retM hx hb hr hlocks hP hD hS (congrArg (fun z => z.1) e9) (congrArg (fun z => (kX12 T h a z.2 : va_W)) e9) dX12_party_163
          replace hf := ifn c5 hf
          refine lv_aload_n hx hb dX12_party_152 rfl (lv_at hl 1 rfl) ?_
          refine lv_iload_n hx hb dX12_party_153 rfl (lv_at hl 4 rfl) ?_
          refine lv_iload_n hx hb dX12_party_154 rfl (lv_at hl 3 rfl) ?_
          obtain ⟨z6, hz6, hf⟩ := bnd hf
          refine cVR (As := [.int x3, .int x2]) (rest := []) ⟨hx, hb, hml, hown, hts⟩ (mX12_goesAt l D T h a z2 x3 x2 z6 hz6) (cwV 2 hts gX12_party_X12_goesAt rfl rfl rfl (by decide +kernel) ⟨Nat.le_of_ble_eq_true rfl, Nat.le_of_ble_eq_true rfl⟩) (va_recv hK.1 hP (ci := 12) (q0 := 0) rfl rfl) hP hK rfl hl.1 rfl (Nat.le_of_ble_eq_true rfl) dX12_party_155 ⟨Nat.le_of_ble_eq_true rfl, Nat.le_of_ble_eq_true rfl⟩ hP hS (fun H locs hP hS => ?_)
          refine lv_goto (tgt := 163) hx hb dX12_party_158 (by decide) ?_
          have e9 := Option.some.inj hf
          exact retM hx hb hr hlocks hP hD hS (congrArg (fun z => z.1) e9) (congrArg (fun z => (kX12 T h a z.2 : va_W)) e9) dX12_party_163
        replace hf := ifp c4 hf
        refine lv_iload hx hb dX12_party_143 (lv_at hl 0 rfl) ?_
        have e9 := Option.some.inj hf
        exact retM hx hb hr hlocks hP hD hS (congrArg (fun z => z.1) e9) (congrArg (fun z => (kX12 T h a z.2 : va_W)) e9) dX12_party_145
      replace hf := ifn c1 hf
      refine lv_iload_n hx hb dX12_party_78 rfl (lv_at hl 1 rfl) ?_
      refine lv_iload hx hb dX12_party_79 (lv_at hl 4 rfl) ?_
      obtain ⟨z8, hz8, hf⟩ := lett_e hf
      refine cSR (As := [.int x1, .int x4]) (rest := []) ⟨hx, hb, hml, hown, hts⟩ (mX12_has l D T x1 x4 z8 hz8.symm) (va_cwS 2 hts gX12_party_X12_has rfl rfl rfl (by decide +kernel) ⟨Nat.le_of_ble_eq_true rfl, Nat.le_of_ble_eq_true rfl⟩) P0 hK rfl hl.1 rfl (Nat.le_of_ble_eq_true rfl) dX12_party_81 ⟨Nat.le_of_ble_eq_true rfl, Nat.le_of_ble_eq_true rfl⟩ hP hS (fun H locs hP hS => ?_)
      refine lv_if_ne (tgt := 90) hx hb dX12_party_84 (by decide) (fun c9 => ?_) (fun c9 => ?_)
      · replace hf := ifn c9 hf
        refine lv_aload_n hx hb dX12_party_90 rfl (lv_at hl 0 rfl) ?_
        refine va_get (D := D) (ci := 12) (v := .ref (a 43)) (C := RX12) (T := TX12) (N := 52) hx hb hts hinX12 hown hK.1 hP 0 rfl rfl 43 (by decide) (hts (.fieldLink RX12 80 "RopeScaleModel" "partyOf" "[I") (List.mem_of_getElem? (i := 3) rfl)) (fun _ h9 => h9) rfl dX12_party_91 ?_
        refine lv_aload_n hx hb dX12_party_94 rfl (lv_at hl 0 rfl) ?_
        refine va_get (D := D) (ci := 12) (v := .int (v 45 0)) (C := RX12) (T := TX12) (N := 52) hx hb hts hinX12 hown hK.1 hP 0 rfl rfl 45 (by decide) (hts (.fieldLink RX12 317 "RopeScaleModel" "partyMany" "I") (List.mem_of_getElem? (i := 2) rfl)) (fun _ h9 => h9) rfl dX12_party_95 ?_
        refine lv_iload hx hb dX12_party_98 (lv_at hl 4 rfl) ?_
        obtain ⟨h13, hf⟩ := gd_e hf
        obtain ⟨u10, eu10, hf⟩ := lett_e hf
        refine va_iast hx hb hK.1 hP hD hS 24 0 rfl rfl h13 dX12_party_100 (fun H locs hP hD hS => ?_)
        have hP : va_P D vwCl (kX12 T h a u10) H := by rw [eu10]; exact hP
        have hD : va_D (va_A (kX12 T h a u) s.heap.size) (kX12 T h a u10) := by rw [eu10]; exact hD
        refine lv_aload_n hx hb dX12_party_101 rfl (lv_at hl 0 rfl) ?_
        refine lv_aload_n hx hb dX12_party_102 rfl (lv_at hl 0 rfl) ?_
        refine va_get (D := D) (ci := 12) (v := .int (u10 45 0)) (C := RX12) (T := TX12) (N := 52) hx hb hts hinX12 hown hK.1 hP 0 rfl rfl 45 (by decide) (hts (.fieldLink RX12 317 "RopeScaleModel" "partyMany" "I") (List.mem_of_getElem? (i := 2) rfl)) (fun _ h9 => h9) rfl dX12_party_103 ?_
        refine lv_iconst (v := 1) hx hb dX12_party_106 (by decide) ?_
        refine lv_iadd hx hb dX12_party_107 ?_
        obtain ⟨u11, eu11, hf⟩ := lett_e hf
        refine va_put (D := D) (ci := 12) (v := .int ((u10 45 0) + 1)) (ty := .int) (C := RX12) (T := TX12) (N := 52) hx hb hts hinX12 tyX12 tyX12_ok nmX12 hown hK.1 hP hD hS 0 rfl rfl 45 (by decide) (hts (.fieldLink RX12 317 "RopeScaleModel" "partyMany" "I") (List.mem_of_getElem? (i := 2) rfl)) (fun _ h9 => h9) rfl (tyX12_ok 45 (by decide)) rfl rfl (Nat.le_of_ble_eq_true rfl) dX12_party_108 (fun H locs hP hD hS => ?_)
        have hP : va_P D vwCl (kX12 T h a u11) H := by rw [eu11]; exact hP
        have hD : va_D (va_A (kX12 T h a u) s.heap.size) (kX12 T h a u11) := by rw [eu11]; exact hD
        obtain ⟨t12, et12, hf⟩ := lett_e hf
        refine lv_iinc (v := t12) (lv' := [(4, .int t12), (0, .ref h), (1, .int x1), (2, .int x2), (3, .int x3)]) hx hb dX12_party_111 hl (k := 4) rfl (by rw [et12]; rfl) (by decide) rfl (fun ls hl => ?_)
        refine lv_goto (tgt := 71) hx hb dX12_party_114 (by decide) ?_
        exact ih71 u11 x1 x2 x3 t12 _ _ _ hf hP hD hS (lv_sub hl [1, 2, 3, 4, 0] rfl)
      replace hf := ifp c9 hf
      refine lv_goto (tgt := 111) hx hb dX12_party_87 (by decide) ?_
      obtain ⟨t14, et14, hf⟩ := lett_e hf
      refine lv_iinc (v := t14) (lv' := [(4, .int t14), (0, .ref h), (1, .int x1), (2, .int x2), (3, .int x3)]) hx hb dX12_party_111 hl (k := 4) rfl (by rw [et14]; rfl) (by decide) rfl (fun ls hl => ?_)
      refine lv_goto (tgt := 71) hx hb dX12_party_114 (by decide) ?_
      exact ih71 v x1 x2 x3 t14 _ _ _ hf hP hD hS (lv_sub hl [1, 2, 3, 4, 0] rfl)
  have J49 : ∀ (v : St) (x1 : Int32) (x2 : Int32) (x3 : Int32) (H : Heap) (locs : List Loc) (ls : Array Slot), fX12_party_J49  v x1 x2 x3 = some res → va_P D vwCl (kX12 T h a v) H → va_D (va_A (kX12 T h a u) s.heap.size) (kX12 T h a v) → va_S (va_A (kX12 T h a u) s.heap.size) s.heap H locs → lv_has ls 5 [(0, .ref h), (1, .int x1), (2, .int x2), (3, .int x3)] → W p l e (headSpec wsX12_party ({ frames := 4, cells := 0, slots := 0, locals := 97 })).room s m ([.ref h, .int p1, .int p2, .int p3] : List Value).toArray below meth c H locs 0 0 (MQ below (QM D (kX12 T h a u) s.heap.size res.1 (kX12 T h a res.2)) ([.ref h, .int p1, .int p2, .int p3] : List Value).toArray s 0 0 (va_A (kX12 T h a u) s.heap.size)) (F0 m 49 ls []) := by
    intro v x1 x2 x3 H locs ls hf hP hD hS hl
    unfold fX12_party_J49 at hf
    refine lv_iload_n hx hb dX12_party_49 rfl (lv_at hl 1 rfl) ?_
    refine lv_aload_n hx hb dX12_party_50 rfl (lv_at hl 0 rfl) ?_
    obtain ⟨z15, hz15, hf⟩ := bnd hf
    refine cVR (As := []) (rest := [.int x1]) ⟨hx, hb, hml, hown, hts⟩ (mX12_hereSet l D T h a v z15 hz15) (cwV 0 hts gX12_party_X12_hereSet rfl rfl rfl (by decide +kernel) ⟨Nat.le_of_ble_eq_true rfl, Nat.le_of_ble_eq_true rfl⟩) (va_recv hK.1 hP (ci := 12) (q0 := 0) rfl rfl) hP hK rfl hl.1 rfl (Nat.le_of_ble_eq_true rfl) dX12_party_51 ⟨Nat.le_of_ble_eq_true rfl, Nat.le_of_ble_eq_true rfl⟩ hP hS (fun H locs hP hS => ?_)
    refine lv_iconst (v := (-1)) hx hb dX12_party_54 (by decide) ?_
    refine lv_ixor hx hb dX12_party_55 ?_
    refine lv_iand hx hb dX12_party_56 ?_
    refine lv_if_eq (tgt := 63) hx hb dX12_party_57 (by decide) (fun c16 => ?_) (fun c16 => ?_)
    · replace hf := ifp c16 hf
      refine lv_aload_n hx hb dX12_party_63 rfl (lv_at hl 0 rfl) ?_
      refine lv_iconst (v := 0) hx hb dX12_party_64 (by decide) ?_
      obtain ⟨u17, eu17, hf⟩ := lett_e hf
      refine va_put (D := D) (ci := 12) (v := .int 0) (ty := .int) (C := RX12) (T := TX12) (N := 52) hx hb hts hinX12 tyX12 tyX12_ok nmX12 hown hK.1 hP hD hS 0 rfl rfl 45 (by decide) (hts (.fieldLink RX12 317 "RopeScaleModel" "partyMany" "I") (List.mem_of_getElem? (i := 2) rfl)) (fun _ h9 => h9) rfl (tyX12_ok 45 (by decide)) rfl rfl (Nat.le_of_ble_eq_true rfl) dX12_party_65 (fun H locs hP hD hS => ?_)
      have hP : va_P D vwCl (kX12 T h a u17) H := by rw [eu17]; exact hP
      have hD : va_D (va_A (kX12 T h a u) s.heap.size) (kX12 T h a u17) := by rw [eu17]; exact hD
      refine lv_iconst (v := 0) hx hb dX12_party_68 (by decide) ?_
      refine lv_istore (lv' := [(4, .int 0), (0, .ref h), (1, .int x1), (2, .int x2), (3, .int x3)]) hx hb dX12_party_69 hl (by decide) rfl (fun ls hl => ?_)
      exact L71 FU u17 x1 x2 x3 0 _ _ _ hf hP hD hS (lv_sub hl [1, 2, 3, 4, 0] rfl)
    replace hf := ifn c16 hf
    refine lv_bipush (v := (-2)) hx hb dX12_party_60 (by decide) ?_
    have e9 := Option.some.inj hf
    exact retM hx hb hr hlocks hP hD hS (congrArg (fun z => z.1) e9) (congrArg (fun z => (kX12 T h a z.2 : va_W)) e9) dX12_party_62
  unfold fX12_party at hf
  refine lv_iload_n hx hb dX12_party_0 rfl (lv_at hl 1 rfl) ?_
  refine lv_iconst (v := 1) hx hb dX12_party_1 (by decide) ?_
  refine lv_ldcw (v := 65535) hx hb hown (hts (.constant RX12 326 (65535)) (List.mem_of_getElem? (i := 1) rfl)) dX12_party_2 ?_
  obtain ⟨z18, hz18, hf⟩ := lett_e hf
  refine cSR (As := [.int p1, .int 1, .int 65535]) (rest := []) ⟨hx, hb, hml, hown, hts⟩ (mX12_in l D T p1 1 65535 z18 hz18.symm) (va_cwS 3 hts gX12_party_X12_in rfl rfl rfl (by decide +kernel) ⟨Nat.le_of_ble_eq_true rfl, Nat.le_of_ble_eq_true rfl⟩) P0 hK rfl hl.1 rfl (Nat.le_of_ble_eq_true rfl) dX12_party_5 ⟨Nat.le_of_ble_eq_true rfl, Nat.le_of_ble_eq_true rfl⟩ hP hS (fun H locs hP hS => ?_)
  refine lv_if_eq (tgt := 47) hx hb dX12_party_8 (by decide) (fun c19 => ?_) (fun c19 => ?_)
  · replace hf := ifp c19 hf
    refine lv_iconst (v := (-1)) hx hb dX12_party_47 (by decide) ?_
    have e9 := Option.some.inj hf
    exact retM hx hb hr hlocks hP hD hS (congrArg (fun z => z.1) e9) (congrArg (fun z => (kX12 T h a z.2 : va_W)) e9) dX12_party_48
  replace hf := ifn c19 hf
  refine lv_iload_n hx hb dX12_party_11 rfl (lv_at hl 1 rfl) ?_
  obtain ⟨z20, hz20, hf⟩ := bnd hf
  refine cSR (As := [.int p1]) (rest := []) ⟨hx, hb, hml, hown, hts⟩ (mX12_bits l D T p1 z20 hz20) (va_cwS 1 hts gX12_party_X12_bits rfl rfl rfl (by decide +kernel) ⟨Nat.le_of_ble_eq_true rfl, Nat.le_of_ble_eq_true rfl⟩) P0 hK rfl hl.1 rfl (Nat.le_of_ble_eq_true rfl) dX12_party_12 ⟨Nat.le_of_ble_eq_true rfl, Nat.le_of_ble_eq_true rfl⟩ hP hS (fun H locs hP hS => ?_)
  refine lv_bipush (v := 8) hx hb dX12_party_15 (by decide) ?_
  refine lv_icmp_gt (tgt := 47) hx hb dX12_party_17 (by decide) (fun c21 => ?_) (fun c21 => ?_)
  · replace hf := ifp c21 hf
    refine lv_iconst (v := (-1)) hx hb dX12_party_47 (by decide) ?_
    have e9 := Option.some.inj hf
    exact retM hx hb hr hlocks hP hD hS (congrArg (fun z => z.1) e9) (congrArg (fun z => (kX12 T h a z.2 : va_W)) e9) dX12_party_48
  replace hf := ifn c21 hf
  refine lv_iload_n hx hb dX12_party_20 rfl (lv_at hl 2 rfl) ?_
  refine lv_iconst (v := 0) hx hb dX12_party_21 (by decide) ?_
  refine lv_sipush (v := 999) hx hb dX12_party_22 (by decide) ?_
  obtain ⟨z22, hz22, hf⟩ := lett_e hf
  refine cSR (As := [.int p2, .int 0, .int 999]) (rest := []) ⟨hx, hb, hml, hown, hts⟩ (mX12_in l D T p2 0 999 z22 hz22.symm) (va_cwS 3 hts gX12_party_X12_in rfl rfl rfl (by decide +kernel) ⟨Nat.le_of_ble_eq_true rfl, Nat.le_of_ble_eq_true rfl⟩) P0 hK rfl hl.1 rfl (Nat.le_of_ble_eq_true rfl) dX12_party_25 ⟨Nat.le_of_ble_eq_true rfl, Nat.le_of_ble_eq_true rfl⟩ hP hS (fun H locs hP hS => ?_)
  refine lv_if_eq (tgt := 47) hx hb dX12_party_28 (by decide) (fun c23 => ?_) (fun c23 => ?_)
  · replace hf := ifp c23 hf
    refine lv_iconst (v := (-1)) hx hb dX12_party_47 (by decide) ?_
    have e9 := Option.some.inj hf
    exact retM hx hb hr hlocks hP hD hS (congrArg (fun z => z.1) e9) (congrArg (fun z => (kX12 T h a z.2 : va_W)) e9) dX12_party_48
  replace hf := ifn c23 hf
  refine lv_iload_n hx hb dX12_party_31 rfl (lv_at hl 3 rfl) ?_
  refine lv_iconst (v := 0) hx hb dX12_party_32 (by decide) ?_
  refine lv_bipush (v := 7) hx hb dX12_party_33 (by decide) ?_
  obtain ⟨z24, hz24, hf⟩ := lett_e hf
  refine cSR (As := [.int p3, .int 0, .int 7]) (rest := []) ⟨hx, hb, hml, hown, hts⟩ (mX12_in l D T p3 0 7 z24 hz24.symm) (va_cwS 3 hts gX12_party_X12_in rfl rfl rfl (by decide +kernel) ⟨Nat.le_of_ble_eq_true rfl, Nat.le_of_ble_eq_true rfl⟩) P0 hK rfl hl.1 rfl (Nat.le_of_ble_eq_true rfl) dX12_party_35 ⟨Nat.le_of_ble_eq_true rfl, Nat.le_of_ble_eq_true rfl⟩ hP hS (fun H locs hP hS => ?_)
  refine lv_if_ne (tgt := 49) hx hb dX12_party_38 (by decide) (fun c25 => ?_) (fun c25 => ?_)
  · replace hf := ifn c25 hf
    exact J49 u p1 p2 p3 _ _ _ hf hP hD hS (lv_sub hl [0, 1, 2, 3] rfl)
  replace hf := ifp c25 hf
  refine lv_iload_n hx hb dX12_party_41 rfl (lv_at hl 3 rfl) ?_
  refine lv_bipush (v := 100) hx hb dX12_party_42 (by decide) ?_
  refine lv_icmp_eq (tgt := 49) hx hb dX12_party_44 (by decide) (fun c26 => ?_) (fun c26 => ?_)
  · replace hf := ifp c26 hf
    exact J49 u p1 p2 p3 _ _ _ hf hP hD hS (lv_sub hl [0, 1, 2, 3] rfl)
  replace hf := ifn c26 hf
  refine lv_iconst (v := (-1)) hx hb dX12_party_47 (by decide) ?_
  have e9 := Option.some.inj hf
  exact retM hx hb hr hlocks hP hD hS (congrArg (fun z => z.1) e9) (congrArg (fun z => (kX12 T h a z.2 : va_W)) e9) dX12_party_48
def fX12_apartBy_J38 (u : St) (lp5 : Int32 → Int32 → Int32 → Int32 → Option (Int32)) (x1 : Int32) (x2 : Int32) (x3 : Int32) (x4 : Int32) : Option (Int32) := gd x1 16 <| lett (fX12_has (u 31 (ix x1)) x4) fun z1 => if z1 = 0 then lett (x4 + 1) fun t3 => lp5 x1 x2 x3 t3 else gd (x2 + x4) 98 <| lett (x3 - (u 0 (ix (x2 + x4)))) fun t4 => lett (x4 + 1) fun t5 => lp5 x1 x2 t4 t5
def bX12_apartBy_L5 (u : St)  (lp5 : Int32 → Int32 → Int32 → Int32 → Option (Int32)) (x1 : Int32) (x2 : Int32) (x3 : Int32) (x4 : Int32) : Option (Int32) := if 16 ≤ x4 then some x3 else gd x1 16 <| lett (fX12_has (u 30 (ix x1)) x4) fun z9 => if z9 = 0 then fX12_apartBy_J38 u lp5 x1 x2 x3 x4 else gd (x2 + x4) 98 <| lett (x3 + (u 0 (ix (x2 + x4)))) fun t11 => fX12_apartBy_J38 u lp5 x1 x2 t11 x4
def fX12_apartBy_L5 (u : St)  : Nat → Int32 → Int32 → Int32 → Int32 → Option (Int32)
  | 0, _, _, _, _ => none
  | n + 1, x1, x2, x3, x4 => bX12_apartBy_L5 u (fX12_apartBy_L5 u n) x1 x2 x3 x4
def fX12_apartBy  (u : St) (p1 : Int32) (p2 : Int32) : Option (Int32) := fX12_apartBy_L5 u FU p1 p2 0 0
set_option maxHeartbeats 4000000 in
set_option maxRecDepth 100000 in
theorem mX12_apartBy (l : Launch) (D : va_G) (T : Ty3) (h : Nat) (a : Nat → Nat) (u : St) (p1 : Int32) (p2 : Int32) (res : Int32) (hf : fX12_apartBy u p1 p2 = some res) : Met l yX12_apartBy wsX12_apartBy ({ frames := 1, cells := 0, slots := 0, locals := 21 }) (PcR D T (kX12 T h a u) [.ref h, .int p1, .int p2]) (QR res) 0 0 noA := by
  refine Met.ofW (cc := cX12_apartBy) (maxL := 5) (ret := (some .int)) (by decide) rfl ?_
  intro p e s m args below meth c s₁ B hml hv
  obtain ⟨rfl, hP, hK⟩ := hv
  have hx := B.exec
  have hb := B.bytes
  have hr := B.returns
  have hts := atoms_spec (ws := wsX12_apartBy) B.pre
  have hown : s.vm.findClass RX12 = some m.cls := findClass_of_methodNamed B.named
  have hlocks := B.notSynchronized
  have hS : va_S noA s.heap s.heap [] := va_S.rf
  have hinX12 : ∀ w ∈ u_ws RX12 TX12 52, w ∈ wsX12_apartBy := fun w h => List.mem_cons_of_mem _ (List.mem_append_right _ h)
  have hl := lv_entry ([.ref h, .int p1, .int p2]) (n := 5) (Nat.le_of_ble_eq_true rfl)
  rw [lg_entry_eq]
  generalize (lg_sl ([.ref h, .int p1, .int p2]) ++ List.replicate (5 - (lg_sl ([.ref h, .int p1, .int p2])).length) Slot.unset).toArray = ls at hl ⊢
  have hl : lv_has ls 5 [(0, .ref h), (1, .int p1), (2, .int p2)] := hl
  have L5 : ∀ (n5 : Nat), ∀ (x1 : Int32) (x2 : Int32) (x3 : Int32) (x4 : Int32) (H : Heap) (locs : List Loc) (ls : Array Slot), fX12_apartBy_L5 u n5 x1 x2 x3 x4 = some res → va_P D vwCl (kX12 T h a u) H → va_S noA s.heap H locs → lv_has ls 5 [(0, .ref h), (1, .int x1), (2, .int x2), (3, .int x3), (4, .int x4)] → W p l e (headSpec wsX12_apartBy ({ frames := 1, cells := 0, slots := 0, locals := 21 })).room s m ([.ref h, .int p1, .int p2] : List Value).toArray below meth c H locs 0 0 (MQ below (QR res) ([.ref h, .int p1, .int p2] : List Value).toArray s 0 0 noA) (F0 m 5 ls []) := by
    intro n5
    induction n5 with
    | zero => intro x1 x2 x3 x4 H locs ls hf; exact nns hf
    | succ n5 ih5 =>
      have J38 : ∀ (x1 : Int32) (x2 : Int32) (x3 : Int32) (x4 : Int32) (H : Heap) (locs : List Loc) (ls : Array Slot), fX12_apartBy_J38 u (fX12_apartBy_L5 u n5) x1 x2 x3 x4 = some res → va_P D vwCl (kX12 T h a u) H → va_S noA s.heap H locs → lv_has ls 5 [(0, .ref h), (1, .int x1), (2, .int x2), (3, .int x3), (4, .int x4)] → W p l e (headSpec wsX12_apartBy ({ frames := 1, cells := 0, slots := 0, locals := 21 })).room s m ([.ref h, .int p1, .int p2] : List Value).toArray below meth c H locs 0 0 (MQ below (QR res) ([.ref h, .int p1, .int p2] : List Value).toArray s 0 0 noA) (F0 m 38 ls []) := by
        intro x1 x2 x3 x4 H locs ls hf hP hS hl
        unfold fX12_apartBy_J38 at hf
        refine lv_aload_n hx hb dX12_apartBy_38 rfl (lv_at hl 0 rfl) ?_
        refine va_get (D := D) (ci := 12) (v := .ref (a 31)) (C := RX12) (T := TX12) (N := 52) hx hb hts hinX12 hown hK.1 hP 0 rfl rfl 31 (by decide) (hts (.fieldLink RX12 65 "RopeScaleModel" "rightOf" "[I") (List.mem_of_getElem? (i := 3) rfl)) (fun _ h9 => h9) rfl dX12_apartBy_39 ?_
        refine lv_iload_n hx hb dX12_apartBy_42 rfl (lv_at hl 1 rfl) ?_
        obtain ⟨h7, hf⟩ := gd_e hf
        refine va_iald hx hb hK.1 hP 19 0 rfl rfl h7 dX12_apartBy_43 ?_
        refine lv_iload hx hb dX12_apartBy_44 (lv_at hl 4 rfl) ?_
        obtain ⟨z1, hz1, hf⟩ := lett_e hf
        refine cSR (As := [.int (u 31 (ix x1)), .int x4]) (rest := []) ⟨hx, hb, hml, hown, hts⟩ (mX12_has l D T (u 31 (ix x1)) x4 z1 hz1.symm) (va_cwS 2 hts gX12_apartBy_X12_has rfl rfl rfl (by decide +kernel) ⟨Nat.le_of_ble_eq_true rfl, Nat.le_of_ble_eq_true rfl⟩) P0 hK rfl hl.1 rfl (Nat.le_of_ble_eq_true rfl) dX12_apartBy_46 ⟨Nat.le_of_ble_eq_true rfl, Nat.le_of_ble_eq_true rfl⟩ hP hS (fun H locs hP hS => ?_)
        refine lv_if_eq (tgt := 64) hx hb dX12_apartBy_49 (by decide) (fun c2 => ?_) (fun c2 => ?_)
        · replace hf := ifp c2 hf
          obtain ⟨t3, et3, hf⟩ := lett_e hf
          refine lv_iinc (v := t3) (lv' := [(4, .int t3), (0, .ref h), (1, .int x1), (2, .int x2), (3, .int x3)]) hx hb dX12_apartBy_64 hl (k := 4) rfl (by rw [et3]; rfl) (by decide) rfl (fun ls hl => ?_)
          refine lv_goto (tgt := 5) hx hb dX12_apartBy_67 (by decide) ?_
          exact ih5 x1 x2 x3 t3 _ _ _ hf hP hS (lv_sub hl [1, 2, 3, 4, 0] rfl)
        replace hf := ifn c2 hf
        refine lv_iload_n hx hb dX12_apartBy_52 rfl (lv_at hl 3 rfl) ?_
        refine lv_aload_n hx hb dX12_apartBy_53 rfl (lv_at hl 0 rfl) ?_
        refine va_get (D := D) (ci := 12) (v := .ref (a 0)) (C := RX12) (T := TX12) (N := 52) hx hb hts hinX12 hown hK.1 hP 0 rfl rfl 0 (by decide) (hts (.fieldLink RX12 7 "RopeScaleModel" "now" "[I") (List.mem_of_getElem? (i := 2) rfl)) (fun _ h9 => h9) rfl dX12_apartBy_54 ?_
        refine lv_iload_n hx hb dX12_apartBy_57 rfl (lv_at hl 2 rfl) ?_
        refine lv_iload hx hb dX12_apartBy_58 (lv_at hl 4 rfl) ?_
        refine lv_iadd hx hb dX12_apartBy_60 ?_
        obtain ⟨h6, hf⟩ := gd_e hf
        refine va_iald hx hb hK.1 hP 1 0 rfl rfl h6 dX12_apartBy_61 ?_
        refine lv_isub hx hb dX12_apartBy_62 ?_
        obtain ⟨t4, et4, hf⟩ := lett_e hf
        refine lv_eqi et4 ?_
        refine lv_istore_n (lv' := [(3, .int t4), (0, .ref h), (1, .int x1), (2, .int x2), (4, .int x4)]) hx hb dX12_apartBy_63 rfl hl (by decide) rfl (fun ls hl => ?_)
        obtain ⟨t5, et5, hf⟩ := lett_e hf
        refine lv_iinc (v := t5) (lv' := [(4, .int t5), (3, .int t4), (0, .ref h), (1, .int x1), (2, .int x2)]) hx hb dX12_apartBy_64 hl (k := 4) rfl (by rw [et5]; rfl) (by decide) rfl (fun ls hl => ?_)
        refine lv_goto (tgt := 5) hx hb dX12_apartBy_67 (by decide) ?_
        exact ih5 x1 x2 t4 t5 _ _ _ hf hP hS (lv_sub hl [2, 3, 4, 1, 0] rfl)
      intro x1 x2 x3 x4 H locs ls hf hP hS hl
      replace hf : bX12_apartBy_L5 u (fX12_apartBy_L5 u n5) x1 x2 x3 x4 = some res := hf
      unfold bX12_apartBy_L5 at hf
      refine lv_iload hx hb dX12_apartBy_5 (lv_at hl 4 rfl) ?_
      refine lv_bipush (v := 16) hx hb dX12_apartBy_7 (by decide) ?_
      refine lv_icmp_ge (tgt := 70) hx hb dX12_apartBy_9 (by decide) (fun c8 => ?_) (fun c8 => ?_)
      · replace hf := ifp c8 hf
        refine lv_iload_n hx hb dX12_apartBy_70 rfl (lv_at hl 3 rfl) ?_
        exact retR hx hb hr hlocks hS (Option.some.inj hf) dX12_apartBy_71
      replace hf := ifn c8 hf
      refine lv_aload_n hx hb dX12_apartBy_12 rfl (lv_at hl 0 rfl) ?_
      refine va_get (D := D) (ci := 12) (v := .ref (a 30)) (C := RX12) (T := TX12) (N := 52) hx hb hts hinX12 hown hK.1 hP 0 rfl rfl 30 (by decide) (hts (.fieldLink RX12 62 "RopeScaleModel" "leftOf" "[I") (List.mem_of_getElem? (i := 1) rfl)) (fun _ h9 => h9) rfl dX12_apartBy_13 ?_
      refine lv_iload_n hx hb dX12_apartBy_16 rfl (lv_at hl 1 rfl) ?_
      obtain ⟨h13, hf⟩ := gd_e hf
      refine va_iald hx hb hK.1 hP 18 0 rfl rfl h13 dX12_apartBy_17 ?_
      refine lv_iload hx hb dX12_apartBy_18 (lv_at hl 4 rfl) ?_
      obtain ⟨z9, hz9, hf⟩ := lett_e hf
      refine cSR (As := [.int (u 30 (ix x1)), .int x4]) (rest := []) ⟨hx, hb, hml, hown, hts⟩ (mX12_has l D T (u 30 (ix x1)) x4 z9 hz9.symm) (va_cwS 2 hts gX12_apartBy_X12_has rfl rfl rfl (by decide +kernel) ⟨Nat.le_of_ble_eq_true rfl, Nat.le_of_ble_eq_true rfl⟩) P0 hK rfl hl.1 rfl (Nat.le_of_ble_eq_true rfl) dX12_apartBy_20 ⟨Nat.le_of_ble_eq_true rfl, Nat.le_of_ble_eq_true rfl⟩ hP hS (fun H locs hP hS => ?_)
      refine lv_if_eq (tgt := 38) hx hb dX12_apartBy_23 (by decide) (fun c10 => ?_) (fun c10 => ?_)
      · replace hf := ifp c10 hf
        exact J38 x1 x2 x3 x4 _ _ _ hf hP hS (lv_sub hl [0, 1, 2, 3, 4] rfl)
      replace hf := ifn c10 hf
      refine lv_iload_n hx hb dX12_apartBy_26 rfl (lv_at hl 3 rfl) ?_
      refine lv_aload_n hx hb dX12_apartBy_27 rfl (lv_at hl 0 rfl) ?_
      refine va_get (D := D) (ci := 12) (v := .ref (a 0)) (C := RX12) (T := TX12) (N := 52) hx hb hts hinX12 hown hK.1 hP 0 rfl rfl 0 (by decide) (hts (.fieldLink RX12 7 "RopeScaleModel" "now" "[I") (List.mem_of_getElem? (i := 2) rfl)) (fun _ h9 => h9) rfl dX12_apartBy_28 ?_
      refine lv_iload_n hx hb dX12_apartBy_31 rfl (lv_at hl 2 rfl) ?_
      refine lv_iload hx hb dX12_apartBy_32 (lv_at hl 4 rfl) ?_
      refine lv_iadd hx hb dX12_apartBy_34 ?_
      obtain ⟨h12, hf⟩ := gd_e hf
      refine va_iald hx hb hK.1 hP 1 0 rfl rfl h12 dX12_apartBy_35 ?_
      refine lv_iadd hx hb dX12_apartBy_36 ?_
      obtain ⟨t11, et11, hf⟩ := lett_e hf
      refine lv_eqi et11 ?_
      refine lv_istore_n (lv' := [(3, .int t11), (0, .ref h), (1, .int x1), (2, .int x2), (4, .int x4)]) hx hb dX12_apartBy_37 rfl hl (by decide) rfl (fun ls hl => ?_)
      exact J38 x1 x2 t11 x4 _ _ _ hf hP hS (lv_sub hl [1, 2, 3, 0, 4] rfl)
  unfold fX12_apartBy at hf
  refine lv_iconst (v := 0) hx hb dX12_apartBy_0 (by decide) ?_
  refine lv_istore_n (lv' := [(3, .int 0), (0, .ref h), (1, .int p1), (2, .int p2)]) hx hb dX12_apartBy_1 rfl hl (by decide) rfl (fun ls hl => ?_)
  refine lv_iconst (v := 0) hx hb dX12_apartBy_2 (by decide) ?_
  refine lv_istore (lv' := [(4, .int 0), (3, .int 0), (0, .ref h), (1, .int p1), (2, .int p2)]) hx hb dX12_apartBy_3 hl (by decide) rfl (fun ls hl => ?_)
  exact L5 FU p1 p2 0 0 _ _ _ hf hP hS (lv_sub hl [2, 3, 4, 1, 0] rfl)
def fX12_isSo  (u : St) (p1 : Int32) (p2 : Int32) : Option (Int32) := (fX12_apartBy u p1 p2).bind fun z1 => gd p1 16 <| if (u 32 (ix p1)) = 60 then if 0 ≤ z1 then some 0 else some 1 else gd p1 16 <| if (u 32 (ix p1)) = 62 then if z1 ≤ 0 then some 0 else some 1 else if z1 = 0 then some 1 else some 0
set_option maxHeartbeats 4000000 in
set_option maxRecDepth 100000 in
theorem mX12_isSo (l : Launch) (D : va_G) (T : Ty3) (h : Nat) (a : Nat → Nat) (u : St) (p1 : Int32) (p2 : Int32) (res : Int32) (hf : fX12_isSo u p1 p2 = some res) : Met l yX12_isSo wsX12_isSo ({ frames := 2, cells := 0, slots := 0, locals := 45 }) (PcR D T (kX12 T h a u) [.ref h, .int p1, .int p2]) (QR res) 0 0 noA := by
  refine Met.ofW (cc := cX12_isSo) (maxL := 4) (ret := (some .boolean)) (by decide) rfl ?_
  intro p e s m args below meth c s₁ B hml hv
  obtain ⟨rfl, hP, hK⟩ := hv
  have hx := B.exec
  have hb := B.bytes
  have hr := B.returns
  have hts := atoms_spec (ws := wsX12_isSo) B.pre
  have hown : s.vm.findClass RX12 = some m.cls := findClass_of_methodNamed B.named
  have hlocks := B.notSynchronized
  have hS : va_S noA s.heap s.heap [] := va_S.rf
  have hinX12 : ∀ w ∈ u_ws RX12 TX12 52, w ∈ wsX12_isSo := fun w h => List.mem_cons_of_mem _ (List.mem_append_right _ h)
  have hl := lv_entry ([.ref h, .int p1, .int p2]) (n := 4) (Nat.le_of_ble_eq_true rfl)
  rw [lg_entry_eq]
  generalize (lg_sl ([.ref h, .int p1, .int p2]) ++ List.replicate (4 - (lg_sl ([.ref h, .int p1, .int p2])).length) Slot.unset).toArray = ls at hl ⊢
  have hl : lv_has ls 4 [(0, .ref h), (1, .int p1), (2, .int p2)] := hl
  unfold fX12_isSo at hf
  refine lv_aload_n hx hb dX12_isSo_0 rfl (lv_at hl 0 rfl) ?_
  refine lv_iload_n hx hb dX12_isSo_1 rfl (lv_at hl 1 rfl) ?_
  refine lv_iload_n hx hb dX12_isSo_2 rfl (lv_at hl 2 rfl) ?_
  obtain ⟨z1, hz1, hf⟩ := bnd hf
  refine cVR (As := [.int p1, .int p2]) (rest := []) ⟨hx, hb, hml, hown, hts⟩ (mX12_apartBy l D T h a u p1 p2 z1 hz1) (cwV 2 hts gX12_isSo_X12_apartBy rfl rfl rfl (by decide +kernel) ⟨Nat.le_of_ble_eq_true rfl, Nat.le_of_ble_eq_true rfl⟩) (va_recv hK.1 hP (ci := 12) (q0 := 0) rfl rfl) hP hK rfl hl.1 rfl (Nat.le_of_ble_eq_true rfl) dX12_isSo_3 ⟨Nat.le_of_ble_eq_true rfl, Nat.le_of_ble_eq_true rfl⟩ hP hS (fun H locs hP hS => ?_)
  refine lv_istore_n (lv' := [(3, .int z1), (0, .ref h), (1, .int p1), (2, .int p2)]) hx hb dX12_isSo_6 rfl hl (by decide) rfl (fun ls hl => ?_)
  refine lv_aload_n hx hb dX12_isSo_7 rfl (lv_at hl 1 rfl) ?_
  refine va_get (D := D) (ci := 12) (v := .ref (a 32)) (C := RX12) (T := TX12) (N := 52) hx hb hts hinX12 hown hK.1 hP 0 rfl rfl 32 (by decide) (hts (.fieldLink RX12 68 "RopeScaleModel" "signOf" "[I") (List.mem_of_getElem? (i := 1) rfl)) (fun _ h9 => h9) rfl dX12_isSo_8 ?_
  refine lv_iload_n hx hb dX12_isSo_11 rfl (lv_at hl 2 rfl) ?_
  obtain ⟨h8, hf⟩ := gd_e hf
  refine va_iald hx hb hK.1 hP 20 0 rfl rfl h8 dX12_isSo_12 ?_
  refine lv_bipush (v := 60) hx hb dX12_isSo_13 (by decide) ?_
  refine lv_icmp_ne (tgt := 30) hx hb dX12_isSo_15 (by decide) (fun c2 => ?_) (fun c2 => ?_)
  · replace hf := ifn c2 hf
    refine lv_aload_n hx hb dX12_isSo_30 rfl (lv_at hl 1 rfl) ?_
    refine va_get (D := D) (ci := 12) (v := .ref (a 32)) (C := RX12) (T := TX12) (N := 52) hx hb hts hinX12 hown hK.1 hP 0 rfl rfl 32 (by decide) (hts (.fieldLink RX12 68 "RopeScaleModel" "signOf" "[I") (List.mem_of_getElem? (i := 1) rfl)) (fun _ h9 => h9) rfl dX12_isSo_31 ?_
    refine lv_iload_n hx hb dX12_isSo_34 rfl (lv_at hl 2 rfl) ?_
    obtain ⟨h6, hf⟩ := gd_e hf
    refine va_iald hx hb hK.1 hP 20 0 rfl rfl h6 dX12_isSo_35 ?_
    refine lv_bipush (v := 62) hx hb dX12_isSo_36 (by decide) ?_
    refine lv_icmp_ne (tgt := 53) hx hb dX12_isSo_38 (by decide) (fun c3 => ?_) (fun c3 => ?_)
    · replace hf := ifn c3 hf
      refine lv_iload_n hx hb dX12_isSo_53 rfl (lv_at hl 0 rfl) ?_
      refine lv_if_ne (tgt := 61) hx hb dX12_isSo_54 (by decide) (fun c4 => ?_) (fun c4 => ?_)
      · replace hf := ifn c4 hf
        refine lv_iconst (v := 0) hx hb dX12_isSo_61 (by decide) ?_
        exact retRz hx hb hr hlocks hS rfl (Option.some.inj hf) dX12_isSo_62
      replace hf := ifp c4 hf
      refine lv_iconst (v := 1) hx hb dX12_isSo_57 (by decide) ?_
      refine lv_goto (tgt := 62) hx hb dX12_isSo_58 (by decide) ?_
      exact retRz hx hb hr hlocks hS rfl (Option.some.inj hf) dX12_isSo_62
    replace hf := ifp c3 hf
    refine lv_iload_n hx hb dX12_isSo_41 rfl (lv_at hl 0 rfl) ?_
    refine lv_if_le (tgt := 49) hx hb dX12_isSo_42 (by decide) (fun c5 => ?_) (fun c5 => ?_)
    · replace hf := ifp c5 hf
      refine lv_iconst (v := 0) hx hb dX12_isSo_49 (by decide) ?_
      refine lv_goto (tgt := 62) hx hb dX12_isSo_50 (by decide) ?_
      exact retRz hx hb hr hlocks hS rfl (Option.some.inj hf) dX12_isSo_62
    replace hf := ifn c5 hf
    refine lv_iconst (v := 1) hx hb dX12_isSo_45 (by decide) ?_
    refine lv_goto (tgt := 62) hx hb dX12_isSo_46 (by decide) ?_
    exact retRz hx hb hr hlocks hS rfl (Option.some.inj hf) dX12_isSo_62
  replace hf := ifp c2 hf
  refine lv_iload_n hx hb dX12_isSo_18 rfl (lv_at hl 0 rfl) ?_
  refine lv_if_ge (tgt := 26) hx hb dX12_isSo_19 (by decide) (fun c7 => ?_) (fun c7 => ?_)
  · replace hf := ifp c7 hf
    refine lv_iconst (v := 0) hx hb dX12_isSo_26 (by decide) ?_
    refine lv_goto (tgt := 62) hx hb dX12_isSo_27 (by decide) ?_
    exact retRz hx hb hr hlocks hS rfl (Option.some.inj hf) dX12_isSo_62
  replace hf := ifn c7 hf
  refine lv_iconst (v := 1) hx hb dX12_isSo_22 (by decide) ?_
  refine lv_goto (tgt := 62) hx hb dX12_isSo_23 (by decide) ?_
  exact retRz hx hb hr hlocks hS rfl (Option.some.inj hf) dX12_isSo_62
def bX12_areTrue_L39 (u : St)  (lp39 : Int32 → Int32 → Int32 → Int32 → Int32 → Option (Int32)) (x1 : Int32) (x2 : Int32) (x3 : Int32) (x4 : Int32) (x5 : Int32) : Option (Int32) := if x5 < 0 then if 2 ≤ x1 then some x4 else some x3 else gd x5 16 <| gd x5 16 <| (fX12_toldSet u).bind fun z3 => if (((u 30 (ix x5)) ||| (u 31 (ix x5))) &&& (z3 ^^^ (-1))) = 0 then (fX12_isSo u x5 x2).bind fun z5 => if z5 = 0 then lett (x5 + (-1)) fun t7 => lp39 x1 x2 x3 x5 t7 else lett (x3 + 1) fun t8 => lett (x5 + (-1)) fun t9 => lp39 x1 x2 t8 x4 t9 else lett (x5 + (-1)) fun t10 => lp39 x1 x2 x3 x4 t10
def fX12_areTrue_L39 (u : St)  : Nat → Int32 → Int32 → Int32 → Int32 → Int32 → Option (Int32)
  | 0, _, _, _, _, _ => none
  | n + 1, x1, x2, x3, x4, x5 => bX12_areTrue_L39 u (fX12_areTrue_L39 u n) x1 x2 x3 x4 x5
def fX12_areTrue_J24 (u : St)  (x1 : Int32) (y0 : Int32) : Option (Int32) := lett ((u 36 0) - 1) fun t13 => fX12_areTrue_L39 u FU x1 y0 0 (-2) t13
def fX12_areTrue  (u : St) (p1 : Int32) : Option (Int32) := lett (fX12_in p1 0 3) fun z14 => if z14 = 0 then some (-1) else if (jrem p1 2) = 0 then fX12_areTrue_J24 u p1 16 else fX12_areTrue_J24 u p1 32
set_option maxHeartbeats 4000000 in
set_option maxRecDepth 100000 in
theorem mX12_areTrue (l : Launch) (D : va_G) (T : Ty3) (h : Nat) (a : Nat → Nat) (u : St) (p1 : Int32) (res : Int32) (hf : fX12_areTrue u p1 = some res) : Met l yX12_areTrue wsX12_areTrue ({ frames := 3, cells := 0, slots := 0, locals := 68 }) (PcR D T (kX12 T h a u) [.ref h, .int p1]) (QR res) 0 0 noA := by
  refine Met.ofW (cc := cX12_areTrue) (maxL := 6) (ret := (some .int)) (by decide) rfl ?_
  intro p e s m args below meth c s₁ B hml hv
  obtain ⟨rfl, hP, hK⟩ := hv
  have hx := B.exec
  have hb := B.bytes
  have hr := B.returns
  have hts := atoms_spec (ws := wsX12_areTrue) B.pre
  have hown : s.vm.findClass RX12 = some m.cls := findClass_of_methodNamed B.named
  have hlocks := B.notSynchronized
  have hS : va_S noA s.heap s.heap [] := va_S.rf
  have hinX12 : ∀ w ∈ u_ws RX12 TX12 52, w ∈ wsX12_areTrue := fun w h => List.mem_cons_of_mem _ (List.mem_append_right _ h)
  have hl := lv_entry ([.ref h, .int p1]) (n := 6) (Nat.le_of_ble_eq_true rfl)
  rw [lg_entry_eq]
  generalize (lg_sl ([.ref h, .int p1]) ++ List.replicate (6 - (lg_sl ([.ref h, .int p1])).length) Slot.unset).toArray = ls at hl ⊢
  have hl : lv_has ls 6 [(0, .ref h), (1, .int p1)] := hl
  have L39 : ∀ (n39 : Nat), ∀ (x1 : Int32) (x2 : Int32) (x3 : Int32) (x4 : Int32) (x5 : Int32) (H : Heap) (locs : List Loc) (ls : Array Slot), fX12_areTrue_L39 u n39 x1 x2 x3 x4 x5 = some res → va_P D vwCl (kX12 T h a u) H → va_S noA s.heap H locs → lv_has ls 6 [(0, .ref h), (1, .int x1), (2, .int x2), (3, .int x3), (4, .int x4), (5, .int x5)] → W p l e (headSpec wsX12_areTrue ({ frames := 3, cells := 0, slots := 0, locals := 68 })).room s m ([.ref h, .int p1] : List Value).toArray below meth c H locs 0 0 (MQ below (QR res) ([.ref h, .int p1] : List Value).toArray s 0 0 noA) (F0 m 39 ls []) := by
    intro n39
    induction n39 with
    | zero => intro x1 x2 x3 x4 x5 H locs ls hf; exact nns hf
    | succ n39 ih39 =>
      intro x1 x2 x3 x4 x5 H locs ls hf hP hS hl
      replace hf : bX12_areTrue_L39 u (fX12_areTrue_L39 u n39) x1 x2 x3 x4 x5 = some res := hf
      unfold bX12_areTrue_L39 at hf
      refine lv_iload hx hb dX12_areTrue_39 (lv_at hl 5 rfl) ?_
      refine lv_if_lt (tgt := 99) hx hb dX12_areTrue_41 (by decide) (fun c1 => ?_) (fun c1 => ?_)
      · replace hf := ifp c1 hf
        refine lv_iload_n hx hb dX12_areTrue_99 rfl (lv_at hl 1 rfl) ?_
        refine lv_iconst (v := 2) hx hb dX12_areTrue_100 (by decide) ?_
        refine lv_icmp_ge (tgt := 108) hx hb dX12_areTrue_101 (by decide) (fun c2 => ?_) (fun c2 => ?_)
        · replace hf := ifp c2 hf
          refine lv_iload hx hb dX12_areTrue_108 (lv_at hl 4 rfl) ?_
          exact retR hx hb hr hlocks hS (Option.some.inj hf) dX12_areTrue_110
        replace hf := ifn c2 hf
        refine lv_iload_n hx hb dX12_areTrue_104 rfl (lv_at hl 3 rfl) ?_
        refine lv_goto (tgt := 110) hx hb dX12_areTrue_105 (by decide) ?_
        exact retR hx hb hr hlocks hS (Option.some.inj hf) dX12_areTrue_110
      replace hf := ifn c1 hf
      refine lv_aload_n hx hb dX12_areTrue_44 rfl (lv_at hl 0 rfl) ?_
      refine va_get (D := D) (ci := 12) (v := .ref (a 30)) (C := RX12) (T := TX12) (N := 52) hx hb hts hinX12 hown hK.1 hP 0 rfl rfl 30 (by decide) (hts (.fieldLink RX12 62 "RopeScaleModel" "leftOf" "[I") (List.mem_of_getElem? (i := 2) rfl)) (fun _ h9 => h9) rfl dX12_areTrue_45 ?_
      refine lv_iload hx hb dX12_areTrue_48 (lv_at hl 5 rfl) ?_
      obtain ⟨h12, hf⟩ := gd_e hf
      refine va_iald hx hb hK.1 hP 18 0 rfl rfl h12 dX12_areTrue_50 ?_
      refine lv_aload_n hx hb dX12_areTrue_51 rfl (lv_at hl 0 rfl) ?_
      refine va_get (D := D) (ci := 12) (v := .ref (a 31)) (C := RX12) (T := TX12) (N := 52) hx hb hts hinX12 hown hK.1 hP 0 rfl rfl 31 (by decide) (hts (.fieldLink RX12 65 "RopeScaleModel" "rightOf" "[I") (List.mem_of_getElem? (i := 3) rfl)) (fun _ h9 => h9) rfl dX12_areTrue_52 ?_
      refine lv_iload hx hb dX12_areTrue_55 (lv_at hl 5 rfl) ?_
      obtain ⟨h11, hf⟩ := gd_e hf
      refine va_iald hx hb hK.1 hP 19 0 rfl rfl h11 dX12_areTrue_57 ?_
      refine lv_ior hx hb dX12_areTrue_58 ?_
      refine lv_aload_n hx hb dX12_areTrue_59 rfl (lv_at hl 0 rfl) ?_
      obtain ⟨z3, hz3, hf⟩ := bnd hf
      refine cVR (As := []) (rest := [.int ((u 30 (ix x5)) ||| (u 31 (ix x5)))]) ⟨hx, hb, hml, hown, hts⟩ (mX12_toldSet l D T h a u z3 hz3) (cwV 0 hts gX12_areTrue_X12_toldSet rfl rfl rfl (by decide +kernel) ⟨Nat.le_of_ble_eq_true rfl, Nat.le_of_ble_eq_true rfl⟩) (va_recv hK.1 hP (ci := 12) (q0 := 0) rfl rfl) hP hK rfl hl.1 rfl (Nat.le_of_ble_eq_true rfl) dX12_areTrue_60 ⟨Nat.le_of_ble_eq_true rfl, Nat.le_of_ble_eq_true rfl⟩ hP hS (fun H locs hP hS => ?_)
      refine lv_iconst (v := (-1)) hx hb dX12_areTrue_63 (by decide) ?_
      refine lv_ixor hx hb dX12_areTrue_64 ?_
      refine lv_iand hx hb dX12_areTrue_65 ?_
      refine lv_if_eq (tgt := 72) hx hb dX12_areTrue_66 (by decide) (fun c4 => ?_) (fun c4 => ?_)
      · replace hf := ifp c4 hf
        refine lv_aload_n hx hb dX12_areTrue_72 rfl (lv_at hl 0 rfl) ?_
        refine lv_iload hx hb dX12_areTrue_73 (lv_at hl 5 rfl) ?_
        refine lv_iload_n hx hb dX12_areTrue_75 rfl (lv_at hl 2 rfl) ?_
        obtain ⟨z5, hz5, hf⟩ := bnd hf
        refine cVR (As := [.int x5, .int x2]) (rest := []) ⟨hx, hb, hml, hown, hts⟩ (mX12_isSo l D T h a u x5 x2 z5 hz5) (cwV 2 hts gX12_areTrue_X12_isSo rfl rfl rfl (by decide +kernel) ⟨Nat.le_of_ble_eq_true rfl, Nat.le_of_ble_eq_true rfl⟩) (va_recv hK.1 hP (ci := 12) (q0 := 0) rfl rfl) hP hK rfl hl.1 rfl (Nat.le_of_ble_eq_true rfl) dX12_areTrue_76 ⟨Nat.le_of_ble_eq_true rfl, Nat.le_of_ble_eq_true rfl⟩ hP hS (fun H locs hP hS => ?_)
        refine lv_if_eq (tgt := 89) hx hb dX12_areTrue_79 (by decide) (fun c6 => ?_) (fun c6 => ?_)
        · replace hf := ifp c6 hf
          refine lv_iload hx hb dX12_areTrue_89 (lv_at hl 5 rfl) ?_
          refine lv_istore (lv' := [(4, .int x5), (0, .ref h), (1, .int x1), (2, .int x2), (3, .int x3), (5, .int x5)]) hx hb dX12_areTrue_91 hl (by decide) rfl (fun ls hl => ?_)
          obtain ⟨t7, et7, hf⟩ := lett_e hf
          refine lv_iinc (v := t7) (lv' := [(5, .int t7), (4, .int x5), (0, .ref h), (1, .int x1), (2, .int x2), (3, .int x3)]) hx hb dX12_areTrue_93 hl (k := 5) rfl (by rw [et7]; rfl) (by decide) rfl (fun ls hl => ?_)
          refine lv_goto (tgt := 39) hx hb dX12_areTrue_96 (by decide) ?_
          exact ih39 x1 x2 x3 x5 t7 _ _ _ hf hP hS (lv_sub hl [2, 3, 4, 5, 1, 0] rfl)
        replace hf := ifn c6 hf
        refine lv_iload_n hx hb dX12_areTrue_82 rfl (lv_at hl 3 rfl) ?_
        refine lv_iconst (v := 1) hx hb dX12_areTrue_83 (by decide) ?_
        refine lv_iadd hx hb dX12_areTrue_84 ?_
        obtain ⟨t8, et8, hf⟩ := lett_e hf
        refine lv_eqi et8 ?_
        refine lv_istore_n (lv' := [(3, .int t8), (0, .ref h), (1, .int x1), (2, .int x2), (4, .int x4), (5, .int x5)]) hx hb dX12_areTrue_85 rfl hl (by decide) rfl (fun ls hl => ?_)
        refine lv_goto (tgt := 93) hx hb dX12_areTrue_86 (by decide) ?_
        obtain ⟨t9, et9, hf⟩ := lett_e hf
        refine lv_iinc (v := t9) (lv' := [(5, .int t9), (3, .int t8), (0, .ref h), (1, .int x1), (2, .int x2), (4, .int x4)]) hx hb dX12_areTrue_93 hl (k := 5) rfl (by rw [et9]; rfl) (by decide) rfl (fun ls hl => ?_)
        refine lv_goto (tgt := 39) hx hb dX12_areTrue_96 (by decide) ?_
        exact ih39 x1 x2 t8 x4 t9 _ _ _ hf hP hS (lv_sub hl [2, 3, 4, 1, 5, 0] rfl)
      replace hf := ifn c4 hf
      refine lv_goto (tgt := 93) hx hb dX12_areTrue_69 (by decide) ?_
      obtain ⟨t10, et10, hf⟩ := lett_e hf
      refine lv_iinc (v := t10) (lv' := [(5, .int t10), (0, .ref h), (1, .int x1), (2, .int x2), (3, .int x3), (4, .int x4)]) hx hb dX12_areTrue_93 hl (k := 5) rfl (by rw [et10]; rfl) (by decide) rfl (fun ls hl => ?_)
      refine lv_goto (tgt := 39) hx hb dX12_areTrue_96 (by decide) ?_
      exact ih39 x1 x2 x3 x4 t10 _ _ _ hf hP hS (lv_sub hl [1, 2, 3, 4, 5, 0] rfl)
  have J24 : ∀ (x1 : Int32) (y0 : Int32) (H : Heap) (locs : List Loc) (ls : Array Slot), fX12_areTrue_J24 u x1 y0 = some res → va_P D vwCl (kX12 T h a u) H → va_S noA s.heap H locs → lv_has ls 6 [(0, .ref h), (1, .int x1)] → W p l e (headSpec wsX12_areTrue ({ frames := 3, cells := 0, slots := 0, locals := 68 })).room s m ([.ref h, .int p1] : List Value).toArray below meth c H locs 0 0 (MQ below (QR res) ([.ref h, .int p1] : List Value).toArray s 0 0 noA) (F0 m 24 ls [.int y0]) := by
    intro x1 y0 H locs ls hf hP hS hl
    unfold fX12_areTrue_J24 at hf
    refine lv_istore_n (lv' := [(2, .int y0), (0, .ref h), (1, .int x1)]) hx hb dX12_areTrue_24 rfl hl (by decide) rfl (fun ls hl => ?_)
    refine lv_iconst (v := 0) hx hb dX12_areTrue_25 (by decide) ?_
    refine lv_istore_n (lv' := [(3, .int 0), (2, .int y0), (0, .ref h), (1, .int x1)]) hx hb dX12_areTrue_26 rfl hl (by decide) rfl (fun ls hl => ?_)
    refine lv_bipush (v := (-2)) hx hb dX12_areTrue_27 (by decide) ?_
    refine lv_istore (lv' := [(4, .int (-2)), (3, .int 0), (2, .int y0), (0, .ref h), (1, .int x1)]) hx hb dX12_areTrue_29 hl (by decide) rfl (fun ls hl => ?_)
    refine lv_aload_n hx hb dX12_areTrue_31 rfl (lv_at hl 3 rfl) ?_
    refine va_get (D := D) (ci := 12) (v := .int (u 36 0)) (C := RX12) (T := TX12) (N := 52) hx hb hts hinX12 hown hK.1 hP 0 rfl rfl 36 (by decide) (hts (.fieldLink RX12 274 "RopeScaleModel" "weighingMany" "I") (List.mem_of_getElem? (i := 1) rfl)) (fun _ h9 => h9) rfl dX12_areTrue_32 ?_
    refine lv_iconst (v := 1) hx hb dX12_areTrue_35 (by decide) ?_
    refine lv_isub hx hb dX12_areTrue_36 ?_
    obtain ⟨t13, et13, hf⟩ := lett_e hf
    refine lv_eqi et13 ?_
    refine lv_istore (lv' := [(5, .int t13), (4, .int (-2)), (3, .int 0), (2, .int y0), (0, .ref h), (1, .int x1)]) hx hb dX12_areTrue_37 hl (by decide) rfl (fun ls hl => ?_)
    exact L39 FU x1 y0 0 (-2) t13 _ _ _ hf hP hS (lv_sub hl [4, 5, 3, 2, 1, 0] rfl)
  unfold fX12_areTrue at hf
  refine lv_iload_n hx hb dX12_areTrue_0 rfl (lv_at hl 1 rfl) ?_
  refine lv_iconst (v := 0) hx hb dX12_areTrue_1 (by decide) ?_
  refine lv_iconst (v := 3) hx hb dX12_areTrue_2 (by decide) ?_
  obtain ⟨z14, hz14, hf⟩ := lett_e hf
  refine cSR (As := [.int p1, .int 0, .int 3]) (rest := []) ⟨hx, hb, hml, hown, hts⟩ (mX12_in l D T p1 0 3 z14 hz14.symm) (va_cwS 3 hts gX12_areTrue_X12_in rfl rfl rfl (by decide +kernel) ⟨Nat.le_of_ble_eq_true rfl, Nat.le_of_ble_eq_true rfl⟩) P0 hK rfl hl.1 rfl (Nat.le_of_ble_eq_true rfl) dX12_areTrue_3 ⟨Nat.le_of_ble_eq_true rfl, Nat.le_of_ble_eq_true rfl⟩ hP hS (fun H locs hP hS => ?_)
  refine lv_if_ne (tgt := 11) hx hb dX12_areTrue_6 (by decide) (fun c15 => ?_) (fun c15 => ?_)
  · replace hf := ifn c15 hf
    refine lv_iload_n hx hb dX12_areTrue_11 rfl (lv_at hl 1 rfl) ?_
    refine lv_iconst (v := 2) hx hb dX12_areTrue_12 (by decide) ?_
    refine lv_irem hx hb dX12_areTrue_13 (by decide) ?_
    refine lv_if_ne (tgt := 22) hx hb dX12_areTrue_14 (by decide) (fun c16 => ?_) (fun c16 => ?_)
    · replace hf := ifn c16 hf
      refine lv_bipush (v := 32) hx hb dX12_areTrue_22 (by decide) ?_
      exact J24 p1 32 _ _ _ hf hP hS (lv_sub hl [0, 1] rfl)
    replace hf := ifp c16 hf
    refine lv_bipush (v := 16) hx hb dX12_areTrue_17 (by decide) ?_
    refine lv_goto (tgt := 24) hx hb dX12_areTrue_19 (by decide) ?_
    exact J24 p1 16 _ _ _ hf hP hS (lv_sub hl [0, 1] rfl)
  replace hf := ifp c15 hf
  refine lv_iconst (v := (-1)) hx hb dX12_areTrue_9 (by decide) ?_
  exact retR hx hb hr hlocks hS (Option.some.inj hf) dX12_areTrue_10
def bX12_named_L4 (u : St)  (lp4 : Int32 → Int32 → Option (Int32)) (x1 : Int32) (x2 : Int32) : Option (Int32) := if (u 36 0) ≤ x2 then some x1 else gd x2 16 <| gd x2 16 <| lett ((x1 ||| (u 30 (ix x2))) ||| (u 31 (ix x2))) fun t2 => lett (x2 + 1) fun t3 => lp4 t2 t3
def fX12_named_L4 (u : St)  : Nat → Int32 → Int32 → Option (Int32)
  | 0, _, _ => none
  | n + 1, x1, x2 => bX12_named_L4 u (fX12_named_L4 u n) x1 x2
def fX12_named  (u : St)  : Option (Int32) := fX12_named_L4 u FU 0 0
set_option maxHeartbeats 4000000 in
set_option maxRecDepth 100000 in
theorem mX12_named (l : Launch) (D : va_G) (T : Ty3) (h : Nat) (a : Nat → Nat) (u : St)  (res : Int32) (hf : fX12_named u = some res) : Met l yX12_named wsX12_named ({ frames := 0, cells := 0, slots := 0, locals := 0 }) (PcR D T (kX12 T h a u) [.ref h]) (QR res) 0 0 noA := by
  refine Met.ofW (cc := cX12_named) (maxL := 3) (ret := (some .int)) (by decide) rfl ?_
  intro p e s m args below meth c s₁ B hml hv
  obtain ⟨rfl, hP, hK⟩ := hv
  have hx := B.exec
  have hb := B.bytes
  have hr := B.returns
  have hts := atoms_spec (ws := wsX12_named) B.pre
  have hown : s.vm.findClass RX12 = some m.cls := findClass_of_methodNamed B.named
  have hlocks := B.notSynchronized
  have hS : va_S noA s.heap s.heap [] := va_S.rf
  have hinX12 : ∀ w ∈ u_ws RX12 TX12 52, w ∈ wsX12_named := fun w h => List.mem_cons_of_mem _ (List.mem_append_right _ h)
  have hl := lv_entry ([.ref h]) (n := 3) (Nat.le_of_ble_eq_true rfl)
  rw [lg_entry_eq]
  generalize (lg_sl ([.ref h]) ++ List.replicate (3 - (lg_sl ([.ref h])).length) Slot.unset).toArray = ls at hl ⊢
  have hl : lv_has ls 3 [(0, .ref h)] := hl
  have L4 : ∀ (n4 : Nat), ∀ (x1 : Int32) (x2 : Int32) (H : Heap) (locs : List Loc) (ls : Array Slot), fX12_named_L4 u n4 x1 x2 = some res → va_P D vwCl (kX12 T h a u) H → va_S noA s.heap H locs → lv_has ls 3 [(0, .ref h), (1, .int x1), (2, .int x2)] → W p l e (headSpec wsX12_named ({ frames := 0, cells := 0, slots := 0, locals := 0 })).room s m ([.ref h] : List Value).toArray below meth c H locs 0 0 (MQ below (QR res) ([.ref h] : List Value).toArray s 0 0 noA) (F0 m 4 ls []) := by
    intro n4
    induction n4 with
    | zero => intro x1 x2 H locs ls hf; exact nns hf
    | succ n4 ih4 =>
      intro x1 x2 H locs ls hf hP hS hl
      replace hf : bX12_named_L4 u (fX12_named_L4 u n4) x1 x2 = some res := hf
      unfold bX12_named_L4 at hf
      refine lv_iload_n hx hb dX12_named_4 rfl (lv_at hl 2 rfl) ?_
      refine lv_aload_n hx hb dX12_named_5 rfl (lv_at hl 0 rfl) ?_
      refine va_get (D := D) (ci := 12) (v := .int (u 36 0)) (C := RX12) (T := TX12) (N := 52) hx hb hts hinX12 hown hK.1 hP 0 rfl rfl 36 (by decide) (hts (.fieldLink RX12 274 "RopeScaleModel" "weighingMany" "I") (List.mem_of_getElem? (i := 1) rfl)) (fun _ h9 => h9) rfl dX12_named_6 ?_
      refine lv_icmp_ge (tgt := 34) hx hb dX12_named_9 (by decide) (fun c1 => ?_) (fun c1 => ?_)
      · replace hf := ifp c1 hf
        refine lv_iload_n hx hb dX12_named_34 rfl (lv_at hl 1 rfl) ?_
        exact retR hx hb hr hlocks hS (Option.some.inj hf) dX12_named_35
      replace hf := ifn c1 hf
      refine lv_iload_n hx hb dX12_named_12 rfl (lv_at hl 1 rfl) ?_
      refine lv_aload_n hx hb dX12_named_13 rfl (lv_at hl 0 rfl) ?_
      refine va_get (D := D) (ci := 12) (v := .ref (a 30)) (C := RX12) (T := TX12) (N := 52) hx hb hts hinX12 hown hK.1 hP 0 rfl rfl 30 (by decide) (hts (.fieldLink RX12 62 "RopeScaleModel" "leftOf" "[I") (List.mem_of_getElem? (i := 2) rfl)) (fun _ h9 => h9) rfl dX12_named_14 ?_
      refine lv_iload_n hx hb dX12_named_17 rfl (lv_at hl 2 rfl) ?_
      obtain ⟨h5, hf⟩ := gd_e hf
      refine va_iald hx hb hK.1 hP 18 0 rfl rfl h5 dX12_named_18 ?_
      refine lv_ior hx hb dX12_named_19 ?_
      refine lv_aload_n hx hb dX12_named_20 rfl (lv_at hl 0 rfl) ?_
      refine va_get (D := D) (ci := 12) (v := .ref (a 31)) (C := RX12) (T := TX12) (N := 52) hx hb hts hinX12 hown hK.1 hP 0 rfl rfl 31 (by decide) (hts (.fieldLink RX12 65 "RopeScaleModel" "rightOf" "[I") (List.mem_of_getElem? (i := 3) rfl)) (fun _ h9 => h9) rfl dX12_named_21 ?_
      refine lv_iload_n hx hb dX12_named_24 rfl (lv_at hl 2 rfl) ?_
      obtain ⟨h4, hf⟩ := gd_e hf
      refine va_iald hx hb hK.1 hP 19 0 rfl rfl h4 dX12_named_25 ?_
      refine lv_ior hx hb dX12_named_26 ?_
      obtain ⟨t2, et2, hf⟩ := lett_e hf
      refine lv_eqi et2 ?_
      refine lv_istore_n (lv' := [(1, .int t2), (0, .ref h), (2, .int x2)]) hx hb dX12_named_27 rfl hl (by decide) rfl (fun ls hl => ?_)
      obtain ⟨t3, et3, hf⟩ := lett_e hf
      refine lv_iinc (v := t3) (lv' := [(2, .int t3), (1, .int t2), (0, .ref h)]) hx hb dX12_named_28 hl (k := 2) rfl (by rw [et3]; rfl) (by decide) rfl (fun ls hl => ?_)
      refine lv_goto (tgt := 4) hx hb dX12_named_31 (by decide) ?_
      exact ih4 t2 t3 _ _ _ hf hP hS (lv_sub hl [2, 1, 0] rfl)
  unfold fX12_named at hf
  refine lv_iconst (v := 0) hx hb dX12_named_0 (by decide) ?_
  refine lv_istore_n (lv' := [(1, .int 0), (0, .ref h)]) hx hb dX12_named_1 rfl hl (by decide) rfl (fun ls hl => ?_)
  refine lv_iconst (v := 0) hx hb dX12_named_2 (by decide) ?_
  refine lv_istore_n (lv' := [(2, .int 0), (1, .int 0), (0, .ref h)]) hx hb dX12_named_3 rfl hl (by decide) rfl (fun ls hl => ?_)
  exact L4 FU 0 0 _ _ _ hf hP hS (lv_sub hl [2, 1, 0] rfl)
def fX12_fits_J130  (lp2 : Int32 → Int32 → Int32 → Option (Int32)) (x1 : Int32) (x2 : Int32) (x3 : Int32) (y0 : Int32) : Option (Int32) := if y0 = 0 then some 0 else lett (x3 + 1) fun t2 => lp2 x1 x2 t2
def fX12_fits_J70 (u : St) (lp2 : Int32 → Int32 → Int32 → Option (Int32)) (x1 : Int32) (x2 : Int32) (x3 : Int32) (y0 : Int32) : Option (Int32) := gd x3 16 <| if (u 32 (ix x3)) = 60 then if 0 ≤ y0 then fX12_fits_J130 lp2 x1 x2 x3 0 else fX12_fits_J130 lp2 x1 x2 x3 1 else gd x3 16 <| if (u 32 (ix x3)) = 62 then if y0 ≤ 0 then fX12_fits_J130 lp2 x1 x2 x3 0 else fX12_fits_J130 lp2 x1 x2 x3 1 else if y0 = 0 then fX12_fits_J130 lp2 x1 x2 x3 1 else fX12_fits_J130 lp2 x1 x2 x3 0
def bX12_fits_L2 (u : St)  (lp2 : Int32 → Int32 → Int32 → Option (Int32)) (x1 : Int32) (x2 : Int32) (x3 : Int32) : Option (Int32) := if (u 36 0) ≤ x3 then some 1 else gd x3 16 <| (fX12_bits (u 30 (ix x3))).bind fun z11 => gd x3 16 <| (fX12_bits (u 31 (ix x3))).bind fun z12 => if z11 = z12 then gd x3 16 <| lett (fX12_has (u 30 (ix x3)) x1) fun z14 => if z14 = 0 then gd x3 16 <| lett (fX12_has (u 31 (ix x3)) x1) fun z16 => if z16 = 0 then fX12_fits_J70 u lp2 x1 x2 x3 0 else fX12_fits_J70 u lp2 x1 x2 x3 (-x2) else fX12_fits_J70 u lp2 x1 x2 x3 x2 else lett (x3 + 1) fun t20 => lp2 x1 x2 t20
def fX12_fits_L2 (u : St)  : Nat → Int32 → Int32 → Int32 → Option (Int32)
  | 0, _, _, _ => none
  | n + 1, x1, x2, x3 => bX12_fits_L2 u (fX12_fits_L2 u n) x1 x2 x3
def fX12_fits  (u : St) (p1 : Int32) (p2 : Int32) : Option (Int32) := fX12_fits_L2 u FU p1 p2 0
set_option maxHeartbeats 4000000 in
set_option maxRecDepth 100000 in
theorem mX12_fits (l : Launch) (D : va_G) (T : Ty3) (h : Nat) (a : Nat → Nat) (u : St) (p1 : Int32) (p2 : Int32) (res : Int32) (hf : fX12_fits u p1 p2 = some res) : Met l yX12_fits wsX12_fits ({ frames := 1, cells := 0, slots := 0, locals := 22 }) (PcR D T (kX12 T h a u) [.ref h, .int p1, .int p2]) (QR res) 0 0 noA := by
  refine Met.ofW (cc := cX12_fits) (maxL := 6) (ret := (some .boolean)) (by decide) rfl ?_
  intro p e s m args below meth c s₁ B hml hv
  obtain ⟨rfl, hP, hK⟩ := hv
  have hx := B.exec
  have hb := B.bytes
  have hr := B.returns
  have hts := atoms_spec (ws := wsX12_fits) B.pre
  have hown : s.vm.findClass RX12 = some m.cls := findClass_of_methodNamed B.named
  have hlocks := B.notSynchronized
  have hS : va_S noA s.heap s.heap [] := va_S.rf
  have hinX12 : ∀ w ∈ u_ws RX12 TX12 52, w ∈ wsX12_fits := fun w h => List.mem_cons_of_mem _ (List.mem_append_right _ h)
  have hl := lv_entry ([.ref h, .int p1, .int p2]) (n := 6) (Nat.le_of_ble_eq_true rfl)
  rw [lg_entry_eq]
  generalize (lg_sl ([.ref h, .int p1, .int p2]) ++ List.replicate (6 - (lg_sl ([.ref h, .int p1, .int p2])).length) Slot.unset).toArray = ls at hl ⊢
  have hl : lv_has ls 6 [(0, .ref h), (1, .int p1), (2, .int p2)] := hl
  have L2 : ∀ (n2 : Nat), ∀ (x1 : Int32) (x2 : Int32) (x3 : Int32) (H : Heap) (locs : List Loc) (ls : Array Slot), fX12_fits_L2 u n2 x1 x2 x3 = some res → va_P D vwCl (kX12 T h a u) H → va_S noA s.heap H locs → lv_has ls 6 [(0, .ref h), (1, .int x1), (2, .int x2), (3, .int x3)] → W p l e (headSpec wsX12_fits ({ frames := 1, cells := 0, slots := 0, locals := 22 })).room s m ([.ref h, .int p1, .int p2] : List Value).toArray below meth c H locs 0 0 (MQ below (QR res) ([.ref h, .int p1, .int p2] : List Value).toArray s 0 0 noA) (F0 m 2 ls []) := by
    intro n2
    induction n2 with
    | zero => intro x1 x2 x3 H locs ls hf; exact nns hf
    | succ n2 ih2 =>
      have J130 : ∀ (x1 : Int32) (x2 : Int32) (x3 : Int32) (y0 : Int32) (H : Heap) (locs : List Loc) (ls : Array Slot), fX12_fits_J130 (fX12_fits_L2 u n2) x1 x2 x3 y0 = some res → va_P D vwCl (kX12 T h a u) H → va_S noA s.heap H locs → lv_has ls 6 [(0, .ref h), (1, .int x1), (2, .int x2), (3, .int x3)] → W p l e (headSpec wsX12_fits ({ frames := 1, cells := 0, slots := 0, locals := 22 })).room s m ([.ref h, .int p1, .int p2] : List Value).toArray below meth c H locs 0 0 (MQ below (QR res) ([.ref h, .int p1, .int p2] : List Value).toArray s 0 0 noA) (F0 m 130 ls [.int y0]) := by
        intro x1 x2 x3 y0 H locs ls hf hP hS hl
        unfold fX12_fits_J130 at hf
        refine lv_istore (lv' := [(5, .int y0), (0, .ref h), (1, .int x1), (2, .int x2), (3, .int x3)]) hx hb dX12_fits_130 hl (by decide) rfl (fun ls hl => ?_)
        refine lv_iload hx hb dX12_fits_132 (lv_at hl 0 rfl) ?_
        refine lv_if_ne (tgt := 139) hx hb dX12_fits_134 (by decide) (fun c1 => ?_) (fun c1 => ?_)
        · replace hf := ifn c1 hf
          obtain ⟨t2, et2, hf⟩ := lett_e hf
          refine lv_iinc (v := t2) (lv' := [(3, .int t2), (5, .int y0), (0, .ref h), (1, .int x1), (2, .int x2)]) hx hb dX12_fits_139 hl (k := 4) rfl (by rw [et2]; rfl) (by decide) rfl (fun ls hl => ?_)
          refine lv_goto (tgt := 2) hx hb dX12_fits_142 (by decide) ?_
          exact ih2 x1 x2 t2 _ _ _ hf hP hS (lv_sub hl [2, 3, 4, 0] rfl)
        replace hf := ifp c1 hf
        refine lv_iconst (v := 0) hx hb dX12_fits_137 (by decide) ?_
        exact retRz hx hb hr hlocks hS rfl (Option.some.inj hf) dX12_fits_138
      have J70 : ∀ (x1 : Int32) (x2 : Int32) (x3 : Int32) (y0 : Int32) (H : Heap) (locs : List Loc) (ls : Array Slot), fX12_fits_J70 u (fX12_fits_L2 u n2) x1 x2 x3 y0 = some res → va_P D vwCl (kX12 T h a u) H → va_S noA s.heap H locs → lv_has ls 6 [(0, .ref h), (1, .int x1), (2, .int x2), (3, .int x3)] → W p l e (headSpec wsX12_fits ({ frames := 1, cells := 0, slots := 0, locals := 22 })).room s m ([.ref h, .int p1, .int p2] : List Value).toArray below meth c H locs 0 0 (MQ below (QR res) ([.ref h, .int p1, .int p2] : List Value).toArray s 0 0 noA) (F0 m 70 ls [.int y0]) := by
        intro x1 x2 x3 y0 H locs ls hf hP hS hl
        unfold fX12_fits_J70 at hf
        refine lv_istore (lv' := [(4, .int y0), (0, .ref h), (1, .int x1), (2, .int x2), (3, .int x3)]) hx hb dX12_fits_70 hl (by decide) rfl (fun ls hl => ?_)
        refine lv_aload_n hx hb dX12_fits_72 rfl (lv_at hl 1 rfl) ?_
        refine va_get (D := D) (ci := 12) (v := .ref (a 32)) (C := RX12) (T := TX12) (N := 52) hx hb hts hinX12 hown hK.1 hP 0 rfl rfl 32 (by decide) (hts (.fieldLink RX12 68 "RopeScaleModel" "signOf" "[I") (List.mem_of_getElem? (i := 4) rfl)) (fun _ h9 => h9) rfl dX12_fits_73 ?_
        refine lv_iload_n hx hb dX12_fits_76 rfl (lv_at hl 4 rfl) ?_
        obtain ⟨h9, hf⟩ := gd_e hf
        refine va_iald hx hb hK.1 hP 20 0 rfl rfl h9 dX12_fits_77 ?_
        refine lv_bipush (v := 60) hx hb dX12_fits_78 (by decide) ?_
        refine lv_icmp_ne (tgt := 96) hx hb dX12_fits_80 (by decide) (fun c3 => ?_) (fun c3 => ?_)
        · replace hf := ifn c3 hf
          refine lv_aload_n hx hb dX12_fits_96 rfl (lv_at hl 1 rfl) ?_
          refine va_get (D := D) (ci := 12) (v := .ref (a 32)) (C := RX12) (T := TX12) (N := 52) hx hb hts hinX12 hown hK.1 hP 0 rfl rfl 32 (by decide) (hts (.fieldLink RX12 68 "RopeScaleModel" "signOf" "[I") (List.mem_of_getElem? (i := 4) rfl)) (fun _ h9 => h9) rfl dX12_fits_97 ?_
          refine lv_iload_n hx hb dX12_fits_100 rfl (lv_at hl 4 rfl) ?_
          obtain ⟨h7, hf⟩ := gd_e hf
          refine va_iald hx hb hK.1 hP 20 0 rfl rfl h7 dX12_fits_101 ?_
          refine lv_bipush (v := 62) hx hb dX12_fits_102 (by decide) ?_
          refine lv_icmp_ne (tgt := 120) hx hb dX12_fits_104 (by decide) (fun c4 => ?_) (fun c4 => ?_)
          · replace hf := ifn c4 hf
            refine lv_iload hx hb dX12_fits_120 (lv_at hl 0 rfl) ?_
            refine lv_if_ne (tgt := 129) hx hb dX12_fits_122 (by decide) (fun c5 => ?_) (fun c5 => ?_)
            · replace hf := ifn c5 hf
              refine lv_iconst (v := 0) hx hb dX12_fits_129 (by decide) ?_
              exact J130 x1 x2 x3 0 _ _ _ hf hP hS (lv_sub hl [1, 2, 3, 4] rfl)
            replace hf := ifp c5 hf
            refine lv_iconst (v := 1) hx hb dX12_fits_125 (by decide) ?_
            refine lv_goto (tgt := 130) hx hb dX12_fits_126 (by decide) ?_
            exact J130 x1 x2 x3 1 _ _ _ hf hP hS (lv_sub hl [1, 2, 3, 4] rfl)
          replace hf := ifp c4 hf
          refine lv_iload hx hb dX12_fits_107 (lv_at hl 0 rfl) ?_
          refine lv_if_le (tgt := 116) hx hb dX12_fits_109 (by decide) (fun c6 => ?_) (fun c6 => ?_)
          · replace hf := ifp c6 hf
            refine lv_iconst (v := 0) hx hb dX12_fits_116 (by decide) ?_
            refine lv_goto (tgt := 130) hx hb dX12_fits_117 (by decide) ?_
            exact J130 x1 x2 x3 0 _ _ _ hf hP hS (lv_sub hl [1, 2, 3, 4] rfl)
          replace hf := ifn c6 hf
          refine lv_iconst (v := 1) hx hb dX12_fits_112 (by decide) ?_
          refine lv_goto (tgt := 130) hx hb dX12_fits_113 (by decide) ?_
          exact J130 x1 x2 x3 1 _ _ _ hf hP hS (lv_sub hl [1, 2, 3, 4] rfl)
        replace hf := ifp c3 hf
        refine lv_iload hx hb dX12_fits_83 (lv_at hl 0 rfl) ?_
        refine lv_if_ge (tgt := 92) hx hb dX12_fits_85 (by decide) (fun c8 => ?_) (fun c8 => ?_)
        · replace hf := ifp c8 hf
          refine lv_iconst (v := 0) hx hb dX12_fits_92 (by decide) ?_
          refine lv_goto (tgt := 130) hx hb dX12_fits_93 (by decide) ?_
          exact J130 x1 x2 x3 0 _ _ _ hf hP hS (lv_sub hl [1, 2, 3, 4] rfl)
        replace hf := ifn c8 hf
        refine lv_iconst (v := 1) hx hb dX12_fits_88 (by decide) ?_
        refine lv_goto (tgt := 130) hx hb dX12_fits_89 (by decide) ?_
        exact J130 x1 x2 x3 1 _ _ _ hf hP hS (lv_sub hl [1, 2, 3, 4] rfl)
      intro x1 x2 x3 H locs ls hf hP hS hl
      replace hf : bX12_fits_L2 u (fX12_fits_L2 u n2) x1 x2 x3 = some res := hf
      unfold bX12_fits_L2 at hf
      refine lv_iload_n hx hb dX12_fits_2 rfl (lv_at hl 3 rfl) ?_
      refine lv_aload_n hx hb dX12_fits_3 rfl (lv_at hl 0 rfl) ?_
      refine va_get (D := D) (ci := 12) (v := .int (u 36 0)) (C := RX12) (T := TX12) (N := 52) hx hb hts hinX12 hown hK.1 hP 0 rfl rfl 36 (by decide) (hts (.fieldLink RX12 274 "RopeScaleModel" "weighingMany" "I") (List.mem_of_getElem? (i := 1) rfl)) (fun _ h9 => h9) rfl dX12_fits_4 ?_
      refine lv_icmp_ge (tgt := 145) hx hb dX12_fits_7 (by decide) (fun c10 => ?_) (fun c10 => ?_)
      · replace hf := ifp c10 hf
        refine lv_iconst (v := 1) hx hb dX12_fits_145 (by decide) ?_
        exact retRz hx hb hr hlocks hS rfl (Option.some.inj hf) dX12_fits_146
      replace hf := ifn c10 hf
      refine lv_aload_n hx hb dX12_fits_10 rfl (lv_at hl 0 rfl) ?_
      refine va_get (D := D) (ci := 12) (v := .ref (a 30)) (C := RX12) (T := TX12) (N := 52) hx hb hts hinX12 hown hK.1 hP 0 rfl rfl 30 (by decide) (hts (.fieldLink RX12 62 "RopeScaleModel" "leftOf" "[I") (List.mem_of_getElem? (i := 2) rfl)) (fun _ h9 => h9) rfl dX12_fits_11 ?_
      refine lv_iload_n hx hb dX12_fits_14 rfl (lv_at hl 3 rfl) ?_
      obtain ⟨h22, hf⟩ := gd_e hf
      refine va_iald hx hb hK.1 hP 18 0 rfl rfl h22 dX12_fits_15 ?_
      obtain ⟨z11, hz11, hf⟩ := bnd hf
      refine cSR (As := [.int (u 30 (ix x3))]) (rest := []) ⟨hx, hb, hml, hown, hts⟩ (mX12_bits l D T (u 30 (ix x3)) z11 hz11) (va_cwS 1 hts gX12_fits_X12_bits rfl rfl rfl (by decide +kernel) ⟨Nat.le_of_ble_eq_true rfl, Nat.le_of_ble_eq_true rfl⟩) P0 hK rfl hl.1 rfl (Nat.le_of_ble_eq_true rfl) dX12_fits_16 ⟨Nat.le_of_ble_eq_true rfl, Nat.le_of_ble_eq_true rfl⟩ hP hS (fun H locs hP hS => ?_)
      refine lv_aload_n hx hb dX12_fits_19 rfl (lv_at hl 0 rfl) ?_
      refine va_get (D := D) (ci := 12) (v := .ref (a 31)) (C := RX12) (T := TX12) (N := 52) hx hb hts hinX12 hown hK.1 hP 0 rfl rfl 31 (by decide) (hts (.fieldLink RX12 65 "RopeScaleModel" "rightOf" "[I") (List.mem_of_getElem? (i := 3) rfl)) (fun _ h9 => h9) rfl dX12_fits_20 ?_
      refine lv_iload_n hx hb dX12_fits_23 rfl (lv_at hl 3 rfl) ?_
      obtain ⟨h21, hf⟩ := gd_e hf
      refine va_iald hx hb hK.1 hP 19 0 rfl rfl h21 dX12_fits_24 ?_
      obtain ⟨z12, hz12, hf⟩ := bnd hf
      refine cSR (As := [.int (u 31 (ix x3))]) (rest := [.int z11]) ⟨hx, hb, hml, hown, hts⟩ (mX12_bits l D T (u 31 (ix x3)) z12 hz12) (va_cwS 1 hts gX12_fits_X12_bits rfl rfl rfl (by decide +kernel) ⟨Nat.le_of_ble_eq_true rfl, Nat.le_of_ble_eq_true rfl⟩) P0 hK rfl hl.1 rfl (Nat.le_of_ble_eq_true rfl) dX12_fits_25 ⟨Nat.le_of_ble_eq_true rfl, Nat.le_of_ble_eq_true rfl⟩ hP hS (fun H locs hP hS => ?_)
      refine lv_icmp_eq (tgt := 34) hx hb dX12_fits_28 (by decide) (fun c13 => ?_) (fun c13 => ?_)
      · replace hf := ifp c13 hf
        refine lv_aload_n hx hb dX12_fits_34 rfl (lv_at hl 0 rfl) ?_
        refine va_get (D := D) (ci := 12) (v := .ref (a 30)) (C := RX12) (T := TX12) (N := 52) hx hb hts hinX12 hown hK.1 hP 0 rfl rfl 30 (by decide) (hts (.fieldLink RX12 62 "RopeScaleModel" "leftOf" "[I") (List.mem_of_getElem? (i := 2) rfl)) (fun _ h9 => h9) rfl dX12_fits_35 ?_
        refine lv_iload_n hx hb dX12_fits_38 rfl (lv_at hl 3 rfl) ?_
        obtain ⟨h19, hf⟩ := gd_e hf
        refine va_iald hx hb hK.1 hP 18 0 rfl rfl h19 dX12_fits_39 ?_
        refine lv_iload_n hx hb dX12_fits_40 rfl (lv_at hl 1 rfl) ?_
        obtain ⟨z14, hz14, hf⟩ := lett_e hf
        refine cSR (As := [.int (u 30 (ix x3)), .int x1]) (rest := []) ⟨hx, hb, hml, hown, hts⟩ (mX12_has l D T (u 30 (ix x3)) x1 z14 hz14.symm) (va_cwS 2 hts gX12_fits_X12_has rfl rfl rfl (by decide +kernel) ⟨Nat.le_of_ble_eq_true rfl, Nat.le_of_ble_eq_true rfl⟩) P0 hK rfl hl.1 rfl (Nat.le_of_ble_eq_true rfl) dX12_fits_41 ⟨Nat.le_of_ble_eq_true rfl, Nat.le_of_ble_eq_true rfl⟩ hP hS (fun H locs hP hS => ?_)
        refine lv_if_eq (tgt := 51) hx hb dX12_fits_44 (by decide) (fun c15 => ?_) (fun c15 => ?_)
        · replace hf := ifp c15 hf
          refine lv_aload_n hx hb dX12_fits_51 rfl (lv_at hl 0 rfl) ?_
          refine va_get (D := D) (ci := 12) (v := .ref (a 31)) (C := RX12) (T := TX12) (N := 52) hx hb hts hinX12 hown hK.1 hP 0 rfl rfl 31 (by decide) (hts (.fieldLink RX12 65 "RopeScaleModel" "rightOf" "[I") (List.mem_of_getElem? (i := 3) rfl)) (fun _ h9 => h9) rfl dX12_fits_52 ?_
          refine lv_iload_n hx hb dX12_fits_55 rfl (lv_at hl 3 rfl) ?_
          obtain ⟨h18, hf⟩ := gd_e hf
          refine va_iald hx hb hK.1 hP 19 0 rfl rfl h18 dX12_fits_56 ?_
          refine lv_iload_n hx hb dX12_fits_57 rfl (lv_at hl 1 rfl) ?_
          obtain ⟨z16, hz16, hf⟩ := lett_e hf
          refine cSR (As := [.int (u 31 (ix x3)), .int x1]) (rest := []) ⟨hx, hb, hml, hown, hts⟩ (mX12_has l D T (u 31 (ix x3)) x1 z16 hz16.symm) (va_cwS 2 hts gX12_fits_X12_has rfl rfl rfl (by decide +kernel) ⟨Nat.le_of_ble_eq_true rfl, Nat.le_of_ble_eq_true rfl⟩) P0 hK rfl hl.1 rfl (Nat.le_of_ble_eq_true rfl) dX12_fits_58 ⟨Nat.le_of_ble_eq_true rfl, Nat.le_of_ble_eq_true rfl⟩ hP hS (fun H locs hP hS => ?_)
          refine lv_if_eq (tgt := 69) hx hb dX12_fits_61 (by decide) (fun c17 => ?_) (fun c17 => ?_)
          · replace hf := ifp c17 hf
            refine lv_iconst (v := 0) hx hb dX12_fits_69 (by decide) ?_
            exact J70 x1 x2 x3 0 _ _ _ hf hP hS (lv_sub hl [0, 1, 2, 3] rfl)
          replace hf := ifn c17 hf
          refine lv_iload_n hx hb dX12_fits_64 rfl (lv_at hl 2 rfl) ?_
          refine lv_ineg hx hb dX12_fits_65 ?_
          refine lv_goto (tgt := 70) hx hb dX12_fits_66 (by decide) ?_
          exact J70 x1 x2 x3 (-x2) _ _ _ hf hP hS (lv_sub hl [0, 1, 2, 3] rfl)
        replace hf := ifn c15 hf
        refine lv_iload_n hx hb dX12_fits_47 rfl (lv_at hl 2 rfl) ?_
        refine lv_goto (tgt := 70) hx hb dX12_fits_48 (by decide) ?_
        exact J70 x1 x2 x3 x2 _ _ _ hf hP hS (lv_sub hl [0, 1, 2, 3] rfl)
      replace hf := ifn c13 hf
      refine lv_goto (tgt := 139) hx hb dX12_fits_31 (by decide) ?_
      obtain ⟨t20, et20, hf⟩ := lett_e hf
      refine lv_iinc (v := t20) (lv' := [(3, .int t20), (0, .ref h), (1, .int x1), (2, .int x2)]) hx hb dX12_fits_139 hl (k := 3) rfl (by rw [et20]; rfl) (by decide) rfl (fun ls hl => ?_)
      refine lv_goto (tgt := 2) hx hb dX12_fits_142 (by decide) ?_
      exact ih2 x1 x2 t20 _ _ _ hf hP hS (lv_sub hl [1, 2, 3, 0] rfl)
  unfold fX12_fits at hf
  refine lv_iconst (v := 0) hx hb dX12_fits_0 (by decide) ?_
  refine lv_istore_n (lv' := [(3, .int 0), (0, .ref h), (1, .int p1), (2, .int p2)]) hx hb dX12_fits_1 rfl hl (by decide) rfl (fun ls hl => ?_)
  exact L2 FU p1 p2 0 _ _ _ hf hP hS (lv_sub hl [1, 2, 3, 0] rfl)
def fX12_odd_J63 (u : St) (lp35 : Int32 → Int32 → Int32 → Option (Int32)) (x1 : Int32) (x2 : Int32) (x3 : Int32) (y0 : Int32) (y1 : Int32) : Option (Int32) := (fX12_fits u y1 y0).bind fun z1 => if z1 = 0 then lett (x3 + 1) fun t3 => lp35 x1 x2 t3 else lett (x2 ||| (jshl 1 x3)) fun t4 => lett (x3 + 1) fun t5 => lp35 x1 t4 t5
def bX12_odd_L35 (u : St)  (lp35 : Int32 → Int32 → Int32 → Option (Int32)) (x1 : Int32) (x2 : Int32) (x3 : Int32) : Option (Int32) := if 16 ≤ x3 then some x2 else (fX12_named u).bind fun z7 => lett (fX12_has z7 x3) fun z8 => if z8 = 0 then lett (x3 + 1) fun t10 => lp35 x1 x2 t10 else if x1 = 0 then fX12_odd_J63 u lp35 x1 x2 x3 1 x3 else fX12_odd_J63 u lp35 x1 x2 x3 (-1) x3
def fX12_odd_L35 (u : St)  : Nat → Int32 → Int32 → Int32 → Option (Int32)
  | 0, _, _, _ => none
  | n + 1, x1, x2, x3 => bX12_odd_L35 u (fX12_odd_L35 u n) x1 x2 x3
def fX12_odd  (u : St) (p1 : Int32) : Option (Int32) := lett (fX12_in p1 0 2) fun z12 => if z12 = 0 then some (-1) else if p1 = 2 then (fX12_fits u 0 0).bind fun z15 => if z15 = 0 then some 0 else some 1 else fX12_odd_L35 u FU p1 0 0
set_option maxHeartbeats 4000000 in
set_option maxRecDepth 100000 in
theorem mX12_odd (l : Launch) (D : va_G) (T : Ty3) (h : Nat) (a : Nat → Nat) (u : St) (p1 : Int32) (res : Int32) (hf : fX12_odd u p1 = some res) : Met l yX12_odd wsX12_odd ({ frames := 2, cells := 0, slots := 0, locals := 47 }) (PcR D T (kX12 T h a u) [.ref h, .int p1]) (QR res) 0 0 noA := by
  refine Met.ofW (cc := cX12_odd) (maxL := 4) (ret := (some .int)) (by decide) rfl ?_
  intro p e s m args below meth c s₁ B hml hv
  obtain ⟨rfl, hP, hK⟩ := hv
  have hx := B.exec
  have hb := B.bytes
  have hr := B.returns
  have hts := atoms_spec (ws := wsX12_odd) B.pre
  have hown : s.vm.findClass RX12 = some m.cls := findClass_of_methodNamed B.named
  have hlocks := B.notSynchronized
  have hS : va_S noA s.heap s.heap [] := va_S.rf
  have hinX12 : ∀ w ∈ u_ws RX12 TX12 52, w ∈ wsX12_odd := fun w h => List.mem_cons_of_mem _ (List.mem_append_right _ h)
  have hl := lv_entry ([.ref h, .int p1]) (n := 4) (Nat.le_of_ble_eq_true rfl)
  rw [lg_entry_eq]
  generalize (lg_sl ([.ref h, .int p1]) ++ List.replicate (4 - (lg_sl ([.ref h, .int p1])).length) Slot.unset).toArray = ls at hl ⊢
  have hl : lv_has ls 4 [(0, .ref h), (1, .int p1)] := hl
  have L35 : ∀ (n35 : Nat), ∀ (x1 : Int32) (x2 : Int32) (x3 : Int32) (H : Heap) (locs : List Loc) (ls : Array Slot), fX12_odd_L35 u n35 x1 x2 x3 = some res → va_P D vwCl (kX12 T h a u) H → va_S noA s.heap H locs → lv_has ls 4 [(0, .ref h), (1, .int x1), (2, .int x2), (3, .int x3)] → W p l e (headSpec wsX12_odd ({ frames := 2, cells := 0, slots := 0, locals := 47 })).room s m ([.ref h, .int p1] : List Value).toArray below meth c H locs 0 0 (MQ below (QR res) ([.ref h, .int p1] : List Value).toArray s 0 0 noA) (F0 m 35 ls []) := by
    intro n35
    induction n35 with
    | zero => intro x1 x2 x3 H locs ls hf; exact nns hf
    | succ n35 ih35 =>
      have J63 : ∀ (x1 : Int32) (x2 : Int32) (x3 : Int32) (y0 : Int32) (y1 : Int32) (H : Heap) (locs : List Loc) (ls : Array Slot), fX12_odd_J63 u (fX12_odd_L35 u n35) x1 x2 x3 y0 y1 = some res → va_P D vwCl (kX12 T h a u) H → va_S noA s.heap H locs → lv_has ls 4 [(0, .ref h), (1, .int x1), (2, .int x2), (3, .int x3)] → W p l e (headSpec wsX12_odd ({ frames := 2, cells := 0, slots := 0, locals := 47 })).room s m ([.ref h, .int p1] : List Value).toArray below meth c H locs 0 0 (MQ below (QR res) ([.ref h, .int p1] : List Value).toArray s 0 0 noA) (F0 m 63 ls [.int y0, .int y1, .ref h]) := by
        intro x1 x2 x3 y0 y1 H locs ls hf hP hS hl
        unfold fX12_odd_J63 at hf
        obtain ⟨z1, hz1, hf⟩ := bnd hf
        refine cVR (As := [.int y1, .int y0]) (rest := []) ⟨hx, hb, hml, hown, hts⟩ (mX12_fits l D T h a u y1 y0 z1 hz1) (cwV 2 hts gX12_odd_X12_fits rfl rfl rfl (by decide +kernel) ⟨Nat.le_of_ble_eq_true rfl, Nat.le_of_ble_eq_true rfl⟩) (va_recv hK.1 hP (ci := 12) (q0 := 0) rfl rfl) hP hK rfl hl.1 rfl (Nat.le_of_ble_eq_true rfl) dX12_odd_63 ⟨Nat.le_of_ble_eq_true rfl, Nat.le_of_ble_eq_true rfl⟩ hP hS (fun H locs hP hS => ?_)
        refine lv_if_eq (tgt := 75) hx hb dX12_odd_66 (by decide) (fun c2 => ?_) (fun c2 => ?_)
        · replace hf := ifp c2 hf
          obtain ⟨t3, et3, hf⟩ := lett_e hf
          refine lv_iinc (v := t3) (lv' := [(3, .int t3), (0, .ref h), (1, .int x1), (2, .int x2)]) hx hb dX12_odd_75 hl (k := 3) rfl (by rw [et3]; rfl) (by decide) rfl (fun ls hl => ?_)
          refine lv_goto (tgt := 35) hx hb dX12_odd_78 (by decide) ?_
          exact ih35 x1 x2 t3 _ _ _ hf hP hS (lv_sub hl [1, 2, 3, 0] rfl)
        replace hf := ifn c2 hf
        refine lv_iload_n hx hb dX12_odd_69 rfl (lv_at hl 2 rfl) ?_
        refine lv_iconst (v := 1) hx hb dX12_odd_70 (by decide) ?_
        refine lv_iload_n hx hb dX12_odd_71 rfl (lv_at hl 3 rfl) ?_
        refine lv_ishl hx hb dX12_odd_72 ?_
        refine lv_ior hx hb dX12_odd_73 ?_
        obtain ⟨t4, et4, hf⟩ := lett_e hf
        refine lv_eqi et4 ?_
        refine lv_istore_n (lv' := [(2, .int t4), (0, .ref h), (1, .int x1), (3, .int x3)]) hx hb dX12_odd_74 rfl hl (by decide) rfl (fun ls hl => ?_)
        obtain ⟨t5, et5, hf⟩ := lett_e hf
        refine lv_iinc (v := t5) (lv' := [(3, .int t5), (2, .int t4), (0, .ref h), (1, .int x1)]) hx hb dX12_odd_75 hl (k := 3) rfl (by rw [et5]; rfl) (by decide) rfl (fun ls hl => ?_)
        refine lv_goto (tgt := 35) hx hb dX12_odd_78 (by decide) ?_
        exact ih35 x1 t4 t5 _ _ _ hf hP hS (lv_sub hl [2, 3, 1, 0] rfl)
      intro x1 x2 x3 H locs ls hf hP hS hl
      replace hf : bX12_odd_L35 u (fX12_odd_L35 u n35) x1 x2 x3 = some res := hf
      unfold bX12_odd_L35 at hf
      refine lv_iload_n hx hb dX12_odd_35 rfl (lv_at hl 3 rfl) ?_
      refine lv_bipush (v := 16) hx hb dX12_odd_36 (by decide) ?_
      refine lv_icmp_ge (tgt := 81) hx hb dX12_odd_38 (by decide) (fun c6 => ?_) (fun c6 => ?_)
      · replace hf := ifp c6 hf
        refine lv_iload_n hx hb dX12_odd_81 rfl (lv_at hl 2 rfl) ?_
        exact retR hx hb hr hlocks hS (Option.some.inj hf) dX12_odd_82
      replace hf := ifn c6 hf
      refine lv_aload_n hx hb dX12_odd_41 rfl (lv_at hl 0 rfl) ?_
      obtain ⟨z7, hz7, hf⟩ := bnd hf
      refine cVR (As := []) (rest := []) ⟨hx, hb, hml, hown, hts⟩ (mX12_named l D T h a u z7 hz7) (cwV 0 hts gX12_odd_X12_named rfl rfl rfl (by decide +kernel) ⟨Nat.le_of_ble_eq_true rfl, Nat.le_of_ble_eq_true rfl⟩) (va_recv hK.1 hP (ci := 12) (q0 := 0) rfl rfl) hP hK rfl hl.1 rfl (Nat.le_of_ble_eq_true rfl) dX12_odd_42 ⟨Nat.le_of_ble_eq_true rfl, Nat.le_of_ble_eq_true rfl⟩ hP hS (fun H locs hP hS => ?_)
      refine lv_iload_n hx hb dX12_odd_45 rfl (lv_at hl 3 rfl) ?_
      obtain ⟨z8, hz8, hf⟩ := lett_e hf
      refine cSR (As := [.int z7, .int x3]) (rest := []) ⟨hx, hb, hml, hown, hts⟩ (mX12_has l D T z7 x3 z8 hz8.symm) (va_cwS 2 hts gX12_odd_X12_has rfl rfl rfl (by decide +kernel) ⟨Nat.le_of_ble_eq_true rfl, Nat.le_of_ble_eq_true rfl⟩) P0 hK rfl hl.1 rfl (Nat.le_of_ble_eq_true rfl) dX12_odd_46 ⟨Nat.le_of_ble_eq_true rfl, Nat.le_of_ble_eq_true rfl⟩ hP hS (fun H locs hP hS => ?_)
      refine lv_if_eq (tgt := 75) hx hb dX12_odd_49 (by decide) (fun c9 => ?_) (fun c9 => ?_)
      · replace hf := ifp c9 hf
        obtain ⟨t10, et10, hf⟩ := lett_e hf
        refine lv_iinc (v := t10) (lv' := [(3, .int t10), (0, .ref h), (1, .int x1), (2, .int x2)]) hx hb dX12_odd_75 hl (k := 3) rfl (by rw [et10]; rfl) (by decide) rfl (fun ls hl => ?_)
        refine lv_goto (tgt := 35) hx hb dX12_odd_78 (by decide) ?_
        exact ih35 x1 x2 t10 _ _ _ hf hP hS (lv_sub hl [1, 2, 3, 0] rfl)
      replace hf := ifn c9 hf
      refine lv_aload_n hx hb dX12_odd_52 rfl (lv_at hl 0 rfl) ?_
      refine lv_iload_n hx hb dX12_odd_53 rfl (lv_at hl 3 rfl) ?_
      refine lv_iload_n hx hb dX12_odd_54 rfl (lv_at hl 1 rfl) ?_
      refine lv_if_ne (tgt := 62) hx hb dX12_odd_55 (by decide) (fun c11 => ?_) (fun c11 => ?_)
      · replace hf := ifn c11 hf
        refine lv_iconst (v := (-1)) hx hb dX12_odd_62 (by decide) ?_
        exact J63 x1 x2 x3 (-1) x3 _ _ _ hf hP hS (lv_sub hl [0, 1, 2, 3] rfl)
      replace hf := ifp c11 hf
      refine lv_iconst (v := 1) hx hb dX12_odd_58 (by decide) ?_
      refine lv_goto (tgt := 63) hx hb dX12_odd_59 (by decide) ?_
      exact J63 x1 x2 x3 1 x3 _ _ _ hf hP hS (lv_sub hl [0, 1, 2, 3] rfl)
  unfold fX12_odd at hf
  refine lv_iload_n hx hb dX12_odd_0 rfl (lv_at hl 1 rfl) ?_
  refine lv_iconst (v := 0) hx hb dX12_odd_1 (by decide) ?_
  refine lv_iconst (v := 2) hx hb dX12_odd_2 (by decide) ?_
  obtain ⟨z12, hz12, hf⟩ := lett_e hf
  refine cSR (As := [.int p1, .int 0, .int 2]) (rest := []) ⟨hx, hb, hml, hown, hts⟩ (mX12_in l D T p1 0 2 z12 hz12.symm) (va_cwS 3 hts gX12_odd_X12_in rfl rfl rfl (by decide +kernel) ⟨Nat.le_of_ble_eq_true rfl, Nat.le_of_ble_eq_true rfl⟩) P0 hK rfl hl.1 rfl (Nat.le_of_ble_eq_true rfl) dX12_odd_3 ⟨Nat.le_of_ble_eq_true rfl, Nat.le_of_ble_eq_true rfl⟩ hP hS (fun H locs hP hS => ?_)
  refine lv_if_ne (tgt := 11) hx hb dX12_odd_6 (by decide) (fun c13 => ?_) (fun c13 => ?_)
  · replace hf := ifn c13 hf
    refine lv_iload_n hx hb dX12_odd_11 rfl (lv_at hl 1 rfl) ?_
    refine lv_iconst (v := 2) hx hb dX12_odd_12 (by decide) ?_
    refine lv_icmp_ne (tgt := 31) hx hb dX12_odd_13 (by decide) (fun c14 => ?_) (fun c14 => ?_)
    · replace hf := ifn c14 hf
      refine lv_iconst (v := 0) hx hb dX12_odd_31 (by decide) ?_
      refine lv_istore_n (lv' := [(2, .int 0), (0, .ref h), (1, .int p1)]) hx hb dX12_odd_32 rfl hl (by decide) rfl (fun ls hl => ?_)
      refine lv_iconst (v := 0) hx hb dX12_odd_33 (by decide) ?_
      refine lv_istore_n (lv' := [(3, .int 0), (2, .int 0), (0, .ref h), (1, .int p1)]) hx hb dX12_odd_34 rfl hl (by decide) rfl (fun ls hl => ?_)
      exact L35 FU p1 0 0 _ _ _ hf hP hS (lv_sub hl [2, 3, 1, 0] rfl)
    replace hf := ifp c14 hf
    refine lv_aload_n hx hb dX12_odd_16 rfl (lv_at hl 0 rfl) ?_
    refine lv_iconst (v := 0) hx hb dX12_odd_17 (by decide) ?_
    refine lv_iconst (v := 0) hx hb dX12_odd_18 (by decide) ?_
    obtain ⟨z15, hz15, hf⟩ := bnd hf
    refine cVR (As := [.int 0, .int 0]) (rest := []) ⟨hx, hb, hml, hown, hts⟩ (mX12_fits l D T h a u 0 0 z15 hz15) (cwV 2 hts gX12_odd_X12_fits rfl rfl rfl (by decide +kernel) ⟨Nat.le_of_ble_eq_true rfl, Nat.le_of_ble_eq_true rfl⟩) (va_recv hK.1 hP (ci := 12) (q0 := 0) rfl rfl) hP hK rfl hl.1 rfl (Nat.le_of_ble_eq_true rfl) dX12_odd_19 ⟨Nat.le_of_ble_eq_true rfl, Nat.le_of_ble_eq_true rfl⟩ hP hS (fun H locs hP hS => ?_)
    refine lv_if_eq (tgt := 29) hx hb dX12_odd_22 (by decide) (fun c16 => ?_) (fun c16 => ?_)
    · replace hf := ifp c16 hf
      refine lv_iconst (v := 0) hx hb dX12_odd_29 (by decide) ?_
      exact retR hx hb hr hlocks hS (Option.some.inj hf) dX12_odd_30
    replace hf := ifn c16 hf
    refine lv_iconst (v := 1) hx hb dX12_odd_25 (by decide) ?_
    refine lv_goto (tgt := 30) hx hb dX12_odd_26 (by decide) ?_
    exact retR hx hb hr hlocks hS (Option.some.inj hf) dX12_odd_30
  replace hf := ifp c13 hf
  refine lv_iconst (v := (-1)) hx hb dX12_odd_9 (by decide) ?_
  exact retR hx hb hr hlocks hS (Option.some.inj hf) dX12_odd_10
def fX12_isOneAndOne  (u : St) (p1 : Int32) : Option (Int32) := gd p1 16 <| (fX12_bits (u 30 (ix p1))).bind fun z1 => if z1 = 1 then gd p1 16 <| (fX12_bits (u 31 (ix p1))).bind fun z3 => if z3 = 1 then some 1 else some 0 else some 0
set_option maxHeartbeats 4000000 in
set_option maxRecDepth 100000 in
theorem mX12_isOneAndOne (l : Launch) (D : va_G) (T : Ty3) (h : Nat) (a : Nat → Nat) (u : St) (p1 : Int32) (res : Int32) (hf : fX12_isOneAndOne u p1 = some res) : Met l yX12_isOneAndOne wsX12_isOneAndOne ({ frames := 1, cells := 0, slots := 0, locals := 22 }) (PcR D T (kX12 T h a u) [.ref h, .int p1]) (QR res) 0 0 noA := by
  refine Met.ofW (cc := cX12_isOneAndOne) (maxL := 2) (ret := (some .boolean)) (by decide) rfl ?_
  intro p e s m args below meth c s₁ B hml hv
  obtain ⟨rfl, hP, hK⟩ := hv
  have hx := B.exec
  have hb := B.bytes
  have hr := B.returns
  have hts := atoms_spec (ws := wsX12_isOneAndOne) B.pre
  have hown : s.vm.findClass RX12 = some m.cls := findClass_of_methodNamed B.named
  have hlocks := B.notSynchronized
  have hS : va_S noA s.heap s.heap [] := va_S.rf
  have hinX12 : ∀ w ∈ u_ws RX12 TX12 52, w ∈ wsX12_isOneAndOne := fun w h => List.mem_cons_of_mem _ (List.mem_append_right _ h)
  have hl := lv_entry ([.ref h, .int p1]) (n := 2) (Nat.le_of_ble_eq_true rfl)
  rw [lg_entry_eq]
  generalize (lg_sl ([.ref h, .int p1]) ++ List.replicate (2 - (lg_sl ([.ref h, .int p1])).length) Slot.unset).toArray = ls at hl ⊢
  have hl : lv_has ls 2 [(0, .ref h), (1, .int p1)] := hl
  unfold fX12_isOneAndOne at hf
  refine lv_aload_n hx hb dX12_isOneAndOne_0 rfl (lv_at hl 0 rfl) ?_
  refine va_get (D := D) (ci := 12) (v := .ref (a 30)) (C := RX12) (T := TX12) (N := 52) hx hb hts hinX12 hown hK.1 hP 0 rfl rfl 30 (by decide) (hts (.fieldLink RX12 62 "RopeScaleModel" "leftOf" "[I") (List.mem_of_getElem? (i := 1) rfl)) (fun _ h9 => h9) rfl dX12_isOneAndOne_1 ?_
  refine lv_iload_n hx hb dX12_isOneAndOne_4 rfl (lv_at hl 1 rfl) ?_
  obtain ⟨h6, hf⟩ := gd_e hf
  refine va_iald hx hb hK.1 hP 18 0 rfl rfl h6 dX12_isOneAndOne_5 ?_
  obtain ⟨z1, hz1, hf⟩ := bnd hf
  refine cSR (As := [.int (u 30 (ix p1))]) (rest := []) ⟨hx, hb, hml, hown, hts⟩ (mX12_bits l D T (u 30 (ix p1)) z1 hz1) (va_cwS 1 hts gX12_isOneAndOne_X12_bits rfl rfl rfl (by decide +kernel) ⟨Nat.le_of_ble_eq_true rfl, Nat.le_of_ble_eq_true rfl⟩) P0 hK rfl hl.1 rfl (Nat.le_of_ble_eq_true rfl) dX12_isOneAndOne_6 ⟨Nat.le_of_ble_eq_true rfl, Nat.le_of_ble_eq_true rfl⟩ hP hS (fun H locs hP hS => ?_)
  refine lv_iconst (v := 1) hx hb dX12_isOneAndOne_9 (by decide) ?_
  refine lv_icmp_ne (tgt := 30) hx hb dX12_isOneAndOne_10 (by decide) (fun c2 => ?_) (fun c2 => ?_)
  · replace hf := ifn c2 hf
    refine lv_iconst (v := 0) hx hb dX12_isOneAndOne_30 (by decide) ?_
    exact retRz hx hb hr hlocks hS rfl (Option.some.inj hf) dX12_isOneAndOne_31
  replace hf := ifp c2 hf
  refine lv_aload_n hx hb dX12_isOneAndOne_13 rfl (lv_at hl 0 rfl) ?_
  refine va_get (D := D) (ci := 12) (v := .ref (a 31)) (C := RX12) (T := TX12) (N := 52) hx hb hts hinX12 hown hK.1 hP 0 rfl rfl 31 (by decide) (hts (.fieldLink RX12 65 "RopeScaleModel" "rightOf" "[I") (List.mem_of_getElem? (i := 2) rfl)) (fun _ h9 => h9) rfl dX12_isOneAndOne_14 ?_
  refine lv_iload_n hx hb dX12_isOneAndOne_17 rfl (lv_at hl 1 rfl) ?_
  obtain ⟨h5, hf⟩ := gd_e hf
  refine va_iald hx hb hK.1 hP 19 0 rfl rfl h5 dX12_isOneAndOne_18 ?_
  obtain ⟨z3, hz3, hf⟩ := bnd hf
  refine cSR (As := [.int (u 31 (ix p1))]) (rest := []) ⟨hx, hb, hml, hown, hts⟩ (mX12_bits l D T (u 31 (ix p1)) z3 hz3) (va_cwS 1 hts gX12_isOneAndOne_X12_bits rfl rfl rfl (by decide +kernel) ⟨Nat.le_of_ble_eq_true rfl, Nat.le_of_ble_eq_true rfl⟩) P0 hK rfl hl.1 rfl (Nat.le_of_ble_eq_true rfl) dX12_isOneAndOne_19 ⟨Nat.le_of_ble_eq_true rfl, Nat.le_of_ble_eq_true rfl⟩ hP hS (fun H locs hP hS => ?_)
  refine lv_iconst (v := 1) hx hb dX12_isOneAndOne_22 (by decide) ?_
  refine lv_icmp_ne (tgt := 30) hx hb dX12_isOneAndOne_23 (by decide) (fun c4 => ?_) (fun c4 => ?_)
  · replace hf := ifn c4 hf
    refine lv_iconst (v := 0) hx hb dX12_isOneAndOne_30 (by decide) ?_
    exact retRz hx hb hr hlocks hS rfl (Option.some.inj hf) dX12_isOneAndOne_31
  replace hf := ifp c4 hf
  refine lv_iconst (v := 1) hx hb dX12_isOneAndOne_26 (by decide) ?_
  refine lv_goto (tgt := 31) hx hb dX12_isOneAndOne_27 (by decide) ?_
  exact retRz hx hb hr hlocks hS rfl (Option.some.inj hf) dX12_isOneAndOne_31
def bX12_alikeTo_L16 (u : St) (lp6 : Int32 → Int32 → Option (Int32)) (lp16 : Int32 → Int32 → Int32 → Option (Int32)) (x2 : Int32) (x3 : Int32) (x4 : Int32) : Option (Int32) := if (u 36 0) ≤ x4 then lp6 x2 x3 else (fX12_isOneAndOne u x4).bind fun z2 => if z2 = 0 then lett (x4 + 1) fun t4 => lp16 x2 x3 t4 else gd x4 16 <| if (u 32 (ix x4)) = 61 then gd x4 16 <| gd x4 16 <| if (((u 30 (ix x4)) ||| (u 31 (ix x4))) &&& x3) = 0 then lett (x4 + 1) fun t8 => lp16 x2 x3 t8 else gd x4 16 <| gd x4 16 <| lett ((x2 ||| (u 30 (ix x4))) ||| (u 31 (ix x4))) fun t9 => lett (x4 + 1) fun t10 => lp16 t9 x3 t10 else lett (x4 + 1) fun t6 => lp16 x2 x3 t6
def fX12_alikeTo_L16 (u : St) (lp6 : Int32 → Int32 → Option (Int32)) : Nat → Int32 → Int32 → Int32 → Option (Int32)
  | 0, _, _, _ => none
  | n + 1, x2, x3, x4 => bX12_alikeTo_L16 u lp6 (fX12_alikeTo_L16 u lp6 n) x2 x3 x4
def bX12_alikeTo_L6 (u : St)  (lp6 : Int32 → Int32 → Option (Int32)) (x2 : Int32) (x3 : Int32) : Option (Int32) := if x2 = x3 then some x2 else fX12_alikeTo_L16 u lp6 FU x2 x2 0
def fX12_alikeTo_L6 (u : St)  : Nat → Int32 → Int32 → Option (Int32)
  | 0, _, _ => none
  | n + 1, x2, x3 => bX12_alikeTo_L6 u (fX12_alikeTo_L6 u n) x2 x3
def fX12_alikeTo  (u : St) (p1 : Int32) : Option (Int32) := lett (jshl 1 p1) fun t17 => fX12_alikeTo_L6 u FU t17 0
set_option maxHeartbeats 4000000 in
set_option maxRecDepth 100000 in
theorem mX12_alikeTo (l : Launch) (D : va_G) (T : Ty3) (h : Nat) (a : Nat → Nat) (u : St) (p1 : Int32) (res : Int32) (hf : fX12_alikeTo u p1 = some res) : Met l yX12_alikeTo wsX12_alikeTo ({ frames := 2, cells := 0, slots := 0, locals := 43 }) (PcR D T (kX12 T h a u) [.ref h, .int p1]) (QR res) 0 0 noA := by
  refine Met.ofW (cc := cX12_alikeTo) (maxL := 5) (ret := (some .int)) (by decide) rfl ?_
  intro p e s m args below meth c s₁ B hml hv
  obtain ⟨rfl, hP, hK⟩ := hv
  have hx := B.exec
  have hb := B.bytes
  have hr := B.returns
  have hts := atoms_spec (ws := wsX12_alikeTo) B.pre
  have hown : s.vm.findClass RX12 = some m.cls := findClass_of_methodNamed B.named
  have hlocks := B.notSynchronized
  have hS : va_S noA s.heap s.heap [] := va_S.rf
  have hinX12 : ∀ w ∈ u_ws RX12 TX12 52, w ∈ wsX12_alikeTo := fun w h => List.mem_cons_of_mem _ (List.mem_append_right _ h)
  have hl := lv_entry ([.ref h, .int p1]) (n := 5) (Nat.le_of_ble_eq_true rfl)
  rw [lg_entry_eq]
  generalize (lg_sl ([.ref h, .int p1]) ++ List.replicate (5 - (lg_sl ([.ref h, .int p1])).length) Slot.unset).toArray = ls at hl ⊢
  have hl : lv_has ls 5 [(0, .ref h), (1, .int p1)] := hl
  have L6 : ∀ (n6 : Nat), ∀ (x2 : Int32) (x3 : Int32) (H : Heap) (locs : List Loc) (ls : Array Slot), fX12_alikeTo_L6 u n6 x2 x3 = some res → va_P D vwCl (kX12 T h a u) H → va_S noA s.heap H locs → lv_has ls 5 [(0, .ref h), (2, .int x2), (3, .int x3)] → W p l e (headSpec wsX12_alikeTo ({ frames := 2, cells := 0, slots := 0, locals := 43 })).room s m ([.ref h, .int p1] : List Value).toArray below meth c H locs 0 0 (MQ below (QR res) ([.ref h, .int p1] : List Value).toArray s 0 0 noA) (F0 m 6 ls []) := by
    intro n6
    induction n6 with
    | zero => intro x2 x3 H locs ls hf; exact nns hf
    | succ n6 ih6 =>
      have L16 : ∀ (n16 : Nat), ∀ (x2 : Int32) (x3 : Int32) (x4 : Int32) (H : Heap) (locs : List Loc) (ls : Array Slot), fX12_alikeTo_L16 u (fX12_alikeTo_L6 u n6) n16 x2 x3 x4 = some res → va_P D vwCl (kX12 T h a u) H → va_S noA s.heap H locs → lv_has ls 5 [(0, .ref h), (2, .int x2), (3, .int x3), (4, .int x4)] → W p l e (headSpec wsX12_alikeTo ({ frames := 2, cells := 0, slots := 0, locals := 43 })).room s m ([.ref h, .int p1] : List Value).toArray below meth c H locs 0 0 (MQ below (QR res) ([.ref h, .int p1] : List Value).toArray s 0 0 noA) (F0 m 16 ls []) := by
        intro n16
        induction n16 with
        | zero => intro x2 x3 x4 H locs ls hf; exact nns hf
        | succ n16 ih16 =>
          intro x2 x3 x4 H locs ls hf hP hS hl
          replace hf : bX12_alikeTo_L16 u (fX12_alikeTo_L6 u n6) (fX12_alikeTo_L16 u (fX12_alikeTo_L6 u n6) n16) x2 x3 x4 = some res := hf
          unfold bX12_alikeTo_L16 at hf
          refine lv_iload hx hb dX12_alikeTo_16 (lv_at hl 3 rfl) ?_
          refine lv_aload_n hx hb dX12_alikeTo_18 rfl (lv_at hl 0 rfl) ?_
          refine va_get (D := D) (ci := 12) (v := .int (u 36 0)) (C := RX12) (T := TX12) (N := 52) hx hb hts hinX12 hown hK.1 hP 0 rfl rfl 36 (by decide) (hts (.fieldLink RX12 274 "RopeScaleModel" "weighingMany" "I") (List.mem_of_getElem? (i := 1) rfl)) (fun _ h9 => h9) rfl dX12_alikeTo_19 ?_
          refine lv_icmp_ge (tgt := 90) hx hb dX12_alikeTo_22 (by decide) (fun c1 => ?_) (fun c1 => ?_)
          · replace hf := ifp c1 hf
            refine lv_goto (tgt := 6) hx hb dX12_alikeTo_90 (by decide) ?_
            exact ih6 x2 x3 _ _ _ hf hP hS (lv_sub hl [0, 1, 2] rfl)
          replace hf := ifn c1 hf
          refine lv_aload_n hx hb dX12_alikeTo_25 rfl (lv_at hl 0 rfl) ?_
          refine lv_iload hx hb dX12_alikeTo_26 (lv_at hl 3 rfl) ?_
          obtain ⟨z2, hz2, hf⟩ := bnd hf
          refine cVR (As := [.int x4]) (rest := []) ⟨hx, hb, hml, hown, hts⟩ (mX12_isOneAndOne l D T h a u x4 z2 hz2) (cwV 1 hts gX12_alikeTo_X12_isOneAndOne rfl rfl rfl (by decide +kernel) ⟨Nat.le_of_ble_eq_true rfl, Nat.le_of_ble_eq_true rfl⟩) (va_recv hK.1 hP (ci := 12) (q0 := 0) rfl rfl) hP hK rfl hl.1 rfl (Nat.le_of_ble_eq_true rfl) dX12_alikeTo_28 ⟨Nat.le_of_ble_eq_true rfl, Nat.le_of_ble_eq_true rfl⟩ hP hS (fun H locs hP hS => ?_)
          refine lv_if_eq (tgt := 84) hx hb dX12_alikeTo_31 (by decide) (fun c3 => ?_) (fun c3 => ?_)
          · replace hf := ifp c3 hf
            obtain ⟨t4, et4, hf⟩ := lett_e hf
            refine lv_iinc (v := t4) (lv' := [(4, .int t4), (0, .ref h), (2, .int x2), (3, .int x3)]) hx hb dX12_alikeTo_84 hl (k := 3) rfl (by rw [et4]; rfl) (by decide) rfl (fun ls hl => ?_)
            refine lv_goto (tgt := 16) hx hb dX12_alikeTo_87 (by decide) ?_
            exact ih16 x2 x3 t4 _ _ _ hf hP hS (lv_sub hl [1, 2, 3, 0] rfl)
          replace hf := ifn c3 hf
          refine lv_aload_n hx hb dX12_alikeTo_34 rfl (lv_at hl 0 rfl) ?_
          refine va_get (D := D) (ci := 12) (v := .ref (a 32)) (C := RX12) (T := TX12) (N := 52) hx hb hts hinX12 hown hK.1 hP 0 rfl rfl 32 (by decide) (hts (.fieldLink RX12 68 "RopeScaleModel" "signOf" "[I") (List.mem_of_getElem? (i := 2) rfl)) (fun _ h9 => h9) rfl dX12_alikeTo_35 ?_
          refine lv_iload hx hb dX12_alikeTo_38 (lv_at hl 3 rfl) ?_
          obtain ⟨h15, hf⟩ := gd_e hf
          refine va_iald hx hb hK.1 hP 20 0 rfl rfl h15 dX12_alikeTo_40 ?_
          refine lv_bipush (v := 61) hx hb dX12_alikeTo_41 (by decide) ?_
          refine lv_icmp_ne (tgt := 84) hx hb dX12_alikeTo_43 (by decide) (fun c5 => ?_) (fun c5 => ?_)
          · replace hf := ifn c5 hf
            obtain ⟨t6, et6, hf⟩ := lett_e hf
            refine lv_iinc (v := t6) (lv' := [(4, .int t6), (0, .ref h), (2, .int x2), (3, .int x3)]) hx hb dX12_alikeTo_84 hl (k := 3) rfl (by rw [et6]; rfl) (by decide) rfl (fun ls hl => ?_)
            refine lv_goto (tgt := 16) hx hb dX12_alikeTo_87 (by decide) ?_
            exact ih16 x2 x3 t6 _ _ _ hf hP hS (lv_sub hl [1, 2, 3, 0] rfl)
          replace hf := ifp c5 hf
          refine lv_aload_n hx hb dX12_alikeTo_46 rfl (lv_at hl 0 rfl) ?_
          refine va_get (D := D) (ci := 12) (v := .ref (a 30)) (C := RX12) (T := TX12) (N := 52) hx hb hts hinX12 hown hK.1 hP 0 rfl rfl 30 (by decide) (hts (.fieldLink RX12 62 "RopeScaleModel" "leftOf" "[I") (List.mem_of_getElem? (i := 3) rfl)) (fun _ h9 => h9) rfl dX12_alikeTo_47 ?_
          refine lv_iload hx hb dX12_alikeTo_50 (lv_at hl 3 rfl) ?_
          obtain ⟨h14, hf⟩ := gd_e hf
          refine va_iald hx hb hK.1 hP 18 0 rfl rfl h14 dX12_alikeTo_52 ?_
          refine lv_aload_n hx hb dX12_alikeTo_53 rfl (lv_at hl 0 rfl) ?_
          refine va_get (D := D) (ci := 12) (v := .ref (a 31)) (C := RX12) (T := TX12) (N := 52) hx hb hts hinX12 hown hK.1 hP 0 rfl rfl 31 (by decide) (hts (.fieldLink RX12 65 "RopeScaleModel" "rightOf" "[I") (List.mem_of_getElem? (i := 4) rfl)) (fun _ h9 => h9) rfl dX12_alikeTo_54 ?_
          refine lv_iload hx hb dX12_alikeTo_57 (lv_at hl 3 rfl) ?_
          obtain ⟨h13, hf⟩ := gd_e hf
          refine va_iald hx hb hK.1 hP 19 0 rfl rfl h13 dX12_alikeTo_59 ?_
          refine lv_ior hx hb dX12_alikeTo_60 ?_
          refine lv_iload_n hx hb dX12_alikeTo_61 rfl (lv_at hl 2 rfl) ?_
          refine lv_iand hx hb dX12_alikeTo_62 ?_
          refine lv_if_eq (tgt := 84) hx hb dX12_alikeTo_63 (by decide) (fun c7 => ?_) (fun c7 => ?_)
          · replace hf := ifp c7 hf
            obtain ⟨t8, et8, hf⟩ := lett_e hf
            refine lv_iinc (v := t8) (lv' := [(4, .int t8), (0, .ref h), (2, .int x2), (3, .int x3)]) hx hb dX12_alikeTo_84 hl (k := 3) rfl (by rw [et8]; rfl) (by decide) rfl (fun ls hl => ?_)
            refine lv_goto (tgt := 16) hx hb dX12_alikeTo_87 (by decide) ?_
            exact ih16 x2 x3 t8 _ _ _ hf hP hS (lv_sub hl [1, 2, 3, 0] rfl)
          replace hf := ifn c7 hf
          refine lv_iload_n hx hb dX12_alikeTo_66 rfl (lv_at hl 1 rfl) ?_
          refine lv_aload_n hx hb dX12_alikeTo_67 rfl (lv_at hl 0 rfl) ?_
          refine va_get (D := D) (ci := 12) (v := .ref (a 30)) (C := RX12) (T := TX12) (N := 52) hx hb hts hinX12 hown hK.1 hP 0 rfl rfl 30 (by decide) (hts (.fieldLink RX12 62 "RopeScaleModel" "leftOf" "[I") (List.mem_of_getElem? (i := 3) rfl)) (fun _ h9 => h9) rfl dX12_alikeTo_68 ?_
          refine lv_iload hx hb dX12_alikeTo_71 (lv_at hl 3 rfl) ?_
          obtain ⟨h12, hf⟩ := gd_e hf
          refine va_iald hx hb hK.1 hP 18 0 rfl rfl h12 dX12_alikeTo_73 ?_
          refine lv_ior hx hb dX12_alikeTo_74 ?_
          refine lv_aload_n hx hb dX12_alikeTo_75 rfl (lv_at hl 0 rfl) ?_
          refine va_get (D := D) (ci := 12) (v := .ref (a 31)) (C := RX12) (T := TX12) (N := 52) hx hb hts hinX12 hown hK.1 hP 0 rfl rfl 31 (by decide) (hts (.fieldLink RX12 65 "RopeScaleModel" "rightOf" "[I") (List.mem_of_getElem? (i := 4) rfl)) (fun _ h9 => h9) rfl dX12_alikeTo_76 ?_
          refine lv_iload hx hb dX12_alikeTo_79 (lv_at hl 3 rfl) ?_
          obtain ⟨h11, hf⟩ := gd_e hf
          refine va_iald hx hb hK.1 hP 19 0 rfl rfl h11 dX12_alikeTo_81 ?_
          refine lv_ior hx hb dX12_alikeTo_82 ?_
          obtain ⟨t9, et9, hf⟩ := lett_e hf
          refine lv_eqi et9 ?_
          refine lv_istore_n (lv' := [(2, .int t9), (0, .ref h), (3, .int x3), (4, .int x4)]) hx hb dX12_alikeTo_83 rfl hl (by decide) rfl (fun ls hl => ?_)
          obtain ⟨t10, et10, hf⟩ := lett_e hf
          refine lv_iinc (v := t10) (lv' := [(4, .int t10), (2, .int t9), (0, .ref h), (3, .int x3)]) hx hb dX12_alikeTo_84 hl (k := 3) rfl (by rw [et10]; rfl) (by decide) rfl (fun ls hl => ?_)
          refine lv_goto (tgt := 16) hx hb dX12_alikeTo_87 (by decide) ?_
          exact ih16 t9 x3 t10 _ _ _ hf hP hS (lv_sub hl [2, 1, 3, 0] rfl)
      intro x2 x3 H locs ls hf hP hS hl
      replace hf : bX12_alikeTo_L6 u (fX12_alikeTo_L6 u n6) x2 x3 = some res := hf
      unfold bX12_alikeTo_L6 at hf
      refine lv_iload_n hx hb dX12_alikeTo_6 rfl (lv_at hl 1 rfl) ?_
      refine lv_iload_n hx hb dX12_alikeTo_7 rfl (lv_at hl 2 rfl) ?_
      refine lv_icmp_eq (tgt := 93) hx hb dX12_alikeTo_8 (by decide) (fun c16 => ?_) (fun c16 => ?_)
      · replace hf := ifp c16 hf
        refine lv_iload_n hx hb dX12_alikeTo_93 rfl (lv_at hl 1 rfl) ?_
        exact retR hx hb hr hlocks hS (Option.some.inj hf) dX12_alikeTo_94
      replace hf := ifn c16 hf
      refine lv_iload_n hx hb dX12_alikeTo_11 rfl (lv_at hl 1 rfl) ?_
      refine lv_istore_n (lv' := [(3, .int x2), (0, .ref h), (2, .int x2)]) hx hb dX12_alikeTo_12 rfl hl (by decide) rfl (fun ls hl => ?_)
      refine lv_iconst (v := 0) hx hb dX12_alikeTo_13 (by decide) ?_
      refine lv_istore (lv' := [(4, .int 0), (3, .int x2), (0, .ref h), (2, .int x2)]) hx hb dX12_alikeTo_14 hl (by decide) rfl (fun ls hl => ?_)
      exact L16 FU x2 x2 0 _ _ _ hf hP hS (lv_sub hl [2, 3, 1, 0] rfl)
  unfold fX12_alikeTo at hf
  refine lv_iconst (v := 1) hx hb dX12_alikeTo_0 (by decide) ?_
  refine lv_iload_n hx hb dX12_alikeTo_1 rfl (lv_at hl 1 rfl) ?_
  refine lv_ishl hx hb dX12_alikeTo_2 ?_
  obtain ⟨t17, et17, hf⟩ := lett_e hf
  refine lv_eqi et17 ?_
  refine lv_istore_n (lv' := [(2, .int t17), (0, .ref h), (1, .int p1)]) hx hb dX12_alikeTo_3 rfl hl (by decide) rfl (fun ls hl => ?_)
  refine lv_iconst (v := 0) hx hb dX12_alikeTo_4 (by decide) ?_
  refine lv_istore_n (lv' := [(3, .int 0), (2, .int t17), (0, .ref h), (1, .int p1)]) hx hb dX12_alikeTo_5 rfl hl (by decide) rfl (fun ls hl => ?_)
  exact L6 FU t17 0 _ _ _ hf hP hS (lv_sub hl [2, 1, 0] rfl)
