def fX12_readsSum_J138   (v : St) (x1 : Int32) : Option (Int32 × St) := (fX12_hasOpenSum v x1).bind fun z1 => if z1 = 0 then (fX12_closesSums v 1).bind fun z3 => some (1, z3) else lett (fX12_wrongAt v 1 (v 7 0)) fun z4 => zb z4.1 <| some (z4.1, z4.2)
def fX12_readsSum_J38  (lp14 : St → Int32 → Option (Int32 × St)) (v : St) (x1 : Int32) (x2 : Int32) (y0 : Int32) : Option (Int32 × St) := (fX12_closesSums v y0).bind fun z5 => gd (z5 13 0) 260 <| lett (st z5 17 (ix (z5 13 0)) (1048576 * x2)) fun u6 => lett (st u6 13 0 ((u6 13 0) + 1)) fun u7 => lett (st u7 7 0 ((u7 7 0) + 1)) fun u8 => (fX12_readsFactor u8).bind fun z9 => if z9.1 = 0 then some (0, z9.2) else lp14 z9.2 x1
def bX12_readsSum_L14   (lp14 : St → Int32 → Option (Int32 × St)) (v : St) (x1 : Int32) : Option (Int32 × St) := (fX12_here v).bind fun z12 => lett (fX12_sumSign z12) fun z13 => if z13 = (-1) then (fX12_here v).bind fun z15 => if z15 = 93 then (fX12_hasOpenSum v x1).bind fun z17 => if z17 = 0 then fX12_readsSum_J138 v x1 else (fX12_closesSums v 1).bind fun z19 => lett (st z19 13 0 ((z19 13 0) - 1)) fun u20 => lett (st u20 11 0 ((u20 11 0) - 1)) fun u21 => lett (st u21 7 0 ((u21 7 0) + 1)) fun u22 => lp14 u22 x1 else fX12_readsSum_J138 v x1 else if 4 ≤ z13 then fX12_readsSum_J38 lp14 v x1 z13 0 else fX12_readsSum_J38 lp14 v x1 z13 1
def fX12_readsSum_L14   : Nat → St → Int32 → Option (Int32 × St)
  | 0, _, _ => none
  | n + 1, v, x1 => bX12_readsSum_L14  (fX12_readsSum_L14  n) v x1
def fX12_readsSum  (u : St)  : Option (Int32 × St) := lett (u 13 0) fun t24 => (fX12_readsFactor u).bind fun z25 => if z25.1 = 0 then some (0, z25.2) else fX12_readsSum_L14 FU z25.2 t24
set_option maxHeartbeats 4000000 in
set_option maxRecDepth 100000 in
theorem mX12_readsSum (l : Launch) (D : va_G) (T : Ty3) (h : Nat) (a : Nat → Nat) (u : St) (sz : Nat)  (res : Int32 × St) (hf : fX12_readsSum u = some res) : Met l yX12_readsSum wsX12_readsSum ({ frames := 4, cells := 0, slots := 0, locals := 82 }) (PcM D T (kX12 T h a u) sz [.ref h]) (QM D (kX12 T h a u) sz res.1 (kX12 T h a res.2)) 0 0 (va_A (kX12 T h a u) sz) := by
  refine Met.ofW (cc := cX12_readsSum) (maxL := 3) (ret := (some .boolean)) (by decide) rfl ?_
  intro p e s m args below meth c s₁ B hml hv
  obtain ⟨rfl, hsz, hP, hK, hD0⟩ := hv
  have hx := B.exec
  have hb := B.bytes
  have hr := B.returns
  have hts := atoms_spec (ws := wsX12_readsSum) B.pre
  have hown : s.vm.findClass RX12 = some m.cls := findClass_of_methodNamed B.named
  have hlocks := B.notSynchronized
  subst hsz
  have hD := hD0.self (sz := s.heap.size)
  have hA : ∀ q : Nat, s.heap.size ≤ q → va_A (kX12 T h a u) s.heap.size q := fun q h => Or.inr h
  have hS : va_S (va_A (kX12 T h a u) s.heap.size) s.heap s.heap [] := va_S.rf
  have hinX12 : ∀ w ∈ u_ws RX12 TX12 52, w ∈ wsX12_readsSum := fun w h => List.mem_cons_of_mem _ (List.mem_append_right _ h)
  have hl := lv_entry ([.ref h]) (n := 3) (Nat.le_of_ble_eq_true rfl)
  rw [lg_entry_eq]
  generalize (lg_sl ([.ref h]) ++ List.replicate (3 - (lg_sl ([.ref h])).length) Slot.unset).toArray = ls at hl ⊢
  have hl : lv_has ls 3 [(0, .ref h)] := hl
  have J138 : ∀ (v : St) (x1 : Int32) (H : Heap) (locs : List Loc) (ls : Array Slot), fX12_readsSum_J138  v x1 = some res → va_P D vwCl (kX12 T h a v) H → va_D (va_A (kX12 T h a u) s.heap.size) (kX12 T h a v) → va_S (va_A (kX12 T h a u) s.heap.size) s.heap H locs → lv_has ls 3 [(0, .ref h), (1, .int x1)] → W p l e (headSpec wsX12_readsSum ({ frames := 4, cells := 0, slots := 0, locals := 82 })).room s m ([.ref h] : List Value).toArray below meth c H locs 0 0 (MQ below (QM D (kX12 T h a u) s.heap.size res.1 (kX12 T h a res.2)) ([.ref h] : List Value).toArray s 0 0 (va_A (kX12 T h a u) s.heap.size)) (F0 m 138 ls []) := by
    intro v x1 H locs ls hf hP hD hS hl
    unfold fX12_readsSum_J138 at hf
    refine lv_aload_n hx hb dX12_readsSum_138 rfl (lv_at hl 0 rfl) ?_
    refine lv_iload_n hx hb dX12_readsSum_139 rfl (lv_at hl 1 rfl) ?_
    obtain ⟨z1, hz1, hf⟩ := bnd hf
    refine cVR (As := [.int x1]) (rest := []) ⟨hx, hb, hml, hown, hts⟩ (mX12_hasOpenSum l D T h a v x1 z1 hz1) (cwV 1 hts gX12_readsSum_X12_hasOpenSum rfl rfl rfl (by decide +kernel) ⟨Nat.le_of_ble_eq_true rfl, Nat.le_of_ble_eq_true rfl⟩) (va_recv hK.1 hP (ci := 12) (q0 := 0) rfl rfl) hP hK rfl hl.1 rfl (Nat.le_of_ble_eq_true rfl) dX12_readsSum_140 ⟨Nat.le_of_ble_eq_true rfl, Nat.le_of_ble_eq_true rfl⟩ hP hS (fun H locs hP hS => ?_)
    refine lv_if_eq (tgt := 156) hx hb dX12_readsSum_143 (by decide) (fun c2 => ?_) (fun c2 => ?_)
    · replace hf := ifp c2 hf
      refine lv_aload_n hx hb dX12_readsSum_156 rfl (lv_at hl 0 rfl) ?_
      refine lv_iconst (v := 1) hx hb dX12_readsSum_157 (by decide) ?_
      obtain ⟨z3, hz3, hf⟩ := bnd hf
      have hFc9 := vaA_self hD hS hA
      refine cVMv (As := [.int 1]) (rest := []) ⟨hx, hb, hml, hown, hts⟩ (mX12_closesSums l D T h a v _ 1 z3 hz3) (cwV 1 hts gX12_readsSum_X12_closesSums rfl rfl rfl (by decide +kernel) ⟨Nat.le_of_ble_eq_true rfl, Nat.le_of_ble_eq_true rfl⟩) (va_recv hK.1 hP (ci := 12) (q0 := 0) rfl rfl) hP hK rfl hl.1 rfl (Nat.le_of_ble_eq_true rfl) dX12_readsSum_158 ⟨Nat.le_of_ble_eq_true rfl, Nat.le_of_ble_eq_true rfl⟩ hD hFc9 hS (fun H locs hP hD1 _ hS => ?_)
      have hD := hD1.weaken (fun _ _ _ h9 => hFc9 _ h9)
      refine lv_iconst (v := 1) hx hb dX12_readsSum_161 (by decide) ?_
      have e9 := Option.some.inj hf
      exact retMz hx hb hr hlocks hP hD hS rfl (congrArg (fun z => z.1) e9) (congrArg (fun z => (kX12 T h a z.2 : va_W)) e9) dX12_readsSum_162
    replace hf := ifn c2 hf
    refine lv_aload_n hx hb dX12_readsSum_146 rfl (lv_at hl 0 rfl) ?_
    refine lv_iconst (v := 1) hx hb dX12_readsSum_147 (by decide) ?_
    refine lv_aload_n hx hb dX12_readsSum_148 rfl (lv_at hl 0 rfl) ?_
    refine va_get (D := D) (ci := 12) (v := .int (v 7 0)) (C := RX12) (T := TX12) (N := 52) hx hb hts hinX12 hown hK.1 hP 0 rfl rfl 7 (by decide) (hts (.fieldLink RX12 126 "RopeScaleModel" "place0" "I") (List.mem_of_getElem? (i := 4) rfl)) (fun _ h9 => h9) rfl dX12_readsSum_149 ?_
    obtain ⟨z4, hz4, hf⟩ := lett_e hf
    have hFc9 := vaA_self hD hS hA
    refine cVM (As := [.int 1, .int (v 7 0)]) (rest := []) ⟨hx, hb, hml, hown, hts⟩ (mX12_wrongAt l D T h a v _ 1 (v 7 0) z4 hz4.symm) (cwV 2 hts gX12_readsSum_X12_wrongAt rfl rfl rfl (by decide +kernel) ⟨Nat.le_of_ble_eq_true rfl, Nat.le_of_ble_eq_true rfl⟩) (va_recv hK.1 hP (ci := 12) (q0 := 0) rfl rfl) hP hK rfl hl.1 rfl (Nat.le_of_ble_eq_true rfl) dX12_readsSum_152 ⟨Nat.le_of_ble_eq_true rfl, Nat.le_of_ble_eq_true rfl⟩ hD hFc9 hS (fun H locs hP hD1 _ hS => ?_)
    have hD := hD1.weaken (fun _ _ _ h9 => hFc9 _ h9)
    obtain ⟨hz9, hf⟩ := zb_e hf
    have e9 := Option.some.inj hf
    exact retMz hx hb hr hlocks hP hD hS hz9 (congrArg (fun z => z.1) e9) (congrArg (fun z => (kX12 T h a z.2 : va_W)) e9) dX12_readsSum_155
  have L14 : ∀ (n14 : Nat), ∀ (v : St) (x1 : Int32) (H : Heap) (locs : List Loc) (ls : Array Slot), fX12_readsSum_L14  n14 v x1 = some res → va_P D vwCl (kX12 T h a v) H → va_D (va_A (kX12 T h a u) s.heap.size) (kX12 T h a v) → va_S (va_A (kX12 T h a u) s.heap.size) s.heap H locs → lv_has ls 3 [(0, .ref h), (1, .int x1)] → W p l e (headSpec wsX12_readsSum ({ frames := 4, cells := 0, slots := 0, locals := 82 })).room s m ([.ref h] : List Value).toArray below meth c H locs 0 0 (MQ below (QM D (kX12 T h a u) s.heap.size res.1 (kX12 T h a res.2)) ([.ref h] : List Value).toArray s 0 0 (va_A (kX12 T h a u) s.heap.size)) (F0 m 14 ls []) := by
    intro n14
    induction n14 with
    | zero => intro v x1 H locs ls hf; exact nns hf
    | succ n14 ih14 =>
      have J38 : ∀ (v : St) (x1 : Int32) (x2 : Int32) (y0 : Int32) (H : Heap) (locs : List Loc) (ls : Array Slot), fX12_readsSum_J38 (fX12_readsSum_L14  n14) v x1 x2 y0 = some res → va_P D vwCl (kX12 T h a v) H → va_D (va_A (kX12 T h a u) s.heap.size) (kX12 T h a v) → va_S (va_A (kX12 T h a u) s.heap.size) s.heap H locs → lv_has ls 3 [(0, .ref h), (1, .int x1), (2, .int x2)] → W p l e (headSpec wsX12_readsSum ({ frames := 4, cells := 0, slots := 0, locals := 82 })).room s m ([.ref h] : List Value).toArray below meth c H locs 0 0 (MQ below (QM D (kX12 T h a u) s.heap.size res.1 (kX12 T h a res.2)) ([.ref h] : List Value).toArray s 0 0 (va_A (kX12 T h a u) s.heap.size)) (F0 m 38 ls [.int y0, .ref h]) := by
        intro v x1 x2 y0 H locs ls hf hP hD hS hl
        unfold fX12_readsSum_J38 at hf
        obtain ⟨z5, hz5, hf⟩ := bnd hf
        have hFc9 := vaA_self hD hS hA
        refine cVMv (As := [.int y0]) (rest := []) ⟨hx, hb, hml, hown, hts⟩ (mX12_closesSums l D T h a v _ y0 z5 hz5) (cwV 1 hts gX12_readsSum_X12_closesSums rfl rfl rfl (by decide +kernel) ⟨Nat.le_of_ble_eq_true rfl, Nat.le_of_ble_eq_true rfl⟩) (va_recv hK.1 hP (ci := 12) (q0 := 0) rfl rfl) hP hK rfl hl.1 rfl (Nat.le_of_ble_eq_true rfl) dX12_readsSum_38 ⟨Nat.le_of_ble_eq_true rfl, Nat.le_of_ble_eq_true rfl⟩ hD hFc9 hS (fun H locs hP hD1 _ hS => ?_)
        have hD := hD1.weaken (fun _ _ _ h9 => hFc9 _ h9)
        refine lv_aload_n hx hb dX12_readsSum_41 rfl (lv_at hl 0 rfl) ?_
        refine va_get (D := D) (ci := 12) (v := .ref (a 17)) (C := RX12) (T := TX12) (N := 52) hx hb hts hinX12 hown hK.1 hP 0 rfl rfl 17 (by decide) (hts (.fieldLink RX12 26 "RopeScaleModel" "waitsAt" "[I") (List.mem_of_getElem? (i := 2) rfl)) (fun _ h9 => h9) rfl dX12_readsSum_42 ?_
        refine lv_aload_n hx hb dX12_readsSum_45 rfl (lv_at hl 0 rfl) ?_
        refine va_get (D := D) (ci := 12) (v := .int (z5 13 0)) (C := RX12) (T := TX12) (N := 52) hx hb hts hinX12 hown hK.1 hP 0 rfl rfl 13 (by decide) (hts (.fieldLink RX12 157 "RopeScaleModel" "waiting" "I") (List.mem_of_getElem? (i := 1) rfl)) (fun _ h9 => h9) rfl dX12_readsSum_46 ?_
        refine lv_ldc (v := 1048576) hx hb hown (hts (.constant RX12 153 (1048576)) (List.mem_of_getElem? (i := 3) rfl)) dX12_readsSum_49 ?_
        refine lv_iload_n hx hb dX12_readsSum_51 rfl (lv_at hl 2 rfl) ?_
        refine lv_imul hx hb dX12_readsSum_52 ?_
        obtain ⟨h11, hf⟩ := gd_e hf
        obtain ⟨u6, eu6, hf⟩ := lett_e hf
        refine va_iast hx hb hK.1 hP hD hS 6 0 rfl rfl h11 dX12_readsSum_53 (fun H locs hP hD hS => ?_)
        have hP : va_P D vwCl (kX12 T h a u6) H := by rw [eu6]; exact hP
        have hD : va_D (va_A (kX12 T h a u) s.heap.size) (kX12 T h a u6) := by rw [eu6]; exact hD
        refine lv_aload_n hx hb dX12_readsSum_54 rfl (lv_at hl 0 rfl) ?_
        refine lv_aload_n hx hb dX12_readsSum_55 rfl (lv_at hl 0 rfl) ?_
        refine va_get (D := D) (ci := 12) (v := .int (u6 13 0)) (C := RX12) (T := TX12) (N := 52) hx hb hts hinX12 hown hK.1 hP 0 rfl rfl 13 (by decide) (hts (.fieldLink RX12 157 "RopeScaleModel" "waiting" "I") (List.mem_of_getElem? (i := 1) rfl)) (fun _ h9 => h9) rfl dX12_readsSum_56 ?_
        refine lv_iconst (v := 1) hx hb dX12_readsSum_59 (by decide) ?_
        refine lv_iadd hx hb dX12_readsSum_60 ?_
        obtain ⟨u7, eu7, hf⟩ := lett_e hf
        refine va_put (D := D) (ci := 12) (v := .int ((u6 13 0) + 1)) (ty := .int) (C := RX12) (T := TX12) (N := 52) hx hb hts hinX12 tyX12 tyX12_ok nmX12 hown hK.1 hP hD hS 0 rfl rfl 13 (by decide) (hts (.fieldLink RX12 157 "RopeScaleModel" "waiting" "I") (List.mem_of_getElem? (i := 1) rfl)) (fun _ h9 => h9) rfl (tyX12_ok 13 (by decide)) rfl rfl (Nat.le_of_ble_eq_true rfl) dX12_readsSum_61 (fun H locs hP hD hS => ?_)
        have hP : va_P D vwCl (kX12 T h a u7) H := by rw [eu7]; exact hP
        have hD : va_D (va_A (kX12 T h a u) s.heap.size) (kX12 T h a u7) := by rw [eu7]; exact hD
        refine lv_aload_n hx hb dX12_readsSum_64 rfl (lv_at hl 0 rfl) ?_
        refine lv_aload_n hx hb dX12_readsSum_65 rfl (lv_at hl 0 rfl) ?_
        refine va_get (D := D) (ci := 12) (v := .int (u7 7 0)) (C := RX12) (T := TX12) (N := 52) hx hb hts hinX12 hown hK.1 hP 0 rfl rfl 7 (by decide) (hts (.fieldLink RX12 126 "RopeScaleModel" "place0" "I") (List.mem_of_getElem? (i := 4) rfl)) (fun _ h9 => h9) rfl dX12_readsSum_66 ?_
        refine lv_iconst (v := 1) hx hb dX12_readsSum_69 (by decide) ?_
        refine lv_iadd hx hb dX12_readsSum_70 ?_
        obtain ⟨u8, eu8, hf⟩ := lett_e hf
        refine va_put (D := D) (ci := 12) (v := .int ((u7 7 0) + 1)) (ty := .int) (C := RX12) (T := TX12) (N := 52) hx hb hts hinX12 tyX12 tyX12_ok nmX12 hown hK.1 hP hD hS 0 rfl rfl 7 (by decide) (hts (.fieldLink RX12 126 "RopeScaleModel" "place0" "I") (List.mem_of_getElem? (i := 4) rfl)) (fun _ h9 => h9) rfl (tyX12_ok 7 (by decide)) rfl rfl (Nat.le_of_ble_eq_true rfl) dX12_readsSum_71 (fun H locs hP hD hS => ?_)
        have hP : va_P D vwCl (kX12 T h a u8) H := by rw [eu8]; exact hP
        have hD : va_D (va_A (kX12 T h a u) s.heap.size) (kX12 T h a u8) := by rw [eu8]; exact hD
        refine lv_aload_n hx hb dX12_readsSum_74 rfl (lv_at hl 0 rfl) ?_
        obtain ⟨z9, hz9, hf⟩ := bnd hf
        have hFc9 := vaA_self hD hS hA
        refine cVM (As := []) (rest := []) ⟨hx, hb, hml, hown, hts⟩ (mX12_readsFactor l D T h a u8 _ z9 hz9) (cwV 0 hts gX12_readsSum_X12_readsFactor rfl rfl rfl (by decide +kernel) ⟨Nat.le_of_ble_eq_true rfl, Nat.le_of_ble_eq_true rfl⟩) (va_recv hK.1 hP (ci := 12) (q0 := 0) rfl rfl) hP hK rfl hl.1 rfl (Nat.le_of_ble_eq_true rfl) dX12_readsSum_75 ⟨Nat.le_of_ble_eq_true rfl, Nat.le_of_ble_eq_true rfl⟩ hD hFc9 hS (fun H locs hP hD1 _ hS => ?_)
        have hD := hD1.weaken (fun _ _ _ h9 => hFc9 _ h9)
        refine lv_if_ne (tgt := 163) hx hb dX12_readsSum_78 (by decide) (fun c10 => ?_) (fun c10 => ?_)
        · replace hf := ifn c10 hf
          refine lv_goto (tgt := 14) hx hb dX12_readsSum_163 (by decide) ?_
          exact ih14 z9.2 x1 _ _ _ hf hP hD hS (lv_sub hl [0, 1] rfl)
        replace hf := ifp c10 hf
        refine lv_iconst (v := 0) hx hb dX12_readsSum_81 (by decide) ?_
        have e9 := Option.some.inj hf
        exact retMz hx hb hr hlocks hP hD hS rfl (congrArg (fun z => z.1) e9) (congrArg (fun z => (kX12 T h a z.2 : va_W)) e9) dX12_readsSum_82
      intro v x1 H locs ls hf hP hD hS hl
      replace hf : bX12_readsSum_L14  (fX12_readsSum_L14  n14) v x1 = some res := hf
      unfold bX12_readsSum_L14 at hf
      refine lv_aload_n hx hb dX12_readsSum_14 rfl (lv_at hl 0 rfl) ?_
      obtain ⟨z12, hz12, hf⟩ := bnd hf
      refine cVR (As := []) (rest := []) ⟨hx, hb, hml, hown, hts⟩ (mX12_here l D T h a v z12 hz12) (cwV 0 hts gX12_readsSum_X12_here rfl rfl rfl (by decide +kernel) ⟨Nat.le_of_ble_eq_true rfl, Nat.le_of_ble_eq_true rfl⟩) (va_recv hK.1 hP (ci := 12) (q0 := 0) rfl rfl) hP hK rfl hl.1 rfl (Nat.le_of_ble_eq_true rfl) dX12_readsSum_15 ⟨Nat.le_of_ble_eq_true rfl, Nat.le_of_ble_eq_true rfl⟩ hP hS (fun H locs hP hS => ?_)
      obtain ⟨z13, hz13, hf⟩ := lett_e hf
      refine cSR (As := [.int z12]) (rest := []) ⟨hx, hb, hml, hown, hts⟩ (mX12_sumSign l D T z12 z13 hz13.symm) (va_cwS 1 hts gX12_readsSum_X12_sumSign rfl rfl rfl (by decide +kernel) ⟨Nat.le_of_ble_eq_true rfl, Nat.le_of_ble_eq_true rfl⟩) P0 hK rfl hl.1 rfl (Nat.le_of_ble_eq_true rfl) dX12_readsSum_18 ⟨Nat.le_of_ble_eq_true rfl, Nat.le_of_ble_eq_true rfl⟩ hP hS (fun H locs hP hS => ?_)
      refine lv_istore_n (lv' := [(2, .int z13), (0, .ref h), (1, .int x1)]) hx hb dX12_readsSum_21 rfl hl (by decide) rfl (fun ls hl => ?_)
      refine lv_iload_n hx hb dX12_readsSum_22 rfl (lv_at hl 0 rfl) ?_
      refine lv_iconst (v := (-1)) hx hb dX12_readsSum_23 (by decide) ?_
      refine lv_icmp_eq (tgt := 83) hx hb dX12_readsSum_24 (by decide) (fun c14 => ?_) (fun c14 => ?_)
      · replace hf := ifp c14 hf
        refine lv_aload_n hx hb dX12_readsSum_83 rfl (lv_at hl 1 rfl) ?_
        obtain ⟨z15, hz15, hf⟩ := bnd hf
        refine cVR (As := []) (rest := []) ⟨hx, hb, hml, hown, hts⟩ (mX12_here l D T h a v z15 hz15) (cwV 0 hts gX12_readsSum_X12_here rfl rfl rfl (by decide +kernel) ⟨Nat.le_of_ble_eq_true rfl, Nat.le_of_ble_eq_true rfl⟩) (va_recv hK.1 hP (ci := 12) (q0 := 0) rfl rfl) hP hK rfl hl.1 rfl (Nat.le_of_ble_eq_true rfl) dX12_readsSum_84 ⟨Nat.le_of_ble_eq_true rfl, Nat.le_of_ble_eq_true rfl⟩ hP hS (fun H locs hP hS => ?_)
        refine lv_bipush (v := 93) hx hb dX12_readsSum_87 (by decide) ?_
        refine lv_icmp_ne (tgt := 138) hx hb dX12_readsSum_89 (by decide) (fun c16 => ?_) (fun c16 => ?_)
        · replace hf := ifn c16 hf
          exact J138 v x1 _ _ _ hf hP hD hS (lv_sub hl [1, 2] rfl)
        replace hf := ifp c16 hf
        refine lv_aload_n hx hb dX12_readsSum_92 rfl (lv_at hl 1 rfl) ?_
        refine lv_iload_n hx hb dX12_readsSum_93 rfl (lv_at hl 2 rfl) ?_
        obtain ⟨z17, hz17, hf⟩ := bnd hf
        refine cVR (As := [.int x1]) (rest := []) ⟨hx, hb, hml, hown, hts⟩ (mX12_hasOpenSum l D T h a v x1 z17 hz17) (cwV 1 hts gX12_readsSum_X12_hasOpenSum rfl rfl rfl (by decide +kernel) ⟨Nat.le_of_ble_eq_true rfl, Nat.le_of_ble_eq_true rfl⟩) (va_recv hK.1 hP (ci := 12) (q0 := 0) rfl rfl) hP hK rfl hl.1 rfl (Nat.le_of_ble_eq_true rfl) dX12_readsSum_94 ⟨Nat.le_of_ble_eq_true rfl, Nat.le_of_ble_eq_true rfl⟩ hP hS (fun H locs hP hS => ?_)
        refine lv_if_eq (tgt := 138) hx hb dX12_readsSum_97 (by decide) (fun c18 => ?_) (fun c18 => ?_)
        · replace hf := ifp c18 hf
          exact J138 v x1 _ _ _ hf hP hD hS (lv_sub hl [1, 2] rfl)
        replace hf := ifn c18 hf
        refine lv_aload_n hx hb dX12_readsSum_100 rfl (lv_at hl 1 rfl) ?_
        refine lv_iconst (v := 1) hx hb dX12_readsSum_101 (by decide) ?_
        obtain ⟨z19, hz19, hf⟩ := bnd hf
        have hFc9 := vaA_self hD hS hA
        refine cVMv (As := [.int 1]) (rest := []) ⟨hx, hb, hml, hown, hts⟩ (mX12_closesSums l D T h a v _ 1 z19 hz19) (cwV 1 hts gX12_readsSum_X12_closesSums rfl rfl rfl (by decide +kernel) ⟨Nat.le_of_ble_eq_true rfl, Nat.le_of_ble_eq_true rfl⟩) (va_recv hK.1 hP (ci := 12) (q0 := 0) rfl rfl) hP hK rfl hl.1 rfl (Nat.le_of_ble_eq_true rfl) dX12_readsSum_102 ⟨Nat.le_of_ble_eq_true rfl, Nat.le_of_ble_eq_true rfl⟩ hD hFc9 hS (fun H locs hP hD1 _ hS => ?_)
        have hD := hD1.weaken (fun _ _ _ h9 => hFc9 _ h9)
        refine lv_aload_n hx hb dX12_readsSum_105 rfl (lv_at hl 1 rfl) ?_
        refine lv_aload_n hx hb dX12_readsSum_106 rfl (lv_at hl 1 rfl) ?_
        refine va_get (D := D) (ci := 12) (v := .int (z19 13 0)) (C := RX12) (T := TX12) (N := 52) hx hb hts hinX12 hown hK.1 hP 0 rfl rfl 13 (by decide) (hts (.fieldLink RX12 157 "RopeScaleModel" "waiting" "I") (List.mem_of_getElem? (i := 1) rfl)) (fun _ h9 => h9) rfl dX12_readsSum_107 ?_
        refine lv_iconst (v := 1) hx hb dX12_readsSum_110 (by decide) ?_
        refine lv_isub hx hb dX12_readsSum_111 ?_
        obtain ⟨u20, eu20, hf⟩ := lett_e hf
        refine va_put (D := D) (ci := 12) (v := .int ((z19 13 0) - 1)) (ty := .int) (C := RX12) (T := TX12) (N := 52) hx hb hts hinX12 tyX12 tyX12_ok nmX12 hown hK.1 hP hD hS 0 rfl rfl 13 (by decide) (hts (.fieldLink RX12 157 "RopeScaleModel" "waiting" "I") (List.mem_of_getElem? (i := 1) rfl)) (fun _ h9 => h9) rfl (tyX12_ok 13 (by decide)) rfl rfl (Nat.le_of_ble_eq_true rfl) dX12_readsSum_112 (fun H locs hP hD hS => ?_)
        have hP : va_P D vwCl (kX12 T h a u20) H := by rw [eu20]; exact hP
        have hD : va_D (va_A (kX12 T h a u) s.heap.size) (kX12 T h a u20) := by rw [eu20]; exact hD
        refine lv_aload_n hx hb dX12_readsSum_115 rfl (lv_at hl 1 rfl) ?_
        refine lv_aload_n hx hb dX12_readsSum_116 rfl (lv_at hl 1 rfl) ?_
        refine va_get (D := D) (ci := 12) (v := .int (u20 11 0)) (C := RX12) (T := TX12) (N := 52) hx hb hts hinX12 hown hK.1 hP 0 rfl rfl 11 (by decide) (hts (.fieldLink RX12 154 "RopeScaleModel" "open" "I") (List.mem_of_getElem? (i := 5) rfl)) (fun _ h9 => h9) rfl dX12_readsSum_117 ?_
        refine lv_iconst (v := 1) hx hb dX12_readsSum_120 (by decide) ?_
        refine lv_isub hx hb dX12_readsSum_121 ?_
        obtain ⟨u21, eu21, hf⟩ := lett_e hf
        refine va_put (D := D) (ci := 12) (v := .int ((u20 11 0) - 1)) (ty := .int) (C := RX12) (T := TX12) (N := 52) hx hb hts hinX12 tyX12 tyX12_ok nmX12 hown hK.1 hP hD hS 0 rfl rfl 11 (by decide) (hts (.fieldLink RX12 154 "RopeScaleModel" "open" "I") (List.mem_of_getElem? (i := 5) rfl)) (fun _ h9 => h9) rfl (tyX12_ok 11 (by decide)) rfl rfl (Nat.le_of_ble_eq_true rfl) dX12_readsSum_122 (fun H locs hP hD hS => ?_)
        have hP : va_P D vwCl (kX12 T h a u21) H := by rw [eu21]; exact hP
        have hD : va_D (va_A (kX12 T h a u) s.heap.size) (kX12 T h a u21) := by rw [eu21]; exact hD
        refine lv_aload_n hx hb dX12_readsSum_125 rfl (lv_at hl 1 rfl) ?_
        refine lv_aload_n hx hb dX12_readsSum_126 rfl (lv_at hl 1 rfl) ?_
        refine va_get (D := D) (ci := 12) (v := .int (u21 7 0)) (C := RX12) (T := TX12) (N := 52) hx hb hts hinX12 hown hK.1 hP 0 rfl rfl 7 (by decide) (hts (.fieldLink RX12 126 "RopeScaleModel" "place0" "I") (List.mem_of_getElem? (i := 4) rfl)) (fun _ h9 => h9) rfl dX12_readsSum_127 ?_
        refine lv_iconst (v := 1) hx hb dX12_readsSum_130 (by decide) ?_
        refine lv_iadd hx hb dX12_readsSum_131 ?_
        obtain ⟨u22, eu22, hf⟩ := lett_e hf
        refine va_put (D := D) (ci := 12) (v := .int ((u21 7 0) + 1)) (ty := .int) (C := RX12) (T := TX12) (N := 52) hx hb hts hinX12 tyX12 tyX12_ok nmX12 hown hK.1 hP hD hS 0 rfl rfl 7 (by decide) (hts (.fieldLink RX12 126 "RopeScaleModel" "place0" "I") (List.mem_of_getElem? (i := 4) rfl)) (fun _ h9 => h9) rfl (tyX12_ok 7 (by decide)) rfl rfl (Nat.le_of_ble_eq_true rfl) dX12_readsSum_132 (fun H locs hP hD hS => ?_)
        have hP : va_P D vwCl (kX12 T h a u22) H := by rw [eu22]; exact hP
        have hD : va_D (va_A (kX12 T h a u) s.heap.size) (kX12 T h a u22) := by rw [eu22]; exact hD
        refine lv_goto (tgt := 163) hx hb dX12_readsSum_135 (by decide) ?_
        refine lv_goto (tgt := 14) hx hb dX12_readsSum_163 (by decide) ?_
        exact ih14 u22 x1 _ _ _ hf hP hD hS (lv_sub hl [1, 2] rfl)
      replace hf := ifn c14 hf
      refine lv_aload_n hx hb dX12_readsSum_27 rfl (lv_at hl 1 rfl) ?_
      refine lv_iload_n hx hb dX12_readsSum_28 rfl (lv_at hl 0 rfl) ?_
      refine lv_iconst (v := 4) hx hb dX12_readsSum_29 (by decide) ?_
      refine lv_icmp_ge (tgt := 37) hx hb dX12_readsSum_30 (by decide) (fun c23 => ?_) (fun c23 => ?_)
      · replace hf := ifp c23 hf
        refine lv_iconst (v := 0) hx hb dX12_readsSum_37 (by decide) ?_
        exact J38 v x1 z13 0 _ _ _ hf hP hD hS (lv_sub hl [1, 2, 0] rfl)
      replace hf := ifn c23 hf
      refine lv_iconst (v := 1) hx hb dX12_readsSum_33 (by decide) ?_
      refine lv_goto (tgt := 38) hx hb dX12_readsSum_34 (by decide) ?_
      exact J38 v x1 z13 1 _ _ _ hf hP hD hS (lv_sub hl [1, 2, 0] rfl)
  unfold fX12_readsSum at hf
  refine lv_aload_n hx hb dX12_readsSum_0 rfl (lv_at hl 0 rfl) ?_
  refine va_get (D := D) (ci := 12) (v := .int (u 13 0)) (C := RX12) (T := TX12) (N := 52) hx hb hts hinX12 hown hK.1 hP 0 rfl rfl 13 (by decide) (hts (.fieldLink RX12 157 "RopeScaleModel" "waiting" "I") (List.mem_of_getElem? (i := 1) rfl)) (fun _ h9 => h9) rfl dX12_readsSum_1 ?_
  obtain ⟨t24, et24, hf⟩ := lett_e hf
  refine lv_eqi et24 ?_
  refine lv_istore_n (lv' := [(1, .int t24), (0, .ref h)]) hx hb dX12_readsSum_4 rfl hl (by decide) rfl (fun ls hl => ?_)
  refine lv_aload_n hx hb dX12_readsSum_5 rfl (lv_at hl 1 rfl) ?_
  obtain ⟨z25, hz25, hf⟩ := bnd hf
  have hFc9 := vaA_self hD hS hA
  refine cVM (As := []) (rest := []) ⟨hx, hb, hml, hown, hts⟩ (mX12_readsFactor l D T h a u _ z25 hz25) (cwV 0 hts gX12_readsSum_X12_readsFactor rfl rfl rfl (by decide +kernel) ⟨Nat.le_of_ble_eq_true rfl, Nat.le_of_ble_eq_true rfl⟩) (va_recv hK.1 hP (ci := 12) (q0 := 0) rfl rfl) hP hK rfl hl.1 rfl (Nat.le_of_ble_eq_true rfl) dX12_readsSum_6 ⟨Nat.le_of_ble_eq_true rfl, Nat.le_of_ble_eq_true rfl⟩ hD hFc9 hS (fun H locs hP hD1 _ hS => ?_)
  have hD := hD1.weaken (fun _ _ _ h9 => hFc9 _ h9)
  refine lv_if_ne (tgt := 14) hx hb dX12_readsSum_9 (by decide) (fun c26 => ?_) (fun c26 => ?_)
  · replace hf := ifn c26 hf
    exact L14 FU z25.2 t24 _ _ _ hf hP hD hS (lv_sub hl [1, 0] rfl)
  replace hf := ifp c26 hf
  refine lv_iconst (v := 0) hx hb dX12_readsSum_12 (by decide) ?_
  have e9 := Option.some.inj hf
  exact retMz hx hb hr hlocks hP hD hS rfl (congrArg (fun z => z.1) e9) (congrArg (fun z => (kX12 T h a z.2 : va_W)) e9) dX12_readsSum_13
def bX12_endsPiece_L0   (lp0 : St → Option (St)) (v : St) : Option (St) := (fX12_waitTop v).bind fun z1 => if z1 = 10 then (fX12_notes v 10 0).bind fun z3 => lett (st z3 13 0 ((z3 13 0) - 1)) fun u4 => lett (st u4 11 0 ((u4 11 0) - 1)) fun u5 => lp0 u5 else some v
def fX12_endsPiece_L0   : Nat → St → Option (St)
  | 0, _ => none
  | n + 1, v => bX12_endsPiece_L0  (fX12_endsPiece_L0  n) v
def fX12_endsPiece  (u : St)  : Option (St) := fX12_endsPiece_L0 FU u
set_option maxHeartbeats 4000000 in
set_option maxRecDepth 100000 in
theorem mX12_endsPiece (l : Launch) (D : va_G) (T : Ty3) (h : Nat) (a : Nat → Nat) (u : St) (sz : Nat)  (res : St) (hf : fX12_endsPiece u = some res) : Met l yX12_endsPiece wsX12_endsPiece ({ frames := 1, cells := 0, slots := 0, locals := 22 }) (PcM D T (kX12 T h a u) sz [.ref h]) (QMv D (kX12 T h a u) sz (kX12 T h a res)) 0 0 (va_A (kX12 T h a u) sz) := by
  refine Met.ofW (cc := cX12_endsPiece) (maxL := 1) (ret := none) (by decide) rfl ?_
  intro p e s m args below meth c s₁ B hml hv
  obtain ⟨rfl, hsz, hP, hK, hD0⟩ := hv
  have hx := B.exec
  have hb := B.bytes
  have hr := B.returns
  have hts := atoms_spec (ws := wsX12_endsPiece) B.pre
  have hown : s.vm.findClass RX12 = some m.cls := findClass_of_methodNamed B.named
  have hlocks := B.notSynchronized
  subst hsz
  have hD := hD0.self (sz := s.heap.size)
  have hA : ∀ q : Nat, s.heap.size ≤ q → va_A (kX12 T h a u) s.heap.size q := fun q h => Or.inr h
  have hS : va_S (va_A (kX12 T h a u) s.heap.size) s.heap s.heap [] := va_S.rf
  have hinX12 : ∀ w ∈ u_ws RX12 TX12 52, w ∈ wsX12_endsPiece := fun w h => List.mem_cons_of_mem _ (List.mem_append_right _ h)
  have hl := lv_entry ([.ref h]) (n := 1) (Nat.le_of_ble_eq_true rfl)
  rw [lg_entry_eq]
  generalize (lg_sl ([.ref h]) ++ List.replicate (1 - (lg_sl ([.ref h])).length) Slot.unset).toArray = ls at hl ⊢
  have hl : lv_has ls 1 [(0, .ref h)] := hl
  have L0 : ∀ (n0 : Nat), ∀ (v : St) (H : Heap) (locs : List Loc) (ls : Array Slot), fX12_endsPiece_L0  n0 v = some res → va_P D vwCl (kX12 T h a v) H → va_D (va_A (kX12 T h a u) s.heap.size) (kX12 T h a v) → va_S (va_A (kX12 T h a u) s.heap.size) s.heap H locs → lv_has ls 1 [(0, .ref h)] → W p l e (headSpec wsX12_endsPiece ({ frames := 1, cells := 0, slots := 0, locals := 22 })).room s m ([.ref h] : List Value).toArray below meth c H locs 0 0 (MQ below (QMv D (kX12 T h a u) s.heap.size (kX12 T h a res)) ([.ref h] : List Value).toArray s 0 0 (va_A (kX12 T h a u) s.heap.size)) (F0 m 0 ls []) := by
    intro n0
    induction n0 with
    | zero => intro v H locs ls hf; exact nns hf
    | succ n0 ih0 =>
      intro v H locs ls hf hP hD hS hl
      replace hf : bX12_endsPiece_L0  (fX12_endsPiece_L0  n0) v = some res := hf
      unfold bX12_endsPiece_L0 at hf
      refine lv_aload_n hx hb dX12_endsPiece_0 rfl (lv_at hl 0 rfl) ?_
      obtain ⟨z1, hz1, hf⟩ := bnd hf
      refine cVR (As := []) (rest := []) ⟨hx, hb, hml, hown, hts⟩ (mX12_waitTop l D T h a v z1 hz1) (cwV 0 hts gX12_endsPiece_X12_waitTop rfl rfl rfl (by decide +kernel) ⟨Nat.le_of_ble_eq_true rfl, Nat.le_of_ble_eq_true rfl⟩) (va_recv hK.1 hP (ci := 12) (q0 := 0) rfl rfl) hP hK rfl hl.1 rfl (Nat.le_of_ble_eq_true rfl) dX12_endsPiece_1 ⟨Nat.le_of_ble_eq_true rfl, Nat.le_of_ble_eq_true rfl⟩ hP hS (fun H locs hP hS => ?_)
      refine lv_bipush (v := 10) hx hb dX12_endsPiece_4 (by decide) ?_
      refine lv_icmp_ne (tgt := 39) hx hb dX12_endsPiece_6 (by decide) (fun c2 => ?_) (fun c2 => ?_)
      · replace hf := ifn c2 hf
        have e9 := Option.some.inj hf
        exact retMv hx hb hr hlocks hP hD hS (congrArg (fun z => (kX12 T h a z : va_W)) e9) dX12_endsPiece_39
      replace hf := ifp c2 hf
      refine lv_aload_n hx hb dX12_endsPiece_9 rfl (lv_at hl 0 rfl) ?_
      refine lv_bipush (v := 10) hx hb dX12_endsPiece_10 (by decide) ?_
      refine lv_iconst (v := 0) hx hb dX12_endsPiece_12 (by decide) ?_
      obtain ⟨z3, hz3, hf⟩ := bnd hf
      have hFc9 := vaA_self hD hS hA
      refine cVMv (As := [.int 10, .int 0]) (rest := []) ⟨hx, hb, hml, hown, hts⟩ (mX12_notes l D T h a v _ 10 0 z3 hz3) (cwV 2 hts gX12_endsPiece_X12_notes rfl rfl rfl (by decide +kernel) ⟨Nat.le_of_ble_eq_true rfl, Nat.le_of_ble_eq_true rfl⟩) (va_recv hK.1 hP (ci := 12) (q0 := 0) rfl rfl) hP hK rfl hl.1 rfl (Nat.le_of_ble_eq_true rfl) dX12_endsPiece_13 ⟨Nat.le_of_ble_eq_true rfl, Nat.le_of_ble_eq_true rfl⟩ hD hFc9 hS (fun H locs hP hD1 _ hS => ?_)
      have hD := hD1.weaken (fun _ _ _ h9 => hFc9 _ h9)
      refine lv_aload_n hx hb dX12_endsPiece_16 rfl (lv_at hl 0 rfl) ?_
      refine lv_aload_n hx hb dX12_endsPiece_17 rfl (lv_at hl 0 rfl) ?_
      refine va_get (D := D) (ci := 12) (v := .int (z3 13 0)) (C := RX12) (T := TX12) (N := 52) hx hb hts hinX12 hown hK.1 hP 0 rfl rfl 13 (by decide) (hts (.fieldLink RX12 157 "RopeScaleModel" "waiting" "I") (List.mem_of_getElem? (i := 1) rfl)) (fun _ h9 => h9) rfl dX12_endsPiece_18 ?_
      refine lv_iconst (v := 1) hx hb dX12_endsPiece_21 (by decide) ?_
      refine lv_isub hx hb dX12_endsPiece_22 ?_
      obtain ⟨u4, eu4, hf⟩ := lett_e hf
      refine va_put (D := D) (ci := 12) (v := .int ((z3 13 0) - 1)) (ty := .int) (C := RX12) (T := TX12) (N := 52) hx hb hts hinX12 tyX12 tyX12_ok nmX12 hown hK.1 hP hD hS 0 rfl rfl 13 (by decide) (hts (.fieldLink RX12 157 "RopeScaleModel" "waiting" "I") (List.mem_of_getElem? (i := 1) rfl)) (fun _ h9 => h9) rfl (tyX12_ok 13 (by decide)) rfl rfl (Nat.le_of_ble_eq_true rfl) dX12_endsPiece_23 (fun H locs hP hD hS => ?_)
      have hP : va_P D vwCl (kX12 T h a u4) H := by rw [eu4]; exact hP
      have hD : va_D (va_A (kX12 T h a u) s.heap.size) (kX12 T h a u4) := by rw [eu4]; exact hD
      refine lv_aload_n hx hb dX12_endsPiece_26 rfl (lv_at hl 0 rfl) ?_
      refine lv_aload_n hx hb dX12_endsPiece_27 rfl (lv_at hl 0 rfl) ?_
      refine va_get (D := D) (ci := 12) (v := .int (u4 11 0)) (C := RX12) (T := TX12) (N := 52) hx hb hts hinX12 hown hK.1 hP 0 rfl rfl 11 (by decide) (hts (.fieldLink RX12 154 "RopeScaleModel" "open" "I") (List.mem_of_getElem? (i := 2) rfl)) (fun _ h9 => h9) rfl dX12_endsPiece_28 ?_
      refine lv_iconst (v := 1) hx hb dX12_endsPiece_31 (by decide) ?_
      refine lv_isub hx hb dX12_endsPiece_32 ?_
      obtain ⟨u5, eu5, hf⟩ := lett_e hf
      refine va_put (D := D) (ci := 12) (v := .int ((u4 11 0) - 1)) (ty := .int) (C := RX12) (T := TX12) (N := 52) hx hb hts hinX12 tyX12 tyX12_ok nmX12 hown hK.1 hP hD hS 0 rfl rfl 11 (by decide) (hts (.fieldLink RX12 154 "RopeScaleModel" "open" "I") (List.mem_of_getElem? (i := 2) rfl)) (fun _ h9 => h9) rfl (tyX12_ok 11 (by decide)) rfl rfl (Nat.le_of_ble_eq_true rfl) dX12_endsPiece_33 (fun H locs hP hD hS => ?_)
      have hP : va_P D vwCl (kX12 T h a u5) H := by rw [eu5]; exact hP
      have hD : va_D (va_A (kX12 T h a u) s.heap.size) (kX12 T h a u5) := by rw [eu5]; exact hD
      refine lv_goto (tgt := 0) hx hb dX12_endsPiece_36 (by decide) ?_
      exact ih0 u5 _ _ _ hf hP hD hS (lv_sub hl [0] rfl)
  unfold fX12_endsPiece at hf
  exact L0 FU u _ _ _ hf hP hD hS (lv_sub hl [0] rfl)
def fX12_lands_J22  (lp0 : St → Int32 → Option (St)) (v : St) (x1 : Int32) : Option (St) := gd ((v 13 0) - 1) 260 <| lett (jrem (v 17 (ix ((v 13 0) - 1))) 1048576) fun t1 => gd t1 260 <| gd t1 260 <| lett (st v 16 (ix t1) ((1048576 * ((v 16 (ix t1)) / 1048576)) + (v 12 0))) fun u2 => lett (st u2 13 0 ((u2 13 0) - 1)) fun u3 => lp0 u3 x1
def bX12_lands_L0   (lp0 : St → Int32 → Option (St)) (v : St) (x1 : Int32) : Option (St) := (fX12_waitTop v).bind fun z7 => if z7 = 11 then fX12_lands_J22 lp0 v x1 else if x1 = 0 then some v else (fX12_waitTop v).bind fun z10 => if z10 = 12 then fX12_lands_J22 lp0 v x1 else some v
def fX12_lands_L0   : Nat → St → Int32 → Option (St)
  | 0, _, _ => none
  | n + 1, v, x1 => bX12_lands_L0  (fX12_lands_L0  n) v x1
def fX12_lands  (u : St) (p1 : Int32) : Option (St) := fX12_lands_L0 FU u p1
set_option maxHeartbeats 4000000 in
set_option maxRecDepth 100000 in
theorem mX12_lands (l : Launch) (D : va_G) (T : Ty3) (h : Nat) (a : Nat → Nat) (u : St) (sz : Nat) (p1 : Int32) (res : St) (hf : fX12_lands u p1 = some res) : Met l yX12_lands wsX12_lands ({ frames := 1, cells := 0, slots := 0, locals := 20 }) (PcM D T (kX12 T h a u) sz [.ref h, .int p1]) (QMv D (kX12 T h a u) sz (kX12 T h a res)) 0 0 (va_A (kX12 T h a u) sz) := by
  refine Met.ofW (cc := cX12_lands) (maxL := 3) (ret := none) (by decide) rfl ?_
  intro p e s m args below meth c s₁ B hml hv
  obtain ⟨rfl, hsz, hP, hK, hD0⟩ := hv
  have hx := B.exec
  have hb := B.bytes
  have hr := B.returns
  have hts := atoms_spec (ws := wsX12_lands) B.pre
  have hown : s.vm.findClass RX12 = some m.cls := findClass_of_methodNamed B.named
  have hlocks := B.notSynchronized
  subst hsz
  have hD := hD0.self (sz := s.heap.size)
  have hA : ∀ q : Nat, s.heap.size ≤ q → va_A (kX12 T h a u) s.heap.size q := fun q h => Or.inr h
  have hS : va_S (va_A (kX12 T h a u) s.heap.size) s.heap s.heap [] := va_S.rf
  have hinX12 : ∀ w ∈ u_ws RX12 TX12 52, w ∈ wsX12_lands := fun w h => List.mem_cons_of_mem _ (List.mem_append_right _ h)
  have hl := lv_entry ([.ref h, .int p1]) (n := 3) (Nat.le_of_ble_eq_true rfl)
  rw [lg_entry_eq]
  generalize (lg_sl ([.ref h, .int p1]) ++ List.replicate (3 - (lg_sl ([.ref h, .int p1])).length) Slot.unset).toArray = ls at hl ⊢
  have hl : lv_has ls 3 [(0, .ref h), (1, .int p1)] := hl
  have L0 : ∀ (n0 : Nat), ∀ (v : St) (x1 : Int32) (H : Heap) (locs : List Loc) (ls : Array Slot), fX12_lands_L0  n0 v x1 = some res → va_P D vwCl (kX12 T h a v) H → va_D (va_A (kX12 T h a u) s.heap.size) (kX12 T h a v) → va_S (va_A (kX12 T h a u) s.heap.size) s.heap H locs → lv_has ls 3 [(0, .ref h), (1, .int x1)] → W p l e (headSpec wsX12_lands ({ frames := 1, cells := 0, slots := 0, locals := 20 })).room s m ([.ref h, .int p1] : List Value).toArray below meth c H locs 0 0 (MQ below (QMv D (kX12 T h a u) s.heap.size (kX12 T h a res)) ([.ref h, .int p1] : List Value).toArray s 0 0 (va_A (kX12 T h a u) s.heap.size)) (F0 m 0 ls []) := by
    intro n0
    induction n0 with
    | zero => intro v x1 H locs ls hf; exact nns hf
    | succ n0 ih0 =>
      have J22 : ∀ (v : St) (x1 : Int32) (H : Heap) (locs : List Loc) (ls : Array Slot), fX12_lands_J22 (fX12_lands_L0  n0) v x1 = some res → va_P D vwCl (kX12 T h a v) H → va_D (va_A (kX12 T h a u) s.heap.size) (kX12 T h a v) → va_S (va_A (kX12 T h a u) s.heap.size) s.heap H locs → lv_has ls 3 [(0, .ref h), (1, .int x1)] → W p l e (headSpec wsX12_lands ({ frames := 1, cells := 0, slots := 0, locals := 20 })).room s m ([.ref h, .int p1] : List Value).toArray below meth c H locs 0 0 (MQ below (QMv D (kX12 T h a u) s.heap.size (kX12 T h a res)) ([.ref h, .int p1] : List Value).toArray s 0 0 (va_A (kX12 T h a u) s.heap.size)) (F0 m 22 ls []) := by
        intro v x1 H locs ls hf hP hD hS hl
        unfold fX12_lands_J22 at hf
        refine lv_aload_n hx hb dX12_lands_22 rfl (lv_at hl 0 rfl) ?_
        refine va_get (D := D) (ci := 12) (v := .ref (a 17)) (C := RX12) (T := TX12) (N := 52) hx hb hts hinX12 hown hK.1 hP 0 rfl rfl 17 (by decide) (hts (.fieldLink RX12 26 "RopeScaleModel" "waitsAt" "[I") (List.mem_of_getElem? (i := 1) rfl)) (fun _ h9 => h9) rfl dX12_lands_23 ?_
        refine lv_aload_n hx hb dX12_lands_26 rfl (lv_at hl 0 rfl) ?_
        refine va_get (D := D) (ci := 12) (v := .int (v 13 0)) (C := RX12) (T := TX12) (N := 52) hx hb hts hinX12 hown hK.1 hP 0 rfl rfl 13 (by decide) (hts (.fieldLink RX12 157 "RopeScaleModel" "waiting" "I") (List.mem_of_getElem? (i := 2) rfl)) (fun _ h9 => h9) rfl dX12_lands_27 ?_
        refine lv_iconst (v := 1) hx hb dX12_lands_30 (by decide) ?_
        refine lv_isub hx hb dX12_lands_31 ?_
        obtain ⟨h6, hf⟩ := gd_e hf
        refine va_iald hx hb hK.1 hP 6 0 rfl rfl h6 dX12_lands_32 ?_
        refine lv_ldc (v := 1048576) hx hb hown (hts (.constant RX12 153 (1048576)) (List.mem_of_getElem? (i := 3) rfl)) dX12_lands_33 ?_
        refine lv_irem hx hb dX12_lands_35 (by decide) ?_
        obtain ⟨t1, et1, hf⟩ := lett_e hf
        refine lv_eqi et1 ?_
        refine lv_istore_n (lv' := [(2, .int t1), (0, .ref h), (1, .int x1)]) hx hb dX12_lands_36 rfl hl (by decide) rfl (fun ls hl => ?_)
        refine lv_aload_n hx hb dX12_lands_37 rfl (lv_at hl 1 rfl) ?_
        refine va_get (D := D) (ci := 12) (v := .ref (a 16)) (C := RX12) (T := TX12) (N := 52) hx hb hts hinX12 hown hK.1 hP 0 rfl rfl 16 (by decide) (hts (.fieldLink RX12 23 "RopeScaleModel" "said" "[I") (List.mem_of_getElem? (i := 4) rfl)) (fun _ h9 => h9) rfl dX12_lands_38 ?_
        refine lv_iload_n hx hb dX12_lands_41 rfl (lv_at hl 0 rfl) ?_
        refine lv_ldc (v := 1048576) hx hb hown (hts (.constant RX12 153 (1048576)) (List.mem_of_getElem? (i := 3) rfl)) dX12_lands_42 ?_
        refine lv_aload_n hx hb dX12_lands_44 rfl (lv_at hl 1 rfl) ?_
        refine va_get (D := D) (ci := 12) (v := .ref (a 16)) (C := RX12) (T := TX12) (N := 52) hx hb hts hinX12 hown hK.1 hP 0 rfl rfl 16 (by decide) (hts (.fieldLink RX12 23 "RopeScaleModel" "said" "[I") (List.mem_of_getElem? (i := 4) rfl)) (fun _ h9 => h9) rfl dX12_lands_45 ?_
        refine lv_iload_n hx hb dX12_lands_48 rfl (lv_at hl 0 rfl) ?_
        obtain ⟨h5, hf⟩ := gd_e hf
        refine va_iald hx hb hK.1 hP 5 0 rfl rfl h5 dX12_lands_49 ?_
        refine lv_ldc (v := 1048576) hx hb hown (hts (.constant RX12 153 (1048576)) (List.mem_of_getElem? (i := 3) rfl)) dX12_lands_50 ?_
        refine lv_idiv hx hb dX12_lands_52 (by decide) ?_
        refine lv_imul hx hb dX12_lands_53 ?_
        refine lv_aload_n hx hb dX12_lands_54 rfl (lv_at hl 1 rfl) ?_
        refine va_get (D := D) (ci := 12) (v := .int (v 12 0)) (C := RX12) (T := TX12) (N := 52) hx hb hts hinX12 hown hK.1 hP 0 rfl rfl 12 (by decide) (hts (.fieldLink RX12 150 "RopeScaleModel" "codeMany" "I") (List.mem_of_getElem? (i := 5) rfl)) (fun _ h9 => h9) rfl dX12_lands_55 ?_
        refine lv_iadd hx hb dX12_lands_58 ?_
        obtain ⟨h4, hf⟩ := gd_e hf
        obtain ⟨u2, eu2, hf⟩ := lett_e hf
        refine va_iast hx hb hK.1 hP hD hS 5 0 rfl rfl h4 dX12_lands_59 (fun H locs hP hD hS => ?_)
        have hP : va_P D vwCl (kX12 T h a u2) H := by rw [eu2]; exact hP
        have hD : va_D (va_A (kX12 T h a u) s.heap.size) (kX12 T h a u2) := by rw [eu2]; exact hD
        refine lv_aload_n hx hb dX12_lands_60 rfl (lv_at hl 1 rfl) ?_
        refine lv_aload_n hx hb dX12_lands_61 rfl (lv_at hl 1 rfl) ?_
        refine va_get (D := D) (ci := 12) (v := .int (u2 13 0)) (C := RX12) (T := TX12) (N := 52) hx hb hts hinX12 hown hK.1 hP 0 rfl rfl 13 (by decide) (hts (.fieldLink RX12 157 "RopeScaleModel" "waiting" "I") (List.mem_of_getElem? (i := 2) rfl)) (fun _ h9 => h9) rfl dX12_lands_62 ?_
        refine lv_iconst (v := 1) hx hb dX12_lands_65 (by decide) ?_
        refine lv_isub hx hb dX12_lands_66 ?_
        obtain ⟨u3, eu3, hf⟩ := lett_e hf
        refine va_put (D := D) (ci := 12) (v := .int ((u2 13 0) - 1)) (ty := .int) (C := RX12) (T := TX12) (N := 52) hx hb hts hinX12 tyX12 tyX12_ok nmX12 hown hK.1 hP hD hS 0 rfl rfl 13 (by decide) (hts (.fieldLink RX12 157 "RopeScaleModel" "waiting" "I") (List.mem_of_getElem? (i := 2) rfl)) (fun _ h9 => h9) rfl (tyX12_ok 13 (by decide)) rfl rfl (Nat.le_of_ble_eq_true rfl) dX12_lands_67 (fun H locs hP hD hS => ?_)
        have hP : va_P D vwCl (kX12 T h a u3) H := by rw [eu3]; exact hP
        have hD : va_D (va_A (kX12 T h a u) s.heap.size) (kX12 T h a u3) := by rw [eu3]; exact hD
        refine lv_goto (tgt := 0) hx hb dX12_lands_70 (by decide) ?_
        exact ih0 u3 x1 _ _ _ hf hP hD hS (lv_sub hl [1, 2] rfl)
      intro v x1 H locs ls hf hP hD hS hl
      replace hf : bX12_lands_L0  (fX12_lands_L0  n0) v x1 = some res := hf
      unfold bX12_lands_L0 at hf
      refine lv_aload_n hx hb dX12_lands_0 rfl (lv_at hl 0 rfl) ?_
      obtain ⟨z7, hz7, hf⟩ := bnd hf
      refine cVR (As := []) (rest := []) ⟨hx, hb, hml, hown, hts⟩ (mX12_waitTop l D T h a v z7 hz7) (cwV 0 hts gX12_lands_X12_waitTop rfl rfl rfl (by decide +kernel) ⟨Nat.le_of_ble_eq_true rfl, Nat.le_of_ble_eq_true rfl⟩) (va_recv hK.1 hP (ci := 12) (q0 := 0) rfl rfl) hP hK rfl hl.1 rfl (Nat.le_of_ble_eq_true rfl) dX12_lands_1 ⟨Nat.le_of_ble_eq_true rfl, Nat.le_of_ble_eq_true rfl⟩ hP hS (fun H locs hP hS => ?_)
      refine lv_bipush (v := 11) hx hb dX12_lands_4 (by decide) ?_
      refine lv_icmp_eq (tgt := 22) hx hb dX12_lands_6 (by decide) (fun c8 => ?_) (fun c8 => ?_)
      · replace hf := ifp c8 hf
        exact J22 v x1 _ _ _ hf hP hD hS (lv_sub hl [0, 1] rfl)
      replace hf := ifn c8 hf
      refine lv_iload_n hx hb dX12_lands_9 rfl (lv_at hl 1 rfl) ?_
      refine lv_if_eq (tgt := 73) hx hb dX12_lands_10 (by decide) (fun c9 => ?_) (fun c9 => ?_)
      · replace hf := ifp c9 hf
        have e9 := Option.some.inj hf
        exact retMv hx hb hr hlocks hP hD hS (congrArg (fun z => (kX12 T h a z : va_W)) e9) dX12_lands_73
      replace hf := ifn c9 hf
      refine lv_aload_n hx hb dX12_lands_13 rfl (lv_at hl 0 rfl) ?_
      obtain ⟨z10, hz10, hf⟩ := bnd hf
      refine cVR (As := []) (rest := []) ⟨hx, hb, hml, hown, hts⟩ (mX12_waitTop l D T h a v z10 hz10) (cwV 0 hts gX12_lands_X12_waitTop rfl rfl rfl (by decide +kernel) ⟨Nat.le_of_ble_eq_true rfl, Nat.le_of_ble_eq_true rfl⟩) (va_recv hK.1 hP (ci := 12) (q0 := 0) rfl rfl) hP hK rfl hl.1 rfl (Nat.le_of_ble_eq_true rfl) dX12_lands_14 ⟨Nat.le_of_ble_eq_true rfl, Nat.le_of_ble_eq_true rfl⟩ hP hS (fun H locs hP hS => ?_)
      refine lv_bipush (v := 12) hx hb dX12_lands_17 (by decide) ?_
      refine lv_icmp_ne (tgt := 73) hx hb dX12_lands_19 (by decide) (fun c11 => ?_) (fun c11 => ?_)
      · replace hf := ifn c11 hf
        have e9 := Option.some.inj hf
        exact retMv hx hb hr hlocks hP hD hS (congrArg (fun z => (kX12 T h a z : va_W)) e9) dX12_lands_73
      replace hf := ifp c11 hf
      exact J22 v x1 _ _ _ hf hP hD hS (lv_sub hl [0, 1] rfl)
  unfold fX12_lands at hf
  exact L0 FU u p1 _ _ _ hf hP hD hS (lv_sub hl [0, 1] rfl)
def fX12_jumps  (u : St) (p1 : Int32) : Option (St) := gd (u 13 0) 260 <| lett (st u 17 (ix (u 13 0)) ((1048576 * p1) + (u 12 0))) fun u1 => lett (st u1 13 0 ((u1 13 0) + 1)) fun u2 => (fX12_notes u2 p1 0).bind fun z3 => lett (st z3 7 0 ((z3 7 0) + 1)) fun u4 => some u4
set_option maxHeartbeats 4000000 in
set_option maxRecDepth 100000 in
theorem mX12_jumps (l : Launch) (D : va_G) (T : Ty3) (h : Nat) (a : Nat → Nat) (u : St) (sz : Nat) (p1 : Int32) (res : St) (hf : fX12_jumps u p1 = some res) : Met l yX12_jumps wsX12_jumps ({ frames := 1, cells := 0, slots := 0, locals := 22 }) (PcM D T (kX12 T h a u) sz [.ref h, .int p1]) (QMv D (kX12 T h a u) sz (kX12 T h a res)) 0 0 (va_A (kX12 T h a u) sz) := by
  refine Met.ofW (cc := cX12_jumps) (maxL := 2) (ret := none) (by decide) rfl ?_
  intro p e s m args below meth c s₁ B hml hv
  obtain ⟨rfl, hsz, hP, hK, hD0⟩ := hv
  have hx := B.exec
  have hb := B.bytes
  have hr := B.returns
  have hts := atoms_spec (ws := wsX12_jumps) B.pre
  have hown : s.vm.findClass RX12 = some m.cls := findClass_of_methodNamed B.named
  have hlocks := B.notSynchronized
  subst hsz
  have hD := hD0.self (sz := s.heap.size)
  have hA : ∀ q : Nat, s.heap.size ≤ q → va_A (kX12 T h a u) s.heap.size q := fun q h => Or.inr h
  have hS : va_S (va_A (kX12 T h a u) s.heap.size) s.heap s.heap [] := va_S.rf
  have hinX12 : ∀ w ∈ u_ws RX12 TX12 52, w ∈ wsX12_jumps := fun w h => List.mem_cons_of_mem _ (List.mem_append_right _ h)
  have hl := lv_entry ([.ref h, .int p1]) (n := 2) (Nat.le_of_ble_eq_true rfl)
  rw [lg_entry_eq]
  generalize (lg_sl ([.ref h, .int p1]) ++ List.replicate (2 - (lg_sl ([.ref h, .int p1])).length) Slot.unset).toArray = ls at hl ⊢
  have hl : lv_has ls 2 [(0, .ref h), (1, .int p1)] := hl
  unfold fX12_jumps at hf
  refine lv_aload_n hx hb dX12_jumps_0 rfl (lv_at hl 0 rfl) ?_
  refine va_get (D := D) (ci := 12) (v := .ref (a 17)) (C := RX12) (T := TX12) (N := 52) hx hb hts hinX12 hown hK.1 hP 0 rfl rfl 17 (by decide) (hts (.fieldLink RX12 26 "RopeScaleModel" "waitsAt" "[I") (List.mem_of_getElem? (i := 1) rfl)) (fun _ h9 => h9) rfl dX12_jumps_1 ?_
  refine lv_aload_n hx hb dX12_jumps_4 rfl (lv_at hl 0 rfl) ?_
  refine va_get (D := D) (ci := 12) (v := .int (u 13 0)) (C := RX12) (T := TX12) (N := 52) hx hb hts hinX12 hown hK.1 hP 0 rfl rfl 13 (by decide) (hts (.fieldLink RX12 157 "RopeScaleModel" "waiting" "I") (List.mem_of_getElem? (i := 2) rfl)) (fun _ h9 => h9) rfl dX12_jumps_5 ?_
  refine lv_ldc (v := 1048576) hx hb hown (hts (.constant RX12 153 (1048576)) (List.mem_of_getElem? (i := 3) rfl)) dX12_jumps_8 ?_
  refine lv_iload_n hx hb dX12_jumps_10 rfl (lv_at hl 1 rfl) ?_
  refine lv_imul hx hb dX12_jumps_11 ?_
  refine lv_aload_n hx hb dX12_jumps_12 rfl (lv_at hl 0 rfl) ?_
  refine va_get (D := D) (ci := 12) (v := .int (u 12 0)) (C := RX12) (T := TX12) (N := 52) hx hb hts hinX12 hown hK.1 hP 0 rfl rfl 12 (by decide) (hts (.fieldLink RX12 150 "RopeScaleModel" "codeMany" "I") (List.mem_of_getElem? (i := 4) rfl)) (fun _ h9 => h9) rfl dX12_jumps_13 ?_
  refine lv_iadd hx hb dX12_jumps_16 ?_
  obtain ⟨h5, hf⟩ := gd_e hf
  obtain ⟨u1, eu1, hf⟩ := lett_e hf
  refine va_iast hx hb hK.1 hP hD hS 6 0 rfl rfl h5 dX12_jumps_17 (fun H locs hP hD hS => ?_)
  have hP : va_P D vwCl (kX12 T h a u1) H := by rw [eu1]; exact hP
  have hD : va_D (va_A (kX12 T h a u) s.heap.size) (kX12 T h a u1) := by rw [eu1]; exact hD
  refine lv_aload_n hx hb dX12_jumps_18 rfl (lv_at hl 0 rfl) ?_
  refine lv_aload_n hx hb dX12_jumps_19 rfl (lv_at hl 0 rfl) ?_
  refine va_get (D := D) (ci := 12) (v := .int (u1 13 0)) (C := RX12) (T := TX12) (N := 52) hx hb hts hinX12 hown hK.1 hP 0 rfl rfl 13 (by decide) (hts (.fieldLink RX12 157 "RopeScaleModel" "waiting" "I") (List.mem_of_getElem? (i := 2) rfl)) (fun _ h9 => h9) rfl dX12_jumps_20 ?_
  refine lv_iconst (v := 1) hx hb dX12_jumps_23 (by decide) ?_
  refine lv_iadd hx hb dX12_jumps_24 ?_
  obtain ⟨u2, eu2, hf⟩ := lett_e hf
  refine va_put (D := D) (ci := 12) (v := .int ((u1 13 0) + 1)) (ty := .int) (C := RX12) (T := TX12) (N := 52) hx hb hts hinX12 tyX12 tyX12_ok nmX12 hown hK.1 hP hD hS 0 rfl rfl 13 (by decide) (hts (.fieldLink RX12 157 "RopeScaleModel" "waiting" "I") (List.mem_of_getElem? (i := 2) rfl)) (fun _ h9 => h9) rfl (tyX12_ok 13 (by decide)) rfl rfl (Nat.le_of_ble_eq_true rfl) dX12_jumps_25 (fun H locs hP hD hS => ?_)
  have hP : va_P D vwCl (kX12 T h a u2) H := by rw [eu2]; exact hP
  have hD : va_D (va_A (kX12 T h a u) s.heap.size) (kX12 T h a u2) := by rw [eu2]; exact hD
  refine lv_aload_n hx hb dX12_jumps_28 rfl (lv_at hl 0 rfl) ?_
  refine lv_iload_n hx hb dX12_jumps_29 rfl (lv_at hl 1 rfl) ?_
  refine lv_iconst (v := 0) hx hb dX12_jumps_30 (by decide) ?_
  obtain ⟨z3, hz3, hf⟩ := bnd hf
  have hFc9 := vaA_self hD hS hA
  refine cVMv (As := [.int p1, .int 0]) (rest := []) ⟨hx, hb, hml, hown, hts⟩ (mX12_notes l D T h a u2 _ p1 0 z3 hz3) (cwV 2 hts gX12_jumps_X12_notes rfl rfl rfl (by decide +kernel) ⟨Nat.le_of_ble_eq_true rfl, Nat.le_of_ble_eq_true rfl⟩) (va_recv hK.1 hP (ci := 12) (q0 := 0) rfl rfl) hP hK rfl hl.1 rfl (Nat.le_of_ble_eq_true rfl) dX12_jumps_31 ⟨Nat.le_of_ble_eq_true rfl, Nat.le_of_ble_eq_true rfl⟩ hD hFc9 hS (fun H locs hP hD1 _ hS => ?_)
  have hD := hD1.weaken (fun _ _ _ h9 => hFc9 _ h9)
  refine lv_aload_n hx hb dX12_jumps_34 rfl (lv_at hl 0 rfl) ?_
  refine lv_aload_n hx hb dX12_jumps_35 rfl (lv_at hl 0 rfl) ?_
  refine va_get (D := D) (ci := 12) (v := .int (z3 7 0)) (C := RX12) (T := TX12) (N := 52) hx hb hts hinX12 hown hK.1 hP 0 rfl rfl 7 (by decide) (hts (.fieldLink RX12 126 "RopeScaleModel" "place0" "I") (List.mem_of_getElem? (i := 5) rfl)) (fun _ h9 => h9) rfl dX12_jumps_36 ?_
  refine lv_iconst (v := 1) hx hb dX12_jumps_39 (by decide) ?_
  refine lv_iadd hx hb dX12_jumps_40 ?_
  obtain ⟨u4, eu4, hf⟩ := lett_e hf
  refine va_put (D := D) (ci := 12) (v := .int ((z3 7 0) + 1)) (ty := .int) (C := RX12) (T := TX12) (N := 52) hx hb hts hinX12 tyX12 tyX12_ok nmX12 hown hK.1 hP hD hS 0 rfl rfl 7 (by decide) (hts (.fieldLink RX12 126 "RopeScaleModel" "place0" "I") (List.mem_of_getElem? (i := 5) rfl)) (fun _ h9 => h9) rfl (tyX12_ok 7 (by decide)) rfl rfl (Nat.le_of_ble_eq_true rfl) dX12_jumps_41 (fun H locs hP hD hS => ?_)
  have hP : va_P D vwCl (kX12 T h a u4) H := by rw [eu4]; exact hP
  have hD : va_D (va_A (kX12 T h a u) s.heap.size) (kX12 T h a u4) := by rw [eu4]; exact hD
  have e9 := Option.some.inj hf
  exact retMv hx hb hr hlocks hP hD hS (congrArg (fun z => (kX12 T h a z : va_W)) e9) dX12_jumps_44
def fX12_readsCompared_J52   (v : St) (y0 : Int32) : Option (Int32 × St) := if y0 = (-1) then lett (fX12_wrongAt v 1 (v 7 0)) fun z7 => zb z7.1 <| some (z7.1, z7.2) else lett (st v 7 0 ((v 7 0) + 1)) fun u2 => (fX12_readsSum u2).bind fun z3 => if z3.1 = 0 then some (0, z3.2) else (fX12_notes z3.2 y0 0).bind fun z5 => (fX12_endsPiece z5).bind fun z6 => some (1, z6)
def fX12_readsCompared  (u : St)  : Option (Int32 × St) := (fX12_readsSum u).bind fun z8 => if z8.1 = 0 then some (0, z8.2) else (fX12_here z8.2).bind fun z10 => if z10 = 60 then fX12_readsCompared_J52 z8.2 7 else (fX12_here z8.2).bind fun z12 => if z12 = 62 then fX12_readsCompared_J52 z8.2 8 else (fX12_here z8.2).bind fun z14 => if z14 = 61 then fX12_readsCompared_J52 z8.2 9 else fX12_readsCompared_J52 z8.2 (-1)
set_option maxHeartbeats 4000000 in
set_option maxRecDepth 100000 in
theorem mX12_readsCompared (l : Launch) (D : va_G) (T : Ty3) (h : Nat) (a : Nat → Nat) (u : St) (sz : Nat)  (res : Int32 × St) (hf : fX12_readsCompared u = some res) : Met l yX12_readsCompared wsX12_readsCompared ({ frames := 5, cells := 0, slots := 0, locals := 104 }) (PcM D T (kX12 T h a u) sz [.ref h]) (QM D (kX12 T h a u) sz res.1 (kX12 T h a res.2)) 0 0 (va_A (kX12 T h a u) sz) := by
  refine Met.ofW (cc := cX12_readsCompared) (maxL := 2) (ret := (some .boolean)) (by decide) rfl ?_
  intro p e s m args below meth c s₁ B hml hv
  obtain ⟨rfl, hsz, hP, hK, hD0⟩ := hv
  have hx := B.exec
  have hb := B.bytes
  have hr := B.returns
  have hts := atoms_spec (ws := wsX12_readsCompared) B.pre
  have hown : s.vm.findClass RX12 = some m.cls := findClass_of_methodNamed B.named
  have hlocks := B.notSynchronized
  subst hsz
  have hD := hD0.self (sz := s.heap.size)
  have hA : ∀ q : Nat, s.heap.size ≤ q → va_A (kX12 T h a u) s.heap.size q := fun q h => Or.inr h
  have hS : va_S (va_A (kX12 T h a u) s.heap.size) s.heap s.heap [] := va_S.rf
  have hinX12 : ∀ w ∈ u_ws RX12 TX12 52, w ∈ wsX12_readsCompared := fun w h => List.mem_cons_of_mem _ (List.mem_append_right _ h)
  have hl := lv_entry ([.ref h]) (n := 2) (Nat.le_of_ble_eq_true rfl)
  rw [lg_entry_eq]
  generalize (lg_sl ([.ref h]) ++ List.replicate (2 - (lg_sl ([.ref h])).length) Slot.unset).toArray = ls at hl ⊢
  have hl : lv_has ls 2 [(0, .ref h)] := hl
  have J52 : ∀ (v : St) (y0 : Int32) (H : Heap) (locs : List Loc) (ls : Array Slot), fX12_readsCompared_J52  v y0 = some res → va_P D vwCl (kX12 T h a v) H → va_D (va_A (kX12 T h a u) s.heap.size) (kX12 T h a v) → va_S (va_A (kX12 T h a u) s.heap.size) s.heap H locs → lv_has ls 2 [(0, .ref h)] → W p l e (headSpec wsX12_readsCompared ({ frames := 5, cells := 0, slots := 0, locals := 104 })).room s m ([.ref h] : List Value).toArray below meth c H locs 0 0 (MQ below (QM D (kX12 T h a u) s.heap.size res.1 (kX12 T h a res.2)) ([.ref h] : List Value).toArray s 0 0 (va_A (kX12 T h a u) s.heap.size)) (F0 m 52 ls [.int y0]) := by
    intro v y0 H locs ls hf hP hD hS hl
    unfold fX12_readsCompared_J52 at hf
    refine lv_istore_n (lv' := [(1, .int y0), (0, .ref h)]) hx hb dX12_readsCompared_52 rfl hl (by decide) rfl (fun ls hl => ?_)
    refine lv_iload_n hx hb dX12_readsCompared_53 rfl (lv_at hl 0 rfl) ?_
    refine lv_iconst (v := (-1)) hx hb dX12_readsCompared_54 (by decide) ?_
    refine lv_icmp_ne (tgt := 68) hx hb dX12_readsCompared_55 (by decide) (fun c1 => ?_) (fun c1 => ?_)
    · replace hf := ifn c1 hf
      refine lv_aload_n hx hb dX12_readsCompared_68 rfl (lv_at hl 1 rfl) ?_
      refine lv_aload_n hx hb dX12_readsCompared_69 rfl (lv_at hl 1 rfl) ?_
      refine va_get (D := D) (ci := 12) (v := .int (v 7 0)) (C := RX12) (T := TX12) (N := 52) hx hb hts hinX12 hown hK.1 hP 0 rfl rfl 7 (by decide) (hts (.fieldLink RX12 126 "RopeScaleModel" "place0" "I") (List.mem_of_getElem? (i := 1) rfl)) (fun _ h9 => h9) rfl dX12_readsCompared_70 ?_
      refine lv_iconst (v := 1) hx hb dX12_readsCompared_73 (by decide) ?_
      refine lv_iadd hx hb dX12_readsCompared_74 ?_
      obtain ⟨u2, eu2, hf⟩ := lett_e hf
      refine va_put (D := D) (ci := 12) (v := .int ((v 7 0) + 1)) (ty := .int) (C := RX12) (T := TX12) (N := 52) hx hb hts hinX12 tyX12 tyX12_ok nmX12 hown hK.1 hP hD hS 0 rfl rfl 7 (by decide) (hts (.fieldLink RX12 126 "RopeScaleModel" "place0" "I") (List.mem_of_getElem? (i := 1) rfl)) (fun _ h9 => h9) rfl (tyX12_ok 7 (by decide)) rfl rfl (Nat.le_of_ble_eq_true rfl) dX12_readsCompared_75 (fun H locs hP hD hS => ?_)
      have hP : va_P D vwCl (kX12 T h a u2) H := by rw [eu2]; exact hP
      have hD : va_D (va_A (kX12 T h a u) s.heap.size) (kX12 T h a u2) := by rw [eu2]; exact hD
      refine lv_aload_n hx hb dX12_readsCompared_78 rfl (lv_at hl 1 rfl) ?_
      obtain ⟨z3, hz3, hf⟩ := bnd hf
      have hFc9 := vaA_self hD hS hA
      refine cVM (As := []) (rest := []) ⟨hx, hb, hml, hown, hts⟩ (mX12_readsSum l D T h a u2 _ z3 hz3) (cwV 0 hts gX12_readsCompared_X12_readsSum rfl rfl rfl (by decide +kernel) ⟨Nat.le_of_ble_eq_true rfl, Nat.le_of_ble_eq_true rfl⟩) (va_recv hK.1 hP (ci := 12) (q0 := 0) rfl rfl) hP hK rfl hl.1 rfl (Nat.le_of_ble_eq_true rfl) dX12_readsCompared_79 ⟨Nat.le_of_ble_eq_true rfl, Nat.le_of_ble_eq_true rfl⟩ hD hFc9 hS (fun H locs hP hD1 _ hS => ?_)
      have hD := hD1.weaken (fun _ _ _ h9 => hFc9 _ h9)
      refine lv_if_ne (tgt := 87) hx hb dX12_readsCompared_82 (by decide) (fun c4 => ?_) (fun c4 => ?_)
      · replace hf := ifn c4 hf
        refine lv_aload_n hx hb dX12_readsCompared_87 rfl (lv_at hl 1 rfl) ?_
        refine lv_iload_n hx hb dX12_readsCompared_88 rfl (lv_at hl 0 rfl) ?_
        refine lv_iconst (v := 0) hx hb dX12_readsCompared_89 (by decide) ?_
        obtain ⟨z5, hz5, hf⟩ := bnd hf
        have hFc9 := vaA_self hD hS hA
        refine cVMv (As := [.int y0, .int 0]) (rest := []) ⟨hx, hb, hml, hown, hts⟩ (mX12_notes l D T h a z3.2 _ y0 0 z5 hz5) (cwV 2 hts gX12_readsCompared_X12_notes rfl rfl rfl (by decide +kernel) ⟨Nat.le_of_ble_eq_true rfl, Nat.le_of_ble_eq_true rfl⟩) (va_recv hK.1 hP (ci := 12) (q0 := 0) rfl rfl) hP hK rfl hl.1 rfl (Nat.le_of_ble_eq_true rfl) dX12_readsCompared_90 ⟨Nat.le_of_ble_eq_true rfl, Nat.le_of_ble_eq_true rfl⟩ hD hFc9 hS (fun H locs hP hD1 _ hS => ?_)
        have hD := hD1.weaken (fun _ _ _ h9 => hFc9 _ h9)
        refine lv_aload_n hx hb dX12_readsCompared_93 rfl (lv_at hl 1 rfl) ?_
        obtain ⟨z6, hz6, hf⟩ := bnd hf
        have hFc9 := vaA_self hD hS hA
        refine cVMv (As := []) (rest := []) ⟨hx, hb, hml, hown, hts⟩ (mX12_endsPiece l D T h a z5 _ z6 hz6) (cwV 0 hts gX12_readsCompared_X12_endsPiece rfl rfl rfl (by decide +kernel) ⟨Nat.le_of_ble_eq_true rfl, Nat.le_of_ble_eq_true rfl⟩) (va_recv hK.1 hP (ci := 12) (q0 := 0) rfl rfl) hP hK rfl hl.1 rfl (Nat.le_of_ble_eq_true rfl) dX12_readsCompared_94 ⟨Nat.le_of_ble_eq_true rfl, Nat.le_of_ble_eq_true rfl⟩ hD hFc9 hS (fun H locs hP hD1 _ hS => ?_)
        have hD := hD1.weaken (fun _ _ _ h9 => hFc9 _ h9)
        refine lv_iconst (v := 1) hx hb dX12_readsCompared_97 (by decide) ?_
        have e9 := Option.some.inj hf
        exact retMz hx hb hr hlocks hP hD hS rfl (congrArg (fun z => z.1) e9) (congrArg (fun z => (kX12 T h a z.2 : va_W)) e9) dX12_readsCompared_98
      replace hf := ifp c4 hf
      refine lv_iconst (v := 0) hx hb dX12_readsCompared_85 (by decide) ?_
      have e9 := Option.some.inj hf
      exact retMz hx hb hr hlocks hP hD hS rfl (congrArg (fun z => z.1) e9) (congrArg (fun z => (kX12 T h a z.2 : va_W)) e9) dX12_readsCompared_86
    replace hf := ifp c1 hf
    refine lv_aload_n hx hb dX12_readsCompared_58 rfl (lv_at hl 1 rfl) ?_
    refine lv_iconst (v := 1) hx hb dX12_readsCompared_59 (by decide) ?_
    refine lv_aload_n hx hb dX12_readsCompared_60 rfl (lv_at hl 1 rfl) ?_
    refine va_get (D := D) (ci := 12) (v := .int (v 7 0)) (C := RX12) (T := TX12) (N := 52) hx hb hts hinX12 hown hK.1 hP 0 rfl rfl 7 (by decide) (hts (.fieldLink RX12 126 "RopeScaleModel" "place0" "I") (List.mem_of_getElem? (i := 1) rfl)) (fun _ h9 => h9) rfl dX12_readsCompared_61 ?_
    obtain ⟨z7, hz7, hf⟩ := lett_e hf
    have hFc9 := vaA_self hD hS hA
    refine cVM (As := [.int 1, .int (v 7 0)]) (rest := []) ⟨hx, hb, hml, hown, hts⟩ (mX12_wrongAt l D T h a v _ 1 (v 7 0) z7 hz7.symm) (cwV 2 hts gX12_readsCompared_X12_wrongAt rfl rfl rfl (by decide +kernel) ⟨Nat.le_of_ble_eq_true rfl, Nat.le_of_ble_eq_true rfl⟩) (va_recv hK.1 hP (ci := 12) (q0 := 0) rfl rfl) hP hK rfl hl.1 rfl (Nat.le_of_ble_eq_true rfl) dX12_readsCompared_64 ⟨Nat.le_of_ble_eq_true rfl, Nat.le_of_ble_eq_true rfl⟩ hD hFc9 hS (fun H locs hP hD1 _ hS => ?_)
    have hD := hD1.weaken (fun _ _ _ h9 => hFc9 _ h9)
    obtain ⟨hz9, hf⟩ := zb_e hf
    have e9 := Option.some.inj hf
    exact retMz hx hb hr hlocks hP hD hS hz9 (congrArg (fun z => z.1) e9) (congrArg (fun z => (kX12 T h a z.2 : va_W)) e9) dX12_readsCompared_67
  unfold fX12_readsCompared at hf
  refine lv_aload_n hx hb dX12_readsCompared_0 rfl (lv_at hl 0 rfl) ?_
  obtain ⟨z8, hz8, hf⟩ := bnd hf
  have hFc9 := vaA_self hD hS hA
  refine cVM (As := []) (rest := []) ⟨hx, hb, hml, hown, hts⟩ (mX12_readsSum l D T h a u _ z8 hz8) (cwV 0 hts gX12_readsCompared_X12_readsSum rfl rfl rfl (by decide +kernel) ⟨Nat.le_of_ble_eq_true rfl, Nat.le_of_ble_eq_true rfl⟩) (va_recv hK.1 hP (ci := 12) (q0 := 0) rfl rfl) hP hK rfl hl.1 rfl (Nat.le_of_ble_eq_true rfl) dX12_readsCompared_1 ⟨Nat.le_of_ble_eq_true rfl, Nat.le_of_ble_eq_true rfl⟩ hD hFc9 hS (fun H locs hP hD1 _ hS => ?_)
  have hD := hD1.weaken (fun _ _ _ h9 => hFc9 _ h9)
  refine lv_if_ne (tgt := 9) hx hb dX12_readsCompared_4 (by decide) (fun c9 => ?_) (fun c9 => ?_)
  · replace hf := ifn c9 hf
    refine lv_aload_n hx hb dX12_readsCompared_9 rfl (lv_at hl 0 rfl) ?_
    obtain ⟨z10, hz10, hf⟩ := bnd hf
    refine cVR (As := []) (rest := []) ⟨hx, hb, hml, hown, hts⟩ (mX12_here l D T h a z8.2 z10 hz10) (cwV 0 hts gX12_readsCompared_X12_here rfl rfl rfl (by decide +kernel) ⟨Nat.le_of_ble_eq_true rfl, Nat.le_of_ble_eq_true rfl⟩) (va_recv hK.1 hP (ci := 12) (q0 := 0) rfl rfl) hP hK rfl hl.1 rfl (Nat.le_of_ble_eq_true rfl) dX12_readsCompared_10 ⟨Nat.le_of_ble_eq_true rfl, Nat.le_of_ble_eq_true rfl⟩ hP hS (fun H locs hP hS => ?_)
    refine lv_bipush (v := 60) hx hb dX12_readsCompared_13 (by decide) ?_
    refine lv_icmp_ne (tgt := 23) hx hb dX12_readsCompared_15 (by decide) (fun c11 => ?_) (fun c11 => ?_)
    · replace hf := ifn c11 hf
      refine lv_aload_n hx hb dX12_readsCompared_23 rfl (lv_at hl 0 rfl) ?_
      obtain ⟨z12, hz12, hf⟩ := bnd hf
      refine cVR (As := []) (rest := []) ⟨hx, hb, hml, hown, hts⟩ (mX12_here l D T h a z8.2 z12 hz12) (cwV 0 hts gX12_readsCompared_X12_here rfl rfl rfl (by decide +kernel) ⟨Nat.le_of_ble_eq_true rfl, Nat.le_of_ble_eq_true rfl⟩) (va_recv hK.1 hP (ci := 12) (q0 := 0) rfl rfl) hP hK rfl hl.1 rfl (Nat.le_of_ble_eq_true rfl) dX12_readsCompared_24 ⟨Nat.le_of_ble_eq_true rfl, Nat.le_of_ble_eq_true rfl⟩ hP hS (fun H locs hP hS => ?_)
      refine lv_bipush (v := 62) hx hb dX12_readsCompared_27 (by decide) ?_
      refine lv_icmp_ne (tgt := 37) hx hb dX12_readsCompared_29 (by decide) (fun c13 => ?_) (fun c13 => ?_)
      · replace hf := ifn c13 hf
        refine lv_aload_n hx hb dX12_readsCompared_37 rfl (lv_at hl 0 rfl) ?_
        obtain ⟨z14, hz14, hf⟩ := bnd hf
        refine cVR (As := []) (rest := []) ⟨hx, hb, hml, hown, hts⟩ (mX12_here l D T h a z8.2 z14 hz14) (cwV 0 hts gX12_readsCompared_X12_here rfl rfl rfl (by decide +kernel) ⟨Nat.le_of_ble_eq_true rfl, Nat.le_of_ble_eq_true rfl⟩) (va_recv hK.1 hP (ci := 12) (q0 := 0) rfl rfl) hP hK rfl hl.1 rfl (Nat.le_of_ble_eq_true rfl) dX12_readsCompared_38 ⟨Nat.le_of_ble_eq_true rfl, Nat.le_of_ble_eq_true rfl⟩ hP hS (fun H locs hP hS => ?_)
        refine lv_bipush (v := 61) hx hb dX12_readsCompared_41 (by decide) ?_
        refine lv_icmp_ne (tgt := 51) hx hb dX12_readsCompared_43 (by decide) (fun c15 => ?_) (fun c15 => ?_)
        · replace hf := ifn c15 hf
          refine lv_iconst (v := (-1)) hx hb dX12_readsCompared_51 (by decide) ?_
          exact J52 z8.2 (-1) _ _ _ hf hP hD hS (lv_sub hl [0] rfl)
        replace hf := ifp c15 hf
        refine lv_bipush (v := 9) hx hb dX12_readsCompared_46 (by decide) ?_
        refine lv_goto (tgt := 52) hx hb dX12_readsCompared_48 (by decide) ?_
        exact J52 z8.2 9 _ _ _ hf hP hD hS (lv_sub hl [0] rfl)
      replace hf := ifp c13 hf
      refine lv_bipush (v := 8) hx hb dX12_readsCompared_32 (by decide) ?_
      refine lv_goto (tgt := 52) hx hb dX12_readsCompared_34 (by decide) ?_
      exact J52 z8.2 8 _ _ _ hf hP hD hS (lv_sub hl [0] rfl)
    replace hf := ifp c11 hf
    refine lv_bipush (v := 7) hx hb dX12_readsCompared_18 (by decide) ?_
    refine lv_goto (tgt := 52) hx hb dX12_readsCompared_20 (by decide) ?_
    exact J52 z8.2 7 _ _ _ hf hP hD hS (lv_sub hl [0] rfl)
  replace hf := ifp c9 hf
  refine lv_iconst (v := 0) hx hb dX12_readsCompared_7 (by decide) ?_
  have e9 := Option.some.inj hf
  exact retMz hx hb hr hlocks hP hD hS rfl (congrArg (fun z => z.1) e9) (congrArg (fun z => (kX12 T h a z.2 : va_W)) e9) dX12_readsCompared_8
def fX12_readsCondition_J75  (lp40 : St → Option (Int32 × St)) (v : St) (y0 : Int32) : Option (Int32 × St) := (fX12_opens v y0).bind fun z1 => if z1.1 = 0 then some (0, z1.2) else lp40 z1.2
def fX12_readsCondition_J58  (lp40 : St → Option (Int32 × St)) (v : St) : Option (Int32 × St) := (fX12_here v).bind fun z3 => if z3 = 33 then fX12_readsCondition_J75 lp40 v 10 else fX12_readsCondition_J75 lp40 v 13
def fX12_readsCondition_J215  (lp40 : St → Option (Int32 × St)) (v : St) (y0 : Int32) : Option (Int32 × St) := (fX12_jumps v y0).bind fun z5 => lp40 z5
def fX12_readsCondition_J195  (lp40 : St → Option (Int32 × St)) (v : St) (y0 : Int32) : Option (Int32 × St) := (fX12_lands v y0).bind fun z6 => (fX12_here z6).bind fun z7 => if z7 = 38 then fX12_readsCondition_J215 lp40 z6 11 else fX12_readsCondition_J215 lp40 z6 12
def fX12_readsCondition_J180  (lp40 : St → Option (Int32 × St)) (v : St) : Option (Int32 × St) := (fX12_here v).bind fun z9 => if z9 = 124 then fX12_readsCondition_J195 lp40 v 1 else fX12_readsCondition_J195 lp40 v 0
def bX12_readsCondition_L92  (lp40 : St → Option (Int32 × St)) (lp92 : St → Option (Int32 × St)) (v : St) : Option (Int32 × St) := (fX12_here v).bind fun z11 => if z11 = 41 then (fX12_lands v 1).bind fun z18 => lett (st z18 13 0 ((z18 13 0) - 1)) fun u19 => lett (st u19 11 0 ((u19 11 0) - 1)) fun u20 => lett (st u20 7 0 ((u20 7 0) + 1)) fun u21 => if (u21 13 0) = 0 then some (1, u21) else (fX12_endsPiece u21).bind fun z23 => lp92 z23 else (fX12_here v).bind fun z13 => if z13 = 38 then fX12_readsCondition_J180 lp40 v else (fX12_here v).bind fun z15 => if z15 = 124 then fX12_readsCondition_J180 lp40 v else lett (fX12_wrongAt v 1 (v 7 0)) fun z17 => zb z17.1 <| some (z17.1, z17.2)
def fX12_readsCondition_L92  (lp40 : St → Option (Int32 × St)) : Nat → St → Option (Int32 × St)
  | 0, _ => none
  | n + 1, v => bX12_readsCondition_L92 lp40 (fX12_readsCondition_L92 lp40 n) v
def bX12_readsCondition_L40   (lp40 : St → Option (Int32 × St)) (v : St) : Option (Int32 × St) := (fX12_here v).bind fun z24 => if z24 = 33 then fX12_readsCondition_J58 lp40 v else (fX12_here v).bind fun z26 => if z26 = 40 then fX12_readsCondition_J58 lp40 v else (fX12_readsCompared v).bind fun z28 => if z28.1 = 0 then some (0, z28.2) else fX12_readsCondition_L92 lp40 FU z28.2
def fX12_readsCondition_L40   : Nat → St → Option (Int32 × St)
  | 0, _ => none
  | n + 1, v => bX12_readsCondition_L40  (fX12_readsCondition_L40  n) v
def fX12_readsCondition  (u : St)  : Option (Int32 × St) := (fX12_here u).bind fun z30 => if z30 = 40 then lett (st u 11 0 0) fun u32 => lett (st u32 13 0 0) fun u33 => (fX12_opens u33 13).bind fun z34 => if z34.1 = 0 then some (0, z34.2) else fX12_readsCondition_L40 FU z34.2 else lett (fX12_wrongAt u 1 (u 7 0)) fun z36 => zb z36.1 <| some (z36.1, z36.2)
set_option maxHeartbeats 4000000 in
set_option maxRecDepth 100000 in
theorem mX12_readsCondition (l : Launch) (D : va_G) (T : Ty3) (h : Nat) (a : Nat → Nat) (u : St) (sz : Nat)  (res : Int32 × St) (hf : fX12_readsCondition u = some res) : Met l yX12_readsCondition wsX12_readsCondition ({ frames := 6, cells := 0, slots := 0, locals := 125 }) (PcM D T (kX12 T h a u) sz [.ref h]) (QM D (kX12 T h a u) sz res.1 (kX12 T h a res.2)) 0 0 (va_A (kX12 T h a u) sz) := by
  refine Met.ofW (cc := cX12_readsCondition) (maxL := 1) (ret := (some .boolean)) (by decide) rfl ?_
  intro p e s m args below meth c s₁ B hml hv
  obtain ⟨rfl, hsz, hP, hK, hD0⟩ := hv
  have hx := B.exec
  have hb := B.bytes
  have hr := B.returns
  have hts := atoms_spec (ws := wsX12_readsCondition) B.pre
  have hown : s.vm.findClass RX12 = some m.cls := findClass_of_methodNamed B.named
  have hlocks := B.notSynchronized
  subst hsz
  have hD := hD0.self (sz := s.heap.size)
  have hA : ∀ q : Nat, s.heap.size ≤ q → va_A (kX12 T h a u) s.heap.size q := fun q h => Or.inr h
  have hS : va_S (va_A (kX12 T h a u) s.heap.size) s.heap s.heap [] := va_S.rf
  have hinX12 : ∀ w ∈ u_ws RX12 TX12 52, w ∈ wsX12_readsCondition := fun w h => List.mem_cons_of_mem _ (List.mem_append_right _ h)
  have hl := lv_entry ([.ref h]) (n := 1) (Nat.le_of_ble_eq_true rfl)
  rw [lg_entry_eq]
  generalize (lg_sl ([.ref h]) ++ List.replicate (1 - (lg_sl ([.ref h])).length) Slot.unset).toArray = ls at hl ⊢
  have hl : lv_has ls 1 [(0, .ref h)] := hl
  have L40 : ∀ (n40 : Nat), ∀ (v : St) (H : Heap) (locs : List Loc) (ls : Array Slot), fX12_readsCondition_L40  n40 v = some res → va_P D vwCl (kX12 T h a v) H → va_D (va_A (kX12 T h a u) s.heap.size) (kX12 T h a v) → va_S (va_A (kX12 T h a u) s.heap.size) s.heap H locs → lv_has ls 1 [(0, .ref h)] → W p l e (headSpec wsX12_readsCondition ({ frames := 6, cells := 0, slots := 0, locals := 125 })).room s m ([.ref h] : List Value).toArray below meth c H locs 0 0 (MQ below (QM D (kX12 T h a u) s.heap.size res.1 (kX12 T h a res.2)) ([.ref h] : List Value).toArray s 0 0 (va_A (kX12 T h a u) s.heap.size)) (F0 m 40 ls []) := by
    intro n40
    induction n40 with
    | zero => intro v H locs ls hf; exact nns hf
    | succ n40 ih40 =>
      have J75 : ∀ (v : St) (y0 : Int32) (H : Heap) (locs : List Loc) (ls : Array Slot), fX12_readsCondition_J75 (fX12_readsCondition_L40  n40) v y0 = some res → va_P D vwCl (kX12 T h a v) H → va_D (va_A (kX12 T h a u) s.heap.size) (kX12 T h a v) → va_S (va_A (kX12 T h a u) s.heap.size) s.heap H locs → lv_has ls 1 [(0, .ref h)] → W p l e (headSpec wsX12_readsCondition ({ frames := 6, cells := 0, slots := 0, locals := 125 })).room s m ([.ref h] : List Value).toArray below meth c H locs 0 0 (MQ below (QM D (kX12 T h a u) s.heap.size res.1 (kX12 T h a res.2)) ([.ref h] : List Value).toArray s 0 0 (va_A (kX12 T h a u) s.heap.size)) (F0 m 75 ls [.int y0, .ref h]) := by
        intro v y0 H locs ls hf hP hD hS hl
        unfold fX12_readsCondition_J75 at hf
        obtain ⟨z1, hz1, hf⟩ := bnd hf
        have hFc9 := vaA_self hD hS hA
        refine cVM (As := [.int y0]) (rest := []) ⟨hx, hb, hml, hown, hts⟩ (mX12_opens l D T h a v _ y0 z1 hz1) (cwV 1 hts gX12_readsCondition_X12_opens rfl rfl rfl (by decide +kernel) ⟨Nat.le_of_ble_eq_true rfl, Nat.le_of_ble_eq_true rfl⟩) (va_recv hK.1 hP (ci := 12) (q0 := 0) rfl rfl) hP hK rfl hl.1 rfl (Nat.le_of_ble_eq_true rfl) dX12_readsCondition_75 ⟨Nat.le_of_ble_eq_true rfl, Nat.le_of_ble_eq_true rfl⟩ hD hFc9 hS (fun H locs hP hD1 _ hS => ?_)
        have hD := hD1.weaken (fun _ _ _ h9 => hFc9 _ h9)
        refine lv_if_ne (tgt := 40) hx hb dX12_readsCondition_78 (by decide) (fun c2 => ?_) (fun c2 => ?_)
        · replace hf := ifn c2 hf
          exact ih40 z1.2 _ _ _ hf hP hD hS (lv_sub hl [0] rfl)
        replace hf := ifp c2 hf
        refine lv_iconst (v := 0) hx hb dX12_readsCondition_81 (by decide) ?_
        have e9 := Option.some.inj hf
        exact retMz hx hb hr hlocks hP hD hS rfl (congrArg (fun z => z.1) e9) (congrArg (fun z => (kX12 T h a z.2 : va_W)) e9) dX12_readsCondition_82
      have J58 : ∀ (v : St) (H : Heap) (locs : List Loc) (ls : Array Slot), fX12_readsCondition_J58 (fX12_readsCondition_L40  n40) v = some res → va_P D vwCl (kX12 T h a v) H → va_D (va_A (kX12 T h a u) s.heap.size) (kX12 T h a v) → va_S (va_A (kX12 T h a u) s.heap.size) s.heap H locs → lv_has ls 1 [(0, .ref h)] → W p l e (headSpec wsX12_readsCondition ({ frames := 6, cells := 0, slots := 0, locals := 125 })).room s m ([.ref h] : List Value).toArray below meth c H locs 0 0 (MQ below (QM D (kX12 T h a u) s.heap.size res.1 (kX12 T h a res.2)) ([.ref h] : List Value).toArray s 0 0 (va_A (kX12 T h a u) s.heap.size)) (F0 m 58 ls []) := by
        intro v H locs ls hf hP hD hS hl
        unfold fX12_readsCondition_J58 at hf
        refine lv_aload_n hx hb dX12_readsCondition_58 rfl (lv_at hl 0 rfl) ?_
        refine lv_aload_n hx hb dX12_readsCondition_59 rfl (lv_at hl 0 rfl) ?_
        obtain ⟨z3, hz3, hf⟩ := bnd hf
        refine cVR (As := []) (rest := [.ref h]) ⟨hx, hb, hml, hown, hts⟩ (mX12_here l D T h a v z3 hz3) (cwV 0 hts gX12_readsCondition_X12_here rfl rfl rfl (by decide +kernel) ⟨Nat.le_of_ble_eq_true rfl, Nat.le_of_ble_eq_true rfl⟩) (va_recv hK.1 hP (ci := 12) (q0 := 0) rfl rfl) hP hK rfl hl.1 rfl (Nat.le_of_ble_eq_true rfl) dX12_readsCondition_60 ⟨Nat.le_of_ble_eq_true rfl, Nat.le_of_ble_eq_true rfl⟩ hP hS (fun H locs hP hS => ?_)
        refine lv_bipush (v := 33) hx hb dX12_readsCondition_63 (by decide) ?_
        refine lv_icmp_ne (tgt := 73) hx hb dX12_readsCondition_65 (by decide) (fun c4 => ?_) (fun c4 => ?_)
        · replace hf := ifn c4 hf
          refine lv_bipush (v := 13) hx hb dX12_readsCondition_73 (by decide) ?_
          exact J75 v 13 _ _ _ hf hP hD hS (lv_sub hl [0] rfl)
        replace hf := ifp c4 hf
        refine lv_bipush (v := 10) hx hb dX12_readsCondition_68 (by decide) ?_
        refine lv_goto (tgt := 75) hx hb dX12_readsCondition_70 (by decide) ?_
        exact J75 v 10 _ _ _ hf hP hD hS (lv_sub hl [0] rfl)
      have J215 : ∀ (v : St) (y0 : Int32) (H : Heap) (locs : List Loc) (ls : Array Slot), fX12_readsCondition_J215 (fX12_readsCondition_L40  n40) v y0 = some res → va_P D vwCl (kX12 T h a v) H → va_D (va_A (kX12 T h a u) s.heap.size) (kX12 T h a v) → va_S (va_A (kX12 T h a u) s.heap.size) s.heap H locs → lv_has ls 1 [(0, .ref h)] → W p l e (headSpec wsX12_readsCondition ({ frames := 6, cells := 0, slots := 0, locals := 125 })).room s m ([.ref h] : List Value).toArray below meth c H locs 0 0 (MQ below (QM D (kX12 T h a u) s.heap.size res.1 (kX12 T h a res.2)) ([.ref h] : List Value).toArray s 0 0 (va_A (kX12 T h a u) s.heap.size)) (F0 m 215 ls [.int y0, .ref h]) := by
        intro v y0 H locs ls hf hP hD hS hl
        unfold fX12_readsCondition_J215 at hf
        obtain ⟨z5, hz5, hf⟩ := bnd hf
        have hFc9 := vaA_self hD hS hA
        refine cVMv (As := [.int y0]) (rest := []) ⟨hx, hb, hml, hown, hts⟩ (mX12_jumps l D T h a v _ y0 z5 hz5) (cwV 1 hts gX12_readsCondition_X12_jumps rfl rfl rfl (by decide +kernel) ⟨Nat.le_of_ble_eq_true rfl, Nat.le_of_ble_eq_true rfl⟩) (va_recv hK.1 hP (ci := 12) (q0 := 0) rfl rfl) hP hK rfl hl.1 rfl (Nat.le_of_ble_eq_true rfl) dX12_readsCondition_215 ⟨Nat.le_of_ble_eq_true rfl, Nat.le_of_ble_eq_true rfl⟩ hD hFc9 hS (fun H locs hP hD1 _ hS => ?_)
        have hD := hD1.weaken (fun _ _ _ h9 => hFc9 _ h9)
        refine lv_goto (tgt := 40) hx hb dX12_readsCondition_218 (by decide) ?_
        exact ih40 z5 _ _ _ hf hP hD hS (lv_sub hl [0] rfl)
      have J195 : ∀ (v : St) (y0 : Int32) (H : Heap) (locs : List Loc) (ls : Array Slot), fX12_readsCondition_J195 (fX12_readsCondition_L40  n40) v y0 = some res → va_P D vwCl (kX12 T h a v) H → va_D (va_A (kX12 T h a u) s.heap.size) (kX12 T h a v) → va_S (va_A (kX12 T h a u) s.heap.size) s.heap H locs → lv_has ls 1 [(0, .ref h)] → W p l e (headSpec wsX12_readsCondition ({ frames := 6, cells := 0, slots := 0, locals := 125 })).room s m ([.ref h] : List Value).toArray below meth c H locs 0 0 (MQ below (QM D (kX12 T h a u) s.heap.size res.1 (kX12 T h a res.2)) ([.ref h] : List Value).toArray s 0 0 (va_A (kX12 T h a u) s.heap.size)) (F0 m 195 ls [.int y0, .ref h]) := by
        intro v y0 H locs ls hf hP hD hS hl
        unfold fX12_readsCondition_J195 at hf
        obtain ⟨z6, hz6, hf⟩ := bnd hf
        have hFc9 := vaA_self hD hS hA
        refine cVMv (As := [.int y0]) (rest := []) ⟨hx, hb, hml, hown, hts⟩ (mX12_lands l D T h a v _ y0 z6 hz6) (cwV 1 hts gX12_readsCondition_X12_lands rfl rfl rfl (by decide +kernel) ⟨Nat.le_of_ble_eq_true rfl, Nat.le_of_ble_eq_true rfl⟩) (va_recv hK.1 hP (ci := 12) (q0 := 0) rfl rfl) hP hK rfl hl.1 rfl (Nat.le_of_ble_eq_true rfl) dX12_readsCondition_195 ⟨Nat.le_of_ble_eq_true rfl, Nat.le_of_ble_eq_true rfl⟩ hD hFc9 hS (fun H locs hP hD1 _ hS => ?_)
        have hD := hD1.weaken (fun _ _ _ h9 => hFc9 _ h9)
        refine lv_aload_n hx hb dX12_readsCondition_198 rfl (lv_at hl 0 rfl) ?_
        refine lv_aload_n hx hb dX12_readsCondition_199 rfl (lv_at hl 0 rfl) ?_
        obtain ⟨z7, hz7, hf⟩ := bnd hf
        refine cVR (As := []) (rest := [.ref h]) ⟨hx, hb, hml, hown, hts⟩ (mX12_here l D T h a z6 z7 hz7) (cwV 0 hts gX12_readsCondition_X12_here rfl rfl rfl (by decide +kernel) ⟨Nat.le_of_ble_eq_true rfl, Nat.le_of_ble_eq_true rfl⟩) (va_recv hK.1 hP (ci := 12) (q0 := 0) rfl rfl) hP hK rfl hl.1 rfl (Nat.le_of_ble_eq_true rfl) dX12_readsCondition_200 ⟨Nat.le_of_ble_eq_true rfl, Nat.le_of_ble_eq_true rfl⟩ hP hS (fun H locs hP hS => ?_)
        refine lv_bipush (v := 38) hx hb dX12_readsCondition_203 (by decide) ?_
        refine lv_icmp_ne (tgt := 213) hx hb dX12_readsCondition_205 (by decide) (fun c8 => ?_) (fun c8 => ?_)
        · replace hf := ifn c8 hf
          refine lv_bipush (v := 12) hx hb dX12_readsCondition_213 (by decide) ?_
          exact J215 z6 12 _ _ _ hf hP hD hS (lv_sub hl [0] rfl)
        replace hf := ifp c8 hf
        refine lv_bipush (v := 11) hx hb dX12_readsCondition_208 (by decide) ?_
        refine lv_goto (tgt := 215) hx hb dX12_readsCondition_210 (by decide) ?_
        exact J215 z6 11 _ _ _ hf hP hD hS (lv_sub hl [0] rfl)
      have J180 : ∀ (v : St) (H : Heap) (locs : List Loc) (ls : Array Slot), fX12_readsCondition_J180 (fX12_readsCondition_L40  n40) v = some res → va_P D vwCl (kX12 T h a v) H → va_D (va_A (kX12 T h a u) s.heap.size) (kX12 T h a v) → va_S (va_A (kX12 T h a u) s.heap.size) s.heap H locs → lv_has ls 1 [(0, .ref h)] → W p l e (headSpec wsX12_readsCondition ({ frames := 6, cells := 0, slots := 0, locals := 125 })).room s m ([.ref h] : List Value).toArray below meth c H locs 0 0 (MQ below (QM D (kX12 T h a u) s.heap.size res.1 (kX12 T h a res.2)) ([.ref h] : List Value).toArray s 0 0 (va_A (kX12 T h a u) s.heap.size)) (F0 m 180 ls []) := by
        intro v H locs ls hf hP hD hS hl
        unfold fX12_readsCondition_J180 at hf
        refine lv_aload_n hx hb dX12_readsCondition_180 rfl (lv_at hl 0 rfl) ?_
        refine lv_aload_n hx hb dX12_readsCondition_181 rfl (lv_at hl 0 rfl) ?_
        obtain ⟨z9, hz9, hf⟩ := bnd hf
        refine cVR (As := []) (rest := [.ref h]) ⟨hx, hb, hml, hown, hts⟩ (mX12_here l D T h a v z9 hz9) (cwV 0 hts gX12_readsCondition_X12_here rfl rfl rfl (by decide +kernel) ⟨Nat.le_of_ble_eq_true rfl, Nat.le_of_ble_eq_true rfl⟩) (va_recv hK.1 hP (ci := 12) (q0 := 0) rfl rfl) hP hK rfl hl.1 rfl (Nat.le_of_ble_eq_true rfl) dX12_readsCondition_182 ⟨Nat.le_of_ble_eq_true rfl, Nat.le_of_ble_eq_true rfl⟩ hP hS (fun H locs hP hS => ?_)
        refine lv_bipush (v := 124) hx hb dX12_readsCondition_185 (by decide) ?_
        refine lv_icmp_ne (tgt := 194) hx hb dX12_readsCondition_187 (by decide) (fun c10 => ?_) (fun c10 => ?_)
        · replace hf := ifn c10 hf
          refine lv_iconst (v := 0) hx hb dX12_readsCondition_194 (by decide) ?_
          exact J195 v 0 _ _ _ hf hP hD hS (lv_sub hl [0] rfl)
        replace hf := ifp c10 hf
        refine lv_iconst (v := 1) hx hb dX12_readsCondition_190 (by decide) ?_
        refine lv_goto (tgt := 195) hx hb dX12_readsCondition_191 (by decide) ?_
        exact J195 v 1 _ _ _ hf hP hD hS (lv_sub hl [0] rfl)
      have L92 : ∀ (n92 : Nat), ∀ (v : St) (H : Heap) (locs : List Loc) (ls : Array Slot), fX12_readsCondition_L92 (fX12_readsCondition_L40  n40) n92 v = some res → va_P D vwCl (kX12 T h a v) H → va_D (va_A (kX12 T h a u) s.heap.size) (kX12 T h a v) → va_S (va_A (kX12 T h a u) s.heap.size) s.heap H locs → lv_has ls 1 [(0, .ref h)] → W p l e (headSpec wsX12_readsCondition ({ frames := 6, cells := 0, slots := 0, locals := 125 })).room s m ([.ref h] : List Value).toArray below meth c H locs 0 0 (MQ below (QM D (kX12 T h a u) s.heap.size res.1 (kX12 T h a res.2)) ([.ref h] : List Value).toArray s 0 0 (va_A (kX12 T h a u) s.heap.size)) (F0 m 92 ls []) := by
        intro n92
        induction n92 with
        | zero => intro v H locs ls hf; exact nns hf
        | succ n92 ih92 =>
          intro v H locs ls hf hP hD hS hl
          replace hf : bX12_readsCondition_L92 (fX12_readsCondition_L40  n40) (fX12_readsCondition_L92 (fX12_readsCondition_L40  n40) n92) v = some res := hf
          unfold bX12_readsCondition_L92 at hf
          refine lv_aload_n hx hb dX12_readsCondition_92 rfl (lv_at hl 0 rfl) ?_
          obtain ⟨z11, hz11, hf⟩ := bnd hf
          refine cVR (As := []) (rest := []) ⟨hx, hb, hml, hown, hts⟩ (mX12_here l D T h a v z11 hz11) (cwV 0 hts gX12_readsCondition_X12_here rfl rfl rfl (by decide +kernel) ⟨Nat.le_of_ble_eq_true rfl, Nat.le_of_ble_eq_true rfl⟩) (va_recv hK.1 hP (ci := 12) (q0 := 0) rfl rfl) hP hK rfl hl.1 rfl (Nat.le_of_ble_eq_true rfl) dX12_readsCondition_93 ⟨Nat.le_of_ble_eq_true rfl, Nat.le_of_ble_eq_true rfl⟩ hP hS (fun H locs hP hS => ?_)
          refine lv_bipush (v := 41) hx hb dX12_readsCondition_96 (by decide) ?_
          refine lv_icmp_ne (tgt := 152) hx hb dX12_readsCondition_98 (by decide) (fun c12 => ?_) (fun c12 => ?_)
          · replace hf := ifn c12 hf
            refine lv_aload_n hx hb dX12_readsCondition_152 rfl (lv_at hl 0 rfl) ?_
            obtain ⟨z13, hz13, hf⟩ := bnd hf
            refine cVR (As := []) (rest := []) ⟨hx, hb, hml, hown, hts⟩ (mX12_here l D T h a v z13 hz13) (cwV 0 hts gX12_readsCondition_X12_here rfl rfl rfl (by decide +kernel) ⟨Nat.le_of_ble_eq_true rfl, Nat.le_of_ble_eq_true rfl⟩) (va_recv hK.1 hP (ci := 12) (q0 := 0) rfl rfl) hP hK rfl hl.1 rfl (Nat.le_of_ble_eq_true rfl) dX12_readsCondition_153 ⟨Nat.le_of_ble_eq_true rfl, Nat.le_of_ble_eq_true rfl⟩ hP hS (fun H locs hP hS => ?_)
            refine lv_bipush (v := 38) hx hb dX12_readsCondition_156 (by decide) ?_
            refine lv_icmp_eq (tgt := 180) hx hb dX12_readsCondition_158 (by decide) (fun c14 => ?_) (fun c14 => ?_)
            · replace hf := ifp c14 hf
              exact J180 v _ _ _ hf hP hD hS (lv_sub hl [0] rfl)
            replace hf := ifn c14 hf
            refine lv_aload_n hx hb dX12_readsCondition_161 rfl (lv_at hl 0 rfl) ?_
            obtain ⟨z15, hz15, hf⟩ := bnd hf
            refine cVR (As := []) (rest := []) ⟨hx, hb, hml, hown, hts⟩ (mX12_here l D T h a v z15 hz15) (cwV 0 hts gX12_readsCondition_X12_here rfl rfl rfl (by decide +kernel) ⟨Nat.le_of_ble_eq_true rfl, Nat.le_of_ble_eq_true rfl⟩) (va_recv hK.1 hP (ci := 12) (q0 := 0) rfl rfl) hP hK rfl hl.1 rfl (Nat.le_of_ble_eq_true rfl) dX12_readsCondition_162 ⟨Nat.le_of_ble_eq_true rfl, Nat.le_of_ble_eq_true rfl⟩ hP hS (fun H locs hP hS => ?_)
            refine lv_bipush (v := 124) hx hb dX12_readsCondition_165 (by decide) ?_
            refine lv_icmp_eq (tgt := 180) hx hb dX12_readsCondition_167 (by decide) (fun c16 => ?_) (fun c16 => ?_)
            · replace hf := ifp c16 hf
              exact J180 v _ _ _ hf hP hD hS (lv_sub hl [0] rfl)
            replace hf := ifn c16 hf
            refine lv_aload_n hx hb dX12_readsCondition_170 rfl (lv_at hl 0 rfl) ?_
            refine lv_iconst (v := 1) hx hb dX12_readsCondition_171 (by decide) ?_
            refine lv_aload_n hx hb dX12_readsCondition_172 rfl (lv_at hl 0 rfl) ?_
            refine va_get (D := D) (ci := 12) (v := .int (v 7 0)) (C := RX12) (T := TX12) (N := 52) hx hb hts hinX12 hown hK.1 hP 0 rfl rfl 7 (by decide) (hts (.fieldLink RX12 126 "RopeScaleModel" "place0" "I") (List.mem_of_getElem? (i := 1) rfl)) (fun _ h9 => h9) rfl dX12_readsCondition_173 ?_
            obtain ⟨z17, hz17, hf⟩ := lett_e hf
            have hFc9 := vaA_self hD hS hA
            refine cVM (As := [.int 1, .int (v 7 0)]) (rest := []) ⟨hx, hb, hml, hown, hts⟩ (mX12_wrongAt l D T h a v _ 1 (v 7 0) z17 hz17.symm) (cwV 2 hts gX12_readsCondition_X12_wrongAt rfl rfl rfl (by decide +kernel) ⟨Nat.le_of_ble_eq_true rfl, Nat.le_of_ble_eq_true rfl⟩) (va_recv hK.1 hP (ci := 12) (q0 := 0) rfl rfl) hP hK rfl hl.1 rfl (Nat.le_of_ble_eq_true rfl) dX12_readsCondition_176 ⟨Nat.le_of_ble_eq_true rfl, Nat.le_of_ble_eq_true rfl⟩ hD hFc9 hS (fun H locs hP hD1 _ hS => ?_)
            have hD := hD1.weaken (fun _ _ _ h9 => hFc9 _ h9)
            obtain ⟨hz9, hf⟩ := zb_e hf
            have e9 := Option.some.inj hf
            exact retMz hx hb hr hlocks hP hD hS hz9 (congrArg (fun z => z.1) e9) (congrArg (fun z => (kX12 T h a z.2 : va_W)) e9) dX12_readsCondition_179
          replace hf := ifp c12 hf
          refine lv_aload_n hx hb dX12_readsCondition_101 rfl (lv_at hl 0 rfl) ?_
          refine lv_iconst (v := 1) hx hb dX12_readsCondition_102 (by decide) ?_
          obtain ⟨z18, hz18, hf⟩ := bnd hf
          have hFc9 := vaA_self hD hS hA
          refine cVMv (As := [.int 1]) (rest := []) ⟨hx, hb, hml, hown, hts⟩ (mX12_lands l D T h a v _ 1 z18 hz18) (cwV 1 hts gX12_readsCondition_X12_lands rfl rfl rfl (by decide +kernel) ⟨Nat.le_of_ble_eq_true rfl, Nat.le_of_ble_eq_true rfl⟩) (va_recv hK.1 hP (ci := 12) (q0 := 0) rfl rfl) hP hK rfl hl.1 rfl (Nat.le_of_ble_eq_true rfl) dX12_readsCondition_103 ⟨Nat.le_of_ble_eq_true rfl, Nat.le_of_ble_eq_true rfl⟩ hD hFc9 hS (fun H locs hP hD1 _ hS => ?_)
          have hD := hD1.weaken (fun _ _ _ h9 => hFc9 _ h9)
          refine lv_aload_n hx hb dX12_readsCondition_106 rfl (lv_at hl 0 rfl) ?_
          refine lv_aload_n hx hb dX12_readsCondition_107 rfl (lv_at hl 0 rfl) ?_
          refine va_get (D := D) (ci := 12) (v := .int (z18 13 0)) (C := RX12) (T := TX12) (N := 52) hx hb hts hinX12 hown hK.1 hP 0 rfl rfl 13 (by decide) (hts (.fieldLink RX12 157 "RopeScaleModel" "waiting" "I") (List.mem_of_getElem? (i := 3) rfl)) (fun _ h9 => h9) rfl dX12_readsCondition_108 ?_
          refine lv_iconst (v := 1) hx hb dX12_readsCondition_111 (by decide) ?_
          refine lv_isub hx hb dX12_readsCondition_112 ?_
          obtain ⟨u19, eu19, hf⟩ := lett_e hf
          refine va_put (D := D) (ci := 12) (v := .int ((z18 13 0) - 1)) (ty := .int) (C := RX12) (T := TX12) (N := 52) hx hb hts hinX12 tyX12 tyX12_ok nmX12 hown hK.1 hP hD hS 0 rfl rfl 13 (by decide) (hts (.fieldLink RX12 157 "RopeScaleModel" "waiting" "I") (List.mem_of_getElem? (i := 3) rfl)) (fun _ h9 => h9) rfl (tyX12_ok 13 (by decide)) rfl rfl (Nat.le_of_ble_eq_true rfl) dX12_readsCondition_113 (fun H locs hP hD hS => ?_)
          have hP : va_P D vwCl (kX12 T h a u19) H := by rw [eu19]; exact hP
          have hD : va_D (va_A (kX12 T h a u) s.heap.size) (kX12 T h a u19) := by rw [eu19]; exact hD
          refine lv_aload_n hx hb dX12_readsCondition_116 rfl (lv_at hl 0 rfl) ?_
          refine lv_aload_n hx hb dX12_readsCondition_117 rfl (lv_at hl 0 rfl) ?_
          refine va_get (D := D) (ci := 12) (v := .int (u19 11 0)) (C := RX12) (T := TX12) (N := 52) hx hb hts hinX12 hown hK.1 hP 0 rfl rfl 11 (by decide) (hts (.fieldLink RX12 154 "RopeScaleModel" "open" "I") (List.mem_of_getElem? (i := 2) rfl)) (fun _ h9 => h9) rfl dX12_readsCondition_118 ?_
          refine lv_iconst (v := 1) hx hb dX12_readsCondition_121 (by decide) ?_
          refine lv_isub hx hb dX12_readsCondition_122 ?_
          obtain ⟨u20, eu20, hf⟩ := lett_e hf
          refine va_put (D := D) (ci := 12) (v := .int ((u19 11 0) - 1)) (ty := .int) (C := RX12) (T := TX12) (N := 52) hx hb hts hinX12 tyX12 tyX12_ok nmX12 hown hK.1 hP hD hS 0 rfl rfl 11 (by decide) (hts (.fieldLink RX12 154 "RopeScaleModel" "open" "I") (List.mem_of_getElem? (i := 2) rfl)) (fun _ h9 => h9) rfl (tyX12_ok 11 (by decide)) rfl rfl (Nat.le_of_ble_eq_true rfl) dX12_readsCondition_123 (fun H locs hP hD hS => ?_)
          have hP : va_P D vwCl (kX12 T h a u20) H := by rw [eu20]; exact hP
          have hD : va_D (va_A (kX12 T h a u) s.heap.size) (kX12 T h a u20) := by rw [eu20]; exact hD
          refine lv_aload_n hx hb dX12_readsCondition_126 rfl (lv_at hl 0 rfl) ?_
          refine lv_aload_n hx hb dX12_readsCondition_127 rfl (lv_at hl 0 rfl) ?_
          refine va_get (D := D) (ci := 12) (v := .int (u20 7 0)) (C := RX12) (T := TX12) (N := 52) hx hb hts hinX12 hown hK.1 hP 0 rfl rfl 7 (by decide) (hts (.fieldLink RX12 126 "RopeScaleModel" "place0" "I") (List.mem_of_getElem? (i := 1) rfl)) (fun _ h9 => h9) rfl dX12_readsCondition_128 ?_
          refine lv_iconst (v := 1) hx hb dX12_readsCondition_131 (by decide) ?_
          refine lv_iadd hx hb dX12_readsCondition_132 ?_
          obtain ⟨u21, eu21, hf⟩ := lett_e hf
          refine va_put (D := D) (ci := 12) (v := .int ((u20 7 0) + 1)) (ty := .int) (C := RX12) (T := TX12) (N := 52) hx hb hts hinX12 tyX12 tyX12_ok nmX12 hown hK.1 hP hD hS 0 rfl rfl 7 (by decide) (hts (.fieldLink RX12 126 "RopeScaleModel" "place0" "I") (List.mem_of_getElem? (i := 1) rfl)) (fun _ h9 => h9) rfl (tyX12_ok 7 (by decide)) rfl rfl (Nat.le_of_ble_eq_true rfl) dX12_readsCondition_133 (fun H locs hP hD hS => ?_)
          have hP : va_P D vwCl (kX12 T h a u21) H := by rw [eu21]; exact hP
          have hD : va_D (va_A (kX12 T h a u) s.heap.size) (kX12 T h a u21) := by rw [eu21]; exact hD
          refine lv_aload_n hx hb dX12_readsCondition_136 rfl (lv_at hl 0 rfl) ?_
          refine va_get (D := D) (ci := 12) (v := .int (u21 13 0)) (C := RX12) (T := TX12) (N := 52) hx hb hts hinX12 hown hK.1 hP 0 rfl rfl 13 (by decide) (hts (.fieldLink RX12 157 "RopeScaleModel" "waiting" "I") (List.mem_of_getElem? (i := 3) rfl)) (fun _ h9 => h9) rfl dX12_readsCondition_137 ?_
          refine lv_if_ne (tgt := 145) hx hb dX12_readsCondition_140 (by decide) (fun c22 => ?_) (fun c22 => ?_)
          · replace hf := ifn c22 hf
            refine lv_aload_n hx hb dX12_readsCondition_145 rfl (lv_at hl 0 rfl) ?_
            obtain ⟨z23, hz23, hf⟩ := bnd hf
            have hFc9 := vaA_self hD hS hA
            refine cVMv (As := []) (rest := []) ⟨hx, hb, hml, hown, hts⟩ (mX12_endsPiece l D T h a u21 _ z23 hz23) (cwV 0 hts gX12_readsCondition_X12_endsPiece rfl rfl rfl (by decide +kernel) ⟨Nat.le_of_ble_eq_true rfl, Nat.le_of_ble_eq_true rfl⟩) (va_recv hK.1 hP (ci := 12) (q0 := 0) rfl rfl) hP hK rfl hl.1 rfl (Nat.le_of_ble_eq_true rfl) dX12_readsCondition_146 ⟨Nat.le_of_ble_eq_true rfl, Nat.le_of_ble_eq_true rfl⟩ hD hFc9 hS (fun H locs hP hD1 _ hS => ?_)
            have hD := hD1.weaken (fun _ _ _ h9 => hFc9 _ h9)
            refine lv_goto (tgt := 92) hx hb dX12_readsCondition_149 (by decide) ?_
            exact ih92 z23 _ _ _ hf hP hD hS (lv_sub hl [0] rfl)
          replace hf := ifp c22 hf
          refine lv_iconst (v := 1) hx hb dX12_readsCondition_143 (by decide) ?_
          have e9 := Option.some.inj hf
          exact retMz hx hb hr hlocks hP hD hS rfl (congrArg (fun z => z.1) e9) (congrArg (fun z => (kX12 T h a z.2 : va_W)) e9) dX12_readsCondition_144
      intro v H locs ls hf hP hD hS hl
      replace hf : bX12_readsCondition_L40  (fX12_readsCondition_L40  n40) v = some res := hf
      unfold bX12_readsCondition_L40 at hf
      refine lv_aload_n hx hb dX12_readsCondition_40 rfl (lv_at hl 0 rfl) ?_
      obtain ⟨z24, hz24, hf⟩ := bnd hf
      refine cVR (As := []) (rest := []) ⟨hx, hb, hml, hown, hts⟩ (mX12_here l D T h a v z24 hz24) (cwV 0 hts gX12_readsCondition_X12_here rfl rfl rfl (by decide +kernel) ⟨Nat.le_of_ble_eq_true rfl, Nat.le_of_ble_eq_true rfl⟩) (va_recv hK.1 hP (ci := 12) (q0 := 0) rfl rfl) hP hK rfl hl.1 rfl (Nat.le_of_ble_eq_true rfl) dX12_readsCondition_41 ⟨Nat.le_of_ble_eq_true rfl, Nat.le_of_ble_eq_true rfl⟩ hP hS (fun H locs hP hS => ?_)
      refine lv_bipush (v := 33) hx hb dX12_readsCondition_44 (by decide) ?_
      refine lv_icmp_eq (tgt := 58) hx hb dX12_readsCondition_46 (by decide) (fun c25 => ?_) (fun c25 => ?_)
      · replace hf := ifp c25 hf
        exact J58 v _ _ _ hf hP hD hS (lv_sub hl [0] rfl)
      replace hf := ifn c25 hf
      refine lv_aload_n hx hb dX12_readsCondition_49 rfl (lv_at hl 0 rfl) ?_
      obtain ⟨z26, hz26, hf⟩ := bnd hf
      refine cVR (As := []) (rest := []) ⟨hx, hb, hml, hown, hts⟩ (mX12_here l D T h a v z26 hz26) (cwV 0 hts gX12_readsCondition_X12_here rfl rfl rfl (by decide +kernel) ⟨Nat.le_of_ble_eq_true rfl, Nat.le_of_ble_eq_true rfl⟩) (va_recv hK.1 hP (ci := 12) (q0 := 0) rfl rfl) hP hK rfl hl.1 rfl (Nat.le_of_ble_eq_true rfl) dX12_readsCondition_50 ⟨Nat.le_of_ble_eq_true rfl, Nat.le_of_ble_eq_true rfl⟩ hP hS (fun H locs hP hS => ?_)
      refine lv_bipush (v := 40) hx hb dX12_readsCondition_53 (by decide) ?_
      refine lv_icmp_ne (tgt := 83) hx hb dX12_readsCondition_55 (by decide) (fun c27 => ?_) (fun c27 => ?_)
      · replace hf := ifn c27 hf
        refine lv_aload_n hx hb dX12_readsCondition_83 rfl (lv_at hl 0 rfl) ?_
        obtain ⟨z28, hz28, hf⟩ := bnd hf
        have hFc9 := vaA_self hD hS hA
        refine cVM (As := []) (rest := []) ⟨hx, hb, hml, hown, hts⟩ (mX12_readsCompared l D T h a v _ z28 hz28) (cwV 0 hts gX12_readsCondition_X12_readsCompared rfl rfl rfl (by decide +kernel) ⟨Nat.le_of_ble_eq_true rfl, Nat.le_of_ble_eq_true rfl⟩) (va_recv hK.1 hP (ci := 12) (q0 := 0) rfl rfl) hP hK rfl hl.1 rfl (Nat.le_of_ble_eq_true rfl) dX12_readsCondition_84 ⟨Nat.le_of_ble_eq_true rfl, Nat.le_of_ble_eq_true rfl⟩ hD hFc9 hS (fun H locs hP hD1 _ hS => ?_)
        have hD := hD1.weaken (fun _ _ _ h9 => hFc9 _ h9)
        refine lv_if_ne (tgt := 92) hx hb dX12_readsCondition_87 (by decide) (fun c29 => ?_) (fun c29 => ?_)
        · replace hf := ifn c29 hf
          exact L92 FU z28.2 _ _ _ hf hP hD hS (lv_sub hl [0] rfl)
        replace hf := ifp c29 hf
        refine lv_iconst (v := 0) hx hb dX12_readsCondition_90 (by decide) ?_
        have e9 := Option.some.inj hf
        exact retMz hx hb hr hlocks hP hD hS rfl (congrArg (fun z => z.1) e9) (congrArg (fun z => (kX12 T h a z.2 : va_W)) e9) dX12_readsCondition_91
      replace hf := ifp c27 hf
      exact J58 v _ _ _ hf hP hD hS (lv_sub hl [0] rfl)
  unfold fX12_readsCondition at hf
  refine lv_aload_n hx hb dX12_readsCondition_0 rfl (lv_at hl 0 rfl) ?_
  obtain ⟨z30, hz30, hf⟩ := bnd hf
  refine cVR (As := []) (rest := []) ⟨hx, hb, hml, hown, hts⟩ (mX12_here l D T h a u z30 hz30) (cwV 0 hts gX12_readsCondition_X12_here rfl rfl rfl (by decide +kernel) ⟨Nat.le_of_ble_eq_true rfl, Nat.le_of_ble_eq_true rfl⟩) (va_recv hK.1 hP (ci := 12) (q0 := 0) rfl rfl) hP hK rfl hl.1 rfl (Nat.le_of_ble_eq_true rfl) dX12_readsCondition_1 ⟨Nat.le_of_ble_eq_true rfl, Nat.le_of_ble_eq_true rfl⟩ hP hS (fun H locs hP hS => ?_)
  refine lv_bipush (v := 40) hx hb dX12_readsCondition_4 (by decide) ?_
  refine lv_icmp_eq (tgt := 19) hx hb dX12_readsCondition_6 (by decide) (fun c31 => ?_) (fun c31 => ?_)
  · replace hf := ifp c31 hf
    refine lv_aload_n hx hb dX12_readsCondition_19 rfl (lv_at hl 0 rfl) ?_
    refine lv_iconst (v := 0) hx hb dX12_readsCondition_20 (by decide) ?_
    obtain ⟨u32, eu32, hf⟩ := lett_e hf
    refine va_put (D := D) (ci := 12) (v := .int 0) (ty := .int) (C := RX12) (T := TX12) (N := 52) hx hb hts hinX12 tyX12 tyX12_ok nmX12 hown hK.1 hP hD hS 0 rfl rfl 11 (by decide) (hts (.fieldLink RX12 154 "RopeScaleModel" "open" "I") (List.mem_of_getElem? (i := 2) rfl)) (fun _ h9 => h9) rfl (tyX12_ok 11 (by decide)) rfl rfl (Nat.le_of_ble_eq_true rfl) dX12_readsCondition_21 (fun H locs hP hD hS => ?_)
    have hP : va_P D vwCl (kX12 T h a u32) H := by rw [eu32]; exact hP
    have hD : va_D (va_A (kX12 T h a u) s.heap.size) (kX12 T h a u32) := by rw [eu32]; exact hD
    refine lv_aload_n hx hb dX12_readsCondition_24 rfl (lv_at hl 0 rfl) ?_
    refine lv_iconst (v := 0) hx hb dX12_readsCondition_25 (by decide) ?_
    obtain ⟨u33, eu33, hf⟩ := lett_e hf
    refine va_put (D := D) (ci := 12) (v := .int 0) (ty := .int) (C := RX12) (T := TX12) (N := 52) hx hb hts hinX12 tyX12 tyX12_ok nmX12 hown hK.1 hP hD hS 0 rfl rfl 13 (by decide) (hts (.fieldLink RX12 157 "RopeScaleModel" "waiting" "I") (List.mem_of_getElem? (i := 3) rfl)) (fun _ h9 => h9) rfl (tyX12_ok 13 (by decide)) rfl rfl (Nat.le_of_ble_eq_true rfl) dX12_readsCondition_26 (fun H locs hP hD hS => ?_)
    have hP : va_P D vwCl (kX12 T h a u33) H := by rw [eu33]; exact hP
    have hD : va_D (va_A (kX12 T h a u) s.heap.size) (kX12 T h a u33) := by rw [eu33]; exact hD
    refine lv_aload_n hx hb dX12_readsCondition_29 rfl (lv_at hl 0 rfl) ?_
    refine lv_bipush (v := 13) hx hb dX12_readsCondition_30 (by decide) ?_
    obtain ⟨z34, hz34, hf⟩ := bnd hf
    have hFc9 := vaA_self hD hS hA
    refine cVM (As := [.int 13]) (rest := []) ⟨hx, hb, hml, hown, hts⟩ (mX12_opens l D T h a u33 _ 13 z34 hz34) (cwV 1 hts gX12_readsCondition_X12_opens rfl rfl rfl (by decide +kernel) ⟨Nat.le_of_ble_eq_true rfl, Nat.le_of_ble_eq_true rfl⟩) (va_recv hK.1 hP (ci := 12) (q0 := 0) rfl rfl) hP hK rfl hl.1 rfl (Nat.le_of_ble_eq_true rfl) dX12_readsCondition_32 ⟨Nat.le_of_ble_eq_true rfl, Nat.le_of_ble_eq_true rfl⟩ hD hFc9 hS (fun H locs hP hD1 _ hS => ?_)
    have hD := hD1.weaken (fun _ _ _ h9 => hFc9 _ h9)
    refine lv_if_ne (tgt := 40) hx hb dX12_readsCondition_35 (by decide) (fun c35 => ?_) (fun c35 => ?_)
    · replace hf := ifn c35 hf
      exact L40 FU z34.2 _ _ _ hf hP hD hS (lv_sub hl [0] rfl)
    replace hf := ifp c35 hf
    refine lv_iconst (v := 0) hx hb dX12_readsCondition_38 (by decide) ?_
    have e9 := Option.some.inj hf
    exact retMz hx hb hr hlocks hP hD hS rfl (congrArg (fun z => z.1) e9) (congrArg (fun z => (kX12 T h a z.2 : va_W)) e9) dX12_readsCondition_39
  replace hf := ifn c31 hf
  refine lv_aload_n hx hb dX12_readsCondition_9 rfl (lv_at hl 0 rfl) ?_
  refine lv_iconst (v := 1) hx hb dX12_readsCondition_10 (by decide) ?_
  refine lv_aload_n hx hb dX12_readsCondition_11 rfl (lv_at hl 0 rfl) ?_
  refine va_get (D := D) (ci := 12) (v := .int (u 7 0)) (C := RX12) (T := TX12) (N := 52) hx hb hts hinX12 hown hK.1 hP 0 rfl rfl 7 (by decide) (hts (.fieldLink RX12 126 "RopeScaleModel" "place0" "I") (List.mem_of_getElem? (i := 1) rfl)) (fun _ h9 => h9) rfl dX12_readsCondition_12 ?_
  obtain ⟨z36, hz36, hf⟩ := lett_e hf
  have hFc9 := vaA_self hD hS hA
  refine cVM (As := [.int 1, .int (u 7 0)]) (rest := []) ⟨hx, hb, hml, hown, hts⟩ (mX12_wrongAt l D T h a u _ 1 (u 7 0) z36 hz36.symm) (cwV 2 hts gX12_readsCondition_X12_wrongAt rfl rfl rfl (by decide +kernel) ⟨Nat.le_of_ble_eq_true rfl, Nat.le_of_ble_eq_true rfl⟩) (va_recv hK.1 hP (ci := 12) (q0 := 0) rfl rfl) hP hK rfl hl.1 rfl (Nat.le_of_ble_eq_true rfl) dX12_readsCondition_15 ⟨Nat.le_of_ble_eq_true rfl, Nat.le_of_ble_eq_true rfl⟩ hD hFc9 hS (fun H locs hP hD1 _ hS => ?_)
  have hD := hD1.weaken (fun _ _ _ h9 => hFc9 _ h9)
  obtain ⟨hz9, hf⟩ := zb_e hf
  have e9 := Option.some.inj hf
  exact retMz hx hb hr hlocks hP hD hS hz9 (congrArg (fun z => z.1) e9) (congrArg (fun z => (kX12 T h a z.2 : va_W)) e9) dX12_readsCondition_18
def fX12_readsRule_J140   (v : St) : Option (Int32 × St) := gd (v 14 0) 16 <| lett (st v 20 (ix (v 14 0)) (v 12 0)) fun u1 => (fX12_readsCondition u1).bind fun z2 => if z2.1 = 0 then some (0, z2.2) else gd (z2.2 14 0) 16 <| lett (st z2.2 21 (ix (z2.2 14 0)) (z2.2 12 0)) fun u4 => lett (st u4 14 0 ((u4 14 0) + 1)) fun u5 => some (1, u5)
def fX12_readsRule_J57   (v : St) (x1 : Int32) : Option (Int32 × St) := if (v 14 0) = 16 then lett (fX12_wrongAt v 4 (v 7 0)) fun z20 => zb z20.1 <| some (z20.1, z20.2) else gd (v 14 0) 16 <| lett (st v 18 (ix (v 14 0)) x1) fun u9 => lett (st u9 7 0 ((u9 7 0) + 1)) fun u10 => gd (u10 14 0) 16 <| lett (st u10 19 (ix (u10 14 0)) (u10 12 0)) fun u11 => lett (st u11 11 0 0) fun u12 => lett (st u12 13 0 0) fun u13 => if x1 = 103 then fX12_readsRule_J140 u13 else if x1 = 114 then fX12_readsRule_J140 u13 else (fX12_readsSum u13).bind fun z16 => if z16.1 = 0 then some (0, z16.2) else fX12_readsRule_J140 z16.2
def fX12_readsRule  (u : St)  : Option (Int32 × St) := (fX12_here u).bind fun z21 => if z21 = 103 then fX12_readsRule_J57 u z21 else if z21 = 114 then fX12_readsRule_J57 u z21 else if z21 = 102 then fX12_readsRule_J57 u z21 else if z21 = 101 then fX12_readsRule_J57 u z21 else if z21 = 98 then fX12_readsRule_J57 u z21 else if z21 = 119 then fX12_readsRule_J57 u z21 else if z21 = 108 then fX12_readsRule_J57 u z21 else lett (fX12_wrongAt u 1 (u 7 0)) fun z29 => zb z29.1 <| some (z29.1, z29.2)
set_option maxHeartbeats 4000000 in
set_option maxRecDepth 100000 in
theorem mX12_readsRule (l : Launch) (D : va_G) (T : Ty3) (h : Nat) (a : Nat → Nat) (u : St) (sz : Nat)  (res : Int32 × St) (hf : fX12_readsRule u = some res) : Met l yX12_readsRule wsX12_readsRule ({ frames := 7, cells := 0, slots := 0, locals := 145 }) (PcM D T (kX12 T h a u) sz [.ref h]) (QM D (kX12 T h a u) sz res.1 (kX12 T h a res.2)) 0 0 (va_A (kX12 T h a u) sz) := by
  refine Met.ofW (cc := cX12_readsRule) (maxL := 2) (ret := (some .boolean)) (by decide) rfl ?_
  intro p e s m args below meth c s₁ B hml hv
  obtain ⟨rfl, hsz, hP, hK, hD0⟩ := hv
  have hx := B.exec
  have hb := B.bytes
  have hr := B.returns
  have hts := atoms_spec (ws := wsX12_readsRule) B.pre
  have hown : s.vm.findClass RX12 = some m.cls := findClass_of_methodNamed B.named
  have hlocks := B.notSynchronized
  subst hsz
  have hD := hD0.self (sz := s.heap.size)
  have hA : ∀ q : Nat, s.heap.size ≤ q → va_A (kX12 T h a u) s.heap.size q := fun q h => Or.inr h
  have hS : va_S (va_A (kX12 T h a u) s.heap.size) s.heap s.heap [] := va_S.rf
  have hinX12 : ∀ w ∈ u_ws RX12 TX12 52, w ∈ wsX12_readsRule := fun w h => List.mem_cons_of_mem _ (List.mem_append_right _ h)
  have hl := lv_entry ([.ref h]) (n := 2) (Nat.le_of_ble_eq_true rfl)
  rw [lg_entry_eq]
  generalize (lg_sl ([.ref h]) ++ List.replicate (2 - (lg_sl ([.ref h])).length) Slot.unset).toArray = ls at hl ⊢
  have hl : lv_has ls 2 [(0, .ref h)] := hl
  have J140 : ∀ (v : St) (H : Heap) (locs : List Loc) (ls : Array Slot), fX12_readsRule_J140  v = some res → va_P D vwCl (kX12 T h a v) H → va_D (va_A (kX12 T h a u) s.heap.size) (kX12 T h a v) → va_S (va_A (kX12 T h a u) s.heap.size) s.heap H locs → lv_has ls 2 [(0, .ref h)] → W p l e (headSpec wsX12_readsRule ({ frames := 7, cells := 0, slots := 0, locals := 145 })).room s m ([.ref h] : List Value).toArray below meth c H locs 0 0 (MQ below (QM D (kX12 T h a u) s.heap.size res.1 (kX12 T h a res.2)) ([.ref h] : List Value).toArray s 0 0 (va_A (kX12 T h a u) s.heap.size)) (F0 m 140 ls []) := by
    intro v H locs ls hf hP hD hS hl
    unfold fX12_readsRule_J140 at hf
    refine lv_aload_n hx hb dX12_readsRule_140 rfl (lv_at hl 0 rfl) ?_
    refine va_get (D := D) (ci := 12) (v := .ref (a 20)) (C := RX12) (T := TX12) (N := 52) hx hb hts hinX12 hown hK.1 hP 0 rfl rfl 20 (by decide) (hts (.fieldLink RX12 35 "RopeScaleModel" "saidHalf" "[I") (List.mem_of_getElem? (i := 8) rfl)) (fun _ h9 => h9) rfl dX12_readsRule_141 ?_
    refine lv_aload_n hx hb dX12_readsRule_144 rfl (lv_at hl 0 rfl) ?_
    refine va_get (D := D) (ci := 12) (v := .int (v 14 0)) (C := RX12) (T := TX12) (N := 52) hx hb hts hinX12 hown hK.1 hP 0 rfl rfl 14 (by decide) (hts (.fieldLink RX12 205 "RopeScaleModel" "saidMany" "I") (List.mem_of_getElem? (i := 2) rfl)) (fun _ h9 => h9) rfl dX12_readsRule_145 ?_
    refine lv_aload_n hx hb dX12_readsRule_148 rfl (lv_at hl 0 rfl) ?_
    refine va_get (D := D) (ci := 12) (v := .int (v 12 0)) (C := RX12) (T := TX12) (N := 52) hx hb hts hinX12 hown hK.1 hP 0 rfl rfl 12 (by decide) (hts (.fieldLink RX12 150 "RopeScaleModel" "codeMany" "I") (List.mem_of_getElem? (i := 5) rfl)) (fun _ h9 => h9) rfl dX12_readsRule_149 ?_
    obtain ⟨h7, hf⟩ := gd_e hf
    obtain ⟨u1, eu1, hf⟩ := lett_e hf
    refine va_iast hx hb hK.1 hP hD hS 9 0 rfl rfl h7 dX12_readsRule_152 (fun H locs hP hD hS => ?_)
    have hP : va_P D vwCl (kX12 T h a u1) H := by rw [eu1]; exact hP
    have hD : va_D (va_A (kX12 T h a u) s.heap.size) (kX12 T h a u1) := by rw [eu1]; exact hD
    refine lv_aload_n hx hb dX12_readsRule_153 rfl (lv_at hl 0 rfl) ?_
    obtain ⟨z2, hz2, hf⟩ := bnd hf
    have hFc9 := vaA_self hD hS hA
    refine cVM (As := []) (rest := []) ⟨hx, hb, hml, hown, hts⟩ (mX12_readsCondition l D T h a u1 _ z2 hz2) (cwV 0 hts gX12_readsRule_X12_readsCondition rfl rfl rfl (by decide +kernel) ⟨Nat.le_of_ble_eq_true rfl, Nat.le_of_ble_eq_true rfl⟩) (va_recv hK.1 hP (ci := 12) (q0 := 0) rfl rfl) hP hK rfl hl.1 rfl (Nat.le_of_ble_eq_true rfl) dX12_readsRule_154 ⟨Nat.le_of_ble_eq_true rfl, Nat.le_of_ble_eq_true rfl⟩ hD hFc9 hS (fun H locs hP hD1 _ hS => ?_)
    have hD := hD1.weaken (fun _ _ _ h9 => hFc9 _ h9)
    refine lv_if_ne (tgt := 162) hx hb dX12_readsRule_157 (by decide) (fun c3 => ?_) (fun c3 => ?_)
    · replace hf := ifn c3 hf
      refine lv_aload_n hx hb dX12_readsRule_162 rfl (lv_at hl 0 rfl) ?_
      refine va_get (D := D) (ci := 12) (v := .ref (a 21)) (C := RX12) (T := TX12) (N := 52) hx hb hts hinX12 hown hK.1 hP 0 rfl rfl 21 (by decide) (hts (.fieldLink RX12 38 "RopeScaleModel" "saidTo" "[I") (List.mem_of_getElem? (i := 9) rfl)) (fun _ h9 => h9) rfl dX12_readsRule_163 ?_
      refine lv_aload_n hx hb dX12_readsRule_166 rfl (lv_at hl 0 rfl) ?_
      refine va_get (D := D) (ci := 12) (v := .int (z2.2 14 0)) (C := RX12) (T := TX12) (N := 52) hx hb hts hinX12 hown hK.1 hP 0 rfl rfl 14 (by decide) (hts (.fieldLink RX12 205 "RopeScaleModel" "saidMany" "I") (List.mem_of_getElem? (i := 2) rfl)) (fun _ h9 => h9) rfl dX12_readsRule_167 ?_
      refine lv_aload_n hx hb dX12_readsRule_170 rfl (lv_at hl 0 rfl) ?_
      refine va_get (D := D) (ci := 12) (v := .int (z2.2 12 0)) (C := RX12) (T := TX12) (N := 52) hx hb hts hinX12 hown hK.1 hP 0 rfl rfl 12 (by decide) (hts (.fieldLink RX12 150 "RopeScaleModel" "codeMany" "I") (List.mem_of_getElem? (i := 5) rfl)) (fun _ h9 => h9) rfl dX12_readsRule_171 ?_
      obtain ⟨h6, hf⟩ := gd_e hf
      obtain ⟨u4, eu4, hf⟩ := lett_e hf
      refine va_iast hx hb hK.1 hP hD hS 10 0 rfl rfl h6 dX12_readsRule_174 (fun H locs hP hD hS => ?_)
      have hP : va_P D vwCl (kX12 T h a u4) H := by rw [eu4]; exact hP
      have hD : va_D (va_A (kX12 T h a u) s.heap.size) (kX12 T h a u4) := by rw [eu4]; exact hD
      refine lv_aload_n hx hb dX12_readsRule_175 rfl (lv_at hl 0 rfl) ?_
      refine lv_aload_n hx hb dX12_readsRule_176 rfl (lv_at hl 0 rfl) ?_
      refine va_get (D := D) (ci := 12) (v := .int (u4 14 0)) (C := RX12) (T := TX12) (N := 52) hx hb hts hinX12 hown hK.1 hP 0 rfl rfl 14 (by decide) (hts (.fieldLink RX12 205 "RopeScaleModel" "saidMany" "I") (List.mem_of_getElem? (i := 2) rfl)) (fun _ h9 => h9) rfl dX12_readsRule_177 ?_
      refine lv_iconst (v := 1) hx hb dX12_readsRule_180 (by decide) ?_
      refine lv_iadd hx hb dX12_readsRule_181 ?_
      obtain ⟨u5, eu5, hf⟩ := lett_e hf
      refine va_put (D := D) (ci := 12) (v := .int ((u4 14 0) + 1)) (ty := .int) (C := RX12) (T := TX12) (N := 52) hx hb hts hinX12 tyX12 tyX12_ok nmX12 hown hK.1 hP hD hS 0 rfl rfl 14 (by decide) (hts (.fieldLink RX12 205 "RopeScaleModel" "saidMany" "I") (List.mem_of_getElem? (i := 2) rfl)) (fun _ h9 => h9) rfl (tyX12_ok 14 (by decide)) rfl rfl (Nat.le_of_ble_eq_true rfl) dX12_readsRule_182 (fun H locs hP hD hS => ?_)
      have hP : va_P D vwCl (kX12 T h a u5) H := by rw [eu5]; exact hP
      have hD : va_D (va_A (kX12 T h a u) s.heap.size) (kX12 T h a u5) := by rw [eu5]; exact hD
      refine lv_iconst (v := 1) hx hb dX12_readsRule_185 (by decide) ?_
      have e9 := Option.some.inj hf
      exact retMz hx hb hr hlocks hP hD hS rfl (congrArg (fun z => z.1) e9) (congrArg (fun z => (kX12 T h a z.2 : va_W)) e9) dX12_readsRule_186
    replace hf := ifp c3 hf
    refine lv_iconst (v := 0) hx hb dX12_readsRule_160 (by decide) ?_
    have e9 := Option.some.inj hf
    exact retMz hx hb hr hlocks hP hD hS rfl (congrArg (fun z => z.1) e9) (congrArg (fun z => (kX12 T h a z.2 : va_W)) e9) dX12_readsRule_161
  have J57 : ∀ (v : St) (x1 : Int32) (H : Heap) (locs : List Loc) (ls : Array Slot), fX12_readsRule_J57  v x1 = some res → va_P D vwCl (kX12 T h a v) H → va_D (va_A (kX12 T h a u) s.heap.size) (kX12 T h a v) → va_S (va_A (kX12 T h a u) s.heap.size) s.heap H locs → lv_has ls 2 [(0, .ref h), (1, .int x1)] → W p l e (headSpec wsX12_readsRule ({ frames := 7, cells := 0, slots := 0, locals := 145 })).room s m ([.ref h] : List Value).toArray below meth c H locs 0 0 (MQ below (QM D (kX12 T h a u) s.heap.size res.1 (kX12 T h a res.2)) ([.ref h] : List Value).toArray s 0 0 (va_A (kX12 T h a u) s.heap.size)) (F0 m 57 ls []) := by
    intro v x1 H locs ls hf hP hD hS hl
    unfold fX12_readsRule_J57 at hf
    refine lv_aload_n hx hb dX12_readsRule_57 rfl (lv_at hl 0 rfl) ?_
    refine va_get (D := D) (ci := 12) (v := .int (v 14 0)) (C := RX12) (T := TX12) (N := 52) hx hb hts hinX12 hown hK.1 hP 0 rfl rfl 14 (by decide) (hts (.fieldLink RX12 205 "RopeScaleModel" "saidMany" "I") (List.mem_of_getElem? (i := 2) rfl)) (fun _ h9 => h9) rfl dX12_readsRule_58 ?_
    refine lv_bipush (v := 16) hx hb dX12_readsRule_61 (by decide) ?_
    refine lv_icmp_ne (tgt := 76) hx hb dX12_readsRule_63 (by decide) (fun c8 => ?_) (fun c8 => ?_)
    · replace hf := ifn c8 hf
      refine lv_aload_n hx hb dX12_readsRule_76 rfl (lv_at hl 0 rfl) ?_
      refine va_get (D := D) (ci := 12) (v := .ref (a 18)) (C := RX12) (T := TX12) (N := 52) hx hb hts hinX12 hown hK.1 hP 0 rfl rfl 18 (by decide) (hts (.fieldLink RX12 29 "RopeScaleModel" "saidLetter" "[I") (List.mem_of_getElem? (i := 3) rfl)) (fun _ h9 => h9) rfl dX12_readsRule_77 ?_
      refine lv_aload_n hx hb dX12_readsRule_80 rfl (lv_at hl 0 rfl) ?_
      refine va_get (D := D) (ci := 12) (v := .int (v 14 0)) (C := RX12) (T := TX12) (N := 52) hx hb hts hinX12 hown hK.1 hP 0 rfl rfl 14 (by decide) (hts (.fieldLink RX12 205 "RopeScaleModel" "saidMany" "I") (List.mem_of_getElem? (i := 2) rfl)) (fun _ h9 => h9) rfl dX12_readsRule_81 ?_
      refine lv_iload_n hx hb dX12_readsRule_84 rfl (lv_at hl 1 rfl) ?_
      obtain ⟨h19, hf⟩ := gd_e hf
      obtain ⟨u9, eu9, hf⟩ := lett_e hf
      refine va_iast hx hb hK.1 hP hD hS 7 0 rfl rfl h19 dX12_readsRule_85 (fun H locs hP hD hS => ?_)
      have hP : va_P D vwCl (kX12 T h a u9) H := by rw [eu9]; exact hP
      have hD : va_D (va_A (kX12 T h a u) s.heap.size) (kX12 T h a u9) := by rw [eu9]; exact hD
      refine lv_aload_n hx hb dX12_readsRule_86 rfl (lv_at hl 0 rfl) ?_
      refine lv_aload_n hx hb dX12_readsRule_87 rfl (lv_at hl 0 rfl) ?_
      refine va_get (D := D) (ci := 12) (v := .int (u9 7 0)) (C := RX12) (T := TX12) (N := 52) hx hb hts hinX12 hown hK.1 hP 0 rfl rfl 7 (by decide) (hts (.fieldLink RX12 126 "RopeScaleModel" "place0" "I") (List.mem_of_getElem? (i := 1) rfl)) (fun _ h9 => h9) rfl dX12_readsRule_88 ?_
      refine lv_iconst (v := 1) hx hb dX12_readsRule_91 (by decide) ?_
      refine lv_iadd hx hb dX12_readsRule_92 ?_
      obtain ⟨u10, eu10, hf⟩ := lett_e hf
      refine va_put (D := D) (ci := 12) (v := .int ((u9 7 0) + 1)) (ty := .int) (C := RX12) (T := TX12) (N := 52) hx hb hts hinX12 tyX12 tyX12_ok nmX12 hown hK.1 hP hD hS 0 rfl rfl 7 (by decide) (hts (.fieldLink RX12 126 "RopeScaleModel" "place0" "I") (List.mem_of_getElem? (i := 1) rfl)) (fun _ h9 => h9) rfl (tyX12_ok 7 (by decide)) rfl rfl (Nat.le_of_ble_eq_true rfl) dX12_readsRule_93 (fun H locs hP hD hS => ?_)
      have hP : va_P D vwCl (kX12 T h a u10) H := by rw [eu10]; exact hP
      have hD : va_D (va_A (kX12 T h a u) s.heap.size) (kX12 T h a u10) := by rw [eu10]; exact hD
      refine lv_aload_n hx hb dX12_readsRule_96 rfl (lv_at hl 0 rfl) ?_
      refine va_get (D := D) (ci := 12) (v := .ref (a 19)) (C := RX12) (T := TX12) (N := 52) hx hb hts hinX12 hown hK.1 hP 0 rfl rfl 19 (by decide) (hts (.fieldLink RX12 32 "RopeScaleModel" "saidFrom" "[I") (List.mem_of_getElem? (i := 4) rfl)) (fun _ h9 => h9) rfl dX12_readsRule_97 ?_
      refine lv_aload_n hx hb dX12_readsRule_100 rfl (lv_at hl 0 rfl) ?_
      refine va_get (D := D) (ci := 12) (v := .int (u10 14 0)) (C := RX12) (T := TX12) (N := 52) hx hb hts hinX12 hown hK.1 hP 0 rfl rfl 14 (by decide) (hts (.fieldLink RX12 205 "RopeScaleModel" "saidMany" "I") (List.mem_of_getElem? (i := 2) rfl)) (fun _ h9 => h9) rfl dX12_readsRule_101 ?_
      refine lv_aload_n hx hb dX12_readsRule_104 rfl (lv_at hl 0 rfl) ?_
      refine va_get (D := D) (ci := 12) (v := .int (u10 12 0)) (C := RX12) (T := TX12) (N := 52) hx hb hts hinX12 hown hK.1 hP 0 rfl rfl 12 (by decide) (hts (.fieldLink RX12 150 "RopeScaleModel" "codeMany" "I") (List.mem_of_getElem? (i := 5) rfl)) (fun _ h9 => h9) rfl dX12_readsRule_105 ?_
      obtain ⟨h18, hf⟩ := gd_e hf
      obtain ⟨u11, eu11, hf⟩ := lett_e hf
      refine va_iast hx hb hK.1 hP hD hS 8 0 rfl rfl h18 dX12_readsRule_108 (fun H locs hP hD hS => ?_)
      have hP : va_P D vwCl (kX12 T h a u11) H := by rw [eu11]; exact hP
      have hD : va_D (va_A (kX12 T h a u) s.heap.size) (kX12 T h a u11) := by rw [eu11]; exact hD
      refine lv_aload_n hx hb dX12_readsRule_109 rfl (lv_at hl 0 rfl) ?_
      refine lv_iconst (v := 0) hx hb dX12_readsRule_110 (by decide) ?_
      obtain ⟨u12, eu12, hf⟩ := lett_e hf
      refine va_put (D := D) (ci := 12) (v := .int 0) (ty := .int) (C := RX12) (T := TX12) (N := 52) hx hb hts hinX12 tyX12 tyX12_ok nmX12 hown hK.1 hP hD hS 0 rfl rfl 11 (by decide) (hts (.fieldLink RX12 154 "RopeScaleModel" "open" "I") (List.mem_of_getElem? (i := 6) rfl)) (fun _ h9 => h9) rfl (tyX12_ok 11 (by decide)) rfl rfl (Nat.le_of_ble_eq_true rfl) dX12_readsRule_111 (fun H locs hP hD hS => ?_)
      have hP : va_P D vwCl (kX12 T h a u12) H := by rw [eu12]; exact hP
      have hD : va_D (va_A (kX12 T h a u) s.heap.size) (kX12 T h a u12) := by rw [eu12]; exact hD
      refine lv_aload_n hx hb dX12_readsRule_114 rfl (lv_at hl 0 rfl) ?_
      refine lv_iconst (v := 0) hx hb dX12_readsRule_115 (by decide) ?_
      obtain ⟨u13, eu13, hf⟩ := lett_e hf
      refine va_put (D := D) (ci := 12) (v := .int 0) (ty := .int) (C := RX12) (T := TX12) (N := 52) hx hb hts hinX12 tyX12 tyX12_ok nmX12 hown hK.1 hP hD hS 0 rfl rfl 13 (by decide) (hts (.fieldLink RX12 157 "RopeScaleModel" "waiting" "I") (List.mem_of_getElem? (i := 7) rfl)) (fun _ h9 => h9) rfl (tyX12_ok 13 (by decide)) rfl rfl (Nat.le_of_ble_eq_true rfl) dX12_readsRule_116 (fun H locs hP hD hS => ?_)
      have hP : va_P D vwCl (kX12 T h a u13) H := by rw [eu13]; exact hP
      have hD : va_D (va_A (kX12 T h a u) s.heap.size) (kX12 T h a u13) := by rw [eu13]; exact hD
      refine lv_iload_n hx hb dX12_readsRule_119 rfl (lv_at hl 1 rfl) ?_
      refine lv_bipush (v := 103) hx hb dX12_readsRule_120 (by decide) ?_
      refine lv_icmp_eq (tgt := 140) hx hb dX12_readsRule_122 (by decide) (fun c14 => ?_) (fun c14 => ?_)
      · replace hf := ifp c14 hf
        exact J140 u13 _ _ _ hf hP hD hS (lv_sub hl [0] rfl)
      replace hf := ifn c14 hf
      refine lv_iload_n hx hb dX12_readsRule_125 rfl (lv_at hl 1 rfl) ?_
      refine lv_bipush (v := 114) hx hb dX12_readsRule_126 (by decide) ?_
      refine lv_icmp_eq (tgt := 140) hx hb dX12_readsRule_128 (by decide) (fun c15 => ?_) (fun c15 => ?_)
      · replace hf := ifp c15 hf
        exact J140 u13 _ _ _ hf hP hD hS (lv_sub hl [0] rfl)
      replace hf := ifn c15 hf
      refine lv_aload_n hx hb dX12_readsRule_131 rfl (lv_at hl 0 rfl) ?_
      obtain ⟨z16, hz16, hf⟩ := bnd hf
      have hFc9 := vaA_self hD hS hA
      refine cVM (As := []) (rest := []) ⟨hx, hb, hml, hown, hts⟩ (mX12_readsSum l D T h a u13 _ z16 hz16) (cwV 0 hts gX12_readsRule_X12_readsSum rfl rfl rfl (by decide +kernel) ⟨Nat.le_of_ble_eq_true rfl, Nat.le_of_ble_eq_true rfl⟩) (va_recv hK.1 hP (ci := 12) (q0 := 0) rfl rfl) hP hK rfl hl.1 rfl (Nat.le_of_ble_eq_true rfl) dX12_readsRule_132 ⟨Nat.le_of_ble_eq_true rfl, Nat.le_of_ble_eq_true rfl⟩ hD hFc9 hS (fun H locs hP hD1 _ hS => ?_)
      have hD := hD1.weaken (fun _ _ _ h9 => hFc9 _ h9)
      refine lv_if_ne (tgt := 140) hx hb dX12_readsRule_135 (by decide) (fun c17 => ?_) (fun c17 => ?_)
      · replace hf := ifn c17 hf
        exact J140 z16.2 _ _ _ hf hP hD hS (lv_sub hl [0] rfl)
      replace hf := ifp c17 hf
      refine lv_iconst (v := 0) hx hb dX12_readsRule_138 (by decide) ?_
      have e9 := Option.some.inj hf
      exact retMz hx hb hr hlocks hP hD hS rfl (congrArg (fun z => z.1) e9) (congrArg (fun z => (kX12 T h a z.2 : va_W)) e9) dX12_readsRule_139
    replace hf := ifp c8 hf
    refine lv_aload_n hx hb dX12_readsRule_66 rfl (lv_at hl 0 rfl) ?_
    refine lv_iconst (v := 4) hx hb dX12_readsRule_67 (by decide) ?_
    refine lv_aload_n hx hb dX12_readsRule_68 rfl (lv_at hl 0 rfl) ?_
    refine va_get (D := D) (ci := 12) (v := .int (v 7 0)) (C := RX12) (T := TX12) (N := 52) hx hb hts hinX12 hown hK.1 hP 0 rfl rfl 7 (by decide) (hts (.fieldLink RX12 126 "RopeScaleModel" "place0" "I") (List.mem_of_getElem? (i := 1) rfl)) (fun _ h9 => h9) rfl dX12_readsRule_69 ?_
    obtain ⟨z20, hz20, hf⟩ := lett_e hf
    have hFc9 := vaA_self hD hS hA
    refine cVM (As := [.int 4, .int (v 7 0)]) (rest := []) ⟨hx, hb, hml, hown, hts⟩ (mX12_wrongAt l D T h a v _ 4 (v 7 0) z20 hz20.symm) (cwV 2 hts gX12_readsRule_X12_wrongAt rfl rfl rfl (by decide +kernel) ⟨Nat.le_of_ble_eq_true rfl, Nat.le_of_ble_eq_true rfl⟩) (va_recv hK.1 hP (ci := 12) (q0 := 0) rfl rfl) hP hK rfl hl.1 rfl (Nat.le_of_ble_eq_true rfl) dX12_readsRule_72 ⟨Nat.le_of_ble_eq_true rfl, Nat.le_of_ble_eq_true rfl⟩ hD hFc9 hS (fun H locs hP hD1 _ hS => ?_)
    have hD := hD1.weaken (fun _ _ _ h9 => hFc9 _ h9)
    obtain ⟨hz9, hf⟩ := zb_e hf
    have e9 := Option.some.inj hf
    exact retMz hx hb hr hlocks hP hD hS hz9 (congrArg (fun z => z.1) e9) (congrArg (fun z => (kX12 T h a z.2 : va_W)) e9) dX12_readsRule_75
  unfold fX12_readsRule at hf
  refine lv_aload_n hx hb dX12_readsRule_0 rfl (lv_at hl 0 rfl) ?_
  obtain ⟨z21, hz21, hf⟩ := bnd hf
  refine cVR (As := []) (rest := []) ⟨hx, hb, hml, hown, hts⟩ (mX12_here l D T h a u z21 hz21) (cwV 0 hts gX12_readsRule_X12_here rfl rfl rfl (by decide +kernel) ⟨Nat.le_of_ble_eq_true rfl, Nat.le_of_ble_eq_true rfl⟩) (va_recv hK.1 hP (ci := 12) (q0 := 0) rfl rfl) hP hK rfl hl.1 rfl (Nat.le_of_ble_eq_true rfl) dX12_readsRule_1 ⟨Nat.le_of_ble_eq_true rfl, Nat.le_of_ble_eq_true rfl⟩ hP hS (fun H locs hP hS => ?_)
  refine lv_istore_n (lv' := [(1, .int z21), (0, .ref h)]) hx hb dX12_readsRule_4 rfl hl (by decide) rfl (fun ls hl => ?_)
  refine lv_iload_n hx hb dX12_readsRule_5 rfl (lv_at hl 0 rfl) ?_
  refine lv_bipush (v := 103) hx hb dX12_readsRule_6 (by decide) ?_
  refine lv_icmp_eq (tgt := 57) hx hb dX12_readsRule_8 (by decide) (fun c22 => ?_) (fun c22 => ?_)
  · replace hf := ifp c22 hf
    exact J57 u z21 _ _ _ hf hP hD hS (lv_sub hl [1, 0] rfl)
  replace hf := ifn c22 hf
  refine lv_iload_n hx hb dX12_readsRule_11 rfl (lv_at hl 0 rfl) ?_
  refine lv_bipush (v := 114) hx hb dX12_readsRule_12 (by decide) ?_
  refine lv_icmp_eq (tgt := 57) hx hb dX12_readsRule_14 (by decide) (fun c23 => ?_) (fun c23 => ?_)
  · replace hf := ifp c23 hf
    exact J57 u z21 _ _ _ hf hP hD hS (lv_sub hl [1, 0] rfl)
  replace hf := ifn c23 hf
  refine lv_iload_n hx hb dX12_readsRule_17 rfl (lv_at hl 0 rfl) ?_
  refine lv_bipush (v := 102) hx hb dX12_readsRule_18 (by decide) ?_
  refine lv_icmp_eq (tgt := 57) hx hb dX12_readsRule_20 (by decide) (fun c24 => ?_) (fun c24 => ?_)
  · replace hf := ifp c24 hf
    exact J57 u z21 _ _ _ hf hP hD hS (lv_sub hl [1, 0] rfl)
  replace hf := ifn c24 hf
  refine lv_iload_n hx hb dX12_readsRule_23 rfl (lv_at hl 0 rfl) ?_
  refine lv_bipush (v := 101) hx hb dX12_readsRule_24 (by decide) ?_
  refine lv_icmp_eq (tgt := 57) hx hb dX12_readsRule_26 (by decide) (fun c25 => ?_) (fun c25 => ?_)
  · replace hf := ifp c25 hf
    exact J57 u z21 _ _ _ hf hP hD hS (lv_sub hl [1, 0] rfl)
  replace hf := ifn c25 hf
  refine lv_iload_n hx hb dX12_readsRule_29 rfl (lv_at hl 0 rfl) ?_
  refine lv_bipush (v := 98) hx hb dX12_readsRule_30 (by decide) ?_
  refine lv_icmp_eq (tgt := 57) hx hb dX12_readsRule_32 (by decide) (fun c26 => ?_) (fun c26 => ?_)
  · replace hf := ifp c26 hf
    exact J57 u z21 _ _ _ hf hP hD hS (lv_sub hl [1, 0] rfl)
  replace hf := ifn c26 hf
  refine lv_iload_n hx hb dX12_readsRule_35 rfl (lv_at hl 0 rfl) ?_
  refine lv_bipush (v := 119) hx hb dX12_readsRule_36 (by decide) ?_
  refine lv_icmp_eq (tgt := 57) hx hb dX12_readsRule_38 (by decide) (fun c27 => ?_) (fun c27 => ?_)
  · replace hf := ifp c27 hf
    exact J57 u z21 _ _ _ hf hP hD hS (lv_sub hl [1, 0] rfl)
  replace hf := ifn c27 hf
  refine lv_iload_n hx hb dX12_readsRule_41 rfl (lv_at hl 0 rfl) ?_
  refine lv_bipush (v := 108) hx hb dX12_readsRule_42 (by decide) ?_
  refine lv_icmp_eq (tgt := 57) hx hb dX12_readsRule_44 (by decide) (fun c28 => ?_) (fun c28 => ?_)
  · replace hf := ifp c28 hf
    exact J57 u z21 _ _ _ hf hP hD hS (lv_sub hl [1, 0] rfl)
  replace hf := ifn c28 hf
  refine lv_aload_n hx hb dX12_readsRule_47 rfl (lv_at hl 1 rfl) ?_
  refine lv_iconst (v := 1) hx hb dX12_readsRule_48 (by decide) ?_
  refine lv_aload_n hx hb dX12_readsRule_49 rfl (lv_at hl 1 rfl) ?_
  refine va_get (D := D) (ci := 12) (v := .int (u 7 0)) (C := RX12) (T := TX12) (N := 52) hx hb hts hinX12 hown hK.1 hP 0 rfl rfl 7 (by decide) (hts (.fieldLink RX12 126 "RopeScaleModel" "place0" "I") (List.mem_of_getElem? (i := 1) rfl)) (fun _ h9 => h9) rfl dX12_readsRule_50 ?_
  obtain ⟨z29, hz29, hf⟩ := lett_e hf
  have hFc9 := vaA_self hD hS hA
  refine cVM (As := [.int 1, .int (u 7 0)]) (rest := []) ⟨hx, hb, hml, hown, hts⟩ (mX12_wrongAt l D T h a u _ 1 (u 7 0) z29 hz29.symm) (cwV 2 hts gX12_readsRule_X12_wrongAt rfl rfl rfl (by decide +kernel) ⟨Nat.le_of_ble_eq_true rfl, Nat.le_of_ble_eq_true rfl⟩) (va_recv hK.1 hP (ci := 12) (q0 := 0) rfl rfl) hP hK rfl hl.1 rfl (Nat.le_of_ble_eq_true rfl) dX12_readsRule_53 ⟨Nat.le_of_ble_eq_true rfl, Nat.le_of_ble_eq_true rfl⟩ hD hFc9 hS (fun H locs hP hD1 _ hS => ?_)
  have hD := hD1.weaken (fun _ _ _ h9 => hFc9 _ h9)
  obtain ⟨hz9, hf⟩ := zb_e hf
  have e9 := Option.some.inj hf
  exact retMz hx hb hr hlocks hP hD hS hz9 (congrArg (fun z => z.1) e9) (congrArg (fun z => (kX12 T h a z.2 : va_W)) e9) dX12_readsRule_56
def fX12_beginsText  (u : St) (p1 : Int32) : (St) := lett (st u 7 0 0) fun u1 => lett (st u1 8 0 p1) fun u2 => lett (st u2 12 0 0) fun u3 => lett (st u3 14 0 0) fun u4 => u4
set_option maxHeartbeats 4000000 in
set_option maxRecDepth 100000 in
theorem mX12_beginsText (l : Launch) (D : va_G) (T : Ty3) (h : Nat) (a : Nat → Nat) (u : St) (sz : Nat) (p1 : Int32) (res : St) (hf : fX12_beginsText u p1 = res) : Met l yX12_beginsText wsX12_beginsText ({ frames := 0, cells := 0, slots := 0, locals := 0 }) (PcM D T (kX12 T h a u) sz [.ref h, .int p1]) (QMv D (kX12 T h a u) sz (kX12 T h a res)) 0 0 (va_A (kX12 T h a u) sz) := by
  refine Met.ofW (cc := cX12_beginsText) (maxL := 2) (ret := none) (by decide) rfl ?_
  intro p e s m args below meth c s₁ B hml hv
  obtain ⟨rfl, hsz, hP, hK, hD0⟩ := hv
  have hx := B.exec
  have hb := B.bytes
  have hr := B.returns
  have hts := atoms_spec (ws := wsX12_beginsText) B.pre
  have hown : s.vm.findClass RX12 = some m.cls := findClass_of_methodNamed B.named
  have hlocks := B.notSynchronized
  subst hsz
  have hD := hD0.self (sz := s.heap.size)
  have hA : ∀ q : Nat, s.heap.size ≤ q → va_A (kX12 T h a u) s.heap.size q := fun q h => Or.inr h
  have hS : va_S (va_A (kX12 T h a u) s.heap.size) s.heap s.heap [] := va_S.rf
  have hinX12 : ∀ w ∈ u_ws RX12 TX12 52, w ∈ wsX12_beginsText := fun w h => List.mem_cons_of_mem _ (List.mem_append_right _ h)
  have hl := lv_entry ([.ref h, .int p1]) (n := 2) (Nat.le_of_ble_eq_true rfl)
  rw [lg_entry_eq]
  generalize (lg_sl ([.ref h, .int p1]) ++ List.replicate (2 - (lg_sl ([.ref h, .int p1])).length) Slot.unset).toArray = ls at hl ⊢
  have hl : lv_has ls 2 [(0, .ref h), (1, .int p1)] := hl
  unfold fX12_beginsText at hf
  refine lv_aload_n hx hb dX12_beginsText_0 rfl (lv_at hl 0 rfl) ?_
  refine lv_iconst (v := 0) hx hb dX12_beginsText_1 (by decide) ?_
  obtain ⟨u1, eu1, hf⟩ := lett_e hf
  refine va_put (D := D) (ci := 12) (v := .int 0) (ty := .int) (C := RX12) (T := TX12) (N := 52) hx hb hts hinX12 tyX12 tyX12_ok nmX12 hown hK.1 hP hD hS 0 rfl rfl 7 (by decide) (hts (.fieldLink RX12 126 "RopeScaleModel" "place0" "I") (List.mem_of_getElem? (i := 1) rfl)) (fun _ h9 => h9) rfl (tyX12_ok 7 (by decide)) rfl rfl (Nat.le_of_ble_eq_true rfl) dX12_beginsText_2 (fun H locs hP hD hS => ?_)
  have hP : va_P D vwCl (kX12 T h a u1) H := by rw [eu1]; exact hP
  have hD : va_D (va_A (kX12 T h a u) s.heap.size) (kX12 T h a u1) := by rw [eu1]; exact hD
  refine lv_aload_n hx hb dX12_beginsText_5 rfl (lv_at hl 0 rfl) ?_
  refine lv_iload_n hx hb dX12_beginsText_6 rfl (lv_at hl 1 rfl) ?_
  obtain ⟨u2, eu2, hf⟩ := lett_e hf
  refine va_put (D := D) (ci := 12) (v := .int p1) (ty := .int) (C := RX12) (T := TX12) (N := 52) hx hb hts hinX12 tyX12 tyX12_ok nmX12 hown hK.1 hP hD hS 0 rfl rfl 8 (by decide) (hts (.fieldLink RX12 129 "RopeScaleModel" "length0" "I") (List.mem_of_getElem? (i := 2) rfl)) (fun _ h9 => h9) rfl (tyX12_ok 8 (by decide)) rfl rfl (Nat.le_of_ble_eq_true rfl) dX12_beginsText_7 (fun H locs hP hD hS => ?_)
  have hP : va_P D vwCl (kX12 T h a u2) H := by rw [eu2]; exact hP
  have hD : va_D (va_A (kX12 T h a u) s.heap.size) (kX12 T h a u2) := by rw [eu2]; exact hD
  refine lv_aload_n hx hb dX12_beginsText_10 rfl (lv_at hl 0 rfl) ?_
  refine lv_iconst (v := 0) hx hb dX12_beginsText_11 (by decide) ?_
  obtain ⟨u3, eu3, hf⟩ := lett_e hf
  refine va_put (D := D) (ci := 12) (v := .int 0) (ty := .int) (C := RX12) (T := TX12) (N := 52) hx hb hts hinX12 tyX12 tyX12_ok nmX12 hown hK.1 hP hD hS 0 rfl rfl 12 (by decide) (hts (.fieldLink RX12 150 "RopeScaleModel" "codeMany" "I") (List.mem_of_getElem? (i := 3) rfl)) (fun _ h9 => h9) rfl (tyX12_ok 12 (by decide)) rfl rfl (Nat.le_of_ble_eq_true rfl) dX12_beginsText_12 (fun H locs hP hD hS => ?_)
  have hP : va_P D vwCl (kX12 T h a u3) H := by rw [eu3]; exact hP
  have hD : va_D (va_A (kX12 T h a u) s.heap.size) (kX12 T h a u3) := by rw [eu3]; exact hD
  refine lv_aload_n hx hb dX12_beginsText_15 rfl (lv_at hl 0 rfl) ?_
  refine lv_iconst (v := 0) hx hb dX12_beginsText_16 (by decide) ?_
  obtain ⟨u4, eu4, hf⟩ := lett_e hf
  refine va_put (D := D) (ci := 12) (v := .int 0) (ty := .int) (C := RX12) (T := TX12) (N := 52) hx hb hts hinX12 tyX12 tyX12_ok nmX12 hown hK.1 hP hD hS 0 rfl rfl 14 (by decide) (hts (.fieldLink RX12 205 "RopeScaleModel" "saidMany" "I") (List.mem_of_getElem? (i := 4) rfl)) (fun _ h9 => h9) rfl (tyX12_ok 14 (by decide)) rfl rfl (Nat.le_of_ble_eq_true rfl) dX12_beginsText_17 (fun H locs hP hD hS => ?_)
  have hP : va_P D vwCl (kX12 T h a u4) H := by rw [eu4]; exact hP
  have hD : va_D (va_A (kX12 T h a u) s.heap.size) (kX12 T h a u4) := by rw [eu4]; exact hD
  have e9 := hf
  exact retMv hx hb hr hlocks hP hD hS (congrArg (fun z => (kX12 T h a z : va_W)) e9) dX12_beginsText_20
def bX12_law_L123   (lp123 : St → Int32 → Option (Int32 × St)) (v : St) (x3 : Int32) : Option (Int32 × St) := if (v 14 0) ≤ x3 then some (v 14 0, v) else gd x3 16 <| gd x3 16 <| lett (st v 23 (ix x3) (v 18 (ix x3))) fun u2 => gd x3 16 <| gd x3 16 <| lett (st u2 24 (ix x3) (u2 19 (ix x3))) fun u3 => gd x3 16 <| gd x3 16 <| lett (st u3 25 (ix x3) (u3 20 (ix x3))) fun u4 => gd x3 16 <| gd x3 16 <| lett (st u4 26 (ix x3) (u4 21 (ix x3))) fun u5 => lett (x3 + 1) fun t6 => lp123 u5 t6
def fX12_law_L123   : Nat → St → Int32 → Option (Int32 × St)
  | 0, _, _ => none
  | n + 1, v, x3 => bX12_law_L123  (fX12_law_L123  n) v x3
def bX12_law_L95   (lp95 : St → Int32 → Option (Int32 × St)) (v : St) (x3 : Int32) : Option (Int32 × St) := if (v 12 0) ≤ x3 then fX12_law_L123 FU v 0 else gd x3 260 <| gd x3 260 <| lett (st v 22 (ix x3) (v 16 (ix x3))) fun u16 => lett (x3 + 1) fun t17 => lp95 u16 t17
def fX12_law_L95   : Nat → St → Int32 → Option (Int32 × St)
  | 0, _, _ => none
  | n + 1, v, x3 => bX12_law_L95  (fX12_law_L95  n) v x3
def fX12_law_J71   (v : St) (x2 : Int32) : Option (Int32 × St) := lett (st v 6 0 0) fun u20 => if x2 = 0 then some (u20 9 0, u20) else lett (st u20 15 0 (u20 14 0)) fun u22 => fX12_law_L95 FU u22 0
def bX12_law_L31   (lp31 : St → Int32 → Option (Int32 × St)) (v : St) (x2 : Int32) : Option (Int32 × St) := if x2 = 0 then fX12_law_J71 v x2 else if (v 8 0) ≤ (v 7 0) then fX12_law_J71 v x2 else (fX12_takes v 59).bind fun z25 => if z25.1 = 0 then lp31 z25.2 0 else (fX12_readsRule z25.2).bind fun z27 => if z27.1 = 0 then lp31 z27.2 0 else lp31 z27.2 1
def fX12_law_L31   : Nat → St → Int32 → Option (Int32 × St)
  | 0, _, _ => none
  | n + 1, v, x2 => bX12_law_L31  (fX12_law_L31  n) v x2
def fX12_law  (u : St) (p1 : Int32) : Option (Int32 × St) := lett (fX12_in p1 1 240) fun z29 => if z29 = 0 then some ((-1), u) else if p1 ≤ (u 6 0) then lett (fX12_beginsText u p1) fun z32 => (fX12_readsRule z32).bind fun z33 => fX12_law_L31 FU z33.2 z33.1 else some ((-1), u)
set_option maxHeartbeats 4000000 in
set_option maxRecDepth 100000 in
theorem mX12_law (l : Launch) (D : va_G) (T : Ty3) (h : Nat) (a : Nat → Nat) (u : St) (sz : Nat) (p1 : Int32) (res : Int32 × St) (hf : fX12_law u p1 = some res) : Met l yX12_law wsX12_law ({ frames := 8, cells := 0, slots := 0, locals := 166 }) (PcM D T (kX12 T h a u) sz [.ref h, .int p1]) (QM D (kX12 T h a u) sz res.1 (kX12 T h a res.2)) 0 0 (va_A (kX12 T h a u) sz) := by
  refine Met.ofW (cc := cX12_law) (maxL := 4) (ret := (some .int)) (by decide) rfl ?_
  intro p e s m args below meth c s₁ B hml hv
  obtain ⟨rfl, hsz, hP, hK, hD0⟩ := hv
  have hx := B.exec
  have hb := B.bytes
  have hr := B.returns
  have hts := atoms_spec (ws := wsX12_law) B.pre
  have hown : s.vm.findClass RX12 = some m.cls := findClass_of_methodNamed B.named
  have hlocks := B.notSynchronized
  subst hsz
  have hD := hD0.self (sz := s.heap.size)
  have hA : ∀ q : Nat, s.heap.size ≤ q → va_A (kX12 T h a u) s.heap.size q := fun q h => Or.inr h
  have hS : va_S (va_A (kX12 T h a u) s.heap.size) s.heap s.heap [] := va_S.rf
  have hinX12 : ∀ w ∈ u_ws RX12 TX12 52, w ∈ wsX12_law := fun w h => List.mem_cons_of_mem _ (List.mem_append_right _ h)
  have hl := lv_entry ([.ref h, .int p1]) (n := 4) (Nat.le_of_ble_eq_true rfl)
  rw [lg_entry_eq]
  generalize (lg_sl ([.ref h, .int p1]) ++ List.replicate (4 - (lg_sl ([.ref h, .int p1])).length) Slot.unset).toArray = ls at hl ⊢
  have hl : lv_has ls 4 [(0, .ref h), (1, .int p1)] := hl
  have L123 : ∀ (n123 : Nat), ∀ (v : St) (x3 : Int32) (H : Heap) (locs : List Loc) (ls : Array Slot), fX12_law_L123  n123 v x3 = some res → va_P D vwCl (kX12 T h a v) H → va_D (va_A (kX12 T h a u) s.heap.size) (kX12 T h a v) → va_S (va_A (kX12 T h a u) s.heap.size) s.heap H locs → lv_has ls 4 [(0, .ref h), (3, .int x3)] → W p l e (headSpec wsX12_law ({ frames := 8, cells := 0, slots := 0, locals := 166 })).room s m ([.ref h, .int p1] : List Value).toArray below meth c H locs 0 0 (MQ below (QM D (kX12 T h a u) s.heap.size res.1 (kX12 T h a res.2)) ([.ref h, .int p1] : List Value).toArray s 0 0 (va_A (kX12 T h a u) s.heap.size)) (F0 m 123 ls []) := by
    intro n123
    induction n123 with
    | zero => intro v x3 H locs ls hf; exact nns hf
    | succ n123 ih123 =>
      intro v x3 H locs ls hf hP hD hS hl
      replace hf : bX12_law_L123  (fX12_law_L123  n123) v x3 = some res := hf
      unfold bX12_law_L123 at hf
      refine lv_iload_n hx hb dX12_law_123 rfl (lv_at hl 1 rfl) ?_
      refine lv_aload_n hx hb dX12_law_124 rfl (lv_at hl 0 rfl) ?_
      refine va_get (D := D) (ci := 12) (v := .int (v 14 0)) (C := RX12) (T := TX12) (N := 52) hx hb hts hinX12 hown hK.1 hP 0 rfl rfl 14 (by decide) (hts (.fieldLink RX12 205 "RopeScaleModel" "saidMany" "I") (List.mem_of_getElem? (i := 5) rfl)) (fun _ h9 => h9) rfl dX12_law_125 ?_
      refine lv_icmp_ge (tgt := 185) hx hb dX12_law_128 (by decide) (fun c1 => ?_) (fun c1 => ?_)
      · replace hf := ifp c1 hf
        refine lv_aload_n hx hb dX12_law_185 rfl (lv_at hl 0 rfl) ?_
        refine va_get (D := D) (ci := 12) (v := .int (v 14 0)) (C := RX12) (T := TX12) (N := 52) hx hb hts hinX12 hown hK.1 hP 0 rfl rfl 14 (by decide) (hts (.fieldLink RX12 205 "RopeScaleModel" "saidMany" "I") (List.mem_of_getElem? (i := 5) rfl)) (fun _ h9 => h9) rfl dX12_law_186 ?_
        have e9 := Option.some.inj hf
        exact retM hx hb hr hlocks hP hD hS (congrArg (fun z => z.1) e9) (congrArg (fun z => (kX12 T h a z.2 : va_W)) e9) dX12_law_189
      replace hf := ifn c1 hf
      refine lv_aload_n hx hb dX12_law_131 rfl (lv_at hl 0 rfl) ?_
      refine va_get (D := D) (ci := 12) (v := .ref (a 23)) (C := RX12) (T := TX12) (N := 52) hx hb hts hinX12 hown hK.1 hP 0 rfl rfl 23 (by decide) (hts (.fieldLink RX12 44 "RopeScaleModel" "clauseOf" "[I") (List.mem_of_getElem? (i := 10) rfl)) (fun _ h9 => h9) rfl dX12_law_132 ?_
      refine lv_iload_n hx hb dX12_law_135 rfl (lv_at hl 1 rfl) ?_
      refine lv_aload_n hx hb dX12_law_136 rfl (lv_at hl 0 rfl) ?_
      refine va_get (D := D) (ci := 12) (v := .ref (a 18)) (C := RX12) (T := TX12) (N := 52) hx hb hts hinX12 hown hK.1 hP 0 rfl rfl 18 (by decide) (hts (.fieldLink RX12 29 "RopeScaleModel" "saidLetter" "[I") (List.mem_of_getElem? (i := 11) rfl)) (fun _ h9 => h9) rfl dX12_law_137 ?_
      refine lv_iload_n hx hb dX12_law_140 rfl (lv_at hl 1 rfl) ?_
      obtain ⟨h14, hf⟩ := gd_e hf
      refine va_iald hx hb hK.1 hP 7 0 rfl rfl h14 dX12_law_141 ?_
      obtain ⟨h13, hf⟩ := gd_e hf
      obtain ⟨u2, eu2, hf⟩ := lett_e hf
      refine va_iast hx hb hK.1 hP hD hS 12 0 rfl rfl h13 dX12_law_142 (fun H locs hP hD hS => ?_)
      have hP : va_P D vwCl (kX12 T h a u2) H := by rw [eu2]; exact hP
      have hD : va_D (va_A (kX12 T h a u) s.heap.size) (kX12 T h a u2) := by rw [eu2]; exact hD
      refine lv_aload_n hx hb dX12_law_143 rfl (lv_at hl 0 rfl) ?_
      refine va_get (D := D) (ci := 12) (v := .ref (a 24)) (C := RX12) (T := TX12) (N := 52) hx hb hts hinX12 hown hK.1 hP 0 rfl rfl 24 (by decide) (hts (.fieldLink RX12 47 "RopeScaleModel" "codeFrom" "[I") (List.mem_of_getElem? (i := 12) rfl)) (fun _ h9 => h9) rfl dX12_law_144 ?_
      refine lv_iload_n hx hb dX12_law_147 rfl (lv_at hl 1 rfl) ?_
      refine lv_aload_n hx hb dX12_law_148 rfl (lv_at hl 0 rfl) ?_
      refine va_get (D := D) (ci := 12) (v := .ref (a 19)) (C := RX12) (T := TX12) (N := 52) hx hb hts hinX12 hown hK.1 hP 0 rfl rfl 19 (by decide) (hts (.fieldLink RX12 32 "RopeScaleModel" "saidFrom" "[I") (List.mem_of_getElem? (i := 13) rfl)) (fun _ h9 => h9) rfl dX12_law_149 ?_
      refine lv_iload_n hx hb dX12_law_152 rfl (lv_at hl 1 rfl) ?_
      obtain ⟨h12, hf⟩ := gd_e hf
      refine va_iald hx hb hK.1 hP 8 0 rfl rfl h12 dX12_law_153 ?_
      obtain ⟨h11, hf⟩ := gd_e hf
      obtain ⟨u3, eu3, hf⟩ := lett_e hf
      refine va_iast hx hb hK.1 hP hD hS 13 0 rfl rfl h11 dX12_law_154 (fun H locs hP hD hS => ?_)
      have hP : va_P D vwCl (kX12 T h a u3) H := by rw [eu3]; exact hP
      have hD : va_D (va_A (kX12 T h a u) s.heap.size) (kX12 T h a u3) := by rw [eu3]; exact hD
      refine lv_aload_n hx hb dX12_law_155 rfl (lv_at hl 0 rfl) ?_
      refine va_get (D := D) (ci := 12) (v := .ref (a 25)) (C := RX12) (T := TX12) (N := 52) hx hb hts hinX12 hown hK.1 hP 0 rfl rfl 25 (by decide) (hts (.fieldLink RX12 50 "RopeScaleModel" "codeHalf" "[I") (List.mem_of_getElem? (i := 14) rfl)) (fun _ h9 => h9) rfl dX12_law_156 ?_
      refine lv_iload_n hx hb dX12_law_159 rfl (lv_at hl 1 rfl) ?_
      refine lv_aload_n hx hb dX12_law_160 rfl (lv_at hl 0 rfl) ?_
      refine va_get (D := D) (ci := 12) (v := .ref (a 20)) (C := RX12) (T := TX12) (N := 52) hx hb hts hinX12 hown hK.1 hP 0 rfl rfl 20 (by decide) (hts (.fieldLink RX12 35 "RopeScaleModel" "saidHalf" "[I") (List.mem_of_getElem? (i := 15) rfl)) (fun _ h9 => h9) rfl dX12_law_161 ?_
      refine lv_iload_n hx hb dX12_law_164 rfl (lv_at hl 1 rfl) ?_
      obtain ⟨h10, hf⟩ := gd_e hf
      refine va_iald hx hb hK.1 hP 9 0 rfl rfl h10 dX12_law_165 ?_
      obtain ⟨h9, hf⟩ := gd_e hf
      obtain ⟨u4, eu4, hf⟩ := lett_e hf
      refine va_iast hx hb hK.1 hP hD hS 14 0 rfl rfl h9 dX12_law_166 (fun H locs hP hD hS => ?_)
      have hP : va_P D vwCl (kX12 T h a u4) H := by rw [eu4]; exact hP
      have hD : va_D (va_A (kX12 T h a u) s.heap.size) (kX12 T h a u4) := by rw [eu4]; exact hD
      refine lv_aload_n hx hb dX12_law_167 rfl (lv_at hl 0 rfl) ?_
      refine va_get (D := D) (ci := 12) (v := .ref (a 26)) (C := RX12) (T := TX12) (N := 52) hx hb hts hinX12 hown hK.1 hP 0 rfl rfl 26 (by decide) (hts (.fieldLink RX12 53 "RopeScaleModel" "codeTo" "[I") (List.mem_of_getElem? (i := 16) rfl)) (fun _ h9 => h9) rfl dX12_law_168 ?_
      refine lv_iload_n hx hb dX12_law_171 rfl (lv_at hl 1 rfl) ?_
      refine lv_aload_n hx hb dX12_law_172 rfl (lv_at hl 0 rfl) ?_
      refine va_get (D := D) (ci := 12) (v := .ref (a 21)) (C := RX12) (T := TX12) (N := 52) hx hb hts hinX12 hown hK.1 hP 0 rfl rfl 21 (by decide) (hts (.fieldLink RX12 38 "RopeScaleModel" "saidTo" "[I") (List.mem_of_getElem? (i := 17) rfl)) (fun _ h9 => h9) rfl dX12_law_173 ?_
      refine lv_iload_n hx hb dX12_law_176 rfl (lv_at hl 1 rfl) ?_
      obtain ⟨h8, hf⟩ := gd_e hf
      refine va_iald hx hb hK.1 hP 10 0 rfl rfl h8 dX12_law_177 ?_
      obtain ⟨h7, hf⟩ := gd_e hf
      obtain ⟨u5, eu5, hf⟩ := lett_e hf
      refine va_iast hx hb hK.1 hP hD hS 15 0 rfl rfl h7 dX12_law_178 (fun H locs hP hD hS => ?_)
      have hP : va_P D vwCl (kX12 T h a u5) H := by rw [eu5]; exact hP
      have hD : va_D (va_A (kX12 T h a u) s.heap.size) (kX12 T h a u5) := by rw [eu5]; exact hD
      obtain ⟨t6, et6, hf⟩ := lett_e hf
      refine lv_iinc (v := t6) (lv' := [(3, .int t6), (0, .ref h)]) hx hb dX12_law_179 hl (k := 1) rfl (by rw [et6]; rfl) (by decide) rfl (fun ls hl => ?_)
      refine lv_goto (tgt := 123) hx hb dX12_law_182 (by decide) ?_
      exact ih123 u5 t6 _ _ _ hf hP hD hS (lv_sub hl [1, 0] rfl)
  have L95 : ∀ (n95 : Nat), ∀ (v : St) (x3 : Int32) (H : Heap) (locs : List Loc) (ls : Array Slot), fX12_law_L95  n95 v x3 = some res → va_P D vwCl (kX12 T h a v) H → va_D (va_A (kX12 T h a u) s.heap.size) (kX12 T h a v) → va_S (va_A (kX12 T h a u) s.heap.size) s.heap H locs → lv_has ls 4 [(0, .ref h), (3, .int x3)] → W p l e (headSpec wsX12_law ({ frames := 8, cells := 0, slots := 0, locals := 166 })).room s m ([.ref h, .int p1] : List Value).toArray below meth c H locs 0 0 (MQ below (QM D (kX12 T h a u) s.heap.size res.1 (kX12 T h a res.2)) ([.ref h, .int p1] : List Value).toArray s 0 0 (va_A (kX12 T h a u) s.heap.size)) (F0 m 95 ls []) := by
    intro n95
    induction n95 with
    | zero => intro v x3 H locs ls hf; exact nns hf
    | succ n95 ih95 =>
      intro v x3 H locs ls hf hP hD hS hl
      replace hf : bX12_law_L95  (fX12_law_L95  n95) v x3 = some res := hf
      unfold bX12_law_L95 at hf
      refine lv_iload_n hx hb dX12_law_95 rfl (lv_at hl 1 rfl) ?_
      refine lv_aload_n hx hb dX12_law_96 rfl (lv_at hl 0 rfl) ?_
      refine va_get (D := D) (ci := 12) (v := .int (v 12 0)) (C := RX12) (T := TX12) (N := 52) hx hb hts hinX12 hown hK.1 hP 0 rfl rfl 12 (by decide) (hts (.fieldLink RX12 150 "RopeScaleModel" "codeMany" "I") (List.mem_of_getElem? (i := 7) rfl)) (fun _ h9 => h9) rfl dX12_law_97 ?_
      refine lv_icmp_ge (tgt := 121) hx hb dX12_law_100 (by decide) (fun c15 => ?_) (fun c15 => ?_)
      · replace hf := ifp c15 hf
        refine lv_iconst (v := 0) hx hb dX12_law_121 (by decide) ?_
        refine lv_istore_n (lv' := [(3, .int 0), (0, .ref h)]) hx hb dX12_law_122 rfl hl (by decide) rfl (fun ls hl => ?_)
        exact L123 FU v 0 _ _ _ hf hP hD hS (lv_sub hl [1, 0] rfl)
      replace hf := ifn c15 hf
      refine lv_aload_n hx hb dX12_law_103 rfl (lv_at hl 0 rfl) ?_
      refine va_get (D := D) (ci := 12) (v := .ref (a 22)) (C := RX12) (T := TX12) (N := 52) hx hb hts hinX12 hown hK.1 hP 0 rfl rfl 22 (by decide) (hts (.fieldLink RX12 41 "RopeScaleModel" "codes" "[I") (List.mem_of_getElem? (i := 8) rfl)) (fun _ h9 => h9) rfl dX12_law_104 ?_
      refine lv_iload_n hx hb dX12_law_107 rfl (lv_at hl 1 rfl) ?_
      refine lv_aload_n hx hb dX12_law_108 rfl (lv_at hl 0 rfl) ?_
      refine va_get (D := D) (ci := 12) (v := .ref (a 16)) (C := RX12) (T := TX12) (N := 52) hx hb hts hinX12 hown hK.1 hP 0 rfl rfl 16 (by decide) (hts (.fieldLink RX12 23 "RopeScaleModel" "said" "[I") (List.mem_of_getElem? (i := 9) rfl)) (fun _ h9 => h9) rfl dX12_law_109 ?_
      refine lv_iload_n hx hb dX12_law_112 rfl (lv_at hl 1 rfl) ?_
      obtain ⟨h19, hf⟩ := gd_e hf
      refine va_iald hx hb hK.1 hP 5 0 rfl rfl h19 dX12_law_113 ?_
      obtain ⟨h18, hf⟩ := gd_e hf
      obtain ⟨u16, eu16, hf⟩ := lett_e hf
      refine va_iast hx hb hK.1 hP hD hS 11 0 rfl rfl h18 dX12_law_114 (fun H locs hP hD hS => ?_)
      have hP : va_P D vwCl (kX12 T h a u16) H := by rw [eu16]; exact hP
      have hD : va_D (va_A (kX12 T h a u) s.heap.size) (kX12 T h a u16) := by rw [eu16]; exact hD
      obtain ⟨t17, et17, hf⟩ := lett_e hf
      refine lv_iinc (v := t17) (lv' := [(3, .int t17), (0, .ref h)]) hx hb dX12_law_115 hl (k := 1) rfl (by rw [et17]; rfl) (by decide) rfl (fun ls hl => ?_)
      refine lv_goto (tgt := 95) hx hb dX12_law_118 (by decide) ?_
      exact ih95 u16 t17 _ _ _ hf hP hD hS (lv_sub hl [1, 0] rfl)
  have J71 : ∀ (v : St) (x2 : Int32) (H : Heap) (locs : List Loc) (ls : Array Slot), fX12_law_J71  v x2 = some res → va_P D vwCl (kX12 T h a v) H → va_D (va_A (kX12 T h a u) s.heap.size) (kX12 T h a v) → va_S (va_A (kX12 T h a u) s.heap.size) s.heap H locs → lv_has ls 4 [(0, .ref h), (2, .int x2)] → W p l e (headSpec wsX12_law ({ frames := 8, cells := 0, slots := 0, locals := 166 })).room s m ([.ref h, .int p1] : List Value).toArray below meth c H locs 0 0 (MQ below (QM D (kX12 T h a u) s.heap.size res.1 (kX12 T h a res.2)) ([.ref h, .int p1] : List Value).toArray s 0 0 (va_A (kX12 T h a u) s.heap.size)) (F0 m 71 ls []) := by
    intro v x2 H locs ls hf hP hD hS hl
    unfold fX12_law_J71 at hf
    refine lv_aload_n hx hb dX12_law_71 rfl (lv_at hl 0 rfl) ?_
    refine lv_iconst (v := 0) hx hb dX12_law_72 (by decide) ?_
    obtain ⟨u20, eu20, hf⟩ := lett_e hf
    refine va_put (D := D) (ci := 12) (v := .int 0) (ty := .int) (C := RX12) (T := TX12) (N := 52) hx hb hts hinX12 tyX12 tyX12_ok nmX12 hown hK.1 hP hD hS 0 rfl rfl 6 (by decide) (hts (.fieldLink RX12 119 "RopeScaleModel" "taped" "I") (List.mem_of_getElem? (i := 1) rfl)) (fun _ h9 => h9) rfl (tyX12_ok 6 (by decide)) rfl rfl (Nat.le_of_ble_eq_true rfl) dX12_law_73 (fun H locs hP hD hS => ?_)
    have hP : va_P D vwCl (kX12 T h a u20) H := by rw [eu20]; exact hP
    have hD : va_D (va_A (kX12 T h a u) s.heap.size) (kX12 T h a u20) := by rw [eu20]; exact hD
    refine lv_iload_n hx hb dX12_law_76 rfl (lv_at hl 1 rfl) ?_
    refine lv_if_ne (tgt := 85) hx hb dX12_law_77 (by decide) (fun c21 => ?_) (fun c21 => ?_)
    · replace hf := ifn c21 hf
      refine lv_aload_n hx hb dX12_law_85 rfl (lv_at hl 0 rfl) ?_
      refine lv_aload_n hx hb dX12_law_86 rfl (lv_at hl 0 rfl) ?_
      refine va_get (D := D) (ci := 12) (v := .int (u20 14 0)) (C := RX12) (T := TX12) (N := 52) hx hb hts hinX12 hown hK.1 hP 0 rfl rfl 14 (by decide) (hts (.fieldLink RX12 205 "RopeScaleModel" "saidMany" "I") (List.mem_of_getElem? (i := 5) rfl)) (fun _ h9 => h9) rfl dX12_law_87 ?_
      obtain ⟨u22, eu22, hf⟩ := lett_e hf
      refine va_put (D := D) (ci := 12) (v := .int (u20 14 0)) (ty := .int) (C := RX12) (T := TX12) (N := 52) hx hb hts hinX12 tyX12 tyX12_ok nmX12 hown hK.1 hP hD hS 0 rfl rfl 15 (by decide) (hts (.fieldLink RX12 220 "RopeScaleModel" "clauses" "I") (List.mem_of_getElem? (i := 6) rfl)) (fun _ h9 => h9) rfl (tyX12_ok 15 (by decide)) rfl rfl (Nat.le_of_ble_eq_true rfl) dX12_law_90 (fun H locs hP hD hS => ?_)
      have hP : va_P D vwCl (kX12 T h a u22) H := by rw [eu22]; exact hP
      have hD : va_D (va_A (kX12 T h a u) s.heap.size) (kX12 T h a u22) := by rw [eu22]; exact hD
      refine lv_iconst (v := 0) hx hb dX12_law_93 (by decide) ?_
      refine lv_istore_n (lv' := [(3, .int 0), (0, .ref h), (2, .int x2)]) hx hb dX12_law_94 rfl hl (by decide) rfl (fun ls hl => ?_)
      exact L95 FU u22 0 _ _ _ hf hP hD hS (lv_sub hl [1, 0] rfl)
    replace hf := ifp c21 hf
    refine lv_aload_n hx hb dX12_law_80 rfl (lv_at hl 0 rfl) ?_
    refine va_get (D := D) (ci := 12) (v := .int (u20 9 0)) (C := RX12) (T := TX12) (N := 52) hx hb hts hinX12 hown hK.1 hP 0 rfl rfl 9 (by decide) (hts (.fieldLink RX12 136 "RopeScaleModel" "fault" "I") (List.mem_of_getElem? (i := 4) rfl)) (fun _ h9 => h9) rfl dX12_law_81 ?_
    have e9 := Option.some.inj hf
    exact retM hx hb hr hlocks hP hD hS (congrArg (fun z => z.1) e9) (congrArg (fun z => (kX12 T h a z.2 : va_W)) e9) dX12_law_84
  have L31 : ∀ (n31 : Nat), ∀ (v : St) (x2 : Int32) (H : Heap) (locs : List Loc) (ls : Array Slot), fX12_law_L31  n31 v x2 = some res → va_P D vwCl (kX12 T h a v) H → va_D (va_A (kX12 T h a u) s.heap.size) (kX12 T h a v) → va_S (va_A (kX12 T h a u) s.heap.size) s.heap H locs → lv_has ls 4 [(0, .ref h), (2, .int x2)] → W p l e (headSpec wsX12_law ({ frames := 8, cells := 0, slots := 0, locals := 166 })).room s m ([.ref h, .int p1] : List Value).toArray below meth c H locs 0 0 (MQ below (QM D (kX12 T h a u) s.heap.size res.1 (kX12 T h a res.2)) ([.ref h, .int p1] : List Value).toArray s 0 0 (va_A (kX12 T h a u) s.heap.size)) (F0 m 31 ls []) := by
    intro n31
    induction n31 with
    | zero => intro v x2 H locs ls hf; exact nns hf
    | succ n31 ih31 =>
      intro v x2 H locs ls hf hP hD hS hl
      replace hf : bX12_law_L31  (fX12_law_L31  n31) v x2 = some res := hf
      unfold bX12_law_L31 at hf
      refine lv_iload_n hx hb dX12_law_31 rfl (lv_at hl 1 rfl) ?_
      refine lv_if_eq (tgt := 71) hx hb dX12_law_32 (by decide) (fun c23 => ?_) (fun c23 => ?_)
      · replace hf := ifp c23 hf
        exact J71 v x2 _ _ _ hf hP hD hS (lv_sub hl [0, 1] rfl)
      replace hf := ifn c23 hf
      refine lv_aload_n hx hb dX12_law_35 rfl (lv_at hl 0 rfl) ?_
      refine va_get (D := D) (ci := 12) (v := .int (v 7 0)) (C := RX12) (T := TX12) (N := 52) hx hb hts hinX12 hown hK.1 hP 0 rfl rfl 7 (by decide) (hts (.fieldLink RX12 126 "RopeScaleModel" "place0" "I") (List.mem_of_getElem? (i := 2) rfl)) (fun _ h9 => h9) rfl dX12_law_36 ?_
      refine lv_aload_n hx hb dX12_law_39 rfl (lv_at hl 0 rfl) ?_
      refine va_get (D := D) (ci := 12) (v := .int (v 8 0)) (C := RX12) (T := TX12) (N := 52) hx hb hts hinX12 hown hK.1 hP 0 rfl rfl 8 (by decide) (hts (.fieldLink RX12 129 "RopeScaleModel" "length0" "I") (List.mem_of_getElem? (i := 3) rfl)) (fun _ h9 => h9) rfl dX12_law_40 ?_
      refine lv_icmp_ge (tgt := 71) hx hb dX12_law_43 (by decide) (fun c24 => ?_) (fun c24 => ?_)
      · replace hf := ifp c24 hf
        exact J71 v x2 _ _ _ hf hP hD hS (lv_sub hl [0, 1] rfl)
      replace hf := ifn c24 hf
      refine lv_aload_n hx hb dX12_law_46 rfl (lv_at hl 0 rfl) ?_
      refine lv_bipush (v := 59) hx hb dX12_law_47 (by decide) ?_
      obtain ⟨z25, hz25, hf⟩ := bnd hf
      have hFc9 := vaA_self hD hS hA
      refine cVM (As := [.int 59]) (rest := []) ⟨hx, hb, hml, hown, hts⟩ (mX12_takes l D T h a v _ 59 z25 hz25) (cwV 1 hts gX12_law_X12_takes rfl rfl rfl (by decide +kernel) ⟨Nat.le_of_ble_eq_true rfl, Nat.le_of_ble_eq_true rfl⟩) (va_recv hK.1 hP (ci := 12) (q0 := 0) rfl rfl) hP hK rfl hl.1 rfl (Nat.le_of_ble_eq_true rfl) dX12_law_49 ⟨Nat.le_of_ble_eq_true rfl, Nat.le_of_ble_eq_true rfl⟩ hD hFc9 hS (fun H locs hP hD1 _ hS => ?_)
      have hD := hD1.weaken (fun _ _ _ h9 => hFc9 _ h9)
      refine lv_if_eq (tgt := 66) hx hb dX12_law_52 (by decide) (fun c26 => ?_) (fun c26 => ?_)
      · replace hf := ifp c26 hf
        refine lv_iconst (v := 0) hx hb dX12_law_66 (by decide) ?_
        refine lv_istore_n (lv' := [(2, .int 0), (0, .ref h)]) hx hb dX12_law_67 rfl hl (by decide) rfl (fun ls hl => ?_)
        refine lv_goto (tgt := 31) hx hb dX12_law_68 (by decide) ?_
        exact ih31 z25.2 0 _ _ _ hf hP hD hS (lv_sub hl [1, 0] rfl)
      replace hf := ifn c26 hf
      refine lv_aload_n hx hb dX12_law_55 rfl (lv_at hl 0 rfl) ?_
      obtain ⟨z27, hz27, hf⟩ := bnd hf
      have hFc9 := vaA_self hD hS hA
      refine cVM (As := []) (rest := []) ⟨hx, hb, hml, hown, hts⟩ (mX12_readsRule l D T h a z25.2 _ z27 hz27) (cwV 0 hts gX12_law_X12_readsRule rfl rfl rfl (by decide +kernel) ⟨Nat.le_of_ble_eq_true rfl, Nat.le_of_ble_eq_true rfl⟩) (va_recv hK.1 hP (ci := 12) (q0 := 0) rfl rfl) hP hK rfl hl.1 rfl (Nat.le_of_ble_eq_true rfl) dX12_law_56 ⟨Nat.le_of_ble_eq_true rfl, Nat.le_of_ble_eq_true rfl⟩ hD hFc9 hS (fun H locs hP hD1 _ hS => ?_)
      have hD := hD1.weaken (fun _ _ _ h9 => hFc9 _ h9)
      refine lv_if_eq (tgt := 66) hx hb dX12_law_59 (by decide) (fun c28 => ?_) (fun c28 => ?_)
      · replace hf := ifp c28 hf
        refine lv_iconst (v := 0) hx hb dX12_law_66 (by decide) ?_
        refine lv_istore_n (lv' := [(2, .int 0), (0, .ref h)]) hx hb dX12_law_67 rfl hl (by decide) rfl (fun ls hl => ?_)
        refine lv_goto (tgt := 31) hx hb dX12_law_68 (by decide) ?_
        exact ih31 z27.2 0 _ _ _ hf hP hD hS (lv_sub hl [1, 0] rfl)
      replace hf := ifn c28 hf
      refine lv_iconst (v := 1) hx hb dX12_law_62 (by decide) ?_
      refine lv_goto (tgt := 67) hx hb dX12_law_63 (by decide) ?_
      refine lv_istore_n (lv' := [(2, .int 1), (0, .ref h)]) hx hb dX12_law_67 rfl hl (by decide) rfl (fun ls hl => ?_)
      refine lv_goto (tgt := 31) hx hb dX12_law_68 (by decide) ?_
      exact ih31 z27.2 1 _ _ _ hf hP hD hS (lv_sub hl [1, 0] rfl)
  unfold fX12_law at hf
  refine lv_iload_n hx hb dX12_law_0 rfl (lv_at hl 1 rfl) ?_
  refine lv_iconst (v := 1) hx hb dX12_law_1 (by decide) ?_
  refine lv_sipush (v := 240) hx hb dX12_law_2 (by decide) ?_
  obtain ⟨z29, hz29, hf⟩ := lett_e hf
  refine cSR (As := [.int p1, .int 1, .int 240]) (rest := []) ⟨hx, hb, hml, hown, hts⟩ (mX12_in l D T p1 1 240 z29 hz29.symm) (va_cwS 3 hts gX12_law_X12_in rfl rfl rfl (by decide +kernel) ⟨Nat.le_of_ble_eq_true rfl, Nat.le_of_ble_eq_true rfl⟩) P0 hK rfl hl.1 rfl (Nat.le_of_ble_eq_true rfl) dX12_law_5 ⟨Nat.le_of_ble_eq_true rfl, Nat.le_of_ble_eq_true rfl⟩ hP hS (fun H locs hP hS => ?_)
  refine lv_if_eq (tgt := 19) hx hb dX12_law_8 (by decide) (fun c30 => ?_) (fun c30 => ?_)
  · replace hf := ifp c30 hf
    refine lv_iconst (v := (-1)) hx hb dX12_law_19 (by decide) ?_
    have e9 := Option.some.inj hf
    exact retM hx hb hr hlocks hP hD hS (congrArg (fun z => z.1) e9) (congrArg (fun z => (kX12 T h a z.2 : va_W)) e9) dX12_law_20
  replace hf := ifn c30 hf
  refine lv_iload_n hx hb dX12_law_11 rfl (lv_at hl 1 rfl) ?_
  refine lv_aload_n hx hb dX12_law_12 rfl (lv_at hl 0 rfl) ?_
  refine va_get (D := D) (ci := 12) (v := .int (u 6 0)) (C := RX12) (T := TX12) (N := 52) hx hb hts hinX12 hown hK.1 hP 0 rfl rfl 6 (by decide) (hts (.fieldLink RX12 119 "RopeScaleModel" "taped" "I") (List.mem_of_getElem? (i := 1) rfl)) (fun _ h9 => h9) rfl dX12_law_13 ?_
  refine lv_icmp_le (tgt := 21) hx hb dX12_law_16 (by decide) (fun c31 => ?_) (fun c31 => ?_)
  · replace hf := ifp c31 hf
    refine lv_aload_n hx hb dX12_law_21 rfl (lv_at hl 0 rfl) ?_
    refine lv_iload_n hx hb dX12_law_22 rfl (lv_at hl 1 rfl) ?_
    obtain ⟨z32, hz32, hf⟩ := lett_e hf
    have hFc9 := vaA_self hD hS hA
    refine cVMv (As := [.int p1]) (rest := []) ⟨hx, hb, hml, hown, hts⟩ (mX12_beginsText l D T h a u _ p1 z32 hz32.symm) (cwV 1 hts gX12_law_X12_beginsText rfl rfl rfl (by decide +kernel) ⟨Nat.le_of_ble_eq_true rfl, Nat.le_of_ble_eq_true rfl⟩) (va_recv hK.1 hP (ci := 12) (q0 := 0) rfl rfl) hP hK rfl hl.1 rfl (Nat.le_of_ble_eq_true rfl) dX12_law_23 ⟨Nat.le_of_ble_eq_true rfl, Nat.le_of_ble_eq_true rfl⟩ hD hFc9 hS (fun H locs hP hD1 _ hS => ?_)
    have hD := hD1.weaken (fun _ _ _ h9 => hFc9 _ h9)
    refine lv_aload_n hx hb dX12_law_26 rfl (lv_at hl 0 rfl) ?_
    obtain ⟨z33, hz33, hf⟩ := bnd hf
    have hFc9 := vaA_self hD hS hA
    refine cVM (As := []) (rest := []) ⟨hx, hb, hml, hown, hts⟩ (mX12_readsRule l D T h a z32 _ z33 hz33) (cwV 0 hts gX12_law_X12_readsRule rfl rfl rfl (by decide +kernel) ⟨Nat.le_of_ble_eq_true rfl, Nat.le_of_ble_eq_true rfl⟩) (va_recv hK.1 hP (ci := 12) (q0 := 0) rfl rfl) hP hK rfl hl.1 rfl (Nat.le_of_ble_eq_true rfl) dX12_law_27 ⟨Nat.le_of_ble_eq_true rfl, Nat.le_of_ble_eq_true rfl⟩ hD hFc9 hS (fun H locs hP hD1 _ hS => ?_)
    have hD := hD1.weaken (fun _ _ _ h9 => hFc9 _ h9)
    refine lv_istore_n (lv' := [(2, .int z33.1), (0, .ref h), (1, .int p1)]) hx hb dX12_law_30 rfl hl (by decide) rfl (fun ls hl => ?_)
    exact L31 FU z33.2 z33.1 _ _ _ hf hP hD hS (lv_sub hl [1, 0] rfl)
  replace hf := ifn c31 hf
  refine lv_iconst (v := (-1)) hx hb dX12_law_19 (by decide) ?_
  have e9 := Option.some.inj hf
  exact retM hx hb hr hlocks hP hD hS (congrArg (fun z => z.1) e9) (congrArg (fun z => (kX12 T h a z.2 : va_W)) e9) dX12_law_20
def fX12_reckon   (p0 : Int32) (p1 : Int32) (p2 : Int32) : Option (Int32) := if p0 = 2 then some (p1 + p2) else if p0 = 3 then some (p1 - p2) else if p0 = 4 then some (p1 * p2) else if p0 = 5 then dz p2 <| some (p1 / p2) else if p0 = 6 then dz p2 <| some (jrem p1 p2) else if p0 = 7 then if p2 ≤ p1 then some 0 else some 1 else if p0 = 8 then if p1 ≤ p2 then some 0 else some 1 else if p1 = p2 then some 1 else some 0
set_option maxHeartbeats 4000000 in
set_option maxRecDepth 100000 in
theorem mX12_reckon (l : Launch) (D : va_G) (T : Ty3)  (p0 : Int32) (p1 : Int32) (p2 : Int32) (res : Int32) (hf : fX12_reckon p0 p1 p2 = some res) : Met l yX12_reckon wsX12_reckon ({ frames := 0, cells := 0, slots := 0, locals := 0 }) (PcR D T ([]) [.int p0, .int p1, .int p2]) (QR res) 0 0 noA := by
  refine Met.ofW (cc := cX12_reckon) (maxL := 3) (ret := (some .int)) (by decide) rfl ?_
  intro p e s m args below meth c s₁ B hml hv
  obtain ⟨rfl, hP, hK⟩ := hv
  have hx := B.exec
  have hb := B.bytes
  have hr := B.returns
  have hts := atoms_spec (ws := wsX12_reckon) B.pre
  have hown : s.vm.findClass RX12 = some m.cls := findClass_of_methodNamed B.named
  have hlocks := B.notSynchronized
  have hS : va_S noA s.heap s.heap [] := va_S.rf
  have hl := lv_entry ([.int p0, .int p1, .int p2]) (n := 3) (Nat.le_of_ble_eq_true rfl)
  rw [lg_entry_eq]
  generalize (lg_sl ([.int p0, .int p1, .int p2]) ++ List.replicate (3 - (lg_sl ([.int p0, .int p1, .int p2])).length) Slot.unset).toArray = ls at hl ⊢
  have hl : lv_has ls 3 [(0, .int p0), (1, .int p1), (2, .int p2)] := hl
  unfold fX12_reckon at hf
  refine lv_iload_n hx hb dX12_reckon_0 rfl (lv_at hl 0 rfl) ?_
  by_cases c1 : p0 = 2
  · replace hf := ifp c1 hf
    refine lv_tableIn (off := 43) (tgt := 44) hx hb dX12_reckon_1 (by rw [c1]; decide) (by rw [c1]; decide) (by rw [c1]; rfl) (by decide) ?_
    refine lv_iload_n hx hb dX12_reckon_44 rfl (lv_at hl 1 rfl) ?_
    refine lv_iload_n hx hb dX12_reckon_45 rfl (lv_at hl 2 rfl) ?_
    refine lv_iadd hx hb dX12_reckon_46 ?_
    exact retR hx hb hr hlocks hS (Option.some.inj hf) dX12_reckon_47
  replace hf := ifn c1 hf
  by_cases c2 : p0 = 3
  · replace hf := ifp c2 hf
    refine lv_tableIn (off := 47) (tgt := 48) hx hb dX12_reckon_1 (by rw [c2]; decide) (by rw [c2]; decide) (by rw [c2]; rfl) (by decide) ?_
    refine lv_iload_n hx hb dX12_reckon_48 rfl (lv_at hl 1 rfl) ?_
    refine lv_iload_n hx hb dX12_reckon_49 rfl (lv_at hl 2 rfl) ?_
    refine lv_isub hx hb dX12_reckon_50 ?_
    exact retR hx hb hr hlocks hS (Option.some.inj hf) dX12_reckon_51
  replace hf := ifn c2 hf
  by_cases c3 : p0 = 4
  · replace hf := ifp c3 hf
    refine lv_tableIn (off := 51) (tgt := 52) hx hb dX12_reckon_1 (by rw [c3]; decide) (by rw [c3]; decide) (by rw [c3]; rfl) (by decide) ?_
    refine lv_iload_n hx hb dX12_reckon_52 rfl (lv_at hl 1 rfl) ?_
    refine lv_iload_n hx hb dX12_reckon_53 rfl (lv_at hl 2 rfl) ?_
    refine lv_imul hx hb dX12_reckon_54 ?_
    exact retR hx hb hr hlocks hS (Option.some.inj hf) dX12_reckon_55
  replace hf := ifn c3 hf
  by_cases c4 : p0 = 5
  · replace hf := ifp c4 hf
    refine lv_tableIn (off := 55) (tgt := 56) hx hb dX12_reckon_1 (by rw [c4]; decide) (by rw [c4]; decide) (by rw [c4]; rfl) (by decide) ?_
    refine lv_iload_n hx hb dX12_reckon_56 rfl (lv_at hl 1 rfl) ?_
    refine lv_iload_n hx hb dX12_reckon_57 rfl (lv_at hl 2 rfl) ?_
    obtain ⟨h5, hf⟩ := dz_e hf
    refine lv_idiv hx hb dX12_reckon_58 h5 ?_
    exact retR hx hb hr hlocks hS (Option.some.inj hf) dX12_reckon_59
  replace hf := ifn c4 hf
  by_cases c6 : p0 = 6
  · replace hf := ifp c6 hf
    refine lv_tableIn (off := 59) (tgt := 60) hx hb dX12_reckon_1 (by rw [c6]; decide) (by rw [c6]; decide) (by rw [c6]; rfl) (by decide) ?_
    refine lv_iload_n hx hb dX12_reckon_60 rfl (lv_at hl 1 rfl) ?_
    refine lv_iload_n hx hb dX12_reckon_61 rfl (lv_at hl 2 rfl) ?_
    obtain ⟨h7, hf⟩ := dz_e hf
    refine lv_irem hx hb dX12_reckon_62 h7 ?_
    exact retR hx hb hr hlocks hS (Option.some.inj hf) dX12_reckon_63
  replace hf := ifn c6 hf
  by_cases c8 : p0 = 7
  · replace hf := ifp c8 hf
    refine lv_tableIn (off := 63) (tgt := 64) hx hb dX12_reckon_1 (by rw [c8]; decide) (by rw [c8]; decide) (by rw [c8]; rfl) (by decide) ?_
    refine lv_iload_n hx hb dX12_reckon_64 rfl (lv_at hl 1 rfl) ?_
    refine lv_iload_n hx hb dX12_reckon_65 rfl (lv_at hl 2 rfl) ?_
    refine lv_icmp_ge (tgt := 73) hx hb dX12_reckon_66 (by decide) (fun c9 => ?_) (fun c9 => ?_)
    · replace hf := ifp c9 hf
      refine lv_iconst (v := 0) hx hb dX12_reckon_73 (by decide) ?_
      exact retR hx hb hr hlocks hS (Option.some.inj hf) dX12_reckon_74
    replace hf := ifn c9 hf
    refine lv_iconst (v := 1) hx hb dX12_reckon_69 (by decide) ?_
    refine lv_goto (tgt := 74) hx hb dX12_reckon_70 (by decide) ?_
    exact retR hx hb hr hlocks hS (Option.some.inj hf) dX12_reckon_74
  replace hf := ifn c8 hf
  by_cases c10 : p0 = 8
  · replace hf := ifp c10 hf
    refine lv_tableIn (off := 74) (tgt := 75) hx hb dX12_reckon_1 (by rw [c10]; decide) (by rw [c10]; decide) (by rw [c10]; rfl) (by decide) ?_
    refine lv_iload_n hx hb dX12_reckon_75 rfl (lv_at hl 1 rfl) ?_
    refine lv_iload_n hx hb dX12_reckon_76 rfl (lv_at hl 2 rfl) ?_
    refine lv_icmp_le (tgt := 84) hx hb dX12_reckon_77 (by decide) (fun c11 => ?_) (fun c11 => ?_)
    · replace hf := ifp c11 hf
      refine lv_iconst (v := 0) hx hb dX12_reckon_84 (by decide) ?_
      exact retR hx hb hr hlocks hS (Option.some.inj hf) dX12_reckon_85
    replace hf := ifn c11 hf
    refine lv_iconst (v := 1) hx hb dX12_reckon_80 (by decide) ?_
    refine lv_goto (tgt := 85) hx hb dX12_reckon_81 (by decide) ?_
    exact retR hx hb hr hlocks hS (Option.some.inj hf) dX12_reckon_85
  replace hf := ifn c10 hf
  refine lv_tableOut (tgt := 86) hx hb dX12_reckon_1 (sw_out (x := p0) 7 (by decide) (fun k9 hk9 => match k9, hk9 with | 0, _ => fun e9 => c1 (e9.trans (by decide)) | 1, _ => fun e9 => c2 (e9.trans (by decide)) | 2, _ => fun e9 => c3 (e9.trans (by decide)) | 3, _ => fun e9 => c4 (e9.trans (by decide)) | 4, _ => fun e9 => c6 (e9.trans (by decide)) | 5, _ => fun e9 => c8 (e9.trans (by decide)) | 6, _ => fun e9 => c10 (e9.trans (by decide)) | k9 + 7, hk9 => absurd hk9 (by omega))) (by decide) ?_
  refine lv_iload_n hx hb dX12_reckon_86 rfl (lv_at hl 1 rfl) ?_
  refine lv_iload_n hx hb dX12_reckon_87 rfl (lv_at hl 2 rfl) ?_
  refine lv_icmp_ne (tgt := 95) hx hb dX12_reckon_88 (by decide) (fun c12 => ?_) (fun c12 => ?_)
  · replace hf := ifn c12 hf
    refine lv_iconst (v := 0) hx hb dX12_reckon_95 (by decide) ?_
    exact retR hx hb hr hlocks hS (Option.some.inj hf) dX12_reckon_96
  replace hf := ifp c12 hf
  refine lv_iconst (v := 1) hx hb dX12_reckon_91 (by decide) ?_
  refine lv_goto (tgt := 96) hx hb dX12_reckon_92 (by decide) ?_
  exact retR hx hb hr hlocks hS (Option.some.inj hf) dX12_reckon_96
