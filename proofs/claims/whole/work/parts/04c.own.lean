def bX2_ruleThatHolds_L2   (lp2 : St → Int32 → Int32 → Option (Int32 × St)) (v : St) (x1 : Int32) (x2 : Int32) : Option (Int32 × St) := if (v 4 0) ≤ x2 then some ((-1), v) else gd x2 16 <| if (v 0 (ix x2)) = x1 then gd x2 16 <| gd x2 16 <| (fX2_reckon v (v 2 (ix x2)) (v 3 (ix x2))).bind fun z4 => if z4.1 = 0 then lett (x2 + 1) fun t6 => lp2 z4.2 x1 t6 else some (x2, z4.2) else lett (x2 + 1) fun t3 => lp2 v x1 t3
def fX2_ruleThatHolds_L2   : Nat → St → Int32 → Int32 → Option (Int32 × St)
  | 0, _, _, _ => none
  | n + 1, v, x1, x2 => bX2_ruleThatHolds_L2  (fX2_ruleThatHolds_L2  n) v x1 x2
def fX2_ruleThatHolds  (u : St) (p1 : Int32) : Option (Int32 × St) := fX2_ruleThatHolds_L2 FU u p1 0
set_option maxHeartbeats 4000000 in
set_option maxRecDepth 100000 in
theorem mX2_ruleThatHolds (l : Launch) (D : va_G) (T : Ty3) (h : Nat) (a : Nat → Nat) (u : St) (sz : Nat) (p1 : Int32) (res : Int32 × St) (hf : fX2_ruleThatHolds u p1 = some res) : Met l yX2_ruleThatHolds wsX2_ruleThatHolds ({ frames := 2, cells := 0, slots := 0, locals := 48 }) (PcM D T (kX2 T h a u) sz [.ref h, .int p1]) (QM D (kX2 T h a u) sz res.1 (kX2 T h a res.2)) 0 0 (va_A (kX2 T h a u) sz) := by
  refine Met.ofW (cc := cX2_ruleThatHolds) (maxL := 3) (ret := (some .int)) (by decide) rfl ?_
  intro p e s m args below meth c s₁ B hml hv
  obtain ⟨rfl, hsz, hP, hK, hD0⟩ := hv
  have hx := B.exec
  have hb := B.bytes
  have hr := B.returns
  have hts := atoms_spec (ws := wsX2_ruleThatHolds) B.pre
  have hown : s.vm.findClass RX2 = some m.cls := findClass_of_methodNamed B.named
  have hlocks := B.notSynchronized
  subst hsz
  have hD := hD0.self (sz := s.heap.size)
  have hA : ∀ q : Nat, s.heap.size ≤ q → va_A (kX2 T h a u) s.heap.size q := fun q h => Or.inr h
  have hS : va_S (va_A (kX2 T h a u) s.heap.size) s.heap s.heap [] := va_S.rf
  have hinX2 : ∀ w ∈ u_ws RX2 TX2 10, w ∈ wsX2_ruleThatHolds := fun w h => List.mem_cons_of_mem _ (List.mem_append_right _ h)
  have hl := lv_entry ([.ref h, .int p1]) (n := 3) (Nat.le_of_ble_eq_true rfl)
  rw [lg_entry_eq]
  generalize (lg_sl ([.ref h, .int p1]) ++ List.replicate (3 - (lg_sl ([.ref h, .int p1])).length) Slot.unset).toArray = ls at hl ⊢
  have hl : lv_has ls 3 [(0, .ref h), (1, .int p1)] := hl
  have L2 : ∀ (n2 : Nat), ∀ (v : St) (x1 : Int32) (x2 : Int32) (H : Heap) (locs : List Loc) (ls : Array Slot), fX2_ruleThatHolds_L2  n2 v x1 x2 = some res → va_P D vwCl (kX2 T h a v) H → va_D (va_A (kX2 T h a u) s.heap.size) (kX2 T h a v) → va_S (va_A (kX2 T h a u) s.heap.size) s.heap H locs → lv_has ls 3 [(0, .ref h), (1, .int x1), (2, .int x2)] → W p l e (headSpec wsX2_ruleThatHolds ({ frames := 2, cells := 0, slots := 0, locals := 48 })).room s m ([.ref h, .int p1] : List Value).toArray below meth c H locs 0 0 (MQ below (QM D (kX2 T h a u) s.heap.size res.1 (kX2 T h a res.2)) ([.ref h, .int p1] : List Value).toArray s 0 0 (va_A (kX2 T h a u) s.heap.size)) (F0 m 2 ls []) := by
    intro n2
    induction n2 with
    | zero => intro v x1 x2 H locs ls hf; exact nns hf
    | succ n2 ih2 =>
      intro v x1 x2 H locs ls hf hP hD hS hl
      replace hf : bX2_ruleThatHolds_L2  (fX2_ruleThatHolds_L2  n2) v x1 x2 = some res := hf
      unfold bX2_ruleThatHolds_L2 at hf
      refine lv_iload_n hx hb dX2_ruleThatHolds_2 rfl (lv_at hl 2 rfl) ?_
      refine lv_aload_n hx hb dX2_ruleThatHolds_3 rfl (lv_at hl 0 rfl) ?_
      refine va_get (D := D) (ci := 2) (v := .int (v 4 0)) (C := RX2) (T := TX2) (N := 10) hx hb hts hinX2 hown hK.1 hP 0 rfl rfl 4 (by decide) (hts (.fieldLink RX2 24 "RopeScale$Law" "rules" "I") (List.mem_of_getElem? (i := 1) rfl)) (fun _ h9 => h9) rfl dX2_ruleThatHolds_4 ?_
      refine lv_icmp_ge (tgt := 47) hx hb dX2_ruleThatHolds_7 (by decide) (fun c1 => ?_) (fun c1 => ?_)
      · replace hf := ifp c1 hf
        refine lv_iconst (v := (-1)) hx hb dX2_ruleThatHolds_47 (by decide) ?_
        have e9 := Option.some.inj hf
        exact retM hx hb hr hlocks hP hD hS (congrArg (fun z => z.1) e9) (congrArg (fun z => (kX2 T h a z.2 : va_W)) e9) dX2_ruleThatHolds_48
      replace hf := ifn c1 hf
      refine lv_aload_n hx hb dX2_ruleThatHolds_10 rfl (lv_at hl 0 rfl) ?_
      refine va_get (D := D) (ci := 2) (v := .ref (a 0)) (C := RX2) (T := TX2) (N := 10) hx hb hts hinX2 hown hK.1 hP 0 rfl rfl 0 (by decide) (hts (.fieldLink RX2 11 "RopeScale$Law" "kind" "[I") (List.mem_of_getElem? (i := 2) rfl)) (fun _ h9 => h9) rfl dX2_ruleThatHolds_11 ?_
      refine lv_iload_n hx hb dX2_ruleThatHolds_14 rfl (lv_at hl 2 rfl) ?_
      obtain ⟨h9, hf⟩ := gd_e hf
      refine va_iald hx hb hK.1 hP 1 0 rfl rfl h9 dX2_ruleThatHolds_15 ?_
      refine lv_iload_n hx hb dX2_ruleThatHolds_16 rfl (lv_at hl 1 rfl) ?_
      refine lv_icmp_ne (tgt := 41) hx hb dX2_ruleThatHolds_17 (by decide) (fun c2 => ?_) (fun c2 => ?_)
      · replace hf := ifn c2 hf
        obtain ⟨t3, et3, hf⟩ := lett_e hf
        refine lv_iinc (v := t3) (lv' := [(2, .int t3), (0, .ref h), (1, .int x1)]) hx hb dX2_ruleThatHolds_41 hl (k := 2) rfl (by rw [et3]; rfl) (by decide) rfl (fun ls hl => ?_)
        refine lv_goto (tgt := 2) hx hb dX2_ruleThatHolds_44 (by decide) ?_
        exact ih2 v x1 t3 _ _ _ hf hP hD hS (lv_sub hl [1, 2, 0] rfl)
      replace hf := ifp c2 hf
      refine lv_aload_n hx hb dX2_ruleThatHolds_20 rfl (lv_at hl 0 rfl) ?_
      refine lv_aload_n hx hb dX2_ruleThatHolds_21 rfl (lv_at hl 0 rfl) ?_
      refine va_get (D := D) (ci := 2) (v := .ref (a 2)) (C := RX2) (T := TX2) (N := 10) hx hb hts hinX2 hown hK.1 hP 0 rfl rfl 2 (by decide) (hts (.fieldLink RX2 18 "RopeScale$Law" "startOfC" "[I") (List.mem_of_getElem? (i := 3) rfl)) (fun _ h9 => h9) rfl dX2_ruleThatHolds_22 ?_
      refine lv_iload_n hx hb dX2_ruleThatHolds_25 rfl (lv_at hl 2 rfl) ?_
      obtain ⟨h8, hf⟩ := gd_e hf
      refine va_iald hx hb hK.1 hP 3 0 rfl rfl h8 dX2_ruleThatHolds_26 ?_
      refine lv_aload_n hx hb dX2_ruleThatHolds_27 rfl (lv_at hl 0 rfl) ?_
      refine va_get (D := D) (ci := 2) (v := .ref (a 3)) (C := RX2) (T := TX2) (N := 10) hx hb hts hinX2 hown hK.1 hP 0 rfl rfl 3 (by decide) (hts (.fieldLink RX2 21 "RopeScale$Law" "endOfC" "[I") (List.mem_of_getElem? (i := 4) rfl)) (fun _ h9 => h9) rfl dX2_ruleThatHolds_28 ?_
      refine lv_iload_n hx hb dX2_ruleThatHolds_31 rfl (lv_at hl 2 rfl) ?_
      obtain ⟨h7, hf⟩ := gd_e hf
      refine va_iald hx hb hK.1 hP 4 0 rfl rfl h7 dX2_ruleThatHolds_32 ?_
      obtain ⟨z4, hz4, hf⟩ := bnd hf
      have hFc9 := vaA_self hD hS hA
      refine cVM (As := [.int (v 2 (ix x2)), .int (v 3 (ix x2))]) (rest := []) ⟨hx, hb, hml, hown, hts⟩ (mX2_reckon l D T h a v _ (v 2 (ix x2)) (v 3 (ix x2)) z4 hz4) (cwV 2 hts gX2_ruleThatHolds_X2_reckon rfl rfl rfl (by decide +kernel) ⟨Nat.le_of_ble_eq_true rfl, Nat.le_of_ble_eq_true rfl⟩) (va_recv hK.1 hP (ci := 2) (q0 := 0) rfl rfl) hP hK rfl hl.1 rfl (Nat.le_of_ble_eq_true rfl) dX2_ruleThatHolds_33 ⟨Nat.le_of_ble_eq_true rfl, Nat.le_of_ble_eq_true rfl⟩ hD hFc9 hS (fun H locs hP hD1 _ hS => ?_)
      have hD := hD1.weaken (fun _ _ _ h9 => hFc9 _ h9)
      refine lv_if_eq (tgt := 41) hx hb dX2_ruleThatHolds_36 (by decide) (fun c5 => ?_) (fun c5 => ?_)
      · replace hf := ifp c5 hf
        obtain ⟨t6, et6, hf⟩ := lett_e hf
        refine lv_iinc (v := t6) (lv' := [(2, .int t6), (0, .ref h), (1, .int x1)]) hx hb dX2_ruleThatHolds_41 hl (k := 2) rfl (by rw [et6]; rfl) (by decide) rfl (fun ls hl => ?_)
        refine lv_goto (tgt := 2) hx hb dX2_ruleThatHolds_44 (by decide) ?_
        exact ih2 z4.2 x1 t6 _ _ _ hf hP hD hS (lv_sub hl [1, 2, 0] rfl)
      replace hf := ifn c5 hf
      refine lv_iload_n hx hb dX2_ruleThatHolds_39 rfl (lv_at hl 2 rfl) ?_
      have e9 := Option.some.inj hf
      exact retM hx hb hr hlocks hP hD hS (congrArg (fun z => z.1) e9) (congrArg (fun z => (kX2 T h a z.2 : va_W)) e9) dX2_ruleThatHolds_40
  unfold fX2_ruleThatHolds at hf
  refine lv_iconst (v := 0) hx hb dX2_ruleThatHolds_0 (by decide) ?_
  refine lv_istore_n (lv' := [(2, .int 0), (0, .ref h), (1, .int p1)]) hx hb dX2_ruleThatHolds_1 rfl hl (by decide) rfl (fun ls hl => ?_)
  exact L2 FU u p1 0 _ _ _ hf hP hD hS (lv_sub hl [1, 2, 0] rfl)
def fX2_anyHolds  (u : St) (p1 : Int32) : Option (Int32 × St) := (fX2_ruleThatHolds u p1).bind fun z1 => if z1.1 = (-1) then some (0, z1.2) else some (1, z1.2)
set_option maxHeartbeats 4000000 in
set_option maxRecDepth 100000 in
theorem mX2_anyHolds (l : Launch) (D : va_G) (T : Ty3) (h : Nat) (a : Nat → Nat) (u : St) (sz : Nat) (p1 : Int32) (res : Int32 × St) (hf : fX2_anyHolds u p1 = some res) : Met l yX2_anyHolds wsX2_anyHolds ({ frames := 3, cells := 0, slots := 0, locals := 70 }) (PcM D T (kX2 T h a u) sz [.ref h, .int p1]) (QM D (kX2 T h a u) sz res.1 (kX2 T h a res.2)) 0 0 (va_A (kX2 T h a u) sz) := by
  refine Met.ofW (cc := cX2_anyHolds) (maxL := 2) (ret := (some .boolean)) (by decide) rfl ?_
  intro p e s m args below meth c s₁ B hml hv
  obtain ⟨rfl, hsz, hP, hK, hD0⟩ := hv
  have hx := B.exec
  have hb := B.bytes
  have hr := B.returns
  have hts := atoms_spec (ws := wsX2_anyHolds) B.pre
  have hown : s.vm.findClass RX2 = some m.cls := findClass_of_methodNamed B.named
  have hlocks := B.notSynchronized
  subst hsz
  have hD := hD0.self (sz := s.heap.size)
  have hA : ∀ q : Nat, s.heap.size ≤ q → va_A (kX2 T h a u) s.heap.size q := fun q h => Or.inr h
  have hS : va_S (va_A (kX2 T h a u) s.heap.size) s.heap s.heap [] := va_S.rf
  have hinX2 : ∀ w ∈ u_ws RX2 TX2 10, w ∈ wsX2_anyHolds := fun w h => List.mem_cons_of_mem _ (List.mem_append_right _ h)
  have hl := lv_entry ([.ref h, .int p1]) (n := 2) (Nat.le_of_ble_eq_true rfl)
  rw [lg_entry_eq]
  generalize (lg_sl ([.ref h, .int p1]) ++ List.replicate (2 - (lg_sl ([.ref h, .int p1])).length) Slot.unset).toArray = ls at hl ⊢
  have hl : lv_has ls 2 [(0, .ref h), (1, .int p1)] := hl
  unfold fX2_anyHolds at hf
  refine lv_aload_n hx hb dX2_anyHolds_0 rfl (lv_at hl 0 rfl) ?_
  refine lv_iload_n hx hb dX2_anyHolds_1 rfl (lv_at hl 1 rfl) ?_
  obtain ⟨z1, hz1, hf⟩ := bnd hf
  have hFc9 := vaA_self hD hS hA
  refine cVM (As := [.int p1]) (rest := []) ⟨hx, hb, hml, hown, hts⟩ (mX2_ruleThatHolds l D T h a u _ p1 z1 hz1) (cwV 1 hts gX2_anyHolds_X2_ruleThatHolds rfl rfl rfl (by decide +kernel) ⟨Nat.le_of_ble_eq_true rfl, Nat.le_of_ble_eq_true rfl⟩) (va_recv hK.1 hP (ci := 2) (q0 := 0) rfl rfl) hP hK rfl hl.1 rfl (Nat.le_of_ble_eq_true rfl) dX2_anyHolds_2 ⟨Nat.le_of_ble_eq_true rfl, Nat.le_of_ble_eq_true rfl⟩ hD hFc9 hS (fun H locs hP hD1 _ hS => ?_)
  have hD := hD1.weaken (fun _ _ _ h9 => hFc9 _ h9)
  refine lv_iconst (v := (-1)) hx hb dX2_anyHolds_5 (by decide) ?_
  refine lv_icmp_eq (tgt := 13) hx hb dX2_anyHolds_6 (by decide) (fun c2 => ?_) (fun c2 => ?_)
  · replace hf := ifp c2 hf
    refine lv_iconst (v := 0) hx hb dX2_anyHolds_13 (by decide) ?_
    have e9 := Option.some.inj hf
    exact retMz hx hb hr hlocks hP hD hS rfl (congrArg (fun z => z.1) e9) (congrArg (fun z => (kX2 T h a z.2 : va_W)) e9) dX2_anyHolds_14
  replace hf := ifn c2 hf
  refine lv_iconst (v := 1) hx hb dX2_anyHolds_9 (by decide) ?_
  refine lv_goto (tgt := 14) hx hb dX2_anyHolds_10 (by decide) ?_
  have e9 := Option.some.inj hf
  exact retMz hx hb hr hlocks hP hD hS rfl (congrArg (fun z => z.1) e9) (congrArg (fun z => (kX2 T h a z.2 : va_W)) e9) dX2_anyHolds_14
def fX2_say  (u : St) (p1 : Int32) (p2 : Int32) : Option (Int32 × St) := (fX2_ruleThatHolds u p1).bind fun z1 => if z1.1 = (-1) then some ((-1), z1.2) else gd z1.1 16 <| gd z1.1 16 <| (fX2_reckon z1.2 (z1.2 1 (ix z1.1)) (z1.2 2 (ix z1.1))).bind fun z3 => lett (fX11_bounded z3.1 0 p2) fun z4 => some (z4, z3.2)
set_option maxHeartbeats 4000000 in
set_option maxRecDepth 100000 in
theorem mX2_say (l : Launch) (D : va_G) (T : Ty3) (h : Nat) (a : Nat → Nat) (u : St) (sz : Nat) (p1 : Int32) (p2 : Int32) (res : Int32 × St) (hf : fX2_say u p1 p2 = some res) : Met l yX2_say wsX2_say ({ frames := 3, cells := 0, slots := 0, locals := 70 }) (PcM D T (kX2 T h a u) sz [.ref h, .int p1, .int p2]) (QM D (kX2 T h a u) sz res.1 (kX2 T h a res.2)) 0 0 (va_A (kX2 T h a u) sz) := by
  refine Met.ofW (cc := cX2_say) (maxL := 4) (ret := (some .int)) (by decide) rfl ?_
  intro p e s m args below meth c s₁ B hml hv
  obtain ⟨rfl, hsz, hP, hK, hD0⟩ := hv
  have hx := B.exec
  have hb := B.bytes
  have hr := B.returns
  have hts := atoms_spec (ws := wsX2_say) B.pre
  have hown : s.vm.findClass RX2 = some m.cls := findClass_of_methodNamed B.named
  have hlocks := B.notSynchronized
  subst hsz
  have hD := hD0.self (sz := s.heap.size)
  have hA : ∀ q : Nat, s.heap.size ≤ q → va_A (kX2 T h a u) s.heap.size q := fun q h => Or.inr h
  have hS : va_S (va_A (kX2 T h a u) s.heap.size) s.heap s.heap [] := va_S.rf
  have hinX2 : ∀ w ∈ u_ws RX2 TX2 10, w ∈ wsX2_say := fun w h => List.mem_cons_of_mem _ (List.mem_append_right _ h)
  have hl := lv_entry ([.ref h, .int p1, .int p2]) (n := 4) (Nat.le_of_ble_eq_true rfl)
  rw [lg_entry_eq]
  generalize (lg_sl ([.ref h, .int p1, .int p2]) ++ List.replicate (4 - (lg_sl ([.ref h, .int p1, .int p2])).length) Slot.unset).toArray = ls at hl ⊢
  have hl : lv_has ls 4 [(0, .ref h), (1, .int p1), (2, .int p2)] := hl
  unfold fX2_say at hf
  refine lv_aload_n hx hb dX2_say_0 rfl (lv_at hl 0 rfl) ?_
  refine lv_iload_n hx hb dX2_say_1 rfl (lv_at hl 1 rfl) ?_
  obtain ⟨z1, hz1, hf⟩ := bnd hf
  have hFc9 := vaA_self hD hS hA
  refine cVM (As := [.int p1]) (rest := []) ⟨hx, hb, hml, hown, hts⟩ (mX2_ruleThatHolds l D T h a u _ p1 z1 hz1) (cwV 1 hts gX2_say_X2_ruleThatHolds rfl rfl rfl (by decide +kernel) ⟨Nat.le_of_ble_eq_true rfl, Nat.le_of_ble_eq_true rfl⟩) (va_recv hK.1 hP (ci := 2) (q0 := 0) rfl rfl) hP hK rfl hl.1 rfl (Nat.le_of_ble_eq_true rfl) dX2_say_2 ⟨Nat.le_of_ble_eq_true rfl, Nat.le_of_ble_eq_true rfl⟩ hD hFc9 hS (fun H locs hP hD1 _ hS => ?_)
  have hD := hD1.weaken (fun _ _ _ h9 => hFc9 _ h9)
  refine lv_istore_n (lv' := [(3, .int z1.1), (0, .ref h), (1, .int p1), (2, .int p2)]) hx hb dX2_say_5 rfl hl (by decide) rfl (fun ls hl => ?_)
  refine lv_iload_n hx hb dX2_say_6 rfl (lv_at hl 0 rfl) ?_
  refine lv_iconst (v := (-1)) hx hb dX2_say_7 (by decide) ?_
  refine lv_icmp_ne (tgt := 13) hx hb dX2_say_8 (by decide) (fun c2 => ?_) (fun c2 => ?_)
  · replace hf := ifn c2 hf
    refine lv_aload_n hx hb dX2_say_13 rfl (lv_at hl 1 rfl) ?_
    refine lv_aload_n hx hb dX2_say_14 rfl (lv_at hl 1 rfl) ?_
    refine va_get (D := D) (ci := 2) (v := .ref (a 1)) (C := RX2) (T := TX2) (N := 10) hx hb hts hinX2 hown hK.1 hP 0 rfl rfl 1 (by decide) (hts (.fieldLink RX2 15 "RopeScale$Law" "startOfE" "[I") (List.mem_of_getElem? (i := 1) rfl)) (fun _ h9 => h9) rfl dX2_say_15 ?_
    refine lv_iload_n hx hb dX2_say_18 rfl (lv_at hl 0 rfl) ?_
    obtain ⟨h6, hf⟩ := gd_e hf
    refine va_iald hx hb hK.1 hP 2 0 rfl rfl h6 dX2_say_19 ?_
    refine lv_aload_n hx hb dX2_say_20 rfl (lv_at hl 1 rfl) ?_
    refine va_get (D := D) (ci := 2) (v := .ref (a 2)) (C := RX2) (T := TX2) (N := 10) hx hb hts hinX2 hown hK.1 hP 0 rfl rfl 2 (by decide) (hts (.fieldLink RX2 18 "RopeScale$Law" "startOfC" "[I") (List.mem_of_getElem? (i := 2) rfl)) (fun _ h9 => h9) rfl dX2_say_21 ?_
    refine lv_iload_n hx hb dX2_say_24 rfl (lv_at hl 0 rfl) ?_
    obtain ⟨h5, hf⟩ := gd_e hf
    refine va_iald hx hb hK.1 hP 3 0 rfl rfl h5 dX2_say_25 ?_
    obtain ⟨z3, hz3, hf⟩ := bnd hf
    have hFc9 := vaA_self hD hS hA
    refine cVM (As := [.int (z1.2 1 (ix z1.1)), .int (z1.2 2 (ix z1.1))]) (rest := []) ⟨hx, hb, hml, hown, hts⟩ (mX2_reckon l D T h a z1.2 _ (z1.2 1 (ix z1.1)) (z1.2 2 (ix z1.1)) z3 hz3) (cwV 2 hts gX2_say_X2_reckon rfl rfl rfl (by decide +kernel) ⟨Nat.le_of_ble_eq_true rfl, Nat.le_of_ble_eq_true rfl⟩) (va_recv hK.1 hP (ci := 2) (q0 := 0) rfl rfl) hP hK rfl hl.1 rfl (Nat.le_of_ble_eq_true rfl) dX2_say_26 ⟨Nat.le_of_ble_eq_true rfl, Nat.le_of_ble_eq_true rfl⟩ hD hFc9 hS (fun H locs hP hD1 _ hS => ?_)
    have hD := hD1.weaken (fun _ _ _ h9 => hFc9 _ h9)
    refine lv_iconst (v := 0) hx hb dX2_say_29 (by decide) ?_
    refine lv_iload_n hx hb dX2_say_30 rfl (lv_at hl 3 rfl) ?_
    obtain ⟨z4, hz4, hf⟩ := lett_e hf
    refine cNR (As := [.int z3.1, .int 0, .int p2]) (rest := []) ⟨hx, hb, hml, hown, hts⟩ (mX11_bounded l D T z3.1 0 p2 z4 hz4.symm) ⟨va_cnB (host := "RopeScale") (index := 80) 3 hts gX2_say_X11_bounded_n80 rfl rfl rfl (hK.2 _ (List.mem_of_getElem? (i := 17) rfl)) (hts (.initialized RX11) (List.mem_of_getElem? (i := 27) rfl)) (by decide +kernel) ⟨Nat.le_of_ble_eq_true rfl, Nat.le_of_ble_eq_true rfl⟩, (hts (.static yX11_bounded) (List.mem_of_getElem? (i := 26) rfl)), trivial⟩ P0 hK rfl hl.1 rfl (Nat.le_of_ble_eq_true rfl) dX2_say_31 ⟨Nat.le_of_ble_eq_true rfl, Nat.le_of_ble_eq_true rfl⟩ hP hS (fun H locs hP hS => ?_)
    have e9 := Option.some.inj hf
    exact retM hx hb hr hlocks hP hD hS (congrArg (fun z => z.1) e9) (congrArg (fun z => (kX2 T h a z.2 : va_W)) e9) dX2_say_34
  replace hf := ifp c2 hf
  refine lv_iconst (v := (-1)) hx hb dX2_say_11 (by decide) ?_
  have e9 := Option.some.inj hf
  exact retM hx hb hr hlocks hP hD hS (congrArg (fun z => z.1) e9) (congrArg (fun z => (kX2 T h a z.2 : va_W)) e9) dX2_say_12
def fX4_readDeed_J82 (utp : St)  (vc : St) (x2 : Int32) : Option (Int32 × St) := lett (vc 2 0) fun t1 => (fX1_readNumber vc utp 3).bind fun z2 => if x2 = 0 then some (z2.1, z2.2) else if z2.1 = 0 then lett (fX1_fail z2.2 3 t1) fun z5 => some (z2.1, z5) else some (z2.1, z2.2)
def fX4_readDeed_J68 (utp : St)  (vc : St) (x2 : Int32) (x3 : Int32) : Option (Int32 × St) := (fX1_next vc utp).bind fun z6 => if x2 = 0 then if x3 = 0 then some (0, z6) else fX4_readDeed_J82 utp z6 x2 else fX4_readDeed_J82 utp z6 x2
def fX4_readDeed_J40 (utp : St)  (vc : St) (x1 : Int32) (x2 : Int32) (y0 : Int32) : Option (Int32 × St) := if x2 = 0 then if y0 = 0 then if x1 = 62 then fX4_readDeed_J68 utp vc x2 y0 else if x1 = 60 then fX4_readDeed_J68 utp vc x2 y0 else lett (fX1_failHere vc 1) fun z13 => some (0, z13) else fX4_readDeed_J68 utp vc x2 y0 else fX4_readDeed_J68 utp vc x2 y0
def fX4_readDeed_J35 (utp : St)  (vc : St) (x1 : Int32) (x2 : Int32) : Option (Int32 × St) := fX4_readDeed_J40 utp vc x1 x2 1
def fX4_readDeed_J22 (utp : St)  (vc : St) (x1 : Int32) (y0 : Int32) : Option (Int32 × St) := if x1 = 43 then fX4_readDeed_J35 utp vc x1 y0 else if x1 = 45 then fX4_readDeed_J35 utp vc x1 y0 else fX4_readDeed_J40 utp vc x1 y0 0
def fX4_readDeed_J17 (utp : St)  (vc : St) (x1 : Int32) : Option (Int32 × St) := fX4_readDeed_J22 utp vc x1 1
def fX4_readDeed  (uc : St) (utp : St)  : Option (Int32 × St) := lett (uc 3 0) fun t16 => if t16 = 61 then fX4_readDeed_J17 utp uc t16 else if t16 = 63 then fX4_readDeed_J17 utp uc t16 else fX4_readDeed_J22 utp uc t16 0
set_option maxHeartbeats 4000000 in
set_option maxRecDepth 100000 in
theorem mX4_readDeed (l : Launch) (D : va_G) (T : Ty3) (hc : Nat) (ac : Nat → Nat) (uc : St) (atp : Nat → Nat) (utp : St) (sz : Nat)  (res : Int32 × St) (hf : fX4_readDeed uc utp = some res) : Met l yX4_readDeed wsX4_readDeed ({ frames := 3, cells := 0, slots := 0, locals := 66 }) (PcM D T (kX1 T hc ac uc ++ kX8 T (ac 0) atp utp) sz [.ref hc]) (QM D (kX1 T hc ac uc ++ kX8 T (ac 0) atp utp) sz res.1 (kX1 T hc ac res.2 ++ kX8 T (ac 0) atp utp)) 0 0 (va_A (kX1 T hc ac uc ++ kX8 T (ac 0) atp utp) sz) := by
  refine Met.ofW (cc := cX4_readDeed) (maxL := 6) (ret := (some .int)) (by decide) rfl ?_
  intro p e s m args below meth c s₁ B hml hv
  obtain ⟨rfl, hsz, hP, hK, hD0⟩ := hv
  have hx := B.exec
  have hb := B.bytes
  have hr := B.returns
  have hts := atoms_spec (ws := wsX4_readDeed) B.pre
  have hown : s.vm.findClass RX4 = some m.cls := findClass_of_methodNamed B.named
  have hlocks := B.notSynchronized
  subst hsz
  have hD := hD0.self (sz := s.heap.size)
  have hA : ∀ q : Nat, s.heap.size ≤ q → va_A (kX1 T hc ac uc ++ kX8 T (ac 0) atp utp) s.heap.size q := fun q h => Or.inr h
  have hS : va_S (va_A (kX1 T hc ac uc ++ kX8 T (ac 0) atp utp) s.heap.size) s.heap s.heap [] := va_S.rf
  have hinX1 : ∀ w ∈ u_ws RX1 TX1 5, w ∈ wsX4_readDeed := fun w h => List.mem_cons_of_mem _ (List.mem_append_left _ (List.mem_append_right _ h))
  have hinX8 : ∀ w ∈ u_ws RX8 TX8 2, w ∈ wsX4_readDeed := fun w h => List.mem_cons_of_mem _ (List.mem_append_right _ h)
  have hl := lv_entry ([.ref hc]) (n := 6) (Nat.le_of_ble_eq_true rfl)
  rw [lg_entry_eq]
  generalize (lg_sl ([.ref hc]) ++ List.replicate (6 - (lg_sl ([.ref hc])).length) Slot.unset).toArray = ls at hl ⊢
  have hl : lv_has ls 6 [(0, .ref hc)] := hl
  have J82 : ∀ (vc : St) (x2 : Int32) (H : Heap) (locs : List Loc) (ls : Array Slot), fX4_readDeed_J82 utp vc x2 = some res → va_P D vwCl (kX1 T hc ac vc ++ kX8 T (ac 0) atp utp) H → va_D (va_A (kX1 T hc ac uc ++ kX8 T (ac 0) atp utp) s.heap.size) (kX1 T hc ac vc ++ kX8 T (ac 0) atp utp) → va_S (va_A (kX1 T hc ac uc ++ kX8 T (ac 0) atp utp) s.heap.size) s.heap H locs → lv_has ls 6 [(0, .ref hc), (2, .int x2)] → W p l e (headSpec wsX4_readDeed ({ frames := 3, cells := 0, slots := 0, locals := 66 })).room s m ([.ref hc] : List Value).toArray below meth c H locs 0 0 (MQ below (QM D (kX1 T hc ac uc ++ kX8 T (ac 0) atp utp) s.heap.size res.1 (kX1 T hc ac res.2 ++ kX8 T (ac 0) atp utp)) ([.ref hc] : List Value).toArray s 0 0 (va_A (kX1 T hc ac uc ++ kX8 T (ac 0) atp utp) s.heap.size)) (F0 m 82 ls []) := by
    intro vc x2 H locs ls hf hP hD hS hl
    unfold fX4_readDeed_J82 at hf
    refine lv_aload_n hx hb dX4_readDeed_82 rfl (lv_at hl 0 rfl) ?_
    refine va_get (D := D) (ci := 1) (v := .int (vc 2 0)) (C := RX1) (T := TX1) (N := 5) hx hb hts hinX1 hown hK.1 hP 0 rfl rfl 2 (by decide) (hts (.fieldLink RX4 57 "RopeScale$Cursor" "place" "I") (List.mem_of_getElem? (i := 2) rfl)) (fun _ h9 => h9) rfl dX4_readDeed_83 ?_
    obtain ⟨t1, et1, hf⟩ := lett_e hf
    refine lv_eqi et1 ?_
    refine lv_istore (lv' := [(4, .int t1), (0, .ref hc), (2, .int x2)]) hx hb dX4_readDeed_86 hl (by decide) rfl (fun ls hl => ?_)
    refine lv_aload_n hx hb dX4_readDeed_88 rfl (lv_at hl 1 rfl) ?_
    refine lv_iconst (v := 3) hx hb dX4_readDeed_89 (by decide) ?_
    obtain ⟨z2, hz2, hf⟩ := bnd hf
    have hFc9 := vaA_self hD hS hA
    refine cVM (As := [.int 3]) (rest := []) ⟨hx, hb, hml, hown, hts⟩ (mX1_readNumber l D T hc ac vc atp utp _ 3 z2 hz2) (cwV 1 hts gX4_readDeed_X1_readNumber rfl rfl rfl (by decide +kernel) ⟨Nat.le_of_ble_eq_true rfl, Nat.le_of_ble_eq_true rfl⟩) (va_recv hK.1 hP (ci := 1) (q0 := 0) rfl rfl) hP hK rfl hl.1 rfl (Nat.le_of_ble_eq_true rfl) dX4_readDeed_90 ⟨Nat.le_of_ble_eq_true rfl, Nat.le_of_ble_eq_true rfl⟩ hD hFc9 hS (fun H locs hP hD1 _ hS => ?_)
    have hD := hD1.weaken (fun _ _ _ h9 => hFc9 _ h9)
    refine lv_istore (lv' := [(5, .int z2.1), (4, .int t1), (0, .ref hc), (2, .int x2)]) hx hb dX4_readDeed_93 hl (by decide) rfl (fun ls hl => ?_)
    refine lv_iload_n hx hb dX4_readDeed_95 rfl (lv_at hl 3 rfl) ?_
    refine lv_if_eq (tgt := 111) hx hb dX4_readDeed_96 (by decide) (fun c3 => ?_) (fun c3 => ?_)
    · replace hf := ifp c3 hf
      refine lv_iload hx hb dX4_readDeed_111 (lv_at hl 0 rfl) ?_
      have e9 := Option.some.inj hf
      exact retM hx hb hr hlocks hP hD hS (congrArg (fun z => z.1) e9) (congrArg (fun z => (kX1 T hc ac z.2 ++ kX8 T (ac 0) atp utp : va_W)) e9) dX4_readDeed_113
    replace hf := ifn c3 hf
    refine lv_iload hx hb dX4_readDeed_99 (lv_at hl 0 rfl) ?_
    refine lv_if_ne (tgt := 111) hx hb dX4_readDeed_101 (by decide) (fun c4 => ?_) (fun c4 => ?_)
    · replace hf := ifn c4 hf
      refine lv_iload hx hb dX4_readDeed_111 (lv_at hl 0 rfl) ?_
      have e9 := Option.some.inj hf
      exact retM hx hb hr hlocks hP hD hS (congrArg (fun z => z.1) e9) (congrArg (fun z => (kX1 T hc ac z.2 ++ kX8 T (ac 0) atp utp : va_W)) e9) dX4_readDeed_113
    replace hf := ifp c4 hf
    refine lv_aload_n hx hb dX4_readDeed_104 rfl (lv_at hl 2 rfl) ?_
    refine lv_iconst (v := 3) hx hb dX4_readDeed_105 (by decide) ?_
    refine lv_iload hx hb dX4_readDeed_106 (lv_at hl 1 rfl) ?_
    obtain ⟨z5, hz5, hf⟩ := lett_e hf
    have hPc := hP.sub (ws' := kX1 T hc ac z2.2) [0] rfl
    have hDc := hD.sub (ws' := kX1 T hc ac z2.2) [0] (by decide) rfl
    have hFc9 := va_free (wc := kX1 T hc ac z2.2) hD hS hA [0] rfl
    refine cVMv (As := [.int 3, .int t1]) (rest := []) ⟨hx, hb, hml, hown, hts⟩ (mX1_fail l D T hc ac z2.2 _ 3 t1 z5 hz5.symm) (cwV 2 hts gX4_readDeed_X1_fail rfl rfl rfl (by decide +kernel) ⟨Nat.le_of_ble_eq_true rfl, Nat.le_of_ble_eq_true rfl⟩) (va_recv hK.1 hP (ci := 1) (q0 := 0) rfl rfl) hPc hK rfl hl.1 rfl (Nat.le_of_ble_eq_true rfl) dX4_readDeed_108 ⟨Nat.le_of_ble_eq_true rfl, Nat.le_of_ble_eq_true rfl⟩ hDc hFc9 hS (fun H9 locs hP1 hD1 hk1 hS => ?_)
    obtain ⟨hP, hD⟩ := putAll_P (w1 := kX1 T hc ac z5) hP hD [0] rfl (by decide) hk1 hP1 rfl
    generalize H9 = H at hP hS ⊢
    have hP : va_P D vwCl (kX1 T hc ac z5 ++ kX8 T (ac 0) atp utp) H := by exact hP
    have hD : va_D (va_A (kX1 T hc ac uc ++ kX8 T (ac 0) atp utp) s.heap.size) (kX1 T hc ac z5 ++ kX8 T (ac 0) atp utp) := by exact hD
    refine lv_iload hx hb dX4_readDeed_111 (lv_at hl 0 rfl) ?_
    have e9 := Option.some.inj hf
    exact retM hx hb hr hlocks hP hD hS (congrArg (fun z => z.1) e9) (congrArg (fun z => (kX1 T hc ac z.2 ++ kX8 T (ac 0) atp utp : va_W)) e9) dX4_readDeed_113
  have J68 : ∀ (vc : St) (x2 : Int32) (x3 : Int32) (H : Heap) (locs : List Loc) (ls : Array Slot), fX4_readDeed_J68 utp vc x2 x3 = some res → va_P D vwCl (kX1 T hc ac vc ++ kX8 T (ac 0) atp utp) H → va_D (va_A (kX1 T hc ac uc ++ kX8 T (ac 0) atp utp) s.heap.size) (kX1 T hc ac vc ++ kX8 T (ac 0) atp utp) → va_S (va_A (kX1 T hc ac uc ++ kX8 T (ac 0) atp utp) s.heap.size) s.heap H locs → lv_has ls 6 [(0, .ref hc), (2, .int x2), (3, .int x3)] → W p l e (headSpec wsX4_readDeed ({ frames := 3, cells := 0, slots := 0, locals := 66 })).room s m ([.ref hc] : List Value).toArray below meth c H locs 0 0 (MQ below (QM D (kX1 T hc ac uc ++ kX8 T (ac 0) atp utp) s.heap.size res.1 (kX1 T hc ac res.2 ++ kX8 T (ac 0) atp utp)) ([.ref hc] : List Value).toArray s 0 0 (va_A (kX1 T hc ac uc ++ kX8 T (ac 0) atp utp) s.heap.size)) (F0 m 68 ls []) := by
    intro vc x2 x3 H locs ls hf hP hD hS hl
    unfold fX4_readDeed_J68 at hf
    refine lv_aload_n hx hb dX4_readDeed_68 rfl (lv_at hl 0 rfl) ?_
    obtain ⟨z6, hz6, hf⟩ := bnd hf
    have hFc9 := vaA_self hD hS hA
    refine cVMv (As := []) (rest := []) ⟨hx, hb, hml, hown, hts⟩ (mX1_next l D T hc ac vc atp utp _ z6 hz6) (cwV 0 hts gX4_readDeed_X1_next rfl rfl rfl (by decide +kernel) ⟨Nat.le_of_ble_eq_true rfl, Nat.le_of_ble_eq_true rfl⟩) (va_recv hK.1 hP (ci := 1) (q0 := 0) rfl rfl) hP hK rfl hl.1 rfl (Nat.le_of_ble_eq_true rfl) dX4_readDeed_69 ⟨Nat.le_of_ble_eq_true rfl, Nat.le_of_ble_eq_true rfl⟩ hD hFc9 hS (fun H locs hP hD1 _ hS => ?_)
    have hD := hD1.weaken (fun _ _ _ h9 => hFc9 _ h9)
    refine lv_iload_n hx hb dX4_readDeed_72 rfl (lv_at hl 1 rfl) ?_
    refine lv_if_ne (tgt := 82) hx hb dX4_readDeed_73 (by decide) (fun c7 => ?_) (fun c7 => ?_)
    · replace hf := ifn c7 hf
      exact J82 z6 x2 _ _ _ hf hP hD hS (lv_sub hl [0, 1] rfl)
    replace hf := ifp c7 hf
    refine lv_iload_n hx hb dX4_readDeed_76 rfl (lv_at hl 2 rfl) ?_
    refine lv_if_ne (tgt := 82) hx hb dX4_readDeed_77 (by decide) (fun c8 => ?_) (fun c8 => ?_)
    · replace hf := ifn c8 hf
      exact J82 z6 x2 _ _ _ hf hP hD hS (lv_sub hl [0, 1] rfl)
    replace hf := ifp c8 hf
    refine lv_iconst (v := 0) hx hb dX4_readDeed_80 (by decide) ?_
    have e9 := Option.some.inj hf
    exact retM hx hb hr hlocks hP hD hS (congrArg (fun z => z.1) e9) (congrArg (fun z => (kX1 T hc ac z.2 ++ kX8 T (ac 0) atp utp : va_W)) e9) dX4_readDeed_81
  have J40 : ∀ (vc : St) (x1 : Int32) (x2 : Int32) (y0 : Int32) (H : Heap) (locs : List Loc) (ls : Array Slot), fX4_readDeed_J40 utp vc x1 x2 y0 = some res → va_P D vwCl (kX1 T hc ac vc ++ kX8 T (ac 0) atp utp) H → va_D (va_A (kX1 T hc ac uc ++ kX8 T (ac 0) atp utp) s.heap.size) (kX1 T hc ac vc ++ kX8 T (ac 0) atp utp) → va_S (va_A (kX1 T hc ac uc ++ kX8 T (ac 0) atp utp) s.heap.size) s.heap H locs → lv_has ls 6 [(0, .ref hc), (1, .int x1), (2, .int x2)] → W p l e (headSpec wsX4_readDeed ({ frames := 3, cells := 0, slots := 0, locals := 66 })).room s m ([.ref hc] : List Value).toArray below meth c H locs 0 0 (MQ below (QM D (kX1 T hc ac uc ++ kX8 T (ac 0) atp utp) s.heap.size res.1 (kX1 T hc ac res.2 ++ kX8 T (ac 0) atp utp)) ([.ref hc] : List Value).toArray s 0 0 (va_A (kX1 T hc ac uc ++ kX8 T (ac 0) atp utp) s.heap.size)) (F0 m 40 ls [.int y0]) := by
    intro vc x1 x2 y0 H locs ls hf hP hD hS hl
    unfold fX4_readDeed_J40 at hf
    refine lv_istore_n (lv' := [(3, .int y0), (0, .ref hc), (1, .int x1), (2, .int x2)]) hx hb dX4_readDeed_40 rfl hl (by decide) rfl (fun ls hl => ?_)
    refine lv_iload_n hx hb dX4_readDeed_41 rfl (lv_at hl 3 rfl) ?_
    refine lv_if_ne (tgt := 68) hx hb dX4_readDeed_42 (by decide) (fun c9 => ?_) (fun c9 => ?_)
    · replace hf := ifn c9 hf
      exact J68 vc x2 y0 _ _ _ hf hP hD hS (lv_sub hl [1, 3, 0] rfl)
    replace hf := ifp c9 hf
    refine lv_iload_n hx hb dX4_readDeed_45 rfl (lv_at hl 0 rfl) ?_
    refine lv_if_ne (tgt := 68) hx hb dX4_readDeed_46 (by decide) (fun c10 => ?_) (fun c10 => ?_)
    · replace hf := ifn c10 hf
      exact J68 vc x2 y0 _ _ _ hf hP hD hS (lv_sub hl [1, 3, 0] rfl)
    replace hf := ifp c10 hf
    refine lv_iload_n hx hb dX4_readDeed_49 rfl (lv_at hl 2 rfl) ?_
    refine lv_bipush (v := 62) hx hb dX4_readDeed_50 (by decide) ?_
    refine lv_icmp_eq (tgt := 68) hx hb dX4_readDeed_52 (by decide) (fun c11 => ?_) (fun c11 => ?_)
    · replace hf := ifp c11 hf
      exact J68 vc x2 y0 _ _ _ hf hP hD hS (lv_sub hl [1, 3, 0] rfl)
    replace hf := ifn c11 hf
    refine lv_iload_n hx hb dX4_readDeed_55 rfl (lv_at hl 2 rfl) ?_
    refine lv_bipush (v := 60) hx hb dX4_readDeed_56 (by decide) ?_
    refine lv_icmp_eq (tgt := 68) hx hb dX4_readDeed_58 (by decide) (fun c12 => ?_) (fun c12 => ?_)
    · replace hf := ifp c12 hf
      exact J68 vc x2 y0 _ _ _ hf hP hD hS (lv_sub hl [1, 3, 0] rfl)
    replace hf := ifn c12 hf
    refine lv_aload_n hx hb dX4_readDeed_61 rfl (lv_at hl 1 rfl) ?_
    refine lv_iconst (v := 1) hx hb dX4_readDeed_62 (by decide) ?_
    obtain ⟨z13, hz13, hf⟩ := lett_e hf
    have hPc := hP.sub (ws' := kX1 T hc ac vc) [0] rfl
    have hDc := hD.sub (ws' := kX1 T hc ac vc) [0] (by decide) rfl
    have hFc9 := va_free (wc := kX1 T hc ac vc) hD hS hA [0] rfl
    refine cVMv (As := [.int 1]) (rest := []) ⟨hx, hb, hml, hown, hts⟩ (mX1_failHere l D T hc ac vc _ 1 z13 hz13.symm) (cwV 1 hts gX4_readDeed_X1_failHere rfl rfl rfl (by decide +kernel) ⟨Nat.le_of_ble_eq_true rfl, Nat.le_of_ble_eq_true rfl⟩) (va_recv hK.1 hP (ci := 1) (q0 := 0) rfl rfl) hPc hK rfl hl.1 rfl (Nat.le_of_ble_eq_true rfl) dX4_readDeed_63 ⟨Nat.le_of_ble_eq_true rfl, Nat.le_of_ble_eq_true rfl⟩ hDc hFc9 hS (fun H9 locs hP1 hD1 hk1 hS => ?_)
    obtain ⟨hP, hD⟩ := putAll_P (w1 := kX1 T hc ac z13) hP hD [0] rfl (by decide) hk1 hP1 rfl
    generalize H9 = H at hP hS ⊢
    have hP : va_P D vwCl (kX1 T hc ac z13 ++ kX8 T (ac 0) atp utp) H := by exact hP
    have hD : va_D (va_A (kX1 T hc ac uc ++ kX8 T (ac 0) atp utp) s.heap.size) (kX1 T hc ac z13 ++ kX8 T (ac 0) atp utp) := by exact hD
    refine lv_iconst (v := 0) hx hb dX4_readDeed_66 (by decide) ?_
    have e9 := Option.some.inj hf
    exact retM hx hb hr hlocks hP hD hS (congrArg (fun z => z.1) e9) (congrArg (fun z => (kX1 T hc ac z.2 ++ kX8 T (ac 0) atp utp : va_W)) e9) dX4_readDeed_67
  have J35 : ∀ (vc : St) (x1 : Int32) (x2 : Int32) (H : Heap) (locs : List Loc) (ls : Array Slot), fX4_readDeed_J35 utp vc x1 x2 = some res → va_P D vwCl (kX1 T hc ac vc ++ kX8 T (ac 0) atp utp) H → va_D (va_A (kX1 T hc ac uc ++ kX8 T (ac 0) atp utp) s.heap.size) (kX1 T hc ac vc ++ kX8 T (ac 0) atp utp) → va_S (va_A (kX1 T hc ac uc ++ kX8 T (ac 0) atp utp) s.heap.size) s.heap H locs → lv_has ls 6 [(0, .ref hc), (1, .int x1), (2, .int x2)] → W p l e (headSpec wsX4_readDeed ({ frames := 3, cells := 0, slots := 0, locals := 66 })).room s m ([.ref hc] : List Value).toArray below meth c H locs 0 0 (MQ below (QM D (kX1 T hc ac uc ++ kX8 T (ac 0) atp utp) s.heap.size res.1 (kX1 T hc ac res.2 ++ kX8 T (ac 0) atp utp)) ([.ref hc] : List Value).toArray s 0 0 (va_A (kX1 T hc ac uc ++ kX8 T (ac 0) atp utp) s.heap.size)) (F0 m 35 ls []) := by
    intro vc x1 x2 H locs ls hf hP hD hS hl
    unfold fX4_readDeed_J35 at hf
    refine lv_iconst (v := 1) hx hb dX4_readDeed_35 (by decide) ?_
    refine lv_goto (tgt := 40) hx hb dX4_readDeed_36 (by decide) ?_
    exact J40 vc x1 x2 1 _ _ _ hf hP hD hS (lv_sub hl [0, 1, 2] rfl)
  have J22 : ∀ (vc : St) (x1 : Int32) (y0 : Int32) (H : Heap) (locs : List Loc) (ls : Array Slot), fX4_readDeed_J22 utp vc x1 y0 = some res → va_P D vwCl (kX1 T hc ac vc ++ kX8 T (ac 0) atp utp) H → va_D (va_A (kX1 T hc ac uc ++ kX8 T (ac 0) atp utp) s.heap.size) (kX1 T hc ac vc ++ kX8 T (ac 0) atp utp) → va_S (va_A (kX1 T hc ac uc ++ kX8 T (ac 0) atp utp) s.heap.size) s.heap H locs → lv_has ls 6 [(0, .ref hc), (1, .int x1)] → W p l e (headSpec wsX4_readDeed ({ frames := 3, cells := 0, slots := 0, locals := 66 })).room s m ([.ref hc] : List Value).toArray below meth c H locs 0 0 (MQ below (QM D (kX1 T hc ac uc ++ kX8 T (ac 0) atp utp) s.heap.size res.1 (kX1 T hc ac res.2 ++ kX8 T (ac 0) atp utp)) ([.ref hc] : List Value).toArray s 0 0 (va_A (kX1 T hc ac uc ++ kX8 T (ac 0) atp utp) s.heap.size)) (F0 m 22 ls [.int y0]) := by
    intro vc x1 y0 H locs ls hf hP hD hS hl
    unfold fX4_readDeed_J22 at hf
    refine lv_istore_n (lv' := [(2, .int y0), (0, .ref hc), (1, .int x1)]) hx hb dX4_readDeed_22 rfl hl (by decide) rfl (fun ls hl => ?_)
    refine lv_iload_n hx hb dX4_readDeed_23 rfl (lv_at hl 2 rfl) ?_
    refine lv_bipush (v := 43) hx hb dX4_readDeed_24 (by decide) ?_
    refine lv_icmp_eq (tgt := 35) hx hb dX4_readDeed_26 (by decide) (fun c14 => ?_) (fun c14 => ?_)
    · replace hf := ifp c14 hf
      exact J35 vc x1 y0 _ _ _ hf hP hD hS (lv_sub hl [1, 2, 0] rfl)
    replace hf := ifn c14 hf
    refine lv_iload_n hx hb dX4_readDeed_29 rfl (lv_at hl 2 rfl) ?_
    refine lv_bipush (v := 45) hx hb dX4_readDeed_30 (by decide) ?_
    refine lv_icmp_ne (tgt := 39) hx hb dX4_readDeed_32 (by decide) (fun c15 => ?_) (fun c15 => ?_)
    · replace hf := ifn c15 hf
      refine lv_iconst (v := 0) hx hb dX4_readDeed_39 (by decide) ?_
      exact J40 vc x1 y0 0 _ _ _ hf hP hD hS (lv_sub hl [1, 2, 0] rfl)
    replace hf := ifp c15 hf
    exact J35 vc x1 y0 _ _ _ hf hP hD hS (lv_sub hl [1, 2, 0] rfl)
  have J17 : ∀ (vc : St) (x1 : Int32) (H : Heap) (locs : List Loc) (ls : Array Slot), fX4_readDeed_J17 utp vc x1 = some res → va_P D vwCl (kX1 T hc ac vc ++ kX8 T (ac 0) atp utp) H → va_D (va_A (kX1 T hc ac uc ++ kX8 T (ac 0) atp utp) s.heap.size) (kX1 T hc ac vc ++ kX8 T (ac 0) atp utp) → va_S (va_A (kX1 T hc ac uc ++ kX8 T (ac 0) atp utp) s.heap.size) s.heap H locs → lv_has ls 6 [(0, .ref hc), (1, .int x1)] → W p l e (headSpec wsX4_readDeed ({ frames := 3, cells := 0, slots := 0, locals := 66 })).room s m ([.ref hc] : List Value).toArray below meth c H locs 0 0 (MQ below (QM D (kX1 T hc ac uc ++ kX8 T (ac 0) atp utp) s.heap.size res.1 (kX1 T hc ac res.2 ++ kX8 T (ac 0) atp utp)) ([.ref hc] : List Value).toArray s 0 0 (va_A (kX1 T hc ac uc ++ kX8 T (ac 0) atp utp) s.heap.size)) (F0 m 17 ls []) := by
    intro vc x1 H locs ls hf hP hD hS hl
    unfold fX4_readDeed_J17 at hf
    refine lv_iconst (v := 1) hx hb dX4_readDeed_17 (by decide) ?_
    refine lv_goto (tgt := 22) hx hb dX4_readDeed_18 (by decide) ?_
    exact J22 vc x1 1 _ _ _ hf hP hD hS (lv_sub hl [0, 1] rfl)
  unfold fX4_readDeed at hf
  refine lv_aload_n hx hb dX4_readDeed_0 rfl (lv_at hl 0 rfl) ?_
  refine va_get (D := D) (ci := 1) (v := .int (uc 3 0)) (C := RX1) (T := TX1) (N := 5) hx hb hts hinX1 hown hK.1 hP 0 rfl rfl 3 (by decide) (hts (.fieldLink RX4 50 "RopeScale$Cursor" "sign" "I") (List.mem_of_getElem? (i := 1) rfl)) (fun _ h9 => h9) rfl dX4_readDeed_1 ?_
  obtain ⟨t16, et16, hf⟩ := lett_e hf
  refine lv_eqi et16 ?_
  refine lv_istore_n (lv' := [(1, .int t16), (0, .ref hc)]) hx hb dX4_readDeed_4 rfl hl (by decide) rfl (fun ls hl => ?_)
  refine lv_iload_n hx hb dX4_readDeed_5 rfl (lv_at hl 0 rfl) ?_
  refine lv_bipush (v := 61) hx hb dX4_readDeed_6 (by decide) ?_
  refine lv_icmp_eq (tgt := 17) hx hb dX4_readDeed_8 (by decide) (fun c17 => ?_) (fun c17 => ?_)
  · replace hf := ifp c17 hf
    exact J17 uc t16 _ _ _ hf hP hD hS (lv_sub hl [1, 0] rfl)
  replace hf := ifn c17 hf
  refine lv_iload_n hx hb dX4_readDeed_11 rfl (lv_at hl 0 rfl) ?_
  refine lv_bipush (v := 63) hx hb dX4_readDeed_12 (by decide) ?_
  refine lv_icmp_ne (tgt := 21) hx hb dX4_readDeed_14 (by decide) (fun c18 => ?_) (fun c18 => ?_)
  · replace hf := ifn c18 hf
    refine lv_iconst (v := 0) hx hb dX4_readDeed_21 (by decide) ?_
    exact J22 uc t16 0 _ _ _ hf hP hD hS (lv_sub hl [1, 0] rfl)
  replace hf := ifp c18 hf
  exact J17 uc t16 _ _ _ hf hP hD hS (lv_sub hl [1, 0] rfl)
def fX4_readLine  (u : St) (uc : St) (utp : St) (p2 : Int32) (p3 : Int32) : Option (St × St) := (fX1_seenWalker uc).bind fun z1 => if z1 = (-1) then lett (fX1_failHere uc 1) fun z17 => some (u, z17) else if p3 < 20 then lett (fX11_has p2 z1) fun z4 => if z4 = 0 then lett (fX1_failHere uc 7) fun z15 => some (u, z15) else (fX1_next uc utp).bind fun z6 => gd p3 20 <| lett (st u 0 (ix p3) z1) fun u7 => gd p3 20 <| lett (st u7 1 (ix p3) (z6 3 0)) fun u8 => (fX4_readDeed z6 utp).bind fun z9 => gd p3 20 <| lett (st u8 2 (ix p3) z9.1) fun u10 => lett (st u10 3 0 (p3 + 1)) fun u11 => some (u11, z9.2) else lett (fX1_failHere uc 4) fun z16 => some (u, z16)
set_option maxHeartbeats 4000000 in
set_option maxRecDepth 100000 in
theorem mX4_readLine (l : Launch) (D : va_G) (T : Ty3) (h : Nat) (a : Nat → Nat) (u : St) (hc : Nat) (ac : Nat → Nat) (uc : St) (atp : Nat → Nat) (utp : St) (sz : Nat) (p2 : Int32) (p3 : Int32) (res : St × St) (hf : fX4_readLine u uc utp p2 p3 = some res) : Met l yX4_readLine wsX4_readLine ({ frames := 4, cells := 0, slots := 0, locals := 91 }) (PcM D T (kX4 T h a u ++ kX1 T hc ac uc ++ kX8 T (ac 0) atp utp) sz [.ref h, .ref hc, .int p2, .int p3]) (QMv D (kX4 T h a u ++ kX1 T hc ac uc ++ kX8 T (ac 0) atp utp) sz (kX4 T h a res.1 ++ kX1 T hc ac res.2 ++ kX8 T (ac 0) atp utp)) 0 0 (va_A (kX4 T h a u ++ kX1 T hc ac uc ++ kX8 T (ac 0) atp utp) sz) := by
  refine Met.ofW (cc := cX4_readLine) (maxL := 5) (ret := none) (by decide) rfl ?_
  intro p e s m args below meth c s₁ B hml hv
  obtain ⟨rfl, hsz, hP, hK, hD0⟩ := hv
  have hx := B.exec
  have hb := B.bytes
  have hr := B.returns
  have hts := atoms_spec (ws := wsX4_readLine) B.pre
  have hown : s.vm.findClass RX4 = some m.cls := findClass_of_methodNamed B.named
  have hlocks := B.notSynchronized
  subst hsz
  have hD := hD0.self (sz := s.heap.size)
  have hA : ∀ q : Nat, s.heap.size ≤ q → va_A (kX4 T h a u ++ kX1 T hc ac uc ++ kX8 T (ac 0) atp utp) s.heap.size q := fun q h => Or.inr h
  have hS : va_S (va_A (kX4 T h a u ++ kX1 T hc ac uc ++ kX8 T (ac 0) atp utp) s.heap.size) s.heap s.heap [] := va_S.rf
  have hinX4 : ∀ w ∈ u_ws RX4 TX4 4, w ∈ wsX4_readLine := fun w h => List.mem_cons_of_mem _ (List.mem_append_left _ (List.mem_append_left _ (List.mem_append_right _ h)))
  have hinX1 : ∀ w ∈ u_ws RX1 TX1 5, w ∈ wsX4_readLine := fun w h => List.mem_cons_of_mem _ (List.mem_append_left _ (List.mem_append_right _ h))
  have hinX8 : ∀ w ∈ u_ws RX8 TX8 2, w ∈ wsX4_readLine := fun w h => List.mem_cons_of_mem _ (List.mem_append_right _ h)
  have hl := lv_entry ([.ref h, .ref hc, .int p2, .int p3]) (n := 5) (Nat.le_of_ble_eq_true rfl)
  rw [lg_entry_eq]
  generalize (lg_sl ([.ref h, .ref hc, .int p2, .int p3]) ++ List.replicate (5 - (lg_sl ([.ref h, .ref hc, .int p2, .int p3])).length) Slot.unset).toArray = ls at hl ⊢
  have hl : lv_has ls 5 [(0, .ref h), (1, .ref hc), (2, .int p2), (3, .int p3)] := hl
  unfold fX4_readLine at hf
  refine lv_aload_n hx hb dX4_readLine_0 rfl (lv_at hl 1 rfl) ?_
  obtain ⟨z1, hz1, hf⟩ := bnd hf
  refine cVR (As := []) (rest := []) ⟨hx, hb, hml, hown, hts⟩ (mX1_seenWalker l D T hc ac uc z1 hz1) (cwV 0 hts gX4_readLine_X1_seenWalker rfl rfl rfl (by decide +kernel) ⟨Nat.le_of_ble_eq_true rfl, Nat.le_of_ble_eq_true rfl⟩) (va_recv hK.1 hP (ci := 1) (q0 := 4) rfl rfl) (hP.sub (ws' := kX1 T hc ac uc) [4] rfl) hK rfl hl.1 rfl (Nat.le_of_ble_eq_true rfl) dX4_readLine_1 ⟨Nat.le_of_ble_eq_true rfl, Nat.le_of_ble_eq_true rfl⟩ hP hS (fun H locs hP hS => ?_)
  refine lv_istore (lv' := [(4, .int z1), (0, .ref h), (1, .ref hc), (2, .int p2), (3, .int p3)]) hx hb dX4_readLine_4 hl (by decide) rfl (fun ls hl => ?_)
  refine lv_iload hx hb dX4_readLine_6 (lv_at hl 0 rfl) ?_
  refine lv_iconst (v := (-1)) hx hb dX4_readLine_8 (by decide) ?_
  refine lv_icmp_ne (tgt := 20) hx hb dX4_readLine_9 (by decide) (fun c2 => ?_) (fun c2 => ?_)
  · replace hf := ifn c2 hf
    refine lv_iload_n hx hb dX4_readLine_20 rfl (lv_at hl 4 rfl) ?_
    refine lv_bipush (v := 20) hx hb dX4_readLine_21 (by decide) ?_
    refine lv_icmp_lt (tgt := 34) hx hb dX4_readLine_23 (by decide) (fun c3 => ?_) (fun c3 => ?_)
    · replace hf := ifp c3 hf
      refine lv_iload_n hx hb dX4_readLine_34 rfl (lv_at hl 3 rfl) ?_
      refine lv_iload hx hb dX4_readLine_35 (lv_at hl 0 rfl) ?_
      obtain ⟨z4, hz4, hf⟩ := lett_e hf
      refine cNR (As := [.int p2, .int z1]) (rest := []) ⟨hx, hb, hml, hown, hts⟩ (mX11_has l D T p2 z1 z4 hz4.symm) ⟨va_cnB (host := "RopeScale") (index := 43) 2 hts gX4_readLine_X11_has_n43 rfl rfl rfl (hK.2 _ (List.mem_of_getElem? (i := 13) rfl)) (hts (.initialized RX11) (List.mem_of_getElem? (i := 13) rfl)) (by decide +kernel) ⟨Nat.le_of_ble_eq_true rfl, Nat.le_of_ble_eq_true rfl⟩, (hts (.static yX11_has) (List.mem_of_getElem? (i := 28) rfl)), trivial⟩ P0 hK rfl hl.1 rfl (Nat.le_of_ble_eq_true rfl) dX4_readLine_37 ⟨Nat.le_of_ble_eq_true rfl, Nat.le_of_ble_eq_true rfl⟩ hP hS (fun H locs hP hS => ?_)
      refine lv_if_ne (tgt := 52) hx hb dX4_readLine_40 (by decide) (fun c5 => ?_) (fun c5 => ?_)
      · replace hf := ifn c5 hf
        refine lv_aload_n hx hb dX4_readLine_52 rfl (lv_at hl 2 rfl) ?_
        obtain ⟨z6, hz6, hf⟩ := bnd hf
        have hPc := hP.sub (ws' := kX1 T hc ac uc ++ kX8 T (ac 0) atp utp) [4, 5, 6] rfl
        have hDc := hD.sub (ws' := kX1 T hc ac uc ++ kX8 T (ac 0) atp utp) [4, 5, 6] (by decide) rfl
        have hFc9 := va_free (wc := kX1 T hc ac uc ++ kX8 T (ac 0) atp utp) hD hS hA [4, 5, 6] rfl
        refine cVMv (As := []) (rest := []) ⟨hx, hb, hml, hown, hts⟩ (mX1_next l D T hc ac uc atp utp _ z6 hz6) (cwV 0 hts gX4_readLine_X1_next rfl rfl rfl (by decide +kernel) ⟨Nat.le_of_ble_eq_true rfl, Nat.le_of_ble_eq_true rfl⟩) (va_recv hK.1 hP (ci := 1) (q0 := 4) rfl rfl) hPc hK rfl hl.1 rfl (Nat.le_of_ble_eq_true rfl) dX4_readLine_53 ⟨Nat.le_of_ble_eq_true rfl, Nat.le_of_ble_eq_true rfl⟩ hDc hFc9 hS (fun H9 locs hP1 hD1 hk1 hS => ?_)
        obtain ⟨hP, hD⟩ := putAll_P (w1 := kX1 T hc ac z6 ++ kX8 T (ac 0) atp utp) hP hD [4, 5, 6] rfl (by decide) hk1 hP1 rfl
        generalize H9 = H at hP hS ⊢
        have hP : va_P D vwCl (kX4 T h a u ++ kX1 T hc ac z6 ++ kX8 T (ac 0) atp utp) H := by exact hP
        have hD : va_D (va_A (kX4 T h a u ++ kX1 T hc ac uc ++ kX8 T (ac 0) atp utp) s.heap.size) (kX4 T h a u ++ kX1 T hc ac z6 ++ kX8 T (ac 0) atp utp) := by exact hD
        refine lv_aload_n hx hb dX4_readLine_56 rfl (lv_at hl 1 rfl) ?_
        refine va_get (D := D) (ci := 4) (v := .ref (a 0)) (C := RX4) (T := TX4) (N := 4) hx hb hts hinX4 hown hK.1 hP 0 rfl rfl 0 (by decide) (hts (.fieldLink RX4 11 "RopeScale$Orders" "who" "[I") (List.mem_of_getElem? (i := 1) rfl)) (fun _ h9 => h9) rfl dX4_readLine_57 ?_
        refine lv_iload_n hx hb dX4_readLine_60 rfl (lv_at hl 4 rfl) ?_
        refine lv_iload hx hb dX4_readLine_61 (lv_at hl 0 rfl) ?_
        obtain ⟨h14, hf⟩ := gd_e hf
        obtain ⟨u7, eu7, hf⟩ := lett_e hf
        refine va_iast hx hb hK.1 hP hD hS 1 0 rfl rfl h14 dX4_readLine_63 (fun H locs hP hD hS => ?_)
        have hP : va_P D vwCl (kX4 T h a u7 ++ kX1 T hc ac z6 ++ kX8 T (ac 0) atp utp) H := by rw [eu7]; exact hP
        have hD : va_D (va_A (kX4 T h a u ++ kX1 T hc ac uc ++ kX8 T (ac 0) atp utp) s.heap.size) (kX4 T h a u7 ++ kX1 T hc ac z6 ++ kX8 T (ac 0) atp utp) := by rw [eu7]; exact hD
        refine lv_aload_n hx hb dX4_readLine_64 rfl (lv_at hl 1 rfl) ?_
        refine va_get (D := D) (ci := 4) (v := .ref (a 1)) (C := RX4) (T := TX4) (N := 4) hx hb hts hinX4 hown hK.1 hP 0 rfl rfl 1 (by decide) (hts (.fieldLink RX4 15 "RopeScale$Orders" "deed" "[I") (List.mem_of_getElem? (i := 2) rfl)) (fun _ h9 => h9) rfl dX4_readLine_65 ?_
        refine lv_iload_n hx hb dX4_readLine_68 rfl (lv_at hl 4 rfl) ?_
        refine lv_aload_n hx hb dX4_readLine_69 rfl (lv_at hl 2 rfl) ?_
        refine va_get (D := D) (ci := 1) (v := .int (z6 3 0)) (C := RX1) (T := TX1) (N := 5) hx hb hts hinX1 hown hK.1 hP 4 rfl rfl 3 (by decide) (hts (.fieldLink RX4 50 "RopeScale$Cursor" "sign" "I") (List.mem_of_getElem? (i := 3) rfl)) (fun _ h9 => h9) rfl dX4_readLine_70 ?_
        obtain ⟨h13, hf⟩ := gd_e hf
        obtain ⟨u8, eu8, hf⟩ := lett_e hf
        refine va_iast hx hb hK.1 hP hD hS 2 0 rfl rfl h13 dX4_readLine_73 (fun H locs hP hD hS => ?_)
        have hP : va_P D vwCl (kX4 T h a u8 ++ kX1 T hc ac z6 ++ kX8 T (ac 0) atp utp) H := by rw [eu8]; exact hP
        have hD : va_D (va_A (kX4 T h a u ++ kX1 T hc ac uc ++ kX8 T (ac 0) atp utp) s.heap.size) (kX4 T h a u8 ++ kX1 T hc ac z6 ++ kX8 T (ac 0) atp utp) := by rw [eu8]; exact hD
        refine lv_aload_n hx hb dX4_readLine_74 rfl (lv_at hl 1 rfl) ?_
        refine va_get (D := D) (ci := 4) (v := .ref (a 2)) (C := RX4) (T := TX4) (N := 4) hx hb hts hinX4 hown hK.1 hP 0 rfl rfl 2 (by decide) (hts (.fieldLink RX4 18 "RopeScale$Orders" "number" "[I") (List.mem_of_getElem? (i := 4) rfl)) (fun _ h9 => h9) rfl dX4_readLine_75 ?_
        refine lv_iload_n hx hb dX4_readLine_78 rfl (lv_at hl 4 rfl) ?_
        refine lv_aload_n hx hb dX4_readLine_79 rfl (lv_at hl 2 rfl) ?_
        obtain ⟨z9, hz9, hf⟩ := bnd hf
        have hPc := hP.sub (ws' := kX1 T hc ac z6 ++ kX8 T (ac 0) atp utp) [4, 5, 6] rfl
        have hDc := hD.sub (ws' := kX1 T hc ac z6 ++ kX8 T (ac 0) atp utp) [4, 5, 6] (by decide) rfl
        have hFc9 := va_free (wc := kX1 T hc ac z6 ++ kX8 T (ac 0) atp utp) hD hS hA [4, 5, 6] rfl
        refine cSM (As := [.ref hc]) (rest := [.int p3, .ref (a 2)]) ⟨hx, hb, hml, hown, hts⟩ (mX4_readDeed l D T hc ac z6 atp utp _ z9 hz9) (va_cwS 1 hts gX4_readLine_X4_readDeed rfl rfl rfl (by decide +kernel) ⟨Nat.le_of_ble_eq_true rfl, Nat.le_of_ble_eq_true rfl⟩) hPc hK rfl hl.1 rfl (Nat.le_of_ble_eq_true rfl) dX4_readLine_80 ⟨Nat.le_of_ble_eq_true rfl, Nat.le_of_ble_eq_true rfl⟩ hDc hFc9 hS (fun H9 locs hP1 hD1 hk1 hS => ?_)
        obtain ⟨hP, hD⟩ := putAll_P (w1 := kX1 T hc ac z9.2 ++ kX8 T (ac 0) atp utp) hP hD [4, 5, 6] rfl (by decide) hk1 hP1 rfl
        generalize H9 = H at hP hS ⊢
        have hP : va_P D vwCl (kX4 T h a u8 ++ kX1 T hc ac z9.2 ++ kX8 T (ac 0) atp utp) H := by exact hP
        have hD : va_D (va_A (kX4 T h a u ++ kX1 T hc ac uc ++ kX8 T (ac 0) atp utp) s.heap.size) (kX4 T h a u8 ++ kX1 T hc ac z9.2 ++ kX8 T (ac 0) atp utp) := by exact hD
        obtain ⟨h12, hf⟩ := gd_e hf
        obtain ⟨u10, eu10, hf⟩ := lett_e hf
        refine va_iast hx hb hK.1 hP hD hS 3 0 rfl rfl h12 dX4_readLine_83 (fun H locs hP hD hS => ?_)
        have hP : va_P D vwCl (kX4 T h a u10 ++ kX1 T hc ac z9.2 ++ kX8 T (ac 0) atp utp) H := by rw [eu10]; exact hP
        have hD : va_D (va_A (kX4 T h a u ++ kX1 T hc ac uc ++ kX8 T (ac 0) atp utp) s.heap.size) (kX4 T h a u10 ++ kX1 T hc ac z9.2 ++ kX8 T (ac 0) atp utp) := by rw [eu10]; exact hD
        refine lv_aload_n hx hb dX4_readLine_84 rfl (lv_at hl 1 rfl) ?_
        refine lv_iload_n hx hb dX4_readLine_85 rfl (lv_at hl 4 rfl) ?_
        refine lv_iconst (v := 1) hx hb dX4_readLine_86 (by decide) ?_
        refine lv_iadd hx hb dX4_readLine_87 ?_
        obtain ⟨u11, eu11, hf⟩ := lett_e hf
        refine va_put (D := D) (ci := 4) (v := .int (p3 + 1)) (ty := .int) (C := RX4) (T := TX4) (N := 4) hx hb hts hinX4 tyX4 tyX4_ok nmX4 hown hK.1 hP hD hS 0 rfl rfl 3 (by decide) (hts (.fieldLink RX4 21 "RopeScale$Orders" "lines" "I") (List.mem_of_getElem? (i := 5) rfl)) (fun _ h9 => h9) rfl (tyX4_ok 3 (by decide)) rfl rfl (Nat.le_of_ble_eq_true rfl) dX4_readLine_88 (fun H locs hP hD hS => ?_)
        have hP : va_P D vwCl (kX4 T h a u11 ++ kX1 T hc ac z9.2 ++ kX8 T (ac 0) atp utp) H := by rw [eu11]; exact hP
        have hD : va_D (va_A (kX4 T h a u ++ kX1 T hc ac uc ++ kX8 T (ac 0) atp utp) s.heap.size) (kX4 T h a u11 ++ kX1 T hc ac z9.2 ++ kX8 T (ac 0) atp utp) := by rw [eu11]; exact hD
        have e9 := Option.some.inj hf
        exact retMv hx hb hr hlocks hP hD hS (congrArg (fun z => (kX4 T h a z.1 ++ kX1 T hc ac z.2 ++ kX8 T (ac 0) atp utp : va_W)) e9) dX4_readLine_91
      replace hf := ifp c5 hf
      refine lv_aload_n hx hb dX4_readLine_43 rfl (lv_at hl 2 rfl) ?_
      refine lv_bipush (v := 7) hx hb dX4_readLine_44 (by decide) ?_
      obtain ⟨z15, hz15, hf⟩ := lett_e hf
      have hPc := hP.sub (ws' := kX1 T hc ac uc) [4] rfl
      have hDc := hD.sub (ws' := kX1 T hc ac uc) [4] (by decide) rfl
      have hFc9 := va_free (wc := kX1 T hc ac uc) hD hS hA [4] rfl
      refine cVMv (As := [.int 7]) (rest := []) ⟨hx, hb, hml, hown, hts⟩ (mX1_failHere l D T hc ac uc _ 7 z15 hz15.symm) (cwV 1 hts gX4_readLine_X1_failHere rfl rfl rfl (by decide +kernel) ⟨Nat.le_of_ble_eq_true rfl, Nat.le_of_ble_eq_true rfl⟩) (va_recv hK.1 hP (ci := 1) (q0 := 4) rfl rfl) hPc hK rfl hl.1 rfl (Nat.le_of_ble_eq_true rfl) dX4_readLine_46 ⟨Nat.le_of_ble_eq_true rfl, Nat.le_of_ble_eq_true rfl⟩ hDc hFc9 hS (fun H9 locs hP1 hD1 hk1 hS => ?_)
      obtain ⟨hP, hD⟩ := putAll_P (w1 := kX1 T hc ac z15) hP hD [4] rfl (by decide) hk1 hP1 rfl
      generalize H9 = H at hP hS ⊢
      have hP : va_P D vwCl (kX4 T h a u ++ kX1 T hc ac z15 ++ kX8 T (ac 0) atp utp) H := by exact hP
      have hD : va_D (va_A (kX4 T h a u ++ kX1 T hc ac uc ++ kX8 T (ac 0) atp utp) s.heap.size) (kX4 T h a u ++ kX1 T hc ac z15 ++ kX8 T (ac 0) atp utp) := by exact hD
      refine lv_goto (tgt := 91) hx hb dX4_readLine_49 (by decide) ?_
      have e9 := Option.some.inj hf
      exact retMv hx hb hr hlocks hP hD hS (congrArg (fun z => (kX4 T h a z.1 ++ kX1 T hc ac z.2 ++ kX8 T (ac 0) atp utp : va_W)) e9) dX4_readLine_91
    replace hf := ifn c3 hf
    refine lv_aload_n hx hb dX4_readLine_26 rfl (lv_at hl 2 rfl) ?_
    refine lv_iconst (v := 4) hx hb dX4_readLine_27 (by decide) ?_
    obtain ⟨z16, hz16, hf⟩ := lett_e hf
    have hPc := hP.sub (ws' := kX1 T hc ac uc) [4] rfl
    have hDc := hD.sub (ws' := kX1 T hc ac uc) [4] (by decide) rfl
    have hFc9 := va_free (wc := kX1 T hc ac uc) hD hS hA [4] rfl
    refine cVMv (As := [.int 4]) (rest := []) ⟨hx, hb, hml, hown, hts⟩ (mX1_failHere l D T hc ac uc _ 4 z16 hz16.symm) (cwV 1 hts gX4_readLine_X1_failHere rfl rfl rfl (by decide +kernel) ⟨Nat.le_of_ble_eq_true rfl, Nat.le_of_ble_eq_true rfl⟩) (va_recv hK.1 hP (ci := 1) (q0 := 4) rfl rfl) hPc hK rfl hl.1 rfl (Nat.le_of_ble_eq_true rfl) dX4_readLine_28 ⟨Nat.le_of_ble_eq_true rfl, Nat.le_of_ble_eq_true rfl⟩ hDc hFc9 hS (fun H9 locs hP1 hD1 hk1 hS => ?_)
    obtain ⟨hP, hD⟩ := putAll_P (w1 := kX1 T hc ac z16) hP hD [4] rfl (by decide) hk1 hP1 rfl
    generalize H9 = H at hP hS ⊢
    have hP : va_P D vwCl (kX4 T h a u ++ kX1 T hc ac z16 ++ kX8 T (ac 0) atp utp) H := by exact hP
    have hD : va_D (va_A (kX4 T h a u ++ kX1 T hc ac uc ++ kX8 T (ac 0) atp utp) s.heap.size) (kX4 T h a u ++ kX1 T hc ac z16 ++ kX8 T (ac 0) atp utp) := by exact hD
    refine lv_goto (tgt := 91) hx hb dX4_readLine_31 (by decide) ?_
    have e9 := Option.some.inj hf
    exact retMv hx hb hr hlocks hP hD hS (congrArg (fun z => (kX4 T h a z.1 ++ kX1 T hc ac z.2 ++ kX8 T (ac 0) atp utp : va_W)) e9) dX4_readLine_91
  replace hf := ifp c2 hf
  refine lv_aload_n hx hb dX4_readLine_12 rfl (lv_at hl 2 rfl) ?_
  refine lv_iconst (v := 1) hx hb dX4_readLine_13 (by decide) ?_
  obtain ⟨z17, hz17, hf⟩ := lett_e hf
  have hPc := hP.sub (ws' := kX1 T hc ac uc) [4] rfl
  have hDc := hD.sub (ws' := kX1 T hc ac uc) [4] (by decide) rfl
  have hFc9 := va_free (wc := kX1 T hc ac uc) hD hS hA [4] rfl
  refine cVMv (As := [.int 1]) (rest := []) ⟨hx, hb, hml, hown, hts⟩ (mX1_failHere l D T hc ac uc _ 1 z17 hz17.symm) (cwV 1 hts gX4_readLine_X1_failHere rfl rfl rfl (by decide +kernel) ⟨Nat.le_of_ble_eq_true rfl, Nat.le_of_ble_eq_true rfl⟩) (va_recv hK.1 hP (ci := 1) (q0 := 4) rfl rfl) hPc hK rfl hl.1 rfl (Nat.le_of_ble_eq_true rfl) dX4_readLine_14 ⟨Nat.le_of_ble_eq_true rfl, Nat.le_of_ble_eq_true rfl⟩ hDc hFc9 hS (fun H9 locs hP1 hD1 hk1 hS => ?_)
  obtain ⟨hP, hD⟩ := putAll_P (w1 := kX1 T hc ac z17) hP hD [4] rfl (by decide) hk1 hP1 rfl
  generalize H9 = H at hP hS ⊢
  have hP : va_P D vwCl (kX4 T h a u ++ kX1 T hc ac z17 ++ kX8 T (ac 0) atp utp) H := by exact hP
  have hD : va_D (va_A (kX4 T h a u ++ kX1 T hc ac uc ++ kX8 T (ac 0) atp utp) s.heap.size) (kX4 T h a u ++ kX1 T hc ac z17 ++ kX8 T (ac 0) atp utp) := by exact hD
  refine lv_goto (tgt := 91) hx hb dX4_readLine_17 (by decide) ?_
  have e9 := Option.some.inj hf
  exact retMv hx hb hr hlocks hP hD hS (congrArg (fun z => (kX4 T h a z.1 ++ kX1 T hc ac z.2 ++ kX8 T (ac 0) atp utp : va_W)) e9) dX4_readLine_91
def bX4_read_L7 (utp : St)  (lp7 : St → St → Int32 → Int32 → Option (St × St)) (v : St) (vc : St) (x2 : Int32) (x3 : Int32) : Option (St × St) := if 20 < x3 then some (v, vc) else (fX1_begins vc utp x3).bind fun z2 => if z2.1 = 0 then some (v, z2.2) else (fX4_readLine v z2.2 utp x2 x3).bind fun z4 => lett (x3 + 1) fun t5 => lp7 z4.1 z4.2 x2 t5
def fX4_read_L7 (utp : St)  : Nat → St → St → Int32 → Int32 → Option (St × St)
  | 0, _, _, _, _ => none
  | n + 1, v, vc, x2, x3 => bX4_read_L7 utp (fX4_read_L7 utp n) v vc x2 x3
def fX4_read  (u : St) (uc : St) (utp : St) (p2 : Int32) : Option (St × St) := lett (st u 3 0 0) fun u6 => fX4_read_L7 utp FU u6 uc p2 0
set_option maxHeartbeats 4000000 in
set_option maxRecDepth 100000 in
theorem mX4_read (l : Launch) (D : va_G) (T : Ty3) (h : Nat) (a : Nat → Nat) (u : St) (hc : Nat) (ac : Nat → Nat) (uc : St) (atp : Nat → Nat) (utp : St) (sz : Nat) (p2 : Int32) (res : St × St) (hf : fX4_read u uc utp p2 = some res) : Met l yX4_read wsX4_read ({ frames := 5, cells := 0, slots := 0, locals := 115 }) (PcM D T (kX4 T h a u ++ kX1 T hc ac uc ++ kX8 T (ac 0) atp utp) sz [.ref h, .ref hc, .int p2]) (QMv D (kX4 T h a u ++ kX1 T hc ac uc ++ kX8 T (ac 0) atp utp) sz (kX4 T h a res.1 ++ kX1 T hc ac res.2 ++ kX8 T (ac 0) atp utp)) 0 0 (va_A (kX4 T h a u ++ kX1 T hc ac uc ++ kX8 T (ac 0) atp utp) sz) := by
  refine Met.ofW (cc := cX4_read) (maxL := 4) (ret := none) (by decide) rfl ?_
  intro p e s m args below meth c s₁ B hml hv
  obtain ⟨rfl, hsz, hP, hK, hD0⟩ := hv
  have hx := B.exec
  have hb := B.bytes
  have hr := B.returns
  have hts := atoms_spec (ws := wsX4_read) B.pre
  have hown : s.vm.findClass RX4 = some m.cls := findClass_of_methodNamed B.named
  have hlocks := B.notSynchronized
  subst hsz
  have hD := hD0.self (sz := s.heap.size)
  have hA : ∀ q : Nat, s.heap.size ≤ q → va_A (kX4 T h a u ++ kX1 T hc ac uc ++ kX8 T (ac 0) atp utp) s.heap.size q := fun q h => Or.inr h
  have hS : va_S (va_A (kX4 T h a u ++ kX1 T hc ac uc ++ kX8 T (ac 0) atp utp) s.heap.size) s.heap s.heap [] := va_S.rf
  have hinX4 : ∀ w ∈ u_ws RX4 TX4 4, w ∈ wsX4_read := fun w h => List.mem_cons_of_mem _ (List.mem_append_left _ (List.mem_append_left _ (List.mem_append_right _ h)))
  have hinX1 : ∀ w ∈ u_ws RX1 TX1 5, w ∈ wsX4_read := fun w h => List.mem_cons_of_mem _ (List.mem_append_left _ (List.mem_append_right _ h))
  have hinX8 : ∀ w ∈ u_ws RX8 TX8 2, w ∈ wsX4_read := fun w h => List.mem_cons_of_mem _ (List.mem_append_right _ h)
  have hl := lv_entry ([.ref h, .ref hc, .int p2]) (n := 4) (Nat.le_of_ble_eq_true rfl)
  rw [lg_entry_eq]
  generalize (lg_sl ([.ref h, .ref hc, .int p2]) ++ List.replicate (4 - (lg_sl ([.ref h, .ref hc, .int p2])).length) Slot.unset).toArray = ls at hl ⊢
  have hl : lv_has ls 4 [(0, .ref h), (1, .ref hc), (2, .int p2)] := hl
  have L7 : ∀ (n7 : Nat), ∀ (v : St) (vc : St) (x2 : Int32) (x3 : Int32) (H : Heap) (locs : List Loc) (ls : Array Slot), fX4_read_L7 utp n7 v vc x2 x3 = some res → va_P D vwCl (kX4 T h a v ++ kX1 T hc ac vc ++ kX8 T (ac 0) atp utp) H → va_D (va_A (kX4 T h a u ++ kX1 T hc ac uc ++ kX8 T (ac 0) atp utp) s.heap.size) (kX4 T h a v ++ kX1 T hc ac vc ++ kX8 T (ac 0) atp utp) → va_S (va_A (kX4 T h a u ++ kX1 T hc ac uc ++ kX8 T (ac 0) atp utp) s.heap.size) s.heap H locs → lv_has ls 4 [(0, .ref h), (1, .ref hc), (2, .int x2), (3, .int x3)] → W p l e (headSpec wsX4_read ({ frames := 5, cells := 0, slots := 0, locals := 115 })).room s m ([.ref h, .ref hc, .int p2] : List Value).toArray below meth c H locs 0 0 (MQ below (QMv D (kX4 T h a u ++ kX1 T hc ac uc ++ kX8 T (ac 0) atp utp) s.heap.size (kX4 T h a res.1 ++ kX1 T hc ac res.2 ++ kX8 T (ac 0) atp utp)) ([.ref h, .ref hc, .int p2] : List Value).toArray s 0 0 (va_A (kX4 T h a u ++ kX1 T hc ac uc ++ kX8 T (ac 0) atp utp) s.heap.size)) (F0 m 7 ls []) := by
    intro n7
    induction n7 with
    | zero => intro v vc x2 x3 H locs ls hf; exact nns hf
    | succ n7 ih7 =>
      intro v vc x2 x3 H locs ls hf hP hD hS hl
      replace hf : bX4_read_L7 utp (fX4_read_L7 utp n7) v vc x2 x3 = some res := hf
      unfold bX4_read_L7 at hf
      refine lv_iload_n hx hb dX4_read_7 rfl (lv_at hl 3 rfl) ?_
      refine lv_bipush (v := 20) hx hb dX4_read_8 (by decide) ?_
      refine lv_icmp_gt (tgt := 34) hx hb dX4_read_10 (by decide) (fun c1 => ?_) (fun c1 => ?_)
      · replace hf := ifp c1 hf
        have e9 := Option.some.inj hf
        exact retMv hx hb hr hlocks hP hD hS (congrArg (fun z => (kX4 T h a z.1 ++ kX1 T hc ac z.2 ++ kX8 T (ac 0) atp utp : va_W)) e9) dX4_read_34
      replace hf := ifn c1 hf
      refine lv_aload_n hx hb dX4_read_13 rfl (lv_at hl 1 rfl) ?_
      refine lv_iload_n hx hb dX4_read_14 rfl (lv_at hl 3 rfl) ?_
      obtain ⟨z2, hz2, hf⟩ := bnd hf
      have hPc := hP.sub (ws' := kX1 T hc ac vc ++ kX8 T (ac 0) atp utp) [4, 5, 6] rfl
      have hDc := hD.sub (ws' := kX1 T hc ac vc ++ kX8 T (ac 0) atp utp) [4, 5, 6] (by decide) rfl
      have hFc9 := va_free (wc := kX1 T hc ac vc ++ kX8 T (ac 0) atp utp) hD hS hA [4, 5, 6] rfl
      refine cVM (As := [.int x3]) (rest := []) ⟨hx, hb, hml, hown, hts⟩ (mX1_begins l D T hc ac vc atp utp _ x3 z2 hz2) (cwV 1 hts gX4_read_X1_begins rfl rfl rfl (by decide +kernel) ⟨Nat.le_of_ble_eq_true rfl, Nat.le_of_ble_eq_true rfl⟩) (va_recv hK.1 hP (ci := 1) (q0 := 4) rfl rfl) hPc hK rfl hl.1 rfl (Nat.le_of_ble_eq_true rfl) dX4_read_15 ⟨Nat.le_of_ble_eq_true rfl, Nat.le_of_ble_eq_true rfl⟩ hDc hFc9 hS (fun H9 locs hP1 hD1 hk1 hS => ?_)
      obtain ⟨hP, hD⟩ := putAll_P (w1 := kX1 T hc ac z2.2 ++ kX8 T (ac 0) atp utp) hP hD [4, 5, 6] rfl (by decide) hk1 hP1 rfl
      generalize H9 = H at hP hS ⊢
      have hP : va_P D vwCl (kX4 T h a v ++ kX1 T hc ac z2.2 ++ kX8 T (ac 0) atp utp) H := by exact hP
      have hD : va_D (va_A (kX4 T h a u ++ kX1 T hc ac uc ++ kX8 T (ac 0) atp utp) s.heap.size) (kX4 T h a v ++ kX1 T hc ac z2.2 ++ kX8 T (ac 0) atp utp) := by exact hD
      refine lv_if_eq (tgt := 34) hx hb dX4_read_18 (by decide) (fun c3 => ?_) (fun c3 => ?_)
      · replace hf := ifp c3 hf
        have e9 := Option.some.inj hf
        exact retMv hx hb hr hlocks hP hD hS (congrArg (fun z => (kX4 T h a z.1 ++ kX1 T hc ac z.2 ++ kX8 T (ac 0) atp utp : va_W)) e9) dX4_read_34
      replace hf := ifn c3 hf
      refine lv_aload_n hx hb dX4_read_21 rfl (lv_at hl 0 rfl) ?_
      refine lv_aload_n hx hb dX4_read_22 rfl (lv_at hl 1 rfl) ?_
      refine lv_iload_n hx hb dX4_read_23 rfl (lv_at hl 2 rfl) ?_
      refine lv_iload_n hx hb dX4_read_24 rfl (lv_at hl 3 rfl) ?_
      obtain ⟨z4, hz4, hf⟩ := bnd hf
      have hFc9 := vaA_self hD hS hA
      refine cVMv (As := [.ref hc, .int x2, .int x3]) (rest := []) ⟨hx, hb, hml, hown, hts⟩ (mX4_readLine l D T h a v hc ac z2.2 atp utp _ x2 x3 z4 hz4) (cwV 3 hts gX4_read_X4_readLine rfl rfl rfl (by decide +kernel) ⟨Nat.le_of_ble_eq_true rfl, Nat.le_of_ble_eq_true rfl⟩) (va_recv hK.1 hP (ci := 4) (q0 := 0) rfl rfl) hP hK rfl hl.1 rfl (Nat.le_of_ble_eq_true rfl) dX4_read_25 ⟨Nat.le_of_ble_eq_true rfl, Nat.le_of_ble_eq_true rfl⟩ hD hFc9 hS (fun H locs hP hD1 _ hS => ?_)
      have hD := hD1.weaken (fun _ _ _ h9 => hFc9 _ h9)
      obtain ⟨t5, et5, hf⟩ := lett_e hf
      refine lv_iinc (v := t5) (lv' := [(3, .int t5), (0, .ref h), (1, .ref hc), (2, .int x2)]) hx hb dX4_read_28 hl (k := 3) rfl (by rw [et5]; rfl) (by decide) rfl (fun ls hl => ?_)
      refine lv_goto (tgt := 7) hx hb dX4_read_31 (by decide) ?_
      exact ih7 z4.1 z4.2 x2 t5 _ _ _ hf hP hD hS (lv_sub hl [1, 2, 3, 0] rfl)
  unfold fX4_read at hf
  refine lv_aload_n hx hb dX4_read_0 rfl (lv_at hl 0 rfl) ?_
  refine lv_iconst (v := 0) hx hb dX4_read_1 (by decide) ?_
  obtain ⟨u6, eu6, hf⟩ := lett_e hf
  refine va_put (D := D) (ci := 4) (v := .int 0) (ty := .int) (C := RX4) (T := TX4) (N := 4) hx hb hts hinX4 tyX4 tyX4_ok nmX4 hown hK.1 hP hD hS 0 rfl rfl 3 (by decide) (hts (.fieldLink RX4 21 "RopeScale$Orders" "lines" "I") (List.mem_of_getElem? (i := 1) rfl)) (fun _ h9 => h9) rfl (tyX4_ok 3 (by decide)) rfl rfl (Nat.le_of_ble_eq_true rfl) dX4_read_2 (fun H locs hP hD hS => ?_)
  have hP : va_P D vwCl (kX4 T h a u6 ++ kX1 T hc ac uc ++ kX8 T (ac 0) atp utp) H := by rw [eu6]; exact hP
  have hD : va_D (va_A (kX4 T h a u ++ kX1 T hc ac uc ++ kX8 T (ac 0) atp utp) s.heap.size) (kX4 T h a u6 ++ kX1 T hc ac uc ++ kX8 T (ac 0) atp utp) := by rw [eu6]; exact hD
  refine lv_iconst (v := 0) hx hb dX4_read_5 (by decide) ?_
  refine lv_istore_n (lv' := [(3, .int 0), (0, .ref h), (1, .ref hc), (2, .int p2)]) hx hb dX4_read_6 rfl hl (by decide) rfl (fun ls hl => ?_)
  exact L7 FU u6 uc p2 0 _ _ _ hf hP hD hS (lv_sub hl [1, 2, 3, 0] rfl)
def fX9_changeWeight  (u : St) (p1 : Int32) (p2 : Int32) : Option (St) := gd p1 16 <| lett (fX11_bounded ((u 0 (ix p1)) + p2) 1 999) fun z1 => gd p1 16 <| lett (st u 0 (ix p1) z1) fun u2 => some u2
set_option maxHeartbeats 4000000 in
set_option maxRecDepth 100000 in
theorem mX9_changeWeight (l : Launch) (D : va_G) (T : Ty3) (h : Nat) (a : Nat → Nat) (u : St) (sz : Nat) (p1 : Int32) (p2 : Int32) (res : St) (hf : fX9_changeWeight u p1 p2 = some res) : Met l yX9_changeWeight wsX9_changeWeight ({ frames := 2, cells := 0, slots := 0, locals := 36 }) (PcM D T (kX9 T h a u) sz [.ref h, .int p1, .int p2]) (QMv D (kX9 T h a u) sz (kX9 T h a res)) 0 0 (va_A (kX9 T h a u) sz) := by
  refine Met.ofW (cc := cX9_changeWeight) (maxL := 3) (ret := none) (by decide) rfl ?_
  intro p e s m args below meth c s₁ B hml hv
  obtain ⟨rfl, hsz, hP, hK, hD0⟩ := hv
  have hx := B.exec
  have hb := B.bytes
  have hr := B.returns
  have hts := atoms_spec (ws := wsX9_changeWeight) B.pre
  have hown : s.vm.findClass RX9 = some m.cls := findClass_of_methodNamed B.named
  have hlocks := B.notSynchronized
  subst hsz
  have hD := hD0.self (sz := s.heap.size)
  have hA : ∀ q : Nat, s.heap.size ≤ q → va_A (kX9 T h a u) s.heap.size q := fun q h => Or.inr h
  have hS : va_S (va_A (kX9 T h a u) s.heap.size) s.heap s.heap [] := va_S.rf
  have hinX9 : ∀ w ∈ u_ws RX9 TX9 8, w ∈ wsX9_changeWeight := fun w h => List.mem_cons_of_mem _ (List.mem_append_right _ h)
  have hl := lv_entry ([.ref h, .int p1, .int p2]) (n := 3) (Nat.le_of_ble_eq_true rfl)
  rw [lg_entry_eq]
  generalize (lg_sl ([.ref h, .int p1, .int p2]) ++ List.replicate (3 - (lg_sl ([.ref h, .int p1, .int p2])).length) Slot.unset).toArray = ls at hl ⊢
  have hl : lv_has ls 3 [(0, .ref h), (1, .int p1), (2, .int p2)] := hl
  unfold fX9_changeWeight at hf
  refine lv_aload_n hx hb dX9_changeWeight_0 rfl (lv_at hl 0 rfl) ?_
  refine va_get (D := D) (ci := 9) (v := .ref (a 0)) (C := RX9) (T := TX9) (N := 8) hx hb hts hinX9 hown hK.1 hP 0 rfl rfl 0 (by decide) (hts (.fieldLink RX9 9 "RopeScale$Walk" "weight" "[I") (List.mem_of_getElem? (i := 1) rfl)) (fun _ h9 => h9) rfl dX9_changeWeight_1 ?_
  refine lv_iload_n hx hb dX9_changeWeight_4 rfl (lv_at hl 1 rfl) ?_
  refine lv_aload_n hx hb dX9_changeWeight_5 rfl (lv_at hl 0 rfl) ?_
  refine va_get (D := D) (ci := 9) (v := .ref (a 0)) (C := RX9) (T := TX9) (N := 8) hx hb hts hinX9 hown hK.1 hP 0 rfl rfl 0 (by decide) (hts (.fieldLink RX9 9 "RopeScale$Walk" "weight" "[I") (List.mem_of_getElem? (i := 1) rfl)) (fun _ h9 => h9) rfl dX9_changeWeight_6 ?_
  refine lv_iload_n hx hb dX9_changeWeight_9 rfl (lv_at hl 1 rfl) ?_
  obtain ⟨h4, hf⟩ := gd_e hf
  refine va_iald hx hb hK.1 hP 1 0 rfl rfl h4 dX9_changeWeight_10 ?_
  refine lv_iload_n hx hb dX9_changeWeight_11 rfl (lv_at hl 2 rfl) ?_
  refine lv_iadd hx hb dX9_changeWeight_12 ?_
  refine lv_iconst (v := 1) hx hb dX9_changeWeight_13 (by decide) ?_
  refine lv_sipush (v := 999) hx hb dX9_changeWeight_14 (by decide) ?_
  obtain ⟨z1, hz1, hf⟩ := lett_e hf
  refine cNR (As := [.int ((u 0 (ix p1)) + p2), .int 1, .int 999]) (rest := [.int p1, .ref (a 0)]) ⟨hx, hb, hml, hown, hts⟩ (mX11_bounded l D T ((u 0 (ix p1)) + p2) 1 999 z1 hz1.symm) ⟨va_cnB (host := "RopeScale") (index := 58) 3 hts gX9_changeWeight_X11_bounded_n58 rfl rfl rfl (hK.2 _ (List.mem_of_getElem? (i := 14) rfl)) (hts (.initialized RX11) (List.mem_of_getElem? (i := 3) rfl)) (by decide +kernel) ⟨Nat.le_of_ble_eq_true rfl, Nat.le_of_ble_eq_true rfl⟩, (hts (.static yX11_bounded) (List.mem_of_getElem? (i := 2) rfl)), trivial⟩ P0 hK rfl hl.1 rfl (Nat.le_of_ble_eq_true rfl) dX9_changeWeight_17 ⟨Nat.le_of_ble_eq_true rfl, Nat.le_of_ble_eq_true rfl⟩ hP hS (fun H locs hP hS => ?_)
  obtain ⟨h3, hf⟩ := gd_e hf
  obtain ⟨u2, eu2, hf⟩ := lett_e hf
  refine va_iast hx hb hK.1 hP hD hS 1 0 rfl rfl h3 dX9_changeWeight_20 (fun H locs hP hD hS => ?_)
  have hP : va_P D vwCl (kX9 T h a u2) H := by rw [eu2]; exact hP
  have hD : va_D (va_A (kX9 T h a u) s.heap.size) (kX9 T h a u2) := by rw [eu2]; exact hD
  have e9 := Option.some.inj hf
  exact retMv hx hb hr hlocks hP hD hS (congrArg (fun z => (kX9 T h a z : va_W)) e9) dX9_changeWeight_21
def bX4_carryOut_L2 (u : St)  (lp2 : St → Int32 → Option (St)) (vw : St) (x2 : Int32) : Option (St) := if (u 3 0) ≤ x2 then some vw else gd x2 20 <| lett (u 0 (ix x2)) fun t2 => gd x2 20 <| if (u 1 (ix x2)) = 43 then gd x2 20 <| (fX9_changeWeight vw t2 (u 2 (ix x2))).bind fun z4 => lett (x2 + 1) fun t5 => lp2 z4 t5 else if (u 1 (ix x2)) = 45 then gd x2 20 <| (fX9_changeWeight vw t2 (-(u 2 (ix x2)))).bind fun z8 => lett (x2 + 1) fun t9 => lp2 z8 t9 else if (u 1 (ix x2)) = 61 then gd x2 20 <| gd t2 16 <| lett (st vw 0 (ix t2) (u 2 (ix x2))) fun u12 => lett (x2 + 1) fun t13 => lp2 u12 t13 else if (u 1 (ix x2)) = 62 then lett (st vw 5 0 ((vw 5 0) ||| (jshl 1 t2))) fun u17 => lett (x2 + 1) fun t18 => lp2 u17 t18 else if (u 1 (ix x2)) = 63 then gd x2 20 <| gd t2 16 <| lett (st vw 1 (ix t2) (u 2 (ix x2))) fun u20 => lett (x2 + 1) fun t21 => lp2 u20 t21 else lett (st vw 5 0 ((vw 5 0) &&& ((jshl 1 t2) ^^^ (-1)))) fun u24 => lett (x2 + 1) fun t25 => lp2 u24 t25
def fX4_carryOut_L2 (u : St)  : Nat → St → Int32 → Option (St)
  | 0, _, _ => none
  | n + 1, vw, x2 => bX4_carryOut_L2 u (fX4_carryOut_L2 u n) vw x2
def fX4_carryOut  (u : St) (uw : St)  : Option (St) := fX4_carryOut_L2 u FU uw 0
set_option maxHeartbeats 4000000 in
set_option maxRecDepth 100000 in
theorem mX4_carryOut (l : Launch) (D : va_G) (T : Ty3) (h : Nat) (a : Nat → Nat) (u : St) (hw : Nat) (aw : Nat → Nat) (uw : St) (sz : Nat)  (res : St) (hf : fX4_carryOut u uw = some res) : Met l yX4_carryOut wsX4_carryOut ({ frames := 3, cells := 0, slots := 0, locals := 58 }) (PcM D T (kX4 T h a u ++ kX9 T hw aw uw) sz [.ref h, .ref hw]) (QMv D (kX4 T h a u ++ kX9 T hw aw uw) sz (kX4 T h a u ++ kX9 T hw aw res)) 0 0 (va_A (kX4 T h a u ++ kX9 T hw aw uw) sz) := by
  refine Met.ofW (cc := cX4_carryOut) (maxL := 4) (ret := none) (by decide) rfl ?_
  intro p e s m args below meth c s₁ B hml hv
  obtain ⟨rfl, hsz, hP, hK, hD0⟩ := hv
  have hx := B.exec
  have hb := B.bytes
  have hr := B.returns
  have hts := atoms_spec (ws := wsX4_carryOut) B.pre
  have hown : s.vm.findClass RX4 = some m.cls := findClass_of_methodNamed B.named
  have hlocks := B.notSynchronized
  subst hsz
  have hD := hD0.self (sz := s.heap.size)
  have hA : ∀ q : Nat, s.heap.size ≤ q → va_A (kX4 T h a u ++ kX9 T hw aw uw) s.heap.size q := fun q h => Or.inr h
  have hS : va_S (va_A (kX4 T h a u ++ kX9 T hw aw uw) s.heap.size) s.heap s.heap [] := va_S.rf
  have hinX4 : ∀ w ∈ u_ws RX4 TX4 4, w ∈ wsX4_carryOut := fun w h => List.mem_cons_of_mem _ (List.mem_append_left _ (List.mem_append_right _ h))
  have hinX9 : ∀ w ∈ u_ws RX9 TX9 8, w ∈ wsX4_carryOut := fun w h => List.mem_cons_of_mem _ (List.mem_append_right _ h)
  have hl := lv_entry ([.ref h, .ref hw]) (n := 4) (Nat.le_of_ble_eq_true rfl)
  rw [lg_entry_eq]
  generalize (lg_sl ([.ref h, .ref hw]) ++ List.replicate (4 - (lg_sl ([.ref h, .ref hw])).length) Slot.unset).toArray = ls at hl ⊢
  have hl : lv_has ls 4 [(0, .ref h), (1, .ref hw)] := hl
  have L2 : ∀ (n2 : Nat), ∀ (vw : St) (x2 : Int32) (H : Heap) (locs : List Loc) (ls : Array Slot), fX4_carryOut_L2 u n2 vw x2 = some res → va_P D vwCl (kX4 T h a u ++ kX9 T hw aw vw) H → va_D (va_A (kX4 T h a u ++ kX9 T hw aw uw) s.heap.size) (kX4 T h a u ++ kX9 T hw aw vw) → va_S (va_A (kX4 T h a u ++ kX9 T hw aw uw) s.heap.size) s.heap H locs → lv_has ls 4 [(0, .ref h), (1, .ref hw), (2, .int x2)] → W p l e (headSpec wsX4_carryOut ({ frames := 3, cells := 0, slots := 0, locals := 58 })).room s m ([.ref h, .ref hw] : List Value).toArray below meth c H locs 0 0 (MQ below (QMv D (kX4 T h a u ++ kX9 T hw aw uw) s.heap.size (kX4 T h a u ++ kX9 T hw aw res)) ([.ref h, .ref hw] : List Value).toArray s 0 0 (va_A (kX4 T h a u ++ kX9 T hw aw uw) s.heap.size)) (F0 m 2 ls []) := by
    intro n2
    induction n2 with
    | zero => intro vw x2 H locs ls hf; exact nns hf
    | succ n2 ih2 =>
      intro vw x2 H locs ls hf hP hD hS hl
      replace hf : bX4_carryOut_L2 u (fX4_carryOut_L2 u n2) vw x2 = some res := hf
      unfold bX4_carryOut_L2 at hf
      refine lv_iload_n hx hb dX4_carryOut_2 rfl (lv_at hl 2 rfl) ?_
      refine lv_aload_n hx hb dX4_carryOut_3 rfl (lv_at hl 0 rfl) ?_
      refine va_get (D := D) (ci := 4) (v := .int (u 3 0)) (C := RX4) (T := TX4) (N := 4) hx hb hts hinX4 hown hK.1 hP 0 rfl rfl 3 (by decide) (hts (.fieldLink RX4 21 "RopeScale$Orders" "lines" "I") (List.mem_of_getElem? (i := 1) rfl)) (fun _ h9 => h9) rfl dX4_carryOut_4 ?_
      refine lv_icmp_ge (tgt := 166) hx hb dX4_carryOut_7 (by decide) (fun c1 => ?_) (fun c1 => ?_)
      · replace hf := ifp c1 hf
        have e9 := Option.some.inj hf
        exact retMv hx hb hr hlocks hP hD hS (congrArg (fun z => (kX4 T h a u ++ kX9 T hw aw z : va_W)) e9) dX4_carryOut_166
      replace hf := ifn c1 hf
      refine lv_aload_n hx hb dX4_carryOut_10 rfl (lv_at hl 0 rfl) ?_
      refine va_get (D := D) (ci := 4) (v := .ref (a 0)) (C := RX4) (T := TX4) (N := 4) hx hb hts hinX4 hown hK.1 hP 0 rfl rfl 0 (by decide) (hts (.fieldLink RX4 11 "RopeScale$Orders" "who" "[I") (List.mem_of_getElem? (i := 2) rfl)) (fun _ h9 => h9) rfl dX4_carryOut_11 ?_
      refine lv_iload_n hx hb dX4_carryOut_14 rfl (lv_at hl 2 rfl) ?_
      obtain ⟨h27, hf⟩ := gd_e hf
      refine va_iald hx hb hK.1 hP 1 0 rfl rfl h27 dX4_carryOut_15 ?_
      obtain ⟨t2, et2, hf⟩ := lett_e hf
      refine lv_eqi et2 ?_
      refine lv_istore_n (lv' := [(3, .int t2), (0, .ref h), (1, .ref hw), (2, .int x2)]) hx hb dX4_carryOut_16 rfl hl (by decide) rfl (fun ls hl => ?_)
      refine lv_aload_n hx hb dX4_carryOut_17 rfl (lv_at hl 1 rfl) ?_
      refine va_get (D := D) (ci := 4) (v := .ref (a 1)) (C := RX4) (T := TX4) (N := 4) hx hb hts hinX4 hown hK.1 hP 0 rfl rfl 1 (by decide) (hts (.fieldLink RX4 15 "RopeScale$Orders" "deed" "[I") (List.mem_of_getElem? (i := 3) rfl)) (fun _ h9 => h9) rfl dX4_carryOut_18 ?_
      refine lv_iload_n hx hb dX4_carryOut_21 rfl (lv_at hl 3 rfl) ?_
      obtain ⟨h26, hf⟩ := gd_e hf
      refine va_iald hx hb hK.1 hP 2 0 rfl rfl h26 dX4_carryOut_22 ?_
      by_cases c3 : (u 1 (ix x2)) = 43
      · replace hf := ifp c3 hf
        refine lv_lookup (off := 79) (tgt := 102) hx hb dX4_carryOut_23 (by decide) (by rw [c3]; rfl) (by decide) ?_
        refine lv_aload_n hx hb dX4_carryOut_102 rfl (lv_at hl 2 rfl) ?_
        refine lv_iload_n hx hb dX4_carryOut_103 rfl (lv_at hl 0 rfl) ?_
        refine lv_aload_n hx hb dX4_carryOut_104 rfl (lv_at hl 1 rfl) ?_
        refine va_get (D := D) (ci := 4) (v := .ref (a 2)) (C := RX4) (T := TX4) (N := 4) hx hb hts hinX4 hown hK.1 hP 0 rfl rfl 2 (by decide) (hts (.fieldLink RX4 18 "RopeScale$Orders" "number" "[I") (List.mem_of_getElem? (i := 5) rfl)) (fun _ h9 => h9) rfl dX4_carryOut_105 ?_
        refine lv_iload_n hx hb dX4_carryOut_108 rfl (lv_at hl 3 rfl) ?_
        obtain ⟨h6, hf⟩ := gd_e hf
        refine va_iald hx hb hK.1 hP 3 0 rfl rfl h6 dX4_carryOut_109 ?_
        obtain ⟨z4, hz4, hf⟩ := bnd hf
        have hPc := hP.sub (ws' := kX9 T hw aw vw) [4, 5, 6, 7, 8] rfl
        have hDc := hD.sub (ws' := kX9 T hw aw vw) [4, 5, 6, 7, 8] (by decide) rfl
        have hFc9 := va_free (wc := kX9 T hw aw vw) hD hS hA [4, 5, 6, 7, 8] rfl
        refine cVMv (As := [.int t2, .int (u 2 (ix x2))]) (rest := []) ⟨hx, hb, hml, hown, hts⟩ (mX9_changeWeight l D T hw aw vw _ t2 (u 2 (ix x2)) z4 hz4) (cwV 2 hts gX4_carryOut_X9_changeWeight rfl rfl rfl (by decide +kernel) ⟨Nat.le_of_ble_eq_true rfl, Nat.le_of_ble_eq_true rfl⟩) (va_recv hK.1 hP (ci := 9) (q0 := 4) rfl rfl) hPc hK rfl hl.1 rfl (Nat.le_of_ble_eq_true rfl) dX4_carryOut_110 ⟨Nat.le_of_ble_eq_true rfl, Nat.le_of_ble_eq_true rfl⟩ hDc hFc9 hS (fun H9 locs hP1 hD1 hk1 hS => ?_)
        obtain ⟨hP, hD⟩ := putAll_P (w1 := kX9 T hw aw z4) hP hD [4, 5, 6, 7, 8] rfl (by decide) hk1 hP1 rfl
        generalize H9 = H at hP hS ⊢
        have hP : va_P D vwCl (kX4 T h a u ++ kX9 T hw aw z4) H := by exact hP
        have hD : va_D (va_A (kX4 T h a u ++ kX9 T hw aw uw) s.heap.size) (kX4 T h a u ++ kX9 T hw aw z4) := by exact hD
        refine lv_goto (tgt := 160) hx hb dX4_carryOut_113 (by decide) ?_
        obtain ⟨t5, et5, hf⟩ := lett_e hf
        refine lv_iinc (v := t5) (lv' := [(2, .int t5), (3, .int t2), (0, .ref h), (1, .ref hw)]) hx hb dX4_carryOut_160 hl (k := 3) rfl (by rw [et5]; rfl) (by decide) rfl (fun ls hl => ?_)
        refine lv_goto (tgt := 2) hx hb dX4_carryOut_163 (by decide) ?_
        exact ih2 z4 t5 _ _ _ hf hP hD hS (lv_sub hl [2, 3, 0] rfl)
      replace hf := ifn c3 hf
      by_cases c7 : (u 1 (ix x2)) = 45
      · replace hf := ifp c7 hf
        refine lv_lookup (off := 93) (tgt := 116) hx hb dX4_carryOut_23 (by decide) (by rw [c7]; rfl) (by decide) ?_
        refine lv_aload_n hx hb dX4_carryOut_116 rfl (lv_at hl 2 rfl) ?_
        refine lv_iload_n hx hb dX4_carryOut_117 rfl (lv_at hl 0 rfl) ?_
        refine lv_aload_n hx hb dX4_carryOut_118 rfl (lv_at hl 1 rfl) ?_
        refine va_get (D := D) (ci := 4) (v := .ref (a 2)) (C := RX4) (T := TX4) (N := 4) hx hb hts hinX4 hown hK.1 hP 0 rfl rfl 2 (by decide) (hts (.fieldLink RX4 18 "RopeScale$Orders" "number" "[I") (List.mem_of_getElem? (i := 5) rfl)) (fun _ h9 => h9) rfl dX4_carryOut_119 ?_
        refine lv_iload_n hx hb dX4_carryOut_122 rfl (lv_at hl 3 rfl) ?_
        obtain ⟨h10, hf⟩ := gd_e hf
        refine va_iald hx hb hK.1 hP 3 0 rfl rfl h10 dX4_carryOut_123 ?_
        refine lv_ineg hx hb dX4_carryOut_124 ?_
        obtain ⟨z8, hz8, hf⟩ := bnd hf
        have hPc := hP.sub (ws' := kX9 T hw aw vw) [4, 5, 6, 7, 8] rfl
        have hDc := hD.sub (ws' := kX9 T hw aw vw) [4, 5, 6, 7, 8] (by decide) rfl
        have hFc9 := va_free (wc := kX9 T hw aw vw) hD hS hA [4, 5, 6, 7, 8] rfl
        refine cVMv (As := [.int t2, .int (-(u 2 (ix x2)))]) (rest := []) ⟨hx, hb, hml, hown, hts⟩ (mX9_changeWeight l D T hw aw vw _ t2 (-(u 2 (ix x2))) z8 hz8) (cwV 2 hts gX4_carryOut_X9_changeWeight rfl rfl rfl (by decide +kernel) ⟨Nat.le_of_ble_eq_true rfl, Nat.le_of_ble_eq_true rfl⟩) (va_recv hK.1 hP (ci := 9) (q0 := 4) rfl rfl) hPc hK rfl hl.1 rfl (Nat.le_of_ble_eq_true rfl) dX4_carryOut_125 ⟨Nat.le_of_ble_eq_true rfl, Nat.le_of_ble_eq_true rfl⟩ hDc hFc9 hS (fun H9 locs hP1 hD1 hk1 hS => ?_)
        obtain ⟨hP, hD⟩ := putAll_P (w1 := kX9 T hw aw z8) hP hD [4, 5, 6, 7, 8] rfl (by decide) hk1 hP1 rfl
        generalize H9 = H at hP hS ⊢
        have hP : va_P D vwCl (kX4 T h a u ++ kX9 T hw aw z8) H := by exact hP
        have hD : va_D (va_A (kX4 T h a u ++ kX9 T hw aw uw) s.heap.size) (kX4 T h a u ++ kX9 T hw aw z8) := by exact hD
        refine lv_goto (tgt := 160) hx hb dX4_carryOut_128 (by decide) ?_
        obtain ⟨t9, et9, hf⟩ := lett_e hf
        refine lv_iinc (v := t9) (lv' := [(2, .int t9), (3, .int t2), (0, .ref h), (1, .ref hw)]) hx hb dX4_carryOut_160 hl (k := 3) rfl (by rw [et9]; rfl) (by decide) rfl (fun ls hl => ?_)
        refine lv_goto (tgt := 2) hx hb dX4_carryOut_163 (by decide) ?_
        exact ih2 z8 t9 _ _ _ hf hP hD hS (lv_sub hl [2, 3, 0] rfl)
      replace hf := ifn c7 hf
      by_cases c11 : (u 1 (ix x2)) = 61
      · replace hf := ifp c11 hf
        refine lv_lookup (off := 49) (tgt := 72) hx hb dX4_carryOut_23 (by decide) (by rw [c11]; rfl) (by decide) ?_
        refine lv_aload_n hx hb dX4_carryOut_72 rfl (lv_at hl 2 rfl) ?_
        refine va_get (D := D) (ci := 9) (v := .ref (aw 0)) (C := RX9) (T := TX9) (N := 8) hx hb hts hinX9 hown hK.1 hP 4 rfl rfl 0 (by decide) (hts (.fieldLink RX4 68 "RopeScale$Walk" "weight" "[I") (List.mem_of_getElem? (i := 4) rfl)) (fun _ h9 => h9) rfl dX4_carryOut_73 ?_
        refine lv_iload_n hx hb dX4_carryOut_76 rfl (lv_at hl 0 rfl) ?_
        refine lv_aload_n hx hb dX4_carryOut_77 rfl (lv_at hl 1 rfl) ?_
        refine va_get (D := D) (ci := 4) (v := .ref (a 2)) (C := RX4) (T := TX4) (N := 4) hx hb hts hinX4 hown hK.1 hP 0 rfl rfl 2 (by decide) (hts (.fieldLink RX4 18 "RopeScale$Orders" "number" "[I") (List.mem_of_getElem? (i := 5) rfl)) (fun _ h9 => h9) rfl dX4_carryOut_78 ?_
        refine lv_iload_n hx hb dX4_carryOut_81 rfl (lv_at hl 3 rfl) ?_
        obtain ⟨h15, hf⟩ := gd_e hf
        refine va_iald hx hb hK.1 hP 3 0 rfl rfl h15 dX4_carryOut_82 ?_
        obtain ⟨h14, hf⟩ := gd_e hf
        obtain ⟨u12, eu12, hf⟩ := lett_e hf
        refine va_iast hx hb hK.1 hP hD hS 5 0 rfl rfl h14 dX4_carryOut_83 (fun H locs hP hD hS => ?_)
        have hP : va_P D vwCl (kX4 T h a u ++ kX9 T hw aw u12) H := by rw [eu12]; exact hP
        have hD : va_D (va_A (kX4 T h a u ++ kX9 T hw aw uw) s.heap.size) (kX4 T h a u ++ kX9 T hw aw u12) := by rw [eu12]; exact hD
        refine lv_goto (tgt := 160) hx hb dX4_carryOut_84 (by decide) ?_
        obtain ⟨t13, et13, hf⟩ := lett_e hf
        refine lv_iinc (v := t13) (lv' := [(2, .int t13), (3, .int t2), (0, .ref h), (1, .ref hw)]) hx hb dX4_carryOut_160 hl (k := 3) rfl (by rw [et13]; rfl) (by decide) rfl (fun ls hl => ?_)
        refine lv_goto (tgt := 2) hx hb dX4_carryOut_163 (by decide) ?_
        exact ih2 u12 t13 _ _ _ hf hP hD hS (lv_sub hl [2, 3, 0] rfl)
      replace hf := ifn c11 hf
      by_cases c16 : (u 1 (ix x2)) = 62
      · replace hf := ifp c16 hf
        refine lv_lookup (off := 108) (tgt := 131) hx hb dX4_carryOut_23 (by decide) (by rw [c16]; rfl) (by decide) ?_
        refine lv_aload_n hx hb dX4_carryOut_131 rfl (lv_at hl 2 rfl) ?_
        refine lv_dup hx hb dX4_carryOut_132 rfl ?_
        refine va_get (D := D) (ci := 9) (v := .int (vw 5 0)) (C := RX9) (T := TX9) (N := 8) hx hb hts hinX9 hown hK.1 hP 4 rfl rfl 5 (by decide) (hts (.fieldLink RX4 79 "RopeScale$Walk" "over" "I") (List.mem_of_getElem? (i := 7) rfl)) (fun _ h9 => h9) rfl dX4_carryOut_133 ?_
        refine lv_iconst (v := 1) hx hb dX4_carryOut_136 (by decide) ?_
        refine lv_iload_n hx hb dX4_carryOut_137 rfl (lv_at hl 0 rfl) ?_
        refine lv_ishl hx hb dX4_carryOut_138 ?_
        refine lv_ior hx hb dX4_carryOut_139 ?_
        obtain ⟨u17, eu17, hf⟩ := lett_e hf
        refine va_put (D := D) (ci := 9) (v := .int ((vw 5 0) ||| (jshl 1 t2))) (ty := .int) (C := RX9) (T := TX9) (N := 8) hx hb hts hinX9 tyX9 tyX9_ok nmX9 hown hK.1 hP hD hS 4 rfl rfl 5 (by decide) (hts (.fieldLink RX4 79 "RopeScale$Walk" "over" "I") (List.mem_of_getElem? (i := 7) rfl)) (fun _ h9 => h9) rfl (tyX9_ok 5 (by decide)) rfl rfl (Nat.le_of_ble_eq_true rfl) dX4_carryOut_140 (fun H locs hP hD hS => ?_)
        have hP : va_P D vwCl (kX4 T h a u ++ kX9 T hw aw u17) H := by rw [eu17]; exact hP
        have hD : va_D (va_A (kX4 T h a u ++ kX9 T hw aw uw) s.heap.size) (kX4 T h a u ++ kX9 T hw aw u17) := by rw [eu17]; exact hD
        refine lv_goto (tgt := 160) hx hb dX4_carryOut_143 (by decide) ?_
        obtain ⟨t18, et18, hf⟩ := lett_e hf
        refine lv_iinc (v := t18) (lv' := [(2, .int t18), (3, .int t2), (0, .ref h), (1, .ref hw)]) hx hb dX4_carryOut_160 hl (k := 3) rfl (by rw [et18]; rfl) (by decide) rfl (fun ls hl => ?_)
        refine lv_goto (tgt := 2) hx hb dX4_carryOut_163 (by decide) ?_
        exact ih2 u17 t18 _ _ _ hf hP hD hS (lv_sub hl [2, 3, 0] rfl)
      replace hf := ifn c16 hf
      by_cases c19 : (u 1 (ix x2)) = 63
      · replace hf := ifp c19 hf
        refine lv_lookup (off := 64) (tgt := 87) hx hb dX4_carryOut_23 (by decide) (by rw [c19]; rfl) (by decide) ?_
        refine lv_aload_n hx hb dX4_carryOut_87 rfl (lv_at hl 2 rfl) ?_
        refine va_get (D := D) (ci := 9) (v := .ref (aw 1)) (C := RX9) (T := TX9) (N := 8) hx hb hts hinX9 hown hK.1 hP 4 rfl rfl 1 (by decide) (hts (.fieldLink RX4 73 "RopeScale$Walk" "claim" "[I") (List.mem_of_getElem? (i := 6) rfl)) (fun _ h9 => h9) rfl dX4_carryOut_88 ?_
        refine lv_iload_n hx hb dX4_carryOut_91 rfl (lv_at hl 0 rfl) ?_
        refine lv_aload_n hx hb dX4_carryOut_92 rfl (lv_at hl 1 rfl) ?_
        refine va_get (D := D) (ci := 4) (v := .ref (a 2)) (C := RX4) (T := TX4) (N := 4) hx hb hts hinX4 hown hK.1 hP 0 rfl rfl 2 (by decide) (hts (.fieldLink RX4 18 "RopeScale$Orders" "number" "[I") (List.mem_of_getElem? (i := 5) rfl)) (fun _ h9 => h9) rfl dX4_carryOut_93 ?_
        refine lv_iload_n hx hb dX4_carryOut_96 rfl (lv_at hl 3 rfl) ?_
        obtain ⟨h23, hf⟩ := gd_e hf
        refine va_iald hx hb hK.1 hP 3 0 rfl rfl h23 dX4_carryOut_97 ?_
        obtain ⟨h22, hf⟩ := gd_e hf
        obtain ⟨u20, eu20, hf⟩ := lett_e hf
        refine va_iast hx hb hK.1 hP hD hS 6 0 rfl rfl h22 dX4_carryOut_98 (fun H locs hP hD hS => ?_)
        have hP : va_P D vwCl (kX4 T h a u ++ kX9 T hw aw u20) H := by rw [eu20]; exact hP
        have hD : va_D (va_A (kX4 T h a u ++ kX9 T hw aw uw) s.heap.size) (kX4 T h a u ++ kX9 T hw aw u20) := by rw [eu20]; exact hD
        refine lv_goto (tgt := 160) hx hb dX4_carryOut_99 (by decide) ?_
        obtain ⟨t21, et21, hf⟩ := lett_e hf
        refine lv_iinc (v := t21) (lv' := [(2, .int t21), (3, .int t2), (0, .ref h), (1, .ref hw)]) hx hb dX4_carryOut_160 hl (k := 3) rfl (by rw [et21]; rfl) (by decide) rfl (fun ls hl => ?_)
        refine lv_goto (tgt := 2) hx hb dX4_carryOut_163 (by decide) ?_
        exact ih2 u20 t21 _ _ _ hf hP hD hS (lv_sub hl [2, 3, 0] rfl)
      replace hf := ifn c19 hf
      refine lv_lookup (off := 123) (tgt := 146) hx hb dX4_carryOut_23 (by decide) (by show Op.lookupswitch.offset [(43, 79), (45, 93), (61, 49), (62, 108), (63, 64)] 123 (u 1 (ix x2)).toInt = _; rw [lv_osw c3 (by decide), lv_osw c7 (by decide), lv_osw c11 (by decide), lv_osw c16 (by decide), lv_osw c19 (by decide)]; rfl) (by decide) ?_
      refine lv_aload_n hx hb dX4_carryOut_146 rfl (lv_at hl 2 rfl) ?_
      refine lv_dup hx hb dX4_carryOut_147 rfl ?_
      refine va_get (D := D) (ci := 9) (v := .int (vw 5 0)) (C := RX9) (T := TX9) (N := 8) hx hb hts hinX9 hown hK.1 hP 4 rfl rfl 5 (by decide) (hts (.fieldLink RX4 79 "RopeScale$Walk" "over" "I") (List.mem_of_getElem? (i := 7) rfl)) (fun _ h9 => h9) rfl dX4_carryOut_148 ?_
      refine lv_iconst (v := 1) hx hb dX4_carryOut_151 (by decide) ?_
      refine lv_iload_n hx hb dX4_carryOut_152 rfl (lv_at hl 0 rfl) ?_
      refine lv_ishl hx hb dX4_carryOut_153 ?_
      refine lv_iconst (v := (-1)) hx hb dX4_carryOut_154 (by decide) ?_
      refine lv_ixor hx hb dX4_carryOut_155 ?_
      refine lv_iand hx hb dX4_carryOut_156 ?_
      obtain ⟨u24, eu24, hf⟩ := lett_e hf
      refine va_put (D := D) (ci := 9) (v := .int ((vw 5 0) &&& ((jshl 1 t2) ^^^ (-1)))) (ty := .int) (C := RX9) (T := TX9) (N := 8) hx hb hts hinX9 tyX9 tyX9_ok nmX9 hown hK.1 hP hD hS 4 rfl rfl 5 (by decide) (hts (.fieldLink RX4 79 "RopeScale$Walk" "over" "I") (List.mem_of_getElem? (i := 7) rfl)) (fun _ h9 => h9) rfl (tyX9_ok 5 (by decide)) rfl rfl (Nat.le_of_ble_eq_true rfl) dX4_carryOut_157 (fun H locs hP hD hS => ?_)
      have hP : va_P D vwCl (kX4 T h a u ++ kX9 T hw aw u24) H := by rw [eu24]; exact hP
      have hD : va_D (va_A (kX4 T h a u ++ kX9 T hw aw uw) s.heap.size) (kX4 T h a u ++ kX9 T hw aw u24) := by rw [eu24]; exact hD
      obtain ⟨t25, et25, hf⟩ := lett_e hf
      refine lv_iinc (v := t25) (lv' := [(2, .int t25), (3, .int t2), (0, .ref h), (1, .ref hw)]) hx hb dX4_carryOut_160 hl (k := 3) rfl (by rw [et25]; rfl) (by decide) rfl (fun ls hl => ?_)
      refine lv_goto (tgt := 2) hx hb dX4_carryOut_163 (by decide) ?_
      exact ih2 u24 t25 _ _ _ hf hP hD hS (lv_sub hl [2, 3, 0] rfl)
  unfold fX4_carryOut at hf
  refine lv_iconst (v := 0) hx hb dX4_carryOut_0 (by decide) ?_
  refine lv_istore_n (lv' := [(2, .int 0), (0, .ref h), (1, .ref hw)]) hx hb dX4_carryOut_1 rfl hl (by decide) rfl (fun ls hl => ?_)
  exact L2 FU uw 0 _ _ _ hf hP hD hS (lv_sub hl [1, 2, 0] rfl)
def fX8_clear  (u : St)  : (St) := lett (st u 1 0 0) fun u1 => u1
set_option maxHeartbeats 4000000 in
set_option maxRecDepth 100000 in
theorem mX8_clear (l : Launch) (D : va_G) (T : Ty3) (h : Nat) (a : Nat → Nat) (u : St) (sz : Nat)  (res : St) (hf : fX8_clear u = res) : Met l yX8_clear wsX8_clear ({ frames := 0, cells := 0, slots := 0, locals := 0 }) (PcM D T (kX8 T h a u) sz [.ref h]) (QMv D (kX8 T h a u) sz (kX8 T h a res)) 0 0 (va_A (kX8 T h a u) sz) := by
  refine Met.ofW (cc := cX8_clear) (maxL := 1) (ret := none) (by decide) rfl ?_
  intro p e s m args below meth c s₁ B hml hv
  obtain ⟨rfl, hsz, hP, hK, hD0⟩ := hv
  have hx := B.exec
  have hb := B.bytes
  have hr := B.returns
  have hts := atoms_spec (ws := wsX8_clear) B.pre
  have hown : s.vm.findClass RX8 = some m.cls := findClass_of_methodNamed B.named
  have hlocks := B.notSynchronized
  subst hsz
  have hD := hD0.self (sz := s.heap.size)
  have hA : ∀ q : Nat, s.heap.size ≤ q → va_A (kX8 T h a u) s.heap.size q := fun q h => Or.inr h
  have hS : va_S (va_A (kX8 T h a u) s.heap.size) s.heap s.heap [] := va_S.rf
  have hinX8 : ∀ w ∈ u_ws RX8 TX8 2, w ∈ wsX8_clear := fun w h => List.mem_cons_of_mem _ (List.mem_append_right _ h)
  have hl := lv_entry ([.ref h]) (n := 1) (Nat.le_of_ble_eq_true rfl)
  rw [lg_entry_eq]
  generalize (lg_sl ([.ref h]) ++ List.replicate (1 - (lg_sl ([.ref h])).length) Slot.unset).toArray = ls at hl ⊢
  have hl : lv_has ls 1 [(0, .ref h)] := hl
  unfold fX8_clear at hf
  refine lv_aload_n hx hb dX8_clear_0 rfl (lv_at hl 0 rfl) ?_
  refine lv_iconst (v := 0) hx hb dX8_clear_1 (by decide) ?_
  obtain ⟨u1, eu1, hf⟩ := lett_e hf
  refine va_put (D := D) (ci := 8) (v := .int 0) (ty := .int) (C := RX8) (T := TX8) (N := 2) hx hb hts hinX8 tyX8 tyX8_ok nmX8 hown hK.1 hP hD hS 0 rfl rfl 1 (by decide) (hts (.fieldLink RX8 15 "RopeScale$Tape" "length" "I") (List.mem_of_getElem? (i := 1) rfl)) (fun _ h9 => h9) rfl (tyX8_ok 1 (by decide)) rfl rfl (Nat.le_of_ble_eq_true rfl) dX8_clear_2 (fun H locs hP hD hS => ?_)
  have hP : va_P D vwCl (kX8 T h a u1) H := by rw [eu1]; exact hP
  have hD : va_D (va_A (kX8 T h a u) s.heap.size) (kX8 T h a u1) := by rw [eu1]; exact hD
  have e9 := hf
  exact retMv hx hb hr hlocks hP hD hS (congrArg (fun z => (kX8 T h a z : va_W)) e9) dX8_clear_5
def bX5_take_L12   (lp12 : St → St → Int32 → Option (St × St)) (v : St) (vtp : St) (x3 : Int32) : Option (St × St) := if (v 3 0) ≤ x3 then lett (fX8_clear vtp) fun z2 => some (v, z2) else (fX8_at vtp x3).bind fun z3 => gd x3 16 <| lett (st v 0 (ix x3) z3) fun u4 => lett (x3 + 1) fun t5 => lp12 u4 vtp t5
def fX5_take_L12   : Nat → St → St → Int32 → Option (St × St)
  | 0, _, _, _ => none
  | n + 1, v, vtp, x3 => bX5_take_L12  (fX5_take_L12  n) v vtp x3
def fX5_take  (u : St) (utp : St) (p2 : Int32) : Option (St × St) := lett (st u 3 0 (mn p2 16)) fun u7 => fX5_take_L12 FU u7 utp 0
set_option maxHeartbeats 4000000 in
set_option maxRecDepth 100000 in
theorem mX5_take (l : Launch) (D : va_G) (T : Ty3) (h : Nat) (a : Nat → Nat) (u : St) (htp : Nat) (atp : Nat → Nat) (utp : St) (sz : Nat) (p2 : Int32) (res : St × St) (hf : fX5_take u utp p2 = some res) : Met l yX5_take wsX5_take ({ frames := 1, cells := 0, slots := 0, locals := 21 }) (PcM D T (kX5 T h a u ++ kX8 T htp atp utp) sz [.ref h, .ref htp, .int p2]) (QMv D (kX5 T h a u ++ kX8 T htp atp utp) sz (kX5 T h a res.1 ++ kX8 T htp atp res.2)) 0 0 (va_A (kX5 T h a u ++ kX8 T htp atp utp) sz) := by
  refine Met.ofW (cc := cX5_take) (maxL := 4) (ret := none) (by decide) rfl ?_
  intro p e s m args below meth c s₁ B hml hv
  obtain ⟨rfl, hsz, hP, hK, hD0⟩ := hv
  have hx := B.exec
  have hb := B.bytes
  have hr := B.returns
  have hts := atoms_spec (ws := wsX5_take) B.pre
  have hown : s.vm.findClass RX5 = some m.cls := findClass_of_methodNamed B.named
  have hlocks := B.notSynchronized
  subst hsz
  have hD := hD0.self (sz := s.heap.size)
  have hA : ∀ q : Nat, s.heap.size ≤ q → va_A (kX5 T h a u ++ kX8 T htp atp utp) s.heap.size q := fun q h => Or.inr h
  have hS : va_S (va_A (kX5 T h a u ++ kX8 T htp atp utp) s.heap.size) s.heap s.heap [] := va_S.rf
  have hinX5 : ∀ w ∈ u_ws RX5 TX5 5, w ∈ wsX5_take := fun w h => List.mem_cons_of_mem _ (List.mem_append_left _ (List.mem_append_right _ h))
  have hinX8 : ∀ w ∈ u_ws RX8 TX8 2, w ∈ wsX5_take := fun w h => List.mem_cons_of_mem _ (List.mem_append_right _ h)
  have hl := lv_entry ([.ref h, .ref htp, .int p2]) (n := 4) (Nat.le_of_ble_eq_true rfl)
  rw [lg_entry_eq]
  generalize (lg_sl ([.ref h, .ref htp, .int p2]) ++ List.replicate (4 - (lg_sl ([.ref h, .ref htp, .int p2])).length) Slot.unset).toArray = ls at hl ⊢
  have hl : lv_has ls 4 [(0, .ref h), (1, .ref htp), (2, .int p2)] := hl
  have L12 : ∀ (n12 : Nat), ∀ (v : St) (vtp : St) (x3 : Int32) (H : Heap) (locs : List Loc) (ls : Array Slot), fX5_take_L12  n12 v vtp x3 = some res → va_P D vwCl (kX5 T h a v ++ kX8 T htp atp vtp) H → va_D (va_A (kX5 T h a u ++ kX8 T htp atp utp) s.heap.size) (kX5 T h a v ++ kX8 T htp atp vtp) → va_S (va_A (kX5 T h a u ++ kX8 T htp atp utp) s.heap.size) s.heap H locs → lv_has ls 4 [(0, .ref h), (1, .ref htp), (3, .int x3)] → W p l e (headSpec wsX5_take ({ frames := 1, cells := 0, slots := 0, locals := 21 })).room s m ([.ref h, .ref htp, .int p2] : List Value).toArray below meth c H locs 0 0 (MQ below (QMv D (kX5 T h a u ++ kX8 T htp atp utp) s.heap.size (kX5 T h a res.1 ++ kX8 T htp atp res.2)) ([.ref h, .ref htp, .int p2] : List Value).toArray s 0 0 (va_A (kX5 T h a u ++ kX8 T htp atp utp) s.heap.size)) (F0 m 12 ls []) := by
    intro n12
    induction n12 with
    | zero => intro v vtp x3 H locs ls hf; exact nns hf
    | succ n12 ih12 =>
      intro v vtp x3 H locs ls hf hP hD hS hl
      replace hf : bX5_take_L12  (fX5_take_L12  n12) v vtp x3 = some res := hf
      unfold bX5_take_L12 at hf
      refine lv_iload_n hx hb dX5_take_12 rfl (lv_at hl 2 rfl) ?_
      refine lv_aload_n hx hb dX5_take_13 rfl (lv_at hl 0 rfl) ?_
      refine va_get (D := D) (ci := 5) (v := .int (v 3 0)) (C := RX5) (T := TX5) (N := 5) hx hb hts hinX5 hown hK.1 hP 0 rfl rfl 3 (by decide) (hts (.fieldLink RX5 22 "RopeScale$Pans" "size" "I") (List.mem_of_getElem? (i := 5) rfl)) (fun _ h9 => h9) rfl dX5_take_14 ?_
      refine lv_icmp_ge (tgt := 37) hx hb dX5_take_17 (by decide) (fun c1 => ?_) (fun c1 => ?_)
      · replace hf := ifp c1 hf
        refine lv_aload_n hx hb dX5_take_37 rfl (lv_at hl 1 rfl) ?_
        obtain ⟨z2, hz2, hf⟩ := lett_e hf
        have hPc := hP.sub (ws' := kX8 T htp atp vtp) [3, 4] rfl
        have hDc := hD.sub (ws' := kX8 T htp atp vtp) [3, 4] (by decide) rfl
        have hFc9 := va_free (wc := kX8 T htp atp vtp) hD hS hA [3, 4] rfl
        refine cVMv (As := []) (rest := []) ⟨hx, hb, hml, hown, hts⟩ (mX8_clear l D T htp atp vtp _ z2 hz2.symm) (cwV 0 hts gX5_take_X8_clear rfl rfl rfl (by decide +kernel) ⟨Nat.le_of_ble_eq_true rfl, Nat.le_of_ble_eq_true rfl⟩) (va_recv hK.1 hP (ci := 8) (q0 := 3) rfl rfl) hPc hK rfl hl.1 rfl (Nat.le_of_ble_eq_true rfl) dX5_take_38 ⟨Nat.le_of_ble_eq_true rfl, Nat.le_of_ble_eq_true rfl⟩ hDc hFc9 hS (fun H9 locs hP1 hD1 hk1 hS => ?_)
        obtain ⟨hP, hD⟩ := putAll_P (w1 := kX8 T htp atp z2) hP hD [3, 4] rfl (by decide) hk1 hP1 rfl
        generalize H9 = H at hP hS ⊢
        have hP : va_P D vwCl (kX5 T h a v ++ kX8 T htp atp z2) H := by exact hP
        have hD : va_D (va_A (kX5 T h a u ++ kX8 T htp atp utp) s.heap.size) (kX5 T h a v ++ kX8 T htp atp z2) := by exact hD
        have e9 := Option.some.inj hf
        exact retMv hx hb hr hlocks hP hD hS (congrArg (fun z => (kX5 T h a z.1 ++ kX8 T htp atp z.2 : va_W)) e9) dX5_take_41
      replace hf := ifn c1 hf
      refine lv_aload_n hx hb dX5_take_20 rfl (lv_at hl 0 rfl) ?_
      refine va_get (D := D) (ci := 5) (v := .ref (a 0)) (C := RX5) (T := TX5) (N := 5) hx hb hts hinX5 hown hK.1 hP 0 rfl rfl 0 (by decide) (hts (.fieldLink RX5 11 "RopeScale$Pans" "weight" "[I") (List.mem_of_getElem? (i := 6) rfl)) (fun _ h9 => h9) rfl dX5_take_21 ?_
      refine lv_iload_n hx hb dX5_take_24 rfl (lv_at hl 2 rfl) ?_
      refine lv_aload_n hx hb dX5_take_25 rfl (lv_at hl 1 rfl) ?_
      refine lv_iload_n hx hb dX5_take_26 rfl (lv_at hl 2 rfl) ?_
      obtain ⟨z3, hz3, hf⟩ := bnd hf
      refine cVR (As := [.int x3]) (rest := [.int x3, .ref (a 0)]) ⟨hx, hb, hml, hown, hts⟩ (mX8_at l D T htp atp vtp x3 z3 hz3) (cwV 1 hts gX5_take_X8_at rfl rfl rfl (by decide +kernel) ⟨Nat.le_of_ble_eq_true rfl, Nat.le_of_ble_eq_true rfl⟩) (va_recv hK.1 hP (ci := 8) (q0 := 3) rfl rfl) (hP.sub (ws' := kX8 T htp atp vtp) [3, 4] rfl) hK rfl hl.1 rfl (Nat.le_of_ble_eq_true rfl) dX5_take_27 ⟨Nat.le_of_ble_eq_true rfl, Nat.le_of_ble_eq_true rfl⟩ hP hS (fun H locs hP hS => ?_)
      obtain ⟨h6, hf⟩ := gd_e hf
      obtain ⟨u4, eu4, hf⟩ := lett_e hf
      refine va_iast hx hb hK.1 hP hD hS 1 0 rfl rfl h6 dX5_take_30 (fun H locs hP hD hS => ?_)
      have hP : va_P D vwCl (kX5 T h a u4 ++ kX8 T htp atp vtp) H := by rw [eu4]; exact hP
      have hD : va_D (va_A (kX5 T h a u ++ kX8 T htp atp utp) s.heap.size) (kX5 T h a u4 ++ kX8 T htp atp vtp) := by rw [eu4]; exact hD
      obtain ⟨t5, et5, hf⟩ := lett_e hf
      refine lv_iinc (v := t5) (lv' := [(3, .int t5), (0, .ref h), (1, .ref htp)]) hx hb dX5_take_31 hl (k := 2) rfl (by rw [et5]; rfl) (by decide) rfl (fun ls hl => ?_)
      refine lv_goto (tgt := 12) hx hb dX5_take_34 (by decide) ?_
      exact ih12 u4 vtp t5 _ _ _ hf hP hD hS (lv_sub hl [1, 2, 0] rfl)
  unfold fX5_take at hf
  refine lv_aload_n hx hb dX5_take_0 rfl (lv_at hl 0 rfl) ?_
  refine lv_iload_n hx hb dX5_take_1 rfl (lv_at hl 2 rfl) ?_
  refine lv_bipush (v := 16) hx hb dX5_take_2 (by decide) ?_
  refine mmin hx hb (hml.trans hl.1.symm) hown (hts (.methodLink RX5 29 Lib.Math.min.name) (List.mem_of_getElem? (i := 1) rfl)) (hts (.static Lib.Math.min.name) (List.mem_of_getElem? (i := 2) rfl)) (hts (.initialized "java/lang/Math") (List.mem_of_getElem? (i := 3) rfl)) (hts (.code Lib.Math.min.name Lib.Math.min.code 2 (some .int)) (List.mem_of_getElem? (i := 4) rfl)) (Nat.le_of_ble_eq_true rfl) (Nat.le_of_ble_eq_true rfl) (Nat.le_of_ble_eq_true rfl) (Nat.le_of_ble_eq_true rfl) dX5_take_4 ?_
  obtain ⟨u7, eu7, hf⟩ := lett_e hf
  refine va_put (D := D) (ci := 5) (v := .int (mn p2 16)) (ty := .int) (C := RX5) (T := TX5) (N := 5) hx hb hts hinX5 tyX5 tyX5_ok nmX5 hown hK.1 hP hD hS 0 rfl rfl 3 (by decide) (hts (.fieldLink RX5 22 "RopeScale$Pans" "size" "I") (List.mem_of_getElem? (i := 5) rfl)) (fun _ h9 => h9) rfl (tyX5_ok 3 (by decide)) rfl rfl (Nat.le_of_ble_eq_true rfl) dX5_take_7 (fun H locs hP hD hS => ?_)
  have hP : va_P D vwCl (kX5 T h a u7 ++ kX8 T htp atp utp) H := by rw [eu7]; exact hP
  have hD : va_D (va_A (kX5 T h a u ++ kX8 T htp atp utp) s.heap.size) (kX5 T h a u7 ++ kX8 T htp atp utp) := by rw [eu7]; exact hD
  refine lv_iconst (v := 0) hx hb dX5_take_10 (by decide) ?_
  refine lv_istore_n (lv' := [(3, .int 0), (0, .ref h), (1, .ref htp), (2, .int p2)]) hx hb dX5_take_11 rfl hl (by decide) rfl (fun ls hl => ?_)
  exact L12 FU u7 utp 0 _ _ _ hf hP hD hS (lv_sub hl [1, 2, 0] rfl)
def bX5_hasZero_L2 (u : St)  (lp2 : Int32 → Option (Int32)) (x1 : Int32) : Option (Int32) := if (u 3 0) ≤ x1 then some 0 else gd x1 16 <| if (u 0 (ix x1)) = 0 then some 1 else lett (x1 + 1) fun t3 => lp2 t3
def fX5_hasZero_L2 (u : St)  : Nat → Int32 → Option (Int32)
  | 0, _ => none
  | n + 1, x1 => bX5_hasZero_L2 u (fX5_hasZero_L2 u n) x1
def fX5_hasZero  (u : St)  : Option (Int32) := fX5_hasZero_L2 u FU 0
set_option maxHeartbeats 4000000 in
set_option maxRecDepth 100000 in
theorem mX5_hasZero (l : Launch) (D : va_G) (T : Ty3) (h : Nat) (a : Nat → Nat) (u : St)  (res : Int32) (hf : fX5_hasZero u = some res) : Met l yX5_hasZero wsX5_hasZero ({ frames := 0, cells := 0, slots := 0, locals := 0 }) (PcR D T (kX5 T h a u) [.ref h]) (QR res) 0 0 noA := by
  refine Met.ofW (cc := cX5_hasZero) (maxL := 2) (ret := (some .boolean)) (by decide) rfl ?_
  intro p e s m args below meth c s₁ B hml hv
  obtain ⟨rfl, hP, hK⟩ := hv
  have hx := B.exec
  have hb := B.bytes
  have hr := B.returns
  have hts := atoms_spec (ws := wsX5_hasZero) B.pre
  have hown : s.vm.findClass RX5 = some m.cls := findClass_of_methodNamed B.named
  have hlocks := B.notSynchronized
  have hS : va_S noA s.heap s.heap [] := va_S.rf
  have hinX5 : ∀ w ∈ u_ws RX5 TX5 5, w ∈ wsX5_hasZero := fun w h => List.mem_cons_of_mem _ (List.mem_append_right _ h)
  have hl := lv_entry ([.ref h]) (n := 2) (Nat.le_of_ble_eq_true rfl)
  rw [lg_entry_eq]
  generalize (lg_sl ([.ref h]) ++ List.replicate (2 - (lg_sl ([.ref h])).length) Slot.unset).toArray = ls at hl ⊢
  have hl : lv_has ls 2 [(0, .ref h)] := hl
  have L2 : ∀ (n2 : Nat), ∀ (x1 : Int32) (H : Heap) (locs : List Loc) (ls : Array Slot), fX5_hasZero_L2 u n2 x1 = some res → va_P D vwCl (kX5 T h a u) H → va_S noA s.heap H locs → lv_has ls 2 [(0, .ref h), (1, .int x1)] → W p l e (headSpec wsX5_hasZero ({ frames := 0, cells := 0, slots := 0, locals := 0 })).room s m ([.ref h] : List Value).toArray below meth c H locs 0 0 (MQ below (QR res) ([.ref h] : List Value).toArray s 0 0 noA) (F0 m 2 ls []) := by
    intro n2
    induction n2 with
    | zero => intro x1 H locs ls hf; exact nns hf
    | succ n2 ih2 =>
      intro x1 H locs ls hf hP hS hl
      replace hf : bX5_hasZero_L2 u (fX5_hasZero_L2 u n2) x1 = some res := hf
      unfold bX5_hasZero_L2 at hf
      refine lv_iload_n hx hb dX5_hasZero_2 rfl (lv_at hl 1 rfl) ?_
      refine lv_aload_n hx hb dX5_hasZero_3 rfl (lv_at hl 0 rfl) ?_
      refine va_get (D := D) (ci := 5) (v := .int (u 3 0)) (C := RX5) (T := TX5) (N := 5) hx hb hts hinX5 hown hK.1 hP 0 rfl rfl 3 (by decide) (hts (.fieldLink RX5 22 "RopeScale$Pans" "size" "I") (List.mem_of_getElem? (i := 1) rfl)) (fun _ h9 => h9) rfl dX5_hasZero_4 ?_
      refine lv_icmp_ge (tgt := 27) hx hb dX5_hasZero_7 (by decide) (fun c1 => ?_) (fun c1 => ?_)
      · replace hf := ifp c1 hf
        refine lv_iconst (v := 0) hx hb dX5_hasZero_27 (by decide) ?_
        exact retRz hx hb hr hlocks hS rfl (Option.some.inj hf) dX5_hasZero_28
      replace hf := ifn c1 hf
      refine lv_aload_n hx hb dX5_hasZero_10 rfl (lv_at hl 0 rfl) ?_
      refine va_get (D := D) (ci := 5) (v := .ref (a 0)) (C := RX5) (T := TX5) (N := 5) hx hb hts hinX5 hown hK.1 hP 0 rfl rfl 0 (by decide) (hts (.fieldLink RX5 11 "RopeScale$Pans" "weight" "[I") (List.mem_of_getElem? (i := 2) rfl)) (fun _ h9 => h9) rfl dX5_hasZero_11 ?_
      refine lv_iload_n hx hb dX5_hasZero_14 rfl (lv_at hl 1 rfl) ?_
      obtain ⟨h4, hf⟩ := gd_e hf
      refine va_iald hx hb hK.1 hP 1 0 rfl rfl h4 dX5_hasZero_15 ?_
      refine lv_if_ne (tgt := 21) hx hb dX5_hasZero_16 (by decide) (fun c2 => ?_) (fun c2 => ?_)
      · replace hf := ifn c2 hf
        obtain ⟨t3, et3, hf⟩ := lett_e hf
        refine lv_iinc (v := t3) (lv' := [(1, .int t3), (0, .ref h)]) hx hb dX5_hasZero_21 hl (k := 1) rfl (by rw [et3]; rfl) (by decide) rfl (fun ls hl => ?_)
        refine lv_goto (tgt := 2) hx hb dX5_hasZero_24 (by decide) ?_
        exact ih2 t3 _ _ _ hf hP hS (lv_sub hl [1, 0] rfl)
      replace hf := ifp c2 hf
      refine lv_iconst (v := 1) hx hb dX5_hasZero_19 (by decide) ?_
      exact retRz hx hb hr hlocks hS rfl (Option.some.inj hf) dX5_hasZero_20
  unfold fX5_hasZero at hf
  refine lv_iconst (v := 0) hx hb dX5_hasZero_0 (by decide) ?_
  refine lv_istore_n (lv' := [(1, .int 0), (0, .ref h)]) hx hb dX5_hasZero_1 rfl hl (by decide) rfl (fun ls hl => ?_)
  exact L2 FU 0 _ _ _ hf hP hS (lv_sub hl [1, 0] rfl)
def bX5_mostThatRise_L36  (lp4 : St → Int32 → Int32 → Int32 → Option (Int32 × St)) (lp36 : St → Int32 → Int32 → Int32 → Int32 → Option (Int32 × St)) (v : St) (x1 : Int32) (x2 : Int32) (x3 : Int32) (x4 : Int32) : Option (Int32 × St) := if x3 ≤ x4 then gd x3 16 <| lett (mx x2 (v 1 (ix x3))) fun t2 => lett (x3 + 1) fun t3 => lp4 v x1 t2 t3 else gd x4 16 <| gd x3 16 <| if (v 0 (ix x3)) < (v 0 (ix x4)) then lett (x4 + 1) fun t6 => lp36 v x1 x2 x3 t6 else gd x3 16 <| gd x4 16 <| gd x3 16 <| lett (st v 1 (ix x3) (mx (v 1 (ix x3)) ((v 1 (ix x4)) + 1))) fun u7 => lett (x4 + 1) fun t8 => lp36 u7 x1 x2 x3 t8
def fX5_mostThatRise_L36  (lp4 : St → Int32 → Int32 → Int32 → Option (Int32 × St)) : Nat → St → Int32 → Int32 → Int32 → Int32 → Option (Int32 × St)
  | 0, _, _, _, _, _ => none
  | n + 1, v, x1, x2, x3, x4 => bX5_mostThatRise_L36 lp4 (fX5_mostThatRise_L36 lp4 n) v x1 x2 x3 x4
def bX5_mostThatRise_L4   (lp4 : St → Int32 → Int32 → Int32 → Option (Int32 × St)) (v : St) (x1 : Int32) (x2 : Int32) (x3 : Int32) : Option (Int32 × St) := if (v 3 0) ≤ x3 then some (x2, v) else gd x3 16 <| lett (st v 1 (ix x3) 1) fun u15 => if x1 = 0 then fX5_mostThatRise_L36 lp4 FU u15 x1 x2 x3 0 else lett (mx 0 (x3 - 1)) fun t17 => fX5_mostThatRise_L36 lp4 FU u15 x1 x2 x3 t17
def fX5_mostThatRise_L4   : Nat → St → Int32 → Int32 → Int32 → Option (Int32 × St)
  | 0, _, _, _, _ => none
  | n + 1, v, x1, x2, x3 => bX5_mostThatRise_L4  (fX5_mostThatRise_L4  n) v x1 x2 x3
def fX5_mostThatRise  (u : St) (p1 : Int32) : Option (Int32 × St) := fX5_mostThatRise_L4 FU u p1 0 0
set_option maxHeartbeats 4000000 in
set_option maxRecDepth 100000 in
theorem mX5_mostThatRise (l : Launch) (D : va_G) (T : Ty3) (h : Nat) (a : Nat → Nat) (u : St) (sz : Nat) (p1 : Int32) (res : Int32 × St) (hf : fX5_mostThatRise u p1 = some res) : Met l yX5_mostThatRise wsX5_mostThatRise ({ frames := 1, cells := 0, slots := 0, locals := 15 }) (PcM D T (kX5 T h a u) sz [.ref h, .int p1]) (QM D (kX5 T h a u) sz res.1 (kX5 T h a res.2)) 0 0 (va_A (kX5 T h a u) sz) := by
  refine Met.ofW (cc := cX5_mostThatRise) (maxL := 5) (ret := (some .int)) (by decide) rfl ?_
  intro p e s m args below meth c s₁ B hml hv
  obtain ⟨rfl, hsz, hP, hK, hD0⟩ := hv
  have hx := B.exec
  have hb := B.bytes
  have hr := B.returns
  have hts := atoms_spec (ws := wsX5_mostThatRise) B.pre
  have hown : s.vm.findClass RX5 = some m.cls := findClass_of_methodNamed B.named
  have hlocks := B.notSynchronized
  subst hsz
  have hD := hD0.self (sz := s.heap.size)
  have hA : ∀ q : Nat, s.heap.size ≤ q → va_A (kX5 T h a u) s.heap.size q := fun q h => Or.inr h
  have hS : va_S (va_A (kX5 T h a u) s.heap.size) s.heap s.heap [] := va_S.rf
  have hinX5 : ∀ w ∈ u_ws RX5 TX5 5, w ∈ wsX5_mostThatRise := fun w h => List.mem_cons_of_mem _ (List.mem_append_right _ h)
  have hl := lv_entry ([.ref h, .int p1]) (n := 5) (Nat.le_of_ble_eq_true rfl)
  rw [lg_entry_eq]
  generalize (lg_sl ([.ref h, .int p1]) ++ List.replicate (5 - (lg_sl ([.ref h, .int p1])).length) Slot.unset).toArray = ls at hl ⊢
  have hl : lv_has ls 5 [(0, .ref h), (1, .int p1)] := hl
  have L4 : ∀ (n4 : Nat), ∀ (v : St) (x1 : Int32) (x2 : Int32) (x3 : Int32) (H : Heap) (locs : List Loc) (ls : Array Slot), fX5_mostThatRise_L4  n4 v x1 x2 x3 = some res → va_P D vwCl (kX5 T h a v) H → va_D (va_A (kX5 T h a u) s.heap.size) (kX5 T h a v) → va_S (va_A (kX5 T h a u) s.heap.size) s.heap H locs → lv_has ls 5 [(0, .ref h), (1, .int x1), (2, .int x2), (3, .int x3)] → W p l e (headSpec wsX5_mostThatRise ({ frames := 1, cells := 0, slots := 0, locals := 15 })).room s m ([.ref h, .int p1] : List Value).toArray below meth c H locs 0 0 (MQ below (QM D (kX5 T h a u) s.heap.size res.1 (kX5 T h a res.2)) ([.ref h, .int p1] : List Value).toArray s 0 0 (va_A (kX5 T h a u) s.heap.size)) (F0 m 4 ls []) := by
    intro n4
    induction n4 with
    | zero => intro v x1 x2 x3 H locs ls hf; exact nns hf
    | succ n4 ih4 =>
      have L36 : ∀ (n36 : Nat), ∀ (v : St) (x1 : Int32) (x2 : Int32) (x3 : Int32) (x4 : Int32) (H : Heap) (locs : List Loc) (ls : Array Slot), fX5_mostThatRise_L36 (fX5_mostThatRise_L4  n4) n36 v x1 x2 x3 x4 = some res → va_P D vwCl (kX5 T h a v) H → va_D (va_A (kX5 T h a u) s.heap.size) (kX5 T h a v) → va_S (va_A (kX5 T h a u) s.heap.size) s.heap H locs → lv_has ls 5 [(0, .ref h), (1, .int x1), (2, .int x2), (3, .int x3), (4, .int x4)] → W p l e (headSpec wsX5_mostThatRise ({ frames := 1, cells := 0, slots := 0, locals := 15 })).room s m ([.ref h, .int p1] : List Value).toArray below meth c H locs 0 0 (MQ below (QM D (kX5 T h a u) s.heap.size res.1 (kX5 T h a res.2)) ([.ref h, .int p1] : List Value).toArray s 0 0 (va_A (kX5 T h a u) s.heap.size)) (F0 m 36 ls []) := by
        intro n36
        induction n36 with
        | zero => intro v x1 x2 x3 x4 H locs ls hf; exact nns hf
        | succ n36 ih36 =>
          intro v x1 x2 x3 x4 H locs ls hf hP hD hS hl
          replace hf : bX5_mostThatRise_L36 (fX5_mostThatRise_L4  n4) (fX5_mostThatRise_L36 (fX5_mostThatRise_L4  n4) n36) v x1 x2 x3 x4 = some res := hf
          unfold bX5_mostThatRise_L36 at hf
          refine lv_iload hx hb dX5_mostThatRise_36 (lv_at hl 4 rfl) ?_
          refine lv_iload_n hx hb dX5_mostThatRise_38 rfl (lv_at hl 3 rfl) ?_
          refine lv_icmp_ge (tgt := 88) hx hb dX5_mostThatRise_39 (by decide) (fun c1 => ?_) (fun c1 => ?_)
          · replace hf := ifp c1 hf
            refine lv_iload_n hx hb dX5_mostThatRise_88 rfl (lv_at hl 2 rfl) ?_
            refine lv_aload_n hx hb dX5_mostThatRise_89 rfl (lv_at hl 0 rfl) ?_
            refine va_get (D := D) (ci := 5) (v := .ref (a 1)) (C := RX5) (T := TX5) (N := 5) hx hb hts hinX5 hown hK.1 hP 0 rfl rfl 1 (by decide) (hts (.fieldLink RX5 15 "RopeScale$Pans" "rising" "[I") (List.mem_of_getElem? (i := 2) rfl)) (fun _ h9 => h9) rfl dX5_mostThatRise_90 ?_
            refine lv_iload_n hx hb dX5_mostThatRise_93 rfl (lv_at hl 3 rfl) ?_
            obtain ⟨h4, hf⟩ := gd_e hf
            refine va_iald hx hb hK.1 hP 2 0 rfl rfl h4 dX5_mostThatRise_94 ?_
            refine mmax hx hb (hml.trans hl.1.symm) hown (hts (.methodLink RX5 68 Lib.Math.max.name) (List.mem_of_getElem? (i := 3) rfl)) (hts (.static Lib.Math.max.name) (List.mem_of_getElem? (i := 4) rfl)) (hts (.initialized "java/lang/Math") (List.mem_of_getElem? (i := 5) rfl)) (hts (.code Lib.Math.max.name Lib.Math.max.code 2 (some .int)) (List.mem_of_getElem? (i := 6) rfl)) (Nat.le_of_ble_eq_true rfl) (Nat.le_of_ble_eq_true rfl) (Nat.le_of_ble_eq_true rfl) (Nat.le_of_ble_eq_true rfl) dX5_mostThatRise_95 ?_
            obtain ⟨t2, et2, hf⟩ := lett_e hf
            refine lv_eqi et2 ?_
            refine lv_istore_n (lv' := [(2, .int t2), (0, .ref h), (1, .int x1), (3, .int x3), (4, .int x4)]) hx hb dX5_mostThatRise_98 rfl hl (by decide) rfl (fun ls hl => ?_)
            obtain ⟨t3, et3, hf⟩ := lett_e hf
            refine lv_iinc (v := t3) (lv' := [(3, .int t3), (2, .int t2), (0, .ref h), (1, .int x1), (4, .int x4)]) hx hb dX5_mostThatRise_99 hl (k := 3) rfl (by rw [et3]; rfl) (by decide) rfl (fun ls hl => ?_)
            refine lv_goto (tgt := 4) hx hb dX5_mostThatRise_102 (by decide) ?_
            exact ih4 v x1 t2 t3 _ _ _ hf hP hD hS (lv_sub hl [2, 3, 1, 0] rfl)
          replace hf := ifn c1 hf
          refine lv_aload_n hx hb dX5_mostThatRise_42 rfl (lv_at hl 0 rfl) ?_
          refine va_get (D := D) (ci := 5) (v := .ref (a 0)) (C := RX5) (T := TX5) (N := 5) hx hb hts hinX5 hown hK.1 hP 0 rfl rfl 0 (by decide) (hts (.fieldLink RX5 11 "RopeScale$Pans" "weight" "[I") (List.mem_of_getElem? (i := 7) rfl)) (fun _ h9 => h9) rfl dX5_mostThatRise_43 ?_
          refine lv_iload hx hb dX5_mostThatRise_46 (lv_at hl 4 rfl) ?_
          obtain ⟨h13, hf⟩ := gd_e hf
          refine va_iald hx hb hK.1 hP 1 0 rfl rfl h13 dX5_mostThatRise_48 ?_
          refine lv_aload_n hx hb dX5_mostThatRise_49 rfl (lv_at hl 0 rfl) ?_
          refine va_get (D := D) (ci := 5) (v := .ref (a 0)) (C := RX5) (T := TX5) (N := 5) hx hb hts hinX5 hown hK.1 hP 0 rfl rfl 0 (by decide) (hts (.fieldLink RX5 11 "RopeScale$Pans" "weight" "[I") (List.mem_of_getElem? (i := 7) rfl)) (fun _ h9 => h9) rfl dX5_mostThatRise_50 ?_
          refine lv_iload_n hx hb dX5_mostThatRise_53 rfl (lv_at hl 3 rfl) ?_
          obtain ⟨h12, hf⟩ := gd_e hf
          refine va_iald hx hb hK.1 hP 1 0 rfl rfl h12 dX5_mostThatRise_54 ?_
          refine lv_icmp_gt (tgt := 82) hx hb dX5_mostThatRise_55 (by decide) (fun c5 => ?_) (fun c5 => ?_)
          · replace hf := ifp c5 hf
            obtain ⟨t6, et6, hf⟩ := lett_e hf
            refine lv_iinc (v := t6) (lv' := [(4, .int t6), (0, .ref h), (1, .int x1), (2, .int x2), (3, .int x3)]) hx hb dX5_mostThatRise_82 hl (k := 4) rfl (by rw [et6]; rfl) (by decide) rfl (fun ls hl => ?_)
            refine lv_goto (tgt := 36) hx hb dX5_mostThatRise_85 (by decide) ?_
            exact ih36 v x1 x2 x3 t6 _ _ _ hf hP hD hS (lv_sub hl [1, 2, 3, 4, 0] rfl)
          replace hf := ifn c5 hf
          refine lv_aload_n hx hb dX5_mostThatRise_58 rfl (lv_at hl 0 rfl) ?_
          refine va_get (D := D) (ci := 5) (v := .ref (a 1)) (C := RX5) (T := TX5) (N := 5) hx hb hts hinX5 hown hK.1 hP 0 rfl rfl 1 (by decide) (hts (.fieldLink RX5 15 "RopeScale$Pans" "rising" "[I") (List.mem_of_getElem? (i := 2) rfl)) (fun _ h9 => h9) rfl dX5_mostThatRise_59 ?_
          refine lv_iload_n hx hb dX5_mostThatRise_62 rfl (lv_at hl 3 rfl) ?_
          refine lv_aload_n hx hb dX5_mostThatRise_63 rfl (lv_at hl 0 rfl) ?_
          refine va_get (D := D) (ci := 5) (v := .ref (a 1)) (C := RX5) (T := TX5) (N := 5) hx hb hts hinX5 hown hK.1 hP 0 rfl rfl 1 (by decide) (hts (.fieldLink RX5 15 "RopeScale$Pans" "rising" "[I") (List.mem_of_getElem? (i := 2) rfl)) (fun _ h9 => h9) rfl dX5_mostThatRise_64 ?_
          refine lv_iload_n hx hb dX5_mostThatRise_67 rfl (lv_at hl 3 rfl) ?_
          obtain ⟨h11, hf⟩ := gd_e hf
          refine va_iald hx hb hK.1 hP 2 0 rfl rfl h11 dX5_mostThatRise_68 ?_
          refine lv_aload_n hx hb dX5_mostThatRise_69 rfl (lv_at hl 0 rfl) ?_
          refine va_get (D := D) (ci := 5) (v := .ref (a 1)) (C := RX5) (T := TX5) (N := 5) hx hb hts hinX5 hown hK.1 hP 0 rfl rfl 1 (by decide) (hts (.fieldLink RX5 15 "RopeScale$Pans" "rising" "[I") (List.mem_of_getElem? (i := 2) rfl)) (fun _ h9 => h9) rfl dX5_mostThatRise_70 ?_
          refine lv_iload hx hb dX5_mostThatRise_73 (lv_at hl 4 rfl) ?_
          obtain ⟨h10, hf⟩ := gd_e hf
          refine va_iald hx hb hK.1 hP 2 0 rfl rfl h10 dX5_mostThatRise_75 ?_
          refine lv_iconst (v := 1) hx hb dX5_mostThatRise_76 (by decide) ?_
          refine lv_iadd hx hb dX5_mostThatRise_77 ?_
          refine mmax hx hb (hml.trans hl.1.symm) hown (hts (.methodLink RX5 68 Lib.Math.max.name) (List.mem_of_getElem? (i := 3) rfl)) (hts (.static Lib.Math.max.name) (List.mem_of_getElem? (i := 4) rfl)) (hts (.initialized "java/lang/Math") (List.mem_of_getElem? (i := 5) rfl)) (hts (.code Lib.Math.max.name Lib.Math.max.code 2 (some .int)) (List.mem_of_getElem? (i := 6) rfl)) (Nat.le_of_ble_eq_true rfl) (Nat.le_of_ble_eq_true rfl) (Nat.le_of_ble_eq_true rfl) (Nat.le_of_ble_eq_true rfl) dX5_mostThatRise_78 ?_
          obtain ⟨h9, hf⟩ := gd_e hf
          obtain ⟨u7, eu7, hf⟩ := lett_e hf
          refine va_iast hx hb hK.1 hP hD hS 2 0 rfl rfl h9 dX5_mostThatRise_81 (fun H locs hP hD hS => ?_)
          have hP : va_P D vwCl (kX5 T h a u7) H := by rw [eu7]; exact hP
          have hD : va_D (va_A (kX5 T h a u) s.heap.size) (kX5 T h a u7) := by rw [eu7]; exact hD
          obtain ⟨t8, et8, hf⟩ := lett_e hf
          refine lv_iinc (v := t8) (lv' := [(4, .int t8), (0, .ref h), (1, .int x1), (2, .int x2), (3, .int x3)]) hx hb dX5_mostThatRise_82 hl (k := 4) rfl (by rw [et8]; rfl) (by decide) rfl (fun ls hl => ?_)
          refine lv_goto (tgt := 36) hx hb dX5_mostThatRise_85 (by decide) ?_
          exact ih36 u7 x1 x2 x3 t8 _ _ _ hf hP hD hS (lv_sub hl [1, 2, 3, 4, 0] rfl)
      intro v x1 x2 x3 H locs ls hf hP hD hS hl
      replace hf : bX5_mostThatRise_L4  (fX5_mostThatRise_L4  n4) v x1 x2 x3 = some res := hf
      unfold bX5_mostThatRise_L4 at hf
      refine lv_iload_n hx hb dX5_mostThatRise_4 rfl (lv_at hl 3 rfl) ?_
      refine lv_aload_n hx hb dX5_mostThatRise_5 rfl (lv_at hl 0 rfl) ?_
      refine va_get (D := D) (ci := 5) (v := .int (v 3 0)) (C := RX5) (T := TX5) (N := 5) hx hb hts hinX5 hown hK.1 hP 0 rfl rfl 3 (by decide) (hts (.fieldLink RX5 22 "RopeScale$Pans" "size" "I") (List.mem_of_getElem? (i := 1) rfl)) (fun _ h9 => h9) rfl dX5_mostThatRise_6 ?_
      refine lv_icmp_ge (tgt := 105) hx hb dX5_mostThatRise_9 (by decide) (fun c14 => ?_) (fun c14 => ?_)
      · replace hf := ifp c14 hf
        refine lv_iload_n hx hb dX5_mostThatRise_105 rfl (lv_at hl 2 rfl) ?_
        have e9 := Option.some.inj hf
        exact retM hx hb hr hlocks hP hD hS (congrArg (fun z => z.1) e9) (congrArg (fun z => (kX5 T h a z.2 : va_W)) e9) dX5_mostThatRise_106
      replace hf := ifn c14 hf
      refine lv_aload_n hx hb dX5_mostThatRise_12 rfl (lv_at hl 0 rfl) ?_
      refine va_get (D := D) (ci := 5) (v := .ref (a 1)) (C := RX5) (T := TX5) (N := 5) hx hb hts hinX5 hown hK.1 hP 0 rfl rfl 1 (by decide) (hts (.fieldLink RX5 15 "RopeScale$Pans" "rising" "[I") (List.mem_of_getElem? (i := 2) rfl)) (fun _ h9 => h9) rfl dX5_mostThatRise_13 ?_
      refine lv_iload_n hx hb dX5_mostThatRise_16 rfl (lv_at hl 3 rfl) ?_
      refine lv_iconst (v := 1) hx hb dX5_mostThatRise_17 (by decide) ?_
      obtain ⟨h18, hf⟩ := gd_e hf
      obtain ⟨u15, eu15, hf⟩ := lett_e hf
      refine va_iast hx hb hK.1 hP hD hS 2 0 rfl rfl h18 dX5_mostThatRise_18 (fun H locs hP hD hS => ?_)
      have hP : va_P D vwCl (kX5 T h a u15) H := by rw [eu15]; exact hP
      have hD : va_D (va_A (kX5 T h a u) s.heap.size) (kX5 T h a u15) := by rw [eu15]; exact hD
      refine lv_iload_n hx hb dX5_mostThatRise_19 rfl (lv_at hl 1 rfl) ?_
      refine lv_if_eq (tgt := 33) hx hb dX5_mostThatRise_20 (by decide) (fun c16 => ?_) (fun c16 => ?_)
      · replace hf := ifp c16 hf
        refine lv_iconst (v := 0) hx hb dX5_mostThatRise_33 (by decide) ?_
        refine lv_istore (lv' := [(4, .int 0), (0, .ref h), (1, .int x1), (2, .int x2), (3, .int x3)]) hx hb dX5_mostThatRise_34 hl (by decide) rfl (fun ls hl => ?_)
        exact L36 FU u15 x1 x2 x3 0 _ _ _ hf hP hD hS (lv_sub hl [1, 2, 3, 4, 0] rfl)
      replace hf := ifn c16 hf
      refine lv_iconst (v := 0) hx hb dX5_mostThatRise_23 (by decide) ?_
      refine lv_iload_n hx hb dX5_mostThatRise_24 rfl (lv_at hl 3 rfl) ?_
      refine lv_iconst (v := 1) hx hb dX5_mostThatRise_25 (by decide) ?_
      refine lv_isub hx hb dX5_mostThatRise_26 ?_
      refine mmax hx hb (hml.trans hl.1.symm) hown (hts (.methodLink RX5 68 Lib.Math.max.name) (List.mem_of_getElem? (i := 3) rfl)) (hts (.static Lib.Math.max.name) (List.mem_of_getElem? (i := 4) rfl)) (hts (.initialized "java/lang/Math") (List.mem_of_getElem? (i := 5) rfl)) (hts (.code Lib.Math.max.name Lib.Math.max.code 2 (some .int)) (List.mem_of_getElem? (i := 6) rfl)) (Nat.le_of_ble_eq_true rfl) (Nat.le_of_ble_eq_true rfl) (Nat.le_of_ble_eq_true rfl) (Nat.le_of_ble_eq_true rfl) dX5_mostThatRise_27 ?_
      refine lv_goto (tgt := 34) hx hb dX5_mostThatRise_30 (by decide) ?_
      obtain ⟨t17, et17, hf⟩ := lett_e hf
      refine lv_eqi et17 ?_
      refine lv_istore (lv' := [(4, .int t17), (0, .ref h), (1, .int x1), (2, .int x2), (3, .int x3)]) hx hb dX5_mostThatRise_34 hl (by decide) rfl (fun ls hl => ?_)
      exact L36 FU u15 x1 x2 x3 t17 _ _ _ hf hP hD hS (lv_sub hl [1, 2, 3, 4, 0] rfl)
  unfold fX5_mostThatRise at hf
  refine lv_iconst (v := 0) hx hb dX5_mostThatRise_0 (by decide) ?_
  refine lv_istore_n (lv' := [(2, .int 0), (0, .ref h), (1, .int p1)]) hx hb dX5_mostThatRise_1 rfl hl (by decide) rfl (fun ls hl => ?_)
  refine lv_iconst (v := 0) hx hb dX5_mostThatRise_2 (by decide) ?_
  refine lv_istore_n (lv' := [(3, .int 0), (2, .int 0), (0, .ref h), (1, .int p1)]) hx hb dX5_mostThatRise_3 rfl hl (by decide) rfl (fun ls hl => ?_)
  exact L4 FU u p1 0 0 _ _ _ hf hP hD hS (lv_sub hl [2, 3, 1, 0] rfl)
def fX5_timesLeftHeavier_J44  (lp7 : Int32 → Int32 → Int32 → Int32 → Option (Int32)) (x1 : Int32) (x3 : Int32) (x4 : Int32) (y0 : Int32) (y1 : Int32) : Option (Int32) := lett (y1 + y0) fun t1 => if t1 ≤ 0 then lett (x3 + 0) fun t3 => lett (x4 + 1) fun t4 => lp7 x1 t1 t3 t4 else lett (x3 + 1) fun t5 => lett (x4 + 1) fun t6 => lp7 x1 t1 t5 t6
def bX5_timesLeftHeavier_L7 (u : St)  (lp7 : Int32 → Int32 → Int32 → Int32 → Option (Int32)) (x1 : Int32) (x2 : Int32) (x3 : Int32) (x4 : Int32) : Option (Int32) := if (u 3 0) ≤ x4 then some x3 else lett (fX11_has x1 x4) fun z8 => if z8 = 0 then gd x4 16 <| fX5_timesLeftHeavier_J44 lp7 x1 x3 x4 (-(u 0 (ix x4))) x2 else gd x4 16 <| fX5_timesLeftHeavier_J44 lp7 x1 x3 x4 (u 0 (ix x4)) x2
def fX5_timesLeftHeavier_L7 (u : St)  : Nat → Int32 → Int32 → Int32 → Int32 → Option (Int32)
  | 0, _, _, _, _ => none
  | n + 1, x1, x2, x3, x4 => bX5_timesLeftHeavier_L7 u (fX5_timesLeftHeavier_L7 u n) x1 x2 x3 x4
def fX5_timesLeftHeavier  (u : St) (p1 : Int32) : Option (Int32) := fX5_timesLeftHeavier_L7 u FU p1 0 0 0
set_option maxHeartbeats 4000000 in
set_option maxRecDepth 100000 in
theorem mX5_timesLeftHeavier (l : Launch) (D : va_G) (T : Ty3) (h : Nat) (a : Nat → Nat) (u : St) (p1 : Int32) (res : Int32) (hf : fX5_timesLeftHeavier u p1 = some res) : Met l yX5_timesLeftHeavier wsX5_timesLeftHeavier ({ frames := 1, cells := 0, slots := 0, locals := 21 }) (PcR D T (kX5 T h a u) [.ref h, .int p1]) (QR res) 0 0 noA := by
  refine Met.ofW (cc := cX5_timesLeftHeavier) (maxL := 5) (ret := (some .int)) (by decide) rfl ?_
  intro p e s m args below meth c s₁ B hml hv
  obtain ⟨rfl, hP, hK⟩ := hv
  have hx := B.exec
  have hb := B.bytes
  have hr := B.returns
  have hts := atoms_spec (ws := wsX5_timesLeftHeavier) B.pre
  have hown : s.vm.findClass RX5 = some m.cls := findClass_of_methodNamed B.named
  have hlocks := B.notSynchronized
  have hS : va_S noA s.heap s.heap [] := va_S.rf
  have hinX5 : ∀ w ∈ u_ws RX5 TX5 5, w ∈ wsX5_timesLeftHeavier := fun w h => List.mem_cons_of_mem _ (List.mem_append_right _ h)
  have hl := lv_entry ([.ref h, .int p1]) (n := 5) (Nat.le_of_ble_eq_true rfl)
  rw [lg_entry_eq]
  generalize (lg_sl ([.ref h, .int p1]) ++ List.replicate (5 - (lg_sl ([.ref h, .int p1])).length) Slot.unset).toArray = ls at hl ⊢
  have hl : lv_has ls 5 [(0, .ref h), (1, .int p1)] := hl
  have L7 : ∀ (n7 : Nat), ∀ (x1 : Int32) (x2 : Int32) (x3 : Int32) (x4 : Int32) (H : Heap) (locs : List Loc) (ls : Array Slot), fX5_timesLeftHeavier_L7 u n7 x1 x2 x3 x4 = some res → va_P D vwCl (kX5 T h a u) H → va_S noA s.heap H locs → lv_has ls 5 [(0, .ref h), (1, .int x1), (2, .int x2), (3, .int x3), (4, .int x4)] → W p l e (headSpec wsX5_timesLeftHeavier ({ frames := 1, cells := 0, slots := 0, locals := 21 })).room s m ([.ref h, .int p1] : List Value).toArray below meth c H locs 0 0 (MQ below (QR res) ([.ref h, .int p1] : List Value).toArray s 0 0 noA) (F0 m 7 ls []) := by
    intro n7
    induction n7 with
    | zero => intro x1 x2 x3 x4 H locs ls hf; exact nns hf
    | succ n7 ih7 =>
      have J44 : ∀ (x1 : Int32) (x3 : Int32) (x4 : Int32) (y0 : Int32) (y1 : Int32) (H : Heap) (locs : List Loc) (ls : Array Slot), fX5_timesLeftHeavier_J44 (fX5_timesLeftHeavier_L7 u n7) x1 x3 x4 y0 y1 = some res → va_P D vwCl (kX5 T h a u) H → va_S noA s.heap H locs → lv_has ls 5 [(0, .ref h), (1, .int x1), (3, .int x3), (4, .int x4)] → W p l e (headSpec wsX5_timesLeftHeavier ({ frames := 1, cells := 0, slots := 0, locals := 21 })).room s m ([.ref h, .int p1] : List Value).toArray below meth c H locs 0 0 (MQ below (QR res) ([.ref h, .int p1] : List Value).toArray s 0 0 noA) (F0 m 44 ls [.int y0, .int y1]) := by
        intro x1 x3 x4 y0 y1 H locs ls hf hP hS hl
        unfold fX5_timesLeftHeavier_J44 at hf
        refine lv_iadd hx hb dX5_timesLeftHeavier_44 ?_
        obtain ⟨t1, et1, hf⟩ := lett_e hf
        refine lv_eqi et1 ?_
        refine lv_istore_n (lv' := [(2, .int t1), (0, .ref h), (1, .int x1), (3, .int x3), (4, .int x4)]) hx hb dX5_timesLeftHeavier_45 rfl hl (by decide) rfl (fun ls hl => ?_)
        refine lv_iload_n hx hb dX5_timesLeftHeavier_46 rfl (lv_at hl 3 rfl) ?_
        refine lv_iload_n hx hb dX5_timesLeftHeavier_47 rfl (lv_at hl 0 rfl) ?_
        refine lv_if_le (tgt := 55) hx hb dX5_timesLeftHeavier_48 (by decide) (fun c2 => ?_) (fun c2 => ?_)
        · replace hf := ifp c2 hf
          refine lv_iconst (v := 0) hx hb dX5_timesLeftHeavier_55 (by decide) ?_
          refine lv_iadd hx hb dX5_timesLeftHeavier_56 ?_
          obtain ⟨t3, et3, hf⟩ := lett_e hf
          refine lv_eqi et3 ?_
          refine lv_istore_n (lv' := [(3, .int t3), (2, .int t1), (0, .ref h), (1, .int x1), (4, .int x4)]) hx hb dX5_timesLeftHeavier_57 rfl hl (by decide) rfl (fun ls hl => ?_)
          obtain ⟨t4, et4, hf⟩ := lett_e hf
          refine lv_iinc (v := t4) (lv' := [(4, .int t4), (3, .int t3), (2, .int t1), (0, .ref h), (1, .int x1)]) hx hb dX5_timesLeftHeavier_58 hl (k := 4) rfl (by rw [et4]; rfl) (by decide) rfl (fun ls hl => ?_)
          refine lv_goto (tgt := 7) hx hb dX5_timesLeftHeavier_61 (by decide) ?_
          exact ih7 x1 t1 t3 t4 _ _ _ hf hP hS (lv_sub hl [3, 4, 2, 1, 0] rfl)
        replace hf := ifn c2 hf
        refine lv_iconst (v := 1) hx hb dX5_timesLeftHeavier_51 (by decide) ?_
        refine lv_goto (tgt := 56) hx hb dX5_timesLeftHeavier_52 (by decide) ?_
        refine lv_iadd hx hb dX5_timesLeftHeavier_56 ?_
        obtain ⟨t5, et5, hf⟩ := lett_e hf
        refine lv_eqi et5 ?_
        refine lv_istore_n (lv' := [(3, .int t5), (2, .int t1), (0, .ref h), (1, .int x1), (4, .int x4)]) hx hb dX5_timesLeftHeavier_57 rfl hl (by decide) rfl (fun ls hl => ?_)
        obtain ⟨t6, et6, hf⟩ := lett_e hf
        refine lv_iinc (v := t6) (lv' := [(4, .int t6), (3, .int t5), (2, .int t1), (0, .ref h), (1, .int x1)]) hx hb dX5_timesLeftHeavier_58 hl (k := 4) rfl (by rw [et6]; rfl) (by decide) rfl (fun ls hl => ?_)
        refine lv_goto (tgt := 7) hx hb dX5_timesLeftHeavier_61 (by decide) ?_
        exact ih7 x1 t1 t5 t6 _ _ _ hf hP hS (lv_sub hl [3, 4, 2, 1, 0] rfl)
      intro x1 x2 x3 x4 H locs ls hf hP hS hl
      replace hf : bX5_timesLeftHeavier_L7 u (fX5_timesLeftHeavier_L7 u n7) x1 x2 x3 x4 = some res := hf
      unfold bX5_timesLeftHeavier_L7 at hf
      refine lv_iload hx hb dX5_timesLeftHeavier_7 (lv_at hl 4 rfl) ?_
      refine lv_aload_n hx hb dX5_timesLeftHeavier_9 rfl (lv_at hl 0 rfl) ?_
      refine va_get (D := D) (ci := 5) (v := .int (u 3 0)) (C := RX5) (T := TX5) (N := 5) hx hb hts hinX5 hown hK.1 hP 0 rfl rfl 3 (by decide) (hts (.fieldLink RX5 22 "RopeScale$Pans" "size" "I") (List.mem_of_getElem? (i := 1) rfl)) (fun _ h9 => h9) rfl dX5_timesLeftHeavier_10 ?_
      refine lv_icmp_ge (tgt := 64) hx hb dX5_timesLeftHeavier_13 (by decide) (fun c7 => ?_) (fun c7 => ?_)
      · replace hf := ifp c7 hf
        refine lv_iload_n hx hb dX5_timesLeftHeavier_64 rfl (lv_at hl 3 rfl) ?_
        exact retR hx hb hr hlocks hS (Option.some.inj hf) dX5_timesLeftHeavier_65
      replace hf := ifn c7 hf
      refine lv_iload_n hx hb dX5_timesLeftHeavier_16 rfl (lv_at hl 2 rfl) ?_
      refine lv_iload_n hx hb dX5_timesLeftHeavier_17 rfl (lv_at hl 1 rfl) ?_
      refine lv_iload hx hb dX5_timesLeftHeavier_18 (lv_at hl 4 rfl) ?_
      obtain ⟨z8, hz8, hf⟩ := lett_e hf
      refine cNR (As := [.int x1, .int x4]) (rest := [.int x2]) ⟨hx, hb, hml, hown, hts⟩ (mX11_has l D T x1 x4 z8 hz8.symm) ⟨va_cnB (host := "RopeScale") (index := 64) 2 hts gX5_timesLeftHeavier_X11_has_n64 rfl rfl rfl (hK.2 _ (List.mem_of_getElem? (i := 24) rfl)) (hts (.initialized RX11) (List.mem_of_getElem? (i := 4) rfl)) (by decide +kernel) ⟨Nat.le_of_ble_eq_true rfl, Nat.le_of_ble_eq_true rfl⟩, (hts (.static yX11_has) (List.mem_of_getElem? (i := 3) rfl)), trivial⟩ P0 hK rfl hl.1 rfl (Nat.le_of_ble_eq_true rfl) dX5_timesLeftHeavier_20 ⟨Nat.le_of_ble_eq_true rfl, Nat.le_of_ble_eq_true rfl⟩ hP hS (fun H locs hP hS => ?_)
      refine lv_if_eq (tgt := 36) hx hb dX5_timesLeftHeavier_23 (by decide) (fun c9 => ?_) (fun c9 => ?_)
      · replace hf := ifp c9 hf
        refine lv_aload_n hx hb dX5_timesLeftHeavier_36 rfl (lv_at hl 0 rfl) ?_
        refine va_get (D := D) (ci := 5) (v := .ref (a 0)) (C := RX5) (T := TX5) (N := 5) hx hb hts hinX5 hown hK.1 hP 0 rfl rfl 0 (by decide) (hts (.fieldLink RX5 11 "RopeScale$Pans" "weight" "[I") (List.mem_of_getElem? (i := 2) rfl)) (fun _ h9 => h9) rfl dX5_timesLeftHeavier_37 ?_
        refine lv_iload hx hb dX5_timesLeftHeavier_40 (lv_at hl 4 rfl) ?_
        obtain ⟨h10, hf⟩ := gd_e hf
        refine va_iald hx hb hK.1 hP 1 0 rfl rfl h10 dX5_timesLeftHeavier_42 ?_
        refine lv_ineg hx hb dX5_timesLeftHeavier_43 ?_
        exact J44 x1 x3 x4 (-(u 0 (ix x4))) x2 _ _ _ hf hP hS (lv_sub hl [0, 1, 3, 4] rfl)
      replace hf := ifn c9 hf
      refine lv_aload_n hx hb dX5_timesLeftHeavier_26 rfl (lv_at hl 0 rfl) ?_
      refine va_get (D := D) (ci := 5) (v := .ref (a 0)) (C := RX5) (T := TX5) (N := 5) hx hb hts hinX5 hown hK.1 hP 0 rfl rfl 0 (by decide) (hts (.fieldLink RX5 11 "RopeScale$Pans" "weight" "[I") (List.mem_of_getElem? (i := 2) rfl)) (fun _ h9 => h9) rfl dX5_timesLeftHeavier_27 ?_
      refine lv_iload hx hb dX5_timesLeftHeavier_30 (lv_at hl 4 rfl) ?_
      obtain ⟨h11, hf⟩ := gd_e hf
      refine va_iald hx hb hK.1 hP 1 0 rfl rfl h11 dX5_timesLeftHeavier_32 ?_
      refine lv_goto (tgt := 44) hx hb dX5_timesLeftHeavier_33 (by decide) ?_
      exact J44 x1 x3 x4 (u 0 (ix x4)) x2 _ _ _ hf hP hS (lv_sub hl [0, 1, 3, 4] rfl)
  unfold fX5_timesLeftHeavier at hf
  refine lv_iconst (v := 0) hx hb dX5_timesLeftHeavier_0 (by decide) ?_
  refine lv_istore_n (lv' := [(2, .int 0), (0, .ref h), (1, .int p1)]) hx hb dX5_timesLeftHeavier_1 rfl hl (by decide) rfl (fun ls hl => ?_)
  refine lv_iconst (v := 0) hx hb dX5_timesLeftHeavier_2 (by decide) ?_
  refine lv_istore_n (lv' := [(3, .int 0), (2, .int 0), (0, .ref h), (1, .int p1)]) hx hb dX5_timesLeftHeavier_3 rfl hl (by decide) rfl (fun ls hl => ?_)
  refine lv_iconst (v := 0) hx hb dX5_timesLeftHeavier_4 (by decide) ?_
  refine lv_istore (lv' := [(4, .int 0), (3, .int 0), (2, .int 0), (0, .ref h), (1, .int p1)]) hx hb dX5_timesLeftHeavier_5 hl (by decide) rfl (fun ls hl => ?_)
  exact L7 FU p1 0 0 0 _ _ _ hf hP hS (lv_sub hl [3, 4, 2, 1, 0] rfl)
def fX5_mostLeftHeavier_J44  (lp7 : Int32 → Int32 → Int32 → Int32 → Option (Int32)) (x1 : Int32) (x3 : Int32) (x4 : Int32) (y0 : Int32) (y1 : Int32) : Option (Int32) := lett (y1 + y0) fun t1 => lett (mx x3 t1) fun t2 => lett (x4 + 1) fun t3 => lp7 x1 t1 t2 t3
def bX5_mostLeftHeavier_L7 (u : St)  (lp7 : Int32 → Int32 → Int32 → Int32 → Option (Int32)) (x1 : Int32) (x2 : Int32) (x3 : Int32) (x4 : Int32) : Option (Int32) := if (u 3 0) ≤ x4 then some x3 else lett (fX11_has x1 x4) fun z5 => if z5 = 0 then gd x4 16 <| fX5_mostLeftHeavier_J44 lp7 x1 x3 x4 (-(u 0 (ix x4))) x2 else gd x4 16 <| fX5_mostLeftHeavier_J44 lp7 x1 x3 x4 (u 0 (ix x4)) x2
def fX5_mostLeftHeavier_L7 (u : St)  : Nat → Int32 → Int32 → Int32 → Int32 → Option (Int32)
  | 0, _, _, _, _ => none
  | n + 1, x1, x2, x3, x4 => bX5_mostLeftHeavier_L7 u (fX5_mostLeftHeavier_L7 u n) x1 x2 x3 x4
def fX5_mostLeftHeavier  (u : St) (p1 : Int32) : Option (Int32) := fX5_mostLeftHeavier_L7 u FU p1 0 0 0
set_option maxHeartbeats 4000000 in
set_option maxRecDepth 100000 in
theorem mX5_mostLeftHeavier (l : Launch) (D : va_G) (T : Ty3) (h : Nat) (a : Nat → Nat) (u : St) (p1 : Int32) (res : Int32) (hf : fX5_mostLeftHeavier u p1 = some res) : Met l yX5_mostLeftHeavier wsX5_mostLeftHeavier ({ frames := 1, cells := 0, slots := 0, locals := 21 }) (PcR D T (kX5 T h a u) [.ref h, .int p1]) (QR res) 0 0 noA := by
  refine Met.ofW (cc := cX5_mostLeftHeavier) (maxL := 5) (ret := (some .int)) (by decide) rfl ?_
  intro p e s m args below meth c s₁ B hml hv
  obtain ⟨rfl, hP, hK⟩ := hv
  have hx := B.exec
  have hb := B.bytes
  have hr := B.returns
  have hts := atoms_spec (ws := wsX5_mostLeftHeavier) B.pre
  have hown : s.vm.findClass RX5 = some m.cls := findClass_of_methodNamed B.named
  have hlocks := B.notSynchronized
  have hS : va_S noA s.heap s.heap [] := va_S.rf
  have hinX5 : ∀ w ∈ u_ws RX5 TX5 5, w ∈ wsX5_mostLeftHeavier := fun w h => List.mem_cons_of_mem _ (List.mem_append_right _ h)
  have hl := lv_entry ([.ref h, .int p1]) (n := 5) (Nat.le_of_ble_eq_true rfl)
  rw [lg_entry_eq]
  generalize (lg_sl ([.ref h, .int p1]) ++ List.replicate (5 - (lg_sl ([.ref h, .int p1])).length) Slot.unset).toArray = ls at hl ⊢
  have hl : lv_has ls 5 [(0, .ref h), (1, .int p1)] := hl
  have L7 : ∀ (n7 : Nat), ∀ (x1 : Int32) (x2 : Int32) (x3 : Int32) (x4 : Int32) (H : Heap) (locs : List Loc) (ls : Array Slot), fX5_mostLeftHeavier_L7 u n7 x1 x2 x3 x4 = some res → va_P D vwCl (kX5 T h a u) H → va_S noA s.heap H locs → lv_has ls 5 [(0, .ref h), (1, .int x1), (2, .int x2), (3, .int x3), (4, .int x4)] → W p l e (headSpec wsX5_mostLeftHeavier ({ frames := 1, cells := 0, slots := 0, locals := 21 })).room s m ([.ref h, .int p1] : List Value).toArray below meth c H locs 0 0 (MQ below (QR res) ([.ref h, .int p1] : List Value).toArray s 0 0 noA) (F0 m 7 ls []) := by
    intro n7
    induction n7 with
    | zero => intro x1 x2 x3 x4 H locs ls hf; exact nns hf
    | succ n7 ih7 =>
      have J44 : ∀ (x1 : Int32) (x3 : Int32) (x4 : Int32) (y0 : Int32) (y1 : Int32) (H : Heap) (locs : List Loc) (ls : Array Slot), fX5_mostLeftHeavier_J44 (fX5_mostLeftHeavier_L7 u n7) x1 x3 x4 y0 y1 = some res → va_P D vwCl (kX5 T h a u) H → va_S noA s.heap H locs → lv_has ls 5 [(0, .ref h), (1, .int x1), (3, .int x3), (4, .int x4)] → W p l e (headSpec wsX5_mostLeftHeavier ({ frames := 1, cells := 0, slots := 0, locals := 21 })).room s m ([.ref h, .int p1] : List Value).toArray below meth c H locs 0 0 (MQ below (QR res) ([.ref h, .int p1] : List Value).toArray s 0 0 noA) (F0 m 44 ls [.int y0, .int y1]) := by
        intro x1 x3 x4 y0 y1 H locs ls hf hP hS hl
        unfold fX5_mostLeftHeavier_J44 at hf
        refine lv_iadd hx hb dX5_mostLeftHeavier_44 ?_
        obtain ⟨t1, et1, hf⟩ := lett_e hf
        refine lv_eqi et1 ?_
        refine lv_istore_n (lv' := [(2, .int t1), (0, .ref h), (1, .int x1), (3, .int x3), (4, .int x4)]) hx hb dX5_mostLeftHeavier_45 rfl hl (by decide) rfl (fun ls hl => ?_)
        refine lv_iload_n hx hb dX5_mostLeftHeavier_46 rfl (lv_at hl 3 rfl) ?_
        refine lv_iload_n hx hb dX5_mostLeftHeavier_47 rfl (lv_at hl 0 rfl) ?_
        refine mmax hx hb (hml.trans hl.1.symm) hown (hts (.methodLink RX5 68 Lib.Math.max.name) (List.mem_of_getElem? (i := 3) rfl)) (hts (.static Lib.Math.max.name) (List.mem_of_getElem? (i := 4) rfl)) (hts (.initialized "java/lang/Math") (List.mem_of_getElem? (i := 5) rfl)) (hts (.code Lib.Math.max.name Lib.Math.max.code 2 (some .int)) (List.mem_of_getElem? (i := 6) rfl)) (Nat.le_of_ble_eq_true rfl) (Nat.le_of_ble_eq_true rfl) (Nat.le_of_ble_eq_true rfl) (Nat.le_of_ble_eq_true rfl) dX5_mostLeftHeavier_48 ?_
        obtain ⟨t2, et2, hf⟩ := lett_e hf
        refine lv_eqi et2 ?_
        refine lv_istore_n (lv' := [(3, .int t2), (2, .int t1), (0, .ref h), (1, .int x1), (4, .int x4)]) hx hb dX5_mostLeftHeavier_51 rfl hl (by decide) rfl (fun ls hl => ?_)
        obtain ⟨t3, et3, hf⟩ := lett_e hf
        refine lv_iinc (v := t3) (lv' := [(4, .int t3), (3, .int t2), (2, .int t1), (0, .ref h), (1, .int x1)]) hx hb dX5_mostLeftHeavier_52 hl (k := 4) rfl (by rw [et3]; rfl) (by decide) rfl (fun ls hl => ?_)
        refine lv_goto (tgt := 7) hx hb dX5_mostLeftHeavier_55 (by decide) ?_
        exact ih7 x1 t1 t2 t3 _ _ _ hf hP hS (lv_sub hl [3, 4, 2, 1, 0] rfl)
      intro x1 x2 x3 x4 H locs ls hf hP hS hl
      replace hf : bX5_mostLeftHeavier_L7 u (fX5_mostLeftHeavier_L7 u n7) x1 x2 x3 x4 = some res := hf
      unfold bX5_mostLeftHeavier_L7 at hf
      refine lv_iload hx hb dX5_mostLeftHeavier_7 (lv_at hl 4 rfl) ?_
      refine lv_aload_n hx hb dX5_mostLeftHeavier_9 rfl (lv_at hl 0 rfl) ?_
      refine va_get (D := D) (ci := 5) (v := .int (u 3 0)) (C := RX5) (T := TX5) (N := 5) hx hb hts hinX5 hown hK.1 hP 0 rfl rfl 3 (by decide) (hts (.fieldLink RX5 22 "RopeScale$Pans" "size" "I") (List.mem_of_getElem? (i := 1) rfl)) (fun _ h9 => h9) rfl dX5_mostLeftHeavier_10 ?_
      refine lv_icmp_ge (tgt := 58) hx hb dX5_mostLeftHeavier_13 (by decide) (fun c4 => ?_) (fun c4 => ?_)
      · replace hf := ifp c4 hf
        refine lv_iload_n hx hb dX5_mostLeftHeavier_58 rfl (lv_at hl 3 rfl) ?_
        exact retR hx hb hr hlocks hS (Option.some.inj hf) dX5_mostLeftHeavier_59
      replace hf := ifn c4 hf
      refine lv_iload_n hx hb dX5_mostLeftHeavier_16 rfl (lv_at hl 2 rfl) ?_
      refine lv_iload_n hx hb dX5_mostLeftHeavier_17 rfl (lv_at hl 1 rfl) ?_
      refine lv_iload hx hb dX5_mostLeftHeavier_18 (lv_at hl 4 rfl) ?_
      obtain ⟨z5, hz5, hf⟩ := lett_e hf
      refine cNR (As := [.int x1, .int x4]) (rest := [.int x2]) ⟨hx, hb, hml, hown, hts⟩ (mX11_has l D T x1 x4 z5 hz5.symm) ⟨va_cnB (host := "RopeScale") (index := 64) 2 hts gX5_mostLeftHeavier_X11_has_n64 rfl rfl rfl (hK.2 _ (List.mem_of_getElem? (i := 24) rfl)) (hts (.initialized RX11) (List.mem_of_getElem? (i := 8) rfl)) (by decide +kernel) ⟨Nat.le_of_ble_eq_true rfl, Nat.le_of_ble_eq_true rfl⟩, (hts (.static yX11_has) (List.mem_of_getElem? (i := 7) rfl)), trivial⟩ P0 hK rfl hl.1 rfl (Nat.le_of_ble_eq_true rfl) dX5_mostLeftHeavier_20 ⟨Nat.le_of_ble_eq_true rfl, Nat.le_of_ble_eq_true rfl⟩ hP hS (fun H locs hP hS => ?_)
      refine lv_if_eq (tgt := 36) hx hb dX5_mostLeftHeavier_23 (by decide) (fun c6 => ?_) (fun c6 => ?_)
      · replace hf := ifp c6 hf
        refine lv_aload_n hx hb dX5_mostLeftHeavier_36 rfl (lv_at hl 0 rfl) ?_
        refine va_get (D := D) (ci := 5) (v := .ref (a 0)) (C := RX5) (T := TX5) (N := 5) hx hb hts hinX5 hown hK.1 hP 0 rfl rfl 0 (by decide) (hts (.fieldLink RX5 11 "RopeScale$Pans" "weight" "[I") (List.mem_of_getElem? (i := 2) rfl)) (fun _ h9 => h9) rfl dX5_mostLeftHeavier_37 ?_
        refine lv_iload hx hb dX5_mostLeftHeavier_40 (lv_at hl 4 rfl) ?_
        obtain ⟨h7, hf⟩ := gd_e hf
        refine va_iald hx hb hK.1 hP 1 0 rfl rfl h7 dX5_mostLeftHeavier_42 ?_
        refine lv_ineg hx hb dX5_mostLeftHeavier_43 ?_
        exact J44 x1 x3 x4 (-(u 0 (ix x4))) x2 _ _ _ hf hP hS (lv_sub hl [0, 1, 3, 4] rfl)
      replace hf := ifn c6 hf
      refine lv_aload_n hx hb dX5_mostLeftHeavier_26 rfl (lv_at hl 0 rfl) ?_
      refine va_get (D := D) (ci := 5) (v := .ref (a 0)) (C := RX5) (T := TX5) (N := 5) hx hb hts hinX5 hown hK.1 hP 0 rfl rfl 0 (by decide) (hts (.fieldLink RX5 11 "RopeScale$Pans" "weight" "[I") (List.mem_of_getElem? (i := 2) rfl)) (fun _ h9 => h9) rfl dX5_mostLeftHeavier_27 ?_
      refine lv_iload hx hb dX5_mostLeftHeavier_30 (lv_at hl 4 rfl) ?_
      obtain ⟨h8, hf⟩ := gd_e hf
      refine va_iald hx hb hK.1 hP 1 0 rfl rfl h8 dX5_mostLeftHeavier_32 ?_
      refine lv_goto (tgt := 44) hx hb dX5_mostLeftHeavier_33 (by decide) ?_
      exact J44 x1 x3 x4 (u 0 (ix x4)) x2 _ _ _ hf hP hS (lv_sub hl [0, 1, 3, 4] rfl)
  unfold fX5_mostLeftHeavier at hf
  refine lv_iconst (v := 0) hx hb dX5_mostLeftHeavier_0 (by decide) ?_
  refine lv_istore_n (lv' := [(2, .int 0), (0, .ref h), (1, .int p1)]) hx hb dX5_mostLeftHeavier_1 rfl hl (by decide) rfl (fun ls hl => ?_)
  refine lv_iconst (v := 0) hx hb dX5_mostLeftHeavier_2 (by decide) ?_
  refine lv_istore_n (lv' := [(3, .int 0), (2, .int 0), (0, .ref h), (1, .int p1)]) hx hb dX5_mostLeftHeavier_3 rfl hl (by decide) rfl (fun ls hl => ?_)
  refine lv_iconst (v := 0) hx hb dX5_mostLeftHeavier_4 (by decide) ?_
  refine lv_istore (lv' := [(4, .int 0), (3, .int 0), (2, .int 0), (0, .ref h), (1, .int p1)]) hx hb dX5_mostLeftHeavier_5 hl (by decide) rfl (fun ls hl => ?_)
  exact L7 FU p1 0 0 0 _ _ _ hf hP hS (lv_sub hl [3, 4, 2, 1, 0] rfl)
def fX6_isOneEach  (uw : St) (p1 : Int32) : Option (Int32) := gd p1 16 <| lett (fJ6_bitCount_0f7a4 (uw 0 (ix p1))) fun z1 => if z1 = 1 then gd p1 16 <| lett (fJ6_bitCount_0f7a4 (uw 1 (ix p1))) fun z3 => if z3 = 1 then some 1 else some 0 else some 0
set_option maxHeartbeats 4000000 in
set_option maxRecDepth 100000 in
theorem mX6_isOneEach (l : Launch) (D : va_G) (T : Ty3) (hw : Nat) (aw : Nat → Nat) (uw : St) (p1 : Int32) (res : Int32) (hf : fX6_isOneEach uw p1 = some res) : Met l yX6_isOneEach wsX6_isOneEach ({ frames := 1, cells := 0, slots := 0, locals := 20 }) (PcR D T (kX10 T hw aw uw) [.ref hw, .int p1]) (QR res) 0 0 noA := by
  refine Met.ofW (cc := cX6_isOneEach) (maxL := 2) (ret := (some .boolean)) (by decide) rfl ?_
  intro p e s m args below meth c s₁ B hml hv
  obtain ⟨rfl, hP, hK⟩ := hv
  have hx := B.exec
  have hb := B.bytes
  have hr := B.returns
  have hts := atoms_spec (ws := wsX6_isOneEach) B.pre
  have hown : s.vm.findClass RX6 = some m.cls := findClass_of_methodNamed B.named
  have hlocks := B.notSynchronized
  have hS : va_S noA s.heap s.heap [] := va_S.rf
  have hinX10 : ∀ w ∈ u_ws RX10 TX10 4, w ∈ wsX6_isOneEach := fun w h => List.mem_cons_of_mem _ (List.mem_append_right _ h)
  have hl := lv_entry ([.ref hw, .int p1]) (n := 2) (Nat.le_of_ble_eq_true rfl)
  rw [lg_entry_eq]
  generalize (lg_sl ([.ref hw, .int p1]) ++ List.replicate (2 - (lg_sl ([.ref hw, .int p1])).length) Slot.unset).toArray = ls at hl ⊢
  have hl : lv_has ls 2 [(0, .ref hw), (1, .int p1)] := hl
  unfold fX6_isOneEach at hf
  refine lv_aload_n hx hb dX6_isOneEach_0 rfl (lv_at hl 0 rfl) ?_
  refine va_get (D := D) (ci := 10) (v := .ref (aw 0)) (C := RX10) (T := TX10) (N := 4) hx hb hts hinX10 hown hK.1 hP 0 rfl rfl 0 (by decide) (hts (.fieldLink RX6 31 "RopeScale$Weighings" "left" "[I") (List.mem_of_getElem? (i := 1) rfl)) (fun _ h9 => h9) rfl dX6_isOneEach_1 ?_
  refine lv_iload_n hx hb dX6_isOneEach_4 rfl (lv_at hl 1 rfl) ?_
  obtain ⟨h6, hf⟩ := gd_e hf
  refine va_iald hx hb hK.1 hP 1 0 rfl rfl h6 dX6_isOneEach_5 ?_
  obtain ⟨z1, hz1, hf⟩ := lett_e hf
  refine cSR (As := [.int (uw 0 (ix p1))]) (rest := []) ⟨hx, hb, hml, hown, hts⟩ (mJ6_bitCount_0f7a4 l D T (uw 0 (ix p1)) z1 hz1.symm) (va_cwS 1 hts gX6_isOneEach_J6_bitCount_0f7a4 rfl rfl rfl (by decide +kernel) ⟨Nat.le_of_ble_eq_true rfl, Nat.le_of_ble_eq_true rfl⟩) P0 hK rfl hl.1 rfl (Nat.le_of_ble_eq_true rfl) dX6_isOneEach_6 ⟨Nat.le_of_ble_eq_true rfl, Nat.le_of_ble_eq_true rfl⟩ hP hS (fun H locs hP hS => ?_)
  refine lv_iconst (v := 1) hx hb dX6_isOneEach_9 (by decide) ?_
  refine lv_icmp_ne (tgt := 30) hx hb dX6_isOneEach_10 (by decide) (fun c2 => ?_) (fun c2 => ?_)
  · replace hf := ifn c2 hf
    refine lv_iconst (v := 0) hx hb dX6_isOneEach_30 (by decide) ?_
    exact retRz hx hb hr hlocks hS rfl (Option.some.inj hf) dX6_isOneEach_31
  replace hf := ifp c2 hf
  refine lv_aload_n hx hb dX6_isOneEach_13 rfl (lv_at hl 0 rfl) ?_
  refine va_get (D := D) (ci := 10) (v := .ref (aw 1)) (C := RX10) (T := TX10) (N := 4) hx hb hts hinX10 hown hK.1 hP 0 rfl rfl 1 (by decide) (hts (.fieldLink RX6 34 "RopeScale$Weighings" "right" "[I") (List.mem_of_getElem? (i := 2) rfl)) (fun _ h9 => h9) rfl dX6_isOneEach_14 ?_
  refine lv_iload_n hx hb dX6_isOneEach_17 rfl (lv_at hl 1 rfl) ?_
  obtain ⟨h5, hf⟩ := gd_e hf
  refine va_iald hx hb hK.1 hP 2 0 rfl rfl h5 dX6_isOneEach_18 ?_
  obtain ⟨z3, hz3, hf⟩ := lett_e hf
  refine cSR (As := [.int (uw 1 (ix p1))]) (rest := []) ⟨hx, hb, hml, hown, hts⟩ (mJ6_bitCount_0f7a4 l D T (uw 1 (ix p1)) z3 hz3.symm) (va_cwS 1 hts gX6_isOneEach_J6_bitCount_0f7a4 rfl rfl rfl (by decide +kernel) ⟨Nat.le_of_ble_eq_true rfl, Nat.le_of_ble_eq_true rfl⟩) P0 hK rfl hl.1 rfl (Nat.le_of_ble_eq_true rfl) dX6_isOneEach_19 ⟨Nat.le_of_ble_eq_true rfl, Nat.le_of_ble_eq_true rfl⟩ hP hS (fun H locs hP hS => ?_)
  refine lv_iconst (v := 1) hx hb dX6_isOneEach_22 (by decide) ?_
  refine lv_icmp_ne (tgt := 30) hx hb dX6_isOneEach_23 (by decide) (fun c4 => ?_) (fun c4 => ?_)
  · replace hf := ifn c4 hf
    refine lv_iconst (v := 0) hx hb dX6_isOneEach_30 (by decide) ?_
    exact retRz hx hb hr hlocks hS rfl (Option.some.inj hf) dX6_isOneEach_31
  replace hf := ifp c4 hf
  refine lv_iconst (v := 1) hx hb dX6_isOneEach_26 (by decide) ?_
  refine lv_goto (tgt := 31) hx hb dX6_isOneEach_27 (by decide) ?_
  exact retRz hx hb hr hlocks hS rfl (Option.some.inj hf) dX6_isOneEach_31
def fX6_join_J25  (lp2 : (Nat → Int32) → Int32 → Int32 → Int32 → Option ((Nat → Int32))) (vr : Nat → Int32) (x1 : Int32) (x2 : Int32) (x3 : Int32) (y0 : Int32) (y1 : Int32) (y2 : Int32) : Option ((Nat → Int32)) := gd y2 16 <| lett (upd vr (ix y2) (y1 ||| y0)) fun u1 => lett (x3 + 1) fun t2 => lp2 u1 x1 x2 t2
def bX6_join_L2   (lp2 : (Nat → Int32) → Int32 → Int32 → Int32 → Option ((Nat → Int32))) (vr : Nat → Int32) (x1 : Int32) (x2 : Int32) (x3 : Int32) : Option ((Nat → Int32)) := if 16 ≤ x3 then some vr else gd x3 16 <| lett (fX11_has x1 x3) fun z5 => if z5 = 0 then fX6_join_J25 lp2 vr x1 x2 x3 0 (vr (ix x3)) x3 else fX6_join_J25 lp2 vr x1 x2 x3 x2 (vr (ix x3)) x3
def fX6_join_L2   : Nat → (Nat → Int32) → Int32 → Int32 → Int32 → Option ((Nat → Int32))
  | 0, _, _, _, _ => none
  | n + 1, vr, x1, x2, x3 => bX6_join_L2  (fX6_join_L2  n) vr x1 x2 x3
def fX6_join  (ur : Nat → Int32) (p1 : Int32) (p2 : Int32) : Option ((Nat → Int32)) := fX6_join_L2 FU ur p1 p2 0
set_option maxHeartbeats 4000000 in
set_option maxRecDepth 100000 in
theorem mX6_join (l : Launch) (D : va_G) (T : Ty3) (qr : Nat) (ur : Nat → Int32) (sz : Nat) (p1 : Int32) (p2 : Int32) (res : (Nat → Int32)) (hf : fX6_join ur p1 p2 = some res) : Met l yX6_join wsX6_join ({ frames := 1, cells := 0, slots := 0, locals := 21 }) (PcM D T ([(qr, .inl (T.1, 16, .inl ur))]) sz [.ref qr, .int p1, .int p2]) (QMv D ([(qr, .inl (T.1, 16, .inl ur))]) sz ([(qr, .inl (T.1, 16, .inl res))])) 0 0 (va_A ([(qr, .inl (T.1, 16, .inl ur))]) sz) := by
  refine Met.ofW (cc := cX6_join) (maxL := 4) (ret := none) (by decide) rfl ?_
  intro p e s m args below meth c s₁ B hml hv
  obtain ⟨rfl, hsz, hP, hK, hD0⟩ := hv
  have hx := B.exec
  have hb := B.bytes
  have hr := B.returns
  have hts := atoms_spec (ws := wsX6_join) B.pre
  have hown : s.vm.findClass RX6 = some m.cls := findClass_of_methodNamed B.named
  have hlocks := B.notSynchronized
  subst hsz
  have hD := hD0.self (sz := s.heap.size)
  have hA : ∀ q : Nat, s.heap.size ≤ q → va_A ([(qr, .inl (T.1, 16, .inl ur))]) s.heap.size q := fun q h => Or.inr h
  have hS : va_S (va_A ([(qr, .inl (T.1, 16, .inl ur))]) s.heap.size) s.heap s.heap [] := va_S.rf
  have hl := lv_entry ([.ref qr, .int p1, .int p2]) (n := 4) (Nat.le_of_ble_eq_true rfl)
  rw [lg_entry_eq]
  generalize (lg_sl ([.ref qr, .int p1, .int p2]) ++ List.replicate (4 - (lg_sl ([.ref qr, .int p1, .int p2])).length) Slot.unset).toArray = ls at hl ⊢
  have hl : lv_has ls 4 [(0, .ref qr), (1, .int p1), (2, .int p2)] := hl
  have L2 : ∀ (n2 : Nat), ∀ (vr : Nat → Int32) (x1 : Int32) (x2 : Int32) (x3 : Int32) (H : Heap) (locs : List Loc) (ls : Array Slot), fX6_join_L2  n2 vr x1 x2 x3 = some res → va_P D vwCl ([(qr, .inl (T.1, 16, .inl vr))]) H → va_D (va_A ([(qr, .inl (T.1, 16, .inl ur))]) s.heap.size) ([(qr, .inl (T.1, 16, .inl vr))]) → va_S (va_A ([(qr, .inl (T.1, 16, .inl ur))]) s.heap.size) s.heap H locs → lv_has ls 4 [(0, .ref qr), (1, .int x1), (2, .int x2), (3, .int x3)] → W p l e (headSpec wsX6_join ({ frames := 1, cells := 0, slots := 0, locals := 21 })).room s m ([.ref qr, .int p1, .int p2] : List Value).toArray below meth c H locs 0 0 (MQ below (QMv D ([(qr, .inl (T.1, 16, .inl ur))]) s.heap.size ([(qr, .inl (T.1, 16, .inl res))])) ([.ref qr, .int p1, .int p2] : List Value).toArray s 0 0 (va_A ([(qr, .inl (T.1, 16, .inl ur))]) s.heap.size)) (F0 m 2 ls []) := by
    intro n2
    induction n2 with
    | zero => intro vr x1 x2 x3 H locs ls hf; exact nns hf
    | succ n2 ih2 =>
      have J25 : ∀ (vr : Nat → Int32) (x1 : Int32) (x2 : Int32) (x3 : Int32) (y0 : Int32) (y1 : Int32) (y2 : Int32) (H : Heap) (locs : List Loc) (ls : Array Slot), fX6_join_J25 (fX6_join_L2  n2) vr x1 x2 x3 y0 y1 y2 = some res → va_P D vwCl ([(qr, .inl (T.1, 16, .inl vr))]) H → va_D (va_A ([(qr, .inl (T.1, 16, .inl ur))]) s.heap.size) ([(qr, .inl (T.1, 16, .inl vr))]) → va_S (va_A ([(qr, .inl (T.1, 16, .inl ur))]) s.heap.size) s.heap H locs → lv_has ls 4 [(0, .ref qr), (1, .int x1), (2, .int x2), (3, .int x3)] → W p l e (headSpec wsX6_join ({ frames := 1, cells := 0, slots := 0, locals := 21 })).room s m ([.ref qr, .int p1, .int p2] : List Value).toArray below meth c H locs 0 0 (MQ below (QMv D ([(qr, .inl (T.1, 16, .inl ur))]) s.heap.size ([(qr, .inl (T.1, 16, .inl res))])) ([.ref qr, .int p1, .int p2] : List Value).toArray s 0 0 (va_A ([(qr, .inl (T.1, 16, .inl ur))]) s.heap.size)) (F0 m 25 ls [.int y0, .int y1, .int y2, .ref qr]) := by
        intro vr x1 x2 x3 y0 y1 y2 H locs ls hf hP hD hS hl
        unfold fX6_join_J25 at hf
        refine lv_ior hx hb dX6_join_25 ?_
        obtain ⟨h3, hf⟩ := gd_e hf
        obtain ⟨u1, eu1, hf⟩ := lett_e hf
        refine va_iast hx hb hK.1 hP hD hS 0 0 rfl rfl h3 dX6_join_26 (fun H locs hP hD hS => ?_)
        have hP : va_P D vwCl ([(qr, .inl (T.1, 16, .inl u1))]) H := by rw [eu1]; exact hP
        have hD : va_D (va_A ([(qr, .inl (T.1, 16, .inl ur))]) s.heap.size) ([(qr, .inl (T.1, 16, .inl u1))]) := by rw [eu1]; exact hD
        obtain ⟨t2, et2, hf⟩ := lett_e hf
        refine lv_iinc (v := t2) (lv' := [(3, .int t2), (0, .ref qr), (1, .int x1), (2, .int x2)]) hx hb dX6_join_27 hl (k := 3) rfl (by rw [et2]; rfl) (by decide) rfl (fun ls hl => ?_)
        refine lv_goto (tgt := 2) hx hb dX6_join_30 (by decide) ?_
        exact ih2 u1 x1 x2 t2 _ _ _ hf hP hD hS (lv_sub hl [1, 2, 3, 0] rfl)
      intro vr x1 x2 x3 H locs ls hf hP hD hS hl
      replace hf : bX6_join_L2  (fX6_join_L2  n2) vr x1 x2 x3 = some res := hf
      unfold bX6_join_L2 at hf
      refine lv_iload_n hx hb dX6_join_2 rfl (lv_at hl 3 rfl) ?_
      refine lv_bipush (v := 16) hx hb dX6_join_3 (by decide) ?_
      refine lv_icmp_ge (tgt := 33) hx hb dX6_join_5 (by decide) (fun c4 => ?_) (fun c4 => ?_)
      · replace hf := ifp c4 hf
        have e9 := Option.some.inj hf
        exact retMv hx hb hr hlocks hP hD hS (congrArg (fun z => ([(qr, .inl (T.1, 16, .inl z))] : va_W)) e9) dX6_join_33
      replace hf := ifn c4 hf
      refine lv_aload_n hx hb dX6_join_8 rfl (lv_at hl 0 rfl) ?_
      refine lv_iload_n hx hb dX6_join_9 rfl (lv_at hl 3 rfl) ?_
      refine lv_dup2_11 hx hb dX6_join_10 rfl rfl ?_
      obtain ⟨h7, hf⟩ := gd_e hf
      refine va_iald hx hb hK.1 hP 0 0 rfl rfl h7 dX6_join_11 ?_
      refine lv_iload_n hx hb dX6_join_12 rfl (lv_at hl 1 rfl) ?_
      refine lv_iload_n hx hb dX6_join_13 rfl (lv_at hl 3 rfl) ?_
      obtain ⟨z5, hz5, hf⟩ := lett_e hf
      refine cNR (As := [.int x1, .int x3]) (rest := [.int (vr (ix x3)), .int x3, .ref qr]) ⟨hx, hb, hml, hown, hts⟩ (mX11_has l D T x1 x3 z5 hz5.symm) ⟨va_cnB (host := "RopeScale") (index := 49) 2 hts gX6_join_X11_has_n49 rfl rfl rfl (hK.2 _ (List.mem_of_getElem? (i := 23) rfl)) (hts (.initialized RX11) (List.mem_of_getElem? (i := 2) rfl)) (by decide +kernel) ⟨Nat.le_of_ble_eq_true rfl, Nat.le_of_ble_eq_true rfl⟩, (hts (.static yX11_has) (List.mem_of_getElem? (i := 1) rfl)), trivial⟩ P0 hK rfl hl.1 rfl (Nat.le_of_ble_eq_true rfl) dX6_join_14 ⟨Nat.le_of_ble_eq_true rfl, Nat.le_of_ble_eq_true rfl⟩ hP hS (fun H locs hP hS => ?_)
      refine lv_if_eq (tgt := 24) hx hb dX6_join_17 (by decide) (fun c6 => ?_) (fun c6 => ?_)
      · replace hf := ifp c6 hf
        refine lv_iconst (v := 0) hx hb dX6_join_24 (by decide) ?_
        exact J25 vr x1 x2 x3 0 (vr (ix x3)) x3 _ _ _ hf hP hD hS (lv_sub hl [0, 1, 2, 3] rfl)
      replace hf := ifn c6 hf
      refine lv_iload_n hx hb dX6_join_20 rfl (lv_at hl 2 rfl) ?_
      refine lv_goto (tgt := 25) hx hb dX6_join_21 (by decide) ?_
      exact J25 vr x1 x2 x3 x2 (vr (ix x3)) x3 _ _ _ hf hP hD hS (lv_sub hl [0, 1, 2, 3] rfl)
  unfold fX6_join at hf
  refine lv_iconst (v := 0) hx hb dX6_join_0 (by decide) ?_
  refine lv_istore_n (lv' := [(3, .int 0), (0, .ref qr), (1, .int p1), (2, .int p2)]) hx hb dX6_join_1 rfl hl (by decide) rfl (fun ls hl => ?_)
  exact L2 FU ur p1 p2 0 _ _ _ hf hP hD hS (lv_sub hl [1, 2, 3, 0] rfl)
def fX6_close_J37  (lp2 : (Nat → Int32) → Int32 → Option ((Nat → Int32))) (lp10 : (Nat → Int32) → Int32 → Int32 → Option ((Nat → Int32))) (vr : Nat → Int32) (x1 : Int32) (x2 : Int32) (y0 : Int32) (y1 : Int32) (y2 : Int32) : Option ((Nat → Int32)) := gd y2 16 <| lett (upd vr (ix y2) (y1 ||| y0)) fun u1 => lett (x2 + 1) fun t2 => lp10 u1 x1 t2
def bX6_close_L10  (lp2 : (Nat → Int32) → Int32 → Option ((Nat → Int32))) (lp10 : (Nat → Int32) → Int32 → Int32 → Option ((Nat → Int32))) (vr : Nat → Int32) (x1 : Int32) (x2 : Int32) : Option ((Nat → Int32)) := if 16 ≤ x2 then lett (x1 + 1) fun t5 => lp2 vr t5 else gd x2 16 <| gd x2 16 <| lett (fX11_has (vr (ix x2)) x1) fun z6 => if z6 = 0 then fX6_close_J37 lp2 lp10 vr x1 x2 0 (vr (ix x2)) x2 else gd x1 16 <| fX6_close_J37 lp2 lp10 vr x1 x2 (vr (ix x1)) (vr (ix x2)) x2
def fX6_close_L10  (lp2 : (Nat → Int32) → Int32 → Option ((Nat → Int32))) : Nat → (Nat → Int32) → Int32 → Int32 → Option ((Nat → Int32))
  | 0, _, _, _ => none
  | n + 1, vr, x1, x2 => bX6_close_L10 lp2 (fX6_close_L10 lp2 n) vr x1 x2
def bX6_close_L2   (lp2 : (Nat → Int32) → Int32 → Option ((Nat → Int32))) (vr : Nat → Int32) (x1 : Int32) : Option ((Nat → Int32)) := if 16 ≤ x1 then some vr else fX6_close_L10 lp2 FU vr x1 0
def fX6_close_L2   : Nat → (Nat → Int32) → Int32 → Option ((Nat → Int32))
  | 0, _, _ => none
  | n + 1, vr, x1 => bX6_close_L2  (fX6_close_L2  n) vr x1
def fX6_close  (ur : Nat → Int32)  : Option ((Nat → Int32)) := fX6_close_L2 FU ur 0
set_option maxHeartbeats 4000000 in
set_option maxRecDepth 100000 in
theorem mX6_close (l : Launch) (D : va_G) (T : Ty3) (qr : Nat) (ur : Nat → Int32) (sz : Nat)  (res : (Nat → Int32)) (hf : fX6_close ur = some res) : Met l yX6_close wsX6_close ({ frames := 1, cells := 0, slots := 0, locals := 21 }) (PcM D T ([(qr, .inl (T.1, 16, .inl ur))]) sz [.ref qr]) (QMv D ([(qr, .inl (T.1, 16, .inl ur))]) sz ([(qr, .inl (T.1, 16, .inl res))])) 0 0 (va_A ([(qr, .inl (T.1, 16, .inl ur))]) sz) := by
  refine Met.ofW (cc := cX6_close) (maxL := 3) (ret := none) (by decide) rfl ?_
  intro p e s m args below meth c s₁ B hml hv
  obtain ⟨rfl, hsz, hP, hK, hD0⟩ := hv
  have hx := B.exec
  have hb := B.bytes
  have hr := B.returns
  have hts := atoms_spec (ws := wsX6_close) B.pre
  have hown : s.vm.findClass RX6 = some m.cls := findClass_of_methodNamed B.named
  have hlocks := B.notSynchronized
  subst hsz
  have hD := hD0.self (sz := s.heap.size)
  have hA : ∀ q : Nat, s.heap.size ≤ q → va_A ([(qr, .inl (T.1, 16, .inl ur))]) s.heap.size q := fun q h => Or.inr h
  have hS : va_S (va_A ([(qr, .inl (T.1, 16, .inl ur))]) s.heap.size) s.heap s.heap [] := va_S.rf
  have hl := lv_entry ([.ref qr]) (n := 3) (Nat.le_of_ble_eq_true rfl)
  rw [lg_entry_eq]
  generalize (lg_sl ([.ref qr]) ++ List.replicate (3 - (lg_sl ([.ref qr])).length) Slot.unset).toArray = ls at hl ⊢
  have hl : lv_has ls 3 [(0, .ref qr)] := hl
  have L2 : ∀ (n2 : Nat), ∀ (vr : Nat → Int32) (x1 : Int32) (H : Heap) (locs : List Loc) (ls : Array Slot), fX6_close_L2  n2 vr x1 = some res → va_P D vwCl ([(qr, .inl (T.1, 16, .inl vr))]) H → va_D (va_A ([(qr, .inl (T.1, 16, .inl ur))]) s.heap.size) ([(qr, .inl (T.1, 16, .inl vr))]) → va_S (va_A ([(qr, .inl (T.1, 16, .inl ur))]) s.heap.size) s.heap H locs → lv_has ls 3 [(0, .ref qr), (1, .int x1)] → W p l e (headSpec wsX6_close ({ frames := 1, cells := 0, slots := 0, locals := 21 })).room s m ([.ref qr] : List Value).toArray below meth c H locs 0 0 (MQ below (QMv D ([(qr, .inl (T.1, 16, .inl ur))]) s.heap.size ([(qr, .inl (T.1, 16, .inl res))])) ([.ref qr] : List Value).toArray s 0 0 (va_A ([(qr, .inl (T.1, 16, .inl ur))]) s.heap.size)) (F0 m 2 ls []) := by
    intro n2
    induction n2 with
    | zero => intro vr x1 H locs ls hf; exact nns hf
    | succ n2 ih2 =>
      have L10 : ∀ (n10 : Nat), ∀ (vr : Nat → Int32) (x1 : Int32) (x2 : Int32) (H : Heap) (locs : List Loc) (ls : Array Slot), fX6_close_L10 (fX6_close_L2  n2) n10 vr x1 x2 = some res → va_P D vwCl ([(qr, .inl (T.1, 16, .inl vr))]) H → va_D (va_A ([(qr, .inl (T.1, 16, .inl ur))]) s.heap.size) ([(qr, .inl (T.1, 16, .inl vr))]) → va_S (va_A ([(qr, .inl (T.1, 16, .inl ur))]) s.heap.size) s.heap H locs → lv_has ls 3 [(0, .ref qr), (1, .int x1), (2, .int x2)] → W p l e (headSpec wsX6_close ({ frames := 1, cells := 0, slots := 0, locals := 21 })).room s m ([.ref qr] : List Value).toArray below meth c H locs 0 0 (MQ below (QMv D ([(qr, .inl (T.1, 16, .inl ur))]) s.heap.size ([(qr, .inl (T.1, 16, .inl res))])) ([.ref qr] : List Value).toArray s 0 0 (va_A ([(qr, .inl (T.1, 16, .inl ur))]) s.heap.size)) (F0 m 10 ls []) := by
        intro n10
        induction n10 with
        | zero => intro vr x1 x2 H locs ls hf; exact nns hf
        | succ n10 ih10 =>
          have J37 : ∀ (vr : Nat → Int32) (x1 : Int32) (x2 : Int32) (y0 : Int32) (y1 : Int32) (y2 : Int32) (H : Heap) (locs : List Loc) (ls : Array Slot), fX6_close_J37 (fX6_close_L2  n2) (fX6_close_L10 (fX6_close_L2  n2) n10) vr x1 x2 y0 y1 y2 = some res → va_P D vwCl ([(qr, .inl (T.1, 16, .inl vr))]) H → va_D (va_A ([(qr, .inl (T.1, 16, .inl ur))]) s.heap.size) ([(qr, .inl (T.1, 16, .inl vr))]) → va_S (va_A ([(qr, .inl (T.1, 16, .inl ur))]) s.heap.size) s.heap H locs → lv_has ls 3 [(0, .ref qr), (1, .int x1), (2, .int x2)] → W p l e (headSpec wsX6_close ({ frames := 1, cells := 0, slots := 0, locals := 21 })).room s m ([.ref qr] : List Value).toArray below meth c H locs 0 0 (MQ below (QMv D ([(qr, .inl (T.1, 16, .inl ur))]) s.heap.size ([(qr, .inl (T.1, 16, .inl res))])) ([.ref qr] : List Value).toArray s 0 0 (va_A ([(qr, .inl (T.1, 16, .inl ur))]) s.heap.size)) (F0 m 37 ls [.int y0, .int y1, .int y2, .ref qr]) := by
            intro vr x1 x2 y0 y1 y2 H locs ls hf hP hD hS hl
            unfold fX6_close_J37 at hf
            refine lv_ior hx hb dX6_close_37 ?_
            obtain ⟨h3, hf⟩ := gd_e hf
            obtain ⟨u1, eu1, hf⟩ := lett_e hf
            refine va_iast hx hb hK.1 hP hD hS 0 0 rfl rfl h3 dX6_close_38 (fun H locs hP hD hS => ?_)
            have hP : va_P D vwCl ([(qr, .inl (T.1, 16, .inl u1))]) H := by rw [eu1]; exact hP
            have hD : va_D (va_A ([(qr, .inl (T.1, 16, .inl ur))]) s.heap.size) ([(qr, .inl (T.1, 16, .inl u1))]) := by rw [eu1]; exact hD
            obtain ⟨t2, et2, hf⟩ := lett_e hf
            refine lv_iinc (v := t2) (lv' := [(2, .int t2), (0, .ref qr), (1, .int x1)]) hx hb dX6_close_39 hl (k := 2) rfl (by rw [et2]; rfl) (by decide) rfl (fun ls hl => ?_)
            refine lv_goto (tgt := 10) hx hb dX6_close_42 (by decide) ?_
            exact ih10 u1 x1 t2 _ _ _ hf hP hD hS (lv_sub hl [1, 2, 0] rfl)
          intro vr x1 x2 H locs ls hf hP hD hS hl
          replace hf : bX6_close_L10 (fX6_close_L2  n2) (fX6_close_L10 (fX6_close_L2  n2) n10) vr x1 x2 = some res := hf
          unfold bX6_close_L10 at hf
          refine lv_iload_n hx hb dX6_close_10 rfl (lv_at hl 2 rfl) ?_
          refine lv_bipush (v := 16) hx hb dX6_close_11 (by decide) ?_
          refine lv_icmp_ge (tgt := 45) hx hb dX6_close_13 (by decide) (fun c4 => ?_) (fun c4 => ?_)
          · replace hf := ifp c4 hf
            obtain ⟨t5, et5, hf⟩ := lett_e hf
            refine lv_iinc (v := t5) (lv' := [(1, .int t5), (0, .ref qr), (2, .int x2)]) hx hb dX6_close_45 hl (k := 1) rfl (by rw [et5]; rfl) (by decide) rfl (fun ls hl => ?_)
            refine lv_goto (tgt := 2) hx hb dX6_close_48 (by decide) ?_
            exact ih2 vr t5 _ _ _ hf hP hD hS (lv_sub hl [1, 0] rfl)
          replace hf := ifn c4 hf
          refine lv_aload_n hx hb dX6_close_16 rfl (lv_at hl 0 rfl) ?_
          refine lv_iload_n hx hb dX6_close_17 rfl (lv_at hl 2 rfl) ?_
          refine lv_dup2_11 hx hb dX6_close_18 rfl rfl ?_
          obtain ⟨h10, hf⟩ := gd_e hf
          refine va_iald hx hb hK.1 hP 0 0 rfl rfl h10 dX6_close_19 ?_
          refine lv_aload_n hx hb dX6_close_20 rfl (lv_at hl 0 rfl) ?_
          refine lv_iload_n hx hb dX6_close_21 rfl (lv_at hl 2 rfl) ?_
          obtain ⟨h9, hf⟩ := gd_e hf
          refine va_iald hx hb hK.1 hP 0 0 rfl rfl h9 dX6_close_22 ?_
          refine lv_iload_n hx hb dX6_close_23 rfl (lv_at hl 1 rfl) ?_
          obtain ⟨z6, hz6, hf⟩ := lett_e hf
          refine cNR (As := [.int (vr (ix x2)), .int x1]) (rest := [.int (vr (ix x2)), .int x2, .ref qr]) ⟨hx, hb, hml, hown, hts⟩ (mX11_has l D T (vr (ix x2)) x1 z6 hz6.symm) ⟨va_cnB (host := "RopeScale") (index := 49) 2 hts gX6_close_X11_has_n49 rfl rfl rfl (hK.2 _ (List.mem_of_getElem? (i := 23) rfl)) (hts (.initialized RX11) (List.mem_of_getElem? (i := 2) rfl)) (by decide +kernel) ⟨Nat.le_of_ble_eq_true rfl, Nat.le_of_ble_eq_true rfl⟩, (hts (.static yX11_has) (List.mem_of_getElem? (i := 1) rfl)), trivial⟩ P0 hK rfl hl.1 rfl (Nat.le_of_ble_eq_true rfl) dX6_close_24 ⟨Nat.le_of_ble_eq_true rfl, Nat.le_of_ble_eq_true rfl⟩ hP hS (fun H locs hP hS => ?_)
          refine lv_if_eq (tgt := 36) hx hb dX6_close_27 (by decide) (fun c7 => ?_) (fun c7 => ?_)
          · replace hf := ifp c7 hf
            refine lv_iconst (v := 0) hx hb dX6_close_36 (by decide) ?_
            exact J37 vr x1 x2 0 (vr (ix x2)) x2 _ _ _ hf hP hD hS (lv_sub hl [0, 1, 2] rfl)
          replace hf := ifn c7 hf
          refine lv_aload_n hx hb dX6_close_30 rfl (lv_at hl 0 rfl) ?_
          refine lv_iload_n hx hb dX6_close_31 rfl (lv_at hl 1 rfl) ?_
          obtain ⟨h8, hf⟩ := gd_e hf
          refine va_iald hx hb hK.1 hP 0 0 rfl rfl h8 dX6_close_32 ?_
          refine lv_goto (tgt := 37) hx hb dX6_close_33 (by decide) ?_
          exact J37 vr x1 x2 (vr (ix x1)) (vr (ix x2)) x2 _ _ _ hf hP hD hS (lv_sub hl [0, 1, 2] rfl)
      intro vr x1 H locs ls hf hP hD hS hl
      replace hf : bX6_close_L2  (fX6_close_L2  n2) vr x1 = some res := hf
      unfold bX6_close_L2 at hf
      refine lv_iload_n hx hb dX6_close_2 rfl (lv_at hl 1 rfl) ?_
      refine lv_bipush (v := 16) hx hb dX6_close_3 (by decide) ?_
      refine lv_icmp_ge (tgt := 51) hx hb dX6_close_5 (by decide) (fun c11 => ?_) (fun c11 => ?_)
      · replace hf := ifp c11 hf
        have e9 := Option.some.inj hf
        exact retMv hx hb hr hlocks hP hD hS (congrArg (fun z => ([(qr, .inl (T.1, 16, .inl z))] : va_W)) e9) dX6_close_51
      replace hf := ifn c11 hf
      refine lv_iconst (v := 0) hx hb dX6_close_8 (by decide) ?_
      refine lv_istore_n (lv' := [(2, .int 0), (0, .ref qr), (1, .int x1)]) hx hb dX6_close_9 rfl hl (by decide) rfl (fun ls hl => ?_)
      exact L10 FU vr x1 0 _ _ _ hf hP hD hS (lv_sub hl [1, 2, 0] rfl)
  unfold fX6_close at hf
  refine lv_iconst (v := 0) hx hb dX6_close_0 (by decide) ?_
  refine lv_istore_n (lv' := [(1, .int 0), (0, .ref qr)]) hx hb dX6_close_1 rfl hl (by decide) rfl (fun ls hl => ?_)
  exact L2 FU ur 0 _ _ _ hf hP hD hS (lv_sub hl [1, 0] rfl)
