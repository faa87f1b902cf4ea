def fX5_markFrom_J14 (rc : St → (Nat → Int64) → Int32 → Int32 → Int32 → Option ((Nat → Int64)))   (vw : Nat → Int64) (x2 : Int32) : Option ((Nat → Int64)) := lett (mn (ab x2) 2040) fun t1 => gd (t1 / 64) 32 <| gd (t1 / 64) 32 <| lett (vp_updL vw (ix (t1 / 64)) ((vw (ix (t1 / 64))) ||| (jlshl 1 (jrem t1 64)))) fun u2 => some u2
def bX5_markFrom (rc : St → (Nat → Int64) → Int32 → Int32 → Int32 → Option ((Nat → Int64)))  (u : St) (uw : Nat → Int64) (p1 : Int32) (p2 : Int32) (p3 : Int32) : Option ((Nat → Int64)) := if (u 3 0) ≤ p1 then fX5_markFrom_J14 rc uw p2 else if p1 < 8 then (rc u uw (p1 + 1) p2 p3).bind fun z7 => gd p1 16 <| (rc u z7 (p1 + 1) (p2 + (u 0 (ix p1))) p3).bind fun z8 => if p3 = 0 then some z8 else gd p1 16 <| (rc u z8 (p1 + 1) (p2 - (u 0 (ix p1))) p3).bind fun z10 => some z10 else fX5_markFrom_J14 rc uw p2
def fX5_markFrom : Nat → St → (Nat → Int64) → Int32 → Int32 → Int32 → Option ((Nat → Int64))
  | 0, _, _, _, _, _ => none
  | d + 1, u, uw, p1, p2, p3 => bX5_markFrom (fX5_markFrom d) u uw p1 p2 p3
set_option maxHeartbeats 4000000 in
set_option maxRecDepth 100000 in
theorem mX5_markFrom (l : Launch) (D : va_G) (T : Ty3) : ∀ (d : Nat), ∀ (h : Nat) (a : Nat → Nat) (u : St) (uw : Nat → Int64) (sz : Nat) (p1 : Int32) (p2 : Int32) (p3 : Int32) (res : (Nat → Int64)), fX5_markFrom d u uw p1 p2 p3 = some res → Met l yX5_markFrom wsX5_markFrom ({ frames := 1 + d * 1, cells := 0, slots := 0, locals := 13 + d * 24 }) (PcM D T (kX5 T h a u ++ [((a 2), .inl (T.2.2, 32, .inr (.inl uw)))]) sz [.ref h, .int p1, .int p2, .int p3]) (QMv D (kX5 T h a u ++ [((a 2), .inl (T.2.2, 32, .inr (.inl uw)))]) sz (kX5 T h a u ++ [((a 2), .inl (T.2.2, 32, .inr (.inl res)))])) 0 0 (va_A (kX5 T h a u ++ [((a 2), .inl (T.2.2, 32, .inr (.inl uw)))]) sz) := by
  intro d
  induction d with
  | zero => intro h a u uw sz p1 p2 p3 res hf; exact nns hf
  | succ d hrc =>
    intro h a u uw sz p1 p2 p3 res hf
    replace hf : bX5_markFrom (fX5_markFrom d) u uw p1 p2 p3 = some res := hf
    generalize hrce : fX5_markFrom d = rc at hrc hf
    refine Met.ofW (cc := cX5_markFrom) (maxL := 5) (ret := none) (by decide) rfl ?_
    intro p e s m args below meth c s₁ B hml hv
    obtain ⟨rfl, hsz, hP, hK, hD0⟩ := hv
    have hx := B.exec
    have hb := B.bytes
    have hr := B.returns
    have hts := atoms_spec (ws := wsX5_markFrom) B.pre
    have hown : s.vm.findClass RX5 = some m.cls := findClass_of_methodNamed B.named
    have hlocks := B.notSynchronized
    subst hsz
    have hD := hD0.self (sz := s.heap.size)
    have hA : ∀ q : Nat, s.heap.size ≤ q → va_A (kX5 T h a u ++ [((a 2), .inl (T.2.2, 32, .inr (.inl uw)))]) s.heap.size q := fun q h => Or.inr h
    have hS : va_S (va_A (kX5 T h a u ++ [((a 2), .inl (T.2.2, 32, .inr (.inl uw)))]) s.heap.size) s.heap s.heap [] := va_S.rf
    have hinX5 : ∀ w ∈ u_ws RX5 TX5 5, w ∈ wsX5_markFrom := fun w h => List.mem_cons_of_mem _ (List.mem_append_right _ h)
    have hl := lv_entry ([.ref h, .int p1, .int p2, .int p3]) (n := 5) (Nat.le_of_ble_eq_true rfl)
    rw [lg_entry_eq]
    generalize (lg_sl ([.ref h, .int p1, .int p2, .int p3]) ++ List.replicate (5 - (lg_sl ([.ref h, .int p1, .int p2, .int p3])).length) Slot.unset).toArray = ls at hl ⊢
    have hl : lv_has ls 5 [(0, .ref h), (1, .int p1), (2, .int p2), (3, .int p3)] := hl
    have J14 : ∀ (vw : Nat → Int64) (x2 : Int32) (H : Heap) (locs : List Loc) (ls : Array Slot), fX5_markFrom_J14 rc vw x2 = some res → va_P D vwCl (kX5 T h a u ++ [((a 2), .inl (T.2.2, 32, .inr (.inl vw)))]) H → va_D (va_A (kX5 T h a u ++ [((a 2), .inl (T.2.2, 32, .inr (.inl uw)))]) s.heap.size) (kX5 T h a u ++ [((a 2), .inl (T.2.2, 32, .inr (.inl vw)))]) → va_S (va_A (kX5 T h a u ++ [((a 2), .inl (T.2.2, 32, .inr (.inl uw)))]) s.heap.size) s.heap H locs → lv_has ls 5 [(0, .ref h), (2, .int x2)] → W p l e (headSpec wsX5_markFrom ({ frames := 1 + (d + 1) * 1, cells := 0, slots := 0, locals := 13 + (d + 1) * 24 })).room s m ([.ref h, .int p1, .int p2, .int p3] : List Value).toArray below meth c H locs 0 0 (MQ below (QMv D (kX5 T h a u ++ [((a 2), .inl (T.2.2, 32, .inr (.inl uw)))]) s.heap.size (kX5 T h a u ++ [((a 2), .inl (T.2.2, 32, .inr (.inl res)))])) ([.ref h, .int p1, .int p2, .int p3] : List Value).toArray s 0 0 (va_A (kX5 T h a u ++ [((a 2), .inl (T.2.2, 32, .inr (.inl uw)))]) s.heap.size)) (F0 m 14 ls []) := by
      intro vw x2 H locs ls hf hP hD hS hl
      unfold fX5_markFrom_J14 at hf
      refine lv_iload_n hx hb dX5_markFrom_14 rfl (lv_at hl 1 rfl) ?_
      refine mabs hx hb (hml.trans hl.1.symm) hown (hts (.methodLink RX5 54 Lib.Math.abs.name) (List.mem_of_getElem? (i := 2) rfl)) (hts (.static Lib.Math.abs.name) (List.mem_of_getElem? (i := 3) rfl)) (hts (.initialized "java/lang/Math") (List.mem_of_getElem? (i := 4) rfl)) (hts (.code Lib.Math.abs.name Lib.Math.abs.code 1 (some .int)) (List.mem_of_getElem? (i := 5) rfl)) (by show 1 ≤ 1 + (d + 1) * 1; omega) (by show 0 + 13 ≤ 13 + (d + 1) * 24; omega) (Nat.le_of_ble_eq_true rfl) (Nat.le_of_ble_eq_true rfl) dX5_markFrom_15 ?_
      refine lv_sipush (v := 2040) hx hb dX5_markFrom_18 (by decide) ?_
      refine mmin hx hb (hml.trans hl.1.symm) hown (hts (.methodLink RX5 29 Lib.Math.min.name) (List.mem_of_getElem? (i := 6) rfl)) (hts (.static Lib.Math.min.name) (List.mem_of_getElem? (i := 7) rfl)) (hts (.initialized "java/lang/Math") (List.mem_of_getElem? (i := 4) rfl)) (hts (.code Lib.Math.min.name Lib.Math.min.code 2 (some .int)) (List.mem_of_getElem? (i := 8) rfl)) (by show 1 ≤ 1 + (d + 1) * 1; omega) (by show 0 + 13 ≤ 13 + (d + 1) * 24; omega) (Nat.le_of_ble_eq_true rfl) (Nat.le_of_ble_eq_true rfl) dX5_markFrom_21 ?_
      obtain ⟨t1, et1, hf⟩ := lett_e hf
      refine lv_eqi et1 ?_
      refine lv_istore (lv' := [(4, .int t1), (0, .ref h), (2, .int x2)]) hx hb dX5_markFrom_24 hl (by decide) rfl (fun ls hl => ?_)
      refine lv_aload_n hx hb dX5_markFrom_26 rfl (lv_at hl 1 rfl) ?_
      refine va_get (D := D) (ci := 5) (v := .ref (a 2)) (C := RX5) (T := TX5) (N := 5) hx hb hts hinX5 hown hK.1 hP 0 rfl rfl 2 (by decide) (hts (.fieldLink RX5 18 "RopeScale$Pans" "weighed" "[J") (List.mem_of_getElem? (i := 9) rfl)) (fun _ h9 => h9) rfl dX5_markFrom_27 ?_
      refine lv_iload hx hb dX5_markFrom_30 (lv_at hl 0 rfl) ?_
      refine lv_bipush (v := 64) hx hb dX5_markFrom_32 (by decide) ?_
      refine lv_idiv hx hb dX5_markFrom_34 (by decide) ?_
      refine lv_dup2_11 hx hb dX5_markFrom_35 rfl rfl ?_
      obtain ⟨h4, hf⟩ := gd_e hf
      refine va_lald hx hb hK.1 hP 3 2 rfl rfl h4 dX5_markFrom_36 ?_
      refine lv_lconst (v := 1) hx hb dX5_markFrom_37 (by decide) ?_
      refine lv_iload hx hb dX5_markFrom_38 (lv_at hl 0 rfl) ?_
      refine lv_bipush (v := 64) hx hb dX5_markFrom_40 (by decide) ?_
      refine lv_irem hx hb dX5_markFrom_42 (by decide) ?_
      refine lv_lshl hx hb dX5_markFrom_43 rfl ?_
      refine lv_lor hx hb dX5_markFrom_44 ?_
      obtain ⟨h3, hf⟩ := gd_e hf
      obtain ⟨u2, eu2, hf⟩ := lett_e hf
      refine va_last hx hb hK.1 hP hD hS 3 2 rfl rfl h3 dX5_markFrom_45 (fun H locs hP hD hS => ?_)
      have hP : va_P D vwCl (kX5 T h a u ++ [((a 2), .inl (T.2.2, 32, .inr (.inl u2)))]) H := by rw [eu2]; exact hP
      have hD : va_D (va_A (kX5 T h a u ++ [((a 2), .inl (T.2.2, 32, .inr (.inl uw)))]) s.heap.size) (kX5 T h a u ++ [((a 2), .inl (T.2.2, 32, .inr (.inl u2)))]) := by rw [eu2]; exact hD
      have e9 := Option.some.inj hf
      exact retMv hx hb hr hlocks hP hD hS (congrArg (fun z => (kX5 T h a u ++ [((a 2), .inl (T.2.2, 32, .inr (.inl z)))] : va_W)) e9) dX5_markFrom_46
    unfold bX5_markFrom at hf
    refine lv_iload_n hx hb dX5_markFrom_0 rfl (lv_at hl 1 rfl) ?_
    refine lv_aload_n hx hb dX5_markFrom_1 rfl (lv_at hl 0 rfl) ?_
    refine va_get (D := D) (ci := 5) (v := .int (u 3 0)) (C := RX5) (T := TX5) (N := 5) hx hb hts hinX5 hown hK.1 hP 0 rfl rfl 3 (by decide) (hts (.fieldLink RX5 22 "RopeScale$Pans" "size" "I") (List.mem_of_getElem? (i := 1) rfl)) (fun _ h9 => h9) rfl dX5_markFrom_2 ?_
    refine lv_icmp_ge (tgt := 14) hx hb dX5_markFrom_5 (by decide) (fun c5 => ?_) (fun c5 => ?_)
    · replace hf := ifp c5 hf
      exact J14 uw p2 _ _ _ hf hP hD hS (lv_sub hl [0, 2] rfl)
    replace hf := ifn c5 hf
    refine lv_iload_n hx hb dX5_markFrom_8 rfl (lv_at hl 1 rfl) ?_
    refine lv_bipush (v := 8) hx hb dX5_markFrom_9 (by decide) ?_
    refine lv_icmp_lt (tgt := 47) hx hb dX5_markFrom_11 (by decide) (fun c6 => ?_) (fun c6 => ?_)
    · replace hf := ifp c6 hf
      refine lv_aload_n hx hb dX5_markFrom_47 rfl (lv_at hl 0 rfl) ?_
      refine lv_iload_n hx hb dX5_markFrom_48 rfl (lv_at hl 1 rfl) ?_
      refine lv_iconst (v := 1) hx hb dX5_markFrom_49 (by decide) ?_
      refine lv_iadd hx hb dX5_markFrom_50 ?_
      refine lv_iload_n hx hb dX5_markFrom_51 rfl (lv_at hl 2 rfl) ?_
      refine lv_iload_n hx hb dX5_markFrom_52 rfl (lv_at hl 3 rfl) ?_
      obtain ⟨z7, hz7, hf⟩ := bnd hf
      have hFc9 := vaA_self hD hS hA
      refine cVMv (As := [.int (p1 + 1), .int p2, .int p3]) (rest := []) ⟨hx, hb, hml, hown, hts⟩ (hrc h a u uw _ (p1 + 1) p2 p3 z7 hz7) (cwV 3 hts gX5_markFrom_X5_markFrom rfl rfl rfl (by decide +kernel) ⟨by show 1 + d * 1 + 1 ≤ 1 + (d + 1) * 1; omega, by show 8 + (5 + 11) + (13 + d * 24) ≤ 13 + (d + 1) * 24; omega⟩) (va_recv hK.1 hP (ci := 5) (q0 := 0) rfl rfl) hP hK rfl hl.1 rfl (Nat.le_of_ble_eq_true rfl) dX5_markFrom_53 ⟨Nat.le_of_ble_eq_true rfl, Nat.le_of_ble_eq_true rfl⟩ hD hFc9 hS (fun H locs hP hD1 _ hS => ?_)
      have hD := hD1.weaken (fun _ _ _ h9 => hFc9 _ h9)
      refine lv_aload_n hx hb dX5_markFrom_56 rfl (lv_at hl 0 rfl) ?_
      refine lv_iload_n hx hb dX5_markFrom_57 rfl (lv_at hl 1 rfl) ?_
      refine lv_iconst (v := 1) hx hb dX5_markFrom_58 (by decide) ?_
      refine lv_iadd hx hb dX5_markFrom_59 ?_
      refine lv_iload_n hx hb dX5_markFrom_60 rfl (lv_at hl 2 rfl) ?_
      refine lv_aload_n hx hb dX5_markFrom_61 rfl (lv_at hl 0 rfl) ?_
      refine va_get (D := D) (ci := 5) (v := .ref (a 0)) (C := RX5) (T := TX5) (N := 5) hx hb hts hinX5 hown hK.1 hP 0 rfl rfl 0 (by decide) (hts (.fieldLink RX5 11 "RopeScale$Pans" "weight" "[I") (List.mem_of_getElem? (i := 10) rfl)) (fun _ h9 => h9) rfl dX5_markFrom_62 ?_
      refine lv_iload_n hx hb dX5_markFrom_65 rfl (lv_at hl 1 rfl) ?_
      obtain ⟨h12, hf⟩ := gd_e hf
      refine va_iald hx hb hK.1 hP 1 0 rfl rfl h12 dX5_markFrom_66 ?_
      refine lv_iadd hx hb dX5_markFrom_67 ?_
      refine lv_iload_n hx hb dX5_markFrom_68 rfl (lv_at hl 3 rfl) ?_
      obtain ⟨z8, hz8, hf⟩ := bnd hf
      have hFc9 := vaA_self hD hS hA
      refine cVMv (As := [.int (p1 + 1), .int (p2 + (u 0 (ix p1))), .int p3]) (rest := []) ⟨hx, hb, hml, hown, hts⟩ (hrc h a u z7 _ (p1 + 1) (p2 + (u 0 (ix p1))) p3 z8 hz8) (cwV 3 hts gX5_markFrom_X5_markFrom rfl rfl rfl (by decide +kernel) ⟨by show 1 + d * 1 + 1 ≤ 1 + (d + 1) * 1; omega, by show 8 + (5 + 11) + (13 + d * 24) ≤ 13 + (d + 1) * 24; omega⟩) (va_recv hK.1 hP (ci := 5) (q0 := 0) rfl rfl) hP hK rfl hl.1 rfl (Nat.le_of_ble_eq_true rfl) dX5_markFrom_69 ⟨Nat.le_of_ble_eq_true rfl, Nat.le_of_ble_eq_true rfl⟩ hD hFc9 hS (fun H locs hP hD1 _ hS => ?_)
      have hD := hD1.weaken (fun _ _ _ h9 => hFc9 _ h9)
      refine lv_iload_n hx hb dX5_markFrom_72 rfl (lv_at hl 3 rfl) ?_
      refine lv_if_eq (tgt := 92) hx hb dX5_markFrom_73 (by decide) (fun c9 => ?_) (fun c9 => ?_)
      · replace hf := ifp c9 hf
        have e9 := Option.some.inj hf
        exact retMv hx hb hr hlocks hP hD hS (congrArg (fun z => (kX5 T h a u ++ [((a 2), .inl (T.2.2, 32, .inr (.inl z)))] : va_W)) e9) dX5_markFrom_92
      replace hf := ifn c9 hf
      refine lv_aload_n hx hb dX5_markFrom_76 rfl (lv_at hl 0 rfl) ?_
      refine lv_iload_n hx hb dX5_markFrom_77 rfl (lv_at hl 1 rfl) ?_
      refine lv_iconst (v := 1) hx hb dX5_markFrom_78 (by decide) ?_
      refine lv_iadd hx hb dX5_markFrom_79 ?_
      refine lv_iload_n hx hb dX5_markFrom_80 rfl (lv_at hl 2 rfl) ?_
      refine lv_aload_n hx hb dX5_markFrom_81 rfl (lv_at hl 0 rfl) ?_
      refine va_get (D := D) (ci := 5) (v := .ref (a 0)) (C := RX5) (T := TX5) (N := 5) hx hb hts hinX5 hown hK.1 hP 0 rfl rfl 0 (by decide) (hts (.fieldLink RX5 11 "RopeScale$Pans" "weight" "[I") (List.mem_of_getElem? (i := 10) rfl)) (fun _ h9 => h9) rfl dX5_markFrom_82 ?_
      refine lv_iload_n hx hb dX5_markFrom_85 rfl (lv_at hl 1 rfl) ?_
      obtain ⟨h11, hf⟩ := gd_e hf
      refine va_iald hx hb hK.1 hP 1 0 rfl rfl h11 dX5_markFrom_86 ?_
      refine lv_isub hx hb dX5_markFrom_87 ?_
      refine lv_iload_n hx hb dX5_markFrom_88 rfl (lv_at hl 3 rfl) ?_
      obtain ⟨z10, hz10, hf⟩ := bnd hf
      have hFc9 := vaA_self hD hS hA
      refine cVMv (As := [.int (p1 + 1), .int (p2 - (u 0 (ix p1))), .int p3]) (rest := []) ⟨hx, hb, hml, hown, hts⟩ (hrc h a u z8 _ (p1 + 1) (p2 - (u 0 (ix p1))) p3 z10 hz10) (cwV 3 hts gX5_markFrom_X5_markFrom rfl rfl rfl (by decide +kernel) ⟨by show 1 + d * 1 + 1 ≤ 1 + (d + 1) * 1; omega, by show 8 + (5 + 11) + (13 + d * 24) ≤ 13 + (d + 1) * 24; omega⟩) (va_recv hK.1 hP (ci := 5) (q0 := 0) rfl rfl) hP hK rfl hl.1 rfl (Nat.le_of_ble_eq_true rfl) dX5_markFrom_89 ⟨Nat.le_of_ble_eq_true rfl, Nat.le_of_ble_eq_true rfl⟩ hD hFc9 hS (fun H locs hP hD1 _ hS => ?_)
      have hD := hD1.weaken (fun _ _ _ h9 => hFc9 _ h9)
      have e9 := Option.some.inj hf
      exact retMv hx hb hr hlocks hP hD hS (congrArg (fun z => (kX5 T h a u ++ [((a 2), .inl (T.2.2, 32, .inr (.inl z)))] : va_W)) e9) dX5_markFrom_92
    replace hf := ifn c6 hf
    exact J14 uw p2 _ _ _ hf hP hD hS (lv_sub hl [0, 2] rfl)
def fX5_tryStones_J16 (rc : St → Int32 → Int32 → Int32 → Option (St))   (v : St) (x1 : Int32) (x2 : Int32) (x3 : Int32) : Option (St) := if (v 3 0) ≤ x1 then some v else if 8 ≤ x1 then some v else if x3 < (v 4 0) then (rc v (x1 + 1) x2 x3).bind fun z4 => gd x1 16 <| (rc z4 (x1 + 1) (x2 - (z4 0 (ix x1))) (x3 + 1)).bind fun z5 => gd x1 16 <| (rc z5 (x1 + 1) (x2 + (z5 0 (ix x1))) (x3 + 1)).bind fun z6 => some z6 else some v
def bX5_tryStones (rc : St → Int32 → Int32 → Int32 → Option (St))  (u : St) (p1 : Int32) (p2 : Int32) (p3 : Int32) : Option (St) := if p2 = 0 then lett (st u 4 0 (mn (u 4 0) p3)) fun u10 => fX5_tryStones_J16 rc u10 p1 p2 p3 else fX5_tryStones_J16 rc u p1 p2 p3
def fX5_tryStones : Nat → St → Int32 → Int32 → Int32 → Option (St)
  | 0, _, _, _, _ => none
  | d + 1, u, p1, p2, p3 => bX5_tryStones (fX5_tryStones d) u p1 p2 p3
set_option maxHeartbeats 4000000 in
set_option maxRecDepth 100000 in
theorem mX5_tryStones (l : Launch) (D : va_G) (T : Ty3) : ∀ (d : Nat), ∀ (h : Nat) (a : Nat → Nat) (u : St) (sz : Nat) (p1 : Int32) (p2 : Int32) (p3 : Int32) (res : St), fX5_tryStones d u p1 p2 p3 = some res → Met l yX5_tryStones wsX5_tryStones ({ frames := 1 + d * 1, cells := 0, slots := 0, locals := 14 + d * 23 }) (PcM D T (kX5 T h a u) sz [.ref h, .int p1, .int p2, .int p3]) (QMv D (kX5 T h a u) sz (kX5 T h a res)) 0 0 (va_A (kX5 T h a u) sz) := by
  intro d
  induction d with
  | zero => intro h a u sz p1 p2 p3 res hf; exact nns hf
  | succ d hrc =>
    intro h a u sz p1 p2 p3 res hf
    replace hf : bX5_tryStones (fX5_tryStones d) u p1 p2 p3 = some res := hf
    generalize hrce : fX5_tryStones d = rc at hrc hf
    refine Met.ofW (cc := cX5_tryStones) (maxL := 4) (ret := none) (by decide) rfl ?_
    intro p e s m args below meth c s₁ B hml hv
    obtain ⟨rfl, hsz, hP, hK, hD0⟩ := hv
    have hx := B.exec
    have hb := B.bytes
    have hr := B.returns
    have hts := atoms_spec (ws := wsX5_tryStones) B.pre
    have hown : s.vm.findClass RX5 = some m.cls := findClass_of_methodNamed B.named
    have hlocks := B.notSynchronized
    subst hsz
    have hD := hD0.self (sz := s.heap.size)
    have hA : ∀ q : Nat, s.heap.size ≤ q → va_A (kX5 T h a u) s.heap.size q := fun q h => Or.inr h
    have hS : va_S (va_A (kX5 T h a u) s.heap.size) s.heap s.heap [] := va_S.rf
    have hinX5 : ∀ w ∈ u_ws RX5 TX5 5, w ∈ wsX5_tryStones := fun w h => List.mem_cons_of_mem _ (List.mem_append_right _ h)
    have hl := lv_entry ([.ref h, .int p1, .int p2, .int p3]) (n := 4) (Nat.le_of_ble_eq_true rfl)
    rw [lg_entry_eq]
    generalize (lg_sl ([.ref h, .int p1, .int p2, .int p3]) ++ List.replicate (4 - (lg_sl ([.ref h, .int p1, .int p2, .int p3])).length) Slot.unset).toArray = ls at hl ⊢
    have hl : lv_has ls 4 [(0, .ref h), (1, .int p1), (2, .int p2), (3, .int p3)] := hl
    have J16 : ∀ (v : St) (x1 : Int32) (x2 : Int32) (x3 : Int32) (H : Heap) (locs : List Loc) (ls : Array Slot), fX5_tryStones_J16 rc v x1 x2 x3 = some res → va_P D vwCl (kX5 T h a v) H → va_D (va_A (kX5 T h a u) s.heap.size) (kX5 T h a v) → va_S (va_A (kX5 T h a u) s.heap.size) s.heap H locs → lv_has ls 4 [(0, .ref h), (1, .int x1), (2, .int x2), (3, .int x3)] → W p l e (headSpec wsX5_tryStones ({ frames := 1 + (d + 1) * 1, cells := 0, slots := 0, locals := 14 + (d + 1) * 23 })).room s m ([.ref h, .int p1, .int p2, .int p3] : List Value).toArray below meth c H locs 0 0 (MQ below (QMv D (kX5 T h a u) s.heap.size (kX5 T h a res)) ([.ref h, .int p1, .int p2, .int p3] : List Value).toArray s 0 0 (va_A (kX5 T h a u) s.heap.size)) (F0 m 16 ls []) := by
      intro v x1 x2 x3 H locs ls hf hP hD hS hl
      unfold fX5_tryStones_J16 at hf
      refine lv_iload_n hx hb dX5_tryStones_16 rfl (lv_at hl 1 rfl) ?_
      refine lv_aload_n hx hb dX5_tryStones_17 rfl (lv_at hl 0 rfl) ?_
      refine va_get (D := D) (ci := 5) (v := .int (v 3 0)) (C := RX5) (T := TX5) (N := 5) hx hb hts hinX5 hown hK.1 hP 0 rfl rfl 3 (by decide) (hts (.fieldLink RX5 22 "RopeScale$Pans" "size" "I") (List.mem_of_getElem? (i := 6) rfl)) (fun _ h9 => h9) rfl dX5_tryStones_18 ?_
      refine lv_icmp_ge (tgt := 38) hx hb dX5_tryStones_21 (by decide) (fun c1 => ?_) (fun c1 => ?_)
      · replace hf := ifp c1 hf
        have e9 := Option.some.inj hf
        exact retMv hx hb hr hlocks hP hD hS (congrArg (fun z => (kX5 T h a z : va_W)) e9) dX5_tryStones_38
      replace hf := ifn c1 hf
      refine lv_iload_n hx hb dX5_tryStones_24 rfl (lv_at hl 1 rfl) ?_
      refine lv_bipush (v := 8) hx hb dX5_tryStones_25 (by decide) ?_
      refine lv_icmp_ge (tgt := 38) hx hb dX5_tryStones_27 (by decide) (fun c2 => ?_) (fun c2 => ?_)
      · replace hf := ifp c2 hf
        have e9 := Option.some.inj hf
        exact retMv hx hb hr hlocks hP hD hS (congrArg (fun z => (kX5 T h a z : va_W)) e9) dX5_tryStones_38
      replace hf := ifn c2 hf
      refine lv_iload_n hx hb dX5_tryStones_30 rfl (lv_at hl 3 rfl) ?_
      refine lv_aload_n hx hb dX5_tryStones_31 rfl (lv_at hl 0 rfl) ?_
      refine va_get (D := D) (ci := 5) (v := .int (v 4 0)) (C := RX5) (T := TX5) (N := 5) hx hb hts hinX5 hown hK.1 hP 0 rfl rfl 4 (by decide) (hts (.fieldLink RX5 26 "RopeScale$Pans" "best" "I") (List.mem_of_getElem? (i := 1) rfl)) (fun _ h9 => h9) rfl dX5_tryStones_32 ?_
      refine lv_icmp_lt (tgt := 39) hx hb dX5_tryStones_35 (by decide) (fun c3 => ?_) (fun c3 => ?_)
      · replace hf := ifp c3 hf
        refine lv_aload_n hx hb dX5_tryStones_39 rfl (lv_at hl 0 rfl) ?_
        refine lv_iload_n hx hb dX5_tryStones_40 rfl (lv_at hl 1 rfl) ?_
        refine lv_iconst (v := 1) hx hb dX5_tryStones_41 (by decide) ?_
        refine lv_iadd hx hb dX5_tryStones_42 ?_
        refine lv_iload_n hx hb dX5_tryStones_43 rfl (lv_at hl 2 rfl) ?_
        refine lv_iload_n hx hb dX5_tryStones_44 rfl (lv_at hl 3 rfl) ?_
        obtain ⟨z4, hz4, hf⟩ := bnd hf
        have hFc9 := vaA_self hD hS hA
        refine cVMv (As := [.int (x1 + 1), .int x2, .int x3]) (rest := []) ⟨hx, hb, hml, hown, hts⟩ (hrc h a v _ (x1 + 1) x2 x3 z4 hz4) (cwV 3 hts gX5_tryStones_X5_tryStones rfl rfl rfl (by decide +kernel) ⟨by show 1 + d * 1 + 1 ≤ 1 + (d + 1) * 1; omega, by show 8 + (4 + 11) + (14 + d * 23) ≤ 14 + (d + 1) * 23; omega⟩) (va_recv hK.1 hP (ci := 5) (q0 := 0) rfl rfl) hP hK rfl hl.1 rfl (Nat.le_of_ble_eq_true rfl) dX5_tryStones_45 ⟨Nat.le_of_ble_eq_true rfl, Nat.le_of_ble_eq_true rfl⟩ hD hFc9 hS (fun H locs hP hD1 _ hS => ?_)
        have hD := hD1.weaken (fun _ _ _ h9 => hFc9 _ h9)
        refine lv_aload_n hx hb dX5_tryStones_48 rfl (lv_at hl 0 rfl) ?_
        refine lv_iload_n hx hb dX5_tryStones_49 rfl (lv_at hl 1 rfl) ?_
        refine lv_iconst (v := 1) hx hb dX5_tryStones_50 (by decide) ?_
        refine lv_iadd hx hb dX5_tryStones_51 ?_
        refine lv_iload_n hx hb dX5_tryStones_52 rfl (lv_at hl 2 rfl) ?_
        refine lv_aload_n hx hb dX5_tryStones_53 rfl (lv_at hl 0 rfl) ?_
        refine va_get (D := D) (ci := 5) (v := .ref (a 0)) (C := RX5) (T := TX5) (N := 5) hx hb hts hinX5 hown hK.1 hP 0 rfl rfl 0 (by decide) (hts (.fieldLink RX5 11 "RopeScale$Pans" "weight" "[I") (List.mem_of_getElem? (i := 7) rfl)) (fun _ h9 => h9) rfl dX5_tryStones_54 ?_
        refine lv_iload_n hx hb dX5_tryStones_57 rfl (lv_at hl 1 rfl) ?_
        obtain ⟨h8, hf⟩ := gd_e hf
        refine va_iald hx hb hK.1 hP 1 0 rfl rfl h8 dX5_tryStones_58 ?_
        refine lv_isub hx hb dX5_tryStones_59 ?_
        refine lv_iload_n hx hb dX5_tryStones_60 rfl (lv_at hl 3 rfl) ?_
        refine lv_iconst (v := 1) hx hb dX5_tryStones_61 (by decide) ?_
        refine lv_iadd hx hb dX5_tryStones_62 ?_
        obtain ⟨z5, hz5, hf⟩ := bnd hf
        have hFc9 := vaA_self hD hS hA
        refine cVMv (As := [.int (x1 + 1), .int (x2 - (z4 0 (ix x1))), .int (x3 + 1)]) (rest := []) ⟨hx, hb, hml, hown, hts⟩ (hrc h a z4 _ (x1 + 1) (x2 - (z4 0 (ix x1))) (x3 + 1) z5 hz5) (cwV 3 hts gX5_tryStones_X5_tryStones rfl rfl rfl (by decide +kernel) ⟨by show 1 + d * 1 + 1 ≤ 1 + (d + 1) * 1; omega, by show 8 + (4 + 11) + (14 + d * 23) ≤ 14 + (d + 1) * 23; omega⟩) (va_recv hK.1 hP (ci := 5) (q0 := 0) rfl rfl) hP hK rfl hl.1 rfl (Nat.le_of_ble_eq_true rfl) dX5_tryStones_63 ⟨Nat.le_of_ble_eq_true rfl, Nat.le_of_ble_eq_true rfl⟩ hD hFc9 hS (fun H locs hP hD1 _ hS => ?_)
        have hD := hD1.weaken (fun _ _ _ h9 => hFc9 _ h9)
        refine lv_aload_n hx hb dX5_tryStones_66 rfl (lv_at hl 0 rfl) ?_
        refine lv_iload_n hx hb dX5_tryStones_67 rfl (lv_at hl 1 rfl) ?_
        refine lv_iconst (v := 1) hx hb dX5_tryStones_68 (by decide) ?_
        refine lv_iadd hx hb dX5_tryStones_69 ?_
        refine lv_iload_n hx hb dX5_tryStones_70 rfl (lv_at hl 2 rfl) ?_
        refine lv_aload_n hx hb dX5_tryStones_71 rfl (lv_at hl 0 rfl) ?_
        refine va_get (D := D) (ci := 5) (v := .ref (a 0)) (C := RX5) (T := TX5) (N := 5) hx hb hts hinX5 hown hK.1 hP 0 rfl rfl 0 (by decide) (hts (.fieldLink RX5 11 "RopeScale$Pans" "weight" "[I") (List.mem_of_getElem? (i := 7) rfl)) (fun _ h9 => h9) rfl dX5_tryStones_72 ?_
        refine lv_iload_n hx hb dX5_tryStones_75 rfl (lv_at hl 1 rfl) ?_
        obtain ⟨h7, hf⟩ := gd_e hf
        refine va_iald hx hb hK.1 hP 1 0 rfl rfl h7 dX5_tryStones_76 ?_
        refine lv_iadd hx hb dX5_tryStones_77 ?_
        refine lv_iload_n hx hb dX5_tryStones_78 rfl (lv_at hl 3 rfl) ?_
        refine lv_iconst (v := 1) hx hb dX5_tryStones_79 (by decide) ?_
        refine lv_iadd hx hb dX5_tryStones_80 ?_
        obtain ⟨z6, hz6, hf⟩ := bnd hf
        have hFc9 := vaA_self hD hS hA
        refine cVMv (As := [.int (x1 + 1), .int (x2 + (z5 0 (ix x1))), .int (x3 + 1)]) (rest := []) ⟨hx, hb, hml, hown, hts⟩ (hrc h a z5 _ (x1 + 1) (x2 + (z5 0 (ix x1))) (x3 + 1) z6 hz6) (cwV 3 hts gX5_tryStones_X5_tryStones rfl rfl rfl (by decide +kernel) ⟨by show 1 + d * 1 + 1 ≤ 1 + (d + 1) * 1; omega, by show 8 + (4 + 11) + (14 + d * 23) ≤ 14 + (d + 1) * 23; omega⟩) (va_recv hK.1 hP (ci := 5) (q0 := 0) rfl rfl) hP hK rfl hl.1 rfl (Nat.le_of_ble_eq_true rfl) dX5_tryStones_81 ⟨Nat.le_of_ble_eq_true rfl, Nat.le_of_ble_eq_true rfl⟩ hD hFc9 hS (fun H locs hP hD1 _ hS => ?_)
        have hD := hD1.weaken (fun _ _ _ h9 => hFc9 _ h9)
        have e9 := Option.some.inj hf
        exact retMv hx hb hr hlocks hP hD hS (congrArg (fun z => (kX5 T h a z : va_W)) e9) dX5_tryStones_84
      replace hf := ifn c3 hf
      have e9 := Option.some.inj hf
      exact retMv hx hb hr hlocks hP hD hS (congrArg (fun z => (kX5 T h a z : va_W)) e9) dX5_tryStones_38
    unfold bX5_tryStones at hf
    refine lv_iload_n hx hb dX5_tryStones_0 rfl (lv_at hl 2 rfl) ?_
    refine lv_if_ne (tgt := 16) hx hb dX5_tryStones_1 (by decide) (fun c9 => ?_) (fun c9 => ?_)
    · replace hf := ifn c9 hf
      exact J16 u p1 p2 p3 _ _ _ hf hP hD hS (lv_sub hl [0, 1, 2, 3] rfl)
    replace hf := ifp c9 hf
    refine lv_aload_n hx hb dX5_tryStones_4 rfl (lv_at hl 0 rfl) ?_
    refine lv_aload_n hx hb dX5_tryStones_5 rfl (lv_at hl 0 rfl) ?_
    refine va_get (D := D) (ci := 5) (v := .int (u 4 0)) (C := RX5) (T := TX5) (N := 5) hx hb hts hinX5 hown hK.1 hP 0 rfl rfl 4 (by decide) (hts (.fieldLink RX5 26 "RopeScale$Pans" "best" "I") (List.mem_of_getElem? (i := 1) rfl)) (fun _ h9 => h9) rfl dX5_tryStones_6 ?_
    refine lv_iload_n hx hb dX5_tryStones_9 rfl (lv_at hl 3 rfl) ?_
    refine mmin hx hb (hml.trans hl.1.symm) hown (hts (.methodLink RX5 29 Lib.Math.min.name) (List.mem_of_getElem? (i := 2) rfl)) (hts (.static Lib.Math.min.name) (List.mem_of_getElem? (i := 3) rfl)) (hts (.initialized "java/lang/Math") (List.mem_of_getElem? (i := 4) rfl)) (hts (.code Lib.Math.min.name Lib.Math.min.code 2 (some .int)) (List.mem_of_getElem? (i := 5) rfl)) (by show 1 ≤ 1 + (d + 1) * 1; omega) (by show 1 + 13 ≤ 14 + (d + 1) * 23; omega) (Nat.le_of_ble_eq_true rfl) (Nat.le_of_ble_eq_true rfl) dX5_tryStones_10 ?_
    obtain ⟨u10, eu10, hf⟩ := lett_e hf
    refine va_put (D := D) (ci := 5) (v := .int (mn (u 4 0) p3)) (ty := .int) (C := RX5) (T := TX5) (N := 5) hx hb hts hinX5 tyX5 tyX5_ok nmX5 hown hK.1 hP hD hS 0 rfl rfl 4 (by decide) (hts (.fieldLink RX5 26 "RopeScale$Pans" "best" "I") (List.mem_of_getElem? (i := 1) rfl)) (fun _ h9 => h9) rfl (tyX5_ok 4 (by decide)) rfl rfl (Nat.le_of_ble_eq_true rfl) dX5_tryStones_13 (fun H locs hP hD hS => ?_)
    have hP : va_P D vwCl (kX5 T h a u10) H := by rw [eu10]; exact hP
    have hD : va_D (va_A (kX5 T h a u) s.heap.size) (kX5 T h a u10) := by rw [eu10]; exact hD
    exact J16 u10 p1 p2 p3 _ _ _ hf hP hD hS (lv_sub hl [0, 1, 2, 3] rfl)
def fX5_seat_J13 (rc : St → Int32 → Int32 → Int32 → Option (St))   (v : St) (x3 : Int32) : Option (St) := lett (st v 4 0 (mn (v 4 0) (ab x3))) fun u1 => some u1
def fX5_seat_J91 (rc : St → Int32 → Int32 → Int32 → Option (St))  (lp32 : St → Int32 → Int32 → Int32 → Int32 → Option (St)) (v : St) (x1 : Int32) (x2 : Int32) (x3 : Int32) (x4 : Int32) (y0 : Int32) : Option (St) := (rc v (x1 + 1) (x2 ||| (jshl 1 x4)) (x3 + y0)).bind fun z2 => lett (x4 + 1) fun t3 => lp32 z2 x1 x2 x3 t3
def bX5_seat_L32 (rc : St → Int32 → Int32 → Int32 → Option (St))   (lp32 : St → Int32 → Int32 → Int32 → Int32 → Option (St)) (v : St) (x1 : Int32) (x2 : Int32) (x3 : Int32) (x4 : Int32) : Option (St) := if 10 ≤ x4 then some v else if (v 4 0) ≤ 0 then some v else lett (fX11_has x2 x4) fun z6 => if z6 = 0 then lett ((jrem x4 5) + 1) fun t9 => if 5 ≤ x4 then gd x1 16 <| fX5_seat_J91 rc lp32 v x1 x2 x3 x4 ((-t9) * (v 0 (ix x1))) else gd x1 16 <| fX5_seat_J91 rc lp32 v x1 x2 x3 x4 (t9 * (v 0 (ix x1))) else lett (x4 + 1) fun t8 => lp32 v x1 x2 x3 t8
def fX5_seat_L32 (rc : St → Int32 → Int32 → Int32 → Option (St))   : Nat → St → Int32 → Int32 → Int32 → Int32 → Option (St)
  | 0, _, _, _, _, _ => none
  | n + 1, v, x1, x2, x3, x4 => bX5_seat_L32 rc (fX5_seat_L32 rc n) v x1 x2 x3 x4
def bX5_seat (rc : St → Int32 → Int32 → Int32 → Option (St))  (u : St) (p1 : Int32) (p2 : Int32) (p3 : Int32) : Option (St) := if (u 3 0) ≤ p1 then fX5_seat_J13 rc u p3 else if p1 < 5 then fX5_seat_L32 rc FU u p1 p2 p3 0 else fX5_seat_J13 rc u p3
def fX5_seat : Nat → St → Int32 → Int32 → Int32 → Option (St)
  | 0, _, _, _, _ => none
  | d + 1, u, p1, p2, p3 => bX5_seat (fX5_seat d) u p1 p2 p3
set_option maxHeartbeats 4000000 in
set_option maxRecDepth 100000 in
theorem mX5_seat (l : Launch) (D : va_G) (T : Ty3) : ∀ (d : Nat), ∀ (h : Nat) (a : Nat → Nat) (u : St) (sz : Nat) (p1 : Int32) (p2 : Int32) (p3 : Int32) (res : St), fX5_seat d u p1 p2 p3 = some res → Met l yX5_seat wsX5_seat ({ frames := 1 + d * 1, cells := 0, slots := 0, locals := 21 + d * 26 }) (PcM D T (kX5 T h a u) sz [.ref h, .int p1, .int p2, .int p3]) (QMv D (kX5 T h a u) sz (kX5 T h a res)) 0 0 (va_A (kX5 T h a u) sz) := by
  intro d
  induction d with
  | zero => intro h a u sz p1 p2 p3 res hf; exact nns hf
  | succ d hrc =>
    intro h a u sz p1 p2 p3 res hf
    replace hf : bX5_seat (fX5_seat d) u p1 p2 p3 = some res := hf
    generalize hrce : fX5_seat d = rc at hrc hf
    refine Met.ofW (cc := cX5_seat) (maxL := 7) (ret := none) (by decide) rfl ?_
    intro p e s m args below meth c s₁ B hml hv
    obtain ⟨rfl, hsz, hP, hK, hD0⟩ := hv
    have hx := B.exec
    have hb := B.bytes
    have hr := B.returns
    have hts := atoms_spec (ws := wsX5_seat) B.pre
    have hown : s.vm.findClass RX5 = some m.cls := findClass_of_methodNamed B.named
    have hlocks := B.notSynchronized
    subst hsz
    have hD := hD0.self (sz := s.heap.size)
    have hA : ∀ q : Nat, s.heap.size ≤ q → va_A (kX5 T h a u) s.heap.size q := fun q h => Or.inr h
    have hS : va_S (va_A (kX5 T h a u) s.heap.size) s.heap s.heap [] := va_S.rf
    have hinX5 : ∀ w ∈ u_ws RX5 TX5 5, w ∈ wsX5_seat := fun w h => List.mem_cons_of_mem _ (List.mem_append_right _ h)
    have hl := lv_entry ([.ref h, .int p1, .int p2, .int p3]) (n := 7) (Nat.le_of_ble_eq_true rfl)
    rw [lg_entry_eq]
    generalize (lg_sl ([.ref h, .int p1, .int p2, .int p3]) ++ List.replicate (7 - (lg_sl ([.ref h, .int p1, .int p2, .int p3])).length) Slot.unset).toArray = ls at hl ⊢
    have hl : lv_has ls 7 [(0, .ref h), (1, .int p1), (2, .int p2), (3, .int p3)] := hl
    have J13 : ∀ (v : St) (x3 : Int32) (H : Heap) (locs : List Loc) (ls : Array Slot), fX5_seat_J13 rc v x3 = some res → va_P D vwCl (kX5 T h a v) H → va_D (va_A (kX5 T h a u) s.heap.size) (kX5 T h a v) → va_S (va_A (kX5 T h a u) s.heap.size) s.heap H locs → lv_has ls 7 [(0, .ref h), (3, .int x3)] → W p l e (headSpec wsX5_seat ({ frames := 1 + (d + 1) * 1, cells := 0, slots := 0, locals := 21 + (d + 1) * 26 })).room s m ([.ref h, .int p1, .int p2, .int p3] : List Value).toArray below meth c H locs 0 0 (MQ below (QMv D (kX5 T h a u) s.heap.size (kX5 T h a res)) ([.ref h, .int p1, .int p2, .int p3] : List Value).toArray s 0 0 (va_A (kX5 T h a u) s.heap.size)) (F0 m 13 ls []) := by
      intro v x3 H locs ls hf hP hD hS hl
      unfold fX5_seat_J13 at hf
      refine lv_aload_n hx hb dX5_seat_13 rfl (lv_at hl 0 rfl) ?_
      refine lv_aload_n hx hb dX5_seat_14 rfl (lv_at hl 0 rfl) ?_
      refine va_get (D := D) (ci := 5) (v := .int (v 4 0)) (C := RX5) (T := TX5) (N := 5) hx hb hts hinX5 hown hK.1 hP 0 rfl rfl 4 (by decide) (hts (.fieldLink RX5 26 "RopeScale$Pans" "best" "I") (List.mem_of_getElem? (i := 2) rfl)) (fun _ h9 => h9) rfl dX5_seat_15 ?_
      refine lv_iload_n hx hb dX5_seat_18 rfl (lv_at hl 1 rfl) ?_
      refine mabs hx hb (hml.trans hl.1.symm) hown (hts (.methodLink RX5 54 Lib.Math.abs.name) (List.mem_of_getElem? (i := 3) rfl)) (hts (.static Lib.Math.abs.name) (List.mem_of_getElem? (i := 4) rfl)) (hts (.initialized "java/lang/Math") (List.mem_of_getElem? (i := 5) rfl)) (hts (.code Lib.Math.abs.name Lib.Math.abs.code 1 (some .int)) (List.mem_of_getElem? (i := 6) rfl)) (by show 1 ≤ 1 + (d + 1) * 1; omega) (by show 2 + 13 ≤ 21 + (d + 1) * 26; omega) (Nat.le_of_ble_eq_true rfl) (Nat.le_of_ble_eq_true rfl) dX5_seat_19 ?_
      refine mmin hx hb (hml.trans hl.1.symm) hown (hts (.methodLink RX5 29 Lib.Math.min.name) (List.mem_of_getElem? (i := 7) rfl)) (hts (.static Lib.Math.min.name) (List.mem_of_getElem? (i := 8) rfl)) (hts (.initialized "java/lang/Math") (List.mem_of_getElem? (i := 5) rfl)) (hts (.code Lib.Math.min.name Lib.Math.min.code 2 (some .int)) (List.mem_of_getElem? (i := 9) rfl)) (by show 1 ≤ 1 + (d + 1) * 1; omega) (by show 1 + 13 ≤ 21 + (d + 1) * 26; omega) (Nat.le_of_ble_eq_true rfl) (Nat.le_of_ble_eq_true rfl) dX5_seat_22 ?_
      obtain ⟨u1, eu1, hf⟩ := lett_e hf
      refine va_put (D := D) (ci := 5) (v := .int (mn (v 4 0) (ab x3))) (ty := .int) (C := RX5) (T := TX5) (N := 5) hx hb hts hinX5 tyX5 tyX5_ok nmX5 hown hK.1 hP hD hS 0 rfl rfl 4 (by decide) (hts (.fieldLink RX5 26 "RopeScale$Pans" "best" "I") (List.mem_of_getElem? (i := 2) rfl)) (fun _ h9 => h9) rfl (tyX5_ok 4 (by decide)) rfl rfl (Nat.le_of_ble_eq_true rfl) dX5_seat_25 (fun H locs hP hD hS => ?_)
      have hP : va_P D vwCl (kX5 T h a u1) H := by rw [eu1]; exact hP
      have hD : va_D (va_A (kX5 T h a u) s.heap.size) (kX5 T h a u1) := by rw [eu1]; exact hD
      have e9 := Option.some.inj hf
      exact retMv hx hb hr hlocks hP hD hS (congrArg (fun z => (kX5 T h a z : va_W)) e9) dX5_seat_28
    have L32 : ∀ (n32 : Nat), ∀ (v : St) (x1 : Int32) (x2 : Int32) (x3 : Int32) (x4 : Int32) (H : Heap) (locs : List Loc) (ls : Array Slot), fX5_seat_L32 rc n32 v x1 x2 x3 x4 = some res → va_P D vwCl (kX5 T h a v) H → va_D (va_A (kX5 T h a u) s.heap.size) (kX5 T h a v) → va_S (va_A (kX5 T h a u) s.heap.size) s.heap H locs → lv_has ls 7 [(0, .ref h), (1, .int x1), (2, .int x2), (3, .int x3), (4, .int x4)] → W p l e (headSpec wsX5_seat ({ frames := 1 + (d + 1) * 1, cells := 0, slots := 0, locals := 21 + (d + 1) * 26 })).room s m ([.ref h, .int p1, .int p2, .int p3] : List Value).toArray below meth c H locs 0 0 (MQ below (QMv D (kX5 T h a u) s.heap.size (kX5 T h a res)) ([.ref h, .int p1, .int p2, .int p3] : List Value).toArray s 0 0 (va_A (kX5 T h a u) s.heap.size)) (F0 m 32 ls []) := by
      intro n32
      induction n32 with
      | zero => intro v x1 x2 x3 x4 H locs ls hf; exact nns hf
      | succ n32 ih32 =>
        have J91 : ∀ (v : St) (x1 : Int32) (x2 : Int32) (x3 : Int32) (x4 : Int32) (y0 : Int32) (H : Heap) (locs : List Loc) (ls : Array Slot), fX5_seat_J91 rc (fX5_seat_L32 rc n32) v x1 x2 x3 x4 y0 = some res → va_P D vwCl (kX5 T h a v) H → va_D (va_A (kX5 T h a u) s.heap.size) (kX5 T h a v) → va_S (va_A (kX5 T h a u) s.heap.size) s.heap H locs → lv_has ls 7 [(0, .ref h), (1, .int x1), (2, .int x2), (3, .int x3), (4, .int x4)] → W p l e (headSpec wsX5_seat ({ frames := 1 + (d + 1) * 1, cells := 0, slots := 0, locals := 21 + (d + 1) * 26 })).room s m ([.ref h, .int p1, .int p2, .int p3] : List Value).toArray below meth c H locs 0 0 (MQ below (QMv D (kX5 T h a u) s.heap.size (kX5 T h a res)) ([.ref h, .int p1, .int p2, .int p3] : List Value).toArray s 0 0 (va_A (kX5 T h a u) s.heap.size)) (F0 m 91 ls [.int y0]) := by
          intro v x1 x2 x3 x4 y0 H locs ls hf hP hD hS hl
          unfold fX5_seat_J91 at hf
          refine lv_istore (lv' := [(6, .int y0), (0, .ref h), (1, .int x1), (2, .int x2), (3, .int x3), (4, .int x4)]) hx hb dX5_seat_91 hl (by decide) rfl (fun ls hl => ?_)
          refine lv_aload_n hx hb dX5_seat_93 rfl (lv_at hl 1 rfl) ?_
          refine lv_iload_n hx hb dX5_seat_94 rfl (lv_at hl 2 rfl) ?_
          refine lv_iconst (v := 1) hx hb dX5_seat_95 (by decide) ?_
          refine lv_iadd hx hb dX5_seat_96 ?_
          refine lv_iload_n hx hb dX5_seat_97 rfl (lv_at hl 3 rfl) ?_
          refine lv_iconst (v := 1) hx hb dX5_seat_98 (by decide) ?_
          refine lv_iload hx hb dX5_seat_99 (lv_at hl 5 rfl) ?_
          refine lv_ishl hx hb dX5_seat_101 ?_
          refine lv_ior hx hb dX5_seat_102 ?_
          refine lv_iload_n hx hb dX5_seat_103 rfl (lv_at hl 4 rfl) ?_
          refine lv_iload hx hb dX5_seat_104 (lv_at hl 0 rfl) ?_
          refine lv_iadd hx hb dX5_seat_106 ?_
          obtain ⟨z2, hz2, hf⟩ := bnd hf
          have hFc9 := vaA_self hD hS hA
          refine cVMv (As := [.int (x1 + 1), .int (x2 ||| (jshl 1 x4)), .int (x3 + y0)]) (rest := []) ⟨hx, hb, hml, hown, hts⟩ (hrc h a v _ (x1 + 1) (x2 ||| (jshl 1 x4)) (x3 + y0) z2 hz2) (cwV 3 hts gX5_seat_X5_seat rfl rfl rfl (by decide +kernel) ⟨by show 1 + d * 1 + 1 ≤ 1 + (d + 1) * 1; omega, by show 8 + (7 + 11) + (21 + d * 26) ≤ 21 + (d + 1) * 26; omega⟩) (va_recv hK.1 hP (ci := 5) (q0 := 0) rfl rfl) hP hK rfl hl.1 rfl (Nat.le_of_ble_eq_true rfl) dX5_seat_107 ⟨Nat.le_of_ble_eq_true rfl, Nat.le_of_ble_eq_true rfl⟩ hD hFc9 hS (fun H locs hP hD1 _ hS => ?_)
          have hD := hD1.weaken (fun _ _ _ h9 => hFc9 _ h9)
          obtain ⟨t3, et3, hf⟩ := lett_e hf
          refine lv_iinc (v := t3) (lv' := [(4, .int t3), (6, .int y0), (0, .ref h), (1, .int x1), (2, .int x2), (3, .int x3)]) hx hb dX5_seat_110 hl (k := 5) rfl (by rw [et3]; rfl) (by decide) rfl (fun ls hl => ?_)
          refine lv_goto (tgt := 32) hx hb dX5_seat_113 (by decide) ?_
          exact ih32 z2 x1 x2 x3 t3 _ _ _ hf hP hD hS (lv_sub hl [2, 3, 4, 5, 0] rfl)
        intro v x1 x2 x3 x4 H locs ls hf hP hD hS hl
        replace hf : bX5_seat_L32 rc (fX5_seat_L32 rc n32) v x1 x2 x3 x4 = some res := hf
        unfold bX5_seat_L32 at hf
        refine lv_iload hx hb dX5_seat_32 (lv_at hl 4 rfl) ?_
        refine lv_bipush (v := 10) hx hb dX5_seat_34 (by decide) ?_
        refine lv_icmp_ge (tgt := 116) hx hb dX5_seat_36 (by decide) (fun c4 => ?_) (fun c4 => ?_)
        · replace hf := ifp c4 hf
          have e9 := Option.some.inj hf
          exact retMv hx hb hr hlocks hP hD hS (congrArg (fun z => (kX5 T h a z : va_W)) e9) dX5_seat_116
        replace hf := ifn c4 hf
        refine lv_aload_n hx hb dX5_seat_39 rfl (lv_at hl 0 rfl) ?_
        refine va_get (D := D) (ci := 5) (v := .int (v 4 0)) (C := RX5) (T := TX5) (N := 5) hx hb hts hinX5 hown hK.1 hP 0 rfl rfl 4 (by decide) (hts (.fieldLink RX5 26 "RopeScale$Pans" "best" "I") (List.mem_of_getElem? (i := 2) rfl)) (fun _ h9 => h9) rfl dX5_seat_40 ?_
        refine lv_if_le (tgt := 116) hx hb dX5_seat_43 (by decide) (fun c5 => ?_) (fun c5 => ?_)
        · replace hf := ifp c5 hf
          have e9 := Option.some.inj hf
          exact retMv hx hb hr hlocks hP hD hS (congrArg (fun z => (kX5 T h a z : va_W)) e9) dX5_seat_116
        replace hf := ifn c5 hf
        refine lv_iload_n hx hb dX5_seat_46 rfl (lv_at hl 2 rfl) ?_
        refine lv_iload hx hb dX5_seat_47 (lv_at hl 4 rfl) ?_
        obtain ⟨z6, hz6, hf⟩ := lett_e hf
        refine cNR (As := [.int x2, .int x4]) (rest := []) ⟨hx, hb, hml, hown, hts⟩ (mX11_has l D T x2 x4 z6 hz6.symm) ⟨va_cnB (host := "RopeScale") (index := 64) 2 hts gX5_seat_X11_has_n64 rfl rfl rfl (hK.2 _ (List.mem_of_getElem? (i := 24) rfl)) (hts (.initialized RX11) (List.mem_of_getElem? (i := 12) rfl)) (by decide +kernel) ⟨by show 0 + 1 ≤ 1 + (d + 1) * 1; omega, by show 8 + (2 + 11) + (0) ≤ 21 + (d + 1) * 26; omega⟩, (hts (.static yX11_has) (List.mem_of_getElem? (i := 11) rfl)), trivial⟩ P0 hK rfl hl.1 rfl (Nat.le_of_ble_eq_true rfl) dX5_seat_49 ⟨Nat.le_of_ble_eq_true rfl, Nat.le_of_ble_eq_true rfl⟩ hP hS (fun H locs hP hS => ?_)
        refine lv_if_ne (tgt := 110) hx hb dX5_seat_52 (by decide) (fun c7 => ?_) (fun c7 => ?_)
        · replace hf := ifn c7 hf
          obtain ⟨t8, et8, hf⟩ := lett_e hf
          refine lv_iinc (v := t8) (lv' := [(4, .int t8), (0, .ref h), (1, .int x1), (2, .int x2), (3, .int x3)]) hx hb dX5_seat_110 hl (k := 4) rfl (by rw [et8]; rfl) (by decide) rfl (fun ls hl => ?_)
          refine lv_goto (tgt := 32) hx hb dX5_seat_113 (by decide) ?_
          exact ih32 v x1 x2 x3 t8 _ _ _ hf hP hD hS (lv_sub hl [1, 2, 3, 4, 0] rfl)
        replace hf := ifp c7 hf
        refine lv_iload hx hb dX5_seat_55 (lv_at hl 4 rfl) ?_
        refine lv_iconst (v := 5) hx hb dX5_seat_57 (by decide) ?_
        refine lv_irem hx hb dX5_seat_58 (by decide) ?_
        refine lv_iconst (v := 1) hx hb dX5_seat_59 (by decide) ?_
        refine lv_iadd hx hb dX5_seat_60 ?_
        obtain ⟨t9, et9, hf⟩ := lett_e hf
        refine lv_eqi et9 ?_
        refine lv_istore (lv' := [(5, .int t9), (0, .ref h), (1, .int x1), (2, .int x2), (3, .int x3), (4, .int x4)]) hx hb dX5_seat_61 hl (by decide) rfl (fun ls hl => ?_)
        refine lv_iload hx hb dX5_seat_63 (lv_at hl 5 rfl) ?_
        refine lv_iconst (v := 5) hx hb dX5_seat_65 (by decide) ?_
        refine lv_icmp_ge (tgt := 81) hx hb dX5_seat_66 (by decide) (fun c10 => ?_) (fun c10 => ?_)
        · replace hf := ifp c10 hf
          refine lv_iload hx hb dX5_seat_81 (lv_at hl 0 rfl) ?_
          refine lv_ineg hx hb dX5_seat_83 ?_
          refine lv_aload_n hx hb dX5_seat_84 rfl (lv_at hl 1 rfl) ?_
          refine va_get (D := D) (ci := 5) (v := .ref (a 0)) (C := RX5) (T := TX5) (N := 5) hx hb hts hinX5 hown hK.1 hP 0 rfl rfl 0 (by decide) (hts (.fieldLink RX5 11 "RopeScale$Pans" "weight" "[I") (List.mem_of_getElem? (i := 10) rfl)) (fun _ h9 => h9) rfl dX5_seat_85 ?_
          refine lv_iload_n hx hb dX5_seat_88 rfl (lv_at hl 2 rfl) ?_
          obtain ⟨h11, hf⟩ := gd_e hf
          refine va_iald hx hb hK.1 hP 1 0 rfl rfl h11 dX5_seat_89 ?_
          refine lv_imul hx hb dX5_seat_90 ?_
          exact J91 v x1 x2 x3 x4 ((-t9) * (v 0 (ix x1))) _ _ _ hf hP hD hS (lv_sub hl [1, 2, 3, 4, 5] rfl)
        replace hf := ifn c10 hf
        refine lv_iload hx hb dX5_seat_69 (lv_at hl 0 rfl) ?_
        refine lv_aload_n hx hb dX5_seat_71 rfl (lv_at hl 1 rfl) ?_
        refine va_get (D := D) (ci := 5) (v := .ref (a 0)) (C := RX5) (T := TX5) (N := 5) hx hb hts hinX5 hown hK.1 hP 0 rfl rfl 0 (by decide) (hts (.fieldLink RX5 11 "RopeScale$Pans" "weight" "[I") (List.mem_of_getElem? (i := 10) rfl)) (fun _ h9 => h9) rfl dX5_seat_72 ?_
        refine lv_iload_n hx hb dX5_seat_75 rfl (lv_at hl 2 rfl) ?_
        obtain ⟨h12, hf⟩ := gd_e hf
        refine va_iald hx hb hK.1 hP 1 0 rfl rfl h12 dX5_seat_76 ?_
        refine lv_imul hx hb dX5_seat_77 ?_
        refine lv_goto (tgt := 91) hx hb dX5_seat_78 (by decide) ?_
        exact J91 v x1 x2 x3 x4 (t9 * (v 0 (ix x1))) _ _ _ hf hP hD hS (lv_sub hl [1, 2, 3, 4, 5] rfl)
    unfold bX5_seat at hf
    refine lv_iload_n hx hb dX5_seat_0 rfl (lv_at hl 1 rfl) ?_
    refine lv_aload_n hx hb dX5_seat_1 rfl (lv_at hl 0 rfl) ?_
    refine va_get (D := D) (ci := 5) (v := .int (u 3 0)) (C := RX5) (T := TX5) (N := 5) hx hb hts hinX5 hown hK.1 hP 0 rfl rfl 3 (by decide) (hts (.fieldLink RX5 22 "RopeScale$Pans" "size" "I") (List.mem_of_getElem? (i := 1) rfl)) (fun _ h9 => h9) rfl dX5_seat_2 ?_
    refine lv_icmp_ge (tgt := 13) hx hb dX5_seat_5 (by decide) (fun c13 => ?_) (fun c13 => ?_)
    · replace hf := ifp c13 hf
      exact J13 u p3 _ _ _ hf hP hD hS (lv_sub hl [0, 3] rfl)
    replace hf := ifn c13 hf
    refine lv_iload_n hx hb dX5_seat_8 rfl (lv_at hl 1 rfl) ?_
    refine lv_iconst (v := 5) hx hb dX5_seat_9 (by decide) ?_
    refine lv_icmp_lt (tgt := 29) hx hb dX5_seat_10 (by decide) (fun c14 => ?_) (fun c14 => ?_)
    · replace hf := ifp c14 hf
      refine lv_iconst (v := 0) hx hb dX5_seat_29 (by decide) ?_
      refine lv_istore (lv' := [(4, .int 0), (0, .ref h), (1, .int p1), (2, .int p2), (3, .int p3)]) hx hb dX5_seat_30 hl (by decide) rfl (fun ls hl => ?_)
      exact L32 FU u p1 p2 p3 0 _ _ _ hf hP hD hS (lv_sub hl [1, 2, 3, 4, 0] rfl)
    replace hf := ifn c14 hf
    exact J13 u p3 _ _ _ hf hP hD hS (lv_sub hl [0, 3] rfl)
def bX5_weighsUpTo_L17   (lp17 : (Nat → Int64) → Int32 → Option (Int32 × (Nat → Int64))) (vw : Nat → Int64) (x2 : Int32) : Option (Int32 × (Nat → Int64)) := if 2040 ≤ x2 then some (x2, vw) else gd ((x2 + 1) / 64) 32 <| if (lg_cmp ((jlshr (vw (ix ((x2 + 1) / 64))) (jrem (x2 + 1) 64)) &&& 1) 0) = 0 then some (x2, vw) else lett (x2 + 1) fun t3 => lp17 vw t3
def fX5_weighsUpTo_L17   : Nat → (Nat → Int64) → Int32 → Option (Int32 × (Nat → Int64))
  | 0, _, _ => none
  | n + 1, vw, x2 => bX5_weighsUpTo_L17  (fX5_weighsUpTo_L17  n) vw x2
def fX5_weighsUpTo  (u : St) (uw : Nat → Int64) (p1 : Int32) : Option (Int32 × (Nat → Int64)) := (fJ7_fill_d0a16 uw 0).bind fun z5 => (fX5_markFrom 10 u z5 0 0 p1).bind fun z6 => fX5_weighsUpTo_L17 FU z6 0
set_option maxHeartbeats 4000000 in
set_option maxRecDepth 100000 in
theorem mX5_weighsUpTo (l : Launch) (D : va_G) (T : Ty3) (h : Nat) (a : Nat → Nat) (u : St) (uw : Nat → Int64) (sz : Nat) (p1 : Int32) (res : Int32 × (Nat → Int64)) (hf : fX5_weighsUpTo u uw p1 = some res) : Met l yX5_weighsUpTo wsX5_weighsUpTo ({ frames := 12, cells := 0, slots := 0, locals := 277 }) (PcM D T (kX5 T h a u ++ [((a 2), .inl (T.2.2, 32, .inr (.inl uw)))]) sz [.ref h, .int p1]) (QM D (kX5 T h a u ++ [((a 2), .inl (T.2.2, 32, .inr (.inl uw)))]) sz res.1 (kX5 T h a u ++ [((a 2), .inl (T.2.2, 32, .inr (.inl res.2)))])) 0 0 (va_A (kX5 T h a u ++ [((a 2), .inl (T.2.2, 32, .inr (.inl uw)))]) sz) := by
  refine Met.ofW (cc := cX5_weighsUpTo) (maxL := 3) (ret := (some .int)) (by decide) rfl ?_
  intro p e s m args below meth c s₁ B hml hv
  obtain ⟨rfl, hsz, hP, hK, hD0⟩ := hv
  have hx := B.exec
  have hb := B.bytes
  have hr := B.returns
  have hts := atoms_spec (ws := wsX5_weighsUpTo) B.pre
  have hown : s.vm.findClass RX5 = some m.cls := findClass_of_methodNamed B.named
  have hlocks := B.notSynchronized
  subst hsz
  have hD := hD0.self (sz := s.heap.size)
  have hA : ∀ q : Nat, s.heap.size ≤ q → va_A (kX5 T h a u ++ [((a 2), .inl (T.2.2, 32, .inr (.inl uw)))]) s.heap.size q := fun q h => Or.inr h
  have hS : va_S (va_A (kX5 T h a u ++ [((a 2), .inl (T.2.2, 32, .inr (.inl uw)))]) s.heap.size) s.heap s.heap [] := va_S.rf
  have hinX5 : ∀ w ∈ u_ws RX5 TX5 5, w ∈ wsX5_weighsUpTo := fun w h => List.mem_cons_of_mem _ (List.mem_append_right _ h)
  have hl := lv_entry ([.ref h, .int p1]) (n := 3) (Nat.le_of_ble_eq_true rfl)
  rw [lg_entry_eq]
  generalize (lg_sl ([.ref h, .int p1]) ++ List.replicate (3 - (lg_sl ([.ref h, .int p1])).length) Slot.unset).toArray = ls at hl ⊢
  have hl : lv_has ls 3 [(0, .ref h), (1, .int p1)] := hl
  have L17 : ∀ (n17 : Nat), ∀ (vw : Nat → Int64) (x2 : Int32) (H : Heap) (locs : List Loc) (ls : Array Slot), fX5_weighsUpTo_L17  n17 vw x2 = some res → va_P D vwCl (kX5 T h a u ++ [((a 2), .inl (T.2.2, 32, .inr (.inl vw)))]) H → va_D (va_A (kX5 T h a u ++ [((a 2), .inl (T.2.2, 32, .inr (.inl uw)))]) s.heap.size) (kX5 T h a u ++ [((a 2), .inl (T.2.2, 32, .inr (.inl vw)))]) → va_S (va_A (kX5 T h a u ++ [((a 2), .inl (T.2.2, 32, .inr (.inl uw)))]) s.heap.size) s.heap H locs → lv_has ls 3 [(0, .ref h), (2, .int x2)] → W p l e (headSpec wsX5_weighsUpTo ({ frames := 12, cells := 0, slots := 0, locals := 277 })).room s m ([.ref h, .int p1] : List Value).toArray below meth c H locs 0 0 (MQ below (QM D (kX5 T h a u ++ [((a 2), .inl (T.2.2, 32, .inr (.inl uw)))]) s.heap.size res.1 (kX5 T h a u ++ [((a 2), .inl (T.2.2, 32, .inr (.inl res.2)))])) ([.ref h, .int p1] : List Value).toArray s 0 0 (va_A (kX5 T h a u ++ [((a 2), .inl (T.2.2, 32, .inr (.inl uw)))]) s.heap.size)) (F0 m 17 ls []) := by
    intro n17
    induction n17 with
    | zero => intro vw x2 H locs ls hf; exact nns hf
    | succ n17 ih17 =>
      intro vw x2 H locs ls hf hP hD hS hl
      replace hf : bX5_weighsUpTo_L17  (fX5_weighsUpTo_L17  n17) vw x2 = some res := hf
      unfold bX5_weighsUpTo_L17 at hf
      refine lv_iload_n hx hb dX5_weighsUpTo_17 rfl (lv_at hl 1 rfl) ?_
      refine lv_sipush (v := 2040) hx hb dX5_weighsUpTo_18 (by decide) ?_
      refine lv_icmp_ge (tgt := 55) hx hb dX5_weighsUpTo_21 (by decide) (fun c1 => ?_) (fun c1 => ?_)
      · replace hf := ifp c1 hf
        refine lv_iload_n hx hb dX5_weighsUpTo_55 rfl (lv_at hl 1 rfl) ?_
        have e9 := Option.some.inj hf
        exact retM hx hb hr hlocks hP hD hS (congrArg (fun z => z.1) e9) (congrArg (fun z => (kX5 T h a u ++ [((a 2), .inl (T.2.2, 32, .inr (.inl z.2)))] : va_W)) e9) dX5_weighsUpTo_56
      replace hf := ifn c1 hf
      refine lv_aload_n hx hb dX5_weighsUpTo_24 rfl (lv_at hl 0 rfl) ?_
      refine va_get (D := D) (ci := 5) (v := .ref (a 2)) (C := RX5) (T := TX5) (N := 5) hx hb hts hinX5 hown hK.1 hP 0 rfl rfl 2 (by decide) (hts (.fieldLink RX5 18 "RopeScale$Pans" "weighed" "[J") (List.mem_of_getElem? (i := 1) rfl)) (fun _ h9 => h9) rfl dX5_weighsUpTo_25 ?_
      refine lv_iload_n hx hb dX5_weighsUpTo_28 rfl (lv_at hl 1 rfl) ?_
      refine lv_iconst (v := 1) hx hb dX5_weighsUpTo_29 (by decide) ?_
      refine lv_iadd hx hb dX5_weighsUpTo_30 ?_
      refine lv_bipush (v := 64) hx hb dX5_weighsUpTo_31 (by decide) ?_
      refine lv_idiv hx hb dX5_weighsUpTo_33 (by decide) ?_
      obtain ⟨h4, hf⟩ := gd_e hf
      refine va_lald hx hb hK.1 hP 3 2 rfl rfl h4 dX5_weighsUpTo_34 ?_
      refine lv_iload_n hx hb dX5_weighsUpTo_35 rfl (lv_at hl 1 rfl) ?_
      refine lv_iconst (v := 1) hx hb dX5_weighsUpTo_36 (by decide) ?_
      refine lv_iadd hx hb dX5_weighsUpTo_37 ?_
      refine lv_bipush (v := 64) hx hb dX5_weighsUpTo_38 (by decide) ?_
      refine lv_irem hx hb dX5_weighsUpTo_40 (by decide) ?_
      refine lv_lshr hx hb dX5_weighsUpTo_41 rfl ?_
      refine lv_lconst (v := 1) hx hb dX5_weighsUpTo_42 (by decide) ?_
      refine lv_land hx hb dX5_weighsUpTo_43 ?_
      refine lv_lconst (v := 0) hx hb dX5_weighsUpTo_44 (by decide) ?_
      refine W.lcmp hx hb dX5_weighsUpTo_45 ?_
      refine lv_if_eq (tgt := 55) hx hb dX5_weighsUpTo_46 (by decide) (fun c2 => ?_) (fun c2 => ?_)
      · replace hf := ifp c2 hf
        refine lv_iload_n hx hb dX5_weighsUpTo_55 rfl (lv_at hl 1 rfl) ?_
        have e9 := Option.some.inj hf
        exact retM hx hb hr hlocks hP hD hS (congrArg (fun z => z.1) e9) (congrArg (fun z => (kX5 T h a u ++ [((a 2), .inl (T.2.2, 32, .inr (.inl z.2)))] : va_W)) e9) dX5_weighsUpTo_56
      replace hf := ifn c2 hf
      obtain ⟨t3, et3, hf⟩ := lett_e hf
      refine lv_iinc (v := t3) (lv' := [(2, .int t3), (0, .ref h)]) hx hb dX5_weighsUpTo_49 hl (k := 1) rfl (by rw [et3]; rfl) (by decide) rfl (fun ls hl => ?_)
      refine lv_goto (tgt := 17) hx hb dX5_weighsUpTo_52 (by decide) ?_
      exact ih17 vw t3 _ _ _ hf hP hD hS (lv_sub hl [1, 0] rfl)
  unfold fX5_weighsUpTo at hf
  refine lv_aload_n hx hb dX5_weighsUpTo_0 rfl (lv_at hl 0 rfl) ?_
  refine va_get (D := D) (ci := 5) (v := .ref (a 2)) (C := RX5) (T := TX5) (N := 5) hx hb hts hinX5 hown hK.1 hP 0 rfl rfl 2 (by decide) (hts (.fieldLink RX5 18 "RopeScale$Pans" "weighed" "[J") (List.mem_of_getElem? (i := 1) rfl)) (fun _ h9 => h9) rfl dX5_weighsUpTo_1 ?_
  refine lv_lconst (v := 0) hx hb dX5_weighsUpTo_4 (by decide) ?_
  obtain ⟨z5, hz5, hf⟩ := bnd hf
  have hPc := hP.sub (ws' := [((a 2), .inl (T.2.2, 32, .inr (.inl uw)))]) [3] rfl
  have hDc := hD.sub (ws' := [((a 2), .inl (T.2.2, 32, .inr (.inl uw)))]) [3] (by decide) rfl
  have hFc9 := va_free (wc := [((a 2), .inl (T.2.2, 32, .inr (.inl uw)))]) hD hS hA [3] rfl
  refine cSMv (As := [.ref (a 2), .long 0]) (rest := []) ⟨hx, hb, hml, hown, hts⟩ (mJ7_fill_d0a16 l D T (a 2) uw _ 0 z5 hz5) (va_cwS 2 hts gX5_weighsUpTo_J7_fill_d0a16 rfl rfl rfl (by decide +kernel) ⟨Nat.le_of_ble_eq_true rfl, Nat.le_of_ble_eq_true rfl⟩) hPc hK rfl hl.1 rfl (Nat.le_of_ble_eq_true rfl) dX5_weighsUpTo_5 ⟨Nat.le_of_ble_eq_true rfl, Nat.le_of_ble_eq_true rfl⟩ hDc hFc9 hS (fun H9 locs hP1 hD1 hk1 hS => ?_)
  obtain ⟨hP, hD⟩ := putAll_P (w1 := [((a 2), .inl (T.2.2, 32, .inr (.inl z5)))]) hP hD [3] rfl (by decide) hk1 hP1 rfl
  generalize H9 = H at hP hS ⊢
  have hP : va_P D vwCl (kX5 T h a u ++ [((a 2), .inl (T.2.2, 32, .inr (.inl z5)))]) H := by exact hP
  have hD : va_D (va_A (kX5 T h a u ++ [((a 2), .inl (T.2.2, 32, .inr (.inl uw)))]) s.heap.size) (kX5 T h a u ++ [((a 2), .inl (T.2.2, 32, .inr (.inl z5)))]) := by exact hD
  refine lv_aload_n hx hb dX5_weighsUpTo_8 rfl (lv_at hl 0 rfl) ?_
  refine lv_iconst (v := 0) hx hb dX5_weighsUpTo_9 (by decide) ?_
  refine lv_iconst (v := 0) hx hb dX5_weighsUpTo_10 (by decide) ?_
  refine lv_iload_n hx hb dX5_weighsUpTo_11 rfl (lv_at hl 1 rfl) ?_
  obtain ⟨z6, hz6, hf⟩ := bnd hf
  have hFc9 := vaA_self hD hS hA
  refine cVMv (As := [.int 0, .int 0, .int p1]) (rest := []) ⟨hx, hb, hml, hown, hts⟩ (mX5_markFrom l D T 10 h a u z5 _ 0 0 p1 z6 hz6) (cwV 3 hts gX5_weighsUpTo_X5_markFrom rfl rfl rfl (by decide +kernel) ⟨Nat.le_of_ble_eq_true rfl, Nat.le_of_ble_eq_true rfl⟩) (va_recv hK.1 hP (ci := 5) (q0 := 0) rfl rfl) hP hK rfl hl.1 rfl (Nat.le_of_ble_eq_true rfl) dX5_weighsUpTo_12 ⟨Nat.le_of_ble_eq_true rfl, Nat.le_of_ble_eq_true rfl⟩ hD hFc9 hS (fun H locs hP hD1 _ hS => ?_)
  have hD := hD1.weaken (fun _ _ _ h9 => hFc9 _ h9)
  refine lv_iconst (v := 0) hx hb dX5_weighsUpTo_15 (by decide) ?_
  refine lv_istore_n (lv' := [(2, .int 0), (0, .ref h), (1, .int p1)]) hx hb dX5_weighsUpTo_16 rfl hl (by decide) rfl (fun ls hl => ?_)
  exact L17 FU z6 0 _ _ _ hf hP hD hS (lv_sub hl [1, 0] rfl)
def fX5_fewestFor  (u : St) (p1 : Int32) : Option (Int32 × St) := lett (st u 4 0 9) fun u1 => (fX5_tryStones 10 u1 0 p1 0).bind fun z2 => if (z2 4 0) ≤ 8 then some (z2 4 0, z2) else some ((-1), z2)
set_option maxHeartbeats 4000000 in
set_option maxRecDepth 100000 in
theorem mX5_fewestFor (l : Launch) (D : va_G) (T : Ty3) (h : Nat) (a : Nat → Nat) (u : St) (sz : Nat) (p1 : Int32) (res : Int32 × St) (hf : fX5_fewestFor u p1 = some res) : Met l yX5_fewestFor wsX5_fewestFor ({ frames := 12, cells := 0, slots := 0, locals := 267 }) (PcM D T (kX5 T h a u) sz [.ref h, .int p1]) (QM D (kX5 T h a u) sz res.1 (kX5 T h a res.2)) 0 0 (va_A (kX5 T h a u) sz) := by
  refine Met.ofW (cc := cX5_fewestFor) (maxL := 2) (ret := (some .int)) (by decide) rfl ?_
  intro p e s m args below meth c s₁ B hml hv
  obtain ⟨rfl, hsz, hP, hK, hD0⟩ := hv
  have hx := B.exec
  have hb := B.bytes
  have hr := B.returns
  have hts := atoms_spec (ws := wsX5_fewestFor) B.pre
  have hown : s.vm.findClass RX5 = some m.cls := findClass_of_methodNamed B.named
  have hlocks := B.notSynchronized
  subst hsz
  have hD := hD0.self (sz := s.heap.size)
  have hA : ∀ q : Nat, s.heap.size ≤ q → va_A (kX5 T h a u) s.heap.size q := fun q h => Or.inr h
  have hS : va_S (va_A (kX5 T h a u) s.heap.size) s.heap s.heap [] := va_S.rf
  have hinX5 : ∀ w ∈ u_ws RX5 TX5 5, w ∈ wsX5_fewestFor := fun w h => List.mem_cons_of_mem _ (List.mem_append_right _ h)
  have hl := lv_entry ([.ref h, .int p1]) (n := 2) (Nat.le_of_ble_eq_true rfl)
  rw [lg_entry_eq]
  generalize (lg_sl ([.ref h, .int p1]) ++ List.replicate (2 - (lg_sl ([.ref h, .int p1])).length) Slot.unset).toArray = ls at hl ⊢
  have hl : lv_has ls 2 [(0, .ref h), (1, .int p1)] := hl
  unfold fX5_fewestFor at hf
  refine lv_aload_n hx hb dX5_fewestFor_0 rfl (lv_at hl 0 rfl) ?_
  refine lv_bipush (v := 9) hx hb dX5_fewestFor_1 (by decide) ?_
  obtain ⟨u1, eu1, hf⟩ := lett_e hf
  refine va_put (D := D) (ci := 5) (v := .int 9) (ty := .int) (C := RX5) (T := TX5) (N := 5) hx hb hts hinX5 tyX5 tyX5_ok nmX5 hown hK.1 hP hD hS 0 rfl rfl 4 (by decide) (hts (.fieldLink RX5 26 "RopeScale$Pans" "best" "I") (List.mem_of_getElem? (i := 1) rfl)) (fun _ h9 => h9) rfl (tyX5_ok 4 (by decide)) rfl rfl (Nat.le_of_ble_eq_true rfl) dX5_fewestFor_3 (fun H locs hP hD hS => ?_)
  have hP : va_P D vwCl (kX5 T h a u1) H := by rw [eu1]; exact hP
  have hD : va_D (va_A (kX5 T h a u) s.heap.size) (kX5 T h a u1) := by rw [eu1]; exact hD
  refine lv_aload_n hx hb dX5_fewestFor_6 rfl (lv_at hl 0 rfl) ?_
  refine lv_iconst (v := 0) hx hb dX5_fewestFor_7 (by decide) ?_
  refine lv_iload_n hx hb dX5_fewestFor_8 rfl (lv_at hl 1 rfl) ?_
  refine lv_iconst (v := 0) hx hb dX5_fewestFor_9 (by decide) ?_
  obtain ⟨z2, hz2, hf⟩ := bnd hf
  have hFc9 := vaA_self hD hS hA
  refine cVMv (As := [.int 0, .int p1, .int 0]) (rest := []) ⟨hx, hb, hml, hown, hts⟩ (mX5_tryStones l D T 10 h a u1 _ 0 p1 0 z2 hz2) (cwV 3 hts gX5_fewestFor_X5_tryStones rfl rfl rfl (by decide +kernel) ⟨Nat.le_of_ble_eq_true rfl, Nat.le_of_ble_eq_true rfl⟩) (va_recv hK.1 hP (ci := 5) (q0 := 0) rfl rfl) hP hK rfl hl.1 rfl (Nat.le_of_ble_eq_true rfl) dX5_fewestFor_10 ⟨Nat.le_of_ble_eq_true rfl, Nat.le_of_ble_eq_true rfl⟩ hD hFc9 hS (fun H locs hP hD1 _ hS => ?_)
  have hD := hD1.weaken (fun _ _ _ h9 => hFc9 _ h9)
  refine lv_aload_n hx hb dX5_fewestFor_13 rfl (lv_at hl 0 rfl) ?_
  refine va_get (D := D) (ci := 5) (v := .int (z2 4 0)) (C := RX5) (T := TX5) (N := 5) hx hb hts hinX5 hown hK.1 hP 0 rfl rfl 4 (by decide) (hts (.fieldLink RX5 26 "RopeScale$Pans" "best" "I") (List.mem_of_getElem? (i := 1) rfl)) (fun _ h9 => h9) rfl dX5_fewestFor_14 ?_
  refine lv_bipush (v := 8) hx hb dX5_fewestFor_17 (by decide) ?_
  refine lv_icmp_le (tgt := 26) hx hb dX5_fewestFor_19 (by decide) (fun c3 => ?_) (fun c3 => ?_)
  · replace hf := ifp c3 hf
    refine lv_aload_n hx hb dX5_fewestFor_26 rfl (lv_at hl 0 rfl) ?_
    refine va_get (D := D) (ci := 5) (v := .int (z2 4 0)) (C := RX5) (T := TX5) (N := 5) hx hb hts hinX5 hown hK.1 hP 0 rfl rfl 4 (by decide) (hts (.fieldLink RX5 26 "RopeScale$Pans" "best" "I") (List.mem_of_getElem? (i := 1) rfl)) (fun _ h9 => h9) rfl dX5_fewestFor_27 ?_
    have e9 := Option.some.inj hf
    exact retM hx hb hr hlocks hP hD hS (congrArg (fun z => z.1) e9) (congrArg (fun z => (kX5 T h a z.2 : va_W)) e9) dX5_fewestFor_30
  replace hf := ifn c3 hf
  refine lv_iconst (v := (-1)) hx hb dX5_fewestFor_22 (by decide) ?_
  refine lv_goto (tgt := 30) hx hb dX5_fewestFor_23 (by decide) ?_
  have e9 := Option.some.inj hf
  exact retM hx hb hr hlocks hP hD hS (congrArg (fun z => z.1) e9) (congrArg (fun z => (kX5 T h a z.2 : va_W)) e9) dX5_fewestFor_30
def fX5_evenAtBest  (u : St)  : Option (Int32 × St) := lett (st u 4 0 6375) fun u1 => (fX5_seat 8 u1 0 0 0).bind fun z2 => some (z2 4 0, z2)
set_option maxHeartbeats 4000000 in
set_option maxRecDepth 100000 in
theorem mX5_evenAtBest (l : Launch) (D : va_G) (T : Ty3) (h : Nat) (a : Nat → Nat) (u : St) (sz : Nat)  (res : Int32 × St) (hf : fX5_evenAtBest u = some res) : Met l yX5_evenAtBest wsX5_evenAtBest ({ frames := 10, cells := 0, slots := 0, locals := 255 }) (PcM D T (kX5 T h a u) sz [.ref h]) (QM D (kX5 T h a u) sz res.1 (kX5 T h a res.2)) 0 0 (va_A (kX5 T h a u) sz) := by
  refine Met.ofW (cc := cX5_evenAtBest) (maxL := 1) (ret := (some .int)) (by decide) rfl ?_
  intro p e s m args below meth c s₁ B hml hv
  obtain ⟨rfl, hsz, hP, hK, hD0⟩ := hv
  have hx := B.exec
  have hb := B.bytes
  have hr := B.returns
  have hts := atoms_spec (ws := wsX5_evenAtBest) B.pre
  have hown : s.vm.findClass RX5 = some m.cls := findClass_of_methodNamed B.named
  have hlocks := B.notSynchronized
  subst hsz
  have hD := hD0.self (sz := s.heap.size)
  have hA : ∀ q : Nat, s.heap.size ≤ q → va_A (kX5 T h a u) s.heap.size q := fun q h => Or.inr h
  have hS : va_S (va_A (kX5 T h a u) s.heap.size) s.heap s.heap [] := va_S.rf
  have hinX5 : ∀ w ∈ u_ws RX5 TX5 5, w ∈ wsX5_evenAtBest := fun w h => List.mem_cons_of_mem _ (List.mem_append_right _ h)
  have hl := lv_entry ([.ref h]) (n := 1) (Nat.le_of_ble_eq_true rfl)
  rw [lg_entry_eq]
  generalize (lg_sl ([.ref h]) ++ List.replicate (1 - (lg_sl ([.ref h])).length) Slot.unset).toArray = ls at hl ⊢
  have hl : lv_has ls 1 [(0, .ref h)] := hl
  unfold fX5_evenAtBest at hf
  refine lv_aload_n hx hb dX5_evenAtBest_0 rfl (lv_at hl 0 rfl) ?_
  refine lv_sipush (v := 6375) hx hb dX5_evenAtBest_1 (by decide) ?_
  obtain ⟨u1, eu1, hf⟩ := lett_e hf
  refine va_put (D := D) (ci := 5) (v := .int 6375) (ty := .int) (C := RX5) (T := TX5) (N := 5) hx hb hts hinX5 tyX5 tyX5_ok nmX5 hown hK.1 hP hD hS 0 rfl rfl 4 (by decide) (hts (.fieldLink RX5 26 "RopeScale$Pans" "best" "I") (List.mem_of_getElem? (i := 1) rfl)) (fun _ h9 => h9) rfl (tyX5_ok 4 (by decide)) rfl rfl (Nat.le_of_ble_eq_true rfl) dX5_evenAtBest_4 (fun H locs hP hD hS => ?_)
  have hP : va_P D vwCl (kX5 T h a u1) H := by rw [eu1]; exact hP
  have hD : va_D (va_A (kX5 T h a u) s.heap.size) (kX5 T h a u1) := by rw [eu1]; exact hD
  refine lv_aload_n hx hb dX5_evenAtBest_7 rfl (lv_at hl 0 rfl) ?_
  refine lv_iconst (v := 0) hx hb dX5_evenAtBest_8 (by decide) ?_
  refine lv_iconst (v := 0) hx hb dX5_evenAtBest_9 (by decide) ?_
  refine lv_iconst (v := 0) hx hb dX5_evenAtBest_10 (by decide) ?_
  obtain ⟨z2, hz2, hf⟩ := bnd hf
  have hFc9 := vaA_self hD hS hA
  refine cVMv (As := [.int 0, .int 0, .int 0]) (rest := []) ⟨hx, hb, hml, hown, hts⟩ (mX5_seat l D T 8 h a u1 _ 0 0 0 z2 hz2) (cwV 3 hts gX5_evenAtBest_X5_seat rfl rfl rfl (by decide +kernel) ⟨Nat.le_of_ble_eq_true rfl, Nat.le_of_ble_eq_true rfl⟩) (va_recv hK.1 hP (ci := 5) (q0 := 0) rfl rfl) hP hK rfl hl.1 rfl (Nat.le_of_ble_eq_true rfl) dX5_evenAtBest_11 ⟨Nat.le_of_ble_eq_true rfl, Nat.le_of_ble_eq_true rfl⟩ hD hFc9 hS (fun H locs hP hD1 _ hS => ?_)
  have hD := hD1.weaken (fun _ _ _ h9 => hFc9 _ h9)
  refine lv_aload_n hx hb dX5_evenAtBest_14 rfl (lv_at hl 0 rfl) ?_
  refine va_get (D := D) (ci := 5) (v := .int (z2 4 0)) (C := RX5) (T := TX5) (N := 5) hx hb hts hinX5 hown hK.1 hP 0 rfl rfl 4 (by decide) (hts (.fieldLink RX5 26 "RopeScale$Pans" "best" "I") (List.mem_of_getElem? (i := 1) rfl)) (fun _ h9 => h9) rfl dX5_evenAtBest_15 ?_
  have e9 := Option.some.inj hf
  exact retM hx hb hr hlocks hP hD hS (congrArg (fun z => z.1) e9) (congrArg (fun z => (kX5 T h a z.2 : va_W)) e9) dX5_evenAtBest_18
