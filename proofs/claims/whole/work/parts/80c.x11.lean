set_option maxHeartbeats 4000000 in
set_option maxRecDepth 100000 in
theorem mX11_heavier (l : Launch) (D : va_G) (T : Ty3) (aa : Nat → Nat → Nat) (h : Nat) (a : Nat → Nat) (u : St) (utp : St) (ucu : St) (unw : St) (ukp : St) (utr : St) (uro : St) (ugi : St) (urd : St) (uch : St) (urk : St) (upa : St) (uwl : Nat → Int64) (uva : St) (usl : St) (uto : St) (usw : St) (sz : Nat) (p1 : Int32) (p2 : Int32) (res : Int32 × St) (hf : fX11_heavier urk uto p1 p2 = some res) : Met l yX11_heavier wsX11_heavier ({ frames := 3, cells := 0, slots := 0, locals := 69 }) (PcM D T (WX11 T h a a aa u utp ucu unw ukp utr uro ugi urd uch urk upa uwl uva usl uto usw) sz [.ref h, .int p1, .int p2]) (QM D (WX11 T h a a aa u utp ucu unw ukp utr uro ugi urd uch urk upa uwl uva usl uto usw) sz res.1 (WX11 T h a a aa u utp ucu unw ukp utr uro ugi urd uch res.2 upa uwl uva usl uto usw)) 0 0 (va_A (WX11 T h a a aa u utp ucu unw ukp utr uro ugi urd uch urk upa uwl uva usl uto usw) sz) := by
  refine Met.ofW (cc := cX11_heavier) (maxL := 3) (ret := (some .int)) (by decide) rfl ?_
  intro p e s m args below meth c s₁ B hml hv
  obtain ⟨rfl, hsz, hP, hK, hD0⟩ := hv
  have hx := B.exec
  have hb := B.bytes
  have hr := B.returns
  have hts := atoms_spec (ws := wsX11_heavier) B.pre
  have hown : s.vm.findClass RX11 = some m.cls := findClass_of_methodNamed B.named
  have hlocks := B.notSynchronized
  subst hsz
  have hD := hD0.self (sz := s.heap.size)
  have hA : ∀ q : Nat, s.heap.size ≤ q → va_A (WX11 T h a a aa u utp ucu unw ukp utr uro ugi urd uch urk upa uwl uva usl uto usw) s.heap.size q := fun q h => Or.inr h
  have hS : va_S (va_A (WX11 T h a a aa u utp ucu unw ukp utr uro ugi urd uch urk upa uwl uva usl uto usw) s.heap.size) s.heap s.heap [] := va_S.rf
  have hinX11 : ∀ w ∈ u_ws RX11 TX11 16, w ∈ wsX11_heavier := fun w h => List.mem_cons_of_mem _ (List.mem_append_left _ (List.mem_append_left _ (List.mem_append_right _ h)))
  have hinX6 : ∀ w ∈ u_ws RX6 TX6 2, w ∈ wsX11_heavier := fun w h => List.mem_cons_of_mem _ (List.mem_append_left _ (List.mem_append_right _ h))
  have hinX10 : ∀ w ∈ u_ws RX10 TX10 4, w ∈ wsX11_heavier := fun w h => List.mem_cons_of_mem _ (List.mem_append_right _ h)
  have hl := lv_entry ([.ref h, .int p1, .int p2]) (n := 3) (Nat.le_of_ble_eq_true rfl)
  rw [lg_entry_eq]
  generalize (lg_sl ([.ref h, .int p1, .int p2]) ++ List.replicate (3 - (lg_sl ([.ref h, .int p1, .int p2])).length) Slot.unset).toArray = ls at hl ⊢
  have hl : lv_has ls 3 [(0, .ref h), (1, .int p1), (2, .int p2)] := hl
  unfold fX11_heavier at hf
  refine lv_iload_n hx hb dX11_heavier_0 rfl (lv_at hl 1 rfl) ?_
  obtain ⟨z1, hz1, hf⟩ := bnd hf
  refine cSR (As := [.int p1]) (rest := []) ⟨hx, hb, hml, hown, hts⟩ (mX11_isWalker l D T p1 z1 hz1) (va_cwS 1 hts gX11_heavier_X11_isWalker rfl rfl rfl (by decide +kernel) ⟨Nat.le_of_ble_eq_true rfl, Nat.le_of_ble_eq_true rfl⟩) P0 hK rfl hl.1 rfl (Nat.le_of_ble_eq_true rfl) dX11_heavier_1 ⟨Nat.le_of_ble_eq_true rfl, Nat.le_of_ble_eq_true rfl⟩ hP hS (fun H locs hP hS => ?_)
  refine lv_if_eq (tgt := 16) hx hb dX11_heavier_4 (by decide) (fun c2 => ?_) (fun c2 => ?_)
  · replace hf := ifp c2 hf
    refine lv_iconst (v := (-1)) hx hb dX11_heavier_16 (by decide) ?_
    have e9 := Option.some.inj hf
    exact retM hx hb hr hlocks hP hD hS (congrArg (fun z => z.1) e9) (congrArg (fun z => (WX11 T h a a aa u utp ucu unw ukp utr uro ugi urd uch z.2 upa uwl uva usl uto usw : va_W)) e9) dX11_heavier_17
  replace hf := ifn c2 hf
  refine lv_iload_n hx hb dX11_heavier_7 rfl (lv_at hl 2 rfl) ?_
  refine lv_iconst (v := 0) hx hb dX11_heavier_8 (by decide) ?_
  refine lv_iconst (v := 1) hx hb dX11_heavier_9 (by decide) ?_
  obtain ⟨z3, hz3, hf⟩ := lett_e hf
  refine cSR (As := [.int p2, .int 0, .int 1]) (rest := []) ⟨hx, hb, hml, hown, hts⟩ (mX11_isWithin l D T p2 0 1 z3 hz3.symm) (va_cwS 3 hts gX11_heavier_X11_isWithin rfl rfl rfl (by decide +kernel) ⟨Nat.le_of_ble_eq_true rfl, Nat.le_of_ble_eq_true rfl⟩) P0 hK rfl hl.1 rfl (Nat.le_of_ble_eq_true rfl) dX11_heavier_10 ⟨Nat.le_of_ble_eq_true rfl, Nat.le_of_ble_eq_true rfl⟩ hP hS (fun H locs hP hS => ?_)
  refine lv_if_ne (tgt := 18) hx hb dX11_heavier_13 (by decide) (fun c4 => ?_) (fun c4 => ?_)
  · replace hf := ifn c4 hf
    refine lv_aload_n hx hb dX11_heavier_18 rfl (lv_at hl 0 rfl) ?_
    refine va_get (D := D) (ci := 11) (v := .ref (a 9)) (C := RX11) (T := TX11) (N := 16) hx hb hts hinX11 hown hK.1 hP 0 rfl rfl 9 (by decide) (hts (.fieldLink RX11 71 "RopeScale" "rank" "LRopeScale$Rank;") (List.mem_of_getElem? (i := 1) rfl)) (fun _ h9 => h9) rfl dX11_heavier_19 ?_
    refine lv_aload_n hx hb dX11_heavier_22 rfl (lv_at hl 0 rfl) ?_
    refine va_get (D := D) (ci := 11) (v := .ref (a 13)) (C := RX11) (T := TX11) (N := 16) hx hb hts hinX11 hown hK.1 hP 0 rfl rfl 13 (by decide) (hts (.fieldLink RX11 95 "RopeScale" "told" "LRopeScale$Weighings;") (List.mem_of_getElem? (i := 2) rfl)) (fun _ h9 => h9) rfl dX11_heavier_23 ?_
    obtain ⟨z5, hz5, hf⟩ := bnd hf
    have hPc := hP.sub (ws' := kX6 T (a 9) (aa 10) urk ++ kX10 T (a 13) (aa 15) uto) [32, 33, 34, 57, 58, 59, 60] rfl
    have hDc := hD.sub (ws' := kX6 T (a 9) (aa 10) urk ++ kX10 T (a 13) (aa 15) uto) [32, 33, 34, 57, 58, 59, 60] (by decide) rfl
    have hFc9 := va_free (wc := kX6 T (a 9) (aa 10) urk ++ kX10 T (a 13) (aa 15) uto) hD hS hA [32, 33, 34, 57, 58, 59, 60] rfl
    refine cVMv (As := [.ref (a 13)]) (rest := []) ⟨hx, hb, hml, hown, hts⟩ (mX6_find l D T (a 9) (aa 10) urk (a 13) (aa 15) uto _ z5 hz5) (cwV 1 hts gX11_heavier_X6_find rfl rfl rfl (by decide +kernel) ⟨Nat.le_of_ble_eq_true rfl, Nat.le_of_ble_eq_true rfl⟩) (va_recv hK.1 hP (ci := 6) (q0 := 32) rfl rfl) hPc hK rfl hl.1 rfl (Nat.le_of_ble_eq_true rfl) dX11_heavier_26 ⟨Nat.le_of_ble_eq_true rfl, Nat.le_of_ble_eq_true rfl⟩ hDc hFc9 hS (fun H9 locs hP1 hD1 hk1 hS => ?_)
    obtain ⟨hP, hD⟩ := putAll_P (w1 := kX6 T (a 9) (aa 10) z5 ++ kX10 T (a 13) (aa 15) uto) hP hD [32, 33, 34, 57, 58, 59, 60] rfl (by decide) hk1 hP1 rfl
    generalize H9 = H at hP hS ⊢
    have hP : va_P D vwCl (WX11 T h a a aa u utp ucu unw ukp utr uro ugi urd uch z5 upa uwl uva usl uto usw) H := by exact hP
    have hD : va_D (va_A (WX11 T h a a aa u utp ucu unw ukp utr uro ugi urd uch urk upa uwl uva usl uto usw) s.heap.size) (WX11 T h a a aa u utp ucu unw ukp utr uro ugi urd uch z5 upa uwl uva usl uto usw) := by exact hD
    refine lv_aload_n hx hb dX11_heavier_29 rfl (lv_at hl 0 rfl) ?_
    refine va_get (D := D) (ci := 11) (v := .ref (a 9)) (C := RX11) (T := TX11) (N := 16) hx hb hts hinX11 hown hK.1 hP 0 rfl rfl 9 (by decide) (hts (.fieldLink RX11 71 "RopeScale" "rank" "LRopeScale$Rank;") (List.mem_of_getElem? (i := 1) rfl)) (fun _ h9 => h9) rfl dX11_heavier_30 ?_
    obtain ⟨z6, hz6, hf⟩ := bnd hf
    refine cVR (As := []) (rest := []) ⟨hx, hb, hml, hown, hts⟩ (mX6_contradictsItself l D T (a 9) (aa 10) z5 z6 hz6) (cwV 0 hts gX11_heavier_X6_contradictsItself rfl rfl rfl (by decide +kernel) ⟨Nat.le_of_ble_eq_true rfl, Nat.le_of_ble_eq_true rfl⟩) (va_recv hK.1 hP (ci := 6) (q0 := 32) rfl rfl) (hP.sub (ws' := kX6 T (a 9) (aa 10) z5) [32, 33, 34] rfl) hK rfl hl.1 rfl (Nat.le_of_ble_eq_true rfl) dX11_heavier_33 ⟨Nat.le_of_ble_eq_true rfl, Nat.le_of_ble_eq_true rfl⟩ hP hS (fun H locs hP hS => ?_)
    refine lv_if_eq (tgt := 42) hx hb dX11_heavier_36 (by decide) (fun c7 => ?_) (fun c7 => ?_)
    · replace hf := ifp c7 hf
      refine lv_iload_n hx hb dX11_heavier_42 rfl (lv_at hl 2 rfl) ?_
      refine lv_if_ne (tgt := 58) hx hb dX11_heavier_43 (by decide) (fun c8 => ?_) (fun c8 => ?_)
      · replace hf := ifn c8 hf
        refine lv_aload_n hx hb dX11_heavier_58 rfl (lv_at hl 0 rfl) ?_
        refine va_get (D := D) (ci := 11) (v := .ref (a 9)) (C := RX11) (T := TX11) (N := 16) hx hb hts hinX11 hown hK.1 hP 0 rfl rfl 9 (by decide) (hts (.fieldLink RX11 71 "RopeScale" "rank" "LRopeScale$Rank;") (List.mem_of_getElem? (i := 1) rfl)) (fun _ h9 => h9) rfl dX11_heavier_59 ?_
        refine va_get (D := D) (ci := 6) (v := .ref ((aa 10) 1)) (C := RX6) (T := TX6) (N := 2) hx hb hts hinX6 hown hK.1 hP 32 rfl rfl 1 (by decide) (hts (.fieldLink RX11 276 "RopeScale$Rank" "alike" "[I") (List.mem_of_getElem? (i := 4) rfl)) (fun _ h9 => h9) rfl dX11_heavier_62 ?_
        refine lv_iload_n hx hb dX11_heavier_65 rfl (lv_at hl 1 rfl) ?_
        obtain ⟨h9, hf⟩ := gd_e hf
        refine va_iald hx hb hK.1 hP 34 0 rfl rfl h9 dX11_heavier_66 ?_
        have e9 := Option.some.inj hf
        exact retM hx hb hr hlocks hP hD hS (congrArg (fun z => z.1) e9) (congrArg (fun z => (WX11 T h a a aa u utp ucu unw ukp utr uro ugi urd uch z.2 upa uwl uva usl uto usw : va_W)) e9) dX11_heavier_67
      replace hf := ifp c8 hf
      refine lv_aload_n hx hb dX11_heavier_46 rfl (lv_at hl 0 rfl) ?_
      refine va_get (D := D) (ci := 11) (v := .ref (a 9)) (C := RX11) (T := TX11) (N := 16) hx hb hts hinX11 hown hK.1 hP 0 rfl rfl 9 (by decide) (hts (.fieldLink RX11 71 "RopeScale" "rank" "LRopeScale$Rank;") (List.mem_of_getElem? (i := 1) rfl)) (fun _ h9 => h9) rfl dX11_heavier_47 ?_
      refine va_get (D := D) (ci := 6) (v := .ref ((aa 10) 0)) (C := RX6) (T := TX6) (N := 2) hx hb hts hinX6 hown hK.1 hP 32 rfl rfl 0 (by decide) (hts (.fieldLink RX11 273 "RopeScale$Rank" "lighter" "[I") (List.mem_of_getElem? (i := 3) rfl)) (fun _ h9 => h9) rfl dX11_heavier_50 ?_
      refine lv_iload_n hx hb dX11_heavier_53 rfl (lv_at hl 1 rfl) ?_
      obtain ⟨h10, hf⟩ := gd_e hf
      refine va_iald hx hb hK.1 hP 33 0 rfl rfl h10 dX11_heavier_54 ?_
      refine lv_goto (tgt := 67) hx hb dX11_heavier_55 (by decide) ?_
      have e9 := Option.some.inj hf
      exact retM hx hb hr hlocks hP hD hS (congrArg (fun z => z.1) e9) (congrArg (fun z => (WX11 T h a a aa u utp ucu unw ukp utr uro ugi urd uch z.2 upa uwl uva usl uto usw : va_W)) e9) dX11_heavier_67
    replace hf := ifn c7 hf
    refine lv_bipush (v := (-3)) hx hb dX11_heavier_39 (by decide) ?_
    have e9 := Option.some.inj hf
    exact retM hx hb hr hlocks hP hD hS (congrArg (fun z => z.1) e9) (congrArg (fun z => (WX11 T h a a aa u utp ucu unw ukp utr uro ugi urd uch z.2 upa uwl uva usl uto usw : va_W)) e9) dX11_heavier_41
  replace hf := ifp c4 hf
  refine lv_iconst (v := (-1)) hx hb dX11_heavier_16 (by decide) ?_
  have e9 := Option.some.inj hf
  exact retM hx hb hr hlocks hP hD hS (congrArg (fun z => z.1) e9) (congrArg (fun z => (WX11 T h a a aa u utp ucu unw ukp utr uro ugi urd uch z.2 upa uwl uva usl uto usw : va_W)) e9) dX11_heavier_17
set_option maxHeartbeats 4000000 in
set_option maxRecDepth 100000 in
theorem mX11_pairs (l : Launch) (D : va_G) (T : Ty3) (aa : Nat → Nat → Nat) (h : Nat) (a : Nat → Nat) (u : St) (utp : St) (ucu : St) (unw : St) (ukp : St) (utr : St) (uro : St) (ugi : St) (urd : St) (uch : St) (urk : St) (upa : St) (uwl : Nat → Int64) (uva : St) (usl : St) (uto : St) (usw : St) (sz : Nat) (p1 : Int32) (res : Int32 × St) (hf : fX11_pairs unw uch p1 = some res) : Met l yX11_pairs wsX11_pairs ({ frames := 3, cells := 0, slots := 0, locals := 71 }) (PcM D T (WX11 T h a a aa u utp ucu unw ukp utr uro ugi urd uch urk upa uwl uva usl uto usw) sz [.ref h, .int p1]) (QM D (WX11 T h a a aa u utp ucu unw ukp utr uro ugi urd uch urk upa uwl uva usl uto usw) sz res.1 (WX11 T h a a aa u utp ucu unw ukp utr uro ugi urd res.2 urk upa uwl uva usl uto usw)) 0 0 (va_A (WX11 T h a a aa u utp ucu unw ukp utr uro ugi urd uch urk upa uwl uva usl uto usw) sz) := by
  refine Met.ofW (cc := cX11_pairs) (maxL := 2) (ret := (some .int)) (by decide) rfl ?_
  intro p e s m args below meth c s₁ B hml hv
  obtain ⟨rfl, hsz, hP, hK, hD0⟩ := hv
  have hx := B.exec
  have hb := B.bytes
  have hr := B.returns
  have hts := atoms_spec (ws := wsX11_pairs) B.pre
  have hown : s.vm.findClass RX11 = some m.cls := findClass_of_methodNamed B.named
  have hlocks := B.notSynchronized
  subst hsz
  have hD := hD0.self (sz := s.heap.size)
  have hA : ∀ q : Nat, s.heap.size ≤ q → va_A (WX11 T h a a aa u utp ucu unw ukp utr uro ugi urd uch urk upa uwl uva usl uto usw) s.heap.size q := fun q h => Or.inr h
  have hS : va_S (va_A (WX11 T h a a aa u utp ucu unw ukp utr uro ugi urd uch urk upa uwl uva usl uto usw) s.heap.size) s.heap s.heap [] := va_S.rf
  have hinX11 : ∀ w ∈ u_ws RX11 TX11 16, w ∈ wsX11_pairs := fun w h => List.mem_cons_of_mem _ (List.mem_append_left _ (List.mem_append_left _ (List.mem_append_right _ h)))
  have hinX0 : ∀ w ∈ u_ws RX0 TX0 6, w ∈ wsX11_pairs := fun w h => List.mem_cons_of_mem _ (List.mem_append_left _ (List.mem_append_right _ h))
  have hinX9 : ∀ w ∈ u_ws RX9 TX9 8, w ∈ wsX11_pairs := fun w h => List.mem_cons_of_mem _ (List.mem_append_right _ h)
  have hl := lv_entry ([.ref h, .int p1]) (n := 2) (Nat.le_of_ble_eq_true rfl)
  rw [lg_entry_eq]
  generalize (lg_sl ([.ref h, .int p1]) ++ List.replicate (2 - (lg_sl ([.ref h, .int p1])).length) Slot.unset).toArray = ls at hl ⊢
  have hl : lv_has ls 2 [(0, .ref h), (1, .int p1)] := hl
  unfold fX11_pairs at hf
  refine lv_iload_n hx hb dX11_pairs_0 rfl (lv_at hl 1 rfl) ?_
  refine lv_iconst (v := 0) hx hb dX11_pairs_1 (by decide) ?_
  refine lv_sipush (v := 999) hx hb dX11_pairs_2 (by decide) ?_
  obtain ⟨z1, hz1, hf⟩ := lett_e hf
  refine cSR (As := [.int p1, .int 0, .int 999]) (rest := []) ⟨hx, hb, hml, hown, hts⟩ (mX11_isWithin l D T p1 0 999 z1 hz1.symm) (va_cwS 3 hts gX11_pairs_X11_isWithin rfl rfl rfl (by decide +kernel) ⟨Nat.le_of_ble_eq_true rfl, Nat.le_of_ble_eq_true rfl⟩) P0 hK rfl hl.1 rfl (Nat.le_of_ble_eq_true rfl) dX11_pairs_5 ⟨Nat.le_of_ble_eq_true rfl, Nat.le_of_ble_eq_true rfl⟩ hP hS (fun H locs hP hS => ?_)
  refine lv_if_eq (tgt := 26) hx hb dX11_pairs_8 (by decide) (fun c2 => ?_) (fun c2 => ?_)
  · replace hf := ifp c2 hf
    refine lv_iconst (v := (-1)) hx hb dX11_pairs_26 (by decide) ?_
    have e9 := Option.some.inj hf
    exact retM hx hb hr hlocks hP hD hS (congrArg (fun z => z.1) e9) (congrArg (fun z => (WX11 T h a a aa u utp ucu unw ukp utr uro ugi urd z.2 urk upa uwl uva usl uto usw : va_W)) e9) dX11_pairs_27
  replace hf := ifn c2 hf
  refine lv_aload_n hx hb dX11_pairs_11 rfl (lv_at hl 0 rfl) ?_
  refine va_get (D := D) (ci := 11) (v := .ref (a 8)) (C := RX11) (T := TX11) (N := 16) hx hb hts hinX11 hown hK.1 hP 0 rfl rfl 8 (by decide) (hts (.fieldLink RX11 64 "RopeScale" "choices" "LRopeScale$Choices;") (List.mem_of_getElem? (i := 1) rfl)) (fun _ h9 => h9) rfl dX11_pairs_12 ?_
  refine lv_aload_n hx hb dX11_pairs_15 rfl (lv_at hl 0 rfl) ?_
  refine va_get (D := D) (ci := 11) (v := .ref (a 2)) (C := RX11) (T := TX11) (N := 16) hx hb hts hinX11 hown hK.1 hP 0 rfl rfl 2 (by decide) (hts (.fieldLink RX11 28 "RopeScale" "now" "LRopeScale$Walk;") (List.mem_of_getElem? (i := 2) rfl)) (fun _ h9 => h9) rfl dX11_pairs_16 ?_
  refine lv_iload_n hx hb dX11_pairs_19 rfl (lv_at hl 1 rfl) ?_
  obtain ⟨z3, hz3, hf⟩ := bnd hf
  have hPc := hP.sub (ws' := kX0 T (a 8) (aa 9) uch ++ kX9 T (a 2) (aa 3) unw) [25, 26, 27, 28, 29, 30, 31, 4, 5, 6, 7, 8] rfl
  have hDc := hD.sub (ws' := kX0 T (a 8) (aa 9) uch ++ kX9 T (a 2) (aa 3) unw) [25, 26, 27, 28, 29, 30, 31, 4, 5, 6, 7, 8] (by decide) rfl
  have hFc9 := va_free (wc := kX0 T (a 8) (aa 9) uch ++ kX9 T (a 2) (aa 3) unw) hD hS hA [25, 26, 27, 28, 29, 30, 31, 4, 5, 6, 7, 8] rfl
  refine cVM (As := [.ref (a 2), .int p1]) (rest := []) ⟨hx, hb, hml, hown, hts⟩ (mX0_mostTwos l D T (a 8) (aa 9) uch (a 2) (aa 3) unw _ p1 z3 hz3) (cwV 2 hts gX11_pairs_X0_mostTwos rfl rfl rfl (by decide +kernel) ⟨Nat.le_of_ble_eq_true rfl, Nat.le_of_ble_eq_true rfl⟩) (va_recv hK.1 hP (ci := 0) (q0 := 25) rfl rfl) hPc hK rfl hl.1 rfl (Nat.le_of_ble_eq_true rfl) dX11_pairs_20 ⟨Nat.le_of_ble_eq_true rfl, Nat.le_of_ble_eq_true rfl⟩ hDc hFc9 hS (fun H9 locs hP1 hD1 hk1 hS => ?_)
  obtain ⟨hP, hD⟩ := putAll_P (w1 := kX0 T (a 8) (aa 9) z3.2 ++ kX9 T (a 2) (aa 3) unw) hP hD [25, 26, 27, 28, 29, 30, 31, 4, 5, 6, 7, 8] rfl (by decide) hk1 hP1 rfl
  generalize H9 = H at hP hS ⊢
  have hP : va_P D vwCl (WX11 T h a a aa u utp ucu unw ukp utr uro ugi urd z3.2 urk upa uwl uva usl uto usw) H := by exact hP
  have hD : va_D (va_A (WX11 T h a a aa u utp ucu unw ukp utr uro ugi urd uch urk upa uwl uva usl uto usw) s.heap.size) (WX11 T h a a aa u utp ucu unw ukp utr uro ugi urd z3.2 urk upa uwl uva usl uto usw) := by exact hD
  refine lv_goto (tgt := 27) hx hb dX11_pairs_23 (by decide) ?_
  have e9 := Option.some.inj hf
  exact retM hx hb hr hlocks hP hD hS (congrArg (fun z => z.1) e9) (congrArg (fun z => (WX11 T h a a aa u utp ucu unw ukp utr uro ugi urd z.2 urk upa uwl uva usl uto usw : va_W)) e9) dX11_pairs_27
set_option maxHeartbeats 4000000 in
set_option maxRecDepth 100000 in
theorem mX11_liars (l : Launch) (D : va_G) (T : Ty3) (aa : Nat → Nat → Nat) (h : Nat) (a : Nat → Nat) (u : St) (utp : St) (ucu : St) (unw : St) (ukp : St) (utr : St) (uro : St) (ugi : St) (urd : St) (uch : St) (urk : St) (upa : St) (uwl : Nat → Int64) (uva : St) (usl : St) (uto : St) (usw : St) (p1 : Int32) (res : Int32) (hf : fX11_liars unw p1 = some res) : Met l yX11_liars wsX11_liars ({ frames := 3, cells := 0, slots := 0, locals := 65 }) (PcR D T (WX11 T h a a aa u utp ucu unw ukp utr uro ugi urd uch urk upa uwl uva usl uto usw) [.ref h, .int p1]) (QR res) 0 0 noA := by
  refine Met.ofW (cc := cX11_liars) (maxL := 2) (ret := (some .int)) (by decide) rfl ?_
  intro p e s m args below meth c s₁ B hml hv
  obtain ⟨rfl, hP, hK⟩ := hv
  have hx := B.exec
  have hb := B.bytes
  have hr := B.returns
  have hts := atoms_spec (ws := wsX11_liars) B.pre
  have hown : s.vm.findClass RX11 = some m.cls := findClass_of_methodNamed B.named
  have hlocks := B.notSynchronized
  have hS : va_S noA s.heap s.heap [] := va_S.rf
  have hinX11 : ∀ w ∈ u_ws RX11 TX11 16, w ∈ wsX11_liars := fun w h => List.mem_cons_of_mem _ (List.mem_append_left _ (List.mem_append_right _ h))
  have hinX9 : ∀ w ∈ u_ws RX9 TX9 8, w ∈ wsX11_liars := fun w h => List.mem_cons_of_mem _ (List.mem_append_right _ h)
  have hl := lv_entry ([.ref h, .int p1]) (n := 2) (Nat.le_of_ble_eq_true rfl)
  rw [lg_entry_eq]
  generalize (lg_sl ([.ref h, .int p1]) ++ List.replicate (2 - (lg_sl ([.ref h, .int p1])).length) Slot.unset).toArray = ls at hl ⊢
  have hl : lv_has ls 2 [(0, .ref h), (1, .int p1)] := hl
  unfold fX11_liars at hf
  refine lv_iload_n hx hb dX11_liars_0 rfl (lv_at hl 1 rfl) ?_
  by_cases c1 : p1 = 0
  · replace hf := ifp c1 hf
    refine lv_tableIn (off := 27) (tgt := 28) hx hb dX11_liars_1 (by rw [c1]; decide) (by rw [c1]; decide) (by rw [c1]; rfl) (by decide) ?_
    refine lv_aload_n hx hb dX11_liars_28 rfl (lv_at hl 0 rfl) ?_
    refine va_get (D := D) (ci := 11) (v := .ref (a 2)) (C := RX11) (T := TX11) (N := 16) hx hb hts hinX11 hown hK.1 hP 0 rfl rfl 2 (by decide) (hts (.fieldLink RX11 28 "RopeScale" "now" "LRopeScale$Walk;") (List.mem_of_getElem? (i := 1) rfl)) (fun _ h9 => h9) rfl dX11_liars_29 ?_
    obtain ⟨z2, hz2, hf⟩ := bnd hf
    refine cVR (As := []) (rest := []) ⟨hx, hb, hml, hown, hts⟩ (mX9_whoLies l D T (a 2) (aa 3) unw z2 hz2) (cwV 0 hts gX11_liars_X9_whoLies rfl rfl rfl (by decide +kernel) ⟨Nat.le_of_ble_eq_true rfl, Nat.le_of_ble_eq_true rfl⟩) (va_recv hK.1 hP (ci := 9) (q0 := 4) rfl rfl) (hP.sub (ws' := kX9 T (a 2) (aa 3) unw) [4, 5, 6, 7, 8] rfl) hK rfl hl.1 rfl (Nat.le_of_ble_eq_true rfl) dX11_liars_32 ⟨Nat.le_of_ble_eq_true rfl, Nat.le_of_ble_eq_true rfl⟩ hP hS (fun H locs hP hS => ?_)
    exact retR hx hb hr hlocks hS (Option.some.inj hf) dX11_liars_35
  replace hf := ifn c1 hf
  by_cases c3 : p1 = 1
  · replace hf := ifp c3 hf
    refine lv_tableIn (off := 35) (tgt := 36) hx hb dX11_liars_1 (by rw [c3]; decide) (by rw [c3]; decide) (by rw [c3]; rfl) (by decide) ?_
    refine lv_aload_n hx hb dX11_liars_36 rfl (lv_at hl 0 rfl) ?_
    refine va_get (D := D) (ci := 11) (v := .ref (a 2)) (C := RX11) (T := TX11) (N := 16) hx hb hts hinX11 hown hK.1 hP 0 rfl rfl 2 (by decide) (hts (.fieldLink RX11 28 "RopeScale" "now" "LRopeScale$Walk;") (List.mem_of_getElem? (i := 1) rfl)) (fun _ h9 => h9) rfl dX11_liars_37 ?_
    obtain ⟨z4, hz4, hf⟩ := bnd hf
    refine cVR (As := []) (rest := []) ⟨hx, hb, hml, hown, hts⟩ (mX9_greatestLiar l D T (a 2) (aa 3) unw z4 hz4) (cwV 0 hts gX11_liars_X9_greatestLiar rfl rfl rfl (by decide +kernel) ⟨Nat.le_of_ble_eq_true rfl, Nat.le_of_ble_eq_true rfl⟩) (va_recv hK.1 hP (ci := 9) (q0 := 4) rfl rfl) (hP.sub (ws' := kX9 T (a 2) (aa 3) unw) [4, 5, 6, 7, 8] rfl) hK rfl hl.1 rfl (Nat.le_of_ble_eq_true rfl) dX11_liars_40 ⟨Nat.le_of_ble_eq_true rfl, Nat.le_of_ble_eq_true rfl⟩ hP hS (fun H locs hP hS => ?_)
    refine lv_iconst (v := (-1)) hx hb dX11_liars_43 (by decide) ?_
    refine lv_icmp_ne (tgt := 51) hx hb dX11_liars_44 (by decide) (fun c5 => ?_) (fun c5 => ?_)
    · replace hf := ifn c5 hf
      refine lv_aload_n hx hb dX11_liars_51 rfl (lv_at hl 0 rfl) ?_
      refine va_get (D := D) (ci := 11) (v := .ref (a 2)) (C := RX11) (T := TX11) (N := 16) hx hb hts hinX11 hown hK.1 hP 0 rfl rfl 2 (by decide) (hts (.fieldLink RX11 28 "RopeScale" "now" "LRopeScale$Walk;") (List.mem_of_getElem? (i := 1) rfl)) (fun _ h9 => h9) rfl dX11_liars_52 ?_
      refine lv_aload_n hx hb dX11_liars_55 rfl (lv_at hl 0 rfl) ?_
      refine va_get (D := D) (ci := 11) (v := .ref (a 2)) (C := RX11) (T := TX11) (N := 16) hx hb hts hinX11 hown hK.1 hP 0 rfl rfl 2 (by decide) (hts (.fieldLink RX11 28 "RopeScale" "now" "LRopeScale$Walk;") (List.mem_of_getElem? (i := 1) rfl)) (fun _ h9 => h9) rfl dX11_liars_56 ?_
      obtain ⟨z6, hz6, hf⟩ := bnd hf
      refine cVR (As := []) (rest := [.ref (a 2)]) ⟨hx, hb, hml, hown, hts⟩ (mX9_greatestLiar l D T (a 2) (aa 3) unw z6 hz6) (cwV 0 hts gX11_liars_X9_greatestLiar rfl rfl rfl (by decide +kernel) ⟨Nat.le_of_ble_eq_true rfl, Nat.le_of_ble_eq_true rfl⟩) (va_recv hK.1 hP (ci := 9) (q0 := 4) rfl rfl) (hP.sub (ws' := kX9 T (a 2) (aa 3) unw) [4, 5, 6, 7, 8] rfl) hK rfl hl.1 rfl (Nat.le_of_ble_eq_true rfl) dX11_liars_59 ⟨Nat.le_of_ble_eq_true rfl, Nat.le_of_ble_eq_true rfl⟩ hP hS (fun H locs hP hS => ?_)
      obtain ⟨z7, hz7, hf⟩ := bnd hf
      refine cVR (As := [.int z6]) (rest := []) ⟨hx, hb, hml, hown, hts⟩ (mX9_lieOf l D T (a 2) (aa 3) unw z6 z7 hz7) (cwV 1 hts gX11_liars_X9_lieOf rfl rfl rfl (by decide +kernel) ⟨Nat.le_of_ble_eq_true rfl, Nat.le_of_ble_eq_true rfl⟩) (va_recv hK.1 hP (ci := 9) (q0 := 4) rfl rfl) (hP.sub (ws' := kX9 T (a 2) (aa 3) unw) [4, 5, 6, 7, 8] rfl) hK rfl hl.1 rfl (Nat.le_of_ble_eq_true rfl) dX11_liars_62 ⟨Nat.le_of_ble_eq_true rfl, Nat.le_of_ble_eq_true rfl⟩ hP hS (fun H locs hP hS => ?_)
      exact retR hx hb hr hlocks hS (Option.some.inj hf) dX11_liars_65
    replace hf := ifp c5 hf
    refine lv_iconst (v := 0) hx hb dX11_liars_47 (by decide) ?_
    refine lv_goto (tgt := 65) hx hb dX11_liars_48 (by decide) ?_
    exact retR hx hb hr hlocks hS (Option.some.inj hf) dX11_liars_65
  replace hf := ifn c3 hf
  by_cases c8 : p1 = 2
  · replace hf := ifp c8 hf
    refine lv_tableIn (off := 65) (tgt := 66) hx hb dX11_liars_1 (by rw [c8]; decide) (by rw [c8]; decide) (by rw [c8]; rfl) (by decide) ?_
    refine lv_aload_n hx hb dX11_liars_66 rfl (lv_at hl 0 rfl) ?_
    refine va_get (D := D) (ci := 11) (v := .ref (a 2)) (C := RX11) (T := TX11) (N := 16) hx hb hts hinX11 hown hK.1 hP 0 rfl rfl 2 (by decide) (hts (.fieldLink RX11 28 "RopeScale" "now" "LRopeScale$Walk;") (List.mem_of_getElem? (i := 1) rfl)) (fun _ h9 => h9) rfl dX11_liars_67 ?_
    obtain ⟨z9, hz9, hf⟩ := bnd hf
    refine cVR (As := []) (rest := []) ⟨hx, hb, hml, hown, hts⟩ (mX9_greatestLiar l D T (a 2) (aa 3) unw z9 hz9) (cwV 0 hts gX11_liars_X9_greatestLiar rfl rfl rfl (by decide +kernel) ⟨Nat.le_of_ble_eq_true rfl, Nat.le_of_ble_eq_true rfl⟩) (va_recv hK.1 hP (ci := 9) (q0 := 4) rfl rfl) (hP.sub (ws' := kX9 T (a 2) (aa 3) unw) [4, 5, 6, 7, 8] rfl) hK rfl hl.1 rfl (Nat.le_of_ble_eq_true rfl) dX11_liars_70 ⟨Nat.le_of_ble_eq_true rfl, Nat.le_of_ble_eq_true rfl⟩ hP hS (fun H locs hP hS => ?_)
    refine lv_iconst (v := (-1)) hx hb dX11_liars_73 (by decide) ?_
    refine lv_icmp_ne (tgt := 82) hx hb dX11_liars_74 (by decide) (fun c10 => ?_) (fun c10 => ?_)
    · replace hf := ifn c10 hf
      refine lv_aload_n hx hb dX11_liars_82 rfl (lv_at hl 0 rfl) ?_
      refine va_get (D := D) (ci := 11) (v := .ref (a 2)) (C := RX11) (T := TX11) (N := 16) hx hb hts hinX11 hown hK.1 hP 0 rfl rfl 2 (by decide) (hts (.fieldLink RX11 28 "RopeScale" "now" "LRopeScale$Walk;") (List.mem_of_getElem? (i := 1) rfl)) (fun _ h9 => h9) rfl dX11_liars_83 ?_
      obtain ⟨z11, hz11, hf⟩ := bnd hf
      refine cVR (As := []) (rest := []) ⟨hx, hb, hml, hown, hts⟩ (mX9_greatestLiar l D T (a 2) (aa 3) unw z11 hz11) (cwV 0 hts gX11_liars_X9_greatestLiar rfl rfl rfl (by decide +kernel) ⟨Nat.le_of_ble_eq_true rfl, Nat.le_of_ble_eq_true rfl⟩) (va_recv hK.1 hP (ci := 9) (q0 := 4) rfl rfl) (hP.sub (ws' := kX9 T (a 2) (aa 3) unw) [4, 5, 6, 7, 8] rfl) hK rfl hl.1 rfl (Nat.le_of_ble_eq_true rfl) dX11_liars_86 ⟨Nat.le_of_ble_eq_true rfl, Nat.le_of_ble_eq_true rfl⟩ hP hS (fun H locs hP hS => ?_)
      exact retR hx hb hr hlocks hS (Option.some.inj hf) dX11_liars_89
    replace hf := ifp c10 hf
    refine lv_bipush (v := (-2)) hx hb dX11_liars_77 (by decide) ?_
    refine lv_goto (tgt := 89) hx hb dX11_liars_79 (by decide) ?_
    exact retR hx hb hr hlocks hS (Option.some.inj hf) dX11_liars_89
  replace hf := ifn c8 hf
  refine lv_tableOut (tgt := 90) hx hb dX11_liars_1 (sw_out (x := p1) 3 (by decide) (fun k9 hk9 => match k9, hk9 with | 0, _ => fun e9 => c1 (e9.trans (by decide)) | 1, _ => fun e9 => c3 (e9.trans (by decide)) | 2, _ => fun e9 => c8 (e9.trans (by decide)) | k9 + 3, hk9 => absurd hk9 (by omega))) (by decide) ?_
  refine lv_iconst (v := (-1)) hx hb dX11_liars_90 (by decide) ?_
  exact retR hx hb hr hlocks hS (Option.some.inj hf) dX11_liars_91
set_option maxHeartbeats 4000000 in
set_option maxRecDepth 100000 in
theorem mX11_teams (l : Launch) (D : va_G) (T : Ty3) (aa : Nat → Nat → Nat) (h : Nat) (a : Nat → Nat) (u : St) (utp : St) (ucu : St) (unw : St) (ukp : St) (utr : St) (uro : St) (ugi : St) (urd : St) (uch : St) (urk : St) (upa : St) (uwl : Nat → Int64) (uva : St) (usl : St) (uto : St) (usw : St) (sz : Nat) (p1 : Int32) (res : Int32 × St) (hf : fX11_teams unw uch p1 = some res) : Met l yX11_teams wsX11_teams ({ frames := 3, cells := 0, slots := 0, locals := 72 }) (PcM D T (WX11 T h a a aa u utp ucu unw ukp utr uro ugi urd uch urk upa uwl uva usl uto usw) sz [.ref h, .int p1]) (QM D (WX11 T h a a aa u utp ucu unw ukp utr uro ugi urd uch urk upa uwl uva usl uto usw) sz res.1 (WX11 T h a a aa u utp ucu unw ukp utr uro ugi urd res.2 urk upa uwl uva usl uto usw)) 0 0 (va_A (WX11 T h a a aa u utp ucu unw ukp utr uro ugi urd uch urk upa uwl uva usl uto usw) sz) := by
  refine Met.ofW (cc := cX11_teams) (maxL := 3) (ret := (some .int)) (by decide) rfl ?_
  intro p e s m args below meth c s₁ B hml hv
  obtain ⟨rfl, hsz, hP, hK, hD0⟩ := hv
  have hx := B.exec
  have hb := B.bytes
  have hr := B.returns
  have hts := atoms_spec (ws := wsX11_teams) B.pre
  have hown : s.vm.findClass RX11 = some m.cls := findClass_of_methodNamed B.named
  have hlocks := B.notSynchronized
  subst hsz
  have hD := hD0.self (sz := s.heap.size)
  have hA : ∀ q : Nat, s.heap.size ≤ q → va_A (WX11 T h a a aa u utp ucu unw ukp utr uro ugi urd uch urk upa uwl uva usl uto usw) s.heap.size q := fun q h => Or.inr h
  have hS : va_S (va_A (WX11 T h a a aa u utp ucu unw ukp utr uro ugi urd uch urk upa uwl uva usl uto usw) s.heap.size) s.heap s.heap [] := va_S.rf
  have hinX11 : ∀ w ∈ u_ws RX11 TX11 16, w ∈ wsX11_teams := fun w h => List.mem_cons_of_mem _ (List.mem_append_left _ (List.mem_append_left _ (List.mem_append_right _ h)))
  have hinX9 : ∀ w ∈ u_ws RX9 TX9 8, w ∈ wsX11_teams := fun w h => List.mem_cons_of_mem _ (List.mem_append_left _ (List.mem_append_right _ h))
  have hinX0 : ∀ w ∈ u_ws RX0 TX0 6, w ∈ wsX11_teams := fun w h => List.mem_cons_of_mem _ (List.mem_append_right _ h)
  have hl := lv_entry ([.ref h, .int p1]) (n := 3) (Nat.le_of_ble_eq_true rfl)
  rw [lg_entry_eq]
  generalize (lg_sl ([.ref h, .int p1]) ++ List.replicate (3 - (lg_sl ([.ref h, .int p1])).length) Slot.unset).toArray = ls at hl ⊢
  have hl : lv_has ls 3 [(0, .ref h), (1, .int p1)] := hl
  unfold fX11_teams at hf
  refine lv_iload_n hx hb dX11_teams_0 rfl (lv_at hl 1 rfl) ?_
  refine lv_iconst (v := 0) hx hb dX11_teams_1 (by decide) ?_
  refine lv_iconst (v := 1) hx hb dX11_teams_2 (by decide) ?_
  obtain ⟨z1, hz1, hf⟩ := lett_e hf
  refine cSR (As := [.int p1, .int 0, .int 1]) (rest := []) ⟨hx, hb, hml, hown, hts⟩ (mX11_isWithin l D T p1 0 1 z1 hz1.symm) (va_cwS 3 hts gX11_teams_X11_isWithin rfl rfl rfl (by decide +kernel) ⟨Nat.le_of_ble_eq_true rfl, Nat.le_of_ble_eq_true rfl⟩) P0 hK rfl hl.1 rfl (Nat.le_of_ble_eq_true rfl) dX11_teams_3 ⟨Nat.le_of_ble_eq_true rfl, Nat.le_of_ble_eq_true rfl⟩ hP hS (fun H locs hP hS => ?_)
  refine lv_if_ne (tgt := 11) hx hb dX11_teams_6 (by decide) (fun c2 => ?_) (fun c2 => ?_)
  · replace hf := ifn c2 hf
    refine lv_aload_n hx hb dX11_teams_11 rfl (lv_at hl 0 rfl) ?_
    refine va_get (D := D) (ci := 11) (v := .ref (a 8)) (C := RX11) (T := TX11) (N := 16) hx hb hts hinX11 hown hK.1 hP 0 rfl rfl 8 (by decide) (hts (.fieldLink RX11 64 "RopeScale" "choices" "LRopeScale$Choices;") (List.mem_of_getElem? (i := 1) rfl)) (fun _ h9 => h9) rfl dX11_teams_12 ?_
    refine lv_aload_n hx hb dX11_teams_15 rfl (lv_at hl 0 rfl) ?_
    refine va_get (D := D) (ci := 11) (v := .ref (a 2)) (C := RX11) (T := TX11) (N := 16) hx hb hts hinX11 hown hK.1 hP 0 rfl rfl 2 (by decide) (hts (.fieldLink RX11 28 "RopeScale" "now" "LRopeScale$Walk;") (List.mem_of_getElem? (i := 2) rfl)) (fun _ h9 => h9) rfl dX11_teams_16 ?_
    refine va_get (D := D) (ci := 9) (v := .ref ((aa 3) 0)) (C := RX9) (T := TX9) (N := 8) hx hb hts hinX9 hown hK.1 hP 4 rfl rfl 0 (by decide) (hts (.fieldLink RX11 211 "RopeScale$Walk" "weight" "[I") (List.mem_of_getElem? (i := 3) rfl)) (fun _ h9 => h9) rfl dX11_teams_19 ?_
    obtain ⟨z3, hz3, hf⟩ := bnd hf
    have hPc := hP.sub (ws' := kX0 T (a 8) (aa 9) uch ++ [((aa 3) 0, .inl (T.1, 16, .inl (unw 0)))]) [25, 26, 27, 28, 29, 30, 31, 5] rfl
    have hDc := hD.sub (ws' := kX0 T (a 8) (aa 9) uch ++ [((aa 3) 0, .inl (T.1, 16, .inl (unw 0)))]) [25, 26, 27, 28, 29, 30, 31, 5] (by decide) rfl
    have hFc9 := va_free (wc := kX0 T (a 8) (aa 9) uch ++ [((aa 3) 0, .inl (T.1, 16, .inl (unw 0)))]) hD hS hA [25, 26, 27, 28, 29, 30, 31, 5] rfl
    refine cVMv (As := [.ref ((aa 3) 0)]) (rest := []) ⟨hx, hb, hml, hown, hts⟩ (mX0_weigh l D T (a 8) (aa 9) uch ((aa 3) 0) (unw 0) _ z3 hz3) (cwV 1 hts gX11_teams_X0_weigh rfl rfl rfl (by decide +kernel) ⟨Nat.le_of_ble_eq_true rfl, Nat.le_of_ble_eq_true rfl⟩) (va_recv hK.1 hP (ci := 0) (q0 := 25) rfl rfl) hPc hK rfl hl.1 rfl (Nat.le_of_ble_eq_true rfl) dX11_teams_22 ⟨Nat.le_of_ble_eq_true rfl, Nat.le_of_ble_eq_true rfl⟩ hDc hFc9 hS (fun H9 locs hP1 hD1 hk1 hS => ?_)
    obtain ⟨hP, hD⟩ := putAll_P (w1 := kX0 T (a 8) (aa 9) z3 ++ [((aa 3) 0, .inl (T.1, 16, .inl (unw 0)))]) hP hD [25, 26, 27, 28, 29, 30, 31, 5] rfl (by decide) hk1 hP1 rfl
    generalize H9 = H at hP hS ⊢
    have hP : va_P D vwCl (WX11 T h a a aa u utp ucu unw ukp utr uro ugi urd z3 urk upa uwl uva usl uto usw) H := by exact hP
    have hD : va_D (va_A (WX11 T h a a aa u utp ucu unw ukp utr uro ugi urd uch urk upa uwl uva usl uto usw) s.heap.size) (WX11 T h a a aa u utp ucu unw ukp utr uro ugi urd z3 urk upa uwl uva usl uto usw) := by exact hD
    refine lv_aload_n hx hb dX11_teams_25 rfl (lv_at hl 0 rfl) ?_
    refine va_get (D := D) (ci := 11) (v := .ref (a 8)) (C := RX11) (T := TX11) (N := 16) hx hb hts hinX11 hown hK.1 hP 0 rfl rfl 8 (by decide) (hts (.fieldLink RX11 64 "RopeScale" "choices" "LRopeScale$Choices;") (List.mem_of_getElem? (i := 1) rfl)) (fun _ h9 => h9) rfl dX11_teams_26 ?_
    refine lv_aload_n hx hb dX11_teams_29 rfl (lv_at hl 0 rfl) ?_
    refine va_get (D := D) (ci := 11) (v := .ref (a 2)) (C := RX11) (T := TX11) (N := 16) hx hb hts hinX11 hown hK.1 hP 0 rfl rfl 2 (by decide) (hts (.fieldLink RX11 28 "RopeScale" "now" "LRopeScale$Walk;") (List.mem_of_getElem? (i := 2) rfl)) (fun _ h9 => h9) rfl dX11_teams_30 ?_
    refine va_get (D := D) (ci := 9) (v := .int (unw 4 0)) (C := RX9) (T := TX9) (N := 8) hx hb hts hinX9 hown hK.1 hP 4 rfl rfl 4 (by decide) (hts (.fieldLink RX11 158 "RopeScale$Walk" "told" "I") (List.mem_of_getElem? (i := 4) rfl)) (fun _ h9 => h9) rfl dX11_teams_33 ?_
    obtain ⟨z4, hz4, hf⟩ := bnd hf
    refine cVR (As := [.int (unw 4 0)]) (rest := []) ⟨hx, hb, hml, hown, hts⟩ (mX0_evenTeam l D T (a 8) (aa 9) z3 (unw 4 0) z4 hz4) (cwV 1 hts gX11_teams_X0_evenTeam rfl rfl rfl (by decide +kernel) ⟨Nat.le_of_ble_eq_true rfl, Nat.le_of_ble_eq_true rfl⟩) (va_recv hK.1 hP (ci := 0) (q0 := 25) rfl rfl) (hP.sub (ws' := kX0 T (a 8) (aa 9) z3) [25, 26, 27, 28, 29, 30, 31] rfl) hK rfl hl.1 rfl (Nat.le_of_ble_eq_true rfl) dX11_teams_36 ⟨Nat.le_of_ble_eq_true rfl, Nat.le_of_ble_eq_true rfl⟩ hP hS (fun H locs hP hS => ?_)
    refine lv_istore_n (lv' := [(2, .int z4), (0, .ref h), (1, .int p1)]) hx hb dX11_teams_39 rfl hl (by decide) rfl (fun ls hl => ?_)
    refine lv_iload_n hx hb dX11_teams_40 rfl (lv_at hl 2 rfl) ?_
    refine lv_iconst (v := 1) hx hb dX11_teams_41 (by decide) ?_
    refine lv_icmp_ne (tgt := 49) hx hb dX11_teams_42 (by decide) (fun c5 => ?_) (fun c5 => ?_)
    · replace hf := ifn c5 hf
      refine lv_aload_n hx hb dX11_teams_49 rfl (lv_at hl 1 rfl) ?_
      refine va_get (D := D) (ci := 11) (v := .ref (a 8)) (C := RX11) (T := TX11) (N := 16) hx hb hts hinX11 hown hK.1 hP 0 rfl rfl 8 (by decide) (hts (.fieldLink RX11 64 "RopeScale" "choices" "LRopeScale$Choices;") (List.mem_of_getElem? (i := 1) rfl)) (fun _ h9 => h9) rfl dX11_teams_50 ?_
      refine lv_iload_n hx hb dX11_teams_53 rfl (lv_at hl 0 rfl) ?_
      refine lv_aload_n hx hb dX11_teams_54 rfl (lv_at hl 1 rfl) ?_
      refine va_get (D := D) (ci := 11) (v := .ref (a 2)) (C := RX11) (T := TX11) (N := 16) hx hb hts hinX11 hown hK.1 hP 0 rfl rfl 2 (by decide) (hts (.fieldLink RX11 28 "RopeScale" "now" "LRopeScale$Walk;") (List.mem_of_getElem? (i := 2) rfl)) (fun _ h9 => h9) rfl dX11_teams_55 ?_
      refine va_get (D := D) (ci := 9) (v := .int (unw 4 0)) (C := RX9) (T := TX9) (N := 8) hx hb hts hinX9 hown hK.1 hP 4 rfl rfl 4 (by decide) (hts (.fieldLink RX11 158 "RopeScale$Walk" "told" "I") (List.mem_of_getElem? (i := 4) rfl)) (fun _ h9 => h9) rfl dX11_teams_58 ?_
      obtain ⟨z6, hz6, hf⟩ := bnd hf
      refine cVR (As := [.int z4, .int (unw 4 0)]) (rest := []) ⟨hx, hb, hml, hown, hts⟩ (mX0_unevenness l D T (a 8) (aa 9) z3 z4 (unw 4 0) z6 hz6) (cwV 2 hts gX11_teams_X0_unevenness rfl rfl rfl (by decide +kernel) ⟨Nat.le_of_ble_eq_true rfl, Nat.le_of_ble_eq_true rfl⟩) (va_recv hK.1 hP (ci := 0) (q0 := 25) rfl rfl) (hP.sub (ws' := kX0 T (a 8) (aa 9) z3) [25, 26, 27, 28, 29, 30, 31] rfl) hK rfl hl.1 rfl (Nat.le_of_ble_eq_true rfl) dX11_teams_61 ⟨Nat.le_of_ble_eq_true rfl, Nat.le_of_ble_eq_true rfl⟩ hP hS (fun H locs hP hS => ?_)
      have e9 := Option.some.inj hf
      exact retM hx hb hr hlocks hP hD hS (congrArg (fun z => z.1) e9) (congrArg (fun z => (WX11 T h a a aa u utp ucu unw ukp utr uro ugi urd z.2 urk upa uwl uva usl uto usw : va_W)) e9) dX11_teams_64
    replace hf := ifp c5 hf
    refine lv_iload_n hx hb dX11_teams_45 rfl (lv_at hl 0 rfl) ?_
    refine lv_goto (tgt := 64) hx hb dX11_teams_46 (by decide) ?_
    have e9 := Option.some.inj hf
    exact retM hx hb hr hlocks hP hD hS (congrArg (fun z => z.1) e9) (congrArg (fun z => (WX11 T h a a aa u utp ucu unw ukp utr uro ugi urd z.2 urk upa uwl uva usl uto usw : va_W)) e9) dX11_teams_64
  replace hf := ifp c2 hf
  refine lv_iconst (v := (-1)) hx hb dX11_teams_9 (by decide) ?_
  have e9 := Option.some.inj hf
  exact retM hx hb hr hlocks hP hD hS (congrArg (fun z => z.1) e9) (congrArg (fun z => (WX11 T h a a aa u utp ucu unw ukp utr uro ugi urd z.2 urk upa uwl uva usl uto usw : va_W)) e9) dX11_teams_10
set_option maxHeartbeats 4000000 in
set_option maxRecDepth 100000 in
theorem mX11_share (l : Launch) (D : va_G) (T : Ty3) (aa : Nat → Nat → Nat) (h : Nat) (a : Nat → Nat) (u : St) (utp : St) (ucu : St) (unw : St) (ukp : St) (utr : St) (uro : St) (ugi : St) (urd : St) (uch : St) (urk : St) (upa : St) (uwl : Nat → Int64) (uva : St) (usl : St) (uto : St) (usw : St) (p1 : Int32) (p2 : Int32) (res : Int32) (hf : fX11_share unw p1 p2 = some res) : Met l yX11_share wsX11_share ({ frames := 3, cells := 0, slots := 0, locals := 72 }) (PcR D T (WX11 T h a a aa u utp ucu unw ukp utr uro ugi urd uch urk upa uwl uva usl uto usw) [.ref h, .int p1, .int p2]) (QR res) 0 0 noA := by
  refine Met.ofW (cc := cX11_share) (maxL := 3) (ret := (some .int)) (by decide) rfl ?_
  intro p e s m args below meth c s₁ B hml hv
  obtain ⟨rfl, hP, hK⟩ := hv
  have hx := B.exec
  have hb := B.bytes
  have hr := B.returns
  have hts := atoms_spec (ws := wsX11_share) B.pre
  have hown : s.vm.findClass RX11 = some m.cls := findClass_of_methodNamed B.named
  have hlocks := B.notSynchronized
  have hS : va_S noA s.heap s.heap [] := va_S.rf
  have hinX11 : ∀ w ∈ u_ws RX11 TX11 16, w ∈ wsX11_share := fun w h => List.mem_cons_of_mem _ (List.mem_append_left _ (List.mem_append_right _ h))
  have hinX9 : ∀ w ∈ u_ws RX9 TX9 8, w ∈ wsX11_share := fun w h => List.mem_cons_of_mem _ (List.mem_append_right _ h)
  have hl := lv_entry ([.ref h, .int p1, .int p2]) (n := 3) (Nat.le_of_ble_eq_true rfl)
  rw [lg_entry_eq]
  generalize (lg_sl ([.ref h, .int p1, .int p2]) ++ List.replicate (3 - (lg_sl ([.ref h, .int p1, .int p2])).length) Slot.unset).toArray = ls at hl ⊢
  have hl : lv_has ls 3 [(0, .ref h), (1, .int p1), (2, .int p2)] := hl
  unfold fX11_share at hf
  refine lv_aload_n hx hb dX11_share_0 rfl (lv_at hl 0 rfl) ?_
  refine va_get (D := D) (ci := 11) (v := .ref (a 2)) (C := RX11) (T := TX11) (N := 16) hx hb hts hinX11 hown hK.1 hP 0 rfl rfl 2 (by decide) (hts (.fieldLink RX11 28 "RopeScale" "now" "LRopeScale$Walk;") (List.mem_of_getElem? (i := 1) rfl)) (fun _ h9 => h9) rfl dX11_share_1 ?_
  refine lv_iload_n hx hb dX11_share_4 rfl (lv_at hl 2 rfl) ?_
  obtain ⟨z1, hz1, hf⟩ := bnd hf
  refine cVR (As := [.int p2]) (rest := []) ⟨hx, hb, hml, hown, hts⟩ (mX9_knows l D T (a 2) (aa 3) unw p2 z1 hz1) (cwV 1 hts gX11_share_X9_knows rfl rfl rfl (by decide +kernel) ⟨Nat.le_of_ble_eq_true rfl, Nat.le_of_ble_eq_true rfl⟩) (va_recv hK.1 hP (ci := 9) (q0 := 4) rfl rfl) (hP.sub (ws' := kX9 T (a 2) (aa 3) unw) [4, 5, 6, 7, 8] rfl) hK rfl hl.1 rfl (Nat.le_of_ble_eq_true rfl) dX11_share_5 ⟨Nat.le_of_ble_eq_true rfl, Nat.le_of_ble_eq_true rfl⟩ hP hS (fun H locs hP hS => ?_)
  refine lv_if_eq (tgt := 34) hx hb dX11_share_8 (by decide) (fun c2 => ?_) (fun c2 => ?_)
  · replace hf := ifp c2 hf
    refine lv_iconst (v := (-1)) hx hb dX11_share_34 (by decide) ?_
    exact retR hx hb hr hlocks hS (Option.some.inj hf) dX11_share_35
  replace hf := ifn c2 hf
  refine lv_iload_n hx hb dX11_share_11 rfl (lv_at hl 1 rfl) ?_
  refine lv_iconst (v := 0) hx hb dX11_share_12 (by decide) ?_
  refine lv_ldcw (v := 99999) hx hb hown (hts (.constant RX11 298 (99999)) (List.mem_of_getElem? (i := 2) rfl)) dX11_share_13 ?_
  obtain ⟨z3, hz3, hf⟩ := lett_e hf
  refine cSR (As := [.int p1, .int 0, .int 99999]) (rest := []) ⟨hx, hb, hml, hown, hts⟩ (mX11_isWithin l D T p1 0 99999 z3 hz3.symm) (va_cwS 3 hts gX11_share_X11_isWithin rfl rfl rfl (by decide +kernel) ⟨Nat.le_of_ble_eq_true rfl, Nat.le_of_ble_eq_true rfl⟩) P0 hK rfl hl.1 rfl (Nat.le_of_ble_eq_true rfl) dX11_share_16 ⟨Nat.le_of_ble_eq_true rfl, Nat.le_of_ble_eq_true rfl⟩ hP hS (fun H locs hP hS => ?_)
  refine lv_if_eq (tgt := 34) hx hb dX11_share_19 (by decide) (fun c4 => ?_) (fun c4 => ?_)
  · replace hf := ifp c4 hf
    refine lv_iconst (v := (-1)) hx hb dX11_share_34 (by decide) ?_
    exact retR hx hb hr hlocks hS (Option.some.inj hf) dX11_share_35
  replace hf := ifn c4 hf
  refine lv_aload_n hx hb dX11_share_22 rfl (lv_at hl 0 rfl) ?_
  refine va_get (D := D) (ci := 11) (v := .ref (a 2)) (C := RX11) (T := TX11) (N := 16) hx hb hts hinX11 hown hK.1 hP 0 rfl rfl 2 (by decide) (hts (.fieldLink RX11 28 "RopeScale" "now" "LRopeScale$Walk;") (List.mem_of_getElem? (i := 1) rfl)) (fun _ h9 => h9) rfl dX11_share_23 ?_
  refine lv_iload_n hx hb dX11_share_26 rfl (lv_at hl 1 rfl) ?_
  refine lv_iload_n hx hb dX11_share_27 rfl (lv_at hl 2 rfl) ?_
  obtain ⟨z5, hz5, hf⟩ := bnd hf
  refine cVR (As := [.int p1, .int p2]) (rest := []) ⟨hx, hb, hml, hown, hts⟩ (mX9_partOf l D T (a 2) (aa 3) unw p1 p2 z5 hz5) (cwV 2 hts gX11_share_X9_partOf rfl rfl rfl (by decide +kernel) ⟨Nat.le_of_ble_eq_true rfl, Nat.le_of_ble_eq_true rfl⟩) (va_recv hK.1 hP (ci := 9) (q0 := 4) rfl rfl) (hP.sub (ws' := kX9 T (a 2) (aa 3) unw) [4, 5, 6, 7, 8] rfl) hK rfl hl.1 rfl (Nat.le_of_ble_eq_true rfl) dX11_share_28 ⟨Nat.le_of_ble_eq_true rfl, Nat.le_of_ble_eq_true rfl⟩ hP hS (fun H locs hP hS => ?_)
  refine lv_goto (tgt := 35) hx hb dX11_share_31 (by decide) ?_
  exact retR hx hb hr hlocks hS (Option.some.inj hf) dX11_share_35
set_option maxHeartbeats 4000000 in
set_option maxRecDepth 100000 in
theorem mX11_stones (l : Launch) (D : va_G) (T : Ty3) (aa : Nat → Nat → Nat) (h : Nat) (a : Nat → Nat) (u : St) (utp : St) (ucu : St) (unw : St) (ukp : St) (utr : St) (uro : St) (ugi : St) (urd : St) (uch : St) (urk : St) (upa : St) (uwl : Nat → Int64) (uva : St) (usl : St) (uto : St) (usw : St) (sz : Nat) (p1 : Int32) (p2 : Int32) (res : Int32 × St × St × (Nat → Int64)) (hf : fX11_stones utp upa uwl p1 p2 = some res) : Met l yX11_stones wsX11_stones ({ frames := 13, cells := 0, slots := 0, locals := 299 }) (PcM D T (WX11 T h a a aa u utp ucu unw ukp utr uro ugi urd uch urk upa uwl uva usl uto usw) sz [.ref h, .int p1, .int p2]) (QM D (WX11 T h a a aa u utp ucu unw ukp utr uro ugi urd uch urk upa uwl uva usl uto usw) sz res.1 (WX11 T h a a aa u res.2.1 ucu unw ukp utr uro ugi urd uch urk res.2.2.1 res.2.2.2 uva usl uto usw)) 0 0 (va_A (WX11 T h a a aa u utp ucu unw ukp utr uro ugi urd uch urk upa uwl uva usl uto usw) sz) := by
  refine Met.ofW (cc := cX11_stones) (maxL := 3) (ret := (some .int)) (by decide) rfl ?_
  intro p e s m args below meth c s₁ B hml hv
  obtain ⟨rfl, hsz, hP, hK, hD0⟩ := hv
  have hx := B.exec
  have hb := B.bytes
  have hr := B.returns
  have hts := atoms_spec (ws := wsX11_stones) B.pre
  have hown : s.vm.findClass RX11 = some m.cls := findClass_of_methodNamed B.named
  have hlocks := B.notSynchronized
  subst hsz
  have hD := hD0.self (sz := s.heap.size)
  have hA : ∀ q : Nat, s.heap.size ≤ q → va_A (WX11 T h a a aa u utp ucu unw ukp utr uro ugi urd uch urk upa uwl uva usl uto usw) s.heap.size q := fun q h => Or.inr h
  have hS : va_S (va_A (WX11 T h a a aa u utp ucu unw ukp utr uro ugi urd uch urk upa uwl uva usl uto usw) s.heap.size) s.heap s.heap [] := va_S.rf
  have hinX11 : ∀ w ∈ u_ws RX11 TX11 16, w ∈ wsX11_stones := fun w h => List.mem_cons_of_mem _ (List.mem_append_left _ (List.mem_append_left _ (List.mem_append_right _ h)))
  have hinX8 : ∀ w ∈ u_ws RX8 TX8 2, w ∈ wsX11_stones := fun w h => List.mem_cons_of_mem _ (List.mem_append_left _ (List.mem_append_right _ h))
  have hinX5 : ∀ w ∈ u_ws RX5 TX5 5, w ∈ wsX11_stones := fun w h => List.mem_cons_of_mem _ (List.mem_append_right _ h)
  have hl := lv_entry ([.ref h, .int p1, .int p2]) (n := 3) (Nat.le_of_ble_eq_true rfl)
  rw [lg_entry_eq]
  generalize (lg_sl ([.ref h, .int p1, .int p2]) ++ List.replicate (3 - (lg_sl ([.ref h, .int p1, .int p2])).length) Slot.unset).toArray = ls at hl ⊢
  have hl : lv_has ls 3 [(0, .ref h), (1, .int p1), (2, .int p2)] := hl
  unfold fX11_stones at hf
  refine lv_aload_n hx hb dX11_stones_0 rfl (lv_at hl 0 rfl) ?_
  refine va_get (D := D) (ci := 11) (v := .ref (a 0)) (C := RX11) (T := TX11) (N := 16) hx hb hts hinX11 hown hK.1 hP 0 rfl rfl 0 (by decide) (hts (.fieldLink RX11 10 "RopeScale" "tape" "LRopeScale$Tape;") (List.mem_of_getElem? (i := 1) rfl)) (fun _ h9 => h9) rfl dX11_stones_1 ?_
  refine lv_iload_n hx hb dX11_stones_4 rfl (lv_at hl 1 rfl) ?_
  refine lv_iconst (v := 1) hx hb dX11_stones_5 (by decide) ?_
  refine lv_bipush (v := 8) hx hb dX11_stones_6 (by decide) ?_
  obtain ⟨z1, hz1, hf⟩ := lett_e hf
  refine cVR (As := [.int p1, .int 1, .int 8]) (rest := []) ⟨hx, hb, hml, hown, hts⟩ (mX8_offers l D T (a 0) (aa 1) utp p1 1 8 z1 hz1.symm) (cwV 3 hts gX11_stones_X8_offers rfl rfl rfl (by decide +kernel) ⟨Nat.le_of_ble_eq_true rfl, Nat.le_of_ble_eq_true rfl⟩) (va_recv hK.1 hP (ci := 8) (q0 := 1) rfl rfl) (hP.sub (ws' := kX8 T (a 0) (aa 1) utp) [1, 2] rfl) hK rfl hl.1 rfl (Nat.le_of_ble_eq_true rfl) dX11_stones_8 ⟨Nat.le_of_ble_eq_true rfl, Nat.le_of_ble_eq_true rfl⟩ hP hS (fun H locs hP hS => ?_)
  refine lv_if_ne (tgt := 16) hx hb dX11_stones_11 (by decide) (fun c2 => ?_) (fun c2 => ?_)
  · replace hf := ifn c2 hf
    refine lv_aload_n hx hb dX11_stones_16 rfl (lv_at hl 0 rfl) ?_
    refine va_get (D := D) (ci := 11) (v := .ref (a 10)) (C := RX11) (T := TX11) (N := 16) hx hb hts hinX11 hown hK.1 hP 0 rfl rfl 10 (by decide) (hts (.fieldLink RX11 78 "RopeScale" "pans" "LRopeScale$Pans;") (List.mem_of_getElem? (i := 2) rfl)) (fun _ h9 => h9) rfl dX11_stones_17 ?_
    refine lv_aload_n hx hb dX11_stones_20 rfl (lv_at hl 0 rfl) ?_
    refine va_get (D := D) (ci := 11) (v := .ref (a 0)) (C := RX11) (T := TX11) (N := 16) hx hb hts hinX11 hown hK.1 hP 0 rfl rfl 0 (by decide) (hts (.fieldLink RX11 10 "RopeScale" "tape" "LRopeScale$Tape;") (List.mem_of_getElem? (i := 1) rfl)) (fun _ h9 => h9) rfl dX11_stones_21 ?_
    refine lv_iload_n hx hb dX11_stones_24 rfl (lv_at hl 1 rfl) ?_
    obtain ⟨z3, hz3, hf⟩ := bnd hf
    have hPc := hP.sub (ws' := kX5 T (a 10) (aa 11) upa ++ kX8 T (a 0) (aa 1) utp) [35, 36, 37, 1, 2] rfl
    have hDc := hD.sub (ws' := kX5 T (a 10) (aa 11) upa ++ kX8 T (a 0) (aa 1) utp) [35, 36, 37, 1, 2] (by decide) rfl
    have hFc9 := va_free (wc := kX5 T (a 10) (aa 11) upa ++ kX8 T (a 0) (aa 1) utp) hD hS hA [35, 36, 37, 1, 2] rfl
    refine cVMv (As := [.ref (a 0), .int p1]) (rest := []) ⟨hx, hb, hml, hown, hts⟩ (mX5_take l D T (a 10) (aa 11) upa (a 0) (aa 1) utp _ p1 z3 hz3) (cwV 2 hts gX11_stones_X5_take rfl rfl rfl (by decide +kernel) ⟨Nat.le_of_ble_eq_true rfl, Nat.le_of_ble_eq_true rfl⟩) (va_recv hK.1 hP (ci := 5) (q0 := 35) rfl rfl) hPc hK rfl hl.1 rfl (Nat.le_of_ble_eq_true rfl) dX11_stones_25 ⟨Nat.le_of_ble_eq_true rfl, Nat.le_of_ble_eq_true rfl⟩ hDc hFc9 hS (fun H9 locs hP1 hD1 hk1 hS => ?_)
    obtain ⟨hP, hD⟩ := putAll_P (w1 := kX5 T (a 10) (aa 11) z3.1 ++ kX8 T (a 0) (aa 1) z3.2) hP hD [35, 36, 37, 1, 2] rfl (by decide) hk1 hP1 rfl
    generalize H9 = H at hP hS ⊢
    have hP : va_P D vwCl (WX11 T h a a aa u z3.2 ucu unw ukp utr uro ugi urd uch urk z3.1 uwl uva usl uto usw) H := by exact hP
    have hD : va_D (va_A (WX11 T h a a aa u utp ucu unw ukp utr uro ugi urd uch urk upa uwl uva usl uto usw) s.heap.size) (WX11 T h a a aa u z3.2 ucu unw ukp utr uro ugi urd uch urk z3.1 uwl uva usl uto usw) := by exact hD
    refine lv_aload_n hx hb dX11_stones_28 rfl (lv_at hl 0 rfl) ?_
    refine va_get (D := D) (ci := 11) (v := .ref (a 10)) (C := RX11) (T := TX11) (N := 16) hx hb hts hinX11 hown hK.1 hP 0 rfl rfl 10 (by decide) (hts (.fieldLink RX11 78 "RopeScale" "pans" "LRopeScale$Pans;") (List.mem_of_getElem? (i := 2) rfl)) (fun _ h9 => h9) rfl dX11_stones_29 ?_
    obtain ⟨z4, hz4, hf⟩ := bnd hf
    refine cVR (As := []) (rest := []) ⟨hx, hb, hml, hown, hts⟩ (mX5_hasZero l D T (a 10) (aa 11) z3.1 z4 hz4) (cwV 0 hts gX11_stones_X5_hasZero rfl rfl rfl (by decide +kernel) ⟨Nat.le_of_ble_eq_true rfl, Nat.le_of_ble_eq_true rfl⟩) (va_recv hK.1 hP (ci := 5) (q0 := 35) rfl rfl) (hP.sub (ws' := kX5 T (a 10) (aa 11) z3.1) [35, 36, 37] rfl) hK rfl hl.1 rfl (Nat.le_of_ble_eq_true rfl) dX11_stones_32 ⟨Nat.le_of_ble_eq_true rfl, Nat.le_of_ble_eq_true rfl⟩ hP hS (fun H locs hP hS => ?_)
    refine lv_if_eq (tgt := 43) hx hb dX11_stones_35 (by decide) (fun c5 => ?_) (fun c5 => ?_)
    · replace hf := ifp c5 hf
      refine lv_aload_n hx hb dX11_stones_43 rfl (lv_at hl 0 rfl) ?_
      refine va_get (D := D) (ci := 11) (v := .ref (a 10)) (C := RX11) (T := TX11) (N := 16) hx hb hts hinX11 hown hK.1 hP 0 rfl rfl 10 (by decide) (hts (.fieldLink RX11 78 "RopeScale" "pans" "LRopeScale$Pans;") (List.mem_of_getElem? (i := 2) rfl)) (fun _ h9 => h9) rfl dX11_stones_44 ?_
      refine lv_iload_n hx hb dX11_stones_47 rfl (lv_at hl 2 rfl) ?_
      obtain ⟨z6, hz6, hf⟩ := bnd hf
      have hPc := hP.sub (ws' := kX5 T (a 10) (aa 11) z3.1 ++ [((aa 11 2), .inl (T.2.2, 32, .inr (.inl uwl)))]) [35, 36, 37, 38] rfl
      have hDc := hD.sub (ws' := kX5 T (a 10) (aa 11) z3.1 ++ [((aa 11 2), .inl (T.2.2, 32, .inr (.inl uwl)))]) [35, 36, 37, 38] (by decide) rfl
      have hFc9 := va_free (wc := kX5 T (a 10) (aa 11) z3.1 ++ [((aa 11 2), .inl (T.2.2, 32, .inr (.inl uwl)))]) hD hS hA [35, 36, 37, 38] rfl
      refine cVM (As := [.int p2]) (rest := []) ⟨hx, hb, hml, hown, hts⟩ (mX5_weighsUpTo l D T (a 10) (aa 11) z3.1 uwl _ p2 z6 hz6) (cwV 1 hts gX11_stones_X5_weighsUpTo rfl rfl rfl (by decide +kernel) ⟨Nat.le_of_ble_eq_true rfl, Nat.le_of_ble_eq_true rfl⟩) (va_recv hK.1 hP (ci := 5) (q0 := 35) rfl rfl) hPc hK rfl hl.1 rfl (Nat.le_of_ble_eq_true rfl) dX11_stones_48 ⟨Nat.le_of_ble_eq_true rfl, Nat.le_of_ble_eq_true rfl⟩ hDc hFc9 hS (fun H9 locs hP1 hD1 hk1 hS => ?_)
      obtain ⟨hP, hD⟩ := putAll_P (w1 := kX5 T (a 10) (aa 11) z3.1 ++ [((aa 11 2), .inl (T.2.2, 32, .inr (.inl z6.2)))]) hP hD [35, 36, 37, 38] rfl (by decide) hk1 hP1 rfl
      generalize H9 = H at hP hS ⊢
      have hP : va_P D vwCl (WX11 T h a a aa u z3.2 ucu unw ukp utr uro ugi urd uch urk z3.1 z6.2 uva usl uto usw) H := by exact hP
      have hD : va_D (va_A (WX11 T h a a aa u utp ucu unw ukp utr uro ugi urd uch urk upa uwl uva usl uto usw) s.heap.size) (WX11 T h a a aa u z3.2 ucu unw ukp utr uro ugi urd uch urk z3.1 z6.2 uva usl uto usw) := by exact hD
      have e9 := Option.some.inj hf
      exact retM hx hb hr hlocks hP hD hS (congrArg (fun z => z.1) e9) (congrArg (fun z => (WX11 T h a a aa u z.2.1 ucu unw ukp utr uro ugi urd uch urk z.2.2.1 z.2.2.2 uva usl uto usw : va_W)) e9) dX11_stones_51
    replace hf := ifn c5 hf
    refine lv_bipush (v := (-2)) hx hb dX11_stones_38 (by decide) ?_
    refine lv_goto (tgt := 51) hx hb dX11_stones_40 (by decide) ?_
    have e9 := Option.some.inj hf
    exact retM hx hb hr hlocks hP hD hS (congrArg (fun z => z.1) e9) (congrArg (fun z => (WX11 T h a a aa u z.2.1 ucu unw ukp utr uro ugi urd uch urk z.2.2.1 z.2.2.2 uva usl uto usw : va_W)) e9) dX11_stones_51
  replace hf := ifp c2 hf
  refine lv_iconst (v := (-1)) hx hb dX11_stones_14 (by decide) ?_
  have e9 := Option.some.inj hf
  exact retM hx hb hr hlocks hP hD hS (congrArg (fun z => z.1) e9) (congrArg (fun z => (WX11 T h a a aa u z.2.1 ucu unw ukp utr uro ugi urd uch urk z.2.2.1 z.2.2.2 uva usl uto usw : va_W)) e9) dX11_stones_15
set_option maxHeartbeats 4000000 in
set_option maxRecDepth 100000 in
theorem mX11_fewest (l : Launch) (D : va_G) (T : Ty3) (aa : Nat → Nat → Nat) (h : Nat) (a : Nat → Nat) (u : St) (utp : St) (ucu : St) (unw : St) (ukp : St) (utr : St) (uro : St) (ugi : St) (urd : St) (uch : St) (urk : St) (upa : St) (uwl : Nat → Int64) (uva : St) (usl : St) (uto : St) (usw : St) (sz : Nat) (p1 : Int32) (p2 : Int32) (res : Int32 × St × St) (hf : fX11_fewest utp upa p1 p2 = some res) : Met l yX11_fewest wsX11_fewest ({ frames := 13, cells := 0, slots := 0, locals := 288 }) (PcM D T (WX11 T h a a aa u utp ucu unw ukp utr uro ugi urd uch urk upa uwl uva usl uto usw) sz [.ref h, .int p1, .int p2]) (QM D (WX11 T h a a aa u utp ucu unw ukp utr uro ugi urd uch urk upa uwl uva usl uto usw) sz res.1 (WX11 T h a a aa u res.2.1 ucu unw ukp utr uro ugi urd uch urk res.2.2 uwl uva usl uto usw)) 0 0 (va_A (WX11 T h a a aa u utp ucu unw ukp utr uro ugi urd uch urk upa uwl uva usl uto usw) sz) := by
  refine Met.ofW (cc := cX11_fewest) (maxL := 4) (ret := (some .int)) (by decide) rfl ?_
  intro p e s m args below meth c s₁ B hml hv
  obtain ⟨rfl, hsz, hP, hK, hD0⟩ := hv
  have hx := B.exec
  have hb := B.bytes
  have hr := B.returns
  have hts := atoms_spec (ws := wsX11_fewest) B.pre
  have hown : s.vm.findClass RX11 = some m.cls := findClass_of_methodNamed B.named
  have hlocks := B.notSynchronized
  subst hsz
  have hD := hD0.self (sz := s.heap.size)
  have hA : ∀ q : Nat, s.heap.size ≤ q → va_A (WX11 T h a a aa u utp ucu unw ukp utr uro ugi urd uch urk upa uwl uva usl uto usw) s.heap.size q := fun q h => Or.inr h
  have hS : va_S (va_A (WX11 T h a a aa u utp ucu unw ukp utr uro ugi urd uch urk upa uwl uva usl uto usw) s.heap.size) s.heap s.heap [] := va_S.rf
  have hinX11 : ∀ w ∈ u_ws RX11 TX11 16, w ∈ wsX11_fewest := fun w h => List.mem_cons_of_mem _ (List.mem_append_left _ (List.mem_append_left _ (List.mem_append_right _ h)))
  have hinX8 : ∀ w ∈ u_ws RX8 TX8 2, w ∈ wsX11_fewest := fun w h => List.mem_cons_of_mem _ (List.mem_append_left _ (List.mem_append_right _ h))
  have hinX5 : ∀ w ∈ u_ws RX5 TX5 5, w ∈ wsX11_fewest := fun w h => List.mem_cons_of_mem _ (List.mem_append_right _ h)
  have hl := lv_entry ([.ref h, .int p1, .int p2]) (n := 4) (Nat.le_of_ble_eq_true rfl)
  rw [lg_entry_eq]
  generalize (lg_sl ([.ref h, .int p1, .int p2]) ++ List.replicate (4 - (lg_sl ([.ref h, .int p1, .int p2])).length) Slot.unset).toArray = ls at hl ⊢
  have hl : lv_has ls 4 [(0, .ref h), (1, .int p1), (2, .int p2)] := hl
  unfold fX11_fewest at hf
  refine lv_iload_n hx hb dX11_fewest_0 rfl (lv_at hl 2 rfl) ?_
  refine lv_iconst (v := 1) hx hb dX11_fewest_1 (by decide) ?_
  refine lv_sipush (v := 2040) hx hb dX11_fewest_2 (by decide) ?_
  obtain ⟨z1, hz1, hf⟩ := lett_e hf
  refine cSR (As := [.int p2, .int 1, .int 2040]) (rest := []) ⟨hx, hb, hml, hown, hts⟩ (mX11_isWithin l D T p2 1 2040 z1 hz1.symm) (va_cwS 3 hts gX11_fewest_X11_isWithin rfl rfl rfl (by decide +kernel) ⟨Nat.le_of_ble_eq_true rfl, Nat.le_of_ble_eq_true rfl⟩) P0 hK rfl hl.1 rfl (Nat.le_of_ble_eq_true rfl) dX11_fewest_5 ⟨Nat.le_of_ble_eq_true rfl, Nat.le_of_ble_eq_true rfl⟩ hP hS (fun H locs hP hS => ?_)
  refine lv_if_eq (tgt := 25) hx hb dX11_fewest_8 (by decide) (fun c2 => ?_) (fun c2 => ?_)
  · replace hf := ifp c2 hf
    refine lv_iconst (v := (-1)) hx hb dX11_fewest_25 (by decide) ?_
    have e9 := Option.some.inj hf
    exact retM hx hb hr hlocks hP hD hS (congrArg (fun z => z.1) e9) (congrArg (fun z => (WX11 T h a a aa u z.2.1 ucu unw ukp utr uro ugi urd uch urk z.2.2 uwl uva usl uto usw : va_W)) e9) dX11_fewest_26
  replace hf := ifn c2 hf
  refine lv_aload_n hx hb dX11_fewest_11 rfl (lv_at hl 0 rfl) ?_
  refine va_get (D := D) (ci := 11) (v := .ref (a 0)) (C := RX11) (T := TX11) (N := 16) hx hb hts hinX11 hown hK.1 hP 0 rfl rfl 0 (by decide) (hts (.fieldLink RX11 10 "RopeScale" "tape" "LRopeScale$Tape;") (List.mem_of_getElem? (i := 1) rfl)) (fun _ h9 => h9) rfl dX11_fewest_12 ?_
  refine lv_iload_n hx hb dX11_fewest_15 rfl (lv_at hl 1 rfl) ?_
  refine lv_iconst (v := 1) hx hb dX11_fewest_16 (by decide) ?_
  refine lv_bipush (v := 8) hx hb dX11_fewest_17 (by decide) ?_
  obtain ⟨z3, hz3, hf⟩ := lett_e hf
  refine cVR (As := [.int p1, .int 1, .int 8]) (rest := []) ⟨hx, hb, hml, hown, hts⟩ (mX8_offers l D T (a 0) (aa 1) utp p1 1 8 z3 hz3.symm) (cwV 3 hts gX11_fewest_X8_offers rfl rfl rfl (by decide +kernel) ⟨Nat.le_of_ble_eq_true rfl, Nat.le_of_ble_eq_true rfl⟩) (va_recv hK.1 hP (ci := 8) (q0 := 1) rfl rfl) (hP.sub (ws' := kX8 T (a 0) (aa 1) utp) [1, 2] rfl) hK rfl hl.1 rfl (Nat.le_of_ble_eq_true rfl) dX11_fewest_19 ⟨Nat.le_of_ble_eq_true rfl, Nat.le_of_ble_eq_true rfl⟩ hP hS (fun H locs hP hS => ?_)
  refine lv_if_ne (tgt := 27) hx hb dX11_fewest_22 (by decide) (fun c4 => ?_) (fun c4 => ?_)
  · replace hf := ifn c4 hf
    refine lv_aload_n hx hb dX11_fewest_27 rfl (lv_at hl 0 rfl) ?_
    refine va_get (D := D) (ci := 11) (v := .ref (a 10)) (C := RX11) (T := TX11) (N := 16) hx hb hts hinX11 hown hK.1 hP 0 rfl rfl 10 (by decide) (hts (.fieldLink RX11 78 "RopeScale" "pans" "LRopeScale$Pans;") (List.mem_of_getElem? (i := 2) rfl)) (fun _ h9 => h9) rfl dX11_fewest_28 ?_
    refine lv_aload_n hx hb dX11_fewest_31 rfl (lv_at hl 0 rfl) ?_
    refine va_get (D := D) (ci := 11) (v := .ref (a 0)) (C := RX11) (T := TX11) (N := 16) hx hb hts hinX11 hown hK.1 hP 0 rfl rfl 0 (by decide) (hts (.fieldLink RX11 10 "RopeScale" "tape" "LRopeScale$Tape;") (List.mem_of_getElem? (i := 1) rfl)) (fun _ h9 => h9) rfl dX11_fewest_32 ?_
    refine lv_iload_n hx hb dX11_fewest_35 rfl (lv_at hl 1 rfl) ?_
    obtain ⟨z5, hz5, hf⟩ := bnd hf
    have hPc := hP.sub (ws' := kX5 T (a 10) (aa 11) upa ++ kX8 T (a 0) (aa 1) utp) [35, 36, 37, 1, 2] rfl
    have hDc := hD.sub (ws' := kX5 T (a 10) (aa 11) upa ++ kX8 T (a 0) (aa 1) utp) [35, 36, 37, 1, 2] (by decide) rfl
    have hFc9 := va_free (wc := kX5 T (a 10) (aa 11) upa ++ kX8 T (a 0) (aa 1) utp) hD hS hA [35, 36, 37, 1, 2] rfl
    refine cVMv (As := [.ref (a 0), .int p1]) (rest := []) ⟨hx, hb, hml, hown, hts⟩ (mX5_take l D T (a 10) (aa 11) upa (a 0) (aa 1) utp _ p1 z5 hz5) (cwV 2 hts gX11_fewest_X5_take rfl rfl rfl (by decide +kernel) ⟨Nat.le_of_ble_eq_true rfl, Nat.le_of_ble_eq_true rfl⟩) (va_recv hK.1 hP (ci := 5) (q0 := 35) rfl rfl) hPc hK rfl hl.1 rfl (Nat.le_of_ble_eq_true rfl) dX11_fewest_36 ⟨Nat.le_of_ble_eq_true rfl, Nat.le_of_ble_eq_true rfl⟩ hDc hFc9 hS (fun H9 locs hP1 hD1 hk1 hS => ?_)
    obtain ⟨hP, hD⟩ := putAll_P (w1 := kX5 T (a 10) (aa 11) z5.1 ++ kX8 T (a 0) (aa 1) z5.2) hP hD [35, 36, 37, 1, 2] rfl (by decide) hk1 hP1 rfl
    generalize H9 = H at hP hS ⊢
    have hP : va_P D vwCl (WX11 T h a a aa u z5.2 ucu unw ukp utr uro ugi urd uch urk z5.1 uwl uva usl uto usw) H := by exact hP
    have hD : va_D (va_A (WX11 T h a a aa u utp ucu unw ukp utr uro ugi urd uch urk upa uwl uva usl uto usw) s.heap.size) (WX11 T h a a aa u z5.2 ucu unw ukp utr uro ugi urd uch urk z5.1 uwl uva usl uto usw) := by exact hD
    refine lv_aload_n hx hb dX11_fewest_39 rfl (lv_at hl 0 rfl) ?_
    refine va_get (D := D) (ci := 11) (v := .ref (a 10)) (C := RX11) (T := TX11) (N := 16) hx hb hts hinX11 hown hK.1 hP 0 rfl rfl 10 (by decide) (hts (.fieldLink RX11 78 "RopeScale" "pans" "LRopeScale$Pans;") (List.mem_of_getElem? (i := 2) rfl)) (fun _ h9 => h9) rfl dX11_fewest_40 ?_
    obtain ⟨z6, hz6, hf⟩ := bnd hf
    refine cVR (As := []) (rest := []) ⟨hx, hb, hml, hown, hts⟩ (mX5_hasZero l D T (a 10) (aa 11) z5.1 z6 hz6) (cwV 0 hts gX11_fewest_X5_hasZero rfl rfl rfl (by decide +kernel) ⟨Nat.le_of_ble_eq_true rfl, Nat.le_of_ble_eq_true rfl⟩) (va_recv hK.1 hP (ci := 5) (q0 := 35) rfl rfl) (hP.sub (ws' := kX5 T (a 10) (aa 11) z5.1) [35, 36, 37] rfl) hK rfl hl.1 rfl (Nat.le_of_ble_eq_true rfl) dX11_fewest_43 ⟨Nat.le_of_ble_eq_true rfl, Nat.le_of_ble_eq_true rfl⟩ hP hS (fun H locs hP hS => ?_)
    refine lv_if_eq (tgt := 52) hx hb dX11_fewest_46 (by decide) (fun c7 => ?_) (fun c7 => ?_)
    · replace hf := ifp c7 hf
      refine lv_aload_n hx hb dX11_fewest_52 rfl (lv_at hl 0 rfl) ?_
      refine va_get (D := D) (ci := 11) (v := .ref (a 10)) (C := RX11) (T := TX11) (N := 16) hx hb hts hinX11 hown hK.1 hP 0 rfl rfl 10 (by decide) (hts (.fieldLink RX11 78 "RopeScale" "pans" "LRopeScale$Pans;") (List.mem_of_getElem? (i := 2) rfl)) (fun _ h9 => h9) rfl dX11_fewest_53 ?_
      refine lv_iload_n hx hb dX11_fewest_56 rfl (lv_at hl 2 rfl) ?_
      obtain ⟨z8, hz8, hf⟩ := bnd hf
      have hPc := hP.sub (ws' := kX5 T (a 10) (aa 11) z5.1) [35, 36, 37] rfl
      have hDc := hD.sub (ws' := kX5 T (a 10) (aa 11) z5.1) [35, 36, 37] (by decide) rfl
      have hFc9 := va_free (wc := kX5 T (a 10) (aa 11) z5.1) hD hS hA [35, 36, 37] rfl
      refine cVM (As := [.int p2]) (rest := []) ⟨hx, hb, hml, hown, hts⟩ (mX5_fewestFor l D T (a 10) (aa 11) z5.1 _ p2 z8 hz8) (cwV 1 hts gX11_fewest_X5_fewestFor rfl rfl rfl (by decide +kernel) ⟨Nat.le_of_ble_eq_true rfl, Nat.le_of_ble_eq_true rfl⟩) (va_recv hK.1 hP (ci := 5) (q0 := 35) rfl rfl) hPc hK rfl hl.1 rfl (Nat.le_of_ble_eq_true rfl) dX11_fewest_57 ⟨Nat.le_of_ble_eq_true rfl, Nat.le_of_ble_eq_true rfl⟩ hDc hFc9 hS (fun H9 locs hP1 hD1 hk1 hS => ?_)
      obtain ⟨hP, hD⟩ := putAll_P (w1 := kX5 T (a 10) (aa 11) z8.2) hP hD [35, 36, 37] rfl (by decide) hk1 hP1 rfl
      generalize H9 = H at hP hS ⊢
      have hP : va_P D vwCl (WX11 T h a a aa u z5.2 ucu unw ukp utr uro ugi urd uch urk z8.2 uwl uva usl uto usw) H := by exact hP
      have hD : va_D (va_A (WX11 T h a a aa u utp ucu unw ukp utr uro ugi urd uch urk upa uwl uva usl uto usw) s.heap.size) (WX11 T h a a aa u z5.2 ucu unw ukp utr uro ugi urd uch urk z8.2 uwl uva usl uto usw) := by exact hD
      refine lv_istore_n (lv' := [(3, .int z8.1), (0, .ref h), (1, .int p1), (2, .int p2)]) hx hb dX11_fewest_60 rfl hl (by decide) rfl (fun ls hl => ?_)
      refine lv_iload_n hx hb dX11_fewest_61 rfl (lv_at hl 0 rfl) ?_
      refine lv_iconst (v := (-1)) hx hb dX11_fewest_62 (by decide) ?_
      refine lv_icmp_ne (tgt := 71) hx hb dX11_fewest_63 (by decide) (fun c9 => ?_) (fun c9 => ?_)
      · replace hf := ifn c9 hf
        refine lv_iload_n hx hb dX11_fewest_71 rfl (lv_at hl 0 rfl) ?_
        have e9 := Option.some.inj hf
        exact retM hx hb hr hlocks hP hD hS (congrArg (fun z => z.1) e9) (congrArg (fun z => (WX11 T h a a aa u z.2.1 ucu unw ukp utr uro ugi urd uch urk z.2.2 uwl uva usl uto usw : va_W)) e9) dX11_fewest_72
      replace hf := ifp c9 hf
      refine lv_bipush (v := (-2)) hx hb dX11_fewest_66 (by decide) ?_
      refine lv_goto (tgt := 72) hx hb dX11_fewest_68 (by decide) ?_
      have e9 := Option.some.inj hf
      exact retM hx hb hr hlocks hP hD hS (congrArg (fun z => z.1) e9) (congrArg (fun z => (WX11 T h a a aa u z.2.1 ucu unw ukp utr uro ugi urd uch urk z.2.2 uwl uva usl uto usw : va_W)) e9) dX11_fewest_72
    replace hf := ifn c7 hf
    refine lv_bipush (v := (-3)) hx hb dX11_fewest_49 (by decide) ?_
    have e9 := Option.some.inj hf
    exact retM hx hb hr hlocks hP hD hS (congrArg (fun z => z.1) e9) (congrArg (fun z => (WX11 T h a a aa u z.2.1 ucu unw ukp utr uro ugi urd uch urk z.2.2 uwl uva usl uto usw : va_W)) e9) dX11_fewest_51
  replace hf := ifp c4 hf
  refine lv_iconst (v := (-1)) hx hb dX11_fewest_25 (by decide) ?_
  have e9 := Option.some.inj hf
  exact retM hx hb hr hlocks hP hD hS (congrArg (fun z => z.1) e9) (congrArg (fun z => (WX11 T h a a aa u z.2.1 ucu unw ukp utr uro ugi urd uch urk z.2.2 uwl uva usl uto usw : va_W)) e9) dX11_fewest_26
set_option maxHeartbeats 4000000 in
set_option maxRecDepth 100000 in
theorem mX11_seesaw (l : Launch) (D : va_G) (T : Ty3) (aa : Nat → Nat → Nat) (h : Nat) (a : Nat → Nat) (u : St) (utp : St) (ucu : St) (unw : St) (ukp : St) (utr : St) (uro : St) (ugi : St) (urd : St) (uch : St) (urk : St) (upa : St) (uwl : Nat → Int64) (uva : St) (usl : St) (uto : St) (usw : St) (sz : Nat) (p1 : Int32) (res : Int32 × St × St) (hf : fX11_seesaw utp upa p1 = some res) : Met l yX11_seesaw wsX11_seesaw ({ frames := 11, cells := 0, slots := 0, locals := 275 }) (PcM D T (WX11 T h a a aa u utp ucu unw ukp utr uro ugi urd uch urk upa uwl uva usl uto usw) sz [.ref h, .int p1]) (QM D (WX11 T h a a aa u utp ucu unw ukp utr uro ugi urd uch urk upa uwl uva usl uto usw) sz res.1 (WX11 T h a a aa u res.2.1 ucu unw ukp utr uro ugi urd uch urk res.2.2 uwl uva usl uto usw)) 0 0 (va_A (WX11 T h a a aa u utp ucu unw ukp utr uro ugi urd uch urk upa uwl uva usl uto usw) sz) := by
  refine Met.ofW (cc := cX11_seesaw) (maxL := 2) (ret := (some .int)) (by decide) rfl ?_
  intro p e s m args below meth c s₁ B hml hv
  obtain ⟨rfl, hsz, hP, hK, hD0⟩ := hv
  have hx := B.exec
  have hb := B.bytes
  have hr := B.returns
  have hts := atoms_spec (ws := wsX11_seesaw) B.pre
  have hown : s.vm.findClass RX11 = some m.cls := findClass_of_methodNamed B.named
  have hlocks := B.notSynchronized
  subst hsz
  have hD := hD0.self (sz := s.heap.size)
  have hA : ∀ q : Nat, s.heap.size ≤ q → va_A (WX11 T h a a aa u utp ucu unw ukp utr uro ugi urd uch urk upa uwl uva usl uto usw) s.heap.size q := fun q h => Or.inr h
  have hS : va_S (va_A (WX11 T h a a aa u utp ucu unw ukp utr uro ugi urd uch urk upa uwl uva usl uto usw) s.heap.size) s.heap s.heap [] := va_S.rf
  have hinX11 : ∀ w ∈ u_ws RX11 TX11 16, w ∈ wsX11_seesaw := fun w h => List.mem_cons_of_mem _ (List.mem_append_left _ (List.mem_append_left _ (List.mem_append_right _ h)))
  have hinX8 : ∀ w ∈ u_ws RX8 TX8 2, w ∈ wsX11_seesaw := fun w h => List.mem_cons_of_mem _ (List.mem_append_left _ (List.mem_append_right _ h))
  have hinX5 : ∀ w ∈ u_ws RX5 TX5 5, w ∈ wsX11_seesaw := fun w h => List.mem_cons_of_mem _ (List.mem_append_right _ h)
  have hl := lv_entry ([.ref h, .int p1]) (n := 2) (Nat.le_of_ble_eq_true rfl)
  rw [lg_entry_eq]
  generalize (lg_sl ([.ref h, .int p1]) ++ List.replicate (2 - (lg_sl ([.ref h, .int p1])).length) Slot.unset).toArray = ls at hl ⊢
  have hl : lv_has ls 2 [(0, .ref h), (1, .int p1)] := hl
  unfold fX11_seesaw at hf
  refine lv_aload_n hx hb dX11_seesaw_0 rfl (lv_at hl 0 rfl) ?_
  refine va_get (D := D) (ci := 11) (v := .ref (a 0)) (C := RX11) (T := TX11) (N := 16) hx hb hts hinX11 hown hK.1 hP 0 rfl rfl 0 (by decide) (hts (.fieldLink RX11 10 "RopeScale" "tape" "LRopeScale$Tape;") (List.mem_of_getElem? (i := 1) rfl)) (fun _ h9 => h9) rfl dX11_seesaw_1 ?_
  refine lv_iload_n hx hb dX11_seesaw_4 rfl (lv_at hl 1 rfl) ?_
  refine lv_iconst (v := 1) hx hb dX11_seesaw_5 (by decide) ?_
  refine lv_iconst (v := 5) hx hb dX11_seesaw_6 (by decide) ?_
  obtain ⟨z1, hz1, hf⟩ := lett_e hf
  refine cVR (As := [.int p1, .int 1, .int 5]) (rest := []) ⟨hx, hb, hml, hown, hts⟩ (mX8_offers l D T (a 0) (aa 1) utp p1 1 5 z1 hz1.symm) (cwV 3 hts gX11_seesaw_X8_offers rfl rfl rfl (by decide +kernel) ⟨Nat.le_of_ble_eq_true rfl, Nat.le_of_ble_eq_true rfl⟩) (va_recv hK.1 hP (ci := 8) (q0 := 1) rfl rfl) (hP.sub (ws' := kX8 T (a 0) (aa 1) utp) [1, 2] rfl) hK rfl hl.1 rfl (Nat.le_of_ble_eq_true rfl) dX11_seesaw_7 ⟨Nat.le_of_ble_eq_true rfl, Nat.le_of_ble_eq_true rfl⟩ hP hS (fun H locs hP hS => ?_)
  refine lv_if_ne (tgt := 15) hx hb dX11_seesaw_10 (by decide) (fun c2 => ?_) (fun c2 => ?_)
  · replace hf := ifn c2 hf
    refine lv_aload_n hx hb dX11_seesaw_15 rfl (lv_at hl 0 rfl) ?_
    refine va_get (D := D) (ci := 11) (v := .ref (a 10)) (C := RX11) (T := TX11) (N := 16) hx hb hts hinX11 hown hK.1 hP 0 rfl rfl 10 (by decide) (hts (.fieldLink RX11 78 "RopeScale" "pans" "LRopeScale$Pans;") (List.mem_of_getElem? (i := 2) rfl)) (fun _ h9 => h9) rfl dX11_seesaw_16 ?_
    refine lv_aload_n hx hb dX11_seesaw_19 rfl (lv_at hl 0 rfl) ?_
    refine va_get (D := D) (ci := 11) (v := .ref (a 0)) (C := RX11) (T := TX11) (N := 16) hx hb hts hinX11 hown hK.1 hP 0 rfl rfl 0 (by decide) (hts (.fieldLink RX11 10 "RopeScale" "tape" "LRopeScale$Tape;") (List.mem_of_getElem? (i := 1) rfl)) (fun _ h9 => h9) rfl dX11_seesaw_20 ?_
    refine lv_iload_n hx hb dX11_seesaw_23 rfl (lv_at hl 1 rfl) ?_
    obtain ⟨z3, hz3, hf⟩ := bnd hf
    have hPc := hP.sub (ws' := kX5 T (a 10) (aa 11) upa ++ kX8 T (a 0) (aa 1) utp) [35, 36, 37, 1, 2] rfl
    have hDc := hD.sub (ws' := kX5 T (a 10) (aa 11) upa ++ kX8 T (a 0) (aa 1) utp) [35, 36, 37, 1, 2] (by decide) rfl
    have hFc9 := va_free (wc := kX5 T (a 10) (aa 11) upa ++ kX8 T (a 0) (aa 1) utp) hD hS hA [35, 36, 37, 1, 2] rfl
    refine cVMv (As := [.ref (a 0), .int p1]) (rest := []) ⟨hx, hb, hml, hown, hts⟩ (mX5_take l D T (a 10) (aa 11) upa (a 0) (aa 1) utp _ p1 z3 hz3) (cwV 2 hts gX11_seesaw_X5_take rfl rfl rfl (by decide +kernel) ⟨Nat.le_of_ble_eq_true rfl, Nat.le_of_ble_eq_true rfl⟩) (va_recv hK.1 hP (ci := 5) (q0 := 35) rfl rfl) hPc hK rfl hl.1 rfl (Nat.le_of_ble_eq_true rfl) dX11_seesaw_24 ⟨Nat.le_of_ble_eq_true rfl, Nat.le_of_ble_eq_true rfl⟩ hDc hFc9 hS (fun H9 locs hP1 hD1 hk1 hS => ?_)
    obtain ⟨hP, hD⟩ := putAll_P (w1 := kX5 T (a 10) (aa 11) z3.1 ++ kX8 T (a 0) (aa 1) z3.2) hP hD [35, 36, 37, 1, 2] rfl (by decide) hk1 hP1 rfl
    generalize H9 = H at hP hS ⊢
    have hP : va_P D vwCl (WX11 T h a a aa u z3.2 ucu unw ukp utr uro ugi urd uch urk z3.1 uwl uva usl uto usw) H := by exact hP
    have hD : va_D (va_A (WX11 T h a a aa u utp ucu unw ukp utr uro ugi urd uch urk upa uwl uva usl uto usw) s.heap.size) (WX11 T h a a aa u z3.2 ucu unw ukp utr uro ugi urd uch urk z3.1 uwl uva usl uto usw) := by exact hD
    refine lv_aload_n hx hb dX11_seesaw_27 rfl (lv_at hl 0 rfl) ?_
    refine va_get (D := D) (ci := 11) (v := .ref (a 10)) (C := RX11) (T := TX11) (N := 16) hx hb hts hinX11 hown hK.1 hP 0 rfl rfl 10 (by decide) (hts (.fieldLink RX11 78 "RopeScale" "pans" "LRopeScale$Pans;") (List.mem_of_getElem? (i := 2) rfl)) (fun _ h9 => h9) rfl dX11_seesaw_28 ?_
    obtain ⟨z4, hz4, hf⟩ := bnd hf
    refine cVR (As := []) (rest := []) ⟨hx, hb, hml, hown, hts⟩ (mX5_hasZero l D T (a 10) (aa 11) z3.1 z4 hz4) (cwV 0 hts gX11_seesaw_X5_hasZero rfl rfl rfl (by decide +kernel) ⟨Nat.le_of_ble_eq_true rfl, Nat.le_of_ble_eq_true rfl⟩) (va_recv hK.1 hP (ci := 5) (q0 := 35) rfl rfl) (hP.sub (ws' := kX5 T (a 10) (aa 11) z3.1) [35, 36, 37] rfl) hK rfl hl.1 rfl (Nat.le_of_ble_eq_true rfl) dX11_seesaw_31 ⟨Nat.le_of_ble_eq_true rfl, Nat.le_of_ble_eq_true rfl⟩ hP hS (fun H locs hP hS => ?_)
    refine lv_if_eq (tgt := 42) hx hb dX11_seesaw_34 (by decide) (fun c5 => ?_) (fun c5 => ?_)
    · replace hf := ifp c5 hf
      refine lv_aload_n hx hb dX11_seesaw_42 rfl (lv_at hl 0 rfl) ?_
      refine va_get (D := D) (ci := 11) (v := .ref (a 10)) (C := RX11) (T := TX11) (N := 16) hx hb hts hinX11 hown hK.1 hP 0 rfl rfl 10 (by decide) (hts (.fieldLink RX11 78 "RopeScale" "pans" "LRopeScale$Pans;") (List.mem_of_getElem? (i := 2) rfl)) (fun _ h9 => h9) rfl dX11_seesaw_43 ?_
      obtain ⟨z6, hz6, hf⟩ := bnd hf
      have hPc := hP.sub (ws' := kX5 T (a 10) (aa 11) z3.1) [35, 36, 37] rfl
      have hDc := hD.sub (ws' := kX5 T (a 10) (aa 11) z3.1) [35, 36, 37] (by decide) rfl
      have hFc9 := va_free (wc := kX5 T (a 10) (aa 11) z3.1) hD hS hA [35, 36, 37] rfl
      refine cVM (As := []) (rest := []) ⟨hx, hb, hml, hown, hts⟩ (mX5_evenAtBest l D T (a 10) (aa 11) z3.1 _ z6 hz6) (cwV 0 hts gX11_seesaw_X5_evenAtBest rfl rfl rfl (by decide +kernel) ⟨Nat.le_of_ble_eq_true rfl, Nat.le_of_ble_eq_true rfl⟩) (va_recv hK.1 hP (ci := 5) (q0 := 35) rfl rfl) hPc hK rfl hl.1 rfl (Nat.le_of_ble_eq_true rfl) dX11_seesaw_46 ⟨Nat.le_of_ble_eq_true rfl, Nat.le_of_ble_eq_true rfl⟩ hDc hFc9 hS (fun H9 locs hP1 hD1 hk1 hS => ?_)
      obtain ⟨hP, hD⟩ := putAll_P (w1 := kX5 T (a 10) (aa 11) z6.2) hP hD [35, 36, 37] rfl (by decide) hk1 hP1 rfl
      generalize H9 = H at hP hS ⊢
      have hP : va_P D vwCl (WX11 T h a a aa u z3.2 ucu unw ukp utr uro ugi urd uch urk z6.2 uwl uva usl uto usw) H := by exact hP
      have hD : va_D (va_A (WX11 T h a a aa u utp ucu unw ukp utr uro ugi urd uch urk upa uwl uva usl uto usw) s.heap.size) (WX11 T h a a aa u z3.2 ucu unw ukp utr uro ugi urd uch urk z6.2 uwl uva usl uto usw) := by exact hD
      have e9 := Option.some.inj hf
      exact retM hx hb hr hlocks hP hD hS (congrArg (fun z => z.1) e9) (congrArg (fun z => (WX11 T h a a aa u z.2.1 ucu unw ukp utr uro ugi urd uch urk z.2.2 uwl uva usl uto usw : va_W)) e9) dX11_seesaw_49
    replace hf := ifn c5 hf
    refine lv_bipush (v := (-2)) hx hb dX11_seesaw_37 (by decide) ?_
    refine lv_goto (tgt := 49) hx hb dX11_seesaw_39 (by decide) ?_
    have e9 := Option.some.inj hf
    exact retM hx hb hr hlocks hP hD hS (congrArg (fun z => z.1) e9) (congrArg (fun z => (WX11 T h a a aa u z.2.1 ucu unw ukp utr uro ugi urd uch urk z.2.2 uwl uva usl uto usw : va_W)) e9) dX11_seesaw_49
  replace hf := ifp c2 hf
  refine lv_iconst (v := (-1)) hx hb dX11_seesaw_13 (by decide) ?_
  have e9 := Option.some.inj hf
  exact retM hx hb hr hlocks hP hD hS (congrArg (fun z => z.1) e9) (congrArg (fun z => (WX11 T h a a aa u z.2.1 ucu unw ukp utr uro ugi urd uch urk z.2.2 uwl uva usl uto usw : va_W)) e9) dX11_seesaw_14
set_option maxHeartbeats 4000000 in
set_option maxRecDepth 100000 in
theorem mX11_row (l : Launch) (D : va_G) (T : Ty3) (aa : Nat → Nat → Nat) (h : Nat) (a : Nat → Nat) (u : St) (utp : St) (ucu : St) (unw : St) (ukp : St) (utr : St) (uro : St) (ugi : St) (urd : St) (uch : St) (urk : St) (upa : St) (uwl : Nat → Int64) (uva : St) (usl : St) (uto : St) (usw : St) (sz : Nat) (p1 : Int32) (p2 : Int32) (res : Int32 × St × St) (hf : fX11_row utp upa p1 p2 = some res) : Met l yX11_row wsX11_row ({ frames := 2, cells := 0, slots := 0, locals := 45 }) (PcM D T (WX11 T h a a aa u utp ucu unw ukp utr uro ugi urd uch urk upa uwl uva usl uto usw) sz [.ref h, .int p1, .int p2]) (QM D (WX11 T h a a aa u utp ucu unw ukp utr uro ugi urd uch urk upa uwl uva usl uto usw) sz res.1 (WX11 T h a a aa u res.2.1 ucu unw ukp utr uro ugi urd uch urk res.2.2 uwl uva usl uto usw)) 0 0 (va_A (WX11 T h a a aa u utp ucu unw ukp utr uro ugi urd uch urk upa uwl uva usl uto usw) sz) := by
  refine Met.ofW (cc := cX11_row) (maxL := 3) (ret := (some .int)) (by decide) rfl ?_
  intro p e s m args below meth c s₁ B hml hv
  obtain ⟨rfl, hsz, hP, hK, hD0⟩ := hv
  have hx := B.exec
  have hb := B.bytes
  have hr := B.returns
  have hts := atoms_spec (ws := wsX11_row) B.pre
  have hown : s.vm.findClass RX11 = some m.cls := findClass_of_methodNamed B.named
  have hlocks := B.notSynchronized
  subst hsz
  have hD := hD0.self (sz := s.heap.size)
  have hA : ∀ q : Nat, s.heap.size ≤ q → va_A (WX11 T h a a aa u utp ucu unw ukp utr uro ugi urd uch urk upa uwl uva usl uto usw) s.heap.size q := fun q h => Or.inr h
  have hS : va_S (va_A (WX11 T h a a aa u utp ucu unw ukp utr uro ugi urd uch urk upa uwl uva usl uto usw) s.heap.size) s.heap s.heap [] := va_S.rf
  have hinX11 : ∀ w ∈ u_ws RX11 TX11 16, w ∈ wsX11_row := fun w h => List.mem_cons_of_mem _ (List.mem_append_left _ (List.mem_append_left _ (List.mem_append_right _ h)))
  have hinX8 : ∀ w ∈ u_ws RX8 TX8 2, w ∈ wsX11_row := fun w h => List.mem_cons_of_mem _ (List.mem_append_left _ (List.mem_append_right _ h))
  have hinX5 : ∀ w ∈ u_ws RX5 TX5 5, w ∈ wsX11_row := fun w h => List.mem_cons_of_mem _ (List.mem_append_right _ h)
  have hl := lv_entry ([.ref h, .int p1, .int p2]) (n := 3) (Nat.le_of_ble_eq_true rfl)
  rw [lg_entry_eq]
  generalize (lg_sl ([.ref h, .int p1, .int p2]) ++ List.replicate (3 - (lg_sl ([.ref h, .int p1, .int p2])).length) Slot.unset).toArray = ls at hl ⊢
  have hl : lv_has ls 3 [(0, .ref h), (1, .int p1), (2, .int p2)] := hl
  unfold fX11_row at hf
  refine lv_iload_n hx hb dX11_row_0 rfl (lv_at hl 2 rfl) ?_
  refine lv_iconst (v := 0) hx hb dX11_row_1 (by decide) ?_
  refine lv_iconst (v := 1) hx hb dX11_row_2 (by decide) ?_
  obtain ⟨z1, hz1, hf⟩ := lett_e hf
  refine cSR (As := [.int p2, .int 0, .int 1]) (rest := []) ⟨hx, hb, hml, hown, hts⟩ (mX11_isWithin l D T p2 0 1 z1 hz1.symm) (va_cwS 3 hts gX11_row_X11_isWithin rfl rfl rfl (by decide +kernel) ⟨Nat.le_of_ble_eq_true rfl, Nat.le_of_ble_eq_true rfl⟩) P0 hK rfl hl.1 rfl (Nat.le_of_ble_eq_true rfl) dX11_row_3 ⟨Nat.le_of_ble_eq_true rfl, Nat.le_of_ble_eq_true rfl⟩ hP hS (fun H locs hP hS => ?_)
  refine lv_if_eq (tgt := 23) hx hb dX11_row_6 (by decide) (fun c2 => ?_) (fun c2 => ?_)
  · replace hf := ifp c2 hf
    refine lv_iconst (v := (-1)) hx hb dX11_row_23 (by decide) ?_
    have e9 := Option.some.inj hf
    exact retM hx hb hr hlocks hP hD hS (congrArg (fun z => z.1) e9) (congrArg (fun z => (WX11 T h a a aa u z.2.1 ucu unw ukp utr uro ugi urd uch urk z.2.2 uwl uva usl uto usw : va_W)) e9) dX11_row_24
  replace hf := ifn c2 hf
  refine lv_aload_n hx hb dX11_row_9 rfl (lv_at hl 0 rfl) ?_
  refine va_get (D := D) (ci := 11) (v := .ref (a 0)) (C := RX11) (T := TX11) (N := 16) hx hb hts hinX11 hown hK.1 hP 0 rfl rfl 0 (by decide) (hts (.fieldLink RX11 10 "RopeScale" "tape" "LRopeScale$Tape;") (List.mem_of_getElem? (i := 1) rfl)) (fun _ h9 => h9) rfl dX11_row_10 ?_
  refine lv_iload_n hx hb dX11_row_13 rfl (lv_at hl 1 rfl) ?_
  refine lv_iconst (v := 1) hx hb dX11_row_14 (by decide) ?_
  refine lv_bipush (v := 16) hx hb dX11_row_15 (by decide) ?_
  obtain ⟨z3, hz3, hf⟩ := lett_e hf
  refine cVR (As := [.int p1, .int 1, .int 16]) (rest := []) ⟨hx, hb, hml, hown, hts⟩ (mX8_offers l D T (a 0) (aa 1) utp p1 1 16 z3 hz3.symm) (cwV 3 hts gX11_row_X8_offers rfl rfl rfl (by decide +kernel) ⟨Nat.le_of_ble_eq_true rfl, Nat.le_of_ble_eq_true rfl⟩) (va_recv hK.1 hP (ci := 8) (q0 := 1) rfl rfl) (hP.sub (ws' := kX8 T (a 0) (aa 1) utp) [1, 2] rfl) hK rfl hl.1 rfl (Nat.le_of_ble_eq_true rfl) dX11_row_17 ⟨Nat.le_of_ble_eq_true rfl, Nat.le_of_ble_eq_true rfl⟩ hP hS (fun H locs hP hS => ?_)
  refine lv_if_ne (tgt := 25) hx hb dX11_row_20 (by decide) (fun c4 => ?_) (fun c4 => ?_)
  · replace hf := ifn c4 hf
    refine lv_aload_n hx hb dX11_row_25 rfl (lv_at hl 0 rfl) ?_
    refine va_get (D := D) (ci := 11) (v := .ref (a 10)) (C := RX11) (T := TX11) (N := 16) hx hb hts hinX11 hown hK.1 hP 0 rfl rfl 10 (by decide) (hts (.fieldLink RX11 78 "RopeScale" "pans" "LRopeScale$Pans;") (List.mem_of_getElem? (i := 2) rfl)) (fun _ h9 => h9) rfl dX11_row_26 ?_
    refine lv_aload_n hx hb dX11_row_29 rfl (lv_at hl 0 rfl) ?_
    refine va_get (D := D) (ci := 11) (v := .ref (a 0)) (C := RX11) (T := TX11) (N := 16) hx hb hts hinX11 hown hK.1 hP 0 rfl rfl 0 (by decide) (hts (.fieldLink RX11 10 "RopeScale" "tape" "LRopeScale$Tape;") (List.mem_of_getElem? (i := 1) rfl)) (fun _ h9 => h9) rfl dX11_row_30 ?_
    refine lv_iload_n hx hb dX11_row_33 rfl (lv_at hl 1 rfl) ?_
    obtain ⟨z5, hz5, hf⟩ := bnd hf
    have hPc := hP.sub (ws' := kX5 T (a 10) (aa 11) upa ++ kX8 T (a 0) (aa 1) utp) [35, 36, 37, 1, 2] rfl
    have hDc := hD.sub (ws' := kX5 T (a 10) (aa 11) upa ++ kX8 T (a 0) (aa 1) utp) [35, 36, 37, 1, 2] (by decide) rfl
    have hFc9 := va_free (wc := kX5 T (a 10) (aa 11) upa ++ kX8 T (a 0) (aa 1) utp) hD hS hA [35, 36, 37, 1, 2] rfl
    refine cVMv (As := [.ref (a 0), .int p1]) (rest := []) ⟨hx, hb, hml, hown, hts⟩ (mX5_take l D T (a 10) (aa 11) upa (a 0) (aa 1) utp _ p1 z5 hz5) (cwV 2 hts gX11_row_X5_take rfl rfl rfl (by decide +kernel) ⟨Nat.le_of_ble_eq_true rfl, Nat.le_of_ble_eq_true rfl⟩) (va_recv hK.1 hP (ci := 5) (q0 := 35) rfl rfl) hPc hK rfl hl.1 rfl (Nat.le_of_ble_eq_true rfl) dX11_row_34 ⟨Nat.le_of_ble_eq_true rfl, Nat.le_of_ble_eq_true rfl⟩ hDc hFc9 hS (fun H9 locs hP1 hD1 hk1 hS => ?_)
    obtain ⟨hP, hD⟩ := putAll_P (w1 := kX5 T (a 10) (aa 11) z5.1 ++ kX8 T (a 0) (aa 1) z5.2) hP hD [35, 36, 37, 1, 2] rfl (by decide) hk1 hP1 rfl
    generalize H9 = H at hP hS ⊢
    have hP : va_P D vwCl (WX11 T h a a aa u z5.2 ucu unw ukp utr uro ugi urd uch urk z5.1 uwl uva usl uto usw) H := by exact hP
    have hD : va_D (va_A (WX11 T h a a aa u utp ucu unw ukp utr uro ugi urd uch urk upa uwl uva usl uto usw) s.heap.size) (WX11 T h a a aa u z5.2 ucu unw ukp utr uro ugi urd uch urk z5.1 uwl uva usl uto usw) := by exact hD
    refine lv_iload_n hx hb dX11_row_37 rfl (lv_at hl 2 rfl) ?_
    refine lv_if_ne (tgt := 54) hx hb dX11_row_38 (by decide) (fun c6 => ?_) (fun c6 => ?_)
    · replace hf := ifn c6 hf
      refine lv_aload_n hx hb dX11_row_54 rfl (lv_at hl 0 rfl) ?_
      refine va_get (D := D) (ci := 11) (v := .ref (a 10)) (C := RX11) (T := TX11) (N := 16) hx hb hts hinX11 hown hK.1 hP 0 rfl rfl 10 (by decide) (hts (.fieldLink RX11 78 "RopeScale" "pans" "LRopeScale$Pans;") (List.mem_of_getElem? (i := 2) rfl)) (fun _ h9 => h9) rfl dX11_row_55 ?_
      refine lv_iconst (v := 1) hx hb dX11_row_58 (by decide) ?_
      obtain ⟨z7, hz7, hf⟩ := bnd hf
      have hPc := hP.sub (ws' := kX5 T (a 10) (aa 11) z5.1) [35, 36, 37] rfl
      have hDc := hD.sub (ws' := kX5 T (a 10) (aa 11) z5.1) [35, 36, 37] (by decide) rfl
      have hFc9 := va_free (wc := kX5 T (a 10) (aa 11) z5.1) hD hS hA [35, 36, 37] rfl
      refine cVM (As := [.int 1]) (rest := []) ⟨hx, hb, hml, hown, hts⟩ (mX5_mostThatRise l D T (a 10) (aa 11) z5.1 _ 1 z7 hz7) (cwV 1 hts gX11_row_X5_mostThatRise rfl rfl rfl (by decide +kernel) ⟨Nat.le_of_ble_eq_true rfl, Nat.le_of_ble_eq_true rfl⟩) (va_recv hK.1 hP (ci := 5) (q0 := 35) rfl rfl) hPc hK rfl hl.1 rfl (Nat.le_of_ble_eq_true rfl) dX11_row_59 ⟨Nat.le_of_ble_eq_true rfl, Nat.le_of_ble_eq_true rfl⟩ hDc hFc9 hS (fun H9 locs hP1 hD1 hk1 hS => ?_)
      obtain ⟨hP, hD⟩ := putAll_P (w1 := kX5 T (a 10) (aa 11) z7.2) hP hD [35, 36, 37] rfl (by decide) hk1 hP1 rfl
      generalize H9 = H at hP hS ⊢
      have hP : va_P D vwCl (WX11 T h a a aa u z5.2 ucu unw ukp utr uro ugi urd uch urk z7.2 uwl uva usl uto usw) H := by exact hP
      have hD : va_D (va_A (WX11 T h a a aa u utp ucu unw ukp utr uro ugi urd uch urk upa uwl uva usl uto usw) s.heap.size) (WX11 T h a a aa u z5.2 ucu unw ukp utr uro ugi urd uch urk z7.2 uwl uva usl uto usw) := by exact hD
      have e9 := Option.some.inj hf
      exact retM hx hb hr hlocks hP hD hS (congrArg (fun z => z.1) e9) (congrArg (fun z => (WX11 T h a a aa u z.2.1 ucu unw ukp utr uro ugi urd uch urk z.2.2 uwl uva usl uto usw : va_W)) e9) dX11_row_62
    replace hf := ifp c6 hf
    refine lv_iload_n hx hb dX11_row_41 rfl (lv_at hl 1 rfl) ?_
    refine lv_aload_n hx hb dX11_row_42 rfl (lv_at hl 0 rfl) ?_
    refine va_get (D := D) (ci := 11) (v := .ref (a 10)) (C := RX11) (T := TX11) (N := 16) hx hb hts hinX11 hown hK.1 hP 0 rfl rfl 10 (by decide) (hts (.fieldLink RX11 78 "RopeScale" "pans" "LRopeScale$Pans;") (List.mem_of_getElem? (i := 2) rfl)) (fun _ h9 => h9) rfl dX11_row_43 ?_
    refine lv_iconst (v := 0) hx hb dX11_row_46 (by decide) ?_
    obtain ⟨z8, hz8, hf⟩ := bnd hf
    have hPc := hP.sub (ws' := kX5 T (a 10) (aa 11) z5.1) [35, 36, 37] rfl
    have hDc := hD.sub (ws' := kX5 T (a 10) (aa 11) z5.1) [35, 36, 37] (by decide) rfl
    have hFc9 := va_free (wc := kX5 T (a 10) (aa 11) z5.1) hD hS hA [35, 36, 37] rfl
    refine cVM (As := [.int 0]) (rest := [.int p1]) ⟨hx, hb, hml, hown, hts⟩ (mX5_mostThatRise l D T (a 10) (aa 11) z5.1 _ 0 z8 hz8) (cwV 1 hts gX11_row_X5_mostThatRise rfl rfl rfl (by decide +kernel) ⟨Nat.le_of_ble_eq_true rfl, Nat.le_of_ble_eq_true rfl⟩) (va_recv hK.1 hP (ci := 5) (q0 := 35) rfl rfl) hPc hK rfl hl.1 rfl (Nat.le_of_ble_eq_true rfl) dX11_row_47 ⟨Nat.le_of_ble_eq_true rfl, Nat.le_of_ble_eq_true rfl⟩ hDc hFc9 hS (fun H9 locs hP1 hD1 hk1 hS => ?_)
    obtain ⟨hP, hD⟩ := putAll_P (w1 := kX5 T (a 10) (aa 11) z8.2) hP hD [35, 36, 37] rfl (by decide) hk1 hP1 rfl
    generalize H9 = H at hP hS ⊢
    have hP : va_P D vwCl (WX11 T h a a aa u z5.2 ucu unw ukp utr uro ugi urd uch urk z8.2 uwl uva usl uto usw) H := by exact hP
    have hD : va_D (va_A (WX11 T h a a aa u utp ucu unw ukp utr uro ugi urd uch urk upa uwl uva usl uto usw) s.heap.size) (WX11 T h a a aa u z5.2 ucu unw ukp utr uro ugi urd uch urk z8.2 uwl uva usl uto usw) := by exact hD
    refine lv_isub hx hb dX11_row_50 ?_
    refine lv_goto (tgt := 62) hx hb dX11_row_51 (by decide) ?_
    have e9 := Option.some.inj hf
    exact retM hx hb hr hlocks hP hD hS (congrArg (fun z => z.1) e9) (congrArg (fun z => (WX11 T h a a aa u z.2.1 ucu unw ukp utr uro ugi urd uch urk z.2.2 uwl uva usl uto usw : va_W)) e9) dX11_row_62
  replace hf := ifp c4 hf
  refine lv_iconst (v := (-1)) hx hb dX11_row_23 (by decide) ?_
  have e9 := Option.some.inj hf
  exact retM hx hb hr hlocks hP hD hS (congrArg (fun z => z.1) e9) (congrArg (fun z => (WX11 T h a a aa u z.2.1 ucu unw ukp utr uro ugi urd uch urk z.2.2 uwl uva usl uto usw : va_W)) e9) dX11_row_24
