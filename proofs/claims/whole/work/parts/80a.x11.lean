set_option maxHeartbeats 4000000 in
set_option maxRecDepth 100000 in
theorem mX11_walker (l : Launch) (D : va_G) (T : Ty3) (aa : Nat → Nat → Nat) (h : Nat) (a : Nat → Nat) (u : St) (utp : St) (ucu : St) (unw : St) (ukp : St) (utr : St) (uro : St) (ugi : St) (urd : St) (uch : St) (urk : St) (upa : St) (uwl : Nat → Int64) (uva : St) (usl : St) (uto : St) (usw : St) (sz : Nat) (p1 : Int32) (p2 : Int32) (res : Int32 × St) (hf : fX11_walker unw p1 p2 = some res) : Met l yX11_walker wsX11_walker ({ frames := 2, cells := 0, slots := 0, locals := 42 }) (PcM D T (WX11 T h a a aa u utp ucu unw ukp utr uro ugi urd uch urk upa uwl uva usl uto usw) sz [.ref h, .int p1, .int p2]) (QM D (WX11 T h a a aa u utp ucu unw ukp utr uro ugi urd uch urk upa uwl uva usl uto usw) sz res.1 (WX11 T h a a aa u utp ucu res.2 ukp utr uro ugi urd uch urk upa uwl uva usl uto usw)) 0 0 (va_A (WX11 T h a a aa u utp ucu unw ukp utr uro ugi urd uch urk upa uwl uva usl uto usw) sz) := by
  refine Met.ofW (cc := cX11_walker) (maxL := 3) (ret := (some .boolean)) (by decide) rfl ?_
  intro p e s m args below meth c s₁ B hml hv
  obtain ⟨rfl, hsz, hP, hK, hD0⟩ := hv
  have hx := B.exec
  have hb := B.bytes
  have hr := B.returns
  have hts := atoms_spec (ws := wsX11_walker) B.pre
  have hown : s.vm.findClass RX11 = some m.cls := findClass_of_methodNamed B.named
  have hlocks := B.notSynchronized
  subst hsz
  have hD := hD0.self (sz := s.heap.size)
  have hA : ∀ q : Nat, s.heap.size ≤ q → va_A (WX11 T h a a aa u utp ucu unw ukp utr uro ugi urd uch urk upa uwl uva usl uto usw) s.heap.size q := fun q h => Or.inr h
  have hS : va_S (va_A (WX11 T h a a aa u utp ucu unw ukp utr uro ugi urd uch urk upa uwl uva usl uto usw) s.heap.size) s.heap s.heap [] := va_S.rf
  have hinX11 : ∀ w ∈ u_ws RX11 TX11 16, w ∈ wsX11_walker := fun w h => List.mem_cons_of_mem _ (List.mem_append_left _ (List.mem_append_right _ h))
  have hinX9 : ∀ w ∈ u_ws RX9 TX9 8, w ∈ wsX11_walker := fun w h => List.mem_cons_of_mem _ (List.mem_append_right _ h)
  have hl := lv_entry ([.ref h, .int p1, .int p2]) (n := 3) (Nat.le_of_ble_eq_true rfl)
  rw [lg_entry_eq]
  generalize (lg_sl ([.ref h, .int p1, .int p2]) ++ List.replicate (3 - (lg_sl ([.ref h, .int p1, .int p2])).length) Slot.unset).toArray = ls at hl ⊢
  have hl : lv_has ls 3 [(0, .ref h), (1, .int p1), (2, .int p2)] := hl
  unfold fX11_walker at hf
  refine lv_iload_n hx hb dX11_walker_0 rfl (lv_at hl 1 rfl) ?_
  obtain ⟨z1, hz1, hf⟩ := bnd hf
  refine cSR (As := [.int p1]) (rest := []) ⟨hx, hb, hml, hown, hts⟩ (mX11_isWalker l D T p1 z1 hz1) (va_cwS 1 hts gX11_walker_X11_isWalker rfl rfl rfl (by decide +kernel) ⟨Nat.le_of_ble_eq_true rfl, Nat.le_of_ble_eq_true rfl⟩) P0 hK rfl hl.1 rfl (Nat.le_of_ble_eq_true rfl) dX11_walker_1 ⟨Nat.le_of_ble_eq_true rfl, Nat.le_of_ble_eq_true rfl⟩ hP hS (fun H locs hP hS => ?_)
  refine lv_if_eq (tgt := 18) hx hb dX11_walker_4 (by decide) (fun c2 => ?_) (fun c2 => ?_)
  · replace hf := ifp c2 hf
    refine lv_iconst (v := 0) hx hb dX11_walker_18 (by decide) ?_
    have e9 := Option.some.inj hf
    exact retMz hx hb hr hlocks hP hD hS rfl (congrArg (fun z => z.1) e9) (congrArg (fun z => (WX11 T h a a aa u utp ucu z.2 ukp utr uro ugi urd uch urk upa uwl uva usl uto usw : va_W)) e9) dX11_walker_19
  replace hf := ifn c2 hf
  refine lv_iload_n hx hb dX11_walker_7 rfl (lv_at hl 2 rfl) ?_
  refine lv_iconst (v := 1) hx hb dX11_walker_8 (by decide) ?_
  refine lv_sipush (v := 999) hx hb dX11_walker_9 (by decide) ?_
  obtain ⟨z3, hz3, hf⟩ := lett_e hf
  refine cSR (As := [.int p2, .int 1, .int 999]) (rest := []) ⟨hx, hb, hml, hown, hts⟩ (mX11_isWithin l D T p2 1 999 z3 hz3.symm) (va_cwS 3 hts gX11_walker_X11_isWithin rfl rfl rfl (by decide +kernel) ⟨Nat.le_of_ble_eq_true rfl, Nat.le_of_ble_eq_true rfl⟩) P0 hK rfl hl.1 rfl (Nat.le_of_ble_eq_true rfl) dX11_walker_12 ⟨Nat.le_of_ble_eq_true rfl, Nat.le_of_ble_eq_true rfl⟩ hP hS (fun H locs hP hS => ?_)
  refine lv_if_ne (tgt := 20) hx hb dX11_walker_15 (by decide) (fun c4 => ?_) (fun c4 => ?_)
  · replace hf := ifn c4 hf
    refine lv_aload_n hx hb dX11_walker_20 rfl (lv_at hl 0 rfl) ?_
    refine va_get (D := D) (ci := 11) (v := .ref (a 2)) (C := RX11) (T := TX11) (N := 16) hx hb hts hinX11 hown hK.1 hP 0 rfl rfl 2 (by decide) (hts (.fieldLink RX11 28 "RopeScale" "now" "LRopeScale$Walk;") (List.mem_of_getElem? (i := 1) rfl)) (fun _ h9 => h9) rfl dX11_walker_21 ?_
    refine lv_iload_n hx hb dX11_walker_24 rfl (lv_at hl 1 rfl) ?_
    refine lv_iload_n hx hb dX11_walker_25 rfl (lv_at hl 2 rfl) ?_
    obtain ⟨z5, hz5, hf⟩ := bnd hf
    have hPc := hP.sub (ws' := kX9 T (a 2) (aa 3) unw) [4, 5, 6, 7, 8] rfl
    have hDc := hD.sub (ws' := kX9 T (a 2) (aa 3) unw) [4, 5, 6, 7, 8] (by decide) rfl
    have hFc9 := va_free (wc := kX9 T (a 2) (aa 3) unw) hD hS hA [4, 5, 6, 7, 8] rfl
    refine cVMv (As := [.int p1, .int p2]) (rest := []) ⟨hx, hb, hml, hown, hts⟩ (mX9_tell l D T (a 2) (aa 3) unw _ p1 p2 z5 hz5) (cwV 2 hts gX11_walker_X9_tell rfl rfl rfl (by decide +kernel) ⟨Nat.le_of_ble_eq_true rfl, Nat.le_of_ble_eq_true rfl⟩) (va_recv hK.1 hP (ci := 9) (q0 := 4) rfl rfl) hPc hK rfl hl.1 rfl (Nat.le_of_ble_eq_true rfl) dX11_walker_26 ⟨Nat.le_of_ble_eq_true rfl, Nat.le_of_ble_eq_true rfl⟩ hDc hFc9 hS (fun H9 locs hP1 hD1 hk1 hS => ?_)
    obtain ⟨hP, hD⟩ := putAll_P (w1 := kX9 T (a 2) (aa 3) z5) hP hD [4, 5, 6, 7, 8] rfl (by decide) hk1 hP1 rfl
    generalize H9 = H at hP hS ⊢
    have hP : va_P D vwCl (WX11 T h a a aa u utp ucu z5 ukp utr uro ugi urd uch urk upa uwl uva usl uto usw) H := by exact hP
    have hD : va_D (va_A (WX11 T h a a aa u utp ucu unw ukp utr uro ugi urd uch urk upa uwl uva usl uto usw) s.heap.size) (WX11 T h a a aa u utp ucu z5 ukp utr uro ugi urd uch urk upa uwl uva usl uto usw) := by exact hD
    refine lv_iconst (v := 1) hx hb dX11_walker_29 (by decide) ?_
    have e9 := Option.some.inj hf
    exact retMz hx hb hr hlocks hP hD hS rfl (congrArg (fun z => z.1) e9) (congrArg (fun z => (WX11 T h a a aa u utp ucu z.2 ukp utr uro ugi urd uch urk upa uwl uva usl uto usw : va_W)) e9) dX11_walker_30
  replace hf := ifp c4 hf
  refine lv_iconst (v := 0) hx hb dX11_walker_18 (by decide) ?_
  have e9 := Option.some.inj hf
  exact retMz hx hb hr hlocks hP hD hS rfl (congrArg (fun z => z.1) e9) (congrArg (fun z => (WX11 T h a a aa u utp ucu z.2 ukp utr uro ugi urd uch urk upa uwl uva usl uto usw : va_W)) e9) dX11_walker_19
set_option maxHeartbeats 4000000 in
set_option maxRecDepth 100000 in
theorem mX11_rules (l : Launch) (D : va_G) (T : Ty3) (aa : Nat → Nat → Nat) (h : Nat) (a : Nat → Nat) (u : St) (utp : St) (ucu : St) (unw : St) (ukp : St) (utr : St) (uro : St) (ugi : St) (urd : St) (uch : St) (urk : St) (upa : St) (uwl : Nat → Int64) (uva : St) (usl : St) (uto : St) (usw : St) (sz : Nat) (p1 : Int32) (p2 : Int32) (res : Int32 × St) (hf : fX11_rules uro p1 p2 = res) : Met l yX11_rules wsX11_rules ({ frames := 1, cells := 0, slots := 0, locals := 22 }) (PcM D T (WX11 T h a a aa u utp ucu unw ukp utr uro ugi urd uch urk upa uwl uva usl uto usw) sz [.ref h, .int p1, .int p2]) (QM D (WX11 T h a a aa u utp ucu unw ukp utr uro ugi urd uch urk upa uwl uva usl uto usw) sz res.1 (WX11 T h a a aa u utp ucu unw ukp utr res.2 ugi urd uch urk upa uwl uva usl uto usw)) 0 0 (va_A (WX11 T h a a aa u utp ucu unw ukp utr uro ugi urd uch urk upa uwl uva usl uto usw) sz) := by
  refine Met.ofW (cc := cX11_rules) (maxL := 3) (ret := (some .boolean)) (by decide) rfl ?_
  intro p e s m args below meth c s₁ B hml hv
  obtain ⟨rfl, hsz, hP, hK, hD0⟩ := hv
  have hx := B.exec
  have hb := B.bytes
  have hr := B.returns
  have hts := atoms_spec (ws := wsX11_rules) B.pre
  have hown : s.vm.findClass RX11 = some m.cls := findClass_of_methodNamed B.named
  have hlocks := B.notSynchronized
  subst hsz
  have hD := hD0.self (sz := s.heap.size)
  have hA : ∀ q : Nat, s.heap.size ≤ q → va_A (WX11 T h a a aa u utp ucu unw ukp utr uro ugi urd uch urk upa uwl uva usl uto usw) s.heap.size q := fun q h => Or.inr h
  have hS : va_S (va_A (WX11 T h a a aa u utp ucu unw ukp utr uro ugi urd uch urk upa uwl uva usl uto usw) s.heap.size) s.heap s.heap [] := va_S.rf
  have hinX11 : ∀ w ∈ u_ws RX11 TX11 16, w ∈ wsX11_rules := fun w h => List.mem_cons_of_mem _ (List.mem_append_left _ (List.mem_append_right _ h))
  have hinX7 : ∀ w ∈ u_ws RX7 TX7 6, w ∈ wsX11_rules := fun w h => List.mem_cons_of_mem _ (List.mem_append_right _ h)
  have hl := lv_entry ([.ref h, .int p1, .int p2]) (n := 3) (Nat.le_of_ble_eq_true rfl)
  rw [lg_entry_eq]
  generalize (lg_sl ([.ref h, .int p1, .int p2]) ++ List.replicate (3 - (lg_sl ([.ref h, .int p1, .int p2])).length) Slot.unset).toArray = ls at hl ⊢
  have hl : lv_has ls 3 [(0, .ref h), (1, .int p1), (2, .int p2)] := hl
  unfold fX11_rules at hf
  refine lv_iload_n hx hb dX11_rules_0 rfl (lv_at hl 1 rfl) ?_
  refine lv_iconst (v := 0) hx hb dX11_rules_1 (by decide) ?_
  refine lv_bipush (v := 99) hx hb dX11_rules_2 (by decide) ?_
  obtain ⟨z1, hz1, hf⟩ := lett_e hf
  refine cSR (As := [.int p1, .int 0, .int 99]) (rest := []) ⟨hx, hb, hml, hown, hts⟩ (mX11_isWithin l D T p1 0 99 z1 hz1.symm) (va_cwS 3 hts gX11_rules_X11_isWithin rfl rfl rfl (by decide +kernel) ⟨Nat.le_of_ble_eq_true rfl, Nat.le_of_ble_eq_true rfl⟩) P0 hK rfl hl.1 rfl (Nat.le_of_ble_eq_true rfl) dX11_rules_4 ⟨Nat.le_of_ble_eq_true rfl, Nat.le_of_ble_eq_true rfl⟩ hP hS (fun H locs hP hS => ?_)
  refine lv_if_eq (tgt := 20) hx hb dX11_rules_7 (by decide) (fun c2 => ?_) (fun c2 => ?_)
  · replace hf := ifp c2 hf
    refine lv_iconst (v := 0) hx hb dX11_rules_20 (by decide) ?_
    have e9 := hf
    exact retMz hx hb hr hlocks hP hD hS rfl (congrArg (fun z => z.1) e9) (congrArg (fun z => (WX11 T h a a aa u utp ucu unw ukp utr z.2 ugi urd uch urk upa uwl uva usl uto usw : va_W)) e9) dX11_rules_21
  replace hf := ifn c2 hf
  refine lv_iload_n hx hb dX11_rules_10 rfl (lv_at hl 2 rfl) ?_
  refine lv_iconst (v := 0) hx hb dX11_rules_11 (by decide) ?_
  refine lv_bipush (v := 99) hx hb dX11_rules_12 (by decide) ?_
  obtain ⟨z3, hz3, hf⟩ := lett_e hf
  refine cSR (As := [.int p2, .int 0, .int 99]) (rest := []) ⟨hx, hb, hml, hown, hts⟩ (mX11_isWithin l D T p2 0 99 z3 hz3.symm) (va_cwS 3 hts gX11_rules_X11_isWithin rfl rfl rfl (by decide +kernel) ⟨Nat.le_of_ble_eq_true rfl, Nat.le_of_ble_eq_true rfl⟩) P0 hK rfl hl.1 rfl (Nat.le_of_ble_eq_true rfl) dX11_rules_14 ⟨Nat.le_of_ble_eq_true rfl, Nat.le_of_ble_eq_true rfl⟩ hP hS (fun H locs hP hS => ?_)
  refine lv_if_ne (tgt := 22) hx hb dX11_rules_17 (by decide) (fun c4 => ?_) (fun c4 => ?_)
  · replace hf := ifn c4 hf
    refine lv_aload_n hx hb dX11_rules_22 rfl (lv_at hl 0 rfl) ?_
    refine va_get (D := D) (ci := 11) (v := .ref (a 5)) (C := RX11) (T := TX11) (N := 16) hx hb hts hinX11 hown hK.1 hP 0 rfl rfl 5 (by decide) (hts (.fieldLink RX11 41 "RopeScale" "rope" "LRopeScale$Rope;") (List.mem_of_getElem? (i := 1) rfl)) (fun _ h9 => h9) rfl dX11_rules_23 ?_
    refine lv_iload_n hx hb dX11_rules_26 rfl (lv_at hl 1 rfl) ?_
    obtain ⟨u5, eu5, hf⟩ := lett_e hf
    refine va_put (D := D) (ci := 7) (v := .int p1) (ty := .int) (C := RX7) (T := TX7) (N := 6) hx hb hts hinX7 tyX7 tyX7_ok nmX7 hown hK.1 hP hD hS 19 rfl rfl 0 (by decide) (hts (.fieldLink RX11 118 "RopeScale$Rope" "tolerance" "I") (List.mem_of_getElem? (i := 2) rfl)) (fun _ h9 => h9) rfl (tyX7_ok 0 (by decide)) rfl rfl (Nat.le_of_ble_eq_true rfl) dX11_rules_27 (fun H locs hP hD hS => ?_)
    have hP : va_P D vwCl (WX11 T h a a aa u utp ucu unw ukp utr u5 ugi urd uch urk upa uwl uva usl uto usw) H := by rw [eu5]; exact hP
    have hD : va_D (va_A (WX11 T h a a aa u utp ucu unw ukp utr uro ugi urd uch urk upa uwl uva usl uto usw) s.heap.size) (WX11 T h a a aa u utp ucu unw ukp utr u5 ugi urd uch urk upa uwl uva usl uto usw) := by rw [eu5]; exact hD
    refine lv_aload_n hx hb dX11_rules_30 rfl (lv_at hl 0 rfl) ?_
    refine va_get (D := D) (ci := 11) (v := .ref (a 5)) (C := RX11) (T := TX11) (N := 16) hx hb hts hinX11 hown hK.1 hP 0 rfl rfl 5 (by decide) (hts (.fieldLink RX11 41 "RopeScale" "rope" "LRopeScale$Rope;") (List.mem_of_getElem? (i := 1) rfl)) (fun _ h9 => h9) rfl dX11_rules_31 ?_
    refine lv_iload_n hx hb dX11_rules_34 rfl (lv_at hl 2 rfl) ?_
    obtain ⟨u6, eu6, hf⟩ := lett_e hf
    refine va_put (D := D) (ci := 7) (v := .int p2) (ty := .int) (C := RX7) (T := TX7) (N := 6) hx hb hts hinX7 tyX7 tyX7_ok nmX7 hown hK.1 hP hD hS 19 rfl rfl 1 (by decide) (hts (.fieldLink RX11 122 "RopeScale$Rope" "toe" "I") (List.mem_of_getElem? (i := 3) rfl)) (fun _ h9 => h9) rfl (tyX7_ok 1 (by decide)) rfl rfl (Nat.le_of_ble_eq_true rfl) dX11_rules_35 (fun H locs hP hD hS => ?_)
    have hP : va_P D vwCl (WX11 T h a a aa u utp ucu unw ukp utr u6 ugi urd uch urk upa uwl uva usl uto usw) H := by rw [eu6]; exact hP
    have hD : va_D (va_A (WX11 T h a a aa u utp ucu unw ukp utr uro ugi urd uch urk upa uwl uva usl uto usw) s.heap.size) (WX11 T h a a aa u utp ucu unw ukp utr u6 ugi urd uch urk upa uwl uva usl uto usw) := by rw [eu6]; exact hD
    refine lv_iconst (v := 1) hx hb dX11_rules_38 (by decide) ?_
    have e9 := hf
    exact retMz hx hb hr hlocks hP hD hS rfl (congrArg (fun z => z.1) e9) (congrArg (fun z => (WX11 T h a a aa u utp ucu unw ukp utr z.2 ugi urd uch urk upa uwl uva usl uto usw : va_W)) e9) dX11_rules_39
  replace hf := ifp c4 hf
  refine lv_iconst (v := 0) hx hb dX11_rules_20 (by decide) ?_
  have e9 := hf
  exact retMz hx hb hr hlocks hP hD hS rfl (congrArg (fun z => z.1) e9) (congrArg (fun z => (WX11 T h a a aa u utp ucu unw ukp utr z.2 ugi urd uch urk upa uwl uva usl uto usw : va_W)) e9) dX11_rules_21
set_option maxHeartbeats 4000000 in
set_option maxRecDepth 100000 in
theorem mX11_feed (l : Launch) (D : va_G) (T : Ty3) (aa : Nat → Nat → Nat) (h : Nat) (a : Nat → Nat) (u : St) (utp : St) (ucu : St) (unw : St) (ukp : St) (utr : St) (uro : St) (ugi : St) (urd : St) (uch : St) (urk : St) (upa : St) (uwl : Nat → Int64) (uva : St) (usl : St) (uto : St) (usw : St) (sz : Nat) (p1 : Int32) (p2 : Int32) (p3 : Int32) (p4 : Int32) (p5 : Int32) (res : Int32 × St) (hf : fX11_feed utp p1 p2 p3 p4 p5 = some res) : Met l yX11_feed wsX11_feed ({ frames := 1, cells := 0, slots := 0, locals := 22 }) (PcM D T (WX11 T h a a aa u utp ucu unw ukp utr uro ugi urd uch urk upa uwl uva usl uto usw) sz [.ref h, .int p1, .int p2, .int p3, .int p4, .int p5]) (QM D (WX11 T h a a aa u utp ucu unw ukp utr uro ugi urd uch urk upa uwl uva usl uto usw) sz res.1 (WX11 T h a a aa u res.2 ucu unw ukp utr uro ugi urd uch urk upa uwl uva usl uto usw)) 0 0 (va_A (WX11 T h a a aa u utp ucu unw ukp utr uro ugi urd uch urk upa uwl uva usl uto usw) sz) := by
  refine Met.ofW (cc := cX11_feed) (maxL := 6) (ret := (some .int)) (by decide) rfl ?_
  intro p e s m args below meth c s₁ B hml hv
  obtain ⟨rfl, hsz, hP, hK, hD0⟩ := hv
  have hx := B.exec
  have hb := B.bytes
  have hr := B.returns
  have hts := atoms_spec (ws := wsX11_feed) B.pre
  have hown : s.vm.findClass RX11 = some m.cls := findClass_of_methodNamed B.named
  have hlocks := B.notSynchronized
  subst hsz
  have hD := hD0.self (sz := s.heap.size)
  have hA : ∀ q : Nat, s.heap.size ≤ q → va_A (WX11 T h a a aa u utp ucu unw ukp utr uro ugi urd uch urk upa uwl uva usl uto usw) s.heap.size q := fun q h => Or.inr h
  have hS : va_S (va_A (WX11 T h a a aa u utp ucu unw ukp utr uro ugi urd uch urk upa uwl uva usl uto usw) s.heap.size) s.heap s.heap [] := va_S.rf
  have hinX11 : ∀ w ∈ u_ws RX11 TX11 16, w ∈ wsX11_feed := fun w h => List.mem_cons_of_mem _ (List.mem_append_left _ (List.mem_append_right _ h))
  have hinX8 : ∀ w ∈ u_ws RX8 TX8 2, w ∈ wsX11_feed := fun w h => List.mem_cons_of_mem _ (List.mem_append_right _ h)
  have hl := lv_entry ([.ref h, .int p1, .int p2, .int p3, .int p4, .int p5]) (n := 6) (Nat.le_of_ble_eq_true rfl)
  rw [lg_entry_eq]
  generalize (lg_sl ([.ref h, .int p1, .int p2, .int p3, .int p4, .int p5]) ++ List.replicate (6 - (lg_sl ([.ref h, .int p1, .int p2, .int p3, .int p4, .int p5])).length) Slot.unset).toArray = ls at hl ⊢
  have hl : lv_has ls 6 [(0, .ref h), (1, .int p1), (2, .int p2), (3, .int p3), (4, .int p4), (5, .int p5)] := hl
  unfold fX11_feed at hf
  refine lv_aload_n hx hb dX11_feed_0 rfl (lv_at hl 0 rfl) ?_
  refine va_get (D := D) (ci := 11) (v := .ref (a 0)) (C := RX11) (T := TX11) (N := 16) hx hb hts hinX11 hown hK.1 hP 0 rfl rfl 0 (by decide) (hts (.fieldLink RX11 10 "RopeScale" "tape" "LRopeScale$Tape;") (List.mem_of_getElem? (i := 1) rfl)) (fun _ h9 => h9) rfl dX11_feed_1 ?_
  obtain ⟨z1, hz1, hf⟩ := lett_e hf
  refine cVR (As := []) (rest := []) ⟨hx, hb, hml, hown, hts⟩ (mX8_hasRoom l D T (a 0) (aa 1) utp z1 hz1.symm) (cwV 0 hts gX11_feed_X8_hasRoom rfl rfl rfl (by decide +kernel) ⟨Nat.le_of_ble_eq_true rfl, Nat.le_of_ble_eq_true rfl⟩) (va_recv hK.1 hP (ci := 8) (q0 := 1) rfl rfl) (hP.sub (ws' := kX8 T (a 0) (aa 1) utp) [1, 2] rfl) hK rfl hl.1 rfl (Nat.le_of_ble_eq_true rfl) dX11_feed_4 ⟨Nat.le_of_ble_eq_true rfl, Nat.le_of_ble_eq_true rfl⟩ hP hS (fun H locs hP hS => ?_)
  refine lv_if_ne (tgt := 12) hx hb dX11_feed_7 (by decide) (fun c2 => ?_) (fun c2 => ?_)
  · replace hf := ifn c2 hf
    refine lv_aload_n hx hb dX11_feed_12 rfl (lv_at hl 0 rfl) ?_
    refine va_get (D := D) (ci := 11) (v := .ref (a 0)) (C := RX11) (T := TX11) (N := 16) hx hb hts hinX11 hown hK.1 hP 0 rfl rfl 0 (by decide) (hts (.fieldLink RX11 10 "RopeScale" "tape" "LRopeScale$Tape;") (List.mem_of_getElem? (i := 1) rfl)) (fun _ h9 => h9) rfl dX11_feed_13 ?_
    refine lv_iload_n hx hb dX11_feed_16 rfl (lv_at hl 1 rfl) ?_
    obtain ⟨z3, hz3, hf⟩ := bnd hf
    have hPc := hP.sub (ws' := kX8 T (a 0) (aa 1) utp) [1, 2] rfl
    have hDc := hD.sub (ws' := kX8 T (a 0) (aa 1) utp) [1, 2] (by decide) rfl
    have hFc9 := va_free (wc := kX8 T (a 0) (aa 1) utp) hD hS hA [1, 2] rfl
    refine cVMv (As := [.int p1]) (rest := []) ⟨hx, hb, hml, hown, hts⟩ (mX8_append l D T (a 0) (aa 1) utp _ p1 z3 hz3) (cwV 1 hts gX11_feed_X8_append rfl rfl rfl (by decide +kernel) ⟨Nat.le_of_ble_eq_true rfl, Nat.le_of_ble_eq_true rfl⟩) (va_recv hK.1 hP (ci := 8) (q0 := 1) rfl rfl) hPc hK rfl hl.1 rfl (Nat.le_of_ble_eq_true rfl) dX11_feed_17 ⟨Nat.le_of_ble_eq_true rfl, Nat.le_of_ble_eq_true rfl⟩ hDc hFc9 hS (fun H9 locs hP1 hD1 hk1 hS => ?_)
    obtain ⟨hP, hD⟩ := putAll_P (w1 := kX8 T (a 0) (aa 1) z3) hP hD [1, 2] rfl (by decide) hk1 hP1 rfl
    generalize H9 = H at hP hS ⊢
    have hP : va_P D vwCl (WX11 T h a a aa u z3 ucu unw ukp utr uro ugi urd uch urk upa uwl uva usl uto usw) H := by exact hP
    have hD : va_D (va_A (WX11 T h a a aa u utp ucu unw ukp utr uro ugi urd uch urk upa uwl uva usl uto usw) s.heap.size) (WX11 T h a a aa u z3 ucu unw ukp utr uro ugi urd uch urk upa uwl uva usl uto usw) := by exact hD
    refine lv_aload_n hx hb dX11_feed_20 rfl (lv_at hl 0 rfl) ?_
    refine va_get (D := D) (ci := 11) (v := .ref (a 0)) (C := RX11) (T := TX11) (N := 16) hx hb hts hinX11 hown hK.1 hP 0 rfl rfl 0 (by decide) (hts (.fieldLink RX11 10 "RopeScale" "tape" "LRopeScale$Tape;") (List.mem_of_getElem? (i := 1) rfl)) (fun _ h9 => h9) rfl dX11_feed_21 ?_
    refine lv_iload_n hx hb dX11_feed_24 rfl (lv_at hl 2 rfl) ?_
    obtain ⟨z4, hz4, hf⟩ := bnd hf
    have hPc := hP.sub (ws' := kX8 T (a 0) (aa 1) z3) [1, 2] rfl
    have hDc := hD.sub (ws' := kX8 T (a 0) (aa 1) z3) [1, 2] (by decide) rfl
    have hFc9 := va_free (wc := kX8 T (a 0) (aa 1) z3) hD hS hA [1, 2] rfl
    refine cVMv (As := [.int p2]) (rest := []) ⟨hx, hb, hml, hown, hts⟩ (mX8_append l D T (a 0) (aa 1) z3 _ p2 z4 hz4) (cwV 1 hts gX11_feed_X8_append rfl rfl rfl (by decide +kernel) ⟨Nat.le_of_ble_eq_true rfl, Nat.le_of_ble_eq_true rfl⟩) (va_recv hK.1 hP (ci := 8) (q0 := 1) rfl rfl) hPc hK rfl hl.1 rfl (Nat.le_of_ble_eq_true rfl) dX11_feed_25 ⟨Nat.le_of_ble_eq_true rfl, Nat.le_of_ble_eq_true rfl⟩ hDc hFc9 hS (fun H9 locs hP1 hD1 hk1 hS => ?_)
    obtain ⟨hP, hD⟩ := putAll_P (w1 := kX8 T (a 0) (aa 1) z4) hP hD [1, 2] rfl (by decide) hk1 hP1 rfl
    generalize H9 = H at hP hS ⊢
    have hP : va_P D vwCl (WX11 T h a a aa u z4 ucu unw ukp utr uro ugi urd uch urk upa uwl uva usl uto usw) H := by exact hP
    have hD : va_D (va_A (WX11 T h a a aa u utp ucu unw ukp utr uro ugi urd uch urk upa uwl uva usl uto usw) s.heap.size) (WX11 T h a a aa u z4 ucu unw ukp utr uro ugi urd uch urk upa uwl uva usl uto usw) := by exact hD
    refine lv_aload_n hx hb dX11_feed_28 rfl (lv_at hl 0 rfl) ?_
    refine va_get (D := D) (ci := 11) (v := .ref (a 0)) (C := RX11) (T := TX11) (N := 16) hx hb hts hinX11 hown hK.1 hP 0 rfl rfl 0 (by decide) (hts (.fieldLink RX11 10 "RopeScale" "tape" "LRopeScale$Tape;") (List.mem_of_getElem? (i := 1) rfl)) (fun _ h9 => h9) rfl dX11_feed_29 ?_
    refine lv_iload_n hx hb dX11_feed_32 rfl (lv_at hl 3 rfl) ?_
    obtain ⟨z5, hz5, hf⟩ := bnd hf
    have hPc := hP.sub (ws' := kX8 T (a 0) (aa 1) z4) [1, 2] rfl
    have hDc := hD.sub (ws' := kX8 T (a 0) (aa 1) z4) [1, 2] (by decide) rfl
    have hFc9 := va_free (wc := kX8 T (a 0) (aa 1) z4) hD hS hA [1, 2] rfl
    refine cVMv (As := [.int p3]) (rest := []) ⟨hx, hb, hml, hown, hts⟩ (mX8_append l D T (a 0) (aa 1) z4 _ p3 z5 hz5) (cwV 1 hts gX11_feed_X8_append rfl rfl rfl (by decide +kernel) ⟨Nat.le_of_ble_eq_true rfl, Nat.le_of_ble_eq_true rfl⟩) (va_recv hK.1 hP (ci := 8) (q0 := 1) rfl rfl) hPc hK rfl hl.1 rfl (Nat.le_of_ble_eq_true rfl) dX11_feed_33 ⟨Nat.le_of_ble_eq_true rfl, Nat.le_of_ble_eq_true rfl⟩ hDc hFc9 hS (fun H9 locs hP1 hD1 hk1 hS => ?_)
    obtain ⟨hP, hD⟩ := putAll_P (w1 := kX8 T (a 0) (aa 1) z5) hP hD [1, 2] rfl (by decide) hk1 hP1 rfl
    generalize H9 = H at hP hS ⊢
    have hP : va_P D vwCl (WX11 T h a a aa u z5 ucu unw ukp utr uro ugi urd uch urk upa uwl uva usl uto usw) H := by exact hP
    have hD : va_D (va_A (WX11 T h a a aa u utp ucu unw ukp utr uro ugi urd uch urk upa uwl uva usl uto usw) s.heap.size) (WX11 T h a a aa u z5 ucu unw ukp utr uro ugi urd uch urk upa uwl uva usl uto usw) := by exact hD
    refine lv_aload_n hx hb dX11_feed_36 rfl (lv_at hl 0 rfl) ?_
    refine va_get (D := D) (ci := 11) (v := .ref (a 0)) (C := RX11) (T := TX11) (N := 16) hx hb hts hinX11 hown hK.1 hP 0 rfl rfl 0 (by decide) (hts (.fieldLink RX11 10 "RopeScale" "tape" "LRopeScale$Tape;") (List.mem_of_getElem? (i := 1) rfl)) (fun _ h9 => h9) rfl dX11_feed_37 ?_
    refine lv_iload hx hb dX11_feed_40 (lv_at hl 4 rfl) ?_
    obtain ⟨z6, hz6, hf⟩ := bnd hf
    have hPc := hP.sub (ws' := kX8 T (a 0) (aa 1) z5) [1, 2] rfl
    have hDc := hD.sub (ws' := kX8 T (a 0) (aa 1) z5) [1, 2] (by decide) rfl
    have hFc9 := va_free (wc := kX8 T (a 0) (aa 1) z5) hD hS hA [1, 2] rfl
    refine cVMv (As := [.int p4]) (rest := []) ⟨hx, hb, hml, hown, hts⟩ (mX8_append l D T (a 0) (aa 1) z5 _ p4 z6 hz6) (cwV 1 hts gX11_feed_X8_append rfl rfl rfl (by decide +kernel) ⟨Nat.le_of_ble_eq_true rfl, Nat.le_of_ble_eq_true rfl⟩) (va_recv hK.1 hP (ci := 8) (q0 := 1) rfl rfl) hPc hK rfl hl.1 rfl (Nat.le_of_ble_eq_true rfl) dX11_feed_42 ⟨Nat.le_of_ble_eq_true rfl, Nat.le_of_ble_eq_true rfl⟩ hDc hFc9 hS (fun H9 locs hP1 hD1 hk1 hS => ?_)
    obtain ⟨hP, hD⟩ := putAll_P (w1 := kX8 T (a 0) (aa 1) z6) hP hD [1, 2] rfl (by decide) hk1 hP1 rfl
    generalize H9 = H at hP hS ⊢
    have hP : va_P D vwCl (WX11 T h a a aa u z6 ucu unw ukp utr uro ugi urd uch urk upa uwl uva usl uto usw) H := by exact hP
    have hD : va_D (va_A (WX11 T h a a aa u utp ucu unw ukp utr uro ugi urd uch urk upa uwl uva usl uto usw) s.heap.size) (WX11 T h a a aa u z6 ucu unw ukp utr uro ugi urd uch urk upa uwl uva usl uto usw) := by exact hD
    refine lv_aload_n hx hb dX11_feed_45 rfl (lv_at hl 0 rfl) ?_
    refine va_get (D := D) (ci := 11) (v := .ref (a 0)) (C := RX11) (T := TX11) (N := 16) hx hb hts hinX11 hown hK.1 hP 0 rfl rfl 0 (by decide) (hts (.fieldLink RX11 10 "RopeScale" "tape" "LRopeScale$Tape;") (List.mem_of_getElem? (i := 1) rfl)) (fun _ h9 => h9) rfl dX11_feed_46 ?_
    refine lv_iload hx hb dX11_feed_49 (lv_at hl 5 rfl) ?_
    obtain ⟨z7, hz7, hf⟩ := bnd hf
    have hPc := hP.sub (ws' := kX8 T (a 0) (aa 1) z6) [1, 2] rfl
    have hDc := hD.sub (ws' := kX8 T (a 0) (aa 1) z6) [1, 2] (by decide) rfl
    have hFc9 := va_free (wc := kX8 T (a 0) (aa 1) z6) hD hS hA [1, 2] rfl
    refine cVMv (As := [.int p5]) (rest := []) ⟨hx, hb, hml, hown, hts⟩ (mX8_append l D T (a 0) (aa 1) z6 _ p5 z7 hz7) (cwV 1 hts gX11_feed_X8_append rfl rfl rfl (by decide +kernel) ⟨Nat.le_of_ble_eq_true rfl, Nat.le_of_ble_eq_true rfl⟩) (va_recv hK.1 hP (ci := 8) (q0 := 1) rfl rfl) hPc hK rfl hl.1 rfl (Nat.le_of_ble_eq_true rfl) dX11_feed_51 ⟨Nat.le_of_ble_eq_true rfl, Nat.le_of_ble_eq_true rfl⟩ hDc hFc9 hS (fun H9 locs hP1 hD1 hk1 hS => ?_)
    obtain ⟨hP, hD⟩ := putAll_P (w1 := kX8 T (a 0) (aa 1) z7) hP hD [1, 2] rfl (by decide) hk1 hP1 rfl
    generalize H9 = H at hP hS ⊢
    have hP : va_P D vwCl (WX11 T h a a aa u z7 ucu unw ukp utr uro ugi urd uch urk upa uwl uva usl uto usw) H := by exact hP
    have hD : va_D (va_A (WX11 T h a a aa u utp ucu unw ukp utr uro ugi urd uch urk upa uwl uva usl uto usw) s.heap.size) (WX11 T h a a aa u z7 ucu unw ukp utr uro ugi urd uch urk upa uwl uva usl uto usw) := by exact hD
    refine lv_aload_n hx hb dX11_feed_54 rfl (lv_at hl 0 rfl) ?_
    refine va_get (D := D) (ci := 11) (v := .ref (a 0)) (C := RX11) (T := TX11) (N := 16) hx hb hts hinX11 hown hK.1 hP 0 rfl rfl 0 (by decide) (hts (.fieldLink RX11 10 "RopeScale" "tape" "LRopeScale$Tape;") (List.mem_of_getElem? (i := 1) rfl)) (fun _ h9 => h9) rfl dX11_feed_55 ?_
    refine va_get (D := D) (ci := 8) (v := .int (z7 1 0)) (C := RX8) (T := TX8) (N := 2) hx hb hts hinX8 hown hK.1 hP 1 rfl rfl 1 (by decide) (hts (.fieldLink RX11 133 "RopeScale$Tape" "length" "I") (List.mem_of_getElem? (i := 2) rfl)) (fun _ h9 => h9) rfl dX11_feed_58 ?_
    have e9 := Option.some.inj hf
    exact retM hx hb hr hlocks hP hD hS (congrArg (fun z => z.1) e9) (congrArg (fun z => (WX11 T h a a aa u z.2 ucu unw ukp utr uro ugi urd uch urk upa uwl uva usl uto usw : va_W)) e9) dX11_feed_61
  replace hf := ifp c2 hf
  refine lv_iconst (v := (-1)) hx hb dX11_feed_10 (by decide) ?_
  have e9 := Option.some.inj hf
  exact retM hx hb hr hlocks hP hD hS (congrArg (fun z => z.1) e9) (congrArg (fun z => (WX11 T h a a aa u z.2 ucu unw ukp utr uro ugi urd uch urk upa uwl uva usl uto usw : va_W)) e9) dX11_feed_11
set_option maxHeartbeats 4000000 in
set_option maxRecDepth 100000 in
theorem mX11_law (l : Launch) (D : va_G) (T : Ty3) (kv : (Nat → Nat) × (Nat → Nat)) (aa : Nat → Nat → Nat) (h : Nat) (a : Nat → Nat) (u : St) (utp : St) (ucu : St) (unw : St) (ukp : St) (utr : St) (uro : St) (ugi : St) (urd : St) (uch : St) (urk : St) (upa : St) (uwl : Nat → Int64) (uva : St) (usl : St) (uto : St) (usw : St) (sz : Nat) (p1 : Int32) (res : Int32 × St × St × St × St) (hf : fX11_law utp ucu uva usl p1 = some res) : Met l yX11_law wsX11_law ({ frames := 58, cells := 0, slots := 0, locals := 1375 }) (PcMS D T kv (WX11 T h a a aa u utp ucu unw ukp utr uro ugi urd uch urk upa uwl uva usl uto usw) sz [.ref h, .int p1]) (QMe D (WX11 T h a a aa u utp ucu unw ukp utr uro ugi urd uch urk upa uwl uva usl uto usw) sz res.1 (fun a aa => WX11 T h a a aa u res.2.1 res.2.2.1 unw ukp utr uro ugi urd uch urk upa uwl res.2.2.2.1 res.2.2.2.2 uto usw)) 0 0 (va_A (WX11 T h a a aa u utp ucu unw ukp utr uro ugi urd uch urk upa uwl uva usl uto usw) sz) := by
  refine Met.ofW (cc := cX11_law) (maxL := 3) (ret := (some .int)) (by decide) rfl ?_
  intro p e s m args below meth c s₁ B hml hv
  obtain ⟨rfl, hsz, hP, hK, hD0, hE⟩ := hv
  have hx := B.exec
  have hb := B.bytes
  have hr := B.returns
  have hts := atoms_spec (ws := wsX11_law) B.pre
  have hown : s.vm.findClass RX11 = some m.cls := findClass_of_methodNamed B.named
  have hlocks := B.notSynchronized
  subst hsz
  have hD := hD0.self (sz := s.heap.size)
  have hA : ∀ q : Nat, s.heap.size ≤ q → va_A (WX11 T h a a aa u utp ucu unw ukp utr uro ugi urd uch urk upa uwl uva usl uto usw) s.heap.size q := fun q h => Or.inr h
  have hS : va_S (va_A (WX11 T h a a aa u utp ucu unw ukp utr uro ugi urd uch urk upa uwl uva usl uto usw) s.heap.size) s.heap s.heap [] := va_S.rf
  have hinX11 : ∀ w ∈ u_ws RX11 TX11 16, w ∈ wsX11_law := fun w h => List.mem_cons_of_mem _ (List.mem_append_left _ (List.mem_append_left _ (List.mem_append_left _ (List.mem_append_left _ (List.mem_append_right _ h)))))
  have hinX1 : ∀ w ∈ u_ws RX1 TX1 5, w ∈ wsX11_law := fun w h => List.mem_cons_of_mem _ (List.mem_append_left _ (List.mem_append_left _ (List.mem_append_left _ (List.mem_append_right _ h))))
  have hinX2 : ∀ w ∈ u_ws RX2 TX2 10, w ∈ wsX11_law := fun w h => List.mem_cons_of_mem _ (List.mem_append_left _ (List.mem_append_left _ (List.mem_append_right _ h)))
  have hinX8 : ∀ w ∈ u_ws RX8 TX8 2, w ∈ wsX11_law := fun w h => List.mem_cons_of_mem _ (List.mem_append_left _ (List.mem_append_right _ h))
  have hinX3 : ∀ w ∈ u_ws RX3 TX3 1, w ∈ wsX11_law := fun w h => List.mem_cons_of_mem _ (List.mem_append_right _ h)
  have hl := lv_entry ([.ref h, .int p1]) (n := 3) (Nat.le_of_ble_eq_true rfl)
  rw [lg_entry_eq]
  generalize (lg_sl ([.ref h, .int p1]) ++ List.replicate (3 - (lg_sl ([.ref h, .int p1])).length) Slot.unset).toArray = ls at hl ⊢
  have hl : lv_has ls 3 [(0, .ref h), (1, .int p1)] := hl
  unfold fX11_law at hf
  refine lv_aload_n hx hb dX11_law_0 rfl (lv_at hl 0 rfl) ?_
  refine va_get (D := D) (ci := 11) (v := .ref (a 0)) (C := RX11) (T := TX11) (N := 16) hx hb hts hinX11 hown hK.1 hP 0 rfl rfl 0 (by decide) (hts (.fieldLink RX11 10 "RopeScale" "tape" "LRopeScale$Tape;") (List.mem_of_getElem? (i := 1) rfl)) (fun _ h9 => h9) rfl dX11_law_1 ?_
  refine lv_iload_n hx hb dX11_law_4 rfl (lv_at hl 1 rfl) ?_
  refine lv_iconst (v := 1) hx hb dX11_law_5 (by decide) ?_
  refine lv_sipush (v := 240) hx hb dX11_law_6 (by decide) ?_
  obtain ⟨z1, hz1, hf⟩ := lett_e hf
  refine cVR (As := [.int p1, .int 1, .int 240]) (rest := []) ⟨hx, hb, hml, hown, hts⟩ (mX8_offers l D T (a 0) (aa 1) utp p1 1 240 z1 hz1.symm) (cwV 3 hts gX11_law_X8_offers rfl rfl rfl (by decide +kernel) ⟨Nat.le_of_ble_eq_true rfl, Nat.le_of_ble_eq_true rfl⟩) (va_recv hK.1 hP (ci := 8) (q0 := 1) rfl rfl) (hP.sub (ws' := kX8 T (a 0) (aa 1) utp) [1, 2] rfl) hK rfl hl.1 rfl (Nat.le_of_ble_eq_true rfl) dX11_law_9 ⟨Nat.le_of_ble_eq_true rfl, Nat.le_of_ble_eq_true rfl⟩ hP hS (fun H locs hP hS => ?_)
  refine lv_if_ne (tgt := 17) hx hb dX11_law_12 (by decide) (fun c2 => ?_) (fun c2 => ?_)
  · replace hf := ifn c2 hf
    refine lv_aload_n hx hb dX11_law_17 rfl (lv_at hl 0 rfl) ?_
    refine va_get (D := D) (ci := 11) (v := .ref (a 1)) (C := RX11) (T := TX11) (N := 16) hx hb hts hinX11 hown hK.1 hP 0 rfl rfl 1 (by decide) (hts (.fieldLink RX11 21 "RopeScale" "cursor" "LRopeScale$Cursor;") (List.mem_of_getElem? (i := 2) rfl)) (fun _ h9 => h9) rfl dX11_law_18 ?_
    refine lv_iload_n hx hb dX11_law_21 rfl (lv_at hl 1 rfl) ?_
    obtain ⟨z3, hz3, hf⟩ := bnd hf
    have hPc := hP.sub (ws' := kX1 T (a 1) (fun _ => a 0) ucu ++ kX8 T (a 0) (aa 1) utp) [3, 1, 2] rfl
    have hDc := hD.sub (ws' := kX1 T (a 1) (fun _ => a 0) ucu ++ kX8 T (a 0) (aa 1) utp) [3, 1, 2] (by decide) rfl
    have hFc9 := va_free (wc := kX1 T (a 1) (fun _ => a 0) ucu ++ kX8 T (a 0) (aa 1) utp) hD hS hA [3, 1, 2] rfl
    refine cVMv (As := [.int p1]) (rest := []) ⟨hx, hb, hml, hown, hts⟩ (mX1_start l D T (a 1) (fun _ => a 0) ucu (aa 1) utp _ p1 z3 hz3) (cwV 1 hts gX11_law_X1_start rfl rfl rfl (by decide +kernel) ⟨Nat.le_of_ble_eq_true rfl, Nat.le_of_ble_eq_true rfl⟩) (va_recv hK.1 hP (ci := 1) (q0 := 3) rfl rfl) hPc hK rfl hl.1 rfl (Nat.le_of_ble_eq_true rfl) dX11_law_22 ⟨Nat.le_of_ble_eq_true rfl, Nat.le_of_ble_eq_true rfl⟩ hDc hFc9 hS (fun H9 locs hP1 hD1 hk1 hS => ?_)
    obtain ⟨hP, hD⟩ := putAll_P (w1 := kX1 T (a 1) (fun _ => a 0) z3 ++ kX8 T (a 0) (aa 1) utp) hP hD [3, 1, 2] rfl (by decide) hk1 hP1 rfl
    generalize H9 = H at hP hS ⊢
    have hP : va_P D vwCl (WX11 T h a a aa u utp z3 unw ukp utr uro ugi urd uch urk upa uwl uva usl uto usw) H := by exact hP
    have hD : va_D (va_A (WX11 T h a a aa u utp ucu unw ukp utr uro ugi urd uch urk upa uwl uva usl uto usw) s.heap.size) (WX11 T h a a aa u utp z3 unw ukp utr uro ugi urd uch urk upa uwl uva usl uto usw) := by exact hD
    refine lv_aload_n hx hb dX11_law_25 rfl (lv_at hl 0 rfl) ?_
    refine va_get (D := D) (ci := 11) (v := .ref (a 7)) (C := RX11) (T := TX11) (N := 16) hx hb hts hinX11 hown hK.1 hP 0 rfl rfl 7 (by decide) (hts (.fieldLink RX11 57 "RopeScale" "lawReader" "LRopeScale$LawReader;") (List.mem_of_getElem? (i := 3) rfl)) (fun _ h9 => h9) rfl dX11_law_26 ?_
    refine lv_aload_n hx hb dX11_law_29 rfl (lv_at hl 0 rfl) ?_
    refine va_get (D := D) (ci := 11) (v := .ref (a 12)) (C := RX11) (T := TX11) (N := 16) hx hb hts hinX11 hown hK.1 hP 0 rfl rfl 12 (by decide) (hts (.fieldLink RX11 89 "RopeScale" "spareLaw" "LRopeScale$Law;") (List.mem_of_getElem? (i := 4) rfl)) (fun _ h9 => h9) rfl dX11_law_30 ?_
    obtain ⟨z4, hz4, hf⟩ := bnd hf
    have hPc := hP.sub (ws' := kX3 T (a 7) (fun _ => a 1) urd ++ kX1 T (a 1) (fun _ => a 0) z3 ++ kX8 T (a 0) (aa 1) utp ++ kX2 T (a 12) (aa 14) usl) [24, 3, 1, 2, 48, 49, 50, 51, 52, 53, 54, 55, 56] rfl
    have hDc := hD.sub (ws' := kX3 T (a 7) (fun _ => a 1) urd ++ kX1 T (a 1) (fun _ => a 0) z3 ++ kX8 T (a 0) (aa 1) utp ++ kX2 T (a 12) (aa 14) usl) [24, 3, 1, 2, 48, 49, 50, 51, 52, 53, 54, 55, 56] (by decide) rfl
    have hFc9 := va_free (wc := kX3 T (a 7) (fun _ => a 1) urd ++ kX1 T (a 1) (fun _ => a 0) z3 ++ kX8 T (a 0) (aa 1) utp ++ kX2 T (a 12) (aa 14) usl) hD hS hA [24, 3, 1, 2, 48, 49, 50, 51, 52, 53, 54, 55, 56] rfl
    refine cVMvS (As := [.ref (a 12)]) (rest := []) ⟨hx, hb, hml, hown, hts⟩ (mX3_read l D T kv (a 7) (fun _ => a 1) urd (fun _ => a 0) z3 (aa 1) utp (a 12) (aa 14) usl _ z4 hz4) (cwV 1 hts gX11_law_X3_read rfl rfl rfl (by decide +kernel) ⟨Nat.le_of_ble_eq_true rfl, Nat.le_of_ble_eq_true rfl⟩) (va_recv hK.1 hP (ci := 3) (q0 := 24) rfl rfl) hPc hK rfl hl.1 rfl (Nat.le_of_ble_eq_true rfl) dX11_law_33 ⟨Nat.le_of_ble_eq_true rfl, Nat.le_of_ble_eq_true rfl⟩ hDc hFc9 hE hS (fun H9 locs hP1 hD1 hk1 hS => ?_)
    obtain ⟨hP, hD⟩ := putAll_P (w1 := kX3 T (a 7) (fun _ => a 1) urd ++ kX1 T (a 1) (fun _ => a 0) z4.1 ++ kX8 T (a 0) (aa 1) utp ++ kX2 T (a 12) (aa 14) z4.2) hP hD [24, 3, 1, 2, 48, 49, 50, 51, 52, 53, 54, 55, 56] rfl (by decide) hk1 hP1 rfl
    generalize H9 = H at hP hS ⊢
    have hP : va_P D vwCl (WX11 T h a a aa u utp z4.1 unw ukp utr uro ugi urd uch urk upa uwl uva z4.2 uto usw) H := by exact hP
    have hD : va_D (va_A (WX11 T h a a aa u utp ucu unw ukp utr uro ugi urd uch urk upa uwl uva usl uto usw) s.heap.size) (WX11 T h a a aa u utp z4.1 unw ukp utr uro ugi urd uch urk upa uwl uva z4.2 uto usw) := by exact hD
    refine lv_aload_n hx hb dX11_law_36 rfl (lv_at hl 0 rfl) ?_
    refine va_get (D := D) (ci := 11) (v := .ref (a 0)) (C := RX11) (T := TX11) (N := 16) hx hb hts hinX11 hown hK.1 hP 0 rfl rfl 0 (by decide) (hts (.fieldLink RX11 10 "RopeScale" "tape" "LRopeScale$Tape;") (List.mem_of_getElem? (i := 1) rfl)) (fun _ h9 => h9) rfl dX11_law_37 ?_
    obtain ⟨z5, hz5, hf⟩ := lett_e hf
    have hPc := hP.sub (ws' := kX8 T (a 0) (aa 1) utp) [1, 2] rfl
    have hDc := hD.sub (ws' := kX8 T (a 0) (aa 1) utp) [1, 2] (by decide) rfl
    have hFc9 := va_free (wc := kX8 T (a 0) (aa 1) utp) hD hS hA [1, 2] rfl
    refine cVMv (As := []) (rest := []) ⟨hx, hb, hml, hown, hts⟩ (mX8_clear l D T (a 0) (aa 1) utp _ z5 hz5.symm) (cwV 0 hts gX11_law_X8_clear rfl rfl rfl (by decide +kernel) ⟨Nat.le_of_ble_eq_true rfl, Nat.le_of_ble_eq_true rfl⟩) (va_recv hK.1 hP (ci := 8) (q0 := 1) rfl rfl) hPc hK rfl hl.1 rfl (Nat.le_of_ble_eq_true rfl) dX11_law_40 ⟨Nat.le_of_ble_eq_true rfl, Nat.le_of_ble_eq_true rfl⟩ hDc hFc9 hS (fun H9 locs hP1 hD1 hk1 hS => ?_)
    obtain ⟨hP, hD⟩ := putAll_P (w1 := kX8 T (a 0) (aa 1) z5) hP hD [1, 2] rfl (by decide) hk1 hP1 rfl
    generalize H9 = H at hP hS ⊢
    have hP : va_P D vwCl (WX11 T h a a aa u z5 z4.1 unw ukp utr uro ugi urd uch urk upa uwl uva z4.2 uto usw) H := by exact hP
    have hD : va_D (va_A (WX11 T h a a aa u utp ucu unw ukp utr uro ugi urd uch urk upa uwl uva usl uto usw) s.heap.size) (WX11 T h a a aa u z5 z4.1 unw ukp utr uro ugi urd uch urk upa uwl uva z4.2 uto usw) := by exact hD
    refine lv_aload_n hx hb dX11_law_43 rfl (lv_at hl 0 rfl) ?_
    refine va_get (D := D) (ci := 11) (v := .ref (a 1)) (C := RX11) (T := TX11) (N := 16) hx hb hts hinX11 hown hK.1 hP 0 rfl rfl 1 (by decide) (hts (.fieldLink RX11 21 "RopeScale" "cursor" "LRopeScale$Cursor;") (List.mem_of_getElem? (i := 2) rfl)) (fun _ h9 => h9) rfl dX11_law_44 ?_
    obtain ⟨z6, hz6, hf⟩ := lett_e hf
    refine cVR (As := []) (rest := []) ⟨hx, hb, hml, hown, hts⟩ (mX1_isFaulty l D T (a 1) (fun _ => a 0) z4.1 z6 hz6.symm) (cwV 0 hts gX11_law_X1_isFaulty rfl rfl rfl (by decide +kernel) ⟨Nat.le_of_ble_eq_true rfl, Nat.le_of_ble_eq_true rfl⟩) (va_recv hK.1 hP (ci := 1) (q0 := 3) rfl rfl) (hP.sub (ws' := kX1 T (a 1) (fun _ => a 0) z4.1) [3] rfl) hK rfl hl.1 rfl (Nat.le_of_ble_eq_true rfl) dX11_law_47 ⟨Nat.le_of_ble_eq_true rfl, Nat.le_of_ble_eq_true rfl⟩ hP hS (fun H locs hP hS => ?_)
    refine lv_if_eq (tgt := 61) hx hb dX11_law_50 (by decide) (fun c7 => ?_) (fun c7 => ?_)
    · replace hf := ifp c7 hf
      refine lv_aload_n hx hb dX11_law_61 rfl (lv_at hl 0 rfl) ?_
      refine va_get (D := D) (ci := 11) (v := .ref (a 11)) (C := RX11) (T := TX11) (N := 16) hx hb hts hinX11 hown hK.1 hP 0 rfl rfl 11 (by decide) (hts (.fieldLink RX11 85 "RopeScale" "valid" "LRopeScale$Law;") (List.mem_of_getElem? (i := 6) rfl)) (fun _ h9 => h9) rfl dX11_law_62 ?_
      refine lv_astore_n (lv' := [(2, .ref (a 11)), (0, .ref h), (1, .int p1)]) hx hb dX11_law_65 rfl hl (by decide) rfl (fun ls hl => ?_)
      refine lv_aload_n hx hb dX11_law_66 rfl (lv_at hl 1 rfl) ?_
      refine lv_aload_n hx hb dX11_law_67 rfl (lv_at hl 1 rfl) ?_
      refine va_get (D := D) (ci := 11) (v := .ref (a 12)) (C := RX11) (T := TX11) (N := 16) hx hb hts hinX11 hown hK.1 hP 0 rfl rfl 12 (by decide) (hts (.fieldLink RX11 89 "RopeScale" "spareLaw" "LRopeScale$Law;") (List.mem_of_getElem? (i := 4) rfl)) (fun _ h9 => h9) rfl dX11_law_68 ?_
      refine va_put (D := D) (ci := 11) (v := .ref (a 12)) (ty := .object "RopeScale$Law") (C := RX11) (T := TX11) (N := 16) hx hb hts hinX11 tyX11 tyX11_ok nmX11 hown hK.1 hP hD hS 0 rfl rfl 11 (by decide) (hts (.fieldLink RX11 85 "RopeScale" "valid" "LRopeScale$Law;") (List.mem_of_getElem? (i := 6) rfl)) (fun _ h9 => h9) rfl (tyX11_ok 11 (by decide)) rfl rfl (Nat.le_of_ble_eq_true rfl) dX11_law_71 (fun H locs hP hD hS => ?_)
      have hP : va_P D vwCl (WX11 T h (pfa a 11 (a 12)) a aa u z5 z4.1 unw ukp utr uro ugi urd uch urk upa uwl uva z4.2 uto usw) H := hP
      have hD : va_D (va_A (WX11 T h a a aa u utp ucu unw ukp utr uro ugi urd uch urk upa uwl uva usl uto usw) s.heap.size) (WX11 T h (pfa a 11 (a 12)) a aa u z5 z4.1 unw ukp utr uro ugi urd uch urk upa uwl uva z4.2 uto usw) := hD
      refine lv_aload_n hx hb dX11_law_74 rfl (lv_at hl 1 rfl) ?_
      refine lv_aload_n hx hb dX11_law_75 rfl (lv_at hl 0 rfl) ?_
      refine va_put (D := D) (ci := 11) (v := .ref (a 11)) (ty := .object "RopeScale$Law") (C := RX11) (T := TX11) (N := 16) hx hb hts hinX11 tyX11 tyX11_ok nmX11 hown hK.1 hP hD hS 0 rfl rfl 12 (by decide) (hts (.fieldLink RX11 89 "RopeScale" "spareLaw" "LRopeScale$Law;") (List.mem_of_getElem? (i := 4) rfl)) (fun _ h9 => h9) rfl (tyX11_ok 12 (by decide)) rfl rfl (Nat.le_of_ble_eq_true rfl) dX11_law_76 (fun H locs hP hD hS => ?_)
      have hP : va_P D vwCl (WX11 T h (pfa (pfa a 11 (a 12)) 12 (a 11)) a aa u z5 z4.1 unw ukp utr uro ugi urd uch urk upa uwl uva z4.2 uto usw) H := hP
      have hD : va_D (va_A (WX11 T h a a aa u utp ucu unw ukp utr uro ugi urd uch urk upa uwl uva usl uto usw) s.heap.size) (WX11 T h (pfa (pfa a 11 (a 12)) 12 (a 11)) a aa u z5 z4.1 unw ukp utr uro ugi urd uch urk upa uwl uva z4.2 uto usw) := hD
      refine lv_aload_n hx hb dX11_law_79 rfl (lv_at hl 1 rfl) ?_
      refine va_get (D := D) (ci := 11) (v := .ref (a 12)) (C := RX11) (T := TX11) (N := 16) hx hb hts hinX11 hown hK.1 hP 0 rfl rfl 11 (by decide) (hts (.fieldLink RX11 85 "RopeScale" "valid" "LRopeScale$Law;") (List.mem_of_getElem? (i := 6) rfl)) (fun _ h9 => h9) rfl dX11_law_80 ?_
      refine va_get (D := D) (ci := 2) (v := .int (z4.2 4 0)) (C := RX2) (T := TX2) (N := 10) hx hb hts hinX2 hown hK.1 hP 48 rfl rfl 4 (by decide) (hts (.fieldLink RX11 155 "RopeScale$Law" "rules" "I") (List.mem_of_getElem? (i := 7) rfl)) (fun _ h9 => h9) rfl dX11_law_83 ?_
      have e9 := Option.some.inj hf
      subst e9
      have hP := hP.sub (ws' := (fun a aa => WX11 T h a a aa u z5 z4.1 unw ukp utr uro ugi urd uch urk upa uwl z4.2 uva uto usw) (pfa (pfa a 11 (a 12)) 12 (a 11)) (sw2 aa 13 14)) [0, 1, 2, 3, 4, 5, 6, 7, 8, 9, 10, 11, 12, 13, 14, 15, 16, 17, 18, 19, 20, 21, 22, 23, 24, 25, 26, 27, 28, 29, 30, 31, 32, 33, 34, 35, 36, 37, 38, 48, 49, 50, 51, 52, 53, 54, 55, 56, 39, 40, 41, 42, 43, 44, 45, 46, 47, 57, 58, 59, 60, 61, 62, 63, 64] rfl
      have hD := hD.sub (ws' := (fun a aa => WX11 T h a a aa u z5 z4.1 unw ukp utr uro ugi urd uch urk upa uwl z4.2 uva uto usw) (pfa (pfa a 11 (a 12)) 12 (a 11)) (sw2 aa 13 14)) [0, 1, 2, 3, 4, 5, 6, 7, 8, 9, 10, 11, 12, 13, 14, 15, 16, 17, 18, 19, 20, 21, 22, 23, 24, 25, 26, 27, 28, 29, 30, 31, 32, 33, 34, 35, 36, 37, 38, 48, 49, 50, 51, 52, 53, 54, 55, 56, 39, 40, 41, 42, 43, 44, 45, 46, 47, 57, 58, 59, 60, 61, 62, 63, 64] (by decide) rfl
      exact retMe hx hb hr hlocks hS rfl ⟨pfa (pfa a 11 (a 12)) 12 (a 11), sw2 aa 13 14, hP, hD⟩ dX11_law_86
    replace hf := ifn c7 hf
    refine lv_aload_n hx hb dX11_law_53 rfl (lv_at hl 0 rfl) ?_
    refine va_get (D := D) (ci := 11) (v := .ref (a 1)) (C := RX11) (T := TX11) (N := 16) hx hb hts hinX11 hown hK.1 hP 0 rfl rfl 1 (by decide) (hts (.fieldLink RX11 21 "RopeScale" "cursor" "LRopeScale$Cursor;") (List.mem_of_getElem? (i := 2) rfl)) (fun _ h9 => h9) rfl dX11_law_54 ?_
    refine va_get (D := D) (ci := 1) (v := .int (z4.1 4 0)) (C := RX1) (T := TX1) (N := 5) hx hb hts hinX1 hown hK.1 hP 3 rfl rfl 4 (by decide) (hts (.fieldLink RX11 152 "RopeScale$Cursor" "fault" "I") (List.mem_of_getElem? (i := 5) rfl)) (fun _ h9 => h9) rfl dX11_law_57 ?_
    have e9 := Option.some.inj hf
    subst e9
    exact retMe hx hb hr hlocks hS rfl ⟨a, aa, hP, hD⟩ dX11_law_60
  replace hf := ifp c2 hf
  refine lv_iconst (v := (-1)) hx hb dX11_law_15 (by decide) ?_
  have e9 := Option.some.inj hf
  subst e9
  exact retMe hx hb hr hlocks hS rfl ⟨a, aa, hP, hD⟩ dX11_law_16
set_option maxHeartbeats 4000000 in
set_option maxRecDepth 100000 in
theorem mX11_orders (l : Launch) (D : va_G) (T : Ty3) (aa : Nat → Nat → Nat) (h : Nat) (a : Nat → Nat) (u : St) (utp : St) (ucu : St) (unw : St) (ukp : St) (utr : St) (uro : St) (ugi : St) (urd : St) (uch : St) (urk : St) (upa : St) (uwl : Nat → Int64) (uva : St) (usl : St) (uto : St) (usw : St) (sz : Nat) (p1 : Int32) (res : Int32 × St × St × St × St) (hf : fX11_orders utp ucu unw ugi p1 = some res) : Met l yX11_orders wsX11_orders ({ frames := 6, cells := 0, slots := 0, locals := 138 }) (PcM D T (WX11 T h a a aa u utp ucu unw ukp utr uro ugi urd uch urk upa uwl uva usl uto usw) sz [.ref h, .int p1]) (QM D (WX11 T h a a aa u utp ucu unw ukp utr uro ugi urd uch urk upa uwl uva usl uto usw) sz res.1 (WX11 T h a a aa u res.2.1 res.2.2.1 res.2.2.2.1 ukp utr uro res.2.2.2.2 urd uch urk upa uwl uva usl uto usw)) 0 0 (va_A (WX11 T h a a aa u utp ucu unw ukp utr uro ugi urd uch urk upa uwl uva usl uto usw) sz) := by
  refine Met.ofW (cc := cX11_orders) (maxL := 2) (ret := (some .int)) (by decide) rfl ?_
  intro p e s m args below meth c s₁ B hml hv
  obtain ⟨rfl, hsz, hP, hK, hD0⟩ := hv
  have hx := B.exec
  have hb := B.bytes
  have hr := B.returns
  have hts := atoms_spec (ws := wsX11_orders) B.pre
  have hown : s.vm.findClass RX11 = some m.cls := findClass_of_methodNamed B.named
  have hlocks := B.notSynchronized
  subst hsz
  have hD := hD0.self (sz := s.heap.size)
  have hA : ∀ q : Nat, s.heap.size ≤ q → va_A (WX11 T h a a aa u utp ucu unw ukp utr uro ugi urd uch urk upa uwl uva usl uto usw) s.heap.size q := fun q h => Or.inr h
  have hS : va_S (va_A (WX11 T h a a aa u utp ucu unw ukp utr uro ugi urd uch urk upa uwl uva usl uto usw) s.heap.size) s.heap s.heap [] := va_S.rf
  have hinX11 : ∀ w ∈ u_ws RX11 TX11 16, w ∈ wsX11_orders := fun w h => List.mem_cons_of_mem _ (List.mem_append_left _ (List.mem_append_left _ (List.mem_append_left _ (List.mem_append_left _ (List.mem_append_right _ h)))))
  have hinX9 : ∀ w ∈ u_ws RX9 TX9 8, w ∈ wsX11_orders := fun w h => List.mem_cons_of_mem _ (List.mem_append_left _ (List.mem_append_left _ (List.mem_append_left _ (List.mem_append_right _ h))))
  have hinX1 : ∀ w ∈ u_ws RX1 TX1 5, w ∈ wsX11_orders := fun w h => List.mem_cons_of_mem _ (List.mem_append_left _ (List.mem_append_left _ (List.mem_append_right _ h)))
  have hinX4 : ∀ w ∈ u_ws RX4 TX4 4, w ∈ wsX11_orders := fun w h => List.mem_cons_of_mem _ (List.mem_append_left _ (List.mem_append_right _ h))
  have hinX8 : ∀ w ∈ u_ws RX8 TX8 2, w ∈ wsX11_orders := fun w h => List.mem_cons_of_mem _ (List.mem_append_right _ h)
  have hl := lv_entry ([.ref h, .int p1]) (n := 2) (Nat.le_of_ble_eq_true rfl)
  rw [lg_entry_eq]
  generalize (lg_sl ([.ref h, .int p1]) ++ List.replicate (2 - (lg_sl ([.ref h, .int p1])).length) Slot.unset).toArray = ls at hl ⊢
  have hl : lv_has ls 2 [(0, .ref h), (1, .int p1)] := hl
  unfold fX11_orders at hf
  refine lv_aload_n hx hb dX11_orders_0 rfl (lv_at hl 0 rfl) ?_
  refine va_get (D := D) (ci := 11) (v := .ref (a 0)) (C := RX11) (T := TX11) (N := 16) hx hb hts hinX11 hown hK.1 hP 0 rfl rfl 0 (by decide) (hts (.fieldLink RX11 10 "RopeScale" "tape" "LRopeScale$Tape;") (List.mem_of_getElem? (i := 1) rfl)) (fun _ h9 => h9) rfl dX11_orders_1 ?_
  refine lv_iload_n hx hb dX11_orders_4 rfl (lv_at hl 1 rfl) ?_
  refine lv_iconst (v := 1) hx hb dX11_orders_5 (by decide) ?_
  refine lv_bipush (v := 120) hx hb dX11_orders_6 (by decide) ?_
  obtain ⟨z1, hz1, hf⟩ := lett_e hf
  refine cVR (As := [.int p1, .int 1, .int 120]) (rest := []) ⟨hx, hb, hml, hown, hts⟩ (mX8_offers l D T (a 0) (aa 1) utp p1 1 120 z1 hz1.symm) (cwV 3 hts gX11_orders_X8_offers rfl rfl rfl (by decide +kernel) ⟨Nat.le_of_ble_eq_true rfl, Nat.le_of_ble_eq_true rfl⟩) (va_recv hK.1 hP (ci := 8) (q0 := 1) rfl rfl) (hP.sub (ws' := kX8 T (a 0) (aa 1) utp) [1, 2] rfl) hK rfl hl.1 rfl (Nat.le_of_ble_eq_true rfl) dX11_orders_8 ⟨Nat.le_of_ble_eq_true rfl, Nat.le_of_ble_eq_true rfl⟩ hP hS (fun H locs hP hS => ?_)
  refine lv_if_ne (tgt := 16) hx hb dX11_orders_11 (by decide) (fun c2 => ?_) (fun c2 => ?_)
  · replace hf := ifn c2 hf
    refine lv_aload_n hx hb dX11_orders_16 rfl (lv_at hl 0 rfl) ?_
    refine va_get (D := D) (ci := 11) (v := .ref (a 1)) (C := RX11) (T := TX11) (N := 16) hx hb hts hinX11 hown hK.1 hP 0 rfl rfl 1 (by decide) (hts (.fieldLink RX11 21 "RopeScale" "cursor" "LRopeScale$Cursor;") (List.mem_of_getElem? (i := 2) rfl)) (fun _ h9 => h9) rfl dX11_orders_17 ?_
    refine lv_iload_n hx hb dX11_orders_20 rfl (lv_at hl 1 rfl) ?_
    obtain ⟨z3, hz3, hf⟩ := bnd hf
    have hPc := hP.sub (ws' := kX1 T (a 1) (fun _ => a 0) ucu ++ kX8 T (a 0) (aa 1) utp) [3, 1, 2] rfl
    have hDc := hD.sub (ws' := kX1 T (a 1) (fun _ => a 0) ucu ++ kX8 T (a 0) (aa 1) utp) [3, 1, 2] (by decide) rfl
    have hFc9 := va_free (wc := kX1 T (a 1) (fun _ => a 0) ucu ++ kX8 T (a 0) (aa 1) utp) hD hS hA [3, 1, 2] rfl
    refine cVMv (As := [.int p1]) (rest := []) ⟨hx, hb, hml, hown, hts⟩ (mX1_start l D T (a 1) (fun _ => a 0) ucu (aa 1) utp _ p1 z3 hz3) (cwV 1 hts gX11_orders_X1_start rfl rfl rfl (by decide +kernel) ⟨Nat.le_of_ble_eq_true rfl, Nat.le_of_ble_eq_true rfl⟩) (va_recv hK.1 hP (ci := 1) (q0 := 3) rfl rfl) hPc hK rfl hl.1 rfl (Nat.le_of_ble_eq_true rfl) dX11_orders_21 ⟨Nat.le_of_ble_eq_true rfl, Nat.le_of_ble_eq_true rfl⟩ hDc hFc9 hS (fun H9 locs hP1 hD1 hk1 hS => ?_)
    obtain ⟨hP, hD⟩ := putAll_P (w1 := kX1 T (a 1) (fun _ => a 0) z3 ++ kX8 T (a 0) (aa 1) utp) hP hD [3, 1, 2] rfl (by decide) hk1 hP1 rfl
    generalize H9 = H at hP hS ⊢
    have hP : va_P D vwCl (WX11 T h a a aa u utp z3 unw ukp utr uro ugi urd uch urk upa uwl uva usl uto usw) H := by exact hP
    have hD : va_D (va_A (WX11 T h a a aa u utp ucu unw ukp utr uro ugi urd uch urk upa uwl uva usl uto usw) s.heap.size) (WX11 T h a a aa u utp z3 unw ukp utr uro ugi urd uch urk upa uwl uva usl uto usw) := by exact hD
    refine lv_aload_n hx hb dX11_orders_24 rfl (lv_at hl 0 rfl) ?_
    refine va_get (D := D) (ci := 11) (v := .ref (a 6)) (C := RX11) (T := TX11) (N := 16) hx hb hts hinX11 hown hK.1 hP 0 rfl rfl 6 (by decide) (hts (.fieldLink RX11 48 "RopeScale" "given" "LRopeScale$Orders;") (List.mem_of_getElem? (i := 3) rfl)) (fun _ h9 => h9) rfl dX11_orders_25 ?_
    refine lv_aload_n hx hb dX11_orders_28 rfl (lv_at hl 0 rfl) ?_
    refine va_get (D := D) (ci := 11) (v := .ref (a 1)) (C := RX11) (T := TX11) (N := 16) hx hb hts hinX11 hown hK.1 hP 0 rfl rfl 1 (by decide) (hts (.fieldLink RX11 21 "RopeScale" "cursor" "LRopeScale$Cursor;") (List.mem_of_getElem? (i := 2) rfl)) (fun _ h9 => h9) rfl dX11_orders_29 ?_
    refine lv_aload_n hx hb dX11_orders_32 rfl (lv_at hl 0 rfl) ?_
    refine va_get (D := D) (ci := 11) (v := .ref (a 2)) (C := RX11) (T := TX11) (N := 16) hx hb hts hinX11 hown hK.1 hP 0 rfl rfl 2 (by decide) (hts (.fieldLink RX11 28 "RopeScale" "now" "LRopeScale$Walk;") (List.mem_of_getElem? (i := 4) rfl)) (fun _ h9 => h9) rfl dX11_orders_33 ?_
    refine va_get (D := D) (ci := 9) (v := .int (unw 4 0)) (C := RX9) (T := TX9) (N := 8) hx hb hts hinX9 hown hK.1 hP 4 rfl rfl 4 (by decide) (hts (.fieldLink RX11 158 "RopeScale$Walk" "told" "I") (List.mem_of_getElem? (i := 5) rfl)) (fun _ h9 => h9) rfl dX11_orders_36 ?_
    obtain ⟨z4, hz4, hf⟩ := bnd hf
    have hPc := hP.sub (ws' := kX4 T (a 6) (aa 7) ugi ++ kX1 T (a 1) (fun _ => a 0) z3 ++ kX8 T (a 0) (aa 1) utp) [20, 21, 22, 23, 3, 1, 2] rfl
    have hDc := hD.sub (ws' := kX4 T (a 6) (aa 7) ugi ++ kX1 T (a 1) (fun _ => a 0) z3 ++ kX8 T (a 0) (aa 1) utp) [20, 21, 22, 23, 3, 1, 2] (by decide) rfl
    have hFc9 := va_free (wc := kX4 T (a 6) (aa 7) ugi ++ kX1 T (a 1) (fun _ => a 0) z3 ++ kX8 T (a 0) (aa 1) utp) hD hS hA [20, 21, 22, 23, 3, 1, 2] rfl
    refine cVMv (As := [.ref (a 1), .int (unw 4 0)]) (rest := []) ⟨hx, hb, hml, hown, hts⟩ (mX4_read l D T (a 6) (aa 7) ugi (a 1) (fun _ => a 0) z3 (aa 1) utp _ (unw 4 0) z4 hz4) (cwV 2 hts gX11_orders_X4_read rfl rfl rfl (by decide +kernel) ⟨Nat.le_of_ble_eq_true rfl, Nat.le_of_ble_eq_true rfl⟩) (va_recv hK.1 hP (ci := 4) (q0 := 20) rfl rfl) hPc hK rfl hl.1 rfl (Nat.le_of_ble_eq_true rfl) dX11_orders_39 ⟨Nat.le_of_ble_eq_true rfl, Nat.le_of_ble_eq_true rfl⟩ hDc hFc9 hS (fun H9 locs hP1 hD1 hk1 hS => ?_)
    obtain ⟨hP, hD⟩ := putAll_P (w1 := kX4 T (a 6) (aa 7) z4.1 ++ kX1 T (a 1) (fun _ => a 0) z4.2 ++ kX8 T (a 0) (aa 1) utp) hP hD [20, 21, 22, 23, 3, 1, 2] rfl (by decide) hk1 hP1 rfl
    generalize H9 = H at hP hS ⊢
    have hP : va_P D vwCl (WX11 T h a a aa u utp z4.2 unw ukp utr uro z4.1 urd uch urk upa uwl uva usl uto usw) H := by exact hP
    have hD : va_D (va_A (WX11 T h a a aa u utp ucu unw ukp utr uro ugi urd uch urk upa uwl uva usl uto usw) s.heap.size) (WX11 T h a a aa u utp z4.2 unw ukp utr uro z4.1 urd uch urk upa uwl uva usl uto usw) := by exact hD
    refine lv_aload_n hx hb dX11_orders_42 rfl (lv_at hl 0 rfl) ?_
    refine va_get (D := D) (ci := 11) (v := .ref (a 0)) (C := RX11) (T := TX11) (N := 16) hx hb hts hinX11 hown hK.1 hP 0 rfl rfl 0 (by decide) (hts (.fieldLink RX11 10 "RopeScale" "tape" "LRopeScale$Tape;") (List.mem_of_getElem? (i := 1) rfl)) (fun _ h9 => h9) rfl dX11_orders_43 ?_
    obtain ⟨z5, hz5, hf⟩ := lett_e hf
    have hPc := hP.sub (ws' := kX8 T (a 0) (aa 1) utp) [1, 2] rfl
    have hDc := hD.sub (ws' := kX8 T (a 0) (aa 1) utp) [1, 2] (by decide) rfl
    have hFc9 := va_free (wc := kX8 T (a 0) (aa 1) utp) hD hS hA [1, 2] rfl
    refine cVMv (As := []) (rest := []) ⟨hx, hb, hml, hown, hts⟩ (mX8_clear l D T (a 0) (aa 1) utp _ z5 hz5.symm) (cwV 0 hts gX11_orders_X8_clear rfl rfl rfl (by decide +kernel) ⟨Nat.le_of_ble_eq_true rfl, Nat.le_of_ble_eq_true rfl⟩) (va_recv hK.1 hP (ci := 8) (q0 := 1) rfl rfl) hPc hK rfl hl.1 rfl (Nat.le_of_ble_eq_true rfl) dX11_orders_46 ⟨Nat.le_of_ble_eq_true rfl, Nat.le_of_ble_eq_true rfl⟩ hDc hFc9 hS (fun H9 locs hP1 hD1 hk1 hS => ?_)
    obtain ⟨hP, hD⟩ := putAll_P (w1 := kX8 T (a 0) (aa 1) z5) hP hD [1, 2] rfl (by decide) hk1 hP1 rfl
    generalize H9 = H at hP hS ⊢
    have hP : va_P D vwCl (WX11 T h a a aa u z5 z4.2 unw ukp utr uro z4.1 urd uch urk upa uwl uva usl uto usw) H := by exact hP
    have hD : va_D (va_A (WX11 T h a a aa u utp ucu unw ukp utr uro ugi urd uch urk upa uwl uva usl uto usw) s.heap.size) (WX11 T h a a aa u z5 z4.2 unw ukp utr uro z4.1 urd uch urk upa uwl uva usl uto usw) := by exact hD
    refine lv_aload_n hx hb dX11_orders_49 rfl (lv_at hl 0 rfl) ?_
    refine va_get (D := D) (ci := 11) (v := .ref (a 1)) (C := RX11) (T := TX11) (N := 16) hx hb hts hinX11 hown hK.1 hP 0 rfl rfl 1 (by decide) (hts (.fieldLink RX11 21 "RopeScale" "cursor" "LRopeScale$Cursor;") (List.mem_of_getElem? (i := 2) rfl)) (fun _ h9 => h9) rfl dX11_orders_50 ?_
    obtain ⟨z6, hz6, hf⟩ := lett_e hf
    refine cVR (As := []) (rest := []) ⟨hx, hb, hml, hown, hts⟩ (mX1_isFaulty l D T (a 1) (fun _ => a 0) z4.2 z6 hz6.symm) (cwV 0 hts gX11_orders_X1_isFaulty rfl rfl rfl (by decide +kernel) ⟨Nat.le_of_ble_eq_true rfl, Nat.le_of_ble_eq_true rfl⟩) (va_recv hK.1 hP (ci := 1) (q0 := 3) rfl rfl) (hP.sub (ws' := kX1 T (a 1) (fun _ => a 0) z4.2) [3] rfl) hK rfl hl.1 rfl (Nat.le_of_ble_eq_true rfl) dX11_orders_53 ⟨Nat.le_of_ble_eq_true rfl, Nat.le_of_ble_eq_true rfl⟩ hP hS (fun H locs hP hS => ?_)
    refine lv_if_eq (tgt := 67) hx hb dX11_orders_56 (by decide) (fun c7 => ?_) (fun c7 => ?_)
    · replace hf := ifp c7 hf
      refine lv_aload_n hx hb dX11_orders_67 rfl (lv_at hl 0 rfl) ?_
      refine va_get (D := D) (ci := 11) (v := .ref (a 6)) (C := RX11) (T := TX11) (N := 16) hx hb hts hinX11 hown hK.1 hP 0 rfl rfl 6 (by decide) (hts (.fieldLink RX11 48 "RopeScale" "given" "LRopeScale$Orders;") (List.mem_of_getElem? (i := 3) rfl)) (fun _ h9 => h9) rfl dX11_orders_68 ?_
      refine lv_aload_n hx hb dX11_orders_71 rfl (lv_at hl 0 rfl) ?_
      refine va_get (D := D) (ci := 11) (v := .ref (a 2)) (C := RX11) (T := TX11) (N := 16) hx hb hts hinX11 hown hK.1 hP 0 rfl rfl 2 (by decide) (hts (.fieldLink RX11 28 "RopeScale" "now" "LRopeScale$Walk;") (List.mem_of_getElem? (i := 4) rfl)) (fun _ h9 => h9) rfl dX11_orders_72 ?_
      obtain ⟨z8, hz8, hf⟩ := bnd hf
      have hPc := hP.sub (ws' := kX4 T (a 6) (aa 7) z4.1 ++ kX9 T (a 2) (aa 3) unw) [20, 21, 22, 23, 4, 5, 6, 7, 8] rfl
      have hDc := hD.sub (ws' := kX4 T (a 6) (aa 7) z4.1 ++ kX9 T (a 2) (aa 3) unw) [20, 21, 22, 23, 4, 5, 6, 7, 8] (by decide) rfl
      have hFc9 := va_free (wc := kX4 T (a 6) (aa 7) z4.1 ++ kX9 T (a 2) (aa 3) unw) hD hS hA [20, 21, 22, 23, 4, 5, 6, 7, 8] rfl
      refine cVMv (As := [.ref (a 2)]) (rest := []) ⟨hx, hb, hml, hown, hts⟩ (mX4_carryOut l D T (a 6) (aa 7) z4.1 (a 2) (aa 3) unw _ z8 hz8) (cwV 1 hts gX11_orders_X4_carryOut rfl rfl rfl (by decide +kernel) ⟨Nat.le_of_ble_eq_true rfl, Nat.le_of_ble_eq_true rfl⟩) (va_recv hK.1 hP (ci := 4) (q0 := 20) rfl rfl) hPc hK rfl hl.1 rfl (Nat.le_of_ble_eq_true rfl) dX11_orders_75 ⟨Nat.le_of_ble_eq_true rfl, Nat.le_of_ble_eq_true rfl⟩ hDc hFc9 hS (fun H9 locs hP1 hD1 hk1 hS => ?_)
      obtain ⟨hP, hD⟩ := putAll_P (w1 := kX4 T (a 6) (aa 7) z4.1 ++ kX9 T (a 2) (aa 3) z8) hP hD [20, 21, 22, 23, 4, 5, 6, 7, 8] rfl (by decide) hk1 hP1 rfl
      generalize H9 = H at hP hS ⊢
      have hP : va_P D vwCl (WX11 T h a a aa u z5 z4.2 z8 ukp utr uro z4.1 urd uch urk upa uwl uva usl uto usw) H := by exact hP
      have hD : va_D (va_A (WX11 T h a a aa u utp ucu unw ukp utr uro ugi urd uch urk upa uwl uva usl uto usw) s.heap.size) (WX11 T h a a aa u z5 z4.2 z8 ukp utr uro z4.1 urd uch urk upa uwl uva usl uto usw) := by exact hD
      refine lv_aload_n hx hb dX11_orders_78 rfl (lv_at hl 0 rfl) ?_
      refine va_get (D := D) (ci := 11) (v := .ref (a 6)) (C := RX11) (T := TX11) (N := 16) hx hb hts hinX11 hown hK.1 hP 0 rfl rfl 6 (by decide) (hts (.fieldLink RX11 48 "RopeScale" "given" "LRopeScale$Orders;") (List.mem_of_getElem? (i := 3) rfl)) (fun _ h9 => h9) rfl dX11_orders_79 ?_
      refine va_get (D := D) (ci := 4) (v := .int (z4.1 3 0)) (C := RX4) (T := TX4) (N := 4) hx hb hts hinX4 hown hK.1 hP 20 rfl rfl 3 (by decide) (hts (.fieldLink RX11 167 "RopeScale$Orders" "lines" "I") (List.mem_of_getElem? (i := 7) rfl)) (fun _ h9 => h9) rfl dX11_orders_82 ?_
      have e9 := Option.some.inj hf
      exact retM hx hb hr hlocks hP hD hS (congrArg (fun z => z.1) e9) (congrArg (fun z => (WX11 T h a a aa u z.2.1 z.2.2.1 z.2.2.2.1 ukp utr uro z.2.2.2.2 urd uch urk upa uwl uva usl uto usw : va_W)) e9) dX11_orders_85
    replace hf := ifn c7 hf
    refine lv_aload_n hx hb dX11_orders_59 rfl (lv_at hl 0 rfl) ?_
    refine va_get (D := D) (ci := 11) (v := .ref (a 1)) (C := RX11) (T := TX11) (N := 16) hx hb hts hinX11 hown hK.1 hP 0 rfl rfl 1 (by decide) (hts (.fieldLink RX11 21 "RopeScale" "cursor" "LRopeScale$Cursor;") (List.mem_of_getElem? (i := 2) rfl)) (fun _ h9 => h9) rfl dX11_orders_60 ?_
    refine va_get (D := D) (ci := 1) (v := .int (z4.2 4 0)) (C := RX1) (T := TX1) (N := 5) hx hb hts hinX1 hown hK.1 hP 3 rfl rfl 4 (by decide) (hts (.fieldLink RX11 152 "RopeScale$Cursor" "fault" "I") (List.mem_of_getElem? (i := 6) rfl)) (fun _ h9 => h9) rfl dX11_orders_63 ?_
    have e9 := Option.some.inj hf
    exact retM hx hb hr hlocks hP hD hS (congrArg (fun z => z.1) e9) (congrArg (fun z => (WX11 T h a a aa u z.2.1 z.2.2.1 z.2.2.2.1 ukp utr uro z.2.2.2.2 urd uch urk upa uwl uva usl uto usw : va_W)) e9) dX11_orders_66
  replace hf := ifp c2 hf
  refine lv_iconst (v := (-1)) hx hb dX11_orders_14 (by decide) ?_
  have e9 := Option.some.inj hf
  exact retM hx hb hr hlocks hP hD hS (congrArg (fun z => z.1) e9) (congrArg (fun z => (WX11 T h a a aa u z.2.1 z.2.2.1 z.2.2.2.1 ukp utr uro z.2.2.2.2 urd uch urk upa uwl uva usl uto usw : va_W)) e9) dX11_orders_15
set_option maxHeartbeats 4000000 in
set_option maxRecDepth 100000 in
theorem mX11_weighings (l : Launch) (D : va_G) (T : Ty3) (aa : Nat → Nat → Nat) (h : Nat) (a : Nat → Nat) (u : St) (utp : St) (ucu : St) (unw : St) (ukp : St) (utr : St) (uro : St) (ugi : St) (urd : St) (uch : St) (urk : St) (upa : St) (uwl : Nat → Int64) (uva : St) (usl : St) (uto : St) (usw : St) (sz : Nat) (p1 : Int32) (res : Int32 × St × St × St × St) (hf : fX11_weighings utp ucu uto usw p1 = some res) : Met l yX11_weighings wsX11_weighings ({ frames := 6, cells := 0, slots := 0, locals := 131 }) (PcM D T (WX11 T h a a aa u utp ucu unw ukp utr uro ugi urd uch urk upa uwl uva usl uto usw) sz [.ref h, .int p1]) (QMe D (WX11 T h a a aa u utp ucu unw ukp utr uro ugi urd uch urk upa uwl uva usl uto usw) sz res.1 (fun a aa => WX11 T h a a aa u res.2.1 res.2.2.1 unw ukp utr uro ugi urd uch urk upa uwl uva usl res.2.2.2.1 res.2.2.2.2)) 0 0 (va_A (WX11 T h a a aa u utp ucu unw ukp utr uro ugi urd uch urk upa uwl uva usl uto usw) sz) := by
  refine Met.ofW (cc := cX11_weighings) (maxL := 3) (ret := (some .int)) (by decide) rfl ?_
  intro p e s m args below meth c s₁ B hml hv
  obtain ⟨rfl, hsz, hP, hK, hD0⟩ := hv
  have hx := B.exec
  have hb := B.bytes
  have hr := B.returns
  have hts := atoms_spec (ws := wsX11_weighings) B.pre
  have hown : s.vm.findClass RX11 = some m.cls := findClass_of_methodNamed B.named
  have hlocks := B.notSynchronized
  subst hsz
  have hD := hD0.self (sz := s.heap.size)
  have hA : ∀ q : Nat, s.heap.size ≤ q → va_A (WX11 T h a a aa u utp ucu unw ukp utr uro ugi urd uch urk upa uwl uva usl uto usw) s.heap.size q := fun q h => Or.inr h
  have hS : va_S (va_A (WX11 T h a a aa u utp ucu unw ukp utr uro ugi urd uch urk upa uwl uva usl uto usw) s.heap.size) s.heap s.heap [] := va_S.rf
  have hinX11 : ∀ w ∈ u_ws RX11 TX11 16, w ∈ wsX11_weighings := fun w h => List.mem_cons_of_mem _ (List.mem_append_left _ (List.mem_append_left _ (List.mem_append_left _ (List.mem_append_right _ h))))
  have hinX1 : ∀ w ∈ u_ws RX1 TX1 5, w ∈ wsX11_weighings := fun w h => List.mem_cons_of_mem _ (List.mem_append_left _ (List.mem_append_left _ (List.mem_append_right _ h)))
  have hinX10 : ∀ w ∈ u_ws RX10 TX10 4, w ∈ wsX11_weighings := fun w h => List.mem_cons_of_mem _ (List.mem_append_left _ (List.mem_append_right _ h))
  have hinX8 : ∀ w ∈ u_ws RX8 TX8 2, w ∈ wsX11_weighings := fun w h => List.mem_cons_of_mem _ (List.mem_append_right _ h)
  have hl := lv_entry ([.ref h, .int p1]) (n := 3) (Nat.le_of_ble_eq_true rfl)
  rw [lg_entry_eq]
  generalize (lg_sl ([.ref h, .int p1]) ++ List.replicate (3 - (lg_sl ([.ref h, .int p1])).length) Slot.unset).toArray = ls at hl ⊢
  have hl : lv_has ls 3 [(0, .ref h), (1, .int p1)] := hl
  unfold fX11_weighings at hf
  refine lv_aload_n hx hb dX11_weighings_0 rfl (lv_at hl 0 rfl) ?_
  refine va_get (D := D) (ci := 11) (v := .ref (a 0)) (C := RX11) (T := TX11) (N := 16) hx hb hts hinX11 hown hK.1 hP 0 rfl rfl 0 (by decide) (hts (.fieldLink RX11 10 "RopeScale" "tape" "LRopeScale$Tape;") (List.mem_of_getElem? (i := 1) rfl)) (fun _ h9 => h9) rfl dX11_weighings_1 ?_
  refine lv_iload_n hx hb dX11_weighings_4 rfl (lv_at hl 1 rfl) ?_
  refine lv_iconst (v := 1) hx hb dX11_weighings_5 (by decide) ?_
  refine lv_bipush (v := 120) hx hb dX11_weighings_6 (by decide) ?_
  obtain ⟨z1, hz1, hf⟩ := lett_e hf
  refine cVR (As := [.int p1, .int 1, .int 120]) (rest := []) ⟨hx, hb, hml, hown, hts⟩ (mX8_offers l D T (a 0) (aa 1) utp p1 1 120 z1 hz1.symm) (cwV 3 hts gX11_weighings_X8_offers rfl rfl rfl (by decide +kernel) ⟨Nat.le_of_ble_eq_true rfl, Nat.le_of_ble_eq_true rfl⟩) (va_recv hK.1 hP (ci := 8) (q0 := 1) rfl rfl) (hP.sub (ws' := kX8 T (a 0) (aa 1) utp) [1, 2] rfl) hK rfl hl.1 rfl (Nat.le_of_ble_eq_true rfl) dX11_weighings_8 ⟨Nat.le_of_ble_eq_true rfl, Nat.le_of_ble_eq_true rfl⟩ hP hS (fun H locs hP hS => ?_)
  refine lv_if_ne (tgt := 16) hx hb dX11_weighings_11 (by decide) (fun c2 => ?_) (fun c2 => ?_)
  · replace hf := ifn c2 hf
    refine lv_aload_n hx hb dX11_weighings_16 rfl (lv_at hl 0 rfl) ?_
    refine va_get (D := D) (ci := 11) (v := .ref (a 1)) (C := RX11) (T := TX11) (N := 16) hx hb hts hinX11 hown hK.1 hP 0 rfl rfl 1 (by decide) (hts (.fieldLink RX11 21 "RopeScale" "cursor" "LRopeScale$Cursor;") (List.mem_of_getElem? (i := 2) rfl)) (fun _ h9 => h9) rfl dX11_weighings_17 ?_
    refine lv_iload_n hx hb dX11_weighings_20 rfl (lv_at hl 1 rfl) ?_
    obtain ⟨z3, hz3, hf⟩ := bnd hf
    have hPc := hP.sub (ws' := kX1 T (a 1) (fun _ => a 0) ucu ++ kX8 T (a 0) (aa 1) utp) [3, 1, 2] rfl
    have hDc := hD.sub (ws' := kX1 T (a 1) (fun _ => a 0) ucu ++ kX8 T (a 0) (aa 1) utp) [3, 1, 2] (by decide) rfl
    have hFc9 := va_free (wc := kX1 T (a 1) (fun _ => a 0) ucu ++ kX8 T (a 0) (aa 1) utp) hD hS hA [3, 1, 2] rfl
    refine cVMv (As := [.int p1]) (rest := []) ⟨hx, hb, hml, hown, hts⟩ (mX1_start l D T (a 1) (fun _ => a 0) ucu (aa 1) utp _ p1 z3 hz3) (cwV 1 hts gX11_weighings_X1_start rfl rfl rfl (by decide +kernel) ⟨Nat.le_of_ble_eq_true rfl, Nat.le_of_ble_eq_true rfl⟩) (va_recv hK.1 hP (ci := 1) (q0 := 3) rfl rfl) hPc hK rfl hl.1 rfl (Nat.le_of_ble_eq_true rfl) dX11_weighings_21 ⟨Nat.le_of_ble_eq_true rfl, Nat.le_of_ble_eq_true rfl⟩ hDc hFc9 hS (fun H9 locs hP1 hD1 hk1 hS => ?_)
    obtain ⟨hP, hD⟩ := putAll_P (w1 := kX1 T (a 1) (fun _ => a 0) z3 ++ kX8 T (a 0) (aa 1) utp) hP hD [3, 1, 2] rfl (by decide) hk1 hP1 rfl
    generalize H9 = H at hP hS ⊢
    have hP : va_P D vwCl (WX11 T h a a aa u utp z3 unw ukp utr uro ugi urd uch urk upa uwl uva usl uto usw) H := by exact hP
    have hD : va_D (va_A (WX11 T h a a aa u utp ucu unw ukp utr uro ugi urd uch urk upa uwl uva usl uto usw) s.heap.size) (WX11 T h a a aa u utp z3 unw ukp utr uro ugi urd uch urk upa uwl uva usl uto usw) := by exact hD
    refine lv_aload_n hx hb dX11_weighings_24 rfl (lv_at hl 0 rfl) ?_
    refine va_get (D := D) (ci := 11) (v := .ref (a 14)) (C := RX11) (T := TX11) (N := 16) hx hb hts hinX11 hown hK.1 hP 0 rfl rfl 14 (by decide) (hts (.fieldLink RX11 99 "RopeScale" "spareWeighings" "LRopeScale$Weighings;") (List.mem_of_getElem? (i := 3) rfl)) (fun _ h9 => h9) rfl dX11_weighings_25 ?_
    refine lv_aload_n hx hb dX11_weighings_28 rfl (lv_at hl 0 rfl) ?_
    refine va_get (D := D) (ci := 11) (v := .ref (a 1)) (C := RX11) (T := TX11) (N := 16) hx hb hts hinX11 hown hK.1 hP 0 rfl rfl 1 (by decide) (hts (.fieldLink RX11 21 "RopeScale" "cursor" "LRopeScale$Cursor;") (List.mem_of_getElem? (i := 2) rfl)) (fun _ h9 => h9) rfl dX11_weighings_29 ?_
    obtain ⟨z4, hz4, hf⟩ := bnd hf
    have hPc := hP.sub (ws' := kX10 T (a 14) (aa 16) usw ++ kX1 T (a 1) (fun _ => a 0) z3 ++ kX8 T (a 0) (aa 1) utp) [61, 62, 63, 64, 3, 1, 2] rfl
    have hDc := hD.sub (ws' := kX10 T (a 14) (aa 16) usw ++ kX1 T (a 1) (fun _ => a 0) z3 ++ kX8 T (a 0) (aa 1) utp) [61, 62, 63, 64, 3, 1, 2] (by decide) rfl
    have hFc9 := va_free (wc := kX10 T (a 14) (aa 16) usw ++ kX1 T (a 1) (fun _ => a 0) z3 ++ kX8 T (a 0) (aa 1) utp) hD hS hA [61, 62, 63, 64, 3, 1, 2] rfl
    refine cVMv (As := [.ref (a 1)]) (rest := []) ⟨hx, hb, hml, hown, hts⟩ (mX10_read l D T (a 14) (aa 16) usw (a 1) (fun _ => a 0) z3 (aa 1) utp _ z4 hz4) (cwV 1 hts gX11_weighings_X10_read rfl rfl rfl (by decide +kernel) ⟨Nat.le_of_ble_eq_true rfl, Nat.le_of_ble_eq_true rfl⟩) (va_recv hK.1 hP (ci := 10) (q0 := 61) rfl rfl) hPc hK rfl hl.1 rfl (Nat.le_of_ble_eq_true rfl) dX11_weighings_32 ⟨Nat.le_of_ble_eq_true rfl, Nat.le_of_ble_eq_true rfl⟩ hDc hFc9 hS (fun H9 locs hP1 hD1 hk1 hS => ?_)
    obtain ⟨hP, hD⟩ := putAll_P (w1 := kX10 T (a 14) (aa 16) z4.1 ++ kX1 T (a 1) (fun _ => a 0) z4.2 ++ kX8 T (a 0) (aa 1) utp) hP hD [61, 62, 63, 64, 3, 1, 2] rfl (by decide) hk1 hP1 rfl
    generalize H9 = H at hP hS ⊢
    have hP : va_P D vwCl (WX11 T h a a aa u utp z4.2 unw ukp utr uro ugi urd uch urk upa uwl uva usl uto z4.1) H := by exact hP
    have hD : va_D (va_A (WX11 T h a a aa u utp ucu unw ukp utr uro ugi urd uch urk upa uwl uva usl uto usw) s.heap.size) (WX11 T h a a aa u utp z4.2 unw ukp utr uro ugi urd uch urk upa uwl uva usl uto z4.1) := by exact hD
    refine lv_aload_n hx hb dX11_weighings_35 rfl (lv_at hl 0 rfl) ?_
    refine va_get (D := D) (ci := 11) (v := .ref (a 0)) (C := RX11) (T := TX11) (N := 16) hx hb hts hinX11 hown hK.1 hP 0 rfl rfl 0 (by decide) (hts (.fieldLink RX11 10 "RopeScale" "tape" "LRopeScale$Tape;") (List.mem_of_getElem? (i := 1) rfl)) (fun _ h9 => h9) rfl dX11_weighings_36 ?_
    obtain ⟨z5, hz5, hf⟩ := lett_e hf
    have hPc := hP.sub (ws' := kX8 T (a 0) (aa 1) utp) [1, 2] rfl
    have hDc := hD.sub (ws' := kX8 T (a 0) (aa 1) utp) [1, 2] (by decide) rfl
    have hFc9 := va_free (wc := kX8 T (a 0) (aa 1) utp) hD hS hA [1, 2] rfl
    refine cVMv (As := []) (rest := []) ⟨hx, hb, hml, hown, hts⟩ (mX8_clear l D T (a 0) (aa 1) utp _ z5 hz5.symm) (cwV 0 hts gX11_weighings_X8_clear rfl rfl rfl (by decide +kernel) ⟨Nat.le_of_ble_eq_true rfl, Nat.le_of_ble_eq_true rfl⟩) (va_recv hK.1 hP (ci := 8) (q0 := 1) rfl rfl) hPc hK rfl hl.1 rfl (Nat.le_of_ble_eq_true rfl) dX11_weighings_39 ⟨Nat.le_of_ble_eq_true rfl, Nat.le_of_ble_eq_true rfl⟩ hDc hFc9 hS (fun H9 locs hP1 hD1 hk1 hS => ?_)
    obtain ⟨hP, hD⟩ := putAll_P (w1 := kX8 T (a 0) (aa 1) z5) hP hD [1, 2] rfl (by decide) hk1 hP1 rfl
    generalize H9 = H at hP hS ⊢
    have hP : va_P D vwCl (WX11 T h a a aa u z5 z4.2 unw ukp utr uro ugi urd uch urk upa uwl uva usl uto z4.1) H := by exact hP
    have hD : va_D (va_A (WX11 T h a a aa u utp ucu unw ukp utr uro ugi urd uch urk upa uwl uva usl uto usw) s.heap.size) (WX11 T h a a aa u z5 z4.2 unw ukp utr uro ugi urd uch urk upa uwl uva usl uto z4.1) := by exact hD
    refine lv_aload_n hx hb dX11_weighings_42 rfl (lv_at hl 0 rfl) ?_
    refine va_get (D := D) (ci := 11) (v := .ref (a 1)) (C := RX11) (T := TX11) (N := 16) hx hb hts hinX11 hown hK.1 hP 0 rfl rfl 1 (by decide) (hts (.fieldLink RX11 21 "RopeScale" "cursor" "LRopeScale$Cursor;") (List.mem_of_getElem? (i := 2) rfl)) (fun _ h9 => h9) rfl dX11_weighings_43 ?_
    obtain ⟨z6, hz6, hf⟩ := lett_e hf
    refine cVR (As := []) (rest := []) ⟨hx, hb, hml, hown, hts⟩ (mX1_isFaulty l D T (a 1) (fun _ => a 0) z4.2 z6 hz6.symm) (cwV 0 hts gX11_weighings_X1_isFaulty rfl rfl rfl (by decide +kernel) ⟨Nat.le_of_ble_eq_true rfl, Nat.le_of_ble_eq_true rfl⟩) (va_recv hK.1 hP (ci := 1) (q0 := 3) rfl rfl) (hP.sub (ws' := kX1 T (a 1) (fun _ => a 0) z4.2) [3] rfl) hK rfl hl.1 rfl (Nat.le_of_ble_eq_true rfl) dX11_weighings_46 ⟨Nat.le_of_ble_eq_true rfl, Nat.le_of_ble_eq_true rfl⟩ hP hS (fun H locs hP hS => ?_)
    refine lv_if_eq (tgt := 60) hx hb dX11_weighings_49 (by decide) (fun c7 => ?_) (fun c7 => ?_)
    · replace hf := ifp c7 hf
      refine lv_aload_n hx hb dX11_weighings_60 rfl (lv_at hl 0 rfl) ?_
      refine va_get (D := D) (ci := 11) (v := .ref (a 13)) (C := RX11) (T := TX11) (N := 16) hx hb hts hinX11 hown hK.1 hP 0 rfl rfl 13 (by decide) (hts (.fieldLink RX11 95 "RopeScale" "told" "LRopeScale$Weighings;") (List.mem_of_getElem? (i := 5) rfl)) (fun _ h9 => h9) rfl dX11_weighings_61 ?_
      refine lv_astore_n (lv' := [(2, .ref (a 13)), (0, .ref h), (1, .int p1)]) hx hb dX11_weighings_64 rfl hl (by decide) rfl (fun ls hl => ?_)
      refine lv_aload_n hx hb dX11_weighings_65 rfl (lv_at hl 1 rfl) ?_
      refine lv_aload_n hx hb dX11_weighings_66 rfl (lv_at hl 1 rfl) ?_
      refine va_get (D := D) (ci := 11) (v := .ref (a 14)) (C := RX11) (T := TX11) (N := 16) hx hb hts hinX11 hown hK.1 hP 0 rfl rfl 14 (by decide) (hts (.fieldLink RX11 99 "RopeScale" "spareWeighings" "LRopeScale$Weighings;") (List.mem_of_getElem? (i := 3) rfl)) (fun _ h9 => h9) rfl dX11_weighings_67 ?_
      refine va_put (D := D) (ci := 11) (v := .ref (a 14)) (ty := .object "RopeScale$Weighings") (C := RX11) (T := TX11) (N := 16) hx hb hts hinX11 tyX11 tyX11_ok nmX11 hown hK.1 hP hD hS 0 rfl rfl 13 (by decide) (hts (.fieldLink RX11 95 "RopeScale" "told" "LRopeScale$Weighings;") (List.mem_of_getElem? (i := 5) rfl)) (fun _ h9 => h9) rfl (tyX11_ok 13 (by decide)) rfl rfl (Nat.le_of_ble_eq_true rfl) dX11_weighings_70 (fun H locs hP hD hS => ?_)
      have hP : va_P D vwCl (WX11 T h (pfa a 13 (a 14)) a aa u z5 z4.2 unw ukp utr uro ugi urd uch urk upa uwl uva usl uto z4.1) H := hP
      have hD : va_D (va_A (WX11 T h a a aa u utp ucu unw ukp utr uro ugi urd uch urk upa uwl uva usl uto usw) s.heap.size) (WX11 T h (pfa a 13 (a 14)) a aa u z5 z4.2 unw ukp utr uro ugi urd uch urk upa uwl uva usl uto z4.1) := hD
      refine lv_aload_n hx hb dX11_weighings_73 rfl (lv_at hl 1 rfl) ?_
      refine lv_aload_n hx hb dX11_weighings_74 rfl (lv_at hl 0 rfl) ?_
      refine va_put (D := D) (ci := 11) (v := .ref (a 13)) (ty := .object "RopeScale$Weighings") (C := RX11) (T := TX11) (N := 16) hx hb hts hinX11 tyX11 tyX11_ok nmX11 hown hK.1 hP hD hS 0 rfl rfl 14 (by decide) (hts (.fieldLink RX11 99 "RopeScale" "spareWeighings" "LRopeScale$Weighings;") (List.mem_of_getElem? (i := 3) rfl)) (fun _ h9 => h9) rfl (tyX11_ok 14 (by decide)) rfl rfl (Nat.le_of_ble_eq_true rfl) dX11_weighings_75 (fun H locs hP hD hS => ?_)
      have hP : va_P D vwCl (WX11 T h (pfa (pfa a 13 (a 14)) 14 (a 13)) a aa u z5 z4.2 unw ukp utr uro ugi urd uch urk upa uwl uva usl uto z4.1) H := hP
      have hD : va_D (va_A (WX11 T h a a aa u utp ucu unw ukp utr uro ugi urd uch urk upa uwl uva usl uto usw) s.heap.size) (WX11 T h (pfa (pfa a 13 (a 14)) 14 (a 13)) a aa u z5 z4.2 unw ukp utr uro ugi urd uch urk upa uwl uva usl uto z4.1) := hD
      refine lv_aload_n hx hb dX11_weighings_78 rfl (lv_at hl 1 rfl) ?_
      refine va_get (D := D) (ci := 11) (v := .ref (a 14)) (C := RX11) (T := TX11) (N := 16) hx hb hts hinX11 hown hK.1 hP 0 rfl rfl 13 (by decide) (hts (.fieldLink RX11 95 "RopeScale" "told" "LRopeScale$Weighings;") (List.mem_of_getElem? (i := 5) rfl)) (fun _ h9 => h9) rfl dX11_weighings_79 ?_
      refine va_get (D := D) (ci := 10) (v := .int (z4.1 3 0)) (C := RX10) (T := TX10) (N := 4) hx hb hts hinX10 hown hK.1 hP 61 rfl rfl 3 (by decide) (hts (.fieldLink RX11 172 "RopeScale$Weighings" "lines" "I") (List.mem_of_getElem? (i := 6) rfl)) (fun _ h9 => h9) rfl dX11_weighings_82 ?_
      have e9 := Option.some.inj hf
      subst e9
      have hP := hP.sub (ws' := (fun a aa => WX11 T h a a aa u z5 z4.2 unw ukp utr uro ugi urd uch urk upa uwl uva usl z4.1 uto) (pfa (pfa a 13 (a 14)) 14 (a 13)) (sw2 aa 15 16)) [0, 1, 2, 3, 4, 5, 6, 7, 8, 9, 10, 11, 12, 13, 14, 15, 16, 17, 18, 19, 20, 21, 22, 23, 24, 25, 26, 27, 28, 29, 30, 31, 32, 33, 34, 35, 36, 37, 38, 39, 40, 41, 42, 43, 44, 45, 46, 47, 48, 49, 50, 51, 52, 53, 54, 55, 56, 61, 62, 63, 64, 57, 58, 59, 60] rfl
      have hD := hD.sub (ws' := (fun a aa => WX11 T h a a aa u z5 z4.2 unw ukp utr uro ugi urd uch urk upa uwl uva usl z4.1 uto) (pfa (pfa a 13 (a 14)) 14 (a 13)) (sw2 aa 15 16)) [0, 1, 2, 3, 4, 5, 6, 7, 8, 9, 10, 11, 12, 13, 14, 15, 16, 17, 18, 19, 20, 21, 22, 23, 24, 25, 26, 27, 28, 29, 30, 31, 32, 33, 34, 35, 36, 37, 38, 39, 40, 41, 42, 43, 44, 45, 46, 47, 48, 49, 50, 51, 52, 53, 54, 55, 56, 61, 62, 63, 64, 57, 58, 59, 60] (by decide) rfl
      exact retMe hx hb hr hlocks hS rfl ⟨pfa (pfa a 13 (a 14)) 14 (a 13), sw2 aa 15 16, hP, hD⟩ dX11_weighings_85
    replace hf := ifn c7 hf
    refine lv_aload_n hx hb dX11_weighings_52 rfl (lv_at hl 0 rfl) ?_
    refine va_get (D := D) (ci := 11) (v := .ref (a 1)) (C := RX11) (T := TX11) (N := 16) hx hb hts hinX11 hown hK.1 hP 0 rfl rfl 1 (by decide) (hts (.fieldLink RX11 21 "RopeScale" "cursor" "LRopeScale$Cursor;") (List.mem_of_getElem? (i := 2) rfl)) (fun _ h9 => h9) rfl dX11_weighings_53 ?_
    refine va_get (D := D) (ci := 1) (v := .int (z4.2 4 0)) (C := RX1) (T := TX1) (N := 5) hx hb hts hinX1 hown hK.1 hP 3 rfl rfl 4 (by decide) (hts (.fieldLink RX11 152 "RopeScale$Cursor" "fault" "I") (List.mem_of_getElem? (i := 4) rfl)) (fun _ h9 => h9) rfl dX11_weighings_56 ?_
    have e9 := Option.some.inj hf
    subst e9
    exact retMe hx hb hr hlocks hS rfl ⟨a, aa, hP, hD⟩ dX11_weighings_59
  replace hf := ifp c2 hf
  refine lv_iconst (v := (-1)) hx hb dX11_weighings_14 (by decide) ?_
  have e9 := Option.some.inj hf
  subst e9
  exact retMe hx hb hr hlocks hS rfl ⟨a, aa, hP, hD⟩ dX11_weighings_15
set_option maxHeartbeats 4000000 in
set_option maxRecDepth 100000 in
theorem mX11_hours (l : Launch) (D : va_G) (T : Ty3) (aa : Nat → Nat → Nat) (h : Nat) (a : Nat → Nat) (u : St) (utp : St) (ucu : St) (unw : St) (ukp : St) (utr : St) (uro : St) (ugi : St) (urd : St) (uch : St) (urk : St) (upa : St) (uwl : Nat → Int64) (uva : St) (usl : St) (uto : St) (usw : St) (sz : Nat) (p1 : Int32) (res : Int32 × St × St × St) (hf : fX11_hours unw uro uva p1 = some res) : Met l yX11_hours wsX11_hours ({ frames := 7, cells := 0, slots := 0, locals := 171 }) (PcM D T (WX11 T h a a aa u utp ucu unw ukp utr uro ugi urd uch urk upa uwl uva usl uto usw) sz [.ref h, .int p1]) (QM D (WX11 T h a a aa u utp ucu unw ukp utr uro ugi urd uch urk upa uwl uva usl uto usw) sz res.1 (WX11 T h a a aa u utp ucu res.2.1 ukp utr res.2.2.1 ugi urd uch urk upa uwl res.2.2.2 usl uto usw)) 0 0 (va_A (WX11 T h a a aa u utp ucu unw ukp utr uro ugi urd uch urk upa uwl uva usl uto usw) sz) := by
  refine Met.ofW (cc := cX11_hours) (maxL := 2) (ret := (some .int)) (by decide) rfl ?_
  intro p e s m args below meth c s₁ B hml hv
  obtain ⟨rfl, hsz, hP, hK, hD0⟩ := hv
  have hx := B.exec
  have hb := B.bytes
  have hr := B.returns
  have hts := atoms_spec (ws := wsX11_hours) B.pre
  have hown : s.vm.findClass RX11 = some m.cls := findClass_of_methodNamed B.named
  have hlocks := B.notSynchronized
  subst hsz
  have hD := hD0.self (sz := s.heap.size)
  have hA : ∀ q : Nat, s.heap.size ≤ q → va_A (WX11 T h a a aa u utp ucu unw ukp utr uro ugi urd uch urk upa uwl uva usl uto usw) s.heap.size q := fun q h => Or.inr h
  have hS : va_S (va_A (WX11 T h a a aa u utp ucu unw ukp utr uro ugi urd uch urk upa uwl uva usl uto usw) s.heap.size) s.heap s.heap [] := va_S.rf
  have hinX11 : ∀ w ∈ u_ws RX11 TX11 16, w ∈ wsX11_hours := fun w h => List.mem_cons_of_mem _ (List.mem_append_left _ (List.mem_append_left _ (List.mem_append_left _ (List.mem_append_right _ h))))
  have hinX7 : ∀ w ∈ u_ws RX7 TX7 6, w ∈ wsX11_hours := fun w h => List.mem_cons_of_mem _ (List.mem_append_left _ (List.mem_append_left _ (List.mem_append_right _ h)))
  have hinX9 : ∀ w ∈ u_ws RX9 TX9 8, w ∈ wsX11_hours := fun w h => List.mem_cons_of_mem _ (List.mem_append_left _ (List.mem_append_right _ h))
  have hinX2 : ∀ w ∈ u_ws RX2 TX2 10, w ∈ wsX11_hours := fun w h => List.mem_cons_of_mem _ (List.mem_append_right _ h)
  have hl := lv_entry ([.ref h, .int p1]) (n := 2) (Nat.le_of_ble_eq_true rfl)
  rw [lg_entry_eq]
  generalize (lg_sl ([.ref h, .int p1]) ++ List.replicate (2 - (lg_sl ([.ref h, .int p1])).length) Slot.unset).toArray = ls at hl ⊢
  have hl : lv_has ls 2 [(0, .ref h), (1, .int p1)] := hl
  unfold fX11_hours at hf
  refine lv_iload_n hx hb dX11_hours_0 rfl (lv_at hl 1 rfl) ?_
  refine lv_iconst (v := 1) hx hb dX11_hours_1 (by decide) ?_
  refine lv_sipush (v := 240) hx hb dX11_hours_2 (by decide) ?_
  obtain ⟨z1, hz1, hf⟩ := lett_e hf
  refine cSR (As := [.int p1, .int 1, .int 240]) (rest := []) ⟨hx, hb, hml, hown, hts⟩ (mX11_isWithin l D T p1 1 240 z1 hz1.symm) (va_cwS 3 hts gX11_hours_X11_isWithin rfl rfl rfl (by decide +kernel) ⟨Nat.le_of_ble_eq_true rfl, Nat.le_of_ble_eq_true rfl⟩) P0 hK rfl hl.1 rfl (Nat.le_of_ble_eq_true rfl) dX11_hours_5 ⟨Nat.le_of_ble_eq_true rfl, Nat.le_of_ble_eq_true rfl⟩ hP hS (fun H locs hP hS => ?_)
  refine lv_if_ne (tgt := 13) hx hb dX11_hours_8 (by decide) (fun c2 => ?_) (fun c2 => ?_)
  · replace hf := ifn c2 hf
    refine lv_aload_n hx hb dX11_hours_13 rfl (lv_at hl 0 rfl) ?_
    refine va_get (D := D) (ci := 11) (v := .ref (a 5)) (C := RX11) (T := TX11) (N := 16) hx hb hts hinX11 hown hK.1 hP 0 rfl rfl 5 (by decide) (hts (.fieldLink RX11 41 "RopeScale" "rope" "LRopeScale$Rope;") (List.mem_of_getElem? (i := 1) rfl)) (fun _ h9 => h9) rfl dX11_hours_14 ?_
    refine lv_aload_n hx hb dX11_hours_17 rfl (lv_at hl 0 rfl) ?_
    refine va_get (D := D) (ci := 11) (v := .ref (a 2)) (C := RX11) (T := TX11) (N := 16) hx hb hts hinX11 hown hK.1 hP 0 rfl rfl 2 (by decide) (hts (.fieldLink RX11 28 "RopeScale" "now" "LRopeScale$Walk;") (List.mem_of_getElem? (i := 2) rfl)) (fun _ h9 => h9) rfl dX11_hours_18 ?_
    refine lv_aload_n hx hb dX11_hours_21 rfl (lv_at hl 0 rfl) ?_
    refine va_get (D := D) (ci := 11) (v := .ref (a 11)) (C := RX11) (T := TX11) (N := 16) hx hb hts hinX11 hown hK.1 hP 0 rfl rfl 11 (by decide) (hts (.fieldLink RX11 85 "RopeScale" "valid" "LRopeScale$Law;") (List.mem_of_getElem? (i := 3) rfl)) (fun _ h9 => h9) rfl dX11_hours_22 ?_
    refine lv_iload_n hx hb dX11_hours_25 rfl (lv_at hl 1 rfl) ?_
    obtain ⟨z3, hz3, hf⟩ := bnd hf
    have hPc := hP.sub (ws' := kX7 T (a 5) (aa 6) uro ++ kX9 T (a 2) (aa 3) unw ++ kX2 T (a 11) (aa 13) uva) [19, 4, 5, 6, 7, 8, 39, 40, 41, 42, 43, 44, 45, 46, 47] rfl
    have hDc := hD.sub (ws' := kX7 T (a 5) (aa 6) uro ++ kX9 T (a 2) (aa 3) unw ++ kX2 T (a 11) (aa 13) uva) [19, 4, 5, 6, 7, 8, 39, 40, 41, 42, 43, 44, 45, 46, 47] (by decide) rfl
    have hFc9 := va_free (wc := kX7 T (a 5) (aa 6) uro ++ kX9 T (a 2) (aa 3) unw ++ kX2 T (a 11) (aa 13) uva) hD hS hA [19, 4, 5, 6, 7, 8, 39, 40, 41, 42, 43, 44, 45, 46, 47] rfl
    refine cVMv (As := [.ref (a 2), .ref (a 11), .int p1]) (rest := []) ⟨hx, hb, hml, hown, hts⟩ (mX7_pass l D T (a 5) (aa 6) uro (a 2) (aa 3) unw (a 11) (aa 13) uva _ p1 z3 hz3) (cwV 3 hts gX11_hours_X7_pass rfl rfl rfl (by decide +kernel) ⟨Nat.le_of_ble_eq_true rfl, Nat.le_of_ble_eq_true rfl⟩) (va_recv hK.1 hP (ci := 7) (q0 := 19) rfl rfl) hPc hK rfl hl.1 rfl (Nat.le_of_ble_eq_true rfl) dX11_hours_26 ⟨Nat.le_of_ble_eq_true rfl, Nat.le_of_ble_eq_true rfl⟩ hDc hFc9 hS (fun H9 locs hP1 hD1 hk1 hS => ?_)
    obtain ⟨hP, hD⟩ := putAll_P (w1 := kX7 T (a 5) (aa 6) z3.1 ++ kX9 T (a 2) (aa 3) z3.2.1 ++ kX2 T (a 11) (aa 13) z3.2.2) hP hD [19, 4, 5, 6, 7, 8, 39, 40, 41, 42, 43, 44, 45, 46, 47] rfl (by decide) hk1 hP1 rfl
    generalize H9 = H at hP hS ⊢
    have hP : va_P D vwCl (WX11 T h a a aa u utp ucu z3.2.1 ukp utr z3.1 ugi urd uch urk upa uwl z3.2.2 usl uto usw) H := by exact hP
    have hD : va_D (va_A (WX11 T h a a aa u utp ucu unw ukp utr uro ugi urd uch urk upa uwl uva usl uto usw) s.heap.size) (WX11 T h a a aa u utp ucu z3.2.1 ukp utr z3.1 ugi urd uch urk upa uwl z3.2.2 usl uto usw) := by exact hD
    refine lv_aload_n hx hb dX11_hours_29 rfl (lv_at hl 0 rfl) ?_
    refine va_get (D := D) (ci := 11) (v := .ref (a 5)) (C := RX11) (T := TX11) (N := 16) hx hb hts hinX11 hown hK.1 hP 0 rfl rfl 5 (by decide) (hts (.fieldLink RX11 41 "RopeScale" "rope" "LRopeScale$Rope;") (List.mem_of_getElem? (i := 1) rfl)) (fun _ h9 => h9) rfl dX11_hours_30 ?_
    refine va_get (D := D) (ci := 7) (v := .int (z3.1 2 0)) (C := RX7) (T := TX7) (N := 6) hx hb hts hinX7 hown hK.1 hP 19 rfl rfl 2 (by decide) (hts (.fieldLink RX11 177 "RopeScale$Rope" "gotOver" "I") (List.mem_of_getElem? (i := 4) rfl)) (fun _ h9 => h9) rfl dX11_hours_33 ?_
    have e9 := Option.some.inj hf
    exact retM hx hb hr hlocks hP hD hS (congrArg (fun z => z.1) e9) (congrArg (fun z => (WX11 T h a a aa u utp ucu z.2.1 ukp utr z.2.2.1 ugi urd uch urk upa uwl z.2.2.2 usl uto usw : va_W)) e9) dX11_hours_36
  replace hf := ifp c2 hf
  refine lv_iconst (v := (-1)) hx hb dX11_hours_11 (by decide) ?_
  have e9 := Option.some.inj hf
  exact retM hx hb hr hlocks hP hD hS (congrArg (fun z => z.1) e9) (congrArg (fun z => (WX11 T h a a aa u utp ucu z.2.1 ukp utr z.2.2.1 ugi urd uch urk upa uwl z.2.2.2 usl uto usw : va_W)) e9) dX11_hours_12
set_option maxHeartbeats 4000000 in
set_option maxRecDepth 100000 in
theorem mX11_canBeTried (l : Launch) (D : va_G) (T : Ty3) (aa : Nat → Nat → Nat) (h : Nat) (a : Nat → Nat) (u : St) (utp : St) (ucu : St) (unw : St) (ukp : St) (utr : St) (uro : St) (ugi : St) (urd : St) (uch : St) (urk : St) (upa : St) (uwl : Nat → Int64) (uva : St) (usl : St) (uto : St) (usw : St) (p1 : Int32) (res : Int32) (hf : fX11_canBeTried unw p1 = some res) : Met l yX11_canBeTried wsX11_canBeTried ({ frames := 3, cells := 0, slots := 0, locals := 63 }) (PcR D T (WX11 T h a a aa u utp ucu unw ukp utr uro ugi urd uch urk upa uwl uva usl uto usw) [.ref h, .int p1]) (QR res) 0 0 noA := by
  refine Met.ofW (cc := cX11_canBeTried) (maxL := 2) (ret := (some .boolean)) (by decide) rfl ?_
  intro p e s m args below meth c s₁ B hml hv
  obtain ⟨rfl, hP, hK⟩ := hv
  have hx := B.exec
  have hb := B.bytes
  have hr := B.returns
  have hts := atoms_spec (ws := wsX11_canBeTried) B.pre
  have hown : s.vm.findClass RX11 = some m.cls := findClass_of_methodNamed B.named
  have hlocks := B.notSynchronized
  have hS : va_S noA s.heap s.heap [] := va_S.rf
  have hinX11 : ∀ w ∈ u_ws RX11 TX11 16, w ∈ wsX11_canBeTried := fun w h => List.mem_cons_of_mem _ (List.mem_append_left _ (List.mem_append_right _ h))
  have hinX9 : ∀ w ∈ u_ws RX9 TX9 8, w ∈ wsX11_canBeTried := fun w h => List.mem_cons_of_mem _ (List.mem_append_right _ h)
  have hl := lv_entry ([.ref h, .int p1]) (n := 2) (Nat.le_of_ble_eq_true rfl)
  rw [lg_entry_eq]
  generalize (lg_sl ([.ref h, .int p1]) ++ List.replicate (2 - (lg_sl ([.ref h, .int p1])).length) Slot.unset).toArray = ls at hl ⊢
  have hl : lv_has ls 2 [(0, .ref h), (1, .int p1)] := hl
  unfold fX11_canBeTried at hf
  refine lv_iload_n hx hb dX11_canBeTried_0 rfl (lv_at hl 1 rfl) ?_
  refine lv_iconst (v := 0) hx hb dX11_canBeTried_1 (by decide) ?_
  refine lv_iconst (v := 4) hx hb dX11_canBeTried_2 (by decide) ?_
  obtain ⟨z1, hz1, hf⟩ := lett_e hf
  refine cSR (As := [.int p1, .int 0, .int 4]) (rest := []) ⟨hx, hb, hml, hown, hts⟩ (mX11_isWithin l D T p1 0 4 z1 hz1.symm) (va_cwS 3 hts gX11_canBeTried_X11_isWithin rfl rfl rfl (by decide +kernel) ⟨Nat.le_of_ble_eq_true rfl, Nat.le_of_ble_eq_true rfl⟩) P0 hK rfl hl.1 rfl (Nat.le_of_ble_eq_true rfl) dX11_canBeTried_3 ⟨Nat.le_of_ble_eq_true rfl, Nat.le_of_ble_eq_true rfl⟩ hP hS (fun H locs hP hS => ?_)
  refine lv_if_ne (tgt := 38) hx hb dX11_canBeTried_6 (by decide) (fun c2 => ?_) (fun c2 => ?_)
  · replace hf := ifn c2 hf
    refine lv_iconst (v := 1) hx hb dX11_canBeTried_38 (by decide) ?_
    refine lv_goto (tgt := 43) hx hb dX11_canBeTried_39 (by decide) ?_
    exact retRz hx hb hr hlocks hS rfl (Option.some.inj hf) dX11_canBeTried_43
  replace hf := ifp c2 hf
  refine lv_aload_n hx hb dX11_canBeTried_9 rfl (lv_at hl 0 rfl) ?_
  refine va_get (D := D) (ci := 11) (v := .ref (a 2)) (C := RX11) (T := TX11) (N := 16) hx hb hts hinX11 hown hK.1 hP 0 rfl rfl 2 (by decide) (hts (.fieldLink RX11 28 "RopeScale" "now" "LRopeScale$Walk;") (List.mem_of_getElem? (i := 1) rfl)) (fun _ h9 => h9) rfl dX11_canBeTried_10 ?_
  refine lv_iload_n hx hb dX11_canBeTried_13 rfl (lv_at hl 1 rfl) ?_
  refine lv_bipush (v := 100) hx hb dX11_canBeTried_14 (by decide) ?_
  refine lv_isub hx hb dX11_canBeTried_16 ?_
  obtain ⟨z3, hz3, hf⟩ := bnd hf
  refine cVR (As := [.int (p1 - 100)]) (rest := []) ⟨hx, hb, hml, hown, hts⟩ (mX9_knows l D T (a 2) (aa 3) unw (p1 - 100) z3 hz3) (cwV 1 hts gX11_canBeTried_X9_knows rfl rfl rfl (by decide +kernel) ⟨Nat.le_of_ble_eq_true rfl, Nat.le_of_ble_eq_true rfl⟩) (va_recv hK.1 hP (ci := 9) (q0 := 4) rfl rfl) (hP.sub (ws' := kX9 T (a 2) (aa 3) unw) [4, 5, 6, 7, 8] rfl) hK rfl hl.1 rfl (Nat.le_of_ble_eq_true rfl) dX11_canBeTried_17 ⟨Nat.le_of_ble_eq_true rfl, Nat.le_of_ble_eq_true rfl⟩ hP hS (fun H locs hP hS => ?_)
  refine lv_if_ne (tgt := 38) hx hb dX11_canBeTried_20 (by decide) (fun c4 => ?_) (fun c4 => ?_)
  · replace hf := ifn c4 hf
    refine lv_iconst (v := 1) hx hb dX11_canBeTried_38 (by decide) ?_
    refine lv_goto (tgt := 43) hx hb dX11_canBeTried_39 (by decide) ?_
    exact retRz hx hb hr hlocks hS rfl (Option.some.inj hf) dX11_canBeTried_43
  replace hf := ifp c4 hf
  refine lv_aload_n hx hb dX11_canBeTried_23 rfl (lv_at hl 0 rfl) ?_
  refine va_get (D := D) (ci := 11) (v := .ref (a 2)) (C := RX11) (T := TX11) (N := 16) hx hb hts hinX11 hown hK.1 hP 0 rfl rfl 2 (by decide) (hts (.fieldLink RX11 28 "RopeScale" "now" "LRopeScale$Walk;") (List.mem_of_getElem? (i := 1) rfl)) (fun _ h9 => h9) rfl dX11_canBeTried_24 ?_
  refine lv_iload_n hx hb dX11_canBeTried_27 rfl (lv_at hl 1 rfl) ?_
  refine lv_sipush (v := 200) hx hb dX11_canBeTried_28 (by decide) ?_
  refine lv_isub hx hb dX11_canBeTried_31 ?_
  obtain ⟨z5, hz5, hf⟩ := bnd hf
  refine cVR (As := [.int (p1 - 200)]) (rest := []) ⟨hx, hb, hml, hown, hts⟩ (mX9_knows l D T (a 2) (aa 3) unw (p1 - 200) z5 hz5) (cwV 1 hts gX11_canBeTried_X9_knows rfl rfl rfl (by decide +kernel) ⟨Nat.le_of_ble_eq_true rfl, Nat.le_of_ble_eq_true rfl⟩) (va_recv hK.1 hP (ci := 9) (q0 := 4) rfl rfl) (hP.sub (ws' := kX9 T (a 2) (aa 3) unw) [4, 5, 6, 7, 8] rfl) hK rfl hl.1 rfl (Nat.le_of_ble_eq_true rfl) dX11_canBeTried_32 ⟨Nat.le_of_ble_eq_true rfl, Nat.le_of_ble_eq_true rfl⟩ hP hS (fun H locs hP hS => ?_)
  refine lv_if_eq (tgt := 42) hx hb dX11_canBeTried_35 (by decide) (fun c6 => ?_) (fun c6 => ?_)
  · replace hf := ifp c6 hf
    refine lv_iconst (v := 0) hx hb dX11_canBeTried_42 (by decide) ?_
    exact retRz hx hb hr hlocks hS rfl (Option.some.inj hf) dX11_canBeTried_43
  replace hf := ifn c6 hf
  refine lv_iconst (v := 1) hx hb dX11_canBeTried_38 (by decide) ?_
  refine lv_goto (tgt := 43) hx hb dX11_canBeTried_39 (by decide) ?_
  exact retRz hx hb hr hlocks hS rfl (Option.some.inj hf) dX11_canBeTried_43
