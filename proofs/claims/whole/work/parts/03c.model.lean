def fX12_comesTo_J85  (lp16 : St → Int32 → Int32 → Int32 → Int32 → Option (Int32 × St)) (v : St) (x2 : Int32) (x3 : Int32) (x4 : Int32) (x5 : Int32) (y0 : Int32) (y1 : Int32) : Option (Int32 × St) := gd y1 260 <| lett (st v 27 (ix y1) y0) fun u1 => lett (x3 + 1) fun t2 => lp16 u1 x2 t2 x4 x5
def fX12_comesTo_J63  (lp16 : St → Int32 → Int32 → Int32 → Int32 → Option (Int32 × St)) (v : St) (x2 : Int32) (x3 : Int32) (x4 : Int32) (x5 : Int32) (x6 : Int32) (x7 : Int32) : Option (Int32 × St) := if x6 = 0 then fX12_comesTo_J85 lp16 v x2 x3 x4 x5 x7 x3 else gd x7 8 <| fX12_comesTo_J85 lp16 v x2 x3 x4 x5 (v 28 (ix x7)) x3
def fX12_comesTo_J155  (lp16 : St → Int32 → Int32 → Int32 → Int32 → Option (Int32 × St)) (v : St) (x2 : Int32) (x3 : Int32) (x4 : Int32) (x5 : Int32) (x7 : Int32) (y0 : Int32) (y1 : Int32) : Option (Int32 × St) := if y1 = y0 then lett (x4 + x7) fun t8 => lp16 v x2 x3 x4 t8 else lett (x3 - 1) fun t7 => lp16 v x2 t7 x4 x5
def fX12_comesTo_J135  (lp16 : St → Int32 → Int32 → Int32 → Int32 → Option (Int32 × St)) (v : St) (x2 : Int32) (x3 : Int32) (x4 : Int32) (x5 : Int32) (x6 : Int32) (x7 : Int32) : Option (Int32 × St) := gd (x3 - 1) 260 <| if x6 = 12 then fX12_comesTo_J155 lp16 v x2 x3 x4 x5 x7 1 (v 27 (ix (x3 - 1))) else fX12_comesTo_J155 lp16 v x2 x3 x4 x5 x7 0 (v 27 (ix (x3 - 1)))
def fX12_comesTo_J203  (lp16 : St → Int32 → Int32 → Int32 → Int32 → Option (Int32 × St)) (v : St) (x2 : Int32) (x3 : Int32) (x4 : Int32) (x5 : Int32) (x6 : Int32) : Option (Int32 × St) := gd (x3 - 1) 260 <| gd x3 260 <| (fX12_reckon x6 (v 27 (ix (x3 - 1))) (v 27 (ix x3))).bind fun z11 => gd (x3 - 1) 260 <| lett (st v 27 (ix (x3 - 1)) z11) fun u12 => lp16 u12 x2 x3 x4 x5
def fX12_comesTo_J192  (lp16 : St → Int32 → Int32 → Int32 → Int32 → Option (Int32 × St)) (v : St) (x2 : Int32) (x3 : Int32) (x4 : Int32) (x5 : Int32) (x6 : Int32) : Option (Int32 × St) := gd x3 260 <| if (v 27 (ix x3)) = 0 then some (0, v) else fX12_comesTo_J203 lp16 v x2 x3 x4 x5 x6
def bX12_comesTo_L16   (lp16 : St → Int32 → Int32 → Int32 → Int32 → Option (Int32 × St)) (v : St) (x2 : Int32) (x3 : Int32) (x4 : Int32) (x5 : Int32) : Option (Int32 × St) := if x2 ≤ x5 then gd 0 260 <| some (v 27 (ix 0), v) else gd x5 260 <| lett ((v 22 (ix x5)) / 1048576) fun t20 => gd x5 260 <| lett (jrem (v 22 (ix x5)) 1048576) fun t21 => lett (x5 + 1) fun t22 => if t20 = 0 then fX12_comesTo_J63 lp16 v x2 x3 x4 t22 t20 t21 else if t20 = 1 then fX12_comesTo_J63 lp16 v x2 x3 x4 t22 t20 t21 else if t20 = 10 then gd (x3 - 1) 260 <| gd (x3 - 1) 260 <| lett (st v 27 (ix (x3 - 1)) (1 - (v 27 (ix (x3 - 1))))) fun u31 => lp16 u31 x2 x3 x4 t22 else if t20 = 11 then fX12_comesTo_J135 lp16 v x2 x3 x4 t22 t20 t21 else if t20 = 12 then fX12_comesTo_J135 lp16 v x2 x3 x4 t22 t20 t21 else lett (x3 - 1) fun t28 => if t20 = 5 then fX12_comesTo_J192 lp16 v x2 t28 x4 t22 t20 else if t20 = 6 then fX12_comesTo_J192 lp16 v x2 t28 x4 t22 t20 else fX12_comesTo_J203 lp16 v x2 t28 x4 t22 t20
def fX12_comesTo_L16   : Nat → St → Int32 → Int32 → Int32 → Int32 → Option (Int32 × St)
  | 0, _, _, _, _, _ => none
  | n + 1, v, x2, x3, x4, x5 => bX12_comesTo_L16  (fX12_comesTo_L16  n) v x2 x3 x4 x5
def fX12_comesTo  (u : St) (p1 : Int32) (p2 : Int32) : Option (Int32 × St) := lett (260 * (p1 / 260)) fun t36 => fX12_comesTo_L16 FU u p2 0 t36 p1
set_option maxHeartbeats 4000000 in
set_option maxRecDepth 100000 in
theorem mX12_comesTo (l : Launch) (D : va_G) (T : Ty3) (h : Nat) (a : Nat → Nat) (u : St) (sz : Nat) (p1 : Int32) (p2 : Int32) (res : Int32 × St) (hf : fX12_comesTo u p1 p2 = some res) : Met l yX12_comesTo wsX12_comesTo ({ frames := 1, cells := 0, slots := 0, locals := 22 }) (PcM D T (kX12 T h a u) sz [.ref h, .int p1, .int p2]) (QM D (kX12 T h a u) sz res.1 (kX12 T h a res.2)) 0 0 (va_A (kX12 T h a u) sz) := by
  refine Met.ofW (cc := cX12_comesTo) (maxL := 8) (ret := (some .int)) (by decide) rfl ?_
  intro p e s m args below meth c s₁ B hml hv
  obtain ⟨rfl, hsz, hP, hK, hD0⟩ := hv
  have hx := B.exec
  have hb := B.bytes
  have hr := B.returns
  have hts := atoms_spec (ws := wsX12_comesTo) B.pre
  have hown : s.vm.findClass RX12 = some m.cls := findClass_of_methodNamed B.named
  have hlocks := B.notSynchronized
  subst hsz
  have hD := hD0.self (sz := s.heap.size)
  have hA : ∀ q : Nat, s.heap.size ≤ q → va_A (kX12 T h a u) s.heap.size q := fun q h => Or.inr h
  have hS : va_S (va_A (kX12 T h a u) s.heap.size) s.heap s.heap [] := va_S.rf
  have hinX12 : ∀ w ∈ u_ws RX12 TX12 52, w ∈ wsX12_comesTo := fun w h => List.mem_cons_of_mem _ (List.mem_append_right _ h)
  have hl := lv_entry ([.ref h, .int p1, .int p2]) (n := 8) (Nat.le_of_ble_eq_true rfl)
  rw [lg_entry_eq]
  generalize (lg_sl ([.ref h, .int p1, .int p2]) ++ List.replicate (8 - (lg_sl ([.ref h, .int p1, .int p2])).length) Slot.unset).toArray = ls at hl ⊢
  have hl : lv_has ls 8 [(0, .ref h), (1, .int p1), (2, .int p2)] := hl
  have L16 : ∀ (n16 : Nat), ∀ (v : St) (x2 : Int32) (x3 : Int32) (x4 : Int32) (x5 : Int32) (H : Heap) (locs : List Loc) (ls : Array Slot), fX12_comesTo_L16  n16 v x2 x3 x4 x5 = some res → va_P D vwCl (kX12 T h a v) H → va_D (va_A (kX12 T h a u) s.heap.size) (kX12 T h a v) → va_S (va_A (kX12 T h a u) s.heap.size) s.heap H locs → lv_has ls 8 [(0, .ref h), (2, .int x2), (3, .int x3), (4, .int x4), (5, .int x5)] → W p l e (headSpec wsX12_comesTo ({ frames := 1, cells := 0, slots := 0, locals := 22 })).room s m ([.ref h, .int p1, .int p2] : List Value).toArray below meth c H locs 0 0 (MQ below (QM D (kX12 T h a u) s.heap.size res.1 (kX12 T h a res.2)) ([.ref h, .int p1, .int p2] : List Value).toArray s 0 0 (va_A (kX12 T h a u) s.heap.size)) (F0 m 16 ls []) := by
    intro n16
    induction n16 with
    | zero => intro v x2 x3 x4 x5 H locs ls hf; exact nns hf
    | succ n16 ih16 =>
      have J85 : ∀ (v : St) (x2 : Int32) (x3 : Int32) (x4 : Int32) (x5 : Int32) (y0 : Int32) (y1 : Int32) (H : Heap) (locs : List Loc) (ls : Array Slot), fX12_comesTo_J85 (fX12_comesTo_L16  n16) v x2 x3 x4 x5 y0 y1 = some res → va_P D vwCl (kX12 T h a v) H → va_D (va_A (kX12 T h a u) s.heap.size) (kX12 T h a v) → va_S (va_A (kX12 T h a u) s.heap.size) s.heap H locs → lv_has ls 8 [(0, .ref h), (2, .int x2), (3, .int x3), (4, .int x4), (5, .int x5)] → W p l e (headSpec wsX12_comesTo ({ frames := 1, cells := 0, slots := 0, locals := 22 })).room s m ([.ref h, .int p1, .int p2] : List Value).toArray below meth c H locs 0 0 (MQ below (QM D (kX12 T h a u) s.heap.size res.1 (kX12 T h a res.2)) ([.ref h, .int p1, .int p2] : List Value).toArray s 0 0 (va_A (kX12 T h a u) s.heap.size)) (F0 m 85 ls [.int y0, .int y1, .ref (a 27)]) := by
        intro v x2 x3 x4 x5 y0 y1 H locs ls hf hP hD hS hl
        unfold fX12_comesTo_J85 at hf
        obtain ⟨h3, hf⟩ := gd_e hf
        obtain ⟨u1, eu1, hf⟩ := lett_e hf
        refine va_iast hx hb hK.1 hP hD hS 16 0 rfl rfl h3 dX12_comesTo_85 (fun H locs hP hD hS => ?_)
        have hP : va_P D vwCl (kX12 T h a u1) H := by rw [eu1]; exact hP
        have hD : va_D (va_A (kX12 T h a u) s.heap.size) (kX12 T h a u1) := by rw [eu1]; exact hD
        refine lv_iload_n hx hb dX12_comesTo_86 rfl (lv_at hl 2 rfl) ?_
        refine lv_iconst (v := 1) hx hb dX12_comesTo_87 (by decide) ?_
        refine lv_iadd hx hb dX12_comesTo_88 ?_
        obtain ⟨t2, et2, hf⟩ := lett_e hf
        refine lv_eqi et2 ?_
        refine lv_istore_n (lv' := [(3, .int t2), (0, .ref h), (2, .int x2), (4, .int x4), (5, .int x5)]) hx hb dX12_comesTo_89 rfl hl (by decide) rfl (fun ls hl => ?_)
        refine lv_goto (tgt := 230) hx hb dX12_comesTo_90 (by decide) ?_
        refine lv_goto (tgt := 16) hx hb dX12_comesTo_230 (by decide) ?_
        exact ih16 u1 x2 t2 x4 x5 _ _ _ hf hP hD hS (lv_sub hl [1, 2, 0, 3, 4] rfl)
      have J63 : ∀ (v : St) (x2 : Int32) (x3 : Int32) (x4 : Int32) (x5 : Int32) (x6 : Int32) (x7 : Int32) (H : Heap) (locs : List Loc) (ls : Array Slot), fX12_comesTo_J63 (fX12_comesTo_L16  n16) v x2 x3 x4 x5 x6 x7 = some res → va_P D vwCl (kX12 T h a v) H → va_D (va_A (kX12 T h a u) s.heap.size) (kX12 T h a v) → va_S (va_A (kX12 T h a u) s.heap.size) s.heap H locs → lv_has ls 8 [(0, .ref h), (2, .int x2), (3, .int x3), (4, .int x4), (5, .int x5), (6, .int x6), (7, .int x7)] → W p l e (headSpec wsX12_comesTo ({ frames := 1, cells := 0, slots := 0, locals := 22 })).room s m ([.ref h, .int p1, .int p2] : List Value).toArray below meth c H locs 0 0 (MQ below (QM D (kX12 T h a u) s.heap.size res.1 (kX12 T h a res.2)) ([.ref h, .int p1, .int p2] : List Value).toArray s 0 0 (va_A (kX12 T h a u) s.heap.size)) (F0 m 63 ls []) := by
        intro v x2 x3 x4 x5 x6 x7 H locs ls hf hP hD hS hl
        unfold fX12_comesTo_J63 at hf
        refine lv_aload_n hx hb dX12_comesTo_63 rfl (lv_at hl 0 rfl) ?_
        refine va_get (D := D) (ci := 12) (v := .ref (a 27)) (C := RX12) (T := TX12) (N := 52) hx hb hts hinX12 hown hK.1 hP 0 rfl rfl 27 (by decide) (hts (.fieldLink RX12 56 "RopeScaleModel" "stack" "[I") (List.mem_of_getElem? (i := 3) rfl)) (fun _ h9 => h9) rfl dX12_comesTo_64 ?_
        refine lv_iload_n hx hb dX12_comesTo_67 rfl (lv_at hl 2 rfl) ?_
        refine lv_iload hx hb dX12_comesTo_68 (lv_at hl 5 rfl) ?_
        refine lv_if_ne (tgt := 78) hx hb dX12_comesTo_70 (by decide) (fun c4 => ?_) (fun c4 => ?_)
        · replace hf := ifn c4 hf
          refine lv_aload_n hx hb dX12_comesTo_78 rfl (lv_at hl 0 rfl) ?_
          refine va_get (D := D) (ci := 12) (v := .ref (a 28)) (C := RX12) (T := TX12) (N := 52) hx hb hts hinX12 hown hK.1 hP 0 rfl rfl 28 (by decide) (hts (.fieldLink RX12 59 "RopeScaleModel" "facts" "[I") (List.mem_of_getElem? (i := 4) rfl)) (fun _ h9 => h9) rfl dX12_comesTo_79 ?_
          refine lv_iload hx hb dX12_comesTo_82 (lv_at hl 6 rfl) ?_
          obtain ⟨h5, hf⟩ := gd_e hf
          refine va_iald hx hb hK.1 hP 17 0 rfl rfl h5 dX12_comesTo_84 ?_
          exact J85 v x2 x3 x4 x5 (v 28 (ix x7)) x3 _ _ _ hf hP hD hS (lv_sub hl [0, 1, 2, 3, 4] rfl)
        replace hf := ifp c4 hf
        refine lv_iload hx hb dX12_comesTo_73 (lv_at hl 6 rfl) ?_
        refine lv_goto (tgt := 85) hx hb dX12_comesTo_75 (by decide) ?_
        exact J85 v x2 x3 x4 x5 x7 x3 _ _ _ hf hP hD hS (lv_sub hl [0, 1, 2, 3, 4] rfl)
      have J155 : ∀ (v : St) (x2 : Int32) (x3 : Int32) (x4 : Int32) (x5 : Int32) (x7 : Int32) (y0 : Int32) (y1 : Int32) (H : Heap) (locs : List Loc) (ls : Array Slot), fX12_comesTo_J155 (fX12_comesTo_L16  n16) v x2 x3 x4 x5 x7 y0 y1 = some res → va_P D vwCl (kX12 T h a v) H → va_D (va_A (kX12 T h a u) s.heap.size) (kX12 T h a v) → va_S (va_A (kX12 T h a u) s.heap.size) s.heap H locs → lv_has ls 8 [(0, .ref h), (2, .int x2), (3, .int x3), (4, .int x4), (5, .int x5), (7, .int x7)] → W p l e (headSpec wsX12_comesTo ({ frames := 1, cells := 0, slots := 0, locals := 22 })).room s m ([.ref h, .int p1, .int p2] : List Value).toArray below meth c H locs 0 0 (MQ below (QM D (kX12 T h a u) s.heap.size res.1 (kX12 T h a res.2)) ([.ref h, .int p1, .int p2] : List Value).toArray s 0 0 (va_A (kX12 T h a u) s.heap.size)) (F0 m 155 ls [.int y0, .int y1]) := by
        intro v x2 x3 x4 x5 x7 y0 y1 H locs ls hf hP hD hS hl
        unfold fX12_comesTo_J155 at hf
        refine lv_icmp_ne (tgt := 168) hx hb dX12_comesTo_155 (by decide) (fun c6 => ?_) (fun c6 => ?_)
        · replace hf := ifn c6 hf
          refine lv_iload_n hx hb dX12_comesTo_168 rfl (lv_at hl 2 rfl) ?_
          refine lv_iconst (v := 1) hx hb dX12_comesTo_169 (by decide) ?_
          refine lv_isub hx hb dX12_comesTo_170 ?_
          obtain ⟨t7, et7, hf⟩ := lett_e hf
          refine lv_eqi et7 ?_
          refine lv_istore_n (lv' := [(3, .int t7), (0, .ref h), (2, .int x2), (4, .int x4), (5, .int x5), (7, .int x7)]) hx hb dX12_comesTo_171 rfl hl (by decide) rfl (fun ls hl => ?_)
          refine lv_goto (tgt := 230) hx hb dX12_comesTo_172 (by decide) ?_
          refine lv_goto (tgt := 16) hx hb dX12_comesTo_230 (by decide) ?_
          exact ih16 v x2 t7 x4 x5 _ _ _ hf hP hD hS (lv_sub hl [1, 2, 0, 3, 4] rfl)
        replace hf := ifp c6 hf
        refine lv_iload hx hb dX12_comesTo_158 (lv_at hl 3 rfl) ?_
        refine lv_iload hx hb dX12_comesTo_160 (lv_at hl 5 rfl) ?_
        refine lv_iadd hx hb dX12_comesTo_162 ?_
        obtain ⟨t8, et8, hf⟩ := lett_e hf
        refine lv_eqi et8 ?_
        refine lv_istore (lv' := [(5, .int t8), (0, .ref h), (2, .int x2), (3, .int x3), (4, .int x4), (7, .int x7)]) hx hb dX12_comesTo_163 hl (by decide) rfl (fun ls hl => ?_)
        refine lv_goto (tgt := 230) hx hb dX12_comesTo_165 (by decide) ?_
        refine lv_goto (tgt := 16) hx hb dX12_comesTo_230 (by decide) ?_
        exact ih16 v x2 x3 x4 t8 _ _ _ hf hP hD hS (lv_sub hl [1, 2, 3, 4, 0] rfl)
      have J135 : ∀ (v : St) (x2 : Int32) (x3 : Int32) (x4 : Int32) (x5 : Int32) (x6 : Int32) (x7 : Int32) (H : Heap) (locs : List Loc) (ls : Array Slot), fX12_comesTo_J135 (fX12_comesTo_L16  n16) v x2 x3 x4 x5 x6 x7 = some res → va_P D vwCl (kX12 T h a v) H → va_D (va_A (kX12 T h a u) s.heap.size) (kX12 T h a v) → va_S (va_A (kX12 T h a u) s.heap.size) s.heap H locs → lv_has ls 8 [(0, .ref h), (2, .int x2), (3, .int x3), (4, .int x4), (5, .int x5), (6, .int x6), (7, .int x7)] → W p l e (headSpec wsX12_comesTo ({ frames := 1, cells := 0, slots := 0, locals := 22 })).room s m ([.ref h, .int p1, .int p2] : List Value).toArray below meth c H locs 0 0 (MQ below (QM D (kX12 T h a u) s.heap.size res.1 (kX12 T h a res.2)) ([.ref h, .int p1, .int p2] : List Value).toArray s 0 0 (va_A (kX12 T h a u) s.heap.size)) (F0 m 135 ls []) := by
        intro v x2 x3 x4 x5 x6 x7 H locs ls hf hP hD hS hl
        unfold fX12_comesTo_J135 at hf
        refine lv_aload_n hx hb dX12_comesTo_135 rfl (lv_at hl 0 rfl) ?_
        refine va_get (D := D) (ci := 12) (v := .ref (a 27)) (C := RX12) (T := TX12) (N := 52) hx hb hts hinX12 hown hK.1 hP 0 rfl rfl 27 (by decide) (hts (.fieldLink RX12 56 "RopeScaleModel" "stack" "[I") (List.mem_of_getElem? (i := 3) rfl)) (fun _ h9 => h9) rfl dX12_comesTo_136 ?_
        refine lv_iload_n hx hb dX12_comesTo_139 rfl (lv_at hl 2 rfl) ?_
        refine lv_iconst (v := 1) hx hb dX12_comesTo_140 (by decide) ?_
        refine lv_isub hx hb dX12_comesTo_141 ?_
        obtain ⟨h10, hf⟩ := gd_e hf
        refine va_iald hx hb hK.1 hP 16 0 rfl rfl h10 dX12_comesTo_142 ?_
        refine lv_iload hx hb dX12_comesTo_143 (lv_at hl 5 rfl) ?_
        refine lv_bipush (v := 12) hx hb dX12_comesTo_145 (by decide) ?_
        refine lv_icmp_ne (tgt := 154) hx hb dX12_comesTo_147 (by decide) (fun c9 => ?_) (fun c9 => ?_)
        · replace hf := ifn c9 hf
          refine lv_iconst (v := 0) hx hb dX12_comesTo_154 (by decide) ?_
          exact J155 v x2 x3 x4 x5 x7 0 (v 27 (ix (x3 - 1))) _ _ _ hf hP hD hS (lv_sub hl [0, 1, 2, 3, 4, 6] rfl)
        replace hf := ifp c9 hf
        refine lv_iconst (v := 1) hx hb dX12_comesTo_150 (by decide) ?_
        refine lv_goto (tgt := 155) hx hb dX12_comesTo_151 (by decide) ?_
        exact J155 v x2 x3 x4 x5 x7 1 (v 27 (ix (x3 - 1))) _ _ _ hf hP hD hS (lv_sub hl [0, 1, 2, 3, 4, 6] rfl)
      have J203 : ∀ (v : St) (x2 : Int32) (x3 : Int32) (x4 : Int32) (x5 : Int32) (x6 : Int32) (H : Heap) (locs : List Loc) (ls : Array Slot), fX12_comesTo_J203 (fX12_comesTo_L16  n16) v x2 x3 x4 x5 x6 = some res → va_P D vwCl (kX12 T h a v) H → va_D (va_A (kX12 T h a u) s.heap.size) (kX12 T h a v) → va_S (va_A (kX12 T h a u) s.heap.size) s.heap H locs → lv_has ls 8 [(0, .ref h), (2, .int x2), (3, .int x3), (4, .int x4), (5, .int x5), (6, .int x6)] → W p l e (headSpec wsX12_comesTo ({ frames := 1, cells := 0, slots := 0, locals := 22 })).room s m ([.ref h, .int p1, .int p2] : List Value).toArray below meth c H locs 0 0 (MQ below (QM D (kX12 T h a u) s.heap.size res.1 (kX12 T h a res.2)) ([.ref h, .int p1, .int p2] : List Value).toArray s 0 0 (va_A (kX12 T h a u) s.heap.size)) (F0 m 203 ls []) := by
        intro v x2 x3 x4 x5 x6 H locs ls hf hP hD hS hl
        unfold fX12_comesTo_J203 at hf
        refine lv_aload_n hx hb dX12_comesTo_203 rfl (lv_at hl 0 rfl) ?_
        refine va_get (D := D) (ci := 12) (v := .ref (a 27)) (C := RX12) (T := TX12) (N := 52) hx hb hts hinX12 hown hK.1 hP 0 rfl rfl 27 (by decide) (hts (.fieldLink RX12 56 "RopeScaleModel" "stack" "[I") (List.mem_of_getElem? (i := 3) rfl)) (fun _ h9 => h9) rfl dX12_comesTo_204 ?_
        refine lv_iload_n hx hb dX12_comesTo_207 rfl (lv_at hl 2 rfl) ?_
        refine lv_iconst (v := 1) hx hb dX12_comesTo_208 (by decide) ?_
        refine lv_isub hx hb dX12_comesTo_209 ?_
        refine lv_iload hx hb dX12_comesTo_210 (lv_at hl 5 rfl) ?_
        refine lv_aload_n hx hb dX12_comesTo_212 rfl (lv_at hl 0 rfl) ?_
        refine va_get (D := D) (ci := 12) (v := .ref (a 27)) (C := RX12) (T := TX12) (N := 52) hx hb hts hinX12 hown hK.1 hP 0 rfl rfl 27 (by decide) (hts (.fieldLink RX12 56 "RopeScaleModel" "stack" "[I") (List.mem_of_getElem? (i := 3) rfl)) (fun _ h9 => h9) rfl dX12_comesTo_213 ?_
        refine lv_iload_n hx hb dX12_comesTo_216 rfl (lv_at hl 2 rfl) ?_
        refine lv_iconst (v := 1) hx hb dX12_comesTo_217 (by decide) ?_
        refine lv_isub hx hb dX12_comesTo_218 ?_
        obtain ⟨h15, hf⟩ := gd_e hf
        refine va_iald hx hb hK.1 hP 16 0 rfl rfl h15 dX12_comesTo_219 ?_
        refine lv_aload_n hx hb dX12_comesTo_220 rfl (lv_at hl 0 rfl) ?_
        refine va_get (D := D) (ci := 12) (v := .ref (a 27)) (C := RX12) (T := TX12) (N := 52) hx hb hts hinX12 hown hK.1 hP 0 rfl rfl 27 (by decide) (hts (.fieldLink RX12 56 "RopeScaleModel" "stack" "[I") (List.mem_of_getElem? (i := 3) rfl)) (fun _ h9 => h9) rfl dX12_comesTo_221 ?_
        refine lv_iload_n hx hb dX12_comesTo_224 rfl (lv_at hl 2 rfl) ?_
        obtain ⟨h14, hf⟩ := gd_e hf
        refine va_iald hx hb hK.1 hP 16 0 rfl rfl h14 dX12_comesTo_225 ?_
        obtain ⟨z11, hz11, hf⟩ := bnd hf
        refine cSR (As := [.int x6, .int (v 27 (ix (x3 - 1))), .int (v 27 (ix x3))]) (rest := [.int (x3 - 1), .ref (a 27)]) ⟨hx, hb, hml, hown, hts⟩ (mX12_reckon l D T x6 (v 27 (ix (x3 - 1))) (v 27 (ix x3)) z11 hz11) (va_cwS 3 hts gX12_comesTo_X12_reckon rfl rfl rfl (by decide +kernel) ⟨Nat.le_of_ble_eq_true rfl, Nat.le_of_ble_eq_true rfl⟩) P0 hK rfl hl.1 rfl (Nat.le_of_ble_eq_true rfl) dX12_comesTo_226 ⟨Nat.le_of_ble_eq_true rfl, Nat.le_of_ble_eq_true rfl⟩ hP hS (fun H locs hP hS => ?_)
        obtain ⟨h13, hf⟩ := gd_e hf
        obtain ⟨u12, eu12, hf⟩ := lett_e hf
        refine va_iast hx hb hK.1 hP hD hS 16 0 rfl rfl h13 dX12_comesTo_229 (fun H locs hP hD hS => ?_)
        have hP : va_P D vwCl (kX12 T h a u12) H := by rw [eu12]; exact hP
        have hD : va_D (va_A (kX12 T h a u) s.heap.size) (kX12 T h a u12) := by rw [eu12]; exact hD
        refine lv_goto (tgt := 16) hx hb dX12_comesTo_230 (by decide) ?_
        exact ih16 u12 x2 x3 x4 x5 _ _ _ hf hP hD hS (lv_sub hl [0, 1, 2, 3, 4] rfl)
      have J192 : ∀ (v : St) (x2 : Int32) (x3 : Int32) (x4 : Int32) (x5 : Int32) (x6 : Int32) (H : Heap) (locs : List Loc) (ls : Array Slot), fX12_comesTo_J192 (fX12_comesTo_L16  n16) v x2 x3 x4 x5 x6 = some res → va_P D vwCl (kX12 T h a v) H → va_D (va_A (kX12 T h a u) s.heap.size) (kX12 T h a v) → va_S (va_A (kX12 T h a u) s.heap.size) s.heap H locs → lv_has ls 8 [(0, .ref h), (2, .int x2), (3, .int x3), (4, .int x4), (5, .int x5), (6, .int x6)] → W p l e (headSpec wsX12_comesTo ({ frames := 1, cells := 0, slots := 0, locals := 22 })).room s m ([.ref h, .int p1, .int p2] : List Value).toArray below meth c H locs 0 0 (MQ below (QM D (kX12 T h a u) s.heap.size res.1 (kX12 T h a res.2)) ([.ref h, .int p1, .int p2] : List Value).toArray s 0 0 (va_A (kX12 T h a u) s.heap.size)) (F0 m 192 ls []) := by
        intro v x2 x3 x4 x5 x6 H locs ls hf hP hD hS hl
        unfold fX12_comesTo_J192 at hf
        refine lv_aload_n hx hb dX12_comesTo_192 rfl (lv_at hl 0 rfl) ?_
        refine va_get (D := D) (ci := 12) (v := .ref (a 27)) (C := RX12) (T := TX12) (N := 52) hx hb hts hinX12 hown hK.1 hP 0 rfl rfl 27 (by decide) (hts (.fieldLink RX12 56 "RopeScaleModel" "stack" "[I") (List.mem_of_getElem? (i := 3) rfl)) (fun _ h9 => h9) rfl dX12_comesTo_193 ?_
        refine lv_iload_n hx hb dX12_comesTo_196 rfl (lv_at hl 2 rfl) ?_
        obtain ⟨h17, hf⟩ := gd_e hf
        refine va_iald hx hb hK.1 hP 16 0 rfl rfl h17 dX12_comesTo_197 ?_
        refine lv_if_ne (tgt := 203) hx hb dX12_comesTo_198 (by decide) (fun c16 => ?_) (fun c16 => ?_)
        · replace hf := ifn c16 hf
          exact J203 v x2 x3 x4 x5 x6 _ _ _ hf hP hD hS (lv_sub hl [0, 1, 2, 3, 4, 5] rfl)
        replace hf := ifp c16 hf
        refine lv_iconst (v := 0) hx hb dX12_comesTo_201 (by decide) ?_
        have e9 := Option.some.inj hf
        exact retM hx hb hr hlocks hP hD hS (congrArg (fun z => z.1) e9) (congrArg (fun z => (kX12 T h a z.2 : va_W)) e9) dX12_comesTo_202
      intro v x2 x3 x4 x5 H locs ls hf hP hD hS hl
      replace hf : bX12_comesTo_L16  (fX12_comesTo_L16  n16) v x2 x3 x4 x5 = some res := hf
      unfold bX12_comesTo_L16 at hf
      refine lv_iload hx hb dX12_comesTo_16 (lv_at hl 4 rfl) ?_
      refine lv_iload_n hx hb dX12_comesTo_18 rfl (lv_at hl 1 rfl) ?_
      refine lv_icmp_ge (tgt := 233) hx hb dX12_comesTo_19 (by decide) (fun c18 => ?_) (fun c18 => ?_)
      · replace hf := ifp c18 hf
        refine lv_aload_n hx hb dX12_comesTo_233 rfl (lv_at hl 0 rfl) ?_
        refine va_get (D := D) (ci := 12) (v := .ref (a 27)) (C := RX12) (T := TX12) (N := 52) hx hb hts hinX12 hown hK.1 hP 0 rfl rfl 27 (by decide) (hts (.fieldLink RX12 56 "RopeScaleModel" "stack" "[I") (List.mem_of_getElem? (i := 3) rfl)) (fun _ h9 => h9) rfl dX12_comesTo_234 ?_
        refine lv_iconst (v := 0) hx hb dX12_comesTo_237 (by decide) ?_
        obtain ⟨h19, hf⟩ := gd_e hf
        refine va_iald hx hb hK.1 hP 16 0 rfl rfl h19 dX12_comesTo_238 ?_
        have e9 := Option.some.inj hf
        exact retM hx hb hr hlocks hP hD hS (congrArg (fun z => z.1) e9) (congrArg (fun z => (kX12 T h a z.2 : va_W)) e9) dX12_comesTo_239
      replace hf := ifn c18 hf
      refine lv_aload_n hx hb dX12_comesTo_22 rfl (lv_at hl 0 rfl) ?_
      refine va_get (D := D) (ci := 12) (v := .ref (a 22)) (C := RX12) (T := TX12) (N := 52) hx hb hts hinX12 hown hK.1 hP 0 rfl rfl 22 (by decide) (hts (.fieldLink RX12 41 "RopeScaleModel" "codes" "[I") (List.mem_of_getElem? (i := 1) rfl)) (fun _ h9 => h9) rfl dX12_comesTo_23 ?_
      refine lv_iload hx hb dX12_comesTo_26 (lv_at hl 4 rfl) ?_
      obtain ⟨h35, hf⟩ := gd_e hf
      refine va_iald hx hb hK.1 hP 11 0 rfl rfl h35 dX12_comesTo_28 ?_
      refine lv_ldc (v := 1048576) hx hb hown (hts (.constant RX12 153 (1048576)) (List.mem_of_getElem? (i := 2) rfl)) dX12_comesTo_29 ?_
      refine lv_idiv hx hb dX12_comesTo_31 (by decide) ?_
      obtain ⟨t20, et20, hf⟩ := lett_e hf
      refine lv_eqi et20 ?_
      refine lv_istore (lv' := [(6, .int t20), (0, .ref h), (2, .int x2), (3, .int x3), (4, .int x4), (5, .int x5)]) hx hb dX12_comesTo_32 hl (by decide) rfl (fun ls hl => ?_)
      refine lv_aload_n hx hb dX12_comesTo_34 rfl (lv_at hl 1 rfl) ?_
      refine va_get (D := D) (ci := 12) (v := .ref (a 22)) (C := RX12) (T := TX12) (N := 52) hx hb hts hinX12 hown hK.1 hP 0 rfl rfl 22 (by decide) (hts (.fieldLink RX12 41 "RopeScaleModel" "codes" "[I") (List.mem_of_getElem? (i := 1) rfl)) (fun _ h9 => h9) rfl dX12_comesTo_35 ?_
      refine lv_iload hx hb dX12_comesTo_38 (lv_at hl 5 rfl) ?_
      obtain ⟨h34, hf⟩ := gd_e hf
      refine va_iald hx hb hK.1 hP 11 0 rfl rfl h34 dX12_comesTo_40 ?_
      refine lv_ldc (v := 1048576) hx hb hown (hts (.constant RX12 153 (1048576)) (List.mem_of_getElem? (i := 2) rfl)) dX12_comesTo_41 ?_
      refine lv_irem hx hb dX12_comesTo_43 (by decide) ?_
      obtain ⟨t21, et21, hf⟩ := lett_e hf
      refine lv_eqi et21 ?_
      refine lv_istore (lv' := [(7, .int t21), (6, .int t20), (0, .ref h), (2, .int x2), (3, .int x3), (4, .int x4), (5, .int x5)]) hx hb dX12_comesTo_44 hl (by decide) rfl (fun ls hl => ?_)
      refine lv_iload hx hb dX12_comesTo_46 (lv_at hl 6 rfl) ?_
      refine lv_iconst (v := 1) hx hb dX12_comesTo_48 (by decide) ?_
      refine lv_iadd hx hb dX12_comesTo_49 ?_
      obtain ⟨t22, et22, hf⟩ := lett_e hf
      refine lv_eqi et22 ?_
      refine lv_istore (lv' := [(5, .int t22), (7, .int t21), (6, .int t20), (0, .ref h), (2, .int x2), (3, .int x3), (4, .int x4)]) hx hb dX12_comesTo_50 hl (by decide) rfl (fun ls hl => ?_)
      refine lv_iload hx hb dX12_comesTo_52 (lv_at hl 2 rfl) ?_
      refine lv_if_eq (tgt := 63) hx hb dX12_comesTo_54 (by decide) (fun c23 => ?_) (fun c23 => ?_)
      · replace hf := ifp c23 hf
        exact J63 v x2 x3 x4 t22 t20 t21 _ _ _ hf hP hD hS (lv_sub hl [3, 4, 5, 6, 0, 2, 1] rfl)
      replace hf := ifn c23 hf
      refine lv_iload hx hb dX12_comesTo_57 (lv_at hl 2 rfl) ?_
      refine lv_iconst (v := 1) hx hb dX12_comesTo_59 (by decide) ?_
      refine lv_icmp_ne (tgt := 93) hx hb dX12_comesTo_60 (by decide) (fun c24 => ?_) (fun c24 => ?_)
      · replace hf := ifn c24 hf
        refine lv_iload hx hb dX12_comesTo_93 (lv_at hl 2 rfl) ?_
        refine lv_bipush (v := 10) hx hb dX12_comesTo_95 (by decide) ?_
        refine lv_icmp_ne (tgt := 121) hx hb dX12_comesTo_97 (by decide) (fun c25 => ?_) (fun c25 => ?_)
        · replace hf := ifn c25 hf
          refine lv_iload hx hb dX12_comesTo_121 (lv_at hl 2 rfl) ?_
          refine lv_bipush (v := 11) hx hb dX12_comesTo_123 (by decide) ?_
          refine lv_icmp_eq (tgt := 135) hx hb dX12_comesTo_125 (by decide) (fun c26 => ?_) (fun c26 => ?_)
          · replace hf := ifp c26 hf
            exact J135 v x2 x3 x4 t22 t20 t21 _ _ _ hf hP hD hS (lv_sub hl [3, 4, 5, 6, 0, 2, 1] rfl)
          replace hf := ifn c26 hf
          refine lv_iload hx hb dX12_comesTo_128 (lv_at hl 2 rfl) ?_
          refine lv_bipush (v := 12) hx hb dX12_comesTo_130 (by decide) ?_
          refine lv_icmp_ne (tgt := 175) hx hb dX12_comesTo_132 (by decide) (fun c27 => ?_) (fun c27 => ?_)
          · replace hf := ifn c27 hf
            refine lv_iload_n hx hb dX12_comesTo_175 rfl (lv_at hl 5 rfl) ?_
            refine lv_iconst (v := 1) hx hb dX12_comesTo_176 (by decide) ?_
            refine lv_isub hx hb dX12_comesTo_177 ?_
            obtain ⟨t28, et28, hf⟩ := lett_e hf
            refine lv_eqi et28 ?_
            refine lv_istore_n (lv' := [(3, .int t28), (5, .int t22), (7, .int t21), (6, .int t20), (0, .ref h), (2, .int x2), (4, .int x4)]) hx hb dX12_comesTo_178 rfl hl (by decide) rfl (fun ls hl => ?_)
            refine lv_iload hx hb dX12_comesTo_179 (lv_at hl 3 rfl) ?_
            refine lv_iconst (v := 5) hx hb dX12_comesTo_181 (by decide) ?_
            refine lv_icmp_eq (tgt := 192) hx hb dX12_comesTo_182 (by decide) (fun c29 => ?_) (fun c29 => ?_)
            · replace hf := ifp c29 hf
              exact J192 v x2 t28 x4 t22 t20 _ _ _ hf hP hD hS (lv_sub hl [4, 5, 0, 6, 1, 3] rfl)
            replace hf := ifn c29 hf
            refine lv_iload hx hb dX12_comesTo_185 (lv_at hl 3 rfl) ?_
            refine lv_bipush (v := 6) hx hb dX12_comesTo_187 (by decide) ?_
            refine lv_icmp_ne (tgt := 203) hx hb dX12_comesTo_189 (by decide) (fun c30 => ?_) (fun c30 => ?_)
            · replace hf := ifn c30 hf
              exact J203 v x2 t28 x4 t22 t20 _ _ _ hf hP hD hS (lv_sub hl [4, 5, 0, 6, 1, 3] rfl)
            replace hf := ifp c30 hf
            exact J192 v x2 t28 x4 t22 t20 _ _ _ hf hP hD hS (lv_sub hl [4, 5, 0, 6, 1, 3] rfl)
          replace hf := ifp c27 hf
          exact J135 v x2 x3 x4 t22 t20 t21 _ _ _ hf hP hD hS (lv_sub hl [3, 4, 5, 6, 0, 2, 1] rfl)
        replace hf := ifp c25 hf
        refine lv_aload_n hx hb dX12_comesTo_100 rfl (lv_at hl 3 rfl) ?_
        refine va_get (D := D) (ci := 12) (v := .ref (a 27)) (C := RX12) (T := TX12) (N := 52) hx hb hts hinX12 hown hK.1 hP 0 rfl rfl 27 (by decide) (hts (.fieldLink RX12 56 "RopeScaleModel" "stack" "[I") (List.mem_of_getElem? (i := 3) rfl)) (fun _ h9 => h9) rfl dX12_comesTo_101 ?_
        refine lv_iload_n hx hb dX12_comesTo_104 rfl (lv_at hl 5 rfl) ?_
        refine lv_iconst (v := 1) hx hb dX12_comesTo_105 (by decide) ?_
        refine lv_isub hx hb dX12_comesTo_106 ?_
        refine lv_iconst (v := 1) hx hb dX12_comesTo_107 (by decide) ?_
        refine lv_aload_n hx hb dX12_comesTo_108 rfl (lv_at hl 3 rfl) ?_
        refine va_get (D := D) (ci := 12) (v := .ref (a 27)) (C := RX12) (T := TX12) (N := 52) hx hb hts hinX12 hown hK.1 hP 0 rfl rfl 27 (by decide) (hts (.fieldLink RX12 56 "RopeScaleModel" "stack" "[I") (List.mem_of_getElem? (i := 3) rfl)) (fun _ h9 => h9) rfl dX12_comesTo_109 ?_
        refine lv_iload_n hx hb dX12_comesTo_112 rfl (lv_at hl 5 rfl) ?_
        refine lv_iconst (v := 1) hx hb dX12_comesTo_113 (by decide) ?_
        refine lv_isub hx hb dX12_comesTo_114 ?_
        obtain ⟨h33, hf⟩ := gd_e hf
        refine va_iald hx hb hK.1 hP 16 0 rfl rfl h33 dX12_comesTo_115 ?_
        refine lv_isub hx hb dX12_comesTo_116 ?_
        obtain ⟨h32, hf⟩ := gd_e hf
        obtain ⟨u31, eu31, hf⟩ := lett_e hf
        refine va_iast hx hb hK.1 hP hD hS 16 0 rfl rfl h32 dX12_comesTo_117 (fun H locs hP hD hS => ?_)
        have hP : va_P D vwCl (kX12 T h a u31) H := by rw [eu31]; exact hP
        have hD : va_D (va_A (kX12 T h a u) s.heap.size) (kX12 T h a u31) := by rw [eu31]; exact hD
        refine lv_goto (tgt := 230) hx hb dX12_comesTo_118 (by decide) ?_
        refine lv_goto (tgt := 16) hx hb dX12_comesTo_230 (by decide) ?_
        exact ih16 u31 x2 x3 x4 t22 _ _ _ hf hP hD hS (lv_sub hl [3, 4, 5, 6, 0] rfl)
      replace hf := ifp c24 hf
      exact J63 v x2 x3 x4 t22 t20 t21 _ _ _ hf hP hD hS (lv_sub hl [3, 4, 5, 6, 0, 2, 1] rfl)
  unfold fX12_comesTo at hf
  refine lv_iconst (v := 0) hx hb dX12_comesTo_0 (by decide) ?_
  refine lv_istore_n (lv' := [(3, .int 0), (0, .ref h), (1, .int p1), (2, .int p2)]) hx hb dX12_comesTo_1 rfl hl (by decide) rfl (fun ls hl => ?_)
  refine lv_sipush (v := 260) hx hb dX12_comesTo_2 (by decide) ?_
  refine lv_iload_n hx hb dX12_comesTo_5 rfl (lv_at hl 2 rfl) ?_
  refine lv_sipush (v := 260) hx hb dX12_comesTo_6 (by decide) ?_
  refine lv_idiv hx hb dX12_comesTo_9 (by decide) ?_
  refine lv_imul hx hb dX12_comesTo_10 ?_
  obtain ⟨t36, et36, hf⟩ := lett_e hf
  refine lv_eqi et36 ?_
  refine lv_istore (lv' := [(4, .int t36), (3, .int 0), (0, .ref h), (1, .int p1), (2, .int p2)]) hx hb dX12_comesTo_11 hl (by decide) rfl (fun ls hl => ?_)
  refine lv_iload_n hx hb dX12_comesTo_13 rfl (lv_at hl 3 rfl) ?_
  refine lv_istore (lv' := [(5, .int p1), (4, .int t36), (3, .int 0), (0, .ref h), (1, .int p1), (2, .int p2)]) hx hb dX12_comesTo_14 hl (by decide) rfl (fun ls hl => ?_)
  exact L16 FU u p2 0 t36 p1 _ _ _ hf hP hD hS (lv_sub hl [3, 5, 2, 1, 0] rfl)
def bX12_byLaw_L3   (lp3 : St → Int32 → Int32 → Int32 → Int32 → Option (Int32 × St)) (v : St) (x1 : Int32) (x2 : Int32) (x3 : Int32) (x4 : Int32) : Option (Int32 × St) := if (v 15 0) ≤ x4 then some (x3, v) else gd x4 16 <| if (v 23 (ix x4)) = x1 then gd x4 16 <| gd x4 16 <| (fX12_comesTo v (v 25 (ix x4)) (v 26 (ix x4))).bind fun z4 => if z4.1 = 1 then gd x4 16 <| gd x4 16 <| (fX12_comesTo z4.2 (z4.2 24 (ix x4)) (z4.2 25 (ix x4))).bind fun z6 => if 0 ≤ z6.1 then if z6.1 ≤ x2 then some (z6.1, z6.2) else some (x2, z6.2) else some (0, z6.2) else lett (x4 + 1) fun t11 => lp3 z4.2 x1 x2 x3 t11 else lett (x4 + 1) fun t3 => lp3 v x1 x2 x3 t3
def fX12_byLaw_L3   : Nat → St → Int32 → Int32 → Int32 → Int32 → Option (Int32 × St)
  | 0, _, _, _, _, _ => none
  | n + 1, v, x1, x2, x3, x4 => bX12_byLaw_L3  (fX12_byLaw_L3  n) v x1 x2 x3 x4
def fX12_byLaw  (u : St) (p1 : Int32) (p2 : Int32) (p3 : Int32) : Option (Int32 × St) := fX12_byLaw_L3 FU u p1 p2 p3 0
set_option maxHeartbeats 4000000 in
set_option maxRecDepth 100000 in
theorem mX12_byLaw (l : Launch) (D : va_G) (T : Ty3) (h : Nat) (a : Nat → Nat) (u : St) (sz : Nat) (p1 : Int32) (p2 : Int32) (p3 : Int32) (res : Int32 × St) (hf : fX12_byLaw u p1 p2 p3 = some res) : Met l yX12_byLaw wsX12_byLaw ({ frames := 2, cells := 0, slots := 0, locals := 49 }) (PcM D T (kX12 T h a u) sz [.ref h, .int p1, .int p2, .int p3]) (QM D (kX12 T h a u) sz res.1 (kX12 T h a res.2)) 0 0 (va_A (kX12 T h a u) sz) := by
  refine Met.ofW (cc := cX12_byLaw) (maxL := 6) (ret := (some .int)) (by decide) rfl ?_
  intro p e s m args below meth c s₁ B hml hv
  obtain ⟨rfl, hsz, hP, hK, hD0⟩ := hv
  have hx := B.exec
  have hb := B.bytes
  have hr := B.returns
  have hts := atoms_spec (ws := wsX12_byLaw) B.pre
  have hown : s.vm.findClass RX12 = some m.cls := findClass_of_methodNamed B.named
  have hlocks := B.notSynchronized
  subst hsz
  have hD := hD0.self (sz := s.heap.size)
  have hA : ∀ q : Nat, s.heap.size ≤ q → va_A (kX12 T h a u) s.heap.size q := fun q h => Or.inr h
  have hS : va_S (va_A (kX12 T h a u) s.heap.size) s.heap s.heap [] := va_S.rf
  have hinX12 : ∀ w ∈ u_ws RX12 TX12 52, w ∈ wsX12_byLaw := fun w h => List.mem_cons_of_mem _ (List.mem_append_right _ h)
  have hl := lv_entry ([.ref h, .int p1, .int p2, .int p3]) (n := 6) (Nat.le_of_ble_eq_true rfl)
  rw [lg_entry_eq]
  generalize (lg_sl ([.ref h, .int p1, .int p2, .int p3]) ++ List.replicate (6 - (lg_sl ([.ref h, .int p1, .int p2, .int p3])).length) Slot.unset).toArray = ls at hl ⊢
  have hl : lv_has ls 6 [(0, .ref h), (1, .int p1), (2, .int p2), (3, .int p3)] := hl
  have L3 : ∀ (n3 : Nat), ∀ (v : St) (x1 : Int32) (x2 : Int32) (x3 : Int32) (x4 : Int32) (H : Heap) (locs : List Loc) (ls : Array Slot), fX12_byLaw_L3  n3 v x1 x2 x3 x4 = some res → va_P D vwCl (kX12 T h a v) H → va_D (va_A (kX12 T h a u) s.heap.size) (kX12 T h a v) → va_S (va_A (kX12 T h a u) s.heap.size) s.heap H locs → lv_has ls 6 [(0, .ref h), (1, .int x1), (2, .int x2), (3, .int x3), (4, .int x4)] → W p l e (headSpec wsX12_byLaw ({ frames := 2, cells := 0, slots := 0, locals := 49 })).room s m ([.ref h, .int p1, .int p2, .int p3] : List Value).toArray below meth c H locs 0 0 (MQ below (QM D (kX12 T h a u) s.heap.size res.1 (kX12 T h a res.2)) ([.ref h, .int p1, .int p2, .int p3] : List Value).toArray s 0 0 (va_A (kX12 T h a u) s.heap.size)) (F0 m 3 ls []) := by
    intro n3
    induction n3 with
    | zero => intro v x1 x2 x3 x4 H locs ls hf; exact nns hf
    | succ n3 ih3 =>
      intro v x1 x2 x3 x4 H locs ls hf hP hD hS hl
      replace hf : bX12_byLaw_L3  (fX12_byLaw_L3  n3) v x1 x2 x3 x4 = some res := hf
      unfold bX12_byLaw_L3 at hf
      refine lv_iload hx hb dX12_byLaw_3 (lv_at hl 4 rfl) ?_
      refine lv_aload_n hx hb dX12_byLaw_5 rfl (lv_at hl 0 rfl) ?_
      refine va_get (D := D) (ci := 12) (v := .int (v 15 0)) (C := RX12) (T := TX12) (N := 52) hx hb hts hinX12 hown hK.1 hP 0 rfl rfl 15 (by decide) (hts (.fieldLink RX12 220 "RopeScaleModel" "clauses" "I") (List.mem_of_getElem? (i := 1) rfl)) (fun _ h9 => h9) rfl dX12_byLaw_6 ?_
      refine lv_icmp_ge (tgt := 96) hx hb dX12_byLaw_9 (by decide) (fun c1 => ?_) (fun c1 => ?_)
      · replace hf := ifp c1 hf
        refine lv_iload_n hx hb dX12_byLaw_96 rfl (lv_at hl 3 rfl) ?_
        have e9 := Option.some.inj hf
        exact retM hx hb hr hlocks hP hD hS (congrArg (fun z => z.1) e9) (congrArg (fun z => (kX12 T h a z.2 : va_W)) e9) dX12_byLaw_97
      replace hf := ifn c1 hf
      refine lv_aload_n hx hb dX12_byLaw_12 rfl (lv_at hl 0 rfl) ?_
      refine va_get (D := D) (ci := 12) (v := .ref (a 23)) (C := RX12) (T := TX12) (N := 52) hx hb hts hinX12 hown hK.1 hP 0 rfl rfl 23 (by decide) (hts (.fieldLink RX12 44 "RopeScaleModel" "clauseOf" "[I") (List.mem_of_getElem? (i := 2) rfl)) (fun _ h9 => h9) rfl dX12_byLaw_13 ?_
      refine lv_iload hx hb dX12_byLaw_16 (lv_at hl 4 rfl) ?_
      obtain ⟨h14, hf⟩ := gd_e hf
      refine va_iald hx hb hK.1 hP 12 0 rfl rfl h14 dX12_byLaw_18 ?_
      refine lv_iload_n hx hb dX12_byLaw_19 rfl (lv_at hl 1 rfl) ?_
      refine lv_icmp_ne (tgt := 90) hx hb dX12_byLaw_20 (by decide) (fun c2 => ?_) (fun c2 => ?_)
      · replace hf := ifn c2 hf
        obtain ⟨t3, et3, hf⟩ := lett_e hf
        refine lv_iinc (v := t3) (lv' := [(4, .int t3), (0, .ref h), (1, .int x1), (2, .int x2), (3, .int x3)]) hx hb dX12_byLaw_90 hl (k := 4) rfl (by rw [et3]; rfl) (by decide) rfl (fun ls hl => ?_)
        refine lv_goto (tgt := 3) hx hb dX12_byLaw_93 (by decide) ?_
        exact ih3 v x1 x2 x3 t3 _ _ _ hf hP hD hS (lv_sub hl [1, 2, 3, 4, 0] rfl)
      replace hf := ifp c2 hf
      refine lv_aload_n hx hb dX12_byLaw_23 rfl (lv_at hl 0 rfl) ?_
      refine lv_aload_n hx hb dX12_byLaw_24 rfl (lv_at hl 0 rfl) ?_
      refine va_get (D := D) (ci := 12) (v := .ref (a 25)) (C := RX12) (T := TX12) (N := 52) hx hb hts hinX12 hown hK.1 hP 0 rfl rfl 25 (by decide) (hts (.fieldLink RX12 50 "RopeScaleModel" "codeHalf" "[I") (List.mem_of_getElem? (i := 3) rfl)) (fun _ h9 => h9) rfl dX12_byLaw_25 ?_
      refine lv_iload hx hb dX12_byLaw_28 (lv_at hl 4 rfl) ?_
      obtain ⟨h13, hf⟩ := gd_e hf
      refine va_iald hx hb hK.1 hP 14 0 rfl rfl h13 dX12_byLaw_30 ?_
      refine lv_aload_n hx hb dX12_byLaw_31 rfl (lv_at hl 0 rfl) ?_
      refine va_get (D := D) (ci := 12) (v := .ref (a 26)) (C := RX12) (T := TX12) (N := 52) hx hb hts hinX12 hown hK.1 hP 0 rfl rfl 26 (by decide) (hts (.fieldLink RX12 53 "RopeScaleModel" "codeTo" "[I") (List.mem_of_getElem? (i := 4) rfl)) (fun _ h9 => h9) rfl dX12_byLaw_32 ?_
      refine lv_iload hx hb dX12_byLaw_35 (lv_at hl 4 rfl) ?_
      obtain ⟨h12, hf⟩ := gd_e hf
      refine va_iald hx hb hK.1 hP 15 0 rfl rfl h12 dX12_byLaw_37 ?_
      obtain ⟨z4, hz4, hf⟩ := bnd hf
      have hFc9 := vaA_self hD hS hA
      refine cVM (As := [.int (v 25 (ix x4)), .int (v 26 (ix x4))]) (rest := []) ⟨hx, hb, hml, hown, hts⟩ (mX12_comesTo l D T h a v _ (v 25 (ix x4)) (v 26 (ix x4)) z4 hz4) (cwV 2 hts gX12_byLaw_X12_comesTo rfl rfl rfl (by decide +kernel) ⟨Nat.le_of_ble_eq_true rfl, Nat.le_of_ble_eq_true rfl⟩) (va_recv hK.1 hP (ci := 12) (q0 := 0) rfl rfl) hP hK rfl hl.1 rfl (Nat.le_of_ble_eq_true rfl) dX12_byLaw_38 ⟨Nat.le_of_ble_eq_true rfl, Nat.le_of_ble_eq_true rfl⟩ hD hFc9 hS (fun H locs hP hD1 _ hS => ?_)
      have hD := hD1.weaken (fun _ _ _ h9 => hFc9 _ h9)
      refine lv_iconst (v := 1) hx hb dX12_byLaw_41 (by decide) ?_
      refine lv_icmp_eq (tgt := 48) hx hb dX12_byLaw_42 (by decide) (fun c5 => ?_) (fun c5 => ?_)
      · replace hf := ifp c5 hf
        refine lv_aload_n hx hb dX12_byLaw_48 rfl (lv_at hl 0 rfl) ?_
        refine lv_aload_n hx hb dX12_byLaw_49 rfl (lv_at hl 0 rfl) ?_
        refine va_get (D := D) (ci := 12) (v := .ref (a 24)) (C := RX12) (T := TX12) (N := 52) hx hb hts hinX12 hown hK.1 hP 0 rfl rfl 24 (by decide) (hts (.fieldLink RX12 47 "RopeScaleModel" "codeFrom" "[I") (List.mem_of_getElem? (i := 5) rfl)) (fun _ h9 => h9) rfl dX12_byLaw_50 ?_
        refine lv_iload hx hb dX12_byLaw_53 (lv_at hl 4 rfl) ?_
        obtain ⟨h10, hf⟩ := gd_e hf
        refine va_iald hx hb hK.1 hP 13 0 rfl rfl h10 dX12_byLaw_55 ?_
        refine lv_aload_n hx hb dX12_byLaw_56 rfl (lv_at hl 0 rfl) ?_
        refine va_get (D := D) (ci := 12) (v := .ref (a 25)) (C := RX12) (T := TX12) (N := 52) hx hb hts hinX12 hown hK.1 hP 0 rfl rfl 25 (by decide) (hts (.fieldLink RX12 50 "RopeScaleModel" "codeHalf" "[I") (List.mem_of_getElem? (i := 3) rfl)) (fun _ h9 => h9) rfl dX12_byLaw_57 ?_
        refine lv_iload hx hb dX12_byLaw_60 (lv_at hl 4 rfl) ?_
        obtain ⟨h9, hf⟩ := gd_e hf
        refine va_iald hx hb hK.1 hP 14 0 rfl rfl h9 dX12_byLaw_62 ?_
        obtain ⟨z6, hz6, hf⟩ := bnd hf
        have hFc9 := vaA_self hD hS hA
        refine cVM (As := [.int (z4.2 24 (ix x4)), .int (z4.2 25 (ix x4))]) (rest := []) ⟨hx, hb, hml, hown, hts⟩ (mX12_comesTo l D T h a z4.2 _ (z4.2 24 (ix x4)) (z4.2 25 (ix x4)) z6 hz6) (cwV 2 hts gX12_byLaw_X12_comesTo rfl rfl rfl (by decide +kernel) ⟨Nat.le_of_ble_eq_true rfl, Nat.le_of_ble_eq_true rfl⟩) (va_recv hK.1 hP (ci := 12) (q0 := 0) rfl rfl) hP hK rfl hl.1 rfl (Nat.le_of_ble_eq_true rfl) dX12_byLaw_63 ⟨Nat.le_of_ble_eq_true rfl, Nat.le_of_ble_eq_true rfl⟩ hD hFc9 hS (fun H locs hP hD1 _ hS => ?_)
        have hD := hD1.weaken (fun _ _ _ h9 => hFc9 _ h9)
        refine lv_istore (lv' := [(5, .int z6.1), (0, .ref h), (1, .int x1), (2, .int x2), (3, .int x3), (4, .int x4)]) hx hb dX12_byLaw_66 hl (by decide) rfl (fun ls hl => ?_)
        refine lv_iload hx hb dX12_byLaw_68 (lv_at hl 0 rfl) ?_
        refine lv_if_ge (tgt := 77) hx hb dX12_byLaw_70 (by decide) (fun c7 => ?_) (fun c7 => ?_)
        · replace hf := ifp c7 hf
          refine lv_iload hx hb dX12_byLaw_77 (lv_at hl 0 rfl) ?_
          refine lv_iload_n hx hb dX12_byLaw_79 rfl (lv_at hl 3 rfl) ?_
          refine lv_icmp_le (tgt := 87) hx hb dX12_byLaw_80 (by decide) (fun c8 => ?_) (fun c8 => ?_)
          · replace hf := ifp c8 hf
            refine lv_iload hx hb dX12_byLaw_87 (lv_at hl 0 rfl) ?_
            have e9 := Option.some.inj hf
            exact retM hx hb hr hlocks hP hD hS (congrArg (fun z => z.1) e9) (congrArg (fun z => (kX12 T h a z.2 : va_W)) e9) dX12_byLaw_89
          replace hf := ifn c8 hf
          refine lv_iload_n hx hb dX12_byLaw_83 rfl (lv_at hl 3 rfl) ?_
          refine lv_goto (tgt := 89) hx hb dX12_byLaw_84 (by decide) ?_
          have e9 := Option.some.inj hf
          exact retM hx hb hr hlocks hP hD hS (congrArg (fun z => z.1) e9) (congrArg (fun z => (kX12 T h a z.2 : va_W)) e9) dX12_byLaw_89
        replace hf := ifn c7 hf
        refine lv_iconst (v := 0) hx hb dX12_byLaw_73 (by decide) ?_
        refine lv_goto (tgt := 89) hx hb dX12_byLaw_74 (by decide) ?_
        have e9 := Option.some.inj hf
        exact retM hx hb hr hlocks hP hD hS (congrArg (fun z => z.1) e9) (congrArg (fun z => (kX12 T h a z.2 : va_W)) e9) dX12_byLaw_89
      replace hf := ifn c5 hf
      refine lv_goto (tgt := 90) hx hb dX12_byLaw_45 (by decide) ?_
      obtain ⟨t11, et11, hf⟩ := lett_e hf
      refine lv_iinc (v := t11) (lv' := [(4, .int t11), (0, .ref h), (1, .int x1), (2, .int x2), (3, .int x3)]) hx hb dX12_byLaw_90 hl (k := 4) rfl (by rw [et11]; rfl) (by decide) rfl (fun ls hl => ?_)
      refine lv_goto (tgt := 3) hx hb dX12_byLaw_93 (by decide) ?_
      exact ih3 z4.2 x1 x2 x3 t11 _ _ _ hf hP hD hS (lv_sub hl [1, 2, 3, 4, 0] rfl)
  unfold fX12_byLaw at hf
  refine lv_iconst (v := 0) hx hb dX12_byLaw_0 (by decide) ?_
  refine lv_istore (lv' := [(4, .int 0), (0, .ref h), (1, .int p1), (2, .int p2), (3, .int p3)]) hx hb dX12_byLaw_1 hl (by decide) rfl (fun ls hl => ?_)
  exact L3 FU u p1 p2 p3 0 _ _ _ hf hP hD hS (lv_sub hl [1, 2, 3, 4, 0] rfl)
def bX12_holdsAny_L2   (lp2 : St → Int32 → Int32 → Option (Int32 × St)) (v : St) (x1 : Int32) (x2 : Int32) : Option (Int32 × St) := if (v 15 0) ≤ x2 then some (0, v) else gd x2 16 <| if (v 23 (ix x2)) = x1 then gd x2 16 <| gd x2 16 <| (fX12_comesTo v (v 25 (ix x2)) (v 26 (ix x2))).bind fun z4 => if z4.1 = 1 then some (1, z4.2) else lett (x2 + 1) fun t6 => lp2 z4.2 x1 t6 else lett (x2 + 1) fun t3 => lp2 v x1 t3
def fX12_holdsAny_L2   : Nat → St → Int32 → Int32 → Option (Int32 × St)
  | 0, _, _, _ => none
  | n + 1, v, x1, x2 => bX12_holdsAny_L2  (fX12_holdsAny_L2  n) v x1 x2
def fX12_holdsAny  (u : St) (p1 : Int32) : Option (Int32 × St) := fX12_holdsAny_L2 FU u p1 0
set_option maxHeartbeats 4000000 in
set_option maxRecDepth 100000 in
theorem mX12_holdsAny (l : Launch) (D : va_G) (T : Ty3) (h : Nat) (a : Nat → Nat) (u : St) (sz : Nat) (p1 : Int32) (res : Int32 × St) (hf : fX12_holdsAny u p1 = some res) : Met l yX12_holdsAny wsX12_holdsAny ({ frames := 2, cells := 0, slots := 0, locals := 49 }) (PcM D T (kX12 T h a u) sz [.ref h, .int p1]) (QM D (kX12 T h a u) sz res.1 (kX12 T h a res.2)) 0 0 (va_A (kX12 T h a u) sz) := by
  refine Met.ofW (cc := cX12_holdsAny) (maxL := 3) (ret := (some .boolean)) (by decide) rfl ?_
  intro p e s m args below meth c s₁ B hml hv
  obtain ⟨rfl, hsz, hP, hK, hD0⟩ := hv
  have hx := B.exec
  have hb := B.bytes
  have hr := B.returns
  have hts := atoms_spec (ws := wsX12_holdsAny) B.pre
  have hown : s.vm.findClass RX12 = some m.cls := findClass_of_methodNamed B.named
  have hlocks := B.notSynchronized
  subst hsz
  have hD := hD0.self (sz := s.heap.size)
  have hA : ∀ q : Nat, s.heap.size ≤ q → va_A (kX12 T h a u) s.heap.size q := fun q h => Or.inr h
  have hS : va_S (va_A (kX12 T h a u) s.heap.size) s.heap s.heap [] := va_S.rf
  have hinX12 : ∀ w ∈ u_ws RX12 TX12 52, w ∈ wsX12_holdsAny := fun w h => List.mem_cons_of_mem _ (List.mem_append_right _ h)
  have hl := lv_entry ([.ref h, .int p1]) (n := 3) (Nat.le_of_ble_eq_true rfl)
  rw [lg_entry_eq]
  generalize (lg_sl ([.ref h, .int p1]) ++ List.replicate (3 - (lg_sl ([.ref h, .int p1])).length) Slot.unset).toArray = ls at hl ⊢
  have hl : lv_has ls 3 [(0, .ref h), (1, .int p1)] := hl
  have L2 : ∀ (n2 : Nat), ∀ (v : St) (x1 : Int32) (x2 : Int32) (H : Heap) (locs : List Loc) (ls : Array Slot), fX12_holdsAny_L2  n2 v x1 x2 = some res → va_P D vwCl (kX12 T h a v) H → va_D (va_A (kX12 T h a u) s.heap.size) (kX12 T h a v) → va_S (va_A (kX12 T h a u) s.heap.size) s.heap H locs → lv_has ls 3 [(0, .ref h), (1, .int x1), (2, .int x2)] → W p l e (headSpec wsX12_holdsAny ({ frames := 2, cells := 0, slots := 0, locals := 49 })).room s m ([.ref h, .int p1] : List Value).toArray below meth c H locs 0 0 (MQ below (QM D (kX12 T h a u) s.heap.size res.1 (kX12 T h a res.2)) ([.ref h, .int p1] : List Value).toArray s 0 0 (va_A (kX12 T h a u) s.heap.size)) (F0 m 2 ls []) := by
    intro n2
    induction n2 with
    | zero => intro v x1 x2 H locs ls hf; exact nns hf
    | succ n2 ih2 =>
      intro v x1 x2 H locs ls hf hP hD hS hl
      replace hf : bX12_holdsAny_L2  (fX12_holdsAny_L2  n2) v x1 x2 = some res := hf
      unfold bX12_holdsAny_L2 at hf
      refine lv_iload_n hx hb dX12_holdsAny_2 rfl (lv_at hl 2 rfl) ?_
      refine lv_aload_n hx hb dX12_holdsAny_3 rfl (lv_at hl 0 rfl) ?_
      refine va_get (D := D) (ci := 12) (v := .int (v 15 0)) (C := RX12) (T := TX12) (N := 52) hx hb hts hinX12 hown hK.1 hP 0 rfl rfl 15 (by decide) (hts (.fieldLink RX12 220 "RopeScaleModel" "clauses" "I") (List.mem_of_getElem? (i := 1) rfl)) (fun _ h9 => h9) rfl dX12_holdsAny_4 ?_
      refine lv_icmp_ge (tgt := 48) hx hb dX12_holdsAny_7 (by decide) (fun c1 => ?_) (fun c1 => ?_)
      · replace hf := ifp c1 hf
        refine lv_iconst (v := 0) hx hb dX12_holdsAny_48 (by decide) ?_
        have e9 := Option.some.inj hf
        exact retMz hx hb hr hlocks hP hD hS rfl (congrArg (fun z => z.1) e9) (congrArg (fun z => (kX12 T h a z.2 : va_W)) e9) dX12_holdsAny_49
      replace hf := ifn c1 hf
      refine lv_aload_n hx hb dX12_holdsAny_10 rfl (lv_at hl 0 rfl) ?_
      refine va_get (D := D) (ci := 12) (v := .ref (a 23)) (C := RX12) (T := TX12) (N := 52) hx hb hts hinX12 hown hK.1 hP 0 rfl rfl 23 (by decide) (hts (.fieldLink RX12 44 "RopeScaleModel" "clauseOf" "[I") (List.mem_of_getElem? (i := 2) rfl)) (fun _ h9 => h9) rfl dX12_holdsAny_11 ?_
      refine lv_iload_n hx hb dX12_holdsAny_14 rfl (lv_at hl 2 rfl) ?_
      obtain ⟨h9, hf⟩ := gd_e hf
      refine va_iald hx hb hK.1 hP 12 0 rfl rfl h9 dX12_holdsAny_15 ?_
      refine lv_iload_n hx hb dX12_holdsAny_16 rfl (lv_at hl 1 rfl) ?_
      refine lv_icmp_ne (tgt := 42) hx hb dX12_holdsAny_17 (by decide) (fun c2 => ?_) (fun c2 => ?_)
      · replace hf := ifn c2 hf
        obtain ⟨t3, et3, hf⟩ := lett_e hf
        refine lv_iinc (v := t3) (lv' := [(2, .int t3), (0, .ref h), (1, .int x1)]) hx hb dX12_holdsAny_42 hl (k := 2) rfl (by rw [et3]; rfl) (by decide) rfl (fun ls hl => ?_)
        refine lv_goto (tgt := 2) hx hb dX12_holdsAny_45 (by decide) ?_
        exact ih2 v x1 t3 _ _ _ hf hP hD hS (lv_sub hl [1, 2, 0] rfl)
      replace hf := ifp c2 hf
      refine lv_aload_n hx hb dX12_holdsAny_20 rfl (lv_at hl 0 rfl) ?_
      refine lv_aload_n hx hb dX12_holdsAny_21 rfl (lv_at hl 0 rfl) ?_
      refine va_get (D := D) (ci := 12) (v := .ref (a 25)) (C := RX12) (T := TX12) (N := 52) hx hb hts hinX12 hown hK.1 hP 0 rfl rfl 25 (by decide) (hts (.fieldLink RX12 50 "RopeScaleModel" "codeHalf" "[I") (List.mem_of_getElem? (i := 3) rfl)) (fun _ h9 => h9) rfl dX12_holdsAny_22 ?_
      refine lv_iload_n hx hb dX12_holdsAny_25 rfl (lv_at hl 2 rfl) ?_
      obtain ⟨h8, hf⟩ := gd_e hf
      refine va_iald hx hb hK.1 hP 14 0 rfl rfl h8 dX12_holdsAny_26 ?_
      refine lv_aload_n hx hb dX12_holdsAny_27 rfl (lv_at hl 0 rfl) ?_
      refine va_get (D := D) (ci := 12) (v := .ref (a 26)) (C := RX12) (T := TX12) (N := 52) hx hb hts hinX12 hown hK.1 hP 0 rfl rfl 26 (by decide) (hts (.fieldLink RX12 53 "RopeScaleModel" "codeTo" "[I") (List.mem_of_getElem? (i := 4) rfl)) (fun _ h9 => h9) rfl dX12_holdsAny_28 ?_
      refine lv_iload_n hx hb dX12_holdsAny_31 rfl (lv_at hl 2 rfl) ?_
      obtain ⟨h7, hf⟩ := gd_e hf
      refine va_iald hx hb hK.1 hP 15 0 rfl rfl h7 dX12_holdsAny_32 ?_
      obtain ⟨z4, hz4, hf⟩ := bnd hf
      have hFc9 := vaA_self hD hS hA
      refine cVM (As := [.int (v 25 (ix x2)), .int (v 26 (ix x2))]) (rest := []) ⟨hx, hb, hml, hown, hts⟩ (mX12_comesTo l D T h a v _ (v 25 (ix x2)) (v 26 (ix x2)) z4 hz4) (cwV 2 hts gX12_holdsAny_X12_comesTo rfl rfl rfl (by decide +kernel) ⟨Nat.le_of_ble_eq_true rfl, Nat.le_of_ble_eq_true rfl⟩) (va_recv hK.1 hP (ci := 12) (q0 := 0) rfl rfl) hP hK rfl hl.1 rfl (Nat.le_of_ble_eq_true rfl) dX12_holdsAny_33 ⟨Nat.le_of_ble_eq_true rfl, Nat.le_of_ble_eq_true rfl⟩ hD hFc9 hS (fun H locs hP hD1 _ hS => ?_)
      have hD := hD1.weaken (fun _ _ _ h9 => hFc9 _ h9)
      refine lv_iconst (v := 1) hx hb dX12_holdsAny_36 (by decide) ?_
      refine lv_icmp_ne (tgt := 42) hx hb dX12_holdsAny_37 (by decide) (fun c5 => ?_) (fun c5 => ?_)
      · replace hf := ifn c5 hf
        obtain ⟨t6, et6, hf⟩ := lett_e hf
        refine lv_iinc (v := t6) (lv' := [(2, .int t6), (0, .ref h), (1, .int x1)]) hx hb dX12_holdsAny_42 hl (k := 2) rfl (by rw [et6]; rfl) (by decide) rfl (fun ls hl => ?_)
        refine lv_goto (tgt := 2) hx hb dX12_holdsAny_45 (by decide) ?_
        exact ih2 z4.2 x1 t6 _ _ _ hf hP hD hS (lv_sub hl [1, 2, 0] rfl)
      replace hf := ifp c5 hf
      refine lv_iconst (v := 1) hx hb dX12_holdsAny_40 (by decide) ?_
      have e9 := Option.some.inj hf
      exact retMz hx hb hr hlocks hP hD hS rfl (congrArg (fun z => z.1) e9) (congrArg (fun z => (kX12 T h a z.2 : va_W)) e9) dX12_holdsAny_41
  unfold fX12_holdsAny at hf
  refine lv_iconst (v := 0) hx hb dX12_holdsAny_0 (by decide) ?_
  refine lv_istore_n (lv' := [(2, .int 0), (0, .ref h), (1, .int p1)]) hx hb dX12_holdsAny_1 rfl hl (by decide) rfl (fun ls hl => ?_)
  exact L2 FU u p1 0 _ _ _ hf hP hD hS (lv_sub hl [1, 2, 0] rfl)
def fX12_overMany  (u : St)  : Option (Int32) := (fX12_toldSet u).bind fun z1 => (fX12_hereSet u).bind fun z2 => (fX12_bits (z1 &&& (z2 ^^^ (-1)))).bind fun z3 => some z3
set_option maxHeartbeats 4000000 in
set_option maxRecDepth 100000 in
theorem mX12_overMany (l : Launch) (D : va_G) (T : Ty3) (h : Nat) (a : Nat → Nat) (u : St)  (res : Int32) (hf : fX12_overMany u = some res) : Met l yX12_overMany wsX12_overMany ({ frames := 4, cells := 0, slots := 0, locals := 86 }) (PcR D T (kX12 T h a u) [.ref h]) (QR res) 0 0 noA := by
  refine Met.ofW (cc := cX12_overMany) (maxL := 1) (ret := (some .int)) (by decide) rfl ?_
  intro p e s m args below meth c s₁ B hml hv
  obtain ⟨rfl, hP, hK⟩ := hv
  have hx := B.exec
  have hb := B.bytes
  have hr := B.returns
  have hts := atoms_spec (ws := wsX12_overMany) B.pre
  have hown : s.vm.findClass RX12 = some m.cls := findClass_of_methodNamed B.named
  have hlocks := B.notSynchronized
  have hS : va_S noA s.heap s.heap [] := va_S.rf
  have hinX12 : ∀ w ∈ u_ws RX12 TX12 52, w ∈ wsX12_overMany := fun w h => List.mem_cons_of_mem _ (List.mem_append_right _ h)
  have hl := lv_entry ([.ref h]) (n := 1) (Nat.le_of_ble_eq_true rfl)
  rw [lg_entry_eq]
  generalize (lg_sl ([.ref h]) ++ List.replicate (1 - (lg_sl ([.ref h])).length) Slot.unset).toArray = ls at hl ⊢
  have hl : lv_has ls 1 [(0, .ref h)] := hl
  unfold fX12_overMany at hf
  refine lv_aload_n hx hb dX12_overMany_0 rfl (lv_at hl 0 rfl) ?_
  obtain ⟨z1, hz1, hf⟩ := bnd hf
  refine cVR (As := []) (rest := []) ⟨hx, hb, hml, hown, hts⟩ (mX12_toldSet l D T h a u z1 hz1) (cwV 0 hts gX12_overMany_X12_toldSet rfl rfl rfl (by decide +kernel) ⟨Nat.le_of_ble_eq_true rfl, Nat.le_of_ble_eq_true rfl⟩) (va_recv hK.1 hP (ci := 12) (q0 := 0) rfl rfl) hP hK rfl hl.1 rfl (Nat.le_of_ble_eq_true rfl) dX12_overMany_1 ⟨Nat.le_of_ble_eq_true rfl, Nat.le_of_ble_eq_true rfl⟩ hP hS (fun H locs hP hS => ?_)
  refine lv_aload_n hx hb dX12_overMany_4 rfl (lv_at hl 0 rfl) ?_
  obtain ⟨z2, hz2, hf⟩ := bnd hf
  refine cVR (As := []) (rest := [.int z1]) ⟨hx, hb, hml, hown, hts⟩ (mX12_hereSet l D T h a u z2 hz2) (cwV 0 hts gX12_overMany_X12_hereSet rfl rfl rfl (by decide +kernel) ⟨Nat.le_of_ble_eq_true rfl, Nat.le_of_ble_eq_true rfl⟩) (va_recv hK.1 hP (ci := 12) (q0 := 0) rfl rfl) hP hK rfl hl.1 rfl (Nat.le_of_ble_eq_true rfl) dX12_overMany_5 ⟨Nat.le_of_ble_eq_true rfl, Nat.le_of_ble_eq_true rfl⟩ hP hS (fun H locs hP hS => ?_)
  refine lv_iconst (v := (-1)) hx hb dX12_overMany_8 (by decide) ?_
  refine lv_ixor hx hb dX12_overMany_9 ?_
  refine lv_iand hx hb dX12_overMany_10 ?_
  obtain ⟨z3, hz3, hf⟩ := bnd hf
  refine cSR (As := [.int (z1 &&& (z2 ^^^ (-1)))]) (rest := []) ⟨hx, hb, hml, hown, hts⟩ (mX12_bits l D T (z1 &&& (z2 ^^^ (-1))) z3 hz3) (va_cwS 1 hts gX12_overMany_X12_bits rfl rfl rfl (by decide +kernel) ⟨Nat.le_of_ble_eq_true rfl, Nat.le_of_ble_eq_true rfl⟩) P0 hK rfl hl.1 rfl (Nat.le_of_ble_eq_true rfl) dX12_overMany_11 ⟨Nat.le_of_ble_eq_true rfl, Nat.le_of_ble_eq_true rfl⟩ hP hS (fun H locs hP hS => ?_)
  exact retR hx hb hr hlocks hS (Option.some.inj hf) dX12_overMany_14
def fX12_feels  (u : St) (p1 : Int32) : Option (St) := gd 0 8 <| lett (st u 28 (ix 0) p1) fun u1 => gd (16 + p1) 98 <| gd 1 8 <| lett (st u1 28 (ix 1) (u1 0 (ix (16 + p1)))) fun u2 => gd (32 + p1) 98 <| gd 2 8 <| lett (st u2 28 (ix 2) (u2 0 (ix (32 + p1)))) fun u3 => gd (48 + p1) 98 <| gd 3 8 <| lett (st u3 28 (ix 3) (u3 0 (ix (48 + p1)))) fun u4 => (fX12_overMany u4).bind fun z5 => gd 4 8 <| lett (st u4 28 (ix 4) z5) fun u6 => gd (64 + p1) 98 <| gd 5 8 <| lett (st u6 28 (ix 5) (u6 0 (ix (64 + p1)))) fun u7 => gd (80 + p1) 98 <| gd 6 8 <| lett (st u7 28 (ix 6) (u7 0 (ix (80 + p1)))) fun u8 => gd 96 98 <| gd 7 8 <| lett (st u8 28 (ix 7) (jrem (u8 0 (ix 96)) 100)) fun u9 => some u9
set_option maxHeartbeats 4000000 in
set_option maxRecDepth 100000 in
theorem mX12_feels (l : Launch) (D : va_G) (T : Ty3) (h : Nat) (a : Nat → Nat) (u : St) (sz : Nat) (p1 : Int32) (res : St) (hf : fX12_feels u p1 = some res) : Met l yX12_feels wsX12_feels ({ frames := 5, cells := 0, slots := 0, locals := 106 }) (PcM D T (kX12 T h a u) sz [.ref h, .int p1]) (QMv D (kX12 T h a u) sz (kX12 T h a res)) 0 0 (va_A (kX12 T h a u) sz) := by
  refine Met.ofW (cc := cX12_feels) (maxL := 2) (ret := none) (by decide) rfl ?_
  intro p e s m args below meth c s₁ B hml hv
  obtain ⟨rfl, hsz, hP, hK, hD0⟩ := hv
  have hx := B.exec
  have hb := B.bytes
  have hr := B.returns
  have hts := atoms_spec (ws := wsX12_feels) B.pre
  have hown : s.vm.findClass RX12 = some m.cls := findClass_of_methodNamed B.named
  have hlocks := B.notSynchronized
  subst hsz
  have hD := hD0.self (sz := s.heap.size)
  have hA : ∀ q : Nat, s.heap.size ≤ q → va_A (kX12 T h a u) s.heap.size q := fun q h => Or.inr h
  have hS : va_S (va_A (kX12 T h a u) s.heap.size) s.heap s.heap [] := va_S.rf
  have hinX12 : ∀ w ∈ u_ws RX12 TX12 52, w ∈ wsX12_feels := fun w h => List.mem_cons_of_mem _ (List.mem_append_right _ h)
  have hl := lv_entry ([.ref h, .int p1]) (n := 2) (Nat.le_of_ble_eq_true rfl)
  rw [lg_entry_eq]
  generalize (lg_sl ([.ref h, .int p1]) ++ List.replicate (2 - (lg_sl ([.ref h, .int p1])).length) Slot.unset).toArray = ls at hl ⊢
  have hl : lv_has ls 2 [(0, .ref h), (1, .int p1)] := hl
  unfold fX12_feels at hf
  refine lv_aload_n hx hb dX12_feels_0 rfl (lv_at hl 0 rfl) ?_
  refine va_get (D := D) (ci := 12) (v := .ref (a 28)) (C := RX12) (T := TX12) (N := 52) hx hb hts hinX12 hown hK.1 hP 0 rfl rfl 28 (by decide) (hts (.fieldLink RX12 59 "RopeScaleModel" "facts" "[I") (List.mem_of_getElem? (i := 1) rfl)) (fun _ h9 => h9) rfl dX12_feels_1 ?_
  refine lv_iconst (v := 0) hx hb dX12_feels_4 (by decide) ?_
  refine lv_iload_n hx hb dX12_feels_5 rfl (lv_at hl 1 rfl) ?_
  obtain ⟨h23, hf⟩ := gd_e hf
  obtain ⟨u1, eu1, hf⟩ := lett_e hf
  refine va_iast hx hb hK.1 hP hD hS 17 0 rfl rfl h23 dX12_feels_6 (fun H locs hP hD hS => ?_)
  have hP : va_P D vwCl (kX12 T h a u1) H := by rw [eu1]; exact hP
  have hD : va_D (va_A (kX12 T h a u) s.heap.size) (kX12 T h a u1) := by rw [eu1]; exact hD
  refine lv_aload_n hx hb dX12_feels_7 rfl (lv_at hl 0 rfl) ?_
  refine va_get (D := D) (ci := 12) (v := .ref (a 28)) (C := RX12) (T := TX12) (N := 52) hx hb hts hinX12 hown hK.1 hP 0 rfl rfl 28 (by decide) (hts (.fieldLink RX12 59 "RopeScaleModel" "facts" "[I") (List.mem_of_getElem? (i := 1) rfl)) (fun _ h9 => h9) rfl dX12_feels_8 ?_
  refine lv_iconst (v := 1) hx hb dX12_feels_11 (by decide) ?_
  refine lv_aload_n hx hb dX12_feels_12 rfl (lv_at hl 0 rfl) ?_
  refine va_get (D := D) (ci := 12) (v := .ref (a 0)) (C := RX12) (T := TX12) (N := 52) hx hb hts hinX12 hown hK.1 hP 0 rfl rfl 0 (by decide) (hts (.fieldLink RX12 7 "RopeScaleModel" "now" "[I") (List.mem_of_getElem? (i := 2) rfl)) (fun _ h9 => h9) rfl dX12_feels_13 ?_
  refine lv_bipush (v := 16) hx hb dX12_feels_16 (by decide) ?_
  refine lv_iload_n hx hb dX12_feels_18 rfl (lv_at hl 1 rfl) ?_
  refine lv_iadd hx hb dX12_feels_19 ?_
  obtain ⟨h22, hf⟩ := gd_e hf
  refine va_iald hx hb hK.1 hP 1 0 rfl rfl h22 dX12_feels_20 ?_
  obtain ⟨h21, hf⟩ := gd_e hf
  obtain ⟨u2, eu2, hf⟩ := lett_e hf
  refine va_iast hx hb hK.1 hP hD hS 17 0 rfl rfl h21 dX12_feels_21 (fun H locs hP hD hS => ?_)
  have hP : va_P D vwCl (kX12 T h a u2) H := by rw [eu2]; exact hP
  have hD : va_D (va_A (kX12 T h a u) s.heap.size) (kX12 T h a u2) := by rw [eu2]; exact hD
  refine lv_aload_n hx hb dX12_feels_22 rfl (lv_at hl 0 rfl) ?_
  refine va_get (D := D) (ci := 12) (v := .ref (a 28)) (C := RX12) (T := TX12) (N := 52) hx hb hts hinX12 hown hK.1 hP 0 rfl rfl 28 (by decide) (hts (.fieldLink RX12 59 "RopeScaleModel" "facts" "[I") (List.mem_of_getElem? (i := 1) rfl)) (fun _ h9 => h9) rfl dX12_feels_23 ?_
  refine lv_iconst (v := 2) hx hb dX12_feels_26 (by decide) ?_
  refine lv_aload_n hx hb dX12_feels_27 rfl (lv_at hl 0 rfl) ?_
  refine va_get (D := D) (ci := 12) (v := .ref (a 0)) (C := RX12) (T := TX12) (N := 52) hx hb hts hinX12 hown hK.1 hP 0 rfl rfl 0 (by decide) (hts (.fieldLink RX12 7 "RopeScaleModel" "now" "[I") (List.mem_of_getElem? (i := 2) rfl)) (fun _ h9 => h9) rfl dX12_feels_28 ?_
  refine lv_bipush (v := 32) hx hb dX12_feels_31 (by decide) ?_
  refine lv_iload_n hx hb dX12_feels_33 rfl (lv_at hl 1 rfl) ?_
  refine lv_iadd hx hb dX12_feels_34 ?_
  obtain ⟨h20, hf⟩ := gd_e hf
  refine va_iald hx hb hK.1 hP 1 0 rfl rfl h20 dX12_feels_35 ?_
  obtain ⟨h19, hf⟩ := gd_e hf
  obtain ⟨u3, eu3, hf⟩ := lett_e hf
  refine va_iast hx hb hK.1 hP hD hS 17 0 rfl rfl h19 dX12_feels_36 (fun H locs hP hD hS => ?_)
  have hP : va_P D vwCl (kX12 T h a u3) H := by rw [eu3]; exact hP
  have hD : va_D (va_A (kX12 T h a u) s.heap.size) (kX12 T h a u3) := by rw [eu3]; exact hD
  refine lv_aload_n hx hb dX12_feels_37 rfl (lv_at hl 0 rfl) ?_
  refine va_get (D := D) (ci := 12) (v := .ref (a 28)) (C := RX12) (T := TX12) (N := 52) hx hb hts hinX12 hown hK.1 hP 0 rfl rfl 28 (by decide) (hts (.fieldLink RX12 59 "RopeScaleModel" "facts" "[I") (List.mem_of_getElem? (i := 1) rfl)) (fun _ h9 => h9) rfl dX12_feels_38 ?_
  refine lv_iconst (v := 3) hx hb dX12_feels_41 (by decide) ?_
  refine lv_aload_n hx hb dX12_feels_42 rfl (lv_at hl 0 rfl) ?_
  refine va_get (D := D) (ci := 12) (v := .ref (a 0)) (C := RX12) (T := TX12) (N := 52) hx hb hts hinX12 hown hK.1 hP 0 rfl rfl 0 (by decide) (hts (.fieldLink RX12 7 "RopeScaleModel" "now" "[I") (List.mem_of_getElem? (i := 2) rfl)) (fun _ h9 => h9) rfl dX12_feels_43 ?_
  refine lv_bipush (v := 48) hx hb dX12_feels_46 (by decide) ?_
  refine lv_iload_n hx hb dX12_feels_48 rfl (lv_at hl 1 rfl) ?_
  refine lv_iadd hx hb dX12_feels_49 ?_
  obtain ⟨h18, hf⟩ := gd_e hf
  refine va_iald hx hb hK.1 hP 1 0 rfl rfl h18 dX12_feels_50 ?_
  obtain ⟨h17, hf⟩ := gd_e hf
  obtain ⟨u4, eu4, hf⟩ := lett_e hf
  refine va_iast hx hb hK.1 hP hD hS 17 0 rfl rfl h17 dX12_feels_51 (fun H locs hP hD hS => ?_)
  have hP : va_P D vwCl (kX12 T h a u4) H := by rw [eu4]; exact hP
  have hD : va_D (va_A (kX12 T h a u) s.heap.size) (kX12 T h a u4) := by rw [eu4]; exact hD
  refine lv_aload_n hx hb dX12_feels_52 rfl (lv_at hl 0 rfl) ?_
  refine va_get (D := D) (ci := 12) (v := .ref (a 28)) (C := RX12) (T := TX12) (N := 52) hx hb hts hinX12 hown hK.1 hP 0 rfl rfl 28 (by decide) (hts (.fieldLink RX12 59 "RopeScaleModel" "facts" "[I") (List.mem_of_getElem? (i := 1) rfl)) (fun _ h9 => h9) rfl dX12_feels_53 ?_
  refine lv_iconst (v := 4) hx hb dX12_feels_56 (by decide) ?_
  refine lv_aload_n hx hb dX12_feels_57 rfl (lv_at hl 0 rfl) ?_
  obtain ⟨z5, hz5, hf⟩ := bnd hf
  refine cVR (As := []) (rest := [.int 4, .ref (a 28)]) ⟨hx, hb, hml, hown, hts⟩ (mX12_overMany l D T h a u4 z5 hz5) (cwV 0 hts gX12_feels_X12_overMany rfl rfl rfl (by decide +kernel) ⟨Nat.le_of_ble_eq_true rfl, Nat.le_of_ble_eq_true rfl⟩) (va_recv hK.1 hP (ci := 12) (q0 := 0) rfl rfl) hP hK rfl hl.1 rfl (Nat.le_of_ble_eq_true rfl) dX12_feels_58 ⟨Nat.le_of_ble_eq_true rfl, Nat.le_of_ble_eq_true rfl⟩ hP hS (fun H locs hP hS => ?_)
  obtain ⟨h16, hf⟩ := gd_e hf
  obtain ⟨u6, eu6, hf⟩ := lett_e hf
  refine va_iast hx hb hK.1 hP hD hS 17 0 rfl rfl h16 dX12_feels_61 (fun H locs hP hD hS => ?_)
  have hP : va_P D vwCl (kX12 T h a u6) H := by rw [eu6]; exact hP
  have hD : va_D (va_A (kX12 T h a u) s.heap.size) (kX12 T h a u6) := by rw [eu6]; exact hD
  refine lv_aload_n hx hb dX12_feels_62 rfl (lv_at hl 0 rfl) ?_
  refine va_get (D := D) (ci := 12) (v := .ref (a 28)) (C := RX12) (T := TX12) (N := 52) hx hb hts hinX12 hown hK.1 hP 0 rfl rfl 28 (by decide) (hts (.fieldLink RX12 59 "RopeScaleModel" "facts" "[I") (List.mem_of_getElem? (i := 1) rfl)) (fun _ h9 => h9) rfl dX12_feels_63 ?_
  refine lv_iconst (v := 5) hx hb dX12_feels_66 (by decide) ?_
  refine lv_aload_n hx hb dX12_feels_67 rfl (lv_at hl 0 rfl) ?_
  refine va_get (D := D) (ci := 12) (v := .ref (a 0)) (C := RX12) (T := TX12) (N := 52) hx hb hts hinX12 hown hK.1 hP 0 rfl rfl 0 (by decide) (hts (.fieldLink RX12 7 "RopeScaleModel" "now" "[I") (List.mem_of_getElem? (i := 2) rfl)) (fun _ h9 => h9) rfl dX12_feels_68 ?_
  refine lv_bipush (v := 64) hx hb dX12_feels_71 (by decide) ?_
  refine lv_iload_n hx hb dX12_feels_73 rfl (lv_at hl 1 rfl) ?_
  refine lv_iadd hx hb dX12_feels_74 ?_
  obtain ⟨h15, hf⟩ := gd_e hf
  refine va_iald hx hb hK.1 hP 1 0 rfl rfl h15 dX12_feels_75 ?_
  obtain ⟨h14, hf⟩ := gd_e hf
  obtain ⟨u7, eu7, hf⟩ := lett_e hf
  refine va_iast hx hb hK.1 hP hD hS 17 0 rfl rfl h14 dX12_feels_76 (fun H locs hP hD hS => ?_)
  have hP : va_P D vwCl (kX12 T h a u7) H := by rw [eu7]; exact hP
  have hD : va_D (va_A (kX12 T h a u) s.heap.size) (kX12 T h a u7) := by rw [eu7]; exact hD
  refine lv_aload_n hx hb dX12_feels_77 rfl (lv_at hl 0 rfl) ?_
  refine va_get (D := D) (ci := 12) (v := .ref (a 28)) (C := RX12) (T := TX12) (N := 52) hx hb hts hinX12 hown hK.1 hP 0 rfl rfl 28 (by decide) (hts (.fieldLink RX12 59 "RopeScaleModel" "facts" "[I") (List.mem_of_getElem? (i := 1) rfl)) (fun _ h9 => h9) rfl dX12_feels_78 ?_
  refine lv_bipush (v := 6) hx hb dX12_feels_81 (by decide) ?_
  refine lv_aload_n hx hb dX12_feels_83 rfl (lv_at hl 0 rfl) ?_
  refine va_get (D := D) (ci := 12) (v := .ref (a 0)) (C := RX12) (T := TX12) (N := 52) hx hb hts hinX12 hown hK.1 hP 0 rfl rfl 0 (by decide) (hts (.fieldLink RX12 7 "RopeScaleModel" "now" "[I") (List.mem_of_getElem? (i := 2) rfl)) (fun _ h9 => h9) rfl dX12_feels_84 ?_
  refine lv_bipush (v := 80) hx hb dX12_feels_87 (by decide) ?_
  refine lv_iload_n hx hb dX12_feels_89 rfl (lv_at hl 1 rfl) ?_
  refine lv_iadd hx hb dX12_feels_90 ?_
  obtain ⟨h13, hf⟩ := gd_e hf
  refine va_iald hx hb hK.1 hP 1 0 rfl rfl h13 dX12_feels_91 ?_
  obtain ⟨h12, hf⟩ := gd_e hf
  obtain ⟨u8, eu8, hf⟩ := lett_e hf
  refine va_iast hx hb hK.1 hP hD hS 17 0 rfl rfl h12 dX12_feels_92 (fun H locs hP hD hS => ?_)
  have hP : va_P D vwCl (kX12 T h a u8) H := by rw [eu8]; exact hP
  have hD : va_D (va_A (kX12 T h a u) s.heap.size) (kX12 T h a u8) := by rw [eu8]; exact hD
  refine lv_aload_n hx hb dX12_feels_93 rfl (lv_at hl 0 rfl) ?_
  refine va_get (D := D) (ci := 12) (v := .ref (a 28)) (C := RX12) (T := TX12) (N := 52) hx hb hts hinX12 hown hK.1 hP 0 rfl rfl 28 (by decide) (hts (.fieldLink RX12 59 "RopeScaleModel" "facts" "[I") (List.mem_of_getElem? (i := 1) rfl)) (fun _ h9 => h9) rfl dX12_feels_94 ?_
  refine lv_bipush (v := 7) hx hb dX12_feels_97 (by decide) ?_
  refine lv_aload_n hx hb dX12_feels_99 rfl (lv_at hl 0 rfl) ?_
  refine va_get (D := D) (ci := 12) (v := .ref (a 0)) (C := RX12) (T := TX12) (N := 52) hx hb hts hinX12 hown hK.1 hP 0 rfl rfl 0 (by decide) (hts (.fieldLink RX12 7 "RopeScaleModel" "now" "[I") (List.mem_of_getElem? (i := 2) rfl)) (fun _ h9 => h9) rfl dX12_feels_100 ?_
  refine lv_bipush (v := 96) hx hb dX12_feels_103 (by decide) ?_
  obtain ⟨h11, hf⟩ := gd_e hf
  refine va_iald hx hb hK.1 hP 1 0 rfl rfl h11 dX12_feels_105 ?_
  refine lv_bipush (v := 100) hx hb dX12_feels_106 (by decide) ?_
  refine lv_irem hx hb dX12_feels_108 (by decide) ?_
  obtain ⟨h10, hf⟩ := gd_e hf
  obtain ⟨u9, eu9, hf⟩ := lett_e hf
  refine va_iast hx hb hK.1 hP hD hS 17 0 rfl rfl h10 dX12_feels_109 (fun H locs hP hD hS => ?_)
  have hP : va_P D vwCl (kX12 T h a u9) H := by rw [eu9]; exact hP
  have hD : va_D (va_A (kX12 T h a u) s.heap.size) (kX12 T h a u9) := by rw [eu9]; exact hD
  have e9 := Option.some.inj hf
  exact retMv hx hb hr hlocks hP hD hS (congrArg (fun z => (kX12 T h a z : va_W)) e9) dX12_feels_110
def bX12_readsAmount_L27   (lp27 : St → Int32 → Int32 → Option (Int32 × St)) (v : St) (x1 : Int32) (x2 : Int32) : Option (Int32 × St) := (fX12_isDigit v).bind fun z1 => if z1 = 0 then if x1 ≤ (v 10 0) then some (1, v) else lett (fX12_wrongAt v 3 x2) fun z4 => if z4.1 = 0 then some (0, z4.2) else some (1, z4.2) else if (v 7 0) = (x2 + 3) then lett (fX12_wrongAt v 2 (v 7 0)) fun z10 => zb z10.1 <| some (z10.1, z10.2) else (fX12_here v).bind fun z7 => lett (st v 10 0 (((10 * (v 10 0)) + z7) - 48)) fun u8 => lett (st u8 7 0 ((u8 7 0) + 1)) fun u9 => lp27 u9 x1 x2
def fX12_readsAmount_L27   : Nat → St → Int32 → Int32 → Option (Int32 × St)
  | 0, _, _, _ => none
  | n + 1, v, x1, x2 => bX12_readsAmount_L27  (fX12_readsAmount_L27  n) v x1 x2
def fX12_readsAmount  (u : St) (p1 : Int32) : Option (Int32 × St) := lett (u 7 0) fun t11 => (fX12_isDigit u).bind fun z12 => if z12 = 0 then lett (fX12_wrongAt u 1 (u 7 0)) fun z15 => zb z15.1 <| some (z15.1, z15.2) else lett (st u 10 0 0) fun u14 => fX12_readsAmount_L27 FU u14 p1 t11
set_option maxHeartbeats 4000000 in
set_option maxRecDepth 100000 in
theorem mX12_readsAmount (l : Launch) (D : va_G) (T : Ty3) (h : Nat) (a : Nat → Nat) (u : St) (sz : Nat) (p1 : Int32) (res : Int32 × St) (hf : fX12_readsAmount u p1 = some res) : Met l yX12_readsAmount wsX12_readsAmount ({ frames := 2, cells := 0, slots := 0, locals := 40 }) (PcM D T (kX12 T h a u) sz [.ref h, .int p1]) (QM D (kX12 T h a u) sz res.1 (kX12 T h a res.2)) 0 0 (va_A (kX12 T h a u) sz) := by
  refine Met.ofW (cc := cX12_readsAmount) (maxL := 3) (ret := (some .boolean)) (by decide) rfl ?_
  intro p e s m args below meth c s₁ B hml hv
  obtain ⟨rfl, hsz, hP, hK, hD0⟩ := hv
  have hx := B.exec
  have hb := B.bytes
  have hr := B.returns
  have hts := atoms_spec (ws := wsX12_readsAmount) B.pre
  have hown : s.vm.findClass RX12 = some m.cls := findClass_of_methodNamed B.named
  have hlocks := B.notSynchronized
  subst hsz
  have hD := hD0.self (sz := s.heap.size)
  have hA : ∀ q : Nat, s.heap.size ≤ q → va_A (kX12 T h a u) s.heap.size q := fun q h => Or.inr h
  have hS : va_S (va_A (kX12 T h a u) s.heap.size) s.heap s.heap [] := va_S.rf
  have hinX12 : ∀ w ∈ u_ws RX12 TX12 52, w ∈ wsX12_readsAmount := fun w h => List.mem_cons_of_mem _ (List.mem_append_right _ h)
  have hl := lv_entry ([.ref h, .int p1]) (n := 3) (Nat.le_of_ble_eq_true rfl)
  rw [lg_entry_eq]
  generalize (lg_sl ([.ref h, .int p1]) ++ List.replicate (3 - (lg_sl ([.ref h, .int p1])).length) Slot.unset).toArray = ls at hl ⊢
  have hl : lv_has ls 3 [(0, .ref h), (1, .int p1)] := hl
  have L27 : ∀ (n27 : Nat), ∀ (v : St) (x1 : Int32) (x2 : Int32) (H : Heap) (locs : List Loc) (ls : Array Slot), fX12_readsAmount_L27  n27 v x1 x2 = some res → va_P D vwCl (kX12 T h a v) H → va_D (va_A (kX12 T h a u) s.heap.size) (kX12 T h a v) → va_S (va_A (kX12 T h a u) s.heap.size) s.heap H locs → lv_has ls 3 [(0, .ref h), (1, .int x1), (2, .int x2)] → W p l e (headSpec wsX12_readsAmount ({ frames := 2, cells := 0, slots := 0, locals := 40 })).room s m ([.ref h, .int p1] : List Value).toArray below meth c H locs 0 0 (MQ below (QM D (kX12 T h a u) s.heap.size res.1 (kX12 T h a res.2)) ([.ref h, .int p1] : List Value).toArray s 0 0 (va_A (kX12 T h a u) s.heap.size)) (F0 m 27 ls []) := by
    intro n27
    induction n27 with
    | zero => intro v x1 x2 H locs ls hf; exact nns hf
    | succ n27 ih27 =>
      intro v x1 x2 H locs ls hf hP hD hS hl
      replace hf : bX12_readsAmount_L27  (fX12_readsAmount_L27  n27) v x1 x2 = some res := hf
      unfold bX12_readsAmount_L27 at hf
      refine lv_aload_n hx hb dX12_readsAmount_27 rfl (lv_at hl 0 rfl) ?_
      obtain ⟨z1, hz1, hf⟩ := bnd hf
      refine cVR (As := []) (rest := []) ⟨hx, hb, hml, hown, hts⟩ (mX12_isDigit l D T h a v z1 hz1) (cwV 0 hts gX12_readsAmount_X12_isDigit rfl rfl rfl (by decide +kernel) ⟨Nat.le_of_ble_eq_true rfl, Nat.le_of_ble_eq_true rfl⟩) (va_recv hK.1 hP (ci := 12) (q0 := 0) rfl rfl) hP hK rfl hl.1 rfl (Nat.le_of_ble_eq_true rfl) dX12_readsAmount_28 ⟨Nat.le_of_ble_eq_true rfl, Nat.le_of_ble_eq_true rfl⟩ hP hS (fun H locs hP hS => ?_)
      refine lv_if_eq (tgt := 86) hx hb dX12_readsAmount_31 (by decide) (fun c2 => ?_) (fun c2 => ?_)
      · replace hf := ifp c2 hf
        refine lv_aload_n hx hb dX12_readsAmount_86 rfl (lv_at hl 0 rfl) ?_
        refine va_get (D := D) (ci := 12) (v := .int (v 10 0)) (C := RX12) (T := TX12) (N := 52) hx hb hts hinX12 hown hK.1 hP 0 rfl rfl 10 (by decide) (hts (.fieldLink RX12 143 "RopeScaleModel" "number0" "I") (List.mem_of_getElem? (i := 2) rfl)) (fun _ h9 => h9) rfl dX12_readsAmount_87 ?_
        refine lv_iload_n hx hb dX12_readsAmount_90 rfl (lv_at hl 1 rfl) ?_
        refine lv_icmp_ge (tgt := 103) hx hb dX12_readsAmount_91 (by decide) (fun c3 => ?_) (fun c3 => ?_)
        · replace hf := ifp c3 hf
          refine lv_iconst (v := 1) hx hb dX12_readsAmount_103 (by decide) ?_
          refine lv_goto (tgt := 108) hx hb dX12_readsAmount_104 (by decide) ?_
          have e9 := Option.some.inj hf
          exact retMz hx hb hr hlocks hP hD hS rfl (congrArg (fun z => z.1) e9) (congrArg (fun z => (kX12 T h a z.2 : va_W)) e9) dX12_readsAmount_108
        replace hf := ifn c3 hf
        refine lv_aload_n hx hb dX12_readsAmount_94 rfl (lv_at hl 0 rfl) ?_
        refine lv_iconst (v := 3) hx hb dX12_readsAmount_95 (by decide) ?_
        refine lv_iload_n hx hb dX12_readsAmount_96 rfl (lv_at hl 2 rfl) ?_
        obtain ⟨z4, hz4, hf⟩ := lett_e hf
        have hFc9 := vaA_self hD hS hA
        refine cVM (As := [.int 3, .int x2]) (rest := []) ⟨hx, hb, hml, hown, hts⟩ (mX12_wrongAt l D T h a v _ 3 x2 z4 hz4.symm) (cwV 2 hts gX12_readsAmount_X12_wrongAt rfl rfl rfl (by decide +kernel) ⟨Nat.le_of_ble_eq_true rfl, Nat.le_of_ble_eq_true rfl⟩) (va_recv hK.1 hP (ci := 12) (q0 := 0) rfl rfl) hP hK rfl hl.1 rfl (Nat.le_of_ble_eq_true rfl) dX12_readsAmount_97 ⟨Nat.le_of_ble_eq_true rfl, Nat.le_of_ble_eq_true rfl⟩ hD hFc9 hS (fun H locs hP hD1 _ hS => ?_)
        have hD := hD1.weaken (fun _ _ _ h9 => hFc9 _ h9)
        refine lv_if_eq (tgt := 107) hx hb dX12_readsAmount_100 (by decide) (fun c5 => ?_) (fun c5 => ?_)
        · replace hf := ifp c5 hf
          refine lv_iconst (v := 0) hx hb dX12_readsAmount_107 (by decide) ?_
          have e9 := Option.some.inj hf
          exact retMz hx hb hr hlocks hP hD hS rfl (congrArg (fun z => z.1) e9) (congrArg (fun z => (kX12 T h a z.2 : va_W)) e9) dX12_readsAmount_108
        replace hf := ifn c5 hf
        refine lv_iconst (v := 1) hx hb dX12_readsAmount_103 (by decide) ?_
        refine lv_goto (tgt := 108) hx hb dX12_readsAmount_104 (by decide) ?_
        have e9 := Option.some.inj hf
        exact retMz hx hb hr hlocks hP hD hS rfl (congrArg (fun z => z.1) e9) (congrArg (fun z => (kX12 T h a z.2 : va_W)) e9) dX12_readsAmount_108
      replace hf := ifn c2 hf
      refine lv_aload_n hx hb dX12_readsAmount_34 rfl (lv_at hl 0 rfl) ?_
      refine va_get (D := D) (ci := 12) (v := .int (v 7 0)) (C := RX12) (T := TX12) (N := 52) hx hb hts hinX12 hown hK.1 hP 0 rfl rfl 7 (by decide) (hts (.fieldLink RX12 126 "RopeScaleModel" "place0" "I") (List.mem_of_getElem? (i := 1) rfl)) (fun _ h9 => h9) rfl dX12_readsAmount_35 ?_
      refine lv_iload_n hx hb dX12_readsAmount_38 rfl (lv_at hl 2 rfl) ?_
      refine lv_iconst (v := 3) hx hb dX12_readsAmount_39 (by decide) ?_
      refine lv_iadd hx hb dX12_readsAmount_40 ?_
      refine lv_icmp_ne (tgt := 54) hx hb dX12_readsAmount_41 (by decide) (fun c6 => ?_) (fun c6 => ?_)
      · replace hf := ifn c6 hf
        refine lv_aload_n hx hb dX12_readsAmount_54 rfl (lv_at hl 0 rfl) ?_
        refine lv_bipush (v := 10) hx hb dX12_readsAmount_55 (by decide) ?_
        refine lv_aload_n hx hb dX12_readsAmount_57 rfl (lv_at hl 0 rfl) ?_
        refine va_get (D := D) (ci := 12) (v := .int (v 10 0)) (C := RX12) (T := TX12) (N := 52) hx hb hts hinX12 hown hK.1 hP 0 rfl rfl 10 (by decide) (hts (.fieldLink RX12 143 "RopeScaleModel" "number0" "I") (List.mem_of_getElem? (i := 2) rfl)) (fun _ h9 => h9) rfl dX12_readsAmount_58 ?_
        refine lv_imul hx hb dX12_readsAmount_61 ?_
        refine lv_aload_n hx hb dX12_readsAmount_62 rfl (lv_at hl 0 rfl) ?_
        obtain ⟨z7, hz7, hf⟩ := bnd hf
        refine cVR (As := []) (rest := [.int (10 * (v 10 0)), .ref h]) ⟨hx, hb, hml, hown, hts⟩ (mX12_here l D T h a v z7 hz7) (cwV 0 hts gX12_readsAmount_X12_here rfl rfl rfl (by decide +kernel) ⟨Nat.le_of_ble_eq_true rfl, Nat.le_of_ble_eq_true rfl⟩) (va_recv hK.1 hP (ci := 12) (q0 := 0) rfl rfl) hP hK rfl hl.1 rfl (Nat.le_of_ble_eq_true rfl) dX12_readsAmount_63 ⟨Nat.le_of_ble_eq_true rfl, Nat.le_of_ble_eq_true rfl⟩ hP hS (fun H locs hP hS => ?_)
        refine lv_iadd hx hb dX12_readsAmount_66 ?_
        refine lv_bipush (v := 48) hx hb dX12_readsAmount_67 (by decide) ?_
        refine lv_isub hx hb dX12_readsAmount_69 ?_
        obtain ⟨u8, eu8, hf⟩ := lett_e hf
        refine va_put (D := D) (ci := 12) (v := .int (((10 * (v 10 0)) + z7) - 48)) (ty := .int) (C := RX12) (T := TX12) (N := 52) hx hb hts hinX12 tyX12 tyX12_ok nmX12 hown hK.1 hP hD hS 0 rfl rfl 10 (by decide) (hts (.fieldLink RX12 143 "RopeScaleModel" "number0" "I") (List.mem_of_getElem? (i := 2) rfl)) (fun _ h9 => h9) rfl (tyX12_ok 10 (by decide)) rfl rfl (Nat.le_of_ble_eq_true rfl) dX12_readsAmount_70 (fun H locs hP hD hS => ?_)
        have hP : va_P D vwCl (kX12 T h a u8) H := by rw [eu8]; exact hP
        have hD : va_D (va_A (kX12 T h a u) s.heap.size) (kX12 T h a u8) := by rw [eu8]; exact hD
        refine lv_aload_n hx hb dX12_readsAmount_73 rfl (lv_at hl 0 rfl) ?_
        refine lv_aload_n hx hb dX12_readsAmount_74 rfl (lv_at hl 0 rfl) ?_
        refine va_get (D := D) (ci := 12) (v := .int (u8 7 0)) (C := RX12) (T := TX12) (N := 52) hx hb hts hinX12 hown hK.1 hP 0 rfl rfl 7 (by decide) (hts (.fieldLink RX12 126 "RopeScaleModel" "place0" "I") (List.mem_of_getElem? (i := 1) rfl)) (fun _ h9 => h9) rfl dX12_readsAmount_75 ?_
        refine lv_iconst (v := 1) hx hb dX12_readsAmount_78 (by decide) ?_
        refine lv_iadd hx hb dX12_readsAmount_79 ?_
        obtain ⟨u9, eu9, hf⟩ := lett_e hf
        refine va_put (D := D) (ci := 12) (v := .int ((u8 7 0) + 1)) (ty := .int) (C := RX12) (T := TX12) (N := 52) hx hb hts hinX12 tyX12 tyX12_ok nmX12 hown hK.1 hP hD hS 0 rfl rfl 7 (by decide) (hts (.fieldLink RX12 126 "RopeScaleModel" "place0" "I") (List.mem_of_getElem? (i := 1) rfl)) (fun _ h9 => h9) rfl (tyX12_ok 7 (by decide)) rfl rfl (Nat.le_of_ble_eq_true rfl) dX12_readsAmount_80 (fun H locs hP hD hS => ?_)
        have hP : va_P D vwCl (kX12 T h a u9) H := by rw [eu9]; exact hP
        have hD : va_D (va_A (kX12 T h a u) s.heap.size) (kX12 T h a u9) := by rw [eu9]; exact hD
        refine lv_goto (tgt := 27) hx hb dX12_readsAmount_83 (by decide) ?_
        exact ih27 u9 x1 x2 _ _ _ hf hP hD hS (lv_sub hl [0, 1, 2] rfl)
      replace hf := ifp c6 hf
      refine lv_aload_n hx hb dX12_readsAmount_44 rfl (lv_at hl 0 rfl) ?_
      refine lv_iconst (v := 2) hx hb dX12_readsAmount_45 (by decide) ?_
      refine lv_aload_n hx hb dX12_readsAmount_46 rfl (lv_at hl 0 rfl) ?_
      refine va_get (D := D) (ci := 12) (v := .int (v 7 0)) (C := RX12) (T := TX12) (N := 52) hx hb hts hinX12 hown hK.1 hP 0 rfl rfl 7 (by decide) (hts (.fieldLink RX12 126 "RopeScaleModel" "place0" "I") (List.mem_of_getElem? (i := 1) rfl)) (fun _ h9 => h9) rfl dX12_readsAmount_47 ?_
      obtain ⟨z10, hz10, hf⟩ := lett_e hf
      have hFc9 := vaA_self hD hS hA
      refine cVM (As := [.int 2, .int (v 7 0)]) (rest := []) ⟨hx, hb, hml, hown, hts⟩ (mX12_wrongAt l D T h a v _ 2 (v 7 0) z10 hz10.symm) (cwV 2 hts gX12_readsAmount_X12_wrongAt rfl rfl rfl (by decide +kernel) ⟨Nat.le_of_ble_eq_true rfl, Nat.le_of_ble_eq_true rfl⟩) (va_recv hK.1 hP (ci := 12) (q0 := 0) rfl rfl) hP hK rfl hl.1 rfl (Nat.le_of_ble_eq_true rfl) dX12_readsAmount_50 ⟨Nat.le_of_ble_eq_true rfl, Nat.le_of_ble_eq_true rfl⟩ hD hFc9 hS (fun H locs hP hD1 _ hS => ?_)
      have hD := hD1.weaken (fun _ _ _ h9 => hFc9 _ h9)
      obtain ⟨hz9, hf⟩ := zb_e hf
      have e9 := Option.some.inj hf
      exact retMz hx hb hr hlocks hP hD hS hz9 (congrArg (fun z => z.1) e9) (congrArg (fun z => (kX12 T h a z.2 : va_W)) e9) dX12_readsAmount_53
  unfold fX12_readsAmount at hf
  refine lv_aload_n hx hb dX12_readsAmount_0 rfl (lv_at hl 0 rfl) ?_
  refine va_get (D := D) (ci := 12) (v := .int (u 7 0)) (C := RX12) (T := TX12) (N := 52) hx hb hts hinX12 hown hK.1 hP 0 rfl rfl 7 (by decide) (hts (.fieldLink RX12 126 "RopeScaleModel" "place0" "I") (List.mem_of_getElem? (i := 1) rfl)) (fun _ h9 => h9) rfl dX12_readsAmount_1 ?_
  obtain ⟨t11, et11, hf⟩ := lett_e hf
  refine lv_eqi et11 ?_
  refine lv_istore_n (lv' := [(2, .int t11), (0, .ref h), (1, .int p1)]) hx hb dX12_readsAmount_4 rfl hl (by decide) rfl (fun ls hl => ?_)
  refine lv_aload_n hx hb dX12_readsAmount_5 rfl (lv_at hl 1 rfl) ?_
  obtain ⟨z12, hz12, hf⟩ := bnd hf
  refine cVR (As := []) (rest := []) ⟨hx, hb, hml, hown, hts⟩ (mX12_isDigit l D T h a u z12 hz12) (cwV 0 hts gX12_readsAmount_X12_isDigit rfl rfl rfl (by decide +kernel) ⟨Nat.le_of_ble_eq_true rfl, Nat.le_of_ble_eq_true rfl⟩) (va_recv hK.1 hP (ci := 12) (q0 := 0) rfl rfl) hP hK rfl hl.1 rfl (Nat.le_of_ble_eq_true rfl) dX12_readsAmount_6 ⟨Nat.le_of_ble_eq_true rfl, Nat.le_of_ble_eq_true rfl⟩ hP hS (fun H locs hP hS => ?_)
  refine lv_if_ne (tgt := 22) hx hb dX12_readsAmount_9 (by decide) (fun c13 => ?_) (fun c13 => ?_)
  · replace hf := ifn c13 hf
    refine lv_aload_n hx hb dX12_readsAmount_22 rfl (lv_at hl 1 rfl) ?_
    refine lv_iconst (v := 0) hx hb dX12_readsAmount_23 (by decide) ?_
    obtain ⟨u14, eu14, hf⟩ := lett_e hf
    refine va_put (D := D) (ci := 12) (v := .int 0) (ty := .int) (C := RX12) (T := TX12) (N := 52) hx hb hts hinX12 tyX12 tyX12_ok nmX12 hown hK.1 hP hD hS 0 rfl rfl 10 (by decide) (hts (.fieldLink RX12 143 "RopeScaleModel" "number0" "I") (List.mem_of_getElem? (i := 2) rfl)) (fun _ h9 => h9) rfl (tyX12_ok 10 (by decide)) rfl rfl (Nat.le_of_ble_eq_true rfl) dX12_readsAmount_24 (fun H locs hP hD hS => ?_)
    have hP : va_P D vwCl (kX12 T h a u14) H := by rw [eu14]; exact hP
    have hD : va_D (va_A (kX12 T h a u) s.heap.size) (kX12 T h a u14) := by rw [eu14]; exact hD
    exact L27 FU u14 p1 t11 _ _ _ hf hP hD hS (lv_sub hl [1, 2, 0] rfl)
  replace hf := ifp c13 hf
  refine lv_aload_n hx hb dX12_readsAmount_12 rfl (lv_at hl 1 rfl) ?_
  refine lv_iconst (v := 1) hx hb dX12_readsAmount_13 (by decide) ?_
  refine lv_aload_n hx hb dX12_readsAmount_14 rfl (lv_at hl 1 rfl) ?_
  refine va_get (D := D) (ci := 12) (v := .int (u 7 0)) (C := RX12) (T := TX12) (N := 52) hx hb hts hinX12 hown hK.1 hP 0 rfl rfl 7 (by decide) (hts (.fieldLink RX12 126 "RopeScaleModel" "place0" "I") (List.mem_of_getElem? (i := 1) rfl)) (fun _ h9 => h9) rfl dX12_readsAmount_15 ?_
  obtain ⟨z15, hz15, hf⟩ := lett_e hf
  have hFc9 := vaA_self hD hS hA
  refine cVM (As := [.int 1, .int (u 7 0)]) (rest := []) ⟨hx, hb, hml, hown, hts⟩ (mX12_wrongAt l D T h a u _ 1 (u 7 0) z15 hz15.symm) (cwV 2 hts gX12_readsAmount_X12_wrongAt rfl rfl rfl (by decide +kernel) ⟨Nat.le_of_ble_eq_true rfl, Nat.le_of_ble_eq_true rfl⟩) (va_recv hK.1 hP (ci := 12) (q0 := 0) rfl rfl) hP hK rfl hl.1 rfl (Nat.le_of_ble_eq_true rfl) dX12_readsAmount_18 ⟨Nat.le_of_ble_eq_true rfl, Nat.le_of_ble_eq_true rfl⟩ hD hFc9 hS (fun H locs hP hD1 _ hS => ?_)
  have hD := hD1.weaken (fun _ _ _ h9 => hFc9 _ h9)
  obtain ⟨hz9, hf⟩ := zb_e hf
  have e9 := Option.some.inj hf
  exact retMz hx hb hr hlocks hP hD hS hz9 (congrArg (fun z => z.1) e9) (congrArg (fun z => (kX12 T h a z.2 : va_W)) e9) dX12_readsAmount_21
def fX12_readsLine  (u : St)  : Option (Int32 × St) := (fX12_here u).bind fun z1 => lett (z1 - 97) fun t2 => lett (fX12_in t2 0 15) fun z3 => if z3 = 0 then lett (fX12_wrongAt u 1 (u 7 0)) fun z45 => zb z45.1 <| some (z45.1, z45.2) else if (u 29 0) = 20 then lett (fX12_wrongAt u 4 (u 7 0)) fun z44 => zb z44.1 <| some (z44.1, z44.2) else (fX12_isTold u t2).bind fun z6 => if z6 = 0 then lett (fX12_wrongAt u 7 (u 7 0)) fun z43 => zb z43.1 <| some (z43.1, z43.2) else lett (st u 29 0 ((u 29 0) + 1)) fun u8 => lett (st u8 7 0 ((u8 7 0) + 1)) fun u9 => (fX12_here u9).bind fun z10 => lett (st u9 7 0 ((u9 7 0) + 1)) fun u11 => if z10 = 43 then (fX12_readsAmount u11 0).bind fun z13 => if z13.1 = 0 then some (0, z13.2) else gd (16 + t2) 98 <| lett (fX12_min 999 ((z13.2 0 (ix (16 + t2))) + (z13.2 10 0))) fun z15 => gd (16 + t2) 98 <| lett (st z13.2 0 (ix (16 + t2)) z15) fun u16 => some (1, u16) else if z10 = 45 then (fX12_readsAmount u11 0).bind fun z20 => if z20.1 = 0 then some (0, z20.2) else gd (16 + t2) 98 <| lett (fX12_max 1 ((z20.2 0 (ix (16 + t2))) - (z20.2 10 0))) fun z22 => gd (16 + t2) 98 <| lett (st z20.2 0 (ix (16 + t2)) z22) fun u23 => some (1, u23) else if z10 = 60 then gd (48 + t2) 98 <| lett (st u11 0 (ix (48 + t2)) 0) fun u27 => some (1, u27) else if z10 = 61 then (fX12_readsAmount u11 1).bind fun z30 => if z30.1 = 0 then some (0, z30.2) else gd (16 + t2) 98 <| lett (st z30.2 0 (ix (16 + t2)) (z30.2 10 0)) fun u32 => some (1, u32) else if z10 = 62 then gd (48 + t2) 98 <| lett (st u11 0 (ix (48 + t2)) 1) fun u35 => some (1, u35) else if z10 = 63 then (fX12_readsAmount u11 1).bind fun z38 => if z38.1 = 0 then some (0, z38.2) else gd (32 + t2) 98 <| lett (st z38.2 0 (ix (32 + t2)) (z38.2 10 0)) fun u40 => some (1, u40) else lett (fX12_wrongAt u11 1 ((u11 7 0) - 1)) fun z42 => zb z42.1 <| some (z42.1, z42.2)
set_option maxHeartbeats 4000000 in
set_option maxRecDepth 100000 in
theorem mX12_readsLine (l : Launch) (D : va_G) (T : Ty3) (h : Nat) (a : Nat → Nat) (u : St) (sz : Nat)  (res : Int32 × St) (hf : fX12_readsLine u = some res) : Met l yX12_readsLine wsX12_readsLine ({ frames := 3, cells := 0, slots := 0, locals := 62 }) (PcM D T (kX12 T h a u) sz [.ref h]) (QM D (kX12 T h a u) sz res.1 (kX12 T h a res.2)) 0 0 (va_A (kX12 T h a u) sz) := by
  refine Met.ofW (cc := cX12_readsLine) (maxL := 3) (ret := (some .boolean)) (by decide) rfl ?_
  intro p e s m args below meth c s₁ B hml hv
  obtain ⟨rfl, hsz, hP, hK, hD0⟩ := hv
  have hx := B.exec
  have hb := B.bytes
  have hr := B.returns
  have hts := atoms_spec (ws := wsX12_readsLine) B.pre
  have hown : s.vm.findClass RX12 = some m.cls := findClass_of_methodNamed B.named
  have hlocks := B.notSynchronized
  subst hsz
  have hD := hD0.self (sz := s.heap.size)
  have hA : ∀ q : Nat, s.heap.size ≤ q → va_A (kX12 T h a u) s.heap.size q := fun q h => Or.inr h
  have hS : va_S (va_A (kX12 T h a u) s.heap.size) s.heap s.heap [] := va_S.rf
  have hinX12 : ∀ w ∈ u_ws RX12 TX12 52, w ∈ wsX12_readsLine := fun w h => List.mem_cons_of_mem _ (List.mem_append_right _ h)
  have hl := lv_entry ([.ref h]) (n := 3) (Nat.le_of_ble_eq_true rfl)
  rw [lg_entry_eq]
  generalize (lg_sl ([.ref h]) ++ List.replicate (3 - (lg_sl ([.ref h])).length) Slot.unset).toArray = ls at hl ⊢
  have hl : lv_has ls 3 [(0, .ref h)] := hl
  unfold fX12_readsLine at hf
  refine lv_aload_n hx hb dX12_readsLine_0 rfl (lv_at hl 0 rfl) ?_
  obtain ⟨z1, hz1, hf⟩ := bnd hf
  refine cVR (As := []) (rest := []) ⟨hx, hb, hml, hown, hts⟩ (mX12_here l D T h a u z1 hz1) (cwV 0 hts gX12_readsLine_X12_here rfl rfl rfl (by decide +kernel) ⟨Nat.le_of_ble_eq_true rfl, Nat.le_of_ble_eq_true rfl⟩) (va_recv hK.1 hP (ci := 12) (q0 := 0) rfl rfl) hP hK rfl hl.1 rfl (Nat.le_of_ble_eq_true rfl) dX12_readsLine_1 ⟨Nat.le_of_ble_eq_true rfl, Nat.le_of_ble_eq_true rfl⟩ hP hS (fun H locs hP hS => ?_)
  refine lv_bipush (v := 97) hx hb dX12_readsLine_4 (by decide) ?_
  refine lv_isub hx hb dX12_readsLine_6 ?_
  obtain ⟨t2, et2, hf⟩ := lett_e hf
  refine lv_eqi et2 ?_
  refine lv_istore_n (lv' := [(1, .int t2), (0, .ref h)]) hx hb dX12_readsLine_7 rfl hl (by decide) rfl (fun ls hl => ?_)
  refine lv_iload_n hx hb dX12_readsLine_8 rfl (lv_at hl 0 rfl) ?_
  refine lv_iconst (v := 0) hx hb dX12_readsLine_9 (by decide) ?_
  refine lv_bipush (v := 15) hx hb dX12_readsLine_10 (by decide) ?_
  obtain ⟨z3, hz3, hf⟩ := lett_e hf
  refine cSR (As := [.int t2, .int 0, .int 15]) (rest := []) ⟨hx, hb, hml, hown, hts⟩ (mX12_in l D T t2 0 15 z3 hz3.symm) (va_cwS 3 hts gX12_readsLine_X12_in rfl rfl rfl (by decide +kernel) ⟨Nat.le_of_ble_eq_true rfl, Nat.le_of_ble_eq_true rfl⟩) P0 hK rfl hl.1 rfl (Nat.le_of_ble_eq_true rfl) dX12_readsLine_12 ⟨Nat.le_of_ble_eq_true rfl, Nat.le_of_ble_eq_true rfl⟩ hP hS (fun H locs hP hS => ?_)
  refine lv_if_ne (tgt := 28) hx hb dX12_readsLine_15 (by decide) (fun c4 => ?_) (fun c4 => ?_)
  · replace hf := ifn c4 hf
    refine lv_aload_n hx hb dX12_readsLine_28 rfl (lv_at hl 1 rfl) ?_
    refine va_get (D := D) (ci := 12) (v := .int (u 29 0)) (C := RX12) (T := TX12) (N := 52) hx hb hts hinX12 hown hK.1 hP 0 rfl rfl 29 (by decide) (hts (.fieldLink RX12 243 "RopeScaleModel" "lines" "I") (List.mem_of_getElem? (i := 2) rfl)) (fun _ h9 => h9) rfl dX12_readsLine_29 ?_
    refine lv_bipush (v := 20) hx hb dX12_readsLine_32 (by decide) ?_
    refine lv_icmp_ne (tgt := 47) hx hb dX12_readsLine_34 (by decide) (fun c5 => ?_) (fun c5 => ?_)
    · replace hf := ifn c5 hf
      refine lv_aload_n hx hb dX12_readsLine_47 rfl (lv_at hl 1 rfl) ?_
      refine lv_iload_n hx hb dX12_readsLine_48 rfl (lv_at hl 0 rfl) ?_
      obtain ⟨z6, hz6, hf⟩ := bnd hf
      refine cVR (As := [.int t2]) (rest := []) ⟨hx, hb, hml, hown, hts⟩ (mX12_isTold l D T h a u t2 z6 hz6) (cwV 1 hts gX12_readsLine_X12_isTold rfl rfl rfl (by decide +kernel) ⟨Nat.le_of_ble_eq_true rfl, Nat.le_of_ble_eq_true rfl⟩) (va_recv hK.1 hP (ci := 12) (q0 := 0) rfl rfl) hP hK rfl hl.1 rfl (Nat.le_of_ble_eq_true rfl) dX12_readsLine_49 ⟨Nat.le_of_ble_eq_true rfl, Nat.le_of_ble_eq_true rfl⟩ hP hS (fun H locs hP hS => ?_)
      refine lv_if_ne (tgt := 66) hx hb dX12_readsLine_52 (by decide) (fun c7 => ?_) (fun c7 => ?_)
      · replace hf := ifn c7 hf
        refine lv_aload_n hx hb dX12_readsLine_66 rfl (lv_at hl 1 rfl) ?_
        refine lv_aload_n hx hb dX12_readsLine_67 rfl (lv_at hl 1 rfl) ?_
        refine va_get (D := D) (ci := 12) (v := .int (u 29 0)) (C := RX12) (T := TX12) (N := 52) hx hb hts hinX12 hown hK.1 hP 0 rfl rfl 29 (by decide) (hts (.fieldLink RX12 243 "RopeScaleModel" "lines" "I") (List.mem_of_getElem? (i := 2) rfl)) (fun _ h9 => h9) rfl dX12_readsLine_68 ?_
        refine lv_iconst (v := 1) hx hb dX12_readsLine_71 (by decide) ?_
        refine lv_iadd hx hb dX12_readsLine_72 ?_
        obtain ⟨u8, eu8, hf⟩ := lett_e hf
        refine va_put (D := D) (ci := 12) (v := .int ((u 29 0) + 1)) (ty := .int) (C := RX12) (T := TX12) (N := 52) hx hb hts hinX12 tyX12 tyX12_ok nmX12 hown hK.1 hP hD hS 0 rfl rfl 29 (by decide) (hts (.fieldLink RX12 243 "RopeScaleModel" "lines" "I") (List.mem_of_getElem? (i := 2) rfl)) (fun _ h9 => h9) rfl (tyX12_ok 29 (by decide)) rfl rfl (Nat.le_of_ble_eq_true rfl) dX12_readsLine_73 (fun H locs hP hD hS => ?_)
        have hP : va_P D vwCl (kX12 T h a u8) H := by rw [eu8]; exact hP
        have hD : va_D (va_A (kX12 T h a u) s.heap.size) (kX12 T h a u8) := by rw [eu8]; exact hD
        refine lv_aload_n hx hb dX12_readsLine_76 rfl (lv_at hl 1 rfl) ?_
        refine lv_aload_n hx hb dX12_readsLine_77 rfl (lv_at hl 1 rfl) ?_
        refine va_get (D := D) (ci := 12) (v := .int (u8 7 0)) (C := RX12) (T := TX12) (N := 52) hx hb hts hinX12 hown hK.1 hP 0 rfl rfl 7 (by decide) (hts (.fieldLink RX12 126 "RopeScaleModel" "place0" "I") (List.mem_of_getElem? (i := 1) rfl)) (fun _ h9 => h9) rfl dX12_readsLine_78 ?_
        refine lv_iconst (v := 1) hx hb dX12_readsLine_81 (by decide) ?_
        refine lv_iadd hx hb dX12_readsLine_82 ?_
        obtain ⟨u9, eu9, hf⟩ := lett_e hf
        refine va_put (D := D) (ci := 12) (v := .int ((u8 7 0) + 1)) (ty := .int) (C := RX12) (T := TX12) (N := 52) hx hb hts hinX12 tyX12 tyX12_ok nmX12 hown hK.1 hP hD hS 0 rfl rfl 7 (by decide) (hts (.fieldLink RX12 126 "RopeScaleModel" "place0" "I") (List.mem_of_getElem? (i := 1) rfl)) (fun _ h9 => h9) rfl (tyX12_ok 7 (by decide)) rfl rfl (Nat.le_of_ble_eq_true rfl) dX12_readsLine_83 (fun H locs hP hD hS => ?_)
        have hP : va_P D vwCl (kX12 T h a u9) H := by rw [eu9]; exact hP
        have hD : va_D (va_A (kX12 T h a u) s.heap.size) (kX12 T h a u9) := by rw [eu9]; exact hD
        refine lv_aload_n hx hb dX12_readsLine_86 rfl (lv_at hl 1 rfl) ?_
        obtain ⟨z10, hz10, hf⟩ := bnd hf
        refine cVR (As := []) (rest := []) ⟨hx, hb, hml, hown, hts⟩ (mX12_here l D T h a u9 z10 hz10) (cwV 0 hts gX12_readsLine_X12_here rfl rfl rfl (by decide +kernel) ⟨Nat.le_of_ble_eq_true rfl, Nat.le_of_ble_eq_true rfl⟩) (va_recv hK.1 hP (ci := 12) (q0 := 0) rfl rfl) hP hK rfl hl.1 rfl (Nat.le_of_ble_eq_true rfl) dX12_readsLine_87 ⟨Nat.le_of_ble_eq_true rfl, Nat.le_of_ble_eq_true rfl⟩ hP hS (fun H locs hP hS => ?_)
        refine lv_istore_n (lv' := [(2, .int z10), (1, .int t2), (0, .ref h)]) hx hb dX12_readsLine_90 rfl hl (by decide) rfl (fun ls hl => ?_)
        refine lv_aload_n hx hb dX12_readsLine_91 rfl (lv_at hl 2 rfl) ?_
        refine lv_aload_n hx hb dX12_readsLine_92 rfl (lv_at hl 2 rfl) ?_
        refine va_get (D := D) (ci := 12) (v := .int (u9 7 0)) (C := RX12) (T := TX12) (N := 52) hx hb hts hinX12 hown hK.1 hP 0 rfl rfl 7 (by decide) (hts (.fieldLink RX12 126 "RopeScaleModel" "place0" "I") (List.mem_of_getElem? (i := 1) rfl)) (fun _ h9 => h9) rfl dX12_readsLine_93 ?_
        refine lv_iconst (v := 1) hx hb dX12_readsLine_96 (by decide) ?_
        refine lv_iadd hx hb dX12_readsLine_97 ?_
        obtain ⟨u11, eu11, hf⟩ := lett_e hf
        refine va_put (D := D) (ci := 12) (v := .int ((u9 7 0) + 1)) (ty := .int) (C := RX12) (T := TX12) (N := 52) hx hb hts hinX12 tyX12 tyX12_ok nmX12 hown hK.1 hP hD hS 0 rfl rfl 7 (by decide) (hts (.fieldLink RX12 126 "RopeScaleModel" "place0" "I") (List.mem_of_getElem? (i := 1) rfl)) (fun _ h9 => h9) rfl (tyX12_ok 7 (by decide)) rfl rfl (Nat.le_of_ble_eq_true rfl) dX12_readsLine_98 (fun H locs hP hD hS => ?_)
        have hP : va_P D vwCl (kX12 T h a u11) H := by rw [eu11]; exact hP
        have hD : va_D (va_A (kX12 T h a u) s.heap.size) (kX12 T h a u11) := by rw [eu11]; exact hD
        refine lv_iload_n hx hb dX12_readsLine_101 rfl (lv_at hl 0 rfl) ?_
        by_cases c12 : z10 = 43
        · replace hf := ifp c12 hf
          refine lv_lookup (off := 132) (tgt := 234) hx hb dX12_readsLine_102 (by decide) (by rw [c12]; rfl) (by decide) ?_
          refine lv_aload_n hx hb dX12_readsLine_234 rfl (lv_at hl 2 rfl) ?_
          refine lv_iconst (v := 0) hx hb dX12_readsLine_235 (by decide) ?_
          obtain ⟨z13, hz13, hf⟩ := bnd hf
          have hFc9 := vaA_self hD hS hA
          refine cVM (As := [.int 0]) (rest := []) ⟨hx, hb, hml, hown, hts⟩ (mX12_readsAmount l D T h a u11 _ 0 z13 hz13) (cwV 1 hts gX12_readsLine_X12_readsAmount rfl rfl rfl (by decide +kernel) ⟨Nat.le_of_ble_eq_true rfl, Nat.le_of_ble_eq_true rfl⟩) (va_recv hK.1 hP (ci := 12) (q0 := 0) rfl rfl) hP hK rfl hl.1 rfl (Nat.le_of_ble_eq_true rfl) dX12_readsLine_236 ⟨Nat.le_of_ble_eq_true rfl, Nat.le_of_ble_eq_true rfl⟩ hD hFc9 hS (fun H locs hP hD1 _ hS => ?_)
          have hD := hD1.weaken (fun _ _ _ h9 => hFc9 _ h9)
          refine lv_if_ne (tgt := 244) hx hb dX12_readsLine_239 (by decide) (fun c14 => ?_) (fun c14 => ?_)
          · replace hf := ifn c14 hf
            refine lv_aload_n hx hb dX12_readsLine_244 rfl (lv_at hl 2 rfl) ?_
            refine va_get (D := D) (ci := 12) (v := .ref (a 0)) (C := RX12) (T := TX12) (N := 52) hx hb hts hinX12 hown hK.1 hP 0 rfl rfl 0 (by decide) (hts (.fieldLink RX12 7 "RopeScaleModel" "now" "[I") (List.mem_of_getElem? (i := 3) rfl)) (fun _ h9 => h9) rfl dX12_readsLine_245 ?_
            refine lv_bipush (v := 16) hx hb dX12_readsLine_248 (by decide) ?_
            refine lv_iload_n hx hb dX12_readsLine_250 rfl (lv_at hl 1 rfl) ?_
            refine lv_iadd hx hb dX12_readsLine_251 ?_
            refine lv_sipush (v := 999) hx hb dX12_readsLine_252 (by decide) ?_
            refine lv_aload_n hx hb dX12_readsLine_255 rfl (lv_at hl 2 rfl) ?_
            refine va_get (D := D) (ci := 12) (v := .ref (a 0)) (C := RX12) (T := TX12) (N := 52) hx hb hts hinX12 hown hK.1 hP 0 rfl rfl 0 (by decide) (hts (.fieldLink RX12 7 "RopeScaleModel" "now" "[I") (List.mem_of_getElem? (i := 3) rfl)) (fun _ h9 => h9) rfl dX12_readsLine_256 ?_
            refine lv_bipush (v := 16) hx hb dX12_readsLine_259 (by decide) ?_
            refine lv_iload_n hx hb dX12_readsLine_261 rfl (lv_at hl 1 rfl) ?_
            refine lv_iadd hx hb dX12_readsLine_262 ?_
            obtain ⟨h18, hf⟩ := gd_e hf
            refine va_iald hx hb hK.1 hP 1 0 rfl rfl h18 dX12_readsLine_263 ?_
            refine lv_aload_n hx hb dX12_readsLine_264 rfl (lv_at hl 2 rfl) ?_
            refine va_get (D := D) (ci := 12) (v := .int (z13.2 10 0)) (C := RX12) (T := TX12) (N := 52) hx hb hts hinX12 hown hK.1 hP 0 rfl rfl 10 (by decide) (hts (.fieldLink RX12 143 "RopeScaleModel" "number0" "I") (List.mem_of_getElem? (i := 4) rfl)) (fun _ h9 => h9) rfl dX12_readsLine_265 ?_
            refine lv_iadd hx hb dX12_readsLine_268 ?_
            obtain ⟨z15, hz15, hf⟩ := lett_e hf
            refine cSR (As := [.int 999, .int ((z13.2 0 (ix (16 + t2))) + (z13.2 10 0))]) (rest := [.int (16 + t2), .ref (a 0)]) ⟨hx, hb, hml, hown, hts⟩ (mX12_min l D T 999 ((z13.2 0 (ix (16 + t2))) + (z13.2 10 0)) z15 hz15.symm) (va_cwS 2 hts gX12_readsLine_X12_min rfl rfl rfl (by decide +kernel) ⟨Nat.le_of_ble_eq_true rfl, Nat.le_of_ble_eq_true rfl⟩) P0 hK rfl hl.1 rfl (Nat.le_of_ble_eq_true rfl) dX12_readsLine_269 ⟨Nat.le_of_ble_eq_true rfl, Nat.le_of_ble_eq_true rfl⟩ hP hS (fun H locs hP hS => ?_)
            obtain ⟨h17, hf⟩ := gd_e hf
            obtain ⟨u16, eu16, hf⟩ := lett_e hf
            refine va_iast hx hb hK.1 hP hD hS 1 0 rfl rfl h17 dX12_readsLine_272 (fun H locs hP hD hS => ?_)
            have hP : va_P D vwCl (kX12 T h a u16) H := by rw [eu16]; exact hP
            have hD : va_D (va_A (kX12 T h a u) s.heap.size) (kX12 T h a u16) := by rw [eu16]; exact hD
            refine lv_iconst (v := 1) hx hb dX12_readsLine_273 (by decide) ?_
            have e9 := Option.some.inj hf
            exact retMz hx hb hr hlocks hP hD hS rfl (congrArg (fun z => z.1) e9) (congrArg (fun z => (kX12 T h a z.2 : va_W)) e9) dX12_readsLine_274
          replace hf := ifp c14 hf
          refine lv_iconst (v := 0) hx hb dX12_readsLine_242 (by decide) ?_
          have e9 := Option.some.inj hf
          exact retMz hx hb hr hlocks hP hD hS rfl (congrArg (fun z => z.1) e9) (congrArg (fun z => (kX12 T h a z.2 : va_W)) e9) dX12_readsLine_243
        replace hf := ifn c12 hf
        by_cases c19 : z10 = 45
        · replace hf := ifp c19 hf
          refine lv_lookup (off := 173) (tgt := 275) hx hb dX12_readsLine_102 (by decide) (by rw [c19]; rfl) (by decide) ?_
          refine lv_aload_n hx hb dX12_readsLine_275 rfl (lv_at hl 2 rfl) ?_
          refine lv_iconst (v := 0) hx hb dX12_readsLine_276 (by decide) ?_
          obtain ⟨z20, hz20, hf⟩ := bnd hf
          have hFc9 := vaA_self hD hS hA
          refine cVM (As := [.int 0]) (rest := []) ⟨hx, hb, hml, hown, hts⟩ (mX12_readsAmount l D T h a u11 _ 0 z20 hz20) (cwV 1 hts gX12_readsLine_X12_readsAmount rfl rfl rfl (by decide +kernel) ⟨Nat.le_of_ble_eq_true rfl, Nat.le_of_ble_eq_true rfl⟩) (va_recv hK.1 hP (ci := 12) (q0 := 0) rfl rfl) hP hK rfl hl.1 rfl (Nat.le_of_ble_eq_true rfl) dX12_readsLine_277 ⟨Nat.le_of_ble_eq_true rfl, Nat.le_of_ble_eq_true rfl⟩ hD hFc9 hS (fun H locs hP hD1 _ hS => ?_)
          have hD := hD1.weaken (fun _ _ _ h9 => hFc9 _ h9)
          refine lv_if_ne (tgt := 285) hx hb dX12_readsLine_280 (by decide) (fun c21 => ?_) (fun c21 => ?_)
          · replace hf := ifn c21 hf
            refine lv_aload_n hx hb dX12_readsLine_285 rfl (lv_at hl 2 rfl) ?_
            refine va_get (D := D) (ci := 12) (v := .ref (a 0)) (C := RX12) (T := TX12) (N := 52) hx hb hts hinX12 hown hK.1 hP 0 rfl rfl 0 (by decide) (hts (.fieldLink RX12 7 "RopeScaleModel" "now" "[I") (List.mem_of_getElem? (i := 3) rfl)) (fun _ h9 => h9) rfl dX12_readsLine_286 ?_
            refine lv_bipush (v := 16) hx hb dX12_readsLine_289 (by decide) ?_
            refine lv_iload_n hx hb dX12_readsLine_291 rfl (lv_at hl 1 rfl) ?_
            refine lv_iadd hx hb dX12_readsLine_292 ?_
            refine lv_iconst (v := 1) hx hb dX12_readsLine_293 (by decide) ?_
            refine lv_aload_n hx hb dX12_readsLine_294 rfl (lv_at hl 2 rfl) ?_
            refine va_get (D := D) (ci := 12) (v := .ref (a 0)) (C := RX12) (T := TX12) (N := 52) hx hb hts hinX12 hown hK.1 hP 0 rfl rfl 0 (by decide) (hts (.fieldLink RX12 7 "RopeScaleModel" "now" "[I") (List.mem_of_getElem? (i := 3) rfl)) (fun _ h9 => h9) rfl dX12_readsLine_295 ?_
            refine lv_bipush (v := 16) hx hb dX12_readsLine_298 (by decide) ?_
            refine lv_iload_n hx hb dX12_readsLine_300 rfl (lv_at hl 1 rfl) ?_
            refine lv_iadd hx hb dX12_readsLine_301 ?_
            obtain ⟨h25, hf⟩ := gd_e hf
            refine va_iald hx hb hK.1 hP 1 0 rfl rfl h25 dX12_readsLine_302 ?_
            refine lv_aload_n hx hb dX12_readsLine_303 rfl (lv_at hl 2 rfl) ?_
            refine va_get (D := D) (ci := 12) (v := .int (z20.2 10 0)) (C := RX12) (T := TX12) (N := 52) hx hb hts hinX12 hown hK.1 hP 0 rfl rfl 10 (by decide) (hts (.fieldLink RX12 143 "RopeScaleModel" "number0" "I") (List.mem_of_getElem? (i := 4) rfl)) (fun _ h9 => h9) rfl dX12_readsLine_304 ?_
            refine lv_isub hx hb dX12_readsLine_307 ?_
            obtain ⟨z22, hz22, hf⟩ := lett_e hf
            refine cSR (As := [.int 1, .int ((z20.2 0 (ix (16 + t2))) - (z20.2 10 0))]) (rest := [.int (16 + t2), .ref (a 0)]) ⟨hx, hb, hml, hown, hts⟩ (mX12_max l D T 1 ((z20.2 0 (ix (16 + t2))) - (z20.2 10 0)) z22 hz22.symm) (va_cwS 2 hts gX12_readsLine_X12_max rfl rfl rfl (by decide +kernel) ⟨Nat.le_of_ble_eq_true rfl, Nat.le_of_ble_eq_true rfl⟩) P0 hK rfl hl.1 rfl (Nat.le_of_ble_eq_true rfl) dX12_readsLine_308 ⟨Nat.le_of_ble_eq_true rfl, Nat.le_of_ble_eq_true rfl⟩ hP hS (fun H locs hP hS => ?_)
            obtain ⟨h24, hf⟩ := gd_e hf
            obtain ⟨u23, eu23, hf⟩ := lett_e hf
            refine va_iast hx hb hK.1 hP hD hS 1 0 rfl rfl h24 dX12_readsLine_311 (fun H locs hP hD hS => ?_)
            have hP : va_P D vwCl (kX12 T h a u23) H := by rw [eu23]; exact hP
            have hD : va_D (va_A (kX12 T h a u) s.heap.size) (kX12 T h a u23) := by rw [eu23]; exact hD
            refine lv_iconst (v := 1) hx hb dX12_readsLine_312 (by decide) ?_
            have e9 := Option.some.inj hf
            exact retMz hx hb hr hlocks hP hD hS rfl (congrArg (fun z => z.1) e9) (congrArg (fun z => (kX12 T h a z.2 : va_W)) e9) dX12_readsLine_313
          replace hf := ifp c21 hf
          refine lv_iconst (v := 0) hx hb dX12_readsLine_283 (by decide) ?_
          have e9 := Option.some.inj hf
          exact retMz hx hb hr hlocks hP hD hS rfl (congrArg (fun z => z.1) e9) (congrArg (fun z => (kX12 T h a z.2 : va_W)) e9) dX12_readsLine_284
        replace hf := ifn c19 hf
        by_cases c26 : z10 = 60
        · replace hf := ifp c26 hf
          refine lv_lookup (off := 70) (tgt := 172) hx hb dX12_readsLine_102 (by decide) (by rw [c26]; rfl) (by decide) ?_
          refine lv_aload_n hx hb dX12_readsLine_172 rfl (lv_at hl 2 rfl) ?_
          refine va_get (D := D) (ci := 12) (v := .ref (a 0)) (C := RX12) (T := TX12) (N := 52) hx hb hts hinX12 hown hK.1 hP 0 rfl rfl 0 (by decide) (hts (.fieldLink RX12 7 "RopeScaleModel" "now" "[I") (List.mem_of_getElem? (i := 3) rfl)) (fun _ h9 => h9) rfl dX12_readsLine_173 ?_
          refine lv_bipush (v := 48) hx hb dX12_readsLine_176 (by decide) ?_
          refine lv_iload_n hx hb dX12_readsLine_178 rfl (lv_at hl 1 rfl) ?_
          refine lv_iadd hx hb dX12_readsLine_179 ?_
          refine lv_iconst (v := 0) hx hb dX12_readsLine_180 (by decide) ?_
          obtain ⟨h28, hf⟩ := gd_e hf
          obtain ⟨u27, eu27, hf⟩ := lett_e hf
          refine va_iast hx hb hK.1 hP hD hS 1 0 rfl rfl h28 dX12_readsLine_181 (fun H locs hP hD hS => ?_)
          have hP : va_P D vwCl (kX12 T h a u27) H := by rw [eu27]; exact hP
          have hD : va_D (va_A (kX12 T h a u) s.heap.size) (kX12 T h a u27) := by rw [eu27]; exact hD
          refine lv_iconst (v := 1) hx hb dX12_readsLine_182 (by decide) ?_
          have e9 := Option.some.inj hf
          exact retMz hx hb hr hlocks hP hD hS rfl (congrArg (fun z => z.1) e9) (congrArg (fun z => (kX12 T h a z.2 : va_W)) e9) dX12_readsLine_183
        replace hf := ifn c26 hf
        by_cases c29 : z10 = 61
        · replace hf := ifp c29 hf
          refine lv_lookup (off := 82) (tgt := 184) hx hb dX12_readsLine_102 (by decide) (by rw [c29]; rfl) (by decide) ?_
          refine lv_aload_n hx hb dX12_readsLine_184 rfl (lv_at hl 2 rfl) ?_
          refine lv_iconst (v := 1) hx hb dX12_readsLine_185 (by decide) ?_
          obtain ⟨z30, hz30, hf⟩ := bnd hf
          have hFc9 := vaA_self hD hS hA
          refine cVM (As := [.int 1]) (rest := []) ⟨hx, hb, hml, hown, hts⟩ (mX12_readsAmount l D T h a u11 _ 1 z30 hz30) (cwV 1 hts gX12_readsLine_X12_readsAmount rfl rfl rfl (by decide +kernel) ⟨Nat.le_of_ble_eq_true rfl, Nat.le_of_ble_eq_true rfl⟩) (va_recv hK.1 hP (ci := 12) (q0 := 0) rfl rfl) hP hK rfl hl.1 rfl (Nat.le_of_ble_eq_true rfl) dX12_readsLine_186 ⟨Nat.le_of_ble_eq_true rfl, Nat.le_of_ble_eq_true rfl⟩ hD hFc9 hS (fun H locs hP hD1 _ hS => ?_)
          have hD := hD1.weaken (fun _ _ _ h9 => hFc9 _ h9)
          refine lv_if_ne (tgt := 194) hx hb dX12_readsLine_189 (by decide) (fun c31 => ?_) (fun c31 => ?_)
          · replace hf := ifn c31 hf
            refine lv_aload_n hx hb dX12_readsLine_194 rfl (lv_at hl 2 rfl) ?_
            refine va_get (D := D) (ci := 12) (v := .ref (a 0)) (C := RX12) (T := TX12) (N := 52) hx hb hts hinX12 hown hK.1 hP 0 rfl rfl 0 (by decide) (hts (.fieldLink RX12 7 "RopeScaleModel" "now" "[I") (List.mem_of_getElem? (i := 3) rfl)) (fun _ h9 => h9) rfl dX12_readsLine_195 ?_
            refine lv_bipush (v := 16) hx hb dX12_readsLine_198 (by decide) ?_
            refine lv_iload_n hx hb dX12_readsLine_200 rfl (lv_at hl 1 rfl) ?_
            refine lv_iadd hx hb dX12_readsLine_201 ?_
            refine lv_aload_n hx hb dX12_readsLine_202 rfl (lv_at hl 2 rfl) ?_
            refine va_get (D := D) (ci := 12) (v := .int (z30.2 10 0)) (C := RX12) (T := TX12) (N := 52) hx hb hts hinX12 hown hK.1 hP 0 rfl rfl 10 (by decide) (hts (.fieldLink RX12 143 "RopeScaleModel" "number0" "I") (List.mem_of_getElem? (i := 4) rfl)) (fun _ h9 => h9) rfl dX12_readsLine_203 ?_
            obtain ⟨h33, hf⟩ := gd_e hf
            obtain ⟨u32, eu32, hf⟩ := lett_e hf
            refine va_iast hx hb hK.1 hP hD hS 1 0 rfl rfl h33 dX12_readsLine_206 (fun H locs hP hD hS => ?_)
            have hP : va_P D vwCl (kX12 T h a u32) H := by rw [eu32]; exact hP
            have hD : va_D (va_A (kX12 T h a u) s.heap.size) (kX12 T h a u32) := by rw [eu32]; exact hD
            refine lv_iconst (v := 1) hx hb dX12_readsLine_207 (by decide) ?_
            have e9 := Option.some.inj hf
            exact retMz hx hb hr hlocks hP hD hS rfl (congrArg (fun z => z.1) e9) (congrArg (fun z => (kX12 T h a z.2 : va_W)) e9) dX12_readsLine_208
          replace hf := ifp c31 hf
          refine lv_iconst (v := 0) hx hb dX12_readsLine_192 (by decide) ?_
          have e9 := Option.some.inj hf
          exact retMz hx hb hr hlocks hP hD hS rfl (congrArg (fun z => z.1) e9) (congrArg (fun z => (kX12 T h a z.2 : va_W)) e9) dX12_readsLine_193
        replace hf := ifn c29 hf
        by_cases c34 : z10 = 62
        · replace hf := ifp c34 hf
          refine lv_lookup (off := 58) (tgt := 160) hx hb dX12_readsLine_102 (by decide) (by rw [c34]; rfl) (by decide) ?_
          refine lv_aload_n hx hb dX12_readsLine_160 rfl (lv_at hl 2 rfl) ?_
          refine va_get (D := D) (ci := 12) (v := .ref (a 0)) (C := RX12) (T := TX12) (N := 52) hx hb hts hinX12 hown hK.1 hP 0 rfl rfl 0 (by decide) (hts (.fieldLink RX12 7 "RopeScaleModel" "now" "[I") (List.mem_of_getElem? (i := 3) rfl)) (fun _ h9 => h9) rfl dX12_readsLine_161 ?_
          refine lv_bipush (v := 48) hx hb dX12_readsLine_164 (by decide) ?_
          refine lv_iload_n hx hb dX12_readsLine_166 rfl (lv_at hl 1 rfl) ?_
          refine lv_iadd hx hb dX12_readsLine_167 ?_
          refine lv_iconst (v := 1) hx hb dX12_readsLine_168 (by decide) ?_
          obtain ⟨h36, hf⟩ := gd_e hf
          obtain ⟨u35, eu35, hf⟩ := lett_e hf
          refine va_iast hx hb hK.1 hP hD hS 1 0 rfl rfl h36 dX12_readsLine_169 (fun H locs hP hD hS => ?_)
          have hP : va_P D vwCl (kX12 T h a u35) H := by rw [eu35]; exact hP
          have hD : va_D (va_A (kX12 T h a u) s.heap.size) (kX12 T h a u35) := by rw [eu35]; exact hD
          refine lv_iconst (v := 1) hx hb dX12_readsLine_170 (by decide) ?_
          have e9 := Option.some.inj hf
          exact retMz hx hb hr hlocks hP hD hS rfl (congrArg (fun z => z.1) e9) (congrArg (fun z => (kX12 T h a z.2 : va_W)) e9) dX12_readsLine_171
        replace hf := ifn c34 hf
        by_cases c37 : z10 = 63
        · replace hf := ifp c37 hf
          refine lv_lookup (off := 107) (tgt := 209) hx hb dX12_readsLine_102 (by decide) (by rw [c37]; rfl) (by decide) ?_
          refine lv_aload_n hx hb dX12_readsLine_209 rfl (lv_at hl 2 rfl) ?_
          refine lv_iconst (v := 1) hx hb dX12_readsLine_210 (by decide) ?_
          obtain ⟨z38, hz38, hf⟩ := bnd hf
          have hFc9 := vaA_self hD hS hA
          refine cVM (As := [.int 1]) (rest := []) ⟨hx, hb, hml, hown, hts⟩ (mX12_readsAmount l D T h a u11 _ 1 z38 hz38) (cwV 1 hts gX12_readsLine_X12_readsAmount rfl rfl rfl (by decide +kernel) ⟨Nat.le_of_ble_eq_true rfl, Nat.le_of_ble_eq_true rfl⟩) (va_recv hK.1 hP (ci := 12) (q0 := 0) rfl rfl) hP hK rfl hl.1 rfl (Nat.le_of_ble_eq_true rfl) dX12_readsLine_211 ⟨Nat.le_of_ble_eq_true rfl, Nat.le_of_ble_eq_true rfl⟩ hD hFc9 hS (fun H locs hP hD1 _ hS => ?_)
          have hD := hD1.weaken (fun _ _ _ h9 => hFc9 _ h9)
          refine lv_if_ne (tgt := 219) hx hb dX12_readsLine_214 (by decide) (fun c39 => ?_) (fun c39 => ?_)
          · replace hf := ifn c39 hf
            refine lv_aload_n hx hb dX12_readsLine_219 rfl (lv_at hl 2 rfl) ?_
            refine va_get (D := D) (ci := 12) (v := .ref (a 0)) (C := RX12) (T := TX12) (N := 52) hx hb hts hinX12 hown hK.1 hP 0 rfl rfl 0 (by decide) (hts (.fieldLink RX12 7 "RopeScaleModel" "now" "[I") (List.mem_of_getElem? (i := 3) rfl)) (fun _ h9 => h9) rfl dX12_readsLine_220 ?_
            refine lv_bipush (v := 32) hx hb dX12_readsLine_223 (by decide) ?_
            refine lv_iload_n hx hb dX12_readsLine_225 rfl (lv_at hl 1 rfl) ?_
            refine lv_iadd hx hb dX12_readsLine_226 ?_
            refine lv_aload_n hx hb dX12_readsLine_227 rfl (lv_at hl 2 rfl) ?_
            refine va_get (D := D) (ci := 12) (v := .int (z38.2 10 0)) (C := RX12) (T := TX12) (N := 52) hx hb hts hinX12 hown hK.1 hP 0 rfl rfl 10 (by decide) (hts (.fieldLink RX12 143 "RopeScaleModel" "number0" "I") (List.mem_of_getElem? (i := 4) rfl)) (fun _ h9 => h9) rfl dX12_readsLine_228 ?_
            obtain ⟨h41, hf⟩ := gd_e hf
            obtain ⟨u40, eu40, hf⟩ := lett_e hf
            refine va_iast hx hb hK.1 hP hD hS 1 0 rfl rfl h41 dX12_readsLine_231 (fun H locs hP hD hS => ?_)
            have hP : va_P D vwCl (kX12 T h a u40) H := by rw [eu40]; exact hP
            have hD : va_D (va_A (kX12 T h a u) s.heap.size) (kX12 T h a u40) := by rw [eu40]; exact hD
            refine lv_iconst (v := 1) hx hb dX12_readsLine_232 (by decide) ?_
            have e9 := Option.some.inj hf
            exact retMz hx hb hr hlocks hP hD hS rfl (congrArg (fun z => z.1) e9) (congrArg (fun z => (kX12 T h a z.2 : va_W)) e9) dX12_readsLine_233
          replace hf := ifp c39 hf
          refine lv_iconst (v := 0) hx hb dX12_readsLine_217 (by decide) ?_
          have e9 := Option.some.inj hf
          exact retMz hx hb hr hlocks hP hD hS rfl (congrArg (fun z => z.1) e9) (congrArg (fun z => (kX12 T h a z.2 : va_W)) e9) dX12_readsLine_218
        replace hf := ifn c37 hf
        refine lv_lookup (off := 212) (tgt := 314) hx hb dX12_readsLine_102 (by decide) (by show Op.lookupswitch.offset [(43, 132), (45, 173), (60, 70), (61, 82), (62, 58), (63, 107)] 212 (z10).toInt = _; rw [lv_osw c12 (by decide), lv_osw c19 (by decide), lv_osw c26 (by decide), lv_osw c29 (by decide), lv_osw c34 (by decide), lv_osw c37 (by decide)]; rfl) (by decide) ?_
        refine lv_aload_n hx hb dX12_readsLine_314 rfl (lv_at hl 2 rfl) ?_
        refine lv_iconst (v := 1) hx hb dX12_readsLine_315 (by decide) ?_
        refine lv_aload_n hx hb dX12_readsLine_316 rfl (lv_at hl 2 rfl) ?_
        refine va_get (D := D) (ci := 12) (v := .int (u11 7 0)) (C := RX12) (T := TX12) (N := 52) hx hb hts hinX12 hown hK.1 hP 0 rfl rfl 7 (by decide) (hts (.fieldLink RX12 126 "RopeScaleModel" "place0" "I") (List.mem_of_getElem? (i := 1) rfl)) (fun _ h9 => h9) rfl dX12_readsLine_317 ?_
        refine lv_iconst (v := 1) hx hb dX12_readsLine_320 (by decide) ?_
        refine lv_isub hx hb dX12_readsLine_321 ?_
        obtain ⟨z42, hz42, hf⟩ := lett_e hf
        have hFc9 := vaA_self hD hS hA
        refine cVM (As := [.int 1, .int ((u11 7 0) - 1)]) (rest := []) ⟨hx, hb, hml, hown, hts⟩ (mX12_wrongAt l D T h a u11 _ 1 ((u11 7 0) - 1) z42 hz42.symm) (cwV 2 hts gX12_readsLine_X12_wrongAt rfl rfl rfl (by decide +kernel) ⟨Nat.le_of_ble_eq_true rfl, Nat.le_of_ble_eq_true rfl⟩) (va_recv hK.1 hP (ci := 12) (q0 := 0) rfl rfl) hP hK rfl hl.1 rfl (Nat.le_of_ble_eq_true rfl) dX12_readsLine_322 ⟨Nat.le_of_ble_eq_true rfl, Nat.le_of_ble_eq_true rfl⟩ hD hFc9 hS (fun H locs hP hD1 _ hS => ?_)
        have hD := hD1.weaken (fun _ _ _ h9 => hFc9 _ h9)
        obtain ⟨hz9, hf⟩ := zb_e hf
        have e9 := Option.some.inj hf
        exact retMz hx hb hr hlocks hP hD hS hz9 (congrArg (fun z => z.1) e9) (congrArg (fun z => (kX12 T h a z.2 : va_W)) e9) dX12_readsLine_325
      replace hf := ifp c7 hf
      refine lv_aload_n hx hb dX12_readsLine_55 rfl (lv_at hl 1 rfl) ?_
      refine lv_bipush (v := 7) hx hb dX12_readsLine_56 (by decide) ?_
      refine lv_aload_n hx hb dX12_readsLine_58 rfl (lv_at hl 1 rfl) ?_
      refine va_get (D := D) (ci := 12) (v := .int (u 7 0)) (C := RX12) (T := TX12) (N := 52) hx hb hts hinX12 hown hK.1 hP 0 rfl rfl 7 (by decide) (hts (.fieldLink RX12 126 "RopeScaleModel" "place0" "I") (List.mem_of_getElem? (i := 1) rfl)) (fun _ h9 => h9) rfl dX12_readsLine_59 ?_
      obtain ⟨z43, hz43, hf⟩ := lett_e hf
      have hFc9 := vaA_self hD hS hA
      refine cVM (As := [.int 7, .int (u 7 0)]) (rest := []) ⟨hx, hb, hml, hown, hts⟩ (mX12_wrongAt l D T h a u _ 7 (u 7 0) z43 hz43.symm) (cwV 2 hts gX12_readsLine_X12_wrongAt rfl rfl rfl (by decide +kernel) ⟨Nat.le_of_ble_eq_true rfl, Nat.le_of_ble_eq_true rfl⟩) (va_recv hK.1 hP (ci := 12) (q0 := 0) rfl rfl) hP hK rfl hl.1 rfl (Nat.le_of_ble_eq_true rfl) dX12_readsLine_62 ⟨Nat.le_of_ble_eq_true rfl, Nat.le_of_ble_eq_true rfl⟩ hD hFc9 hS (fun H locs hP hD1 _ hS => ?_)
      have hD := hD1.weaken (fun _ _ _ h9 => hFc9 _ h9)
      obtain ⟨hz9, hf⟩ := zb_e hf
      have e9 := Option.some.inj hf
      exact retMz hx hb hr hlocks hP hD hS hz9 (congrArg (fun z => z.1) e9) (congrArg (fun z => (kX12 T h a z.2 : va_W)) e9) dX12_readsLine_65
    replace hf := ifp c5 hf
    refine lv_aload_n hx hb dX12_readsLine_37 rfl (lv_at hl 1 rfl) ?_
    refine lv_iconst (v := 4) hx hb dX12_readsLine_38 (by decide) ?_
    refine lv_aload_n hx hb dX12_readsLine_39 rfl (lv_at hl 1 rfl) ?_
    refine va_get (D := D) (ci := 12) (v := .int (u 7 0)) (C := RX12) (T := TX12) (N := 52) hx hb hts hinX12 hown hK.1 hP 0 rfl rfl 7 (by decide) (hts (.fieldLink RX12 126 "RopeScaleModel" "place0" "I") (List.mem_of_getElem? (i := 1) rfl)) (fun _ h9 => h9) rfl dX12_readsLine_40 ?_
    obtain ⟨z44, hz44, hf⟩ := lett_e hf
    have hFc9 := vaA_self hD hS hA
    refine cVM (As := [.int 4, .int (u 7 0)]) (rest := []) ⟨hx, hb, hml, hown, hts⟩ (mX12_wrongAt l D T h a u _ 4 (u 7 0) z44 hz44.symm) (cwV 2 hts gX12_readsLine_X12_wrongAt rfl rfl rfl (by decide +kernel) ⟨Nat.le_of_ble_eq_true rfl, Nat.le_of_ble_eq_true rfl⟩) (va_recv hK.1 hP (ci := 12) (q0 := 0) rfl rfl) hP hK rfl hl.1 rfl (Nat.le_of_ble_eq_true rfl) dX12_readsLine_43 ⟨Nat.le_of_ble_eq_true rfl, Nat.le_of_ble_eq_true rfl⟩ hD hFc9 hS (fun H locs hP hD1 _ hS => ?_)
    have hD := hD1.weaken (fun _ _ _ h9 => hFc9 _ h9)
    obtain ⟨hz9, hf⟩ := zb_e hf
    have e9 := Option.some.inj hf
    exact retMz hx hb hr hlocks hP hD hS hz9 (congrArg (fun z => z.1) e9) (congrArg (fun z => (kX12 T h a z.2 : va_W)) e9) dX12_readsLine_46
  replace hf := ifp c4 hf
  refine lv_aload_n hx hb dX12_readsLine_18 rfl (lv_at hl 1 rfl) ?_
  refine lv_iconst (v := 1) hx hb dX12_readsLine_19 (by decide) ?_
  refine lv_aload_n hx hb dX12_readsLine_20 rfl (lv_at hl 1 rfl) ?_
  refine va_get (D := D) (ci := 12) (v := .int (u 7 0)) (C := RX12) (T := TX12) (N := 52) hx hb hts hinX12 hown hK.1 hP 0 rfl rfl 7 (by decide) (hts (.fieldLink RX12 126 "RopeScaleModel" "place0" "I") (List.mem_of_getElem? (i := 1) rfl)) (fun _ h9 => h9) rfl dX12_readsLine_21 ?_
  obtain ⟨z45, hz45, hf⟩ := lett_e hf
  have hFc9 := vaA_self hD hS hA
  refine cVM (As := [.int 1, .int (u 7 0)]) (rest := []) ⟨hx, hb, hml, hown, hts⟩ (mX12_wrongAt l D T h a u _ 1 (u 7 0) z45 hz45.symm) (cwV 2 hts gX12_readsLine_X12_wrongAt rfl rfl rfl (by decide +kernel) ⟨Nat.le_of_ble_eq_true rfl, Nat.le_of_ble_eq_true rfl⟩) (va_recv hK.1 hP (ci := 12) (q0 := 0) rfl rfl) hP hK rfl hl.1 rfl (Nat.le_of_ble_eq_true rfl) dX12_readsLine_24 ⟨Nat.le_of_ble_eq_true rfl, Nat.le_of_ble_eq_true rfl⟩ hD hFc9 hS (fun H locs hP hD1 _ hS => ?_)
  have hD := hD1.weaken (fun _ _ _ h9 => hFc9 _ h9)
  obtain ⟨hz9, hf⟩ := zb_e hf
  have e9 := Option.some.inj hf
  exact retMz hx hb hr hlocks hP hD hS hz9 (congrArg (fun z => z.1) e9) (congrArg (fun z => (kX12 T h a z.2 : va_W)) e9) dX12_readsLine_27
def fX12_orders_J86   (v : St) (x2 : Int32) : Option (Int32 × St) := lett (st v 6 0 0) fun u1 => if x2 = 0 then (fX12_copies (u1 1) (u1 0)).bind fun z3 => lett (sa u1 0 z3) fun u4 => some (u4 9 0, u4) else some (u1 29 0, u1)
def bX12_orders_L46   (lp46 : St → Int32 → Option (Int32 × St)) (v : St) (x2 : Int32) : Option (Int32 × St) := if x2 = 0 then fX12_orders_J86 v x2 else if (v 8 0) ≤ (v 7 0) then fX12_orders_J86 v x2 else (fX12_takes v 59).bind fun z7 => if z7.1 = 0 then lp46 z7.2 0 else (fX12_readsLine z7.2).bind fun z9 => if z9.1 = 0 then lp46 z9.2 0 else lp46 z9.2 1
def fX12_orders_L46   : Nat → St → Int32 → Option (Int32 × St)
  | 0, _, _ => none
  | n + 1, v, x2 => bX12_orders_L46  (fX12_orders_L46  n) v x2
def fX12_orders  (u : St) (p1 : Int32) : Option (Int32 × St) := lett (fX12_in p1 1 120) fun z11 => if z11 = 0 then some ((-1), u) else if p1 ≤ (u 6 0) then lett (fX12_beginsText u p1) fun z14 => lett (st z14 29 0 0) fun u15 => (fX12_copies (u15 0) (u15 1)).bind fun z16 => lett (sa u15 1 z16) fun u17 => (fX12_readsLine u17).bind fun z18 => fX12_orders_L46 FU z18.2 z18.1 else some ((-1), u)
set_option maxHeartbeats 4000000 in
set_option maxRecDepth 100000 in
theorem mX12_orders (l : Launch) (D : va_G) (T : Ty3) (h : Nat) (a : Nat → Nat) (u : St) (sz : Nat) (p1 : Int32) (res : Int32 × St) (hf : fX12_orders u p1 = some res) : Met l yX12_orders wsX12_orders ({ frames := 4, cells := 0, slots := 0, locals := 84 }) (PcM D T (kX12 T h a u) sz [.ref h, .int p1]) (QM D (kX12 T h a u) sz res.1 (kX12 T h a res.2)) 0 0 (va_A (kX12 T h a u) sz) := by
  refine Met.ofW (cc := cX12_orders) (maxL := 3) (ret := (some .int)) (by decide) rfl ?_
  intro p e s m args below meth c s₁ B hml hv
  obtain ⟨rfl, hsz, hP, hK, hD0⟩ := hv
  have hx := B.exec
  have hb := B.bytes
  have hr := B.returns
  have hts := atoms_spec (ws := wsX12_orders) B.pre
  have hown : s.vm.findClass RX12 = some m.cls := findClass_of_methodNamed B.named
  have hlocks := B.notSynchronized
  subst hsz
  have hD := hD0.self (sz := s.heap.size)
  have hA : ∀ q : Nat, s.heap.size ≤ q → va_A (kX12 T h a u) s.heap.size q := fun q h => Or.inr h
  have hS : va_S (va_A (kX12 T h a u) s.heap.size) s.heap s.heap [] := va_S.rf
  have hinX12 : ∀ w ∈ u_ws RX12 TX12 52, w ∈ wsX12_orders := fun w h => List.mem_cons_of_mem _ (List.mem_append_right _ h)
  have hl := lv_entry ([.ref h, .int p1]) (n := 3) (Nat.le_of_ble_eq_true rfl)
  rw [lg_entry_eq]
  generalize (lg_sl ([.ref h, .int p1]) ++ List.replicate (3 - (lg_sl ([.ref h, .int p1])).length) Slot.unset).toArray = ls at hl ⊢
  have hl : lv_has ls 3 [(0, .ref h), (1, .int p1)] := hl
  have J86 : ∀ (v : St) (x2 : Int32) (H : Heap) (locs : List Loc) (ls : Array Slot), fX12_orders_J86  v x2 = some res → va_P D vwCl (kX12 T h a v) H → va_D (va_A (kX12 T h a u) s.heap.size) (kX12 T h a v) → va_S (va_A (kX12 T h a u) s.heap.size) s.heap H locs → lv_has ls 3 [(0, .ref h), (2, .int x2)] → W p l e (headSpec wsX12_orders ({ frames := 4, cells := 0, slots := 0, locals := 84 })).room s m ([.ref h, .int p1] : List Value).toArray below meth c H locs 0 0 (MQ below (QM D (kX12 T h a u) s.heap.size res.1 (kX12 T h a res.2)) ([.ref h, .int p1] : List Value).toArray s 0 0 (va_A (kX12 T h a u) s.heap.size)) (F0 m 86 ls []) := by
    intro v x2 H locs ls hf hP hD hS hl
    unfold fX12_orders_J86 at hf
    refine lv_aload_n hx hb dX12_orders_86 rfl (lv_at hl 0 rfl) ?_
    refine lv_iconst (v := 0) hx hb dX12_orders_87 (by decide) ?_
    obtain ⟨u1, eu1, hf⟩ := lett_e hf
    refine va_put (D := D) (ci := 12) (v := .int 0) (ty := .int) (C := RX12) (T := TX12) (N := 52) hx hb hts hinX12 tyX12 tyX12_ok nmX12 hown hK.1 hP hD hS 0 rfl rfl 6 (by decide) (hts (.fieldLink RX12 119 "RopeScaleModel" "taped" "I") (List.mem_of_getElem? (i := 1) rfl)) (fun _ h9 => h9) rfl (tyX12_ok 6 (by decide)) rfl rfl (Nat.le_of_ble_eq_true rfl) dX12_orders_88 (fun H locs hP hD hS => ?_)
    have hP : va_P D vwCl (kX12 T h a u1) H := by rw [eu1]; exact hP
    have hD : va_D (va_A (kX12 T h a u) s.heap.size) (kX12 T h a u1) := by rw [eu1]; exact hD
    refine lv_iload_n hx hb dX12_orders_91 rfl (lv_at hl 1 rfl) ?_
    refine lv_if_eq (tgt := 100) hx hb dX12_orders_92 (by decide) (fun c2 => ?_) (fun c2 => ?_)
    · replace hf := ifp c2 hf
      refine lv_aload_n hx hb dX12_orders_100 rfl (lv_at hl 0 rfl) ?_
      refine va_get (D := D) (ci := 12) (v := .ref (a 1)) (C := RX12) (T := TX12) (N := 52) hx hb hts hinX12 hown hK.1 hP 0 rfl rfl 1 (by decide) (hts (.fieldLink RX12 13 "RopeScaleModel" "aside" "[I") (List.mem_of_getElem? (i := 4) rfl)) (fun _ h9 => h9) rfl dX12_orders_101 ?_
      refine lv_aload_n hx hb dX12_orders_104 rfl (lv_at hl 0 rfl) ?_
      refine va_get (D := D) (ci := 12) (v := .ref (a 0)) (C := RX12) (T := TX12) (N := 52) hx hb hts hinX12 hown hK.1 hP 0 rfl rfl 0 (by decide) (hts (.fieldLink RX12 7 "RopeScaleModel" "now" "[I") (List.mem_of_getElem? (i := 3) rfl)) (fun _ h9 => h9) rfl dX12_orders_105 ?_
      obtain ⟨z3, hz3, hf⟩ := bnd hf
      have hPc := hP.sub (ws' := [(a 1, .inl (T.1, 98, .inl (u1 1)))] ++ [(a 0, .inl (T.1, 98, .inl (u1 0)))]) [2, 1] rfl
      have hDc := hD.sub (ws' := [(a 1, .inl (T.1, 98, .inl (u1 1)))] ++ [(a 0, .inl (T.1, 98, .inl (u1 0)))]) [2, 1] (by decide) rfl
      have hFc9 := va_free (wc := [(a 1, .inl (T.1, 98, .inl (u1 1)))] ++ [(a 0, .inl (T.1, 98, .inl (u1 0)))]) hD hS hA [2, 1] rfl
      refine cSMv (As := [.ref (a 1), .ref (a 0)]) (rest := []) ⟨hx, hb, hml, hown, hts⟩ (mX12_copies l D T (a 1) (u1 1) (a 0) (u1 0) _ z3 hz3) (va_cwS 2 hts gX12_orders_X12_copies rfl rfl rfl (by decide +kernel) ⟨Nat.le_of_ble_eq_true rfl, Nat.le_of_ble_eq_true rfl⟩) hPc hK rfl hl.1 rfl (Nat.le_of_ble_eq_true rfl) dX12_orders_108 ⟨Nat.le_of_ble_eq_true rfl, Nat.le_of_ble_eq_true rfl⟩ hDc hFc9 hS (fun H9 locs hP1 hD1 hk1 hS => ?_)
      obtain ⟨hP, hD⟩ := putAll_P (w1 := [(a 1, .inl (T.1, 98, .inl (u1 1)))] ++ [(a 0, .inl (T.1, 98, .inl z3))]) hP hD [2, 1] rfl (by decide) hk1 hP1 rfl
      generalize H9 = H at hP hS ⊢
      obtain ⟨u4, eu4, hf⟩ := lett_e hf
      have hP : va_P D vwCl (kX12 T h a u4) H := by rw [eu4]; exact hP
      have hD : va_D (va_A (kX12 T h a u) s.heap.size) (kX12 T h a u4) := by rw [eu4]; exact hD
      refine lv_aload_n hx hb dX12_orders_111 rfl (lv_at hl 0 rfl) ?_
      refine va_get (D := D) (ci := 12) (v := .int (u4 9 0)) (C := RX12) (T := TX12) (N := 52) hx hb hts hinX12 hown hK.1 hP 0 rfl rfl 9 (by decide) (hts (.fieldLink RX12 136 "RopeScaleModel" "fault" "I") (List.mem_of_getElem? (i := 7) rfl)) (fun _ h9 => h9) rfl dX12_orders_112 ?_
      have e9 := Option.some.inj hf
      exact retM hx hb hr hlocks hP hD hS (congrArg (fun z => z.1) e9) (congrArg (fun z => (kX12 T h a z.2 : va_W)) e9) dX12_orders_115
    replace hf := ifn c2 hf
    refine lv_aload_n hx hb dX12_orders_95 rfl (lv_at hl 0 rfl) ?_
    refine va_get (D := D) (ci := 12) (v := .int (u1 29 0)) (C := RX12) (T := TX12) (N := 52) hx hb hts hinX12 hown hK.1 hP 0 rfl rfl 29 (by decide) (hts (.fieldLink RX12 243 "RopeScaleModel" "lines" "I") (List.mem_of_getElem? (i := 2) rfl)) (fun _ h9 => h9) rfl dX12_orders_96 ?_
    have e9 := Option.some.inj hf
    exact retM hx hb hr hlocks hP hD hS (congrArg (fun z => z.1) e9) (congrArg (fun z => (kX12 T h a z.2 : va_W)) e9) dX12_orders_99
  have L46 : ∀ (n46 : Nat), ∀ (v : St) (x2 : Int32) (H : Heap) (locs : List Loc) (ls : Array Slot), fX12_orders_L46  n46 v x2 = some res → va_P D vwCl (kX12 T h a v) H → va_D (va_A (kX12 T h a u) s.heap.size) (kX12 T h a v) → va_S (va_A (kX12 T h a u) s.heap.size) s.heap H locs → lv_has ls 3 [(0, .ref h), (2, .int x2)] → W p l e (headSpec wsX12_orders ({ frames := 4, cells := 0, slots := 0, locals := 84 })).room s m ([.ref h, .int p1] : List Value).toArray below meth c H locs 0 0 (MQ below (QM D (kX12 T h a u) s.heap.size res.1 (kX12 T h a res.2)) ([.ref h, .int p1] : List Value).toArray s 0 0 (va_A (kX12 T h a u) s.heap.size)) (F0 m 46 ls []) := by
    intro n46
    induction n46 with
    | zero => intro v x2 H locs ls hf; exact nns hf
    | succ n46 ih46 =>
      intro v x2 H locs ls hf hP hD hS hl
      replace hf : bX12_orders_L46  (fX12_orders_L46  n46) v x2 = some res := hf
      unfold bX12_orders_L46 at hf
      refine lv_iload_n hx hb dX12_orders_46 rfl (lv_at hl 1 rfl) ?_
      refine lv_if_eq (tgt := 86) hx hb dX12_orders_47 (by decide) (fun c5 => ?_) (fun c5 => ?_)
      · replace hf := ifp c5 hf
        exact J86 v x2 _ _ _ hf hP hD hS (lv_sub hl [0, 1] rfl)
      replace hf := ifn c5 hf
      refine lv_aload_n hx hb dX12_orders_50 rfl (lv_at hl 0 rfl) ?_
      refine va_get (D := D) (ci := 12) (v := .int (v 7 0)) (C := RX12) (T := TX12) (N := 52) hx hb hts hinX12 hown hK.1 hP 0 rfl rfl 7 (by decide) (hts (.fieldLink RX12 126 "RopeScaleModel" "place0" "I") (List.mem_of_getElem? (i := 5) rfl)) (fun _ h9 => h9) rfl dX12_orders_51 ?_
      refine lv_aload_n hx hb dX12_orders_54 rfl (lv_at hl 0 rfl) ?_
      refine va_get (D := D) (ci := 12) (v := .int (v 8 0)) (C := RX12) (T := TX12) (N := 52) hx hb hts hinX12 hown hK.1 hP 0 rfl rfl 8 (by decide) (hts (.fieldLink RX12 129 "RopeScaleModel" "length0" "I") (List.mem_of_getElem? (i := 6) rfl)) (fun _ h9 => h9) rfl dX12_orders_55 ?_
      refine lv_icmp_ge (tgt := 86) hx hb dX12_orders_58 (by decide) (fun c6 => ?_) (fun c6 => ?_)
      · replace hf := ifp c6 hf
        exact J86 v x2 _ _ _ hf hP hD hS (lv_sub hl [0, 1] rfl)
      replace hf := ifn c6 hf
      refine lv_aload_n hx hb dX12_orders_61 rfl (lv_at hl 0 rfl) ?_
      refine lv_bipush (v := 59) hx hb dX12_orders_62 (by decide) ?_
      obtain ⟨z7, hz7, hf⟩ := bnd hf
      have hFc9 := vaA_self hD hS hA
      refine cVM (As := [.int 59]) (rest := []) ⟨hx, hb, hml, hown, hts⟩ (mX12_takes l D T h a v _ 59 z7 hz7) (cwV 1 hts gX12_orders_X12_takes rfl rfl rfl (by decide +kernel) ⟨Nat.le_of_ble_eq_true rfl, Nat.le_of_ble_eq_true rfl⟩) (va_recv hK.1 hP (ci := 12) (q0 := 0) rfl rfl) hP hK rfl hl.1 rfl (Nat.le_of_ble_eq_true rfl) dX12_orders_64 ⟨Nat.le_of_ble_eq_true rfl, Nat.le_of_ble_eq_true rfl⟩ hD hFc9 hS (fun H locs hP hD1 _ hS => ?_)
      have hD := hD1.weaken (fun _ _ _ h9 => hFc9 _ h9)
      refine lv_if_eq (tgt := 81) hx hb dX12_orders_67 (by decide) (fun c8 => ?_) (fun c8 => ?_)
      · replace hf := ifp c8 hf
        refine lv_iconst (v := 0) hx hb dX12_orders_81 (by decide) ?_
        refine lv_istore_n (lv' := [(2, .int 0), (0, .ref h)]) hx hb dX12_orders_82 rfl hl (by decide) rfl (fun ls hl => ?_)
        refine lv_goto (tgt := 46) hx hb dX12_orders_83 (by decide) ?_
        exact ih46 z7.2 0 _ _ _ hf hP hD hS (lv_sub hl [1, 0] rfl)
      replace hf := ifn c8 hf
      refine lv_aload_n hx hb dX12_orders_70 rfl (lv_at hl 0 rfl) ?_
      obtain ⟨z9, hz9, hf⟩ := bnd hf
      have hFc9 := vaA_self hD hS hA
      refine cVM (As := []) (rest := []) ⟨hx, hb, hml, hown, hts⟩ (mX12_readsLine l D T h a z7.2 _ z9 hz9) (cwV 0 hts gX12_orders_X12_readsLine rfl rfl rfl (by decide +kernel) ⟨Nat.le_of_ble_eq_true rfl, Nat.le_of_ble_eq_true rfl⟩) (va_recv hK.1 hP (ci := 12) (q0 := 0) rfl rfl) hP hK rfl hl.1 rfl (Nat.le_of_ble_eq_true rfl) dX12_orders_71 ⟨Nat.le_of_ble_eq_true rfl, Nat.le_of_ble_eq_true rfl⟩ hD hFc9 hS (fun H locs hP hD1 _ hS => ?_)
      have hD := hD1.weaken (fun _ _ _ h9 => hFc9 _ h9)
      refine lv_if_eq (tgt := 81) hx hb dX12_orders_74 (by decide) (fun c10 => ?_) (fun c10 => ?_)
      · replace hf := ifp c10 hf
        refine lv_iconst (v := 0) hx hb dX12_orders_81 (by decide) ?_
        refine lv_istore_n (lv' := [(2, .int 0), (0, .ref h)]) hx hb dX12_orders_82 rfl hl (by decide) rfl (fun ls hl => ?_)
        refine lv_goto (tgt := 46) hx hb dX12_orders_83 (by decide) ?_
        exact ih46 z9.2 0 _ _ _ hf hP hD hS (lv_sub hl [1, 0] rfl)
      replace hf := ifn c10 hf
      refine lv_iconst (v := 1) hx hb dX12_orders_77 (by decide) ?_
      refine lv_goto (tgt := 82) hx hb dX12_orders_78 (by decide) ?_
      refine lv_istore_n (lv' := [(2, .int 1), (0, .ref h)]) hx hb dX12_orders_82 rfl hl (by decide) rfl (fun ls hl => ?_)
      refine lv_goto (tgt := 46) hx hb dX12_orders_83 (by decide) ?_
      exact ih46 z9.2 1 _ _ _ hf hP hD hS (lv_sub hl [1, 0] rfl)
  unfold fX12_orders at hf
  refine lv_iload_n hx hb dX12_orders_0 rfl (lv_at hl 1 rfl) ?_
  refine lv_iconst (v := 1) hx hb dX12_orders_1 (by decide) ?_
  refine lv_bipush (v := 120) hx hb dX12_orders_2 (by decide) ?_
  obtain ⟨z11, hz11, hf⟩ := lett_e hf
  refine cSR (As := [.int p1, .int 1, .int 120]) (rest := []) ⟨hx, hb, hml, hown, hts⟩ (mX12_in l D T p1 1 120 z11 hz11.symm) (va_cwS 3 hts gX12_orders_X12_in rfl rfl rfl (by decide +kernel) ⟨Nat.le_of_ble_eq_true rfl, Nat.le_of_ble_eq_true rfl⟩) P0 hK rfl hl.1 rfl (Nat.le_of_ble_eq_true rfl) dX12_orders_4 ⟨Nat.le_of_ble_eq_true rfl, Nat.le_of_ble_eq_true rfl⟩ hP hS (fun H locs hP hS => ?_)
  refine lv_if_eq (tgt := 18) hx hb dX12_orders_7 (by decide) (fun c12 => ?_) (fun c12 => ?_)
  · replace hf := ifp c12 hf
    refine lv_iconst (v := (-1)) hx hb dX12_orders_18 (by decide) ?_
    have e9 := Option.some.inj hf
    exact retM hx hb hr hlocks hP hD hS (congrArg (fun z => z.1) e9) (congrArg (fun z => (kX12 T h a z.2 : va_W)) e9) dX12_orders_19
  replace hf := ifn c12 hf
  refine lv_iload_n hx hb dX12_orders_10 rfl (lv_at hl 1 rfl) ?_
  refine lv_aload_n hx hb dX12_orders_11 rfl (lv_at hl 0 rfl) ?_
  refine va_get (D := D) (ci := 12) (v := .int (u 6 0)) (C := RX12) (T := TX12) (N := 52) hx hb hts hinX12 hown hK.1 hP 0 rfl rfl 6 (by decide) (hts (.fieldLink RX12 119 "RopeScaleModel" "taped" "I") (List.mem_of_getElem? (i := 1) rfl)) (fun _ h9 => h9) rfl dX12_orders_12 ?_
  refine lv_icmp_le (tgt := 20) hx hb dX12_orders_15 (by decide) (fun c13 => ?_) (fun c13 => ?_)
  · replace hf := ifp c13 hf
    refine lv_aload_n hx hb dX12_orders_20 rfl (lv_at hl 0 rfl) ?_
    refine lv_iload_n hx hb dX12_orders_21 rfl (lv_at hl 1 rfl) ?_
    obtain ⟨z14, hz14, hf⟩ := lett_e hf
    have hFc9 := vaA_self hD hS hA
    refine cVMv (As := [.int p1]) (rest := []) ⟨hx, hb, hml, hown, hts⟩ (mX12_beginsText l D T h a u _ p1 z14 hz14.symm) (cwV 1 hts gX12_orders_X12_beginsText rfl rfl rfl (by decide +kernel) ⟨Nat.le_of_ble_eq_true rfl, Nat.le_of_ble_eq_true rfl⟩) (va_recv hK.1 hP (ci := 12) (q0 := 0) rfl rfl) hP hK rfl hl.1 rfl (Nat.le_of_ble_eq_true rfl) dX12_orders_22 ⟨Nat.le_of_ble_eq_true rfl, Nat.le_of_ble_eq_true rfl⟩ hD hFc9 hS (fun H locs hP hD1 _ hS => ?_)
    have hD := hD1.weaken (fun _ _ _ h9 => hFc9 _ h9)
    refine lv_aload_n hx hb dX12_orders_25 rfl (lv_at hl 0 rfl) ?_
    refine lv_iconst (v := 0) hx hb dX12_orders_26 (by decide) ?_
    obtain ⟨u15, eu15, hf⟩ := lett_e hf
    refine va_put (D := D) (ci := 12) (v := .int 0) (ty := .int) (C := RX12) (T := TX12) (N := 52) hx hb hts hinX12 tyX12 tyX12_ok nmX12 hown hK.1 hP hD hS 0 rfl rfl 29 (by decide) (hts (.fieldLink RX12 243 "RopeScaleModel" "lines" "I") (List.mem_of_getElem? (i := 2) rfl)) (fun _ h9 => h9) rfl (tyX12_ok 29 (by decide)) rfl rfl (Nat.le_of_ble_eq_true rfl) dX12_orders_27 (fun H locs hP hD hS => ?_)
    have hP : va_P D vwCl (kX12 T h a u15) H := by rw [eu15]; exact hP
    have hD : va_D (va_A (kX12 T h a u) s.heap.size) (kX12 T h a u15) := by rw [eu15]; exact hD
    refine lv_aload_n hx hb dX12_orders_30 rfl (lv_at hl 0 rfl) ?_
    refine va_get (D := D) (ci := 12) (v := .ref (a 0)) (C := RX12) (T := TX12) (N := 52) hx hb hts hinX12 hown hK.1 hP 0 rfl rfl 0 (by decide) (hts (.fieldLink RX12 7 "RopeScaleModel" "now" "[I") (List.mem_of_getElem? (i := 3) rfl)) (fun _ h9 => h9) rfl dX12_orders_31 ?_
    refine lv_aload_n hx hb dX12_orders_34 rfl (lv_at hl 0 rfl) ?_
    refine va_get (D := D) (ci := 12) (v := .ref (a 1)) (C := RX12) (T := TX12) (N := 52) hx hb hts hinX12 hown hK.1 hP 0 rfl rfl 1 (by decide) (hts (.fieldLink RX12 13 "RopeScaleModel" "aside" "[I") (List.mem_of_getElem? (i := 4) rfl)) (fun _ h9 => h9) rfl dX12_orders_35 ?_
    obtain ⟨z16, hz16, hf⟩ := bnd hf
    have hPc := hP.sub (ws' := [(a 0, .inl (T.1, 98, .inl (u15 0)))] ++ [(a 1, .inl (T.1, 98, .inl (u15 1)))]) [1, 2] rfl
    have hDc := hD.sub (ws' := [(a 0, .inl (T.1, 98, .inl (u15 0)))] ++ [(a 1, .inl (T.1, 98, .inl (u15 1)))]) [1, 2] (by decide) rfl
    have hFc9 := va_free (wc := [(a 0, .inl (T.1, 98, .inl (u15 0)))] ++ [(a 1, .inl (T.1, 98, .inl (u15 1)))]) hD hS hA [1, 2] rfl
    refine cSMv (As := [.ref (a 0), .ref (a 1)]) (rest := []) ⟨hx, hb, hml, hown, hts⟩ (mX12_copies l D T (a 0) (u15 0) (a 1) (u15 1) _ z16 hz16) (va_cwS 2 hts gX12_orders_X12_copies rfl rfl rfl (by decide +kernel) ⟨Nat.le_of_ble_eq_true rfl, Nat.le_of_ble_eq_true rfl⟩) hPc hK rfl hl.1 rfl (Nat.le_of_ble_eq_true rfl) dX12_orders_38 ⟨Nat.le_of_ble_eq_true rfl, Nat.le_of_ble_eq_true rfl⟩ hDc hFc9 hS (fun H9 locs hP1 hD1 hk1 hS => ?_)
    obtain ⟨hP, hD⟩ := putAll_P (w1 := [(a 0, .inl (T.1, 98, .inl (u15 0)))] ++ [(a 1, .inl (T.1, 98, .inl z16))]) hP hD [1, 2] rfl (by decide) hk1 hP1 rfl
    generalize H9 = H at hP hS ⊢
    obtain ⟨u17, eu17, hf⟩ := lett_e hf
    have hP : va_P D vwCl (kX12 T h a u17) H := by rw [eu17]; exact hP
    have hD : va_D (va_A (kX12 T h a u) s.heap.size) (kX12 T h a u17) := by rw [eu17]; exact hD
    refine lv_aload_n hx hb dX12_orders_41 rfl (lv_at hl 0 rfl) ?_
    obtain ⟨z18, hz18, hf⟩ := bnd hf
    have hFc9 := vaA_self hD hS hA
    refine cVM (As := []) (rest := []) ⟨hx, hb, hml, hown, hts⟩ (mX12_readsLine l D T h a u17 _ z18 hz18) (cwV 0 hts gX12_orders_X12_readsLine rfl rfl rfl (by decide +kernel) ⟨Nat.le_of_ble_eq_true rfl, Nat.le_of_ble_eq_true rfl⟩) (va_recv hK.1 hP (ci := 12) (q0 := 0) rfl rfl) hP hK rfl hl.1 rfl (Nat.le_of_ble_eq_true rfl) dX12_orders_42 ⟨Nat.le_of_ble_eq_true rfl, Nat.le_of_ble_eq_true rfl⟩ hD hFc9 hS (fun H locs hP hD1 _ hS => ?_)
    have hD := hD1.weaken (fun _ _ _ h9 => hFc9 _ h9)
    refine lv_istore_n (lv' := [(2, .int z18.1), (0, .ref h), (1, .int p1)]) hx hb dX12_orders_45 rfl hl (by decide) rfl (fun ls hl => ?_)
    exact L46 FU z18.2 z18.1 _ _ _ hf hP hD hS (lv_sub hl [1, 0] rfl)
  replace hf := ifn c13 hf
  refine lv_iconst (v := (-1)) hx hb dX12_orders_18 (by decide) ?_
  have e9 := Option.some.inj hf
  exact retM hx hb hr hlocks hP hD hS (congrArg (fun z => z.1) e9) (congrArg (fun z => (kX12 T h a z.2 : va_W)) e9) dX12_orders_19
def bX12_readsLetters_L5   (lp5 : St → Int32 → Option (Int32 × St)) (v : St) (x1 : Int32) : Option (Int32 × St) := (fX12_here v).bind fun z1 => lett (fX12_in (z1 - 97) 0 15) fun z2 => if z2 = 0 then if (v 38 0) = 0 then lett (fX12_wrongAt v 1 (v 7 0)) fun z5 => if z5.1 = 0 then some (0, z5.2) else some (1, z5.2) else some (1, v) else (fX12_here v).bind fun z7 => lett (jshl 1 (z7 - 97)) fun t8 => if ((x1 ||| (v 38 0)) &&& t8) = 0 then lett (st v 38 0 ((v 38 0) ||| t8)) fun u10 => lett (st u10 7 0 ((u10 7 0) + 1)) fun u11 => lp5 u11 x1 else lett (fX12_wrongAt v 6 (v 7 0)) fun z12 => zb z12.1 <| some (z12.1, z12.2)
def fX12_readsLetters_L5   : Nat → St → Int32 → Option (Int32 × St)
  | 0, _, _ => none
  | n + 1, v, x1 => bX12_readsLetters_L5  (fX12_readsLetters_L5  n) v x1
def fX12_readsLetters  (u : St) (p1 : Int32) : Option (Int32 × St) := lett (st u 38 0 0) fun u13 => fX12_readsLetters_L5 FU u13 p1
set_option maxHeartbeats 4000000 in
set_option maxRecDepth 100000 in
theorem mX12_readsLetters (l : Launch) (D : va_G) (T : Ty3) (h : Nat) (a : Nat → Nat) (u : St) (sz : Nat) (p1 : Int32) (res : Int32 × St) (hf : fX12_readsLetters u p1 = some res) : Met l yX12_readsLetters wsX12_readsLetters ({ frames := 1, cells := 0, slots := 0, locals := 22 }) (PcM D T (kX12 T h a u) sz [.ref h, .int p1]) (QM D (kX12 T h a u) sz res.1 (kX12 T h a res.2)) 0 0 (va_A (kX12 T h a u) sz) := by
  refine Met.ofW (cc := cX12_readsLetters) (maxL := 3) (ret := (some .boolean)) (by decide) rfl ?_
  intro p e s m args below meth c s₁ B hml hv
  obtain ⟨rfl, hsz, hP, hK, hD0⟩ := hv
  have hx := B.exec
  have hb := B.bytes
  have hr := B.returns
  have hts := atoms_spec (ws := wsX12_readsLetters) B.pre
  have hown : s.vm.findClass RX12 = some m.cls := findClass_of_methodNamed B.named
  have hlocks := B.notSynchronized
  subst hsz
  have hD := hD0.self (sz := s.heap.size)
  have hA : ∀ q : Nat, s.heap.size ≤ q → va_A (kX12 T h a u) s.heap.size q := fun q h => Or.inr h
  have hS : va_S (va_A (kX12 T h a u) s.heap.size) s.heap s.heap [] := va_S.rf
  have hinX12 : ∀ w ∈ u_ws RX12 TX12 52, w ∈ wsX12_readsLetters := fun w h => List.mem_cons_of_mem _ (List.mem_append_right _ h)
  have hl := lv_entry ([.ref h, .int p1]) (n := 3) (Nat.le_of_ble_eq_true rfl)
  rw [lg_entry_eq]
  generalize (lg_sl ([.ref h, .int p1]) ++ List.replicate (3 - (lg_sl ([.ref h, .int p1])).length) Slot.unset).toArray = ls at hl ⊢
  have hl : lv_has ls 3 [(0, .ref h), (1, .int p1)] := hl
  have L5 : ∀ (n5 : Nat), ∀ (v : St) (x1 : Int32) (H : Heap) (locs : List Loc) (ls : Array Slot), fX12_readsLetters_L5  n5 v x1 = some res → va_P D vwCl (kX12 T h a v) H → va_D (va_A (kX12 T h a u) s.heap.size) (kX12 T h a v) → va_S (va_A (kX12 T h a u) s.heap.size) s.heap H locs → lv_has ls 3 [(0, .ref h), (1, .int x1)] → W p l e (headSpec wsX12_readsLetters ({ frames := 1, cells := 0, slots := 0, locals := 22 })).room s m ([.ref h, .int p1] : List Value).toArray below meth c H locs 0 0 (MQ below (QM D (kX12 T h a u) s.heap.size res.1 (kX12 T h a res.2)) ([.ref h, .int p1] : List Value).toArray s 0 0 (va_A (kX12 T h a u) s.heap.size)) (F0 m 5 ls []) := by
    intro n5
    induction n5 with
    | zero => intro v x1 H locs ls hf; exact nns hf
    | succ n5 ih5 =>
      intro v x1 H locs ls hf hP hD hS hl
      replace hf : bX12_readsLetters_L5  (fX12_readsLetters_L5  n5) v x1 = some res := hf
      unfold bX12_readsLetters_L5 at hf
      refine lv_aload_n hx hb dX12_readsLetters_5 rfl (lv_at hl 0 rfl) ?_
      obtain ⟨z1, hz1, hf⟩ := bnd hf
      refine cVR (As := []) (rest := []) ⟨hx, hb, hml, hown, hts⟩ (mX12_here l D T h a v z1 hz1) (cwV 0 hts gX12_readsLetters_X12_here rfl rfl rfl (by decide +kernel) ⟨Nat.le_of_ble_eq_true rfl, Nat.le_of_ble_eq_true rfl⟩) (va_recv hK.1 hP (ci := 12) (q0 := 0) rfl rfl) hP hK rfl hl.1 rfl (Nat.le_of_ble_eq_true rfl) dX12_readsLetters_6 ⟨Nat.le_of_ble_eq_true rfl, Nat.le_of_ble_eq_true rfl⟩ hP hS (fun H locs hP hS => ?_)
      refine lv_bipush (v := 97) hx hb dX12_readsLetters_9 (by decide) ?_
      refine lv_isub hx hb dX12_readsLetters_11 ?_
      refine lv_iconst (v := 0) hx hb dX12_readsLetters_12 (by decide) ?_
      refine lv_bipush (v := 15) hx hb dX12_readsLetters_13 (by decide) ?_
      obtain ⟨z2, hz2, hf⟩ := lett_e hf
      refine cSR (As := [.int (z1 - 97), .int 0, .int 15]) (rest := []) ⟨hx, hb, hml, hown, hts⟩ (mX12_in l D T (z1 - 97) 0 15 z2 hz2.symm) (va_cwS 3 hts gX12_readsLetters_X12_in rfl rfl rfl (by decide +kernel) ⟨Nat.le_of_ble_eq_true rfl, Nat.le_of_ble_eq_true rfl⟩) P0 hK rfl hl.1 rfl (Nat.le_of_ble_eq_true rfl) dX12_readsLetters_15 ⟨Nat.le_of_ble_eq_true rfl, Nat.le_of_ble_eq_true rfl⟩ hP hS (fun H locs hP hS => ?_)
      refine lv_if_eq (tgt := 76) hx hb dX12_readsLetters_18 (by decide) (fun c3 => ?_) (fun c3 => ?_)
      · replace hf := ifp c3 hf
        refine lv_aload_n hx hb dX12_readsLetters_76 rfl (lv_at hl 0 rfl) ?_
        refine va_get (D := D) (ci := 12) (v := .int (v 38 0)) (C := RX12) (T := TX12) (N := 52) hx hb hts hinX12 hown hK.1 hP 0 rfl rfl 38 (by decide) (hts (.fieldLink RX12 262 "RopeScaleModel" "letters0" "I") (List.mem_of_getElem? (i := 1) rfl)) (fun _ h9 => h9) rfl dX12_readsLetters_77 ?_
        refine lv_if_ne (tgt := 95) hx hb dX12_readsLetters_80 (by decide) (fun c4 => ?_) (fun c4 => ?_)
        · replace hf := ifn c4 hf
          refine lv_iconst (v := 1) hx hb dX12_readsLetters_95 (by decide) ?_
          refine lv_goto (tgt := 100) hx hb dX12_readsLetters_96 (by decide) ?_
          have e9 := Option.some.inj hf
          exact retMz hx hb hr hlocks hP hD hS rfl (congrArg (fun z => z.1) e9) (congrArg (fun z => (kX12 T h a z.2 : va_W)) e9) dX12_readsLetters_100
        replace hf := ifp c4 hf
        refine lv_aload_n hx hb dX12_readsLetters_83 rfl (lv_at hl 0 rfl) ?_
        refine lv_iconst (v := 1) hx hb dX12_readsLetters_84 (by decide) ?_
        refine lv_aload_n hx hb dX12_readsLetters_85 rfl (lv_at hl 0 rfl) ?_
        refine va_get (D := D) (ci := 12) (v := .int (v 7 0)) (C := RX12) (T := TX12) (N := 52) hx hb hts hinX12 hown hK.1 hP 0 rfl rfl 7 (by decide) (hts (.fieldLink RX12 126 "RopeScaleModel" "place0" "I") (List.mem_of_getElem? (i := 2) rfl)) (fun _ h9 => h9) rfl dX12_readsLetters_86 ?_
        obtain ⟨z5, hz5, hf⟩ := lett_e hf
        have hFc9 := vaA_self hD hS hA
        refine cVM (As := [.int 1, .int (v 7 0)]) (rest := []) ⟨hx, hb, hml, hown, hts⟩ (mX12_wrongAt l D T h a v _ 1 (v 7 0) z5 hz5.symm) (cwV 2 hts gX12_readsLetters_X12_wrongAt rfl rfl rfl (by decide +kernel) ⟨Nat.le_of_ble_eq_true rfl, Nat.le_of_ble_eq_true rfl⟩) (va_recv hK.1 hP (ci := 12) (q0 := 0) rfl rfl) hP hK rfl hl.1 rfl (Nat.le_of_ble_eq_true rfl) dX12_readsLetters_89 ⟨Nat.le_of_ble_eq_true rfl, Nat.le_of_ble_eq_true rfl⟩ hD hFc9 hS (fun H locs hP hD1 _ hS => ?_)
        have hD := hD1.weaken (fun _ _ _ h9 => hFc9 _ h9)
        refine lv_if_eq (tgt := 99) hx hb dX12_readsLetters_92 (by decide) (fun c6 => ?_) (fun c6 => ?_)
        · replace hf := ifp c6 hf
          refine lv_iconst (v := 0) hx hb dX12_readsLetters_99 (by decide) ?_
          have e9 := Option.some.inj hf
          exact retMz hx hb hr hlocks hP hD hS rfl (congrArg (fun z => z.1) e9) (congrArg (fun z => (kX12 T h a z.2 : va_W)) e9) dX12_readsLetters_100
        replace hf := ifn c6 hf
        refine lv_iconst (v := 1) hx hb dX12_readsLetters_95 (by decide) ?_
        refine lv_goto (tgt := 100) hx hb dX12_readsLetters_96 (by decide) ?_
        have e9 := Option.some.inj hf
        exact retMz hx hb hr hlocks hP hD hS rfl (congrArg (fun z => z.1) e9) (congrArg (fun z => (kX12 T h a z.2 : va_W)) e9) dX12_readsLetters_100
      replace hf := ifn c3 hf
      refine lv_iconst (v := 1) hx hb dX12_readsLetters_21 (by decide) ?_
      refine lv_aload_n hx hb dX12_readsLetters_22 rfl (lv_at hl 0 rfl) ?_
      obtain ⟨z7, hz7, hf⟩ := bnd hf
      refine cVR (As := []) (rest := [.int 1]) ⟨hx, hb, hml, hown, hts⟩ (mX12_here l D T h a v z7 hz7) (cwV 0 hts gX12_readsLetters_X12_here rfl rfl rfl (by decide +kernel) ⟨Nat.le_of_ble_eq_true rfl, Nat.le_of_ble_eq_true rfl⟩) (va_recv hK.1 hP (ci := 12) (q0 := 0) rfl rfl) hP hK rfl hl.1 rfl (Nat.le_of_ble_eq_true rfl) dX12_readsLetters_23 ⟨Nat.le_of_ble_eq_true rfl, Nat.le_of_ble_eq_true rfl⟩ hP hS (fun H locs hP hS => ?_)
      refine lv_bipush (v := 97) hx hb dX12_readsLetters_26 (by decide) ?_
      refine lv_isub hx hb dX12_readsLetters_28 ?_
      refine lv_ishl hx hb dX12_readsLetters_29 ?_
      obtain ⟨t8, et8, hf⟩ := lett_e hf
      refine lv_eqi et8 ?_
      refine lv_istore_n (lv' := [(2, .int t8), (0, .ref h), (1, .int x1)]) hx hb dX12_readsLetters_30 rfl hl (by decide) rfl (fun ls hl => ?_)
      refine lv_iload_n hx hb dX12_readsLetters_31 rfl (lv_at hl 2 rfl) ?_
      refine lv_aload_n hx hb dX12_readsLetters_32 rfl (lv_at hl 1 rfl) ?_
      refine va_get (D := D) (ci := 12) (v := .int (v 38 0)) (C := RX12) (T := TX12) (N := 52) hx hb hts hinX12 hown hK.1 hP 0 rfl rfl 38 (by decide) (hts (.fieldLink RX12 262 "RopeScaleModel" "letters0" "I") (List.mem_of_getElem? (i := 1) rfl)) (fun _ h9 => h9) rfl dX12_readsLetters_33 ?_
      refine lv_ior hx hb dX12_readsLetters_36 ?_
      refine lv_iload_n hx hb dX12_readsLetters_37 rfl (lv_at hl 0 rfl) ?_
      refine lv_iand hx hb dX12_readsLetters_38 ?_
      refine lv_if_eq (tgt := 53) hx hb dX12_readsLetters_39 (by decide) (fun c9 => ?_) (fun c9 => ?_)
      · replace hf := ifp c9 hf
        refine lv_aload_n hx hb dX12_readsLetters_53 rfl (lv_at hl 1 rfl) ?_
        refine lv_aload_n hx hb dX12_readsLetters_54 rfl (lv_at hl 1 rfl) ?_
        refine va_get (D := D) (ci := 12) (v := .int (v 38 0)) (C := RX12) (T := TX12) (N := 52) hx hb hts hinX12 hown hK.1 hP 0 rfl rfl 38 (by decide) (hts (.fieldLink RX12 262 "RopeScaleModel" "letters0" "I") (List.mem_of_getElem? (i := 1) rfl)) (fun _ h9 => h9) rfl dX12_readsLetters_55 ?_
        refine lv_iload_n hx hb dX12_readsLetters_58 rfl (lv_at hl 0 rfl) ?_
        refine lv_ior hx hb dX12_readsLetters_59 ?_
        obtain ⟨u10, eu10, hf⟩ := lett_e hf
        refine va_put (D := D) (ci := 12) (v := .int ((v 38 0) ||| t8)) (ty := .int) (C := RX12) (T := TX12) (N := 52) hx hb hts hinX12 tyX12 tyX12_ok nmX12 hown hK.1 hP hD hS 0 rfl rfl 38 (by decide) (hts (.fieldLink RX12 262 "RopeScaleModel" "letters0" "I") (List.mem_of_getElem? (i := 1) rfl)) (fun _ h9 => h9) rfl (tyX12_ok 38 (by decide)) rfl rfl (Nat.le_of_ble_eq_true rfl) dX12_readsLetters_60 (fun H locs hP hD hS => ?_)
        have hP : va_P D vwCl (kX12 T h a u10) H := by rw [eu10]; exact hP
        have hD : va_D (va_A (kX12 T h a u) s.heap.size) (kX12 T h a u10) := by rw [eu10]; exact hD
        refine lv_aload_n hx hb dX12_readsLetters_63 rfl (lv_at hl 1 rfl) ?_
        refine lv_aload_n hx hb dX12_readsLetters_64 rfl (lv_at hl 1 rfl) ?_
        refine va_get (D := D) (ci := 12) (v := .int (u10 7 0)) (C := RX12) (T := TX12) (N := 52) hx hb hts hinX12 hown hK.1 hP 0 rfl rfl 7 (by decide) (hts (.fieldLink RX12 126 "RopeScaleModel" "place0" "I") (List.mem_of_getElem? (i := 2) rfl)) (fun _ h9 => h9) rfl dX12_readsLetters_65 ?_
        refine lv_iconst (v := 1) hx hb dX12_readsLetters_68 (by decide) ?_
        refine lv_iadd hx hb dX12_readsLetters_69 ?_
        obtain ⟨u11, eu11, hf⟩ := lett_e hf
        refine va_put (D := D) (ci := 12) (v := .int ((u10 7 0) + 1)) (ty := .int) (C := RX12) (T := TX12) (N := 52) hx hb hts hinX12 tyX12 tyX12_ok nmX12 hown hK.1 hP hD hS 0 rfl rfl 7 (by decide) (hts (.fieldLink RX12 126 "RopeScaleModel" "place0" "I") (List.mem_of_getElem? (i := 2) rfl)) (fun _ h9 => h9) rfl (tyX12_ok 7 (by decide)) rfl rfl (Nat.le_of_ble_eq_true rfl) dX12_readsLetters_70 (fun H locs hP hD hS => ?_)
        have hP : va_P D vwCl (kX12 T h a u11) H := by rw [eu11]; exact hP
        have hD : va_D (va_A (kX12 T h a u) s.heap.size) (kX12 T h a u11) := by rw [eu11]; exact hD
        refine lv_goto (tgt := 5) hx hb dX12_readsLetters_73 (by decide) ?_
        exact ih5 u11 x1 _ _ _ hf hP hD hS (lv_sub hl [1, 2] rfl)
      replace hf := ifn c9 hf
      refine lv_aload_n hx hb dX12_readsLetters_42 rfl (lv_at hl 1 rfl) ?_
      refine lv_bipush (v := 6) hx hb dX12_readsLetters_43 (by decide) ?_
      refine lv_aload_n hx hb dX12_readsLetters_45 rfl (lv_at hl 1 rfl) ?_
      refine va_get (D := D) (ci := 12) (v := .int (v 7 0)) (C := RX12) (T := TX12) (N := 52) hx hb hts hinX12 hown hK.1 hP 0 rfl rfl 7 (by decide) (hts (.fieldLink RX12 126 "RopeScaleModel" "place0" "I") (List.mem_of_getElem? (i := 2) rfl)) (fun _ h9 => h9) rfl dX12_readsLetters_46 ?_
      obtain ⟨z12, hz12, hf⟩ := lett_e hf
      have hFc9 := vaA_self hD hS hA
      refine cVM (As := [.int 6, .int (v 7 0)]) (rest := []) ⟨hx, hb, hml, hown, hts⟩ (mX12_wrongAt l D T h a v _ 6 (v 7 0) z12 hz12.symm) (cwV 2 hts gX12_readsLetters_X12_wrongAt rfl rfl rfl (by decide +kernel) ⟨Nat.le_of_ble_eq_true rfl, Nat.le_of_ble_eq_true rfl⟩) (va_recv hK.1 hP (ci := 12) (q0 := 0) rfl rfl) hP hK rfl hl.1 rfl (Nat.le_of_ble_eq_true rfl) dX12_readsLetters_49 ⟨Nat.le_of_ble_eq_true rfl, Nat.le_of_ble_eq_true rfl⟩ hD hFc9 hS (fun H locs hP hD1 _ hS => ?_)
      have hD := hD1.weaken (fun _ _ _ h9 => hFc9 _ h9)
      obtain ⟨hz9, hf⟩ := zb_e hf
      have e9 := Option.some.inj hf
      exact retMz hx hb hr hlocks hP hD hS hz9 (congrArg (fun z => z.1) e9) (congrArg (fun z => (kX12 T h a z.2 : va_W)) e9) dX12_readsLetters_52
  unfold fX12_readsLetters at hf
  refine lv_aload_n hx hb dX12_readsLetters_0 rfl (lv_at hl 0 rfl) ?_
  refine lv_iconst (v := 0) hx hb dX12_readsLetters_1 (by decide) ?_
  obtain ⟨u13, eu13, hf⟩ := lett_e hf
  refine va_put (D := D) (ci := 12) (v := .int 0) (ty := .int) (C := RX12) (T := TX12) (N := 52) hx hb hts hinX12 tyX12 tyX12_ok nmX12 hown hK.1 hP hD hS 0 rfl rfl 38 (by decide) (hts (.fieldLink RX12 262 "RopeScaleModel" "letters0" "I") (List.mem_of_getElem? (i := 1) rfl)) (fun _ h9 => h9) rfl (tyX12_ok 38 (by decide)) rfl rfl (Nat.le_of_ble_eq_true rfl) dX12_readsLetters_2 (fun H locs hP hD hS => ?_)
  have hP : va_P D vwCl (kX12 T h a u13) H := by rw [eu13]; exact hP
  have hD : va_D (va_A (kX12 T h a u) s.heap.size) (kX12 T h a u13) := by rw [eu13]; exact hD
  exact L5 FU u13 p1 _ _ _ hf hP hD hS (lv_sub hl [0, 1] rfl)
