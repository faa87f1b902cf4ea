def fX12_in   (p0 : Int32) (p1 : Int32) (p2 : Int32) : (Int32) := if p0 < p1 then 0 else if p2 < p0 then 0 else 1
set_option maxHeartbeats 4000000 in
set_option maxRecDepth 100000 in
theorem mX12_in (l : Launch) (D : va_G) (T : Ty3)  (p0 : Int32) (p1 : Int32) (p2 : Int32) (res : Int32) (hf : fX12_in p0 p1 p2 = res) : Met l yX12_in wsX12_in ({ frames := 0, cells := 0, slots := 0, locals := 0 }) (PcR D T ([]) [.int p0, .int p1, .int p2]) (QR res) 0 0 noA := by
  refine Met.ofW (cc := cX12_in) (maxL := 3) (ret := (some .boolean)) (by decide) rfl ?_
  intro p e s m args below meth c s₁ B hml hv
  obtain ⟨rfl, hP, hK⟩ := hv
  have hx := B.exec
  have hb := B.bytes
  have hr := B.returns
  have hts := atoms_spec (ws := wsX12_in) B.pre
  have hown : s.vm.findClass RX12 = some m.cls := findClass_of_methodNamed B.named
  have hlocks := B.notSynchronized
  have hS : va_S noA s.heap s.heap [] := va_S.rf
  have hl := lv_entry ([.int p0, .int p1, .int p2]) (n := 3) (Nat.le_of_ble_eq_true rfl)
  rw [lg_entry_eq]
  generalize (lg_sl ([.int p0, .int p1, .int p2]) ++ List.replicate (3 - (lg_sl ([.int p0, .int p1, .int p2])).length) Slot.unset).toArray = ls at hl ⊢
  have hl : lv_has ls 3 [(0, .int p0), (1, .int p1), (2, .int p2)] := hl
  unfold fX12_in at hf
  refine lv_iload_n hx hb dX12_in_0 rfl (lv_at hl 0 rfl) ?_
  refine lv_iload_n hx hb dX12_in_1 rfl (lv_at hl 1 rfl) ?_
  refine lv_icmp_lt (tgt := 14) hx hb dX12_in_2 (by decide) (fun c1 => ?_) (fun c1 => ?_)
  · replace hf := ifp c1 hf
    refine lv_iconst (v := 0) hx hb dX12_in_14 (by decide) ?_
    exact retRz hx hb hr hlocks hS rfl hf dX12_in_15
  replace hf := ifn c1 hf
  refine lv_iload_n hx hb dX12_in_5 rfl (lv_at hl 0 rfl) ?_
  refine lv_iload_n hx hb dX12_in_6 rfl (lv_at hl 2 rfl) ?_
  refine lv_icmp_gt (tgt := 14) hx hb dX12_in_7 (by decide) (fun c2 => ?_) (fun c2 => ?_)
  · replace hf := ifp c2 hf
    refine lv_iconst (v := 0) hx hb dX12_in_14 (by decide) ?_
    exact retRz hx hb hr hlocks hS rfl hf dX12_in_15
  replace hf := ifn c2 hf
  refine lv_iconst (v := 1) hx hb dX12_in_10 (by decide) ?_
  refine lv_goto (tgt := 15) hx hb dX12_in_11 (by decide) ?_
  exact retRz hx hb hr hlocks hS rfl hf dX12_in_15
def fX12_min   (p0 : Int32) (p1 : Int32) : (Int32) := if p1 ≤ p0 then p1 else p0
set_option maxHeartbeats 4000000 in
set_option maxRecDepth 100000 in
theorem mX12_min (l : Launch) (D : va_G) (T : Ty3)  (p0 : Int32) (p1 : Int32) (res : Int32) (hf : fX12_min p0 p1 = res) : Met l yX12_min wsX12_min ({ frames := 0, cells := 0, slots := 0, locals := 0 }) (PcR D T ([]) [.int p0, .int p1]) (QR res) 0 0 noA := by
  refine Met.ofW (cc := cX12_min) (maxL := 2) (ret := (some .int)) (by decide) rfl ?_
  intro p e s m args below meth c s₁ B hml hv
  obtain ⟨rfl, hP, hK⟩ := hv
  have hx := B.exec
  have hb := B.bytes
  have hr := B.returns
  have hts := atoms_spec (ws := wsX12_min) B.pre
  have hown : s.vm.findClass RX12 = some m.cls := findClass_of_methodNamed B.named
  have hlocks := B.notSynchronized
  have hS : va_S noA s.heap s.heap [] := va_S.rf
  have hl := lv_entry ([.int p0, .int p1]) (n := 2) (Nat.le_of_ble_eq_true rfl)
  rw [lg_entry_eq]
  generalize (lg_sl ([.int p0, .int p1]) ++ List.replicate (2 - (lg_sl ([.int p0, .int p1])).length) Slot.unset).toArray = ls at hl ⊢
  have hl : lv_has ls 2 [(0, .int p0), (1, .int p1)] := hl
  unfold fX12_min at hf
  refine lv_iload_n hx hb dX12_min_0 rfl (lv_at hl 0 rfl) ?_
  refine lv_iload_n hx hb dX12_min_1 rfl (lv_at hl 1 rfl) ?_
  refine lv_icmp_ge (tgt := 9) hx hb dX12_min_2 (by decide) (fun c1 => ?_) (fun c1 => ?_)
  · replace hf := ifp c1 hf
    refine lv_iload_n hx hb dX12_min_9 rfl (lv_at hl 1 rfl) ?_
    exact retR hx hb hr hlocks hS hf dX12_min_10
  replace hf := ifn c1 hf
  refine lv_iload_n hx hb dX12_min_5 rfl (lv_at hl 0 rfl) ?_
  refine lv_goto (tgt := 10) hx hb dX12_min_6 (by decide) ?_
  exact retR hx hb hr hlocks hS hf dX12_min_10
def fX12_max   (p0 : Int32) (p1 : Int32) : (Int32) := if p0 ≤ p1 then p1 else p0
set_option maxHeartbeats 4000000 in
set_option maxRecDepth 100000 in
theorem mX12_max (l : Launch) (D : va_G) (T : Ty3)  (p0 : Int32) (p1 : Int32) (res : Int32) (hf : fX12_max p0 p1 = res) : Met l yX12_max wsX12_max ({ frames := 0, cells := 0, slots := 0, locals := 0 }) (PcR D T ([]) [.int p0, .int p1]) (QR res) 0 0 noA := by
  refine Met.ofW (cc := cX12_max) (maxL := 2) (ret := (some .int)) (by decide) rfl ?_
  intro p e s m args below meth c s₁ B hml hv
  obtain ⟨rfl, hP, hK⟩ := hv
  have hx := B.exec
  have hb := B.bytes
  have hr := B.returns
  have hts := atoms_spec (ws := wsX12_max) B.pre
  have hown : s.vm.findClass RX12 = some m.cls := findClass_of_methodNamed B.named
  have hlocks := B.notSynchronized
  have hS : va_S noA s.heap s.heap [] := va_S.rf
  have hl := lv_entry ([.int p0, .int p1]) (n := 2) (Nat.le_of_ble_eq_true rfl)
  rw [lg_entry_eq]
  generalize (lg_sl ([.int p0, .int p1]) ++ List.replicate (2 - (lg_sl ([.int p0, .int p1])).length) Slot.unset).toArray = ls at hl ⊢
  have hl : lv_has ls 2 [(0, .int p0), (1, .int p1)] := hl
  unfold fX12_max at hf
  refine lv_iload_n hx hb dX12_max_0 rfl (lv_at hl 0 rfl) ?_
  refine lv_iload_n hx hb dX12_max_1 rfl (lv_at hl 1 rfl) ?_
  refine lv_icmp_le (tgt := 9) hx hb dX12_max_2 (by decide) (fun c1 => ?_) (fun c1 => ?_)
  · replace hf := ifp c1 hf
    refine lv_iload_n hx hb dX12_max_9 rfl (lv_at hl 1 rfl) ?_
    exact retR hx hb hr hlocks hS hf dX12_max_10
  replace hf := ifn c1 hf
  refine lv_iload_n hx hb dX12_max_5 rfl (lv_at hl 0 rfl) ?_
  refine lv_goto (tgt := 10) hx hb dX12_max_6 (by decide) ?_
  exact retR hx hb hr hlocks hS hf dX12_max_10
def fX12_size   (p0 : Int32) : (Int32) := if 0 ≤ p0 then p0 else -p0
set_option maxHeartbeats 4000000 in
set_option maxRecDepth 100000 in
theorem mX12_size (l : Launch) (D : va_G) (T : Ty3)  (p0 : Int32) (res : Int32) (hf : fX12_size p0 = res) : Met l yX12_size wsX12_size ({ frames := 0, cells := 0, slots := 0, locals := 0 }) (PcR D T ([]) [.int p0]) (QR res) 0 0 noA := by
  refine Met.ofW (cc := cX12_size) (maxL := 1) (ret := (some .int)) (by decide) rfl ?_
  intro p e s m args below meth c s₁ B hml hv
  obtain ⟨rfl, hP, hK⟩ := hv
  have hx := B.exec
  have hb := B.bytes
  have hr := B.returns
  have hts := atoms_spec (ws := wsX12_size) B.pre
  have hown : s.vm.findClass RX12 = some m.cls := findClass_of_methodNamed B.named
  have hlocks := B.notSynchronized
  have hS : va_S noA s.heap s.heap [] := va_S.rf
  have hl := lv_entry ([.int p0]) (n := 1) (Nat.le_of_ble_eq_true rfl)
  rw [lg_entry_eq]
  generalize (lg_sl ([.int p0]) ++ List.replicate (1 - (lg_sl ([.int p0])).length) Slot.unset).toArray = ls at hl ⊢
  have hl : lv_has ls 1 [(0, .int p0)] := hl
  unfold fX12_size at hf
  refine lv_iload_n hx hb dX12_size_0 rfl (lv_at hl 0 rfl) ?_
  refine lv_if_ge (tgt := 9) hx hb dX12_size_1 (by decide) (fun c1 => ?_) (fun c1 => ?_)
  · replace hf := ifp c1 hf
    refine lv_iload_n hx hb dX12_size_9 rfl (lv_at hl 0 rfl) ?_
    exact retR hx hb hr hlocks hS hf dX12_size_10
  replace hf := ifn c1 hf
  refine lv_iload_n hx hb dX12_size_4 rfl (lv_at hl 0 rfl) ?_
  refine lv_ineg hx hb dX12_size_5 ?_
  refine lv_goto (tgt := 10) hx hb dX12_size_6 (by decide) ?_
  exact retR hx hb hr hlocks hS hf dX12_size_10
def fX12_has   (p0 : Int32) (p1 : Int32) : (Int32) := if ((jshr p0 p1) &&& 1) = 1 then 1 else 0
set_option maxHeartbeats 4000000 in
set_option maxRecDepth 100000 in
theorem mX12_has (l : Launch) (D : va_G) (T : Ty3)  (p0 : Int32) (p1 : Int32) (res : Int32) (hf : fX12_has p0 p1 = res) : Met l yX12_has wsX12_has ({ frames := 0, cells := 0, slots := 0, locals := 0 }) (PcR D T ([]) [.int p0, .int p1]) (QR res) 0 0 noA := by
  refine Met.ofW (cc := cX12_has) (maxL := 2) (ret := (some .boolean)) (by decide) rfl ?_
  intro p e s m args below meth c s₁ B hml hv
  obtain ⟨rfl, hP, hK⟩ := hv
  have hx := B.exec
  have hb := B.bytes
  have hr := B.returns
  have hts := atoms_spec (ws := wsX12_has) B.pre
  have hown : s.vm.findClass RX12 = some m.cls := findClass_of_methodNamed B.named
  have hlocks := B.notSynchronized
  have hS : va_S noA s.heap s.heap [] := va_S.rf
  have hl := lv_entry ([.int p0, .int p1]) (n := 2) (Nat.le_of_ble_eq_true rfl)
  rw [lg_entry_eq]
  generalize (lg_sl ([.int p0, .int p1]) ++ List.replicate (2 - (lg_sl ([.int p0, .int p1])).length) Slot.unset).toArray = ls at hl ⊢
  have hl : lv_has ls 2 [(0, .int p0), (1, .int p1)] := hl
  unfold fX12_has at hf
  refine lv_iload_n hx hb dX12_has_0 rfl (lv_at hl 0 rfl) ?_
  refine lv_iload_n hx hb dX12_has_1 rfl (lv_at hl 1 rfl) ?_
  refine lv_ishr hx hb dX12_has_2 ?_
  refine lv_iconst (v := 1) hx hb dX12_has_3 (by decide) ?_
  refine lv_iand hx hb dX12_has_4 ?_
  refine lv_iconst (v := 1) hx hb dX12_has_5 (by decide) ?_
  refine lv_icmp_ne (tgt := 13) hx hb dX12_has_6 (by decide) (fun c1 => ?_) (fun c1 => ?_)
  · replace hf := ifn c1 hf
    refine lv_iconst (v := 0) hx hb dX12_has_13 (by decide) ?_
    exact retRz hx hb hr hlocks hS rfl hf dX12_has_14
  replace hf := ifp c1 hf
  refine lv_iconst (v := 1) hx hb dX12_has_9 (by decide) ?_
  refine lv_goto (tgt := 14) hx hb dX12_has_10 (by decide) ?_
  exact retRz hx hb hr hlocks hS rfl hf dX12_has_14
def bX12_bits_L4   (lp4 : Int32 → Int32 → Int32 → Option (Int32)) (x0 : Int32) (x1 : Int32) (x2 : Int32) : Option (Int32) := if 16 ≤ x2 then some x1 else lett (x1 + ((jshr x0 x2) &&& 1)) fun t2 => lett (x2 + 1) fun t3 => lp4 x0 t2 t3
def fX12_bits_L4   : Nat → Int32 → Int32 → Int32 → Option (Int32)
  | 0, _, _, _ => none
  | n + 1, x0, x1, x2 => bX12_bits_L4  (fX12_bits_L4  n) x0 x1 x2
def fX12_bits   (p0 : Int32) : Option (Int32) := fX12_bits_L4 FU p0 0 0
set_option maxHeartbeats 4000000 in
set_option maxRecDepth 100000 in
theorem mX12_bits (l : Launch) (D : va_G) (T : Ty3)  (p0 : Int32) (res : Int32) (hf : fX12_bits p0 = some res) : Met l yX12_bits wsX12_bits ({ frames := 0, cells := 0, slots := 0, locals := 0 }) (PcR D T ([]) [.int p0]) (QR res) 0 0 noA := by
  refine Met.ofW (cc := cX12_bits) (maxL := 3) (ret := (some .int)) (by decide) rfl ?_
  intro p e s m args below meth c s₁ B hml hv
  obtain ⟨rfl, hP, hK⟩ := hv
  have hx := B.exec
  have hb := B.bytes
  have hr := B.returns
  have hts := atoms_spec (ws := wsX12_bits) B.pre
  have hown : s.vm.findClass RX12 = some m.cls := findClass_of_methodNamed B.named
  have hlocks := B.notSynchronized
  have hS : va_S noA s.heap s.heap [] := va_S.rf
  have hl := lv_entry ([.int p0]) (n := 3) (Nat.le_of_ble_eq_true rfl)
  rw [lg_entry_eq]
  generalize (lg_sl ([.int p0]) ++ List.replicate (3 - (lg_sl ([.int p0])).length) Slot.unset).toArray = ls at hl ⊢
  have hl : lv_has ls 3 [(0, .int p0)] := hl
  have L4 : ∀ (n4 : Nat), ∀ (x0 : Int32) (x1 : Int32) (x2 : Int32) (H : Heap) (locs : List Loc) (ls : Array Slot), fX12_bits_L4  n4 x0 x1 x2 = some res → va_P D vwCl ([]) H → va_S noA s.heap H locs → lv_has ls 3 [(0, .int x0), (1, .int x1), (2, .int x2)] → W p l e (headSpec wsX12_bits ({ frames := 0, cells := 0, slots := 0, locals := 0 })).room s m ([.int p0] : List Value).toArray below meth c H locs 0 0 (MQ below (QR res) ([.int p0] : List Value).toArray s 0 0 noA) (F0 m 4 ls []) := by
    intro n4
    induction n4 with
    | zero => intro x0 x1 x2 H locs ls hf; exact nns hf
    | succ n4 ih4 =>
      intro x0 x1 x2 H locs ls hf hP hS hl
      replace hf : bX12_bits_L4  (fX12_bits_L4  n4) x0 x1 x2 = some res := hf
      unfold bX12_bits_L4 at hf
      refine lv_iload_n hx hb dX12_bits_4 rfl (lv_at hl 2 rfl) ?_
      refine lv_bipush (v := 16) hx hb dX12_bits_5 (by decide) ?_
      refine lv_icmp_ge (tgt := 24) hx hb dX12_bits_7 (by decide) (fun c1 => ?_) (fun c1 => ?_)
      · replace hf := ifp c1 hf
        refine lv_iload_n hx hb dX12_bits_24 rfl (lv_at hl 1 rfl) ?_
        exact retR hx hb hr hlocks hS (Option.some.inj hf) dX12_bits_25
      replace hf := ifn c1 hf
      refine lv_iload_n hx hb dX12_bits_10 rfl (lv_at hl 1 rfl) ?_
      refine lv_iload_n hx hb dX12_bits_11 rfl (lv_at hl 0 rfl) ?_
      refine lv_iload_n hx hb dX12_bits_12 rfl (lv_at hl 2 rfl) ?_
      refine lv_ishr hx hb dX12_bits_13 ?_
      refine lv_iconst (v := 1) hx hb dX12_bits_14 (by decide) ?_
      refine lv_iand hx hb dX12_bits_15 ?_
      refine lv_iadd hx hb dX12_bits_16 ?_
      obtain ⟨t2, et2, hf⟩ := lett_e hf
      refine lv_eqi et2 ?_
      refine lv_istore_n (lv' := [(1, .int t2), (0, .int x0), (2, .int x2)]) hx hb dX12_bits_17 rfl hl (by decide) rfl (fun ls hl => ?_)
      obtain ⟨t3, et3, hf⟩ := lett_e hf
      refine lv_iinc (v := t3) (lv' := [(2, .int t3), (1, .int t2), (0, .int x0)]) hx hb dX12_bits_18 hl (k := 2) rfl (by rw [et3]; rfl) (by decide) rfl (fun ls hl => ?_)
      refine lv_goto (tgt := 4) hx hb dX12_bits_21 (by decide) ?_
      exact ih4 x0 t2 t3 _ _ _ hf hP hS (lv_sub hl [2, 1, 0] rfl)
  unfold fX12_bits at hf
  refine lv_iconst (v := 0) hx hb dX12_bits_0 (by decide) ?_
  refine lv_istore_n (lv' := [(1, .int 0), (0, .int p0)]) hx hb dX12_bits_1 rfl hl (by decide) rfl (fun ls hl => ?_)
  refine lv_iconst (v := 0) hx hb dX12_bits_2 (by decide) ?_
  refine lv_istore_n (lv' := [(2, .int 0), (1, .int 0), (0, .int p0)]) hx hb dX12_bits_3 rfl hl (by decide) rfl (fun ls hl => ?_)
  exact L4 FU p0 0 0 _ _ _ hf hP hS (lv_sub hl [2, 1, 0] rfl)
def bX12_copies_L2 (uf : Nat → Int32)  (lp2 : (Nat → Int32) → Int32 → Option ((Nat → Int32))) (vt : Nat → Int32) (x2 : Int32) : Option ((Nat → Int32)) := if 98 ≤ x2 then some vt else gd x2 98 <| gd x2 98 <| lett (upd vt (ix x2) (uf (ix x2))) fun u2 => lett (x2 + 1) fun t3 => lp2 u2 t3
def fX12_copies_L2 (uf : Nat → Int32)  : Nat → (Nat → Int32) → Int32 → Option ((Nat → Int32))
  | 0, _, _ => none
  | n + 1, vt, x2 => bX12_copies_L2 uf (fX12_copies_L2 uf n) vt x2
def fX12_copies  (uf : Nat → Int32) (ut : Nat → Int32)  : Option ((Nat → Int32)) := fX12_copies_L2 uf FU ut 0
set_option maxHeartbeats 4000000 in
set_option maxRecDepth 100000 in
theorem mX12_copies (l : Launch) (D : va_G) (T : Ty3) (qf : Nat) (uf : Nat → Int32) (qt : Nat) (ut : Nat → Int32) (sz : Nat)  (res : (Nat → Int32)) (hf : fX12_copies uf ut = some res) : Met l yX12_copies wsX12_copies ({ frames := 0, cells := 0, slots := 0, locals := 0 }) (PcM D T ([(qf, .inl (T.1, 98, .inl uf))] ++ [(qt, .inl (T.1, 98, .inl ut))]) sz [.ref qf, .ref qt]) (QMv D ([(qf, .inl (T.1, 98, .inl uf))] ++ [(qt, .inl (T.1, 98, .inl ut))]) sz ([(qf, .inl (T.1, 98, .inl uf))] ++ [(qt, .inl (T.1, 98, .inl res))])) 0 0 (va_A ([(qf, .inl (T.1, 98, .inl uf))] ++ [(qt, .inl (T.1, 98, .inl ut))]) sz) := by
  refine Met.ofW (cc := cX12_copies) (maxL := 3) (ret := none) (by decide) rfl ?_
  intro p e s m args below meth c s₁ B hml hv
  obtain ⟨rfl, hsz, hP, hK, hD0⟩ := hv
  have hx := B.exec
  have hb := B.bytes
  have hr := B.returns
  have hts := atoms_spec (ws := wsX12_copies) B.pre
  have hown : s.vm.findClass RX12 = some m.cls := findClass_of_methodNamed B.named
  have hlocks := B.notSynchronized
  subst hsz
  have hD := hD0.self (sz := s.heap.size)
  have hA : ∀ q : Nat, s.heap.size ≤ q → va_A ([(qf, .inl (T.1, 98, .inl uf))] ++ [(qt, .inl (T.1, 98, .inl ut))]) s.heap.size q := fun q h => Or.inr h
  have hS : va_S (va_A ([(qf, .inl (T.1, 98, .inl uf))] ++ [(qt, .inl (T.1, 98, .inl ut))]) s.heap.size) s.heap s.heap [] := va_S.rf
  have hl := lv_entry ([.ref qf, .ref qt]) (n := 3) (Nat.le_of_ble_eq_true rfl)
  rw [lg_entry_eq]
  generalize (lg_sl ([.ref qf, .ref qt]) ++ List.replicate (3 - (lg_sl ([.ref qf, .ref qt])).length) Slot.unset).toArray = ls at hl ⊢
  have hl : lv_has ls 3 [(0, .ref qf), (1, .ref qt)] := hl
  have L2 : ∀ (n2 : Nat), ∀ (vt : Nat → Int32) (x2 : Int32) (H : Heap) (locs : List Loc) (ls : Array Slot), fX12_copies_L2 uf n2 vt x2 = some res → va_P D vwCl ([(qf, .inl (T.1, 98, .inl uf))] ++ [(qt, .inl (T.1, 98, .inl vt))]) H → va_D (va_A ([(qf, .inl (T.1, 98, .inl uf))] ++ [(qt, .inl (T.1, 98, .inl ut))]) s.heap.size) ([(qf, .inl (T.1, 98, .inl uf))] ++ [(qt, .inl (T.1, 98, .inl vt))]) → va_S (va_A ([(qf, .inl (T.1, 98, .inl uf))] ++ [(qt, .inl (T.1, 98, .inl ut))]) s.heap.size) s.heap H locs → lv_has ls 3 [(0, .ref qf), (1, .ref qt), (2, .int x2)] → W p l e (headSpec wsX12_copies ({ frames := 0, cells := 0, slots := 0, locals := 0 })).room s m ([.ref qf, .ref qt] : List Value).toArray below meth c H locs 0 0 (MQ below (QMv D ([(qf, .inl (T.1, 98, .inl uf))] ++ [(qt, .inl (T.1, 98, .inl ut))]) s.heap.size ([(qf, .inl (T.1, 98, .inl uf))] ++ [(qt, .inl (T.1, 98, .inl res))])) ([.ref qf, .ref qt] : List Value).toArray s 0 0 (va_A ([(qf, .inl (T.1, 98, .inl uf))] ++ [(qt, .inl (T.1, 98, .inl ut))]) s.heap.size)) (F0 m 2 ls []) := by
    intro n2
    induction n2 with
    | zero => intro vt x2 H locs ls hf; exact nns hf
    | succ n2 ih2 =>
      intro vt x2 H locs ls hf hP hD hS hl
      replace hf : bX12_copies_L2 uf (fX12_copies_L2 uf n2) vt x2 = some res := hf
      unfold bX12_copies_L2 at hf
      refine lv_iload_n hx hb dX12_copies_2 rfl (lv_at hl 2 rfl) ?_
      refine lv_bipush (v := 98) hx hb dX12_copies_3 (by decide) ?_
      refine lv_icmp_ge (tgt := 20) hx hb dX12_copies_5 (by decide) (fun c1 => ?_) (fun c1 => ?_)
      · replace hf := ifp c1 hf
        have e9 := Option.some.inj hf
        exact retMv hx hb hr hlocks hP hD hS (congrArg (fun z => ([(qf, .inl (T.1, 98, .inl uf))] ++ [(qt, .inl (T.1, 98, .inl z))] : va_W)) e9) dX12_copies_20
      replace hf := ifn c1 hf
      refine lv_aload_n hx hb dX12_copies_8 rfl (lv_at hl 1 rfl) ?_
      refine lv_iload_n hx hb dX12_copies_9 rfl (lv_at hl 2 rfl) ?_
      refine lv_aload_n hx hb dX12_copies_10 rfl (lv_at hl 0 rfl) ?_
      refine lv_iload_n hx hb dX12_copies_11 rfl (lv_at hl 2 rfl) ?_
      obtain ⟨h5, hf⟩ := gd_e hf
      refine va_iald hx hb hK.1 hP 0 0 rfl rfl h5 dX12_copies_12 ?_
      obtain ⟨h4, hf⟩ := gd_e hf
      obtain ⟨u2, eu2, hf⟩ := lett_e hf
      refine va_iast hx hb hK.1 hP hD hS 1 0 rfl rfl h4 dX12_copies_13 (fun H locs hP hD hS => ?_)
      have hP : va_P D vwCl ([(qf, .inl (T.1, 98, .inl uf))] ++ [(qt, .inl (T.1, 98, .inl u2))]) H := by rw [eu2]; exact hP
      have hD : va_D (va_A ([(qf, .inl (T.1, 98, .inl uf))] ++ [(qt, .inl (T.1, 98, .inl ut))]) s.heap.size) ([(qf, .inl (T.1, 98, .inl uf))] ++ [(qt, .inl (T.1, 98, .inl u2))]) := by rw [eu2]; exact hD
      obtain ⟨t3, et3, hf⟩ := lett_e hf
      refine lv_iinc (v := t3) (lv' := [(2, .int t3), (0, .ref qf), (1, .ref qt)]) hx hb dX12_copies_14 hl (k := 2) rfl (by rw [et3]; rfl) (by decide) rfl (fun ls hl => ?_)
      refine lv_goto (tgt := 2) hx hb dX12_copies_17 (by decide) ?_
      exact ih2 u2 t3 _ _ _ hf hP hD hS (lv_sub hl [1, 2, 0] rfl)
  unfold fX12_copies at hf
  refine lv_iconst (v := 0) hx hb dX12_copies_0 (by decide) ?_
  refine lv_istore_n (lv' := [(2, .int 0), (0, .ref qf), (1, .ref qt)]) hx hb dX12_copies_1 rfl hl (by decide) rfl (fun ls hl => ?_)
  exact L2 FU ut 0 _ _ _ hf hP hD hS (lv_sub hl [1, 2, 0] rfl)
def fX12_isTold  (u : St) (p1 : Int32) : Option (Int32) := lett (fX12_in p1 0 15) fun z1 => if z1 = 0 then some 0 else gd (0 + p1) 98 <| if (u 0 (ix (0 + p1))) = 1 then some 1 else some 0
set_option maxHeartbeats 4000000 in
set_option maxRecDepth 100000 in
theorem mX12_isTold (l : Launch) (D : va_G) (T : Ty3) (h : Nat) (a : Nat → Nat) (u : St) (p1 : Int32) (res : Int32) (hf : fX12_isTold u p1 = some res) : Met l yX12_isTold wsX12_isTold ({ frames := 1, cells := 0, slots := 0, locals := 22 }) (PcR D T (kX12 T h a u) [.ref h, .int p1]) (QR res) 0 0 noA := by
  refine Met.ofW (cc := cX12_isTold) (maxL := 2) (ret := (some .boolean)) (by decide) rfl ?_
  intro p e s m args below meth c s₁ B hml hv
  obtain ⟨rfl, hP, hK⟩ := hv
  have hx := B.exec
  have hb := B.bytes
  have hr := B.returns
  have hts := atoms_spec (ws := wsX12_isTold) B.pre
  have hown : s.vm.findClass RX12 = some m.cls := findClass_of_methodNamed B.named
  have hlocks := B.notSynchronized
  have hS : va_S noA s.heap s.heap [] := va_S.rf
  have hinX12 : ∀ w ∈ u_ws RX12 TX12 52, w ∈ wsX12_isTold := fun w h => List.mem_cons_of_mem _ (List.mem_append_right _ h)
  have hl := lv_entry ([.ref h, .int p1]) (n := 2) (Nat.le_of_ble_eq_true rfl)
  rw [lg_entry_eq]
  generalize (lg_sl ([.ref h, .int p1]) ++ List.replicate (2 - (lg_sl ([.ref h, .int p1])).length) Slot.unset).toArray = ls at hl ⊢
  have hl : lv_has ls 2 [(0, .ref h), (1, .int p1)] := hl
  unfold fX12_isTold at hf
  refine lv_iload_n hx hb dX12_isTold_0 rfl (lv_at hl 1 rfl) ?_
  refine lv_iconst (v := 0) hx hb dX12_isTold_1 (by decide) ?_
  refine lv_bipush (v := 15) hx hb dX12_isTold_2 (by decide) ?_
  obtain ⟨z1, hz1, hf⟩ := lett_e hf
  refine cSR (As := [.int p1, .int 0, .int 15]) (rest := []) ⟨hx, hb, hml, hown, hts⟩ (mX12_in l D T p1 0 15 z1 hz1.symm) (va_cwS 3 hts gX12_isTold_X12_in rfl rfl rfl (by decide +kernel) ⟨Nat.le_of_ble_eq_true rfl, Nat.le_of_ble_eq_true rfl⟩) P0 hK rfl hl.1 rfl (Nat.le_of_ble_eq_true rfl) dX12_isTold_4 ⟨Nat.le_of_ble_eq_true rfl, Nat.le_of_ble_eq_true rfl⟩ hP hS (fun H locs hP hS => ?_)
  refine lv_if_eq (tgt := 26) hx hb dX12_isTold_7 (by decide) (fun c2 => ?_) (fun c2 => ?_)
  · replace hf := ifp c2 hf
    refine lv_iconst (v := 0) hx hb dX12_isTold_26 (by decide) ?_
    exact retRz hx hb hr hlocks hS rfl (Option.some.inj hf) dX12_isTold_27
  replace hf := ifn c2 hf
  refine lv_aload_n hx hb dX12_isTold_10 rfl (lv_at hl 0 rfl) ?_
  refine va_get (D := D) (ci := 12) (v := .ref (a 0)) (C := RX12) (T := TX12) (N := 52) hx hb hts hinX12 hown hK.1 hP 0 rfl rfl 0 (by decide) (hts (.fieldLink RX12 7 "RopeScaleModel" "now" "[I") (List.mem_of_getElem? (i := 1) rfl)) (fun _ h9 => h9) rfl dX12_isTold_11 ?_
  refine lv_iconst (v := 0) hx hb dX12_isTold_14 (by decide) ?_
  refine lv_iload_n hx hb dX12_isTold_15 rfl (lv_at hl 1 rfl) ?_
  refine lv_iadd hx hb dX12_isTold_16 ?_
  obtain ⟨h4, hf⟩ := gd_e hf
  refine va_iald hx hb hK.1 hP 1 0 rfl rfl h4 dX12_isTold_17 ?_
  refine lv_iconst (v := 1) hx hb dX12_isTold_18 (by decide) ?_
  refine lv_icmp_ne (tgt := 26) hx hb dX12_isTold_19 (by decide) (fun c3 => ?_) (fun c3 => ?_)
  · replace hf := ifn c3 hf
    refine lv_iconst (v := 0) hx hb dX12_isTold_26 (by decide) ?_
    exact retRz hx hb hr hlocks hS rfl (Option.some.inj hf) dX12_isTold_27
  replace hf := ifp c3 hf
  refine lv_iconst (v := 1) hx hb dX12_isTold_22 (by decide) ?_
  refine lv_goto (tgt := 27) hx hb dX12_isTold_23 (by decide) ?_
  exact retRz hx hb hr hlocks hS rfl (Option.some.inj hf) dX12_isTold_27
def fX12_isHere  (u : St) (p1 : Int32) : Option (Int32) := (fX12_isTold u p1).bind fun z1 => if z1 = 0 then some 0 else gd (48 + p1) 98 <| if (u 0 (ix (48 + p1))) = 0 then some 1 else some 0
set_option maxHeartbeats 4000000 in
set_option maxRecDepth 100000 in
theorem mX12_isHere (l : Launch) (D : va_G) (T : Ty3) (h : Nat) (a : Nat → Nat) (u : St) (p1 : Int32) (res : Int32) (hf : fX12_isHere u p1 = some res) : Met l yX12_isHere wsX12_isHere ({ frames := 2, cells := 0, slots := 0, locals := 43 }) (PcR D T (kX12 T h a u) [.ref h, .int p1]) (QR res) 0 0 noA := by
  refine Met.ofW (cc := cX12_isHere) (maxL := 2) (ret := (some .boolean)) (by decide) rfl ?_
  intro p e s m args below meth c s₁ B hml hv
  obtain ⟨rfl, hP, hK⟩ := hv
  have hx := B.exec
  have hb := B.bytes
  have hr := B.returns
  have hts := atoms_spec (ws := wsX12_isHere) B.pre
  have hown : s.vm.findClass RX12 = some m.cls := findClass_of_methodNamed B.named
  have hlocks := B.notSynchronized
  have hS : va_S noA s.heap s.heap [] := va_S.rf
  have hinX12 : ∀ w ∈ u_ws RX12 TX12 52, w ∈ wsX12_isHere := fun w h => List.mem_cons_of_mem _ (List.mem_append_right _ h)
  have hl := lv_entry ([.ref h, .int p1]) (n := 2) (Nat.le_of_ble_eq_true rfl)
  rw [lg_entry_eq]
  generalize (lg_sl ([.ref h, .int p1]) ++ List.replicate (2 - (lg_sl ([.ref h, .int p1])).length) Slot.unset).toArray = ls at hl ⊢
  have hl : lv_has ls 2 [(0, .ref h), (1, .int p1)] := hl
  unfold fX12_isHere at hf
  refine lv_aload_n hx hb dX12_isHere_0 rfl (lv_at hl 0 rfl) ?_
  refine lv_iload_n hx hb dX12_isHere_1 rfl (lv_at hl 1 rfl) ?_
  obtain ⟨z1, hz1, hf⟩ := bnd hf
  refine cVR (As := [.int p1]) (rest := []) ⟨hx, hb, hml, hown, hts⟩ (mX12_isTold l D T h a u p1 z1 hz1) (cwV 1 hts gX12_isHere_X12_isTold rfl rfl rfl (by decide +kernel) ⟨Nat.le_of_ble_eq_true rfl, Nat.le_of_ble_eq_true rfl⟩) (va_recv hK.1 hP (ci := 12) (q0 := 0) rfl rfl) hP hK rfl hl.1 rfl (Nat.le_of_ble_eq_true rfl) dX12_isHere_2 ⟨Nat.le_of_ble_eq_true rfl, Nat.le_of_ble_eq_true rfl⟩ hP hS (fun H locs hP hS => ?_)
  refine lv_if_eq (tgt := 24) hx hb dX12_isHere_5 (by decide) (fun c2 => ?_) (fun c2 => ?_)
  · replace hf := ifp c2 hf
    refine lv_iconst (v := 0) hx hb dX12_isHere_24 (by decide) ?_
    exact retRz hx hb hr hlocks hS rfl (Option.some.inj hf) dX12_isHere_25
  replace hf := ifn c2 hf
  refine lv_aload_n hx hb dX12_isHere_8 rfl (lv_at hl 0 rfl) ?_
  refine va_get (D := D) (ci := 12) (v := .ref (a 0)) (C := RX12) (T := TX12) (N := 52) hx hb hts hinX12 hown hK.1 hP 0 rfl rfl 0 (by decide) (hts (.fieldLink RX12 7 "RopeScaleModel" "now" "[I") (List.mem_of_getElem? (i := 1) rfl)) (fun _ h9 => h9) rfl dX12_isHere_9 ?_
  refine lv_bipush (v := 48) hx hb dX12_isHere_12 (by decide) ?_
  refine lv_iload_n hx hb dX12_isHere_14 rfl (lv_at hl 1 rfl) ?_
  refine lv_iadd hx hb dX12_isHere_15 ?_
  obtain ⟨h4, hf⟩ := gd_e hf
  refine va_iald hx hb hK.1 hP 1 0 rfl rfl h4 dX12_isHere_16 ?_
  refine lv_if_ne (tgt := 24) hx hb dX12_isHere_17 (by decide) (fun c3 => ?_) (fun c3 => ?_)
  · replace hf := ifn c3 hf
    refine lv_iconst (v := 0) hx hb dX12_isHere_24 (by decide) ?_
    exact retRz hx hb hr hlocks hS rfl (Option.some.inj hf) dX12_isHere_25
  replace hf := ifp c3 hf
  refine lv_iconst (v := 1) hx hb dX12_isHere_20 (by decide) ?_
  refine lv_goto (tgt := 25) hx hb dX12_isHere_21 (by decide) ?_
  exact retRz hx hb hr hlocks hS rfl (Option.some.inj hf) dX12_isHere_25
def bX12_toldSet_L4 (u : St)  (lp4 : Int32 → Int32 → Option (Int32)) (x1 : Int32) (x2 : Int32) : Option (Int32) := if 16 ≤ x2 then some x1 else (fX12_isTold u x2).bind fun z2 => if z2 = 0 then lett (x2 + 1) fun t4 => lp4 x1 t4 else lett (x1 ||| (jshl 1 x2)) fun t5 => lett (x2 + 1) fun t6 => lp4 t5 t6
def fX12_toldSet_L4 (u : St)  : Nat → Int32 → Int32 → Option (Int32)
  | 0, _, _ => none
  | n + 1, x1, x2 => bX12_toldSet_L4 u (fX12_toldSet_L4 u n) x1 x2
def fX12_toldSet  (u : St)  : Option (Int32) := fX12_toldSet_L4 u FU 0 0
set_option maxHeartbeats 4000000 in
set_option maxRecDepth 100000 in
theorem mX12_toldSet (l : Launch) (D : va_G) (T : Ty3) (h : Nat) (a : Nat → Nat) (u : St)  (res : Int32) (hf : fX12_toldSet u = some res) : Met l yX12_toldSet wsX12_toldSet ({ frames := 2, cells := 0, slots := 0, locals := 43 }) (PcR D T (kX12 T h a u) [.ref h]) (QR res) 0 0 noA := by
  refine Met.ofW (cc := cX12_toldSet) (maxL := 3) (ret := (some .int)) (by decide) rfl ?_
  intro p e s m args below meth c s₁ B hml hv
  obtain ⟨rfl, hP, hK⟩ := hv
  have hx := B.exec
  have hb := B.bytes
  have hr := B.returns
  have hts := atoms_spec (ws := wsX12_toldSet) B.pre
  have hown : s.vm.findClass RX12 = some m.cls := findClass_of_methodNamed B.named
  have hlocks := B.notSynchronized
  have hS : va_S noA s.heap s.heap [] := va_S.rf
  have hinX12 : ∀ w ∈ u_ws RX12 TX12 52, w ∈ wsX12_toldSet := fun w h => List.mem_cons_of_mem _ (List.mem_append_right _ h)
  have hl := lv_entry ([.ref h]) (n := 3) (Nat.le_of_ble_eq_true rfl)
  rw [lg_entry_eq]
  generalize (lg_sl ([.ref h]) ++ List.replicate (3 - (lg_sl ([.ref h])).length) Slot.unset).toArray = ls at hl ⊢
  have hl : lv_has ls 3 [(0, .ref h)] := hl
  have L4 : ∀ (n4 : Nat), ∀ (x1 : Int32) (x2 : Int32) (H : Heap) (locs : List Loc) (ls : Array Slot), fX12_toldSet_L4 u n4 x1 x2 = some res → va_P D vwCl (kX12 T h a u) H → va_S noA s.heap H locs → lv_has ls 3 [(0, .ref h), (1, .int x1), (2, .int x2)] → W p l e (headSpec wsX12_toldSet ({ frames := 2, cells := 0, slots := 0, locals := 43 })).room s m ([.ref h] : List Value).toArray below meth c H locs 0 0 (MQ below (QR res) ([.ref h] : List Value).toArray s 0 0 noA) (F0 m 4 ls []) := by
    intro n4
    induction n4 with
    | zero => intro x1 x2 H locs ls hf; exact nns hf
    | succ n4 ih4 =>
      intro x1 x2 H locs ls hf hP hS hl
      replace hf : bX12_toldSet_L4 u (fX12_toldSet_L4 u n4) x1 x2 = some res := hf
      unfold bX12_toldSet_L4 at hf
      refine lv_iload_n hx hb dX12_toldSet_4 rfl (lv_at hl 2 rfl) ?_
      refine lv_bipush (v := 16) hx hb dX12_toldSet_5 (by decide) ?_
      refine lv_icmp_ge (tgt := 30) hx hb dX12_toldSet_7 (by decide) (fun c1 => ?_) (fun c1 => ?_)
      · replace hf := ifp c1 hf
        refine lv_iload_n hx hb dX12_toldSet_30 rfl (lv_at hl 1 rfl) ?_
        exact retR hx hb hr hlocks hS (Option.some.inj hf) dX12_toldSet_31
      replace hf := ifn c1 hf
      refine lv_aload_n hx hb dX12_toldSet_10 rfl (lv_at hl 0 rfl) ?_
      refine lv_iload_n hx hb dX12_toldSet_11 rfl (lv_at hl 2 rfl) ?_
      obtain ⟨z2, hz2, hf⟩ := bnd hf
      refine cVR (As := [.int x2]) (rest := []) ⟨hx, hb, hml, hown, hts⟩ (mX12_isTold l D T h a u x2 z2 hz2) (cwV 1 hts gX12_toldSet_X12_isTold rfl rfl rfl (by decide +kernel) ⟨Nat.le_of_ble_eq_true rfl, Nat.le_of_ble_eq_true rfl⟩) (va_recv hK.1 hP (ci := 12) (q0 := 0) rfl rfl) hP hK rfl hl.1 rfl (Nat.le_of_ble_eq_true rfl) dX12_toldSet_12 ⟨Nat.le_of_ble_eq_true rfl, Nat.le_of_ble_eq_true rfl⟩ hP hS (fun H locs hP hS => ?_)
      refine lv_if_eq (tgt := 24) hx hb dX12_toldSet_15 (by decide) (fun c3 => ?_) (fun c3 => ?_)
      · replace hf := ifp c3 hf
        obtain ⟨t4, et4, hf⟩ := lett_e hf
        refine lv_iinc (v := t4) (lv' := [(2, .int t4), (0, .ref h), (1, .int x1)]) hx hb dX12_toldSet_24 hl (k := 2) rfl (by rw [et4]; rfl) (by decide) rfl (fun ls hl => ?_)
        refine lv_goto (tgt := 4) hx hb dX12_toldSet_27 (by decide) ?_
        exact ih4 x1 t4 _ _ _ hf hP hS (lv_sub hl [1, 2, 0] rfl)
      replace hf := ifn c3 hf
      refine lv_iload_n hx hb dX12_toldSet_18 rfl (lv_at hl 1 rfl) ?_
      refine lv_iconst (v := 1) hx hb dX12_toldSet_19 (by decide) ?_
      refine lv_iload_n hx hb dX12_toldSet_20 rfl (lv_at hl 2 rfl) ?_
      refine lv_ishl hx hb dX12_toldSet_21 ?_
      refine lv_ior hx hb dX12_toldSet_22 ?_
      obtain ⟨t5, et5, hf⟩ := lett_e hf
      refine lv_eqi et5 ?_
      refine lv_istore_n (lv' := [(1, .int t5), (0, .ref h), (2, .int x2)]) hx hb dX12_toldSet_23 rfl hl (by decide) rfl (fun ls hl => ?_)
      obtain ⟨t6, et6, hf⟩ := lett_e hf
      refine lv_iinc (v := t6) (lv' := [(2, .int t6), (1, .int t5), (0, .ref h)]) hx hb dX12_toldSet_24 hl (k := 2) rfl (by rw [et6]; rfl) (by decide) rfl (fun ls hl => ?_)
      refine lv_goto (tgt := 4) hx hb dX12_toldSet_27 (by decide) ?_
      exact ih4 t5 t6 _ _ _ hf hP hS (lv_sub hl [2, 1, 0] rfl)
  unfold fX12_toldSet at hf
  refine lv_iconst (v := 0) hx hb dX12_toldSet_0 (by decide) ?_
  refine lv_istore_n (lv' := [(1, .int 0), (0, .ref h)]) hx hb dX12_toldSet_1 rfl hl (by decide) rfl (fun ls hl => ?_)
  refine lv_iconst (v := 0) hx hb dX12_toldSet_2 (by decide) ?_
  refine lv_istore_n (lv' := [(2, .int 0), (1, .int 0), (0, .ref h)]) hx hb dX12_toldSet_3 rfl hl (by decide) rfl (fun ls hl => ?_)
  exact L4 FU 0 0 _ _ _ hf hP hS (lv_sub hl [2, 1, 0] rfl)
def bX12_hereSet_L4 (u : St)  (lp4 : Int32 → Int32 → Option (Int32)) (x1 : Int32) (x2 : Int32) : Option (Int32) := if 16 ≤ x2 then some x1 else (fX12_isHere u x2).bind fun z2 => if z2 = 0 then lett (x2 + 1) fun t4 => lp4 x1 t4 else lett (x1 ||| (jshl 1 x2)) fun t5 => lett (x2 + 1) fun t6 => lp4 t5 t6
def fX12_hereSet_L4 (u : St)  : Nat → Int32 → Int32 → Option (Int32)
  | 0, _, _ => none
  | n + 1, x1, x2 => bX12_hereSet_L4 u (fX12_hereSet_L4 u n) x1 x2
def fX12_hereSet  (u : St)  : Option (Int32) := fX12_hereSet_L4 u FU 0 0
set_option maxHeartbeats 4000000 in
set_option maxRecDepth 100000 in
theorem mX12_hereSet (l : Launch) (D : va_G) (T : Ty3) (h : Nat) (a : Nat → Nat) (u : St)  (res : Int32) (hf : fX12_hereSet u = some res) : Met l yX12_hereSet wsX12_hereSet ({ frames := 3, cells := 0, slots := 0, locals := 64 }) (PcR D T (kX12 T h a u) [.ref h]) (QR res) 0 0 noA := by
  refine Met.ofW (cc := cX12_hereSet) (maxL := 3) (ret := (some .int)) (by decide) rfl ?_
  intro p e s m args below meth c s₁ B hml hv
  obtain ⟨rfl, hP, hK⟩ := hv
  have hx := B.exec
  have hb := B.bytes
  have hr := B.returns
  have hts := atoms_spec (ws := wsX12_hereSet) B.pre
  have hown : s.vm.findClass RX12 = some m.cls := findClass_of_methodNamed B.named
  have hlocks := B.notSynchronized
  have hS : va_S noA s.heap s.heap [] := va_S.rf
  have hinX12 : ∀ w ∈ u_ws RX12 TX12 52, w ∈ wsX12_hereSet := fun w h => List.mem_cons_of_mem _ (List.mem_append_right _ h)
  have hl := lv_entry ([.ref h]) (n := 3) (Nat.le_of_ble_eq_true rfl)
  rw [lg_entry_eq]
  generalize (lg_sl ([.ref h]) ++ List.replicate (3 - (lg_sl ([.ref h])).length) Slot.unset).toArray = ls at hl ⊢
  have hl : lv_has ls 3 [(0, .ref h)] := hl
  have L4 : ∀ (n4 : Nat), ∀ (x1 : Int32) (x2 : Int32) (H : Heap) (locs : List Loc) (ls : Array Slot), fX12_hereSet_L4 u n4 x1 x2 = some res → va_P D vwCl (kX12 T h a u) H → va_S noA s.heap H locs → lv_has ls 3 [(0, .ref h), (1, .int x1), (2, .int x2)] → W p l e (headSpec wsX12_hereSet ({ frames := 3, cells := 0, slots := 0, locals := 64 })).room s m ([.ref h] : List Value).toArray below meth c H locs 0 0 (MQ below (QR res) ([.ref h] : List Value).toArray s 0 0 noA) (F0 m 4 ls []) := by
    intro n4
    induction n4 with
    | zero => intro x1 x2 H locs ls hf; exact nns hf
    | succ n4 ih4 =>
      intro x1 x2 H locs ls hf hP hS hl
      replace hf : bX12_hereSet_L4 u (fX12_hereSet_L4 u n4) x1 x2 = some res := hf
      unfold bX12_hereSet_L4 at hf
      refine lv_iload_n hx hb dX12_hereSet_4 rfl (lv_at hl 2 rfl) ?_
      refine lv_bipush (v := 16) hx hb dX12_hereSet_5 (by decide) ?_
      refine lv_icmp_ge (tgt := 30) hx hb dX12_hereSet_7 (by decide) (fun c1 => ?_) (fun c1 => ?_)
      · replace hf := ifp c1 hf
        refine lv_iload_n hx hb dX12_hereSet_30 rfl (lv_at hl 1 rfl) ?_
        exact retR hx hb hr hlocks hS (Option.some.inj hf) dX12_hereSet_31
      replace hf := ifn c1 hf
      refine lv_aload_n hx hb dX12_hereSet_10 rfl (lv_at hl 0 rfl) ?_
      refine lv_iload_n hx hb dX12_hereSet_11 rfl (lv_at hl 2 rfl) ?_
      obtain ⟨z2, hz2, hf⟩ := bnd hf
      refine cVR (As := [.int x2]) (rest := []) ⟨hx, hb, hml, hown, hts⟩ (mX12_isHere l D T h a u x2 z2 hz2) (cwV 1 hts gX12_hereSet_X12_isHere rfl rfl rfl (by decide +kernel) ⟨Nat.le_of_ble_eq_true rfl, Nat.le_of_ble_eq_true rfl⟩) (va_recv hK.1 hP (ci := 12) (q0 := 0) rfl rfl) hP hK rfl hl.1 rfl (Nat.le_of_ble_eq_true rfl) dX12_hereSet_12 ⟨Nat.le_of_ble_eq_true rfl, Nat.le_of_ble_eq_true rfl⟩ hP hS (fun H locs hP hS => ?_)
      refine lv_if_eq (tgt := 24) hx hb dX12_hereSet_15 (by decide) (fun c3 => ?_) (fun c3 => ?_)
      · replace hf := ifp c3 hf
        obtain ⟨t4, et4, hf⟩ := lett_e hf
        refine lv_iinc (v := t4) (lv' := [(2, .int t4), (0, .ref h), (1, .int x1)]) hx hb dX12_hereSet_24 hl (k := 2) rfl (by rw [et4]; rfl) (by decide) rfl (fun ls hl => ?_)
        refine lv_goto (tgt := 4) hx hb dX12_hereSet_27 (by decide) ?_
        exact ih4 x1 t4 _ _ _ hf hP hS (lv_sub hl [1, 2, 0] rfl)
      replace hf := ifn c3 hf
      refine lv_iload_n hx hb dX12_hereSet_18 rfl (lv_at hl 1 rfl) ?_
      refine lv_iconst (v := 1) hx hb dX12_hereSet_19 (by decide) ?_
      refine lv_iload_n hx hb dX12_hereSet_20 rfl (lv_at hl 2 rfl) ?_
      refine lv_ishl hx hb dX12_hereSet_21 ?_
      refine lv_ior hx hb dX12_hereSet_22 ?_
      obtain ⟨t5, et5, hf⟩ := lett_e hf
      refine lv_eqi et5 ?_
      refine lv_istore_n (lv' := [(1, .int t5), (0, .ref h), (2, .int x2)]) hx hb dX12_hereSet_23 rfl hl (by decide) rfl (fun ls hl => ?_)
      obtain ⟨t6, et6, hf⟩ := lett_e hf
      refine lv_iinc (v := t6) (lv' := [(2, .int t6), (1, .int t5), (0, .ref h)]) hx hb dX12_hereSet_24 hl (k := 2) rfl (by rw [et6]; rfl) (by decide) rfl (fun ls hl => ?_)
      refine lv_goto (tgt := 4) hx hb dX12_hereSet_27 (by decide) ?_
      exact ih4 t5 t6 _ _ _ hf hP hS (lv_sub hl [2, 1, 0] rfl)
  unfold fX12_hereSet at hf
  refine lv_iconst (v := 0) hx hb dX12_hereSet_0 (by decide) ?_
  refine lv_istore_n (lv' := [(1, .int 0), (0, .ref h)]) hx hb dX12_hereSet_1 rfl hl (by decide) rfl (fun ls hl => ?_)
  refine lv_iconst (v := 0) hx hb dX12_hereSet_2 (by decide) ?_
  refine lv_istore_n (lv' := [(2, .int 0), (1, .int 0), (0, .ref h)]) hx hb dX12_hereSet_3 rfl hl (by decide) rfl (fun ls hl => ?_)
  exact L4 FU 0 0 _ _ _ hf hP hS (lv_sub hl [2, 1, 0] rfl)
def fX12_walker  (u : St) (p1 : Int32) (p2 : Int32) : Option (Int32 × St) := lett (fX12_in p1 0 15) fun z1 => if z1 = 0 then some (0, u) else lett (fX12_in p2 1 999) fun z3 => if z3 = 0 then some (0, u) else gd (0 + p1) 98 <| lett (st u 0 (ix (0 + p1)) 1) fun u5 => gd (16 + p1) 98 <| lett (st u5 0 (ix (16 + p1)) p2) fun u6 => gd (32 + p1) 98 <| lett (st u6 0 (ix (32 + p1)) p2) fun u7 => gd (48 + p1) 98 <| lett (st u7 0 (ix (48 + p1)) 0) fun u8 => gd (64 + p1) 98 <| lett (st u8 0 (ix (64 + p1)) 0) fun u9 => gd (80 + p1) 98 <| lett (st u9 0 (ix (80 + p1)) 0) fun u10 => some (1, u10)
set_option maxHeartbeats 4000000 in
set_option maxRecDepth 100000 in
theorem mX12_walker (l : Launch) (D : va_G) (T : Ty3) (h : Nat) (a : Nat → Nat) (u : St) (sz : Nat) (p1 : Int32) (p2 : Int32) (res : Int32 × St) (hf : fX12_walker u p1 p2 = some res) : Met l yX12_walker wsX12_walker ({ frames := 1, cells := 0, slots := 0, locals := 22 }) (PcM D T (kX12 T h a u) sz [.ref h, .int p1, .int p2]) (QM D (kX12 T h a u) sz res.1 (kX12 T h a res.2)) 0 0 (va_A (kX12 T h a u) sz) := by
  refine Met.ofW (cc := cX12_walker) (maxL := 3) (ret := (some .boolean)) (by decide) rfl ?_
  intro p e s m args below meth c s₁ B hml hv
  obtain ⟨rfl, hsz, hP, hK, hD0⟩ := hv
  have hx := B.exec
  have hb := B.bytes
  have hr := B.returns
  have hts := atoms_spec (ws := wsX12_walker) B.pre
  have hown : s.vm.findClass RX12 = some m.cls := findClass_of_methodNamed B.named
  have hlocks := B.notSynchronized
  subst hsz
  have hD := hD0.self (sz := s.heap.size)
  have hA : ∀ q : Nat, s.heap.size ≤ q → va_A (kX12 T h a u) s.heap.size q := fun q h => Or.inr h
  have hS : va_S (va_A (kX12 T h a u) s.heap.size) s.heap s.heap [] := va_S.rf
  have hinX12 : ∀ w ∈ u_ws RX12 TX12 52, w ∈ wsX12_walker := fun w h => List.mem_cons_of_mem _ (List.mem_append_right _ h)
  have hl := lv_entry ([.ref h, .int p1, .int p2]) (n := 3) (Nat.le_of_ble_eq_true rfl)
  rw [lg_entry_eq]
  generalize (lg_sl ([.ref h, .int p1, .int p2]) ++ List.replicate (3 - (lg_sl ([.ref h, .int p1, .int p2])).length) Slot.unset).toArray = ls at hl ⊢
  have hl : lv_has ls 3 [(0, .ref h), (1, .int p1), (2, .int p2)] := hl
  unfold fX12_walker at hf
  refine lv_iload_n hx hb dX12_walker_0 rfl (lv_at hl 1 rfl) ?_
  refine lv_iconst (v := 0) hx hb dX12_walker_1 (by decide) ?_
  refine lv_bipush (v := 15) hx hb dX12_walker_2 (by decide) ?_
  obtain ⟨z1, hz1, hf⟩ := lett_e hf
  refine cSR (As := [.int p1, .int 0, .int 15]) (rest := []) ⟨hx, hb, hml, hown, hts⟩ (mX12_in l D T p1 0 15 z1 hz1.symm) (va_cwS 3 hts gX12_walker_X12_in rfl rfl rfl (by decide +kernel) ⟨Nat.le_of_ble_eq_true rfl, Nat.le_of_ble_eq_true rfl⟩) P0 hK rfl hl.1 rfl (Nat.le_of_ble_eq_true rfl) dX12_walker_4 ⟨Nat.le_of_ble_eq_true rfl, Nat.le_of_ble_eq_true rfl⟩ hP hS (fun H locs hP hS => ?_)
  refine lv_if_eq (tgt := 21) hx hb dX12_walker_7 (by decide) (fun c2 => ?_) (fun c2 => ?_)
  · replace hf := ifp c2 hf
    refine lv_iconst (v := 0) hx hb dX12_walker_21 (by decide) ?_
    have e9 := Option.some.inj hf
    exact retMz hx hb hr hlocks hP hD hS rfl (congrArg (fun z => z.1) e9) (congrArg (fun z => (kX12 T h a z.2 : va_W)) e9) dX12_walker_22
  replace hf := ifn c2 hf
  refine lv_iload_n hx hb dX12_walker_10 rfl (lv_at hl 2 rfl) ?_
  refine lv_iconst (v := 1) hx hb dX12_walker_11 (by decide) ?_
  refine lv_sipush (v := 999) hx hb dX12_walker_12 (by decide) ?_
  obtain ⟨z3, hz3, hf⟩ := lett_e hf
  refine cSR (As := [.int p2, .int 1, .int 999]) (rest := []) ⟨hx, hb, hml, hown, hts⟩ (mX12_in l D T p2 1 999 z3 hz3.symm) (va_cwS 3 hts gX12_walker_X12_in rfl rfl rfl (by decide +kernel) ⟨Nat.le_of_ble_eq_true rfl, Nat.le_of_ble_eq_true rfl⟩) P0 hK rfl hl.1 rfl (Nat.le_of_ble_eq_true rfl) dX12_walker_15 ⟨Nat.le_of_ble_eq_true rfl, Nat.le_of_ble_eq_true rfl⟩ hP hS (fun H locs hP hS => ?_)
  refine lv_if_ne (tgt := 23) hx hb dX12_walker_18 (by decide) (fun c4 => ?_) (fun c4 => ?_)
  · replace hf := ifn c4 hf
    refine lv_aload_n hx hb dX12_walker_23 rfl (lv_at hl 0 rfl) ?_
    refine va_get (D := D) (ci := 12) (v := .ref (a 0)) (C := RX12) (T := TX12) (N := 52) hx hb hts hinX12 hown hK.1 hP 0 rfl rfl 0 (by decide) (hts (.fieldLink RX12 7 "RopeScaleModel" "now" "[I") (List.mem_of_getElem? (i := 1) rfl)) (fun _ h9 => h9) rfl dX12_walker_24 ?_
    refine lv_iconst (v := 0) hx hb dX12_walker_27 (by decide) ?_
    refine lv_iload_n hx hb dX12_walker_28 rfl (lv_at hl 1 rfl) ?_
    refine lv_iadd hx hb dX12_walker_29 ?_
    refine lv_iconst (v := 1) hx hb dX12_walker_30 (by decide) ?_
    obtain ⟨h16, hf⟩ := gd_e hf
    obtain ⟨u5, eu5, hf⟩ := lett_e hf
    refine va_iast hx hb hK.1 hP hD hS 1 0 rfl rfl h16 dX12_walker_31 (fun H locs hP hD hS => ?_)
    have hP : va_P D vwCl (kX12 T h a u5) H := by rw [eu5]; exact hP
    have hD : va_D (va_A (kX12 T h a u) s.heap.size) (kX12 T h a u5) := by rw [eu5]; exact hD
    refine lv_aload_n hx hb dX12_walker_32 rfl (lv_at hl 0 rfl) ?_
    refine va_get (D := D) (ci := 12) (v := .ref (a 0)) (C := RX12) (T := TX12) (N := 52) hx hb hts hinX12 hown hK.1 hP 0 rfl rfl 0 (by decide) (hts (.fieldLink RX12 7 "RopeScaleModel" "now" "[I") (List.mem_of_getElem? (i := 1) rfl)) (fun _ h9 => h9) rfl dX12_walker_33 ?_
    refine lv_bipush (v := 16) hx hb dX12_walker_36 (by decide) ?_
    refine lv_iload_n hx hb dX12_walker_38 rfl (lv_at hl 1 rfl) ?_
    refine lv_iadd hx hb dX12_walker_39 ?_
    refine lv_iload_n hx hb dX12_walker_40 rfl (lv_at hl 2 rfl) ?_
    obtain ⟨h15, hf⟩ := gd_e hf
    obtain ⟨u6, eu6, hf⟩ := lett_e hf
    refine va_iast hx hb hK.1 hP hD hS 1 0 rfl rfl h15 dX12_walker_41 (fun H locs hP hD hS => ?_)
    have hP : va_P D vwCl (kX12 T h a u6) H := by rw [eu6]; exact hP
    have hD : va_D (va_A (kX12 T h a u) s.heap.size) (kX12 T h a u6) := by rw [eu6]; exact hD
    refine lv_aload_n hx hb dX12_walker_42 rfl (lv_at hl 0 rfl) ?_
    refine va_get (D := D) (ci := 12) (v := .ref (a 0)) (C := RX12) (T := TX12) (N := 52) hx hb hts hinX12 hown hK.1 hP 0 rfl rfl 0 (by decide) (hts (.fieldLink RX12 7 "RopeScaleModel" "now" "[I") (List.mem_of_getElem? (i := 1) rfl)) (fun _ h9 => h9) rfl dX12_walker_43 ?_
    refine lv_bipush (v := 32) hx hb dX12_walker_46 (by decide) ?_
    refine lv_iload_n hx hb dX12_walker_48 rfl (lv_at hl 1 rfl) ?_
    refine lv_iadd hx hb dX12_walker_49 ?_
    refine lv_iload_n hx hb dX12_walker_50 rfl (lv_at hl 2 rfl) ?_
    obtain ⟨h14, hf⟩ := gd_e hf
    obtain ⟨u7, eu7, hf⟩ := lett_e hf
    refine va_iast hx hb hK.1 hP hD hS 1 0 rfl rfl h14 dX12_walker_51 (fun H locs hP hD hS => ?_)
    have hP : va_P D vwCl (kX12 T h a u7) H := by rw [eu7]; exact hP
    have hD : va_D (va_A (kX12 T h a u) s.heap.size) (kX12 T h a u7) := by rw [eu7]; exact hD
    refine lv_aload_n hx hb dX12_walker_52 rfl (lv_at hl 0 rfl) ?_
    refine va_get (D := D) (ci := 12) (v := .ref (a 0)) (C := RX12) (T := TX12) (N := 52) hx hb hts hinX12 hown hK.1 hP 0 rfl rfl 0 (by decide) (hts (.fieldLink RX12 7 "RopeScaleModel" "now" "[I") (List.mem_of_getElem? (i := 1) rfl)) (fun _ h9 => h9) rfl dX12_walker_53 ?_
    refine lv_bipush (v := 48) hx hb dX12_walker_56 (by decide) ?_
    refine lv_iload_n hx hb dX12_walker_58 rfl (lv_at hl 1 rfl) ?_
    refine lv_iadd hx hb dX12_walker_59 ?_
    refine lv_iconst (v := 0) hx hb dX12_walker_60 (by decide) ?_
    obtain ⟨h13, hf⟩ := gd_e hf
    obtain ⟨u8, eu8, hf⟩ := lett_e hf
    refine va_iast hx hb hK.1 hP hD hS 1 0 rfl rfl h13 dX12_walker_61 (fun H locs hP hD hS => ?_)
    have hP : va_P D vwCl (kX12 T h a u8) H := by rw [eu8]; exact hP
    have hD : va_D (va_A (kX12 T h a u) s.heap.size) (kX12 T h a u8) := by rw [eu8]; exact hD
    refine lv_aload_n hx hb dX12_walker_62 rfl (lv_at hl 0 rfl) ?_
    refine va_get (D := D) (ci := 12) (v := .ref (a 0)) (C := RX12) (T := TX12) (N := 52) hx hb hts hinX12 hown hK.1 hP 0 rfl rfl 0 (by decide) (hts (.fieldLink RX12 7 "RopeScaleModel" "now" "[I") (List.mem_of_getElem? (i := 1) rfl)) (fun _ h9 => h9) rfl dX12_walker_63 ?_
    refine lv_bipush (v := 64) hx hb dX12_walker_66 (by decide) ?_
    refine lv_iload_n hx hb dX12_walker_68 rfl (lv_at hl 1 rfl) ?_
    refine lv_iadd hx hb dX12_walker_69 ?_
    refine lv_iconst (v := 0) hx hb dX12_walker_70 (by decide) ?_
    obtain ⟨h12, hf⟩ := gd_e hf
    obtain ⟨u9, eu9, hf⟩ := lett_e hf
    refine va_iast hx hb hK.1 hP hD hS 1 0 rfl rfl h12 dX12_walker_71 (fun H locs hP hD hS => ?_)
    have hP : va_P D vwCl (kX12 T h a u9) H := by rw [eu9]; exact hP
    have hD : va_D (va_A (kX12 T h a u) s.heap.size) (kX12 T h a u9) := by rw [eu9]; exact hD
    refine lv_aload_n hx hb dX12_walker_72 rfl (lv_at hl 0 rfl) ?_
    refine va_get (D := D) (ci := 12) (v := .ref (a 0)) (C := RX12) (T := TX12) (N := 52) hx hb hts hinX12 hown hK.1 hP 0 rfl rfl 0 (by decide) (hts (.fieldLink RX12 7 "RopeScaleModel" "now" "[I") (List.mem_of_getElem? (i := 1) rfl)) (fun _ h9 => h9) rfl dX12_walker_73 ?_
    refine lv_bipush (v := 80) hx hb dX12_walker_76 (by decide) ?_
    refine lv_iload_n hx hb dX12_walker_78 rfl (lv_at hl 1 rfl) ?_
    refine lv_iadd hx hb dX12_walker_79 ?_
    refine lv_iconst (v := 0) hx hb dX12_walker_80 (by decide) ?_
    obtain ⟨h11, hf⟩ := gd_e hf
    obtain ⟨u10, eu10, hf⟩ := lett_e hf
    refine va_iast hx hb hK.1 hP hD hS 1 0 rfl rfl h11 dX12_walker_81 (fun H locs hP hD hS => ?_)
    have hP : va_P D vwCl (kX12 T h a u10) H := by rw [eu10]; exact hP
    have hD : va_D (va_A (kX12 T h a u) s.heap.size) (kX12 T h a u10) := by rw [eu10]; exact hD
    refine lv_iconst (v := 1) hx hb dX12_walker_82 (by decide) ?_
    have e9 := Option.some.inj hf
    exact retMz hx hb hr hlocks hP hD hS rfl (congrArg (fun z => z.1) e9) (congrArg (fun z => (kX12 T h a z.2 : va_W)) e9) dX12_walker_83
  replace hf := ifp c4 hf
  refine lv_iconst (v := 0) hx hb dX12_walker_21 (by decide) ?_
  have e9 := Option.some.inj hf
  exact retMz hx hb hr hlocks hP hD hS rfl (congrArg (fun z => z.1) e9) (congrArg (fun z => (kX12 T h a z.2 : va_W)) e9) dX12_walker_22
def fX12_rules  (u : St) (p1 : Int32) (p2 : Int32) : (Int32 × St) := lett (fX12_in p1 0 99) fun z1 => if z1 = 0 then (0, u) else lett (fX12_in p2 0 99) fun z3 => if z3 = 0 then (0, u) else lett (st u 3 0 p1) fun u5 => lett (st u5 4 0 p2) fun u6 => (1, u6)
set_option maxHeartbeats 4000000 in
set_option maxRecDepth 100000 in
theorem mX12_rules (l : Launch) (D : va_G) (T : Ty3) (h : Nat) (a : Nat → Nat) (u : St) (sz : Nat) (p1 : Int32) (p2 : Int32) (res : Int32 × St) (hf : fX12_rules u p1 p2 = res) : Met l yX12_rules wsX12_rules ({ frames := 1, cells := 0, slots := 0, locals := 22 }) (PcM D T (kX12 T h a u) sz [.ref h, .int p1, .int p2]) (QM D (kX12 T h a u) sz res.1 (kX12 T h a res.2)) 0 0 (va_A (kX12 T h a u) sz) := by
  refine Met.ofW (cc := cX12_rules) (maxL := 3) (ret := (some .boolean)) (by decide) rfl ?_
  intro p e s m args below meth c s₁ B hml hv
  obtain ⟨rfl, hsz, hP, hK, hD0⟩ := hv
  have hx := B.exec
  have hb := B.bytes
  have hr := B.returns
  have hts := atoms_spec (ws := wsX12_rules) B.pre
  have hown : s.vm.findClass RX12 = some m.cls := findClass_of_methodNamed B.named
  have hlocks := B.notSynchronized
  subst hsz
  have hD := hD0.self (sz := s.heap.size)
  have hA : ∀ q : Nat, s.heap.size ≤ q → va_A (kX12 T h a u) s.heap.size q := fun q h => Or.inr h
  have hS : va_S (va_A (kX12 T h a u) s.heap.size) s.heap s.heap [] := va_S.rf
  have hinX12 : ∀ w ∈ u_ws RX12 TX12 52, w ∈ wsX12_rules := fun w h => List.mem_cons_of_mem _ (List.mem_append_right _ h)
  have hl := lv_entry ([.ref h, .int p1, .int p2]) (n := 3) (Nat.le_of_ble_eq_true rfl)
  rw [lg_entry_eq]
  generalize (lg_sl ([.ref h, .int p1, .int p2]) ++ List.replicate (3 - (lg_sl ([.ref h, .int p1, .int p2])).length) Slot.unset).toArray = ls at hl ⊢
  have hl : lv_has ls 3 [(0, .ref h), (1, .int p1), (2, .int p2)] := hl
  unfold fX12_rules at hf
  refine lv_iload_n hx hb dX12_rules_0 rfl (lv_at hl 1 rfl) ?_
  refine lv_iconst (v := 0) hx hb dX12_rules_1 (by decide) ?_
  refine lv_bipush (v := 99) hx hb dX12_rules_2 (by decide) ?_
  obtain ⟨z1, hz1, hf⟩ := lett_e hf
  refine cSR (As := [.int p1, .int 0, .int 99]) (rest := []) ⟨hx, hb, hml, hown, hts⟩ (mX12_in l D T p1 0 99 z1 hz1.symm) (va_cwS 3 hts gX12_rules_X12_in rfl rfl rfl (by decide +kernel) ⟨Nat.le_of_ble_eq_true rfl, Nat.le_of_ble_eq_true rfl⟩) P0 hK rfl hl.1 rfl (Nat.le_of_ble_eq_true rfl) dX12_rules_4 ⟨Nat.le_of_ble_eq_true rfl, Nat.le_of_ble_eq_true rfl⟩ hP hS (fun H locs hP hS => ?_)
  refine lv_if_eq (tgt := 20) hx hb dX12_rules_7 (by decide) (fun c2 => ?_) (fun c2 => ?_)
  · replace hf := ifp c2 hf
    refine lv_iconst (v := 0) hx hb dX12_rules_20 (by decide) ?_
    have e9 := hf
    exact retMz hx hb hr hlocks hP hD hS rfl (congrArg (fun z => z.1) e9) (congrArg (fun z => (kX12 T h a z.2 : va_W)) e9) dX12_rules_21
  replace hf := ifn c2 hf
  refine lv_iload_n hx hb dX12_rules_10 rfl (lv_at hl 2 rfl) ?_
  refine lv_iconst (v := 0) hx hb dX12_rules_11 (by decide) ?_
  refine lv_bipush (v := 99) hx hb dX12_rules_12 (by decide) ?_
  obtain ⟨z3, hz3, hf⟩ := lett_e hf
  refine cSR (As := [.int p2, .int 0, .int 99]) (rest := []) ⟨hx, hb, hml, hown, hts⟩ (mX12_in l D T p2 0 99 z3 hz3.symm) (va_cwS 3 hts gX12_rules_X12_in rfl rfl rfl (by decide +kernel) ⟨Nat.le_of_ble_eq_true rfl, Nat.le_of_ble_eq_true rfl⟩) P0 hK rfl hl.1 rfl (Nat.le_of_ble_eq_true rfl) dX12_rules_14 ⟨Nat.le_of_ble_eq_true rfl, Nat.le_of_ble_eq_true rfl⟩ hP hS (fun H locs hP hS => ?_)
  refine lv_if_ne (tgt := 22) hx hb dX12_rules_17 (by decide) (fun c4 => ?_) (fun c4 => ?_)
  · replace hf := ifn c4 hf
    refine lv_aload_n hx hb dX12_rules_22 rfl (lv_at hl 0 rfl) ?_
    refine lv_iload_n hx hb dX12_rules_23 rfl (lv_at hl 1 rfl) ?_
    obtain ⟨u5, eu5, hf⟩ := lett_e hf
    refine va_put (D := D) (ci := 12) (v := .int p1) (ty := .int) (C := RX12) (T := TX12) (N := 52) hx hb hts hinX12 tyX12 tyX12_ok nmX12 hown hK.1 hP hD hS 0 rfl rfl 3 (by decide) (hts (.fieldLink RX12 116 "RopeScaleModel" "toleranceNow" "I") (List.mem_of_getElem? (i := 1) rfl)) (fun _ h9 => h9) rfl (tyX12_ok 3 (by decide)) rfl rfl (Nat.le_of_ble_eq_true rfl) dX12_rules_24 (fun H locs hP hD hS => ?_)
    have hP : va_P D vwCl (kX12 T h a u5) H := by rw [eu5]; exact hP
    have hD : va_D (va_A (kX12 T h a u) s.heap.size) (kX12 T h a u5) := by rw [eu5]; exact hD
    refine lv_aload_n hx hb dX12_rules_27 rfl (lv_at hl 0 rfl) ?_
    refine lv_iload_n hx hb dX12_rules_28 rfl (lv_at hl 2 rfl) ?_
    obtain ⟨u6, eu6, hf⟩ := lett_e hf
    refine va_put (D := D) (ci := 12) (v := .int p2) (ty := .int) (C := RX12) (T := TX12) (N := 52) hx hb hts hinX12 tyX12 tyX12_ok nmX12 hown hK.1 hP hD hS 0 rfl rfl 4 (by decide) (hts (.fieldLink RX12 101 "RopeScaleModel" "toeNow" "I") (List.mem_of_getElem? (i := 2) rfl)) (fun _ h9 => h9) rfl (tyX12_ok 4 (by decide)) rfl rfl (Nat.le_of_ble_eq_true rfl) dX12_rules_29 (fun H locs hP hD hS => ?_)
    have hP : va_P D vwCl (kX12 T h a u6) H := by rw [eu6]; exact hP
    have hD : va_D (va_A (kX12 T h a u) s.heap.size) (kX12 T h a u6) := by rw [eu6]; exact hD
    refine lv_iconst (v := 1) hx hb dX12_rules_32 (by decide) ?_
    have e9 := hf
    exact retMz hx hb hr hlocks hP hD hS rfl (congrArg (fun z => z.1) e9) (congrArg (fun z => (kX12 T h a z.2 : va_W)) e9) dX12_rules_33
  replace hf := ifp c4 hf
  refine lv_iconst (v := 0) hx hb dX12_rules_20 (by decide) ?_
  have e9 := hf
  exact retMz hx hb hr hlocks hP hD hS rfl (congrArg (fun z => z.1) e9) (congrArg (fun z => (kX12 T h a z.2 : va_W)) e9) dX12_rules_21
def bX12_types_L2   (lp2 : St → Int32 → Int32 → Option (St)) (v : St) (x1 : Int32) (x2 : Int32) : Option (St) := if x2 < 0 then some v else gd (v 6 0) 260 <| lett (st v 5 (ix (v 6 0)) (vp_nar .byte (ji2b (jshr x1 (8 * x2))))) fun u2 => lett (st u2 6 0 ((u2 6 0) + 1)) fun u3 => lett (x2 + (-1)) fun t4 => lp2 u3 x1 t4
def fX12_types_L2   : Nat → St → Int32 → Int32 → Option (St)
  | 0, _, _, _ => none
  | n + 1, v, x1, x2 => bX12_types_L2  (fX12_types_L2  n) v x1 x2
def fX12_types  (u : St) (p1 : Int32) : Option (St) := fX12_types_L2 FU u p1 3
set_option maxHeartbeats 4000000 in
set_option maxRecDepth 100000 in
theorem mX12_types (l : Launch) (D : va_G) (T : Ty3) (h : Nat) (a : Nat → Nat) (u : St) (sz : Nat) (p1 : Int32) (res : St) (hf : fX12_types u p1 = some res) : Met l yX12_types wsX12_types ({ frames := 0, cells := 0, slots := 0, locals := 0 }) (PcM D T (kX12 T h a u) sz [.ref h, .int p1]) (QMv D (kX12 T h a u) sz (kX12 T h a res)) 0 0 (va_A (kX12 T h a u) sz) := by
  refine Met.ofW (cc := cX12_types) (maxL := 3) (ret := none) (by decide) rfl ?_
  intro p e s m args below meth c s₁ B hml hv
  obtain ⟨rfl, hsz, hP, hK, hD0⟩ := hv
  have hx := B.exec
  have hb := B.bytes
  have hr := B.returns
  have hts := atoms_spec (ws := wsX12_types) B.pre
  have hown : s.vm.findClass RX12 = some m.cls := findClass_of_methodNamed B.named
  have hlocks := B.notSynchronized
  subst hsz
  have hD := hD0.self (sz := s.heap.size)
  have hA : ∀ q : Nat, s.heap.size ≤ q → va_A (kX12 T h a u) s.heap.size q := fun q h => Or.inr h
  have hS : va_S (va_A (kX12 T h a u) s.heap.size) s.heap s.heap [] := va_S.rf
  have hinX12 : ∀ w ∈ u_ws RX12 TX12 52, w ∈ wsX12_types := fun w h => List.mem_cons_of_mem _ (List.mem_append_right _ h)
  have hl := lv_entry ([.ref h, .int p1]) (n := 3) (Nat.le_of_ble_eq_true rfl)
  rw [lg_entry_eq]
  generalize (lg_sl ([.ref h, .int p1]) ++ List.replicate (3 - (lg_sl ([.ref h, .int p1])).length) Slot.unset).toArray = ls at hl ⊢
  have hl : lv_has ls 3 [(0, .ref h), (1, .int p1)] := hl
  have L2 : ∀ (n2 : Nat), ∀ (v : St) (x1 : Int32) (x2 : Int32) (H : Heap) (locs : List Loc) (ls : Array Slot), fX12_types_L2  n2 v x1 x2 = some res → va_P D vwCl (kX12 T h a v) H → va_D (va_A (kX12 T h a u) s.heap.size) (kX12 T h a v) → va_S (va_A (kX12 T h a u) s.heap.size) s.heap H locs → lv_has ls 3 [(0, .ref h), (1, .int x1), (2, .int x2)] → W p l e (headSpec wsX12_types ({ frames := 0, cells := 0, slots := 0, locals := 0 })).room s m ([.ref h, .int p1] : List Value).toArray below meth c H locs 0 0 (MQ below (QMv D (kX12 T h a u) s.heap.size (kX12 T h a res)) ([.ref h, .int p1] : List Value).toArray s 0 0 (va_A (kX12 T h a u) s.heap.size)) (F0 m 2 ls []) := by
    intro n2
    induction n2 with
    | zero => intro v x1 x2 H locs ls hf; exact nns hf
    | succ n2 ih2 =>
      intro v x1 x2 H locs ls hf hP hD hS hl
      replace hf : bX12_types_L2  (fX12_types_L2  n2) v x1 x2 = some res := hf
      unfold bX12_types_L2 at hf
      refine lv_iload_n hx hb dX12_types_2 rfl (lv_at hl 2 rfl) ?_
      refine lv_if_lt (tgt := 38) hx hb dX12_types_3 (by decide) (fun c1 => ?_) (fun c1 => ?_)
      · replace hf := ifp c1 hf
        have e9 := Option.some.inj hf
        exact retMv hx hb hr hlocks hP hD hS (congrArg (fun z => (kX12 T h a z : va_W)) e9) dX12_types_38
      replace hf := ifn c1 hf
      refine lv_aload_n hx hb dX12_types_6 rfl (lv_at hl 0 rfl) ?_
      refine va_get (D := D) (ci := 12) (v := .ref (a 5)) (C := RX12) (T := TX12) (N := 52) hx hb hts hinX12 hown hK.1 hP 0 rfl rfl 5 (by decide) (hts (.fieldLink RX12 19 "RopeScaleModel" "tape" "[B") (List.mem_of_getElem? (i := 1) rfl)) (fun _ h9 => h9) rfl dX12_types_7 ?_
      refine lv_aload_n hx hb dX12_types_10 rfl (lv_at hl 0 rfl) ?_
      refine va_get (D := D) (ci := 12) (v := .int (v 6 0)) (C := RX12) (T := TX12) (N := 52) hx hb hts hinX12 hown hK.1 hP 0 rfl rfl 6 (by decide) (hts (.fieldLink RX12 119 "RopeScaleModel" "taped" "I") (List.mem_of_getElem? (i := 2) rfl)) (fun _ h9 => h9) rfl dX12_types_11 ?_
      refine lv_iload_n hx hb dX12_types_14 rfl (lv_at hl 1 rfl) ?_
      refine lv_bipush (v := 8) hx hb dX12_types_15 (by decide) ?_
      refine lv_iload_n hx hb dX12_types_17 rfl (lv_at hl 2 rfl) ?_
      refine lv_imul hx hb dX12_types_18 ?_
      refine lv_ishr hx hb dX12_types_19 ?_
      refine lv_i2b hx hb dX12_types_20 rfl ?_
      obtain ⟨h5, hf⟩ := gd_e hf
      obtain ⟨u2, eu2, hf⟩ := lett_e hf
      refine va_bast hx hb hK.1 hP hD hS 4 1 rfl rfl h5 dX12_types_21 (fun H locs hP hD hS => ?_)
      have hP : va_P D vwCl (kX12 T h a u2) H := by rw [eu2]; exact hP
      have hD : va_D (va_A (kX12 T h a u) s.heap.size) (kX12 T h a u2) := by rw [eu2]; exact hD
      refine lv_aload_n hx hb dX12_types_22 rfl (lv_at hl 0 rfl) ?_
      refine lv_aload_n hx hb dX12_types_23 rfl (lv_at hl 0 rfl) ?_
      refine va_get (D := D) (ci := 12) (v := .int (u2 6 0)) (C := RX12) (T := TX12) (N := 52) hx hb hts hinX12 hown hK.1 hP 0 rfl rfl 6 (by decide) (hts (.fieldLink RX12 119 "RopeScaleModel" "taped" "I") (List.mem_of_getElem? (i := 2) rfl)) (fun _ h9 => h9) rfl dX12_types_24 ?_
      refine lv_iconst (v := 1) hx hb dX12_types_27 (by decide) ?_
      refine lv_iadd hx hb dX12_types_28 ?_
      obtain ⟨u3, eu3, hf⟩ := lett_e hf
      refine va_put (D := D) (ci := 12) (v := .int ((u2 6 0) + 1)) (ty := .int) (C := RX12) (T := TX12) (N := 52) hx hb hts hinX12 tyX12 tyX12_ok nmX12 hown hK.1 hP hD hS 0 rfl rfl 6 (by decide) (hts (.fieldLink RX12 119 "RopeScaleModel" "taped" "I") (List.mem_of_getElem? (i := 2) rfl)) (fun _ h9 => h9) rfl (tyX12_ok 6 (by decide)) rfl rfl (Nat.le_of_ble_eq_true rfl) dX12_types_29 (fun H locs hP hD hS => ?_)
      have hP : va_P D vwCl (kX12 T h a u3) H := by rw [eu3]; exact hP
      have hD : va_D (va_A (kX12 T h a u) s.heap.size) (kX12 T h a u3) := by rw [eu3]; exact hD
      obtain ⟨t4, et4, hf⟩ := lett_e hf
      refine lv_iinc (v := t4) (lv' := [(2, .int t4), (0, .ref h), (1, .int x1)]) hx hb dX12_types_32 hl (k := 2) rfl (by rw [et4]; rfl) (by decide) rfl (fun ls hl => ?_)
      refine lv_goto (tgt := 2) hx hb dX12_types_35 (by decide) ?_
      exact ih2 u3 x1 t4 _ _ _ hf hP hD hS (lv_sub hl [1, 2, 0] rfl)
  unfold fX12_types at hf
  refine lv_iconst (v := 3) hx hb dX12_types_0 (by decide) ?_
  refine lv_istore_n (lv' := [(2, .int 3), (0, .ref h), (1, .int p1)]) hx hb dX12_types_1 rfl hl (by decide) rfl (fun ls hl => ?_)
  exact L2 FU u p1 3 _ _ _ hf hP hD hS (lv_sub hl [1, 2, 0] rfl)
def fX12_feed  (u : St) (p1 : Int32) (p2 : Int32) (p3 : Int32) (p4 : Int32) (p5 : Int32) : Option (Int32 × St) := if ((u 6 0) + 20) ≤ 260 then (fX12_types u p1).bind fun z2 => (fX12_types z2 p2).bind fun z3 => (fX12_types z3 p3).bind fun z4 => (fX12_types z4 p4).bind fun z5 => (fX12_types z5 p5).bind fun z6 => some (z6 6 0, z6) else some ((-1), u)
set_option maxHeartbeats 4000000 in
set_option maxRecDepth 100000 in
theorem mX12_feed (l : Launch) (D : va_G) (T : Ty3) (h : Nat) (a : Nat → Nat) (u : St) (sz : Nat) (p1 : Int32) (p2 : Int32) (p3 : Int32) (p4 : Int32) (p5 : Int32) (res : Int32 × St) (hf : fX12_feed u p1 p2 p3 p4 p5 = some res) : Met l yX12_feed wsX12_feed ({ frames := 1, cells := 0, slots := 0, locals := 22 }) (PcM D T (kX12 T h a u) sz [.ref h, .int p1, .int p2, .int p3, .int p4, .int p5]) (QM D (kX12 T h a u) sz res.1 (kX12 T h a res.2)) 0 0 (va_A (kX12 T h a u) sz) := by
  refine Met.ofW (cc := cX12_feed) (maxL := 6) (ret := (some .int)) (by decide) rfl ?_
  intro p e s m args below meth c s₁ B hml hv
  obtain ⟨rfl, hsz, hP, hK, hD0⟩ := hv
  have hx := B.exec
  have hb := B.bytes
  have hr := B.returns
  have hts := atoms_spec (ws := wsX12_feed) B.pre
  have hown : s.vm.findClass RX12 = some m.cls := findClass_of_methodNamed B.named
  have hlocks := B.notSynchronized
  subst hsz
  have hD := hD0.self (sz := s.heap.size)
  have hA : ∀ q : Nat, s.heap.size ≤ q → va_A (kX12 T h a u) s.heap.size q := fun q h => Or.inr h
  have hS : va_S (va_A (kX12 T h a u) s.heap.size) s.heap s.heap [] := va_S.rf
  have hinX12 : ∀ w ∈ u_ws RX12 TX12 52, w ∈ wsX12_feed := fun w h => List.mem_cons_of_mem _ (List.mem_append_right _ h)
  have hl := lv_entry ([.ref h, .int p1, .int p2, .int p3, .int p4, .int p5]) (n := 6) (Nat.le_of_ble_eq_true rfl)
  rw [lg_entry_eq]
  generalize (lg_sl ([.ref h, .int p1, .int p2, .int p3, .int p4, .int p5]) ++ List.replicate (6 - (lg_sl ([.ref h, .int p1, .int p2, .int p3, .int p4, .int p5])).length) Slot.unset).toArray = ls at hl ⊢
  have hl : lv_has ls 6 [(0, .ref h), (1, .int p1), (2, .int p2), (3, .int p3), (4, .int p4), (5, .int p5)] := hl
  unfold fX12_feed at hf
  refine lv_aload_n hx hb dX12_feed_0 rfl (lv_at hl 0 rfl) ?_
  refine va_get (D := D) (ci := 12) (v := .int (u 6 0)) (C := RX12) (T := TX12) (N := 52) hx hb hts hinX12 hown hK.1 hP 0 rfl rfl 6 (by decide) (hts (.fieldLink RX12 119 "RopeScaleModel" "taped" "I") (List.mem_of_getElem? (i := 1) rfl)) (fun _ h9 => h9) rfl dX12_feed_1 ?_
  refine lv_bipush (v := 20) hx hb dX12_feed_4 (by decide) ?_
  refine lv_iadd hx hb dX12_feed_6 ?_
  refine lv_sipush (v := 260) hx hb dX12_feed_7 (by decide) ?_
  refine lv_icmp_le (tgt := 15) hx hb dX12_feed_10 (by decide) (fun c1 => ?_) (fun c1 => ?_)
  · replace hf := ifp c1 hf
    refine lv_aload_n hx hb dX12_feed_15 rfl (lv_at hl 0 rfl) ?_
    refine lv_iload_n hx hb dX12_feed_16 rfl (lv_at hl 1 rfl) ?_
    obtain ⟨z2, hz2, hf⟩ := bnd hf
    have hFc9 := vaA_self hD hS hA
    refine cVMv (As := [.int p1]) (rest := []) ⟨hx, hb, hml, hown, hts⟩ (mX12_types l D T h a u _ p1 z2 hz2) (cwV 1 hts gX12_feed_X12_types rfl rfl rfl (by decide +kernel) ⟨Nat.le_of_ble_eq_true rfl, Nat.le_of_ble_eq_true rfl⟩) (va_recv hK.1 hP (ci := 12) (q0 := 0) rfl rfl) hP hK rfl hl.1 rfl (Nat.le_of_ble_eq_true rfl) dX12_feed_17 ⟨Nat.le_of_ble_eq_true rfl, Nat.le_of_ble_eq_true rfl⟩ hD hFc9 hS (fun H locs hP hD1 _ hS => ?_)
    have hD := hD1.weaken (fun _ _ _ h9 => hFc9 _ h9)
    refine lv_aload_n hx hb dX12_feed_20 rfl (lv_at hl 0 rfl) ?_
    refine lv_iload_n hx hb dX12_feed_21 rfl (lv_at hl 2 rfl) ?_
    obtain ⟨z3, hz3, hf⟩ := bnd hf
    have hFc9 := vaA_self hD hS hA
    refine cVMv (As := [.int p2]) (rest := []) ⟨hx, hb, hml, hown, hts⟩ (mX12_types l D T h a z2 _ p2 z3 hz3) (cwV 1 hts gX12_feed_X12_types rfl rfl rfl (by decide +kernel) ⟨Nat.le_of_ble_eq_true rfl, Nat.le_of_ble_eq_true rfl⟩) (va_recv hK.1 hP (ci := 12) (q0 := 0) rfl rfl) hP hK rfl hl.1 rfl (Nat.le_of_ble_eq_true rfl) dX12_feed_22 ⟨Nat.le_of_ble_eq_true rfl, Nat.le_of_ble_eq_true rfl⟩ hD hFc9 hS (fun H locs hP hD1 _ hS => ?_)
    have hD := hD1.weaken (fun _ _ _ h9 => hFc9 _ h9)
    refine lv_aload_n hx hb dX12_feed_25 rfl (lv_at hl 0 rfl) ?_
    refine lv_iload_n hx hb dX12_feed_26 rfl (lv_at hl 3 rfl) ?_
    obtain ⟨z4, hz4, hf⟩ := bnd hf
    have hFc9 := vaA_self hD hS hA
    refine cVMv (As := [.int p3]) (rest := []) ⟨hx, hb, hml, hown, hts⟩ (mX12_types l D T h a z3 _ p3 z4 hz4) (cwV 1 hts gX12_feed_X12_types rfl rfl rfl (by decide +kernel) ⟨Nat.le_of_ble_eq_true rfl, Nat.le_of_ble_eq_true rfl⟩) (va_recv hK.1 hP (ci := 12) (q0 := 0) rfl rfl) hP hK rfl hl.1 rfl (Nat.le_of_ble_eq_true rfl) dX12_feed_27 ⟨Nat.le_of_ble_eq_true rfl, Nat.le_of_ble_eq_true rfl⟩ hD hFc9 hS (fun H locs hP hD1 _ hS => ?_)
    have hD := hD1.weaken (fun _ _ _ h9 => hFc9 _ h9)
    refine lv_aload_n hx hb dX12_feed_30 rfl (lv_at hl 0 rfl) ?_
    refine lv_iload hx hb dX12_feed_31 (lv_at hl 4 rfl) ?_
    obtain ⟨z5, hz5, hf⟩ := bnd hf
    have hFc9 := vaA_self hD hS hA
    refine cVMv (As := [.int p4]) (rest := []) ⟨hx, hb, hml, hown, hts⟩ (mX12_types l D T h a z4 _ p4 z5 hz5) (cwV 1 hts gX12_feed_X12_types rfl rfl rfl (by decide +kernel) ⟨Nat.le_of_ble_eq_true rfl, Nat.le_of_ble_eq_true rfl⟩) (va_recv hK.1 hP (ci := 12) (q0 := 0) rfl rfl) hP hK rfl hl.1 rfl (Nat.le_of_ble_eq_true rfl) dX12_feed_33 ⟨Nat.le_of_ble_eq_true rfl, Nat.le_of_ble_eq_true rfl⟩ hD hFc9 hS (fun H locs hP hD1 _ hS => ?_)
    have hD := hD1.weaken (fun _ _ _ h9 => hFc9 _ h9)
    refine lv_aload_n hx hb dX12_feed_36 rfl (lv_at hl 0 rfl) ?_
    refine lv_iload hx hb dX12_feed_37 (lv_at hl 5 rfl) ?_
    obtain ⟨z6, hz6, hf⟩ := bnd hf
    have hFc9 := vaA_self hD hS hA
    refine cVMv (As := [.int p5]) (rest := []) ⟨hx, hb, hml, hown, hts⟩ (mX12_types l D T h a z5 _ p5 z6 hz6) (cwV 1 hts gX12_feed_X12_types rfl rfl rfl (by decide +kernel) ⟨Nat.le_of_ble_eq_true rfl, Nat.le_of_ble_eq_true rfl⟩) (va_recv hK.1 hP (ci := 12) (q0 := 0) rfl rfl) hP hK rfl hl.1 rfl (Nat.le_of_ble_eq_true rfl) dX12_feed_39 ⟨Nat.le_of_ble_eq_true rfl, Nat.le_of_ble_eq_true rfl⟩ hD hFc9 hS (fun H locs hP hD1 _ hS => ?_)
    have hD := hD1.weaken (fun _ _ _ h9 => hFc9 _ h9)
    refine lv_aload_n hx hb dX12_feed_42 rfl (lv_at hl 0 rfl) ?_
    refine va_get (D := D) (ci := 12) (v := .int (z6 6 0)) (C := RX12) (T := TX12) (N := 52) hx hb hts hinX12 hown hK.1 hP 0 rfl rfl 6 (by decide) (hts (.fieldLink RX12 119 "RopeScaleModel" "taped" "I") (List.mem_of_getElem? (i := 1) rfl)) (fun _ h9 => h9) rfl dX12_feed_43 ?_
    have e9 := Option.some.inj hf
    exact retM hx hb hr hlocks hP hD hS (congrArg (fun z => z.1) e9) (congrArg (fun z => (kX12 T h a z.2 : va_W)) e9) dX12_feed_46
  replace hf := ifn c1 hf
  refine lv_iconst (v := (-1)) hx hb dX12_feed_13 (by decide) ?_
  have e9 := Option.some.inj hf
  exact retM hx hb hr hlocks hP hD hS (congrArg (fun z => z.1) e9) (congrArg (fun z => (kX12 T h a z.2 : va_W)) e9) dX12_feed_14
def fX12_octet  (u : St) (p1 : Int32) : Option (Int32) := gd p1 260 <| some ((u 5 (ix p1)) &&& 255)
set_option maxHeartbeats 4000000 in
set_option maxRecDepth 100000 in
theorem mX12_octet (l : Launch) (D : va_G) (T : Ty3) (h : Nat) (a : Nat → Nat) (u : St) (p1 : Int32) (res : Int32) (hf : fX12_octet u p1 = some res) : Met l yX12_octet wsX12_octet ({ frames := 0, cells := 0, slots := 0, locals := 0 }) (PcR D T (kX12 T h a u) [.ref h, .int p1]) (QR res) 0 0 noA := by
  refine Met.ofW (cc := cX12_octet) (maxL := 2) (ret := (some .int)) (by decide) rfl ?_
  intro p e s m args below meth c s₁ B hml hv
  obtain ⟨rfl, hP, hK⟩ := hv
  have hx := B.exec
  have hb := B.bytes
  have hr := B.returns
  have hts := atoms_spec (ws := wsX12_octet) B.pre
  have hown : s.vm.findClass RX12 = some m.cls := findClass_of_methodNamed B.named
  have hlocks := B.notSynchronized
  have hS : va_S noA s.heap s.heap [] := va_S.rf
  have hinX12 : ∀ w ∈ u_ws RX12 TX12 52, w ∈ wsX12_octet := fun w h => List.mem_cons_of_mem _ (List.mem_append_right _ h)
  have hl := lv_entry ([.ref h, .int p1]) (n := 2) (Nat.le_of_ble_eq_true rfl)
  rw [lg_entry_eq]
  generalize (lg_sl ([.ref h, .int p1]) ++ List.replicate (2 - (lg_sl ([.ref h, .int p1])).length) Slot.unset).toArray = ls at hl ⊢
  have hl : lv_has ls 2 [(0, .ref h), (1, .int p1)] := hl
  unfold fX12_octet at hf
  refine lv_aload_n hx hb dX12_octet_0 rfl (lv_at hl 0 rfl) ?_
  refine va_get (D := D) (ci := 12) (v := .ref (a 5)) (C := RX12) (T := TX12) (N := 52) hx hb hts hinX12 hown hK.1 hP 0 rfl rfl 5 (by decide) (hts (.fieldLink RX12 19 "RopeScaleModel" "tape" "[B") (List.mem_of_getElem? (i := 1) rfl)) (fun _ h9 => h9) rfl dX12_octet_1 ?_
  refine lv_iload_n hx hb dX12_octet_4 rfl (lv_at hl 1 rfl) ?_
  obtain ⟨h1, hf⟩ := gd_e hf
  refine va_bald hx hb hK.1 hP 4 1 rfl rfl h1 dX12_octet_5 ?_
  refine lv_sipush (v := 255) hx hb dX12_octet_6 (by decide) ?_
  refine lv_iand hx hb dX12_octet_9 ?_
  exact retR hx hb hr hlocks hS (Option.some.inj hf) dX12_octet_10
def fX12_here  (u : St)  : Option (Int32) := if (u 8 0) ≤ (u 7 0) then some (-1) else gd (u 7 0) 260 <| some ((u 5 (ix (u 7 0))) &&& 255)
set_option maxHeartbeats 4000000 in
set_option maxRecDepth 100000 in
theorem mX12_here (l : Launch) (D : va_G) (T : Ty3) (h : Nat) (a : Nat → Nat) (u : St)  (res : Int32) (hf : fX12_here u = some res) : Met l yX12_here wsX12_here ({ frames := 0, cells := 0, slots := 0, locals := 0 }) (PcR D T (kX12 T h a u) [.ref h]) (QR res) 0 0 noA := by
  refine Met.ofW (cc := cX12_here) (maxL := 1) (ret := (some .int)) (by decide) rfl ?_
  intro p e s m args below meth c s₁ B hml hv
  obtain ⟨rfl, hP, hK⟩ := hv
  have hx := B.exec
  have hb := B.bytes
  have hr := B.returns
  have hts := atoms_spec (ws := wsX12_here) B.pre
  have hown : s.vm.findClass RX12 = some m.cls := findClass_of_methodNamed B.named
  have hlocks := B.notSynchronized
  have hS : va_S noA s.heap s.heap [] := va_S.rf
  have hinX12 : ∀ w ∈ u_ws RX12 TX12 52, w ∈ wsX12_here := fun w h => List.mem_cons_of_mem _ (List.mem_append_right _ h)
  have hl := lv_entry ([.ref h]) (n := 1) (Nat.le_of_ble_eq_true rfl)
  rw [lg_entry_eq]
  generalize (lg_sl ([.ref h]) ++ List.replicate (1 - (lg_sl ([.ref h])).length) Slot.unset).toArray = ls at hl ⊢
  have hl : lv_has ls 1 [(0, .ref h)] := hl
  unfold fX12_here at hf
  refine lv_aload_n hx hb dX12_here_0 rfl (lv_at hl 0 rfl) ?_
  refine va_get (D := D) (ci := 12) (v := .int (u 7 0)) (C := RX12) (T := TX12) (N := 52) hx hb hts hinX12 hown hK.1 hP 0 rfl rfl 7 (by decide) (hts (.fieldLink RX12 126 "RopeScaleModel" "place0" "I") (List.mem_of_getElem? (i := 1) rfl)) (fun _ h9 => h9) rfl dX12_here_1 ?_
  refine lv_aload_n hx hb dX12_here_4 rfl (lv_at hl 0 rfl) ?_
  refine va_get (D := D) (ci := 12) (v := .int (u 8 0)) (C := RX12) (T := TX12) (N := 52) hx hb hts hinX12 hown hK.1 hP 0 rfl rfl 8 (by decide) (hts (.fieldLink RX12 129 "RopeScaleModel" "length0" "I") (List.mem_of_getElem? (i := 2) rfl)) (fun _ h9 => h9) rfl dX12_here_5 ?_
  refine lv_icmp_ge (tgt := 27) hx hb dX12_here_8 (by decide) (fun c1 => ?_) (fun c1 => ?_)
  · replace hf := ifp c1 hf
    refine lv_iconst (v := (-1)) hx hb dX12_here_27 (by decide) ?_
    exact retR hx hb hr hlocks hS (Option.some.inj hf) dX12_here_28
  replace hf := ifn c1 hf
  refine lv_aload_n hx hb dX12_here_11 rfl (lv_at hl 0 rfl) ?_
  refine va_get (D := D) (ci := 12) (v := .ref (a 5)) (C := RX12) (T := TX12) (N := 52) hx hb hts hinX12 hown hK.1 hP 0 rfl rfl 5 (by decide) (hts (.fieldLink RX12 19 "RopeScaleModel" "tape" "[B") (List.mem_of_getElem? (i := 3) rfl)) (fun _ h9 => h9) rfl dX12_here_12 ?_
  refine lv_aload_n hx hb dX12_here_15 rfl (lv_at hl 0 rfl) ?_
  refine va_get (D := D) (ci := 12) (v := .int (u 7 0)) (C := RX12) (T := TX12) (N := 52) hx hb hts hinX12 hown hK.1 hP 0 rfl rfl 7 (by decide) (hts (.fieldLink RX12 126 "RopeScaleModel" "place0" "I") (List.mem_of_getElem? (i := 1) rfl)) (fun _ h9 => h9) rfl dX12_here_16 ?_
  obtain ⟨h2, hf⟩ := gd_e hf
  refine va_bald hx hb hK.1 hP 4 1 rfl rfl h2 dX12_here_19 ?_
  refine lv_sipush (v := 255) hx hb dX12_here_20 (by decide) ?_
  refine lv_iand hx hb dX12_here_23 ?_
  refine lv_goto (tgt := 28) hx hb dX12_here_24 (by decide) ?_
  exact retR hx hb hr hlocks hS (Option.some.inj hf) dX12_here_28
def fX12_isDigit  (u : St)  : Option (Int32) := (fX12_here u).bind fun z1 => if z1 < 48 then some 0 else (fX12_here u).bind fun z3 => if 57 < z3 then some 0 else some 1
set_option maxHeartbeats 4000000 in
set_option maxRecDepth 100000 in
theorem mX12_isDigit (l : Launch) (D : va_G) (T : Ty3) (h : Nat) (a : Nat → Nat) (u : St)  (res : Int32) (hf : fX12_isDigit u = some res) : Met l yX12_isDigit wsX12_isDigit ({ frames := 1, cells := 0, slots := 0, locals := 20 }) (PcR D T (kX12 T h a u) [.ref h]) (QR res) 0 0 noA := by
  refine Met.ofW (cc := cX12_isDigit) (maxL := 1) (ret := (some .boolean)) (by decide) rfl ?_
  intro p e s m args below meth c s₁ B hml hv
  obtain ⟨rfl, hP, hK⟩ := hv
  have hx := B.exec
  have hb := B.bytes
  have hr := B.returns
  have hts := atoms_spec (ws := wsX12_isDigit) B.pre
  have hown : s.vm.findClass RX12 = some m.cls := findClass_of_methodNamed B.named
  have hlocks := B.notSynchronized
  have hS : va_S noA s.heap s.heap [] := va_S.rf
  have hinX12 : ∀ w ∈ u_ws RX12 TX12 52, w ∈ wsX12_isDigit := fun w h => List.mem_cons_of_mem _ (List.mem_append_right _ h)
  have hl := lv_entry ([.ref h]) (n := 1) (Nat.le_of_ble_eq_true rfl)
  rw [lg_entry_eq]
  generalize (lg_sl ([.ref h]) ++ List.replicate (1 - (lg_sl ([.ref h])).length) Slot.unset).toArray = ls at hl ⊢
  have hl : lv_has ls 1 [(0, .ref h)] := hl
  unfold fX12_isDigit at hf
  refine lv_aload_n hx hb dX12_isDigit_0 rfl (lv_at hl 0 rfl) ?_
  obtain ⟨z1, hz1, hf⟩ := bnd hf
  refine cVR (As := []) (rest := []) ⟨hx, hb, hml, hown, hts⟩ (mX12_here l D T h a u z1 hz1) (cwV 0 hts gX12_isDigit_X12_here rfl rfl rfl (by decide +kernel) ⟨Nat.le_of_ble_eq_true rfl, Nat.le_of_ble_eq_true rfl⟩) (va_recv hK.1 hP (ci := 12) (q0 := 0) rfl rfl) hP hK rfl hl.1 rfl (Nat.le_of_ble_eq_true rfl) dX12_isDigit_1 ⟨Nat.le_of_ble_eq_true rfl, Nat.le_of_ble_eq_true rfl⟩ hP hS (fun H locs hP hS => ?_)
  refine lv_bipush (v := 48) hx hb dX12_isDigit_4 (by decide) ?_
  refine lv_icmp_lt (tgt := 22) hx hb dX12_isDigit_6 (by decide) (fun c2 => ?_) (fun c2 => ?_)
  · replace hf := ifp c2 hf
    refine lv_iconst (v := 0) hx hb dX12_isDigit_22 (by decide) ?_
    exact retRz hx hb hr hlocks hS rfl (Option.some.inj hf) dX12_isDigit_23
  replace hf := ifn c2 hf
  refine lv_aload_n hx hb dX12_isDigit_9 rfl (lv_at hl 0 rfl) ?_
  obtain ⟨z3, hz3, hf⟩ := bnd hf
  refine cVR (As := []) (rest := []) ⟨hx, hb, hml, hown, hts⟩ (mX12_here l D T h a u z3 hz3) (cwV 0 hts gX12_isDigit_X12_here rfl rfl rfl (by decide +kernel) ⟨Nat.le_of_ble_eq_true rfl, Nat.le_of_ble_eq_true rfl⟩) (va_recv hK.1 hP (ci := 12) (q0 := 0) rfl rfl) hP hK rfl hl.1 rfl (Nat.le_of_ble_eq_true rfl) dX12_isDigit_10 ⟨Nat.le_of_ble_eq_true rfl, Nat.le_of_ble_eq_true rfl⟩ hP hS (fun H locs hP hS => ?_)
  refine lv_bipush (v := 57) hx hb dX12_isDigit_13 (by decide) ?_
  refine lv_icmp_gt (tgt := 22) hx hb dX12_isDigit_15 (by decide) (fun c4 => ?_) (fun c4 => ?_)
  · replace hf := ifp c4 hf
    refine lv_iconst (v := 0) hx hb dX12_isDigit_22 (by decide) ?_
    exact retRz hx hb hr hlocks hS rfl (Option.some.inj hf) dX12_isDigit_23
  replace hf := ifn c4 hf
  refine lv_iconst (v := 1) hx hb dX12_isDigit_18 (by decide) ?_
  refine lv_goto (tgt := 23) hx hb dX12_isDigit_19 (by decide) ?_
  exact retRz hx hb hr hlocks hS rfl (Option.some.inj hf) dX12_isDigit_23
def fX12_wrongAt  (u : St) (p1 : Int32) (p2 : Int32) : (Int32 × St) := lett (st u 9 0 (((-1000) * p1) - p2)) fun u1 => (0, u1)
set_option maxHeartbeats 4000000 in
set_option maxRecDepth 100000 in
theorem mX12_wrongAt (l : Launch) (D : va_G) (T : Ty3) (h : Nat) (a : Nat → Nat) (u : St) (sz : Nat) (p1 : Int32) (p2 : Int32) (res : Int32 × St) (hf : fX12_wrongAt u p1 p2 = res) : Met l yX12_wrongAt wsX12_wrongAt ({ frames := 0, cells := 0, slots := 0, locals := 0 }) (PcM D T (kX12 T h a u) sz [.ref h, .int p1, .int p2]) (QM D (kX12 T h a u) sz res.1 (kX12 T h a res.2)) 0 0 (va_A (kX12 T h a u) sz) := by
  refine Met.ofW (cc := cX12_wrongAt) (maxL := 3) (ret := (some .boolean)) (by decide) rfl ?_
  intro p e s m args below meth c s₁ B hml hv
  obtain ⟨rfl, hsz, hP, hK, hD0⟩ := hv
  have hx := B.exec
  have hb := B.bytes
  have hr := B.returns
  have hts := atoms_spec (ws := wsX12_wrongAt) B.pre
  have hown : s.vm.findClass RX12 = some m.cls := findClass_of_methodNamed B.named
  have hlocks := B.notSynchronized
  subst hsz
  have hD := hD0.self (sz := s.heap.size)
  have hA : ∀ q : Nat, s.heap.size ≤ q → va_A (kX12 T h a u) s.heap.size q := fun q h => Or.inr h
  have hS : va_S (va_A (kX12 T h a u) s.heap.size) s.heap s.heap [] := va_S.rf
  have hinX12 : ∀ w ∈ u_ws RX12 TX12 52, w ∈ wsX12_wrongAt := fun w h => List.mem_cons_of_mem _ (List.mem_append_right _ h)
  have hl := lv_entry ([.ref h, .int p1, .int p2]) (n := 3) (Nat.le_of_ble_eq_true rfl)
  rw [lg_entry_eq]
  generalize (lg_sl ([.ref h, .int p1, .int p2]) ++ List.replicate (3 - (lg_sl ([.ref h, .int p1, .int p2])).length) Slot.unset).toArray = ls at hl ⊢
  have hl : lv_has ls 3 [(0, .ref h), (1, .int p1), (2, .int p2)] := hl
  unfold fX12_wrongAt at hf
  refine lv_aload_n hx hb dX12_wrongAt_0 rfl (lv_at hl 0 rfl) ?_
  refine lv_sipush (v := (-1000)) hx hb dX12_wrongAt_1 (by decide) ?_
  refine lv_iload_n hx hb dX12_wrongAt_4 rfl (lv_at hl 1 rfl) ?_
  refine lv_imul hx hb dX12_wrongAt_5 ?_
  refine lv_iload_n hx hb dX12_wrongAt_6 rfl (lv_at hl 2 rfl) ?_
  refine lv_isub hx hb dX12_wrongAt_7 ?_
  obtain ⟨u1, eu1, hf⟩ := lett_e hf
  refine va_put (D := D) (ci := 12) (v := .int (((-1000) * p1) - p2)) (ty := .int) (C := RX12) (T := TX12) (N := 52) hx hb hts hinX12 tyX12 tyX12_ok nmX12 hown hK.1 hP hD hS 0 rfl rfl 9 (by decide) (hts (.fieldLink RX12 136 "RopeScaleModel" "fault" "I") (List.mem_of_getElem? (i := 1) rfl)) (fun _ h9 => h9) rfl (tyX12_ok 9 (by decide)) rfl rfl (Nat.le_of_ble_eq_true rfl) dX12_wrongAt_8 (fun H locs hP hD hS => ?_)
  have hP : va_P D vwCl (kX12 T h a u1) H := by rw [eu1]; exact hP
  have hD : va_D (va_A (kX12 T h a u) s.heap.size) (kX12 T h a u1) := by rw [eu1]; exact hD
  refine lv_iconst (v := 0) hx hb dX12_wrongAt_11 (by decide) ?_
  have e9 := hf
  exact retMz hx hb hr hlocks hP hD hS rfl (congrArg (fun z => z.1) e9) (congrArg (fun z => (kX12 T h a z.2 : va_W)) e9) dX12_wrongAt_12
def fX12_takes  (u : St) (p1 : Int32) : Option (Int32 × St) := (fX12_here u).bind fun z1 => if z1 = p1 then lett (st u 7 0 ((u 7 0) + 1)) fun u3 => some (1, u3) else lett (fX12_wrongAt u 1 (u 7 0)) fun z4 => zb z4.1 <| some (z4.1, z4.2)
set_option maxHeartbeats 4000000 in
set_option maxRecDepth 100000 in
theorem mX12_takes (l : Launch) (D : va_G) (T : Ty3) (h : Nat) (a : Nat → Nat) (u : St) (sz : Nat) (p1 : Int32) (res : Int32 × St) (hf : fX12_takes u p1 = some res) : Met l yX12_takes wsX12_takes ({ frames := 1, cells := 0, slots := 0, locals := 22 }) (PcM D T (kX12 T h a u) sz [.ref h, .int p1]) (QM D (kX12 T h a u) sz res.1 (kX12 T h a res.2)) 0 0 (va_A (kX12 T h a u) sz) := by
  refine Met.ofW (cc := cX12_takes) (maxL := 2) (ret := (some .boolean)) (by decide) rfl ?_
  intro p e s m args below meth c s₁ B hml hv
  obtain ⟨rfl, hsz, hP, hK, hD0⟩ := hv
  have hx := B.exec
  have hb := B.bytes
  have hr := B.returns
  have hts := atoms_spec (ws := wsX12_takes) B.pre
  have hown : s.vm.findClass RX12 = some m.cls := findClass_of_methodNamed B.named
  have hlocks := B.notSynchronized
  subst hsz
  have hD := hD0.self (sz := s.heap.size)
  have hA : ∀ q : Nat, s.heap.size ≤ q → va_A (kX12 T h a u) s.heap.size q := fun q h => Or.inr h
  have hS : va_S (va_A (kX12 T h a u) s.heap.size) s.heap s.heap [] := va_S.rf
  have hinX12 : ∀ w ∈ u_ws RX12 TX12 52, w ∈ wsX12_takes := fun w h => List.mem_cons_of_mem _ (List.mem_append_right _ h)
  have hl := lv_entry ([.ref h, .int p1]) (n := 2) (Nat.le_of_ble_eq_true rfl)
  rw [lg_entry_eq]
  generalize (lg_sl ([.ref h, .int p1]) ++ List.replicate (2 - (lg_sl ([.ref h, .int p1])).length) Slot.unset).toArray = ls at hl ⊢
  have hl : lv_has ls 2 [(0, .ref h), (1, .int p1)] := hl
  unfold fX12_takes at hf
  refine lv_aload_n hx hb dX12_takes_0 rfl (lv_at hl 0 rfl) ?_
  obtain ⟨z1, hz1, hf⟩ := bnd hf
  refine cVR (As := []) (rest := []) ⟨hx, hb, hml, hown, hts⟩ (mX12_here l D T h a u z1 hz1) (cwV 0 hts gX12_takes_X12_here rfl rfl rfl (by decide +kernel) ⟨Nat.le_of_ble_eq_true rfl, Nat.le_of_ble_eq_true rfl⟩) (va_recv hK.1 hP (ci := 12) (q0 := 0) rfl rfl) hP hK rfl hl.1 rfl (Nat.le_of_ble_eq_true rfl) dX12_takes_1 ⟨Nat.le_of_ble_eq_true rfl, Nat.le_of_ble_eq_true rfl⟩ hP hS (fun H locs hP hS => ?_)
  refine lv_iload_n hx hb dX12_takes_4 rfl (lv_at hl 1 rfl) ?_
  refine lv_icmp_eq (tgt := 18) hx hb dX12_takes_5 (by decide) (fun c2 => ?_) (fun c2 => ?_)
  · replace hf := ifp c2 hf
    refine lv_aload_n hx hb dX12_takes_18 rfl (lv_at hl 0 rfl) ?_
    refine lv_aload_n hx hb dX12_takes_19 rfl (lv_at hl 0 rfl) ?_
    refine va_get (D := D) (ci := 12) (v := .int (u 7 0)) (C := RX12) (T := TX12) (N := 52) hx hb hts hinX12 hown hK.1 hP 0 rfl rfl 7 (by decide) (hts (.fieldLink RX12 126 "RopeScaleModel" "place0" "I") (List.mem_of_getElem? (i := 1) rfl)) (fun _ h9 => h9) rfl dX12_takes_20 ?_
    refine lv_iconst (v := 1) hx hb dX12_takes_23 (by decide) ?_
    refine lv_iadd hx hb dX12_takes_24 ?_
    obtain ⟨u3, eu3, hf⟩ := lett_e hf
    refine va_put (D := D) (ci := 12) (v := .int ((u 7 0) + 1)) (ty := .int) (C := RX12) (T := TX12) (N := 52) hx hb hts hinX12 tyX12 tyX12_ok nmX12 hown hK.1 hP hD hS 0 rfl rfl 7 (by decide) (hts (.fieldLink RX12 126 "RopeScaleModel" "place0" "I") (List.mem_of_getElem? (i := 1) rfl)) (fun _ h9 => h9) rfl (tyX12_ok 7 (by decide)) rfl rfl (Nat.le_of_ble_eq_true rfl) dX12_takes_25 (fun H locs hP hD hS => ?_)
    have hP : va_P D vwCl (kX12 T h a u3) H := by rw [eu3]; exact hP
    have hD : va_D (va_A (kX12 T h a u) s.heap.size) (kX12 T h a u3) := by rw [eu3]; exact hD
    refine lv_iconst (v := 1) hx hb dX12_takes_28 (by decide) ?_
    have e9 := Option.some.inj hf
    exact retMz hx hb hr hlocks hP hD hS rfl (congrArg (fun z => z.1) e9) (congrArg (fun z => (kX12 T h a z.2 : va_W)) e9) dX12_takes_29
  replace hf := ifn c2 hf
  refine lv_aload_n hx hb dX12_takes_8 rfl (lv_at hl 0 rfl) ?_
  refine lv_iconst (v := 1) hx hb dX12_takes_9 (by decide) ?_
  refine lv_aload_n hx hb dX12_takes_10 rfl (lv_at hl 0 rfl) ?_
  refine va_get (D := D) (ci := 12) (v := .int (u 7 0)) (C := RX12) (T := TX12) (N := 52) hx hb hts hinX12 hown hK.1 hP 0 rfl rfl 7 (by decide) (hts (.fieldLink RX12 126 "RopeScaleModel" "place0" "I") (List.mem_of_getElem? (i := 1) rfl)) (fun _ h9 => h9) rfl dX12_takes_11 ?_
  obtain ⟨z4, hz4, hf⟩ := lett_e hf
  have hFc9 := vaA_self hD hS hA
  refine cVM (As := [.int 1, .int (u 7 0)]) (rest := []) ⟨hx, hb, hml, hown, hts⟩ (mX12_wrongAt l D T h a u _ 1 (u 7 0) z4 hz4.symm) (cwV 2 hts gX12_takes_X12_wrongAt rfl rfl rfl (by decide +kernel) ⟨Nat.le_of_ble_eq_true rfl, Nat.le_of_ble_eq_true rfl⟩) (va_recv hK.1 hP (ci := 12) (q0 := 0) rfl rfl) hP hK rfl hl.1 rfl (Nat.le_of_ble_eq_true rfl) dX12_takes_14 ⟨Nat.le_of_ble_eq_true rfl, Nat.le_of_ble_eq_true rfl⟩ hD hFc9 hS (fun H locs hP hD1 _ hS => ?_)
  have hD := hD1.weaken (fun _ _ _ h9 => hFc9 _ h9)
  obtain ⟨hz9, hf⟩ := zb_e hf
  have e9 := Option.some.inj hf
  exact retMz hx hb hr hlocks hP hD hS hz9 (congrArg (fun z => z.1) e9) (congrArg (fun z => (kX12 T h a z.2 : va_W)) e9) dX12_takes_17
def bX12_readsNumber_L10   (lp10 : St → Int32 → Option (Int32 × St)) (v : St) (x1 : Int32) : Option (Int32 × St) := (fX12_isDigit v).bind fun z1 => if z1 = 0 then some (1, v) else if (v 7 0) = (x1 + 5) then lett (fX12_wrongAt v 2 (v 7 0)) fun z7 => zb z7.1 <| some (z7.1, z7.2) else (fX12_here v).bind fun z4 => lett (st v 10 0 (((10 * (v 10 0)) + z4) - 48)) fun u5 => lett (st u5 7 0 ((u5 7 0) + 1)) fun u6 => lp10 u6 x1
def fX12_readsNumber_L10   : Nat → St → Int32 → Option (Int32 × St)
  | 0, _, _ => none
  | n + 1, v, x1 => bX12_readsNumber_L10  (fX12_readsNumber_L10  n) v x1
def fX12_readsNumber  (u : St)  : Option (Int32 × St) := lett (u 7 0) fun t8 => lett (st u 10 0 0) fun u9 => fX12_readsNumber_L10 FU u9 t8
set_option maxHeartbeats 4000000 in
set_option maxRecDepth 100000 in
theorem mX12_readsNumber (l : Launch) (D : va_G) (T : Ty3) (h : Nat) (a : Nat → Nat) (u : St) (sz : Nat)  (res : Int32 × St) (hf : fX12_readsNumber u = some res) : Met l yX12_readsNumber wsX12_readsNumber ({ frames := 2, cells := 0, slots := 0, locals := 40 }) (PcM D T (kX12 T h a u) sz [.ref h]) (QM D (kX12 T h a u) sz res.1 (kX12 T h a res.2)) 0 0 (va_A (kX12 T h a u) sz) := by
  refine Met.ofW (cc := cX12_readsNumber) (maxL := 2) (ret := (some .boolean)) (by decide) rfl ?_
  intro p e s m args below meth c s₁ B hml hv
  obtain ⟨rfl, hsz, hP, hK, hD0⟩ := hv
  have hx := B.exec
  have hb := B.bytes
  have hr := B.returns
  have hts := atoms_spec (ws := wsX12_readsNumber) B.pre
  have hown : s.vm.findClass RX12 = some m.cls := findClass_of_methodNamed B.named
  have hlocks := B.notSynchronized
  subst hsz
  have hD := hD0.self (sz := s.heap.size)
  have hA : ∀ q : Nat, s.heap.size ≤ q → va_A (kX12 T h a u) s.heap.size q := fun q h => Or.inr h
  have hS : va_S (va_A (kX12 T h a u) s.heap.size) s.heap s.heap [] := va_S.rf
  have hinX12 : ∀ w ∈ u_ws RX12 TX12 52, w ∈ wsX12_readsNumber := fun w h => List.mem_cons_of_mem _ (List.mem_append_right _ h)
  have hl := lv_entry ([.ref h]) (n := 2) (Nat.le_of_ble_eq_true rfl)
  rw [lg_entry_eq]
  generalize (lg_sl ([.ref h]) ++ List.replicate (2 - (lg_sl ([.ref h])).length) Slot.unset).toArray = ls at hl ⊢
  have hl : lv_has ls 2 [(0, .ref h)] := hl
  have L10 : ∀ (n10 : Nat), ∀ (v : St) (x1 : Int32) (H : Heap) (locs : List Loc) (ls : Array Slot), fX12_readsNumber_L10  n10 v x1 = some res → va_P D vwCl (kX12 T h a v) H → va_D (va_A (kX12 T h a u) s.heap.size) (kX12 T h a v) → va_S (va_A (kX12 T h a u) s.heap.size) s.heap H locs → lv_has ls 2 [(0, .ref h), (1, .int x1)] → W p l e (headSpec wsX12_readsNumber ({ frames := 2, cells := 0, slots := 0, locals := 40 })).room s m ([.ref h] : List Value).toArray below meth c H locs 0 0 (MQ below (QM D (kX12 T h a u) s.heap.size res.1 (kX12 T h a res.2)) ([.ref h] : List Value).toArray s 0 0 (va_A (kX12 T h a u) s.heap.size)) (F0 m 10 ls []) := by
    intro n10
    induction n10 with
    | zero => intro v x1 H locs ls hf; exact nns hf
    | succ n10 ih10 =>
      intro v x1 H locs ls hf hP hD hS hl
      replace hf : bX12_readsNumber_L10  (fX12_readsNumber_L10  n10) v x1 = some res := hf
      unfold bX12_readsNumber_L10 at hf
      refine lv_aload_n hx hb dX12_readsNumber_10 rfl (lv_at hl 0 rfl) ?_
      obtain ⟨z1, hz1, hf⟩ := bnd hf
      refine cVR (As := []) (rest := []) ⟨hx, hb, hml, hown, hts⟩ (mX12_isDigit l D T h a v z1 hz1) (cwV 0 hts gX12_readsNumber_X12_isDigit rfl rfl rfl (by decide +kernel) ⟨Nat.le_of_ble_eq_true rfl, Nat.le_of_ble_eq_true rfl⟩) (va_recv hK.1 hP (ci := 12) (q0 := 0) rfl rfl) hP hK rfl hl.1 rfl (Nat.le_of_ble_eq_true rfl) dX12_readsNumber_11 ⟨Nat.le_of_ble_eq_true rfl, Nat.le_of_ble_eq_true rfl⟩ hP hS (fun H locs hP hS => ?_)
      refine lv_if_eq (tgt := 69) hx hb dX12_readsNumber_14 (by decide) (fun c2 => ?_) (fun c2 => ?_)
      · replace hf := ifp c2 hf
        refine lv_iconst (v := 1) hx hb dX12_readsNumber_69 (by decide) ?_
        have e9 := Option.some.inj hf
        exact retMz hx hb hr hlocks hP hD hS rfl (congrArg (fun z => z.1) e9) (congrArg (fun z => (kX12 T h a z.2 : va_W)) e9) dX12_readsNumber_70
      replace hf := ifn c2 hf
      refine lv_aload_n hx hb dX12_readsNumber_17 rfl (lv_at hl 0 rfl) ?_
      refine va_get (D := D) (ci := 12) (v := .int (v 7 0)) (C := RX12) (T := TX12) (N := 52) hx hb hts hinX12 hown hK.1 hP 0 rfl rfl 7 (by decide) (hts (.fieldLink RX12 126 "RopeScaleModel" "place0" "I") (List.mem_of_getElem? (i := 1) rfl)) (fun _ h9 => h9) rfl dX12_readsNumber_18 ?_
      refine lv_iload_n hx hb dX12_readsNumber_21 rfl (lv_at hl 1 rfl) ?_
      refine lv_iconst (v := 5) hx hb dX12_readsNumber_22 (by decide) ?_
      refine lv_iadd hx hb dX12_readsNumber_23 ?_
      refine lv_icmp_ne (tgt := 37) hx hb dX12_readsNumber_24 (by decide) (fun c3 => ?_) (fun c3 => ?_)
      · replace hf := ifn c3 hf
        refine lv_aload_n hx hb dX12_readsNumber_37 rfl (lv_at hl 0 rfl) ?_
        refine lv_bipush (v := 10) hx hb dX12_readsNumber_38 (by decide) ?_
        refine lv_aload_n hx hb dX12_readsNumber_40 rfl (lv_at hl 0 rfl) ?_
        refine va_get (D := D) (ci := 12) (v := .int (v 10 0)) (C := RX12) (T := TX12) (N := 52) hx hb hts hinX12 hown hK.1 hP 0 rfl rfl 10 (by decide) (hts (.fieldLink RX12 143 "RopeScaleModel" "number0" "I") (List.mem_of_getElem? (i := 2) rfl)) (fun _ h9 => h9) rfl dX12_readsNumber_41 ?_
        refine lv_imul hx hb dX12_readsNumber_44 ?_
        refine lv_aload_n hx hb dX12_readsNumber_45 rfl (lv_at hl 0 rfl) ?_
        obtain ⟨z4, hz4, hf⟩ := bnd hf
        refine cVR (As := []) (rest := [.int (10 * (v 10 0)), .ref h]) ⟨hx, hb, hml, hown, hts⟩ (mX12_here l D T h a v z4 hz4) (cwV 0 hts gX12_readsNumber_X12_here rfl rfl rfl (by decide +kernel) ⟨Nat.le_of_ble_eq_true rfl, Nat.le_of_ble_eq_true rfl⟩) (va_recv hK.1 hP (ci := 12) (q0 := 0) rfl rfl) hP hK rfl hl.1 rfl (Nat.le_of_ble_eq_true rfl) dX12_readsNumber_46 ⟨Nat.le_of_ble_eq_true rfl, Nat.le_of_ble_eq_true rfl⟩ hP hS (fun H locs hP hS => ?_)
        refine lv_iadd hx hb dX12_readsNumber_49 ?_
        refine lv_bipush (v := 48) hx hb dX12_readsNumber_50 (by decide) ?_
        refine lv_isub hx hb dX12_readsNumber_52 ?_
        obtain ⟨u5, eu5, hf⟩ := lett_e hf
        refine va_put (D := D) (ci := 12) (v := .int (((10 * (v 10 0)) + z4) - 48)) (ty := .int) (C := RX12) (T := TX12) (N := 52) hx hb hts hinX12 tyX12 tyX12_ok nmX12 hown hK.1 hP hD hS 0 rfl rfl 10 (by decide) (hts (.fieldLink RX12 143 "RopeScaleModel" "number0" "I") (List.mem_of_getElem? (i := 2) rfl)) (fun _ h9 => h9) rfl (tyX12_ok 10 (by decide)) rfl rfl (Nat.le_of_ble_eq_true rfl) dX12_readsNumber_53 (fun H locs hP hD hS => ?_)
        have hP : va_P D vwCl (kX12 T h a u5) H := by rw [eu5]; exact hP
        have hD : va_D (va_A (kX12 T h a u) s.heap.size) (kX12 T h a u5) := by rw [eu5]; exact hD
        refine lv_aload_n hx hb dX12_readsNumber_56 rfl (lv_at hl 0 rfl) ?_
        refine lv_aload_n hx hb dX12_readsNumber_57 rfl (lv_at hl 0 rfl) ?_
        refine va_get (D := D) (ci := 12) (v := .int (u5 7 0)) (C := RX12) (T := TX12) (N := 52) hx hb hts hinX12 hown hK.1 hP 0 rfl rfl 7 (by decide) (hts (.fieldLink RX12 126 "RopeScaleModel" "place0" "I") (List.mem_of_getElem? (i := 1) rfl)) (fun _ h9 => h9) rfl dX12_readsNumber_58 ?_
        refine lv_iconst (v := 1) hx hb dX12_readsNumber_61 (by decide) ?_
        refine lv_iadd hx hb dX12_readsNumber_62 ?_
        obtain ⟨u6, eu6, hf⟩ := lett_e hf
        refine va_put (D := D) (ci := 12) (v := .int ((u5 7 0) + 1)) (ty := .int) (C := RX12) (T := TX12) (N := 52) hx hb hts hinX12 tyX12 tyX12_ok nmX12 hown hK.1 hP hD hS 0 rfl rfl 7 (by decide) (hts (.fieldLink RX12 126 "RopeScaleModel" "place0" "I") (List.mem_of_getElem? (i := 1) rfl)) (fun _ h9 => h9) rfl (tyX12_ok 7 (by decide)) rfl rfl (Nat.le_of_ble_eq_true rfl) dX12_readsNumber_63 (fun H locs hP hD hS => ?_)
        have hP : va_P D vwCl (kX12 T h a u6) H := by rw [eu6]; exact hP
        have hD : va_D (va_A (kX12 T h a u) s.heap.size) (kX12 T h a u6) := by rw [eu6]; exact hD
        refine lv_goto (tgt := 10) hx hb dX12_readsNumber_66 (by decide) ?_
        exact ih10 u6 x1 _ _ _ hf hP hD hS (lv_sub hl [0, 1] rfl)
      replace hf := ifp c3 hf
      refine lv_aload_n hx hb dX12_readsNumber_27 rfl (lv_at hl 0 rfl) ?_
      refine lv_iconst (v := 2) hx hb dX12_readsNumber_28 (by decide) ?_
      refine lv_aload_n hx hb dX12_readsNumber_29 rfl (lv_at hl 0 rfl) ?_
      refine va_get (D := D) (ci := 12) (v := .int (v 7 0)) (C := RX12) (T := TX12) (N := 52) hx hb hts hinX12 hown hK.1 hP 0 rfl rfl 7 (by decide) (hts (.fieldLink RX12 126 "RopeScaleModel" "place0" "I") (List.mem_of_getElem? (i := 1) rfl)) (fun _ h9 => h9) rfl dX12_readsNumber_30 ?_
      obtain ⟨z7, hz7, hf⟩ := lett_e hf
      have hFc9 := vaA_self hD hS hA
      refine cVM (As := [.int 2, .int (v 7 0)]) (rest := []) ⟨hx, hb, hml, hown, hts⟩ (mX12_wrongAt l D T h a v _ 2 (v 7 0) z7 hz7.symm) (cwV 2 hts gX12_readsNumber_X12_wrongAt rfl rfl rfl (by decide +kernel) ⟨Nat.le_of_ble_eq_true rfl, Nat.le_of_ble_eq_true rfl⟩) (va_recv hK.1 hP (ci := 12) (q0 := 0) rfl rfl) hP hK rfl hl.1 rfl (Nat.le_of_ble_eq_true rfl) dX12_readsNumber_33 ⟨Nat.le_of_ble_eq_true rfl, Nat.le_of_ble_eq_true rfl⟩ hD hFc9 hS (fun H locs hP hD1 _ hS => ?_)
      have hD := hD1.weaken (fun _ _ _ h9 => hFc9 _ h9)
      obtain ⟨hz9, hf⟩ := zb_e hf
      have e9 := Option.some.inj hf
      exact retMz hx hb hr hlocks hP hD hS hz9 (congrArg (fun z => z.1) e9) (congrArg (fun z => (kX12 T h a z.2 : va_W)) e9) dX12_readsNumber_36
  unfold fX12_readsNumber at hf
  refine lv_aload_n hx hb dX12_readsNumber_0 rfl (lv_at hl 0 rfl) ?_
  refine va_get (D := D) (ci := 12) (v := .int (u 7 0)) (C := RX12) (T := TX12) (N := 52) hx hb hts hinX12 hown hK.1 hP 0 rfl rfl 7 (by decide) (hts (.fieldLink RX12 126 "RopeScaleModel" "place0" "I") (List.mem_of_getElem? (i := 1) rfl)) (fun _ h9 => h9) rfl dX12_readsNumber_1 ?_
  obtain ⟨t8, et8, hf⟩ := lett_e hf
  refine lv_eqi et8 ?_
  refine lv_istore_n (lv' := [(1, .int t8), (0, .ref h)]) hx hb dX12_readsNumber_4 rfl hl (by decide) rfl (fun ls hl => ?_)
  refine lv_aload_n hx hb dX12_readsNumber_5 rfl (lv_at hl 1 rfl) ?_
  refine lv_iconst (v := 0) hx hb dX12_readsNumber_6 (by decide) ?_
  obtain ⟨u9, eu9, hf⟩ := lett_e hf
  refine va_put (D := D) (ci := 12) (v := .int 0) (ty := .int) (C := RX12) (T := TX12) (N := 52) hx hb hts hinX12 tyX12 tyX12_ok nmX12 hown hK.1 hP hD hS 0 rfl rfl 10 (by decide) (hts (.fieldLink RX12 143 "RopeScaleModel" "number0" "I") (List.mem_of_getElem? (i := 2) rfl)) (fun _ h9 => h9) rfl (tyX12_ok 10 (by decide)) rfl rfl (Nat.le_of_ble_eq_true rfl) dX12_readsNumber_7 (fun H locs hP hD hS => ?_)
  have hP : va_P D vwCl (kX12 T h a u9) H := by rw [eu9]; exact hP
  have hD : va_D (va_A (kX12 T h a u) s.heap.size) (kX12 T h a u9) := by rw [eu9]; exact hD
  exact L10 FU u9 t8 _ _ _ hf hP hD hS (lv_sub hl [1, 0] rfl)
def fX12_notes  (u : St) (p1 : Int32) (p2 : Int32) : Option (St) := gd (u 12 0) 260 <| lett (st u 16 (ix (u 12 0)) ((1048576 * p1) + p2)) fun u1 => lett (st u1 12 0 ((u1 12 0) + 1)) fun u2 => some u2
set_option maxHeartbeats 4000000 in
set_option maxRecDepth 100000 in
theorem mX12_notes (l : Launch) (D : va_G) (T : Ty3) (h : Nat) (a : Nat → Nat) (u : St) (sz : Nat) (p1 : Int32) (p2 : Int32) (res : St) (hf : fX12_notes u p1 p2 = some res) : Met l yX12_notes wsX12_notes ({ frames := 0, cells := 0, slots := 0, locals := 0 }) (PcM D T (kX12 T h a u) sz [.ref h, .int p1, .int p2]) (QMv D (kX12 T h a u) sz (kX12 T h a res)) 0 0 (va_A (kX12 T h a u) sz) := by
  refine Met.ofW (cc := cX12_notes) (maxL := 3) (ret := none) (by decide) rfl ?_
  intro p e s m args below meth c s₁ B hml hv
  obtain ⟨rfl, hsz, hP, hK, hD0⟩ := hv
  have hx := B.exec
  have hb := B.bytes
  have hr := B.returns
  have hts := atoms_spec (ws := wsX12_notes) B.pre
  have hown : s.vm.findClass RX12 = some m.cls := findClass_of_methodNamed B.named
  have hlocks := B.notSynchronized
  subst hsz
  have hD := hD0.self (sz := s.heap.size)
  have hA : ∀ q : Nat, s.heap.size ≤ q → va_A (kX12 T h a u) s.heap.size q := fun q h => Or.inr h
  have hS : va_S (va_A (kX12 T h a u) s.heap.size) s.heap s.heap [] := va_S.rf
  have hinX12 : ∀ w ∈ u_ws RX12 TX12 52, w ∈ wsX12_notes := fun w h => List.mem_cons_of_mem _ (List.mem_append_right _ h)
  have hl := lv_entry ([.ref h, .int p1, .int p2]) (n := 3) (Nat.le_of_ble_eq_true rfl)
  rw [lg_entry_eq]
  generalize (lg_sl ([.ref h, .int p1, .int p2]) ++ List.replicate (3 - (lg_sl ([.ref h, .int p1, .int p2])).length) Slot.unset).toArray = ls at hl ⊢
  have hl : lv_has ls 3 [(0, .ref h), (1, .int p1), (2, .int p2)] := hl
  unfold fX12_notes at hf
  refine lv_aload_n hx hb dX12_notes_0 rfl (lv_at hl 0 rfl) ?_
  refine va_get (D := D) (ci := 12) (v := .ref (a 16)) (C := RX12) (T := TX12) (N := 52) hx hb hts hinX12 hown hK.1 hP 0 rfl rfl 16 (by decide) (hts (.fieldLink RX12 23 "RopeScaleModel" "said" "[I") (List.mem_of_getElem? (i := 1) rfl)) (fun _ h9 => h9) rfl dX12_notes_1 ?_
  refine lv_aload_n hx hb dX12_notes_4 rfl (lv_at hl 0 rfl) ?_
  refine va_get (D := D) (ci := 12) (v := .int (u 12 0)) (C := RX12) (T := TX12) (N := 52) hx hb hts hinX12 hown hK.1 hP 0 rfl rfl 12 (by decide) (hts (.fieldLink RX12 150 "RopeScaleModel" "codeMany" "I") (List.mem_of_getElem? (i := 2) rfl)) (fun _ h9 => h9) rfl dX12_notes_5 ?_
  refine lv_ldc (v := 1048576) hx hb hown (hts (.constant RX12 153 (1048576)) (List.mem_of_getElem? (i := 3) rfl)) dX12_notes_8 ?_
  refine lv_iload_n hx hb dX12_notes_10 rfl (lv_at hl 1 rfl) ?_
  refine lv_imul hx hb dX12_notes_11 ?_
  refine lv_iload_n hx hb dX12_notes_12 rfl (lv_at hl 2 rfl) ?_
  refine lv_iadd hx hb dX12_notes_13 ?_
  obtain ⟨h3, hf⟩ := gd_e hf
  obtain ⟨u1, eu1, hf⟩ := lett_e hf
  refine va_iast hx hb hK.1 hP hD hS 5 0 rfl rfl h3 dX12_notes_14 (fun H locs hP hD hS => ?_)
  have hP : va_P D vwCl (kX12 T h a u1) H := by rw [eu1]; exact hP
  have hD : va_D (va_A (kX12 T h a u) s.heap.size) (kX12 T h a u1) := by rw [eu1]; exact hD
  refine lv_aload_n hx hb dX12_notes_15 rfl (lv_at hl 0 rfl) ?_
  refine lv_aload_n hx hb dX12_notes_16 rfl (lv_at hl 0 rfl) ?_
  refine va_get (D := D) (ci := 12) (v := .int (u1 12 0)) (C := RX12) (T := TX12) (N := 52) hx hb hts hinX12 hown hK.1 hP 0 rfl rfl 12 (by decide) (hts (.fieldLink RX12 150 "RopeScaleModel" "codeMany" "I") (List.mem_of_getElem? (i := 2) rfl)) (fun _ h9 => h9) rfl dX12_notes_17 ?_
  refine lv_iconst (v := 1) hx hb dX12_notes_20 (by decide) ?_
  refine lv_iadd hx hb dX12_notes_21 ?_
  obtain ⟨u2, eu2, hf⟩ := lett_e hf
  refine va_put (D := D) (ci := 12) (v := .int ((u1 12 0) + 1)) (ty := .int) (C := RX12) (T := TX12) (N := 52) hx hb hts hinX12 tyX12 tyX12_ok nmX12 hown hK.1 hP hD hS 0 rfl rfl 12 (by decide) (hts (.fieldLink RX12 150 "RopeScaleModel" "codeMany" "I") (List.mem_of_getElem? (i := 2) rfl)) (fun _ h9 => h9) rfl (tyX12_ok 12 (by decide)) rfl rfl (Nat.le_of_ble_eq_true rfl) dX12_notes_22 (fun H locs hP hD hS => ?_)
  have hP : va_P D vwCl (kX12 T h a u2) H := by rw [eu2]; exact hP
  have hD : va_D (va_A (kX12 T h a u) s.heap.size) (kX12 T h a u2) := by rw [eu2]; exact hD
  have e9 := Option.some.inj hf
  exact retMv hx hb hr hlocks hP hD hS (congrArg (fun z => (kX12 T h a z : va_W)) e9) dX12_notes_25
def fX12_opens  (u : St) (p1 : Int32) : Option (Int32 × St) := if (u 11 0) = 6 then lett (fX12_wrongAt u 5 (u 7 0)) fun z7 => zb z7.1 <| some (z7.1, z7.2) else lett (st u 11 0 ((u 11 0) + 1)) fun u2 => gd (u2 13 0) 260 <| lett (st u2 17 (ix (u2 13 0)) (1048576 * p1)) fun u3 => lett (st u3 13 0 ((u3 13 0) + 1)) fun u4 => lett (st u4 7 0 ((u4 7 0) + 1)) fun u5 => some (1, u5)
set_option maxHeartbeats 4000000 in
set_option maxRecDepth 100000 in
theorem mX12_opens (l : Launch) (D : va_G) (T : Ty3) (h : Nat) (a : Nat → Nat) (u : St) (sz : Nat) (p1 : Int32) (res : Int32 × St) (hf : fX12_opens u p1 = some res) : Met l yX12_opens wsX12_opens ({ frames := 1, cells := 0, slots := 0, locals := 22 }) (PcM D T (kX12 T h a u) sz [.ref h, .int p1]) (QM D (kX12 T h a u) sz res.1 (kX12 T h a res.2)) 0 0 (va_A (kX12 T h a u) sz) := by
  refine Met.ofW (cc := cX12_opens) (maxL := 2) (ret := (some .boolean)) (by decide) rfl ?_
  intro p e s m args below meth c s₁ B hml hv
  obtain ⟨rfl, hsz, hP, hK, hD0⟩ := hv
  have hx := B.exec
  have hb := B.bytes
  have hr := B.returns
  have hts := atoms_spec (ws := wsX12_opens) B.pre
  have hown : s.vm.findClass RX12 = some m.cls := findClass_of_methodNamed B.named
  have hlocks := B.notSynchronized
  subst hsz
  have hD := hD0.self (sz := s.heap.size)
  have hA : ∀ q : Nat, s.heap.size ≤ q → va_A (kX12 T h a u) s.heap.size q := fun q h => Or.inr h
  have hS : va_S (va_A (kX12 T h a u) s.heap.size) s.heap s.heap [] := va_S.rf
  have hinX12 : ∀ w ∈ u_ws RX12 TX12 52, w ∈ wsX12_opens := fun w h => List.mem_cons_of_mem _ (List.mem_append_right _ h)
  have hl := lv_entry ([.ref h, .int p1]) (n := 2) (Nat.le_of_ble_eq_true rfl)
  rw [lg_entry_eq]
  generalize (lg_sl ([.ref h, .int p1]) ++ List.replicate (2 - (lg_sl ([.ref h, .int p1])).length) Slot.unset).toArray = ls at hl ⊢
  have hl : lv_has ls 2 [(0, .ref h), (1, .int p1)] := hl
  unfold fX12_opens at hf
  refine lv_aload_n hx hb dX12_opens_0 rfl (lv_at hl 0 rfl) ?_
  refine va_get (D := D) (ci := 12) (v := .int (u 11 0)) (C := RX12) (T := TX12) (N := 52) hx hb hts hinX12 hown hK.1 hP 0 rfl rfl 11 (by decide) (hts (.fieldLink RX12 154 "RopeScaleModel" "open" "I") (List.mem_of_getElem? (i := 1) rfl)) (fun _ h9 => h9) rfl dX12_opens_1 ?_
  refine lv_bipush (v := 6) hx hb dX12_opens_4 (by decide) ?_
  refine lv_icmp_ne (tgt := 19) hx hb dX12_opens_6 (by decide) (fun c1 => ?_) (fun c1 => ?_)
  · replace hf := ifn c1 hf
    refine lv_aload_n hx hb dX12_opens_19 rfl (lv_at hl 0 rfl) ?_
    refine lv_aload_n hx hb dX12_opens_20 rfl (lv_at hl 0 rfl) ?_
    refine va_get (D := D) (ci := 12) (v := .int (u 11 0)) (C := RX12) (T := TX12) (N := 52) hx hb hts hinX12 hown hK.1 hP 0 rfl rfl 11 (by decide) (hts (.fieldLink RX12 154 "RopeScaleModel" "open" "I") (List.mem_of_getElem? (i := 1) rfl)) (fun _ h9 => h9) rfl dX12_opens_21 ?_
    refine lv_iconst (v := 1) hx hb dX12_opens_24 (by decide) ?_
    refine lv_iadd hx hb dX12_opens_25 ?_
    obtain ⟨u2, eu2, hf⟩ := lett_e hf
    refine va_put (D := D) (ci := 12) (v := .int ((u 11 0) + 1)) (ty := .int) (C := RX12) (T := TX12) (N := 52) hx hb hts hinX12 tyX12 tyX12_ok nmX12 hown hK.1 hP hD hS 0 rfl rfl 11 (by decide) (hts (.fieldLink RX12 154 "RopeScaleModel" "open" "I") (List.mem_of_getElem? (i := 1) rfl)) (fun _ h9 => h9) rfl (tyX12_ok 11 (by decide)) rfl rfl (Nat.le_of_ble_eq_true rfl) dX12_opens_26 (fun H locs hP hD hS => ?_)
    have hP : va_P D vwCl (kX12 T h a u2) H := by rw [eu2]; exact hP
    have hD : va_D (va_A (kX12 T h a u) s.heap.size) (kX12 T h a u2) := by rw [eu2]; exact hD
    refine lv_aload_n hx hb dX12_opens_29 rfl (lv_at hl 0 rfl) ?_
    refine va_get (D := D) (ci := 12) (v := .ref (a 17)) (C := RX12) (T := TX12) (N := 52) hx hb hts hinX12 hown hK.1 hP 0 rfl rfl 17 (by decide) (hts (.fieldLink RX12 26 "RopeScaleModel" "waitsAt" "[I") (List.mem_of_getElem? (i := 3) rfl)) (fun _ h9 => h9) rfl dX12_opens_30 ?_
    refine lv_aload_n hx hb dX12_opens_33 rfl (lv_at hl 0 rfl) ?_
    refine va_get (D := D) (ci := 12) (v := .int (u2 13 0)) (C := RX12) (T := TX12) (N := 52) hx hb hts hinX12 hown hK.1 hP 0 rfl rfl 13 (by decide) (hts (.fieldLink RX12 157 "RopeScaleModel" "waiting" "I") (List.mem_of_getElem? (i := 4) rfl)) (fun _ h9 => h9) rfl dX12_opens_34 ?_
    refine lv_ldc (v := 1048576) hx hb hown (hts (.constant RX12 153 (1048576)) (List.mem_of_getElem? (i := 5) rfl)) dX12_opens_37 ?_
    refine lv_iload_n hx hb dX12_opens_39 rfl (lv_at hl 1 rfl) ?_
    refine lv_imul hx hb dX12_opens_40 ?_
    obtain ⟨h6, hf⟩ := gd_e hf
    obtain ⟨u3, eu3, hf⟩ := lett_e hf
    refine va_iast hx hb hK.1 hP hD hS 6 0 rfl rfl h6 dX12_opens_41 (fun H locs hP hD hS => ?_)
    have hP : va_P D vwCl (kX12 T h a u3) H := by rw [eu3]; exact hP
    have hD : va_D (va_A (kX12 T h a u) s.heap.size) (kX12 T h a u3) := by rw [eu3]; exact hD
    refine lv_aload_n hx hb dX12_opens_42 rfl (lv_at hl 0 rfl) ?_
    refine lv_aload_n hx hb dX12_opens_43 rfl (lv_at hl 0 rfl) ?_
    refine va_get (D := D) (ci := 12) (v := .int (u3 13 0)) (C := RX12) (T := TX12) (N := 52) hx hb hts hinX12 hown hK.1 hP 0 rfl rfl 13 (by decide) (hts (.fieldLink RX12 157 "RopeScaleModel" "waiting" "I") (List.mem_of_getElem? (i := 4) rfl)) (fun _ h9 => h9) rfl dX12_opens_44 ?_
    refine lv_iconst (v := 1) hx hb dX12_opens_47 (by decide) ?_
    refine lv_iadd hx hb dX12_opens_48 ?_
    obtain ⟨u4, eu4, hf⟩ := lett_e hf
    refine va_put (D := D) (ci := 12) (v := .int ((u3 13 0) + 1)) (ty := .int) (C := RX12) (T := TX12) (N := 52) hx hb hts hinX12 tyX12 tyX12_ok nmX12 hown hK.1 hP hD hS 0 rfl rfl 13 (by decide) (hts (.fieldLink RX12 157 "RopeScaleModel" "waiting" "I") (List.mem_of_getElem? (i := 4) rfl)) (fun _ h9 => h9) rfl (tyX12_ok 13 (by decide)) rfl rfl (Nat.le_of_ble_eq_true rfl) dX12_opens_49 (fun H locs hP hD hS => ?_)
    have hP : va_P D vwCl (kX12 T h a u4) H := by rw [eu4]; exact hP
    have hD : va_D (va_A (kX12 T h a u) s.heap.size) (kX12 T h a u4) := by rw [eu4]; exact hD
    refine lv_aload_n hx hb dX12_opens_52 rfl (lv_at hl 0 rfl) ?_
    refine lv_aload_n hx hb dX12_opens_53 rfl (lv_at hl 0 rfl) ?_
    refine va_get (D := D) (ci := 12) (v := .int (u4 7 0)) (C := RX12) (T := TX12) (N := 52) hx hb hts hinX12 hown hK.1 hP 0 rfl rfl 7 (by decide) (hts (.fieldLink RX12 126 "RopeScaleModel" "place0" "I") (List.mem_of_getElem? (i := 2) rfl)) (fun _ h9 => h9) rfl dX12_opens_54 ?_
    refine lv_iconst (v := 1) hx hb dX12_opens_57 (by decide) ?_
    refine lv_iadd hx hb dX12_opens_58 ?_
    obtain ⟨u5, eu5, hf⟩ := lett_e hf
    refine va_put (D := D) (ci := 12) (v := .int ((u4 7 0) + 1)) (ty := .int) (C := RX12) (T := TX12) (N := 52) hx hb hts hinX12 tyX12 tyX12_ok nmX12 hown hK.1 hP hD hS 0 rfl rfl 7 (by decide) (hts (.fieldLink RX12 126 "RopeScaleModel" "place0" "I") (List.mem_of_getElem? (i := 2) rfl)) (fun _ h9 => h9) rfl (tyX12_ok 7 (by decide)) rfl rfl (Nat.le_of_ble_eq_true rfl) dX12_opens_59 (fun H locs hP hD hS => ?_)
    have hP : va_P D vwCl (kX12 T h a u5) H := by rw [eu5]; exact hP
    have hD : va_D (va_A (kX12 T h a u) s.heap.size) (kX12 T h a u5) := by rw [eu5]; exact hD
    refine lv_iconst (v := 1) hx hb dX12_opens_62 (by decide) ?_
    have e9 := Option.some.inj hf
    exact retMz hx hb hr hlocks hP hD hS rfl (congrArg (fun z => z.1) e9) (congrArg (fun z => (kX12 T h a z.2 : va_W)) e9) dX12_opens_63
  replace hf := ifp c1 hf
  refine lv_aload_n hx hb dX12_opens_9 rfl (lv_at hl 0 rfl) ?_
  refine lv_iconst (v := 5) hx hb dX12_opens_10 (by decide) ?_
  refine lv_aload_n hx hb dX12_opens_11 rfl (lv_at hl 0 rfl) ?_
  refine va_get (D := D) (ci := 12) (v := .int (u 7 0)) (C := RX12) (T := TX12) (N := 52) hx hb hts hinX12 hown hK.1 hP 0 rfl rfl 7 (by decide) (hts (.fieldLink RX12 126 "RopeScaleModel" "place0" "I") (List.mem_of_getElem? (i := 2) rfl)) (fun _ h9 => h9) rfl dX12_opens_12 ?_
  obtain ⟨z7, hz7, hf⟩ := lett_e hf
  have hFc9 := vaA_self hD hS hA
  refine cVM (As := [.int 5, .int (u 7 0)]) (rest := []) ⟨hx, hb, hml, hown, hts⟩ (mX12_wrongAt l D T h a u _ 5 (u 7 0) z7 hz7.symm) (cwV 2 hts gX12_opens_X12_wrongAt rfl rfl rfl (by decide +kernel) ⟨Nat.le_of_ble_eq_true rfl, Nat.le_of_ble_eq_true rfl⟩) (va_recv hK.1 hP (ci := 12) (q0 := 0) rfl rfl) hP hK rfl hl.1 rfl (Nat.le_of_ble_eq_true rfl) dX12_opens_15 ⟨Nat.le_of_ble_eq_true rfl, Nat.le_of_ble_eq_true rfl⟩ hD hFc9 hS (fun H locs hP hD1 _ hS => ?_)
  have hD := hD1.weaken (fun _ _ _ h9 => hFc9 _ h9)
  obtain ⟨hz9, hf⟩ := zb_e hf
  have e9 := Option.some.inj hf
  exact retMz hx hb hr hlocks hP hD hS hz9 (congrArg (fun z => z.1) e9) (congrArg (fun z => (kX12 T h a z.2 : va_W)) e9) dX12_opens_18
def fX12_waitTop  (u : St)  : Option (Int32) := if (u 13 0) = 0 then some (-1) else gd ((u 13 0) - 1) 260 <| some ((u 17 (ix ((u 13 0) - 1))) / 1048576)
set_option maxHeartbeats 4000000 in
set_option maxRecDepth 100000 in
theorem mX12_waitTop (l : Launch) (D : va_G) (T : Ty3) (h : Nat) (a : Nat → Nat) (u : St)  (res : Int32) (hf : fX12_waitTop u = some res) : Met l yX12_waitTop wsX12_waitTop ({ frames := 0, cells := 0, slots := 0, locals := 0 }) (PcR D T (kX12 T h a u) [.ref h]) (QR res) 0 0 noA := by
  refine Met.ofW (cc := cX12_waitTop) (maxL := 1) (ret := (some .int)) (by decide) rfl ?_
  intro p e s m args below meth c s₁ B hml hv
  obtain ⟨rfl, hP, hK⟩ := hv
  have hx := B.exec
  have hb := B.bytes
  have hr := B.returns
  have hts := atoms_spec (ws := wsX12_waitTop) B.pre
  have hown : s.vm.findClass RX12 = some m.cls := findClass_of_methodNamed B.named
  have hlocks := B.notSynchronized
  have hS : va_S noA s.heap s.heap [] := va_S.rf
  have hinX12 : ∀ w ∈ u_ws RX12 TX12 52, w ∈ wsX12_waitTop := fun w h => List.mem_cons_of_mem _ (List.mem_append_right _ h)
  have hl := lv_entry ([.ref h]) (n := 1) (Nat.le_of_ble_eq_true rfl)
  rw [lg_entry_eq]
  generalize (lg_sl ([.ref h]) ++ List.replicate (1 - (lg_sl ([.ref h])).length) Slot.unset).toArray = ls at hl ⊢
  have hl : lv_has ls 1 [(0, .ref h)] := hl
  unfold fX12_waitTop at hf
  refine lv_aload_n hx hb dX12_waitTop_0 rfl (lv_at hl 0 rfl) ?_
  refine va_get (D := D) (ci := 12) (v := .int (u 13 0)) (C := RX12) (T := TX12) (N := 52) hx hb hts hinX12 hown hK.1 hP 0 rfl rfl 13 (by decide) (hts (.fieldLink RX12 157 "RopeScaleModel" "waiting" "I") (List.mem_of_getElem? (i := 1) rfl)) (fun _ h9 => h9) rfl dX12_waitTop_1 ?_
  refine lv_if_ne (tgt := 11) hx hb dX12_waitTop_4 (by decide) (fun c1 => ?_) (fun c1 => ?_)
  · replace hf := ifn c1 hf
    refine lv_aload_n hx hb dX12_waitTop_11 rfl (lv_at hl 0 rfl) ?_
    refine va_get (D := D) (ci := 12) (v := .ref (a 17)) (C := RX12) (T := TX12) (N := 52) hx hb hts hinX12 hown hK.1 hP 0 rfl rfl 17 (by decide) (hts (.fieldLink RX12 26 "RopeScaleModel" "waitsAt" "[I") (List.mem_of_getElem? (i := 2) rfl)) (fun _ h9 => h9) rfl dX12_waitTop_12 ?_
    refine lv_aload_n hx hb dX12_waitTop_15 rfl (lv_at hl 0 rfl) ?_
    refine va_get (D := D) (ci := 12) (v := .int (u 13 0)) (C := RX12) (T := TX12) (N := 52) hx hb hts hinX12 hown hK.1 hP 0 rfl rfl 13 (by decide) (hts (.fieldLink RX12 157 "RopeScaleModel" "waiting" "I") (List.mem_of_getElem? (i := 1) rfl)) (fun _ h9 => h9) rfl dX12_waitTop_16 ?_
    refine lv_iconst (v := 1) hx hb dX12_waitTop_19 (by decide) ?_
    refine lv_isub hx hb dX12_waitTop_20 ?_
    obtain ⟨h2, hf⟩ := gd_e hf
    refine va_iald hx hb hK.1 hP 6 0 rfl rfl h2 dX12_waitTop_21 ?_
    refine lv_ldc (v := 1048576) hx hb hown (hts (.constant RX12 153 (1048576)) (List.mem_of_getElem? (i := 3) rfl)) dX12_waitTop_22 ?_
    refine lv_idiv hx hb dX12_waitTop_24 (by decide) ?_
    exact retR hx hb hr hlocks hS (Option.some.inj hf) dX12_waitTop_25
  replace hf := ifp c1 hf
  refine lv_iconst (v := (-1)) hx hb dX12_waitTop_7 (by decide) ?_
  refine lv_goto (tgt := 25) hx hb dX12_waitTop_8 (by decide) ?_
  exact retR hx hb hr hlocks hS (Option.some.inj hf) dX12_waitTop_25
def fX12_factOf   (p0 : Int32) : (Int32) := if p0 = 99 then 2 else if p0 = 100 then 5 else if p0 = 101 then (-1) else if p0 = 102 then (-1) else if p0 = 103 then (-1) else if p0 = 104 then 6 else if p0 = 105 then (-1) else if p0 = 106 then (-1) else if p0 = 107 then (-1) else if p0 = 108 then (-1) else if p0 = 109 then (-1) else if p0 = 110 then 4 else if p0 = 111 then 3 else if p0 = 112 then 0 else if p0 = 113 then (-1) else if p0 = 114 then (-1) else if p0 = 115 then (-1) else if p0 = 116 then 7 else if p0 = 117 then (-1) else if p0 = 118 then 1 else (-1)
set_option maxHeartbeats 4000000 in
set_option maxRecDepth 100000 in
theorem mX12_factOf (l : Launch) (D : va_G) (T : Ty3)  (p0 : Int32) (res : Int32) (hf : fX12_factOf p0 = res) : Met l yX12_factOf wsX12_factOf ({ frames := 0, cells := 0, slots := 0, locals := 0 }) (PcR D T ([]) [.int p0]) (QR res) 0 0 noA := by
  refine Met.ofW (cc := cX12_factOf) (maxL := 1) (ret := (some .int)) (by decide) rfl ?_
  intro p e s m args below meth c s₁ B hml hv
  obtain ⟨rfl, hP, hK⟩ := hv
  have hx := B.exec
  have hb := B.bytes
  have hr := B.returns
  have hts := atoms_spec (ws := wsX12_factOf) B.pre
  have hown : s.vm.findClass RX12 = some m.cls := findClass_of_methodNamed B.named
  have hlocks := B.notSynchronized
  have hS : va_S noA s.heap s.heap [] := va_S.rf
  have hl := lv_entry ([.int p0]) (n := 1) (Nat.le_of_ble_eq_true rfl)
  rw [lg_entry_eq]
  generalize (lg_sl ([.int p0]) ++ List.replicate (1 - (lg_sl ([.int p0])).length) Slot.unset).toArray = ls at hl ⊢
  have hl : lv_has ls 1 [(0, .int p0)] := hl
  unfold fX12_factOf at hf
  refine lv_iload_n hx hb dX12_factOf_0 rfl (lv_at hl 0 rfl) ?_
  by_cases c1 : p0 = 99
  · replace hf := ifp c1 hf
    refine lv_tableIn (off := 99) (tgt := 100) hx hb dX12_factOf_1 (by rw [c1]; decide) (by rw [c1]; decide) (by rw [c1]; rfl) (by decide) ?_
    refine lv_iconst (v := 2) hx hb dX12_factOf_100 (by decide) ?_
    exact retR hx hb hr hlocks hS hf dX12_factOf_101
  replace hf := ifn c1 hf
  by_cases c2 : p0 = 100
  · replace hf := ifp c2 hf
    refine lv_tableIn (off := 105) (tgt := 106) hx hb dX12_factOf_1 (by rw [c2]; decide) (by rw [c2]; decide) (by rw [c2]; rfl) (by decide) ?_
    refine lv_iconst (v := 5) hx hb dX12_factOf_106 (by decide) ?_
    exact retR hx hb hr hlocks hS hf dX12_factOf_107
  replace hf := ifn c2 hf
  by_cases c3 : p0 = 101
  · replace hf := ifp c3 hf
    refine lv_tableIn (off := 113) (tgt := 114) hx hb dX12_factOf_1 (by rw [c3]; decide) (by rw [c3]; decide) (by rw [c3]; rfl) (by decide) ?_
    refine lv_iconst (v := (-1)) hx hb dX12_factOf_114 (by decide) ?_
    exact retR hx hb hr hlocks hS hf dX12_factOf_115
  replace hf := ifn c3 hf
  by_cases c4 : p0 = 102
  · replace hf := ifp c4 hf
    refine lv_tableIn (off := 113) (tgt := 114) hx hb dX12_factOf_1 (by rw [c4]; decide) (by rw [c4]; decide) (by rw [c4]; rfl) (by decide) ?_
    refine lv_iconst (v := (-1)) hx hb dX12_factOf_114 (by decide) ?_
    exact retR hx hb hr hlocks hS hf dX12_factOf_115
  replace hf := ifn c4 hf
  by_cases c5 : p0 = 103
  · replace hf := ifp c5 hf
    refine lv_tableIn (off := 113) (tgt := 114) hx hb dX12_factOf_1 (by rw [c5]; decide) (by rw [c5]; decide) (by rw [c5]; rfl) (by decide) ?_
    refine lv_iconst (v := (-1)) hx hb dX12_factOf_114 (by decide) ?_
    exact retR hx hb hr hlocks hS hf dX12_factOf_115
  replace hf := ifn c5 hf
  by_cases c6 : p0 = 104
  · replace hf := ifp c6 hf
    refine lv_tableIn (off := 107) (tgt := 108) hx hb dX12_factOf_1 (by rw [c6]; decide) (by rw [c6]; decide) (by rw [c6]; rfl) (by decide) ?_
    refine lv_bipush (v := 6) hx hb dX12_factOf_108 (by decide) ?_
    exact retR hx hb hr hlocks hS hf dX12_factOf_110
  replace hf := ifn c6 hf
  by_cases c7 : p0 = 105
  · replace hf := ifp c7 hf
    refine lv_tableIn (off := 113) (tgt := 114) hx hb dX12_factOf_1 (by rw [c7]; decide) (by rw [c7]; decide) (by rw [c7]; rfl) (by decide) ?_
    refine lv_iconst (v := (-1)) hx hb dX12_factOf_114 (by decide) ?_
    exact retR hx hb hr hlocks hS hf dX12_factOf_115
  replace hf := ifn c7 hf
  by_cases c8 : p0 = 106
  · replace hf := ifp c8 hf
    refine lv_tableIn (off := 113) (tgt := 114) hx hb dX12_factOf_1 (by rw [c8]; decide) (by rw [c8]; decide) (by rw [c8]; rfl) (by decide) ?_
    refine lv_iconst (v := (-1)) hx hb dX12_factOf_114 (by decide) ?_
    exact retR hx hb hr hlocks hS hf dX12_factOf_115
  replace hf := ifn c8 hf
  by_cases c9 : p0 = 107
  · replace hf := ifp c9 hf
    refine lv_tableIn (off := 113) (tgt := 114) hx hb dX12_factOf_1 (by rw [c9]; decide) (by rw [c9]; decide) (by rw [c9]; rfl) (by decide) ?_
    refine lv_iconst (v := (-1)) hx hb dX12_factOf_114 (by decide) ?_
    exact retR hx hb hr hlocks hS hf dX12_factOf_115
  replace hf := ifn c9 hf
  by_cases c10 : p0 = 108
  · replace hf := ifp c10 hf
    refine lv_tableIn (off := 113) (tgt := 114) hx hb dX12_factOf_1 (by rw [c10]; decide) (by rw [c10]; decide) (by rw [c10]; rfl) (by decide) ?_
    refine lv_iconst (v := (-1)) hx hb dX12_factOf_114 (by decide) ?_
    exact retR hx hb hr hlocks hS hf dX12_factOf_115
  replace hf := ifn c10 hf
  by_cases c11 : p0 = 109
  · replace hf := ifp c11 hf
    refine lv_tableIn (off := 113) (tgt := 114) hx hb dX12_factOf_1 (by rw [c11]; decide) (by rw [c11]; decide) (by rw [c11]; rfl) (by decide) ?_
    refine lv_iconst (v := (-1)) hx hb dX12_factOf_114 (by decide) ?_
    exact retR hx hb hr hlocks hS hf dX12_factOf_115
  replace hf := ifn c11 hf
  by_cases c12 : p0 = 110
  · replace hf := ifp c12 hf
    refine lv_tableIn (off := 103) (tgt := 104) hx hb dX12_factOf_1 (by rw [c12]; decide) (by rw [c12]; decide) (by rw [c12]; rfl) (by decide) ?_
    refine lv_iconst (v := 4) hx hb dX12_factOf_104 (by decide) ?_
    exact retR hx hb hr hlocks hS hf dX12_factOf_105
  replace hf := ifn c12 hf
  by_cases c13 : p0 = 111
  · replace hf := ifp c13 hf
    refine lv_tableIn (off := 101) (tgt := 102) hx hb dX12_factOf_1 (by rw [c13]; decide) (by rw [c13]; decide) (by rw [c13]; rfl) (by decide) ?_
    refine lv_iconst (v := 3) hx hb dX12_factOf_102 (by decide) ?_
    exact retR hx hb hr hlocks hS hf dX12_factOf_103
  replace hf := ifn c13 hf
  by_cases c14 : p0 = 112
  · replace hf := ifp c14 hf
    refine lv_tableIn (off := 95) (tgt := 96) hx hb dX12_factOf_1 (by rw [c14]; decide) (by rw [c14]; decide) (by rw [c14]; rfl) (by decide) ?_
    refine lv_iconst (v := 0) hx hb dX12_factOf_96 (by decide) ?_
    exact retR hx hb hr hlocks hS hf dX12_factOf_97
  replace hf := ifn c14 hf
  by_cases c15 : p0 = 113
  · replace hf := ifp c15 hf
    refine lv_tableIn (off := 113) (tgt := 114) hx hb dX12_factOf_1 (by rw [c15]; decide) (by rw [c15]; decide) (by rw [c15]; rfl) (by decide) ?_
    refine lv_iconst (v := (-1)) hx hb dX12_factOf_114 (by decide) ?_
    exact retR hx hb hr hlocks hS hf dX12_factOf_115
  replace hf := ifn c15 hf
  by_cases c16 : p0 = 114
  · replace hf := ifp c16 hf
    refine lv_tableIn (off := 113) (tgt := 114) hx hb dX12_factOf_1 (by rw [c16]; decide) (by rw [c16]; decide) (by rw [c16]; rfl) (by decide) ?_
    refine lv_iconst (v := (-1)) hx hb dX12_factOf_114 (by decide) ?_
    exact retR hx hb hr hlocks hS hf dX12_factOf_115
  replace hf := ifn c16 hf
  by_cases c17 : p0 = 115
  · replace hf := ifp c17 hf
    refine lv_tableIn (off := 113) (tgt := 114) hx hb dX12_factOf_1 (by rw [c17]; decide) (by rw [c17]; decide) (by rw [c17]; rfl) (by decide) ?_
    refine lv_iconst (v := (-1)) hx hb dX12_factOf_114 (by decide) ?_
    exact retR hx hb hr hlocks hS hf dX12_factOf_115
  replace hf := ifn c17 hf
  by_cases c18 : p0 = 116
  · replace hf := ifp c18 hf
    refine lv_tableIn (off := 110) (tgt := 111) hx hb dX12_factOf_1 (by rw [c18]; decide) (by rw [c18]; decide) (by rw [c18]; rfl) (by decide) ?_
    refine lv_bipush (v := 7) hx hb dX12_factOf_111 (by decide) ?_
    exact retR hx hb hr hlocks hS hf dX12_factOf_113
  replace hf := ifn c18 hf
  by_cases c19 : p0 = 117
  · replace hf := ifp c19 hf
    refine lv_tableIn (off := 113) (tgt := 114) hx hb dX12_factOf_1 (by rw [c19]; decide) (by rw [c19]; decide) (by rw [c19]; rfl) (by decide) ?_
    refine lv_iconst (v := (-1)) hx hb dX12_factOf_114 (by decide) ?_
    exact retR hx hb hr hlocks hS hf dX12_factOf_115
  replace hf := ifn c19 hf
  by_cases c20 : p0 = 118
  · replace hf := ifp c20 hf
    refine lv_tableIn (off := 97) (tgt := 98) hx hb dX12_factOf_1 (by rw [c20]; decide) (by rw [c20]; decide) (by rw [c20]; rfl) (by decide) ?_
    refine lv_iconst (v := 1) hx hb dX12_factOf_98 (by decide) ?_
    exact retR hx hb hr hlocks hS hf dX12_factOf_99
  replace hf := ifn c20 hf
  refine lv_tableOut (tgt := 114) hx hb dX12_factOf_1 (sw_out (x := p0) 20 (by decide) (fun k9 hk9 => match k9, hk9 with | 0, _ => fun e9 => c1 (e9.trans (by decide)) | 1, _ => fun e9 => c2 (e9.trans (by decide)) | 2, _ => fun e9 => c3 (e9.trans (by decide)) | 3, _ => fun e9 => c4 (e9.trans (by decide)) | 4, _ => fun e9 => c5 (e9.trans (by decide)) | 5, _ => fun e9 => c6 (e9.trans (by decide)) | 6, _ => fun e9 => c7 (e9.trans (by decide)) | 7, _ => fun e9 => c8 (e9.trans (by decide)) | 8, _ => fun e9 => c9 (e9.trans (by decide)) | 9, _ => fun e9 => c10 (e9.trans (by decide)) | 10, _ => fun e9 => c11 (e9.trans (by decide)) | 11, _ => fun e9 => c12 (e9.trans (by decide)) | 12, _ => fun e9 => c13 (e9.trans (by decide)) | 13, _ => fun e9 => c14 (e9.trans (by decide)) | 14, _ => fun e9 => c15 (e9.trans (by decide)) | 15, _ => fun e9 => c16 (e9.trans (by decide)) | 16, _ => fun e9 => c17 (e9.trans (by decide)) | 17, _ => fun e9 => c18 (e9.trans (by decide)) | 18, _ => fun e9 => c19 (e9.trans (by decide)) | 19, _ => fun e9 => c20 (e9.trans (by decide)) | k9 + 20, hk9 => absurd hk9 (by omega))) (by decide) ?_
  refine lv_iconst (v := (-1)) hx hb dX12_factOf_114 (by decide) ?_
  exact retR hx hb hr hlocks hS hf dX12_factOf_115
def fX12_sumSign   (p0 : Int32) : (Int32) := if p0 = 43 then 2 else if p0 = 45 then 3 else if p0 = 42 then 4 else if p0 = 47 then 5 else if p0 = 37 then 6 else (-1)
set_option maxHeartbeats 4000000 in
set_option maxRecDepth 100000 in
theorem mX12_sumSign (l : Launch) (D : va_G) (T : Ty3)  (p0 : Int32) (res : Int32) (hf : fX12_sumSign p0 = res) : Met l yX12_sumSign wsX12_sumSign ({ frames := 0, cells := 0, slots := 0, locals := 0 }) (PcR D T ([]) [.int p0]) (QR res) 0 0 noA := by
  refine Met.ofW (cc := cX12_sumSign) (maxL := 1) (ret := (some .int)) (by decide) rfl ?_
  intro p e s m args below meth c s₁ B hml hv
  obtain ⟨rfl, hP, hK⟩ := hv
  have hx := B.exec
  have hb := B.bytes
  have hr := B.returns
  have hts := atoms_spec (ws := wsX12_sumSign) B.pre
  have hown : s.vm.findClass RX12 = some m.cls := findClass_of_methodNamed B.named
  have hlocks := B.notSynchronized
  have hS : va_S noA s.heap s.heap [] := va_S.rf
  have hl := lv_entry ([.int p0]) (n := 1) (Nat.le_of_ble_eq_true rfl)
  rw [lg_entry_eq]
  generalize (lg_sl ([.int p0]) ++ List.replicate (1 - (lg_sl ([.int p0])).length) Slot.unset).toArray = ls at hl ⊢
  have hl : lv_has ls 1 [(0, .int p0)] := hl
  unfold fX12_sumSign at hf
  refine lv_iload_n hx hb dX12_sumSign_0 rfl (lv_at hl 0 rfl) ?_
  refine lv_bipush (v := 43) hx hb dX12_sumSign_1 (by decide) ?_
  refine lv_icmp_ne (tgt := 10) hx hb dX12_sumSign_3 (by decide) (fun c1 => ?_) (fun c1 => ?_)
  · replace hf := ifn c1 hf
    refine lv_iload_n hx hb dX12_sumSign_10 rfl (lv_at hl 0 rfl) ?_
    refine lv_bipush (v := 45) hx hb dX12_sumSign_11 (by decide) ?_
    refine lv_icmp_ne (tgt := 20) hx hb dX12_sumSign_13 (by decide) (fun c2 => ?_) (fun c2 => ?_)
    · replace hf := ifn c2 hf
      refine lv_iload_n hx hb dX12_sumSign_20 rfl (lv_at hl 0 rfl) ?_
      refine lv_bipush (v := 42) hx hb dX12_sumSign_21 (by decide) ?_
      refine lv_icmp_ne (tgt := 30) hx hb dX12_sumSign_23 (by decide) (fun c3 => ?_) (fun c3 => ?_)
      · replace hf := ifn c3 hf
        refine lv_iload_n hx hb dX12_sumSign_30 rfl (lv_at hl 0 rfl) ?_
        refine lv_bipush (v := 47) hx hb dX12_sumSign_31 (by decide) ?_
        refine lv_icmp_ne (tgt := 40) hx hb dX12_sumSign_33 (by decide) (fun c4 => ?_) (fun c4 => ?_)
        · replace hf := ifn c4 hf
          refine lv_iload_n hx hb dX12_sumSign_40 rfl (lv_at hl 0 rfl) ?_
          refine lv_bipush (v := 37) hx hb dX12_sumSign_41 (by decide) ?_
          refine lv_icmp_ne (tgt := 51) hx hb dX12_sumSign_43 (by decide) (fun c5 => ?_) (fun c5 => ?_)
          · replace hf := ifn c5 hf
            refine lv_iconst (v := (-1)) hx hb dX12_sumSign_51 (by decide) ?_
            exact retR hx hb hr hlocks hS hf dX12_sumSign_52
          replace hf := ifp c5 hf
          refine lv_bipush (v := 6) hx hb dX12_sumSign_46 (by decide) ?_
          refine lv_goto (tgt := 52) hx hb dX12_sumSign_48 (by decide) ?_
          exact retR hx hb hr hlocks hS hf dX12_sumSign_52
        replace hf := ifp c4 hf
        refine lv_iconst (v := 5) hx hb dX12_sumSign_36 (by decide) ?_
        refine lv_goto (tgt := 52) hx hb dX12_sumSign_37 (by decide) ?_
        exact retR hx hb hr hlocks hS hf dX12_sumSign_52
      replace hf := ifp c3 hf
      refine lv_iconst (v := 4) hx hb dX12_sumSign_26 (by decide) ?_
      refine lv_goto (tgt := 52) hx hb dX12_sumSign_27 (by decide) ?_
      exact retR hx hb hr hlocks hS hf dX12_sumSign_52
    replace hf := ifp c2 hf
    refine lv_iconst (v := 3) hx hb dX12_sumSign_16 (by decide) ?_
    refine lv_goto (tgt := 52) hx hb dX12_sumSign_17 (by decide) ?_
    exact retR hx hb hr hlocks hS hf dX12_sumSign_52
  replace hf := ifp c1 hf
  refine lv_iconst (v := 2) hx hb dX12_sumSign_6 (by decide) ?_
  refine lv_goto (tgt := 52) hx hb dX12_sumSign_7 (by decide) ?_
  exact retR hx hb hr hlocks hS hf dX12_sumSign_52
def fX12_closesSums_J37  (lp0 : St → Int32 → Option (St)) (v : St) (x1 : Int32) : Option (St) := (fX12_waitTop v).bind fun z1 => (fX12_notes v z1 0).bind fun z2 => lett (st z2 13 0 ((z2 13 0) - 1)) fun u3 => lp0 u3 x1
def fX12_closesSums_J17  (lp0 : St → Int32 → Option (St)) (v : St) (x1 : Int32) : Option (St) := if x1 = 0 then some v else (fX12_waitTop v).bind fun z5 => if z5 = 2 then fX12_closesSums_J37 lp0 v x1 else (fX12_waitTop v).bind fun z7 => if z7 = 3 then fX12_closesSums_J37 lp0 v x1 else some v
def bX12_closesSums_L0   (lp0 : St → Int32 → Option (St)) (v : St) (x1 : Int32) : Option (St) := (fX12_waitTop v).bind fun z9 => if z9 < 4 then fX12_closesSums_J17 lp0 v x1 else (fX12_waitTop v).bind fun z11 => if z11 ≤ 6 then fX12_closesSums_J37 lp0 v x1 else fX12_closesSums_J17 lp0 v x1
def fX12_closesSums_L0   : Nat → St → Int32 → Option (St)
  | 0, _, _ => none
  | n + 1, v, x1 => bX12_closesSums_L0  (fX12_closesSums_L0  n) v x1
def fX12_closesSums  (u : St) (p1 : Int32) : Option (St) := fX12_closesSums_L0 FU u p1
set_option maxHeartbeats 4000000 in
set_option maxRecDepth 100000 in
theorem mX12_closesSums (l : Launch) (D : va_G) (T : Ty3) (h : Nat) (a : Nat → Nat) (u : St) (sz : Nat) (p1 : Int32) (res : St) (hf : fX12_closesSums u p1 = some res) : Met l yX12_closesSums wsX12_closesSums ({ frames := 1, cells := 0, slots := 0, locals := 22 }) (PcM D T (kX12 T h a u) sz [.ref h, .int p1]) (QMv D (kX12 T h a u) sz (kX12 T h a res)) 0 0 (va_A (kX12 T h a u) sz) := by
  refine Met.ofW (cc := cX12_closesSums) (maxL := 2) (ret := none) (by decide) rfl ?_
  intro p e s m args below meth c s₁ B hml hv
  obtain ⟨rfl, hsz, hP, hK, hD0⟩ := hv
  have hx := B.exec
  have hb := B.bytes
  have hr := B.returns
  have hts := atoms_spec (ws := wsX12_closesSums) B.pre
  have hown : s.vm.findClass RX12 = some m.cls := findClass_of_methodNamed B.named
  have hlocks := B.notSynchronized
  subst hsz
  have hD := hD0.self (sz := s.heap.size)
  have hA : ∀ q : Nat, s.heap.size ≤ q → va_A (kX12 T h a u) s.heap.size q := fun q h => Or.inr h
  have hS : va_S (va_A (kX12 T h a u) s.heap.size) s.heap s.heap [] := va_S.rf
  have hinX12 : ∀ w ∈ u_ws RX12 TX12 52, w ∈ wsX12_closesSums := fun w h => List.mem_cons_of_mem _ (List.mem_append_right _ h)
  have hl := lv_entry ([.ref h, .int p1]) (n := 2) (Nat.le_of_ble_eq_true rfl)
  rw [lg_entry_eq]
  generalize (lg_sl ([.ref h, .int p1]) ++ List.replicate (2 - (lg_sl ([.ref h, .int p1])).length) Slot.unset).toArray = ls at hl ⊢
  have hl : lv_has ls 2 [(0, .ref h), (1, .int p1)] := hl
  have L0 : ∀ (n0 : Nat), ∀ (v : St) (x1 : Int32) (H : Heap) (locs : List Loc) (ls : Array Slot), fX12_closesSums_L0  n0 v x1 = some res → va_P D vwCl (kX12 T h a v) H → va_D (va_A (kX12 T h a u) s.heap.size) (kX12 T h a v) → va_S (va_A (kX12 T h a u) s.heap.size) s.heap H locs → lv_has ls 2 [(0, .ref h), (1, .int x1)] → W p l e (headSpec wsX12_closesSums ({ frames := 1, cells := 0, slots := 0, locals := 22 })).room s m ([.ref h, .int p1] : List Value).toArray below meth c H locs 0 0 (MQ below (QMv D (kX12 T h a u) s.heap.size (kX12 T h a res)) ([.ref h, .int p1] : List Value).toArray s 0 0 (va_A (kX12 T h a u) s.heap.size)) (F0 m 0 ls []) := by
    intro n0
    induction n0 with
    | zero => intro v x1 H locs ls hf; exact nns hf
    | succ n0 ih0 =>
      have J37 : ∀ (v : St) (x1 : Int32) (H : Heap) (locs : List Loc) (ls : Array Slot), fX12_closesSums_J37 (fX12_closesSums_L0  n0) v x1 = some res → va_P D vwCl (kX12 T h a v) H → va_D (va_A (kX12 T h a u) s.heap.size) (kX12 T h a v) → va_S (va_A (kX12 T h a u) s.heap.size) s.heap H locs → lv_has ls 2 [(0, .ref h), (1, .int x1)] → W p l e (headSpec wsX12_closesSums ({ frames := 1, cells := 0, slots := 0, locals := 22 })).room s m ([.ref h, .int p1] : List Value).toArray below meth c H locs 0 0 (MQ below (QMv D (kX12 T h a u) s.heap.size (kX12 T h a res)) ([.ref h, .int p1] : List Value).toArray s 0 0 (va_A (kX12 T h a u) s.heap.size)) (F0 m 37 ls []) := by
        intro v x1 H locs ls hf hP hD hS hl
        unfold fX12_closesSums_J37 at hf
        refine lv_aload_n hx hb dX12_closesSums_37 rfl (lv_at hl 0 rfl) ?_
        refine lv_aload_n hx hb dX12_closesSums_38 rfl (lv_at hl 0 rfl) ?_
        obtain ⟨z1, hz1, hf⟩ := bnd hf
        refine cVR (As := []) (rest := [.ref h]) ⟨hx, hb, hml, hown, hts⟩ (mX12_waitTop l D T h a v z1 hz1) (cwV 0 hts gX12_closesSums_X12_waitTop rfl rfl rfl (by decide +kernel) ⟨Nat.le_of_ble_eq_true rfl, Nat.le_of_ble_eq_true rfl⟩) (va_recv hK.1 hP (ci := 12) (q0 := 0) rfl rfl) hP hK rfl hl.1 rfl (Nat.le_of_ble_eq_true rfl) dX12_closesSums_39 ⟨Nat.le_of_ble_eq_true rfl, Nat.le_of_ble_eq_true rfl⟩ hP hS (fun H locs hP hS => ?_)
        refine lv_iconst (v := 0) hx hb dX12_closesSums_42 (by decide) ?_
        obtain ⟨z2, hz2, hf⟩ := bnd hf
        have hFc9 := vaA_self hD hS hA
        refine cVMv (As := [.int z1, .int 0]) (rest := []) ⟨hx, hb, hml, hown, hts⟩ (mX12_notes l D T h a v _ z1 0 z2 hz2) (cwV 2 hts gX12_closesSums_X12_notes rfl rfl rfl (by decide +kernel) ⟨Nat.le_of_ble_eq_true rfl, Nat.le_of_ble_eq_true rfl⟩) (va_recv hK.1 hP (ci := 12) (q0 := 0) rfl rfl) hP hK rfl hl.1 rfl (Nat.le_of_ble_eq_true rfl) dX12_closesSums_43 ⟨Nat.le_of_ble_eq_true rfl, Nat.le_of_ble_eq_true rfl⟩ hD hFc9 hS (fun H locs hP hD1 _ hS => ?_)
        have hD := hD1.weaken (fun _ _ _ h9 => hFc9 _ h9)
        refine lv_aload_n hx hb dX12_closesSums_46 rfl (lv_at hl 0 rfl) ?_
        refine lv_aload_n hx hb dX12_closesSums_47 rfl (lv_at hl 0 rfl) ?_
        refine va_get (D := D) (ci := 12) (v := .int (z2 13 0)) (C := RX12) (T := TX12) (N := 52) hx hb hts hinX12 hown hK.1 hP 0 rfl rfl 13 (by decide) (hts (.fieldLink RX12 157 "RopeScaleModel" "waiting" "I") (List.mem_of_getElem? (i := 1) rfl)) (fun _ h9 => h9) rfl dX12_closesSums_48 ?_
        refine lv_iconst (v := 1) hx hb dX12_closesSums_51 (by decide) ?_
        refine lv_isub hx hb dX12_closesSums_52 ?_
        obtain ⟨u3, eu3, hf⟩ := lett_e hf
        refine va_put (D := D) (ci := 12) (v := .int ((z2 13 0) - 1)) (ty := .int) (C := RX12) (T := TX12) (N := 52) hx hb hts hinX12 tyX12 tyX12_ok nmX12 hown hK.1 hP hD hS 0 rfl rfl 13 (by decide) (hts (.fieldLink RX12 157 "RopeScaleModel" "waiting" "I") (List.mem_of_getElem? (i := 1) rfl)) (fun _ h9 => h9) rfl (tyX12_ok 13 (by decide)) rfl rfl (Nat.le_of_ble_eq_true rfl) dX12_closesSums_53 (fun H locs hP hD hS => ?_)
        have hP : va_P D vwCl (kX12 T h a u3) H := by rw [eu3]; exact hP
        have hD : va_D (va_A (kX12 T h a u) s.heap.size) (kX12 T h a u3) := by rw [eu3]; exact hD
        refine lv_goto (tgt := 0) hx hb dX12_closesSums_56 (by decide) ?_
        exact ih0 u3 x1 _ _ _ hf hP hD hS (lv_sub hl [0, 1] rfl)
      have J17 : ∀ (v : St) (x1 : Int32) (H : Heap) (locs : List Loc) (ls : Array Slot), fX12_closesSums_J17 (fX12_closesSums_L0  n0) v x1 = some res → va_P D vwCl (kX12 T h a v) H → va_D (va_A (kX12 T h a u) s.heap.size) (kX12 T h a v) → va_S (va_A (kX12 T h a u) s.heap.size) s.heap H locs → lv_has ls 2 [(0, .ref h), (1, .int x1)] → W p l e (headSpec wsX12_closesSums ({ frames := 1, cells := 0, slots := 0, locals := 22 })).room s m ([.ref h, .int p1] : List Value).toArray below meth c H locs 0 0 (MQ below (QMv D (kX12 T h a u) s.heap.size (kX12 T h a res)) ([.ref h, .int p1] : List Value).toArray s 0 0 (va_A (kX12 T h a u) s.heap.size)) (F0 m 17 ls []) := by
        intro v x1 H locs ls hf hP hD hS hl
        unfold fX12_closesSums_J17 at hf
        refine lv_iload_n hx hb dX12_closesSums_17 rfl (lv_at hl 1 rfl) ?_
        refine lv_if_eq (tgt := 59) hx hb dX12_closesSums_18 (by decide) (fun c4 => ?_) (fun c4 => ?_)
        · replace hf := ifp c4 hf
          have e9 := Option.some.inj hf
          exact retMv hx hb hr hlocks hP hD hS (congrArg (fun z => (kX12 T h a z : va_W)) e9) dX12_closesSums_59
        replace hf := ifn c4 hf
        refine lv_aload_n hx hb dX12_closesSums_21 rfl (lv_at hl 0 rfl) ?_
        obtain ⟨z5, hz5, hf⟩ := bnd hf
        refine cVR (As := []) (rest := []) ⟨hx, hb, hml, hown, hts⟩ (mX12_waitTop l D T h a v z5 hz5) (cwV 0 hts gX12_closesSums_X12_waitTop rfl rfl rfl (by decide +kernel) ⟨Nat.le_of_ble_eq_true rfl, Nat.le_of_ble_eq_true rfl⟩) (va_recv hK.1 hP (ci := 12) (q0 := 0) rfl rfl) hP hK rfl hl.1 rfl (Nat.le_of_ble_eq_true rfl) dX12_closesSums_22 ⟨Nat.le_of_ble_eq_true rfl, Nat.le_of_ble_eq_true rfl⟩ hP hS (fun H locs hP hS => ?_)
        refine lv_iconst (v := 2) hx hb dX12_closesSums_25 (by decide) ?_
        refine lv_icmp_eq (tgt := 37) hx hb dX12_closesSums_26 (by decide) (fun c6 => ?_) (fun c6 => ?_)
        · replace hf := ifp c6 hf
          exact J37 v x1 _ _ _ hf hP hD hS (lv_sub hl [0, 1] rfl)
        replace hf := ifn c6 hf
        refine lv_aload_n hx hb dX12_closesSums_29 rfl (lv_at hl 0 rfl) ?_
        obtain ⟨z7, hz7, hf⟩ := bnd hf
        refine cVR (As := []) (rest := []) ⟨hx, hb, hml, hown, hts⟩ (mX12_waitTop l D T h a v z7 hz7) (cwV 0 hts gX12_closesSums_X12_waitTop rfl rfl rfl (by decide +kernel) ⟨Nat.le_of_ble_eq_true rfl, Nat.le_of_ble_eq_true rfl⟩) (va_recv hK.1 hP (ci := 12) (q0 := 0) rfl rfl) hP hK rfl hl.1 rfl (Nat.le_of_ble_eq_true rfl) dX12_closesSums_30 ⟨Nat.le_of_ble_eq_true rfl, Nat.le_of_ble_eq_true rfl⟩ hP hS (fun H locs hP hS => ?_)
        refine lv_iconst (v := 3) hx hb dX12_closesSums_33 (by decide) ?_
        refine lv_icmp_ne (tgt := 59) hx hb dX12_closesSums_34 (by decide) (fun c8 => ?_) (fun c8 => ?_)
        · replace hf := ifn c8 hf
          have e9 := Option.some.inj hf
          exact retMv hx hb hr hlocks hP hD hS (congrArg (fun z => (kX12 T h a z : va_W)) e9) dX12_closesSums_59
        replace hf := ifp c8 hf
        exact J37 v x1 _ _ _ hf hP hD hS (lv_sub hl [0, 1] rfl)
      intro v x1 H locs ls hf hP hD hS hl
      replace hf : bX12_closesSums_L0  (fX12_closesSums_L0  n0) v x1 = some res := hf
      unfold bX12_closesSums_L0 at hf
      refine lv_aload_n hx hb dX12_closesSums_0 rfl (lv_at hl 0 rfl) ?_
      obtain ⟨z9, hz9, hf⟩ := bnd hf
      refine cVR (As := []) (rest := []) ⟨hx, hb, hml, hown, hts⟩ (mX12_waitTop l D T h a v z9 hz9) (cwV 0 hts gX12_closesSums_X12_waitTop rfl rfl rfl (by decide +kernel) ⟨Nat.le_of_ble_eq_true rfl, Nat.le_of_ble_eq_true rfl⟩) (va_recv hK.1 hP (ci := 12) (q0 := 0) rfl rfl) hP hK rfl hl.1 rfl (Nat.le_of_ble_eq_true rfl) dX12_closesSums_1 ⟨Nat.le_of_ble_eq_true rfl, Nat.le_of_ble_eq_true rfl⟩ hP hS (fun H locs hP hS => ?_)
      refine lv_iconst (v := 4) hx hb dX12_closesSums_4 (by decide) ?_
      refine lv_icmp_lt (tgt := 17) hx hb dX12_closesSums_5 (by decide) (fun c10 => ?_) (fun c10 => ?_)
      · replace hf := ifp c10 hf
        exact J17 v x1 _ _ _ hf hP hD hS (lv_sub hl [0, 1] rfl)
      replace hf := ifn c10 hf
      refine lv_aload_n hx hb dX12_closesSums_8 rfl (lv_at hl 0 rfl) ?_
      obtain ⟨z11, hz11, hf⟩ := bnd hf
      refine cVR (As := []) (rest := []) ⟨hx, hb, hml, hown, hts⟩ (mX12_waitTop l D T h a v z11 hz11) (cwV 0 hts gX12_closesSums_X12_waitTop rfl rfl rfl (by decide +kernel) ⟨Nat.le_of_ble_eq_true rfl, Nat.le_of_ble_eq_true rfl⟩) (va_recv hK.1 hP (ci := 12) (q0 := 0) rfl rfl) hP hK rfl hl.1 rfl (Nat.le_of_ble_eq_true rfl) dX12_closesSums_9 ⟨Nat.le_of_ble_eq_true rfl, Nat.le_of_ble_eq_true rfl⟩ hP hS (fun H locs hP hS => ?_)
      refine lv_bipush (v := 6) hx hb dX12_closesSums_12 (by decide) ?_
      refine lv_icmp_le (tgt := 37) hx hb dX12_closesSums_14 (by decide) (fun c12 => ?_) (fun c12 => ?_)
      · replace hf := ifp c12 hf
        exact J37 v x1 _ _ _ hf hP hD hS (lv_sub hl [0, 1] rfl)
      replace hf := ifn c12 hf
      exact J17 v x1 _ _ _ hf hP hD hS (lv_sub hl [0, 1] rfl)
  unfold fX12_closesSums at hf
  exact L0 FU u p1 _ _ _ hf hP hD hS (lv_sub hl [0, 1] rfl)
def bX12_readsFactor_L0   (lp0 : St → Option (Int32 × St)) (v : St) : Option (Int32 × St) := (fX12_here v).bind fun z1 => if z1 = 91 then (fX12_opens v 14).bind fun z14 => if z14.1 = 0 then some (0, z14.2) else lp0 z14.2 else (fX12_isDigit v).bind fun z3 => if z3 = 0 then (fX12_here v).bind fun z5 => lett (fX12_factOf z5) fun z6 => if z6 = (-1) then lett (fX12_wrongAt v 1 (v 7 0)) fun z10 => zb z10.1 <| some (z10.1, z10.2) else (fX12_notes v 1 z6).bind fun z8 => lett (st z8 7 0 ((z8 7 0) + 1)) fun u9 => some (1, u9) else (fX12_readsNumber v).bind fun z11 => if z11.1 = 0 then some (0, z11.2) else (fX12_notes z11.2 0 (z11.2 10 0)).bind fun z13 => some (1, z13)
def fX12_readsFactor_L0   : Nat → St → Option (Int32 × St)
  | 0, _ => none
  | n + 1, v => bX12_readsFactor_L0  (fX12_readsFactor_L0  n) v
def fX12_readsFactor  (u : St)  : Option (Int32 × St) := fX12_readsFactor_L0 FU u
set_option maxHeartbeats 4000000 in
set_option maxRecDepth 100000 in
theorem mX12_readsFactor (l : Launch) (D : va_G) (T : Ty3) (h : Nat) (a : Nat → Nat) (u : St) (sz : Nat)  (res : Int32 × St) (hf : fX12_readsFactor u = some res) : Met l yX12_readsFactor wsX12_readsFactor ({ frames := 3, cells := 0, slots := 0, locals := 61 }) (PcM D T (kX12 T h a u) sz [.ref h]) (QM D (kX12 T h a u) sz res.1 (kX12 T h a res.2)) 0 0 (va_A (kX12 T h a u) sz) := by
  refine Met.ofW (cc := cX12_readsFactor) (maxL := 2) (ret := (some .boolean)) (by decide) rfl ?_
  intro p e s m args below meth c s₁ B hml hv
  obtain ⟨rfl, hsz, hP, hK, hD0⟩ := hv
  have hx := B.exec
  have hb := B.bytes
  have hr := B.returns
  have hts := atoms_spec (ws := wsX12_readsFactor) B.pre
  have hown : s.vm.findClass RX12 = some m.cls := findClass_of_methodNamed B.named
  have hlocks := B.notSynchronized
  subst hsz
  have hD := hD0.self (sz := s.heap.size)
  have hA : ∀ q : Nat, s.heap.size ≤ q → va_A (kX12 T h a u) s.heap.size q := fun q h => Or.inr h
  have hS : va_S (va_A (kX12 T h a u) s.heap.size) s.heap s.heap [] := va_S.rf
  have hinX12 : ∀ w ∈ u_ws RX12 TX12 52, w ∈ wsX12_readsFactor := fun w h => List.mem_cons_of_mem _ (List.mem_append_right _ h)
  have hl := lv_entry ([.ref h]) (n := 2) (Nat.le_of_ble_eq_true rfl)
  rw [lg_entry_eq]
  generalize (lg_sl ([.ref h]) ++ List.replicate (2 - (lg_sl ([.ref h])).length) Slot.unset).toArray = ls at hl ⊢
  have hl : lv_has ls 2 [(0, .ref h)] := hl
  have L0 : ∀ (n0 : Nat), ∀ (v : St) (H : Heap) (locs : List Loc) (ls : Array Slot), fX12_readsFactor_L0  n0 v = some res → va_P D vwCl (kX12 T h a v) H → va_D (va_A (kX12 T h a u) s.heap.size) (kX12 T h a v) → va_S (va_A (kX12 T h a u) s.heap.size) s.heap H locs → lv_has ls 2 [(0, .ref h)] → W p l e (headSpec wsX12_readsFactor ({ frames := 3, cells := 0, slots := 0, locals := 61 })).room s m ([.ref h] : List Value).toArray below meth c H locs 0 0 (MQ below (QM D (kX12 T h a u) s.heap.size res.1 (kX12 T h a res.2)) ([.ref h] : List Value).toArray s 0 0 (va_A (kX12 T h a u) s.heap.size)) (F0 m 0 ls []) := by
    intro n0
    induction n0 with
    | zero => intro v H locs ls hf; exact nns hf
    | succ n0 ih0 =>
      intro v H locs ls hf hP hD hS hl
      replace hf : bX12_readsFactor_L0  (fX12_readsFactor_L0  n0) v = some res := hf
      unfold bX12_readsFactor_L0 at hf
      refine lv_aload_n hx hb dX12_readsFactor_0 rfl (lv_at hl 0 rfl) ?_
      obtain ⟨z1, hz1, hf⟩ := bnd hf
      refine cVR (As := []) (rest := []) ⟨hx, hb, hml, hown, hts⟩ (mX12_here l D T h a v z1 hz1) (cwV 0 hts gX12_readsFactor_X12_here rfl rfl rfl (by decide +kernel) ⟨Nat.le_of_ble_eq_true rfl, Nat.le_of_ble_eq_true rfl⟩) (va_recv hK.1 hP (ci := 12) (q0 := 0) rfl rfl) hP hK rfl hl.1 rfl (Nat.le_of_ble_eq_true rfl) dX12_readsFactor_1 ⟨Nat.le_of_ble_eq_true rfl, Nat.le_of_ble_eq_true rfl⟩ hP hS (fun H locs hP hS => ?_)
      refine lv_bipush (v := 91) hx hb dX12_readsFactor_4 (by decide) ?_
      refine lv_icmp_ne (tgt := 20) hx hb dX12_readsFactor_6 (by decide) (fun c2 => ?_) (fun c2 => ?_)
      · replace hf := ifn c2 hf
        refine lv_aload_n hx hb dX12_readsFactor_20 rfl (lv_at hl 0 rfl) ?_
        obtain ⟨z3, hz3, hf⟩ := bnd hf
        refine cVR (As := []) (rest := []) ⟨hx, hb, hml, hown, hts⟩ (mX12_isDigit l D T h a v z3 hz3) (cwV 0 hts gX12_readsFactor_X12_isDigit rfl rfl rfl (by decide +kernel) ⟨Nat.le_of_ble_eq_true rfl, Nat.le_of_ble_eq_true rfl⟩) (va_recv hK.1 hP (ci := 12) (q0 := 0) rfl rfl) hP hK rfl hl.1 rfl (Nat.le_of_ble_eq_true rfl) dX12_readsFactor_21 ⟨Nat.le_of_ble_eq_true rfl, Nat.le_of_ble_eq_true rfl⟩ hP hS (fun H locs hP hS => ?_)
        refine lv_if_eq (tgt := 47) hx hb dX12_readsFactor_24 (by decide) (fun c4 => ?_) (fun c4 => ?_)
        · replace hf := ifp c4 hf
          refine lv_aload_n hx hb dX12_readsFactor_47 rfl (lv_at hl 0 rfl) ?_
          obtain ⟨z5, hz5, hf⟩ := bnd hf
          refine cVR (As := []) (rest := []) ⟨hx, hb, hml, hown, hts⟩ (mX12_here l D T h a v z5 hz5) (cwV 0 hts gX12_readsFactor_X12_here rfl rfl rfl (by decide +kernel) ⟨Nat.le_of_ble_eq_true rfl, Nat.le_of_ble_eq_true rfl⟩) (va_recv hK.1 hP (ci := 12) (q0 := 0) rfl rfl) hP hK rfl hl.1 rfl (Nat.le_of_ble_eq_true rfl) dX12_readsFactor_48 ⟨Nat.le_of_ble_eq_true rfl, Nat.le_of_ble_eq_true rfl⟩ hP hS (fun H locs hP hS => ?_)
          obtain ⟨z6, hz6, hf⟩ := lett_e hf
          refine cSR (As := [.int z5]) (rest := []) ⟨hx, hb, hml, hown, hts⟩ (mX12_factOf l D T z5 z6 hz6.symm) (va_cwS 1 hts gX12_readsFactor_X12_factOf rfl rfl rfl (by decide +kernel) ⟨Nat.le_of_ble_eq_true rfl, Nat.le_of_ble_eq_true rfl⟩) P0 hK rfl hl.1 rfl (Nat.le_of_ble_eq_true rfl) dX12_readsFactor_51 ⟨Nat.le_of_ble_eq_true rfl, Nat.le_of_ble_eq_true rfl⟩ hP hS (fun H locs hP hS => ?_)
          refine lv_istore_n (lv' := [(1, .int z6), (0, .ref h)]) hx hb dX12_readsFactor_54 rfl hl (by decide) rfl (fun ls hl => ?_)
          refine lv_iload_n hx hb dX12_readsFactor_55 rfl (lv_at hl 0 rfl) ?_
          refine lv_iconst (v := (-1)) hx hb dX12_readsFactor_56 (by decide) ?_
          refine lv_icmp_ne (tgt := 70) hx hb dX12_readsFactor_57 (by decide) (fun c7 => ?_) (fun c7 => ?_)
          · replace hf := ifn c7 hf
            refine lv_aload_n hx hb dX12_readsFactor_70 rfl (lv_at hl 1 rfl) ?_
            refine lv_iconst (v := 1) hx hb dX12_readsFactor_71 (by decide) ?_
            refine lv_iload_n hx hb dX12_readsFactor_72 rfl (lv_at hl 0 rfl) ?_
            obtain ⟨z8, hz8, hf⟩ := bnd hf
            have hFc9 := vaA_self hD hS hA
            refine cVMv (As := [.int 1, .int z6]) (rest := []) ⟨hx, hb, hml, hown, hts⟩ (mX12_notes l D T h a v _ 1 z6 z8 hz8) (cwV 2 hts gX12_readsFactor_X12_notes rfl rfl rfl (by decide +kernel) ⟨Nat.le_of_ble_eq_true rfl, Nat.le_of_ble_eq_true rfl⟩) (va_recv hK.1 hP (ci := 12) (q0 := 0) rfl rfl) hP hK rfl hl.1 rfl (Nat.le_of_ble_eq_true rfl) dX12_readsFactor_73 ⟨Nat.le_of_ble_eq_true rfl, Nat.le_of_ble_eq_true rfl⟩ hD hFc9 hS (fun H locs hP hD1 _ hS => ?_)
            have hD := hD1.weaken (fun _ _ _ h9 => hFc9 _ h9)
            refine lv_aload_n hx hb dX12_readsFactor_76 rfl (lv_at hl 1 rfl) ?_
            refine lv_aload_n hx hb dX12_readsFactor_77 rfl (lv_at hl 1 rfl) ?_
            refine va_get (D := D) (ci := 12) (v := .int (z8 7 0)) (C := RX12) (T := TX12) (N := 52) hx hb hts hinX12 hown hK.1 hP 0 rfl rfl 7 (by decide) (hts (.fieldLink RX12 126 "RopeScaleModel" "place0" "I") (List.mem_of_getElem? (i := 2) rfl)) (fun _ h9 => h9) rfl dX12_readsFactor_78 ?_
            refine lv_iconst (v := 1) hx hb dX12_readsFactor_81 (by decide) ?_
            refine lv_iadd hx hb dX12_readsFactor_82 ?_
            obtain ⟨u9, eu9, hf⟩ := lett_e hf
            refine va_put (D := D) (ci := 12) (v := .int ((z8 7 0) + 1)) (ty := .int) (C := RX12) (T := TX12) (N := 52) hx hb hts hinX12 tyX12 tyX12_ok nmX12 hown hK.1 hP hD hS 0 rfl rfl 7 (by decide) (hts (.fieldLink RX12 126 "RopeScaleModel" "place0" "I") (List.mem_of_getElem? (i := 2) rfl)) (fun _ h9 => h9) rfl (tyX12_ok 7 (by decide)) rfl rfl (Nat.le_of_ble_eq_true rfl) dX12_readsFactor_83 (fun H locs hP hD hS => ?_)
            have hP : va_P D vwCl (kX12 T h a u9) H := by rw [eu9]; exact hP
            have hD : va_D (va_A (kX12 T h a u) s.heap.size) (kX12 T h a u9) := by rw [eu9]; exact hD
            refine lv_iconst (v := 1) hx hb dX12_readsFactor_86 (by decide) ?_
            have e9 := Option.some.inj hf
            exact retMz hx hb hr hlocks hP hD hS rfl (congrArg (fun z => z.1) e9) (congrArg (fun z => (kX12 T h a z.2 : va_W)) e9) dX12_readsFactor_87
          replace hf := ifp c7 hf
          refine lv_aload_n hx hb dX12_readsFactor_60 rfl (lv_at hl 1 rfl) ?_
          refine lv_iconst (v := 1) hx hb dX12_readsFactor_61 (by decide) ?_
          refine lv_aload_n hx hb dX12_readsFactor_62 rfl (lv_at hl 1 rfl) ?_
          refine va_get (D := D) (ci := 12) (v := .int (v 7 0)) (C := RX12) (T := TX12) (N := 52) hx hb hts hinX12 hown hK.1 hP 0 rfl rfl 7 (by decide) (hts (.fieldLink RX12 126 "RopeScaleModel" "place0" "I") (List.mem_of_getElem? (i := 2) rfl)) (fun _ h9 => h9) rfl dX12_readsFactor_63 ?_
          obtain ⟨z10, hz10, hf⟩ := lett_e hf
          have hFc9 := vaA_self hD hS hA
          refine cVM (As := [.int 1, .int (v 7 0)]) (rest := []) ⟨hx, hb, hml, hown, hts⟩ (mX12_wrongAt l D T h a v _ 1 (v 7 0) z10 hz10.symm) (cwV 2 hts gX12_readsFactor_X12_wrongAt rfl rfl rfl (by decide +kernel) ⟨Nat.le_of_ble_eq_true rfl, Nat.le_of_ble_eq_true rfl⟩) (va_recv hK.1 hP (ci := 12) (q0 := 0) rfl rfl) hP hK rfl hl.1 rfl (Nat.le_of_ble_eq_true rfl) dX12_readsFactor_66 ⟨Nat.le_of_ble_eq_true rfl, Nat.le_of_ble_eq_true rfl⟩ hD hFc9 hS (fun H locs hP hD1 _ hS => ?_)
          have hD := hD1.weaken (fun _ _ _ h9 => hFc9 _ h9)
          obtain ⟨hz9, hf⟩ := zb_e hf
          have e9 := Option.some.inj hf
          exact retMz hx hb hr hlocks hP hD hS hz9 (congrArg (fun z => z.1) e9) (congrArg (fun z => (kX12 T h a z.2 : va_W)) e9) dX12_readsFactor_69
        replace hf := ifn c4 hf
        refine lv_aload_n hx hb dX12_readsFactor_27 rfl (lv_at hl 0 rfl) ?_
        obtain ⟨z11, hz11, hf⟩ := bnd hf
        have hFc9 := vaA_self hD hS hA
        refine cVM (As := []) (rest := []) ⟨hx, hb, hml, hown, hts⟩ (mX12_readsNumber l D T h a v _ z11 hz11) (cwV 0 hts gX12_readsFactor_X12_readsNumber rfl rfl rfl (by decide +kernel) ⟨Nat.le_of_ble_eq_true rfl, Nat.le_of_ble_eq_true rfl⟩) (va_recv hK.1 hP (ci := 12) (q0 := 0) rfl rfl) hP hK rfl hl.1 rfl (Nat.le_of_ble_eq_true rfl) dX12_readsFactor_28 ⟨Nat.le_of_ble_eq_true rfl, Nat.le_of_ble_eq_true rfl⟩ hD hFc9 hS (fun H locs hP hD1 _ hS => ?_)
        have hD := hD1.weaken (fun _ _ _ h9 => hFc9 _ h9)
        refine lv_if_ne (tgt := 36) hx hb dX12_readsFactor_31 (by decide) (fun c12 => ?_) (fun c12 => ?_)
        · replace hf := ifn c12 hf
          refine lv_aload_n hx hb dX12_readsFactor_36 rfl (lv_at hl 0 rfl) ?_
          refine lv_iconst (v := 0) hx hb dX12_readsFactor_37 (by decide) ?_
          refine lv_aload_n hx hb dX12_readsFactor_38 rfl (lv_at hl 0 rfl) ?_
          refine va_get (D := D) (ci := 12) (v := .int (z11.2 10 0)) (C := RX12) (T := TX12) (N := 52) hx hb hts hinX12 hown hK.1 hP 0 rfl rfl 10 (by decide) (hts (.fieldLink RX12 143 "RopeScaleModel" "number0" "I") (List.mem_of_getElem? (i := 1) rfl)) (fun _ h9 => h9) rfl dX12_readsFactor_39 ?_
          obtain ⟨z13, hz13, hf⟩ := bnd hf
          have hFc9 := vaA_self hD hS hA
          refine cVMv (As := [.int 0, .int (z11.2 10 0)]) (rest := []) ⟨hx, hb, hml, hown, hts⟩ (mX12_notes l D T h a z11.2 _ 0 (z11.2 10 0) z13 hz13) (cwV 2 hts gX12_readsFactor_X12_notes rfl rfl rfl (by decide +kernel) ⟨Nat.le_of_ble_eq_true rfl, Nat.le_of_ble_eq_true rfl⟩) (va_recv hK.1 hP (ci := 12) (q0 := 0) rfl rfl) hP hK rfl hl.1 rfl (Nat.le_of_ble_eq_true rfl) dX12_readsFactor_42 ⟨Nat.le_of_ble_eq_true rfl, Nat.le_of_ble_eq_true rfl⟩ hD hFc9 hS (fun H locs hP hD1 _ hS => ?_)
          have hD := hD1.weaken (fun _ _ _ h9 => hFc9 _ h9)
          refine lv_iconst (v := 1) hx hb dX12_readsFactor_45 (by decide) ?_
          have e9 := Option.some.inj hf
          exact retMz hx hb hr hlocks hP hD hS rfl (congrArg (fun z => z.1) e9) (congrArg (fun z => (kX12 T h a z.2 : va_W)) e9) dX12_readsFactor_46
        replace hf := ifp c12 hf
        refine lv_iconst (v := 0) hx hb dX12_readsFactor_34 (by decide) ?_
        have e9 := Option.some.inj hf
        exact retMz hx hb hr hlocks hP hD hS rfl (congrArg (fun z => z.1) e9) (congrArg (fun z => (kX12 T h a z.2 : va_W)) e9) dX12_readsFactor_35
      replace hf := ifp c2 hf
      refine lv_aload_n hx hb dX12_readsFactor_9 rfl (lv_at hl 0 rfl) ?_
      refine lv_bipush (v := 14) hx hb dX12_readsFactor_10 (by decide) ?_
      obtain ⟨z14, hz14, hf⟩ := bnd hf
      have hFc9 := vaA_self hD hS hA
      refine cVM (As := [.int 14]) (rest := []) ⟨hx, hb, hml, hown, hts⟩ (mX12_opens l D T h a v _ 14 z14 hz14) (cwV 1 hts gX12_readsFactor_X12_opens rfl rfl rfl (by decide +kernel) ⟨Nat.le_of_ble_eq_true rfl, Nat.le_of_ble_eq_true rfl⟩) (va_recv hK.1 hP (ci := 12) (q0 := 0) rfl rfl) hP hK rfl hl.1 rfl (Nat.le_of_ble_eq_true rfl) dX12_readsFactor_12 ⟨Nat.le_of_ble_eq_true rfl, Nat.le_of_ble_eq_true rfl⟩ hD hFc9 hS (fun H locs hP hD1 _ hS => ?_)
      have hD := hD1.weaken (fun _ _ _ h9 => hFc9 _ h9)
      refine lv_if_ne (tgt := 0) hx hb dX12_readsFactor_15 (by decide) (fun c15 => ?_) (fun c15 => ?_)
      · replace hf := ifn c15 hf
        exact ih0 z14.2 _ _ _ hf hP hD hS (lv_sub hl [0] rfl)
      replace hf := ifp c15 hf
      refine lv_iconst (v := 0) hx hb dX12_readsFactor_18 (by decide) ?_
      have e9 := Option.some.inj hf
      exact retMz hx hb hr hlocks hP hD hS rfl (congrArg (fun z => z.1) e9) (congrArg (fun z => (kX12 T h a z.2 : va_W)) e9) dX12_readsFactor_19
  unfold fX12_readsFactor at hf
  exact L0 FU u _ _ _ hf hP hD hS (lv_sub hl [0] rfl)
def bX12_hasOpenSum_L2 (u : St)  (lp2 : Int32 → Option (Int32)) (x2 : Int32) : Option (Int32) := if (u 13 0) ≤ x2 then some 0 else gd x2 260 <| if ((u 17 (ix x2)) / 1048576) = 14 then some 1 else lett (x2 + 1) fun t3 => lp2 t3
def fX12_hasOpenSum_L2 (u : St)  : Nat → Int32 → Option (Int32)
  | 0, _ => none
  | n + 1, x2 => bX12_hasOpenSum_L2 u (fX12_hasOpenSum_L2 u n) x2
def fX12_hasOpenSum  (u : St) (p1 : Int32) : Option (Int32) := fX12_hasOpenSum_L2 u FU p1
set_option maxHeartbeats 4000000 in
set_option maxRecDepth 100000 in
theorem mX12_hasOpenSum (l : Launch) (D : va_G) (T : Ty3) (h : Nat) (a : Nat → Nat) (u : St) (p1 : Int32) (res : Int32) (hf : fX12_hasOpenSum u p1 = some res) : Met l yX12_hasOpenSum wsX12_hasOpenSum ({ frames := 0, cells := 0, slots := 0, locals := 0 }) (PcR D T (kX12 T h a u) [.ref h, .int p1]) (QR res) 0 0 noA := by
  refine Met.ofW (cc := cX12_hasOpenSum) (maxL := 3) (ret := (some .boolean)) (by decide) rfl ?_
  intro p e s m args below meth c s₁ B hml hv
  obtain ⟨rfl, hP, hK⟩ := hv
  have hx := B.exec
  have hb := B.bytes
  have hr := B.returns
  have hts := atoms_spec (ws := wsX12_hasOpenSum) B.pre
  have hown : s.vm.findClass RX12 = some m.cls := findClass_of_methodNamed B.named
  have hlocks := B.notSynchronized
  have hS : va_S noA s.heap s.heap [] := va_S.rf
  have hinX12 : ∀ w ∈ u_ws RX12 TX12 52, w ∈ wsX12_hasOpenSum := fun w h => List.mem_cons_of_mem _ (List.mem_append_right _ h)
  have hl := lv_entry ([.ref h, .int p1]) (n := 3) (Nat.le_of_ble_eq_true rfl)
  rw [lg_entry_eq]
  generalize (lg_sl ([.ref h, .int p1]) ++ List.replicate (3 - (lg_sl ([.ref h, .int p1])).length) Slot.unset).toArray = ls at hl ⊢
  have hl : lv_has ls 3 [(0, .ref h), (1, .int p1)] := hl
  have L2 : ∀ (n2 : Nat), ∀ (x2 : Int32) (H : Heap) (locs : List Loc) (ls : Array Slot), fX12_hasOpenSum_L2 u n2 x2 = some res → va_P D vwCl (kX12 T h a u) H → va_S noA s.heap H locs → lv_has ls 3 [(0, .ref h), (2, .int x2)] → W p l e (headSpec wsX12_hasOpenSum ({ frames := 0, cells := 0, slots := 0, locals := 0 })).room s m ([.ref h, .int p1] : List Value).toArray below meth c H locs 0 0 (MQ below (QR res) ([.ref h, .int p1] : List Value).toArray s 0 0 noA) (F0 m 2 ls []) := by
    intro n2
    induction n2 with
    | zero => intro x2 H locs ls hf; exact nns hf
    | succ n2 ih2 =>
      intro x2 H locs ls hf hP hS hl
      replace hf : bX12_hasOpenSum_L2 u (fX12_hasOpenSum_L2 u n2) x2 = some res := hf
      unfold bX12_hasOpenSum_L2 at hf
      refine lv_iload_n hx hb dX12_hasOpenSum_2 rfl (lv_at hl 1 rfl) ?_
      refine lv_aload_n hx hb dX12_hasOpenSum_3 rfl (lv_at hl 0 rfl) ?_
      refine va_get (D := D) (ci := 12) (v := .int (u 13 0)) (C := RX12) (T := TX12) (N := 52) hx hb hts hinX12 hown hK.1 hP 0 rfl rfl 13 (by decide) (hts (.fieldLink RX12 157 "RopeScaleModel" "waiting" "I") (List.mem_of_getElem? (i := 1) rfl)) (fun _ h9 => h9) rfl dX12_hasOpenSum_4 ?_
      refine lv_icmp_ge (tgt := 32) hx hb dX12_hasOpenSum_7 (by decide) (fun c1 => ?_) (fun c1 => ?_)
      · replace hf := ifp c1 hf
        refine lv_iconst (v := 0) hx hb dX12_hasOpenSum_32 (by decide) ?_
        exact retRz hx hb hr hlocks hS rfl (Option.some.inj hf) dX12_hasOpenSum_33
      replace hf := ifn c1 hf
      refine lv_aload_n hx hb dX12_hasOpenSum_10 rfl (lv_at hl 0 rfl) ?_
      refine va_get (D := D) (ci := 12) (v := .ref (a 17)) (C := RX12) (T := TX12) (N := 52) hx hb hts hinX12 hown hK.1 hP 0 rfl rfl 17 (by decide) (hts (.fieldLink RX12 26 "RopeScaleModel" "waitsAt" "[I") (List.mem_of_getElem? (i := 2) rfl)) (fun _ h9 => h9) rfl dX12_hasOpenSum_11 ?_
      refine lv_iload_n hx hb dX12_hasOpenSum_14 rfl (lv_at hl 1 rfl) ?_
      obtain ⟨h4, hf⟩ := gd_e hf
      refine va_iald hx hb hK.1 hP 6 0 rfl rfl h4 dX12_hasOpenSum_15 ?_
      refine lv_ldc (v := 1048576) hx hb hown (hts (.constant RX12 153 (1048576)) (List.mem_of_getElem? (i := 3) rfl)) dX12_hasOpenSum_16 ?_
      refine lv_idiv hx hb dX12_hasOpenSum_18 (by decide) ?_
      refine lv_bipush (v := 14) hx hb dX12_hasOpenSum_19 (by decide) ?_
      refine lv_icmp_ne (tgt := 26) hx hb dX12_hasOpenSum_21 (by decide) (fun c2 => ?_) (fun c2 => ?_)
      · replace hf := ifn c2 hf
        obtain ⟨t3, et3, hf⟩ := lett_e hf
        refine lv_iinc (v := t3) (lv' := [(2, .int t3), (0, .ref h)]) hx hb dX12_hasOpenSum_26 hl (k := 1) rfl (by rw [et3]; rfl) (by decide) rfl (fun ls hl => ?_)
        refine lv_goto (tgt := 2) hx hb dX12_hasOpenSum_29 (by decide) ?_
        exact ih2 t3 _ _ _ hf hP hS (lv_sub hl [1, 0] rfl)
      replace hf := ifp c2 hf
      refine lv_iconst (v := 1) hx hb dX12_hasOpenSum_24 (by decide) ?_
      exact retRz hx hb hr hlocks hS rfl (Option.some.inj hf) dX12_hasOpenSum_25
  unfold fX12_hasOpenSum at hf
  refine lv_iload_n hx hb dX12_hasOpenSum_0 rfl (lv_at hl 1 rfl) ?_
  refine lv_istore_n (lv' := [(2, .int p1), (0, .ref h), (1, .int p1)]) hx hb dX12_hasOpenSum_1 rfl hl (by decide) rfl (fun ls hl => ?_)
  exact L2 FU p1 _ _ _ hf hP hS (lv_sub hl [1, 0] rfl)
