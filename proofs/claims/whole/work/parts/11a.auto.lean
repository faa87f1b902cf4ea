/-! ===== for simp: numbers of the machine as numbers ===== -/
theorem l_0 : (0 : Int32) = nI 0 := rfl
theorem l_1 : (1 : Int32) = nI 1 := rfl
theorem l_2 : (2 : Int32) = nI 2 := rfl
theorem l_3 : (3 : Int32) = nI 3 := rfl
theorem l_4 : (4 : Int32) = nI 4 := rfl
theorem l_5 : (5 : Int32) = nI 5 := rfl
theorem l_6 : (6 : Int32) = nI 6 := rfl
theorem l_7 : (7 : Int32) = nI 7 := rfl
theorem l_8 : (8 : Int32) = nI 8 := rfl
theorem l_9 : (9 : Int32) = nI 9 := rfl
theorem l_10 : (10 : Int32) = nI 10 := rfl
theorem l_11 : (11 : Int32) = nI 11 := rfl
theorem l_12 : (12 : Int32) = nI 12 := rfl
theorem l_15 : (15 : Int32) = nI 15 := rfl
theorem l_16 : (16 : Int32) = nI 16 := rfl
theorem l_20 : (20 : Int32) = nI 20 := rfl
theorem l_24 : (24 : Int32) = nI 24 := rfl
theorem l_32 : (32 : Int32) = nI 32 := rfl
theorem l_37 : (37 : Int32) = nI 37 := rfl
theorem l_38 : (38 : Int32) = nI 38 := rfl
theorem l_40 : (40 : Int32) = nI 40 := rfl
theorem l_41 : (41 : Int32) = nI 41 := rfl
theorem l_42 : (42 : Int32) = nI 42 := rfl
theorem l_43 : (43 : Int32) = nI 43 := rfl
theorem l_45 : (45 : Int32) = nI 45 := rfl
theorem l_47 : (47 : Int32) = nI 47 := rfl
theorem l_48 : (48 : Int32) = nI 48 := rfl
theorem l_57 : (57 : Int32) = nI 57 := rfl
theorem l_59 : (59 : Int32) = nI 59 := rfl
theorem l_60 : (60 : Int32) = nI 60 := rfl
theorem l_61 : (61 : Int32) = nI 61 := rfl
theorem l_62 : (62 : Int32) = nI 62 := rfl
theorem l_63 : (63 : Int32) = nI 63 := rfl
theorem l_64 : (64 : Int32) = nI 64 := rfl
theorem l_80 : (80 : Int32) = nI 80 := rfl
theorem l_91 : (91 : Int32) = nI 91 := rfl
theorem l_93 : (93 : Int32) = nI 93 := rfl
theorem l_96 : (96 : Int32) = nI 96 := rfl
theorem l_97 : (97 : Int32) = nI 97 := rfl
theorem l_98 : (98 : Int32) = nI 98 := rfl
theorem l_99 : (99 : Int32) = nI 99 := rfl
theorem l_100 : (100 : Int32) = nI 100 := rfl
theorem l_101 : (101 : Int32) = nI 101 := rfl
theorem l_102 : (102 : Int32) = nI 102 := rfl
theorem l_103 : (103 : Int32) = nI 103 := rfl
theorem l_108 : (108 : Int32) = nI 108 := rfl
theorem l_110 : (110 : Int32) = nI 110 := rfl
theorem l_114 : (114 : Int32) = nI 114 := rfl
theorem l_119 : (119 : Int32) = nI 119 := rfl
theorem l_120 : (120 : Int32) = nI 120 := rfl
theorem l_124 : (124 : Int32) = nI 124 := rfl
theorem l_200 : (200 : Int32) = nI 200 := rfl
theorem l_240 : (240 : Int32) = nI 240 := rfl
theorem l_255 : (255 : Int32) = nI 255 := rfl
theorem l_256 : (256 : Int32) = nI 256 := rfl
theorem l_260 : (260 : Int32) = nI 260 := rfl
theorem l_999 : (999 : Int32) = nI 999 := rfl
theorem l_1000 : (1000 : Int32) = nI 1000 := rfl
theorem l_1023 : (1023 : Int32) = nI 1023 := rfl
theorem l_2040 : (2040 : Int32) = nI 2040 := rfl
theorem l_4080 : (4080 : Int32) = nI 4080 := rfl
theorem l_6375 : (6375 : Int32) = nI 6375 := rfl
theorem l_9999 : (9999 : Int32) = nI 9999 := rfl
theorem l_13849 : (13849 : Int32) = nI 13849 := rfl
theorem l_25173 : (25173 : Int32) = nI 25173 := rfl
theorem l_65535 : (65535 : Int32) = nI 65535 := rfl
theorem l_65536 : (65536 : Int32) = nI 65536 := rfl
theorem l_99999 : (99999 : Int32) = nI 99999 := rfl
theorem l_1000000 : (1000000 : Int32) = nI 1000000 := rfl
theorem l_1048576 : (1048576 : Int32) = nI 1048576 := rfl
theorem c_le {a b : Nat} (ha : a < 2147483648) (hb : b < 2147483648) : (nI a ≤ nI b) = (a ≤ b) := propext (nI_leI (by omega) (by omega))
theorem c_lt {a b : Nat} (ha : a < 2147483648) (hb : b < 2147483648) : (nI a < nI b) = (a < b) := propext (nI_ltI (by omega) (by omega))
theorem c_eq {a b : Nat} (ha : a < 2147483648) (hb : b < 2147483648) : (nI a = nI b) = (a = b) := propext (nI_eq (by omega) (by omega))
theorem b01_0 (b : Bool) : (nI (b01 b) = nI 0) = (b = false) := by cases b <;> simp [b01] <;> decide
theorem b01_1 (b : Bool) : (nI (b01 b) = nI 1) = (b = true) := by cases b <;> simp [b01] <;> decide
theorem lett_s {α β : Type} (x : α) (k : α → β) : lett x k = k x := rfl
theorem sub_n {a b : Nat} (h : b ≤ a) : nI a - nI b = nI (a - b) := pk_sub h
theorem ft : (false = true) = False := by simp
theorem tf : (true = false) = False := by simp
theorem m1_n {n : Nat} (h : 1 ≤ n) : nI n + (-1) = nI (n - 1) := by
  obtain ⟨m, rfl⟩ : ∃ m, n = m + 1 := ⟨n - 1, by omega⟩
  rw [pk_m1]; rfl
theorem div_n {a d : Nat} (ha : a < 2147483648) (h0 : 0 < d) (hd : d < 2147483648) : nI a / nI d = nI (a / d) := pk_div (by omega) h0 (by omega)
theorem rem_n {a d : Nat} (ha : a < 2147483648) (h0 : 0 < d) (hd : d < 2147483648) : jrem (nI a) (nI d) = nI (a % d) := pk_rem (by omega) h0 (by omega)
theorem neg_lt {n : Nat} : ¬ nI n < 0 → True := fun _ => trivial
theorem nlt0 {n : Nat} (h : n < 2147483648) : ¬ nI n < 0 := nI_pos (by omega)
