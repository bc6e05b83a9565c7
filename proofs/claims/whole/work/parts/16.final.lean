/-! THE CELLS behind the two makings: the references stand for good -/
def mj_M0 : mj_M := (0, fun _ _ => none, fun _ _ => 0, fun _ _ => 0)
def mj_ini (N : Nat) : Option mj_M := mj_ck (mj_fc mj_M0 8) (mj_mw (mj_new mj_M0) (fun m1 => (f_X8_init_I N 0 m1).bind (fun m2 => mj_ck (decide (m2.1 = 95) && mj_fc m2 9) (mj_mw (mj_new m2) (fun m3 => f_X9_init_I N 95 m3)))))
def mj_M1 : mj_M := (mj_ini 5000).getD mj_M0
theorem mj_RF_ex : ∃ R : Nat → Nat → Option Nat, R = mj_M1.2.1 := ⟨_, rfl⟩
noncomputable def mj_RF : Nat → Nat → Option Nat := Classical.choose mj_RF_ex
theorem mj_RF_eq : mj_RF = mj_M1.2.1 := Classical.choose_spec mj_RF_ex
abbrev mj_m : Type := (Nat → Nat → Int32) × (Nat → Nat → Int64)
def mj_m1 : mj_m := (mj_M1.2.2.1, mj_M1.2.2.2)
noncomputable def mj_fin (m : mj_m) : mj_M := (128, mj_RF, m.1, m.2)
theorem mj_ini_n : (mj_ini 5000).map (fun M => M.1) = some 128 := by decide +kernel
theorem mj_ini_ok : mj_ini 5000 = some (mj_fin mj_m1) := by
  have h := mj_ini_n
  cases hi : mj_ini 5000 with
  | none => rw [hi] at h; cases h
  | some M =>
    rw [hi] at h
    have h1 : M.1 = 128 := Option.some.inj h
    have h2 : mj_M1 = M := by unfold mj_M1; rw [hi]; rfl
    unfold mj_fin mj_m1
    rw [mj_RF_eq, h2, ← h1]
def mj_rfl : List (Nat × Nat × Nat) := [(0, 0, 1), (0, 1, 18), (0, 2, 35), (0, 3, 36), (0, 4, 45), (0, 5, 48), (0, 6, 55), (0, 7, 75), (0, 8, 77), (0, 9, 78), (1, 0, 2), (1, 1, 3), (1, 2, 4), (1, 3, 5), (1, 4, 6), (1, 5, 7), (4, 0, 8), (4, 1, 9), (4, 2, 10), (4, 3, 11), (4, 4, 12), (4, 5, 13), (4, 6, 14), (4, 7, 15), (4, 8, 16), (4, 9, 17), (18, 0, 19), (18, 1, 20), (18, 2, 21), (18, 3, 22), (18, 4, 23), (18, 5, 24), (21, 0, 25), (21, 1, 26), (21, 2, 27), (21, 3, 28), (21, 4, 29), (21, 5, 30), (21, 6, 31), (21, 7, 32), (21, 8, 33), (21, 9, 34), (35, 0, 79), (35, 1, 81), (35, 2, 83), (35, 3, 85), (35, 4, 87), (35, 5, 89), (35, 6, 91), (35, 7, 93), (36, 0, 1), (36, 1, 37), (36, 2, 38), (36, 3, 39), (36, 4, 40), (36, 5, 41), (36, 6, 42), (36, 7, 43), (36, 8, 44), (45, 0, 1), (45, 1, 36), (45, 2, 46), (45, 3, 47), (48, 0, 1), (48, 1, 36), (48, 2, 45), (48, 3, 49), (48, 4, 50), (48, 5, 51), (48, 6, 52), (48, 7, 53), (48, 8, 54), (55, 0, 1), (55, 1, 56), (55, 2, 73), (55, 3, 74), (56, 0, 57), (56, 1, 58), (56, 2, 59), (56, 3, 60), (56, 4, 61), (56, 5, 62), (59, 0, 63), (59, 1, 64), (59, 2, 65), (59, 3, 66), (59, 4, 67), (59, 5, 68), (59, 6, 69), (59, 7, 70), (59, 8, 71), (59, 9, 72), (75, 0, 76), (79, 0, 80), (81, 0, 82), (83, 0, 84), (85, 0, 86), (87, 0, 88), (89, 0, 90), (91, 0, 92), (93, 0, 94), (95, 11, 96), (95, 12, 97), (95, 13, 98), (95, 14, 99), (95, 15, 100), (95, 16, 101), (95, 17, 102), (95, 18, 103), (95, 19, 104), (95, 20, 105), (95, 21, 106), (95, 22, 107), (95, 23, 108), (95, 24, 109), (95, 25, 110), (95, 26, 111), (95, 27, 112), (95, 28, 113), (95, 29, 114), (95, 30, 115), (95, 31, 116), (95, 32, 117), (95, 38, 118), (95, 39, 119), (95, 40, 120), (95, 41, 121), (95, 42, 122), (95, 43, 123), (95, 45, 124), (95, 49, 125), (95, 50, 126), (95, 53, 127)]
theorem mj_rfl_ok : ∀ e ∈ mj_rfl, mj_RF e.1 e.2.1 = some e.2.2 := by
  rw [mj_RF_eq]
  decide +kernel
def mj_o (c a : Nat) : Bool := decide (a < 128) && decide (mj_sh a = (c + 10, mj_N c))
def mj_b (kd a : Nat) (i : Int32) : Bool := decide (a < 128) && (decide ((mj_sh a).1 = kd) && (decide (0 ≤ i.toInt) && decide (i.toInt < ((mj_sh a).2 : Int))))
def mj_p (kd h0 h1 : Nat) (sp dp n : Int32) : Bool := decide (h0 < 128) && (decide (h1 < 128) && (decide ((mj_sh h0).1 = kd) && (decide ((mj_sh h1).1 = kd) && (decide (0 ≤ sp.toInt) && (decide (0 ≤ dp.toInt) && (decide (0 ≤ n.toInt) && (decide (sp.toInt + n.toInt ≤ ((mj_sh h0).2 : Int)) && decide (dp.toInt + n.toInt ≤ ((mj_sh h1).2 : Int)))))))))
def mj_ar (kd a : Nat) : Bool := decide (a < 128) && decide ((mj_sh a).1 = kd)
theorem mj_ar_use {kd a : Nat} (h : mj_ar kd a = true) : a < 128 ∧ (mj_sh a).1 = kd := by
  simp only [mj_ar, Bool.and_eq_true, decide_eq_true_eq] at h
  exact h
def mj_wI (m : mj_m) (h k : Nat) (v : Int32) : mj_m := (mj_up m.1 h k v, m.2)
def mj_wL (m : mj_m) (h k : Nat) (v : Int64) : mj_m := (m.1, mj_up m.2 h k v)
def mj_kI (m : mj_m) (h0 h1 sp dp n : Nat) : mj_m := (mj_cpy m.1 h0 h1 sp dp n, m.2)
def mj_kL (m : mj_m) (h0 h1 sp dp n : Nat) : mj_m := (m.1, mj_cpy m.2 h0 h1 sp dp n)
def mj_xb (L : Nat) (i : Int32) : Bool := decide (0 ≤ i.toInt) && decide (i.toInt < (L : Int))
def mj_ab (i : Int32) : Bool := decide (0 ≤ i.toInt) && decide (i.toInt < 7)
theorem mj_xb_use {L : Nat} {xs : Nat → Int32} {i : Int32} (h : mj_xb L i = true) : vp_in i (mj_EX L xs 9000).1 := by
  simp only [mj_xb, Bool.and_eq_true, decide_eq_true_eq] at h
  exact vp_in_iff.mpr h
theorem mj_ab_use {L : Nat} {xs : Nat → Int32} {i : Int32} (h : mj_ab i = true) : vp_in i (mj_EX L xs 9001).1 := by
  simp only [mj_ab, Bool.and_eq_true, decide_eq_true_eq] at h
  exact vp_in_iff.mpr h
theorem mj_sAll : ∀ a, a < 128 → mj_sh a = (16, 4) → mj_RF a 0 = some (a + 1) := by
  rw [mj_RF_eq]
  decide +kernel
theorem mj_RFs {a : Nat} (h : mj_o 6 a = true) : mj_RF a 0 = some (a + 1) := by
  simp only [mj_o, Bool.and_eq_true, decide_eq_true_eq] at h
  exact mj_sAll a h.1 h.2
theorem mj_hs4_all : ∀ j, j < 10 → mj_RF 4 j = some (8 + j) ∧ mj_o 1 (8 + j) = true := by
  rw [mj_RF_eq]
  decide +kernel
theorem mj_hs4 {i : Int32} (h : mj_b 2 4 i = true) : mj_RF 4 i.toNatClampNeg = some (8 + i.toNatClampNeg) ∧ mj_o 1 (8 + i.toNatClampNeg) = true := by
  simp only [mj_b, Bool.and_eq_true, decide_eq_true_eq] at h
  refine mj_hs4_all i.toNatClampNeg ?_
  have h1 := mj_nc h.2.2.1
  have h2 : ((mj_sh 4).2 : Int) = 10 := rfl
  omega
theorem mj_hs21_all : ∀ j, j < 10 → mj_RF 21 j = some (25 + j) ∧ mj_o 1 (25 + j) = true := by
  rw [mj_RF_eq]
  decide +kernel
theorem mj_hs21 {i : Int32} (h : mj_b 2 21 i = true) : mj_RF 21 i.toNatClampNeg = some (25 + i.toNatClampNeg) ∧ mj_o 1 (25 + i.toNatClampNeg) = true := by
  simp only [mj_b, Bool.and_eq_true, decide_eq_true_eq] at h
  refine mj_hs21_all i.toNatClampNeg ?_
  have h1 := mj_nc h.2.2.1
  have h2 : ((mj_sh 21).2 : Int) = 10 := rfl
  omega
theorem mj_hs59_all : ∀ j, j < 10 → mj_RF 59 j = some (63 + j) ∧ mj_o 1 (63 + j) = true := by
  rw [mj_RF_eq]
  decide +kernel
theorem mj_hs59 {i : Int32} (h : mj_b 2 59 i = true) : mj_RF 59 i.toNatClampNeg = some (63 + i.toNatClampNeg) ∧ mj_o 1 (63 + i.toNatClampNeg) = true := by
  simp only [mj_b, Bool.and_eq_true, decide_eq_true_eq] at h
  refine mj_hs59_all i.toNatClampNeg ?_
  have h1 := mj_nc h.2.2.1
  have h2 : ((mj_sh 59).2 : Int) = 10 := rfl
  omega
theorem mj_hs35_all : ∀ j, j < 8 → mj_RF 35 j = some (79 + 2 * j) ∧ mj_o 6 (79 + 2 * j) = true := by
  rw [mj_RF_eq]
  decide +kernel
theorem mj_hs35 {i : Int32} (h : mj_b 3 35 i = true) : mj_RF 35 i.toNatClampNeg = some (79 + 2 * i.toNatClampNeg) ∧ mj_o 6 (79 + 2 * i.toNatClampNeg) = true := by
  simp only [mj_b, Bool.and_eq_true, decide_eq_true_eq] at h
  refine mj_hs35_all i.toNatClampNeg ?_
  have h1 := mj_nc h.2.2.1
  have h2 : ((mj_sh 35).2 : Int) = 8 := rfl
  omega
theorem ho_0 : mj_o 8 0 = true := by decide +kernel
theorem ho_1 : mj_o 7 1 = true := by decide +kernel
theorem ho_8 : mj_o 1 8 = true := by decide +kernel
theorem ho_9 : mj_o 1 9 = true := by decide +kernel
theorem ho_10 : mj_o 1 10 = true := by decide +kernel
theorem ho_11 : mj_o 1 11 = true := by decide +kernel
theorem ho_12 : mj_o 1 12 = true := by decide +kernel
theorem ho_13 : mj_o 1 13 = true := by decide +kernel
theorem ho_14 : mj_o 1 14 = true := by decide +kernel
theorem ho_15 : mj_o 1 15 = true := by decide +kernel
theorem ho_16 : mj_o 1 16 = true := by decide +kernel
theorem ho_17 : mj_o 1 17 = true := by decide +kernel
theorem ho_18 : mj_o 7 18 = true := by decide +kernel
theorem ho_25 : mj_o 1 25 = true := by decide +kernel
theorem ho_26 : mj_o 1 26 = true := by decide +kernel
theorem ho_27 : mj_o 1 27 = true := by decide +kernel
theorem ho_28 : mj_o 1 28 = true := by decide +kernel
theorem ho_29 : mj_o 1 29 = true := by decide +kernel
theorem ho_30 : mj_o 1 30 = true := by decide +kernel
theorem ho_31 : mj_o 1 31 = true := by decide +kernel
theorem ho_32 : mj_o 1 32 = true := by decide +kernel
theorem ho_33 : mj_o 1 33 = true := by decide +kernel
theorem ho_34 : mj_o 1 34 = true := by decide +kernel
theorem ho_36 : mj_o 2 36 = true := by decide +kernel
theorem ho_45 : mj_o 3 45 = true := by decide +kernel
theorem ho_48 : mj_o 4 48 = true := by decide +kernel
theorem ho_55 : mj_o 5 55 = true := by decide +kernel
theorem ho_56 : mj_o 7 56 = true := by decide +kernel
theorem ho_63 : mj_o 1 63 = true := by decide +kernel
theorem ho_64 : mj_o 1 64 = true := by decide +kernel
theorem ho_65 : mj_o 1 65 = true := by decide +kernel
theorem ho_66 : mj_o 1 66 = true := by decide +kernel
theorem ho_67 : mj_o 1 67 = true := by decide +kernel
theorem ho_68 : mj_o 1 68 = true := by decide +kernel
theorem ho_69 : mj_o 1 69 = true := by decide +kernel
theorem ho_70 : mj_o 1 70 = true := by decide +kernel
theorem ho_71 : mj_o 1 71 = true := by decide +kernel
theorem ho_72 : mj_o 1 72 = true := by decide +kernel
theorem ho_75 : mj_o 0 75 = true := by decide +kernel
theorem ho_79 : mj_o 6 79 = true := by decide +kernel
theorem ho_81 : mj_o 6 81 = true := by decide +kernel
theorem ho_83 : mj_o 6 83 = true := by decide +kernel
theorem ho_85 : mj_o 6 85 = true := by decide +kernel
theorem ho_87 : mj_o 6 87 = true := by decide +kernel
theorem ho_89 : mj_o 6 89 = true := by decide +kernel
theorem ho_91 : mj_o 6 91 = true := by decide +kernel
theorem ho_93 : mj_o 6 93 = true := by decide +kernel
theorem ho_95 : mj_o 9 95 = true := by decide +kernel
theorem rf_0_0 : mj_RF 0 0 = some 1 := mj_rfl_ok (0, 0, 1) (List.mem_of_getElem? (i := 0) rfl)
theorem rf_0_1 : mj_RF 0 1 = some 18 := mj_rfl_ok (0, 1, 18) (List.mem_of_getElem? (i := 1) rfl)
theorem rf_0_2 : mj_RF 0 2 = some 35 := mj_rfl_ok (0, 2, 35) (List.mem_of_getElem? (i := 2) rfl)
theorem rf_0_3 : mj_RF 0 3 = some 36 := mj_rfl_ok (0, 3, 36) (List.mem_of_getElem? (i := 3) rfl)
theorem rf_0_4 : mj_RF 0 4 = some 45 := mj_rfl_ok (0, 4, 45) (List.mem_of_getElem? (i := 4) rfl)
theorem rf_0_5 : mj_RF 0 5 = some 48 := mj_rfl_ok (0, 5, 48) (List.mem_of_getElem? (i := 5) rfl)
theorem rf_0_6 : mj_RF 0 6 = some 55 := mj_rfl_ok (0, 6, 55) (List.mem_of_getElem? (i := 6) rfl)
theorem rf_0_7 : mj_RF 0 7 = some 75 := mj_rfl_ok (0, 7, 75) (List.mem_of_getElem? (i := 7) rfl)
theorem rf_0_8 : mj_RF 0 8 = some 77 := mj_rfl_ok (0, 8, 77) (List.mem_of_getElem? (i := 8) rfl)
theorem rf_0_9 : mj_RF 0 9 = some 78 := mj_rfl_ok (0, 9, 78) (List.mem_of_getElem? (i := 9) rfl)
theorem rf_1_0 : mj_RF 1 0 = some 2 := mj_rfl_ok (1, 0, 2) (List.mem_of_getElem? (i := 10) rfl)
theorem rf_1_1 : mj_RF 1 1 = some 3 := mj_rfl_ok (1, 1, 3) (List.mem_of_getElem? (i := 11) rfl)
theorem rf_1_2 : mj_RF 1 2 = some 4 := mj_rfl_ok (1, 2, 4) (List.mem_of_getElem? (i := 12) rfl)
theorem rf_1_3 : mj_RF 1 3 = some 5 := mj_rfl_ok (1, 3, 5) (List.mem_of_getElem? (i := 13) rfl)
theorem rf_1_4 : mj_RF 1 4 = some 6 := mj_rfl_ok (1, 4, 6) (List.mem_of_getElem? (i := 14) rfl)
theorem rf_1_5 : mj_RF 1 5 = some 7 := mj_rfl_ok (1, 5, 7) (List.mem_of_getElem? (i := 15) rfl)
theorem rf_18_0 : mj_RF 18 0 = some 19 := mj_rfl_ok (18, 0, 19) (List.mem_of_getElem? (i := 26) rfl)
theorem rf_18_1 : mj_RF 18 1 = some 20 := mj_rfl_ok (18, 1, 20) (List.mem_of_getElem? (i := 27) rfl)
theorem rf_18_2 : mj_RF 18 2 = some 21 := mj_rfl_ok (18, 2, 21) (List.mem_of_getElem? (i := 28) rfl)
theorem rf_18_3 : mj_RF 18 3 = some 22 := mj_rfl_ok (18, 3, 22) (List.mem_of_getElem? (i := 29) rfl)
theorem rf_18_4 : mj_RF 18 4 = some 23 := mj_rfl_ok (18, 4, 23) (List.mem_of_getElem? (i := 30) rfl)
theorem rf_18_5 : mj_RF 18 5 = some 24 := mj_rfl_ok (18, 5, 24) (List.mem_of_getElem? (i := 31) rfl)
theorem rf_36_0 : mj_RF 36 0 = some 1 := mj_rfl_ok (36, 0, 1) (List.mem_of_getElem? (i := 50) rfl)
theorem rf_36_1 : mj_RF 36 1 = some 37 := mj_rfl_ok (36, 1, 37) (List.mem_of_getElem? (i := 51) rfl)
theorem rf_36_2 : mj_RF 36 2 = some 38 := mj_rfl_ok (36, 2, 38) (List.mem_of_getElem? (i := 52) rfl)
theorem rf_36_3 : mj_RF 36 3 = some 39 := mj_rfl_ok (36, 3, 39) (List.mem_of_getElem? (i := 53) rfl)
theorem rf_36_4 : mj_RF 36 4 = some 40 := mj_rfl_ok (36, 4, 40) (List.mem_of_getElem? (i := 54) rfl)
theorem rf_36_5 : mj_RF 36 5 = some 41 := mj_rfl_ok (36, 5, 41) (List.mem_of_getElem? (i := 55) rfl)
theorem rf_36_6 : mj_RF 36 6 = some 42 := mj_rfl_ok (36, 6, 42) (List.mem_of_getElem? (i := 56) rfl)
theorem rf_36_7 : mj_RF 36 7 = some 43 := mj_rfl_ok (36, 7, 43) (List.mem_of_getElem? (i := 57) rfl)
theorem rf_36_8 : mj_RF 36 8 = some 44 := mj_rfl_ok (36, 8, 44) (List.mem_of_getElem? (i := 58) rfl)
theorem rf_45_0 : mj_RF 45 0 = some 1 := mj_rfl_ok (45, 0, 1) (List.mem_of_getElem? (i := 59) rfl)
theorem rf_45_1 : mj_RF 45 1 = some 36 := mj_rfl_ok (45, 1, 36) (List.mem_of_getElem? (i := 60) rfl)
theorem rf_45_2 : mj_RF 45 2 = some 46 := mj_rfl_ok (45, 2, 46) (List.mem_of_getElem? (i := 61) rfl)
theorem rf_45_3 : mj_RF 45 3 = some 47 := mj_rfl_ok (45, 3, 47) (List.mem_of_getElem? (i := 62) rfl)
theorem rf_48_0 : mj_RF 48 0 = some 1 := mj_rfl_ok (48, 0, 1) (List.mem_of_getElem? (i := 63) rfl)
theorem rf_48_1 : mj_RF 48 1 = some 36 := mj_rfl_ok (48, 1, 36) (List.mem_of_getElem? (i := 64) rfl)
theorem rf_48_2 : mj_RF 48 2 = some 45 := mj_rfl_ok (48, 2, 45) (List.mem_of_getElem? (i := 65) rfl)
theorem rf_48_3 : mj_RF 48 3 = some 49 := mj_rfl_ok (48, 3, 49) (List.mem_of_getElem? (i := 66) rfl)
theorem rf_48_4 : mj_RF 48 4 = some 50 := mj_rfl_ok (48, 4, 50) (List.mem_of_getElem? (i := 67) rfl)
theorem rf_48_5 : mj_RF 48 5 = some 51 := mj_rfl_ok (48, 5, 51) (List.mem_of_getElem? (i := 68) rfl)
theorem rf_48_6 : mj_RF 48 6 = some 52 := mj_rfl_ok (48, 6, 52) (List.mem_of_getElem? (i := 69) rfl)
theorem rf_48_7 : mj_RF 48 7 = some 53 := mj_rfl_ok (48, 7, 53) (List.mem_of_getElem? (i := 70) rfl)
theorem rf_48_8 : mj_RF 48 8 = some 54 := mj_rfl_ok (48, 8, 54) (List.mem_of_getElem? (i := 71) rfl)
theorem rf_55_0 : mj_RF 55 0 = some 1 := mj_rfl_ok (55, 0, 1) (List.mem_of_getElem? (i := 72) rfl)
theorem rf_55_1 : mj_RF 55 1 = some 56 := mj_rfl_ok (55, 1, 56) (List.mem_of_getElem? (i := 73) rfl)
theorem rf_55_2 : mj_RF 55 2 = some 73 := mj_rfl_ok (55, 2, 73) (List.mem_of_getElem? (i := 74) rfl)
theorem rf_55_3 : mj_RF 55 3 = some 74 := mj_rfl_ok (55, 3, 74) (List.mem_of_getElem? (i := 75) rfl)
theorem rf_56_0 : mj_RF 56 0 = some 57 := mj_rfl_ok (56, 0, 57) (List.mem_of_getElem? (i := 76) rfl)
theorem rf_56_1 : mj_RF 56 1 = some 58 := mj_rfl_ok (56, 1, 58) (List.mem_of_getElem? (i := 77) rfl)
theorem rf_56_2 : mj_RF 56 2 = some 59 := mj_rfl_ok (56, 2, 59) (List.mem_of_getElem? (i := 78) rfl)
theorem rf_56_3 : mj_RF 56 3 = some 60 := mj_rfl_ok (56, 3, 60) (List.mem_of_getElem? (i := 79) rfl)
theorem rf_56_4 : mj_RF 56 4 = some 61 := mj_rfl_ok (56, 4, 61) (List.mem_of_getElem? (i := 80) rfl)
theorem rf_56_5 : mj_RF 56 5 = some 62 := mj_rfl_ok (56, 5, 62) (List.mem_of_getElem? (i := 81) rfl)
theorem rf_75_0 : mj_RF 75 0 = some 76 := mj_rfl_ok (75, 0, 76) (List.mem_of_getElem? (i := 92) rfl)
theorem rf_79_0 : mj_RF 79 0 = some 80 := mj_rfl_ok (79, 0, 80) (List.mem_of_getElem? (i := 93) rfl)
theorem rf_81_0 : mj_RF 81 0 = some 82 := mj_rfl_ok (81, 0, 82) (List.mem_of_getElem? (i := 94) rfl)
theorem rf_83_0 : mj_RF 83 0 = some 84 := mj_rfl_ok (83, 0, 84) (List.mem_of_getElem? (i := 95) rfl)
theorem rf_85_0 : mj_RF 85 0 = some 86 := mj_rfl_ok (85, 0, 86) (List.mem_of_getElem? (i := 96) rfl)
theorem rf_87_0 : mj_RF 87 0 = some 88 := mj_rfl_ok (87, 0, 88) (List.mem_of_getElem? (i := 97) rfl)
theorem rf_89_0 : mj_RF 89 0 = some 90 := mj_rfl_ok (89, 0, 90) (List.mem_of_getElem? (i := 98) rfl)
theorem rf_91_0 : mj_RF 91 0 = some 92 := mj_rfl_ok (91, 0, 92) (List.mem_of_getElem? (i := 99) rfl)
theorem rf_93_0 : mj_RF 93 0 = some 94 := mj_rfl_ok (93, 0, 94) (List.mem_of_getElem? (i := 100) rfl)
theorem rf_95_11 : mj_RF 95 11 = some 96 := mj_rfl_ok (95, 11, 96) (List.mem_of_getElem? (i := 101) rfl)
theorem rf_95_12 : mj_RF 95 12 = some 97 := mj_rfl_ok (95, 12, 97) (List.mem_of_getElem? (i := 102) rfl)
theorem rf_95_13 : mj_RF 95 13 = some 98 := mj_rfl_ok (95, 13, 98) (List.mem_of_getElem? (i := 103) rfl)
theorem rf_95_14 : mj_RF 95 14 = some 99 := mj_rfl_ok (95, 14, 99) (List.mem_of_getElem? (i := 104) rfl)
theorem rf_95_15 : mj_RF 95 15 = some 100 := mj_rfl_ok (95, 15, 100) (List.mem_of_getElem? (i := 105) rfl)
theorem rf_95_16 : mj_RF 95 16 = some 101 := mj_rfl_ok (95, 16, 101) (List.mem_of_getElem? (i := 106) rfl)
theorem rf_95_17 : mj_RF 95 17 = some 102 := mj_rfl_ok (95, 17, 102) (List.mem_of_getElem? (i := 107) rfl)
theorem rf_95_18 : mj_RF 95 18 = some 103 := mj_rfl_ok (95, 18, 103) (List.mem_of_getElem? (i := 108) rfl)
theorem rf_95_19 : mj_RF 95 19 = some 104 := mj_rfl_ok (95, 19, 104) (List.mem_of_getElem? (i := 109) rfl)
theorem rf_95_20 : mj_RF 95 20 = some 105 := mj_rfl_ok (95, 20, 105) (List.mem_of_getElem? (i := 110) rfl)
theorem rf_95_21 : mj_RF 95 21 = some 106 := mj_rfl_ok (95, 21, 106) (List.mem_of_getElem? (i := 111) rfl)
theorem rf_95_22 : mj_RF 95 22 = some 107 := mj_rfl_ok (95, 22, 107) (List.mem_of_getElem? (i := 112) rfl)
theorem rf_95_23 : mj_RF 95 23 = some 108 := mj_rfl_ok (95, 23, 108) (List.mem_of_getElem? (i := 113) rfl)
theorem rf_95_24 : mj_RF 95 24 = some 109 := mj_rfl_ok (95, 24, 109) (List.mem_of_getElem? (i := 114) rfl)
theorem rf_95_25 : mj_RF 95 25 = some 110 := mj_rfl_ok (95, 25, 110) (List.mem_of_getElem? (i := 115) rfl)
theorem rf_95_26 : mj_RF 95 26 = some 111 := mj_rfl_ok (95, 26, 111) (List.mem_of_getElem? (i := 116) rfl)
theorem rf_95_27 : mj_RF 95 27 = some 112 := mj_rfl_ok (95, 27, 112) (List.mem_of_getElem? (i := 117) rfl)
theorem rf_95_28 : mj_RF 95 28 = some 113 := mj_rfl_ok (95, 28, 113) (List.mem_of_getElem? (i := 118) rfl)
theorem rf_95_29 : mj_RF 95 29 = some 114 := mj_rfl_ok (95, 29, 114) (List.mem_of_getElem? (i := 119) rfl)
theorem rf_95_30 : mj_RF 95 30 = some 115 := mj_rfl_ok (95, 30, 115) (List.mem_of_getElem? (i := 120) rfl)
theorem rf_95_31 : mj_RF 95 31 = some 116 := mj_rfl_ok (95, 31, 116) (List.mem_of_getElem? (i := 121) rfl)
theorem rf_95_32 : mj_RF 95 32 = some 117 := mj_rfl_ok (95, 32, 117) (List.mem_of_getElem? (i := 122) rfl)
theorem rf_95_38 : mj_RF 95 38 = some 118 := mj_rfl_ok (95, 38, 118) (List.mem_of_getElem? (i := 123) rfl)
theorem rf_95_39 : mj_RF 95 39 = some 119 := mj_rfl_ok (95, 39, 119) (List.mem_of_getElem? (i := 124) rfl)
theorem rf_95_40 : mj_RF 95 40 = some 120 := mj_rfl_ok (95, 40, 120) (List.mem_of_getElem? (i := 125) rfl)
theorem rf_95_41 : mj_RF 95 41 = some 121 := mj_rfl_ok (95, 41, 121) (List.mem_of_getElem? (i := 126) rfl)
theorem rf_95_42 : mj_RF 95 42 = some 122 := mj_rfl_ok (95, 42, 122) (List.mem_of_getElem? (i := 127) rfl)
theorem rf_95_43 : mj_RF 95 43 = some 123 := mj_rfl_ok (95, 43, 123) (List.mem_of_getElem? (i := 128) rfl)
theorem rf_95_45 : mj_RF 95 45 = some 124 := mj_rfl_ok (95, 45, 124) (List.mem_of_getElem? (i := 129) rfl)
theorem rf_95_49 : mj_RF 95 49 = some 125 := mj_rfl_ok (95, 49, 125) (List.mem_of_getElem? (i := 130) rfl)
theorem rf_95_50 : mj_RF 95 50 = some 126 := mj_rfl_ok (95, 50, 126) (List.mem_of_getElem? (i := 131) rfl)
theorem rf_95_53 : mj_RF 95 53 = some 127 := mj_rfl_ok (95, 53, 127) (List.mem_of_getElem? (i := 132) rfl)
section MJF
variable {EX : mj_X} {δ : Nat} {Y Y' : mj_Y} {pc idx : Nat} {lv : mj_LV} {st rest as : List Value} {m : mj_m} {r : mj_S}
theorem mk_iald {a : Nat} {i : Int32} (c : mj_b 0 a i = true) (hd : decode (mj_by Y) pc = .ok (.iaload, 1)) (hg : mj_Go EX δ Y (pc + 1) lv (.int (m.1 a i.toNatClampNeg) :: rest) (mj_fin m) r) : mj_Go EX δ Y pc lv (.int i :: .ref a :: rest) (mj_fin m) r := ml_iald c hd hg
theorem mk_lald {a : Nat} {i : Int32} (c : mj_b 1 a i = true) (hd : decode (mj_by Y) pc = .ok (.laload, 1)) (hg : mj_Go EX δ Y (pc + 1) lv (.long (m.2 a i.toNatClampNeg) :: rest) (mj_fin m) r) : mj_Go EX δ Y pc lv (.int i :: .ref a :: rest) (mj_fin m) r := ml_lald c hd hg
theorem mk_getI {c k a : Nat} (f : mj_fd c k 0 = true ∨ mj_fd c k 1 = true) (hw : mj_fl Y idx c k ∨ mj_fn Y idx c k) (o : mj_o c a = true) (hd : decode (mj_by Y) pc = .ok (.getfield idx, 3)) (hg : mj_Go EX δ Y (pc + 3) lv (.int (m.1 a k) :: rest) (mj_fin m) r) : mj_Go EX δ Y pc lv (.ref a :: rest) (mj_fin m) r := ml_getI f hw o hd hg
theorem mk_getL {c k a : Nat} (f : mj_fd c k 2 = true) (hw : mj_fl Y idx c k ∨ mj_fn Y idx c k) (o : mj_o c a = true) (hd : decode (mj_by Y) pc = .ok (.getfield idx, 3)) (hg : mj_Go EX δ Y (pc + 3) lv (.long (m.2 a k) :: rest) (mj_fin m) r) : mj_Go EX δ Y pc lv (.ref a :: rest) (mj_fin m) r := ml_getL f hw o hd hg
def mj_sb (w : Nat) : Bool := decide (9100 ≤ w) && decide (w < 9108)
def mj_sl_ (w : Nat) : Int32 := Int32.ofNat (mj_sLen.getD (w - 9100) 0)
def mj_sc (w : Nat) (i : Int32) : Bool := mj_sb w && (decide (0 ≤ i.toInt) && decide (i.toInt < (mj_sLen.getD (w - 9100) 0 : Int)))
def mj_sch (w : Nat) (i : Int32) : Int32 := (mj_sByt.getD (w - 9100) []).getD i.toNatClampNeg 0
theorem mk_slen {w : Nat} (c : mj_sb w = true) (hw : Cond.methodLink (mj_ow Y) idx ⟨"java/lang/String", "length", "()I"⟩ ∈ mj_GW) (hcat : (rest.map fun v => v.category).sum ≤ 8) (hδ : 3 ≤ δ) (hd : decode (mj_by Y) pc = .ok (.invokevirtual idx, 3)) (hg : mj_Go EX (δ + 1) Y (pc + 3) lv (.int (mj_sl_ w) :: rest) (mj_fin m) r) : mj_Go EX (δ + 1) Y pc lv (.ref w :: rest) (mj_fin m) r := by
  simp only [mj_sb, Bool.and_eq_true, decide_eq_true_eq] at c
  obtain ⟨d, rfl⟩ : ∃ d, δ = d + 1 := ⟨δ - 1, by omega⟩
  obtain ⟨i, rfl⟩ : ∃ i, w = 9100 + i := ⟨w - 9100, by omega⟩
  have hi : i < 8 := by omega
  have e : mj_sl_ (9100 + i) = Int32.ofNat (mj_sLen.getD i 0) := by unfold mj_sl_; rw [Nat.add_sub_cancel_left]
  rw [e] at hg
  exact mj_go_callT (Y' := mS_length) (as := []) (rest := rest) (r1 := (some (.int (Int32.ofNat (mj_sLen.getD i 0))), mj_fin m)) (List.forall_mem_cons.mpr ⟨hw, wS_len⟩) pS_length (by decide) hi rfl rfl rfl hcat (kS_length hi (Nat.le_of_ble_eq_true rfl)) hd hg
theorem mk_schar {w : Nat} {i : Int32} (c : mj_sc w i = true) (hw : Cond.methodLink (mj_ow Y) idx ⟨"java/lang/String", "charAt", "(I)C"⟩ ∈ mj_GW) (hcat : (rest.map fun v => v.category).sum ≤ 8) (hδ : 5 ≤ δ) (hd : decode (mj_by Y) pc = .ok (.invokevirtual idx, 3)) (hg : mj_Go EX (δ + 1) Y (pc + 3) lv (.int (mj_sch w i) :: rest) (mj_fin m) r) : mj_Go EX (δ + 1) Y pc lv (.int i :: .ref w :: rest) (mj_fin m) r := by
  simp only [mj_sc, mj_sb, Bool.and_eq_true, decide_eq_true_eq] at c
  obtain ⟨d, rfl⟩ : ∃ d, δ = d + 3 := ⟨δ - 3, by omega⟩
  obtain ⟨j, rfl⟩ : ∃ j, w = 9100 + j := ⟨w - 9100, by omega⟩
  have hj : j < 8 := by omega
  rw [Nat.add_sub_cancel_left] at c
  have e : mj_sch (9100 + j) i = (mj_sByt.getD j []).getD i.toNatClampNeg 0 := by unfold mj_sch; rw [Nat.add_sub_cancel_left]
  rw [e] at hg
  exact mj_go_callT (Y' := mS_charAt) (as := [.int i]) (rest := rest) (r1 := (some (.int ((mj_sByt.getD j []).getD i.toNatClampNeg 0)), mj_fin m)) (List.forall_mem_cons.mpr ⟨hw, wS_chr⟩) pS_charAt (by decide) hj rfl rfl rfl hcat (kS_charAt hj (Nat.le_of_ble_eq_true rfl) (vp_in_iff.mpr c.2)) hd hg
end MJF
