/-! METHODS as functions, and their rows over the small machine (printed by program from the printed instructions) -/
def f_X7_isHouse_56_22 (N : Nat) (m : mj_m) : Option (Int32) := (some 0)
theorem k_X7_isHouse_56_22 {L : Nat} {xs : Nat → Int32} {δ N : Nat} {m : mj_m} {a : Int32} (h : f_X7_isHouse_56_22 N m = some a) : mj_Go (mj_EX L xs) δ mY_X7_isHouse 22 [] [] (mj_fin m) (some (.int a), (mj_fin m)) := by
  unfold f_X7_isHouse_56_22 at h
  refine mj_go_iconst (v := 0) rfl (mj_dt dt_X7_isHouse 11 rfl) ?_
  obtain rfl := Option.some.inj h
  exact mj_go_ret (v := some (.int 0)) (Nat.le_of_ble_eq_true rfl) (mj_retZ (mj_dt dt_X7_isHouse 12 rfl) rfl rfl)
def f_X7_isHouse_56 (N : Nat) (v1 : Int32) (m : mj_m) : Option (Int32) := if v1 < 0 then f_X7_isHouse_56_22 N m else (if (m.1 56 7) ≤ v1 then f_X7_isHouse_56_22 N m else (if 10 ≤ v1 then f_X7_isHouse_56_22 N m else ((some 1))))
theorem k_X7_isHouse_56 {L : Nat} {xs : Nat → Int32} {δ N : Nat} {v1 : Int32} {m : mj_m} (_ : 0 ≤ δ) {a : Int32} (h : f_X7_isHouse_56 N v1 m = some a) : mj_Cl (mj_EX L xs) δ mY_X7_isHouse [.ref 56, .int v1] (mj_fin m) (some (.int a), (mj_fin m)) := by
  refine mj_cl_of ok_X7_isHouse (Nat.le_of_ble_eq_true rfl) ?_
  unfold f_X7_isHouse_56 at h
  refine mj_go_iload_n (k := 1) (x := v1) rfl (mj_dt dt_X7_isHouse 0 rfl) ?_
  refine mj_go_if_lt (tgt := 22) rfl (mj_dt dt_X7_isHouse 1 rfl) (fun b1 => ?_) (fun b1 => ?_)
  · rw [if_pos b1] at h
    refine mj_go_sub (lv' := []) (fun _ h9 => absurd h9 List.not_mem_nil) ?_
    exact k_X7_isHouse_56_22 h
  · rw [if_neg b1] at h
    refine mj_go_iload_n (k := 1) (x := v1) rfl (mj_dt dt_X7_isHouse 2 rfl) ?_
    refine mj_go_aload_n (k := 0) (x := 56) rfl (mj_dt dt_X7_isHouse 3 rfl) ?_
    refine mk_getI (c := 7) (k := 7) (Or.inl fd_7_7) (Or.inl fl_X7_37) ho_56 (mj_dt dt_X7_isHouse 4 rfl) ?_
    refine mj_go_icmp_ge (tgt := 22) rfl (mj_dt dt_X7_isHouse 5 rfl) (fun b2 => ?_) (fun b2 => ?_)
    · rw [if_pos b2] at h
      refine mj_go_sub (lv' := []) (fun _ h9 => absurd h9 List.not_mem_nil) ?_
      exact k_X7_isHouse_56_22 h
    · rw [if_neg b2] at h
      refine mj_go_iload_n (k := 1) (x := v1) rfl (mj_dt dt_X7_isHouse 6 rfl) ?_
      refine mj_go_bipush (v := 10) rfl (mj_dt dt_X7_isHouse 7 rfl) ?_
      refine mj_go_icmp_ge (tgt := 22) rfl (mj_dt dt_X7_isHouse 8 rfl) (fun b3 => ?_) (fun b3 => ?_)
      · rw [if_pos b3] at h
        refine mj_go_sub (lv' := []) (fun _ h9 => absurd h9 List.not_mem_nil) ?_
        exact k_X7_isHouse_56_22 h
      · rw [if_neg b3] at h
        refine mj_go_iconst (v := 1) rfl (mj_dt dt_X7_isHouse 9 rfl) ?_
        refine mj_go_goto (tgt := 23) rfl (mj_dt dt_X7_isHouse 10 rfl) ?_
        obtain rfl := Option.some.inj h
        exact mj_go_ret (v := some (.int 1)) (Nat.le_of_ble_eq_true rfl) (mj_retZ (mj_dt dt_X7_isHouse 12 rfl) rfl rfl)
def f_X5_readHouse_140 (N : Nat) (v1 : Int32) (v2 : Int32) (m : mj_m) : Option (Int32 × mj_m) := if (m.1 55 7) = (-1 : Int32) then (mj_ck (mj_b 0 74 0) ( mj_ck (mj_b 0 74 1) ( mj_ck (mj_b 0 74 2) ( mj_ck (mj_b 0 74 3) ( mj_ck (mj_b 0 74 4) ( (f_X7_addHouse_56 N (m.1 74 (0 : Int32).toNatClampNeg) (m.1 74 (1 : Int32).toNatClampNeg) (m.1 74 (2 : Int32).toNatClampNeg) (m.1 74 (3 : Int32).toNatClampNeg) (m.1 74 (4 : Int32).toNatClampNeg) m).bind (fun r7 => (f_X7_isHouse_56 N r7.1 r7.2).bind (fun r8 => if r8 = 0 then (some (1, r7.2)) else (mj_ck (mj_b 2 59 r7.1) ( mj_mw (mj_wI r7.2 (63 + r7.1.toNatClampNeg) 5 v1) (fun m11 => mj_mw (mj_wI m11 (63 + r7.1.toNatClampNeg) 6 v2) (fun m12 => (some (1, m12)))))))))))))) else (some (0, m))
theorem k_X5_readHouse_140 {L : Nat} {xs : Nat → Int32} {δ N : Nat} {v1 : Int32} {v2 : Int32} {m : mj_m} (hδ : 8 ≤ δ) {a : Int32 × mj_m} (h : f_X5_readHouse_140 N v1 v2 m = some a) : mj_Go (mj_EX L xs) (δ + 1) mY_X5_readHouse 140 [(0, .ref 55), (1, .int v1), (2, .int v2)] [] (mj_fin m) (some (.int a.1), (mj_fin a.2)) := by
  unfold f_X5_readHouse_140 at h
  refine mj_go_aload_n (k := 0) (x := 55) rfl (mj_dt dt_X5_readHouse 81 rfl) ?_
  refine mk_getI (c := 5) (k := 7) (Or.inl fd_5_7) (Or.inl fl_X5_35) ho_55 (mj_dt dt_X5_readHouse 82 rfl) ?_
  refine mj_go_iconst (v := -1) rfl (mj_dt dt_X5_readHouse 83 rfl) ?_
  refine mj_go_icmp_eq (tgt := 150) rfl (mj_dt dt_X5_readHouse 84 rfl) (fun b1 => ?_) (fun b1 => ?_)
  · rw [if_pos b1] at h
    refine mj_go_aload_n (k := 0) (x := 55) rfl (mj_dt dt_X5_readHouse 87 rfl) ?_
    refine ml_getR (c := 5) (k := 1) (q := 56) fd_5_1 rf_55_1 (Or.inl fl_X5_12) ho_55 (mj_dt dt_X5_readHouse 88 rfl) ?_
    refine mj_go_aload_n (k := 0) (x := 55) rfl (mj_dt dt_X5_readHouse 89 rfl) ?_
    refine ml_getR (c := 5) (k := 3) (q := 74) fd_5_3 rf_55_3 (Or.inl fl_X5_22) ho_55 (mj_dt dt_X5_readHouse 90 rfl) ?_
    refine mj_go_iconst (v := 0) rfl (mj_dt dt_X5_readHouse 91 rfl) ?_
    obtain ⟨c2, h⟩ := mj_ck_some h
    refine mk_iald c2 (mj_dt dt_X5_readHouse 92 rfl) ?_
    refine mj_go_aload_n (k := 0) (x := 55) rfl (mj_dt dt_X5_readHouse 93 rfl) ?_
    refine ml_getR (c := 5) (k := 3) (q := 74) fd_5_3 rf_55_3 (Or.inl fl_X5_22) ho_55 (mj_dt dt_X5_readHouse 94 rfl) ?_
    refine mj_go_iconst (v := 1) rfl (mj_dt dt_X5_readHouse 95 rfl) ?_
    obtain ⟨c3, h⟩ := mj_ck_some h
    refine mk_iald c3 (mj_dt dt_X5_readHouse 96 rfl) ?_
    refine mj_go_aload_n (k := 0) (x := 55) rfl (mj_dt dt_X5_readHouse 97 rfl) ?_
    refine ml_getR (c := 5) (k := 3) (q := 74) fd_5_3 rf_55_3 (Or.inl fl_X5_22) ho_55 (mj_dt dt_X5_readHouse 98 rfl) ?_
    refine mj_go_iconst (v := 2) rfl (mj_dt dt_X5_readHouse 99 rfl) ?_
    obtain ⟨c4, h⟩ := mj_ck_some h
    refine mk_iald c4 (mj_dt dt_X5_readHouse 100 rfl) ?_
    refine mj_go_aload_n (k := 0) (x := 55) rfl (mj_dt dt_X5_readHouse 101 rfl) ?_
    refine ml_getR (c := 5) (k := 3) (q := 74) fd_5_3 rf_55_3 (Or.inl fl_X5_22) ho_55 (mj_dt dt_X5_readHouse 102 rfl) ?_
    refine mj_go_iconst (v := 3) rfl (mj_dt dt_X5_readHouse 103 rfl) ?_
    obtain ⟨c5, h⟩ := mj_ck_some h
    refine mk_iald c5 (mj_dt dt_X5_readHouse 104 rfl) ?_
    refine mj_go_aload_n (k := 0) (x := 55) rfl (mj_dt dt_X5_readHouse 105 rfl) ?_
    refine ml_getR (c := 5) (k := 3) (q := 74) fd_5_3 rf_55_3 (Or.inl fl_X5_22) ho_55 (mj_dt dt_X5_readHouse 106 rfl) ?_
    refine mj_go_iconst (v := 4) rfl (mj_dt dt_X5_readHouse 107 rfl) ?_
    obtain ⟨c6, h⟩ := mj_ck_some h
    refine mk_iald c6 (mj_dt dt_X5_readHouse 108 rfl) ?_
    obtain ⟨r7, er7, h⟩ := mj_bind_some h
    refine ml_callV (Y' := mY_X7_addHouse) (as := [.int (m.1 74 (0 : Int32).toNatClampNeg), .int (m.1 74 (1 : Int32).toNatClampNeg), .int (m.1 74 (2 : Int32).toNatClampNeg), .int (m.1 74 (3 : Int32).toNatClampNeg), .int (m.1 74 (4 : Int32).toNatClampNeg)]) (rest := []) (c := 7) (v := (some (.int r7.1))) (M1 := (mj_fin r7.2)) ho_56 rfl lm_X5_109 wc_X7_addHouse pl_X7_addHouse ok_X7_addHouse rfl rfl (Nat.le_of_ble_eq_true rfl) (k_X7_addHouse_56 (by omega) er7) (mj_dt dt_X5_readHouse 109 rfl) ?_
    refine mj_go_istore (i := 4) (by decide) (mj_dt dt_X5_readHouse 110 rfl) ?_
    refine mj_go_aload_n (k := 0) (x := 55) rfl (mj_dt dt_X5_readHouse 111 rfl) ?_
    refine ml_getR (c := 5) (k := 1) (q := 56) fd_5_1 rf_55_1 (Or.inl fl_X5_12) ho_55 (mj_dt dt_X5_readHouse 112 rfl) ?_
    refine mj_go_iload (i := 4) (x := r7.1) rfl (mj_dt dt_X5_readHouse 113 rfl) ?_
    obtain ⟨r8, er8, h⟩ := mj_bind_some h
    refine ml_callV (Y' := mY_X7_isHouse) (as := [.int r7.1]) (rest := []) (c := 7) (v := (some (.int r8))) (M1 := (mj_fin r7.2)) ho_56 rfl lm_X5_113 wc_X7_isHouse pl_X7_isHouse ok_X7_isHouse rfl rfl (Nat.le_of_ble_eq_true rfl) (k_X7_isHouse_56 (by omega) er8) (mj_dt dt_X5_readHouse 114 rfl) ?_
    refine mj_go_if_eq (tgt := 229) rfl (mj_dt dt_X5_readHouse 115 rfl) (fun b9 => ?_) (fun b9 => ?_)
    · rw [if_pos b9] at h
      refine mj_go_iconst (v := 1) rfl (mj_dt dt_X5_readHouse 130 rfl) ?_
      obtain rfl := Option.some.inj h
      exact mj_go_ret (v := some (.int 1)) (Nat.le_of_ble_eq_true rfl) (mj_retZ (mj_dt dt_X5_readHouse 131 rfl) rfl rfl)
    · rw [if_neg b9] at h
      refine mj_go_aload_n (k := 0) (x := 55) rfl (mj_dt dt_X5_readHouse 116 rfl) ?_
      refine ml_getR (c := 5) (k := 1) (q := 56) fd_5_1 rf_55_1 (Or.inl fl_X5_12) ho_55 (mj_dt dt_X5_readHouse 117 rfl) ?_
      refine ml_getR (c := 7) (k := 2) (q := 59) fd_7_2 rf_56_2 (Or.inl fl_X5_116) ho_56 (mj_dt dt_X5_readHouse 118 rfl) ?_
      refine mj_go_iload (i := 4) (x := r7.1) rfl (mj_dt dt_X5_readHouse 119 rfl) ?_
      obtain ⟨c10, h⟩ := mj_ck_some h
      refine ml_aald2 (q := 63 + r7.1.toNatClampNeg) c10 (mj_hs59 c10).1 (mj_dt dt_X5_readHouse 120 rfl) ?_
      refine mj_go_iload_n (k := 1) (x := v1) rfl (mj_dt dt_X5_readHouse 121 rfl) ?_
      obtain ⟨m11, em11, h⟩ := mj_mw_some h
      refine ml_putI (c := 1) (k := 5) fd_1_5 rfl fl_X5_120 (mj_hs59 c10).2 (mj_dt dt_X5_readHouse 122 rfl) ?_
      refine ml_eqm (M1 := (mj_fin m11)) (by rw [em11] <;> rfl) ?_
      refine mj_go_aload_n (k := 0) (x := 55) rfl (mj_dt dt_X5_readHouse 123 rfl) ?_
      refine ml_getR (c := 5) (k := 1) (q := 56) fd_5_1 rf_55_1 (Or.inl fl_X5_12) ho_55 (mj_dt dt_X5_readHouse 124 rfl) ?_
      refine ml_getR (c := 7) (k := 2) (q := 59) fd_7_2 rf_56_2 (Or.inl fl_X5_116) ho_56 (mj_dt dt_X5_readHouse 125 rfl) ?_
      refine mj_go_iload (i := 4) (x := r7.1) rfl (mj_dt dt_X5_readHouse 126 rfl) ?_
      refine ml_aald2 (q := 63 + r7.1.toNatClampNeg) c10 (mj_hs59 c10).1 (mj_dt dt_X5_readHouse 127 rfl) ?_
      refine mj_go_iload_n (k := 2) (x := v2) rfl (mj_dt dt_X5_readHouse 128 rfl) ?_
      obtain ⟨m12, em12, h⟩ := mj_mw_some h
      refine ml_putI (c := 1) (k := 6) fd_1_6 rfl fl_X5_125 (mj_hs59 c10).2 (mj_dt dt_X5_readHouse 129 rfl) ?_
      refine ml_eqm (M1 := (mj_fin m12)) (by rw [em12] <;> rfl) ?_
      refine mj_go_iconst (v := 1) rfl (mj_dt dt_X5_readHouse 130 rfl) ?_
      obtain rfl := Option.some.inj h
      exact mj_go_ret (v := some (.int 1)) (Nat.le_of_ble_eq_true rfl) (mj_retZ (mj_dt dt_X5_readHouse 131 rfl) rfl rfl)
  · rw [if_neg b1] at h
    refine mj_go_iconst (v := 0) rfl (mj_dt dt_X5_readHouse 85 rfl) ?_
    obtain rfl := Option.some.inj h
    exact mj_go_ret (v := some (.int 0)) (Nat.le_of_ble_eq_true rfl) (mj_retZ (mj_dt dt_X5_readHouse 86 rfl) rfl rfl)
def f_X5_readHouse_119 (N : Nat) (v1 : Int32) (v2 : Int32) (v3 : Int32) (m : mj_m) : Option (Int32 × mj_m) := if v3 = 7 then ((f_X5_readNumber N 0 ((m.1 56 7) - 1) m).bind (fun r2 => f_X5_readHouse_140 N v1 r2.1 r2.2)) else f_X5_readHouse_140 N v1 v2 m
theorem k_X5_readHouse_119 {L : Nat} {xs : Nat → Int32} {δ N : Nat} {v1 : Int32} {v2 : Int32} {v3 : Int32} {m : mj_m} (hδ : 8 ≤ δ) {a : Int32 × mj_m} (h : f_X5_readHouse_119 N v1 v2 v3 m = some a) : mj_Go (mj_EX L xs) (δ + 1) mY_X5_readHouse 119 [(0, .ref 55), (1, .int v1), (2, .int v2), (3, .int v3)] [] (mj_fin m) (some (.int a.1), (mj_fin a.2)) := by
  unfold f_X5_readHouse_119 at h
  refine mj_go_iload_n (k := 3) (x := v3) rfl (mj_dt dt_X5_readHouse 69 rfl) ?_
  refine mj_go_bipush (v := 7) rfl (mj_dt dt_X5_readHouse 70 rfl) ?_
  refine mj_go_icmp_ne (tgt := 140) rfl (mj_dt dt_X5_readHouse 71 rfl) (fun b1 => ?_) (fun b1 => ?_)
  · rw [if_neg b1] at h
    refine mj_go_sub (lv' := [(0, .ref 55), (1, .int v1), (2, .int v2)]) (List.forall_mem_cons.mpr ⟨rfl, (List.forall_mem_cons.mpr ⟨rfl, (List.forall_mem_cons.mpr ⟨rfl, (fun _ h9 => absurd h9 List.not_mem_nil)⟩)⟩)⟩) ?_
    exact k_X5_readHouse_140 hδ h
  · rw [if_pos b1] at h
    refine mj_go_aload_n (k := 0) (x := 55) rfl (mj_dt dt_X5_readHouse 72 rfl) ?_
    refine mj_go_iconst (v := 0) rfl (mj_dt dt_X5_readHouse 73 rfl) ?_
    refine mj_go_aload_n (k := 0) (x := 55) rfl (mj_dt dt_X5_readHouse 74 rfl) ?_
    refine ml_getR (c := 5) (k := 1) (q := 56) fd_5_1 rf_55_1 (Or.inl fl_X5_12) ho_55 (mj_dt dt_X5_readHouse 75 rfl) ?_
    refine mk_getI (c := 7) (k := 7) (Or.inl fd_7_7) (Or.inl fl_X5_79) ho_56 (mj_dt dt_X5_readHouse 76 rfl) ?_
    refine mj_go_iconst (v := 1) rfl (mj_dt dt_X5_readHouse 77 rfl) ?_
    refine mj_go_isub (mj_dt dt_X5_readHouse 78 rfl) ?_
    obtain ⟨r2, er2, h⟩ := mj_bind_some h
    refine ml_callV (Y' := mY_X5_readNumber) (as := [.int 0, .int ((m.1 56 7) - 1)]) (rest := []) (c := 5) (v := (some (.int r2.1))) (M1 := (mj_fin r2.2)) ho_55 rfl lm_X5_91 wc_X5_readNumber pl_X5_readNumber ok_X5_readNumber rfl rfl (Nat.le_of_ble_eq_true rfl) (k_X5_readNumber (by omega) er2) (mj_dt dt_X5_readHouse 79 rfl) ?_
    refine mj_go_istore_n (k := 2) (by decide) (mj_dt dt_X5_readHouse 80 rfl) ?_
    refine mj_go_sub (lv' := [(0, .ref 55), (1, .int v1), (2, .int r2.1)]) (List.forall_mem_cons.mpr ⟨rfl, (List.forall_mem_cons.mpr ⟨rfl, (List.forall_mem_cons.mpr ⟨rfl, (fun _ h9 => absurd h9 List.not_mem_nil)⟩)⟩)⟩) ?_
    exact k_X5_readHouse_140 hδ h
def f_X5_readHouse_118 (N : Nat) (v1 : Int32) (v2 : Int32) (s0 : Int32) (m : mj_m) : Option (Int32 × mj_m) := f_X5_readHouse_119 N v1 v2 s0 m
theorem k_X5_readHouse_118 {L : Nat} {xs : Nat → Int32} {δ N : Nat} {v1 : Int32} {v2 : Int32} {s0 : Int32} {m : mj_m} (hδ : 8 ≤ δ) {a : Int32 × mj_m} (h : f_X5_readHouse_118 N v1 v2 s0 m = some a) : mj_Go (mj_EX L xs) (δ + 1) mY_X5_readHouse 118 [(0, .ref 55), (1, .int v1), (2, .int v2)] [.int s0] (mj_fin m) (some (.int a.1), (mj_fin a.2)) := by
  unfold f_X5_readHouse_118 at h
  refine mj_go_istore_n (k := 3) (by decide) (mj_dt dt_X5_readHouse 68 rfl) ?_
  refine mj_go_sub (lv' := [(0, .ref 55), (1, .int v1), (2, .int v2), (3, .int s0)]) (List.forall_mem_cons.mpr ⟨rfl, (List.forall_mem_cons.mpr ⟨rfl, (List.forall_mem_cons.mpr ⟨rfl, (List.forall_mem_cons.mpr ⟨rfl, (fun _ h9 => absurd h9 List.not_mem_nil)⟩)⟩)⟩)⟩) ?_
  exact k_X5_readHouse_119 hδ h
def f_X5_readHouse_45 (N : Nat) (k_2 : Int32 × mj_m → Option (Int32 × mj_m)) (v1 : Int32) (v2 : Int32) (s1 : Int32) (s3 : Int32) (m : mj_m) : Option (Int32 × mj_m) := (f_X5_readNumber N s3 v2 m).bind (fun r1 => mj_ck (mj_b 0 74 s1) ( mj_mw (mj_wI r1.2 74 (s1.toNatClampNeg) r1.1) (fun m3 => mj_ck (mj_b 0 74 v1) ( if (m3.1 74 v1.toNatClampNeg) = (-1 : Int32) then (some (0, m3)) else (mj_mw (v1 + 1) (fun x6 => k_2 (x6, m3)))))))
theorem k_X5_readHouse_45 {L : Nat} {xs : Nat → Int32} {δ N : Nat} {v1 : Int32} {v2 : Int32} {s1 : Int32} {s3 : Int32} {m : mj_m} {k_2 : Int32 × mj_m → Option (Int32 × mj_m)} (q_2 : ∀ (s_ : Int32 × mj_m) (a_ : Int32 × mj_m), k_2 s_ = some a_ → mj_Go (mj_EX L xs) (δ + 1) mY_X5_readHouse 2 [(0, .ref 55), (1, .int s_.1)] [] (mj_fin s_.2) (some (.int a_.1), (mj_fin a_.2))) (hδ : 8 ≤ δ) {a : Int32 × mj_m} (h : f_X5_readHouse_45 N k_2 v1 v2 s1 s3 m = some a) : mj_Go (mj_EX L xs) (δ + 1) mY_X5_readHouse 45 [(0, .ref 55), (1, .int v1), (2, .int v2)] [.int s3, .ref 55, .int s1, .ref 74] (mj_fin m) (some (.int a.1), (mj_fin a.2)) := by
  unfold f_X5_readHouse_45 at h
  refine mj_go_iload_n (k := 2) (x := v2) rfl (mj_dt dt_X5_readHouse 26 rfl) ?_
  obtain ⟨r1, er1, h⟩ := mj_bind_some h
  refine ml_callV (Y' := mY_X5_readNumber) (as := [.int s3, .int v2]) (rest := [.int s1, .ref 74]) (c := 5) (v := (some (.int r1.1))) (M1 := (mj_fin r1.2)) ho_55 rfl lm_X5_91 wc_X5_readNumber pl_X5_readNumber ok_X5_readNumber rfl rfl (Nat.le_of_ble_eq_true rfl) (k_X5_readNumber (by omega) er1) (mj_dt dt_X5_readHouse 27 rfl) ?_
  obtain ⟨c2, h⟩ := mj_ck_some h
  obtain ⟨m3, em3, h⟩ := mj_mw_some h
  refine ml_iast c2 (mj_dt dt_X5_readHouse 28 rfl) ?_
  refine ml_eqm (M1 := (mj_fin m3)) (by rw [em3] <;> rfl) ?_
  refine mj_go_aload_n (k := 0) (x := 55) rfl (mj_dt dt_X5_readHouse 29 rfl) ?_
  refine ml_getR (c := 5) (k := 3) (q := 74) fd_5_3 rf_55_3 (Or.inl fl_X5_22) ho_55 (mj_dt dt_X5_readHouse 30 rfl) ?_
  refine mj_go_iload_n (k := 1) (x := v1) rfl (mj_dt dt_X5_readHouse 31 rfl) ?_
  obtain ⟨c4, h⟩ := mj_ck_some h
  refine mk_iald c4 (mj_dt dt_X5_readHouse 32 rfl) ?_
  refine mj_go_iconst (v := -1) rfl (mj_dt dt_X5_readHouse 33 rfl) ?_
  refine mj_go_icmp_ne (tgt := 62) rfl (mj_dt dt_X5_readHouse 34 rfl) (fun b5 => ?_) (fun b5 => ?_)
  · rw [if_neg b5] at h
    obtain ⟨x6, ex6, h⟩ := mj_mw_some h
    refine mj_go_iinc (i := 1) (x := v1) (v := x6) rfl (by rw [ex6] <;> rfl) (by decide) (mj_dt dt_X5_readHouse 37 rfl) ?_
    refine mj_go_goto (tgt := 2) rfl (mj_dt dt_X5_readHouse 38 rfl) ?_
    refine mj_go_sub (lv' := [(0, .ref 55), (1, .int x6)]) (List.forall_mem_cons.mpr ⟨rfl, (List.forall_mem_cons.mpr ⟨rfl, (fun _ h9 => absurd h9 List.not_mem_nil)⟩)⟩) ?_
    exact q_2 _ _ h
  · rw [if_pos b5] at h
    refine mj_go_iconst (v := 0) rfl (mj_dt dt_X5_readHouse 35 rfl) ?_
    obtain rfl := Option.some.inj h
    exact mj_go_ret (v := some (.int 0)) (Nat.le_of_ble_eq_true rfl) (mj_retZ (mj_dt dt_X5_readHouse 36 rfl) rfl rfl)
def f_X5_readHouse_28 (N : Nat) (k_2 : Int32 × mj_m → Option (Int32 × mj_m)) (v1 : Int32) (s0 : Int32) (m : mj_m) : Option (Int32 × mj_m) := if v1 = 4 then (f_X5_readHouse_45 N k_2 v1 s0 v1 1 m) else (f_X5_readHouse_45 N k_2 v1 s0 v1 0 m)
theorem k_X5_readHouse_28 {L : Nat} {xs : Nat → Int32} {δ N : Nat} {v1 : Int32} {s0 : Int32} {m : mj_m} {k_2 : Int32 × mj_m → Option (Int32 × mj_m)} (q_2 : ∀ (s_ : Int32 × mj_m) (a_ : Int32 × mj_m), k_2 s_ = some a_ → mj_Go (mj_EX L xs) (δ + 1) mY_X5_readHouse 2 [(0, .ref 55), (1, .int s_.1)] [] (mj_fin s_.2) (some (.int a_.1), (mj_fin a_.2))) (hδ : 8 ≤ δ) {a : Int32 × mj_m} (h : f_X5_readHouse_28 N k_2 v1 s0 m = some a) : mj_Go (mj_EX L xs) (δ + 1) mY_X5_readHouse 28 [(0, .ref 55), (1, .int v1)] [.int s0] (mj_fin m) (some (.int a.1), (mj_fin a.2)) := by
  unfold f_X5_readHouse_28 at h
  refine mj_go_istore_n (k := 2) (by decide) (mj_dt dt_X5_readHouse 15 rfl) ?_
  refine mj_go_aload_n (k := 0) (x := 55) rfl (mj_dt dt_X5_readHouse 16 rfl) ?_
  refine ml_getR (c := 5) (k := 3) (q := 74) fd_5_3 rf_55_3 (Or.inl fl_X5_22) ho_55 (mj_dt dt_X5_readHouse 17 rfl) ?_
  refine mj_go_iload_n (k := 1) (x := v1) rfl (mj_dt dt_X5_readHouse 18 rfl) ?_
  refine mj_go_aload_n (k := 0) (x := 55) rfl (mj_dt dt_X5_readHouse 19 rfl) ?_
  refine mj_go_iload_n (k := 1) (x := v1) rfl (mj_dt dt_X5_readHouse 20 rfl) ?_
  refine mj_go_iconst (v := 4) rfl (mj_dt dt_X5_readHouse 21 rfl) ?_
  refine mj_go_icmp_ne (tgt := 44) rfl (mj_dt dt_X5_readHouse 22 rfl) (fun b1 => ?_) (fun b1 => ?_)
  · rw [if_neg b1] at h
    refine mj_go_iconst (v := 0) rfl (mj_dt dt_X5_readHouse 25 rfl) ?_
    refine mj_go_sub (lv' := [(0, .ref 55), (1, .int v1), (2, .int s0)]) (List.forall_mem_cons.mpr ⟨rfl, (List.forall_mem_cons.mpr ⟨rfl, (List.forall_mem_cons.mpr ⟨rfl, (fun _ h9 => absurd h9 List.not_mem_nil)⟩)⟩)⟩) ?_
    exact k_X5_readHouse_45 q_2 hδ h
  · rw [if_pos b1] at h
    refine mj_go_iconst (v := 1) rfl (mj_dt dt_X5_readHouse 23 rfl) ?_
    refine mj_go_goto (tgt := 45) rfl (mj_dt dt_X5_readHouse 24 rfl) ?_
    refine mj_go_sub (lv' := [(0, .ref 55), (1, .int v1), (2, .int s0)]) (List.forall_mem_cons.mpr ⟨rfl, (List.forall_mem_cons.mpr ⟨rfl, (List.forall_mem_cons.mpr ⟨rfl, (fun _ h9 => absurd h9 List.not_mem_nil)⟩)⟩)⟩) ?_
    exact k_X5_readHouse_45 q_2 hδ h
def f_X5_readHouse_2 (N : Nat) (k_2 : Int32 × mj_m → Option (Int32 × mj_m)) (s : Int32 × mj_m) : Option (Int32 × mj_m) := if 5 ≤ s.1 then ((f_X5_readMore N 6 s.2).bind (fun r2 => if r2.1 = 6 then ((f_X5_readNumber N 0 ((r2.2.1 56 6) - 1) r2.2).bind (fun r4 => if (r4.2.1 55 7) = (-1 : Int32) then ((f_X5_readMore N 7 r4.2).bind (fun r6 => f_X5_readHouse_118 N r4.1 (-1 : Int32) r6.1 r6.2)) else (f_X5_readHouse_118 N r4.1 (-1 : Int32) (-1 : Int32) r4.2))) else f_X5_readHouse_119 N (-1 : Int32) (-1 : Int32) r2.1 r2.2)) else (if s.1 = 0 then (f_X5_readHouse_28 N k_2 s.1 7 s.2) else (if s.1 = 1 then (f_X5_readHouse_28 N k_2 s.1 9 s.2) else (f_X5_readHouse_28 N k_2 s.1 99 s.2)))
theorem k_X5_readHouse_2 {L : Nat} {xs : Nat → Int32} {δ N : Nat} (hδ : 8 ≤ δ) : ∀ (n : Nat) (s : Int32 × mj_m) (a : Int32 × mj_m), mj_lp n (f_X5_readHouse_2 N) s = some a → mj_Go (mj_EX L xs) (δ + 1) mY_X5_readHouse 2 [(0, .ref 55), (1, .int s.1)] [] (mj_fin s.2) (some (.int a.1), (mj_fin a.2)) := by
  refine mj_lp_sound (fun k_2 s a q_2 h => ?_)
  unfold f_X5_readHouse_2 at h
  refine mj_go_iload_n (k := 1) (x := s.1) rfl (mj_dt dt_X5_readHouse 2 rfl) ?_
  refine mj_go_iconst (v := 5) rfl (mj_dt dt_X5_readHouse 3 rfl) ?_
  refine mj_go_icmp_ge (tgt := 68) rfl (mj_dt dt_X5_readHouse 4 rfl) (fun b1 => ?_) (fun b1 => ?_)
  · rw [if_pos b1] at h
    refine mj_go_iconst (v := -1) rfl (mj_dt dt_X5_readHouse 39 rfl) ?_
    refine mj_go_istore_n (k := 1) (by decide) (mj_dt dt_X5_readHouse 40 rfl) ?_
    refine mj_go_iconst (v := -1) rfl (mj_dt dt_X5_readHouse 41 rfl) ?_
    refine mj_go_istore_n (k := 2) (by decide) (mj_dt dt_X5_readHouse 42 rfl) ?_
    refine mj_go_aload_n (k := 0) (x := 55) rfl (mj_dt dt_X5_readHouse 43 rfl) ?_
    refine mj_go_bipush (v := 6) rfl (mj_dt dt_X5_readHouse 44 rfl) ?_
    obtain ⟨r2, er2, h⟩ := mj_bind_some h
    refine ml_callV (Y' := mY_X5_readMore) (as := [.int 6]) (rest := []) (c := 5) (v := (some (.int r2.1))) (M1 := (mj_fin r2.2)) ho_55 rfl lm_X5_106 wc_X5_readMore pl_X5_readMore ok_X5_readMore rfl rfl (Nat.le_of_ble_eq_true rfl) (k_X5_readMore (by omega) er2) (mj_dt dt_X5_readHouse 45 rfl) ?_
    refine mj_go_istore_n (k := 3) (by decide) (mj_dt dt_X5_readHouse 46 rfl) ?_
    refine mj_go_iload_n (k := 3) (x := r2.1) rfl (mj_dt dt_X5_readHouse 47 rfl) ?_
    refine mj_go_bipush (v := 6) rfl (mj_dt dt_X5_readHouse 48 rfl) ?_
    refine mj_go_icmp_ne (tgt := 119) rfl (mj_dt dt_X5_readHouse 49 rfl) (fun b3 => ?_) (fun b3 => ?_)
    · rw [if_neg b3] at h
      refine mj_go_sub (lv' := [(0, .ref 55), (1, .int (-1 : Int32)), (2, .int (-1 : Int32)), (3, .int r2.1)]) (List.forall_mem_cons.mpr ⟨rfl, (List.forall_mem_cons.mpr ⟨rfl, (List.forall_mem_cons.mpr ⟨rfl, (List.forall_mem_cons.mpr ⟨rfl, (fun _ h9 => absurd h9 List.not_mem_nil)⟩)⟩)⟩)⟩) ?_
      exact k_X5_readHouse_119 hδ h
    · rw [if_pos b3] at h
      refine mj_go_aload_n (k := 0) (x := 55) rfl (mj_dt dt_X5_readHouse 50 rfl) ?_
      refine mj_go_iconst (v := 0) rfl (mj_dt dt_X5_readHouse 51 rfl) ?_
      refine mj_go_aload_n (k := 0) (x := 55) rfl (mj_dt dt_X5_readHouse 52 rfl) ?_
      refine ml_getR (c := 5) (k := 1) (q := 56) fd_5_1 rf_55_1 (Or.inl fl_X5_12) ho_55 (mj_dt dt_X5_readHouse 53 rfl) ?_
      refine mk_getI (c := 7) (k := 6) (Or.inl fd_7_6) (Or.inl fl_X5_73) ho_56 (mj_dt dt_X5_readHouse 54 rfl) ?_
      refine mj_go_iconst (v := 1) rfl (mj_dt dt_X5_readHouse 55 rfl) ?_
      refine mj_go_isub (mj_dt dt_X5_readHouse 56 rfl) ?_
      obtain ⟨r4, er4, h⟩ := mj_bind_some h
      refine ml_callV (Y' := mY_X5_readNumber) (as := [.int 0, .int ((r2.2.1 56 6) - 1)]) (rest := []) (c := 5) (v := (some (.int r4.1))) (M1 := (mj_fin r4.2)) ho_55 rfl lm_X5_91 wc_X5_readNumber pl_X5_readNumber ok_X5_readNumber rfl rfl (Nat.le_of_ble_eq_true rfl) (k_X5_readNumber (by omega) er4) (mj_dt dt_X5_readHouse 57 rfl) ?_
      refine mj_go_istore_n (k := 1) (by decide) (mj_dt dt_X5_readHouse 58 rfl) ?_
      refine mj_go_aload_n (k := 0) (x := 55) rfl (mj_dt dt_X5_readHouse 59 rfl) ?_
      refine mk_getI (c := 5) (k := 7) (Or.inl fd_5_7) (Or.inl fl_X5_35) ho_55 (mj_dt dt_X5_readHouse 60 rfl) ?_
      refine mj_go_iconst (v := -1) rfl (mj_dt dt_X5_readHouse 61 rfl) ?_
      refine mj_go_icmp_ne (tgt := 117) rfl (mj_dt dt_X5_readHouse 62 rfl) (fun b5 => ?_) (fun b5 => ?_)
      · rw [if_neg b5] at h
        refine mj_go_iconst (v := -1) rfl (mj_dt dt_X5_readHouse 67 rfl) ?_
        refine mj_go_sub (lv' := [(0, .ref 55), (1, .int r4.1), (2, .int (-1 : Int32))]) (List.forall_mem_cons.mpr ⟨rfl, (List.forall_mem_cons.mpr ⟨rfl, (List.forall_mem_cons.mpr ⟨rfl, (fun _ h9 => absurd h9 List.not_mem_nil)⟩)⟩)⟩) ?_
        exact k_X5_readHouse_118 hδ h
      · rw [if_pos b5] at h
        refine mj_go_aload_n (k := 0) (x := 55) rfl (mj_dt dt_X5_readHouse 63 rfl) ?_
        refine mj_go_bipush (v := 7) rfl (mj_dt dt_X5_readHouse 64 rfl) ?_
        obtain ⟨r6, er6, h⟩ := mj_bind_some h
        refine ml_callV (Y' := mY_X5_readMore) (as := [.int 7]) (rest := []) (c := 5) (v := (some (.int r6.1))) (M1 := (mj_fin r6.2)) ho_55 rfl lm_X5_106 wc_X5_readMore pl_X5_readMore ok_X5_readMore rfl rfl (Nat.le_of_ble_eq_true rfl) (k_X5_readMore (by omega) er6) (mj_dt dt_X5_readHouse 65 rfl) ?_
        refine mj_go_goto (tgt := 118) rfl (mj_dt dt_X5_readHouse 66 rfl) ?_
        refine mj_go_sub (lv' := [(0, .ref 55), (1, .int r4.1), (2, .int (-1 : Int32))]) (List.forall_mem_cons.mpr ⟨rfl, (List.forall_mem_cons.mpr ⟨rfl, (List.forall_mem_cons.mpr ⟨rfl, (fun _ h9 => absurd h9 List.not_mem_nil)⟩)⟩)⟩) ?_
        exact k_X5_readHouse_118 hδ h
  · rw [if_neg b1] at h
    refine mj_go_iload_n (k := 1) (x := s.1) rfl (mj_dt dt_X5_readHouse 5 rfl) ?_
    refine mj_go_if_ne (tgt := 16) rfl (mj_dt dt_X5_readHouse 6 rfl) (fun b2 => ?_) (fun b2 => ?_)
    · rw [if_neg b2] at h
      refine mj_go_iload_n (k := 1) (x := s.1) rfl (mj_dt dt_X5_readHouse 9 rfl) ?_
      refine mj_go_iconst (v := 1) rfl (mj_dt dt_X5_readHouse 10 rfl) ?_
      refine mj_go_icmp_ne (tgt := 26) rfl (mj_dt dt_X5_readHouse 11 rfl) (fun b3 => ?_) (fun b3 => ?_)
      · rw [if_neg b3] at h
        refine mj_go_bipush (v := 99) rfl (mj_dt dt_X5_readHouse 14 rfl) ?_
        refine mj_go_sub (lv' := [(0, .ref 55), (1, .int s.1)]) (List.forall_mem_cons.mpr ⟨rfl, (List.forall_mem_cons.mpr ⟨rfl, (fun _ h9 => absurd h9 List.not_mem_nil)⟩)⟩) ?_
        exact k_X5_readHouse_28 q_2 hδ h
      · rw [if_pos b3] at h
        refine mj_go_bipush (v := 9) rfl (mj_dt dt_X5_readHouse 12 rfl) ?_
        refine mj_go_goto (tgt := 28) rfl (mj_dt dt_X5_readHouse 13 rfl) ?_
        refine mj_go_sub (lv' := [(0, .ref 55), (1, .int s.1)]) (List.forall_mem_cons.mpr ⟨rfl, (List.forall_mem_cons.mpr ⟨rfl, (fun _ h9 => absurd h9 List.not_mem_nil)⟩)⟩) ?_
        exact k_X5_readHouse_28 q_2 hδ h
    · rw [if_pos b2] at h
      refine mj_go_bipush (v := 7) rfl (mj_dt dt_X5_readHouse 7 rfl) ?_
      refine mj_go_goto (tgt := 28) rfl (mj_dt dt_X5_readHouse 8 rfl) ?_
      refine mj_go_sub (lv' := [(0, .ref 55), (1, .int s.1)]) (List.forall_mem_cons.mpr ⟨rfl, (List.forall_mem_cons.mpr ⟨rfl, (fun _ h9 => absurd h9 List.not_mem_nil)⟩)⟩) ?_
      exact k_X5_readHouse_28 q_2 hδ h
def f_X5_readHouse (N : Nat) (m : mj_m) : Option (Int32 × mj_m) := mj_lp N (f_X5_readHouse_2 N) (0, m)
theorem k_X5_readHouse {L : Nat} {xs : Nat → Int32} {δ N : Nat} {m : mj_m} (hδ : 9 ≤ δ) {a : Int32 × mj_m} (h : f_X5_readHouse N m = some a) : mj_Cl (mj_EX L xs) δ mY_X5_readHouse [.ref 55] (mj_fin m) (some (.int a.1), (mj_fin a.2)) := by
  obtain ⟨δ, rfl⟩ : ∃ d, δ = d + 1 := ⟨δ - 1, by omega⟩
  have hδ : 8 ≤ δ := by omega
  refine mj_cl_of ok_X5_readHouse (Nat.le_of_ble_eq_true rfl) ?_
  unfold f_X5_readHouse at h
  refine mj_go_iconst (v := 0) rfl (mj_dt dt_X5_readHouse 0 rfl) ?_
  refine mj_go_istore_n (k := 1) (by decide) (mj_dt dt_X5_readHouse 1 rfl) ?_
  refine mj_go_sub (lv' := [(0, .ref 55), (1, .int 0)]) (List.forall_mem_cons.mpr ⟨rfl, (List.forall_mem_cons.mpr ⟨rfl, (fun _ h9 => absurd h9 List.not_mem_nil)⟩)⟩) ?_
  exact k_X5_readHouse_2 hδ N _ _ h
def f_X7_addShake_56 (N : Nat) (v1 : Int32) (v2 : Int32) (m : mj_m) : Option (Int32 × mj_m) := if (m.1 56 8) < 4 then (mj_ck (mj_b 0 61 (m.1 56 8)) ( mj_mw (mj_wI m 61 ((m.1 56 8).toNatClampNeg) v1) (fun m3 => mj_ck (mj_b 0 62 (m3.1 56 8)) ( mj_mw (mj_wI m3 62 ((m3.1 56 8).toNatClampNeg) v2) (fun m5 => mj_mw (mj_wI m5 56 8 ((m5.1 56 8) + 1)) (fun m6 => some ((m6.1 56 8) - 1, m6))))))) else (some ((-1 : Int32), m))
theorem k_X7_addShake_56 {L : Nat} {xs : Nat → Int32} {δ N : Nat} {v1 : Int32} {v2 : Int32} {m : mj_m} (_ : 0 ≤ δ) {a : Int32 × mj_m} (h : f_X7_addShake_56 N v1 v2 m = some a) : mj_Cl (mj_EX L xs) δ mY_X7_addShake [.ref 56, .int v1, .int v2] (mj_fin m) (some (.int a.1), (mj_fin a.2)) := by
  refine mj_cl_of ok_X7_addShake (Nat.le_of_ble_eq_true rfl) ?_
  unfold f_X7_addShake_56 at h
  refine mj_go_aload_n (k := 0) (x := 56) rfl (mj_dt dt_X7_addShake 0 rfl) ?_
  refine mk_getI (c := 7) (k := 8) (Or.inl fd_7_8) (Or.inl fl_X7_40) ho_56 (mj_dt dt_X7_addShake 1 rfl) ?_
  refine mj_go_iconst (v := 4) rfl (mj_dt dt_X7_addShake 2 rfl) ?_
  refine mj_go_icmp_lt (tgt := 10) rfl (mj_dt dt_X7_addShake 3 rfl) (fun b1 => ?_) (fun b1 => ?_)
  · rw [if_pos b1] at h
    refine mj_go_aload_n (k := 0) (x := 56) rfl (mj_dt dt_X7_addShake 6 rfl) ?_
    refine ml_getR (c := 7) (k := 4) (q := 61) fd_7_4 rf_56_4 (Or.inl fl_X7_27) ho_56 (mj_dt dt_X7_addShake 7 rfl) ?_
    refine mj_go_aload_n (k := 0) (x := 56) rfl (mj_dt dt_X7_addShake 8 rfl) ?_
    refine mk_getI (c := 7) (k := 8) (Or.inl fd_7_8) (Or.inl fl_X7_40) ho_56 (mj_dt dt_X7_addShake 9 rfl) ?_
    refine mj_go_iload_n (k := 1) (x := v1) rfl (mj_dt dt_X7_addShake 10 rfl) ?_
    obtain ⟨c2, h⟩ := mj_ck_some h
    obtain ⟨m3, em3, h⟩ := mj_mw_some h
    refine ml_iast c2 (mj_dt dt_X7_addShake 11 rfl) ?_
    refine ml_eqm (M1 := (mj_fin m3)) (by rw [em3] <;> rfl) ?_
    refine mj_go_aload_n (k := 0) (x := 56) rfl (mj_dt dt_X7_addShake 12 rfl) ?_
    refine ml_getR (c := 7) (k := 5) (q := 62) fd_7_5 rf_56_5 (Or.inl fl_X7_30) ho_56 (mj_dt dt_X7_addShake 13 rfl) ?_
    refine mj_go_aload_n (k := 0) (x := 56) rfl (mj_dt dt_X7_addShake 14 rfl) ?_
    refine mk_getI (c := 7) (k := 8) (Or.inl fd_7_8) (Or.inl fl_X7_40) ho_56 (mj_dt dt_X7_addShake 15 rfl) ?_
    refine mj_go_iload_n (k := 2) (x := v2) rfl (mj_dt dt_X7_addShake 16 rfl) ?_
    obtain ⟨c4, h⟩ := mj_ck_some h
    obtain ⟨m5, em5, h⟩ := mj_mw_some h
    refine ml_iast c4 (mj_dt dt_X7_addShake 17 rfl) ?_
    refine ml_eqm (M1 := (mj_fin m5)) (by rw [em5] <;> rfl) ?_
    refine mj_go_aload_n (k := 0) (x := 56) rfl (mj_dt dt_X7_addShake 18 rfl) ?_
    refine mj_go_dup rfl (mj_dt dt_X7_addShake 19 rfl) ?_
    refine mk_getI (c := 7) (k := 8) (Or.inl fd_7_8) (Or.inl fl_X7_40) ho_56 (mj_dt dt_X7_addShake 20 rfl) ?_
    refine mj_go_iconst (v := 1) rfl (mj_dt dt_X7_addShake 21 rfl) ?_
    refine mj_go_iadd (mj_dt dt_X7_addShake 22 rfl) ?_
    obtain ⟨m6, em6, h⟩ := mj_mw_some h
    refine ml_putI (c := 7) (k := 8) fd_7_8 rfl fl_X7_40 ho_56 (mj_dt dt_X7_addShake 23 rfl) ?_
    refine ml_eqm (M1 := (mj_fin m6)) (by rw [em6] <;> rfl) ?_
    refine mj_go_aload_n (k := 0) (x := 56) rfl (mj_dt dt_X7_addShake 24 rfl) ?_
    refine mk_getI (c := 7) (k := 8) (Or.inl fd_7_8) (Or.inl fl_X7_40) ho_56 (mj_dt dt_X7_addShake 25 rfl) ?_
    refine mj_go_iconst (v := 1) rfl (mj_dt dt_X7_addShake 26 rfl) ?_
    refine mj_go_isub (mj_dt dt_X7_addShake 27 rfl) ?_
    obtain rfl := Option.some.inj h
    exact mj_go_ret (v := some (.int ((m6.1 56 8) - 1))) (Nat.le_of_ble_eq_true rfl) (mj_retI (mj_dt dt_X7_addShake 28 rfl) rfl)
  · rw [if_neg b1] at h
    refine mj_go_iconst (v := -1) rfl (mj_dt dt_X7_addShake 4 rfl) ?_
    obtain rfl := Option.some.inj h
    exact mj_go_ret (v := some (.int (-1 : Int32))) (Nat.le_of_ble_eq_true rfl) (mj_retI (mj_dt dt_X7_addShake 5 rfl) rfl)
def f_X5_readShake_24 (N : Nat) (v1 : Int32) (s0 : Int32) (m : mj_m) : Option (Int32 × mj_m) := if s0 = (-1 : Int32) then (some (0, m)) else ((f_X7_addShake_56 N v1 s0 m).bind (fun r2 => some (1, r2.2)))
theorem k_X5_readShake_24 {L : Nat} {xs : Nat → Int32} {δ N : Nat} {v1 : Int32} {s0 : Int32} {m : mj_m} (hδ : 1 ≤ δ) {a : Int32 × mj_m} (h : f_X5_readShake_24 N v1 s0 m = some a) : mj_Go (mj_EX L xs) (δ + 1) mY_X5_readShake 24 [(0, .ref 55), (1, .int v1)] [.int s0] (mj_fin m) (some (.int a.1), (mj_fin a.2)) := by
  unfold f_X5_readShake_24 at h
  refine mj_go_istore_n (k := 2) (by decide) (mj_dt dt_X5_readShake 14 rfl) ?_
  refine mj_go_iload_n (k := 2) (x := s0) rfl (mj_dt dt_X5_readShake 15 rfl) ?_
  refine mj_go_iconst (v := -1) rfl (mj_dt dt_X5_readShake 16 rfl) ?_
  refine mj_go_icmp_ne (tgt := 32) rfl (mj_dt dt_X5_readShake 17 rfl) (fun b1 => ?_) (fun b1 => ?_)
  · rw [if_neg b1] at h
    refine mj_go_aload_n (k := 0) (x := 55) rfl (mj_dt dt_X5_readShake 20 rfl) ?_
    refine ml_getR (c := 5) (k := 1) (q := 56) fd_5_1 rf_55_1 (Or.inl fl_X5_12) ho_55 (mj_dt dt_X5_readShake 21 rfl) ?_
    refine mj_go_iload_n (k := 1) (x := v1) rfl (mj_dt dt_X5_readShake 22 rfl) ?_
    refine mj_go_iload_n (k := 2) (x := s0) rfl (mj_dt dt_X5_readShake 23 rfl) ?_
    obtain ⟨r2, er2, h⟩ := mj_bind_some h
    refine ml_callV (Y' := mY_X7_addShake) (as := [.int v1, .int s0]) (rest := []) (c := 7) (v := (some (.int r2.1))) (M1 := (mj_fin r2.2)) ho_56 rfl lm_X5_128 wc_X7_addShake pl_X7_addShake ok_X7_addShake rfl rfl (Nat.le_of_ble_eq_true rfl) (k_X7_addShake_56 (by omega) er2) (mj_dt dt_X5_readShake 24 rfl) ?_
    refine mj_go_pop rfl (mj_dt dt_X5_readShake 25 rfl) ?_
    refine mj_go_iconst (v := 1) rfl (mj_dt dt_X5_readShake 26 rfl) ?_
    obtain rfl := Option.some.inj h
    exact mj_go_ret (v := some (.int 1)) (Nat.le_of_ble_eq_true rfl) (mj_retZ (mj_dt dt_X5_readShake 27 rfl) rfl rfl)
  · rw [if_pos b1] at h
    refine mj_go_iconst (v := 0) rfl (mj_dt dt_X5_readShake 18 rfl) ?_
    obtain rfl := Option.some.inj h
    exact mj_go_ret (v := some (.int 0)) (Nat.le_of_ble_eq_true rfl) (mj_retZ (mj_dt dt_X5_readShake 19 rfl) rfl rfl)
def f_X5_readShake (N : Nat) (m : mj_m) : Option (Int32 × mj_m) := (f_X5_readNumber N 0 99 m).bind (fun r1 => if r1.1 = (-1 : Int32) then (f_X5_readShake_24 N r1.1 (-1 : Int32) r1.2) else ((f_X5_readNumber N 0 9 r1.2).bind (fun r3 => f_X5_readShake_24 N r1.1 r3.1 r3.2)))
theorem k_X5_readShake {L : Nat} {xs : Nat → Int32} {δ N : Nat} {m : mj_m} (hδ : 2 ≤ δ) {a : Int32 × mj_m} (h : f_X5_readShake N m = some a) : mj_Cl (mj_EX L xs) δ mY_X5_readShake [.ref 55] (mj_fin m) (some (.int a.1), (mj_fin a.2)) := by
  obtain ⟨δ, rfl⟩ : ∃ d, δ = d + 1 := ⟨δ - 1, by omega⟩
  have hδ : 1 ≤ δ := by omega
  refine mj_cl_of ok_X5_readShake (Nat.le_of_ble_eq_true rfl) ?_
  unfold f_X5_readShake at h
  refine mj_go_aload_n (k := 0) (x := 55) rfl (mj_dt dt_X5_readShake 0 rfl) ?_
  refine mj_go_iconst (v := 0) rfl (mj_dt dt_X5_readShake 1 rfl) ?_
  refine mj_go_bipush (v := 99) rfl (mj_dt dt_X5_readShake 2 rfl) ?_
  obtain ⟨r1, er1, h⟩ := mj_bind_some h
  refine ml_callV (Y' := mY_X5_readNumber) (as := [.int 0, .int 99]) (rest := []) (c := 5) (v := (some (.int r1.1))) (M1 := (mj_fin r1.2)) ho_55 rfl lm_X5_91 wc_X5_readNumber pl_X5_readNumber ok_X5_readNumber rfl rfl (Nat.le_of_ble_eq_true rfl) (k_X5_readNumber (by omega) er1) (mj_dt dt_X5_readShake 3 rfl) ?_
  refine mj_go_istore_n (k := 1) (by decide) (mj_dt dt_X5_readShake 4 rfl) ?_
  refine mj_go_iload_n (k := 1) (x := r1.1) rfl (mj_dt dt_X5_readShake 5 rfl) ?_
  refine mj_go_iconst (v := -1) rfl (mj_dt dt_X5_readShake 6 rfl) ?_
  refine mj_go_icmp_ne (tgt := 17) rfl (mj_dt dt_X5_readShake 7 rfl) (fun b2 => ?_) (fun b2 => ?_)
  · rw [if_neg b2] at h
    refine mj_go_aload_n (k := 0) (x := 55) rfl (mj_dt dt_X5_readShake 10 rfl) ?_
    refine mj_go_iconst (v := 0) rfl (mj_dt dt_X5_readShake 11 rfl) ?_
    refine mj_go_bipush (v := 9) rfl (mj_dt dt_X5_readShake 12 rfl) ?_
    obtain ⟨r3, er3, h⟩ := mj_bind_some h
    refine ml_callV (Y' := mY_X5_readNumber) (as := [.int 0, .int 9]) (rest := []) (c := 5) (v := (some (.int r3.1))) (M1 := (mj_fin r3.2)) ho_55 rfl lm_X5_91 wc_X5_readNumber pl_X5_readNumber ok_X5_readNumber rfl rfl (Nat.le_of_ble_eq_true rfl) (k_X5_readNumber (by omega) er3) (mj_dt dt_X5_readShake 13 rfl) ?_
    refine mj_go_sub (lv' := [(0, .ref 55), (1, .int r1.1)]) (List.forall_mem_cons.mpr ⟨rfl, (List.forall_mem_cons.mpr ⟨rfl, (fun _ h9 => absurd h9 List.not_mem_nil)⟩)⟩) ?_
    exact k_X5_readShake_24 hδ h
  · rw [if_pos b2] at h
    refine mj_go_iconst (v := -1) rfl (mj_dt dt_X5_readShake 8 rfl) ?_
    refine mj_go_goto (tgt := 24) rfl (mj_dt dt_X5_readShake 9 rfl) ?_
    refine mj_go_sub (lv' := [(0, .ref 55), (1, .int r1.1)]) (List.forall_mem_cons.mpr ⟨rfl, (List.forall_mem_cons.mpr ⟨rfl, (fun _ h9 => absurd h9 List.not_mem_nil)⟩)⟩) ?_
    exact k_X5_readShake_24 hδ h
def f_X5_readItem (N : Nat) (m : mj_m) : Option (Int32 × mj_m) := mj_mw (m.1 55 5) (fun x1 => (f_X5_readWord N 0 5 m).bind (fun r2 => if r2.1 = 0 then (if 12 ≤ (r2.2.1 56 6) then ((f_X5_fail N x1 r2.2).bind (fun r5 => (mj_ck (r5.1 &&& 1 == r5.1) ( some (r5.1, r5.2))))) else ((f_X5_readStreet N r2.2).bind (fun r5 => (mj_ck (r5.1 &&& 1 == r5.1) ( some (r5.1, r5.2)))))) else if r2.1 = 1 then (if 10 ≤ (r2.2.1 56 7) then ((f_X5_fail N x1 r2.2).bind (fun r6 => (mj_ck (r6.1 &&& 1 == r6.1) ( some (r6.1, r6.2))))) else ((f_X5_readHouse N r2.2).bind (fun r6 => (mj_ck (r6.1 &&& 1 == r6.1) ( some (r6.1, r6.2)))))) else if r2.1 = 2 then (if 4 ≤ (r2.2.1 56 8) then ((f_X5_fail N x1 r2.2).bind (fun r7 => (mj_ck (r7.1 &&& 1 == r7.1) ( some (r7.1, r7.2))))) else ((f_X5_readShake N r2.2).bind (fun r7 => (mj_ck (r7.1 &&& 1 == r7.1) ( some (r7.1, r7.2)))))) else if r2.1 = 3 then ((f_X5_readNumber N 1 999 r2.2).bind (fun r7 => mj_mw (mj_wI r7.2 56 9 r7.1) (fun m8 => if (m8.1 55 7) = (-1 : Int32) then ((some (1, m8))) else ((some (0, m8)))))) else if r2.1 = 4 then ((f_X5_readNumber N 0 10 r2.2).bind (fun r8 => mj_mw (mj_wI r8.2 56 10 r8.1) (fun m9 => if (m9.1 55 7) = (-1 : Int32) then ((some (1, m9))) else ((some (0, m9)))))) else if r2.1 = 5 then ((f_X5_readNumber N 0 10 r2.2).bind (fun r9 => mj_mw (mj_wI r9.2 56 11 r9.1) (fun m10 => if (m10.1 55 7) = (-1 : Int32) then ((some (1, m10))) else ((some (0, m10)))))) else (some (0, r2.2))))
theorem k_X5_readItem {L : Nat} {xs : Nat → Int32} {δ N : Nat} {m : mj_m} (hδ : 10 ≤ δ) {a : Int32 × mj_m} (h : f_X5_readItem N m = some a) : mj_Cl (mj_EX L xs) δ mY_X5_readItem [.ref 55] (mj_fin m) (some (.int a.1), (mj_fin a.2)) := by
  obtain ⟨δ, rfl⟩ : ∃ d, δ = d + 1 := ⟨δ - 1, by omega⟩
  have hδ : 9 ≤ δ := by omega
  refine mj_cl_of ok_X5_readItem (Nat.le_of_ble_eq_true rfl) ?_
  unfold f_X5_readItem at h
  refine mj_go_aload_n (k := 0) (x := 55) rfl (mj_dt dt_X5_readItem 0 rfl) ?_
  refine mk_getI (c := 5) (k := 5) (Or.inl fd_5_5) (Or.inl fl_X5_29) ho_55 (mj_dt dt_X5_readItem 1 rfl) ?_
  obtain ⟨x1, ex1, h⟩ := mj_mw_some h
  refine ml_eqi ex1 ?_
  refine mj_go_istore_n (k := 1) (by decide) (mj_dt dt_X5_readItem 2 rfl) ?_
  refine mj_go_aload_n (k := 0) (x := 55) rfl (mj_dt dt_X5_readItem 3 rfl) ?_
  refine mj_go_iconst (v := 0) rfl (mj_dt dt_X5_readItem 4 rfl) ?_
  refine mj_go_iconst (v := 5) rfl (mj_dt dt_X5_readItem 5 rfl) ?_
  obtain ⟨r2, er2, h⟩ := mj_bind_some h
  refine ml_callV (Y' := mY_X5_readWord) (as := [.int 0, .int 5]) (rest := []) (c := 5) (v := (some (.int r2.1))) (M1 := (mj_fin r2.2)) ho_55 rfl lm_X5_69 wc_X5_readWord pl_X5_readWord ok_X5_readWord rfl rfl (Nat.le_of_ble_eq_true rfl) (k_X5_readWord (by omega) er2) (mj_dt dt_X5_readItem 6 rfl) ?_
  refine mj_go_istore_n (k := 2) (by decide) (mj_dt dt_X5_readItem 7 rfl) ?_
  refine mj_go_iload_n (k := 2) (x := r2.1) rfl (mj_dt dt_X5_readItem 8 rfl) ?_
  refine mj_go_tsw [(0, 39), (1, 64), (2, 89), (3, 113), (4, 142), (5, 170)] (by decide) (by decide) (mj_dt dt_X5_readItem 9 rfl) ?_
  refine ⟨fun b3 => ?_, fun b3 => ?_⟩
  · rw [if_pos b3] at h
    refine ⟨52, by decide, ?_⟩
    refine mj_go_aload_n (k := 0) (x := 55) rfl (mj_dt dt_X5_readItem 10 rfl) ?_
    refine ml_getR (c := 5) (k := 1) (q := 56) fd_5_1 rf_55_1 (Or.inl fl_X5_12) ho_55 (mj_dt dt_X5_readItem 11 rfl) ?_
    refine mk_getI (c := 7) (k := 6) (Or.inl fd_7_6) (Or.inl fl_X5_73) ho_56 (mj_dt dt_X5_readItem 12 rfl) ?_
    refine mj_go_bipush (v := 12) rfl (mj_dt dt_X5_readItem 13 rfl) ?_
    refine mj_go_icmp_ge (tgt := 71) rfl (mj_dt dt_X5_readItem 14 rfl) (fun b4 => ?_) (fun b4 => ?_)
    · rw [if_pos b4] at h
      refine mj_go_aload_n (k := 0) (x := 55) rfl (mj_dt dt_X5_readItem 18 rfl) ?_
      refine mj_go_iload_n (k := 1) (x := x1) rfl (mj_dt dt_X5_readItem 19 rfl) ?_
      obtain ⟨r5, er5, h⟩ := mj_bind_some h
      refine ml_callV (Y' := mY_X5_fail) (as := [.int x1]) (rest := []) (c := 5) (v := (some (.int r5.1))) (M1 := (mj_fin r5.2)) ho_55 rfl lm_X5_57 wc_X5_fail pl_X5_fail ok_X5_fail rfl rfl (Nat.le_of_ble_eq_true rfl) (k_X5_fail (by omega) er5) (mj_dt dt_X5_readItem 20 rfl) ?_
      obtain ⟨c6, h⟩ := mj_ck_some h
      obtain rfl := Option.some.inj h
      exact mj_go_ret (v := some (.int r5.1)) (Nat.le_of_ble_eq_true rfl) (mj_retZ (mj_dt dt_X5_readItem 21 rfl) rfl (eq_of_beq c6))
    · rw [if_neg b4] at h
      refine mj_go_aload_n (k := 0) (x := 55) rfl (mj_dt dt_X5_readItem 15 rfl) ?_
      obtain ⟨r5, er5, h⟩ := mj_bind_some h
      refine ml_callV (Y' := mY_X5_readStreet) (as := []) (rest := []) (c := 5) (v := (some (.int r5.1))) (M1 := (mj_fin r5.2)) ho_55 rfl lm_X5_76 wc_X5_readStreet pl_X5_readStreet ok_X5_readStreet rfl rfl (Nat.le_of_ble_eq_true rfl) (k_X5_readStreet (by omega) er5) (mj_dt dt_X5_readItem 16 rfl) ?_
      refine mj_go_goto (tgt := 76) rfl (mj_dt dt_X5_readItem 17 rfl) ?_
      obtain ⟨c6, h⟩ := mj_ck_some h
      obtain rfl := Option.some.inj h
      exact mj_go_ret (v := some (.int r5.1)) (Nat.le_of_ble_eq_true rfl) (mj_retZ (mj_dt dt_X5_readItem 21 rfl) rfl (eq_of_beq c6))
  · rw [if_neg b3] at h
    refine ⟨fun b4 => ?_, fun b4 => ?_⟩
    · rw [if_pos b4] at h
      refine ⟨77, by decide, ?_⟩
      refine mj_go_aload_n (k := 0) (x := 55) rfl (mj_dt dt_X5_readItem 22 rfl) ?_
      refine ml_getR (c := 5) (k := 1) (q := 56) fd_5_1 rf_55_1 (Or.inl fl_X5_12) ho_55 (mj_dt dt_X5_readItem 23 rfl) ?_
      refine mk_getI (c := 7) (k := 7) (Or.inl fd_7_7) (Or.inl fl_X5_79) ho_56 (mj_dt dt_X5_readItem 24 rfl) ?_
      refine mj_go_bipush (v := 10) rfl (mj_dt dt_X5_readItem 25 rfl) ?_
      refine mj_go_icmp_ge (tgt := 96) rfl (mj_dt dt_X5_readItem 26 rfl) (fun b5 => ?_) (fun b5 => ?_)
      · rw [if_pos b5] at h
        refine mj_go_aload_n (k := 0) (x := 55) rfl (mj_dt dt_X5_readItem 30 rfl) ?_
        refine mj_go_iload_n (k := 1) (x := x1) rfl (mj_dt dt_X5_readItem 31 rfl) ?_
        obtain ⟨r6, er6, h⟩ := mj_bind_some h
        refine ml_callV (Y' := mY_X5_fail) (as := [.int x1]) (rest := []) (c := 5) (v := (some (.int r6.1))) (M1 := (mj_fin r6.2)) ho_55 rfl lm_X5_57 wc_X5_fail pl_X5_fail ok_X5_fail rfl rfl (Nat.le_of_ble_eq_true rfl) (k_X5_fail (by omega) er6) (mj_dt dt_X5_readItem 32 rfl) ?_
        obtain ⟨c7, h⟩ := mj_ck_some h
        obtain rfl := Option.some.inj h
        exact mj_go_ret (v := some (.int r6.1)) (Nat.le_of_ble_eq_true rfl) (mj_retZ (mj_dt dt_X5_readItem 33 rfl) rfl (eq_of_beq c7))
      · rw [if_neg b5] at h
        refine mj_go_aload_n (k := 0) (x := 55) rfl (mj_dt dt_X5_readItem 27 rfl) ?_
        obtain ⟨r6, er6, h⟩ := mj_bind_some h
        refine ml_callV (Y' := mY_X5_readHouse) (as := []) (rest := []) (c := 5) (v := (some (.int r6.1))) (M1 := (mj_fin r6.2)) ho_55 rfl lm_X5_82 wc_X5_readHouse pl_X5_readHouse ok_X5_readHouse rfl rfl (Nat.le_of_ble_eq_true rfl) (k_X5_readHouse (by omega) er6) (mj_dt dt_X5_readItem 28 rfl) ?_
        refine mj_go_goto (tgt := 101) rfl (mj_dt dt_X5_readItem 29 rfl) ?_
        obtain ⟨c7, h⟩ := mj_ck_some h
        obtain rfl := Option.some.inj h
        exact mj_go_ret (v := some (.int r6.1)) (Nat.le_of_ble_eq_true rfl) (mj_retZ (mj_dt dt_X5_readItem 33 rfl) rfl (eq_of_beq c7))
    · rw [if_neg b4] at h
      refine ⟨fun b5 => ?_, fun b5 => ?_⟩
      · rw [if_pos b5] at h
        refine ⟨102, by decide, ?_⟩
        refine mj_go_aload_n (k := 0) (x := 55) rfl (mj_dt dt_X5_readItem 34 rfl) ?_
        refine ml_getR (c := 5) (k := 1) (q := 56) fd_5_1 rf_55_1 (Or.inl fl_X5_12) ho_55 (mj_dt dt_X5_readItem 35 rfl) ?_
        refine mk_getI (c := 7) (k := 8) (Or.inl fd_7_8) (Or.inl fl_X5_85) ho_56 (mj_dt dt_X5_readItem 36 rfl) ?_
        refine mj_go_iconst (v := 4) rfl (mj_dt dt_X5_readItem 37 rfl) ?_
        refine mj_go_icmp_ge (tgt := 120) rfl (mj_dt dt_X5_readItem 38 rfl) (fun b6 => ?_) (fun b6 => ?_)
        · rw [if_pos b6] at h
          refine mj_go_aload_n (k := 0) (x := 55) rfl (mj_dt dt_X5_readItem 42 rfl) ?_
          refine mj_go_iload_n (k := 1) (x := x1) rfl (mj_dt dt_X5_readItem 43 rfl) ?_
          obtain ⟨r7, er7, h⟩ := mj_bind_some h
          refine ml_callV (Y' := mY_X5_fail) (as := [.int x1]) (rest := []) (c := 5) (v := (some (.int r7.1))) (M1 := (mj_fin r7.2)) ho_55 rfl lm_X5_57 wc_X5_fail pl_X5_fail ok_X5_fail rfl rfl (Nat.le_of_ble_eq_true rfl) (k_X5_fail (by omega) er7) (mj_dt dt_X5_readItem 44 rfl) ?_
          obtain ⟨c8, h⟩ := mj_ck_some h
          obtain rfl := Option.some.inj h
          exact mj_go_ret (v := some (.int r7.1)) (Nat.le_of_ble_eq_true rfl) (mj_retZ (mj_dt dt_X5_readItem 45 rfl) rfl (eq_of_beq c8))
        · rw [if_neg b6] at h
          refine mj_go_aload_n (k := 0) (x := 55) rfl (mj_dt dt_X5_readItem 39 rfl) ?_
          obtain ⟨r7, er7, h⟩ := mj_bind_some h
          refine ml_callV (Y' := mY_X5_readShake) (as := []) (rest := []) (c := 5) (v := (some (.int r7.1))) (M1 := (mj_fin r7.2)) ho_55 rfl lm_X5_88 wc_X5_readShake pl_X5_readShake ok_X5_readShake rfl rfl (Nat.le_of_ble_eq_true rfl) (k_X5_readShake (by omega) er7) (mj_dt dt_X5_readItem 40 rfl) ?_
          refine mj_go_goto (tgt := 125) rfl (mj_dt dt_X5_readItem 41 rfl) ?_
          obtain ⟨c8, h⟩ := mj_ck_some h
          obtain rfl := Option.some.inj h
          exact mj_go_ret (v := some (.int r7.1)) (Nat.le_of_ble_eq_true rfl) (mj_retZ (mj_dt dt_X5_readItem 45 rfl) rfl (eq_of_beq c8))
      · rw [if_neg b5] at h
        refine ⟨fun b6 => ?_, fun b6 => ?_⟩
        · rw [if_pos b6] at h
          refine ⟨126, by decide, ?_⟩
          refine mj_go_aload_n (k := 0) (x := 55) rfl (mj_dt dt_X5_readItem 46 rfl) ?_
          refine ml_getR (c := 5) (k := 1) (q := 56) fd_5_1 rf_55_1 (Or.inl fl_X5_12) ho_55 (mj_dt dt_X5_readItem 47 rfl) ?_
          refine mj_go_aload_n (k := 0) (x := 55) rfl (mj_dt dt_X5_readItem 48 rfl) ?_
          refine mj_go_iconst (v := 1) rfl (mj_dt dt_X5_readItem 49 rfl) ?_
          refine mj_go_sipush (v := 999) rfl (mj_dt dt_X5_readItem 50 rfl) ?_
          obtain ⟨r7, er7, h⟩ := mj_bind_some h
          refine ml_callV (Y' := mY_X5_readNumber) (as := [.int 1, .int 999]) (rest := [.ref 56]) (c := 5) (v := (some (.int r7.1))) (M1 := (mj_fin r7.2)) ho_55 rfl lm_X5_91 wc_X5_readNumber pl_X5_readNumber ok_X5_readNumber rfl rfl (Nat.le_of_ble_eq_true rfl) (k_X5_readNumber (by omega) er7) (mj_dt dt_X5_readItem 51 rfl) ?_
          obtain ⟨m8, em8, h⟩ := mj_mw_some h
          refine ml_putI (c := 7) (k := 9) fd_7_9 rfl fl_X5_94 ho_56 (mj_dt dt_X5_readItem 52 rfl) ?_
          refine ml_eqm (M1 := (mj_fin m8)) (by rw [em8] <;> rfl) ?_
          refine mj_go_aload_n (k := 0) (x := 55) rfl (mj_dt dt_X5_readItem 53 rfl) ?_
          refine mk_getI (c := 5) (k := 7) (Or.inl fd_5_7) (Or.inl fl_X5_35) ho_55 (mj_dt dt_X5_readItem 54 rfl) ?_
          refine mj_go_iconst (v := -1) rfl (mj_dt dt_X5_readItem 55 rfl) ?_
          refine mj_go_icmp_ne (tgt := 153) rfl (mj_dt dt_X5_readItem 56 rfl) (fun b9 => ?_) (fun b9 => ?_)
          · rw [if_neg b9] at h
            refine mj_go_iconst (v := 0) rfl (mj_dt dt_X5_readItem 59 rfl) ?_
            obtain rfl := Option.some.inj h
            exact mj_go_ret (v := some (.int 0)) (Nat.le_of_ble_eq_true rfl) (mj_retZ (mj_dt dt_X5_readItem 60 rfl) rfl rfl)
          · rw [if_pos b9] at h
            refine mj_go_iconst (v := 1) rfl (mj_dt dt_X5_readItem 57 rfl) ?_
            refine mj_go_goto (tgt := 154) rfl (mj_dt dt_X5_readItem 58 rfl) ?_
            obtain rfl := Option.some.inj h
            exact mj_go_ret (v := some (.int 1)) (Nat.le_of_ble_eq_true rfl) (mj_retZ (mj_dt dt_X5_readItem 60 rfl) rfl rfl)
        · rw [if_neg b6] at h
          refine ⟨fun b7 => ?_, fun b7 => ?_⟩
          · rw [if_pos b7] at h
            refine ⟨155, by decide, ?_⟩
            refine mj_go_aload_n (k := 0) (x := 55) rfl (mj_dt dt_X5_readItem 61 rfl) ?_
            refine ml_getR (c := 5) (k := 1) (q := 56) fd_5_1 rf_55_1 (Or.inl fl_X5_12) ho_55 (mj_dt dt_X5_readItem 62 rfl) ?_
            refine mj_go_aload_n (k := 0) (x := 55) rfl (mj_dt dt_X5_readItem 63 rfl) ?_
            refine mj_go_iconst (v := 0) rfl (mj_dt dt_X5_readItem 64 rfl) ?_
            refine mj_go_bipush (v := 10) rfl (mj_dt dt_X5_readItem 65 rfl) ?_
            obtain ⟨r8, er8, h⟩ := mj_bind_some h
            refine ml_callV (Y' := mY_X5_readNumber) (as := [.int 0, .int 10]) (rest := [.ref 56]) (c := 5) (v := (some (.int r8.1))) (M1 := (mj_fin r8.2)) ho_55 rfl lm_X5_91 wc_X5_readNumber pl_X5_readNumber ok_X5_readNumber rfl rfl (Nat.le_of_ble_eq_true rfl) (k_X5_readNumber (by omega) er8) (mj_dt dt_X5_readItem 66 rfl) ?_
            obtain ⟨m9, em9, h⟩ := mj_mw_some h
            refine ml_putI (c := 7) (k := 10) fd_7_10 rfl fl_X5_97 ho_56 (mj_dt dt_X5_readItem 67 rfl) ?_
            refine ml_eqm (M1 := (mj_fin m9)) (by rw [em9] <;> rfl) ?_
            refine mj_go_aload_n (k := 0) (x := 55) rfl (mj_dt dt_X5_readItem 68 rfl) ?_
            refine mk_getI (c := 5) (k := 7) (Or.inl fd_5_7) (Or.inl fl_X5_35) ho_55 (mj_dt dt_X5_readItem 69 rfl) ?_
            refine mj_go_iconst (v := -1) rfl (mj_dt dt_X5_readItem 70 rfl) ?_
            refine mj_go_icmp_ne (tgt := 181) rfl (mj_dt dt_X5_readItem 71 rfl) (fun b10 => ?_) (fun b10 => ?_)
            · rw [if_neg b10] at h
              refine mj_go_iconst (v := 0) rfl (mj_dt dt_X5_readItem 74 rfl) ?_
              obtain rfl := Option.some.inj h
              exact mj_go_ret (v := some (.int 0)) (Nat.le_of_ble_eq_true rfl) (mj_retZ (mj_dt dt_X5_readItem 75 rfl) rfl rfl)
            · rw [if_pos b10] at h
              refine mj_go_iconst (v := 1) rfl (mj_dt dt_X5_readItem 72 rfl) ?_
              refine mj_go_goto (tgt := 182) rfl (mj_dt dt_X5_readItem 73 rfl) ?_
              obtain rfl := Option.some.inj h
              exact mj_go_ret (v := some (.int 1)) (Nat.le_of_ble_eq_true rfl) (mj_retZ (mj_dt dt_X5_readItem 75 rfl) rfl rfl)
          · rw [if_neg b7] at h
            refine ⟨fun b8 => ?_, fun b8 => ?_⟩
            · rw [if_pos b8] at h
              refine ⟨183, by decide, ?_⟩
              refine mj_go_aload_n (k := 0) (x := 55) rfl (mj_dt dt_X5_readItem 76 rfl) ?_
              refine ml_getR (c := 5) (k := 1) (q := 56) fd_5_1 rf_55_1 (Or.inl fl_X5_12) ho_55 (mj_dt dt_X5_readItem 77 rfl) ?_
              refine mj_go_aload_n (k := 0) (x := 55) rfl (mj_dt dt_X5_readItem 78 rfl) ?_
              refine mj_go_iconst (v := 0) rfl (mj_dt dt_X5_readItem 79 rfl) ?_
              refine mj_go_bipush (v := 10) rfl (mj_dt dt_X5_readItem 80 rfl) ?_
              obtain ⟨r9, er9, h⟩ := mj_bind_some h
              refine ml_callV (Y' := mY_X5_readNumber) (as := [.int 0, .int 10]) (rest := [.ref 56]) (c := 5) (v := (some (.int r9.1))) (M1 := (mj_fin r9.2)) ho_55 rfl lm_X5_91 wc_X5_readNumber pl_X5_readNumber ok_X5_readNumber rfl rfl (Nat.le_of_ble_eq_true rfl) (k_X5_readNumber (by omega) er9) (mj_dt dt_X5_readItem 81 rfl) ?_
              obtain ⟨m10, em10, h⟩ := mj_mw_some h
              refine ml_putI (c := 7) (k := 11) fd_7_11 rfl fl_X5_100 ho_56 (mj_dt dt_X5_readItem 82 rfl) ?_
              refine ml_eqm (M1 := (mj_fin m10)) (by rw [em10] <;> rfl) ?_
              refine mj_go_aload_n (k := 0) (x := 55) rfl (mj_dt dt_X5_readItem 83 rfl) ?_
              refine mk_getI (c := 5) (k := 7) (Or.inl fd_5_7) (Or.inl fl_X5_35) ho_55 (mj_dt dt_X5_readItem 84 rfl) ?_
              refine mj_go_iconst (v := -1) rfl (mj_dt dt_X5_readItem 85 rfl) ?_
              refine mj_go_icmp_ne (tgt := 209) rfl (mj_dt dt_X5_readItem 86 rfl) (fun b11 => ?_) (fun b11 => ?_)
              · rw [if_neg b11] at h
                refine mj_go_iconst (v := 0) rfl (mj_dt dt_X5_readItem 89 rfl) ?_
                obtain rfl := Option.some.inj h
                exact mj_go_ret (v := some (.int 0)) (Nat.le_of_ble_eq_true rfl) (mj_retZ (mj_dt dt_X5_readItem 90 rfl) rfl rfl)
              · rw [if_pos b11] at h
                refine mj_go_iconst (v := 1) rfl (mj_dt dt_X5_readItem 87 rfl) ?_
                refine mj_go_goto (tgt := 210) rfl (mj_dt dt_X5_readItem 88 rfl) ?_
                obtain rfl := Option.some.inj h
                exact mj_go_ret (v := some (.int 1)) (Nat.le_of_ble_eq_true rfl) (mj_retZ (mj_dt dt_X5_readItem 90 rfl) rfl rfl)
            · rw [if_neg b8] at h
              refine ⟨211, by decide, ?_⟩
              refine mj_go_iconst (v := 0) rfl (mj_dt dt_X5_readItem 91 rfl) ?_
              obtain rfl := Option.some.inj h
              exact mj_go_ret (v := some (.int 0)) (Nat.le_of_ble_eq_true rfl) (mj_retZ (mj_dt dt_X5_readItem 92 rfl) rfl rfl)
def f_X7_becomeLike_1_56_32 (N : Nat) (k_32 : Int32 × mj_m → Option (mj_m)) (s : Int32 × mj_m) : Option (mj_m) := if 10 ≤ s.1 then (mj_ck (mj_p 0 60 5 0 0 10) ( mj_mw (mj_kI s.2 60 5 ((0 : Int32).toNatClampNeg) ((0 : Int32).toNatClampNeg) ((10 : Int32).toNatClampNeg)) (fun m3 => mj_ck (mj_p 0 61 6 0 0 4) ( mj_mw (mj_kI m3 61 6 ((0 : Int32).toNatClampNeg) ((0 : Int32).toNatClampNeg) ((4 : Int32).toNatClampNeg)) (fun m5 => mj_ck (mj_p 0 62 7 0 0 4) ( mj_mw (mj_kI m5 62 7 ((0 : Int32).toNatClampNeg) ((0 : Int32).toNatClampNeg) ((4 : Int32).toNatClampNeg)) (fun m7 => mj_mw (mj_wI m7 1 6 (m7.1 56 6)) (fun m8 => mj_mw (mj_wI m8 1 7 (m8.1 56 7)) (fun m9 => mj_mw (mj_wI m9 1 8 (m9.1 56 8)) (fun m10 => mj_mw (mj_wI m10 1 9 (m10.1 56 9)) (fun m11 => mj_mw (mj_wI m11 1 10 (m11.1 56 10)) (fun m12 => mj_mw (mj_wI m12 1 11 (m12.1 56 11)) (fun m13 => mj_mw (mj_wI m13 1 12 (m13.1 56 12)) (fun m14 => mj_mw (mj_wI m14 1 13 (m14.1 56 13)) (fun m15 => mj_mw (mj_wI m15 1 14 (m15.1 56 14)) (fun m16 => mj_mw (mj_wI m16 1 15 (m16.1 56 15)) (fun m17 => some m17))))))))))))))))) else (mj_ck (mj_b 2 4 s.1) ( mj_ck (mj_b 2 59 s.1) ( (f_X1_becomeLike N (8 + s.1.toNatClampNeg) (63 + s.1.toNatClampNeg) s.2).bind (fun r4 => mj_mw (s.1 + 1) (fun x5 => k_32 (x5, r4))))))
theorem k_X7_becomeLike_1_56_32 {L : Nat} {xs : Nat → Int32} {δ N : Nat} (hδ : 0 ≤ δ) : ∀ (n : Nat) (s : Int32 × mj_m) (a : mj_m), mj_lp n (f_X7_becomeLike_1_56_32 N) s = some a → mj_Go (mj_EX L xs) (δ + 1) mY_X7_becomeLike 32 [(0, .ref 1), (1, .ref 56), (2, .int s.1)] [] (mj_fin s.2) (none, (mj_fin a)) := by
  refine mj_lp_sound (fun k_32 s a q_32 h => ?_)
  unfold f_X7_becomeLike_1_56_32 at h
  refine mj_go_iload_n (k := 2) (x := s.1) rfl (mj_dt dt_X7_becomeLike 18 rfl) ?_
  refine mj_go_bipush (v := 10) rfl (mj_dt dt_X7_becomeLike 19 rfl) ?_
  refine mj_go_icmp_ge (tgt := 59) rfl (mj_dt dt_X7_becomeLike 20 rfl) (fun b1 => ?_) (fun b1 => ?_)
  · rw [if_pos b1] at h
    refine mj_go_aload_n (k := 1) (x := 56) rfl (mj_dt dt_X7_becomeLike 32 rfl) ?_
    refine ml_getR (c := 7) (k := 3) (q := 60) fd_7_3 rf_56_3 (Or.inl fl_X7_24) ho_56 (mj_dt dt_X7_becomeLike 33 rfl) ?_
    refine mj_go_iconst (v := 0) rfl (mj_dt dt_X7_becomeLike 34 rfl) ?_
    refine mj_go_aload_n (k := 0) (x := 1) rfl (mj_dt dt_X7_becomeLike 35 rfl) ?_
    refine ml_getR (c := 7) (k := 3) (q := 5) fd_7_3 rf_1_3 (Or.inl fl_X7_24) ho_1 (mj_dt dt_X7_becomeLike 36 rfl) ?_
    refine mj_go_iconst (v := 0) rfl (mj_dt dt_X7_becomeLike 37 rfl) ?_
    refine mj_go_bipush (v := 10) rfl (mj_dt dt_X7_becomeLike 38 rfl) ?_
    obtain ⟨c2, h⟩ := mj_ck_some h
    obtain ⟨m3, em3, h⟩ := mj_mw_some h
    refine ml_cpyI hm_X7_65 (Nat.le_of_ble_eq_true rfl) c2 (mj_dt dt_X7_becomeLike 39 rfl) ?_
    refine ml_eqm (M1 := (mj_fin m3)) (by rw [em3] <;> rfl) ?_
    refine mj_go_aload_n (k := 1) (x := 56) rfl (mj_dt dt_X7_becomeLike 40 rfl) ?_
    refine ml_getR (c := 7) (k := 4) (q := 61) fd_7_4 rf_56_4 (Or.inl fl_X7_27) ho_56 (mj_dt dt_X7_becomeLike 41 rfl) ?_
    refine mj_go_iconst (v := 0) rfl (mj_dt dt_X7_becomeLike 42 rfl) ?_
    refine mj_go_aload_n (k := 0) (x := 1) rfl (mj_dt dt_X7_becomeLike 43 rfl) ?_
    refine ml_getR (c := 7) (k := 4) (q := 6) fd_7_4 rf_1_4 (Or.inl fl_X7_27) ho_1 (mj_dt dt_X7_becomeLike 44 rfl) ?_
    refine mj_go_iconst (v := 0) rfl (mj_dt dt_X7_becomeLike 45 rfl) ?_
    refine mj_go_iconst (v := 4) rfl (mj_dt dt_X7_becomeLike 46 rfl) ?_
    obtain ⟨c4, h⟩ := mj_ck_some h
    obtain ⟨m5, em5, h⟩ := mj_mw_some h
    refine ml_cpyI hm_X7_65 (Nat.le_of_ble_eq_true rfl) c4 (mj_dt dt_X7_becomeLike 47 rfl) ?_
    refine ml_eqm (M1 := (mj_fin m5)) (by rw [em5] <;> rfl) ?_
    refine mj_go_aload_n (k := 1) (x := 56) rfl (mj_dt dt_X7_becomeLike 48 rfl) ?_
    refine ml_getR (c := 7) (k := 5) (q := 62) fd_7_5 rf_56_5 (Or.inl fl_X7_30) ho_56 (mj_dt dt_X7_becomeLike 49 rfl) ?_
    refine mj_go_iconst (v := 0) rfl (mj_dt dt_X7_becomeLike 50 rfl) ?_
    refine mj_go_aload_n (k := 0) (x := 1) rfl (mj_dt dt_X7_becomeLike 51 rfl) ?_
    refine ml_getR (c := 7) (k := 5) (q := 7) fd_7_5 rf_1_5 (Or.inl fl_X7_30) ho_1 (mj_dt dt_X7_becomeLike 52 rfl) ?_
    refine mj_go_iconst (v := 0) rfl (mj_dt dt_X7_becomeLike 53 rfl) ?_
    refine mj_go_iconst (v := 4) rfl (mj_dt dt_X7_becomeLike 54 rfl) ?_
    obtain ⟨c6, h⟩ := mj_ck_some h
    obtain ⟨m7, em7, h⟩ := mj_mw_some h
    refine ml_cpyI hm_X7_65 (Nat.le_of_ble_eq_true rfl) c6 (mj_dt dt_X7_becomeLike 55 rfl) ?_
    refine ml_eqm (M1 := (mj_fin m7)) (by rw [em7] <;> rfl) ?_
    refine mj_go_aload_n (k := 0) (x := 1) rfl (mj_dt dt_X7_becomeLike 56 rfl) ?_
    refine mj_go_aload_n (k := 1) (x := 56) rfl (mj_dt dt_X7_becomeLike 57 rfl) ?_
    refine mk_getI (c := 7) (k := 6) (Or.inl fd_7_6) (Or.inl fl_X7_33) ho_56 (mj_dt dt_X7_becomeLike 58 rfl) ?_
    obtain ⟨m8, em8, h⟩ := mj_mw_some h
    refine ml_putI (c := 7) (k := 6) fd_7_6 rfl fl_X7_33 ho_1 (mj_dt dt_X7_becomeLike 59 rfl) ?_
    refine ml_eqm (M1 := (mj_fin m8)) (by rw [em8] <;> rfl) ?_
    refine mj_go_aload_n (k := 0) (x := 1) rfl (mj_dt dt_X7_becomeLike 60 rfl) ?_
    refine mj_go_aload_n (k := 1) (x := 56) rfl (mj_dt dt_X7_becomeLike 61 rfl) ?_
    refine mk_getI (c := 7) (k := 7) (Or.inl fd_7_7) (Or.inl fl_X7_37) ho_56 (mj_dt dt_X7_becomeLike 62 rfl) ?_
    obtain ⟨m9, em9, h⟩ := mj_mw_some h
    refine ml_putI (c := 7) (k := 7) fd_7_7 rfl fl_X7_37 ho_1 (mj_dt dt_X7_becomeLike 63 rfl) ?_
    refine ml_eqm (M1 := (mj_fin m9)) (by rw [em9] <;> rfl) ?_
    refine mj_go_aload_n (k := 0) (x := 1) rfl (mj_dt dt_X7_becomeLike 64 rfl) ?_
    refine mj_go_aload_n (k := 1) (x := 56) rfl (mj_dt dt_X7_becomeLike 65 rfl) ?_
    refine mk_getI (c := 7) (k := 8) (Or.inl fd_7_8) (Or.inl fl_X7_40) ho_56 (mj_dt dt_X7_becomeLike 66 rfl) ?_
    obtain ⟨m10, em10, h⟩ := mj_mw_some h
    refine ml_putI (c := 7) (k := 8) fd_7_8 rfl fl_X7_40 ho_1 (mj_dt dt_X7_becomeLike 67 rfl) ?_
    refine ml_eqm (M1 := (mj_fin m10)) (by rw [em10] <;> rfl) ?_
    refine mj_go_aload_n (k := 0) (x := 1) rfl (mj_dt dt_X7_becomeLike 68 rfl) ?_
    refine mj_go_aload_n (k := 1) (x := 56) rfl (mj_dt dt_X7_becomeLike 69 rfl) ?_
    refine mk_getI (c := 7) (k := 9) (Or.inl fd_7_9) (Or.inl fl_X7_43) ho_56 (mj_dt dt_X7_becomeLike 70 rfl) ?_
    obtain ⟨m11, em11, h⟩ := mj_mw_some h
    refine ml_putI (c := 7) (k := 9) fd_7_9 rfl fl_X7_43 ho_1 (mj_dt dt_X7_becomeLike 71 rfl) ?_
    refine ml_eqm (M1 := (mj_fin m11)) (by rw [em11] <;> rfl) ?_
    refine mj_go_aload_n (k := 0) (x := 1) rfl (mj_dt dt_X7_becomeLike 72 rfl) ?_
    refine mj_go_aload_n (k := 1) (x := 56) rfl (mj_dt dt_X7_becomeLike 73 rfl) ?_
    refine mk_getI (c := 7) (k := 10) (Or.inl fd_7_10) (Or.inl fl_X7_46) ho_56 (mj_dt dt_X7_becomeLike 74 rfl) ?_
    obtain ⟨m12, em12, h⟩ := mj_mw_some h
    refine ml_putI (c := 7) (k := 10) fd_7_10 rfl fl_X7_46 ho_1 (mj_dt dt_X7_becomeLike 75 rfl) ?_
    refine ml_eqm (M1 := (mj_fin m12)) (by rw [em12] <;> rfl) ?_
    refine mj_go_aload_n (k := 0) (x := 1) rfl (mj_dt dt_X7_becomeLike 76 rfl) ?_
    refine mj_go_aload_n (k := 1) (x := 56) rfl (mj_dt dt_X7_becomeLike 77 rfl) ?_
    refine mk_getI (c := 7) (k := 11) (Or.inl fd_7_11) (Or.inl fl_X7_49) ho_56 (mj_dt dt_X7_becomeLike 78 rfl) ?_
    obtain ⟨m13, em13, h⟩ := mj_mw_some h
    refine ml_putI (c := 7) (k := 11) fd_7_11 rfl fl_X7_49 ho_1 (mj_dt dt_X7_becomeLike 79 rfl) ?_
    refine ml_eqm (M1 := (mj_fin m13)) (by rw [em13] <;> rfl) ?_
    refine mj_go_aload_n (k := 0) (x := 1) rfl (mj_dt dt_X7_becomeLike 80 rfl) ?_
    refine mj_go_aload_n (k := 1) (x := 56) rfl (mj_dt dt_X7_becomeLike 81 rfl) ?_
    refine mk_getI (c := 7) (k := 12) (Or.inl fd_7_12) (Or.inl fl_X7_52) ho_56 (mj_dt dt_X7_becomeLike 82 rfl) ?_
    obtain ⟨m14, em14, h⟩ := mj_mw_some h
    refine ml_putI (c := 7) (k := 12) fd_7_12 rfl fl_X7_52 ho_1 (mj_dt dt_X7_becomeLike 83 rfl) ?_
    refine ml_eqm (M1 := (mj_fin m14)) (by rw [em14] <;> rfl) ?_
    refine mj_go_aload_n (k := 0) (x := 1) rfl (mj_dt dt_X7_becomeLike 84 rfl) ?_
    refine mj_go_aload_n (k := 1) (x := 56) rfl (mj_dt dt_X7_becomeLike 85 rfl) ?_
    refine mk_getI (c := 7) (k := 13) (Or.inl fd_7_13) (Or.inl fl_X7_55) ho_56 (mj_dt dt_X7_becomeLike 86 rfl) ?_
    obtain ⟨m15, em15, h⟩ := mj_mw_some h
    refine ml_putI (c := 7) (k := 13) fd_7_13 rfl fl_X7_55 ho_1 (mj_dt dt_X7_becomeLike 87 rfl) ?_
    refine ml_eqm (M1 := (mj_fin m15)) (by rw [em15] <;> rfl) ?_
    refine mj_go_aload_n (k := 0) (x := 1) rfl (mj_dt dt_X7_becomeLike 88 rfl) ?_
    refine mj_go_aload_n (k := 1) (x := 56) rfl (mj_dt dt_X7_becomeLike 89 rfl) ?_
    refine mk_getI (c := 7) (k := 14) (Or.inl fd_7_14) (Or.inl fl_X7_58) ho_56 (mj_dt dt_X7_becomeLike 90 rfl) ?_
    obtain ⟨m16, em16, h⟩ := mj_mw_some h
    refine ml_putI (c := 7) (k := 14) fd_7_14 rfl fl_X7_58 ho_1 (mj_dt dt_X7_becomeLike 91 rfl) ?_
    refine ml_eqm (M1 := (mj_fin m16)) (by rw [em16] <;> rfl) ?_
    refine mj_go_aload_n (k := 0) (x := 1) rfl (mj_dt dt_X7_becomeLike 92 rfl) ?_
    refine mj_go_aload_n (k := 1) (x := 56) rfl (mj_dt dt_X7_becomeLike 93 rfl) ?_
    refine mk_getI (c := 7) (k := 15) (Or.inl fd_7_15) (Or.inl fl_X7_61) ho_56 (mj_dt dt_X7_becomeLike 94 rfl) ?_
    obtain ⟨m17, em17, h⟩ := mj_mw_some h
    refine ml_putI (c := 7) (k := 15) fd_7_15 rfl fl_X7_61 ho_1 (mj_dt dt_X7_becomeLike 95 rfl) ?_
    refine ml_eqm (M1 := (mj_fin m17)) (by rw [em17] <;> rfl) ?_
    obtain rfl := Option.some.inj h
    exact mj_go_ret (v := none) (Nat.le_of_ble_eq_true rfl) (mj_retV (mj_dt dt_X7_becomeLike 96 rfl) rfl)
  · rw [if_neg b1] at h
    refine mj_go_aload_n (k := 0) (x := 1) rfl (mj_dt dt_X7_becomeLike 21 rfl) ?_
    refine ml_getR (c := 7) (k := 2) (q := 4) fd_7_2 rf_1_2 (Or.inl fl_X7_20) ho_1 (mj_dt dt_X7_becomeLike 22 rfl) ?_
    refine mj_go_iload_n (k := 2) (x := s.1) rfl (mj_dt dt_X7_becomeLike 23 rfl) ?_
    obtain ⟨c2, h⟩ := mj_ck_some h
    refine ml_aald2 (q := 8 + s.1.toNatClampNeg) c2 (mj_hs4 c2).1 (mj_dt dt_X7_becomeLike 24 rfl) ?_
    refine mj_go_aload_n (k := 1) (x := 56) rfl (mj_dt dt_X7_becomeLike 25 rfl) ?_
    refine ml_getR (c := 7) (k := 2) (q := 59) fd_7_2 rf_56_2 (Or.inl fl_X7_20) ho_56 (mj_dt dt_X7_becomeLike 26 rfl) ?_
    refine mj_go_iload_n (k := 2) (x := s.1) rfl (mj_dt dt_X7_becomeLike 27 rfl) ?_
    obtain ⟨c3, h⟩ := mj_ck_some h
    refine ml_aald2 (q := 63 + s.1.toNatClampNeg) c3 (mj_hs59 c3).1 (mj_dt dt_X7_becomeLike 28 rfl) ?_
    obtain ⟨r4, er4, h⟩ := mj_bind_some h
    refine ml_callV (Y' := mY_X1_becomeLike) (as := [.ref (63 + s.1.toNatClampNeg)]) (rest := []) (c := 1) (v := none) (M1 := (mj_fin r4)) (mj_hs4 c2).2 rfl lm_X7_71 wc_X1_becomeLike pl_X1_becomeLike ok_X1_becomeLike rfl rfl (Nat.le_of_ble_eq_true rfl) (k_X1_becomeLike (by omega) er4) (mj_dt dt_X7_becomeLike 29 rfl) ?_
    obtain ⟨x5, ex5, h⟩ := mj_mw_some h
    refine mj_go_iinc (i := 2) (x := s.1) (v := x5) rfl (by rw [ex5] <;> rfl) (by decide) (mj_dt dt_X7_becomeLike 30 rfl) ?_
    refine mj_go_goto (tgt := 32) rfl (mj_dt dt_X7_becomeLike 31 rfl) ?_
    refine mj_go_sub (lv' := [(0, .ref 1), (1, .ref 56), (2, .int x5)]) (List.forall_mem_cons.mpr ⟨rfl, (List.forall_mem_cons.mpr ⟨rfl, (List.forall_mem_cons.mpr ⟨rfl, (fun _ h9 => absurd h9 List.not_mem_nil)⟩)⟩)⟩) ?_
    exact q_32 _ _ h
def f_X7_becomeLike_1_56 (N : Nat) (m : mj_m) : Option (mj_m) := mj_ck (mj_p 0 57 2 0 0 12) ( mj_mw (mj_kI m 57 2 ((0 : Int32).toNatClampNeg) ((0 : Int32).toNatClampNeg) ((12 : Int32).toNatClampNeg)) (fun m2 => mj_ck (mj_p 0 58 3 0 0 12) ( mj_mw (mj_kI m2 58 3 ((0 : Int32).toNatClampNeg) ((0 : Int32).toNatClampNeg) ((12 : Int32).toNatClampNeg)) (fun m4 => mj_lp N (f_X7_becomeLike_1_56_32 N) (0, m4)))))
theorem k_X7_becomeLike_1_56 {L : Nat} {xs : Nat → Int32} {δ N : Nat} {m : mj_m} (hδ : 1 ≤ δ) {a : mj_m} (h : f_X7_becomeLike_1_56 N m = some a) : mj_Cl (mj_EX L xs) δ mY_X7_becomeLike [.ref 1, .ref 56] (mj_fin m) (none, (mj_fin a)) := by
  obtain ⟨δ, rfl⟩ : ∃ d, δ = d + 1 := ⟨δ - 1, by omega⟩
  have hδ : 0 ≤ δ := by omega
  refine mj_cl_of ok_X7_becomeLike (Nat.le_of_ble_eq_true rfl) ?_
  unfold f_X7_becomeLike_1_56 at h
  refine mj_go_aload_n (k := 1) (x := 56) rfl (mj_dt dt_X7_becomeLike 0 rfl) ?_
  refine ml_getR (c := 7) (k := 0) (q := 57) fd_7_0 rf_56_0 (Or.inl fl_X7_9) ho_56 (mj_dt dt_X7_becomeLike 1 rfl) ?_
  refine mj_go_iconst (v := 0) rfl (mj_dt dt_X7_becomeLike 2 rfl) ?_
  refine mj_go_aload_n (k := 0) (x := 1) rfl (mj_dt dt_X7_becomeLike 3 rfl) ?_
  refine ml_getR (c := 7) (k := 0) (q := 2) fd_7_0 rf_1_0 (Or.inl fl_X7_9) ho_1 (mj_dt dt_X7_becomeLike 4 rfl) ?_
  refine mj_go_iconst (v := 0) rfl (mj_dt dt_X7_becomeLike 5 rfl) ?_
  refine mj_go_bipush (v := 12) rfl (mj_dt dt_X7_becomeLike 6 rfl) ?_
  obtain ⟨c1, h⟩ := mj_ck_some h
  obtain ⟨m2, em2, h⟩ := mj_mw_some h
  refine ml_cpyI hm_X7_65 (Nat.le_of_ble_eq_true rfl) c1 (mj_dt dt_X7_becomeLike 7 rfl) ?_
  refine ml_eqm (M1 := (mj_fin m2)) (by rw [em2] <;> rfl) ?_
  refine mj_go_aload_n (k := 1) (x := 56) rfl (mj_dt dt_X7_becomeLike 8 rfl) ?_
  refine ml_getR (c := 7) (k := 1) (q := 58) fd_7_1 rf_56_1 (Or.inl fl_X7_15) ho_56 (mj_dt dt_X7_becomeLike 9 rfl) ?_
  refine mj_go_iconst (v := 0) rfl (mj_dt dt_X7_becomeLike 10 rfl) ?_
  refine mj_go_aload_n (k := 0) (x := 1) rfl (mj_dt dt_X7_becomeLike 11 rfl) ?_
  refine ml_getR (c := 7) (k := 1) (q := 3) fd_7_1 rf_1_1 (Or.inl fl_X7_15) ho_1 (mj_dt dt_X7_becomeLike 12 rfl) ?_
  refine mj_go_iconst (v := 0) rfl (mj_dt dt_X7_becomeLike 13 rfl) ?_
  refine mj_go_bipush (v := 12) rfl (mj_dt dt_X7_becomeLike 14 rfl) ?_
  obtain ⟨c3, h⟩ := mj_ck_some h
  obtain ⟨m4, em4, h⟩ := mj_mw_some h
  refine ml_cpyI hm_X7_65 (Nat.le_of_ble_eq_true rfl) c3 (mj_dt dt_X7_becomeLike 15 rfl) ?_
  refine ml_eqm (M1 := (mj_fin m4)) (by rw [em4] <;> rfl) ?_
  refine mj_go_iconst (v := 0) rfl (mj_dt dt_X7_becomeLike 16 rfl) ?_
  refine mj_go_istore_n (k := 2) (by decide) (mj_dt dt_X7_becomeLike 17 rfl) ?_
  refine mj_go_sub (lv' := [(0, .ref 1), (1, .ref 56), (2, .int 0)]) (List.forall_mem_cons.mpr ⟨rfl, (List.forall_mem_cons.mpr ⟨rfl, (List.forall_mem_cons.mpr ⟨rfl, (fun _ h9 => absurd h9 List.not_mem_nil)⟩)⟩)⟩) ?_
  exact k_X7_becomeLike_1_56_32 hδ N _ _ h
def f_X5_read_7 (N : Nat) (k_7 : Int32 × mj_m → Option (Int32 × mj_m)) (s : Int32 × mj_m) : Option (Int32 × mj_m) := if 120 < s.1 then (some ((-1 : Int32), s.2)) else ((f_X5_readItem N s.2).bind (fun r2 => if r2.1 = 0 then (some ((-1 : Int32), r2.2)) else (if (r2.2.1 55 5) = (r2.2.1 55 4) then ((f_X7_becomeLike_1_56 N r2.2).bind (fun r5 => some (s.1, r5))) else ((f_X5_letter N (r2.2.1 55 5) r2.2).bind (fun r5 => if r5 = 59 then (mj_mw (mj_wI r2.2 55 5 ((r2.2.1 55 5) + 1)) (fun m7 => mj_mw (s.1 + 1) (fun x8 => k_7 (x8, m7)))) else ((f_X5_fail N (r2.2.1 55 5) r2.2).bind (fun r7 => some ((-1 : Int32), r7.2))))))))
theorem k_X5_read_7 {L : Nat} {xs : Nat → Int32} {δ N : Nat} (hδ : 10 ≤ δ) : ∀ (n : Nat) (s : Int32 × mj_m) (a : Int32 × mj_m), mj_lp n (f_X5_read_7 N) s = some a → mj_Go (mj_EX L xs) (δ + 1) mY_X5_read 7 [(0, .ref 55), (2, .int s.1)] [] (mj_fin s.2) (some (.int a.1), (mj_fin a.2)) := by
  refine mj_lp_sound (fun k_7 s a q_7 h => ?_)
  unfold f_X5_read_7 at h
  refine mj_go_iload_n (k := 2) (x := s.1) rfl (mj_dt dt_X5_read 5 rfl) ?_
  refine mj_go_bipush (v := 120) rfl (mj_dt dt_X5_read 6 rfl) ?_
  refine mj_go_icmp_gt (tgt := 84) rfl (mj_dt dt_X5_read 7 rfl) (fun b1 => ?_) (fun b1 => ?_)
  · rw [if_pos b1] at h
    refine mj_go_iconst (v := -1) rfl (mj_dt dt_X5_read 44 rfl) ?_
    obtain rfl := Option.some.inj h
    exact mj_go_ret (v := some (.int (-1 : Int32))) (Nat.le_of_ble_eq_true rfl) (mj_retI (mj_dt dt_X5_read 45 rfl) rfl)
  · rw [if_neg b1] at h
    refine mj_go_aload_n (k := 0) (x := 55) rfl (mj_dt dt_X5_read 8 rfl) ?_
    obtain ⟨r2, er2, h⟩ := mj_bind_some h
    refine ml_callV (Y' := mY_X5_readItem) (as := []) (rest := []) (c := 5) (v := (some (.int r2.1))) (M1 := (mj_fin r2.2)) ho_55 rfl lm_X5_45 wc_X5_readItem pl_X5_readItem ok_X5_readItem rfl rfl (Nat.le_of_ble_eq_true rfl) (k_X5_readItem (by omega) er2) (mj_dt dt_X5_read 9 rfl) ?_
    refine mj_go_if_eq (tgt := 84) rfl (mj_dt dt_X5_read 10 rfl) (fun b3 => ?_) (fun b3 => ?_)
    · rw [if_pos b3] at h
      refine mj_go_iconst (v := -1) rfl (mj_dt dt_X5_read 44 rfl) ?_
      obtain rfl := Option.some.inj h
      exact mj_go_ret (v := some (.int (-1 : Int32))) (Nat.le_of_ble_eq_true rfl) (mj_retI (mj_dt dt_X5_read 45 rfl) rfl)
    · rw [if_neg b3] at h
      refine mj_go_aload_n (k := 0) (x := 55) rfl (mj_dt dt_X5_read 11 rfl) ?_
      refine mk_getI (c := 5) (k := 5) (Or.inl fd_5_5) (Or.inl fl_X5_29) ho_55 (mj_dt dt_X5_read 12 rfl) ?_
      refine mj_go_aload_n (k := 0) (x := 55) rfl (mj_dt dt_X5_read 13 rfl) ?_
      refine mk_getI (c := 5) (k := 4) (Or.inl fd_5_4) (Or.inl fl_X5_25) ho_55 (mj_dt dt_X5_read 14 rfl) ?_
      refine mj_go_icmp_ne (tgt := 44) rfl (mj_dt dt_X5_read 15 rfl) (fun b4 => ?_) (fun b4 => ?_)
      · rw [if_neg b4] at h
        refine mj_go_aload_n (k := 0) (x := 55) rfl (mj_dt dt_X5_read 23 rfl) ?_
        refine mj_go_aload_n (k := 0) (x := 55) rfl (mj_dt dt_X5_read 24 rfl) ?_
        refine mk_getI (c := 5) (k := 5) (Or.inl fd_5_5) (Or.inl fl_X5_29) ho_55 (mj_dt dt_X5_read 25 rfl) ?_
        obtain ⟨r5, er5, h⟩ := mj_bind_some h
        refine ml_callV (Y' := mY_X5_letter) (as := [.int (r2.2.1 55 5)]) (rest := []) (c := 5) (v := (some (.int r5))) (M1 := (mj_fin r2.2)) ho_55 rfl lm_X5_53 wc_X5_letter pl_X5_letter ok_X5_letter rfl rfl (Nat.le_of_ble_eq_true rfl) (k_X5_letter (by omega) er5) (mj_dt dt_X5_read 26 rfl) ?_
        refine mj_go_bipush (v := 59) rfl (mj_dt dt_X5_read 27 rfl) ?_
        refine mj_go_icmp_eq (tgt := 68) rfl (mj_dt dt_X5_read 28 rfl) (fun b6 => ?_) (fun b6 => ?_)
        · rw [if_pos b6] at h
          refine mj_go_aload_n (k := 0) (x := 55) rfl (mj_dt dt_X5_read 36 rfl) ?_
          refine mj_go_dup rfl (mj_dt dt_X5_read 37 rfl) ?_
          refine mk_getI (c := 5) (k := 5) (Or.inl fd_5_5) (Or.inl fl_X5_29) ho_55 (mj_dt dt_X5_read 38 rfl) ?_
          refine mj_go_iconst (v := 1) rfl (mj_dt dt_X5_read 39 rfl) ?_
          refine mj_go_iadd (mj_dt dt_X5_read 40 rfl) ?_
          obtain ⟨m7, em7, h⟩ := mj_mw_some h
          refine ml_putI (c := 5) (k := 5) fd_5_5 rfl fl_X5_29 ho_55 (mj_dt dt_X5_read 41 rfl) ?_
          refine ml_eqm (M1 := (mj_fin m7)) (by rw [em7] <;> rfl) ?_
          obtain ⟨x8, ex8, h⟩ := mj_mw_some h
          refine mj_go_iinc (i := 2) (x := s.1) (v := x8) rfl (by rw [ex8] <;> rfl) (by decide) (mj_dt dt_X5_read 42 rfl) ?_
          refine mj_go_goto (tgt := 7) rfl (mj_dt dt_X5_read 43 rfl) ?_
          refine mj_go_sub (lv' := [(0, .ref 55), (2, .int x8)]) (List.forall_mem_cons.mpr ⟨rfl, (List.forall_mem_cons.mpr ⟨rfl, (fun _ h9 => absurd h9 List.not_mem_nil)⟩)⟩) ?_
          exact q_7 _ _ h
        · rw [if_neg b6] at h
          refine mj_go_aload_n (k := 0) (x := 55) rfl (mj_dt dt_X5_read 29 rfl) ?_
          refine mj_go_aload_n (k := 0) (x := 55) rfl (mj_dt dt_X5_read 30 rfl) ?_
          refine mk_getI (c := 5) (k := 5) (Or.inl fd_5_5) (Or.inl fl_X5_29) ho_55 (mj_dt dt_X5_read 31 rfl) ?_
          obtain ⟨r7, er7, h⟩ := mj_bind_some h
          refine ml_callV (Y' := mY_X5_fail) (as := [.int (r2.2.1 55 5)]) (rest := []) (c := 5) (v := (some (.int r7.1))) (M1 := (mj_fin r7.2)) ho_55 rfl lm_X5_57 wc_X5_fail pl_X5_fail ok_X5_fail rfl rfl (Nat.le_of_ble_eq_true rfl) (k_X5_fail (by omega) er7) (mj_dt dt_X5_read 32 rfl) ?_
          refine mj_go_pop rfl (mj_dt dt_X5_read 33 rfl) ?_
          refine mj_go_iconst (v := -1) rfl (mj_dt dt_X5_read 34 rfl) ?_
          obtain rfl := Option.some.inj h
          exact mj_go_ret (v := some (.int (-1 : Int32))) (Nat.le_of_ble_eq_true rfl) (mj_retI (mj_dt dt_X5_read 35 rfl) rfl)
      · rw [if_pos b4] at h
        refine mj_go_aload_n (k := 0) (x := 55) rfl (mj_dt dt_X5_read 16 rfl) ?_
        refine ml_getR (c := 5) (k := 0) (q := 1) fd_5_0 rf_55_0 (Or.inl fl_X5_38) ho_55 (mj_dt dt_X5_read 17 rfl) ?_
        refine mj_go_aload_n (k := 0) (x := 55) rfl (mj_dt dt_X5_read 18 rfl) ?_
        refine ml_getR (c := 5) (k := 1) (q := 56) fd_5_1 rf_55_1 (Or.inl fl_X5_12) ho_55 (mj_dt dt_X5_read 19 rfl) ?_
        obtain ⟨r5, er5, h⟩ := mj_bind_some h
        refine ml_callV (Y' := mY_X7_becomeLike) (as := [.ref 56]) (rest := []) (c := 7) (v := none) (M1 := (mj_fin r5)) ho_1 rfl lm_X5_49 wc_X7_becomeLike pl_X7_becomeLike ok_X7_becomeLike rfl rfl (Nat.le_of_ble_eq_true rfl) (k_X7_becomeLike_1_56 (by omega) er5) (mj_dt dt_X5_read 20 rfl) ?_
        refine mj_go_iload_n (k := 2) (x := s.1) rfl (mj_dt dt_X5_read 21 rfl) ?_
        obtain rfl := Option.some.inj h
        exact mj_go_ret (v := some (.int s.1)) (Nat.le_of_ble_eq_true rfl) (mj_retI (mj_dt dt_X5_read 22 rfl) rfl)
def f_X5_read (N : Nat) (v1 : Nat) (m : mj_m) : Option (Int32 × mj_m) := (f_X5_begin N v1 m).bind (fun r1 => mj_lp N (f_X5_read_7 N) (1, r1))
theorem k_X5_read {L : Nat} {xs : Nat → Int32} {δ N : Nat} {v1 : Nat} {m : mj_m} (hδ : 11 ≤ δ) {a : Int32 × mj_m} (h : f_X5_read N v1 m = some a) : mj_Cl (mj_EX L xs) δ mY_X5_read [.ref 55, .ref v1] (mj_fin m) (some (.int a.1), (mj_fin a.2)) := by
  obtain ⟨δ, rfl⟩ : ∃ d, δ = d + 1 := ⟨δ - 1, by omega⟩
  have hδ : 10 ≤ δ := by omega
  refine mj_cl_of ok_X5_read (Nat.le_of_ble_eq_true rfl) ?_
  unfold f_X5_read at h
  refine mj_go_aload_n (k := 0) (x := 55) rfl (mj_dt dt_X5_read 0 rfl) ?_
  refine mj_go_aload_n (k := 1) (x := v1) rfl (mj_dt dt_X5_read 1 rfl) ?_
  obtain ⟨r1, er1, h⟩ := mj_bind_some h
  refine ml_callV (Y' := mY_X5_begin) (as := [.ref v1]) (rest := []) (c := 5) (v := none) (M1 := (mj_fin r1)) ho_55 rfl lm_X5_41 wc_X5_begin pl_X5_begin ok_X5_begin rfl rfl (Nat.le_of_ble_eq_true rfl) (k_X5_begin (by omega) er1) (mj_dt dt_X5_read 2 rfl) ?_
  refine mj_go_iconst (v := 1) rfl (mj_dt dt_X5_read 3 rfl) ?_
  refine mj_go_istore_n (k := 2) (by decide) (mj_dt dt_X5_read 4 rfl) ?_
  refine mj_go_sub (lv' := [(0, .ref 55), (2, .int 1)]) (List.forall_mem_cons.mpr ⟨rfl, (List.forall_mem_cons.mpr ⟨rfl, (fun _ h9 => absurd h9 List.not_mem_nil)⟩)⟩) ?_
  exact k_X5_read_7 hδ N _ _ h
def f_X8_town (N : Nat) (v1 : Int32) (m : mj_m) : Option (Int32 × mj_m) := (f_X8_lacksRow N v1 m).bind (fun r1 => if r1 = 0 then (mj_ck (mj_b 3 35 v1) ( (f_X5_read N (79 + 2 * v1.toNatClampNeg) m).bind (fun r4 => mj_mw (mj_wI r4.2 0 11 (r4.2.1 55 7)) (fun m5 => if r4.1 = (-1 : Int32) then ((f_X8_refuse N 6 m5).bind (fun r7 => (some (r7.1, r7.2)))) else ((some (r4.1, m5))))))) else ((f_X8_refuse N r1 m).bind (fun r3 => some (r3.1, r3.2))))
theorem k_X8_town {L : Nat} {xs : Nat → Int32} {δ N : Nat} {v1 : Int32} {m : mj_m} (hδ : 12 ≤ δ) {a : Int32 × mj_m} (h : f_X8_town N v1 m = some a) : mj_Cl (mj_EX L xs) δ mY_X8_town [.ref 0, .int v1] (mj_fin m) (some (.int a.1), (mj_fin a.2)) := by
  obtain ⟨δ, rfl⟩ : ∃ d, δ = d + 1 := ⟨δ - 1, by omega⟩
  have hδ : 11 ≤ δ := by omega
  refine mj_cl_of ok_X8_town (Nat.le_of_ble_eq_true rfl) ?_
  unfold f_X8_town at h
  refine mj_go_aload_n (k := 0) (x := 0) rfl (mj_dt dt_X8_town 0 rfl) ?_
  refine mj_go_iload_n (k := 1) (x := v1) rfl (mj_dt dt_X8_town 1 rfl) ?_
  obtain ⟨r1, er1, h⟩ := mj_bind_some h
  refine ml_callV (Y' := mY_X8_lacksRow) (as := [.int v1]) (rest := []) (c := 8) (v := (some (.int r1))) (M1 := (mj_fin m)) ho_0 rfl lm_X8_94 wc_X8_lacksRow pl_X8_lacksRow ok_X8_lacksRow rfl rfl (Nat.le_of_ble_eq_true rfl) (k_X8_lacksRow (by omega) er1) (mj_dt dt_X8_town 2 rfl) ?_
  refine mj_go_istore_n (k := 2) (by decide) (mj_dt dt_X8_town 3 rfl) ?_
  refine mj_go_iload_n (k := 2) (x := r1) rfl (mj_dt dt_X8_town 4 rfl) ?_
  refine mj_go_if_eq (tgt := 16) rfl (mj_dt dt_X8_town 5 rfl) (fun b2 => ?_) (fun b2 => ?_)
  · rw [if_pos b2] at h
    refine mj_go_aload_n (k := 0) (x := 0) rfl (mj_dt dt_X8_town 10 rfl) ?_
    refine ml_getR (c := 8) (k := 6) (q := 55) fd_8_6 rf_0_6 (Or.inl fl_X8_55) ho_0 (mj_dt dt_X8_town 11 rfl) ?_
    refine mj_go_aload_n (k := 0) (x := 0) rfl (mj_dt dt_X8_town 12 rfl) ?_
    refine ml_getR (c := 8) (k := 2) (q := 35) fd_8_2 rf_0_2 (Or.inl fl_X8_21) ho_0 (mj_dt dt_X8_town 13 rfl) ?_
    refine mj_go_iload_n (k := 1) (x := v1) rfl (mj_dt dt_X8_town 14 rfl) ?_
    obtain ⟨c3, h⟩ := mj_ck_some h
    refine ml_aald3 (q := 79 + 2 * v1.toNatClampNeg) c3 (mj_hs35 c3).1 (mj_dt dt_X8_town 15 rfl) ?_
    obtain ⟨r4, er4, h⟩ := mj_bind_some h
    refine ml_callV (Y' := mY_X5_read) (as := [.ref (79 + 2 * v1.toNatClampNeg)]) (rest := []) (c := 5) (v := (some (.int r4.1))) (M1 := (mj_fin r4.2)) ho_55 rfl lm_X8_239 wc_X5_read pl_X5_read ok_X5_read rfl rfl (Nat.le_of_ble_eq_true rfl) (k_X5_read (by omega) er4) (mj_dt dt_X8_town 16 rfl) ?_
    refine mj_go_istore_n (k := 3) (by decide) (mj_dt dt_X8_town 17 rfl) ?_
    refine mj_go_aload_n (k := 0) (x := 0) rfl (mj_dt dt_X8_town 18 rfl) ?_
    refine mj_go_aload_n (k := 0) (x := 0) rfl (mj_dt dt_X8_town 19 rfl) ?_
    refine ml_getR (c := 8) (k := 6) (q := 55) fd_8_6 rf_0_6 (Or.inl fl_X8_55) ho_0 (mj_dt dt_X8_town 20 rfl) ?_
    refine mk_getI (c := 5) (k := 7) (Or.inl fd_5_7) (Or.inr fl_X8_243) ho_55 (mj_dt dt_X8_town 21 rfl) ?_
    obtain ⟨m5, em5, h⟩ := mj_mw_some h
    refine ml_putI (c := 8) (k := 11) fd_8_11 rfl fl_X8_77 ho_0 (mj_dt dt_X8_town 22 rfl) ?_
    refine ml_eqm (M1 := (mj_fin m5)) (by rw [em5] <;> rfl) ?_
    refine mj_go_iload_n (k := 3) (x := r4.1) rfl (mj_dt dt_X8_town 23 rfl) ?_
    refine mj_go_iconst (v := -1) rfl (mj_dt dt_X8_town 24 rfl) ?_
    refine mj_go_icmp_ne (tgt := 55) rfl (mj_dt dt_X8_town 25 rfl) (fun b6 => ?_) (fun b6 => ?_)
    · rw [if_neg b6] at h
      refine mj_go_iload_n (k := 3) (x := r4.1) rfl (mj_dt dt_X8_town 30 rfl) ?_
      obtain rfl := Option.some.inj h
      exact mj_go_ret (v := some (.int r4.1)) (Nat.le_of_ble_eq_true rfl) (mj_retI (mj_dt dt_X8_town 31 rfl) rfl)
    · rw [if_pos b6] at h
      refine mj_go_aload_n (k := 0) (x := 0) rfl (mj_dt dt_X8_town 26 rfl) ?_
      refine mj_go_bipush (v := 6) rfl (mj_dt dt_X8_town 27 rfl) ?_
      obtain ⟨r7, er7, h⟩ := mj_bind_some h
      refine ml_callV (Y' := mY_X8_refuse) (as := [.int 6]) (rest := []) (c := 8) (v := (some (.int r7.1))) (M1 := (mj_fin r7.2)) ho_0 rfl lm_X8_86 wc_X8_refuse pl_X8_refuse ok_X8_refuse rfl rfl (Nat.le_of_ble_eq_true rfl) (k_X8_refuse (by omega) er7) (mj_dt dt_X8_town 28 rfl) ?_
      refine mj_go_goto (tgt := 56) rfl (mj_dt dt_X8_town 29 rfl) ?_
      obtain rfl := Option.some.inj h
      exact mj_go_ret (v := some (.int r7.1)) (Nat.le_of_ble_eq_true rfl) (mj_retI (mj_dt dt_X8_town 31 rfl) rfl)
  · rw [if_neg b2] at h
    refine mj_go_aload_n (k := 0) (x := 0) rfl (mj_dt dt_X8_town 6 rfl) ?_
    refine mj_go_iload_n (k := 2) (x := r1) rfl (mj_dt dt_X8_town 7 rfl) ?_
    obtain ⟨r3, er3, h⟩ := mj_bind_some h
    refine ml_callV (Y' := mY_X8_refuse) (as := [.int r1]) (rest := []) (c := 8) (v := (some (.int r3.1))) (M1 := (mj_fin r3.2)) ho_0 rfl lm_X8_86 wc_X8_refuse pl_X8_refuse ok_X8_refuse rfl rfl (Nat.le_of_ble_eq_true rfl) (k_X8_refuse (by omega) er3) (mj_dt dt_X8_town 8 rfl) ?_
    obtain rfl := Option.some.inj h
    exact mj_go_ret (v := some (.int r3.1)) (Nat.le_of_ble_eq_true rfl) (mj_retI (mj_dt dt_X8_town 9 rfl) rfl)
def f_X9_keeps_39 (N : Nat) (k_3 : Int32 × mj_m → Option (Int32 × mj_m)) (v1 : Nat) (v2 : Int32) (v3 : Nat) (v4 : Int32) (v5 : Int32) (v6 : Int32) (m : mj_m) : Option (Int32 × mj_m) := mj_mw (v6 + 1) (fun x1 => k_3 (x1, m))
theorem k_X9_keeps_39 {L : Nat} {xs : Nat → Int32} {δ N : Nat} {v1 : Nat} {v2 : Int32} {v3 : Nat} {v4 : Int32} {v5 : Int32} {v6 : Int32} {m : mj_m} {k_3 : Int32 × mj_m → Option (Int32 × mj_m)} (q_3 : ∀ (s_ : Int32 × mj_m) (a_ : Int32 × mj_m), k_3 s_ = some a_ → mj_Go (mj_EX L xs) δ mY_X9_keeps 3 [(1, .ref v1), (2, .int v2), (3, .ref v3), (4, .int v4), (5, .int v5), (6, .int s_.1)] [] (mj_fin s_.2) (some (.int a_.1), (mj_fin a_.2))) {a : Int32 × mj_m} (h : f_X9_keeps_39 N k_3 v1 v2 v3 v4 v5 v6 m = some a) : mj_Go (mj_EX L xs) δ mY_X9_keeps 39 [(1, .ref v1), (2, .int v2), (3, .ref v3), (4, .int v4), (5, .int v5), (6, .int v6)] [] (mj_fin m) (some (.int a.1), (mj_fin a.2)) := by
  unfold f_X9_keeps_39 at h
  obtain ⟨x1, ex1, h⟩ := mj_mw_some h
  refine mj_go_iinc (i := 6) (x := v6) (v := x1) rfl (by rw [ex1] <;> rfl) (by decide) (mj_dt dt_X9_keeps 24 rfl) ?_
  refine mj_go_goto (tgt := 3) rfl (mj_dt dt_X9_keeps 25 rfl) ?_
  refine mj_go_sub (lv' := [(1, .ref v1), (2, .int v2), (3, .ref v3), (4, .int v4), (5, .int v5), (6, .int x1)]) (List.forall_mem_cons.mpr ⟨rfl, (List.forall_mem_cons.mpr ⟨rfl, (List.forall_mem_cons.mpr ⟨rfl, (List.forall_mem_cons.mpr ⟨rfl, (List.forall_mem_cons.mpr ⟨rfl, (List.forall_mem_cons.mpr ⟨rfl, (fun _ h9 => absurd h9 List.not_mem_nil)⟩)⟩)⟩)⟩)⟩)⟩) ?_
  exact q_3 _ _ h
def f_X9_keeps_3 (N : Nat) (v1 : Nat) (v2 : Int32) (v3 : Nat) (v4 : Int32) (v5 : Int32) (k_3 : Int32 × mj_m → Option (Int32 × mj_m)) (s : Int32 × mj_m) : Option (Int32 × mj_m) := if v2 ≤ s.1 then (some (v4 + v2, s.2)) else (if v5 = 0 then (mj_ck (mj_b 0 v1 s.1) ( mj_ck (mj_b 0 v3 (v4 + s.1)) ( mj_mw (mj_wI s.2 v3 ((v4 + s.1).toNatClampNeg) (s.2.1 v1 s.1.toNatClampNeg)) (fun m5 => f_X9_keeps_39 N k_3 v1 v2 v3 v4 v5 s.1 m5)))) else (mj_ck (mj_b 0 v3 (v4 + s.1)) ( mj_ck (mj_b 0 v1 s.1) ( mj_mw (mj_wI s.2 v1 (s.1.toNatClampNeg) (s.2.1 v3 (v4 + s.1).toNatClampNeg)) (fun m5 => f_X9_keeps_39 N k_3 v1 v2 v3 v4 v5 s.1 m5)))))
theorem k_X9_keeps_3 {L : Nat} {xs : Nat → Int32} {δ N : Nat} {v1 : Nat} {v2 : Int32} {v3 : Nat} {v4 : Int32} {v5 : Int32} : ∀ (n : Nat) (s : Int32 × mj_m) (a : Int32 × mj_m), mj_lp n (f_X9_keeps_3 N v1 v2 v3 v4 v5) s = some a → mj_Go (mj_EX L xs) δ mY_X9_keeps 3 [(1, .ref v1), (2, .int v2), (3, .ref v3), (4, .int v4), (5, .int v5), (6, .int s.1)] [] (mj_fin s.2) (some (.int a.1), (mj_fin a.2)) := by
  refine mj_lp_sound (fun k_3 s a q_3 h => ?_)
  unfold f_X9_keeps_3 at h
  refine mj_go_iload (i := 6) (x := s.1) rfl (mj_dt dt_X9_keeps 2 rfl) ?_
  refine mj_go_iload_n (k := 2) (x := v2) rfl (mj_dt dt_X9_keeps 3 rfl) ?_
  refine mj_go_icmp_ge (tgt := 45) rfl (mj_dt dt_X9_keeps 4 rfl) (fun b1 => ?_) (fun b1 => ?_)
  · rw [if_pos b1] at h
    refine mj_go_iload (i := 4) (x := v4) rfl (mj_dt dt_X9_keeps 26 rfl) ?_
    refine mj_go_iload_n (k := 2) (x := v2) rfl (mj_dt dt_X9_keeps 27 rfl) ?_
    refine mj_go_iadd (mj_dt dt_X9_keeps 28 rfl) ?_
    obtain rfl := Option.some.inj h
    exact mj_go_ret (v := some (.int (v4 + v2))) (Nat.le_of_ble_eq_true rfl) (mj_retI (mj_dt dt_X9_keeps 29 rfl) rfl)
  · rw [if_neg b1] at h
    refine mj_go_iload (i := 5) (x := v5) rfl (mj_dt dt_X9_keeps 5 rfl) ?_
    refine mj_go_if_eq (tgt := 28) rfl (mj_dt dt_X9_keeps 6 rfl) (fun b2 => ?_) (fun b2 => ?_)
    · rw [if_pos b2] at h
      refine mj_go_aload_n (k := 3) (x := v3) rfl (mj_dt dt_X9_keeps 16 rfl) ?_
      refine mj_go_iload (i := 4) (x := v4) rfl (mj_dt dt_X9_keeps 17 rfl) ?_
      refine mj_go_iload (i := 6) (x := s.1) rfl (mj_dt dt_X9_keeps 18 rfl) ?_
      refine mj_go_iadd (mj_dt dt_X9_keeps 19 rfl) ?_
      refine mj_go_aload_n (k := 1) (x := v1) rfl (mj_dt dt_X9_keeps 20 rfl) ?_
      refine mj_go_iload (i := 6) (x := s.1) rfl (mj_dt dt_X9_keeps 21 rfl) ?_
      obtain ⟨c3, h⟩ := mj_ck_some h
      refine mk_iald c3 (mj_dt dt_X9_keeps 22 rfl) ?_
      obtain ⟨c4, h⟩ := mj_ck_some h
      obtain ⟨m5, em5, h⟩ := mj_mw_some h
      refine ml_iast c4 (mj_dt dt_X9_keeps 23 rfl) ?_
      refine ml_eqm (M1 := (mj_fin m5)) (by rw [em5] <;> rfl) ?_
      refine mj_go_sub (lv' := [(1, .ref v1), (2, .int v2), (3, .ref v3), (4, .int v4), (5, .int v5), (6, .int s.1)]) (List.forall_mem_cons.mpr ⟨rfl, (List.forall_mem_cons.mpr ⟨rfl, (List.forall_mem_cons.mpr ⟨rfl, (List.forall_mem_cons.mpr ⟨rfl, (List.forall_mem_cons.mpr ⟨rfl, (List.forall_mem_cons.mpr ⟨rfl, (fun _ h9 => absurd h9 List.not_mem_nil)⟩)⟩)⟩)⟩)⟩)⟩) ?_
      exact k_X9_keeps_39 q_3 h
    · rw [if_neg b2] at h
      refine mj_go_aload_n (k := 1) (x := v1) rfl (mj_dt dt_X9_keeps 7 rfl) ?_
      refine mj_go_iload (i := 6) (x := s.1) rfl (mj_dt dt_X9_keeps 8 rfl) ?_
      refine mj_go_aload_n (k := 3) (x := v3) rfl (mj_dt dt_X9_keeps 9 rfl) ?_
      refine mj_go_iload (i := 4) (x := v4) rfl (mj_dt dt_X9_keeps 10 rfl) ?_
      refine mj_go_iload (i := 6) (x := s.1) rfl (mj_dt dt_X9_keeps 11 rfl) ?_
      refine mj_go_iadd (mj_dt dt_X9_keeps 12 rfl) ?_
      obtain ⟨c3, h⟩ := mj_ck_some h
      refine mk_iald c3 (mj_dt dt_X9_keeps 13 rfl) ?_
      obtain ⟨c4, h⟩ := mj_ck_some h
      obtain ⟨m5, em5, h⟩ := mj_mw_some h
      refine ml_iast c4 (mj_dt dt_X9_keeps 14 rfl) ?_
      refine ml_eqm (M1 := (mj_fin m5)) (by rw [em5] <;> rfl) ?_
      refine mj_go_goto (tgt := 39) rfl (mj_dt dt_X9_keeps 15 rfl) ?_
      refine mj_go_sub (lv' := [(1, .ref v1), (2, .int v2), (3, .ref v3), (4, .int v4), (5, .int v5), (6, .int s.1)]) (List.forall_mem_cons.mpr ⟨rfl, (List.forall_mem_cons.mpr ⟨rfl, (List.forall_mem_cons.mpr ⟨rfl, (List.forall_mem_cons.mpr ⟨rfl, (List.forall_mem_cons.mpr ⟨rfl, (List.forall_mem_cons.mpr ⟨rfl, (fun _ h9 => absurd h9 List.not_mem_nil)⟩)⟩)⟩)⟩)⟩)⟩) ?_
      exact k_X9_keeps_39 q_3 h
def f_X9_keeps (N : Nat) (v1 : Nat) (v2 : Int32) (v3 : Nat) (v4 : Int32) (v5 : Int32) (m : mj_m) : Option (Int32 × mj_m) := mj_lp N (f_X9_keeps_3 N v1 v2 v3 v4 v5) (0, m)
theorem k_X9_keeps {L : Nat} {xs : Nat → Int32} {δ N : Nat} {v1 : Nat} {v2 : Int32} {v3 : Nat} {v4 : Int32} {v5 : Int32} {m : mj_m} (_ : 0 ≤ δ) {a : Int32 × mj_m} (h : f_X9_keeps N v1 v2 v3 v4 v5 m = some a) : mj_Cl (mj_EX L xs) δ mY_X9_keeps [.ref 95, .ref v1, .int v2, .ref v3, .int v4, .int v5] (mj_fin m) (some (.int a.1), (mj_fin a.2)) := by
  refine mj_cl_of ok_X9_keeps (Nat.le_of_ble_eq_true rfl) ?_
  unfold f_X9_keeps at h
  refine mj_go_iconst (v := 0) rfl (mj_dt dt_X9_keeps 0 rfl) ?_
  refine mj_go_istore (i := 6) (by decide) (mj_dt dt_X9_keeps 1 rfl) ?_
  refine mj_go_sub (lv' := [(1, .ref v1), (2, .int v2), (3, .ref v3), (4, .int v4), (5, .int v5), (6, .int 0)]) (List.forall_mem_cons.mpr ⟨rfl, (List.forall_mem_cons.mpr ⟨rfl, (List.forall_mem_cons.mpr ⟨rfl, (List.forall_mem_cons.mpr ⟨rfl, (List.forall_mem_cons.mpr ⟨rfl, (List.forall_mem_cons.mpr ⟨rfl, (fun _ h9 => absurd h9 List.not_mem_nil)⟩)⟩)⟩)⟩)⟩)⟩) ?_
  exact k_X9_keeps_3 N _ _ h
def f_X9_all_138 (N : Nat) (v1 : Nat) (v2 : Int32) (v3 : Int32) (m : mj_m) : Option (mj_m) := (f_X9_keeps N 107 10 v1 v3 v2 m).bind (fun r1 => (f_X9_keeps N 108 10 v1 r1.1 v2 r1.2).bind (fun r2 => (f_X9_keeps N 109 10 v1 r2.1 v2 r2.2).bind (fun r3 => if v2 = 0 then (mj_ck (mj_b 0 v1 r3.1) ( mj_mw (mj_wI r3.2 v1 (r3.1.toNatClampNeg) (r3.2.1 95 0)) (fun m6 => mj_ck (mj_b 0 v1 (r3.1 + 1)) ( mj_mw (mj_wI m6 v1 ((r3.1 + 1).toNatClampNeg) (m6.1 95 1)) (fun m8 => mj_ck (mj_b 0 v1 (r3.1 + 2)) ( mj_mw (mj_wI m8 v1 ((r3.1 + 2).toNatClampNeg) (m8.1 95 2)) (fun m10 => mj_ck (mj_b 0 v1 (r3.1 + 3)) ( mj_mw (mj_wI m10 v1 ((r3.1 + 3).toNatClampNeg) (m10.1 95 3)) (fun m12 => mj_ck (mj_b 0 v1 (r3.1 + 4)) ( mj_mw (mj_wI m12 v1 ((r3.1 + 4).toNatClampNeg) (m12.1 95 4)) (fun m14 => mj_ck (mj_b 0 v1 (r3.1 + 5)) ( mj_mw (mj_wI m14 v1 ((r3.1 + 5).toNatClampNeg) (m14.1 95 5)) (fun m16 => mj_ck (mj_b 0 v1 (r3.1 + 6)) ( mj_mw (mj_wI m16 v1 ((r3.1 + 6).toNatClampNeg) (m16.1 95 6)) (fun m18 => mj_ck (mj_b 0 v1 (r3.1 + 7)) ( mj_mw (mj_wI m18 v1 ((r3.1 + 7).toNatClampNeg) (m18.1 95 7)) (fun m20 => mj_ck (mj_b 0 v1 (r3.1 + 8)) ( mj_mw (mj_wI m20 v1 ((r3.1 + 8).toNatClampNeg) (m20.1 95 8)) (fun m22 => mj_ck (mj_b 0 v1 (r3.1 + 9)) ( mj_mw (mj_wI m22 v1 ((r3.1 + 9).toNatClampNeg) (m22.1 95 9)) (fun m24 => (some m24)))))))))))))))))))))) else (mj_ck (mj_b 0 v1 r3.1) ( mj_mw (mj_wI r3.2 95 0 (r3.2.1 v1 r3.1.toNatClampNeg)) (fun m6 => mj_ck (mj_b 0 v1 (r3.1 + 1)) ( mj_mw (mj_wI m6 95 1 (m6.1 v1 (r3.1 + 1).toNatClampNeg)) (fun m8 => mj_ck (mj_b 0 v1 (r3.1 + 2)) ( mj_mw (mj_wI m8 95 2 (m8.1 v1 (r3.1 + 2).toNatClampNeg)) (fun m10 => mj_ck (mj_b 0 v1 (r3.1 + 3)) ( mj_mw (mj_wI m10 95 3 (m10.1 v1 (r3.1 + 3).toNatClampNeg)) (fun m12 => mj_ck (mj_b 0 v1 (r3.1 + 4)) ( mj_mw (mj_wI m12 95 4 (m12.1 v1 (r3.1 + 4).toNatClampNeg)) (fun m14 => mj_ck (mj_b 0 v1 (r3.1 + 5)) ( mj_mw (mj_wI m14 95 5 (m14.1 v1 (r3.1 + 5).toNatClampNeg)) (fun m16 => mj_ck (mj_b 0 v1 (r3.1 + 6)) ( mj_mw (mj_wI m16 95 6 (m16.1 v1 (r3.1 + 6).toNatClampNeg)) (fun m18 => mj_ck (mj_b 0 v1 (r3.1 + 7)) ( mj_mw (mj_wI m18 95 7 (m18.1 v1 (r3.1 + 7).toNatClampNeg)) (fun m20 => mj_ck (mj_b 0 v1 (r3.1 + 8)) ( mj_mw (mj_wI m20 95 8 (m20.1 v1 (r3.1 + 8).toNatClampNeg)) (fun m22 => mj_ck (mj_b 0 v1 (r3.1 + 9)) ( mj_mw (mj_wI m22 95 9 (m22.1 v1 (r3.1 + 9).toNatClampNeg)) (fun m24 => (some m24)))))))))))))))))))))))))
theorem k_X9_all_138 {L : Nat} {xs : Nat → Int32} {δ N : Nat} {v1 : Nat} {v2 : Int32} {v3 : Int32} {m : mj_m} (hδ : 0 ≤ δ) {a : mj_m} (h : f_X9_all_138 N v1 v2 v3 m = some a) : mj_Go (mj_EX L xs) (δ + 1) mY_X9_all 138 [(0, .ref 95), (1, .ref v1), (2, .int v2), (3, .int v3)] [] (mj_fin m) (none, (mj_fin a)) := by
  unfold f_X9_all_138 at h
  refine mj_go_aload_n (k := 0) (x := 95) rfl (mj_dt dt_X9_all 90 rfl) ?_
  refine mj_go_aload_n (k := 0) (x := 95) rfl (mj_dt dt_X9_all 91 rfl) ?_
  refine ml_getR (c := 9) (k := 22) (q := 107) fd_9_22 rf_95_22 (Or.inl fl_X9_59) ho_95 (mj_dt dt_X9_all 92 rfl) ?_
  refine mj_go_bipush (v := 10) rfl (mj_dt dt_X9_all 93 rfl) ?_
  refine mj_go_aload_n (k := 1) (x := v1) rfl (mj_dt dt_X9_all 94 rfl) ?_
  refine mj_go_iload_n (k := 3) (x := v3) rfl (mj_dt dt_X9_all 95 rfl) ?_
  refine mj_go_iload_n (k := 2) (x := v2) rfl (mj_dt dt_X9_all 96 rfl) ?_
  obtain ⟨r1, er1, h⟩ := mj_bind_some h
  refine ml_callV (Y' := mY_X9_keeps) (as := [.ref 107, .int 10, .ref v1, .int v3, .int v2]) (rest := []) (c := 9) (v := (some (.int r1.1))) (M1 := (mj_fin r1.2)) ho_95 rfl lm_X9_214 wc_X9_keeps pl_X9_keeps ok_X9_keeps rfl rfl (Nat.le_of_ble_eq_true rfl) (k_X9_keeps (by omega) er1) (mj_dt dt_X9_all 97 rfl) ?_
  refine mj_go_istore_n (k := 3) (by decide) (mj_dt dt_X9_all 98 rfl) ?_
  refine mj_go_aload_n (k := 0) (x := 95) rfl (mj_dt dt_X9_all 99 rfl) ?_
  refine mj_go_aload_n (k := 0) (x := 95) rfl (mj_dt dt_X9_all 100 rfl) ?_
  refine ml_getR (c := 9) (k := 23) (q := 108) fd_9_23 rf_95_23 (Or.inl fl_X9_62) ho_95 (mj_dt dt_X9_all 101 rfl) ?_
  refine mj_go_bipush (v := 10) rfl (mj_dt dt_X9_all 102 rfl) ?_
  refine mj_go_aload_n (k := 1) (x := v1) rfl (mj_dt dt_X9_all 103 rfl) ?_
  refine mj_go_iload_n (k := 3) (x := r1.1) rfl (mj_dt dt_X9_all 104 rfl) ?_
  refine mj_go_iload_n (k := 2) (x := v2) rfl (mj_dt dt_X9_all 105 rfl) ?_
  obtain ⟨r2, er2, h⟩ := mj_bind_some h
  refine ml_callV (Y' := mY_X9_keeps) (as := [.ref 108, .int 10, .ref v1, .int r1.1, .int v2]) (rest := []) (c := 9) (v := (some (.int r2.1))) (M1 := (mj_fin r2.2)) ho_95 rfl lm_X9_214 wc_X9_keeps pl_X9_keeps ok_X9_keeps rfl rfl (Nat.le_of_ble_eq_true rfl) (k_X9_keeps (by omega) er2) (mj_dt dt_X9_all 106 rfl) ?_
  refine mj_go_istore_n (k := 3) (by decide) (mj_dt dt_X9_all 107 rfl) ?_
  refine mj_go_aload_n (k := 0) (x := 95) rfl (mj_dt dt_X9_all 108 rfl) ?_
  refine mj_go_aload_n (k := 0) (x := 95) rfl (mj_dt dt_X9_all 109 rfl) ?_
  refine ml_getR (c := 9) (k := 24) (q := 109) fd_9_24 rf_95_24 (Or.inl fl_X9_65) ho_95 (mj_dt dt_X9_all 110 rfl) ?_
  refine mj_go_bipush (v := 10) rfl (mj_dt dt_X9_all 111 rfl) ?_
  refine mj_go_aload_n (k := 1) (x := v1) rfl (mj_dt dt_X9_all 112 rfl) ?_
  refine mj_go_iload_n (k := 3) (x := r2.1) rfl (mj_dt dt_X9_all 113 rfl) ?_
  refine mj_go_iload_n (k := 2) (x := v2) rfl (mj_dt dt_X9_all 114 rfl) ?_
  obtain ⟨r3, er3, h⟩ := mj_bind_some h
  refine ml_callV (Y' := mY_X9_keeps) (as := [.ref 109, .int 10, .ref v1, .int r2.1, .int v2]) (rest := []) (c := 9) (v := (some (.int r3.1))) (M1 := (mj_fin r3.2)) ho_95 rfl lm_X9_214 wc_X9_keeps pl_X9_keeps ok_X9_keeps rfl rfl (Nat.le_of_ble_eq_true rfl) (k_X9_keeps (by omega) er3) (mj_dt dt_X9_all 115 rfl) ?_
  refine mj_go_istore_n (k := 3) (by decide) (mj_dt dt_X9_all 116 rfl) ?_
  refine mj_go_iload_n (k := 2) (x := v2) rfl (mj_dt dt_X9_all 117 rfl) ?_
  refine mj_go_if_eq (tgt := 279) rfl (mj_dt dt_X9_all 118 rfl) (fun b4 => ?_) (fun b4 => ?_)
  · rw [if_pos b4] at h
    refine mj_go_aload_n (k := 1) (x := v1) rfl (mj_dt dt_X9_all 188 rfl) ?_
    refine mj_go_iload_n (k := 3) (x := r3.1) rfl (mj_dt dt_X9_all 189 rfl) ?_
    refine mj_go_aload_n (k := 0) (x := 95) rfl (mj_dt dt_X9_all 190 rfl) ?_
    refine mk_getI (c := 9) (k := 0) (Or.inl fd_9_0) (Or.inl fl_X9_149) ho_95 (mj_dt dt_X9_all 191 rfl) ?_
    obtain ⟨c5, h⟩ := mj_ck_some h
    obtain ⟨m6, em6, h⟩ := mj_mw_some h
    refine ml_iast c5 (mj_dt dt_X9_all 192 rfl) ?_
    refine ml_eqm (M1 := (mj_fin m6)) (by rw [em6] <;> rfl) ?_
    refine mj_go_aload_n (k := 1) (x := v1) rfl (mj_dt dt_X9_all 193 rfl) ?_
    refine mj_go_iload_n (k := 3) (x := r3.1) rfl (mj_dt dt_X9_all 194 rfl) ?_
    refine mj_go_iconst (v := 1) rfl (mj_dt dt_X9_all 195 rfl) ?_
    refine mj_go_iadd (mj_dt dt_X9_all 196 rfl) ?_
    refine mj_go_aload_n (k := 0) (x := 95) rfl (mj_dt dt_X9_all 197 rfl) ?_
    refine mk_getI (c := 9) (k := 1) (Or.inl fd_9_1) (Or.inl fl_X9_124) ho_95 (mj_dt dt_X9_all 198 rfl) ?_
    obtain ⟨c7, h⟩ := mj_ck_some h
    obtain ⟨m8, em8, h⟩ := mj_mw_some h
    refine ml_iast c7 (mj_dt dt_X9_all 199 rfl) ?_
    refine ml_eqm (M1 := (mj_fin m8)) (by rw [em8] <;> rfl) ?_
    refine mj_go_aload_n (k := 1) (x := v1) rfl (mj_dt dt_X9_all 200 rfl) ?_
    refine mj_go_iload_n (k := 3) (x := r3.1) rfl (mj_dt dt_X9_all 201 rfl) ?_
    refine mj_go_iconst (v := 2) rfl (mj_dt dt_X9_all 202 rfl) ?_
    refine mj_go_iadd (mj_dt dt_X9_all 203 rfl) ?_
    refine mj_go_aload_n (k := 0) (x := 95) rfl (mj_dt dt_X9_all 204 rfl) ?_
    refine mk_getI (c := 9) (k := 2) (Or.inl fd_9_2) (Or.inl fl_X9_127) ho_95 (mj_dt dt_X9_all 205 rfl) ?_
    obtain ⟨c9, h⟩ := mj_ck_some h
    obtain ⟨m10, em10, h⟩ := mj_mw_some h
    refine ml_iast c9 (mj_dt dt_X9_all 206 rfl) ?_
    refine ml_eqm (M1 := (mj_fin m10)) (by rw [em10] <;> rfl) ?_
    refine mj_go_aload_n (k := 1) (x := v1) rfl (mj_dt dt_X9_all 207 rfl) ?_
    refine mj_go_iload_n (k := 3) (x := r3.1) rfl (mj_dt dt_X9_all 208 rfl) ?_
    refine mj_go_iconst (v := 3) rfl (mj_dt dt_X9_all 209 rfl) ?_
    refine mj_go_iadd (mj_dt dt_X9_all 210 rfl) ?_
    refine mj_go_aload_n (k := 0) (x := 95) rfl (mj_dt dt_X9_all 211 rfl) ?_
    refine mk_getI (c := 9) (k := 3) (Or.inl fd_9_3) (Or.inl fl_X9_7) ho_95 (mj_dt dt_X9_all 212 rfl) ?_
    obtain ⟨c11, h⟩ := mj_ck_some h
    obtain ⟨m12, em12, h⟩ := mj_mw_some h
    refine ml_iast c11 (mj_dt dt_X9_all 213 rfl) ?_
    refine ml_eqm (M1 := (mj_fin m12)) (by rw [em12] <;> rfl) ?_
    refine mj_go_aload_n (k := 1) (x := v1) rfl (mj_dt dt_X9_all 214 rfl) ?_
    refine mj_go_iload_n (k := 3) (x := r3.1) rfl (mj_dt dt_X9_all 215 rfl) ?_
    refine mj_go_iconst (v := 4) rfl (mj_dt dt_X9_all 216 rfl) ?_
    refine mj_go_iadd (mj_dt dt_X9_all 217 rfl) ?_
    refine mj_go_aload_n (k := 0) (x := 95) rfl (mj_dt dt_X9_all 218 rfl) ?_
    refine mk_getI (c := 9) (k := 4) (Or.inl fd_9_4) (Or.inl fl_X9_13) ho_95 (mj_dt dt_X9_all 219 rfl) ?_
    obtain ⟨c13, h⟩ := mj_ck_some h
    obtain ⟨m14, em14, h⟩ := mj_mw_some h
    refine ml_iast c13 (mj_dt dt_X9_all 220 rfl) ?_
    refine ml_eqm (M1 := (mj_fin m14)) (by rw [em14] <;> rfl) ?_
    refine mj_go_aload_n (k := 1) (x := v1) rfl (mj_dt dt_X9_all 221 rfl) ?_
    refine mj_go_iload_n (k := 3) (x := r3.1) rfl (mj_dt dt_X9_all 222 rfl) ?_
    refine mj_go_iconst (v := 5) rfl (mj_dt dt_X9_all 223 rfl) ?_
    refine mj_go_iadd (mj_dt dt_X9_all 224 rfl) ?_
    refine mj_go_aload_n (k := 0) (x := 95) rfl (mj_dt dt_X9_all 225 rfl) ?_
    refine mk_getI (c := 9) (k := 5) (Or.inl fd_9_5) (Or.inl fl_X9_16) ho_95 (mj_dt dt_X9_all 226 rfl) ?_
    obtain ⟨c15, h⟩ := mj_ck_some h
    obtain ⟨m16, em16, h⟩ := mj_mw_some h
    refine ml_iast c15 (mj_dt dt_X9_all 227 rfl) ?_
    refine ml_eqm (M1 := (mj_fin m16)) (by rw [em16] <;> rfl) ?_
    refine mj_go_aload_n (k := 1) (x := v1) rfl (mj_dt dt_X9_all 228 rfl) ?_
    refine mj_go_iload_n (k := 3) (x := r3.1) rfl (mj_dt dt_X9_all 229 rfl) ?_
    refine mj_go_bipush (v := 6) rfl (mj_dt dt_X9_all 230 rfl) ?_
    refine mj_go_iadd (mj_dt dt_X9_all 231 rfl) ?_
    refine mj_go_aload_n (k := 0) (x := 95) rfl (mj_dt dt_X9_all 232 rfl) ?_
    refine mk_getI (c := 9) (k := 6) (Or.inl fd_9_6) (Or.inl fl_X9_218) ho_95 (mj_dt dt_X9_all 233 rfl) ?_
    obtain ⟨c17, h⟩ := mj_ck_some h
    obtain ⟨m18, em18, h⟩ := mj_mw_some h
    refine ml_iast c17 (mj_dt dt_X9_all 234 rfl) ?_
    refine ml_eqm (M1 := (mj_fin m18)) (by rw [em18] <;> rfl) ?_
    refine mj_go_aload_n (k := 1) (x := v1) rfl (mj_dt dt_X9_all 235 rfl) ?_
    refine mj_go_iload_n (k := 3) (x := r3.1) rfl (mj_dt dt_X9_all 236 rfl) ?_
    refine mj_go_bipush (v := 7) rfl (mj_dt dt_X9_all 237 rfl) ?_
    refine mj_go_iadd (mj_dt dt_X9_all 238 rfl) ?_
    refine mj_go_aload_n (k := 0) (x := 95) rfl (mj_dt dt_X9_all 239 rfl) ?_
    refine mk_getI (c := 9) (k := 7) (Or.inl fd_9_7) (Or.inl fl_X9_221) ho_95 (mj_dt dt_X9_all 240 rfl) ?_
    obtain ⟨c19, h⟩ := mj_ck_some h
    obtain ⟨m20, em20, h⟩ := mj_mw_some h
    refine ml_iast c19 (mj_dt dt_X9_all 241 rfl) ?_
    refine ml_eqm (M1 := (mj_fin m20)) (by rw [em20] <;> rfl) ?_
    refine mj_go_aload_n (k := 1) (x := v1) rfl (mj_dt dt_X9_all 242 rfl) ?_
    refine mj_go_iload_n (k := 3) (x := r3.1) rfl (mj_dt dt_X9_all 243 rfl) ?_
    refine mj_go_bipush (v := 8) rfl (mj_dt dt_X9_all 244 rfl) ?_
    refine mj_go_iadd (mj_dt dt_X9_all 245 rfl) ?_
    refine mj_go_aload_n (k := 0) (x := 95) rfl (mj_dt dt_X9_all 246 rfl) ?_
    refine mk_getI (c := 9) (k := 8) (Or.inl fd_9_8) (Or.inl fl_X9_224) ho_95 (mj_dt dt_X9_all 247 rfl) ?_
    obtain ⟨c21, h⟩ := mj_ck_some h
    obtain ⟨m22, em22, h⟩ := mj_mw_some h
    refine ml_iast c21 (mj_dt dt_X9_all 248 rfl) ?_
    refine ml_eqm (M1 := (mj_fin m22)) (by rw [em22] <;> rfl) ?_
    refine mj_go_aload_n (k := 1) (x := v1) rfl (mj_dt dt_X9_all 249 rfl) ?_
    refine mj_go_iload_n (k := 3) (x := r3.1) rfl (mj_dt dt_X9_all 250 rfl) ?_
    refine mj_go_bipush (v := 9) rfl (mj_dt dt_X9_all 251 rfl) ?_
    refine mj_go_iadd (mj_dt dt_X9_all 252 rfl) ?_
    refine mj_go_aload_n (k := 0) (x := 95) rfl (mj_dt dt_X9_all 253 rfl) ?_
    refine mk_getI (c := 9) (k := 9) (Or.inl fd_9_9) (Or.inl fl_X9_19) ho_95 (mj_dt dt_X9_all 254 rfl) ?_
    obtain ⟨c23, h⟩ := mj_ck_some h
    obtain ⟨m24, em24, h⟩ := mj_mw_some h
    refine ml_iast c23 (mj_dt dt_X9_all 255 rfl) ?_
    refine ml_eqm (M1 := (mj_fin m24)) (by rw [em24] <;> rfl) ?_
    obtain rfl := Option.some.inj h
    exact mj_go_ret (v := none) (Nat.le_of_ble_eq_true rfl) (mj_retV (mj_dt dt_X9_all 256 rfl) rfl)
  · rw [if_neg b4] at h
    refine mj_go_aload_n (k := 0) (x := 95) rfl (mj_dt dt_X9_all 119 rfl) ?_
    refine mj_go_aload_n (k := 1) (x := v1) rfl (mj_dt dt_X9_all 120 rfl) ?_
    refine mj_go_iload_n (k := 3) (x := r3.1) rfl (mj_dt dt_X9_all 121 rfl) ?_
    obtain ⟨c5, h⟩ := mj_ck_some h
    refine mk_iald c5 (mj_dt dt_X9_all 122 rfl) ?_
    obtain ⟨m6, em6, h⟩ := mj_mw_some h
    refine ml_putI (c := 9) (k := 0) fd_9_0 rfl fl_X9_149 ho_95 (mj_dt dt_X9_all 123 rfl) ?_
    refine ml_eqm (M1 := (mj_fin m6)) (by rw [em6] <;> rfl) ?_
    refine mj_go_aload_n (k := 0) (x := 95) rfl (mj_dt dt_X9_all 124 rfl) ?_
    refine mj_go_aload_n (k := 1) (x := v1) rfl (mj_dt dt_X9_all 125 rfl) ?_
    refine mj_go_iload_n (k := 3) (x := r3.1) rfl (mj_dt dt_X9_all 126 rfl) ?_
    refine mj_go_iconst (v := 1) rfl (mj_dt dt_X9_all 127 rfl) ?_
    refine mj_go_iadd (mj_dt dt_X9_all 128 rfl) ?_
    obtain ⟨c7, h⟩ := mj_ck_some h
    refine mk_iald c7 (mj_dt dt_X9_all 129 rfl) ?_
    obtain ⟨m8, em8, h⟩ := mj_mw_some h
    refine ml_putI (c := 9) (k := 1) fd_9_1 rfl fl_X9_124 ho_95 (mj_dt dt_X9_all 130 rfl) ?_
    refine ml_eqm (M1 := (mj_fin m8)) (by rw [em8] <;> rfl) ?_
    refine mj_go_aload_n (k := 0) (x := 95) rfl (mj_dt dt_X9_all 131 rfl) ?_
    refine mj_go_aload_n (k := 1) (x := v1) rfl (mj_dt dt_X9_all 132 rfl) ?_
    refine mj_go_iload_n (k := 3) (x := r3.1) rfl (mj_dt dt_X9_all 133 rfl) ?_
    refine mj_go_iconst (v := 2) rfl (mj_dt dt_X9_all 134 rfl) ?_
    refine mj_go_iadd (mj_dt dt_X9_all 135 rfl) ?_
    obtain ⟨c9, h⟩ := mj_ck_some h
    refine mk_iald c9 (mj_dt dt_X9_all 136 rfl) ?_
    obtain ⟨m10, em10, h⟩ := mj_mw_some h
    refine ml_putI (c := 9) (k := 2) fd_9_2 rfl fl_X9_127 ho_95 (mj_dt dt_X9_all 137 rfl) ?_
    refine ml_eqm (M1 := (mj_fin m10)) (by rw [em10] <;> rfl) ?_
    refine mj_go_aload_n (k := 0) (x := 95) rfl (mj_dt dt_X9_all 138 rfl) ?_
    refine mj_go_aload_n (k := 1) (x := v1) rfl (mj_dt dt_X9_all 139 rfl) ?_
    refine mj_go_iload_n (k := 3) (x := r3.1) rfl (mj_dt dt_X9_all 140 rfl) ?_
    refine mj_go_iconst (v := 3) rfl (mj_dt dt_X9_all 141 rfl) ?_
    refine mj_go_iadd (mj_dt dt_X9_all 142 rfl) ?_
    obtain ⟨c11, h⟩ := mj_ck_some h
    refine mk_iald c11 (mj_dt dt_X9_all 143 rfl) ?_
    obtain ⟨m12, em12, h⟩ := mj_mw_some h
    refine ml_putI (c := 9) (k := 3) fd_9_3 rfl fl_X9_7 ho_95 (mj_dt dt_X9_all 144 rfl) ?_
    refine ml_eqm (M1 := (mj_fin m12)) (by rw [em12] <;> rfl) ?_
    refine mj_go_aload_n (k := 0) (x := 95) rfl (mj_dt dt_X9_all 145 rfl) ?_
    refine mj_go_aload_n (k := 1) (x := v1) rfl (mj_dt dt_X9_all 146 rfl) ?_
    refine mj_go_iload_n (k := 3) (x := r3.1) rfl (mj_dt dt_X9_all 147 rfl) ?_
    refine mj_go_iconst (v := 4) rfl (mj_dt dt_X9_all 148 rfl) ?_
    refine mj_go_iadd (mj_dt dt_X9_all 149 rfl) ?_
    obtain ⟨c13, h⟩ := mj_ck_some h
    refine mk_iald c13 (mj_dt dt_X9_all 150 rfl) ?_
    obtain ⟨m14, em14, h⟩ := mj_mw_some h
    refine ml_putI (c := 9) (k := 4) fd_9_4 rfl fl_X9_13 ho_95 (mj_dt dt_X9_all 151 rfl) ?_
    refine ml_eqm (M1 := (mj_fin m14)) (by rw [em14] <;> rfl) ?_
    refine mj_go_aload_n (k := 0) (x := 95) rfl (mj_dt dt_X9_all 152 rfl) ?_
    refine mj_go_aload_n (k := 1) (x := v1) rfl (mj_dt dt_X9_all 153 rfl) ?_
    refine mj_go_iload_n (k := 3) (x := r3.1) rfl (mj_dt dt_X9_all 154 rfl) ?_
    refine mj_go_iconst (v := 5) rfl (mj_dt dt_X9_all 155 rfl) ?_
    refine mj_go_iadd (mj_dt dt_X9_all 156 rfl) ?_
    obtain ⟨c15, h⟩ := mj_ck_some h
    refine mk_iald c15 (mj_dt dt_X9_all 157 rfl) ?_
    obtain ⟨m16, em16, h⟩ := mj_mw_some h
    refine ml_putI (c := 9) (k := 5) fd_9_5 rfl fl_X9_16 ho_95 (mj_dt dt_X9_all 158 rfl) ?_
    refine ml_eqm (M1 := (mj_fin m16)) (by rw [em16] <;> rfl) ?_
    refine mj_go_aload_n (k := 0) (x := 95) rfl (mj_dt dt_X9_all 159 rfl) ?_
    refine mj_go_aload_n (k := 1) (x := v1) rfl (mj_dt dt_X9_all 160 rfl) ?_
    refine mj_go_iload_n (k := 3) (x := r3.1) rfl (mj_dt dt_X9_all 161 rfl) ?_
    refine mj_go_bipush (v := 6) rfl (mj_dt dt_X9_all 162 rfl) ?_
    refine mj_go_iadd (mj_dt dt_X9_all 163 rfl) ?_
    obtain ⟨c17, h⟩ := mj_ck_some h
    refine mk_iald c17 (mj_dt dt_X9_all 164 rfl) ?_
    obtain ⟨m18, em18, h⟩ := mj_mw_some h
    refine ml_putI (c := 9) (k := 6) fd_9_6 rfl fl_X9_218 ho_95 (mj_dt dt_X9_all 165 rfl) ?_
    refine ml_eqm (M1 := (mj_fin m18)) (by rw [em18] <;> rfl) ?_
    refine mj_go_aload_n (k := 0) (x := 95) rfl (mj_dt dt_X9_all 166 rfl) ?_
    refine mj_go_aload_n (k := 1) (x := v1) rfl (mj_dt dt_X9_all 167 rfl) ?_
    refine mj_go_iload_n (k := 3) (x := r3.1) rfl (mj_dt dt_X9_all 168 rfl) ?_
    refine mj_go_bipush (v := 7) rfl (mj_dt dt_X9_all 169 rfl) ?_
    refine mj_go_iadd (mj_dt dt_X9_all 170 rfl) ?_
    obtain ⟨c19, h⟩ := mj_ck_some h
    refine mk_iald c19 (mj_dt dt_X9_all 171 rfl) ?_
    obtain ⟨m20, em20, h⟩ := mj_mw_some h
    refine ml_putI (c := 9) (k := 7) fd_9_7 rfl fl_X9_221 ho_95 (mj_dt dt_X9_all 172 rfl) ?_
    refine ml_eqm (M1 := (mj_fin m20)) (by rw [em20] <;> rfl) ?_
    refine mj_go_aload_n (k := 0) (x := 95) rfl (mj_dt dt_X9_all 173 rfl) ?_
    refine mj_go_aload_n (k := 1) (x := v1) rfl (mj_dt dt_X9_all 174 rfl) ?_
    refine mj_go_iload_n (k := 3) (x := r3.1) rfl (mj_dt dt_X9_all 175 rfl) ?_
    refine mj_go_bipush (v := 8) rfl (mj_dt dt_X9_all 176 rfl) ?_
    refine mj_go_iadd (mj_dt dt_X9_all 177 rfl) ?_
    obtain ⟨c21, h⟩ := mj_ck_some h
    refine mk_iald c21 (mj_dt dt_X9_all 178 rfl) ?_
    obtain ⟨m22, em22, h⟩ := mj_mw_some h
    refine ml_putI (c := 9) (k := 8) fd_9_8 rfl fl_X9_224 ho_95 (mj_dt dt_X9_all 179 rfl) ?_
    refine ml_eqm (M1 := (mj_fin m22)) (by rw [em22] <;> rfl) ?_
    refine mj_go_aload_n (k := 0) (x := 95) rfl (mj_dt dt_X9_all 180 rfl) ?_
    refine mj_go_aload_n (k := 1) (x := v1) rfl (mj_dt dt_X9_all 181 rfl) ?_
    refine mj_go_iload_n (k := 3) (x := r3.1) rfl (mj_dt dt_X9_all 182 rfl) ?_
    refine mj_go_bipush (v := 9) rfl (mj_dt dt_X9_all 183 rfl) ?_
    refine mj_go_iadd (mj_dt dt_X9_all 184 rfl) ?_
    obtain ⟨c23, h⟩ := mj_ck_some h
    refine mk_iald c23 (mj_dt dt_X9_all 185 rfl) ?_
    obtain ⟨m24, em24, h⟩ := mj_mw_some h
    refine ml_putI (c := 9) (k := 9) fd_9_9 rfl fl_X9_19 ho_95 (mj_dt dt_X9_all 186 rfl) ?_
    refine ml_eqm (M1 := (mj_fin m24)) (by rw [em24] <;> rfl) ?_
    refine mj_go_goto (tgt := 371) rfl (mj_dt dt_X9_all 187 rfl) ?_
    obtain rfl := Option.some.inj h
    exact mj_go_ret (v := none) (Nat.le_of_ble_eq_true rfl) (mj_retV (mj_dt dt_X9_all 256 rfl) rfl)
def f_X9_all (N : Nat) (v1 : Nat) (v2 : Int32) (m : mj_m) : Option (mj_m) := (f_X9_keeps N 97 12 v1 0 v2 m).bind (fun r1 => (f_X9_keeps N 98 12 v1 r1.1 v2 r1.2).bind (fun r2 => (f_X9_keeps N 99 4 v1 r2.1 v2 r2.2).bind (fun r3 => (f_X9_keeps N 100 4 v1 r3.1 v2 r3.2).bind (fun r4 => (f_X9_keeps N 101 10 v1 r4.1 v2 r4.2).bind (fun r5 => (f_X9_keeps N 102 10 v1 r5.1 v2 r5.2).bind (fun r6 => (f_X9_keeps N 103 10 v1 r6.1 v2 r6.2).bind (fun r7 => (f_X9_keeps N 104 10 v1 r7.1 v2 r7.2).bind (fun r8 => (f_X9_keeps N 105 10 v1 r8.1 v2 r8.2).bind (fun r9 => (f_X9_keeps N 106 10 v1 r9.1 v2 r9.2).bind (fun r10 => f_X9_all_138 N v1 v2 r10.1 r10.2))))))))))
theorem k_X9_all {L : Nat} {xs : Nat → Int32} {δ N : Nat} {v1 : Nat} {v2 : Int32} {m : mj_m} (hδ : 1 ≤ δ) {a : mj_m} (h : f_X9_all N v1 v2 m = some a) : mj_Cl (mj_EX L xs) δ mY_X9_all [.ref 95, .ref v1, .int v2] (mj_fin m) (none, (mj_fin a)) := by
  obtain ⟨δ, rfl⟩ : ∃ d, δ = d + 1 := ⟨δ - 1, by omega⟩
  have hδ : 0 ≤ δ := by omega
  refine mj_cl_of ok_X9_all (Nat.le_of_ble_eq_true rfl) ?_
  unfold f_X9_all at h
  refine mj_go_aload_n (k := 0) (x := 95) rfl (mj_dt dt_X9_all 0 rfl) ?_
  refine mj_go_aload_n (k := 0) (x := 95) rfl (mj_dt dt_X9_all 1 rfl) ?_
  refine ml_getR (c := 9) (k := 12) (q := 97) fd_9_12 rf_95_12 (Or.inl fl_X9_29) ho_95 (mj_dt dt_X9_all 2 rfl) ?_
  refine mj_go_bipush (v := 12) rfl (mj_dt dt_X9_all 3 rfl) ?_
  refine mj_go_aload_n (k := 1) (x := v1) rfl (mj_dt dt_X9_all 4 rfl) ?_
  refine mj_go_iconst (v := 0) rfl (mj_dt dt_X9_all 5 rfl) ?_
  refine mj_go_iload_n (k := 2) (x := v2) rfl (mj_dt dt_X9_all 6 rfl) ?_
  obtain ⟨r1, er1, h⟩ := mj_bind_some h
  refine ml_callV (Y' := mY_X9_keeps) (as := [.ref 97, .int 12, .ref v1, .int 0, .int v2]) (rest := []) (c := 9) (v := (some (.int r1.1))) (M1 := (mj_fin r1.2)) ho_95 rfl lm_X9_214 wc_X9_keeps pl_X9_keeps ok_X9_keeps rfl rfl (Nat.le_of_ble_eq_true rfl) (k_X9_keeps (by omega) er1) (mj_dt dt_X9_all 7 rfl) ?_
  refine mj_go_istore_n (k := 3) (by decide) (mj_dt dt_X9_all 8 rfl) ?_
  refine mj_go_aload_n (k := 0) (x := 95) rfl (mj_dt dt_X9_all 9 rfl) ?_
  refine mj_go_aload_n (k := 0) (x := 95) rfl (mj_dt dt_X9_all 10 rfl) ?_
  refine ml_getR (c := 9) (k := 13) (q := 98) fd_9_13 rf_95_13 (Or.inl fl_X9_32) ho_95 (mj_dt dt_X9_all 11 rfl) ?_
  refine mj_go_bipush (v := 12) rfl (mj_dt dt_X9_all 12 rfl) ?_
  refine mj_go_aload_n (k := 1) (x := v1) rfl (mj_dt dt_X9_all 13 rfl) ?_
  refine mj_go_iload_n (k := 3) (x := r1.1) rfl (mj_dt dt_X9_all 14 rfl) ?_
  refine mj_go_iload_n (k := 2) (x := v2) rfl (mj_dt dt_X9_all 15 rfl) ?_
  obtain ⟨r2, er2, h⟩ := mj_bind_some h
  refine ml_callV (Y' := mY_X9_keeps) (as := [.ref 98, .int 12, .ref v1, .int r1.1, .int v2]) (rest := []) (c := 9) (v := (some (.int r2.1))) (M1 := (mj_fin r2.2)) ho_95 rfl lm_X9_214 wc_X9_keeps pl_X9_keeps ok_X9_keeps rfl rfl (Nat.le_of_ble_eq_true rfl) (k_X9_keeps (by omega) er2) (mj_dt dt_X9_all 16 rfl) ?_
  refine mj_go_istore_n (k := 3) (by decide) (mj_dt dt_X9_all 17 rfl) ?_
  refine mj_go_aload_n (k := 0) (x := 95) rfl (mj_dt dt_X9_all 18 rfl) ?_
  refine mj_go_aload_n (k := 0) (x := 95) rfl (mj_dt dt_X9_all 19 rfl) ?_
  refine ml_getR (c := 9) (k := 14) (q := 99) fd_9_14 rf_95_14 (Or.inl fl_X9_35) ho_95 (mj_dt dt_X9_all 20 rfl) ?_
  refine mj_go_iconst (v := 4) rfl (mj_dt dt_X9_all 21 rfl) ?_
  refine mj_go_aload_n (k := 1) (x := v1) rfl (mj_dt dt_X9_all 22 rfl) ?_
  refine mj_go_iload_n (k := 3) (x := r2.1) rfl (mj_dt dt_X9_all 23 rfl) ?_
  refine mj_go_iload_n (k := 2) (x := v2) rfl (mj_dt dt_X9_all 24 rfl) ?_
  obtain ⟨r3, er3, h⟩ := mj_bind_some h
  refine ml_callV (Y' := mY_X9_keeps) (as := [.ref 99, .int 4, .ref v1, .int r2.1, .int v2]) (rest := []) (c := 9) (v := (some (.int r3.1))) (M1 := (mj_fin r3.2)) ho_95 rfl lm_X9_214 wc_X9_keeps pl_X9_keeps ok_X9_keeps rfl rfl (Nat.le_of_ble_eq_true rfl) (k_X9_keeps (by omega) er3) (mj_dt dt_X9_all 25 rfl) ?_
  refine mj_go_istore_n (k := 3) (by decide) (mj_dt dt_X9_all 26 rfl) ?_
  refine mj_go_aload_n (k := 0) (x := 95) rfl (mj_dt dt_X9_all 27 rfl) ?_
  refine mj_go_aload_n (k := 0) (x := 95) rfl (mj_dt dt_X9_all 28 rfl) ?_
  refine ml_getR (c := 9) (k := 15) (q := 100) fd_9_15 rf_95_15 (Or.inl fl_X9_38) ho_95 (mj_dt dt_X9_all 29 rfl) ?_
  refine mj_go_iconst (v := 4) rfl (mj_dt dt_X9_all 30 rfl) ?_
  refine mj_go_aload_n (k := 1) (x := v1) rfl (mj_dt dt_X9_all 31 rfl) ?_
  refine mj_go_iload_n (k := 3) (x := r3.1) rfl (mj_dt dt_X9_all 32 rfl) ?_
  refine mj_go_iload_n (k := 2) (x := v2) rfl (mj_dt dt_X9_all 33 rfl) ?_
  obtain ⟨r4, er4, h⟩ := mj_bind_some h
  refine ml_callV (Y' := mY_X9_keeps) (as := [.ref 100, .int 4, .ref v1, .int r3.1, .int v2]) (rest := []) (c := 9) (v := (some (.int r4.1))) (M1 := (mj_fin r4.2)) ho_95 rfl lm_X9_214 wc_X9_keeps pl_X9_keeps ok_X9_keeps rfl rfl (Nat.le_of_ble_eq_true rfl) (k_X9_keeps (by omega) er4) (mj_dt dt_X9_all 34 rfl) ?_
  refine mj_go_istore_n (k := 3) (by decide) (mj_dt dt_X9_all 35 rfl) ?_
  refine mj_go_aload_n (k := 0) (x := 95) rfl (mj_dt dt_X9_all 36 rfl) ?_
  refine mj_go_aload_n (k := 0) (x := 95) rfl (mj_dt dt_X9_all 37 rfl) ?_
  refine ml_getR (c := 9) (k := 16) (q := 101) fd_9_16 rf_95_16 (Or.inl fl_X9_41) ho_95 (mj_dt dt_X9_all 38 rfl) ?_
  refine mj_go_bipush (v := 10) rfl (mj_dt dt_X9_all 39 rfl) ?_
  refine mj_go_aload_n (k := 1) (x := v1) rfl (mj_dt dt_X9_all 40 rfl) ?_
  refine mj_go_iload_n (k := 3) (x := r4.1) rfl (mj_dt dt_X9_all 41 rfl) ?_
  refine mj_go_iload_n (k := 2) (x := v2) rfl (mj_dt dt_X9_all 42 rfl) ?_
  obtain ⟨r5, er5, h⟩ := mj_bind_some h
  refine ml_callV (Y' := mY_X9_keeps) (as := [.ref 101, .int 10, .ref v1, .int r4.1, .int v2]) (rest := []) (c := 9) (v := (some (.int r5.1))) (M1 := (mj_fin r5.2)) ho_95 rfl lm_X9_214 wc_X9_keeps pl_X9_keeps ok_X9_keeps rfl rfl (Nat.le_of_ble_eq_true rfl) (k_X9_keeps (by omega) er5) (mj_dt dt_X9_all 43 rfl) ?_
  refine mj_go_istore_n (k := 3) (by decide) (mj_dt dt_X9_all 44 rfl) ?_
  refine mj_go_aload_n (k := 0) (x := 95) rfl (mj_dt dt_X9_all 45 rfl) ?_
  refine mj_go_aload_n (k := 0) (x := 95) rfl (mj_dt dt_X9_all 46 rfl) ?_
  refine ml_getR (c := 9) (k := 17) (q := 102) fd_9_17 rf_95_17 (Or.inl fl_X9_44) ho_95 (mj_dt dt_X9_all 47 rfl) ?_
  refine mj_go_bipush (v := 10) rfl (mj_dt dt_X9_all 48 rfl) ?_
  refine mj_go_aload_n (k := 1) (x := v1) rfl (mj_dt dt_X9_all 49 rfl) ?_
  refine mj_go_iload_n (k := 3) (x := r5.1) rfl (mj_dt dt_X9_all 50 rfl) ?_
  refine mj_go_iload_n (k := 2) (x := v2) rfl (mj_dt dt_X9_all 51 rfl) ?_
  obtain ⟨r6, er6, h⟩ := mj_bind_some h
  refine ml_callV (Y' := mY_X9_keeps) (as := [.ref 102, .int 10, .ref v1, .int r5.1, .int v2]) (rest := []) (c := 9) (v := (some (.int r6.1))) (M1 := (mj_fin r6.2)) ho_95 rfl lm_X9_214 wc_X9_keeps pl_X9_keeps ok_X9_keeps rfl rfl (Nat.le_of_ble_eq_true rfl) (k_X9_keeps (by omega) er6) (mj_dt dt_X9_all 52 rfl) ?_
  refine mj_go_istore_n (k := 3) (by decide) (mj_dt dt_X9_all 53 rfl) ?_
  refine mj_go_aload_n (k := 0) (x := 95) rfl (mj_dt dt_X9_all 54 rfl) ?_
  refine mj_go_aload_n (k := 0) (x := 95) rfl (mj_dt dt_X9_all 55 rfl) ?_
  refine ml_getR (c := 9) (k := 18) (q := 103) fd_9_18 rf_95_18 (Or.inl fl_X9_47) ho_95 (mj_dt dt_X9_all 56 rfl) ?_
  refine mj_go_bipush (v := 10) rfl (mj_dt dt_X9_all 57 rfl) ?_
  refine mj_go_aload_n (k := 1) (x := v1) rfl (mj_dt dt_X9_all 58 rfl) ?_
  refine mj_go_iload_n (k := 3) (x := r6.1) rfl (mj_dt dt_X9_all 59 rfl) ?_
  refine mj_go_iload_n (k := 2) (x := v2) rfl (mj_dt dt_X9_all 60 rfl) ?_
  obtain ⟨r7, er7, h⟩ := mj_bind_some h
  refine ml_callV (Y' := mY_X9_keeps) (as := [.ref 103, .int 10, .ref v1, .int r6.1, .int v2]) (rest := []) (c := 9) (v := (some (.int r7.1))) (M1 := (mj_fin r7.2)) ho_95 rfl lm_X9_214 wc_X9_keeps pl_X9_keeps ok_X9_keeps rfl rfl (Nat.le_of_ble_eq_true rfl) (k_X9_keeps (by omega) er7) (mj_dt dt_X9_all 61 rfl) ?_
  refine mj_go_istore_n (k := 3) (by decide) (mj_dt dt_X9_all 62 rfl) ?_
  refine mj_go_aload_n (k := 0) (x := 95) rfl (mj_dt dt_X9_all 63 rfl) ?_
  refine mj_go_aload_n (k := 0) (x := 95) rfl (mj_dt dt_X9_all 64 rfl) ?_
  refine ml_getR (c := 9) (k := 19) (q := 104) fd_9_19 rf_95_19 (Or.inl fl_X9_50) ho_95 (mj_dt dt_X9_all 65 rfl) ?_
  refine mj_go_bipush (v := 10) rfl (mj_dt dt_X9_all 66 rfl) ?_
  refine mj_go_aload_n (k := 1) (x := v1) rfl (mj_dt dt_X9_all 67 rfl) ?_
  refine mj_go_iload_n (k := 3) (x := r7.1) rfl (mj_dt dt_X9_all 68 rfl) ?_
  refine mj_go_iload_n (k := 2) (x := v2) rfl (mj_dt dt_X9_all 69 rfl) ?_
  obtain ⟨r8, er8, h⟩ := mj_bind_some h
  refine ml_callV (Y' := mY_X9_keeps) (as := [.ref 104, .int 10, .ref v1, .int r7.1, .int v2]) (rest := []) (c := 9) (v := (some (.int r8.1))) (M1 := (mj_fin r8.2)) ho_95 rfl lm_X9_214 wc_X9_keeps pl_X9_keeps ok_X9_keeps rfl rfl (Nat.le_of_ble_eq_true rfl) (k_X9_keeps (by omega) er8) (mj_dt dt_X9_all 70 rfl) ?_
  refine mj_go_istore_n (k := 3) (by decide) (mj_dt dt_X9_all 71 rfl) ?_
  refine mj_go_aload_n (k := 0) (x := 95) rfl (mj_dt dt_X9_all 72 rfl) ?_
  refine mj_go_aload_n (k := 0) (x := 95) rfl (mj_dt dt_X9_all 73 rfl) ?_
  refine ml_getR (c := 9) (k := 20) (q := 105) fd_9_20 rf_95_20 (Or.inl fl_X9_53) ho_95 (mj_dt dt_X9_all 74 rfl) ?_
  refine mj_go_bipush (v := 10) rfl (mj_dt dt_X9_all 75 rfl) ?_
  refine mj_go_aload_n (k := 1) (x := v1) rfl (mj_dt dt_X9_all 76 rfl) ?_
  refine mj_go_iload_n (k := 3) (x := r8.1) rfl (mj_dt dt_X9_all 77 rfl) ?_
  refine mj_go_iload_n (k := 2) (x := v2) rfl (mj_dt dt_X9_all 78 rfl) ?_
  obtain ⟨r9, er9, h⟩ := mj_bind_some h
  refine ml_callV (Y' := mY_X9_keeps) (as := [.ref 105, .int 10, .ref v1, .int r8.1, .int v2]) (rest := []) (c := 9) (v := (some (.int r9.1))) (M1 := (mj_fin r9.2)) ho_95 rfl lm_X9_214 wc_X9_keeps pl_X9_keeps ok_X9_keeps rfl rfl (Nat.le_of_ble_eq_true rfl) (k_X9_keeps (by omega) er9) (mj_dt dt_X9_all 79 rfl) ?_
  refine mj_go_istore_n (k := 3) (by decide) (mj_dt dt_X9_all 80 rfl) ?_
  refine mj_go_aload_n (k := 0) (x := 95) rfl (mj_dt dt_X9_all 81 rfl) ?_
  refine mj_go_aload_n (k := 0) (x := 95) rfl (mj_dt dt_X9_all 82 rfl) ?_
  refine ml_getR (c := 9) (k := 21) (q := 106) fd_9_21 rf_95_21 (Or.inl fl_X9_56) ho_95 (mj_dt dt_X9_all 83 rfl) ?_
  refine mj_go_bipush (v := 10) rfl (mj_dt dt_X9_all 84 rfl) ?_
  refine mj_go_aload_n (k := 1) (x := v1) rfl (mj_dt dt_X9_all 85 rfl) ?_
  refine mj_go_iload_n (k := 3) (x := r9.1) rfl (mj_dt dt_X9_all 86 rfl) ?_
  refine mj_go_iload_n (k := 2) (x := v2) rfl (mj_dt dt_X9_all 87 rfl) ?_
  obtain ⟨r10, er10, h⟩ := mj_bind_some h
  refine ml_callV (Y' := mY_X9_keeps) (as := [.ref 106, .int 10, .ref v1, .int r9.1, .int v2]) (rest := []) (c := 9) (v := (some (.int r10.1))) (M1 := (mj_fin r10.2)) ho_95 rfl lm_X9_214 wc_X9_keeps pl_X9_keeps ok_X9_keeps rfl rfl (Nat.le_of_ble_eq_true rfl) (k_X9_keeps (by omega) er10) (mj_dt dt_X9_all 88 rfl) ?_
  refine mj_go_istore_n (k := 3) (by decide) (mj_dt dt_X9_all 89 rfl) ?_
  refine mj_go_sub (lv' := [(0, .ref 95), (1, .ref v1), (2, .int v2), (3, .int r10.1)]) (List.forall_mem_cons.mpr ⟨rfl, (List.forall_mem_cons.mpr ⟨rfl, (List.forall_mem_cons.mpr ⟨rfl, (List.forall_mem_cons.mpr ⟨rfl, (fun _ h9 => absurd h9 List.not_mem_nil)⟩)⟩)⟩)⟩) ?_
  exact k_X9_all_138 hδ h
def f_X9_word_118 (N : Nat) (k_11 : Int32 × Int32 × Int32 → Option (Int32 × mj_m)) (v1 : Int32) (v2 : Int32) (v4 : Int32) (v5 : Int32) (m : mj_m) (k_118 : Int32 → Option (Int32 × mj_m)) (s : Int32) : Option (Int32 × mj_m) := mj_ck (mj_b 0 117 s) ( if (m.1 117 s.toNatClampNeg) = 0 then (mj_mw (s + 1) (fun x3 => mj_mw (v5 + 1) (fun x4 => k_11 (x3, v4, x4)))) else (mj_mw (s + 1) (fun x3 => k_118 (x3))))
theorem k_X9_word_118 {L : Nat} {xs : Nat → Int32} {δ N : Nat} {v1 : Int32} {v2 : Int32} {v4 : Int32} {v5 : Int32} {m : mj_m} {k_11 : Int32 × Int32 × Int32 → Option (Int32 × mj_m)} (q_11 : ∀ (s_ : Int32 × Int32 × Int32) (a_ : Int32 × mj_m), k_11 s_ = some a_ → mj_Go (mj_EX L xs) δ mY_X9_word 11 [(0, .ref 95), (1, .int v1), (2, .int v2), (3, .int s_.1), (4, .int s_.2.1), (5, .int s_.2.2)] [] (mj_fin m) (some (.int a_.1), (mj_fin a_.2))) : ∀ (n : Nat) (s : Int32) (a : Int32 × mj_m), mj_lp n (f_X9_word_118 N k_11 v1 v2 v4 v5 m) s = some a → mj_Go (mj_EX L xs) δ mY_X9_word 118 [(0, .ref 95), (1, .int v1), (2, .int v2), (3, .int s), (4, .int v4), (5, .int v5)] [] (mj_fin m) (some (.int a.1), (mj_fin a.2)) := by
  refine mj_lp_sound (fun k_118 s a q_118 h => ?_)
  unfold f_X9_word_118 at h
  refine mj_go_aload_n (k := 0) (x := 95) rfl (mj_dt dt_X9_word 60 rfl) ?_
  refine ml_getR (c := 9) (k := 32) (q := 117) fd_9_32 rf_95_32 (Or.inl fl_X9_90) ho_95 (mj_dt dt_X9_word 61 rfl) ?_
  refine mj_go_iload_n (k := 3) (x := s) rfl (mj_dt dt_X9_word 62 rfl) ?_
  obtain ⟨c1, h⟩ := mj_ck_some h
  refine mk_iald c1 (mj_dt dt_X9_word 63 rfl) ?_
  refine mj_go_if_eq (tgt := 133) rfl (mj_dt dt_X9_word 64 rfl) (fun b2 => ?_) (fun b2 => ?_)
  · rw [if_pos b2] at h
    obtain ⟨x3, ex3, h⟩ := mj_mw_some h
    refine mj_go_iinc (i := 3) (x := s) (v := x3) rfl (by rw [ex3] <;> rfl) (by decide) (mj_dt dt_X9_word 67 rfl) ?_
    obtain ⟨x4, ex4, h⟩ := mj_mw_some h
    refine mj_go_iinc (i := 5) (x := v5) (v := x4) rfl (by rw [ex4] <;> rfl) (by decide) (mj_dt dt_X9_word 68 rfl) ?_
    refine mj_go_goto (tgt := 11) rfl (mj_dt dt_X9_word 69 rfl) ?_
    refine mj_go_sub (lv' := [(0, .ref 95), (1, .int v1), (2, .int v2), (3, .int x3), (4, .int v4), (5, .int x4)]) (List.forall_mem_cons.mpr ⟨rfl, (List.forall_mem_cons.mpr ⟨rfl, (List.forall_mem_cons.mpr ⟨rfl, (List.forall_mem_cons.mpr ⟨rfl, (List.forall_mem_cons.mpr ⟨rfl, (List.forall_mem_cons.mpr ⟨rfl, (fun _ h9 => absurd h9 List.not_mem_nil)⟩)⟩)⟩)⟩)⟩)⟩) ?_
    exact q_11 _ _ h
  · rw [if_neg b2] at h
    obtain ⟨x3, ex3, h⟩ := mj_mw_some h
    refine mj_go_iinc (i := 3) (x := s) (v := x3) rfl (by rw [ex3] <;> rfl) (by decide) (mj_dt dt_X9_word 65 rfl) ?_
    refine mj_go_goto (tgt := 118) rfl (mj_dt dt_X9_word 66 rfl) ?_
    refine mj_go_sub (lv' := [(0, .ref 95), (1, .int v1), (2, .int v2), (3, .int x3), (4, .int v4), (5, .int v5)]) (List.forall_mem_cons.mpr ⟨rfl, (List.forall_mem_cons.mpr ⟨rfl, (List.forall_mem_cons.mpr ⟨rfl, (List.forall_mem_cons.mpr ⟨rfl, (List.forall_mem_cons.mpr ⟨rfl, (List.forall_mem_cons.mpr ⟨rfl, (fun _ h9 => absurd h9 List.not_mem_nil)⟩)⟩)⟩)⟩)⟩)⟩) ?_
    exact q_118 _ _ h
def f_X9_word_116 (N : Nat) (k_11 : Int32 × Int32 × Int32 → Option (Int32 × mj_m)) (v1 : Int32) (v2 : Int32) (v3 : Int32) (v5 : Int32) (s0 : Int32) (m : mj_m) : Option (Int32 × mj_m) := mj_lp N (f_X9_word_118 N k_11 v1 v2 s0 v5 m) (v3)
theorem k_X9_word_116 {L : Nat} {xs : Nat → Int32} {δ N : Nat} {v1 : Int32} {v2 : Int32} {v3 : Int32} {v5 : Int32} {s0 : Int32} {m : mj_m} {k_11 : Int32 × Int32 × Int32 → Option (Int32 × mj_m)} (q_11 : ∀ (s_ : Int32 × Int32 × Int32) (a_ : Int32 × mj_m), k_11 s_ = some a_ → mj_Go (mj_EX L xs) δ mY_X9_word 11 [(0, .ref 95), (1, .int v1), (2, .int v2), (3, .int s_.1), (4, .int s_.2.1), (5, .int s_.2.2)] [] (mj_fin m) (some (.int a_.1), (mj_fin a_.2))) {a : Int32 × mj_m} (h : f_X9_word_116 N k_11 v1 v2 v3 v5 s0 m = some a) : mj_Go (mj_EX L xs) δ mY_X9_word 116 [(0, .ref 95), (1, .int v1), (2, .int v2), (3, .int v3), (5, .int v5)] [.int s0] (mj_fin m) (some (.int a.1), (mj_fin a.2)) := by
  unfold f_X9_word_116 at h
  refine mj_go_istore (i := 4) (by decide) (mj_dt dt_X9_word 59 rfl) ?_
  refine mj_go_sub (lv' := [(0, .ref 95), (1, .int v1), (2, .int v2), (3, .int v3), (4, .int s0), (5, .int v5)]) (List.forall_mem_cons.mpr ⟨rfl, (List.forall_mem_cons.mpr ⟨rfl, (List.forall_mem_cons.mpr ⟨rfl, (List.forall_mem_cons.mpr ⟨rfl, (List.forall_mem_cons.mpr ⟨rfl, (List.forall_mem_cons.mpr ⟨rfl, (fun _ h9 => absurd h9 List.not_mem_nil)⟩)⟩)⟩)⟩)⟩)⟩) ?_
  exact k_X9_word_118 q_11 N _ _ h
def f_X9_word_83 (N : Nat) (k_11 : Int32 × Int32 × Int32 → Option (Int32 × mj_m)) (v1 : Int32) (v2 : Int32) (v3 : Int32) (v4 : Int32) (v5 : Int32) (v6 : Int32) (v7 : Int32) (m : mj_m) : Option (Int32 × mj_m) := mj_ck (mj_b 0 117 v7) ( if (m.1 117 v7.toNatClampNeg) = 0 then (mj_mw (mj_wI m 95 34 v6) (fun m3 => some (v5, m3))) else (if v6 ≤ v4 then (f_X9_word_116 N k_11 v1 v2 v3 v5 v4 m) else (f_X9_word_116 N k_11 v1 v2 v3 v5 v6 m)))
theorem k_X9_word_83 {L : Nat} {xs : Nat → Int32} {δ N : Nat} {v1 : Int32} {v2 : Int32} {v3 : Int32} {v4 : Int32} {v5 : Int32} {v6 : Int32} {v7 : Int32} {m : mj_m} {k_11 : Int32 × Int32 × Int32 → Option (Int32 × mj_m)} (q_11 : ∀ (s_ : Int32 × Int32 × Int32) (a_ : Int32 × mj_m), k_11 s_ = some a_ → mj_Go (mj_EX L xs) δ mY_X9_word 11 [(0, .ref 95), (1, .int v1), (2, .int v2), (3, .int s_.1), (4, .int s_.2.1), (5, .int s_.2.2)] [] (mj_fin m) (some (.int a_.1), (mj_fin a_.2))) {a : Int32 × mj_m} (h : f_X9_word_83 N k_11 v1 v2 v3 v4 v5 v6 v7 m = some a) : mj_Go (mj_EX L xs) δ mY_X9_word 83 [(0, .ref 95), (1, .int v1), (2, .int v2), (3, .int v3), (4, .int v4), (5, .int v5), (6, .int v6), (7, .int v7)] [] (mj_fin m) (some (.int a.1), (mj_fin a.2)) := by
  unfold f_X9_word_83 at h
  refine mj_go_aload_n (k := 0) (x := 95) rfl (mj_dt dt_X9_word 43 rfl) ?_
  refine ml_getR (c := 9) (k := 32) (q := 117) fd_9_32 rf_95_32 (Or.inl fl_X9_90) ho_95 (mj_dt dt_X9_word 44 rfl) ?_
  refine mj_go_iload (i := 7) (x := v7) rfl (mj_dt dt_X9_word 45 rfl) ?_
  obtain ⟨c1, h⟩ := mj_ck_some h
  refine mk_iald c1 (mj_dt dt_X9_word 46 rfl) ?_
  refine mj_go_if_ne (tgt := 102) rfl (mj_dt dt_X9_word 47 rfl) (fun b2 => ?_) (fun b2 => ?_)
  · rw [if_neg b2] at h
    refine mj_go_iload (i := 6) (x := v6) rfl (mj_dt dt_X9_word 53 rfl) ?_
    refine mj_go_iload (i := 4) (x := v4) rfl (mj_dt dt_X9_word 54 rfl) ?_
    refine mj_go_icmp_le (tgt := 114) rfl (mj_dt dt_X9_word 55 rfl) (fun b3 => ?_) (fun b3 => ?_)
    · rw [if_pos b3] at h
      refine mj_go_iload (i := 4) (x := v4) rfl (mj_dt dt_X9_word 58 rfl) ?_
      refine mj_go_sub (lv' := [(0, .ref 95), (1, .int v1), (2, .int v2), (3, .int v3), (5, .int v5)]) (List.forall_mem_cons.mpr ⟨rfl, (List.forall_mem_cons.mpr ⟨rfl, (List.forall_mem_cons.mpr ⟨rfl, (List.forall_mem_cons.mpr ⟨rfl, (List.forall_mem_cons.mpr ⟨rfl, (fun _ h9 => absurd h9 List.not_mem_nil)⟩)⟩)⟩)⟩)⟩) ?_
      exact k_X9_word_116 q_11 h
    · rw [if_neg b3] at h
      refine mj_go_iload (i := 6) (x := v6) rfl (mj_dt dt_X9_word 56 rfl) ?_
      refine mj_go_goto (tgt := 116) rfl (mj_dt dt_X9_word 57 rfl) ?_
      refine mj_go_sub (lv' := [(0, .ref 95), (1, .int v1), (2, .int v2), (3, .int v3), (5, .int v5)]) (List.forall_mem_cons.mpr ⟨rfl, (List.forall_mem_cons.mpr ⟨rfl, (List.forall_mem_cons.mpr ⟨rfl, (List.forall_mem_cons.mpr ⟨rfl, (List.forall_mem_cons.mpr ⟨rfl, (fun _ h9 => absurd h9 List.not_mem_nil)⟩)⟩)⟩)⟩)⟩) ?_
      exact k_X9_word_116 q_11 h
  · rw [if_pos b2] at h
    refine mj_go_aload_n (k := 0) (x := 95) rfl (mj_dt dt_X9_word 48 rfl) ?_
    refine mj_go_iload (i := 6) (x := v6) rfl (mj_dt dt_X9_word 49 rfl) ?_
    obtain ⟨m3, em3, h⟩ := mj_mw_some h
    refine ml_putI (c := 9) (k := 34) fd_9_34 rfl fl_X9_179 ho_95 (mj_dt dt_X9_word 50 rfl) ?_
    refine ml_eqm (M1 := (mj_fin m3)) (by rw [em3] <;> rfl) ?_
    refine mj_go_iload (i := 5) (x := v5) rfl (mj_dt dt_X9_word 51 rfl) ?_
    obtain rfl := Option.some.inj h
    exact mj_go_ret (v := some (.int v5)) (Nat.le_of_ble_eq_true rfl) (mj_retI (mj_dt dt_X9_word 52 rfl) rfl)
def f_X9_word_32 (N : Nat) (k_11 : Int32 × Int32 × Int32 → Option (Int32 × mj_m)) (v1 : Int32) (v2 : Int32) (v3 : Int32) (v4 : Int32) (v5 : Int32) (m : mj_m) (k_32 : Int32 × Int32 → Option (Int32 × mj_m)) (s : Int32 × Int32) : Option (Int32 × mj_m) := mj_ck (mj_b 0 117 s.2) ( if (m.1 117 s.2.toNatClampNeg) = 0 then f_X9_word_83 N k_11 v1 v2 v3 v4 v5 s.1 s.2 m else (if (m.1 95 35) ≤ s.1 then f_X9_word_83 N k_11 v1 v2 v3 v4 v5 s.1 s.2 m else (mj_ck (mj_b 1 115 ((m.1 95 33) + s.1)) ( if ((m.2 115 ((m.1 95 33) + s.1).toNatClampNeg).toInt32) = (m.1 117 s.2.toNatClampNeg) then (mj_mw (s.1 + 1) (fun x6 => mj_mw (s.2 + 1) (fun x7 => k_32 (x6, x7)))) else f_X9_word_83 N k_11 v1 v2 v3 v4 v5 s.1 s.2 m))))
theorem k_X9_word_32 {L : Nat} {xs : Nat → Int32} {δ N : Nat} {v1 : Int32} {v2 : Int32} {v3 : Int32} {v4 : Int32} {v5 : Int32} {m : mj_m} {k_11 : Int32 × Int32 × Int32 → Option (Int32 × mj_m)} (q_11 : ∀ (s_ : Int32 × Int32 × Int32) (a_ : Int32 × mj_m), k_11 s_ = some a_ → mj_Go (mj_EX L xs) δ mY_X9_word 11 [(0, .ref 95), (1, .int v1), (2, .int v2), (3, .int s_.1), (4, .int s_.2.1), (5, .int s_.2.2)] [] (mj_fin m) (some (.int a_.1), (mj_fin a_.2))) : ∀ (n : Nat) (s : Int32 × Int32) (a : Int32 × mj_m), mj_lp n (f_X9_word_32 N k_11 v1 v2 v3 v4 v5 m) s = some a → mj_Go (mj_EX L xs) δ mY_X9_word 32 [(0, .ref 95), (1, .int v1), (2, .int v2), (3, .int v3), (4, .int v4), (5, .int v5), (6, .int s.1), (7, .int s.2)] [] (mj_fin m) (some (.int a.1), (mj_fin a.2)) := by
  refine mj_lp_sound (fun k_32 s a q_32 h => ?_)
  unfold f_X9_word_32 at h
  refine mj_go_aload_n (k := 0) (x := 95) rfl (mj_dt dt_X9_word 18 rfl) ?_
  refine ml_getR (c := 9) (k := 32) (q := 117) fd_9_32 rf_95_32 (Or.inl fl_X9_90) ho_95 (mj_dt dt_X9_word 19 rfl) ?_
  refine mj_go_iload (i := 7) (x := s.2) rfl (mj_dt dt_X9_word 20 rfl) ?_
  obtain ⟨c1, h⟩ := mj_ck_some h
  refine mk_iald c1 (mj_dt dt_X9_word 21 rfl) ?_
  refine mj_go_if_eq (tgt := 83) rfl (mj_dt dt_X9_word 22 rfl) (fun b2 => ?_) (fun b2 => ?_)
  · rw [if_pos b2] at h
    refine mj_go_sub (lv' := [(0, .ref 95), (1, .int v1), (2, .int v2), (3, .int v3), (4, .int v4), (5, .int v5), (6, .int s.1), (7, .int s.2)]) (List.forall_mem_cons.mpr ⟨rfl, (List.forall_mem_cons.mpr ⟨rfl, (List.forall_mem_cons.mpr ⟨rfl, (List.forall_mem_cons.mpr ⟨rfl, (List.forall_mem_cons.mpr ⟨rfl, (List.forall_mem_cons.mpr ⟨rfl, (List.forall_mem_cons.mpr ⟨rfl, (List.forall_mem_cons.mpr ⟨rfl, (fun _ h9 => absurd h9 List.not_mem_nil)⟩)⟩)⟩)⟩)⟩)⟩)⟩)⟩) ?_
    exact k_X9_word_83 q_11 h
  · rw [if_neg b2] at h
    refine mj_go_iload (i := 6) (x := s.1) rfl (mj_dt dt_X9_word 23 rfl) ?_
    refine mj_go_aload_n (k := 0) (x := 95) rfl (mj_dt dt_X9_word 24 rfl) ?_
    refine mk_getI (c := 9) (k := 35) (Or.inl fd_9_35) (Or.inl fl_X9_182) ho_95 (mj_dt dt_X9_word 25 rfl) ?_
    refine mj_go_icmp_ge (tgt := 83) rfl (mj_dt dt_X9_word 26 rfl) (fun b3 => ?_) (fun b3 => ?_)
    · rw [if_pos b3] at h
      refine mj_go_sub (lv' := [(0, .ref 95), (1, .int v1), (2, .int v2), (3, .int v3), (4, .int v4), (5, .int v5), (6, .int s.1), (7, .int s.2)]) (List.forall_mem_cons.mpr ⟨rfl, (List.forall_mem_cons.mpr ⟨rfl, (List.forall_mem_cons.mpr ⟨rfl, (List.forall_mem_cons.mpr ⟨rfl, (List.forall_mem_cons.mpr ⟨rfl, (List.forall_mem_cons.mpr ⟨rfl, (List.forall_mem_cons.mpr ⟨rfl, (List.forall_mem_cons.mpr ⟨rfl, (fun _ h9 => absurd h9 List.not_mem_nil)⟩)⟩)⟩)⟩)⟩)⟩)⟩)⟩) ?_
      exact k_X9_word_83 q_11 h
    · rw [if_neg b3] at h
      refine mj_go_aload_n (k := 0) (x := 95) rfl (mj_dt dt_X9_word 27 rfl) ?_
      refine ml_getR (c := 9) (k := 30) (q := 115) fd_9_30 rf_95_30 (Or.inl fl_X9_83) ho_95 (mj_dt dt_X9_word 28 rfl) ?_
      refine mj_go_aload_n (k := 0) (x := 95) rfl (mj_dt dt_X9_word 29 rfl) ?_
      refine mk_getI (c := 9) (k := 33) (Or.inl fd_9_33) (Or.inl fl_X9_185) ho_95 (mj_dt dt_X9_word 30 rfl) ?_
      refine mj_go_iload (i := 6) (x := s.1) rfl (mj_dt dt_X9_word 31 rfl) ?_
      refine mj_go_iadd (mj_dt dt_X9_word 32 rfl) ?_
      obtain ⟨c4, h⟩ := mj_ck_some h
      refine mk_lald c4 (mj_dt dt_X9_word 33 rfl) ?_
      refine mj_go_l2i (mj_dt dt_X9_word 34 rfl) ?_
      refine mj_go_aload_n (k := 0) (x := 95) rfl (mj_dt dt_X9_word 35 rfl) ?_
      refine ml_getR (c := 9) (k := 32) (q := 117) fd_9_32 rf_95_32 (Or.inl fl_X9_90) ho_95 (mj_dt dt_X9_word 36 rfl) ?_
      refine mj_go_iload (i := 7) (x := s.2) rfl (mj_dt dt_X9_word 37 rfl) ?_
      refine mk_iald c1 (mj_dt dt_X9_word 38 rfl) ?_
      refine mj_go_icmp_ne (tgt := 83) rfl (mj_dt dt_X9_word 39 rfl) (fun b5 => ?_) (fun b5 => ?_)
      · rw [if_neg b5] at h
        refine mj_go_sub (lv' := [(0, .ref 95), (1, .int v1), (2, .int v2), (3, .int v3), (4, .int v4), (5, .int v5), (6, .int s.1), (7, .int s.2)]) (List.forall_mem_cons.mpr ⟨rfl, (List.forall_mem_cons.mpr ⟨rfl, (List.forall_mem_cons.mpr ⟨rfl, (List.forall_mem_cons.mpr ⟨rfl, (List.forall_mem_cons.mpr ⟨rfl, (List.forall_mem_cons.mpr ⟨rfl, (List.forall_mem_cons.mpr ⟨rfl, (List.forall_mem_cons.mpr ⟨rfl, (fun _ h9 => absurd h9 List.not_mem_nil)⟩)⟩)⟩)⟩)⟩)⟩)⟩)⟩) ?_
        exact k_X9_word_83 q_11 h
      · rw [if_pos b5] at h
        obtain ⟨x6, ex6, h⟩ := mj_mw_some h
        refine mj_go_iinc (i := 6) (x := s.1) (v := x6) rfl (by rw [ex6] <;> rfl) (by decide) (mj_dt dt_X9_word 40 rfl) ?_
        obtain ⟨x7, ex7, h⟩ := mj_mw_some h
        refine mj_go_iinc (i := 7) (x := s.2) (v := x7) rfl (by rw [ex7] <;> rfl) (by decide) (mj_dt dt_X9_word 41 rfl) ?_
        refine mj_go_goto (tgt := 32) rfl (mj_dt dt_X9_word 42 rfl) ?_
        refine mj_go_sub (lv' := [(0, .ref 95), (1, .int v1), (2, .int v2), (3, .int v3), (4, .int v4), (5, .int v5), (6, .int x6), (7, .int x7)]) (List.forall_mem_cons.mpr ⟨rfl, (List.forall_mem_cons.mpr ⟨rfl, (List.forall_mem_cons.mpr ⟨rfl, (List.forall_mem_cons.mpr ⟨rfl, (List.forall_mem_cons.mpr ⟨rfl, (List.forall_mem_cons.mpr ⟨rfl, (List.forall_mem_cons.mpr ⟨rfl, (List.forall_mem_cons.mpr ⟨rfl, (fun _ h9 => absurd h9 List.not_mem_nil)⟩)⟩)⟩)⟩)⟩)⟩)⟩)⟩) ?_
        exact q_32 _ _ h
def f_X9_word_11 (N : Nat) (v1 : Int32) (v2 : Int32) (m : mj_m) (k_11 : Int32 × Int32 × Int32 → Option (Int32 × mj_m)) (s : Int32 × Int32 × Int32) : Option (Int32 × mj_m) := if v2 < s.2.2 then (mj_mw (mj_wI m 95 37 s.2.1) (fun m2 => some ((-1 : Int32), m2))) else (mj_mw (m.1 95 34) (fun x2 => if s.2.2 < v1 then mj_lp N (f_X9_word_118 N k_11 v1 v2 s.2.1 s.2.2 m) (s.1) else mj_lp N (f_X9_word_32 N k_11 v1 v2 s.1 s.2.1 s.2.2 m) (x2, s.1)))
theorem k_X9_word_11 {L : Nat} {xs : Nat → Int32} {δ N : Nat} {v1 : Int32} {v2 : Int32} {m : mj_m} : ∀ (n : Nat) (s : Int32 × Int32 × Int32) (a : Int32 × mj_m), mj_lp n (f_X9_word_11 N v1 v2 m) s = some a → mj_Go (mj_EX L xs) δ mY_X9_word 11 [(0, .ref 95), (1, .int v1), (2, .int v2), (3, .int s.1), (4, .int s.2.1), (5, .int s.2.2)] [] (mj_fin m) (some (.int a.1), (mj_fin a.2)) := by
  refine mj_lp_sound (fun k_11 s a q_11 h => ?_)
  unfold f_X9_word_11 at h
  refine mj_go_iload (i := 5) (x := s.2.2) rfl (mj_dt dt_X9_word 7 rfl) ?_
  refine mj_go_iload_n (k := 2) (x := v2) rfl (mj_dt dt_X9_word 8 rfl) ?_
  refine mj_go_icmp_gt (tgt := 142) rfl (mj_dt dt_X9_word 9 rfl) (fun b1 => ?_) (fun b1 => ?_)
  · rw [if_pos b1] at h
    refine mj_go_aload_n (k := 0) (x := 95) rfl (mj_dt dt_X9_word 70 rfl) ?_
    refine mj_go_iload (i := 4) (x := s.2.1) rfl (mj_dt dt_X9_word 71 rfl) ?_
    obtain ⟨m2, em2, h⟩ := mj_mw_some h
    refine ml_putI (c := 9) (k := 37) fd_9_37 rfl fl_X9_176 ho_95 (mj_dt dt_X9_word 72 rfl) ?_
    refine ml_eqm (M1 := (mj_fin m2)) (by rw [em2] <;> rfl) ?_
    refine mj_go_iconst (v := -1) rfl (mj_dt dt_X9_word 73 rfl) ?_
    obtain rfl := Option.some.inj h
    exact mj_go_ret (v := some (.int (-1 : Int32))) (Nat.le_of_ble_eq_true rfl) (mj_retI (mj_dt dt_X9_word 74 rfl) rfl)
  · rw [if_neg b1] at h
    refine mj_go_aload_n (k := 0) (x := 95) rfl (mj_dt dt_X9_word 10 rfl) ?_
    refine mk_getI (c := 9) (k := 34) (Or.inl fd_9_34) (Or.inl fl_X9_179) ho_95 (mj_dt dt_X9_word 11 rfl) ?_
    obtain ⟨x2, ex2, h⟩ := mj_mw_some h
    refine ml_eqi ex2 ?_
    refine mj_go_istore (i := 6) (by decide) (mj_dt dt_X9_word 12 rfl) ?_
    refine mj_go_iload_n (k := 3) (x := s.1) rfl (mj_dt dt_X9_word 13 rfl) ?_
    refine mj_go_istore (i := 7) (by decide) (mj_dt dt_X9_word 14 rfl) ?_
    refine mj_go_iload (i := 5) (x := s.2.2) rfl (mj_dt dt_X9_word 15 rfl) ?_
    refine mj_go_iload_n (k := 1) (x := v1) rfl (mj_dt dt_X9_word 16 rfl) ?_
    refine mj_go_icmp_lt (tgt := 118) rfl (mj_dt dt_X9_word 17 rfl) (fun b3 => ?_) (fun b3 => ?_)
    · rw [if_pos b3] at h
      refine mj_go_sub (lv' := [(0, .ref 95), (1, .int v1), (2, .int v2), (3, .int s.1), (4, .int s.2.1), (5, .int s.2.2)]) (List.forall_mem_cons.mpr ⟨rfl, (List.forall_mem_cons.mpr ⟨rfl, (List.forall_mem_cons.mpr ⟨rfl, (List.forall_mem_cons.mpr ⟨rfl, (List.forall_mem_cons.mpr ⟨rfl, (List.forall_mem_cons.mpr ⟨rfl, (fun _ h9 => absurd h9 List.not_mem_nil)⟩)⟩)⟩)⟩)⟩)⟩) ?_
      exact k_X9_word_118 q_11 N _ _ h
    · rw [if_neg b3] at h
      refine mj_go_sub (lv' := [(0, .ref 95), (1, .int v1), (2, .int v2), (3, .int s.1), (4, .int s.2.1), (5, .int s.2.2), (6, .int x2), (7, .int s.1)]) (List.forall_mem_cons.mpr ⟨rfl, (List.forall_mem_cons.mpr ⟨rfl, (List.forall_mem_cons.mpr ⟨rfl, (List.forall_mem_cons.mpr ⟨rfl, (List.forall_mem_cons.mpr ⟨rfl, (List.forall_mem_cons.mpr ⟨rfl, (List.forall_mem_cons.mpr ⟨rfl, (List.forall_mem_cons.mpr ⟨rfl, (fun _ h9 => absurd h9 List.not_mem_nil)⟩)⟩)⟩)⟩)⟩)⟩)⟩)⟩) ?_
      exact k_X9_word_32 q_11 N _ _ h
def f_X9_word (N : Nat) (v1 : Int32) (v2 : Int32) (m : mj_m) : Option (Int32 × mj_m) := mj_mw (m.1 95 34) (fun x1 => mj_lp N (f_X9_word_11 N v1 v2 m) (0, x1, 0))
theorem k_X9_word {L : Nat} {xs : Nat → Int32} {δ N : Nat} {v1 : Int32} {v2 : Int32} {m : mj_m} (_ : 0 ≤ δ) {a : Int32 × mj_m} (h : f_X9_word N v1 v2 m = some a) : mj_Cl (mj_EX L xs) δ mY_X9_word [.ref 95, .int v1, .int v2] (mj_fin m) (some (.int a.1), (mj_fin a.2)) := by
  refine mj_cl_of ok_X9_word (Nat.le_of_ble_eq_true rfl) ?_
  unfold f_X9_word at h
  refine mj_go_iconst (v := 0) rfl (mj_dt dt_X9_word 0 rfl) ?_
  refine mj_go_istore_n (k := 3) (by decide) (mj_dt dt_X9_word 1 rfl) ?_
  refine mj_go_aload_n (k := 0) (x := 95) rfl (mj_dt dt_X9_word 2 rfl) ?_
  refine mk_getI (c := 9) (k := 34) (Or.inl fd_9_34) (Or.inl fl_X9_179) ho_95 (mj_dt dt_X9_word 3 rfl) ?_
  obtain ⟨x1, ex1, h⟩ := mj_mw_some h
  refine ml_eqi ex1 ?_
  refine mj_go_istore (i := 4) (by decide) (mj_dt dt_X9_word 4 rfl) ?_
  refine mj_go_iconst (v := 0) rfl (mj_dt dt_X9_word 5 rfl) ?_
  refine mj_go_istore (i := 5) (by decide) (mj_dt dt_X9_word 6 rfl) ?_
  refine mj_go_sub (lv' := [(0, .ref 95), (1, .int v1), (2, .int v2), (3, .int 0), (4, .int x1), (5, .int 0)]) (List.forall_mem_cons.mpr ⟨rfl, (List.forall_mem_cons.mpr ⟨rfl, (List.forall_mem_cons.mpr ⟨rfl, (List.forall_mem_cons.mpr ⟨rfl, (List.forall_mem_cons.mpr ⟨rfl, (List.forall_mem_cons.mpr ⟨rfl, (fun _ h9 => absurd h9 List.not_mem_nil)⟩)⟩)⟩)⟩)⟩)⟩) ?_
  exact k_X9_word_11 N _ _ h
def f_X9_isWordAt_86 (N : Nat) (v2 : Int32) (m : mj_m) : Option (Int32) := mj_ck (mj_b 0 117 v2) ( if 32 < (m.1 117 v2.toNatClampNeg) then ((some 0)) else ((some 1)))
theorem k_X9_isWordAt_86 {L : Nat} {xs : Nat → Int32} {δ N : Nat} {v2 : Int32} {m : mj_m} {a : Int32} (h : f_X9_isWordAt_86 N v2 m = some a) : mj_Go (mj_EX L xs) δ mY_X9_isWordAt 86 [(0, .ref 95), (2, .int v2)] [] (mj_fin m) (some (.int a), (mj_fin m)) := by
  unfold f_X9_isWordAt_86 at h
  refine mj_go_aload_n (k := 0) (x := 95) rfl (mj_dt dt_X9_isWordAt 49 rfl) ?_
  refine ml_getR (c := 9) (k := 32) (q := 117) fd_9_32 rf_95_32 (Or.inl fl_X9_90) ho_95 (mj_dt dt_X9_isWordAt 50 rfl) ?_
  refine mj_go_iload_n (k := 2) (x := v2) rfl (mj_dt dt_X9_isWordAt 51 rfl) ?_
  obtain ⟨c1, h⟩ := mj_ck_some h
  refine mk_iald c1 (mj_dt dt_X9_isWordAt 52 rfl) ?_
  refine mj_go_bipush (v := 32) rfl (mj_dt dt_X9_isWordAt 53 rfl) ?_
  refine mj_go_icmp_gt (tgt := 101) rfl (mj_dt dt_X9_isWordAt 54 rfl) (fun b2 => ?_) (fun b2 => ?_)
  · rw [if_pos b2] at h
    refine mj_go_iconst (v := 0) rfl (mj_dt dt_X9_isWordAt 57 rfl) ?_
    obtain rfl := Option.some.inj h
    exact mj_go_ret (v := some (.int 0)) (Nat.le_of_ble_eq_true rfl) (mj_retZ (mj_dt dt_X9_isWordAt 58 rfl) rfl rfl)
  · rw [if_neg b2] at h
    refine mj_go_iconst (v := 1) rfl (mj_dt dt_X9_isWordAt 55 rfl) ?_
    refine mj_go_goto (tgt := 102) rfl (mj_dt dt_X9_isWordAt 56 rfl) ?_
    obtain rfl := Option.some.inj h
    exact mj_go_ret (v := some (.int 1)) (Nat.le_of_ble_eq_true rfl) (mj_retZ (mj_dt dt_X9_isWordAt 58 rfl) rfl rfl)
def f_X9_isWordAt_37 (N : Nat) (m : mj_m) (k_37 : Int32 × Int32 → Option (Int32)) (s : Int32 × Int32) : Option (Int32) := mj_ck (mj_b 0 117 s.1) ( if (m.1 117 s.1.toNatClampNeg) ≤ 32 then f_X9_isWordAt_86 N s.1 m else (if (m.1 95 35) ≤ s.2 then f_X9_isWordAt_86 N s.1 m else (mj_ck (mj_b 1 115 ((m.1 95 33) + s.2)) ( if ((m.2 115 ((m.1 95 33) + s.2).toNatClampNeg).toInt32) = (m.1 117 s.1.toNatClampNeg) then (mj_mw (s.2 + 1) (fun x6 => mj_mw (s.1 + 1) (fun x7 => k_37 (x7, x6)))) else f_X9_isWordAt_86 N s.1 m))))
theorem k_X9_isWordAt_37 {L : Nat} {xs : Nat → Int32} {δ N : Nat} {m : mj_m} : ∀ (n : Nat) (s : Int32 × Int32) (a : Int32), mj_lp n (f_X9_isWordAt_37 N m) s = some a → mj_Go (mj_EX L xs) δ mY_X9_isWordAt 37 [(0, .ref 95), (2, .int s.1), (3, .int s.2)] [] (mj_fin m) (some (.int a), (mj_fin m)) := by
  refine mj_lp_sound (fun k_37 s a q_37 h => ?_)
  unfold f_X9_isWordAt_37 at h
  refine mj_go_aload_n (k := 0) (x := 95) rfl (mj_dt dt_X9_isWordAt 23 rfl) ?_
  refine ml_getR (c := 9) (k := 32) (q := 117) fd_9_32 rf_95_32 (Or.inl fl_X9_90) ho_95 (mj_dt dt_X9_isWordAt 24 rfl) ?_
  refine mj_go_iload_n (k := 2) (x := s.1) rfl (mj_dt dt_X9_isWordAt 25 rfl) ?_
  obtain ⟨c1, h⟩ := mj_ck_some h
  refine mk_iald c1 (mj_dt dt_X9_isWordAt 26 rfl) ?_
  refine mj_go_bipush (v := 32) rfl (mj_dt dt_X9_isWordAt 27 rfl) ?_
  refine mj_go_icmp_le (tgt := 86) rfl (mj_dt dt_X9_isWordAt 28 rfl) (fun b2 => ?_) (fun b2 => ?_)
  · rw [if_pos b2] at h
    refine mj_go_sub (lv' := [(0, .ref 95), (2, .int s.1)]) (List.forall_mem_cons.mpr ⟨rfl, (List.forall_mem_cons.mpr ⟨rfl, (fun _ h9 => absurd h9 List.not_mem_nil)⟩)⟩) ?_
    exact k_X9_isWordAt_86 h
  · rw [if_neg b2] at h
    refine mj_go_iload_n (k := 3) (x := s.2) rfl (mj_dt dt_X9_isWordAt 29 rfl) ?_
    refine mj_go_aload_n (k := 0) (x := 95) rfl (mj_dt dt_X9_isWordAt 30 rfl) ?_
    refine mk_getI (c := 9) (k := 35) (Or.inl fd_9_35) (Or.inl fl_X9_182) ho_95 (mj_dt dt_X9_isWordAt 31 rfl) ?_
    refine mj_go_icmp_ge (tgt := 86) rfl (mj_dt dt_X9_isWordAt 32 rfl) (fun b3 => ?_) (fun b3 => ?_)
    · rw [if_pos b3] at h
      refine mj_go_sub (lv' := [(0, .ref 95), (2, .int s.1)]) (List.forall_mem_cons.mpr ⟨rfl, (List.forall_mem_cons.mpr ⟨rfl, (fun _ h9 => absurd h9 List.not_mem_nil)⟩)⟩) ?_
      exact k_X9_isWordAt_86 h
    · rw [if_neg b3] at h
      refine mj_go_aload_n (k := 0) (x := 95) rfl (mj_dt dt_X9_isWordAt 33 rfl) ?_
      refine ml_getR (c := 9) (k := 30) (q := 115) fd_9_30 rf_95_30 (Or.inl fl_X9_83) ho_95 (mj_dt dt_X9_isWordAt 34 rfl) ?_
      refine mj_go_aload_n (k := 0) (x := 95) rfl (mj_dt dt_X9_isWordAt 35 rfl) ?_
      refine mk_getI (c := 9) (k := 33) (Or.inl fd_9_33) (Or.inl fl_X9_185) ho_95 (mj_dt dt_X9_isWordAt 36 rfl) ?_
      refine mj_go_iload_n (k := 3) (x := s.2) rfl (mj_dt dt_X9_isWordAt 37 rfl) ?_
      refine mj_go_iadd (mj_dt dt_X9_isWordAt 38 rfl) ?_
      obtain ⟨c4, h⟩ := mj_ck_some h
      refine mk_lald c4 (mj_dt dt_X9_isWordAt 39 rfl) ?_
      refine mj_go_l2i (mj_dt dt_X9_isWordAt 40 rfl) ?_
      refine mj_go_aload_n (k := 0) (x := 95) rfl (mj_dt dt_X9_isWordAt 41 rfl) ?_
      refine ml_getR (c := 9) (k := 32) (q := 117) fd_9_32 rf_95_32 (Or.inl fl_X9_90) ho_95 (mj_dt dt_X9_isWordAt 42 rfl) ?_
      refine mj_go_iload_n (k := 2) (x := s.1) rfl (mj_dt dt_X9_isWordAt 43 rfl) ?_
      refine mk_iald c1 (mj_dt dt_X9_isWordAt 44 rfl) ?_
      refine mj_go_icmp_ne (tgt := 86) rfl (mj_dt dt_X9_isWordAt 45 rfl) (fun b5 => ?_) (fun b5 => ?_)
      · rw [if_neg b5] at h
        refine mj_go_sub (lv' := [(0, .ref 95), (2, .int s.1)]) (List.forall_mem_cons.mpr ⟨rfl, (List.forall_mem_cons.mpr ⟨rfl, (fun _ h9 => absurd h9 List.not_mem_nil)⟩)⟩) ?_
        exact k_X9_isWordAt_86 h
      · rw [if_pos b5] at h
        obtain ⟨x6, ex6, h⟩ := mj_mw_some h
        refine mj_go_iinc (i := 3) (x := s.2) (v := x6) rfl (by rw [ex6] <;> rfl) (by decide) (mj_dt dt_X9_isWordAt 46 rfl) ?_
        obtain ⟨x7, ex7, h⟩ := mj_mw_some h
        refine mj_go_iinc (i := 2) (x := s.1) (v := x7) rfl (by rw [ex7] <;> rfl) (by decide) (mj_dt dt_X9_isWordAt 47 rfl) ?_
        refine mj_go_goto (tgt := 37) rfl (mj_dt dt_X9_isWordAt 48 rfl) ?_
        refine mj_go_sub (lv' := [(0, .ref 95), (2, .int x7), (3, .int x6)]) (List.forall_mem_cons.mpr ⟨rfl, (List.forall_mem_cons.mpr ⟨rfl, (List.forall_mem_cons.mpr ⟨rfl, (fun _ h9 => absurd h9 List.not_mem_nil)⟩)⟩)⟩) ?_
        exact q_37 _ _ h
def f_X9_isWordAt_24 (N : Nat) (k_4 : Int32 × Int32 → Option (Int32)) (v1 : Int32) (v2 : Int32) (s0 : Int32) (s1 : Int32) (m : mj_m) : Option (Int32) := mj_mw (s0 + s1) (fun x1 => mj_mw (v2 + 1) (fun x2 => k_4 (x2, x1)))
theorem k_X9_isWordAt_24 {L : Nat} {xs : Nat → Int32} {δ N : Nat} {v1 : Int32} {v2 : Int32} {s0 : Int32} {s1 : Int32} {m : mj_m} {k_4 : Int32 × Int32 → Option (Int32)} (q_4 : ∀ (s_ : Int32 × Int32) (a_ : Int32), k_4 s_ = some a_ → mj_Go (mj_EX L xs) δ mY_X9_isWordAt 4 [(0, .ref 95), (1, .int v1), (2, .int s_.1), (3, .int s_.2)] [] (mj_fin m) (some (.int a_), (mj_fin m))) {a : Int32} (h : f_X9_isWordAt_24 N k_4 v1 v2 s0 s1 m = some a) : mj_Go (mj_EX L xs) δ mY_X9_isWordAt 24 [(0, .ref 95), (1, .int v1), (2, .int v2)] [.int s1, .int s0] (mj_fin m) (some (.int a), (mj_fin m)) := by
  unfold f_X9_isWordAt_24 at h
  refine mj_go_iadd (mj_dt dt_X9_isWordAt 16 rfl) ?_
  obtain ⟨x1, ex1, h⟩ := mj_mw_some h
  refine ml_eqi ex1 ?_
  refine mj_go_istore_n (k := 3) (by decide) (mj_dt dt_X9_isWordAt 17 rfl) ?_
  obtain ⟨x2, ex2, h⟩ := mj_mw_some h
  refine mj_go_iinc (i := 2) (x := v2) (v := x2) rfl (by rw [ex2] <;> rfl) (by decide) (mj_dt dt_X9_isWordAt 18 rfl) ?_
  refine mj_go_goto (tgt := 4) rfl (mj_dt dt_X9_isWordAt 19 rfl) ?_
  refine mj_go_sub (lv' := [(0, .ref 95), (1, .int v1), (2, .int x2), (3, .int x1)]) (List.forall_mem_cons.mpr ⟨rfl, (List.forall_mem_cons.mpr ⟨rfl, (List.forall_mem_cons.mpr ⟨rfl, (List.forall_mem_cons.mpr ⟨rfl, (fun _ h9 => absurd h9 List.not_mem_nil)⟩)⟩)⟩)⟩) ?_
  exact q_4 _ _ h
def f_X9_isWordAt_4 (N : Nat) (v1 : Int32) (m : mj_m) (k_4 : Int32 × Int32 → Option (Int32)) (s : Int32 × Int32) : Option (Int32) := if v1 ≤ s.2 then (mj_mw (m.1 95 34) (fun x2 => mj_lp N (f_X9_isWordAt_37 N m) (s.1, x2))) else (mj_ck (mj_b 0 117 s.1) ( if (m.1 117 s.1.toNatClampNeg) = 0 then (f_X9_isWordAt_24 N k_4 v1 s.1 s.2 1 m) else (f_X9_isWordAt_24 N k_4 v1 s.1 s.2 0 m)))
theorem k_X9_isWordAt_4 {L : Nat} {xs : Nat → Int32} {δ N : Nat} {v1 : Int32} {m : mj_m} : ∀ (n : Nat) (s : Int32 × Int32) (a : Int32), mj_lp n (f_X9_isWordAt_4 N v1 m) s = some a → mj_Go (mj_EX L xs) δ mY_X9_isWordAt 4 [(0, .ref 95), (1, .int v1), (2, .int s.1), (3, .int s.2)] [] (mj_fin m) (some (.int a), (mj_fin m)) := by
  refine mj_lp_sound (fun k_4 s a q_4 h => ?_)
  unfold f_X9_isWordAt_4 at h
  refine mj_go_iload_n (k := 3) (x := s.2) rfl (mj_dt dt_X9_isWordAt 4 rfl) ?_
  refine mj_go_iload_n (k := 1) (x := v1) rfl (mj_dt dt_X9_isWordAt 5 rfl) ?_
  refine mj_go_icmp_ge (tgt := 32) rfl (mj_dt dt_X9_isWordAt 6 rfl) (fun b1 => ?_) (fun b1 => ?_)
  · rw [if_pos b1] at h
    refine mj_go_aload_n (k := 0) (x := 95) rfl (mj_dt dt_X9_isWordAt 20 rfl) ?_
    refine mk_getI (c := 9) (k := 34) (Or.inl fd_9_34) (Or.inl fl_X9_179) ho_95 (mj_dt dt_X9_isWordAt 21 rfl) ?_
    obtain ⟨x2, ex2, h⟩ := mj_mw_some h
    refine ml_eqi ex2 ?_
    refine mj_go_istore_n (k := 3) (by decide) (mj_dt dt_X9_isWordAt 22 rfl) ?_
    refine mj_go_sub (lv' := [(0, .ref 95), (2, .int s.1), (3, .int x2)]) (List.forall_mem_cons.mpr ⟨rfl, (List.forall_mem_cons.mpr ⟨rfl, (List.forall_mem_cons.mpr ⟨rfl, (fun _ h9 => absurd h9 List.not_mem_nil)⟩)⟩)⟩) ?_
    exact k_X9_isWordAt_37 N _ _ h
  · rw [if_neg b1] at h
    refine mj_go_iload_n (k := 3) (x := s.2) rfl (mj_dt dt_X9_isWordAt 7 rfl) ?_
    refine mj_go_aload_n (k := 0) (x := 95) rfl (mj_dt dt_X9_isWordAt 8 rfl) ?_
    refine ml_getR (c := 9) (k := 32) (q := 117) fd_9_32 rf_95_32 (Or.inl fl_X9_90) ho_95 (mj_dt dt_X9_isWordAt 9 rfl) ?_
    refine mj_go_iload_n (k := 2) (x := s.1) rfl (mj_dt dt_X9_isWordAt 10 rfl) ?_
    obtain ⟨c2, h⟩ := mj_ck_some h
    refine mk_iald c2 (mj_dt dt_X9_isWordAt 11 rfl) ?_
    refine mj_go_if_ne (tgt := 23) rfl (mj_dt dt_X9_isWordAt 12 rfl) (fun b3 => ?_) (fun b3 => ?_)
    · rw [if_neg b3] at h
      refine mj_go_iconst (v := 0) rfl (mj_dt dt_X9_isWordAt 15 rfl) ?_
      refine mj_go_sub (lv' := [(0, .ref 95), (1, .int v1), (2, .int s.1)]) (List.forall_mem_cons.mpr ⟨rfl, (List.forall_mem_cons.mpr ⟨rfl, (List.forall_mem_cons.mpr ⟨rfl, (fun _ h9 => absurd h9 List.not_mem_nil)⟩)⟩)⟩) ?_
      exact k_X9_isWordAt_24 q_4 h
    · rw [if_pos b3] at h
      refine mj_go_iconst (v := 1) rfl (mj_dt dt_X9_isWordAt 13 rfl) ?_
      refine mj_go_goto (tgt := 24) rfl (mj_dt dt_X9_isWordAt 14 rfl) ?_
      refine mj_go_sub (lv' := [(0, .ref 95), (1, .int v1), (2, .int s.1)]) (List.forall_mem_cons.mpr ⟨rfl, (List.forall_mem_cons.mpr ⟨rfl, (List.forall_mem_cons.mpr ⟨rfl, (fun _ h9 => absurd h9 List.not_mem_nil)⟩)⟩)⟩) ?_
      exact k_X9_isWordAt_24 q_4 h
def f_X9_isWordAt (N : Nat) (v1 : Int32) (m : mj_m) : Option (Int32) := mj_lp N (f_X9_isWordAt_4 N v1 m) (0, 0)
theorem k_X9_isWordAt {L : Nat} {xs : Nat → Int32} {δ N : Nat} {v1 : Int32} {m : mj_m} (_ : 0 ≤ δ) {a : Int32} (h : f_X9_isWordAt N v1 m = some a) : mj_Cl (mj_EX L xs) δ mY_X9_isWordAt [.ref 95, .int v1] (mj_fin m) (some (.int a), (mj_fin m)) := by
  refine mj_cl_of ok_X9_isWordAt (Nat.le_of_ble_eq_true rfl) ?_
  unfold f_X9_isWordAt at h
  refine mj_go_iconst (v := 0) rfl (mj_dt dt_X9_isWordAt 0 rfl) ?_
  refine mj_go_istore_n (k := 2) (by decide) (mj_dt dt_X9_isWordAt 1 rfl) ?_
  refine mj_go_iconst (v := 0) rfl (mj_dt dt_X9_isWordAt 2 rfl) ?_
  refine mj_go_istore_n (k := 3) (by decide) (mj_dt dt_X9_isWordAt 3 rfl) ?_
  refine mj_go_sub (lv' := [(0, .ref 95), (1, .int v1), (2, .int 0), (3, .int 0)]) (List.forall_mem_cons.mpr ⟨rfl, (List.forall_mem_cons.mpr ⟨rfl, (List.forall_mem_cons.mpr ⟨rfl, (List.forall_mem_cons.mpr ⟨rfl, (fun _ h9 => absurd h9 List.not_mem_nil)⟩)⟩)⟩)⟩) ?_
  exact k_X9_isWordAt_4 N _ _ h
