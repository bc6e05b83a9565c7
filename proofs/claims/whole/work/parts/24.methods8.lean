/-! METHODS as functions, and their rows over the small machine (printed by program from the printed instructions) -/
def f_X9_isFull_44 (N : Nat) (m : mj_m) : Option (Int32) := (some 0)
theorem k_X9_isFull_44 {L : Nat} {xs : Nat → Int32} {δ N : Nat} {m : mj_m} {a : Int32} (h : f_X9_isFull_44 N m = some a) : mj_Go (mj_EX L xs) δ mY_X9_isFull 44 [] [] (mj_fin m) (some (.int a), (mj_fin m)) := by
  unfold f_X9_isFull_44 at h
  refine mj_go_iconst (v := 0) rfl (mj_dt dt_X9_isFull 22 rfl) ?_
  obtain rfl := Option.some.inj h
  exact mj_go_ret (v := some (.int 0)) (Nat.le_of_ble_eq_true rfl) (mj_retZ (mj_dt dt_X9_isFull 23 rfl) rfl rfl)
def f_X9_isFull_40 (N : Nat) (m : mj_m) : Option (Int32) := (some 1)
theorem k_X9_isFull_40 {L : Nat} {xs : Nat → Int32} {δ N : Nat} {m : mj_m} {a : Int32} (h : f_X9_isFull_40 N m = some a) : mj_Go (mj_EX L xs) δ mY_X9_isFull 40 [] [] (mj_fin m) (some (.int a), (mj_fin m)) := by
  unfold f_X9_isFull_40 at h
  refine mj_go_iconst (v := 1) rfl (mj_dt dt_X9_isFull 20 rfl) ?_
  refine mj_go_goto (tgt := 45) rfl (mj_dt dt_X9_isFull 21 rfl) ?_
  obtain rfl := Option.some.inj h
  exact mj_go_ret (v := some (.int 1)) (Nat.le_of_ble_eq_true rfl) (mj_retZ (mj_dt dt_X9_isFull 23 rfl) rfl rfl)
def f_X9_isFull_27 (N : Nat) (v1 : Int32) (m : mj_m) : Option (Int32) := if v1 = 2 then (if (m.1 95 2) = 4 then f_X9_isFull_40 N m else f_X9_isFull_44 N m) else f_X9_isFull_44 N m
theorem k_X9_isFull_27 {L : Nat} {xs : Nat → Int32} {δ N : Nat} {v1 : Int32} {m : mj_m} {a : Int32} (h : f_X9_isFull_27 N v1 m = some a) : mj_Go (mj_EX L xs) δ mY_X9_isFull 27 [(0, .ref 95), (1, .int v1)] [] (mj_fin m) (some (.int a), (mj_fin m)) := by
  unfold f_X9_isFull_27 at h
  refine mj_go_iload_n (k := 1) (x := v1) rfl (mj_dt dt_X9_isFull 13 rfl) ?_
  refine mj_go_iconst (v := 2) rfl (mj_dt dt_X9_isFull 14 rfl) ?_
  refine mj_go_icmp_ne (tgt := 44) rfl (mj_dt dt_X9_isFull 15 rfl) (fun b1 => ?_) (fun b1 => ?_)
  · rw [if_neg b1] at h
    refine mj_go_sub (lv' := []) (fun _ h9 => absurd h9 List.not_mem_nil) ?_
    exact k_X9_isFull_44 h
  · rw [if_pos b1] at h
    refine mj_go_aload_n (k := 0) (x := 95) rfl (mj_dt dt_X9_isFull 16 rfl) ?_
    refine mk_getI (c := 9) (k := 2) (Or.inl fd_9_2) (Or.inl fl_X9_127) ho_95 (mj_dt dt_X9_isFull 17 rfl) ?_
    refine mj_go_iconst (v := 4) rfl (mj_dt dt_X9_isFull 18 rfl) ?_
    refine mj_go_icmp_ne (tgt := 44) rfl (mj_dt dt_X9_isFull 19 rfl) (fun b2 => ?_) (fun b2 => ?_)
    · rw [if_neg b2] at h
      refine mj_go_sub (lv' := []) (fun _ h9 => absurd h9 List.not_mem_nil) ?_
      exact k_X9_isFull_44 h
    · rw [if_pos b2] at h
      refine mj_go_sub (lv' := []) (fun _ h9 => absurd h9 List.not_mem_nil) ?_
      exact k_X9_isFull_40 h
def f_X9_isFull_13 (N : Nat) (v1 : Int32) (m : mj_m) : Option (Int32) := if v1 = 1 then (if (m.1 95 1) = 10 then f_X9_isFull_40 N m else f_X9_isFull_27 N v1 m) else f_X9_isFull_27 N v1 m
theorem k_X9_isFull_13 {L : Nat} {xs : Nat → Int32} {δ N : Nat} {v1 : Int32} {m : mj_m} {a : Int32} (h : f_X9_isFull_13 N v1 m = some a) : mj_Go (mj_EX L xs) δ mY_X9_isFull 13 [(0, .ref 95), (1, .int v1)] [] (mj_fin m) (some (.int a), (mj_fin m)) := by
  unfold f_X9_isFull_13 at h
  refine mj_go_iload_n (k := 1) (x := v1) rfl (mj_dt dt_X9_isFull 6 rfl) ?_
  refine mj_go_iconst (v := 1) rfl (mj_dt dt_X9_isFull 7 rfl) ?_
  refine mj_go_icmp_ne (tgt := 27) rfl (mj_dt dt_X9_isFull 8 rfl) (fun b1 => ?_) (fun b1 => ?_)
  · rw [if_neg b1] at h
    refine mj_go_sub (lv' := [(0, .ref 95), (1, .int v1)]) (List.forall_mem_cons.mpr ⟨rfl, (List.forall_mem_cons.mpr ⟨rfl, (fun _ h9 => absurd h9 List.not_mem_nil)⟩)⟩) ?_
    exact k_X9_isFull_27 h
  · rw [if_pos b1] at h
    refine mj_go_aload_n (k := 0) (x := 95) rfl (mj_dt dt_X9_isFull 9 rfl) ?_
    refine mk_getI (c := 9) (k := 1) (Or.inl fd_9_1) (Or.inl fl_X9_124) ho_95 (mj_dt dt_X9_isFull 10 rfl) ?_
    refine mj_go_bipush (v := 10) rfl (mj_dt dt_X9_isFull 11 rfl) ?_
    refine mj_go_icmp_eq (tgt := 40) rfl (mj_dt dt_X9_isFull 12 rfl) (fun b2 => ?_) (fun b2 => ?_)
    · rw [if_pos b2] at h
      refine mj_go_sub (lv' := []) (fun _ h9 => absurd h9 List.not_mem_nil) ?_
      exact k_X9_isFull_40 h
    · rw [if_neg b2] at h
      refine mj_go_sub (lv' := [(0, .ref 95), (1, .int v1)]) (List.forall_mem_cons.mpr ⟨rfl, (List.forall_mem_cons.mpr ⟨rfl, (fun _ h9 => absurd h9 List.not_mem_nil)⟩)⟩) ?_
      exact k_X9_isFull_27 h
def f_X9_isFull (N : Nat) (v1 : Int32) (m : mj_m) : Option (Int32) := if v1 = 0 then (if (m.1 95 0) = 12 then f_X9_isFull_40 N m else f_X9_isFull_13 N v1 m) else f_X9_isFull_13 N v1 m
theorem k_X9_isFull {L : Nat} {xs : Nat → Int32} {δ N : Nat} {v1 : Int32} {m : mj_m} (_ : 0 ≤ δ) {a : Int32} (h : f_X9_isFull N v1 m = some a) : mj_Cl (mj_EX L xs) δ mY_X9_isFull [.ref 95, .int v1] (mj_fin m) (some (.int a), (mj_fin m)) := by
  refine mj_cl_of ok_X9_isFull (Nat.le_of_ble_eq_true rfl) ?_
  unfold f_X9_isFull at h
  refine mj_go_iload_n (k := 1) (x := v1) rfl (mj_dt dt_X9_isFull 0 rfl) ?_
  refine mj_go_if_ne (tgt := 13) rfl (mj_dt dt_X9_isFull 1 rfl) (fun b1 => ?_) (fun b1 => ?_)
  · rw [if_neg b1] at h
    refine mj_go_sub (lv' := [(0, .ref 95), (1, .int v1)]) (List.forall_mem_cons.mpr ⟨rfl, (List.forall_mem_cons.mpr ⟨rfl, (fun _ h9 => absurd h9 List.not_mem_nil)⟩)⟩) ?_
    exact k_X9_isFull_13 h
  · rw [if_pos b1] at h
    refine mj_go_aload_n (k := 0) (x := 95) rfl (mj_dt dt_X9_isFull 2 rfl) ?_
    refine mk_getI (c := 9) (k := 0) (Or.inl fd_9_0) (Or.inl fl_X9_149) ho_95 (mj_dt dt_X9_isFull 3 rfl) ?_
    refine mj_go_bipush (v := 12) rfl (mj_dt dt_X9_isFull 4 rfl) ?_
    refine mj_go_icmp_eq (tgt := 40) rfl (mj_dt dt_X9_isFull 5 rfl) (fun b2 => ?_) (fun b2 => ?_)
    · rw [if_pos b2] at h
      refine mj_go_sub (lv' := []) (fun _ h9 => absurd h9 List.not_mem_nil) ?_
      exact k_X9_isFull_40 h
    · rw [if_neg b2] at h
      refine mj_go_sub (lv' := [(0, .ref 95), (1, .int v1)]) (List.forall_mem_cons.mpr ⟨rfl, (List.forall_mem_cons.mpr ⟨rfl, (fun _ h9 => absurd h9 List.not_mem_nil)⟩)⟩) ?_
      exact k_X9_isFull_13 h
def f_X9_wrong (N : Nat) (v1 : Int32) (m : mj_m) : Option (Int32 × mj_m) := mj_mw (mj_wI m 95 37 v1) (fun m1 => some (0, m1))
theorem k_X9_wrong {L : Nat} {xs : Nat → Int32} {δ N : Nat} {v1 : Int32} {m : mj_m} (_ : 0 ≤ δ) {a : Int32 × mj_m} (h : f_X9_wrong N v1 m = some a) : mj_Cl (mj_EX L xs) δ mY_X9_wrong [.ref 95, .int v1] (mj_fin m) (some (.int a.1), (mj_fin a.2)) := by
  refine mj_cl_of ok_X9_wrong (Nat.le_of_ble_eq_true rfl) ?_
  unfold f_X9_wrong at h
  refine mj_go_aload_n (k := 0) (x := 95) rfl (mj_dt dt_X9_wrong 0 rfl) ?_
  refine mj_go_iload_n (k := 1) (x := v1) rfl (mj_dt dt_X9_wrong 1 rfl) ?_
  obtain ⟨m1, em1, h⟩ := mj_mw_some h
  refine ml_putI (c := 9) (k := 37) fd_9_37 rfl fl_X9_176 ho_95 (mj_dt dt_X9_wrong 2 rfl) ?_
  refine ml_eqm (M1 := (mj_fin m1)) (by rw [em1] <;> rfl) ?_
  refine mj_go_iconst (v := 0) rfl (mj_dt dt_X9_wrong 3 rfl) ?_
  obtain rfl := Option.some.inj h
  exact mj_go_ret (v := some (.int 0)) (Nat.le_of_ble_eq_true rfl) (mj_retZ (mj_dt dt_X9_wrong 4 rfl) rfl rfl)
def f_X9_isDigit_55 (N : Nat) (m : mj_m) : Option (Int32) := (some 0)
theorem k_X9_isDigit_55 {L : Nat} {xs : Nat → Int32} {δ N : Nat} {m : mj_m} {a : Int32} (h : f_X9_isDigit_55 N m = some a) : mj_Go (mj_EX L xs) δ mY_X9_isDigit 55 [] [] (mj_fin m) (some (.int a), (mj_fin m)) := by
  unfold f_X9_isDigit_55 at h
  refine mj_go_iconst (v := 0) rfl (mj_dt dt_X9_isDigit 29 rfl) ?_
  obtain rfl := Option.some.inj h
  exact mj_go_ret (v := some (.int 0)) (Nat.le_of_ble_eq_true rfl) (mj_retZ (mj_dt dt_X9_isDigit 30 rfl) rfl rfl)
def f_X9_isDigit (N : Nat) (m : mj_m) : Option (Int32) := if (m.1 95 35) ≤ (m.1 95 34) then f_X9_isDigit_55 N m else (mj_ck (mj_b 1 115 ((m.1 95 33) + (m.1 95 34))) ( if ((m.2 115 ((m.1 95 33) + (m.1 95 34)).toNatClampNeg).toInt32) < 48 then f_X9_isDigit_55 N m else (if 57 < ((m.2 115 ((m.1 95 33) + (m.1 95 34)).toNatClampNeg).toInt32) then f_X9_isDigit_55 N m else ((some 1)))))
theorem k_X9_isDigit {L : Nat} {xs : Nat → Int32} {δ N : Nat} {m : mj_m} (_ : 0 ≤ δ) {a : Int32} (h : f_X9_isDigit N m = some a) : mj_Cl (mj_EX L xs) δ mY_X9_isDigit [.ref 95] (mj_fin m) (some (.int a), (mj_fin m)) := by
  refine mj_cl_of ok_X9_isDigit (Nat.le_of_ble_eq_true rfl) ?_
  unfold f_X9_isDigit at h
  refine mj_go_aload_n (k := 0) (x := 95) rfl (mj_dt dt_X9_isDigit 0 rfl) ?_
  refine mk_getI (c := 9) (k := 34) (Or.inl fd_9_34) (Or.inl fl_X9_179) ho_95 (mj_dt dt_X9_isDigit 1 rfl) ?_
  refine mj_go_aload_n (k := 0) (x := 95) rfl (mj_dt dt_X9_isDigit 2 rfl) ?_
  refine mk_getI (c := 9) (k := 35) (Or.inl fd_9_35) (Or.inl fl_X9_182) ho_95 (mj_dt dt_X9_isDigit 3 rfl) ?_
  refine mj_go_icmp_ge (tgt := 55) rfl (mj_dt dt_X9_isDigit 4 rfl) (fun b1 => ?_) (fun b1 => ?_)
  · rw [if_pos b1] at h
    refine mj_go_sub (lv' := []) (fun _ h9 => absurd h9 List.not_mem_nil) ?_
    exact k_X9_isDigit_55 h
  · rw [if_neg b1] at h
    refine mj_go_aload_n (k := 0) (x := 95) rfl (mj_dt dt_X9_isDigit 5 rfl) ?_
    refine ml_getR (c := 9) (k := 30) (q := 115) fd_9_30 rf_95_30 (Or.inl fl_X9_83) ho_95 (mj_dt dt_X9_isDigit 6 rfl) ?_
    refine mj_go_aload_n (k := 0) (x := 95) rfl (mj_dt dt_X9_isDigit 7 rfl) ?_
    refine mk_getI (c := 9) (k := 33) (Or.inl fd_9_33) (Or.inl fl_X9_185) ho_95 (mj_dt dt_X9_isDigit 8 rfl) ?_
    refine mj_go_aload_n (k := 0) (x := 95) rfl (mj_dt dt_X9_isDigit 9 rfl) ?_
    refine mk_getI (c := 9) (k := 34) (Or.inl fd_9_34) (Or.inl fl_X9_179) ho_95 (mj_dt dt_X9_isDigit 10 rfl) ?_
    refine mj_go_iadd (mj_dt dt_X9_isDigit 11 rfl) ?_
    obtain ⟨c2, h⟩ := mj_ck_some h
    refine mk_lald c2 (mj_dt dt_X9_isDigit 12 rfl) ?_
    refine mj_go_l2i (mj_dt dt_X9_isDigit 13 rfl) ?_
    refine mj_go_bipush (v := 48) rfl (mj_dt dt_X9_isDigit 14 rfl) ?_
    refine mj_go_icmp_lt (tgt := 55) rfl (mj_dt dt_X9_isDigit 15 rfl) (fun b3 => ?_) (fun b3 => ?_)
    · rw [if_pos b3] at h
      refine mj_go_sub (lv' := []) (fun _ h9 => absurd h9 List.not_mem_nil) ?_
      exact k_X9_isDigit_55 h
    · rw [if_neg b3] at h
      refine mj_go_aload_n (k := 0) (x := 95) rfl (mj_dt dt_X9_isDigit 16 rfl) ?_
      refine ml_getR (c := 9) (k := 30) (q := 115) fd_9_30 rf_95_30 (Or.inl fl_X9_83) ho_95 (mj_dt dt_X9_isDigit 17 rfl) ?_
      refine mj_go_aload_n (k := 0) (x := 95) rfl (mj_dt dt_X9_isDigit 18 rfl) ?_
      refine mk_getI (c := 9) (k := 33) (Or.inl fd_9_33) (Or.inl fl_X9_185) ho_95 (mj_dt dt_X9_isDigit 19 rfl) ?_
      refine mj_go_aload_n (k := 0) (x := 95) rfl (mj_dt dt_X9_isDigit 20 rfl) ?_
      refine mk_getI (c := 9) (k := 34) (Or.inl fd_9_34) (Or.inl fl_X9_179) ho_95 (mj_dt dt_X9_isDigit 21 rfl) ?_
      refine mj_go_iadd (mj_dt dt_X9_isDigit 22 rfl) ?_
      refine mk_lald c2 (mj_dt dt_X9_isDigit 23 rfl) ?_
      refine mj_go_l2i (mj_dt dt_X9_isDigit 24 rfl) ?_
      refine mj_go_bipush (v := 57) rfl (mj_dt dt_X9_isDigit 25 rfl) ?_
      refine mj_go_icmp_gt (tgt := 55) rfl (mj_dt dt_X9_isDigit 26 rfl) (fun b4 => ?_) (fun b4 => ?_)
      · rw [if_pos b4] at h
        refine mj_go_sub (lv' := []) (fun _ h9 => absurd h9 List.not_mem_nil) ?_
        exact k_X9_isDigit_55 h
      · rw [if_neg b4] at h
        refine mj_go_iconst (v := 1) rfl (mj_dt dt_X9_isDigit 27 rfl) ?_
        refine mj_go_goto (tgt := 56) rfl (mj_dt dt_X9_isDigit 28 rfl) ?_
        obtain rfl := Option.some.inj h
        exact mj_go_ret (v := some (.int 1)) (Nat.le_of_ble_eq_true rfl) (mj_retZ (mj_dt dt_X9_isDigit 30 rfl) rfl rfl)
def f_X9_number_122 (N : Nat) (m : mj_m) : Option (Int32 × mj_m) := (some (1, m))
theorem k_X9_number_122 {L : Nat} {xs : Nat → Int32} {δ N : Nat} {m : mj_m} (hδ : 0 ≤ δ) {a : Int32 × mj_m} (h : f_X9_number_122 N m = some a) : mj_Go (mj_EX L xs) (δ + 1) mY_X9_number 122 [] [] (mj_fin m) (some (.int a.1), (mj_fin a.2)) := by
  unfold f_X9_number_122 at h
  refine mj_go_iconst (v := 1) rfl (mj_dt dt_X9_number 64 rfl) ?_
  refine mj_go_goto (tgt := 127) rfl (mj_dt dt_X9_number 65 rfl) ?_
  obtain rfl := Option.some.inj h
  exact mj_go_ret (v := some (.int 1)) (Nat.le_of_ble_eq_true rfl) (mj_retZ (mj_dt dt_X9_number 67 rfl) rfl rfl)
def f_X9_number_113 (N : Nat) (v4 : Int32) (m : mj_m) : Option (Int32 × mj_m) := (f_X9_wrong N v4 m).bind (fun r1 => if r1.1 = 0 then ((some (0, r1.2))) else f_X9_number_122 N r1.2)
theorem k_X9_number_113 {L : Nat} {xs : Nat → Int32} {δ N : Nat} {v4 : Int32} {m : mj_m} (hδ : 0 ≤ δ) {a : Int32 × mj_m} (h : f_X9_number_113 N v4 m = some a) : mj_Go (mj_EX L xs) (δ + 1) mY_X9_number 113 [(0, .ref 95), (4, .int v4)] [] (mj_fin m) (some (.int a.1), (mj_fin a.2)) := by
  unfold f_X9_number_113 at h
  refine mj_go_aload_n (k := 0) (x := 95) rfl (mj_dt dt_X9_number 60 rfl) ?_
  refine mj_go_iload (i := 4) (x := v4) rfl (mj_dt dt_X9_number 61 rfl) ?_
  obtain ⟨r1, er1, h⟩ := mj_bind_some h
  refine ml_callV (Y' := mY_X9_wrong) (as := [.int v4]) (rest := []) (c := 9) (v := (some (.int r1.1))) (M1 := (mj_fin r1.2)) ho_95 rfl lm_X9_195 wc_X9_wrong pl_X9_wrong ok_X9_wrong rfl rfl (Nat.le_of_ble_eq_true rfl) (k_X9_wrong (by omega) er1) (mj_dt dt_X9_number 62 rfl) ?_
  refine mj_go_if_eq (tgt := 126) rfl (mj_dt dt_X9_number 63 rfl) (fun b2 => ?_) (fun b2 => ?_)
  · rw [if_pos b2] at h
    refine mj_go_iconst (v := 0) rfl (mj_dt dt_X9_number 66 rfl) ?_
    obtain rfl := Option.some.inj h
    exact mj_go_ret (v := some (.int 0)) (Nat.le_of_ble_eq_true rfl) (mj_retZ (mj_dt dt_X9_number 67 rfl) rfl rfl)
  · rw [if_neg b2] at h
    refine mj_go_sub (lv' := []) (fun _ h9 => absurd h9 List.not_mem_nil) ?_
    exact k_X9_number_122 hδ h
def f_X9_number_89 (N : Nat) (v1 : Int32) (v2 : Int32) (v3 : Int32) (v4 : Int32) (m : mj_m) : Option (Int32 × mj_m) := if (m.1 95 36) < v1 then f_X9_number_113 N v4 m else (if v2 < (m.1 95 36) then f_X9_number_113 N v4 m else (if (m.1 95 36) = v3 then f_X9_number_113 N v4 m else f_X9_number_122 N m))
theorem k_X9_number_89 {L : Nat} {xs : Nat → Int32} {δ N : Nat} {v1 : Int32} {v2 : Int32} {v3 : Int32} {v4 : Int32} {m : mj_m} (hδ : 0 ≤ δ) {a : Int32 × mj_m} (h : f_X9_number_89 N v1 v2 v3 v4 m = some a) : mj_Go (mj_EX L xs) (δ + 1) mY_X9_number 89 [(0, .ref 95), (1, .int v1), (2, .int v2), (3, .int v3), (4, .int v4)] [] (mj_fin m) (some (.int a.1), (mj_fin a.2)) := by
  unfold f_X9_number_89 at h
  refine mj_go_aload_n (k := 0) (x := 95) rfl (mj_dt dt_X9_number 48 rfl) ?_
  refine mk_getI (c := 9) (k := 36) (Or.inl fd_9_36) (Or.inl fl_X9_188) ho_95 (mj_dt dt_X9_number 49 rfl) ?_
  refine mj_go_iload_n (k := 1) (x := v1) rfl (mj_dt dt_X9_number 50 rfl) ?_
  refine mj_go_icmp_lt (tgt := 113) rfl (mj_dt dt_X9_number 51 rfl) (fun b1 => ?_) (fun b1 => ?_)
  · rw [if_pos b1] at h
    refine mj_go_sub (lv' := [(0, .ref 95), (4, .int v4)]) (List.forall_mem_cons.mpr ⟨rfl, (List.forall_mem_cons.mpr ⟨rfl, (fun _ h9 => absurd h9 List.not_mem_nil)⟩)⟩) ?_
    exact k_X9_number_113 hδ h
  · rw [if_neg b1] at h
    refine mj_go_aload_n (k := 0) (x := 95) rfl (mj_dt dt_X9_number 52 rfl) ?_
    refine mk_getI (c := 9) (k := 36) (Or.inl fd_9_36) (Or.inl fl_X9_188) ho_95 (mj_dt dt_X9_number 53 rfl) ?_
    refine mj_go_iload_n (k := 2) (x := v2) rfl (mj_dt dt_X9_number 54 rfl) ?_
    refine mj_go_icmp_gt (tgt := 113) rfl (mj_dt dt_X9_number 55 rfl) (fun b2 => ?_) (fun b2 => ?_)
    · rw [if_pos b2] at h
      refine mj_go_sub (lv' := [(0, .ref 95), (4, .int v4)]) (List.forall_mem_cons.mpr ⟨rfl, (List.forall_mem_cons.mpr ⟨rfl, (fun _ h9 => absurd h9 List.not_mem_nil)⟩)⟩) ?_
      exact k_X9_number_113 hδ h
    · rw [if_neg b2] at h
      refine mj_go_aload_n (k := 0) (x := 95) rfl (mj_dt dt_X9_number 56 rfl) ?_
      refine mk_getI (c := 9) (k := 36) (Or.inl fd_9_36) (Or.inl fl_X9_188) ho_95 (mj_dt dt_X9_number 57 rfl) ?_
      refine mj_go_iload_n (k := 3) (x := v3) rfl (mj_dt dt_X9_number 58 rfl) ?_
      refine mj_go_icmp_ne (tgt := 122) rfl (mj_dt dt_X9_number 59 rfl) (fun b3 => ?_) (fun b3 => ?_)
      · rw [if_neg b3] at h
        refine mj_go_sub (lv' := []) (fun _ h9 => absurd h9 List.not_mem_nil) ?_
        exact k_X9_number_122 hδ h
      · rw [if_pos b3] at h
        refine mj_go_sub (lv' := [(0, .ref 95), (4, .int v4)]) (List.forall_mem_cons.mpr ⟨rfl, (List.forall_mem_cons.mpr ⟨rfl, (fun _ h9 => absurd h9 List.not_mem_nil)⟩)⟩) ?_
        exact k_X9_number_113 hδ h
def f_X9_number_30 (N : Nat) (v1 : Int32) (v2 : Int32) (v3 : Int32) (v4 : Int32) (k_30 : Int32 × mj_m → Option (Int32 × mj_m)) (s : Int32 × mj_m) : Option (Int32 × mj_m) := if 3 ≤ s.1 then f_X9_number_89 N v1 v2 v3 v4 s.2 else ((f_X9_isDigit N s.2).bind (fun r2 => if r2 = 0 then f_X9_number_89 N v1 v2 v3 v4 s.2 else (mj_ck (mj_b 1 115 ((s.2.1 95 33) + (s.2.1 95 34))) ( mj_mw (mj_wI s.2 95 36 (((10 * (s.2.1 95 36)) + ((s.2.2 115 ((s.2.1 95 33) + (s.2.1 95 34)).toNatClampNeg).toInt32)) - 48)) (fun m5 => mj_mw (mj_wI m5 95 34 ((m5.1 95 34) + 1)) (fun m6 => mj_mw (s.1 + 1) (fun x7 => k_30 (x7, m6))))))))
theorem k_X9_number_30 {L : Nat} {xs : Nat → Int32} {δ N : Nat} {v1 : Int32} {v2 : Int32} {v3 : Int32} {v4 : Int32} (hδ : 0 ≤ δ) : ∀ (n : Nat) (s : Int32 × mj_m) (a : Int32 × mj_m), mj_lp n (f_X9_number_30 N v1 v2 v3 v4) s = some a → mj_Go (mj_EX L xs) (δ + 1) mY_X9_number 30 [(0, .ref 95), (1, .int v1), (2, .int v2), (3, .int v3), (4, .int v4), (5, .int s.1)] [] (mj_fin s.2) (some (.int a.1), (mj_fin a.2)) := by
  refine mj_lp_sound (fun k_30 s a q_30 h => ?_)
  unfold f_X9_number_30 at h
  refine mj_go_iload (i := 5) (x := s.1) rfl (mj_dt dt_X9_number 16 rfl) ?_
  refine mj_go_iconst (v := 3) rfl (mj_dt dt_X9_number 17 rfl) ?_
  refine mj_go_icmp_ge (tgt := 89) rfl (mj_dt dt_X9_number 18 rfl) (fun b1 => ?_) (fun b1 => ?_)
  · rw [if_pos b1] at h
    refine mj_go_sub (lv' := [(0, .ref 95), (1, .int v1), (2, .int v2), (3, .int v3), (4, .int v4)]) (List.forall_mem_cons.mpr ⟨rfl, (List.forall_mem_cons.mpr ⟨rfl, (List.forall_mem_cons.mpr ⟨rfl, (List.forall_mem_cons.mpr ⟨rfl, (List.forall_mem_cons.mpr ⟨rfl, (fun _ h9 => absurd h9 List.not_mem_nil)⟩)⟩)⟩)⟩)⟩) ?_
    exact k_X9_number_89 hδ h
  · rw [if_neg b1] at h
    refine mj_go_aload_n (k := 0) (x := 95) rfl (mj_dt dt_X9_number 19 rfl) ?_
    obtain ⟨r2, er2, h⟩ := mj_bind_some h
    refine ml_callV (Y' := mY_X9_isDigit) (as := []) (rest := []) (c := 9) (v := (some (.int r2))) (M1 := (mj_fin s.2)) ho_95 rfl lm_X9_191 wc_X9_isDigit pl_X9_isDigit ok_X9_isDigit rfl rfl (Nat.le_of_ble_eq_true rfl) (k_X9_isDigit (by omega) er2) (mj_dt dt_X9_number 20 rfl) ?_
    refine mj_go_if_eq (tgt := 89) rfl (mj_dt dt_X9_number 21 rfl) (fun b3 => ?_) (fun b3 => ?_)
    · rw [if_pos b3] at h
      refine mj_go_sub (lv' := [(0, .ref 95), (1, .int v1), (2, .int v2), (3, .int v3), (4, .int v4)]) (List.forall_mem_cons.mpr ⟨rfl, (List.forall_mem_cons.mpr ⟨rfl, (List.forall_mem_cons.mpr ⟨rfl, (List.forall_mem_cons.mpr ⟨rfl, (List.forall_mem_cons.mpr ⟨rfl, (fun _ h9 => absurd h9 List.not_mem_nil)⟩)⟩)⟩)⟩)⟩) ?_
      exact k_X9_number_89 hδ h
    · rw [if_neg b3] at h
      refine mj_go_aload_n (k := 0) (x := 95) rfl (mj_dt dt_X9_number 22 rfl) ?_
      refine mj_go_bipush (v := 10) rfl (mj_dt dt_X9_number 23 rfl) ?_
      refine mj_go_aload_n (k := 0) (x := 95) rfl (mj_dt dt_X9_number 24 rfl) ?_
      refine mk_getI (c := 9) (k := 36) (Or.inl fd_9_36) (Or.inl fl_X9_188) ho_95 (mj_dt dt_X9_number 25 rfl) ?_
      refine mj_go_imul (mj_dt dt_X9_number 26 rfl) ?_
      refine mj_go_aload_n (k := 0) (x := 95) rfl (mj_dt dt_X9_number 27 rfl) ?_
      refine ml_getR (c := 9) (k := 30) (q := 115) fd_9_30 rf_95_30 (Or.inl fl_X9_83) ho_95 (mj_dt dt_X9_number 28 rfl) ?_
      refine mj_go_aload_n (k := 0) (x := 95) rfl (mj_dt dt_X9_number 29 rfl) ?_
      refine mk_getI (c := 9) (k := 33) (Or.inl fd_9_33) (Or.inl fl_X9_185) ho_95 (mj_dt dt_X9_number 30 rfl) ?_
      refine mj_go_aload_n (k := 0) (x := 95) rfl (mj_dt dt_X9_number 31 rfl) ?_
      refine mk_getI (c := 9) (k := 34) (Or.inl fd_9_34) (Or.inl fl_X9_179) ho_95 (mj_dt dt_X9_number 32 rfl) ?_
      refine mj_go_iadd (mj_dt dt_X9_number 33 rfl) ?_
      obtain ⟨c4, h⟩ := mj_ck_some h
      refine mk_lald c4 (mj_dt dt_X9_number 34 rfl) ?_
      refine mj_go_l2i (mj_dt dt_X9_number 35 rfl) ?_
      refine mj_go_iadd (mj_dt dt_X9_number 36 rfl) ?_
      refine mj_go_bipush (v := 48) rfl (mj_dt dt_X9_number 37 rfl) ?_
      refine mj_go_isub (mj_dt dt_X9_number 38 rfl) ?_
      obtain ⟨m5, em5, h⟩ := mj_mw_some h
      refine ml_putI (c := 9) (k := 36) fd_9_36 rfl fl_X9_188 ho_95 (mj_dt dt_X9_number 39 rfl) ?_
      refine ml_eqm (M1 := (mj_fin m5)) (by rw [em5] <;> rfl) ?_
      refine mj_go_aload_n (k := 0) (x := 95) rfl (mj_dt dt_X9_number 40 rfl) ?_
      refine mj_go_dup rfl (mj_dt dt_X9_number 41 rfl) ?_
      refine mk_getI (c := 9) (k := 34) (Or.inl fd_9_34) (Or.inl fl_X9_179) ho_95 (mj_dt dt_X9_number 42 rfl) ?_
      refine mj_go_iconst (v := 1) rfl (mj_dt dt_X9_number 43 rfl) ?_
      refine mj_go_iadd (mj_dt dt_X9_number 44 rfl) ?_
      obtain ⟨m6, em6, h⟩ := mj_mw_some h
      refine ml_putI (c := 9) (k := 34) fd_9_34 rfl fl_X9_179 ho_95 (mj_dt dt_X9_number 45 rfl) ?_
      refine ml_eqm (M1 := (mj_fin m6)) (by rw [em6] <;> rfl) ?_
      obtain ⟨x7, ex7, h⟩ := mj_mw_some h
      refine mj_go_iinc (i := 5) (x := s.1) (v := x7) rfl (by rw [ex7] <;> rfl) (by decide) (mj_dt dt_X9_number 46 rfl) ?_
      refine mj_go_goto (tgt := 30) rfl (mj_dt dt_X9_number 47 rfl) ?_
      refine mj_go_sub (lv' := [(0, .ref 95), (1, .int v1), (2, .int v2), (3, .int v3), (4, .int v4), (5, .int x7)]) (List.forall_mem_cons.mpr ⟨rfl, (List.forall_mem_cons.mpr ⟨rfl, (List.forall_mem_cons.mpr ⟨rfl, (List.forall_mem_cons.mpr ⟨rfl, (List.forall_mem_cons.mpr ⟨rfl, (List.forall_mem_cons.mpr ⟨rfl, (fun _ h9 => absurd h9 List.not_mem_nil)⟩)⟩)⟩)⟩)⟩)⟩) ?_
      exact q_30 _ _ h
def f_X9_number (N : Nat) (v1 : Int32) (v2 : Int32) (v3 : Int32) (m : mj_m) : Option (Int32 × mj_m) := mj_mw (m.1 95 34) (fun x1 => mj_mw (mj_wI m 95 36 0) (fun m2 => (f_X9_isDigit N m2).bind (fun r3 => if r3 = 0 then ((f_X9_wrong N (m2.1 95 34) m2).bind (fun r5 => mj_ck (r5.1 &&& 1 == r5.1) ( some (r5.1, r5.2)))) else (mj_lp N (f_X9_number_30 N v1 v2 v3 x1) (0, m2)))))
theorem k_X9_number {L : Nat} {xs : Nat → Int32} {δ N : Nat} {v1 : Int32} {v2 : Int32} {v3 : Int32} {m : mj_m} (hδ : 1 ≤ δ) {a : Int32 × mj_m} (h : f_X9_number N v1 v2 v3 m = some a) : mj_Cl (mj_EX L xs) δ mY_X9_number [.ref 95, .int v1, .int v2, .int v3] (mj_fin m) (some (.int a.1), (mj_fin a.2)) := by
  obtain ⟨δ, rfl⟩ : ∃ d, δ = d + 1 := ⟨δ - 1, by omega⟩
  have hδ : 0 ≤ δ := by omega
  refine mj_cl_of ok_X9_number (Nat.le_of_ble_eq_true rfl) ?_
  unfold f_X9_number at h
  refine mj_go_aload_n (k := 0) (x := 95) rfl (mj_dt dt_X9_number 0 rfl) ?_
  refine mk_getI (c := 9) (k := 34) (Or.inl fd_9_34) (Or.inl fl_X9_179) ho_95 (mj_dt dt_X9_number 1 rfl) ?_
  obtain ⟨x1, ex1, h⟩ := mj_mw_some h
  refine ml_eqi ex1 ?_
  refine mj_go_istore (i := 4) (by decide) (mj_dt dt_X9_number 2 rfl) ?_
  refine mj_go_aload_n (k := 0) (x := 95) rfl (mj_dt dt_X9_number 3 rfl) ?_
  refine mj_go_iconst (v := 0) rfl (mj_dt dt_X9_number 4 rfl) ?_
  obtain ⟨m2, em2, h⟩ := mj_mw_some h
  refine ml_putI (c := 9) (k := 36) fd_9_36 rfl fl_X9_188 ho_95 (mj_dt dt_X9_number 5 rfl) ?_
  refine ml_eqm (M1 := (mj_fin m2)) (by rw [em2] <;> rfl) ?_
  refine mj_go_aload_n (k := 0) (x := 95) rfl (mj_dt dt_X9_number 6 rfl) ?_
  obtain ⟨r3, er3, h⟩ := mj_bind_some h
  refine ml_callV (Y' := mY_X9_isDigit) (as := []) (rest := []) (c := 9) (v := (some (.int r3))) (M1 := (mj_fin m2)) ho_95 rfl lm_X9_191 wc_X9_isDigit pl_X9_isDigit ok_X9_isDigit rfl rfl (Nat.le_of_ble_eq_true rfl) (k_X9_isDigit (by omega) er3) (mj_dt dt_X9_number 7 rfl) ?_
  refine mj_go_if_ne (tgt := 27) rfl (mj_dt dt_X9_number 8 rfl) (fun b4 => ?_) (fun b4 => ?_)
  · rw [if_neg b4] at h
    refine mj_go_iconst (v := 0) rfl (mj_dt dt_X9_number 14 rfl) ?_
    refine mj_go_istore (i := 5) (by decide) (mj_dt dt_X9_number 15 rfl) ?_
    refine mj_go_sub (lv' := [(0, .ref 95), (1, .int v1), (2, .int v2), (3, .int v3), (4, .int x1), (5, .int 0)]) (List.forall_mem_cons.mpr ⟨rfl, (List.forall_mem_cons.mpr ⟨rfl, (List.forall_mem_cons.mpr ⟨rfl, (List.forall_mem_cons.mpr ⟨rfl, (List.forall_mem_cons.mpr ⟨rfl, (List.forall_mem_cons.mpr ⟨rfl, (fun _ h9 => absurd h9 List.not_mem_nil)⟩)⟩)⟩)⟩)⟩)⟩) ?_
    exact k_X9_number_30 hδ N _ _ h
  · rw [if_pos b4] at h
    refine mj_go_aload_n (k := 0) (x := 95) rfl (mj_dt dt_X9_number 9 rfl) ?_
    refine mj_go_aload_n (k := 0) (x := 95) rfl (mj_dt dt_X9_number 10 rfl) ?_
    refine mk_getI (c := 9) (k := 34) (Or.inl fd_9_34) (Or.inl fl_X9_179) ho_95 (mj_dt dt_X9_number 11 rfl) ?_
    obtain ⟨r5, er5, h⟩ := mj_bind_some h
    refine ml_callV (Y' := mY_X9_wrong) (as := [.int (m2.1 95 34)]) (rest := []) (c := 9) (v := (some (.int r5.1))) (M1 := (mj_fin r5.2)) ho_95 rfl lm_X9_195 wc_X9_wrong pl_X9_wrong ok_X9_wrong rfl rfl (Nat.le_of_ble_eq_true rfl) (k_X9_wrong (by omega) er5) (mj_dt dt_X9_number 12 rfl) ?_
    obtain ⟨c6, h⟩ := mj_ck_some h
    obtain rfl := Option.some.inj h
    exact mj_go_ret (v := some (.int r5.1)) (Nat.le_of_ble_eq_true rfl) (mj_retZ (mj_dt dt_X9_number 13 rfl) rfl (eq_of_beq c6))
def f_X9_more_31 (N : Nat) (m : mj_m) : Option (Int32 × mj_m) := (f_X9_wrong N (m.1 95 34) m).bind (fun r1 => mj_ck (r1.1 &&& 1 == r1.1) ( some (r1.1, r1.2)))
theorem k_X9_more_31 {L : Nat} {xs : Nat → Int32} {δ N : Nat} {m : mj_m} (hδ : 1 ≤ δ) {a : Int32 × mj_m} (h : f_X9_more_31 N m = some a) : mj_Go (mj_EX L xs) (δ + 1) mY_X9_more 31 [(0, .ref 95)] [] (mj_fin m) (some (.int a.1), (mj_fin a.2)) := by
  unfold f_X9_more_31 at h
  refine mj_go_aload_n (k := 0) (x := 95) rfl (mj_dt dt_X9_more 16 rfl) ?_
  refine mj_go_aload_n (k := 0) (x := 95) rfl (mj_dt dt_X9_more 17 rfl) ?_
  refine mk_getI (c := 9) (k := 34) (Or.inl fd_9_34) (Or.inl fl_X9_179) ho_95 (mj_dt dt_X9_more 18 rfl) ?_
  obtain ⟨r1, er1, h⟩ := mj_bind_some h
  refine ml_callV (Y' := mY_X9_wrong) (as := [.int (m.1 95 34)]) (rest := []) (c := 9) (v := (some (.int r1.1))) (M1 := (mj_fin r1.2)) ho_95 rfl lm_X9_195 wc_X9_wrong pl_X9_wrong ok_X9_wrong rfl rfl (Nat.le_of_ble_eq_true rfl) (k_X9_wrong (by omega) er1) (mj_dt dt_X9_more 19 rfl) ?_
  obtain ⟨c2, h⟩ := mj_ck_some h
  obtain rfl := Option.some.inj h
  exact mj_go_ret (v := some (.int r1.1)) (Nat.le_of_ble_eq_true rfl) (mj_retZ (mj_dt dt_X9_more 20 rfl) rfl (eq_of_beq c2))
def f_X9_more (N : Nat) (v1 : Int32) (v2 : Int32) (v3 : Int32) (m : mj_m) : Option (Int32 × mj_m) := if (m.1 95 35) ≤ (m.1 95 34) then f_X9_more_31 N m else (mj_ck (mj_b 1 115 ((m.1 95 33) + (m.1 95 34))) ( if ((m.2 115 ((m.1 95 33) + (m.1 95 34)).toNatClampNeg).toInt32) = 32 then (mj_mw (mj_wI m 95 34 ((m.1 95 34) + 1)) (fun m4 => (f_X9_number N v1 v2 v3 m4).bind (fun r5 => mj_ck (r5.1 &&& 1 == r5.1) ( some (r5.1, r5.2))))) else f_X9_more_31 N m))
theorem k_X9_more {L : Nat} {xs : Nat → Int32} {δ N : Nat} {v1 : Int32} {v2 : Int32} {v3 : Int32} {m : mj_m} (hδ : 2 ≤ δ) {a : Int32 × mj_m} (h : f_X9_more N v1 v2 v3 m = some a) : mj_Cl (mj_EX L xs) δ mY_X9_more [.ref 95, .int v1, .int v2, .int v3] (mj_fin m) (some (.int a.1), (mj_fin a.2)) := by
  obtain ⟨δ, rfl⟩ : ∃ d, δ = d + 1 := ⟨δ - 1, by omega⟩
  have hδ : 1 ≤ δ := by omega
  refine mj_cl_of ok_X9_more (Nat.le_of_ble_eq_true rfl) ?_
  unfold f_X9_more at h
  refine mj_go_aload_n (k := 0) (x := 95) rfl (mj_dt dt_X9_more 0 rfl) ?_
  refine mk_getI (c := 9) (k := 34) (Or.inl fd_9_34) (Or.inl fl_X9_179) ho_95 (mj_dt dt_X9_more 1 rfl) ?_
  refine mj_go_aload_n (k := 0) (x := 95) rfl (mj_dt dt_X9_more 2 rfl) ?_
  refine mk_getI (c := 9) (k := 35) (Or.inl fd_9_35) (Or.inl fl_X9_182) ho_95 (mj_dt dt_X9_more 3 rfl) ?_
  refine mj_go_icmp_ge (tgt := 31) rfl (mj_dt dt_X9_more 4 rfl) (fun b1 => ?_) (fun b1 => ?_)
  · rw [if_pos b1] at h
    refine mj_go_sub (lv' := [(0, .ref 95)]) (List.forall_mem_cons.mpr ⟨rfl, (fun _ h9 => absurd h9 List.not_mem_nil)⟩) ?_
    exact k_X9_more_31 hδ h
  · rw [if_neg b1] at h
    refine mj_go_aload_n (k := 0) (x := 95) rfl (mj_dt dt_X9_more 5 rfl) ?_
    refine ml_getR (c := 9) (k := 30) (q := 115) fd_9_30 rf_95_30 (Or.inl fl_X9_83) ho_95 (mj_dt dt_X9_more 6 rfl) ?_
    refine mj_go_aload_n (k := 0) (x := 95) rfl (mj_dt dt_X9_more 7 rfl) ?_
    refine mk_getI (c := 9) (k := 33) (Or.inl fd_9_33) (Or.inl fl_X9_185) ho_95 (mj_dt dt_X9_more 8 rfl) ?_
    refine mj_go_aload_n (k := 0) (x := 95) rfl (mj_dt dt_X9_more 9 rfl) ?_
    refine mk_getI (c := 9) (k := 34) (Or.inl fd_9_34) (Or.inl fl_X9_179) ho_95 (mj_dt dt_X9_more 10 rfl) ?_
    refine mj_go_iadd (mj_dt dt_X9_more 11 rfl) ?_
    obtain ⟨c2, h⟩ := mj_ck_some h
    refine mk_lald c2 (mj_dt dt_X9_more 12 rfl) ?_
    refine mj_go_l2i (mj_dt dt_X9_more 13 rfl) ?_
    refine mj_go_bipush (v := 32) rfl (mj_dt dt_X9_more 14 rfl) ?_
    refine mj_go_icmp_eq (tgt := 40) rfl (mj_dt dt_X9_more 15 rfl) (fun b3 => ?_) (fun b3 => ?_)
    · rw [if_pos b3] at h
      refine mj_go_aload_n (k := 0) (x := 95) rfl (mj_dt dt_X9_more 21 rfl) ?_
      refine mj_go_dup rfl (mj_dt dt_X9_more 22 rfl) ?_
      refine mk_getI (c := 9) (k := 34) (Or.inl fd_9_34) (Or.inl fl_X9_179) ho_95 (mj_dt dt_X9_more 23 rfl) ?_
      refine mj_go_iconst (v := 1) rfl (mj_dt dt_X9_more 24 rfl) ?_
      refine mj_go_iadd (mj_dt dt_X9_more 25 rfl) ?_
      obtain ⟨m4, em4, h⟩ := mj_mw_some h
      refine ml_putI (c := 9) (k := 34) fd_9_34 rfl fl_X9_179 ho_95 (mj_dt dt_X9_more 26 rfl) ?_
      refine ml_eqm (M1 := (mj_fin m4)) (by rw [em4] <;> rfl) ?_
      refine mj_go_aload_n (k := 0) (x := 95) rfl (mj_dt dt_X9_more 27 rfl) ?_
      refine mj_go_iload_n (k := 1) (x := v1) rfl (mj_dt dt_X9_more 28 rfl) ?_
      refine mj_go_iload_n (k := 2) (x := v2) rfl (mj_dt dt_X9_more 29 rfl) ?_
      refine mj_go_iload_n (k := 3) (x := v3) rfl (mj_dt dt_X9_more 30 rfl) ?_
      obtain ⟨r5, er5, h⟩ := mj_bind_some h
      refine ml_callV (Y' := mY_X9_number) (as := [.int v1, .int v2, .int v3]) (rest := []) (c := 9) (v := (some (.int r5.1))) (M1 := (mj_fin r5.2)) ho_95 rfl lm_X9_198 wc_X9_number pl_X9_number ok_X9_number rfl rfl (Nat.le_of_ble_eq_true rfl) (k_X9_number (by omega) er5) (mj_dt dt_X9_more 31 rfl) ?_
      obtain ⟨c6, h⟩ := mj_ck_some h
      obtain rfl := Option.some.inj h
      exact mj_go_ret (v := some (.int r5.1)) (Nat.le_of_ble_eq_true rfl) (mj_retZ (mj_dt dt_X9_more 32 rfl) rfl (eq_of_beq c6))
    · rw [if_neg b3] at h
      refine mj_go_sub (lv' := [(0, .ref 95)]) (List.forall_mem_cons.mpr ⟨rfl, (fun _ h9 => absurd h9 List.not_mem_nil)⟩) ?_
      exact k_X9_more_31 hδ h
def f_X9_item_550 (N : Nat) (k_396 : Int32 × Int32 × Int32 × mj_m → Option (Int32 × mj_m)) (v7 : Int32) (v8 : Int32) (v9 : Int32) (v10 : Int32) (m : mj_m) : Option (Int32 × mj_m) := mj_mw (v10 + 1) (fun x1 => k_396 (v8, v9, x1, m))
theorem k_X9_item_550 {L : Nat} {xs : Nat → Int32} {δ N : Nat} {v7 : Int32} {v8 : Int32} {v9 : Int32} {v10 : Int32} {m : mj_m} {k_396 : Int32 × Int32 × Int32 × mj_m → Option (Int32 × mj_m)} (q_396 : ∀ (s_ : Int32 × Int32 × Int32 × mj_m) (a_ : Int32 × mj_m), k_396 s_ = some a_ → mj_Go (mj_EX L xs) (δ + 1) mY_X9_item 396 [(0, .ref 95), (7, .int v7), (8, .int s_.1), (9, .int s_.2.1), (10, .int s_.2.2.1)] [] (mj_fin s_.2.2.2) (some (.int a_.1), (mj_fin a_.2))) (hδ : 2 ≤ δ) {a : Int32 × mj_m} (h : f_X9_item_550 N k_396 v7 v8 v9 v10 m = some a) : mj_Go (mj_EX L xs) (δ + 1) mY_X9_item 550 [(0, .ref 95), (7, .int v7), (8, .int v8), (9, .int v9), (10, .int v10)] [] (mj_fin m) (some (.int a.1), (mj_fin a.2)) := by
  unfold f_X9_item_550 at h
  obtain ⟨x1, ex1, h⟩ := mj_mw_some h
  refine mj_go_iinc (i := 10) (x := v10) (v := x1) rfl (by rw [ex1] <;> rfl) (by decide) (mj_dt dt_X9_item 303 rfl) ?_
  refine mj_go_goto (tgt := 396) rfl (mj_dt dt_X9_item 304 rfl) ?_
  refine mj_go_sub (lv' := [(0, .ref 95), (7, .int v7), (8, .int v8), (9, .int v9), (10, .int x1)]) (List.forall_mem_cons.mpr ⟨rfl, (List.forall_mem_cons.mpr ⟨rfl, (List.forall_mem_cons.mpr ⟨rfl, (List.forall_mem_cons.mpr ⟨rfl, (List.forall_mem_cons.mpr ⟨rfl, (fun _ h9 => absurd h9 List.not_mem_nil)⟩)⟩)⟩)⟩)⟩) ?_
  exact q_396 _ _ h
def f_X9_item_503 (N : Nat) (k_396 : Int32 × Int32 × Int32 × mj_m → Option (Int32 × mj_m)) (v7 : Int32) (v8 : Int32) (v9 : Int32) (v10 : Int32) (v11 : Int32) (s1 : Int32) (s2 : Int32) (m : mj_m) : Option (Int32 × mj_m) := (f_X9_number N s1 s2 (-1 : Int32) m).bind (fun r1 => if r1.1 = 0 then (some (0, r1.2)) else (if v11 = 6 then (mj_ck (mj_b 0 106 v7) ( mj_mw (mj_wI r1.2 106 (v7.toNatClampNeg) (r1.2.1 95 36)) (fun m5 => f_X9_item_550 N k_396 v7 1 v9 v10 m5))) else (mj_ck (mj_b 0 107 v7) ( mj_mw (mj_wI r1.2 107 (v7.toNatClampNeg) (r1.2.1 95 36)) (fun m5 => f_X9_item_550 N k_396 v7 v8 0 v10 m5)))))
theorem k_X9_item_503 {L : Nat} {xs : Nat → Int32} {δ N : Nat} {v7 : Int32} {v8 : Int32} {v9 : Int32} {v10 : Int32} {v11 : Int32} {s1 : Int32} {s2 : Int32} {m : mj_m} {k_396 : Int32 × Int32 × Int32 × mj_m → Option (Int32 × mj_m)} (q_396 : ∀ (s_ : Int32 × Int32 × Int32 × mj_m) (a_ : Int32 × mj_m), k_396 s_ = some a_ → mj_Go (mj_EX L xs) (δ + 1) mY_X9_item 396 [(0, .ref 95), (7, .int v7), (8, .int s_.1), (9, .int s_.2.1), (10, .int s_.2.2.1)] [] (mj_fin s_.2.2.2) (some (.int a_.1), (mj_fin a_.2))) (hδ : 2 ≤ δ) {a : Int32 × mj_m} (h : f_X9_item_503 N k_396 v7 v8 v9 v10 v11 s1 s2 m = some a) : mj_Go (mj_EX L xs) (δ + 1) mY_X9_item 503 [(0, .ref 95), (7, .int v7), (8, .int v8), (9, .int v9), (10, .int v10), (11, .int v11)] [.int s2, .int s1, .ref 95] (mj_fin m) (some (.int a.1), (mj_fin a.2)) := by
  unfold f_X9_item_503 at h
  refine mj_go_iconst (v := -1) rfl (mj_dt dt_X9_item 278 rfl) ?_
  obtain ⟨r1, er1, h⟩ := mj_bind_some h
  refine ml_callV (Y' := mY_X9_number) (as := [.int s1, .int s2, .int (-1 : Int32)]) (rest := []) (c := 9) (v := (some (.int r1.1))) (M1 := (mj_fin r1.2)) ho_95 rfl lm_X9_198 wc_X9_number pl_X9_number ok_X9_number rfl rfl (Nat.le_of_ble_eq_true rfl) (k_X9_number (by omega) er1) (mj_dt dt_X9_item 279 rfl) ?_
  refine mj_go_if_ne (tgt := 512) rfl (mj_dt dt_X9_item 280 rfl) (fun b2 => ?_) (fun b2 => ?_)
  · rw [if_neg b2] at h
    refine mj_go_iload (i := 11) (x := v11) rfl (mj_dt dt_X9_item 283 rfl) ?_
    refine mj_go_bipush (v := 6) rfl (mj_dt dt_X9_item 284 rfl) ?_
    refine mj_go_icmp_ne (tgt := 536) rfl (mj_dt dt_X9_item 285 rfl) (fun b3 => ?_) (fun b3 => ?_)
    · rw [if_neg b3] at h
      refine mj_go_aload_n (k := 0) (x := 95) rfl (mj_dt dt_X9_item 295 rfl) ?_
      refine ml_getR (c := 9) (k := 22) (q := 107) fd_9_22 rf_95_22 (Or.inl fl_X9_59) ho_95 (mj_dt dt_X9_item 296 rfl) ?_
      refine mj_go_iload (i := 7) (x := v7) rfl (mj_dt dt_X9_item 297 rfl) ?_
      refine mj_go_aload_n (k := 0) (x := 95) rfl (mj_dt dt_X9_item 298 rfl) ?_
      refine mk_getI (c := 9) (k := 36) (Or.inl fd_9_36) (Or.inl fl_X9_188) ho_95 (mj_dt dt_X9_item 299 rfl) ?_
      obtain ⟨c4, h⟩ := mj_ck_some h
      obtain ⟨m5, em5, h⟩ := mj_mw_some h
      refine ml_iast c4 (mj_dt dt_X9_item 300 rfl) ?_
      refine ml_eqm (M1 := (mj_fin m5)) (by rw [em5] <;> rfl) ?_
      refine mj_go_iconst (v := 0) rfl (mj_dt dt_X9_item 301 rfl) ?_
      refine mj_go_istore (i := 9) (by decide) (mj_dt dt_X9_item 302 rfl) ?_
      refine mj_go_sub (lv' := [(0, .ref 95), (7, .int v7), (8, .int v8), (9, .int 0), (10, .int v10)]) (List.forall_mem_cons.mpr ⟨rfl, (List.forall_mem_cons.mpr ⟨rfl, (List.forall_mem_cons.mpr ⟨rfl, (List.forall_mem_cons.mpr ⟨rfl, (List.forall_mem_cons.mpr ⟨rfl, (fun _ h9 => absurd h9 List.not_mem_nil)⟩)⟩)⟩)⟩)⟩) ?_
      exact k_X9_item_550 q_396 hδ h
    · rw [if_pos b3] at h
      refine mj_go_aload_n (k := 0) (x := 95) rfl (mj_dt dt_X9_item 286 rfl) ?_
      refine ml_getR (c := 9) (k := 21) (q := 106) fd_9_21 rf_95_21 (Or.inl fl_X9_56) ho_95 (mj_dt dt_X9_item 287 rfl) ?_
      refine mj_go_iload (i := 7) (x := v7) rfl (mj_dt dt_X9_item 288 rfl) ?_
      refine mj_go_aload_n (k := 0) (x := 95) rfl (mj_dt dt_X9_item 289 rfl) ?_
      refine mk_getI (c := 9) (k := 36) (Or.inl fd_9_36) (Or.inl fl_X9_188) ho_95 (mj_dt dt_X9_item 290 rfl) ?_
      obtain ⟨c4, h⟩ := mj_ck_some h
      obtain ⟨m5, em5, h⟩ := mj_mw_some h
      refine ml_iast c4 (mj_dt dt_X9_item 291 rfl) ?_
      refine ml_eqm (M1 := (mj_fin m5)) (by rw [em5] <;> rfl) ?_
      refine mj_go_iconst (v := 1) rfl (mj_dt dt_X9_item 292 rfl) ?_
      refine mj_go_istore (i := 8) (by decide) (mj_dt dt_X9_item 293 rfl) ?_
      refine mj_go_goto (tgt := 550) rfl (mj_dt dt_X9_item 294 rfl) ?_
      refine mj_go_sub (lv' := [(0, .ref 95), (7, .int v7), (8, .int 1), (9, .int v9), (10, .int v10)]) (List.forall_mem_cons.mpr ⟨rfl, (List.forall_mem_cons.mpr ⟨rfl, (List.forall_mem_cons.mpr ⟨rfl, (List.forall_mem_cons.mpr ⟨rfl, (List.forall_mem_cons.mpr ⟨rfl, (fun _ h9 => absurd h9 List.not_mem_nil)⟩)⟩)⟩)⟩)⟩) ?_
      exact k_X9_item_550 q_396 hδ h
  · rw [if_pos b2] at h
    refine mj_go_iconst (v := 0) rfl (mj_dt dt_X9_item 281 rfl) ?_
    obtain rfl := Option.some.inj h
    exact mj_go_ret (v := some (.int 0)) (Nat.le_of_ble_eq_true rfl) (mj_retZ (mj_dt dt_X9_item 282 rfl) rfl rfl)
def f_X9_item_466 (N : Nat) (k_396 : Int32 × Int32 × Int32 × mj_m → Option (Int32 × mj_m)) (v7 : Int32) (v8 : Int32) (v9 : Int32) (v10 : Int32) (s1 : Int32) (m : mj_m) : Option (Int32 × mj_m) := (f_X9_word N s1 7 m).bind (fun r1 => if r1.1 = (-1 : Int32) then (some (0, r1.2)) else (if r1.1 = 6 then (f_X9_item_503 N k_396 v7 v8 v9 v10 r1.1 0 ((r1.2.1 95 0) - 1) r1.2) else (f_X9_item_503 N k_396 v7 v8 v9 v10 r1.1 0 (v7 - 1) r1.2)))
theorem k_X9_item_466 {L : Nat} {xs : Nat → Int32} {δ N : Nat} {v7 : Int32} {v8 : Int32} {v9 : Int32} {v10 : Int32} {s1 : Int32} {m : mj_m} {k_396 : Int32 × Int32 × Int32 × mj_m → Option (Int32 × mj_m)} (q_396 : ∀ (s_ : Int32 × Int32 × Int32 × mj_m) (a_ : Int32 × mj_m), k_396 s_ = some a_ → mj_Go (mj_EX L xs) (δ + 1) mY_X9_item 396 [(0, .ref 95), (7, .int v7), (8, .int s_.1), (9, .int s_.2.1), (10, .int s_.2.2.1)] [] (mj_fin s_.2.2.2) (some (.int a_.1), (mj_fin a_.2))) (hδ : 2 ≤ δ) {a : Int32 × mj_m} (h : f_X9_item_466 N k_396 v7 v8 v9 v10 s1 m = some a) : mj_Go (mj_EX L xs) (δ + 1) mY_X9_item 466 [(0, .ref 95), (7, .int v7), (8, .int v8), (9, .int v9), (10, .int v10)] [.int s1, .ref 95] (mj_fin m) (some (.int a.1), (mj_fin a.2)) := by
  unfold f_X9_item_466 at h
  refine mj_go_bipush (v := 7) rfl (mj_dt dt_X9_item 257 rfl) ?_
  obtain ⟨r1, er1, h⟩ := mj_bind_some h
  refine ml_callV (Y' := mY_X9_word) (as := [.int s1, .int 7]) (rest := []) (c := 9) (v := (some (.int r1.1))) (M1 := (mj_fin r1.2)) ho_95 rfl lm_X9_208 wc_X9_word pl_X9_word ok_X9_word rfl rfl (Nat.le_of_ble_eq_true rfl) (k_X9_word (by omega) er1) (mj_dt dt_X9_item 258 rfl) ?_
  refine mj_go_istore (i := 11) (by decide) (mj_dt dt_X9_item 259 rfl) ?_
  refine mj_go_iload (i := 11) (x := r1.1) rfl (mj_dt dt_X9_item 260 rfl) ?_
  refine mj_go_iconst (v := -1) rfl (mj_dt dt_X9_item 261 rfl) ?_
  refine mj_go_icmp_ne (tgt := 481) rfl (mj_dt dt_X9_item 262 rfl) (fun b2 => ?_) (fun b2 => ?_)
  · rw [if_neg b2] at h
    refine mj_go_aload_n (k := 0) (x := 95) rfl (mj_dt dt_X9_item 265 rfl) ?_
    refine mj_go_iconst (v := 0) rfl (mj_dt dt_X9_item 266 rfl) ?_
    refine mj_go_iload (i := 11) (x := r1.1) rfl (mj_dt dt_X9_item 267 rfl) ?_
    refine mj_go_bipush (v := 6) rfl (mj_dt dt_X9_item 268 rfl) ?_
    refine mj_go_icmp_ne (tgt := 499) rfl (mj_dt dt_X9_item 269 rfl) (fun b3 => ?_) (fun b3 => ?_)
    · rw [if_neg b3] at h
      refine mj_go_iload (i := 7) (x := v7) rfl (mj_dt dt_X9_item 275 rfl) ?_
      refine mj_go_iconst (v := 1) rfl (mj_dt dt_X9_item 276 rfl) ?_
      refine mj_go_isub (mj_dt dt_X9_item 277 rfl) ?_
      refine mj_go_sub (lv' := [(0, .ref 95), (7, .int v7), (8, .int v8), (9, .int v9), (10, .int v10), (11, .int r1.1)]) (List.forall_mem_cons.mpr ⟨rfl, (List.forall_mem_cons.mpr ⟨rfl, (List.forall_mem_cons.mpr ⟨rfl, (List.forall_mem_cons.mpr ⟨rfl, (List.forall_mem_cons.mpr ⟨rfl, (List.forall_mem_cons.mpr ⟨rfl, (fun _ h9 => absurd h9 List.not_mem_nil)⟩)⟩)⟩)⟩)⟩)⟩) ?_
      exact k_X9_item_503 q_396 hδ h
    · rw [if_pos b3] at h
      refine mj_go_aload_n (k := 0) (x := 95) rfl (mj_dt dt_X9_item 270 rfl) ?_
      refine mk_getI (c := 9) (k := 0) (Or.inl fd_9_0) (Or.inl fl_X9_149) ho_95 (mj_dt dt_X9_item 271 rfl) ?_
      refine mj_go_iconst (v := 1) rfl (mj_dt dt_X9_item 272 rfl) ?_
      refine mj_go_isub (mj_dt dt_X9_item 273 rfl) ?_
      refine mj_go_goto (tgt := 503) rfl (mj_dt dt_X9_item 274 rfl) ?_
      refine mj_go_sub (lv' := [(0, .ref 95), (7, .int v7), (8, .int v8), (9, .int v9), (10, .int v10), (11, .int r1.1)]) (List.forall_mem_cons.mpr ⟨rfl, (List.forall_mem_cons.mpr ⟨rfl, (List.forall_mem_cons.mpr ⟨rfl, (List.forall_mem_cons.mpr ⟨rfl, (List.forall_mem_cons.mpr ⟨rfl, (List.forall_mem_cons.mpr ⟨rfl, (fun _ h9 => absurd h9 List.not_mem_nil)⟩)⟩)⟩)⟩)⟩)⟩) ?_
      exact k_X9_item_503 q_396 hδ h
  · rw [if_pos b2] at h
    refine mj_go_iconst (v := 0) rfl (mj_dt dt_X9_item 263 rfl) ?_
    obtain rfl := Option.some.inj h
    exact mj_go_ret (v := some (.int 0)) (Nat.le_of_ble_eq_true rfl) (mj_retZ (mj_dt dt_X9_item 264 rfl) rfl rfl)
def f_X9_item_443 (N : Nat) (k_396 : Int32 × Int32 × Int32 × mj_m → Option (Int32 × mj_m)) (v7 : Int32) (v8 : Int32) (v10 : Int32) (s0 : Int32) (m : mj_m) : Option (Int32 × mj_m) := if s0 = 0 then ((some (1, m))) else (if v8 = 0 then (f_X9_item_466 N k_396 v7 v8 s0 v10 6 m) else (f_X9_item_466 N k_396 v7 v8 s0 v10 7 m))
theorem k_X9_item_443 {L : Nat} {xs : Nat → Int32} {δ N : Nat} {v7 : Int32} {v8 : Int32} {v10 : Int32} {s0 : Int32} {m : mj_m} {k_396 : Int32 × Int32 × Int32 × mj_m → Option (Int32 × mj_m)} (q_396 : ∀ (s_ : Int32 × Int32 × Int32 × mj_m) (a_ : Int32 × mj_m), k_396 s_ = some a_ → mj_Go (mj_EX L xs) (δ + 1) mY_X9_item 396 [(0, .ref 95), (7, .int v7), (8, .int s_.1), (9, .int s_.2.1), (10, .int s_.2.2.1)] [] (mj_fin s_.2.2.2) (some (.int a_.1), (mj_fin a_.2))) (hδ : 2 ≤ δ) {a : Int32 × mj_m} (h : f_X9_item_443 N k_396 v7 v8 v10 s0 m = some a) : mj_Go (mj_EX L xs) (δ + 1) mY_X9_item 443 [(0, .ref 95), (7, .int v7), (8, .int v8), (10, .int v10)] [.int s0] (mj_fin m) (some (.int a.1), (mj_fin a.2)) := by
  unfold f_X9_item_443 at h
  refine mj_go_istore (i := 9) (by decide) (mj_dt dt_X9_item 247 rfl) ?_
  refine mj_go_iload (i := 9) (x := s0) rfl (mj_dt dt_X9_item 248 rfl) ?_
  refine mj_go_if_ne (tgt := 453) rfl (mj_dt dt_X9_item 249 rfl) (fun b1 => ?_) (fun b1 => ?_)
  · rw [if_neg b1] at h
    refine mj_go_aload_n (k := 0) (x := 95) rfl (mj_dt dt_X9_item 251 rfl) ?_
    refine mj_go_iload (i := 8) (x := v8) rfl (mj_dt dt_X9_item 252 rfl) ?_
    refine mj_go_if_eq (tgt := 464) rfl (mj_dt dt_X9_item 253 rfl) (fun b2 => ?_) (fun b2 => ?_)
    · rw [if_pos b2] at h
      refine mj_go_bipush (v := 6) rfl (mj_dt dt_X9_item 256 rfl) ?_
      refine mj_go_sub (lv' := [(0, .ref 95), (7, .int v7), (8, .int v8), (9, .int s0), (10, .int v10)]) (List.forall_mem_cons.mpr ⟨rfl, (List.forall_mem_cons.mpr ⟨rfl, (List.forall_mem_cons.mpr ⟨rfl, (List.forall_mem_cons.mpr ⟨rfl, (List.forall_mem_cons.mpr ⟨rfl, (fun _ h9 => absurd h9 List.not_mem_nil)⟩)⟩)⟩)⟩)⟩) ?_
      exact k_X9_item_466 q_396 hδ h
    · rw [if_neg b2] at h
      refine mj_go_bipush (v := 7) rfl (mj_dt dt_X9_item 254 rfl) ?_
      refine mj_go_goto (tgt := 466) rfl (mj_dt dt_X9_item 255 rfl) ?_
      refine mj_go_sub (lv' := [(0, .ref 95), (7, .int v7), (8, .int v8), (9, .int s0), (10, .int v10)]) (List.forall_mem_cons.mpr ⟨rfl, (List.forall_mem_cons.mpr ⟨rfl, (List.forall_mem_cons.mpr ⟨rfl, (List.forall_mem_cons.mpr ⟨rfl, (List.forall_mem_cons.mpr ⟨rfl, (fun _ h9 => absurd h9 List.not_mem_nil)⟩)⟩)⟩)⟩)⟩) ?_
      exact k_X9_item_466 q_396 hδ h
  · rw [if_pos b1] at h
    refine mj_go_goto (tgt := 556) rfl (mj_dt dt_X9_item 250 rfl) ?_
    refine mj_go_iconst (v := 1) rfl (mj_dt dt_X9_item 305 rfl) ?_
    obtain rfl := Option.some.inj h
    exact mj_go_ret (v := some (.int 1)) (Nat.le_of_ble_eq_true rfl) (mj_retZ (mj_dt dt_X9_item 306 rfl) rfl rfl)
def f_X9_item_442 (N : Nat) (k_396 : Int32 × Int32 × Int32 × mj_m → Option (Int32 × mj_m)) (v7 : Int32) (v8 : Int32) (v10 : Int32) (m : mj_m) : Option (Int32 × mj_m) := f_X9_item_443 N k_396 v7 v8 v10 0 m
theorem k_X9_item_442 {L : Nat} {xs : Nat → Int32} {δ N : Nat} {v7 : Int32} {v8 : Int32} {v10 : Int32} {m : mj_m} {k_396 : Int32 × Int32 × Int32 × mj_m → Option (Int32 × mj_m)} (q_396 : ∀ (s_ : Int32 × Int32 × Int32 × mj_m) (a_ : Int32 × mj_m), k_396 s_ = some a_ → mj_Go (mj_EX L xs) (δ + 1) mY_X9_item 396 [(0, .ref 95), (7, .int v7), (8, .int s_.1), (9, .int s_.2.1), (10, .int s_.2.2.1)] [] (mj_fin s_.2.2.2) (some (.int a_.1), (mj_fin a_.2))) (hδ : 2 ≤ δ) {a : Int32 × mj_m} (h : f_X9_item_442 N k_396 v7 v8 v10 m = some a) : mj_Go (mj_EX L xs) (δ + 1) mY_X9_item 442 [(0, .ref 95), (7, .int v7), (8, .int v8), (10, .int v10)] [] (mj_fin m) (some (.int a.1), (mj_fin a.2)) := by
  unfold f_X9_item_442 at h
  refine mj_go_iconst (v := 0) rfl (mj_dt dt_X9_item 246 rfl) ?_
  refine mj_go_sub (lv' := [(0, .ref 95), (7, .int v7), (8, .int v8), (10, .int v10)]) (List.forall_mem_cons.mpr ⟨rfl, (List.forall_mem_cons.mpr ⟨rfl, (List.forall_mem_cons.mpr ⟨rfl, (List.forall_mem_cons.mpr ⟨rfl, (fun _ h9 => absurd h9 List.not_mem_nil)⟩)⟩)⟩)⟩) ?_
  exact k_X9_item_443 q_396 hδ h
def f_X9_item_396 (N : Nat) (v7 : Int32) (k_396 : Int32 × Int32 × Int32 × mj_m → Option (Int32 × mj_m)) (s : Int32 × Int32 × Int32 × mj_m) : Option (Int32 × mj_m) := if 2 ≤ s.2.2.1 then (some (1, s.2.2.2)) else (if s.2.1 = 0 then (some (1, s.2.2.2)) else (if (s.2.2.2.1 95 35) ≤ (s.2.2.2.1 95 34) then f_X9_item_442 N k_396 v7 s.1 s.2.2.1 s.2.2.2 else (mj_ck (mj_b 1 115 ((s.2.2.2.1 95 33) + (s.2.2.2.1 95 34))) ( if ((s.2.2.2.2 115 ((s.2.2.2.1 95 33) + (s.2.2.2.1 95 34)).toNatClampNeg).toInt32) = 32 then (f_X9_item_443 N k_396 v7 s.1 s.2.2.1 1 s.2.2.2) else f_X9_item_442 N k_396 v7 s.1 s.2.2.1 s.2.2.2))))
theorem k_X9_item_396 {L : Nat} {xs : Nat → Int32} {δ N : Nat} {v7 : Int32} (hδ : 2 ≤ δ) : ∀ (n : Nat) (s : Int32 × Int32 × Int32 × mj_m) (a : Int32 × mj_m), mj_lp n (f_X9_item_396 N v7) s = some a → mj_Go (mj_EX L xs) (δ + 1) mY_X9_item 396 [(0, .ref 95), (7, .int v7), (8, .int s.1), (9, .int s.2.1), (10, .int s.2.2.1)] [] (mj_fin s.2.2.2) (some (.int a.1), (mj_fin a.2)) := by
  refine mj_lp_sound (fun k_396 s a q_396 h => ?_)
  unfold f_X9_item_396 at h
  refine mj_go_iload (i := 10) (x := s.2.2.1) rfl (mj_dt dt_X9_item 223 rfl) ?_
  refine mj_go_iconst (v := 2) rfl (mj_dt dt_X9_item 224 rfl) ?_
  refine mj_go_icmp_ge (tgt := 556) rfl (mj_dt dt_X9_item 225 rfl) (fun b1 => ?_) (fun b1 => ?_)
  · rw [if_pos b1] at h
    refine mj_go_iconst (v := 1) rfl (mj_dt dt_X9_item 305 rfl) ?_
    obtain rfl := Option.some.inj h
    exact mj_go_ret (v := some (.int 1)) (Nat.le_of_ble_eq_true rfl) (mj_retZ (mj_dt dt_X9_item 306 rfl) rfl rfl)
  · rw [if_neg b1] at h
    refine mj_go_iload (i := 9) (x := s.2.1) rfl (mj_dt dt_X9_item 226 rfl) ?_
    refine mj_go_if_eq (tgt := 556) rfl (mj_dt dt_X9_item 227 rfl) (fun b2 => ?_) (fun b2 => ?_)
    · rw [if_pos b2] at h
      refine mj_go_iconst (v := 1) rfl (mj_dt dt_X9_item 305 rfl) ?_
      obtain rfl := Option.some.inj h
      exact mj_go_ret (v := some (.int 1)) (Nat.le_of_ble_eq_true rfl) (mj_retZ (mj_dt dt_X9_item 306 rfl) rfl rfl)
    · rw [if_neg b2] at h
      refine mj_go_aload_n (k := 0) (x := 95) rfl (mj_dt dt_X9_item 228 rfl) ?_
      refine mk_getI (c := 9) (k := 34) (Or.inl fd_9_34) (Or.inl fl_X9_179) ho_95 (mj_dt dt_X9_item 229 rfl) ?_
      refine mj_go_aload_n (k := 0) (x := 95) rfl (mj_dt dt_X9_item 230 rfl) ?_
      refine mk_getI (c := 9) (k := 35) (Or.inl fd_9_35) (Or.inl fl_X9_182) ho_95 (mj_dt dt_X9_item 231 rfl) ?_
      refine mj_go_icmp_ge (tgt := 442) rfl (mj_dt dt_X9_item 232 rfl) (fun b3 => ?_) (fun b3 => ?_)
      · rw [if_pos b3] at h
        refine mj_go_sub (lv' := [(0, .ref 95), (7, .int v7), (8, .int s.1), (10, .int s.2.2.1)]) (List.forall_mem_cons.mpr ⟨rfl, (List.forall_mem_cons.mpr ⟨rfl, (List.forall_mem_cons.mpr ⟨rfl, (List.forall_mem_cons.mpr ⟨rfl, (fun _ h9 => absurd h9 List.not_mem_nil)⟩)⟩)⟩)⟩) ?_
        exact k_X9_item_442 q_396 hδ h
      · rw [if_neg b3] at h
        refine mj_go_aload_n (k := 0) (x := 95) rfl (mj_dt dt_X9_item 233 rfl) ?_
        refine ml_getR (c := 9) (k := 30) (q := 115) fd_9_30 rf_95_30 (Or.inl fl_X9_83) ho_95 (mj_dt dt_X9_item 234 rfl) ?_
        refine mj_go_aload_n (k := 0) (x := 95) rfl (mj_dt dt_X9_item 235 rfl) ?_
        refine mk_getI (c := 9) (k := 33) (Or.inl fd_9_33) (Or.inl fl_X9_185) ho_95 (mj_dt dt_X9_item 236 rfl) ?_
        refine mj_go_aload_n (k := 0) (x := 95) rfl (mj_dt dt_X9_item 237 rfl) ?_
        refine mk_getI (c := 9) (k := 34) (Or.inl fd_9_34) (Or.inl fl_X9_179) ho_95 (mj_dt dt_X9_item 238 rfl) ?_
        refine mj_go_iadd (mj_dt dt_X9_item 239 rfl) ?_
        obtain ⟨c4, h⟩ := mj_ck_some h
        refine mk_lald c4 (mj_dt dt_X9_item 240 rfl) ?_
        refine mj_go_l2i (mj_dt dt_X9_item 241 rfl) ?_
        refine mj_go_bipush (v := 32) rfl (mj_dt dt_X9_item 242 rfl) ?_
        refine mj_go_icmp_ne (tgt := 442) rfl (mj_dt dt_X9_item 243 rfl) (fun b5 => ?_) (fun b5 => ?_)
        · rw [if_neg b5] at h
          refine mj_go_sub (lv' := [(0, .ref 95), (7, .int v7), (8, .int s.1), (10, .int s.2.2.1)]) (List.forall_mem_cons.mpr ⟨rfl, (List.forall_mem_cons.mpr ⟨rfl, (List.forall_mem_cons.mpr ⟨rfl, (List.forall_mem_cons.mpr ⟨rfl, (fun _ h9 => absurd h9 List.not_mem_nil)⟩)⟩)⟩)⟩) ?_
          exact k_X9_item_442 q_396 hδ h
        · rw [if_pos b5] at h
          refine mj_go_iconst (v := 1) rfl (mj_dt dt_X9_item 244 rfl) ?_
          refine mj_go_goto (tgt := 443) rfl (mj_dt dt_X9_item 245 rfl) ?_
          refine mj_go_sub (lv' := [(0, .ref 95), (7, .int v7), (8, .int s.1), (10, .int s.2.2.1)]) (List.forall_mem_cons.mpr ⟨rfl, (List.forall_mem_cons.mpr ⟨rfl, (List.forall_mem_cons.mpr ⟨rfl, (List.forall_mem_cons.mpr ⟨rfl, (fun _ h9 => absurd h9 List.not_mem_nil)⟩)⟩)⟩)⟩) ?_
          exact k_X9_item_443 q_396 hδ h
def f_X9_item_230 (N : Nat) (v2 : Int32) (s1 : Int32) (s2 : Int32) (m : mj_m) : Option (Int32 × mj_m) := (f_X9_number N s1 s2 (-1 : Int32) m).bind (fun r1 => if r1.1 = 0 then (some (0, r1.2)) else (if v2 = 3 then (mj_mw (mj_wI r1.2 95 3 (r1.2.1 95 36)) (fun m4 => (some (1, m4)))) else (if v2 = 4 then (mj_mw (mj_wI r1.2 95 4 (r1.2.1 95 36)) (fun m5 => (some (1, m5)))) else (mj_mw (mj_wI r1.2 95 5 (r1.2.1 95 36)) (fun m5 => (some (1, m5)))))))
theorem k_X9_item_230 {L : Nat} {xs : Nat → Int32} {δ N : Nat} {v2 : Int32} {s1 : Int32} {s2 : Int32} {m : mj_m} (hδ : 2 ≤ δ) {a : Int32 × mj_m} (h : f_X9_item_230 N v2 s1 s2 m = some a) : mj_Go (mj_EX L xs) (δ + 1) mY_X9_item 230 [(0, .ref 95), (2, .int v2)] [.int s2, .int s1, .ref 95] (mj_fin m) (some (.int a.1), (mj_fin a.2)) := by
  unfold f_X9_item_230 at h
  refine mj_go_iconst (v := -1) rfl (mj_dt dt_X9_item 130 rfl) ?_
  obtain ⟨r1, er1, h⟩ := mj_bind_some h
  refine ml_callV (Y' := mY_X9_number) (as := [.int s1, .int s2, .int (-1 : Int32)]) (rest := []) (c := 9) (v := (some (.int r1.1))) (M1 := (mj_fin r1.2)) ho_95 rfl lm_X9_198 wc_X9_number pl_X9_number ok_X9_number rfl rfl (Nat.le_of_ble_eq_true rfl) (k_X9_number (by omega) er1) (mj_dt dt_X9_item 131 rfl) ?_
  refine mj_go_if_ne (tgt := 239) rfl (mj_dt dt_X9_item 132 rfl) (fun b2 => ?_) (fun b2 => ?_)
  · rw [if_neg b2] at h
    refine mj_go_iload_n (k := 2) (x := v2) rfl (mj_dt dt_X9_item 135 rfl) ?_
    refine mj_go_iconst (v := 3) rfl (mj_dt dt_X9_item 136 rfl) ?_
    refine mj_go_icmp_ne (tgt := 255) rfl (mj_dt dt_X9_item 137 rfl) (fun b3 => ?_) (fun b3 => ?_)
    · rw [if_neg b3] at h
      refine mj_go_iload_n (k := 2) (x := v2) rfl (mj_dt dt_X9_item 143 rfl) ?_
      refine mj_go_iconst (v := 4) rfl (mj_dt dt_X9_item 144 rfl) ?_
      refine mj_go_icmp_ne (tgt := 271) rfl (mj_dt dt_X9_item 145 rfl) (fun b4 => ?_) (fun b4 => ?_)
      · rw [if_neg b4] at h
        refine mj_go_aload_n (k := 0) (x := 95) rfl (mj_dt dt_X9_item 151 rfl) ?_
        refine mj_go_aload_n (k := 0) (x := 95) rfl (mj_dt dt_X9_item 152 rfl) ?_
        refine mk_getI (c := 9) (k := 36) (Or.inl fd_9_36) (Or.inl fl_X9_188) ho_95 (mj_dt dt_X9_item 153 rfl) ?_
        obtain ⟨m5, em5, h⟩ := mj_mw_some h
        refine ml_putI (c := 9) (k := 5) fd_9_5 rfl fl_X9_16 ho_95 (mj_dt dt_X9_item 154 rfl) ?_
        refine ml_eqm (M1 := (mj_fin m5)) (by rw [em5] <;> rfl) ?_
        refine mj_go_goto (tgt := 556) rfl (mj_dt dt_X9_item 155 rfl) ?_
        refine mj_go_iconst (v := 1) rfl (mj_dt dt_X9_item 305 rfl) ?_
        obtain rfl := Option.some.inj h
        exact mj_go_ret (v := some (.int 1)) (Nat.le_of_ble_eq_true rfl) (mj_retZ (mj_dt dt_X9_item 306 rfl) rfl rfl)
      · rw [if_pos b4] at h
        refine mj_go_aload_n (k := 0) (x := 95) rfl (mj_dt dt_X9_item 146 rfl) ?_
        refine mj_go_aload_n (k := 0) (x := 95) rfl (mj_dt dt_X9_item 147 rfl) ?_
        refine mk_getI (c := 9) (k := 36) (Or.inl fd_9_36) (Or.inl fl_X9_188) ho_95 (mj_dt dt_X9_item 148 rfl) ?_
        obtain ⟨m5, em5, h⟩ := mj_mw_some h
        refine ml_putI (c := 9) (k := 4) fd_9_4 rfl fl_X9_13 ho_95 (mj_dt dt_X9_item 149 rfl) ?_
        refine ml_eqm (M1 := (mj_fin m5)) (by rw [em5] <;> rfl) ?_
        refine mj_go_goto (tgt := 556) rfl (mj_dt dt_X9_item 150 rfl) ?_
        refine mj_go_iconst (v := 1) rfl (mj_dt dt_X9_item 305 rfl) ?_
        obtain rfl := Option.some.inj h
        exact mj_go_ret (v := some (.int 1)) (Nat.le_of_ble_eq_true rfl) (mj_retZ (mj_dt dt_X9_item 306 rfl) rfl rfl)
    · rw [if_pos b3] at h
      refine mj_go_aload_n (k := 0) (x := 95) rfl (mj_dt dt_X9_item 138 rfl) ?_
      refine mj_go_aload_n (k := 0) (x := 95) rfl (mj_dt dt_X9_item 139 rfl) ?_
      refine mk_getI (c := 9) (k := 36) (Or.inl fd_9_36) (Or.inl fl_X9_188) ho_95 (mj_dt dt_X9_item 140 rfl) ?_
      obtain ⟨m4, em4, h⟩ := mj_mw_some h
      refine ml_putI (c := 9) (k := 3) fd_9_3 rfl fl_X9_7 ho_95 (mj_dt dt_X9_item 141 rfl) ?_
      refine ml_eqm (M1 := (mj_fin m4)) (by rw [em4] <;> rfl) ?_
      refine mj_go_goto (tgt := 556) rfl (mj_dt dt_X9_item 142 rfl) ?_
      refine mj_go_iconst (v := 1) rfl (mj_dt dt_X9_item 305 rfl) ?_
      obtain rfl := Option.some.inj h
      exact mj_go_ret (v := some (.int 1)) (Nat.le_of_ble_eq_true rfl) (mj_retZ (mj_dt dt_X9_item 306 rfl) rfl rfl)
  · rw [if_pos b2] at h
    refine mj_go_iconst (v := 0) rfl (mj_dt dt_X9_item 133 rfl) ?_
    obtain rfl := Option.some.inj h
    exact mj_go_ret (v := some (.int 0)) (Nat.le_of_ble_eq_true rfl) (mj_retZ (mj_dt dt_X9_item 134 rfl) rfl rfl)
def f_X9_item_217 (N : Nat) (v2 : Int32) (s1 : Int32) (m : mj_m) : Option (Int32 × mj_m) := if v2 = 3 then (f_X9_item_230 N v2 s1 999 m) else (f_X9_item_230 N v2 s1 10 m)
theorem k_X9_item_217 {L : Nat} {xs : Nat → Int32} {δ N : Nat} {v2 : Int32} {s1 : Int32} {m : mj_m} (hδ : 2 ≤ δ) {a : Int32 × mj_m} (h : f_X9_item_217 N v2 s1 m = some a) : mj_Go (mj_EX L xs) (δ + 1) mY_X9_item 217 [(0, .ref 95), (2, .int v2)] [.int s1, .ref 95] (mj_fin m) (some (.int a.1), (mj_fin a.2)) := by
  unfold f_X9_item_217 at h
  refine mj_go_iload_n (k := 2) (x := v2) rfl (mj_dt dt_X9_item 124 rfl) ?_
  refine mj_go_iconst (v := 3) rfl (mj_dt dt_X9_item 125 rfl) ?_
  refine mj_go_icmp_ne (tgt := 228) rfl (mj_dt dt_X9_item 126 rfl) (fun b1 => ?_) (fun b1 => ?_)
  · rw [if_neg b1] at h
    refine mj_go_bipush (v := 10) rfl (mj_dt dt_X9_item 129 rfl) ?_
    refine mj_go_sub (lv' := [(0, .ref 95), (2, .int v2)]) (List.forall_mem_cons.mpr ⟨rfl, (List.forall_mem_cons.mpr ⟨rfl, (fun _ h9 => absurd h9 List.not_mem_nil)⟩)⟩) ?_
    exact k_X9_item_230 hδ h
  · rw [if_pos b1] at h
    refine mj_go_sipush (v := 999) rfl (mj_dt dt_X9_item 127 rfl) ?_
    refine mj_go_goto (tgt := 230) rfl (mj_dt dt_X9_item 128 rfl) ?_
    refine mj_go_sub (lv' := [(0, .ref 95), (2, .int v2)]) (List.forall_mem_cons.mpr ⟨rfl, (List.forall_mem_cons.mpr ⟨rfl, (fun _ h9 => absurd h9 List.not_mem_nil)⟩)⟩) ?_
    exact k_X9_item_230 hδ h
def f_X9_item_104 (N : Nat) (v2 : Int32) (m : mj_m) : Option (Int32 × mj_m) := if v2 = 0 then ((f_X9_number N 0 7 (-1 : Int32) m).bind (fun r2 => if r2.1 = 0 then (some (0, r2.2)) else (mj_mw (r2.2.1 95 36) (fun x4 => (f_X9_more N 0 7 x4 r2.2).bind (fun r5 => if r5.1 = 0 then (some (0, r5.2)) else ((f_X9_streets N x4 (r5.2.1 95 36) r5.2).bind (fun r7 => (some (1, r7.2))))))))) else (if v2 = 2 then ((f_X9_number N 0 99 (-1 : Int32) m).bind (fun r3 => if r3.1 = 0 then (some (0, r3.2)) else (mj_mw (r3.2.1 95 36) (fun x5 => (f_X9_more N 0 9 (-1 : Int32) r3.2).bind (fun r6 => if r6.1 = 0 then (some (0, r6.2)) else ((f_X9_shakes N x5 (r6.2.1 95 36) r6.2).bind (fun r8 => (some (1, r8.2))))))))) else (if v2 ≤ 2 then ((f_X9_number N 0 7 (-1 : Int32) m).bind (fun r4 => if r4.1 = 0 then (some (0, r4.2)) else (mj_mw (r4.2.1 95 36) (fun x6 => (f_X9_more N 0 9 (-1 : Int32) r4.2).bind (fun r7 => if r7.1 = 0 then (some (0, r7.2)) else (mj_mw (r7.2.1 95 36) (fun x9 => (f_X9_more N 0 99 (-1 : Int32) r7.2).bind (fun r10 => if r10.1 = 0 then (some (0, r10.2)) else (mj_mw (r10.2.1 95 36) (fun x12 => (f_X9_more N 0 99 (-1 : Int32) r10.2).bind (fun r13 => if r13.1 = 0 then (some (0, r13.2)) else (mj_mw (r13.2.1 95 36) (fun x15 => (f_X9_more N 1 99 (-1 : Int32) r13.2).bind (fun r16 => if r16.1 = 0 then (some (0, r16.2)) else ((f_X9_comes N x6 x9 x12 x15 (r16.2.1 95 36) r16.2).bind (fun r18 => mj_lp N (f_X9_item_396 N r18.1) (0, 1, 0, r18.2))))))))))))))))) else (if v2 = 3 then (f_X9_item_217 N v2 1 m) else (f_X9_item_217 N v2 0 m))))
theorem k_X9_item_104 {L : Nat} {xs : Nat → Int32} {δ N : Nat} {v2 : Int32} {m : mj_m} (hδ : 2 ≤ δ) {a : Int32 × mj_m} (h : f_X9_item_104 N v2 m = some a) : mj_Go (mj_EX L xs) (δ + 1) mY_X9_item 104 [(0, .ref 95), (2, .int v2)] [] (mj_fin m) (some (.int a.1), (mj_fin a.2)) := by
  unfold f_X9_item_104 at h
  refine mj_go_iload_n (k := 2) (x := v2) rfl (mj_dt dt_X9_item 57 rfl) ?_
  refine mj_go_if_ne (tgt := 152) rfl (mj_dt dt_X9_item 58 rfl) (fun b1 => ?_) (fun b1 => ?_)
  · rw [if_neg b1] at h
    refine mj_go_iload_n (k := 2) (x := v2) rfl (mj_dt dt_X9_item 85 rfl) ?_
    refine mj_go_iconst (v := 2) rfl (mj_dt dt_X9_item 86 rfl) ?_
    refine mj_go_icmp_ne (tgt := 201) rfl (mj_dt dt_X9_item 87 rfl) (fun b2 => ?_) (fun b2 => ?_)
    · rw [if_neg b2] at h
      refine mj_go_iload_n (k := 2) (x := v2) rfl (mj_dt dt_X9_item 114 rfl) ?_
      refine mj_go_iconst (v := 2) rfl (mj_dt dt_X9_item 115 rfl) ?_
      refine mj_go_icmp_le (tgt := 282) rfl (mj_dt dt_X9_item 116 rfl) (fun b3 => ?_) (fun b3 => ?_)
      · rw [if_pos b3] at h
        refine mj_go_aload_n (k := 0) (x := 95) rfl (mj_dt dt_X9_item 156 rfl) ?_
        refine mj_go_iconst (v := 0) rfl (mj_dt dt_X9_item 157 rfl) ?_
        refine mj_go_bipush (v := 7) rfl (mj_dt dt_X9_item 158 rfl) ?_
        refine mj_go_iconst (v := -1) rfl (mj_dt dt_X9_item 159 rfl) ?_
        obtain ⟨r4, er4, h⟩ := mj_bind_some h
        refine ml_callV (Y' := mY_X9_number) (as := [.int 0, .int 7, .int (-1 : Int32)]) (rest := []) (c := 9) (v := (some (.int r4.1))) (M1 := (mj_fin r4.2)) ho_95 rfl lm_X9_198 wc_X9_number pl_X9_number ok_X9_number rfl rfl (Nat.le_of_ble_eq_true rfl) (k_X9_number (by omega) er4) (mj_dt dt_X9_item 160 rfl) ?_
        refine mj_go_if_ne (tgt := 295) rfl (mj_dt dt_X9_item 161 rfl) (fun b5 => ?_) (fun b5 => ?_)
        · rw [if_neg b5] at h
          refine mj_go_aload_n (k := 0) (x := 95) rfl (mj_dt dt_X9_item 164 rfl) ?_
          refine mk_getI (c := 9) (k := 36) (Or.inl fd_9_36) (Or.inl fl_X9_188) ho_95 (mj_dt dt_X9_item 165 rfl) ?_
          obtain ⟨x6, ex6, h⟩ := mj_mw_some h
          refine ml_eqi ex6 ?_
          refine mj_go_istore_n (k := 3) (by decide) (mj_dt dt_X9_item 166 rfl) ?_
          refine mj_go_aload_n (k := 0) (x := 95) rfl (mj_dt dt_X9_item 167 rfl) ?_
          refine mj_go_iconst (v := 0) rfl (mj_dt dt_X9_item 168 rfl) ?_
          refine mj_go_bipush (v := 9) rfl (mj_dt dt_X9_item 169 rfl) ?_
          refine mj_go_iconst (v := -1) rfl (mj_dt dt_X9_item 170 rfl) ?_
          obtain ⟨r7, er7, h⟩ := mj_bind_some h
          refine ml_callV (Y' := mY_X9_more) (as := [.int 0, .int 9, .int (-1 : Int32)]) (rest := []) (c := 9) (v := (some (.int r7.1))) (M1 := (mj_fin r7.2)) ho_95 rfl lm_X9_211 wc_X9_more pl_X9_more ok_X9_more rfl rfl (Nat.le_of_ble_eq_true rfl) (k_X9_more (by omega) er7) (mj_dt dt_X9_item 171 rfl) ?_
          refine mj_go_if_ne (tgt := 313) rfl (mj_dt dt_X9_item 172 rfl) (fun b8 => ?_) (fun b8 => ?_)
          · rw [if_neg b8] at h
            refine mj_go_aload_n (k := 0) (x := 95) rfl (mj_dt dt_X9_item 175 rfl) ?_
            refine mk_getI (c := 9) (k := 36) (Or.inl fd_9_36) (Or.inl fl_X9_188) ho_95 (mj_dt dt_X9_item 176 rfl) ?_
            obtain ⟨x9, ex9, h⟩ := mj_mw_some h
            refine ml_eqi ex9 ?_
            refine mj_go_istore (i := 4) (by decide) (mj_dt dt_X9_item 177 rfl) ?_
            refine mj_go_aload_n (k := 0) (x := 95) rfl (mj_dt dt_X9_item 178 rfl) ?_
            refine mj_go_iconst (v := 0) rfl (mj_dt dt_X9_item 179 rfl) ?_
            refine mj_go_bipush (v := 99) rfl (mj_dt dt_X9_item 180 rfl) ?_
            refine mj_go_iconst (v := -1) rfl (mj_dt dt_X9_item 181 rfl) ?_
            obtain ⟨r10, er10, h⟩ := mj_bind_some h
            refine ml_callV (Y' := mY_X9_more) (as := [.int 0, .int 99, .int (-1 : Int32)]) (rest := []) (c := 9) (v := (some (.int r10.1))) (M1 := (mj_fin r10.2)) ho_95 rfl lm_X9_211 wc_X9_more pl_X9_more ok_X9_more rfl rfl (Nat.le_of_ble_eq_true rfl) (k_X9_more (by omega) er10) (mj_dt dt_X9_item 182 rfl) ?_
            refine mj_go_if_ne (tgt := 332) rfl (mj_dt dt_X9_item 183 rfl) (fun b11 => ?_) (fun b11 => ?_)
            · rw [if_neg b11] at h
              refine mj_go_aload_n (k := 0) (x := 95) rfl (mj_dt dt_X9_item 186 rfl) ?_
              refine mk_getI (c := 9) (k := 36) (Or.inl fd_9_36) (Or.inl fl_X9_188) ho_95 (mj_dt dt_X9_item 187 rfl) ?_
              obtain ⟨x12, ex12, h⟩ := mj_mw_some h
              refine ml_eqi ex12 ?_
              refine mj_go_istore (i := 5) (by decide) (mj_dt dt_X9_item 188 rfl) ?_
              refine mj_go_aload_n (k := 0) (x := 95) rfl (mj_dt dt_X9_item 189 rfl) ?_
              refine mj_go_iconst (v := 0) rfl (mj_dt dt_X9_item 190 rfl) ?_
              refine mj_go_bipush (v := 99) rfl (mj_dt dt_X9_item 191 rfl) ?_
              refine mj_go_iconst (v := -1) rfl (mj_dt dt_X9_item 192 rfl) ?_
              obtain ⟨r13, er13, h⟩ := mj_bind_some h
              refine ml_callV (Y' := mY_X9_more) (as := [.int 0, .int 99, .int (-1 : Int32)]) (rest := []) (c := 9) (v := (some (.int r13.1))) (M1 := (mj_fin r13.2)) ho_95 rfl lm_X9_211 wc_X9_more pl_X9_more ok_X9_more rfl rfl (Nat.le_of_ble_eq_true rfl) (k_X9_more (by omega) er13) (mj_dt dt_X9_item 193 rfl) ?_
              refine mj_go_if_ne (tgt := 351) rfl (mj_dt dt_X9_item 194 rfl) (fun b14 => ?_) (fun b14 => ?_)
              · rw [if_neg b14] at h
                refine mj_go_aload_n (k := 0) (x := 95) rfl (mj_dt dt_X9_item 197 rfl) ?_
                refine mk_getI (c := 9) (k := 36) (Or.inl fd_9_36) (Or.inl fl_X9_188) ho_95 (mj_dt dt_X9_item 198 rfl) ?_
                obtain ⟨x15, ex15, h⟩ := mj_mw_some h
                refine ml_eqi ex15 ?_
                refine mj_go_istore (i := 6) (by decide) (mj_dt dt_X9_item 199 rfl) ?_
                refine mj_go_aload_n (k := 0) (x := 95) rfl (mj_dt dt_X9_item 200 rfl) ?_
                refine mj_go_iconst (v := 1) rfl (mj_dt dt_X9_item 201 rfl) ?_
                refine mj_go_bipush (v := 99) rfl (mj_dt dt_X9_item 202 rfl) ?_
                refine mj_go_iconst (v := -1) rfl (mj_dt dt_X9_item 203 rfl) ?_
                obtain ⟨r16, er16, h⟩ := mj_bind_some h
                refine ml_callV (Y' := mY_X9_more) (as := [.int 1, .int 99, .int (-1 : Int32)]) (rest := []) (c := 9) (v := (some (.int r16.1))) (M1 := (mj_fin r16.2)) ho_95 rfl lm_X9_211 wc_X9_more pl_X9_more ok_X9_more rfl rfl (Nat.le_of_ble_eq_true rfl) (k_X9_more (by omega) er16) (mj_dt dt_X9_item 204 rfl) ?_
                refine mj_go_if_ne (tgt := 370) rfl (mj_dt dt_X9_item 205 rfl) (fun b17 => ?_) (fun b17 => ?_)
                · rw [if_neg b17] at h
                  refine mj_go_aload_n (k := 0) (x := 95) rfl (mj_dt dt_X9_item 208 rfl) ?_
                  refine mj_go_iload_n (k := 3) (x := x6) rfl (mj_dt dt_X9_item 209 rfl) ?_
                  refine mj_go_iload (i := 4) (x := x9) rfl (mj_dt dt_X9_item 210 rfl) ?_
                  refine mj_go_iload (i := 5) (x := x12) rfl (mj_dt dt_X9_item 211 rfl) ?_
                  refine mj_go_iload (i := 6) (x := x15) rfl (mj_dt dt_X9_item 212 rfl) ?_
                  refine mj_go_aload_n (k := 0) (x := 95) rfl (mj_dt dt_X9_item 213 rfl) ?_
                  refine mk_getI (c := 9) (k := 36) (Or.inl fd_9_36) (Or.inl fl_X9_188) ho_95 (mj_dt dt_X9_item 214 rfl) ?_
                  obtain ⟨r18, er18, h⟩ := mj_bind_some h
                  refine ml_callV (Y' := mY_X9_comes) (as := [.int x6, .int x9, .int x12, .int x15, .int (r16.2.1 95 36)]) (rest := []) (c := 9) (v := (some (.int r18.1))) (M1 := (mj_fin r18.2)) ho_95 rfl lm_X9_161 wc_X9_comes pl_X9_comes ok_X9_comes rfl rfl (Nat.le_of_ble_eq_true rfl) (k_X9_comes (by omega) er18) (mj_dt dt_X9_item 215 rfl) ?_
                  refine mj_go_istore (i := 7) (by decide) (mj_dt dt_X9_item 216 rfl) ?_
                  refine mj_go_iconst (v := 0) rfl (mj_dt dt_X9_item 217 rfl) ?_
                  refine mj_go_istore (i := 8) (by decide) (mj_dt dt_X9_item 218 rfl) ?_
                  refine mj_go_iconst (v := 1) rfl (mj_dt dt_X9_item 219 rfl) ?_
                  refine mj_go_istore (i := 9) (by decide) (mj_dt dt_X9_item 220 rfl) ?_
                  refine mj_go_iconst (v := 0) rfl (mj_dt dt_X9_item 221 rfl) ?_
                  refine mj_go_istore (i := 10) (by decide) (mj_dt dt_X9_item 222 rfl) ?_
                  refine mj_go_sub (lv' := [(0, .ref 95), (7, .int r18.1), (8, .int 0), (9, .int 1), (10, .int 0)]) (List.forall_mem_cons.mpr ⟨rfl, (List.forall_mem_cons.mpr ⟨rfl, (List.forall_mem_cons.mpr ⟨rfl, (List.forall_mem_cons.mpr ⟨rfl, (List.forall_mem_cons.mpr ⟨rfl, (fun _ h9 => absurd h9 List.not_mem_nil)⟩)⟩)⟩)⟩)⟩) ?_
                  exact k_X9_item_396 hδ N _ _ h
                · rw [if_pos b17] at h
                  refine mj_go_iconst (v := 0) rfl (mj_dt dt_X9_item 206 rfl) ?_
                  obtain rfl := Option.some.inj h
                  exact mj_go_ret (v := some (.int 0)) (Nat.le_of_ble_eq_true rfl) (mj_retZ (mj_dt dt_X9_item 207 rfl) rfl rfl)
              · rw [if_pos b14] at h
                refine mj_go_iconst (v := 0) rfl (mj_dt dt_X9_item 195 rfl) ?_
                obtain rfl := Option.some.inj h
                exact mj_go_ret (v := some (.int 0)) (Nat.le_of_ble_eq_true rfl) (mj_retZ (mj_dt dt_X9_item 196 rfl) rfl rfl)
            · rw [if_pos b11] at h
              refine mj_go_iconst (v := 0) rfl (mj_dt dt_X9_item 184 rfl) ?_
              obtain rfl := Option.some.inj h
              exact mj_go_ret (v := some (.int 0)) (Nat.le_of_ble_eq_true rfl) (mj_retZ (mj_dt dt_X9_item 185 rfl) rfl rfl)
          · rw [if_pos b8] at h
            refine mj_go_iconst (v := 0) rfl (mj_dt dt_X9_item 173 rfl) ?_
            obtain rfl := Option.some.inj h
            exact mj_go_ret (v := some (.int 0)) (Nat.le_of_ble_eq_true rfl) (mj_retZ (mj_dt dt_X9_item 174 rfl) rfl rfl)
        · rw [if_pos b5] at h
          refine mj_go_iconst (v := 0) rfl (mj_dt dt_X9_item 162 rfl) ?_
          obtain rfl := Option.some.inj h
          exact mj_go_ret (v := some (.int 0)) (Nat.le_of_ble_eq_true rfl) (mj_retZ (mj_dt dt_X9_item 163 rfl) rfl rfl)
      · rw [if_neg b3] at h
        refine mj_go_aload_n (k := 0) (x := 95) rfl (mj_dt dt_X9_item 117 rfl) ?_
        refine mj_go_iload_n (k := 2) (x := v2) rfl (mj_dt dt_X9_item 118 rfl) ?_
        refine mj_go_iconst (v := 3) rfl (mj_dt dt_X9_item 119 rfl) ?_
        refine mj_go_icmp_ne (tgt := 216) rfl (mj_dt dt_X9_item 120 rfl) (fun b4 => ?_) (fun b4 => ?_)
        · rw [if_neg b4] at h
          refine mj_go_iconst (v := 0) rfl (mj_dt dt_X9_item 123 rfl) ?_
          refine mj_go_sub (lv' := [(0, .ref 95), (2, .int v2)]) (List.forall_mem_cons.mpr ⟨rfl, (List.forall_mem_cons.mpr ⟨rfl, (fun _ h9 => absurd h9 List.not_mem_nil)⟩)⟩) ?_
          exact k_X9_item_217 hδ h
        · rw [if_pos b4] at h
          refine mj_go_iconst (v := 1) rfl (mj_dt dt_X9_item 121 rfl) ?_
          refine mj_go_goto (tgt := 217) rfl (mj_dt dt_X9_item 122 rfl) ?_
          refine mj_go_sub (lv' := [(0, .ref 95), (2, .int v2)]) (List.forall_mem_cons.mpr ⟨rfl, (List.forall_mem_cons.mpr ⟨rfl, (fun _ h9 => absurd h9 List.not_mem_nil)⟩)⟩) ?_
          exact k_X9_item_217 hδ h
    · rw [if_pos b2] at h
      refine mj_go_aload_n (k := 0) (x := 95) rfl (mj_dt dt_X9_item 88 rfl) ?_
      refine mj_go_iconst (v := 0) rfl (mj_dt dt_X9_item 89 rfl) ?_
      refine mj_go_bipush (v := 99) rfl (mj_dt dt_X9_item 90 rfl) ?_
      refine mj_go_iconst (v := -1) rfl (mj_dt dt_X9_item 91 rfl) ?_
      obtain ⟨r3, er3, h⟩ := mj_bind_some h
      refine ml_callV (Y' := mY_X9_number) (as := [.int 0, .int 99, .int (-1 : Int32)]) (rest := []) (c := 9) (v := (some (.int r3.1))) (M1 := (mj_fin r3.2)) ho_95 rfl lm_X9_198 wc_X9_number pl_X9_number ok_X9_number rfl rfl (Nat.le_of_ble_eq_true rfl) (k_X9_number (by omega) er3) (mj_dt dt_X9_item 92 rfl) ?_
      refine mj_go_if_ne (tgt := 170) rfl (mj_dt dt_X9_item 93 rfl) (fun b4 => ?_) (fun b4 => ?_)
      · rw [if_neg b4] at h
        refine mj_go_aload_n (k := 0) (x := 95) rfl (mj_dt dt_X9_item 96 rfl) ?_
        refine mk_getI (c := 9) (k := 36) (Or.inl fd_9_36) (Or.inl fl_X9_188) ho_95 (mj_dt dt_X9_item 97 rfl) ?_
        obtain ⟨x5, ex5, h⟩ := mj_mw_some h
        refine ml_eqi ex5 ?_
        refine mj_go_istore_n (k := 3) (by decide) (mj_dt dt_X9_item 98 rfl) ?_
        refine mj_go_aload_n (k := 0) (x := 95) rfl (mj_dt dt_X9_item 99 rfl) ?_
        refine mj_go_iconst (v := 0) rfl (mj_dt dt_X9_item 100 rfl) ?_
        refine mj_go_bipush (v := 9) rfl (mj_dt dt_X9_item 101 rfl) ?_
        refine mj_go_iconst (v := -1) rfl (mj_dt dt_X9_item 102 rfl) ?_
        obtain ⟨r6, er6, h⟩ := mj_bind_some h
        refine ml_callV (Y' := mY_X9_more) (as := [.int 0, .int 9, .int (-1 : Int32)]) (rest := []) (c := 9) (v := (some (.int r6.1))) (M1 := (mj_fin r6.2)) ho_95 rfl lm_X9_211 wc_X9_more pl_X9_more ok_X9_more rfl rfl (Nat.le_of_ble_eq_true rfl) (k_X9_more (by omega) er6) (mj_dt dt_X9_item 103 rfl) ?_
        refine mj_go_if_ne (tgt := 188) rfl (mj_dt dt_X9_item 104 rfl) (fun b7 => ?_) (fun b7 => ?_)
        · rw [if_neg b7] at h
          refine mj_go_aload_n (k := 0) (x := 95) rfl (mj_dt dt_X9_item 107 rfl) ?_
          refine mj_go_iload_n (k := 3) (x := x5) rfl (mj_dt dt_X9_item 108 rfl) ?_
          refine mj_go_aload_n (k := 0) (x := 95) rfl (mj_dt dt_X9_item 109 rfl) ?_
          refine mk_getI (c := 9) (k := 36) (Or.inl fd_9_36) (Or.inl fl_X9_188) ho_95 (mj_dt dt_X9_item 110 rfl) ?_
          obtain ⟨r8, er8, h⟩ := mj_bind_some h
          refine ml_callV (Y' := mY_X9_shakes) (as := [.int x5, .int (r6.2.1 95 36)]) (rest := []) (c := 9) (v := (some (.int r8.1))) (M1 := (mj_fin r8.2)) ho_95 rfl lm_X9_174 wc_X9_shakes pl_X9_shakes ok_X9_shakes rfl rfl (Nat.le_of_ble_eq_true rfl) (k_X9_shakes (by omega) er8) (mj_dt dt_X9_item 111 rfl) ?_
          refine mj_go_pop rfl (mj_dt dt_X9_item 112 rfl) ?_
          refine mj_go_goto (tgt := 556) rfl (mj_dt dt_X9_item 113 rfl) ?_
          refine mj_go_iconst (v := 1) rfl (mj_dt dt_X9_item 305 rfl) ?_
          obtain rfl := Option.some.inj h
          exact mj_go_ret (v := some (.int 1)) (Nat.le_of_ble_eq_true rfl) (mj_retZ (mj_dt dt_X9_item 306 rfl) rfl rfl)
        · rw [if_pos b7] at h
          refine mj_go_iconst (v := 0) rfl (mj_dt dt_X9_item 105 rfl) ?_
          obtain rfl := Option.some.inj h
          exact mj_go_ret (v := some (.int 0)) (Nat.le_of_ble_eq_true rfl) (mj_retZ (mj_dt dt_X9_item 106 rfl) rfl rfl)
      · rw [if_pos b4] at h
        refine mj_go_iconst (v := 0) rfl (mj_dt dt_X9_item 94 rfl) ?_
        obtain rfl := Option.some.inj h
        exact mj_go_ret (v := some (.int 0)) (Nat.le_of_ble_eq_true rfl) (mj_retZ (mj_dt dt_X9_item 95 rfl) rfl rfl)
  · rw [if_pos b1] at h
    refine mj_go_aload_n (k := 0) (x := 95) rfl (mj_dt dt_X9_item 59 rfl) ?_
    refine mj_go_iconst (v := 0) rfl (mj_dt dt_X9_item 60 rfl) ?_
    refine mj_go_bipush (v := 7) rfl (mj_dt dt_X9_item 61 rfl) ?_
    refine mj_go_iconst (v := -1) rfl (mj_dt dt_X9_item 62 rfl) ?_
    obtain ⟨r2, er2, h⟩ := mj_bind_some h
    refine ml_callV (Y' := mY_X9_number) (as := [.int 0, .int 7, .int (-1 : Int32)]) (rest := []) (c := 9) (v := (some (.int r2.1))) (M1 := (mj_fin r2.2)) ho_95 rfl lm_X9_198 wc_X9_number pl_X9_number ok_X9_number rfl rfl (Nat.le_of_ble_eq_true rfl) (k_X9_number (by omega) er2) (mj_dt dt_X9_item 63 rfl) ?_
    refine mj_go_if_ne (tgt := 121) rfl (mj_dt dt_X9_item 64 rfl) (fun b3 => ?_) (fun b3 => ?_)
    · rw [if_neg b3] at h
      refine mj_go_aload_n (k := 0) (x := 95) rfl (mj_dt dt_X9_item 67 rfl) ?_
      refine mk_getI (c := 9) (k := 36) (Or.inl fd_9_36) (Or.inl fl_X9_188) ho_95 (mj_dt dt_X9_item 68 rfl) ?_
      obtain ⟨x4, ex4, h⟩ := mj_mw_some h
      refine ml_eqi ex4 ?_
      refine mj_go_istore_n (k := 3) (by decide) (mj_dt dt_X9_item 69 rfl) ?_
      refine mj_go_aload_n (k := 0) (x := 95) rfl (mj_dt dt_X9_item 70 rfl) ?_
      refine mj_go_iconst (v := 0) rfl (mj_dt dt_X9_item 71 rfl) ?_
      refine mj_go_bipush (v := 7) rfl (mj_dt dt_X9_item 72 rfl) ?_
      refine mj_go_iload_n (k := 3) (x := x4) rfl (mj_dt dt_X9_item 73 rfl) ?_
      obtain ⟨r5, er5, h⟩ := mj_bind_some h
      refine ml_callV (Y' := mY_X9_more) (as := [.int 0, .int 7, .int x4]) (rest := []) (c := 9) (v := (some (.int r5.1))) (M1 := (mj_fin r5.2)) ho_95 rfl lm_X9_211 wc_X9_more pl_X9_more ok_X9_more rfl rfl (Nat.le_of_ble_eq_true rfl) (k_X9_more (by omega) er5) (mj_dt dt_X9_item 74 rfl) ?_
      refine mj_go_if_ne (tgt := 139) rfl (mj_dt dt_X9_item 75 rfl) (fun b6 => ?_) (fun b6 => ?_)
      · rw [if_neg b6] at h
        refine mj_go_aload_n (k := 0) (x := 95) rfl (mj_dt dt_X9_item 78 rfl) ?_
        refine mj_go_iload_n (k := 3) (x := x4) rfl (mj_dt dt_X9_item 79 rfl) ?_
        refine mj_go_aload_n (k := 0) (x := 95) rfl (mj_dt dt_X9_item 80 rfl) ?_
        refine mk_getI (c := 9) (k := 36) (Or.inl fd_9_36) (Or.inl fl_X9_188) ho_95 (mj_dt dt_X9_item 81 rfl) ?_
        obtain ⟨r7, er7, h⟩ := mj_bind_some h
        refine ml_callV (Y' := mY_X9_streets) (as := [.int x4, .int (r5.2.1 95 36)]) (rest := []) (c := 9) (v := (some (.int r7.1))) (M1 := (mj_fin r7.2)) ho_95 rfl lm_X9_155 wc_X9_streets pl_X9_streets ok_X9_streets rfl rfl (Nat.le_of_ble_eq_true rfl) (k_X9_streets (by omega) er7) (mj_dt dt_X9_item 82 rfl) ?_
        refine mj_go_pop rfl (mj_dt dt_X9_item 83 rfl) ?_
        refine mj_go_goto (tgt := 556) rfl (mj_dt dt_X9_item 84 rfl) ?_
        refine mj_go_iconst (v := 1) rfl (mj_dt dt_X9_item 305 rfl) ?_
        obtain rfl := Option.some.inj h
        exact mj_go_ret (v := some (.int 1)) (Nat.le_of_ble_eq_true rfl) (mj_retZ (mj_dt dt_X9_item 306 rfl) rfl rfl)
      · rw [if_pos b6] at h
        refine mj_go_iconst (v := 0) rfl (mj_dt dt_X9_item 76 rfl) ?_
        obtain rfl := Option.some.inj h
        exact mj_go_ret (v := some (.int 0)) (Nat.le_of_ble_eq_true rfl) (mj_retZ (mj_dt dt_X9_item 77 rfl) rfl rfl)
    · rw [if_pos b3] at h
      refine mj_go_iconst (v := 0) rfl (mj_dt dt_X9_item 65 rfl) ?_
      obtain rfl := Option.some.inj h
      exact mj_go_ret (v := some (.int 0)) (Nat.le_of_ble_eq_true rfl) (mj_retZ (mj_dt dt_X9_item 66 rfl) rfl rfl)
def f_X9_item_98 (N : Nat) (v1 : Int32) (m : mj_m) : Option (Int32 × mj_m) := (f_X9_wrong N v1 m).bind (fun r1 => mj_ck (r1.1 &&& 1 == r1.1) ( some (r1.1, r1.2)))
theorem k_X9_item_98 {L : Nat} {xs : Nat → Int32} {δ N : Nat} {v1 : Int32} {m : mj_m} (hδ : 2 ≤ δ) {a : Int32 × mj_m} (h : f_X9_item_98 N v1 m = some a) : mj_Go (mj_EX L xs) (δ + 1) mY_X9_item 98 [(0, .ref 95), (1, .int v1)] [] (mj_fin m) (some (.int a.1), (mj_fin a.2)) := by
  unfold f_X9_item_98 at h
  refine mj_go_aload_n (k := 0) (x := 95) rfl (mj_dt dt_X9_item 53 rfl) ?_
  refine mj_go_iload_n (k := 1) (x := v1) rfl (mj_dt dt_X9_item 54 rfl) ?_
  obtain ⟨r1, er1, h⟩ := mj_bind_some h
  refine ml_callV (Y' := mY_X9_wrong) (as := [.int v1]) (rest := []) (c := 9) (v := (some (.int r1.1))) (M1 := (mj_fin r1.2)) ho_95 rfl lm_X9_195 wc_X9_wrong pl_X9_wrong ok_X9_wrong rfl rfl (Nat.le_of_ble_eq_true rfl) (k_X9_wrong (by omega) er1) (mj_dt dt_X9_item 55 rfl) ?_
  obtain ⟨c2, h⟩ := mj_ck_some h
  obtain rfl := Option.some.inj h
  exact mj_go_ret (v := some (.int r1.1)) (Nat.le_of_ble_eq_true rfl) (mj_retZ (mj_dt dt_X9_item 56 rfl) rfl (eq_of_beq c2))
def f_X9_item_85 (N : Nat) (v1 : Int32) (v2 : Int32) (m : mj_m) : Option (Int32 × mj_m) := if v2 = 2 then (if (m.1 95 2) = 4 then f_X9_item_98 N v1 m else f_X9_item_104 N v2 m) else f_X9_item_104 N v2 m
theorem k_X9_item_85 {L : Nat} {xs : Nat → Int32} {δ N : Nat} {v1 : Int32} {v2 : Int32} {m : mj_m} (hδ : 2 ≤ δ) {a : Int32 × mj_m} (h : f_X9_item_85 N v1 v2 m = some a) : mj_Go (mj_EX L xs) (δ + 1) mY_X9_item 85 [(0, .ref 95), (1, .int v1), (2, .int v2)] [] (mj_fin m) (some (.int a.1), (mj_fin a.2)) := by
  unfold f_X9_item_85 at h
  refine mj_go_iload_n (k := 2) (x := v2) rfl (mj_dt dt_X9_item 46 rfl) ?_
  refine mj_go_iconst (v := 2) rfl (mj_dt dt_X9_item 47 rfl) ?_
  refine mj_go_icmp_ne (tgt := 104) rfl (mj_dt dt_X9_item 48 rfl) (fun b1 => ?_) (fun b1 => ?_)
  · rw [if_neg b1] at h
    refine mj_go_sub (lv' := [(0, .ref 95), (2, .int v2)]) (List.forall_mem_cons.mpr ⟨rfl, (List.forall_mem_cons.mpr ⟨rfl, (fun _ h9 => absurd h9 List.not_mem_nil)⟩)⟩) ?_
    exact k_X9_item_104 hδ h
  · rw [if_pos b1] at h
    refine mj_go_aload_n (k := 0) (x := 95) rfl (mj_dt dt_X9_item 49 rfl) ?_
    refine mk_getI (c := 9) (k := 2) (Or.inl fd_9_2) (Or.inl fl_X9_127) ho_95 (mj_dt dt_X9_item 50 rfl) ?_
    refine mj_go_iconst (v := 4) rfl (mj_dt dt_X9_item 51 rfl) ?_
    refine mj_go_icmp_ne (tgt := 104) rfl (mj_dt dt_X9_item 52 rfl) (fun b2 => ?_) (fun b2 => ?_)
    · rw [if_neg b2] at h
      refine mj_go_sub (lv' := [(0, .ref 95), (2, .int v2)]) (List.forall_mem_cons.mpr ⟨rfl, (List.forall_mem_cons.mpr ⟨rfl, (fun _ h9 => absurd h9 List.not_mem_nil)⟩)⟩) ?_
      exact k_X9_item_104 hδ h
    · rw [if_pos b2] at h
      refine mj_go_sub (lv' := [(0, .ref 95), (1, .int v1)]) (List.forall_mem_cons.mpr ⟨rfl, (List.forall_mem_cons.mpr ⟨rfl, (fun _ h9 => absurd h9 List.not_mem_nil)⟩)⟩) ?_
      exact k_X9_item_98 hδ h
def f_X9_item_71 (N : Nat) (v1 : Int32) (v2 : Int32) (m : mj_m) : Option (Int32 × mj_m) := if v2 = 1 then (if (m.1 95 1) = 10 then f_X9_item_98 N v1 m else f_X9_item_85 N v1 v2 m) else f_X9_item_85 N v1 v2 m
theorem k_X9_item_71 {L : Nat} {xs : Nat → Int32} {δ N : Nat} {v1 : Int32} {v2 : Int32} {m : mj_m} (hδ : 2 ≤ δ) {a : Int32 × mj_m} (h : f_X9_item_71 N v1 v2 m = some a) : mj_Go (mj_EX L xs) (δ + 1) mY_X9_item 71 [(0, .ref 95), (1, .int v1), (2, .int v2)] [] (mj_fin m) (some (.int a.1), (mj_fin a.2)) := by
  unfold f_X9_item_71 at h
  refine mj_go_iload_n (k := 2) (x := v2) rfl (mj_dt dt_X9_item 39 rfl) ?_
  refine mj_go_iconst (v := 1) rfl (mj_dt dt_X9_item 40 rfl) ?_
  refine mj_go_icmp_ne (tgt := 85) rfl (mj_dt dt_X9_item 41 rfl) (fun b1 => ?_) (fun b1 => ?_)
  · rw [if_neg b1] at h
    refine mj_go_sub (lv' := [(0, .ref 95), (1, .int v1), (2, .int v2)]) (List.forall_mem_cons.mpr ⟨rfl, (List.forall_mem_cons.mpr ⟨rfl, (List.forall_mem_cons.mpr ⟨rfl, (fun _ h9 => absurd h9 List.not_mem_nil)⟩)⟩)⟩) ?_
    exact k_X9_item_85 hδ h
  · rw [if_pos b1] at h
    refine mj_go_aload_n (k := 0) (x := 95) rfl (mj_dt dt_X9_item 42 rfl) ?_
    refine mk_getI (c := 9) (k := 1) (Or.inl fd_9_1) (Or.inl fl_X9_124) ho_95 (mj_dt dt_X9_item 43 rfl) ?_
    refine mj_go_bipush (v := 10) rfl (mj_dt dt_X9_item 44 rfl) ?_
    refine mj_go_icmp_eq (tgt := 98) rfl (mj_dt dt_X9_item 45 rfl) (fun b2 => ?_) (fun b2 => ?_)
    · rw [if_pos b2] at h
      refine mj_go_sub (lv' := [(0, .ref 95), (1, .int v1)]) (List.forall_mem_cons.mpr ⟨rfl, (List.forall_mem_cons.mpr ⟨rfl, (fun _ h9 => absurd h9 List.not_mem_nil)⟩)⟩) ?_
      exact k_X9_item_98 hδ h
    · rw [if_neg b2] at h
      refine mj_go_sub (lv' := [(0, .ref 95), (1, .int v1), (2, .int v2)]) (List.forall_mem_cons.mpr ⟨rfl, (List.forall_mem_cons.mpr ⟨rfl, (List.forall_mem_cons.mpr ⟨rfl, (fun _ h9 => absurd h9 List.not_mem_nil)⟩)⟩)⟩) ?_
      exact k_X9_item_85 hδ h
def f_X9_item_33 (N : Nat) (k_2 : Int32 → Option (Int32 × mj_m)) (v1 : Int32) (m : mj_m) : Option (Int32 × mj_m) := mj_mw (v1 + 1) (fun x1 => k_2 (x1))
theorem k_X9_item_33 {L : Nat} {xs : Nat → Int32} {δ N : Nat} {v1 : Int32} {m : mj_m} {k_2 : Int32 → Option (Int32 × mj_m)} (q_2 : ∀ (s_ : Int32) (a_ : Int32 × mj_m), k_2 s_ = some a_ → mj_Go (mj_EX L xs) (δ + 1) mY_X9_item 2 [(0, .ref 95), (1, .int s_)] [] (mj_fin m) (some (.int a_.1), (mj_fin a_.2))) (hδ : 2 ≤ δ) {a : Int32 × mj_m} (h : f_X9_item_33 N k_2 v1 m = some a) : mj_Go (mj_EX L xs) (δ + 1) mY_X9_item 33 [(0, .ref 95), (1, .int v1)] [] (mj_fin m) (some (.int a.1), (mj_fin a.2)) := by
  unfold f_X9_item_33 at h
  obtain ⟨x1, ex1, h⟩ := mj_mw_some h
  refine mj_go_iinc (i := 1) (x := v1) (v := x1) rfl (by rw [ex1] <;> rfl) (by decide) (mj_dt dt_X9_item 18 rfl) ?_
  refine mj_go_goto (tgt := 2) rfl (mj_dt dt_X9_item 19 rfl) ?_
  refine mj_go_sub (lv' := [(0, .ref 95), (1, .int x1)]) (List.forall_mem_cons.mpr ⟨rfl, (List.forall_mem_cons.mpr ⟨rfl, (fun _ h9 => absurd h9 List.not_mem_nil)⟩)⟩) ?_
  exact q_2 _ _ h
def f_X9_item_2 (N : Nat) (m : mj_m) (k_2 : Int32 → Option (Int32 × mj_m)) (s : Int32) : Option (Int32 × mj_m) := if 8 ≤ s then (mj_mw (m.1 95 34) (fun x2 => (f_X9_word N 0 5 m).bind (fun r3 => if r3.1 = (-1 : Int32) then (some (0, r3.2)) else (if r3.1 = 0 then (if (r3.2.1 95 0) = 12 then f_X9_item_98 N x2 r3.2 else f_X9_item_71 N x2 r3.1 r3.2) else f_X9_item_71 N x2 r3.1 r3.2)))) else ((f_X9_isWordAt N s m).bind (fun r2 => if r2 = 0 then f_X9_item_33 N k_2 s m else ((f_X9_isFull N s m).bind (fun r4 => if r4 = 0 then f_X9_item_33 N k_2 s m else ((f_X9_wrong N (m.1 95 34) m).bind (fun r6 => mj_ck (r6.1 &&& 1 == r6.1) ( some (r6.1, r6.2))))))))
theorem k_X9_item_2 {L : Nat} {xs : Nat → Int32} {δ N : Nat} {m : mj_m} (hδ : 2 ≤ δ) : ∀ (n : Nat) (s : Int32) (a : Int32 × mj_m), mj_lp n (f_X9_item_2 N m) s = some a → mj_Go (mj_EX L xs) (δ + 1) mY_X9_item 2 [(0, .ref 95), (1, .int s)] [] (mj_fin m) (some (.int a.1), (mj_fin a.2)) := by
  refine mj_lp_sound (fun k_2 s a q_2 h => ?_)
  unfold f_X9_item_2 at h
  refine mj_go_iload_n (k := 1) (x := s) rfl (mj_dt dt_X9_item 2 rfl) ?_
  refine mj_go_bipush (v := 8) rfl (mj_dt dt_X9_item 3 rfl) ?_
  refine mj_go_icmp_ge (tgt := 39) rfl (mj_dt dt_X9_item 4 rfl) (fun b1 => ?_) (fun b1 => ?_)
  · rw [if_pos b1] at h
    refine mj_go_aload_n (k := 0) (x := 95) rfl (mj_dt dt_X9_item 20 rfl) ?_
    refine mk_getI (c := 9) (k := 34) (Or.inl fd_9_34) (Or.inl fl_X9_179) ho_95 (mj_dt dt_X9_item 21 rfl) ?_
    obtain ⟨x2, ex2, h⟩ := mj_mw_some h
    refine ml_eqi ex2 ?_
    refine mj_go_istore_n (k := 1) (by decide) (mj_dt dt_X9_item 22 rfl) ?_
    refine mj_go_aload_n (k := 0) (x := 95) rfl (mj_dt dt_X9_item 23 rfl) ?_
    refine mj_go_iconst (v := 0) rfl (mj_dt dt_X9_item 24 rfl) ?_
    refine mj_go_iconst (v := 5) rfl (mj_dt dt_X9_item 25 rfl) ?_
    obtain ⟨r3, er3, h⟩ := mj_bind_some h
    refine ml_callV (Y' := mY_X9_word) (as := [.int 0, .int 5]) (rest := []) (c := 9) (v := (some (.int r3.1))) (M1 := (mj_fin r3.2)) ho_95 rfl lm_X9_208 wc_X9_word pl_X9_word ok_X9_word rfl rfl (Nat.le_of_ble_eq_true rfl) (k_X9_word (by omega) er3) (mj_dt dt_X9_item 26 rfl) ?_
    refine mj_go_istore_n (k := 2) (by decide) (mj_dt dt_X9_item 27 rfl) ?_
    refine mj_go_iload_n (k := 2) (x := r3.1) rfl (mj_dt dt_X9_item 28 rfl) ?_
    refine mj_go_iconst (v := -1) rfl (mj_dt dt_X9_item 29 rfl) ?_
    refine mj_go_icmp_ne (tgt := 58) rfl (mj_dt dt_X9_item 30 rfl) (fun b4 => ?_) (fun b4 => ?_)
    · rw [if_neg b4] at h
      refine mj_go_iload_n (k := 2) (x := r3.1) rfl (mj_dt dt_X9_item 33 rfl) ?_
      refine mj_go_if_ne (tgt := 71) rfl (mj_dt dt_X9_item 34 rfl) (fun b5 => ?_) (fun b5 => ?_)
      · rw [if_neg b5] at h
        refine mj_go_sub (lv' := [(0, .ref 95), (1, .int x2), (2, .int r3.1)]) (List.forall_mem_cons.mpr ⟨rfl, (List.forall_mem_cons.mpr ⟨rfl, (List.forall_mem_cons.mpr ⟨rfl, (fun _ h9 => absurd h9 List.not_mem_nil)⟩)⟩)⟩) ?_
        exact k_X9_item_71 hδ h
      · rw [if_pos b5] at h
        refine mj_go_aload_n (k := 0) (x := 95) rfl (mj_dt dt_X9_item 35 rfl) ?_
        refine mk_getI (c := 9) (k := 0) (Or.inl fd_9_0) (Or.inl fl_X9_149) ho_95 (mj_dt dt_X9_item 36 rfl) ?_
        refine mj_go_bipush (v := 12) rfl (mj_dt dt_X9_item 37 rfl) ?_
        refine mj_go_icmp_eq (tgt := 98) rfl (mj_dt dt_X9_item 38 rfl) (fun b6 => ?_) (fun b6 => ?_)
        · rw [if_pos b6] at h
          refine mj_go_sub (lv' := [(0, .ref 95), (1, .int x2)]) (List.forall_mem_cons.mpr ⟨rfl, (List.forall_mem_cons.mpr ⟨rfl, (fun _ h9 => absurd h9 List.not_mem_nil)⟩)⟩) ?_
          exact k_X9_item_98 hδ h
        · rw [if_neg b6] at h
          refine mj_go_sub (lv' := [(0, .ref 95), (1, .int x2), (2, .int r3.1)]) (List.forall_mem_cons.mpr ⟨rfl, (List.forall_mem_cons.mpr ⟨rfl, (List.forall_mem_cons.mpr ⟨rfl, (fun _ h9 => absurd h9 List.not_mem_nil)⟩)⟩)⟩) ?_
          exact k_X9_item_71 hδ h
    · rw [if_pos b4] at h
      refine mj_go_iconst (v := 0) rfl (mj_dt dt_X9_item 31 rfl) ?_
      obtain rfl := Option.some.inj h
      exact mj_go_ret (v := some (.int 0)) (Nat.le_of_ble_eq_true rfl) (mj_retZ (mj_dt dt_X9_item 32 rfl) rfl rfl)
  · rw [if_neg b1] at h
    refine mj_go_aload_n (k := 0) (x := 95) rfl (mj_dt dt_X9_item 5 rfl) ?_
    refine mj_go_iload_n (k := 1) (x := s) rfl (mj_dt dt_X9_item 6 rfl) ?_
    obtain ⟨r2, er2, h⟩ := mj_bind_some h
    refine ml_callV (Y' := mY_X9_isWordAt) (as := [.int s]) (rest := []) (c := 9) (v := (some (.int r2))) (M1 := (mj_fin m)) ho_95 rfl lm_X9_202 wc_X9_isWordAt pl_X9_isWordAt ok_X9_isWordAt rfl rfl (Nat.le_of_ble_eq_true rfl) (k_X9_isWordAt (by omega) er2) (mj_dt dt_X9_item 7 rfl) ?_
    refine mj_go_if_eq (tgt := 33) rfl (mj_dt dt_X9_item 8 rfl) (fun b3 => ?_) (fun b3 => ?_)
    · rw [if_pos b3] at h
      refine mj_go_sub (lv' := [(0, .ref 95), (1, .int s)]) (List.forall_mem_cons.mpr ⟨rfl, (List.forall_mem_cons.mpr ⟨rfl, (fun _ h9 => absurd h9 List.not_mem_nil)⟩)⟩) ?_
      exact k_X9_item_33 q_2 hδ h
    · rw [if_neg b3] at h
      refine mj_go_aload_n (k := 0) (x := 95) rfl (mj_dt dt_X9_item 9 rfl) ?_
      refine mj_go_iload_n (k := 1) (x := s) rfl (mj_dt dt_X9_item 10 rfl) ?_
      obtain ⟨r4, er4, h⟩ := mj_bind_some h
      refine ml_callV (Y' := mY_X9_isFull) (as := [.int s]) (rest := []) (c := 9) (v := (some (.int r4))) (M1 := (mj_fin m)) ho_95 rfl lm_X9_205 wc_X9_isFull pl_X9_isFull ok_X9_isFull rfl rfl (Nat.le_of_ble_eq_true rfl) (k_X9_isFull (by omega) er4) (mj_dt dt_X9_item 11 rfl) ?_
      refine mj_go_if_eq (tgt := 33) rfl (mj_dt dt_X9_item 12 rfl) (fun b5 => ?_) (fun b5 => ?_)
      · rw [if_pos b5] at h
        refine mj_go_sub (lv' := [(0, .ref 95), (1, .int s)]) (List.forall_mem_cons.mpr ⟨rfl, (List.forall_mem_cons.mpr ⟨rfl, (fun _ h9 => absurd h9 List.not_mem_nil)⟩)⟩) ?_
        exact k_X9_item_33 q_2 hδ h
      · rw [if_neg b5] at h
        refine mj_go_aload_n (k := 0) (x := 95) rfl (mj_dt dt_X9_item 13 rfl) ?_
        refine mj_go_aload_n (k := 0) (x := 95) rfl (mj_dt dt_X9_item 14 rfl) ?_
        refine mk_getI (c := 9) (k := 34) (Or.inl fd_9_34) (Or.inl fl_X9_179) ho_95 (mj_dt dt_X9_item 15 rfl) ?_
        obtain ⟨r6, er6, h⟩ := mj_bind_some h
        refine ml_callV (Y' := mY_X9_wrong) (as := [.int (m.1 95 34)]) (rest := []) (c := 9) (v := (some (.int r6.1))) (M1 := (mj_fin r6.2)) ho_95 rfl lm_X9_195 wc_X9_wrong pl_X9_wrong ok_X9_wrong rfl rfl (Nat.le_of_ble_eq_true rfl) (k_X9_wrong (by omega) er6) (mj_dt dt_X9_item 16 rfl) ?_
        obtain ⟨c7, h⟩ := mj_ck_some h
        obtain rfl := Option.some.inj h
        exact mj_go_ret (v := some (.int r6.1)) (Nat.le_of_ble_eq_true rfl) (mj_retZ (mj_dt dt_X9_item 17 rfl) rfl (eq_of_beq c7))
def f_X9_item (N : Nat) (m : mj_m) : Option (Int32 × mj_m) := mj_lp N (f_X9_item_2 N m) (0)
theorem k_X9_item {L : Nat} {xs : Nat → Int32} {δ N : Nat} {m : mj_m} (hδ : 3 ≤ δ) {a : Int32 × mj_m} (h : f_X9_item N m = some a) : mj_Cl (mj_EX L xs) δ mY_X9_item [.ref 95] (mj_fin m) (some (.int a.1), (mj_fin a.2)) := by
  obtain ⟨δ, rfl⟩ : ∃ d, δ = d + 1 := ⟨δ - 1, by omega⟩
  have hδ : 2 ≤ δ := by omega
  refine mj_cl_of ok_X9_item (Nat.le_of_ble_eq_true rfl) ?_
  unfold f_X9_item at h
  refine mj_go_iconst (v := 0) rfl (mj_dt dt_X9_item 0 rfl) ?_
  refine mj_go_istore_n (k := 1) (by decide) (mj_dt dt_X9_item 1 rfl) ?_
  refine mj_go_sub (lv' := [(0, .ref 95), (1, .int 0)]) (List.forall_mem_cons.mpr ⟨rfl, (List.forall_mem_cons.mpr ⟨rfl, (fun _ h9 => absurd h9 List.not_mem_nil)⟩)⟩) ?_
  exact k_X9_item_2 hδ N _ _ h
def f_X9_town_133 (N : Nat) (v3 : Int32) (v4 : Int32) (m : mj_m) : Option (Int32 × mj_m) := if v4 = 0 then ((f_X9_all N 118 1 m).bind (fun r2 => mj_mw (mj_wI r2 95 10 (r2.1 95 37)) (fun m3 => (f_X9_no N (-6 : Int32) m3).bind (fun r4 => some (r4.1, r4.2))))) else (some (v3, m))
theorem k_X9_town_133 {L : Nat} {xs : Nat → Int32} {δ N : Nat} {v3 : Int32} {v4 : Int32} {m : mj_m} (hδ : 3 ≤ δ) {a : Int32 × mj_m} (h : f_X9_town_133 N v3 v4 m = some a) : mj_Go (mj_EX L xs) (δ + 1) mY_X9_town 133 [(0, .ref 95), (3, .int v3), (4, .int v4)] [] (mj_fin m) (some (.int a.1), (mj_fin a.2)) := by
  unfold f_X9_town_133 at h
  refine mj_go_iload (i := 4) (x := v4) rfl (mj_dt dt_X9_town 73 rfl) ?_
  refine mj_go_if_eq (tgt := 140) rfl (mj_dt dt_X9_town 74 rfl) (fun b1 => ?_) (fun b1 => ?_)
  · rw [if_pos b1] at h
    refine mj_go_aload_n (k := 0) (x := 95) rfl (mj_dt dt_X9_town 77 rfl) ?_
    refine mj_go_aload_n (k := 0) (x := 95) rfl (mj_dt dt_X9_town 78 rfl) ?_
    refine ml_getR (c := 9) (k := 38) (q := 118) fd_9_38 rf_95_38 (Or.inl fl_X9_93) ho_95 (mj_dt dt_X9_town 79 rfl) ?_
    refine mj_go_iconst (v := 1) rfl (mj_dt dt_X9_town 80 rfl) ?_
    obtain ⟨r2, er2, h⟩ := mj_bind_some h
    refine ml_callV (Y' := mY_X9_all) (as := [.ref 118, .int 1]) (rest := []) (c := 9) (v := none) (M1 := (mj_fin r2)) ho_95 rfl lm_X9_227 wc_X9_all pl_X9_all ok_X9_all rfl rfl (Nat.le_of_ble_eq_true rfl) (k_X9_all (by omega) er2) (mj_dt dt_X9_town 81 rfl) ?_
    refine mj_go_aload_n (k := 0) (x := 95) rfl (mj_dt dt_X9_town 82 rfl) ?_
    refine mj_go_aload_n (k := 0) (x := 95) rfl (mj_dt dt_X9_town 83 rfl) ?_
    refine mk_getI (c := 9) (k := 37) (Or.inl fd_9_37) (Or.inl fl_X9_176) ho_95 (mj_dt dt_X9_town 84 rfl) ?_
    obtain ⟨m3, em3, h⟩ := mj_mw_some h
    refine ml_putI (c := 9) (k := 10) fd_9_10 rfl fl_X9_22 ho_95 (mj_dt dt_X9_town 85 rfl) ?_
    refine ml_eqm (M1 := (mj_fin m3)) (by rw [em3] <;> rfl) ?_
    refine mj_go_aload_n (k := 0) (x := 95) rfl (mj_dt dt_X9_town 86 rfl) ?_
    refine mj_go_bipush (v := -6) rfl (mj_dt dt_X9_town 87 rfl) ?_
    obtain ⟨r4, er4, h⟩ := mj_bind_some h
    refine ml_callV (Y' := mY_X9_no) (as := [.int (-6 : Int32)]) (rest := []) (c := 9) (v := (some (.int r4.1))) (M1 := (mj_fin r4.2)) ho_95 rfl lm_X9_134 wc_X9_no pl_X9_no ok_X9_no rfl rfl (Nat.le_of_ble_eq_true rfl) (k_X9_no (by omega) er4) (mj_dt dt_X9_town 88 rfl) ?_
    obtain rfl := Option.some.inj h
    exact mj_go_ret (v := some (.int r4.1)) (Nat.le_of_ble_eq_true rfl) (mj_retI (mj_dt dt_X9_town 89 rfl) rfl)
  · rw [if_neg b1] at h
    refine mj_go_iload_n (k := 3) (x := v3) rfl (mj_dt dt_X9_town 75 rfl) ?_
    obtain rfl := Option.some.inj h
    exact mj_go_ret (v := some (.int v3)) (Nat.le_of_ble_eq_true rfl) (mj_retI (mj_dt dt_X9_town 76 rfl) rfl)
def f_X9_town_62 (N : Nat) (k_62 : Int32 × Int32 × mj_m → Option (Int32 × mj_m)) (s : Int32 × Int32 × mj_m) : Option (Int32 × mj_m) := if s.2.1 = 0 then f_X9_town_133 N s.1 s.2.1 s.2.2 else (if (s.2.2.1 95 35) ≤ (s.2.2.1 95 34) then f_X9_town_133 N s.1 s.2.1 s.2.2 else (mj_ck (mj_b 1 115 ((s.2.2.1 95 33) + (s.2.2.1 95 34))) ( if ((s.2.2.2 115 ((s.2.2.1 95 33) + (s.2.2.1 95 34)).toNatClampNeg).toInt32) = 59 then (mj_mw (mj_wI s.2.2 95 34 ((s.2.2.1 95 34) + 1)) (fun m5 => mj_mw (s.1 + 1) (fun x6 => (f_X9_item N m5).bind (fun r7 => k_62 (x6, r7.1, r7.2))))) else ((f_X9_wrong N (s.2.2.1 95 34) s.2.2).bind (fun r5 => k_62 (s.1, r5.1, r5.2))))))
theorem k_X9_town_62 {L : Nat} {xs : Nat → Int32} {δ N : Nat} (hδ : 3 ≤ δ) : ∀ (n : Nat) (s : Int32 × Int32 × mj_m) (a : Int32 × mj_m), mj_lp n (f_X9_town_62 N) s = some a → mj_Go (mj_EX L xs) (δ + 1) mY_X9_town 62 [(0, .ref 95), (3, .int s.1), (4, .int s.2.1)] [] (mj_fin s.2.2) (some (.int a.1), (mj_fin a.2)) := by
  refine mj_lp_sound (fun k_62 s a q_62 h => ?_)
  unfold f_X9_town_62 at h
  refine mj_go_iload (i := 4) (x := s.2.1) rfl (mj_dt dt_X9_town 38 rfl) ?_
  refine mj_go_if_eq (tgt := 133) rfl (mj_dt dt_X9_town 39 rfl) (fun b1 => ?_) (fun b1 => ?_)
  · rw [if_pos b1] at h
    refine mj_go_sub (lv' := [(0, .ref 95), (3, .int s.1), (4, .int s.2.1)]) (List.forall_mem_cons.mpr ⟨rfl, (List.forall_mem_cons.mpr ⟨rfl, (List.forall_mem_cons.mpr ⟨rfl, (fun _ h9 => absurd h9 List.not_mem_nil)⟩)⟩)⟩) ?_
    exact k_X9_town_133 hδ h
  · rw [if_neg b1] at h
    refine mj_go_aload_n (k := 0) (x := 95) rfl (mj_dt dt_X9_town 40 rfl) ?_
    refine mk_getI (c := 9) (k := 34) (Or.inl fd_9_34) (Or.inl fl_X9_179) ho_95 (mj_dt dt_X9_town 41 rfl) ?_
    refine mj_go_aload_n (k := 0) (x := 95) rfl (mj_dt dt_X9_town 42 rfl) ?_
    refine mk_getI (c := 9) (k := 35) (Or.inl fd_9_35) (Or.inl fl_X9_182) ho_95 (mj_dt dt_X9_town 43 rfl) ?_
    refine mj_go_icmp_ge (tgt := 133) rfl (mj_dt dt_X9_town 44 rfl) (fun b2 => ?_) (fun b2 => ?_)
    · rw [if_pos b2] at h
      refine mj_go_sub (lv' := [(0, .ref 95), (3, .int s.1), (4, .int s.2.1)]) (List.forall_mem_cons.mpr ⟨rfl, (List.forall_mem_cons.mpr ⟨rfl, (List.forall_mem_cons.mpr ⟨rfl, (fun _ h9 => absurd h9 List.not_mem_nil)⟩)⟩)⟩) ?_
      exact k_X9_town_133 hδ h
    · rw [if_neg b2] at h
      refine mj_go_aload_n (k := 0) (x := 95) rfl (mj_dt dt_X9_town 45 rfl) ?_
      refine ml_getR (c := 9) (k := 30) (q := 115) fd_9_30 rf_95_30 (Or.inl fl_X9_83) ho_95 (mj_dt dt_X9_town 46 rfl) ?_
      refine mj_go_aload_n (k := 0) (x := 95) rfl (mj_dt dt_X9_town 47 rfl) ?_
      refine mk_getI (c := 9) (k := 33) (Or.inl fd_9_33) (Or.inl fl_X9_185) ho_95 (mj_dt dt_X9_town 48 rfl) ?_
      refine mj_go_aload_n (k := 0) (x := 95) rfl (mj_dt dt_X9_town 49 rfl) ?_
      refine mk_getI (c := 9) (k := 34) (Or.inl fd_9_34) (Or.inl fl_X9_179) ho_95 (mj_dt dt_X9_town 50 rfl) ?_
      refine mj_go_iadd (mj_dt dt_X9_town 51 rfl) ?_
      obtain ⟨c3, h⟩ := mj_ck_some h
      refine mk_lald c3 (mj_dt dt_X9_town 52 rfl) ?_
      refine mj_go_l2i (mj_dt dt_X9_town 53 rfl) ?_
      refine mj_go_bipush (v := 59) rfl (mj_dt dt_X9_town 54 rfl) ?_
      refine mj_go_icmp_eq (tgt := 111) rfl (mj_dt dt_X9_town 55 rfl) (fun b4 => ?_) (fun b4 => ?_)
      · rw [if_pos b4] at h
        refine mj_go_aload_n (k := 0) (x := 95) rfl (mj_dt dt_X9_town 62 rfl) ?_
        refine mj_go_dup rfl (mj_dt dt_X9_town 63 rfl) ?_
        refine mk_getI (c := 9) (k := 34) (Or.inl fd_9_34) (Or.inl fl_X9_179) ho_95 (mj_dt dt_X9_town 64 rfl) ?_
        refine mj_go_iconst (v := 1) rfl (mj_dt dt_X9_town 65 rfl) ?_
        refine mj_go_iadd (mj_dt dt_X9_town 66 rfl) ?_
        obtain ⟨m5, em5, h⟩ := mj_mw_some h
        refine ml_putI (c := 9) (k := 34) fd_9_34 rfl fl_X9_179 ho_95 (mj_dt dt_X9_town 67 rfl) ?_
        refine ml_eqm (M1 := (mj_fin m5)) (by rw [em5] <;> rfl) ?_
        obtain ⟨x6, ex6, h⟩ := mj_mw_some h
        refine mj_go_iinc (i := 3) (x := s.1) (v := x6) rfl (by rw [ex6] <;> rfl) (by decide) (mj_dt dt_X9_town 68 rfl) ?_
        refine mj_go_aload_n (k := 0) (x := 95) rfl (mj_dt dt_X9_town 69 rfl) ?_
        obtain ⟨r7, er7, h⟩ := mj_bind_some h
        refine ml_callV (Y' := mY_X9_item) (as := []) (rest := []) (c := 9) (v := (some (.int r7.1))) (M1 := (mj_fin r7.2)) ho_95 rfl lm_X9_231 wc_X9_item pl_X9_item ok_X9_item rfl rfl (Nat.le_of_ble_eq_true rfl) (k_X9_item (by omega) er7) (mj_dt dt_X9_town 70 rfl) ?_
        refine mj_go_istore (i := 4) (by decide) (mj_dt dt_X9_town 71 rfl) ?_
        refine mj_go_goto (tgt := 62) rfl (mj_dt dt_X9_town 72 rfl) ?_
        refine mj_go_sub (lv' := [(0, .ref 95), (3, .int x6), (4, .int r7.1)]) (List.forall_mem_cons.mpr ⟨rfl, (List.forall_mem_cons.mpr ⟨rfl, (List.forall_mem_cons.mpr ⟨rfl, (fun _ h9 => absurd h9 List.not_mem_nil)⟩)⟩)⟩) ?_
        exact q_62 _ _ h
      · rw [if_neg b4] at h
        refine mj_go_aload_n (k := 0) (x := 95) rfl (mj_dt dt_X9_town 56 rfl) ?_
        refine mj_go_aload_n (k := 0) (x := 95) rfl (mj_dt dt_X9_town 57 rfl) ?_
        refine mk_getI (c := 9) (k := 34) (Or.inl fd_9_34) (Or.inl fl_X9_179) ho_95 (mj_dt dt_X9_town 58 rfl) ?_
        obtain ⟨r5, er5, h⟩ := mj_bind_some h
        refine ml_callV (Y' := mY_X9_wrong) (as := [.int (s.2.2.1 95 34)]) (rest := []) (c := 9) (v := (some (.int r5.1))) (M1 := (mj_fin r5.2)) ho_95 rfl lm_X9_195 wc_X9_wrong pl_X9_wrong ok_X9_wrong rfl rfl (Nat.le_of_ble_eq_true rfl) (k_X9_wrong (by omega) er5) (mj_dt dt_X9_town 59 rfl) ?_
        refine mj_go_istore (i := 4) (by decide) (mj_dt dt_X9_town 60 rfl) ?_
        refine mj_go_goto (tgt := 62) rfl (mj_dt dt_X9_town 61 rfl) ?_
        refine mj_go_sub (lv' := [(0, .ref 95), (3, .int s.1), (4, .int r5.1)]) (List.forall_mem_cons.mpr ⟨rfl, (List.forall_mem_cons.mpr ⟨rfl, (List.forall_mem_cons.mpr ⟨rfl, (fun _ h9 => absurd h9 List.not_mem_nil)⟩)⟩)⟩) ?_
        exact q_62 _ _ h
def f_X9_town (N : Nat) (v1 : Int32) (m : mj_m) : Option (Int32 × mj_m) := (f_X9_wants N v1 1 m).bind (fun r1 => if r1 = 0 then ((f_X9_all N 118 0 m).bind (fun r3 => mj_mw (mj_wI r3 95 33 (120 * v1)) (fun m4 => mj_mw (mj_wI m4 95 34 0) (fun m5 => mj_ck (mj_b 0 112 v1) ( mj_mw (mj_wI m5 95 35 (m5.1 112 v1.toNatClampNeg)) (fun m7 => mj_mw (mj_wI m7 95 10 (-1 : Int32)) (fun m8 => (f_X9_item N m8).bind (fun r9 => mj_lp N (f_X9_town_62 N) (1, r9.1, r9.2))))))))) else ((f_X9_no N r1 m).bind (fun r3 => some (r3.1, r3.2))))
theorem k_X9_town {L : Nat} {xs : Nat → Int32} {δ N : Nat} {v1 : Int32} {m : mj_m} (hδ : 4 ≤ δ) {a : Int32 × mj_m} (h : f_X9_town N v1 m = some a) : mj_Cl (mj_EX L xs) δ mY_X9_town [.ref 95, .int v1] (mj_fin m) (some (.int a.1), (mj_fin a.2)) := by
  obtain ⟨δ, rfl⟩ : ∃ d, δ = d + 1 := ⟨δ - 1, by omega⟩
  have hδ : 3 ≤ δ := by omega
  refine mj_cl_of ok_X9_town (Nat.le_of_ble_eq_true rfl) ?_
  unfold f_X9_town at h
  refine mj_go_aload_n (k := 0) (x := 95) rfl (mj_dt dt_X9_town 0 rfl) ?_
  refine mj_go_iload_n (k := 1) (x := v1) rfl (mj_dt dt_X9_town 1 rfl) ?_
  refine mj_go_iconst (v := 1) rfl (mj_dt dt_X9_town 2 rfl) ?_
  obtain ⟨r1, er1, h⟩ := mj_bind_some h
  refine ml_callV (Y' := mY_X9_wants) (as := [.int v1, .int 1]) (rest := []) (c := 9) (v := (some (.int r1))) (M1 := (mj_fin m)) ho_95 rfl lm_X9_138 wc_X9_wants pl_X9_wants ok_X9_wants rfl rfl (Nat.le_of_ble_eq_true rfl) (k_X9_wants (by omega) er1) (mj_dt dt_X9_town 3 rfl) ?_
  refine mj_go_istore_n (k := 2) (by decide) (mj_dt dt_X9_town 4 rfl) ?_
  refine mj_go_iload_n (k := 2) (x := r1) rfl (mj_dt dt_X9_town 5 rfl) ?_
  refine mj_go_if_eq (tgt := 17) rfl (mj_dt dt_X9_town 6 rfl) (fun b2 => ?_) (fun b2 => ?_)
  · rw [if_pos b2] at h
    refine mj_go_aload_n (k := 0) (x := 95) rfl (mj_dt dt_X9_town 11 rfl) ?_
    refine mj_go_aload_n (k := 0) (x := 95) rfl (mj_dt dt_X9_town 12 rfl) ?_
    refine ml_getR (c := 9) (k := 38) (q := 118) fd_9_38 rf_95_38 (Or.inl fl_X9_93) ho_95 (mj_dt dt_X9_town 13 rfl) ?_
    refine mj_go_iconst (v := 0) rfl (mj_dt dt_X9_town 14 rfl) ?_
    obtain ⟨r3, er3, h⟩ := mj_bind_some h
    refine ml_callV (Y' := mY_X9_all) (as := [.ref 118, .int 0]) (rest := []) (c := 9) (v := none) (M1 := (mj_fin r3)) ho_95 rfl lm_X9_227 wc_X9_all pl_X9_all ok_X9_all rfl rfl (Nat.le_of_ble_eq_true rfl) (k_X9_all (by omega) er3) (mj_dt dt_X9_town 15 rfl) ?_
    refine mj_go_aload_n (k := 0) (x := 95) rfl (mj_dt dt_X9_town 16 rfl) ?_
    refine mj_go_bipush (v := 120) rfl (mj_dt dt_X9_town 17 rfl) ?_
    refine mj_go_iload_n (k := 1) (x := v1) rfl (mj_dt dt_X9_town 18 rfl) ?_
    refine mj_go_imul (mj_dt dt_X9_town 19 rfl) ?_
    obtain ⟨m4, em4, h⟩ := mj_mw_some h
    refine ml_putI (c := 9) (k := 33) fd_9_33 rfl fl_X9_185 ho_95 (mj_dt dt_X9_town 20 rfl) ?_
    refine ml_eqm (M1 := (mj_fin m4)) (by rw [em4] <;> rfl) ?_
    refine mj_go_aload_n (k := 0) (x := 95) rfl (mj_dt dt_X9_town 21 rfl) ?_
    refine mj_go_iconst (v := 0) rfl (mj_dt dt_X9_town 22 rfl) ?_
    obtain ⟨m5, em5, h⟩ := mj_mw_some h
    refine ml_putI (c := 9) (k := 34) fd_9_34 rfl fl_X9_179 ho_95 (mj_dt dt_X9_town 23 rfl) ?_
    refine ml_eqm (M1 := (mj_fin m5)) (by rw [em5] <;> rfl) ?_
    refine mj_go_aload_n (k := 0) (x := 95) rfl (mj_dt dt_X9_town 24 rfl) ?_
    refine mj_go_aload_n (k := 0) (x := 95) rfl (mj_dt dt_X9_town 25 rfl) ?_
    refine ml_getR (c := 9) (k := 27) (q := 112) fd_9_27 rf_95_27 (Or.inl fl_X9_74) ho_95 (mj_dt dt_X9_town 26 rfl) ?_
    refine mj_go_iload_n (k := 1) (x := v1) rfl (mj_dt dt_X9_town 27 rfl) ?_
    obtain ⟨c6, h⟩ := mj_ck_some h
    refine mk_iald c6 (mj_dt dt_X9_town 28 rfl) ?_
    obtain ⟨m7, em7, h⟩ := mj_mw_some h
    refine ml_putI (c := 9) (k := 35) fd_9_35 rfl fl_X9_182 ho_95 (mj_dt dt_X9_town 29 rfl) ?_
    refine ml_eqm (M1 := (mj_fin m7)) (by rw [em7] <;> rfl) ?_
    refine mj_go_aload_n (k := 0) (x := 95) rfl (mj_dt dt_X9_town 30 rfl) ?_
    refine mj_go_iconst (v := -1) rfl (mj_dt dt_X9_town 31 rfl) ?_
    obtain ⟨m8, em8, h⟩ := mj_mw_some h
    refine ml_putI (c := 9) (k := 10) fd_9_10 rfl fl_X9_22 ho_95 (mj_dt dt_X9_town 32 rfl) ?_
    refine ml_eqm (M1 := (mj_fin m8)) (by rw [em8] <;> rfl) ?_
    refine mj_go_iconst (v := 1) rfl (mj_dt dt_X9_town 33 rfl) ?_
    refine mj_go_istore_n (k := 3) (by decide) (mj_dt dt_X9_town 34 rfl) ?_
    refine mj_go_aload_n (k := 0) (x := 95) rfl (mj_dt dt_X9_town 35 rfl) ?_
    obtain ⟨r9, er9, h⟩ := mj_bind_some h
    refine ml_callV (Y' := mY_X9_item) (as := []) (rest := []) (c := 9) (v := (some (.int r9.1))) (M1 := (mj_fin r9.2)) ho_95 rfl lm_X9_231 wc_X9_item pl_X9_item ok_X9_item rfl rfl (Nat.le_of_ble_eq_true rfl) (k_X9_item (by omega) er9) (mj_dt dt_X9_town 36 rfl) ?_
    refine mj_go_istore (i := 4) (by decide) (mj_dt dt_X9_town 37 rfl) ?_
    refine mj_go_sub (lv' := [(0, .ref 95), (3, .int 1), (4, .int r9.1)]) (List.forall_mem_cons.mpr ⟨rfl, (List.forall_mem_cons.mpr ⟨rfl, (List.forall_mem_cons.mpr ⟨rfl, (fun _ h9 => absurd h9 List.not_mem_nil)⟩)⟩)⟩) ?_
    exact k_X9_town_62 hδ N _ _ h
  · rw [if_neg b2] at h
    refine mj_go_aload_n (k := 0) (x := 95) rfl (mj_dt dt_X9_town 7 rfl) ?_
    refine mj_go_iload_n (k := 2) (x := r1) rfl (mj_dt dt_X9_town 8 rfl) ?_
    obtain ⟨r3, er3, h⟩ := mj_bind_some h
    refine ml_callV (Y' := mY_X9_no) (as := [.int r1]) (rest := []) (c := 9) (v := (some (.int r3.1))) (M1 := (mj_fin r3.2)) ho_95 rfl lm_X9_134 wc_X9_no pl_X9_no ok_X9_no rfl rfl (Nat.le_of_ble_eq_true rfl) (k_X9_no (by omega) er3) (mj_dt dt_X9_town 9 rfl) ?_
    obtain rfl := Option.some.inj h
    exact mj_go_ret (v := some (.int r3.1)) (Nat.le_of_ble_eq_true rfl) (mj_retI (mj_dt dt_X9_town 10 rfl) rfl)
def f_X8_fault (N : Nat) (m : mj_m) : Option (Int32) := some (m.1 0 11)
theorem k_X8_fault {L : Nat} {xs : Nat → Int32} {δ N : Nat} {m : mj_m} (_ : 0 ≤ δ) {a : Int32} (h : f_X8_fault N m = some a) : mj_Cl (mj_EX L xs) δ mY_X8_fault [.ref 0] (mj_fin m) (some (.int a), (mj_fin m)) := by
  refine mj_cl_of ok_X8_fault (Nat.le_of_ble_eq_true rfl) ?_
  unfold f_X8_fault at h
  refine mj_go_aload_n (k := 0) (x := 0) rfl (mj_dt dt_X8_fault 0 rfl) ?_
  refine mk_getI (c := 8) (k := 11) (Or.inl fd_8_11) (Or.inl fl_X8_77) ho_0 (mj_dt dt_X8_fault 1 rfl) ?_
  obtain rfl := Option.some.inj h
  exact mj_go_ret (v := some (.int (m.1 0 11))) (Nat.le_of_ble_eq_true rfl) (mj_retI (mj_dt dt_X8_fault 2 rfl) rfl)
def f_X9_fault (N : Nat) (m : mj_m) : Option (Int32) := some (m.1 95 10)
theorem k_X9_fault {L : Nat} {xs : Nat → Int32} {δ N : Nat} {m : mj_m} (_ : 0 ≤ δ) {a : Int32} (h : f_X9_fault N m = some a) : mj_Cl (mj_EX L xs) δ mY_X9_fault [.ref 95] (mj_fin m) (some (.int a), (mj_fin m)) := by
  refine mj_cl_of ok_X9_fault (Nat.le_of_ble_eq_true rfl) ?_
  unfold f_X9_fault at h
  refine mj_go_aload_n (k := 0) (x := 95) rfl (mj_dt dt_X9_fault 0 rfl) ?_
  refine mk_getI (c := 9) (k := 10) (Or.inl fd_9_10) (Or.inl fl_X9_22) ho_95 (mj_dt dt_X9_fault 1 rfl) ?_
  obtain rfl := Option.some.inj h
  exact mj_go_ret (v := some (.int (m.1 95 10))) (Nat.le_of_ble_eq_true rfl) (mj_retI (mj_dt dt_X9_fault 2 rfl) rfl)
def f_X7_isShake_21 (N : Nat) (m : mj_m) : Option (Int32) := (some 0)
theorem k_X7_isShake_21 {L : Nat} {xs : Nat → Int32} {δ N : Nat} {m : mj_m} {a : Int32} (h : f_X7_isShake_21 N m = some a) : mj_Go (mj_EX L xs) δ mY_X7_isShake 21 [] [] (mj_fin m) (some (.int a), (mj_fin m)) := by
  unfold f_X7_isShake_21 at h
  refine mj_go_iconst (v := 0) rfl (mj_dt dt_X7_isShake 11 rfl) ?_
  obtain rfl := Option.some.inj h
  exact mj_go_ret (v := some (.int 0)) (Nat.le_of_ble_eq_true rfl) (mj_retZ (mj_dt dt_X7_isShake 12 rfl) rfl rfl)
def f_X7_isShake (N : Nat) (v1 : Int32) (m : mj_m) : Option (Int32) := if v1 < 0 then f_X7_isShake_21 N m else (if (m.1 1 8) ≤ v1 then f_X7_isShake_21 N m else (if 4 ≤ v1 then f_X7_isShake_21 N m else ((some 1))))
theorem k_X7_isShake {L : Nat} {xs : Nat → Int32} {δ N : Nat} {v1 : Int32} {m : mj_m} (_ : 0 ≤ δ) {a : Int32} (h : f_X7_isShake N v1 m = some a) : mj_Cl (mj_EX L xs) δ mY_X7_isShake [.ref 1, .int v1] (mj_fin m) (some (.int a), (mj_fin m)) := by
  refine mj_cl_of ok_X7_isShake (Nat.le_of_ble_eq_true rfl) ?_
  unfold f_X7_isShake at h
  refine mj_go_iload_n (k := 1) (x := v1) rfl (mj_dt dt_X7_isShake 0 rfl) ?_
  refine mj_go_if_lt (tgt := 21) rfl (mj_dt dt_X7_isShake 1 rfl) (fun b1 => ?_) (fun b1 => ?_)
  · rw [if_pos b1] at h
    refine mj_go_sub (lv' := []) (fun _ h9 => absurd h9 List.not_mem_nil) ?_
    exact k_X7_isShake_21 h
  · rw [if_neg b1] at h
    refine mj_go_iload_n (k := 1) (x := v1) rfl (mj_dt dt_X7_isShake 2 rfl) ?_
    refine mj_go_aload_n (k := 0) (x := 1) rfl (mj_dt dt_X7_isShake 3 rfl) ?_
    refine mk_getI (c := 7) (k := 8) (Or.inl fd_7_8) (Or.inl fl_X7_40) ho_1 (mj_dt dt_X7_isShake 4 rfl) ?_
    refine mj_go_icmp_ge (tgt := 21) rfl (mj_dt dt_X7_isShake 5 rfl) (fun b2 => ?_) (fun b2 => ?_)
    · rw [if_pos b2] at h
      refine mj_go_sub (lv' := []) (fun _ h9 => absurd h9 List.not_mem_nil) ?_
      exact k_X7_isShake_21 h
    · rw [if_neg b2] at h
      refine mj_go_iload_n (k := 1) (x := v1) rfl (mj_dt dt_X7_isShake 6 rfl) ?_
      refine mj_go_iconst (v := 4) rfl (mj_dt dt_X7_isShake 7 rfl) ?_
      refine mj_go_icmp_ge (tgt := 21) rfl (mj_dt dt_X7_isShake 8 rfl) (fun b3 => ?_) (fun b3 => ?_)
      · rw [if_pos b3] at h
        refine mj_go_sub (lv' := []) (fun _ h9 => absurd h9 List.not_mem_nil) ?_
        exact k_X7_isShake_21 h
      · rw [if_neg b3] at h
        refine mj_go_iconst (v := 1) rfl (mj_dt dt_X7_isShake 9 rfl) ?_
        refine mj_go_goto (tgt := 22) rfl (mj_dt dt_X7_isShake 10 rfl) ?_
        obtain rfl := Option.some.inj h
        exact mj_go_ret (v := some (.int 1)) (Nat.le_of_ble_eq_true rfl) (mj_retZ (mj_dt dt_X7_isShake 12 rfl) rfl rfl)
def f_X8_falls_22 (N : Nat) (m : mj_m) : Option (Int32 × mj_m) := (f_X8_refuse N 1 m).bind (fun r1 => some (r1.1, r1.2))
theorem k_X8_falls_22 {L : Nat} {xs : Nat → Int32} {δ N : Nat} {m : mj_m} (hδ : 0 ≤ δ) {a : Int32 × mj_m} (h : f_X8_falls_22 N m = some a) : mj_Go (mj_EX L xs) (δ + 1) mY_X8_falls 22 [(0, .ref 0)] [] (mj_fin m) (some (.int a.1), (mj_fin a.2)) := by
  unfold f_X8_falls_22 at h
  refine mj_go_aload_n (k := 0) (x := 0) rfl (mj_dt dt_X8_falls 10 rfl) ?_
  refine mj_go_iconst (v := 1) rfl (mj_dt dt_X8_falls 11 rfl) ?_
  obtain ⟨r1, er1, h⟩ := mj_bind_some h
  refine ml_callV (Y' := mY_X8_refuse) (as := [.int 1]) (rest := []) (c := 8) (v := (some (.int r1.1))) (M1 := (mj_fin r1.2)) ho_0 rfl lm_X8_86 wc_X8_refuse pl_X8_refuse ok_X8_refuse rfl rfl (Nat.le_of_ble_eq_true rfl) (k_X8_refuse (by omega) er1) (mj_dt dt_X8_falls 12 rfl) ?_
  obtain rfl := Option.some.inj h
  exact mj_go_ret (v := some (.int r1.1)) (Nat.le_of_ble_eq_true rfl) (mj_retI (mj_dt dt_X8_falls 13 rfl) rfl)
def f_X8_falls (N : Nat) (v1 : Int32) (v2 : Int32) (m : mj_m) : Option (Int32 × mj_m) := (f_X7_isHouse N v1 m).bind (fun r1 => if r1 = 0 then f_X8_falls_22 N m else ((f_X7_isShake N v2 m).bind (fun r3 => if r3 = 0 then f_X8_falls_22 N m else ((f_X7_tenths N v1 v2 5 m).bind (fun r5 => some (r5, m))))))
theorem k_X8_falls {L : Nat} {xs : Nat → Int32} {δ N : Nat} {v1 : Int32} {v2 : Int32} {m : mj_m} (hδ : 1 ≤ δ) {a : Int32 × mj_m} (h : f_X8_falls N v1 v2 m = some a) : mj_Cl (mj_EX L xs) δ mY_X8_falls [.ref 0, .int v1, .int v2] (mj_fin m) (some (.int a.1), (mj_fin a.2)) := by
  obtain ⟨δ, rfl⟩ : ∃ d, δ = d + 1 := ⟨δ - 1, by omega⟩
  have hδ : 0 ≤ δ := by omega
  refine mj_cl_of ok_X8_falls (Nat.le_of_ble_eq_true rfl) ?_
  unfold f_X8_falls at h
  refine mj_go_aload_n (k := 0) (x := 0) rfl (mj_dt dt_X8_falls 0 rfl) ?_
  refine ml_getR (c := 8) (k := 0) (q := 1) fd_8_0 rf_0_0 (Or.inl fl_X8_12) ho_0 (mj_dt dt_X8_falls 1 rfl) ?_
  refine mj_go_iload_n (k := 1) (x := v1) rfl (mj_dt dt_X8_falls 2 rfl) ?_
  obtain ⟨r1, er1, h⟩ := mj_bind_some h
  refine ml_callV (Y' := mY_X7_isHouse) (as := [.int v1]) (rest := []) (c := 7) (v := (some (.int r1))) (M1 := (mj_fin m)) ho_1 rfl lm_X8_185 wc_X7_isHouse pl_X7_isHouse ok_X7_isHouse rfl rfl (Nat.le_of_ble_eq_true rfl) (k_X7_isHouse (by omega) er1) (mj_dt dt_X8_falls 3 rfl) ?_
  refine mj_go_if_eq (tgt := 22) rfl (mj_dt dt_X8_falls 4 rfl) (fun b2 => ?_) (fun b2 => ?_)
  · rw [if_pos b2] at h
    refine mj_go_sub (lv' := [(0, .ref 0)]) (List.forall_mem_cons.mpr ⟨rfl, (fun _ h9 => absurd h9 List.not_mem_nil)⟩) ?_
    exact k_X8_falls_22 hδ h
  · rw [if_neg b2] at h
    refine mj_go_aload_n (k := 0) (x := 0) rfl (mj_dt dt_X8_falls 5 rfl) ?_
    refine ml_getR (c := 8) (k := 0) (q := 1) fd_8_0 rf_0_0 (Or.inl fl_X8_12) ho_0 (mj_dt dt_X8_falls 6 rfl) ?_
    refine mj_go_iload_n (k := 2) (x := v2) rfl (mj_dt dt_X8_falls 7 rfl) ?_
    obtain ⟨r3, er3, h⟩ := mj_bind_some h
    refine ml_callV (Y' := mY_X7_isShake) (as := [.int v2]) (rest := []) (c := 7) (v := (some (.int r3))) (M1 := (mj_fin m)) ho_1 rfl lm_X8_246 wc_X7_isShake pl_X7_isShake ok_X7_isShake rfl rfl (Nat.le_of_ble_eq_true rfl) (k_X7_isShake (by omega) er3) (mj_dt dt_X8_falls 8 rfl) ?_
    refine mj_go_if_ne (tgt := 28) rfl (mj_dt dt_X8_falls 9 rfl) (fun b4 => ?_) (fun b4 => ?_)
    · rw [if_neg b4] at h
      refine mj_go_aload_n (k := 0) (x := 0) rfl (mj_dt dt_X8_falls 14 rfl) ?_
      refine ml_getR (c := 8) (k := 0) (q := 1) fd_8_0 rf_0_0 (Or.inl fl_X8_12) ho_0 (mj_dt dt_X8_falls 15 rfl) ?_
      refine mj_go_iload_n (k := 1) (x := v1) rfl (mj_dt dt_X8_falls 16 rfl) ?_
      refine mj_go_iload_n (k := 2) (x := v2) rfl (mj_dt dt_X8_falls 17 rfl) ?_
      refine mj_go_aload_n (k := 0) (x := 0) rfl (mj_dt dt_X8_falls 18 rfl) ?_
      refine ml_getR (c := 8) (k := 0) (q := 1) fd_8_0 rf_0_0 (Or.inl fl_X8_12) ho_0 (mj_dt dt_X8_falls 19 rfl) ?_
      refine ml_getR (c := 7) (k := 3) (q := 5) fd_7_3 rf_1_3 (Or.inl fl_X8_215) ho_1 (mj_dt dt_X8_falls 20 rfl) ?_
      obtain ⟨r5, er5, h⟩ := mj_bind_some h
      refine ml_callV (Y' := mY_X7_tenths) (as := [.int v1, .int v2, .ref 5]) (rest := []) (c := 7) (v := (some (.int r5))) (M1 := (mj_fin m)) ho_1 rfl lm_X8_249 wc_X7_tenths pl_X7_tenths ok_X7_tenths rfl rfl (Nat.le_of_ble_eq_true rfl) (k_X7_tenths (by omega) er5) (mj_dt dt_X8_falls 21 rfl) ?_
      obtain rfl := Option.some.inj h
      exact mj_go_ret (v := some (.int r5)) (Nat.le_of_ble_eq_true rfl) (mj_retI (mj_dt dt_X8_falls 22 rfl) rfl)
    · rw [if_pos b4] at h
      refine mj_go_sub (lv' := [(0, .ref 0)]) (List.forall_mem_cons.mpr ⟨rfl, (fun _ h9 => absurd h9 List.not_mem_nil)⟩) ?_
      exact k_X8_falls_22 hδ h
def f_X9_isShake_16 (N : Nat) (m : mj_m) : Option (Int32) := (some 0)
theorem k_X9_isShake_16 {L : Nat} {xs : Nat → Int32} {δ N : Nat} {m : mj_m} {a : Int32} (h : f_X9_isShake_16 N m = some a) : mj_Go (mj_EX L xs) δ mY_X9_isShake 16 [] [] (mj_fin m) (some (.int a), (mj_fin m)) := by
  unfold f_X9_isShake_16 at h
  refine mj_go_iconst (v := 0) rfl (mj_dt dt_X9_isShake 8 rfl) ?_
  obtain rfl := Option.some.inj h
  exact mj_go_ret (v := some (.int 0)) (Nat.le_of_ble_eq_true rfl) (mj_retZ (mj_dt dt_X9_isShake 9 rfl) rfl rfl)
def f_X9_isShake (N : Nat) (v1 : Int32) (m : mj_m) : Option (Int32) := if v1 < 0 then f_X9_isShake_16 N m else (if (m.1 95 2) ≤ v1 then f_X9_isShake_16 N m else ((some 1)))
theorem k_X9_isShake {L : Nat} {xs : Nat → Int32} {δ N : Nat} {v1 : Int32} {m : mj_m} (_ : 0 ≤ δ) {a : Int32} (h : f_X9_isShake N v1 m = some a) : mj_Cl (mj_EX L xs) δ mY_X9_isShake [.ref 95, .int v1] (mj_fin m) (some (.int a), (mj_fin m)) := by
  refine mj_cl_of ok_X9_isShake (Nat.le_of_ble_eq_true rfl) ?_
  unfold f_X9_isShake at h
  refine mj_go_iload_n (k := 1) (x := v1) rfl (mj_dt dt_X9_isShake 0 rfl) ?_
  refine mj_go_if_lt (tgt := 16) rfl (mj_dt dt_X9_isShake 1 rfl) (fun b1 => ?_) (fun b1 => ?_)
  · rw [if_pos b1] at h
    refine mj_go_sub (lv' := []) (fun _ h9 => absurd h9 List.not_mem_nil) ?_
    exact k_X9_isShake_16 h
  · rw [if_neg b1] at h
    refine mj_go_iload_n (k := 1) (x := v1) rfl (mj_dt dt_X9_isShake 2 rfl) ?_
    refine mj_go_aload_n (k := 0) (x := 95) rfl (mj_dt dt_X9_isShake 3 rfl) ?_
    refine mk_getI (c := 9) (k := 2) (Or.inl fd_9_2) (Or.inl fl_X9_127) ho_95 (mj_dt dt_X9_isShake 4 rfl) ?_
    refine mj_go_icmp_ge (tgt := 16) rfl (mj_dt dt_X9_isShake 5 rfl) (fun b2 => ?_) (fun b2 => ?_)
    · rw [if_pos b2] at h
      refine mj_go_sub (lv' := []) (fun _ h9 => absurd h9 List.not_mem_nil) ?_
      exact k_X9_isShake_16 h
    · rw [if_neg b2] at h
      refine mj_go_iconst (v := 1) rfl (mj_dt dt_X9_isShake 6 rfl) ?_
      refine mj_go_goto (tgt := 17) rfl (mj_dt dt_X9_isShake 7 rfl) ?_
      obtain rfl := Option.some.inj h
      exact mj_go_ret (v := some (.int 1)) (Nat.le_of_ble_eq_true rfl) (mj_retZ (mj_dt dt_X9_isShake 9 rfl) rfl rfl)
def f_X9_falls_25 (N : Nat) (m : mj_m) : Option (Int32 × mj_m) := (f_X9_no N (-1 : Int32) m).bind (fun r1 => (some (r1.1, r1.2)))
theorem k_X9_falls_25 {L : Nat} {xs : Nat → Int32} {δ N : Nat} {m : mj_m} (hδ : 0 ≤ δ) {a : Int32 × mj_m} (h : f_X9_falls_25 N m = some a) : mj_Go (mj_EX L xs) (δ + 1) mY_X9_falls 25 [(0, .ref 95)] [] (mj_fin m) (some (.int a.1), (mj_fin a.2)) := by
  unfold f_X9_falls_25 at h
  refine mj_go_aload_n (k := 0) (x := 95) rfl (mj_dt dt_X9_falls 13 rfl) ?_
  refine mj_go_iconst (v := -1) rfl (mj_dt dt_X9_falls 14 rfl) ?_
  obtain ⟨r1, er1, h⟩ := mj_bind_some h
  refine ml_callV (Y' := mY_X9_no) (as := [.int (-1 : Int32)]) (rest := []) (c := 9) (v := (some (.int r1.1))) (M1 := (mj_fin r1.2)) ho_95 rfl lm_X9_134 wc_X9_no pl_X9_no ok_X9_no rfl rfl (Nat.le_of_ble_eq_true rfl) (k_X9_no (by omega) er1) (mj_dt dt_X9_falls 15 rfl) ?_
  obtain rfl := Option.some.inj h
  exact mj_go_ret (v := some (.int r1.1)) (Nat.le_of_ble_eq_true rfl) (mj_retI (mj_dt dt_X9_falls 16 rfl) rfl)
def f_X9_falls (N : Nat) (v1 : Int32) (v2 : Int32) (m : mj_m) : Option (Int32 × mj_m) := (f_X9_isHouse N v1 m).bind (fun r1 => if r1 = 0 then f_X9_falls_25 N m else ((f_X9_isShake N v2 m).bind (fun r3 => if r3 = 0 then f_X9_falls_25 N m else ((f_X9_fallsOf N v1 v2 m).bind (fun r5 => (some (r5, m)))))))
theorem k_X9_falls {L : Nat} {xs : Nat → Int32} {δ N : Nat} {v1 : Int32} {v2 : Int32} {m : mj_m} (hδ : 1 ≤ δ) {a : Int32 × mj_m} (h : f_X9_falls N v1 v2 m = some a) : mj_Cl (mj_EX L xs) δ mY_X9_falls [.ref 95, .int v1, .int v2] (mj_fin m) (some (.int a.1), (mj_fin a.2)) := by
  obtain ⟨δ, rfl⟩ : ∃ d, δ = d + 1 := ⟨δ - 1, by omega⟩
  have hδ : 0 ≤ δ := by omega
  refine mj_cl_of ok_X9_falls (Nat.le_of_ble_eq_true rfl) ?_
  unfold f_X9_falls at h
  refine mj_go_aload_n (k := 0) (x := 95) rfl (mj_dt dt_X9_falls 0 rfl) ?_
  refine mj_go_iload_n (k := 1) (x := v1) rfl (mj_dt dt_X9_falls 1 rfl) ?_
  obtain ⟨r1, er1, h⟩ := mj_bind_some h
  refine ml_callV (Y' := mY_X9_isHouse) (as := [.int v1]) (rest := []) (c := 9) (v := (some (.int r1))) (M1 := (mj_fin m)) ho_95 rfl lm_X9_168 wc_X9_isHouse pl_X9_isHouse ok_X9_isHouse rfl rfl (Nat.le_of_ble_eq_true rfl) (k_X9_isHouse (by omega) er1) (mj_dt dt_X9_falls 2 rfl) ?_
  refine mj_go_if_eq (tgt := 25) rfl (mj_dt dt_X9_falls 3 rfl) (fun b2 => ?_) (fun b2 => ?_)
  · rw [if_pos b2] at h
    refine mj_go_sub (lv' := [(0, .ref 95)]) (List.forall_mem_cons.mpr ⟨rfl, (fun _ h9 => absurd h9 List.not_mem_nil)⟩) ?_
    exact k_X9_falls_25 hδ h
  · rw [if_neg b2] at h
    refine mj_go_aload_n (k := 0) (x := 95) rfl (mj_dt dt_X9_falls 4 rfl) ?_
    refine mj_go_iload_n (k := 2) (x := v2) rfl (mj_dt dt_X9_falls 5 rfl) ?_
    obtain ⟨r3, er3, h⟩ := mj_bind_some h
    refine ml_callV (Y' := mY_X9_isShake) (as := [.int v2]) (rest := []) (c := 9) (v := (some (.int r3))) (M1 := (mj_fin m)) ho_95 rfl lm_X9_234 wc_X9_isShake pl_X9_isShake ok_X9_isShake rfl rfl (Nat.le_of_ble_eq_true rfl) (k_X9_isShake (by omega) er3) (mj_dt dt_X9_falls 6 rfl) ?_
    refine mj_go_if_eq (tgt := 25) rfl (mj_dt dt_X9_falls 7 rfl) (fun b4 => ?_) (fun b4 => ?_)
    · rw [if_pos b4] at h
      refine mj_go_sub (lv' := [(0, .ref 95)]) (List.forall_mem_cons.mpr ⟨rfl, (fun _ h9 => absurd h9 List.not_mem_nil)⟩) ?_
      exact k_X9_falls_25 hδ h
    · rw [if_neg b4] at h
      refine mj_go_aload_n (k := 0) (x := 95) rfl (mj_dt dt_X9_falls 8 rfl) ?_
      refine mj_go_iload_n (k := 1) (x := v1) rfl (mj_dt dt_X9_falls 9 rfl) ?_
      refine mj_go_iload_n (k := 2) (x := v2) rfl (mj_dt dt_X9_falls 10 rfl) ?_
      obtain ⟨r5, er5, h⟩ := mj_bind_some h
      refine ml_callV (Y' := mY_X9_fallsOf) (as := [.int v1, .int v2]) (rest := []) (c := 9) (v := (some (.int r5))) (M1 := (mj_fin m)) ho_95 rfl lm_X9_237 wc_X9_fallsOf pl_X9_fallsOf ok_X9_fallsOf rfl rfl (Nat.le_of_ble_eq_true rfl) (k_X9_fallsOf (by omega) er5) (mj_dt dt_X9_falls 11 rfl) ?_
      refine mj_go_goto (tgt := 30) rfl (mj_dt dt_X9_falls 12 rfl) ?_
      obtain rfl := Option.some.inj h
      exact mj_go_ret (v := some (.int r5)) (Nat.le_of_ble_eq_true rfl) (mj_retI (mj_dt dt_X9_falls 16 rfl) rfl)
def f_X7_streetsShutBy_28 (N : Nat) (k_4 : Int32 × Int32 → Option (Int32)) (v1 : Int32) (v2 : Int32) (v3 : Int32) (m : mj_m) : Option (Int32) := mj_mw (v3 + 1) (fun x1 => k_4 (v2, x1))
theorem k_X7_streetsShutBy_28 {L : Nat} {xs : Nat → Int32} {δ N : Nat} {v1 : Int32} {v2 : Int32} {v3 : Int32} {m : mj_m} {k_4 : Int32 × Int32 → Option (Int32)} (q_4 : ∀ (s_ : Int32 × Int32) (a_ : Int32), k_4 s_ = some a_ → mj_Go (mj_EX L xs) (δ + 1) mY_X7_streetsShutBy 4 [(0, .ref 1), (1, .int v1), (2, .int s_.1), (3, .int s_.2)] [] (mj_fin m) (some (.int a_), (mj_fin m))) (hδ : 0 ≤ δ) {a : Int32} (h : f_X7_streetsShutBy_28 N k_4 v1 v2 v3 m = some a) : mj_Go (mj_EX L xs) (δ + 1) mY_X7_streetsShutBy 28 [(0, .ref 1), (1, .int v1), (2, .int v2), (3, .int v3)] [] (mj_fin m) (some (.int a), (mj_fin m)) := by
  unfold f_X7_streetsShutBy_28 at h
  obtain ⟨x1, ex1, h⟩ := mj_mw_some h
  refine mj_go_iinc (i := 3) (x := v3) (v := x1) rfl (by rw [ex1] <;> rfl) (by decide) (mj_dt dt_X7_streetsShutBy 20 rfl) ?_
  refine mj_go_goto (tgt := 4) rfl (mj_dt dt_X7_streetsShutBy 21 rfl) ?_
  refine mj_go_sub (lv' := [(0, .ref 1), (1, .int v1), (2, .int v2), (3, .int x1)]) (List.forall_mem_cons.mpr ⟨rfl, (List.forall_mem_cons.mpr ⟨rfl, (List.forall_mem_cons.mpr ⟨rfl, (List.forall_mem_cons.mpr ⟨rfl, (fun _ h9 => absurd h9 List.not_mem_nil)⟩)⟩)⟩)⟩) ?_
  exact q_4 _ _ h
def f_X7_streetsShutBy_4 (N : Nat) (v1 : Int32) (m : mj_m) (k_4 : Int32 × Int32 → Option (Int32)) (s : Int32 × Int32) : Option (Int32) := if (m.1 1 7) ≤ s.2 then (some s.1) else (if ((v1 >>> (s.2 &&& 31)) &&& 1) = 0 then f_X7_streetsShutBy_28 N k_4 v1 s.1 s.2 m else ((f_X7_frontBit N s.2 m).bind (fun r3 => mj_mw (s.1 ||| r3) (fun x4 => f_X7_streetsShutBy_28 N k_4 v1 x4 s.2 m))))
theorem k_X7_streetsShutBy_4 {L : Nat} {xs : Nat → Int32} {δ N : Nat} {v1 : Int32} {m : mj_m} (hδ : 0 ≤ δ) : ∀ (n : Nat) (s : Int32 × Int32) (a : Int32), mj_lp n (f_X7_streetsShutBy_4 N v1 m) s = some a → mj_Go (mj_EX L xs) (δ + 1) mY_X7_streetsShutBy 4 [(0, .ref 1), (1, .int v1), (2, .int s.1), (3, .int s.2)] [] (mj_fin m) (some (.int a), (mj_fin m)) := by
  refine mj_lp_sound (fun k_4 s a q_4 h => ?_)
  unfold f_X7_streetsShutBy_4 at h
  refine mj_go_iload_n (k := 3) (x := s.2) rfl (mj_dt dt_X7_streetsShutBy 4 rfl) ?_
  refine mj_go_aload_n (k := 0) (x := 1) rfl (mj_dt dt_X7_streetsShutBy 5 rfl) ?_
  refine mk_getI (c := 7) (k := 7) (Or.inl fd_7_7) (Or.inl fl_X7_37) ho_1 (mj_dt dt_X7_streetsShutBy 6 rfl) ?_
  refine mj_go_icmp_ge (tgt := 34) rfl (mj_dt dt_X7_streetsShutBy 7 rfl) (fun b1 => ?_) (fun b1 => ?_)
  · rw [if_pos b1] at h
    refine mj_go_iload_n (k := 2) (x := s.1) rfl (mj_dt dt_X7_streetsShutBy 22 rfl) ?_
    obtain rfl := Option.some.inj h
    exact mj_go_ret (v := some (.int s.1)) (Nat.le_of_ble_eq_true rfl) (mj_retI (mj_dt dt_X7_streetsShutBy 23 rfl) rfl)
  · rw [if_neg b1] at h
    refine mj_go_iload_n (k := 1) (x := v1) rfl (mj_dt dt_X7_streetsShutBy 8 rfl) ?_
    refine mj_go_iload_n (k := 3) (x := s.2) rfl (mj_dt dt_X7_streetsShutBy 9 rfl) ?_
    refine mj_go_ishr (mj_dt dt_X7_streetsShutBy 10 rfl) ?_
    refine mj_go_iconst (v := 1) rfl (mj_dt dt_X7_streetsShutBy 11 rfl) ?_
    refine mj_go_iand (mj_dt dt_X7_streetsShutBy 12 rfl) ?_
    refine mj_go_if_eq (tgt := 28) rfl (mj_dt dt_X7_streetsShutBy 13 rfl) (fun b2 => ?_) (fun b2 => ?_)
    · rw [if_pos b2] at h
      refine mj_go_sub (lv' := [(0, .ref 1), (1, .int v1), (2, .int s.1), (3, .int s.2)]) (List.forall_mem_cons.mpr ⟨rfl, (List.forall_mem_cons.mpr ⟨rfl, (List.forall_mem_cons.mpr ⟨rfl, (List.forall_mem_cons.mpr ⟨rfl, (fun _ h9 => absurd h9 List.not_mem_nil)⟩)⟩)⟩)⟩) ?_
      exact k_X7_streetsShutBy_28 q_4 hδ h
    · rw [if_neg b2] at h
      refine mj_go_iload_n (k := 2) (x := s.1) rfl (mj_dt dt_X7_streetsShutBy 14 rfl) ?_
      refine mj_go_aload_n (k := 0) (x := 1) rfl (mj_dt dt_X7_streetsShutBy 15 rfl) ?_
      refine mj_go_iload_n (k := 3) (x := s.2) rfl (mj_dt dt_X7_streetsShutBy 16 rfl) ?_
      obtain ⟨r3, er3, h⟩ := mj_bind_some h
      refine ml_callV (Y' := mY_X7_frontBit) (as := [.int s.2]) (rest := [.int s.1]) (c := 7) (v := (some (.int r3))) (M1 := (mj_fin m)) ho_1 rfl lm_X7_100 wc_X7_frontBit pl_X7_frontBit ok_X7_frontBit rfl rfl (Nat.le_of_ble_eq_true rfl) (k_X7_frontBit (by omega) er3) (mj_dt dt_X7_streetsShutBy 17 rfl) ?_
      refine mj_go_ior (mj_dt dt_X7_streetsShutBy 18 rfl) ?_
      obtain ⟨x4, ex4, h⟩ := mj_mw_some h
      refine ml_eqi ex4 ?_
      refine mj_go_istore_n (k := 2) (by decide) (mj_dt dt_X7_streetsShutBy 19 rfl) ?_
      refine mj_go_sub (lv' := [(0, .ref 1), (1, .int v1), (2, .int x4), (3, .int s.2)]) (List.forall_mem_cons.mpr ⟨rfl, (List.forall_mem_cons.mpr ⟨rfl, (List.forall_mem_cons.mpr ⟨rfl, (List.forall_mem_cons.mpr ⟨rfl, (fun _ h9 => absurd h9 List.not_mem_nil)⟩)⟩)⟩)⟩) ?_
      exact k_X7_streetsShutBy_28 q_4 hδ h
def f_X7_streetsShutBy (N : Nat) (v1 : Int32) (m : mj_m) : Option (Int32) := mj_lp N (f_X7_streetsShutBy_4 N v1 m) (0, 0)
theorem k_X7_streetsShutBy {L : Nat} {xs : Nat → Int32} {δ N : Nat} {v1 : Int32} {m : mj_m} (hδ : 1 ≤ δ) {a : Int32} (h : f_X7_streetsShutBy N v1 m = some a) : mj_Cl (mj_EX L xs) δ mY_X7_streetsShutBy [.ref 1, .int v1] (mj_fin m) (some (.int a), (mj_fin m)) := by
  obtain ⟨δ, rfl⟩ : ∃ d, δ = d + 1 := ⟨δ - 1, by omega⟩
  have hδ : 0 ≤ δ := by omega
  refine mj_cl_of ok_X7_streetsShutBy (Nat.le_of_ble_eq_true rfl) ?_
  unfold f_X7_streetsShutBy at h
  refine mj_go_iconst (v := 0) rfl (mj_dt dt_X7_streetsShutBy 0 rfl) ?_
  refine mj_go_istore_n (k := 2) (by decide) (mj_dt dt_X7_streetsShutBy 1 rfl) ?_
  refine mj_go_iconst (v := 0) rfl (mj_dt dt_X7_streetsShutBy 2 rfl) ?_
  refine mj_go_istore_n (k := 3) (by decide) (mj_dt dt_X7_streetsShutBy 3 rfl) ?_
  refine mj_go_sub (lv' := [(0, .ref 1), (1, .int v1), (2, .int 0), (3, .int 0)]) (List.forall_mem_cons.mpr ⟨rfl, (List.forall_mem_cons.mpr ⟨rfl, (List.forall_mem_cons.mpr ⟨rfl, (List.forall_mem_cons.mpr ⟨rfl, (fun _ h9 => absurd h9 List.not_mem_nil)⟩)⟩)⟩)⟩) ?_
  exact k_X7_streetsShutBy_4 hδ N _ _ h
def f_X8_cut_17 (N : Nat) (m : mj_m) : Option (Int32 × mj_m) := (f_X8_refuse N 1 m).bind (fun r1 => some (r1.1, r1.2))
theorem k_X8_cut_17 {L : Nat} {xs : Nat → Int32} {δ N : Nat} {m : mj_m} (hδ : 1 ≤ δ) {a : Int32 × mj_m} (h : f_X8_cut_17 N m = some a) : mj_Go (mj_EX L xs) (δ + 1) mY_X8_cut 17 [(0, .ref 0)] [] (mj_fin m) (some (.int a.1), (mj_fin a.2)) := by
  unfold f_X8_cut_17 at h
  refine mj_go_aload_n (k := 0) (x := 0) rfl (mj_dt dt_X8_cut 9 rfl) ?_
  refine mj_go_iconst (v := 1) rfl (mj_dt dt_X8_cut 10 rfl) ?_
  obtain ⟨r1, er1, h⟩ := mj_bind_some h
  refine ml_callV (Y' := mY_X8_refuse) (as := [.int 1]) (rest := []) (c := 8) (v := (some (.int r1.1))) (M1 := (mj_fin r1.2)) ho_0 rfl lm_X8_86 wc_X8_refuse pl_X8_refuse ok_X8_refuse rfl rfl (Nat.le_of_ble_eq_true rfl) (k_X8_refuse (by omega) er1) (mj_dt dt_X8_cut 11 rfl) ?_
  obtain rfl := Option.some.inj h
  exact mj_go_ret (v := some (.int r1.1)) (Nat.le_of_ble_eq_true rfl) (mj_retI (mj_dt dt_X8_cut 12 rfl) rfl)
def f_X8_cut (N : Nat) (v1 : Int32) (m : mj_m) : Option (Int32 × mj_m) := if v1 < 0 then f_X8_cut_17 N m else (if v1 < (1 <<< ((m.1 1 7) &&& 31)) then ((f_X7_streetsShutBy N v1 m).bind (fun r3 => (f_X7_cutCorners N r3 m).bind (fun r4 => some (r4, m)))) else f_X8_cut_17 N m)
theorem k_X8_cut {L : Nat} {xs : Nat → Int32} {δ N : Nat} {v1 : Int32} {m : mj_m} (hδ : 2 ≤ δ) {a : Int32 × mj_m} (h : f_X8_cut N v1 m = some a) : mj_Cl (mj_EX L xs) δ mY_X8_cut [.ref 0, .int v1] (mj_fin m) (some (.int a.1), (mj_fin a.2)) := by
  obtain ⟨δ, rfl⟩ : ∃ d, δ = d + 1 := ⟨δ - 1, by omega⟩
  have hδ : 1 ≤ δ := by omega
  refine mj_cl_of ok_X8_cut (Nat.le_of_ble_eq_true rfl) ?_
  unfold f_X8_cut at h
  refine mj_go_iload_n (k := 1) (x := v1) rfl (mj_dt dt_X8_cut 0 rfl) ?_
  refine mj_go_if_lt (tgt := 17) rfl (mj_dt dt_X8_cut 1 rfl) (fun b1 => ?_) (fun b1 => ?_)
  · rw [if_pos b1] at h
    refine mj_go_sub (lv' := [(0, .ref 0)]) (List.forall_mem_cons.mpr ⟨rfl, (fun _ h9 => absurd h9 List.not_mem_nil)⟩) ?_
    exact k_X8_cut_17 hδ h
  · rw [if_neg b1] at h
    refine mj_go_iload_n (k := 1) (x := v1) rfl (mj_dt dt_X8_cut 2 rfl) ?_
    refine mj_go_iconst (v := 1) rfl (mj_dt dt_X8_cut 3 rfl) ?_
    refine mj_go_aload_n (k := 0) (x := 0) rfl (mj_dt dt_X8_cut 4 rfl) ?_
    refine ml_getR (c := 8) (k := 0) (q := 1) fd_8_0 rf_0_0 (Or.inl fl_X8_12) ho_0 (mj_dt dt_X8_cut 5 rfl) ?_
    refine mk_getI (c := 7) (k := 7) (Or.inl fd_7_7) (Or.inl fl_X8_253) ho_1 (mj_dt dt_X8_cut 6 rfl) ?_
    refine mj_go_ishl (mj_dt dt_X8_cut 7 rfl) ?_
    refine mj_go_icmp_lt (tgt := 23) rfl (mj_dt dt_X8_cut 8 rfl) (fun b2 => ?_) (fun b2 => ?_)
    · rw [if_pos b2] at h
      refine mj_go_aload_n (k := 0) (x := 0) rfl (mj_dt dt_X8_cut 13 rfl) ?_
      refine ml_getR (c := 8) (k := 0) (q := 1) fd_8_0 rf_0_0 (Or.inl fl_X8_12) ho_0 (mj_dt dt_X8_cut 14 rfl) ?_
      refine mj_go_aload_n (k := 0) (x := 0) rfl (mj_dt dt_X8_cut 15 rfl) ?_
      refine ml_getR (c := 8) (k := 0) (q := 1) fd_8_0 rf_0_0 (Or.inl fl_X8_12) ho_0 (mj_dt dt_X8_cut 16 rfl) ?_
      refine mj_go_iload_n (k := 1) (x := v1) rfl (mj_dt dt_X8_cut 17 rfl) ?_
      obtain ⟨r3, er3, h⟩ := mj_bind_some h
      refine ml_callV (Y' := mY_X7_streetsShutBy) (as := [.int v1]) (rest := [.ref 1]) (c := 7) (v := (some (.int r3))) (M1 := (mj_fin m)) ho_1 rfl lm_X8_256 wc_X7_streetsShutBy pl_X7_streetsShutBy ok_X7_streetsShutBy rfl rfl (Nat.le_of_ble_eq_true rfl) (k_X7_streetsShutBy (by omega) er3) (mj_dt dt_X8_cut 18 rfl) ?_
      obtain ⟨r4, er4, h⟩ := mj_bind_some h
      refine ml_callV (Y' := mY_X7_cutCorners) (as := [.int r3]) (rest := []) (c := 7) (v := (some (.int r4))) (M1 := (mj_fin m)) ho_1 rfl lm_X8_259 wc_X7_cutCorners pl_X7_cutCorners ok_X7_cutCorners rfl rfl (Nat.le_of_ble_eq_true rfl) (k_X7_cutCorners (by omega) er4) (mj_dt dt_X8_cut 19 rfl) ?_
      obtain rfl := Option.some.inj h
      exact mj_go_ret (v := some (.int r4)) (Nat.le_of_ble_eq_true rfl) (mj_retI (mj_dt dt_X8_cut 20 rfl) rfl)
    · rw [if_neg b2] at h
      refine mj_go_sub (lv' := [(0, .ref 0)]) (List.forall_mem_cons.mpr ⟨rfl, (fun _ h9 => absurd h9 List.not_mem_nil)⟩) ?_
      exact k_X8_cut_17 hδ h
def f_X9_cut_22 (N : Nat) (m : mj_m) : Option (Int32 × mj_m) := (f_X9_no N (-1 : Int32) m).bind (fun r1 => (some (r1.1, r1.2)))
theorem k_X9_cut_22 {L : Nat} {xs : Nat → Int32} {δ N : Nat} {m : mj_m} (hδ : 0 ≤ δ) {a : Int32 × mj_m} (h : f_X9_cut_22 N m = some a) : mj_Go (mj_EX L xs) (δ + 1) mY_X9_cut 22 [(0, .ref 95)] [] (mj_fin m) (some (.int a.1), (mj_fin a.2)) := by
  unfold f_X9_cut_22 at h
  refine mj_go_aload_n (k := 0) (x := 95) rfl (mj_dt dt_X9_cut 12 rfl) ?_
  refine mj_go_iconst (v := -1) rfl (mj_dt dt_X9_cut 13 rfl) ?_
  obtain ⟨r1, er1, h⟩ := mj_bind_some h
  refine ml_callV (Y' := mY_X9_no) (as := [.int (-1 : Int32)]) (rest := []) (c := 9) (v := (some (.int r1.1))) (M1 := (mj_fin r1.2)) ho_95 rfl lm_X9_134 wc_X9_no pl_X9_no ok_X9_no rfl rfl (Nat.le_of_ble_eq_true rfl) (k_X9_no (by omega) er1) (mj_dt dt_X9_cut 14 rfl) ?_
  obtain rfl := Option.some.inj h
  exact mj_go_ret (v := some (.int r1.1)) (Nat.le_of_ble_eq_true rfl) (mj_retI (mj_dt dt_X9_cut 15 rfl) rfl)
def f_X9_cut (N : Nat) (v1 : Int32) (m : mj_m) : Option (Int32 × mj_m) := if v1 < 0 then f_X9_cut_22 N m else (if (1 <<< ((m.1 95 1) &&& 31)) ≤ v1 then f_X9_cut_22 N m else ((f_X9_cutOf N v1 m).bind (fun r3 => (some (r3, m)))))
theorem k_X9_cut {L : Nat} {xs : Nat → Int32} {δ N : Nat} {v1 : Int32} {m : mj_m} (hδ : 1 ≤ δ) {a : Int32 × mj_m} (h : f_X9_cut N v1 m = some a) : mj_Cl (mj_EX L xs) δ mY_X9_cut [.ref 95, .int v1] (mj_fin m) (some (.int a.1), (mj_fin a.2)) := by
  obtain ⟨δ, rfl⟩ : ∃ d, δ = d + 1 := ⟨δ - 1, by omega⟩
  have hδ : 0 ≤ δ := by omega
  refine mj_cl_of ok_X9_cut (Nat.le_of_ble_eq_true rfl) ?_
  unfold f_X9_cut at h
  refine mj_go_iload_n (k := 1) (x := v1) rfl (mj_dt dt_X9_cut 0 rfl) ?_
  refine mj_go_if_lt (tgt := 22) rfl (mj_dt dt_X9_cut 1 rfl) (fun b1 => ?_) (fun b1 => ?_)
  · rw [if_pos b1] at h
    refine mj_go_sub (lv' := [(0, .ref 95)]) (List.forall_mem_cons.mpr ⟨rfl, (fun _ h9 => absurd h9 List.not_mem_nil)⟩) ?_
    exact k_X9_cut_22 hδ h
  · rw [if_neg b1] at h
    refine mj_go_iload_n (k := 1) (x := v1) rfl (mj_dt dt_X9_cut 2 rfl) ?_
    refine mj_go_iconst (v := 1) rfl (mj_dt dt_X9_cut 3 rfl) ?_
    refine mj_go_aload_n (k := 0) (x := 95) rfl (mj_dt dt_X9_cut 4 rfl) ?_
    refine mk_getI (c := 9) (k := 1) (Or.inl fd_9_1) (Or.inl fl_X9_124) ho_95 (mj_dt dt_X9_cut 5 rfl) ?_
    refine mj_go_ishl (mj_dt dt_X9_cut 6 rfl) ?_
    refine mj_go_icmp_ge (tgt := 22) rfl (mj_dt dt_X9_cut 7 rfl) (fun b2 => ?_) (fun b2 => ?_)
    · rw [if_pos b2] at h
      refine mj_go_sub (lv' := [(0, .ref 95)]) (List.forall_mem_cons.mpr ⟨rfl, (fun _ h9 => absurd h9 List.not_mem_nil)⟩) ?_
      exact k_X9_cut_22 hδ h
    · rw [if_neg b2] at h
      refine mj_go_aload_n (k := 0) (x := 95) rfl (mj_dt dt_X9_cut 8 rfl) ?_
      refine mj_go_iload_n (k := 1) (x := v1) rfl (mj_dt dt_X9_cut 9 rfl) ?_
      obtain ⟨r3, er3, h⟩ := mj_bind_some h
      refine ml_callV (Y' := mY_X9_cutOf) (as := [.int v1]) (rest := []) (c := 9) (v := (some (.int r3))) (M1 := (mj_fin m)) ho_95 rfl lm_X9_240 wc_X9_cutOf pl_X9_cutOf ok_X9_cutOf rfl rfl (Nat.le_of_ble_eq_true rfl) (k_X9_cutOf (by omega) er3) (mj_dt dt_X9_cut 10 rfl) ?_
      refine mj_go_goto (tgt := 27) rfl (mj_dt dt_X9_cut 11 rfl) ?_
      obtain rfl := Option.some.inj h
      exact mj_go_ret (v := some (.int r3)) (Nat.le_of_ble_eq_true rfl) (mj_retI (mj_dt dt_X9_cut 15 rfl) rfl)
def f_X8_sumOf_35 (N : Nat) (v1 : Int32) (v2 : Int32) (v3 : Int32) (m : mj_m) : Option (Int64 × mj_m) := (f_X2_weigh N v3 (1 - v2) v2 m).bind (fun r1 => (f_X2_sumOver N v1 5 r1).bind (fun r2 => some (r2.1, r2.2)))
theorem k_X8_sumOf_35 {L : Nat} {xs : Nat → Int32} {δ N : Nat} {v1 : Int32} {v2 : Int32} {v3 : Int32} {m : mj_m} (hδ : 2 ≤ δ) {a : Int64 × mj_m} (h : f_X8_sumOf_35 N v1 v2 v3 m = some a) : mj_Go (mj_EX L xs) (δ + 1) mY_X8_sumOf 35 [(0, .ref 0), (1, .int v1), (2, .int v2), (3, .int v3)] [] (mj_fin m) (some (.long a.1), (mj_fin a.2)) := by
  unfold f_X8_sumOf_35 at h
  refine mj_go_aload_n (k := 0) (x := 0) rfl (mj_dt dt_X8_sumOf 20 rfl) ?_
  refine ml_getR (c := 8) (k := 3) (q := 36) fd_8_3 rf_0_3 (Or.inl fl_X8_30) ho_0 (mj_dt dt_X8_sumOf 21 rfl) ?_
  refine mj_go_iload_n (k := 3) (x := v3) rfl (mj_dt dt_X8_sumOf 22 rfl) ?_
  refine mj_go_iconst (v := 1) rfl (mj_dt dt_X8_sumOf 23 rfl) ?_
  refine mj_go_iload_n (k := 2) (x := v2) rfl (mj_dt dt_X8_sumOf 24 rfl) ?_
  refine mj_go_isub (mj_dt dt_X8_sumOf 25 rfl) ?_
  refine mj_go_iload_n (k := 2) (x := v2) rfl (mj_dt dt_X8_sumOf 26 rfl) ?_
  obtain ⟨r1, er1, h⟩ := mj_bind_some h
  refine ml_callV (Y' := mY_X2_weigh) (as := [.int v3, .int (1 - v2), .int v2]) (rest := []) (c := 2) (v := none) (M1 := (mj_fin r1)) ho_36 rfl lm_X8_266 wc_X2_weigh pl_X2_weigh ok_X2_weigh rfl rfl (Nat.le_of_ble_eq_true rfl) (k_X2_weigh (by omega) er1) (mj_dt dt_X8_sumOf 27 rfl) ?_
  refine mj_go_aload_n (k := 0) (x := 0) rfl (mj_dt dt_X8_sumOf 28 rfl) ?_
  refine ml_getR (c := 8) (k := 3) (q := 36) fd_8_3 rf_0_3 (Or.inl fl_X8_30) ho_0 (mj_dt dt_X8_sumOf 29 rfl) ?_
  refine mj_go_iload_n (k := 1) (x := v1) rfl (mj_dt dt_X8_sumOf 30 rfl) ?_
  refine mj_go_aload_n (k := 0) (x := 0) rfl (mj_dt dt_X8_sumOf 31 rfl) ?_
  refine ml_getR (c := 8) (k := 0) (q := 1) fd_8_0 rf_0_0 (Or.inl fl_X8_12) ho_0 (mj_dt dt_X8_sumOf 32 rfl) ?_
  refine ml_getR (c := 7) (k := 3) (q := 5) fd_7_3 rf_1_3 (Or.inl fl_X8_215) ho_1 (mj_dt dt_X8_sumOf 33 rfl) ?_
  obtain ⟨r2, er2, h⟩ := mj_bind_some h
  refine ml_callV (Y' := mY_X2_sumOver) (as := [.int v1, .ref 5]) (rest := []) (c := 2) (v := (some (.long r2.1))) (M1 := (mj_fin r2.2)) ho_36 rfl lm_X8_270 wc_X2_sumOver pl_X2_sumOver ok_X2_sumOver rfl rfl (Nat.le_of_ble_eq_true rfl) (k_X2_sumOver (by omega) er2) (mj_dt dt_X8_sumOf 34 rfl) ?_
  obtain rfl := Option.some.inj h
  exact mj_go_ret (v := some (.long r2.1)) (Nat.le_of_ble_eq_true rfl) (mj_retL (mj_dt dt_X8_sumOf 35 rfl) rfl)
def f_X8_sumOf (N : Nat) (v1 : Int32) (v2 : Int32) (v3 : Int32) (m : mj_m) : Option (Int64 × mj_m) := (f_X7_isShake N v1 m).bind (fun r1 => if r1 = 0 then ((f_X8_refuse N 1 m).bind (fun r3 => some (r3.1.toInt64, r3.2))) else (if v2 = 0 then f_X8_sumOf_35 N v1 v2 v3 m else (if v2 = 1 then f_X8_sumOf_35 N v1 v2 v3 m else ((f_X8_refuse N 6 m).bind (fun r5 => some (r5.1.toInt64, r5.2))))))
theorem k_X8_sumOf {L : Nat} {xs : Nat → Int32} {δ N : Nat} {v1 : Int32} {v2 : Int32} {v3 : Int32} {m : mj_m} (hδ : 3 ≤ δ) {a : Int64 × mj_m} (h : f_X8_sumOf N v1 v2 v3 m = some a) : mj_Cl (mj_EX L xs) δ mY_X8_sumOf [.ref 0, .int v1, .int v2, .int v3] (mj_fin m) (some (.long a.1), (mj_fin a.2)) := by
  obtain ⟨δ, rfl⟩ : ∃ d, δ = d + 1 := ⟨δ - 1, by omega⟩
  have hδ : 2 ≤ δ := by omega
  refine mj_cl_of ok_X8_sumOf (Nat.le_of_ble_eq_true rfl) ?_
  unfold f_X8_sumOf at h
  refine mj_go_aload_n (k := 0) (x := 0) rfl (mj_dt dt_X8_sumOf 0 rfl) ?_
  refine ml_getR (c := 8) (k := 0) (q := 1) fd_8_0 rf_0_0 (Or.inl fl_X8_12) ho_0 (mj_dt dt_X8_sumOf 1 rfl) ?_
  refine mj_go_iload_n (k := 1) (x := v1) rfl (mj_dt dt_X8_sumOf 2 rfl) ?_
  obtain ⟨r1, er1, h⟩ := mj_bind_some h
  refine ml_callV (Y' := mY_X7_isShake) (as := [.int v1]) (rest := []) (c := 7) (v := (some (.int r1))) (M1 := (mj_fin m)) ho_1 rfl lm_X8_246 wc_X7_isShake pl_X7_isShake ok_X7_isShake rfl rfl (Nat.le_of_ble_eq_true rfl) (k_X7_isShake (by omega) er1) (mj_dt dt_X8_sumOf 3 rfl) ?_
  refine mj_go_if_ne (tgt := 18) rfl (mj_dt dt_X8_sumOf 4 rfl) (fun b2 => ?_) (fun b2 => ?_)
  · rw [if_neg b2] at h
    refine mj_go_iload_n (k := 2) (x := v2) rfl (mj_dt dt_X8_sumOf 10 rfl) ?_
    refine mj_go_if_eq (tgt := 35) rfl (mj_dt dt_X8_sumOf 11 rfl) (fun b3 => ?_) (fun b3 => ?_)
    · rw [if_pos b3] at h
      refine mj_go_sub (lv' := [(0, .ref 0), (1, .int v1), (2, .int v2), (3, .int v3)]) (List.forall_mem_cons.mpr ⟨rfl, (List.forall_mem_cons.mpr ⟨rfl, (List.forall_mem_cons.mpr ⟨rfl, (List.forall_mem_cons.mpr ⟨rfl, (fun _ h9 => absurd h9 List.not_mem_nil)⟩)⟩)⟩)⟩) ?_
      exact k_X8_sumOf_35 hδ h
    · rw [if_neg b3] at h
      refine mj_go_iload_n (k := 2) (x := v2) rfl (mj_dt dt_X8_sumOf 12 rfl) ?_
      refine mj_go_iconst (v := 1) rfl (mj_dt dt_X8_sumOf 13 rfl) ?_
      refine mj_go_icmp_eq (tgt := 35) rfl (mj_dt dt_X8_sumOf 14 rfl) (fun b4 => ?_) (fun b4 => ?_)
      · rw [if_pos b4] at h
        refine mj_go_sub (lv' := [(0, .ref 0), (1, .int v1), (2, .int v2), (3, .int v3)]) (List.forall_mem_cons.mpr ⟨rfl, (List.forall_mem_cons.mpr ⟨rfl, (List.forall_mem_cons.mpr ⟨rfl, (List.forall_mem_cons.mpr ⟨rfl, (fun _ h9 => absurd h9 List.not_mem_nil)⟩)⟩)⟩)⟩) ?_
        exact k_X8_sumOf_35 hδ h
      · rw [if_neg b4] at h
        refine mj_go_aload_n (k := 0) (x := 0) rfl (mj_dt dt_X8_sumOf 15 rfl) ?_
        refine mj_go_bipush (v := 6) rfl (mj_dt dt_X8_sumOf 16 rfl) ?_
        obtain ⟨r5, er5, h⟩ := mj_bind_some h
        refine ml_callV (Y' := mY_X8_refuse) (as := [.int 6]) (rest := []) (c := 8) (v := (some (.int r5.1))) (M1 := (mj_fin r5.2)) ho_0 rfl lm_X8_86 wc_X8_refuse pl_X8_refuse ok_X8_refuse rfl rfl (Nat.le_of_ble_eq_true rfl) (k_X8_refuse (by omega) er5) (mj_dt dt_X8_sumOf 17 rfl) ?_
        refine mj_go_i2l (mj_dt dt_X8_sumOf 18 rfl) ?_
        obtain rfl := Option.some.inj h
        exact mj_go_ret (v := some (.long (r5.1.toInt64))) (Nat.le_of_ble_eq_true rfl) (mj_retL (mj_dt dt_X8_sumOf 19 rfl) rfl)
  · rw [if_pos b2] at h
    refine mj_go_aload_n (k := 0) (x := 0) rfl (mj_dt dt_X8_sumOf 5 rfl) ?_
    refine mj_go_iconst (v := 1) rfl (mj_dt dt_X8_sumOf 6 rfl) ?_
    obtain ⟨r3, er3, h⟩ := mj_bind_some h
    refine ml_callV (Y' := mY_X8_refuse) (as := [.int 1]) (rest := []) (c := 8) (v := (some (.int r3.1))) (M1 := (mj_fin r3.2)) ho_0 rfl lm_X8_86 wc_X8_refuse pl_X8_refuse ok_X8_refuse rfl rfl (Nat.le_of_ble_eq_true rfl) (k_X8_refuse (by omega) er3) (mj_dt dt_X8_sumOf 7 rfl) ?_
    refine mj_go_i2l (mj_dt dt_X8_sumOf 8 rfl) ?_
    obtain rfl := Option.some.inj h
    exact mj_go_ret (v := some (.long (r3.1.toInt64))) (Nat.le_of_ble_eq_true rfl) (mj_retL (mj_dt dt_X8_sumOf 9 rfl) rfl)
def f_X8_lost (N : Nat) (v1 : Int32) (v2 : Int32) (m : mj_m) : Option (Int64 × mj_m) := (f_X8_sumOf N v1 v2 (m.1 1 10) m).bind (fun r1 => some (r1.1, r1.2))
theorem k_X8_lost {L : Nat} {xs : Nat → Int32} {δ N : Nat} {v1 : Int32} {v2 : Int32} {m : mj_m} (hδ : 4 ≤ δ) {a : Int64 × mj_m} (h : f_X8_lost N v1 v2 m = some a) : mj_Cl (mj_EX L xs) δ mY_X8_lost [.ref 0, .int v1, .int v2] (mj_fin m) (some (.long a.1), (mj_fin a.2)) := by
  obtain ⟨δ, rfl⟩ : ∃ d, δ = d + 1 := ⟨δ - 1, by omega⟩
  have hδ : 3 ≤ δ := by omega
  refine mj_cl_of ok_X8_lost (Nat.le_of_ble_eq_true rfl) ?_
  unfold f_X8_lost at h
  refine mj_go_aload_n (k := 0) (x := 0) rfl (mj_dt dt_X8_lost 0 rfl) ?_
  refine mj_go_iload_n (k := 1) (x := v1) rfl (mj_dt dt_X8_lost 1 rfl) ?_
  refine mj_go_iload_n (k := 2) (x := v2) rfl (mj_dt dt_X8_lost 2 rfl) ?_
  refine mj_go_aload_n (k := 0) (x := 0) rfl (mj_dt dt_X8_lost 3 rfl) ?_
  refine ml_getR (c := 8) (k := 0) (q := 1) fd_8_0 rf_0_0 (Or.inl fl_X8_12) ho_0 (mj_dt dt_X8_lost 4 rfl) ?_
  refine mk_getI (c := 7) (k := 10) (Or.inl fd_7_10) (Or.inl fl_X8_233) ho_1 (mj_dt dt_X8_lost 5 rfl) ?_
  obtain ⟨r1, er1, h⟩ := mj_bind_some h
  refine ml_callV (Y' := mY_X8_sumOf) (as := [.int v1, .int v2, .int (m.1 1 10)]) (rest := []) (c := 8) (v := (some (.long r1.1))) (M1 := (mj_fin r1.2)) ho_0 rfl lm_X8_262 wc_X8_sumOf pl_X8_sumOf ok_X8_sumOf rfl rfl (Nat.le_of_ble_eq_true rfl) (k_X8_sumOf (by omega) er1) (mj_dt dt_X8_lost 6 rfl) ?_
  obtain rfl := Option.some.inj h
  exact mj_go_ret (v := some (.long r1.1)) (Nat.le_of_ble_eq_true rfl) (mj_retL (mj_dt dt_X8_lost 7 rfl) rfl)
def f_X9_lost_24 (N : Nat) (m : mj_m) : Option (Int64 × mj_m) := (f_X9_no N (-6 : Int32) m).bind (fun r1 => some (r1.1.toInt64, r1.2))
theorem k_X9_lost_24 {L : Nat} {xs : Nat → Int32} {δ N : Nat} {m : mj_m} (hδ : 2 ≤ δ) {a : Int64 × mj_m} (h : f_X9_lost_24 N m = some a) : mj_Go (mj_EX L xs) (δ + 1) mY_X9_lost 24 [(0, .ref 95)] [] (mj_fin m) (some (.long a.1), (mj_fin a.2)) := by
  unfold f_X9_lost_24 at h
  refine mj_go_aload_n (k := 0) (x := 95) rfl (mj_dt dt_X9_lost 14 rfl) ?_
  refine mj_go_bipush (v := -6) rfl (mj_dt dt_X9_lost 15 rfl) ?_
  obtain ⟨r1, er1, h⟩ := mj_bind_some h
  refine ml_callV (Y' := mY_X9_no) (as := [.int (-6 : Int32)]) (rest := []) (c := 9) (v := (some (.int r1.1))) (M1 := (mj_fin r1.2)) ho_95 rfl lm_X9_134 wc_X9_no pl_X9_no ok_X9_no rfl rfl (Nat.le_of_ble_eq_true rfl) (k_X9_no (by omega) er1) (mj_dt dt_X9_lost 16 rfl) ?_
  refine mj_go_i2l (mj_dt dt_X9_lost 17 rfl) ?_
  obtain rfl := Option.some.inj h
  exact mj_go_ret (v := some (.long (r1.1.toInt64))) (Nat.le_of_ble_eq_true rfl) (mj_retL (mj_dt dt_X9_lost 18 rfl) rfl)
def f_X9_lost (N : Nat) (v1 : Int32) (v2 : Int32) (m : mj_m) : Option (Int64 × mj_m) := (f_X9_isShake N v1 m).bind (fun r1 => if r1 = 0 then ((f_X9_no N (-1 : Int32) m).bind (fun r3 => some (r3.1.toInt64, r3.2))) else (if v2 < 0 then f_X9_lost_24 N m else (if v2 ≤ 1 then ((f_X9_worthsBy N v2 1 m).bind (fun r5 => (f_X9_lostBy N v1 r5).bind (fun r6 => some (r6.1, r6.2)))) else f_X9_lost_24 N m)))
theorem k_X9_lost {L : Nat} {xs : Nat → Int32} {δ N : Nat} {v1 : Int32} {v2 : Int32} {m : mj_m} (hδ : 3 ≤ δ) {a : Int64 × mj_m} (h : f_X9_lost N v1 v2 m = some a) : mj_Cl (mj_EX L xs) δ mY_X9_lost [.ref 95, .int v1, .int v2] (mj_fin m) (some (.long a.1), (mj_fin a.2)) := by
  obtain ⟨δ, rfl⟩ : ∃ d, δ = d + 1 := ⟨δ - 1, by omega⟩
  have hδ : 2 ≤ δ := by omega
  refine mj_cl_of ok_X9_lost (Nat.le_of_ble_eq_true rfl) ?_
  unfold f_X9_lost at h
  refine mj_go_aload_n (k := 0) (x := 95) rfl (mj_dt dt_X9_lost 0 rfl) ?_
  refine mj_go_iload_n (k := 1) (x := v1) rfl (mj_dt dt_X9_lost 1 rfl) ?_
  obtain ⟨r1, er1, h⟩ := mj_bind_some h
  refine ml_callV (Y' := mY_X9_isShake) (as := [.int v1]) (rest := []) (c := 9) (v := (some (.int r1))) (M1 := (mj_fin m)) ho_95 rfl lm_X9_234 wc_X9_isShake pl_X9_isShake ok_X9_isShake rfl rfl (Nat.le_of_ble_eq_true rfl) (k_X9_isShake (by omega) er1) (mj_dt dt_X9_lost 2 rfl) ?_
  refine mj_go_if_ne (tgt := 15) rfl (mj_dt dt_X9_lost 3 rfl) (fun b2 => ?_) (fun b2 => ?_)
  · rw [if_neg b2] at h
    refine mj_go_iload_n (k := 2) (x := v2) rfl (mj_dt dt_X9_lost 9 rfl) ?_
    refine mj_go_if_lt (tgt := 24) rfl (mj_dt dt_X9_lost 10 rfl) (fun b3 => ?_) (fun b3 => ?_)
    · rw [if_pos b3] at h
      refine mj_go_sub (lv' := [(0, .ref 95)]) (List.forall_mem_cons.mpr ⟨rfl, (fun _ h9 => absurd h9 List.not_mem_nil)⟩) ?_
      exact k_X9_lost_24 hδ h
    · rw [if_neg b3] at h
      refine mj_go_iload_n (k := 2) (x := v2) rfl (mj_dt dt_X9_lost 11 rfl) ?_
      refine mj_go_iconst (v := 1) rfl (mj_dt dt_X9_lost 12 rfl) ?_
      refine mj_go_icmp_le (tgt := 32) rfl (mj_dt dt_X9_lost 13 rfl) (fun b4 => ?_) (fun b4 => ?_)
      · rw [if_pos b4] at h
        refine mj_go_aload_n (k := 0) (x := 95) rfl (mj_dt dt_X9_lost 19 rfl) ?_
        refine mj_go_iload_n (k := 2) (x := v2) rfl (mj_dt dt_X9_lost 20 rfl) ?_
        refine mj_go_iconst (v := 1) rfl (mj_dt dt_X9_lost 21 rfl) ?_
        obtain ⟨r5, er5, h⟩ := mj_bind_some h
        refine ml_callV (Y' := mY_X9_worthsBy) (as := [.int v2, .int 1]) (rest := []) (c := 9) (v := none) (M1 := (mj_fin r5)) ho_95 rfl lm_X9_251 wc_X9_worthsBy pl_X9_worthsBy ok_X9_worthsBy rfl rfl (Nat.le_of_ble_eq_true rfl) (k_X9_worthsBy (by omega) er5) (mj_dt dt_X9_lost 22 rfl) ?_
        refine mj_go_aload_n (k := 0) (x := 95) rfl (mj_dt dt_X9_lost 23 rfl) ?_
        refine mj_go_iload_n (k := 1) (x := v1) rfl (mj_dt dt_X9_lost 24 rfl) ?_
        obtain ⟨r6, er6, h⟩ := mj_bind_some h
        refine ml_callV (Y' := mY_X9_lostBy) (as := [.int v1]) (rest := []) (c := 9) (v := (some (.long r6.1))) (M1 := (mj_fin r6.2)) ho_95 rfl lm_X9_255 wc_X9_lostBy pl_X9_lostBy ok_X9_lostBy rfl rfl (Nat.le_of_ble_eq_true rfl) (k_X9_lostBy (by omega) er6) (mj_dt dt_X9_lost 25 rfl) ?_
        obtain rfl := Option.some.inj h
        exact mj_go_ret (v := some (.long r6.1)) (Nat.le_of_ble_eq_true rfl) (mj_retL (mj_dt dt_X9_lost 26 rfl) rfl)
      · rw [if_neg b4] at h
        refine mj_go_sub (lv' := [(0, .ref 95)]) (List.forall_mem_cons.mpr ⟨rfl, (fun _ h9 => absurd h9 List.not_mem_nil)⟩) ?_
        exact k_X9_lost_24 hδ h
  · rw [if_pos b2] at h
    refine mj_go_aload_n (k := 0) (x := 95) rfl (mj_dt dt_X9_lost 4 rfl) ?_
    refine mj_go_iconst (v := -1) rfl (mj_dt dt_X9_lost 5 rfl) ?_
    obtain ⟨r3, er3, h⟩ := mj_bind_some h
    refine ml_callV (Y' := mY_X9_no) (as := [.int (-1 : Int32)]) (rest := []) (c := 9) (v := (some (.int r3.1))) (M1 := (mj_fin r3.2)) ho_95 rfl lm_X9_134 wc_X9_no pl_X9_no ok_X9_no rfl rfl (Nat.le_of_ble_eq_true rfl) (k_X9_no (by omega) er3) (mj_dt dt_X9_lost 6 rfl) ?_
    refine mj_go_i2l (mj_dt dt_X9_lost 7 rfl) ?_
    obtain rfl := Option.some.inj h
    exact mj_go_ret (v := some (.long (r3.1.toInt64))) (Nat.le_of_ble_eq_true rfl) (mj_retL (mj_dt dt_X9_lost 8 rfl) rfl)
