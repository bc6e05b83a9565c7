/-! METHODS as functions, and their rows over the small machine (printed by program from the printed instructions) -/
def f_X9_alter_111 (N : Nat) (m : mj_m) : Option (Int32 × mj_m) := (f_X9_no N (-6 : Int32) m).bind (fun r1 => some (r1.1, r1.2))
theorem k_X9_alter_111 {L : Nat} {xs : Nat → Int32} {δ N : Nat} {m : mj_m} (hδ : 0 ≤ δ) {a : Int32 × mj_m} (h : f_X9_alter_111 N m = some a) : mj_Go (mj_EX L xs) (δ + 1) mY_X9_alter 111 [(0, .ref 95)] [] (mj_fin m) (some (.int a.1), (mj_fin a.2)) := by
  unfold f_X9_alter_111 at h
  refine mj_go_aload_n (k := 0) (x := 95) rfl (mj_dt dt_X9_alter 64 rfl) ?_
  refine mj_go_bipush (v := -6) rfl (mj_dt dt_X9_alter 65 rfl) ?_
  obtain ⟨r1, er1, h⟩ := mj_bind_some h
  refine ml_callV (Y' := mY_X9_no) (as := [.int (-6 : Int32)]) (rest := []) (c := 9) (v := (some (.int r1.1))) (M1 := (mj_fin r1.2)) ho_95 rfl lm_X9_134 wc_X9_no pl_X9_no ok_X9_no rfl rfl (Nat.le_of_ble_eq_true rfl) (k_X9_no (by omega) er1) (mj_dt dt_X9_alter 66 rfl) ?_
  obtain rfl := Option.some.inj h
  exact mj_go_ret (v := some (.int r1.1)) (Nat.le_of_ble_eq_true rfl) (mj_retI (mj_dt dt_X9_alter 67 rfl) rfl)
def f_X9_alter_79 (N : Nat) (v1 : Int32) (v2 : Int32) (v3 : Int32) (m : mj_m) : Option (Int32 × mj_m) := if v2 = 2 then (if v3 < 0 then f_X9_alter_111 N m else (if 2 < v3 then f_X9_alter_111 N m else (mj_ck (mj_b 0 108 v1) ( mj_mw (m.1 108 v1.toNatClampNeg) (fun x5 => mj_mw (mj_wI m 108 (v1.toNatClampNeg) v3) (fun m6 => (some (x5, m6)))))))) else f_X9_alter_111 N m
theorem k_X9_alter_79 {L : Nat} {xs : Nat → Int32} {δ N : Nat} {v1 : Int32} {v2 : Int32} {v3 : Int32} {m : mj_m} (hδ : 0 ≤ δ) {a : Int32 × mj_m} (h : f_X9_alter_79 N v1 v2 v3 m = some a) : mj_Go (mj_EX L xs) (δ + 1) mY_X9_alter 79 [(0, .ref 95), (1, .int v1), (2, .int v2), (3, .int v3)] [] (mj_fin m) (some (.int a.1), (mj_fin a.2)) := by
  unfold f_X9_alter_79 at h
  refine mj_go_iload_n (k := 2) (x := v2) rfl (mj_dt dt_X9_alter 45 rfl) ?_
  refine mj_go_iconst (v := 2) rfl (mj_dt dt_X9_alter 46 rfl) ?_
  refine mj_go_icmp_ne (tgt := 111) rfl (mj_dt dt_X9_alter 47 rfl) (fun b1 => ?_) (fun b1 => ?_)
  · rw [if_neg b1] at h
    refine mj_go_sub (lv' := [(0, .ref 95)]) (List.forall_mem_cons.mpr ⟨rfl, (fun _ h9 => absurd h9 List.not_mem_nil)⟩) ?_
    exact k_X9_alter_111 hδ h
  · rw [if_pos b1] at h
    refine mj_go_iload_n (k := 3) (x := v3) rfl (mj_dt dt_X9_alter 48 rfl) ?_
    refine mj_go_if_lt (tgt := 111) rfl (mj_dt dt_X9_alter 49 rfl) (fun b2 => ?_) (fun b2 => ?_)
    · rw [if_pos b2] at h
      refine mj_go_sub (lv' := [(0, .ref 95)]) (List.forall_mem_cons.mpr ⟨rfl, (fun _ h9 => absurd h9 List.not_mem_nil)⟩) ?_
      exact k_X9_alter_111 hδ h
    · rw [if_neg b2] at h
      refine mj_go_iload_n (k := 3) (x := v3) rfl (mj_dt dt_X9_alter 50 rfl) ?_
      refine mj_go_iconst (v := 2) rfl (mj_dt dt_X9_alter 51 rfl) ?_
      refine mj_go_icmp_gt (tgt := 111) rfl (mj_dt dt_X9_alter 52 rfl) (fun b3 => ?_) (fun b3 => ?_)
      · rw [if_pos b3] at h
        refine mj_go_sub (lv' := [(0, .ref 95)]) (List.forall_mem_cons.mpr ⟨rfl, (fun _ h9 => absurd h9 List.not_mem_nil)⟩) ?_
        exact k_X9_alter_111 hδ h
      · rw [if_neg b3] at h
        refine mj_go_aload_n (k := 0) (x := 95) rfl (mj_dt dt_X9_alter 53 rfl) ?_
        refine ml_getR (c := 9) (k := 23) (q := 108) fd_9_23 rf_95_23 (Or.inl fl_X9_62) ho_95 (mj_dt dt_X9_alter 54 rfl) ?_
        refine mj_go_iload_n (k := 1) (x := v1) rfl (mj_dt dt_X9_alter 55 rfl) ?_
        obtain ⟨c4, h⟩ := mj_ck_some h
        refine mk_iald c4 (mj_dt dt_X9_alter 56 rfl) ?_
        obtain ⟨x5, ex5, h⟩ := mj_mw_some h
        refine ml_eqi ex5 ?_
        refine mj_go_istore (i := 4) (by decide) (mj_dt dt_X9_alter 57 rfl) ?_
        refine mj_go_aload_n (k := 0) (x := 95) rfl (mj_dt dt_X9_alter 58 rfl) ?_
        refine ml_getR (c := 9) (k := 23) (q := 108) fd_9_23 rf_95_23 (Or.inl fl_X9_62) ho_95 (mj_dt dt_X9_alter 59 rfl) ?_
        refine mj_go_iload_n (k := 1) (x := v1) rfl (mj_dt dt_X9_alter 60 rfl) ?_
        refine mj_go_iload_n (k := 3) (x := v3) rfl (mj_dt dt_X9_alter 61 rfl) ?_
        obtain ⟨m6, em6, h⟩ := mj_mw_some h
        refine ml_iast c4 (mj_dt dt_X9_alter 62 rfl) ?_
        refine ml_eqm (M1 := (mj_fin m6)) (by rw [em6] <;> rfl) ?_
        refine mj_go_goto (tgt := 118) rfl (mj_dt dt_X9_alter 63 rfl) ?_
        refine mj_go_iload (i := 4) (x := x5) rfl (mj_dt dt_X9_alter 68 rfl) ?_
        obtain rfl := Option.some.inj h
        exact mj_go_ret (v := some (.int x5)) (Nat.le_of_ble_eq_true rfl) (mj_retI (mj_dt dt_X9_alter 69 rfl) rfl)
def f_X9_alter_46 (N : Nat) (v1 : Int32) (v2 : Int32) (v3 : Int32) (m : mj_m) : Option (Int32 × mj_m) := if v2 = 1 then (if v3 < 0 then f_X9_alter_79 N v1 v2 v3 m else (if 99 < v3 then f_X9_alter_79 N v1 v2 v3 m else (mj_ck (mj_b 0 104 v1) ( mj_mw (m.1 104 v1.toNatClampNeg) (fun x5 => mj_mw (mj_wI m 104 (v1.toNatClampNeg) v3) (fun m6 => (some (x5, m6)))))))) else f_X9_alter_79 N v1 v2 v3 m
theorem k_X9_alter_46 {L : Nat} {xs : Nat → Int32} {δ N : Nat} {v1 : Int32} {v2 : Int32} {v3 : Int32} {m : mj_m} (hδ : 0 ≤ δ) {a : Int32 × mj_m} (h : f_X9_alter_46 N v1 v2 v3 m = some a) : mj_Go (mj_EX L xs) (δ + 1) mY_X9_alter 46 [(0, .ref 95), (1, .int v1), (2, .int v2), (3, .int v3)] [] (mj_fin m) (some (.int a.1), (mj_fin a.2)) := by
  unfold f_X9_alter_46 at h
  refine mj_go_iload_n (k := 2) (x := v2) rfl (mj_dt dt_X9_alter 26 rfl) ?_
  refine mj_go_iconst (v := 1) rfl (mj_dt dt_X9_alter 27 rfl) ?_
  refine mj_go_icmp_ne (tgt := 79) rfl (mj_dt dt_X9_alter 28 rfl) (fun b1 => ?_) (fun b1 => ?_)
  · rw [if_neg b1] at h
    refine mj_go_sub (lv' := [(0, .ref 95), (1, .int v1), (2, .int v2), (3, .int v3)]) (List.forall_mem_cons.mpr ⟨rfl, (List.forall_mem_cons.mpr ⟨rfl, (List.forall_mem_cons.mpr ⟨rfl, (List.forall_mem_cons.mpr ⟨rfl, (fun _ h9 => absurd h9 List.not_mem_nil)⟩)⟩)⟩)⟩) ?_
    exact k_X9_alter_79 hδ h
  · rw [if_pos b1] at h
    refine mj_go_iload_n (k := 3) (x := v3) rfl (mj_dt dt_X9_alter 29 rfl) ?_
    refine mj_go_if_lt (tgt := 79) rfl (mj_dt dt_X9_alter 30 rfl) (fun b2 => ?_) (fun b2 => ?_)
    · rw [if_pos b2] at h
      refine mj_go_sub (lv' := [(0, .ref 95), (1, .int v1), (2, .int v2), (3, .int v3)]) (List.forall_mem_cons.mpr ⟨rfl, (List.forall_mem_cons.mpr ⟨rfl, (List.forall_mem_cons.mpr ⟨rfl, (List.forall_mem_cons.mpr ⟨rfl, (fun _ h9 => absurd h9 List.not_mem_nil)⟩)⟩)⟩)⟩) ?_
      exact k_X9_alter_79 hδ h
    · rw [if_neg b2] at h
      refine mj_go_iload_n (k := 3) (x := v3) rfl (mj_dt dt_X9_alter 31 rfl) ?_
      refine mj_go_bipush (v := 99) rfl (mj_dt dt_X9_alter 32 rfl) ?_
      refine mj_go_icmp_gt (tgt := 79) rfl (mj_dt dt_X9_alter 33 rfl) (fun b3 => ?_) (fun b3 => ?_)
      · rw [if_pos b3] at h
        refine mj_go_sub (lv' := [(0, .ref 95), (1, .int v1), (2, .int v2), (3, .int v3)]) (List.forall_mem_cons.mpr ⟨rfl, (List.forall_mem_cons.mpr ⟨rfl, (List.forall_mem_cons.mpr ⟨rfl, (List.forall_mem_cons.mpr ⟨rfl, (fun _ h9 => absurd h9 List.not_mem_nil)⟩)⟩)⟩)⟩) ?_
        exact k_X9_alter_79 hδ h
      · rw [if_neg b3] at h
        refine mj_go_aload_n (k := 0) (x := 95) rfl (mj_dt dt_X9_alter 34 rfl) ?_
        refine ml_getR (c := 9) (k := 19) (q := 104) fd_9_19 rf_95_19 (Or.inl fl_X9_50) ho_95 (mj_dt dt_X9_alter 35 rfl) ?_
        refine mj_go_iload_n (k := 1) (x := v1) rfl (mj_dt dt_X9_alter 36 rfl) ?_
        obtain ⟨c4, h⟩ := mj_ck_some h
        refine mk_iald c4 (mj_dt dt_X9_alter 37 rfl) ?_
        obtain ⟨x5, ex5, h⟩ := mj_mw_some h
        refine ml_eqi ex5 ?_
        refine mj_go_istore (i := 4) (by decide) (mj_dt dt_X9_alter 38 rfl) ?_
        refine mj_go_aload_n (k := 0) (x := 95) rfl (mj_dt dt_X9_alter 39 rfl) ?_
        refine ml_getR (c := 9) (k := 19) (q := 104) fd_9_19 rf_95_19 (Or.inl fl_X9_50) ho_95 (mj_dt dt_X9_alter 40 rfl) ?_
        refine mj_go_iload_n (k := 1) (x := v1) rfl (mj_dt dt_X9_alter 41 rfl) ?_
        refine mj_go_iload_n (k := 3) (x := v3) rfl (mj_dt dt_X9_alter 42 rfl) ?_
        obtain ⟨m6, em6, h⟩ := mj_mw_some h
        refine ml_iast c4 (mj_dt dt_X9_alter 43 rfl) ?_
        refine ml_eqm (M1 := (mj_fin m6)) (by rw [em6] <;> rfl) ?_
        refine mj_go_goto (tgt := 118) rfl (mj_dt dt_X9_alter 44 rfl) ?_
        refine mj_go_iload (i := 4) (x := x5) rfl (mj_dt dt_X9_alter 68 rfl) ?_
        obtain rfl := Option.some.inj h
        exact mj_go_ret (v := some (.int x5)) (Nat.le_of_ble_eq_true rfl) (mj_retI (mj_dt dt_X9_alter 69 rfl) rfl)
def f_X9_alter (N : Nat) (v1 : Int32) (v2 : Int32) (v3 : Int32) (m : mj_m) : Option (Int32 × mj_m) := (f_X9_isHouse N v1 m).bind (fun r1 => if r1 = 0 then ((f_X9_no N (-1 : Int32) m).bind (fun r3 => some (r3.1, r3.2))) else (if v2 = 0 then (if v3 < 0 then f_X9_alter_46 N v1 v2 v3 m else (if 99 < v3 then f_X9_alter_46 N v1 v2 v3 m else (mj_ck (mj_b 0 103 v1) ( mj_mw (m.1 103 v1.toNatClampNeg) (fun x7 => mj_mw (mj_wI m 103 (v1.toNatClampNeg) v3) (fun m8 => (some (x7, m8)))))))) else f_X9_alter_46 N v1 v2 v3 m))
theorem k_X9_alter {L : Nat} {xs : Nat → Int32} {δ N : Nat} {v1 : Int32} {v2 : Int32} {v3 : Int32} {m : mj_m} (hδ : 1 ≤ δ) {a : Int32 × mj_m} (h : f_X9_alter N v1 v2 v3 m = some a) : mj_Cl (mj_EX L xs) δ mY_X9_alter [.ref 95, .int v1, .int v2, .int v3] (mj_fin m) (some (.int a.1), (mj_fin a.2)) := by
  obtain ⟨δ, rfl⟩ : ∃ d, δ = d + 1 := ⟨δ - 1, by omega⟩
  have hδ : 0 ≤ δ := by omega
  refine mj_cl_of ok_X9_alter (Nat.le_of_ble_eq_true rfl) ?_
  unfold f_X9_alter at h
  refine mj_go_aload_n (k := 0) (x := 95) rfl (mj_dt dt_X9_alter 0 rfl) ?_
  refine mj_go_iload_n (k := 1) (x := v1) rfl (mj_dt dt_X9_alter 1 rfl) ?_
  obtain ⟨r1, er1, h⟩ := mj_bind_some h
  refine ml_callV (Y' := mY_X9_isHouse) (as := [.int v1]) (rest := []) (c := 9) (v := (some (.int r1))) (M1 := (mj_fin m)) ho_95 rfl lm_X9_168 wc_X9_isHouse pl_X9_isHouse ok_X9_isHouse rfl rfl (Nat.le_of_ble_eq_true rfl) (k_X9_isHouse (by omega) er1) (mj_dt dt_X9_alter 2 rfl) ?_
  refine mj_go_if_ne (tgt := 14) rfl (mj_dt dt_X9_alter 3 rfl) (fun b2 => ?_) (fun b2 => ?_)
  · rw [if_neg b2] at h
    refine mj_go_iload_n (k := 2) (x := v2) rfl (mj_dt dt_X9_alter 8 rfl) ?_
    refine mj_go_if_ne (tgt := 46) rfl (mj_dt dt_X9_alter 9 rfl) (fun b3 => ?_) (fun b3 => ?_)
    · rw [if_neg b3] at h
      refine mj_go_sub (lv' := [(0, .ref 95), (1, .int v1), (2, .int v2), (3, .int v3)]) (List.forall_mem_cons.mpr ⟨rfl, (List.forall_mem_cons.mpr ⟨rfl, (List.forall_mem_cons.mpr ⟨rfl, (List.forall_mem_cons.mpr ⟨rfl, (fun _ h9 => absurd h9 List.not_mem_nil)⟩)⟩)⟩)⟩) ?_
      exact k_X9_alter_46 hδ h
    · rw [if_pos b3] at h
      refine mj_go_iload_n (k := 3) (x := v3) rfl (mj_dt dt_X9_alter 10 rfl) ?_
      refine mj_go_if_lt (tgt := 46) rfl (mj_dt dt_X9_alter 11 rfl) (fun b4 => ?_) (fun b4 => ?_)
      · rw [if_pos b4] at h
        refine mj_go_sub (lv' := [(0, .ref 95), (1, .int v1), (2, .int v2), (3, .int v3)]) (List.forall_mem_cons.mpr ⟨rfl, (List.forall_mem_cons.mpr ⟨rfl, (List.forall_mem_cons.mpr ⟨rfl, (List.forall_mem_cons.mpr ⟨rfl, (fun _ h9 => absurd h9 List.not_mem_nil)⟩)⟩)⟩)⟩) ?_
        exact k_X9_alter_46 hδ h
      · rw [if_neg b4] at h
        refine mj_go_iload_n (k := 3) (x := v3) rfl (mj_dt dt_X9_alter 12 rfl) ?_
        refine mj_go_bipush (v := 99) rfl (mj_dt dt_X9_alter 13 rfl) ?_
        refine mj_go_icmp_gt (tgt := 46) rfl (mj_dt dt_X9_alter 14 rfl) (fun b5 => ?_) (fun b5 => ?_)
        · rw [if_pos b5] at h
          refine mj_go_sub (lv' := [(0, .ref 95), (1, .int v1), (2, .int v2), (3, .int v3)]) (List.forall_mem_cons.mpr ⟨rfl, (List.forall_mem_cons.mpr ⟨rfl, (List.forall_mem_cons.mpr ⟨rfl, (List.forall_mem_cons.mpr ⟨rfl, (fun _ h9 => absurd h9 List.not_mem_nil)⟩)⟩)⟩)⟩) ?_
          exact k_X9_alter_46 hδ h
        · rw [if_neg b5] at h
          refine mj_go_aload_n (k := 0) (x := 95) rfl (mj_dt dt_X9_alter 15 rfl) ?_
          refine ml_getR (c := 9) (k := 18) (q := 103) fd_9_18 rf_95_18 (Or.inl fl_X9_47) ho_95 (mj_dt dt_X9_alter 16 rfl) ?_
          refine mj_go_iload_n (k := 1) (x := v1) rfl (mj_dt dt_X9_alter 17 rfl) ?_
          obtain ⟨c6, h⟩ := mj_ck_some h
          refine mk_iald c6 (mj_dt dt_X9_alter 18 rfl) ?_
          obtain ⟨x7, ex7, h⟩ := mj_mw_some h
          refine ml_eqi ex7 ?_
          refine mj_go_istore (i := 4) (by decide) (mj_dt dt_X9_alter 19 rfl) ?_
          refine mj_go_aload_n (k := 0) (x := 95) rfl (mj_dt dt_X9_alter 20 rfl) ?_
          refine ml_getR (c := 9) (k := 18) (q := 103) fd_9_18 rf_95_18 (Or.inl fl_X9_47) ho_95 (mj_dt dt_X9_alter 21 rfl) ?_
          refine mj_go_iload_n (k := 1) (x := v1) rfl (mj_dt dt_X9_alter 22 rfl) ?_
          refine mj_go_iload_n (k := 3) (x := v3) rfl (mj_dt dt_X9_alter 23 rfl) ?_
          obtain ⟨m8, em8, h⟩ := mj_mw_some h
          refine ml_iast c6 (mj_dt dt_X9_alter 24 rfl) ?_
          refine ml_eqm (M1 := (mj_fin m8)) (by rw [em8] <;> rfl) ?_
          refine mj_go_goto (tgt := 118) rfl (mj_dt dt_X9_alter 25 rfl) ?_
          refine mj_go_iload (i := 4) (x := x7) rfl (mj_dt dt_X9_alter 68 rfl) ?_
          obtain rfl := Option.some.inj h
          exact mj_go_ret (v := some (.int x7)) (Nat.le_of_ble_eq_true rfl) (mj_retI (mj_dt dt_X9_alter 69 rfl) rfl)
  · rw [if_pos b2] at h
    refine mj_go_aload_n (k := 0) (x := 95) rfl (mj_dt dt_X9_alter 4 rfl) ?_
    refine mj_go_iconst (v := -1) rfl (mj_dt dt_X9_alter 5 rfl) ?_
    obtain ⟨r3, er3, h⟩ := mj_bind_some h
    refine ml_callV (Y' := mY_X9_no) (as := [.int (-1 : Int32)]) (rest := []) (c := 9) (v := (some (.int r3.1))) (M1 := (mj_fin r3.2)) ho_95 rfl lm_X9_134 wc_X9_no pl_X9_no ok_X9_no rfl rfl (Nat.le_of_ble_eq_true rfl) (k_X9_no (by omega) er3) (mj_dt dt_X9_alter 6 rfl) ?_
    obtain rfl := Option.some.inj h
    exact mj_go_ret (v := some (.int r3.1)) (Nat.le_of_ble_eq_true rfl) (mj_retI (mj_dt dt_X9_alter 7 rfl) rfl)
def f_X8_prop (N : Nat) (v1 : Int32) (v2 : Int32) (m : mj_m) : Option (Int32 × mj_m) := (f_X7_isHouse N v1 m).bind (fun r1 => if r1 = 0 then ((f_X8_refuse N 1 m).bind (fun r3 => some (r3.1, r3.2))) else (mj_ck (mj_b 2 4 v1) ( if (m.1 (8 + v1.toNatClampNeg) 7) = v2 then (some (0, m)) else (mj_ck (v2 == 0 || v2 == 1) ( mj_mw (mj_wI m (8 + v1.toNatClampNeg) 7 v2) (fun m6 => some (1, m6)))))))
theorem k_X8_prop {L : Nat} {xs : Nat → Int32} {δ N : Nat} {v1 : Int32} {v2 : Int32} {m : mj_m} (hδ : 1 ≤ δ) {a : Int32 × mj_m} (h : f_X8_prop N v1 v2 m = some a) : mj_Cl (mj_EX L xs) δ mY_X8_prop [.ref 0, .int v1, .int v2] (mj_fin m) (some (.int a.1), (mj_fin a.2)) := by
  obtain ⟨δ, rfl⟩ : ∃ d, δ = d + 1 := ⟨δ - 1, by omega⟩
  have hδ : 0 ≤ δ := by omega
  refine mj_cl_of ok_X8_prop (Nat.le_of_ble_eq_true rfl) ?_
  unfold f_X8_prop at h
  refine mj_go_aload_n (k := 0) (x := 0) rfl (mj_dt dt_X8_prop 0 rfl) ?_
  refine ml_getR (c := 8) (k := 0) (q := 1) fd_8_0 rf_0_0 (Or.inl fl_X8_12) ho_0 (mj_dt dt_X8_prop 1 rfl) ?_
  refine mj_go_iload_n (k := 1) (x := v1) rfl (mj_dt dt_X8_prop 2 rfl) ?_
  obtain ⟨r1, er1, h⟩ := mj_bind_some h
  refine ml_callV (Y' := mY_X7_isHouse) (as := [.int v1]) (rest := []) (c := 7) (v := (some (.int r1))) (M1 := (mj_fin m)) ho_1 rfl lm_X8_185 wc_X7_isHouse pl_X7_isHouse ok_X7_isHouse rfl rfl (Nat.le_of_ble_eq_true rfl) (k_X7_isHouse (by omega) er1) (mj_dt dt_X8_prop 3 rfl) ?_
  refine mj_go_if_ne (tgt := 17) rfl (mj_dt dt_X8_prop 4 rfl) (fun b2 => ?_) (fun b2 => ?_)
  · rw [if_neg b2] at h
    refine mj_go_aload_n (k := 0) (x := 0) rfl (mj_dt dt_X8_prop 9 rfl) ?_
    refine ml_getR (c := 8) (k := 0) (q := 1) fd_8_0 rf_0_0 (Or.inl fl_X8_12) ho_0 (mj_dt dt_X8_prop 10 rfl) ?_
    refine ml_getR (c := 7) (k := 2) (q := 4) fd_7_2 rf_1_2 (Or.inl fl_X8_188) ho_1 (mj_dt dt_X8_prop 11 rfl) ?_
    refine mj_go_iload_n (k := 1) (x := v1) rfl (mj_dt dt_X8_prop 12 rfl) ?_
    obtain ⟨c3, h⟩ := mj_ck_some h
    refine ml_aald2 (q := 8 + v1.toNatClampNeg) c3 (mj_hs4 c3).1 (mj_dt dt_X8_prop 13 rfl) ?_
    refine mk_getI (c := 1) (k := 7) (Or.inr fd_1_7) (Or.inl fl_X8_218) (mj_hs4 c3).2 (mj_dt dt_X8_prop 14 rfl) ?_
    refine mj_go_iload_n (k := 2) (x := v2) rfl (mj_dt dt_X8_prop 15 rfl) ?_
    refine mj_go_icmp_ne (tgt := 35) rfl (mj_dt dt_X8_prop 16 rfl) (fun b4 => ?_) (fun b4 => ?_)
    · rw [if_neg b4] at h
      refine mj_go_aload_n (k := 0) (x := 0) rfl (mj_dt dt_X8_prop 19 rfl) ?_
      refine ml_getR (c := 8) (k := 0) (q := 1) fd_8_0 rf_0_0 (Or.inl fl_X8_12) ho_0 (mj_dt dt_X8_prop 20 rfl) ?_
      refine ml_getR (c := 7) (k := 2) (q := 4) fd_7_2 rf_1_2 (Or.inl fl_X8_188) ho_1 (mj_dt dt_X8_prop 21 rfl) ?_
      refine mj_go_iload_n (k := 1) (x := v1) rfl (mj_dt dt_X8_prop 22 rfl) ?_
      refine ml_aald2 (q := 8 + v1.toNatClampNeg) c3 (mj_hs4 c3).1 (mj_dt dt_X8_prop 23 rfl) ?_
      refine mj_go_iload_n (k := 2) (x := v2) rfl (mj_dt dt_X8_prop 24 rfl) ?_
      obtain ⟨c5, h⟩ := mj_ck_some h
      obtain ⟨m6, em6, h⟩ := mj_mw_some h
      refine ml_putZ (c := 1) (k := 7) c5 fd_1_7 rfl fl_X8_218 (mj_hs4 c3).2 (mj_dt dt_X8_prop 25 rfl) ?_
      refine ml_eqm (M1 := (mj_fin m6)) (by rw [em6] <;> rfl) ?_
      refine mj_go_iconst (v := 1) rfl (mj_dt dt_X8_prop 26 rfl) ?_
      obtain rfl := Option.some.inj h
      exact mj_go_ret (v := some (.int 1)) (Nat.le_of_ble_eq_true rfl) (mj_retI (mj_dt dt_X8_prop 27 rfl) rfl)
    · rw [if_pos b4] at h
      refine mj_go_iconst (v := 0) rfl (mj_dt dt_X8_prop 17 rfl) ?_
      obtain rfl := Option.some.inj h
      exact mj_go_ret (v := some (.int 0)) (Nat.le_of_ble_eq_true rfl) (mj_retI (mj_dt dt_X8_prop 18 rfl) rfl)
  · rw [if_pos b2] at h
    refine mj_go_aload_n (k := 0) (x := 0) rfl (mj_dt dt_X8_prop 5 rfl) ?_
    refine mj_go_iconst (v := 1) rfl (mj_dt dt_X8_prop 6 rfl) ?_
    obtain ⟨r3, er3, h⟩ := mj_bind_some h
    refine ml_callV (Y' := mY_X8_refuse) (as := [.int 1]) (rest := []) (c := 8) (v := (some (.int r3.1))) (M1 := (mj_fin r3.2)) ho_0 rfl lm_X8_86 wc_X8_refuse pl_X8_refuse ok_X8_refuse rfl rfl (Nat.le_of_ble_eq_true rfl) (k_X8_refuse (by omega) er3) (mj_dt dt_X8_prop 7 rfl) ?_
    obtain rfl := Option.some.inj h
    exact mj_go_ret (v := some (.int r3.1)) (Nat.le_of_ble_eq_true rfl) (mj_retI (mj_dt dt_X8_prop 8 rfl) rfl)
def f_X9_prop_23 (N : Nat) (v1 : Int32) (s0 : Int32) (m : mj_m) : Option (Int32 × mj_m) := mj_ck (mj_b 0 109 v1) ( if (m.1 109 v1.toNatClampNeg) = s0 then (some (0, m)) else (mj_mw (mj_wI m 109 (v1.toNatClampNeg) s0) (fun m3 => some (1, m3))))
theorem k_X9_prop_23 {L : Nat} {xs : Nat → Int32} {δ N : Nat} {v1 : Int32} {s0 : Int32} {m : mj_m} (hδ : 0 ≤ δ) {a : Int32 × mj_m} (h : f_X9_prop_23 N v1 s0 m = some a) : mj_Go (mj_EX L xs) (δ + 1) mY_X9_prop 23 [(0, .ref 95), (1, .int v1)] [.int s0] (mj_fin m) (some (.int a.1), (mj_fin a.2)) := by
  unfold f_X9_prop_23 at h
  refine mj_go_istore_n (k := 3) (by decide) (mj_dt dt_X9_prop 13 rfl) ?_
  refine mj_go_aload_n (k := 0) (x := 95) rfl (mj_dt dt_X9_prop 14 rfl) ?_
  refine ml_getR (c := 9) (k := 24) (q := 109) fd_9_24 rf_95_24 (Or.inl fl_X9_65) ho_95 (mj_dt dt_X9_prop 15 rfl) ?_
  refine mj_go_iload_n (k := 1) (x := v1) rfl (mj_dt dt_X9_prop 16 rfl) ?_
  obtain ⟨c1, h⟩ := mj_ck_some h
  refine mk_iald c1 (mj_dt dt_X9_prop 17 rfl) ?_
  refine mj_go_iload_n (k := 3) (x := s0) rfl (mj_dt dt_X9_prop 18 rfl) ?_
  refine mj_go_icmp_ne (tgt := 36) rfl (mj_dt dt_X9_prop 19 rfl) (fun b2 => ?_) (fun b2 => ?_)
  · rw [if_neg b2] at h
    refine mj_go_aload_n (k := 0) (x := 95) rfl (mj_dt dt_X9_prop 22 rfl) ?_
    refine ml_getR (c := 9) (k := 24) (q := 109) fd_9_24 rf_95_24 (Or.inl fl_X9_65) ho_95 (mj_dt dt_X9_prop 23 rfl) ?_
    refine mj_go_iload_n (k := 1) (x := v1) rfl (mj_dt dt_X9_prop 24 rfl) ?_
    refine mj_go_iload_n (k := 3) (x := s0) rfl (mj_dt dt_X9_prop 25 rfl) ?_
    obtain ⟨m3, em3, h⟩ := mj_mw_some h
    refine ml_iast c1 (mj_dt dt_X9_prop 26 rfl) ?_
    refine ml_eqm (M1 := (mj_fin m3)) (by rw [em3] <;> rfl) ?_
    refine mj_go_iconst (v := 1) rfl (mj_dt dt_X9_prop 27 rfl) ?_
    obtain rfl := Option.some.inj h
    exact mj_go_ret (v := some (.int 1)) (Nat.le_of_ble_eq_true rfl) (mj_retI (mj_dt dt_X9_prop 28 rfl) rfl)
  · rw [if_pos b2] at h
    refine mj_go_iconst (v := 0) rfl (mj_dt dt_X9_prop 20 rfl) ?_
    obtain rfl := Option.some.inj h
    exact mj_go_ret (v := some (.int 0)) (Nat.le_of_ble_eq_true rfl) (mj_retI (mj_dt dt_X9_prop 21 rfl) rfl)
def f_X9_prop (N : Nat) (v1 : Int32) (v2 : Int32) (m : mj_m) : Option (Int32 × mj_m) := (f_X9_isHouse N v1 m).bind (fun r1 => if r1 = 0 then ((f_X9_no N (-1 : Int32) m).bind (fun r3 => some (r3.1, r3.2))) else (if v2 = 0 then (f_X9_prop_23 N v1 0 m) else (f_X9_prop_23 N v1 1 m)))
theorem k_X9_prop {L : Nat} {xs : Nat → Int32} {δ N : Nat} {v1 : Int32} {v2 : Int32} {m : mj_m} (hδ : 1 ≤ δ) {a : Int32 × mj_m} (h : f_X9_prop N v1 v2 m = some a) : mj_Cl (mj_EX L xs) δ mY_X9_prop [.ref 95, .int v1, .int v2] (mj_fin m) (some (.int a.1), (mj_fin a.2)) := by
  obtain ⟨δ, rfl⟩ : ∃ d, δ = d + 1 := ⟨δ - 1, by omega⟩
  have hδ : 0 ≤ δ := by omega
  refine mj_cl_of ok_X9_prop (Nat.le_of_ble_eq_true rfl) ?_
  unfold f_X9_prop at h
  refine mj_go_aload_n (k := 0) (x := 95) rfl (mj_dt dt_X9_prop 0 rfl) ?_
  refine mj_go_iload_n (k := 1) (x := v1) rfl (mj_dt dt_X9_prop 1 rfl) ?_
  obtain ⟨r1, er1, h⟩ := mj_bind_some h
  refine ml_callV (Y' := mY_X9_isHouse) (as := [.int v1]) (rest := []) (c := 9) (v := (some (.int r1))) (M1 := (mj_fin m)) ho_95 rfl lm_X9_168 wc_X9_isHouse pl_X9_isHouse ok_X9_isHouse rfl rfl (Nat.le_of_ble_eq_true rfl) (k_X9_isHouse (by omega) er1) (mj_dt dt_X9_prop 2 rfl) ?_
  refine mj_go_if_ne (tgt := 14) rfl (mj_dt dt_X9_prop 3 rfl) (fun b2 => ?_) (fun b2 => ?_)
  · rw [if_neg b2] at h
    refine mj_go_iload_n (k := 2) (x := v2) rfl (mj_dt dt_X9_prop 8 rfl) ?_
    refine mj_go_if_eq (tgt := 22) rfl (mj_dt dt_X9_prop 9 rfl) (fun b3 => ?_) (fun b3 => ?_)
    · rw [if_pos b3] at h
      refine mj_go_iconst (v := 0) rfl (mj_dt dt_X9_prop 12 rfl) ?_
      refine mj_go_sub (lv' := [(0, .ref 95), (1, .int v1)]) (List.forall_mem_cons.mpr ⟨rfl, (List.forall_mem_cons.mpr ⟨rfl, (fun _ h9 => absurd h9 List.not_mem_nil)⟩)⟩) ?_
      exact k_X9_prop_23 hδ h
    · rw [if_neg b3] at h
      refine mj_go_iconst (v := 1) rfl (mj_dt dt_X9_prop 10 rfl) ?_
      refine mj_go_goto (tgt := 23) rfl (mj_dt dt_X9_prop 11 rfl) ?_
      refine mj_go_sub (lv' := [(0, .ref 95), (1, .int v1)]) (List.forall_mem_cons.mpr ⟨rfl, (List.forall_mem_cons.mpr ⟨rfl, (fun _ h9 => absurd h9 List.not_mem_nil)⟩)⟩) ?_
      exact k_X9_prop_23 hδ h
  · rw [if_pos b2] at h
    refine mj_go_aload_n (k := 0) (x := 95) rfl (mj_dt dt_X9_prop 4 rfl) ?_
    refine mj_go_iconst (v := -1) rfl (mj_dt dt_X9_prop 5 rfl) ?_
    obtain ⟨r3, er3, h⟩ := mj_bind_some h
    refine ml_callV (Y' := mY_X9_no) (as := [.int (-1 : Int32)]) (rest := []) (c := 9) (v := (some (.int r3.1))) (M1 := (mj_fin r3.2)) ho_95 rfl lm_X9_134 wc_X9_no pl_X9_no ok_X9_no rfl rfl (Nat.le_of_ble_eq_true rfl) (k_X9_no (by omega) er3) (mj_dt dt_X9_prop 6 rfl) ?_
    obtain rfl := Option.some.inj h
    exact mj_go_ret (v := some (.int r3.1)) (Nat.le_of_ble_eq_true rfl) (mj_retI (mj_dt dt_X9_prop 7 rfl) rfl)
def f_X7_addShake (N : Nat) (v1 : Int32) (v2 : Int32) (m : mj_m) : Option (Int32 × mj_m) := if (m.1 1 8) < 4 then (mj_ck (mj_b 0 6 (m.1 1 8)) ( mj_mw (mj_wI m 6 ((m.1 1 8).toNatClampNeg) v1) (fun m3 => mj_ck (mj_b 0 7 (m3.1 1 8)) ( mj_mw (mj_wI m3 7 ((m3.1 1 8).toNatClampNeg) v2) (fun m5 => mj_mw (mj_wI m5 1 8 ((m5.1 1 8) + 1)) (fun m6 => some ((m6.1 1 8) - 1, m6))))))) else (some ((-1 : Int32), m))
theorem k_X7_addShake {L : Nat} {xs : Nat → Int32} {δ N : Nat} {v1 : Int32} {v2 : Int32} {m : mj_m} (_ : 0 ≤ δ) {a : Int32 × mj_m} (h : f_X7_addShake N v1 v2 m = some a) : mj_Cl (mj_EX L xs) δ mY_X7_addShake [.ref 1, .int v1, .int v2] (mj_fin m) (some (.int a.1), (mj_fin a.2)) := by
  refine mj_cl_of ok_X7_addShake (Nat.le_of_ble_eq_true rfl) ?_
  unfold f_X7_addShake at h
  refine mj_go_aload_n (k := 0) (x := 1) rfl (mj_dt dt_X7_addShake 0 rfl) ?_
  refine mk_getI (c := 7) (k := 8) (Or.inl fd_7_8) (Or.inl fl_X7_40) ho_1 (mj_dt dt_X7_addShake 1 rfl) ?_
  refine mj_go_iconst (v := 4) rfl (mj_dt dt_X7_addShake 2 rfl) ?_
  refine mj_go_icmp_lt (tgt := 10) rfl (mj_dt dt_X7_addShake 3 rfl) (fun b1 => ?_) (fun b1 => ?_)
  · rw [if_pos b1] at h
    refine mj_go_aload_n (k := 0) (x := 1) rfl (mj_dt dt_X7_addShake 6 rfl) ?_
    refine ml_getR (c := 7) (k := 4) (q := 6) fd_7_4 rf_1_4 (Or.inl fl_X7_27) ho_1 (mj_dt dt_X7_addShake 7 rfl) ?_
    refine mj_go_aload_n (k := 0) (x := 1) rfl (mj_dt dt_X7_addShake 8 rfl) ?_
    refine mk_getI (c := 7) (k := 8) (Or.inl fd_7_8) (Or.inl fl_X7_40) ho_1 (mj_dt dt_X7_addShake 9 rfl) ?_
    refine mj_go_iload_n (k := 1) (x := v1) rfl (mj_dt dt_X7_addShake 10 rfl) ?_
    obtain ⟨c2, h⟩ := mj_ck_some h
    obtain ⟨m3, em3, h⟩ := mj_mw_some h
    refine ml_iast c2 (mj_dt dt_X7_addShake 11 rfl) ?_
    refine ml_eqm (M1 := (mj_fin m3)) (by rw [em3] <;> rfl) ?_
    refine mj_go_aload_n (k := 0) (x := 1) rfl (mj_dt dt_X7_addShake 12 rfl) ?_
    refine ml_getR (c := 7) (k := 5) (q := 7) fd_7_5 rf_1_5 (Or.inl fl_X7_30) ho_1 (mj_dt dt_X7_addShake 13 rfl) ?_
    refine mj_go_aload_n (k := 0) (x := 1) rfl (mj_dt dt_X7_addShake 14 rfl) ?_
    refine mk_getI (c := 7) (k := 8) (Or.inl fd_7_8) (Or.inl fl_X7_40) ho_1 (mj_dt dt_X7_addShake 15 rfl) ?_
    refine mj_go_iload_n (k := 2) (x := v2) rfl (mj_dt dt_X7_addShake 16 rfl) ?_
    obtain ⟨c4, h⟩ := mj_ck_some h
    obtain ⟨m5, em5, h⟩ := mj_mw_some h
    refine ml_iast c4 (mj_dt dt_X7_addShake 17 rfl) ?_
    refine ml_eqm (M1 := (mj_fin m5)) (by rw [em5] <;> rfl) ?_
    refine mj_go_aload_n (k := 0) (x := 1) rfl (mj_dt dt_X7_addShake 18 rfl) ?_
    refine mj_go_dup rfl (mj_dt dt_X7_addShake 19 rfl) ?_
    refine mk_getI (c := 7) (k := 8) (Or.inl fd_7_8) (Or.inl fl_X7_40) ho_1 (mj_dt dt_X7_addShake 20 rfl) ?_
    refine mj_go_iconst (v := 1) rfl (mj_dt dt_X7_addShake 21 rfl) ?_
    refine mj_go_iadd (mj_dt dt_X7_addShake 22 rfl) ?_
    obtain ⟨m6, em6, h⟩ := mj_mw_some h
    refine ml_putI (c := 7) (k := 8) fd_7_8 rfl fl_X7_40 ho_1 (mj_dt dt_X7_addShake 23 rfl) ?_
    refine ml_eqm (M1 := (mj_fin m6)) (by rw [em6] <;> rfl) ?_
    refine mj_go_aload_n (k := 0) (x := 1) rfl (mj_dt dt_X7_addShake 24 rfl) ?_
    refine mk_getI (c := 7) (k := 8) (Or.inl fd_7_8) (Or.inl fl_X7_40) ho_1 (mj_dt dt_X7_addShake 25 rfl) ?_
    refine mj_go_iconst (v := 1) rfl (mj_dt dt_X7_addShake 26 rfl) ?_
    refine mj_go_isub (mj_dt dt_X7_addShake 27 rfl) ?_
    obtain rfl := Option.some.inj h
    exact mj_go_ret (v := some (.int ((m6.1 1 8) - 1))) (Nat.le_of_ble_eq_true rfl) (mj_retI (mj_dt dt_X7_addShake 28 rfl) rfl)
  · rw [if_neg b1] at h
    refine mj_go_iconst (v := -1) rfl (mj_dt dt_X7_addShake 4 rfl) ?_
    obtain rfl := Option.some.inj h
    exact mj_go_ret (v := some (.int (-1 : Int32))) (Nat.le_of_ble_eq_true rfl) (mj_retI (mj_dt dt_X7_addShake 5 rfl) rfl)
def f_X8_shake_20 (N : Nat) (m : mj_m) : Option (Int32 × mj_m) := (f_X8_refuse N 6 m).bind (fun r1 => some (r1.1, r1.2))
theorem k_X8_shake_20 {L : Nat} {xs : Nat → Int32} {δ N : Nat} {m : mj_m} (hδ : 0 ≤ δ) {a : Int32 × mj_m} (h : f_X8_shake_20 N m = some a) : mj_Go (mj_EX L xs) (δ + 1) mY_X8_shake 20 [(0, .ref 0)] [] (mj_fin m) (some (.int a.1), (mj_fin a.2)) := by
  unfold f_X8_shake_20 at h
  refine mj_go_aload_n (k := 0) (x := 0) rfl (mj_dt dt_X8_shake 10 rfl) ?_
  refine mj_go_bipush (v := 6) rfl (mj_dt dt_X8_shake 11 rfl) ?_
  obtain ⟨r1, er1, h⟩ := mj_bind_some h
  refine ml_callV (Y' := mY_X8_refuse) (as := [.int 6]) (rest := []) (c := 8) (v := (some (.int r1.1))) (M1 := (mj_fin r1.2)) ho_0 rfl lm_X8_86 wc_X8_refuse pl_X8_refuse ok_X8_refuse rfl rfl (Nat.le_of_ble_eq_true rfl) (k_X8_refuse (by omega) er1) (mj_dt dt_X8_shake 12 rfl) ?_
  obtain rfl := Option.some.inj h
  exact mj_go_ret (v := some (.int r1.1)) (Nat.le_of_ble_eq_true rfl) (mj_retI (mj_dt dt_X8_shake 13 rfl) rfl)
def f_X8_shake (N : Nat) (v1 : Int32) (v2 : Int32) (m : mj_m) : Option (Int32 × mj_m) := if v1 < 0 then f_X8_shake_20 N m else (if 99 < v1 then f_X8_shake_20 N m else (if v2 < 0 then f_X8_shake_20 N m else (if v2 ≤ 9 then ((f_X7_addShake N v1 v2 m).bind (fun r5 => if r5.1 = (-1 : Int32) then ((f_X8_refuse N 7 r5.2).bind (fun r7 => (some (r7.1, r7.2)))) else ((some (r5.1, r5.2))))) else f_X8_shake_20 N m)))
theorem k_X8_shake {L : Nat} {xs : Nat → Int32} {δ N : Nat} {v1 : Int32} {v2 : Int32} {m : mj_m} (hδ : 1 ≤ δ) {a : Int32 × mj_m} (h : f_X8_shake N v1 v2 m = some a) : mj_Cl (mj_EX L xs) δ mY_X8_shake [.ref 0, .int v1, .int v2] (mj_fin m) (some (.int a.1), (mj_fin a.2)) := by
  obtain ⟨δ, rfl⟩ : ∃ d, δ = d + 1 := ⟨δ - 1, by omega⟩
  have hδ : 0 ≤ δ := by omega
  refine mj_cl_of ok_X8_shake (Nat.le_of_ble_eq_true rfl) ?_
  unfold f_X8_shake at h
  refine mj_go_iload_n (k := 1) (x := v1) rfl (mj_dt dt_X8_shake 0 rfl) ?_
  refine mj_go_if_lt (tgt := 20) rfl (mj_dt dt_X8_shake 1 rfl) (fun b1 => ?_) (fun b1 => ?_)
  · rw [if_pos b1] at h
    refine mj_go_sub (lv' := [(0, .ref 0)]) (List.forall_mem_cons.mpr ⟨rfl, (fun _ h9 => absurd h9 List.not_mem_nil)⟩) ?_
    exact k_X8_shake_20 hδ h
  · rw [if_neg b1] at h
    refine mj_go_iload_n (k := 1) (x := v1) rfl (mj_dt dt_X8_shake 2 rfl) ?_
    refine mj_go_bipush (v := 99) rfl (mj_dt dt_X8_shake 3 rfl) ?_
    refine mj_go_icmp_gt (tgt := 20) rfl (mj_dt dt_X8_shake 4 rfl) (fun b2 => ?_) (fun b2 => ?_)
    · rw [if_pos b2] at h
      refine mj_go_sub (lv' := [(0, .ref 0)]) (List.forall_mem_cons.mpr ⟨rfl, (fun _ h9 => absurd h9 List.not_mem_nil)⟩) ?_
      exact k_X8_shake_20 hδ h
    · rw [if_neg b2] at h
      refine mj_go_iload_n (k := 2) (x := v2) rfl (mj_dt dt_X8_shake 5 rfl) ?_
      refine mj_go_if_lt (tgt := 20) rfl (mj_dt dt_X8_shake 6 rfl) (fun b3 => ?_) (fun b3 => ?_)
      · rw [if_pos b3] at h
        refine mj_go_sub (lv' := [(0, .ref 0)]) (List.forall_mem_cons.mpr ⟨rfl, (fun _ h9 => absurd h9 List.not_mem_nil)⟩) ?_
        exact k_X8_shake_20 hδ h
      · rw [if_neg b3] at h
        refine mj_go_iload_n (k := 2) (x := v2) rfl (mj_dt dt_X8_shake 7 rfl) ?_
        refine mj_go_bipush (v := 9) rfl (mj_dt dt_X8_shake 8 rfl) ?_
        refine mj_go_icmp_le (tgt := 27) rfl (mj_dt dt_X8_shake 9 rfl) (fun b4 => ?_) (fun b4 => ?_)
        · rw [if_pos b4] at h
          refine mj_go_aload_n (k := 0) (x := 0) rfl (mj_dt dt_X8_shake 14 rfl) ?_
          refine ml_getR (c := 8) (k := 0) (q := 1) fd_8_0 rf_0_0 (Or.inl fl_X8_12) ho_0 (mj_dt dt_X8_shake 15 rfl) ?_
          refine mj_go_iload_n (k := 1) (x := v1) rfl (mj_dt dt_X8_shake 16 rfl) ?_
          refine mj_go_iload_n (k := 2) (x := v2) rfl (mj_dt dt_X8_shake 17 rfl) ?_
          obtain ⟨r5, er5, h⟩ := mj_bind_some h
          refine ml_callV (Y' := mY_X7_addShake) (as := [.int v1, .int v2]) (rest := []) (c := 7) (v := (some (.int r5.1))) (M1 := (mj_fin r5.2)) ho_1 rfl lm_X8_227 wc_X7_addShake pl_X7_addShake ok_X7_addShake rfl rfl (Nat.le_of_ble_eq_true rfl) (k_X7_addShake (by omega) er5) (mj_dt dt_X8_shake 18 rfl) ?_
          refine mj_go_istore_n (k := 3) (by decide) (mj_dt dt_X8_shake 19 rfl) ?_
          refine mj_go_iload_n (k := 3) (x := r5.1) rfl (mj_dt dt_X8_shake 20 rfl) ?_
          refine mj_go_iconst (v := -1) rfl (mj_dt dt_X8_shake 21 rfl) ?_
          refine mj_go_icmp_ne (tgt := 51) rfl (mj_dt dt_X8_shake 22 rfl) (fun b6 => ?_) (fun b6 => ?_)
          · rw [if_neg b6] at h
            refine mj_go_iload_n (k := 3) (x := r5.1) rfl (mj_dt dt_X8_shake 27 rfl) ?_
            obtain rfl := Option.some.inj h
            exact mj_go_ret (v := some (.int r5.1)) (Nat.le_of_ble_eq_true rfl) (mj_retI (mj_dt dt_X8_shake 28 rfl) rfl)
          · rw [if_pos b6] at h
            refine mj_go_aload_n (k := 0) (x := 0) rfl (mj_dt dt_X8_shake 23 rfl) ?_
            refine mj_go_bipush (v := 7) rfl (mj_dt dt_X8_shake 24 rfl) ?_
            obtain ⟨r7, er7, h⟩ := mj_bind_some h
            refine ml_callV (Y' := mY_X8_refuse) (as := [.int 7]) (rest := []) (c := 8) (v := (some (.int r7.1))) (M1 := (mj_fin r7.2)) ho_0 rfl lm_X8_86 wc_X8_refuse pl_X8_refuse ok_X8_refuse rfl rfl (Nat.le_of_ble_eq_true rfl) (k_X8_refuse (by omega) er7) (mj_dt dt_X8_shake 25 rfl) ?_
            refine mj_go_goto (tgt := 52) rfl (mj_dt dt_X8_shake 26 rfl) ?_
            obtain rfl := Option.some.inj h
            exact mj_go_ret (v := some (.int r7.1)) (Nat.le_of_ble_eq_true rfl) (mj_retI (mj_dt dt_X8_shake 28 rfl) rfl)
        · rw [if_neg b4] at h
          refine mj_go_sub (lv' := [(0, .ref 0)]) (List.forall_mem_cons.mpr ⟨rfl, (fun _ h9 => absurd h9 List.not_mem_nil)⟩) ?_
          exact k_X8_shake_20 hδ h
def f_X9_shakes (N : Nat) (v1 : Int32) (v2 : Int32) (m : mj_m) : Option (Int32 × mj_m) := mj_ck (mj_b 0 99 (m.1 95 2)) ( mj_mw (mj_wI m 99 ((m.1 95 2).toNatClampNeg) v1) (fun m2 => mj_ck (mj_b 0 100 (m2.1 95 2)) ( mj_mw (mj_wI m2 100 ((m2.1 95 2).toNatClampNeg) v2) (fun m4 => mj_mw (mj_wI m4 95 2 ((m4.1 95 2) + 1)) (fun m5 => some (m4.1 95 2, m5))))))
theorem k_X9_shakes {L : Nat} {xs : Nat → Int32} {δ N : Nat} {v1 : Int32} {v2 : Int32} {m : mj_m} (_ : 0 ≤ δ) {a : Int32 × mj_m} (h : f_X9_shakes N v1 v2 m = some a) : mj_Cl (mj_EX L xs) δ mY_X9_shakes [.ref 95, .int v1, .int v2] (mj_fin m) (some (.int a.1), (mj_fin a.2)) := by
  refine mj_cl_of ok_X9_shakes (Nat.le_of_ble_eq_true rfl) ?_
  unfold f_X9_shakes at h
  refine mj_go_aload_n (k := 0) (x := 95) rfl (mj_dt dt_X9_shakes 0 rfl) ?_
  refine ml_getR (c := 9) (k := 14) (q := 99) fd_9_14 rf_95_14 (Or.inl fl_X9_35) ho_95 (mj_dt dt_X9_shakes 1 rfl) ?_
  refine mj_go_aload_n (k := 0) (x := 95) rfl (mj_dt dt_X9_shakes 2 rfl) ?_
  refine mk_getI (c := 9) (k := 2) (Or.inl fd_9_2) (Or.inl fl_X9_127) ho_95 (mj_dt dt_X9_shakes 3 rfl) ?_
  refine mj_go_iload_n (k := 1) (x := v1) rfl (mj_dt dt_X9_shakes 4 rfl) ?_
  obtain ⟨c1, h⟩ := mj_ck_some h
  obtain ⟨m2, em2, h⟩ := mj_mw_some h
  refine ml_iast c1 (mj_dt dt_X9_shakes 5 rfl) ?_
  refine ml_eqm (M1 := (mj_fin m2)) (by rw [em2] <;> rfl) ?_
  refine mj_go_aload_n (k := 0) (x := 95) rfl (mj_dt dt_X9_shakes 6 rfl) ?_
  refine ml_getR (c := 9) (k := 15) (q := 100) fd_9_15 rf_95_15 (Or.inl fl_X9_38) ho_95 (mj_dt dt_X9_shakes 7 rfl) ?_
  refine mj_go_aload_n (k := 0) (x := 95) rfl (mj_dt dt_X9_shakes 8 rfl) ?_
  refine mk_getI (c := 9) (k := 2) (Or.inl fd_9_2) (Or.inl fl_X9_127) ho_95 (mj_dt dt_X9_shakes 9 rfl) ?_
  refine mj_go_iload_n (k := 2) (x := v2) rfl (mj_dt dt_X9_shakes 10 rfl) ?_
  obtain ⟨c3, h⟩ := mj_ck_some h
  obtain ⟨m4, em4, h⟩ := mj_mw_some h
  refine ml_iast c3 (mj_dt dt_X9_shakes 11 rfl) ?_
  refine ml_eqm (M1 := (mj_fin m4)) (by rw [em4] <;> rfl) ?_
  refine mj_go_aload_n (k := 0) (x := 95) rfl (mj_dt dt_X9_shakes 12 rfl) ?_
  refine mj_go_dup rfl (mj_dt dt_X9_shakes 13 rfl) ?_
  refine mk_getI (c := 9) (k := 2) (Or.inl fd_9_2) (Or.inl fl_X9_127) ho_95 (mj_dt dt_X9_shakes 14 rfl) ?_
  refine mj_go_dup_x1 rfl rfl (mj_dt dt_X9_shakes 15 rfl) ?_
  refine mj_go_iconst (v := 1) rfl (mj_dt dt_X9_shakes 16 rfl) ?_
  refine mj_go_iadd (mj_dt dt_X9_shakes 17 rfl) ?_
  obtain ⟨m5, em5, h⟩ := mj_mw_some h
  refine ml_putI (c := 9) (k := 2) fd_9_2 rfl fl_X9_127 ho_95 (mj_dt dt_X9_shakes 18 rfl) ?_
  refine ml_eqm (M1 := (mj_fin m5)) (by rw [em5] <;> rfl) ?_
  obtain rfl := Option.some.inj h
  exact mj_go_ret (v := some (.int (m4.1 95 2))) (Nat.le_of_ble_eq_true rfl) (mj_retI (mj_dt dt_X9_shakes 19 rfl) rfl)
def f_X9_shake_20 (N : Nat) (m : mj_m) : Option (Int32 × mj_m) := (f_X9_no N (-6 : Int32) m).bind (fun r1 => some (r1.1, r1.2))
theorem k_X9_shake_20 {L : Nat} {xs : Nat → Int32} {δ N : Nat} {m : mj_m} (hδ : 0 ≤ δ) {a : Int32 × mj_m} (h : f_X9_shake_20 N m = some a) : mj_Go (mj_EX L xs) (δ + 1) mY_X9_shake 20 [(0, .ref 95)] [] (mj_fin m) (some (.int a.1), (mj_fin a.2)) := by
  unfold f_X9_shake_20 at h
  refine mj_go_aload_n (k := 0) (x := 95) rfl (mj_dt dt_X9_shake 10 rfl) ?_
  refine mj_go_bipush (v := -6) rfl (mj_dt dt_X9_shake 11 rfl) ?_
  obtain ⟨r1, er1, h⟩ := mj_bind_some h
  refine ml_callV (Y' := mY_X9_no) (as := [.int (-6 : Int32)]) (rest := []) (c := 9) (v := (some (.int r1.1))) (M1 := (mj_fin r1.2)) ho_95 rfl lm_X9_134 wc_X9_no pl_X9_no ok_X9_no rfl rfl (Nat.le_of_ble_eq_true rfl) (k_X9_no (by omega) er1) (mj_dt dt_X9_shake 12 rfl) ?_
  obtain rfl := Option.some.inj h
  exact mj_go_ret (v := some (.int r1.1)) (Nat.le_of_ble_eq_true rfl) (mj_retI (mj_dt dt_X9_shake 13 rfl) rfl)
def f_X9_shake (N : Nat) (v1 : Int32) (v2 : Int32) (m : mj_m) : Option (Int32 × mj_m) := if v1 < 0 then f_X9_shake_20 N m else (if 99 < v1 then f_X9_shake_20 N m else (if v2 < 0 then f_X9_shake_20 N m else (if v2 ≤ 9 then (if (m.1 95 2) = 4 then ((f_X9_no N (-7 : Int32) m).bind (fun r6 => (some (r6.1, r6.2)))) else ((f_X9_shakes N v1 v2 m).bind (fun r6 => (some (r6.1, r6.2))))) else f_X9_shake_20 N m)))
theorem k_X9_shake {L : Nat} {xs : Nat → Int32} {δ N : Nat} {v1 : Int32} {v2 : Int32} {m : mj_m} (hδ : 1 ≤ δ) {a : Int32 × mj_m} (h : f_X9_shake N v1 v2 m = some a) : mj_Cl (mj_EX L xs) δ mY_X9_shake [.ref 95, .int v1, .int v2] (mj_fin m) (some (.int a.1), (mj_fin a.2)) := by
  obtain ⟨δ, rfl⟩ : ∃ d, δ = d + 1 := ⟨δ - 1, by omega⟩
  have hδ : 0 ≤ δ := by omega
  refine mj_cl_of ok_X9_shake (Nat.le_of_ble_eq_true rfl) ?_
  unfold f_X9_shake at h
  refine mj_go_iload_n (k := 1) (x := v1) rfl (mj_dt dt_X9_shake 0 rfl) ?_
  refine mj_go_if_lt (tgt := 20) rfl (mj_dt dt_X9_shake 1 rfl) (fun b1 => ?_) (fun b1 => ?_)
  · rw [if_pos b1] at h
    refine mj_go_sub (lv' := [(0, .ref 95)]) (List.forall_mem_cons.mpr ⟨rfl, (fun _ h9 => absurd h9 List.not_mem_nil)⟩) ?_
    exact k_X9_shake_20 hδ h
  · rw [if_neg b1] at h
    refine mj_go_iload_n (k := 1) (x := v1) rfl (mj_dt dt_X9_shake 2 rfl) ?_
    refine mj_go_bipush (v := 99) rfl (mj_dt dt_X9_shake 3 rfl) ?_
    refine mj_go_icmp_gt (tgt := 20) rfl (mj_dt dt_X9_shake 4 rfl) (fun b2 => ?_) (fun b2 => ?_)
    · rw [if_pos b2] at h
      refine mj_go_sub (lv' := [(0, .ref 95)]) (List.forall_mem_cons.mpr ⟨rfl, (fun _ h9 => absurd h9 List.not_mem_nil)⟩) ?_
      exact k_X9_shake_20 hδ h
    · rw [if_neg b2] at h
      refine mj_go_iload_n (k := 2) (x := v2) rfl (mj_dt dt_X9_shake 5 rfl) ?_
      refine mj_go_if_lt (tgt := 20) rfl (mj_dt dt_X9_shake 6 rfl) (fun b3 => ?_) (fun b3 => ?_)
      · rw [if_pos b3] at h
        refine mj_go_sub (lv' := [(0, .ref 95)]) (List.forall_mem_cons.mpr ⟨rfl, (fun _ h9 => absurd h9 List.not_mem_nil)⟩) ?_
        exact k_X9_shake_20 hδ h
      · rw [if_neg b3] at h
        refine mj_go_iload_n (k := 2) (x := v2) rfl (mj_dt dt_X9_shake 7 rfl) ?_
        refine mj_go_bipush (v := 9) rfl (mj_dt dt_X9_shake 8 rfl) ?_
        refine mj_go_icmp_le (tgt := 27) rfl (mj_dt dt_X9_shake 9 rfl) (fun b4 => ?_) (fun b4 => ?_)
        · rw [if_pos b4] at h
          refine mj_go_aload_n (k := 0) (x := 95) rfl (mj_dt dt_X9_shake 14 rfl) ?_
          refine mk_getI (c := 9) (k := 2) (Or.inl fd_9_2) (Or.inl fl_X9_127) ho_95 (mj_dt dt_X9_shake 15 rfl) ?_
          refine mj_go_iconst (v := 4) rfl (mj_dt dt_X9_shake 16 rfl) ?_
          refine mj_go_icmp_ne (tgt := 44) rfl (mj_dt dt_X9_shake 17 rfl) (fun b5 => ?_) (fun b5 => ?_)
          · rw [if_neg b5] at h
            refine mj_go_aload_n (k := 0) (x := 95) rfl (mj_dt dt_X9_shake 22 rfl) ?_
            refine mj_go_iload_n (k := 1) (x := v1) rfl (mj_dt dt_X9_shake 23 rfl) ?_
            refine mj_go_iload_n (k := 2) (x := v2) rfl (mj_dt dt_X9_shake 24 rfl) ?_
            obtain ⟨r6, er6, h⟩ := mj_bind_some h
            refine ml_callV (Y' := mY_X9_shakes) (as := [.int v1, .int v2]) (rest := []) (c := 9) (v := (some (.int r6.1))) (M1 := (mj_fin r6.2)) ho_95 rfl lm_X9_174 wc_X9_shakes pl_X9_shakes ok_X9_shakes rfl rfl (Nat.le_of_ble_eq_true rfl) (k_X9_shakes (by omega) er6) (mj_dt dt_X9_shake 25 rfl) ?_
            obtain rfl := Option.some.inj h
            exact mj_go_ret (v := some (.int r6.1)) (Nat.le_of_ble_eq_true rfl) (mj_retI (mj_dt dt_X9_shake 26 rfl) rfl)
          · rw [if_pos b5] at h
            refine mj_go_aload_n (k := 0) (x := 95) rfl (mj_dt dt_X9_shake 18 rfl) ?_
            refine mj_go_bipush (v := -7) rfl (mj_dt dt_X9_shake 19 rfl) ?_
            obtain ⟨r6, er6, h⟩ := mj_bind_some h
            refine ml_callV (Y' := mY_X9_no) (as := [.int (-7 : Int32)]) (rest := []) (c := 9) (v := (some (.int r6.1))) (M1 := (mj_fin r6.2)) ho_95 rfl lm_X9_134 wc_X9_no pl_X9_no ok_X9_no rfl rfl (Nat.le_of_ble_eq_true rfl) (k_X9_no (by omega) er6) (mj_dt dt_X9_shake 20 rfl) ?_
            refine mj_go_goto (tgt := 50) rfl (mj_dt dt_X9_shake 21 rfl) ?_
            obtain rfl := Option.some.inj h
            exact mj_go_ret (v := some (.int r6.1)) (Nat.le_of_ble_eq_true rfl) (mj_retI (mj_dt dt_X9_shake 26 rfl) rfl)
        · rw [if_neg b4] at h
          refine mj_go_sub (lv' := [(0, .ref 95)]) (List.forall_mem_cons.mpr ⟨rfl, (fun _ h9 => absurd h9 List.not_mem_nil)⟩) ?_
          exact k_X9_shake_20 hδ h
def f_X8_ask_103 (N : Nat) (m : mj_m) : Option (Int32 × mj_m) := (f_X8_refuse N 6 m).bind (fun r1 => some (r1.1, r1.2))
theorem k_X8_ask_103 {L : Nat} {xs : Nat → Int32} {δ N : Nat} {m : mj_m} (hδ : 0 ≤ δ) {a : Int32 × mj_m} (h : f_X8_ask_103 N m = some a) : mj_Go (mj_EX L xs) (δ + 1) mY_X8_ask 103 [(0, .ref 0)] [] (mj_fin m) (some (.int a.1), (mj_fin a.2)) := by
  unfold f_X8_ask_103 at h
  refine mj_go_aload_n (k := 0) (x := 0) rfl (mj_dt dt_X8_ask 51 rfl) ?_
  refine mj_go_bipush (v := 6) rfl (mj_dt dt_X8_ask 52 rfl) ?_
  obtain ⟨r1, er1, h⟩ := mj_bind_some h
  refine ml_callV (Y' := mY_X8_refuse) (as := [.int 6]) (rest := []) (c := 8) (v := (some (.int r1.1))) (M1 := (mj_fin r1.2)) ho_0 rfl lm_X8_86 wc_X8_refuse pl_X8_refuse ok_X8_refuse rfl rfl (Nat.le_of_ble_eq_true rfl) (k_X8_refuse (by omega) er1) (mj_dt dt_X8_ask 53 rfl) ?_
  obtain rfl := Option.some.inj h
  exact mj_go_ret (v := some (.int r1.1)) (Nat.le_of_ble_eq_true rfl) (mj_retI (mj_dt dt_X8_ask 54 rfl) rfl)
def f_X8_ask_69 (N : Nat) (v1 : Int32) (v2 : Int32) (m : mj_m) : Option (Int32 × mj_m) := if v1 = 2 then (if v2 < 0 then f_X8_ask_103 N m else (if 10 < v2 then f_X8_ask_103 N m else (mj_mw (m.1 1 11) (fun x4 => mj_mw (mj_wI m 1 11 v2) (fun m5 => (some (x4, m5))))))) else f_X8_ask_103 N m
theorem k_X8_ask_69 {L : Nat} {xs : Nat → Int32} {δ N : Nat} {v1 : Int32} {v2 : Int32} {m : mj_m} (hδ : 0 ≤ δ) {a : Int32 × mj_m} (h : f_X8_ask_69 N v1 v2 m = some a) : mj_Go (mj_EX L xs) (δ + 1) mY_X8_ask 69 [(0, .ref 0), (1, .int v1), (2, .int v2)] [] (mj_fin m) (some (.int a.1), (mj_fin a.2)) := by
  unfold f_X8_ask_69 at h
  refine mj_go_iload_n (k := 1) (x := v1) rfl (mj_dt dt_X8_ask 34 rfl) ?_
  refine mj_go_iconst (v := 2) rfl (mj_dt dt_X8_ask 35 rfl) ?_
  refine mj_go_icmp_ne (tgt := 103) rfl (mj_dt dt_X8_ask 36 rfl) (fun b1 => ?_) (fun b1 => ?_)
  · rw [if_neg b1] at h
    refine mj_go_sub (lv' := [(0, .ref 0)]) (List.forall_mem_cons.mpr ⟨rfl, (fun _ h9 => absurd h9 List.not_mem_nil)⟩) ?_
    exact k_X8_ask_103 hδ h
  · rw [if_pos b1] at h
    refine mj_go_iload_n (k := 2) (x := v2) rfl (mj_dt dt_X8_ask 37 rfl) ?_
    refine mj_go_if_lt (tgt := 103) rfl (mj_dt dt_X8_ask 38 rfl) (fun b2 => ?_) (fun b2 => ?_)
    · rw [if_pos b2] at h
      refine mj_go_sub (lv' := [(0, .ref 0)]) (List.forall_mem_cons.mpr ⟨rfl, (fun _ h9 => absurd h9 List.not_mem_nil)⟩) ?_
      exact k_X8_ask_103 hδ h
    · rw [if_neg b2] at h
      refine mj_go_iload_n (k := 2) (x := v2) rfl (mj_dt dt_X8_ask 39 rfl) ?_
      refine mj_go_bipush (v := 10) rfl (mj_dt dt_X8_ask 40 rfl) ?_
      refine mj_go_icmp_gt (tgt := 103) rfl (mj_dt dt_X8_ask 41 rfl) (fun b3 => ?_) (fun b3 => ?_)
      · rw [if_pos b3] at h
        refine mj_go_sub (lv' := [(0, .ref 0)]) (List.forall_mem_cons.mpr ⟨rfl, (fun _ h9 => absurd h9 List.not_mem_nil)⟩) ?_
        exact k_X8_ask_103 hδ h
      · rw [if_neg b3] at h
        refine mj_go_aload_n (k := 0) (x := 0) rfl (mj_dt dt_X8_ask 42 rfl) ?_
        refine ml_getR (c := 8) (k := 0) (q := 1) fd_8_0 rf_0_0 (Or.inl fl_X8_12) ho_0 (mj_dt dt_X8_ask 43 rfl) ?_
        refine mk_getI (c := 7) (k := 11) (Or.inl fd_7_11) (Or.inl fl_X8_236) ho_1 (mj_dt dt_X8_ask 44 rfl) ?_
        obtain ⟨x4, ex4, h⟩ := mj_mw_some h
        refine ml_eqi ex4 ?_
        refine mj_go_istore_n (k := 3) (by decide) (mj_dt dt_X8_ask 45 rfl) ?_
        refine mj_go_aload_n (k := 0) (x := 0) rfl (mj_dt dt_X8_ask 46 rfl) ?_
        refine ml_getR (c := 8) (k := 0) (q := 1) fd_8_0 rf_0_0 (Or.inl fl_X8_12) ho_0 (mj_dt dt_X8_ask 47 rfl) ?_
        refine mj_go_iload_n (k := 2) (x := v2) rfl (mj_dt dt_X8_ask 48 rfl) ?_
        obtain ⟨m5, em5, h⟩ := mj_mw_some h
        refine ml_putI (c := 7) (k := 11) fd_7_11 rfl fl_X8_236 ho_1 (mj_dt dt_X8_ask 49 rfl) ?_
        refine ml_eqm (M1 := (mj_fin m5)) (by rw [em5] <;> rfl) ?_
        refine mj_go_goto (tgt := 110) rfl (mj_dt dt_X8_ask 50 rfl) ?_
        refine mj_go_iload_n (k := 3) (x := x4) rfl (mj_dt dt_X8_ask 55 rfl) ?_
        obtain rfl := Option.some.inj h
        exact mj_go_ret (v := some (.int x4)) (Nat.le_of_ble_eq_true rfl) (mj_retI (mj_dt dt_X8_ask 56 rfl) rfl)
def f_X8_ask_35 (N : Nat) (v1 : Int32) (v2 : Int32) (m : mj_m) : Option (Int32 × mj_m) := if v1 = 1 then (if v2 < 0 then f_X8_ask_69 N v1 v2 m else (if 10 < v2 then f_X8_ask_69 N v1 v2 m else (mj_mw (m.1 1 10) (fun x4 => mj_mw (mj_wI m 1 10 v2) (fun m5 => (some (x4, m5))))))) else f_X8_ask_69 N v1 v2 m
theorem k_X8_ask_35 {L : Nat} {xs : Nat → Int32} {δ N : Nat} {v1 : Int32} {v2 : Int32} {m : mj_m} (hδ : 0 ≤ δ) {a : Int32 × mj_m} (h : f_X8_ask_35 N v1 v2 m = some a) : mj_Go (mj_EX L xs) (δ + 1) mY_X8_ask 35 [(0, .ref 0), (1, .int v1), (2, .int v2)] [] (mj_fin m) (some (.int a.1), (mj_fin a.2)) := by
  unfold f_X8_ask_35 at h
  refine mj_go_iload_n (k := 1) (x := v1) rfl (mj_dt dt_X8_ask 17 rfl) ?_
  refine mj_go_iconst (v := 1) rfl (mj_dt dt_X8_ask 18 rfl) ?_
  refine mj_go_icmp_ne (tgt := 69) rfl (mj_dt dt_X8_ask 19 rfl) (fun b1 => ?_) (fun b1 => ?_)
  · rw [if_neg b1] at h
    refine mj_go_sub (lv' := [(0, .ref 0), (1, .int v1), (2, .int v2)]) (List.forall_mem_cons.mpr ⟨rfl, (List.forall_mem_cons.mpr ⟨rfl, (List.forall_mem_cons.mpr ⟨rfl, (fun _ h9 => absurd h9 List.not_mem_nil)⟩)⟩)⟩) ?_
    exact k_X8_ask_69 hδ h
  · rw [if_pos b1] at h
    refine mj_go_iload_n (k := 2) (x := v2) rfl (mj_dt dt_X8_ask 20 rfl) ?_
    refine mj_go_if_lt (tgt := 69) rfl (mj_dt dt_X8_ask 21 rfl) (fun b2 => ?_) (fun b2 => ?_)
    · rw [if_pos b2] at h
      refine mj_go_sub (lv' := [(0, .ref 0), (1, .int v1), (2, .int v2)]) (List.forall_mem_cons.mpr ⟨rfl, (List.forall_mem_cons.mpr ⟨rfl, (List.forall_mem_cons.mpr ⟨rfl, (fun _ h9 => absurd h9 List.not_mem_nil)⟩)⟩)⟩) ?_
      exact k_X8_ask_69 hδ h
    · rw [if_neg b2] at h
      refine mj_go_iload_n (k := 2) (x := v2) rfl (mj_dt dt_X8_ask 22 rfl) ?_
      refine mj_go_bipush (v := 10) rfl (mj_dt dt_X8_ask 23 rfl) ?_
      refine mj_go_icmp_gt (tgt := 69) rfl (mj_dt dt_X8_ask 24 rfl) (fun b3 => ?_) (fun b3 => ?_)
      · rw [if_pos b3] at h
        refine mj_go_sub (lv' := [(0, .ref 0), (1, .int v1), (2, .int v2)]) (List.forall_mem_cons.mpr ⟨rfl, (List.forall_mem_cons.mpr ⟨rfl, (List.forall_mem_cons.mpr ⟨rfl, (fun _ h9 => absurd h9 List.not_mem_nil)⟩)⟩)⟩) ?_
        exact k_X8_ask_69 hδ h
      · rw [if_neg b3] at h
        refine mj_go_aload_n (k := 0) (x := 0) rfl (mj_dt dt_X8_ask 25 rfl) ?_
        refine ml_getR (c := 8) (k := 0) (q := 1) fd_8_0 rf_0_0 (Or.inl fl_X8_12) ho_0 (mj_dt dt_X8_ask 26 rfl) ?_
        refine mk_getI (c := 7) (k := 10) (Or.inl fd_7_10) (Or.inl fl_X8_233) ho_1 (mj_dt dt_X8_ask 27 rfl) ?_
        obtain ⟨x4, ex4, h⟩ := mj_mw_some h
        refine ml_eqi ex4 ?_
        refine mj_go_istore_n (k := 3) (by decide) (mj_dt dt_X8_ask 28 rfl) ?_
        refine mj_go_aload_n (k := 0) (x := 0) rfl (mj_dt dt_X8_ask 29 rfl) ?_
        refine ml_getR (c := 8) (k := 0) (q := 1) fd_8_0 rf_0_0 (Or.inl fl_X8_12) ho_0 (mj_dt dt_X8_ask 30 rfl) ?_
        refine mj_go_iload_n (k := 2) (x := v2) rfl (mj_dt dt_X8_ask 31 rfl) ?_
        obtain ⟨m5, em5, h⟩ := mj_mw_some h
        refine ml_putI (c := 7) (k := 10) fd_7_10 rfl fl_X8_233 ho_1 (mj_dt dt_X8_ask 32 rfl) ?_
        refine ml_eqm (M1 := (mj_fin m5)) (by rw [em5] <;> rfl) ?_
        refine mj_go_goto (tgt := 110) rfl (mj_dt dt_X8_ask 33 rfl) ?_
        refine mj_go_iload_n (k := 3) (x := x4) rfl (mj_dt dt_X8_ask 55 rfl) ?_
        obtain rfl := Option.some.inj h
        exact mj_go_ret (v := some (.int x4)) (Nat.le_of_ble_eq_true rfl) (mj_retI (mj_dt dt_X8_ask 56 rfl) rfl)
def f_X8_ask (N : Nat) (v1 : Int32) (v2 : Int32) (m : mj_m) : Option (Int32 × mj_m) := if v1 = 0 then (if v2 < 1 then f_X8_ask_35 N v1 v2 m else (if 999 < v2 then f_X8_ask_35 N v1 v2 m else (mj_mw (m.1 1 9) (fun x4 => mj_mw (mj_wI m 1 9 v2) (fun m5 => (some (x4, m5))))))) else f_X8_ask_35 N v1 v2 m
theorem k_X8_ask {L : Nat} {xs : Nat → Int32} {δ N : Nat} {v1 : Int32} {v2 : Int32} {m : mj_m} (hδ : 1 ≤ δ) {a : Int32 × mj_m} (h : f_X8_ask N v1 v2 m = some a) : mj_Cl (mj_EX L xs) δ mY_X8_ask [.ref 0, .int v1, .int v2] (mj_fin m) (some (.int a.1), (mj_fin a.2)) := by
  obtain ⟨δ, rfl⟩ : ∃ d, δ = d + 1 := ⟨δ - 1, by omega⟩
  have hδ : 0 ≤ δ := by omega
  refine mj_cl_of ok_X8_ask (Nat.le_of_ble_eq_true rfl) ?_
  unfold f_X8_ask at h
  refine mj_go_iload_n (k := 1) (x := v1) rfl (mj_dt dt_X8_ask 0 rfl) ?_
  refine mj_go_if_ne (tgt := 35) rfl (mj_dt dt_X8_ask 1 rfl) (fun b1 => ?_) (fun b1 => ?_)
  · rw [if_neg b1] at h
    refine mj_go_sub (lv' := [(0, .ref 0), (1, .int v1), (2, .int v2)]) (List.forall_mem_cons.mpr ⟨rfl, (List.forall_mem_cons.mpr ⟨rfl, (List.forall_mem_cons.mpr ⟨rfl, (fun _ h9 => absurd h9 List.not_mem_nil)⟩)⟩)⟩) ?_
    exact k_X8_ask_35 hδ h
  · rw [if_pos b1] at h
    refine mj_go_iload_n (k := 2) (x := v2) rfl (mj_dt dt_X8_ask 2 rfl) ?_
    refine mj_go_iconst (v := 1) rfl (mj_dt dt_X8_ask 3 rfl) ?_
    refine mj_go_icmp_lt (tgt := 35) rfl (mj_dt dt_X8_ask 4 rfl) (fun b2 => ?_) (fun b2 => ?_)
    · rw [if_pos b2] at h
      refine mj_go_sub (lv' := [(0, .ref 0), (1, .int v1), (2, .int v2)]) (List.forall_mem_cons.mpr ⟨rfl, (List.forall_mem_cons.mpr ⟨rfl, (List.forall_mem_cons.mpr ⟨rfl, (fun _ h9 => absurd h9 List.not_mem_nil)⟩)⟩)⟩) ?_
      exact k_X8_ask_35 hδ h
    · rw [if_neg b2] at h
      refine mj_go_iload_n (k := 2) (x := v2) rfl (mj_dt dt_X8_ask 5 rfl) ?_
      refine mj_go_sipush (v := 999) rfl (mj_dt dt_X8_ask 6 rfl) ?_
      refine mj_go_icmp_gt (tgt := 35) rfl (mj_dt dt_X8_ask 7 rfl) (fun b3 => ?_) (fun b3 => ?_)
      · rw [if_pos b3] at h
        refine mj_go_sub (lv' := [(0, .ref 0), (1, .int v1), (2, .int v2)]) (List.forall_mem_cons.mpr ⟨rfl, (List.forall_mem_cons.mpr ⟨rfl, (List.forall_mem_cons.mpr ⟨rfl, (fun _ h9 => absurd h9 List.not_mem_nil)⟩)⟩)⟩) ?_
        exact k_X8_ask_35 hδ h
      · rw [if_neg b3] at h
        refine mj_go_aload_n (k := 0) (x := 0) rfl (mj_dt dt_X8_ask 8 rfl) ?_
        refine ml_getR (c := 8) (k := 0) (q := 1) fd_8_0 rf_0_0 (Or.inl fl_X8_12) ho_0 (mj_dt dt_X8_ask 9 rfl) ?_
        refine mk_getI (c := 7) (k := 9) (Or.inl fd_7_9) (Or.inl fl_X8_230) ho_1 (mj_dt dt_X8_ask 10 rfl) ?_
        obtain ⟨x4, ex4, h⟩ := mj_mw_some h
        refine ml_eqi ex4 ?_
        refine mj_go_istore_n (k := 3) (by decide) (mj_dt dt_X8_ask 11 rfl) ?_
        refine mj_go_aload_n (k := 0) (x := 0) rfl (mj_dt dt_X8_ask 12 rfl) ?_
        refine ml_getR (c := 8) (k := 0) (q := 1) fd_8_0 rf_0_0 (Or.inl fl_X8_12) ho_0 (mj_dt dt_X8_ask 13 rfl) ?_
        refine mj_go_iload_n (k := 2) (x := v2) rfl (mj_dt dt_X8_ask 14 rfl) ?_
        obtain ⟨m5, em5, h⟩ := mj_mw_some h
        refine ml_putI (c := 7) (k := 9) fd_7_9 rfl fl_X8_230 ho_1 (mj_dt dt_X8_ask 15 rfl) ?_
        refine ml_eqm (M1 := (mj_fin m5)) (by rw [em5] <;> rfl) ?_
        refine mj_go_goto (tgt := 110) rfl (mj_dt dt_X8_ask 16 rfl) ?_
        refine mj_go_iload_n (k := 3) (x := x4) rfl (mj_dt dt_X8_ask 55 rfl) ?_
        obtain rfl := Option.some.inj h
        exact mj_go_ret (v := some (.int x4)) (Nat.le_of_ble_eq_true rfl) (mj_retI (mj_dt dt_X8_ask 56 rfl) rfl)
def f_X9_ask_85 (N : Nat) (m : mj_m) : Option (Int32 × mj_m) := (f_X9_no N (-6 : Int32) m).bind (fun r1 => some (r1.1, r1.2))
theorem k_X9_ask_85 {L : Nat} {xs : Nat → Int32} {δ N : Nat} {m : mj_m} (hδ : 0 ≤ δ) {a : Int32 × mj_m} (h : f_X9_ask_85 N m = some a) : mj_Go (mj_EX L xs) (δ + 1) mY_X9_ask 85 [(0, .ref 95)] [] (mj_fin m) (some (.int a.1), (mj_fin a.2)) := by
  unfold f_X9_ask_85 at h
  refine mj_go_aload_n (k := 0) (x := 95) rfl (mj_dt dt_X9_ask 45 rfl) ?_
  refine mj_go_bipush (v := -6) rfl (mj_dt dt_X9_ask 46 rfl) ?_
  obtain ⟨r1, er1, h⟩ := mj_bind_some h
  refine ml_callV (Y' := mY_X9_no) (as := [.int (-6 : Int32)]) (rest := []) (c := 9) (v := (some (.int r1.1))) (M1 := (mj_fin r1.2)) ho_95 rfl lm_X9_134 wc_X9_no pl_X9_no ok_X9_no rfl rfl (Nat.le_of_ble_eq_true rfl) (k_X9_no (by omega) er1) (mj_dt dt_X9_ask 47 rfl) ?_
  obtain rfl := Option.some.inj h
  exact mj_go_ret (v := some (.int r1.1)) (Nat.le_of_ble_eq_true rfl) (mj_retI (mj_dt dt_X9_ask 48 rfl) rfl)
def f_X9_ask_57 (N : Nat) (v1 : Int32) (v2 : Int32) (m : mj_m) : Option (Int32 × mj_m) := if v1 = 2 then (if v2 < 0 then f_X9_ask_85 N m else (if 10 < v2 then f_X9_ask_85 N m else (mj_mw (m.1 95 5) (fun x4 => mj_mw (mj_wI m 95 5 v2) (fun m5 => (some (x4, m5))))))) else f_X9_ask_85 N m
theorem k_X9_ask_57 {L : Nat} {xs : Nat → Int32} {δ N : Nat} {v1 : Int32} {v2 : Int32} {m : mj_m} (hδ : 0 ≤ δ) {a : Int32 × mj_m} (h : f_X9_ask_57 N v1 v2 m = some a) : mj_Go (mj_EX L xs) (δ + 1) mY_X9_ask 57 [(0, .ref 95), (1, .int v1), (2, .int v2)] [] (mj_fin m) (some (.int a.1), (mj_fin a.2)) := by
  unfold f_X9_ask_57 at h
  refine mj_go_iload_n (k := 1) (x := v1) rfl (mj_dt dt_X9_ask 30 rfl) ?_
  refine mj_go_iconst (v := 2) rfl (mj_dt dt_X9_ask 31 rfl) ?_
  refine mj_go_icmp_ne (tgt := 85) rfl (mj_dt dt_X9_ask 32 rfl) (fun b1 => ?_) (fun b1 => ?_)
  · rw [if_neg b1] at h
    refine mj_go_sub (lv' := [(0, .ref 95)]) (List.forall_mem_cons.mpr ⟨rfl, (fun _ h9 => absurd h9 List.not_mem_nil)⟩) ?_
    exact k_X9_ask_85 hδ h
  · rw [if_pos b1] at h
    refine mj_go_iload_n (k := 2) (x := v2) rfl (mj_dt dt_X9_ask 33 rfl) ?_
    refine mj_go_if_lt (tgt := 85) rfl (mj_dt dt_X9_ask 34 rfl) (fun b2 => ?_) (fun b2 => ?_)
    · rw [if_pos b2] at h
      refine mj_go_sub (lv' := [(0, .ref 95)]) (List.forall_mem_cons.mpr ⟨rfl, (fun _ h9 => absurd h9 List.not_mem_nil)⟩) ?_
      exact k_X9_ask_85 hδ h
    · rw [if_neg b2] at h
      refine mj_go_iload_n (k := 2) (x := v2) rfl (mj_dt dt_X9_ask 35 rfl) ?_
      refine mj_go_bipush (v := 10) rfl (mj_dt dt_X9_ask 36 rfl) ?_
      refine mj_go_icmp_gt (tgt := 85) rfl (mj_dt dt_X9_ask 37 rfl) (fun b3 => ?_) (fun b3 => ?_)
      · rw [if_pos b3] at h
        refine mj_go_sub (lv' := [(0, .ref 95)]) (List.forall_mem_cons.mpr ⟨rfl, (fun _ h9 => absurd h9 List.not_mem_nil)⟩) ?_
        exact k_X9_ask_85 hδ h
      · rw [if_neg b3] at h
        refine mj_go_aload_n (k := 0) (x := 95) rfl (mj_dt dt_X9_ask 38 rfl) ?_
        refine mk_getI (c := 9) (k := 5) (Or.inl fd_9_5) (Or.inl fl_X9_16) ho_95 (mj_dt dt_X9_ask 39 rfl) ?_
        obtain ⟨x4, ex4, h⟩ := mj_mw_some h
        refine ml_eqi ex4 ?_
        refine mj_go_istore_n (k := 3) (by decide) (mj_dt dt_X9_ask 40 rfl) ?_
        refine mj_go_aload_n (k := 0) (x := 95) rfl (mj_dt dt_X9_ask 41 rfl) ?_
        refine mj_go_iload_n (k := 2) (x := v2) rfl (mj_dt dt_X9_ask 42 rfl) ?_
        obtain ⟨m5, em5, h⟩ := mj_mw_some h
        refine ml_putI (c := 9) (k := 5) fd_9_5 rfl fl_X9_16 ho_95 (mj_dt dt_X9_ask 43 rfl) ?_
        refine ml_eqm (M1 := (mj_fin m5)) (by rw [em5] <;> rfl) ?_
        refine mj_go_goto (tgt := 92) rfl (mj_dt dt_X9_ask 44 rfl) ?_
        refine mj_go_iload_n (k := 3) (x := x4) rfl (mj_dt dt_X9_ask 49 rfl) ?_
        obtain rfl := Option.some.inj h
        exact mj_go_ret (v := some (.int x4)) (Nat.le_of_ble_eq_true rfl) (mj_retI (mj_dt dt_X9_ask 50 rfl) rfl)
def f_X9_ask_29 (N : Nat) (v1 : Int32) (v2 : Int32) (m : mj_m) : Option (Int32 × mj_m) := if v1 = 1 then (if v2 < 0 then f_X9_ask_57 N v1 v2 m else (if 10 < v2 then f_X9_ask_57 N v1 v2 m else (mj_mw (m.1 95 4) (fun x4 => mj_mw (mj_wI m 95 4 v2) (fun m5 => (some (x4, m5))))))) else f_X9_ask_57 N v1 v2 m
theorem k_X9_ask_29 {L : Nat} {xs : Nat → Int32} {δ N : Nat} {v1 : Int32} {v2 : Int32} {m : mj_m} (hδ : 0 ≤ δ) {a : Int32 × mj_m} (h : f_X9_ask_29 N v1 v2 m = some a) : mj_Go (mj_EX L xs) (δ + 1) mY_X9_ask 29 [(0, .ref 95), (1, .int v1), (2, .int v2)] [] (mj_fin m) (some (.int a.1), (mj_fin a.2)) := by
  unfold f_X9_ask_29 at h
  refine mj_go_iload_n (k := 1) (x := v1) rfl (mj_dt dt_X9_ask 15 rfl) ?_
  refine mj_go_iconst (v := 1) rfl (mj_dt dt_X9_ask 16 rfl) ?_
  refine mj_go_icmp_ne (tgt := 57) rfl (mj_dt dt_X9_ask 17 rfl) (fun b1 => ?_) (fun b1 => ?_)
  · rw [if_neg b1] at h
    refine mj_go_sub (lv' := [(0, .ref 95), (1, .int v1), (2, .int v2)]) (List.forall_mem_cons.mpr ⟨rfl, (List.forall_mem_cons.mpr ⟨rfl, (List.forall_mem_cons.mpr ⟨rfl, (fun _ h9 => absurd h9 List.not_mem_nil)⟩)⟩)⟩) ?_
    exact k_X9_ask_57 hδ h
  · rw [if_pos b1] at h
    refine mj_go_iload_n (k := 2) (x := v2) rfl (mj_dt dt_X9_ask 18 rfl) ?_
    refine mj_go_if_lt (tgt := 57) rfl (mj_dt dt_X9_ask 19 rfl) (fun b2 => ?_) (fun b2 => ?_)
    · rw [if_pos b2] at h
      refine mj_go_sub (lv' := [(0, .ref 95), (1, .int v1), (2, .int v2)]) (List.forall_mem_cons.mpr ⟨rfl, (List.forall_mem_cons.mpr ⟨rfl, (List.forall_mem_cons.mpr ⟨rfl, (fun _ h9 => absurd h9 List.not_mem_nil)⟩)⟩)⟩) ?_
      exact k_X9_ask_57 hδ h
    · rw [if_neg b2] at h
      refine mj_go_iload_n (k := 2) (x := v2) rfl (mj_dt dt_X9_ask 20 rfl) ?_
      refine mj_go_bipush (v := 10) rfl (mj_dt dt_X9_ask 21 rfl) ?_
      refine mj_go_icmp_gt (tgt := 57) rfl (mj_dt dt_X9_ask 22 rfl) (fun b3 => ?_) (fun b3 => ?_)
      · rw [if_pos b3] at h
        refine mj_go_sub (lv' := [(0, .ref 95), (1, .int v1), (2, .int v2)]) (List.forall_mem_cons.mpr ⟨rfl, (List.forall_mem_cons.mpr ⟨rfl, (List.forall_mem_cons.mpr ⟨rfl, (fun _ h9 => absurd h9 List.not_mem_nil)⟩)⟩)⟩) ?_
        exact k_X9_ask_57 hδ h
      · rw [if_neg b3] at h
        refine mj_go_aload_n (k := 0) (x := 95) rfl (mj_dt dt_X9_ask 23 rfl) ?_
        refine mk_getI (c := 9) (k := 4) (Or.inl fd_9_4) (Or.inl fl_X9_13) ho_95 (mj_dt dt_X9_ask 24 rfl) ?_
        obtain ⟨x4, ex4, h⟩ := mj_mw_some h
        refine ml_eqi ex4 ?_
        refine mj_go_istore_n (k := 3) (by decide) (mj_dt dt_X9_ask 25 rfl) ?_
        refine mj_go_aload_n (k := 0) (x := 95) rfl (mj_dt dt_X9_ask 26 rfl) ?_
        refine mj_go_iload_n (k := 2) (x := v2) rfl (mj_dt dt_X9_ask 27 rfl) ?_
        obtain ⟨m5, em5, h⟩ := mj_mw_some h
        refine ml_putI (c := 9) (k := 4) fd_9_4 rfl fl_X9_13 ho_95 (mj_dt dt_X9_ask 28 rfl) ?_
        refine ml_eqm (M1 := (mj_fin m5)) (by rw [em5] <;> rfl) ?_
        refine mj_go_goto (tgt := 92) rfl (mj_dt dt_X9_ask 29 rfl) ?_
        refine mj_go_iload_n (k := 3) (x := x4) rfl (mj_dt dt_X9_ask 49 rfl) ?_
        obtain rfl := Option.some.inj h
        exact mj_go_ret (v := some (.int x4)) (Nat.le_of_ble_eq_true rfl) (mj_retI (mj_dt dt_X9_ask 50 rfl) rfl)
def f_X9_ask (N : Nat) (v1 : Int32) (v2 : Int32) (m : mj_m) : Option (Int32 × mj_m) := if v1 = 0 then (if v2 < 1 then f_X9_ask_29 N v1 v2 m else (if 999 < v2 then f_X9_ask_29 N v1 v2 m else (mj_mw (m.1 95 3) (fun x4 => mj_mw (mj_wI m 95 3 v2) (fun m5 => (some (x4, m5))))))) else f_X9_ask_29 N v1 v2 m
theorem k_X9_ask {L : Nat} {xs : Nat → Int32} {δ N : Nat} {v1 : Int32} {v2 : Int32} {m : mj_m} (hδ : 1 ≤ δ) {a : Int32 × mj_m} (h : f_X9_ask N v1 v2 m = some a) : mj_Cl (mj_EX L xs) δ mY_X9_ask [.ref 95, .int v1, .int v2] (mj_fin m) (some (.int a.1), (mj_fin a.2)) := by
  obtain ⟨δ, rfl⟩ : ∃ d, δ = d + 1 := ⟨δ - 1, by omega⟩
  have hδ : 0 ≤ δ := by omega
  refine mj_cl_of ok_X9_ask (Nat.le_of_ble_eq_true rfl) ?_
  unfold f_X9_ask at h
  refine mj_go_iload_n (k := 1) (x := v1) rfl (mj_dt dt_X9_ask 0 rfl) ?_
  refine mj_go_if_ne (tgt := 29) rfl (mj_dt dt_X9_ask 1 rfl) (fun b1 => ?_) (fun b1 => ?_)
  · rw [if_neg b1] at h
    refine mj_go_sub (lv' := [(0, .ref 95), (1, .int v1), (2, .int v2)]) (List.forall_mem_cons.mpr ⟨rfl, (List.forall_mem_cons.mpr ⟨rfl, (List.forall_mem_cons.mpr ⟨rfl, (fun _ h9 => absurd h9 List.not_mem_nil)⟩)⟩)⟩) ?_
    exact k_X9_ask_29 hδ h
  · rw [if_pos b1] at h
    refine mj_go_iload_n (k := 2) (x := v2) rfl (mj_dt dt_X9_ask 2 rfl) ?_
    refine mj_go_iconst (v := 1) rfl (mj_dt dt_X9_ask 3 rfl) ?_
    refine mj_go_icmp_lt (tgt := 29) rfl (mj_dt dt_X9_ask 4 rfl) (fun b2 => ?_) (fun b2 => ?_)
    · rw [if_pos b2] at h
      refine mj_go_sub (lv' := [(0, .ref 95), (1, .int v1), (2, .int v2)]) (List.forall_mem_cons.mpr ⟨rfl, (List.forall_mem_cons.mpr ⟨rfl, (List.forall_mem_cons.mpr ⟨rfl, (fun _ h9 => absurd h9 List.not_mem_nil)⟩)⟩)⟩) ?_
      exact k_X9_ask_29 hδ h
    · rw [if_neg b2] at h
      refine mj_go_iload_n (k := 2) (x := v2) rfl (mj_dt dt_X9_ask 5 rfl) ?_
      refine mj_go_sipush (v := 999) rfl (mj_dt dt_X9_ask 6 rfl) ?_
      refine mj_go_icmp_gt (tgt := 29) rfl (mj_dt dt_X9_ask 7 rfl) (fun b3 => ?_) (fun b3 => ?_)
      · rw [if_pos b3] at h
        refine mj_go_sub (lv' := [(0, .ref 95), (1, .int v1), (2, .int v2)]) (List.forall_mem_cons.mpr ⟨rfl, (List.forall_mem_cons.mpr ⟨rfl, (List.forall_mem_cons.mpr ⟨rfl, (fun _ h9 => absurd h9 List.not_mem_nil)⟩)⟩)⟩) ?_
        exact k_X9_ask_29 hδ h
      · rw [if_neg b3] at h
        refine mj_go_aload_n (k := 0) (x := 95) rfl (mj_dt dt_X9_ask 8 rfl) ?_
        refine mk_getI (c := 9) (k := 3) (Or.inl fd_9_3) (Or.inl fl_X9_7) ho_95 (mj_dt dt_X9_ask 9 rfl) ?_
        obtain ⟨x4, ex4, h⟩ := mj_mw_some h
        refine ml_eqi ex4 ?_
        refine mj_go_istore_n (k := 3) (by decide) (mj_dt dt_X9_ask 10 rfl) ?_
        refine mj_go_aload_n (k := 0) (x := 95) rfl (mj_dt dt_X9_ask 11 rfl) ?_
        refine mj_go_iload_n (k := 2) (x := v2) rfl (mj_dt dt_X9_ask 12 rfl) ?_
        obtain ⟨m5, em5, h⟩ := mj_mw_some h
        refine ml_putI (c := 9) (k := 3) fd_9_3 rfl fl_X9_7 ho_95 (mj_dt dt_X9_ask 13 rfl) ?_
        refine ml_eqm (M1 := (mj_fin m5)) (by rw [em5] <;> rfl) ?_
        refine mj_go_goto (tgt := 92) rfl (mj_dt dt_X9_ask 14 rfl) ?_
        refine mj_go_iload_n (k := 3) (x := x4) rfl (mj_dt dt_X9_ask 49 rfl) ?_
        obtain rfl := Option.some.inj h
        exact mj_go_ret (v := some (.int x4)) (Nat.le_of_ble_eq_true rfl) (mj_retI (mj_dt dt_X9_ask 50 rfl) rfl)
def f_X1_becomeLike (N : Nat) (v0 : Nat) (v1 : Nat) (m : mj_m) : Option (mj_m) := mj_ck (mj_o 1 v1) ( mj_ck (mj_o 1 v0) ( mj_mw (mj_wI m v0 0 (m.1 v1 0)) (fun m3 => mj_mw (mj_wI m3 v0 1 (m3.1 v1 1)) (fun m4 => mj_mw (mj_wI m4 v0 2 (m4.1 v1 2)) (fun m5 => mj_mw (mj_wI m5 v0 3 (m5.1 v1 3)) (fun m6 => mj_mw (mj_wI m6 v0 4 (m6.1 v1 4)) (fun m7 => mj_mw (mj_wI m7 v0 5 (m7.1 v1 5)) (fun m8 => mj_mw (mj_wI m8 v0 6 (m8.1 v1 6)) (fun m9 => mj_ck ((m9.1 v1 7) == 0 || (m9.1 v1 7) == 1) ( mj_mw (mj_wI m9 v0 7 (m9.1 v1 7)) (fun m11 => some m11)))))))))))
theorem k_X1_becomeLike {L : Nat} {xs : Nat → Int32} {δ N : Nat} {v0 : Nat} {v1 : Nat} {m : mj_m} (_ : 0 ≤ δ) {a : mj_m} (h : f_X1_becomeLike N v0 v1 m = some a) : mj_Cl (mj_EX L xs) δ mY_X1_becomeLike [.ref v0, .ref v1] (mj_fin m) (none, (mj_fin a)) := by
  refine mj_cl_of ok_X1_becomeLike (Nat.le_of_ble_eq_true rfl) ?_
  unfold f_X1_becomeLike at h
  refine mj_go_aload_n (k := 0) (x := v0) rfl (mj_dt dt_X1_becomeLike 0 rfl) ?_
  refine mj_go_aload_n (k := 1) (x := v1) rfl (mj_dt dt_X1_becomeLike 1 rfl) ?_
  obtain ⟨c1, h⟩ := mj_ck_some h
  refine mk_getI (c := 1) (k := 0) (Or.inl fd_1_0) (Or.inl fl_X1_9) c1 (mj_dt dt_X1_becomeLike 2 rfl) ?_
  obtain ⟨c2, h⟩ := mj_ck_some h
  obtain ⟨m3, em3, h⟩ := mj_mw_some h
  refine ml_putI (c := 1) (k := 0) fd_1_0 rfl fl_X1_9 c2 (mj_dt dt_X1_becomeLike 3 rfl) ?_
  refine ml_eqm (M1 := (mj_fin m3)) (by rw [em3] <;> rfl) ?_
  refine mj_go_aload_n (k := 0) (x := v0) rfl (mj_dt dt_X1_becomeLike 4 rfl) ?_
  refine mj_go_aload_n (k := 1) (x := v1) rfl (mj_dt dt_X1_becomeLike 5 rfl) ?_
  refine mk_getI (c := 1) (k := 1) (Or.inl fd_1_1) (Or.inl fl_X1_15) c1 (mj_dt dt_X1_becomeLike 6 rfl) ?_
  obtain ⟨m4, em4, h⟩ := mj_mw_some h
  refine ml_putI (c := 1) (k := 1) fd_1_1 rfl fl_X1_15 c2 (mj_dt dt_X1_becomeLike 7 rfl) ?_
  refine ml_eqm (M1 := (mj_fin m4)) (by rw [em4] <;> rfl) ?_
  refine mj_go_aload_n (k := 0) (x := v0) rfl (mj_dt dt_X1_becomeLike 8 rfl) ?_
  refine mj_go_aload_n (k := 1) (x := v1) rfl (mj_dt dt_X1_becomeLike 9 rfl) ?_
  refine mk_getI (c := 1) (k := 2) (Or.inl fd_1_2) (Or.inl fl_X1_18) c1 (mj_dt dt_X1_becomeLike 10 rfl) ?_
  obtain ⟨m5, em5, h⟩ := mj_mw_some h
  refine ml_putI (c := 1) (k := 2) fd_1_2 rfl fl_X1_18 c2 (mj_dt dt_X1_becomeLike 11 rfl) ?_
  refine ml_eqm (M1 := (mj_fin m5)) (by rw [em5] <;> rfl) ?_
  refine mj_go_aload_n (k := 0) (x := v0) rfl (mj_dt dt_X1_becomeLike 12 rfl) ?_
  refine mj_go_aload_n (k := 1) (x := v1) rfl (mj_dt dt_X1_becomeLike 13 rfl) ?_
  refine mk_getI (c := 1) (k := 3) (Or.inl fd_1_3) (Or.inl fl_X1_21) c1 (mj_dt dt_X1_becomeLike 14 rfl) ?_
  obtain ⟨m6, em6, h⟩ := mj_mw_some h
  refine ml_putI (c := 1) (k := 3) fd_1_3 rfl fl_X1_21 c2 (mj_dt dt_X1_becomeLike 15 rfl) ?_
  refine ml_eqm (M1 := (mj_fin m6)) (by rw [em6] <;> rfl) ?_
  refine mj_go_aload_n (k := 0) (x := v0) rfl (mj_dt dt_X1_becomeLike 16 rfl) ?_
  refine mj_go_aload_n (k := 1) (x := v1) rfl (mj_dt dt_X1_becomeLike 17 rfl) ?_
  refine mk_getI (c := 1) (k := 4) (Or.inl fd_1_4) (Or.inl fl_X1_24) c1 (mj_dt dt_X1_becomeLike 18 rfl) ?_
  obtain ⟨m7, em7, h⟩ := mj_mw_some h
  refine ml_putI (c := 1) (k := 4) fd_1_4 rfl fl_X1_24 c2 (mj_dt dt_X1_becomeLike 19 rfl) ?_
  refine ml_eqm (M1 := (mj_fin m7)) (by rw [em7] <;> rfl) ?_
  refine mj_go_aload_n (k := 0) (x := v0) rfl (mj_dt dt_X1_becomeLike 20 rfl) ?_
  refine mj_go_aload_n (k := 1) (x := v1) rfl (mj_dt dt_X1_becomeLike 21 rfl) ?_
  refine mk_getI (c := 1) (k := 5) (Or.inl fd_1_5) (Or.inl fl_X1_27) c1 (mj_dt dt_X1_becomeLike 22 rfl) ?_
  obtain ⟨m8, em8, h⟩ := mj_mw_some h
  refine ml_putI (c := 1) (k := 5) fd_1_5 rfl fl_X1_27 c2 (mj_dt dt_X1_becomeLike 23 rfl) ?_
  refine ml_eqm (M1 := (mj_fin m8)) (by rw [em8] <;> rfl) ?_
  refine mj_go_aload_n (k := 0) (x := v0) rfl (mj_dt dt_X1_becomeLike 24 rfl) ?_
  refine mj_go_aload_n (k := 1) (x := v1) rfl (mj_dt dt_X1_becomeLike 25 rfl) ?_
  refine mk_getI (c := 1) (k := 6) (Or.inl fd_1_6) (Or.inl fl_X1_30) c1 (mj_dt dt_X1_becomeLike 26 rfl) ?_
  obtain ⟨m9, em9, h⟩ := mj_mw_some h
  refine ml_putI (c := 1) (k := 6) fd_1_6 rfl fl_X1_30 c2 (mj_dt dt_X1_becomeLike 27 rfl) ?_
  refine ml_eqm (M1 := (mj_fin m9)) (by rw [em9] <;> rfl) ?_
  refine mj_go_aload_n (k := 0) (x := v0) rfl (mj_dt dt_X1_becomeLike 28 rfl) ?_
  refine mj_go_aload_n (k := 1) (x := v1) rfl (mj_dt dt_X1_becomeLike 29 rfl) ?_
  refine mk_getI (c := 1) (k := 7) (Or.inr fd_1_7) (Or.inl fl_X1_33) c1 (mj_dt dt_X1_becomeLike 30 rfl) ?_
  obtain ⟨c10, h⟩ := mj_ck_some h
  obtain ⟨m11, em11, h⟩ := mj_mw_some h
  refine ml_putZ (c := 1) (k := 7) c10 fd_1_7 rfl fl_X1_33 c2 (mj_dt dt_X1_becomeLike 31 rfl) ?_
  refine ml_eqm (M1 := (mj_fin m11)) (by rw [em11] <;> rfl) ?_
  obtain rfl := Option.some.inj h
  exact mj_go_ret (v := none) (Nat.le_of_ble_eq_true rfl) (mj_retV (mj_dt dt_X1_becomeLike 32 rfl) rfl)
def f_X7_becomeLike_56_1_32 (N : Nat) (k_32 : Int32 × mj_m → Option (mj_m)) (s : Int32 × mj_m) : Option (mj_m) := if 10 ≤ s.1 then (mj_ck (mj_p 0 5 60 0 0 10) ( mj_mw (mj_kI s.2 5 60 ((0 : Int32).toNatClampNeg) ((0 : Int32).toNatClampNeg) ((10 : Int32).toNatClampNeg)) (fun m3 => mj_ck (mj_p 0 6 61 0 0 4) ( mj_mw (mj_kI m3 6 61 ((0 : Int32).toNatClampNeg) ((0 : Int32).toNatClampNeg) ((4 : Int32).toNatClampNeg)) (fun m5 => mj_ck (mj_p 0 7 62 0 0 4) ( mj_mw (mj_kI m5 7 62 ((0 : Int32).toNatClampNeg) ((0 : Int32).toNatClampNeg) ((4 : Int32).toNatClampNeg)) (fun m7 => mj_mw (mj_wI m7 56 6 (m7.1 1 6)) (fun m8 => mj_mw (mj_wI m8 56 7 (m8.1 1 7)) (fun m9 => mj_mw (mj_wI m9 56 8 (m9.1 1 8)) (fun m10 => mj_mw (mj_wI m10 56 9 (m10.1 1 9)) (fun m11 => mj_mw (mj_wI m11 56 10 (m11.1 1 10)) (fun m12 => mj_mw (mj_wI m12 56 11 (m12.1 1 11)) (fun m13 => mj_mw (mj_wI m13 56 12 (m13.1 1 12)) (fun m14 => mj_mw (mj_wI m14 56 13 (m14.1 1 13)) (fun m15 => mj_mw (mj_wI m15 56 14 (m15.1 1 14)) (fun m16 => mj_mw (mj_wI m16 56 15 (m16.1 1 15)) (fun m17 => some m17))))))))))))))))) else (mj_ck (mj_b 2 59 s.1) ( mj_ck (mj_b 2 4 s.1) ( (f_X1_becomeLike N (63 + s.1.toNatClampNeg) (8 + s.1.toNatClampNeg) s.2).bind (fun r4 => mj_mw (s.1 + 1) (fun x5 => k_32 (x5, r4))))))
theorem k_X7_becomeLike_56_1_32 {L : Nat} {xs : Nat → Int32} {δ N : Nat} (hδ : 0 ≤ δ) : ∀ (n : Nat) (s : Int32 × mj_m) (a : mj_m), mj_lp n (f_X7_becomeLike_56_1_32 N) s = some a → mj_Go (mj_EX L xs) (δ + 1) mY_X7_becomeLike 32 [(0, .ref 56), (1, .ref 1), (2, .int s.1)] [] (mj_fin s.2) (none, (mj_fin a)) := by
  refine mj_lp_sound (fun k_32 s a q_32 h => ?_)
  unfold f_X7_becomeLike_56_1_32 at h
  refine mj_go_iload_n (k := 2) (x := s.1) rfl (mj_dt dt_X7_becomeLike 18 rfl) ?_
  refine mj_go_bipush (v := 10) rfl (mj_dt dt_X7_becomeLike 19 rfl) ?_
  refine mj_go_icmp_ge (tgt := 59) rfl (mj_dt dt_X7_becomeLike 20 rfl) (fun b1 => ?_) (fun b1 => ?_)
  · rw [if_pos b1] at h
    refine mj_go_aload_n (k := 1) (x := 1) rfl (mj_dt dt_X7_becomeLike 32 rfl) ?_
    refine ml_getR (c := 7) (k := 3) (q := 5) fd_7_3 rf_1_3 (Or.inl fl_X7_24) ho_1 (mj_dt dt_X7_becomeLike 33 rfl) ?_
    refine mj_go_iconst (v := 0) rfl (mj_dt dt_X7_becomeLike 34 rfl) ?_
    refine mj_go_aload_n (k := 0) (x := 56) rfl (mj_dt dt_X7_becomeLike 35 rfl) ?_
    refine ml_getR (c := 7) (k := 3) (q := 60) fd_7_3 rf_56_3 (Or.inl fl_X7_24) ho_56 (mj_dt dt_X7_becomeLike 36 rfl) ?_
    refine mj_go_iconst (v := 0) rfl (mj_dt dt_X7_becomeLike 37 rfl) ?_
    refine mj_go_bipush (v := 10) rfl (mj_dt dt_X7_becomeLike 38 rfl) ?_
    obtain ⟨c2, h⟩ := mj_ck_some h
    obtain ⟨m3, em3, h⟩ := mj_mw_some h
    refine ml_cpyI hm_X7_65 (Nat.le_of_ble_eq_true rfl) c2 (mj_dt dt_X7_becomeLike 39 rfl) ?_
    refine ml_eqm (M1 := (mj_fin m3)) (by rw [em3] <;> rfl) ?_
    refine mj_go_aload_n (k := 1) (x := 1) rfl (mj_dt dt_X7_becomeLike 40 rfl) ?_
    refine ml_getR (c := 7) (k := 4) (q := 6) fd_7_4 rf_1_4 (Or.inl fl_X7_27) ho_1 (mj_dt dt_X7_becomeLike 41 rfl) ?_
    refine mj_go_iconst (v := 0) rfl (mj_dt dt_X7_becomeLike 42 rfl) ?_
    refine mj_go_aload_n (k := 0) (x := 56) rfl (mj_dt dt_X7_becomeLike 43 rfl) ?_
    refine ml_getR (c := 7) (k := 4) (q := 61) fd_7_4 rf_56_4 (Or.inl fl_X7_27) ho_56 (mj_dt dt_X7_becomeLike 44 rfl) ?_
    refine mj_go_iconst (v := 0) rfl (mj_dt dt_X7_becomeLike 45 rfl) ?_
    refine mj_go_iconst (v := 4) rfl (mj_dt dt_X7_becomeLike 46 rfl) ?_
    obtain ⟨c4, h⟩ := mj_ck_some h
    obtain ⟨m5, em5, h⟩ := mj_mw_some h
    refine ml_cpyI hm_X7_65 (Nat.le_of_ble_eq_true rfl) c4 (mj_dt dt_X7_becomeLike 47 rfl) ?_
    refine ml_eqm (M1 := (mj_fin m5)) (by rw [em5] <;> rfl) ?_
    refine mj_go_aload_n (k := 1) (x := 1) rfl (mj_dt dt_X7_becomeLike 48 rfl) ?_
    refine ml_getR (c := 7) (k := 5) (q := 7) fd_7_5 rf_1_5 (Or.inl fl_X7_30) ho_1 (mj_dt dt_X7_becomeLike 49 rfl) ?_
    refine mj_go_iconst (v := 0) rfl (mj_dt dt_X7_becomeLike 50 rfl) ?_
    refine mj_go_aload_n (k := 0) (x := 56) rfl (mj_dt dt_X7_becomeLike 51 rfl) ?_
    refine ml_getR (c := 7) (k := 5) (q := 62) fd_7_5 rf_56_5 (Or.inl fl_X7_30) ho_56 (mj_dt dt_X7_becomeLike 52 rfl) ?_
    refine mj_go_iconst (v := 0) rfl (mj_dt dt_X7_becomeLike 53 rfl) ?_
    refine mj_go_iconst (v := 4) rfl (mj_dt dt_X7_becomeLike 54 rfl) ?_
    obtain ⟨c6, h⟩ := mj_ck_some h
    obtain ⟨m7, em7, h⟩ := mj_mw_some h
    refine ml_cpyI hm_X7_65 (Nat.le_of_ble_eq_true rfl) c6 (mj_dt dt_X7_becomeLike 55 rfl) ?_
    refine ml_eqm (M1 := (mj_fin m7)) (by rw [em7] <;> rfl) ?_
    refine mj_go_aload_n (k := 0) (x := 56) rfl (mj_dt dt_X7_becomeLike 56 rfl) ?_
    refine mj_go_aload_n (k := 1) (x := 1) rfl (mj_dt dt_X7_becomeLike 57 rfl) ?_
    refine mk_getI (c := 7) (k := 6) (Or.inl fd_7_6) (Or.inl fl_X7_33) ho_1 (mj_dt dt_X7_becomeLike 58 rfl) ?_
    obtain ⟨m8, em8, h⟩ := mj_mw_some h
    refine ml_putI (c := 7) (k := 6) fd_7_6 rfl fl_X7_33 ho_56 (mj_dt dt_X7_becomeLike 59 rfl) ?_
    refine ml_eqm (M1 := (mj_fin m8)) (by rw [em8] <;> rfl) ?_
    refine mj_go_aload_n (k := 0) (x := 56) rfl (mj_dt dt_X7_becomeLike 60 rfl) ?_
    refine mj_go_aload_n (k := 1) (x := 1) rfl (mj_dt dt_X7_becomeLike 61 rfl) ?_
    refine mk_getI (c := 7) (k := 7) (Or.inl fd_7_7) (Or.inl fl_X7_37) ho_1 (mj_dt dt_X7_becomeLike 62 rfl) ?_
    obtain ⟨m9, em9, h⟩ := mj_mw_some h
    refine ml_putI (c := 7) (k := 7) fd_7_7 rfl fl_X7_37 ho_56 (mj_dt dt_X7_becomeLike 63 rfl) ?_
    refine ml_eqm (M1 := (mj_fin m9)) (by rw [em9] <;> rfl) ?_
    refine mj_go_aload_n (k := 0) (x := 56) rfl (mj_dt dt_X7_becomeLike 64 rfl) ?_
    refine mj_go_aload_n (k := 1) (x := 1) rfl (mj_dt dt_X7_becomeLike 65 rfl) ?_
    refine mk_getI (c := 7) (k := 8) (Or.inl fd_7_8) (Or.inl fl_X7_40) ho_1 (mj_dt dt_X7_becomeLike 66 rfl) ?_
    obtain ⟨m10, em10, h⟩ := mj_mw_some h
    refine ml_putI (c := 7) (k := 8) fd_7_8 rfl fl_X7_40 ho_56 (mj_dt dt_X7_becomeLike 67 rfl) ?_
    refine ml_eqm (M1 := (mj_fin m10)) (by rw [em10] <;> rfl) ?_
    refine mj_go_aload_n (k := 0) (x := 56) rfl (mj_dt dt_X7_becomeLike 68 rfl) ?_
    refine mj_go_aload_n (k := 1) (x := 1) rfl (mj_dt dt_X7_becomeLike 69 rfl) ?_
    refine mk_getI (c := 7) (k := 9) (Or.inl fd_7_9) (Or.inl fl_X7_43) ho_1 (mj_dt dt_X7_becomeLike 70 rfl) ?_
    obtain ⟨m11, em11, h⟩ := mj_mw_some h
    refine ml_putI (c := 7) (k := 9) fd_7_9 rfl fl_X7_43 ho_56 (mj_dt dt_X7_becomeLike 71 rfl) ?_
    refine ml_eqm (M1 := (mj_fin m11)) (by rw [em11] <;> rfl) ?_
    refine mj_go_aload_n (k := 0) (x := 56) rfl (mj_dt dt_X7_becomeLike 72 rfl) ?_
    refine mj_go_aload_n (k := 1) (x := 1) rfl (mj_dt dt_X7_becomeLike 73 rfl) ?_
    refine mk_getI (c := 7) (k := 10) (Or.inl fd_7_10) (Or.inl fl_X7_46) ho_1 (mj_dt dt_X7_becomeLike 74 rfl) ?_
    obtain ⟨m12, em12, h⟩ := mj_mw_some h
    refine ml_putI (c := 7) (k := 10) fd_7_10 rfl fl_X7_46 ho_56 (mj_dt dt_X7_becomeLike 75 rfl) ?_
    refine ml_eqm (M1 := (mj_fin m12)) (by rw [em12] <;> rfl) ?_
    refine mj_go_aload_n (k := 0) (x := 56) rfl (mj_dt dt_X7_becomeLike 76 rfl) ?_
    refine mj_go_aload_n (k := 1) (x := 1) rfl (mj_dt dt_X7_becomeLike 77 rfl) ?_
    refine mk_getI (c := 7) (k := 11) (Or.inl fd_7_11) (Or.inl fl_X7_49) ho_1 (mj_dt dt_X7_becomeLike 78 rfl) ?_
    obtain ⟨m13, em13, h⟩ := mj_mw_some h
    refine ml_putI (c := 7) (k := 11) fd_7_11 rfl fl_X7_49 ho_56 (mj_dt dt_X7_becomeLike 79 rfl) ?_
    refine ml_eqm (M1 := (mj_fin m13)) (by rw [em13] <;> rfl) ?_
    refine mj_go_aload_n (k := 0) (x := 56) rfl (mj_dt dt_X7_becomeLike 80 rfl) ?_
    refine mj_go_aload_n (k := 1) (x := 1) rfl (mj_dt dt_X7_becomeLike 81 rfl) ?_
    refine mk_getI (c := 7) (k := 12) (Or.inl fd_7_12) (Or.inl fl_X7_52) ho_1 (mj_dt dt_X7_becomeLike 82 rfl) ?_
    obtain ⟨m14, em14, h⟩ := mj_mw_some h
    refine ml_putI (c := 7) (k := 12) fd_7_12 rfl fl_X7_52 ho_56 (mj_dt dt_X7_becomeLike 83 rfl) ?_
    refine ml_eqm (M1 := (mj_fin m14)) (by rw [em14] <;> rfl) ?_
    refine mj_go_aload_n (k := 0) (x := 56) rfl (mj_dt dt_X7_becomeLike 84 rfl) ?_
    refine mj_go_aload_n (k := 1) (x := 1) rfl (mj_dt dt_X7_becomeLike 85 rfl) ?_
    refine mk_getI (c := 7) (k := 13) (Or.inl fd_7_13) (Or.inl fl_X7_55) ho_1 (mj_dt dt_X7_becomeLike 86 rfl) ?_
    obtain ⟨m15, em15, h⟩ := mj_mw_some h
    refine ml_putI (c := 7) (k := 13) fd_7_13 rfl fl_X7_55 ho_56 (mj_dt dt_X7_becomeLike 87 rfl) ?_
    refine ml_eqm (M1 := (mj_fin m15)) (by rw [em15] <;> rfl) ?_
    refine mj_go_aload_n (k := 0) (x := 56) rfl (mj_dt dt_X7_becomeLike 88 rfl) ?_
    refine mj_go_aload_n (k := 1) (x := 1) rfl (mj_dt dt_X7_becomeLike 89 rfl) ?_
    refine mk_getI (c := 7) (k := 14) (Or.inl fd_7_14) (Or.inl fl_X7_58) ho_1 (mj_dt dt_X7_becomeLike 90 rfl) ?_
    obtain ⟨m16, em16, h⟩ := mj_mw_some h
    refine ml_putI (c := 7) (k := 14) fd_7_14 rfl fl_X7_58 ho_56 (mj_dt dt_X7_becomeLike 91 rfl) ?_
    refine ml_eqm (M1 := (mj_fin m16)) (by rw [em16] <;> rfl) ?_
    refine mj_go_aload_n (k := 0) (x := 56) rfl (mj_dt dt_X7_becomeLike 92 rfl) ?_
    refine mj_go_aload_n (k := 1) (x := 1) rfl (mj_dt dt_X7_becomeLike 93 rfl) ?_
    refine mk_getI (c := 7) (k := 15) (Or.inl fd_7_15) (Or.inl fl_X7_61) ho_1 (mj_dt dt_X7_becomeLike 94 rfl) ?_
    obtain ⟨m17, em17, h⟩ := mj_mw_some h
    refine ml_putI (c := 7) (k := 15) fd_7_15 rfl fl_X7_61 ho_56 (mj_dt dt_X7_becomeLike 95 rfl) ?_
    refine ml_eqm (M1 := (mj_fin m17)) (by rw [em17] <;> rfl) ?_
    obtain rfl := Option.some.inj h
    exact mj_go_ret (v := none) (Nat.le_of_ble_eq_true rfl) (mj_retV (mj_dt dt_X7_becomeLike 96 rfl) rfl)
  · rw [if_neg b1] at h
    refine mj_go_aload_n (k := 0) (x := 56) rfl (mj_dt dt_X7_becomeLike 21 rfl) ?_
    refine ml_getR (c := 7) (k := 2) (q := 59) fd_7_2 rf_56_2 (Or.inl fl_X7_20) ho_56 (mj_dt dt_X7_becomeLike 22 rfl) ?_
    refine mj_go_iload_n (k := 2) (x := s.1) rfl (mj_dt dt_X7_becomeLike 23 rfl) ?_
    obtain ⟨c2, h⟩ := mj_ck_some h
    refine ml_aald2 (q := 63 + s.1.toNatClampNeg) c2 (mj_hs59 c2).1 (mj_dt dt_X7_becomeLike 24 rfl) ?_
    refine mj_go_aload_n (k := 1) (x := 1) rfl (mj_dt dt_X7_becomeLike 25 rfl) ?_
    refine ml_getR (c := 7) (k := 2) (q := 4) fd_7_2 rf_1_2 (Or.inl fl_X7_20) ho_1 (mj_dt dt_X7_becomeLike 26 rfl) ?_
    refine mj_go_iload_n (k := 2) (x := s.1) rfl (mj_dt dt_X7_becomeLike 27 rfl) ?_
    obtain ⟨c3, h⟩ := mj_ck_some h
    refine ml_aald2 (q := 8 + s.1.toNatClampNeg) c3 (mj_hs4 c3).1 (mj_dt dt_X7_becomeLike 28 rfl) ?_
    obtain ⟨r4, er4, h⟩ := mj_bind_some h
    refine ml_callV (Y' := mY_X1_becomeLike) (as := [.ref (8 + s.1.toNatClampNeg)]) (rest := []) (c := 1) (v := none) (M1 := (mj_fin r4)) (mj_hs59 c2).2 rfl lm_X7_71 wc_X1_becomeLike pl_X1_becomeLike ok_X1_becomeLike rfl rfl (Nat.le_of_ble_eq_true rfl) (k_X1_becomeLike (by omega) er4) (mj_dt dt_X7_becomeLike 29 rfl) ?_
    obtain ⟨x5, ex5, h⟩ := mj_mw_some h
    refine mj_go_iinc (i := 2) (x := s.1) (v := x5) rfl (by rw [ex5] <;> rfl) (by decide) (mj_dt dt_X7_becomeLike 30 rfl) ?_
    refine mj_go_goto (tgt := 32) rfl (mj_dt dt_X7_becomeLike 31 rfl) ?_
    refine mj_go_sub (lv' := [(0, .ref 56), (1, .ref 1), (2, .int x5)]) (List.forall_mem_cons.mpr ⟨rfl, (List.forall_mem_cons.mpr ⟨rfl, (List.forall_mem_cons.mpr ⟨rfl, (fun _ h9 => absurd h9 List.not_mem_nil)⟩)⟩)⟩) ?_
    exact q_32 _ _ h
def f_X7_becomeLike_56_1 (N : Nat) (m : mj_m) : Option (mj_m) := mj_ck (mj_p 0 2 57 0 0 12) ( mj_mw (mj_kI m 2 57 ((0 : Int32).toNatClampNeg) ((0 : Int32).toNatClampNeg) ((12 : Int32).toNatClampNeg)) (fun m2 => mj_ck (mj_p 0 3 58 0 0 12) ( mj_mw (mj_kI m2 3 58 ((0 : Int32).toNatClampNeg) ((0 : Int32).toNatClampNeg) ((12 : Int32).toNatClampNeg)) (fun m4 => mj_lp N (f_X7_becomeLike_56_1_32 N) (0, m4)))))
theorem k_X7_becomeLike_56_1 {L : Nat} {xs : Nat → Int32} {δ N : Nat} {m : mj_m} (hδ : 1 ≤ δ) {a : mj_m} (h : f_X7_becomeLike_56_1 N m = some a) : mj_Cl (mj_EX L xs) δ mY_X7_becomeLike [.ref 56, .ref 1] (mj_fin m) (none, (mj_fin a)) := by
  obtain ⟨δ, rfl⟩ : ∃ d, δ = d + 1 := ⟨δ - 1, by omega⟩
  have hδ : 0 ≤ δ := by omega
  refine mj_cl_of ok_X7_becomeLike (Nat.le_of_ble_eq_true rfl) ?_
  unfold f_X7_becomeLike_56_1 at h
  refine mj_go_aload_n (k := 1) (x := 1) rfl (mj_dt dt_X7_becomeLike 0 rfl) ?_
  refine ml_getR (c := 7) (k := 0) (q := 2) fd_7_0 rf_1_0 (Or.inl fl_X7_9) ho_1 (mj_dt dt_X7_becomeLike 1 rfl) ?_
  refine mj_go_iconst (v := 0) rfl (mj_dt dt_X7_becomeLike 2 rfl) ?_
  refine mj_go_aload_n (k := 0) (x := 56) rfl (mj_dt dt_X7_becomeLike 3 rfl) ?_
  refine ml_getR (c := 7) (k := 0) (q := 57) fd_7_0 rf_56_0 (Or.inl fl_X7_9) ho_56 (mj_dt dt_X7_becomeLike 4 rfl) ?_
  refine mj_go_iconst (v := 0) rfl (mj_dt dt_X7_becomeLike 5 rfl) ?_
  refine mj_go_bipush (v := 12) rfl (mj_dt dt_X7_becomeLike 6 rfl) ?_
  obtain ⟨c1, h⟩ := mj_ck_some h
  obtain ⟨m2, em2, h⟩ := mj_mw_some h
  refine ml_cpyI hm_X7_65 (Nat.le_of_ble_eq_true rfl) c1 (mj_dt dt_X7_becomeLike 7 rfl) ?_
  refine ml_eqm (M1 := (mj_fin m2)) (by rw [em2] <;> rfl) ?_
  refine mj_go_aload_n (k := 1) (x := 1) rfl (mj_dt dt_X7_becomeLike 8 rfl) ?_
  refine ml_getR (c := 7) (k := 1) (q := 3) fd_7_1 rf_1_1 (Or.inl fl_X7_15) ho_1 (mj_dt dt_X7_becomeLike 9 rfl) ?_
  refine mj_go_iconst (v := 0) rfl (mj_dt dt_X7_becomeLike 10 rfl) ?_
  refine mj_go_aload_n (k := 0) (x := 56) rfl (mj_dt dt_X7_becomeLike 11 rfl) ?_
  refine ml_getR (c := 7) (k := 1) (q := 58) fd_7_1 rf_56_1 (Or.inl fl_X7_15) ho_56 (mj_dt dt_X7_becomeLike 12 rfl) ?_
  refine mj_go_iconst (v := 0) rfl (mj_dt dt_X7_becomeLike 13 rfl) ?_
  refine mj_go_bipush (v := 12) rfl (mj_dt dt_X7_becomeLike 14 rfl) ?_
  obtain ⟨c3, h⟩ := mj_ck_some h
  obtain ⟨m4, em4, h⟩ := mj_mw_some h
  refine ml_cpyI hm_X7_65 (Nat.le_of_ble_eq_true rfl) c3 (mj_dt dt_X7_becomeLike 15 rfl) ?_
  refine ml_eqm (M1 := (mj_fin m4)) (by rw [em4] <;> rfl) ?_
  refine mj_go_iconst (v := 0) rfl (mj_dt dt_X7_becomeLike 16 rfl) ?_
  refine mj_go_istore_n (k := 2) (by decide) (mj_dt dt_X7_becomeLike 17 rfl) ?_
  refine mj_go_sub (lv' := [(0, .ref 56), (1, .ref 1), (2, .int 0)]) (List.forall_mem_cons.mpr ⟨rfl, (List.forall_mem_cons.mpr ⟨rfl, (List.forall_mem_cons.mpr ⟨rfl, (fun _ h9 => absurd h9 List.not_mem_nil)⟩)⟩)⟩) ?_
  exact k_X7_becomeLike_56_1_32 hδ N _ _ h
def f_X5_begin_10 (N : Nat) (v1 : Nat) (k_10 : Int32 × mj_m → Option (mj_m)) (s : Int32 × mj_m) : Option (mj_m) := if (s.2.1 55 4) ≤ s.1 then (mj_mw (mj_wI s.2 55 5 0) (fun m2 => mj_mw (mj_wI m2 55 7 (-1 : Int32)) (fun m3 => (f_X7_becomeLike_56_1 N m3).bind (fun r4 => some r4)))) else ((f_X6_asInt N v1 s.1 s.2).bind (fun r2 => mj_ck (mj_o 6 v1) ( mj_ck (mj_b 0 73 s.1) ( mj_mw (mj_wI s.2 73 (s.1.toNatClampNeg) r2) (fun m5 => mj_mw (s.1 + 1) (fun x6 => k_10 (x6, m5)))))))
theorem k_X5_begin_10 {L : Nat} {xs : Nat → Int32} {δ N : Nat} {v1 : Nat} (hδ : 1 ≤ δ) : ∀ (n : Nat) (s : Int32 × mj_m) (a : mj_m), mj_lp n (f_X5_begin_10 N v1) s = some a → mj_Go (mj_EX L xs) (δ + 1) mY_X5_begin 10 [(0, .ref 55), (1, .ref v1), (2, .int s.1)] [] (mj_fin s.2) (none, (mj_fin a)) := by
  refine mj_lp_sound (fun k_10 s a q_10 h => ?_)
  unfold f_X5_begin_10 at h
  refine mj_go_iload_n (k := 2) (x := s.1) rfl (mj_dt dt_X5_begin 6 rfl) ?_
  refine mj_go_aload_n (k := 0) (x := 55) rfl (mj_dt dt_X5_begin 7 rfl) ?_
  refine mk_getI (c := 5) (k := 4) (Or.inl fd_5_4) (Or.inl fl_X5_25) ho_55 (mj_dt dt_X5_begin 8 rfl) ?_
  refine mj_go_icmp_ge (tgt := 35) rfl (mj_dt dt_X5_begin 9 rfl) (fun b1 => ?_) (fun b1 => ?_)
  · rw [if_pos b1] at h
    refine mj_go_aload_n (k := 0) (x := 55) rfl (mj_dt dt_X5_begin 19 rfl) ?_
    refine mj_go_iconst (v := 0) rfl (mj_dt dt_X5_begin 20 rfl) ?_
    obtain ⟨m2, em2, h⟩ := mj_mw_some h
    refine ml_putI (c := 5) (k := 5) fd_5_5 rfl fl_X5_29 ho_55 (mj_dt dt_X5_begin 21 rfl) ?_
    refine ml_eqm (M1 := (mj_fin m2)) (by rw [em2] <;> rfl) ?_
    refine mj_go_aload_n (k := 0) (x := 55) rfl (mj_dt dt_X5_begin 22 rfl) ?_
    refine mj_go_iconst (v := -1) rfl (mj_dt dt_X5_begin 23 rfl) ?_
    obtain ⟨m3, em3, h⟩ := mj_mw_some h
    refine ml_putI (c := 5) (k := 7) fd_5_7 rfl fl_X5_35 ho_55 (mj_dt dt_X5_begin 24 rfl) ?_
    refine ml_eqm (M1 := (mj_fin m3)) (by rw [em3] <;> rfl) ?_
    refine mj_go_aload_n (k := 0) (x := 55) rfl (mj_dt dt_X5_begin 25 rfl) ?_
    refine ml_getR (c := 5) (k := 1) (q := 56) fd_5_1 rf_55_1 (Or.inl fl_X5_12) ho_55 (mj_dt dt_X5_begin 26 rfl) ?_
    refine mj_go_aload_n (k := 0) (x := 55) rfl (mj_dt dt_X5_begin 27 rfl) ?_
    refine ml_getR (c := 5) (k := 0) (q := 1) fd_5_0 rf_55_0 (Or.inl fl_X5_38) ho_55 (mj_dt dt_X5_begin 28 rfl) ?_
    obtain ⟨r4, er4, h⟩ := mj_bind_some h
    refine ml_callV (Y' := mY_X7_becomeLike) (as := [.ref 1]) (rest := []) (c := 7) (v := none) (M1 := (mj_fin r4)) ho_56 rfl lm_X5_49 wc_X7_becomeLike pl_X7_becomeLike ok_X7_becomeLike rfl rfl (Nat.le_of_ble_eq_true rfl) (k_X7_becomeLike_56_1 (by omega) er4) (mj_dt dt_X5_begin 29 rfl) ?_
    obtain rfl := Option.some.inj h
    exact mj_go_ret (v := none) (Nat.le_of_ble_eq_true rfl) (mj_retV (mj_dt dt_X5_begin 30 rfl) rfl)
  · rw [if_neg b1] at h
    refine mj_go_aload_n (k := 0) (x := 55) rfl (mj_dt dt_X5_begin 10 rfl) ?_
    refine ml_getR (c := 5) (k := 2) (q := 73) fd_5_2 rf_55_2 (Or.inl fl_X5_18) ho_55 (mj_dt dt_X5_begin 11 rfl) ?_
    refine mj_go_iload_n (k := 2) (x := s.1) rfl (mj_dt dt_X5_begin 12 rfl) ?_
    refine mj_go_aload_n (k := 1) (x := v1) rfl (mj_dt dt_X5_begin 13 rfl) ?_
    refine mj_go_iload_n (k := 2) (x := s.1) rfl (mj_dt dt_X5_begin 14 rfl) ?_
    obtain ⟨r2, er2, h⟩ := mj_bind_some h
    obtain ⟨c3, h⟩ := mj_ck_some h
    refine ml_callV (Y' := mY_X6_asInt) (as := [.int s.1]) (rest := [.int s.1, .ref 73]) (c := 6) (v := (some (.int r2))) (M1 := (mj_fin s.2)) c3 rfl lm_X5_66 wc_X6_asInt pl_X6_asInt ok_X6_asInt rfl rfl (Nat.le_of_ble_eq_true rfl) (k_X6_asInt (by omega) er2) (mj_dt dt_X5_begin 15 rfl) ?_
    obtain ⟨c4, h⟩ := mj_ck_some h
    obtain ⟨m5, em5, h⟩ := mj_mw_some h
    refine ml_iast c4 (mj_dt dt_X5_begin 16 rfl) ?_
    refine ml_eqm (M1 := (mj_fin m5)) (by rw [em5] <;> rfl) ?_
    obtain ⟨x6, ex6, h⟩ := mj_mw_some h
    refine mj_go_iinc (i := 2) (x := s.1) (v := x6) rfl (by rw [ex6] <;> rfl) (by decide) (mj_dt dt_X5_begin 17 rfl) ?_
    refine mj_go_goto (tgt := 10) rfl (mj_dt dt_X5_begin 18 rfl) ?_
    refine mj_go_sub (lv' := [(0, .ref 55), (1, .ref v1), (2, .int x6)]) (List.forall_mem_cons.mpr ⟨rfl, (List.forall_mem_cons.mpr ⟨rfl, (List.forall_mem_cons.mpr ⟨rfl, (fun _ h9 => absurd h9 List.not_mem_nil)⟩)⟩)⟩) ?_
    exact q_10 _ _ h
def f_X5_begin (N : Nat) (v1 : Nat) (m : mj_m) : Option (mj_m) := mj_ck (mj_o 6 v1) ( mj_mw (mj_wI m 55 4 (m.1 v1 2)) (fun m2 => mj_lp N (f_X5_begin_10 N v1) (0, m2)))
theorem k_X5_begin {L : Nat} {xs : Nat → Int32} {δ N : Nat} {v1 : Nat} {m : mj_m} (hδ : 2 ≤ δ) {a : mj_m} (h : f_X5_begin N v1 m = some a) : mj_Cl (mj_EX L xs) δ mY_X5_begin [.ref 55, .ref v1] (mj_fin m) (none, (mj_fin a)) := by
  obtain ⟨δ, rfl⟩ : ∃ d, δ = d + 1 := ⟨δ - 1, by omega⟩
  have hδ : 1 ≤ δ := by omega
  refine mj_cl_of ok_X5_begin (Nat.le_of_ble_eq_true rfl) ?_
  unfold f_X5_begin at h
  refine mj_go_aload_n (k := 0) (x := 55) rfl (mj_dt dt_X5_begin 0 rfl) ?_
  refine mj_go_aload_n (k := 1) (x := v1) rfl (mj_dt dt_X5_begin 1 rfl) ?_
  obtain ⟨c1, h⟩ := mj_ck_some h
  refine mk_getI (c := 6) (k := 2) (Or.inl fd_6_2) (Or.inl fl_X5_61) c1 (mj_dt dt_X5_begin 2 rfl) ?_
  obtain ⟨m2, em2, h⟩ := mj_mw_some h
  refine ml_putI (c := 5) (k := 4) fd_5_4 rfl fl_X5_25 ho_55 (mj_dt dt_X5_begin 3 rfl) ?_
  refine ml_eqm (M1 := (mj_fin m2)) (by rw [em2] <;> rfl) ?_
  refine mj_go_iconst (v := 0) rfl (mj_dt dt_X5_begin 4 rfl) ?_
  refine mj_go_istore_n (k := 2) (by decide) (mj_dt dt_X5_begin 5 rfl) ?_
  refine mj_go_sub (lv' := [(0, .ref 55), (1, .ref v1), (2, .int 0)]) (List.forall_mem_cons.mpr ⟨rfl, (List.forall_mem_cons.mpr ⟨rfl, (List.forall_mem_cons.mpr ⟨rfl, (fun _ h9 => absurd h9 List.not_mem_nil)⟩)⟩)⟩) ?_
  exact k_X5_begin_10 hδ N _ _ h
def f_X5_fail (N : Nat) (v1 : Int32) (m : mj_m) : Option (Int32 × mj_m) := mj_mw (mj_wI m 55 7 v1) (fun m1 => some (0, m1))
theorem k_X5_fail {L : Nat} {xs : Nat → Int32} {δ N : Nat} {v1 : Int32} {m : mj_m} (_ : 0 ≤ δ) {a : Int32 × mj_m} (h : f_X5_fail N v1 m = some a) : mj_Cl (mj_EX L xs) δ mY_X5_fail [.ref 55, .int v1] (mj_fin m) (some (.int a.1), (mj_fin a.2)) := by
  refine mj_cl_of ok_X5_fail (Nat.le_of_ble_eq_true rfl) ?_
  unfold f_X5_fail at h
  refine mj_go_aload_n (k := 0) (x := 55) rfl (mj_dt dt_X5_fail 0 rfl) ?_
  refine mj_go_iload_n (k := 1) (x := v1) rfl (mj_dt dt_X5_fail 1 rfl) ?_
  obtain ⟨m1, em1, h⟩ := mj_mw_some h
  refine ml_putI (c := 5) (k := 7) fd_5_7 rfl fl_X5_35 ho_55 (mj_dt dt_X5_fail 2 rfl) ?_
  refine ml_eqm (M1 := (mj_fin m1)) (by rw [em1] <;> rfl) ?_
  refine mj_go_iconst (v := 0) rfl (mj_dt dt_X5_fail 3 rfl) ?_
  obtain rfl := Option.some.inj h
  exact mj_go_ret (v := some (.int 0)) (Nat.le_of_ble_eq_true rfl) (mj_retZ (mj_dt dt_X5_fail 4 rfl) rfl rfl)
def f_X5_wordOf (N : Nat) (v0 : Int32) (m : mj_m) : Option (Nat) := if v0 = 0 then (some 9100) else if v0 = 1 then (some 9101) else if v0 = 2 then (some 9102) else if v0 = 3 then (some 9103) else if v0 = 4 then (some 9104) else if v0 = 5 then (some 9105) else if v0 = 6 then (some 9106) else (some 9107)
theorem k_X5_wordOf {L : Nat} {xs : Nat → Int32} {δ N : Nat} {v0 : Int32} {m : mj_m} (_ : 0 ≤ δ) {a : Nat} (h : f_X5_wordOf N v0 m = some a) : mj_Cl (mj_EX L xs) δ mY_X5_wordOf [.int v0] (mj_fin m) (some (.ref a), (mj_fin m)) := by
  refine mj_cl_of ok_X5_wordOf (Nat.le_of_ble_eq_true rfl) ?_
  unfold f_X5_wordOf at h
  refine mj_go_iload_n (k := 0) (x := v0) rfl (mj_dt dt_X5_wordOf 0 rfl) ?_
  refine mj_go_tsw [(0, 43), (1, 46), (2, 49), (3, 52), (4, 55), (5, 58), (6, 61)] (by decide) (by decide) (mj_dt dt_X5_wordOf 1 rfl) ?_
  refine ⟨fun b1 => ?_, fun b1 => ?_⟩
  · rw [if_pos b1] at h
    refine ⟨44, by decide, ?_⟩
    refine mj_go_ldcS (i := 0) (by decide) rfl (mj_dt dt_X5_wordOf 2 rfl) ?_
    obtain rfl := Option.some.inj h
    exact mj_go_ret (v := some (.ref 9100)) (Nat.le_of_ble_eq_true rfl) (mj_retA (mj_dt dt_X5_wordOf 3 rfl) rfl)
  · rw [if_neg b1] at h
    refine ⟨fun b2 => ?_, fun b2 => ?_⟩
    · rw [if_pos b2] at h
      refine ⟨47, by decide, ?_⟩
      refine mj_go_ldcS (i := 1) (by decide) rfl (mj_dt dt_X5_wordOf 4 rfl) ?_
      obtain rfl := Option.some.inj h
      exact mj_go_ret (v := some (.ref 9101)) (Nat.le_of_ble_eq_true rfl) (mj_retA (mj_dt dt_X5_wordOf 5 rfl) rfl)
    · rw [if_neg b2] at h
      refine ⟨fun b3 => ?_, fun b3 => ?_⟩
      · rw [if_pos b3] at h
        refine ⟨50, by decide, ?_⟩
        refine mj_go_ldcS (i := 2) (by decide) rfl (mj_dt dt_X5_wordOf 6 rfl) ?_
        obtain rfl := Option.some.inj h
        exact mj_go_ret (v := some (.ref 9102)) (Nat.le_of_ble_eq_true rfl) (mj_retA (mj_dt dt_X5_wordOf 7 rfl) rfl)
      · rw [if_neg b3] at h
        refine ⟨fun b4 => ?_, fun b4 => ?_⟩
        · rw [if_pos b4] at h
          refine ⟨53, by decide, ?_⟩
          refine mj_go_ldcS (i := 3) (by decide) rfl (mj_dt dt_X5_wordOf 8 rfl) ?_
          obtain rfl := Option.some.inj h
          exact mj_go_ret (v := some (.ref 9103)) (Nat.le_of_ble_eq_true rfl) (mj_retA (mj_dt dt_X5_wordOf 9 rfl) rfl)
        · rw [if_neg b4] at h
          refine ⟨fun b5 => ?_, fun b5 => ?_⟩
          · rw [if_pos b5] at h
            refine ⟨56, by decide, ?_⟩
            refine mj_go_ldcS (i := 4) (by decide) rfl (mj_dt dt_X5_wordOf 10 rfl) ?_
            obtain rfl := Option.some.inj h
            exact mj_go_ret (v := some (.ref 9104)) (Nat.le_of_ble_eq_true rfl) (mj_retA (mj_dt dt_X5_wordOf 11 rfl) rfl)
          · rw [if_neg b5] at h
            refine ⟨fun b6 => ?_, fun b6 => ?_⟩
            · rw [if_pos b6] at h
              refine ⟨59, by decide, ?_⟩
              refine mj_go_ldcS (i := 5) (by decide) rfl (mj_dt dt_X5_wordOf 12 rfl) ?_
              obtain rfl := Option.some.inj h
              exact mj_go_ret (v := some (.ref 9105)) (Nat.le_of_ble_eq_true rfl) (mj_retA (mj_dt dt_X5_wordOf 13 rfl) rfl)
            · rw [if_neg b6] at h
              refine ⟨fun b7 => ?_, fun b7 => ?_⟩
              · rw [if_pos b7] at h
                refine ⟨62, by decide, ?_⟩
                refine mj_go_ldcS (i := 6) (by decide) rfl (mj_dt dt_X5_wordOf 14 rfl) ?_
                obtain rfl := Option.some.inj h
                exact mj_go_ret (v := some (.ref 9106)) (Nat.le_of_ble_eq_true rfl) (mj_retA (mj_dt dt_X5_wordOf 15 rfl) rfl)
              · rw [if_neg b7] at h
                refine ⟨65, by decide, ?_⟩
                refine mj_go_ldcS (i := 7) (by decide) rfl (mj_dt dt_X5_wordOf 16 rfl) ?_
                obtain rfl := Option.some.inj h
                exact mj_go_ret (v := some (.ref 9107)) (Nat.le_of_ble_eq_true rfl) (mj_retA (mj_dt dt_X5_wordOf 17 rfl) rfl)
def f_X5_letter_21 (N : Nat) (m : mj_m) : Option (Int32) := (some (-1 : Int32))
theorem k_X5_letter_21 {L : Nat} {xs : Nat → Int32} {δ N : Nat} {m : mj_m} {a : Int32} (h : f_X5_letter_21 N m = some a) : mj_Go (mj_EX L xs) δ mY_X5_letter 21 [] [] (mj_fin m) (some (.int a), (mj_fin m)) := by
  unfold f_X5_letter_21 at h
  refine mj_go_iconst (v := -1) rfl (mj_dt dt_X5_letter 11 rfl) ?_
  obtain rfl := Option.some.inj h
  exact mj_go_ret (v := some (.int (-1 : Int32))) (Nat.le_of_ble_eq_true rfl) (mj_retI (mj_dt dt_X5_letter 12 rfl) rfl)
def f_X5_letter (N : Nat) (v1 : Int32) (m : mj_m) : Option (Int32) := if v1 < 0 then f_X5_letter_21 N m else (if (m.1 55 4) ≤ v1 then f_X5_letter_21 N m else (mj_ck (mj_b 0 73 v1) ( (some (m.1 73 v1.toNatClampNeg)))))
theorem k_X5_letter {L : Nat} {xs : Nat → Int32} {δ N : Nat} {v1 : Int32} {m : mj_m} (_ : 0 ≤ δ) {a : Int32} (h : f_X5_letter N v1 m = some a) : mj_Cl (mj_EX L xs) δ mY_X5_letter [.ref 55, .int v1] (mj_fin m) (some (.int a), (mj_fin m)) := by
  refine mj_cl_of ok_X5_letter (Nat.le_of_ble_eq_true rfl) ?_
  unfold f_X5_letter at h
  refine mj_go_iload_n (k := 1) (x := v1) rfl (mj_dt dt_X5_letter 0 rfl) ?_
  refine mj_go_if_lt (tgt := 21) rfl (mj_dt dt_X5_letter 1 rfl) (fun b1 => ?_) (fun b1 => ?_)
  · rw [if_pos b1] at h
    refine mj_go_sub (lv' := []) (fun _ h9 => absurd h9 List.not_mem_nil) ?_
    exact k_X5_letter_21 h
  · rw [if_neg b1] at h
    refine mj_go_iload_n (k := 1) (x := v1) rfl (mj_dt dt_X5_letter 2 rfl) ?_
    refine mj_go_aload_n (k := 0) (x := 55) rfl (mj_dt dt_X5_letter 3 rfl) ?_
    refine mk_getI (c := 5) (k := 4) (Or.inl fd_5_4) (Or.inl fl_X5_25) ho_55 (mj_dt dt_X5_letter 4 rfl) ?_
    refine mj_go_icmp_ge (tgt := 21) rfl (mj_dt dt_X5_letter 5 rfl) (fun b2 => ?_) (fun b2 => ?_)
    · rw [if_pos b2] at h
      refine mj_go_sub (lv' := []) (fun _ h9 => absurd h9 List.not_mem_nil) ?_
      exact k_X5_letter_21 h
    · rw [if_neg b2] at h
      refine mj_go_aload_n (k := 0) (x := 55) rfl (mj_dt dt_X5_letter 6 rfl) ?_
      refine ml_getR (c := 5) (k := 2) (q := 73) fd_5_2 rf_55_2 (Or.inl fl_X5_18) ho_55 (mj_dt dt_X5_letter 7 rfl) ?_
      refine mj_go_iload_n (k := 1) (x := v1) rfl (mj_dt dt_X5_letter 8 rfl) ?_
      obtain ⟨c3, h⟩ := mj_ck_some h
      refine mk_iald c3 (mj_dt dt_X5_letter 9 rfl) ?_
      refine mj_go_goto (tgt := 22) rfl (mj_dt dt_X5_letter 10 rfl) ?_
      obtain rfl := Option.some.inj h
      exact mj_go_ret (v := some (.int (m.1 73 v1.toNatClampNeg))) (Nat.le_of_ble_eq_true rfl) (mj_retI (mj_dt dt_X5_letter 12 rfl) rfl)
def f_X5_fitting_2 (N : Nat) (v1 : Nat) (m : mj_m) (k_2 : Int32 → Option (Int32)) (s : Int32) : Option (Int32) := mj_ck (mj_sb v1) ( if (mj_sl_ v1) ≤ s then (some (mj_sl_ v1)) else ((f_X5_letter N ((m.1 55 5) + s) m).bind (fun r3 => mj_ck (mj_sc v1 s) ( if r3 = (mj_sch v1 s) then (mj_mw (s + 1) (fun x6 => k_2 (x6))) else (some s)))))
theorem k_X5_fitting_2 {L : Nat} {xs : Nat → Int32} {δ N : Nat} {v1 : Nat} {m : mj_m} (hδ : 5 ≤ δ) : ∀ (n : Nat) (s : Int32) (a : Int32), mj_lp n (f_X5_fitting_2 N v1 m) s = some a → mj_Go (mj_EX L xs) (δ + 1) mY_X5_fitting 2 [(0, .ref 55), (1, .ref v1), (2, .int s)] [] (mj_fin m) (some (.int a), (mj_fin m)) := by
  refine mj_lp_sound (fun k_2 s a q_2 h => ?_)
  unfold f_X5_fitting_2 at h
  refine mj_go_iload_n (k := 2) (x := s) rfl (mj_dt dt_X5_fitting 2 rfl) ?_
  refine mj_go_aload_n (k := 1) (x := v1) rfl (mj_dt dt_X5_fitting 3 rfl) ?_
  obtain ⟨c1, h⟩ := mj_ck_some h
  refine mk_slen c1 hm_X5_139 (Nat.le_of_ble_eq_true rfl) (by omega) (mj_dt dt_X5_fitting 4 rfl) ?_
  refine mj_go_icmp_ge (tgt := 36) rfl (mj_dt dt_X5_fitting 5 rfl) (fun b2 => ?_) (fun b2 => ?_)
  · rw [if_pos b2] at h
    refine mj_go_aload_n (k := 1) (x := v1) rfl (mj_dt dt_X5_fitting 20 rfl) ?_
    refine mk_slen c1 hm_X5_139 (Nat.le_of_ble_eq_true rfl) (by omega) (mj_dt dt_X5_fitting 21 rfl) ?_
    obtain rfl := Option.some.inj h
    exact mj_go_ret (v := some (.int (mj_sl_ v1))) (Nat.le_of_ble_eq_true rfl) (mj_retI (mj_dt dt_X5_fitting 22 rfl) rfl)
  · rw [if_neg b2] at h
    refine mj_go_aload_n (k := 0) (x := 55) rfl (mj_dt dt_X5_fitting 6 rfl) ?_
    refine mj_go_aload_n (k := 0) (x := 55) rfl (mj_dt dt_X5_fitting 7 rfl) ?_
    refine mk_getI (c := 5) (k := 5) (Or.inl fd_5_5) (Or.inl fl_X5_29) ho_55 (mj_dt dt_X5_fitting 8 rfl) ?_
    refine mj_go_iload_n (k := 2) (x := s) rfl (mj_dt dt_X5_fitting 9 rfl) ?_
    refine mj_go_iadd (mj_dt dt_X5_fitting 10 rfl) ?_
    obtain ⟨r3, er3, h⟩ := mj_bind_some h
    refine ml_callV (Y' := mY_X5_letter) (as := [.int ((m.1 55 5) + s)]) (rest := []) (c := 5) (v := (some (.int r3))) (M1 := (mj_fin m)) ho_55 rfl lm_X5_53 wc_X5_letter pl_X5_letter ok_X5_letter rfl rfl (Nat.le_of_ble_eq_true rfl) (k_X5_letter (by omega) er3) (mj_dt dt_X5_fitting 11 rfl) ?_
    refine mj_go_aload_n (k := 1) (x := v1) rfl (mj_dt dt_X5_fitting 12 rfl) ?_
    refine mj_go_iload_n (k := 2) (x := s) rfl (mj_dt dt_X5_fitting 13 rfl) ?_
    obtain ⟨c4, h⟩ := mj_ck_some h
    refine mk_schar c4 hm_X5_149 (Nat.le_of_ble_eq_true rfl) (by omega) (mj_dt dt_X5_fitting 14 rfl) ?_
    refine mj_go_icmp_eq (tgt := 30) rfl (mj_dt dt_X5_fitting 15 rfl) (fun b5 => ?_) (fun b5 => ?_)
    · rw [if_pos b5] at h
      obtain ⟨x6, ex6, h⟩ := mj_mw_some h
      refine mj_go_iinc (i := 2) (x := s) (v := x6) rfl (by rw [ex6] <;> rfl) (by decide) (mj_dt dt_X5_fitting 18 rfl) ?_
      refine mj_go_goto (tgt := 2) rfl (mj_dt dt_X5_fitting 19 rfl) ?_
      refine mj_go_sub (lv' := [(0, .ref 55), (1, .ref v1), (2, .int x6)]) (List.forall_mem_cons.mpr ⟨rfl, (List.forall_mem_cons.mpr ⟨rfl, (List.forall_mem_cons.mpr ⟨rfl, (fun _ h9 => absurd h9 List.not_mem_nil)⟩)⟩)⟩) ?_
      exact q_2 _ _ h
    · rw [if_neg b5] at h
      refine mj_go_iload_n (k := 2) (x := s) rfl (mj_dt dt_X5_fitting 16 rfl) ?_
      obtain rfl := Option.some.inj h
      exact mj_go_ret (v := some (.int s)) (Nat.le_of_ble_eq_true rfl) (mj_retI (mj_dt dt_X5_fitting 17 rfl) rfl)
def f_X5_fitting (N : Nat) (v1 : Nat) (m : mj_m) : Option (Int32) := mj_lp N (f_X5_fitting_2 N v1 m) (0)
theorem k_X5_fitting {L : Nat} {xs : Nat → Int32} {δ N : Nat} {v1 : Nat} {m : mj_m} (hδ : 6 ≤ δ) {a : Int32} (h : f_X5_fitting N v1 m = some a) : mj_Cl (mj_EX L xs) δ mY_X5_fitting [.ref 55, .ref v1] (mj_fin m) (some (.int a), (mj_fin m)) := by
  obtain ⟨δ, rfl⟩ : ∃ d, δ = d + 1 := ⟨δ - 1, by omega⟩
  have hδ : 5 ≤ δ := by omega
  refine mj_cl_of ok_X5_fitting (Nat.le_of_ble_eq_true rfl) ?_
  unfold f_X5_fitting at h
  refine mj_go_iconst (v := 0) rfl (mj_dt dt_X5_fitting 0 rfl) ?_
  refine mj_go_istore_n (k := 2) (by decide) (mj_dt dt_X5_fitting 1 rfl) ?_
  refine mj_go_sub (lv' := [(0, .ref 55), (1, .ref v1), (2, .int 0)]) (List.forall_mem_cons.mpr ⟨rfl, (List.forall_mem_cons.mpr ⟨rfl, (List.forall_mem_cons.mpr ⟨rfl, (fun _ h9 => absurd h9 List.not_mem_nil)⟩)⟩)⟩) ?_
  exact k_X5_fitting_2 hδ N _ _ h
def f_X5_readWord_5 (N : Nat) (v2 : Int32) (m : mj_m) (k_5 : Int32 × Int32 → Option (Int32 × mj_m)) (s : Int32 × Int32) : Option (Int32 × mj_m) := if v2 < s.2 then ((f_X5_fail N ((m.1 55 5) + s.1) m).bind (fun r2 => some ((-1 : Int32), r2.2))) else ((f_X5_wordOf N s.2 m).bind (fun r2 => (f_X5_fitting N r2 m).bind (fun r3 => (f_X5_wordOf N s.2 m).bind (fun r4 => mj_ck (mj_sb r4) ( if r3 = (mj_sl_ r4) then (mj_mw (mj_wI m 55 5 ((m.1 55 5) + r3)) (fun m7 => some (s.2, m7))) else (mj_mw (if s.1 < r3 then r3 else s.1) (fun x7 => mj_mw (s.2 + 1) (fun x8 => k_5 (x7, x8)))))))))
theorem k_X5_readWord_5 {L : Nat} {xs : Nat → Int32} {δ N : Nat} {v2 : Int32} {m : mj_m} (hδ : 6 ≤ δ) : ∀ (n : Nat) (s : Int32 × Int32) (a : Int32 × mj_m), mj_lp n (f_X5_readWord_5 N v2 m) s = some a → mj_Go (mj_EX L xs) (δ + 1) mY_X5_readWord 5 [(0, .ref 55), (2, .int v2), (3, .int s.1), (4, .int s.2)] [] (mj_fin m) (some (.int a.1), (mj_fin a.2)) := by
  refine mj_lp_sound (fun k_5 s a q_5 h => ?_)
  unfold f_X5_readWord_5 at h
  refine mj_go_iload (i := 4) (x := s.2) rfl (mj_dt dt_X5_readWord 4 rfl) ?_
  refine mj_go_iload_n (k := 2) (x := v2) rfl (mj_dt dt_X5_readWord 5 rfl) ?_
  refine mj_go_icmp_gt (tgt := 62) rfl (mj_dt dt_X5_readWord 6 rfl) (fun b1 => ?_) (fun b1 => ?_)
  · rw [if_pos b1] at h
    refine mj_go_aload_n (k := 0) (x := 55) rfl (mj_dt dt_X5_readWord 31 rfl) ?_
    refine mj_go_aload_n (k := 0) (x := 55) rfl (mj_dt dt_X5_readWord 32 rfl) ?_
    refine mk_getI (c := 5) (k := 5) (Or.inl fd_5_5) (Or.inl fl_X5_29) ho_55 (mj_dt dt_X5_readWord 33 rfl) ?_
    refine mj_go_iload_n (k := 3) (x := s.1) rfl (mj_dt dt_X5_readWord 34 rfl) ?_
    refine mj_go_iadd (mj_dt dt_X5_readWord 35 rfl) ?_
    obtain ⟨r2, er2, h⟩ := mj_bind_some h
    refine ml_callV (Y' := mY_X5_fail) (as := [.int ((m.1 55 5) + s.1)]) (rest := []) (c := 5) (v := (some (.int r2.1))) (M1 := (mj_fin r2.2)) ho_55 rfl lm_X5_57 wc_X5_fail pl_X5_fail ok_X5_fail rfl rfl (Nat.le_of_ble_eq_true rfl) (k_X5_fail (by omega) er2) (mj_dt dt_X5_readWord 36 rfl) ?_
    refine mj_go_pop rfl (mj_dt dt_X5_readWord 37 rfl) ?_
    refine mj_go_iconst (v := -1) rfl (mj_dt dt_X5_readWord 38 rfl) ?_
    obtain rfl := Option.some.inj h
    exact mj_go_ret (v := some (.int (-1 : Int32))) (Nat.le_of_ble_eq_true rfl) (mj_retI (mj_dt dt_X5_readWord 39 rfl) rfl)
  · rw [if_neg b1] at h
    refine mj_go_aload_n (k := 0) (x := 55) rfl (mj_dt dt_X5_readWord 7 rfl) ?_
    refine mj_go_iload (i := 4) (x := s.2) rfl (mj_dt dt_X5_readWord 8 rfl) ?_
    obtain ⟨r2, er2, h⟩ := mj_bind_some h
    refine ml_callS (Y' := mY_X5_wordOf) (as := [.int s.2]) (rest := [.ref 55]) (v := (some (.ref r2))) (M1 := (mj_fin m)) lm_X5_131 wc_X5_wordOf pl_X5_wordOf ok_X5_wordOf rfl rfl (Nat.le_of_ble_eq_true rfl) (k_X5_wordOf (by omega) er2) (mj_dt dt_X5_readWord 9 rfl) ?_
    obtain ⟨r3, er3, h⟩ := mj_bind_some h
    refine ml_callV (Y' := mY_X5_fitting) (as := [.ref r2]) (rest := []) (c := 5) (v := (some (.int r3))) (M1 := (mj_fin m)) ho_55 rfl lm_X5_135 wc_X5_fitting pl_X5_fitting ok_X5_fitting rfl rfl (Nat.le_of_ble_eq_true rfl) (k_X5_fitting (by omega) er3) (mj_dt dt_X5_readWord 10 rfl) ?_
    refine mj_go_istore (i := 5) (by decide) (mj_dt dt_X5_readWord 11 rfl) ?_
    refine mj_go_iload (i := 5) (x := r3) rfl (mj_dt dt_X5_readWord 12 rfl) ?_
    refine mj_go_iload (i := 4) (x := s.2) rfl (mj_dt dt_X5_readWord 13 rfl) ?_
    obtain ⟨r4, er4, h⟩ := mj_bind_some h
    refine ml_callS (Y' := mY_X5_wordOf) (as := [.int s.2]) (rest := [.int r3]) (v := (some (.ref r4))) (M1 := (mj_fin m)) lm_X5_131 wc_X5_wordOf pl_X5_wordOf ok_X5_wordOf rfl rfl (Nat.le_of_ble_eq_true rfl) (k_X5_wordOf (by omega) er4) (mj_dt dt_X5_readWord 14 rfl) ?_
    obtain ⟨c5, h⟩ := mj_ck_some h
    refine mk_slen c5 hm_X5_139 (Nat.le_of_ble_eq_true rfl) (by omega) (mj_dt dt_X5_readWord 15 rfl) ?_
    refine mj_go_icmp_ne (tgt := 49) rfl (mj_dt dt_X5_readWord 16 rfl) (fun b6 => ?_) (fun b6 => ?_)
    · rw [if_neg b6] at h
      refine mj_go_iload_n (k := 3) (x := s.1) rfl (mj_dt dt_X5_readWord 25 rfl) ?_
      refine mj_go_iload (i := 5) (x := r3) rfl (mj_dt dt_X5_readWord 26 rfl) ?_
      refine mj_go_max hm_X5_144 (Nat.le_of_ble_eq_true rfl) (mj_dt dt_X5_readWord 27 rfl) ?_
      obtain ⟨x7, ex7, h⟩ := mj_mw_some h
      refine ml_eqi ex7 ?_
      refine mj_go_istore_n (k := 3) (by decide) (mj_dt dt_X5_readWord 28 rfl) ?_
      obtain ⟨x8, ex8, h⟩ := mj_mw_some h
      refine mj_go_iinc (i := 4) (x := s.2) (v := x8) rfl (by rw [ex8] <;> rfl) (by decide) (mj_dt dt_X5_readWord 29 rfl) ?_
      refine mj_go_goto (tgt := 5) rfl (mj_dt dt_X5_readWord 30 rfl) ?_
      refine mj_go_sub (lv' := [(0, .ref 55), (2, .int v2), (3, .int x7), (4, .int x8)]) (List.forall_mem_cons.mpr ⟨rfl, (List.forall_mem_cons.mpr ⟨rfl, (List.forall_mem_cons.mpr ⟨rfl, (List.forall_mem_cons.mpr ⟨rfl, (fun _ h9 => absurd h9 List.not_mem_nil)⟩)⟩)⟩)⟩) ?_
      exact q_5 _ _ h
    · rw [if_pos b6] at h
      refine mj_go_aload_n (k := 0) (x := 55) rfl (mj_dt dt_X5_readWord 17 rfl) ?_
      refine mj_go_dup rfl (mj_dt dt_X5_readWord 18 rfl) ?_
      refine mk_getI (c := 5) (k := 5) (Or.inl fd_5_5) (Or.inl fl_X5_29) ho_55 (mj_dt dt_X5_readWord 19 rfl) ?_
      refine mj_go_iload (i := 5) (x := r3) rfl (mj_dt dt_X5_readWord 20 rfl) ?_
      refine mj_go_iadd (mj_dt dt_X5_readWord 21 rfl) ?_
      obtain ⟨m7, em7, h⟩ := mj_mw_some h
      refine ml_putI (c := 5) (k := 5) fd_5_5 rfl fl_X5_29 ho_55 (mj_dt dt_X5_readWord 22 rfl) ?_
      refine ml_eqm (M1 := (mj_fin m7)) (by rw [em7] <;> rfl) ?_
      refine mj_go_iload (i := 4) (x := s.2) rfl (mj_dt dt_X5_readWord 23 rfl) ?_
      obtain rfl := Option.some.inj h
      exact mj_go_ret (v := some (.int s.2)) (Nat.le_of_ble_eq_true rfl) (mj_retI (mj_dt dt_X5_readWord 24 rfl) rfl)
def f_X5_readWord (N : Nat) (v1 : Int32) (v2 : Int32) (m : mj_m) : Option (Int32 × mj_m) := mj_lp N (f_X5_readWord_5 N v2 m) (0, v1)
theorem k_X5_readWord {L : Nat} {xs : Nat → Int32} {δ N : Nat} {v1 : Int32} {v2 : Int32} {m : mj_m} (hδ : 7 ≤ δ) {a : Int32 × mj_m} (h : f_X5_readWord N v1 v2 m = some a) : mj_Cl (mj_EX L xs) δ mY_X5_readWord [.ref 55, .int v1, .int v2] (mj_fin m) (some (.int a.1), (mj_fin a.2)) := by
  obtain ⟨δ, rfl⟩ : ∃ d, δ = d + 1 := ⟨δ - 1, by omega⟩
  have hδ : 6 ≤ δ := by omega
  refine mj_cl_of ok_X5_readWord (Nat.le_of_ble_eq_true rfl) ?_
  unfold f_X5_readWord at h
  refine mj_go_iconst (v := 0) rfl (mj_dt dt_X5_readWord 0 rfl) ?_
  refine mj_go_istore_n (k := 3) (by decide) (mj_dt dt_X5_readWord 1 rfl) ?_
  refine mj_go_iload_n (k := 1) (x := v1) rfl (mj_dt dt_X5_readWord 2 rfl) ?_
  refine mj_go_istore (i := 4) (by decide) (mj_dt dt_X5_readWord 3 rfl) ?_
  refine mj_go_sub (lv' := [(0, .ref 55), (2, .int v2), (3, .int 0), (4, .int v1)]) (List.forall_mem_cons.mpr ⟨rfl, (List.forall_mem_cons.mpr ⟨rfl, (List.forall_mem_cons.mpr ⟨rfl, (List.forall_mem_cons.mpr ⟨rfl, (fun _ h9 => absurd h9 List.not_mem_nil)⟩)⟩)⟩)⟩) ?_
  exact k_X5_readWord_5 hδ N _ _ h
def f_X5_isDigit_16 (N : Nat) (m : mj_m) : Option (Int32) := (some 0)
theorem k_X5_isDigit_16 {L : Nat} {xs : Nat → Int32} {δ N : Nat} {m : mj_m} {a : Int32} (h : f_X5_isDigit_16 N m = some a) : mj_Go (mj_EX L xs) δ mY_X5_isDigit 16 [] [] (mj_fin m) (some (.int a), (mj_fin m)) := by
  unfold f_X5_isDigit_16 at h
  refine mj_go_iconst (v := 0) rfl (mj_dt dt_X5_isDigit 8 rfl) ?_
  obtain rfl := Option.some.inj h
  exact mj_go_ret (v := some (.int 0)) (Nat.le_of_ble_eq_true rfl) (mj_retZ (mj_dt dt_X5_isDigit 9 rfl) rfl rfl)
def f_X5_isDigit (N : Nat) (v0 : Int32) (m : mj_m) : Option (Int32) := if v0 < 48 then f_X5_isDigit_16 N m else (if 57 < v0 then f_X5_isDigit_16 N m else ((some 1)))
theorem k_X5_isDigit {L : Nat} {xs : Nat → Int32} {δ N : Nat} {v0 : Int32} {m : mj_m} (_ : 0 ≤ δ) {a : Int32} (h : f_X5_isDigit N v0 m = some a) : mj_Cl (mj_EX L xs) δ mY_X5_isDigit [.int v0] (mj_fin m) (some (.int a), (mj_fin m)) := by
  refine mj_cl_of ok_X5_isDigit (Nat.le_of_ble_eq_true rfl) ?_
  unfold f_X5_isDigit at h
  refine mj_go_iload_n (k := 0) (x := v0) rfl (mj_dt dt_X5_isDigit 0 rfl) ?_
  refine mj_go_bipush (v := 48) rfl (mj_dt dt_X5_isDigit 1 rfl) ?_
  refine mj_go_icmp_lt (tgt := 16) rfl (mj_dt dt_X5_isDigit 2 rfl) (fun b1 => ?_) (fun b1 => ?_)
  · rw [if_pos b1] at h
    refine mj_go_sub (lv' := []) (fun _ h9 => absurd h9 List.not_mem_nil) ?_
    exact k_X5_isDigit_16 h
  · rw [if_neg b1] at h
    refine mj_go_iload_n (k := 0) (x := v0) rfl (mj_dt dt_X5_isDigit 3 rfl) ?_
    refine mj_go_bipush (v := 57) rfl (mj_dt dt_X5_isDigit 4 rfl) ?_
    refine mj_go_icmp_gt (tgt := 16) rfl (mj_dt dt_X5_isDigit 5 rfl) (fun b2 => ?_) (fun b2 => ?_)
    · rw [if_pos b2] at h
      refine mj_go_sub (lv' := []) (fun _ h9 => absurd h9 List.not_mem_nil) ?_
      exact k_X5_isDigit_16 h
    · rw [if_neg b2] at h
      refine mj_go_iconst (v := 1) rfl (mj_dt dt_X5_isDigit 6 rfl) ?_
      refine mj_go_goto (tgt := 17) rfl (mj_dt dt_X5_isDigit 7 rfl) ?_
      obtain rfl := Option.some.inj h
      exact mj_go_ret (v := some (.int 1)) (Nat.le_of_ble_eq_true rfl) (mj_retZ (mj_dt dt_X5_isDigit 9 rfl) rfl rfl)
def f_X5_readNumber_121 (N : Nat) (m : mj_m) : Option (Int32 × mj_m) := (f_X5_fail N (m.1 55 6) m).bind (fun r1 => some ((-1 : Int32), r1.2))
theorem k_X5_readNumber_121 {L : Nat} {xs : Nat → Int32} {δ N : Nat} {m : mj_m} (hδ : 0 ≤ δ) {a : Int32 × mj_m} (h : f_X5_readNumber_121 N m = some a) : mj_Go (mj_EX L xs) (δ + 1) mY_X5_readNumber 121 [(0, .ref 55)] [] (mj_fin m) (some (.int a.1), (mj_fin a.2)) := by
  unfold f_X5_readNumber_121 at h
  refine mj_go_aload_n (k := 0) (x := 55) rfl (mj_dt dt_X5_readNumber 66 rfl) ?_
  refine mj_go_aload_n (k := 0) (x := 55) rfl (mj_dt dt_X5_readNumber 67 rfl) ?_
  refine mk_getI (c := 5) (k := 6) (Or.inl fd_5_6) (Or.inl fl_X5_32) ho_55 (mj_dt dt_X5_readNumber 68 rfl) ?_
  obtain ⟨r1, er1, h⟩ := mj_bind_some h
  refine ml_callV (Y' := mY_X5_fail) (as := [.int (m.1 55 6)]) (rest := []) (c := 5) (v := (some (.int r1.1))) (M1 := (mj_fin r1.2)) ho_55 rfl lm_X5_57 wc_X5_fail pl_X5_fail ok_X5_fail rfl rfl (Nat.le_of_ble_eq_true rfl) (k_X5_fail (by omega) er1) (mj_dt dt_X5_readNumber 69 rfl) ?_
  refine mj_go_pop rfl (mj_dt dt_X5_readNumber 70 rfl) ?_
  refine mj_go_iconst (v := -1) rfl (mj_dt dt_X5_readNumber 71 rfl) ?_
  obtain rfl := Option.some.inj h
  exact mj_go_ret (v := some (.int (-1 : Int32))) (Nat.le_of_ble_eq_true rfl) (mj_retI (mj_dt dt_X5_readNumber 72 rfl) rfl)
def f_X5_readNumber_100 (N : Nat) (v1 : Int32) (v2 : Int32) (v3 : Int32) (m : mj_m) : Option (Int32 × mj_m) := if (m.1 55 5) = (m.1 55 6) then f_X5_readNumber_121 N m else (if v3 < v1 then f_X5_readNumber_121 N m else (if v3 ≤ v2 then (some (v3, m)) else f_X5_readNumber_121 N m))
theorem k_X5_readNumber_100 {L : Nat} {xs : Nat → Int32} {δ N : Nat} {v1 : Int32} {v2 : Int32} {v3 : Int32} {m : mj_m} (hδ : 0 ≤ δ) {a : Int32 × mj_m} (h : f_X5_readNumber_100 N v1 v2 v3 m = some a) : mj_Go (mj_EX L xs) (δ + 1) mY_X5_readNumber 100 [(0, .ref 55), (1, .int v1), (2, .int v2), (3, .int v3)] [] (mj_fin m) (some (.int a.1), (mj_fin a.2)) := by
  unfold f_X5_readNumber_100 at h
  refine mj_go_aload_n (k := 0) (x := 55) rfl (mj_dt dt_X5_readNumber 55 rfl) ?_
  refine mk_getI (c := 5) (k := 5) (Or.inl fd_5_5) (Or.inl fl_X5_29) ho_55 (mj_dt dt_X5_readNumber 56 rfl) ?_
  refine mj_go_aload_n (k := 0) (x := 55) rfl (mj_dt dt_X5_readNumber 57 rfl) ?_
  refine mk_getI (c := 5) (k := 6) (Or.inl fd_5_6) (Or.inl fl_X5_32) ho_55 (mj_dt dt_X5_readNumber 58 rfl) ?_
  refine mj_go_icmp_eq (tgt := 121) rfl (mj_dt dt_X5_readNumber 59 rfl) (fun b1 => ?_) (fun b1 => ?_)
  · rw [if_pos b1] at h
    refine mj_go_sub (lv' := [(0, .ref 55)]) (List.forall_mem_cons.mpr ⟨rfl, (fun _ h9 => absurd h9 List.not_mem_nil)⟩) ?_
    exact k_X5_readNumber_121 hδ h
  · rw [if_neg b1] at h
    refine mj_go_iload_n (k := 3) (x := v3) rfl (mj_dt dt_X5_readNumber 60 rfl) ?_
    refine mj_go_iload_n (k := 1) (x := v1) rfl (mj_dt dt_X5_readNumber 61 rfl) ?_
    refine mj_go_icmp_lt (tgt := 121) rfl (mj_dt dt_X5_readNumber 62 rfl) (fun b2 => ?_) (fun b2 => ?_)
    · rw [if_pos b2] at h
      refine mj_go_sub (lv' := [(0, .ref 55)]) (List.forall_mem_cons.mpr ⟨rfl, (fun _ h9 => absurd h9 List.not_mem_nil)⟩) ?_
      exact k_X5_readNumber_121 hδ h
    · rw [if_neg b2] at h
      refine mj_go_iload_n (k := 3) (x := v3) rfl (mj_dt dt_X5_readNumber 63 rfl) ?_
      refine mj_go_iload_n (k := 2) (x := v2) rfl (mj_dt dt_X5_readNumber 64 rfl) ?_
      refine mj_go_icmp_le (tgt := 132) rfl (mj_dt dt_X5_readNumber 65 rfl) (fun b3 => ?_) (fun b3 => ?_)
      · rw [if_pos b3] at h
        refine mj_go_iload_n (k := 3) (x := v3) rfl (mj_dt dt_X5_readNumber 73 rfl) ?_
        obtain rfl := Option.some.inj h
        exact mj_go_ret (v := some (.int v3)) (Nat.le_of_ble_eq_true rfl) (mj_retI (mj_dt dt_X5_readNumber 74 rfl) rfl)
      · rw [if_neg b3] at h
        refine mj_go_sub (lv' := [(0, .ref 55)]) (List.forall_mem_cons.mpr ⟨rfl, (fun _ h9 => absurd h9 List.not_mem_nil)⟩) ?_
        exact k_X5_readNumber_121 hδ h
def f_X5_readNumber_47 (N : Nat) (v1 : Int32) (v2 : Int32) (k_47 : Int32 × Int32 × mj_m → Option (Int32 × mj_m)) (s : Int32 × Int32 × mj_m) : Option (Int32 × mj_m) := if 3 ≤ s.2.1 then f_X5_readNumber_100 N v1 v2 s.1 s.2.2 else ((f_X5_letter N (s.2.2.1 55 5) s.2.2).bind (fun r2 => (f_X5_isDigit N r2 s.2.2).bind (fun r3 => if r3 = 0 then f_X5_readNumber_100 N v1 v2 s.1 s.2.2 else ((f_X5_letter N (s.2.2.1 55 5) s.2.2).bind (fun r5 => mj_mw (((s.1 * 10) + r5) - 48) (fun x6 => mj_mw (mj_wI s.2.2 55 5 ((s.2.2.1 55 5) + 1)) (fun m7 => mj_mw (s.2.1 + 1) (fun x8 => k_47 (x6, x8, m7)))))))))
theorem k_X5_readNumber_47 {L : Nat} {xs : Nat → Int32} {δ N : Nat} {v1 : Int32} {v2 : Int32} (hδ : 0 ≤ δ) : ∀ (n : Nat) (s : Int32 × Int32 × mj_m) (a : Int32 × mj_m), mj_lp n (f_X5_readNumber_47 N v1 v2) s = some a → mj_Go (mj_EX L xs) (δ + 1) mY_X5_readNumber 47 [(0, .ref 55), (1, .int v1), (2, .int v2), (3, .int s.1), (4, .int s.2.1)] [] (mj_fin s.2.2) (some (.int a.1), (mj_fin a.2)) := by
  refine mj_lp_sound (fun k_47 s a q_47 h => ?_)
  unfold f_X5_readNumber_47 at h
  refine mj_go_iload (i := 4) (x := s.2.1) rfl (mj_dt dt_X5_readNumber 27 rfl) ?_
  refine mj_go_iconst (v := 3) rfl (mj_dt dt_X5_readNumber 28 rfl) ?_
  refine mj_go_icmp_ge (tgt := 100) rfl (mj_dt dt_X5_readNumber 29 rfl) (fun b1 => ?_) (fun b1 => ?_)
  · rw [if_pos b1] at h
    refine mj_go_sub (lv' := [(0, .ref 55), (1, .int v1), (2, .int v2), (3, .int s.1)]) (List.forall_mem_cons.mpr ⟨rfl, (List.forall_mem_cons.mpr ⟨rfl, (List.forall_mem_cons.mpr ⟨rfl, (List.forall_mem_cons.mpr ⟨rfl, (fun _ h9 => absurd h9 List.not_mem_nil)⟩)⟩)⟩)⟩) ?_
    exact k_X5_readNumber_100 hδ h
  · rw [if_neg b1] at h
    refine mj_go_aload_n (k := 0) (x := 55) rfl (mj_dt dt_X5_readNumber 30 rfl) ?_
    refine mj_go_aload_n (k := 0) (x := 55) rfl (mj_dt dt_X5_readNumber 31 rfl) ?_
    refine mk_getI (c := 5) (k := 5) (Or.inl fd_5_5) (Or.inl fl_X5_29) ho_55 (mj_dt dt_X5_readNumber 32 rfl) ?_
    obtain ⟨r2, er2, h⟩ := mj_bind_some h
    refine ml_callV (Y' := mY_X5_letter) (as := [.int (s.2.2.1 55 5)]) (rest := []) (c := 5) (v := (some (.int r2))) (M1 := (mj_fin s.2.2)) ho_55 rfl lm_X5_53 wc_X5_letter pl_X5_letter ok_X5_letter rfl rfl (Nat.le_of_ble_eq_true rfl) (k_X5_letter (by omega) er2) (mj_dt dt_X5_readNumber 33 rfl) ?_
    obtain ⟨r3, er3, h⟩ := mj_bind_some h
    refine ml_callS (Y' := mY_X5_isDigit) (as := [.int r2]) (rest := []) (v := (some (.int r3))) (M1 := (mj_fin s.2.2)) lm_X5_163 wc_X5_isDigit pl_X5_isDigit ok_X5_isDigit rfl rfl (Nat.le_of_ble_eq_true rfl) (k_X5_isDigit (by omega) er3) (mj_dt dt_X5_readNumber 34 rfl) ?_
    refine mj_go_if_eq (tgt := 100) rfl (mj_dt dt_X5_readNumber 35 rfl) (fun b4 => ?_) (fun b4 => ?_)
    · rw [if_pos b4] at h
      refine mj_go_sub (lv' := [(0, .ref 55), (1, .int v1), (2, .int v2), (3, .int s.1)]) (List.forall_mem_cons.mpr ⟨rfl, (List.forall_mem_cons.mpr ⟨rfl, (List.forall_mem_cons.mpr ⟨rfl, (List.forall_mem_cons.mpr ⟨rfl, (fun _ h9 => absurd h9 List.not_mem_nil)⟩)⟩)⟩)⟩) ?_
      exact k_X5_readNumber_100 hδ h
    · rw [if_neg b4] at h
      refine mj_go_iload_n (k := 3) (x := s.1) rfl (mj_dt dt_X5_readNumber 36 rfl) ?_
      refine mj_go_bipush (v := 10) rfl (mj_dt dt_X5_readNumber 37 rfl) ?_
      refine mj_go_imul (mj_dt dt_X5_readNumber 38 rfl) ?_
      refine mj_go_aload_n (k := 0) (x := 55) rfl (mj_dt dt_X5_readNumber 39 rfl) ?_
      refine mj_go_aload_n (k := 0) (x := 55) rfl (mj_dt dt_X5_readNumber 40 rfl) ?_
      refine mk_getI (c := 5) (k := 5) (Or.inl fd_5_5) (Or.inl fl_X5_29) ho_55 (mj_dt dt_X5_readNumber 41 rfl) ?_
      obtain ⟨r5, er5, h⟩ := mj_bind_some h
      refine ml_callV (Y' := mY_X5_letter) (as := [.int (s.2.2.1 55 5)]) (rest := [.int (s.1 * 10)]) (c := 5) (v := (some (.int r5))) (M1 := (mj_fin s.2.2)) ho_55 rfl lm_X5_53 wc_X5_letter pl_X5_letter ok_X5_letter rfl rfl (Nat.le_of_ble_eq_true rfl) (k_X5_letter (by omega) er5) (mj_dt dt_X5_readNumber 42 rfl) ?_
      refine mj_go_iadd (mj_dt dt_X5_readNumber 43 rfl) ?_
      refine mj_go_bipush (v := 48) rfl (mj_dt dt_X5_readNumber 44 rfl) ?_
      refine mj_go_isub (mj_dt dt_X5_readNumber 45 rfl) ?_
      obtain ⟨x6, ex6, h⟩ := mj_mw_some h
      refine ml_eqi ex6 ?_
      refine mj_go_istore_n (k := 3) (by decide) (mj_dt dt_X5_readNumber 46 rfl) ?_
      refine mj_go_aload_n (k := 0) (x := 55) rfl (mj_dt dt_X5_readNumber 47 rfl) ?_
      refine mj_go_dup rfl (mj_dt dt_X5_readNumber 48 rfl) ?_
      refine mk_getI (c := 5) (k := 5) (Or.inl fd_5_5) (Or.inl fl_X5_29) ho_55 (mj_dt dt_X5_readNumber 49 rfl) ?_
      refine mj_go_iconst (v := 1) rfl (mj_dt dt_X5_readNumber 50 rfl) ?_
      refine mj_go_iadd (mj_dt dt_X5_readNumber 51 rfl) ?_
      obtain ⟨m7, em7, h⟩ := mj_mw_some h
      refine ml_putI (c := 5) (k := 5) fd_5_5 rfl fl_X5_29 ho_55 (mj_dt dt_X5_readNumber 52 rfl) ?_
      refine ml_eqm (M1 := (mj_fin m7)) (by rw [em7] <;> rfl) ?_
      obtain ⟨x8, ex8, h⟩ := mj_mw_some h
      refine mj_go_iinc (i := 4) (x := s.2.1) (v := x8) rfl (by rw [ex8] <;> rfl) (by decide) (mj_dt dt_X5_readNumber 53 rfl) ?_
      refine mj_go_goto (tgt := 47) rfl (mj_dt dt_X5_readNumber 54 rfl) ?_
      refine mj_go_sub (lv' := [(0, .ref 55), (1, .int v1), (2, .int v2), (3, .int x6), (4, .int x8)]) (List.forall_mem_cons.mpr ⟨rfl, (List.forall_mem_cons.mpr ⟨rfl, (List.forall_mem_cons.mpr ⟨rfl, (List.forall_mem_cons.mpr ⟨rfl, (List.forall_mem_cons.mpr ⟨rfl, (fun _ h9 => absurd h9 List.not_mem_nil)⟩)⟩)⟩)⟩)⟩) ?_
      exact q_47 _ _ h
def f_X5_readNumber (N : Nat) (v1 : Int32) (v2 : Int32) (m : mj_m) : Option (Int32 × mj_m) := (f_X5_letter N (m.1 55 5) m).bind (fun r1 => if r1 = 32 then (mj_mw (mj_wI m 55 5 ((m.1 55 5) + 1)) (fun m3 => mj_mw (mj_wI m3 55 6 (m3.1 55 5)) (fun m4 => mj_lp N (f_X5_readNumber_47 N v1 v2) (0, 0, m4)))) else ((f_X5_fail N (m.1 55 5) m).bind (fun r3 => some ((-1 : Int32), r3.2))))
theorem k_X5_readNumber {L : Nat} {xs : Nat → Int32} {δ N : Nat} {v1 : Int32} {v2 : Int32} {m : mj_m} (hδ : 1 ≤ δ) {a : Int32 × mj_m} (h : f_X5_readNumber N v1 v2 m = some a) : mj_Cl (mj_EX L xs) δ mY_X5_readNumber [.ref 55, .int v1, .int v2] (mj_fin m) (some (.int a.1), (mj_fin a.2)) := by
  obtain ⟨δ, rfl⟩ : ∃ d, δ = d + 1 := ⟨δ - 1, by omega⟩
  have hδ : 0 ≤ δ := by omega
  refine mj_cl_of ok_X5_readNumber (Nat.le_of_ble_eq_true rfl) ?_
  unfold f_X5_readNumber at h
  refine mj_go_aload_n (k := 0) (x := 55) rfl (mj_dt dt_X5_readNumber 0 rfl) ?_
  refine mj_go_aload_n (k := 0) (x := 55) rfl (mj_dt dt_X5_readNumber 1 rfl) ?_
  refine mk_getI (c := 5) (k := 5) (Or.inl fd_5_5) (Or.inl fl_X5_29) ho_55 (mj_dt dt_X5_readNumber 2 rfl) ?_
  obtain ⟨r1, er1, h⟩ := mj_bind_some h
  refine ml_callV (Y' := mY_X5_letter) (as := [.int (m.1 55 5)]) (rest := []) (c := 5) (v := (some (.int r1))) (M1 := (mj_fin m)) ho_55 rfl lm_X5_53 wc_X5_letter pl_X5_letter ok_X5_letter rfl rfl (Nat.le_of_ble_eq_true rfl) (k_X5_letter (by omega) er1) (mj_dt dt_X5_readNumber 3 rfl) ?_
  refine mj_go_bipush (v := 32) rfl (mj_dt dt_X5_readNumber 4 rfl) ?_
  refine mj_go_icmp_eq (tgt := 24) rfl (mj_dt dt_X5_readNumber 5 rfl) (fun b2 => ?_) (fun b2 => ?_)
  · rw [if_pos b2] at h
    refine mj_go_aload_n (k := 0) (x := 55) rfl (mj_dt dt_X5_readNumber 13 rfl) ?_
    refine mj_go_dup rfl (mj_dt dt_X5_readNumber 14 rfl) ?_
    refine mk_getI (c := 5) (k := 5) (Or.inl fd_5_5) (Or.inl fl_X5_29) ho_55 (mj_dt dt_X5_readNumber 15 rfl) ?_
    refine mj_go_iconst (v := 1) rfl (mj_dt dt_X5_readNumber 16 rfl) ?_
    refine mj_go_iadd (mj_dt dt_X5_readNumber 17 rfl) ?_
    obtain ⟨m3, em3, h⟩ := mj_mw_some h
    refine ml_putI (c := 5) (k := 5) fd_5_5 rfl fl_X5_29 ho_55 (mj_dt dt_X5_readNumber 18 rfl) ?_
    refine ml_eqm (M1 := (mj_fin m3)) (by rw [em3] <;> rfl) ?_
    refine mj_go_aload_n (k := 0) (x := 55) rfl (mj_dt dt_X5_readNumber 19 rfl) ?_
    refine mj_go_aload_n (k := 0) (x := 55) rfl (mj_dt dt_X5_readNumber 20 rfl) ?_
    refine mk_getI (c := 5) (k := 5) (Or.inl fd_5_5) (Or.inl fl_X5_29) ho_55 (mj_dt dt_X5_readNumber 21 rfl) ?_
    obtain ⟨m4, em4, h⟩ := mj_mw_some h
    refine ml_putI (c := 5) (k := 6) fd_5_6 rfl fl_X5_32 ho_55 (mj_dt dt_X5_readNumber 22 rfl) ?_
    refine ml_eqm (M1 := (mj_fin m4)) (by rw [em4] <;> rfl) ?_
    refine mj_go_iconst (v := 0) rfl (mj_dt dt_X5_readNumber 23 rfl) ?_
    refine mj_go_istore_n (k := 3) (by decide) (mj_dt dt_X5_readNumber 24 rfl) ?_
    refine mj_go_iconst (v := 0) rfl (mj_dt dt_X5_readNumber 25 rfl) ?_
    refine mj_go_istore (i := 4) (by decide) (mj_dt dt_X5_readNumber 26 rfl) ?_
    refine mj_go_sub (lv' := [(0, .ref 55), (1, .int v1), (2, .int v2), (3, .int 0), (4, .int 0)]) (List.forall_mem_cons.mpr ⟨rfl, (List.forall_mem_cons.mpr ⟨rfl, (List.forall_mem_cons.mpr ⟨rfl, (List.forall_mem_cons.mpr ⟨rfl, (List.forall_mem_cons.mpr ⟨rfl, (fun _ h9 => absurd h9 List.not_mem_nil)⟩)⟩)⟩)⟩)⟩) ?_
    exact k_X5_readNumber_47 hδ N _ _ h
  · rw [if_neg b2] at h
    refine mj_go_aload_n (k := 0) (x := 55) rfl (mj_dt dt_X5_readNumber 6 rfl) ?_
    refine mj_go_aload_n (k := 0) (x := 55) rfl (mj_dt dt_X5_readNumber 7 rfl) ?_
    refine mk_getI (c := 5) (k := 5) (Or.inl fd_5_5) (Or.inl fl_X5_29) ho_55 (mj_dt dt_X5_readNumber 8 rfl) ?_
    obtain ⟨r3, er3, h⟩ := mj_bind_some h
    refine ml_callV (Y' := mY_X5_fail) (as := [.int (m.1 55 5)]) (rest := []) (c := 5) (v := (some (.int r3.1))) (M1 := (mj_fin r3.2)) ho_55 rfl lm_X5_57 wc_X5_fail pl_X5_fail ok_X5_fail rfl rfl (Nat.le_of_ble_eq_true rfl) (k_X5_fail (by omega) er3) (mj_dt dt_X5_readNumber 9 rfl) ?_
    refine mj_go_pop rfl (mj_dt dt_X5_readNumber 10 rfl) ?_
    refine mj_go_iconst (v := -1) rfl (mj_dt dt_X5_readNumber 11 rfl) ?_
    obtain rfl := Option.some.inj h
    exact mj_go_ret (v := some (.int (-1 : Int32))) (Nat.le_of_ble_eq_true rfl) (mj_retI (mj_dt dt_X5_readNumber 12 rfl) rfl)
def f_X7_addStreet_56 (N : Nat) (v1 : Int32) (v2 : Int32) (m : mj_m) : Option (Int32 × mj_m) := if (m.1 56 6) < 12 then (mj_ck (mj_b 0 57 (m.1 56 6)) ( mj_mw (mj_wI m 57 ((m.1 56 6).toNatClampNeg) v1) (fun m3 => mj_ck (mj_b 0 58 (m3.1 56 6)) ( mj_mw (mj_wI m3 58 ((m3.1 56 6).toNatClampNeg) v2) (fun m5 => mj_mw (mj_wI m5 56 6 ((m5.1 56 6) + 1)) (fun m6 => some ((m6.1 56 6) - 1, m6))))))) else (some ((-1 : Int32), m))
theorem k_X7_addStreet_56 {L : Nat} {xs : Nat → Int32} {δ N : Nat} {v1 : Int32} {v2 : Int32} {m : mj_m} (_ : 0 ≤ δ) {a : Int32 × mj_m} (h : f_X7_addStreet_56 N v1 v2 m = some a) : mj_Cl (mj_EX L xs) δ mY_X7_addStreet [.ref 56, .int v1, .int v2] (mj_fin m) (some (.int a.1), (mj_fin a.2)) := by
  refine mj_cl_of ok_X7_addStreet (Nat.le_of_ble_eq_true rfl) ?_
  unfold f_X7_addStreet_56 at h
  refine mj_go_aload_n (k := 0) (x := 56) rfl (mj_dt dt_X7_addStreet 0 rfl) ?_
  refine mk_getI (c := 7) (k := 6) (Or.inl fd_7_6) (Or.inl fl_X7_33) ho_56 (mj_dt dt_X7_addStreet 1 rfl) ?_
  refine mj_go_bipush (v := 12) rfl (mj_dt dt_X7_addStreet 2 rfl) ?_
  refine mj_go_icmp_lt (tgt := 11) rfl (mj_dt dt_X7_addStreet 3 rfl) (fun b1 => ?_) (fun b1 => ?_)
  · rw [if_pos b1] at h
    refine mj_go_aload_n (k := 0) (x := 56) rfl (mj_dt dt_X7_addStreet 6 rfl) ?_
    refine ml_getR (c := 7) (k := 0) (q := 57) fd_7_0 rf_56_0 (Or.inl fl_X7_9) ho_56 (mj_dt dt_X7_addStreet 7 rfl) ?_
    refine mj_go_aload_n (k := 0) (x := 56) rfl (mj_dt dt_X7_addStreet 8 rfl) ?_
    refine mk_getI (c := 7) (k := 6) (Or.inl fd_7_6) (Or.inl fl_X7_33) ho_56 (mj_dt dt_X7_addStreet 9 rfl) ?_
    refine mj_go_iload_n (k := 1) (x := v1) rfl (mj_dt dt_X7_addStreet 10 rfl) ?_
    obtain ⟨c2, h⟩ := mj_ck_some h
    obtain ⟨m3, em3, h⟩ := mj_mw_some h
    refine ml_iast c2 (mj_dt dt_X7_addStreet 11 rfl) ?_
    refine ml_eqm (M1 := (mj_fin m3)) (by rw [em3] <;> rfl) ?_
    refine mj_go_aload_n (k := 0) (x := 56) rfl (mj_dt dt_X7_addStreet 12 rfl) ?_
    refine ml_getR (c := 7) (k := 1) (q := 58) fd_7_1 rf_56_1 (Or.inl fl_X7_15) ho_56 (mj_dt dt_X7_addStreet 13 rfl) ?_
    refine mj_go_aload_n (k := 0) (x := 56) rfl (mj_dt dt_X7_addStreet 14 rfl) ?_
    refine mk_getI (c := 7) (k := 6) (Or.inl fd_7_6) (Or.inl fl_X7_33) ho_56 (mj_dt dt_X7_addStreet 15 rfl) ?_
    refine mj_go_iload_n (k := 2) (x := v2) rfl (mj_dt dt_X7_addStreet 16 rfl) ?_
    obtain ⟨c4, h⟩ := mj_ck_some h
    obtain ⟨m5, em5, h⟩ := mj_mw_some h
    refine ml_iast c4 (mj_dt dt_X7_addStreet 17 rfl) ?_
    refine ml_eqm (M1 := (mj_fin m5)) (by rw [em5] <;> rfl) ?_
    refine mj_go_aload_n (k := 0) (x := 56) rfl (mj_dt dt_X7_addStreet 18 rfl) ?_
    refine mj_go_dup rfl (mj_dt dt_X7_addStreet 19 rfl) ?_
    refine mk_getI (c := 7) (k := 6) (Or.inl fd_7_6) (Or.inl fl_X7_33) ho_56 (mj_dt dt_X7_addStreet 20 rfl) ?_
    refine mj_go_iconst (v := 1) rfl (mj_dt dt_X7_addStreet 21 rfl) ?_
    refine mj_go_iadd (mj_dt dt_X7_addStreet 22 rfl) ?_
    obtain ⟨m6, em6, h⟩ := mj_mw_some h
    refine ml_putI (c := 7) (k := 6) fd_7_6 rfl fl_X7_33 ho_56 (mj_dt dt_X7_addStreet 23 rfl) ?_
    refine ml_eqm (M1 := (mj_fin m6)) (by rw [em6] <;> rfl) ?_
    refine mj_go_aload_n (k := 0) (x := 56) rfl (mj_dt dt_X7_addStreet 24 rfl) ?_
    refine mk_getI (c := 7) (k := 6) (Or.inl fd_7_6) (Or.inl fl_X7_33) ho_56 (mj_dt dt_X7_addStreet 25 rfl) ?_
    refine mj_go_iconst (v := 1) rfl (mj_dt dt_X7_addStreet 26 rfl) ?_
    refine mj_go_isub (mj_dt dt_X7_addStreet 27 rfl) ?_
    obtain rfl := Option.some.inj h
    exact mj_go_ret (v := some (.int ((m6.1 56 6) - 1))) (Nat.le_of_ble_eq_true rfl) (mj_retI (mj_dt dt_X7_addStreet 28 rfl) rfl)
  · rw [if_neg b1] at h
    refine mj_go_iconst (v := -1) rfl (mj_dt dt_X7_addStreet 4 rfl) ?_
    obtain rfl := Option.some.inj h
    exact mj_go_ret (v := some (.int (-1 : Int32))) (Nat.le_of_ble_eq_true rfl) (mj_retI (mj_dt dt_X7_addStreet 5 rfl) rfl)
def f_X5_readStreet_24 (N : Nat) (v1 : Int32) (s0 : Int32) (m : mj_m) : Option (Int32 × mj_m) := if s0 = (-1 : Int32) then (some (0, m)) else (if v1 = s0 then ((f_X5_fail N (m.1 55 6) m).bind (fun r3 => mj_ck (r3.1 &&& 1 == r3.1) ( some (r3.1, r3.2)))) else ((f_X7_addStreet_56 N v1 s0 m).bind (fun r3 => some (1, r3.2))))
theorem k_X5_readStreet_24 {L : Nat} {xs : Nat → Int32} {δ N : Nat} {v1 : Int32} {s0 : Int32} {m : mj_m} (hδ : 1 ≤ δ) {a : Int32 × mj_m} (h : f_X5_readStreet_24 N v1 s0 m = some a) : mj_Go (mj_EX L xs) (δ + 1) mY_X5_readStreet 24 [(0, .ref 55), (1, .int v1)] [.int s0] (mj_fin m) (some (.int a.1), (mj_fin a.2)) := by
  unfold f_X5_readStreet_24 at h
  refine mj_go_istore_n (k := 2) (by decide) (mj_dt dt_X5_readStreet 14 rfl) ?_
  refine mj_go_iload_n (k := 2) (x := s0) rfl (mj_dt dt_X5_readStreet 15 rfl) ?_
  refine mj_go_iconst (v := -1) rfl (mj_dt dt_X5_readStreet 16 rfl) ?_
  refine mj_go_icmp_ne (tgt := 32) rfl (mj_dt dt_X5_readStreet 17 rfl) (fun b1 => ?_) (fun b1 => ?_)
  · rw [if_neg b1] at h
    refine mj_go_iload_n (k := 1) (x := v1) rfl (mj_dt dt_X5_readStreet 20 rfl) ?_
    refine mj_go_iload_n (k := 2) (x := s0) rfl (mj_dt dt_X5_readStreet 21 rfl) ?_
    refine mj_go_icmp_ne (tgt := 46) rfl (mj_dt dt_X5_readStreet 22 rfl) (fun b2 => ?_) (fun b2 => ?_)
    · rw [if_neg b2] at h
      refine mj_go_aload_n (k := 0) (x := 55) rfl (mj_dt dt_X5_readStreet 28 rfl) ?_
      refine ml_getR (c := 5) (k := 1) (q := 56) fd_5_1 rf_55_1 (Or.inl fl_X5_12) ho_55 (mj_dt dt_X5_readStreet 29 rfl) ?_
      refine mj_go_iload_n (k := 1) (x := v1) rfl (mj_dt dt_X5_readStreet 30 rfl) ?_
      refine mj_go_iload_n (k := 2) (x := s0) rfl (mj_dt dt_X5_readStreet 31 rfl) ?_
      obtain ⟨r3, er3, h⟩ := mj_bind_some h
      refine ml_callV (Y' := mY_X7_addStreet) (as := [.int v1, .int s0]) (rest := []) (c := 7) (v := (some (.int r3.1))) (M1 := (mj_fin r3.2)) ho_56 rfl lm_X5_103 wc_X7_addStreet pl_X7_addStreet ok_X7_addStreet rfl rfl (Nat.le_of_ble_eq_true rfl) (k_X7_addStreet_56 (by omega) er3) (mj_dt dt_X5_readStreet 32 rfl) ?_
      refine mj_go_pop rfl (mj_dt dt_X5_readStreet 33 rfl) ?_
      refine mj_go_iconst (v := 1) rfl (mj_dt dt_X5_readStreet 34 rfl) ?_
      obtain rfl := Option.some.inj h
      exact mj_go_ret (v := some (.int 1)) (Nat.le_of_ble_eq_true rfl) (mj_retZ (mj_dt dt_X5_readStreet 35 rfl) rfl rfl)
    · rw [if_pos b2] at h
      refine mj_go_aload_n (k := 0) (x := 55) rfl (mj_dt dt_X5_readStreet 23 rfl) ?_
      refine mj_go_aload_n (k := 0) (x := 55) rfl (mj_dt dt_X5_readStreet 24 rfl) ?_
      refine mk_getI (c := 5) (k := 6) (Or.inl fd_5_6) (Or.inl fl_X5_32) ho_55 (mj_dt dt_X5_readStreet 25 rfl) ?_
      obtain ⟨r3, er3, h⟩ := mj_bind_some h
      refine ml_callV (Y' := mY_X5_fail) (as := [.int (m.1 55 6)]) (rest := []) (c := 5) (v := (some (.int r3.1))) (M1 := (mj_fin r3.2)) ho_55 rfl lm_X5_57 wc_X5_fail pl_X5_fail ok_X5_fail rfl rfl (Nat.le_of_ble_eq_true rfl) (k_X5_fail (by omega) er3) (mj_dt dt_X5_readStreet 26 rfl) ?_
      obtain ⟨c4, h⟩ := mj_ck_some h
      obtain rfl := Option.some.inj h
      exact mj_go_ret (v := some (.int r3.1)) (Nat.le_of_ble_eq_true rfl) (mj_retZ (mj_dt dt_X5_readStreet 27 rfl) rfl (eq_of_beq c4))
  · rw [if_pos b1] at h
    refine mj_go_iconst (v := 0) rfl (mj_dt dt_X5_readStreet 18 rfl) ?_
    obtain rfl := Option.some.inj h
    exact mj_go_ret (v := some (.int 0)) (Nat.le_of_ble_eq_true rfl) (mj_retZ (mj_dt dt_X5_readStreet 19 rfl) rfl rfl)
def f_X5_readStreet (N : Nat) (m : mj_m) : Option (Int32 × mj_m) := (f_X5_readNumber N 0 7 m).bind (fun r1 => if r1.1 = (-1 : Int32) then (f_X5_readStreet_24 N r1.1 (-1 : Int32) r1.2) else ((f_X5_readNumber N 0 7 r1.2).bind (fun r3 => f_X5_readStreet_24 N r1.1 r3.1 r3.2)))
theorem k_X5_readStreet {L : Nat} {xs : Nat → Int32} {δ N : Nat} {m : mj_m} (hδ : 2 ≤ δ) {a : Int32 × mj_m} (h : f_X5_readStreet N m = some a) : mj_Cl (mj_EX L xs) δ mY_X5_readStreet [.ref 55] (mj_fin m) (some (.int a.1), (mj_fin a.2)) := by
  obtain ⟨δ, rfl⟩ : ∃ d, δ = d + 1 := ⟨δ - 1, by omega⟩
  have hδ : 1 ≤ δ := by omega
  refine mj_cl_of ok_X5_readStreet (Nat.le_of_ble_eq_true rfl) ?_
  unfold f_X5_readStreet at h
  refine mj_go_aload_n (k := 0) (x := 55) rfl (mj_dt dt_X5_readStreet 0 rfl) ?_
  refine mj_go_iconst (v := 0) rfl (mj_dt dt_X5_readStreet 1 rfl) ?_
  refine mj_go_bipush (v := 7) rfl (mj_dt dt_X5_readStreet 2 rfl) ?_
  obtain ⟨r1, er1, h⟩ := mj_bind_some h
  refine ml_callV (Y' := mY_X5_readNumber) (as := [.int 0, .int 7]) (rest := []) (c := 5) (v := (some (.int r1.1))) (M1 := (mj_fin r1.2)) ho_55 rfl lm_X5_91 wc_X5_readNumber pl_X5_readNumber ok_X5_readNumber rfl rfl (Nat.le_of_ble_eq_true rfl) (k_X5_readNumber (by omega) er1) (mj_dt dt_X5_readStreet 3 rfl) ?_
  refine mj_go_istore_n (k := 1) (by decide) (mj_dt dt_X5_readStreet 4 rfl) ?_
  refine mj_go_iload_n (k := 1) (x := r1.1) rfl (mj_dt dt_X5_readStreet 5 rfl) ?_
  refine mj_go_iconst (v := -1) rfl (mj_dt dt_X5_readStreet 6 rfl) ?_
  refine mj_go_icmp_ne (tgt := 17) rfl (mj_dt dt_X5_readStreet 7 rfl) (fun b2 => ?_) (fun b2 => ?_)
  · rw [if_neg b2] at h
    refine mj_go_aload_n (k := 0) (x := 55) rfl (mj_dt dt_X5_readStreet 10 rfl) ?_
    refine mj_go_iconst (v := 0) rfl (mj_dt dt_X5_readStreet 11 rfl) ?_
    refine mj_go_bipush (v := 7) rfl (mj_dt dt_X5_readStreet 12 rfl) ?_
    obtain ⟨r3, er3, h⟩ := mj_bind_some h
    refine ml_callV (Y' := mY_X5_readNumber) (as := [.int 0, .int 7]) (rest := []) (c := 5) (v := (some (.int r3.1))) (M1 := (mj_fin r3.2)) ho_55 rfl lm_X5_91 wc_X5_readNumber pl_X5_readNumber ok_X5_readNumber rfl rfl (Nat.le_of_ble_eq_true rfl) (k_X5_readNumber (by omega) er3) (mj_dt dt_X5_readStreet 13 rfl) ?_
    refine mj_go_sub (lv' := [(0, .ref 55), (1, .int r1.1)]) (List.forall_mem_cons.mpr ⟨rfl, (List.forall_mem_cons.mpr ⟨rfl, (fun _ h9 => absurd h9 List.not_mem_nil)⟩)⟩) ?_
    exact k_X5_readStreet_24 hδ h
  · rw [if_pos b2] at h
    refine mj_go_iconst (v := -1) rfl (mj_dt dt_X5_readStreet 8 rfl) ?_
    refine mj_go_goto (tgt := 24) rfl (mj_dt dt_X5_readStreet 9 rfl) ?_
    refine mj_go_sub (lv' := [(0, .ref 55), (1, .int r1.1)]) (List.forall_mem_cons.mpr ⟨rfl, (List.forall_mem_cons.mpr ⟨rfl, (fun _ h9 => absurd h9 List.not_mem_nil)⟩)⟩) ?_
    exact k_X5_readStreet_24 hδ h
def f_X5_readMore (N : Nat) (v1 : Int32) (m : mj_m) : Option (Int32 × mj_m) := (f_X5_letter N (m.1 55 5) m).bind (fun r1 => if r1 = 32 then (mj_mw (mj_wI m 55 5 ((m.1 55 5) + 1)) (fun m3 => (f_X5_readWord N v1 7 m3).bind (fun r4 => some (r4.1, r4.2)))) else (some ((-1 : Int32), m)))
theorem k_X5_readMore {L : Nat} {xs : Nat → Int32} {δ N : Nat} {v1 : Int32} {m : mj_m} (hδ : 8 ≤ δ) {a : Int32 × mj_m} (h : f_X5_readMore N v1 m = some a) : mj_Cl (mj_EX L xs) δ mY_X5_readMore [.ref 55, .int v1] (mj_fin m) (some (.int a.1), (mj_fin a.2)) := by
  obtain ⟨δ, rfl⟩ : ∃ d, δ = d + 1 := ⟨δ - 1, by omega⟩
  have hδ : 7 ≤ δ := by omega
  refine mj_cl_of ok_X5_readMore (Nat.le_of_ble_eq_true rfl) ?_
  unfold f_X5_readMore at h
  refine mj_go_aload_n (k := 0) (x := 55) rfl (mj_dt dt_X5_readMore 0 rfl) ?_
  refine mj_go_aload_n (k := 0) (x := 55) rfl (mj_dt dt_X5_readMore 1 rfl) ?_
  refine mk_getI (c := 5) (k := 5) (Or.inl fd_5_5) (Or.inl fl_X5_29) ho_55 (mj_dt dt_X5_readMore 2 rfl) ?_
  obtain ⟨r1, er1, h⟩ := mj_bind_some h
  refine ml_callV (Y' := mY_X5_letter) (as := [.int (m.1 55 5)]) (rest := []) (c := 5) (v := (some (.int r1))) (M1 := (mj_fin m)) ho_55 rfl lm_X5_53 wc_X5_letter pl_X5_letter ok_X5_letter rfl rfl (Nat.le_of_ble_eq_true rfl) (k_X5_letter (by omega) er1) (mj_dt dt_X5_readMore 3 rfl) ?_
  refine mj_go_bipush (v := 32) rfl (mj_dt dt_X5_readMore 4 rfl) ?_
  refine mj_go_icmp_eq (tgt := 15) rfl (mj_dt dt_X5_readMore 5 rfl) (fun b2 => ?_) (fun b2 => ?_)
  · rw [if_pos b2] at h
    refine mj_go_aload_n (k := 0) (x := 55) rfl (mj_dt dt_X5_readMore 8 rfl) ?_
    refine mj_go_dup rfl (mj_dt dt_X5_readMore 9 rfl) ?_
    refine mk_getI (c := 5) (k := 5) (Or.inl fd_5_5) (Or.inl fl_X5_29) ho_55 (mj_dt dt_X5_readMore 10 rfl) ?_
    refine mj_go_iconst (v := 1) rfl (mj_dt dt_X5_readMore 11 rfl) ?_
    refine mj_go_iadd (mj_dt dt_X5_readMore 12 rfl) ?_
    obtain ⟨m3, em3, h⟩ := mj_mw_some h
    refine ml_putI (c := 5) (k := 5) fd_5_5 rfl fl_X5_29 ho_55 (mj_dt dt_X5_readMore 13 rfl) ?_
    refine ml_eqm (M1 := (mj_fin m3)) (by rw [em3] <;> rfl) ?_
    refine mj_go_aload_n (k := 0) (x := 55) rfl (mj_dt dt_X5_readMore 14 rfl) ?_
    refine mj_go_iload_n (k := 1) (x := v1) rfl (mj_dt dt_X5_readMore 15 rfl) ?_
    refine mj_go_bipush (v := 7) rfl (mj_dt dt_X5_readMore 16 rfl) ?_
    obtain ⟨r4, er4, h⟩ := mj_bind_some h
    refine ml_callV (Y' := mY_X5_readWord) (as := [.int v1, .int 7]) (rest := []) (c := 5) (v := (some (.int r4.1))) (M1 := (mj_fin r4.2)) ho_55 rfl lm_X5_69 wc_X5_readWord pl_X5_readWord ok_X5_readWord rfl rfl (Nat.le_of_ble_eq_true rfl) (k_X5_readWord (by omega) er4) (mj_dt dt_X5_readMore 17 rfl) ?_
    obtain rfl := Option.some.inj h
    exact mj_go_ret (v := some (.int r4.1)) (Nat.le_of_ble_eq_true rfl) (mj_retI (mj_dt dt_X5_readMore 18 rfl) rfl)
  · rw [if_neg b2] at h
    refine mj_go_iconst (v := -1) rfl (mj_dt dt_X5_readMore 6 rfl) ?_
    obtain rfl := Option.some.inj h
    exact mj_go_ret (v := some (.int (-1 : Int32))) (Nat.le_of_ble_eq_true rfl) (mj_retI (mj_dt dt_X5_readMore 7 rfl) rfl)
def f_X7_addHouse_56 (N : Nat) (v1 : Int32) (v2 : Int32) (v3 : Int32) (v4 : Int32) (v5 : Int32) (m : mj_m) : Option (Int32 × mj_m) := if (m.1 56 7) < 10 then (mj_ck (mj_b 2 59 (m.1 56 7)) ( mj_mw (mj_wI m (63 + (m.1 56 7).toNatClampNeg) 0 v1) (fun m3 => mj_mw (mj_wI m3 (63 + (m.1 56 7).toNatClampNeg) 1 v2) (fun m4 => mj_mw (mj_wI m4 (63 + (m.1 56 7).toNatClampNeg) 2 v3) (fun m5 => mj_mw (mj_wI m5 (63 + (m.1 56 7).toNatClampNeg) 3 v4) (fun m6 => mj_mw (mj_wI m6 (63 + (m.1 56 7).toNatClampNeg) 4 v5) (fun m7 => mj_mw (mj_wI m7 (63 + (m.1 56 7).toNatClampNeg) 5 (-1 : Int32)) (fun m8 => mj_mw (mj_wI m8 (63 + (m.1 56 7).toNatClampNeg) 6 (-1 : Int32)) (fun m9 => mj_mw (mj_wI m9 (63 + (m.1 56 7).toNatClampNeg) 7 0) (fun m10 => mj_ck (mj_b 0 60 (m10.1 56 7)) ( mj_mw (mj_wI m10 60 ((m10.1 56 7).toNatClampNeg) 0) (fun m12 => mj_mw (mj_wI m12 56 7 ((m12.1 56 7) + 1)) (fun m13 => some ((m13.1 56 7) - 1, m13)))))))))))))) else (some ((-1 : Int32), m))
theorem k_X7_addHouse_56 {L : Nat} {xs : Nat → Int32} {δ N : Nat} {v1 : Int32} {v2 : Int32} {v3 : Int32} {v4 : Int32} {v5 : Int32} {m : mj_m} (_ : 0 ≤ δ) {a : Int32 × mj_m} (h : f_X7_addHouse_56 N v1 v2 v3 v4 v5 m = some a) : mj_Cl (mj_EX L xs) δ mY_X7_addHouse [.ref 56, .int v1, .int v2, .int v3, .int v4, .int v5] (mj_fin m) (some (.int a.1), (mj_fin a.2)) := by
  refine mj_cl_of ok_X7_addHouse (Nat.le_of_ble_eq_true rfl) ?_
  unfold f_X7_addHouse_56 at h
  refine mj_go_aload_n (k := 0) (x := 56) rfl (mj_dt dt_X7_addHouse 0 rfl) ?_
  refine mk_getI (c := 7) (k := 7) (Or.inl fd_7_7) (Or.inl fl_X7_37) ho_56 (mj_dt dt_X7_addHouse 1 rfl) ?_
  refine mj_go_bipush (v := 10) rfl (mj_dt dt_X7_addHouse 2 rfl) ?_
  refine mj_go_icmp_lt (tgt := 11) rfl (mj_dt dt_X7_addHouse 3 rfl) (fun b1 => ?_) (fun b1 => ?_)
  · rw [if_pos b1] at h
    refine mj_go_aload_n (k := 0) (x := 56) rfl (mj_dt dt_X7_addHouse 6 rfl) ?_
    refine ml_getR (c := 7) (k := 2) (q := 59) fd_7_2 rf_56_2 (Or.inl fl_X7_20) ho_56 (mj_dt dt_X7_addHouse 7 rfl) ?_
    refine mj_go_aload_n (k := 0) (x := 56) rfl (mj_dt dt_X7_addHouse 8 rfl) ?_
    refine mk_getI (c := 7) (k := 7) (Or.inl fd_7_7) (Or.inl fl_X7_37) ho_56 (mj_dt dt_X7_addHouse 9 rfl) ?_
    obtain ⟨c2, h⟩ := mj_ck_some h
    refine ml_aald2 (q := 63 + (m.1 56 7).toNatClampNeg) c2 (mj_hs59 c2).1 (mj_dt dt_X7_addHouse 10 rfl) ?_
    refine mj_go_astore (i := 6) (by decide) (mj_dt dt_X7_addHouse 11 rfl) ?_
    refine mj_go_aload (i := 6) (x := (63 + (m.1 56 7).toNatClampNeg)) rfl (mj_dt dt_X7_addHouse 12 rfl) ?_
    refine mj_go_iload_n (k := 1) (x := v1) rfl (mj_dt dt_X7_addHouse 13 rfl) ?_
    obtain ⟨m3, em3, h⟩ := mj_mw_some h
    refine ml_putI (c := 1) (k := 0) fd_1_0 rfl fl_X7_75 (mj_hs59 c2).2 (mj_dt dt_X7_addHouse 14 rfl) ?_
    refine ml_eqm (M1 := (mj_fin m3)) (by rw [em3] <;> rfl) ?_
    refine mj_go_aload (i := 6) (x := (63 + (m.1 56 7).toNatClampNeg)) rfl (mj_dt dt_X7_addHouse 15 rfl) ?_
    refine mj_go_iload_n (k := 2) (x := v2) rfl (mj_dt dt_X7_addHouse 16 rfl) ?_
    obtain ⟨m4, em4, h⟩ := mj_mw_some h
    refine ml_putI (c := 1) (k := 1) fd_1_1 rfl fl_X7_78 (mj_hs59 c2).2 (mj_dt dt_X7_addHouse 17 rfl) ?_
    refine ml_eqm (M1 := (mj_fin m4)) (by rw [em4] <;> rfl) ?_
    refine mj_go_aload (i := 6) (x := (63 + (m.1 56 7).toNatClampNeg)) rfl (mj_dt dt_X7_addHouse 18 rfl) ?_
    refine mj_go_iload_n (k := 3) (x := v3) rfl (mj_dt dt_X7_addHouse 19 rfl) ?_
    obtain ⟨m5, em5, h⟩ := mj_mw_some h
    refine ml_putI (c := 1) (k := 2) fd_1_2 rfl fl_X7_81 (mj_hs59 c2).2 (mj_dt dt_X7_addHouse 20 rfl) ?_
    refine ml_eqm (M1 := (mj_fin m5)) (by rw [em5] <;> rfl) ?_
    refine mj_go_aload (i := 6) (x := (63 + (m.1 56 7).toNatClampNeg)) rfl (mj_dt dt_X7_addHouse 21 rfl) ?_
    refine mj_go_iload (i := 4) (x := v4) rfl (mj_dt dt_X7_addHouse 22 rfl) ?_
    obtain ⟨m6, em6, h⟩ := mj_mw_some h
    refine ml_putI (c := 1) (k := 3) fd_1_3 rfl fl_X7_84 (mj_hs59 c2).2 (mj_dt dt_X7_addHouse 23 rfl) ?_
    refine ml_eqm (M1 := (mj_fin m6)) (by rw [em6] <;> rfl) ?_
    refine mj_go_aload (i := 6) (x := (63 + (m.1 56 7).toNatClampNeg)) rfl (mj_dt dt_X7_addHouse 24 rfl) ?_
    refine mj_go_iload (i := 5) (x := v5) rfl (mj_dt dt_X7_addHouse 25 rfl) ?_
    obtain ⟨m7, em7, h⟩ := mj_mw_some h
    refine ml_putI (c := 1) (k := 4) fd_1_4 rfl fl_X7_87 (mj_hs59 c2).2 (mj_dt dt_X7_addHouse 26 rfl) ?_
    refine ml_eqm (M1 := (mj_fin m7)) (by rw [em7] <;> rfl) ?_
    refine mj_go_aload (i := 6) (x := (63 + (m.1 56 7).toNatClampNeg)) rfl (mj_dt dt_X7_addHouse 27 rfl) ?_
    refine mj_go_iconst (v := -1) rfl (mj_dt dt_X7_addHouse 28 rfl) ?_
    obtain ⟨m8, em8, h⟩ := mj_mw_some h
    refine ml_putI (c := 1) (k := 5) fd_1_5 rfl fl_X7_90 (mj_hs59 c2).2 (mj_dt dt_X7_addHouse 29 rfl) ?_
    refine ml_eqm (M1 := (mj_fin m8)) (by rw [em8] <;> rfl) ?_
    refine mj_go_aload (i := 6) (x := (63 + (m.1 56 7).toNatClampNeg)) rfl (mj_dt dt_X7_addHouse 30 rfl) ?_
    refine mj_go_iconst (v := -1) rfl (mj_dt dt_X7_addHouse 31 rfl) ?_
    obtain ⟨m9, em9, h⟩ := mj_mw_some h
    refine ml_putI (c := 1) (k := 6) fd_1_6 rfl fl_X7_93 (mj_hs59 c2).2 (mj_dt dt_X7_addHouse 32 rfl) ?_
    refine ml_eqm (M1 := (mj_fin m9)) (by rw [em9] <;> rfl) ?_
    refine mj_go_aload (i := 6) (x := (63 + (m.1 56 7).toNatClampNeg)) rfl (mj_dt dt_X7_addHouse 33 rfl) ?_
    refine mj_go_iconst (v := 0) rfl (mj_dt dt_X7_addHouse 34 rfl) ?_
    obtain ⟨m10, em10, h⟩ := mj_mw_some h
    refine ml_putZ (c := 1) (k := 7) rfl fd_1_7 rfl fl_X7_96 (mj_hs59 c2).2 (mj_dt dt_X7_addHouse 35 rfl) ?_
    refine ml_eqm (M1 := (mj_fin m10)) (by rw [em10] <;> rfl) ?_
    refine mj_go_aload_n (k := 0) (x := 56) rfl (mj_dt dt_X7_addHouse 36 rfl) ?_
    refine ml_getR (c := 7) (k := 3) (q := 60) fd_7_3 rf_56_3 (Or.inl fl_X7_24) ho_56 (mj_dt dt_X7_addHouse 37 rfl) ?_
    refine mj_go_aload_n (k := 0) (x := 56) rfl (mj_dt dt_X7_addHouse 38 rfl) ?_
    refine mk_getI (c := 7) (k := 7) (Or.inl fd_7_7) (Or.inl fl_X7_37) ho_56 (mj_dt dt_X7_addHouse 39 rfl) ?_
    refine mj_go_iconst (v := 0) rfl (mj_dt dt_X7_addHouse 40 rfl) ?_
    obtain ⟨c11, h⟩ := mj_ck_some h
    obtain ⟨m12, em12, h⟩ := mj_mw_some h
    refine ml_iast c11 (mj_dt dt_X7_addHouse 41 rfl) ?_
    refine ml_eqm (M1 := (mj_fin m12)) (by rw [em12] <;> rfl) ?_
    refine mj_go_aload_n (k := 0) (x := 56) rfl (mj_dt dt_X7_addHouse 42 rfl) ?_
    refine mj_go_dup rfl (mj_dt dt_X7_addHouse 43 rfl) ?_
    refine mk_getI (c := 7) (k := 7) (Or.inl fd_7_7) (Or.inl fl_X7_37) ho_56 (mj_dt dt_X7_addHouse 44 rfl) ?_
    refine mj_go_iconst (v := 1) rfl (mj_dt dt_X7_addHouse 45 rfl) ?_
    refine mj_go_iadd (mj_dt dt_X7_addHouse 46 rfl) ?_
    obtain ⟨m13, em13, h⟩ := mj_mw_some h
    refine ml_putI (c := 7) (k := 7) fd_7_7 rfl fl_X7_37 ho_56 (mj_dt dt_X7_addHouse 47 rfl) ?_
    refine ml_eqm (M1 := (mj_fin m13)) (by rw [em13] <;> rfl) ?_
    refine mj_go_aload_n (k := 0) (x := 56) rfl (mj_dt dt_X7_addHouse 48 rfl) ?_
    refine mk_getI (c := 7) (k := 7) (Or.inl fd_7_7) (Or.inl fl_X7_37) ho_56 (mj_dt dt_X7_addHouse 49 rfl) ?_
    refine mj_go_iconst (v := 1) rfl (mj_dt dt_X7_addHouse 50 rfl) ?_
    refine mj_go_isub (mj_dt dt_X7_addHouse 51 rfl) ?_
    obtain rfl := Option.some.inj h
    exact mj_go_ret (v := some (.int ((m13.1 56 7) - 1))) (Nat.le_of_ble_eq_true rfl) (mj_retI (mj_dt dt_X7_addHouse 52 rfl) rfl)
  · rw [if_neg b1] at h
    refine mj_go_iconst (v := -1) rfl (mj_dt dt_X7_addHouse 4 rfl) ?_
    obtain rfl := Option.some.inj h
    exact mj_go_ret (v := some (.int (-1 : Int32))) (Nat.le_of_ble_eq_true rfl) (mj_retI (mj_dt dt_X7_addHouse 5 rfl) rfl)
