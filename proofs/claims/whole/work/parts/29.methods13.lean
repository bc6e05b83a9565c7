/-! METHODS as functions, and their rows over the small machine (printed by program from the printed instructions) -/
def f_X9_costing_59 (N : Nat) (v1 : Int32) (v3 : Int32) (v4 : Int32) (m : mj_m) : Option (Int32 × mj_m) := (f_X9_body N 11 m).bind (fun r1 => (f_X9_ordering N v1 v4 r1).bind (fun r2 => mj_mw (r2.1 * 2) (fun x3 => if v3 = 2 then ((some (x3 * 3, r2.2))) else (if v3 = 5 then ((some (-(x3 * 3), r2.2))) else ((some (x3, r2.2)))))))
theorem k_X9_costing_59 {L : Nat} {xs : Nat → Int32} {δ N : Nat} {v1 : Int32} {v3 : Int32} {v4 : Int32} {m : mj_m} (hδ : 1 ≤ δ) {a : Int32 × mj_m} (h : f_X9_costing_59 N v1 v3 v4 m = some a) : mj_Go (mj_EX L xs) (δ + 1) mY_X9_costing 59 [(0, .ref 95), (1, .int v1), (3, .int v3), (4, .int v4)] [] (mj_fin m) (some (.int a.1), (mj_fin a.2)) := by
  unfold f_X9_costing_59 at h
  refine mj_go_aload_n (k := 0) (x := 95) rfl (mj_dt dt_X9_costing 35 rfl) ?_
  refine mj_go_bipush (v := 11) rfl (mj_dt dt_X9_costing 36 rfl) ?_
  obtain ⟨r1, er1, h⟩ := mj_bind_some h
  refine ml_callV (Y' := mY_X9_body) (as := [.int 11]) (rest := []) (c := 9) (v := none) (M1 := (mj_fin r1)) ho_95 rfl lm_X9_334 wc_X9_body pl_X9_body ok_X9_body rfl rfl (Nat.le_of_ble_eq_true rfl) (k_X9_body (by omega) er1) (mj_dt dt_X9_costing 37 rfl) ?_
  refine mj_go_aload_n (k := 0) (x := 95) rfl (mj_dt dt_X9_costing 38 rfl) ?_
  refine mj_go_iload_n (k := 1) (x := v1) rfl (mj_dt dt_X9_costing 39 rfl) ?_
  refine mj_go_iload (i := 4) (x := v4) rfl (mj_dt dt_X9_costing 40 rfl) ?_
  obtain ⟨r2, er2, h⟩ := mj_bind_some h
  refine ml_callV (Y' := mY_X9_ordering) (as := [.int v1, .int v4]) (rest := []) (c := 9) (v := (some (.int r2.1))) (M1 := (mj_fin r2.2)) ho_95 rfl lm_X9_337 wc_X9_ordering pl_X9_ordering ok_X9_ordering rfl rfl (Nat.le_of_ble_eq_true rfl) (k_X9_ordering (by omega) er2) (mj_dt dt_X9_costing 41 rfl) ?_
  refine mj_go_iconst (v := 2) rfl (mj_dt dt_X9_costing 42 rfl) ?_
  refine mj_go_imul (mj_dt dt_X9_costing 43 rfl) ?_
  obtain ⟨x3, ex3, h⟩ := mj_mw_some h
  refine ml_eqi ex3 ?_
  refine mj_go_istore (i := 5) (by decide) (mj_dt dt_X9_costing 44 rfl) ?_
  refine mj_go_iload_n (k := 3) (x := v3) rfl (mj_dt dt_X9_costing 45 rfl) ?_
  refine mj_go_iconst (v := 2) rfl (mj_dt dt_X9_costing 46 rfl) ?_
  refine mj_go_icmp_ne (tgt := 88) rfl (mj_dt dt_X9_costing 47 rfl) (fun b4 => ?_) (fun b4 => ?_)
  · rw [if_neg b4] at h
    refine mj_go_iload_n (k := 3) (x := v3) rfl (mj_dt dt_X9_costing 52 rfl) ?_
    refine mj_go_iconst (v := 5) rfl (mj_dt dt_X9_costing 53 rfl) ?_
    refine mj_go_icmp_ne (tgt := 101) rfl (mj_dt dt_X9_costing 54 rfl) (fun b5 => ?_) (fun b5 => ?_)
    · rw [if_neg b5] at h
      refine mj_go_iload (i := 5) (x := x3) rfl (mj_dt dt_X9_costing 60 rfl) ?_
      obtain rfl := Option.some.inj h
      exact mj_go_ret (v := some (.int x3)) (Nat.le_of_ble_eq_true rfl) (mj_retI (mj_dt dt_X9_costing 61 rfl) rfl)
    · rw [if_pos b5] at h
      refine mj_go_iload (i := 5) (x := x3) rfl (mj_dt dt_X9_costing 55 rfl) ?_
      refine mj_go_iconst (v := 3) rfl (mj_dt dt_X9_costing 56 rfl) ?_
      refine mj_go_imul (mj_dt dt_X9_costing 57 rfl) ?_
      refine mj_go_ineg (mj_dt dt_X9_costing 58 rfl) ?_
      refine mj_go_goto (tgt := 103) rfl (mj_dt dt_X9_costing 59 rfl) ?_
      obtain rfl := Option.some.inj h
      exact mj_go_ret (v := some (.int (-(x3 * 3)))) (Nat.le_of_ble_eq_true rfl) (mj_retI (mj_dt dt_X9_costing 61 rfl) rfl)
  · rw [if_pos b4] at h
    refine mj_go_iload (i := 5) (x := x3) rfl (mj_dt dt_X9_costing 48 rfl) ?_
    refine mj_go_iconst (v := 3) rfl (mj_dt dt_X9_costing 49 rfl) ?_
    refine mj_go_imul (mj_dt dt_X9_costing 50 rfl) ?_
    refine mj_go_goto (tgt := 103) rfl (mj_dt dt_X9_costing 51 rfl) ?_
    obtain rfl := Option.some.inj h
    exact mj_go_ret (v := some (.int (x3 * 3))) (Nat.le_of_ble_eq_true rfl) (mj_retI (mj_dt dt_X9_costing 61 rfl) rfl)
def f_X9_costing_37 (N : Nat) (v1 : Int32) (v2 : Int32) (v3 : Int32) (v4 : Int32) (m : mj_m) : Option (Int32 × mj_m) := if v3 = 6 then ((f_X9_body N 71 m).bind (fun r2 => mj_ck (mj_b 0 114 v1) ( mj_mw (v2 - (r2.1 114 v1.toNatClampNeg)) (fun x4 => f_X9_costing_59 N v1 v3 x4 r2)))) else f_X9_costing_59 N v1 v3 v4 m
theorem k_X9_costing_37 {L : Nat} {xs : Nat → Int32} {δ N : Nat} {v1 : Int32} {v2 : Int32} {v3 : Int32} {v4 : Int32} {m : mj_m} (hδ : 1 ≤ δ) {a : Int32 × mj_m} (h : f_X9_costing_37 N v1 v2 v3 v4 m = some a) : mj_Go (mj_EX L xs) (δ + 1) mY_X9_costing 37 [(0, .ref 95), (1, .int v1), (2, .int v2), (3, .int v3), (4, .int v4)] [] (mj_fin m) (some (.int a.1), (mj_fin a.2)) := by
  unfold f_X9_costing_37 at h
  refine mj_go_iload_n (k := 3) (x := v3) rfl (mj_dt dt_X9_costing 22 rfl) ?_
  refine mj_go_bipush (v := 6) rfl (mj_dt dt_X9_costing 23 rfl) ?_
  refine mj_go_icmp_ne (tgt := 59) rfl (mj_dt dt_X9_costing 24 rfl) (fun b1 => ?_) (fun b1 => ?_)
  · rw [if_neg b1] at h
    refine mj_go_sub (lv' := [(0, .ref 95), (1, .int v1), (3, .int v3), (4, .int v4)]) (List.forall_mem_cons.mpr ⟨rfl, (List.forall_mem_cons.mpr ⟨rfl, (List.forall_mem_cons.mpr ⟨rfl, (List.forall_mem_cons.mpr ⟨rfl, (fun _ h9 => absurd h9 List.not_mem_nil)⟩)⟩)⟩)⟩) ?_
    exact k_X9_costing_59 hδ h
  · rw [if_pos b1] at h
    refine mj_go_aload_n (k := 0) (x := 95) rfl (mj_dt dt_X9_costing 25 rfl) ?_
    refine mj_go_bipush (v := 71) rfl (mj_dt dt_X9_costing 26 rfl) ?_
    obtain ⟨r2, er2, h⟩ := mj_bind_some h
    refine ml_callV (Y' := mY_X9_body) (as := [.int 71]) (rest := []) (c := 9) (v := none) (M1 := (mj_fin r2)) ho_95 rfl lm_X9_334 wc_X9_body pl_X9_body ok_X9_body rfl rfl (Nat.le_of_ble_eq_true rfl) (k_X9_body (by omega) er2) (mj_dt dt_X9_costing 27 rfl) ?_
    refine mj_go_iload_n (k := 2) (x := v2) rfl (mj_dt dt_X9_costing 28 rfl) ?_
    refine mj_go_aload_n (k := 0) (x := 95) rfl (mj_dt dt_X9_costing 29 rfl) ?_
    refine ml_getR (c := 9) (k := 29) (q := 114) fd_9_29 rf_95_29 (Or.inl fl_X9_80) ho_95 (mj_dt dt_X9_costing 30 rfl) ?_
    refine mj_go_iload_n (k := 1) (x := v1) rfl (mj_dt dt_X9_costing 31 rfl) ?_
    obtain ⟨c3, h⟩ := mj_ck_some h
    refine mk_iald c3 (mj_dt dt_X9_costing 32 rfl) ?_
    refine mj_go_isub (mj_dt dt_X9_costing 33 rfl) ?_
    obtain ⟨x4, ex4, h⟩ := mj_mw_some h
    refine ml_eqi ex4 ?_
    refine mj_go_istore (i := 4) (by decide) (mj_dt dt_X9_costing 34 rfl) ?_
    refine mj_go_sub (lv' := [(0, .ref 95), (1, .int v1), (3, .int v3), (4, .int x4)]) (List.forall_mem_cons.mpr ⟨rfl, (List.forall_mem_cons.mpr ⟨rfl, (List.forall_mem_cons.mpr ⟨rfl, (List.forall_mem_cons.mpr ⟨rfl, (fun _ h9 => absurd h9 List.not_mem_nil)⟩)⟩)⟩)⟩) ?_
    exact k_X9_costing_59 hδ h
def f_X9_costing_31 (N : Nat) (v1 : Int32) (v2 : Int32) (v3 : Int32) (v4 : Int32) (m : mj_m) : Option (Int32 × mj_m) := (f_X9_body N 40 m).bind (fun r1 => f_X9_costing_37 N v1 v2 v3 v4 r1)
theorem k_X9_costing_31 {L : Nat} {xs : Nat → Int32} {δ N : Nat} {v1 : Int32} {v2 : Int32} {v3 : Int32} {v4 : Int32} {m : mj_m} (hδ : 1 ≤ δ) {a : Int32 × mj_m} (h : f_X9_costing_31 N v1 v2 v3 v4 m = some a) : mj_Go (mj_EX L xs) (δ + 1) mY_X9_costing 31 [(0, .ref 95), (1, .int v1), (2, .int v2), (3, .int v3), (4, .int v4)] [] (mj_fin m) (some (.int a.1), (mj_fin a.2)) := by
  unfold f_X9_costing_31 at h
  refine mj_go_aload_n (k := 0) (x := 95) rfl (mj_dt dt_X9_costing 19 rfl) ?_
  refine mj_go_bipush (v := 40) rfl (mj_dt dt_X9_costing 20 rfl) ?_
  obtain ⟨r1, er1, h⟩ := mj_bind_some h
  refine ml_callV (Y' := mY_X9_body) (as := [.int 40]) (rest := []) (c := 9) (v := none) (M1 := (mj_fin r1)) ho_95 rfl lm_X9_334 wc_X9_body pl_X9_body ok_X9_body rfl rfl (Nat.le_of_ble_eq_true rfl) (k_X9_body (by omega) er1) (mj_dt dt_X9_costing 21 rfl) ?_
  refine mj_go_sub (lv' := [(0, .ref 95), (1, .int v1), (2, .int v2), (3, .int v3), (4, .int v4)]) (List.forall_mem_cons.mpr ⟨rfl, (List.forall_mem_cons.mpr ⟨rfl, (List.forall_mem_cons.mpr ⟨rfl, (List.forall_mem_cons.mpr ⟨rfl, (List.forall_mem_cons.mpr ⟨rfl, (fun _ h9 => absurd h9 List.not_mem_nil)⟩)⟩)⟩)⟩)⟩) ?_
  exact k_X9_costing_37 hδ h
def f_X9_costing_21 (N : Nat) (v1 : Int32) (v2 : Int32) (v3 : Int32) (v4 : Int32) (m : mj_m) : Option (Int32 × mj_m) := if v3 = 2 then f_X9_costing_31 N v1 v2 v3 v4 m else (if v3 = 5 then f_X9_costing_31 N v1 v2 v3 v4 m else f_X9_costing_37 N v1 v2 v3 v4 m)
theorem k_X9_costing_21 {L : Nat} {xs : Nat → Int32} {δ N : Nat} {v1 : Int32} {v2 : Int32} {v3 : Int32} {v4 : Int32} {m : mj_m} (hδ : 1 ≤ δ) {a : Int32 × mj_m} (h : f_X9_costing_21 N v1 v2 v3 v4 m = some a) : mj_Go (mj_EX L xs) (δ + 1) mY_X9_costing 21 [(0, .ref 95), (1, .int v1), (2, .int v2), (3, .int v3), (4, .int v4)] [] (mj_fin m) (some (.int a.1), (mj_fin a.2)) := by
  unfold f_X9_costing_21 at h
  refine mj_go_iload_n (k := 3) (x := v3) rfl (mj_dt dt_X9_costing 13 rfl) ?_
  refine mj_go_iconst (v := 2) rfl (mj_dt dt_X9_costing 14 rfl) ?_
  refine mj_go_icmp_eq (tgt := 31) rfl (mj_dt dt_X9_costing 15 rfl) (fun b1 => ?_) (fun b1 => ?_)
  · rw [if_pos b1] at h
    refine mj_go_sub (lv' := [(0, .ref 95), (1, .int v1), (2, .int v2), (3, .int v3), (4, .int v4)]) (List.forall_mem_cons.mpr ⟨rfl, (List.forall_mem_cons.mpr ⟨rfl, (List.forall_mem_cons.mpr ⟨rfl, (List.forall_mem_cons.mpr ⟨rfl, (List.forall_mem_cons.mpr ⟨rfl, (fun _ h9 => absurd h9 List.not_mem_nil)⟩)⟩)⟩)⟩)⟩) ?_
    exact k_X9_costing_31 hδ h
  · rw [if_neg b1] at h
    refine mj_go_iload_n (k := 3) (x := v3) rfl (mj_dt dt_X9_costing 16 rfl) ?_
    refine mj_go_iconst (v := 5) rfl (mj_dt dt_X9_costing 17 rfl) ?_
    refine mj_go_icmp_ne (tgt := 37) rfl (mj_dt dt_X9_costing 18 rfl) (fun b2 => ?_) (fun b2 => ?_)
    · rw [if_neg b2] at h
      refine mj_go_sub (lv' := [(0, .ref 95), (1, .int v1), (2, .int v2), (3, .int v3), (4, .int v4)]) (List.forall_mem_cons.mpr ⟨rfl, (List.forall_mem_cons.mpr ⟨rfl, (List.forall_mem_cons.mpr ⟨rfl, (List.forall_mem_cons.mpr ⟨rfl, (List.forall_mem_cons.mpr ⟨rfl, (fun _ h9 => absurd h9 List.not_mem_nil)⟩)⟩)⟩)⟩)⟩) ?_
      exact k_X9_costing_37 hδ h
    · rw [if_pos b2] at h
      refine mj_go_sub (lv' := [(0, .ref 95), (1, .int v1), (2, .int v2), (3, .int v3), (4, .int v4)]) (List.forall_mem_cons.mpr ⟨rfl, (List.forall_mem_cons.mpr ⟨rfl, (List.forall_mem_cons.mpr ⟨rfl, (List.forall_mem_cons.mpr ⟨rfl, (List.forall_mem_cons.mpr ⟨rfl, (fun _ h9 => absurd h9 List.not_mem_nil)⟩)⟩)⟩)⟩)⟩) ?_
      exact k_X9_costing_31 hδ h
def f_X9_costing (N : Nat) (v1 : Int32) (v2 : Int32) (m : mj_m) : Option (Int32 × mj_m) := mj_ck (mj_b 0 113 v1) ( mj_mw (m.1 113 v1.toNatClampNeg) (fun x2 => if x2 = 5 then ((f_X9_body N 50 m).bind (fun r4 => f_X9_costing_21 N v1 v2 x2 v2 r4)) else f_X9_costing_21 N v1 v2 x2 v2 m))
theorem k_X9_costing {L : Nat} {xs : Nat → Int32} {δ N : Nat} {v1 : Int32} {v2 : Int32} {m : mj_m} (hδ : 2 ≤ δ) {a : Int32 × mj_m} (h : f_X9_costing N v1 v2 m = some a) : mj_Cl (mj_EX L xs) δ mY_X9_costing [.ref 95, .int v1, .int v2] (mj_fin m) (some (.int a.1), (mj_fin a.2)) := by
  obtain ⟨δ, rfl⟩ : ∃ d, δ = d + 1 := ⟨δ - 1, by omega⟩
  have hδ : 1 ≤ δ := by omega
  refine mj_cl_of ok_X9_costing (Nat.le_of_ble_eq_true rfl) ?_
  unfold f_X9_costing at h
  refine mj_go_aload_n (k := 0) (x := 95) rfl (mj_dt dt_X9_costing 0 rfl) ?_
  refine ml_getR (c := 9) (k := 28) (q := 113) fd_9_28 rf_95_28 (Or.inl fl_X9_77) ho_95 (mj_dt dt_X9_costing 1 rfl) ?_
  refine mj_go_iload_n (k := 1) (x := v1) rfl (mj_dt dt_X9_costing 2 rfl) ?_
  obtain ⟨c1, h⟩ := mj_ck_some h
  refine mk_iald c1 (mj_dt dt_X9_costing 3 rfl) ?_
  obtain ⟨x2, ex2, h⟩ := mj_mw_some h
  refine ml_eqi ex2 ?_
  refine mj_go_istore_n (k := 3) (by decide) (mj_dt dt_X9_costing 4 rfl) ?_
  refine mj_go_iload_n (k := 2) (x := v2) rfl (mj_dt dt_X9_costing 5 rfl) ?_
  refine mj_go_istore (i := 4) (by decide) (mj_dt dt_X9_costing 6 rfl) ?_
  refine mj_go_iload_n (k := 3) (x := x2) rfl (mj_dt dt_X9_costing 7 rfl) ?_
  refine mj_go_iconst (v := 5) rfl (mj_dt dt_X9_costing 8 rfl) ?_
  refine mj_go_icmp_ne (tgt := 21) rfl (mj_dt dt_X9_costing 9 rfl) (fun b3 => ?_) (fun b3 => ?_)
  · rw [if_neg b3] at h
    refine mj_go_sub (lv' := [(0, .ref 95), (1, .int v1), (2, .int v2), (3, .int x2), (4, .int v2)]) (List.forall_mem_cons.mpr ⟨rfl, (List.forall_mem_cons.mpr ⟨rfl, (List.forall_mem_cons.mpr ⟨rfl, (List.forall_mem_cons.mpr ⟨rfl, (List.forall_mem_cons.mpr ⟨rfl, (fun _ h9 => absurd h9 List.not_mem_nil)⟩)⟩)⟩)⟩)⟩) ?_
    exact k_X9_costing_21 hδ h
  · rw [if_pos b3] at h
    refine mj_go_aload_n (k := 0) (x := 95) rfl (mj_dt dt_X9_costing 10 rfl) ?_
    refine mj_go_bipush (v := 50) rfl (mj_dt dt_X9_costing 11 rfl) ?_
    obtain ⟨r4, er4, h⟩ := mj_bind_some h
    refine ml_callV (Y' := mY_X9_body) (as := [.int 50]) (rest := []) (c := 9) (v := none) (M1 := (mj_fin r4)) ho_95 rfl lm_X9_334 wc_X9_body pl_X9_body ok_X9_body rfl rfl (Nat.le_of_ble_eq_true rfl) (k_X9_body (by omega) er4) (mj_dt dt_X9_costing 12 rfl) ?_
    refine mj_go_sub (lv' := [(0, .ref 95), (1, .int v1), (2, .int v2), (3, .int x2), (4, .int v2)]) (List.forall_mem_cons.mpr ⟨rfl, (List.forall_mem_cons.mpr ⟨rfl, (List.forall_mem_cons.mpr ⟨rfl, (List.forall_mem_cons.mpr ⟨rfl, (List.forall_mem_cons.mpr ⟨rfl, (fun _ h9 => absurd h9 List.not_mem_nil)⟩)⟩)⟩)⟩)⟩) ?_
    exact k_X9_costing_21 hδ h
def f_X9_saving_41 (N : Nat) (v1 : Int32) (v2 : Int32) (v3 : Int32) (m : mj_m) : Option (Int32 × mj_m) := (f_X9_body N 12 m).bind (fun r1 => (f_X9_costing N v1 v2 r1).bind (fun r2 => mj_ck (mj_b 0 114 v1) ( (f_X9_ordering N v1 (v2 - (r2.2.1 114 v1.toNatClampNeg)) r2.2).bind (fun r4 => mj_mw (r2.1 ^^^ r4.1) (fun x5 => if v3 = 3 then ((some (x5 - v1, r4.2))) else (if v3 = 4 then ((some (x5 ^^^ 5, r4.2))) else (if v3 = 6 then ((some (x5 * 2, r4.2))) else ((some (x5, r4.2))))))))))
theorem k_X9_saving_41 {L : Nat} {xs : Nat → Int32} {δ N : Nat} {v1 : Int32} {v2 : Int32} {v3 : Int32} {m : mj_m} (hδ : 2 ≤ δ) {a : Int32 × mj_m} (h : f_X9_saving_41 N v1 v2 v3 m = some a) : mj_Go (mj_EX L xs) (δ + 1) mY_X9_saving 41 [(0, .ref 95), (1, .int v1), (2, .int v2), (3, .int v3)] [] (mj_fin m) (some (.int a.1), (mj_fin a.2)) := by
  unfold f_X9_saving_41 at h
  refine mj_go_aload_n (k := 0) (x := 95) rfl (mj_dt dt_X9_saving 23 rfl) ?_
  refine mj_go_bipush (v := 12) rfl (mj_dt dt_X9_saving 24 rfl) ?_
  obtain ⟨r1, er1, h⟩ := mj_bind_some h
  refine ml_callV (Y' := mY_X9_body) (as := [.int 12]) (rest := []) (c := 9) (v := none) (M1 := (mj_fin r1)) ho_95 rfl lm_X9_334 wc_X9_body pl_X9_body ok_X9_body rfl rfl (Nat.le_of_ble_eq_true rfl) (k_X9_body (by omega) er1) (mj_dt dt_X9_saving 25 rfl) ?_
  refine mj_go_aload_n (k := 0) (x := 95) rfl (mj_dt dt_X9_saving 26 rfl) ?_
  refine mj_go_iload_n (k := 1) (x := v1) rfl (mj_dt dt_X9_saving 27 rfl) ?_
  refine mj_go_iload_n (k := 2) (x := v2) rfl (mj_dt dt_X9_saving 28 rfl) ?_
  obtain ⟨r2, er2, h⟩ := mj_bind_some h
  refine ml_callV (Y' := mY_X9_costing) (as := [.int v1, .int v2]) (rest := []) (c := 9) (v := (some (.int r2.1))) (M1 := (mj_fin r2.2)) ho_95 rfl lm_X9_340 wc_X9_costing pl_X9_costing ok_X9_costing rfl rfl (Nat.le_of_ble_eq_true rfl) (k_X9_costing (by omega) er2) (mj_dt dt_X9_saving 29 rfl) ?_
  refine mj_go_istore (i := 4) (by decide) (mj_dt dt_X9_saving 30 rfl) ?_
  refine mj_go_iload (i := 4) (x := r2.1) rfl (mj_dt dt_X9_saving 31 rfl) ?_
  refine mj_go_aload_n (k := 0) (x := 95) rfl (mj_dt dt_X9_saving 32 rfl) ?_
  refine mj_go_iload_n (k := 1) (x := v1) rfl (mj_dt dt_X9_saving 33 rfl) ?_
  refine mj_go_iload_n (k := 2) (x := v2) rfl (mj_dt dt_X9_saving 34 rfl) ?_
  refine mj_go_aload_n (k := 0) (x := 95) rfl (mj_dt dt_X9_saving 35 rfl) ?_
  refine ml_getR (c := 9) (k := 29) (q := 114) fd_9_29 rf_95_29 (Or.inl fl_X9_80) ho_95 (mj_dt dt_X9_saving 36 rfl) ?_
  refine mj_go_iload_n (k := 1) (x := v1) rfl (mj_dt dt_X9_saving 37 rfl) ?_
  obtain ⟨c3, h⟩ := mj_ck_some h
  refine mk_iald c3 (mj_dt dt_X9_saving 38 rfl) ?_
  refine mj_go_isub (mj_dt dt_X9_saving 39 rfl) ?_
  obtain ⟨r4, er4, h⟩ := mj_bind_some h
  refine ml_callV (Y' := mY_X9_ordering) (as := [.int v1, .int (v2 - (r2.2.1 114 v1.toNatClampNeg))]) (rest := [.int r2.1]) (c := 9) (v := (some (.int r4.1))) (M1 := (mj_fin r4.2)) ho_95 rfl lm_X9_337 wc_X9_ordering pl_X9_ordering ok_X9_ordering rfl rfl (Nat.le_of_ble_eq_true rfl) (k_X9_ordering (by omega) er4) (mj_dt dt_X9_saving 40 rfl) ?_
  refine mj_go_ixor (mj_dt dt_X9_saving 41 rfl) ?_
  obtain ⟨x5, ex5, h⟩ := mj_mw_some h
  refine ml_eqi ex5 ?_
  refine mj_go_istore (i := 4) (by decide) (mj_dt dt_X9_saving 42 rfl) ?_
  refine mj_go_iload_n (k := 3) (x := v3) rfl (mj_dt dt_X9_saving 43 rfl) ?_
  refine mj_go_iconst (v := 3) rfl (mj_dt dt_X9_saving 44 rfl) ?_
  refine mj_go_icmp_ne (tgt := 85) rfl (mj_dt dt_X9_saving 45 rfl) (fun b6 => ?_) (fun b6 => ?_)
  · rw [if_neg b6] at h
    refine mj_go_iload_n (k := 3) (x := v3) rfl (mj_dt dt_X9_saving 50 rfl) ?_
    refine mj_go_iconst (v := 4) rfl (mj_dt dt_X9_saving 51 rfl) ?_
    refine mj_go_icmp_ne (tgt := 97) rfl (mj_dt dt_X9_saving 52 rfl) (fun b7 => ?_) (fun b7 => ?_)
    · rw [if_neg b7] at h
      refine mj_go_iload_n (k := 3) (x := v3) rfl (mj_dt dt_X9_saving 57 rfl) ?_
      refine mj_go_bipush (v := 6) rfl (mj_dt dt_X9_saving 58 rfl) ?_
      refine mj_go_icmp_ne (tgt := 110) rfl (mj_dt dt_X9_saving 59 rfl) (fun b8 => ?_) (fun b8 => ?_)
      · rw [if_neg b8] at h
        refine mj_go_iload (i := 4) (x := x5) rfl (mj_dt dt_X9_saving 64 rfl) ?_
        obtain rfl := Option.some.inj h
        exact mj_go_ret (v := some (.int x5)) (Nat.le_of_ble_eq_true rfl) (mj_retI (mj_dt dt_X9_saving 65 rfl) rfl)
      · rw [if_pos b8] at h
        refine mj_go_iload (i := 4) (x := x5) rfl (mj_dt dt_X9_saving 60 rfl) ?_
        refine mj_go_iconst (v := 2) rfl (mj_dt dt_X9_saving 61 rfl) ?_
        refine mj_go_imul (mj_dt dt_X9_saving 62 rfl) ?_
        refine mj_go_goto (tgt := 112) rfl (mj_dt dt_X9_saving 63 rfl) ?_
        obtain rfl := Option.some.inj h
        exact mj_go_ret (v := some (.int (x5 * 2))) (Nat.le_of_ble_eq_true rfl) (mj_retI (mj_dt dt_X9_saving 65 rfl) rfl)
    · rw [if_pos b7] at h
      refine mj_go_iload (i := 4) (x := x5) rfl (mj_dt dt_X9_saving 53 rfl) ?_
      refine mj_go_iconst (v := 5) rfl (mj_dt dt_X9_saving 54 rfl) ?_
      refine mj_go_ixor (mj_dt dt_X9_saving 55 rfl) ?_
      refine mj_go_goto (tgt := 112) rfl (mj_dt dt_X9_saving 56 rfl) ?_
      obtain rfl := Option.some.inj h
      exact mj_go_ret (v := some (.int (x5 ^^^ 5))) (Nat.le_of_ble_eq_true rfl) (mj_retI (mj_dt dt_X9_saving 65 rfl) rfl)
  · rw [if_pos b6] at h
    refine mj_go_iload (i := 4) (x := x5) rfl (mj_dt dt_X9_saving 46 rfl) ?_
    refine mj_go_iload_n (k := 1) (x := v1) rfl (mj_dt dt_X9_saving 47 rfl) ?_
    refine mj_go_isub (mj_dt dt_X9_saving 48 rfl) ?_
    refine mj_go_goto (tgt := 112) rfl (mj_dt dt_X9_saving 49 rfl) ?_
    obtain rfl := Option.some.inj h
    exact mj_go_ret (v := some (.int (x5 - v1))) (Nat.le_of_ble_eq_true rfl) (mj_retI (mj_dt dt_X9_saving 65 rfl) rfl)
def f_X9_saving_29 (N : Nat) (v1 : Int32) (v2 : Int32) (v3 : Int32) (m : mj_m) : Option (Int32 × mj_m) := if v3 = 6 then ((f_X9_body N 70 m).bind (fun r2 => f_X9_saving_41 N v1 v2 v3 r2)) else f_X9_saving_41 N v1 v2 v3 m
theorem k_X9_saving_29 {L : Nat} {xs : Nat → Int32} {δ N : Nat} {v1 : Int32} {v2 : Int32} {v3 : Int32} {m : mj_m} (hδ : 2 ≤ δ) {a : Int32 × mj_m} (h : f_X9_saving_29 N v1 v2 v3 m = some a) : mj_Go (mj_EX L xs) (δ + 1) mY_X9_saving 29 [(0, .ref 95), (1, .int v1), (2, .int v2), (3, .int v3)] [] (mj_fin m) (some (.int a.1), (mj_fin a.2)) := by
  unfold f_X9_saving_29 at h
  refine mj_go_iload_n (k := 3) (x := v3) rfl (mj_dt dt_X9_saving 17 rfl) ?_
  refine mj_go_bipush (v := 6) rfl (mj_dt dt_X9_saving 18 rfl) ?_
  refine mj_go_icmp_ne (tgt := 41) rfl (mj_dt dt_X9_saving 19 rfl) (fun b1 => ?_) (fun b1 => ?_)
  · rw [if_neg b1] at h
    refine mj_go_sub (lv' := [(0, .ref 95), (1, .int v1), (2, .int v2), (3, .int v3)]) (List.forall_mem_cons.mpr ⟨rfl, (List.forall_mem_cons.mpr ⟨rfl, (List.forall_mem_cons.mpr ⟨rfl, (List.forall_mem_cons.mpr ⟨rfl, (fun _ h9 => absurd h9 List.not_mem_nil)⟩)⟩)⟩)⟩) ?_
    exact k_X9_saving_41 hδ h
  · rw [if_pos b1] at h
    refine mj_go_aload_n (k := 0) (x := 95) rfl (mj_dt dt_X9_saving 20 rfl) ?_
    refine mj_go_bipush (v := 70) rfl (mj_dt dt_X9_saving 21 rfl) ?_
    obtain ⟨r2, er2, h⟩ := mj_bind_some h
    refine ml_callV (Y' := mY_X9_body) (as := [.int 70]) (rest := []) (c := 9) (v := none) (M1 := (mj_fin r2)) ho_95 rfl lm_X9_334 wc_X9_body pl_X9_body ok_X9_body rfl rfl (Nat.le_of_ble_eq_true rfl) (k_X9_body (by omega) er2) (mj_dt dt_X9_saving 22 rfl) ?_
    refine mj_go_sub (lv' := [(0, .ref 95), (1, .int v1), (2, .int v2), (3, .int v3)]) (List.forall_mem_cons.mpr ⟨rfl, (List.forall_mem_cons.mpr ⟨rfl, (List.forall_mem_cons.mpr ⟨rfl, (List.forall_mem_cons.mpr ⟨rfl, (fun _ h9 => absurd h9 List.not_mem_nil)⟩)⟩)⟩)⟩) ?_
    exact k_X9_saving_41 hδ h
def f_X9_saving_18 (N : Nat) (v1 : Int32) (v2 : Int32) (v3 : Int32) (m : mj_m) : Option (Int32 × mj_m) := if v3 = 4 then ((f_X9_body N 60 m).bind (fun r2 => f_X9_saving_29 N v1 v2 v3 r2)) else f_X9_saving_29 N v1 v2 v3 m
theorem k_X9_saving_18 {L : Nat} {xs : Nat → Int32} {δ N : Nat} {v1 : Int32} {v2 : Int32} {v3 : Int32} {m : mj_m} (hδ : 2 ≤ δ) {a : Int32 × mj_m} (h : f_X9_saving_18 N v1 v2 v3 m = some a) : mj_Go (mj_EX L xs) (δ + 1) mY_X9_saving 18 [(0, .ref 95), (1, .int v1), (2, .int v2), (3, .int v3)] [] (mj_fin m) (some (.int a.1), (mj_fin a.2)) := by
  unfold f_X9_saving_18 at h
  refine mj_go_iload_n (k := 3) (x := v3) rfl (mj_dt dt_X9_saving 11 rfl) ?_
  refine mj_go_iconst (v := 4) rfl (mj_dt dt_X9_saving 12 rfl) ?_
  refine mj_go_icmp_ne (tgt := 29) rfl (mj_dt dt_X9_saving 13 rfl) (fun b1 => ?_) (fun b1 => ?_)
  · rw [if_neg b1] at h
    refine mj_go_sub (lv' := [(0, .ref 95), (1, .int v1), (2, .int v2), (3, .int v3)]) (List.forall_mem_cons.mpr ⟨rfl, (List.forall_mem_cons.mpr ⟨rfl, (List.forall_mem_cons.mpr ⟨rfl, (List.forall_mem_cons.mpr ⟨rfl, (fun _ h9 => absurd h9 List.not_mem_nil)⟩)⟩)⟩)⟩) ?_
    exact k_X9_saving_29 hδ h
  · rw [if_pos b1] at h
    refine mj_go_aload_n (k := 0) (x := 95) rfl (mj_dt dt_X9_saving 14 rfl) ?_
    refine mj_go_bipush (v := 60) rfl (mj_dt dt_X9_saving 15 rfl) ?_
    obtain ⟨r2, er2, h⟩ := mj_bind_some h
    refine ml_callV (Y' := mY_X9_body) (as := [.int 60]) (rest := []) (c := 9) (v := none) (M1 := (mj_fin r2)) ho_95 rfl lm_X9_334 wc_X9_body pl_X9_body ok_X9_body rfl rfl (Nat.le_of_ble_eq_true rfl) (k_X9_body (by omega) er2) (mj_dt dt_X9_saving 16 rfl) ?_
    refine mj_go_sub (lv' := [(0, .ref 95), (1, .int v1), (2, .int v2), (3, .int v3)]) (List.forall_mem_cons.mpr ⟨rfl, (List.forall_mem_cons.mpr ⟨rfl, (List.forall_mem_cons.mpr ⟨rfl, (List.forall_mem_cons.mpr ⟨rfl, (fun _ h9 => absurd h9 List.not_mem_nil)⟩)⟩)⟩)⟩) ?_
    exact k_X9_saving_29 hδ h
def f_X9_saving (N : Nat) (v1 : Int32) (v2 : Int32) (m : mj_m) : Option (Int32 × mj_m) := mj_ck (mj_b 0 113 v1) ( mj_mw (m.1 113 v1.toNatClampNeg) (fun x2 => if x2 = 3 then ((f_X9_body N 31 m).bind (fun r4 => f_X9_saving_18 N v1 v2 x2 r4)) else f_X9_saving_18 N v1 v2 x2 m))
theorem k_X9_saving {L : Nat} {xs : Nat → Int32} {δ N : Nat} {v1 : Int32} {v2 : Int32} {m : mj_m} (hδ : 3 ≤ δ) {a : Int32 × mj_m} (h : f_X9_saving N v1 v2 m = some a) : mj_Cl (mj_EX L xs) δ mY_X9_saving [.ref 95, .int v1, .int v2] (mj_fin m) (some (.int a.1), (mj_fin a.2)) := by
  obtain ⟨δ, rfl⟩ : ∃ d, δ = d + 1 := ⟨δ - 1, by omega⟩
  have hδ : 2 ≤ δ := by omega
  refine mj_cl_of ok_X9_saving (Nat.le_of_ble_eq_true rfl) ?_
  unfold f_X9_saving at h
  refine mj_go_aload_n (k := 0) (x := 95) rfl (mj_dt dt_X9_saving 0 rfl) ?_
  refine ml_getR (c := 9) (k := 28) (q := 113) fd_9_28 rf_95_28 (Or.inl fl_X9_77) ho_95 (mj_dt dt_X9_saving 1 rfl) ?_
  refine mj_go_iload_n (k := 1) (x := v1) rfl (mj_dt dt_X9_saving 2 rfl) ?_
  obtain ⟨c1, h⟩ := mj_ck_some h
  refine mk_iald c1 (mj_dt dt_X9_saving 3 rfl) ?_
  obtain ⟨x2, ex2, h⟩ := mj_mw_some h
  refine ml_eqi ex2 ?_
  refine mj_go_istore_n (k := 3) (by decide) (mj_dt dt_X9_saving 4 rfl) ?_
  refine mj_go_iload_n (k := 3) (x := x2) rfl (mj_dt dt_X9_saving 5 rfl) ?_
  refine mj_go_iconst (v := 3) rfl (mj_dt dt_X9_saving 6 rfl) ?_
  refine mj_go_icmp_ne (tgt := 18) rfl (mj_dt dt_X9_saving 7 rfl) (fun b3 => ?_) (fun b3 => ?_)
  · rw [if_neg b3] at h
    refine mj_go_sub (lv' := [(0, .ref 95), (1, .int v1), (2, .int v2), (3, .int x2)]) (List.forall_mem_cons.mpr ⟨rfl, (List.forall_mem_cons.mpr ⟨rfl, (List.forall_mem_cons.mpr ⟨rfl, (List.forall_mem_cons.mpr ⟨rfl, (fun _ h9 => absurd h9 List.not_mem_nil)⟩)⟩)⟩)⟩) ?_
    exact k_X9_saving_18 hδ h
  · rw [if_pos b3] at h
    refine mj_go_aload_n (k := 0) (x := 95) rfl (mj_dt dt_X9_saving 8 rfl) ?_
    refine mj_go_bipush (v := 31) rfl (mj_dt dt_X9_saving 9 rfl) ?_
    obtain ⟨r4, er4, h⟩ := mj_bind_some h
    refine ml_callV (Y' := mY_X9_body) (as := [.int 31]) (rest := []) (c := 9) (v := none) (M1 := (mj_fin r4)) ho_95 rfl lm_X9_334 wc_X9_body pl_X9_body ok_X9_body rfl rfl (Nat.le_of_ble_eq_true rfl) (k_X9_body (by omega) er4) (mj_dt dt_X9_saving 10 rfl) ?_
    refine mj_go_sub (lv' := [(0, .ref 95), (1, .int v1), (2, .int v2), (3, .int x2)]) (List.forall_mem_cons.mpr ⟨rfl, (List.forall_mem_cons.mpr ⟨rfl, (List.forall_mem_cons.mpr ⟨rfl, (List.forall_mem_cons.mpr ⟨rfl, (fun _ h9 => absurd h9 List.not_mem_nil)⟩)⟩)⟩)⟩) ?_
    exact k_X9_saving_18 hδ h
def f_X9_act (N : Nat) (v1 : Int32) (v2 : Int32) (v3 : Int32) (m : mj_m) : Option (Int32 × mj_m) := mj_mw (mj_wI m 95 54 0) (fun m1 => (f_X9_isShelf N v1 m1).bind (fun r2 => if r2 = 0 then (some (0, m1)) else (mj_ck (mj_b 0 110 v1) ( if (m1.1 110 v1.toNatClampNeg) = 2 then (if v2 < 0 then (some (0, m1)) else (if v2 ≤ 2 then (if v2 = 0 then ((f_X9_ordering N v1 v3 m1).bind (fun r9 => (some (r9.1, r9.2)))) else (if v2 = 1 then ((f_X9_costing N v1 v3 m1).bind (fun r10 => (some (r10.1, r10.2)))) else ((f_X9_saving N v1 v3 m1).bind (fun r10 => (some (r10.1, r10.2)))))) else (some (0, m1)))) else (some (0, m1))))))
theorem k_X9_act {L : Nat} {xs : Nat → Int32} {δ N : Nat} {v1 : Int32} {v2 : Int32} {v3 : Int32} {m : mj_m} (hδ : 4 ≤ δ) {a : Int32 × mj_m} (h : f_X9_act N v1 v2 v3 m = some a) : mj_Cl (mj_EX L xs) δ mY_X9_act [.ref 95, .int v1, .int v2, .int v3] (mj_fin m) (some (.int a.1), (mj_fin a.2)) := by
  obtain ⟨δ, rfl⟩ : ∃ d, δ = d + 1 := ⟨δ - 1, by omega⟩
  have hδ : 3 ≤ δ := by omega
  refine mj_cl_of ok_X9_act (Nat.le_of_ble_eq_true rfl) ?_
  unfold f_X9_act at h
  refine mj_go_aload_n (k := 0) (x := 95) rfl (mj_dt dt_X9_act 0 rfl) ?_
  refine mj_go_iconst (v := 0) rfl (mj_dt dt_X9_act 1 rfl) ?_
  obtain ⟨m1, em1, h⟩ := mj_mw_some h
  refine ml_putI (c := 9) (k := 54) fd_9_54 rfl fl_X9_331 ho_95 (mj_dt dt_X9_act 2 rfl) ?_
  refine ml_eqm (M1 := (mj_fin m1)) (by rw [em1] <;> rfl) ?_
  refine mj_go_aload_n (k := 0) (x := 95) rfl (mj_dt dt_X9_act 3 rfl) ?_
  refine mj_go_iload_n (k := 1) (x := v1) rfl (mj_dt dt_X9_act 4 rfl) ?_
  obtain ⟨r2, er2, h⟩ := mj_bind_some h
  refine ml_callV (Y' := mY_X9_isShelf) (as := [.int v1]) (rest := []) (c := 9) (v := (some (.int r2))) (M1 := (mj_fin m1)) ho_95 rfl lm_X9_130 wc_X9_isShelf pl_X9_isShelf ok_X9_isShelf rfl rfl (Nat.le_of_ble_eq_true rfl) (k_X9_isShelf (by omega) er2) (mj_dt dt_X9_act 5 rfl) ?_
  refine mj_go_if_eq (tgt := 32) rfl (mj_dt dt_X9_act 6 rfl) (fun b3 => ?_) (fun b3 => ?_)
  · rw [if_pos b3] at h
    refine mj_go_iconst (v := 0) rfl (mj_dt dt_X9_act 18 rfl) ?_
    obtain rfl := Option.some.inj h
    exact mj_go_ret (v := some (.int 0)) (Nat.le_of_ble_eq_true rfl) (mj_retI (mj_dt dt_X9_act 19 rfl) rfl)
  · rw [if_neg b3] at h
    refine mj_go_aload_n (k := 0) (x := 95) rfl (mj_dt dt_X9_act 7 rfl) ?_
    refine ml_getR (c := 9) (k := 25) (q := 110) fd_9_25 rf_95_25 (Or.inl fl_X9_68) ho_95 (mj_dt dt_X9_act 8 rfl) ?_
    refine mj_go_iload_n (k := 1) (x := v1) rfl (mj_dt dt_X9_act 9 rfl) ?_
    obtain ⟨c4, h⟩ := mj_ck_some h
    refine mk_iald c4 (mj_dt dt_X9_act 10 rfl) ?_
    refine mj_go_iconst (v := 2) rfl (mj_dt dt_X9_act 11 rfl) ?_
    refine mj_go_icmp_ne (tgt := 32) rfl (mj_dt dt_X9_act 12 rfl) (fun b5 => ?_) (fun b5 => ?_)
    · rw [if_neg b5] at h
      refine mj_go_iconst (v := 0) rfl (mj_dt dt_X9_act 18 rfl) ?_
      obtain rfl := Option.some.inj h
      exact mj_go_ret (v := some (.int 0)) (Nat.le_of_ble_eq_true rfl) (mj_retI (mj_dt dt_X9_act 19 rfl) rfl)
    · rw [if_pos b5] at h
      refine mj_go_iload_n (k := 2) (x := v2) rfl (mj_dt dt_X9_act 13 rfl) ?_
      refine mj_go_if_lt (tgt := 32) rfl (mj_dt dt_X9_act 14 rfl) (fun b6 => ?_) (fun b6 => ?_)
      · rw [if_pos b6] at h
        refine mj_go_iconst (v := 0) rfl (mj_dt dt_X9_act 18 rfl) ?_
        obtain rfl := Option.some.inj h
        exact mj_go_ret (v := some (.int 0)) (Nat.le_of_ble_eq_true rfl) (mj_retI (mj_dt dt_X9_act 19 rfl) rfl)
      · rw [if_neg b6] at h
        refine mj_go_iload_n (k := 2) (x := v2) rfl (mj_dt dt_X9_act 15 rfl) ?_
        refine mj_go_iconst (v := 2) rfl (mj_dt dt_X9_act 16 rfl) ?_
        refine mj_go_icmp_le (tgt := 34) rfl (mj_dt dt_X9_act 17 rfl) (fun b7 => ?_) (fun b7 => ?_)
        · rw [if_pos b7] at h
          refine mj_go_iload_n (k := 2) (x := v2) rfl (mj_dt dt_X9_act 20 rfl) ?_
          refine mj_go_if_ne (tgt := 47) rfl (mj_dt dt_X9_act 21 rfl) (fun b8 => ?_) (fun b8 => ?_)
          · rw [if_neg b8] at h
            refine mj_go_iload_n (k := 2) (x := v2) rfl (mj_dt dt_X9_act 27 rfl) ?_
            refine mj_go_iconst (v := 1) rfl (mj_dt dt_X9_act 28 rfl) ?_
            refine mj_go_icmp_ne (tgt := 61) rfl (mj_dt dt_X9_act 29 rfl) (fun b9 => ?_) (fun b9 => ?_)
            · rw [if_neg b9] at h
              refine mj_go_aload_n (k := 0) (x := 95) rfl (mj_dt dt_X9_act 35 rfl) ?_
              refine mj_go_iload_n (k := 1) (x := v1) rfl (mj_dt dt_X9_act 36 rfl) ?_
              refine mj_go_iload_n (k := 3) (x := v3) rfl (mj_dt dt_X9_act 37 rfl) ?_
              obtain ⟨r10, er10, h⟩ := mj_bind_some h
              refine ml_callV (Y' := mY_X9_saving) (as := [.int v1, .int v3]) (rest := []) (c := 9) (v := (some (.int r10.1))) (M1 := (mj_fin r10.2)) ho_95 rfl lm_X9_343 wc_X9_saving pl_X9_saving ok_X9_saving rfl rfl (Nat.le_of_ble_eq_true rfl) (k_X9_saving (by omega) er10) (mj_dt dt_X9_act 38 rfl) ?_
              obtain rfl := Option.some.inj h
              exact mj_go_ret (v := some (.int r10.1)) (Nat.le_of_ble_eq_true rfl) (mj_retI (mj_dt dt_X9_act 39 rfl) rfl)
            · rw [if_pos b9] at h
              refine mj_go_aload_n (k := 0) (x := 95) rfl (mj_dt dt_X9_act 30 rfl) ?_
              refine mj_go_iload_n (k := 1) (x := v1) rfl (mj_dt dt_X9_act 31 rfl) ?_
              refine mj_go_iload_n (k := 3) (x := v3) rfl (mj_dt dt_X9_act 32 rfl) ?_
              obtain ⟨r10, er10, h⟩ := mj_bind_some h
              refine ml_callV (Y' := mY_X9_costing) (as := [.int v1, .int v3]) (rest := []) (c := 9) (v := (some (.int r10.1))) (M1 := (mj_fin r10.2)) ho_95 rfl lm_X9_340 wc_X9_costing pl_X9_costing ok_X9_costing rfl rfl (Nat.le_of_ble_eq_true rfl) (k_X9_costing (by omega) er10) (mj_dt dt_X9_act 33 rfl) ?_
              refine mj_go_goto (tgt := 67) rfl (mj_dt dt_X9_act 34 rfl) ?_
              obtain rfl := Option.some.inj h
              exact mj_go_ret (v := some (.int r10.1)) (Nat.le_of_ble_eq_true rfl) (mj_retI (mj_dt dt_X9_act 39 rfl) rfl)
          · rw [if_pos b8] at h
            refine mj_go_aload_n (k := 0) (x := 95) rfl (mj_dt dt_X9_act 22 rfl) ?_
            refine mj_go_iload_n (k := 1) (x := v1) rfl (mj_dt dt_X9_act 23 rfl) ?_
            refine mj_go_iload_n (k := 3) (x := v3) rfl (mj_dt dt_X9_act 24 rfl) ?_
            obtain ⟨r9, er9, h⟩ := mj_bind_some h
            refine ml_callV (Y' := mY_X9_ordering) (as := [.int v1, .int v3]) (rest := []) (c := 9) (v := (some (.int r9.1))) (M1 := (mj_fin r9.2)) ho_95 rfl lm_X9_337 wc_X9_ordering pl_X9_ordering ok_X9_ordering rfl rfl (Nat.le_of_ble_eq_true rfl) (k_X9_ordering (by omega) er9) (mj_dt dt_X9_act 25 rfl) ?_
            refine mj_go_goto (tgt := 67) rfl (mj_dt dt_X9_act 26 rfl) ?_
            obtain rfl := Option.some.inj h
            exact mj_go_ret (v := some (.int r9.1)) (Nat.le_of_ble_eq_true rfl) (mj_retI (mj_dt dt_X9_act 39 rfl) rfl)
        · rw [if_neg b7] at h
          refine mj_go_iconst (v := 0) rfl (mj_dt dt_X9_act 18 rfl) ?_
          obtain rfl := Option.some.inj h
          exact mj_go_ret (v := some (.int 0)) (Nat.le_of_ble_eq_true rfl) (mj_retI (mj_dt dt_X9_act 19 rfl) rfl)
def f_X0_bodyAt_27 (N : Nat) (m : mj_m) : Option (Int32) := (some (-1 : Int32))
theorem k_X0_bodyAt_27 {L : Nat} {xs : Nat → Int32} {δ N : Nat} {m : mj_m} {a : Int32} (h : f_X0_bodyAt_27 N m = some a) : mj_Go (mj_EX L xs) δ mY_X0_bodyAt 27 [] [] (mj_fin m) (some (.int a), (mj_fin m)) := by
  unfold f_X0_bodyAt_27 at h
  refine mj_go_iconst (v := -1) rfl (mj_dt dt_X0_bodyAt 14 rfl) ?_
  obtain rfl := Option.some.inj h
  exact mj_go_ret (v := some (.int (-1 : Int32))) (Nat.le_of_ble_eq_true rfl) (mj_retI (mj_dt dt_X0_bodyAt 15 rfl) rfl)
def f_X0_bodyAt (N : Nat) (v1 : Int32) (m : mj_m) : Option (Int32) := if v1 < 0 then f_X0_bodyAt_27 N m else (if (m.1 75 1) ≤ v1 then f_X0_bodyAt_27 N m else (if 20 ≤ v1 then f_X0_bodyAt_27 N m else (mj_ck (mj_b 0 76 v1) ( (some (m.1 76 v1.toNatClampNeg))))))
theorem k_X0_bodyAt {L : Nat} {xs : Nat → Int32} {δ N : Nat} {v1 : Int32} {m : mj_m} (_ : 0 ≤ δ) {a : Int32} (h : f_X0_bodyAt N v1 m = some a) : mj_Cl (mj_EX L xs) δ mY_X0_bodyAt [.ref 75, .int v1] (mj_fin m) (some (.int a), (mj_fin m)) := by
  refine mj_cl_of ok_X0_bodyAt (Nat.le_of_ble_eq_true rfl) ?_
  unfold f_X0_bodyAt at h
  refine mj_go_iload_n (k := 1) (x := v1) rfl (mj_dt dt_X0_bodyAt 0 rfl) ?_
  refine mj_go_if_lt (tgt := 27) rfl (mj_dt dt_X0_bodyAt 1 rfl) (fun b1 => ?_) (fun b1 => ?_)
  · rw [if_pos b1] at h
    refine mj_go_sub (lv' := []) (fun _ h9 => absurd h9 List.not_mem_nil) ?_
    exact k_X0_bodyAt_27 h
  · rw [if_neg b1] at h
    refine mj_go_iload_n (k := 1) (x := v1) rfl (mj_dt dt_X0_bodyAt 2 rfl) ?_
    refine mj_go_aload_n (k := 0) (x := 75) rfl (mj_dt dt_X0_bodyAt 3 rfl) ?_
    refine mk_getI (c := 0) (k := 1) (Or.inl fd_0_1) (Or.inl fl_X0_15) ho_75 (mj_dt dt_X0_bodyAt 4 rfl) ?_
    refine mj_go_icmp_ge (tgt := 27) rfl (mj_dt dt_X0_bodyAt 5 rfl) (fun b2 => ?_) (fun b2 => ?_)
    · rw [if_pos b2] at h
      refine mj_go_sub (lv' := []) (fun _ h9 => absurd h9 List.not_mem_nil) ?_
      exact k_X0_bodyAt_27 h
    · rw [if_neg b2] at h
      refine mj_go_iload_n (k := 1) (x := v1) rfl (mj_dt dt_X0_bodyAt 6 rfl) ?_
      refine mj_go_bipush (v := 20) rfl (mj_dt dt_X0_bodyAt 7 rfl) ?_
      refine mj_go_icmp_ge (tgt := 27) rfl (mj_dt dt_X0_bodyAt 8 rfl) (fun b3 => ?_) (fun b3 => ?_)
      · rw [if_pos b3] at h
        refine mj_go_sub (lv' := []) (fun _ h9 => absurd h9 List.not_mem_nil) ?_
        exact k_X0_bodyAt_27 h
      · rw [if_neg b3] at h
        refine mj_go_aload_n (k := 0) (x := 75) rfl (mj_dt dt_X0_bodyAt 9 rfl) ?_
        refine ml_getR (c := 0) (k := 0) (q := 76) fd_0_0 rf_75_0 (Or.inl fl_X0_11) ho_75 (mj_dt dt_X0_bodyAt 10 rfl) ?_
        refine mj_go_iload_n (k := 1) (x := v1) rfl (mj_dt dt_X0_bodyAt 11 rfl) ?_
        obtain ⟨c4, h⟩ := mj_ck_some h
        refine mk_iald c4 (mj_dt dt_X0_bodyAt 12 rfl) ?_
        refine mj_go_goto (tgt := 28) rfl (mj_dt dt_X0_bodyAt 13 rfl) ?_
        obtain rfl := Option.some.inj h
        exact mj_go_ret (v := some (.int (m.1 76 v1.toNatClampNeg))) (Nat.le_of_ble_eq_true rfl) (mj_retI (mj_dt dt_X0_bodyAt 15 rfl) rfl)
def f_X8_trace (N : Nat) (v1 : Int32) (m : mj_m) : Option (Int32) := (f_X0_bodyAt N v1 m).bind (fun r1 => some r1)
theorem k_X8_trace {L : Nat} {xs : Nat → Int32} {δ N : Nat} {v1 : Int32} {m : mj_m} (hδ : 1 ≤ δ) {a : Int32} (h : f_X8_trace N v1 m = some a) : mj_Cl (mj_EX L xs) δ mY_X8_trace [.ref 0, .int v1] (mj_fin m) (some (.int a), (mj_fin m)) := by
  obtain ⟨δ, rfl⟩ : ∃ d, δ = d + 1 := ⟨δ - 1, by omega⟩
  have hδ : 0 ≤ δ := by omega
  refine mj_cl_of ok_X8_trace (Nat.le_of_ble_eq_true rfl) ?_
  unfold f_X8_trace at h
  refine mj_go_aload_n (k := 0) (x := 0) rfl (mj_dt dt_X8_trace 0 rfl) ?_
  refine ml_getR (c := 8) (k := 7) (q := 75) fd_8_7 rf_0_7 (Or.inl fl_X8_62) ho_0 (mj_dt dt_X8_trace 1 rfl) ?_
  refine mj_go_iload_n (k := 1) (x := v1) rfl (mj_dt dt_X8_trace 2 rfl) ?_
  obtain ⟨r1, er1, h⟩ := mj_bind_some h
  refine ml_callV (Y' := mY_X0_bodyAt) (as := [.int v1]) (rest := []) (c := 0) (v := (some (.int r1))) (M1 := (mj_fin m)) ho_75 rfl lm_X8_349 wc_X0_bodyAt pl_X0_bodyAt ok_X0_bodyAt rfl rfl (Nat.le_of_ble_eq_true rfl) (k_X0_bodyAt (by omega) er1) (mj_dt dt_X8_trace 3 rfl) ?_
  obtain rfl := Option.some.inj h
  exact mj_go_ret (v := some (.int r1)) (Nat.le_of_ble_eq_true rfl) (mj_retI (mj_dt dt_X8_trace 4 rfl) rfl)
def f_X9_trace_27 (N : Nat) (m : mj_m) : Option (Int32) := (some (-1 : Int32))
theorem k_X9_trace_27 {L : Nat} {xs : Nat → Int32} {δ N : Nat} {m : mj_m} {a : Int32} (h : f_X9_trace_27 N m = some a) : mj_Go (mj_EX L xs) δ mY_X9_trace 27 [] [] (mj_fin m) (some (.int a), (mj_fin m)) := by
  unfold f_X9_trace_27 at h
  refine mj_go_iconst (v := -1) rfl (mj_dt dt_X9_trace 14 rfl) ?_
  obtain rfl := Option.some.inj h
  exact mj_go_ret (v := some (.int (-1 : Int32))) (Nat.le_of_ble_eq_true rfl) (mj_retI (mj_dt dt_X9_trace 15 rfl) rfl)
def f_X9_trace (N : Nat) (v1 : Int32) (m : mj_m) : Option (Int32) := if v1 < 0 then f_X9_trace_27 N m else (if 20 ≤ v1 then f_X9_trace_27 N m else (if (m.1 95 54) ≤ v1 then f_X9_trace_27 N m else (mj_ck (mj_b 0 127 v1) ( (some (m.1 127 v1.toNatClampNeg))))))
theorem k_X9_trace {L : Nat} {xs : Nat → Int32} {δ N : Nat} {v1 : Int32} {m : mj_m} (_ : 0 ≤ δ) {a : Int32} (h : f_X9_trace N v1 m = some a) : mj_Cl (mj_EX L xs) δ mY_X9_trace [.ref 95, .int v1] (mj_fin m) (some (.int a), (mj_fin m)) := by
  refine mj_cl_of ok_X9_trace (Nat.le_of_ble_eq_true rfl) ?_
  unfold f_X9_trace at h
  refine mj_go_iload_n (k := 1) (x := v1) rfl (mj_dt dt_X9_trace 0 rfl) ?_
  refine mj_go_if_lt (tgt := 27) rfl (mj_dt dt_X9_trace 1 rfl) (fun b1 => ?_) (fun b1 => ?_)
  · rw [if_pos b1] at h
    refine mj_go_sub (lv' := []) (fun _ h9 => absurd h9 List.not_mem_nil) ?_
    exact k_X9_trace_27 h
  · rw [if_neg b1] at h
    refine mj_go_iload_n (k := 1) (x := v1) rfl (mj_dt dt_X9_trace 2 rfl) ?_
    refine mj_go_bipush (v := 20) rfl (mj_dt dt_X9_trace 3 rfl) ?_
    refine mj_go_icmp_ge (tgt := 27) rfl (mj_dt dt_X9_trace 4 rfl) (fun b2 => ?_) (fun b2 => ?_)
    · rw [if_pos b2] at h
      refine mj_go_sub (lv' := []) (fun _ h9 => absurd h9 List.not_mem_nil) ?_
      exact k_X9_trace_27 h
    · rw [if_neg b2] at h
      refine mj_go_iload_n (k := 1) (x := v1) rfl (mj_dt dt_X9_trace 5 rfl) ?_
      refine mj_go_aload_n (k := 0) (x := 95) rfl (mj_dt dt_X9_trace 6 rfl) ?_
      refine mk_getI (c := 9) (k := 54) (Or.inl fd_9_54) (Or.inl fl_X9_331) ho_95 (mj_dt dt_X9_trace 7 rfl) ?_
      refine mj_go_icmp_ge (tgt := 27) rfl (mj_dt dt_X9_trace 8 rfl) (fun b3 => ?_) (fun b3 => ?_)
      · rw [if_pos b3] at h
        refine mj_go_sub (lv' := []) (fun _ h9 => absurd h9 List.not_mem_nil) ?_
        exact k_X9_trace_27 h
      · rw [if_neg b3] at h
        refine mj_go_aload_n (k := 0) (x := 95) rfl (mj_dt dt_X9_trace 9 rfl) ?_
        refine ml_getR (c := 9) (k := 53) (q := 127) fd_9_53 rf_95_53 (Or.inl fl_X9_120) ho_95 (mj_dt dt_X9_trace 10 rfl) ?_
        refine mj_go_iload_n (k := 1) (x := v1) rfl (mj_dt dt_X9_trace 11 rfl) ?_
        obtain ⟨c4, h⟩ := mj_ck_some h
        refine mk_iald c4 (mj_dt dt_X9_trace 12 rfl) ?_
        refine mj_go_goto (tgt := 28) rfl (mj_dt dt_X9_trace 13 rfl) ?_
        obtain rfl := Option.some.inj h
        exact mj_go_ret (v := some (.int (m.1 127 v1.toNatClampNeg))) (Nat.le_of_ble_eq_true rfl) (mj_retI (mj_dt dt_X9_trace 15 rfl) rfl)
def f_X7_becomeLike_18_1_32 (N : Nat) (k_32 : Int32 × mj_m → Option (mj_m)) (s : Int32 × mj_m) : Option (mj_m) := if 10 ≤ s.1 then (mj_ck (mj_p 0 5 22 0 0 10) ( mj_mw (mj_kI s.2 5 22 ((0 : Int32).toNatClampNeg) ((0 : Int32).toNatClampNeg) ((10 : Int32).toNatClampNeg)) (fun m3 => mj_ck (mj_p 0 6 23 0 0 4) ( mj_mw (mj_kI m3 6 23 ((0 : Int32).toNatClampNeg) ((0 : Int32).toNatClampNeg) ((4 : Int32).toNatClampNeg)) (fun m5 => mj_ck (mj_p 0 7 24 0 0 4) ( mj_mw (mj_kI m5 7 24 ((0 : Int32).toNatClampNeg) ((0 : Int32).toNatClampNeg) ((4 : Int32).toNatClampNeg)) (fun m7 => mj_mw (mj_wI m7 18 6 (m7.1 1 6)) (fun m8 => mj_mw (mj_wI m8 18 7 (m8.1 1 7)) (fun m9 => mj_mw (mj_wI m9 18 8 (m9.1 1 8)) (fun m10 => mj_mw (mj_wI m10 18 9 (m10.1 1 9)) (fun m11 => mj_mw (mj_wI m11 18 10 (m11.1 1 10)) (fun m12 => mj_mw (mj_wI m12 18 11 (m12.1 1 11)) (fun m13 => mj_mw (mj_wI m13 18 12 (m13.1 1 12)) (fun m14 => mj_mw (mj_wI m14 18 13 (m14.1 1 13)) (fun m15 => mj_mw (mj_wI m15 18 14 (m15.1 1 14)) (fun m16 => mj_mw (mj_wI m16 18 15 (m16.1 1 15)) (fun m17 => some m17))))))))))))))))) else (mj_ck (mj_b 2 21 s.1) ( mj_ck (mj_b 2 4 s.1) ( (f_X1_becomeLike N (25 + s.1.toNatClampNeg) (8 + s.1.toNatClampNeg) s.2).bind (fun r4 => mj_mw (s.1 + 1) (fun x5 => k_32 (x5, r4))))))
theorem k_X7_becomeLike_18_1_32 {L : Nat} {xs : Nat → Int32} {δ N : Nat} (hδ : 0 ≤ δ) : ∀ (n : Nat) (s : Int32 × mj_m) (a : mj_m), mj_lp n (f_X7_becomeLike_18_1_32 N) s = some a → mj_Go (mj_EX L xs) (δ + 1) mY_X7_becomeLike 32 [(0, .ref 18), (1, .ref 1), (2, .int s.1)] [] (mj_fin s.2) (none, (mj_fin a)) := by
  refine mj_lp_sound (fun k_32 s a q_32 h => ?_)
  unfold f_X7_becomeLike_18_1_32 at h
  refine mj_go_iload_n (k := 2) (x := s.1) rfl (mj_dt dt_X7_becomeLike 18 rfl) ?_
  refine mj_go_bipush (v := 10) rfl (mj_dt dt_X7_becomeLike 19 rfl) ?_
  refine mj_go_icmp_ge (tgt := 59) rfl (mj_dt dt_X7_becomeLike 20 rfl) (fun b1 => ?_) (fun b1 => ?_)
  · rw [if_pos b1] at h
    refine mj_go_aload_n (k := 1) (x := 1) rfl (mj_dt dt_X7_becomeLike 32 rfl) ?_
    refine ml_getR (c := 7) (k := 3) (q := 5) fd_7_3 rf_1_3 (Or.inl fl_X7_24) ho_1 (mj_dt dt_X7_becomeLike 33 rfl) ?_
    refine mj_go_iconst (v := 0) rfl (mj_dt dt_X7_becomeLike 34 rfl) ?_
    refine mj_go_aload_n (k := 0) (x := 18) rfl (mj_dt dt_X7_becomeLike 35 rfl) ?_
    refine ml_getR (c := 7) (k := 3) (q := 22) fd_7_3 rf_18_3 (Or.inl fl_X7_24) ho_18 (mj_dt dt_X7_becomeLike 36 rfl) ?_
    refine mj_go_iconst (v := 0) rfl (mj_dt dt_X7_becomeLike 37 rfl) ?_
    refine mj_go_bipush (v := 10) rfl (mj_dt dt_X7_becomeLike 38 rfl) ?_
    obtain ⟨c2, h⟩ := mj_ck_some h
    obtain ⟨m3, em3, h⟩ := mj_mw_some h
    refine ml_cpyI hm_X7_65 (Nat.le_of_ble_eq_true rfl) c2 (mj_dt dt_X7_becomeLike 39 rfl) ?_
    refine ml_eqm (M1 := (mj_fin m3)) (by rw [em3] <;> rfl) ?_
    refine mj_go_aload_n (k := 1) (x := 1) rfl (mj_dt dt_X7_becomeLike 40 rfl) ?_
    refine ml_getR (c := 7) (k := 4) (q := 6) fd_7_4 rf_1_4 (Or.inl fl_X7_27) ho_1 (mj_dt dt_X7_becomeLike 41 rfl) ?_
    refine mj_go_iconst (v := 0) rfl (mj_dt dt_X7_becomeLike 42 rfl) ?_
    refine mj_go_aload_n (k := 0) (x := 18) rfl (mj_dt dt_X7_becomeLike 43 rfl) ?_
    refine ml_getR (c := 7) (k := 4) (q := 23) fd_7_4 rf_18_4 (Or.inl fl_X7_27) ho_18 (mj_dt dt_X7_becomeLike 44 rfl) ?_
    refine mj_go_iconst (v := 0) rfl (mj_dt dt_X7_becomeLike 45 rfl) ?_
    refine mj_go_iconst (v := 4) rfl (mj_dt dt_X7_becomeLike 46 rfl) ?_
    obtain ⟨c4, h⟩ := mj_ck_some h
    obtain ⟨m5, em5, h⟩ := mj_mw_some h
    refine ml_cpyI hm_X7_65 (Nat.le_of_ble_eq_true rfl) c4 (mj_dt dt_X7_becomeLike 47 rfl) ?_
    refine ml_eqm (M1 := (mj_fin m5)) (by rw [em5] <;> rfl) ?_
    refine mj_go_aload_n (k := 1) (x := 1) rfl (mj_dt dt_X7_becomeLike 48 rfl) ?_
    refine ml_getR (c := 7) (k := 5) (q := 7) fd_7_5 rf_1_5 (Or.inl fl_X7_30) ho_1 (mj_dt dt_X7_becomeLike 49 rfl) ?_
    refine mj_go_iconst (v := 0) rfl (mj_dt dt_X7_becomeLike 50 rfl) ?_
    refine mj_go_aload_n (k := 0) (x := 18) rfl (mj_dt dt_X7_becomeLike 51 rfl) ?_
    refine ml_getR (c := 7) (k := 5) (q := 24) fd_7_5 rf_18_5 (Or.inl fl_X7_30) ho_18 (mj_dt dt_X7_becomeLike 52 rfl) ?_
    refine mj_go_iconst (v := 0) rfl (mj_dt dt_X7_becomeLike 53 rfl) ?_
    refine mj_go_iconst (v := 4) rfl (mj_dt dt_X7_becomeLike 54 rfl) ?_
    obtain ⟨c6, h⟩ := mj_ck_some h
    obtain ⟨m7, em7, h⟩ := mj_mw_some h
    refine ml_cpyI hm_X7_65 (Nat.le_of_ble_eq_true rfl) c6 (mj_dt dt_X7_becomeLike 55 rfl) ?_
    refine ml_eqm (M1 := (mj_fin m7)) (by rw [em7] <;> rfl) ?_
    refine mj_go_aload_n (k := 0) (x := 18) rfl (mj_dt dt_X7_becomeLike 56 rfl) ?_
    refine mj_go_aload_n (k := 1) (x := 1) rfl (mj_dt dt_X7_becomeLike 57 rfl) ?_
    refine mk_getI (c := 7) (k := 6) (Or.inl fd_7_6) (Or.inl fl_X7_33) ho_1 (mj_dt dt_X7_becomeLike 58 rfl) ?_
    obtain ⟨m8, em8, h⟩ := mj_mw_some h
    refine ml_putI (c := 7) (k := 6) fd_7_6 rfl fl_X7_33 ho_18 (mj_dt dt_X7_becomeLike 59 rfl) ?_
    refine ml_eqm (M1 := (mj_fin m8)) (by rw [em8] <;> rfl) ?_
    refine mj_go_aload_n (k := 0) (x := 18) rfl (mj_dt dt_X7_becomeLike 60 rfl) ?_
    refine mj_go_aload_n (k := 1) (x := 1) rfl (mj_dt dt_X7_becomeLike 61 rfl) ?_
    refine mk_getI (c := 7) (k := 7) (Or.inl fd_7_7) (Or.inl fl_X7_37) ho_1 (mj_dt dt_X7_becomeLike 62 rfl) ?_
    obtain ⟨m9, em9, h⟩ := mj_mw_some h
    refine ml_putI (c := 7) (k := 7) fd_7_7 rfl fl_X7_37 ho_18 (mj_dt dt_X7_becomeLike 63 rfl) ?_
    refine ml_eqm (M1 := (mj_fin m9)) (by rw [em9] <;> rfl) ?_
    refine mj_go_aload_n (k := 0) (x := 18) rfl (mj_dt dt_X7_becomeLike 64 rfl) ?_
    refine mj_go_aload_n (k := 1) (x := 1) rfl (mj_dt dt_X7_becomeLike 65 rfl) ?_
    refine mk_getI (c := 7) (k := 8) (Or.inl fd_7_8) (Or.inl fl_X7_40) ho_1 (mj_dt dt_X7_becomeLike 66 rfl) ?_
    obtain ⟨m10, em10, h⟩ := mj_mw_some h
    refine ml_putI (c := 7) (k := 8) fd_7_8 rfl fl_X7_40 ho_18 (mj_dt dt_X7_becomeLike 67 rfl) ?_
    refine ml_eqm (M1 := (mj_fin m10)) (by rw [em10] <;> rfl) ?_
    refine mj_go_aload_n (k := 0) (x := 18) rfl (mj_dt dt_X7_becomeLike 68 rfl) ?_
    refine mj_go_aload_n (k := 1) (x := 1) rfl (mj_dt dt_X7_becomeLike 69 rfl) ?_
    refine mk_getI (c := 7) (k := 9) (Or.inl fd_7_9) (Or.inl fl_X7_43) ho_1 (mj_dt dt_X7_becomeLike 70 rfl) ?_
    obtain ⟨m11, em11, h⟩ := mj_mw_some h
    refine ml_putI (c := 7) (k := 9) fd_7_9 rfl fl_X7_43 ho_18 (mj_dt dt_X7_becomeLike 71 rfl) ?_
    refine ml_eqm (M1 := (mj_fin m11)) (by rw [em11] <;> rfl) ?_
    refine mj_go_aload_n (k := 0) (x := 18) rfl (mj_dt dt_X7_becomeLike 72 rfl) ?_
    refine mj_go_aload_n (k := 1) (x := 1) rfl (mj_dt dt_X7_becomeLike 73 rfl) ?_
    refine mk_getI (c := 7) (k := 10) (Or.inl fd_7_10) (Or.inl fl_X7_46) ho_1 (mj_dt dt_X7_becomeLike 74 rfl) ?_
    obtain ⟨m12, em12, h⟩ := mj_mw_some h
    refine ml_putI (c := 7) (k := 10) fd_7_10 rfl fl_X7_46 ho_18 (mj_dt dt_X7_becomeLike 75 rfl) ?_
    refine ml_eqm (M1 := (mj_fin m12)) (by rw [em12] <;> rfl) ?_
    refine mj_go_aload_n (k := 0) (x := 18) rfl (mj_dt dt_X7_becomeLike 76 rfl) ?_
    refine mj_go_aload_n (k := 1) (x := 1) rfl (mj_dt dt_X7_becomeLike 77 rfl) ?_
    refine mk_getI (c := 7) (k := 11) (Or.inl fd_7_11) (Or.inl fl_X7_49) ho_1 (mj_dt dt_X7_becomeLike 78 rfl) ?_
    obtain ⟨m13, em13, h⟩ := mj_mw_some h
    refine ml_putI (c := 7) (k := 11) fd_7_11 rfl fl_X7_49 ho_18 (mj_dt dt_X7_becomeLike 79 rfl) ?_
    refine ml_eqm (M1 := (mj_fin m13)) (by rw [em13] <;> rfl) ?_
    refine mj_go_aload_n (k := 0) (x := 18) rfl (mj_dt dt_X7_becomeLike 80 rfl) ?_
    refine mj_go_aload_n (k := 1) (x := 1) rfl (mj_dt dt_X7_becomeLike 81 rfl) ?_
    refine mk_getI (c := 7) (k := 12) (Or.inl fd_7_12) (Or.inl fl_X7_52) ho_1 (mj_dt dt_X7_becomeLike 82 rfl) ?_
    obtain ⟨m14, em14, h⟩ := mj_mw_some h
    refine ml_putI (c := 7) (k := 12) fd_7_12 rfl fl_X7_52 ho_18 (mj_dt dt_X7_becomeLike 83 rfl) ?_
    refine ml_eqm (M1 := (mj_fin m14)) (by rw [em14] <;> rfl) ?_
    refine mj_go_aload_n (k := 0) (x := 18) rfl (mj_dt dt_X7_becomeLike 84 rfl) ?_
    refine mj_go_aload_n (k := 1) (x := 1) rfl (mj_dt dt_X7_becomeLike 85 rfl) ?_
    refine mk_getI (c := 7) (k := 13) (Or.inl fd_7_13) (Or.inl fl_X7_55) ho_1 (mj_dt dt_X7_becomeLike 86 rfl) ?_
    obtain ⟨m15, em15, h⟩ := mj_mw_some h
    refine ml_putI (c := 7) (k := 13) fd_7_13 rfl fl_X7_55 ho_18 (mj_dt dt_X7_becomeLike 87 rfl) ?_
    refine ml_eqm (M1 := (mj_fin m15)) (by rw [em15] <;> rfl) ?_
    refine mj_go_aload_n (k := 0) (x := 18) rfl (mj_dt dt_X7_becomeLike 88 rfl) ?_
    refine mj_go_aload_n (k := 1) (x := 1) rfl (mj_dt dt_X7_becomeLike 89 rfl) ?_
    refine mk_getI (c := 7) (k := 14) (Or.inl fd_7_14) (Or.inl fl_X7_58) ho_1 (mj_dt dt_X7_becomeLike 90 rfl) ?_
    obtain ⟨m16, em16, h⟩ := mj_mw_some h
    refine ml_putI (c := 7) (k := 14) fd_7_14 rfl fl_X7_58 ho_18 (mj_dt dt_X7_becomeLike 91 rfl) ?_
    refine ml_eqm (M1 := (mj_fin m16)) (by rw [em16] <;> rfl) ?_
    refine mj_go_aload_n (k := 0) (x := 18) rfl (mj_dt dt_X7_becomeLike 92 rfl) ?_
    refine mj_go_aload_n (k := 1) (x := 1) rfl (mj_dt dt_X7_becomeLike 93 rfl) ?_
    refine mk_getI (c := 7) (k := 15) (Or.inl fd_7_15) (Or.inl fl_X7_61) ho_1 (mj_dt dt_X7_becomeLike 94 rfl) ?_
    obtain ⟨m17, em17, h⟩ := mj_mw_some h
    refine ml_putI (c := 7) (k := 15) fd_7_15 rfl fl_X7_61 ho_18 (mj_dt dt_X7_becomeLike 95 rfl) ?_
    refine ml_eqm (M1 := (mj_fin m17)) (by rw [em17] <;> rfl) ?_
    obtain rfl := Option.some.inj h
    exact mj_go_ret (v := none) (Nat.le_of_ble_eq_true rfl) (mj_retV (mj_dt dt_X7_becomeLike 96 rfl) rfl)
  · rw [if_neg b1] at h
    refine mj_go_aload_n (k := 0) (x := 18) rfl (mj_dt dt_X7_becomeLike 21 rfl) ?_
    refine ml_getR (c := 7) (k := 2) (q := 21) fd_7_2 rf_18_2 (Or.inl fl_X7_20) ho_18 (mj_dt dt_X7_becomeLike 22 rfl) ?_
    refine mj_go_iload_n (k := 2) (x := s.1) rfl (mj_dt dt_X7_becomeLike 23 rfl) ?_
    obtain ⟨c2, h⟩ := mj_ck_some h
    refine ml_aald2 (q := 25 + s.1.toNatClampNeg) c2 (mj_hs21 c2).1 (mj_dt dt_X7_becomeLike 24 rfl) ?_
    refine mj_go_aload_n (k := 1) (x := 1) rfl (mj_dt dt_X7_becomeLike 25 rfl) ?_
    refine ml_getR (c := 7) (k := 2) (q := 4) fd_7_2 rf_1_2 (Or.inl fl_X7_20) ho_1 (mj_dt dt_X7_becomeLike 26 rfl) ?_
    refine mj_go_iload_n (k := 2) (x := s.1) rfl (mj_dt dt_X7_becomeLike 27 rfl) ?_
    obtain ⟨c3, h⟩ := mj_ck_some h
    refine ml_aald2 (q := 8 + s.1.toNatClampNeg) c3 (mj_hs4 c3).1 (mj_dt dt_X7_becomeLike 28 rfl) ?_
    obtain ⟨r4, er4, h⟩ := mj_bind_some h
    refine ml_callV (Y' := mY_X1_becomeLike) (as := [.ref (8 + s.1.toNatClampNeg)]) (rest := []) (c := 1) (v := none) (M1 := (mj_fin r4)) (mj_hs21 c2).2 rfl lm_X7_71 wc_X1_becomeLike pl_X1_becomeLike ok_X1_becomeLike rfl rfl (Nat.le_of_ble_eq_true rfl) (k_X1_becomeLike (by omega) er4) (mj_dt dt_X7_becomeLike 29 rfl) ?_
    obtain ⟨x5, ex5, h⟩ := mj_mw_some h
    refine mj_go_iinc (i := 2) (x := s.1) (v := x5) rfl (by rw [ex5] <;> rfl) (by decide) (mj_dt dt_X7_becomeLike 30 rfl) ?_
    refine mj_go_goto (tgt := 32) rfl (mj_dt dt_X7_becomeLike 31 rfl) ?_
    refine mj_go_sub (lv' := [(0, .ref 18), (1, .ref 1), (2, .int x5)]) (List.forall_mem_cons.mpr ⟨rfl, (List.forall_mem_cons.mpr ⟨rfl, (List.forall_mem_cons.mpr ⟨rfl, (fun _ h9 => absurd h9 List.not_mem_nil)⟩)⟩)⟩) ?_
    exact q_32 _ _ h
def f_X7_becomeLike_18_1 (N : Nat) (m : mj_m) : Option (mj_m) := mj_ck (mj_p 0 2 19 0 0 12) ( mj_mw (mj_kI m 2 19 ((0 : Int32).toNatClampNeg) ((0 : Int32).toNatClampNeg) ((12 : Int32).toNatClampNeg)) (fun m2 => mj_ck (mj_p 0 3 20 0 0 12) ( mj_mw (mj_kI m2 3 20 ((0 : Int32).toNatClampNeg) ((0 : Int32).toNatClampNeg) ((12 : Int32).toNatClampNeg)) (fun m4 => mj_lp N (f_X7_becomeLike_18_1_32 N) (0, m4)))))
theorem k_X7_becomeLike_18_1 {L : Nat} {xs : Nat → Int32} {δ N : Nat} {m : mj_m} (hδ : 1 ≤ δ) {a : mj_m} (h : f_X7_becomeLike_18_1 N m = some a) : mj_Cl (mj_EX L xs) δ mY_X7_becomeLike [.ref 18, .ref 1] (mj_fin m) (none, (mj_fin a)) := by
  obtain ⟨δ, rfl⟩ : ∃ d, δ = d + 1 := ⟨δ - 1, by omega⟩
  have hδ : 0 ≤ δ := by omega
  refine mj_cl_of ok_X7_becomeLike (Nat.le_of_ble_eq_true rfl) ?_
  unfold f_X7_becomeLike_18_1 at h
  refine mj_go_aload_n (k := 1) (x := 1) rfl (mj_dt dt_X7_becomeLike 0 rfl) ?_
  refine ml_getR (c := 7) (k := 0) (q := 2) fd_7_0 rf_1_0 (Or.inl fl_X7_9) ho_1 (mj_dt dt_X7_becomeLike 1 rfl) ?_
  refine mj_go_iconst (v := 0) rfl (mj_dt dt_X7_becomeLike 2 rfl) ?_
  refine mj_go_aload_n (k := 0) (x := 18) rfl (mj_dt dt_X7_becomeLike 3 rfl) ?_
  refine ml_getR (c := 7) (k := 0) (q := 19) fd_7_0 rf_18_0 (Or.inl fl_X7_9) ho_18 (mj_dt dt_X7_becomeLike 4 rfl) ?_
  refine mj_go_iconst (v := 0) rfl (mj_dt dt_X7_becomeLike 5 rfl) ?_
  refine mj_go_bipush (v := 12) rfl (mj_dt dt_X7_becomeLike 6 rfl) ?_
  obtain ⟨c1, h⟩ := mj_ck_some h
  obtain ⟨m2, em2, h⟩ := mj_mw_some h
  refine ml_cpyI hm_X7_65 (Nat.le_of_ble_eq_true rfl) c1 (mj_dt dt_X7_becomeLike 7 rfl) ?_
  refine ml_eqm (M1 := (mj_fin m2)) (by rw [em2] <;> rfl) ?_
  refine mj_go_aload_n (k := 1) (x := 1) rfl (mj_dt dt_X7_becomeLike 8 rfl) ?_
  refine ml_getR (c := 7) (k := 1) (q := 3) fd_7_1 rf_1_1 (Or.inl fl_X7_15) ho_1 (mj_dt dt_X7_becomeLike 9 rfl) ?_
  refine mj_go_iconst (v := 0) rfl (mj_dt dt_X7_becomeLike 10 rfl) ?_
  refine mj_go_aload_n (k := 0) (x := 18) rfl (mj_dt dt_X7_becomeLike 11 rfl) ?_
  refine ml_getR (c := 7) (k := 1) (q := 20) fd_7_1 rf_18_1 (Or.inl fl_X7_15) ho_18 (mj_dt dt_X7_becomeLike 12 rfl) ?_
  refine mj_go_iconst (v := 0) rfl (mj_dt dt_X7_becomeLike 13 rfl) ?_
  refine mj_go_bipush (v := 12) rfl (mj_dt dt_X7_becomeLike 14 rfl) ?_
  obtain ⟨c3, h⟩ := mj_ck_some h
  obtain ⟨m4, em4, h⟩ := mj_mw_some h
  refine ml_cpyI hm_X7_65 (Nat.le_of_ble_eq_true rfl) c3 (mj_dt dt_X7_becomeLike 15 rfl) ?_
  refine ml_eqm (M1 := (mj_fin m4)) (by rw [em4] <;> rfl) ?_
  refine mj_go_iconst (v := 0) rfl (mj_dt dt_X7_becomeLike 16 rfl) ?_
  refine mj_go_istore_n (k := 2) (by decide) (mj_dt dt_X7_becomeLike 17 rfl) ?_
  refine mj_go_sub (lv' := [(0, .ref 18), (1, .ref 1), (2, .int 0)]) (List.forall_mem_cons.mpr ⟨rfl, (List.forall_mem_cons.mpr ⟨rfl, (List.forall_mem_cons.mpr ⟨rfl, (fun _ h9 => absurd h9 List.not_mem_nil)⟩)⟩)⟩) ?_
  exact k_X7_becomeLike_18_1_32 hδ N _ _ h
def f_X8_image (N : Nat) (m : mj_m) : Option (Int32 × mj_m) := (f_X7_becomeLike_18_1 N m).bind (fun r1 => mj_mw (mj_wI r1 0 10 1) (fun m2 => some (m2.1 1 13, m2)))
theorem k_X8_image {L : Nat} {xs : Nat → Int32} {δ N : Nat} {m : mj_m} (hδ : 2 ≤ δ) {a : Int32 × mj_m} (h : f_X8_image N m = some a) : mj_Cl (mj_EX L xs) δ mY_X8_image [.ref 0] (mj_fin m) (some (.int a.1), (mj_fin a.2)) := by
  obtain ⟨δ, rfl⟩ : ∃ d, δ = d + 1 := ⟨δ - 1, by omega⟩
  have hδ : 1 ≤ δ := by omega
  refine mj_cl_of ok_X8_image (Nat.le_of_ble_eq_true rfl) ?_
  unfold f_X8_image at h
  refine mj_go_aload_n (k := 0) (x := 0) rfl (mj_dt dt_X8_image 0 rfl) ?_
  refine ml_getR (c := 8) (k := 1) (q := 18) fd_8_1 rf_0_1 (Or.inl fl_X8_16) ho_0 (mj_dt dt_X8_image 1 rfl) ?_
  refine mj_go_aload_n (k := 0) (x := 0) rfl (mj_dt dt_X8_image 2 rfl) ?_
  refine ml_getR (c := 8) (k := 0) (q := 1) fd_8_0 rf_0_0 (Or.inl fl_X8_12) ho_0 (mj_dt dt_X8_image 3 rfl) ?_
  obtain ⟨r1, er1, h⟩ := mj_bind_some h
  refine ml_callV (Y' := mY_X7_becomeLike) (as := [.ref 1]) (rest := []) (c := 7) (v := none) (M1 := (mj_fin r1)) ho_18 rfl lm_X8_352 wc_X7_becomeLike pl_X7_becomeLike ok_X7_becomeLike rfl rfl (Nat.le_of_ble_eq_true rfl) (k_X7_becomeLike_18_1 (by omega) er1) (mj_dt dt_X8_image 4 rfl) ?_
  refine mj_go_aload_n (k := 0) (x := 0) rfl (mj_dt dt_X8_image 5 rfl) ?_
  refine mj_go_iconst (v := 1) rfl (mj_dt dt_X8_image 6 rfl) ?_
  obtain ⟨m2, em2, h⟩ := mj_mw_some h
  refine ml_putZ (c := 8) (k := 10) rfl fd_8_10 rfl fl_X8_73 ho_0 (mj_dt dt_X8_image 7 rfl) ?_
  refine ml_eqm (M1 := (mj_fin m2)) (by rw [em2] <;> rfl) ?_
  refine mj_go_aload_n (k := 0) (x := 0) rfl (mj_dt dt_X8_image 8 rfl) ?_
  refine ml_getR (c := 8) (k := 0) (q := 1) fd_8_0 rf_0_0 (Or.inl fl_X8_12) ho_0 (mj_dt dt_X8_image 9 rfl) ?_
  refine mk_getI (c := 7) (k := 13) (Or.inl fd_7_13) (Or.inl fl_X8_355) ho_1 (mj_dt dt_X8_image 10 rfl) ?_
  obtain rfl := Option.some.inj h
  exact mj_go_ret (v := some (.int (m2.1 1 13))) (Nat.le_of_ble_eq_true rfl) (mj_retI (mj_dt dt_X8_image 11 rfl) rfl)
def f_X9_image (N : Nat) (m : mj_m) : Option (Int32 × mj_m) := mj_mw (mj_wI m 95 55 1) (fun m1 => (f_X9_all N 119 0 m1).bind (fun r2 => some (r2.1 95 7, r2)))
theorem k_X9_image {L : Nat} {xs : Nat → Int32} {δ N : Nat} {m : mj_m} (hδ : 2 ≤ δ) {a : Int32 × mj_m} (h : f_X9_image N m = some a) : mj_Cl (mj_EX L xs) δ mY_X9_image [.ref 95] (mj_fin m) (some (.int a.1), (mj_fin a.2)) := by
  obtain ⟨δ, rfl⟩ : ∃ d, δ = d + 1 := ⟨δ - 1, by omega⟩
  have hδ : 1 ≤ δ := by omega
  refine mj_cl_of ok_X9_image (Nat.le_of_ble_eq_true rfl) ?_
  unfold f_X9_image at h
  refine mj_go_aload_n (k := 0) (x := 95) rfl (mj_dt dt_X9_image 0 rfl) ?_
  refine mj_go_iconst (v := 1) rfl (mj_dt dt_X9_image 1 rfl) ?_
  obtain ⟨m1, em1, h⟩ := mj_mw_some h
  refine ml_putZ (c := 9) (k := 55) rfl fd_9_55 rfl fl_X9_346 ho_95 (mj_dt dt_X9_image 2 rfl) ?_
  refine ml_eqm (M1 := (mj_fin m1)) (by rw [em1] <;> rfl) ?_
  refine mj_go_aload_n (k := 0) (x := 95) rfl (mj_dt dt_X9_image 3 rfl) ?_
  refine mj_go_aload_n (k := 0) (x := 95) rfl (mj_dt dt_X9_image 4 rfl) ?_
  refine ml_getR (c := 9) (k := 39) (q := 119) fd_9_39 rf_95_39 (Or.inl fl_X9_96) ho_95 (mj_dt dt_X9_image 5 rfl) ?_
  refine mj_go_iconst (v := 0) rfl (mj_dt dt_X9_image 6 rfl) ?_
  obtain ⟨r2, er2, h⟩ := mj_bind_some h
  refine ml_callV (Y' := mY_X9_all) (as := [.ref 119, .int 0]) (rest := []) (c := 9) (v := none) (M1 := (mj_fin r2)) ho_95 rfl lm_X9_227 wc_X9_all pl_X9_all ok_X9_all rfl rfl (Nat.le_of_ble_eq_true rfl) (k_X9_all (by omega) er2) (mj_dt dt_X9_image 7 rfl) ?_
  refine mj_go_aload_n (k := 0) (x := 95) rfl (mj_dt dt_X9_image 8 rfl) ?_
  refine mk_getI (c := 9) (k := 7) (Or.inl fd_9_7) (Or.inl fl_X9_221) ho_95 (mj_dt dt_X9_image 9 rfl) ?_
  obtain rfl := Option.some.inj h
  exact mj_go_ret (v := some (.int (r2.1 95 7))) (Nat.le_of_ble_eq_true rfl) (mj_retI (mj_dt dt_X9_image 10 rfl) rfl)
def f_X7_becomeLike_1_18_32 (N : Nat) (k_32 : Int32 × mj_m → Option (mj_m)) (s : Int32 × mj_m) : Option (mj_m) := if 10 ≤ s.1 then (mj_ck (mj_p 0 22 5 0 0 10) ( mj_mw (mj_kI s.2 22 5 ((0 : Int32).toNatClampNeg) ((0 : Int32).toNatClampNeg) ((10 : Int32).toNatClampNeg)) (fun m3 => mj_ck (mj_p 0 23 6 0 0 4) ( mj_mw (mj_kI m3 23 6 ((0 : Int32).toNatClampNeg) ((0 : Int32).toNatClampNeg) ((4 : Int32).toNatClampNeg)) (fun m5 => mj_ck (mj_p 0 24 7 0 0 4) ( mj_mw (mj_kI m5 24 7 ((0 : Int32).toNatClampNeg) ((0 : Int32).toNatClampNeg) ((4 : Int32).toNatClampNeg)) (fun m7 => mj_mw (mj_wI m7 1 6 (m7.1 18 6)) (fun m8 => mj_mw (mj_wI m8 1 7 (m8.1 18 7)) (fun m9 => mj_mw (mj_wI m9 1 8 (m9.1 18 8)) (fun m10 => mj_mw (mj_wI m10 1 9 (m10.1 18 9)) (fun m11 => mj_mw (mj_wI m11 1 10 (m11.1 18 10)) (fun m12 => mj_mw (mj_wI m12 1 11 (m12.1 18 11)) (fun m13 => mj_mw (mj_wI m13 1 12 (m13.1 18 12)) (fun m14 => mj_mw (mj_wI m14 1 13 (m14.1 18 13)) (fun m15 => mj_mw (mj_wI m15 1 14 (m15.1 18 14)) (fun m16 => mj_mw (mj_wI m16 1 15 (m16.1 18 15)) (fun m17 => some m17))))))))))))))))) else (mj_ck (mj_b 2 4 s.1) ( mj_ck (mj_b 2 21 s.1) ( (f_X1_becomeLike N (8 + s.1.toNatClampNeg) (25 + s.1.toNatClampNeg) s.2).bind (fun r4 => mj_mw (s.1 + 1) (fun x5 => k_32 (x5, r4))))))
theorem k_X7_becomeLike_1_18_32 {L : Nat} {xs : Nat → Int32} {δ N : Nat} (hδ : 0 ≤ δ) : ∀ (n : Nat) (s : Int32 × mj_m) (a : mj_m), mj_lp n (f_X7_becomeLike_1_18_32 N) s = some a → mj_Go (mj_EX L xs) (δ + 1) mY_X7_becomeLike 32 [(0, .ref 1), (1, .ref 18), (2, .int s.1)] [] (mj_fin s.2) (none, (mj_fin a)) := by
  refine mj_lp_sound (fun k_32 s a q_32 h => ?_)
  unfold f_X7_becomeLike_1_18_32 at h
  refine mj_go_iload_n (k := 2) (x := s.1) rfl (mj_dt dt_X7_becomeLike 18 rfl) ?_
  refine mj_go_bipush (v := 10) rfl (mj_dt dt_X7_becomeLike 19 rfl) ?_
  refine mj_go_icmp_ge (tgt := 59) rfl (mj_dt dt_X7_becomeLike 20 rfl) (fun b1 => ?_) (fun b1 => ?_)
  · rw [if_pos b1] at h
    refine mj_go_aload_n (k := 1) (x := 18) rfl (mj_dt dt_X7_becomeLike 32 rfl) ?_
    refine ml_getR (c := 7) (k := 3) (q := 22) fd_7_3 rf_18_3 (Or.inl fl_X7_24) ho_18 (mj_dt dt_X7_becomeLike 33 rfl) ?_
    refine mj_go_iconst (v := 0) rfl (mj_dt dt_X7_becomeLike 34 rfl) ?_
    refine mj_go_aload_n (k := 0) (x := 1) rfl (mj_dt dt_X7_becomeLike 35 rfl) ?_
    refine ml_getR (c := 7) (k := 3) (q := 5) fd_7_3 rf_1_3 (Or.inl fl_X7_24) ho_1 (mj_dt dt_X7_becomeLike 36 rfl) ?_
    refine mj_go_iconst (v := 0) rfl (mj_dt dt_X7_becomeLike 37 rfl) ?_
    refine mj_go_bipush (v := 10) rfl (mj_dt dt_X7_becomeLike 38 rfl) ?_
    obtain ⟨c2, h⟩ := mj_ck_some h
    obtain ⟨m3, em3, h⟩ := mj_mw_some h
    refine ml_cpyI hm_X7_65 (Nat.le_of_ble_eq_true rfl) c2 (mj_dt dt_X7_becomeLike 39 rfl) ?_
    refine ml_eqm (M1 := (mj_fin m3)) (by rw [em3] <;> rfl) ?_
    refine mj_go_aload_n (k := 1) (x := 18) rfl (mj_dt dt_X7_becomeLike 40 rfl) ?_
    refine ml_getR (c := 7) (k := 4) (q := 23) fd_7_4 rf_18_4 (Or.inl fl_X7_27) ho_18 (mj_dt dt_X7_becomeLike 41 rfl) ?_
    refine mj_go_iconst (v := 0) rfl (mj_dt dt_X7_becomeLike 42 rfl) ?_
    refine mj_go_aload_n (k := 0) (x := 1) rfl (mj_dt dt_X7_becomeLike 43 rfl) ?_
    refine ml_getR (c := 7) (k := 4) (q := 6) fd_7_4 rf_1_4 (Or.inl fl_X7_27) ho_1 (mj_dt dt_X7_becomeLike 44 rfl) ?_
    refine mj_go_iconst (v := 0) rfl (mj_dt dt_X7_becomeLike 45 rfl) ?_
    refine mj_go_iconst (v := 4) rfl (mj_dt dt_X7_becomeLike 46 rfl) ?_
    obtain ⟨c4, h⟩ := mj_ck_some h
    obtain ⟨m5, em5, h⟩ := mj_mw_some h
    refine ml_cpyI hm_X7_65 (Nat.le_of_ble_eq_true rfl) c4 (mj_dt dt_X7_becomeLike 47 rfl) ?_
    refine ml_eqm (M1 := (mj_fin m5)) (by rw [em5] <;> rfl) ?_
    refine mj_go_aload_n (k := 1) (x := 18) rfl (mj_dt dt_X7_becomeLike 48 rfl) ?_
    refine ml_getR (c := 7) (k := 5) (q := 24) fd_7_5 rf_18_5 (Or.inl fl_X7_30) ho_18 (mj_dt dt_X7_becomeLike 49 rfl) ?_
    refine mj_go_iconst (v := 0) rfl (mj_dt dt_X7_becomeLike 50 rfl) ?_
    refine mj_go_aload_n (k := 0) (x := 1) rfl (mj_dt dt_X7_becomeLike 51 rfl) ?_
    refine ml_getR (c := 7) (k := 5) (q := 7) fd_7_5 rf_1_5 (Or.inl fl_X7_30) ho_1 (mj_dt dt_X7_becomeLike 52 rfl) ?_
    refine mj_go_iconst (v := 0) rfl (mj_dt dt_X7_becomeLike 53 rfl) ?_
    refine mj_go_iconst (v := 4) rfl (mj_dt dt_X7_becomeLike 54 rfl) ?_
    obtain ⟨c6, h⟩ := mj_ck_some h
    obtain ⟨m7, em7, h⟩ := mj_mw_some h
    refine ml_cpyI hm_X7_65 (Nat.le_of_ble_eq_true rfl) c6 (mj_dt dt_X7_becomeLike 55 rfl) ?_
    refine ml_eqm (M1 := (mj_fin m7)) (by rw [em7] <;> rfl) ?_
    refine mj_go_aload_n (k := 0) (x := 1) rfl (mj_dt dt_X7_becomeLike 56 rfl) ?_
    refine mj_go_aload_n (k := 1) (x := 18) rfl (mj_dt dt_X7_becomeLike 57 rfl) ?_
    refine mk_getI (c := 7) (k := 6) (Or.inl fd_7_6) (Or.inl fl_X7_33) ho_18 (mj_dt dt_X7_becomeLike 58 rfl) ?_
    obtain ⟨m8, em8, h⟩ := mj_mw_some h
    refine ml_putI (c := 7) (k := 6) fd_7_6 rfl fl_X7_33 ho_1 (mj_dt dt_X7_becomeLike 59 rfl) ?_
    refine ml_eqm (M1 := (mj_fin m8)) (by rw [em8] <;> rfl) ?_
    refine mj_go_aload_n (k := 0) (x := 1) rfl (mj_dt dt_X7_becomeLike 60 rfl) ?_
    refine mj_go_aload_n (k := 1) (x := 18) rfl (mj_dt dt_X7_becomeLike 61 rfl) ?_
    refine mk_getI (c := 7) (k := 7) (Or.inl fd_7_7) (Or.inl fl_X7_37) ho_18 (mj_dt dt_X7_becomeLike 62 rfl) ?_
    obtain ⟨m9, em9, h⟩ := mj_mw_some h
    refine ml_putI (c := 7) (k := 7) fd_7_7 rfl fl_X7_37 ho_1 (mj_dt dt_X7_becomeLike 63 rfl) ?_
    refine ml_eqm (M1 := (mj_fin m9)) (by rw [em9] <;> rfl) ?_
    refine mj_go_aload_n (k := 0) (x := 1) rfl (mj_dt dt_X7_becomeLike 64 rfl) ?_
    refine mj_go_aload_n (k := 1) (x := 18) rfl (mj_dt dt_X7_becomeLike 65 rfl) ?_
    refine mk_getI (c := 7) (k := 8) (Or.inl fd_7_8) (Or.inl fl_X7_40) ho_18 (mj_dt dt_X7_becomeLike 66 rfl) ?_
    obtain ⟨m10, em10, h⟩ := mj_mw_some h
    refine ml_putI (c := 7) (k := 8) fd_7_8 rfl fl_X7_40 ho_1 (mj_dt dt_X7_becomeLike 67 rfl) ?_
    refine ml_eqm (M1 := (mj_fin m10)) (by rw [em10] <;> rfl) ?_
    refine mj_go_aload_n (k := 0) (x := 1) rfl (mj_dt dt_X7_becomeLike 68 rfl) ?_
    refine mj_go_aload_n (k := 1) (x := 18) rfl (mj_dt dt_X7_becomeLike 69 rfl) ?_
    refine mk_getI (c := 7) (k := 9) (Or.inl fd_7_9) (Or.inl fl_X7_43) ho_18 (mj_dt dt_X7_becomeLike 70 rfl) ?_
    obtain ⟨m11, em11, h⟩ := mj_mw_some h
    refine ml_putI (c := 7) (k := 9) fd_7_9 rfl fl_X7_43 ho_1 (mj_dt dt_X7_becomeLike 71 rfl) ?_
    refine ml_eqm (M1 := (mj_fin m11)) (by rw [em11] <;> rfl) ?_
    refine mj_go_aload_n (k := 0) (x := 1) rfl (mj_dt dt_X7_becomeLike 72 rfl) ?_
    refine mj_go_aload_n (k := 1) (x := 18) rfl (mj_dt dt_X7_becomeLike 73 rfl) ?_
    refine mk_getI (c := 7) (k := 10) (Or.inl fd_7_10) (Or.inl fl_X7_46) ho_18 (mj_dt dt_X7_becomeLike 74 rfl) ?_
    obtain ⟨m12, em12, h⟩ := mj_mw_some h
    refine ml_putI (c := 7) (k := 10) fd_7_10 rfl fl_X7_46 ho_1 (mj_dt dt_X7_becomeLike 75 rfl) ?_
    refine ml_eqm (M1 := (mj_fin m12)) (by rw [em12] <;> rfl) ?_
    refine mj_go_aload_n (k := 0) (x := 1) rfl (mj_dt dt_X7_becomeLike 76 rfl) ?_
    refine mj_go_aload_n (k := 1) (x := 18) rfl (mj_dt dt_X7_becomeLike 77 rfl) ?_
    refine mk_getI (c := 7) (k := 11) (Or.inl fd_7_11) (Or.inl fl_X7_49) ho_18 (mj_dt dt_X7_becomeLike 78 rfl) ?_
    obtain ⟨m13, em13, h⟩ := mj_mw_some h
    refine ml_putI (c := 7) (k := 11) fd_7_11 rfl fl_X7_49 ho_1 (mj_dt dt_X7_becomeLike 79 rfl) ?_
    refine ml_eqm (M1 := (mj_fin m13)) (by rw [em13] <;> rfl) ?_
    refine mj_go_aload_n (k := 0) (x := 1) rfl (mj_dt dt_X7_becomeLike 80 rfl) ?_
    refine mj_go_aload_n (k := 1) (x := 18) rfl (mj_dt dt_X7_becomeLike 81 rfl) ?_
    refine mk_getI (c := 7) (k := 12) (Or.inl fd_7_12) (Or.inl fl_X7_52) ho_18 (mj_dt dt_X7_becomeLike 82 rfl) ?_
    obtain ⟨m14, em14, h⟩ := mj_mw_some h
    refine ml_putI (c := 7) (k := 12) fd_7_12 rfl fl_X7_52 ho_1 (mj_dt dt_X7_becomeLike 83 rfl) ?_
    refine ml_eqm (M1 := (mj_fin m14)) (by rw [em14] <;> rfl) ?_
    refine mj_go_aload_n (k := 0) (x := 1) rfl (mj_dt dt_X7_becomeLike 84 rfl) ?_
    refine mj_go_aload_n (k := 1) (x := 18) rfl (mj_dt dt_X7_becomeLike 85 rfl) ?_
    refine mk_getI (c := 7) (k := 13) (Or.inl fd_7_13) (Or.inl fl_X7_55) ho_18 (mj_dt dt_X7_becomeLike 86 rfl) ?_
    obtain ⟨m15, em15, h⟩ := mj_mw_some h
    refine ml_putI (c := 7) (k := 13) fd_7_13 rfl fl_X7_55 ho_1 (mj_dt dt_X7_becomeLike 87 rfl) ?_
    refine ml_eqm (M1 := (mj_fin m15)) (by rw [em15] <;> rfl) ?_
    refine mj_go_aload_n (k := 0) (x := 1) rfl (mj_dt dt_X7_becomeLike 88 rfl) ?_
    refine mj_go_aload_n (k := 1) (x := 18) rfl (mj_dt dt_X7_becomeLike 89 rfl) ?_
    refine mk_getI (c := 7) (k := 14) (Or.inl fd_7_14) (Or.inl fl_X7_58) ho_18 (mj_dt dt_X7_becomeLike 90 rfl) ?_
    obtain ⟨m16, em16, h⟩ := mj_mw_some h
    refine ml_putI (c := 7) (k := 14) fd_7_14 rfl fl_X7_58 ho_1 (mj_dt dt_X7_becomeLike 91 rfl) ?_
    refine ml_eqm (M1 := (mj_fin m16)) (by rw [em16] <;> rfl) ?_
    refine mj_go_aload_n (k := 0) (x := 1) rfl (mj_dt dt_X7_becomeLike 92 rfl) ?_
    refine mj_go_aload_n (k := 1) (x := 18) rfl (mj_dt dt_X7_becomeLike 93 rfl) ?_
    refine mk_getI (c := 7) (k := 15) (Or.inl fd_7_15) (Or.inl fl_X7_61) ho_18 (mj_dt dt_X7_becomeLike 94 rfl) ?_
    obtain ⟨m17, em17, h⟩ := mj_mw_some h
    refine ml_putI (c := 7) (k := 15) fd_7_15 rfl fl_X7_61 ho_1 (mj_dt dt_X7_becomeLike 95 rfl) ?_
    refine ml_eqm (M1 := (mj_fin m17)) (by rw [em17] <;> rfl) ?_
    obtain rfl := Option.some.inj h
    exact mj_go_ret (v := none) (Nat.le_of_ble_eq_true rfl) (mj_retV (mj_dt dt_X7_becomeLike 96 rfl) rfl)
  · rw [if_neg b1] at h
    refine mj_go_aload_n (k := 0) (x := 1) rfl (mj_dt dt_X7_becomeLike 21 rfl) ?_
    refine ml_getR (c := 7) (k := 2) (q := 4) fd_7_2 rf_1_2 (Or.inl fl_X7_20) ho_1 (mj_dt dt_X7_becomeLike 22 rfl) ?_
    refine mj_go_iload_n (k := 2) (x := s.1) rfl (mj_dt dt_X7_becomeLike 23 rfl) ?_
    obtain ⟨c2, h⟩ := mj_ck_some h
    refine ml_aald2 (q := 8 + s.1.toNatClampNeg) c2 (mj_hs4 c2).1 (mj_dt dt_X7_becomeLike 24 rfl) ?_
    refine mj_go_aload_n (k := 1) (x := 18) rfl (mj_dt dt_X7_becomeLike 25 rfl) ?_
    refine ml_getR (c := 7) (k := 2) (q := 21) fd_7_2 rf_18_2 (Or.inl fl_X7_20) ho_18 (mj_dt dt_X7_becomeLike 26 rfl) ?_
    refine mj_go_iload_n (k := 2) (x := s.1) rfl (mj_dt dt_X7_becomeLike 27 rfl) ?_
    obtain ⟨c3, h⟩ := mj_ck_some h
    refine ml_aald2 (q := 25 + s.1.toNatClampNeg) c3 (mj_hs21 c3).1 (mj_dt dt_X7_becomeLike 28 rfl) ?_
    obtain ⟨r4, er4, h⟩ := mj_bind_some h
    refine ml_callV (Y' := mY_X1_becomeLike) (as := [.ref (25 + s.1.toNatClampNeg)]) (rest := []) (c := 1) (v := none) (M1 := (mj_fin r4)) (mj_hs4 c2).2 rfl lm_X7_71 wc_X1_becomeLike pl_X1_becomeLike ok_X1_becomeLike rfl rfl (Nat.le_of_ble_eq_true rfl) (k_X1_becomeLike (by omega) er4) (mj_dt dt_X7_becomeLike 29 rfl) ?_
    obtain ⟨x5, ex5, h⟩ := mj_mw_some h
    refine mj_go_iinc (i := 2) (x := s.1) (v := x5) rfl (by rw [ex5] <;> rfl) (by decide) (mj_dt dt_X7_becomeLike 30 rfl) ?_
    refine mj_go_goto (tgt := 32) rfl (mj_dt dt_X7_becomeLike 31 rfl) ?_
    refine mj_go_sub (lv' := [(0, .ref 1), (1, .ref 18), (2, .int x5)]) (List.forall_mem_cons.mpr ⟨rfl, (List.forall_mem_cons.mpr ⟨rfl, (List.forall_mem_cons.mpr ⟨rfl, (fun _ h9 => absurd h9 List.not_mem_nil)⟩)⟩)⟩) ?_
    exact q_32 _ _ h
def f_X7_becomeLike_1_18 (N : Nat) (m : mj_m) : Option (mj_m) := mj_ck (mj_p 0 19 2 0 0 12) ( mj_mw (mj_kI m 19 2 ((0 : Int32).toNatClampNeg) ((0 : Int32).toNatClampNeg) ((12 : Int32).toNatClampNeg)) (fun m2 => mj_ck (mj_p 0 20 3 0 0 12) ( mj_mw (mj_kI m2 20 3 ((0 : Int32).toNatClampNeg) ((0 : Int32).toNatClampNeg) ((12 : Int32).toNatClampNeg)) (fun m4 => mj_lp N (f_X7_becomeLike_1_18_32 N) (0, m4)))))
theorem k_X7_becomeLike_1_18 {L : Nat} {xs : Nat → Int32} {δ N : Nat} {m : mj_m} (hδ : 1 ≤ δ) {a : mj_m} (h : f_X7_becomeLike_1_18 N m = some a) : mj_Cl (mj_EX L xs) δ mY_X7_becomeLike [.ref 1, .ref 18] (mj_fin m) (none, (mj_fin a)) := by
  obtain ⟨δ, rfl⟩ : ∃ d, δ = d + 1 := ⟨δ - 1, by omega⟩
  have hδ : 0 ≤ δ := by omega
  refine mj_cl_of ok_X7_becomeLike (Nat.le_of_ble_eq_true rfl) ?_
  unfold f_X7_becomeLike_1_18 at h
  refine mj_go_aload_n (k := 1) (x := 18) rfl (mj_dt dt_X7_becomeLike 0 rfl) ?_
  refine ml_getR (c := 7) (k := 0) (q := 19) fd_7_0 rf_18_0 (Or.inl fl_X7_9) ho_18 (mj_dt dt_X7_becomeLike 1 rfl) ?_
  refine mj_go_iconst (v := 0) rfl (mj_dt dt_X7_becomeLike 2 rfl) ?_
  refine mj_go_aload_n (k := 0) (x := 1) rfl (mj_dt dt_X7_becomeLike 3 rfl) ?_
  refine ml_getR (c := 7) (k := 0) (q := 2) fd_7_0 rf_1_0 (Or.inl fl_X7_9) ho_1 (mj_dt dt_X7_becomeLike 4 rfl) ?_
  refine mj_go_iconst (v := 0) rfl (mj_dt dt_X7_becomeLike 5 rfl) ?_
  refine mj_go_bipush (v := 12) rfl (mj_dt dt_X7_becomeLike 6 rfl) ?_
  obtain ⟨c1, h⟩ := mj_ck_some h
  obtain ⟨m2, em2, h⟩ := mj_mw_some h
  refine ml_cpyI hm_X7_65 (Nat.le_of_ble_eq_true rfl) c1 (mj_dt dt_X7_becomeLike 7 rfl) ?_
  refine ml_eqm (M1 := (mj_fin m2)) (by rw [em2] <;> rfl) ?_
  refine mj_go_aload_n (k := 1) (x := 18) rfl (mj_dt dt_X7_becomeLike 8 rfl) ?_
  refine ml_getR (c := 7) (k := 1) (q := 20) fd_7_1 rf_18_1 (Or.inl fl_X7_15) ho_18 (mj_dt dt_X7_becomeLike 9 rfl) ?_
  refine mj_go_iconst (v := 0) rfl (mj_dt dt_X7_becomeLike 10 rfl) ?_
  refine mj_go_aload_n (k := 0) (x := 1) rfl (mj_dt dt_X7_becomeLike 11 rfl) ?_
  refine ml_getR (c := 7) (k := 1) (q := 3) fd_7_1 rf_1_1 (Or.inl fl_X7_15) ho_1 (mj_dt dt_X7_becomeLike 12 rfl) ?_
  refine mj_go_iconst (v := 0) rfl (mj_dt dt_X7_becomeLike 13 rfl) ?_
  refine mj_go_bipush (v := 12) rfl (mj_dt dt_X7_becomeLike 14 rfl) ?_
  obtain ⟨c3, h⟩ := mj_ck_some h
  obtain ⟨m4, em4, h⟩ := mj_mw_some h
  refine ml_cpyI hm_X7_65 (Nat.le_of_ble_eq_true rfl) c3 (mj_dt dt_X7_becomeLike 15 rfl) ?_
  refine ml_eqm (M1 := (mj_fin m4)) (by rw [em4] <;> rfl) ?_
  refine mj_go_iconst (v := 0) rfl (mj_dt dt_X7_becomeLike 16 rfl) ?_
  refine mj_go_istore_n (k := 2) (by decide) (mj_dt dt_X7_becomeLike 17 rfl) ?_
  refine mj_go_sub (lv' := [(0, .ref 1), (1, .ref 18), (2, .int 0)]) (List.forall_mem_cons.mpr ⟨rfl, (List.forall_mem_cons.mpr ⟨rfl, (List.forall_mem_cons.mpr ⟨rfl, (fun _ h9 => absurd h9 List.not_mem_nil)⟩)⟩)⟩) ?_
  exact k_X7_becomeLike_1_18_32 hδ N _ _ h
def f_X8_restore (N : Nat) (m : mj_m) : Option (Int32 × mj_m) := if (m.1 0 10) = 0 then ((f_X8_refuse N 6 m).bind (fun r2 => some (r2.1, r2.2))) else ((f_X7_becomeLike_1_18 N m).bind (fun r2 => some (r2.1 1 13, r2)))
theorem k_X8_restore {L : Nat} {xs : Nat → Int32} {δ N : Nat} {m : mj_m} (hδ : 2 ≤ δ) {a : Int32 × mj_m} (h : f_X8_restore N m = some a) : mj_Cl (mj_EX L xs) δ mY_X8_restore [.ref 0] (mj_fin m) (some (.int a.1), (mj_fin a.2)) := by
  obtain ⟨δ, rfl⟩ : ∃ d, δ = d + 1 := ⟨δ - 1, by omega⟩
  have hδ : 1 ≤ δ := by omega
  refine mj_cl_of ok_X8_restore (Nat.le_of_ble_eq_true rfl) ?_
  unfold f_X8_restore at h
  refine mj_go_aload_n (k := 0) (x := 0) rfl (mj_dt dt_X8_restore 0 rfl) ?_
  refine mk_getI (c := 8) (k := 10) (Or.inr fd_8_10) (Or.inl fl_X8_73) ho_0 (mj_dt dt_X8_restore 1 rfl) ?_
  refine mj_go_if_ne (tgt := 14) rfl (mj_dt dt_X8_restore 2 rfl) (fun b1 => ?_) (fun b1 => ?_)
  · rw [if_neg b1] at h
    refine mj_go_aload_n (k := 0) (x := 0) rfl (mj_dt dt_X8_restore 7 rfl) ?_
    refine ml_getR (c := 8) (k := 0) (q := 1) fd_8_0 rf_0_0 (Or.inl fl_X8_12) ho_0 (mj_dt dt_X8_restore 8 rfl) ?_
    refine mj_go_aload_n (k := 0) (x := 0) rfl (mj_dt dt_X8_restore 9 rfl) ?_
    refine ml_getR (c := 8) (k := 1) (q := 18) fd_8_1 rf_0_1 (Or.inl fl_X8_16) ho_0 (mj_dt dt_X8_restore 10 rfl) ?_
    obtain ⟨r2, er2, h⟩ := mj_bind_some h
    refine ml_callV (Y' := mY_X7_becomeLike) (as := [.ref 18]) (rest := []) (c := 7) (v := none) (M1 := (mj_fin r2)) ho_1 rfl lm_X8_352 wc_X7_becomeLike pl_X7_becomeLike ok_X7_becomeLike rfl rfl (Nat.le_of_ble_eq_true rfl) (k_X7_becomeLike_1_18 (by omega) er2) (mj_dt dt_X8_restore 11 rfl) ?_
    refine mj_go_aload_n (k := 0) (x := 0) rfl (mj_dt dt_X8_restore 12 rfl) ?_
    refine ml_getR (c := 8) (k := 0) (q := 1) fd_8_0 rf_0_0 (Or.inl fl_X8_12) ho_0 (mj_dt dt_X8_restore 13 rfl) ?_
    refine mk_getI (c := 7) (k := 13) (Or.inl fd_7_13) (Or.inl fl_X8_355) ho_1 (mj_dt dt_X8_restore 14 rfl) ?_
    obtain rfl := Option.some.inj h
    exact mj_go_ret (v := some (.int (r2.1 1 13))) (Nat.le_of_ble_eq_true rfl) (mj_retI (mj_dt dt_X8_restore 15 rfl) rfl)
  · rw [if_pos b1] at h
    refine mj_go_aload_n (k := 0) (x := 0) rfl (mj_dt dt_X8_restore 3 rfl) ?_
    refine mj_go_bipush (v := 6) rfl (mj_dt dt_X8_restore 4 rfl) ?_
    obtain ⟨r2, er2, h⟩ := mj_bind_some h
    refine ml_callV (Y' := mY_X8_refuse) (as := [.int 6]) (rest := []) (c := 8) (v := (some (.int r2.1))) (M1 := (mj_fin r2.2)) ho_0 rfl lm_X8_86 wc_X8_refuse pl_X8_refuse ok_X8_refuse rfl rfl (Nat.le_of_ble_eq_true rfl) (k_X8_refuse (by omega) er2) (mj_dt dt_X8_restore 5 rfl) ?_
    obtain rfl := Option.some.inj h
    exact mj_go_ret (v := some (.int r2.1)) (Nat.le_of_ble_eq_true rfl) (mj_retI (mj_dt dt_X8_restore 6 rfl) rfl)
def f_X9_restore (N : Nat) (m : mj_m) : Option (Int32 × mj_m) := if (m.1 95 55) = 0 then ((f_X9_no N (-6 : Int32) m).bind (fun r2 => some (r2.1, r2.2))) else ((f_X9_all N 119 1 m).bind (fun r2 => some (r2.1 95 7, r2)))
theorem k_X9_restore {L : Nat} {xs : Nat → Int32} {δ N : Nat} {m : mj_m} (hδ : 2 ≤ δ) {a : Int32 × mj_m} (h : f_X9_restore N m = some a) : mj_Cl (mj_EX L xs) δ mY_X9_restore [.ref 95] (mj_fin m) (some (.int a.1), (mj_fin a.2)) := by
  obtain ⟨δ, rfl⟩ : ∃ d, δ = d + 1 := ⟨δ - 1, by omega⟩
  have hδ : 1 ≤ δ := by omega
  refine mj_cl_of ok_X9_restore (Nat.le_of_ble_eq_true rfl) ?_
  unfold f_X9_restore at h
  refine mj_go_aload_n (k := 0) (x := 95) rfl (mj_dt dt_X9_restore 0 rfl) ?_
  refine mk_getI (c := 9) (k := 55) (Or.inr fd_9_55) (Or.inl fl_X9_346) ho_95 (mj_dt dt_X9_restore 1 rfl) ?_
  refine mj_go_if_ne (tgt := 14) rfl (mj_dt dt_X9_restore 2 rfl) (fun b1 => ?_) (fun b1 => ?_)
  · rw [if_neg b1] at h
    refine mj_go_aload_n (k := 0) (x := 95) rfl (mj_dt dt_X9_restore 7 rfl) ?_
    refine mj_go_aload_n (k := 0) (x := 95) rfl (mj_dt dt_X9_restore 8 rfl) ?_
    refine ml_getR (c := 9) (k := 39) (q := 119) fd_9_39 rf_95_39 (Or.inl fl_X9_96) ho_95 (mj_dt dt_X9_restore 9 rfl) ?_
    refine mj_go_iconst (v := 1) rfl (mj_dt dt_X9_restore 10 rfl) ?_
    obtain ⟨r2, er2, h⟩ := mj_bind_some h
    refine ml_callV (Y' := mY_X9_all) (as := [.ref 119, .int 1]) (rest := []) (c := 9) (v := none) (M1 := (mj_fin r2)) ho_95 rfl lm_X9_227 wc_X9_all pl_X9_all ok_X9_all rfl rfl (Nat.le_of_ble_eq_true rfl) (k_X9_all (by omega) er2) (mj_dt dt_X9_restore 11 rfl) ?_
    refine mj_go_aload_n (k := 0) (x := 95) rfl (mj_dt dt_X9_restore 12 rfl) ?_
    refine mk_getI (c := 9) (k := 7) (Or.inl fd_9_7) (Or.inl fl_X9_221) ho_95 (mj_dt dt_X9_restore 13 rfl) ?_
    obtain rfl := Option.some.inj h
    exact mj_go_ret (v := some (.int (r2.1 95 7))) (Nat.le_of_ble_eq_true rfl) (mj_retI (mj_dt dt_X9_restore 14 rfl) rfl)
  · rw [if_pos b1] at h
    refine mj_go_aload_n (k := 0) (x := 95) rfl (mj_dt dt_X9_restore 3 rfl) ?_
    refine mj_go_bipush (v := -6) rfl (mj_dt dt_X9_restore 4 rfl) ?_
    obtain ⟨r2, er2, h⟩ := mj_bind_some h
    refine ml_callV (Y' := mY_X9_no) (as := [.int (-6 : Int32)]) (rest := []) (c := 9) (v := (some (.int r2.1))) (M1 := (mj_fin r2.2)) ho_95 rfl lm_X9_134 wc_X9_no pl_X9_no ok_X9_no rfl rfl (Nat.le_of_ble_eq_true rfl) (k_X9_no (by omega) er2) (mj_dt dt_X9_restore 5 rfl) ?_
    obtain rfl := Option.some.inj h
    exact mj_go_ret (v := some (.int r2.1)) (Nat.le_of_ble_eq_true rfl) (mj_retI (mj_dt dt_X9_restore 6 rfl) rfl)
def f_X7_allSteps_4 (N : Nat) (m : mj_m) (k_4 : Int32 × Int32 → Option (Int32)) (s : Int32 × Int32) : Option (Int32) := if (m.1 1 7) ≤ s.2 then (some s.1) else (mj_ck (mj_b 0 5 s.2) ( mj_mw (s.1 + (m.1 5 s.2.toNatClampNeg)) (fun x3 => mj_mw (s.2 + 1) (fun x4 => k_4 (x3, x4)))))
theorem k_X7_allSteps_4 {L : Nat} {xs : Nat → Int32} {δ N : Nat} {m : mj_m} : ∀ (n : Nat) (s : Int32 × Int32) (a : Int32), mj_lp n (f_X7_allSteps_4 N m) s = some a → mj_Go (mj_EX L xs) δ mY_X7_allSteps 4 [(0, .ref 1), (1, .int s.1), (2, .int s.2)] [] (mj_fin m) (some (.int a), (mj_fin m)) := by
  refine mj_lp_sound (fun k_4 s a q_4 h => ?_)
  unfold f_X7_allSteps_4 at h
  refine mj_go_iload_n (k := 2) (x := s.2) rfl (mj_dt dt_X7_allSteps 4 rfl) ?_
  refine mj_go_aload_n (k := 0) (x := 1) rfl (mj_dt dt_X7_allSteps 5 rfl) ?_
  refine mk_getI (c := 7) (k := 7) (Or.inl fd_7_7) (Or.inl fl_X7_37) ho_1 (mj_dt dt_X7_allSteps 6 rfl) ?_
  refine mj_go_icmp_ge (tgt := 27) rfl (mj_dt dt_X7_allSteps 7 rfl) (fun b1 => ?_) (fun b1 => ?_)
  · rw [if_pos b1] at h
    refine mj_go_iload_n (k := 1) (x := s.1) rfl (mj_dt dt_X7_allSteps 17 rfl) ?_
    obtain rfl := Option.some.inj h
    exact mj_go_ret (v := some (.int s.1)) (Nat.le_of_ble_eq_true rfl) (mj_retI (mj_dt dt_X7_allSteps 18 rfl) rfl)
  · rw [if_neg b1] at h
    refine mj_go_iload_n (k := 1) (x := s.1) rfl (mj_dt dt_X7_allSteps 8 rfl) ?_
    refine mj_go_aload_n (k := 0) (x := 1) rfl (mj_dt dt_X7_allSteps 9 rfl) ?_
    refine ml_getR (c := 7) (k := 3) (q := 5) fd_7_3 rf_1_3 (Or.inl fl_X7_24) ho_1 (mj_dt dt_X7_allSteps 10 rfl) ?_
    refine mj_go_iload_n (k := 2) (x := s.2) rfl (mj_dt dt_X7_allSteps 11 rfl) ?_
    obtain ⟨c2, h⟩ := mj_ck_some h
    refine mk_iald c2 (mj_dt dt_X7_allSteps 12 rfl) ?_
    refine mj_go_iadd (mj_dt dt_X7_allSteps 13 rfl) ?_
    obtain ⟨x3, ex3, h⟩ := mj_mw_some h
    refine ml_eqi ex3 ?_
    refine mj_go_istore_n (k := 1) (by decide) (mj_dt dt_X7_allSteps 14 rfl) ?_
    obtain ⟨x4, ex4, h⟩ := mj_mw_some h
    refine mj_go_iinc (i := 2) (x := s.2) (v := x4) rfl (by rw [ex4] <;> rfl) (by decide) (mj_dt dt_X7_allSteps 15 rfl) ?_
    refine mj_go_goto (tgt := 4) rfl (mj_dt dt_X7_allSteps 16 rfl) ?_
    refine mj_go_sub (lv' := [(0, .ref 1), (1, .int x3), (2, .int x4)]) (List.forall_mem_cons.mpr ⟨rfl, (List.forall_mem_cons.mpr ⟨rfl, (List.forall_mem_cons.mpr ⟨rfl, (fun _ h9 => absurd h9 List.not_mem_nil)⟩)⟩)⟩) ?_
    exact q_4 _ _ h
def f_X7_allSteps (N : Nat) (m : mj_m) : Option (Int32) := mj_lp N (f_X7_allSteps_4 N m) (0, 0)
theorem k_X7_allSteps {L : Nat} {xs : Nat → Int32} {δ N : Nat} {m : mj_m} (_ : 0 ≤ δ) {a : Int32} (h : f_X7_allSteps N m = some a) : mj_Cl (mj_EX L xs) δ mY_X7_allSteps [.ref 1] (mj_fin m) (some (.int a), (mj_fin m)) := by
  refine mj_cl_of ok_X7_allSteps (Nat.le_of_ble_eq_true rfl) ?_
  unfold f_X7_allSteps at h
  refine mj_go_iconst (v := 0) rfl (mj_dt dt_X7_allSteps 0 rfl) ?_
  refine mj_go_istore_n (k := 1) (by decide) (mj_dt dt_X7_allSteps 1 rfl) ?_
  refine mj_go_iconst (v := 0) rfl (mj_dt dt_X7_allSteps 2 rfl) ?_
  refine mj_go_istore_n (k := 2) (by decide) (mj_dt dt_X7_allSteps 3 rfl) ?_
  refine mj_go_sub (lv' := [(0, .ref 1), (1, .int 0), (2, .int 0)]) (List.forall_mem_cons.mpr ⟨rfl, (List.forall_mem_cons.mpr ⟨rfl, (List.forall_mem_cons.mpr ⟨rfl, (fun _ h9 => absurd h9 List.not_mem_nil)⟩)⟩)⟩) ?_
  exact k_X7_allSteps_4 N _ _ h
def f_X8_status_22 (N : Nat) (v1 : Int32) (m : mj_m) : Option (Int32) := if v1 = 0 then (some (m.1 1 6)) else if v1 = 1 then (some (m.1 1 7)) else if v1 = 2 then (some (m.1 1 8)) else if v1 = 3 then ((f_X7_allSteps N m).bind (fun r5 => some r5)) else if v1 = 4 then (some (m.1 1 12)) else if v1 = 5 then (some (m.1 1 13)) else if v1 = 6 then (some (m.1 1 14)) else if v1 = 7 then (some (m.1 1 15)) else if v1 = 8 then (some (m.1 75 1)) else (some (-1 : Int32))
theorem k_X8_status_22 {L : Nat} {xs : Nat → Int32} {δ N : Nat} {v1 : Int32} {m : mj_m} (hδ : 0 ≤ δ) {a : Int32} (h : f_X8_status_22 N v1 m = some a) : mj_Go (mj_EX L xs) (δ + 1) mY_X8_status 22 [(0, .ref 0), (1, .int v1)] [] (mj_fin m) (some (.int a), (mj_fin m)) := by
  unfold f_X8_status_22 at h
  refine mj_go_iload_n (k := 1) (x := v1) rfl (mj_dt dt_X8_status 13 rfl) ?_
  refine mj_go_tsw [(0, 49), (1, 57), (2, 65), (3, 73), (4, 81), (5, 89), (6, 97), (7, 105), (8, 113)] (by decide) (by decide) (mj_dt dt_X8_status 14 rfl) ?_
  refine ⟨fun b1 => ?_, fun b1 => ?_⟩
  · rw [if_pos b1] at h
    refine ⟨72, by decide, ?_⟩
    refine mj_go_aload_n (k := 0) (x := 0) rfl (mj_dt dt_X8_status 15 rfl) ?_
    refine ml_getR (c := 8) (k := 0) (q := 1) fd_8_0 rf_0_0 (Or.inl fl_X8_12) ho_0 (mj_dt dt_X8_status 16 rfl) ?_
    refine mk_getI (c := 7) (k := 6) (Or.inl fd_7_6) (Or.inl fl_X8_358) ho_1 (mj_dt dt_X8_status 17 rfl) ?_
    obtain rfl := Option.some.inj h
    exact mj_go_ret (v := some (.int (m.1 1 6))) (Nat.le_of_ble_eq_true rfl) (mj_retI (mj_dt dt_X8_status 18 rfl) rfl)
  · rw [if_neg b1] at h
    refine ⟨fun b2 => ?_, fun b2 => ?_⟩
    · rw [if_pos b2] at h
      refine ⟨80, by decide, ?_⟩
      refine mj_go_aload_n (k := 0) (x := 0) rfl (mj_dt dt_X8_status 19 rfl) ?_
      refine ml_getR (c := 8) (k := 0) (q := 1) fd_8_0 rf_0_0 (Or.inl fl_X8_12) ho_0 (mj_dt dt_X8_status 20 rfl) ?_
      refine mk_getI (c := 7) (k := 7) (Or.inl fd_7_7) (Or.inl fl_X8_253) ho_1 (mj_dt dt_X8_status 21 rfl) ?_
      obtain rfl := Option.some.inj h
      exact mj_go_ret (v := some (.int (m.1 1 7))) (Nat.le_of_ble_eq_true rfl) (mj_retI (mj_dt dt_X8_status 22 rfl) rfl)
    · rw [if_neg b2] at h
      refine ⟨fun b3 => ?_, fun b3 => ?_⟩
      · rw [if_pos b3] at h
        refine ⟨88, by decide, ?_⟩
        refine mj_go_aload_n (k := 0) (x := 0) rfl (mj_dt dt_X8_status 23 rfl) ?_
        refine ml_getR (c := 8) (k := 0) (q := 1) fd_8_0 rf_0_0 (Or.inl fl_X8_12) ho_0 (mj_dt dt_X8_status 24 rfl) ?_
        refine mk_getI (c := 7) (k := 8) (Or.inl fd_7_8) (Or.inl fl_X8_361) ho_1 (mj_dt dt_X8_status 25 rfl) ?_
        obtain rfl := Option.some.inj h
        exact mj_go_ret (v := some (.int (m.1 1 8))) (Nat.le_of_ble_eq_true rfl) (mj_retI (mj_dt dt_X8_status 26 rfl) rfl)
      · rw [if_neg b3] at h
        refine ⟨fun b4 => ?_, fun b4 => ?_⟩
        · rw [if_pos b4] at h
          refine ⟨96, by decide, ?_⟩
          refine mj_go_aload_n (k := 0) (x := 0) rfl (mj_dt dt_X8_status 27 rfl) ?_
          refine ml_getR (c := 8) (k := 0) (q := 1) fd_8_0 rf_0_0 (Or.inl fl_X8_12) ho_0 (mj_dt dt_X8_status 28 rfl) ?_
          obtain ⟨r5, er5, h⟩ := mj_bind_some h
          refine ml_callV (Y' := mY_X7_allSteps) (as := []) (rest := []) (c := 7) (v := (some (.int r5))) (M1 := (mj_fin m)) ho_1 rfl lm_X8_364 wc_X7_allSteps pl_X7_allSteps ok_X7_allSteps rfl rfl (Nat.le_of_ble_eq_true rfl) (k_X7_allSteps (by omega) er5) (mj_dt dt_X8_status 29 rfl) ?_
          obtain rfl := Option.some.inj h
          exact mj_go_ret (v := some (.int r5)) (Nat.le_of_ble_eq_true rfl) (mj_retI (mj_dt dt_X8_status 30 rfl) rfl)
        · rw [if_neg b4] at h
          refine ⟨fun b5 => ?_, fun b5 => ?_⟩
          · rw [if_pos b5] at h
            refine ⟨104, by decide, ?_⟩
            refine mj_go_aload_n (k := 0) (x := 0) rfl (mj_dt dt_X8_status 31 rfl) ?_
            refine ml_getR (c := 8) (k := 0) (q := 1) fd_8_0 rf_0_0 (Or.inl fl_X8_12) ho_0 (mj_dt dt_X8_status 32 rfl) ?_
            refine mk_getI (c := 7) (k := 12) (Or.inl fd_7_12) (Or.inl fl_X8_367) ho_1 (mj_dt dt_X8_status 33 rfl) ?_
            obtain rfl := Option.some.inj h
            exact mj_go_ret (v := some (.int (m.1 1 12))) (Nat.le_of_ble_eq_true rfl) (mj_retI (mj_dt dt_X8_status 34 rfl) rfl)
          · rw [if_neg b5] at h
            refine ⟨fun b6 => ?_, fun b6 => ?_⟩
            · rw [if_pos b6] at h
              refine ⟨112, by decide, ?_⟩
              refine mj_go_aload_n (k := 0) (x := 0) rfl (mj_dt dt_X8_status 35 rfl) ?_
              refine ml_getR (c := 8) (k := 0) (q := 1) fd_8_0 rf_0_0 (Or.inl fl_X8_12) ho_0 (mj_dt dt_X8_status 36 rfl) ?_
              refine mk_getI (c := 7) (k := 13) (Or.inl fd_7_13) (Or.inl fl_X8_355) ho_1 (mj_dt dt_X8_status 37 rfl) ?_
              obtain rfl := Option.some.inj h
              exact mj_go_ret (v := some (.int (m.1 1 13))) (Nat.le_of_ble_eq_true rfl) (mj_retI (mj_dt dt_X8_status 38 rfl) rfl)
            · rw [if_neg b6] at h
              refine ⟨fun b7 => ?_, fun b7 => ?_⟩
              · rw [if_pos b7] at h
                refine ⟨120, by decide, ?_⟩
                refine mj_go_aload_n (k := 0) (x := 0) rfl (mj_dt dt_X8_status 39 rfl) ?_
                refine ml_getR (c := 8) (k := 0) (q := 1) fd_8_0 rf_0_0 (Or.inl fl_X8_12) ho_0 (mj_dt dt_X8_status 40 rfl) ?_
                refine mk_getI (c := 7) (k := 14) (Or.inl fd_7_14) (Or.inl fl_X8_370) ho_1 (mj_dt dt_X8_status 41 rfl) ?_
                obtain rfl := Option.some.inj h
                exact mj_go_ret (v := some (.int (m.1 1 14))) (Nat.le_of_ble_eq_true rfl) (mj_retI (mj_dt dt_X8_status 42 rfl) rfl)
              · rw [if_neg b7] at h
                refine ⟨fun b8 => ?_, fun b8 => ?_⟩
                · rw [if_pos b8] at h
                  refine ⟨128, by decide, ?_⟩
                  refine mj_go_aload_n (k := 0) (x := 0) rfl (mj_dt dt_X8_status 43 rfl) ?_
                  refine ml_getR (c := 8) (k := 0) (q := 1) fd_8_0 rf_0_0 (Or.inl fl_X8_12) ho_0 (mj_dt dt_X8_status 44 rfl) ?_
                  refine mk_getI (c := 7) (k := 15) (Or.inl fd_7_15) (Or.inl fl_X8_339) ho_1 (mj_dt dt_X8_status 45 rfl) ?_
                  obtain rfl := Option.some.inj h
                  exact mj_go_ret (v := some (.int (m.1 1 15))) (Nat.le_of_ble_eq_true rfl) (mj_retI (mj_dt dt_X8_status 46 rfl) rfl)
                · rw [if_neg b8] at h
                  refine ⟨fun b9 => ?_, fun b9 => ?_⟩
                  · rw [if_pos b9] at h
                    refine ⟨136, by decide, ?_⟩
                    refine mj_go_aload_n (k := 0) (x := 0) rfl (mj_dt dt_X8_status 47 rfl) ?_
                    refine ml_getR (c := 8) (k := 7) (q := 75) fd_8_7 rf_0_7 (Or.inl fl_X8_62) ho_0 (mj_dt dt_X8_status 48 rfl) ?_
                    refine mk_getI (c := 0) (k := 1) (Or.inl fd_0_1) (Or.inr fl_X8_373) ho_75 (mj_dt dt_X8_status 49 rfl) ?_
                    obtain rfl := Option.some.inj h
                    exact mj_go_ret (v := some (.int (m.1 75 1))) (Nat.le_of_ble_eq_true rfl) (mj_retI (mj_dt dt_X8_status 50 rfl) rfl)
                  · rw [if_neg b9] at h
                    refine ⟨144, by decide, ?_⟩
                    refine mj_go_iconst (v := -1) rfl (mj_dt dt_X8_status 51 rfl) ?_
                    obtain rfl := Option.some.inj h
                    exact mj_go_ret (v := some (.int (-1 : Int32))) (Nat.le_of_ble_eq_true rfl) (mj_retI (mj_dt dt_X8_status 52 rfl) rfl)
def f_X8_status (N : Nat) (v1 : Int32) (m : mj_m) : Option (Int32) := if v1 ≤ 10 then f_X8_status_22 N v1 m else (if 17 < v1 then f_X8_status_22 N v1 m else (mj_ck (mj_b 0 77 (v1 - 10)) ( some (m.1 77 (v1 - 10).toNatClampNeg))))
theorem k_X8_status {L : Nat} {xs : Nat → Int32} {δ N : Nat} {v1 : Int32} {m : mj_m} (hδ : 1 ≤ δ) {a : Int32} (h : f_X8_status N v1 m = some a) : mj_Cl (mj_EX L xs) δ mY_X8_status [.ref 0, .int v1] (mj_fin m) (some (.int a), (mj_fin m)) := by
  obtain ⟨δ, rfl⟩ : ∃ d, δ = d + 1 := ⟨δ - 1, by omega⟩
  have hδ : 0 ≤ δ := by omega
  refine mj_cl_of ok_X8_status (Nat.le_of_ble_eq_true rfl) ?_
  unfold f_X8_status at h
  refine mj_go_iload_n (k := 1) (x := v1) rfl (mj_dt dt_X8_status 0 rfl) ?_
  refine mj_go_bipush (v := 10) rfl (mj_dt dt_X8_status 1 rfl) ?_
  refine mj_go_icmp_le (tgt := 22) rfl (mj_dt dt_X8_status 2 rfl) (fun b1 => ?_) (fun b1 => ?_)
  · rw [if_pos b1] at h
    refine mj_go_sub (lv' := [(0, .ref 0), (1, .int v1)]) (List.forall_mem_cons.mpr ⟨rfl, (List.forall_mem_cons.mpr ⟨rfl, (fun _ h9 => absurd h9 List.not_mem_nil)⟩)⟩) ?_
    exact k_X8_status_22 hδ h
  · rw [if_neg b1] at h
    refine mj_go_iload_n (k := 1) (x := v1) rfl (mj_dt dt_X8_status 3 rfl) ?_
    refine mj_go_bipush (v := 17) rfl (mj_dt dt_X8_status 4 rfl) ?_
    refine mj_go_icmp_gt (tgt := 22) rfl (mj_dt dt_X8_status 5 rfl) (fun b2 => ?_) (fun b2 => ?_)
    · rw [if_pos b2] at h
      refine mj_go_sub (lv' := [(0, .ref 0), (1, .int v1)]) (List.forall_mem_cons.mpr ⟨rfl, (List.forall_mem_cons.mpr ⟨rfl, (fun _ h9 => absurd h9 List.not_mem_nil)⟩)⟩) ?_
      exact k_X8_status_22 hδ h
    · rw [if_neg b2] at h
      refine mj_go_aload_n (k := 0) (x := 0) rfl (mj_dt dt_X8_status 6 rfl) ?_
      refine ml_getR (c := 8) (k := 8) (q := 77) fd_8_8 rf_0_8 (Or.inl fl_X8_66) ho_0 (mj_dt dt_X8_status 7 rfl) ?_
      refine mj_go_iload_n (k := 1) (x := v1) rfl (mj_dt dt_X8_status 8 rfl) ?_
      refine mj_go_bipush (v := 10) rfl (mj_dt dt_X8_status 9 rfl) ?_
      refine mj_go_isub (mj_dt dt_X8_status 10 rfl) ?_
      obtain ⟨c3, h⟩ := mj_ck_some h
      refine mk_iald c3 (mj_dt dt_X8_status 11 rfl) ?_
      obtain rfl := Option.some.inj h
      exact mj_go_ret (v := some (.int (m.1 77 (v1 - 10).toNatClampNeg))) (Nat.le_of_ble_eq_true rfl) (mj_retI (mj_dt dt_X8_status 12 rfl) rfl)
def f_X9_status_93 (N : Nat) (m : mj_m) (k_93 : Int32 × Int32 → Option (Int32)) (s : Int32 × Int32) : Option (Int32) := if (m.1 95 1) ≤ s.2 then (some s.1) else (mj_ck (mj_b 0 108 s.2) ( mj_mw (s.1 + (m.1 108 s.2.toNatClampNeg)) (fun x3 => mj_mw (s.2 + 1) (fun x4 => k_93 (x3, x4)))))
theorem k_X9_status_93 {L : Nat} {xs : Nat → Int32} {δ N : Nat} {m : mj_m} : ∀ (n : Nat) (s : Int32 × Int32) (a : Int32), mj_lp n (f_X9_status_93 N m) s = some a → mj_Go (mj_EX L xs) δ mY_X9_status 93 [(0, .ref 95), (2, .int s.1), (3, .int s.2)] [] (mj_fin m) (some (.int a), (mj_fin m)) := by
  refine mj_lp_sound (fun k_93 s a q_93 h => ?_)
  unfold f_X9_status_93 at h
  refine mj_go_iload_n (k := 3) (x := s.2) rfl (mj_dt dt_X9_status 28 rfl) ?_
  refine mj_go_aload_n (k := 0) (x := 95) rfl (mj_dt dt_X9_status 29 rfl) ?_
  refine mk_getI (c := 9) (k := 1) (Or.inl fd_9_1) (Or.inl fl_X9_124) ho_95 (mj_dt dt_X9_status 30 rfl) ?_
  refine mj_go_icmp_ge (tgt := 116) rfl (mj_dt dt_X9_status 31 rfl) (fun b1 => ?_) (fun b1 => ?_)
  · rw [if_pos b1] at h
    refine mj_go_iload_n (k := 2) (x := s.1) rfl (mj_dt dt_X9_status 41 rfl) ?_
    obtain rfl := Option.some.inj h
    exact mj_go_ret (v := some (.int s.1)) (Nat.le_of_ble_eq_true rfl) (mj_retI (mj_dt dt_X9_status 42 rfl) rfl)
  · rw [if_neg b1] at h
    refine mj_go_iload_n (k := 2) (x := s.1) rfl (mj_dt dt_X9_status 32 rfl) ?_
    refine mj_go_aload_n (k := 0) (x := 95) rfl (mj_dt dt_X9_status 33 rfl) ?_
    refine ml_getR (c := 9) (k := 23) (q := 108) fd_9_23 rf_95_23 (Or.inl fl_X9_62) ho_95 (mj_dt dt_X9_status 34 rfl) ?_
    refine mj_go_iload_n (k := 3) (x := s.2) rfl (mj_dt dt_X9_status 35 rfl) ?_
    obtain ⟨c2, h⟩ := mj_ck_some h
    refine mk_iald c2 (mj_dt dt_X9_status 36 rfl) ?_
    refine mj_go_iadd (mj_dt dt_X9_status 37 rfl) ?_
    obtain ⟨x3, ex3, h⟩ := mj_mw_some h
    refine ml_eqi ex3 ?_
    refine mj_go_istore_n (k := 2) (by decide) (mj_dt dt_X9_status 38 rfl) ?_
    obtain ⟨x4, ex4, h⟩ := mj_mw_some h
    refine mj_go_iinc (i := 3) (x := s.2) (v := x4) rfl (by rw [ex4] <;> rfl) (by decide) (mj_dt dt_X9_status 39 rfl) ?_
    refine mj_go_goto (tgt := 93) rfl (mj_dt dt_X9_status 40 rfl) ?_
    refine mj_go_sub (lv' := [(0, .ref 95), (2, .int x3), (3, .int x4)]) (List.forall_mem_cons.mpr ⟨rfl, (List.forall_mem_cons.mpr ⟨rfl, (List.forall_mem_cons.mpr ⟨rfl, (fun _ h9 => absurd h9 List.not_mem_nil)⟩)⟩)⟩) ?_
    exact q_93 _ _ h
def f_X9_status_22 (N : Nat) (v1 : Int32) (m : mj_m) : Option (Int32) := if v1 = 0 then (some (m.1 95 0)) else if v1 = 1 then (some (m.1 95 1)) else if v1 = 2 then (some (m.1 95 2)) else if v1 = 3 then (mj_lp N (f_X9_status_93 N m) (0, 0)) else if v1 = 4 then (some (m.1 95 6)) else if v1 = 5 then (some (m.1 95 7)) else if v1 = 6 then (some (m.1 95 8)) else if v1 = 7 then (some (m.1 95 9)) else if v1 = 8 then (some (m.1 95 54)) else (some (-1 : Int32))
theorem k_X9_status_22 {L : Nat} {xs : Nat → Int32} {δ N : Nat} {v1 : Int32} {m : mj_m} {a : Int32} (h : f_X9_status_22 N v1 m = some a) : mj_Go (mj_EX L xs) δ mY_X9_status 22 [(0, .ref 95), (1, .int v1)] [] (mj_fin m) (some (.int a), (mj_fin m)) := by
  unfold f_X9_status_22 at h
  refine mj_go_iconst (v := 0) rfl (mj_dt dt_X9_status 13 rfl) ?_
  refine mj_go_istore_n (k := 2) (by decide) (mj_dt dt_X9_status 14 rfl) ?_
  refine mj_go_iload_n (k := 1) (x := v1) rfl (mj_dt dt_X9_status 15 rfl) ?_
  refine mj_go_tsw [(0, 51), (1, 56), (2, 61), (3, 66), (4, 93), (5, 98), (6, 103), (7, 108), (8, 113)] (by decide) (by decide) (mj_dt dt_X9_status 16 rfl) ?_
  refine ⟨fun b1 => ?_, fun b1 => ?_⟩
  · rw [if_pos b1] at h
    refine ⟨76, by decide, ?_⟩
    refine mj_go_aload_n (k := 0) (x := 95) rfl (mj_dt dt_X9_status 17 rfl) ?_
    refine mk_getI (c := 9) (k := 0) (Or.inl fd_9_0) (Or.inl fl_X9_149) ho_95 (mj_dt dt_X9_status 18 rfl) ?_
    obtain rfl := Option.some.inj h
    exact mj_go_ret (v := some (.int (m.1 95 0))) (Nat.le_of_ble_eq_true rfl) (mj_retI (mj_dt dt_X9_status 19 rfl) rfl)
  · rw [if_neg b1] at h
    refine ⟨fun b2 => ?_, fun b2 => ?_⟩
    · rw [if_pos b2] at h
      refine ⟨81, by decide, ?_⟩
      refine mj_go_aload_n (k := 0) (x := 95) rfl (mj_dt dt_X9_status 20 rfl) ?_
      refine mk_getI (c := 9) (k := 1) (Or.inl fd_9_1) (Or.inl fl_X9_124) ho_95 (mj_dt dt_X9_status 21 rfl) ?_
      obtain rfl := Option.some.inj h
      exact mj_go_ret (v := some (.int (m.1 95 1))) (Nat.le_of_ble_eq_true rfl) (mj_retI (mj_dt dt_X9_status 22 rfl) rfl)
    · rw [if_neg b2] at h
      refine ⟨fun b3 => ?_, fun b3 => ?_⟩
      · rw [if_pos b3] at h
        refine ⟨86, by decide, ?_⟩
        refine mj_go_aload_n (k := 0) (x := 95) rfl (mj_dt dt_X9_status 23 rfl) ?_
        refine mk_getI (c := 9) (k := 2) (Or.inl fd_9_2) (Or.inl fl_X9_127) ho_95 (mj_dt dt_X9_status 24 rfl) ?_
        obtain rfl := Option.some.inj h
        exact mj_go_ret (v := some (.int (m.1 95 2))) (Nat.le_of_ble_eq_true rfl) (mj_retI (mj_dt dt_X9_status 25 rfl) rfl)
      · rw [if_neg b3] at h
        refine ⟨fun b4 => ?_, fun b4 => ?_⟩
        · rw [if_pos b4] at h
          refine ⟨91, by decide, ?_⟩
          refine mj_go_iconst (v := 0) rfl (mj_dt dt_X9_status 26 rfl) ?_
          refine mj_go_istore_n (k := 3) (by decide) (mj_dt dt_X9_status 27 rfl) ?_
          refine mj_go_sub (lv' := [(0, .ref 95), (2, .int 0), (3, .int 0)]) (List.forall_mem_cons.mpr ⟨rfl, (List.forall_mem_cons.mpr ⟨rfl, (List.forall_mem_cons.mpr ⟨rfl, (fun _ h9 => absurd h9 List.not_mem_nil)⟩)⟩)⟩) ?_
          exact k_X9_status_93 N _ _ h
        · rw [if_neg b4] at h
          refine ⟨fun b5 => ?_, fun b5 => ?_⟩
          · rw [if_pos b5] at h
            refine ⟨118, by decide, ?_⟩
            refine mj_go_aload_n (k := 0) (x := 95) rfl (mj_dt dt_X9_status 43 rfl) ?_
            refine mk_getI (c := 9) (k := 6) (Or.inl fd_9_6) (Or.inl fl_X9_218) ho_95 (mj_dt dt_X9_status 44 rfl) ?_
            obtain rfl := Option.some.inj h
            exact mj_go_ret (v := some (.int (m.1 95 6))) (Nat.le_of_ble_eq_true rfl) (mj_retI (mj_dt dt_X9_status 45 rfl) rfl)
          · rw [if_neg b5] at h
            refine ⟨fun b6 => ?_, fun b6 => ?_⟩
            · rw [if_pos b6] at h
              refine ⟨123, by decide, ?_⟩
              refine mj_go_aload_n (k := 0) (x := 95) rfl (mj_dt dt_X9_status 46 rfl) ?_
              refine mk_getI (c := 9) (k := 7) (Or.inl fd_9_7) (Or.inl fl_X9_221) ho_95 (mj_dt dt_X9_status 47 rfl) ?_
              obtain rfl := Option.some.inj h
              exact mj_go_ret (v := some (.int (m.1 95 7))) (Nat.le_of_ble_eq_true rfl) (mj_retI (mj_dt dt_X9_status 48 rfl) rfl)
            · rw [if_neg b6] at h
              refine ⟨fun b7 => ?_, fun b7 => ?_⟩
              · rw [if_pos b7] at h
                refine ⟨128, by decide, ?_⟩
                refine mj_go_aload_n (k := 0) (x := 95) rfl (mj_dt dt_X9_status 49 rfl) ?_
                refine mk_getI (c := 9) (k := 8) (Or.inl fd_9_8) (Or.inl fl_X9_224) ho_95 (mj_dt dt_X9_status 50 rfl) ?_
                obtain rfl := Option.some.inj h
                exact mj_go_ret (v := some (.int (m.1 95 8))) (Nat.le_of_ble_eq_true rfl) (mj_retI (mj_dt dt_X9_status 51 rfl) rfl)
              · rw [if_neg b7] at h
                refine ⟨fun b8 => ?_, fun b8 => ?_⟩
                · rw [if_pos b8] at h
                  refine ⟨133, by decide, ?_⟩
                  refine mj_go_aload_n (k := 0) (x := 95) rfl (mj_dt dt_X9_status 52 rfl) ?_
                  refine mk_getI (c := 9) (k := 9) (Or.inl fd_9_9) (Or.inl fl_X9_19) ho_95 (mj_dt dt_X9_status 53 rfl) ?_
                  obtain rfl := Option.some.inj h
                  exact mj_go_ret (v := some (.int (m.1 95 9))) (Nat.le_of_ble_eq_true rfl) (mj_retI (mj_dt dt_X9_status 54 rfl) rfl)
                · rw [if_neg b8] at h
                  refine ⟨fun b9 => ?_, fun b9 => ?_⟩
                  · rw [if_pos b9] at h
                    refine ⟨138, by decide, ?_⟩
                    refine mj_go_aload_n (k := 0) (x := 95) rfl (mj_dt dt_X9_status 55 rfl) ?_
                    refine mk_getI (c := 9) (k := 54) (Or.inl fd_9_54) (Or.inl fl_X9_331) ho_95 (mj_dt dt_X9_status 56 rfl) ?_
                    obtain rfl := Option.some.inj h
                    exact mj_go_ret (v := some (.int (m.1 95 54))) (Nat.le_of_ble_eq_true rfl) (mj_retI (mj_dt dt_X9_status 57 rfl) rfl)
                  · rw [if_neg b9] at h
                    refine ⟨143, by decide, ?_⟩
                    refine mj_go_iconst (v := -1) rfl (mj_dt dt_X9_status 58 rfl) ?_
                    obtain rfl := Option.some.inj h
                    exact mj_go_ret (v := some (.int (-1 : Int32))) (Nat.le_of_ble_eq_true rfl) (mj_retI (mj_dt dt_X9_status 59 rfl) rfl)
def f_X9_status (N : Nat) (v1 : Int32) (m : mj_m) : Option (Int32) := if v1 < 11 then f_X9_status_22 N v1 m else (if 17 < v1 then f_X9_status_22 N v1 m else (mj_ck (mj_b 0 96 (v1 - 10)) ( some (m.1 96 (v1 - 10).toNatClampNeg))))
theorem k_X9_status {L : Nat} {xs : Nat → Int32} {δ N : Nat} {v1 : Int32} {m : mj_m} (_ : 0 ≤ δ) {a : Int32} (h : f_X9_status N v1 m = some a) : mj_Cl (mj_EX L xs) δ mY_X9_status [.ref 95, .int v1] (mj_fin m) (some (.int a), (mj_fin m)) := by
  refine mj_cl_of ok_X9_status (Nat.le_of_ble_eq_true rfl) ?_
  unfold f_X9_status at h
  refine mj_go_iload_n (k := 1) (x := v1) rfl (mj_dt dt_X9_status 0 rfl) ?_
  refine mj_go_bipush (v := 11) rfl (mj_dt dt_X9_status 1 rfl) ?_
  refine mj_go_icmp_lt (tgt := 22) rfl (mj_dt dt_X9_status 2 rfl) (fun b1 => ?_) (fun b1 => ?_)
  · rw [if_pos b1] at h
    refine mj_go_sub (lv' := [(0, .ref 95), (1, .int v1)]) (List.forall_mem_cons.mpr ⟨rfl, (List.forall_mem_cons.mpr ⟨rfl, (fun _ h9 => absurd h9 List.not_mem_nil)⟩)⟩) ?_
    exact k_X9_status_22 h
  · rw [if_neg b1] at h
    refine mj_go_iload_n (k := 1) (x := v1) rfl (mj_dt dt_X9_status 3 rfl) ?_
    refine mj_go_bipush (v := 17) rfl (mj_dt dt_X9_status 4 rfl) ?_
    refine mj_go_icmp_gt (tgt := 22) rfl (mj_dt dt_X9_status 5 rfl) (fun b2 => ?_) (fun b2 => ?_)
    · rw [if_pos b2] at h
      refine mj_go_sub (lv' := [(0, .ref 95), (1, .int v1)]) (List.forall_mem_cons.mpr ⟨rfl, (List.forall_mem_cons.mpr ⟨rfl, (fun _ h9 => absurd h9 List.not_mem_nil)⟩)⟩) ?_
      exact k_X9_status_22 h
    · rw [if_neg b2] at h
      refine mj_go_aload_n (k := 0) (x := 95) rfl (mj_dt dt_X9_status 6 rfl) ?_
      refine ml_getR (c := 9) (k := 11) (q := 96) fd_9_11 rf_95_11 (Or.inl fl_X9_25) ho_95 (mj_dt dt_X9_status 7 rfl) ?_
      refine mj_go_iload_n (k := 1) (x := v1) rfl (mj_dt dt_X9_status 8 rfl) ?_
      refine mj_go_bipush (v := 10) rfl (mj_dt dt_X9_status 9 rfl) ?_
      refine mj_go_isub (mj_dt dt_X9_status 10 rfl) ?_
      obtain ⟨c3, h⟩ := mj_ck_some h
      refine mk_iald c3 (mj_dt dt_X9_status 11 rfl) ?_
      obtain rfl := Option.some.inj h
      exact mj_go_ret (v := some (.int (m.1 96 (v1 - 10).toNatClampNeg))) (Nat.le_of_ble_eq_true rfl) (mj_retI (mj_dt dt_X9_status 12 rfl) rfl)
