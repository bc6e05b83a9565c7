/-! METHODS as functions, and their rows over the small machine (printed by program from the printed instructions) -/
def f_X9_wants (N : Nat) (v1 : Int32) (v2 : Int32) (m : mj_m) : Option (Int32) := (f_X9_isShelf N v1 m).bind (fun r1 => if r1 = 0 then ((some (-1 : Int32))) else (mj_ck (mj_b 0 110 v1) ( if (m.1 110 v1.toNatClampNeg) = (3 - v2) then ((some (-2 : Int32))) else (if (m.1 110 v1.toNatClampNeg) = 0 then ((some (-3 : Int32))) else ((some 0))))))
theorem k_X9_wants {L : Nat} {xs : Nat → Int32} {δ N : Nat} {v1 : Int32} {v2 : Int32} {m : mj_m} (hδ : 1 ≤ δ) {a : Int32} (h : f_X9_wants N v1 v2 m = some a) : mj_Cl (mj_EX L xs) δ mY_X9_wants [.ref 95, .int v1, .int v2] (mj_fin m) (some (.int a), (mj_fin m)) := by
  obtain ⟨δ, rfl⟩ : ∃ d, δ = d + 1 := ⟨δ - 1, by omega⟩
  have hδ : 0 ≤ δ := by omega
  refine mj_cl_of ok_X9_wants (Nat.le_of_ble_eq_true rfl) ?_
  unfold f_X9_wants at h
  refine mj_go_aload_n (k := 0) (x := 95) rfl (mj_dt dt_X9_wants 0 rfl) ?_
  refine mj_go_iload_n (k := 1) (x := v1) rfl (mj_dt dt_X9_wants 1 rfl) ?_
  obtain ⟨r1, er1, h⟩ := mj_bind_some h
  refine ml_callV (Y' := mY_X9_isShelf) (as := [.int v1]) (rest := []) (c := 9) (v := (some (.int r1))) (M1 := (mj_fin m)) ho_95 rfl lm_X9_130 wc_X9_isShelf pl_X9_isShelf ok_X9_isShelf rfl rfl (Nat.le_of_ble_eq_true rfl) (k_X9_isShelf (by omega) er1) (mj_dt dt_X9_wants 2 rfl) ?_
  refine mj_go_if_ne (tgt := 12) rfl (mj_dt dt_X9_wants 3 rfl) (fun b2 => ?_) (fun b2 => ?_)
  · rw [if_neg b2] at h
    refine mj_go_aload_n (k := 0) (x := 95) rfl (mj_dt dt_X9_wants 6 rfl) ?_
    refine ml_getR (c := 9) (k := 25) (q := 110) fd_9_25 rf_95_25 (Or.inl fl_X9_68) ho_95 (mj_dt dt_X9_wants 7 rfl) ?_
    refine mj_go_iload_n (k := 1) (x := v1) rfl (mj_dt dt_X9_wants 8 rfl) ?_
    obtain ⟨c3, h⟩ := mj_ck_some h
    refine mk_iald c3 (mj_dt dt_X9_wants 9 rfl) ?_
    refine mj_go_iconst (v := 3) rfl (mj_dt dt_X9_wants 10 rfl) ?_
    refine mj_go_iload_n (k := 2) (x := v2) rfl (mj_dt dt_X9_wants 11 rfl) ?_
    refine mj_go_isub (mj_dt dt_X9_wants 12 rfl) ?_
    refine mj_go_icmp_ne (tgt := 29) rfl (mj_dt dt_X9_wants 13 rfl) (fun b4 => ?_) (fun b4 => ?_)
    · rw [if_neg b4] at h
      refine mj_go_aload_n (k := 0) (x := 95) rfl (mj_dt dt_X9_wants 16 rfl) ?_
      refine ml_getR (c := 9) (k := 25) (q := 110) fd_9_25 rf_95_25 (Or.inl fl_X9_68) ho_95 (mj_dt dt_X9_wants 17 rfl) ?_
      refine mj_go_iload_n (k := 1) (x := v1) rfl (mj_dt dt_X9_wants 18 rfl) ?_
      refine mk_iald c3 (mj_dt dt_X9_wants 19 rfl) ?_
      refine mj_go_if_ne (tgt := 43) rfl (mj_dt dt_X9_wants 20 rfl) (fun b5 => ?_) (fun b5 => ?_)
      · rw [if_neg b5] at h
        refine mj_go_iconst (v := 0) rfl (mj_dt dt_X9_wants 23 rfl) ?_
        obtain rfl := Option.some.inj h
        exact mj_go_ret (v := some (.int 0)) (Nat.le_of_ble_eq_true rfl) (mj_retI (mj_dt dt_X9_wants 24 rfl) rfl)
      · rw [if_pos b5] at h
        refine mj_go_bipush (v := -3) rfl (mj_dt dt_X9_wants 21 rfl) ?_
        refine mj_go_goto (tgt := 44) rfl (mj_dt dt_X9_wants 22 rfl) ?_
        obtain rfl := Option.some.inj h
        exact mj_go_ret (v := some (.int (-3 : Int32))) (Nat.le_of_ble_eq_true rfl) (mj_retI (mj_dt dt_X9_wants 24 rfl) rfl)
    · rw [if_pos b4] at h
      refine mj_go_bipush (v := -2) rfl (mj_dt dt_X9_wants 14 rfl) ?_
      refine mj_go_goto (tgt := 44) rfl (mj_dt dt_X9_wants 15 rfl) ?_
      obtain rfl := Option.some.inj h
      exact mj_go_ret (v := some (.int (-2 : Int32))) (Nat.le_of_ble_eq_true rfl) (mj_retI (mj_dt dt_X9_wants 24 rfl) rfl)
  · rw [if_pos b2] at h
    refine mj_go_iconst (v := -1) rfl (mj_dt dt_X9_wants 4 rfl) ?_
    refine mj_go_goto (tgt := 44) rfl (mj_dt dt_X9_wants 5 rfl) ?_
    obtain rfl := Option.some.inj h
    exact mj_go_ret (v := some (.int (-1 : Int32))) (Nat.le_of_ble_eq_true rfl) (mj_retI (mj_dt dt_X9_wants 24 rfl) rfl)
def f_X9_rule_19 (N : Nat) (m : mj_m) : Option (Int32 × mj_m) := (f_X9_no N (-1 : Int32) m).bind (fun r1 => some (r1.1, r1.2))
theorem k_X9_rule_19 {L : Nat} {xs : Nat → Int32} {δ N : Nat} {m : mj_m} (hδ : 1 ≤ δ) {a : Int32 × mj_m} (h : f_X9_rule_19 N m = some a) : mj_Go (mj_EX L xs) (δ + 1) mY_X9_rule 19 [(0, .ref 95)] [] (mj_fin m) (some (.int a.1), (mj_fin a.2)) := by
  unfold f_X9_rule_19 at h
  refine mj_go_aload_n (k := 0) (x := 95) rfl (mj_dt dt_X9_rule 10 rfl) ?_
  refine mj_go_iconst (v := -1) rfl (mj_dt dt_X9_rule 11 rfl) ?_
  obtain ⟨r1, er1, h⟩ := mj_bind_some h
  refine ml_callV (Y' := mY_X9_no) (as := [.int (-1 : Int32)]) (rest := []) (c := 9) (v := (some (.int r1.1))) (M1 := (mj_fin r1.2)) ho_95 rfl lm_X9_134 wc_X9_no pl_X9_no ok_X9_no rfl rfl (Nat.le_of_ble_eq_true rfl) (k_X9_no (by omega) er1) (mj_dt dt_X9_rule 12 rfl) ?_
  obtain rfl := Option.some.inj h
  exact mj_go_ret (v := some (.int r1.1)) (Nat.le_of_ble_eq_true rfl) (mj_retI (mj_dt dt_X9_rule 13 rfl) rfl)
def f_X9_rule_134 (N : Nat) (m : mj_m) : Option (Int32 × mj_m) := (f_X9_no N (-6 : Int32) m).bind (fun r1 => some (r1.1, r1.2))
theorem k_X9_rule_134 {L : Nat} {xs : Nat → Int32} {δ N : Nat} {m : mj_m} (hδ : 1 ≤ δ) {a : Int32 × mj_m} (h : f_X9_rule_134 N m = some a) : mj_Go (mj_EX L xs) (δ + 1) mY_X9_rule 134 [(0, .ref 95)] [] (mj_fin m) (some (.int a.1), (mj_fin a.2)) := by
  unfold f_X9_rule_134 at h
  refine mj_go_aload_n (k := 0) (x := 95) rfl (mj_dt dt_X9_rule 77 rfl) ?_
  refine mj_go_bipush (v := -6) rfl (mj_dt dt_X9_rule 78 rfl) ?_
  obtain ⟨r1, er1, h⟩ := mj_bind_some h
  refine ml_callV (Y' := mY_X9_no) (as := [.int (-6 : Int32)]) (rest := []) (c := 9) (v := (some (.int r1.1))) (M1 := (mj_fin r1.2)) ho_95 rfl lm_X9_134 wc_X9_no pl_X9_no ok_X9_no rfl rfl (Nat.le_of_ble_eq_true rfl) (k_X9_no (by omega) er1) (mj_dt dt_X9_rule 79 rfl) ?_
  obtain rfl := Option.some.inj h
  exact mj_go_ret (v := some (.int r1.1)) (Nat.le_of_ble_eq_true rfl) (mj_retI (mj_dt dt_X9_rule 80 rfl) rfl)
def f_X9_rule_141 (N : Nat) (v1 : Int32) (v2 : Int32) (v3 : Int32) (m : mj_m) : Option (Int32 × mj_m) := mj_ck (mj_b 0 110 v1) ( mj_mw (mj_wI m 110 (v1.toNatClampNeg) 2) (fun m2 => mj_ck (mj_b 0 113 v1) ( mj_mw (mj_wI m2 113 (v1.toNatClampNeg) v2) (fun m4 => mj_ck (mj_b 0 114 v1) ( mj_mw (mj_wI m4 114 (v1.toNatClampNeg) v3) (fun m6 => some (1, m6)))))))
theorem k_X9_rule_141 {L : Nat} {xs : Nat → Int32} {δ N : Nat} {v1 : Int32} {v2 : Int32} {v3 : Int32} {m : mj_m} (hδ : 1 ≤ δ) {a : Int32 × mj_m} (h : f_X9_rule_141 N v1 v2 v3 m = some a) : mj_Go (mj_EX L xs) (δ + 1) mY_X9_rule 141 [(0, .ref 95), (1, .int v1), (2, .int v2), (3, .int v3)] [] (mj_fin m) (some (.int a.1), (mj_fin a.2)) := by
  unfold f_X9_rule_141 at h
  refine mj_go_aload_n (k := 0) (x := 95) rfl (mj_dt dt_X9_rule 81 rfl) ?_
  refine ml_getR (c := 9) (k := 25) (q := 110) fd_9_25 rf_95_25 (Or.inl fl_X9_68) ho_95 (mj_dt dt_X9_rule 82 rfl) ?_
  refine mj_go_iload_n (k := 1) (x := v1) rfl (mj_dt dt_X9_rule 83 rfl) ?_
  refine mj_go_iconst (v := 2) rfl (mj_dt dt_X9_rule 84 rfl) ?_
  obtain ⟨c1, h⟩ := mj_ck_some h
  obtain ⟨m2, em2, h⟩ := mj_mw_some h
  refine ml_iast c1 (mj_dt dt_X9_rule 85 rfl) ?_
  refine ml_eqm (M1 := (mj_fin m2)) (by rw [em2] <;> rfl) ?_
  refine mj_go_aload_n (k := 0) (x := 95) rfl (mj_dt dt_X9_rule 86 rfl) ?_
  refine ml_getR (c := 9) (k := 28) (q := 113) fd_9_28 rf_95_28 (Or.inl fl_X9_77) ho_95 (mj_dt dt_X9_rule 87 rfl) ?_
  refine mj_go_iload_n (k := 1) (x := v1) rfl (mj_dt dt_X9_rule 88 rfl) ?_
  refine mj_go_iload_n (k := 2) (x := v2) rfl (mj_dt dt_X9_rule 89 rfl) ?_
  obtain ⟨c3, h⟩ := mj_ck_some h
  obtain ⟨m4, em4, h⟩ := mj_mw_some h
  refine ml_iast c3 (mj_dt dt_X9_rule 90 rfl) ?_
  refine ml_eqm (M1 := (mj_fin m4)) (by rw [em4] <;> rfl) ?_
  refine mj_go_aload_n (k := 0) (x := 95) rfl (mj_dt dt_X9_rule 91 rfl) ?_
  refine ml_getR (c := 9) (k := 29) (q := 114) fd_9_29 rf_95_29 (Or.inl fl_X9_80) ho_95 (mj_dt dt_X9_rule 92 rfl) ?_
  refine mj_go_iload_n (k := 1) (x := v1) rfl (mj_dt dt_X9_rule 93 rfl) ?_
  refine mj_go_iload_n (k := 3) (x := v3) rfl (mj_dt dt_X9_rule 94 rfl) ?_
  obtain ⟨c5, h⟩ := mj_ck_some h
  obtain ⟨m6, em6, h⟩ := mj_mw_some h
  refine ml_iast c5 (mj_dt dt_X9_rule 95 rfl) ?_
  refine ml_eqm (M1 := (mj_fin m6)) (by rw [em6] <;> rfl) ?_
  refine mj_go_iconst (v := 1) rfl (mj_dt dt_X9_rule 96 rfl) ?_
  obtain rfl := Option.some.inj h
  exact mj_go_ret (v := some (.int 1)) (Nat.le_of_ble_eq_true rfl) (mj_retI (mj_dt dt_X9_rule 97 rfl) rfl)
def f_X9_rule_76 (N : Nat) (v1 : Int32) (v2 : Int32) (v3 : Int32) (v5 : Int32) (k_76 : Int32 × mj_m → Option (Int32 × mj_m)) (s : Int32 × mj_m) : Option (Int32 × mj_m) := if v5 ≤ s.1 then (mj_ck (mj_b 0 112 v1) ( mj_mw (mj_wI s.2 112 (v1.toNatClampNeg) v5) (fun m3 => f_X9_rule_141 N v1 v2 v3 m3))) else (mj_ck (mj_b 1 115 ((120 * v3) + s.1)) ( mj_ck (mj_b 1 115 ((120 * v1) + s.1)) ( mj_mw (mj_wL s.2 115 (((120 * v1) + s.1).toNatClampNeg) (s.2.2 115 ((120 * v3) + s.1).toNatClampNeg)) (fun m4 => mj_mw (s.1 + 1) (fun x5 => k_76 (x5, m4))))))
theorem k_X9_rule_76 {L : Nat} {xs : Nat → Int32} {δ N : Nat} {v1 : Int32} {v2 : Int32} {v3 : Int32} {v5 : Int32} (hδ : 1 ≤ δ) : ∀ (n : Nat) (s : Int32 × mj_m) (a : Int32 × mj_m), mj_lp n (f_X9_rule_76 N v1 v2 v3 v5) s = some a → mj_Go (mj_EX L xs) (δ + 1) mY_X9_rule 76 [(0, .ref 95), (1, .int v1), (2, .int v2), (3, .int v3), (5, .int v5), (6, .int s.1)] [] (mj_fin s.2) (some (.int a.1), (mj_fin a.2)) := by
  refine mj_lp_sound (fun k_76 s a q_76 h => ?_)
  unfold f_X9_rule_76 at h
  refine mj_go_iload (i := 6) (x := s.1) rfl (mj_dt dt_X9_rule 45 rfl) ?_
  refine mj_go_iload (i := 5) (x := v5) rfl (mj_dt dt_X9_rule 46 rfl) ?_
  refine mj_go_icmp_ge (tgt := 113) rfl (mj_dt dt_X9_rule 47 rfl) (fun b1 => ?_) (fun b1 => ?_)
  · rw [if_pos b1] at h
    refine mj_go_aload_n (k := 0) (x := 95) rfl (mj_dt dt_X9_rule 66 rfl) ?_
    refine ml_getR (c := 9) (k := 27) (q := 112) fd_9_27 rf_95_27 (Or.inl fl_X9_74) ho_95 (mj_dt dt_X9_rule 67 rfl) ?_
    refine mj_go_iload_n (k := 1) (x := v1) rfl (mj_dt dt_X9_rule 68 rfl) ?_
    refine mj_go_iload (i := 5) (x := v5) rfl (mj_dt dt_X9_rule 69 rfl) ?_
    obtain ⟨c2, h⟩ := mj_ck_some h
    obtain ⟨m3, em3, h⟩ := mj_mw_some h
    refine ml_iast c2 (mj_dt dt_X9_rule 70 rfl) ?_
    refine ml_eqm (M1 := (mj_fin m3)) (by rw [em3] <;> rfl) ?_
    refine mj_go_goto (tgt := 141) rfl (mj_dt dt_X9_rule 71 rfl) ?_
    refine mj_go_sub (lv' := [(0, .ref 95), (1, .int v1), (2, .int v2), (3, .int v3)]) (List.forall_mem_cons.mpr ⟨rfl, (List.forall_mem_cons.mpr ⟨rfl, (List.forall_mem_cons.mpr ⟨rfl, (List.forall_mem_cons.mpr ⟨rfl, (fun _ h9 => absurd h9 List.not_mem_nil)⟩)⟩)⟩)⟩) ?_
    exact k_X9_rule_141 hδ h
  · rw [if_neg b1] at h
    refine mj_go_aload_n (k := 0) (x := 95) rfl (mj_dt dt_X9_rule 48 rfl) ?_
    refine ml_getR (c := 9) (k := 30) (q := 115) fd_9_30 rf_95_30 (Or.inl fl_X9_83) ho_95 (mj_dt dt_X9_rule 49 rfl) ?_
    refine mj_go_bipush (v := 120) rfl (mj_dt dt_X9_rule 50 rfl) ?_
    refine mj_go_iload_n (k := 1) (x := v1) rfl (mj_dt dt_X9_rule 51 rfl) ?_
    refine mj_go_imul (mj_dt dt_X9_rule 52 rfl) ?_
    refine mj_go_iload (i := 6) (x := s.1) rfl (mj_dt dt_X9_rule 53 rfl) ?_
    refine mj_go_iadd (mj_dt dt_X9_rule 54 rfl) ?_
    refine mj_go_aload_n (k := 0) (x := 95) rfl (mj_dt dt_X9_rule 55 rfl) ?_
    refine ml_getR (c := 9) (k := 30) (q := 115) fd_9_30 rf_95_30 (Or.inl fl_X9_83) ho_95 (mj_dt dt_X9_rule 56 rfl) ?_
    refine mj_go_bipush (v := 120) rfl (mj_dt dt_X9_rule 57 rfl) ?_
    refine mj_go_iload_n (k := 3) (x := v3) rfl (mj_dt dt_X9_rule 58 rfl) ?_
    refine mj_go_imul (mj_dt dt_X9_rule 59 rfl) ?_
    refine mj_go_iload (i := 6) (x := s.1) rfl (mj_dt dt_X9_rule 60 rfl) ?_
    refine mj_go_iadd (mj_dt dt_X9_rule 61 rfl) ?_
    obtain ⟨c2, h⟩ := mj_ck_some h
    refine mk_lald c2 (mj_dt dt_X9_rule 62 rfl) ?_
    obtain ⟨c3, h⟩ := mj_ck_some h
    obtain ⟨m4, em4, h⟩ := mj_mw_some h
    refine ml_last c3 (mj_dt dt_X9_rule 63 rfl) ?_
    refine ml_eqm (M1 := (mj_fin m4)) (by rw [em4] <;> rfl) ?_
    obtain ⟨x5, ex5, h⟩ := mj_mw_some h
    refine mj_go_iinc (i := 6) (x := s.1) (v := x5) rfl (by rw [ex5] <;> rfl) (by decide) (mj_dt dt_X9_rule 64 rfl) ?_
    refine mj_go_goto (tgt := 76) rfl (mj_dt dt_X9_rule 65 rfl) ?_
    refine mj_go_sub (lv' := [(0, .ref 95), (1, .int v1), (2, .int v2), (3, .int v3), (5, .int v5), (6, .int x5)]) (List.forall_mem_cons.mpr ⟨rfl, (List.forall_mem_cons.mpr ⟨rfl, (List.forall_mem_cons.mpr ⟨rfl, (List.forall_mem_cons.mpr ⟨rfl, (List.forall_mem_cons.mpr ⟨rfl, (List.forall_mem_cons.mpr ⟨rfl, (fun _ h9 => absurd h9 List.not_mem_nil)⟩)⟩)⟩)⟩)⟩)⟩) ?_
    exact q_76 _ _ h
def f_X9_rule (N : Nat) (v1 : Int32) (v2 : Int32) (v3 : Int32) (m : mj_m) : Option (Int32 × mj_m) := (f_X9_isShelf N v1 m).bind (fun r1 => if r1 = 0 then f_X9_rule_19 N m else (if v2 < (-1 : Int32) then f_X9_rule_19 N m else (if v2 ≤ 6 then (if v2 = (-1 : Int32) then (mj_ck (mj_b 0 110 v1) ( mj_mw (mj_wI m 110 (v1.toNatClampNeg) 0) (fun m7 => some (0, m7)))) else (if v2 = 6 then ((f_X9_wants N v3 1 m).bind (fun r7 => if r7 = 0 then (mj_ck (mj_b 0 112 v3) ( mj_mw (m.1 112 v3.toNatClampNeg) (fun x10 => mj_lp N (f_X9_rule_76 N v1 v2 v3 x10) (0, m)))) else ((f_X9_no N r7 m).bind (fun r9 => some (r9.1, r9.2))))) else (if v3 < 0 then f_X9_rule_134 N m else (if v3 ≤ 99 then f_X9_rule_141 N v1 v2 v3 m else f_X9_rule_134 N m)))) else f_X9_rule_19 N m)))
theorem k_X9_rule {L : Nat} {xs : Nat → Int32} {δ N : Nat} {v1 : Int32} {v2 : Int32} {v3 : Int32} {m : mj_m} (hδ : 2 ≤ δ) {a : Int32 × mj_m} (h : f_X9_rule N v1 v2 v3 m = some a) : mj_Cl (mj_EX L xs) δ mY_X9_rule [.ref 95, .int v1, .int v2, .int v3] (mj_fin m) (some (.int a.1), (mj_fin a.2)) := by
  obtain ⟨δ, rfl⟩ : ∃ d, δ = d + 1 := ⟨δ - 1, by omega⟩
  have hδ : 1 ≤ δ := by omega
  refine mj_cl_of ok_X9_rule (Nat.le_of_ble_eq_true rfl) ?_
  unfold f_X9_rule at h
  refine mj_go_aload_n (k := 0) (x := 95) rfl (mj_dt dt_X9_rule 0 rfl) ?_
  refine mj_go_iload_n (k := 1) (x := v1) rfl (mj_dt dt_X9_rule 1 rfl) ?_
  obtain ⟨r1, er1, h⟩ := mj_bind_some h
  refine ml_callV (Y' := mY_X9_isShelf) (as := [.int v1]) (rest := []) (c := 9) (v := (some (.int r1))) (M1 := (mj_fin m)) ho_95 rfl lm_X9_130 wc_X9_isShelf pl_X9_isShelf ok_X9_isShelf rfl rfl (Nat.le_of_ble_eq_true rfl) (k_X9_isShelf (by omega) er1) (mj_dt dt_X9_rule 2 rfl) ?_
  refine mj_go_if_eq (tgt := 19) rfl (mj_dt dt_X9_rule 3 rfl) (fun b2 => ?_) (fun b2 => ?_)
  · rw [if_pos b2] at h
    refine mj_go_sub (lv' := [(0, .ref 95)]) (List.forall_mem_cons.mpr ⟨rfl, (fun _ h9 => absurd h9 List.not_mem_nil)⟩) ?_
    exact k_X9_rule_19 hδ h
  · rw [if_neg b2] at h
    refine mj_go_iload_n (k := 2) (x := v2) rfl (mj_dt dt_X9_rule 4 rfl) ?_
    refine mj_go_iconst (v := -1) rfl (mj_dt dt_X9_rule 5 rfl) ?_
    refine mj_go_icmp_lt (tgt := 19) rfl (mj_dt dt_X9_rule 6 rfl) (fun b3 => ?_) (fun b3 => ?_)
    · rw [if_pos b3] at h
      refine mj_go_sub (lv' := [(0, .ref 95)]) (List.forall_mem_cons.mpr ⟨rfl, (fun _ h9 => absurd h9 List.not_mem_nil)⟩) ?_
      exact k_X9_rule_19 hδ h
    · rw [if_neg b3] at h
      refine mj_go_iload_n (k := 2) (x := v2) rfl (mj_dt dt_X9_rule 7 rfl) ?_
      refine mj_go_bipush (v := 6) rfl (mj_dt dt_X9_rule 8 rfl) ?_
      refine mj_go_icmp_le (tgt := 25) rfl (mj_dt dt_X9_rule 9 rfl) (fun b4 => ?_) (fun b4 => ?_)
      · rw [if_pos b4] at h
        refine mj_go_iload_n (k := 2) (x := v2) rfl (mj_dt dt_X9_rule 14 rfl) ?_
        refine mj_go_iconst (v := -1) rfl (mj_dt dt_X9_rule 15 rfl) ?_
        refine mj_go_icmp_ne (tgt := 39) rfl (mj_dt dt_X9_rule 16 rfl) (fun b5 => ?_) (fun b5 => ?_)
        · rw [if_neg b5] at h
          refine mj_go_iload_n (k := 2) (x := v2) rfl (mj_dt dt_X9_rule 24 rfl) ?_
          refine mj_go_bipush (v := 6) rfl (mj_dt dt_X9_rule 25 rfl) ?_
          refine mj_go_icmp_ne (tgt := 124) rfl (mj_dt dt_X9_rule 26 rfl) (fun b6 => ?_) (fun b6 => ?_)
          · rw [if_neg b6] at h
            refine mj_go_iload_n (k := 3) (x := v3) rfl (mj_dt dt_X9_rule 72 rfl) ?_
            refine mj_go_if_lt (tgt := 134) rfl (mj_dt dt_X9_rule 73 rfl) (fun b7 => ?_) (fun b7 => ?_)
            · rw [if_pos b7] at h
              refine mj_go_sub (lv' := [(0, .ref 95)]) (List.forall_mem_cons.mpr ⟨rfl, (fun _ h9 => absurd h9 List.not_mem_nil)⟩) ?_
              exact k_X9_rule_134 hδ h
            · rw [if_neg b7] at h
              refine mj_go_iload_n (k := 3) (x := v3) rfl (mj_dt dt_X9_rule 74 rfl) ?_
              refine mj_go_bipush (v := 99) rfl (mj_dt dt_X9_rule 75 rfl) ?_
              refine mj_go_icmp_le (tgt := 141) rfl (mj_dt dt_X9_rule 76 rfl) (fun b8 => ?_) (fun b8 => ?_)
              · rw [if_pos b8] at h
                refine mj_go_sub (lv' := [(0, .ref 95), (1, .int v1), (2, .int v2), (3, .int v3)]) (List.forall_mem_cons.mpr ⟨rfl, (List.forall_mem_cons.mpr ⟨rfl, (List.forall_mem_cons.mpr ⟨rfl, (List.forall_mem_cons.mpr ⟨rfl, (fun _ h9 => absurd h9 List.not_mem_nil)⟩)⟩)⟩)⟩) ?_
                exact k_X9_rule_141 hδ h
              · rw [if_neg b8] at h
                refine mj_go_sub (lv' := [(0, .ref 95)]) (List.forall_mem_cons.mpr ⟨rfl, (fun _ h9 => absurd h9 List.not_mem_nil)⟩) ?_
                exact k_X9_rule_134 hδ h
          · rw [if_pos b6] at h
            refine mj_go_aload_n (k := 0) (x := 95) rfl (mj_dt dt_X9_rule 27 rfl) ?_
            refine mj_go_iload_n (k := 3) (x := v3) rfl (mj_dt dt_X9_rule 28 rfl) ?_
            refine mj_go_iconst (v := 1) rfl (mj_dt dt_X9_rule 29 rfl) ?_
            obtain ⟨r7, er7, h⟩ := mj_bind_some h
            refine ml_callV (Y' := mY_X9_wants) (as := [.int v3, .int 1]) (rest := []) (c := 9) (v := (some (.int r7))) (M1 := (mj_fin m)) ho_95 rfl lm_X9_138 wc_X9_wants pl_X9_wants ok_X9_wants rfl rfl (Nat.le_of_ble_eq_true rfl) (k_X9_wants (by omega) er7) (mj_dt dt_X9_rule 30 rfl) ?_
            refine mj_go_istore (i := 4) (by decide) (mj_dt dt_X9_rule 31 rfl) ?_
            refine mj_go_iload (i := 4) (x := r7) rfl (mj_dt dt_X9_rule 32 rfl) ?_
            refine mj_go_if_eq (tgt := 65) rfl (mj_dt dt_X9_rule 33 rfl) (fun b8 => ?_) (fun b8 => ?_)
            · rw [if_pos b8] at h
              refine mj_go_aload_n (k := 0) (x := 95) rfl (mj_dt dt_X9_rule 38 rfl) ?_
              refine ml_getR (c := 9) (k := 27) (q := 112) fd_9_27 rf_95_27 (Or.inl fl_X9_74) ho_95 (mj_dt dt_X9_rule 39 rfl) ?_
              refine mj_go_iload_n (k := 3) (x := v3) rfl (mj_dt dt_X9_rule 40 rfl) ?_
              obtain ⟨c9, h⟩ := mj_ck_some h
              refine mk_iald c9 (mj_dt dt_X9_rule 41 rfl) ?_
              obtain ⟨x10, ex10, h⟩ := mj_mw_some h
              refine ml_eqi ex10 ?_
              refine mj_go_istore (i := 5) (by decide) (mj_dt dt_X9_rule 42 rfl) ?_
              refine mj_go_iconst (v := 0) rfl (mj_dt dt_X9_rule 43 rfl) ?_
              refine mj_go_istore (i := 6) (by decide) (mj_dt dt_X9_rule 44 rfl) ?_
              refine mj_go_sub (lv' := [(0, .ref 95), (1, .int v1), (2, .int v2), (3, .int v3), (5, .int x10), (6, .int 0)]) (List.forall_mem_cons.mpr ⟨rfl, (List.forall_mem_cons.mpr ⟨rfl, (List.forall_mem_cons.mpr ⟨rfl, (List.forall_mem_cons.mpr ⟨rfl, (List.forall_mem_cons.mpr ⟨rfl, (List.forall_mem_cons.mpr ⟨rfl, (fun _ h9 => absurd h9 List.not_mem_nil)⟩)⟩)⟩)⟩)⟩)⟩) ?_
              exact k_X9_rule_76 hδ N _ _ h
            · rw [if_neg b8] at h
              refine mj_go_aload_n (k := 0) (x := 95) rfl (mj_dt dt_X9_rule 34 rfl) ?_
              refine mj_go_iload (i := 4) (x := r7) rfl (mj_dt dt_X9_rule 35 rfl) ?_
              obtain ⟨r9, er9, h⟩ := mj_bind_some h
              refine ml_callV (Y' := mY_X9_no) (as := [.int r7]) (rest := []) (c := 9) (v := (some (.int r9.1))) (M1 := (mj_fin r9.2)) ho_95 rfl lm_X9_134 wc_X9_no pl_X9_no ok_X9_no rfl rfl (Nat.le_of_ble_eq_true rfl) (k_X9_no (by omega) er9) (mj_dt dt_X9_rule 36 rfl) ?_
              obtain rfl := Option.some.inj h
              exact mj_go_ret (v := some (.int r9.1)) (Nat.le_of_ble_eq_true rfl) (mj_retI (mj_dt dt_X9_rule 37 rfl) rfl)
        · rw [if_pos b5] at h
          refine mj_go_aload_n (k := 0) (x := 95) rfl (mj_dt dt_X9_rule 17 rfl) ?_
          refine ml_getR (c := 9) (k := 25) (q := 110) fd_9_25 rf_95_25 (Or.inl fl_X9_68) ho_95 (mj_dt dt_X9_rule 18 rfl) ?_
          refine mj_go_iload_n (k := 1) (x := v1) rfl (mj_dt dt_X9_rule 19 rfl) ?_
          refine mj_go_iconst (v := 0) rfl (mj_dt dt_X9_rule 20 rfl) ?_
          obtain ⟨c6, h⟩ := mj_ck_some h
          obtain ⟨m7, em7, h⟩ := mj_mw_some h
          refine ml_iast c6 (mj_dt dt_X9_rule 21 rfl) ?_
          refine ml_eqm (M1 := (mj_fin m7)) (by rw [em7] <;> rfl) ?_
          refine mj_go_iconst (v := 0) rfl (mj_dt dt_X9_rule 22 rfl) ?_
          obtain rfl := Option.some.inj h
          exact mj_go_ret (v := some (.int 0)) (Nat.le_of_ble_eq_true rfl) (mj_retI (mj_dt dt_X9_rule 23 rfl) rfl)
      · rw [if_neg b4] at h
        refine mj_go_sub (lv' := [(0, .ref 95)]) (List.forall_mem_cons.mpr ⟨rfl, (fun _ h9 => absurd h9 List.not_mem_nil)⟩) ?_
        exact k_X9_rule_19 hδ h
def f_X8_holds (N : Nat) (v1 : Int32) (m : mj_m) : Option (Int32) := (f_X8_isShelf N v1 m).bind (fun r1 => if r1 = 0 then ((some (-1 : Int32))) else (mj_ck (mj_b 3 35 v1) ( (some (m.1 (79 + 2 * v1.toNatClampNeg) 1)))))
theorem k_X8_holds {L : Nat} {xs : Nat → Int32} {δ N : Nat} {v1 : Int32} {m : mj_m} (hδ : 1 ≤ δ) {a : Int32} (h : f_X8_holds N v1 m = some a) : mj_Cl (mj_EX L xs) δ mY_X8_holds [.ref 0, .int v1] (mj_fin m) (some (.int a), (mj_fin m)) := by
  obtain ⟨δ, rfl⟩ : ∃ d, δ = d + 1 := ⟨δ - 1, by omega⟩
  have hδ : 0 ≤ δ := by omega
  refine mj_cl_of ok_X8_holds (Nat.le_of_ble_eq_true rfl) ?_
  unfold f_X8_holds at h
  refine mj_go_iload_n (k := 1) (x := v1) rfl (mj_dt dt_X8_holds 0 rfl) ?_
  obtain ⟨r1, er1, h⟩ := mj_bind_some h
  refine ml_callS (Y' := mY_X8_isShelf) (as := [.int v1]) (rest := []) (v := (some (.int r1))) (M1 := (mj_fin m)) lm_X8_82 wc_X8_isShelf pl_X8_isShelf ok_X8_isShelf rfl rfl (Nat.le_of_ble_eq_true rfl) (k_X8_isShelf (by omega) er1) (mj_dt dt_X8_holds 1 rfl) ?_
  refine mj_go_if_eq (tgt := 19) rfl (mj_dt dt_X8_holds 2 rfl) (fun b2 => ?_) (fun b2 => ?_)
  · rw [if_pos b2] at h
    refine mj_go_iconst (v := -1) rfl (mj_dt dt_X8_holds 9 rfl) ?_
    obtain rfl := Option.some.inj h
    exact mj_go_ret (v := some (.int (-1 : Int32))) (Nat.le_of_ble_eq_true rfl) (mj_retI (mj_dt dt_X8_holds 10 rfl) rfl)
  · rw [if_neg b2] at h
    refine mj_go_aload_n (k := 0) (x := 0) rfl (mj_dt dt_X8_holds 3 rfl) ?_
    refine ml_getR (c := 8) (k := 2) (q := 35) fd_8_2 rf_0_2 (Or.inl fl_X8_21) ho_0 (mj_dt dt_X8_holds 4 rfl) ?_
    refine mj_go_iload_n (k := 1) (x := v1) rfl (mj_dt dt_X8_holds 5 rfl) ?_
    obtain ⟨c3, h⟩ := mj_ck_some h
    refine ml_aald3 (q := 79 + 2 * v1.toNatClampNeg) c3 (mj_hs35 c3).1 (mj_dt dt_X8_holds 6 rfl) ?_
    refine mk_getI (c := 6) (k := 1) (Or.inl fd_6_1) (Or.inl fl_X8_111) (mj_hs35 c3).2 (mj_dt dt_X8_holds 7 rfl) ?_
    refine mj_go_goto (tgt := 20) rfl (mj_dt dt_X8_holds 8 rfl) ?_
    obtain rfl := Option.some.inj h
    exact mj_go_ret (v := some (.int (m.1 (79 + 2 * v1.toNatClampNeg) 1))) (Nat.le_of_ble_eq_true rfl) (mj_retI (mj_dt dt_X8_holds 10 rfl) rfl)
def f_X9_holds (N : Nat) (v1 : Int32) (m : mj_m) : Option (Int32) := (f_X9_isShelf N v1 m).bind (fun r1 => if r1 = 0 then (some (-1 : Int32)) else (mj_ck (mj_b 0 110 v1) ( if (m.1 110 v1.toNatClampNeg) = 0 then (some (-1 : Int32)) else (if (m.1 110 v1.toNatClampNeg) = 1 then (mj_ck (mj_b 0 111 v1) ( (some (100 + (m.1 111 v1.toNatClampNeg))))) else (mj_ck (mj_b 0 113 v1) ( (some (m.1 113 v1.toNatClampNeg))))))))
theorem k_X9_holds {L : Nat} {xs : Nat → Int32} {δ N : Nat} {v1 : Int32} {m : mj_m} (hδ : 1 ≤ δ) {a : Int32} (h : f_X9_holds N v1 m = some a) : mj_Cl (mj_EX L xs) δ mY_X9_holds [.ref 95, .int v1] (mj_fin m) (some (.int a), (mj_fin m)) := by
  obtain ⟨δ, rfl⟩ : ∃ d, δ = d + 1 := ⟨δ - 1, by omega⟩
  have hδ : 0 ≤ δ := by omega
  refine mj_cl_of ok_X9_holds (Nat.le_of_ble_eq_true rfl) ?_
  unfold f_X9_holds at h
  refine mj_go_aload_n (k := 0) (x := 95) rfl (mj_dt dt_X9_holds 0 rfl) ?_
  refine mj_go_iload_n (k := 1) (x := v1) rfl (mj_dt dt_X9_holds 1 rfl) ?_
  obtain ⟨r1, er1, h⟩ := mj_bind_some h
  refine ml_callV (Y' := mY_X9_isShelf) (as := [.int v1]) (rest := []) (c := 9) (v := (some (.int r1))) (M1 := (mj_fin m)) ho_95 rfl lm_X9_130 wc_X9_isShelf pl_X9_isShelf ok_X9_isShelf rfl rfl (Nat.le_of_ble_eq_true rfl) (k_X9_isShelf (by omega) er1) (mj_dt dt_X9_holds 2 rfl) ?_
  refine mj_go_if_eq (tgt := 17) rfl (mj_dt dt_X9_holds 3 rfl) (fun b2 => ?_) (fun b2 => ?_)
  · rw [if_pos b2] at h
    refine mj_go_iconst (v := -1) rfl (mj_dt dt_X9_holds 9 rfl) ?_
    obtain rfl := Option.some.inj h
    exact mj_go_ret (v := some (.int (-1 : Int32))) (Nat.le_of_ble_eq_true rfl) (mj_retI (mj_dt dt_X9_holds 10 rfl) rfl)
  · rw [if_neg b2] at h
    refine mj_go_aload_n (k := 0) (x := 95) rfl (mj_dt dt_X9_holds 4 rfl) ?_
    refine ml_getR (c := 9) (k := 25) (q := 110) fd_9_25 rf_95_25 (Or.inl fl_X9_68) ho_95 (mj_dt dt_X9_holds 5 rfl) ?_
    refine mj_go_iload_n (k := 1) (x := v1) rfl (mj_dt dt_X9_holds 6 rfl) ?_
    obtain ⟨c3, h⟩ := mj_ck_some h
    refine mk_iald c3 (mj_dt dt_X9_holds 7 rfl) ?_
    refine mj_go_if_ne (tgt := 19) rfl (mj_dt dt_X9_holds 8 rfl) (fun b4 => ?_) (fun b4 => ?_)
    · rw [if_neg b4] at h
      refine mj_go_aload_n (k := 0) (x := 95) rfl (mj_dt dt_X9_holds 11 rfl) ?_
      refine ml_getR (c := 9) (k := 25) (q := 110) fd_9_25 rf_95_25 (Or.inl fl_X9_68) ho_95 (mj_dt dt_X9_holds 12 rfl) ?_
      refine mj_go_iload_n (k := 1) (x := v1) rfl (mj_dt dt_X9_holds 13 rfl) ?_
      refine mk_iald c3 (mj_dt dt_X9_holds 14 rfl) ?_
      refine mj_go_iconst (v := 1) rfl (mj_dt dt_X9_holds 15 rfl) ?_
      refine mj_go_icmp_ne (tgt := 41) rfl (mj_dt dt_X9_holds 16 rfl) (fun b5 => ?_) (fun b5 => ?_)
      · rw [if_neg b5] at h
        refine mj_go_aload_n (k := 0) (x := 95) rfl (mj_dt dt_X9_holds 24 rfl) ?_
        refine ml_getR (c := 9) (k := 28) (q := 113) fd_9_28 rf_95_28 (Or.inl fl_X9_77) ho_95 (mj_dt dt_X9_holds 25 rfl) ?_
        refine mj_go_iload_n (k := 1) (x := v1) rfl (mj_dt dt_X9_holds 26 rfl) ?_
        obtain ⟨c6, h⟩ := mj_ck_some h
        refine mk_iald c6 (mj_dt dt_X9_holds 27 rfl) ?_
        obtain rfl := Option.some.inj h
        exact mj_go_ret (v := some (.int (m.1 113 v1.toNatClampNeg))) (Nat.le_of_ble_eq_true rfl) (mj_retI (mj_dt dt_X9_holds 28 rfl) rfl)
      · rw [if_pos b5] at h
        refine mj_go_bipush (v := 100) rfl (mj_dt dt_X9_holds 17 rfl) ?_
        refine mj_go_aload_n (k := 0) (x := 95) rfl (mj_dt dt_X9_holds 18 rfl) ?_
        refine ml_getR (c := 9) (k := 26) (q := 111) fd_9_26 rf_95_26 (Or.inl fl_X9_71) ho_95 (mj_dt dt_X9_holds 19 rfl) ?_
        refine mj_go_iload_n (k := 1) (x := v1) rfl (mj_dt dt_X9_holds 20 rfl) ?_
        obtain ⟨c6, h⟩ := mj_ck_some h
        refine mk_iald c6 (mj_dt dt_X9_holds 21 rfl) ?_
        refine mj_go_iadd (mj_dt dt_X9_holds 22 rfl) ?_
        refine mj_go_goto (tgt := 47) rfl (mj_dt dt_X9_holds 23 rfl) ?_
        obtain rfl := Option.some.inj h
        exact mj_go_ret (v := some (.int (100 + (m.1 111 v1.toNatClampNeg)))) (Nat.le_of_ble_eq_true rfl) (mj_retI (mj_dt dt_X9_holds 28 rfl) rfl)
    · rw [if_pos b4] at h
      refine mj_go_iconst (v := -1) rfl (mj_dt dt_X9_holds 9 rfl) ?_
      obtain rfl := Option.some.inj h
      exact mj_go_ret (v := some (.int (-1 : Int32))) (Nat.le_of_ble_eq_true rfl) (mj_retI (mj_dt dt_X9_holds 10 rfl) rfl)
def f_X8_isUnder_4 (N : Nat) (v1 : Int32) (m : mj_m) (k_4 : Int32 × Int32 → Option (Int32)) (s : Int32 × Int32) : Option (Int32) := if 6 < s.2 then (some 0) else ((f_X8_isKind N s.1 m).bind (fun r2 => if r2 = 0 then (some 0) else (if s.1 = v1 then (some 1) else (mj_ck (mj_ab s.1) ( mj_mw (mj_abv s.1.toNatClampNeg) (fun x6 => mj_mw (s.2 + 1) (fun x7 => k_4 (x6, x7))))))))
theorem k_X8_isUnder_4 {L : Nat} {xs : Nat → Int32} {δ N : Nat} {v1 : Int32} {m : mj_m} (hδ : 0 ≤ δ) : ∀ (n : Nat) (s : Int32 × Int32) (a : Int32), mj_lp n (f_X8_isUnder_4 N v1 m) s = some a → mj_Go (mj_EX L xs) (δ + 1) mY_X8_isUnder 4 [(1, .int v1), (2, .int s.1), (3, .int s.2)] [] (mj_fin m) (some (.int a), (mj_fin m)) := by
  refine mj_lp_sound (fun k_4 s a q_4 h => ?_)
  unfold f_X8_isUnder_4 at h
  refine mj_go_iload_n (k := 3) (x := s.2) rfl (mj_dt dt_X8_isUnder 4 rfl) ?_
  refine mj_go_bipush (v := 6) rfl (mj_dt dt_X8_isUnder 5 rfl) ?_
  refine mj_go_icmp_gt (tgt := 36) rfl (mj_dt dt_X8_isUnder 6 rfl) (fun b1 => ?_) (fun b1 => ?_)
  · rw [if_pos b1] at h
    refine mj_go_iconst (v := 0) rfl (mj_dt dt_X8_isUnder 21 rfl) ?_
    obtain rfl := Option.some.inj h
    exact mj_go_ret (v := some (.int 0)) (Nat.le_of_ble_eq_true rfl) (mj_retZ (mj_dt dt_X8_isUnder 22 rfl) rfl rfl)
  · rw [if_neg b1] at h
    refine mj_go_iload_n (k := 2) (x := s.1) rfl (mj_dt dt_X8_isUnder 7 rfl) ?_
    obtain ⟨r2, er2, h⟩ := mj_bind_some h
    refine ml_callS (Y' := mY_X8_isKind) (as := [.int s.1]) (rest := []) (v := (some (.int r2))) (M1 := (mj_fin m)) lm_X8_128 wc_X8_isKind pl_X8_isKind ok_X8_isKind rfl rfl (Nat.le_of_ble_eq_true rfl) (k_X8_isKind (by omega) er2) (mj_dt dt_X8_isUnder 8 rfl) ?_
    refine mj_go_if_eq (tgt := 36) rfl (mj_dt dt_X8_isUnder 9 rfl) (fun b3 => ?_) (fun b3 => ?_)
    · rw [if_pos b3] at h
      refine mj_go_iconst (v := 0) rfl (mj_dt dt_X8_isUnder 21 rfl) ?_
      obtain rfl := Option.some.inj h
      exact mj_go_ret (v := some (.int 0)) (Nat.le_of_ble_eq_true rfl) (mj_retZ (mj_dt dt_X8_isUnder 22 rfl) rfl rfl)
    · rw [if_neg b3] at h
      refine mj_go_iload_n (k := 2) (x := s.1) rfl (mj_dt dt_X8_isUnder 10 rfl) ?_
      refine mj_go_iload_n (k := 1) (x := v1) rfl (mj_dt dt_X8_isUnder 11 rfl) ?_
      refine mj_go_icmp_ne (tgt := 24) rfl (mj_dt dt_X8_isUnder 12 rfl) (fun b4 => ?_) (fun b4 => ?_)
      · rw [if_neg b4] at h
        refine mj_go_gets hw_above (mj_dt dt_X8_isUnder 15 rfl) ?_
        refine mj_go_iload_n (k := 2) (x := s.1) rfl (mj_dt dt_X8_isUnder 16 rfl) ?_
        obtain ⟨c5, h⟩ := mj_ck_some h
        refine mj_go_xld (j := 9001) (by decide) (mj_ab_use c5) (mj_dt dt_X8_isUnder 17 rfl) ?_
        obtain ⟨x6, ex6, h⟩ := mj_mw_some h
        refine ml_eqi ex6 ?_
        refine mj_go_istore_n (k := 2) (by decide) (mj_dt dt_X8_isUnder 18 rfl) ?_
        obtain ⟨x7, ex7, h⟩ := mj_mw_some h
        refine mj_go_iinc (i := 3) (x := s.2) (v := x7) rfl (by rw [ex7] <;> rfl) (by decide) (mj_dt dt_X8_isUnder 19 rfl) ?_
        refine mj_go_goto (tgt := 4) rfl (mj_dt dt_X8_isUnder 20 rfl) ?_
        refine mj_go_sub (lv' := [(1, .int v1), (2, .int x6), (3, .int x7)]) (List.forall_mem_cons.mpr ⟨rfl, (List.forall_mem_cons.mpr ⟨rfl, (List.forall_mem_cons.mpr ⟨rfl, (fun _ h9 => absurd h9 List.not_mem_nil)⟩)⟩)⟩) ?_
        exact q_4 _ _ h
      · rw [if_pos b4] at h
        refine mj_go_iconst (v := 1) rfl (mj_dt dt_X8_isUnder 13 rfl) ?_
        obtain rfl := Option.some.inj h
        exact mj_go_ret (v := some (.int 1)) (Nat.le_of_ble_eq_true rfl) (mj_retZ (mj_dt dt_X8_isUnder 14 rfl) rfl rfl)
def f_X8_isUnder (N : Nat) (v0 : Int32) (v1 : Int32) (m : mj_m) : Option (Int32) := mj_lp N (f_X8_isUnder_4 N v1 m) (v0, 0)
theorem k_X8_isUnder {L : Nat} {xs : Nat → Int32} {δ N : Nat} {v0 : Int32} {v1 : Int32} {m : mj_m} (hδ : 1 ≤ δ) {a : Int32} (h : f_X8_isUnder N v0 v1 m = some a) : mj_Cl (mj_EX L xs) δ mY_X8_isUnder [.int v0, .int v1] (mj_fin m) (some (.int a), (mj_fin m)) := by
  obtain ⟨δ, rfl⟩ : ∃ d, δ = d + 1 := ⟨δ - 1, by omega⟩
  have hδ : 0 ≤ δ := by omega
  refine mj_cl_of ok_X8_isUnder (Nat.le_of_ble_eq_true rfl) ?_
  unfold f_X8_isUnder at h
  refine mj_go_iload_n (k := 0) (x := v0) rfl (mj_dt dt_X8_isUnder 0 rfl) ?_
  refine mj_go_istore_n (k := 2) (by decide) (mj_dt dt_X8_isUnder 1 rfl) ?_
  refine mj_go_iconst (v := 0) rfl (mj_dt dt_X8_isUnder 2 rfl) ?_
  refine mj_go_istore_n (k := 3) (by decide) (mj_dt dt_X8_isUnder 3 rfl) ?_
  refine mj_go_sub (lv' := [(1, .int v1), (2, .int v0), (3, .int 0)]) (List.forall_mem_cons.mpr ⟨rfl, (List.forall_mem_cons.mpr ⟨rfl, (List.forall_mem_cons.mpr ⟨rfl, (fun _ h9 => absurd h9 List.not_mem_nil)⟩)⟩)⟩) ?_
  exact k_X8_isUnder_4 hδ N _ _ h
def f_X7_countUpToCost_31 (N : Nat) (k_4 : Int32 × Int32 → Option (Int32)) (v1 : Int32) (v3 : Int32) (s0 : Int32) (s1 : Int32) (m : mj_m) : Option (Int32) := mj_mw (s0 + s1) (fun x1 => mj_mw (v3 + 1) (fun x2 => k_4 (x1, x2)))
theorem k_X7_countUpToCost_31 {L : Nat} {xs : Nat → Int32} {δ N : Nat} {v1 : Int32} {v3 : Int32} {s0 : Int32} {s1 : Int32} {m : mj_m} {k_4 : Int32 × Int32 → Option (Int32)} (q_4 : ∀ (s_ : Int32 × Int32) (a_ : Int32), k_4 s_ = some a_ → mj_Go (mj_EX L xs) δ mY_X7_countUpToCost 4 [(0, .ref 1), (1, .int v1), (2, .int s_.1), (3, .int s_.2)] [] (mj_fin m) (some (.int a_), (mj_fin m))) {a : Int32} (h : f_X7_countUpToCost_31 N k_4 v1 v3 s0 s1 m = some a) : mj_Go (mj_EX L xs) δ mY_X7_countUpToCost 31 [(0, .ref 1), (1, .int v1), (3, .int v3)] [.int s1, .int s0] (mj_fin m) (some (.int a), (mj_fin m)) := by
  unfold f_X7_countUpToCost_31 at h
  refine mj_go_iadd (mj_dt dt_X7_countUpToCost 19 rfl) ?_
  obtain ⟨x1, ex1, h⟩ := mj_mw_some h
  refine ml_eqi ex1 ?_
  refine mj_go_istore_n (k := 2) (by decide) (mj_dt dt_X7_countUpToCost 20 rfl) ?_
  obtain ⟨x2, ex2, h⟩ := mj_mw_some h
  refine mj_go_iinc (i := 3) (x := v3) (v := x2) rfl (by rw [ex2] <;> rfl) (by decide) (mj_dt dt_X7_countUpToCost 21 rfl) ?_
  refine mj_go_goto (tgt := 4) rfl (mj_dt dt_X7_countUpToCost 22 rfl) ?_
  refine mj_go_sub (lv' := [(0, .ref 1), (1, .int v1), (2, .int x1), (3, .int x2)]) (List.forall_mem_cons.mpr ⟨rfl, (List.forall_mem_cons.mpr ⟨rfl, (List.forall_mem_cons.mpr ⟨rfl, (List.forall_mem_cons.mpr ⟨rfl, (fun _ h9 => absurd h9 List.not_mem_nil)⟩)⟩)⟩)⟩) ?_
  exact q_4 _ _ h
def f_X7_countUpToCost_4 (N : Nat) (v1 : Int32) (m : mj_m) (k_4 : Int32 × Int32 → Option (Int32)) (s : Int32 × Int32) : Option (Int32) := if (m.1 1 7) ≤ s.2 then (some s.1) else (mj_ck (mj_b 2 4 s.2) ( if v1 < (m.1 (8 + s.2.toNatClampNeg) 4) then (f_X7_countUpToCost_31 N k_4 v1 s.2 s.1 0 m) else (f_X7_countUpToCost_31 N k_4 v1 s.2 s.1 1 m)))
theorem k_X7_countUpToCost_4 {L : Nat} {xs : Nat → Int32} {δ N : Nat} {v1 : Int32} {m : mj_m} : ∀ (n : Nat) (s : Int32 × Int32) (a : Int32), mj_lp n (f_X7_countUpToCost_4 N v1 m) s = some a → mj_Go (mj_EX L xs) δ mY_X7_countUpToCost 4 [(0, .ref 1), (1, .int v1), (2, .int s.1), (3, .int s.2)] [] (mj_fin m) (some (.int a), (mj_fin m)) := by
  refine mj_lp_sound (fun k_4 s a q_4 h => ?_)
  unfold f_X7_countUpToCost_4 at h
  refine mj_go_iload_n (k := 3) (x := s.2) rfl (mj_dt dt_X7_countUpToCost 4 rfl) ?_
  refine mj_go_aload_n (k := 0) (x := 1) rfl (mj_dt dt_X7_countUpToCost 5 rfl) ?_
  refine mk_getI (c := 7) (k := 7) (Or.inl fd_7_7) (Or.inl fl_X7_37) ho_1 (mj_dt dt_X7_countUpToCost 6 rfl) ?_
  refine mj_go_icmp_ge (tgt := 39) rfl (mj_dt dt_X7_countUpToCost 7 rfl) (fun b1 => ?_) (fun b1 => ?_)
  · rw [if_pos b1] at h
    refine mj_go_iload_n (k := 2) (x := s.1) rfl (mj_dt dt_X7_countUpToCost 23 rfl) ?_
    obtain rfl := Option.some.inj h
    exact mj_go_ret (v := some (.int s.1)) (Nat.le_of_ble_eq_true rfl) (mj_retI (mj_dt dt_X7_countUpToCost 24 rfl) rfl)
  · rw [if_neg b1] at h
    refine mj_go_iload_n (k := 2) (x := s.1) rfl (mj_dt dt_X7_countUpToCost 8 rfl) ?_
    refine mj_go_aload_n (k := 0) (x := 1) rfl (mj_dt dt_X7_countUpToCost 9 rfl) ?_
    refine ml_getR (c := 7) (k := 2) (q := 4) fd_7_2 rf_1_2 (Or.inl fl_X7_20) ho_1 (mj_dt dt_X7_countUpToCost 10 rfl) ?_
    refine mj_go_iload_n (k := 3) (x := s.2) rfl (mj_dt dt_X7_countUpToCost 11 rfl) ?_
    obtain ⟨c2, h⟩ := mj_ck_some h
    refine ml_aald2 (q := 8 + s.2.toNatClampNeg) c2 (mj_hs4 c2).1 (mj_dt dt_X7_countUpToCost 12 rfl) ?_
    refine mk_getI (c := 1) (k := 4) (Or.inl fd_1_4) (Or.inl fl_X7_87) (mj_hs4 c2).2 (mj_dt dt_X7_countUpToCost 13 rfl) ?_
    refine mj_go_iload_n (k := 1) (x := v1) rfl (mj_dt dt_X7_countUpToCost 14 rfl) ?_
    refine mj_go_icmp_gt (tgt := 30) rfl (mj_dt dt_X7_countUpToCost 15 rfl) (fun b3 => ?_) (fun b3 => ?_)
    · rw [if_pos b3] at h
      refine mj_go_iconst (v := 0) rfl (mj_dt dt_X7_countUpToCost 18 rfl) ?_
      refine mj_go_sub (lv' := [(0, .ref 1), (1, .int v1), (3, .int s.2)]) (List.forall_mem_cons.mpr ⟨rfl, (List.forall_mem_cons.mpr ⟨rfl, (List.forall_mem_cons.mpr ⟨rfl, (fun _ h9 => absurd h9 List.not_mem_nil)⟩)⟩)⟩) ?_
      exact k_X7_countUpToCost_31 q_4 h
    · rw [if_neg b3] at h
      refine mj_go_iconst (v := 1) rfl (mj_dt dt_X7_countUpToCost 16 rfl) ?_
      refine mj_go_goto (tgt := 31) rfl (mj_dt dt_X7_countUpToCost 17 rfl) ?_
      refine mj_go_sub (lv' := [(0, .ref 1), (1, .int v1), (3, .int s.2)]) (List.forall_mem_cons.mpr ⟨rfl, (List.forall_mem_cons.mpr ⟨rfl, (List.forall_mem_cons.mpr ⟨rfl, (fun _ h9 => absurd h9 List.not_mem_nil)⟩)⟩)⟩) ?_
      exact k_X7_countUpToCost_31 q_4 h
def f_X7_countUpToCost (N : Nat) (v1 : Int32) (m : mj_m) : Option (Int32) := mj_lp N (f_X7_countUpToCost_4 N v1 m) (0, 0)
theorem k_X7_countUpToCost {L : Nat} {xs : Nat → Int32} {δ N : Nat} {v1 : Int32} {m : mj_m} (_ : 0 ≤ δ) {a : Int32} (h : f_X7_countUpToCost N v1 m = some a) : mj_Cl (mj_EX L xs) δ mY_X7_countUpToCost [.ref 1, .int v1] (mj_fin m) (some (.int a), (mj_fin m)) := by
  refine mj_cl_of ok_X7_countUpToCost (Nat.le_of_ble_eq_true rfl) ?_
  unfold f_X7_countUpToCost at h
  refine mj_go_iconst (v := 0) rfl (mj_dt dt_X7_countUpToCost 0 rfl) ?_
  refine mj_go_istore_n (k := 2) (by decide) (mj_dt dt_X7_countUpToCost 1 rfl) ?_
  refine mj_go_iconst (v := 0) rfl (mj_dt dt_X7_countUpToCost 2 rfl) ?_
  refine mj_go_istore_n (k := 3) (by decide) (mj_dt dt_X7_countUpToCost 3 rfl) ?_
  refine mj_go_sub (lv' := [(0, .ref 1), (1, .int v1), (2, .int 0), (3, .int 0)]) (List.forall_mem_cons.mpr ⟨rfl, (List.forall_mem_cons.mpr ⟨rfl, (List.forall_mem_cons.mpr ⟨rfl, (List.forall_mem_cons.mpr ⟨rfl, (fun _ h9 => absurd h9 List.not_mem_nil)⟩)⟩)⟩)⟩) ?_
  exact k_X7_countUpToCost_4 N _ _ h
def f_X2_findFronted_54 (N : Nat) (k_7 : Int32 × mj_m → Option (mj_m)) (v1 : Int32) (m : mj_m) : Option (mj_m) := mj_mw (v1 + 1) (fun x1 => k_7 (x1, m))
theorem k_X2_findFronted_54 {L : Nat} {xs : Nat → Int32} {δ N : Nat} {v1 : Int32} {m : mj_m} {k_7 : Int32 × mj_m → Option (mj_m)} (q_7 : ∀ (s_ : Int32 × mj_m) (a_ : mj_m), k_7 s_ = some a_ → mj_Go (mj_EX L xs) δ mY_X2_findFronted 7 [(0, .ref 36), (1, .int s_.1)] [] (mj_fin s_.2) (none, (mj_fin a_))) {a : mj_m} (h : f_X2_findFronted_54 N k_7 v1 m = some a) : mj_Go (mj_EX L xs) δ mY_X2_findFronted 54 [(0, .ref 36), (1, .int v1)] [] (mj_fin m) (none, (mj_fin a)) := by
  unfold f_X2_findFronted_54 at h
  obtain ⟨x1, ex1, h⟩ := mj_mw_some h
  refine mj_go_iinc (i := 1) (x := v1) (v := x1) rfl (by rw [ex1] <;> rfl) (by decide) (mj_dt dt_X2_findFronted 30 rfl) ?_
  refine mj_go_goto (tgt := 7) rfl (mj_dt dt_X2_findFronted 31 rfl) ?_
  refine mj_go_sub (lv' := [(0, .ref 36), (1, .int x1)]) (List.forall_mem_cons.mpr ⟨rfl, (List.forall_mem_cons.mpr ⟨rfl, (fun _ h9 => absurd h9 List.not_mem_nil)⟩)⟩) ?_
  exact q_7 _ _ h
def f_X2_findFronted_7 (N : Nat) (k_7 : Int32 × mj_m → Option (mj_m)) (s : Int32 × mj_m) : Option (mj_m) := if (s.2.1 1 7) ≤ s.1 then (some s.2) else (mj_ck (mj_b 2 4 s.1) ( if (s.2.1 (8 + s.1.toNatClampNeg) 5) = (-1 : Int32) then f_X2_findFronted_54 N k_7 s.1 s.2 else (mj_ck (mj_b 0 37 (s.2.1 36 9)) ( mj_mw (mj_wI s.2 37 ((s.2.1 36 9).toNatClampNeg) s.1) (fun m5 => mj_mw (mj_wI m5 36 9 ((m5.1 36 9) + 1)) (fun m6 => f_X2_findFronted_54 N k_7 s.1 m6))))))
theorem k_X2_findFronted_7 {L : Nat} {xs : Nat → Int32} {δ N : Nat} : ∀ (n : Nat) (s : Int32 × mj_m) (a : mj_m), mj_lp n (f_X2_findFronted_7 N) s = some a → mj_Go (mj_EX L xs) δ mY_X2_findFronted 7 [(0, .ref 36), (1, .int s.1)] [] (mj_fin s.2) (none, (mj_fin a)) := by
  refine mj_lp_sound (fun k_7 s a q_7 h => ?_)
  unfold f_X2_findFronted_7 at h
  refine mj_go_iload_n (k := 1) (x := s.1) rfl (mj_dt dt_X2_findFronted 5 rfl) ?_
  refine mj_go_aload_n (k := 0) (x := 36) rfl (mj_dt dt_X2_findFronted 6 rfl) ?_
  refine ml_getR (c := 2) (k := 0) (q := 1) fd_2_0 rf_36_0 (Or.inl fl_X2_44) ho_36 (mj_dt dt_X2_findFronted 7 rfl) ?_
  refine mk_getI (c := 7) (k := 7) (Or.inl fd_7_7) (Or.inl fl_X2_48) ho_1 (mj_dt dt_X2_findFronted 8 rfl) ?_
  refine mj_go_icmp_ge (tgt := 60) rfl (mj_dt dt_X2_findFronted 9 rfl) (fun b1 => ?_) (fun b1 => ?_)
  · rw [if_pos b1] at h
    obtain rfl := Option.some.inj h
    exact mj_go_ret (v := none) (Nat.le_of_ble_eq_true rfl) (mj_retV (mj_dt dt_X2_findFronted 32 rfl) rfl)
  · rw [if_neg b1] at h
    refine mj_go_aload_n (k := 0) (x := 36) rfl (mj_dt dt_X2_findFronted 10 rfl) ?_
    refine ml_getR (c := 2) (k := 0) (q := 1) fd_2_0 rf_36_0 (Or.inl fl_X2_44) ho_36 (mj_dt dt_X2_findFronted 11 rfl) ?_
    refine ml_getR (c := 7) (k := 2) (q := 4) fd_7_2 rf_1_2 (Or.inl fl_X2_53) ho_1 (mj_dt dt_X2_findFronted 12 rfl) ?_
    refine mj_go_iload_n (k := 1) (x := s.1) rfl (mj_dt dt_X2_findFronted 13 rfl) ?_
    obtain ⟨c2, h⟩ := mj_ck_some h
    refine ml_aald2 (q := 8 + s.1.toNatClampNeg) c2 (mj_hs4 c2).1 (mj_dt dt_X2_findFronted 14 rfl) ?_
    refine mk_getI (c := 1) (k := 5) (Or.inl fd_1_5) (Or.inl fl_X2_57) (mj_hs4 c2).2 (mj_dt dt_X2_findFronted 15 rfl) ?_
    refine mj_go_iconst (v := -1) rfl (mj_dt dt_X2_findFronted 16 rfl) ?_
    refine mj_go_icmp_eq (tgt := 54) rfl (mj_dt dt_X2_findFronted 17 rfl) (fun b3 => ?_) (fun b3 => ?_)
    · rw [if_pos b3] at h
      refine mj_go_sub (lv' := [(0, .ref 36), (1, .int s.1)]) (List.forall_mem_cons.mpr ⟨rfl, (List.forall_mem_cons.mpr ⟨rfl, (fun _ h9 => absurd h9 List.not_mem_nil)⟩)⟩) ?_
      exact k_X2_findFronted_54 q_7 h
    · rw [if_neg b3] at h
      refine mj_go_aload_n (k := 0) (x := 36) rfl (mj_dt dt_X2_findFronted 18 rfl) ?_
      refine ml_getR (c := 2) (k := 1) (q := 37) fd_2_1 rf_36_1 (Or.inl fl_X2_9) ho_36 (mj_dt dt_X2_findFronted 19 rfl) ?_
      refine mj_go_aload_n (k := 0) (x := 36) rfl (mj_dt dt_X2_findFronted 20 rfl) ?_
      refine mk_getI (c := 2) (k := 9) (Or.inl fd_2_9) (Or.inl fl_X2_37) ho_36 (mj_dt dt_X2_findFronted 21 rfl) ?_
      refine mj_go_iload_n (k := 1) (x := s.1) rfl (mj_dt dt_X2_findFronted 22 rfl) ?_
      obtain ⟨c4, h⟩ := mj_ck_some h
      obtain ⟨m5, em5, h⟩ := mj_mw_some h
      refine ml_iast c4 (mj_dt dt_X2_findFronted 23 rfl) ?_
      refine ml_eqm (M1 := (mj_fin m5)) (by rw [em5] <;> rfl) ?_
      refine mj_go_aload_n (k := 0) (x := 36) rfl (mj_dt dt_X2_findFronted 24 rfl) ?_
      refine mj_go_dup rfl (mj_dt dt_X2_findFronted 25 rfl) ?_
      refine mk_getI (c := 2) (k := 9) (Or.inl fd_2_9) (Or.inl fl_X2_37) ho_36 (mj_dt dt_X2_findFronted 26 rfl) ?_
      refine mj_go_iconst (v := 1) rfl (mj_dt dt_X2_findFronted 27 rfl) ?_
      refine mj_go_iadd (mj_dt dt_X2_findFronted 28 rfl) ?_
      obtain ⟨m6, em6, h⟩ := mj_mw_some h
      refine ml_putI (c := 2) (k := 9) fd_2_9 rfl fl_X2_37 ho_36 (mj_dt dt_X2_findFronted 29 rfl) ?_
      refine ml_eqm (M1 := (mj_fin m6)) (by rw [em6] <;> rfl) ?_
      refine mj_go_sub (lv' := [(0, .ref 36), (1, .int s.1)]) (List.forall_mem_cons.mpr ⟨rfl, (List.forall_mem_cons.mpr ⟨rfl, (fun _ h9 => absurd h9 List.not_mem_nil)⟩)⟩) ?_
      exact k_X2_findFronted_54 q_7 h
def f_X2_findFronted (N : Nat) (m : mj_m) : Option (mj_m) := mj_mw (mj_wI m 36 9 0) (fun m1 => mj_lp N (f_X2_findFronted_7 N) (0, m1))
theorem k_X2_findFronted {L : Nat} {xs : Nat → Int32} {δ N : Nat} {m : mj_m} (_ : 0 ≤ δ) {a : mj_m} (h : f_X2_findFronted N m = some a) : mj_Cl (mj_EX L xs) δ mY_X2_findFronted [.ref 36] (mj_fin m) (none, (mj_fin a)) := by
  refine mj_cl_of ok_X2_findFronted (Nat.le_of_ble_eq_true rfl) ?_
  unfold f_X2_findFronted at h
  refine mj_go_aload_n (k := 0) (x := 36) rfl (mj_dt dt_X2_findFronted 0 rfl) ?_
  refine mj_go_iconst (v := 0) rfl (mj_dt dt_X2_findFronted 1 rfl) ?_
  obtain ⟨m1, em1, h⟩ := mj_mw_some h
  refine ml_putI (c := 2) (k := 9) fd_2_9 rfl fl_X2_37 ho_36 (mj_dt dt_X2_findFronted 2 rfl) ?_
  refine ml_eqm (M1 := (mj_fin m1)) (by rw [em1] <;> rfl) ?_
  refine mj_go_iconst (v := 0) rfl (mj_dt dt_X2_findFronted 3 rfl) ?_
  refine mj_go_istore_n (k := 1) (by decide) (mj_dt dt_X2_findFronted 4 rfl) ?_
  refine mj_go_sub (lv' := [(0, .ref 36), (1, .int 0)]) (List.forall_mem_cons.mpr ⟨rfl, (List.forall_mem_cons.mpr ⟨rfl, (fun _ h9 => absurd h9 List.not_mem_nil)⟩)⟩) ?_
  exact k_X2_findFronted_7 N _ _ h
def f_X7_cutCorners_88 (N : Nat) (v2 : Int32) (m : mj_m) : Option (Int32) := some (255 &&& (v2 ^^^ (-1 : Int32)))
theorem k_X7_cutCorners_88 {L : Nat} {xs : Nat → Int32} {δ N : Nat} {v2 : Int32} {m : mj_m} {a : Int32} (h : f_X7_cutCorners_88 N v2 m = some a) : mj_Go (mj_EX L xs) δ mY_X7_cutCorners 88 [(2, .int v2)] [] (mj_fin m) (some (.int a), (mj_fin m)) := by
  unfold f_X7_cutCorners_88 at h
  refine mj_go_sipush (v := 255) rfl (mj_dt dt_X7_cutCorners 51 rfl) ?_
  refine mj_go_iload_n (k := 2) (x := v2) rfl (mj_dt dt_X7_cutCorners 52 rfl) ?_
  refine mj_go_iconst (v := -1) rfl (mj_dt dt_X7_cutCorners 53 rfl) ?_
  refine mj_go_ixor (mj_dt dt_X7_cutCorners 54 rfl) ?_
  refine mj_go_iand (mj_dt dt_X7_cutCorners 55 rfl) ?_
  obtain rfl := Option.some.inj h
  exact mj_go_ret (v := some (.int (255 &&& (v2 ^^^ (-1 : Int32))))) (Nat.le_of_ble_eq_true rfl) (mj_retI (mj_dt dt_X7_cutCorners 56 rfl) rfl)
def f_X7_cutCorners_67 (N : Nat) (k_4 : Int32 × Int32 → Option (Int32)) (k_16 : Int32 × Int32 → Option (Int32)) (v1 : Int32) (v2 : Int32) (v3 : Int32) (v4 : Int32) (v5 : Int32) (m : mj_m) : Option (Int32) := mj_mw (v5 + 1) (fun x1 => k_16 (v2, x1))
theorem k_X7_cutCorners_67 {L : Nat} {xs : Nat → Int32} {δ N : Nat} {v1 : Int32} {v2 : Int32} {v3 : Int32} {v4 : Int32} {v5 : Int32} {m : mj_m} {k_4 : Int32 × Int32 → Option (Int32)} (q_4 : ∀ (s_ : Int32 × Int32) (a_ : Int32), k_4 s_ = some a_ → mj_Go (mj_EX L xs) δ mY_X7_cutCorners 4 [(0, .ref 1), (1, .int v1), (2, .int s_.1), (3, .int s_.2)] [] (mj_fin m) (some (.int a_), (mj_fin m))) {k_16 : Int32 × Int32 → Option (Int32)} (q_16 : ∀ (s_ : Int32 × Int32) (a_ : Int32), k_16 s_ = some a_ → mj_Go (mj_EX L xs) δ mY_X7_cutCorners 16 [(0, .ref 1), (1, .int v1), (2, .int s_.1), (3, .int v3), (4, .int v4), (5, .int s_.2)] [] (mj_fin m) (some (.int a_), (mj_fin m))) {a : Int32} (h : f_X7_cutCorners_67 N k_4 k_16 v1 v2 v3 v4 v5 m = some a) : mj_Go (mj_EX L xs) δ mY_X7_cutCorners 67 [(0, .ref 1), (1, .int v1), (2, .int v2), (3, .int v3), (4, .int v4), (5, .int v5)] [] (mj_fin m) (some (.int a), (mj_fin m)) := by
  unfold f_X7_cutCorners_67 at h
  obtain ⟨x1, ex1, h⟩ := mj_mw_some h
  refine mj_go_iinc (i := 5) (x := v5) (v := x1) rfl (by rw [ex1] <;> rfl) (by decide) (mj_dt dt_X7_cutCorners 43 rfl) ?_
  refine mj_go_goto (tgt := 16) rfl (mj_dt dt_X7_cutCorners 44 rfl) ?_
  refine mj_go_sub (lv' := [(0, .ref 1), (1, .int v1), (2, .int v2), (3, .int v3), (4, .int v4), (5, .int x1)]) (List.forall_mem_cons.mpr ⟨rfl, (List.forall_mem_cons.mpr ⟨rfl, (List.forall_mem_cons.mpr ⟨rfl, (List.forall_mem_cons.mpr ⟨rfl, (List.forall_mem_cons.mpr ⟨rfl, (List.forall_mem_cons.mpr ⟨rfl, (fun _ h9 => absurd h9 List.not_mem_nil)⟩)⟩)⟩)⟩)⟩)⟩) ?_
  exact q_16 _ _ h
def f_X7_cutCorners_16 (N : Nat) (k_4 : Int32 × Int32 → Option (Int32)) (v1 : Int32) (v3 : Int32) (v4 : Int32) (m : mj_m) (k_16 : Int32 × Int32 → Option (Int32)) (s : Int32 × Int32) : Option (Int32) := if (m.1 1 6) ≤ s.2 then (if s.1 = v4 then (f_X7_cutCorners_88 N s.1 m) else (mj_mw (v3 + 1) (fun x3 => k_4 (s.1, x3)))) else (mj_ck (mj_b 0 2 s.2) ( mj_ck (mj_b 0 3 s.2) ( mj_mw ((1 <<< ((m.1 2 s.2.toNatClampNeg) &&& 31)) ||| (1 <<< ((m.1 3 s.2.toNatClampNeg) &&& 31))) (fun x4 => if ((v1 >>> (s.2 &&& 31)) &&& 1) = 0 then (if (s.1 &&& x4) = 0 then f_X7_cutCorners_67 N k_4 k_16 v1 s.1 v3 v4 s.2 m else (mj_mw (s.1 ||| x4) (fun x7 => f_X7_cutCorners_67 N k_4 k_16 v1 x7 v3 v4 s.2 m))) else f_X7_cutCorners_67 N k_4 k_16 v1 s.1 v3 v4 s.2 m))))
theorem k_X7_cutCorners_16 {L : Nat} {xs : Nat → Int32} {δ N : Nat} {v1 : Int32} {v3 : Int32} {v4 : Int32} {m : mj_m} {k_4 : Int32 × Int32 → Option (Int32)} (q_4 : ∀ (s_ : Int32 × Int32) (a_ : Int32), k_4 s_ = some a_ → mj_Go (mj_EX L xs) δ mY_X7_cutCorners 4 [(0, .ref 1), (1, .int v1), (2, .int s_.1), (3, .int s_.2)] [] (mj_fin m) (some (.int a_), (mj_fin m))) : ∀ (n : Nat) (s : Int32 × Int32) (a : Int32), mj_lp n (f_X7_cutCorners_16 N k_4 v1 v3 v4 m) s = some a → mj_Go (mj_EX L xs) δ mY_X7_cutCorners 16 [(0, .ref 1), (1, .int v1), (2, .int s.1), (3, .int v3), (4, .int v4), (5, .int s.2)] [] (mj_fin m) (some (.int a), (mj_fin m)) := by
  refine mj_lp_sound (fun k_16 s a q_16 h => ?_)
  unfold f_X7_cutCorners_16 at h
  refine mj_go_iload (i := 5) (x := s.2) rfl (mj_dt dt_X7_cutCorners 11 rfl) ?_
  refine mj_go_aload_n (k := 0) (x := 1) rfl (mj_dt dt_X7_cutCorners 12 rfl) ?_
  refine mk_getI (c := 7) (k := 6) (Or.inl fd_7_6) (Or.inl fl_X7_33) ho_1 (mj_dt dt_X7_cutCorners 13 rfl) ?_
  refine mj_go_icmp_ge (tgt := 73) rfl (mj_dt dt_X7_cutCorners 14 rfl) (fun b1 => ?_) (fun b1 => ?_)
  · rw [if_pos b1] at h
    refine mj_go_iload_n (k := 2) (x := s.1) rfl (mj_dt dt_X7_cutCorners 45 rfl) ?_
    refine mj_go_iload (i := 4) (x := v4) rfl (mj_dt dt_X7_cutCorners 46 rfl) ?_
    refine mj_go_icmp_ne (tgt := 82) rfl (mj_dt dt_X7_cutCorners 47 rfl) (fun b2 => ?_) (fun b2 => ?_)
    · rw [if_neg b2] at h
      obtain ⟨x3, ex3, h⟩ := mj_mw_some h
      refine mj_go_iinc (i := 3) (x := v3) (v := x3) rfl (by rw [ex3] <;> rfl) (by decide) (mj_dt dt_X7_cutCorners 49 rfl) ?_
      refine mj_go_goto (tgt := 4) rfl (mj_dt dt_X7_cutCorners 50 rfl) ?_
      refine mj_go_sub (lv' := [(0, .ref 1), (1, .int v1), (2, .int s.1), (3, .int x3)]) (List.forall_mem_cons.mpr ⟨rfl, (List.forall_mem_cons.mpr ⟨rfl, (List.forall_mem_cons.mpr ⟨rfl, (List.forall_mem_cons.mpr ⟨rfl, (fun _ h9 => absurd h9 List.not_mem_nil)⟩)⟩)⟩)⟩) ?_
      exact q_4 _ _ h
    · rw [if_pos b2] at h
      refine mj_go_goto (tgt := 88) rfl (mj_dt dt_X7_cutCorners 48 rfl) ?_
      refine mj_go_sub (lv' := [(2, .int s.1)]) (List.forall_mem_cons.mpr ⟨rfl, (fun _ h9 => absurd h9 List.not_mem_nil)⟩) ?_
      exact k_X7_cutCorners_88 h
  · rw [if_neg b1] at h
    refine mj_go_iconst (v := 1) rfl (mj_dt dt_X7_cutCorners 15 rfl) ?_
    refine mj_go_aload_n (k := 0) (x := 1) rfl (mj_dt dt_X7_cutCorners 16 rfl) ?_
    refine ml_getR (c := 7) (k := 0) (q := 2) fd_7_0 rf_1_0 (Or.inl fl_X7_9) ho_1 (mj_dt dt_X7_cutCorners 17 rfl) ?_
    refine mj_go_iload (i := 5) (x := s.2) rfl (mj_dt dt_X7_cutCorners 18 rfl) ?_
    obtain ⟨c2, h⟩ := mj_ck_some h
    refine mk_iald c2 (mj_dt dt_X7_cutCorners 19 rfl) ?_
    refine mj_go_ishl (mj_dt dt_X7_cutCorners 20 rfl) ?_
    refine mj_go_iconst (v := 1) rfl (mj_dt dt_X7_cutCorners 21 rfl) ?_
    refine mj_go_aload_n (k := 0) (x := 1) rfl (mj_dt dt_X7_cutCorners 22 rfl) ?_
    refine ml_getR (c := 7) (k := 1) (q := 3) fd_7_1 rf_1_1 (Or.inl fl_X7_15) ho_1 (mj_dt dt_X7_cutCorners 23 rfl) ?_
    refine mj_go_iload (i := 5) (x := s.2) rfl (mj_dt dt_X7_cutCorners 24 rfl) ?_
    obtain ⟨c3, h⟩ := mj_ck_some h
    refine mk_iald c3 (mj_dt dt_X7_cutCorners 25 rfl) ?_
    refine mj_go_ishl (mj_dt dt_X7_cutCorners 26 rfl) ?_
    refine mj_go_ior (mj_dt dt_X7_cutCorners 27 rfl) ?_
    obtain ⟨x4, ex4, h⟩ := mj_mw_some h
    refine ml_eqi ex4 ?_
    refine mj_go_istore (i := 6) (by decide) (mj_dt dt_X7_cutCorners 28 rfl) ?_
    refine mj_go_iload_n (k := 1) (x := v1) rfl (mj_dt dt_X7_cutCorners 29 rfl) ?_
    refine mj_go_iload (i := 5) (x := s.2) rfl (mj_dt dt_X7_cutCorners 30 rfl) ?_
    refine mj_go_ishr (mj_dt dt_X7_cutCorners 31 rfl) ?_
    refine mj_go_iconst (v := 1) rfl (mj_dt dt_X7_cutCorners 32 rfl) ?_
    refine mj_go_iand (mj_dt dt_X7_cutCorners 33 rfl) ?_
    refine mj_go_if_ne (tgt := 67) rfl (mj_dt dt_X7_cutCorners 34 rfl) (fun b5 => ?_) (fun b5 => ?_)
    · rw [if_neg b5] at h
      refine mj_go_sub (lv' := [(0, .ref 1), (1, .int v1), (2, .int s.1), (3, .int v3), (4, .int v4), (5, .int s.2)]) (List.forall_mem_cons.mpr ⟨rfl, (List.forall_mem_cons.mpr ⟨rfl, (List.forall_mem_cons.mpr ⟨rfl, (List.forall_mem_cons.mpr ⟨rfl, (List.forall_mem_cons.mpr ⟨rfl, (List.forall_mem_cons.mpr ⟨rfl, (fun _ h9 => absurd h9 List.not_mem_nil)⟩)⟩)⟩)⟩)⟩)⟩) ?_
      exact k_X7_cutCorners_67 q_4 q_16 h
    · rw [if_pos b5] at h
      refine mj_go_iload_n (k := 2) (x := s.1) rfl (mj_dt dt_X7_cutCorners 35 rfl) ?_
      refine mj_go_iload (i := 6) (x := x4) rfl (mj_dt dt_X7_cutCorners 36 rfl) ?_
      refine mj_go_iand (mj_dt dt_X7_cutCorners 37 rfl) ?_
      refine mj_go_if_eq (tgt := 67) rfl (mj_dt dt_X7_cutCorners 38 rfl) (fun b6 => ?_) (fun b6 => ?_)
      · rw [if_pos b6] at h
        refine mj_go_sub (lv' := [(0, .ref 1), (1, .int v1), (2, .int s.1), (3, .int v3), (4, .int v4), (5, .int s.2)]) (List.forall_mem_cons.mpr ⟨rfl, (List.forall_mem_cons.mpr ⟨rfl, (List.forall_mem_cons.mpr ⟨rfl, (List.forall_mem_cons.mpr ⟨rfl, (List.forall_mem_cons.mpr ⟨rfl, (List.forall_mem_cons.mpr ⟨rfl, (fun _ h9 => absurd h9 List.not_mem_nil)⟩)⟩)⟩)⟩)⟩)⟩) ?_
        exact k_X7_cutCorners_67 q_4 q_16 h
      · rw [if_neg b6] at h
        refine mj_go_iload_n (k := 2) (x := s.1) rfl (mj_dt dt_X7_cutCorners 39 rfl) ?_
        refine mj_go_iload (i := 6) (x := x4) rfl (mj_dt dt_X7_cutCorners 40 rfl) ?_
        refine mj_go_ior (mj_dt dt_X7_cutCorners 41 rfl) ?_
        obtain ⟨x7, ex7, h⟩ := mj_mw_some h
        refine ml_eqi ex7 ?_
        refine mj_go_istore_n (k := 2) (by decide) (mj_dt dt_X7_cutCorners 42 rfl) ?_
        refine mj_go_sub (lv' := [(0, .ref 1), (1, .int v1), (2, .int x7), (3, .int v3), (4, .int v4), (5, .int s.2)]) (List.forall_mem_cons.mpr ⟨rfl, (List.forall_mem_cons.mpr ⟨rfl, (List.forall_mem_cons.mpr ⟨rfl, (List.forall_mem_cons.mpr ⟨rfl, (List.forall_mem_cons.mpr ⟨rfl, (List.forall_mem_cons.mpr ⟨rfl, (fun _ h9 => absurd h9 List.not_mem_nil)⟩)⟩)⟩)⟩)⟩)⟩) ?_
        exact k_X7_cutCorners_67 q_4 q_16 h
def f_X7_cutCorners_4 (N : Nat) (v1 : Int32) (m : mj_m) (k_4 : Int32 × Int32 → Option (Int32)) (s : Int32 × Int32) : Option (Int32) := if 8 ≤ s.2 then f_X7_cutCorners_88 N s.1 m else (mj_lp N (f_X7_cutCorners_16 N k_4 v1 s.2 s.1 m) (s.1, 0))
theorem k_X7_cutCorners_4 {L : Nat} {xs : Nat → Int32} {δ N : Nat} {v1 : Int32} {m : mj_m} : ∀ (n : Nat) (s : Int32 × Int32) (a : Int32), mj_lp n (f_X7_cutCorners_4 N v1 m) s = some a → mj_Go (mj_EX L xs) δ mY_X7_cutCorners 4 [(0, .ref 1), (1, .int v1), (2, .int s.1), (3, .int s.2)] [] (mj_fin m) (some (.int a), (mj_fin m)) := by
  refine mj_lp_sound (fun k_4 s a q_4 h => ?_)
  unfold f_X7_cutCorners_4 at h
  refine mj_go_iload_n (k := 3) (x := s.2) rfl (mj_dt dt_X7_cutCorners 4 rfl) ?_
  refine mj_go_bipush (v := 8) rfl (mj_dt dt_X7_cutCorners 5 rfl) ?_
  refine mj_go_icmp_ge (tgt := 88) rfl (mj_dt dt_X7_cutCorners 6 rfl) (fun b1 => ?_) (fun b1 => ?_)
  · rw [if_pos b1] at h
    refine mj_go_sub (lv' := [(2, .int s.1)]) (List.forall_mem_cons.mpr ⟨rfl, (fun _ h9 => absurd h9 List.not_mem_nil)⟩) ?_
    exact k_X7_cutCorners_88 h
  · rw [if_neg b1] at h
    refine mj_go_iload_n (k := 2) (x := s.1) rfl (mj_dt dt_X7_cutCorners 7 rfl) ?_
    refine mj_go_istore (i := 4) (by decide) (mj_dt dt_X7_cutCorners 8 rfl) ?_
    refine mj_go_iconst (v := 0) rfl (mj_dt dt_X7_cutCorners 9 rfl) ?_
    refine mj_go_istore (i := 5) (by decide) (mj_dt dt_X7_cutCorners 10 rfl) ?_
    refine mj_go_sub (lv' := [(0, .ref 1), (1, .int v1), (2, .int s.1), (3, .int s.2), (4, .int s.1), (5, .int 0)]) (List.forall_mem_cons.mpr ⟨rfl, (List.forall_mem_cons.mpr ⟨rfl, (List.forall_mem_cons.mpr ⟨rfl, (List.forall_mem_cons.mpr ⟨rfl, (List.forall_mem_cons.mpr ⟨rfl, (List.forall_mem_cons.mpr ⟨rfl, (fun _ h9 => absurd h9 List.not_mem_nil)⟩)⟩)⟩)⟩)⟩)⟩) ?_
    exact k_X7_cutCorners_16 q_4 N _ _ h
def f_X7_cutCorners (N : Nat) (v1 : Int32) (m : mj_m) : Option (Int32) := mj_lp N (f_X7_cutCorners_4 N v1 m) (1, 1)
theorem k_X7_cutCorners {L : Nat} {xs : Nat → Int32} {δ N : Nat} {v1 : Int32} {m : mj_m} (_ : 0 ≤ δ) {a : Int32} (h : f_X7_cutCorners N v1 m = some a) : mj_Cl (mj_EX L xs) δ mY_X7_cutCorners [.ref 1, .int v1] (mj_fin m) (some (.int a), (mj_fin m)) := by
  refine mj_cl_of ok_X7_cutCorners (Nat.le_of_ble_eq_true rfl) ?_
  unfold f_X7_cutCorners at h
  refine mj_go_iconst (v := 1) rfl (mj_dt dt_X7_cutCorners 0 rfl) ?_
  refine mj_go_istore_n (k := 2) (by decide) (mj_dt dt_X7_cutCorners 1 rfl) ?_
  refine mj_go_iconst (v := 1) rfl (mj_dt dt_X7_cutCorners 2 rfl) ?_
  refine mj_go_istore_n (k := 3) (by decide) (mj_dt dt_X7_cutCorners 3 rfl) ?_
  refine mj_go_sub (lv' := [(0, .ref 1), (1, .int v1), (2, .int 1), (3, .int 1)]) (List.forall_mem_cons.mpr ⟨rfl, (List.forall_mem_cons.mpr ⟨rfl, (List.forall_mem_cons.mpr ⟨rfl, (List.forall_mem_cons.mpr ⟨rfl, (fun _ h9 => absurd h9 List.not_mem_nil)⟩)⟩)⟩)⟩) ?_
  exact k_X7_cutCorners_4 N _ _ h
def f_X7_frontBit (N : Nat) (v1 : Int32) (m : mj_m) : Option (Int32) := mj_ck (mj_b 2 4 v1) ( if (m.1 (8 + v1.toNatClampNeg) 5) = (-1 : Int32) then ((some 0)) else ((some (1 <<< ((m.1 (8 + v1.toNatClampNeg) 5) &&& 31)))))
theorem k_X7_frontBit {L : Nat} {xs : Nat → Int32} {δ N : Nat} {v1 : Int32} {m : mj_m} (_ : 0 ≤ δ) {a : Int32} (h : f_X7_frontBit N v1 m = some a) : mj_Cl (mj_EX L xs) δ mY_X7_frontBit [.ref 1, .int v1] (mj_fin m) (some (.int a), (mj_fin m)) := by
  refine mj_cl_of ok_X7_frontBit (Nat.le_of_ble_eq_true rfl) ?_
  unfold f_X7_frontBit at h
  refine mj_go_aload_n (k := 0) (x := 1) rfl (mj_dt dt_X7_frontBit 0 rfl) ?_
  refine ml_getR (c := 7) (k := 2) (q := 4) fd_7_2 rf_1_2 (Or.inl fl_X7_20) ho_1 (mj_dt dt_X7_frontBit 1 rfl) ?_
  refine mj_go_iload_n (k := 1) (x := v1) rfl (mj_dt dt_X7_frontBit 2 rfl) ?_
  obtain ⟨c1, h⟩ := mj_ck_some h
  refine ml_aald2 (q := 8 + v1.toNatClampNeg) c1 (mj_hs4 c1).1 (mj_dt dt_X7_frontBit 3 rfl) ?_
  refine mk_getI (c := 1) (k := 5) (Or.inl fd_1_5) (Or.inl fl_X7_90) (mj_hs4 c1).2 (mj_dt dt_X7_frontBit 4 rfl) ?_
  refine mj_go_iconst (v := -1) rfl (mj_dt dt_X7_frontBit 5 rfl) ?_
  refine mj_go_icmp_eq (tgt := 27) rfl (mj_dt dt_X7_frontBit 6 rfl) (fun b2 => ?_) (fun b2 => ?_)
  · rw [if_pos b2] at h
    refine mj_go_iconst (v := 0) rfl (mj_dt dt_X7_frontBit 15 rfl) ?_
    obtain rfl := Option.some.inj h
    exact mj_go_ret (v := some (.int 0)) (Nat.le_of_ble_eq_true rfl) (mj_retI (mj_dt dt_X7_frontBit 16 rfl) rfl)
  · rw [if_neg b2] at h
    refine mj_go_iconst (v := 1) rfl (mj_dt dt_X7_frontBit 7 rfl) ?_
    refine mj_go_aload_n (k := 0) (x := 1) rfl (mj_dt dt_X7_frontBit 8 rfl) ?_
    refine ml_getR (c := 7) (k := 2) (q := 4) fd_7_2 rf_1_2 (Or.inl fl_X7_20) ho_1 (mj_dt dt_X7_frontBit 9 rfl) ?_
    refine mj_go_iload_n (k := 1) (x := v1) rfl (mj_dt dt_X7_frontBit 10 rfl) ?_
    refine ml_aald2 (q := 8 + v1.toNatClampNeg) c1 (mj_hs4 c1).1 (mj_dt dt_X7_frontBit 11 rfl) ?_
    refine mk_getI (c := 1) (k := 5) (Or.inl fd_1_5) (Or.inl fl_X7_90) (mj_hs4 c1).2 (mj_dt dt_X7_frontBit 12 rfl) ?_
    refine mj_go_ishl (mj_dt dt_X7_frontBit 13 rfl) ?_
    refine mj_go_goto (tgt := 28) rfl (mj_dt dt_X7_frontBit 14 rfl) ?_
    obtain rfl := Option.some.inj h
    exact mj_go_ret (v := some (.int (1 <<< ((m.1 (8 + v1.toNatClampNeg) 5) &&& 31)))) (Nat.le_of_ble_eq_true rfl) (mj_retI (mj_dt dt_X7_frontBit 16 rfl) rfl)
def f_X2_cutBySets_119 (N : Nat) (k_23 : Int32 × mj_m → Option (mj_m)) (k_52 : Int32 × mj_m → Option (mj_m)) (v1 : Int32) (v2 : Int32) (v3 : Int32) (v4 : Int32) (s1 : Int32) (s2 : Int32) (m : mj_m) : Option (mj_m) := mj_ck (mj_b 0 41 s1) ( mj_mw (mj_wI m 41 (s1.toNatClampNeg) s2) (fun m2 => mj_mw (v4 + 1) (fun x3 => k_52 (x3, m2))))
theorem k_X2_cutBySets_119 {L : Nat} {xs : Nat → Int32} {δ N : Nat} {v1 : Int32} {v2 : Int32} {v3 : Int32} {v4 : Int32} {s1 : Int32} {s2 : Int32} {m : mj_m} {k_23 : Int32 × mj_m → Option (mj_m)} (q_23 : ∀ (s_ : Int32 × mj_m) (a_ : mj_m), k_23 s_ = some a_ → mj_Go (mj_EX L xs) (δ + 1) mY_X2_cutBySets 23 [(0, .ref 36), (1, .int s_.1)] [] (mj_fin s_.2) (none, (mj_fin a_))) {k_52 : Int32 × mj_m → Option (mj_m)} (q_52 : ∀ (s_ : Int32 × mj_m) (a_ : mj_m), k_52 s_ = some a_ → mj_Go (mj_EX L xs) (δ + 1) mY_X2_cutBySets 52 [(0, .ref 36), (1, .int v1), (2, .int v2), (3, .int v3), (4, .int s_.1)] [] (mj_fin s_.2) (none, (mj_fin a_))) (hδ : 0 ≤ δ) {a : mj_m} (h : f_X2_cutBySets_119 N k_23 k_52 v1 v2 v3 v4 s1 s2 m = some a) : mj_Go (mj_EX L xs) (δ + 1) mY_X2_cutBySets 119 [(0, .ref 36), (1, .int v1), (2, .int v2), (3, .int v3), (4, .int v4)] [.int s2, .int s1, .ref 41] (mj_fin m) (none, (mj_fin a)) := by
  unfold f_X2_cutBySets_119 at h
  obtain ⟨c1, h⟩ := mj_ck_some h
  obtain ⟨m2, em2, h⟩ := mj_mw_some h
  refine ml_iast c1 (mj_dt dt_X2_cutBySets 70 rfl) ?_
  refine ml_eqm (M1 := (mj_fin m2)) (by rw [em2] <;> rfl) ?_
  obtain ⟨x3, ex3, h⟩ := mj_mw_some h
  refine mj_go_iinc (i := 4) (x := v4) (v := x3) rfl (by rw [ex3] <;> rfl) (by decide) (mj_dt dt_X2_cutBySets 71 rfl) ?_
  refine mj_go_goto (tgt := 52) rfl (mj_dt dt_X2_cutBySets 72 rfl) ?_
  refine mj_go_sub (lv' := [(0, .ref 36), (1, .int v1), (2, .int v2), (3, .int v3), (4, .int x3)]) (List.forall_mem_cons.mpr ⟨rfl, (List.forall_mem_cons.mpr ⟨rfl, (List.forall_mem_cons.mpr ⟨rfl, (List.forall_mem_cons.mpr ⟨rfl, (List.forall_mem_cons.mpr ⟨rfl, (fun _ h9 => absurd h9 List.not_mem_nil)⟩)⟩)⟩)⟩)⟩) ?_
  exact q_52 _ _ h
def f_X2_cutBySets_52 (N : Nat) (k_23 : Int32 × mj_m → Option (mj_m)) (v1 : Int32) (v2 : Int32) (v3 : Int32) (k_52 : Int32 × mj_m → Option (mj_m)) (s : Int32 × mj_m) : Option (mj_m) := if v2 ≤ s.1 then (mj_mw (v1 + 1) (fun x2 => k_23 (x2, s.2))) else (mj_ck (mj_b 0 40 s.1) ( mj_mw ((s.2.1 40 s.1.toNatClampNeg) ||| v3) (fun x3 => mj_ck (mj_b 0 40 (v2 + s.1)) ( mj_mw (mj_wI s.2 40 ((v2 + s.1).toNatClampNeg) x3) (fun m5 => if x3 = (m5.1 40 s.1.toNatClampNeg) then (mj_ck (mj_b 0 41 s.1) ( f_X2_cutBySets_119 N k_23 k_52 v1 v2 v3 s.1 (v2 + s.1) (m5.1 41 s.1.toNatClampNeg) m5)) else ((f_X7_cutCorners N x3 m5).bind (fun r7 => f_X2_cutBySets_119 N k_23 k_52 v1 v2 v3 s.1 (v2 + s.1) r7 m5)))))))
theorem k_X2_cutBySets_52 {L : Nat} {xs : Nat → Int32} {δ N : Nat} {v1 : Int32} {v2 : Int32} {v3 : Int32} {k_23 : Int32 × mj_m → Option (mj_m)} (q_23 : ∀ (s_ : Int32 × mj_m) (a_ : mj_m), k_23 s_ = some a_ → mj_Go (mj_EX L xs) (δ + 1) mY_X2_cutBySets 23 [(0, .ref 36), (1, .int s_.1)] [] (mj_fin s_.2) (none, (mj_fin a_))) (hδ : 0 ≤ δ) : ∀ (n : Nat) (s : Int32 × mj_m) (a : mj_m), mj_lp n (f_X2_cutBySets_52 N k_23 v1 v2 v3) s = some a → mj_Go (mj_EX L xs) (δ + 1) mY_X2_cutBySets 52 [(0, .ref 36), (1, .int v1), (2, .int v2), (3, .int v3), (4, .int s.1)] [] (mj_fin s.2) (none, (mj_fin a)) := by
  refine mj_lp_sound (fun k_52 s a q_52 h => ?_)
  unfold f_X2_cutBySets_52 at h
  refine mj_go_iload (i := 4) (x := s.1) rfl (mj_dt dt_X2_cutBySets 33 rfl) ?_
  refine mj_go_iload_n (k := 2) (x := v2) rfl (mj_dt dt_X2_cutBySets 34 rfl) ?_
  refine mj_go_icmp_ge (tgt := 126) rfl (mj_dt dt_X2_cutBySets 35 rfl) (fun b1 => ?_) (fun b1 => ?_)
  · rw [if_pos b1] at h
    obtain ⟨x2, ex2, h⟩ := mj_mw_some h
    refine mj_go_iinc (i := 1) (x := v1) (v := x2) rfl (by rw [ex2] <;> rfl) (by decide) (mj_dt dt_X2_cutBySets 73 rfl) ?_
    refine mj_go_goto (tgt := 23) rfl (mj_dt dt_X2_cutBySets 74 rfl) ?_
    refine mj_go_sub (lv' := [(0, .ref 36), (1, .int x2)]) (List.forall_mem_cons.mpr ⟨rfl, (List.forall_mem_cons.mpr ⟨rfl, (fun _ h9 => absurd h9 List.not_mem_nil)⟩)⟩) ?_
    exact q_23 _ _ h
  · rw [if_neg b1] at h
    refine mj_go_aload_n (k := 0) (x := 36) rfl (mj_dt dt_X2_cutBySets 36 rfl) ?_
    refine ml_getR (c := 2) (k := 4) (q := 40) fd_2_4 rf_36_4 (Or.inl fl_X2_21) ho_36 (mj_dt dt_X2_cutBySets 37 rfl) ?_
    refine mj_go_iload (i := 4) (x := s.1) rfl (mj_dt dt_X2_cutBySets 38 rfl) ?_
    obtain ⟨c2, h⟩ := mj_ck_some h
    refine mk_iald c2 (mj_dt dt_X2_cutBySets 39 rfl) ?_
    refine mj_go_iload_n (k := 3) (x := v3) rfl (mj_dt dt_X2_cutBySets 40 rfl) ?_
    refine mj_go_ior (mj_dt dt_X2_cutBySets 41 rfl) ?_
    obtain ⟨x3, ex3, h⟩ := mj_mw_some h
    refine ml_eqi ex3 ?_
    refine mj_go_istore (i := 5) (by decide) (mj_dt dt_X2_cutBySets 42 rfl) ?_
    refine mj_go_aload_n (k := 0) (x := 36) rfl (mj_dt dt_X2_cutBySets 43 rfl) ?_
    refine ml_getR (c := 2) (k := 4) (q := 40) fd_2_4 rf_36_4 (Or.inl fl_X2_21) ho_36 (mj_dt dt_X2_cutBySets 44 rfl) ?_
    refine mj_go_iload_n (k := 2) (x := v2) rfl (mj_dt dt_X2_cutBySets 45 rfl) ?_
    refine mj_go_iload (i := 4) (x := s.1) rfl (mj_dt dt_X2_cutBySets 46 rfl) ?_
    refine mj_go_iadd (mj_dt dt_X2_cutBySets 47 rfl) ?_
    refine mj_go_iload (i := 5) (x := x3) rfl (mj_dt dt_X2_cutBySets 48 rfl) ?_
    obtain ⟨c4, h⟩ := mj_ck_some h
    obtain ⟨m5, em5, h⟩ := mj_mw_some h
    refine ml_iast c4 (mj_dt dt_X2_cutBySets 49 rfl) ?_
    refine ml_eqm (M1 := (mj_fin m5)) (by rw [em5] <;> rfl) ?_
    refine mj_go_aload_n (k := 0) (x := 36) rfl (mj_dt dt_X2_cutBySets 50 rfl) ?_
    refine ml_getR (c := 2) (k := 5) (q := 41) fd_2_5 rf_36_5 (Or.inl fl_X2_24) ho_36 (mj_dt dt_X2_cutBySets 51 rfl) ?_
    refine mj_go_iload_n (k := 2) (x := v2) rfl (mj_dt dt_X2_cutBySets 52 rfl) ?_
    refine mj_go_iload (i := 4) (x := s.1) rfl (mj_dt dt_X2_cutBySets 53 rfl) ?_
    refine mj_go_iadd (mj_dt dt_X2_cutBySets 54 rfl) ?_
    refine mj_go_iload (i := 5) (x := x3) rfl (mj_dt dt_X2_cutBySets 55 rfl) ?_
    refine mj_go_aload_n (k := 0) (x := 36) rfl (mj_dt dt_X2_cutBySets 56 rfl) ?_
    refine ml_getR (c := 2) (k := 4) (q := 40) fd_2_4 rf_36_4 (Or.inl fl_X2_21) ho_36 (mj_dt dt_X2_cutBySets 57 rfl) ?_
    refine mj_go_iload (i := 4) (x := s.1) rfl (mj_dt dt_X2_cutBySets 58 rfl) ?_
    refine mk_iald c2 (mj_dt dt_X2_cutBySets 59 rfl) ?_
    refine mj_go_icmp_ne (tgt := 110) rfl (mj_dt dt_X2_cutBySets 60 rfl) (fun b6 => ?_) (fun b6 => ?_)
    · rw [if_neg b6] at h
      refine mj_go_aload_n (k := 0) (x := 36) rfl (mj_dt dt_X2_cutBySets 66 rfl) ?_
      refine ml_getR (c := 2) (k := 0) (q := 1) fd_2_0 rf_36_0 (Or.inl fl_X2_44) ho_36 (mj_dt dt_X2_cutBySets 67 rfl) ?_
      refine mj_go_iload (i := 5) (x := x3) rfl (mj_dt dt_X2_cutBySets 68 rfl) ?_
      obtain ⟨r7, er7, h⟩ := mj_bind_some h
      refine ml_callV (Y' := mY_X7_cutCorners) (as := [.int x3]) (rest := [.int (v2 + s.1), .ref 41]) (c := 7) (v := (some (.int r7))) (M1 := (mj_fin m5)) ho_1 rfl lm_X2_62 wc_X7_cutCorners pl_X7_cutCorners ok_X7_cutCorners rfl rfl (Nat.le_of_ble_eq_true rfl) (k_X7_cutCorners (by omega) er7) (mj_dt dt_X2_cutBySets 69 rfl) ?_
      refine mj_go_sub (lv' := [(0, .ref 36), (1, .int v1), (2, .int v2), (3, .int v3), (4, .int s.1)]) (List.forall_mem_cons.mpr ⟨rfl, (List.forall_mem_cons.mpr ⟨rfl, (List.forall_mem_cons.mpr ⟨rfl, (List.forall_mem_cons.mpr ⟨rfl, (List.forall_mem_cons.mpr ⟨rfl, (fun _ h9 => absurd h9 List.not_mem_nil)⟩)⟩)⟩)⟩)⟩) ?_
      exact k_X2_cutBySets_119 q_23 q_52 hδ h
    · rw [if_pos b6] at h
      refine mj_go_aload_n (k := 0) (x := 36) rfl (mj_dt dt_X2_cutBySets 61 rfl) ?_
      refine ml_getR (c := 2) (k := 5) (q := 41) fd_2_5 rf_36_5 (Or.inl fl_X2_24) ho_36 (mj_dt dt_X2_cutBySets 62 rfl) ?_
      refine mj_go_iload (i := 4) (x := s.1) rfl (mj_dt dt_X2_cutBySets 63 rfl) ?_
      obtain ⟨c7, h⟩ := mj_ck_some h
      refine mk_iald c7 (mj_dt dt_X2_cutBySets 64 rfl) ?_
      refine mj_go_goto (tgt := 119) rfl (mj_dt dt_X2_cutBySets 65 rfl) ?_
      refine mj_go_sub (lv' := [(0, .ref 36), (1, .int v1), (2, .int v2), (3, .int v3), (4, .int s.1)]) (List.forall_mem_cons.mpr ⟨rfl, (List.forall_mem_cons.mpr ⟨rfl, (List.forall_mem_cons.mpr ⟨rfl, (List.forall_mem_cons.mpr ⟨rfl, (List.forall_mem_cons.mpr ⟨rfl, (fun _ h9 => absurd h9 List.not_mem_nil)⟩)⟩)⟩)⟩)⟩) ?_
      exact k_X2_cutBySets_119 q_23 q_52 hδ h
def f_X2_cutBySets_23 (N : Nat) (k_23 : Int32 × mj_m → Option (mj_m)) (s : Int32 × mj_m) : Option (mj_m) := if (s.2.1 36 9) ≤ s.1 then (some s.2) else (mj_mw (1 <<< (s.1 &&& 31)) (fun x2 => mj_ck (mj_b 0 37 s.1) ( (f_X7_frontBit N (s.2.1 37 s.1.toNatClampNeg) s.2).bind (fun r4 => mj_lp N (f_X2_cutBySets_52 N k_23 s.1 x2 r4) (0, s.2)))))
theorem k_X2_cutBySets_23 {L : Nat} {xs : Nat → Int32} {δ N : Nat} (hδ : 0 ≤ δ) : ∀ (n : Nat) (s : Int32 × mj_m) (a : mj_m), mj_lp n (f_X2_cutBySets_23 N) s = some a → mj_Go (mj_EX L xs) (δ + 1) mY_X2_cutBySets 23 [(0, .ref 36), (1, .int s.1)] [] (mj_fin s.2) (none, (mj_fin a)) := by
  refine mj_lp_sound (fun k_23 s a q_23 h => ?_)
  unfold f_X2_cutBySets_23 at h
  refine mj_go_iload_n (k := 1) (x := s.1) rfl (mj_dt dt_X2_cutBySets 15 rfl) ?_
  refine mj_go_aload_n (k := 0) (x := 36) rfl (mj_dt dt_X2_cutBySets 16 rfl) ?_
  refine mk_getI (c := 2) (k := 9) (Or.inl fd_2_9) (Or.inl fl_X2_37) ho_36 (mj_dt dt_X2_cutBySets 17 rfl) ?_
  refine mj_go_icmp_ge (tgt := 132) rfl (mj_dt dt_X2_cutBySets 18 rfl) (fun b1 => ?_) (fun b1 => ?_)
  · rw [if_pos b1] at h
    obtain rfl := Option.some.inj h
    exact mj_go_ret (v := none) (Nat.le_of_ble_eq_true rfl) (mj_retV (mj_dt dt_X2_cutBySets 75 rfl) rfl)
  · rw [if_neg b1] at h
    refine mj_go_iconst (v := 1) rfl (mj_dt dt_X2_cutBySets 19 rfl) ?_
    refine mj_go_iload_n (k := 1) (x := s.1) rfl (mj_dt dt_X2_cutBySets 20 rfl) ?_
    refine mj_go_ishl (mj_dt dt_X2_cutBySets 21 rfl) ?_
    obtain ⟨x2, ex2, h⟩ := mj_mw_some h
    refine ml_eqi ex2 ?_
    refine mj_go_istore_n (k := 2) (by decide) (mj_dt dt_X2_cutBySets 22 rfl) ?_
    refine mj_go_aload_n (k := 0) (x := 36) rfl (mj_dt dt_X2_cutBySets 23 rfl) ?_
    refine ml_getR (c := 2) (k := 0) (q := 1) fd_2_0 rf_36_0 (Or.inl fl_X2_44) ho_36 (mj_dt dt_X2_cutBySets 24 rfl) ?_
    refine mj_go_aload_n (k := 0) (x := 36) rfl (mj_dt dt_X2_cutBySets 25 rfl) ?_
    refine ml_getR (c := 2) (k := 1) (q := 37) fd_2_1 rf_36_1 (Or.inl fl_X2_9) ho_36 (mj_dt dt_X2_cutBySets 26 rfl) ?_
    refine mj_go_iload_n (k := 1) (x := s.1) rfl (mj_dt dt_X2_cutBySets 27 rfl) ?_
    obtain ⟨c3, h⟩ := mj_ck_some h
    refine mk_iald c3 (mj_dt dt_X2_cutBySets 28 rfl) ?_
    obtain ⟨r4, er4, h⟩ := mj_bind_some h
    refine ml_callV (Y' := mY_X7_frontBit) (as := [.int (s.2.1 37 s.1.toNatClampNeg)]) (rest := []) (c := 7) (v := (some (.int r4))) (M1 := (mj_fin s.2)) ho_1 rfl lm_X2_66 wc_X7_frontBit pl_X7_frontBit ok_X7_frontBit rfl rfl (Nat.le_of_ble_eq_true rfl) (k_X7_frontBit (by omega) er4) (mj_dt dt_X2_cutBySets 29 rfl) ?_
    refine mj_go_istore_n (k := 3) (by decide) (mj_dt dt_X2_cutBySets 30 rfl) ?_
    refine mj_go_iconst (v := 0) rfl (mj_dt dt_X2_cutBySets 31 rfl) ?_
    refine mj_go_istore (i := 4) (by decide) (mj_dt dt_X2_cutBySets 32 rfl) ?_
    refine mj_go_sub (lv' := [(0, .ref 36), (1, .int s.1), (2, .int x2), (3, .int r4), (4, .int 0)]) (List.forall_mem_cons.mpr ⟨rfl, (List.forall_mem_cons.mpr ⟨rfl, (List.forall_mem_cons.mpr ⟨rfl, (List.forall_mem_cons.mpr ⟨rfl, (List.forall_mem_cons.mpr ⟨rfl, (fun _ h9 => absurd h9 List.not_mem_nil)⟩)⟩)⟩)⟩)⟩) ?_
    exact k_X2_cutBySets_52 q_23 hδ N _ _ h
def f_X2_cutBySets (N : Nat) (m : mj_m) : Option (mj_m) := mj_ck (mj_b 0 40 0) ( mj_mw (mj_wI m 40 ((0 : Int32).toNatClampNeg) 0) (fun m2 => (f_X7_cutCorners N 0 m2).bind (fun r3 => mj_ck (mj_b 0 41 0) ( mj_mw (mj_wI m2 41 ((0 : Int32).toNatClampNeg) r3) (fun m5 => mj_lp N (f_X2_cutBySets_23 N) (0, m5))))))
theorem k_X2_cutBySets {L : Nat} {xs : Nat → Int32} {δ N : Nat} {m : mj_m} (hδ : 1 ≤ δ) {a : mj_m} (h : f_X2_cutBySets N m = some a) : mj_Cl (mj_EX L xs) δ mY_X2_cutBySets [.ref 36] (mj_fin m) (none, (mj_fin a)) := by
  obtain ⟨δ, rfl⟩ : ∃ d, δ = d + 1 := ⟨δ - 1, by omega⟩
  have hδ : 0 ≤ δ := by omega
  refine mj_cl_of ok_X2_cutBySets (Nat.le_of_ble_eq_true rfl) ?_
  unfold f_X2_cutBySets at h
  refine mj_go_aload_n (k := 0) (x := 36) rfl (mj_dt dt_X2_cutBySets 0 rfl) ?_
  refine ml_getR (c := 2) (k := 4) (q := 40) fd_2_4 rf_36_4 (Or.inl fl_X2_21) ho_36 (mj_dt dt_X2_cutBySets 1 rfl) ?_
  refine mj_go_iconst (v := 0) rfl (mj_dt dt_X2_cutBySets 2 rfl) ?_
  refine mj_go_iconst (v := 0) rfl (mj_dt dt_X2_cutBySets 3 rfl) ?_
  obtain ⟨c1, h⟩ := mj_ck_some h
  obtain ⟨m2, em2, h⟩ := mj_mw_some h
  refine ml_iast c1 (mj_dt dt_X2_cutBySets 4 rfl) ?_
  refine ml_eqm (M1 := (mj_fin m2)) (by rw [em2] <;> rfl) ?_
  refine mj_go_aload_n (k := 0) (x := 36) rfl (mj_dt dt_X2_cutBySets 5 rfl) ?_
  refine ml_getR (c := 2) (k := 5) (q := 41) fd_2_5 rf_36_5 (Or.inl fl_X2_24) ho_36 (mj_dt dt_X2_cutBySets 6 rfl) ?_
  refine mj_go_iconst (v := 0) rfl (mj_dt dt_X2_cutBySets 7 rfl) ?_
  refine mj_go_aload_n (k := 0) (x := 36) rfl (mj_dt dt_X2_cutBySets 8 rfl) ?_
  refine ml_getR (c := 2) (k := 0) (q := 1) fd_2_0 rf_36_0 (Or.inl fl_X2_44) ho_36 (mj_dt dt_X2_cutBySets 9 rfl) ?_
  refine mj_go_iconst (v := 0) rfl (mj_dt dt_X2_cutBySets 10 rfl) ?_
  obtain ⟨r3, er3, h⟩ := mj_bind_some h
  refine ml_callV (Y' := mY_X7_cutCorners) (as := [.int 0]) (rest := [.int 0, .ref 41]) (c := 7) (v := (some (.int r3))) (M1 := (mj_fin m2)) ho_1 rfl lm_X2_62 wc_X7_cutCorners pl_X7_cutCorners ok_X7_cutCorners rfl rfl (Nat.le_of_ble_eq_true rfl) (k_X7_cutCorners (by omega) er3) (mj_dt dt_X2_cutBySets 11 rfl) ?_
  obtain ⟨c4, h⟩ := mj_ck_some h
  obtain ⟨m5, em5, h⟩ := mj_mw_some h
  refine ml_iast c4 (mj_dt dt_X2_cutBySets 12 rfl) ?_
  refine ml_eqm (M1 := (mj_fin m5)) (by rw [em5] <;> rfl) ?_
  refine mj_go_iconst (v := 0) rfl (mj_dt dt_X2_cutBySets 13 rfl) ?_
  refine mj_go_istore_n (k := 1) (by decide) (mj_dt dt_X2_cutBySets 14 rfl) ?_
  refine mj_go_sub (lv' := [(0, .ref 36), (1, .int 0)]) (List.forall_mem_cons.mpr ⟨rfl, (List.forall_mem_cons.mpr ⟨rfl, (fun _ h9 => absurd h9 List.not_mem_nil)⟩)⟩) ?_
  exact k_X2_cutBySets_23 hδ N _ _ h
def f_X2_harmOf_82 (N : Nat) (k_7 : Int32 × Int32 × Int32 → Option (Int64)) (v1 : Int32) (v2 : Int32) (v3 : Int32) (v4 : Int32) (m : mj_m) : Option (Int64) := mj_mw (v4 + 1) (fun x1 => k_7 (v2, v3, x1))
theorem k_X2_harmOf_82 {L : Nat} {xs : Nat → Int32} {δ N : Nat} {v1 : Int32} {v2 : Int32} {v3 : Int32} {v4 : Int32} {m : mj_m} {k_7 : Int32 × Int32 × Int32 → Option (Int64)} (q_7 : ∀ (s_ : Int32 × Int32 × Int32) (a_ : Int64), k_7 s_ = some a_ → mj_Go (mj_EX L xs) δ mY_X2_harmOf 7 [(0, .ref 36), (1, .int v1), (2, .int s_.1), (3, .int s_.2.1), (4, .int s_.2.2)] [] (mj_fin m) (some (.long a_), (mj_fin m))) {a : Int64} (h : f_X2_harmOf_82 N k_7 v1 v2 v3 v4 m = some a) : mj_Go (mj_EX L xs) δ mY_X2_harmOf 82 [(0, .ref 36), (1, .int v1), (2, .int v2), (3, .int v3), (4, .int v4)] [] (mj_fin m) (some (.long a), (mj_fin m)) := by
  unfold f_X2_harmOf_82 at h
  obtain ⟨x1, ex1, h⟩ := mj_mw_some h
  refine mj_go_iinc (i := 4) (x := v4) (v := x1) rfl (by rw [ex1] <;> rfl) (by decide) (mj_dt dt_X2_harmOf 50 rfl) ?_
  refine mj_go_goto (tgt := 7) rfl (mj_dt dt_X2_harmOf 51 rfl) ?_
  refine mj_go_sub (lv' := [(0, .ref 36), (1, .int v1), (2, .int v2), (3, .int v3), (4, .int x1)]) (List.forall_mem_cons.mpr ⟨rfl, (List.forall_mem_cons.mpr ⟨rfl, (List.forall_mem_cons.mpr ⟨rfl, (List.forall_mem_cons.mpr ⟨rfl, (List.forall_mem_cons.mpr ⟨rfl, (fun _ h9 => absurd h9 List.not_mem_nil)⟩)⟩)⟩)⟩)⟩) ?_
  exact q_7 _ _ h
def f_X2_harmOf_7 (N : Nat) (v1 : Int32) (m : mj_m) (k_7 : Int32 × Int32 × Int32 → Option (Int64)) (s : Int32 × Int32 × Int32) : Option (Int64) := if (m.1 36 9) ≤ s.2.2 then (some ((10 * (s.1.toInt64)) + (((m.1 36 10).toInt64) * (s.2.1.toInt64)))) else (mj_ck (mj_b 0 37 s.2.2) ( mj_mw (m.1 37 s.2.2.toNatClampNeg) (fun x3 => if ((v1 >>> (s.2.2 &&& 31)) &&& 1) = 0 then (mj_ck (mj_b 0 41 v1) ( mj_ck (mj_b 2 4 x3) ( if (((m.1 41 v1.toNatClampNeg) >>> ((m.1 (8 + x3.toNatClampNeg) 0) &&& 31)) &&& 1) = 0 then f_X2_harmOf_82 N k_7 v1 s.1 s.2.1 s.2.2 m else (mj_ck (mj_b 0 38 x3) ( mj_mw (s.2.1 + (m.1 38 x3.toNatClampNeg)) (fun x9 => f_X2_harmOf_82 N k_7 v1 s.1 x9 s.2.2 m)))))) else (mj_ck (mj_b 0 38 x3) ( mj_mw (s.1 + (m.1 38 x3.toNatClampNeg)) (fun x6 => f_X2_harmOf_82 N k_7 v1 x6 s.2.1 s.2.2 m))))))
theorem k_X2_harmOf_7 {L : Nat} {xs : Nat → Int32} {δ N : Nat} {v1 : Int32} {m : mj_m} : ∀ (n : Nat) (s : Int32 × Int32 × Int32) (a : Int64), mj_lp n (f_X2_harmOf_7 N v1 m) s = some a → mj_Go (mj_EX L xs) δ mY_X2_harmOf 7 [(0, .ref 36), (1, .int v1), (2, .int s.1), (3, .int s.2.1), (4, .int s.2.2)] [] (mj_fin m) (some (.long a), (mj_fin m)) := by
  refine mj_lp_sound (fun k_7 s a q_7 h => ?_)
  unfold f_X2_harmOf_7 at h
  refine mj_go_iload (i := 4) (x := s.2.2) rfl (mj_dt dt_X2_harmOf 6 rfl) ?_
  refine mj_go_aload_n (k := 0) (x := 36) rfl (mj_dt dt_X2_harmOf 7 rfl) ?_
  refine mk_getI (c := 2) (k := 9) (Or.inl fd_2_9) (Or.inl fl_X2_37) ho_36 (mj_dt dt_X2_harmOf 8 rfl) ?_
  refine mj_go_icmp_ge (tgt := 88) rfl (mj_dt dt_X2_harmOf 9 rfl) (fun b1 => ?_) (fun b1 => ?_)
  · rw [if_pos b1] at h
    refine mj_go_ldc2 (v := 10) cl_X2_88 (mj_dt dt_X2_harmOf 52 rfl) ?_
    refine mj_go_iload_n (k := 2) (x := s.1) rfl (mj_dt dt_X2_harmOf 53 rfl) ?_
    refine mj_go_i2l (mj_dt dt_X2_harmOf 54 rfl) ?_
    refine mj_go_lmul (mj_dt dt_X2_harmOf 55 rfl) ?_
    refine mj_go_aload_n (k := 0) (x := 36) rfl (mj_dt dt_X2_harmOf 56 rfl) ?_
    refine mk_getI (c := 2) (k := 10) (Or.inl fd_2_10) (Or.inl fl_X2_41) ho_36 (mj_dt dt_X2_harmOf 57 rfl) ?_
    refine mj_go_i2l (mj_dt dt_X2_harmOf 58 rfl) ?_
    refine mj_go_iload_n (k := 3) (x := s.2.1) rfl (mj_dt dt_X2_harmOf 59 rfl) ?_
    refine mj_go_i2l (mj_dt dt_X2_harmOf 60 rfl) ?_
    refine mj_go_lmul (mj_dt dt_X2_harmOf 61 rfl) ?_
    refine mj_go_ladd (mj_dt dt_X2_harmOf 62 rfl) ?_
    obtain rfl := Option.some.inj h
    exact mj_go_ret (v := some (.long ((10 * (s.1.toInt64)) + (((m.1 36 10).toInt64) * (s.2.1.toInt64))))) (Nat.le_of_ble_eq_true rfl) (mj_retL (mj_dt dt_X2_harmOf 63 rfl) rfl)
  · rw [if_neg b1] at h
    refine mj_go_aload_n (k := 0) (x := 36) rfl (mj_dt dt_X2_harmOf 10 rfl) ?_
    refine ml_getR (c := 2) (k := 1) (q := 37) fd_2_1 rf_36_1 (Or.inl fl_X2_9) ho_36 (mj_dt dt_X2_harmOf 11 rfl) ?_
    refine mj_go_iload (i := 4) (x := s.2.2) rfl (mj_dt dt_X2_harmOf 12 rfl) ?_
    obtain ⟨c2, h⟩ := mj_ck_some h
    refine mk_iald c2 (mj_dt dt_X2_harmOf 13 rfl) ?_
    obtain ⟨x3, ex3, h⟩ := mj_mw_some h
    refine ml_eqi ex3 ?_
    refine mj_go_istore (i := 5) (by decide) (mj_dt dt_X2_harmOf 14 rfl) ?_
    refine mj_go_iload_n (k := 1) (x := v1) rfl (mj_dt dt_X2_harmOf 15 rfl) ?_
    refine mj_go_iload (i := 4) (x := s.2.2) rfl (mj_dt dt_X2_harmOf 16 rfl) ?_
    refine mj_go_ishr (mj_dt dt_X2_harmOf 17 rfl) ?_
    refine mj_go_iconst (v := 1) rfl (mj_dt dt_X2_harmOf 18 rfl) ?_
    refine mj_go_iand (mj_dt dt_X2_harmOf 19 rfl) ?_
    refine mj_go_if_eq (tgt := 47) rfl (mj_dt dt_X2_harmOf 20 rfl) (fun b4 => ?_) (fun b4 => ?_)
    · rw [if_pos b4] at h
      refine mj_go_aload_n (k := 0) (x := 36) rfl (mj_dt dt_X2_harmOf 29 rfl) ?_
      refine ml_getR (c := 2) (k := 5) (q := 41) fd_2_5 rf_36_5 (Or.inl fl_X2_24) ho_36 (mj_dt dt_X2_harmOf 30 rfl) ?_
      refine mj_go_iload_n (k := 1) (x := v1) rfl (mj_dt dt_X2_harmOf 31 rfl) ?_
      obtain ⟨c5, h⟩ := mj_ck_some h
      refine mk_iald c5 (mj_dt dt_X2_harmOf 32 rfl) ?_
      refine mj_go_aload_n (k := 0) (x := 36) rfl (mj_dt dt_X2_harmOf 33 rfl) ?_
      refine ml_getR (c := 2) (k := 0) (q := 1) fd_2_0 rf_36_0 (Or.inl fl_X2_44) ho_36 (mj_dt dt_X2_harmOf 34 rfl) ?_
      refine ml_getR (c := 7) (k := 2) (q := 4) fd_7_2 rf_1_2 (Or.inl fl_X2_53) ho_1 (mj_dt dt_X2_harmOf 35 rfl) ?_
      refine mj_go_iload (i := 5) (x := x3) rfl (mj_dt dt_X2_harmOf 36 rfl) ?_
      obtain ⟨c6, h⟩ := mj_ck_some h
      refine ml_aald2 (q := 8 + x3.toNatClampNeg) c6 (mj_hs4 c6).1 (mj_dt dt_X2_harmOf 37 rfl) ?_
      refine mk_getI (c := 1) (k := 0) (Or.inl fd_1_0) (Or.inl fl_X2_85) (mj_hs4 c6).2 (mj_dt dt_X2_harmOf 38 rfl) ?_
      refine mj_go_ishr (mj_dt dt_X2_harmOf 39 rfl) ?_
      refine mj_go_iconst (v := 1) rfl (mj_dt dt_X2_harmOf 40 rfl) ?_
      refine mj_go_iand (mj_dt dt_X2_harmOf 41 rfl) ?_
      refine mj_go_if_eq (tgt := 82) rfl (mj_dt dt_X2_harmOf 42 rfl) (fun b7 => ?_) (fun b7 => ?_)
      · rw [if_pos b7] at h
        refine mj_go_sub (lv' := [(0, .ref 36), (1, .int v1), (2, .int s.1), (3, .int s.2.1), (4, .int s.2.2)]) (List.forall_mem_cons.mpr ⟨rfl, (List.forall_mem_cons.mpr ⟨rfl, (List.forall_mem_cons.mpr ⟨rfl, (List.forall_mem_cons.mpr ⟨rfl, (List.forall_mem_cons.mpr ⟨rfl, (fun _ h9 => absurd h9 List.not_mem_nil)⟩)⟩)⟩)⟩)⟩) ?_
        exact k_X2_harmOf_82 q_7 h
      · rw [if_neg b7] at h
        refine mj_go_iload_n (k := 3) (x := s.2.1) rfl (mj_dt dt_X2_harmOf 43 rfl) ?_
        refine mj_go_aload_n (k := 0) (x := 36) rfl (mj_dt dt_X2_harmOf 44 rfl) ?_
        refine ml_getR (c := 2) (k := 2) (q := 38) fd_2_2 rf_36_2 (Or.inl fl_X2_15) ho_36 (mj_dt dt_X2_harmOf 45 rfl) ?_
        refine mj_go_iload (i := 5) (x := x3) rfl (mj_dt dt_X2_harmOf 46 rfl) ?_
        obtain ⟨c8, h⟩ := mj_ck_some h
        refine mk_iald c8 (mj_dt dt_X2_harmOf 47 rfl) ?_
        refine mj_go_iadd (mj_dt dt_X2_harmOf 48 rfl) ?_
        obtain ⟨x9, ex9, h⟩ := mj_mw_some h
        refine ml_eqi ex9 ?_
        refine mj_go_istore_n (k := 3) (by decide) (mj_dt dt_X2_harmOf 49 rfl) ?_
        refine mj_go_sub (lv' := [(0, .ref 36), (1, .int v1), (2, .int s.1), (3, .int x9), (4, .int s.2.2)]) (List.forall_mem_cons.mpr ⟨rfl, (List.forall_mem_cons.mpr ⟨rfl, (List.forall_mem_cons.mpr ⟨rfl, (List.forall_mem_cons.mpr ⟨rfl, (List.forall_mem_cons.mpr ⟨rfl, (fun _ h9 => absurd h9 List.not_mem_nil)⟩)⟩)⟩)⟩)⟩) ?_
        exact k_X2_harmOf_82 q_7 h
    · rw [if_neg b4] at h
      refine mj_go_iload_n (k := 2) (x := s.1) rfl (mj_dt dt_X2_harmOf 21 rfl) ?_
      refine mj_go_aload_n (k := 0) (x := 36) rfl (mj_dt dt_X2_harmOf 22 rfl) ?_
      refine ml_getR (c := 2) (k := 2) (q := 38) fd_2_2 rf_36_2 (Or.inl fl_X2_15) ho_36 (mj_dt dt_X2_harmOf 23 rfl) ?_
      refine mj_go_iload (i := 5) (x := x3) rfl (mj_dt dt_X2_harmOf 24 rfl) ?_
      obtain ⟨c5, h⟩ := mj_ck_some h
      refine mk_iald c5 (mj_dt dt_X2_harmOf 25 rfl) ?_
      refine mj_go_iadd (mj_dt dt_X2_harmOf 26 rfl) ?_
      obtain ⟨x6, ex6, h⟩ := mj_mw_some h
      refine ml_eqi ex6 ?_
      refine mj_go_istore_n (k := 2) (by decide) (mj_dt dt_X2_harmOf 27 rfl) ?_
      refine mj_go_goto (tgt := 82) rfl (mj_dt dt_X2_harmOf 28 rfl) ?_
      refine mj_go_sub (lv' := [(0, .ref 36), (1, .int v1), (2, .int x6), (3, .int s.2.1), (4, .int s.2.2)]) (List.forall_mem_cons.mpr ⟨rfl, (List.forall_mem_cons.mpr ⟨rfl, (List.forall_mem_cons.mpr ⟨rfl, (List.forall_mem_cons.mpr ⟨rfl, (List.forall_mem_cons.mpr ⟨rfl, (fun _ h9 => absurd h9 List.not_mem_nil)⟩)⟩)⟩)⟩)⟩) ?_
      exact k_X2_harmOf_82 q_7 h
def f_X2_harmOf (N : Nat) (v1 : Int32) (m : mj_m) : Option (Int64) := mj_lp N (f_X2_harmOf_7 N v1 m) (0, 0, 0)
theorem k_X2_harmOf {L : Nat} {xs : Nat → Int32} {δ N : Nat} {v1 : Int32} {m : mj_m} (_ : 0 ≤ δ) {a : Int64} (h : f_X2_harmOf N v1 m = some a) : mj_Cl (mj_EX L xs) δ mY_X2_harmOf [.ref 36, .int v1] (mj_fin m) (some (.long a), (mj_fin m)) := by
  refine mj_cl_of ok_X2_harmOf (Nat.le_of_ble_eq_true rfl) ?_
  unfold f_X2_harmOf at h
  refine mj_go_iconst (v := 0) rfl (mj_dt dt_X2_harmOf 0 rfl) ?_
  refine mj_go_istore_n (k := 2) (by decide) (mj_dt dt_X2_harmOf 1 rfl) ?_
  refine mj_go_iconst (v := 0) rfl (mj_dt dt_X2_harmOf 2 rfl) ?_
  refine mj_go_istore_n (k := 3) (by decide) (mj_dt dt_X2_harmOf 3 rfl) ?_
  refine mj_go_iconst (v := 0) rfl (mj_dt dt_X2_harmOf 4 rfl) ?_
  refine mj_go_istore (i := 4) (by decide) (mj_dt dt_X2_harmOf 5 rfl) ?_
  refine mj_go_sub (lv' := [(0, .ref 36), (1, .int v1), (2, .int 0), (3, .int 0), (4, .int 0)]) (List.forall_mem_cons.mpr ⟨rfl, (List.forall_mem_cons.mpr ⟨rfl, (List.forall_mem_cons.mpr ⟨rfl, (List.forall_mem_cons.mpr ⟨rfl, (List.forall_mem_cons.mpr ⟨rfl, (fun _ h9 => absurd h9 List.not_mem_nil)⟩)⟩)⟩)⟩)⟩) ?_
  exact k_X2_harmOf_7 N _ _ h
def f_X2_weigh_75 (N : Nat) (k_75 : Int32 × mj_m → Option (mj_m)) (s : Int32 × mj_m) : Option (mj_m) := if (1 <<< ((s.2.1 36 9) &&& 31)) ≤ s.1 then (some s.2) else ((f_X2_harmOf N s.1 s.2).bind (fun r2 => mj_ck (mj_b 1 42 s.1) ( mj_mw (mj_wL s.2 42 (s.1.toNatClampNeg) r2) (fun m4 => mj_mw (s.1 + 1) (fun x5 => k_75 (x5, m4))))))
theorem k_X2_weigh_75 {L : Nat} {xs : Nat → Int32} {δ N : Nat} (hδ : 1 ≤ δ) : ∀ (n : Nat) (s : Int32 × mj_m) (a : mj_m), mj_lp n (f_X2_weigh_75 N) s = some a → mj_Go (mj_EX L xs) (δ + 1) mY_X2_weigh 75 [(0, .ref 36), (4, .int s.1)] [] (mj_fin s.2) (none, (mj_fin a)) := by
  refine mj_lp_sound (fun k_75 s a q_75 h => ?_)
  unfold f_X2_weigh_75 at h
  refine mj_go_iload (i := 4) (x := s.1) rfl (mj_dt dt_X2_weigh 39 rfl) ?_
  refine mj_go_iconst (v := 1) rfl (mj_dt dt_X2_weigh 40 rfl) ?_
  refine mj_go_aload_n (k := 0) (x := 36) rfl (mj_dt dt_X2_weigh 41 rfl) ?_
  refine mk_getI (c := 2) (k := 9) (Or.inl fd_2_9) (Or.inl fl_X2_37) ho_36 (mj_dt dt_X2_weigh 42 rfl) ?_
  refine mj_go_ishl (mj_dt dt_X2_weigh 43 rfl) ?_
  refine mj_go_icmp_ge (tgt := 105) rfl (mj_dt dt_X2_weigh 44 rfl) (fun b1 => ?_) (fun b1 => ?_)
  · rw [if_pos b1] at h
    obtain rfl := Option.some.inj h
    exact mj_go_ret (v := none) (Nat.le_of_ble_eq_true rfl) (mj_retV (mj_dt dt_X2_weigh 54 rfl) rfl)
  · rw [if_neg b1] at h
    refine mj_go_aload_n (k := 0) (x := 36) rfl (mj_dt dt_X2_weigh 45 rfl) ?_
    refine ml_getR (c := 2) (k := 6) (q := 42) fd_2_6 rf_36_6 (Or.inl fl_X2_27) ho_36 (mj_dt dt_X2_weigh 46 rfl) ?_
    refine mj_go_iload (i := 4) (x := s.1) rfl (mj_dt dt_X2_weigh 47 rfl) ?_
    refine mj_go_aload_n (k := 0) (x := 36) rfl (mj_dt dt_X2_weigh 48 rfl) ?_
    refine mj_go_iload (i := 4) (x := s.1) rfl (mj_dt dt_X2_weigh 49 rfl) ?_
    obtain ⟨r2, er2, h⟩ := mj_bind_some h
    refine ml_callV (Y' := mY_X2_harmOf) (as := [.int s.1]) (rest := [.int s.1, .ref 42]) (c := 2) (v := (some (.long r2))) (M1 := (mj_fin s.2)) ho_36 rfl lm_X2_81 wc_X2_harmOf pl_X2_harmOf ok_X2_harmOf rfl rfl (Nat.le_of_ble_eq_true rfl) (k_X2_harmOf (by omega) er2) (mj_dt dt_X2_weigh 50 rfl) ?_
    obtain ⟨c3, h⟩ := mj_ck_some h
    obtain ⟨m4, em4, h⟩ := mj_mw_some h
    refine ml_last c3 (mj_dt dt_X2_weigh 51 rfl) ?_
    refine ml_eqm (M1 := (mj_fin m4)) (by rw [em4] <;> rfl) ?_
    obtain ⟨x5, ex5, h⟩ := mj_mw_some h
    refine mj_go_iinc (i := 4) (x := s.1) (v := x5) rfl (by rw [ex5] <;> rfl) (by decide) (mj_dt dt_X2_weigh 52 rfl) ?_
    refine mj_go_goto (tgt := 75) rfl (mj_dt dt_X2_weigh 53 rfl) ?_
    refine mj_go_sub (lv' := [(0, .ref 36), (4, .int x5)]) (List.forall_mem_cons.mpr ⟨rfl, (List.forall_mem_cons.mpr ⟨rfl, (fun _ h9 => absurd h9 List.not_mem_nil)⟩)⟩) ?_
    exact q_75 _ _ h
def f_X2_weigh_16 (N : Nat) (v2 : Int32) (v3 : Int32) (k_16 : Int32 × mj_m → Option (mj_m)) (s : Int32 × mj_m) : Option (mj_m) := if (s.2.1 1 7) ≤ s.1 then (mj_lp N (f_X2_weigh_75 N) (0, s.2)) else (mj_ck (mj_b 2 4 s.1) ( mj_ck (mj_b 0 38 s.1) ( mj_mw (mj_wI s.2 38 (s.1.toNatClampNeg) ((v2 * (s.2.1 (8 + s.1.toNatClampNeg) 2)) + (v3 * (s.2.1 (8 + s.1.toNatClampNeg) 3)))) (fun m4 => mj_mw (s.1 + 1) (fun x5 => k_16 (x5, m4))))))
theorem k_X2_weigh_16 {L : Nat} {xs : Nat → Int32} {δ N : Nat} {v2 : Int32} {v3 : Int32} (hδ : 1 ≤ δ) : ∀ (n : Nat) (s : Int32 × mj_m) (a : mj_m), mj_lp n (f_X2_weigh_16 N v2 v3) s = some a → mj_Go (mj_EX L xs) (δ + 1) mY_X2_weigh 16 [(0, .ref 36), (2, .int v2), (3, .int v3), (4, .int s.1)] [] (mj_fin s.2) (none, (mj_fin a)) := by
  refine mj_lp_sound (fun k_16 s a q_16 h => ?_)
  unfold f_X2_weigh_16 at h
  refine mj_go_iload (i := 4) (x := s.1) rfl (mj_dt dt_X2_weigh 9 rfl) ?_
  refine mj_go_aload_n (k := 0) (x := 36) rfl (mj_dt dt_X2_weigh 10 rfl) ?_
  refine ml_getR (c := 2) (k := 0) (q := 1) fd_2_0 rf_36_0 (Or.inl fl_X2_44) ho_36 (mj_dt dt_X2_weigh 11 rfl) ?_
  refine mk_getI (c := 7) (k := 7) (Or.inl fd_7_7) (Or.inl fl_X2_48) ho_1 (mj_dt dt_X2_weigh 12 rfl) ?_
  refine mj_go_icmp_ge (tgt := 72) rfl (mj_dt dt_X2_weigh 13 rfl) (fun b1 => ?_) (fun b1 => ?_)
  · rw [if_pos b1] at h
    refine mj_go_iconst (v := 0) rfl (mj_dt dt_X2_weigh 37 rfl) ?_
    refine mj_go_istore (i := 4) (by decide) (mj_dt dt_X2_weigh 38 rfl) ?_
    refine mj_go_sub (lv' := [(0, .ref 36), (4, .int 0)]) (List.forall_mem_cons.mpr ⟨rfl, (List.forall_mem_cons.mpr ⟨rfl, (fun _ h9 => absurd h9 List.not_mem_nil)⟩)⟩) ?_
    exact k_X2_weigh_75 hδ N _ _ h
  · rw [if_neg b1] at h
    refine mj_go_aload_n (k := 0) (x := 36) rfl (mj_dt dt_X2_weigh 14 rfl) ?_
    refine ml_getR (c := 2) (k := 2) (q := 38) fd_2_2 rf_36_2 (Or.inl fl_X2_15) ho_36 (mj_dt dt_X2_weigh 15 rfl) ?_
    refine mj_go_iload (i := 4) (x := s.1) rfl (mj_dt dt_X2_weigh 16 rfl) ?_
    refine mj_go_iload_n (k := 2) (x := v2) rfl (mj_dt dt_X2_weigh 17 rfl) ?_
    refine mj_go_aload_n (k := 0) (x := 36) rfl (mj_dt dt_X2_weigh 18 rfl) ?_
    refine ml_getR (c := 2) (k := 0) (q := 1) fd_2_0 rf_36_0 (Or.inl fl_X2_44) ho_36 (mj_dt dt_X2_weigh 19 rfl) ?_
    refine ml_getR (c := 7) (k := 2) (q := 4) fd_7_2 rf_1_2 (Or.inl fl_X2_53) ho_1 (mj_dt dt_X2_weigh 20 rfl) ?_
    refine mj_go_iload (i := 4) (x := s.1) rfl (mj_dt dt_X2_weigh 21 rfl) ?_
    obtain ⟨c2, h⟩ := mj_ck_some h
    refine ml_aald2 (q := 8 + s.1.toNatClampNeg) c2 (mj_hs4 c2).1 (mj_dt dt_X2_weigh 22 rfl) ?_
    refine mk_getI (c := 1) (k := 2) (Or.inl fd_1_2) (Or.inl fl_X2_75) (mj_hs4 c2).2 (mj_dt dt_X2_weigh 23 rfl) ?_
    refine mj_go_imul (mj_dt dt_X2_weigh 24 rfl) ?_
    refine mj_go_iload_n (k := 3) (x := v3) rfl (mj_dt dt_X2_weigh 25 rfl) ?_
    refine mj_go_aload_n (k := 0) (x := 36) rfl (mj_dt dt_X2_weigh 26 rfl) ?_
    refine ml_getR (c := 2) (k := 0) (q := 1) fd_2_0 rf_36_0 (Or.inl fl_X2_44) ho_36 (mj_dt dt_X2_weigh 27 rfl) ?_
    refine ml_getR (c := 7) (k := 2) (q := 4) fd_7_2 rf_1_2 (Or.inl fl_X2_53) ho_1 (mj_dt dt_X2_weigh 28 rfl) ?_
    refine mj_go_iload (i := 4) (x := s.1) rfl (mj_dt dt_X2_weigh 29 rfl) ?_
    refine ml_aald2 (q := 8 + s.1.toNatClampNeg) c2 (mj_hs4 c2).1 (mj_dt dt_X2_weigh 30 rfl) ?_
    refine mk_getI (c := 1) (k := 3) (Or.inl fd_1_3) (Or.inl fl_X2_78) (mj_hs4 c2).2 (mj_dt dt_X2_weigh 31 rfl) ?_
    refine mj_go_imul (mj_dt dt_X2_weigh 32 rfl) ?_
    refine mj_go_iadd (mj_dt dt_X2_weigh 33 rfl) ?_
    obtain ⟨c3, h⟩ := mj_ck_some h
    obtain ⟨m4, em4, h⟩ := mj_mw_some h
    refine ml_iast c3 (mj_dt dt_X2_weigh 34 rfl) ?_
    refine ml_eqm (M1 := (mj_fin m4)) (by rw [em4] <;> rfl) ?_
    obtain ⟨x5, ex5, h⟩ := mj_mw_some h
    refine mj_go_iinc (i := 4) (x := s.1) (v := x5) rfl (by rw [ex5] <;> rfl) (by decide) (mj_dt dt_X2_weigh 35 rfl) ?_
    refine mj_go_goto (tgt := 16) rfl (mj_dt dt_X2_weigh 36 rfl) ?_
    refine mj_go_sub (lv' := [(0, .ref 36), (2, .int v2), (3, .int v3), (4, .int x5)]) (List.forall_mem_cons.mpr ⟨rfl, (List.forall_mem_cons.mpr ⟨rfl, (List.forall_mem_cons.mpr ⟨rfl, (List.forall_mem_cons.mpr ⟨rfl, (fun _ h9 => absurd h9 List.not_mem_nil)⟩)⟩)⟩)⟩) ?_
    exact q_16 _ _ h
def f_X2_weigh (N : Nat) (v1 : Int32) (v2 : Int32) (v3 : Int32) (m : mj_m) : Option (mj_m) := (f_X2_findFronted N m).bind (fun r1 => (f_X2_cutBySets N r1).bind (fun r2 => mj_mw (mj_wI r2 36 10 v1) (fun m3 => mj_lp N (f_X2_weigh_16 N v2 v3) (0, m3))))
theorem k_X2_weigh {L : Nat} {xs : Nat → Int32} {δ N : Nat} {v1 : Int32} {v2 : Int32} {v3 : Int32} {m : mj_m} (hδ : 2 ≤ δ) {a : mj_m} (h : f_X2_weigh N v1 v2 v3 m = some a) : mj_Cl (mj_EX L xs) δ mY_X2_weigh [.ref 36, .int v1, .int v2, .int v3] (mj_fin m) (none, (mj_fin a)) := by
  obtain ⟨δ, rfl⟩ : ∃ d, δ = d + 1 := ⟨δ - 1, by omega⟩
  have hδ : 1 ≤ δ := by omega
  refine mj_cl_of ok_X2_weigh (Nat.le_of_ble_eq_true rfl) ?_
  unfold f_X2_weigh at h
  refine mj_go_aload_n (k := 0) (x := 36) rfl (mj_dt dt_X2_weigh 0 rfl) ?_
  obtain ⟨r1, er1, h⟩ := mj_bind_some h
  refine ml_callV (Y' := mY_X2_findFronted) (as := []) (rest := []) (c := 2) (v := none) (M1 := (mj_fin r1)) ho_36 rfl lm_X2_69 wc_X2_findFronted pl_X2_findFronted ok_X2_findFronted rfl rfl (Nat.le_of_ble_eq_true rfl) (k_X2_findFronted (by omega) er1) (mj_dt dt_X2_weigh 1 rfl) ?_
  refine mj_go_aload_n (k := 0) (x := 36) rfl (mj_dt dt_X2_weigh 2 rfl) ?_
  obtain ⟨r2, er2, h⟩ := mj_bind_some h
  refine ml_callV (Y' := mY_X2_cutBySets) (as := []) (rest := []) (c := 2) (v := none) (M1 := (mj_fin r2)) ho_36 rfl lm_X2_72 wc_X2_cutBySets pl_X2_cutBySets ok_X2_cutBySets rfl rfl (Nat.le_of_ble_eq_true rfl) (k_X2_cutBySets (by omega) er2) (mj_dt dt_X2_weigh 3 rfl) ?_
  refine mj_go_aload_n (k := 0) (x := 36) rfl (mj_dt dt_X2_weigh 4 rfl) ?_
  refine mj_go_iload_n (k := 1) (x := v1) rfl (mj_dt dt_X2_weigh 5 rfl) ?_
  obtain ⟨m3, em3, h⟩ := mj_mw_some h
  refine ml_putI (c := 2) (k := 10) fd_2_10 rfl fl_X2_41 ho_36 (mj_dt dt_X2_weigh 6 rfl) ?_
  refine ml_eqm (M1 := (mj_fin m3)) (by rw [em3] <;> rfl) ?_
  refine mj_go_iconst (v := 0) rfl (mj_dt dt_X2_weigh 7 rfl) ?_
  refine mj_go_istore (i := 4) (by decide) (mj_dt dt_X2_weigh 8 rfl) ?_
  refine mj_go_sub (lv' := [(0, .ref 36), (2, .int v2), (3, .int v3), (4, .int 0)]) (List.forall_mem_cons.mpr ⟨rfl, (List.forall_mem_cons.mpr ⟨rfl, (List.forall_mem_cons.mpr ⟨rfl, (List.forall_mem_cons.mpr ⟨rfl, (fun _ h9 => absurd h9 List.not_mem_nil)⟩)⟩)⟩)⟩) ?_
  exact k_X2_weigh_16 hδ N _ _ h
def f_X2_weighYear (N : Nat) (m : mj_m) : Option (mj_m) := (f_X2_weigh N (m.1 1 10) (m.1 1 11) (10 - (m.1 1 11)) m).bind (fun r1 => some r1)
theorem k_X2_weighYear {L : Nat} {xs : Nat → Int32} {δ N : Nat} {m : mj_m} (hδ : 3 ≤ δ) {a : mj_m} (h : f_X2_weighYear N m = some a) : mj_Cl (mj_EX L xs) δ mY_X2_weighYear [.ref 36] (mj_fin m) (none, (mj_fin a)) := by
  obtain ⟨δ, rfl⟩ : ∃ d, δ = d + 1 := ⟨δ - 1, by omega⟩
  have hδ : 2 ≤ δ := by omega
  refine mj_cl_of ok_X2_weighYear (Nat.le_of_ble_eq_true rfl) ?_
  unfold f_X2_weighYear at h
  refine mj_go_aload_n (k := 0) (x := 36) rfl (mj_dt dt_X2_weighYear 0 rfl) ?_
  refine mj_go_aload_n (k := 0) (x := 36) rfl (mj_dt dt_X2_weighYear 1 rfl) ?_
  refine ml_getR (c := 2) (k := 0) (q := 1) fd_2_0 rf_36_0 (Or.inl fl_X2_44) ho_36 (mj_dt dt_X2_weighYear 2 rfl) ?_
  refine mk_getI (c := 7) (k := 10) (Or.inl fd_7_10) (Or.inl fl_X2_90) ho_1 (mj_dt dt_X2_weighYear 3 rfl) ?_
  refine mj_go_aload_n (k := 0) (x := 36) rfl (mj_dt dt_X2_weighYear 4 rfl) ?_
  refine ml_getR (c := 2) (k := 0) (q := 1) fd_2_0 rf_36_0 (Or.inl fl_X2_44) ho_36 (mj_dt dt_X2_weighYear 5 rfl) ?_
  refine mk_getI (c := 7) (k := 11) (Or.inl fd_7_11) (Or.inl fl_X2_93) ho_1 (mj_dt dt_X2_weighYear 6 rfl) ?_
  refine mj_go_bipush (v := 10) rfl (mj_dt dt_X2_weighYear 7 rfl) ?_
  refine mj_go_aload_n (k := 0) (x := 36) rfl (mj_dt dt_X2_weighYear 8 rfl) ?_
  refine ml_getR (c := 2) (k := 0) (q := 1) fd_2_0 rf_36_0 (Or.inl fl_X2_44) ho_36 (mj_dt dt_X2_weighYear 9 rfl) ?_
  refine mk_getI (c := 7) (k := 11) (Or.inl fd_7_11) (Or.inl fl_X2_93) ho_1 (mj_dt dt_X2_weighYear 10 rfl) ?_
  refine mj_go_isub (mj_dt dt_X2_weighYear 11 rfl) ?_
  obtain ⟨r1, er1, h⟩ := mj_bind_some h
  refine ml_callV (Y' := mY_X2_weigh) (as := [.int (m.1 1 10), .int (m.1 1 11), .int (10 - (m.1 1 11))]) (rest := []) (c := 2) (v := none) (M1 := (mj_fin r1)) ho_36 rfl lm_X2_96 wc_X2_weigh pl_X2_weigh ok_X2_weigh rfl rfl (Nat.le_of_ble_eq_true rfl) (k_X2_weigh (by omega) er1) (mj_dt dt_X2_weighYear 12 rfl) ?_
  obtain rfl := Option.some.inj h
  exact mj_go_ret (v := none) (Nat.le_of_ble_eq_true rfl) (mj_retV (mj_dt dt_X2_weighYear 13 rfl) rfl)
def f_X2_addOthers_195 (N : Nat) (k_132 : Int32 × mj_m → Option (mj_m)) (v1 : Int64) (v3 : Int64) (v5 : Int64) (v7 : Int32) (v8 : Int64) (m : mj_m) : Option (mj_m) := mj_ck (mj_b 1 42 v7) ( mj_ck (mj_b 1 43 v7) ( mj_mw (mj_wL m 43 (v7.toNatClampNeg) (((m.2 42 v7.toNatClampNeg) * v3) + (v8 * v5))) (fun m3 => mj_mw (v7 + 1) (fun x4 => k_132 (x4, m3)))))
theorem k_X2_addOthers_195 {L : Nat} {xs : Nat → Int32} {δ N : Nat} {v1 : Int64} {v3 : Int64} {v5 : Int64} {v7 : Int32} {v8 : Int64} {m : mj_m} {k_132 : Int32 × mj_m → Option (mj_m)} (q_132 : ∀ (s_ : Int32 × mj_m) (a_ : mj_m), k_132 s_ = some a_ → mj_Go (mj_EX L xs) (δ + 1) mY_X2_addOthers 132 [(0, .ref 36), (1, .long v1), (3, .long v3), (5, .long v5), (7, .int s_.1)] [] (mj_fin s_.2) (none, (mj_fin a_))) (hδ : 0 ≤ δ) {a : mj_m} (h : f_X2_addOthers_195 N k_132 v1 v3 v5 v7 v8 m = some a) : mj_Go (mj_EX L xs) (δ + 1) mY_X2_addOthers 195 [(0, .ref 36), (1, .long v1), (3, .long v3), (5, .long v5), (7, .int v7), (8, .long v8)] [] (mj_fin m) (none, (mj_fin a)) := by
  unfold f_X2_addOthers_195 at h
  refine mj_go_aload_n (k := 0) (x := 36) rfl (mj_dt dt_X2_addOthers 114 rfl) ?_
  refine ml_getR (c := 2) (k := 7) (q := 43) fd_2_7 rf_36_7 (Or.inl fl_X2_31) ho_36 (mj_dt dt_X2_addOthers 115 rfl) ?_
  refine mj_go_iload (i := 7) (x := v7) rfl (mj_dt dt_X2_addOthers 116 rfl) ?_
  refine mj_go_aload_n (k := 0) (x := 36) rfl (mj_dt dt_X2_addOthers 117 rfl) ?_
  refine ml_getR (c := 2) (k := 6) (q := 42) fd_2_6 rf_36_6 (Or.inl fl_X2_27) ho_36 (mj_dt dt_X2_addOthers 118 rfl) ?_
  refine mj_go_iload (i := 7) (x := v7) rfl (mj_dt dt_X2_addOthers 119 rfl) ?_
  obtain ⟨c1, h⟩ := mj_ck_some h
  refine mk_lald c1 (mj_dt dt_X2_addOthers 120 rfl) ?_
  refine mj_go_lload_n (k := 3) (x := v3) rfl (mj_dt dt_X2_addOthers 121 rfl) ?_
  refine mj_go_lmul (mj_dt dt_X2_addOthers 122 rfl) ?_
  refine mj_go_lload (i := 8) (x := v8) rfl (mj_dt dt_X2_addOthers 123 rfl) ?_
  refine mj_go_lload (i := 5) (x := v5) rfl (mj_dt dt_X2_addOthers 124 rfl) ?_
  refine mj_go_lmul (mj_dt dt_X2_addOthers 125 rfl) ?_
  refine mj_go_ladd (mj_dt dt_X2_addOthers 126 rfl) ?_
  obtain ⟨c2, h⟩ := mj_ck_some h
  obtain ⟨m3, em3, h⟩ := mj_mw_some h
  refine ml_last c2 (mj_dt dt_X2_addOthers 127 rfl) ?_
  refine ml_eqm (M1 := (mj_fin m3)) (by rw [em3] <;> rfl) ?_
  obtain ⟨x4, ex4, h⟩ := mj_mw_some h
  refine mj_go_iinc (i := 7) (x := v7) (v := x4) rfl (by rw [ex4] <;> rfl) (by decide) (mj_dt dt_X2_addOthers 128 rfl) ?_
  refine mj_go_goto (tgt := 132) rfl (mj_dt dt_X2_addOthers 129 rfl) ?_
  refine mj_go_sub (lv' := [(0, .ref 36), (1, .long v1), (3, .long v3), (5, .long v5), (7, .int x4)]) (List.forall_mem_cons.mpr ⟨rfl, (List.forall_mem_cons.mpr ⟨rfl, (List.forall_mem_cons.mpr ⟨rfl, (List.forall_mem_cons.mpr ⟨rfl, (List.forall_mem_cons.mpr ⟨rfl, (fun _ h9 => absurd h9 List.not_mem_nil)⟩)⟩)⟩)⟩)⟩) ?_
  exact q_132 _ _ h
def f_X2_addOthers_149 (N : Nat) (k_132 : Int32 × mj_m → Option (mj_m)) (v1 : Int64) (v3 : Int64) (v5 : Int64) (v7 : Int32) (m : mj_m) (k_149 : Int64 × Int32 → Option (mj_m)) (s : Int64 × Int32) : Option (mj_m) := if (lg_cmp v5 0) ≤ 0 then f_X2_addOthers_195 N k_132 v1 v3 v5 v7 s.1 m else (if 8 ≤ s.2 then f_X2_addOthers_195 N k_132 v1 v3 v5 v7 s.1 m else (mj_ck (mj_b 0 41 v7) ( mj_ck (mj_b 1 44 s.2) ( mj_mw (s.1 + (((((m.1 41 v7.toNatClampNeg) >>> (s.2 &&& 31)) &&& 1).toInt64) * (m.2 44 s.2.toNatClampNeg))) (fun x5 => mj_mw (s.2 + 1) (fun x6 => k_149 (x5, x6)))))))
theorem k_X2_addOthers_149 {L : Nat} {xs : Nat → Int32} {δ N : Nat} {v1 : Int64} {v3 : Int64} {v5 : Int64} {v7 : Int32} {m : mj_m} {k_132 : Int32 × mj_m → Option (mj_m)} (q_132 : ∀ (s_ : Int32 × mj_m) (a_ : mj_m), k_132 s_ = some a_ → mj_Go (mj_EX L xs) (δ + 1) mY_X2_addOthers 132 [(0, .ref 36), (1, .long v1), (3, .long v3), (5, .long v5), (7, .int s_.1)] [] (mj_fin s_.2) (none, (mj_fin a_))) (hδ : 0 ≤ δ) : ∀ (n : Nat) (s : Int64 × Int32) (a : mj_m), mj_lp n (f_X2_addOthers_149 N k_132 v1 v3 v5 v7 m) s = some a → mj_Go (mj_EX L xs) (δ + 1) mY_X2_addOthers 149 [(0, .ref 36), (1, .long v1), (3, .long v3), (5, .long v5), (7, .int v7), (8, .long s.1), (10, .int s.2)] [] (mj_fin m) (none, (mj_fin a)) := by
  refine mj_lp_sound (fun k_149 s a q_149 h => ?_)
  unfold f_X2_addOthers_149 at h
  refine mj_go_lload (i := 5) (x := v5) rfl (mj_dt dt_X2_addOthers 88 rfl) ?_
  refine mj_go_lconst (v := 0) rfl (mj_dt dt_X2_addOthers 89 rfl) ?_
  refine mj_go_lcmp (mj_dt dt_X2_addOthers 90 rfl) ?_
  refine mj_go_if_le (tgt := 195) rfl (mj_dt dt_X2_addOthers 91 rfl) (fun b1 => ?_) (fun b1 => ?_)
  · rw [if_pos b1] at h
    refine mj_go_sub (lv' := [(0, .ref 36), (1, .long v1), (3, .long v3), (5, .long v5), (7, .int v7), (8, .long s.1)]) (List.forall_mem_cons.mpr ⟨rfl, (List.forall_mem_cons.mpr ⟨rfl, (List.forall_mem_cons.mpr ⟨rfl, (List.forall_mem_cons.mpr ⟨rfl, (List.forall_mem_cons.mpr ⟨rfl, (List.forall_mem_cons.mpr ⟨rfl, (fun _ h9 => absurd h9 List.not_mem_nil)⟩)⟩)⟩)⟩)⟩)⟩) ?_
    exact k_X2_addOthers_195 q_132 hδ h
  · rw [if_neg b1] at h
    refine mj_go_iload (i := 10) (x := s.2) rfl (mj_dt dt_X2_addOthers 92 rfl) ?_
    refine mj_go_bipush (v := 8) rfl (mj_dt dt_X2_addOthers 93 rfl) ?_
    refine mj_go_icmp_ge (tgt := 195) rfl (mj_dt dt_X2_addOthers 94 rfl) (fun b2 => ?_) (fun b2 => ?_)
    · rw [if_pos b2] at h
      refine mj_go_sub (lv' := [(0, .ref 36), (1, .long v1), (3, .long v3), (5, .long v5), (7, .int v7), (8, .long s.1)]) (List.forall_mem_cons.mpr ⟨rfl, (List.forall_mem_cons.mpr ⟨rfl, (List.forall_mem_cons.mpr ⟨rfl, (List.forall_mem_cons.mpr ⟨rfl, (List.forall_mem_cons.mpr ⟨rfl, (List.forall_mem_cons.mpr ⟨rfl, (fun _ h9 => absurd h9 List.not_mem_nil)⟩)⟩)⟩)⟩)⟩)⟩) ?_
      exact k_X2_addOthers_195 q_132 hδ h
    · rw [if_neg b2] at h
      refine mj_go_lload (i := 8) (x := s.1) rfl (mj_dt dt_X2_addOthers 95 rfl) ?_
      refine mj_go_aload_n (k := 0) (x := 36) rfl (mj_dt dt_X2_addOthers 96 rfl) ?_
      refine ml_getR (c := 2) (k := 5) (q := 41) fd_2_5 rf_36_5 (Or.inl fl_X2_24) ho_36 (mj_dt dt_X2_addOthers 97 rfl) ?_
      refine mj_go_iload (i := 7) (x := v7) rfl (mj_dt dt_X2_addOthers 98 rfl) ?_
      obtain ⟨c3, h⟩ := mj_ck_some h
      refine mk_iald c3 (mj_dt dt_X2_addOthers 99 rfl) ?_
      refine mj_go_iload (i := 10) (x := s.2) rfl (mj_dt dt_X2_addOthers 100 rfl) ?_
      refine mj_go_ishr (mj_dt dt_X2_addOthers 101 rfl) ?_
      refine mj_go_iconst (v := 1) rfl (mj_dt dt_X2_addOthers 102 rfl) ?_
      refine mj_go_iand (mj_dt dt_X2_addOthers 103 rfl) ?_
      refine mj_go_i2l (mj_dt dt_X2_addOthers 104 rfl) ?_
      refine mj_go_aload_n (k := 0) (x := 36) rfl (mj_dt dt_X2_addOthers 105 rfl) ?_
      refine ml_getR (c := 2) (k := 8) (q := 44) fd_2_8 rf_36_8 (Or.inl fl_X2_34) ho_36 (mj_dt dt_X2_addOthers 106 rfl) ?_
      refine mj_go_iload (i := 10) (x := s.2) rfl (mj_dt dt_X2_addOthers 107 rfl) ?_
      obtain ⟨c4, h⟩ := mj_ck_some h
      refine mk_lald c4 (mj_dt dt_X2_addOthers 108 rfl) ?_
      refine mj_go_lmul (mj_dt dt_X2_addOthers 109 rfl) ?_
      refine mj_go_ladd (mj_dt dt_X2_addOthers 110 rfl) ?_
      obtain ⟨x5, ex5, h⟩ := mj_mw_some h
      refine ml_eql ex5 ?_
      refine mj_go_lstore (i := 8) (by decide) (mj_dt dt_X2_addOthers 111 rfl) ?_
      obtain ⟨x6, ex6, h⟩ := mj_mw_some h
      refine mj_go_iinc (i := 10) (x := s.2) (v := x6) rfl (by rw [ex6] <;> rfl) (by decide) (mj_dt dt_X2_addOthers 112 rfl) ?_
      refine mj_go_goto (tgt := 149) rfl (mj_dt dt_X2_addOthers 113 rfl) ?_
      refine mj_go_sub (lv' := [(0, .ref 36), (1, .long v1), (3, .long v3), (5, .long v5), (7, .int v7), (8, .long x5), (10, .int x6)]) (List.forall_mem_cons.mpr ⟨rfl, (List.forall_mem_cons.mpr ⟨rfl, (List.forall_mem_cons.mpr ⟨rfl, (List.forall_mem_cons.mpr ⟨rfl, (List.forall_mem_cons.mpr ⟨rfl, (List.forall_mem_cons.mpr ⟨rfl, (List.forall_mem_cons.mpr ⟨rfl, (fun _ h9 => absurd h9 List.not_mem_nil)⟩)⟩)⟩)⟩)⟩)⟩)⟩) ?_
      exact q_149 _ _ h
def f_X2_addOthers_132 (N : Nat) (v1 : Int64) (v3 : Int64) (v5 : Int64) (k_132 : Int32 × mj_m → Option (mj_m)) (s : Int32 × mj_m) : Option (mj_m) := if (1 <<< ((s.2.1 36 9) &&& 31)) ≤ s.1 then (some s.2) else (mj_lp N (f_X2_addOthers_149 N k_132 v1 v3 v5 s.1 s.2) (v1, 1))
theorem k_X2_addOthers_132 {L : Nat} {xs : Nat → Int32} {δ N : Nat} {v1 : Int64} {v3 : Int64} {v5 : Int64} (hδ : 0 ≤ δ) : ∀ (n : Nat) (s : Int32 × mj_m) (a : mj_m), mj_lp n (f_X2_addOthers_132 N v1 v3 v5) s = some a → mj_Go (mj_EX L xs) (δ + 1) mY_X2_addOthers 132 [(0, .ref 36), (1, .long v1), (3, .long v3), (5, .long v5), (7, .int s.1)] [] (mj_fin s.2) (none, (mj_fin a)) := by
  refine mj_lp_sound (fun k_132 s a q_132 h => ?_)
  unfold f_X2_addOthers_132 at h
  refine mj_go_iload (i := 7) (x := s.1) rfl (mj_dt dt_X2_addOthers 78 rfl) ?_
  refine mj_go_iconst (v := 1) rfl (mj_dt dt_X2_addOthers 79 rfl) ?_
  refine mj_go_aload_n (k := 0) (x := 36) rfl (mj_dt dt_X2_addOthers 80 rfl) ?_
  refine mk_getI (c := 2) (k := 9) (Or.inl fd_2_9) (Or.inl fl_X2_37) ho_36 (mj_dt dt_X2_addOthers 81 rfl) ?_
  refine mj_go_ishl (mj_dt dt_X2_addOthers 82 rfl) ?_
  refine mj_go_icmp_ge (tgt := 223) rfl (mj_dt dt_X2_addOthers 83 rfl) (fun b1 => ?_) (fun b1 => ?_)
  · rw [if_pos b1] at h
    obtain rfl := Option.some.inj h
    exact mj_go_ret (v := none) (Nat.le_of_ble_eq_true rfl) (mj_retV (mj_dt dt_X2_addOthers 130 rfl) rfl)
  · rw [if_neg b1] at h
    refine mj_go_lload_n (k := 1) (x := v1) rfl (mj_dt dt_X2_addOthers 84 rfl) ?_
    refine mj_go_lstore (i := 8) (by decide) (mj_dt dt_X2_addOthers 85 rfl) ?_
    refine mj_go_iconst (v := 1) rfl (mj_dt dt_X2_addOthers 86 rfl) ?_
    refine mj_go_istore (i := 10) (by decide) (mj_dt dt_X2_addOthers 87 rfl) ?_
    refine mj_go_sub (lv' := [(0, .ref 36), (1, .long v1), (3, .long v3), (5, .long v5), (7, .int s.1), (8, .long v1), (10, .int 1)]) (List.forall_mem_cons.mpr ⟨rfl, (List.forall_mem_cons.mpr ⟨rfl, (List.forall_mem_cons.mpr ⟨rfl, (List.forall_mem_cons.mpr ⟨rfl, (List.forall_mem_cons.mpr ⟨rfl, (List.forall_mem_cons.mpr ⟨rfl, (List.forall_mem_cons.mpr ⟨rfl, (fun _ h9 => absurd h9 List.not_mem_nil)⟩)⟩)⟩)⟩)⟩)⟩)⟩) ?_
    exact k_X2_addOthers_149 q_132 hδ N _ _ h
def f_X2_addOthers_123 (N : Nat) (k_18 : Int64 × Int64 × Int64 × Int32 × mj_m → Option (mj_m)) (v1 : Int64) (v3 : Int64) (v5 : Int64) (v7 : Int32) (m : mj_m) : Option (mj_m) := mj_mw (v7 + 1) (fun x1 => k_18 (v1, v3, v5, x1, m))
theorem k_X2_addOthers_123 {L : Nat} {xs : Nat → Int32} {δ N : Nat} {v1 : Int64} {v3 : Int64} {v5 : Int64} {v7 : Int32} {m : mj_m} {k_18 : Int64 × Int64 × Int64 × Int32 × mj_m → Option (mj_m)} (q_18 : ∀ (s_ : Int64 × Int64 × Int64 × Int32 × mj_m) (a_ : mj_m), k_18 s_ = some a_ → mj_Go (mj_EX L xs) (δ + 1) mY_X2_addOthers 18 [(0, .ref 36), (1, .long s_.1), (3, .long s_.2.1), (5, .long s_.2.2.1), (7, .int s_.2.2.2.1)] [] (mj_fin s_.2.2.2.2) (none, (mj_fin a_))) (hδ : 0 ≤ δ) {a : mj_m} (h : f_X2_addOthers_123 N k_18 v1 v3 v5 v7 m = some a) : mj_Go (mj_EX L xs) (δ + 1) mY_X2_addOthers 123 [(0, .ref 36), (1, .long v1), (3, .long v3), (5, .long v5), (7, .int v7)] [] (mj_fin m) (none, (mj_fin a)) := by
  unfold f_X2_addOthers_123 at h
  obtain ⟨x1, ex1, h⟩ := mj_mw_some h
  refine mj_go_iinc (i := 7) (x := v7) (v := x1) rfl (by rw [ex1] <;> rfl) (by decide) (mj_dt dt_X2_addOthers 74 rfl) ?_
  refine mj_go_goto (tgt := 18) rfl (mj_dt dt_X2_addOthers 75 rfl) ?_
  refine mj_go_sub (lv' := [(0, .ref 36), (1, .long v1), (3, .long v3), (5, .long v5), (7, .int x1)]) (List.forall_mem_cons.mpr ⟨rfl, (List.forall_mem_cons.mpr ⟨rfl, (List.forall_mem_cons.mpr ⟨rfl, (List.forall_mem_cons.mpr ⟨rfl, (List.forall_mem_cons.mpr ⟨rfl, (fun _ h9 => absurd h9 List.not_mem_nil)⟩)⟩)⟩)⟩)⟩) ?_
  exact q_18 _ _ h
def f_X2_addOthers_18 (N : Nat) (k_18 : Int64 × Int64 × Int64 × Int32 × mj_m → Option (mj_m)) (s : Int64 × Int64 × Int64 × Int32 × mj_m) : Option (mj_m) := if (s.2.2.2.2.1 1 7) ≤ s.2.2.2.1 then (mj_lp N (f_X2_addOthers_132 N s.1 s.2.1 s.2.2.1) (0, s.2.2.2.2)) else (mj_ck (mj_b 2 4 s.2.2.2.1) ( if (s.2.2.2.2.1 (8 + s.2.2.2.1.toNatClampNeg) 5) = (-1 : Int32) then (mj_ck (mj_b 0 39 s.2.2.2.1) ( mj_ck (mj_b 0 38 s.2.2.2.1) ( mj_mw (s.1 + ((10 * ((s.2.2.2.2.1 39 s.2.2.2.1.toNatClampNeg).toInt64)) * ((s.2.2.2.2.1 38 s.2.2.2.1.toNatClampNeg).toInt64))) (fun x6 => mj_ck (mj_b 1 44 (s.2.2.2.2.1 (8 + s.2.2.2.1.toNatClampNeg) 0)) ( mj_mw (mj_wL s.2.2.2.2 44 ((s.2.2.2.2.1 (8 + s.2.2.2.1.toNatClampNeg) 0).toNatClampNeg) ((s.2.2.2.2.2 44 (s.2.2.2.2.1 (8 + s.2.2.2.1.toNatClampNeg) 0).toNatClampNeg) + ((((s.2.2.2.2.1 36 10).toInt64) * ((10 - (s.2.2.2.2.1 39 s.2.2.2.1.toNatClampNeg)).toInt64)) * ((s.2.2.2.2.1 38 s.2.2.2.1.toNatClampNeg).toInt64)))) (fun m8 => mj_mw (s.2.1 * 10) (fun x9 => f_X2_addOthers_123 N k_18 x6 x9 s.2.1 s.2.2.2.1 m8))))))) else f_X2_addOthers_123 N k_18 s.1 s.2.1 s.2.2.1 s.2.2.2.1 s.2.2.2.2))
theorem k_X2_addOthers_18 {L : Nat} {xs : Nat → Int32} {δ N : Nat} (hδ : 0 ≤ δ) : ∀ (n : Nat) (s : Int64 × Int64 × Int64 × Int32 × mj_m) (a : mj_m), mj_lp n (f_X2_addOthers_18 N) s = some a → mj_Go (mj_EX L xs) (δ + 1) mY_X2_addOthers 18 [(0, .ref 36), (1, .long s.1), (3, .long s.2.1), (5, .long s.2.2.1), (7, .int s.2.2.2.1)] [] (mj_fin s.2.2.2.2) (none, (mj_fin a)) := by
  refine mj_lp_sound (fun k_18 s a q_18 h => ?_)
  unfold f_X2_addOthers_18 at h
  refine mj_go_iload (i := 7) (x := s.2.2.2.1) rfl (mj_dt dt_X2_addOthers 12 rfl) ?_
  refine mj_go_aload_n (k := 0) (x := 36) rfl (mj_dt dt_X2_addOthers 13 rfl) ?_
  refine ml_getR (c := 2) (k := 0) (q := 1) fd_2_0 rf_36_0 (Or.inl fl_X2_44) ho_36 (mj_dt dt_X2_addOthers 14 rfl) ?_
  refine mk_getI (c := 7) (k := 7) (Or.inl fd_7_7) (Or.inl fl_X2_48) ho_1 (mj_dt dt_X2_addOthers 15 rfl) ?_
  refine mj_go_icmp_ge (tgt := 129) rfl (mj_dt dt_X2_addOthers 16 rfl) (fun b1 => ?_) (fun b1 => ?_)
  · rw [if_pos b1] at h
    refine mj_go_iconst (v := 0) rfl (mj_dt dt_X2_addOthers 76 rfl) ?_
    refine mj_go_istore (i := 7) (by decide) (mj_dt dt_X2_addOthers 77 rfl) ?_
    refine mj_go_sub (lv' := [(0, .ref 36), (1, .long s.1), (3, .long s.2.1), (5, .long s.2.2.1), (7, .int 0)]) (List.forall_mem_cons.mpr ⟨rfl, (List.forall_mem_cons.mpr ⟨rfl, (List.forall_mem_cons.mpr ⟨rfl, (List.forall_mem_cons.mpr ⟨rfl, (List.forall_mem_cons.mpr ⟨rfl, (fun _ h9 => absurd h9 List.not_mem_nil)⟩)⟩)⟩)⟩)⟩) ?_
    exact k_X2_addOthers_132 hδ N _ _ h
  · rw [if_neg b1] at h
    refine mj_go_aload_n (k := 0) (x := 36) rfl (mj_dt dt_X2_addOthers 17 rfl) ?_
    refine ml_getR (c := 2) (k := 0) (q := 1) fd_2_0 rf_36_0 (Or.inl fl_X2_44) ho_36 (mj_dt dt_X2_addOthers 18 rfl) ?_
    refine ml_getR (c := 7) (k := 2) (q := 4) fd_7_2 rf_1_2 (Or.inl fl_X2_53) ho_1 (mj_dt dt_X2_addOthers 19 rfl) ?_
    refine mj_go_iload (i := 7) (x := s.2.2.2.1) rfl (mj_dt dt_X2_addOthers 20 rfl) ?_
    obtain ⟨c2, h⟩ := mj_ck_some h
    refine ml_aald2 (q := 8 + s.2.2.2.1.toNatClampNeg) c2 (mj_hs4 c2).1 (mj_dt dt_X2_addOthers 21 rfl) ?_
    refine mj_go_astore (i := 8) (by decide) (mj_dt dt_X2_addOthers 22 rfl) ?_
    refine mj_go_aload (i := 8) (x := (8 + s.2.2.2.1.toNatClampNeg)) rfl (mj_dt dt_X2_addOthers 23 rfl) ?_
    refine mk_getI (c := 1) (k := 5) (Or.inl fd_1_5) (Or.inl fl_X2_57) (mj_hs4 c2).2 (mj_dt dt_X2_addOthers 24 rfl) ?_
    refine mj_go_iconst (v := -1) rfl (mj_dt dt_X2_addOthers 25 rfl) ?_
    refine mj_go_icmp_ne (tgt := 123) rfl (mj_dt dt_X2_addOthers 26 rfl) (fun b3 => ?_) (fun b3 => ?_)
    · rw [if_neg b3] at h
      refine mj_go_sub (lv' := [(0, .ref 36), (1, .long s.1), (3, .long s.2.1), (5, .long s.2.2.1), (7, .int s.2.2.2.1)]) (List.forall_mem_cons.mpr ⟨rfl, (List.forall_mem_cons.mpr ⟨rfl, (List.forall_mem_cons.mpr ⟨rfl, (List.forall_mem_cons.mpr ⟨rfl, (List.forall_mem_cons.mpr ⟨rfl, (fun _ h9 => absurd h9 List.not_mem_nil)⟩)⟩)⟩)⟩)⟩) ?_
      exact k_X2_addOthers_123 q_18 hδ h
    · rw [if_pos b3] at h
      refine mj_go_lload_n (k := 1) (x := s.1) rfl (mj_dt dt_X2_addOthers 27 rfl) ?_
      refine mj_go_ldc2 (v := 10) cl_X2_88 (mj_dt dt_X2_addOthers 28 rfl) ?_
      refine mj_go_aload_n (k := 0) (x := 36) rfl (mj_dt dt_X2_addOthers 29 rfl) ?_
      refine ml_getR (c := 2) (k := 3) (q := 39) fd_2_3 rf_36_3 (Or.inl fl_X2_18) ho_36 (mj_dt dt_X2_addOthers 30 rfl) ?_
      refine mj_go_iload (i := 7) (x := s.2.2.2.1) rfl (mj_dt dt_X2_addOthers 31 rfl) ?_
      obtain ⟨c4, h⟩ := mj_ck_some h
      refine mk_iald c4 (mj_dt dt_X2_addOthers 32 rfl) ?_
      refine mj_go_i2l (mj_dt dt_X2_addOthers 33 rfl) ?_
      refine mj_go_lmul (mj_dt dt_X2_addOthers 34 rfl) ?_
      refine mj_go_aload_n (k := 0) (x := 36) rfl (mj_dt dt_X2_addOthers 35 rfl) ?_
      refine ml_getR (c := 2) (k := 2) (q := 38) fd_2_2 rf_36_2 (Or.inl fl_X2_15) ho_36 (mj_dt dt_X2_addOthers 36 rfl) ?_
      refine mj_go_iload (i := 7) (x := s.2.2.2.1) rfl (mj_dt dt_X2_addOthers 37 rfl) ?_
      obtain ⟨c5, h⟩ := mj_ck_some h
      refine mk_iald c5 (mj_dt dt_X2_addOthers 38 rfl) ?_
      refine mj_go_i2l (mj_dt dt_X2_addOthers 39 rfl) ?_
      refine mj_go_lmul (mj_dt dt_X2_addOthers 40 rfl) ?_
      refine mj_go_ladd (mj_dt dt_X2_addOthers 41 rfl) ?_
      obtain ⟨x6, ex6, h⟩ := mj_mw_some h
      refine ml_eql ex6 ?_
      refine mj_go_lstore_n (k := 1) (by decide) (mj_dt dt_X2_addOthers 42 rfl) ?_
      refine mj_go_aload_n (k := 0) (x := 36) rfl (mj_dt dt_X2_addOthers 43 rfl) ?_
      refine ml_getR (c := 2) (k := 8) (q := 44) fd_2_8 rf_36_8 (Or.inl fl_X2_34) ho_36 (mj_dt dt_X2_addOthers 44 rfl) ?_
      refine mj_go_aload (i := 8) (x := (8 + s.2.2.2.1.toNatClampNeg)) rfl (mj_dt dt_X2_addOthers 45 rfl) ?_
      refine mk_getI (c := 1) (k := 0) (Or.inl fd_1_0) (Or.inl fl_X2_85) (mj_hs4 c2).2 (mj_dt dt_X2_addOthers 46 rfl) ?_
      refine mj_go_dup2_11 rfl rfl (mj_dt dt_X2_addOthers 47 rfl) ?_
      obtain ⟨c7, h⟩ := mj_ck_some h
      refine mk_lald c7 (mj_dt dt_X2_addOthers 48 rfl) ?_
      refine mj_go_aload_n (k := 0) (x := 36) rfl (mj_dt dt_X2_addOthers 49 rfl) ?_
      refine mk_getI (c := 2) (k := 10) (Or.inl fd_2_10) (Or.inl fl_X2_41) ho_36 (mj_dt dt_X2_addOthers 50 rfl) ?_
      refine mj_go_i2l (mj_dt dt_X2_addOthers 51 rfl) ?_
      refine mj_go_bipush (v := 10) rfl (mj_dt dt_X2_addOthers 52 rfl) ?_
      refine mj_go_aload_n (k := 0) (x := 36) rfl (mj_dt dt_X2_addOthers 53 rfl) ?_
      refine ml_getR (c := 2) (k := 3) (q := 39) fd_2_3 rf_36_3 (Or.inl fl_X2_18) ho_36 (mj_dt dt_X2_addOthers 54 rfl) ?_
      refine mj_go_iload (i := 7) (x := s.2.2.2.1) rfl (mj_dt dt_X2_addOthers 55 rfl) ?_
      refine mk_iald c4 (mj_dt dt_X2_addOthers 56 rfl) ?_
      refine mj_go_isub (mj_dt dt_X2_addOthers 57 rfl) ?_
      refine mj_go_i2l (mj_dt dt_X2_addOthers 58 rfl) ?_
      refine mj_go_lmul (mj_dt dt_X2_addOthers 59 rfl) ?_
      refine mj_go_aload_n (k := 0) (x := 36) rfl (mj_dt dt_X2_addOthers 60 rfl) ?_
      refine ml_getR (c := 2) (k := 2) (q := 38) fd_2_2 rf_36_2 (Or.inl fl_X2_15) ho_36 (mj_dt dt_X2_addOthers 61 rfl) ?_
      refine mj_go_iload (i := 7) (x := s.2.2.2.1) rfl (mj_dt dt_X2_addOthers 62 rfl) ?_
      refine mk_iald c5 (mj_dt dt_X2_addOthers 63 rfl) ?_
      refine mj_go_i2l (mj_dt dt_X2_addOthers 64 rfl) ?_
      refine mj_go_lmul (mj_dt dt_X2_addOthers 65 rfl) ?_
      refine mj_go_ladd (mj_dt dt_X2_addOthers 66 rfl) ?_
      obtain ⟨m8, em8, h⟩ := mj_mw_some h
      refine ml_last c7 (mj_dt dt_X2_addOthers 67 rfl) ?_
      refine ml_eqm (M1 := (mj_fin m8)) (by rw [em8] <;> rfl) ?_
      refine mj_go_lload_n (k := 3) (x := s.2.1) rfl (mj_dt dt_X2_addOthers 68 rfl) ?_
      refine mj_go_lstore (i := 5) (by decide) (mj_dt dt_X2_addOthers 69 rfl) ?_
      refine mj_go_lload_n (k := 3) (x := s.2.1) rfl (mj_dt dt_X2_addOthers 70 rfl) ?_
      refine mj_go_ldc2 (v := 10) cl_X2_88 (mj_dt dt_X2_addOthers 71 rfl) ?_
      refine mj_go_lmul (mj_dt dt_X2_addOthers 72 rfl) ?_
      obtain ⟨x9, ex9, h⟩ := mj_mw_some h
      refine ml_eql ex9 ?_
      refine mj_go_lstore_n (k := 3) (by decide) (mj_dt dt_X2_addOthers 73 rfl) ?_
      refine mj_go_sub (lv' := [(0, .ref 36), (1, .long x6), (3, .long x9), (5, .long s.2.1), (7, .int s.2.2.2.1)]) (List.forall_mem_cons.mpr ⟨rfl, (List.forall_mem_cons.mpr ⟨rfl, (List.forall_mem_cons.mpr ⟨rfl, (List.forall_mem_cons.mpr ⟨rfl, (List.forall_mem_cons.mpr ⟨rfl, (fun _ h9 => absurd h9 List.not_mem_nil)⟩)⟩)⟩)⟩)⟩) ?_
      exact k_X2_addOthers_123 q_18 hδ h
def f_X2_addOthers (N : Nat) (m : mj_m) : Option (mj_m) := (f_J7_fill_d0a16 N 44 0 m).bind (fun r1 => mj_lp N (f_X2_addOthers_18 N) (0, 1, 0, 0, r1))
theorem k_X2_addOthers {L : Nat} {xs : Nat → Int32} {δ N : Nat} {m : mj_m} (hδ : 1 ≤ δ) {a : mj_m} (h : f_X2_addOthers N m = some a) : mj_Cl (mj_EX L xs) δ mY_X2_addOthers [.ref 36] (mj_fin m) (none, (mj_fin a)) := by
  obtain ⟨δ, rfl⟩ : ∃ d, δ = d + 1 := ⟨δ - 1, by omega⟩
  have hδ : 0 ≤ δ := by omega
  refine mj_cl_of ok_X2_addOthers (Nat.le_of_ble_eq_true rfl) ?_
  unfold f_X2_addOthers at h
  refine mj_go_aload_n (k := 0) (x := 36) rfl (mj_dt dt_X2_addOthers 0 rfl) ?_
  refine ml_getR (c := 2) (k := 8) (q := 44) fd_2_8 rf_36_8 (Or.inl fl_X2_34) ho_36 (mj_dt dt_X2_addOthers 1 rfl) ?_
  refine mj_go_lconst (v := 0) rfl (mj_dt dt_X2_addOthers 2 rfl) ?_
  obtain ⟨r1, er1, h⟩ := mj_bind_some h
  refine ml_callS (Y' := mY_J7_fill_d0a16) (as := [.ref 44, .long 0]) (rest := []) (v := none) (M1 := (mj_fin r1)) lm_X2_113 wc_J7_fill_d0a16 pl_J7_fill_d0a16 ok_J7_fill_d0a16 rfl rfl (Nat.le_of_ble_eq_true rfl) (k_J7_fill_d0a16 (by omega) er1) (mj_dt dt_X2_addOthers 3 rfl) ?_
  refine mj_go_lconst (v := 0) rfl (mj_dt dt_X2_addOthers 4 rfl) ?_
  refine mj_go_lstore_n (k := 1) (by decide) (mj_dt dt_X2_addOthers 5 rfl) ?_
  refine mj_go_lconst (v := 1) rfl (mj_dt dt_X2_addOthers 6 rfl) ?_
  refine mj_go_lstore_n (k := 3) (by decide) (mj_dt dt_X2_addOthers 7 rfl) ?_
  refine mj_go_lconst (v := 0) rfl (mj_dt dt_X2_addOthers 8 rfl) ?_
  refine mj_go_lstore (i := 5) (by decide) (mj_dt dt_X2_addOthers 9 rfl) ?_
  refine mj_go_iconst (v := 0) rfl (mj_dt dt_X2_addOthers 10 rfl) ?_
  refine mj_go_istore (i := 7) (by decide) (mj_dt dt_X2_addOthers 11 rfl) ?_
  refine mj_go_sub (lv' := [(0, .ref 36), (1, .long 0), (3, .long 1), (5, .long 0), (7, .int 0)]) (List.forall_mem_cons.mpr ⟨rfl, (List.forall_mem_cons.mpr ⟨rfl, (List.forall_mem_cons.mpr ⟨rfl, (List.forall_mem_cons.mpr ⟨rfl, (List.forall_mem_cons.mpr ⟨rfl, (fun _ h9 => absurd h9 List.not_mem_nil)⟩)⟩)⟩)⟩)⟩) ?_
  exact k_X2_addOthers_18 hδ N _ _ h
def f_X7_tenths_78 (N : Nat) (v5 : Int32) (m : mj_m) : Option (Int32) := if 0 ≤ v5 then (if v5 ≤ 10 then ((some v5)) else ((some 10))) else ((some 0))
theorem k_X7_tenths_78 {L : Nat} {xs : Nat → Int32} {δ N : Nat} {v5 : Int32} {m : mj_m} {a : Int32} (h : f_X7_tenths_78 N v5 m = some a) : mj_Go (mj_EX L xs) δ mY_X7_tenths 78 [(5, .int v5)] [] (mj_fin m) (some (.int a), (mj_fin m)) := by
  unfold f_X7_tenths_78 at h
  refine mj_go_iload (i := 5) (x := v5) rfl (mj_dt dt_X7_tenths 43 rfl) ?_
  refine mj_go_if_ge (tgt := 87) rfl (mj_dt dt_X7_tenths 44 rfl) (fun b1 => ?_) (fun b1 => ?_)
  · rw [if_pos b1] at h
    refine mj_go_iload (i := 5) (x := v5) rfl (mj_dt dt_X7_tenths 47 rfl) ?_
    refine mj_go_bipush (v := 10) rfl (mj_dt dt_X7_tenths 48 rfl) ?_
    refine mj_go_icmp_le (tgt := 99) rfl (mj_dt dt_X7_tenths 49 rfl) (fun b2 => ?_) (fun b2 => ?_)
    · rw [if_pos b2] at h
      refine mj_go_iload (i := 5) (x := v5) rfl (mj_dt dt_X7_tenths 52 rfl) ?_
      obtain rfl := Option.some.inj h
      exact mj_go_ret (v := some (.int v5)) (Nat.le_of_ble_eq_true rfl) (mj_retI (mj_dt dt_X7_tenths 53 rfl) rfl)
    · rw [if_neg b2] at h
      refine mj_go_bipush (v := 10) rfl (mj_dt dt_X7_tenths 50 rfl) ?_
      refine mj_go_goto (tgt := 101) rfl (mj_dt dt_X7_tenths 51 rfl) ?_
      obtain rfl := Option.some.inj h
      exact mj_go_ret (v := some (.int 10)) (Nat.le_of_ble_eq_true rfl) (mj_retI (mj_dt dt_X7_tenths 53 rfl) rfl)
  · rw [if_neg b1] at h
    refine mj_go_iconst (v := 0) rfl (mj_dt dt_X7_tenths 45 rfl) ?_
    refine mj_go_goto (tgt := 101) rfl (mj_dt dt_X7_tenths 46 rfl) ?_
    obtain rfl := Option.some.inj h
    exact mj_go_ret (v := some (.int 0)) (Nat.le_of_ble_eq_true rfl) (mj_retI (mj_dt dt_X7_tenths 53 rfl) rfl)
def f_X7_tenths_39 (N : Nat) (v1 : Int32) (v3 : Nat) (v4 : Nat) (s0 : Int32) (s1 : Int32) (m : mj_m) : Option (Int32) := mj_mw (s0 - s1) (fun x1 => mj_ck (mj_o 1 v4) ( if (m.1 v4 6) < 0 then f_X7_tenths_78 N x1 m else (if (m.1 1 7) ≤ (m.1 v4 6) then f_X7_tenths_78 N x1 m else (mj_ck (mj_b 0 v3 (m.1 v4 6)) ( mj_ck (mj_b 0 v3 v1) ( if (m.1 v3 (m.1 v4 6).toNatClampNeg) ≤ (m.1 v3 v1.toNatClampNeg) then f_X7_tenths_78 N x1 m else (mj_mw (x1 + 1) (fun x8 => f_X7_tenths_78 N x8 m))))))))
theorem k_X7_tenths_39 {L : Nat} {xs : Nat → Int32} {δ N : Nat} {v1 : Int32} {v3 : Nat} {v4 : Nat} {s0 : Int32} {s1 : Int32} {m : mj_m} {a : Int32} (h : f_X7_tenths_39 N v1 v3 v4 s0 s1 m = some a) : mj_Go (mj_EX L xs) δ mY_X7_tenths 39 [(0, .ref 1), (1, .int v1), (3, .ref v3), (4, .ref v4)] [.int s1, .int s0] (mj_fin m) (some (.int a), (mj_fin m)) := by
  unfold f_X7_tenths_39 at h
  refine mj_go_isub (mj_dt dt_X7_tenths 24 rfl) ?_
  obtain ⟨x1, ex1, h⟩ := mj_mw_some h
  refine ml_eqi ex1 ?_
  refine mj_go_istore (i := 5) (by decide) (mj_dt dt_X7_tenths 25 rfl) ?_
  refine mj_go_aload (i := 4) (x := v4) rfl (mj_dt dt_X7_tenths 26 rfl) ?_
  obtain ⟨c2, h⟩ := mj_ck_some h
  refine mk_getI (c := 1) (k := 6) (Or.inl fd_1_6) (Or.inl fl_X7_93) c2 (mj_dt dt_X7_tenths 27 rfl) ?_
  refine mj_go_if_lt (tgt := 78) rfl (mj_dt dt_X7_tenths 28 rfl) (fun b3 => ?_) (fun b3 => ?_)
  · rw [if_pos b3] at h
    refine mj_go_sub (lv' := [(5, .int x1)]) (List.forall_mem_cons.mpr ⟨rfl, (fun _ h9 => absurd h9 List.not_mem_nil)⟩) ?_
    exact k_X7_tenths_78 h
  · rw [if_neg b3] at h
    refine mj_go_aload (i := 4) (x := v4) rfl (mj_dt dt_X7_tenths 29 rfl) ?_
    refine mk_getI (c := 1) (k := 6) (Or.inl fd_1_6) (Or.inl fl_X7_93) c2 (mj_dt dt_X7_tenths 30 rfl) ?_
    refine mj_go_aload_n (k := 0) (x := 1) rfl (mj_dt dt_X7_tenths 31 rfl) ?_
    refine mk_getI (c := 7) (k := 7) (Or.inl fd_7_7) (Or.inl fl_X7_37) ho_1 (mj_dt dt_X7_tenths 32 rfl) ?_
    refine mj_go_icmp_ge (tgt := 78) rfl (mj_dt dt_X7_tenths 33 rfl) (fun b4 => ?_) (fun b4 => ?_)
    · rw [if_pos b4] at h
      refine mj_go_sub (lv' := [(5, .int x1)]) (List.forall_mem_cons.mpr ⟨rfl, (fun _ h9 => absurd h9 List.not_mem_nil)⟩) ?_
      exact k_X7_tenths_78 h
    · rw [if_neg b4] at h
      refine mj_go_aload_n (k := 3) (x := v3) rfl (mj_dt dt_X7_tenths 34 rfl) ?_
      refine mj_go_aload (i := 4) (x := v4) rfl (mj_dt dt_X7_tenths 35 rfl) ?_
      refine mk_getI (c := 1) (k := 6) (Or.inl fd_1_6) (Or.inl fl_X7_93) c2 (mj_dt dt_X7_tenths 36 rfl) ?_
      obtain ⟨c5, h⟩ := mj_ck_some h
      refine mk_iald c5 (mj_dt dt_X7_tenths 37 rfl) ?_
      refine mj_go_aload_n (k := 3) (x := v3) rfl (mj_dt dt_X7_tenths 38 rfl) ?_
      refine mj_go_iload_n (k := 1) (x := v1) rfl (mj_dt dt_X7_tenths 39 rfl) ?_
      obtain ⟨c6, h⟩ := mj_ck_some h
      refine mk_iald c6 (mj_dt dt_X7_tenths 40 rfl) ?_
      refine mj_go_icmp_le (tgt := 78) rfl (mj_dt dt_X7_tenths 41 rfl) (fun b7 => ?_) (fun b7 => ?_)
      · rw [if_pos b7] at h
        refine mj_go_sub (lv' := [(5, .int x1)]) (List.forall_mem_cons.mpr ⟨rfl, (fun _ h9 => absurd h9 List.not_mem_nil)⟩) ?_
        exact k_X7_tenths_78 h
      · rw [if_neg b7] at h
        obtain ⟨x8, ex8, h⟩ := mj_mw_some h
        refine mj_go_iinc (i := 5) (x := x1) (v := x8) rfl (by rw [ex8] <;> rfl) (by decide) (mj_dt dt_X7_tenths 42 rfl) ?_
        refine mj_go_sub (lv' := [(5, .int x8)]) (List.forall_mem_cons.mpr ⟨rfl, (fun _ h9 => absurd h9 List.not_mem_nil)⟩) ?_
        exact k_X7_tenths_78 h
def f_X7_tenths (N : Nat) (v1 : Int32) (v2 : Int32) (v3 : Nat) (m : mj_m) : Option (Int32) := mj_ck (mj_b 2 4 v1) ( mj_ck (mj_b 0 7 v2) ( mj_ck (mj_b 0 v3 v1) ( if (m.1 (8 + v1.toNatClampNeg) 7) = 0 then (f_X7_tenths_39 N v1 v3 (8 + v1.toNatClampNeg) (((m.1 (8 + v1.toNatClampNeg) 1) + (m.1 7 v2.toNatClampNeg)) - (4 * (m.1 v3 v1.toNatClampNeg))) 0 m) else (f_X7_tenths_39 N v1 v3 (8 + v1.toNatClampNeg) (((m.1 (8 + v1.toNatClampNeg) 1) + (m.1 7 v2.toNatClampNeg)) - (4 * (m.1 v3 v1.toNatClampNeg))) 2 m))))
theorem k_X7_tenths {L : Nat} {xs : Nat → Int32} {δ N : Nat} {v1 : Int32} {v2 : Int32} {v3 : Nat} {m : mj_m} (_ : 0 ≤ δ) {a : Int32} (h : f_X7_tenths N v1 v2 v3 m = some a) : mj_Cl (mj_EX L xs) δ mY_X7_tenths [.ref 1, .int v1, .int v2, .ref v3] (mj_fin m) (some (.int a), (mj_fin m)) := by
  refine mj_cl_of ok_X7_tenths (Nat.le_of_ble_eq_true rfl) ?_
  unfold f_X7_tenths at h
  refine mj_go_aload_n (k := 0) (x := 1) rfl (mj_dt dt_X7_tenths 0 rfl) ?_
  refine ml_getR (c := 7) (k := 2) (q := 4) fd_7_2 rf_1_2 (Or.inl fl_X7_20) ho_1 (mj_dt dt_X7_tenths 1 rfl) ?_
  refine mj_go_iload_n (k := 1) (x := v1) rfl (mj_dt dt_X7_tenths 2 rfl) ?_
  obtain ⟨c1, h⟩ := mj_ck_some h
  refine ml_aald2 (q := 8 + v1.toNatClampNeg) c1 (mj_hs4 c1).1 (mj_dt dt_X7_tenths 3 rfl) ?_
  refine mj_go_astore (i := 4) (by decide) (mj_dt dt_X7_tenths 4 rfl) ?_
  refine mj_go_aload (i := 4) (x := (8 + v1.toNatClampNeg)) rfl (mj_dt dt_X7_tenths 5 rfl) ?_
  refine mk_getI (c := 1) (k := 1) (Or.inl fd_1_1) (Or.inl fl_X7_78) (mj_hs4 c1).2 (mj_dt dt_X7_tenths 6 rfl) ?_
  refine mj_go_aload_n (k := 0) (x := 1) rfl (mj_dt dt_X7_tenths 7 rfl) ?_
  refine ml_getR (c := 7) (k := 5) (q := 7) fd_7_5 rf_1_5 (Or.inl fl_X7_30) ho_1 (mj_dt dt_X7_tenths 8 rfl) ?_
  refine mj_go_iload_n (k := 2) (x := v2) rfl (mj_dt dt_X7_tenths 9 rfl) ?_
  obtain ⟨c2, h⟩ := mj_ck_some h
  refine mk_iald c2 (mj_dt dt_X7_tenths 10 rfl) ?_
  refine mj_go_iadd (mj_dt dt_X7_tenths 11 rfl) ?_
  refine mj_go_iconst (v := 4) rfl (mj_dt dt_X7_tenths 12 rfl) ?_
  refine mj_go_aload_n (k := 3) (x := v3) rfl (mj_dt dt_X7_tenths 13 rfl) ?_
  refine mj_go_iload_n (k := 1) (x := v1) rfl (mj_dt dt_X7_tenths 14 rfl) ?_
  obtain ⟨c3, h⟩ := mj_ck_some h
  refine mk_iald c3 (mj_dt dt_X7_tenths 15 rfl) ?_
  refine mj_go_imul (mj_dt dt_X7_tenths 16 rfl) ?_
  refine mj_go_isub (mj_dt dt_X7_tenths 17 rfl) ?_
  refine mj_go_aload (i := 4) (x := (8 + v1.toNatClampNeg)) rfl (mj_dt dt_X7_tenths 18 rfl) ?_
  refine mk_getI (c := 1) (k := 7) (Or.inr fd_1_7) (Or.inl fl_X7_96) (mj_hs4 c1).2 (mj_dt dt_X7_tenths 19 rfl) ?_
  refine mj_go_if_eq (tgt := 38) rfl (mj_dt dt_X7_tenths 20 rfl) (fun b4 => ?_) (fun b4 => ?_)
  · rw [if_pos b4] at h
    refine mj_go_iconst (v := 0) rfl (mj_dt dt_X7_tenths 23 rfl) ?_
    refine mj_go_sub (lv' := [(0, .ref 1), (1, .int v1), (3, .ref v3), (4, .ref (8 + v1.toNatClampNeg))]) (List.forall_mem_cons.mpr ⟨rfl, (List.forall_mem_cons.mpr ⟨rfl, (List.forall_mem_cons.mpr ⟨rfl, (List.forall_mem_cons.mpr ⟨rfl, (fun _ h9 => absurd h9 List.not_mem_nil)⟩)⟩)⟩)⟩) ?_
    exact k_X7_tenths_39 h
  · rw [if_neg b4] at h
    refine mj_go_iconst (v := 2) rfl (mj_dt dt_X7_tenths 21 rfl) ?_
    refine mj_go_goto (tgt := 39) rfl (mj_dt dt_X7_tenths 22 rfl) ?_
    refine mj_go_sub (lv' := [(0, .ref 1), (1, .int v1), (3, .ref v3), (4, .ref (8 + v1.toNatClampNeg))]) (List.forall_mem_cons.mpr ⟨rfl, (List.forall_mem_cons.mpr ⟨rfl, (List.forall_mem_cons.mpr ⟨rfl, (List.forall_mem_cons.mpr ⟨rfl, (fun _ h9 => absurd h9 List.not_mem_nil)⟩)⟩)⟩)⟩) ?_
    exact k_X7_tenths_39 h
def f_X2_sumOver_78 (N : Nat) (k_46 : Int32 × mj_m → Option (Int64 × mj_m)) (v3 : Int32) (v4 : Int32) (v5 : Int32) (v6 : Int32) (k_78 : Int32 × mj_m → Option (Int64 × mj_m)) (s : Int32 × mj_m) : Option (Int64 × mj_m) := if v6 ≤ s.1 then (mj_mw (v3 + (-1 : Int32)) (fun x2 => k_46 (x2, s.2))) else (mj_ck (mj_b 1 43 s.1) ( mj_ck (mj_b 1 43 (v6 + s.1)) ( mj_mw (mj_wL s.2 43 (s.1.toNatClampNeg) (((s.2.2 43 s.1.toNatClampNeg) * (v5.toInt64)) + ((s.2.2 43 (v6 + s.1).toNatClampNeg) * (v4.toInt64)))) (fun m4 => mj_mw (s.1 + 1) (fun x5 => k_78 (x5, m4))))))
theorem k_X2_sumOver_78 {L : Nat} {xs : Nat → Int32} {δ N : Nat} {v3 : Int32} {v4 : Int32} {v5 : Int32} {v6 : Int32} {k_46 : Int32 × mj_m → Option (Int64 × mj_m)} (q_46 : ∀ (s_ : Int32 × mj_m) (a_ : Int64 × mj_m), k_46 s_ = some a_ → mj_Go (mj_EX L xs) (δ + 1) mY_X2_sumOver 46 [(0, .ref 36), (3, .int s_.1)] [] (mj_fin s_.2) (some (.long a_.1), (mj_fin a_.2))) (hδ : 1 ≤ δ) : ∀ (n : Nat) (s : Int32 × mj_m) (a : Int64 × mj_m), mj_lp n (f_X2_sumOver_78 N k_46 v3 v4 v5 v6) s = some a → mj_Go (mj_EX L xs) (δ + 1) mY_X2_sumOver 78 [(0, .ref 36), (3, .int v3), (4, .int v4), (5, .int v5), (6, .int v6), (7, .int s.1)] [] (mj_fin s.2) (some (.long a.1), (mj_fin a.2)) := by
  refine mj_lp_sound (fun k_78 s a q_78 h => ?_)
  unfold f_X2_sumOver_78 at h
  refine mj_go_iload (i := 7) (x := s.1) rfl (mj_dt dt_X2_sumOver 46 rfl) ?_
  refine mj_go_iload (i := 6) (x := v6) rfl (mj_dt dt_X2_sumOver 47 rfl) ?_
  refine mj_go_icmp_ge (tgt := 124) rfl (mj_dt dt_X2_sumOver 48 rfl) (fun b1 => ?_) (fun b1 => ?_)
  · rw [if_pos b1] at h
    obtain ⟨x2, ex2, h⟩ := mj_mw_some h
    refine mj_go_iinc (i := 3) (x := v3) (v := x2) rfl (by rw [ex2] <;> rfl) (by decide) (mj_dt dt_X2_sumOver 72 rfl) ?_
    refine mj_go_goto (tgt := 46) rfl (mj_dt dt_X2_sumOver 73 rfl) ?_
    refine mj_go_sub (lv' := [(0, .ref 36), (3, .int x2)]) (List.forall_mem_cons.mpr ⟨rfl, (List.forall_mem_cons.mpr ⟨rfl, (fun _ h9 => absurd h9 List.not_mem_nil)⟩)⟩) ?_
    exact q_46 _ _ h
  · rw [if_neg b1] at h
    refine mj_go_aload_n (k := 0) (x := 36) rfl (mj_dt dt_X2_sumOver 49 rfl) ?_
    refine ml_getR (c := 2) (k := 7) (q := 43) fd_2_7 rf_36_7 (Or.inl fl_X2_31) ho_36 (mj_dt dt_X2_sumOver 50 rfl) ?_
    refine mj_go_iload (i := 7) (x := s.1) rfl (mj_dt dt_X2_sumOver 51 rfl) ?_
    refine mj_go_aload_n (k := 0) (x := 36) rfl (mj_dt dt_X2_sumOver 52 rfl) ?_
    refine ml_getR (c := 2) (k := 7) (q := 43) fd_2_7 rf_36_7 (Or.inl fl_X2_31) ho_36 (mj_dt dt_X2_sumOver 53 rfl) ?_
    refine mj_go_iload (i := 7) (x := s.1) rfl (mj_dt dt_X2_sumOver 54 rfl) ?_
    obtain ⟨c2, h⟩ := mj_ck_some h
    refine mk_lald c2 (mj_dt dt_X2_sumOver 55 rfl) ?_
    refine mj_go_iload (i := 5) (x := v5) rfl (mj_dt dt_X2_sumOver 56 rfl) ?_
    refine mj_go_i2l (mj_dt dt_X2_sumOver 57 rfl) ?_
    refine mj_go_lmul (mj_dt dt_X2_sumOver 58 rfl) ?_
    refine mj_go_aload_n (k := 0) (x := 36) rfl (mj_dt dt_X2_sumOver 59 rfl) ?_
    refine ml_getR (c := 2) (k := 7) (q := 43) fd_2_7 rf_36_7 (Or.inl fl_X2_31) ho_36 (mj_dt dt_X2_sumOver 60 rfl) ?_
    refine mj_go_iload (i := 6) (x := v6) rfl (mj_dt dt_X2_sumOver 61 rfl) ?_
    refine mj_go_iload (i := 7) (x := s.1) rfl (mj_dt dt_X2_sumOver 62 rfl) ?_
    refine mj_go_iadd (mj_dt dt_X2_sumOver 63 rfl) ?_
    obtain ⟨c3, h⟩ := mj_ck_some h
    refine mk_lald c3 (mj_dt dt_X2_sumOver 64 rfl) ?_
    refine mj_go_iload (i := 4) (x := v4) rfl (mj_dt dt_X2_sumOver 65 rfl) ?_
    refine mj_go_i2l (mj_dt dt_X2_sumOver 66 rfl) ?_
    refine mj_go_lmul (mj_dt dt_X2_sumOver 67 rfl) ?_
    refine mj_go_ladd (mj_dt dt_X2_sumOver 68 rfl) ?_
    obtain ⟨m4, em4, h⟩ := mj_mw_some h
    refine ml_last c2 (mj_dt dt_X2_sumOver 69 rfl) ?_
    refine ml_eqm (M1 := (mj_fin m4)) (by rw [em4] <;> rfl) ?_
    obtain ⟨x5, ex5, h⟩ := mj_mw_some h
    refine mj_go_iinc (i := 7) (x := s.1) (v := x5) rfl (by rw [ex5] <;> rfl) (by decide) (mj_dt dt_X2_sumOver 70 rfl) ?_
    refine mj_go_goto (tgt := 78) rfl (mj_dt dt_X2_sumOver 71 rfl) ?_
    refine mj_go_sub (lv' := [(0, .ref 36), (3, .int v3), (4, .int v4), (5, .int v5), (6, .int v6), (7, .int x5)]) (List.forall_mem_cons.mpr ⟨rfl, (List.forall_mem_cons.mpr ⟨rfl, (List.forall_mem_cons.mpr ⟨rfl, (List.forall_mem_cons.mpr ⟨rfl, (List.forall_mem_cons.mpr ⟨rfl, (List.forall_mem_cons.mpr ⟨rfl, (fun _ h9 => absurd h9 List.not_mem_nil)⟩)⟩)⟩)⟩)⟩)⟩) ?_
    exact q_78 _ _ h
def f_X2_sumOver_46 (N : Nat) (k_46 : Int32 × mj_m → Option (Int64 × mj_m)) (s : Int32 × mj_m) : Option (Int64 × mj_m) := if s.1 < 0 then (mj_ck (mj_b 1 43 0) ( some (s.2.2 43 (0 : Int32).toNatClampNeg, s.2))) else (mj_ck (mj_b 0 37 s.1) ( mj_ck (mj_b 0 39 (s.2.1 37 s.1.toNatClampNeg)) ( mj_mw (s.2.1 39 (s.2.1 37 s.1.toNatClampNeg).toNatClampNeg) (fun x4 => mj_mw (10 - x4) (fun x5 => mj_mw (1 <<< (s.1 &&& 31)) (fun x6 => mj_lp N (f_X2_sumOver_78 N k_46 s.1 x4 x5 x6) (0, s.2)))))))
theorem k_X2_sumOver_46 {L : Nat} {xs : Nat → Int32} {δ N : Nat} (hδ : 1 ≤ δ) : ∀ (n : Nat) (s : Int32 × mj_m) (a : Int64 × mj_m), mj_lp n (f_X2_sumOver_46 N) s = some a → mj_Go (mj_EX L xs) (δ + 1) mY_X2_sumOver 46 [(0, .ref 36), (3, .int s.1)] [] (mj_fin s.2) (some (.long a.1), (mj_fin a.2)) := by
  refine mj_lp_sound (fun k_46 s a q_46 h => ?_)
  unfold f_X2_sumOver_46 at h
  refine mj_go_iload_n (k := 3) (x := s.1) rfl (mj_dt dt_X2_sumOver 26 rfl) ?_
  refine mj_go_if_lt (tgt := 130) rfl (mj_dt dt_X2_sumOver 27 rfl) (fun b1 => ?_) (fun b1 => ?_)
  · rw [if_pos b1] at h
    refine mj_go_aload_n (k := 0) (x := 36) rfl (mj_dt dt_X2_sumOver 74 rfl) ?_
    refine ml_getR (c := 2) (k := 7) (q := 43) fd_2_7 rf_36_7 (Or.inl fl_X2_31) ho_36 (mj_dt dt_X2_sumOver 75 rfl) ?_
    refine mj_go_iconst (v := 0) rfl (mj_dt dt_X2_sumOver 76 rfl) ?_
    obtain ⟨c2, h⟩ := mj_ck_some h
    refine mk_lald c2 (mj_dt dt_X2_sumOver 77 rfl) ?_
    obtain rfl := Option.some.inj h
    exact mj_go_ret (v := some (.long (s.2.2 43 (0 : Int32).toNatClampNeg))) (Nat.le_of_ble_eq_true rfl) (mj_retL (mj_dt dt_X2_sumOver 78 rfl) rfl)
  · rw [if_neg b1] at h
    refine mj_go_aload_n (k := 0) (x := 36) rfl (mj_dt dt_X2_sumOver 28 rfl) ?_
    refine ml_getR (c := 2) (k := 3) (q := 39) fd_2_3 rf_36_3 (Or.inl fl_X2_18) ho_36 (mj_dt dt_X2_sumOver 29 rfl) ?_
    refine mj_go_aload_n (k := 0) (x := 36) rfl (mj_dt dt_X2_sumOver 30 rfl) ?_
    refine ml_getR (c := 2) (k := 1) (q := 37) fd_2_1 rf_36_1 (Or.inl fl_X2_9) ho_36 (mj_dt dt_X2_sumOver 31 rfl) ?_
    refine mj_go_iload_n (k := 3) (x := s.1) rfl (mj_dt dt_X2_sumOver 32 rfl) ?_
    obtain ⟨c2, h⟩ := mj_ck_some h
    refine mk_iald c2 (mj_dt dt_X2_sumOver 33 rfl) ?_
    obtain ⟨c3, h⟩ := mj_ck_some h
    refine mk_iald c3 (mj_dt dt_X2_sumOver 34 rfl) ?_
    obtain ⟨x4, ex4, h⟩ := mj_mw_some h
    refine ml_eqi ex4 ?_
    refine mj_go_istore (i := 4) (by decide) (mj_dt dt_X2_sumOver 35 rfl) ?_
    refine mj_go_bipush (v := 10) rfl (mj_dt dt_X2_sumOver 36 rfl) ?_
    refine mj_go_iload (i := 4) (x := x4) rfl (mj_dt dt_X2_sumOver 37 rfl) ?_
    refine mj_go_isub (mj_dt dt_X2_sumOver 38 rfl) ?_
    obtain ⟨x5, ex5, h⟩ := mj_mw_some h
    refine ml_eqi ex5 ?_
    refine mj_go_istore (i := 5) (by decide) (mj_dt dt_X2_sumOver 39 rfl) ?_
    refine mj_go_iconst (v := 1) rfl (mj_dt dt_X2_sumOver 40 rfl) ?_
    refine mj_go_iload_n (k := 3) (x := s.1) rfl (mj_dt dt_X2_sumOver 41 rfl) ?_
    refine mj_go_ishl (mj_dt dt_X2_sumOver 42 rfl) ?_
    obtain ⟨x6, ex6, h⟩ := mj_mw_some h
    refine ml_eqi ex6 ?_
    refine mj_go_istore (i := 6) (by decide) (mj_dt dt_X2_sumOver 43 rfl) ?_
    refine mj_go_iconst (v := 0) rfl (mj_dt dt_X2_sumOver 44 rfl) ?_
    refine mj_go_istore (i := 7) (by decide) (mj_dt dt_X2_sumOver 45 rfl) ?_
    refine mj_go_sub (lv' := [(0, .ref 36), (3, .int s.1), (4, .int x4), (5, .int x5), (6, .int x6), (7, .int 0)]) (List.forall_mem_cons.mpr ⟨rfl, (List.forall_mem_cons.mpr ⟨rfl, (List.forall_mem_cons.mpr ⟨rfl, (List.forall_mem_cons.mpr ⟨rfl, (List.forall_mem_cons.mpr ⟨rfl, (List.forall_mem_cons.mpr ⟨rfl, (fun _ h9 => absurd h9 List.not_mem_nil)⟩)⟩)⟩)⟩)⟩)⟩) ?_
    exact k_X2_sumOver_78 q_46 hδ N _ _ h
def f_X2_sumOver_2 (N : Nat) (v1 : Int32) (v2 : Nat) (k_2 : Int32 × mj_m → Option (Int64 × mj_m)) (s : Int32 × mj_m) : Option (Int64 × mj_m) := if (s.2.1 1 7) ≤ s.1 then ((f_X2_addOthers N s.2).bind (fun r2 => mj_mw ((r2.1 36 9) - 1) (fun x3 => mj_lp N (f_X2_sumOver_46 N) (x3, r2)))) else ((f_X7_tenths N s.1 v1 v2 s.2).bind (fun r2 => mj_ck (mj_b 0 39 s.1) ( mj_mw (mj_wI s.2 39 (s.1.toNatClampNeg) r2) (fun m4 => mj_mw (s.1 + 1) (fun x5 => k_2 (x5, m4))))))
theorem k_X2_sumOver_2 {L : Nat} {xs : Nat → Int32} {δ N : Nat} {v1 : Int32} {v2 : Nat} (hδ : 1 ≤ δ) : ∀ (n : Nat) (s : Int32 × mj_m) (a : Int64 × mj_m), mj_lp n (f_X2_sumOver_2 N v1 v2) s = some a → mj_Go (mj_EX L xs) (δ + 1) mY_X2_sumOver 2 [(0, .ref 36), (1, .int v1), (2, .ref v2), (3, .int s.1)] [] (mj_fin s.2) (some (.long a.1), (mj_fin a.2)) := by
  refine mj_lp_sound (fun k_2 s a q_2 h => ?_)
  unfold f_X2_sumOver_2 at h
  refine mj_go_iload_n (k := 3) (x := s.1) rfl (mj_dt dt_X2_sumOver 2 rfl) ?_
  refine mj_go_aload_n (k := 0) (x := 36) rfl (mj_dt dt_X2_sumOver 3 rfl) ?_
  refine ml_getR (c := 2) (k := 0) (q := 1) fd_2_0 rf_36_0 (Or.inl fl_X2_44) ho_36 (mj_dt dt_X2_sumOver 4 rfl) ?_
  refine mk_getI (c := 7) (k := 7) (Or.inl fd_7_7) (Or.inl fl_X2_48) ho_1 (mj_dt dt_X2_sumOver 5 rfl) ?_
  refine mj_go_icmp_ge (tgt := 35) rfl (mj_dt dt_X2_sumOver 6 rfl) (fun b1 => ?_) (fun b1 => ?_)
  · rw [if_pos b1] at h
    refine mj_go_aload_n (k := 0) (x := 36) rfl (mj_dt dt_X2_sumOver 19 rfl) ?_
    obtain ⟨r2, er2, h⟩ := mj_bind_some h
    refine ml_callV (Y' := mY_X2_addOthers) (as := []) (rest := []) (c := 2) (v := none) (M1 := (mj_fin r2)) ho_36 rfl lm_X2_110 wc_X2_addOthers pl_X2_addOthers ok_X2_addOthers rfl rfl (Nat.le_of_ble_eq_true rfl) (k_X2_addOthers (by omega) er2) (mj_dt dt_X2_sumOver 20 rfl) ?_
    refine mj_go_aload_n (k := 0) (x := 36) rfl (mj_dt dt_X2_sumOver 21 rfl) ?_
    refine mk_getI (c := 2) (k := 9) (Or.inl fd_2_9) (Or.inl fl_X2_37) ho_36 (mj_dt dt_X2_sumOver 22 rfl) ?_
    refine mj_go_iconst (v := 1) rfl (mj_dt dt_X2_sumOver 23 rfl) ?_
    refine mj_go_isub (mj_dt dt_X2_sumOver 24 rfl) ?_
    obtain ⟨x3, ex3, h⟩ := mj_mw_some h
    refine ml_eqi ex3 ?_
    refine mj_go_istore_n (k := 3) (by decide) (mj_dt dt_X2_sumOver 25 rfl) ?_
    refine mj_go_sub (lv' := [(0, .ref 36), (3, .int x3)]) (List.forall_mem_cons.mpr ⟨rfl, (List.forall_mem_cons.mpr ⟨rfl, (fun _ h9 => absurd h9 List.not_mem_nil)⟩)⟩) ?_
    exact k_X2_sumOver_46 hδ N _ _ h
  · rw [if_neg b1] at h
    refine mj_go_aload_n (k := 0) (x := 36) rfl (mj_dt dt_X2_sumOver 7 rfl) ?_
    refine ml_getR (c := 2) (k := 3) (q := 39) fd_2_3 rf_36_3 (Or.inl fl_X2_18) ho_36 (mj_dt dt_X2_sumOver 8 rfl) ?_
    refine mj_go_iload_n (k := 3) (x := s.1) rfl (mj_dt dt_X2_sumOver 9 rfl) ?_
    refine mj_go_aload_n (k := 0) (x := 36) rfl (mj_dt dt_X2_sumOver 10 rfl) ?_
    refine ml_getR (c := 2) (k := 0) (q := 1) fd_2_0 rf_36_0 (Or.inl fl_X2_44) ho_36 (mj_dt dt_X2_sumOver 11 rfl) ?_
    refine mj_go_iload_n (k := 3) (x := s.1) rfl (mj_dt dt_X2_sumOver 12 rfl) ?_
    refine mj_go_iload_n (k := 1) (x := v1) rfl (mj_dt dt_X2_sumOver 13 rfl) ?_
    refine mj_go_aload_n (k := 2) (x := v2) rfl (mj_dt dt_X2_sumOver 14 rfl) ?_
    obtain ⟨r2, er2, h⟩ := mj_bind_some h
    refine ml_callV (Y' := mY_X7_tenths) (as := [.int s.1, .int v1, .ref v2]) (rest := [.int s.1, .ref 39]) (c := 7) (v := (some (.int r2))) (M1 := (mj_fin s.2)) ho_1 rfl lm_X2_106 wc_X7_tenths pl_X7_tenths ok_X7_tenths rfl rfl (Nat.le_of_ble_eq_true rfl) (k_X7_tenths (by omega) er2) (mj_dt dt_X2_sumOver 15 rfl) ?_
    obtain ⟨c3, h⟩ := mj_ck_some h
    obtain ⟨m4, em4, h⟩ := mj_mw_some h
    refine ml_iast c3 (mj_dt dt_X2_sumOver 16 rfl) ?_
    refine ml_eqm (M1 := (mj_fin m4)) (by rw [em4] <;> rfl) ?_
    obtain ⟨x5, ex5, h⟩ := mj_mw_some h
    refine mj_go_iinc (i := 3) (x := s.1) (v := x5) rfl (by rw [ex5] <;> rfl) (by decide) (mj_dt dt_X2_sumOver 17 rfl) ?_
    refine mj_go_goto (tgt := 2) rfl (mj_dt dt_X2_sumOver 18 rfl) ?_
    refine mj_go_sub (lv' := [(0, .ref 36), (1, .int v1), (2, .ref v2), (3, .int x5)]) (List.forall_mem_cons.mpr ⟨rfl, (List.forall_mem_cons.mpr ⟨rfl, (List.forall_mem_cons.mpr ⟨rfl, (List.forall_mem_cons.mpr ⟨rfl, (fun _ h9 => absurd h9 List.not_mem_nil)⟩)⟩)⟩)⟩) ?_
    exact q_2 _ _ h
def f_X2_sumOver (N : Nat) (v1 : Int32) (v2 : Nat) (m : mj_m) : Option (Int64 × mj_m) := mj_lp N (f_X2_sumOver_2 N v1 v2) (0, m)
theorem k_X2_sumOver {L : Nat} {xs : Nat → Int32} {δ N : Nat} {v1 : Int32} {v2 : Nat} {m : mj_m} (hδ : 2 ≤ δ) {a : Int64 × mj_m} (h : f_X2_sumOver N v1 v2 m = some a) : mj_Cl (mj_EX L xs) δ mY_X2_sumOver [.ref 36, .int v1, .ref v2] (mj_fin m) (some (.long a.1), (mj_fin a.2)) := by
  obtain ⟨δ, rfl⟩ : ∃ d, δ = d + 1 := ⟨δ - 1, by omega⟩
  have hδ : 1 ≤ δ := by omega
  refine mj_cl_of ok_X2_sumOver (Nat.le_of_ble_eq_true rfl) ?_
  unfold f_X2_sumOver at h
  refine mj_go_iconst (v := 0) rfl (mj_dt dt_X2_sumOver 0 rfl) ?_
  refine mj_go_istore_n (k := 3) (by decide) (mj_dt dt_X2_sumOver 1 rfl) ?_
  refine mj_go_sub (lv' := [(0, .ref 36), (1, .int v1), (2, .ref v2), (3, .int 0)]) (List.forall_mem_cons.mpr ⟨rfl, (List.forall_mem_cons.mpr ⟨rfl, (List.forall_mem_cons.mpr ⟨rfl, (List.forall_mem_cons.mpr ⟨rfl, (fun _ h9 => absurd h9 List.not_mem_nil)⟩)⟩)⟩)⟩) ?_
  exact k_X2_sumOver_2 hδ N _ _ h
def f_X2_meanBy_52 (N : Nat) (k_5 : Int64 × Int32 × mj_m → Option (Int64 × mj_m)) (v1 : Nat) (v2 : Int64) (v4 : Int32) (m : mj_m) : Option (Int64 × mj_m) := mj_mw (v4 + 1) (fun x1 => k_5 (v2, x1, m))
theorem k_X2_meanBy_52 {L : Nat} {xs : Nat → Int32} {δ N : Nat} {v1 : Nat} {v2 : Int64} {v4 : Int32} {m : mj_m} {k_5 : Int64 × Int32 × mj_m → Option (Int64 × mj_m)} (q_5 : ∀ (s_ : Int64 × Int32 × mj_m) (a_ : Int64 × mj_m), k_5 s_ = some a_ → mj_Go (mj_EX L xs) (δ + 1) mY_X2_meanBy 5 [(0, .ref 36), (1, .ref v1), (2, .long s_.1), (4, .int s_.2.1)] [] (mj_fin s_.2.2) (some (.long a_.1), (mj_fin a_.2))) (hδ : 2 ≤ δ) {a : Int64 × mj_m} (h : f_X2_meanBy_52 N k_5 v1 v2 v4 m = some a) : mj_Go (mj_EX L xs) (δ + 1) mY_X2_meanBy 52 [(0, .ref 36), (1, .ref v1), (2, .long v2), (4, .int v4)] [] (mj_fin m) (some (.long a.1), (mj_fin a.2)) := by
  unfold f_X2_meanBy_52 at h
  obtain ⟨x1, ex1, h⟩ := mj_mw_some h
  refine mj_go_iinc (i := 4) (x := v4) (v := x1) rfl (by rw [ex1] <;> rfl) (by decide) (mj_dt dt_X2_meanBy 29 rfl) ?_
  refine mj_go_goto (tgt := 5) rfl (mj_dt dt_X2_meanBy 30 rfl) ?_
  refine mj_go_sub (lv' := [(0, .ref 36), (1, .ref v1), (2, .long v2), (4, .int x1)]) (List.forall_mem_cons.mpr ⟨rfl, (List.forall_mem_cons.mpr ⟨rfl, (List.forall_mem_cons.mpr ⟨rfl, (List.forall_mem_cons.mpr ⟨rfl, (fun _ h9 => absurd h9 List.not_mem_nil)⟩)⟩)⟩)⟩) ?_
  exact q_5 _ _ h
def f_X2_meanBy_5 (N : Nat) (v1 : Nat) (k_5 : Int64 × Int32 × mj_m → Option (Int64 × mj_m)) (s : Int64 × Int32 × mj_m) : Option (Int64 × mj_m) := if (s.2.2.1 1 8) ≤ s.2.1 then (some (s.1, s.2.2)) else (mj_ck (mj_b 0 6 s.2.1) ( if (s.2.2.1 6 s.2.1.toNatClampNeg) ≤ 0 then f_X2_meanBy_52 N k_5 v1 s.1 s.2.1 s.2.2 else ((f_X2_sumOver N s.2.1 v1 s.2.2).bind (fun r4 => mj_mw (s.1 + (((s.2.2.1 6 s.2.1.toNatClampNeg).toInt64) * r4.1)) (fun x5 => f_X2_meanBy_52 N k_5 v1 x5 s.2.1 r4.2)))))
theorem k_X2_meanBy_5 {L : Nat} {xs : Nat → Int32} {δ N : Nat} {v1 : Nat} (hδ : 2 ≤ δ) : ∀ (n : Nat) (s : Int64 × Int32 × mj_m) (a : Int64 × mj_m), mj_lp n (f_X2_meanBy_5 N v1) s = some a → mj_Go (mj_EX L xs) (δ + 1) mY_X2_meanBy 5 [(0, .ref 36), (1, .ref v1), (2, .long s.1), (4, .int s.2.1)] [] (mj_fin s.2.2) (some (.long a.1), (mj_fin a.2)) := by
  refine mj_lp_sound (fun k_5 s a q_5 h => ?_)
  unfold f_X2_meanBy_5 at h
  refine mj_go_iload (i := 4) (x := s.2.1) rfl (mj_dt dt_X2_meanBy 4 rfl) ?_
  refine mj_go_aload_n (k := 0) (x := 36) rfl (mj_dt dt_X2_meanBy 5 rfl) ?_
  refine ml_getR (c := 2) (k := 0) (q := 1) fd_2_0 rf_36_0 (Or.inl fl_X2_44) ho_36 (mj_dt dt_X2_meanBy 6 rfl) ?_
  refine mk_getI (c := 7) (k := 8) (Or.inl fd_7_8) (Or.inl fl_X2_116) ho_1 (mj_dt dt_X2_meanBy 7 rfl) ?_
  refine mj_go_icmp_ge (tgt := 58) rfl (mj_dt dt_X2_meanBy 8 rfl) (fun b1 => ?_) (fun b1 => ?_)
  · rw [if_pos b1] at h
    refine mj_go_lload_n (k := 2) (x := s.1) rfl (mj_dt dt_X2_meanBy 31 rfl) ?_
    obtain rfl := Option.some.inj h
    exact mj_go_ret (v := some (.long s.1)) (Nat.le_of_ble_eq_true rfl) (mj_retL (mj_dt dt_X2_meanBy 32 rfl) rfl)
  · rw [if_neg b1] at h
    refine mj_go_aload_n (k := 0) (x := 36) rfl (mj_dt dt_X2_meanBy 9 rfl) ?_
    refine ml_getR (c := 2) (k := 0) (q := 1) fd_2_0 rf_36_0 (Or.inl fl_X2_44) ho_36 (mj_dt dt_X2_meanBy 10 rfl) ?_
    refine ml_getR (c := 7) (k := 4) (q := 6) fd_7_4 rf_1_4 (Or.inl fl_X2_119) ho_1 (mj_dt dt_X2_meanBy 11 rfl) ?_
    refine mj_go_iload (i := 4) (x := s.2.1) rfl (mj_dt dt_X2_meanBy 12 rfl) ?_
    obtain ⟨c2, h⟩ := mj_ck_some h
    refine mk_iald c2 (mj_dt dt_X2_meanBy 13 rfl) ?_
    refine mj_go_if_le (tgt := 52) rfl (mj_dt dt_X2_meanBy 14 rfl) (fun b3 => ?_) (fun b3 => ?_)
    · rw [if_pos b3] at h
      refine mj_go_sub (lv' := [(0, .ref 36), (1, .ref v1), (2, .long s.1), (4, .int s.2.1)]) (List.forall_mem_cons.mpr ⟨rfl, (List.forall_mem_cons.mpr ⟨rfl, (List.forall_mem_cons.mpr ⟨rfl, (List.forall_mem_cons.mpr ⟨rfl, (fun _ h9 => absurd h9 List.not_mem_nil)⟩)⟩)⟩)⟩) ?_
      exact k_X2_meanBy_52 q_5 hδ h
    · rw [if_neg b3] at h
      refine mj_go_lload_n (k := 2) (x := s.1) rfl (mj_dt dt_X2_meanBy 15 rfl) ?_
      refine mj_go_aload_n (k := 0) (x := 36) rfl (mj_dt dt_X2_meanBy 16 rfl) ?_
      refine ml_getR (c := 2) (k := 0) (q := 1) fd_2_0 rf_36_0 (Or.inl fl_X2_44) ho_36 (mj_dt dt_X2_meanBy 17 rfl) ?_
      refine ml_getR (c := 7) (k := 4) (q := 6) fd_7_4 rf_1_4 (Or.inl fl_X2_119) ho_1 (mj_dt dt_X2_meanBy 18 rfl) ?_
      refine mj_go_iload (i := 4) (x := s.2.1) rfl (mj_dt dt_X2_meanBy 19 rfl) ?_
      refine mk_iald c2 (mj_dt dt_X2_meanBy 20 rfl) ?_
      refine mj_go_i2l (mj_dt dt_X2_meanBy 21 rfl) ?_
      refine mj_go_aload_n (k := 0) (x := 36) rfl (mj_dt dt_X2_meanBy 22 rfl) ?_
      refine mj_go_iload (i := 4) (x := s.2.1) rfl (mj_dt dt_X2_meanBy 23 rfl) ?_
      refine mj_go_aload_n (k := 1) (x := v1) rfl (mj_dt dt_X2_meanBy 24 rfl) ?_
      obtain ⟨r4, er4, h⟩ := mj_bind_some h
      refine ml_callV (Y' := mY_X2_sumOver) (as := [.int s.2.1, .ref v1]) (rest := [.long ((s.2.2.1 6 s.2.1.toNatClampNeg).toInt64), .long s.1]) (c := 2) (v := (some (.long r4.1))) (M1 := (mj_fin r4.2)) ho_36 rfl lm_X2_122 wc_X2_sumOver pl_X2_sumOver ok_X2_sumOver rfl rfl (Nat.le_of_ble_eq_true rfl) (k_X2_sumOver (by omega) er4) (mj_dt dt_X2_meanBy 25 rfl) ?_
      refine mj_go_lmul (mj_dt dt_X2_meanBy 26 rfl) ?_
      refine mj_go_ladd (mj_dt dt_X2_meanBy 27 rfl) ?_
      obtain ⟨x5, ex5, h⟩ := mj_mw_some h
      refine ml_eql ex5 ?_
      refine mj_go_lstore_n (k := 2) (by decide) (mj_dt dt_X2_meanBy 28 rfl) ?_
      refine mj_go_sub (lv' := [(0, .ref 36), (1, .ref v1), (2, .long x5), (4, .int s.2.1)]) (List.forall_mem_cons.mpr ⟨rfl, (List.forall_mem_cons.mpr ⟨rfl, (List.forall_mem_cons.mpr ⟨rfl, (List.forall_mem_cons.mpr ⟨rfl, (fun _ h9 => absurd h9 List.not_mem_nil)⟩)⟩)⟩)⟩) ?_
      exact k_X2_meanBy_52 q_5 hδ h
def f_X2_meanBy (N : Nat) (v1 : Nat) (m : mj_m) : Option (Int64 × mj_m) := mj_lp N (f_X2_meanBy_5 N v1) (0, 0, m)
theorem k_X2_meanBy {L : Nat} {xs : Nat → Int32} {δ N : Nat} {v1 : Nat} {m : mj_m} (hδ : 3 ≤ δ) {a : Int64 × mj_m} (h : f_X2_meanBy N v1 m = some a) : mj_Cl (mj_EX L xs) δ mY_X2_meanBy [.ref 36, .ref v1] (mj_fin m) (some (.long a.1), (mj_fin a.2)) := by
  obtain ⟨δ, rfl⟩ : ∃ d, δ = d + 1 := ⟨δ - 1, by omega⟩
  have hδ : 2 ≤ δ := by omega
  refine mj_cl_of ok_X2_meanBy (Nat.le_of_ble_eq_true rfl) ?_
  unfold f_X2_meanBy at h
  refine mj_go_lconst (v := 0) rfl (mj_dt dt_X2_meanBy 0 rfl) ?_
  refine mj_go_lstore_n (k := 2) (by decide) (mj_dt dt_X2_meanBy 1 rfl) ?_
  refine mj_go_iconst (v := 0) rfl (mj_dt dt_X2_meanBy 2 rfl) ?_
  refine mj_go_istore (i := 4) (by decide) (mj_dt dt_X2_meanBy 3 rfl) ?_
  refine mj_go_sub (lv' := [(0, .ref 36), (1, .ref v1), (2, .long 0), (4, .int 0)]) (List.forall_mem_cons.mpr ⟨rfl, (List.forall_mem_cons.mpr ⟨rfl, (List.forall_mem_cons.mpr ⟨rfl, (List.forall_mem_cons.mpr ⟨rfl, (fun _ h9 => absurd h9 List.not_mem_nil)⟩)⟩)⟩)⟩) ?_
  exact k_X2_meanBy_5 hδ N _ _ h
