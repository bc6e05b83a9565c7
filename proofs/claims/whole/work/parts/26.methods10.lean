/-! METHODS as functions, and their rows over the small machine (printed by program from the printed instructions) -/
def f_X9_planned_30 (N : Nat) (v1 : Int32) (k_30 : Int64 × Int32 × mj_m → Option (Int64 × mj_m)) (s : Int64 × Int32 × mj_m) : Option (Int64 × mj_m) := if v1 ≤ s.2.1 then ((f_X9_all N 120 1 s.2.2).bind (fun r2 => some (s.1, r2))) else ((f_X9_builds N s.2.2).bind (fun r2 => (f_X9_meanNow N r2).bind (fun r3 => mj_mw (s.1 + r3.1) (fun x4 => mj_mw (s.2.1 + 1) (fun x5 => k_30 (x4, x5, r3.2))))))
theorem k_X9_planned_30 {L : Nat} {xs : Nat → Int32} {δ N : Nat} {v1 : Int32} (hδ : 3 ≤ δ) : ∀ (n : Nat) (s : Int64 × Int32 × mj_m) (a : Int64 × mj_m), mj_lp n (f_X9_planned_30 N v1) s = some a → mj_Go (mj_EX L xs) (δ + 1) mY_X9_planned 30 [(0, .ref 95), (1, .int v1), (2, .long s.1), (4, .int s.2.1)] [] (mj_fin s.2.2) (some (.long a.1), (mj_fin a.2)) := by
  refine mj_lp_sound (fun k_30 s a q_30 h => ?_)
  unfold f_X9_planned_30 at h
  refine mj_go_iload (i := 4) (x := s.2.1) rfl (mj_dt dt_X9_planned 19 rfl) ?_
  refine mj_go_iload_n (k := 1) (x := v1) rfl (mj_dt dt_X9_planned 20 rfl) ?_
  refine mj_go_icmp_ge (tgt := 53) rfl (mj_dt dt_X9_planned 21 rfl) (fun b1 => ?_) (fun b1 => ?_)
  · rw [if_pos b1] at h
    refine mj_go_aload_n (k := 0) (x := 95) rfl (mj_dt dt_X9_planned 31 rfl) ?_
    refine mj_go_aload_n (k := 0) (x := 95) rfl (mj_dt dt_X9_planned 32 rfl) ?_
    refine ml_getR (c := 9) (k := 40) (q := 120) fd_9_40 rf_95_40 (Or.inl fl_X9_99) ho_95 (mj_dt dt_X9_planned 33 rfl) ?_
    refine mj_go_iconst (v := 1) rfl (mj_dt dt_X9_planned 34 rfl) ?_
    obtain ⟨r2, er2, h⟩ := mj_bind_some h
    refine ml_callV (Y' := mY_X9_all) (as := [.ref 120, .int 1]) (rest := []) (c := 9) (v := none) (M1 := (mj_fin r2)) ho_95 rfl lm_X9_227 wc_X9_all pl_X9_all ok_X9_all rfl rfl (Nat.le_of_ble_eq_true rfl) (k_X9_all (by omega) er2) (mj_dt dt_X9_planned 35 rfl) ?_
    refine mj_go_lload_n (k := 2) (x := s.1) rfl (mj_dt dt_X9_planned 36 rfl) ?_
    obtain rfl := Option.some.inj h
    exact mj_go_ret (v := some (.long s.1)) (Nat.le_of_ble_eq_true rfl) (mj_retL (mj_dt dt_X9_planned 37 rfl) rfl)
  · rw [if_neg b1] at h
    refine mj_go_aload_n (k := 0) (x := 95) rfl (mj_dt dt_X9_planned 22 rfl) ?_
    obtain ⟨r2, er2, h⟩ := mj_bind_some h
    refine ml_callV (Y' := mY_X9_builds) (as := []) (rest := []) (c := 9) (v := none) (M1 := (mj_fin r2)) ho_95 rfl lm_X9_293 wc_X9_builds pl_X9_builds ok_X9_builds rfl rfl (Nat.le_of_ble_eq_true rfl) (k_X9_builds (by omega) er2) (mj_dt dt_X9_planned 23 rfl) ?_
    refine mj_go_lload_n (k := 2) (x := s.1) rfl (mj_dt dt_X9_planned 24 rfl) ?_
    refine mj_go_aload_n (k := 0) (x := 95) rfl (mj_dt dt_X9_planned 25 rfl) ?_
    obtain ⟨r3, er3, h⟩ := mj_bind_some h
    refine ml_callV (Y' := mY_X9_meanNow) (as := []) (rest := [.long s.1]) (c := 9) (v := (some (.long r3.1))) (M1 := (mj_fin r3.2)) ho_95 rfl lm_X9_259 wc_X9_meanNow pl_X9_meanNow ok_X9_meanNow rfl rfl (Nat.le_of_ble_eq_true rfl) (k_X9_meanNow (by omega) er3) (mj_dt dt_X9_planned 26 rfl) ?_
    refine mj_go_ladd (mj_dt dt_X9_planned 27 rfl) ?_
    obtain ⟨x4, ex4, h⟩ := mj_mw_some h
    refine ml_eql ex4 ?_
    refine mj_go_lstore_n (k := 2) (by decide) (mj_dt dt_X9_planned 28 rfl) ?_
    obtain ⟨x5, ex5, h⟩ := mj_mw_some h
    refine mj_go_iinc (i := 4) (x := s.2.1) (v := x5) rfl (by rw [ex5] <;> rfl) (by decide) (mj_dt dt_X9_planned 29 rfl) ?_
    refine mj_go_goto (tgt := 30) rfl (mj_dt dt_X9_planned 30 rfl) ?_
    refine mj_go_sub (lv' := [(0, .ref 95), (1, .int v1), (2, .long x4), (4, .int x5)]) (List.forall_mem_cons.mpr ⟨rfl, (List.forall_mem_cons.mpr ⟨rfl, (List.forall_mem_cons.mpr ⟨rfl, (List.forall_mem_cons.mpr ⟨rfl, (fun _ h9 => absurd h9 List.not_mem_nil)⟩)⟩)⟩)⟩) ?_
    exact q_30 _ _ h
def f_X9_planned (N : Nat) (v1 : Int32) (m : mj_m) : Option (Int64 × mj_m) := (f_X9_all N 120 0 m).bind (fun r1 => (f_X9_worthsBy N 2 1 r1).bind (fun r2 => mj_mw (mj_wI r2 95 47 0) (fun m3 => mj_mw (mj_wI m3 95 48 0) (fun m4 => mj_lp N (f_X9_planned_30 N v1) (0, 0, m4)))))
theorem k_X9_planned {L : Nat} {xs : Nat → Int32} {δ N : Nat} {v1 : Int32} {m : mj_m} (hδ : 4 ≤ δ) {a : Int64 × mj_m} (h : f_X9_planned N v1 m = some a) : mj_Cl (mj_EX L xs) δ mY_X9_planned [.ref 95, .int v1] (mj_fin m) (some (.long a.1), (mj_fin a.2)) := by
  obtain ⟨δ, rfl⟩ : ∃ d, δ = d + 1 := ⟨δ - 1, by omega⟩
  have hδ : 3 ≤ δ := by omega
  refine mj_cl_of ok_X9_planned (Nat.le_of_ble_eq_true rfl) ?_
  unfold f_X9_planned at h
  refine mj_go_aload_n (k := 0) (x := 95) rfl (mj_dt dt_X9_planned 0 rfl) ?_
  refine mj_go_aload_n (k := 0) (x := 95) rfl (mj_dt dt_X9_planned 1 rfl) ?_
  refine ml_getR (c := 9) (k := 40) (q := 120) fd_9_40 rf_95_40 (Or.inl fl_X9_99) ho_95 (mj_dt dt_X9_planned 2 rfl) ?_
  refine mj_go_iconst (v := 0) rfl (mj_dt dt_X9_planned 3 rfl) ?_
  obtain ⟨r1, er1, h⟩ := mj_bind_some h
  refine ml_callV (Y' := mY_X9_all) (as := [.ref 120, .int 0]) (rest := []) (c := 9) (v := none) (M1 := (mj_fin r1)) ho_95 rfl lm_X9_227 wc_X9_all pl_X9_all ok_X9_all rfl rfl (Nat.le_of_ble_eq_true rfl) (k_X9_all (by omega) er1) (mj_dt dt_X9_planned 4 rfl) ?_
  refine mj_go_aload_n (k := 0) (x := 95) rfl (mj_dt dt_X9_planned 5 rfl) ?_
  refine mj_go_iconst (v := 2) rfl (mj_dt dt_X9_planned 6 rfl) ?_
  refine mj_go_iconst (v := 1) rfl (mj_dt dt_X9_planned 7 rfl) ?_
  obtain ⟨r2, er2, h⟩ := mj_bind_some h
  refine ml_callV (Y' := mY_X9_worthsBy) (as := [.int 2, .int 1]) (rest := []) (c := 9) (v := none) (M1 := (mj_fin r2)) ho_95 rfl lm_X9_251 wc_X9_worthsBy pl_X9_worthsBy ok_X9_worthsBy rfl rfl (Nat.le_of_ble_eq_true rfl) (k_X9_worthsBy (by omega) er2) (mj_dt dt_X9_planned 8 rfl) ?_
  refine mj_go_aload_n (k := 0) (x := 95) rfl (mj_dt dt_X9_planned 9 rfl) ?_
  refine mj_go_iconst (v := 0) rfl (mj_dt dt_X9_planned 10 rfl) ?_
  obtain ⟨m3, em3, h⟩ := mj_mw_some h
  refine ml_putI (c := 9) (k := 47) fd_9_47 rfl fl_X9_284 ho_95 (mj_dt dt_X9_planned 11 rfl) ?_
  refine ml_eqm (M1 := (mj_fin m3)) (by rw [em3] <;> rfl) ?_
  refine mj_go_aload_n (k := 0) (x := 95) rfl (mj_dt dt_X9_planned 12 rfl) ?_
  refine mj_go_iconst (v := 0) rfl (mj_dt dt_X9_planned 13 rfl) ?_
  obtain ⟨m4, em4, h⟩ := mj_mw_some h
  refine ml_putI (c := 9) (k := 48) fd_9_48 rfl fl_X9_290 ho_95 (mj_dt dt_X9_planned 14 rfl) ?_
  refine ml_eqm (M1 := (mj_fin m4)) (by rw [em4] <;> rfl) ?_
  refine mj_go_lconst (v := 0) rfl (mj_dt dt_X9_planned 15 rfl) ?_
  refine mj_go_lstore_n (k := 2) (by decide) (mj_dt dt_X9_planned 16 rfl) ?_
  refine mj_go_iconst (v := 0) rfl (mj_dt dt_X9_planned 17 rfl) ?_
  refine mj_go_istore (i := 4) (by decide) (mj_dt dt_X9_planned 18 rfl) ?_
  refine mj_go_sub (lv' := [(0, .ref 95), (1, .int v1), (2, .long 0), (4, .int 0)]) (List.forall_mem_cons.mpr ⟨rfl, (List.forall_mem_cons.mpr ⟨rfl, (List.forall_mem_cons.mpr ⟨rfl, (List.forall_mem_cons.mpr ⟨rfl, (fun _ h9 => absurd h9 List.not_mem_nil)⟩)⟩)⟩)⟩) ?_
  exact k_X9_planned_30 hδ N _ _ h
def f_X9_plan (N : Nat) (v1 : Int32) (v2 : Int32) (m : mj_m) : Option (Int64 × mj_m) := (f_X9_wants N v1 2 m).bind (fun r1 => if r1 = 0 then ((f_X9_isYears N v2 m).bind (fun r3 => if r3 = 0 then ((f_X9_no N (-6 : Int32) m).bind (fun r5 => some (r5.1.toInt64, r5.2))) else ((f_X9_rowBy N v1 m).bind (fun r5 => (f_X9_planned N v2 r5).bind (fun r6 => some (r6.1, r6.2)))))) else ((f_X9_no N r1 m).bind (fun r3 => some (r3.1.toInt64, r3.2))))
theorem k_X9_plan {L : Nat} {xs : Nat → Int32} {δ N : Nat} {v1 : Int32} {v2 : Int32} {m : mj_m} (hδ : 7 ≤ δ) {a : Int64 × mj_m} (h : f_X9_plan N v1 v2 m = some a) : mj_Cl (mj_EX L xs) δ mY_X9_plan [.ref 95, .int v1, .int v2] (mj_fin m) (some (.long a.1), (mj_fin a.2)) := by
  obtain ⟨δ, rfl⟩ : ∃ d, δ = d + 1 := ⟨δ - 1, by omega⟩
  have hδ : 6 ≤ δ := by omega
  refine mj_cl_of ok_X9_plan (Nat.le_of_ble_eq_true rfl) ?_
  unfold f_X9_plan at h
  refine mj_go_aload_n (k := 0) (x := 95) rfl (mj_dt dt_X9_plan 0 rfl) ?_
  refine mj_go_iload_n (k := 1) (x := v1) rfl (mj_dt dt_X9_plan 1 rfl) ?_
  refine mj_go_iconst (v := 2) rfl (mj_dt dt_X9_plan 2 rfl) ?_
  obtain ⟨r1, er1, h⟩ := mj_bind_some h
  refine ml_callV (Y' := mY_X9_wants) (as := [.int v1, .int 2]) (rest := []) (c := 9) (v := (some (.int r1))) (M1 := (mj_fin m)) ho_95 rfl lm_X9_138 wc_X9_wants pl_X9_wants ok_X9_wants rfl rfl (Nat.le_of_ble_eq_true rfl) (k_X9_wants (by omega) er1) (mj_dt dt_X9_plan 3 rfl) ?_
  refine mj_go_istore_n (k := 3) (by decide) (mj_dt dt_X9_plan 4 rfl) ?_
  refine mj_go_iload_n (k := 3) (x := r1) rfl (mj_dt dt_X9_plan 5 rfl) ?_
  refine mj_go_if_eq (tgt := 18) rfl (mj_dt dt_X9_plan 6 rfl) (fun b2 => ?_) (fun b2 => ?_)
  · rw [if_pos b2] at h
    refine mj_go_aload_n (k := 0) (x := 95) rfl (mj_dt dt_X9_plan 12 rfl) ?_
    refine mj_go_iload_n (k := 2) (x := v2) rfl (mj_dt dt_X9_plan 13 rfl) ?_
    obtain ⟨r3, er3, h⟩ := mj_bind_some h
    refine ml_callV (Y' := mY_X9_isYears) (as := [.int v2]) (rest := []) (c := 9) (v := (some (.int r3))) (M1 := (mj_fin m)) ho_95 rfl lm_X9_296 wc_X9_isYears pl_X9_isYears ok_X9_isYears rfl rfl (Nat.le_of_ble_eq_true rfl) (k_X9_isYears (by omega) er3) (mj_dt dt_X9_plan 14 rfl) ?_
    refine mj_go_if_ne (tgt := 34) rfl (mj_dt dt_X9_plan 15 rfl) (fun b4 => ?_) (fun b4 => ?_)
    · rw [if_neg b4] at h
      refine mj_go_aload_n (k := 0) (x := 95) rfl (mj_dt dt_X9_plan 21 rfl) ?_
      refine mj_go_iload_n (k := 1) (x := v1) rfl (mj_dt dt_X9_plan 22 rfl) ?_
      obtain ⟨r5, er5, h⟩ := mj_bind_some h
      refine ml_callV (Y' := mY_X9_rowBy) (as := [.int v1]) (rest := []) (c := 9) (v := none) (M1 := (mj_fin r5)) ho_95 rfl lm_X9_299 wc_X9_rowBy pl_X9_rowBy ok_X9_rowBy rfl rfl (Nat.le_of_ble_eq_true rfl) (k_X9_rowBy (by omega) er5) (mj_dt dt_X9_plan 23 rfl) ?_
      refine mj_go_aload_n (k := 0) (x := 95) rfl (mj_dt dt_X9_plan 24 rfl) ?_
      refine mj_go_iload_n (k := 2) (x := v2) rfl (mj_dt dt_X9_plan 25 rfl) ?_
      obtain ⟨r6, er6, h⟩ := mj_bind_some h
      refine ml_callV (Y' := mY_X9_planned) (as := [.int v2]) (rest := []) (c := 9) (v := (some (.long r6.1))) (M1 := (mj_fin r6.2)) ho_95 rfl lm_X9_302 wc_X9_planned pl_X9_planned ok_X9_planned rfl rfl (Nat.le_of_ble_eq_true rfl) (k_X9_planned (by omega) er6) (mj_dt dt_X9_plan 26 rfl) ?_
      obtain rfl := Option.some.inj h
      exact mj_go_ret (v := some (.long r6.1)) (Nat.le_of_ble_eq_true rfl) (mj_retL (mj_dt dt_X9_plan 27 rfl) rfl)
    · rw [if_pos b4] at h
      refine mj_go_aload_n (k := 0) (x := 95) rfl (mj_dt dt_X9_plan 16 rfl) ?_
      refine mj_go_bipush (v := -6) rfl (mj_dt dt_X9_plan 17 rfl) ?_
      obtain ⟨r5, er5, h⟩ := mj_bind_some h
      refine ml_callV (Y' := mY_X9_no) (as := [.int (-6 : Int32)]) (rest := []) (c := 9) (v := (some (.int r5.1))) (M1 := (mj_fin r5.2)) ho_95 rfl lm_X9_134 wc_X9_no pl_X9_no ok_X9_no rfl rfl (Nat.le_of_ble_eq_true rfl) (k_X9_no (by omega) er5) (mj_dt dt_X9_plan 18 rfl) ?_
      refine mj_go_i2l (mj_dt dt_X9_plan 19 rfl) ?_
      obtain rfl := Option.some.inj h
      exact mj_go_ret (v := some (.long (r5.1.toInt64))) (Nat.le_of_ble_eq_true rfl) (mj_retL (mj_dt dt_X9_plan 20 rfl) rfl)
  · rw [if_neg b2] at h
    refine mj_go_aload_n (k := 0) (x := 95) rfl (mj_dt dt_X9_plan 7 rfl) ?_
    refine mj_go_iload_n (k := 3) (x := r1) rfl (mj_dt dt_X9_plan 8 rfl) ?_
    obtain ⟨r3, er3, h⟩ := mj_bind_some h
    refine ml_callV (Y' := mY_X9_no) (as := [.int r1]) (rest := []) (c := 9) (v := (some (.int r3.1))) (M1 := (mj_fin r3.2)) ho_95 rfl lm_X9_134 wc_X9_no pl_X9_no ok_X9_no rfl rfl (Nat.le_of_ble_eq_true rfl) (k_X9_no (by omega) er3) (mj_dt dt_X9_plan 9 rfl) ?_
    refine mj_go_i2l (mj_dt dt_X9_plan 10 rfl) ?_
    obtain rfl := Option.some.inj h
    exact mj_go_ret (v := some (.long (r3.1.toInt64))) (Nat.le_of_ble_eq_true rfl) (mj_retL (mj_dt dt_X9_plan 11 rfl) rfl)
def f_X4_stepsByRule_22 (N : Nat) (v2 : Int32) (k_22 : Int32 × mj_m → Option (Int32 × mj_m)) (s : Int32 × mj_m) : Option (Int32 × mj_m) := if v2 ≤ s.1 then (some (s.2.1 48 12, s.2)) else ((f_X4_spend N s.2).bind (fun r2 => mj_mw (s.1 + 1) (fun x3 => k_22 (x3, r2))))
theorem k_X4_stepsByRule_22 {L : Nat} {xs : Nat → Int32} {δ N : Nat} {v2 : Int32} (hδ : 6 ≤ δ) : ∀ (n : Nat) (s : Int32 × mj_m) (a : Int32 × mj_m), mj_lp n (f_X4_stepsByRule_22 N v2) s = some a → mj_Go (mj_EX L xs) (δ + 1) mY_X4_stepsByRule 22 [(0, .ref 48), (2, .int v2), (3, .int s.1)] [] (mj_fin s.2) (some (.int a.1), (mj_fin a.2)) := by
  refine mj_lp_sound (fun k_22 s a q_22 h => ?_)
  unfold f_X4_stepsByRule_22 at h
  refine mj_go_iload_n (k := 3) (x := s.1) rfl (mj_dt dt_X4_stepsByRule 12 rfl) ?_
  refine mj_go_iload_n (k := 2) (x := v2) rfl (mj_dt dt_X4_stepsByRule 13 rfl) ?_
  refine mj_go_icmp_ge (tgt := 37) rfl (mj_dt dt_X4_stepsByRule 14 rfl) (fun b1 => ?_) (fun b1 => ?_)
  · rw [if_pos b1] at h
    refine mj_go_aload_n (k := 0) (x := 48) rfl (mj_dt dt_X4_stepsByRule 19 rfl) ?_
    refine mk_getI (c := 4) (k := 12) (Or.inl fd_4_12) (Or.inl fl_X4_41) ho_48 (mj_dt dt_X4_stepsByRule 20 rfl) ?_
    obtain rfl := Option.some.inj h
    exact mj_go_ret (v := some (.int (s.2.1 48 12))) (Nat.le_of_ble_eq_true rfl) (mj_retI (mj_dt dt_X4_stepsByRule 21 rfl) rfl)
  · rw [if_neg b1] at h
    refine mj_go_aload_n (k := 0) (x := 48) rfl (mj_dt dt_X4_stepsByRule 15 rfl) ?_
    obtain ⟨r2, er2, h⟩ := mj_bind_some h
    refine ml_callV (Y' := mY_X4_spend) (as := []) (rest := []) (c := 4) (v := none) (M1 := (mj_fin r2)) ho_48 rfl lm_X4_114 wc_X4_spend pl_X4_spend ok_X4_spend rfl rfl (Nat.le_of_ble_eq_true rfl) (k_X4_spend (by omega) er2) (mj_dt dt_X4_stepsByRule 16 rfl) ?_
    obtain ⟨x3, ex3, h⟩ := mj_mw_some h
    refine mj_go_iinc (i := 3) (x := s.1) (v := x3) rfl (by rw [ex3] <;> rfl) (by decide) (mj_dt dt_X4_stepsByRule 17 rfl) ?_
    refine mj_go_goto (tgt := 22) rfl (mj_dt dt_X4_stepsByRule 18 rfl) ?_
    refine mj_go_sub (lv' := [(0, .ref 48), (2, .int v2), (3, .int x3)]) (List.forall_mem_cons.mpr ⟨rfl, (List.forall_mem_cons.mpr ⟨rfl, (List.forall_mem_cons.mpr ⟨rfl, (fun _ h9 => absurd h9 List.not_mem_nil)⟩)⟩)⟩) ?_
    exact q_22 _ _ h
def f_X4_stepsByRule (N : Nat) (v1 : Nat) (v2 : Int32) (m : mj_m) : Option (Int32 × mj_m) := (f_X3_arrange N v1 49 m).bind (fun r1 => mj_mw (mj_wI r1.2 48 9 r1.1) (fun m2 => (f_X4_begin N m2).bind (fun r3 => mj_lp N (f_X4_stepsByRule_22 N v2) (0, r3))))
theorem k_X4_stepsByRule {L : Nat} {xs : Nat → Int32} {δ N : Nat} {v1 : Nat} {v2 : Int32} {m : mj_m} (hδ : 7 ≤ δ) {a : Int32 × mj_m} (h : f_X4_stepsByRule N v1 v2 m = some a) : mj_Cl (mj_EX L xs) δ mY_X4_stepsByRule [.ref 48, .ref v1, .int v2] (mj_fin m) (some (.int a.1), (mj_fin a.2)) := by
  obtain ⟨δ, rfl⟩ : ∃ d, δ = d + 1 := ⟨δ - 1, by omega⟩
  have hδ : 6 ≤ δ := by omega
  refine mj_cl_of ok_X4_stepsByRule (Nat.le_of_ble_eq_true rfl) ?_
  unfold f_X4_stepsByRule at h
  refine mj_go_aload_n (k := 0) (x := 48) rfl (mj_dt dt_X4_stepsByRule 0 rfl) ?_
  refine mj_go_aload_n (k := 0) (x := 48) rfl (mj_dt dt_X4_stepsByRule 1 rfl) ?_
  refine ml_getR (c := 4) (k := 2) (q := 45) fd_4_2 rf_48_2 (Or.inl fl_X4_55) ho_48 (mj_dt dt_X4_stepsByRule 2 rfl) ?_
  refine mj_go_aload_n (k := 1) (x := v1) rfl (mj_dt dt_X4_stepsByRule 3 rfl) ?_
  refine mj_go_aload_n (k := 0) (x := 48) rfl (mj_dt dt_X4_stepsByRule 4 rfl) ?_
  refine ml_getR (c := 4) (k := 3) (q := 49) fd_4_3 rf_48_3 (Or.inl fl_X4_9) ho_48 (mj_dt dt_X4_stepsByRule 5 rfl) ?_
  obtain ⟨r1, er1, h⟩ := mj_bind_some h
  refine ml_callV (Y' := mY_X3_arrange) (as := [.ref v1, .ref 49]) (rest := [.ref 48]) (c := 3) (v := (some (.int r1.1))) (M1 := (mj_fin r1.2)) ho_45 rfl lm_X4_101 wc_X3_arrange pl_X3_arrange ok_X3_arrange rfl rfl (Nat.le_of_ble_eq_true rfl) (k_X3_arrange (by omega) er1) (mj_dt dt_X4_stepsByRule 6 rfl) ?_
  obtain ⟨m2, em2, h⟩ := mj_mw_some h
  refine ml_putI (c := 4) (k := 9) fd_4_9 rfl fl_X4_31 ho_48 (mj_dt dt_X4_stepsByRule 7 rfl) ?_
  refine ml_eqm (M1 := (mj_fin m2)) (by rw [em2] <;> rfl) ?_
  refine mj_go_aload_n (k := 0) (x := 48) rfl (mj_dt dt_X4_stepsByRule 8 rfl) ?_
  obtain ⟨r3, er3, h⟩ := mj_bind_some h
  refine ml_callV (Y' := mY_X4_begin) (as := []) (rest := []) (c := 4) (v := none) (M1 := (mj_fin r3)) ho_48 rfl lm_X4_111 wc_X4_begin pl_X4_begin ok_X4_begin rfl rfl (Nat.le_of_ble_eq_true rfl) (k_X4_begin (by omega) er3) (mj_dt dt_X4_stepsByRule 9 rfl) ?_
  refine mj_go_iconst (v := 0) rfl (mj_dt dt_X4_stepsByRule 10 rfl) ?_
  refine mj_go_istore_n (k := 3) (by decide) (mj_dt dt_X4_stepsByRule 11 rfl) ?_
  refine mj_go_sub (lv' := [(0, .ref 48), (2, .int v2), (3, .int 0)]) (List.forall_mem_cons.mpr ⟨rfl, (List.forall_mem_cons.mpr ⟨rfl, (List.forall_mem_cons.mpr ⟨rfl, (fun _ h9 => absurd h9 List.not_mem_nil)⟩)⟩)⟩) ?_
  exact k_X4_stepsByRule_22 hδ N _ _ h
def f_X8_steps (N : Nat) (v1 : Int32) (v2 : Int32) (m : mj_m) : Option (Int32 × mj_m) := (f_X8_lacksPlan N v1 v2 m).bind (fun r1 => if r1 = 0 then (mj_ck (mj_b 3 35 v1) ( (f_X4_stepsByRule N (79 + 2 * v1.toNatClampNeg) v2 m).bind (fun r4 => (some (r4.1, r4.2))))) else ((f_X8_refuse N r1 m).bind (fun r3 => (some (r3.1, r3.2)))))
theorem k_X8_steps {L : Nat} {xs : Nat → Int32} {δ N : Nat} {v1 : Int32} {v2 : Int32} {m : mj_m} (hδ : 8 ≤ δ) {a : Int32 × mj_m} (h : f_X8_steps N v1 v2 m = some a) : mj_Cl (mj_EX L xs) δ mY_X8_steps [.ref 0, .int v1, .int v2] (mj_fin m) (some (.int a.1), (mj_fin a.2)) := by
  obtain ⟨δ, rfl⟩ : ∃ d, δ = d + 1 := ⟨δ - 1, by omega⟩
  have hδ : 7 ≤ δ := by omega
  refine mj_cl_of ok_X8_steps (Nat.le_of_ble_eq_true rfl) ?_
  unfold f_X8_steps at h
  refine mj_go_aload_n (k := 0) (x := 0) rfl (mj_dt dt_X8_steps 0 rfl) ?_
  refine mj_go_iload_n (k := 1) (x := v1) rfl (mj_dt dt_X8_steps 1 rfl) ?_
  refine mj_go_iload_n (k := 2) (x := v2) rfl (mj_dt dt_X8_steps 2 rfl) ?_
  obtain ⟨r1, er1, h⟩ := mj_bind_some h
  refine ml_callV (Y' := mY_X8_lacksPlan) (as := [.int v1, .int v2]) (rest := []) (c := 8) (v := (some (.int r1))) (M1 := (mj_fin m)) ho_0 rfl lm_X8_300 wc_X8_lacksPlan pl_X8_lacksPlan ok_X8_lacksPlan rfl rfl (Nat.le_of_ble_eq_true rfl) (k_X8_lacksPlan (by omega) er1) (mj_dt dt_X8_steps 3 rfl) ?_
  refine mj_go_istore_n (k := 3) (by decide) (mj_dt dt_X8_steps 4 rfl) ?_
  refine mj_go_iload_n (k := 3) (x := r1) rfl (mj_dt dt_X8_steps 5 rfl) ?_
  refine mj_go_if_eq (tgt := 19) rfl (mj_dt dt_X8_steps 6 rfl) (fun b2 => ?_) (fun b2 => ?_)
  · rw [if_pos b2] at h
    refine mj_go_aload_n (k := 0) (x := 0) rfl (mj_dt dt_X8_steps 11 rfl) ?_
    refine ml_getR (c := 8) (k := 5) (q := 48) fd_8_5 rf_0_5 (Or.inl fl_X8_48) ho_0 (mj_dt dt_X8_steps 12 rfl) ?_
    refine mj_go_aload_n (k := 0) (x := 0) rfl (mj_dt dt_X8_steps 13 rfl) ?_
    refine ml_getR (c := 8) (k := 2) (q := 35) fd_8_2 rf_0_2 (Or.inl fl_X8_21) ho_0 (mj_dt dt_X8_steps 14 rfl) ?_
    refine mj_go_iload_n (k := 1) (x := v1) rfl (mj_dt dt_X8_steps 15 rfl) ?_
    obtain ⟨c3, h⟩ := mj_ck_some h
    refine ml_aald3 (q := 79 + 2 * v1.toNatClampNeg) c3 (mj_hs35 c3).1 (mj_dt dt_X8_steps 16 rfl) ?_
    refine mj_go_iload_n (k := 2) (x := v2) rfl (mj_dt dt_X8_steps 17 rfl) ?_
    obtain ⟨r4, er4, h⟩ := mj_bind_some h
    refine ml_callV (Y' := mY_X4_stepsByRule) (as := [.ref (79 + 2 * v1.toNatClampNeg), .int v2]) (rest := []) (c := 4) (v := (some (.int r4.1))) (M1 := (mj_fin r4.2)) ho_48 rfl lm_X8_307 wc_X4_stepsByRule pl_X4_stepsByRule ok_X4_stepsByRule rfl rfl (Nat.le_of_ble_eq_true rfl) (k_X4_stepsByRule (by omega) er4) (mj_dt dt_X8_steps 18 rfl) ?_
    obtain rfl := Option.some.inj h
    exact mj_go_ret (v := some (.int r4.1)) (Nat.le_of_ble_eq_true rfl) (mj_retI (mj_dt dt_X8_steps 19 rfl) rfl)
  · rw [if_neg b2] at h
    refine mj_go_aload_n (k := 0) (x := 0) rfl (mj_dt dt_X8_steps 7 rfl) ?_
    refine mj_go_iload_n (k := 3) (x := r1) rfl (mj_dt dt_X8_steps 8 rfl) ?_
    obtain ⟨r3, er3, h⟩ := mj_bind_some h
    refine ml_callV (Y' := mY_X8_refuse) (as := [.int r1]) (rest := []) (c := 8) (v := (some (.int r3.1))) (M1 := (mj_fin r3.2)) ho_0 rfl lm_X8_86 wc_X8_refuse pl_X8_refuse ok_X8_refuse rfl rfl (Nat.le_of_ble_eq_true rfl) (k_X8_refuse (by omega) er3) (mj_dt dt_X8_steps 9 rfl) ?_
    refine mj_go_goto (tgt := 33) rfl (mj_dt dt_X8_steps 10 rfl) ?_
    obtain rfl := Option.some.inj h
    exact mj_go_ret (v := some (.int r3.1)) (Nat.le_of_ble_eq_true rfl) (mj_retI (mj_dt dt_X8_steps 19 rfl) rfl)
def f_X9_steps (N : Nat) (v1 : Int32) (v2 : Int32) (m : mj_m) : Option (Int32 × mj_m) := (f_X9_wants N v1 2 m).bind (fun r1 => if r1 = 0 then ((f_X9_isYears N v2 m).bind (fun r3 => if r3 = 0 then ((f_X9_no N (-6 : Int32) m).bind (fun r5 => some (r5.1, r5.2))) else ((f_X9_rowBy N v1 m).bind (fun r5 => (f_X9_planned N v2 r5).bind (fun r6 => some (r6.2.1 95 48, r6.2)))))) else ((f_X9_no N r1 m).bind (fun r3 => some (r3.1, r3.2))))
theorem k_X9_steps {L : Nat} {xs : Nat → Int32} {δ N : Nat} {v1 : Int32} {v2 : Int32} {m : mj_m} (hδ : 7 ≤ δ) {a : Int32 × mj_m} (h : f_X9_steps N v1 v2 m = some a) : mj_Cl (mj_EX L xs) δ mY_X9_steps [.ref 95, .int v1, .int v2] (mj_fin m) (some (.int a.1), (mj_fin a.2)) := by
  obtain ⟨δ, rfl⟩ : ∃ d, δ = d + 1 := ⟨δ - 1, by omega⟩
  have hδ : 6 ≤ δ := by omega
  refine mj_cl_of ok_X9_steps (Nat.le_of_ble_eq_true rfl) ?_
  unfold f_X9_steps at h
  refine mj_go_aload_n (k := 0) (x := 95) rfl (mj_dt dt_X9_steps 0 rfl) ?_
  refine mj_go_iload_n (k := 1) (x := v1) rfl (mj_dt dt_X9_steps 1 rfl) ?_
  refine mj_go_iconst (v := 2) rfl (mj_dt dt_X9_steps 2 rfl) ?_
  obtain ⟨r1, er1, h⟩ := mj_bind_some h
  refine ml_callV (Y' := mY_X9_wants) (as := [.int v1, .int 2]) (rest := []) (c := 9) (v := (some (.int r1))) (M1 := (mj_fin m)) ho_95 rfl lm_X9_138 wc_X9_wants pl_X9_wants ok_X9_wants rfl rfl (Nat.le_of_ble_eq_true rfl) (k_X9_wants (by omega) er1) (mj_dt dt_X9_steps 3 rfl) ?_
  refine mj_go_istore_n (k := 3) (by decide) (mj_dt dt_X9_steps 4 rfl) ?_
  refine mj_go_iload_n (k := 3) (x := r1) rfl (mj_dt dt_X9_steps 5 rfl) ?_
  refine mj_go_if_eq (tgt := 17) rfl (mj_dt dt_X9_steps 6 rfl) (fun b2 => ?_) (fun b2 => ?_)
  · rw [if_pos b2] at h
    refine mj_go_aload_n (k := 0) (x := 95) rfl (mj_dt dt_X9_steps 11 rfl) ?_
    refine mj_go_iload_n (k := 2) (x := v2) rfl (mj_dt dt_X9_steps 12 rfl) ?_
    obtain ⟨r3, er3, h⟩ := mj_bind_some h
    refine ml_callV (Y' := mY_X9_isYears) (as := [.int v2]) (rest := []) (c := 9) (v := (some (.int r3))) (M1 := (mj_fin m)) ho_95 rfl lm_X9_296 wc_X9_isYears pl_X9_isYears ok_X9_isYears rfl rfl (Nat.le_of_ble_eq_true rfl) (k_X9_isYears (by omega) er3) (mj_dt dt_X9_steps 13 rfl) ?_
    refine mj_go_if_ne (tgt := 32) rfl (mj_dt dt_X9_steps 14 rfl) (fun b4 => ?_) (fun b4 => ?_)
    · rw [if_neg b4] at h
      refine mj_go_aload_n (k := 0) (x := 95) rfl (mj_dt dt_X9_steps 19 rfl) ?_
      refine mj_go_iload_n (k := 1) (x := v1) rfl (mj_dt dt_X9_steps 20 rfl) ?_
      obtain ⟨r5, er5, h⟩ := mj_bind_some h
      refine ml_callV (Y' := mY_X9_rowBy) (as := [.int v1]) (rest := []) (c := 9) (v := none) (M1 := (mj_fin r5)) ho_95 rfl lm_X9_299 wc_X9_rowBy pl_X9_rowBy ok_X9_rowBy rfl rfl (Nat.le_of_ble_eq_true rfl) (k_X9_rowBy (by omega) er5) (mj_dt dt_X9_steps 21 rfl) ?_
      refine mj_go_aload_n (k := 0) (x := 95) rfl (mj_dt dt_X9_steps 22 rfl) ?_
      refine mj_go_iload_n (k := 2) (x := v2) rfl (mj_dt dt_X9_steps 23 rfl) ?_
      obtain ⟨r6, er6, h⟩ := mj_bind_some h
      refine ml_callV (Y' := mY_X9_planned) (as := [.int v2]) (rest := []) (c := 9) (v := (some (.long r6.1))) (M1 := (mj_fin r6.2)) ho_95 rfl lm_X9_302 wc_X9_planned pl_X9_planned ok_X9_planned rfl rfl (Nat.le_of_ble_eq_true rfl) (k_X9_planned (by omega) er6) (mj_dt dt_X9_steps 24 rfl) ?_
      refine mj_go_pop2_2 rfl (mj_dt dt_X9_steps 25 rfl) ?_
      refine mj_go_aload_n (k := 0) (x := 95) rfl (mj_dt dt_X9_steps 26 rfl) ?_
      refine mk_getI (c := 9) (k := 48) (Or.inl fd_9_48) (Or.inl fl_X9_290) ho_95 (mj_dt dt_X9_steps 27 rfl) ?_
      obtain rfl := Option.some.inj h
      exact mj_go_ret (v := some (.int (r6.2.1 95 48))) (Nat.le_of_ble_eq_true rfl) (mj_retI (mj_dt dt_X9_steps 28 rfl) rfl)
    · rw [if_pos b4] at h
      refine mj_go_aload_n (k := 0) (x := 95) rfl (mj_dt dt_X9_steps 15 rfl) ?_
      refine mj_go_bipush (v := -6) rfl (mj_dt dt_X9_steps 16 rfl) ?_
      obtain ⟨r5, er5, h⟩ := mj_bind_some h
      refine ml_callV (Y' := mY_X9_no) (as := [.int (-6 : Int32)]) (rest := []) (c := 9) (v := (some (.int r5.1))) (M1 := (mj_fin r5.2)) ho_95 rfl lm_X9_134 wc_X9_no pl_X9_no ok_X9_no rfl rfl (Nat.le_of_ble_eq_true rfl) (k_X9_no (by omega) er5) (mj_dt dt_X9_steps 17 rfl) ?_
      obtain rfl := Option.some.inj h
      exact mj_go_ret (v := some (.int r5.1)) (Nat.le_of_ble_eq_true rfl) (mj_retI (mj_dt dt_X9_steps 18 rfl) rfl)
  · rw [if_neg b2] at h
    refine mj_go_aload_n (k := 0) (x := 95) rfl (mj_dt dt_X9_steps 7 rfl) ?_
    refine mj_go_iload_n (k := 3) (x := r1) rfl (mj_dt dt_X9_steps 8 rfl) ?_
    obtain ⟨r3, er3, h⟩ := mj_bind_some h
    refine ml_callV (Y' := mY_X9_no) (as := [.int r1]) (rest := []) (c := 9) (v := (some (.int r3.1))) (M1 := (mj_fin r3.2)) ho_95 rfl lm_X9_134 wc_X9_no pl_X9_no ok_X9_no rfl rfl (Nat.le_of_ble_eq_true rfl) (k_X9_no (by omega) er3) (mj_dt dt_X9_steps 9 rfl) ?_
    obtain rfl := Option.some.inj h
    exact mj_go_ret (v := some (.int r3.1)) (Nat.le_of_ble_eq_true rfl) (mj_retI (mj_dt dt_X9_steps 10 rfl) rfl)
def f_X4_take_9 (N : Nat) (v1 : Nat) (k_9 : Int32 × Int32 × mj_m → Option (Int32 × mj_m)) (s : Int32 × Int32 × mj_m) : Option (Int32 × mj_m) := mj_ck (mj_o 6 v1) ( if (s.2.2.1 v1 2) ≤ s.2.1 then (some (1, s.2.2)) else ((f_X6_asInt N v1 s.2.1 s.2.2).bind (fun r3 => (f_X7_isHouse N r3 s.2.2).bind (fun r4 => if r4 = 0 then (some (0, s.2.2)) else (if ((s.1 >>> (r3 &&& 31)) &&& 1) = 0 then (mj_mw (s.1 ||| (1 <<< (r3 &&& 31))) (fun x7 => mj_ck (mj_b 0 49 (s.2.2.1 48 9)) ( mj_mw (mj_wI s.2.2 49 ((s.2.2.1 48 9).toNatClampNeg) r3) (fun m9 => mj_mw (mj_wI m9 48 9 ((m9.1 48 9) + 1)) (fun m10 => mj_mw (s.2.1 + 1) (fun x11 => k_9 (x7, x11, m10))))))) else (some (0, s.2.2)))))))
theorem k_X4_take_9 {L : Nat} {xs : Nat → Int32} {δ N : Nat} {v1 : Nat} (hδ : 1 ≤ δ) : ∀ (n : Nat) (s : Int32 × Int32 × mj_m) (a : Int32 × mj_m), mj_lp n (f_X4_take_9 N v1) s = some a → mj_Go (mj_EX L xs) (δ + 1) mY_X4_take 9 [(0, .ref 48), (1, .ref v1), (2, .int s.1), (3, .int s.2.1)] [] (mj_fin s.2.2) (some (.int a.1), (mj_fin a.2)) := by
  refine mj_lp_sound (fun k_9 s a q_9 h => ?_)
  unfold f_X4_take_9 at h
  refine mj_go_iload_n (k := 3) (x := s.2.1) rfl (mj_dt dt_X4_take 7 rfl) ?_
  refine mj_go_aload_n (k := 1) (x := v1) rfl (mj_dt dt_X4_take 8 rfl) ?_
  obtain ⟨c1, h⟩ := mj_ck_some h
  refine mk_getI (c := 6) (k := 2) (Or.inl fd_6_2) (Or.inl fl_X4_117) c1 (mj_dt dt_X4_take 9 rfl) ?_
  refine mj_go_icmp_ge (tgt := 81) rfl (mj_dt dt_X4_take 10 rfl) (fun b2 => ?_) (fun b2 => ?_)
  · rw [if_pos b2] at h
    refine mj_go_iconst (v := 1) rfl (mj_dt dt_X4_take 48 rfl) ?_
    obtain rfl := Option.some.inj h
    exact mj_go_ret (v := some (.int 1)) (Nat.le_of_ble_eq_true rfl) (mj_retZ (mj_dt dt_X4_take 49 rfl) rfl rfl)
  · rw [if_neg b2] at h
    refine mj_go_aload_n (k := 1) (x := v1) rfl (mj_dt dt_X4_take 11 rfl) ?_
    refine mj_go_iload_n (k := 3) (x := s.2.1) rfl (mj_dt dt_X4_take 12 rfl) ?_
    obtain ⟨r3, er3, h⟩ := mj_bind_some h
    refine ml_callV (Y' := mY_X6_asInt) (as := [.int s.2.1]) (rest := []) (c := 6) (v := (some (.int r3))) (M1 := (mj_fin s.2.2)) c1 rfl lm_X4_122 wc_X6_asInt pl_X6_asInt ok_X6_asInt rfl rfl (Nat.le_of_ble_eq_true rfl) (k_X6_asInt (by omega) er3) (mj_dt dt_X4_take 13 rfl) ?_
    refine mj_go_istore (i := 4) (by decide) (mj_dt dt_X4_take 14 rfl) ?_
    refine mj_go_aload_n (k := 0) (x := 48) rfl (mj_dt dt_X4_take 15 rfl) ?_
    refine ml_getR (c := 4) (k := 0) (q := 1) fd_4_0 rf_48_0 (Or.inl fl_X4_47) ho_48 (mj_dt dt_X4_take 16 rfl) ?_
    refine mj_go_iload (i := 4) (x := r3) rfl (mj_dt dt_X4_take 17 rfl) ?_
    obtain ⟨r4, er4, h⟩ := mj_bind_some h
    refine ml_callV (Y' := mY_X7_isHouse) (as := [.int r3]) (rest := []) (c := 7) (v := (some (.int r4))) (M1 := (mj_fin s.2.2)) ho_1 rfl lm_X4_126 wc_X7_isHouse pl_X7_isHouse ok_X7_isHouse rfl rfl (Nat.le_of_ble_eq_true rfl) (k_X7_isHouse (by omega) er4) (mj_dt dt_X4_take 18 rfl) ?_
    refine mj_go_if_eq (tgt := 45) rfl (mj_dt dt_X4_take 19 rfl) (fun b5 => ?_) (fun b5 => ?_)
    · rw [if_pos b5] at h
      refine mj_go_iconst (v := 0) rfl (mj_dt dt_X4_take 26 rfl) ?_
      obtain rfl := Option.some.inj h
      exact mj_go_ret (v := some (.int 0)) (Nat.le_of_ble_eq_true rfl) (mj_retZ (mj_dt dt_X4_take 27 rfl) rfl rfl)
    · rw [if_neg b5] at h
      refine mj_go_iload_n (k := 2) (x := s.1) rfl (mj_dt dt_X4_take 20 rfl) ?_
      refine mj_go_iload (i := 4) (x := r3) rfl (mj_dt dt_X4_take 21 rfl) ?_
      refine mj_go_ishr (mj_dt dt_X4_take 22 rfl) ?_
      refine mj_go_iconst (v := 1) rfl (mj_dt dt_X4_take 23 rfl) ?_
      refine mj_go_iand (mj_dt dt_X4_take 24 rfl) ?_
      refine mj_go_if_eq (tgt := 47) rfl (mj_dt dt_X4_take 25 rfl) (fun b6 => ?_) (fun b6 => ?_)
      · rw [if_pos b6] at h
        refine mj_go_iload_n (k := 2) (x := s.1) rfl (mj_dt dt_X4_take 28 rfl) ?_
        refine mj_go_iconst (v := 1) rfl (mj_dt dt_X4_take 29 rfl) ?_
        refine mj_go_iload (i := 4) (x := r3) rfl (mj_dt dt_X4_take 30 rfl) ?_
        refine mj_go_ishl (mj_dt dt_X4_take 31 rfl) ?_
        refine mj_go_ior (mj_dt dt_X4_take 32 rfl) ?_
        obtain ⟨x7, ex7, h⟩ := mj_mw_some h
        refine ml_eqi ex7 ?_
        refine mj_go_istore_n (k := 2) (by decide) (mj_dt dt_X4_take 33 rfl) ?_
        refine mj_go_aload_n (k := 0) (x := 48) rfl (mj_dt dt_X4_take 34 rfl) ?_
        refine ml_getR (c := 4) (k := 3) (q := 49) fd_4_3 rf_48_3 (Or.inl fl_X4_9) ho_48 (mj_dt dt_X4_take 35 rfl) ?_
        refine mj_go_aload_n (k := 0) (x := 48) rfl (mj_dt dt_X4_take 36 rfl) ?_
        refine mk_getI (c := 4) (k := 9) (Or.inl fd_4_9) (Or.inl fl_X4_31) ho_48 (mj_dt dt_X4_take 37 rfl) ?_
        refine mj_go_iload (i := 4) (x := r3) rfl (mj_dt dt_X4_take 38 rfl) ?_
        obtain ⟨c8, h⟩ := mj_ck_some h
        obtain ⟨m9, em9, h⟩ := mj_mw_some h
        refine ml_iast c8 (mj_dt dt_X4_take 39 rfl) ?_
        refine ml_eqm (M1 := (mj_fin m9)) (by rw [em9] <;> rfl) ?_
        refine mj_go_aload_n (k := 0) (x := 48) rfl (mj_dt dt_X4_take 40 rfl) ?_
        refine mj_go_dup rfl (mj_dt dt_X4_take 41 rfl) ?_
        refine mk_getI (c := 4) (k := 9) (Or.inl fd_4_9) (Or.inl fl_X4_31) ho_48 (mj_dt dt_X4_take 42 rfl) ?_
        refine mj_go_iconst (v := 1) rfl (mj_dt dt_X4_take 43 rfl) ?_
        refine mj_go_iadd (mj_dt dt_X4_take 44 rfl) ?_
        obtain ⟨m10, em10, h⟩ := mj_mw_some h
        refine ml_putI (c := 4) (k := 9) fd_4_9 rfl fl_X4_31 ho_48 (mj_dt dt_X4_take 45 rfl) ?_
        refine ml_eqm (M1 := (mj_fin m10)) (by rw [em10] <;> rfl) ?_
        obtain ⟨x11, ex11, h⟩ := mj_mw_some h
        refine mj_go_iinc (i := 3) (x := s.2.1) (v := x11) rfl (by rw [ex11] <;> rfl) (by decide) (mj_dt dt_X4_take 46 rfl) ?_
        refine mj_go_goto (tgt := 9) rfl (mj_dt dt_X4_take 47 rfl) ?_
        refine mj_go_sub (lv' := [(0, .ref 48), (1, .ref v1), (2, .int x7), (3, .int x11)]) (List.forall_mem_cons.mpr ⟨rfl, (List.forall_mem_cons.mpr ⟨rfl, (List.forall_mem_cons.mpr ⟨rfl, (List.forall_mem_cons.mpr ⟨rfl, (fun _ h9 => absurd h9 List.not_mem_nil)⟩)⟩)⟩)⟩) ?_
        exact q_9 _ _ h
      · rw [if_neg b6] at h
        refine mj_go_iconst (v := 0) rfl (mj_dt dt_X4_take 26 rfl) ?_
        obtain rfl := Option.some.inj h
        exact mj_go_ret (v := some (.int 0)) (Nat.le_of_ble_eq_true rfl) (mj_retZ (mj_dt dt_X4_take 27 rfl) rfl rfl)
def f_X4_take (N : Nat) (v1 : Nat) (m : mj_m) : Option (Int32 × mj_m) := mj_mw (mj_wI m 48 9 0) (fun m1 => mj_lp N (f_X4_take_9 N v1) (0, 0, m1))
theorem k_X4_take {L : Nat} {xs : Nat → Int32} {δ N : Nat} {v1 : Nat} {m : mj_m} (hδ : 2 ≤ δ) {a : Int32 × mj_m} (h : f_X4_take N v1 m = some a) : mj_Cl (mj_EX L xs) δ mY_X4_take [.ref 48, .ref v1] (mj_fin m) (some (.int a.1), (mj_fin a.2)) := by
  obtain ⟨δ, rfl⟩ : ∃ d, δ = d + 1 := ⟨δ - 1, by omega⟩
  have hδ : 1 ≤ δ := by omega
  refine mj_cl_of ok_X4_take (Nat.le_of_ble_eq_true rfl) ?_
  unfold f_X4_take at h
  refine mj_go_iconst (v := 0) rfl (mj_dt dt_X4_take 0 rfl) ?_
  refine mj_go_istore_n (k := 2) (by decide) (mj_dt dt_X4_take 1 rfl) ?_
  refine mj_go_aload_n (k := 0) (x := 48) rfl (mj_dt dt_X4_take 2 rfl) ?_
  refine mj_go_iconst (v := 0) rfl (mj_dt dt_X4_take 3 rfl) ?_
  obtain ⟨m1, em1, h⟩ := mj_mw_some h
  refine ml_putI (c := 4) (k := 9) fd_4_9 rfl fl_X4_31 ho_48 (mj_dt dt_X4_take 4 rfl) ?_
  refine ml_eqm (M1 := (mj_fin m1)) (by rw [em1] <;> rfl) ?_
  refine mj_go_iconst (v := 0) rfl (mj_dt dt_X4_take 5 rfl) ?_
  refine mj_go_istore_n (k := 3) (by decide) (mj_dt dt_X4_take 6 rfl) ?_
  refine mj_go_sub (lv' := [(0, .ref 48), (1, .ref v1), (2, .int 0), (3, .int 0)]) (List.forall_mem_cons.mpr ⟨rfl, (List.forall_mem_cons.mpr ⟨rfl, (List.forall_mem_cons.mpr ⟨rfl, (List.forall_mem_cons.mpr ⟨rfl, (fun _ h9 => absurd h9 List.not_mem_nil)⟩)⟩)⟩)⟩) ?_
  exact k_X4_take_9 hδ N _ _ h
def f_X8_judge_40 (N : Nat) (m : mj_m) : Option (Int64 × mj_m) := (f_X8_refuse N 6 m).bind (fun r1 => some (r1.1.toInt64, r1.2))
theorem k_X8_judge_40 {L : Nat} {xs : Nat → Int32} {δ N : Nat} {m : mj_m} (hδ : 4 ≤ δ) {a : Int64 × mj_m} (h : f_X8_judge_40 N m = some a) : mj_Go (mj_EX L xs) (δ + 1) mY_X8_judge 40 [(0, .ref 0)] [] (mj_fin m) (some (.long a.1), (mj_fin a.2)) := by
  unfold f_X8_judge_40 at h
  refine mj_go_aload_n (k := 0) (x := 0) rfl (mj_dt dt_X8_judge 22 rfl) ?_
  refine mj_go_bipush (v := 6) rfl (mj_dt dt_X8_judge 23 rfl) ?_
  obtain ⟨r1, er1, h⟩ := mj_bind_some h
  refine ml_callV (Y' := mY_X8_refuse) (as := [.int 6]) (rest := []) (c := 8) (v := (some (.int r1.1))) (M1 := (mj_fin r1.2)) ho_0 rfl lm_X8_86 wc_X8_refuse pl_X8_refuse ok_X8_refuse rfl rfl (Nat.le_of_ble_eq_true rfl) (k_X8_refuse (by omega) er1) (mj_dt dt_X8_judge 24 rfl) ?_
  refine mj_go_i2l (mj_dt dt_X8_judge 25 rfl) ?_
  obtain rfl := Option.some.inj h
  exact mj_go_ret (v := some (.long (r1.1.toInt64))) (Nat.le_of_ble_eq_true rfl) (mj_retL (mj_dt dt_X8_judge 26 rfl) rfl)
def f_X8_judge (N : Nat) (v1 : Int32) (v2 : Int32) (m : mj_m) : Option (Int64 × mj_m) := (f_X8_lacksRow N v1 m).bind (fun r1 => if r1 = 0 then ((f_X8_areYears N v2 m).bind (fun r3 => if r3 = 0 then f_X8_judge_40 N m else (mj_ck (mj_b 3 35 v1) ( (f_X4_take N (79 + 2 * v1.toNatClampNeg) m).bind (fun r6 => if r6.1 = 0 then f_X8_judge_40 N r6.2 else ((f_X4_lossOfRow N v2 r6.2).bind (fun r8 => some (r8.1, r8.2)))))))) else ((f_X8_refuse N r1 m).bind (fun r3 => some (r3.1.toInt64, r3.2))))
theorem k_X8_judge {L : Nat} {xs : Nat → Int32} {δ N : Nat} {v1 : Int32} {v2 : Int32} {m : mj_m} (hδ : 5 ≤ δ) {a : Int64 × mj_m} (h : f_X8_judge N v1 v2 m = some a) : mj_Cl (mj_EX L xs) δ mY_X8_judge [.ref 0, .int v1, .int v2] (mj_fin m) (some (.long a.1), (mj_fin a.2)) := by
  obtain ⟨δ, rfl⟩ : ∃ d, δ = d + 1 := ⟨δ - 1, by omega⟩
  have hδ : 4 ≤ δ := by omega
  refine mj_cl_of ok_X8_judge (Nat.le_of_ble_eq_true rfl) ?_
  unfold f_X8_judge at h
  refine mj_go_aload_n (k := 0) (x := 0) rfl (mj_dt dt_X8_judge 0 rfl) ?_
  refine mj_go_iload_n (k := 1) (x := v1) rfl (mj_dt dt_X8_judge 1 rfl) ?_
  obtain ⟨r1, er1, h⟩ := mj_bind_some h
  refine ml_callV (Y' := mY_X8_lacksRow) (as := [.int v1]) (rest := []) (c := 8) (v := (some (.int r1))) (M1 := (mj_fin m)) ho_0 rfl lm_X8_94 wc_X8_lacksRow pl_X8_lacksRow ok_X8_lacksRow rfl rfl (Nat.le_of_ble_eq_true rfl) (k_X8_lacksRow (by omega) er1) (mj_dt dt_X8_judge 2 rfl) ?_
  refine mj_go_istore_n (k := 3) (by decide) (mj_dt dt_X8_judge 3 rfl) ?_
  refine mj_go_iload_n (k := 3) (x := r1) rfl (mj_dt dt_X8_judge 4 rfl) ?_
  refine mj_go_if_eq (tgt := 17) rfl (mj_dt dt_X8_judge 5 rfl) (fun b2 => ?_) (fun b2 => ?_)
  · rw [if_pos b2] at h
    refine mj_go_iload_n (k := 2) (x := v2) rfl (mj_dt dt_X8_judge 11 rfl) ?_
    obtain ⟨r3, er3, h⟩ := mj_bind_some h
    refine ml_callS (Y' := mY_X8_areYears) (as := [.int v2]) (rest := []) (v := (some (.int r3))) (M1 := (mj_fin m)) lm_X8_311 wc_X8_areYears pl_X8_areYears ok_X8_areYears rfl rfl (Nat.le_of_ble_eq_true rfl) (k_X8_areYears (by omega) er3) (mj_dt dt_X8_judge 12 rfl) ?_
    refine mj_go_if_eq (tgt := 40) rfl (mj_dt dt_X8_judge 13 rfl) (fun b4 => ?_) (fun b4 => ?_)
    · rw [if_pos b4] at h
      refine mj_go_sub (lv' := [(0, .ref 0)]) (List.forall_mem_cons.mpr ⟨rfl, (fun _ h9 => absurd h9 List.not_mem_nil)⟩) ?_
      exact k_X8_judge_40 hδ h
    · rw [if_neg b4] at h
      refine mj_go_aload_n (k := 0) (x := 0) rfl (mj_dt dt_X8_judge 14 rfl) ?_
      refine ml_getR (c := 8) (k := 5) (q := 48) fd_8_5 rf_0_5 (Or.inl fl_X8_48) ho_0 (mj_dt dt_X8_judge 15 rfl) ?_
      refine mj_go_aload_n (k := 0) (x := 0) rfl (mj_dt dt_X8_judge 16 rfl) ?_
      refine ml_getR (c := 8) (k := 2) (q := 35) fd_8_2 rf_0_2 (Or.inl fl_X8_21) ho_0 (mj_dt dt_X8_judge 17 rfl) ?_
      refine mj_go_iload_n (k := 1) (x := v1) rfl (mj_dt dt_X8_judge 18 rfl) ?_
      obtain ⟨c5, h⟩ := mj_ck_some h
      refine ml_aald3 (q := 79 + 2 * v1.toNatClampNeg) c5 (mj_hs35 c5).1 (mj_dt dt_X8_judge 19 rfl) ?_
      obtain ⟨r6, er6, h⟩ := mj_bind_some h
      refine ml_callV (Y' := mY_X4_take) (as := [.ref (79 + 2 * v1.toNatClampNeg)]) (rest := []) (c := 4) (v := (some (.int r6.1))) (M1 := (mj_fin r6.2)) ho_48 rfl lm_X8_314 wc_X4_take pl_X4_take ok_X4_take rfl rfl (Nat.le_of_ble_eq_true rfl) (k_X4_take (by omega) er6) (mj_dt dt_X8_judge 20 rfl) ?_
      refine mj_go_if_ne (tgt := 48) rfl (mj_dt dt_X8_judge 21 rfl) (fun b7 => ?_) (fun b7 => ?_)
      · rw [if_neg b7] at h
        refine mj_go_aload_n (k := 0) (x := 0) rfl (mj_dt dt_X8_judge 27 rfl) ?_
        refine ml_getR (c := 8) (k := 5) (q := 48) fd_8_5 rf_0_5 (Or.inl fl_X8_48) ho_0 (mj_dt dt_X8_judge 28 rfl) ?_
        refine mj_go_iload_n (k := 2) (x := v2) rfl (mj_dt dt_X8_judge 29 rfl) ?_
        obtain ⟨r8, er8, h⟩ := mj_bind_some h
        refine ml_callV (Y' := mY_X4_lossOfRow) (as := [.int v2]) (rest := []) (c := 4) (v := (some (.long r8.1))) (M1 := (mj_fin r8.2)) ho_48 rfl lm_X8_318 wc_X4_lossOfRow pl_X4_lossOfRow ok_X4_lossOfRow rfl rfl (Nat.le_of_ble_eq_true rfl) (k_X4_lossOfRow (by omega) er8) (mj_dt dt_X8_judge 30 rfl) ?_
        obtain rfl := Option.some.inj h
        exact mj_go_ret (v := some (.long r8.1)) (Nat.le_of_ble_eq_true rfl) (mj_retL (mj_dt dt_X8_judge 31 rfl) rfl)
      · rw [if_pos b7] at h
        refine mj_go_sub (lv' := [(0, .ref 0)]) (List.forall_mem_cons.mpr ⟨rfl, (fun _ h9 => absurd h9 List.not_mem_nil)⟩) ?_
        exact k_X8_judge_40 hδ h
  · rw [if_neg b2] at h
    refine mj_go_aload_n (k := 0) (x := 0) rfl (mj_dt dt_X8_judge 6 rfl) ?_
    refine mj_go_iload_n (k := 3) (x := r1) rfl (mj_dt dt_X8_judge 7 rfl) ?_
    obtain ⟨r3, er3, h⟩ := mj_bind_some h
    refine ml_callV (Y' := mY_X8_refuse) (as := [.int r1]) (rest := []) (c := 8) (v := (some (.int r3.1))) (M1 := (mj_fin r3.2)) ho_0 rfl lm_X8_86 wc_X8_refuse pl_X8_refuse ok_X8_refuse rfl rfl (Nat.le_of_ble_eq_true rfl) (k_X8_refuse (by omega) er3) (mj_dt dt_X8_judge 8 rfl) ?_
    refine mj_go_i2l (mj_dt dt_X8_judge 9 rfl) ?_
    obtain rfl := Option.some.inj h
    exact mj_go_ret (v := some (.long (r3.1.toInt64))) (Nat.le_of_ble_eq_true rfl) (mj_retL (mj_dt dt_X8_judge 10 rfl) rfl)
def f_X9_judge_80 (N : Nat) (m : mj_m) : Option (Int64 × mj_m) := (f_X9_no N (-6 : Int32) m).bind (fun r1 => some (r1.1.toInt64, r1.2))
theorem k_X9_judge_80 {L : Nat} {xs : Nat → Int32} {δ N : Nat} {m : mj_m} (hδ : 4 ≤ δ) {a : Int64 × mj_m} (h : f_X9_judge_80 N m = some a) : mj_Go (mj_EX L xs) (δ + 1) mY_X9_judge 80 [(0, .ref 95)] [] (mj_fin m) (some (.long a.1), (mj_fin a.2)) := by
  unfold f_X9_judge_80 at h
  refine mj_go_aload_n (k := 0) (x := 95) rfl (mj_dt dt_X9_judge 47 rfl) ?_
  refine mj_go_bipush (v := -6) rfl (mj_dt dt_X9_judge 48 rfl) ?_
  obtain ⟨r1, er1, h⟩ := mj_bind_some h
  refine ml_callV (Y' := mY_X9_no) (as := [.int (-6 : Int32)]) (rest := []) (c := 9) (v := (some (.int r1.1))) (M1 := (mj_fin r1.2)) ho_95 rfl lm_X9_134 wc_X9_no pl_X9_no ok_X9_no rfl rfl (Nat.le_of_ble_eq_true rfl) (k_X9_no (by omega) er1) (mj_dt dt_X9_judge 49 rfl) ?_
  refine mj_go_i2l (mj_dt dt_X9_judge 50 rfl) ?_
  obtain rfl := Option.some.inj h
  exact mj_go_ret (v := some (.long (r1.1.toInt64))) (Nat.le_of_ble_eq_true rfl) (mj_retL (mj_dt dt_X9_judge 51 rfl) rfl)
def f_X9_judge_40 (N : Nat) (v1 : Int32) (v2 : Int32) (k_40 : Int32 × Int32 × mj_m → Option (Int64 × mj_m)) (s : Int32 × Int32 × mj_m) : Option (Int64 × mj_m) := mj_ck (mj_b 0 112 v1) ( if (s.2.2.1 112 v1.toNatClampNeg) ≤ s.2.1 then (mj_mw (mj_wI s.2.2 95 46 (s.2.2.1 112 v1.toNatClampNeg)) (fun m3 => (f_X9_planned N v2 m3).bind (fun r4 => some (r4.1, r4.2)))) else ((f_X9_intAt N v1 s.2.1 s.2.2).bind (fun r3 => (f_X9_isHouse N r3 s.2.2).bind (fun r4 => if r4 = 0 then f_X9_judge_80 N s.2.2 else (if ((s.1 >>> (r3 &&& 31)) &&& 1) = 1 then f_X9_judge_80 N s.2.2 else (mj_mw (s.1 ||| (1 <<< (r3 &&& 31))) (fun x7 => mj_ck (mj_b 0 124 s.2.1) ( mj_mw (mj_wI s.2.2 124 (s.2.1.toNatClampNeg) r3) (fun m9 => mj_mw (s.2.1 + 1) (fun x10 => k_40 (x7, x10, m9)))))))))))
theorem k_X9_judge_40 {L : Nat} {xs : Nat → Int32} {δ N : Nat} {v1 : Int32} {v2 : Int32} (hδ : 4 ≤ δ) : ∀ (n : Nat) (s : Int32 × Int32 × mj_m) (a : Int64 × mj_m), mj_lp n (f_X9_judge_40 N v1 v2) s = some a → mj_Go (mj_EX L xs) (δ + 1) mY_X9_judge 40 [(0, .ref 95), (1, .int v1), (2, .int v2), (4, .int s.1), (5, .int s.2.1)] [] (mj_fin s.2.2) (some (.long a.1), (mj_fin a.2)) := by
  refine mj_lp_sound (fun k_40 s a q_40 h => ?_)
  unfold f_X9_judge_40 at h
  refine mj_go_iload (i := 5) (x := s.2.1) rfl (mj_dt dt_X9_judge 25 rfl) ?_
  refine mj_go_aload_n (k := 0) (x := 95) rfl (mj_dt dt_X9_judge 26 rfl) ?_
  refine ml_getR (c := 9) (k := 27) (q := 112) fd_9_27 rf_95_27 (Or.inl fl_X9_74) ho_95 (mj_dt dt_X9_judge 27 rfl) ?_
  refine mj_go_iload_n (k := 1) (x := v1) rfl (mj_dt dt_X9_judge 28 rfl) ?_
  obtain ⟨c1, h⟩ := mj_ck_some h
  refine mk_iald c1 (mj_dt dt_X9_judge 29 rfl) ?_
  refine mj_go_icmp_ge (tgt := 112) rfl (mj_dt dt_X9_judge 30 rfl) (fun b2 => ?_) (fun b2 => ?_)
  · rw [if_pos b2] at h
    refine mj_go_aload_n (k := 0) (x := 95) rfl (mj_dt dt_X9_judge 65 rfl) ?_
    refine mj_go_aload_n (k := 0) (x := 95) rfl (mj_dt dt_X9_judge 66 rfl) ?_
    refine ml_getR (c := 9) (k := 27) (q := 112) fd_9_27 rf_95_27 (Or.inl fl_X9_74) ho_95 (mj_dt dt_X9_judge 67 rfl) ?_
    refine mj_go_iload_n (k := 1) (x := v1) rfl (mj_dt dt_X9_judge 68 rfl) ?_
    refine mk_iald c1 (mj_dt dt_X9_judge 69 rfl) ?_
    obtain ⟨m3, em3, h⟩ := mj_mw_some h
    refine ml_putI (c := 9) (k := 46) fd_9_46 rfl fl_X9_287 ho_95 (mj_dt dt_X9_judge 70 rfl) ?_
    refine ml_eqm (M1 := (mj_fin m3)) (by rw [em3] <;> rfl) ?_
    refine mj_go_aload_n (k := 0) (x := 95) rfl (mj_dt dt_X9_judge 71 rfl) ?_
    refine mj_go_iload_n (k := 2) (x := v2) rfl (mj_dt dt_X9_judge 72 rfl) ?_
    obtain ⟨r4, er4, h⟩ := mj_bind_some h
    refine ml_callV (Y' := mY_X9_planned) (as := [.int v2]) (rest := []) (c := 9) (v := (some (.long r4.1))) (M1 := (mj_fin r4.2)) ho_95 rfl lm_X9_302 wc_X9_planned pl_X9_planned ok_X9_planned rfl rfl (Nat.le_of_ble_eq_true rfl) (k_X9_planned (by omega) er4) (mj_dt dt_X9_judge 73 rfl) ?_
    obtain rfl := Option.some.inj h
    exact mj_go_ret (v := some (.long r4.1)) (Nat.le_of_ble_eq_true rfl) (mj_retL (mj_dt dt_X9_judge 74 rfl) rfl)
  · rw [if_neg b2] at h
    refine mj_go_aload_n (k := 0) (x := 95) rfl (mj_dt dt_X9_judge 31 rfl) ?_
    refine mj_go_iload_n (k := 1) (x := v1) rfl (mj_dt dt_X9_judge 32 rfl) ?_
    refine mj_go_iload (i := 5) (x := s.2.1) rfl (mj_dt dt_X9_judge 33 rfl) ?_
    obtain ⟨r3, er3, h⟩ := mj_bind_some h
    refine ml_callV (Y' := mY_X9_intAt) (as := [.int v1, .int s.2.1]) (rest := []) (c := 9) (v := (some (.int r3))) (M1 := (mj_fin s.2.2)) ho_95 rfl lm_X9_165 wc_X9_intAt pl_X9_intAt ok_X9_intAt rfl rfl (Nat.le_of_ble_eq_true rfl) (k_X9_intAt (by omega) er3) (mj_dt dt_X9_judge 34 rfl) ?_
    refine mj_go_istore (i := 6) (by decide) (mj_dt dt_X9_judge 35 rfl) ?_
    refine mj_go_aload_n (k := 0) (x := 95) rfl (mj_dt dt_X9_judge 36 rfl) ?_
    refine mj_go_iload (i := 6) (x := r3) rfl (mj_dt dt_X9_judge 37 rfl) ?_
    obtain ⟨r4, er4, h⟩ := mj_bind_some h
    refine ml_callV (Y' := mY_X9_isHouse) (as := [.int r3]) (rest := []) (c := 9) (v := (some (.int r4))) (M1 := (mj_fin s.2.2)) ho_95 rfl lm_X9_168 wc_X9_isHouse pl_X9_isHouse ok_X9_isHouse rfl rfl (Nat.le_of_ble_eq_true rfl) (k_X9_isHouse (by omega) er4) (mj_dt dt_X9_judge 38 rfl) ?_
    refine mj_go_if_eq (tgt := 80) rfl (mj_dt dt_X9_judge 39 rfl) (fun b5 => ?_) (fun b5 => ?_)
    · rw [if_pos b5] at h
      refine mj_go_sub (lv' := [(0, .ref 95)]) (List.forall_mem_cons.mpr ⟨rfl, (fun _ h9 => absurd h9 List.not_mem_nil)⟩) ?_
      exact k_X9_judge_80 hδ h
    · rw [if_neg b5] at h
      refine mj_go_iload (i := 4) (x := s.1) rfl (mj_dt dt_X9_judge 40 rfl) ?_
      refine mj_go_iload (i := 6) (x := r3) rfl (mj_dt dt_X9_judge 41 rfl) ?_
      refine mj_go_ishr (mj_dt dt_X9_judge 42 rfl) ?_
      refine mj_go_iconst (v := 1) rfl (mj_dt dt_X9_judge 43 rfl) ?_
      refine mj_go_iand (mj_dt dt_X9_judge 44 rfl) ?_
      refine mj_go_iconst (v := 1) rfl (mj_dt dt_X9_judge 45 rfl) ?_
      refine mj_go_icmp_ne (tgt := 88) rfl (mj_dt dt_X9_judge 46 rfl) (fun b6 => ?_) (fun b6 => ?_)
      · rw [if_neg b6] at h
        refine mj_go_iload (i := 4) (x := s.1) rfl (mj_dt dt_X9_judge 52 rfl) ?_
        refine mj_go_iconst (v := 1) rfl (mj_dt dt_X9_judge 53 rfl) ?_
        refine mj_go_iload (i := 6) (x := r3) rfl (mj_dt dt_X9_judge 54 rfl) ?_
        refine mj_go_ishl (mj_dt dt_X9_judge 55 rfl) ?_
        refine mj_go_ior (mj_dt dt_X9_judge 56 rfl) ?_
        obtain ⟨x7, ex7, h⟩ := mj_mw_some h
        refine ml_eqi ex7 ?_
        refine mj_go_istore (i := 4) (by decide) (mj_dt dt_X9_judge 57 rfl) ?_
        refine mj_go_aload_n (k := 0) (x := 95) rfl (mj_dt dt_X9_judge 58 rfl) ?_
        refine ml_getR (c := 9) (k := 45) (q := 124) fd_9_45 rf_95_45 (Or.inl fl_X9_111) ho_95 (mj_dt dt_X9_judge 59 rfl) ?_
        refine mj_go_iload (i := 5) (x := s.2.1) rfl (mj_dt dt_X9_judge 60 rfl) ?_
        refine mj_go_iload (i := 6) (x := r3) rfl (mj_dt dt_X9_judge 61 rfl) ?_
        obtain ⟨c8, h⟩ := mj_ck_some h
        obtain ⟨m9, em9, h⟩ := mj_mw_some h
        refine ml_iast c8 (mj_dt dt_X9_judge 62 rfl) ?_
        refine ml_eqm (M1 := (mj_fin m9)) (by rw [em9] <;> rfl) ?_
        obtain ⟨x10, ex10, h⟩ := mj_mw_some h
        refine mj_go_iinc (i := 5) (x := s.2.1) (v := x10) rfl (by rw [ex10] <;> rfl) (by decide) (mj_dt dt_X9_judge 63 rfl) ?_
        refine mj_go_goto (tgt := 40) rfl (mj_dt dt_X9_judge 64 rfl) ?_
        refine mj_go_sub (lv' := [(0, .ref 95), (1, .int v1), (2, .int v2), (4, .int x7), (5, .int x10)]) (List.forall_mem_cons.mpr ⟨rfl, (List.forall_mem_cons.mpr ⟨rfl, (List.forall_mem_cons.mpr ⟨rfl, (List.forall_mem_cons.mpr ⟨rfl, (List.forall_mem_cons.mpr ⟨rfl, (fun _ h9 => absurd h9 List.not_mem_nil)⟩)⟩)⟩)⟩)⟩) ?_
        exact q_40 _ _ h
      · rw [if_pos b6] at h
        refine mj_go_sub (lv' := [(0, .ref 95)]) (List.forall_mem_cons.mpr ⟨rfl, (fun _ h9 => absurd h9 List.not_mem_nil)⟩) ?_
        exact k_X9_judge_80 hδ h
def f_X9_judge (N : Nat) (v1 : Int32) (v2 : Int32) (m : mj_m) : Option (Int64 × mj_m) := (f_X9_wants N v1 1 m).bind (fun r1 => if r1 = 0 then ((f_X9_isYears N v2 m).bind (fun r3 => if r3 = 0 then ((f_X9_no N (-6 : Int32) m).bind (fun r5 => some (r5.1.toInt64, r5.2))) else (mj_lp N (f_X9_judge_40 N v1 v2) (0, 0, m)))) else ((f_X9_no N r1 m).bind (fun r3 => some (r3.1.toInt64, r3.2))))
theorem k_X9_judge {L : Nat} {xs : Nat → Int32} {δ N : Nat} {v1 : Int32} {v2 : Int32} {m : mj_m} (hδ : 5 ≤ δ) {a : Int64 × mj_m} (h : f_X9_judge N v1 v2 m = some a) : mj_Cl (mj_EX L xs) δ mY_X9_judge [.ref 95, .int v1, .int v2] (mj_fin m) (some (.long a.1), (mj_fin a.2)) := by
  obtain ⟨δ, rfl⟩ : ∃ d, δ = d + 1 := ⟨δ - 1, by omega⟩
  have hδ : 4 ≤ δ := by omega
  refine mj_cl_of ok_X9_judge (Nat.le_of_ble_eq_true rfl) ?_
  unfold f_X9_judge at h
  refine mj_go_aload_n (k := 0) (x := 95) rfl (mj_dt dt_X9_judge 0 rfl) ?_
  refine mj_go_iload_n (k := 1) (x := v1) rfl (mj_dt dt_X9_judge 1 rfl) ?_
  refine mj_go_iconst (v := 1) rfl (mj_dt dt_X9_judge 2 rfl) ?_
  obtain ⟨r1, er1, h⟩ := mj_bind_some h
  refine ml_callV (Y' := mY_X9_wants) (as := [.int v1, .int 1]) (rest := []) (c := 9) (v := (some (.int r1))) (M1 := (mj_fin m)) ho_95 rfl lm_X9_138 wc_X9_wants pl_X9_wants ok_X9_wants rfl rfl (Nat.le_of_ble_eq_true rfl) (k_X9_wants (by omega) er1) (mj_dt dt_X9_judge 3 rfl) ?_
  refine mj_go_istore_n (k := 3) (by decide) (mj_dt dt_X9_judge 4 rfl) ?_
  refine mj_go_iload_n (k := 3) (x := r1) rfl (mj_dt dt_X9_judge 5 rfl) ?_
  refine mj_go_if_eq (tgt := 18) rfl (mj_dt dt_X9_judge 6 rfl) (fun b2 => ?_) (fun b2 => ?_)
  · rw [if_pos b2] at h
    refine mj_go_aload_n (k := 0) (x := 95) rfl (mj_dt dt_X9_judge 12 rfl) ?_
    refine mj_go_iload_n (k := 2) (x := v2) rfl (mj_dt dt_X9_judge 13 rfl) ?_
    obtain ⟨r3, er3, h⟩ := mj_bind_some h
    refine ml_callV (Y' := mY_X9_isYears) (as := [.int v2]) (rest := []) (c := 9) (v := (some (.int r3))) (M1 := (mj_fin m)) ho_95 rfl lm_X9_296 wc_X9_isYears pl_X9_isYears ok_X9_isYears rfl rfl (Nat.le_of_ble_eq_true rfl) (k_X9_isYears (by omega) er3) (mj_dt dt_X9_judge 14 rfl) ?_
    refine mj_go_if_ne (tgt := 34) rfl (mj_dt dt_X9_judge 15 rfl) (fun b4 => ?_) (fun b4 => ?_)
    · rw [if_neg b4] at h
      refine mj_go_iconst (v := 0) rfl (mj_dt dt_X9_judge 21 rfl) ?_
      refine mj_go_istore (i := 4) (by decide) (mj_dt dt_X9_judge 22 rfl) ?_
      refine mj_go_iconst (v := 0) rfl (mj_dt dt_X9_judge 23 rfl) ?_
      refine mj_go_istore (i := 5) (by decide) (mj_dt dt_X9_judge 24 rfl) ?_
      refine mj_go_sub (lv' := [(0, .ref 95), (1, .int v1), (2, .int v2), (4, .int 0), (5, .int 0)]) (List.forall_mem_cons.mpr ⟨rfl, (List.forall_mem_cons.mpr ⟨rfl, (List.forall_mem_cons.mpr ⟨rfl, (List.forall_mem_cons.mpr ⟨rfl, (List.forall_mem_cons.mpr ⟨rfl, (fun _ h9 => absurd h9 List.not_mem_nil)⟩)⟩)⟩)⟩)⟩) ?_
      exact k_X9_judge_40 hδ N _ _ h
    · rw [if_pos b4] at h
      refine mj_go_aload_n (k := 0) (x := 95) rfl (mj_dt dt_X9_judge 16 rfl) ?_
      refine mj_go_bipush (v := -6) rfl (mj_dt dt_X9_judge 17 rfl) ?_
      obtain ⟨r5, er5, h⟩ := mj_bind_some h
      refine ml_callV (Y' := mY_X9_no) (as := [.int (-6 : Int32)]) (rest := []) (c := 9) (v := (some (.int r5.1))) (M1 := (mj_fin r5.2)) ho_95 rfl lm_X9_134 wc_X9_no pl_X9_no ok_X9_no rfl rfl (Nat.le_of_ble_eq_true rfl) (k_X9_no (by omega) er5) (mj_dt dt_X9_judge 18 rfl) ?_
      refine mj_go_i2l (mj_dt dt_X9_judge 19 rfl) ?_
      obtain rfl := Option.some.inj h
      exact mj_go_ret (v := some (.long (r5.1.toInt64))) (Nat.le_of_ble_eq_true rfl) (mj_retL (mj_dt dt_X9_judge 20 rfl) rfl)
  · rw [if_neg b2] at h
    refine mj_go_aload_n (k := 0) (x := 95) rfl (mj_dt dt_X9_judge 7 rfl) ?_
    refine mj_go_iload_n (k := 3) (x := r1) rfl (mj_dt dt_X9_judge 8 rfl) ?_
    obtain ⟨r3, er3, h⟩ := mj_bind_some h
    refine ml_callV (Y' := mY_X9_no) (as := [.int r1]) (rest := []) (c := 9) (v := (some (.int r3.1))) (M1 := (mj_fin r3.2)) ho_95 rfl lm_X9_134 wc_X9_no pl_X9_no ok_X9_no rfl rfl (Nat.le_of_ble_eq_true rfl) (k_X9_no (by omega) er3) (mj_dt dt_X9_judge 9 rfl) ?_
    refine mj_go_i2l (mj_dt dt_X9_judge 10 rfl) ?_
    obtain rfl := Option.some.inj h
    exact mj_go_ret (v := some (.long (r3.1.toInt64))) (Nat.le_of_ble_eq_true rfl) (mj_retL (mj_dt dt_X9_judge 11 rfl) rfl)
def f_X4_countUnstrengthened_33 (N : Nat) (k_4 : Int32 × Int32 → Option (Int32)) (v2 : Int32) (s0 : Int32) (s1 : Int32) (m : mj_m) : Option (Int32) := mj_mw (s0 + s1) (fun x1 => mj_mw (v2 + 1) (fun x2 => k_4 (x1, x2)))
theorem k_X4_countUnstrengthened_33 {L : Nat} {xs : Nat → Int32} {δ N : Nat} {v2 : Int32} {s0 : Int32} {s1 : Int32} {m : mj_m} {k_4 : Int32 × Int32 → Option (Int32)} (q_4 : ∀ (s_ : Int32 × Int32) (a_ : Int32), k_4 s_ = some a_ → mj_Go (mj_EX L xs) δ mY_X4_countUnstrengthened 4 [(0, .ref 48), (1, .int s_.1), (2, .int s_.2)] [] (mj_fin m) (some (.int a_), (mj_fin m))) {a : Int32} (h : f_X4_countUnstrengthened_33 N k_4 v2 s0 s1 m = some a) : mj_Go (mj_EX L xs) δ mY_X4_countUnstrengthened 33 [(0, .ref 48), (2, .int v2)] [.int s1, .int s0] (mj_fin m) (some (.int a), (mj_fin m)) := by
  unfold f_X4_countUnstrengthened_33 at h
  refine mj_go_iadd (mj_dt dt_X4_countUnstrengthened 19 rfl) ?_
  obtain ⟨x1, ex1, h⟩ := mj_mw_some h
  refine ml_eqi ex1 ?_
  refine mj_go_istore_n (k := 1) (by decide) (mj_dt dt_X4_countUnstrengthened 20 rfl) ?_
  obtain ⟨x2, ex2, h⟩ := mj_mw_some h
  refine mj_go_iinc (i := 2) (x := v2) (v := x2) rfl (by rw [ex2] <;> rfl) (by decide) (mj_dt dt_X4_countUnstrengthened 21 rfl) ?_
  refine mj_go_goto (tgt := 4) rfl (mj_dt dt_X4_countUnstrengthened 22 rfl) ?_
  refine mj_go_sub (lv' := [(0, .ref 48), (1, .int x1), (2, .int x2)]) (List.forall_mem_cons.mpr ⟨rfl, (List.forall_mem_cons.mpr ⟨rfl, (List.forall_mem_cons.mpr ⟨rfl, (fun _ h9 => absurd h9 List.not_mem_nil)⟩)⟩)⟩) ?_
  exact q_4 _ _ h
def f_X4_countUnstrengthened_4 (N : Nat) (m : mj_m) (k_4 : Int32 × Int32 → Option (Int32)) (s : Int32 × Int32) : Option (Int32) := if (m.1 1 7) ≤ s.2 then (some s.1) else (mj_ck (mj_b 0 5 s.2) ( if (m.1 5 s.2.toNatClampNeg) = 0 then (f_X4_countUnstrengthened_33 N k_4 s.2 s.1 1 m) else (f_X4_countUnstrengthened_33 N k_4 s.2 s.1 0 m)))
theorem k_X4_countUnstrengthened_4 {L : Nat} {xs : Nat → Int32} {δ N : Nat} {m : mj_m} : ∀ (n : Nat) (s : Int32 × Int32) (a : Int32), mj_lp n (f_X4_countUnstrengthened_4 N m) s = some a → mj_Go (mj_EX L xs) δ mY_X4_countUnstrengthened 4 [(0, .ref 48), (1, .int s.1), (2, .int s.2)] [] (mj_fin m) (some (.int a), (mj_fin m)) := by
  refine mj_lp_sound (fun k_4 s a q_4 h => ?_)
  unfold f_X4_countUnstrengthened_4 at h
  refine mj_go_iload_n (k := 2) (x := s.2) rfl (mj_dt dt_X4_countUnstrengthened 4 rfl) ?_
  refine mj_go_aload_n (k := 0) (x := 48) rfl (mj_dt dt_X4_countUnstrengthened 5 rfl) ?_
  refine ml_getR (c := 4) (k := 0) (q := 1) fd_4_0 rf_48_0 (Or.inl fl_X4_47) ho_48 (mj_dt dt_X4_countUnstrengthened 6 rfl) ?_
  refine mk_getI (c := 7) (k := 7) (Or.inl fd_7_7) (Or.inl fl_X4_79) ho_1 (mj_dt dt_X4_countUnstrengthened 7 rfl) ?_
  refine mj_go_icmp_ge (tgt := 41) rfl (mj_dt dt_X4_countUnstrengthened 8 rfl) (fun b1 => ?_) (fun b1 => ?_)
  · rw [if_pos b1] at h
    refine mj_go_iload_n (k := 1) (x := s.1) rfl (mj_dt dt_X4_countUnstrengthened 23 rfl) ?_
    obtain rfl := Option.some.inj h
    exact mj_go_ret (v := some (.int s.1)) (Nat.le_of_ble_eq_true rfl) (mj_retI (mj_dt dt_X4_countUnstrengthened 24 rfl) rfl)
  · rw [if_neg b1] at h
    refine mj_go_iload_n (k := 1) (x := s.1) rfl (mj_dt dt_X4_countUnstrengthened 9 rfl) ?_
    refine mj_go_aload_n (k := 0) (x := 48) rfl (mj_dt dt_X4_countUnstrengthened 10 rfl) ?_
    refine ml_getR (c := 4) (k := 0) (q := 1) fd_4_0 rf_48_0 (Or.inl fl_X4_47) ho_48 (mj_dt dt_X4_countUnstrengthened 11 rfl) ?_
    refine ml_getR (c := 7) (k := 3) (q := 5) fd_7_3 rf_1_3 (Or.inl fl_X4_59) ho_1 (mj_dt dt_X4_countUnstrengthened 12 rfl) ?_
    refine mj_go_iload_n (k := 2) (x := s.2) rfl (mj_dt dt_X4_countUnstrengthened 13 rfl) ?_
    obtain ⟨c2, h⟩ := mj_ck_some h
    refine mk_iald c2 (mj_dt dt_X4_countUnstrengthened 14 rfl) ?_
    refine mj_go_if_ne (tgt := 32) rfl (mj_dt dt_X4_countUnstrengthened 15 rfl) (fun b3 => ?_) (fun b3 => ?_)
    · rw [if_neg b3] at h
      refine mj_go_iconst (v := 0) rfl (mj_dt dt_X4_countUnstrengthened 18 rfl) ?_
      refine mj_go_sub (lv' := [(0, .ref 48), (2, .int s.2)]) (List.forall_mem_cons.mpr ⟨rfl, (List.forall_mem_cons.mpr ⟨rfl, (fun _ h9 => absurd h9 List.not_mem_nil)⟩)⟩) ?_
      exact k_X4_countUnstrengthened_33 q_4 h
    · rw [if_pos b3] at h
      refine mj_go_iconst (v := 1) rfl (mj_dt dt_X4_countUnstrengthened 16 rfl) ?_
      refine mj_go_goto (tgt := 33) rfl (mj_dt dt_X4_countUnstrengthened 17 rfl) ?_
      refine mj_go_sub (lv' := [(0, .ref 48), (2, .int s.2)]) (List.forall_mem_cons.mpr ⟨rfl, (List.forall_mem_cons.mpr ⟨rfl, (fun _ h9 => absurd h9 List.not_mem_nil)⟩)⟩) ?_
      exact k_X4_countUnstrengthened_33 q_4 h
def f_X4_countUnstrengthened (N : Nat) (m : mj_m) : Option (Int32) := mj_lp N (f_X4_countUnstrengthened_4 N m) (0, 0)
theorem k_X4_countUnstrengthened {L : Nat} {xs : Nat → Int32} {δ N : Nat} {m : mj_m} (_ : 0 ≤ δ) {a : Int32} (h : f_X4_countUnstrengthened N m = some a) : mj_Cl (mj_EX L xs) δ mY_X4_countUnstrengthened [.ref 48] (mj_fin m) (some (.int a), (mj_fin m)) := by
  refine mj_cl_of ok_X4_countUnstrengthened (Nat.le_of_ble_eq_true rfl) ?_
  unfold f_X4_countUnstrengthened at h
  refine mj_go_iconst (v := 0) rfl (mj_dt dt_X4_countUnstrengthened 0 rfl) ?_
  refine mj_go_istore_n (k := 1) (by decide) (mj_dt dt_X4_countUnstrengthened 1 rfl) ?_
  refine mj_go_iconst (v := 0) rfl (mj_dt dt_X4_countUnstrengthened 2 rfl) ?_
  refine mj_go_istore_n (k := 2) (by decide) (mj_dt dt_X4_countUnstrengthened 3 rfl) ?_
  refine mj_go_sub (lv' := [(0, .ref 48), (1, .int 0), (2, .int 0)]) (List.forall_mem_cons.mpr ⟨rfl, (List.forall_mem_cons.mpr ⟨rfl, (List.forall_mem_cons.mpr ⟨rfl, (fun _ h9 => absurd h9 List.not_mem_nil)⟩)⟩)⟩) ?_
  exact k_X4_countUnstrengthened_4 N _ _ h
def f_X4_findOpen_58 (N : Nat) (k_7 : Int32 × mj_m → Option (mj_m)) (v1 : Int32) (m : mj_m) : Option (mj_m) := mj_mw (v1 + 1) (fun x1 => k_7 (x1, m))
theorem k_X4_findOpen_58 {L : Nat} {xs : Nat → Int32} {δ N : Nat} {v1 : Int32} {m : mj_m} {k_7 : Int32 × mj_m → Option (mj_m)} (q_7 : ∀ (s_ : Int32 × mj_m) (a_ : mj_m), k_7 s_ = some a_ → mj_Go (mj_EX L xs) δ mY_X4_findOpen 7 [(0, .ref 48), (1, .int s_.1)] [] (mj_fin s_.2) (none, (mj_fin a_))) {a : mj_m} (h : f_X4_findOpen_58 N k_7 v1 m = some a) : mj_Go (mj_EX L xs) δ mY_X4_findOpen 58 [(0, .ref 48), (1, .int v1)] [] (mj_fin m) (none, (mj_fin a)) := by
  unfold f_X4_findOpen_58 at h
  obtain ⟨x1, ex1, h⟩ := mj_mw_some h
  refine mj_go_iinc (i := 1) (x := v1) (v := x1) rfl (by rw [ex1] <;> rfl) (by decide) (mj_dt dt_X4_findOpen 32 rfl) ?_
  refine mj_go_goto (tgt := 7) rfl (mj_dt dt_X4_findOpen 33 rfl) ?_
  refine mj_go_sub (lv' := [(0, .ref 48), (1, .int x1)]) (List.forall_mem_cons.mpr ⟨rfl, (List.forall_mem_cons.mpr ⟨rfl, (fun _ h9 => absurd h9 List.not_mem_nil)⟩)⟩) ?_
  exact q_7 _ _ h
def f_X4_findOpen_7 (N : Nat) (k_7 : Int32 × mj_m → Option (mj_m)) (s : Int32 × mj_m) : Option (mj_m) := if (s.2.1 1 7) ≤ s.1 then (some s.2) else (if 5 ≤ (s.2.1 48 13) then (some s.2) else (mj_ck (mj_b 0 5 s.1) ( if (s.2.1 5 s.1.toNatClampNeg) = 0 then (mj_ck (mj_b 0 51 (s.2.1 48 13)) ( mj_mw (mj_wI s.2 51 ((s.2.1 48 13).toNatClampNeg) s.1) (fun m6 => mj_mw (mj_wI m6 48 13 ((m6.1 48 13) + 1)) (fun m7 => f_X4_findOpen_58 N k_7 s.1 m7)))) else f_X4_findOpen_58 N k_7 s.1 s.2)))
theorem k_X4_findOpen_7 {L : Nat} {xs : Nat → Int32} {δ N : Nat} : ∀ (n : Nat) (s : Int32 × mj_m) (a : mj_m), mj_lp n (f_X4_findOpen_7 N) s = some a → mj_Go (mj_EX L xs) δ mY_X4_findOpen 7 [(0, .ref 48), (1, .int s.1)] [] (mj_fin s.2) (none, (mj_fin a)) := by
  refine mj_lp_sound (fun k_7 s a q_7 h => ?_)
  unfold f_X4_findOpen_7 at h
  refine mj_go_iload_n (k := 1) (x := s.1) rfl (mj_dt dt_X4_findOpen 5 rfl) ?_
  refine mj_go_aload_n (k := 0) (x := 48) rfl (mj_dt dt_X4_findOpen 6 rfl) ?_
  refine ml_getR (c := 4) (k := 0) (q := 1) fd_4_0 rf_48_0 (Or.inl fl_X4_47) ho_48 (mj_dt dt_X4_findOpen 7 rfl) ?_
  refine mk_getI (c := 7) (k := 7) (Or.inl fd_7_7) (Or.inl fl_X4_79) ho_1 (mj_dt dt_X4_findOpen 8 rfl) ?_
  refine mj_go_icmp_ge (tgt := 64) rfl (mj_dt dt_X4_findOpen 9 rfl) (fun b1 => ?_) (fun b1 => ?_)
  · rw [if_pos b1] at h
    obtain rfl := Option.some.inj h
    exact mj_go_ret (v := none) (Nat.le_of_ble_eq_true rfl) (mj_retV (mj_dt dt_X4_findOpen 34 rfl) rfl)
  · rw [if_neg b1] at h
    refine mj_go_aload_n (k := 0) (x := 48) rfl (mj_dt dt_X4_findOpen 10 rfl) ?_
    refine mk_getI (c := 4) (k := 13) (Or.inl fd_4_13) (Or.inl fl_X4_44) ho_48 (mj_dt dt_X4_findOpen 11 rfl) ?_
    refine mj_go_iconst (v := 5) rfl (mj_dt dt_X4_findOpen 12 rfl) ?_
    refine mj_go_icmp_ge (tgt := 64) rfl (mj_dt dt_X4_findOpen 13 rfl) (fun b2 => ?_) (fun b2 => ?_)
    · rw [if_pos b2] at h
      obtain rfl := Option.some.inj h
      exact mj_go_ret (v := none) (Nat.le_of_ble_eq_true rfl) (mj_retV (mj_dt dt_X4_findOpen 34 rfl) rfl)
    · rw [if_neg b2] at h
      refine mj_go_aload_n (k := 0) (x := 48) rfl (mj_dt dt_X4_findOpen 14 rfl) ?_
      refine ml_getR (c := 4) (k := 0) (q := 1) fd_4_0 rf_48_0 (Or.inl fl_X4_47) ho_48 (mj_dt dt_X4_findOpen 15 rfl) ?_
      refine ml_getR (c := 7) (k := 3) (q := 5) fd_7_3 rf_1_3 (Or.inl fl_X4_59) ho_1 (mj_dt dt_X4_findOpen 16 rfl) ?_
      refine mj_go_iload_n (k := 1) (x := s.1) rfl (mj_dt dt_X4_findOpen 17 rfl) ?_
      obtain ⟨c3, h⟩ := mj_ck_some h
      refine mk_iald c3 (mj_dt dt_X4_findOpen 18 rfl) ?_
      refine mj_go_if_ne (tgt := 58) rfl (mj_dt dt_X4_findOpen 19 rfl) (fun b4 => ?_) (fun b4 => ?_)
      · rw [if_neg b4] at h
        refine mj_go_sub (lv' := [(0, .ref 48), (1, .int s.1)]) (List.forall_mem_cons.mpr ⟨rfl, (List.forall_mem_cons.mpr ⟨rfl, (fun _ h9 => absurd h9 List.not_mem_nil)⟩)⟩) ?_
        exact k_X4_findOpen_58 q_7 h
      · rw [if_pos b4] at h
        refine mj_go_aload_n (k := 0) (x := 48) rfl (mj_dt dt_X4_findOpen 20 rfl) ?_
        refine ml_getR (c := 4) (k := 5) (q := 51) fd_4_5 rf_48_5 (Or.inl fl_X4_18) ho_48 (mj_dt dt_X4_findOpen 21 rfl) ?_
        refine mj_go_aload_n (k := 0) (x := 48) rfl (mj_dt dt_X4_findOpen 22 rfl) ?_
        refine mk_getI (c := 4) (k := 13) (Or.inl fd_4_13) (Or.inl fl_X4_44) ho_48 (mj_dt dt_X4_findOpen 23 rfl) ?_
        refine mj_go_iload_n (k := 1) (x := s.1) rfl (mj_dt dt_X4_findOpen 24 rfl) ?_
        obtain ⟨c5, h⟩ := mj_ck_some h
        obtain ⟨m6, em6, h⟩ := mj_mw_some h
        refine ml_iast c5 (mj_dt dt_X4_findOpen 25 rfl) ?_
        refine ml_eqm (M1 := (mj_fin m6)) (by rw [em6] <;> rfl) ?_
        refine mj_go_aload_n (k := 0) (x := 48) rfl (mj_dt dt_X4_findOpen 26 rfl) ?_
        refine mj_go_dup rfl (mj_dt dt_X4_findOpen 27 rfl) ?_
        refine mk_getI (c := 4) (k := 13) (Or.inl fd_4_13) (Or.inl fl_X4_44) ho_48 (mj_dt dt_X4_findOpen 28 rfl) ?_
        refine mj_go_iconst (v := 1) rfl (mj_dt dt_X4_findOpen 29 rfl) ?_
        refine mj_go_iadd (mj_dt dt_X4_findOpen 30 rfl) ?_
        obtain ⟨m7, em7, h⟩ := mj_mw_some h
        refine ml_putI (c := 4) (k := 13) fd_4_13 rfl fl_X4_44 ho_48 (mj_dt dt_X4_findOpen 31 rfl) ?_
        refine ml_eqm (M1 := (mj_fin m7)) (by rw [em7] <;> rfl) ?_
        refine mj_go_sub (lv' := [(0, .ref 48), (1, .int s.1)]) (List.forall_mem_cons.mpr ⟨rfl, (List.forall_mem_cons.mpr ⟨rfl, (fun _ h9 => absurd h9 List.not_mem_nil)⟩)⟩) ?_
        exact k_X4_findOpen_58 q_7 h
def f_X4_findOpen (N : Nat) (m : mj_m) : Option (mj_m) := mj_mw (mj_wI m 48 13 0) (fun m1 => mj_lp N (f_X4_findOpen_7 N) (0, m1))
theorem k_X4_findOpen {L : Nat} {xs : Nat → Int32} {δ N : Nat} {m : mj_m} (_ : 0 ≤ δ) {a : mj_m} (h : f_X4_findOpen N m = some a) : mj_Cl (mj_EX L xs) δ mY_X4_findOpen [.ref 48] (mj_fin m) (none, (mj_fin a)) := by
  refine mj_cl_of ok_X4_findOpen (Nat.le_of_ble_eq_true rfl) ?_
  unfold f_X4_findOpen at h
  refine mj_go_aload_n (k := 0) (x := 48) rfl (mj_dt dt_X4_findOpen 0 rfl) ?_
  refine mj_go_iconst (v := 0) rfl (mj_dt dt_X4_findOpen 1 rfl) ?_
  obtain ⟨m1, em1, h⟩ := mj_mw_some h
  refine ml_putI (c := 4) (k := 13) fd_4_13 rfl fl_X4_44 ho_48 (mj_dt dt_X4_findOpen 2 rfl) ?_
  refine ml_eqm (M1 := (mj_fin m1)) (by rw [em1] <;> rfl) ?_
  refine mj_go_iconst (v := 0) rfl (mj_dt dt_X4_findOpen 3 rfl) ?_
  refine mj_go_istore_n (k := 1) (by decide) (mj_dt dt_X4_findOpen 4 rfl) ?_
  refine mj_go_sub (lv' := [(0, .ref 48), (1, .int 0)]) (List.forall_mem_cons.mpr ⟨rfl, (List.forall_mem_cons.mpr ⟨rfl, (fun _ h9 => absurd h9 List.not_mem_nil)⟩)⟩) ?_
  exact k_X4_findOpen_7 N _ _ h
def f_X4_reckonMeans_39 (N : Nat) (k_27 : Int32 × mj_m → Option (mj_m)) (v1 : Int32) (k_39 : Int32 × mj_m → Option (mj_m)) (s : Int32 × mj_m) : Option (mj_m) := if (s.2.1 48 13) ≤ s.1 then ((f_X2_meanBy N 50 s.2).bind (fun r2 => mj_ck (mj_b 1 54 v1) ( mj_mw (mj_wL r2.2 54 (v1.toNatClampNeg) r2.1) (fun m4 => mj_mw (v1 + 1) (fun x5 => k_27 (x5, m4)))))) else (mj_ck (mj_b 0 51 s.1) ( mj_ck (mj_b 0 50 (s.2.1 51 s.1.toNatClampNeg)) ( mj_mw (mj_wI s.2 50 ((s.2.1 51 s.1.toNatClampNeg).toNatClampNeg) ((v1 >>> (s.1 &&& 31)) &&& 1)) (fun m4 => mj_mw (s.1 + 1) (fun x5 => k_39 (x5, m4))))))
theorem k_X4_reckonMeans_39 {L : Nat} {xs : Nat → Int32} {δ N : Nat} {v1 : Int32} {k_27 : Int32 × mj_m → Option (mj_m)} (q_27 : ∀ (s_ : Int32 × mj_m) (a_ : mj_m), k_27 s_ = some a_ → mj_Go (mj_EX L xs) (δ + 1) mY_X4_reckonMeans 27 [(0, .ref 48), (1, .int s_.1)] [] (mj_fin s_.2) (none, (mj_fin a_))) (hδ : 3 ≤ δ) : ∀ (n : Nat) (s : Int32 × mj_m) (a : mj_m), mj_lp n (f_X4_reckonMeans_39 N k_27 v1) s = some a → mj_Go (mj_EX L xs) (δ + 1) mY_X4_reckonMeans 39 [(0, .ref 48), (1, .int v1), (2, .int s.1)] [] (mj_fin s.2) (none, (mj_fin a)) := by
  refine mj_lp_sound (fun k_39 s a q_39 h => ?_)
  unfold f_X4_reckonMeans_39 at h
  refine mj_go_iload_n (k := 2) (x := s.1) rfl (mj_dt dt_X4_reckonMeans 22 rfl) ?_
  refine mj_go_aload_n (k := 0) (x := 48) rfl (mj_dt dt_X4_reckonMeans 23 rfl) ?_
  refine mk_getI (c := 4) (k := 13) (Or.inl fd_4_13) (Or.inl fl_X4_44) ho_48 (mj_dt dt_X4_reckonMeans 24 rfl) ?_
  refine mj_go_icmp_ge (tgt := 69) rfl (mj_dt dt_X4_reckonMeans 25 rfl) (fun b1 => ?_) (fun b1 => ?_)
  · rw [if_pos b1] at h
    refine mj_go_aload_n (k := 0) (x := 48) rfl (mj_dt dt_X4_reckonMeans 40 rfl) ?_
    refine ml_getR (c := 4) (k := 8) (q := 54) fd_4_8 rf_48_8 (Or.inl fl_X4_27) ho_48 (mj_dt dt_X4_reckonMeans 41 rfl) ?_
    refine mj_go_iload_n (k := 1) (x := v1) rfl (mj_dt dt_X4_reckonMeans 42 rfl) ?_
    refine mj_go_aload_n (k := 0) (x := 48) rfl (mj_dt dt_X4_reckonMeans 43 rfl) ?_
    refine ml_getR (c := 4) (k := 1) (q := 36) fd_4_1 rf_48_1 (Or.inl fl_X4_51) ho_48 (mj_dt dt_X4_reckonMeans 44 rfl) ?_
    refine mj_go_aload_n (k := 0) (x := 48) rfl (mj_dt dt_X4_reckonMeans 45 rfl) ?_
    refine ml_getR (c := 4) (k := 4) (q := 50) fd_4_4 rf_48_4 (Or.inl fl_X4_15) ho_48 (mj_dt dt_X4_reckonMeans 46 rfl) ?_
    obtain ⟨r2, er2, h⟩ := mj_bind_some h
    refine ml_callV (Y' := mY_X2_meanBy) (as := [.ref 50]) (rest := [.int v1, .ref 54]) (c := 2) (v := (some (.long r2.1))) (M1 := (mj_fin r2.2)) ho_36 rfl lm_X4_70 wc_X2_meanBy pl_X2_meanBy ok_X2_meanBy rfl rfl (Nat.le_of_ble_eq_true rfl) (k_X2_meanBy (by omega) er2) (mj_dt dt_X4_reckonMeans 47 rfl) ?_
    obtain ⟨c3, h⟩ := mj_ck_some h
    obtain ⟨m4, em4, h⟩ := mj_mw_some h
    refine ml_last c3 (mj_dt dt_X4_reckonMeans 48 rfl) ?_
    refine ml_eqm (M1 := (mj_fin m4)) (by rw [em4] <;> rfl) ?_
    obtain ⟨x5, ex5, h⟩ := mj_mw_some h
    refine mj_go_iinc (i := 1) (x := v1) (v := x5) rfl (by rw [ex5] <;> rfl) (by decide) (mj_dt dt_X4_reckonMeans 49 rfl) ?_
    refine mj_go_goto (tgt := 27) rfl (mj_dt dt_X4_reckonMeans 50 rfl) ?_
    refine mj_go_sub (lv' := [(0, .ref 48), (1, .int x5)]) (List.forall_mem_cons.mpr ⟨rfl, (List.forall_mem_cons.mpr ⟨rfl, (fun _ h9 => absurd h9 List.not_mem_nil)⟩)⟩) ?_
    exact q_27 _ _ h
  · rw [if_neg b1] at h
    refine mj_go_aload_n (k := 0) (x := 48) rfl (mj_dt dt_X4_reckonMeans 26 rfl) ?_
    refine ml_getR (c := 4) (k := 4) (q := 50) fd_4_4 rf_48_4 (Or.inl fl_X4_15) ho_48 (mj_dt dt_X4_reckonMeans 27 rfl) ?_
    refine mj_go_aload_n (k := 0) (x := 48) rfl (mj_dt dt_X4_reckonMeans 28 rfl) ?_
    refine ml_getR (c := 4) (k := 5) (q := 51) fd_4_5 rf_48_5 (Or.inl fl_X4_18) ho_48 (mj_dt dt_X4_reckonMeans 29 rfl) ?_
    refine mj_go_iload_n (k := 2) (x := s.1) rfl (mj_dt dt_X4_reckonMeans 30 rfl) ?_
    obtain ⟨c2, h⟩ := mj_ck_some h
    refine mk_iald c2 (mj_dt dt_X4_reckonMeans 31 rfl) ?_
    refine mj_go_iload_n (k := 1) (x := v1) rfl (mj_dt dt_X4_reckonMeans 32 rfl) ?_
    refine mj_go_iload_n (k := 2) (x := s.1) rfl (mj_dt dt_X4_reckonMeans 33 rfl) ?_
    refine mj_go_ishr (mj_dt dt_X4_reckonMeans 34 rfl) ?_
    refine mj_go_iconst (v := 1) rfl (mj_dt dt_X4_reckonMeans 35 rfl) ?_
    refine mj_go_iand (mj_dt dt_X4_reckonMeans 36 rfl) ?_
    obtain ⟨c3, h⟩ := mj_ck_some h
    obtain ⟨m4, em4, h⟩ := mj_mw_some h
    refine ml_iast c3 (mj_dt dt_X4_reckonMeans 37 rfl) ?_
    refine ml_eqm (M1 := (mj_fin m4)) (by rw [em4] <;> rfl) ?_
    obtain ⟨x5, ex5, h⟩ := mj_mw_some h
    refine mj_go_iinc (i := 2) (x := s.1) (v := x5) rfl (by rw [ex5] <;> rfl) (by decide) (mj_dt dt_X4_reckonMeans 38 rfl) ?_
    refine mj_go_goto (tgt := 39) rfl (mj_dt dt_X4_reckonMeans 39 rfl) ?_
    refine mj_go_sub (lv' := [(0, .ref 48), (1, .int v1), (2, .int x5)]) (List.forall_mem_cons.mpr ⟨rfl, (List.forall_mem_cons.mpr ⟨rfl, (List.forall_mem_cons.mpr ⟨rfl, (fun _ h9 => absurd h9 List.not_mem_nil)⟩)⟩)⟩) ?_
    exact q_39 _ _ h
def f_X4_reckonMeans_27 (N : Nat) (k_27 : Int32 × mj_m → Option (mj_m)) (s : Int32 × mj_m) : Option (mj_m) := if (1 <<< ((s.2.1 48 13) &&& 31)) ≤ s.1 then (some s.2) else (mj_lp N (f_X4_reckonMeans_39 N k_27 s.1) (0, s.2))
theorem k_X4_reckonMeans_27 {L : Nat} {xs : Nat → Int32} {δ N : Nat} (hδ : 3 ≤ δ) : ∀ (n : Nat) (s : Int32 × mj_m) (a : mj_m), mj_lp n (f_X4_reckonMeans_27 N) s = some a → mj_Go (mj_EX L xs) (δ + 1) mY_X4_reckonMeans 27 [(0, .ref 48), (1, .int s.1)] [] (mj_fin s.2) (none, (mj_fin a)) := by
  refine mj_lp_sound (fun k_27 s a q_27 h => ?_)
  unfold f_X4_reckonMeans_27 at h
  refine mj_go_iload_n (k := 1) (x := s.1) rfl (mj_dt dt_X4_reckonMeans 14 rfl) ?_
  refine mj_go_iconst (v := 1) rfl (mj_dt dt_X4_reckonMeans 15 rfl) ?_
  refine mj_go_aload_n (k := 0) (x := 48) rfl (mj_dt dt_X4_reckonMeans 16 rfl) ?_
  refine mk_getI (c := 4) (k := 13) (Or.inl fd_4_13) (Or.inl fl_X4_44) ho_48 (mj_dt dt_X4_reckonMeans 17 rfl) ?_
  refine mj_go_ishl (mj_dt dt_X4_reckonMeans 18 rfl) ?_
  refine mj_go_icmp_ge (tgt := 92) rfl (mj_dt dt_X4_reckonMeans 19 rfl) (fun b1 => ?_) (fun b1 => ?_)
  · rw [if_pos b1] at h
    obtain rfl := Option.some.inj h
    exact mj_go_ret (v := none) (Nat.le_of_ble_eq_true rfl) (mj_retV (mj_dt dt_X4_reckonMeans 51 rfl) rfl)
  · rw [if_neg b1] at h
    refine mj_go_iconst (v := 0) rfl (mj_dt dt_X4_reckonMeans 20 rfl) ?_
    refine mj_go_istore_n (k := 2) (by decide) (mj_dt dt_X4_reckonMeans 21 rfl) ?_
    refine mj_go_sub (lv' := [(0, .ref 48), (1, .int s.1), (2, .int 0)]) (List.forall_mem_cons.mpr ⟨rfl, (List.forall_mem_cons.mpr ⟨rfl, (List.forall_mem_cons.mpr ⟨rfl, (fun _ h9 => absurd h9 List.not_mem_nil)⟩)⟩)⟩) ?_
    exact k_X4_reckonMeans_39 q_27 hδ N _ _ h
def f_X4_reckonMeans (N : Nat) (m : mj_m) : Option (mj_m) := (f_X2_weighYear N m).bind (fun r1 => mj_ck (mj_p 0 5 50 0 0 10) ( mj_mw (mj_kI r1 5 50 ((0 : Int32).toNatClampNeg) ((0 : Int32).toNatClampNeg) ((10 : Int32).toNatClampNeg)) (fun m3 => mj_lp N (f_X4_reckonMeans_27 N) (0, m3))))
theorem k_X4_reckonMeans {L : Nat} {xs : Nat → Int32} {δ N : Nat} {m : mj_m} (hδ : 4 ≤ δ) {a : mj_m} (h : f_X4_reckonMeans N m = some a) : mj_Cl (mj_EX L xs) δ mY_X4_reckonMeans [.ref 48] (mj_fin m) (none, (mj_fin a)) := by
  obtain ⟨δ, rfl⟩ : ∃ d, δ = d + 1 := ⟨δ - 1, by omega⟩
  have hδ : 3 ≤ δ := by omega
  refine mj_cl_of ok_X4_reckonMeans (Nat.le_of_ble_eq_true rfl) ?_
  unfold f_X4_reckonMeans at h
  refine mj_go_aload_n (k := 0) (x := 48) rfl (mj_dt dt_X4_reckonMeans 0 rfl) ?_
  refine ml_getR (c := 4) (k := 1) (q := 36) fd_4_1 rf_48_1 (Or.inl fl_X4_51) ho_48 (mj_dt dt_X4_reckonMeans 1 rfl) ?_
  obtain ⟨r1, er1, h⟩ := mj_bind_some h
  refine ml_callV (Y' := mY_X2_weighYear) (as := []) (rest := []) (c := 2) (v := none) (M1 := (mj_fin r1)) ho_36 rfl lm_X4_76 wc_X2_weighYear pl_X2_weighYear ok_X2_weighYear rfl rfl (Nat.le_of_ble_eq_true rfl) (k_X2_weighYear (by omega) er1) (mj_dt dt_X4_reckonMeans 2 rfl) ?_
  refine mj_go_aload_n (k := 0) (x := 48) rfl (mj_dt dt_X4_reckonMeans 3 rfl) ?_
  refine ml_getR (c := 4) (k := 0) (q := 1) fd_4_0 rf_48_0 (Or.inl fl_X4_47) ho_48 (mj_dt dt_X4_reckonMeans 4 rfl) ?_
  refine ml_getR (c := 7) (k := 3) (q := 5) fd_7_3 rf_1_3 (Or.inl fl_X4_59) ho_1 (mj_dt dt_X4_reckonMeans 5 rfl) ?_
  refine mj_go_iconst (v := 0) rfl (mj_dt dt_X4_reckonMeans 6 rfl) ?_
  refine mj_go_aload_n (k := 0) (x := 48) rfl (mj_dt dt_X4_reckonMeans 7 rfl) ?_
  refine ml_getR (c := 4) (k := 4) (q := 50) fd_4_4 rf_48_4 (Or.inl fl_X4_15) ho_48 (mj_dt dt_X4_reckonMeans 8 rfl) ?_
  refine mj_go_iconst (v := 0) rfl (mj_dt dt_X4_reckonMeans 9 rfl) ?_
  refine mj_go_bipush (v := 10) rfl (mj_dt dt_X4_reckonMeans 10 rfl) ?_
  obtain ⟨c2, h⟩ := mj_ck_some h
  obtain ⟨m3, em3, h⟩ := mj_mw_some h
  refine ml_cpyI hm_X4_64 (Nat.le_of_ble_eq_true rfl) c2 (mj_dt dt_X4_reckonMeans 11 rfl) ?_
  refine ml_eqm (M1 := (mj_fin m3)) (by rw [em3] <;> rfl) ?_
  refine mj_go_iconst (v := 0) rfl (mj_dt dt_X4_reckonMeans 12 rfl) ?_
  refine mj_go_istore_n (k := 1) (by decide) (mj_dt dt_X4_reckonMeans 13 rfl) ?_
  refine mj_go_sub (lv' := [(0, .ref 48), (1, .int 0)]) (List.forall_mem_cons.mpr ⟨rfl, (List.forall_mem_cons.mpr ⟨rfl, (fun _ h9 => absurd h9 List.not_mem_nil)⟩)⟩) ?_
  exact k_X4_reckonMeans_27 hδ N _ _ h
def f_X4_lossOfTurn_125 (N : Nat) (k_19 : Int32 × Int32 × Int32 × Int64 × Int32 → Option (Int64)) (v1 : Int32) (v2 : Int32) (v3 : Int32) (v4 : Int32) (v5 : Int64) (v7 : Int32) (m : mj_m) : Option (Int64) := mj_ck (mj_b 1 54 v4) ( mj_mw (v5 + (m.2 54 v4.toNatClampNeg)) (fun x2 => mj_mw (v7 + 1) (fun x3 => k_19 (v2, v3, v4, x2, x3))))
theorem k_X4_lossOfTurn_125 {L : Nat} {xs : Nat → Int32} {δ N : Nat} {v1 : Int32} {v2 : Int32} {v3 : Int32} {v4 : Int32} {v5 : Int64} {v7 : Int32} {m : mj_m} {k_19 : Int32 × Int32 × Int32 × Int64 × Int32 → Option (Int64)} (q_19 : ∀ (s_ : Int32 × Int32 × Int32 × Int64 × Int32) (a_ : Int64), k_19 s_ = some a_ → mj_Go (mj_EX L xs) δ mY_X4_lossOfTurn 19 [(0, .ref 48), (1, .int v1), (2, .int s_.1), (3, .int s_.2.1), (4, .int s_.2.2.1), (5, .long s_.2.2.2.1), (7, .int s_.2.2.2.2)] [] (mj_fin m) (some (.long a_), (mj_fin m))) {a : Int64} (h : f_X4_lossOfTurn_125 N k_19 v1 v2 v3 v4 v5 v7 m = some a) : mj_Go (mj_EX L xs) δ mY_X4_lossOfTurn 125 [(0, .ref 48), (1, .int v1), (2, .int v2), (3, .int v3), (4, .int v4), (5, .long v5), (7, .int v7)] [] (mj_fin m) (some (.long a), (mj_fin m)) := by
  unfold f_X4_lossOfTurn_125 at h
  refine mj_go_lload (i := 5) (x := v5) rfl (mj_dt dt_X4_lossOfTurn 71 rfl) ?_
  refine mj_go_aload_n (k := 0) (x := 48) rfl (mj_dt dt_X4_lossOfTurn 72 rfl) ?_
  refine ml_getR (c := 4) (k := 8) (q := 54) fd_4_8 rf_48_8 (Or.inl fl_X4_27) ho_48 (mj_dt dt_X4_lossOfTurn 73 rfl) ?_
  refine mj_go_iload (i := 4) (x := v4) rfl (mj_dt dt_X4_lossOfTurn 74 rfl) ?_
  obtain ⟨c1, h⟩ := mj_ck_some h
  refine mk_lald c1 (mj_dt dt_X4_lossOfTurn 75 rfl) ?_
  refine mj_go_ladd (mj_dt dt_X4_lossOfTurn 76 rfl) ?_
  obtain ⟨x2, ex2, h⟩ := mj_mw_some h
  refine ml_eql ex2 ?_
  refine mj_go_lstore (i := 5) (by decide) (mj_dt dt_X4_lossOfTurn 77 rfl) ?_
  obtain ⟨x3, ex3, h⟩ := mj_mw_some h
  refine mj_go_iinc (i := 7) (x := v7) (v := x3) rfl (by rw [ex3] <;> rfl) (by decide) (mj_dt dt_X4_lossOfTurn 78 rfl) ?_
  refine mj_go_goto (tgt := 19) rfl (mj_dt dt_X4_lossOfTurn 79 rfl) ?_
  refine mj_go_sub (lv' := [(0, .ref 48), (1, .int v1), (2, .int v2), (3, .int v3), (4, .int v4), (5, .long x2), (7, .int x3)]) (List.forall_mem_cons.mpr ⟨rfl, (List.forall_mem_cons.mpr ⟨rfl, (List.forall_mem_cons.mpr ⟨rfl, (List.forall_mem_cons.mpr ⟨rfl, (List.forall_mem_cons.mpr ⟨rfl, (List.forall_mem_cons.mpr ⟨rfl, (List.forall_mem_cons.mpr ⟨rfl, (fun _ h9 => absurd h9 List.not_mem_nil)⟩)⟩)⟩)⟩)⟩)⟩)⟩) ?_
  exact q_19 _ _ h
def f_X4_lossOfTurn_38 (N : Nat) (k_19 : Int32 × Int32 × Int32 × Int64 × Int32 → Option (Int64)) (v1 : Int32) (v5 : Int64) (v7 : Int32) (m : mj_m) (k_38 : Int32 × Int32 × Int32 × Int32 → Option (Int64)) (s : Int32 × Int32 × Int32 × Int32) : Option (Int64) := if (m.1 48 13) ≤ s.2.2.2 then f_X4_lossOfTurn_125 N k_19 v1 s.1 s.2.1 s.2.2.1 v5 v7 m else (mj_ck (mj_b 0 52 s.2.2.2) ( mj_ck (mj_b 0 51 (m.1 52 s.2.2.2.toNatClampNeg)) ( mj_ck (mj_b 2 4 (m.1 51 (m.1 52 s.2.2.2.toNatClampNeg).toNatClampNeg)) ( if s.1 < (m.1 (8 + (m.1 51 (m.1 52 s.2.2.2.toNatClampNeg).toNatClampNeg).toNatClampNeg) 4) then f_X4_lossOfTurn_125 N k_19 v1 s.1 s.2.1 s.2.2.1 v5 v7 m else (mj_mw (s.1 - (m.1 (8 + (m.1 51 (m.1 52 s.2.2.2.toNatClampNeg).toNatClampNeg).toNatClampNeg) 4)) (fun x6 => mj_mw (s.2.2.1 ||| (1 <<< ((m.1 52 s.2.2.2.toNatClampNeg) &&& 31))) (fun x7 => mj_mw (s.2.2.2 + 1) (fun x8 => mj_mw (s.2.2.2 + 1) (fun x9 => k_38 (x6, x8, x7, x9))))))))))
theorem k_X4_lossOfTurn_38 {L : Nat} {xs : Nat → Int32} {δ N : Nat} {v1 : Int32} {v5 : Int64} {v7 : Int32} {m : mj_m} {k_19 : Int32 × Int32 × Int32 × Int64 × Int32 → Option (Int64)} (q_19 : ∀ (s_ : Int32 × Int32 × Int32 × Int64 × Int32) (a_ : Int64), k_19 s_ = some a_ → mj_Go (mj_EX L xs) δ mY_X4_lossOfTurn 19 [(0, .ref 48), (1, .int v1), (2, .int s_.1), (3, .int s_.2.1), (4, .int s_.2.2.1), (5, .long s_.2.2.2.1), (7, .int s_.2.2.2.2)] [] (mj_fin m) (some (.long a_), (mj_fin m))) : ∀ (n : Nat) (s : Int32 × Int32 × Int32 × Int32) (a : Int64), mj_lp n (f_X4_lossOfTurn_38 N k_19 v1 v5 v7 m) s = some a → mj_Go (mj_EX L xs) δ mY_X4_lossOfTurn 38 [(0, .ref 48), (1, .int v1), (2, .int s.1), (3, .int s.2.1), (4, .int s.2.2.1), (5, .long v5), (7, .int v7), (8, .int s.2.2.2)] [] (mj_fin m) (some (.long a), (mj_fin m)) := by
  refine mj_lp_sound (fun k_38 s a q_38 h => ?_)
  unfold f_X4_lossOfTurn_38 at h
  refine mj_go_iload (i := 8) (x := s.2.2.2) rfl (mj_dt dt_X4_lossOfTurn 23 rfl) ?_
  refine mj_go_aload_n (k := 0) (x := 48) rfl (mj_dt dt_X4_lossOfTurn 24 rfl) ?_
  refine mk_getI (c := 4) (k := 13) (Or.inl fd_4_13) (Or.inl fl_X4_44) ho_48 (mj_dt dt_X4_lossOfTurn 25 rfl) ?_
  refine mj_go_icmp_ge (tgt := 125) rfl (mj_dt dt_X4_lossOfTurn 26 rfl) (fun b1 => ?_) (fun b1 => ?_)
  · rw [if_pos b1] at h
    refine mj_go_sub (lv' := [(0, .ref 48), (1, .int v1), (2, .int s.1), (3, .int s.2.1), (4, .int s.2.2.1), (5, .long v5), (7, .int v7)]) (List.forall_mem_cons.mpr ⟨rfl, (List.forall_mem_cons.mpr ⟨rfl, (List.forall_mem_cons.mpr ⟨rfl, (List.forall_mem_cons.mpr ⟨rfl, (List.forall_mem_cons.mpr ⟨rfl, (List.forall_mem_cons.mpr ⟨rfl, (List.forall_mem_cons.mpr ⟨rfl, (fun _ h9 => absurd h9 List.not_mem_nil)⟩)⟩)⟩)⟩)⟩)⟩)⟩) ?_
    exact k_X4_lossOfTurn_125 q_19 h
  · rw [if_neg b1] at h
    refine mj_go_iload_n (k := 2) (x := s.1) rfl (mj_dt dt_X4_lossOfTurn 27 rfl) ?_
    refine mj_go_aload_n (k := 0) (x := 48) rfl (mj_dt dt_X4_lossOfTurn 28 rfl) ?_
    refine ml_getR (c := 4) (k := 0) (q := 1) fd_4_0 rf_48_0 (Or.inl fl_X4_47) ho_48 (mj_dt dt_X4_lossOfTurn 29 rfl) ?_
    refine ml_getR (c := 7) (k := 2) (q := 4) fd_7_2 rf_1_2 (Or.inl fl_X4_86) ho_1 (mj_dt dt_X4_lossOfTurn 30 rfl) ?_
    refine mj_go_aload_n (k := 0) (x := 48) rfl (mj_dt dt_X4_lossOfTurn 31 rfl) ?_
    refine ml_getR (c := 4) (k := 5) (q := 51) fd_4_5 rf_48_5 (Or.inl fl_X4_18) ho_48 (mj_dt dt_X4_lossOfTurn 32 rfl) ?_
    refine mj_go_aload_n (k := 0) (x := 48) rfl (mj_dt dt_X4_lossOfTurn 33 rfl) ?_
    refine ml_getR (c := 4) (k := 6) (q := 52) fd_4_6 rf_48_6 (Or.inl fl_X4_21) ho_48 (mj_dt dt_X4_lossOfTurn 34 rfl) ?_
    refine mj_go_iload (i := 8) (x := s.2.2.2) rfl (mj_dt dt_X4_lossOfTurn 35 rfl) ?_
    obtain ⟨c2, h⟩ := mj_ck_some h
    refine mk_iald c2 (mj_dt dt_X4_lossOfTurn 36 rfl) ?_
    obtain ⟨c3, h⟩ := mj_ck_some h
    refine mk_iald c3 (mj_dt dt_X4_lossOfTurn 37 rfl) ?_
    obtain ⟨c4, h⟩ := mj_ck_some h
    refine ml_aald2 (q := 8 + (m.1 51 (m.1 52 s.2.2.2.toNatClampNeg).toNatClampNeg).toNatClampNeg) c4 (mj_hs4 c4).1 (mj_dt dt_X4_lossOfTurn 38 rfl) ?_
    refine mk_getI (c := 1) (k := 4) (Or.inl fd_1_4) (Or.inl fl_X4_90) (mj_hs4 c4).2 (mj_dt dt_X4_lossOfTurn 39 rfl) ?_
    refine mj_go_icmp_lt (tgt := 125) rfl (mj_dt dt_X4_lossOfTurn 40 rfl) (fun b5 => ?_) (fun b5 => ?_)
    · rw [if_pos b5] at h
      refine mj_go_sub (lv' := [(0, .ref 48), (1, .int v1), (2, .int s.1), (3, .int s.2.1), (4, .int s.2.2.1), (5, .long v5), (7, .int v7)]) (List.forall_mem_cons.mpr ⟨rfl, (List.forall_mem_cons.mpr ⟨rfl, (List.forall_mem_cons.mpr ⟨rfl, (List.forall_mem_cons.mpr ⟨rfl, (List.forall_mem_cons.mpr ⟨rfl, (List.forall_mem_cons.mpr ⟨rfl, (List.forall_mem_cons.mpr ⟨rfl, (fun _ h9 => absurd h9 List.not_mem_nil)⟩)⟩)⟩)⟩)⟩)⟩)⟩) ?_
      exact k_X4_lossOfTurn_125 q_19 h
    · rw [if_neg b5] at h
      refine mj_go_iload_n (k := 2) (x := s.1) rfl (mj_dt dt_X4_lossOfTurn 41 rfl) ?_
      refine mj_go_aload_n (k := 0) (x := 48) rfl (mj_dt dt_X4_lossOfTurn 42 rfl) ?_
      refine ml_getR (c := 4) (k := 0) (q := 1) fd_4_0 rf_48_0 (Or.inl fl_X4_47) ho_48 (mj_dt dt_X4_lossOfTurn 43 rfl) ?_
      refine ml_getR (c := 7) (k := 2) (q := 4) fd_7_2 rf_1_2 (Or.inl fl_X4_86) ho_1 (mj_dt dt_X4_lossOfTurn 44 rfl) ?_
      refine mj_go_aload_n (k := 0) (x := 48) rfl (mj_dt dt_X4_lossOfTurn 45 rfl) ?_
      refine ml_getR (c := 4) (k := 5) (q := 51) fd_4_5 rf_48_5 (Or.inl fl_X4_18) ho_48 (mj_dt dt_X4_lossOfTurn 46 rfl) ?_
      refine mj_go_aload_n (k := 0) (x := 48) rfl (mj_dt dt_X4_lossOfTurn 47 rfl) ?_
      refine ml_getR (c := 4) (k := 6) (q := 52) fd_4_6 rf_48_6 (Or.inl fl_X4_21) ho_48 (mj_dt dt_X4_lossOfTurn 48 rfl) ?_
      refine mj_go_iload (i := 8) (x := s.2.2.2) rfl (mj_dt dt_X4_lossOfTurn 49 rfl) ?_
      refine mk_iald c2 (mj_dt dt_X4_lossOfTurn 50 rfl) ?_
      refine mk_iald c3 (mj_dt dt_X4_lossOfTurn 51 rfl) ?_
      refine ml_aald2 (q := 8 + (m.1 51 (m.1 52 s.2.2.2.toNatClampNeg).toNatClampNeg).toNatClampNeg) c4 (mj_hs4 c4).1 (mj_dt dt_X4_lossOfTurn 52 rfl) ?_
      refine mk_getI (c := 1) (k := 4) (Or.inl fd_1_4) (Or.inl fl_X4_90) (mj_hs4 c4).2 (mj_dt dt_X4_lossOfTurn 53 rfl) ?_
      refine mj_go_isub (mj_dt dt_X4_lossOfTurn 54 rfl) ?_
      obtain ⟨x6, ex6, h⟩ := mj_mw_some h
      refine ml_eqi ex6 ?_
      refine mj_go_istore_n (k := 2) (by decide) (mj_dt dt_X4_lossOfTurn 55 rfl) ?_
      refine mj_go_iload (i := 4) (x := s.2.2.1) rfl (mj_dt dt_X4_lossOfTurn 56 rfl) ?_
      refine mj_go_iconst (v := 1) rfl (mj_dt dt_X4_lossOfTurn 57 rfl) ?_
      refine mj_go_aload_n (k := 0) (x := 48) rfl (mj_dt dt_X4_lossOfTurn 58 rfl) ?_
      refine ml_getR (c := 4) (k := 6) (q := 52) fd_4_6 rf_48_6 (Or.inl fl_X4_21) ho_48 (mj_dt dt_X4_lossOfTurn 59 rfl) ?_
      refine mj_go_iload (i := 8) (x := s.2.2.2) rfl (mj_dt dt_X4_lossOfTurn 60 rfl) ?_
      refine mk_iald c2 (mj_dt dt_X4_lossOfTurn 61 rfl) ?_
      refine mj_go_ishl (mj_dt dt_X4_lossOfTurn 62 rfl) ?_
      refine mj_go_ior (mj_dt dt_X4_lossOfTurn 63 rfl) ?_
      obtain ⟨x7, ex7, h⟩ := mj_mw_some h
      refine ml_eqi ex7 ?_
      refine mj_go_istore (i := 4) (by decide) (mj_dt dt_X4_lossOfTurn 64 rfl) ?_
      refine mj_go_iload (i := 8) (x := s.2.2.2) rfl (mj_dt dt_X4_lossOfTurn 65 rfl) ?_
      refine mj_go_iconst (v := 1) rfl (mj_dt dt_X4_lossOfTurn 66 rfl) ?_
      refine mj_go_iadd (mj_dt dt_X4_lossOfTurn 67 rfl) ?_
      obtain ⟨x8, ex8, h⟩ := mj_mw_some h
      refine ml_eqi ex8 ?_
      refine mj_go_istore_n (k := 3) (by decide) (mj_dt dt_X4_lossOfTurn 68 rfl) ?_
      obtain ⟨x9, ex9, h⟩ := mj_mw_some h
      refine mj_go_iinc (i := 8) (x := s.2.2.2) (v := x9) rfl (by rw [ex9] <;> rfl) (by decide) (mj_dt dt_X4_lossOfTurn 69 rfl) ?_
      refine mj_go_goto (tgt := 38) rfl (mj_dt dt_X4_lossOfTurn 70 rfl) ?_
      refine mj_go_sub (lv' := [(0, .ref 48), (1, .int v1), (2, .int x6), (3, .int x8), (4, .int x7), (5, .long v5), (7, .int v7), (8, .int x9)]) (List.forall_mem_cons.mpr ⟨rfl, (List.forall_mem_cons.mpr ⟨rfl, (List.forall_mem_cons.mpr ⟨rfl, (List.forall_mem_cons.mpr ⟨rfl, (List.forall_mem_cons.mpr ⟨rfl, (List.forall_mem_cons.mpr ⟨rfl, (List.forall_mem_cons.mpr ⟨rfl, (List.forall_mem_cons.mpr ⟨rfl, (fun _ h9 => absurd h9 List.not_mem_nil)⟩)⟩)⟩)⟩)⟩)⟩)⟩)⟩) ?_
      exact q_38 _ _ h
def f_X4_lossOfTurn_19 (N : Nat) (v1 : Int32) (m : mj_m) (k_19 : Int32 × Int32 × Int32 × Int64 × Int32 → Option (Int64)) (s : Int32 × Int32 × Int32 × Int64 × Int32) : Option (Int64) := if v1 ≤ s.2.2.2.2 then (some s.2.2.2.1) else (mj_mw (s.1 + (m.1 1 9)) (fun x2 => mj_lp N (f_X4_lossOfTurn_38 N k_19 v1 s.2.2.2.1 s.2.2.2.2 m) (x2, s.2.1, s.2.2.1, s.2.1)))
theorem k_X4_lossOfTurn_19 {L : Nat} {xs : Nat → Int32} {δ N : Nat} {v1 : Int32} {m : mj_m} : ∀ (n : Nat) (s : Int32 × Int32 × Int32 × Int64 × Int32) (a : Int64), mj_lp n (f_X4_lossOfTurn_19 N v1 m) s = some a → mj_Go (mj_EX L xs) δ mY_X4_lossOfTurn 19 [(0, .ref 48), (1, .int v1), (2, .int s.1), (3, .int s.2.1), (4, .int s.2.2.1), (5, .long s.2.2.2.1), (7, .int s.2.2.2.2)] [] (mj_fin m) (some (.long a), (mj_fin m)) := by
  refine mj_lp_sound (fun k_19 s a q_19 h => ?_)
  unfold f_X4_lossOfTurn_19 at h
  refine mj_go_iload (i := 7) (x := s.2.2.2.2) rfl (mj_dt dt_X4_lossOfTurn 12 rfl) ?_
  refine mj_go_iload_n (k := 1) (x := v1) rfl (mj_dt dt_X4_lossOfTurn 13 rfl) ?_
  refine mj_go_icmp_ge (tgt := 143) rfl (mj_dt dt_X4_lossOfTurn 14 rfl) (fun b1 => ?_) (fun b1 => ?_)
  · rw [if_pos b1] at h
    refine mj_go_lload (i := 5) (x := s.2.2.2.1) rfl (mj_dt dt_X4_lossOfTurn 80 rfl) ?_
    obtain rfl := Option.some.inj h
    exact mj_go_ret (v := some (.long s.2.2.2.1)) (Nat.le_of_ble_eq_true rfl) (mj_retL (mj_dt dt_X4_lossOfTurn 81 rfl) rfl)
  · rw [if_neg b1] at h
    refine mj_go_iload_n (k := 2) (x := s.1) rfl (mj_dt dt_X4_lossOfTurn 15 rfl) ?_
    refine mj_go_aload_n (k := 0) (x := 48) rfl (mj_dt dt_X4_lossOfTurn 16 rfl) ?_
    refine ml_getR (c := 4) (k := 0) (q := 1) fd_4_0 rf_48_0 (Or.inl fl_X4_47) ho_48 (mj_dt dt_X4_lossOfTurn 17 rfl) ?_
    refine mk_getI (c := 7) (k := 9) (Or.inl fd_7_9) (Or.inl fl_X4_131) ho_1 (mj_dt dt_X4_lossOfTurn 18 rfl) ?_
    refine mj_go_iadd (mj_dt dt_X4_lossOfTurn 19 rfl) ?_
    obtain ⟨x2, ex2, h⟩ := mj_mw_some h
    refine ml_eqi ex2 ?_
    refine mj_go_istore_n (k := 2) (by decide) (mj_dt dt_X4_lossOfTurn 20 rfl) ?_
    refine mj_go_iload_n (k := 3) (x := s.2.1) rfl (mj_dt dt_X4_lossOfTurn 21 rfl) ?_
    refine mj_go_istore (i := 8) (by decide) (mj_dt dt_X4_lossOfTurn 22 rfl) ?_
    refine mj_go_sub (lv' := [(0, .ref 48), (1, .int v1), (2, .int x2), (3, .int s.2.1), (4, .int s.2.2.1), (5, .long s.2.2.2.1), (7, .int s.2.2.2.2), (8, .int s.2.1)]) (List.forall_mem_cons.mpr ⟨rfl, (List.forall_mem_cons.mpr ⟨rfl, (List.forall_mem_cons.mpr ⟨rfl, (List.forall_mem_cons.mpr ⟨rfl, (List.forall_mem_cons.mpr ⟨rfl, (List.forall_mem_cons.mpr ⟨rfl, (List.forall_mem_cons.mpr ⟨rfl, (List.forall_mem_cons.mpr ⟨rfl, (fun _ h9 => absurd h9 List.not_mem_nil)⟩)⟩)⟩)⟩)⟩)⟩)⟩)⟩) ?_
    exact k_X4_lossOfTurn_38 q_19 N _ _ h
def f_X4_lossOfTurn (N : Nat) (v1 : Int32) (m : mj_m) : Option (Int64) := mj_mw (m.1 1 12) (fun x1 => mj_lp N (f_X4_lossOfTurn_19 N v1 m) (x1, 0, 0, 0, 0))
theorem k_X4_lossOfTurn {L : Nat} {xs : Nat → Int32} {δ N : Nat} {v1 : Int32} {m : mj_m} (_ : 0 ≤ δ) {a : Int64} (h : f_X4_lossOfTurn N v1 m = some a) : mj_Cl (mj_EX L xs) δ mY_X4_lossOfTurn [.ref 48, .int v1] (mj_fin m) (some (.long a), (mj_fin m)) := by
  refine mj_cl_of ok_X4_lossOfTurn (Nat.le_of_ble_eq_true rfl) ?_
  unfold f_X4_lossOfTurn at h
  refine mj_go_aload_n (k := 0) (x := 48) rfl (mj_dt dt_X4_lossOfTurn 0 rfl) ?_
  refine ml_getR (c := 4) (k := 0) (q := 1) fd_4_0 rf_48_0 (Or.inl fl_X4_47) ho_48 (mj_dt dt_X4_lossOfTurn 1 rfl) ?_
  refine mk_getI (c := 7) (k := 12) (Or.inl fd_7_12) (Or.inl fl_X4_130) ho_1 (mj_dt dt_X4_lossOfTurn 2 rfl) ?_
  obtain ⟨x1, ex1, h⟩ := mj_mw_some h
  refine ml_eqi ex1 ?_
  refine mj_go_istore_n (k := 2) (by decide) (mj_dt dt_X4_lossOfTurn 3 rfl) ?_
  refine mj_go_iconst (v := 0) rfl (mj_dt dt_X4_lossOfTurn 4 rfl) ?_
  refine mj_go_istore_n (k := 3) (by decide) (mj_dt dt_X4_lossOfTurn 5 rfl) ?_
  refine mj_go_iconst (v := 0) rfl (mj_dt dt_X4_lossOfTurn 6 rfl) ?_
  refine mj_go_istore (i := 4) (by decide) (mj_dt dt_X4_lossOfTurn 7 rfl) ?_
  refine mj_go_lconst (v := 0) rfl (mj_dt dt_X4_lossOfTurn 8 rfl) ?_
  refine mj_go_lstore (i := 5) (by decide) (mj_dt dt_X4_lossOfTurn 9 rfl) ?_
  refine mj_go_iconst (v := 0) rfl (mj_dt dt_X4_lossOfTurn 10 rfl) ?_
  refine mj_go_istore (i := 7) (by decide) (mj_dt dt_X4_lossOfTurn 11 rfl) ?_
  refine mj_go_sub (lv' := [(0, .ref 48), (1, .int v1), (2, .int x1), (3, .int 0), (4, .int 0), (5, .long 0), (7, .int 0)]) (List.forall_mem_cons.mpr ⟨rfl, (List.forall_mem_cons.mpr ⟨rfl, (List.forall_mem_cons.mpr ⟨rfl, (List.forall_mem_cons.mpr ⟨rfl, (List.forall_mem_cons.mpr ⟨rfl, (List.forall_mem_cons.mpr ⟨rfl, (List.forall_mem_cons.mpr ⟨rfl, (fun _ h9 => absurd h9 List.not_mem_nil)⟩)⟩)⟩)⟩)⟩)⟩)⟩) ?_
  exact k_X4_lossOfTurn_19 N _ _ h
def f_X4_swapTurns (N : Nat) (v1 : Int32) (v2 : Int32) (m : mj_m) : Option (mj_m) := mj_ck (mj_b 0 52 v1) ( mj_mw (m.1 52 v1.toNatClampNeg) (fun x2 => mj_ck (mj_b 0 52 v2) ( mj_mw (mj_wI m 52 (v1.toNatClampNeg) (m.1 52 v2.toNatClampNeg)) (fun m4 => mj_mw (mj_wI m4 52 (v2.toNatClampNeg) x2) (fun m5 => some m5)))))
theorem k_X4_swapTurns {L : Nat} {xs : Nat → Int32} {δ N : Nat} {v1 : Int32} {v2 : Int32} {m : mj_m} (_ : 0 ≤ δ) {a : mj_m} (h : f_X4_swapTurns N v1 v2 m = some a) : mj_Cl (mj_EX L xs) δ mY_X4_swapTurns [.ref 48, .int v1, .int v2] (mj_fin m) (none, (mj_fin a)) := by
  refine mj_cl_of ok_X4_swapTurns (Nat.le_of_ble_eq_true rfl) ?_
  unfold f_X4_swapTurns at h
  refine mj_go_aload_n (k := 0) (x := 48) rfl (mj_dt dt_X4_swapTurns 0 rfl) ?_
  refine ml_getR (c := 4) (k := 6) (q := 52) fd_4_6 rf_48_6 (Or.inl fl_X4_21) ho_48 (mj_dt dt_X4_swapTurns 1 rfl) ?_
  refine mj_go_iload_n (k := 1) (x := v1) rfl (mj_dt dt_X4_swapTurns 2 rfl) ?_
  obtain ⟨c1, h⟩ := mj_ck_some h
  refine mk_iald c1 (mj_dt dt_X4_swapTurns 3 rfl) ?_
  obtain ⟨x2, ex2, h⟩ := mj_mw_some h
  refine ml_eqi ex2 ?_
  refine mj_go_istore_n (k := 3) (by decide) (mj_dt dt_X4_swapTurns 4 rfl) ?_
  refine mj_go_aload_n (k := 0) (x := 48) rfl (mj_dt dt_X4_swapTurns 5 rfl) ?_
  refine ml_getR (c := 4) (k := 6) (q := 52) fd_4_6 rf_48_6 (Or.inl fl_X4_21) ho_48 (mj_dt dt_X4_swapTurns 6 rfl) ?_
  refine mj_go_iload_n (k := 1) (x := v1) rfl (mj_dt dt_X4_swapTurns 7 rfl) ?_
  refine mj_go_aload_n (k := 0) (x := 48) rfl (mj_dt dt_X4_swapTurns 8 rfl) ?_
  refine ml_getR (c := 4) (k := 6) (q := 52) fd_4_6 rf_48_6 (Or.inl fl_X4_21) ho_48 (mj_dt dt_X4_swapTurns 9 rfl) ?_
  refine mj_go_iload_n (k := 2) (x := v2) rfl (mj_dt dt_X4_swapTurns 10 rfl) ?_
  obtain ⟨c3, h⟩ := mj_ck_some h
  refine mk_iald c3 (mj_dt dt_X4_swapTurns 11 rfl) ?_
  obtain ⟨m4, em4, h⟩ := mj_mw_some h
  refine ml_iast c1 (mj_dt dt_X4_swapTurns 12 rfl) ?_
  refine ml_eqm (M1 := (mj_fin m4)) (by rw [em4] <;> rfl) ?_
  refine mj_go_aload_n (k := 0) (x := 48) rfl (mj_dt dt_X4_swapTurns 13 rfl) ?_
  refine ml_getR (c := 4) (k := 6) (q := 52) fd_4_6 rf_48_6 (Or.inl fl_X4_21) ho_48 (mj_dt dt_X4_swapTurns 14 rfl) ?_
  refine mj_go_iload_n (k := 2) (x := v2) rfl (mj_dt dt_X4_swapTurns 15 rfl) ?_
  refine mj_go_iload_n (k := 3) (x := x2) rfl (mj_dt dt_X4_swapTurns 16 rfl) ?_
  obtain ⟨m5, em5, h⟩ := mj_mw_some h
  refine ml_iast c3 (mj_dt dt_X4_swapTurns 17 rfl) ?_
  refine ml_eqm (M1 := (mj_fin m5)) (by rw [em5] <;> rfl) ?_
  obtain rfl := Option.some.inj h
  exact mj_go_ret (v := none) (Nat.le_of_ble_eq_true rfl) (mj_retV (mj_dt dt_X4_swapTurns 18 rfl) rfl)
def f_X4_nextTurn_103 (N : Nat) (k_103 : Int32 × Int32 × mj_m → Option (Int32 × mj_m)) (s : Int32 × Int32 × mj_m) : Option (Int32 × mj_m) := if s.2.1 ≤ s.1 then (some (1, s.2.2)) else ((f_X4_swapTurns N s.1 s.2.1 s.2.2).bind (fun r2 => mj_mw (s.1 + 1) (fun x3 => mj_mw (s.2.1 + (-1 : Int32)) (fun x4 => k_103 (x3, x4, r2)))))
theorem k_X4_nextTurn_103 {L : Nat} {xs : Nat → Int32} {δ N : Nat} (hδ : 0 ≤ δ) : ∀ (n : Nat) (s : Int32 × Int32 × mj_m) (a : Int32 × mj_m), mj_lp n (f_X4_nextTurn_103 N) s = some a → mj_Go (mj_EX L xs) (δ + 1) mY_X4_nextTurn 103 [(0, .ref 48), (3, .int s.1), (4, .int s.2.1)] [] (mj_fin s.2.2) (some (.int a.1), (mj_fin a.2)) := by
  refine mj_lp_sound (fun k_103 s a q_103 h => ?_)
  unfold f_X4_nextTurn_103 at h
  refine mj_go_iload_n (k := 3) (x := s.1) rfl (mj_dt dt_X4_nextTurn 68 rfl) ?_
  refine mj_go_iload (i := 4) (x := s.2.1) rfl (mj_dt dt_X4_nextTurn 69 rfl) ?_
  refine mj_go_icmp_ge (tgt := 125) rfl (mj_dt dt_X4_nextTurn 70 rfl) (fun b1 => ?_) (fun b1 => ?_)
  · rw [if_pos b1] at h
    refine mj_go_iconst (v := 1) rfl (mj_dt dt_X4_nextTurn 78 rfl) ?_
    obtain rfl := Option.some.inj h
    exact mj_go_ret (v := some (.int 1)) (Nat.le_of_ble_eq_true rfl) (mj_retZ (mj_dt dt_X4_nextTurn 79 rfl) rfl rfl)
  · rw [if_neg b1] at h
    refine mj_go_aload_n (k := 0) (x := 48) rfl (mj_dt dt_X4_nextTurn 71 rfl) ?_
    refine mj_go_iload_n (k := 3) (x := s.1) rfl (mj_dt dt_X4_nextTurn 72 rfl) ?_
    refine mj_go_iload (i := 4) (x := s.2.1) rfl (mj_dt dt_X4_nextTurn 73 rfl) ?_
    obtain ⟨r2, er2, h⟩ := mj_bind_some h
    refine ml_callV (Y' := mY_X4_swapTurns) (as := [.int s.1, .int s.2.1]) (rest := []) (c := 4) (v := none) (M1 := (mj_fin r2)) ho_48 rfl lm_X4_147 wc_X4_swapTurns pl_X4_swapTurns ok_X4_swapTurns rfl rfl (Nat.le_of_ble_eq_true rfl) (k_X4_swapTurns (by omega) er2) (mj_dt dt_X4_nextTurn 74 rfl) ?_
    obtain ⟨x3, ex3, h⟩ := mj_mw_some h
    refine mj_go_iinc (i := 3) (x := s.1) (v := x3) rfl (by rw [ex3] <;> rfl) (by decide) (mj_dt dt_X4_nextTurn 75 rfl) ?_
    obtain ⟨x4, ex4, h⟩ := mj_mw_some h
    refine mj_go_iinc (i := 4) (x := s.2.1) (v := x4) rfl (by rw [ex4] <;> rfl) (by decide) (mj_dt dt_X4_nextTurn 76 rfl) ?_
    refine mj_go_goto (tgt := 103) rfl (mj_dt dt_X4_nextTurn 77 rfl) ?_
    refine mj_go_sub (lv' := [(0, .ref 48), (3, .int x3), (4, .int x4)]) (List.forall_mem_cons.mpr ⟨rfl, (List.forall_mem_cons.mpr ⟨rfl, (List.forall_mem_cons.mpr ⟨rfl, (fun _ h9 => absurd h9 List.not_mem_nil)⟩)⟩)⟩) ?_
    exact q_103 _ _ h
def f_X4_nextTurn_79 (N : Nat) (k_54 : Int32 × Int32 → Option (Int32 × mj_m)) (v1 : Int32) (v2 : Int32) (v3 : Int32) (m : mj_m) : Option (Int32 × mj_m) := mj_mw (v3 + 1) (fun x1 => k_54 (v2, x1))
theorem k_X4_nextTurn_79 {L : Nat} {xs : Nat → Int32} {δ N : Nat} {v1 : Int32} {v2 : Int32} {v3 : Int32} {m : mj_m} {k_54 : Int32 × Int32 → Option (Int32 × mj_m)} (q_54 : ∀ (s_ : Int32 × Int32) (a_ : Int32 × mj_m), k_54 s_ = some a_ → mj_Go (mj_EX L xs) (δ + 1) mY_X4_nextTurn 54 [(0, .ref 48), (1, .int v1), (2, .int s_.1), (3, .int s_.2)] [] (mj_fin m) (some (.int a_.1), (mj_fin a_.2))) (hδ : 0 ≤ δ) {a : Int32 × mj_m} (h : f_X4_nextTurn_79 N k_54 v1 v2 v3 m = some a) : mj_Go (mj_EX L xs) (δ + 1) mY_X4_nextTurn 79 [(0, .ref 48), (1, .int v1), (2, .int v2), (3, .int v3)] [] (mj_fin m) (some (.int a.1), (mj_fin a.2)) := by
  unfold f_X4_nextTurn_79 at h
  obtain ⟨x1, ex1, h⟩ := mj_mw_some h
  refine mj_go_iinc (i := 3) (x := v3) (v := x1) rfl (by rw [ex1] <;> rfl) (by decide) (mj_dt dt_X4_nextTurn 53 rfl) ?_
  refine mj_go_goto (tgt := 54) rfl (mj_dt dt_X4_nextTurn 54 rfl) ?_
  refine mj_go_sub (lv' := [(0, .ref 48), (1, .int v1), (2, .int v2), (3, .int x1)]) (List.forall_mem_cons.mpr ⟨rfl, (List.forall_mem_cons.mpr ⟨rfl, (List.forall_mem_cons.mpr ⟨rfl, (List.forall_mem_cons.mpr ⟨rfl, (fun _ h9 => absurd h9 List.not_mem_nil)⟩)⟩)⟩)⟩) ?_
  exact q_54 _ _ h
def f_X4_nextTurn_54 (N : Nat) (v1 : Int32) (m : mj_m) (k_54 : Int32 × Int32 → Option (Int32 × mj_m)) (s : Int32 × Int32) : Option (Int32 × mj_m) := if (m.1 48 13) ≤ s.2 then ((f_X4_swapTurns N v1 s.1 m).bind (fun r2 => mj_mw (v1 + 1) (fun x3 => mj_mw ((r2.1 48 13) - 1) (fun x4 => mj_lp N (f_X4_nextTurn_103 N) (x3, x4, r2))))) else (mj_ck (mj_b 0 52 s.2) ( mj_ck (mj_b 0 52 v1) ( if (m.1 52 s.2.toNatClampNeg) ≤ (m.1 52 v1.toNatClampNeg) then f_X4_nextTurn_79 N k_54 v1 s.1 s.2 m else (f_X4_nextTurn_79 N k_54 v1 s.2 s.2 m))))
theorem k_X4_nextTurn_54 {L : Nat} {xs : Nat → Int32} {δ N : Nat} {v1 : Int32} {m : mj_m} (hδ : 0 ≤ δ) : ∀ (n : Nat) (s : Int32 × Int32) (a : Int32 × mj_m), mj_lp n (f_X4_nextTurn_54 N v1 m) s = some a → mj_Go (mj_EX L xs) (δ + 1) mY_X4_nextTurn 54 [(0, .ref 48), (1, .int v1), (2, .int s.1), (3, .int s.2)] [] (mj_fin m) (some (.int a.1), (mj_fin a.2)) := by
  refine mj_lp_sound (fun k_54 s a q_54 h => ?_)
  unfold f_X4_nextTurn_54 at h
  refine mj_go_iload_n (k := 3) (x := s.2) rfl (mj_dt dt_X4_nextTurn 38 rfl) ?_
  refine mj_go_aload_n (k := 0) (x := 48) rfl (mj_dt dt_X4_nextTurn 39 rfl) ?_
  refine mk_getI (c := 4) (k := 13) (Or.inl fd_4_13) (Or.inl fl_X4_44) ho_48 (mj_dt dt_X4_nextTurn 40 rfl) ?_
  refine mj_go_icmp_ge (tgt := 85) rfl (mj_dt dt_X4_nextTurn 41 rfl) (fun b1 => ?_) (fun b1 => ?_)
  · rw [if_pos b1] at h
    refine mj_go_aload_n (k := 0) (x := 48) rfl (mj_dt dt_X4_nextTurn 55 rfl) ?_
    refine mj_go_iload_n (k := 1) (x := v1) rfl (mj_dt dt_X4_nextTurn 56 rfl) ?_
    refine mj_go_iload_n (k := 2) (x := s.1) rfl (mj_dt dt_X4_nextTurn 57 rfl) ?_
    obtain ⟨r2, er2, h⟩ := mj_bind_some h
    refine ml_callV (Y' := mY_X4_swapTurns) (as := [.int v1, .int s.1]) (rest := []) (c := 4) (v := none) (M1 := (mj_fin r2)) ho_48 rfl lm_X4_147 wc_X4_swapTurns pl_X4_swapTurns ok_X4_swapTurns rfl rfl (Nat.le_of_ble_eq_true rfl) (k_X4_swapTurns (by omega) er2) (mj_dt dt_X4_nextTurn 58 rfl) ?_
    refine mj_go_iload_n (k := 1) (x := v1) rfl (mj_dt dt_X4_nextTurn 59 rfl) ?_
    refine mj_go_iconst (v := 1) rfl (mj_dt dt_X4_nextTurn 60 rfl) ?_
    refine mj_go_iadd (mj_dt dt_X4_nextTurn 61 rfl) ?_
    obtain ⟨x3, ex3, h⟩ := mj_mw_some h
    refine ml_eqi ex3 ?_
    refine mj_go_istore_n (k := 3) (by decide) (mj_dt dt_X4_nextTurn 62 rfl) ?_
    refine mj_go_aload_n (k := 0) (x := 48) rfl (mj_dt dt_X4_nextTurn 63 rfl) ?_
    refine mk_getI (c := 4) (k := 13) (Or.inl fd_4_13) (Or.inl fl_X4_44) ho_48 (mj_dt dt_X4_nextTurn 64 rfl) ?_
    refine mj_go_iconst (v := 1) rfl (mj_dt dt_X4_nextTurn 65 rfl) ?_
    refine mj_go_isub (mj_dt dt_X4_nextTurn 66 rfl) ?_
    obtain ⟨x4, ex4, h⟩ := mj_mw_some h
    refine ml_eqi ex4 ?_
    refine mj_go_istore (i := 4) (by decide) (mj_dt dt_X4_nextTurn 67 rfl) ?_
    refine mj_go_sub (lv' := [(0, .ref 48), (3, .int x3), (4, .int x4)]) (List.forall_mem_cons.mpr ⟨rfl, (List.forall_mem_cons.mpr ⟨rfl, (List.forall_mem_cons.mpr ⟨rfl, (fun _ h9 => absurd h9 List.not_mem_nil)⟩)⟩)⟩) ?_
    exact k_X4_nextTurn_103 hδ N _ _ h
  · rw [if_neg b1] at h
    refine mj_go_aload_n (k := 0) (x := 48) rfl (mj_dt dt_X4_nextTurn 42 rfl) ?_
    refine ml_getR (c := 4) (k := 6) (q := 52) fd_4_6 rf_48_6 (Or.inl fl_X4_21) ho_48 (mj_dt dt_X4_nextTurn 43 rfl) ?_
    refine mj_go_iload_n (k := 3) (x := s.2) rfl (mj_dt dt_X4_nextTurn 44 rfl) ?_
    obtain ⟨c2, h⟩ := mj_ck_some h
    refine mk_iald c2 (mj_dt dt_X4_nextTurn 45 rfl) ?_
    refine mj_go_aload_n (k := 0) (x := 48) rfl (mj_dt dt_X4_nextTurn 46 rfl) ?_
    refine ml_getR (c := 4) (k := 6) (q := 52) fd_4_6 rf_48_6 (Or.inl fl_X4_21) ho_48 (mj_dt dt_X4_nextTurn 47 rfl) ?_
    refine mj_go_iload_n (k := 1) (x := v1) rfl (mj_dt dt_X4_nextTurn 48 rfl) ?_
    obtain ⟨c3, h⟩ := mj_ck_some h
    refine mk_iald c3 (mj_dt dt_X4_nextTurn 49 rfl) ?_
    refine mj_go_icmp_le (tgt := 79) rfl (mj_dt dt_X4_nextTurn 50 rfl) (fun b4 => ?_) (fun b4 => ?_)
    · rw [if_pos b4] at h
      refine mj_go_sub (lv' := [(0, .ref 48), (1, .int v1), (2, .int s.1), (3, .int s.2)]) (List.forall_mem_cons.mpr ⟨rfl, (List.forall_mem_cons.mpr ⟨rfl, (List.forall_mem_cons.mpr ⟨rfl, (List.forall_mem_cons.mpr ⟨rfl, (fun _ h9 => absurd h9 List.not_mem_nil)⟩)⟩)⟩)⟩) ?_
      exact k_X4_nextTurn_79 q_54 hδ h
    · rw [if_neg b4] at h
      refine mj_go_iload_n (k := 3) (x := s.2) rfl (mj_dt dt_X4_nextTurn 51 rfl) ?_
      refine mj_go_istore_n (k := 2) (by decide) (mj_dt dt_X4_nextTurn 52 rfl) ?_
      refine mj_go_sub (lv' := [(0, .ref 48), (1, .int v1), (2, .int s.2), (3, .int s.2)]) (List.forall_mem_cons.mpr ⟨rfl, (List.forall_mem_cons.mpr ⟨rfl, (List.forall_mem_cons.mpr ⟨rfl, (List.forall_mem_cons.mpr ⟨rfl, (fun _ h9 => absurd h9 List.not_mem_nil)⟩)⟩)⟩)⟩) ?_
      exact k_X4_nextTurn_79 q_54 hδ h
def f_X4_nextTurn_33 (N : Nat) (k_4 : Int32 × Int32 → Option (Int32 × mj_m)) (v1 : Int32) (v2 : Int32) (m : mj_m) : Option (Int32 × mj_m) := mj_mw (v2 + 1) (fun x1 => k_4 (v1, x1))
theorem k_X4_nextTurn_33 {L : Nat} {xs : Nat → Int32} {δ N : Nat} {v1 : Int32} {v2 : Int32} {m : mj_m} {k_4 : Int32 × Int32 → Option (Int32 × mj_m)} (q_4 : ∀ (s_ : Int32 × Int32) (a_ : Int32 × mj_m), k_4 s_ = some a_ → mj_Go (mj_EX L xs) (δ + 1) mY_X4_nextTurn 4 [(0, .ref 48), (1, .int s_.1), (2, .int s_.2)] [] (mj_fin m) (some (.int a_.1), (mj_fin a_.2))) (hδ : 0 ≤ δ) {a : Int32 × mj_m} (h : f_X4_nextTurn_33 N k_4 v1 v2 m = some a) : mj_Go (mj_EX L xs) (δ + 1) mY_X4_nextTurn 33 [(0, .ref 48), (1, .int v1), (2, .int v2)] [] (mj_fin m) (some (.int a.1), (mj_fin a.2)) := by
  unfold f_X4_nextTurn_33 at h
  obtain ⟨x1, ex1, h⟩ := mj_mw_some h
  refine mj_go_iinc (i := 2) (x := v2) (v := x1) rfl (by rw [ex1] <;> rfl) (by decide) (mj_dt dt_X4_nextTurn 23 rfl) ?_
  refine mj_go_goto (tgt := 4) rfl (mj_dt dt_X4_nextTurn 24 rfl) ?_
  refine mj_go_sub (lv' := [(0, .ref 48), (1, .int v1), (2, .int x1)]) (List.forall_mem_cons.mpr ⟨rfl, (List.forall_mem_cons.mpr ⟨rfl, (List.forall_mem_cons.mpr ⟨rfl, (fun _ h9 => absurd h9 List.not_mem_nil)⟩)⟩)⟩) ?_
  exact q_4 _ _ h
def f_X4_nextTurn_4 (N : Nat) (m : mj_m) (k_4 : Int32 × Int32 → Option (Int32 × mj_m)) (s : Int32 × Int32) : Option (Int32 × mj_m) := if (m.1 48 13) ≤ (s.2 + 1) then (if s.1 = (-1 : Int32) then (some (0, m)) else (mj_mw (s.1 + 1) (fun x3 => mj_mw (s.1 + 1) (fun x4 => mj_lp N (f_X4_nextTurn_54 N s.1 m) (x3, x4))))) else (mj_ck (mj_b 0 52 s.2) ( mj_ck (mj_b 0 52 (s.2 + 1)) ( if (m.1 52 (s.2 + 1).toNatClampNeg) ≤ (m.1 52 s.2.toNatClampNeg) then f_X4_nextTurn_33 N k_4 s.1 s.2 m else (f_X4_nextTurn_33 N k_4 s.2 s.2 m))))
theorem k_X4_nextTurn_4 {L : Nat} {xs : Nat → Int32} {δ N : Nat} {m : mj_m} (hδ : 0 ≤ δ) : ∀ (n : Nat) (s : Int32 × Int32) (a : Int32 × mj_m), mj_lp n (f_X4_nextTurn_4 N m) s = some a → mj_Go (mj_EX L xs) (δ + 1) mY_X4_nextTurn 4 [(0, .ref 48), (1, .int s.1), (2, .int s.2)] [] (mj_fin m) (some (.int a.1), (mj_fin a.2)) := by
  refine mj_lp_sound (fun k_4 s a q_4 h => ?_)
  unfold f_X4_nextTurn_4 at h
  refine mj_go_iload_n (k := 2) (x := s.2) rfl (mj_dt dt_X4_nextTurn 4 rfl) ?_
  refine mj_go_iconst (v := 1) rfl (mj_dt dt_X4_nextTurn 5 rfl) ?_
  refine mj_go_iadd (mj_dt dt_X4_nextTurn 6 rfl) ?_
  refine mj_go_aload_n (k := 0) (x := 48) rfl (mj_dt dt_X4_nextTurn 7 rfl) ?_
  refine mk_getI (c := 4) (k := 13) (Or.inl fd_4_13) (Or.inl fl_X4_44) ho_48 (mj_dt dt_X4_nextTurn 8 rfl) ?_
  refine mj_go_icmp_ge (tgt := 39) rfl (mj_dt dt_X4_nextTurn 9 rfl) (fun b1 => ?_) (fun b1 => ?_)
  · rw [if_pos b1] at h
    refine mj_go_iload_n (k := 1) (x := s.1) rfl (mj_dt dt_X4_nextTurn 25 rfl) ?_
    refine mj_go_iconst (v := -1) rfl (mj_dt dt_X4_nextTurn 26 rfl) ?_
    refine mj_go_icmp_ne (tgt := 46) rfl (mj_dt dt_X4_nextTurn 27 rfl) (fun b2 => ?_) (fun b2 => ?_)
    · rw [if_neg b2] at h
      refine mj_go_iload_n (k := 1) (x := s.1) rfl (mj_dt dt_X4_nextTurn 30 rfl) ?_
      refine mj_go_iconst (v := 1) rfl (mj_dt dt_X4_nextTurn 31 rfl) ?_
      refine mj_go_iadd (mj_dt dt_X4_nextTurn 32 rfl) ?_
      obtain ⟨x3, ex3, h⟩ := mj_mw_some h
      refine ml_eqi ex3 ?_
      refine mj_go_istore_n (k := 2) (by decide) (mj_dt dt_X4_nextTurn 33 rfl) ?_
      refine mj_go_iload_n (k := 1) (x := s.1) rfl (mj_dt dt_X4_nextTurn 34 rfl) ?_
      refine mj_go_iconst (v := 1) rfl (mj_dt dt_X4_nextTurn 35 rfl) ?_
      refine mj_go_iadd (mj_dt dt_X4_nextTurn 36 rfl) ?_
      obtain ⟨x4, ex4, h⟩ := mj_mw_some h
      refine ml_eqi ex4 ?_
      refine mj_go_istore_n (k := 3) (by decide) (mj_dt dt_X4_nextTurn 37 rfl) ?_
      refine mj_go_sub (lv' := [(0, .ref 48), (1, .int s.1), (2, .int x3), (3, .int x4)]) (List.forall_mem_cons.mpr ⟨rfl, (List.forall_mem_cons.mpr ⟨rfl, (List.forall_mem_cons.mpr ⟨rfl, (List.forall_mem_cons.mpr ⟨rfl, (fun _ h9 => absurd h9 List.not_mem_nil)⟩)⟩)⟩)⟩) ?_
      exact k_X4_nextTurn_54 hδ N _ _ h
    · rw [if_pos b2] at h
      refine mj_go_iconst (v := 0) rfl (mj_dt dt_X4_nextTurn 28 rfl) ?_
      obtain rfl := Option.some.inj h
      exact mj_go_ret (v := some (.int 0)) (Nat.le_of_ble_eq_true rfl) (mj_retZ (mj_dt dt_X4_nextTurn 29 rfl) rfl rfl)
  · rw [if_neg b1] at h
    refine mj_go_aload_n (k := 0) (x := 48) rfl (mj_dt dt_X4_nextTurn 10 rfl) ?_
    refine ml_getR (c := 4) (k := 6) (q := 52) fd_4_6 rf_48_6 (Or.inl fl_X4_21) ho_48 (mj_dt dt_X4_nextTurn 11 rfl) ?_
    refine mj_go_iload_n (k := 2) (x := s.2) rfl (mj_dt dt_X4_nextTurn 12 rfl) ?_
    obtain ⟨c2, h⟩ := mj_ck_some h
    refine mk_iald c2 (mj_dt dt_X4_nextTurn 13 rfl) ?_
    refine mj_go_aload_n (k := 0) (x := 48) rfl (mj_dt dt_X4_nextTurn 14 rfl) ?_
    refine ml_getR (c := 4) (k := 6) (q := 52) fd_4_6 rf_48_6 (Or.inl fl_X4_21) ho_48 (mj_dt dt_X4_nextTurn 15 rfl) ?_
    refine mj_go_iload_n (k := 2) (x := s.2) rfl (mj_dt dt_X4_nextTurn 16 rfl) ?_
    refine mj_go_iconst (v := 1) rfl (mj_dt dt_X4_nextTurn 17 rfl) ?_
    refine mj_go_iadd (mj_dt dt_X4_nextTurn 18 rfl) ?_
    obtain ⟨c3, h⟩ := mj_ck_some h
    refine mk_iald c3 (mj_dt dt_X4_nextTurn 19 rfl) ?_
    refine mj_go_icmp_ge (tgt := 33) rfl (mj_dt dt_X4_nextTurn 20 rfl) (fun b4 => ?_) (fun b4 => ?_)
    · rw [if_pos b4] at h
      refine mj_go_sub (lv' := [(0, .ref 48), (1, .int s.1), (2, .int s.2)]) (List.forall_mem_cons.mpr ⟨rfl, (List.forall_mem_cons.mpr ⟨rfl, (List.forall_mem_cons.mpr ⟨rfl, (fun _ h9 => absurd h9 List.not_mem_nil)⟩)⟩)⟩) ?_
      exact k_X4_nextTurn_33 q_4 hδ h
    · rw [if_neg b4] at h
      refine mj_go_iload_n (k := 2) (x := s.2) rfl (mj_dt dt_X4_nextTurn 21 rfl) ?_
      refine mj_go_istore_n (k := 1) (by decide) (mj_dt dt_X4_nextTurn 22 rfl) ?_
      refine mj_go_sub (lv' := [(0, .ref 48), (1, .int s.2), (2, .int s.2)]) (List.forall_mem_cons.mpr ⟨rfl, (List.forall_mem_cons.mpr ⟨rfl, (List.forall_mem_cons.mpr ⟨rfl, (fun _ h9 => absurd h9 List.not_mem_nil)⟩)⟩)⟩) ?_
      exact k_X4_nextTurn_33 q_4 hδ h
def f_X4_nextTurn (N : Nat) (m : mj_m) : Option (Int32 × mj_m) := mj_lp N (f_X4_nextTurn_4 N m) ((-1 : Int32), 0)
theorem k_X4_nextTurn {L : Nat} {xs : Nat → Int32} {δ N : Nat} {m : mj_m} (hδ : 1 ≤ δ) {a : Int32 × mj_m} (h : f_X4_nextTurn N m = some a) : mj_Cl (mj_EX L xs) δ mY_X4_nextTurn [.ref 48] (mj_fin m) (some (.int a.1), (mj_fin a.2)) := by
  obtain ⟨δ, rfl⟩ : ∃ d, δ = d + 1 := ⟨δ - 1, by omega⟩
  have hδ : 0 ≤ δ := by omega
  refine mj_cl_of ok_X4_nextTurn (Nat.le_of_ble_eq_true rfl) ?_
  unfold f_X4_nextTurn at h
  refine mj_go_iconst (v := -1) rfl (mj_dt dt_X4_nextTurn 0 rfl) ?_
  refine mj_go_istore_n (k := 1) (by decide) (mj_dt dt_X4_nextTurn 1 rfl) ?_
  refine mj_go_iconst (v := 0) rfl (mj_dt dt_X4_nextTurn 2 rfl) ?_
  refine mj_go_istore_n (k := 2) (by decide) (mj_dt dt_X4_nextTurn 3 rfl) ?_
  refine mj_go_sub (lv' := [(0, .ref 48), (1, .int (-1 : Int32)), (2, .int 0)]) (List.forall_mem_cons.mpr ⟨rfl, (List.forall_mem_cons.mpr ⟨rfl, (List.forall_mem_cons.mpr ⟨rfl, (fun _ h9 => absurd h9 List.not_mem_nil)⟩)⟩)⟩) ?_
  exact k_X4_nextTurn_4 hδ N _ _ h
def f_X4_leastLoss_99 (N : Nat) (k_54 : Int64 × Int32 × mj_m → Option (Int64 × mj_m)) (v1 : Int32) (v2 : Int64) (v4 : Int32) (m : mj_m) : Option (Int64 × mj_m) := mj_mw (v4 + 1) (fun x1 => k_54 (v2, x1, m))
theorem k_X4_leastLoss_99 {L : Nat} {xs : Nat → Int32} {δ N : Nat} {v1 : Int32} {v2 : Int64} {v4 : Int32} {m : mj_m} {k_54 : Int64 × Int32 × mj_m → Option (Int64 × mj_m)} (q_54 : ∀ (s_ : Int64 × Int32 × mj_m) (a_ : Int64 × mj_m), k_54 s_ = some a_ → mj_Go (mj_EX L xs) (δ + 1) mY_X4_leastLoss 54 [(0, .ref 48), (1, .int v1), (2, .long s_.1), (4, .int s_.2.1)] [] (mj_fin s_.2.2) (some (.long a_.1), (mj_fin a_.2))) (hδ : 4 ≤ δ) {a : Int64 × mj_m} (h : f_X4_leastLoss_99 N k_54 v1 v2 v4 m = some a) : mj_Go (mj_EX L xs) (δ + 1) mY_X4_leastLoss 99 [(0, .ref 48), (1, .int v1), (2, .long v2), (4, .int v4)] [] (mj_fin m) (some (.long a.1), (mj_fin a.2)) := by
  unfold f_X4_leastLoss_99 at h
  obtain ⟨x1, ex1, h⟩ := mj_mw_some h
  refine mj_go_iinc (i := 4) (x := v4) (v := x1) rfl (by rw [ex1] <;> rfl) (by decide) (mj_dt dt_X4_leastLoss 55 rfl) ?_
  refine mj_go_goto (tgt := 54) rfl (mj_dt dt_X4_leastLoss 56 rfl) ?_
  refine mj_go_sub (lv' := [(0, .ref 48), (1, .int v1), (2, .long v2), (4, .int x1)]) (List.forall_mem_cons.mpr ⟨rfl, (List.forall_mem_cons.mpr ⟨rfl, (List.forall_mem_cons.mpr ⟨rfl, (List.forall_mem_cons.mpr ⟨rfl, (fun _ h9 => absurd h9 List.not_mem_nil)⟩)⟩)⟩)⟩) ?_
  exact q_54 _ _ h
def f_X4_leastLoss_54 (N : Nat) (v1 : Int32) (k_54 : Int64 × Int32 × mj_m → Option (Int64 × mj_m)) (s : Int64 × Int32 × mj_m) : Option (Int64 × mj_m) := if 120 ≤ s.2.1 then (some (s.1, s.2.2)) else ((f_X4_nextTurn N s.2.2).bind (fun r2 => if r2.1 = 0 then (some (s.1, r2.2)) else ((f_X4_lossOfTurn N v1 r2.2).bind (fun r4 => if 0 ≤ (lg_cmp r4 s.1) then f_X4_leastLoss_99 N k_54 v1 s.1 s.2.1 r2.2 else (mj_ck (mj_p 0 52 53 0 0 5) ( mj_mw (mj_kI r2.2 52 53 ((0 : Int32).toNatClampNeg) ((0 : Int32).toNatClampNeg) ((5 : Int32).toNatClampNeg)) (fun m7 => f_X4_leastLoss_99 N k_54 v1 r4 s.2.1 m7)))))))
theorem k_X4_leastLoss_54 {L : Nat} {xs : Nat → Int32} {δ N : Nat} {v1 : Int32} (hδ : 4 ≤ δ) : ∀ (n : Nat) (s : Int64 × Int32 × mj_m) (a : Int64 × mj_m), mj_lp n (f_X4_leastLoss_54 N v1) s = some a → mj_Go (mj_EX L xs) (δ + 1) mY_X4_leastLoss 54 [(0, .ref 48), (1, .int v1), (2, .long s.1), (4, .int s.2.1)] [] (mj_fin s.2.2) (some (.long a.1), (mj_fin a.2)) := by
  refine mj_lp_sound (fun k_54 s a q_54 h => ?_)
  unfold f_X4_leastLoss_54 at h
  refine mj_go_iload (i := 4) (x := s.2.1) rfl (mj_dt dt_X4_leastLoss 31 rfl) ?_
  refine mj_go_bipush (v := 120) rfl (mj_dt dt_X4_leastLoss 32 rfl) ?_
  refine mj_go_icmp_ge (tgt := 105) rfl (mj_dt dt_X4_leastLoss 33 rfl) (fun b1 => ?_) (fun b1 => ?_)
  · rw [if_pos b1] at h
    refine mj_go_lload_n (k := 2) (x := s.1) rfl (mj_dt dt_X4_leastLoss 57 rfl) ?_
    obtain rfl := Option.some.inj h
    exact mj_go_ret (v := some (.long s.1)) (Nat.le_of_ble_eq_true rfl) (mj_retL (mj_dt dt_X4_leastLoss 58 rfl) rfl)
  · rw [if_neg b1] at h
    refine mj_go_aload_n (k := 0) (x := 48) rfl (mj_dt dt_X4_leastLoss 34 rfl) ?_
    obtain ⟨r2, er2, h⟩ := mj_bind_some h
    refine ml_callV (Y' := mY_X4_nextTurn) (as := []) (rest := []) (c := 4) (v := (some (.int r2.1))) (M1 := (mj_fin r2.2)) ho_48 rfl lm_X4_143 wc_X4_nextTurn pl_X4_nextTurn ok_X4_nextTurn rfl rfl (Nat.le_of_ble_eq_true rfl) (k_X4_nextTurn (by omega) er2) (mj_dt dt_X4_leastLoss 35 rfl) ?_
    refine mj_go_if_eq (tgt := 105) rfl (mj_dt dt_X4_leastLoss 36 rfl) (fun b3 => ?_) (fun b3 => ?_)
    · rw [if_pos b3] at h
      refine mj_go_lload_n (k := 2) (x := s.1) rfl (mj_dt dt_X4_leastLoss 57 rfl) ?_
      obtain rfl := Option.some.inj h
      exact mj_go_ret (v := some (.long s.1)) (Nat.le_of_ble_eq_true rfl) (mj_retL (mj_dt dt_X4_leastLoss 58 rfl) rfl)
    · rw [if_neg b3] at h
      refine mj_go_aload_n (k := 0) (x := 48) rfl (mj_dt dt_X4_leastLoss 37 rfl) ?_
      refine mj_go_iload_n (k := 1) (x := v1) rfl (mj_dt dt_X4_leastLoss 38 rfl) ?_
      obtain ⟨r4, er4, h⟩ := mj_bind_some h
      refine ml_callV (Y' := mY_X4_lossOfTurn) (as := [.int v1]) (rest := []) (c := 4) (v := (some (.long r4))) (M1 := (mj_fin r2.2)) ho_48 rfl lm_X4_140 wc_X4_lossOfTurn pl_X4_lossOfTurn ok_X4_lossOfTurn rfl rfl (Nat.le_of_ble_eq_true rfl) (k_X4_lossOfTurn (by omega) er4) (mj_dt dt_X4_leastLoss 39 rfl) ?_
      refine mj_go_lstore (i := 5) (by decide) (mj_dt dt_X4_leastLoss 40 rfl) ?_
      refine mj_go_lload (i := 5) (x := r4) rfl (mj_dt dt_X4_leastLoss 41 rfl) ?_
      refine mj_go_lload_n (k := 2) (x := s.1) rfl (mj_dt dt_X4_leastLoss 42 rfl) ?_
      refine mj_go_lcmp (mj_dt dt_X4_leastLoss 43 rfl) ?_
      refine mj_go_if_ge (tgt := 99) rfl (mj_dt dt_X4_leastLoss 44 rfl) (fun b5 => ?_) (fun b5 => ?_)
      · rw [if_pos b5] at h
        refine mj_go_sub (lv' := [(0, .ref 48), (1, .int v1), (2, .long s.1), (4, .int s.2.1)]) (List.forall_mem_cons.mpr ⟨rfl, (List.forall_mem_cons.mpr ⟨rfl, (List.forall_mem_cons.mpr ⟨rfl, (List.forall_mem_cons.mpr ⟨rfl, (fun _ h9 => absurd h9 List.not_mem_nil)⟩)⟩)⟩)⟩) ?_
        exact k_X4_leastLoss_99 q_54 hδ h
      · rw [if_neg b5] at h
        refine mj_go_lload (i := 5) (x := r4) rfl (mj_dt dt_X4_leastLoss 45 rfl) ?_
        refine mj_go_lstore_n (k := 2) (by decide) (mj_dt dt_X4_leastLoss 46 rfl) ?_
        refine mj_go_aload_n (k := 0) (x := 48) rfl (mj_dt dt_X4_leastLoss 47 rfl) ?_
        refine ml_getR (c := 4) (k := 6) (q := 52) fd_4_6 rf_48_6 (Or.inl fl_X4_21) ho_48 (mj_dt dt_X4_leastLoss 48 rfl) ?_
        refine mj_go_iconst (v := 0) rfl (mj_dt dt_X4_leastLoss 49 rfl) ?_
        refine mj_go_aload_n (k := 0) (x := 48) rfl (mj_dt dt_X4_leastLoss 50 rfl) ?_
        refine ml_getR (c := 4) (k := 7) (q := 53) fd_4_7 rf_48_7 (Or.inl fl_X4_24) ho_48 (mj_dt dt_X4_leastLoss 51 rfl) ?_
        refine mj_go_iconst (v := 0) rfl (mj_dt dt_X4_leastLoss 52 rfl) ?_
        refine mj_go_iconst (v := 5) rfl (mj_dt dt_X4_leastLoss 53 rfl) ?_
        obtain ⟨c6, h⟩ := mj_ck_some h
        obtain ⟨m7, em7, h⟩ := mj_mw_some h
        refine ml_cpyI hm_X4_64 (Nat.le_of_ble_eq_true rfl) c6 (mj_dt dt_X4_leastLoss 54 rfl) ?_
        refine ml_eqm (M1 := (mj_fin m7)) (by rw [em7] <;> rfl) ?_
        refine mj_go_sub (lv' := [(0, .ref 48), (1, .int v1), (2, .long r4), (4, .int s.2.1)]) (List.forall_mem_cons.mpr ⟨rfl, (List.forall_mem_cons.mpr ⟨rfl, (List.forall_mem_cons.mpr ⟨rfl, (List.forall_mem_cons.mpr ⟨rfl, (fun _ h9 => absurd h9 List.not_mem_nil)⟩)⟩)⟩)⟩) ?_
        exact k_X4_leastLoss_99 q_54 hδ h
def f_X4_leastLoss_10 (N : Nat) (v1 : Int32) (k_10 : Int32 × mj_m → Option (Int64 × mj_m)) (s : Int32 × mj_m) : Option (Int64 × mj_m) := if (s.2.1 48 13) ≤ s.1 then ((f_X4_lossOfTurn N v1 s.2).bind (fun r2 => mj_ck (mj_p 0 52 53 0 0 5) ( mj_mw (mj_kI s.2 52 53 ((0 : Int32).toNatClampNeg) ((0 : Int32).toNatClampNeg) ((5 : Int32).toNatClampNeg)) (fun m4 => mj_lp N (f_X4_leastLoss_54 N v1) (r2, 1, m4))))) else (mj_ck (mj_b 0 52 s.1) ( mj_mw (mj_wI s.2 52 (s.1.toNatClampNeg) s.1) (fun m3 => mj_mw (s.1 + 1) (fun x4 => k_10 (x4, m3)))))
theorem k_X4_leastLoss_10 {L : Nat} {xs : Nat → Int32} {δ N : Nat} {v1 : Int32} (hδ : 4 ≤ δ) : ∀ (n : Nat) (s : Int32 × mj_m) (a : Int64 × mj_m), mj_lp n (f_X4_leastLoss_10 N v1) s = some a → mj_Go (mj_EX L xs) (δ + 1) mY_X4_leastLoss 10 [(0, .ref 48), (1, .int v1), (2, .int s.1)] [] (mj_fin s.2) (some (.long a.1), (mj_fin a.2)) := by
  refine mj_lp_sound (fun k_10 s a q_10 h => ?_)
  unfold f_X4_leastLoss_10 at h
  refine mj_go_iload_n (k := 2) (x := s.1) rfl (mj_dt dt_X4_leastLoss 6 rfl) ?_
  refine mj_go_aload_n (k := 0) (x := 48) rfl (mj_dt dt_X4_leastLoss 7 rfl) ?_
  refine mk_getI (c := 4) (k := 13) (Or.inl fd_4_13) (Or.inl fl_X4_44) ho_48 (mj_dt dt_X4_leastLoss 8 rfl) ?_
  refine mj_go_icmp_ge (tgt := 31) rfl (mj_dt dt_X4_leastLoss 9 rfl) (fun b1 => ?_) (fun b1 => ?_)
  · rw [if_pos b1] at h
    refine mj_go_aload_n (k := 0) (x := 48) rfl (mj_dt dt_X4_leastLoss 17 rfl) ?_
    refine mj_go_iload_n (k := 1) (x := v1) rfl (mj_dt dt_X4_leastLoss 18 rfl) ?_
    obtain ⟨r2, er2, h⟩ := mj_bind_some h
    refine ml_callV (Y' := mY_X4_lossOfTurn) (as := [.int v1]) (rest := []) (c := 4) (v := (some (.long r2))) (M1 := (mj_fin s.2)) ho_48 rfl lm_X4_140 wc_X4_lossOfTurn pl_X4_lossOfTurn ok_X4_lossOfTurn rfl rfl (Nat.le_of_ble_eq_true rfl) (k_X4_lossOfTurn (by omega) er2) (mj_dt dt_X4_leastLoss 19 rfl) ?_
    refine mj_go_lstore_n (k := 2) (by decide) (mj_dt dt_X4_leastLoss 20 rfl) ?_
    refine mj_go_aload_n (k := 0) (x := 48) rfl (mj_dt dt_X4_leastLoss 21 rfl) ?_
    refine ml_getR (c := 4) (k := 6) (q := 52) fd_4_6 rf_48_6 (Or.inl fl_X4_21) ho_48 (mj_dt dt_X4_leastLoss 22 rfl) ?_
    refine mj_go_iconst (v := 0) rfl (mj_dt dt_X4_leastLoss 23 rfl) ?_
    refine mj_go_aload_n (k := 0) (x := 48) rfl (mj_dt dt_X4_leastLoss 24 rfl) ?_
    refine ml_getR (c := 4) (k := 7) (q := 53) fd_4_7 rf_48_7 (Or.inl fl_X4_24) ho_48 (mj_dt dt_X4_leastLoss 25 rfl) ?_
    refine mj_go_iconst (v := 0) rfl (mj_dt dt_X4_leastLoss 26 rfl) ?_
    refine mj_go_iconst (v := 5) rfl (mj_dt dt_X4_leastLoss 27 rfl) ?_
    obtain ⟨c3, h⟩ := mj_ck_some h
    obtain ⟨m4, em4, h⟩ := mj_mw_some h
    refine ml_cpyI hm_X4_64 (Nat.le_of_ble_eq_true rfl) c3 (mj_dt dt_X4_leastLoss 28 rfl) ?_
    refine ml_eqm (M1 := (mj_fin m4)) (by rw [em4] <;> rfl) ?_
    refine mj_go_iconst (v := 1) rfl (mj_dt dt_X4_leastLoss 29 rfl) ?_
    refine mj_go_istore (i := 4) (by decide) (mj_dt dt_X4_leastLoss 30 rfl) ?_
    refine mj_go_sub (lv' := [(0, .ref 48), (1, .int v1), (2, .long r2), (4, .int 1)]) (List.forall_mem_cons.mpr ⟨rfl, (List.forall_mem_cons.mpr ⟨rfl, (List.forall_mem_cons.mpr ⟨rfl, (List.forall_mem_cons.mpr ⟨rfl, (fun _ h9 => absurd h9 List.not_mem_nil)⟩)⟩)⟩)⟩) ?_
    exact k_X4_leastLoss_54 hδ N _ _ h
  · rw [if_neg b1] at h
    refine mj_go_aload_n (k := 0) (x := 48) rfl (mj_dt dt_X4_leastLoss 10 rfl) ?_
    refine ml_getR (c := 4) (k := 6) (q := 52) fd_4_6 rf_48_6 (Or.inl fl_X4_21) ho_48 (mj_dt dt_X4_leastLoss 11 rfl) ?_
    refine mj_go_iload_n (k := 2) (x := s.1) rfl (mj_dt dt_X4_leastLoss 12 rfl) ?_
    refine mj_go_iload_n (k := 2) (x := s.1) rfl (mj_dt dt_X4_leastLoss 13 rfl) ?_
    obtain ⟨c2, h⟩ := mj_ck_some h
    obtain ⟨m3, em3, h⟩ := mj_mw_some h
    refine ml_iast c2 (mj_dt dt_X4_leastLoss 14 rfl) ?_
    refine ml_eqm (M1 := (mj_fin m3)) (by rw [em3] <;> rfl) ?_
    obtain ⟨x4, ex4, h⟩ := mj_mw_some h
    refine mj_go_iinc (i := 2) (x := s.1) (v := x4) rfl (by rw [ex4] <;> rfl) (by decide) (mj_dt dt_X4_leastLoss 15 rfl) ?_
    refine mj_go_goto (tgt := 10) rfl (mj_dt dt_X4_leastLoss 16 rfl) ?_
    refine mj_go_sub (lv' := [(0, .ref 48), (1, .int v1), (2, .int x4)]) (List.forall_mem_cons.mpr ⟨rfl, (List.forall_mem_cons.mpr ⟨rfl, (List.forall_mem_cons.mpr ⟨rfl, (fun _ h9 => absurd h9 List.not_mem_nil)⟩)⟩)⟩) ?_
    exact q_10 _ _ h
def f_X4_leastLoss (N : Nat) (v1 : Int32) (m : mj_m) : Option (Int64 × mj_m) := (f_X4_findOpen N m).bind (fun r1 => (f_X4_reckonMeans N r1).bind (fun r2 => mj_lp N (f_X4_leastLoss_10 N v1) (0, r2)))
theorem k_X4_leastLoss {L : Nat} {xs : Nat → Int32} {δ N : Nat} {v1 : Int32} {m : mj_m} (hδ : 5 ≤ δ) {a : Int64 × mj_m} (h : f_X4_leastLoss N v1 m = some a) : mj_Cl (mj_EX L xs) δ mY_X4_leastLoss [.ref 48, .int v1] (mj_fin m) (some (.long a.1), (mj_fin a.2)) := by
  obtain ⟨δ, rfl⟩ : ∃ d, δ = d + 1 := ⟨δ - 1, by omega⟩
  have hδ : 4 ≤ δ := by omega
  refine mj_cl_of ok_X4_leastLoss (Nat.le_of_ble_eq_true rfl) ?_
  unfold f_X4_leastLoss at h
  refine mj_go_aload_n (k := 0) (x := 48) rfl (mj_dt dt_X4_leastLoss 0 rfl) ?_
  obtain ⟨r1, er1, h⟩ := mj_bind_some h
  refine ml_callV (Y' := mY_X4_findOpen) (as := []) (rest := []) (c := 4) (v := none) (M1 := (mj_fin r1)) ho_48 rfl lm_X4_134 wc_X4_findOpen pl_X4_findOpen ok_X4_findOpen rfl rfl (Nat.le_of_ble_eq_true rfl) (k_X4_findOpen (by omega) er1) (mj_dt dt_X4_leastLoss 1 rfl) ?_
  refine mj_go_aload_n (k := 0) (x := 48) rfl (mj_dt dt_X4_leastLoss 2 rfl) ?_
  obtain ⟨r2, er2, h⟩ := mj_bind_some h
  refine ml_callV (Y' := mY_X4_reckonMeans) (as := []) (rest := []) (c := 4) (v := none) (M1 := (mj_fin r2)) ho_48 rfl lm_X4_137 wc_X4_reckonMeans pl_X4_reckonMeans ok_X4_reckonMeans rfl rfl (Nat.le_of_ble_eq_true rfl) (k_X4_reckonMeans (by omega) er2) (mj_dt dt_X4_leastLoss 3 rfl) ?_
  refine mj_go_iconst (v := 0) rfl (mj_dt dt_X4_leastLoss 4 rfl) ?_
  refine mj_go_istore_n (k := 2) (by decide) (mj_dt dt_X4_leastLoss 5 rfl) ?_
  refine mj_go_sub (lv' := [(0, .ref 48), (1, .int v1), (2, .int 0)]) (List.forall_mem_cons.mpr ⟨rfl, (List.forall_mem_cons.mpr ⟨rfl, (List.forall_mem_cons.mpr ⟨rfl, (fun _ h9 => absurd h9 List.not_mem_nil)⟩)⟩)⟩) ?_
  exact k_X4_leastLoss_10 hδ N _ _ h
def f_X8_best_18 (N : Nat) (m : mj_m) : Option (Int64 × mj_m) := (f_X8_refuse N 6 m).bind (fun r1 => some (r1.1.toInt64, r1.2))
theorem k_X8_best_18 {L : Nat} {xs : Nat → Int32} {δ N : Nat} {m : mj_m} (hδ : 5 ≤ δ) {a : Int64 × mj_m} (h : f_X8_best_18 N m = some a) : mj_Go (mj_EX L xs) (δ + 1) mY_X8_best 18 [(0, .ref 0)] [] (mj_fin m) (some (.long a.1), (mj_fin a.2)) := by
  unfold f_X8_best_18 at h
  refine mj_go_aload_n (k := 0) (x := 0) rfl (mj_dt dt_X8_best 8 rfl) ?_
  refine mj_go_bipush (v := 6) rfl (mj_dt dt_X8_best 9 rfl) ?_
  obtain ⟨r1, er1, h⟩ := mj_bind_some h
  refine ml_callV (Y' := mY_X8_refuse) (as := [.int 6]) (rest := []) (c := 8) (v := (some (.int r1.1))) (M1 := (mj_fin r1.2)) ho_0 rfl lm_X8_86 wc_X8_refuse pl_X8_refuse ok_X8_refuse rfl rfl (Nat.le_of_ble_eq_true rfl) (k_X8_refuse (by omega) er1) (mj_dt dt_X8_best 10 rfl) ?_
  refine mj_go_i2l (mj_dt dt_X8_best 11 rfl) ?_
  obtain rfl := Option.some.inj h
  exact mj_go_ret (v := some (.long (r1.1.toInt64))) (Nat.le_of_ble_eq_true rfl) (mj_retL (mj_dt dt_X8_best 12 rfl) rfl)
def f_X8_best (N : Nat) (v1 : Int32) (m : mj_m) : Option (Int64 × mj_m) := (f_X8_areYears N v1 m).bind (fun r1 => if r1 = 0 then f_X8_best_18 N m else ((f_X4_countUnstrengthened N m).bind (fun r3 => if r3 ≤ 5 then ((f_X4_leastLoss N v1 m).bind (fun r5 => some (r5.1, r5.2))) else f_X8_best_18 N m)))
theorem k_X8_best {L : Nat} {xs : Nat → Int32} {δ N : Nat} {v1 : Int32} {m : mj_m} (hδ : 6 ≤ δ) {a : Int64 × mj_m} (h : f_X8_best N v1 m = some a) : mj_Cl (mj_EX L xs) δ mY_X8_best [.ref 0, .int v1] (mj_fin m) (some (.long a.1), (mj_fin a.2)) := by
  obtain ⟨δ, rfl⟩ : ∃ d, δ = d + 1 := ⟨δ - 1, by omega⟩
  have hδ : 5 ≤ δ := by omega
  refine mj_cl_of ok_X8_best (Nat.le_of_ble_eq_true rfl) ?_
  unfold f_X8_best at h
  refine mj_go_iload_n (k := 1) (x := v1) rfl (mj_dt dt_X8_best 0 rfl) ?_
  obtain ⟨r1, er1, h⟩ := mj_bind_some h
  refine ml_callS (Y' := mY_X8_areYears) (as := [.int v1]) (rest := []) (v := (some (.int r1))) (M1 := (mj_fin m)) lm_X8_311 wc_X8_areYears pl_X8_areYears ok_X8_areYears rfl rfl (Nat.le_of_ble_eq_true rfl) (k_X8_areYears (by omega) er1) (mj_dt dt_X8_best 1 rfl) ?_
  refine mj_go_if_eq (tgt := 18) rfl (mj_dt dt_X8_best 2 rfl) (fun b2 => ?_) (fun b2 => ?_)
  · rw [if_pos b2] at h
    refine mj_go_sub (lv' := [(0, .ref 0)]) (List.forall_mem_cons.mpr ⟨rfl, (fun _ h9 => absurd h9 List.not_mem_nil)⟩) ?_
    exact k_X8_best_18 hδ h
  · rw [if_neg b2] at h
    refine mj_go_aload_n (k := 0) (x := 0) rfl (mj_dt dt_X8_best 3 rfl) ?_
    refine ml_getR (c := 8) (k := 5) (q := 48) fd_8_5 rf_0_5 (Or.inl fl_X8_48) ho_0 (mj_dt dt_X8_best 4 rfl) ?_
    obtain ⟨r3, er3, h⟩ := mj_bind_some h
    refine ml_callV (Y' := mY_X4_countUnstrengthened) (as := []) (rest := []) (c := 4) (v := (some (.int r3))) (M1 := (mj_fin m)) ho_48 rfl lm_X8_321 wc_X4_countUnstrengthened pl_X4_countUnstrengthened ok_X4_countUnstrengthened rfl rfl (Nat.le_of_ble_eq_true rfl) (k_X4_countUnstrengthened (by omega) er3) (mj_dt dt_X8_best 5 rfl) ?_
    refine mj_go_iconst (v := 5) rfl (mj_dt dt_X8_best 6 rfl) ?_
    refine mj_go_icmp_le (tgt := 26) rfl (mj_dt dt_X8_best 7 rfl) (fun b4 => ?_) (fun b4 => ?_)
    · rw [if_pos b4] at h
      refine mj_go_aload_n (k := 0) (x := 0) rfl (mj_dt dt_X8_best 13 rfl) ?_
      refine ml_getR (c := 8) (k := 5) (q := 48) fd_8_5 rf_0_5 (Or.inl fl_X8_48) ho_0 (mj_dt dt_X8_best 14 rfl) ?_
      refine mj_go_iload_n (k := 1) (x := v1) rfl (mj_dt dt_X8_best 15 rfl) ?_
      obtain ⟨r5, er5, h⟩ := mj_bind_some h
      refine ml_callV (Y' := mY_X4_leastLoss) (as := [.int v1]) (rest := []) (c := 4) (v := (some (.long r5.1))) (M1 := (mj_fin r5.2)) ho_48 rfl lm_X8_324 wc_X4_leastLoss pl_X4_leastLoss ok_X4_leastLoss rfl rfl (Nat.le_of_ble_eq_true rfl) (k_X4_leastLoss (by omega) er5) (mj_dt dt_X8_best 16 rfl) ?_
      obtain rfl := Option.some.inj h
      exact mj_go_ret (v := some (.long r5.1)) (Nat.le_of_ble_eq_true rfl) (mj_retL (mj_dt dt_X8_best 17 rfl) rfl)
    · rw [if_neg b4] at h
      refine mj_go_sub (lv' := [(0, .ref 0)]) (List.forall_mem_cons.mpr ⟨rfl, (fun _ h9 => absurd h9 List.not_mem_nil)⟩) ?_
      exact k_X8_best_18 hδ h
def f_X9_fresh_27 (N : Nat) (k_4 : Int32 × Int32 → Option (Int32)) (v2 : Int32) (s0 : Int32) (s1 : Int32) (m : mj_m) : Option (Int32) := mj_mw (s0 + s1) (fun x1 => mj_mw (v2 + 1) (fun x2 => k_4 (x1, x2)))
theorem k_X9_fresh_27 {L : Nat} {xs : Nat → Int32} {δ N : Nat} {v2 : Int32} {s0 : Int32} {s1 : Int32} {m : mj_m} {k_4 : Int32 × Int32 → Option (Int32)} (q_4 : ∀ (s_ : Int32 × Int32) (a_ : Int32), k_4 s_ = some a_ → mj_Go (mj_EX L xs) δ mY_X9_fresh 4 [(0, .ref 95), (1, .int s_.1), (2, .int s_.2)] [] (mj_fin m) (some (.int a_), (mj_fin m))) {a : Int32} (h : f_X9_fresh_27 N k_4 v2 s0 s1 m = some a) : mj_Go (mj_EX L xs) δ mY_X9_fresh 27 [(0, .ref 95), (2, .int v2)] [.int s1, .int s0] (mj_fin m) (some (.int a), (mj_fin m)) := by
  unfold f_X9_fresh_27 at h
  refine mj_go_iadd (mj_dt dt_X9_fresh 17 rfl) ?_
  obtain ⟨x1, ex1, h⟩ := mj_mw_some h
  refine ml_eqi ex1 ?_
  refine mj_go_istore_n (k := 1) (by decide) (mj_dt dt_X9_fresh 18 rfl) ?_
  obtain ⟨x2, ex2, h⟩ := mj_mw_some h
  refine mj_go_iinc (i := 2) (x := v2) (v := x2) rfl (by rw [ex2] <;> rfl) (by decide) (mj_dt dt_X9_fresh 19 rfl) ?_
  refine mj_go_goto (tgt := 4) rfl (mj_dt dt_X9_fresh 20 rfl) ?_
  refine mj_go_sub (lv' := [(0, .ref 95), (1, .int x1), (2, .int x2)]) (List.forall_mem_cons.mpr ⟨rfl, (List.forall_mem_cons.mpr ⟨rfl, (List.forall_mem_cons.mpr ⟨rfl, (fun _ h9 => absurd h9 List.not_mem_nil)⟩)⟩)⟩) ?_
  exact q_4 _ _ h
def f_X9_fresh_4 (N : Nat) (m : mj_m) (k_4 : Int32 × Int32 → Option (Int32)) (s : Int32 × Int32) : Option (Int32) := if (m.1 95 1) ≤ s.2 then (some s.1) else (mj_ck (mj_b 0 108 s.2) ( if (m.1 108 s.2.toNatClampNeg) = 0 then (f_X9_fresh_27 N k_4 s.2 s.1 1 m) else (f_X9_fresh_27 N k_4 s.2 s.1 0 m)))
theorem k_X9_fresh_4 {L : Nat} {xs : Nat → Int32} {δ N : Nat} {m : mj_m} : ∀ (n : Nat) (s : Int32 × Int32) (a : Int32), mj_lp n (f_X9_fresh_4 N m) s = some a → mj_Go (mj_EX L xs) δ mY_X9_fresh 4 [(0, .ref 95), (1, .int s.1), (2, .int s.2)] [] (mj_fin m) (some (.int a), (mj_fin m)) := by
  refine mj_lp_sound (fun k_4 s a q_4 h => ?_)
  unfold f_X9_fresh_4 at h
  refine mj_go_iload_n (k := 2) (x := s.2) rfl (mj_dt dt_X9_fresh 4 rfl) ?_
  refine mj_go_aload_n (k := 0) (x := 95) rfl (mj_dt dt_X9_fresh 5 rfl) ?_
  refine mk_getI (c := 9) (k := 1) (Or.inl fd_9_1) (Or.inl fl_X9_124) ho_95 (mj_dt dt_X9_fresh 6 rfl) ?_
  refine mj_go_icmp_ge (tgt := 35) rfl (mj_dt dt_X9_fresh 7 rfl) (fun b1 => ?_) (fun b1 => ?_)
  · rw [if_pos b1] at h
    refine mj_go_iload_n (k := 1) (x := s.1) rfl (mj_dt dt_X9_fresh 21 rfl) ?_
    obtain rfl := Option.some.inj h
    exact mj_go_ret (v := some (.int s.1)) (Nat.le_of_ble_eq_true rfl) (mj_retI (mj_dt dt_X9_fresh 22 rfl) rfl)
  · rw [if_neg b1] at h
    refine mj_go_iload_n (k := 1) (x := s.1) rfl (mj_dt dt_X9_fresh 8 rfl) ?_
    refine mj_go_aload_n (k := 0) (x := 95) rfl (mj_dt dt_X9_fresh 9 rfl) ?_
    refine ml_getR (c := 9) (k := 23) (q := 108) fd_9_23 rf_95_23 (Or.inl fl_X9_62) ho_95 (mj_dt dt_X9_fresh 10 rfl) ?_
    refine mj_go_iload_n (k := 2) (x := s.2) rfl (mj_dt dt_X9_fresh 11 rfl) ?_
    obtain ⟨c2, h⟩ := mj_ck_some h
    refine mk_iald c2 (mj_dt dt_X9_fresh 12 rfl) ?_
    refine mj_go_if_ne (tgt := 26) rfl (mj_dt dt_X9_fresh 13 rfl) (fun b3 => ?_) (fun b3 => ?_)
    · rw [if_neg b3] at h
      refine mj_go_iconst (v := 0) rfl (mj_dt dt_X9_fresh 16 rfl) ?_
      refine mj_go_sub (lv' := [(0, .ref 95), (2, .int s.2)]) (List.forall_mem_cons.mpr ⟨rfl, (List.forall_mem_cons.mpr ⟨rfl, (fun _ h9 => absurd h9 List.not_mem_nil)⟩)⟩) ?_
      exact k_X9_fresh_27 q_4 h
    · rw [if_pos b3] at h
      refine mj_go_iconst (v := 1) rfl (mj_dt dt_X9_fresh 14 rfl) ?_
      refine mj_go_goto (tgt := 27) rfl (mj_dt dt_X9_fresh 15 rfl) ?_
      refine mj_go_sub (lv' := [(0, .ref 95), (2, .int s.2)]) (List.forall_mem_cons.mpr ⟨rfl, (List.forall_mem_cons.mpr ⟨rfl, (fun _ h9 => absurd h9 List.not_mem_nil)⟩)⟩) ?_
      exact k_X9_fresh_27 q_4 h
def f_X9_fresh (N : Nat) (m : mj_m) : Option (Int32) := mj_lp N (f_X9_fresh_4 N m) (0, 0)
theorem k_X9_fresh {L : Nat} {xs : Nat → Int32} {δ N : Nat} {m : mj_m} (_ : 0 ≤ δ) {a : Int32} (h : f_X9_fresh N m = some a) : mj_Cl (mj_EX L xs) δ mY_X9_fresh [.ref 95] (mj_fin m) (some (.int a), (mj_fin m)) := by
  refine mj_cl_of ok_X9_fresh (Nat.le_of_ble_eq_true rfl) ?_
  unfold f_X9_fresh at h
  refine mj_go_iconst (v := 0) rfl (mj_dt dt_X9_fresh 0 rfl) ?_
  refine mj_go_istore_n (k := 1) (by decide) (mj_dt dt_X9_fresh 1 rfl) ?_
  refine mj_go_iconst (v := 0) rfl (mj_dt dt_X9_fresh 2 rfl) ?_
  refine mj_go_istore_n (k := 2) (by decide) (mj_dt dt_X9_fresh 3 rfl) ?_
  refine mj_go_sub (lv' := [(0, .ref 95), (1, .int 0), (2, .int 0)]) (List.forall_mem_cons.mpr ⟨rfl, (List.forall_mem_cons.mpr ⟨rfl, (List.forall_mem_cons.mpr ⟨rfl, (fun _ h9 => absurd h9 List.not_mem_nil)⟩)⟩)⟩) ?_
  exact k_X9_fresh_4 N _ _ h
def f_X9_tries_166 (N : Nat) (rc : Int32 → Int32 → Int32 → Int32 → mj_m → Option (mj_m)) (k_109 : Int32 × mj_m → Option (mj_m)) (v1 : Int32) (v2 : Int32) (v3 : Int32) (v4 : Int32) (v5 : Int32) (m : mj_m) : Option (mj_m) := mj_mw (v5 + 1) (fun x1 => k_109 (x1, m))
theorem k_X9_tries_166 {L : Nat} {xs : Nat → Int32} {δ N : Nat} {rc : Int32 → Int32 → Int32 → Int32 → mj_m → Option (mj_m)} (hrc : ∀ v1_ v2_ v3_ v4_ m_ a_, rc v1_ v2_ v3_ v4_ m_ = some a_ → mj_Cl (mj_EX L xs) δ mY_X9_tries [.ref 95, .int v1_, .int v2_, .int v3_, .int v4_] (mj_fin m_) (none, (mj_fin a_))) {v1 : Int32} {v2 : Int32} {v3 : Int32} {v4 : Int32} {v5 : Int32} {m : mj_m} {k_109 : Int32 × mj_m → Option (mj_m)} (q_109 : ∀ (s_ : Int32 × mj_m) (a_ : mj_m), k_109 s_ = some a_ → mj_Go (mj_EX L xs) (δ + 1) mY_X9_tries 109 [(0, .ref 95), (1, .int v1), (2, .int v2), (3, .int v3), (4, .int v4), (5, .int s_.1)] [] (mj_fin s_.2) (none, (mj_fin a_))) (hδ : 4 ≤ δ) {a : mj_m} (h : f_X9_tries_166 N rc k_109 v1 v2 v3 v4 v5 m = some a) : mj_Go (mj_EX L xs) (δ + 1) mY_X9_tries 166 [(0, .ref 95), (1, .int v1), (2, .int v2), (3, .int v3), (4, .int v4), (5, .int v5)] [] (mj_fin m) (none, (mj_fin a)) := by
  unfold f_X9_tries_166 at h
  obtain ⟨x1, ex1, h⟩ := mj_mw_some h
  refine mj_go_iinc (i := 5) (x := v5) (v := x1) rfl (by rw [ex1] <;> rfl) (by decide) (mj_dt dt_X9_tries 92 rfl) ?_
  refine mj_go_goto (tgt := 109) rfl (mj_dt dt_X9_tries 93 rfl) ?_
  refine mj_go_sub (lv' := [(0, .ref 95), (1, .int v1), (2, .int v2), (3, .int v3), (4, .int v4), (5, .int x1)]) (List.forall_mem_cons.mpr ⟨rfl, (List.forall_mem_cons.mpr ⟨rfl, (List.forall_mem_cons.mpr ⟨rfl, (List.forall_mem_cons.mpr ⟨rfl, (List.forall_mem_cons.mpr ⟨rfl, (List.forall_mem_cons.mpr ⟨rfl, (fun _ h9 => absurd h9 List.not_mem_nil)⟩)⟩)⟩)⟩)⟩)⟩) ?_
  exact q_109 _ _ h
def f_X9_tries_109 (N : Nat) (rc : Int32 → Int32 → Int32 → Int32 → mj_m → Option (mj_m)) (v1 : Int32) (v2 : Int32) (v3 : Int32) (v4 : Int32) (k_109 : Int32 × mj_m → Option (mj_m)) (s : Int32 × mj_m) : Option (mj_m) := if (s.2.1 95 1) ≤ s.1 then (some s.2) else (mj_ck (mj_b 0 108 s.1) ( if 0 < (s.2.1 108 s.1.toNatClampNeg) then f_X9_tries_166 N rc k_109 v1 v2 v3 v4 s.1 s.2 else (if ((v3 >>> (s.1 &&& 31)) &&& 1) = 1 then (f_X9_tries_166 N rc k_109 v1 v2 v3 v4 s.1 s.2) else (mj_ck (mj_b 0 126 v4) ( mj_mw (mj_wI s.2 126 (v4.toNatClampNeg) s.1) (fun m6 => (rc v1 v2 (v3 ||| (1 <<< (s.1 &&& 31))) (v4 + 1) m6).bind (fun r7 => f_X9_tries_166 N rc k_109 v1 v2 v3 v4 s.1 r7)))))))
theorem k_X9_tries_109 {L : Nat} {xs : Nat → Int32} {δ N : Nat} {rc : Int32 → Int32 → Int32 → Int32 → mj_m → Option (mj_m)} (hrc : ∀ v1_ v2_ v3_ v4_ m_ a_, rc v1_ v2_ v3_ v4_ m_ = some a_ → mj_Cl (mj_EX L xs) δ mY_X9_tries [.ref 95, .int v1_, .int v2_, .int v3_, .int v4_] (mj_fin m_) (none, (mj_fin a_))) {v1 : Int32} {v2 : Int32} {v3 : Int32} {v4 : Int32} (hδ : 4 ≤ δ) : ∀ (n : Nat) (s : Int32 × mj_m) (a : mj_m), mj_lp n (f_X9_tries_109 N rc v1 v2 v3 v4) s = some a → mj_Go (mj_EX L xs) (δ + 1) mY_X9_tries 109 [(0, .ref 95), (1, .int v1), (2, .int v2), (3, .int v3), (4, .int v4), (5, .int s.1)] [] (mj_fin s.2) (none, (mj_fin a)) := by
  refine mj_lp_sound (fun k_109 s a q_109 h => ?_)
  unfold f_X9_tries_109 at h
  refine mj_go_iload (i := 5) (x := s.1) rfl (mj_dt dt_X9_tries 58 rfl) ?_
  refine mj_go_aload_n (k := 0) (x := 95) rfl (mj_dt dt_X9_tries 59 rfl) ?_
  refine mk_getI (c := 9) (k := 1) (Or.inl fd_9_1) (Or.inl fl_X9_124) ho_95 (mj_dt dt_X9_tries 60 rfl) ?_
  refine mj_go_icmp_ge (tgt := 172) rfl (mj_dt dt_X9_tries 61 rfl) (fun b1 => ?_) (fun b1 => ?_)
  · rw [if_pos b1] at h
    obtain rfl := Option.some.inj h
    exact mj_go_ret (v := none) (Nat.le_of_ble_eq_true rfl) (mj_retV (mj_dt dt_X9_tries 94 rfl) rfl)
  · rw [if_neg b1] at h
    refine mj_go_aload_n (k := 0) (x := 95) rfl (mj_dt dt_X9_tries 62 rfl) ?_
    refine ml_getR (c := 9) (k := 23) (q := 108) fd_9_23 rf_95_23 (Or.inl fl_X9_62) ho_95 (mj_dt dt_X9_tries 63 rfl) ?_
    refine mj_go_iload (i := 5) (x := s.1) rfl (mj_dt dt_X9_tries 64 rfl) ?_
    obtain ⟨c2, h⟩ := mj_ck_some h
    refine mk_iald c2 (mj_dt dt_X9_tries 65 rfl) ?_
    refine mj_go_if_gt (tgt := 166) rfl (mj_dt dt_X9_tries 66 rfl) (fun b3 => ?_) (fun b3 => ?_)
    · rw [if_pos b3] at h
      refine mj_go_sub (lv' := [(0, .ref 95), (1, .int v1), (2, .int v2), (3, .int v3), (4, .int v4), (5, .int s.1)]) (List.forall_mem_cons.mpr ⟨rfl, (List.forall_mem_cons.mpr ⟨rfl, (List.forall_mem_cons.mpr ⟨rfl, (List.forall_mem_cons.mpr ⟨rfl, (List.forall_mem_cons.mpr ⟨rfl, (List.forall_mem_cons.mpr ⟨rfl, (fun _ h9 => absurd h9 List.not_mem_nil)⟩)⟩)⟩)⟩)⟩)⟩) ?_
      exact k_X9_tries_166 hrc q_109 hδ h
    · rw [if_neg b3] at h
      refine mj_go_iload_n (k := 3) (x := v3) rfl (mj_dt dt_X9_tries 67 rfl) ?_
      refine mj_go_iload (i := 5) (x := s.1) rfl (mj_dt dt_X9_tries 68 rfl) ?_
      refine mj_go_ishr (mj_dt dt_X9_tries 69 rfl) ?_
      refine mj_go_iconst (v := 1) rfl (mj_dt dt_X9_tries 70 rfl) ?_
      refine mj_go_iand (mj_dt dt_X9_tries 71 rfl) ?_
      refine mj_go_iconst (v := 1) rfl (mj_dt dt_X9_tries 72 rfl) ?_
      refine mj_go_icmp_ne (tgt := 141) rfl (mj_dt dt_X9_tries 73 rfl) (fun b4 => ?_) (fun b4 => ?_)
      · rw [if_neg b4] at h
        refine mj_go_aload_n (k := 0) (x := 95) rfl (mj_dt dt_X9_tries 75 rfl) ?_
        refine ml_getR (c := 9) (k := 50) (q := 126) fd_9_50 rf_95_50 (Or.inl fl_X9_117) ho_95 (mj_dt dt_X9_tries 76 rfl) ?_
        refine mj_go_iload (i := 4) (x := v4) rfl (mj_dt dt_X9_tries 77 rfl) ?_
        refine mj_go_iload (i := 5) (x := s.1) rfl (mj_dt dt_X9_tries 78 rfl) ?_
        obtain ⟨c5, h⟩ := mj_ck_some h
        obtain ⟨m6, em6, h⟩ := mj_mw_some h
        refine ml_iast c5 (mj_dt dt_X9_tries 79 rfl) ?_
        refine ml_eqm (M1 := (mj_fin m6)) (by rw [em6] <;> rfl) ?_
        refine mj_go_aload_n (k := 0) (x := 95) rfl (mj_dt dt_X9_tries 80 rfl) ?_
        refine mj_go_iload_n (k := 1) (x := v1) rfl (mj_dt dt_X9_tries 81 rfl) ?_
        refine mj_go_iload_n (k := 2) (x := v2) rfl (mj_dt dt_X9_tries 82 rfl) ?_
        refine mj_go_iload_n (k := 3) (x := v3) rfl (mj_dt dt_X9_tries 83 rfl) ?_
        refine mj_go_iconst (v := 1) rfl (mj_dt dt_X9_tries 84 rfl) ?_
        refine mj_go_iload (i := 5) (x := s.1) rfl (mj_dt dt_X9_tries 85 rfl) ?_
        refine mj_go_ishl (mj_dt dt_X9_tries 86 rfl) ?_
        refine mj_go_ior (mj_dt dt_X9_tries 87 rfl) ?_
        refine mj_go_iload (i := 4) (x := v4) rfl (mj_dt dt_X9_tries 88 rfl) ?_
        refine mj_go_iconst (v := 1) rfl (mj_dt dt_X9_tries 89 rfl) ?_
        refine mj_go_iadd (mj_dt dt_X9_tries 90 rfl) ?_
        obtain ⟨r7, er7, h⟩ := mj_bind_some h
        refine ml_callV (Y' := mY_X9_tries) (as := [.int v1, .int v2, .int (v3 ||| (1 <<< (s.1 &&& 31))), .int (v4 + 1)]) (rest := []) (c := 9) (v := none) (M1 := (mj_fin r7)) ho_95 rfl lm_X9_313 wc_X9_tries pl_X9_tries ok_X9_tries rfl rfl (Nat.le_of_ble_eq_true rfl) (hrc _ _ _ _ _ _ er7) (mj_dt dt_X9_tries 91 rfl) ?_
        refine mj_go_sub (lv' := [(0, .ref 95), (1, .int v1), (2, .int v2), (3, .int v3), (4, .int v4), (5, .int s.1)]) (List.forall_mem_cons.mpr ⟨rfl, (List.forall_mem_cons.mpr ⟨rfl, (List.forall_mem_cons.mpr ⟨rfl, (List.forall_mem_cons.mpr ⟨rfl, (List.forall_mem_cons.mpr ⟨rfl, (List.forall_mem_cons.mpr ⟨rfl, (fun _ h9 => absurd h9 List.not_mem_nil)⟩)⟩)⟩)⟩)⟩)⟩) ?_
        exact k_X9_tries_166 hrc q_109 hδ h
      · rw [if_pos b4] at h
        refine mj_go_goto (tgt := 166) rfl (mj_dt dt_X9_tries 74 rfl) ?_
        refine mj_go_sub (lv' := [(0, .ref 95), (1, .int v1), (2, .int v2), (3, .int v3), (4, .int v4), (5, .int s.1)]) (List.forall_mem_cons.mpr ⟨rfl, (List.forall_mem_cons.mpr ⟨rfl, (List.forall_mem_cons.mpr ⟨rfl, (List.forall_mem_cons.mpr ⟨rfl, (List.forall_mem_cons.mpr ⟨rfl, (List.forall_mem_cons.mpr ⟨rfl, (fun _ h9 => absurd h9 List.not_mem_nil)⟩)⟩)⟩)⟩)⟩)⟩) ?_
        exact k_X9_tries_166 hrc q_109 hδ h
def f_X9_tries_79 (N : Nat) (rc : Int32 → Int32 → Int32 → Int32 → mj_m → Option (mj_m)) (v2 : Int32) (k_79 : Int32 × mj_m → Option (mj_m)) (s : Int32 × mj_m) : Option (mj_m) := if v2 ≤ s.1 then (some s.2) else (mj_ck (mj_b 0 126 s.1) ( mj_ck (mj_b 0 125 s.1) ( mj_mw (mj_wI s.2 125 (s.1.toNatClampNeg) (s.2.1 126 s.1.toNatClampNeg)) (fun m4 => mj_mw (s.1 + 1) (fun x5 => k_79 (x5, m4))))))
theorem k_X9_tries_79 {L : Nat} {xs : Nat → Int32} {δ N : Nat} {rc : Int32 → Int32 → Int32 → Int32 → mj_m → Option (mj_m)} (hrc : ∀ v1_ v2_ v3_ v4_ m_ a_, rc v1_ v2_ v3_ v4_ m_ = some a_ → mj_Cl (mj_EX L xs) δ mY_X9_tries [.ref 95, .int v1_, .int v2_, .int v3_, .int v4_] (mj_fin m_) (none, (mj_fin a_))) {v2 : Int32} (hδ : 4 ≤ δ) : ∀ (n : Nat) (s : Int32 × mj_m) (a : mj_m), mj_lp n (f_X9_tries_79 N rc v2) s = some a → mj_Go (mj_EX L xs) (δ + 1) mY_X9_tries 79 [(0, .ref 95), (2, .int v2), (7, .int s.1)] [] (mj_fin s.2) (none, (mj_fin a)) := by
  refine mj_lp_sound (fun k_79 s a q_79 h => ?_)
  unfold f_X9_tries_79 at h
  refine mj_go_iload (i := 7) (x := s.1) rfl (mj_dt dt_X9_tries 42 rfl) ?_
  refine mj_go_iload_n (k := 2) (x := v2) rfl (mj_dt dt_X9_tries 43 rfl) ?_
  refine mj_go_icmp_ge (tgt := 105) rfl (mj_dt dt_X9_tries 44 rfl) (fun b1 => ?_) (fun b1 => ?_)
  · rw [if_pos b1] at h
    obtain rfl := Option.some.inj h
    exact mj_go_ret (v := none) (Nat.le_of_ble_eq_true rfl) (mj_retV (mj_dt dt_X9_tries 55 rfl) rfl)
  · rw [if_neg b1] at h
    refine mj_go_aload_n (k := 0) (x := 95) rfl (mj_dt dt_X9_tries 45 rfl) ?_
    refine ml_getR (c := 9) (k := 49) (q := 125) fd_9_49 rf_95_49 (Or.inl fl_X9_114) ho_95 (mj_dt dt_X9_tries 46 rfl) ?_
    refine mj_go_iload (i := 7) (x := s.1) rfl (mj_dt dt_X9_tries 47 rfl) ?_
    refine mj_go_aload_n (k := 0) (x := 95) rfl (mj_dt dt_X9_tries 48 rfl) ?_
    refine ml_getR (c := 9) (k := 50) (q := 126) fd_9_50 rf_95_50 (Or.inl fl_X9_117) ho_95 (mj_dt dt_X9_tries 49 rfl) ?_
    refine mj_go_iload (i := 7) (x := s.1) rfl (mj_dt dt_X9_tries 50 rfl) ?_
    obtain ⟨c2, h⟩ := mj_ck_some h
    refine mk_iald c2 (mj_dt dt_X9_tries 51 rfl) ?_
    obtain ⟨c3, h⟩ := mj_ck_some h
    obtain ⟨m4, em4, h⟩ := mj_mw_some h
    refine ml_iast c3 (mj_dt dt_X9_tries 52 rfl) ?_
    refine ml_eqm (M1 := (mj_fin m4)) (by rw [em4] <;> rfl) ?_
    obtain ⟨x5, ex5, h⟩ := mj_mw_some h
    refine mj_go_iinc (i := 7) (x := s.1) (v := x5) rfl (by rw [ex5] <;> rfl) (by decide) (mj_dt dt_X9_tries 53 rfl) ?_
    refine mj_go_goto (tgt := 79) rfl (mj_dt dt_X9_tries 54 rfl) ?_
    refine mj_go_sub (lv' := [(0, .ref 95), (2, .int v2), (7, .int x5)]) (List.forall_mem_cons.mpr ⟨rfl, (List.forall_mem_cons.mpr ⟨rfl, (List.forall_mem_cons.mpr ⟨rfl, (fun _ h9 => absurd h9 List.not_mem_nil)⟩)⟩)⟩) ?_
    exact q_79 _ _ h
def f_X9_tries_65 (N : Nat) (rc : Int32 → Int32 → Int32 → Int32 → mj_m → Option (mj_m)) (v2 : Int32) (v5 : Int64) (m : mj_m) : Option (mj_m) := mj_mw (mj_wI m 95 52 1) (fun m1 => mj_mw (mj_wL m1 95 51 v5) (fun m2 => mj_lp N (f_X9_tries_79 N rc v2) (0, m2)))
theorem k_X9_tries_65 {L : Nat} {xs : Nat → Int32} {δ N : Nat} {rc : Int32 → Int32 → Int32 → Int32 → mj_m → Option (mj_m)} (hrc : ∀ v1_ v2_ v3_ v4_ m_ a_, rc v1_ v2_ v3_ v4_ m_ = some a_ → mj_Cl (mj_EX L xs) δ mY_X9_tries [.ref 95, .int v1_, .int v2_, .int v3_, .int v4_] (mj_fin m_) (none, (mj_fin a_))) {v2 : Int32} {v5 : Int64} {m : mj_m} (hδ : 4 ≤ δ) {a : mj_m} (h : f_X9_tries_65 N rc v2 v5 m = some a) : mj_Go (mj_EX L xs) (δ + 1) mY_X9_tries 65 [(0, .ref 95), (2, .int v2), (5, .long v5)] [] (mj_fin m) (none, (mj_fin a)) := by
  unfold f_X9_tries_65 at h
  refine mj_go_aload_n (k := 0) (x := 95) rfl (mj_dt dt_X9_tries 34 rfl) ?_
  refine mj_go_iconst (v := 1) rfl (mj_dt dt_X9_tries 35 rfl) ?_
  obtain ⟨m1, em1, h⟩ := mj_mw_some h
  refine ml_putZ (c := 9) (k := 52) rfl fd_9_52 rfl fl_X9_305 ho_95 (mj_dt dt_X9_tries 36 rfl) ?_
  refine ml_eqm (M1 := (mj_fin m1)) (by rw [em1] <;> rfl) ?_
  refine mj_go_aload_n (k := 0) (x := 95) rfl (mj_dt dt_X9_tries 37 rfl) ?_
  refine mj_go_lload (i := 5) (x := v5) rfl (mj_dt dt_X9_tries 38 rfl) ?_
  obtain ⟨m2, em2, h⟩ := mj_mw_some h
  refine ml_putL (c := 9) (k := 51) fd_9_51 rfl fl_X9_309 ho_95 (mj_dt dt_X9_tries 39 rfl) ?_
  refine ml_eqm (M1 := (mj_fin m2)) (by rw [em2] <;> rfl) ?_
  refine mj_go_iconst (v := 0) rfl (mj_dt dt_X9_tries 40 rfl) ?_
  refine mj_go_istore (i := 7) (by decide) (mj_dt dt_X9_tries 41 rfl) ?_
  refine mj_go_sub (lv' := [(0, .ref 95), (2, .int v2), (7, .int 0)]) (List.forall_mem_cons.mpr ⟨rfl, (List.forall_mem_cons.mpr ⟨rfl, (List.forall_mem_cons.mpr ⟨rfl, (fun _ h9 => absurd h9 List.not_mem_nil)⟩)⟩)⟩) ?_
  exact k_X9_tries_79 hrc hδ N _ _ h
def f_X9_tries_9 (N : Nat) (rc : Int32 → Int32 → Int32 → Int32 → mj_m → Option (mj_m)) (v1 : Int32) (v2 : Int32) (k_9 : Int32 × mj_m → Option (mj_m)) (s : Int32 × mj_m) : Option (mj_m) := if v2 ≤ s.1 then (mj_mw (mj_wI s.2 95 46 v2) (fun m2 => (f_X9_planned N v1 m2).bind (fun r3 => if (r3.2.1 95 52) = 0 then f_X9_tries_65 N rc v2 r3.1 r3.2 else (if (lg_cmp r3.1 (r3.2.2 95 51)) < 0 then f_X9_tries_65 N rc v2 r3.1 r3.2 else (some r3.2))))) else (mj_ck (mj_b 0 126 s.1) ( mj_ck (mj_b 0 124 s.1) ( mj_mw (mj_wI s.2 124 (s.1.toNatClampNeg) (s.2.1 126 s.1.toNatClampNeg)) (fun m4 => mj_mw (s.1 + 1) (fun x5 => k_9 (x5, m4))))))
theorem k_X9_tries_9 {L : Nat} {xs : Nat → Int32} {δ N : Nat} {rc : Int32 → Int32 → Int32 → Int32 → mj_m → Option (mj_m)} (hrc : ∀ v1_ v2_ v3_ v4_ m_ a_, rc v1_ v2_ v3_ v4_ m_ = some a_ → mj_Cl (mj_EX L xs) δ mY_X9_tries [.ref 95, .int v1_, .int v2_, .int v3_, .int v4_] (mj_fin m_) (none, (mj_fin a_))) {v1 : Int32} {v2 : Int32} (hδ : 4 ≤ δ) : ∀ (n : Nat) (s : Int32 × mj_m) (a : mj_m), mj_lp n (f_X9_tries_9 N rc v1 v2) s = some a → mj_Go (mj_EX L xs) (δ + 1) mY_X9_tries 9 [(0, .ref 95), (1, .int v1), (2, .int v2), (5, .int s.1)] [] (mj_fin s.2) (none, (mj_fin a)) := by
  refine mj_lp_sound (fun k_9 s a q_9 h => ?_)
  unfold f_X9_tries_9 at h
  refine mj_go_iload (i := 5) (x := s.1) rfl (mj_dt dt_X9_tries 5 rfl) ?_
  refine mj_go_iload_n (k := 2) (x := v2) rfl (mj_dt dt_X9_tries 6 rfl) ?_
  refine mj_go_icmp_ge (tgt := 35) rfl (mj_dt dt_X9_tries 7 rfl) (fun b1 => ?_) (fun b1 => ?_)
  · rw [if_pos b1] at h
    refine mj_go_aload_n (k := 0) (x := 95) rfl (mj_dt dt_X9_tries 18 rfl) ?_
    refine mj_go_iload_n (k := 2) (x := v2) rfl (mj_dt dt_X9_tries 19 rfl) ?_
    obtain ⟨m2, em2, h⟩ := mj_mw_some h
    refine ml_putI (c := 9) (k := 46) fd_9_46 rfl fl_X9_287 ho_95 (mj_dt dt_X9_tries 20 rfl) ?_
    refine ml_eqm (M1 := (mj_fin m2)) (by rw [em2] <;> rfl) ?_
    refine mj_go_aload_n (k := 0) (x := 95) rfl (mj_dt dt_X9_tries 21 rfl) ?_
    refine mj_go_iload_n (k := 1) (x := v1) rfl (mj_dt dt_X9_tries 22 rfl) ?_
    obtain ⟨r3, er3, h⟩ := mj_bind_some h
    refine ml_callV (Y' := mY_X9_planned) (as := [.int v1]) (rest := []) (c := 9) (v := (some (.long r3.1))) (M1 := (mj_fin r3.2)) ho_95 rfl lm_X9_302 wc_X9_planned pl_X9_planned ok_X9_planned rfl rfl (Nat.le_of_ble_eq_true rfl) (k_X9_planned (by omega) er3) (mj_dt dt_X9_tries 23 rfl) ?_
    refine mj_go_lstore (i := 5) (by decide) (mj_dt dt_X9_tries 24 rfl) ?_
    refine mj_go_aload_n (k := 0) (x := 95) rfl (mj_dt dt_X9_tries 25 rfl) ?_
    refine mk_getI (c := 9) (k := 52) (Or.inr fd_9_52) (Or.inl fl_X9_305) ho_95 (mj_dt dt_X9_tries 26 rfl) ?_
    refine mj_go_if_eq (tgt := 65) rfl (mj_dt dt_X9_tries 27 rfl) (fun b4 => ?_) (fun b4 => ?_)
    · rw [if_pos b4] at h
      refine mj_go_sub (lv' := [(0, .ref 95), (2, .int v2), (5, .long r3.1)]) (List.forall_mem_cons.mpr ⟨rfl, (List.forall_mem_cons.mpr ⟨rfl, (List.forall_mem_cons.mpr ⟨rfl, (fun _ h9 => absurd h9 List.not_mem_nil)⟩)⟩)⟩) ?_
      exact k_X9_tries_65 hrc hδ h
    · rw [if_neg b4] at h
      refine mj_go_lload (i := 5) (x := r3.1) rfl (mj_dt dt_X9_tries 28 rfl) ?_
      refine mj_go_aload_n (k := 0) (x := 95) rfl (mj_dt dt_X9_tries 29 rfl) ?_
      refine mk_getL (c := 9) (k := 51) fd_9_51 (Or.inl fl_X9_309) ho_95 (mj_dt dt_X9_tries 30 rfl) ?_
      refine mj_go_lcmp (mj_dt dt_X9_tries 31 rfl) ?_
      refine mj_go_if_lt (tgt := 65) rfl (mj_dt dt_X9_tries 32 rfl) (fun b5 => ?_) (fun b5 => ?_)
      · rw [if_pos b5] at h
        refine mj_go_sub (lv' := [(0, .ref 95), (2, .int v2), (5, .long r3.1)]) (List.forall_mem_cons.mpr ⟨rfl, (List.forall_mem_cons.mpr ⟨rfl, (List.forall_mem_cons.mpr ⟨rfl, (fun _ h9 => absurd h9 List.not_mem_nil)⟩)⟩)⟩) ?_
        exact k_X9_tries_65 hrc hδ h
      · rw [if_neg b5] at h
        obtain rfl := Option.some.inj h
        exact mj_go_ret (v := none) (Nat.le_of_ble_eq_true rfl) (mj_retV (mj_dt dt_X9_tries 33 rfl) rfl)
  · rw [if_neg b1] at h
    refine mj_go_aload_n (k := 0) (x := 95) rfl (mj_dt dt_X9_tries 8 rfl) ?_
    refine ml_getR (c := 9) (k := 45) (q := 124) fd_9_45 rf_95_45 (Or.inl fl_X9_111) ho_95 (mj_dt dt_X9_tries 9 rfl) ?_
    refine mj_go_iload (i := 5) (x := s.1) rfl (mj_dt dt_X9_tries 10 rfl) ?_
    refine mj_go_aload_n (k := 0) (x := 95) rfl (mj_dt dt_X9_tries 11 rfl) ?_
    refine ml_getR (c := 9) (k := 50) (q := 126) fd_9_50 rf_95_50 (Or.inl fl_X9_117) ho_95 (mj_dt dt_X9_tries 12 rfl) ?_
    refine mj_go_iload (i := 5) (x := s.1) rfl (mj_dt dt_X9_tries 13 rfl) ?_
    obtain ⟨c2, h⟩ := mj_ck_some h
    refine mk_iald c2 (mj_dt dt_X9_tries 14 rfl) ?_
    obtain ⟨c3, h⟩ := mj_ck_some h
    obtain ⟨m4, em4, h⟩ := mj_mw_some h
    refine ml_iast c3 (mj_dt dt_X9_tries 15 rfl) ?_
    refine ml_eqm (M1 := (mj_fin m4)) (by rw [em4] <;> rfl) ?_
    obtain ⟨x5, ex5, h⟩ := mj_mw_some h
    refine mj_go_iinc (i := 5) (x := s.1) (v := x5) rfl (by rw [ex5] <;> rfl) (by decide) (mj_dt dt_X9_tries 16 rfl) ?_
    refine mj_go_goto (tgt := 9) rfl (mj_dt dt_X9_tries 17 rfl) ?_
    refine mj_go_sub (lv' := [(0, .ref 95), (1, .int v1), (2, .int v2), (5, .int x5)]) (List.forall_mem_cons.mpr ⟨rfl, (List.forall_mem_cons.mpr ⟨rfl, (List.forall_mem_cons.mpr ⟨rfl, (List.forall_mem_cons.mpr ⟨rfl, (fun _ h9 => absurd h9 List.not_mem_nil)⟩)⟩)⟩)⟩) ?_
    exact q_9 _ _ h
def f_X9_tries_b (N : Nat) (rc : Int32 → Int32 → Int32 → Int32 → mj_m → Option (mj_m)) (v1 : Int32) (v2 : Int32) (v3 : Int32) (v4 : Int32) (m : mj_m) : Option (mj_m) := if v4 = v2 then (mj_lp N (f_X9_tries_9 N rc v1 v2) (0, m)) else (mj_lp N (f_X9_tries_109 N rc v1 v2 v3 v4) (0, m))
theorem k_X9_tries_b {L : Nat} {xs : Nat → Int32} {δ N : Nat} {rc : Int32 → Int32 → Int32 → Int32 → mj_m → Option (mj_m)} (hrc : ∀ v1_ v2_ v3_ v4_ m_ a_, rc v1_ v2_ v3_ v4_ m_ = some a_ → mj_Cl (mj_EX L xs) δ mY_X9_tries [.ref 95, .int v1_, .int v2_, .int v3_, .int v4_] (mj_fin m_) (none, (mj_fin a_))) {v1 : Int32} {v2 : Int32} {v3 : Int32} {v4 : Int32} {m : mj_m} (hδ : 4 ≤ δ) {a : mj_m} (h : f_X9_tries_b N rc v1 v2 v3 v4 m = some a) : mj_Cl (mj_EX L xs) (δ + 1) mY_X9_tries [.ref 95, .int v1, .int v2, .int v3, .int v4] (mj_fin m) (none, (mj_fin a)) := by
  refine mj_cl_of ok_X9_tries (Nat.le_of_ble_eq_true rfl) ?_
  unfold f_X9_tries_b at h
  refine mj_go_iload (i := 4) (x := v4) rfl (mj_dt dt_X9_tries 0 rfl) ?_
  refine mj_go_iload_n (k := 2) (x := v2) rfl (mj_dt dt_X9_tries 1 rfl) ?_
  refine mj_go_icmp_ne (tgt := 106) rfl (mj_dt dt_X9_tries 2 rfl) (fun b1 => ?_) (fun b1 => ?_)
  · rw [if_neg b1] at h
    refine mj_go_iconst (v := 0) rfl (mj_dt dt_X9_tries 56 rfl) ?_
    refine mj_go_istore (i := 5) (by decide) (mj_dt dt_X9_tries 57 rfl) ?_
    refine mj_go_sub (lv' := [(0, .ref 95), (1, .int v1), (2, .int v2), (3, .int v3), (4, .int v4), (5, .int 0)]) (List.forall_mem_cons.mpr ⟨rfl, (List.forall_mem_cons.mpr ⟨rfl, (List.forall_mem_cons.mpr ⟨rfl, (List.forall_mem_cons.mpr ⟨rfl, (List.forall_mem_cons.mpr ⟨rfl, (List.forall_mem_cons.mpr ⟨rfl, (fun _ h9 => absurd h9 List.not_mem_nil)⟩)⟩)⟩)⟩)⟩)⟩) ?_
    exact k_X9_tries_109 hrc hδ N _ _ h
  · rw [if_pos b1] at h
    refine mj_go_iconst (v := 0) rfl (mj_dt dt_X9_tries 3 rfl) ?_
    refine mj_go_istore (i := 5) (by decide) (mj_dt dt_X9_tries 4 rfl) ?_
    refine mj_go_sub (lv' := [(0, .ref 95), (1, .int v1), (2, .int v2), (5, .int 0)]) (List.forall_mem_cons.mpr ⟨rfl, (List.forall_mem_cons.mpr ⟨rfl, (List.forall_mem_cons.mpr ⟨rfl, (List.forall_mem_cons.mpr ⟨rfl, (fun _ h9 => absurd h9 List.not_mem_nil)⟩)⟩)⟩)⟩) ?_
    exact k_X9_tries_9 hrc hδ N _ _ h
def f_X9_tries (N : Nat) : Nat → Int32 → Int32 → Int32 → Int32 → mj_m → Option (mj_m)
  | 0, _, _, _, _, _ => none
  | d + 1, v1, v2, v3, v4, m => f_X9_tries_b N (f_X9_tries N d) v1 v2 v3 v4 m
theorem k_X9_tries {L : Nat} {xs : Nat → Int32} {N : Nat} : ∀ (d δ : Nat) {v1 : Int32} {v2 : Int32} {v3 : Int32} {v4 : Int32} {m : mj_m} {a : mj_m}, d + 4 ≤ δ → f_X9_tries N d v1 v2 v3 v4 m = some a → mj_Cl (mj_EX L xs) δ mY_X9_tries [.ref 95, .int v1, .int v2, .int v3, .int v4] (mj_fin m) (none, (mj_fin a)) := by
  intro d
  induction d with
  | zero => intro δ v1 v2 v3 v4 m a _ h; cases h
  | succ d ih =>
    intro δ v1 v2 v3 v4 m a hd h
    obtain ⟨δ, rfl⟩ : ∃ d, δ = d + 1 := ⟨δ - 1, by omega⟩
    exact k_X9_tries_b (rc := f_X9_tries N d) (fun _ _ _ _ _ _ h9 => ih δ (by omega) h9) (by omega) h
