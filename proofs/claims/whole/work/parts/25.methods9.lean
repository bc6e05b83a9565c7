/-! METHODS as functions, and their rows over the small machine (printed by program from the printed instructions) -/
def f_X8_dead (N : Nat) (v1 : Int32) (v2 : Int32) (m : mj_m) : Option (Int64 × mj_m) := (f_X8_sumOf N v1 v2 0 m).bind (fun r1 => some (r1.1, r1.2))
theorem k_X8_dead {L : Nat} {xs : Nat → Int32} {δ N : Nat} {v1 : Int32} {v2 : Int32} {m : mj_m} (hδ : 4 ≤ δ) {a : Int64 × mj_m} (h : f_X8_dead N v1 v2 m = some a) : mj_Cl (mj_EX L xs) δ mY_X8_dead [.ref 0, .int v1, .int v2] (mj_fin m) (some (.long a.1), (mj_fin a.2)) := by
  obtain ⟨δ, rfl⟩ : ∃ d, δ = d + 1 := ⟨δ - 1, by omega⟩
  have hδ : 3 ≤ δ := by omega
  refine mj_cl_of ok_X8_dead (Nat.le_of_ble_eq_true rfl) ?_
  unfold f_X8_dead at h
  refine mj_go_aload_n (k := 0) (x := 0) rfl (mj_dt dt_X8_dead 0 rfl) ?_
  refine mj_go_iload_n (k := 1) (x := v1) rfl (mj_dt dt_X8_dead 1 rfl) ?_
  refine mj_go_iload_n (k := 2) (x := v2) rfl (mj_dt dt_X8_dead 2 rfl) ?_
  refine mj_go_iconst (v := 0) rfl (mj_dt dt_X8_dead 3 rfl) ?_
  obtain ⟨r1, er1, h⟩ := mj_bind_some h
  refine ml_callV (Y' := mY_X8_sumOf) (as := [.int v1, .int v2, .int 0]) (rest := []) (c := 8) (v := (some (.long r1.1))) (M1 := (mj_fin r1.2)) ho_0 rfl lm_X8_262 wc_X8_sumOf pl_X8_sumOf ok_X8_sumOf rfl rfl (Nat.le_of_ble_eq_true rfl) (k_X8_sumOf (by omega) er1) (mj_dt dt_X8_dead 4 rfl) ?_
  obtain rfl := Option.some.inj h
  exact mj_go_ret (v := some (.long r1.1)) (Nat.le_of_ble_eq_true rfl) (mj_retL (mj_dt dt_X8_dead 5 rfl) rfl)
def f_X9_dead_24 (N : Nat) (m : mj_m) : Option (Int64 × mj_m) := (f_X9_no N (-6 : Int32) m).bind (fun r1 => some (r1.1.toInt64, r1.2))
theorem k_X9_dead_24 {L : Nat} {xs : Nat → Int32} {δ N : Nat} {m : mj_m} (hδ : 2 ≤ δ) {a : Int64 × mj_m} (h : f_X9_dead_24 N m = some a) : mj_Go (mj_EX L xs) (δ + 1) mY_X9_dead 24 [(0, .ref 95)] [] (mj_fin m) (some (.long a.1), (mj_fin a.2)) := by
  unfold f_X9_dead_24 at h
  refine mj_go_aload_n (k := 0) (x := 95) rfl (mj_dt dt_X9_dead 14 rfl) ?_
  refine mj_go_bipush (v := -6) rfl (mj_dt dt_X9_dead 15 rfl) ?_
  obtain ⟨r1, er1, h⟩ := mj_bind_some h
  refine ml_callV (Y' := mY_X9_no) (as := [.int (-6 : Int32)]) (rest := []) (c := 9) (v := (some (.int r1.1))) (M1 := (mj_fin r1.2)) ho_95 rfl lm_X9_134 wc_X9_no pl_X9_no ok_X9_no rfl rfl (Nat.le_of_ble_eq_true rfl) (k_X9_no (by omega) er1) (mj_dt dt_X9_dead 16 rfl) ?_
  refine mj_go_i2l (mj_dt dt_X9_dead 17 rfl) ?_
  obtain rfl := Option.some.inj h
  exact mj_go_ret (v := some (.long (r1.1.toInt64))) (Nat.le_of_ble_eq_true rfl) (mj_retL (mj_dt dt_X9_dead 18 rfl) rfl)
def f_X9_dead (N : Nat) (v1 : Int32) (v2 : Int32) (m : mj_m) : Option (Int64 × mj_m) := (f_X9_isShake N v1 m).bind (fun r1 => if r1 = 0 then ((f_X9_no N (-1 : Int32) m).bind (fun r3 => some (r3.1.toInt64, r3.2))) else (if v2 < 0 then f_X9_dead_24 N m else (if v2 ≤ 1 then ((f_X9_worthsBy N v2 0 m).bind (fun r5 => (f_X9_lostBy N v1 r5).bind (fun r6 => some (r6.1, r6.2)))) else f_X9_dead_24 N m)))
theorem k_X9_dead {L : Nat} {xs : Nat → Int32} {δ N : Nat} {v1 : Int32} {v2 : Int32} {m : mj_m} (hδ : 3 ≤ δ) {a : Int64 × mj_m} (h : f_X9_dead N v1 v2 m = some a) : mj_Cl (mj_EX L xs) δ mY_X9_dead [.ref 95, .int v1, .int v2] (mj_fin m) (some (.long a.1), (mj_fin a.2)) := by
  obtain ⟨δ, rfl⟩ : ∃ d, δ = d + 1 := ⟨δ - 1, by omega⟩
  have hδ : 2 ≤ δ := by omega
  refine mj_cl_of ok_X9_dead (Nat.le_of_ble_eq_true rfl) ?_
  unfold f_X9_dead at h
  refine mj_go_aload_n (k := 0) (x := 95) rfl (mj_dt dt_X9_dead 0 rfl) ?_
  refine mj_go_iload_n (k := 1) (x := v1) rfl (mj_dt dt_X9_dead 1 rfl) ?_
  obtain ⟨r1, er1, h⟩ := mj_bind_some h
  refine ml_callV (Y' := mY_X9_isShake) (as := [.int v1]) (rest := []) (c := 9) (v := (some (.int r1))) (M1 := (mj_fin m)) ho_95 rfl lm_X9_234 wc_X9_isShake pl_X9_isShake ok_X9_isShake rfl rfl (Nat.le_of_ble_eq_true rfl) (k_X9_isShake (by omega) er1) (mj_dt dt_X9_dead 2 rfl) ?_
  refine mj_go_if_ne (tgt := 15) rfl (mj_dt dt_X9_dead 3 rfl) (fun b2 => ?_) (fun b2 => ?_)
  · rw [if_neg b2] at h
    refine mj_go_iload_n (k := 2) (x := v2) rfl (mj_dt dt_X9_dead 9 rfl) ?_
    refine mj_go_if_lt (tgt := 24) rfl (mj_dt dt_X9_dead 10 rfl) (fun b3 => ?_) (fun b3 => ?_)
    · rw [if_pos b3] at h
      refine mj_go_sub (lv' := [(0, .ref 95)]) (List.forall_mem_cons.mpr ⟨rfl, (fun _ h9 => absurd h9 List.not_mem_nil)⟩) ?_
      exact k_X9_dead_24 hδ h
    · rw [if_neg b3] at h
      refine mj_go_iload_n (k := 2) (x := v2) rfl (mj_dt dt_X9_dead 11 rfl) ?_
      refine mj_go_iconst (v := 1) rfl (mj_dt dt_X9_dead 12 rfl) ?_
      refine mj_go_icmp_le (tgt := 32) rfl (mj_dt dt_X9_dead 13 rfl) (fun b4 => ?_) (fun b4 => ?_)
      · rw [if_pos b4] at h
        refine mj_go_aload_n (k := 0) (x := 95) rfl (mj_dt dt_X9_dead 19 rfl) ?_
        refine mj_go_iload_n (k := 2) (x := v2) rfl (mj_dt dt_X9_dead 20 rfl) ?_
        refine mj_go_iconst (v := 0) rfl (mj_dt dt_X9_dead 21 rfl) ?_
        obtain ⟨r5, er5, h⟩ := mj_bind_some h
        refine ml_callV (Y' := mY_X9_worthsBy) (as := [.int v2, .int 0]) (rest := []) (c := 9) (v := none) (M1 := (mj_fin r5)) ho_95 rfl lm_X9_251 wc_X9_worthsBy pl_X9_worthsBy ok_X9_worthsBy rfl rfl (Nat.le_of_ble_eq_true rfl) (k_X9_worthsBy (by omega) er5) (mj_dt dt_X9_dead 22 rfl) ?_
        refine mj_go_aload_n (k := 0) (x := 95) rfl (mj_dt dt_X9_dead 23 rfl) ?_
        refine mj_go_iload_n (k := 1) (x := v1) rfl (mj_dt dt_X9_dead 24 rfl) ?_
        obtain ⟨r6, er6, h⟩ := mj_bind_some h
        refine ml_callV (Y' := mY_X9_lostBy) (as := [.int v1]) (rest := []) (c := 9) (v := (some (.long r6.1))) (M1 := (mj_fin r6.2)) ho_95 rfl lm_X9_255 wc_X9_lostBy pl_X9_lostBy ok_X9_lostBy rfl rfl (Nat.le_of_ble_eq_true rfl) (k_X9_lostBy (by omega) er6) (mj_dt dt_X9_dead 25 rfl) ?_
        obtain rfl := Option.some.inj h
        exact mj_go_ret (v := some (.long r6.1)) (Nat.le_of_ble_eq_true rfl) (mj_retL (mj_dt dt_X9_dead 26 rfl) rfl)
      · rw [if_neg b4] at h
        refine mj_go_sub (lv' := [(0, .ref 95)]) (List.forall_mem_cons.mpr ⟨rfl, (fun _ h9 => absurd h9 List.not_mem_nil)⟩) ?_
        exact k_X9_dead_24 hδ h
  · rw [if_pos b2] at h
    refine mj_go_aload_n (k := 0) (x := 95) rfl (mj_dt dt_X9_dead 4 rfl) ?_
    refine mj_go_iconst (v := -1) rfl (mj_dt dt_X9_dead 5 rfl) ?_
    obtain ⟨r3, er3, h⟩ := mj_bind_some h
    refine ml_callV (Y' := mY_X9_no) (as := [.int (-1 : Int32)]) (rest := []) (c := 9) (v := (some (.int r3.1))) (M1 := (mj_fin r3.2)) ho_95 rfl lm_X9_134 wc_X9_no pl_X9_no ok_X9_no rfl rfl (Nat.le_of_ble_eq_true rfl) (k_X9_no (by omega) er3) (mj_dt dt_X9_dead 6 rfl) ?_
    refine mj_go_i2l (mj_dt dt_X9_dead 7 rfl) ?_
    obtain rfl := Option.some.inj h
    exact mj_go_ret (v := some (.long (r3.1.toInt64))) (Nat.le_of_ble_eq_true rfl) (mj_retL (mj_dt dt_X9_dead 8 rfl) rfl)
def f_J7_fill_53178_5 (N : Nat) (v0 : Nat) (v1 : Int32) (v3 : Int32) (k_5 : Int32 × mj_m → Option (mj_m)) (s : Int32 × mj_m) : Option (mj_m) := if v3 ≤ s.1 then (some s.2) else (mj_ck (mj_b 0 v0 s.1) ( mj_mw (mj_wI s.2 v0 (s.1.toNatClampNeg) v1) (fun m3 => mj_mw (s.1 + 1) (fun x4 => k_5 (x4, m3)))))
theorem k_J7_fill_53178_5 {L : Nat} {xs : Nat → Int32} {δ N : Nat} {v0 : Nat} {v1 : Int32} {v3 : Int32} : ∀ (n : Nat) (s : Int32 × mj_m) (a : mj_m), mj_lp n (f_J7_fill_53178_5 N v0 v1 v3) s = some a → mj_Go (mj_EX L xs) δ mY_J7_fill_53178 5 [(0, .ref v0), (1, .int v1), (2, .int s.1), (3, .int v3)] [] (mj_fin s.2) (none, (mj_fin a)) := by
  refine mj_lp_sound (fun k_5 s a q_5 h => ?_)
  unfold f_J7_fill_53178_5 at h
  refine mj_go_iload_n (k := 2) (x := s.1) rfl (mj_dt dt_J7_fill_53178 5 rfl) ?_
  refine mj_go_iload_n (k := 3) (x := v3) rfl (mj_dt dt_J7_fill_53178 6 rfl) ?_
  refine mj_go_icmp_ge (tgt := 20) rfl (mj_dt dt_J7_fill_53178 7 rfl) (fun b1 => ?_) (fun b1 => ?_)
  · rw [if_pos b1] at h
    obtain rfl := Option.some.inj h
    exact mj_go_ret (v := none) (Nat.le_of_ble_eq_true rfl) (mj_retV (mj_dt dt_J7_fill_53178 14 rfl) rfl)
  · rw [if_neg b1] at h
    refine mj_go_aload_n (k := 0) (x := v0) rfl (mj_dt dt_J7_fill_53178 8 rfl) ?_
    refine mj_go_iload_n (k := 2) (x := s.1) rfl (mj_dt dt_J7_fill_53178 9 rfl) ?_
    refine mj_go_iload_n (k := 1) (x := v1) rfl (mj_dt dt_J7_fill_53178 10 rfl) ?_
    obtain ⟨c2, h⟩ := mj_ck_some h
    obtain ⟨m3, em3, h⟩ := mj_mw_some h
    refine ml_iast c2 (mj_dt dt_J7_fill_53178 11 rfl) ?_
    refine ml_eqm (M1 := (mj_fin m3)) (by rw [em3] <;> rfl) ?_
    obtain ⟨x4, ex4, h⟩ := mj_mw_some h
    refine mj_go_iinc (i := 2) (x := s.1) (v := x4) rfl (by rw [ex4] <;> rfl) (by decide) (mj_dt dt_J7_fill_53178 12 rfl) ?_
    refine mj_go_goto (tgt := 5) rfl (mj_dt dt_J7_fill_53178 13 rfl) ?_
    refine mj_go_sub (lv' := [(0, .ref v0), (1, .int v1), (2, .int x4), (3, .int v3)]) (List.forall_mem_cons.mpr ⟨rfl, (List.forall_mem_cons.mpr ⟨rfl, (List.forall_mem_cons.mpr ⟨rfl, (List.forall_mem_cons.mpr ⟨rfl, (fun _ h9 => absurd h9 List.not_mem_nil)⟩)⟩)⟩)⟩) ?_
    exact q_5 _ _ h
def f_J7_fill_53178 (N : Nat) (v0 : Nat) (v1 : Int32) (m : mj_m) : Option (mj_m) := mj_ck (mj_ar 0 v0) ( mj_mw (Int32.ofNat (mj_sh v0).2) (fun x2 => mj_lp N (f_J7_fill_53178_5 N v0 v1 x2) (0, m)))
theorem k_J7_fill_53178 {L : Nat} {xs : Nat → Int32} {δ N : Nat} {v0 : Nat} {v1 : Int32} {m : mj_m} (_ : 0 ≤ δ) {a : mj_m} (h : f_J7_fill_53178 N v0 v1 m = some a) : mj_Cl (mj_EX L xs) δ mY_J7_fill_53178 [.ref v0, .int v1] (mj_fin m) (none, (mj_fin a)) := by
  refine mj_cl_of ok_J7_fill_53178 (Nat.le_of_ble_eq_true rfl) ?_
  unfold f_J7_fill_53178 at h
  refine mj_go_iconst (v := 0) rfl (mj_dt dt_J7_fill_53178 0 rfl) ?_
  refine mj_go_istore_n (k := 2) (by decide) (mj_dt dt_J7_fill_53178 1 rfl) ?_
  refine mj_go_aload_n (k := 0) (x := v0) rfl (mj_dt dt_J7_fill_53178 2 rfl) ?_
  obtain ⟨c1, h⟩ := mj_ck_some h
  refine mj_go_alen (mj_ar_use c1).1 (k := 0) (by decide) (mj_ar_use c1).2 (mj_dt dt_J7_fill_53178 3 rfl) ?_
  obtain ⟨x2, ex2, h⟩ := mj_mw_some h
  refine ml_eqi ex2 ?_
  refine mj_go_istore_n (k := 3) (by decide) (mj_dt dt_J7_fill_53178 4 rfl) ?_
  refine mj_go_sub (lv' := [(0, .ref v0), (1, .int v1), (2, .int 0), (3, .int x2)]) (List.forall_mem_cons.mpr ⟨rfl, (List.forall_mem_cons.mpr ⟨rfl, (List.forall_mem_cons.mpr ⟨rfl, (List.forall_mem_cons.mpr ⟨rfl, (fun _ h9 => absurd h9 List.not_mem_nil)⟩)⟩)⟩)⟩) ?_
  exact k_J7_fill_53178_5 N _ _ h
def f_X2_weighCut_18 (N : Nat) (v1 : Int32) (k_18 : Int32 × mj_m → Option (mj_m)) (s : Int32 × mj_m) : Option (mj_m) := if (1 <<< ((s.2.1 36 9) &&& 31)) ≤ s.1 then (some s.2) else (mj_ck (mj_b 0 41 s.1) ( mj_ck (mj_b 1 42 s.1) ( mj_mw (mj_wL s.2 42 (s.1.toNatClampNeg) ((((s.2.1 41 s.1.toNatClampNeg) >>> (v1 &&& 31)) &&& 1).toInt64)) (fun m4 => mj_mw (s.1 + 1) (fun x5 => k_18 (x5, m4))))))
theorem k_X2_weighCut_18 {L : Nat} {xs : Nat → Int32} {δ N : Nat} {v1 : Int32} (hδ : 1 ≤ δ) : ∀ (n : Nat) (s : Int32 × mj_m) (a : mj_m), mj_lp n (f_X2_weighCut_18 N v1) s = some a → mj_Go (mj_EX L xs) (δ + 1) mY_X2_weighCut 18 [(0, .ref 36), (1, .int v1), (2, .int s.1)] [] (mj_fin s.2) (none, (mj_fin a)) := by
  refine mj_lp_sound (fun k_18 s a q_18 h => ?_)
  unfold f_X2_weighCut_18 at h
  refine mj_go_iload_n (k := 2) (x := s.1) rfl (mj_dt dt_X2_weighCut 10 rfl) ?_
  refine mj_go_iconst (v := 1) rfl (mj_dt dt_X2_weighCut 11 rfl) ?_
  refine mj_go_aload_n (k := 0) (x := 36) rfl (mj_dt dt_X2_weighCut 12 rfl) ?_
  refine mk_getI (c := 2) (k := 9) (Or.inl fd_2_9) (Or.inl fl_X2_37) ho_36 (mj_dt dt_X2_weighCut 13 rfl) ?_
  refine mj_go_ishl (mj_dt dt_X2_weighCut 14 rfl) ?_
  refine mj_go_icmp_ge (tgt := 51) rfl (mj_dt dt_X2_weighCut 15 rfl) (fun b1 => ?_) (fun b1 => ?_)
  · rw [if_pos b1] at h
    obtain rfl := Option.some.inj h
    exact mj_go_ret (v := none) (Nat.le_of_ble_eq_true rfl) (mj_retV (mj_dt dt_X2_weighCut 31 rfl) rfl)
  · rw [if_neg b1] at h
    refine mj_go_aload_n (k := 0) (x := 36) rfl (mj_dt dt_X2_weighCut 16 rfl) ?_
    refine ml_getR (c := 2) (k := 6) (q := 42) fd_2_6 rf_36_6 (Or.inl fl_X2_27) ho_36 (mj_dt dt_X2_weighCut 17 rfl) ?_
    refine mj_go_iload_n (k := 2) (x := s.1) rfl (mj_dt dt_X2_weighCut 18 rfl) ?_
    refine mj_go_aload_n (k := 0) (x := 36) rfl (mj_dt dt_X2_weighCut 19 rfl) ?_
    refine ml_getR (c := 2) (k := 5) (q := 41) fd_2_5 rf_36_5 (Or.inl fl_X2_24) ho_36 (mj_dt dt_X2_weighCut 20 rfl) ?_
    refine mj_go_iload_n (k := 2) (x := s.1) rfl (mj_dt dt_X2_weighCut 21 rfl) ?_
    obtain ⟨c2, h⟩ := mj_ck_some h
    refine mk_iald c2 (mj_dt dt_X2_weighCut 22 rfl) ?_
    refine mj_go_iload_n (k := 1) (x := v1) rfl (mj_dt dt_X2_weighCut 23 rfl) ?_
    refine mj_go_ishr (mj_dt dt_X2_weighCut 24 rfl) ?_
    refine mj_go_iconst (v := 1) rfl (mj_dt dt_X2_weighCut 25 rfl) ?_
    refine mj_go_iand (mj_dt dt_X2_weighCut 26 rfl) ?_
    refine mj_go_i2l (mj_dt dt_X2_weighCut 27 rfl) ?_
    obtain ⟨c3, h⟩ := mj_ck_some h
    obtain ⟨m4, em4, h⟩ := mj_mw_some h
    refine ml_last c3 (mj_dt dt_X2_weighCut 28 rfl) ?_
    refine ml_eqm (M1 := (mj_fin m4)) (by rw [em4] <;> rfl) ?_
    obtain ⟨x5, ex5, h⟩ := mj_mw_some h
    refine mj_go_iinc (i := 2) (x := s.1) (v := x5) rfl (by rw [ex5] <;> rfl) (by decide) (mj_dt dt_X2_weighCut 29 rfl) ?_
    refine mj_go_goto (tgt := 18) rfl (mj_dt dt_X2_weighCut 30 rfl) ?_
    refine mj_go_sub (lv' := [(0, .ref 36), (1, .int v1), (2, .int x5)]) (List.forall_mem_cons.mpr ⟨rfl, (List.forall_mem_cons.mpr ⟨rfl, (List.forall_mem_cons.mpr ⟨rfl, (fun _ h9 => absurd h9 List.not_mem_nil)⟩)⟩)⟩) ?_
    exact q_18 _ _ h
def f_X2_weighCut (N : Nat) (v1 : Int32) (m : mj_m) : Option (mj_m) := (f_X2_findFronted N m).bind (fun r1 => (f_X2_cutBySets N r1).bind (fun r2 => (f_J7_fill_53178 N 38 0 r2).bind (fun r3 => mj_lp N (f_X2_weighCut_18 N v1) (0, r3))))
theorem k_X2_weighCut {L : Nat} {xs : Nat → Int32} {δ N : Nat} {v1 : Int32} {m : mj_m} (hδ : 2 ≤ δ) {a : mj_m} (h : f_X2_weighCut N v1 m = some a) : mj_Cl (mj_EX L xs) δ mY_X2_weighCut [.ref 36, .int v1] (mj_fin m) (none, (mj_fin a)) := by
  obtain ⟨δ, rfl⟩ : ∃ d, δ = d + 1 := ⟨δ - 1, by omega⟩
  have hδ : 1 ≤ δ := by omega
  refine mj_cl_of ok_X2_weighCut (Nat.le_of_ble_eq_true rfl) ?_
  unfold f_X2_weighCut at h
  refine mj_go_aload_n (k := 0) (x := 36) rfl (mj_dt dt_X2_weighCut 0 rfl) ?_
  obtain ⟨r1, er1, h⟩ := mj_bind_some h
  refine ml_callV (Y' := mY_X2_findFronted) (as := []) (rest := []) (c := 2) (v := none) (M1 := (mj_fin r1)) ho_36 rfl lm_X2_69 wc_X2_findFronted pl_X2_findFronted ok_X2_findFronted rfl rfl (Nat.le_of_ble_eq_true rfl) (k_X2_findFronted (by omega) er1) (mj_dt dt_X2_weighCut 1 rfl) ?_
  refine mj_go_aload_n (k := 0) (x := 36) rfl (mj_dt dt_X2_weighCut 2 rfl) ?_
  obtain ⟨r2, er2, h⟩ := mj_bind_some h
  refine ml_callV (Y' := mY_X2_cutBySets) (as := []) (rest := []) (c := 2) (v := none) (M1 := (mj_fin r2)) ho_36 rfl lm_X2_72 wc_X2_cutBySets pl_X2_cutBySets ok_X2_cutBySets rfl rfl (Nat.le_of_ble_eq_true rfl) (k_X2_cutBySets (by omega) er2) (mj_dt dt_X2_weighCut 3 rfl) ?_
  refine mj_go_aload_n (k := 0) (x := 36) rfl (mj_dt dt_X2_weighCut 4 rfl) ?_
  refine ml_getR (c := 2) (k := 2) (q := 38) fd_2_2 rf_36_2 (Or.inl fl_X2_15) ho_36 (mj_dt dt_X2_weighCut 5 rfl) ?_
  refine mj_go_iconst (v := 0) rfl (mj_dt dt_X2_weighCut 6 rfl) ?_
  obtain ⟨r3, er3, h⟩ := mj_bind_some h
  refine ml_callS (Y' := mY_J7_fill_53178) (as := [.ref 38, .int 0]) (rest := []) (v := none) (M1 := (mj_fin r3)) lm_X2_100 wc_J7_fill_53178 pl_J7_fill_53178 ok_J7_fill_53178 rfl rfl (Nat.le_of_ble_eq_true rfl) (k_J7_fill_53178 (by omega) er3) (mj_dt dt_X2_weighCut 7 rfl) ?_
  refine mj_go_iconst (v := 0) rfl (mj_dt dt_X2_weighCut 8 rfl) ?_
  refine mj_go_istore_n (k := 2) (by decide) (mj_dt dt_X2_weighCut 9 rfl) ?_
  refine mj_go_sub (lv' := [(0, .ref 36), (1, .int v1), (2, .int 0)]) (List.forall_mem_cons.mpr ⟨rfl, (List.forall_mem_cons.mpr ⟨rfl, (List.forall_mem_cons.mpr ⟨rfl, (fun _ h9 => absurd h9 List.not_mem_nil)⟩)⟩)⟩) ?_
  exact k_X2_weighCut_18 hδ N _ _ h
def f_X8_shuts_18 (N : Nat) (m : mj_m) : Option (Int64 × mj_m) := (f_X8_refuse N 1 m).bind (fun r1 => some (r1.1.toInt64, r1.2))
theorem k_X8_shuts_18 {L : Nat} {xs : Nat → Int32} {δ N : Nat} {m : mj_m} (hδ : 2 ≤ δ) {a : Int64 × mj_m} (h : f_X8_shuts_18 N m = some a) : mj_Go (mj_EX L xs) (δ + 1) mY_X8_shuts 18 [(0, .ref 0)] [] (mj_fin m) (some (.long a.1), (mj_fin a.2)) := by
  unfold f_X8_shuts_18 at h
  refine mj_go_aload_n (k := 0) (x := 0) rfl (mj_dt dt_X8_shuts 8 rfl) ?_
  refine mj_go_iconst (v := 1) rfl (mj_dt dt_X8_shuts 9 rfl) ?_
  obtain ⟨r1, er1, h⟩ := mj_bind_some h
  refine ml_callV (Y' := mY_X8_refuse) (as := [.int 1]) (rest := []) (c := 8) (v := (some (.int r1.1))) (M1 := (mj_fin r1.2)) ho_0 rfl lm_X8_86 wc_X8_refuse pl_X8_refuse ok_X8_refuse rfl rfl (Nat.le_of_ble_eq_true rfl) (k_X8_refuse (by omega) er1) (mj_dt dt_X8_shuts 10 rfl) ?_
  refine mj_go_i2l (mj_dt dt_X8_shuts 11 rfl) ?_
  obtain rfl := Option.some.inj h
  exact mj_go_ret (v := some (.long (r1.1.toInt64))) (Nat.le_of_ble_eq_true rfl) (mj_retL (mj_dt dt_X8_shuts 12 rfl) rfl)
def f_X8_shuts (N : Nat) (v1 : Int32) (v2 : Int32) (m : mj_m) : Option (Int64 × mj_m) := (f_X8_isCorner N v1 m).bind (fun r1 => if r1 = 0 then f_X8_shuts_18 N m else ((f_X7_isShake N v2 m).bind (fun r3 => if r3 = 0 then f_X8_shuts_18 N m else ((f_X2_weighCut N v1 m).bind (fun r5 => (f_X2_sumOver N v2 5 r5).bind (fun r6 => some (r6.1, r6.2)))))))
theorem k_X8_shuts {L : Nat} {xs : Nat → Int32} {δ N : Nat} {v1 : Int32} {v2 : Int32} {m : mj_m} (hδ : 3 ≤ δ) {a : Int64 × mj_m} (h : f_X8_shuts N v1 v2 m = some a) : mj_Cl (mj_EX L xs) δ mY_X8_shuts [.ref 0, .int v1, .int v2] (mj_fin m) (some (.long a.1), (mj_fin a.2)) := by
  obtain ⟨δ, rfl⟩ : ∃ d, δ = d + 1 := ⟨δ - 1, by omega⟩
  have hδ : 2 ≤ δ := by omega
  refine mj_cl_of ok_X8_shuts (Nat.le_of_ble_eq_true rfl) ?_
  unfold f_X8_shuts at h
  refine mj_go_iload_n (k := 1) (x := v1) rfl (mj_dt dt_X8_shuts 0 rfl) ?_
  obtain ⟨r1, er1, h⟩ := mj_bind_some h
  refine ml_callS (Y' := mY_X8_isCorner) (as := [.int v1]) (rest := []) (v := (some (.int r1))) (M1 := (mj_fin m)) lm_X8_164 wc_X8_isCorner pl_X8_isCorner ok_X8_isCorner rfl rfl (Nat.le_of_ble_eq_true rfl) (k_X8_isCorner (by omega) er1) (mj_dt dt_X8_shuts 1 rfl) ?_
  refine mj_go_if_eq (tgt := 18) rfl (mj_dt dt_X8_shuts 2 rfl) (fun b2 => ?_) (fun b2 => ?_)
  · rw [if_pos b2] at h
    refine mj_go_sub (lv' := [(0, .ref 0)]) (List.forall_mem_cons.mpr ⟨rfl, (fun _ h9 => absurd h9 List.not_mem_nil)⟩) ?_
    exact k_X8_shuts_18 hδ h
  · rw [if_neg b2] at h
    refine mj_go_aload_n (k := 0) (x := 0) rfl (mj_dt dt_X8_shuts 3 rfl) ?_
    refine ml_getR (c := 8) (k := 0) (q := 1) fd_8_0 rf_0_0 (Or.inl fl_X8_12) ho_0 (mj_dt dt_X8_shuts 4 rfl) ?_
    refine mj_go_iload_n (k := 2) (x := v2) rfl (mj_dt dt_X8_shuts 5 rfl) ?_
    obtain ⟨r3, er3, h⟩ := mj_bind_some h
    refine ml_callV (Y' := mY_X7_isShake) (as := [.int v2]) (rest := []) (c := 7) (v := (some (.int r3))) (M1 := (mj_fin m)) ho_1 rfl lm_X8_246 wc_X7_isShake pl_X7_isShake ok_X7_isShake rfl rfl (Nat.le_of_ble_eq_true rfl) (k_X7_isShake (by omega) er3) (mj_dt dt_X8_shuts 6 rfl) ?_
    refine mj_go_if_ne (tgt := 25) rfl (mj_dt dt_X8_shuts 7 rfl) (fun b4 => ?_) (fun b4 => ?_)
    · rw [if_neg b4] at h
      refine mj_go_aload_n (k := 0) (x := 0) rfl (mj_dt dt_X8_shuts 13 rfl) ?_
      refine ml_getR (c := 8) (k := 3) (q := 36) fd_8_3 rf_0_3 (Or.inl fl_X8_30) ho_0 (mj_dt dt_X8_shuts 14 rfl) ?_
      refine mj_go_iload_n (k := 1) (x := v1) rfl (mj_dt dt_X8_shuts 15 rfl) ?_
      obtain ⟨r5, er5, h⟩ := mj_bind_some h
      refine ml_callV (Y' := mY_X2_weighCut) (as := [.int v1]) (rest := []) (c := 2) (v := none) (M1 := (mj_fin r5)) ho_36 rfl lm_X8_274 wc_X2_weighCut pl_X2_weighCut ok_X2_weighCut rfl rfl (Nat.le_of_ble_eq_true rfl) (k_X2_weighCut (by omega) er5) (mj_dt dt_X8_shuts 16 rfl) ?_
      refine mj_go_aload_n (k := 0) (x := 0) rfl (mj_dt dt_X8_shuts 17 rfl) ?_
      refine ml_getR (c := 8) (k := 3) (q := 36) fd_8_3 rf_0_3 (Or.inl fl_X8_30) ho_0 (mj_dt dt_X8_shuts 18 rfl) ?_
      refine mj_go_iload_n (k := 2) (x := v2) rfl (mj_dt dt_X8_shuts 19 rfl) ?_
      refine mj_go_aload_n (k := 0) (x := 0) rfl (mj_dt dt_X8_shuts 20 rfl) ?_
      refine ml_getR (c := 8) (k := 0) (q := 1) fd_8_0 rf_0_0 (Or.inl fl_X8_12) ho_0 (mj_dt dt_X8_shuts 21 rfl) ?_
      refine ml_getR (c := 7) (k := 3) (q := 5) fd_7_3 rf_1_3 (Or.inl fl_X8_215) ho_1 (mj_dt dt_X8_shuts 22 rfl) ?_
      obtain ⟨r6, er6, h⟩ := mj_bind_some h
      refine ml_callV (Y' := mY_X2_sumOver) (as := [.int v2, .ref 5]) (rest := []) (c := 2) (v := (some (.long r6.1))) (M1 := (mj_fin r6.2)) ho_36 rfl lm_X8_270 wc_X2_sumOver pl_X2_sumOver ok_X2_sumOver rfl rfl (Nat.le_of_ble_eq_true rfl) (k_X2_sumOver (by omega) er6) (mj_dt dt_X8_shuts 23 rfl) ?_
      obtain rfl := Option.some.inj h
      exact mj_go_ret (v := some (.long r6.1)) (Nat.le_of_ble_eq_true rfl) (mj_retL (mj_dt dt_X8_shuts 24 rfl) rfl)
    · rw [if_pos b4] at h
      refine mj_go_sub (lv' := [(0, .ref 0)]) (List.forall_mem_cons.mpr ⟨rfl, (fun _ h9 => absurd h9 List.not_mem_nil)⟩) ?_
      exact k_X8_shuts_18 hδ h
def f_X9_shuts_16 (N : Nat) (m : mj_m) : Option (Int64 × mj_m) := (f_X9_no N (-1 : Int32) m).bind (fun r1 => some (r1.1.toInt64, r1.2))
theorem k_X9_shuts_16 {L : Nat} {xs : Nat → Int32} {δ N : Nat} {m : mj_m} (hδ : 1 ≤ δ) {a : Int64 × mj_m} (h : f_X9_shuts_16 N m = some a) : mj_Go (mj_EX L xs) (δ + 1) mY_X9_shuts 16 [(0, .ref 95)] [] (mj_fin m) (some (.long a.1), (mj_fin a.2)) := by
  unfold f_X9_shuts_16 at h
  refine mj_go_aload_n (k := 0) (x := 95) rfl (mj_dt dt_X9_shuts 8 rfl) ?_
  refine mj_go_iconst (v := -1) rfl (mj_dt dt_X9_shuts 9 rfl) ?_
  obtain ⟨r1, er1, h⟩ := mj_bind_some h
  refine ml_callV (Y' := mY_X9_no) (as := [.int (-1 : Int32)]) (rest := []) (c := 9) (v := (some (.int r1.1))) (M1 := (mj_fin r1.2)) ho_95 rfl lm_X9_134 wc_X9_no pl_X9_no ok_X9_no rfl rfl (Nat.le_of_ble_eq_true rfl) (k_X9_no (by omega) er1) (mj_dt dt_X9_shuts 10 rfl) ?_
  refine mj_go_i2l (mj_dt dt_X9_shuts 11 rfl) ?_
  obtain rfl := Option.some.inj h
  exact mj_go_ret (v := some (.long (r1.1.toInt64))) (Nat.le_of_ble_eq_true rfl) (mj_retL (mj_dt dt_X9_shuts 12 rfl) rfl)
def f_X9_shuts_68 (N : Nat) (k_33 : Int64 × Int32 → Option (Int64 × mj_m)) (v1 : Int32) (v3 : Int64) (v5 : Int32) (m : mj_m) : Option (Int64 × mj_m) := mj_mw (v5 + 1) (fun x1 => k_33 (v3, x1))
theorem k_X9_shuts_68 {L : Nat} {xs : Nat → Int32} {δ N : Nat} {v1 : Int32} {v3 : Int64} {v5 : Int32} {m : mj_m} {k_33 : Int64 × Int32 → Option (Int64 × mj_m)} (q_33 : ∀ (s_ : Int64 × Int32) (a_ : Int64 × mj_m), k_33 s_ = some a_ → mj_Go (mj_EX L xs) (δ + 1) mY_X9_shuts 33 [(0, .ref 95), (1, .int v1), (3, .long s_.1), (5, .int s_.2)] [] (mj_fin m) (some (.long a_.1), (mj_fin a_.2))) (hδ : 1 ≤ δ) {a : Int64 × mj_m} (h : f_X9_shuts_68 N k_33 v1 v3 v5 m = some a) : mj_Go (mj_EX L xs) (δ + 1) mY_X9_shuts 68 [(0, .ref 95), (1, .int v1), (3, .long v3), (5, .int v5)] [] (mj_fin m) (some (.long a.1), (mj_fin a.2)) := by
  unfold f_X9_shuts_68 at h
  obtain ⟨x1, ex1, h⟩ := mj_mw_some h
  refine mj_go_iinc (i := 5) (x := v5) (v := x1) rfl (by rw [ex1] <;> rfl) (by decide) (mj_dt dt_X9_shuts 42 rfl) ?_
  refine mj_go_goto (tgt := 33) rfl (mj_dt dt_X9_shuts 43 rfl) ?_
  refine mj_go_sub (lv' := [(0, .ref 95), (1, .int v1), (3, .long v3), (5, .int x1)]) (List.forall_mem_cons.mpr ⟨rfl, (List.forall_mem_cons.mpr ⟨rfl, (List.forall_mem_cons.mpr ⟨rfl, (List.forall_mem_cons.mpr ⟨rfl, (fun _ h9 => absurd h9 List.not_mem_nil)⟩)⟩)⟩)⟩) ?_
  exact q_33 _ _ h
def f_X9_shuts_33 (N : Nat) (v1 : Int32) (m : mj_m) (k_33 : Int64 × Int32 → Option (Int64 × mj_m)) (s : Int64 × Int32) : Option (Int64 × mj_m) := if (1 <<< ((m.1 95 1) &&& 31)) ≤ s.2 then (some (s.1, m)) else ((f_X9_cutOf N s.2 m).bind (fun r2 => if ((r2 >>> (v1 &&& 31)) &&& 1) = 1 then (mj_ck (mj_b 1 121 s.2) ( mj_mw (s.1 + (m.2 121 s.2.toNatClampNeg)) (fun x5 => f_X9_shuts_68 N k_33 v1 x5 s.2 m))) else f_X9_shuts_68 N k_33 v1 s.1 s.2 m))
theorem k_X9_shuts_33 {L : Nat} {xs : Nat → Int32} {δ N : Nat} {v1 : Int32} {m : mj_m} (hδ : 1 ≤ δ) : ∀ (n : Nat) (s : Int64 × Int32) (a : Int64 × mj_m), mj_lp n (f_X9_shuts_33 N v1 m) s = some a → mj_Go (mj_EX L xs) (δ + 1) mY_X9_shuts 33 [(0, .ref 95), (1, .int v1), (3, .long s.1), (5, .int s.2)] [] (mj_fin m) (some (.long a.1), (mj_fin a.2)) := by
  refine mj_lp_sound (fun k_33 s a q_33 h => ?_)
  unfold f_X9_shuts_33 at h
  refine mj_go_iload (i := 5) (x := s.2) rfl (mj_dt dt_X9_shuts 20 rfl) ?_
  refine mj_go_iconst (v := 1) rfl (mj_dt dt_X9_shuts 21 rfl) ?_
  refine mj_go_aload_n (k := 0) (x := 95) rfl (mj_dt dt_X9_shuts 22 rfl) ?_
  refine mk_getI (c := 9) (k := 1) (Or.inl fd_9_1) (Or.inl fl_X9_124) ho_95 (mj_dt dt_X9_shuts 23 rfl) ?_
  refine mj_go_ishl (mj_dt dt_X9_shuts 24 rfl) ?_
  refine mj_go_icmp_ge (tgt := 74) rfl (mj_dt dt_X9_shuts 25 rfl) (fun b1 => ?_) (fun b1 => ?_)
  · rw [if_pos b1] at h
    refine mj_go_lload_n (k := 3) (x := s.1) rfl (mj_dt dt_X9_shuts 44 rfl) ?_
    obtain rfl := Option.some.inj h
    exact mj_go_ret (v := some (.long s.1)) (Nat.le_of_ble_eq_true rfl) (mj_retL (mj_dt dt_X9_shuts 45 rfl) rfl)
  · rw [if_neg b1] at h
    refine mj_go_aload_n (k := 0) (x := 95) rfl (mj_dt dt_X9_shuts 26 rfl) ?_
    refine mj_go_iload (i := 5) (x := s.2) rfl (mj_dt dt_X9_shuts 27 rfl) ?_
    obtain ⟨r2, er2, h⟩ := mj_bind_some h
    refine ml_callV (Y' := mY_X9_cutOf) (as := [.int s.2]) (rest := []) (c := 9) (v := (some (.int r2))) (M1 := (mj_fin m)) ho_95 rfl lm_X9_240 wc_X9_cutOf pl_X9_cutOf ok_X9_cutOf rfl rfl (Nat.le_of_ble_eq_true rfl) (k_X9_cutOf (by omega) er2) (mj_dt dt_X9_shuts 28 rfl) ?_
    refine mj_go_iload_n (k := 1) (x := v1) rfl (mj_dt dt_X9_shuts 29 rfl) ?_
    refine mj_go_ishr (mj_dt dt_X9_shuts 30 rfl) ?_
    refine mj_go_iconst (v := 1) rfl (mj_dt dt_X9_shuts 31 rfl) ?_
    refine mj_go_iand (mj_dt dt_X9_shuts 32 rfl) ?_
    refine mj_go_iconst (v := 1) rfl (mj_dt dt_X9_shuts 33 rfl) ?_
    refine mj_go_icmp_ne (tgt := 68) rfl (mj_dt dt_X9_shuts 34 rfl) (fun b3 => ?_) (fun b3 => ?_)
    · rw [if_neg b3] at h
      refine mj_go_sub (lv' := [(0, .ref 95), (1, .int v1), (3, .long s.1), (5, .int s.2)]) (List.forall_mem_cons.mpr ⟨rfl, (List.forall_mem_cons.mpr ⟨rfl, (List.forall_mem_cons.mpr ⟨rfl, (List.forall_mem_cons.mpr ⟨rfl, (fun _ h9 => absurd h9 List.not_mem_nil)⟩)⟩)⟩)⟩) ?_
      exact k_X9_shuts_68 q_33 hδ h
    · rw [if_pos b3] at h
      refine mj_go_lload_n (k := 3) (x := s.1) rfl (mj_dt dt_X9_shuts 35 rfl) ?_
      refine mj_go_aload_n (k := 0) (x := 95) rfl (mj_dt dt_X9_shuts 36 rfl) ?_
      refine ml_getR (c := 9) (k := 41) (q := 121) fd_9_41 rf_95_41 (Or.inl fl_X9_102) ho_95 (mj_dt dt_X9_shuts 37 rfl) ?_
      refine mj_go_iload (i := 5) (x := s.2) rfl (mj_dt dt_X9_shuts 38 rfl) ?_
      obtain ⟨c4, h⟩ := mj_ck_some h
      refine mk_lald c4 (mj_dt dt_X9_shuts 39 rfl) ?_
      refine mj_go_ladd (mj_dt dt_X9_shuts 40 rfl) ?_
      obtain ⟨x5, ex5, h⟩ := mj_mw_some h
      refine ml_eql ex5 ?_
      refine mj_go_lstore_n (k := 3) (by decide) (mj_dt dt_X9_shuts 41 rfl) ?_
      refine mj_go_sub (lv' := [(0, .ref 95), (1, .int v1), (3, .long x5), (5, .int s.2)]) (List.forall_mem_cons.mpr ⟨rfl, (List.forall_mem_cons.mpr ⟨rfl, (List.forall_mem_cons.mpr ⟨rfl, (List.forall_mem_cons.mpr ⟨rfl, (fun _ h9 => absurd h9 List.not_mem_nil)⟩)⟩)⟩)⟩) ?_
      exact k_X9_shuts_68 q_33 hδ h
def f_X9_shuts (N : Nat) (v1 : Int32) (v2 : Int32) (m : mj_m) : Option (Int64 × mj_m) := (f_X9_isCorner N v1 m).bind (fun r1 => if r1 = 0 then f_X9_shuts_16 N m else ((f_X9_isShake N v2 m).bind (fun r3 => if r3 = 0 then f_X9_shuts_16 N m else ((f_X9_oddsBy N v2 m).bind (fun r5 => mj_lp N (f_X9_shuts_33 N v1 r5) (0, 0))))))
theorem k_X9_shuts {L : Nat} {xs : Nat → Int32} {δ N : Nat} {v1 : Int32} {v2 : Int32} {m : mj_m} (hδ : 2 ≤ δ) {a : Int64 × mj_m} (h : f_X9_shuts N v1 v2 m = some a) : mj_Cl (mj_EX L xs) δ mY_X9_shuts [.ref 95, .int v1, .int v2] (mj_fin m) (some (.long a.1), (mj_fin a.2)) := by
  obtain ⟨δ, rfl⟩ : ∃ d, δ = d + 1 := ⟨δ - 1, by omega⟩
  have hδ : 1 ≤ δ := by omega
  refine mj_cl_of ok_X9_shuts (Nat.le_of_ble_eq_true rfl) ?_
  unfold f_X9_shuts at h
  refine mj_go_aload_n (k := 0) (x := 95) rfl (mj_dt dt_X9_shuts 0 rfl) ?_
  refine mj_go_iload_n (k := 1) (x := v1) rfl (mj_dt dt_X9_shuts 1 rfl) ?_
  obtain ⟨r1, er1, h⟩ := mj_bind_some h
  refine ml_callV (Y' := mY_X9_isCorner) (as := [.int v1]) (rest := []) (c := 9) (v := (some (.int r1))) (M1 := (mj_fin m)) ho_95 rfl lm_X9_152 wc_X9_isCorner pl_X9_isCorner ok_X9_isCorner rfl rfl (Nat.le_of_ble_eq_true rfl) (k_X9_isCorner (by omega) er1) (mj_dt dt_X9_shuts 2 rfl) ?_
  refine mj_go_if_eq (tgt := 16) rfl (mj_dt dt_X9_shuts 3 rfl) (fun b2 => ?_) (fun b2 => ?_)
  · rw [if_pos b2] at h
    refine mj_go_sub (lv' := [(0, .ref 95)]) (List.forall_mem_cons.mpr ⟨rfl, (fun _ h9 => absurd h9 List.not_mem_nil)⟩) ?_
    exact k_X9_shuts_16 hδ h
  · rw [if_neg b2] at h
    refine mj_go_aload_n (k := 0) (x := 95) rfl (mj_dt dt_X9_shuts 4 rfl) ?_
    refine mj_go_iload_n (k := 2) (x := v2) rfl (mj_dt dt_X9_shuts 5 rfl) ?_
    obtain ⟨r3, er3, h⟩ := mj_bind_some h
    refine ml_callV (Y' := mY_X9_isShake) (as := [.int v2]) (rest := []) (c := 9) (v := (some (.int r3))) (M1 := (mj_fin m)) ho_95 rfl lm_X9_234 wc_X9_isShake pl_X9_isShake ok_X9_isShake rfl rfl (Nat.le_of_ble_eq_true rfl) (k_X9_isShake (by omega) er3) (mj_dt dt_X9_shuts 6 rfl) ?_
    refine mj_go_if_ne (tgt := 23) rfl (mj_dt dt_X9_shuts 7 rfl) (fun b4 => ?_) (fun b4 => ?_)
    · rw [if_neg b4] at h
      refine mj_go_aload_n (k := 0) (x := 95) rfl (mj_dt dt_X9_shuts 13 rfl) ?_
      refine mj_go_iload_n (k := 2) (x := v2) rfl (mj_dt dt_X9_shuts 14 rfl) ?_
      obtain ⟨r5, er5, h⟩ := mj_bind_some h
      refine ml_callV (Y' := mY_X9_oddsBy) (as := [.int v2]) (rest := []) (c := 9) (v := none) (M1 := (mj_fin r5)) ho_95 rfl lm_X9_248 wc_X9_oddsBy pl_X9_oddsBy ok_X9_oddsBy rfl rfl (Nat.le_of_ble_eq_true rfl) (k_X9_oddsBy (by omega) er5) (mj_dt dt_X9_shuts 15 rfl) ?_
      refine mj_go_lconst (v := 0) rfl (mj_dt dt_X9_shuts 16 rfl) ?_
      refine mj_go_lstore_n (k := 3) (by decide) (mj_dt dt_X9_shuts 17 rfl) ?_
      refine mj_go_iconst (v := 0) rfl (mj_dt dt_X9_shuts 18 rfl) ?_
      refine mj_go_istore (i := 5) (by decide) (mj_dt dt_X9_shuts 19 rfl) ?_
      refine mj_go_sub (lv' := [(0, .ref 95), (1, .int v1), (3, .long 0), (5, .int 0)]) (List.forall_mem_cons.mpr ⟨rfl, (List.forall_mem_cons.mpr ⟨rfl, (List.forall_mem_cons.mpr ⟨rfl, (List.forall_mem_cons.mpr ⟨rfl, (fun _ h9 => absurd h9 List.not_mem_nil)⟩)⟩)⟩)⟩) ?_
      exact k_X9_shuts_33 hδ N _ _ h
    · rw [if_pos b4] at h
      refine mj_go_sub (lv' := [(0, .ref 95)]) (List.forall_mem_cons.mpr ⟨rfl, (fun _ h9 => absurd h9 List.not_mem_nil)⟩) ?_
      exact k_X9_shuts_16 hδ h
def f_X8_mean (N : Nat) (m : mj_m) : Option (Int64 × mj_m) := (f_X2_weighYear N m).bind (fun r1 => (f_X2_meanBy N 5 r1).bind (fun r2 => some (r2.1, r2.2)))
theorem k_X8_mean {L : Nat} {xs : Nat → Int32} {δ N : Nat} {m : mj_m} (hδ : 4 ≤ δ) {a : Int64 × mj_m} (h : f_X8_mean N m = some a) : mj_Cl (mj_EX L xs) δ mY_X8_mean [.ref 0] (mj_fin m) (some (.long a.1), (mj_fin a.2)) := by
  obtain ⟨δ, rfl⟩ : ∃ d, δ = d + 1 := ⟨δ - 1, by omega⟩
  have hδ : 3 ≤ δ := by omega
  refine mj_cl_of ok_X8_mean (Nat.le_of_ble_eq_true rfl) ?_
  unfold f_X8_mean at h
  refine mj_go_aload_n (k := 0) (x := 0) rfl (mj_dt dt_X8_mean 0 rfl) ?_
  refine ml_getR (c := 8) (k := 3) (q := 36) fd_8_3 rf_0_3 (Or.inl fl_X8_30) ho_0 (mj_dt dt_X8_mean 1 rfl) ?_
  obtain ⟨r1, er1, h⟩ := mj_bind_some h
  refine ml_callV (Y' := mY_X2_weighYear) (as := []) (rest := []) (c := 2) (v := none) (M1 := (mj_fin r1)) ho_36 rfl lm_X8_278 wc_X2_weighYear pl_X2_weighYear ok_X2_weighYear rfl rfl (Nat.le_of_ble_eq_true rfl) (k_X2_weighYear (by omega) er1) (mj_dt dt_X8_mean 2 rfl) ?_
  refine mj_go_aload_n (k := 0) (x := 0) rfl (mj_dt dt_X8_mean 3 rfl) ?_
  refine ml_getR (c := 8) (k := 3) (q := 36) fd_8_3 rf_0_3 (Or.inl fl_X8_30) ho_0 (mj_dt dt_X8_mean 4 rfl) ?_
  refine mj_go_aload_n (k := 0) (x := 0) rfl (mj_dt dt_X8_mean 5 rfl) ?_
  refine ml_getR (c := 8) (k := 0) (q := 1) fd_8_0 rf_0_0 (Or.inl fl_X8_12) ho_0 (mj_dt dt_X8_mean 6 rfl) ?_
  refine ml_getR (c := 7) (k := 3) (q := 5) fd_7_3 rf_1_3 (Or.inl fl_X8_215) ho_1 (mj_dt dt_X8_mean 7 rfl) ?_
  obtain ⟨r2, er2, h⟩ := mj_bind_some h
  refine ml_callV (Y' := mY_X2_meanBy) (as := [.ref 5]) (rest := []) (c := 2) (v := (some (.long r2.1))) (M1 := (mj_fin r2.2)) ho_36 rfl lm_X8_281 wc_X2_meanBy pl_X2_meanBy ok_X2_meanBy rfl rfl (Nat.le_of_ble_eq_true rfl) (k_X2_meanBy (by omega) er2) (mj_dt dt_X8_mean 8 rfl) ?_
  obtain rfl := Option.some.inj h
  exact mj_go_ret (v := some (.long r2.1)) (Nat.le_of_ble_eq_true rfl) (mj_retL (mj_dt dt_X8_mean 9 rfl) rfl)
def f_X9_meanOf (N : Nat) (m : mj_m) : Option (Int64 × mj_m) := (f_X9_worthsBy N 2 1 m).bind (fun r1 => (f_X9_meanNow N r1).bind (fun r2 => some (r2.1, r2.2)))
theorem k_X9_meanOf {L : Nat} {xs : Nat → Int32} {δ N : Nat} {m : mj_m} (hδ : 4 ≤ δ) {a : Int64 × mj_m} (h : f_X9_meanOf N m = some a) : mj_Cl (mj_EX L xs) δ mY_X9_meanOf [.ref 95] (mj_fin m) (some (.long a.1), (mj_fin a.2)) := by
  obtain ⟨δ, rfl⟩ : ∃ d, δ = d + 1 := ⟨δ - 1, by omega⟩
  have hδ : 3 ≤ δ := by omega
  refine mj_cl_of ok_X9_meanOf (Nat.le_of_ble_eq_true rfl) ?_
  unfold f_X9_meanOf at h
  refine mj_go_aload_n (k := 0) (x := 95) rfl (mj_dt dt_X9_meanOf 0 rfl) ?_
  refine mj_go_iconst (v := 2) rfl (mj_dt dt_X9_meanOf 1 rfl) ?_
  refine mj_go_iconst (v := 1) rfl (mj_dt dt_X9_meanOf 2 rfl) ?_
  obtain ⟨r1, er1, h⟩ := mj_bind_some h
  refine ml_callV (Y' := mY_X9_worthsBy) (as := [.int 2, .int 1]) (rest := []) (c := 9) (v := none) (M1 := (mj_fin r1)) ho_95 rfl lm_X9_251 wc_X9_worthsBy pl_X9_worthsBy ok_X9_worthsBy rfl rfl (Nat.le_of_ble_eq_true rfl) (k_X9_worthsBy (by omega) er1) (mj_dt dt_X9_meanOf 3 rfl) ?_
  refine mj_go_aload_n (k := 0) (x := 95) rfl (mj_dt dt_X9_meanOf 4 rfl) ?_
  obtain ⟨r2, er2, h⟩ := mj_bind_some h
  refine ml_callV (Y' := mY_X9_meanNow) (as := []) (rest := []) (c := 9) (v := (some (.long r2.1))) (M1 := (mj_fin r2.2)) ho_95 rfl lm_X9_259 wc_X9_meanNow pl_X9_meanNow ok_X9_meanNow rfl rfl (Nat.le_of_ble_eq_true rfl) (k_X9_meanNow (by omega) er2) (mj_dt dt_X9_meanOf 5 rfl) ?_
  obtain rfl := Option.some.inj h
  exact mj_go_ret (v := some (.long r2.1)) (Nat.le_of_ble_eq_true rfl) (mj_retL (mj_dt dt_X9_meanOf 6 rfl) rfl)
def f_X9_mean (N : Nat) (m : mj_m) : Option (Int64 × mj_m) := (f_X9_meanOf N m).bind (fun r1 => some (r1.1, r1.2))
theorem k_X9_mean {L : Nat} {xs : Nat → Int32} {δ N : Nat} {m : mj_m} (hδ : 5 ≤ δ) {a : Int64 × mj_m} (h : f_X9_mean N m = some a) : mj_Cl (mj_EX L xs) δ mY_X9_mean [.ref 95] (mj_fin m) (some (.long a.1), (mj_fin a.2)) := by
  obtain ⟨δ, rfl⟩ : ∃ d, δ = d + 1 := ⟨δ - 1, by omega⟩
  have hδ : 4 ≤ δ := by omega
  refine mj_cl_of ok_X9_mean (Nat.le_of_ble_eq_true rfl) ?_
  unfold f_X9_mean at h
  refine mj_go_aload_n (k := 0) (x := 95) rfl (mj_dt dt_X9_mean 0 rfl) ?_
  obtain ⟨r1, er1, h⟩ := mj_bind_some h
  refine ml_callV (Y' := mY_X9_meanOf) (as := []) (rest := []) (c := 9) (v := (some (.long r1.1))) (M1 := (mj_fin r1.2)) ho_95 rfl lm_X9_263 wc_X9_meanOf pl_X9_meanOf ok_X9_meanOf rfl rfl (Nat.le_of_ble_eq_true rfl) (k_X9_meanOf (by omega) er1) (mj_dt dt_X9_mean 1 rfl) ?_
  obtain rfl := Option.some.inj h
  exact mj_go_ret (v := some (.long r1.1)) (Nat.le_of_ble_eq_true rfl) (mj_retL (mj_dt dt_X9_mean 2 rfl) rfl)
def f_X4_worthOf (N : Nat) (v1 : Int32) (v2 : Int64) (m : mj_m) : Option (Int64 × mj_m) := mj_ck (mj_p 0 5 50 0 0 10) ( mj_mw (mj_kI m 5 50 ((0 : Int32).toNatClampNeg) ((0 : Int32).toNatClampNeg) ((10 : Int32).toNatClampNeg)) (fun m2 => mj_ck (mj_b 0 50 v1) ( mj_mw (mj_wI m2 50 (v1.toNatClampNeg) ((m2.1 50 v1.toNatClampNeg) + 1)) (fun m4 => (f_X2_meanBy N 50 m4).bind (fun r5 => some (v2 - r5.1, r5.2))))))
theorem k_X4_worthOf {L : Nat} {xs : Nat → Int32} {δ N : Nat} {v1 : Int32} {v2 : Int64} {m : mj_m} (hδ : 4 ≤ δ) {a : Int64 × mj_m} (h : f_X4_worthOf N v1 v2 m = some a) : mj_Cl (mj_EX L xs) δ mY_X4_worthOf [.ref 48, .int v1, .long v2] (mj_fin m) (some (.long a.1), (mj_fin a.2)) := by
  obtain ⟨δ, rfl⟩ : ∃ d, δ = d + 1 := ⟨δ - 1, by omega⟩
  have hδ : 3 ≤ δ := by omega
  refine mj_cl_of ok_X4_worthOf (Nat.le_of_ble_eq_true rfl) ?_
  unfold f_X4_worthOf at h
  refine mj_go_aload_n (k := 0) (x := 48) rfl (mj_dt dt_X4_worthOf 0 rfl) ?_
  refine ml_getR (c := 4) (k := 0) (q := 1) fd_4_0 rf_48_0 (Or.inl fl_X4_47) ho_48 (mj_dt dt_X4_worthOf 1 rfl) ?_
  refine ml_getR (c := 7) (k := 3) (q := 5) fd_7_3 rf_1_3 (Or.inl fl_X4_59) ho_1 (mj_dt dt_X4_worthOf 2 rfl) ?_
  refine mj_go_iconst (v := 0) rfl (mj_dt dt_X4_worthOf 3 rfl) ?_
  refine mj_go_aload_n (k := 0) (x := 48) rfl (mj_dt dt_X4_worthOf 4 rfl) ?_
  refine ml_getR (c := 4) (k := 4) (q := 50) fd_4_4 rf_48_4 (Or.inl fl_X4_15) ho_48 (mj_dt dt_X4_worthOf 5 rfl) ?_
  refine mj_go_iconst (v := 0) rfl (mj_dt dt_X4_worthOf 6 rfl) ?_
  refine mj_go_bipush (v := 10) rfl (mj_dt dt_X4_worthOf 7 rfl) ?_
  obtain ⟨c1, h⟩ := mj_ck_some h
  obtain ⟨m2, em2, h⟩ := mj_mw_some h
  refine ml_cpyI hm_X4_64 (Nat.le_of_ble_eq_true rfl) c1 (mj_dt dt_X4_worthOf 8 rfl) ?_
  refine ml_eqm (M1 := (mj_fin m2)) (by rw [em2] <;> rfl) ?_
  refine mj_go_aload_n (k := 0) (x := 48) rfl (mj_dt dt_X4_worthOf 9 rfl) ?_
  refine ml_getR (c := 4) (k := 4) (q := 50) fd_4_4 rf_48_4 (Or.inl fl_X4_15) ho_48 (mj_dt dt_X4_worthOf 10 rfl) ?_
  refine mj_go_iload_n (k := 1) (x := v1) rfl (mj_dt dt_X4_worthOf 11 rfl) ?_
  refine mj_go_dup2_11 rfl rfl (mj_dt dt_X4_worthOf 12 rfl) ?_
  obtain ⟨c3, h⟩ := mj_ck_some h
  refine mk_iald c3 (mj_dt dt_X4_worthOf 13 rfl) ?_
  refine mj_go_iconst (v := 1) rfl (mj_dt dt_X4_worthOf 14 rfl) ?_
  refine mj_go_iadd (mj_dt dt_X4_worthOf 15 rfl) ?_
  obtain ⟨m4, em4, h⟩ := mj_mw_some h
  refine ml_iast c3 (mj_dt dt_X4_worthOf 16 rfl) ?_
  refine ml_eqm (M1 := (mj_fin m4)) (by rw [em4] <;> rfl) ?_
  refine mj_go_lload_n (k := 2) (x := v2) rfl (mj_dt dt_X4_worthOf 17 rfl) ?_
  refine mj_go_aload_n (k := 0) (x := 48) rfl (mj_dt dt_X4_worthOf 18 rfl) ?_
  refine ml_getR (c := 4) (k := 1) (q := 36) fd_4_1 rf_48_1 (Or.inl fl_X4_51) ho_48 (mj_dt dt_X4_worthOf 19 rfl) ?_
  refine mj_go_aload_n (k := 0) (x := 48) rfl (mj_dt dt_X4_worthOf 20 rfl) ?_
  refine ml_getR (c := 4) (k := 4) (q := 50) fd_4_4 rf_48_4 (Or.inl fl_X4_15) ho_48 (mj_dt dt_X4_worthOf 21 rfl) ?_
  obtain ⟨r5, er5, h⟩ := mj_bind_some h
  refine ml_callV (Y' := mY_X2_meanBy) (as := [.ref 50]) (rest := [.long v2]) (c := 2) (v := (some (.long r5.1))) (M1 := (mj_fin r5.2)) ho_36 rfl lm_X4_70 wc_X2_meanBy pl_X2_meanBy ok_X2_meanBy rfl rfl (Nat.le_of_ble_eq_true rfl) (k_X2_meanBy (by omega) er5) (mj_dt dt_X4_worthOf 22 rfl) ?_
  refine mj_go_lsub (mj_dt dt_X4_worthOf 23 rfl) ?_
  obtain rfl := Option.some.inj h
  exact mj_go_ret (v := some (.long (v2 - r5.1))) (Nat.le_of_ble_eq_true rfl) (mj_retL (mj_dt dt_X4_worthOf 24 rfl) rfl)
def f_X8_refuseFar (N : Nat) (v1 : Int32) (m : mj_m) : Option (Int64 × mj_m) := (f_X8_refuse N v1 m).bind (fun r1 => some ((r1.1.toInt64) - 1000000, r1.2))
theorem k_X8_refuseFar {L : Nat} {xs : Nat → Int32} {δ N : Nat} {v1 : Int32} {m : mj_m} (hδ : 1 ≤ δ) {a : Int64 × mj_m} (h : f_X8_refuseFar N v1 m = some a) : mj_Cl (mj_EX L xs) δ mY_X8_refuseFar [.ref 0, .int v1] (mj_fin m) (some (.long a.1), (mj_fin a.2)) := by
  obtain ⟨δ, rfl⟩ : ∃ d, δ = d + 1 := ⟨δ - 1, by omega⟩
  have hδ : 0 ≤ δ := by omega
  refine mj_cl_of ok_X8_refuseFar (Nat.le_of_ble_eq_true rfl) ?_
  unfold f_X8_refuseFar at h
  refine mj_go_aload_n (k := 0) (x := 0) rfl (mj_dt dt_X8_refuseFar 0 rfl) ?_
  refine mj_go_iload_n (k := 1) (x := v1) rfl (mj_dt dt_X8_refuseFar 1 rfl) ?_
  obtain ⟨r1, er1, h⟩ := mj_bind_some h
  refine ml_callV (Y' := mY_X8_refuse) (as := [.int v1]) (rest := []) (c := 8) (v := (some (.int r1.1))) (M1 := (mj_fin r1.2)) ho_0 rfl lm_X8_86 wc_X8_refuse pl_X8_refuse ok_X8_refuse rfl rfl (Nat.le_of_ble_eq_true rfl) (k_X8_refuse (by omega) er1) (mj_dt dt_X8_refuseFar 2 rfl) ?_
  refine mj_go_i2l (mj_dt dt_X8_refuseFar 3 rfl) ?_
  refine mj_go_ldc2 (v := 1000000) cl_X8_376 (mj_dt dt_X8_refuseFar 4 rfl) ?_
  refine mj_go_lsub (mj_dt dt_X8_refuseFar 5 rfl) ?_
  obtain rfl := Option.some.inj h
  exact mj_go_ret (v := some (.long ((r1.1.toInt64) - 1000000))) (Nat.le_of_ble_eq_true rfl) (mj_retL (mj_dt dt_X8_refuseFar 6 rfl) rfl)
def f_X8_worth (N : Nat) (v1 : Int32) (m : mj_m) : Option (Int64 × mj_m) := (f_X7_isHouse N v1 m).bind (fun r1 => if r1 = 0 then ((f_X8_refuseFar N 1 m).bind (fun r3 => some (r3.1, r3.2))) else (mj_ck (mj_b 0 5 v1) ( if (m.1 5 v1.toNatClampNeg) < 2 then ((f_X2_weighYear N m).bind (fun r5 => (f_X2_meanBy N 5 r5).bind (fun r6 => (f_X4_worthOf N v1 r6.1 r6.2).bind (fun r7 => some (r7.1, r7.2))))) else ((f_X8_refuseFar N 6 m).bind (fun r5 => some (r5.1, r5.2))))))
theorem k_X8_worth {L : Nat} {xs : Nat → Int32} {δ N : Nat} {v1 : Int32} {m : mj_m} (hδ : 5 ≤ δ) {a : Int64 × mj_m} (h : f_X8_worth N v1 m = some a) : mj_Cl (mj_EX L xs) δ mY_X8_worth [.ref 0, .int v1] (mj_fin m) (some (.long a.1), (mj_fin a.2)) := by
  obtain ⟨δ, rfl⟩ : ∃ d, δ = d + 1 := ⟨δ - 1, by omega⟩
  have hδ : 4 ≤ δ := by omega
  refine mj_cl_of ok_X8_worth (Nat.le_of_ble_eq_true rfl) ?_
  unfold f_X8_worth at h
  refine mj_go_aload_n (k := 0) (x := 0) rfl (mj_dt dt_X8_worth 0 rfl) ?_
  refine ml_getR (c := 8) (k := 0) (q := 1) fd_8_0 rf_0_0 (Or.inl fl_X8_12) ho_0 (mj_dt dt_X8_worth 1 rfl) ?_
  refine mj_go_iload_n (k := 1) (x := v1) rfl (mj_dt dt_X8_worth 2 rfl) ?_
  obtain ⟨r1, er1, h⟩ := mj_bind_some h
  refine ml_callV (Y' := mY_X7_isHouse) (as := [.int v1]) (rest := []) (c := 7) (v := (some (.int r1))) (M1 := (mj_fin m)) ho_1 rfl lm_X8_185 wc_X7_isHouse pl_X7_isHouse ok_X7_isHouse rfl rfl (Nat.le_of_ble_eq_true rfl) (k_X7_isHouse (by omega) er1) (mj_dt dt_X8_worth 3 rfl) ?_
  refine mj_go_if_ne (tgt := 17) rfl (mj_dt dt_X8_worth 4 rfl) (fun b2 => ?_) (fun b2 => ?_)
  · rw [if_neg b2] at h
    refine mj_go_aload_n (k := 0) (x := 0) rfl (mj_dt dt_X8_worth 9 rfl) ?_
    refine ml_getR (c := 8) (k := 0) (q := 1) fd_8_0 rf_0_0 (Or.inl fl_X8_12) ho_0 (mj_dt dt_X8_worth 10 rfl) ?_
    refine ml_getR (c := 7) (k := 3) (q := 5) fd_7_3 rf_1_3 (Or.inl fl_X8_215) ho_1 (mj_dt dt_X8_worth 11 rfl) ?_
    refine mj_go_iload_n (k := 1) (x := v1) rfl (mj_dt dt_X8_worth 12 rfl) ?_
    obtain ⟨c3, h⟩ := mj_ck_some h
    refine mk_iald c3 (mj_dt dt_X8_worth 13 rfl) ?_
    refine mj_go_iconst (v := 2) rfl (mj_dt dt_X8_worth 14 rfl) ?_
    refine mj_go_icmp_lt (tgt := 37) rfl (mj_dt dt_X8_worth 15 rfl) (fun b4 => ?_) (fun b4 => ?_)
    · rw [if_pos b4] at h
      refine mj_go_aload_n (k := 0) (x := 0) rfl (mj_dt dt_X8_worth 20 rfl) ?_
      refine ml_getR (c := 8) (k := 3) (q := 36) fd_8_3 rf_0_3 (Or.inl fl_X8_30) ho_0 (mj_dt dt_X8_worth 21 rfl) ?_
      obtain ⟨r5, er5, h⟩ := mj_bind_some h
      refine ml_callV (Y' := mY_X2_weighYear) (as := []) (rest := []) (c := 2) (v := none) (M1 := (mj_fin r5)) ho_36 rfl lm_X8_278 wc_X2_weighYear pl_X2_weighYear ok_X2_weighYear rfl rfl (Nat.le_of_ble_eq_true rfl) (k_X2_weighYear (by omega) er5) (mj_dt dt_X8_worth 22 rfl) ?_
      refine mj_go_aload_n (k := 0) (x := 0) rfl (mj_dt dt_X8_worth 23 rfl) ?_
      refine ml_getR (c := 8) (k := 5) (q := 48) fd_8_5 rf_0_5 (Or.inl fl_X8_48) ho_0 (mj_dt dt_X8_worth 24 rfl) ?_
      refine mj_go_iload_n (k := 1) (x := v1) rfl (mj_dt dt_X8_worth 25 rfl) ?_
      refine mj_go_aload_n (k := 0) (x := 0) rfl (mj_dt dt_X8_worth 26 rfl) ?_
      refine ml_getR (c := 8) (k := 3) (q := 36) fd_8_3 rf_0_3 (Or.inl fl_X8_30) ho_0 (mj_dt dt_X8_worth 27 rfl) ?_
      refine mj_go_aload_n (k := 0) (x := 0) rfl (mj_dt dt_X8_worth 28 rfl) ?_
      refine ml_getR (c := 8) (k := 0) (q := 1) fd_8_0 rf_0_0 (Or.inl fl_X8_12) ho_0 (mj_dt dt_X8_worth 29 rfl) ?_
      refine ml_getR (c := 7) (k := 3) (q := 5) fd_7_3 rf_1_3 (Or.inl fl_X8_215) ho_1 (mj_dt dt_X8_worth 30 rfl) ?_
      obtain ⟨r6, er6, h⟩ := mj_bind_some h
      refine ml_callV (Y' := mY_X2_meanBy) (as := [.ref 5]) (rest := [.int v1, .ref 48]) (c := 2) (v := (some (.long r6.1))) (M1 := (mj_fin r6.2)) ho_36 rfl lm_X8_281 wc_X2_meanBy pl_X2_meanBy ok_X2_meanBy rfl rfl (Nat.le_of_ble_eq_true rfl) (k_X2_meanBy (by omega) er6) (mj_dt dt_X8_worth 31 rfl) ?_
      obtain ⟨r7, er7, h⟩ := mj_bind_some h
      refine ml_callV (Y' := mY_X4_worthOf) (as := [.int v1, .long r6.1]) (rest := []) (c := 4) (v := (some (.long r7.1))) (M1 := (mj_fin r7.2)) ho_48 rfl lm_X8_289 wc_X4_worthOf pl_X4_worthOf ok_X4_worthOf rfl rfl (Nat.le_of_ble_eq_true rfl) (k_X4_worthOf (by omega) er7) (mj_dt dt_X8_worth 32 rfl) ?_
      obtain rfl := Option.some.inj h
      exact mj_go_ret (v := some (.long r7.1)) (Nat.le_of_ble_eq_true rfl) (mj_retL (mj_dt dt_X8_worth 33 rfl) rfl)
    · rw [if_neg b4] at h
      refine mj_go_aload_n (k := 0) (x := 0) rfl (mj_dt dt_X8_worth 16 rfl) ?_
      refine mj_go_bipush (v := 6) rfl (mj_dt dt_X8_worth 17 rfl) ?_
      obtain ⟨r5, er5, h⟩ := mj_bind_some h
      refine ml_callV (Y' := mY_X8_refuseFar) (as := [.int 6]) (rest := []) (c := 8) (v := (some (.long r5.1))) (M1 := (mj_fin r5.2)) ho_0 rfl lm_X8_285 wc_X8_refuseFar pl_X8_refuseFar ok_X8_refuseFar rfl rfl (Nat.le_of_ble_eq_true rfl) (k_X8_refuseFar (by omega) er5) (mj_dt dt_X8_worth 18 rfl) ?_
      obtain rfl := Option.some.inj h
      exact mj_go_ret (v := some (.long r5.1)) (Nat.le_of_ble_eq_true rfl) (mj_retL (mj_dt dt_X8_worth 19 rfl) rfl)
  · rw [if_pos b2] at h
    refine mj_go_aload_n (k := 0) (x := 0) rfl (mj_dt dt_X8_worth 5 rfl) ?_
    refine mj_go_iconst (v := 1) rfl (mj_dt dt_X8_worth 6 rfl) ?_
    obtain ⟨r3, er3, h⟩ := mj_bind_some h
    refine ml_callV (Y' := mY_X8_refuseFar) (as := [.int 1]) (rest := []) (c := 8) (v := (some (.long r3.1))) (M1 := (mj_fin r3.2)) ho_0 rfl lm_X8_285 wc_X8_refuseFar pl_X8_refuseFar ok_X8_refuseFar rfl rfl (Nat.le_of_ble_eq_true rfl) (k_X8_refuseFar (by omega) er3) (mj_dt dt_X8_worth 7 rfl) ?_
    obtain rfl := Option.some.inj h
    exact mj_go_ret (v := some (.long r3.1)) (Nat.le_of_ble_eq_true rfl) (mj_retL (mj_dt dt_X8_worth 8 rfl) rfl)
def f_X9_worthOf (N : Nat) (v1 : Int32) (m : mj_m) : Option (Int64 × mj_m) := (f_X9_meanNow N m).bind (fun r1 => mj_ck (mj_b 0 108 v1) ( mj_mw (mj_wI r1.2 108 (v1.toNatClampNeg) ((r1.2.1 108 v1.toNatClampNeg) + 1)) (fun m3 => (f_X9_meanNow N m3).bind (fun r4 => mj_mw (r1.1 - r4.1) (fun x5 => mj_mw (mj_wI r4.2 108 (v1.toNatClampNeg) ((r4.2.1 108 v1.toNatClampNeg) - 1)) (fun m6 => some (x5, m6)))))))
theorem k_X9_worthOf {L : Nat} {xs : Nat → Int32} {δ N : Nat} {v1 : Int32} {m : mj_m} (hδ : 4 ≤ δ) {a : Int64 × mj_m} (h : f_X9_worthOf N v1 m = some a) : mj_Cl (mj_EX L xs) δ mY_X9_worthOf [.ref 95, .int v1] (mj_fin m) (some (.long a.1), (mj_fin a.2)) := by
  obtain ⟨δ, rfl⟩ : ∃ d, δ = d + 1 := ⟨δ - 1, by omega⟩
  have hδ : 3 ≤ δ := by omega
  refine mj_cl_of ok_X9_worthOf (Nat.le_of_ble_eq_true rfl) ?_
  unfold f_X9_worthOf at h
  refine mj_go_aload_n (k := 0) (x := 95) rfl (mj_dt dt_X9_worthOf 0 rfl) ?_
  obtain ⟨r1, er1, h⟩ := mj_bind_some h
  refine ml_callV (Y' := mY_X9_meanNow) (as := []) (rest := []) (c := 9) (v := (some (.long r1.1))) (M1 := (mj_fin r1.2)) ho_95 rfl lm_X9_259 wc_X9_meanNow pl_X9_meanNow ok_X9_meanNow rfl rfl (Nat.le_of_ble_eq_true rfl) (k_X9_meanNow (by omega) er1) (mj_dt dt_X9_worthOf 1 rfl) ?_
  refine mj_go_lstore_n (k := 2) (by decide) (mj_dt dt_X9_worthOf 2 rfl) ?_
  refine mj_go_aload_n (k := 0) (x := 95) rfl (mj_dt dt_X9_worthOf 3 rfl) ?_
  refine ml_getR (c := 9) (k := 23) (q := 108) fd_9_23 rf_95_23 (Or.inl fl_X9_62) ho_95 (mj_dt dt_X9_worthOf 4 rfl) ?_
  refine mj_go_iload_n (k := 1) (x := v1) rfl (mj_dt dt_X9_worthOf 5 rfl) ?_
  refine mj_go_dup2_11 rfl rfl (mj_dt dt_X9_worthOf 6 rfl) ?_
  obtain ⟨c2, h⟩ := mj_ck_some h
  refine mk_iald c2 (mj_dt dt_X9_worthOf 7 rfl) ?_
  refine mj_go_iconst (v := 1) rfl (mj_dt dt_X9_worthOf 8 rfl) ?_
  refine mj_go_iadd (mj_dt dt_X9_worthOf 9 rfl) ?_
  obtain ⟨m3, em3, h⟩ := mj_mw_some h
  refine ml_iast c2 (mj_dt dt_X9_worthOf 10 rfl) ?_
  refine ml_eqm (M1 := (mj_fin m3)) (by rw [em3] <;> rfl) ?_
  refine mj_go_lload_n (k := 2) (x := r1.1) rfl (mj_dt dt_X9_worthOf 11 rfl) ?_
  refine mj_go_aload_n (k := 0) (x := 95) rfl (mj_dt dt_X9_worthOf 12 rfl) ?_
  obtain ⟨r4, er4, h⟩ := mj_bind_some h
  refine ml_callV (Y' := mY_X9_meanNow) (as := []) (rest := [.long r1.1]) (c := 9) (v := (some (.long r4.1))) (M1 := (mj_fin r4.2)) ho_95 rfl lm_X9_259 wc_X9_meanNow pl_X9_meanNow ok_X9_meanNow rfl rfl (Nat.le_of_ble_eq_true rfl) (k_X9_meanNow (by omega) er4) (mj_dt dt_X9_worthOf 13 rfl) ?_
  refine mj_go_lsub (mj_dt dt_X9_worthOf 14 rfl) ?_
  obtain ⟨x5, ex5, h⟩ := mj_mw_some h
  refine ml_eql ex5 ?_
  refine mj_go_lstore_n (k := 2) (by decide) (mj_dt dt_X9_worthOf 15 rfl) ?_
  refine mj_go_aload_n (k := 0) (x := 95) rfl (mj_dt dt_X9_worthOf 16 rfl) ?_
  refine ml_getR (c := 9) (k := 23) (q := 108) fd_9_23 rf_95_23 (Or.inl fl_X9_62) ho_95 (mj_dt dt_X9_worthOf 17 rfl) ?_
  refine mj_go_iload_n (k := 1) (x := v1) rfl (mj_dt dt_X9_worthOf 18 rfl) ?_
  refine mj_go_dup2_11 rfl rfl (mj_dt dt_X9_worthOf 19 rfl) ?_
  refine mk_iald c2 (mj_dt dt_X9_worthOf 20 rfl) ?_
  refine mj_go_iconst (v := 1) rfl (mj_dt dt_X9_worthOf 21 rfl) ?_
  refine mj_go_isub (mj_dt dt_X9_worthOf 22 rfl) ?_
  obtain ⟨m6, em6, h⟩ := mj_mw_some h
  refine ml_iast c2 (mj_dt dt_X9_worthOf 23 rfl) ?_
  refine ml_eqm (M1 := (mj_fin m6)) (by rw [em6] <;> rfl) ?_
  refine mj_go_lload_n (k := 2) (x := x5) rfl (mj_dt dt_X9_worthOf 24 rfl) ?_
  obtain rfl := Option.some.inj h
  exact mj_go_ret (v := some (.long x5)) (Nat.le_of_ble_eq_true rfl) (mj_retL (mj_dt dt_X9_worthOf 25 rfl) rfl)
def f_X9_noLow (N : Nat) (v1 : Int32) (m : mj_m) : Option (Int32 × mj_m) := mj_ck (mj_b 0 96 (-v1)) ( mj_mw (mj_wI m 96 ((-v1).toNatClampNeg) ((m.1 96 (-v1).toNatClampNeg) + 1)) (fun m2 => some ((-1000000 : Int32) + v1, m2)))
theorem k_X9_noLow {L : Nat} {xs : Nat → Int32} {δ N : Nat} {v1 : Int32} {m : mj_m} (_ : 0 ≤ δ) {a : Int32 × mj_m} (h : f_X9_noLow N v1 m = some a) : mj_Cl (mj_EX L xs) δ mY_X9_noLow [.ref 95, .int v1] (mj_fin m) (some (.int a.1), (mj_fin a.2)) := by
  refine mj_cl_of ok_X9_noLow (Nat.le_of_ble_eq_true rfl) ?_
  unfold f_X9_noLow at h
  refine mj_go_aload_n (k := 0) (x := 95) rfl (mj_dt dt_X9_noLow 0 rfl) ?_
  refine ml_getR (c := 9) (k := 11) (q := 96) fd_9_11 rf_95_11 (Or.inl fl_X9_25) ho_95 (mj_dt dt_X9_noLow 1 rfl) ?_
  refine mj_go_iload_n (k := 1) (x := v1) rfl (mj_dt dt_X9_noLow 2 rfl) ?_
  refine mj_go_ineg (mj_dt dt_X9_noLow 3 rfl) ?_
  refine mj_go_dup2_11 rfl rfl (mj_dt dt_X9_noLow 4 rfl) ?_
  obtain ⟨c1, h⟩ := mj_ck_some h
  refine mk_iald c1 (mj_dt dt_X9_noLow 5 rfl) ?_
  refine mj_go_iconst (v := 1) rfl (mj_dt dt_X9_noLow 6 rfl) ?_
  refine mj_go_iadd (mj_dt dt_X9_noLow 7 rfl) ?_
  obtain ⟨m2, em2, h⟩ := mj_mw_some h
  refine ml_iast c1 (mj_dt dt_X9_noLow 8 rfl) ?_
  refine ml_eqm (M1 := (mj_fin m2)) (by rw [em2] <;> rfl) ?_
  refine mj_go_ldc (v := -1000000) cl_X9_123 (mj_dt dt_X9_noLow 9 rfl) ?_
  refine mj_go_iload_n (k := 1) (x := v1) rfl (mj_dt dt_X9_noLow 10 rfl) ?_
  refine mj_go_iadd (mj_dt dt_X9_noLow 11 rfl) ?_
  obtain rfl := Option.some.inj h
  exact mj_go_ret (v := some (.int ((-1000000 : Int32) + v1))) (Nat.le_of_ble_eq_true rfl) (mj_retI (mj_dt dt_X9_noLow 12 rfl) rfl)
def f_X9_worth (N : Nat) (v1 : Int32) (m : mj_m) : Option (Int64 × mj_m) := (f_X9_isHouse N v1 m).bind (fun r1 => if r1 = 0 then ((f_X9_noLow N (-1 : Int32) m).bind (fun r3 => some (r3.1.toInt64, r3.2))) else (mj_ck (mj_b 0 108 v1) ( if (m.1 108 v1.toNatClampNeg) = 2 then ((f_X9_noLow N (-6 : Int32) m).bind (fun r5 => some (r5.1.toInt64, r5.2))) else ((f_X9_worthsBy N 2 1 m).bind (fun r5 => (f_X9_worthOf N v1 r5).bind (fun r6 => some (r6.1, r6.2)))))))
theorem k_X9_worth {L : Nat} {xs : Nat → Int32} {δ N : Nat} {v1 : Int32} {m : mj_m} (hδ : 5 ≤ δ) {a : Int64 × mj_m} (h : f_X9_worth N v1 m = some a) : mj_Cl (mj_EX L xs) δ mY_X9_worth [.ref 95, .int v1] (mj_fin m) (some (.long a.1), (mj_fin a.2)) := by
  obtain ⟨δ, rfl⟩ : ∃ d, δ = d + 1 := ⟨δ - 1, by omega⟩
  have hδ : 4 ≤ δ := by omega
  refine mj_cl_of ok_X9_worth (Nat.le_of_ble_eq_true rfl) ?_
  unfold f_X9_worth at h
  refine mj_go_aload_n (k := 0) (x := 95) rfl (mj_dt dt_X9_worth 0 rfl) ?_
  refine mj_go_iload_n (k := 1) (x := v1) rfl (mj_dt dt_X9_worth 1 rfl) ?_
  obtain ⟨r1, er1, h⟩ := mj_bind_some h
  refine ml_callV (Y' := mY_X9_isHouse) (as := [.int v1]) (rest := []) (c := 9) (v := (some (.int r1))) (M1 := (mj_fin m)) ho_95 rfl lm_X9_168 wc_X9_isHouse pl_X9_isHouse ok_X9_isHouse rfl rfl (Nat.le_of_ble_eq_true rfl) (k_X9_isHouse (by omega) er1) (mj_dt dt_X9_worth 2 rfl) ?_
  refine mj_go_if_ne (tgt := 15) rfl (mj_dt dt_X9_worth 3 rfl) (fun b2 => ?_) (fun b2 => ?_)
  · rw [if_neg b2] at h
    refine mj_go_aload_n (k := 0) (x := 95) rfl (mj_dt dt_X9_worth 9 rfl) ?_
    refine ml_getR (c := 9) (k := 23) (q := 108) fd_9_23 rf_95_23 (Or.inl fl_X9_62) ho_95 (mj_dt dt_X9_worth 10 rfl) ?_
    refine mj_go_iload_n (k := 1) (x := v1) rfl (mj_dt dt_X9_worth 11 rfl) ?_
    obtain ⟨c3, h⟩ := mj_ck_some h
    refine mk_iald c3 (mj_dt dt_X9_worth 12 rfl) ?_
    refine mj_go_iconst (v := 2) rfl (mj_dt dt_X9_worth 13 rfl) ?_
    refine mj_go_icmp_ne (tgt := 33) rfl (mj_dt dt_X9_worth 14 rfl) (fun b4 => ?_) (fun b4 => ?_)
    · rw [if_neg b4] at h
      refine mj_go_aload_n (k := 0) (x := 95) rfl (mj_dt dt_X9_worth 20 rfl) ?_
      refine mj_go_iconst (v := 2) rfl (mj_dt dt_X9_worth 21 rfl) ?_
      refine mj_go_iconst (v := 1) rfl (mj_dt dt_X9_worth 22 rfl) ?_
      obtain ⟨r5, er5, h⟩ := mj_bind_some h
      refine ml_callV (Y' := mY_X9_worthsBy) (as := [.int 2, .int 1]) (rest := []) (c := 9) (v := none) (M1 := (mj_fin r5)) ho_95 rfl lm_X9_251 wc_X9_worthsBy pl_X9_worthsBy ok_X9_worthsBy rfl rfl (Nat.le_of_ble_eq_true rfl) (k_X9_worthsBy (by omega) er5) (mj_dt dt_X9_worth 23 rfl) ?_
      refine mj_go_aload_n (k := 0) (x := 95) rfl (mj_dt dt_X9_worth 24 rfl) ?_
      refine mj_go_iload_n (k := 1) (x := v1) rfl (mj_dt dt_X9_worth 25 rfl) ?_
      obtain ⟨r6, er6, h⟩ := mj_bind_some h
      refine ml_callV (Y' := mY_X9_worthOf) (as := [.int v1]) (rest := []) (c := 9) (v := (some (.long r6.1))) (M1 := (mj_fin r6.2)) ho_95 rfl lm_X9_269 wc_X9_worthOf pl_X9_worthOf ok_X9_worthOf rfl rfl (Nat.le_of_ble_eq_true rfl) (k_X9_worthOf (by omega) er6) (mj_dt dt_X9_worth 26 rfl) ?_
      obtain rfl := Option.some.inj h
      exact mj_go_ret (v := some (.long r6.1)) (Nat.le_of_ble_eq_true rfl) (mj_retL (mj_dt dt_X9_worth 27 rfl) rfl)
    · rw [if_pos b4] at h
      refine mj_go_aload_n (k := 0) (x := 95) rfl (mj_dt dt_X9_worth 15 rfl) ?_
      refine mj_go_bipush (v := -6) rfl (mj_dt dt_X9_worth 16 rfl) ?_
      obtain ⟨r5, er5, h⟩ := mj_bind_some h
      refine ml_callV (Y' := mY_X9_noLow) (as := [.int (-6 : Int32)]) (rest := []) (c := 9) (v := (some (.int r5.1))) (M1 := (mj_fin r5.2)) ho_95 rfl lm_X9_266 wc_X9_noLow pl_X9_noLow ok_X9_noLow rfl rfl (Nat.le_of_ble_eq_true rfl) (k_X9_noLow (by omega) er5) (mj_dt dt_X9_worth 17 rfl) ?_
      refine mj_go_i2l (mj_dt dt_X9_worth 18 rfl) ?_
      obtain rfl := Option.some.inj h
      exact mj_go_ret (v := some (.long (r5.1.toInt64))) (Nat.le_of_ble_eq_true rfl) (mj_retL (mj_dt dt_X9_worth 19 rfl) rfl)
  · rw [if_pos b2] at h
    refine mj_go_aload_n (k := 0) (x := 95) rfl (mj_dt dt_X9_worth 4 rfl) ?_
    refine mj_go_iconst (v := -1) rfl (mj_dt dt_X9_worth 5 rfl) ?_
    obtain ⟨r3, er3, h⟩ := mj_bind_some h
    refine ml_callV (Y' := mY_X9_noLow) (as := [.int (-1 : Int32)]) (rest := []) (c := 9) (v := (some (.int r3.1))) (M1 := (mj_fin r3.2)) ho_95 rfl lm_X9_266 wc_X9_noLow pl_X9_noLow ok_X9_noLow rfl rfl (Nat.le_of_ble_eq_true rfl) (k_X9_noLow (by omega) er3) (mj_dt dt_X9_worth 6 rfl) ?_
    refine mj_go_i2l (mj_dt dt_X9_worth 7 rfl) ?_
    obtain rfl := Option.some.inj h
    exact mj_go_ret (v := some (.long (r3.1.toInt64))) (Nat.le_of_ble_eq_true rfl) (mj_retL (mj_dt dt_X9_worth 8 rfl) rfl)
def f_X4_worthiest_104 (N : Nat) (k_30 : Int32 × Int64 × Int32 × mj_m → Option (Int32 × mj_m)) (v1 : Int64) (v3 : Int32) (v4 : Int64) (v6 : Int32) (m : mj_m) : Option (Int32 × mj_m) := mj_mw (v6 + 1) (fun x1 => k_30 (v3, v4, x1, m))
theorem k_X4_worthiest_104 {L : Nat} {xs : Nat → Int32} {δ N : Nat} {v1 : Int64} {v3 : Int32} {v4 : Int64} {v6 : Int32} {m : mj_m} {k_30 : Int32 × Int64 × Int32 × mj_m → Option (Int32 × mj_m)} (q_30 : ∀ (s_ : Int32 × Int64 × Int32 × mj_m) (a_ : Int32 × mj_m), k_30 s_ = some a_ → mj_Go (mj_EX L xs) (δ + 1) mY_X4_worthiest 30 [(0, .ref 48), (1, .long v1), (3, .int s_.1), (4, .long s_.2.1), (6, .int s_.2.2.1)] [] (mj_fin s_.2.2.2) (some (.int a_.1), (mj_fin a_.2))) (hδ : 4 ≤ δ) {a : Int32 × mj_m} (h : f_X4_worthiest_104 N k_30 v1 v3 v4 v6 m = some a) : mj_Go (mj_EX L xs) (δ + 1) mY_X4_worthiest 104 [(0, .ref 48), (1, .long v1), (3, .int v3), (4, .long v4), (6, .int v6)] [] (mj_fin m) (some (.int a.1), (mj_fin a.2)) := by
  unfold f_X4_worthiest_104 at h
  obtain ⟨x1, ex1, h⟩ := mj_mw_some h
  refine mj_go_iinc (i := 6) (x := v6) (v := x1) rfl (by rw [ex1] <;> rfl) (by decide) (mj_dt dt_X4_worthiest 54 rfl) ?_
  refine mj_go_goto (tgt := 30) rfl (mj_dt dt_X4_worthiest 55 rfl) ?_
  refine mj_go_sub (lv' := [(0, .ref 48), (1, .long v1), (3, .int v3), (4, .long v4), (6, .int x1)]) (List.forall_mem_cons.mpr ⟨rfl, (List.forall_mem_cons.mpr ⟨rfl, (List.forall_mem_cons.mpr ⟨rfl, (List.forall_mem_cons.mpr ⟨rfl, (List.forall_mem_cons.mpr ⟨rfl, (fun _ h9 => absurd h9 List.not_mem_nil)⟩)⟩)⟩)⟩)⟩) ?_
  exact q_30 _ _ h
def f_X4_worthiest_97 (N : Nat) (k_30 : Int32 × Int64 × Int32 × mj_m → Option (Int32 × mj_m)) (v1 : Int64) (v6 : Int32) (v7 : Int64) (m : mj_m) : Option (Int32 × mj_m) := f_X4_worthiest_104 N k_30 v1 v6 v7 v6 m
theorem k_X4_worthiest_97 {L : Nat} {xs : Nat → Int32} {δ N : Nat} {v1 : Int64} {v6 : Int32} {v7 : Int64} {m : mj_m} {k_30 : Int32 × Int64 × Int32 × mj_m → Option (Int32 × mj_m)} (q_30 : ∀ (s_ : Int32 × Int64 × Int32 × mj_m) (a_ : Int32 × mj_m), k_30 s_ = some a_ → mj_Go (mj_EX L xs) (δ + 1) mY_X4_worthiest 30 [(0, .ref 48), (1, .long v1), (3, .int s_.1), (4, .long s_.2.1), (6, .int s_.2.2.1)] [] (mj_fin s_.2.2.2) (some (.int a_.1), (mj_fin a_.2))) (hδ : 4 ≤ δ) {a : Int32 × mj_m} (h : f_X4_worthiest_97 N k_30 v1 v6 v7 m = some a) : mj_Go (mj_EX L xs) (δ + 1) mY_X4_worthiest 97 [(0, .ref 48), (1, .long v1), (6, .int v6), (7, .long v7)] [] (mj_fin m) (some (.int a.1), (mj_fin a.2)) := by
  unfold f_X4_worthiest_97 at h
  refine mj_go_iload (i := 6) (x := v6) rfl (mj_dt dt_X4_worthiest 50 rfl) ?_
  refine mj_go_istore_n (k := 3) (by decide) (mj_dt dt_X4_worthiest 51 rfl) ?_
  refine mj_go_lload (i := 7) (x := v7) rfl (mj_dt dt_X4_worthiest 52 rfl) ?_
  refine mj_go_lstore (i := 4) (by decide) (mj_dt dt_X4_worthiest 53 rfl) ?_
  refine mj_go_sub (lv' := [(0, .ref 48), (1, .long v1), (3, .int v6), (4, .long v7), (6, .int v6)]) (List.forall_mem_cons.mpr ⟨rfl, (List.forall_mem_cons.mpr ⟨rfl, (List.forall_mem_cons.mpr ⟨rfl, (List.forall_mem_cons.mpr ⟨rfl, (List.forall_mem_cons.mpr ⟨rfl, (fun _ h9 => absurd h9 List.not_mem_nil)⟩)⟩)⟩)⟩)⟩) ?_
  exact k_X4_worthiest_104 q_30 hδ h
def f_X4_worthiest_30 (N : Nat) (v1 : Int64) (k_30 : Int32 × Int64 × Int32 × mj_m → Option (Int32 × mj_m)) (s : Int32 × Int64 × Int32 × mj_m) : Option (Int32 × mj_m) := if (s.2.2.2.1 1 7) ≤ s.2.2.1 then (some (s.1, s.2.2.2)) else (mj_ck (mj_b 0 5 s.2.2.1) ( if 2 ≤ (s.2.2.2.1 5 s.2.2.1.toNatClampNeg) then f_X4_worthiest_104 N k_30 v1 s.1 s.2.1 s.2.2.1 s.2.2.2 else ((f_X4_worthOf N s.2.2.1 v1 s.2.2.2).bind (fun r4 => mj_ck (mj_b 2 4 s.2.2.1) ( mj_ck (decide (¬ ((if 1 < (r4.2.1 (8 + s.2.2.1.toNatClampNeg) 4) then (r4.2.1 (8 + s.2.2.1.toNatClampNeg) 4) else 1).toInt64) = 0)) ( mj_mw (r4.1 / ((if 1 < (r4.2.1 (8 + s.2.2.1.toNatClampNeg) 4) then (r4.2.1 (8 + s.2.2.1.toNatClampNeg) 4) else 1).toInt64)) (fun x7 => if s.1 = (-1 : Int32) then f_X4_worthiest_97 N k_30 v1 s.2.2.1 x7 r4.2 else (if (lg_cmp x7 s.2.1) ≤ 0 then f_X4_worthiest_104 N k_30 v1 s.1 s.2.1 s.2.2.1 r4.2 else f_X4_worthiest_97 N k_30 v1 s.2.2.1 x7 r4.2))))))))
theorem k_X4_worthiest_30 {L : Nat} {xs : Nat → Int32} {δ N : Nat} {v1 : Int64} (hδ : 4 ≤ δ) : ∀ (n : Nat) (s : Int32 × Int64 × Int32 × mj_m) (a : Int32 × mj_m), mj_lp n (f_X4_worthiest_30 N v1) s = some a → mj_Go (mj_EX L xs) (δ + 1) mY_X4_worthiest 30 [(0, .ref 48), (1, .long v1), (3, .int s.1), (4, .long s.2.1), (6, .int s.2.2.1)] [] (mj_fin s.2.2.2) (some (.int a.1), (mj_fin a.2)) := by
  refine mj_lp_sound (fun k_30 s a q_30 h => ?_)
  unfold f_X4_worthiest_30 at h
  refine mj_go_iload (i := 6) (x := s.2.2.1) rfl (mj_dt dt_X4_worthiest 16 rfl) ?_
  refine mj_go_aload_n (k := 0) (x := 48) rfl (mj_dt dt_X4_worthiest 17 rfl) ?_
  refine ml_getR (c := 4) (k := 0) (q := 1) fd_4_0 rf_48_0 (Or.inl fl_X4_47) ho_48 (mj_dt dt_X4_worthiest 18 rfl) ?_
  refine mk_getI (c := 7) (k := 7) (Or.inl fd_7_7) (Or.inl fl_X4_79) ho_1 (mj_dt dt_X4_worthiest 19 rfl) ?_
  refine mj_go_icmp_ge (tgt := 110) rfl (mj_dt dt_X4_worthiest 20 rfl) (fun b1 => ?_) (fun b1 => ?_)
  · rw [if_pos b1] at h
    refine mj_go_iload_n (k := 3) (x := s.1) rfl (mj_dt dt_X4_worthiest 56 rfl) ?_
    obtain rfl := Option.some.inj h
    exact mj_go_ret (v := some (.int s.1)) (Nat.le_of_ble_eq_true rfl) (mj_retI (mj_dt dt_X4_worthiest 57 rfl) rfl)
  · rw [if_neg b1] at h
    refine mj_go_aload_n (k := 0) (x := 48) rfl (mj_dt dt_X4_worthiest 21 rfl) ?_
    refine ml_getR (c := 4) (k := 0) (q := 1) fd_4_0 rf_48_0 (Or.inl fl_X4_47) ho_48 (mj_dt dt_X4_worthiest 22 rfl) ?_
    refine ml_getR (c := 7) (k := 3) (q := 5) fd_7_3 rf_1_3 (Or.inl fl_X4_59) ho_1 (mj_dt dt_X4_worthiest 23 rfl) ?_
    refine mj_go_iload (i := 6) (x := s.2.2.1) rfl (mj_dt dt_X4_worthiest 24 rfl) ?_
    obtain ⟨c2, h⟩ := mj_ck_some h
    refine mk_iald c2 (mj_dt dt_X4_worthiest 25 rfl) ?_
    refine mj_go_iconst (v := 2) rfl (mj_dt dt_X4_worthiest 26 rfl) ?_
    refine mj_go_icmp_ge (tgt := 104) rfl (mj_dt dt_X4_worthiest 27 rfl) (fun b3 => ?_) (fun b3 => ?_)
    · rw [if_pos b3] at h
      refine mj_go_sub (lv' := [(0, .ref 48), (1, .long v1), (3, .int s.1), (4, .long s.2.1), (6, .int s.2.2.1)]) (List.forall_mem_cons.mpr ⟨rfl, (List.forall_mem_cons.mpr ⟨rfl, (List.forall_mem_cons.mpr ⟨rfl, (List.forall_mem_cons.mpr ⟨rfl, (List.forall_mem_cons.mpr ⟨rfl, (fun _ h9 => absurd h9 List.not_mem_nil)⟩)⟩)⟩)⟩)⟩) ?_
      exact k_X4_worthiest_104 q_30 hδ h
    · rw [if_neg b3] at h
      refine mj_go_aload_n (k := 0) (x := 48) rfl (mj_dt dt_X4_worthiest 28 rfl) ?_
      refine mj_go_iload (i := 6) (x := s.2.2.1) rfl (mj_dt dt_X4_worthiest 29 rfl) ?_
      refine mj_go_lload_n (k := 1) (x := v1) rfl (mj_dt dt_X4_worthiest 30 rfl) ?_
      obtain ⟨r4, er4, h⟩ := mj_bind_some h
      refine ml_callV (Y' := mY_X4_worthOf) (as := [.int s.2.2.1, .long v1]) (rest := []) (c := 4) (v := (some (.long r4.1))) (M1 := (mj_fin r4.2)) ho_48 rfl lm_X4_82 wc_X4_worthOf pl_X4_worthOf ok_X4_worthOf rfl rfl (Nat.le_of_ble_eq_true rfl) (k_X4_worthOf (by omega) er4) (mj_dt dt_X4_worthiest 31 rfl) ?_
      refine mj_go_iconst (v := 1) rfl (mj_dt dt_X4_worthiest 32 rfl) ?_
      refine mj_go_aload_n (k := 0) (x := 48) rfl (mj_dt dt_X4_worthiest 33 rfl) ?_
      refine ml_getR (c := 4) (k := 0) (q := 1) fd_4_0 rf_48_0 (Or.inl fl_X4_47) ho_48 (mj_dt dt_X4_worthiest 34 rfl) ?_
      refine ml_getR (c := 7) (k := 2) (q := 4) fd_7_2 rf_1_2 (Or.inl fl_X4_86) ho_1 (mj_dt dt_X4_worthiest 35 rfl) ?_
      refine mj_go_iload (i := 6) (x := s.2.2.1) rfl (mj_dt dt_X4_worthiest 36 rfl) ?_
      obtain ⟨c5, h⟩ := mj_ck_some h
      refine ml_aald2 (q := 8 + s.2.2.1.toNatClampNeg) c5 (mj_hs4 c5).1 (mj_dt dt_X4_worthiest 37 rfl) ?_
      refine mk_getI (c := 1) (k := 4) (Or.inl fd_1_4) (Or.inl fl_X4_90) (mj_hs4 c5).2 (mj_dt dt_X4_worthiest 38 rfl) ?_
      refine mj_go_max hm_X4_95 (Nat.le_of_ble_eq_true rfl) (mj_dt dt_X4_worthiest 39 rfl) ?_
      refine mj_go_i2l (mj_dt dt_X4_worthiest 40 rfl) ?_
      obtain ⟨c6, h⟩ := mj_ck_some h
      refine mj_go_ldiv (of_decide_eq_true c6) (mj_dt dt_X4_worthiest 41 rfl) ?_
      obtain ⟨x7, ex7, h⟩ := mj_mw_some h
      refine ml_eql ex7 ?_
      refine mj_go_lstore (i := 7) (by decide) (mj_dt dt_X4_worthiest 42 rfl) ?_
      refine mj_go_iload_n (k := 3) (x := s.1) rfl (mj_dt dt_X4_worthiest 43 rfl) ?_
      refine mj_go_iconst (v := -1) rfl (mj_dt dt_X4_worthiest 44 rfl) ?_
      refine mj_go_icmp_eq (tgt := 97) rfl (mj_dt dt_X4_worthiest 45 rfl) (fun b8 => ?_) (fun b8 => ?_)
      · rw [if_pos b8] at h
        refine mj_go_sub (lv' := [(0, .ref 48), (1, .long v1), (6, .int s.2.2.1), (7, .long x7)]) (List.forall_mem_cons.mpr ⟨rfl, (List.forall_mem_cons.mpr ⟨rfl, (List.forall_mem_cons.mpr ⟨rfl, (List.forall_mem_cons.mpr ⟨rfl, (fun _ h9 => absurd h9 List.not_mem_nil)⟩)⟩)⟩)⟩) ?_
        exact k_X4_worthiest_97 q_30 hδ h
      · rw [if_neg b8] at h
        refine mj_go_lload (i := 7) (x := x7) rfl (mj_dt dt_X4_worthiest 46 rfl) ?_
        refine mj_go_lload (i := 4) (x := s.2.1) rfl (mj_dt dt_X4_worthiest 47 rfl) ?_
        refine mj_go_lcmp (mj_dt dt_X4_worthiest 48 rfl) ?_
        refine mj_go_if_le (tgt := 104) rfl (mj_dt dt_X4_worthiest 49 rfl) (fun b9 => ?_) (fun b9 => ?_)
        · rw [if_pos b9] at h
          refine mj_go_sub (lv' := [(0, .ref 48), (1, .long v1), (3, .int s.1), (4, .long s.2.1), (6, .int s.2.2.1)]) (List.forall_mem_cons.mpr ⟨rfl, (List.forall_mem_cons.mpr ⟨rfl, (List.forall_mem_cons.mpr ⟨rfl, (List.forall_mem_cons.mpr ⟨rfl, (List.forall_mem_cons.mpr ⟨rfl, (fun _ h9 => absurd h9 List.not_mem_nil)⟩)⟩)⟩)⟩)⟩) ?_
          exact k_X4_worthiest_104 q_30 hδ h
        · rw [if_neg b9] at h
          refine mj_go_sub (lv' := [(0, .ref 48), (1, .long v1), (6, .int s.2.2.1), (7, .long x7)]) (List.forall_mem_cons.mpr ⟨rfl, (List.forall_mem_cons.mpr ⟨rfl, (List.forall_mem_cons.mpr ⟨rfl, (List.forall_mem_cons.mpr ⟨rfl, (fun _ h9 => absurd h9 List.not_mem_nil)⟩)⟩)⟩)⟩) ?_
          exact k_X4_worthiest_97 q_30 hδ h
def f_X4_worthiest (N : Nat) (m : mj_m) : Option (Int32 × mj_m) := (f_X2_weighYear N m).bind (fun r1 => (f_X2_meanBy N 5 r1).bind (fun r2 => mj_lp N (f_X4_worthiest_30 N r2.1) ((-1 : Int32), 0, 0, r2.2)))
theorem k_X4_worthiest {L : Nat} {xs : Nat → Int32} {δ N : Nat} {m : mj_m} (hδ : 5 ≤ δ) {a : Int32 × mj_m} (h : f_X4_worthiest N m = some a) : mj_Cl (mj_EX L xs) δ mY_X4_worthiest [.ref 48] (mj_fin m) (some (.int a.1), (mj_fin a.2)) := by
  obtain ⟨δ, rfl⟩ : ∃ d, δ = d + 1 := ⟨δ - 1, by omega⟩
  have hδ : 4 ≤ δ := by omega
  refine mj_cl_of ok_X4_worthiest (Nat.le_of_ble_eq_true rfl) ?_
  unfold f_X4_worthiest at h
  refine mj_go_aload_n (k := 0) (x := 48) rfl (mj_dt dt_X4_worthiest 0 rfl) ?_
  refine ml_getR (c := 4) (k := 1) (q := 36) fd_4_1 rf_48_1 (Or.inl fl_X4_51) ho_48 (mj_dt dt_X4_worthiest 1 rfl) ?_
  obtain ⟨r1, er1, h⟩ := mj_bind_some h
  refine ml_callV (Y' := mY_X2_weighYear) (as := []) (rest := []) (c := 2) (v := none) (M1 := (mj_fin r1)) ho_36 rfl lm_X4_76 wc_X2_weighYear pl_X2_weighYear ok_X2_weighYear rfl rfl (Nat.le_of_ble_eq_true rfl) (k_X2_weighYear (by omega) er1) (mj_dt dt_X4_worthiest 2 rfl) ?_
  refine mj_go_aload_n (k := 0) (x := 48) rfl (mj_dt dt_X4_worthiest 3 rfl) ?_
  refine ml_getR (c := 4) (k := 1) (q := 36) fd_4_1 rf_48_1 (Or.inl fl_X4_51) ho_48 (mj_dt dt_X4_worthiest 4 rfl) ?_
  refine mj_go_aload_n (k := 0) (x := 48) rfl (mj_dt dt_X4_worthiest 5 rfl) ?_
  refine ml_getR (c := 4) (k := 0) (q := 1) fd_4_0 rf_48_0 (Or.inl fl_X4_47) ho_48 (mj_dt dt_X4_worthiest 6 rfl) ?_
  refine ml_getR (c := 7) (k := 3) (q := 5) fd_7_3 rf_1_3 (Or.inl fl_X4_59) ho_1 (mj_dt dt_X4_worthiest 7 rfl) ?_
  obtain ⟨r2, er2, h⟩ := mj_bind_some h
  refine ml_callV (Y' := mY_X2_meanBy) (as := [.ref 5]) (rest := []) (c := 2) (v := (some (.long r2.1))) (M1 := (mj_fin r2.2)) ho_36 rfl lm_X4_70 wc_X2_meanBy pl_X2_meanBy ok_X2_meanBy rfl rfl (Nat.le_of_ble_eq_true rfl) (k_X2_meanBy (by omega) er2) (mj_dt dt_X4_worthiest 8 rfl) ?_
  refine mj_go_lstore_n (k := 1) (by decide) (mj_dt dt_X4_worthiest 9 rfl) ?_
  refine mj_go_iconst (v := -1) rfl (mj_dt dt_X4_worthiest 10 rfl) ?_
  refine mj_go_istore_n (k := 3) (by decide) (mj_dt dt_X4_worthiest 11 rfl) ?_
  refine mj_go_lconst (v := 0) rfl (mj_dt dt_X4_worthiest 12 rfl) ?_
  refine mj_go_lstore (i := 4) (by decide) (mj_dt dt_X4_worthiest 13 rfl) ?_
  refine mj_go_iconst (v := 0) rfl (mj_dt dt_X4_worthiest 14 rfl) ?_
  refine mj_go_istore (i := 6) (by decide) (mj_dt dt_X4_worthiest 15 rfl) ?_
  refine mj_go_sub (lv' := [(0, .ref 48), (1, .long r2.1), (3, .int (-1 : Int32)), (4, .long 0), (6, .int 0)]) (List.forall_mem_cons.mpr ⟨rfl, (List.forall_mem_cons.mpr ⟨rfl, (List.forall_mem_cons.mpr ⟨rfl, (List.forall_mem_cons.mpr ⟨rfl, (List.forall_mem_cons.mpr ⟨rfl, (fun _ h9 => absurd h9 List.not_mem_nil)⟩)⟩)⟩)⟩)⟩) ?_
  exact k_X4_worthiest_30 hδ N _ _ h
def f_X8_which (N : Nat) (m : mj_m) : Option (Int32 × mj_m) := (f_X4_worthiest N m).bind (fun r1 => some (r1.1, r1.2))
theorem k_X8_which {L : Nat} {xs : Nat → Int32} {δ N : Nat} {m : mj_m} (hδ : 6 ≤ δ) {a : Int32 × mj_m} (h : f_X8_which N m = some a) : mj_Cl (mj_EX L xs) δ mY_X8_which [.ref 0] (mj_fin m) (some (.int a.1), (mj_fin a.2)) := by
  obtain ⟨δ, rfl⟩ : ∃ d, δ = d + 1 := ⟨δ - 1, by omega⟩
  have hδ : 5 ≤ δ := by omega
  refine mj_cl_of ok_X8_which (Nat.le_of_ble_eq_true rfl) ?_
  unfold f_X8_which at h
  refine mj_go_aload_n (k := 0) (x := 0) rfl (mj_dt dt_X8_which 0 rfl) ?_
  refine ml_getR (c := 8) (k := 5) (q := 48) fd_8_5 rf_0_5 (Or.inl fl_X8_48) ho_0 (mj_dt dt_X8_which 1 rfl) ?_
  obtain ⟨r1, er1, h⟩ := mj_bind_some h
  refine ml_callV (Y' := mY_X4_worthiest) (as := []) (rest := []) (c := 4) (v := (some (.int r1.1))) (M1 := (mj_fin r1.2)) ho_48 rfl lm_X8_293 wc_X4_worthiest pl_X4_worthiest ok_X4_worthiest rfl rfl (Nat.le_of_ble_eq_true rfl) (k_X4_worthiest (by omega) er1) (mj_dt dt_X8_which 2 rfl) ?_
  obtain rfl := Option.some.inj h
  exact mj_go_ret (v := some (.int r1.1)) (Nat.le_of_ble_eq_true rfl) (mj_retI (mj_dt dt_X8_which 3 rfl) rfl)
def f_X9_which_74 (N : Nat) (k_13 : Int32 × Int64 × Int32 × mj_m → Option (Int32 × mj_m)) (v1 : Int32) (v2 : Int64) (v4 : Int32) (m : mj_m) : Option (Int32 × mj_m) := mj_mw (v4 + 1) (fun x1 => k_13 (v1, v2, x1, m))
theorem k_X9_which_74 {L : Nat} {xs : Nat → Int32} {δ N : Nat} {v1 : Int32} {v2 : Int64} {v4 : Int32} {m : mj_m} {k_13 : Int32 × Int64 × Int32 × mj_m → Option (Int32 × mj_m)} (q_13 : ∀ (s_ : Int32 × Int64 × Int32 × mj_m) (a_ : Int32 × mj_m), k_13 s_ = some a_ → mj_Go (mj_EX L xs) (δ + 1) mY_X9_which 13 [(0, .ref 95), (1, .int s_.1), (2, .long s_.2.1), (4, .int s_.2.2.1)] [] (mj_fin s_.2.2.2) (some (.int a_.1), (mj_fin a_.2))) (hδ : 4 ≤ δ) {a : Int32 × mj_m} (h : f_X9_which_74 N k_13 v1 v2 v4 m = some a) : mj_Go (mj_EX L xs) (δ + 1) mY_X9_which 74 [(0, .ref 95), (1, .int v1), (2, .long v2), (4, .int v4)] [] (mj_fin m) (some (.int a.1), (mj_fin a.2)) := by
  unfold f_X9_which_74 at h
  obtain ⟨x1, ex1, h⟩ := mj_mw_some h
  refine mj_go_iinc (i := 4) (x := v4) (v := x1) rfl (by rw [ex1] <;> rfl) (by decide) (mj_dt dt_X9_which 43 rfl) ?_
  refine mj_go_goto (tgt := 13) rfl (mj_dt dt_X9_which 44 rfl) ?_
  refine mj_go_sub (lv' := [(0, .ref 95), (1, .int v1), (2, .long v2), (4, .int x1)]) (List.forall_mem_cons.mpr ⟨rfl, (List.forall_mem_cons.mpr ⟨rfl, (List.forall_mem_cons.mpr ⟨rfl, (List.forall_mem_cons.mpr ⟨rfl, (fun _ h9 => absurd h9 List.not_mem_nil)⟩)⟩)⟩)⟩) ?_
  exact q_13 _ _ h
def f_X9_which_68 (N : Nat) (k_13 : Int32 × Int64 × Int32 × mj_m → Option (Int32 × mj_m)) (v4 : Int32) (v5 : Int64) (m : mj_m) : Option (Int32 × mj_m) := f_X9_which_74 N k_13 v4 v5 v4 m
theorem k_X9_which_68 {L : Nat} {xs : Nat → Int32} {δ N : Nat} {v4 : Int32} {v5 : Int64} {m : mj_m} {k_13 : Int32 × Int64 × Int32 × mj_m → Option (Int32 × mj_m)} (q_13 : ∀ (s_ : Int32 × Int64 × Int32 × mj_m) (a_ : Int32 × mj_m), k_13 s_ = some a_ → mj_Go (mj_EX L xs) (δ + 1) mY_X9_which 13 [(0, .ref 95), (1, .int s_.1), (2, .long s_.2.1), (4, .int s_.2.2.1)] [] (mj_fin s_.2.2.2) (some (.int a_.1), (mj_fin a_.2))) (hδ : 4 ≤ δ) {a : Int32 × mj_m} (h : f_X9_which_68 N k_13 v4 v5 m = some a) : mj_Go (mj_EX L xs) (δ + 1) mY_X9_which 68 [(0, .ref 95), (4, .int v4), (5, .long v5)] [] (mj_fin m) (some (.int a.1), (mj_fin a.2)) := by
  unfold f_X9_which_68 at h
  refine mj_go_iload (i := 4) (x := v4) rfl (mj_dt dt_X9_which 39 rfl) ?_
  refine mj_go_istore_n (k := 1) (by decide) (mj_dt dt_X9_which 40 rfl) ?_
  refine mj_go_lload (i := 5) (x := v5) rfl (mj_dt dt_X9_which 41 rfl) ?_
  refine mj_go_lstore_n (k := 2) (by decide) (mj_dt dt_X9_which 42 rfl) ?_
  refine mj_go_sub (lv' := [(0, .ref 95), (1, .int v4), (2, .long v5), (4, .int v4)]) (List.forall_mem_cons.mpr ⟨rfl, (List.forall_mem_cons.mpr ⟨rfl, (List.forall_mem_cons.mpr ⟨rfl, (List.forall_mem_cons.mpr ⟨rfl, (fun _ h9 => absurd h9 List.not_mem_nil)⟩)⟩)⟩)⟩) ?_
  exact k_X9_which_74 q_13 hδ h
def f_X9_which_13 (N : Nat) (k_13 : Int32 × Int64 × Int32 × mj_m → Option (Int32 × mj_m)) (s : Int32 × Int64 × Int32 × mj_m) : Option (Int32 × mj_m) := if (s.2.2.2.1 95 1) ≤ s.2.2.1 then (some (s.1, s.2.2.2)) else (mj_ck (mj_b 0 108 s.2.2.1) ( if (s.2.2.2.1 108 s.2.2.1.toNatClampNeg) = 2 then (f_X9_which_74 N k_13 s.1 s.2.1 s.2.2.1 s.2.2.2) else ((f_X9_worthOf N s.2.2.1 s.2.2.2).bind (fun r4 => mj_ck (mj_b 0 105 s.2.2.1) ( mj_ck (decide (¬ ((r4.2.1 105 s.2.2.1.toNatClampNeg).toInt64) = 0)) ( mj_mw (r4.1 / ((r4.2.1 105 s.2.2.1.toNatClampNeg).toInt64)) (fun x7 => if s.1 = (-1 : Int32) then f_X9_which_68 N k_13 s.2.2.1 x7 r4.2 else (if 0 < (lg_cmp x7 s.2.1) then f_X9_which_68 N k_13 s.2.2.1 x7 r4.2 else (f_X9_which_74 N k_13 s.1 s.2.1 s.2.2.1 r4.2)))))))))
theorem k_X9_which_13 {L : Nat} {xs : Nat → Int32} {δ N : Nat} (hδ : 4 ≤ δ) : ∀ (n : Nat) (s : Int32 × Int64 × Int32 × mj_m) (a : Int32 × mj_m), mj_lp n (f_X9_which_13 N) s = some a → mj_Go (mj_EX L xs) (δ + 1) mY_X9_which 13 [(0, .ref 95), (1, .int s.1), (2, .long s.2.1), (4, .int s.2.2.1)] [] (mj_fin s.2.2.2) (some (.int a.1), (mj_fin a.2)) := by
  refine mj_lp_sound (fun k_13 s a q_13 h => ?_)
  unfold f_X9_which_13 at h
  refine mj_go_iload (i := 4) (x := s.2.2.1) rfl (mj_dt dt_X9_which 10 rfl) ?_
  refine mj_go_aload_n (k := 0) (x := 95) rfl (mj_dt dt_X9_which 11 rfl) ?_
  refine mk_getI (c := 9) (k := 1) (Or.inl fd_9_1) (Or.inl fl_X9_124) ho_95 (mj_dt dt_X9_which 12 rfl) ?_
  refine mj_go_icmp_ge (tgt := 80) rfl (mj_dt dt_X9_which 13 rfl) (fun b1 => ?_) (fun b1 => ?_)
  · rw [if_pos b1] at h
    refine mj_go_iload_n (k := 1) (x := s.1) rfl (mj_dt dt_X9_which 45 rfl) ?_
    obtain rfl := Option.some.inj h
    exact mj_go_ret (v := some (.int s.1)) (Nat.le_of_ble_eq_true rfl) (mj_retI (mj_dt dt_X9_which 46 rfl) rfl)
  · rw [if_neg b1] at h
    refine mj_go_aload_n (k := 0) (x := 95) rfl (mj_dt dt_X9_which 14 rfl) ?_
    refine ml_getR (c := 9) (k := 23) (q := 108) fd_9_23 rf_95_23 (Or.inl fl_X9_62) ho_95 (mj_dt dt_X9_which 15 rfl) ?_
    refine mj_go_iload (i := 4) (x := s.2.2.1) rfl (mj_dt dt_X9_which 16 rfl) ?_
    obtain ⟨c2, h⟩ := mj_ck_some h
    refine mk_iald c2 (mj_dt dt_X9_which 17 rfl) ?_
    refine mj_go_iconst (v := 2) rfl (mj_dt dt_X9_which 18 rfl) ?_
    refine mj_go_icmp_ne (tgt := 36) rfl (mj_dt dt_X9_which 19 rfl) (fun b3 => ?_) (fun b3 => ?_)
    · rw [if_neg b3] at h
      refine mj_go_aload_n (k := 0) (x := 95) rfl (mj_dt dt_X9_which 21 rfl) ?_
      refine mj_go_iload (i := 4) (x := s.2.2.1) rfl (mj_dt dt_X9_which 22 rfl) ?_
      obtain ⟨r4, er4, h⟩ := mj_bind_some h
      refine ml_callV (Y' := mY_X9_worthOf) (as := [.int s.2.2.1]) (rest := []) (c := 9) (v := (some (.long r4.1))) (M1 := (mj_fin r4.2)) ho_95 rfl lm_X9_269 wc_X9_worthOf pl_X9_worthOf ok_X9_worthOf rfl rfl (Nat.le_of_ble_eq_true rfl) (k_X9_worthOf (by omega) er4) (mj_dt dt_X9_which 23 rfl) ?_
      refine mj_go_aload_n (k := 0) (x := 95) rfl (mj_dt dt_X9_which 24 rfl) ?_
      refine ml_getR (c := 9) (k := 20) (q := 105) fd_9_20 rf_95_20 (Or.inl fl_X9_53) ho_95 (mj_dt dt_X9_which 25 rfl) ?_
      refine mj_go_iload (i := 4) (x := s.2.2.1) rfl (mj_dt dt_X9_which 26 rfl) ?_
      obtain ⟨c5, h⟩ := mj_ck_some h
      refine mk_iald c5 (mj_dt dt_X9_which 27 rfl) ?_
      refine mj_go_i2l (mj_dt dt_X9_which 28 rfl) ?_
      obtain ⟨c6, h⟩ := mj_ck_some h
      refine mj_go_ldiv (of_decide_eq_true c6) (mj_dt dt_X9_which 29 rfl) ?_
      obtain ⟨x7, ex7, h⟩ := mj_mw_some h
      refine ml_eql ex7 ?_
      refine mj_go_lstore (i := 5) (by decide) (mj_dt dt_X9_which 30 rfl) ?_
      refine mj_go_iload_n (k := 1) (x := s.1) rfl (mj_dt dt_X9_which 31 rfl) ?_
      refine mj_go_iconst (v := -1) rfl (mj_dt dt_X9_which 32 rfl) ?_
      refine mj_go_icmp_eq (tgt := 68) rfl (mj_dt dt_X9_which 33 rfl) (fun b8 => ?_) (fun b8 => ?_)
      · rw [if_pos b8] at h
        refine mj_go_sub (lv' := [(0, .ref 95), (4, .int s.2.2.1), (5, .long x7)]) (List.forall_mem_cons.mpr ⟨rfl, (List.forall_mem_cons.mpr ⟨rfl, (List.forall_mem_cons.mpr ⟨rfl, (fun _ h9 => absurd h9 List.not_mem_nil)⟩)⟩)⟩) ?_
        exact k_X9_which_68 q_13 hδ h
      · rw [if_neg b8] at h
        refine mj_go_lload (i := 5) (x := x7) rfl (mj_dt dt_X9_which 34 rfl) ?_
        refine mj_go_lload_n (k := 2) (x := s.2.1) rfl (mj_dt dt_X9_which 35 rfl) ?_
        refine mj_go_lcmp (mj_dt dt_X9_which 36 rfl) ?_
        refine mj_go_if_gt (tgt := 68) rfl (mj_dt dt_X9_which 37 rfl) (fun b9 => ?_) (fun b9 => ?_)
        · rw [if_pos b9] at h
          refine mj_go_sub (lv' := [(0, .ref 95), (4, .int s.2.2.1), (5, .long x7)]) (List.forall_mem_cons.mpr ⟨rfl, (List.forall_mem_cons.mpr ⟨rfl, (List.forall_mem_cons.mpr ⟨rfl, (fun _ h9 => absurd h9 List.not_mem_nil)⟩)⟩)⟩) ?_
          exact k_X9_which_68 q_13 hδ h
        · rw [if_neg b9] at h
          refine mj_go_goto (tgt := 74) rfl (mj_dt dt_X9_which 38 rfl) ?_
          refine mj_go_sub (lv' := [(0, .ref 95), (1, .int s.1), (2, .long s.2.1), (4, .int s.2.2.1)]) (List.forall_mem_cons.mpr ⟨rfl, (List.forall_mem_cons.mpr ⟨rfl, (List.forall_mem_cons.mpr ⟨rfl, (List.forall_mem_cons.mpr ⟨rfl, (fun _ h9 => absurd h9 List.not_mem_nil)⟩)⟩)⟩)⟩) ?_
          exact k_X9_which_74 q_13 hδ h
    · rw [if_pos b3] at h
      refine mj_go_goto (tgt := 74) rfl (mj_dt dt_X9_which 20 rfl) ?_
      refine mj_go_sub (lv' := [(0, .ref 95), (1, .int s.1), (2, .long s.2.1), (4, .int s.2.2.1)]) (List.forall_mem_cons.mpr ⟨rfl, (List.forall_mem_cons.mpr ⟨rfl, (List.forall_mem_cons.mpr ⟨rfl, (List.forall_mem_cons.mpr ⟨rfl, (fun _ h9 => absurd h9 List.not_mem_nil)⟩)⟩)⟩)⟩) ?_
      exact k_X9_which_74 q_13 hδ h
def f_X9_which (N : Nat) (m : mj_m) : Option (Int32 × mj_m) := (f_X9_worthsBy N 2 1 m).bind (fun r1 => mj_lp N (f_X9_which_13 N) ((-1 : Int32), 0, 0, r1))
theorem k_X9_which {L : Nat} {xs : Nat → Int32} {δ N : Nat} {m : mj_m} (hδ : 5 ≤ δ) {a : Int32 × mj_m} (h : f_X9_which N m = some a) : mj_Cl (mj_EX L xs) δ mY_X9_which [.ref 95] (mj_fin m) (some (.int a.1), (mj_fin a.2)) := by
  obtain ⟨δ, rfl⟩ : ∃ d, δ = d + 1 := ⟨δ - 1, by omega⟩
  have hδ : 4 ≤ δ := by omega
  refine mj_cl_of ok_X9_which (Nat.le_of_ble_eq_true rfl) ?_
  unfold f_X9_which at h
  refine mj_go_aload_n (k := 0) (x := 95) rfl (mj_dt dt_X9_which 0 rfl) ?_
  refine mj_go_iconst (v := 2) rfl (mj_dt dt_X9_which 1 rfl) ?_
  refine mj_go_iconst (v := 1) rfl (mj_dt dt_X9_which 2 rfl) ?_
  obtain ⟨r1, er1, h⟩ := mj_bind_some h
  refine ml_callV (Y' := mY_X9_worthsBy) (as := [.int 2, .int 1]) (rest := []) (c := 9) (v := none) (M1 := (mj_fin r1)) ho_95 rfl lm_X9_251 wc_X9_worthsBy pl_X9_worthsBy ok_X9_worthsBy rfl rfl (Nat.le_of_ble_eq_true rfl) (k_X9_worthsBy (by omega) er1) (mj_dt dt_X9_which 3 rfl) ?_
  refine mj_go_iconst (v := -1) rfl (mj_dt dt_X9_which 4 rfl) ?_
  refine mj_go_istore_n (k := 1) (by decide) (mj_dt dt_X9_which 5 rfl) ?_
  refine mj_go_lconst (v := 0) rfl (mj_dt dt_X9_which 6 rfl) ?_
  refine mj_go_lstore_n (k := 2) (by decide) (mj_dt dt_X9_which 7 rfl) ?_
  refine mj_go_iconst (v := 0) rfl (mj_dt dt_X9_which 8 rfl) ?_
  refine mj_go_istore (i := 4) (by decide) (mj_dt dt_X9_which 9 rfl) ?_
  refine mj_go_sub (lv' := [(0, .ref 95), (1, .int (-1 : Int32)), (2, .long 0), (4, .int 0)]) (List.forall_mem_cons.mpr ⟨rfl, (List.forall_mem_cons.mpr ⟨rfl, (List.forall_mem_cons.mpr ⟨rfl, (List.forall_mem_cons.mpr ⟨rfl, (fun _ h9 => absurd h9 List.not_mem_nil)⟩)⟩)⟩)⟩) ?_
  exact k_X9_which_13 hδ N _ _ h
def f_X8_lacksRule (N : Nat) (v1 : Int32) (m : mj_m) : Option (Int32) := (f_X8_isShelf N v1 m).bind (fun r1 => if r1 = 0 then (some 1) else (mj_ck (mj_b 3 35 v1) ( (f_X6_isRow N (79 + 2 * v1.toNatClampNeg) m).bind (fun r4 => if r4 = 0 then ((f_X6_isRule N (79 + 2 * v1.toNatClampNeg) m).bind (fun r6 => if r6 = 0 then ((some 3)) else ((some 0)))) else (some 2)))))
theorem k_X8_lacksRule {L : Nat} {xs : Nat → Int32} {δ N : Nat} {v1 : Int32} {m : mj_m} (hδ : 1 ≤ δ) {a : Int32} (h : f_X8_lacksRule N v1 m = some a) : mj_Cl (mj_EX L xs) δ mY_X8_lacksRule [.ref 0, .int v1] (mj_fin m) (some (.int a), (mj_fin m)) := by
  obtain ⟨δ, rfl⟩ : ∃ d, δ = d + 1 := ⟨δ - 1, by omega⟩
  have hδ : 0 ≤ δ := by omega
  refine mj_cl_of ok_X8_lacksRule (Nat.le_of_ble_eq_true rfl) ?_
  unfold f_X8_lacksRule at h
  refine mj_go_iload_n (k := 1) (x := v1) rfl (mj_dt dt_X8_lacksRule 0 rfl) ?_
  obtain ⟨r1, er1, h⟩ := mj_bind_some h
  refine ml_callS (Y' := mY_X8_isShelf) (as := [.int v1]) (rest := []) (v := (some (.int r1))) (M1 := (mj_fin m)) lm_X8_82 wc_X8_isShelf pl_X8_isShelf ok_X8_isShelf rfl rfl (Nat.le_of_ble_eq_true rfl) (k_X8_isShelf (by omega) er1) (mj_dt dt_X8_lacksRule 1 rfl) ?_
  refine mj_go_if_ne (tgt := 9) rfl (mj_dt dt_X8_lacksRule 2 rfl) (fun b2 => ?_) (fun b2 => ?_)
  · rw [if_neg b2] at h
    refine mj_go_aload_n (k := 0) (x := 0) rfl (mj_dt dt_X8_lacksRule 5 rfl) ?_
    refine ml_getR (c := 8) (k := 2) (q := 35) fd_8_2 rf_0_2 (Or.inl fl_X8_21) ho_0 (mj_dt dt_X8_lacksRule 6 rfl) ?_
    refine mj_go_iload_n (k := 1) (x := v1) rfl (mj_dt dt_X8_lacksRule 7 rfl) ?_
    obtain ⟨c3, h⟩ := mj_ck_some h
    refine ml_aald3 (q := 79 + 2 * v1.toNatClampNeg) c3 (mj_hs35 c3).1 (mj_dt dt_X8_lacksRule 8 rfl) ?_
    obtain ⟨r4, er4, h⟩ := mj_bind_some h
    refine ml_callV (Y' := mY_X6_isRow) (as := []) (rest := []) (c := 6) (v := (some (.int r4))) (M1 := (mj_fin m)) (mj_hs35 c3).2 rfl lm_X8_108 wc_X6_isRow pl_X6_isRow ok_X6_isRow rfl rfl (Nat.le_of_ble_eq_true rfl) (k_X6_isRow (by omega) er4) (mj_dt dt_X8_lacksRule 9 rfl) ?_
    refine mj_go_if_eq (tgt := 23) rfl (mj_dt dt_X8_lacksRule 10 rfl) (fun b5 => ?_) (fun b5 => ?_)
    · rw [if_pos b5] at h
      refine mj_go_aload_n (k := 0) (x := 0) rfl (mj_dt dt_X8_lacksRule 13 rfl) ?_
      refine ml_getR (c := 8) (k := 2) (q := 35) fd_8_2 rf_0_2 (Or.inl fl_X8_21) ho_0 (mj_dt dt_X8_lacksRule 14 rfl) ?_
      refine mj_go_iload_n (k := 1) (x := v1) rfl (mj_dt dt_X8_lacksRule 15 rfl) ?_
      refine ml_aald3 (q := 79 + 2 * v1.toNatClampNeg) c3 (mj_hs35 c3).1 (mj_dt dt_X8_lacksRule 16 rfl) ?_
      obtain ⟨r6, er6, h⟩ := mj_bind_some h
      refine ml_callV (Y' := mY_X6_isRule) (as := []) (rest := []) (c := 6) (v := (some (.int r6))) (M1 := (mj_fin m)) (mj_hs35 c3).2 rfl lm_X8_104 wc_X6_isRule pl_X6_isRule ok_X6_isRule rfl rfl (Nat.le_of_ble_eq_true rfl) (k_X6_isRule (by omega) er6) (mj_dt dt_X8_lacksRule 17 rfl) ?_
      refine mj_go_if_eq (tgt := 39) rfl (mj_dt dt_X8_lacksRule 18 rfl) (fun b7 => ?_) (fun b7 => ?_)
      · rw [if_pos b7] at h
        refine mj_go_iconst (v := 3) rfl (mj_dt dt_X8_lacksRule 21 rfl) ?_
        obtain rfl := Option.some.inj h
        exact mj_go_ret (v := some (.int 3)) (Nat.le_of_ble_eq_true rfl) (mj_retI (mj_dt dt_X8_lacksRule 22 rfl) rfl)
      · rw [if_neg b7] at h
        refine mj_go_iconst (v := 0) rfl (mj_dt dt_X8_lacksRule 19 rfl) ?_
        refine mj_go_goto (tgt := 40) rfl (mj_dt dt_X8_lacksRule 20 rfl) ?_
        obtain rfl := Option.some.inj h
        exact mj_go_ret (v := some (.int 0)) (Nat.le_of_ble_eq_true rfl) (mj_retI (mj_dt dt_X8_lacksRule 22 rfl) rfl)
    · rw [if_neg b5] at h
      refine mj_go_iconst (v := 2) rfl (mj_dt dt_X8_lacksRule 11 rfl) ?_
      obtain rfl := Option.some.inj h
      exact mj_go_ret (v := some (.int 2)) (Nat.le_of_ble_eq_true rfl) (mj_retI (mj_dt dt_X8_lacksRule 12 rfl) rfl)
  · rw [if_pos b2] at h
    refine mj_go_iconst (v := 1) rfl (mj_dt dt_X8_lacksRule 3 rfl) ?_
    obtain rfl := Option.some.inj h
    exact mj_go_ret (v := some (.int 1)) (Nat.le_of_ble_eq_true rfl) (mj_retI (mj_dt dt_X8_lacksRule 4 rfl) rfl)
def f_X8_order_51 (N : Nat) (m : mj_m) : Option (Int32 × mj_m) := (f_X8_refuse N 5 m).bind (fun r1 => some (r1.1, r1.2))
theorem k_X8_order_51 {L : Nat} {xs : Nat → Int32} {δ N : Nat} {m : mj_m} (hδ : 6 ≤ δ) {a : Int32 × mj_m} (h : f_X8_order_51 N m = some a) : mj_Go (mj_EX L xs) (δ + 1) mY_X8_order 51 [(0, .ref 0)] [] (mj_fin m) (some (.int a.1), (mj_fin a.2)) := by
  unfold f_X8_order_51 at h
  refine mj_go_aload_n (k := 0) (x := 0) rfl (mj_dt dt_X8_order 28 rfl) ?_
  refine mj_go_iconst (v := 5) rfl (mj_dt dt_X8_order 29 rfl) ?_
  obtain ⟨r1, er1, h⟩ := mj_bind_some h
  refine ml_callV (Y' := mY_X8_refuse) (as := [.int 5]) (rest := []) (c := 8) (v := (some (.int r1.1))) (M1 := (mj_fin r1.2)) ho_0 rfl lm_X8_86 wc_X8_refuse pl_X8_refuse ok_X8_refuse rfl rfl (Nat.le_of_ble_eq_true rfl) (k_X8_refuse (by omega) er1) (mj_dt dt_X8_order 30 rfl) ?_
  obtain rfl := Option.some.inj h
  exact mj_go_ret (v := some (.int r1.1)) (Nat.le_of_ble_eq_true rfl) (mj_retI (mj_dt dt_X8_order 31 rfl) rfl)
def f_X8_order (N : Nat) (v1 : Int32) (v2 : Int32) (m : mj_m) : Option (Int32 × mj_m) := (f_X8_lacksRule N v1 m).bind (fun r1 => if r1 = 0 then (mj_ck (mj_b 3 35 v1) ( (f_X3_arrange N (79 + 2 * v1.toNatClampNeg) 78 m).bind (fun r4 => if v2 < 0 then f_X8_order_51 N r4.2 else (if r4.1 ≤ v2 then f_X8_order_51 N r4.2 else (if v2 < 10 then (mj_ck (mj_b 0 78 v2) ( some (r4.2.1 78 v2.toNatClampNeg, r4.2))) else f_X8_order_51 N r4.2))))) else ((f_X8_refuse N r1 m).bind (fun r3 => some (r3.1, r3.2))))
theorem k_X8_order {L : Nat} {xs : Nat → Int32} {δ N : Nat} {v1 : Int32} {v2 : Int32} {m : mj_m} (hδ : 7 ≤ δ) {a : Int32 × mj_m} (h : f_X8_order N v1 v2 m = some a) : mj_Cl (mj_EX L xs) δ mY_X8_order [.ref 0, .int v1, .int v2] (mj_fin m) (some (.int a.1), (mj_fin a.2)) := by
  obtain ⟨δ, rfl⟩ : ∃ d, δ = d + 1 := ⟨δ - 1, by omega⟩
  have hδ : 6 ≤ δ := by omega
  refine mj_cl_of ok_X8_order (Nat.le_of_ble_eq_true rfl) ?_
  unfold f_X8_order at h
  refine mj_go_aload_n (k := 0) (x := 0) rfl (mj_dt dt_X8_order 0 rfl) ?_
  refine mj_go_iload_n (k := 1) (x := v1) rfl (mj_dt dt_X8_order 1 rfl) ?_
  obtain ⟨r1, er1, h⟩ := mj_bind_some h
  refine ml_callV (Y' := mY_X8_lacksRule) (as := [.int v1]) (rest := []) (c := 8) (v := (some (.int r1))) (M1 := (mj_fin m)) ho_0 rfl lm_X8_297 wc_X8_lacksRule pl_X8_lacksRule ok_X8_lacksRule rfl rfl (Nat.le_of_ble_eq_true rfl) (k_X8_lacksRule (by omega) er1) (mj_dt dt_X8_order 2 rfl) ?_
  refine mj_go_istore_n (k := 3) (by decide) (mj_dt dt_X8_order 3 rfl) ?_
  refine mj_go_iload_n (k := 3) (x := r1) rfl (mj_dt dt_X8_order 4 rfl) ?_
  refine mj_go_if_eq (tgt := 16) rfl (mj_dt dt_X8_order 5 rfl) (fun b2 => ?_) (fun b2 => ?_)
  · rw [if_pos b2] at h
    refine mj_go_aload_n (k := 0) (x := 0) rfl (mj_dt dt_X8_order 10 rfl) ?_
    refine ml_getR (c := 8) (k := 4) (q := 45) fd_8_4 rf_0_4 (Or.inl fl_X8_39) ho_0 (mj_dt dt_X8_order 11 rfl) ?_
    refine mj_go_aload_n (k := 0) (x := 0) rfl (mj_dt dt_X8_order 12 rfl) ?_
    refine ml_getR (c := 8) (k := 2) (q := 35) fd_8_2 rf_0_2 (Or.inl fl_X8_21) ho_0 (mj_dt dt_X8_order 13 rfl) ?_
    refine mj_go_iload_n (k := 1) (x := v1) rfl (mj_dt dt_X8_order 14 rfl) ?_
    obtain ⟨c3, h⟩ := mj_ck_some h
    refine ml_aald3 (q := 79 + 2 * v1.toNatClampNeg) c3 (mj_hs35 c3).1 (mj_dt dt_X8_order 15 rfl) ?_
    refine mj_go_aload_n (k := 0) (x := 0) rfl (mj_dt dt_X8_order 16 rfl) ?_
    refine ml_getR (c := 8) (k := 9) (q := 78) fd_8_9 rf_0_9 (Or.inl fl_X8_70) ho_0 (mj_dt dt_X8_order 17 rfl) ?_
    obtain ⟨r4, er4, h⟩ := mj_bind_some h
    refine ml_callV (Y' := mY_X3_arrange) (as := [.ref (79 + 2 * v1.toNatClampNeg), .ref 78]) (rest := []) (c := 3) (v := (some (.int r4.1))) (M1 := (mj_fin r4.2)) ho_45 rfl lm_X8_148 wc_X3_arrange pl_X3_arrange ok_X3_arrange rfl rfl (Nat.le_of_ble_eq_true rfl) (k_X3_arrange (by omega) er4) (mj_dt dt_X8_order 18 rfl) ?_
    refine mj_go_istore (i := 4) (by decide) (mj_dt dt_X8_order 19 rfl) ?_
    refine mj_go_iload_n (k := 2) (x := v2) rfl (mj_dt dt_X8_order 20 rfl) ?_
    refine mj_go_if_lt (tgt := 51) rfl (mj_dt dt_X8_order 21 rfl) (fun b5 => ?_) (fun b5 => ?_)
    · rw [if_pos b5] at h
      refine mj_go_sub (lv' := [(0, .ref 0)]) (List.forall_mem_cons.mpr ⟨rfl, (fun _ h9 => absurd h9 List.not_mem_nil)⟩) ?_
      exact k_X8_order_51 hδ h
    · rw [if_neg b5] at h
      refine mj_go_iload_n (k := 2) (x := v2) rfl (mj_dt dt_X8_order 22 rfl) ?_
      refine mj_go_iload (i := 4) (x := r4.1) rfl (mj_dt dt_X8_order 23 rfl) ?_
      refine mj_go_icmp_ge (tgt := 51) rfl (mj_dt dt_X8_order 24 rfl) (fun b6 => ?_) (fun b6 => ?_)
      · rw [if_pos b6] at h
        refine mj_go_sub (lv' := [(0, .ref 0)]) (List.forall_mem_cons.mpr ⟨rfl, (fun _ h9 => absurd h9 List.not_mem_nil)⟩) ?_
        exact k_X8_order_51 hδ h
      · rw [if_neg b6] at h
        refine mj_go_iload_n (k := 2) (x := v2) rfl (mj_dt dt_X8_order 25 rfl) ?_
        refine mj_go_bipush (v := 10) rfl (mj_dt dt_X8_order 26 rfl) ?_
        refine mj_go_icmp_lt (tgt := 57) rfl (mj_dt dt_X8_order 27 rfl) (fun b7 => ?_) (fun b7 => ?_)
        · rw [if_pos b7] at h
          refine mj_go_aload_n (k := 0) (x := 0) rfl (mj_dt dt_X8_order 32 rfl) ?_
          refine ml_getR (c := 8) (k := 9) (q := 78) fd_8_9 rf_0_9 (Or.inl fl_X8_70) ho_0 (mj_dt dt_X8_order 33 rfl) ?_
          refine mj_go_iload_n (k := 2) (x := v2) rfl (mj_dt dt_X8_order 34 rfl) ?_
          obtain ⟨c8, h⟩ := mj_ck_some h
          refine mk_iald c8 (mj_dt dt_X8_order 35 rfl) ?_
          obtain rfl := Option.some.inj h
          exact mj_go_ret (v := some (.int (r4.2.1 78 v2.toNatClampNeg))) (Nat.le_of_ble_eq_true rfl) (mj_retI (mj_dt dt_X8_order 36 rfl) rfl)
        · rw [if_neg b7] at h
          refine mj_go_sub (lv' := [(0, .ref 0)]) (List.forall_mem_cons.mpr ⟨rfl, (fun _ h9 => absurd h9 List.not_mem_nil)⟩) ?_
          exact k_X8_order_51 hδ h
  · rw [if_neg b2] at h
    refine mj_go_aload_n (k := 0) (x := 0) rfl (mj_dt dt_X8_order 6 rfl) ?_
    refine mj_go_iload_n (k := 3) (x := r1) rfl (mj_dt dt_X8_order 7 rfl) ?_
    obtain ⟨r3, er3, h⟩ := mj_bind_some h
    refine ml_callV (Y' := mY_X8_refuse) (as := [.int r1]) (rest := []) (c := 8) (v := (some (.int r3.1))) (M1 := (mj_fin r3.2)) ho_0 rfl lm_X8_86 wc_X8_refuse pl_X8_refuse ok_X8_refuse rfl rfl (Nat.le_of_ble_eq_true rfl) (k_X8_refuse (by omega) er3) (mj_dt dt_X8_order 8 rfl) ?_
    obtain rfl := Option.some.inj h
    exact mj_go_ret (v := some (.int r3.1)) (Nat.le_of_ble_eq_true rfl) (mj_retI (mj_dt dt_X8_order 9 rfl) rfl)
def f_X9_order_43 (N : Nat) (m : mj_m) : Option (Int32 × mj_m) := (f_X9_no N (-5 : Int32) m).bind (fun r1 => (some (r1.1, r1.2)))
theorem k_X9_order_43 {L : Nat} {xs : Nat → Int32} {δ N : Nat} {m : mj_m} (hδ : 5 ≤ δ) {a : Int32 × mj_m} (h : f_X9_order_43 N m = some a) : mj_Go (mj_EX L xs) (δ + 1) mY_X9_order 43 [(0, .ref 95)] [] (mj_fin m) (some (.int a.1), (mj_fin a.2)) := by
  unfold f_X9_order_43 at h
  refine mj_go_aload_n (k := 0) (x := 95) rfl (mj_dt dt_X9_order 25 rfl) ?_
  refine mj_go_bipush (v := -5) rfl (mj_dt dt_X9_order 26 rfl) ?_
  obtain ⟨r1, er1, h⟩ := mj_bind_some h
  refine ml_callV (Y' := mY_X9_no) (as := [.int (-5 : Int32)]) (rest := []) (c := 9) (v := (some (.int r1.1))) (M1 := (mj_fin r1.2)) ho_95 rfl lm_X9_134 wc_X9_no pl_X9_no ok_X9_no rfl rfl (Nat.le_of_ble_eq_true rfl) (k_X9_no (by omega) er1) (mj_dt dt_X9_order 27 rfl) ?_
  obtain rfl := Option.some.inj h
  exact mj_go_ret (v := some (.int r1.1)) (Nat.le_of_ble_eq_true rfl) (mj_retI (mj_dt dt_X9_order 28 rfl) rfl)
def f_X9_order (N : Nat) (v1 : Int32) (v2 : Int32) (m : mj_m) : Option (Int32 × mj_m) := (f_X9_wants N v1 2 m).bind (fun r1 => if r1 = 0 then ((f_X9_orders N v1 m).bind (fun r3 => if v2 < 0 then f_X9_order_43 N r3 else (if (r3.1 95 44) ≤ v2 then f_X9_order_43 N r3 else (mj_ck (mj_b 0 123 v2) ( (some (r3.1 123 v2.toNatClampNeg, r3))))))) else ((f_X9_no N r1 m).bind (fun r3 => some (r3.1, r3.2))))
theorem k_X9_order {L : Nat} {xs : Nat → Int32} {δ N : Nat} {v1 : Int32} {v2 : Int32} {m : mj_m} (hδ : 6 ≤ δ) {a : Int32 × mj_m} (h : f_X9_order N v1 v2 m = some a) : mj_Cl (mj_EX L xs) δ mY_X9_order [.ref 95, .int v1, .int v2] (mj_fin m) (some (.int a.1), (mj_fin a.2)) := by
  obtain ⟨δ, rfl⟩ : ∃ d, δ = d + 1 := ⟨δ - 1, by omega⟩
  have hδ : 5 ≤ δ := by omega
  refine mj_cl_of ok_X9_order (Nat.le_of_ble_eq_true rfl) ?_
  unfold f_X9_order at h
  refine mj_go_aload_n (k := 0) (x := 95) rfl (mj_dt dt_X9_order 0 rfl) ?_
  refine mj_go_iload_n (k := 1) (x := v1) rfl (mj_dt dt_X9_order 1 rfl) ?_
  refine mj_go_iconst (v := 2) rfl (mj_dt dt_X9_order 2 rfl) ?_
  obtain ⟨r1, er1, h⟩ := mj_bind_some h
  refine ml_callV (Y' := mY_X9_wants) (as := [.int v1, .int 2]) (rest := []) (c := 9) (v := (some (.int r1))) (M1 := (mj_fin m)) ho_95 rfl lm_X9_138 wc_X9_wants pl_X9_wants ok_X9_wants rfl rfl (Nat.le_of_ble_eq_true rfl) (k_X9_wants (by omega) er1) (mj_dt dt_X9_order 3 rfl) ?_
  refine mj_go_istore_n (k := 3) (by decide) (mj_dt dt_X9_order 4 rfl) ?_
  refine mj_go_iload_n (k := 3) (x := r1) rfl (mj_dt dt_X9_order 5 rfl) ?_
  refine mj_go_if_eq (tgt := 17) rfl (mj_dt dt_X9_order 6 rfl) (fun b2 => ?_) (fun b2 => ?_)
  · rw [if_pos b2] at h
    refine mj_go_aload_n (k := 0) (x := 95) rfl (mj_dt dt_X9_order 11 rfl) ?_
    refine mj_go_iload_n (k := 1) (x := v1) rfl (mj_dt dt_X9_order 12 rfl) ?_
    obtain ⟨r3, er3, h⟩ := mj_bind_some h
    refine ml_callV (Y' := mY_X9_orders) (as := [.int v1]) (rest := []) (c := 9) (v := none) (M1 := (mj_fin r3)) ho_95 rfl lm_X9_142 wc_X9_orders pl_X9_orders ok_X9_orders rfl rfl (Nat.le_of_ble_eq_true rfl) (k_X9_orders (by omega) er3) (mj_dt dt_X9_order 13 rfl) ?_
    refine mj_go_iload_n (k := 2) (x := v2) rfl (mj_dt dt_X9_order 14 rfl) ?_
    refine mj_go_if_lt (tgt := 43) rfl (mj_dt dt_X9_order 15 rfl) (fun b4 => ?_) (fun b4 => ?_)
    · rw [if_pos b4] at h
      refine mj_go_sub (lv' := [(0, .ref 95)]) (List.forall_mem_cons.mpr ⟨rfl, (fun _ h9 => absurd h9 List.not_mem_nil)⟩) ?_
      exact k_X9_order_43 hδ h
    · rw [if_neg b4] at h
      refine mj_go_iload_n (k := 2) (x := v2) rfl (mj_dt dt_X9_order 16 rfl) ?_
      refine mj_go_aload_n (k := 0) (x := 95) rfl (mj_dt dt_X9_order 17 rfl) ?_
      refine mk_getI (c := 9) (k := 44) (Or.inl fd_9_44) (Or.inl fl_X9_146) ho_95 (mj_dt dt_X9_order 18 rfl) ?_
      refine mj_go_icmp_ge (tgt := 43) rfl (mj_dt dt_X9_order 19 rfl) (fun b5 => ?_) (fun b5 => ?_)
      · rw [if_pos b5] at h
        refine mj_go_sub (lv' := [(0, .ref 95)]) (List.forall_mem_cons.mpr ⟨rfl, (fun _ h9 => absurd h9 List.not_mem_nil)⟩) ?_
        exact k_X9_order_43 hδ h
      · rw [if_neg b5] at h
        refine mj_go_aload_n (k := 0) (x := 95) rfl (mj_dt dt_X9_order 20 rfl) ?_
        refine ml_getR (c := 9) (k := 43) (q := 123) fd_9_43 rf_95_43 (Or.inl fl_X9_108) ho_95 (mj_dt dt_X9_order 21 rfl) ?_
        refine mj_go_iload_n (k := 2) (x := v2) rfl (mj_dt dt_X9_order 22 rfl) ?_
        obtain ⟨c6, h⟩ := mj_ck_some h
        refine mk_iald c6 (mj_dt dt_X9_order 23 rfl) ?_
        refine mj_go_goto (tgt := 49) rfl (mj_dt dt_X9_order 24 rfl) ?_
        obtain rfl := Option.some.inj h
        exact mj_go_ret (v := some (.int (r3.1 123 v2.toNatClampNeg))) (Nat.le_of_ble_eq_true rfl) (mj_retI (mj_dt dt_X9_order 28 rfl) rfl)
  · rw [if_neg b2] at h
    refine mj_go_aload_n (k := 0) (x := 95) rfl (mj_dt dt_X9_order 7 rfl) ?_
    refine mj_go_iload_n (k := 3) (x := r1) rfl (mj_dt dt_X9_order 8 rfl) ?_
    obtain ⟨r3, er3, h⟩ := mj_bind_some h
    refine ml_callV (Y' := mY_X9_no) (as := [.int r1]) (rest := []) (c := 9) (v := (some (.int r3.1))) (M1 := (mj_fin r3.2)) ho_95 rfl lm_X9_134 wc_X9_no pl_X9_no ok_X9_no rfl rfl (Nat.le_of_ble_eq_true rfl) (k_X9_no (by omega) er3) (mj_dt dt_X9_order 9 rfl) ?_
    obtain rfl := Option.some.inj h
    exact mj_go_ret (v := some (.int r3.1)) (Nat.le_of_ble_eq_true rfl) (mj_retI (mj_dt dt_X9_order 10 rfl) rfl)
def f_X8_areYears_15 (N : Nat) (m : mj_m) : Option (Int32) := (some 0)
theorem k_X8_areYears_15 {L : Nat} {xs : Nat → Int32} {δ N : Nat} {m : mj_m} {a : Int32} (h : f_X8_areYears_15 N m = some a) : mj_Go (mj_EX L xs) δ mY_X8_areYears 15 [] [] (mj_fin m) (some (.int a), (mj_fin m)) := by
  unfold f_X8_areYears_15 at h
  refine mj_go_iconst (v := 0) rfl (mj_dt dt_X8_areYears 8 rfl) ?_
  obtain rfl := Option.some.inj h
  exact mj_go_ret (v := some (.int 0)) (Nat.le_of_ble_eq_true rfl) (mj_retZ (mj_dt dt_X8_areYears 9 rfl) rfl rfl)
def f_X8_areYears (N : Nat) (v0 : Int32) (m : mj_m) : Option (Int32) := if v0 < 1 then f_X8_areYears_15 N m else (if 20 < v0 then f_X8_areYears_15 N m else ((some 1)))
theorem k_X8_areYears {L : Nat} {xs : Nat → Int32} {δ N : Nat} {v0 : Int32} {m : mj_m} (_ : 0 ≤ δ) {a : Int32} (h : f_X8_areYears N v0 m = some a) : mj_Cl (mj_EX L xs) δ mY_X8_areYears [.int v0] (mj_fin m) (some (.int a), (mj_fin m)) := by
  refine mj_cl_of ok_X8_areYears (Nat.le_of_ble_eq_true rfl) ?_
  unfold f_X8_areYears at h
  refine mj_go_iload_n (k := 0) (x := v0) rfl (mj_dt dt_X8_areYears 0 rfl) ?_
  refine mj_go_iconst (v := 1) rfl (mj_dt dt_X8_areYears 1 rfl) ?_
  refine mj_go_icmp_lt (tgt := 15) rfl (mj_dt dt_X8_areYears 2 rfl) (fun b1 => ?_) (fun b1 => ?_)
  · rw [if_pos b1] at h
    refine mj_go_sub (lv' := []) (fun _ h9 => absurd h9 List.not_mem_nil) ?_
    exact k_X8_areYears_15 h
  · rw [if_neg b1] at h
    refine mj_go_iload_n (k := 0) (x := v0) rfl (mj_dt dt_X8_areYears 3 rfl) ?_
    refine mj_go_bipush (v := 20) rfl (mj_dt dt_X8_areYears 4 rfl) ?_
    refine mj_go_icmp_gt (tgt := 15) rfl (mj_dt dt_X8_areYears 5 rfl) (fun b2 => ?_) (fun b2 => ?_)
    · rw [if_pos b2] at h
      refine mj_go_sub (lv' := []) (fun _ h9 => absurd h9 List.not_mem_nil) ?_
      exact k_X8_areYears_15 h
    · rw [if_neg b2] at h
      refine mj_go_iconst (v := 1) rfl (mj_dt dt_X8_areYears 6 rfl) ?_
      refine mj_go_goto (tgt := 16) rfl (mj_dt dt_X8_areYears 7 rfl) ?_
      obtain rfl := Option.some.inj h
      exact mj_go_ret (v := some (.int 1)) (Nat.le_of_ble_eq_true rfl) (mj_retZ (mj_dt dt_X8_areYears 9 rfl) rfl rfl)
def f_X8_lacksPlan (N : Nat) (v1 : Int32) (v2 : Int32) (m : mj_m) : Option (Int32) := (f_X8_lacksRule N v1 m).bind (fun r1 => if r1 = 0 then ((f_X8_areYears N v2 m).bind (fun r3 => if r3 = 0 then ((some 6)) else ((some 0)))) else (some r1))
theorem k_X8_lacksPlan {L : Nat} {xs : Nat → Int32} {δ N : Nat} {v1 : Int32} {v2 : Int32} {m : mj_m} (hδ : 2 ≤ δ) {a : Int32} (h : f_X8_lacksPlan N v1 v2 m = some a) : mj_Cl (mj_EX L xs) δ mY_X8_lacksPlan [.ref 0, .int v1, .int v2] (mj_fin m) (some (.int a), (mj_fin m)) := by
  obtain ⟨δ, rfl⟩ : ∃ d, δ = d + 1 := ⟨δ - 1, by omega⟩
  have hδ : 1 ≤ δ := by omega
  refine mj_cl_of ok_X8_lacksPlan (Nat.le_of_ble_eq_true rfl) ?_
  unfold f_X8_lacksPlan at h
  refine mj_go_aload_n (k := 0) (x := 0) rfl (mj_dt dt_X8_lacksPlan 0 rfl) ?_
  refine mj_go_iload_n (k := 1) (x := v1) rfl (mj_dt dt_X8_lacksPlan 1 rfl) ?_
  obtain ⟨r1, er1, h⟩ := mj_bind_some h
  refine ml_callV (Y' := mY_X8_lacksRule) (as := [.int v1]) (rest := []) (c := 8) (v := (some (.int r1))) (M1 := (mj_fin m)) ho_0 rfl lm_X8_297 wc_X8_lacksRule pl_X8_lacksRule ok_X8_lacksRule rfl rfl (Nat.le_of_ble_eq_true rfl) (k_X8_lacksRule (by omega) er1) (mj_dt dt_X8_lacksPlan 2 rfl) ?_
  refine mj_go_istore_n (k := 3) (by decide) (mj_dt dt_X8_lacksPlan 3 rfl) ?_
  refine mj_go_iload_n (k := 3) (x := r1) rfl (mj_dt dt_X8_lacksPlan 4 rfl) ?_
  refine mj_go_if_eq (tgt := 12) rfl (mj_dt dt_X8_lacksPlan 5 rfl) (fun b2 => ?_) (fun b2 => ?_)
  · rw [if_pos b2] at h
    refine mj_go_iload_n (k := 2) (x := v2) rfl (mj_dt dt_X8_lacksPlan 8 rfl) ?_
    obtain ⟨r3, er3, h⟩ := mj_bind_some h
    refine ml_callS (Y' := mY_X8_areYears) (as := [.int v2]) (rest := []) (v := (some (.int r3))) (M1 := (mj_fin m)) lm_X8_311 wc_X8_areYears pl_X8_areYears ok_X8_areYears rfl rfl (Nat.le_of_ble_eq_true rfl) (k_X8_areYears (by omega) er3) (mj_dt dt_X8_lacksPlan 9 rfl) ?_
    refine mj_go_if_eq (tgt := 23) rfl (mj_dt dt_X8_lacksPlan 10 rfl) (fun b4 => ?_) (fun b4 => ?_)
    · rw [if_pos b4] at h
      refine mj_go_bipush (v := 6) rfl (mj_dt dt_X8_lacksPlan 13 rfl) ?_
      obtain rfl := Option.some.inj h
      exact mj_go_ret (v := some (.int 6)) (Nat.le_of_ble_eq_true rfl) (mj_retI (mj_dt dt_X8_lacksPlan 14 rfl) rfl)
    · rw [if_neg b4] at h
      refine mj_go_iconst (v := 0) rfl (mj_dt dt_X8_lacksPlan 11 rfl) ?_
      refine mj_go_goto (tgt := 25) rfl (mj_dt dt_X8_lacksPlan 12 rfl) ?_
      obtain rfl := Option.some.inj h
      exact mj_go_ret (v := some (.int 0)) (Nat.le_of_ble_eq_true rfl) (mj_retI (mj_dt dt_X8_lacksPlan 14 rfl) rfl)
  · rw [if_neg b2] at h
    refine mj_go_iload_n (k := 3) (x := r1) rfl (mj_dt dt_X8_lacksPlan 6 rfl) ?_
    obtain rfl := Option.some.inj h
    exact mj_go_ret (v := some (.int r1)) (Nat.le_of_ble_eq_true rfl) (mj_retI (mj_dt dt_X8_lacksPlan 7 rfl) rfl)
def f_X4_begin (N : Nat) (m : mj_m) : Option (mj_m) := mj_ck (mj_p 0 5 50 0 0 10) ( mj_mw (mj_kI m 5 50 ((0 : Int32).toNatClampNeg) ((0 : Int32).toNatClampNeg) ((10 : Int32).toNatClampNeg)) (fun m2 => mj_mw (mj_wI m2 48 11 (m2.1 1 12)) (fun m3 => mj_mw (mj_wI m3 48 10 0) (fun m4 => mj_mw (mj_wI m4 48 12 0) (fun m5 => some m5)))))
theorem k_X4_begin {L : Nat} {xs : Nat → Int32} {δ N : Nat} {m : mj_m} (_ : 0 ≤ δ) {a : mj_m} (h : f_X4_begin N m = some a) : mj_Cl (mj_EX L xs) δ mY_X4_begin [.ref 48] (mj_fin m) (none, (mj_fin a)) := by
  refine mj_cl_of ok_X4_begin (Nat.le_of_ble_eq_true rfl) ?_
  unfold f_X4_begin at h
  refine mj_go_aload_n (k := 0) (x := 48) rfl (mj_dt dt_X4_begin 0 rfl) ?_
  refine ml_getR (c := 4) (k := 0) (q := 1) fd_4_0 rf_48_0 (Or.inl fl_X4_47) ho_48 (mj_dt dt_X4_begin 1 rfl) ?_
  refine ml_getR (c := 7) (k := 3) (q := 5) fd_7_3 rf_1_3 (Or.inl fl_X4_59) ho_1 (mj_dt dt_X4_begin 2 rfl) ?_
  refine mj_go_iconst (v := 0) rfl (mj_dt dt_X4_begin 3 rfl) ?_
  refine mj_go_aload_n (k := 0) (x := 48) rfl (mj_dt dt_X4_begin 4 rfl) ?_
  refine ml_getR (c := 4) (k := 4) (q := 50) fd_4_4 rf_48_4 (Or.inl fl_X4_15) ho_48 (mj_dt dt_X4_begin 5 rfl) ?_
  refine mj_go_iconst (v := 0) rfl (mj_dt dt_X4_begin 6 rfl) ?_
  refine mj_go_bipush (v := 10) rfl (mj_dt dt_X4_begin 7 rfl) ?_
  obtain ⟨c1, h⟩ := mj_ck_some h
  obtain ⟨m2, em2, h⟩ := mj_mw_some h
  refine ml_cpyI hm_X4_64 (Nat.le_of_ble_eq_true rfl) c1 (mj_dt dt_X4_begin 8 rfl) ?_
  refine ml_eqm (M1 := (mj_fin m2)) (by rw [em2] <;> rfl) ?_
  refine mj_go_aload_n (k := 0) (x := 48) rfl (mj_dt dt_X4_begin 9 rfl) ?_
  refine mj_go_aload_n (k := 0) (x := 48) rfl (mj_dt dt_X4_begin 10 rfl) ?_
  refine ml_getR (c := 4) (k := 0) (q := 1) fd_4_0 rf_48_0 (Or.inl fl_X4_47) ho_48 (mj_dt dt_X4_begin 11 rfl) ?_
  refine mk_getI (c := 7) (k := 12) (Or.inl fd_7_12) (Or.inl fl_X4_130) ho_1 (mj_dt dt_X4_begin 12 rfl) ?_
  obtain ⟨m3, em3, h⟩ := mj_mw_some h
  refine ml_putI (c := 4) (k := 11) fd_4_11 rfl fl_X4_38 ho_48 (mj_dt dt_X4_begin 13 rfl) ?_
  refine ml_eqm (M1 := (mj_fin m3)) (by rw [em3] <;> rfl) ?_
  refine mj_go_aload_n (k := 0) (x := 48) rfl (mj_dt dt_X4_begin 14 rfl) ?_
  refine mj_go_iconst (v := 0) rfl (mj_dt dt_X4_begin 15 rfl) ?_
  obtain ⟨m4, em4, h⟩ := mj_mw_some h
  refine ml_putI (c := 4) (k := 10) fd_4_10 rfl fl_X4_35 ho_48 (mj_dt dt_X4_begin 16 rfl) ?_
  refine ml_eqm (M1 := (mj_fin m4)) (by rw [em4] <;> rfl) ?_
  refine mj_go_aload_n (k := 0) (x := 48) rfl (mj_dt dt_X4_begin 17 rfl) ?_
  refine mj_go_iconst (v := 0) rfl (mj_dt dt_X4_begin 18 rfl) ?_
  obtain ⟨m5, em5, h⟩ := mj_mw_some h
  refine ml_putI (c := 4) (k := 12) fd_4_12 rfl fl_X4_41 ho_48 (mj_dt dt_X4_begin 19 rfl) ?_
  refine ml_eqm (M1 := (mj_fin m5)) (by rw [em5] <;> rfl) ?_
  obtain rfl := Option.some.inj h
  exact mj_go_ret (v := none) (Nat.le_of_ble_eq_true rfl) (mj_retV (mj_dt dt_X4_begin 20 rfl) rfl)
def f_X4_spend_107 (N : Nat) (k_21 : Int32 × mj_m → Option (mj_m)) (v1 : Int32) (m : mj_m) : Option (mj_m) := mj_mw (mj_wI m 48 10 (v1 + 1)) (fun m1 => mj_mw (v1 + 1) (fun x2 => k_21 (x2, m1)))
theorem k_X4_spend_107 {L : Nat} {xs : Nat → Int32} {δ N : Nat} {v1 : Int32} {m : mj_m} {k_21 : Int32 × mj_m → Option (mj_m)} (q_21 : ∀ (s_ : Int32 × mj_m) (a_ : mj_m), k_21 s_ = some a_ → mj_Go (mj_EX L xs) δ mY_X4_spend 21 [(0, .ref 48), (1, .int s_.1)] [] (mj_fin s_.2) (none, (mj_fin a_))) {a : mj_m} (h : f_X4_spend_107 N k_21 v1 m = some a) : mj_Go (mj_EX L xs) δ mY_X4_spend 107 [(0, .ref 48), (1, .int v1)] [] (mj_fin m) (none, (mj_fin a)) := by
  unfold f_X4_spend_107 at h
  refine mj_go_aload_n (k := 0) (x := 48) rfl (mj_dt dt_X4_spend 61 rfl) ?_
  refine mj_go_iload_n (k := 1) (x := v1) rfl (mj_dt dt_X4_spend 62 rfl) ?_
  refine mj_go_iconst (v := 1) rfl (mj_dt dt_X4_spend 63 rfl) ?_
  refine mj_go_iadd (mj_dt dt_X4_spend 64 rfl) ?_
  obtain ⟨m1, em1, h⟩ := mj_mw_some h
  refine ml_putI (c := 4) (k := 10) fd_4_10 rfl fl_X4_35 ho_48 (mj_dt dt_X4_spend 65 rfl) ?_
  refine ml_eqm (M1 := (mj_fin m1)) (by rw [em1] <;> rfl) ?_
  obtain ⟨x2, ex2, h⟩ := mj_mw_some h
  refine mj_go_iinc (i := 1) (x := v1) (v := x2) rfl (by rw [ex2] <;> rfl) (by decide) (mj_dt dt_X4_spend 66 rfl) ?_
  refine mj_go_goto (tgt := 21) rfl (mj_dt dt_X4_spend 67 rfl) ?_
  refine mj_go_sub (lv' := [(0, .ref 48), (1, .int x2)]) (List.forall_mem_cons.mpr ⟨rfl, (List.forall_mem_cons.mpr ⟨rfl, (fun _ h9 => absurd h9 List.not_mem_nil)⟩)⟩) ?_
  exact q_21 _ _ h
def f_X4_spend_21 (N : Nat) (k_21 : Int32 × mj_m → Option (mj_m)) (s : Int32 × mj_m) : Option (mj_m) := if (s.2.1 48 9) ≤ s.1 then (some s.2) else (mj_ck (mj_b 0 49 s.1) ( mj_mw (s.2.1 49 s.1.toNatClampNeg) (fun x3 => mj_ck (mj_b 0 50 x3) ( if 2 ≤ (s.2.1 50 x3.toNatClampNeg) then f_X4_spend_107 N k_21 s.1 s.2 else (mj_ck (mj_b 2 4 x3) ( if (s.2.1 (8 + x3.toNatClampNeg) 4) ≤ (s.2.1 48 11) then (mj_mw (mj_wI s.2 48 11 ((s.2.1 48 11) - (s.2.1 (8 + x3.toNatClampNeg) 4))) (fun m8 => mj_mw (mj_wI m8 50 (x3.toNatClampNeg) ((m8.1 50 x3.toNatClampNeg) + 1)) (fun m9 => mj_mw (mj_wI m9 48 12 ((m9.1 48 12) + 1)) (fun m10 => f_X4_spend_107 N k_21 s.1 m10)))) else (some s.2)))))))
theorem k_X4_spend_21 {L : Nat} {xs : Nat → Int32} {δ N : Nat} : ∀ (n : Nat) (s : Int32 × mj_m) (a : mj_m), mj_lp n (f_X4_spend_21 N) s = some a → mj_Go (mj_EX L xs) δ mY_X4_spend 21 [(0, .ref 48), (1, .int s.1)] [] (mj_fin s.2) (none, (mj_fin a)) := by
  refine mj_lp_sound (fun k_21 s a q_21 h => ?_)
  unfold f_X4_spend_21 at h
  refine mj_go_iload_n (k := 1) (x := s.1) rfl (mj_dt dt_X4_spend 11 rfl) ?_
  refine mj_go_aload_n (k := 0) (x := 48) rfl (mj_dt dt_X4_spend 12 rfl) ?_
  refine mk_getI (c := 4) (k := 9) (Or.inl fd_4_9) (Or.inl fl_X4_31) ho_48 (mj_dt dt_X4_spend 13 rfl) ?_
  refine mj_go_icmp_ge (tgt := 120) rfl (mj_dt dt_X4_spend 14 rfl) (fun b1 => ?_) (fun b1 => ?_)
  · rw [if_pos b1] at h
    obtain rfl := Option.some.inj h
    exact mj_go_ret (v := none) (Nat.le_of_ble_eq_true rfl) (mj_retV (mj_dt dt_X4_spend 68 rfl) rfl)
  · rw [if_neg b1] at h
    refine mj_go_aload_n (k := 0) (x := 48) rfl (mj_dt dt_X4_spend 15 rfl) ?_
    refine ml_getR (c := 4) (k := 3) (q := 49) fd_4_3 rf_48_3 (Or.inl fl_X4_9) ho_48 (mj_dt dt_X4_spend 16 rfl) ?_
    refine mj_go_iload_n (k := 1) (x := s.1) rfl (mj_dt dt_X4_spend 17 rfl) ?_
    obtain ⟨c2, h⟩ := mj_ck_some h
    refine mk_iald c2 (mj_dt dt_X4_spend 18 rfl) ?_
    obtain ⟨x3, ex3, h⟩ := mj_mw_some h
    refine ml_eqi ex3 ?_
    refine mj_go_istore_n (k := 2) (by decide) (mj_dt dt_X4_spend 19 rfl) ?_
    refine mj_go_aload_n (k := 0) (x := 48) rfl (mj_dt dt_X4_spend 20 rfl) ?_
    refine ml_getR (c := 4) (k := 4) (q := 50) fd_4_4 rf_48_4 (Or.inl fl_X4_15) ho_48 (mj_dt dt_X4_spend 21 rfl) ?_
    refine mj_go_iload_n (k := 2) (x := x3) rfl (mj_dt dt_X4_spend 22 rfl) ?_
    obtain ⟨c4, h⟩ := mj_ck_some h
    refine mk_iald c4 (mj_dt dt_X4_spend 23 rfl) ?_
    refine mj_go_iconst (v := 2) rfl (mj_dt dt_X4_spend 24 rfl) ?_
    refine mj_go_icmp_ge (tgt := 107) rfl (mj_dt dt_X4_spend 25 rfl) (fun b5 => ?_) (fun b5 => ?_)
    · rw [if_pos b5] at h
      refine mj_go_sub (lv' := [(0, .ref 48), (1, .int s.1)]) (List.forall_mem_cons.mpr ⟨rfl, (List.forall_mem_cons.mpr ⟨rfl, (fun _ h9 => absurd h9 List.not_mem_nil)⟩)⟩) ?_
      exact k_X4_spend_107 q_21 h
    · rw [if_neg b5] at h
      refine mj_go_aload_n (k := 0) (x := 48) rfl (mj_dt dt_X4_spend 26 rfl) ?_
      refine mk_getI (c := 4) (k := 11) (Or.inl fd_4_11) (Or.inl fl_X4_38) ho_48 (mj_dt dt_X4_spend 27 rfl) ?_
      refine mj_go_aload_n (k := 0) (x := 48) rfl (mj_dt dt_X4_spend 28 rfl) ?_
      refine ml_getR (c := 4) (k := 0) (q := 1) fd_4_0 rf_48_0 (Or.inl fl_X4_47) ho_48 (mj_dt dt_X4_spend 29 rfl) ?_
      refine ml_getR (c := 7) (k := 2) (q := 4) fd_7_2 rf_1_2 (Or.inl fl_X4_86) ho_1 (mj_dt dt_X4_spend 30 rfl) ?_
      refine mj_go_iload_n (k := 2) (x := x3) rfl (mj_dt dt_X4_spend 31 rfl) ?_
      obtain ⟨c6, h⟩ := mj_ck_some h
      refine ml_aald2 (q := 8 + x3.toNatClampNeg) c6 (mj_hs4 c6).1 (mj_dt dt_X4_spend 32 rfl) ?_
      refine mk_getI (c := 1) (k := 4) (Or.inl fd_1_4) (Or.inl fl_X4_90) (mj_hs4 c6).2 (mj_dt dt_X4_spend 33 rfl) ?_
      refine mj_go_icmp_ge (tgt := 66) rfl (mj_dt dt_X4_spend 34 rfl) (fun b7 => ?_) (fun b7 => ?_)
      · rw [if_pos b7] at h
        refine mj_go_aload_n (k := 0) (x := 48) rfl (mj_dt dt_X4_spend 36 rfl) ?_
        refine mj_go_dup rfl (mj_dt dt_X4_spend 37 rfl) ?_
        refine mk_getI (c := 4) (k := 11) (Or.inl fd_4_11) (Or.inl fl_X4_38) ho_48 (mj_dt dt_X4_spend 38 rfl) ?_
        refine mj_go_aload_n (k := 0) (x := 48) rfl (mj_dt dt_X4_spend 39 rfl) ?_
        refine ml_getR (c := 4) (k := 0) (q := 1) fd_4_0 rf_48_0 (Or.inl fl_X4_47) ho_48 (mj_dt dt_X4_spend 40 rfl) ?_
        refine ml_getR (c := 7) (k := 2) (q := 4) fd_7_2 rf_1_2 (Or.inl fl_X4_86) ho_1 (mj_dt dt_X4_spend 41 rfl) ?_
        refine mj_go_iload_n (k := 2) (x := x3) rfl (mj_dt dt_X4_spend 42 rfl) ?_
        refine ml_aald2 (q := 8 + x3.toNatClampNeg) c6 (mj_hs4 c6).1 (mj_dt dt_X4_spend 43 rfl) ?_
        refine mk_getI (c := 1) (k := 4) (Or.inl fd_1_4) (Or.inl fl_X4_90) (mj_hs4 c6).2 (mj_dt dt_X4_spend 44 rfl) ?_
        refine mj_go_isub (mj_dt dt_X4_spend 45 rfl) ?_
        obtain ⟨m8, em8, h⟩ := mj_mw_some h
        refine ml_putI (c := 4) (k := 11) fd_4_11 rfl fl_X4_38 ho_48 (mj_dt dt_X4_spend 46 rfl) ?_
        refine ml_eqm (M1 := (mj_fin m8)) (by rw [em8] <;> rfl) ?_
        refine mj_go_aload_n (k := 0) (x := 48) rfl (mj_dt dt_X4_spend 47 rfl) ?_
        refine ml_getR (c := 4) (k := 4) (q := 50) fd_4_4 rf_48_4 (Or.inl fl_X4_15) ho_48 (mj_dt dt_X4_spend 48 rfl) ?_
        refine mj_go_iload_n (k := 2) (x := x3) rfl (mj_dt dt_X4_spend 49 rfl) ?_
        refine mj_go_dup2_11 rfl rfl (mj_dt dt_X4_spend 50 rfl) ?_
        refine mk_iald c4 (mj_dt dt_X4_spend 51 rfl) ?_
        refine mj_go_iconst (v := 1) rfl (mj_dt dt_X4_spend 52 rfl) ?_
        refine mj_go_iadd (mj_dt dt_X4_spend 53 rfl) ?_
        obtain ⟨m9, em9, h⟩ := mj_mw_some h
        refine ml_iast c4 (mj_dt dt_X4_spend 54 rfl) ?_
        refine ml_eqm (M1 := (mj_fin m9)) (by rw [em9] <;> rfl) ?_
        refine mj_go_aload_n (k := 0) (x := 48) rfl (mj_dt dt_X4_spend 55 rfl) ?_
        refine mj_go_dup rfl (mj_dt dt_X4_spend 56 rfl) ?_
        refine mk_getI (c := 4) (k := 12) (Or.inl fd_4_12) (Or.inl fl_X4_41) ho_48 (mj_dt dt_X4_spend 57 rfl) ?_
        refine mj_go_iconst (v := 1) rfl (mj_dt dt_X4_spend 58 rfl) ?_
        refine mj_go_iadd (mj_dt dt_X4_spend 59 rfl) ?_
        obtain ⟨m10, em10, h⟩ := mj_mw_some h
        refine ml_putI (c := 4) (k := 12) fd_4_12 rfl fl_X4_41 ho_48 (mj_dt dt_X4_spend 60 rfl) ?_
        refine ml_eqm (M1 := (mj_fin m10)) (by rw [em10] <;> rfl) ?_
        refine mj_go_sub (lv' := [(0, .ref 48), (1, .int s.1)]) (List.forall_mem_cons.mpr ⟨rfl, (List.forall_mem_cons.mpr ⟨rfl, (fun _ h9 => absurd h9 List.not_mem_nil)⟩)⟩) ?_
        exact k_X4_spend_107 q_21 h
      · rw [if_neg b7] at h
        obtain rfl := Option.some.inj h
        exact mj_go_ret (v := none) (Nat.le_of_ble_eq_true rfl) (mj_retV (mj_dt dt_X4_spend 35 rfl) rfl)
def f_X4_spend (N : Nat) (m : mj_m) : Option (mj_m) := mj_mw (mj_wI m 48 11 ((m.1 48 11) + (m.1 1 9))) (fun m1 => mj_mw (m1.1 48 10) (fun x2 => mj_lp N (f_X4_spend_21 N) (x2, m1)))
theorem k_X4_spend {L : Nat} {xs : Nat → Int32} {δ N : Nat} {m : mj_m} (_ : 0 ≤ δ) {a : mj_m} (h : f_X4_spend N m = some a) : mj_Cl (mj_EX L xs) δ mY_X4_spend [.ref 48] (mj_fin m) (none, (mj_fin a)) := by
  refine mj_cl_of ok_X4_spend (Nat.le_of_ble_eq_true rfl) ?_
  unfold f_X4_spend at h
  refine mj_go_aload_n (k := 0) (x := 48) rfl (mj_dt dt_X4_spend 0 rfl) ?_
  refine mj_go_dup rfl (mj_dt dt_X4_spend 1 rfl) ?_
  refine mk_getI (c := 4) (k := 11) (Or.inl fd_4_11) (Or.inl fl_X4_38) ho_48 (mj_dt dt_X4_spend 2 rfl) ?_
  refine mj_go_aload_n (k := 0) (x := 48) rfl (mj_dt dt_X4_spend 3 rfl) ?_
  refine ml_getR (c := 4) (k := 0) (q := 1) fd_4_0 rf_48_0 (Or.inl fl_X4_47) ho_48 (mj_dt dt_X4_spend 4 rfl) ?_
  refine mk_getI (c := 7) (k := 9) (Or.inl fd_7_9) (Or.inl fl_X4_131) ho_1 (mj_dt dt_X4_spend 5 rfl) ?_
  refine mj_go_iadd (mj_dt dt_X4_spend 6 rfl) ?_
  obtain ⟨m1, em1, h⟩ := mj_mw_some h
  refine ml_putI (c := 4) (k := 11) fd_4_11 rfl fl_X4_38 ho_48 (mj_dt dt_X4_spend 7 rfl) ?_
  refine ml_eqm (M1 := (mj_fin m1)) (by rw [em1] <;> rfl) ?_
  refine mj_go_aload_n (k := 0) (x := 48) rfl (mj_dt dt_X4_spend 8 rfl) ?_
  refine mk_getI (c := 4) (k := 10) (Or.inl fd_4_10) (Or.inl fl_X4_35) ho_48 (mj_dt dt_X4_spend 9 rfl) ?_
  obtain ⟨x2, ex2, h⟩ := mj_mw_some h
  refine ml_eqi ex2 ?_
  refine mj_go_istore_n (k := 1) (by decide) (mj_dt dt_X4_spend 10 rfl) ?_
  refine mj_go_sub (lv' := [(0, .ref 48), (1, .int x2)]) (List.forall_mem_cons.mpr ⟨rfl, (List.forall_mem_cons.mpr ⟨rfl, (fun _ h9 => absurd h9 List.not_mem_nil)⟩)⟩) ?_
  exact k_X4_spend_21 N _ _ h
def f_X4_lossOfRow_60 (N : Nat) (k_22 : Int64 × Int64 × Int32 × Int32 × mj_m → Option (Int64 × mj_m)) (v1 : Int32) (v2 : Int64) (v4 : Int64) (v6 : Int32) (v7 : Int32) (m : mj_m) : Option (Int64 × mj_m) := mj_mw (v2 + v4) (fun x1 => mj_mw (v7 + 1) (fun x2 => k_22 (x1, v4, v6, x2, m)))
theorem k_X4_lossOfRow_60 {L : Nat} {xs : Nat → Int32} {δ N : Nat} {v1 : Int32} {v2 : Int64} {v4 : Int64} {v6 : Int32} {v7 : Int32} {m : mj_m} {k_22 : Int64 × Int64 × Int32 × Int32 × mj_m → Option (Int64 × mj_m)} (q_22 : ∀ (s_ : Int64 × Int64 × Int32 × Int32 × mj_m) (a_ : Int64 × mj_m), k_22 s_ = some a_ → mj_Go (mj_EX L xs) (δ + 1) mY_X4_lossOfRow 22 [(0, .ref 48), (1, .int v1), (2, .long s_.1), (4, .long s_.2.1), (6, .int s_.2.2.1), (7, .int s_.2.2.2.1)] [] (mj_fin s_.2.2.2.2) (some (.long a_.1), (mj_fin a_.2))) (hδ : 3 ≤ δ) {a : Int64 × mj_m} (h : f_X4_lossOfRow_60 N k_22 v1 v2 v4 v6 v7 m = some a) : mj_Go (mj_EX L xs) (δ + 1) mY_X4_lossOfRow 60 [(0, .ref 48), (1, .int v1), (2, .long v2), (4, .long v4), (6, .int v6), (7, .int v7)] [] (mj_fin m) (some (.long a.1), (mj_fin a.2)) := by
  unfold f_X4_lossOfRow_60 at h
  refine mj_go_lload_n (k := 2) (x := v2) rfl (mj_dt dt_X4_lossOfRow 31 rfl) ?_
  refine mj_go_lload (i := 4) (x := v4) rfl (mj_dt dt_X4_lossOfRow 32 rfl) ?_
  refine mj_go_ladd (mj_dt dt_X4_lossOfRow 33 rfl) ?_
  obtain ⟨x1, ex1, h⟩ := mj_mw_some h
  refine ml_eql ex1 ?_
  refine mj_go_lstore_n (k := 2) (by decide) (mj_dt dt_X4_lossOfRow 34 rfl) ?_
  obtain ⟨x2, ex2, h⟩ := mj_mw_some h
  refine mj_go_iinc (i := 7) (x := v7) (v := x2) rfl (by rw [ex2] <;> rfl) (by decide) (mj_dt dt_X4_lossOfRow 35 rfl) ?_
  refine mj_go_goto (tgt := 22) rfl (mj_dt dt_X4_lossOfRow 36 rfl) ?_
  refine mj_go_sub (lv' := [(0, .ref 48), (1, .int v1), (2, .long x1), (4, .long v4), (6, .int v6), (7, .int x2)]) (List.forall_mem_cons.mpr ⟨rfl, (List.forall_mem_cons.mpr ⟨rfl, (List.forall_mem_cons.mpr ⟨rfl, (List.forall_mem_cons.mpr ⟨rfl, (List.forall_mem_cons.mpr ⟨rfl, (List.forall_mem_cons.mpr ⟨rfl, (fun _ h9 => absurd h9 List.not_mem_nil)⟩)⟩)⟩)⟩)⟩)⟩) ?_
  exact q_22 _ _ h
def f_X4_lossOfRow_22 (N : Nat) (v1 : Int32) (k_22 : Int64 × Int64 × Int32 × Int32 × mj_m → Option (Int64 × mj_m)) (s : Int64 × Int64 × Int32 × Int32 × mj_m) : Option (Int64 × mj_m) := if v1 ≤ s.2.2.2.1 then (some (s.1, s.2.2.2.2)) else ((f_X4_spend N s.2.2.2.2).bind (fun r2 => if s.2.2.1 = (r2.1 48 12) then f_X4_lossOfRow_60 N k_22 v1 s.1 s.2.1 s.2.2.1 s.2.2.2.1 r2 else ((f_X2_meanBy N 50 r2).bind (fun r4 => mj_mw (r4.2.1 48 12) (fun x5 => f_X4_lossOfRow_60 N k_22 v1 s.1 r4.1 x5 s.2.2.2.1 r4.2)))))
theorem k_X4_lossOfRow_22 {L : Nat} {xs : Nat → Int32} {δ N : Nat} {v1 : Int32} (hδ : 3 ≤ δ) : ∀ (n : Nat) (s : Int64 × Int64 × Int32 × Int32 × mj_m) (a : Int64 × mj_m), mj_lp n (f_X4_lossOfRow_22 N v1) s = some a → mj_Go (mj_EX L xs) (δ + 1) mY_X4_lossOfRow 22 [(0, .ref 48), (1, .int v1), (2, .long s.1), (4, .long s.2.1), (6, .int s.2.2.1), (7, .int s.2.2.2.1)] [] (mj_fin s.2.2.2.2) (some (.long a.1), (mj_fin a.2)) := by
  refine mj_lp_sound (fun k_22 s a q_22 h => ?_)
  unfold f_X4_lossOfRow_22 at h
  refine mj_go_iload (i := 7) (x := s.2.2.2.1) rfl (mj_dt dt_X4_lossOfRow 13 rfl) ?_
  refine mj_go_iload_n (k := 1) (x := v1) rfl (mj_dt dt_X4_lossOfRow 14 rfl) ?_
  refine mj_go_icmp_ge (tgt := 71) rfl (mj_dt dt_X4_lossOfRow 15 rfl) (fun b1 => ?_) (fun b1 => ?_)
  · rw [if_pos b1] at h
    refine mj_go_lload_n (k := 2) (x := s.1) rfl (mj_dt dt_X4_lossOfRow 37 rfl) ?_
    obtain rfl := Option.some.inj h
    exact mj_go_ret (v := some (.long s.1)) (Nat.le_of_ble_eq_true rfl) (mj_retL (mj_dt dt_X4_lossOfRow 38 rfl) rfl)
  · rw [if_neg b1] at h
    refine mj_go_aload_n (k := 0) (x := 48) rfl (mj_dt dt_X4_lossOfRow 16 rfl) ?_
    obtain ⟨r2, er2, h⟩ := mj_bind_some h
    refine ml_callV (Y' := mY_X4_spend) (as := []) (rest := []) (c := 4) (v := none) (M1 := (mj_fin r2)) ho_48 rfl lm_X4_114 wc_X4_spend pl_X4_spend ok_X4_spend rfl rfl (Nat.le_of_ble_eq_true rfl) (k_X4_spend (by omega) er2) (mj_dt dt_X4_lossOfRow 17 rfl) ?_
    refine mj_go_iload (i := 6) (x := s.2.2.1) rfl (mj_dt dt_X4_lossOfRow 18 rfl) ?_
    refine mj_go_aload_n (k := 0) (x := 48) rfl (mj_dt dt_X4_lossOfRow 19 rfl) ?_
    refine mk_getI (c := 4) (k := 12) (Or.inl fd_4_12) (Or.inl fl_X4_41) ho_48 (mj_dt dt_X4_lossOfRow 20 rfl) ?_
    refine mj_go_icmp_eq (tgt := 60) rfl (mj_dt dt_X4_lossOfRow 21 rfl) (fun b3 => ?_) (fun b3 => ?_)
    · rw [if_pos b3] at h
      refine mj_go_sub (lv' := [(0, .ref 48), (1, .int v1), (2, .long s.1), (4, .long s.2.1), (6, .int s.2.2.1), (7, .int s.2.2.2.1)]) (List.forall_mem_cons.mpr ⟨rfl, (List.forall_mem_cons.mpr ⟨rfl, (List.forall_mem_cons.mpr ⟨rfl, (List.forall_mem_cons.mpr ⟨rfl, (List.forall_mem_cons.mpr ⟨rfl, (List.forall_mem_cons.mpr ⟨rfl, (fun _ h9 => absurd h9 List.not_mem_nil)⟩)⟩)⟩)⟩)⟩)⟩) ?_
      exact k_X4_lossOfRow_60 q_22 hδ h
    · rw [if_neg b3] at h
      refine mj_go_aload_n (k := 0) (x := 48) rfl (mj_dt dt_X4_lossOfRow 22 rfl) ?_
      refine ml_getR (c := 4) (k := 1) (q := 36) fd_4_1 rf_48_1 (Or.inl fl_X4_51) ho_48 (mj_dt dt_X4_lossOfRow 23 rfl) ?_
      refine mj_go_aload_n (k := 0) (x := 48) rfl (mj_dt dt_X4_lossOfRow 24 rfl) ?_
      refine ml_getR (c := 4) (k := 4) (q := 50) fd_4_4 rf_48_4 (Or.inl fl_X4_15) ho_48 (mj_dt dt_X4_lossOfRow 25 rfl) ?_
      obtain ⟨r4, er4, h⟩ := mj_bind_some h
      refine ml_callV (Y' := mY_X2_meanBy) (as := [.ref 50]) (rest := []) (c := 2) (v := (some (.long r4.1))) (M1 := (mj_fin r4.2)) ho_36 rfl lm_X4_70 wc_X2_meanBy pl_X2_meanBy ok_X2_meanBy rfl rfl (Nat.le_of_ble_eq_true rfl) (k_X2_meanBy (by omega) er4) (mj_dt dt_X4_lossOfRow 26 rfl) ?_
      refine mj_go_lstore (i := 4) (by decide) (mj_dt dt_X4_lossOfRow 27 rfl) ?_
      refine mj_go_aload_n (k := 0) (x := 48) rfl (mj_dt dt_X4_lossOfRow 28 rfl) ?_
      refine mk_getI (c := 4) (k := 12) (Or.inl fd_4_12) (Or.inl fl_X4_41) ho_48 (mj_dt dt_X4_lossOfRow 29 rfl) ?_
      obtain ⟨x5, ex5, h⟩ := mj_mw_some h
      refine ml_eqi ex5 ?_
      refine mj_go_istore (i := 6) (by decide) (mj_dt dt_X4_lossOfRow 30 rfl) ?_
      refine mj_go_sub (lv' := [(0, .ref 48), (1, .int v1), (2, .long s.1), (4, .long r4.1), (6, .int x5), (7, .int s.2.2.2.1)]) (List.forall_mem_cons.mpr ⟨rfl, (List.forall_mem_cons.mpr ⟨rfl, (List.forall_mem_cons.mpr ⟨rfl, (List.forall_mem_cons.mpr ⟨rfl, (List.forall_mem_cons.mpr ⟨rfl, (List.forall_mem_cons.mpr ⟨rfl, (fun _ h9 => absurd h9 List.not_mem_nil)⟩)⟩)⟩)⟩)⟩)⟩) ?_
      exact k_X4_lossOfRow_60 q_22 hδ h
def f_X4_lossOfRow (N : Nat) (v1 : Int32) (m : mj_m) : Option (Int64 × mj_m) := (f_X4_begin N m).bind (fun r1 => (f_X2_weighYear N r1).bind (fun r2 => mj_lp N (f_X4_lossOfRow_22 N v1) (0, 0, (-1 : Int32), 0, r2)))
theorem k_X4_lossOfRow {L : Nat} {xs : Nat → Int32} {δ N : Nat} {v1 : Int32} {m : mj_m} (hδ : 4 ≤ δ) {a : Int64 × mj_m} (h : f_X4_lossOfRow N v1 m = some a) : mj_Cl (mj_EX L xs) δ mY_X4_lossOfRow [.ref 48, .int v1] (mj_fin m) (some (.long a.1), (mj_fin a.2)) := by
  obtain ⟨δ, rfl⟩ : ∃ d, δ = d + 1 := ⟨δ - 1, by omega⟩
  have hδ : 3 ≤ δ := by omega
  refine mj_cl_of ok_X4_lossOfRow (Nat.le_of_ble_eq_true rfl) ?_
  unfold f_X4_lossOfRow at h
  refine mj_go_aload_n (k := 0) (x := 48) rfl (mj_dt dt_X4_lossOfRow 0 rfl) ?_
  obtain ⟨r1, er1, h⟩ := mj_bind_some h
  refine ml_callV (Y' := mY_X4_begin) (as := []) (rest := []) (c := 4) (v := none) (M1 := (mj_fin r1)) ho_48 rfl lm_X4_111 wc_X4_begin pl_X4_begin ok_X4_begin rfl rfl (Nat.le_of_ble_eq_true rfl) (k_X4_begin (by omega) er1) (mj_dt dt_X4_lossOfRow 1 rfl) ?_
  refine mj_go_aload_n (k := 0) (x := 48) rfl (mj_dt dt_X4_lossOfRow 2 rfl) ?_
  refine ml_getR (c := 4) (k := 1) (q := 36) fd_4_1 rf_48_1 (Or.inl fl_X4_51) ho_48 (mj_dt dt_X4_lossOfRow 3 rfl) ?_
  obtain ⟨r2, er2, h⟩ := mj_bind_some h
  refine ml_callV (Y' := mY_X2_weighYear) (as := []) (rest := []) (c := 2) (v := none) (M1 := (mj_fin r2)) ho_36 rfl lm_X4_76 wc_X2_weighYear pl_X2_weighYear ok_X2_weighYear rfl rfl (Nat.le_of_ble_eq_true rfl) (k_X2_weighYear (by omega) er2) (mj_dt dt_X4_lossOfRow 4 rfl) ?_
  refine mj_go_lconst (v := 0) rfl (mj_dt dt_X4_lossOfRow 5 rfl) ?_
  refine mj_go_lstore_n (k := 2) (by decide) (mj_dt dt_X4_lossOfRow 6 rfl) ?_
  refine mj_go_lconst (v := 0) rfl (mj_dt dt_X4_lossOfRow 7 rfl) ?_
  refine mj_go_lstore (i := 4) (by decide) (mj_dt dt_X4_lossOfRow 8 rfl) ?_
  refine mj_go_iconst (v := -1) rfl (mj_dt dt_X4_lossOfRow 9 rfl) ?_
  refine mj_go_istore (i := 6) (by decide) (mj_dt dt_X4_lossOfRow 10 rfl) ?_
  refine mj_go_iconst (v := 0) rfl (mj_dt dt_X4_lossOfRow 11 rfl) ?_
  refine mj_go_istore (i := 7) (by decide) (mj_dt dt_X4_lossOfRow 12 rfl) ?_
  refine mj_go_sub (lv' := [(0, .ref 48), (1, .int v1), (2, .long 0), (4, .long 0), (6, .int (-1 : Int32)), (7, .int 0)]) (List.forall_mem_cons.mpr ⟨rfl, (List.forall_mem_cons.mpr ⟨rfl, (List.forall_mem_cons.mpr ⟨rfl, (List.forall_mem_cons.mpr ⟨rfl, (List.forall_mem_cons.mpr ⟨rfl, (List.forall_mem_cons.mpr ⟨rfl, (fun _ h9 => absurd h9 List.not_mem_nil)⟩)⟩)⟩)⟩)⟩)⟩) ?_
  exact k_X4_lossOfRow_22 hδ N _ _ h
def f_X4_lossByRule (N : Nat) (v1 : Nat) (v2 : Int32) (m : mj_m) : Option (Int64 × mj_m) := (f_X3_arrange N v1 49 m).bind (fun r1 => mj_mw (mj_wI r1.2 48 9 r1.1) (fun m2 => (f_X4_lossOfRow N v2 m2).bind (fun r3 => some (r3.1, r3.2))))
theorem k_X4_lossByRule {L : Nat} {xs : Nat → Int32} {δ N : Nat} {v1 : Nat} {v2 : Int32} {m : mj_m} (hδ : 7 ≤ δ) {a : Int64 × mj_m} (h : f_X4_lossByRule N v1 v2 m = some a) : mj_Cl (mj_EX L xs) δ mY_X4_lossByRule [.ref 48, .ref v1, .int v2] (mj_fin m) (some (.long a.1), (mj_fin a.2)) := by
  obtain ⟨δ, rfl⟩ : ∃ d, δ = d + 1 := ⟨δ - 1, by omega⟩
  have hδ : 6 ≤ δ := by omega
  refine mj_cl_of ok_X4_lossByRule (Nat.le_of_ble_eq_true rfl) ?_
  unfold f_X4_lossByRule at h
  refine mj_go_aload_n (k := 0) (x := 48) rfl (mj_dt dt_X4_lossByRule 0 rfl) ?_
  refine mj_go_aload_n (k := 0) (x := 48) rfl (mj_dt dt_X4_lossByRule 1 rfl) ?_
  refine ml_getR (c := 4) (k := 2) (q := 45) fd_4_2 rf_48_2 (Or.inl fl_X4_55) ho_48 (mj_dt dt_X4_lossByRule 2 rfl) ?_
  refine mj_go_aload_n (k := 1) (x := v1) rfl (mj_dt dt_X4_lossByRule 3 rfl) ?_
  refine mj_go_aload_n (k := 0) (x := 48) rfl (mj_dt dt_X4_lossByRule 4 rfl) ?_
  refine ml_getR (c := 4) (k := 3) (q := 49) fd_4_3 rf_48_3 (Or.inl fl_X4_9) ho_48 (mj_dt dt_X4_lossByRule 5 rfl) ?_
  obtain ⟨r1, er1, h⟩ := mj_bind_some h
  refine ml_callV (Y' := mY_X3_arrange) (as := [.ref v1, .ref 49]) (rest := [.ref 48]) (c := 3) (v := (some (.int r1.1))) (M1 := (mj_fin r1.2)) ho_45 rfl lm_X4_101 wc_X3_arrange pl_X3_arrange ok_X3_arrange rfl rfl (Nat.le_of_ble_eq_true rfl) (k_X3_arrange (by omega) er1) (mj_dt dt_X4_lossByRule 6 rfl) ?_
  obtain ⟨m2, em2, h⟩ := mj_mw_some h
  refine ml_putI (c := 4) (k := 9) fd_4_9 rfl fl_X4_31 ho_48 (mj_dt dt_X4_lossByRule 7 rfl) ?_
  refine ml_eqm (M1 := (mj_fin m2)) (by rw [em2] <;> rfl) ?_
  refine mj_go_aload_n (k := 0) (x := 48) rfl (mj_dt dt_X4_lossByRule 8 rfl) ?_
  refine mj_go_iload_n (k := 2) (x := v2) rfl (mj_dt dt_X4_lossByRule 9 rfl) ?_
  obtain ⟨r3, er3, h⟩ := mj_bind_some h
  refine ml_callV (Y' := mY_X4_lossOfRow) (as := [.int v2]) (rest := []) (c := 4) (v := (some (.long r3.1))) (M1 := (mj_fin r3.2)) ho_48 rfl lm_X4_107 wc_X4_lossOfRow pl_X4_lossOfRow ok_X4_lossOfRow rfl rfl (Nat.le_of_ble_eq_true rfl) (k_X4_lossOfRow (by omega) er3) (mj_dt dt_X4_lossByRule 10 rfl) ?_
  obtain rfl := Option.some.inj h
  exact mj_go_ret (v := some (.long r3.1)) (Nat.le_of_ble_eq_true rfl) (mj_retL (mj_dt dt_X4_lossByRule 11 rfl) rfl)
def f_X8_plan (N : Nat) (v1 : Int32) (v2 : Int32) (m : mj_m) : Option (Int64 × mj_m) := (f_X8_lacksPlan N v1 v2 m).bind (fun r1 => if r1 = 0 then (mj_ck (mj_b 3 35 v1) ( (f_X4_lossByRule N (79 + 2 * v1.toNatClampNeg) v2 m).bind (fun r4 => (some (r4.1, r4.2))))) else ((f_X8_refuse N r1 m).bind (fun r3 => (some (r3.1.toInt64, r3.2)))))
theorem k_X8_plan {L : Nat} {xs : Nat → Int32} {δ N : Nat} {v1 : Int32} {v2 : Int32} {m : mj_m} (hδ : 8 ≤ δ) {a : Int64 × mj_m} (h : f_X8_plan N v1 v2 m = some a) : mj_Cl (mj_EX L xs) δ mY_X8_plan [.ref 0, .int v1, .int v2] (mj_fin m) (some (.long a.1), (mj_fin a.2)) := by
  obtain ⟨δ, rfl⟩ : ∃ d, δ = d + 1 := ⟨δ - 1, by omega⟩
  have hδ : 7 ≤ δ := by omega
  refine mj_cl_of ok_X8_plan (Nat.le_of_ble_eq_true rfl) ?_
  unfold f_X8_plan at h
  refine mj_go_aload_n (k := 0) (x := 0) rfl (mj_dt dt_X8_plan 0 rfl) ?_
  refine mj_go_iload_n (k := 1) (x := v1) rfl (mj_dt dt_X8_plan 1 rfl) ?_
  refine mj_go_iload_n (k := 2) (x := v2) rfl (mj_dt dt_X8_plan 2 rfl) ?_
  obtain ⟨r1, er1, h⟩ := mj_bind_some h
  refine ml_callV (Y' := mY_X8_lacksPlan) (as := [.int v1, .int v2]) (rest := []) (c := 8) (v := (some (.int r1))) (M1 := (mj_fin m)) ho_0 rfl lm_X8_300 wc_X8_lacksPlan pl_X8_lacksPlan ok_X8_lacksPlan rfl rfl (Nat.le_of_ble_eq_true rfl) (k_X8_lacksPlan (by omega) er1) (mj_dt dt_X8_plan 3 rfl) ?_
  refine mj_go_istore_n (k := 3) (by decide) (mj_dt dt_X8_plan 4 rfl) ?_
  refine mj_go_iload_n (k := 3) (x := r1) rfl (mj_dt dt_X8_plan 5 rfl) ?_
  refine mj_go_if_eq (tgt := 20) rfl (mj_dt dt_X8_plan 6 rfl) (fun b2 => ?_) (fun b2 => ?_)
  · rw [if_pos b2] at h
    refine mj_go_aload_n (k := 0) (x := 0) rfl (mj_dt dt_X8_plan 12 rfl) ?_
    refine ml_getR (c := 8) (k := 5) (q := 48) fd_8_5 rf_0_5 (Or.inl fl_X8_48) ho_0 (mj_dt dt_X8_plan 13 rfl) ?_
    refine mj_go_aload_n (k := 0) (x := 0) rfl (mj_dt dt_X8_plan 14 rfl) ?_
    refine ml_getR (c := 8) (k := 2) (q := 35) fd_8_2 rf_0_2 (Or.inl fl_X8_21) ho_0 (mj_dt dt_X8_plan 15 rfl) ?_
    refine mj_go_iload_n (k := 1) (x := v1) rfl (mj_dt dt_X8_plan 16 rfl) ?_
    obtain ⟨c3, h⟩ := mj_ck_some h
    refine ml_aald3 (q := 79 + 2 * v1.toNatClampNeg) c3 (mj_hs35 c3).1 (mj_dt dt_X8_plan 17 rfl) ?_
    refine mj_go_iload_n (k := 2) (x := v2) rfl (mj_dt dt_X8_plan 18 rfl) ?_
    obtain ⟨r4, er4, h⟩ := mj_bind_some h
    refine ml_callV (Y' := mY_X4_lossByRule) (as := [.ref (79 + 2 * v1.toNatClampNeg), .int v2]) (rest := []) (c := 4) (v := (some (.long r4.1))) (M1 := (mj_fin r4.2)) ho_48 rfl lm_X8_303 wc_X4_lossByRule pl_X4_lossByRule ok_X4_lossByRule rfl rfl (Nat.le_of_ble_eq_true rfl) (k_X4_lossByRule (by omega) er4) (mj_dt dt_X8_plan 19 rfl) ?_
    obtain rfl := Option.some.inj h
    exact mj_go_ret (v := some (.long r4.1)) (Nat.le_of_ble_eq_true rfl) (mj_retL (mj_dt dt_X8_plan 20 rfl) rfl)
  · rw [if_neg b2] at h
    refine mj_go_aload_n (k := 0) (x := 0) rfl (mj_dt dt_X8_plan 7 rfl) ?_
    refine mj_go_iload_n (k := 3) (x := r1) rfl (mj_dt dt_X8_plan 8 rfl) ?_
    obtain ⟨r3, er3, h⟩ := mj_bind_some h
    refine ml_callV (Y' := mY_X8_refuse) (as := [.int r1]) (rest := []) (c := 8) (v := (some (.int r3.1))) (M1 := (mj_fin r3.2)) ho_0 rfl lm_X8_86 wc_X8_refuse pl_X8_refuse ok_X8_refuse rfl rfl (Nat.le_of_ble_eq_true rfl) (k_X8_refuse (by omega) er3) (mj_dt dt_X8_plan 9 rfl) ?_
    refine mj_go_i2l (mj_dt dt_X8_plan 10 rfl) ?_
    refine mj_go_goto (tgt := 34) rfl (mj_dt dt_X8_plan 11 rfl) ?_
    obtain rfl := Option.some.inj h
    exact mj_go_ret (v := some (.long (r3.1.toInt64))) (Nat.le_of_ble_eq_true rfl) (mj_retL (mj_dt dt_X8_plan 20 rfl) rfl)
def f_X9_isYears_15 (N : Nat) (m : mj_m) : Option (Int32) := (some 0)
theorem k_X9_isYears_15 {L : Nat} {xs : Nat → Int32} {δ N : Nat} {m : mj_m} {a : Int32} (h : f_X9_isYears_15 N m = some a) : mj_Go (mj_EX L xs) δ mY_X9_isYears 15 [] [] (mj_fin m) (some (.int a), (mj_fin m)) := by
  unfold f_X9_isYears_15 at h
  refine mj_go_iconst (v := 0) rfl (mj_dt dt_X9_isYears 8 rfl) ?_
  obtain rfl := Option.some.inj h
  exact mj_go_ret (v := some (.int 0)) (Nat.le_of_ble_eq_true rfl) (mj_retZ (mj_dt dt_X9_isYears 9 rfl) rfl rfl)
def f_X9_isYears (N : Nat) (v1 : Int32) (m : mj_m) : Option (Int32) := if v1 < 1 then f_X9_isYears_15 N m else (if 20 < v1 then f_X9_isYears_15 N m else ((some 1)))
theorem k_X9_isYears {L : Nat} {xs : Nat → Int32} {δ N : Nat} {v1 : Int32} {m : mj_m} (_ : 0 ≤ δ) {a : Int32} (h : f_X9_isYears N v1 m = some a) : mj_Cl (mj_EX L xs) δ mY_X9_isYears [.ref 95, .int v1] (mj_fin m) (some (.int a), (mj_fin m)) := by
  refine mj_cl_of ok_X9_isYears (Nat.le_of_ble_eq_true rfl) ?_
  unfold f_X9_isYears at h
  refine mj_go_iload_n (k := 1) (x := v1) rfl (mj_dt dt_X9_isYears 0 rfl) ?_
  refine mj_go_iconst (v := 1) rfl (mj_dt dt_X9_isYears 1 rfl) ?_
  refine mj_go_icmp_lt (tgt := 15) rfl (mj_dt dt_X9_isYears 2 rfl) (fun b1 => ?_) (fun b1 => ?_)
  · rw [if_pos b1] at h
    refine mj_go_sub (lv' := []) (fun _ h9 => absurd h9 List.not_mem_nil) ?_
    exact k_X9_isYears_15 h
  · rw [if_neg b1] at h
    refine mj_go_iload_n (k := 1) (x := v1) rfl (mj_dt dt_X9_isYears 3 rfl) ?_
    refine mj_go_bipush (v := 20) rfl (mj_dt dt_X9_isYears 4 rfl) ?_
    refine mj_go_icmp_gt (tgt := 15) rfl (mj_dt dt_X9_isYears 5 rfl) (fun b2 => ?_) (fun b2 => ?_)
    · rw [if_pos b2] at h
      refine mj_go_sub (lv' := []) (fun _ h9 => absurd h9 List.not_mem_nil) ?_
      exact k_X9_isYears_15 h
    · rw [if_neg b2] at h
      refine mj_go_iconst (v := 1) rfl (mj_dt dt_X9_isYears 6 rfl) ?_
      refine mj_go_goto (tgt := 16) rfl (mj_dt dt_X9_isYears 7 rfl) ?_
      obtain rfl := Option.some.inj h
      exact mj_go_ret (v := some (.int 1)) (Nat.le_of_ble_eq_true rfl) (mj_retZ (mj_dt dt_X9_isYears 9 rfl) rfl rfl)
def f_X9_rowBy_15 (N : Nat) (k_15 : Int32 × mj_m → Option (mj_m)) (s : Int32 × mj_m) : Option (mj_m) := if (s.2.1 95 44) ≤ s.1 then (some s.2) else (mj_ck (mj_b 0 123 s.1) ( mj_ck (mj_b 0 124 s.1) ( mj_mw (mj_wI s.2 124 (s.1.toNatClampNeg) (s.2.1 123 s.1.toNatClampNeg)) (fun m4 => mj_mw (s.1 + 1) (fun x5 => k_15 (x5, m4))))))
theorem k_X9_rowBy_15 {L : Nat} {xs : Nat → Int32} {δ N : Nat} (hδ : 5 ≤ δ) : ∀ (n : Nat) (s : Int32 × mj_m) (a : mj_m), mj_lp n (f_X9_rowBy_15 N) s = some a → mj_Go (mj_EX L xs) (δ + 1) mY_X9_rowBy 15 [(0, .ref 95), (2, .int s.1)] [] (mj_fin s.2) (none, (mj_fin a)) := by
  refine mj_lp_sound (fun k_15 s a q_15 h => ?_)
  unfold f_X9_rowBy_15 at h
  refine mj_go_iload_n (k := 2) (x := s.1) rfl (mj_dt dt_X9_rowBy 9 rfl) ?_
  refine mj_go_aload_n (k := 0) (x := 95) rfl (mj_dt dt_X9_rowBy 10 rfl) ?_
  refine mk_getI (c := 9) (k := 44) (Or.inl fd_9_44) (Or.inl fl_X9_146) ho_95 (mj_dt dt_X9_rowBy 11 rfl) ?_
  refine mj_go_icmp_ge (tgt := 41) rfl (mj_dt dt_X9_rowBy 12 rfl) (fun b1 => ?_) (fun b1 => ?_)
  · rw [if_pos b1] at h
    obtain rfl := Option.some.inj h
    exact mj_go_ret (v := none) (Nat.le_of_ble_eq_true rfl) (mj_retV (mj_dt dt_X9_rowBy 23 rfl) rfl)
  · rw [if_neg b1] at h
    refine mj_go_aload_n (k := 0) (x := 95) rfl (mj_dt dt_X9_rowBy 13 rfl) ?_
    refine ml_getR (c := 9) (k := 45) (q := 124) fd_9_45 rf_95_45 (Or.inl fl_X9_111) ho_95 (mj_dt dt_X9_rowBy 14 rfl) ?_
    refine mj_go_iload_n (k := 2) (x := s.1) rfl (mj_dt dt_X9_rowBy 15 rfl) ?_
    refine mj_go_aload_n (k := 0) (x := 95) rfl (mj_dt dt_X9_rowBy 16 rfl) ?_
    refine ml_getR (c := 9) (k := 43) (q := 123) fd_9_43 rf_95_43 (Or.inl fl_X9_108) ho_95 (mj_dt dt_X9_rowBy 17 rfl) ?_
    refine mj_go_iload_n (k := 2) (x := s.1) rfl (mj_dt dt_X9_rowBy 18 rfl) ?_
    obtain ⟨c2, h⟩ := mj_ck_some h
    refine mk_iald c2 (mj_dt dt_X9_rowBy 19 rfl) ?_
    obtain ⟨c3, h⟩ := mj_ck_some h
    obtain ⟨m4, em4, h⟩ := mj_mw_some h
    refine ml_iast c3 (mj_dt dt_X9_rowBy 20 rfl) ?_
    refine ml_eqm (M1 := (mj_fin m4)) (by rw [em4] <;> rfl) ?_
    obtain ⟨x5, ex5, h⟩ := mj_mw_some h
    refine mj_go_iinc (i := 2) (x := s.1) (v := x5) rfl (by rw [ex5] <;> rfl) (by decide) (mj_dt dt_X9_rowBy 21 rfl) ?_
    refine mj_go_goto (tgt := 15) rfl (mj_dt dt_X9_rowBy 22 rfl) ?_
    refine mj_go_sub (lv' := [(0, .ref 95), (2, .int x5)]) (List.forall_mem_cons.mpr ⟨rfl, (List.forall_mem_cons.mpr ⟨rfl, (fun _ h9 => absurd h9 List.not_mem_nil)⟩)⟩) ?_
    exact q_15 _ _ h
def f_X9_rowBy (N : Nat) (v1 : Int32) (m : mj_m) : Option (mj_m) := (f_X9_orders N v1 m).bind (fun r1 => mj_mw (mj_wI r1 95 46 (r1.1 95 44)) (fun m2 => mj_lp N (f_X9_rowBy_15 N) (0, m2)))
theorem k_X9_rowBy {L : Nat} {xs : Nat → Int32} {δ N : Nat} {v1 : Int32} {m : mj_m} (hδ : 6 ≤ δ) {a : mj_m} (h : f_X9_rowBy N v1 m = some a) : mj_Cl (mj_EX L xs) δ mY_X9_rowBy [.ref 95, .int v1] (mj_fin m) (none, (mj_fin a)) := by
  obtain ⟨δ, rfl⟩ : ∃ d, δ = d + 1 := ⟨δ - 1, by omega⟩
  have hδ : 5 ≤ δ := by omega
  refine mj_cl_of ok_X9_rowBy (Nat.le_of_ble_eq_true rfl) ?_
  unfold f_X9_rowBy at h
  refine mj_go_aload_n (k := 0) (x := 95) rfl (mj_dt dt_X9_rowBy 0 rfl) ?_
  refine mj_go_iload_n (k := 1) (x := v1) rfl (mj_dt dt_X9_rowBy 1 rfl) ?_
  obtain ⟨r1, er1, h⟩ := mj_bind_some h
  refine ml_callV (Y' := mY_X9_orders) (as := [.int v1]) (rest := []) (c := 9) (v := none) (M1 := (mj_fin r1)) ho_95 rfl lm_X9_142 wc_X9_orders pl_X9_orders ok_X9_orders rfl rfl (Nat.le_of_ble_eq_true rfl) (k_X9_orders (by omega) er1) (mj_dt dt_X9_rowBy 2 rfl) ?_
  refine mj_go_aload_n (k := 0) (x := 95) rfl (mj_dt dt_X9_rowBy 3 rfl) ?_
  refine mj_go_aload_n (k := 0) (x := 95) rfl (mj_dt dt_X9_rowBy 4 rfl) ?_
  refine mk_getI (c := 9) (k := 44) (Or.inl fd_9_44) (Or.inl fl_X9_146) ho_95 (mj_dt dt_X9_rowBy 5 rfl) ?_
  obtain ⟨m2, em2, h⟩ := mj_mw_some h
  refine ml_putI (c := 9) (k := 46) fd_9_46 rfl fl_X9_287 ho_95 (mj_dt dt_X9_rowBy 6 rfl) ?_
  refine ml_eqm (M1 := (mj_fin m2)) (by rw [em2] <;> rfl) ?_
  refine mj_go_iconst (v := 0) rfl (mj_dt dt_X9_rowBy 7 rfl) ?_
  refine mj_go_istore_n (k := 2) (by decide) (mj_dt dt_X9_rowBy 8 rfl) ?_
  refine mj_go_sub (lv' := [(0, .ref 95), (2, .int 0)]) (List.forall_mem_cons.mpr ⟨rfl, (List.forall_mem_cons.mpr ⟨rfl, (fun _ h9 => absurd h9 List.not_mem_nil)⟩)⟩) ?_
  exact k_X9_rowBy_15 hδ N _ _ h
def f_X9_builds_93 (N : Nat) (k_13 : mj_m → Option (mj_m)) (m : mj_m) : Option (mj_m) := mj_mw (mj_wI m 95 47 ((m.1 95 47) + 1)) (fun m1 => k_13 (m1))
theorem k_X9_builds_93 {L : Nat} {xs : Nat → Int32} {δ N : Nat} {m : mj_m} {k_13 : mj_m → Option (mj_m)} (q_13 : ∀ (s_ : mj_m) (a_ : mj_m), k_13 s_ = some a_ → mj_Go (mj_EX L xs) δ mY_X9_builds 13 [(0, .ref 95)] [] (mj_fin s_) (none, (mj_fin a_))) {a : mj_m} (h : f_X9_builds_93 N k_13 m = some a) : mj_Go (mj_EX L xs) δ mY_X9_builds 93 [(0, .ref 95)] [] (mj_fin m) (none, (mj_fin a)) := by
  unfold f_X9_builds_93 at h
  refine mj_go_aload_n (k := 0) (x := 95) rfl (mj_dt dt_X9_builds 55 rfl) ?_
  refine mj_go_dup rfl (mj_dt dt_X9_builds 56 rfl) ?_
  refine mk_getI (c := 9) (k := 47) (Or.inl fd_9_47) (Or.inl fl_X9_284) ho_95 (mj_dt dt_X9_builds 57 rfl) ?_
  refine mj_go_iconst (v := 1) rfl (mj_dt dt_X9_builds 58 rfl) ?_
  refine mj_go_iadd (mj_dt dt_X9_builds 59 rfl) ?_
  obtain ⟨m1, em1, h⟩ := mj_mw_some h
  refine ml_putI (c := 9) (k := 47) fd_9_47 rfl fl_X9_284 ho_95 (mj_dt dt_X9_builds 60 rfl) ?_
  refine ml_eqm (M1 := (mj_fin m1)) (by rw [em1] <;> rfl) ?_
  refine mj_go_goto (tgt := 13) rfl (mj_dt dt_X9_builds 61 rfl) ?_
  refine mj_go_sub (lv' := [(0, .ref 95)]) (List.forall_mem_cons.mpr ⟨rfl, (fun _ h9 => absurd h9 List.not_mem_nil)⟩) ?_
  exact q_13 _ _ h
def f_X9_builds_13 (N : Nat) (k_13 : mj_m → Option (mj_m)) (s : mj_m) : Option (mj_m) := if (s.1 95 46) ≤ (s.1 95 47) then (some s) else (mj_ck (mj_b 0 124 (s.1 95 47)) ( mj_mw (s.1 124 (s.1 95 47).toNatClampNeg) (fun x3 => mj_ck (mj_b 0 108 x3) ( if 2 ≤ (s.1 108 x3.toNatClampNeg) then f_X9_builds_93 N k_13 s else (mj_ck (mj_b 0 105 x3) ( if (s.1 105 x3.toNatClampNeg) ≤ (s.1 95 6) then (mj_mw (mj_wI s 95 6 ((s.1 95 6) - (s.1 105 x3.toNatClampNeg))) (fun m8 => mj_mw (mj_wI m8 108 (x3.toNatClampNeg) ((m8.1 108 x3.toNatClampNeg) + 1)) (fun m9 => mj_mw (mj_wI m9 95 48 ((m9.1 95 48) + 1)) (fun m10 => f_X9_builds_93 N k_13 m10)))) else (some s)))))))
theorem k_X9_builds_13 {L : Nat} {xs : Nat → Int32} {δ N : Nat} : ∀ (n : Nat) (s : mj_m) (a : mj_m), mj_lp n (f_X9_builds_13 N) s = some a → mj_Go (mj_EX L xs) δ mY_X9_builds 13 [(0, .ref 95)] [] (mj_fin s) (none, (mj_fin a)) := by
  refine mj_lp_sound (fun k_13 s a q_13 h => ?_)
  unfold f_X9_builds_13 at h
  refine mj_go_aload_n (k := 0) (x := 95) rfl (mj_dt dt_X9_builds 7 rfl) ?_
  refine mk_getI (c := 9) (k := 47) (Or.inl fd_9_47) (Or.inl fl_X9_284) ho_95 (mj_dt dt_X9_builds 8 rfl) ?_
  refine mj_go_aload_n (k := 0) (x := 95) rfl (mj_dt dt_X9_builds 9 rfl) ?_
  refine mk_getI (c := 9) (k := 46) (Or.inl fd_9_46) (Or.inl fl_X9_287) ho_95 (mj_dt dt_X9_builds 10 rfl) ?_
  refine mj_go_icmp_ge (tgt := 106) rfl (mj_dt dt_X9_builds 11 rfl) (fun b1 => ?_) (fun b1 => ?_)
  · rw [if_pos b1] at h
    obtain rfl := Option.some.inj h
    exact mj_go_ret (v := none) (Nat.le_of_ble_eq_true rfl) (mj_retV (mj_dt dt_X9_builds 62 rfl) rfl)
  · rw [if_neg b1] at h
    refine mj_go_aload_n (k := 0) (x := 95) rfl (mj_dt dt_X9_builds 12 rfl) ?_
    refine ml_getR (c := 9) (k := 45) (q := 124) fd_9_45 rf_95_45 (Or.inl fl_X9_111) ho_95 (mj_dt dt_X9_builds 13 rfl) ?_
    refine mj_go_aload_n (k := 0) (x := 95) rfl (mj_dt dt_X9_builds 14 rfl) ?_
    refine mk_getI (c := 9) (k := 47) (Or.inl fd_9_47) (Or.inl fl_X9_284) ho_95 (mj_dt dt_X9_builds 15 rfl) ?_
    obtain ⟨c2, h⟩ := mj_ck_some h
    refine mk_iald c2 (mj_dt dt_X9_builds 16 rfl) ?_
    obtain ⟨x3, ex3, h⟩ := mj_mw_some h
    refine ml_eqi ex3 ?_
    refine mj_go_istore_n (k := 1) (by decide) (mj_dt dt_X9_builds 17 rfl) ?_
    refine mj_go_aload_n (k := 0) (x := 95) rfl (mj_dt dt_X9_builds 18 rfl) ?_
    refine ml_getR (c := 9) (k := 23) (q := 108) fd_9_23 rf_95_23 (Or.inl fl_X9_62) ho_95 (mj_dt dt_X9_builds 19 rfl) ?_
    refine mj_go_iload_n (k := 1) (x := x3) rfl (mj_dt dt_X9_builds 20 rfl) ?_
    obtain ⟨c4, h⟩ := mj_ck_some h
    refine mk_iald c4 (mj_dt dt_X9_builds 21 rfl) ?_
    refine mj_go_iconst (v := 2) rfl (mj_dt dt_X9_builds 22 rfl) ?_
    refine mj_go_icmp_ge (tgt := 93) rfl (mj_dt dt_X9_builds 23 rfl) (fun b5 => ?_) (fun b5 => ?_)
    · rw [if_pos b5] at h
      refine mj_go_sub (lv' := [(0, .ref 95)]) (List.forall_mem_cons.mpr ⟨rfl, (fun _ h9 => absurd h9 List.not_mem_nil)⟩) ?_
      exact k_X9_builds_93 q_13 h
    · rw [if_neg b5] at h
      refine mj_go_aload_n (k := 0) (x := 95) rfl (mj_dt dt_X9_builds 24 rfl) ?_
      refine mk_getI (c := 9) (k := 6) (Or.inl fd_9_6) (Or.inl fl_X9_218) ho_95 (mj_dt dt_X9_builds 25 rfl) ?_
      refine mj_go_aload_n (k := 0) (x := 95) rfl (mj_dt dt_X9_builds 26 rfl) ?_
      refine ml_getR (c := 9) (k := 20) (q := 105) fd_9_20 rf_95_20 (Or.inl fl_X9_53) ho_95 (mj_dt dt_X9_builds 27 rfl) ?_
      refine mj_go_iload_n (k := 1) (x := x3) rfl (mj_dt dt_X9_builds 28 rfl) ?_
      obtain ⟨c6, h⟩ := mj_ck_some h
      refine mk_iald c6 (mj_dt dt_X9_builds 29 rfl) ?_
      refine mj_go_icmp_ge (tgt := 58) rfl (mj_dt dt_X9_builds 30 rfl) (fun b7 => ?_) (fun b7 => ?_)
      · rw [if_pos b7] at h
        refine mj_go_aload_n (k := 0) (x := 95) rfl (mj_dt dt_X9_builds 32 rfl) ?_
        refine mj_go_dup rfl (mj_dt dt_X9_builds 33 rfl) ?_
        refine mk_getI (c := 9) (k := 6) (Or.inl fd_9_6) (Or.inl fl_X9_218) ho_95 (mj_dt dt_X9_builds 34 rfl) ?_
        refine mj_go_aload_n (k := 0) (x := 95) rfl (mj_dt dt_X9_builds 35 rfl) ?_
        refine ml_getR (c := 9) (k := 20) (q := 105) fd_9_20 rf_95_20 (Or.inl fl_X9_53) ho_95 (mj_dt dt_X9_builds 36 rfl) ?_
        refine mj_go_iload_n (k := 1) (x := x3) rfl (mj_dt dt_X9_builds 37 rfl) ?_
        refine mk_iald c6 (mj_dt dt_X9_builds 38 rfl) ?_
        refine mj_go_isub (mj_dt dt_X9_builds 39 rfl) ?_
        obtain ⟨m8, em8, h⟩ := mj_mw_some h
        refine ml_putI (c := 9) (k := 6) fd_9_6 rfl fl_X9_218 ho_95 (mj_dt dt_X9_builds 40 rfl) ?_
        refine ml_eqm (M1 := (mj_fin m8)) (by rw [em8] <;> rfl) ?_
        refine mj_go_aload_n (k := 0) (x := 95) rfl (mj_dt dt_X9_builds 41 rfl) ?_
        refine ml_getR (c := 9) (k := 23) (q := 108) fd_9_23 rf_95_23 (Or.inl fl_X9_62) ho_95 (mj_dt dt_X9_builds 42 rfl) ?_
        refine mj_go_iload_n (k := 1) (x := x3) rfl (mj_dt dt_X9_builds 43 rfl) ?_
        refine mj_go_dup2_11 rfl rfl (mj_dt dt_X9_builds 44 rfl) ?_
        refine mk_iald c4 (mj_dt dt_X9_builds 45 rfl) ?_
        refine mj_go_iconst (v := 1) rfl (mj_dt dt_X9_builds 46 rfl) ?_
        refine mj_go_iadd (mj_dt dt_X9_builds 47 rfl) ?_
        obtain ⟨m9, em9, h⟩ := mj_mw_some h
        refine ml_iast c4 (mj_dt dt_X9_builds 48 rfl) ?_
        refine ml_eqm (M1 := (mj_fin m9)) (by rw [em9] <;> rfl) ?_
        refine mj_go_aload_n (k := 0) (x := 95) rfl (mj_dt dt_X9_builds 49 rfl) ?_
        refine mj_go_dup rfl (mj_dt dt_X9_builds 50 rfl) ?_
        refine mk_getI (c := 9) (k := 48) (Or.inl fd_9_48) (Or.inl fl_X9_290) ho_95 (mj_dt dt_X9_builds 51 rfl) ?_
        refine mj_go_iconst (v := 1) rfl (mj_dt dt_X9_builds 52 rfl) ?_
        refine mj_go_iadd (mj_dt dt_X9_builds 53 rfl) ?_
        obtain ⟨m10, em10, h⟩ := mj_mw_some h
        refine ml_putI (c := 9) (k := 48) fd_9_48 rfl fl_X9_290 ho_95 (mj_dt dt_X9_builds 54 rfl) ?_
        refine ml_eqm (M1 := (mj_fin m10)) (by rw [em10] <;> rfl) ?_
        refine mj_go_sub (lv' := [(0, .ref 95)]) (List.forall_mem_cons.mpr ⟨rfl, (fun _ h9 => absurd h9 List.not_mem_nil)⟩) ?_
        exact k_X9_builds_93 q_13 h
      · rw [if_neg b7] at h
        obtain rfl := Option.some.inj h
        exact mj_go_ret (v := none) (Nat.le_of_ble_eq_true rfl) (mj_retV (mj_dt dt_X9_builds 31 rfl) rfl)
def f_X9_builds (N : Nat) (m : mj_m) : Option (mj_m) := mj_mw (mj_wI m 95 6 ((m.1 95 6) + (m.1 95 3))) (fun m1 => mj_lp N (f_X9_builds_13 N) (m1))
theorem k_X9_builds {L : Nat} {xs : Nat → Int32} {δ N : Nat} {m : mj_m} (_ : 0 ≤ δ) {a : mj_m} (h : f_X9_builds N m = some a) : mj_Cl (mj_EX L xs) δ mY_X9_builds [.ref 95] (mj_fin m) (none, (mj_fin a)) := by
  refine mj_cl_of ok_X9_builds (Nat.le_of_ble_eq_true rfl) ?_
  unfold f_X9_builds at h
  refine mj_go_aload_n (k := 0) (x := 95) rfl (mj_dt dt_X9_builds 0 rfl) ?_
  refine mj_go_dup rfl (mj_dt dt_X9_builds 1 rfl) ?_
  refine mk_getI (c := 9) (k := 6) (Or.inl fd_9_6) (Or.inl fl_X9_218) ho_95 (mj_dt dt_X9_builds 2 rfl) ?_
  refine mj_go_aload_n (k := 0) (x := 95) rfl (mj_dt dt_X9_builds 3 rfl) ?_
  refine mk_getI (c := 9) (k := 3) (Or.inl fd_9_3) (Or.inl fl_X9_7) ho_95 (mj_dt dt_X9_builds 4 rfl) ?_
  refine mj_go_iadd (mj_dt dt_X9_builds 5 rfl) ?_
  obtain ⟨m1, em1, h⟩ := mj_mw_some h
  refine ml_putI (c := 9) (k := 6) fd_9_6 rfl fl_X9_218 ho_95 (mj_dt dt_X9_builds 6 rfl) ?_
  refine ml_eqm (M1 := (mj_fin m1)) (by rw [em1] <;> rfl) ?_
  refine mj_go_sub (lv' := [(0, .ref 95)]) (List.forall_mem_cons.mpr ⟨rfl, (fun _ h9 => absurd h9 List.not_mem_nil)⟩) ?_
  exact k_X9_builds_13 N _ _ h
