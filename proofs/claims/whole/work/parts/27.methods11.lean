/-! METHODS as functions, and their rows over the small machine (printed by program from the printed instructions) -/
def f_X9_bests (N : Nat) (v1 : Int32) (m : mj_m) : Option (mj_m) := mj_mw (mj_wI m 95 52 0) (fun m1 => (f_X9_fresh N m1).bind (fun r2 => (f_X9_tries N 8 v1 r2 0 0 m1).bind (fun r3 => some r3)))
theorem k_X9_bests {L : Nat} {xs : Nat → Int32} {δ N : Nat} {v1 : Int32} {m : mj_m} (hδ : 13 ≤ δ) {a : mj_m} (h : f_X9_bests N v1 m = some a) : mj_Cl (mj_EX L xs) δ mY_X9_bests [.ref 95, .int v1] (mj_fin m) (none, (mj_fin a)) := by
  obtain ⟨δ, rfl⟩ : ∃ d, δ = d + 1 := ⟨δ - 1, by omega⟩
  have hδ : 12 ≤ δ := by omega
  refine mj_cl_of ok_X9_bests (Nat.le_of_ble_eq_true rfl) ?_
  unfold f_X9_bests at h
  refine mj_go_aload_n (k := 0) (x := 95) rfl (mj_dt dt_X9_bests 0 rfl) ?_
  refine mj_go_iconst (v := 0) rfl (mj_dt dt_X9_bests 1 rfl) ?_
  obtain ⟨m1, em1, h⟩ := mj_mw_some h
  refine ml_putZ (c := 9) (k := 52) rfl fd_9_52 rfl fl_X9_305 ho_95 (mj_dt dt_X9_bests 2 rfl) ?_
  refine ml_eqm (M1 := (mj_fin m1)) (by rw [em1] <;> rfl) ?_
  refine mj_go_aload_n (k := 0) (x := 95) rfl (mj_dt dt_X9_bests 3 rfl) ?_
  refine mj_go_iload_n (k := 1) (x := v1) rfl (mj_dt dt_X9_bests 4 rfl) ?_
  refine mj_go_aload_n (k := 0) (x := 95) rfl (mj_dt dt_X9_bests 5 rfl) ?_
  obtain ⟨r2, er2, h⟩ := mj_bind_some h
  refine ml_callV (Y' := mY_X9_fresh) (as := []) (rest := [.int v1, .ref 95]) (c := 9) (v := (some (.int r2))) (M1 := (mj_fin m1)) ho_95 rfl lm_X9_317 wc_X9_fresh pl_X9_fresh ok_X9_fresh rfl rfl (Nat.le_of_ble_eq_true rfl) (k_X9_fresh (by omega) er2) (mj_dt dt_X9_bests 6 rfl) ?_
  refine mj_go_iconst (v := 0) rfl (mj_dt dt_X9_bests 7 rfl) ?_
  refine mj_go_iconst (v := 0) rfl (mj_dt dt_X9_bests 8 rfl) ?_
  obtain ⟨r3, er3, h⟩ := mj_bind_some h
  refine ml_callV (Y' := mY_X9_tries) (as := [.int v1, .int r2, .int 0, .int 0]) (rest := []) (c := 9) (v := none) (M1 := (mj_fin r3)) ho_95 rfl lm_X9_313 wc_X9_tries pl_X9_tries ok_X9_tries rfl rfl (Nat.le_of_ble_eq_true rfl) (k_X9_tries 8 _ (by omega) er3) (mj_dt dt_X9_bests 9 rfl) ?_
  obtain rfl := Option.some.inj h
  exact mj_go_ret (v := none) (Nat.le_of_ble_eq_true rfl) (mj_retV (mj_dt dt_X9_bests 10 rfl) rfl)
def f_X9_best_16 (N : Nat) (m : mj_m) : Option (Int64 × mj_m) := (f_X9_no N (-6 : Int32) m).bind (fun r1 => some (r1.1.toInt64, r1.2))
theorem k_X9_best_16 {L : Nat} {xs : Nat → Int32} {δ N : Nat} {m : mj_m} (hδ : 13 ≤ δ) {a : Int64 × mj_m} (h : f_X9_best_16 N m = some a) : mj_Go (mj_EX L xs) (δ + 1) mY_X9_best 16 [(0, .ref 95)] [] (mj_fin m) (some (.long a.1), (mj_fin a.2)) := by
  unfold f_X9_best_16 at h
  refine mj_go_aload_n (k := 0) (x := 95) rfl (mj_dt dt_X9_best 8 rfl) ?_
  refine mj_go_bipush (v := -6) rfl (mj_dt dt_X9_best 9 rfl) ?_
  obtain ⟨r1, er1, h⟩ := mj_bind_some h
  refine ml_callV (Y' := mY_X9_no) (as := [.int (-6 : Int32)]) (rest := []) (c := 9) (v := (some (.int r1.1))) (M1 := (mj_fin r1.2)) ho_95 rfl lm_X9_134 wc_X9_no pl_X9_no ok_X9_no rfl rfl (Nat.le_of_ble_eq_true rfl) (k_X9_no (by omega) er1) (mj_dt dt_X9_best 10 rfl) ?_
  refine mj_go_i2l (mj_dt dt_X9_best 11 rfl) ?_
  obtain rfl := Option.some.inj h
  exact mj_go_ret (v := some (.long (r1.1.toInt64))) (Nat.le_of_ble_eq_true rfl) (mj_retL (mj_dt dt_X9_best 12 rfl) rfl)
def f_X9_best (N : Nat) (v1 : Int32) (m : mj_m) : Option (Int64 × mj_m) := (f_X9_isYears N v1 m).bind (fun r1 => if r1 = 0 then f_X9_best_16 N m else ((f_X9_fresh N m).bind (fun r3 => if r3 ≤ 5 then ((f_X9_bests N v1 m).bind (fun r5 => some (r5.2 95 51, r5))) else f_X9_best_16 N m)))
theorem k_X9_best {L : Nat} {xs : Nat → Int32} {δ N : Nat} {v1 : Int32} {m : mj_m} (hδ : 14 ≤ δ) {a : Int64 × mj_m} (h : f_X9_best N v1 m = some a) : mj_Cl (mj_EX L xs) δ mY_X9_best [.ref 95, .int v1] (mj_fin m) (some (.long a.1), (mj_fin a.2)) := by
  obtain ⟨δ, rfl⟩ : ∃ d, δ = d + 1 := ⟨δ - 1, by omega⟩
  have hδ : 13 ≤ δ := by omega
  refine mj_cl_of ok_X9_best (Nat.le_of_ble_eq_true rfl) ?_
  unfold f_X9_best at h
  refine mj_go_aload_n (k := 0) (x := 95) rfl (mj_dt dt_X9_best 0 rfl) ?_
  refine mj_go_iload_n (k := 1) (x := v1) rfl (mj_dt dt_X9_best 1 rfl) ?_
  obtain ⟨r1, er1, h⟩ := mj_bind_some h
  refine ml_callV (Y' := mY_X9_isYears) (as := [.int v1]) (rest := []) (c := 9) (v := (some (.int r1))) (M1 := (mj_fin m)) ho_95 rfl lm_X9_296 wc_X9_isYears pl_X9_isYears ok_X9_isYears rfl rfl (Nat.le_of_ble_eq_true rfl) (k_X9_isYears (by omega) er1) (mj_dt dt_X9_best 2 rfl) ?_
  refine mj_go_if_eq (tgt := 16) rfl (mj_dt dt_X9_best 3 rfl) (fun b2 => ?_) (fun b2 => ?_)
  · rw [if_pos b2] at h
    refine mj_go_sub (lv' := [(0, .ref 95)]) (List.forall_mem_cons.mpr ⟨rfl, (fun _ h9 => absurd h9 List.not_mem_nil)⟩) ?_
    exact k_X9_best_16 hδ h
  · rw [if_neg b2] at h
    refine mj_go_aload_n (k := 0) (x := 95) rfl (mj_dt dt_X9_best 4 rfl) ?_
    obtain ⟨r3, er3, h⟩ := mj_bind_some h
    refine ml_callV (Y' := mY_X9_fresh) (as := []) (rest := []) (c := 9) (v := (some (.int r3))) (M1 := (mj_fin m)) ho_95 rfl lm_X9_317 wc_X9_fresh pl_X9_fresh ok_X9_fresh rfl rfl (Nat.le_of_ble_eq_true rfl) (k_X9_fresh (by omega) er3) (mj_dt dt_X9_best 5 rfl) ?_
    refine mj_go_iconst (v := 5) rfl (mj_dt dt_X9_best 6 rfl) ?_
    refine mj_go_icmp_le (tgt := 24) rfl (mj_dt dt_X9_best 7 rfl) (fun b4 => ?_) (fun b4 => ?_)
    · rw [if_pos b4] at h
      refine mj_go_aload_n (k := 0) (x := 95) rfl (mj_dt dt_X9_best 13 rfl) ?_
      refine mj_go_iload_n (k := 1) (x := v1) rfl (mj_dt dt_X9_best 14 rfl) ?_
      obtain ⟨r5, er5, h⟩ := mj_bind_some h
      refine ml_callV (Y' := mY_X9_bests) (as := [.int v1]) (rest := []) (c := 9) (v := none) (M1 := (mj_fin r5)) ho_95 rfl lm_X9_321 wc_X9_bests pl_X9_bests ok_X9_bests rfl rfl (Nat.le_of_ble_eq_true rfl) (k_X9_bests (by omega) er5) (mj_dt dt_X9_best 15 rfl) ?_
      refine mj_go_aload_n (k := 0) (x := 95) rfl (mj_dt dt_X9_best 16 rfl) ?_
      refine mk_getL (c := 9) (k := 51) fd_9_51 (Or.inl fl_X9_309) ho_95 (mj_dt dt_X9_best 17 rfl) ?_
      obtain rfl := Option.some.inj h
      exact mj_go_ret (v := some (.long (r5.2 95 51))) (Nat.le_of_ble_eq_true rfl) (mj_retL (mj_dt dt_X9_best 18 rfl) rfl)
    · rw [if_neg b4] at h
      refine mj_go_sub (lv' := [(0, .ref 95)]) (List.forall_mem_cons.mpr ⟨rfl, (fun _ h9 => absurd h9 List.not_mem_nil)⟩) ?_
      exact k_X9_best_16 hδ h
def f_X4_placeOfBest_26 (N : Nat) (m : mj_m) : Option (Int32) := (some (-1 : Int32))
theorem k_X4_placeOfBest_26 {L : Nat} {xs : Nat → Int32} {δ N : Nat} {m : mj_m} {a : Int32} (h : f_X4_placeOfBest_26 N m = some a) : mj_Go (mj_EX L xs) δ mY_X4_placeOfBest 26 [] [] (mj_fin m) (some (.int a), (mj_fin m)) := by
  unfold f_X4_placeOfBest_26 at h
  refine mj_go_iconst (v := -1) rfl (mj_dt dt_X4_placeOfBest 14 rfl) ?_
  obtain rfl := Option.some.inj h
  exact mj_go_ret (v := some (.int (-1 : Int32))) (Nat.le_of_ble_eq_true rfl) (mj_retI (mj_dt dt_X4_placeOfBest 15 rfl) rfl)
def f_X4_placeOfBest (N : Nat) (v1 : Int32) (m : mj_m) : Option (Int32) := if v1 < 0 then f_X4_placeOfBest_26 N m else (if (m.1 48 13) ≤ v1 then f_X4_placeOfBest_26 N m else (mj_ck (mj_b 0 53 v1) ( mj_ck (mj_b 0 51 (m.1 53 v1.toNatClampNeg)) ( (some (m.1 51 (m.1 53 v1.toNatClampNeg).toNatClampNeg))))))
theorem k_X4_placeOfBest {L : Nat} {xs : Nat → Int32} {δ N : Nat} {v1 : Int32} {m : mj_m} (_ : 0 ≤ δ) {a : Int32} (h : f_X4_placeOfBest N v1 m = some a) : mj_Cl (mj_EX L xs) δ mY_X4_placeOfBest [.ref 48, .int v1] (mj_fin m) (some (.int a), (mj_fin m)) := by
  refine mj_cl_of ok_X4_placeOfBest (Nat.le_of_ble_eq_true rfl) ?_
  unfold f_X4_placeOfBest at h
  refine mj_go_iload_n (k := 1) (x := v1) rfl (mj_dt dt_X4_placeOfBest 0 rfl) ?_
  refine mj_go_if_lt (tgt := 26) rfl (mj_dt dt_X4_placeOfBest 1 rfl) (fun b1 => ?_) (fun b1 => ?_)
  · rw [if_pos b1] at h
    refine mj_go_sub (lv' := []) (fun _ h9 => absurd h9 List.not_mem_nil) ?_
    exact k_X4_placeOfBest_26 h
  · rw [if_neg b1] at h
    refine mj_go_iload_n (k := 1) (x := v1) rfl (mj_dt dt_X4_placeOfBest 2 rfl) ?_
    refine mj_go_aload_n (k := 0) (x := 48) rfl (mj_dt dt_X4_placeOfBest 3 rfl) ?_
    refine mk_getI (c := 4) (k := 13) (Or.inl fd_4_13) (Or.inl fl_X4_44) ho_48 (mj_dt dt_X4_placeOfBest 4 rfl) ?_
    refine mj_go_icmp_ge (tgt := 26) rfl (mj_dt dt_X4_placeOfBest 5 rfl) (fun b2 => ?_) (fun b2 => ?_)
    · rw [if_pos b2] at h
      refine mj_go_sub (lv' := []) (fun _ h9 => absurd h9 List.not_mem_nil) ?_
      exact k_X4_placeOfBest_26 h
    · rw [if_neg b2] at h
      refine mj_go_aload_n (k := 0) (x := 48) rfl (mj_dt dt_X4_placeOfBest 6 rfl) ?_
      refine ml_getR (c := 4) (k := 5) (q := 51) fd_4_5 rf_48_5 (Or.inl fl_X4_18) ho_48 (mj_dt dt_X4_placeOfBest 7 rfl) ?_
      refine mj_go_aload_n (k := 0) (x := 48) rfl (mj_dt dt_X4_placeOfBest 8 rfl) ?_
      refine ml_getR (c := 4) (k := 7) (q := 53) fd_4_7 rf_48_7 (Or.inl fl_X4_24) ho_48 (mj_dt dt_X4_placeOfBest 9 rfl) ?_
      refine mj_go_iload_n (k := 1) (x := v1) rfl (mj_dt dt_X4_placeOfBest 10 rfl) ?_
      obtain ⟨c3, h⟩ := mj_ck_some h
      refine mk_iald c3 (mj_dt dt_X4_placeOfBest 11 rfl) ?_
      obtain ⟨c4, h⟩ := mj_ck_some h
      refine mk_iald c4 (mj_dt dt_X4_placeOfBest 12 rfl) ?_
      refine mj_go_goto (tgt := 27) rfl (mj_dt dt_X4_placeOfBest 13 rfl) ?_
      obtain rfl := Option.some.inj h
      exact mj_go_ret (v := some (.int (m.1 51 (m.1 53 v1.toNatClampNeg).toNatClampNeg))) (Nat.le_of_ble_eq_true rfl) (mj_retI (mj_dt dt_X4_placeOfBest 15 rfl) rfl)
def f_X8_first_17 (N : Nat) (m : mj_m) : Option (Int32 × mj_m) := (f_X8_refuse N 5 m).bind (fun r1 => some (r1.1, r1.2))
theorem k_X8_first_17 {L : Nat} {xs : Nat → Int32} {δ N : Nat} {m : mj_m} (hδ : 5 ≤ δ) {a : Int32 × mj_m} (h : f_X8_first_17 N m = some a) : mj_Go (mj_EX L xs) (δ + 1) mY_X8_first 17 [(0, .ref 0)] [] (mj_fin m) (some (.int a.1), (mj_fin a.2)) := by
  unfold f_X8_first_17 at h
  refine mj_go_aload_n (k := 0) (x := 0) rfl (mj_dt dt_X8_first 9 rfl) ?_
  refine mj_go_iconst (v := 5) rfl (mj_dt dt_X8_first 10 rfl) ?_
  obtain ⟨r1, er1, h⟩ := mj_bind_some h
  refine ml_callV (Y' := mY_X8_refuse) (as := [.int 5]) (rest := []) (c := 8) (v := (some (.int r1.1))) (M1 := (mj_fin r1.2)) ho_0 rfl lm_X8_86 wc_X8_refuse pl_X8_refuse ok_X8_refuse rfl rfl (Nat.le_of_ble_eq_true rfl) (k_X8_refuse (by omega) er1) (mj_dt dt_X8_first 11 rfl) ?_
  obtain rfl := Option.some.inj h
  exact mj_go_ret (v := some (.int r1.1)) (Nat.le_of_ble_eq_true rfl) (mj_retI (mj_dt dt_X8_first 12 rfl) rfl)
def f_X8_first_35 (N : Nat) (m : mj_m) : Option (Int32 × mj_m) := (f_X8_refuse N 6 m).bind (fun r1 => some (r1.1, r1.2))
theorem k_X8_first_35 {L : Nat} {xs : Nat → Int32} {δ N : Nat} {m : mj_m} (hδ : 5 ≤ δ) {a : Int32 × mj_m} (h : f_X8_first_35 N m = some a) : mj_Go (mj_EX L xs) (δ + 1) mY_X8_first 35 [(0, .ref 0)] [] (mj_fin m) (some (.int a.1), (mj_fin a.2)) := by
  unfold f_X8_first_35 at h
  refine mj_go_aload_n (k := 0) (x := 0) rfl (mj_dt dt_X8_first 19 rfl) ?_
  refine mj_go_bipush (v := 6) rfl (mj_dt dt_X8_first 20 rfl) ?_
  obtain ⟨r1, er1, h⟩ := mj_bind_some h
  refine ml_callV (Y' := mY_X8_refuse) (as := [.int 6]) (rest := []) (c := 8) (v := (some (.int r1.1))) (M1 := (mj_fin r1.2)) ho_0 rfl lm_X8_86 wc_X8_refuse pl_X8_refuse ok_X8_refuse rfl rfl (Nat.le_of_ble_eq_true rfl) (k_X8_refuse (by omega) er1) (mj_dt dt_X8_first 21 rfl) ?_
  obtain rfl := Option.some.inj h
  exact mj_go_ret (v := some (.int r1.1)) (Nat.le_of_ble_eq_true rfl) (mj_retI (mj_dt dt_X8_first 22 rfl) rfl)
def f_X8_first (N : Nat) (v1 : Int32) (v2 : Int32) (m : mj_m) : Option (Int32 × mj_m) := (f_X4_countUnstrengthened N m).bind (fun r1 => if v2 < 0 then f_X8_first_17 N m else (if v2 < r1 then ((f_X8_areYears N v1 m).bind (fun r4 => if r4 = 0 then f_X8_first_35 N m else (if r1 ≤ 5 then ((f_X4_leastLoss N v1 m).bind (fun r7 => (f_X4_placeOfBest N v2 r7.2).bind (fun r8 => some (r8, r7.2)))) else f_X8_first_35 N m))) else f_X8_first_17 N m))
theorem k_X8_first {L : Nat} {xs : Nat → Int32} {δ N : Nat} {v1 : Int32} {v2 : Int32} {m : mj_m} (hδ : 6 ≤ δ) {a : Int32 × mj_m} (h : f_X8_first N v1 v2 m = some a) : mj_Cl (mj_EX L xs) δ mY_X8_first [.ref 0, .int v1, .int v2] (mj_fin m) (some (.int a.1), (mj_fin a.2)) := by
  obtain ⟨δ, rfl⟩ : ∃ d, δ = d + 1 := ⟨δ - 1, by omega⟩
  have hδ : 5 ≤ δ := by omega
  refine mj_cl_of ok_X8_first (Nat.le_of_ble_eq_true rfl) ?_
  unfold f_X8_first at h
  refine mj_go_aload_n (k := 0) (x := 0) rfl (mj_dt dt_X8_first 0 rfl) ?_
  refine ml_getR (c := 8) (k := 5) (q := 48) fd_8_5 rf_0_5 (Or.inl fl_X8_48) ho_0 (mj_dt dt_X8_first 1 rfl) ?_
  obtain ⟨r1, er1, h⟩ := mj_bind_some h
  refine ml_callV (Y' := mY_X4_countUnstrengthened) (as := []) (rest := []) (c := 4) (v := (some (.int r1))) (M1 := (mj_fin m)) ho_48 rfl lm_X8_321 wc_X4_countUnstrengthened pl_X4_countUnstrengthened ok_X4_countUnstrengthened rfl rfl (Nat.le_of_ble_eq_true rfl) (k_X4_countUnstrengthened (by omega) er1) (mj_dt dt_X8_first 2 rfl) ?_
  refine mj_go_istore_n (k := 3) (by decide) (mj_dt dt_X8_first 3 rfl) ?_
  refine mj_go_iload_n (k := 2) (x := v2) rfl (mj_dt dt_X8_first 4 rfl) ?_
  refine mj_go_if_lt (tgt := 17) rfl (mj_dt dt_X8_first 5 rfl) (fun b2 => ?_) (fun b2 => ?_)
  · rw [if_pos b2] at h
    refine mj_go_sub (lv' := [(0, .ref 0)]) (List.forall_mem_cons.mpr ⟨rfl, (fun _ h9 => absurd h9 List.not_mem_nil)⟩) ?_
    exact k_X8_first_17 hδ h
  · rw [if_neg b2] at h
    refine mj_go_iload_n (k := 2) (x := v2) rfl (mj_dt dt_X8_first 6 rfl) ?_
    refine mj_go_iload_n (k := 3) (x := r1) rfl (mj_dt dt_X8_first 7 rfl) ?_
    refine mj_go_icmp_lt (tgt := 23) rfl (mj_dt dt_X8_first 8 rfl) (fun b3 => ?_) (fun b3 => ?_)
    · rw [if_pos b3] at h
      refine mj_go_iload_n (k := 1) (x := v1) rfl (mj_dt dt_X8_first 13 rfl) ?_
      obtain ⟨r4, er4, h⟩ := mj_bind_some h
      refine ml_callS (Y' := mY_X8_areYears) (as := [.int v1]) (rest := []) (v := (some (.int r4))) (M1 := (mj_fin m)) lm_X8_311 wc_X8_areYears pl_X8_areYears ok_X8_areYears rfl rfl (Nat.le_of_ble_eq_true rfl) (k_X8_areYears (by omega) er4) (mj_dt dt_X8_first 14 rfl) ?_
      refine mj_go_if_eq (tgt := 35) rfl (mj_dt dt_X8_first 15 rfl) (fun b5 => ?_) (fun b5 => ?_)
      · rw [if_pos b5] at h
        refine mj_go_sub (lv' := [(0, .ref 0)]) (List.forall_mem_cons.mpr ⟨rfl, (fun _ h9 => absurd h9 List.not_mem_nil)⟩) ?_
        exact k_X8_first_35 hδ h
      · rw [if_neg b5] at h
        refine mj_go_iload_n (k := 3) (x := r1) rfl (mj_dt dt_X8_first 16 rfl) ?_
        refine mj_go_iconst (v := 5) rfl (mj_dt dt_X8_first 17 rfl) ?_
        refine mj_go_icmp_le (tgt := 42) rfl (mj_dt dt_X8_first 18 rfl) (fun b6 => ?_) (fun b6 => ?_)
        · rw [if_pos b6] at h
          refine mj_go_aload_n (k := 0) (x := 0) rfl (mj_dt dt_X8_first 23 rfl) ?_
          refine ml_getR (c := 8) (k := 5) (q := 48) fd_8_5 rf_0_5 (Or.inl fl_X8_48) ho_0 (mj_dt dt_X8_first 24 rfl) ?_
          refine mj_go_iload_n (k := 1) (x := v1) rfl (mj_dt dt_X8_first 25 rfl) ?_
          obtain ⟨r7, er7, h⟩ := mj_bind_some h
          refine ml_callV (Y' := mY_X4_leastLoss) (as := [.int v1]) (rest := []) (c := 4) (v := (some (.long r7.1))) (M1 := (mj_fin r7.2)) ho_48 rfl lm_X8_324 wc_X4_leastLoss pl_X4_leastLoss ok_X4_leastLoss rfl rfl (Nat.le_of_ble_eq_true rfl) (k_X4_leastLoss (by omega) er7) (mj_dt dt_X8_first 26 rfl) ?_
          refine mj_go_pop2_2 rfl (mj_dt dt_X8_first 27 rfl) ?_
          refine mj_go_aload_n (k := 0) (x := 0) rfl (mj_dt dt_X8_first 28 rfl) ?_
          refine ml_getR (c := 8) (k := 5) (q := 48) fd_8_5 rf_0_5 (Or.inl fl_X8_48) ho_0 (mj_dt dt_X8_first 29 rfl) ?_
          refine mj_go_iload_n (k := 2) (x := v2) rfl (mj_dt dt_X8_first 30 rfl) ?_
          obtain ⟨r8, er8, h⟩ := mj_bind_some h
          refine ml_callV (Y' := mY_X4_placeOfBest) (as := [.int v2]) (rest := []) (c := 4) (v := (some (.int r8))) (M1 := (mj_fin r7.2)) ho_48 rfl lm_X8_327 wc_X4_placeOfBest pl_X4_placeOfBest ok_X4_placeOfBest rfl rfl (Nat.le_of_ble_eq_true rfl) (k_X4_placeOfBest (by omega) er8) (mj_dt dt_X8_first 31 rfl) ?_
          obtain rfl := Option.some.inj h
          exact mj_go_ret (v := some (.int r8)) (Nat.le_of_ble_eq_true rfl) (mj_retI (mj_dt dt_X8_first 32 rfl) rfl)
        · rw [if_neg b6] at h
          refine mj_go_sub (lv' := [(0, .ref 0)]) (List.forall_mem_cons.mpr ⟨rfl, (fun _ h9 => absurd h9 List.not_mem_nil)⟩) ?_
          exact k_X8_first_35 hδ h
    · rw [if_neg b3] at h
      refine mj_go_sub (lv' := [(0, .ref 0)]) (List.forall_mem_cons.mpr ⟨rfl, (fun _ h9 => absurd h9 List.not_mem_nil)⟩) ?_
      exact k_X8_first_17 hδ h
def f_X9_first_12 (N : Nat) (m : mj_m) : Option (Int32 × mj_m) := (f_X9_no N (-5 : Int32) m).bind (fun r1 => some (r1.1, r1.2))
theorem k_X9_first_12 {L : Nat} {xs : Nat → Int32} {δ N : Nat} {m : mj_m} (hδ : 13 ≤ δ) {a : Int32 × mj_m} (h : f_X9_first_12 N m = some a) : mj_Go (mj_EX L xs) (δ + 1) mY_X9_first 12 [(0, .ref 95)] [] (mj_fin m) (some (.int a.1), (mj_fin a.2)) := by
  unfold f_X9_first_12 at h
  refine mj_go_aload_n (k := 0) (x := 95) rfl (mj_dt dt_X9_first 6 rfl) ?_
  refine mj_go_bipush (v := -5) rfl (mj_dt dt_X9_first 7 rfl) ?_
  obtain ⟨r1, er1, h⟩ := mj_bind_some h
  refine ml_callV (Y' := mY_X9_no) (as := [.int (-5 : Int32)]) (rest := []) (c := 9) (v := (some (.int r1.1))) (M1 := (mj_fin r1.2)) ho_95 rfl lm_X9_134 wc_X9_no pl_X9_no ok_X9_no rfl rfl (Nat.le_of_ble_eq_true rfl) (k_X9_no (by omega) er1) (mj_dt dt_X9_first 8 rfl) ?_
  obtain rfl := Option.some.inj h
  exact mj_go_ret (v := some (.int r1.1)) (Nat.le_of_ble_eq_true rfl) (mj_retI (mj_dt dt_X9_first 9 rfl) rfl)
def f_X9_first_35 (N : Nat) (m : mj_m) : Option (Int32 × mj_m) := (f_X9_no N (-6 : Int32) m).bind (fun r1 => some (r1.1, r1.2))
theorem k_X9_first_35 {L : Nat} {xs : Nat → Int32} {δ N : Nat} {m : mj_m} (hδ : 13 ≤ δ) {a : Int32 × mj_m} (h : f_X9_first_35 N m = some a) : mj_Go (mj_EX L xs) (δ + 1) mY_X9_first 35 [(0, .ref 95)] [] (mj_fin m) (some (.int a.1), (mj_fin a.2)) := by
  unfold f_X9_first_35 at h
  refine mj_go_aload_n (k := 0) (x := 95) rfl (mj_dt dt_X9_first 18 rfl) ?_
  refine mj_go_bipush (v := -6) rfl (mj_dt dt_X9_first 19 rfl) ?_
  obtain ⟨r1, er1, h⟩ := mj_bind_some h
  refine ml_callV (Y' := mY_X9_no) (as := [.int (-6 : Int32)]) (rest := []) (c := 9) (v := (some (.int r1.1))) (M1 := (mj_fin r1.2)) ho_95 rfl lm_X9_134 wc_X9_no pl_X9_no ok_X9_no rfl rfl (Nat.le_of_ble_eq_true rfl) (k_X9_no (by omega) er1) (mj_dt dt_X9_first 20 rfl) ?_
  obtain rfl := Option.some.inj h
  exact mj_go_ret (v := some (.int r1.1)) (Nat.le_of_ble_eq_true rfl) (mj_retI (mj_dt dt_X9_first 21 rfl) rfl)
def f_X9_first (N : Nat) (v1 : Int32) (v2 : Int32) (m : mj_m) : Option (Int32 × mj_m) := if v2 < 0 then f_X9_first_12 N m else ((f_X9_fresh N m).bind (fun r2 => if v2 < r2 then ((f_X9_isYears N v1 m).bind (fun r4 => if r4 = 0 then f_X9_first_35 N m else ((f_X9_fresh N m).bind (fun r6 => if r6 ≤ 5 then ((f_X9_bests N v1 m).bind (fun r8 => mj_ck (mj_b 0 125 v2) ( some (r8.1 125 v2.toNatClampNeg, r8)))) else f_X9_first_35 N m)))) else f_X9_first_12 N m))
theorem k_X9_first {L : Nat} {xs : Nat → Int32} {δ N : Nat} {v1 : Int32} {v2 : Int32} {m : mj_m} (hδ : 14 ≤ δ) {a : Int32 × mj_m} (h : f_X9_first N v1 v2 m = some a) : mj_Cl (mj_EX L xs) δ mY_X9_first [.ref 95, .int v1, .int v2] (mj_fin m) (some (.int a.1), (mj_fin a.2)) := by
  obtain ⟨δ, rfl⟩ : ∃ d, δ = d + 1 := ⟨δ - 1, by omega⟩
  have hδ : 13 ≤ δ := by omega
  refine mj_cl_of ok_X9_first (Nat.le_of_ble_eq_true rfl) ?_
  unfold f_X9_first at h
  refine mj_go_iload_n (k := 2) (x := v2) rfl (mj_dt dt_X9_first 0 rfl) ?_
  refine mj_go_if_lt (tgt := 12) rfl (mj_dt dt_X9_first 1 rfl) (fun b1 => ?_) (fun b1 => ?_)
  · rw [if_pos b1] at h
    refine mj_go_sub (lv' := [(0, .ref 95)]) (List.forall_mem_cons.mpr ⟨rfl, (fun _ h9 => absurd h9 List.not_mem_nil)⟩) ?_
    exact k_X9_first_12 hδ h
  · rw [if_neg b1] at h
    refine mj_go_iload_n (k := 2) (x := v2) rfl (mj_dt dt_X9_first 2 rfl) ?_
    refine mj_go_aload_n (k := 0) (x := 95) rfl (mj_dt dt_X9_first 3 rfl) ?_
    obtain ⟨r2, er2, h⟩ := mj_bind_some h
    refine ml_callV (Y' := mY_X9_fresh) (as := []) (rest := [.int v2]) (c := 9) (v := (some (.int r2))) (M1 := (mj_fin m)) ho_95 rfl lm_X9_317 wc_X9_fresh pl_X9_fresh ok_X9_fresh rfl rfl (Nat.le_of_ble_eq_true rfl) (k_X9_fresh (by omega) er2) (mj_dt dt_X9_first 4 rfl) ?_
    refine mj_go_icmp_lt (tgt := 19) rfl (mj_dt dt_X9_first 5 rfl) (fun b3 => ?_) (fun b3 => ?_)
    · rw [if_pos b3] at h
      refine mj_go_aload_n (k := 0) (x := 95) rfl (mj_dt dt_X9_first 10 rfl) ?_
      refine mj_go_iload_n (k := 1) (x := v1) rfl (mj_dt dt_X9_first 11 rfl) ?_
      obtain ⟨r4, er4, h⟩ := mj_bind_some h
      refine ml_callV (Y' := mY_X9_isYears) (as := [.int v1]) (rest := []) (c := 9) (v := (some (.int r4))) (M1 := (mj_fin m)) ho_95 rfl lm_X9_296 wc_X9_isYears pl_X9_isYears ok_X9_isYears rfl rfl (Nat.le_of_ble_eq_true rfl) (k_X9_isYears (by omega) er4) (mj_dt dt_X9_first 12 rfl) ?_
      refine mj_go_if_eq (tgt := 35) rfl (mj_dt dt_X9_first 13 rfl) (fun b5 => ?_) (fun b5 => ?_)
      · rw [if_pos b5] at h
        refine mj_go_sub (lv' := [(0, .ref 95)]) (List.forall_mem_cons.mpr ⟨rfl, (fun _ h9 => absurd h9 List.not_mem_nil)⟩) ?_
        exact k_X9_first_35 hδ h
      · rw [if_neg b5] at h
        refine mj_go_aload_n (k := 0) (x := 95) rfl (mj_dt dt_X9_first 14 rfl) ?_
        obtain ⟨r6, er6, h⟩ := mj_bind_some h
        refine ml_callV (Y' := mY_X9_fresh) (as := []) (rest := []) (c := 9) (v := (some (.int r6))) (M1 := (mj_fin m)) ho_95 rfl lm_X9_317 wc_X9_fresh pl_X9_fresh ok_X9_fresh rfl rfl (Nat.le_of_ble_eq_true rfl) (k_X9_fresh (by omega) er6) (mj_dt dt_X9_first 15 rfl) ?_
        refine mj_go_iconst (v := 5) rfl (mj_dt dt_X9_first 16 rfl) ?_
        refine mj_go_icmp_le (tgt := 42) rfl (mj_dt dt_X9_first 17 rfl) (fun b7 => ?_) (fun b7 => ?_)
        · rw [if_pos b7] at h
          refine mj_go_aload_n (k := 0) (x := 95) rfl (mj_dt dt_X9_first 22 rfl) ?_
          refine mj_go_iload_n (k := 1) (x := v1) rfl (mj_dt dt_X9_first 23 rfl) ?_
          obtain ⟨r8, er8, h⟩ := mj_bind_some h
          refine ml_callV (Y' := mY_X9_bests) (as := [.int v1]) (rest := []) (c := 9) (v := none) (M1 := (mj_fin r8)) ho_95 rfl lm_X9_321 wc_X9_bests pl_X9_bests ok_X9_bests rfl rfl (Nat.le_of_ble_eq_true rfl) (k_X9_bests (by omega) er8) (mj_dt dt_X9_first 24 rfl) ?_
          refine mj_go_aload_n (k := 0) (x := 95) rfl (mj_dt dt_X9_first 25 rfl) ?_
          refine ml_getR (c := 9) (k := 49) (q := 125) fd_9_49 rf_95_49 (Or.inl fl_X9_114) ho_95 (mj_dt dt_X9_first 26 rfl) ?_
          refine mj_go_iload_n (k := 2) (x := v2) rfl (mj_dt dt_X9_first 27 rfl) ?_
          obtain ⟨c9, h⟩ := mj_ck_some h
          refine mk_iald c9 (mj_dt dt_X9_first 28 rfl) ?_
          obtain rfl := Option.some.inj h
          exact mj_go_ret (v := some (.int (r8.1 125 v2.toNatClampNeg))) (Nat.le_of_ble_eq_true rfl) (mj_retI (mj_dt dt_X9_first 29 rfl) rfl)
        · rw [if_neg b7] at h
          refine mj_go_sub (lv' := [(0, .ref 95)]) (List.forall_mem_cons.mpr ⟨rfl, (fun _ h9 => absurd h9 List.not_mem_nil)⟩) ?_
          exact k_X9_first_35 hδ h
    · rw [if_neg b3] at h
      refine mj_go_sub (lv' := [(0, .ref 95)]) (List.forall_mem_cons.mpr ⟨rfl, (fun _ h9 => absurd h9 List.not_mem_nil)⟩) ?_
      exact k_X9_first_12 hδ h
def f_X8_gap_25 (N : Nat) (v1 : Int32) (v2 : Int32) (v3 : Int32) (m : mj_m) : Option (Int64 × mj_m) := if v3 = 0 then (mj_ck (mj_b 3 35 v1) ( (f_X4_lossByRule N (79 + 2 * v1.toNatClampNeg) v2 m).bind (fun r3 => (f_X4_leastLoss N v2 r3.2).bind (fun r4 => some (r3.1 - r4.1, r4.2))))) else ((f_X8_refuseFar N v3 m).bind (fun r2 => some (r2.1, r2.2)))
theorem k_X8_gap_25 {L : Nat} {xs : Nat → Int32} {δ N : Nat} {v1 : Int32} {v2 : Int32} {v3 : Int32} {m : mj_m} (hδ : 7 ≤ δ) {a : Int64 × mj_m} (h : f_X8_gap_25 N v1 v2 v3 m = some a) : mj_Go (mj_EX L xs) (δ + 1) mY_X8_gap 25 [(0, .ref 0), (1, .int v1), (2, .int v2), (3, .int v3)] [] (mj_fin m) (some (.long a.1), (mj_fin a.2)) := by
  unfold f_X8_gap_25 at h
  refine mj_go_iload_n (k := 3) (x := v3) rfl (mj_dt dt_X8_gap 14 rfl) ?_
  refine mj_go_if_eq (tgt := 35) rfl (mj_dt dt_X8_gap 15 rfl) (fun b1 => ?_) (fun b1 => ?_)
  · rw [if_pos b1] at h
    refine mj_go_aload_n (k := 0) (x := 0) rfl (mj_dt dt_X8_gap 20 rfl) ?_
    refine ml_getR (c := 8) (k := 5) (q := 48) fd_8_5 rf_0_5 (Or.inl fl_X8_48) ho_0 (mj_dt dt_X8_gap 21 rfl) ?_
    refine mj_go_aload_n (k := 0) (x := 0) rfl (mj_dt dt_X8_gap 22 rfl) ?_
    refine ml_getR (c := 8) (k := 2) (q := 35) fd_8_2 rf_0_2 (Or.inl fl_X8_21) ho_0 (mj_dt dt_X8_gap 23 rfl) ?_
    refine mj_go_iload_n (k := 1) (x := v1) rfl (mj_dt dt_X8_gap 24 rfl) ?_
    obtain ⟨c2, h⟩ := mj_ck_some h
    refine ml_aald3 (q := 79 + 2 * v1.toNatClampNeg) c2 (mj_hs35 c2).1 (mj_dt dt_X8_gap 25 rfl) ?_
    refine mj_go_iload_n (k := 2) (x := v2) rfl (mj_dt dt_X8_gap 26 rfl) ?_
    obtain ⟨r3, er3, h⟩ := mj_bind_some h
    refine ml_callV (Y' := mY_X4_lossByRule) (as := [.ref (79 + 2 * v1.toNatClampNeg), .int v2]) (rest := []) (c := 4) (v := (some (.long r3.1))) (M1 := (mj_fin r3.2)) ho_48 rfl lm_X8_303 wc_X4_lossByRule pl_X4_lossByRule ok_X4_lossByRule rfl rfl (Nat.le_of_ble_eq_true rfl) (k_X4_lossByRule (by omega) er3) (mj_dt dt_X8_gap 27 rfl) ?_
    refine mj_go_aload_n (k := 0) (x := 0) rfl (mj_dt dt_X8_gap 28 rfl) ?_
    refine ml_getR (c := 8) (k := 5) (q := 48) fd_8_5 rf_0_5 (Or.inl fl_X8_48) ho_0 (mj_dt dt_X8_gap 29 rfl) ?_
    refine mj_go_iload_n (k := 2) (x := v2) rfl (mj_dt dt_X8_gap 30 rfl) ?_
    obtain ⟨r4, er4, h⟩ := mj_bind_some h
    refine ml_callV (Y' := mY_X4_leastLoss) (as := [.int v2]) (rest := [.long r3.1]) (c := 4) (v := (some (.long r4.1))) (M1 := (mj_fin r4.2)) ho_48 rfl lm_X8_324 wc_X4_leastLoss pl_X4_leastLoss ok_X4_leastLoss rfl rfl (Nat.le_of_ble_eq_true rfl) (k_X4_leastLoss (by omega) er4) (mj_dt dt_X8_gap 31 rfl) ?_
    refine mj_go_lsub (mj_dt dt_X8_gap 32 rfl) ?_
    obtain rfl := Option.some.inj h
    exact mj_go_ret (v := some (.long (r3.1 - r4.1))) (Nat.le_of_ble_eq_true rfl) (mj_retL (mj_dt dt_X8_gap 33 rfl) rfl)
  · rw [if_neg b1] at h
    refine mj_go_aload_n (k := 0) (x := 0) rfl (mj_dt dt_X8_gap 16 rfl) ?_
    refine mj_go_iload_n (k := 3) (x := v3) rfl (mj_dt dt_X8_gap 17 rfl) ?_
    obtain ⟨r2, er2, h⟩ := mj_bind_some h
    refine ml_callV (Y' := mY_X8_refuseFar) (as := [.int v3]) (rest := []) (c := 8) (v := (some (.long r2.1))) (M1 := (mj_fin r2.2)) ho_0 rfl lm_X8_285 wc_X8_refuseFar pl_X8_refuseFar ok_X8_refuseFar rfl rfl (Nat.le_of_ble_eq_true rfl) (k_X8_refuseFar (by omega) er2) (mj_dt dt_X8_gap 18 rfl) ?_
    obtain rfl := Option.some.inj h
    exact mj_go_ret (v := some (.long r2.1)) (Nat.le_of_ble_eq_true rfl) (mj_retL (mj_dt dt_X8_gap 19 rfl) rfl)
def f_X8_gap (N : Nat) (v1 : Int32) (v2 : Int32) (m : mj_m) : Option (Int64 × mj_m) := (f_X8_lacksPlan N v1 v2 m).bind (fun r1 => if r1 = 0 then ((f_X4_countUnstrengthened N m).bind (fun r3 => if r3 ≤ 5 then f_X8_gap_25 N v1 v2 r1 m else (f_X8_gap_25 N v1 v2 6 m))) else f_X8_gap_25 N v1 v2 r1 m)
theorem k_X8_gap {L : Nat} {xs : Nat → Int32} {δ N : Nat} {v1 : Int32} {v2 : Int32} {m : mj_m} (hδ : 8 ≤ δ) {a : Int64 × mj_m} (h : f_X8_gap N v1 v2 m = some a) : mj_Cl (mj_EX L xs) δ mY_X8_gap [.ref 0, .int v1, .int v2] (mj_fin m) (some (.long a.1), (mj_fin a.2)) := by
  obtain ⟨δ, rfl⟩ : ∃ d, δ = d + 1 := ⟨δ - 1, by omega⟩
  have hδ : 7 ≤ δ := by omega
  refine mj_cl_of ok_X8_gap (Nat.le_of_ble_eq_true rfl) ?_
  unfold f_X8_gap at h
  refine mj_go_aload_n (k := 0) (x := 0) rfl (mj_dt dt_X8_gap 0 rfl) ?_
  refine mj_go_iload_n (k := 1) (x := v1) rfl (mj_dt dt_X8_gap 1 rfl) ?_
  refine mj_go_iload_n (k := 2) (x := v2) rfl (mj_dt dt_X8_gap 2 rfl) ?_
  obtain ⟨r1, er1, h⟩ := mj_bind_some h
  refine ml_callV (Y' := mY_X8_lacksPlan) (as := [.int v1, .int v2]) (rest := []) (c := 8) (v := (some (.int r1))) (M1 := (mj_fin m)) ho_0 rfl lm_X8_300 wc_X8_lacksPlan pl_X8_lacksPlan ok_X8_lacksPlan rfl rfl (Nat.le_of_ble_eq_true rfl) (k_X8_lacksPlan (by omega) er1) (mj_dt dt_X8_gap 3 rfl) ?_
  refine mj_go_istore_n (k := 3) (by decide) (mj_dt dt_X8_gap 4 rfl) ?_
  refine mj_go_iload_n (k := 3) (x := r1) rfl (mj_dt dt_X8_gap 5 rfl) ?_
  refine mj_go_if_ne (tgt := 25) rfl (mj_dt dt_X8_gap 6 rfl) (fun b2 => ?_) (fun b2 => ?_)
  · rw [if_neg b2] at h
    refine mj_go_sub (lv' := [(0, .ref 0), (1, .int v1), (2, .int v2), (3, .int r1)]) (List.forall_mem_cons.mpr ⟨rfl, (List.forall_mem_cons.mpr ⟨rfl, (List.forall_mem_cons.mpr ⟨rfl, (List.forall_mem_cons.mpr ⟨rfl, (fun _ h9 => absurd h9 List.not_mem_nil)⟩)⟩)⟩)⟩) ?_
    exact k_X8_gap_25 hδ h
  · rw [if_pos b2] at h
    refine mj_go_aload_n (k := 0) (x := 0) rfl (mj_dt dt_X8_gap 7 rfl) ?_
    refine ml_getR (c := 8) (k := 5) (q := 48) fd_8_5 rf_0_5 (Or.inl fl_X8_48) ho_0 (mj_dt dt_X8_gap 8 rfl) ?_
    obtain ⟨r3, er3, h⟩ := mj_bind_some h
    refine ml_callV (Y' := mY_X4_countUnstrengthened) (as := []) (rest := []) (c := 4) (v := (some (.int r3))) (M1 := (mj_fin m)) ho_48 rfl lm_X8_321 wc_X4_countUnstrengthened pl_X4_countUnstrengthened ok_X4_countUnstrengthened rfl rfl (Nat.le_of_ble_eq_true rfl) (k_X4_countUnstrengthened (by omega) er3) (mj_dt dt_X8_gap 9 rfl) ?_
    refine mj_go_iconst (v := 5) rfl (mj_dt dt_X8_gap 10 rfl) ?_
    refine mj_go_icmp_le (tgt := 25) rfl (mj_dt dt_X8_gap 11 rfl) (fun b4 => ?_) (fun b4 => ?_)
    · rw [if_pos b4] at h
      refine mj_go_sub (lv' := [(0, .ref 0), (1, .int v1), (2, .int v2), (3, .int r1)]) (List.forall_mem_cons.mpr ⟨rfl, (List.forall_mem_cons.mpr ⟨rfl, (List.forall_mem_cons.mpr ⟨rfl, (List.forall_mem_cons.mpr ⟨rfl, (fun _ h9 => absurd h9 List.not_mem_nil)⟩)⟩)⟩)⟩) ?_
      exact k_X8_gap_25 hδ h
    · rw [if_neg b4] at h
      refine mj_go_bipush (v := 6) rfl (mj_dt dt_X8_gap 12 rfl) ?_
      refine mj_go_istore_n (k := 3) (by decide) (mj_dt dt_X8_gap 13 rfl) ?_
      refine mj_go_sub (lv' := [(0, .ref 0), (1, .int v1), (2, .int v2), (3, .int 6)]) (List.forall_mem_cons.mpr ⟨rfl, (List.forall_mem_cons.mpr ⟨rfl, (List.forall_mem_cons.mpr ⟨rfl, (List.forall_mem_cons.mpr ⟨rfl, (fun _ h9 => absurd h9 List.not_mem_nil)⟩)⟩)⟩)⟩) ?_
      exact k_X8_gap_25 hδ h
def f_X9_gap_34 (N : Nat) (m : mj_m) : Option (Int64 × mj_m) := (f_X9_noLow N (-6 : Int32) m).bind (fun r1 => some (r1.1.toInt64, r1.2))
theorem k_X9_gap_34 {L : Nat} {xs : Nat → Int32} {δ N : Nat} {m : mj_m} (hδ : 13 ≤ δ) {a : Int64 × mj_m} (h : f_X9_gap_34 N m = some a) : mj_Go (mj_EX L xs) (δ + 1) mY_X9_gap 34 [(0, .ref 95)] [] (mj_fin m) (some (.long a.1), (mj_fin a.2)) := by
  unfold f_X9_gap_34 at h
  refine mj_go_aload_n (k := 0) (x := 95) rfl (mj_dt dt_X9_gap 20 rfl) ?_
  refine mj_go_bipush (v := -6) rfl (mj_dt dt_X9_gap 21 rfl) ?_
  obtain ⟨r1, er1, h⟩ := mj_bind_some h
  refine ml_callV (Y' := mY_X9_noLow) (as := [.int (-6 : Int32)]) (rest := []) (c := 9) (v := (some (.int r1.1))) (M1 := (mj_fin r1.2)) ho_95 rfl lm_X9_266 wc_X9_noLow pl_X9_noLow ok_X9_noLow rfl rfl (Nat.le_of_ble_eq_true rfl) (k_X9_noLow (by omega) er1) (mj_dt dt_X9_gap 22 rfl) ?_
  refine mj_go_i2l (mj_dt dt_X9_gap 23 rfl) ?_
  obtain rfl := Option.some.inj h
  exact mj_go_ret (v := some (.long (r1.1.toInt64))) (Nat.le_of_ble_eq_true rfl) (mj_retL (mj_dt dt_X9_gap 24 rfl) rfl)
def f_X9_gap (N : Nat) (v1 : Int32) (v2 : Int32) (m : mj_m) : Option (Int64 × mj_m) := (f_X9_wants N v1 2 m).bind (fun r1 => if r1 = 0 then ((f_X9_isYears N v2 m).bind (fun r3 => if r3 = 0 then f_X9_gap_34 N m else ((f_X9_fresh N m).bind (fun r5 => if r5 ≤ 5 then ((f_X9_rowBy N v1 m).bind (fun r7 => (f_X9_planned N v2 r7).bind (fun r8 => (f_X9_bests N v2 r8.2).bind (fun r9 => some (r8.1 - (r9.2 95 51), r9))))) else f_X9_gap_34 N m)))) else ((f_X9_noLow N r1 m).bind (fun r3 => some (r3.1.toInt64, r3.2))))
theorem k_X9_gap {L : Nat} {xs : Nat → Int32} {δ N : Nat} {v1 : Int32} {v2 : Int32} {m : mj_m} (hδ : 14 ≤ δ) {a : Int64 × mj_m} (h : f_X9_gap N v1 v2 m = some a) : mj_Cl (mj_EX L xs) δ mY_X9_gap [.ref 95, .int v1, .int v2] (mj_fin m) (some (.long a.1), (mj_fin a.2)) := by
  obtain ⟨δ, rfl⟩ : ∃ d, δ = d + 1 := ⟨δ - 1, by omega⟩
  have hδ : 13 ≤ δ := by omega
  refine mj_cl_of ok_X9_gap (Nat.le_of_ble_eq_true rfl) ?_
  unfold f_X9_gap at h
  refine mj_go_aload_n (k := 0) (x := 95) rfl (mj_dt dt_X9_gap 0 rfl) ?_
  refine mj_go_iload_n (k := 1) (x := v1) rfl (mj_dt dt_X9_gap 1 rfl) ?_
  refine mj_go_iconst (v := 2) rfl (mj_dt dt_X9_gap 2 rfl) ?_
  obtain ⟨r1, er1, h⟩ := mj_bind_some h
  refine ml_callV (Y' := mY_X9_wants) (as := [.int v1, .int 2]) (rest := []) (c := 9) (v := (some (.int r1))) (M1 := (mj_fin m)) ho_95 rfl lm_X9_138 wc_X9_wants pl_X9_wants ok_X9_wants rfl rfl (Nat.le_of_ble_eq_true rfl) (k_X9_wants (by omega) er1) (mj_dt dt_X9_gap 3 rfl) ?_
  refine mj_go_istore_n (k := 3) (by decide) (mj_dt dt_X9_gap 4 rfl) ?_
  refine mj_go_iload_n (k := 3) (x := r1) rfl (mj_dt dt_X9_gap 5 rfl) ?_
  refine mj_go_if_eq (tgt := 18) rfl (mj_dt dt_X9_gap 6 rfl) (fun b2 => ?_) (fun b2 => ?_)
  · rw [if_pos b2] at h
    refine mj_go_aload_n (k := 0) (x := 95) rfl (mj_dt dt_X9_gap 12 rfl) ?_
    refine mj_go_iload_n (k := 2) (x := v2) rfl (mj_dt dt_X9_gap 13 rfl) ?_
    obtain ⟨r3, er3, h⟩ := mj_bind_some h
    refine ml_callV (Y' := mY_X9_isYears) (as := [.int v2]) (rest := []) (c := 9) (v := (some (.int r3))) (M1 := (mj_fin m)) ho_95 rfl lm_X9_296 wc_X9_isYears pl_X9_isYears ok_X9_isYears rfl rfl (Nat.le_of_ble_eq_true rfl) (k_X9_isYears (by omega) er3) (mj_dt dt_X9_gap 14 rfl) ?_
    refine mj_go_if_eq (tgt := 34) rfl (mj_dt dt_X9_gap 15 rfl) (fun b4 => ?_) (fun b4 => ?_)
    · rw [if_pos b4] at h
      refine mj_go_sub (lv' := [(0, .ref 95)]) (List.forall_mem_cons.mpr ⟨rfl, (fun _ h9 => absurd h9 List.not_mem_nil)⟩) ?_
      exact k_X9_gap_34 hδ h
    · rw [if_neg b4] at h
      refine mj_go_aload_n (k := 0) (x := 95) rfl (mj_dt dt_X9_gap 16 rfl) ?_
      obtain ⟨r5, er5, h⟩ := mj_bind_some h
      refine ml_callV (Y' := mY_X9_fresh) (as := []) (rest := []) (c := 9) (v := (some (.int r5))) (M1 := (mj_fin m)) ho_95 rfl lm_X9_317 wc_X9_fresh pl_X9_fresh ok_X9_fresh rfl rfl (Nat.le_of_ble_eq_true rfl) (k_X9_fresh (by omega) er5) (mj_dt dt_X9_gap 17 rfl) ?_
      refine mj_go_iconst (v := 5) rfl (mj_dt dt_X9_gap 18 rfl) ?_
      refine mj_go_icmp_le (tgt := 42) rfl (mj_dt dt_X9_gap 19 rfl) (fun b6 => ?_) (fun b6 => ?_)
      · rw [if_pos b6] at h
        refine mj_go_aload_n (k := 0) (x := 95) rfl (mj_dt dt_X9_gap 25 rfl) ?_
        refine mj_go_iload_n (k := 1) (x := v1) rfl (mj_dt dt_X9_gap 26 rfl) ?_
        obtain ⟨r7, er7, h⟩ := mj_bind_some h
        refine ml_callV (Y' := mY_X9_rowBy) (as := [.int v1]) (rest := []) (c := 9) (v := none) (M1 := (mj_fin r7)) ho_95 rfl lm_X9_299 wc_X9_rowBy pl_X9_rowBy ok_X9_rowBy rfl rfl (Nat.le_of_ble_eq_true rfl) (k_X9_rowBy (by omega) er7) (mj_dt dt_X9_gap 27 rfl) ?_
        refine mj_go_aload_n (k := 0) (x := 95) rfl (mj_dt dt_X9_gap 28 rfl) ?_
        refine mj_go_iload_n (k := 2) (x := v2) rfl (mj_dt dt_X9_gap 29 rfl) ?_
        obtain ⟨r8, er8, h⟩ := mj_bind_some h
        refine ml_callV (Y' := mY_X9_planned) (as := [.int v2]) (rest := []) (c := 9) (v := (some (.long r8.1))) (M1 := (mj_fin r8.2)) ho_95 rfl lm_X9_302 wc_X9_planned pl_X9_planned ok_X9_planned rfl rfl (Nat.le_of_ble_eq_true rfl) (k_X9_planned (by omega) er8) (mj_dt dt_X9_gap 30 rfl) ?_
        refine mj_go_lstore (i := 4) (by decide) (mj_dt dt_X9_gap 31 rfl) ?_
        refine mj_go_aload_n (k := 0) (x := 95) rfl (mj_dt dt_X9_gap 32 rfl) ?_
        refine mj_go_iload_n (k := 2) (x := v2) rfl (mj_dt dt_X9_gap 33 rfl) ?_
        obtain ⟨r9, er9, h⟩ := mj_bind_some h
        refine ml_callV (Y' := mY_X9_bests) (as := [.int v2]) (rest := []) (c := 9) (v := none) (M1 := (mj_fin r9)) ho_95 rfl lm_X9_321 wc_X9_bests pl_X9_bests ok_X9_bests rfl rfl (Nat.le_of_ble_eq_true rfl) (k_X9_bests (by omega) er9) (mj_dt dt_X9_gap 34 rfl) ?_
        refine mj_go_lload (i := 4) (x := r8.1) rfl (mj_dt dt_X9_gap 35 rfl) ?_
        refine mj_go_aload_n (k := 0) (x := 95) rfl (mj_dt dt_X9_gap 36 rfl) ?_
        refine mk_getL (c := 9) (k := 51) fd_9_51 (Or.inl fl_X9_309) ho_95 (mj_dt dt_X9_gap 37 rfl) ?_
        refine mj_go_lsub (mj_dt dt_X9_gap 38 rfl) ?_
        obtain rfl := Option.some.inj h
        exact mj_go_ret (v := some (.long (r8.1 - (r9.2 95 51)))) (Nat.le_of_ble_eq_true rfl) (mj_retL (mj_dt dt_X9_gap 39 rfl) rfl)
      · rw [if_neg b6] at h
        refine mj_go_sub (lv' := [(0, .ref 95)]) (List.forall_mem_cons.mpr ⟨rfl, (fun _ h9 => absurd h9 List.not_mem_nil)⟩) ?_
        exact k_X9_gap_34 hδ h
  · rw [if_neg b2] at h
    refine mj_go_aload_n (k := 0) (x := 95) rfl (mj_dt dt_X9_gap 7 rfl) ?_
    refine mj_go_iload_n (k := 3) (x := r1) rfl (mj_dt dt_X9_gap 8 rfl) ?_
    obtain ⟨r3, er3, h⟩ := mj_bind_some h
    refine ml_callV (Y' := mY_X9_noLow) (as := [.int r1]) (rest := []) (c := 9) (v := (some (.int r3.1))) (M1 := (mj_fin r3.2)) ho_95 rfl lm_X9_266 wc_X9_noLow pl_X9_noLow ok_X9_noLow rfl rfl (Nat.le_of_ble_eq_true rfl) (k_X9_noLow (by omega) er3) (mj_dt dt_X9_gap 9 rfl) ?_
    refine mj_go_i2l (mj_dt dt_X9_gap 10 rfl) ?_
    obtain rfl := Option.some.inj h
    exact mj_go_ret (v := some (.long (r3.1.toInt64))) (Nat.le_of_ble_eq_true rfl) (mj_retL (mj_dt dt_X9_gap 11 rfl) rfl)
def f_X4_boundOf_2 (N : Nat) (v1 : Int32) (k_2 : Int32 × mj_m → Option (Int64 × mj_m)) (s : Int32 × mj_m) : Option (Int64 × mj_m) := if 10 ≤ s.1 then ((f_X2_weighYear N s.2).bind (fun r2 => (f_X2_meanBy N 50 r2).bind (fun r3 => some ((v1.toInt64) * r3.1, r3.2)))) else (mj_ck (mj_b 0 5 s.1) ( mj_ck (mj_b 0 50 s.1) ( mj_mw (mj_wI s.2 50 (s.1.toNatClampNeg) (if 1 < (s.2.1 5 s.1.toNatClampNeg) then (s.2.1 5 s.1.toNatClampNeg) else 1)) (fun m4 => mj_mw (s.1 + 1) (fun x5 => k_2 (x5, m4))))))
theorem k_X4_boundOf_2 {L : Nat} {xs : Nat → Int32} {δ N : Nat} {v1 : Int32} (hδ : 3 ≤ δ) : ∀ (n : Nat) (s : Int32 × mj_m) (a : Int64 × mj_m), mj_lp n (f_X4_boundOf_2 N v1) s = some a → mj_Go (mj_EX L xs) (δ + 1) mY_X4_boundOf 2 [(0, .ref 48), (1, .int v1), (2, .int s.1)] [] (mj_fin s.2) (some (.long a.1), (mj_fin a.2)) := by
  refine mj_lp_sound (fun k_2 s a q_2 h => ?_)
  unfold f_X4_boundOf_2 at h
  refine mj_go_iload_n (k := 2) (x := s.1) rfl (mj_dt dt_X4_boundOf 2 rfl) ?_
  refine mj_go_bipush (v := 10) rfl (mj_dt dt_X4_boundOf 3 rfl) ?_
  refine mj_go_icmp_ge (tgt := 33) rfl (mj_dt dt_X4_boundOf 4 rfl) (fun b1 => ?_) (fun b1 => ?_)
  · rw [if_pos b1] at h
    refine mj_go_aload_n (k := 0) (x := 48) rfl (mj_dt dt_X4_boundOf 18 rfl) ?_
    refine ml_getR (c := 4) (k := 1) (q := 36) fd_4_1 rf_48_1 (Or.inl fl_X4_51) ho_48 (mj_dt dt_X4_boundOf 19 rfl) ?_
    obtain ⟨r2, er2, h⟩ := mj_bind_some h
    refine ml_callV (Y' := mY_X2_weighYear) (as := []) (rest := []) (c := 2) (v := none) (M1 := (mj_fin r2)) ho_36 rfl lm_X4_76 wc_X2_weighYear pl_X2_weighYear ok_X2_weighYear rfl rfl (Nat.le_of_ble_eq_true rfl) (k_X2_weighYear (by omega) er2) (mj_dt dt_X4_boundOf 20 rfl) ?_
    refine mj_go_iload_n (k := 1) (x := v1) rfl (mj_dt dt_X4_boundOf 21 rfl) ?_
    refine mj_go_i2l (mj_dt dt_X4_boundOf 22 rfl) ?_
    refine mj_go_aload_n (k := 0) (x := 48) rfl (mj_dt dt_X4_boundOf 23 rfl) ?_
    refine ml_getR (c := 4) (k := 1) (q := 36) fd_4_1 rf_48_1 (Or.inl fl_X4_51) ho_48 (mj_dt dt_X4_boundOf 24 rfl) ?_
    refine mj_go_aload_n (k := 0) (x := 48) rfl (mj_dt dt_X4_boundOf 25 rfl) ?_
    refine ml_getR (c := 4) (k := 4) (q := 50) fd_4_4 rf_48_4 (Or.inl fl_X4_15) ho_48 (mj_dt dt_X4_boundOf 26 rfl) ?_
    obtain ⟨r3, er3, h⟩ := mj_bind_some h
    refine ml_callV (Y' := mY_X2_meanBy) (as := [.ref 50]) (rest := [.long (v1.toInt64)]) (c := 2) (v := (some (.long r3.1))) (M1 := (mj_fin r3.2)) ho_36 rfl lm_X4_70 wc_X2_meanBy pl_X2_meanBy ok_X2_meanBy rfl rfl (Nat.le_of_ble_eq_true rfl) (k_X2_meanBy (by omega) er3) (mj_dt dt_X4_boundOf 27 rfl) ?_
    refine mj_go_lmul (mj_dt dt_X4_boundOf 28 rfl) ?_
    obtain rfl := Option.some.inj h
    exact mj_go_ret (v := some (.long ((v1.toInt64) * r3.1))) (Nat.le_of_ble_eq_true rfl) (mj_retL (mj_dt dt_X4_boundOf 29 rfl) rfl)
  · rw [if_neg b1] at h
    refine mj_go_aload_n (k := 0) (x := 48) rfl (mj_dt dt_X4_boundOf 5 rfl) ?_
    refine ml_getR (c := 4) (k := 4) (q := 50) fd_4_4 rf_48_4 (Or.inl fl_X4_15) ho_48 (mj_dt dt_X4_boundOf 6 rfl) ?_
    refine mj_go_iload_n (k := 2) (x := s.1) rfl (mj_dt dt_X4_boundOf 7 rfl) ?_
    refine mj_go_iconst (v := 1) rfl (mj_dt dt_X4_boundOf 8 rfl) ?_
    refine mj_go_aload_n (k := 0) (x := 48) rfl (mj_dt dt_X4_boundOf 9 rfl) ?_
    refine ml_getR (c := 4) (k := 0) (q := 1) fd_4_0 rf_48_0 (Or.inl fl_X4_47) ho_48 (mj_dt dt_X4_boundOf 10 rfl) ?_
    refine ml_getR (c := 7) (k := 3) (q := 5) fd_7_3 rf_1_3 (Or.inl fl_X4_59) ho_1 (mj_dt dt_X4_boundOf 11 rfl) ?_
    refine mj_go_iload_n (k := 2) (x := s.1) rfl (mj_dt dt_X4_boundOf 12 rfl) ?_
    obtain ⟨c2, h⟩ := mj_ck_some h
    refine mk_iald c2 (mj_dt dt_X4_boundOf 13 rfl) ?_
    refine mj_go_max hm_X4_95 (Nat.le_of_ble_eq_true rfl) (mj_dt dt_X4_boundOf 14 rfl) ?_
    obtain ⟨c3, h⟩ := mj_ck_some h
    obtain ⟨m4, em4, h⟩ := mj_mw_some h
    refine ml_iast c3 (mj_dt dt_X4_boundOf 15 rfl) ?_
    refine ml_eqm (M1 := (mj_fin m4)) (by rw [em4] <;> rfl) ?_
    obtain ⟨x5, ex5, h⟩ := mj_mw_some h
    refine mj_go_iinc (i := 2) (x := s.1) (v := x5) rfl (by rw [ex5] <;> rfl) (by decide) (mj_dt dt_X4_boundOf 16 rfl) ?_
    refine mj_go_goto (tgt := 2) rfl (mj_dt dt_X4_boundOf 17 rfl) ?_
    refine mj_go_sub (lv' := [(0, .ref 48), (1, .int v1), (2, .int x5)]) (List.forall_mem_cons.mpr ⟨rfl, (List.forall_mem_cons.mpr ⟨rfl, (List.forall_mem_cons.mpr ⟨rfl, (fun _ h9 => absurd h9 List.not_mem_nil)⟩)⟩)⟩) ?_
    exact q_2 _ _ h
def f_X4_boundOf (N : Nat) (v1 : Int32) (m : mj_m) : Option (Int64 × mj_m) := mj_lp N (f_X4_boundOf_2 N v1) (0, m)
theorem k_X4_boundOf {L : Nat} {xs : Nat → Int32} {δ N : Nat} {v1 : Int32} {m : mj_m} (hδ : 4 ≤ δ) {a : Int64 × mj_m} (h : f_X4_boundOf N v1 m = some a) : mj_Cl (mj_EX L xs) δ mY_X4_boundOf [.ref 48, .int v1] (mj_fin m) (some (.long a.1), (mj_fin a.2)) := by
  obtain ⟨δ, rfl⟩ : ∃ d, δ = d + 1 := ⟨δ - 1, by omega⟩
  have hδ : 3 ≤ δ := by omega
  refine mj_cl_of ok_X4_boundOf (Nat.le_of_ble_eq_true rfl) ?_
  unfold f_X4_boundOf at h
  refine mj_go_iconst (v := 0) rfl (mj_dt dt_X4_boundOf 0 rfl) ?_
  refine mj_go_istore_n (k := 2) (by decide) (mj_dt dt_X4_boundOf 1 rfl) ?_
  refine mj_go_sub (lv' := [(0, .ref 48), (1, .int v1), (2, .int 0)]) (List.forall_mem_cons.mpr ⟨rfl, (List.forall_mem_cons.mpr ⟨rfl, (List.forall_mem_cons.mpr ⟨rfl, (fun _ h9 => absurd h9 List.not_mem_nil)⟩)⟩)⟩) ?_
  exact k_X4_boundOf_2 hδ N _ _ h
def f_X8_bound (N : Nat) (v1 : Int32) (m : mj_m) : Option (Int64 × mj_m) := (f_X8_areYears N v1 m).bind (fun r1 => if r1 = 0 then ((f_X8_refuse N 6 m).bind (fun r3 => (some (r3.1.toInt64, r3.2)))) else ((f_X4_boundOf N v1 m).bind (fun r3 => (some (r3.1, r3.2)))))
theorem k_X8_bound {L : Nat} {xs : Nat → Int32} {δ N : Nat} {v1 : Int32} {m : mj_m} (hδ : 5 ≤ δ) {a : Int64 × mj_m} (h : f_X8_bound N v1 m = some a) : mj_Cl (mj_EX L xs) δ mY_X8_bound [.ref 0, .int v1] (mj_fin m) (some (.long a.1), (mj_fin a.2)) := by
  obtain ⟨δ, rfl⟩ : ∃ d, δ = d + 1 := ⟨δ - 1, by omega⟩
  have hδ : 4 ≤ δ := by omega
  refine mj_cl_of ok_X8_bound (Nat.le_of_ble_eq_true rfl) ?_
  unfold f_X8_bound at h
  refine mj_go_iload_n (k := 1) (x := v1) rfl (mj_dt dt_X8_bound 0 rfl) ?_
  obtain ⟨r1, er1, h⟩ := mj_bind_some h
  refine ml_callS (Y' := mY_X8_areYears) (as := [.int v1]) (rest := []) (v := (some (.int r1))) (M1 := (mj_fin m)) lm_X8_311 wc_X8_areYears pl_X8_areYears ok_X8_areYears rfl rfl (Nat.le_of_ble_eq_true rfl) (k_X8_areYears (by omega) er1) (mj_dt dt_X8_bound 1 rfl) ?_
  refine mj_go_if_eq (tgt := 18) rfl (mj_dt dt_X8_bound 2 rfl) (fun b2 => ?_) (fun b2 => ?_)
  · rw [if_pos b2] at h
    refine mj_go_aload_n (k := 0) (x := 0) rfl (mj_dt dt_X8_bound 8 rfl) ?_
    refine mj_go_bipush (v := 6) rfl (mj_dt dt_X8_bound 9 rfl) ?_
    obtain ⟨r3, er3, h⟩ := mj_bind_some h
    refine ml_callV (Y' := mY_X8_refuse) (as := [.int 6]) (rest := []) (c := 8) (v := (some (.int r3.1))) (M1 := (mj_fin r3.2)) ho_0 rfl lm_X8_86 wc_X8_refuse pl_X8_refuse ok_X8_refuse rfl rfl (Nat.le_of_ble_eq_true rfl) (k_X8_refuse (by omega) er3) (mj_dt dt_X8_bound 10 rfl) ?_
    refine mj_go_i2l (mj_dt dt_X8_bound 11 rfl) ?_
    obtain rfl := Option.some.inj h
    exact mj_go_ret (v := some (.long (r3.1.toInt64))) (Nat.le_of_ble_eq_true rfl) (mj_retL (mj_dt dt_X8_bound 12 rfl) rfl)
  · rw [if_neg b2] at h
    refine mj_go_aload_n (k := 0) (x := 0) rfl (mj_dt dt_X8_bound 3 rfl) ?_
    refine ml_getR (c := 8) (k := 5) (q := 48) fd_8_5 rf_0_5 (Or.inl fl_X8_48) ho_0 (mj_dt dt_X8_bound 4 rfl) ?_
    refine mj_go_iload_n (k := 1) (x := v1) rfl (mj_dt dt_X8_bound 5 rfl) ?_
    obtain ⟨r3, er3, h⟩ := mj_bind_some h
    refine ml_callV (Y' := mY_X4_boundOf) (as := [.int v1]) (rest := []) (c := 4) (v := (some (.long r3.1))) (M1 := (mj_fin r3.2)) ho_48 rfl lm_X8_330 wc_X4_boundOf pl_X4_boundOf ok_X4_boundOf rfl rfl (Nat.le_of_ble_eq_true rfl) (k_X4_boundOf (by omega) er3) (mj_dt dt_X8_bound 6 rfl) ?_
    refine mj_go_goto (tgt := 25) rfl (mj_dt dt_X8_bound 7 rfl) ?_
    obtain rfl := Option.some.inj h
    exact mj_go_ret (v := some (.long r3.1)) (Nat.le_of_ble_eq_true rfl) (mj_retL (mj_dt dt_X8_bound 12 rfl) rfl)
def f_X9_bound_93 (N : Nat) (v2 : Int32) (v3 : Int64) (k_93 : Int32 × mj_m → Option (Int64 × mj_m)) (s : Int32 × mj_m) : Option (Int64 × mj_m) := if (s.2.1 95 1) ≤ s.1 then (some (v3, s.2)) else (mj_ck (mj_b 0 108 s.1) ( mj_mw (mj_wI s.2 108 (s.1.toNatClampNeg) ((s.2.1 108 s.1.toNatClampNeg) - ((v2 >>> (s.1 &&& 31)) &&& 1))) (fun m3 => mj_mw (s.1 + 1) (fun x4 => k_93 (x4, m3)))))
theorem k_X9_bound_93 {L : Nat} {xs : Nat → Int32} {δ N : Nat} {v2 : Int32} {v3 : Int64} (hδ : 4 ≤ δ) : ∀ (n : Nat) (s : Int32 × mj_m) (a : Int64 × mj_m), mj_lp n (f_X9_bound_93 N v2 v3) s = some a → mj_Go (mj_EX L xs) (δ + 1) mY_X9_bound 93 [(0, .ref 95), (2, .int v2), (3, .long v3), (5, .int s.1)] [] (mj_fin s.2) (some (.long a.1), (mj_fin a.2)) := by
  refine mj_lp_sound (fun k_93 s a q_93 h => ?_)
  unfold f_X9_bound_93 at h
  refine mj_go_iload (i := 5) (x := s.1) rfl (mj_dt dt_X9_bound 59 rfl) ?_
  refine mj_go_aload_n (k := 0) (x := 95) rfl (mj_dt dt_X9_bound 60 rfl) ?_
  refine mk_getI (c := 9) (k := 1) (Or.inl fd_9_1) (Or.inl fl_X9_124) ho_95 (mj_dt dt_X9_bound 61 rfl) ?_
  refine mj_go_icmp_ge (tgt := 124) rfl (mj_dt dt_X9_bound 62 rfl) (fun b1 => ?_) (fun b1 => ?_)
  · rw [if_pos b1] at h
    refine mj_go_lload_n (k := 3) (x := v3) rfl (mj_dt dt_X9_bound 77 rfl) ?_
    obtain rfl := Option.some.inj h
    exact mj_go_ret (v := some (.long v3)) (Nat.le_of_ble_eq_true rfl) (mj_retL (mj_dt dt_X9_bound 78 rfl) rfl)
  · rw [if_neg b1] at h
    refine mj_go_aload_n (k := 0) (x := 95) rfl (mj_dt dt_X9_bound 63 rfl) ?_
    refine ml_getR (c := 9) (k := 23) (q := 108) fd_9_23 rf_95_23 (Or.inl fl_X9_62) ho_95 (mj_dt dt_X9_bound 64 rfl) ?_
    refine mj_go_iload (i := 5) (x := s.1) rfl (mj_dt dt_X9_bound 65 rfl) ?_
    refine mj_go_dup2_11 rfl rfl (mj_dt dt_X9_bound 66 rfl) ?_
    obtain ⟨c2, h⟩ := mj_ck_some h
    refine mk_iald c2 (mj_dt dt_X9_bound 67 rfl) ?_
    refine mj_go_iload_n (k := 2) (x := v2) rfl (mj_dt dt_X9_bound 68 rfl) ?_
    refine mj_go_iload (i := 5) (x := s.1) rfl (mj_dt dt_X9_bound 69 rfl) ?_
    refine mj_go_ishr (mj_dt dt_X9_bound 70 rfl) ?_
    refine mj_go_iconst (v := 1) rfl (mj_dt dt_X9_bound 71 rfl) ?_
    refine mj_go_iand (mj_dt dt_X9_bound 72 rfl) ?_
    refine mj_go_isub (mj_dt dt_X9_bound 73 rfl) ?_
    obtain ⟨m3, em3, h⟩ := mj_mw_some h
    refine ml_iast c2 (mj_dt dt_X9_bound 74 rfl) ?_
    refine ml_eqm (M1 := (mj_fin m3)) (by rw [em3] <;> rfl) ?_
    obtain ⟨x4, ex4, h⟩ := mj_mw_some h
    refine mj_go_iinc (i := 5) (x := s.1) (v := x4) rfl (by rw [ex4] <;> rfl) (by decide) (mj_dt dt_X9_bound 75 rfl) ?_
    refine mj_go_goto (tgt := 93) rfl (mj_dt dt_X9_bound 76 rfl) ?_
    refine mj_go_sub (lv' := [(0, .ref 95), (2, .int v2), (3, .long v3), (5, .int x4)]) (List.forall_mem_cons.mpr ⟨rfl, (List.forall_mem_cons.mpr ⟨rfl, (List.forall_mem_cons.mpr ⟨rfl, (List.forall_mem_cons.mpr ⟨rfl, (fun _ h9 => absurd h9 List.not_mem_nil)⟩)⟩)⟩)⟩) ?_
    exact q_93 _ _ h
def f_X9_bound_54 (N : Nat) (v1 : Int32) (v2 : Int32) (k_54 : Int32 × mj_m → Option (Int64 × mj_m)) (s : Int32 × mj_m) : Option (Int64 × mj_m) := if (s.2.1 95 1) ≤ s.1 then ((f_X9_meanOf N s.2).bind (fun r2 => mj_mw ((v1.toInt64) * r2.1) (fun x3 => mj_lp N (f_X9_bound_93 N v2 x3) (0, r2.2)))) else (mj_ck (mj_b 0 108 s.1) ( mj_mw (mj_wI s.2 108 (s.1.toNatClampNeg) ((s.2.1 108 s.1.toNatClampNeg) + ((v2 >>> (s.1 &&& 31)) &&& 1))) (fun m3 => mj_mw (s.1 + 1) (fun x4 => k_54 (x4, m3)))))
theorem k_X9_bound_54 {L : Nat} {xs : Nat → Int32} {δ N : Nat} {v1 : Int32} {v2 : Int32} (hδ : 4 ≤ δ) : ∀ (n : Nat) (s : Int32 × mj_m) (a : Int64 × mj_m), mj_lp n (f_X9_bound_54 N v1 v2) s = some a → mj_Go (mj_EX L xs) (δ + 1) mY_X9_bound 54 [(0, .ref 95), (1, .int v1), (2, .int v2), (3, .int s.1)] [] (mj_fin s.2) (some (.long a.1), (mj_fin a.2)) := by
  refine mj_lp_sound (fun k_54 s a q_54 h => ?_)
  unfold f_X9_bound_54 at h
  refine mj_go_iload_n (k := 3) (x := s.1) rfl (mj_dt dt_X9_bound 33 rfl) ?_
  refine mj_go_aload_n (k := 0) (x := 95) rfl (mj_dt dt_X9_bound 34 rfl) ?_
  refine mk_getI (c := 9) (k := 1) (Or.inl fd_9_1) (Or.inl fl_X9_124) ho_95 (mj_dt dt_X9_bound 35 rfl) ?_
  refine mj_go_icmp_ge (tgt := 82) rfl (mj_dt dt_X9_bound 36 rfl) (fun b1 => ?_) (fun b1 => ?_)
  · rw [if_pos b1] at h
    refine mj_go_iload_n (k := 1) (x := v1) rfl (mj_dt dt_X9_bound 51 rfl) ?_
    refine mj_go_i2l (mj_dt dt_X9_bound 52 rfl) ?_
    refine mj_go_aload_n (k := 0) (x := 95) rfl (mj_dt dt_X9_bound 53 rfl) ?_
    obtain ⟨r2, er2, h⟩ := mj_bind_some h
    refine ml_callV (Y' := mY_X9_meanOf) (as := []) (rest := [.long (v1.toInt64)]) (c := 9) (v := (some (.long r2.1))) (M1 := (mj_fin r2.2)) ho_95 rfl lm_X9_263 wc_X9_meanOf pl_X9_meanOf ok_X9_meanOf rfl rfl (Nat.le_of_ble_eq_true rfl) (k_X9_meanOf (by omega) er2) (mj_dt dt_X9_bound 54 rfl) ?_
    refine mj_go_lmul (mj_dt dt_X9_bound 55 rfl) ?_
    obtain ⟨x3, ex3, h⟩ := mj_mw_some h
    refine ml_eql ex3 ?_
    refine mj_go_lstore_n (k := 3) (by decide) (mj_dt dt_X9_bound 56 rfl) ?_
    refine mj_go_iconst (v := 0) rfl (mj_dt dt_X9_bound 57 rfl) ?_
    refine mj_go_istore (i := 5) (by decide) (mj_dt dt_X9_bound 58 rfl) ?_
    refine mj_go_sub (lv' := [(0, .ref 95), (2, .int v2), (3, .long x3), (5, .int 0)]) (List.forall_mem_cons.mpr ⟨rfl, (List.forall_mem_cons.mpr ⟨rfl, (List.forall_mem_cons.mpr ⟨rfl, (List.forall_mem_cons.mpr ⟨rfl, (fun _ h9 => absurd h9 List.not_mem_nil)⟩)⟩)⟩)⟩) ?_
    exact k_X9_bound_93 hδ N _ _ h
  · rw [if_neg b1] at h
    refine mj_go_aload_n (k := 0) (x := 95) rfl (mj_dt dt_X9_bound 37 rfl) ?_
    refine ml_getR (c := 9) (k := 23) (q := 108) fd_9_23 rf_95_23 (Or.inl fl_X9_62) ho_95 (mj_dt dt_X9_bound 38 rfl) ?_
    refine mj_go_iload_n (k := 3) (x := s.1) rfl (mj_dt dt_X9_bound 39 rfl) ?_
    refine mj_go_dup2_11 rfl rfl (mj_dt dt_X9_bound 40 rfl) ?_
    obtain ⟨c2, h⟩ := mj_ck_some h
    refine mk_iald c2 (mj_dt dt_X9_bound 41 rfl) ?_
    refine mj_go_iload_n (k := 2) (x := v2) rfl (mj_dt dt_X9_bound 42 rfl) ?_
    refine mj_go_iload_n (k := 3) (x := s.1) rfl (mj_dt dt_X9_bound 43 rfl) ?_
    refine mj_go_ishr (mj_dt dt_X9_bound 44 rfl) ?_
    refine mj_go_iconst (v := 1) rfl (mj_dt dt_X9_bound 45 rfl) ?_
    refine mj_go_iand (mj_dt dt_X9_bound 46 rfl) ?_
    refine mj_go_iadd (mj_dt dt_X9_bound 47 rfl) ?_
    obtain ⟨m3, em3, h⟩ := mj_mw_some h
    refine ml_iast c2 (mj_dt dt_X9_bound 48 rfl) ?_
    refine ml_eqm (M1 := (mj_fin m3)) (by rw [em3] <;> rfl) ?_
    obtain ⟨x4, ex4, h⟩ := mj_mw_some h
    refine mj_go_iinc (i := 3) (x := s.1) (v := x4) rfl (by rw [ex4] <;> rfl) (by decide) (mj_dt dt_X9_bound 49 rfl) ?_
    refine mj_go_goto (tgt := 54) rfl (mj_dt dt_X9_bound 50 rfl) ?_
    refine mj_go_sub (lv' := [(0, .ref 95), (1, .int v1), (2, .int v2), (3, .int x4)]) (List.forall_mem_cons.mpr ⟨rfl, (List.forall_mem_cons.mpr ⟨rfl, (List.forall_mem_cons.mpr ⟨rfl, (List.forall_mem_cons.mpr ⟨rfl, (fun _ h9 => absurd h9 List.not_mem_nil)⟩)⟩)⟩)⟩) ?_
    exact q_54 _ _ h
def f_X9_bound_46 (N : Nat) (k_20 : Int32 × Int32 → Option (Int64 × mj_m)) (v1 : Int32) (v2 : Int32) (v3 : Int32) (m : mj_m) : Option (Int64 × mj_m) := mj_mw (v3 + 1) (fun x1 => k_20 (v2, x1))
theorem k_X9_bound_46 {L : Nat} {xs : Nat → Int32} {δ N : Nat} {v1 : Int32} {v2 : Int32} {v3 : Int32} {m : mj_m} {k_20 : Int32 × Int32 → Option (Int64 × mj_m)} (q_20 : ∀ (s_ : Int32 × Int32) (a_ : Int64 × mj_m), k_20 s_ = some a_ → mj_Go (mj_EX L xs) (δ + 1) mY_X9_bound 20 [(0, .ref 95), (1, .int v1), (2, .int s_.1), (3, .int s_.2)] [] (mj_fin m) (some (.long a_.1), (mj_fin a_.2))) (hδ : 4 ≤ δ) {a : Int64 × mj_m} (h : f_X9_bound_46 N k_20 v1 v2 v3 m = some a) : mj_Go (mj_EX L xs) (δ + 1) mY_X9_bound 46 [(0, .ref 95), (1, .int v1), (2, .int v2), (3, .int v3)] [] (mj_fin m) (some (.long a.1), (mj_fin a.2)) := by
  unfold f_X9_bound_46 at h
  obtain ⟨x1, ex1, h⟩ := mj_mw_some h
  refine mj_go_iinc (i := 3) (x := v3) (v := x1) rfl (by rw [ex1] <;> rfl) (by decide) (mj_dt dt_X9_bound 29 rfl) ?_
  refine mj_go_goto (tgt := 20) rfl (mj_dt dt_X9_bound 30 rfl) ?_
  refine mj_go_sub (lv' := [(0, .ref 95), (1, .int v1), (2, .int v2), (3, .int x1)]) (List.forall_mem_cons.mpr ⟨rfl, (List.forall_mem_cons.mpr ⟨rfl, (List.forall_mem_cons.mpr ⟨rfl, (List.forall_mem_cons.mpr ⟨rfl, (fun _ h9 => absurd h9 List.not_mem_nil)⟩)⟩)⟩)⟩) ?_
  exact q_20 _ _ h
def f_X9_bound_20 (N : Nat) (v1 : Int32) (m : mj_m) (k_20 : Int32 × Int32 → Option (Int64 × mj_m)) (s : Int32 × Int32) : Option (Int64 × mj_m) := if (m.1 95 1) ≤ s.2 then (mj_lp N (f_X9_bound_54 N v1 s.1) (0, m)) else (mj_ck (mj_b 0 108 s.2) ( if (m.1 108 s.2.toNatClampNeg) ≤ 0 then (mj_mw (s.1 ||| (1 <<< (s.2 &&& 31))) (fun x4 => f_X9_bound_46 N k_20 v1 x4 s.2 m)) else (f_X9_bound_46 N k_20 v1 s.1 s.2 m)))
theorem k_X9_bound_20 {L : Nat} {xs : Nat → Int32} {δ N : Nat} {v1 : Int32} {m : mj_m} (hδ : 4 ≤ δ) : ∀ (n : Nat) (s : Int32 × Int32) (a : Int64 × mj_m), mj_lp n (f_X9_bound_20 N v1 m) s = some a → mj_Go (mj_EX L xs) (δ + 1) mY_X9_bound 20 [(0, .ref 95), (1, .int v1), (2, .int s.1), (3, .int s.2)] [] (mj_fin m) (some (.long a.1), (mj_fin a.2)) := by
  refine mj_lp_sound (fun k_20 s a q_20 h => ?_)
  unfold f_X9_bound_20 at h
  refine mj_go_iload_n (k := 3) (x := s.2) rfl (mj_dt dt_X9_bound 13 rfl) ?_
  refine mj_go_aload_n (k := 0) (x := 95) rfl (mj_dt dt_X9_bound 14 rfl) ?_
  refine mk_getI (c := 9) (k := 1) (Or.inl fd_9_1) (Or.inl fl_X9_124) ho_95 (mj_dt dt_X9_bound 15 rfl) ?_
  refine mj_go_icmp_ge (tgt := 52) rfl (mj_dt dt_X9_bound 16 rfl) (fun b1 => ?_) (fun b1 => ?_)
  · rw [if_pos b1] at h
    refine mj_go_iconst (v := 0) rfl (mj_dt dt_X9_bound 31 rfl) ?_
    refine mj_go_istore_n (k := 3) (by decide) (mj_dt dt_X9_bound 32 rfl) ?_
    refine mj_go_sub (lv' := [(0, .ref 95), (1, .int v1), (2, .int s.1), (3, .int 0)]) (List.forall_mem_cons.mpr ⟨rfl, (List.forall_mem_cons.mpr ⟨rfl, (List.forall_mem_cons.mpr ⟨rfl, (List.forall_mem_cons.mpr ⟨rfl, (fun _ h9 => absurd h9 List.not_mem_nil)⟩)⟩)⟩)⟩) ?_
    exact k_X9_bound_54 hδ N _ _ h
  · rw [if_neg b1] at h
    refine mj_go_aload_n (k := 0) (x := 95) rfl (mj_dt dt_X9_bound 17 rfl) ?_
    refine ml_getR (c := 9) (k := 23) (q := 108) fd_9_23 rf_95_23 (Or.inl fl_X9_62) ho_95 (mj_dt dt_X9_bound 18 rfl) ?_
    refine mj_go_iload_n (k := 3) (x := s.2) rfl (mj_dt dt_X9_bound 19 rfl) ?_
    obtain ⟨c2, h⟩ := mj_ck_some h
    refine mk_iald c2 (mj_dt dt_X9_bound 20 rfl) ?_
    refine mj_go_if_le (tgt := 40) rfl (mj_dt dt_X9_bound 21 rfl) (fun b3 => ?_) (fun b3 => ?_)
    · rw [if_pos b3] at h
      refine mj_go_iload_n (k := 2) (x := s.1) rfl (mj_dt dt_X9_bound 23 rfl) ?_
      refine mj_go_iconst (v := 1) rfl (mj_dt dt_X9_bound 24 rfl) ?_
      refine mj_go_iload_n (k := 3) (x := s.2) rfl (mj_dt dt_X9_bound 25 rfl) ?_
      refine mj_go_ishl (mj_dt dt_X9_bound 26 rfl) ?_
      refine mj_go_ior (mj_dt dt_X9_bound 27 rfl) ?_
      obtain ⟨x4, ex4, h⟩ := mj_mw_some h
      refine ml_eqi ex4 ?_
      refine mj_go_istore_n (k := 2) (by decide) (mj_dt dt_X9_bound 28 rfl) ?_
      refine mj_go_sub (lv' := [(0, .ref 95), (1, .int v1), (2, .int x4), (3, .int s.2)]) (List.forall_mem_cons.mpr ⟨rfl, (List.forall_mem_cons.mpr ⟨rfl, (List.forall_mem_cons.mpr ⟨rfl, (List.forall_mem_cons.mpr ⟨rfl, (fun _ h9 => absurd h9 List.not_mem_nil)⟩)⟩)⟩)⟩) ?_
      exact k_X9_bound_46 q_20 hδ h
    · rw [if_neg b3] at h
      refine mj_go_goto (tgt := 46) rfl (mj_dt dt_X9_bound 22 rfl) ?_
      refine mj_go_sub (lv' := [(0, .ref 95), (1, .int v1), (2, .int s.1), (3, .int s.2)]) (List.forall_mem_cons.mpr ⟨rfl, (List.forall_mem_cons.mpr ⟨rfl, (List.forall_mem_cons.mpr ⟨rfl, (List.forall_mem_cons.mpr ⟨rfl, (fun _ h9 => absurd h9 List.not_mem_nil)⟩)⟩)⟩)⟩) ?_
      exact k_X9_bound_46 q_20 hδ h
def f_X9_bound (N : Nat) (v1 : Int32) (m : mj_m) : Option (Int64 × mj_m) := (f_X9_isYears N v1 m).bind (fun r1 => if r1 = 0 then ((f_X9_no N (-6 : Int32) m).bind (fun r3 => some (r3.1.toInt64, r3.2))) else (mj_lp N (f_X9_bound_20 N v1 m) (0, 0)))
theorem k_X9_bound {L : Nat} {xs : Nat → Int32} {δ N : Nat} {v1 : Int32} {m : mj_m} (hδ : 5 ≤ δ) {a : Int64 × mj_m} (h : f_X9_bound N v1 m = some a) : mj_Cl (mj_EX L xs) δ mY_X9_bound [.ref 95, .int v1] (mj_fin m) (some (.long a.1), (mj_fin a.2)) := by
  obtain ⟨δ, rfl⟩ : ∃ d, δ = d + 1 := ⟨δ - 1, by omega⟩
  have hδ : 4 ≤ δ := by omega
  refine mj_cl_of ok_X9_bound (Nat.le_of_ble_eq_true rfl) ?_
  unfold f_X9_bound at h
  refine mj_go_aload_n (k := 0) (x := 95) rfl (mj_dt dt_X9_bound 0 rfl) ?_
  refine mj_go_iload_n (k := 1) (x := v1) rfl (mj_dt dt_X9_bound 1 rfl) ?_
  obtain ⟨r1, er1, h⟩ := mj_bind_some h
  refine ml_callV (Y' := mY_X9_isYears) (as := [.int v1]) (rest := []) (c := 9) (v := (some (.int r1))) (M1 := (mj_fin m)) ho_95 rfl lm_X9_296 wc_X9_isYears pl_X9_isYears ok_X9_isYears rfl rfl (Nat.le_of_ble_eq_true rfl) (k_X9_isYears (by omega) er1) (mj_dt dt_X9_bound 2 rfl) ?_
  refine mj_go_if_ne (tgt := 16) rfl (mj_dt dt_X9_bound 3 rfl) (fun b2 => ?_) (fun b2 => ?_)
  · rw [if_neg b2] at h
    refine mj_go_iconst (v := 0) rfl (mj_dt dt_X9_bound 9 rfl) ?_
    refine mj_go_istore_n (k := 2) (by decide) (mj_dt dt_X9_bound 10 rfl) ?_
    refine mj_go_iconst (v := 0) rfl (mj_dt dt_X9_bound 11 rfl) ?_
    refine mj_go_istore_n (k := 3) (by decide) (mj_dt dt_X9_bound 12 rfl) ?_
    refine mj_go_sub (lv' := [(0, .ref 95), (1, .int v1), (2, .int 0), (3, .int 0)]) (List.forall_mem_cons.mpr ⟨rfl, (List.forall_mem_cons.mpr ⟨rfl, (List.forall_mem_cons.mpr ⟨rfl, (List.forall_mem_cons.mpr ⟨rfl, (fun _ h9 => absurd h9 List.not_mem_nil)⟩)⟩)⟩)⟩) ?_
    exact k_X9_bound_20 hδ N _ _ h
  · rw [if_pos b2] at h
    refine mj_go_aload_n (k := 0) (x := 95) rfl (mj_dt dt_X9_bound 4 rfl) ?_
    refine mj_go_bipush (v := -6) rfl (mj_dt dt_X9_bound 5 rfl) ?_
    obtain ⟨r3, er3, h⟩ := mj_bind_some h
    refine ml_callV (Y' := mY_X9_no) (as := [.int (-6 : Int32)]) (rest := []) (c := 9) (v := (some (.int r3.1))) (M1 := (mj_fin r3.2)) ho_95 rfl lm_X9_134 wc_X9_no pl_X9_no ok_X9_no rfl rfl (Nat.le_of_ble_eq_true rfl) (k_X9_no (by omega) er3) (mj_dt dt_X9_bound 6 rfl) ?_
    refine mj_go_i2l (mj_dt dt_X9_bound 7 rfl) ?_
    obtain rfl := Option.some.inj h
    exact mj_go_ret (v := some (.long (r3.1.toInt64))) (Nat.le_of_ble_eq_true rfl) (mj_retL (mj_dt dt_X9_bound 8 rfl) rfl)
def f_X8_head_127 (N : Nat) (k_70 : Int32 × Int64 × Int32 × mj_m → Option (Int32 × mj_m)) (v1 : Int32) (v3 : Int32) (v4 : Int64) (v6 : Int32) (m : mj_m) : Option (Int32 × mj_m) := mj_mw (v6 + 1) (fun x1 => k_70 (v3, v4, x1, m))
theorem k_X8_head_127 {L : Nat} {xs : Nat → Int32} {δ N : Nat} {v1 : Int32} {v3 : Int32} {v4 : Int64} {v6 : Int32} {m : mj_m} {k_70 : Int32 × Int64 × Int32 × mj_m → Option (Int32 × mj_m)} (q_70 : ∀ (s_ : Int32 × Int64 × Int32 × mj_m) (a_ : Int32 × mj_m), k_70 s_ = some a_ → mj_Go (mj_EX L xs) (δ + 1) mY_X8_head 70 [(0, .ref 0), (1, .int v1), (3, .int s_.1), (4, .long s_.2.1), (6, .int s_.2.2.1)] [] (mj_fin s_.2.2.2) (some (.int a_.1), (mj_fin a_.2))) (hδ : 7 ≤ δ) {a : Int32 × mj_m} (h : f_X8_head_127 N k_70 v1 v3 v4 v6 m = some a) : mj_Go (mj_EX L xs) (δ + 1) mY_X8_head 127 [(0, .ref 0), (1, .int v1), (3, .int v3), (4, .long v4), (6, .int v6)] [] (mj_fin m) (some (.int a.1), (mj_fin a.2)) := by
  unfold f_X8_head_127 at h
  obtain ⟨x1, ex1, h⟩ := mj_mw_some h
  refine mj_go_iinc (i := 6) (x := v6) (v := x1) rfl (by rw [ex1] <;> rfl) (by decide) (mj_dt dt_X8_head 69 rfl) ?_
  refine mj_go_goto (tgt := 70) rfl (mj_dt dt_X8_head 70 rfl) ?_
  refine mj_go_sub (lv' := [(0, .ref 0), (1, .int v1), (3, .int v3), (4, .long v4), (6, .int x1)]) (List.forall_mem_cons.mpr ⟨rfl, (List.forall_mem_cons.mpr ⟨rfl, (List.forall_mem_cons.mpr ⟨rfl, (List.forall_mem_cons.mpr ⟨rfl, (List.forall_mem_cons.mpr ⟨rfl, (fun _ h9 => absurd h9 List.not_mem_nil)⟩)⟩)⟩)⟩)⟩) ?_
  exact q_70 _ _ h
def f_X8_head_120 (N : Nat) (k_70 : Int32 × Int64 × Int32 × mj_m → Option (Int32 × mj_m)) (v1 : Int32) (v6 : Int32) (v7 : Int64) (m : mj_m) : Option (Int32 × mj_m) := f_X8_head_127 N k_70 v1 v6 v7 v6 m
theorem k_X8_head_120 {L : Nat} {xs : Nat → Int32} {δ N : Nat} {v1 : Int32} {v6 : Int32} {v7 : Int64} {m : mj_m} {k_70 : Int32 × Int64 × Int32 × mj_m → Option (Int32 × mj_m)} (q_70 : ∀ (s_ : Int32 × Int64 × Int32 × mj_m) (a_ : Int32 × mj_m), k_70 s_ = some a_ → mj_Go (mj_EX L xs) (δ + 1) mY_X8_head 70 [(0, .ref 0), (1, .int v1), (3, .int s_.1), (4, .long s_.2.1), (6, .int s_.2.2.1)] [] (mj_fin s_.2.2.2) (some (.int a_.1), (mj_fin a_.2))) (hδ : 7 ≤ δ) {a : Int32 × mj_m} (h : f_X8_head_120 N k_70 v1 v6 v7 m = some a) : mj_Go (mj_EX L xs) (δ + 1) mY_X8_head 120 [(0, .ref 0), (1, .int v1), (6, .int v6), (7, .long v7)] [] (mj_fin m) (some (.int a.1), (mj_fin a.2)) := by
  unfold f_X8_head_120 at h
  refine mj_go_iload (i := 6) (x := v6) rfl (mj_dt dt_X8_head 65 rfl) ?_
  refine mj_go_istore_n (k := 3) (by decide) (mj_dt dt_X8_head 66 rfl) ?_
  refine mj_go_lload (i := 7) (x := v7) rfl (mj_dt dt_X8_head 67 rfl) ?_
  refine mj_go_lstore (i := 4) (by decide) (mj_dt dt_X8_head 68 rfl) ?_
  refine mj_go_sub (lv' := [(0, .ref 0), (1, .int v1), (3, .int v6), (4, .long v7), (6, .int v6)]) (List.forall_mem_cons.mpr ⟨rfl, (List.forall_mem_cons.mpr ⟨rfl, (List.forall_mem_cons.mpr ⟨rfl, (List.forall_mem_cons.mpr ⟨rfl, (List.forall_mem_cons.mpr ⟨rfl, (fun _ h9 => absurd h9 List.not_mem_nil)⟩)⟩)⟩)⟩)⟩) ?_
  exact k_X8_head_127 q_70 hδ h
def f_X8_head_70 (N : Nat) (v1 : Int32) (k_70 : Int32 × Int64 × Int32 × mj_m → Option (Int32 × mj_m)) (s : Int32 × Int64 × Int32 × mj_m) : Option (Int32 × mj_m) := if 8 ≤ s.2.2.1 then (some (s.1, s.2.2.2)) else (mj_ck (mj_b 3 35 s.2.2.1) ( (f_X6_isRule N (79 + 2 * s.2.2.1.toNatClampNeg) s.2.2.2).bind (fun r3 => if r3 = 0 then f_X8_head_127 N k_70 v1 s.1 s.2.1 s.2.2.1 s.2.2.2 else ((f_X4_lossByRule N (79 + 2 * s.2.2.1.toNatClampNeg) v1 s.2.2.2).bind (fun r5 => if s.1 = (-1 : Int32) then f_X8_head_120 N k_70 v1 s.2.2.1 r5.1 r5.2 else (if 0 ≤ (lg_cmp r5.1 s.2.1) then f_X8_head_127 N k_70 v1 s.1 s.2.1 s.2.2.1 r5.2 else f_X8_head_120 N k_70 v1 s.2.2.1 r5.1 r5.2))))))
theorem k_X8_head_70 {L : Nat} {xs : Nat → Int32} {δ N : Nat} {v1 : Int32} (hδ : 7 ≤ δ) : ∀ (n : Nat) (s : Int32 × Int64 × Int32 × mj_m) (a : Int32 × mj_m), mj_lp n (f_X8_head_70 N v1) s = some a → mj_Go (mj_EX L xs) (δ + 1) mY_X8_head 70 [(0, .ref 0), (1, .int v1), (3, .int s.1), (4, .long s.2.1), (6, .int s.2.2.1)] [] (mj_fin s.2.2.2) (some (.int a.1), (mj_fin a.2)) := by
  refine mj_lp_sound (fun k_70 s a q_70 h => ?_)
  unfold f_X8_head_70 at h
  refine mj_go_iload (i := 6) (x := s.2.2.1) rfl (mj_dt dt_X8_head 40 rfl) ?_
  refine mj_go_bipush (v := 8) rfl (mj_dt dt_X8_head 41 rfl) ?_
  refine mj_go_icmp_ge (tgt := 133) rfl (mj_dt dt_X8_head 42 rfl) (fun b1 => ?_) (fun b1 => ?_)
  · rw [if_pos b1] at h
    refine mj_go_iload_n (k := 3) (x := s.1) rfl (mj_dt dt_X8_head 71 rfl) ?_
    obtain rfl := Option.some.inj h
    exact mj_go_ret (v := some (.int s.1)) (Nat.le_of_ble_eq_true rfl) (mj_retI (mj_dt dt_X8_head 72 rfl) rfl)
  · rw [if_neg b1] at h
    refine mj_go_aload_n (k := 0) (x := 0) rfl (mj_dt dt_X8_head 43 rfl) ?_
    refine ml_getR (c := 8) (k := 2) (q := 35) fd_8_2 rf_0_2 (Or.inl fl_X8_21) ho_0 (mj_dt dt_X8_head 44 rfl) ?_
    refine mj_go_iload (i := 6) (x := s.2.2.1) rfl (mj_dt dt_X8_head 45 rfl) ?_
    obtain ⟨c2, h⟩ := mj_ck_some h
    refine ml_aald3 (q := 79 + 2 * s.2.2.1.toNatClampNeg) c2 (mj_hs35 c2).1 (mj_dt dt_X8_head 46 rfl) ?_
    obtain ⟨r3, er3, h⟩ := mj_bind_some h
    refine ml_callV (Y' := mY_X6_isRule) (as := []) (rest := []) (c := 6) (v := (some (.int r3))) (M1 := (mj_fin s.2.2.2)) (mj_hs35 c2).2 rfl lm_X8_104 wc_X6_isRule pl_X6_isRule ok_X6_isRule rfl rfl (Nat.le_of_ble_eq_true rfl) (k_X6_isRule (by omega) er3) (mj_dt dt_X8_head 47 rfl) ?_
    refine mj_go_if_eq (tgt := 127) rfl (mj_dt dt_X8_head 48 rfl) (fun b4 => ?_) (fun b4 => ?_)
    · rw [if_pos b4] at h
      refine mj_go_sub (lv' := [(0, .ref 0), (1, .int v1), (3, .int s.1), (4, .long s.2.1), (6, .int s.2.2.1)]) (List.forall_mem_cons.mpr ⟨rfl, (List.forall_mem_cons.mpr ⟨rfl, (List.forall_mem_cons.mpr ⟨rfl, (List.forall_mem_cons.mpr ⟨rfl, (List.forall_mem_cons.mpr ⟨rfl, (fun _ h9 => absurd h9 List.not_mem_nil)⟩)⟩)⟩)⟩)⟩) ?_
      exact k_X8_head_127 q_70 hδ h
    · rw [if_neg b4] at h
      refine mj_go_aload_n (k := 0) (x := 0) rfl (mj_dt dt_X8_head 49 rfl) ?_
      refine ml_getR (c := 8) (k := 5) (q := 48) fd_8_5 rf_0_5 (Or.inl fl_X8_48) ho_0 (mj_dt dt_X8_head 50 rfl) ?_
      refine mj_go_aload_n (k := 0) (x := 0) rfl (mj_dt dt_X8_head 51 rfl) ?_
      refine ml_getR (c := 8) (k := 2) (q := 35) fd_8_2 rf_0_2 (Or.inl fl_X8_21) ho_0 (mj_dt dt_X8_head 52 rfl) ?_
      refine mj_go_iload (i := 6) (x := s.2.2.1) rfl (mj_dt dt_X8_head 53 rfl) ?_
      refine ml_aald3 (q := 79 + 2 * s.2.2.1.toNatClampNeg) c2 (mj_hs35 c2).1 (mj_dt dt_X8_head 54 rfl) ?_
      refine mj_go_iload_n (k := 1) (x := v1) rfl (mj_dt dt_X8_head 55 rfl) ?_
      obtain ⟨r5, er5, h⟩ := mj_bind_some h
      refine ml_callV (Y' := mY_X4_lossByRule) (as := [.ref (79 + 2 * s.2.2.1.toNatClampNeg), .int v1]) (rest := []) (c := 4) (v := (some (.long r5.1))) (M1 := (mj_fin r5.2)) ho_48 rfl lm_X8_303 wc_X4_lossByRule pl_X4_lossByRule ok_X4_lossByRule rfl rfl (Nat.le_of_ble_eq_true rfl) (k_X4_lossByRule (by omega) er5) (mj_dt dt_X8_head 56 rfl) ?_
      refine mj_go_lstore (i := 7) (by decide) (mj_dt dt_X8_head 57 rfl) ?_
      refine mj_go_iload_n (k := 3) (x := s.1) rfl (mj_dt dt_X8_head 58 rfl) ?_
      refine mj_go_iconst (v := -1) rfl (mj_dt dt_X8_head 59 rfl) ?_
      refine mj_go_icmp_eq (tgt := 120) rfl (mj_dt dt_X8_head 60 rfl) (fun b6 => ?_) (fun b6 => ?_)
      · rw [if_pos b6] at h
        refine mj_go_sub (lv' := [(0, .ref 0), (1, .int v1), (6, .int s.2.2.1), (7, .long r5.1)]) (List.forall_mem_cons.mpr ⟨rfl, (List.forall_mem_cons.mpr ⟨rfl, (List.forall_mem_cons.mpr ⟨rfl, (List.forall_mem_cons.mpr ⟨rfl, (fun _ h9 => absurd h9 List.not_mem_nil)⟩)⟩)⟩)⟩) ?_
        exact k_X8_head_120 q_70 hδ h
      · rw [if_neg b6] at h
        refine mj_go_lload (i := 7) (x := r5.1) rfl (mj_dt dt_X8_head 61 rfl) ?_
        refine mj_go_lload (i := 4) (x := s.2.1) rfl (mj_dt dt_X8_head 62 rfl) ?_
        refine mj_go_lcmp (mj_dt dt_X8_head 63 rfl) ?_
        refine mj_go_if_ge (tgt := 127) rfl (mj_dt dt_X8_head 64 rfl) (fun b7 => ?_) (fun b7 => ?_)
        · rw [if_pos b7] at h
          refine mj_go_sub (lv' := [(0, .ref 0), (1, .int v1), (3, .int s.1), (4, .long s.2.1), (6, .int s.2.2.1)]) (List.forall_mem_cons.mpr ⟨rfl, (List.forall_mem_cons.mpr ⟨rfl, (List.forall_mem_cons.mpr ⟨rfl, (List.forall_mem_cons.mpr ⟨rfl, (List.forall_mem_cons.mpr ⟨rfl, (fun _ h9 => absurd h9 List.not_mem_nil)⟩)⟩)⟩)⟩)⟩) ?_
          exact k_X8_head_127 q_70 hδ h
        · rw [if_neg b7] at h
          refine mj_go_sub (lv' := [(0, .ref 0), (1, .int v1), (6, .int s.2.2.1), (7, .long r5.1)]) (List.forall_mem_cons.mpr ⟨rfl, (List.forall_mem_cons.mpr ⟨rfl, (List.forall_mem_cons.mpr ⟨rfl, (List.forall_mem_cons.mpr ⟨rfl, (fun _ h9 => absurd h9 List.not_mem_nil)⟩)⟩)⟩)⟩) ?_
          exact k_X8_head_120 q_70 hδ h
def f_X8_head_31 (N : Nat) (k_4 : Int32 × Int32 → Option (Int32 × mj_m)) (v1 : Int32) (v3 : Int32) (s0 : Int32) (m : mj_m) : Option (Int32 × mj_m) := mj_mw (v3 + 1) (fun x1 => k_4 (s0, x1))
theorem k_X8_head_31 {L : Nat} {xs : Nat → Int32} {δ N : Nat} {v1 : Int32} {v3 : Int32} {s0 : Int32} {m : mj_m} {k_4 : Int32 × Int32 → Option (Int32 × mj_m)} (q_4 : ∀ (s_ : Int32 × Int32) (a_ : Int32 × mj_m), k_4 s_ = some a_ → mj_Go (mj_EX L xs) (δ + 1) mY_X8_head 4 [(0, .ref 0), (1, .int v1), (2, .int s_.1), (3, .int s_.2)] [] (mj_fin m) (some (.int a_.1), (mj_fin a_.2))) (hδ : 7 ≤ δ) {a : Int32 × mj_m} (h : f_X8_head_31 N k_4 v1 v3 s0 m = some a) : mj_Go (mj_EX L xs) (δ + 1) mY_X8_head 31 [(0, .ref 0), (1, .int v1), (3, .int v3)] [.int s0] (mj_fin m) (some (.int a.1), (mj_fin a.2)) := by
  unfold f_X8_head_31 at h
  refine mj_go_istore_n (k := 2) (by decide) (mj_dt dt_X8_head 18 rfl) ?_
  obtain ⟨x1, ex1, h⟩ := mj_mw_some h
  refine mj_go_iinc (i := 3) (x := v3) (v := x1) rfl (by rw [ex1] <;> rfl) (by decide) (mj_dt dt_X8_head 19 rfl) ?_
  refine mj_go_goto (tgt := 4) rfl (mj_dt dt_X8_head 20 rfl) ?_
  refine mj_go_sub (lv' := [(0, .ref 0), (1, .int v1), (2, .int s0), (3, .int x1)]) (List.forall_mem_cons.mpr ⟨rfl, (List.forall_mem_cons.mpr ⟨rfl, (List.forall_mem_cons.mpr ⟨rfl, (List.forall_mem_cons.mpr ⟨rfl, (fun _ h9 => absurd h9 List.not_mem_nil)⟩)⟩)⟩)⟩) ?_
  exact q_4 _ _ h
def f_X8_head_26 (N : Nat) (k_4 : Int32 × Int32 → Option (Int32 × mj_m)) (v1 : Int32) (v3 : Int32) (m : mj_m) : Option (Int32 × mj_m) := f_X8_head_31 N k_4 v1 v3 1 m
theorem k_X8_head_26 {L : Nat} {xs : Nat → Int32} {δ N : Nat} {v1 : Int32} {v3 : Int32} {m : mj_m} {k_4 : Int32 × Int32 → Option (Int32 × mj_m)} (q_4 : ∀ (s_ : Int32 × Int32) (a_ : Int32 × mj_m), k_4 s_ = some a_ → mj_Go (mj_EX L xs) (δ + 1) mY_X8_head 4 [(0, .ref 0), (1, .int v1), (2, .int s_.1), (3, .int s_.2)] [] (mj_fin m) (some (.int a_.1), (mj_fin a_.2))) (hδ : 7 ≤ δ) {a : Int32 × mj_m} (h : f_X8_head_26 N k_4 v1 v3 m = some a) : mj_Go (mj_EX L xs) (δ + 1) mY_X8_head 26 [(0, .ref 0), (1, .int v1), (3, .int v3)] [] (mj_fin m) (some (.int a.1), (mj_fin a.2)) := by
  unfold f_X8_head_26 at h
  refine mj_go_iconst (v := 1) rfl (mj_dt dt_X8_head 15 rfl) ?_
  refine mj_go_goto (tgt := 31) rfl (mj_dt dt_X8_head 16 rfl) ?_
  refine mj_go_sub (lv' := [(0, .ref 0), (1, .int v1), (3, .int v3)]) (List.forall_mem_cons.mpr ⟨rfl, (List.forall_mem_cons.mpr ⟨rfl, (List.forall_mem_cons.mpr ⟨rfl, (fun _ h9 => absurd h9 List.not_mem_nil)⟩)⟩)⟩) ?_
  exact k_X8_head_31 q_4 hδ h
def f_X8_head_4 (N : Nat) (v1 : Int32) (m : mj_m) (k_4 : Int32 × Int32 → Option (Int32 × mj_m)) (s : Int32 × Int32) : Option (Int32 × mj_m) := if 8 ≤ s.2 then (if s.1 = 0 then ((f_X8_refuse N 5 m).bind (fun r3 => some (r3.1, r3.2))) else ((f_X8_areYears N v1 m).bind (fun r3 => if r3 = 0 then ((f_X8_refuse N 6 m).bind (fun r5 => some (r5.1, r5.2))) else (mj_lp N (f_X8_head_70 N v1) ((-1 : Int32), 0, 0, m))))) else (if s.1 = 0 then (mj_ck (mj_b 3 35 s.2) ( (f_X6_isRule N (79 + 2 * s.2.toNatClampNeg) m).bind (fun r4 => if r4 = 0 then (f_X8_head_31 N k_4 v1 s.2 0 m) else f_X8_head_26 N k_4 v1 s.2 m))) else f_X8_head_26 N k_4 v1 s.2 m)
theorem k_X8_head_4 {L : Nat} {xs : Nat → Int32} {δ N : Nat} {v1 : Int32} {m : mj_m} (hδ : 7 ≤ δ) : ∀ (n : Nat) (s : Int32 × Int32) (a : Int32 × mj_m), mj_lp n (f_X8_head_4 N v1 m) s = some a → mj_Go (mj_EX L xs) (δ + 1) mY_X8_head 4 [(0, .ref 0), (1, .int v1), (2, .int s.1), (3, .int s.2)] [] (mj_fin m) (some (.int a.1), (mj_fin a.2)) := by
  refine mj_lp_sound (fun k_4 s a q_4 h => ?_)
  unfold f_X8_head_4 at h
  refine mj_go_iload_n (k := 3) (x := s.2) rfl (mj_dt dt_X8_head 4 rfl) ?_
  refine mj_go_bipush (v := 8) rfl (mj_dt dt_X8_head 5 rfl) ?_
  refine mj_go_icmp_ge (tgt := 38) rfl (mj_dt dt_X8_head 6 rfl) (fun b1 => ?_) (fun b1 => ?_)
  · rw [if_pos b1] at h
    refine mj_go_iload_n (k := 2) (x := s.1) rfl (mj_dt dt_X8_head 21 rfl) ?_
    refine mj_go_if_ne (tgt := 48) rfl (mj_dt dt_X8_head 22 rfl) (fun b2 => ?_) (fun b2 => ?_)
    · rw [if_neg b2] at h
      refine mj_go_iload_n (k := 1) (x := v1) rfl (mj_dt dt_X8_head 27 rfl) ?_
      obtain ⟨r3, er3, h⟩ := mj_bind_some h
      refine ml_callS (Y' := mY_X8_areYears) (as := [.int v1]) (rest := []) (v := (some (.int r3))) (M1 := (mj_fin m)) lm_X8_311 wc_X8_areYears pl_X8_areYears ok_X8_areYears rfl rfl (Nat.le_of_ble_eq_true rfl) (k_X8_areYears (by omega) er3) (mj_dt dt_X8_head 28 rfl) ?_
      refine mj_go_if_ne (tgt := 62) rfl (mj_dt dt_X8_head 29 rfl) (fun b4 => ?_) (fun b4 => ?_)
      · rw [if_neg b4] at h
        refine mj_go_iconst (v := -1) rfl (mj_dt dt_X8_head 34 rfl) ?_
        refine mj_go_istore_n (k := 3) (by decide) (mj_dt dt_X8_head 35 rfl) ?_
        refine mj_go_lconst (v := 0) rfl (mj_dt dt_X8_head 36 rfl) ?_
        refine mj_go_lstore (i := 4) (by decide) (mj_dt dt_X8_head 37 rfl) ?_
        refine mj_go_iconst (v := 0) rfl (mj_dt dt_X8_head 38 rfl) ?_
        refine mj_go_istore (i := 6) (by decide) (mj_dt dt_X8_head 39 rfl) ?_
        refine mj_go_sub (lv' := [(0, .ref 0), (1, .int v1), (3, .int (-1 : Int32)), (4, .long 0), (6, .int 0)]) (List.forall_mem_cons.mpr ⟨rfl, (List.forall_mem_cons.mpr ⟨rfl, (List.forall_mem_cons.mpr ⟨rfl, (List.forall_mem_cons.mpr ⟨rfl, (List.forall_mem_cons.mpr ⟨rfl, (fun _ h9 => absurd h9 List.not_mem_nil)⟩)⟩)⟩)⟩)⟩) ?_
        exact k_X8_head_70 hδ N _ _ h
      · rw [if_pos b4] at h
        refine mj_go_aload_n (k := 0) (x := 0) rfl (mj_dt dt_X8_head 30 rfl) ?_
        refine mj_go_bipush (v := 6) rfl (mj_dt dt_X8_head 31 rfl) ?_
        obtain ⟨r5, er5, h⟩ := mj_bind_some h
        refine ml_callV (Y' := mY_X8_refuse) (as := [.int 6]) (rest := []) (c := 8) (v := (some (.int r5.1))) (M1 := (mj_fin r5.2)) ho_0 rfl lm_X8_86 wc_X8_refuse pl_X8_refuse ok_X8_refuse rfl rfl (Nat.le_of_ble_eq_true rfl) (k_X8_refuse (by omega) er5) (mj_dt dt_X8_head 32 rfl) ?_
        obtain rfl := Option.some.inj h
        exact mj_go_ret (v := some (.int r5.1)) (Nat.le_of_ble_eq_true rfl) (mj_retI (mj_dt dt_X8_head 33 rfl) rfl)
    · rw [if_pos b2] at h
      refine mj_go_aload_n (k := 0) (x := 0) rfl (mj_dt dt_X8_head 23 rfl) ?_
      refine mj_go_iconst (v := 5) rfl (mj_dt dt_X8_head 24 rfl) ?_
      obtain ⟨r3, er3, h⟩ := mj_bind_some h
      refine ml_callV (Y' := mY_X8_refuse) (as := [.int 5]) (rest := []) (c := 8) (v := (some (.int r3.1))) (M1 := (mj_fin r3.2)) ho_0 rfl lm_X8_86 wc_X8_refuse pl_X8_refuse ok_X8_refuse rfl rfl (Nat.le_of_ble_eq_true rfl) (k_X8_refuse (by omega) er3) (mj_dt dt_X8_head 25 rfl) ?_
      obtain rfl := Option.some.inj h
      exact mj_go_ret (v := some (.int r3.1)) (Nat.le_of_ble_eq_true rfl) (mj_retI (mj_dt dt_X8_head 26 rfl) rfl)
  · rw [if_neg b1] at h
    refine mj_go_iload_n (k := 2) (x := s.1) rfl (mj_dt dt_X8_head 7 rfl) ?_
    refine mj_go_if_ne (tgt := 26) rfl (mj_dt dt_X8_head 8 rfl) (fun b2 => ?_) (fun b2 => ?_)
    · rw [if_neg b2] at h
      refine mj_go_sub (lv' := [(0, .ref 0), (1, .int v1), (3, .int s.2)]) (List.forall_mem_cons.mpr ⟨rfl, (List.forall_mem_cons.mpr ⟨rfl, (List.forall_mem_cons.mpr ⟨rfl, (fun _ h9 => absurd h9 List.not_mem_nil)⟩)⟩)⟩) ?_
      exact k_X8_head_26 q_4 hδ h
    · rw [if_pos b2] at h
      refine mj_go_aload_n (k := 0) (x := 0) rfl (mj_dt dt_X8_head 9 rfl) ?_
      refine ml_getR (c := 8) (k := 2) (q := 35) fd_8_2 rf_0_2 (Or.inl fl_X8_21) ho_0 (mj_dt dt_X8_head 10 rfl) ?_
      refine mj_go_iload_n (k := 3) (x := s.2) rfl (mj_dt dt_X8_head 11 rfl) ?_
      obtain ⟨c3, h⟩ := mj_ck_some h
      refine ml_aald3 (q := 79 + 2 * s.2.toNatClampNeg) c3 (mj_hs35 c3).1 (mj_dt dt_X8_head 12 rfl) ?_
      obtain ⟨r4, er4, h⟩ := mj_bind_some h
      refine ml_callV (Y' := mY_X6_isRule) (as := []) (rest := []) (c := 6) (v := (some (.int r4))) (M1 := (mj_fin m)) (mj_hs35 c3).2 rfl lm_X8_104 wc_X6_isRule pl_X6_isRule ok_X6_isRule rfl rfl (Nat.le_of_ble_eq_true rfl) (k_X6_isRule (by omega) er4) (mj_dt dt_X8_head 13 rfl) ?_
      refine mj_go_if_eq (tgt := 30) rfl (mj_dt dt_X8_head 14 rfl) (fun b5 => ?_) (fun b5 => ?_)
      · rw [if_pos b5] at h
        refine mj_go_iconst (v := 0) rfl (mj_dt dt_X8_head 17 rfl) ?_
        refine mj_go_sub (lv' := [(0, .ref 0), (1, .int v1), (3, .int s.2)]) (List.forall_mem_cons.mpr ⟨rfl, (List.forall_mem_cons.mpr ⟨rfl, (List.forall_mem_cons.mpr ⟨rfl, (fun _ h9 => absurd h9 List.not_mem_nil)⟩)⟩)⟩) ?_
        exact k_X8_head_31 q_4 hδ h
      · rw [if_neg b5] at h
        refine mj_go_sub (lv' := [(0, .ref 0), (1, .int v1), (3, .int s.2)]) (List.forall_mem_cons.mpr ⟨rfl, (List.forall_mem_cons.mpr ⟨rfl, (List.forall_mem_cons.mpr ⟨rfl, (fun _ h9 => absurd h9 List.not_mem_nil)⟩)⟩)⟩) ?_
        exact k_X8_head_26 q_4 hδ h
def f_X8_head (N : Nat) (v1 : Int32) (m : mj_m) : Option (Int32 × mj_m) := mj_lp N (f_X8_head_4 N v1 m) (0, 0)
theorem k_X8_head {L : Nat} {xs : Nat → Int32} {δ N : Nat} {v1 : Int32} {m : mj_m} (hδ : 8 ≤ δ) {a : Int32 × mj_m} (h : f_X8_head N v1 m = some a) : mj_Cl (mj_EX L xs) δ mY_X8_head [.ref 0, .int v1] (mj_fin m) (some (.int a.1), (mj_fin a.2)) := by
  obtain ⟨δ, rfl⟩ : ∃ d, δ = d + 1 := ⟨δ - 1, by omega⟩
  have hδ : 7 ≤ δ := by omega
  refine mj_cl_of ok_X8_head (Nat.le_of_ble_eq_true rfl) ?_
  unfold f_X8_head at h
  refine mj_go_iconst (v := 0) rfl (mj_dt dt_X8_head 0 rfl) ?_
  refine mj_go_istore_n (k := 2) (by decide) (mj_dt dt_X8_head 1 rfl) ?_
  refine mj_go_iconst (v := 0) rfl (mj_dt dt_X8_head 2 rfl) ?_
  refine mj_go_istore_n (k := 3) (by decide) (mj_dt dt_X8_head 3 rfl) ?_
  refine mj_go_sub (lv' := [(0, .ref 0), (1, .int v1), (2, .int 0), (3, .int 0)]) (List.forall_mem_cons.mpr ⟨rfl, (List.forall_mem_cons.mpr ⟨rfl, (List.forall_mem_cons.mpr ⟨rfl, (List.forall_mem_cons.mpr ⟨rfl, (fun _ h9 => absurd h9 List.not_mem_nil)⟩)⟩)⟩)⟩) ?_
  exact k_X8_head_4 hδ N _ _ h
def f_X9_head_131 (N : Nat) (k_76 : Int32 × Int64 × Int32 × mj_m → Option (Int32 × mj_m)) (v1 : Int32) (v2 : Int32) (v3 : Int64) (v6 : Int32) (m : mj_m) : Option (Int32 × mj_m) := mj_mw (v6 + 1) (fun x1 => k_76 (v2, v3, x1, m))
theorem k_X9_head_131 {L : Nat} {xs : Nat → Int32} {δ N : Nat} {v1 : Int32} {v2 : Int32} {v3 : Int64} {v6 : Int32} {m : mj_m} {k_76 : Int32 × Int64 × Int32 × mj_m → Option (Int32 × mj_m)} (q_76 : ∀ (s_ : Int32 × Int64 × Int32 × mj_m) (a_ : Int32 × mj_m), k_76 s_ = some a_ → mj_Go (mj_EX L xs) (δ + 1) mY_X9_head 76 [(0, .ref 95), (1, .int v1), (2, .int s_.1), (3, .long s_.2.1), (6, .int s_.2.2.1)] [] (mj_fin s_.2.2.2) (some (.int a_.1), (mj_fin a_.2))) (hδ : 6 ≤ δ) {a : Int32 × mj_m} (h : f_X9_head_131 N k_76 v1 v2 v3 v6 m = some a) : mj_Go (mj_EX L xs) (δ + 1) mY_X9_head 131 [(0, .ref 95), (1, .int v1), (2, .int v2), (3, .long v3), (6, .int v6)] [] (mj_fin m) (some (.int a.1), (mj_fin a.2)) := by
  unfold f_X9_head_131 at h
  obtain ⟨x1, ex1, h⟩ := mj_mw_some h
  refine mj_go_iinc (i := 6) (x := v6) (v := x1) rfl (by rw [ex1] <;> rfl) (by decide) (mj_dt dt_X9_head 70 rfl) ?_
  refine mj_go_goto (tgt := 76) rfl (mj_dt dt_X9_head 71 rfl) ?_
  refine mj_go_sub (lv' := [(0, .ref 95), (1, .int v1), (2, .int v2), (3, .long v3), (6, .int x1)]) (List.forall_mem_cons.mpr ⟨rfl, (List.forall_mem_cons.mpr ⟨rfl, (List.forall_mem_cons.mpr ⟨rfl, (List.forall_mem_cons.mpr ⟨rfl, (List.forall_mem_cons.mpr ⟨rfl, (fun _ h9 => absurd h9 List.not_mem_nil)⟩)⟩)⟩)⟩)⟩) ?_
  exact q_76 _ _ h
def f_X9_head_125 (N : Nat) (k_76 : Int32 × Int64 × Int32 × mj_m → Option (Int32 × mj_m)) (v1 : Int32) (v6 : Int32) (v7 : Int64) (m : mj_m) : Option (Int32 × mj_m) := f_X9_head_131 N k_76 v1 v6 v7 v6 m
theorem k_X9_head_125 {L : Nat} {xs : Nat → Int32} {δ N : Nat} {v1 : Int32} {v6 : Int32} {v7 : Int64} {m : mj_m} {k_76 : Int32 × Int64 × Int32 × mj_m → Option (Int32 × mj_m)} (q_76 : ∀ (s_ : Int32 × Int64 × Int32 × mj_m) (a_ : Int32 × mj_m), k_76 s_ = some a_ → mj_Go (mj_EX L xs) (δ + 1) mY_X9_head 76 [(0, .ref 95), (1, .int v1), (2, .int s_.1), (3, .long s_.2.1), (6, .int s_.2.2.1)] [] (mj_fin s_.2.2.2) (some (.int a_.1), (mj_fin a_.2))) (hδ : 6 ≤ δ) {a : Int32 × mj_m} (h : f_X9_head_125 N k_76 v1 v6 v7 m = some a) : mj_Go (mj_EX L xs) (δ + 1) mY_X9_head 125 [(0, .ref 95), (1, .int v1), (6, .int v6), (7, .long v7)] [] (mj_fin m) (some (.int a.1), (mj_fin a.2)) := by
  unfold f_X9_head_125 at h
  refine mj_go_iload (i := 6) (x := v6) rfl (mj_dt dt_X9_head 66 rfl) ?_
  refine mj_go_istore_n (k := 2) (by decide) (mj_dt dt_X9_head 67 rfl) ?_
  refine mj_go_lload (i := 7) (x := v7) rfl (mj_dt dt_X9_head 68 rfl) ?_
  refine mj_go_lstore_n (k := 3) (by decide) (mj_dt dt_X9_head 69 rfl) ?_
  refine mj_go_sub (lv' := [(0, .ref 95), (1, .int v1), (2, .int v6), (3, .long v7), (6, .int v6)]) (List.forall_mem_cons.mpr ⟨rfl, (List.forall_mem_cons.mpr ⟨rfl, (List.forall_mem_cons.mpr ⟨rfl, (List.forall_mem_cons.mpr ⟨rfl, (List.forall_mem_cons.mpr ⟨rfl, (fun _ h9 => absurd h9 List.not_mem_nil)⟩)⟩)⟩)⟩)⟩) ?_
  exact k_X9_head_131 q_76 hδ h
def f_X9_head_76 (N : Nat) (v1 : Int32) (k_76 : Int32 × Int64 × Int32 × mj_m → Option (Int32 × mj_m)) (s : Int32 × Int64 × Int32 × mj_m) : Option (Int32 × mj_m) := if 8 ≤ s.2.2.1 then (some (s.1, s.2.2.2)) else (mj_ck (mj_b 0 110 s.2.2.1) ( if (s.2.2.2.1 110 s.2.2.1.toNatClampNeg) = 2 then ((f_X9_rowBy N s.2.2.1 s.2.2.2).bind (fun r4 => (f_X9_planned N v1 r4).bind (fun r5 => if s.1 = (-1 : Int32) then f_X9_head_125 N k_76 v1 s.2.2.1 r5.1 r5.2 else (if (lg_cmp r5.1 s.2.1) < 0 then f_X9_head_125 N k_76 v1 s.2.2.1 r5.1 r5.2 else (f_X9_head_131 N k_76 v1 s.1 s.2.1 s.2.2.1 r5.2))))) else (f_X9_head_131 N k_76 v1 s.1 s.2.1 s.2.2.1 s.2.2.2)))
theorem k_X9_head_76 {L : Nat} {xs : Nat → Int32} {δ N : Nat} {v1 : Int32} (hδ : 6 ≤ δ) : ∀ (n : Nat) (s : Int32 × Int64 × Int32 × mj_m) (a : Int32 × mj_m), mj_lp n (f_X9_head_76 N v1) s = some a → mj_Go (mj_EX L xs) (δ + 1) mY_X9_head 76 [(0, .ref 95), (1, .int v1), (2, .int s.1), (3, .long s.2.1), (6, .int s.2.2.1)] [] (mj_fin s.2.2.2) (some (.int a.1), (mj_fin a.2)) := by
  refine mj_lp_sound (fun k_76 s a q_76 h => ?_)
  unfold f_X9_head_76 at h
  refine mj_go_iload (i := 6) (x := s.2.2.1) rfl (mj_dt dt_X9_head 41 rfl) ?_
  refine mj_go_bipush (v := 8) rfl (mj_dt dt_X9_head 42 rfl) ?_
  refine mj_go_icmp_ge (tgt := 137) rfl (mj_dt dt_X9_head 43 rfl) (fun b1 => ?_) (fun b1 => ?_)
  · rw [if_pos b1] at h
    refine mj_go_iload_n (k := 2) (x := s.1) rfl (mj_dt dt_X9_head 72 rfl) ?_
    obtain rfl := Option.some.inj h
    exact mj_go_ret (v := some (.int s.1)) (Nat.le_of_ble_eq_true rfl) (mj_retI (mj_dt dt_X9_head 73 rfl) rfl)
  · rw [if_neg b1] at h
    refine mj_go_aload_n (k := 0) (x := 95) rfl (mj_dt dt_X9_head 44 rfl) ?_
    refine ml_getR (c := 9) (k := 25) (q := 110) fd_9_25 rf_95_25 (Or.inl fl_X9_68) ho_95 (mj_dt dt_X9_head 45 rfl) ?_
    refine mj_go_iload (i := 6) (x := s.2.2.1) rfl (mj_dt dt_X9_head 46 rfl) ?_
    obtain ⟨c2, h⟩ := mj_ck_some h
    refine mk_iald c2 (mj_dt dt_X9_head 47 rfl) ?_
    refine mj_go_iconst (v := 2) rfl (mj_dt dt_X9_head 48 rfl) ?_
    refine mj_go_icmp_eq (tgt := 97) rfl (mj_dt dt_X9_head 49 rfl) (fun b3 => ?_) (fun b3 => ?_)
    · rw [if_pos b3] at h
      refine mj_go_aload_n (k := 0) (x := 95) rfl (mj_dt dt_X9_head 51 rfl) ?_
      refine mj_go_iload (i := 6) (x := s.2.2.1) rfl (mj_dt dt_X9_head 52 rfl) ?_
      obtain ⟨r4, er4, h⟩ := mj_bind_some h
      refine ml_callV (Y' := mY_X9_rowBy) (as := [.int s.2.2.1]) (rest := []) (c := 9) (v := none) (M1 := (mj_fin r4)) ho_95 rfl lm_X9_299 wc_X9_rowBy pl_X9_rowBy ok_X9_rowBy rfl rfl (Nat.le_of_ble_eq_true rfl) (k_X9_rowBy (by omega) er4) (mj_dt dt_X9_head 53 rfl) ?_
      refine mj_go_aload_n (k := 0) (x := 95) rfl (mj_dt dt_X9_head 54 rfl) ?_
      refine mj_go_iload_n (k := 1) (x := v1) rfl (mj_dt dt_X9_head 55 rfl) ?_
      obtain ⟨r5, er5, h⟩ := mj_bind_some h
      refine ml_callV (Y' := mY_X9_planned) (as := [.int v1]) (rest := []) (c := 9) (v := (some (.long r5.1))) (M1 := (mj_fin r5.2)) ho_95 rfl lm_X9_302 wc_X9_planned pl_X9_planned ok_X9_planned rfl rfl (Nat.le_of_ble_eq_true rfl) (k_X9_planned (by omega) er5) (mj_dt dt_X9_head 56 rfl) ?_
      refine mj_go_lstore (i := 7) (by decide) (mj_dt dt_X9_head 57 rfl) ?_
      refine mj_go_iload_n (k := 2) (x := s.1) rfl (mj_dt dt_X9_head 58 rfl) ?_
      refine mj_go_iconst (v := -1) rfl (mj_dt dt_X9_head 59 rfl) ?_
      refine mj_go_icmp_eq (tgt := 125) rfl (mj_dt dt_X9_head 60 rfl) (fun b6 => ?_) (fun b6 => ?_)
      · rw [if_pos b6] at h
        refine mj_go_sub (lv' := [(0, .ref 95), (1, .int v1), (6, .int s.2.2.1), (7, .long r5.1)]) (List.forall_mem_cons.mpr ⟨rfl, (List.forall_mem_cons.mpr ⟨rfl, (List.forall_mem_cons.mpr ⟨rfl, (List.forall_mem_cons.mpr ⟨rfl, (fun _ h9 => absurd h9 List.not_mem_nil)⟩)⟩)⟩)⟩) ?_
        exact k_X9_head_125 q_76 hδ h
      · rw [if_neg b6] at h
        refine mj_go_lload (i := 7) (x := r5.1) rfl (mj_dt dt_X9_head 61 rfl) ?_
        refine mj_go_lload_n (k := 3) (x := s.2.1) rfl (mj_dt dt_X9_head 62 rfl) ?_
        refine mj_go_lcmp (mj_dt dt_X9_head 63 rfl) ?_
        refine mj_go_if_lt (tgt := 125) rfl (mj_dt dt_X9_head 64 rfl) (fun b7 => ?_) (fun b7 => ?_)
        · rw [if_pos b7] at h
          refine mj_go_sub (lv' := [(0, .ref 95), (1, .int v1), (6, .int s.2.2.1), (7, .long r5.1)]) (List.forall_mem_cons.mpr ⟨rfl, (List.forall_mem_cons.mpr ⟨rfl, (List.forall_mem_cons.mpr ⟨rfl, (List.forall_mem_cons.mpr ⟨rfl, (fun _ h9 => absurd h9 List.not_mem_nil)⟩)⟩)⟩)⟩) ?_
          exact k_X9_head_125 q_76 hδ h
        · rw [if_neg b7] at h
          refine mj_go_goto (tgt := 131) rfl (mj_dt dt_X9_head 65 rfl) ?_
          refine mj_go_sub (lv' := [(0, .ref 95), (1, .int v1), (2, .int s.1), (3, .long s.2.1), (6, .int s.2.2.1)]) (List.forall_mem_cons.mpr ⟨rfl, (List.forall_mem_cons.mpr ⟨rfl, (List.forall_mem_cons.mpr ⟨rfl, (List.forall_mem_cons.mpr ⟨rfl, (List.forall_mem_cons.mpr ⟨rfl, (fun _ h9 => absurd h9 List.not_mem_nil)⟩)⟩)⟩)⟩)⟩) ?_
          exact k_X9_head_131 q_76 hδ h
    · rw [if_neg b3] at h
      refine mj_go_goto (tgt := 131) rfl (mj_dt dt_X9_head 50 rfl) ?_
      refine mj_go_sub (lv' := [(0, .ref 95), (1, .int v1), (2, .int s.1), (3, .long s.2.1), (6, .int s.2.2.1)]) (List.forall_mem_cons.mpr ⟨rfl, (List.forall_mem_cons.mpr ⟨rfl, (List.forall_mem_cons.mpr ⟨rfl, (List.forall_mem_cons.mpr ⟨rfl, (List.forall_mem_cons.mpr ⟨rfl, (fun _ h9 => absurd h9 List.not_mem_nil)⟩)⟩)⟩)⟩)⟩) ?_
      exact k_X9_head_131 q_76 hδ h
def f_X9_head_38 (N : Nat) (k_10 : Int32 × Int32 → Option (Int32 × mj_m)) (v1 : Int32) (v2 : Int32) (v3 : Int64) (v6 : Int32) (s0 : Int32) (m : mj_m) : Option (Int32 × mj_m) := mj_mw (v6 + 1) (fun x1 => k_10 (s0, x1))
theorem k_X9_head_38 {L : Nat} {xs : Nat → Int32} {δ N : Nat} {v1 : Int32} {v2 : Int32} {v3 : Int64} {v6 : Int32} {s0 : Int32} {m : mj_m} {k_10 : Int32 × Int32 → Option (Int32 × mj_m)} (q_10 : ∀ (s_ : Int32 × Int32) (a_ : Int32 × mj_m), k_10 s_ = some a_ → mj_Go (mj_EX L xs) (δ + 1) mY_X9_head 10 [(0, .ref 95), (1, .int v1), (2, .int v2), (3, .long v3), (5, .int s_.1), (6, .int s_.2)] [] (mj_fin m) (some (.int a_.1), (mj_fin a_.2))) (hδ : 6 ≤ δ) {a : Int32 × mj_m} (h : f_X9_head_38 N k_10 v1 v2 v3 v6 s0 m = some a) : mj_Go (mj_EX L xs) (δ + 1) mY_X9_head 38 [(0, .ref 95), (1, .int v1), (2, .int v2), (3, .long v3), (6, .int v6)] [.int s0] (mj_fin m) (some (.int a.1), (mj_fin a.2)) := by
  unfold f_X9_head_38 at h
  refine mj_go_istore (i := 5) (by decide) (mj_dt dt_X9_head 22 rfl) ?_
  obtain ⟨x1, ex1, h⟩ := mj_mw_some h
  refine mj_go_iinc (i := 6) (x := v6) (v := x1) rfl (by rw [ex1] <;> rfl) (by decide) (mj_dt dt_X9_head 23 rfl) ?_
  refine mj_go_goto (tgt := 10) rfl (mj_dt dt_X9_head 24 rfl) ?_
  refine mj_go_sub (lv' := [(0, .ref 95), (1, .int v1), (2, .int v2), (3, .long v3), (5, .int s0), (6, .int x1)]) (List.forall_mem_cons.mpr ⟨rfl, (List.forall_mem_cons.mpr ⟨rfl, (List.forall_mem_cons.mpr ⟨rfl, (List.forall_mem_cons.mpr ⟨rfl, (List.forall_mem_cons.mpr ⟨rfl, (List.forall_mem_cons.mpr ⟨rfl, (fun _ h9 => absurd h9 List.not_mem_nil)⟩)⟩)⟩)⟩)⟩)⟩) ?_
  exact q_10 _ _ h
def f_X9_head_33 (N : Nat) (k_10 : Int32 × Int32 → Option (Int32 × mj_m)) (v1 : Int32) (v2 : Int32) (v3 : Int64) (v6 : Int32) (m : mj_m) : Option (Int32 × mj_m) := f_X9_head_38 N k_10 v1 v2 v3 v6 1 m
theorem k_X9_head_33 {L : Nat} {xs : Nat → Int32} {δ N : Nat} {v1 : Int32} {v2 : Int32} {v3 : Int64} {v6 : Int32} {m : mj_m} {k_10 : Int32 × Int32 → Option (Int32 × mj_m)} (q_10 : ∀ (s_ : Int32 × Int32) (a_ : Int32 × mj_m), k_10 s_ = some a_ → mj_Go (mj_EX L xs) (δ + 1) mY_X9_head 10 [(0, .ref 95), (1, .int v1), (2, .int v2), (3, .long v3), (5, .int s_.1), (6, .int s_.2)] [] (mj_fin m) (some (.int a_.1), (mj_fin a_.2))) (hδ : 6 ≤ δ) {a : Int32 × mj_m} (h : f_X9_head_33 N k_10 v1 v2 v3 v6 m = some a) : mj_Go (mj_EX L xs) (δ + 1) mY_X9_head 33 [(0, .ref 95), (1, .int v1), (2, .int v2), (3, .long v3), (6, .int v6)] [] (mj_fin m) (some (.int a.1), (mj_fin a.2)) := by
  unfold f_X9_head_33 at h
  refine mj_go_iconst (v := 1) rfl (mj_dt dt_X9_head 19 rfl) ?_
  refine mj_go_goto (tgt := 38) rfl (mj_dt dt_X9_head 20 rfl) ?_
  refine mj_go_sub (lv' := [(0, .ref 95), (1, .int v1), (2, .int v2), (3, .long v3), (6, .int v6)]) (List.forall_mem_cons.mpr ⟨rfl, (List.forall_mem_cons.mpr ⟨rfl, (List.forall_mem_cons.mpr ⟨rfl, (List.forall_mem_cons.mpr ⟨rfl, (List.forall_mem_cons.mpr ⟨rfl, (fun _ h9 => absurd h9 List.not_mem_nil)⟩)⟩)⟩)⟩)⟩) ?_
  exact k_X9_head_38 q_10 hδ h
def f_X9_head_10 (N : Nat) (v1 : Int32) (v2 : Int32) (v3 : Int64) (m : mj_m) (k_10 : Int32 × Int32 → Option (Int32 × mj_m)) (s : Int32 × Int32) : Option (Int32 × mj_m) := if 8 ≤ s.2 then (if s.1 = 0 then ((f_X9_no N (-5 : Int32) m).bind (fun r3 => some (r3.1, r3.2))) else ((f_X9_isYears N v1 m).bind (fun r3 => if r3 = 0 then ((f_X9_no N (-6 : Int32) m).bind (fun r5 => some (r5.1, r5.2))) else (mj_lp N (f_X9_head_76 N v1) (v2, v3, 0, m))))) else (if s.1 = 0 then (mj_ck (mj_b 0 110 s.2) ( if (m.1 110 s.2.toNatClampNeg) = 2 then f_X9_head_33 N k_10 v1 v2 v3 s.2 m else (f_X9_head_38 N k_10 v1 v2 v3 s.2 0 m))) else f_X9_head_33 N k_10 v1 v2 v3 s.2 m)
theorem k_X9_head_10 {L : Nat} {xs : Nat → Int32} {δ N : Nat} {v1 : Int32} {v2 : Int32} {v3 : Int64} {m : mj_m} (hδ : 6 ≤ δ) : ∀ (n : Nat) (s : Int32 × Int32) (a : Int32 × mj_m), mj_lp n (f_X9_head_10 N v1 v2 v3 m) s = some a → mj_Go (mj_EX L xs) (δ + 1) mY_X9_head 10 [(0, .ref 95), (1, .int v1), (2, .int v2), (3, .long v3), (5, .int s.1), (6, .int s.2)] [] (mj_fin m) (some (.int a.1), (mj_fin a.2)) := by
  refine mj_lp_sound (fun k_10 s a q_10 h => ?_)
  unfold f_X9_head_10 at h
  refine mj_go_iload (i := 6) (x := s.2) rfl (mj_dt dt_X9_head 8 rfl) ?_
  refine mj_go_bipush (v := 8) rfl (mj_dt dt_X9_head 9 rfl) ?_
  refine mj_go_icmp_ge (tgt := 46) rfl (mj_dt dt_X9_head 10 rfl) (fun b1 => ?_) (fun b1 => ?_)
  · rw [if_pos b1] at h
    refine mj_go_iload (i := 5) (x := s.1) rfl (mj_dt dt_X9_head 25 rfl) ?_
    refine mj_go_if_ne (tgt := 58) rfl (mj_dt dt_X9_head 26 rfl) (fun b2 => ?_) (fun b2 => ?_)
    · rw [if_neg b2] at h
      refine mj_go_aload_n (k := 0) (x := 95) rfl (mj_dt dt_X9_head 31 rfl) ?_
      refine mj_go_iload_n (k := 1) (x := v1) rfl (mj_dt dt_X9_head 32 rfl) ?_
      obtain ⟨r3, er3, h⟩ := mj_bind_some h
      refine ml_callV (Y' := mY_X9_isYears) (as := [.int v1]) (rest := []) (c := 9) (v := (some (.int r3))) (M1 := (mj_fin m)) ho_95 rfl lm_X9_296 wc_X9_isYears pl_X9_isYears ok_X9_isYears rfl rfl (Nat.le_of_ble_eq_true rfl) (k_X9_isYears (by omega) er3) (mj_dt dt_X9_head 33 rfl) ?_
      refine mj_go_if_ne (tgt := 73) rfl (mj_dt dt_X9_head 34 rfl) (fun b4 => ?_) (fun b4 => ?_)
      · rw [if_neg b4] at h
        refine mj_go_iconst (v := 0) rfl (mj_dt dt_X9_head 39 rfl) ?_
        refine mj_go_istore (i := 6) (by decide) (mj_dt dt_X9_head 40 rfl) ?_
        refine mj_go_sub (lv' := [(0, .ref 95), (1, .int v1), (2, .int v2), (3, .long v3), (6, .int 0)]) (List.forall_mem_cons.mpr ⟨rfl, (List.forall_mem_cons.mpr ⟨rfl, (List.forall_mem_cons.mpr ⟨rfl, (List.forall_mem_cons.mpr ⟨rfl, (List.forall_mem_cons.mpr ⟨rfl, (fun _ h9 => absurd h9 List.not_mem_nil)⟩)⟩)⟩)⟩)⟩) ?_
        exact k_X9_head_76 hδ N _ _ h
      · rw [if_pos b4] at h
        refine mj_go_aload_n (k := 0) (x := 95) rfl (mj_dt dt_X9_head 35 rfl) ?_
        refine mj_go_bipush (v := -6) rfl (mj_dt dt_X9_head 36 rfl) ?_
        obtain ⟨r5, er5, h⟩ := mj_bind_some h
        refine ml_callV (Y' := mY_X9_no) (as := [.int (-6 : Int32)]) (rest := []) (c := 9) (v := (some (.int r5.1))) (M1 := (mj_fin r5.2)) ho_95 rfl lm_X9_134 wc_X9_no pl_X9_no ok_X9_no rfl rfl (Nat.le_of_ble_eq_true rfl) (k_X9_no (by omega) er5) (mj_dt dt_X9_head 37 rfl) ?_
        obtain rfl := Option.some.inj h
        exact mj_go_ret (v := some (.int r5.1)) (Nat.le_of_ble_eq_true rfl) (mj_retI (mj_dt dt_X9_head 38 rfl) rfl)
    · rw [if_pos b2] at h
      refine mj_go_aload_n (k := 0) (x := 95) rfl (mj_dt dt_X9_head 27 rfl) ?_
      refine mj_go_bipush (v := -5) rfl (mj_dt dt_X9_head 28 rfl) ?_
      obtain ⟨r3, er3, h⟩ := mj_bind_some h
      refine ml_callV (Y' := mY_X9_no) (as := [.int (-5 : Int32)]) (rest := []) (c := 9) (v := (some (.int r3.1))) (M1 := (mj_fin r3.2)) ho_95 rfl lm_X9_134 wc_X9_no pl_X9_no ok_X9_no rfl rfl (Nat.le_of_ble_eq_true rfl) (k_X9_no (by omega) er3) (mj_dt dt_X9_head 29 rfl) ?_
      obtain rfl := Option.some.inj h
      exact mj_go_ret (v := some (.int r3.1)) (Nat.le_of_ble_eq_true rfl) (mj_retI (mj_dt dt_X9_head 30 rfl) rfl)
  · rw [if_neg b1] at h
    refine mj_go_iload (i := 5) (x := s.1) rfl (mj_dt dt_X9_head 11 rfl) ?_
    refine mj_go_if_ne (tgt := 33) rfl (mj_dt dt_X9_head 12 rfl) (fun b2 => ?_) (fun b2 => ?_)
    · rw [if_neg b2] at h
      refine mj_go_sub (lv' := [(0, .ref 95), (1, .int v1), (2, .int v2), (3, .long v3), (6, .int s.2)]) (List.forall_mem_cons.mpr ⟨rfl, (List.forall_mem_cons.mpr ⟨rfl, (List.forall_mem_cons.mpr ⟨rfl, (List.forall_mem_cons.mpr ⟨rfl, (List.forall_mem_cons.mpr ⟨rfl, (fun _ h9 => absurd h9 List.not_mem_nil)⟩)⟩)⟩)⟩)⟩) ?_
      exact k_X9_head_33 q_10 hδ h
    · rw [if_pos b2] at h
      refine mj_go_aload_n (k := 0) (x := 95) rfl (mj_dt dt_X9_head 13 rfl) ?_
      refine ml_getR (c := 9) (k := 25) (q := 110) fd_9_25 rf_95_25 (Or.inl fl_X9_68) ho_95 (mj_dt dt_X9_head 14 rfl) ?_
      refine mj_go_iload (i := 6) (x := s.2) rfl (mj_dt dt_X9_head 15 rfl) ?_
      obtain ⟨c3, h⟩ := mj_ck_some h
      refine mk_iald c3 (mj_dt dt_X9_head 16 rfl) ?_
      refine mj_go_iconst (v := 2) rfl (mj_dt dt_X9_head 17 rfl) ?_
      refine mj_go_icmp_ne (tgt := 37) rfl (mj_dt dt_X9_head 18 rfl) (fun b4 => ?_) (fun b4 => ?_)
      · rw [if_neg b4] at h
        refine mj_go_iconst (v := 0) rfl (mj_dt dt_X9_head 21 rfl) ?_
        refine mj_go_sub (lv' := [(0, .ref 95), (1, .int v1), (2, .int v2), (3, .long v3), (6, .int s.2)]) (List.forall_mem_cons.mpr ⟨rfl, (List.forall_mem_cons.mpr ⟨rfl, (List.forall_mem_cons.mpr ⟨rfl, (List.forall_mem_cons.mpr ⟨rfl, (List.forall_mem_cons.mpr ⟨rfl, (fun _ h9 => absurd h9 List.not_mem_nil)⟩)⟩)⟩)⟩)⟩) ?_
        exact k_X9_head_38 q_10 hδ h
      · rw [if_pos b4] at h
        refine mj_go_sub (lv' := [(0, .ref 95), (1, .int v1), (2, .int v2), (3, .long v3), (6, .int s.2)]) (List.forall_mem_cons.mpr ⟨rfl, (List.forall_mem_cons.mpr ⟨rfl, (List.forall_mem_cons.mpr ⟨rfl, (List.forall_mem_cons.mpr ⟨rfl, (List.forall_mem_cons.mpr ⟨rfl, (fun _ h9 => absurd h9 List.not_mem_nil)⟩)⟩)⟩)⟩)⟩) ?_
        exact k_X9_head_33 q_10 hδ h
def f_X9_head (N : Nat) (v1 : Int32) (m : mj_m) : Option (Int32 × mj_m) := mj_lp N (f_X9_head_10 N v1 (-1 : Int32) 0 m) (0, 0)
theorem k_X9_head {L : Nat} {xs : Nat → Int32} {δ N : Nat} {v1 : Int32} {m : mj_m} (hδ : 7 ≤ δ) {a : Int32 × mj_m} (h : f_X9_head N v1 m = some a) : mj_Cl (mj_EX L xs) δ mY_X9_head [.ref 95, .int v1] (mj_fin m) (some (.int a.1), (mj_fin a.2)) := by
  obtain ⟨δ, rfl⟩ : ∃ d, δ = d + 1 := ⟨δ - 1, by omega⟩
  have hδ : 6 ≤ δ := by omega
  refine mj_cl_of ok_X9_head (Nat.le_of_ble_eq_true rfl) ?_
  unfold f_X9_head at h
  refine mj_go_iconst (v := -1) rfl (mj_dt dt_X9_head 0 rfl) ?_
  refine mj_go_istore_n (k := 2) (by decide) (mj_dt dt_X9_head 1 rfl) ?_
  refine mj_go_lconst (v := 0) rfl (mj_dt dt_X9_head 2 rfl) ?_
  refine mj_go_lstore_n (k := 3) (by decide) (mj_dt dt_X9_head 3 rfl) ?_
  refine mj_go_iconst (v := 0) rfl (mj_dt dt_X9_head 4 rfl) ?_
  refine mj_go_istore (i := 5) (by decide) (mj_dt dt_X9_head 5 rfl) ?_
  refine mj_go_iconst (v := 0) rfl (mj_dt dt_X9_head 6 rfl) ?_
  refine mj_go_istore (i := 6) (by decide) (mj_dt dt_X9_head 7 rfl) ?_
  refine mj_go_sub (lv' := [(0, .ref 95), (1, .int v1), (2, .int (-1 : Int32)), (3, .long 0), (5, .int 0), (6, .int 0)]) (List.forall_mem_cons.mpr ⟨rfl, (List.forall_mem_cons.mpr ⟨rfl, (List.forall_mem_cons.mpr ⟨rfl, (List.forall_mem_cons.mpr ⟨rfl, (List.forall_mem_cons.mpr ⟨rfl, (List.forall_mem_cons.mpr ⟨rfl, (fun _ h9 => absurd h9 List.not_mem_nil)⟩)⟩)⟩)⟩)⟩)⟩) ?_
  exact k_X9_head_10 hδ N _ _ h
def f_X2_openOdds_62 (N : Nat) (k_5 : Int64 × Int32 → Option (Int64)) (v1 : Int32) (v2 : Int32) (v5 : Int32) (s0 : Int64) (s1 : Int64) (m : mj_m) : Option (Int64) := mj_mw (s0 * s1) (fun x1 => mj_mw (v5 + 1) (fun x2 => k_5 (x1, x2)))
theorem k_X2_openOdds_62 {L : Nat} {xs : Nat → Int32} {δ N : Nat} {v1 : Int32} {v2 : Int32} {v5 : Int32} {s0 : Int64} {s1 : Int64} {m : mj_m} {k_5 : Int64 × Int32 → Option (Int64)} (q_5 : ∀ (s_ : Int64 × Int32) (a_ : Int64), k_5 s_ = some a_ → mj_Go (mj_EX L xs) (δ + 1) mY_X2_openOdds 5 [(0, .ref 36), (1, .int v1), (2, .int v2), (3, .long s_.1), (5, .int s_.2)] [] (mj_fin m) (some (.long a_), (mj_fin m))) (hδ : 0 ≤ δ) {a : Int64} (h : f_X2_openOdds_62 N k_5 v1 v2 v5 s0 s1 m = some a) : mj_Go (mj_EX L xs) (δ + 1) mY_X2_openOdds 62 [(0, .ref 36), (1, .int v1), (2, .int v2), (5, .int v5)] [.long s1, .long s0] (mj_fin m) (some (.long a), (mj_fin m)) := by
  unfold f_X2_openOdds_62 at h
  refine mj_go_lmul (mj_dt dt_X2_openOdds 31 rfl) ?_
  obtain ⟨x1, ex1, h⟩ := mj_mw_some h
  refine ml_eql ex1 ?_
  refine mj_go_lstore_n (k := 3) (by decide) (mj_dt dt_X2_openOdds 32 rfl) ?_
  obtain ⟨x2, ex2, h⟩ := mj_mw_some h
  refine mj_go_iinc (i := 5) (x := v5) (v := x2) rfl (by rw [ex2] <;> rfl) (by decide) (mj_dt dt_X2_openOdds 33 rfl) ?_
  refine mj_go_goto (tgt := 5) rfl (mj_dt dt_X2_openOdds 34 rfl) ?_
  refine mj_go_sub (lv' := [(0, .ref 36), (1, .int v1), (2, .int v2), (3, .long x1), (5, .int x2)]) (List.forall_mem_cons.mpr ⟨rfl, (List.forall_mem_cons.mpr ⟨rfl, (List.forall_mem_cons.mpr ⟨rfl, (List.forall_mem_cons.mpr ⟨rfl, (List.forall_mem_cons.mpr ⟨rfl, (fun _ h9 => absurd h9 List.not_mem_nil)⟩)⟩)⟩)⟩)⟩) ?_
  exact q_5 _ _ h
def f_X2_openOdds_5 (N : Nat) (v1 : Int32) (v2 : Int32) (m : mj_m) (k_5 : Int64 × Int32 → Option (Int64)) (s : Int64 × Int32) : Option (Int64) := if (m.1 1 7) ≤ s.2 then (some s.1) else (mj_ck (mj_b 2 4 s.2) ( if (m.1 (8 + s.2.toNatClampNeg) 5) = v1 then ((f_X7_tenths N s.2 v2 5 m).bind (fun r4 => f_X2_openOdds_62 N k_5 v1 v2 s.2 s.1 ((10 - r4).toInt64) m)) else (f_X2_openOdds_62 N k_5 v1 v2 s.2 s.1 10 m)))
theorem k_X2_openOdds_5 {L : Nat} {xs : Nat → Int32} {δ N : Nat} {v1 : Int32} {v2 : Int32} {m : mj_m} (hδ : 0 ≤ δ) : ∀ (n : Nat) (s : Int64 × Int32) (a : Int64), mj_lp n (f_X2_openOdds_5 N v1 v2 m) s = some a → mj_Go (mj_EX L xs) (δ + 1) mY_X2_openOdds 5 [(0, .ref 36), (1, .int v1), (2, .int v2), (3, .long s.1), (5, .int s.2)] [] (mj_fin m) (some (.long a), (mj_fin m)) := by
  refine mj_lp_sound (fun k_5 s a q_5 h => ?_)
  unfold f_X2_openOdds_5 at h
  refine mj_go_iload (i := 5) (x := s.2) rfl (mj_dt dt_X2_openOdds 4 rfl) ?_
  refine mj_go_aload_n (k := 0) (x := 36) rfl (mj_dt dt_X2_openOdds 5 rfl) ?_
  refine ml_getR (c := 2) (k := 0) (q := 1) fd_2_0 rf_36_0 (Or.inl fl_X2_44) ho_36 (mj_dt dt_X2_openOdds 6 rfl) ?_
  refine mk_getI (c := 7) (k := 7) (Or.inl fd_7_7) (Or.inl fl_X2_48) ho_1 (mj_dt dt_X2_openOdds 7 rfl) ?_
  refine mj_go_icmp_ge (tgt := 70) rfl (mj_dt dt_X2_openOdds 8 rfl) (fun b1 => ?_) (fun b1 => ?_)
  · rw [if_pos b1] at h
    refine mj_go_lload_n (k := 3) (x := s.1) rfl (mj_dt dt_X2_openOdds 35 rfl) ?_
    obtain rfl := Option.some.inj h
    exact mj_go_ret (v := some (.long s.1)) (Nat.le_of_ble_eq_true rfl) (mj_retL (mj_dt dt_X2_openOdds 36 rfl) rfl)
  · rw [if_neg b1] at h
    refine mj_go_lload_n (k := 3) (x := s.1) rfl (mj_dt dt_X2_openOdds 9 rfl) ?_
    refine mj_go_aload_n (k := 0) (x := 36) rfl (mj_dt dt_X2_openOdds 10 rfl) ?_
    refine ml_getR (c := 2) (k := 0) (q := 1) fd_2_0 rf_36_0 (Or.inl fl_X2_44) ho_36 (mj_dt dt_X2_openOdds 11 rfl) ?_
    refine ml_getR (c := 7) (k := 2) (q := 4) fd_7_2 rf_1_2 (Or.inl fl_X2_53) ho_1 (mj_dt dt_X2_openOdds 12 rfl) ?_
    refine mj_go_iload (i := 5) (x := s.2) rfl (mj_dt dt_X2_openOdds 13 rfl) ?_
    obtain ⟨c2, h⟩ := mj_ck_some h
    refine ml_aald2 (q := 8 + s.2.toNatClampNeg) c2 (mj_hs4 c2).1 (mj_dt dt_X2_openOdds 14 rfl) ?_
    refine mk_getI (c := 1) (k := 5) (Or.inl fd_1_5) (Or.inl fl_X2_57) (mj_hs4 c2).2 (mj_dt dt_X2_openOdds 15 rfl) ?_
    refine mj_go_iload_n (k := 1) (x := v1) rfl (mj_dt dt_X2_openOdds 16 rfl) ?_
    refine mj_go_icmp_ne (tgt := 59) rfl (mj_dt dt_X2_openOdds 17 rfl) (fun b3 => ?_) (fun b3 => ?_)
    · rw [if_neg b3] at h
      refine mj_go_ldc2 (v := 10) cl_X2_88 (mj_dt dt_X2_openOdds 30 rfl) ?_
      refine mj_go_sub (lv' := [(0, .ref 36), (1, .int v1), (2, .int v2), (5, .int s.2)]) (List.forall_mem_cons.mpr ⟨rfl, (List.forall_mem_cons.mpr ⟨rfl, (List.forall_mem_cons.mpr ⟨rfl, (List.forall_mem_cons.mpr ⟨rfl, (fun _ h9 => absurd h9 List.not_mem_nil)⟩)⟩)⟩)⟩) ?_
      exact k_X2_openOdds_62 q_5 hδ h
    · rw [if_pos b3] at h
      refine mj_go_bipush (v := 10) rfl (mj_dt dt_X2_openOdds 18 rfl) ?_
      refine mj_go_aload_n (k := 0) (x := 36) rfl (mj_dt dt_X2_openOdds 19 rfl) ?_
      refine ml_getR (c := 2) (k := 0) (q := 1) fd_2_0 rf_36_0 (Or.inl fl_X2_44) ho_36 (mj_dt dt_X2_openOdds 20 rfl) ?_
      refine mj_go_iload (i := 5) (x := s.2) rfl (mj_dt dt_X2_openOdds 21 rfl) ?_
      refine mj_go_iload_n (k := 2) (x := v2) rfl (mj_dt dt_X2_openOdds 22 rfl) ?_
      refine mj_go_aload_n (k := 0) (x := 36) rfl (mj_dt dt_X2_openOdds 23 rfl) ?_
      refine ml_getR (c := 2) (k := 0) (q := 1) fd_2_0 rf_36_0 (Or.inl fl_X2_44) ho_36 (mj_dt dt_X2_openOdds 24 rfl) ?_
      refine ml_getR (c := 7) (k := 3) (q := 5) fd_7_3 rf_1_3 (Or.inl fl_X2_133) ho_1 (mj_dt dt_X2_openOdds 25 rfl) ?_
      obtain ⟨r4, er4, h⟩ := mj_bind_some h
      refine ml_callV (Y' := mY_X7_tenths) (as := [.int s.2, .int v2, .ref 5]) (rest := [.int 10, .long s.1]) (c := 7) (v := (some (.int r4))) (M1 := (mj_fin m)) ho_1 rfl lm_X2_106 wc_X7_tenths pl_X7_tenths ok_X7_tenths rfl rfl (Nat.le_of_ble_eq_true rfl) (k_X7_tenths (by omega) er4) (mj_dt dt_X2_openOdds 26 rfl) ?_
      refine mj_go_isub (mj_dt dt_X2_openOdds 27 rfl) ?_
      refine mj_go_i2l (mj_dt dt_X2_openOdds 28 rfl) ?_
      refine mj_go_goto (tgt := 62) rfl (mj_dt dt_X2_openOdds 29 rfl) ?_
      refine mj_go_sub (lv' := [(0, .ref 36), (1, .int v1), (2, .int v2), (5, .int s.2)]) (List.forall_mem_cons.mpr ⟨rfl, (List.forall_mem_cons.mpr ⟨rfl, (List.forall_mem_cons.mpr ⟨rfl, (List.forall_mem_cons.mpr ⟨rfl, (fun _ h9 => absurd h9 List.not_mem_nil)⟩)⟩)⟩)⟩) ?_
      exact k_X2_openOdds_62 q_5 hδ h
def f_X2_openOdds (N : Nat) (v1 : Int32) (v2 : Int32) (m : mj_m) : Option (Int64) := mj_lp N (f_X2_openOdds_5 N v1 v2 m) (1, 0)
theorem k_X2_openOdds {L : Nat} {xs : Nat → Int32} {δ N : Nat} {v1 : Int32} {v2 : Int32} {m : mj_m} (hδ : 1 ≤ δ) {a : Int64} (h : f_X2_openOdds N v1 v2 m = some a) : mj_Cl (mj_EX L xs) δ mY_X2_openOdds [.ref 36, .int v1, .int v2] (mj_fin m) (some (.long a), (mj_fin m)) := by
  obtain ⟨δ, rfl⟩ : ∃ d, δ = d + 1 := ⟨δ - 1, by omega⟩
  have hδ : 0 ≤ δ := by omega
  refine mj_cl_of ok_X2_openOdds (Nat.le_of_ble_eq_true rfl) ?_
  unfold f_X2_openOdds at h
  refine mj_go_lconst (v := 1) rfl (mj_dt dt_X2_openOdds 0 rfl) ?_
  refine mj_go_lstore_n (k := 3) (by decide) (mj_dt dt_X2_openOdds 1 rfl) ?_
  refine mj_go_iconst (v := 0) rfl (mj_dt dt_X2_openOdds 2 rfl) ?_
  refine mj_go_istore (i := 5) (by decide) (mj_dt dt_X2_openOdds 3 rfl) ?_
  refine mj_go_sub (lv' := [(0, .ref 36), (1, .int v1), (2, .int v2), (3, .long 1), (5, .int 0)]) (List.forall_mem_cons.mpr ⟨rfl, (List.forall_mem_cons.mpr ⟨rfl, (List.forall_mem_cons.mpr ⟨rfl, (List.forall_mem_cons.mpr ⟨rfl, (List.forall_mem_cons.mpr ⟨rfl, (fun _ h9 => absurd h9 List.not_mem_nil)⟩)⟩)⟩)⟩)⟩) ?_
  exact k_X2_openOdds_5 hδ N _ _ h
def f_X2_narrowest_46 (N : Nat) (k_7 : Int32 × Int64 × Int32 → Option (Int32)) (v1 : Int32) (v2 : Int32) (v3 : Int64) (v5 : Int32) (m : mj_m) : Option (Int32) := mj_mw (v5 + 1) (fun x1 => k_7 (v2, v3, x1))
theorem k_X2_narrowest_46 {L : Nat} {xs : Nat → Int32} {δ N : Nat} {v1 : Int32} {v2 : Int32} {v3 : Int64} {v5 : Int32} {m : mj_m} {k_7 : Int32 × Int64 × Int32 → Option (Int32)} (q_7 : ∀ (s_ : Int32 × Int64 × Int32) (a_ : Int32), k_7 s_ = some a_ → mj_Go (mj_EX L xs) (δ + 1) mY_X2_narrowest 7 [(0, .ref 36), (1, .int v1), (2, .int s_.1), (3, .long s_.2.1), (5, .int s_.2.2)] [] (mj_fin m) (some (.int a_), (mj_fin m))) (hδ : 1 ≤ δ) {a : Int32} (h : f_X2_narrowest_46 N k_7 v1 v2 v3 v5 m = some a) : mj_Go (mj_EX L xs) (δ + 1) mY_X2_narrowest 46 [(0, .ref 36), (1, .int v1), (2, .int v2), (3, .long v3), (5, .int v5)] [] (mj_fin m) (some (.int a), (mj_fin m)) := by
  unfold f_X2_narrowest_46 at h
  obtain ⟨x1, ex1, h⟩ := mj_mw_some h
  refine mj_go_iinc (i := 5) (x := v5) (v := x1) rfl (by rw [ex1] <;> rfl) (by decide) (mj_dt dt_X2_narrowest 27 rfl) ?_
  refine mj_go_goto (tgt := 7) rfl (mj_dt dt_X2_narrowest 28 rfl) ?_
  refine mj_go_sub (lv' := [(0, .ref 36), (1, .int v1), (2, .int v2), (3, .long v3), (5, .int x1)]) (List.forall_mem_cons.mpr ⟨rfl, (List.forall_mem_cons.mpr ⟨rfl, (List.forall_mem_cons.mpr ⟨rfl, (List.forall_mem_cons.mpr ⟨rfl, (List.forall_mem_cons.mpr ⟨rfl, (fun _ h9 => absurd h9 List.not_mem_nil)⟩)⟩)⟩)⟩)⟩) ?_
  exact q_7 _ _ h
def f_X2_narrowest_40 (N : Nat) (k_7 : Int32 × Int64 × Int32 → Option (Int32)) (v1 : Int32) (v5 : Int32) (v6 : Int64) (m : mj_m) : Option (Int32) := f_X2_narrowest_46 N k_7 v1 v5 v6 v5 m
theorem k_X2_narrowest_40 {L : Nat} {xs : Nat → Int32} {δ N : Nat} {v1 : Int32} {v5 : Int32} {v6 : Int64} {m : mj_m} {k_7 : Int32 × Int64 × Int32 → Option (Int32)} (q_7 : ∀ (s_ : Int32 × Int64 × Int32) (a_ : Int32), k_7 s_ = some a_ → mj_Go (mj_EX L xs) (δ + 1) mY_X2_narrowest 7 [(0, .ref 36), (1, .int v1), (2, .int s_.1), (3, .long s_.2.1), (5, .int s_.2.2)] [] (mj_fin m) (some (.int a_), (mj_fin m))) (hδ : 1 ≤ δ) {a : Int32} (h : f_X2_narrowest_40 N k_7 v1 v5 v6 m = some a) : mj_Go (mj_EX L xs) (δ + 1) mY_X2_narrowest 40 [(0, .ref 36), (1, .int v1), (5, .int v5), (6, .long v6)] [] (mj_fin m) (some (.int a), (mj_fin m)) := by
  unfold f_X2_narrowest_40 at h
  refine mj_go_iload (i := 5) (x := v5) rfl (mj_dt dt_X2_narrowest 23 rfl) ?_
  refine mj_go_istore_n (k := 2) (by decide) (mj_dt dt_X2_narrowest 24 rfl) ?_
  refine mj_go_lload (i := 6) (x := v6) rfl (mj_dt dt_X2_narrowest 25 rfl) ?_
  refine mj_go_lstore_n (k := 3) (by decide) (mj_dt dt_X2_narrowest 26 rfl) ?_
  refine mj_go_sub (lv' := [(0, .ref 36), (1, .int v1), (2, .int v5), (3, .long v6), (5, .int v5)]) (List.forall_mem_cons.mpr ⟨rfl, (List.forall_mem_cons.mpr ⟨rfl, (List.forall_mem_cons.mpr ⟨rfl, (List.forall_mem_cons.mpr ⟨rfl, (List.forall_mem_cons.mpr ⟨rfl, (fun _ h9 => absurd h9 List.not_mem_nil)⟩)⟩)⟩)⟩)⟩) ?_
  exact k_X2_narrowest_46 q_7 hδ h
def f_X2_narrowest_7 (N : Nat) (v1 : Int32) (m : mj_m) (k_7 : Int32 × Int64 × Int32 → Option (Int32)) (s : Int32 × Int64 × Int32) : Option (Int32) := if (m.1 1 6) ≤ s.2.2 then (some s.1) else ((f_X2_openOdds N s.2.2 v1 m).bind (fun r2 => if s.1 = (-1 : Int32) then f_X2_narrowest_40 N k_7 v1 s.2.2 r2 m else (if 0 ≤ (lg_cmp r2 s.2.1) then f_X2_narrowest_46 N k_7 v1 s.1 s.2.1 s.2.2 m else f_X2_narrowest_40 N k_7 v1 s.2.2 r2 m)))
theorem k_X2_narrowest_7 {L : Nat} {xs : Nat → Int32} {δ N : Nat} {v1 : Int32} {m : mj_m} (hδ : 1 ≤ δ) : ∀ (n : Nat) (s : Int32 × Int64 × Int32) (a : Int32), mj_lp n (f_X2_narrowest_7 N v1 m) s = some a → mj_Go (mj_EX L xs) (δ + 1) mY_X2_narrowest 7 [(0, .ref 36), (1, .int v1), (2, .int s.1), (3, .long s.2.1), (5, .int s.2.2)] [] (mj_fin m) (some (.int a), (mj_fin m)) := by
  refine mj_lp_sound (fun k_7 s a q_7 h => ?_)
  unfold f_X2_narrowest_7 at h
  refine mj_go_iload (i := 5) (x := s.2.2) rfl (mj_dt dt_X2_narrowest 6 rfl) ?_
  refine mj_go_aload_n (k := 0) (x := 36) rfl (mj_dt dt_X2_narrowest 7 rfl) ?_
  refine ml_getR (c := 2) (k := 0) (q := 1) fd_2_0 rf_36_0 (Or.inl fl_X2_44) ho_36 (mj_dt dt_X2_narrowest 8 rfl) ?_
  refine mk_getI (c := 7) (k := 6) (Or.inl fd_7_6) (Or.inl fl_X2_126) ho_1 (mj_dt dt_X2_narrowest 9 rfl) ?_
  refine mj_go_icmp_ge (tgt := 52) rfl (mj_dt dt_X2_narrowest 10 rfl) (fun b1 => ?_) (fun b1 => ?_)
  · rw [if_pos b1] at h
    refine mj_go_iload_n (k := 2) (x := s.1) rfl (mj_dt dt_X2_narrowest 29 rfl) ?_
    obtain rfl := Option.some.inj h
    exact mj_go_ret (v := some (.int s.1)) (Nat.le_of_ble_eq_true rfl) (mj_retI (mj_dt dt_X2_narrowest 30 rfl) rfl)
  · rw [if_neg b1] at h
    refine mj_go_aload_n (k := 0) (x := 36) rfl (mj_dt dt_X2_narrowest 11 rfl) ?_
    refine mj_go_iload (i := 5) (x := s.2.2) rfl (mj_dt dt_X2_narrowest 12 rfl) ?_
    refine mj_go_iload_n (k := 1) (x := v1) rfl (mj_dt dt_X2_narrowest 13 rfl) ?_
    obtain ⟨r2, er2, h⟩ := mj_bind_some h
    refine ml_callV (Y' := mY_X2_openOdds) (as := [.int s.2.2, .int v1]) (rest := []) (c := 2) (v := (some (.long r2))) (M1 := (mj_fin m)) ho_36 rfl lm_X2_129 wc_X2_openOdds pl_X2_openOdds ok_X2_openOdds rfl rfl (Nat.le_of_ble_eq_true rfl) (k_X2_openOdds (by omega) er2) (mj_dt dt_X2_narrowest 14 rfl) ?_
    refine mj_go_lstore (i := 6) (by decide) (mj_dt dt_X2_narrowest 15 rfl) ?_
    refine mj_go_iload_n (k := 2) (x := s.1) rfl (mj_dt dt_X2_narrowest 16 rfl) ?_
    refine mj_go_iconst (v := -1) rfl (mj_dt dt_X2_narrowest 17 rfl) ?_
    refine mj_go_icmp_eq (tgt := 40) rfl (mj_dt dt_X2_narrowest 18 rfl) (fun b3 => ?_) (fun b3 => ?_)
    · rw [if_pos b3] at h
      refine mj_go_sub (lv' := [(0, .ref 36), (1, .int v1), (5, .int s.2.2), (6, .long r2)]) (List.forall_mem_cons.mpr ⟨rfl, (List.forall_mem_cons.mpr ⟨rfl, (List.forall_mem_cons.mpr ⟨rfl, (List.forall_mem_cons.mpr ⟨rfl, (fun _ h9 => absurd h9 List.not_mem_nil)⟩)⟩)⟩)⟩) ?_
      exact k_X2_narrowest_40 q_7 hδ h
    · rw [if_neg b3] at h
      refine mj_go_lload (i := 6) (x := r2) rfl (mj_dt dt_X2_narrowest 19 rfl) ?_
      refine mj_go_lload_n (k := 3) (x := s.2.1) rfl (mj_dt dt_X2_narrowest 20 rfl) ?_
      refine mj_go_lcmp (mj_dt dt_X2_narrowest 21 rfl) ?_
      refine mj_go_if_ge (tgt := 46) rfl (mj_dt dt_X2_narrowest 22 rfl) (fun b4 => ?_) (fun b4 => ?_)
      · rw [if_pos b4] at h
        refine mj_go_sub (lv' := [(0, .ref 36), (1, .int v1), (2, .int s.1), (3, .long s.2.1), (5, .int s.2.2)]) (List.forall_mem_cons.mpr ⟨rfl, (List.forall_mem_cons.mpr ⟨rfl, (List.forall_mem_cons.mpr ⟨rfl, (List.forall_mem_cons.mpr ⟨rfl, (List.forall_mem_cons.mpr ⟨rfl, (fun _ h9 => absurd h9 List.not_mem_nil)⟩)⟩)⟩)⟩)⟩) ?_
        exact k_X2_narrowest_46 q_7 hδ h
      · rw [if_neg b4] at h
        refine mj_go_sub (lv' := [(0, .ref 36), (1, .int v1), (5, .int s.2.2), (6, .long r2)]) (List.forall_mem_cons.mpr ⟨rfl, (List.forall_mem_cons.mpr ⟨rfl, (List.forall_mem_cons.mpr ⟨rfl, (List.forall_mem_cons.mpr ⟨rfl, (fun _ h9 => absurd h9 List.not_mem_nil)⟩)⟩)⟩)⟩) ?_
        exact k_X2_narrowest_40 q_7 hδ h
def f_X2_narrowest (N : Nat) (v1 : Int32) (m : mj_m) : Option (Int32) := mj_lp N (f_X2_narrowest_7 N v1 m) ((-1 : Int32), 0, 0)
theorem k_X2_narrowest {L : Nat} {xs : Nat → Int32} {δ N : Nat} {v1 : Int32} {m : mj_m} (hδ : 2 ≤ δ) {a : Int32} (h : f_X2_narrowest N v1 m = some a) : mj_Cl (mj_EX L xs) δ mY_X2_narrowest [.ref 36, .int v1] (mj_fin m) (some (.int a), (mj_fin m)) := by
  obtain ⟨δ, rfl⟩ : ∃ d, δ = d + 1 := ⟨δ - 1, by omega⟩
  have hδ : 1 ≤ δ := by omega
  refine mj_cl_of ok_X2_narrowest (Nat.le_of_ble_eq_true rfl) ?_
  unfold f_X2_narrowest at h
  refine mj_go_iconst (v := -1) rfl (mj_dt dt_X2_narrowest 0 rfl) ?_
  refine mj_go_istore_n (k := 2) (by decide) (mj_dt dt_X2_narrowest 1 rfl) ?_
  refine mj_go_lconst (v := 0) rfl (mj_dt dt_X2_narrowest 2 rfl) ?_
  refine mj_go_lstore_n (k := 3) (by decide) (mj_dt dt_X2_narrowest 3 rfl) ?_
  refine mj_go_iconst (v := 0) rfl (mj_dt dt_X2_narrowest 4 rfl) ?_
  refine mj_go_istore (i := 5) (by decide) (mj_dt dt_X2_narrowest 5 rfl) ?_
  refine mj_go_sub (lv' := [(0, .ref 36), (1, .int v1), (2, .int (-1 : Int32)), (3, .long 0), (5, .int 0)]) (List.forall_mem_cons.mpr ⟨rfl, (List.forall_mem_cons.mpr ⟨rfl, (List.forall_mem_cons.mpr ⟨rfl, (List.forall_mem_cons.mpr ⟨rfl, (List.forall_mem_cons.mpr ⟨rfl, (fun _ h9 => absurd h9 List.not_mem_nil)⟩)⟩)⟩)⟩)⟩) ?_
  exact k_X2_narrowest_7 hδ N _ _ h
def f_X8_narrow (N : Nat) (v1 : Int32) (m : mj_m) : Option (Int32 × mj_m) := (f_X7_isShake N v1 m).bind (fun r1 => if r1 = 0 then ((f_X8_refuseBelowTen N 1 m).bind (fun r3 => (some (r3.1, r3.2)))) else ((f_X2_narrowest N v1 m).bind (fun r3 => (some (r3, m)))))
theorem k_X8_narrow {L : Nat} {xs : Nat → Int32} {δ N : Nat} {v1 : Int32} {m : mj_m} (hδ : 3 ≤ δ) {a : Int32 × mj_m} (h : f_X8_narrow N v1 m = some a) : mj_Cl (mj_EX L xs) δ mY_X8_narrow [.ref 0, .int v1] (mj_fin m) (some (.int a.1), (mj_fin a.2)) := by
  obtain ⟨δ, rfl⟩ : ∃ d, δ = d + 1 := ⟨δ - 1, by omega⟩
  have hδ : 2 ≤ δ := by omega
  refine mj_cl_of ok_X8_narrow (Nat.le_of_ble_eq_true rfl) ?_
  unfold f_X8_narrow at h
  refine mj_go_aload_n (k := 0) (x := 0) rfl (mj_dt dt_X8_narrow 0 rfl) ?_
  refine ml_getR (c := 8) (k := 0) (q := 1) fd_8_0 rf_0_0 (Or.inl fl_X8_12) ho_0 (mj_dt dt_X8_narrow 1 rfl) ?_
  refine mj_go_iload_n (k := 1) (x := v1) rfl (mj_dt dt_X8_narrow 2 rfl) ?_
  obtain ⟨r1, er1, h⟩ := mj_bind_some h
  refine ml_callV (Y' := mY_X7_isShake) (as := [.int v1]) (rest := []) (c := 7) (v := (some (.int r1))) (M1 := (mj_fin m)) ho_1 rfl lm_X8_246 wc_X7_isShake pl_X7_isShake ok_X7_isShake rfl rfl (Nat.le_of_ble_eq_true rfl) (k_X7_isShake (by omega) er1) (mj_dt dt_X8_narrow 3 rfl) ?_
  refine mj_go_if_eq (tgt := 22) rfl (mj_dt dt_X8_narrow 4 rfl) (fun b2 => ?_) (fun b2 => ?_)
  · rw [if_pos b2] at h
    refine mj_go_aload_n (k := 0) (x := 0) rfl (mj_dt dt_X8_narrow 10 rfl) ?_
    refine mj_go_iconst (v := 1) rfl (mj_dt dt_X8_narrow 11 rfl) ?_
    obtain ⟨r3, er3, h⟩ := mj_bind_some h
    refine ml_callV (Y' := mY_X8_refuseBelowTen) (as := [.int 1]) (rest := []) (c := 8) (v := (some (.int r3.1))) (M1 := (mj_fin r3.2)) ho_0 rfl lm_X8_224 wc_X8_refuseBelowTen pl_X8_refuseBelowTen ok_X8_refuseBelowTen rfl rfl (Nat.le_of_ble_eq_true rfl) (k_X8_refuseBelowTen (by omega) er3) (mj_dt dt_X8_narrow 12 rfl) ?_
    obtain rfl := Option.some.inj h
    exact mj_go_ret (v := some (.int r3.1)) (Nat.le_of_ble_eq_true rfl) (mj_retI (mj_dt dt_X8_narrow 13 rfl) rfl)
  · rw [if_neg b2] at h
    refine mj_go_aload_n (k := 0) (x := 0) rfl (mj_dt dt_X8_narrow 5 rfl) ?_
    refine ml_getR (c := 8) (k := 3) (q := 36) fd_8_3 rf_0_3 (Or.inl fl_X8_30) ho_0 (mj_dt dt_X8_narrow 6 rfl) ?_
    refine mj_go_iload_n (k := 1) (x := v1) rfl (mj_dt dt_X8_narrow 7 rfl) ?_
    obtain ⟨r3, er3, h⟩ := mj_bind_some h
    refine ml_callV (Y' := mY_X2_narrowest) (as := [.int v1]) (rest := []) (c := 2) (v := (some (.int r3))) (M1 := (mj_fin m)) ho_36 rfl lm_X8_333 wc_X2_narrowest pl_X2_narrowest ok_X2_narrowest rfl rfl (Nat.le_of_ble_eq_true rfl) (k_X2_narrowest (by omega) er3) (mj_dt dt_X8_narrow 8 rfl) ?_
    refine mj_go_goto (tgt := 27) rfl (mj_dt dt_X8_narrow 9 rfl) ?_
    obtain rfl := Option.some.inj h
    exact mj_go_ret (v := some (.int r3)) (Nat.le_of_ble_eq_true rfl) (mj_retI (mj_dt dt_X8_narrow 13 rfl) rfl)
def f_X9_narrow_123 (N : Nat) (k_21 : Int32 × Int64 × Int32 → Option (Int32 × mj_m)) (v1 : Int32) (v2 : Int32) (v3 : Int64) (v5 : Int32) (m : mj_m) : Option (Int32 × mj_m) := mj_mw (v5 + 1) (fun x1 => k_21 (v2, v3, x1))
theorem k_X9_narrow_123 {L : Nat} {xs : Nat → Int32} {δ N : Nat} {v1 : Int32} {v2 : Int32} {v3 : Int64} {v5 : Int32} {m : mj_m} {k_21 : Int32 × Int64 × Int32 → Option (Int32 × mj_m)} (q_21 : ∀ (s_ : Int32 × Int64 × Int32) (a_ : Int32 × mj_m), k_21 s_ = some a_ → mj_Go (mj_EX L xs) (δ + 1) mY_X9_narrow 21 [(0, .ref 95), (1, .int v1), (2, .int s_.1), (3, .long s_.2.1), (5, .int s_.2.2)] [] (mj_fin m) (some (.int a_.1), (mj_fin a_.2))) (hδ : 0 ≤ δ) {a : Int32 × mj_m} (h : f_X9_narrow_123 N k_21 v1 v2 v3 v5 m = some a) : mj_Go (mj_EX L xs) (δ + 1) mY_X9_narrow 123 [(0, .ref 95), (1, .int v1), (2, .int v2), (3, .long v3), (5, .int v5)] [] (mj_fin m) (some (.int a.1), (mj_fin a.2)) := by
  unfold f_X9_narrow_123 at h
  obtain ⟨x1, ex1, h⟩ := mj_mw_some h
  refine mj_go_iinc (i := 5) (x := v5) (v := x1) rfl (by rw [ex1] <;> rfl) (by decide) (mj_dt dt_X9_narrow 68 rfl) ?_
  refine mj_go_goto (tgt := 21) rfl (mj_dt dt_X9_narrow 69 rfl) ?_
  refine mj_go_sub (lv' := [(0, .ref 95), (1, .int v1), (2, .int v2), (3, .long v3), (5, .int x1)]) (List.forall_mem_cons.mpr ⟨rfl, (List.forall_mem_cons.mpr ⟨rfl, (List.forall_mem_cons.mpr ⟨rfl, (List.forall_mem_cons.mpr ⟨rfl, (List.forall_mem_cons.mpr ⟨rfl, (fun _ h9 => absurd h9 List.not_mem_nil)⟩)⟩)⟩)⟩)⟩) ?_
  exact q_21 _ _ h
def f_X9_narrow_114 (N : Nat) (k_21 : Int32 × Int64 × Int32 → Option (Int32 × mj_m)) (v1 : Int32) (v5 : Int32) (v6 : Int64) (v8 : Int64) (m : mj_m) : Option (Int32 × mj_m) := mj_mw (v8 - v6) (fun x1 => f_X9_narrow_123 N k_21 v1 v5 x1 v5 m)
theorem k_X9_narrow_114 {L : Nat} {xs : Nat → Int32} {δ N : Nat} {v1 : Int32} {v5 : Int32} {v6 : Int64} {v8 : Int64} {m : mj_m} {k_21 : Int32 × Int64 × Int32 → Option (Int32 × mj_m)} (q_21 : ∀ (s_ : Int32 × Int64 × Int32) (a_ : Int32 × mj_m), k_21 s_ = some a_ → mj_Go (mj_EX L xs) (δ + 1) mY_X9_narrow 21 [(0, .ref 95), (1, .int v1), (2, .int s_.1), (3, .long s_.2.1), (5, .int s_.2.2)] [] (mj_fin m) (some (.int a_.1), (mj_fin a_.2))) (hδ : 0 ≤ δ) {a : Int32 × mj_m} (h : f_X9_narrow_114 N k_21 v1 v5 v6 v8 m = some a) : mj_Go (mj_EX L xs) (δ + 1) mY_X9_narrow 114 [(0, .ref 95), (1, .int v1), (5, .int v5), (6, .long v6), (8, .long v8)] [] (mj_fin m) (some (.int a.1), (mj_fin a.2)) := by
  unfold f_X9_narrow_114 at h
  refine mj_go_iload (i := 5) (x := v5) rfl (mj_dt dt_X9_narrow 62 rfl) ?_
  refine mj_go_istore_n (k := 2) (by decide) (mj_dt dt_X9_narrow 63 rfl) ?_
  refine mj_go_lload (i := 8) (x := v8) rfl (mj_dt dt_X9_narrow 64 rfl) ?_
  refine mj_go_lload (i := 6) (x := v6) rfl (mj_dt dt_X9_narrow 65 rfl) ?_
  refine mj_go_lsub (mj_dt dt_X9_narrow 66 rfl) ?_
  obtain ⟨x1, ex1, h⟩ := mj_mw_some h
  refine ml_eql ex1 ?_
  refine mj_go_lstore_n (k := 3) (by decide) (mj_dt dt_X9_narrow 67 rfl) ?_
  refine mj_go_sub (lv' := [(0, .ref 95), (1, .int v1), (2, .int v5), (3, .long x1), (5, .int v5)]) (List.forall_mem_cons.mpr ⟨rfl, (List.forall_mem_cons.mpr ⟨rfl, (List.forall_mem_cons.mpr ⟨rfl, (List.forall_mem_cons.mpr ⟨rfl, (List.forall_mem_cons.mpr ⟨rfl, (fun _ h9 => absurd h9 List.not_mem_nil)⟩)⟩)⟩)⟩)⟩) ?_
  exact k_X9_narrow_123 q_21 hδ h
def f_X9_narrow_79 (N : Nat) (k_21 : Int32 × Int64 × Int32 → Option (Int32 × mj_m)) (k_39 : Int64 × Int64 × Int32 → Option (Int32 × mj_m)) (v1 : Int32) (v2 : Int32) (v3 : Int64) (v5 : Int32) (v8 : Int64) (v10 : Int32) (s0 : Int64) (s1 : Int64) (m : mj_m) : Option (Int32 × mj_m) := mj_mw (s0 * s1) (fun x1 => mj_mw (v8 * 10) (fun x2 => mj_mw (v10 + 1) (fun x3 => k_39 (x1, x2, x3))))
theorem k_X9_narrow_79 {L : Nat} {xs : Nat → Int32} {δ N : Nat} {v1 : Int32} {v2 : Int32} {v3 : Int64} {v5 : Int32} {v8 : Int64} {v10 : Int32} {s0 : Int64} {s1 : Int64} {m : mj_m} {k_21 : Int32 × Int64 × Int32 → Option (Int32 × mj_m)} (q_21 : ∀ (s_ : Int32 × Int64 × Int32) (a_ : Int32 × mj_m), k_21 s_ = some a_ → mj_Go (mj_EX L xs) (δ + 1) mY_X9_narrow 21 [(0, .ref 95), (1, .int v1), (2, .int s_.1), (3, .long s_.2.1), (5, .int s_.2.2)] [] (mj_fin m) (some (.int a_.1), (mj_fin a_.2))) {k_39 : Int64 × Int64 × Int32 → Option (Int32 × mj_m)} (q_39 : ∀ (s_ : Int64 × Int64 × Int32) (a_ : Int32 × mj_m), k_39 s_ = some a_ → mj_Go (mj_EX L xs) (δ + 1) mY_X9_narrow 39 [(0, .ref 95), (1, .int v1), (2, .int v2), (3, .long v3), (5, .int v5), (6, .long s_.1), (8, .long s_.2.1), (10, .int s_.2.2)] [] (mj_fin m) (some (.int a_.1), (mj_fin a_.2))) (hδ : 0 ≤ δ) {a : Int32 × mj_m} (h : f_X9_narrow_79 N k_21 k_39 v1 v2 v3 v5 v8 v10 s0 s1 m = some a) : mj_Go (mj_EX L xs) (δ + 1) mY_X9_narrow 79 [(0, .ref 95), (1, .int v1), (2, .int v2), (3, .long v3), (5, .int v5), (8, .long v8), (10, .int v10)] [.long s1, .long s0] (mj_fin m) (some (.int a.1), (mj_fin a.2)) := by
  unfold f_X9_narrow_79 at h
  refine mj_go_lmul (mj_dt dt_X9_narrow 44 rfl) ?_
  obtain ⟨x1, ex1, h⟩ := mj_mw_some h
  refine ml_eql ex1 ?_
  refine mj_go_lstore (i := 6) (by decide) (mj_dt dt_X9_narrow 45 rfl) ?_
  refine mj_go_lload (i := 8) (x := v8) rfl (mj_dt dt_X9_narrow 46 rfl) ?_
  refine mj_go_ldc2 (v := 10) cl_X9_243 (mj_dt dt_X9_narrow 47 rfl) ?_
  refine mj_go_lmul (mj_dt dt_X9_narrow 48 rfl) ?_
  obtain ⟨x2, ex2, h⟩ := mj_mw_some h
  refine ml_eql ex2 ?_
  refine mj_go_lstore (i := 8) (by decide) (mj_dt dt_X9_narrow 49 rfl) ?_
  obtain ⟨x3, ex3, h⟩ := mj_mw_some h
  refine mj_go_iinc (i := 10) (x := v10) (v := x3) rfl (by rw [ex3] <;> rfl) (by decide) (mj_dt dt_X9_narrow 50 rfl) ?_
  refine mj_go_goto (tgt := 39) rfl (mj_dt dt_X9_narrow 51 rfl) ?_
  refine mj_go_sub (lv' := [(0, .ref 95), (1, .int v1), (2, .int v2), (3, .long v3), (5, .int v5), (6, .long x1), (8, .long x2), (10, .int x3)]) (List.forall_mem_cons.mpr ⟨rfl, (List.forall_mem_cons.mpr ⟨rfl, (List.forall_mem_cons.mpr ⟨rfl, (List.forall_mem_cons.mpr ⟨rfl, (List.forall_mem_cons.mpr ⟨rfl, (List.forall_mem_cons.mpr ⟨rfl, (List.forall_mem_cons.mpr ⟨rfl, (List.forall_mem_cons.mpr ⟨rfl, (fun _ h9 => absurd h9 List.not_mem_nil)⟩)⟩)⟩)⟩)⟩)⟩)⟩)⟩) ?_
  exact q_39 _ _ h
def f_X9_narrow_39 (N : Nat) (k_21 : Int32 × Int64 × Int32 → Option (Int32 × mj_m)) (v1 : Int32) (v2 : Int32) (v3 : Int64) (v5 : Int32) (m : mj_m) (k_39 : Int64 × Int64 × Int32 → Option (Int32 × mj_m)) (s : Int64 × Int64 × Int32) : Option (Int32 × mj_m) := if (m.1 95 1) ≤ s.2.2 then (if v2 = (-1 : Int32) then f_X9_narrow_114 N k_21 v1 v5 s.1 s.2.1 m else (if 0 < (lg_cmp (s.2.1 - s.1) v3) then f_X9_narrow_114 N k_21 v1 v5 s.1 s.2.1 m else (f_X9_narrow_123 N k_21 v1 v2 v3 v5 m))) else (mj_ck (mj_b 0 106 s.2.2) ( if (m.1 106 s.2.2.toNatClampNeg) = v5 then ((f_X9_fallsOf N s.2.2 v1 m).bind (fun r4 => f_X9_narrow_79 N k_21 k_39 v1 v2 v3 v5 s.2.1 s.2.2 s.1 ((10 - r4).toInt64) m)) else (f_X9_narrow_79 N k_21 k_39 v1 v2 v3 v5 s.2.1 s.2.2 s.1 10 m)))
theorem k_X9_narrow_39 {L : Nat} {xs : Nat → Int32} {δ N : Nat} {v1 : Int32} {v2 : Int32} {v3 : Int64} {v5 : Int32} {m : mj_m} {k_21 : Int32 × Int64 × Int32 → Option (Int32 × mj_m)} (q_21 : ∀ (s_ : Int32 × Int64 × Int32) (a_ : Int32 × mj_m), k_21 s_ = some a_ → mj_Go (mj_EX L xs) (δ + 1) mY_X9_narrow 21 [(0, .ref 95), (1, .int v1), (2, .int s_.1), (3, .long s_.2.1), (5, .int s_.2.2)] [] (mj_fin m) (some (.int a_.1), (mj_fin a_.2))) (hδ : 0 ≤ δ) : ∀ (n : Nat) (s : Int64 × Int64 × Int32) (a : Int32 × mj_m), mj_lp n (f_X9_narrow_39 N k_21 v1 v2 v3 v5 m) s = some a → mj_Go (mj_EX L xs) (δ + 1) mY_X9_narrow 39 [(0, .ref 95), (1, .int v1), (2, .int v2), (3, .long v3), (5, .int v5), (6, .long s.1), (8, .long s.2.1), (10, .int s.2.2)] [] (mj_fin m) (some (.int a.1), (mj_fin a.2)) := by
  refine mj_lp_sound (fun k_39 s a q_39 h => ?_)
  unfold f_X9_narrow_39 at h
  refine mj_go_iload (i := 10) (x := s.2.2) rfl (mj_dt dt_X9_narrow 24 rfl) ?_
  refine mj_go_aload_n (k := 0) (x := 95) rfl (mj_dt dt_X9_narrow 25 rfl) ?_
  refine mk_getI (c := 9) (k := 1) (Or.inl fd_9_1) (Or.inl fl_X9_124) ho_95 (mj_dt dt_X9_narrow 26 rfl) ?_
  refine mj_go_icmp_ge (tgt := 96) rfl (mj_dt dt_X9_narrow 27 rfl) (fun b1 => ?_) (fun b1 => ?_)
  · rw [if_pos b1] at h
    refine mj_go_iload_n (k := 2) (x := v2) rfl (mj_dt dt_X9_narrow 52 rfl) ?_
    refine mj_go_iconst (v := -1) rfl (mj_dt dt_X9_narrow 53 rfl) ?_
    refine mj_go_icmp_eq (tgt := 114) rfl (mj_dt dt_X9_narrow 54 rfl) (fun b2 => ?_) (fun b2 => ?_)
    · rw [if_pos b2] at h
      refine mj_go_sub (lv' := [(0, .ref 95), (1, .int v1), (5, .int v5), (6, .long s.1), (8, .long s.2.1)]) (List.forall_mem_cons.mpr ⟨rfl, (List.forall_mem_cons.mpr ⟨rfl, (List.forall_mem_cons.mpr ⟨rfl, (List.forall_mem_cons.mpr ⟨rfl, (List.forall_mem_cons.mpr ⟨rfl, (fun _ h9 => absurd h9 List.not_mem_nil)⟩)⟩)⟩)⟩)⟩) ?_
      exact k_X9_narrow_114 q_21 hδ h
    · rw [if_neg b2] at h
      refine mj_go_lload (i := 8) (x := s.2.1) rfl (mj_dt dt_X9_narrow 55 rfl) ?_
      refine mj_go_lload (i := 6) (x := s.1) rfl (mj_dt dt_X9_narrow 56 rfl) ?_
      refine mj_go_lsub (mj_dt dt_X9_narrow 57 rfl) ?_
      refine mj_go_lload_n (k := 3) (x := v3) rfl (mj_dt dt_X9_narrow 58 rfl) ?_
      refine mj_go_lcmp (mj_dt dt_X9_narrow 59 rfl) ?_
      refine mj_go_if_gt (tgt := 114) rfl (mj_dt dt_X9_narrow 60 rfl) (fun b3 => ?_) (fun b3 => ?_)
      · rw [if_pos b3] at h
        refine mj_go_sub (lv' := [(0, .ref 95), (1, .int v1), (5, .int v5), (6, .long s.1), (8, .long s.2.1)]) (List.forall_mem_cons.mpr ⟨rfl, (List.forall_mem_cons.mpr ⟨rfl, (List.forall_mem_cons.mpr ⟨rfl, (List.forall_mem_cons.mpr ⟨rfl, (List.forall_mem_cons.mpr ⟨rfl, (fun _ h9 => absurd h9 List.not_mem_nil)⟩)⟩)⟩)⟩)⟩) ?_
        exact k_X9_narrow_114 q_21 hδ h
      · rw [if_neg b3] at h
        refine mj_go_goto (tgt := 123) rfl (mj_dt dt_X9_narrow 61 rfl) ?_
        refine mj_go_sub (lv' := [(0, .ref 95), (1, .int v1), (2, .int v2), (3, .long v3), (5, .int v5)]) (List.forall_mem_cons.mpr ⟨rfl, (List.forall_mem_cons.mpr ⟨rfl, (List.forall_mem_cons.mpr ⟨rfl, (List.forall_mem_cons.mpr ⟨rfl, (List.forall_mem_cons.mpr ⟨rfl, (fun _ h9 => absurd h9 List.not_mem_nil)⟩)⟩)⟩)⟩)⟩) ?_
        exact k_X9_narrow_123 q_21 hδ h
  · rw [if_neg b1] at h
    refine mj_go_lload (i := 6) (x := s.1) rfl (mj_dt dt_X9_narrow 28 rfl) ?_
    refine mj_go_aload_n (k := 0) (x := 95) rfl (mj_dt dt_X9_narrow 29 rfl) ?_
    refine ml_getR (c := 9) (k := 21) (q := 106) fd_9_21 rf_95_21 (Or.inl fl_X9_56) ho_95 (mj_dt dt_X9_narrow 30 rfl) ?_
    refine mj_go_iload (i := 10) (x := s.2.2) rfl (mj_dt dt_X9_narrow 31 rfl) ?_
    obtain ⟨c2, h⟩ := mj_ck_some h
    refine mk_iald c2 (mj_dt dt_X9_narrow 32 rfl) ?_
    refine mj_go_iload (i := 5) (x := v5) rfl (mj_dt dt_X9_narrow 33 rfl) ?_
    refine mj_go_icmp_ne (tgt := 76) rfl (mj_dt dt_X9_narrow 34 rfl) (fun b3 => ?_) (fun b3 => ?_)
    · rw [if_neg b3] at h
      refine mj_go_ldc2 (v := 10) cl_X9_243 (mj_dt dt_X9_narrow 43 rfl) ?_
      refine mj_go_sub (lv' := [(0, .ref 95), (1, .int v1), (2, .int v2), (3, .long v3), (5, .int v5), (8, .long s.2.1), (10, .int s.2.2)]) (List.forall_mem_cons.mpr ⟨rfl, (List.forall_mem_cons.mpr ⟨rfl, (List.forall_mem_cons.mpr ⟨rfl, (List.forall_mem_cons.mpr ⟨rfl, (List.forall_mem_cons.mpr ⟨rfl, (List.forall_mem_cons.mpr ⟨rfl, (List.forall_mem_cons.mpr ⟨rfl, (fun _ h9 => absurd h9 List.not_mem_nil)⟩)⟩)⟩)⟩)⟩)⟩)⟩) ?_
      exact k_X9_narrow_79 q_21 q_39 hδ h
    · rw [if_pos b3] at h
      refine mj_go_bipush (v := 10) rfl (mj_dt dt_X9_narrow 35 rfl) ?_
      refine mj_go_aload_n (k := 0) (x := 95) rfl (mj_dt dt_X9_narrow 36 rfl) ?_
      refine mj_go_iload (i := 10) (x := s.2.2) rfl (mj_dt dt_X9_narrow 37 rfl) ?_
      refine mj_go_iload_n (k := 1) (x := v1) rfl (mj_dt dt_X9_narrow 38 rfl) ?_
      obtain ⟨r4, er4, h⟩ := mj_bind_some h
      refine ml_callV (Y' := mY_X9_fallsOf) (as := [.int s.2.2, .int v1]) (rest := [.int 10, .long s.1]) (c := 9) (v := (some (.int r4))) (M1 := (mj_fin m)) ho_95 rfl lm_X9_237 wc_X9_fallsOf pl_X9_fallsOf ok_X9_fallsOf rfl rfl (Nat.le_of_ble_eq_true rfl) (k_X9_fallsOf (by omega) er4) (mj_dt dt_X9_narrow 39 rfl) ?_
      refine mj_go_isub (mj_dt dt_X9_narrow 40 rfl) ?_
      refine mj_go_i2l (mj_dt dt_X9_narrow 41 rfl) ?_
      refine mj_go_goto (tgt := 79) rfl (mj_dt dt_X9_narrow 42 rfl) ?_
      refine mj_go_sub (lv' := [(0, .ref 95), (1, .int v1), (2, .int v2), (3, .long v3), (5, .int v5), (8, .long s.2.1), (10, .int s.2.2)]) (List.forall_mem_cons.mpr ⟨rfl, (List.forall_mem_cons.mpr ⟨rfl, (List.forall_mem_cons.mpr ⟨rfl, (List.forall_mem_cons.mpr ⟨rfl, (List.forall_mem_cons.mpr ⟨rfl, (List.forall_mem_cons.mpr ⟨rfl, (List.forall_mem_cons.mpr ⟨rfl, (fun _ h9 => absurd h9 List.not_mem_nil)⟩)⟩)⟩)⟩)⟩)⟩)⟩) ?_
      exact k_X9_narrow_79 q_21 q_39 hδ h
def f_X9_narrow_21 (N : Nat) (v1 : Int32) (m : mj_m) (k_21 : Int32 × Int64 × Int32 → Option (Int32 × mj_m)) (s : Int32 × Int64 × Int32) : Option (Int32 × mj_m) := if (m.1 95 0) ≤ s.2.2 then (some (s.1, m)) else (mj_lp N (f_X9_narrow_39 N k_21 v1 s.1 s.2.1 s.2.2 m) (1, 1, 0))
theorem k_X9_narrow_21 {L : Nat} {xs : Nat → Int32} {δ N : Nat} {v1 : Int32} {m : mj_m} (hδ : 0 ≤ δ) : ∀ (n : Nat) (s : Int32 × Int64 × Int32) (a : Int32 × mj_m), mj_lp n (f_X9_narrow_21 N v1 m) s = some a → mj_Go (mj_EX L xs) (δ + 1) mY_X9_narrow 21 [(0, .ref 95), (1, .int v1), (2, .int s.1), (3, .long s.2.1), (5, .int s.2.2)] [] (mj_fin m) (some (.int a.1), (mj_fin a.2)) := by
  refine mj_lp_sound (fun k_21 s a q_21 h => ?_)
  unfold f_X9_narrow_21 at h
  refine mj_go_iload (i := 5) (x := s.2.2) rfl (mj_dt dt_X9_narrow 14 rfl) ?_
  refine mj_go_aload_n (k := 0) (x := 95) rfl (mj_dt dt_X9_narrow 15 rfl) ?_
  refine mk_getI (c := 9) (k := 0) (Or.inl fd_9_0) (Or.inl fl_X9_149) ho_95 (mj_dt dt_X9_narrow 16 rfl) ?_
  refine mj_go_icmp_ge (tgt := 129) rfl (mj_dt dt_X9_narrow 17 rfl) (fun b1 => ?_) (fun b1 => ?_)
  · rw [if_pos b1] at h
    refine mj_go_iload_n (k := 2) (x := s.1) rfl (mj_dt dt_X9_narrow 70 rfl) ?_
    obtain rfl := Option.some.inj h
    exact mj_go_ret (v := some (.int s.1)) (Nat.le_of_ble_eq_true rfl) (mj_retI (mj_dt dt_X9_narrow 71 rfl) rfl)
  · rw [if_neg b1] at h
    refine mj_go_lconst (v := 1) rfl (mj_dt dt_X9_narrow 18 rfl) ?_
    refine mj_go_lstore (i := 6) (by decide) (mj_dt dt_X9_narrow 19 rfl) ?_
    refine mj_go_lconst (v := 1) rfl (mj_dt dt_X9_narrow 20 rfl) ?_
    refine mj_go_lstore (i := 8) (by decide) (mj_dt dt_X9_narrow 21 rfl) ?_
    refine mj_go_iconst (v := 0) rfl (mj_dt dt_X9_narrow 22 rfl) ?_
    refine mj_go_istore (i := 10) (by decide) (mj_dt dt_X9_narrow 23 rfl) ?_
    refine mj_go_sub (lv' := [(0, .ref 95), (1, .int v1), (2, .int s.1), (3, .long s.2.1), (5, .int s.2.2), (6, .long 1), (8, .long 1), (10, .int 0)]) (List.forall_mem_cons.mpr ⟨rfl, (List.forall_mem_cons.mpr ⟨rfl, (List.forall_mem_cons.mpr ⟨rfl, (List.forall_mem_cons.mpr ⟨rfl, (List.forall_mem_cons.mpr ⟨rfl, (List.forall_mem_cons.mpr ⟨rfl, (List.forall_mem_cons.mpr ⟨rfl, (List.forall_mem_cons.mpr ⟨rfl, (fun _ h9 => absurd h9 List.not_mem_nil)⟩)⟩)⟩)⟩)⟩)⟩)⟩)⟩) ?_
    exact k_X9_narrow_39 q_21 hδ N _ _ h
def f_X9_narrow (N : Nat) (v1 : Int32) (m : mj_m) : Option (Int32 × mj_m) := (f_X9_isShake N v1 m).bind (fun r1 => if r1 = 0 then ((f_X9_noTen N (-1 : Int32) m).bind (fun r3 => some (r3.1, r3.2))) else (mj_lp N (f_X9_narrow_21 N v1 m) ((-1 : Int32), 0, 0)))
theorem k_X9_narrow {L : Nat} {xs : Nat → Int32} {δ N : Nat} {v1 : Int32} {m : mj_m} (hδ : 1 ≤ δ) {a : Int32 × mj_m} (h : f_X9_narrow N v1 m = some a) : mj_Cl (mj_EX L xs) δ mY_X9_narrow [.ref 95, .int v1] (mj_fin m) (some (.int a.1), (mj_fin a.2)) := by
  obtain ⟨δ, rfl⟩ : ∃ d, δ = d + 1 := ⟨δ - 1, by omega⟩
  have hδ : 0 ≤ δ := by omega
  refine mj_cl_of ok_X9_narrow (Nat.le_of_ble_eq_true rfl) ?_
  unfold f_X9_narrow at h
  refine mj_go_aload_n (k := 0) (x := 95) rfl (mj_dt dt_X9_narrow 0 rfl) ?_
  refine mj_go_iload_n (k := 1) (x := v1) rfl (mj_dt dt_X9_narrow 1 rfl) ?_
  obtain ⟨r1, er1, h⟩ := mj_bind_some h
  refine ml_callV (Y' := mY_X9_isShake) (as := [.int v1]) (rest := []) (c := 9) (v := (some (.int r1))) (M1 := (mj_fin m)) ho_95 rfl lm_X9_234 wc_X9_isShake pl_X9_isShake ok_X9_isShake rfl rfl (Nat.le_of_ble_eq_true rfl) (k_X9_isShake (by omega) er1) (mj_dt dt_X9_narrow 2 rfl) ?_
  refine mj_go_if_ne (tgt := 14) rfl (mj_dt dt_X9_narrow 3 rfl) (fun b2 => ?_) (fun b2 => ?_)
  · rw [if_neg b2] at h
    refine mj_go_iconst (v := -1) rfl (mj_dt dt_X9_narrow 8 rfl) ?_
    refine mj_go_istore_n (k := 2) (by decide) (mj_dt dt_X9_narrow 9 rfl) ?_
    refine mj_go_lconst (v := 0) rfl (mj_dt dt_X9_narrow 10 rfl) ?_
    refine mj_go_lstore_n (k := 3) (by decide) (mj_dt dt_X9_narrow 11 rfl) ?_
    refine mj_go_iconst (v := 0) rfl (mj_dt dt_X9_narrow 12 rfl) ?_
    refine mj_go_istore (i := 5) (by decide) (mj_dt dt_X9_narrow 13 rfl) ?_
    refine mj_go_sub (lv' := [(0, .ref 95), (1, .int v1), (2, .int (-1 : Int32)), (3, .long 0), (5, .int 0)]) (List.forall_mem_cons.mpr ⟨rfl, (List.forall_mem_cons.mpr ⟨rfl, (List.forall_mem_cons.mpr ⟨rfl, (List.forall_mem_cons.mpr ⟨rfl, (List.forall_mem_cons.mpr ⟨rfl, (fun _ h9 => absurd h9 List.not_mem_nil)⟩)⟩)⟩)⟩)⟩) ?_
    exact k_X9_narrow_21 hδ N _ _ h
  · rw [if_pos b2] at h
    refine mj_go_aload_n (k := 0) (x := 95) rfl (mj_dt dt_X9_narrow 4 rfl) ?_
    refine mj_go_iconst (v := -1) rfl (mj_dt dt_X9_narrow 5 rfl) ?_
    obtain ⟨r3, er3, h⟩ := mj_bind_some h
    refine ml_callV (Y' := mY_X9_noTen) (as := [.int (-1 : Int32)]) (rest := []) (c := 9) (v := (some (.int r3.1))) (M1 := (mj_fin r3.2)) ho_95 rfl lm_X9_171 wc_X9_noTen pl_X9_noTen ok_X9_noTen rfl rfl (Nat.le_of_ble_eq_true rfl) (k_X9_noTen (by omega) er3) (mj_dt dt_X9_narrow 6 rfl) ?_
    obtain rfl := Option.some.inj h
    exact mj_go_ret (v := some (.int r3.1)) (Nat.le_of_ble_eq_true rfl) (mj_retI (mj_dt dt_X9_narrow 7 rfl) rfl)
def f_X7_endYear_2 (N : Nat) (k_2 : Int32 × mj_m → Option (mj_m)) (s : Int32 × mj_m) : Option (mj_m) := if (s.2.1 1 7) ≤ s.1 then (mj_mw (mj_wI s.2 1 13 ((s.2.1 1 13) + 1)) (fun m2 => some m2)) else (mj_ck (mj_b 2 4 s.1) ( mj_ck (mj_b 0 5 s.1) ( mj_mw (mj_wI s.2 (8 + s.1.toNatClampNeg) 2 (if ((s.2.1 (8 + s.1.toNatClampNeg) 2) + (s.2.1 5 s.1.toNatClampNeg)) < 99 then ((s.2.1 (8 + s.1.toNatClampNeg) 2) + (s.2.1 5 s.1.toNatClampNeg)) else 99)) (fun m4 => mj_mw (mj_wI m4 (8 + s.1.toNatClampNeg) 3 (if ((m4.1 (8 + s.1.toNatClampNeg) 3) + (m4.1 5 s.1.toNatClampNeg)) < 99 then ((m4.1 (8 + s.1.toNatClampNeg) 3) + (m4.1 5 s.1.toNatClampNeg)) else 99)) (fun m5 => mj_mw (mj_wI m5 (8 + s.1.toNatClampNeg) 7 0) (fun m6 => mj_mw (s.1 + 1) (fun x7 => k_2 (x7, m6))))))))
theorem k_X7_endYear_2 {L : Nat} {xs : Nat → Int32} {δ N : Nat} : ∀ (n : Nat) (s : Int32 × mj_m) (a : mj_m), mj_lp n (f_X7_endYear_2 N) s = some a → mj_Go (mj_EX L xs) δ mY_X7_endYear 2 [(0, .ref 1), (1, .int s.1)] [] (mj_fin s.2) (none, (mj_fin a)) := by
  refine mj_lp_sound (fun k_2 s a q_2 h => ?_)
  unfold f_X7_endYear_2 at h
  refine mj_go_iload_n (k := 1) (x := s.1) rfl (mj_dt dt_X7_endYear 2 rfl) ?_
  refine mj_go_aload_n (k := 0) (x := 1) rfl (mj_dt dt_X7_endYear 3 rfl) ?_
  refine mk_getI (c := 7) (k := 7) (Or.inl fd_7_7) (Or.inl fl_X7_37) ho_1 (mj_dt dt_X7_endYear 4 rfl) ?_
  refine mj_go_icmp_ge (tgt := 68) rfl (mj_dt dt_X7_endYear 5 rfl) (fun b1 => ?_) (fun b1 => ?_)
  · rw [if_pos b1] at h
    refine mj_go_aload_n (k := 0) (x := 1) rfl (mj_dt dt_X7_endYear 38 rfl) ?_
    refine mj_go_dup rfl (mj_dt dt_X7_endYear 39 rfl) ?_
    refine mk_getI (c := 7) (k := 13) (Or.inl fd_7_13) (Or.inl fl_X7_55) ho_1 (mj_dt dt_X7_endYear 40 rfl) ?_
    refine mj_go_iconst (v := 1) rfl (mj_dt dt_X7_endYear 41 rfl) ?_
    refine mj_go_iadd (mj_dt dt_X7_endYear 42 rfl) ?_
    obtain ⟨m2, em2, h⟩ := mj_mw_some h
    refine ml_putI (c := 7) (k := 13) fd_7_13 rfl fl_X7_55 ho_1 (mj_dt dt_X7_endYear 43 rfl) ?_
    refine ml_eqm (M1 := (mj_fin m2)) (by rw [em2] <;> rfl) ?_
    obtain rfl := Option.some.inj h
    exact mj_go_ret (v := none) (Nat.le_of_ble_eq_true rfl) (mj_retV (mj_dt dt_X7_endYear 44 rfl) rfl)
  · rw [if_neg b1] at h
    refine mj_go_aload_n (k := 0) (x := 1) rfl (mj_dt dt_X7_endYear 6 rfl) ?_
    refine ml_getR (c := 7) (k := 2) (q := 4) fd_7_2 rf_1_2 (Or.inl fl_X7_20) ho_1 (mj_dt dt_X7_endYear 7 rfl) ?_
    refine mj_go_iload_n (k := 1) (x := s.1) rfl (mj_dt dt_X7_endYear 8 rfl) ?_
    obtain ⟨c2, h⟩ := mj_ck_some h
    refine ml_aald2 (q := 8 + s.1.toNatClampNeg) c2 (mj_hs4 c2).1 (mj_dt dt_X7_endYear 9 rfl) ?_
    refine mj_go_astore_n (k := 2) (by decide) (mj_dt dt_X7_endYear 10 rfl) ?_
    refine mj_go_aload_n (k := 2) (x := (8 + s.1.toNatClampNeg)) rfl (mj_dt dt_X7_endYear 11 rfl) ?_
    refine mj_go_bipush (v := 99) rfl (mj_dt dt_X7_endYear 12 rfl) ?_
    refine mj_go_aload_n (k := 2) (x := (8 + s.1.toNatClampNeg)) rfl (mj_dt dt_X7_endYear 13 rfl) ?_
    refine mk_getI (c := 1) (k := 2) (Or.inl fd_1_2) (Or.inl fl_X7_81) (mj_hs4 c2).2 (mj_dt dt_X7_endYear 14 rfl) ?_
    refine mj_go_aload_n (k := 0) (x := 1) rfl (mj_dt dt_X7_endYear 15 rfl) ?_
    refine ml_getR (c := 7) (k := 3) (q := 5) fd_7_3 rf_1_3 (Or.inl fl_X7_24) ho_1 (mj_dt dt_X7_endYear 16 rfl) ?_
    refine mj_go_iload_n (k := 1) (x := s.1) rfl (mj_dt dt_X7_endYear 17 rfl) ?_
    obtain ⟨c3, h⟩ := mj_ck_some h
    refine mk_iald c3 (mj_dt dt_X7_endYear 18 rfl) ?_
    refine mj_go_iadd (mj_dt dt_X7_endYear 19 rfl) ?_
    refine mj_go_min hm_X7_118 (Nat.le_of_ble_eq_true rfl) (mj_dt dt_X7_endYear 20 rfl) ?_
    obtain ⟨m4, em4, h⟩ := mj_mw_some h
    refine ml_putI (c := 1) (k := 2) fd_1_2 rfl fl_X7_81 (mj_hs4 c2).2 (mj_dt dt_X7_endYear 21 rfl) ?_
    refine ml_eqm (M1 := (mj_fin m4)) (by rw [em4] <;> rfl) ?_
    refine mj_go_aload_n (k := 2) (x := (8 + s.1.toNatClampNeg)) rfl (mj_dt dt_X7_endYear 22 rfl) ?_
    refine mj_go_bipush (v := 99) rfl (mj_dt dt_X7_endYear 23 rfl) ?_
    refine mj_go_aload_n (k := 2) (x := (8 + s.1.toNatClampNeg)) rfl (mj_dt dt_X7_endYear 24 rfl) ?_
    refine mk_getI (c := 1) (k := 3) (Or.inl fd_1_3) (Or.inl fl_X7_84) (mj_hs4 c2).2 (mj_dt dt_X7_endYear 25 rfl) ?_
    refine mj_go_aload_n (k := 0) (x := 1) rfl (mj_dt dt_X7_endYear 26 rfl) ?_
    refine ml_getR (c := 7) (k := 3) (q := 5) fd_7_3 rf_1_3 (Or.inl fl_X7_24) ho_1 (mj_dt dt_X7_endYear 27 rfl) ?_
    refine mj_go_iload_n (k := 1) (x := s.1) rfl (mj_dt dt_X7_endYear 28 rfl) ?_
    refine mk_iald c3 (mj_dt dt_X7_endYear 29 rfl) ?_
    refine mj_go_iadd (mj_dt dt_X7_endYear 30 rfl) ?_
    refine mj_go_min hm_X7_118 (Nat.le_of_ble_eq_true rfl) (mj_dt dt_X7_endYear 31 rfl) ?_
    obtain ⟨m5, em5, h⟩ := mj_mw_some h
    refine ml_putI (c := 1) (k := 3) fd_1_3 rfl fl_X7_84 (mj_hs4 c2).2 (mj_dt dt_X7_endYear 32 rfl) ?_
    refine ml_eqm (M1 := (mj_fin m5)) (by rw [em5] <;> rfl) ?_
    refine mj_go_aload_n (k := 2) (x := (8 + s.1.toNatClampNeg)) rfl (mj_dt dt_X7_endYear 33 rfl) ?_
    refine mj_go_iconst (v := 0) rfl (mj_dt dt_X7_endYear 34 rfl) ?_
    obtain ⟨m6, em6, h⟩ := mj_mw_some h
    refine ml_putZ (c := 1) (k := 7) rfl fd_1_7 rfl fl_X7_96 (mj_hs4 c2).2 (mj_dt dt_X7_endYear 35 rfl) ?_
    refine ml_eqm (M1 := (mj_fin m6)) (by rw [em6] <;> rfl) ?_
    obtain ⟨x7, ex7, h⟩ := mj_mw_some h
    refine mj_go_iinc (i := 1) (x := s.1) (v := x7) rfl (by rw [ex7] <;> rfl) (by decide) (mj_dt dt_X7_endYear 36 rfl) ?_
    refine mj_go_goto (tgt := 2) rfl (mj_dt dt_X7_endYear 37 rfl) ?_
    refine mj_go_sub (lv' := [(0, .ref 1), (1, .int x7)]) (List.forall_mem_cons.mpr ⟨rfl, (List.forall_mem_cons.mpr ⟨rfl, (fun _ h9 => absurd h9 List.not_mem_nil)⟩)⟩) ?_
    exact q_2 _ _ h
def f_X7_endYear (N : Nat) (m : mj_m) : Option (mj_m) := mj_lp N (f_X7_endYear_2 N) (0, m)
theorem k_X7_endYear {L : Nat} {xs : Nat → Int32} {δ N : Nat} {m : mj_m} (_ : 0 ≤ δ) {a : mj_m} (h : f_X7_endYear N m = some a) : mj_Cl (mj_EX L xs) δ mY_X7_endYear [.ref 1] (mj_fin m) (none, (mj_fin a)) := by
  refine mj_cl_of ok_X7_endYear (Nat.le_of_ble_eq_true rfl) ?_
  unfold f_X7_endYear at h
  refine mj_go_iconst (v := 0) rfl (mj_dt dt_X7_endYear 0 rfl) ?_
  refine mj_go_istore_n (k := 1) (by decide) (mj_dt dt_X7_endYear 1 rfl) ?_
  refine mj_go_sub (lv' := [(0, .ref 1), (1, .int 0)]) (List.forall_mem_cons.mpr ⟨rfl, (List.forall_mem_cons.mpr ⟨rfl, (fun _ h9 => absurd h9 List.not_mem_nil)⟩)⟩) ?_
  exact k_X7_endYear_2 N _ _ h
def f_X7_draw (N : Nat) (v1 : Int32) (m : mj_m) : Option (Int32 × mj_m) := mj_mw (mj_wI m 1 15 (((m.1 1 15) * 1103515245) + 12345)) (fun m1 => if v1 ≤ 0 then ((some (0, m1))) else (mj_ck (decide (¬ v1 = 0)) ( (some ((((m1.1 1 15).toUInt32 >>> ((16 : Int32).toUInt32 &&& Int32.toUInt32 31)).toInt32) - (((m1.1 1 15).toUInt32 >>> ((16 : Int32).toUInt32 &&& Int32.toUInt32 31)).toInt32) / v1 * v1, m1)))))
theorem k_X7_draw {L : Nat} {xs : Nat → Int32} {δ N : Nat} {v1 : Int32} {m : mj_m} (_ : 0 ≤ δ) {a : Int32 × mj_m} (h : f_X7_draw N v1 m = some a) : mj_Cl (mj_EX L xs) δ mY_X7_draw [.ref 1, .int v1] (mj_fin m) (some (.int a.1), (mj_fin a.2)) := by
  refine mj_cl_of ok_X7_draw (Nat.le_of_ble_eq_true rfl) ?_
  unfold f_X7_draw at h
  refine mj_go_aload_n (k := 0) (x := 1) rfl (mj_dt dt_X7_draw 0 rfl) ?_
  refine mj_go_aload_n (k := 0) (x := 1) rfl (mj_dt dt_X7_draw 1 rfl) ?_
  refine mk_getI (c := 7) (k := 15) (Or.inl fd_7_15) (Or.inl fl_X7_61) ho_1 (mj_dt dt_X7_draw 2 rfl) ?_
  refine mj_go_ldc (v := 1103515245) cl_X7_104 (mj_dt dt_X7_draw 3 rfl) ?_
  refine mj_go_imul (mj_dt dt_X7_draw 4 rfl) ?_
  refine mj_go_sipush (v := 12345) rfl (mj_dt dt_X7_draw 5 rfl) ?_
  refine mj_go_iadd (mj_dt dt_X7_draw 6 rfl) ?_
  obtain ⟨m1, em1, h⟩ := mj_mw_some h
  refine ml_putI (c := 7) (k := 15) fd_7_15 rfl fl_X7_61 ho_1 (mj_dt dt_X7_draw 7 rfl) ?_
  refine ml_eqm (M1 := (mj_fin m1)) (by rw [em1] <;> rfl) ?_
  refine mj_go_iload_n (k := 1) (x := v1) rfl (mj_dt dt_X7_draw 8 rfl) ?_
  refine mj_go_if_le (tgt := 31) rfl (mj_dt dt_X7_draw 9 rfl) (fun b2 => ?_) (fun b2 => ?_)
  · rw [if_pos b2] at h
    refine mj_go_iconst (v := 0) rfl (mj_dt dt_X7_draw 17 rfl) ?_
    obtain rfl := Option.some.inj h
    exact mj_go_ret (v := some (.int 0)) (Nat.le_of_ble_eq_true rfl) (mj_retI (mj_dt dt_X7_draw 18 rfl) rfl)
  · rw [if_neg b2] at h
    refine mj_go_aload_n (k := 0) (x := 1) rfl (mj_dt dt_X7_draw 10 rfl) ?_
    refine mk_getI (c := 7) (k := 15) (Or.inl fd_7_15) (Or.inl fl_X7_61) ho_1 (mj_dt dt_X7_draw 11 rfl) ?_
    refine mj_go_bipush (v := 16) rfl (mj_dt dt_X7_draw 12 rfl) ?_
    refine mj_go_iushr (mj_dt dt_X7_draw 13 rfl) ?_
    refine mj_go_iload_n (k := 1) (x := v1) rfl (mj_dt dt_X7_draw 14 rfl) ?_
    obtain ⟨c3, h⟩ := mj_ck_some h
    refine mj_go_irem (of_decide_eq_true c3) (mj_dt dt_X7_draw 15 rfl) ?_
    refine mj_go_goto (tgt := 32) rfl (mj_dt dt_X7_draw 16 rfl) ?_
    obtain rfl := Option.some.inj h
    exact mj_go_ret (v := some (.int ((((m1.1 1 15).toUInt32 >>> ((16 : Int32).toUInt32 &&& Int32.toUInt32 31)).toInt32) - (((m1.1 1 15).toUInt32 >>> ((16 : Int32).toUInt32 &&& Int32.toUInt32 31)).toInt32) / v1 * v1))) (Nat.le_of_ble_eq_true rfl) (mj_retI (mj_dt dt_X7_draw 18 rfl) rfl)
