/-! METHODS as functions, and their rows over the small machine (printed by program from the printed instructions) -/
def f_X7_addHouse (N : Nat) (v1 : Int32) (v2 : Int32) (v3 : Int32) (v4 : Int32) (v5 : Int32) (m : mj_m) : Option (Int32 × mj_m) := if (m.1 1 7) < 10 then (mj_ck (mj_b 2 4 (m.1 1 7)) ( mj_mw (mj_wI m (8 + (m.1 1 7).toNatClampNeg) 0 v1) (fun m3 => mj_mw (mj_wI m3 (8 + (m.1 1 7).toNatClampNeg) 1 v2) (fun m4 => mj_mw (mj_wI m4 (8 + (m.1 1 7).toNatClampNeg) 2 v3) (fun m5 => mj_mw (mj_wI m5 (8 + (m.1 1 7).toNatClampNeg) 3 v4) (fun m6 => mj_mw (mj_wI m6 (8 + (m.1 1 7).toNatClampNeg) 4 v5) (fun m7 => mj_mw (mj_wI m7 (8 + (m.1 1 7).toNatClampNeg) 5 (-1 : Int32)) (fun m8 => mj_mw (mj_wI m8 (8 + (m.1 1 7).toNatClampNeg) 6 (-1 : Int32)) (fun m9 => mj_mw (mj_wI m9 (8 + (m.1 1 7).toNatClampNeg) 7 0) (fun m10 => mj_ck (mj_b 0 5 (m10.1 1 7)) ( mj_mw (mj_wI m10 5 ((m10.1 1 7).toNatClampNeg) 0) (fun m12 => mj_mw (mj_wI m12 1 7 ((m12.1 1 7) + 1)) (fun m13 => some ((m13.1 1 7) - 1, m13)))))))))))))) else (some ((-1 : Int32), m))
theorem k_X7_addHouse {L : Nat} {xs : Nat → Int32} {δ N : Nat} {v1 : Int32} {v2 : Int32} {v3 : Int32} {v4 : Int32} {v5 : Int32} {m : mj_m} (_ : 0 ≤ δ) {a : Int32 × mj_m} (h : f_X7_addHouse N v1 v2 v3 v4 v5 m = some a) : mj_Cl (mj_EX L xs) δ mY_X7_addHouse [.ref 1, .int v1, .int v2, .int v3, .int v4, .int v5] (mj_fin m) (some (.int a.1), (mj_fin a.2)) := by
  refine mj_cl_of ok_X7_addHouse (Nat.le_of_ble_eq_true rfl) ?_
  unfold f_X7_addHouse at h
  refine mj_go_aload_n (k := 0) (x := 1) rfl (mj_dt dt_X7_addHouse 0 rfl) ?_
  refine mk_getI (c := 7) (k := 7) (Or.inl fd_7_7) (Or.inl fl_X7_37) ho_1 (mj_dt dt_X7_addHouse 1 rfl) ?_
  refine mj_go_bipush (v := 10) rfl (mj_dt dt_X7_addHouse 2 rfl) ?_
  refine mj_go_icmp_lt (tgt := 11) rfl (mj_dt dt_X7_addHouse 3 rfl) (fun b1 => ?_) (fun b1 => ?_)
  · rw [if_pos b1] at h
    refine mj_go_aload_n (k := 0) (x := 1) rfl (mj_dt dt_X7_addHouse 6 rfl) ?_
    refine ml_getR (c := 7) (k := 2) (q := 4) fd_7_2 rf_1_2 (Or.inl fl_X7_20) ho_1 (mj_dt dt_X7_addHouse 7 rfl) ?_
    refine mj_go_aload_n (k := 0) (x := 1) rfl (mj_dt dt_X7_addHouse 8 rfl) ?_
    refine mk_getI (c := 7) (k := 7) (Or.inl fd_7_7) (Or.inl fl_X7_37) ho_1 (mj_dt dt_X7_addHouse 9 rfl) ?_
    obtain ⟨c2, h⟩ := mj_ck_some h
    refine ml_aald2 (q := 8 + (m.1 1 7).toNatClampNeg) c2 (mj_hs4 c2).1 (mj_dt dt_X7_addHouse 10 rfl) ?_
    refine mj_go_astore (i := 6) (by decide) (mj_dt dt_X7_addHouse 11 rfl) ?_
    refine mj_go_aload (i := 6) (x := (8 + (m.1 1 7).toNatClampNeg)) rfl (mj_dt dt_X7_addHouse 12 rfl) ?_
    refine mj_go_iload_n (k := 1) (x := v1) rfl (mj_dt dt_X7_addHouse 13 rfl) ?_
    obtain ⟨m3, em3, h⟩ := mj_mw_some h
    refine ml_putI (c := 1) (k := 0) fd_1_0 rfl fl_X7_75 (mj_hs4 c2).2 (mj_dt dt_X7_addHouse 14 rfl) ?_
    refine ml_eqm (M1 := (mj_fin m3)) (by rw [em3] <;> rfl) ?_
    refine mj_go_aload (i := 6) (x := (8 + (m.1 1 7).toNatClampNeg)) rfl (mj_dt dt_X7_addHouse 15 rfl) ?_
    refine mj_go_iload_n (k := 2) (x := v2) rfl (mj_dt dt_X7_addHouse 16 rfl) ?_
    obtain ⟨m4, em4, h⟩ := mj_mw_some h
    refine ml_putI (c := 1) (k := 1) fd_1_1 rfl fl_X7_78 (mj_hs4 c2).2 (mj_dt dt_X7_addHouse 17 rfl) ?_
    refine ml_eqm (M1 := (mj_fin m4)) (by rw [em4] <;> rfl) ?_
    refine mj_go_aload (i := 6) (x := (8 + (m.1 1 7).toNatClampNeg)) rfl (mj_dt dt_X7_addHouse 18 rfl) ?_
    refine mj_go_iload_n (k := 3) (x := v3) rfl (mj_dt dt_X7_addHouse 19 rfl) ?_
    obtain ⟨m5, em5, h⟩ := mj_mw_some h
    refine ml_putI (c := 1) (k := 2) fd_1_2 rfl fl_X7_81 (mj_hs4 c2).2 (mj_dt dt_X7_addHouse 20 rfl) ?_
    refine ml_eqm (M1 := (mj_fin m5)) (by rw [em5] <;> rfl) ?_
    refine mj_go_aload (i := 6) (x := (8 + (m.1 1 7).toNatClampNeg)) rfl (mj_dt dt_X7_addHouse 21 rfl) ?_
    refine mj_go_iload (i := 4) (x := v4) rfl (mj_dt dt_X7_addHouse 22 rfl) ?_
    obtain ⟨m6, em6, h⟩ := mj_mw_some h
    refine ml_putI (c := 1) (k := 3) fd_1_3 rfl fl_X7_84 (mj_hs4 c2).2 (mj_dt dt_X7_addHouse 23 rfl) ?_
    refine ml_eqm (M1 := (mj_fin m6)) (by rw [em6] <;> rfl) ?_
    refine mj_go_aload (i := 6) (x := (8 + (m.1 1 7).toNatClampNeg)) rfl (mj_dt dt_X7_addHouse 24 rfl) ?_
    refine mj_go_iload (i := 5) (x := v5) rfl (mj_dt dt_X7_addHouse 25 rfl) ?_
    obtain ⟨m7, em7, h⟩ := mj_mw_some h
    refine ml_putI (c := 1) (k := 4) fd_1_4 rfl fl_X7_87 (mj_hs4 c2).2 (mj_dt dt_X7_addHouse 26 rfl) ?_
    refine ml_eqm (M1 := (mj_fin m7)) (by rw [em7] <;> rfl) ?_
    refine mj_go_aload (i := 6) (x := (8 + (m.1 1 7).toNatClampNeg)) rfl (mj_dt dt_X7_addHouse 27 rfl) ?_
    refine mj_go_iconst (v := -1) rfl (mj_dt dt_X7_addHouse 28 rfl) ?_
    obtain ⟨m8, em8, h⟩ := mj_mw_some h
    refine ml_putI (c := 1) (k := 5) fd_1_5 rfl fl_X7_90 (mj_hs4 c2).2 (mj_dt dt_X7_addHouse 29 rfl) ?_
    refine ml_eqm (M1 := (mj_fin m8)) (by rw [em8] <;> rfl) ?_
    refine mj_go_aload (i := 6) (x := (8 + (m.1 1 7).toNatClampNeg)) rfl (mj_dt dt_X7_addHouse 30 rfl) ?_
    refine mj_go_iconst (v := -1) rfl (mj_dt dt_X7_addHouse 31 rfl) ?_
    obtain ⟨m9, em9, h⟩ := mj_mw_some h
    refine ml_putI (c := 1) (k := 6) fd_1_6 rfl fl_X7_93 (mj_hs4 c2).2 (mj_dt dt_X7_addHouse 32 rfl) ?_
    refine ml_eqm (M1 := (mj_fin m9)) (by rw [em9] <;> rfl) ?_
    refine mj_go_aload (i := 6) (x := (8 + (m.1 1 7).toNatClampNeg)) rfl (mj_dt dt_X7_addHouse 33 rfl) ?_
    refine mj_go_iconst (v := 0) rfl (mj_dt dt_X7_addHouse 34 rfl) ?_
    obtain ⟨m10, em10, h⟩ := mj_mw_some h
    refine ml_putZ (c := 1) (k := 7) rfl fd_1_7 rfl fl_X7_96 (mj_hs4 c2).2 (mj_dt dt_X7_addHouse 35 rfl) ?_
    refine ml_eqm (M1 := (mj_fin m10)) (by rw [em10] <;> rfl) ?_
    refine mj_go_aload_n (k := 0) (x := 1) rfl (mj_dt dt_X7_addHouse 36 rfl) ?_
    refine ml_getR (c := 7) (k := 3) (q := 5) fd_7_3 rf_1_3 (Or.inl fl_X7_24) ho_1 (mj_dt dt_X7_addHouse 37 rfl) ?_
    refine mj_go_aload_n (k := 0) (x := 1) rfl (mj_dt dt_X7_addHouse 38 rfl) ?_
    refine mk_getI (c := 7) (k := 7) (Or.inl fd_7_7) (Or.inl fl_X7_37) ho_1 (mj_dt dt_X7_addHouse 39 rfl) ?_
    refine mj_go_iconst (v := 0) rfl (mj_dt dt_X7_addHouse 40 rfl) ?_
    obtain ⟨c11, h⟩ := mj_ck_some h
    obtain ⟨m12, em12, h⟩ := mj_mw_some h
    refine ml_iast c11 (mj_dt dt_X7_addHouse 41 rfl) ?_
    refine ml_eqm (M1 := (mj_fin m12)) (by rw [em12] <;> rfl) ?_
    refine mj_go_aload_n (k := 0) (x := 1) rfl (mj_dt dt_X7_addHouse 42 rfl) ?_
    refine mj_go_dup rfl (mj_dt dt_X7_addHouse 43 rfl) ?_
    refine mk_getI (c := 7) (k := 7) (Or.inl fd_7_7) (Or.inl fl_X7_37) ho_1 (mj_dt dt_X7_addHouse 44 rfl) ?_
    refine mj_go_iconst (v := 1) rfl (mj_dt dt_X7_addHouse 45 rfl) ?_
    refine mj_go_iadd (mj_dt dt_X7_addHouse 46 rfl) ?_
    obtain ⟨m13, em13, h⟩ := mj_mw_some h
    refine ml_putI (c := 7) (k := 7) fd_7_7 rfl fl_X7_37 ho_1 (mj_dt dt_X7_addHouse 47 rfl) ?_
    refine ml_eqm (M1 := (mj_fin m13)) (by rw [em13] <;> rfl) ?_
    refine mj_go_aload_n (k := 0) (x := 1) rfl (mj_dt dt_X7_addHouse 48 rfl) ?_
    refine mk_getI (c := 7) (k := 7) (Or.inl fd_7_7) (Or.inl fl_X7_37) ho_1 (mj_dt dt_X7_addHouse 49 rfl) ?_
    refine mj_go_iconst (v := 1) rfl (mj_dt dt_X7_addHouse 50 rfl) ?_
    refine mj_go_isub (mj_dt dt_X7_addHouse 51 rfl) ?_
    obtain rfl := Option.some.inj h
    exact mj_go_ret (v := some (.int ((m13.1 1 7) - 1))) (Nat.le_of_ble_eq_true rfl) (mj_retI (mj_dt dt_X7_addHouse 52 rfl) rfl)
  · rw [if_neg b1] at h
    refine mj_go_iconst (v := -1) rfl (mj_dt dt_X7_addHouse 4 rfl) ?_
    obtain rfl := Option.some.inj h
    exact mj_go_ret (v := some (.int (-1 : Int32))) (Nat.le_of_ble_eq_true rfl) (mj_retI (mj_dt dt_X7_addHouse 5 rfl) rfl)
def f_X8_house (N : Nat) (v1 : Int32) (v2 : Int32) (v3 : Int32) (v4 : Int32) (v5 : Int32) (m : mj_m) : Option (Int32 × mj_m) := (f_X8_isCorner N v1 m).bind (fun r1 => if r1 = 0 then ((f_X8_refuse N 1 m).bind (fun r3 => some (r3.1, r3.2))) else ((f_X8_canBeHouse N v2 v3 v4 v5 m).bind (fun r3 => if r3 = 0 then ((f_X8_refuse N 6 m).bind (fun r5 => some (r5.1, r5.2))) else ((f_X7_addHouse N v1 v2 v3 v4 v5 m).bind (fun r5 => if r5.1 = (-1 : Int32) then ((f_X8_refuse N 7 r5.2).bind (fun r7 => (some (r7.1, r7.2)))) else ((some (r5.1, r5.2))))))))
theorem k_X8_house {L : Nat} {xs : Nat → Int32} {δ N : Nat} {v1 : Int32} {v2 : Int32} {v3 : Int32} {v4 : Int32} {v5 : Int32} {m : mj_m} (hδ : 1 ≤ δ) {a : Int32 × mj_m} (h : f_X8_house N v1 v2 v3 v4 v5 m = some a) : mj_Cl (mj_EX L xs) δ mY_X8_house [.ref 0, .int v1, .int v2, .int v3, .int v4, .int v5] (mj_fin m) (some (.int a.1), (mj_fin a.2)) := by
  obtain ⟨δ, rfl⟩ : ∃ d, δ = d + 1 := ⟨δ - 1, by omega⟩
  have hδ : 0 ≤ δ := by omega
  refine mj_cl_of ok_X8_house (Nat.le_of_ble_eq_true rfl) ?_
  unfold f_X8_house at h
  refine mj_go_iload_n (k := 1) (x := v1) rfl (mj_dt dt_X8_house 0 rfl) ?_
  obtain ⟨r1, er1, h⟩ := mj_bind_some h
  refine ml_callS (Y' := mY_X8_isCorner) (as := [.int v1]) (rest := []) (v := (some (.int r1))) (M1 := (mj_fin m)) lm_X8_164 wc_X8_isCorner pl_X8_isCorner ok_X8_isCorner rfl rfl (Nat.le_of_ble_eq_true rfl) (k_X8_isCorner (by omega) er1) (mj_dt dt_X8_house 1 rfl) ?_
  refine mj_go_if_ne (tgt := 13) rfl (mj_dt dt_X8_house 2 rfl) (fun b2 => ?_) (fun b2 => ?_)
  · rw [if_neg b2] at h
    refine mj_go_iload_n (k := 2) (x := v2) rfl (mj_dt dt_X8_house 7 rfl) ?_
    refine mj_go_iload_n (k := 3) (x := v3) rfl (mj_dt dt_X8_house 8 rfl) ?_
    refine mj_go_iload (i := 4) (x := v4) rfl (mj_dt dt_X8_house 9 rfl) ?_
    refine mj_go_iload (i := 5) (x := v5) rfl (mj_dt dt_X8_house 10 rfl) ?_
    obtain ⟨r3, er3, h⟩ := mj_bind_some h
    refine ml_callS (Y' := mY_X8_canBeHouse) (as := [.int v2, .int v3, .int v4, .int v5]) (rest := []) (v := (some (.int r3))) (M1 := (mj_fin m)) lm_X8_170 wc_X8_canBeHouse pl_X8_canBeHouse ok_X8_canBeHouse rfl rfl (Nat.le_of_ble_eq_true rfl) (k_X8_canBeHouse (by omega) er3) (mj_dt dt_X8_house 11 rfl) ?_
    refine mj_go_if_ne (tgt := 32) rfl (mj_dt dt_X8_house 12 rfl) (fun b4 => ?_) (fun b4 => ?_)
    · rw [if_neg b4] at h
      refine mj_go_aload_n (k := 0) (x := 0) rfl (mj_dt dt_X8_house 17 rfl) ?_
      refine ml_getR (c := 8) (k := 0) (q := 1) fd_8_0 rf_0_0 (Or.inl fl_X8_12) ho_0 (mj_dt dt_X8_house 18 rfl) ?_
      refine mj_go_iload_n (k := 1) (x := v1) rfl (mj_dt dt_X8_house 19 rfl) ?_
      refine mj_go_iload_n (k := 2) (x := v2) rfl (mj_dt dt_X8_house 20 rfl) ?_
      refine mj_go_iload_n (k := 3) (x := v3) rfl (mj_dt dt_X8_house 21 rfl) ?_
      refine mj_go_iload (i := 4) (x := v4) rfl (mj_dt dt_X8_house 22 rfl) ?_
      refine mj_go_iload (i := 5) (x := v5) rfl (mj_dt dt_X8_house 23 rfl) ?_
      obtain ⟨r5, er5, h⟩ := mj_bind_some h
      refine ml_callV (Y' := mY_X7_addHouse) (as := [.int v1, .int v2, .int v3, .int v4, .int v5]) (rest := []) (c := 7) (v := (some (.int r5.1))) (M1 := (mj_fin r5.2)) ho_1 rfl lm_X8_174 wc_X7_addHouse pl_X7_addHouse ok_X7_addHouse rfl rfl (Nat.le_of_ble_eq_true rfl) (k_X7_addHouse (by omega) er5) (mj_dt dt_X8_house 24 rfl) ?_
      refine mj_go_istore (i := 6) (by decide) (mj_dt dt_X8_house 25 rfl) ?_
      refine mj_go_iload (i := 6) (x := r5.1) rfl (mj_dt dt_X8_house 26 rfl) ?_
      refine mj_go_iconst (v := -1) rfl (mj_dt dt_X8_house 27 rfl) ?_
      refine mj_go_icmp_ne (tgt := 63) rfl (mj_dt dt_X8_house 28 rfl) (fun b6 => ?_) (fun b6 => ?_)
      · rw [if_neg b6] at h
        refine mj_go_iload (i := 6) (x := r5.1) rfl (mj_dt dt_X8_house 33 rfl) ?_
        obtain rfl := Option.some.inj h
        exact mj_go_ret (v := some (.int r5.1)) (Nat.le_of_ble_eq_true rfl) (mj_retI (mj_dt dt_X8_house 34 rfl) rfl)
      · rw [if_pos b6] at h
        refine mj_go_aload_n (k := 0) (x := 0) rfl (mj_dt dt_X8_house 29 rfl) ?_
        refine mj_go_bipush (v := 7) rfl (mj_dt dt_X8_house 30 rfl) ?_
        obtain ⟨r7, er7, h⟩ := mj_bind_some h
        refine ml_callV (Y' := mY_X8_refuse) (as := [.int 7]) (rest := []) (c := 8) (v := (some (.int r7.1))) (M1 := (mj_fin r7.2)) ho_0 rfl lm_X8_86 wc_X8_refuse pl_X8_refuse ok_X8_refuse rfl rfl (Nat.le_of_ble_eq_true rfl) (k_X8_refuse (by omega) er7) (mj_dt dt_X8_house 31 rfl) ?_
        refine mj_go_goto (tgt := 65) rfl (mj_dt dt_X8_house 32 rfl) ?_
        obtain rfl := Option.some.inj h
        exact mj_go_ret (v := some (.int r7.1)) (Nat.le_of_ble_eq_true rfl) (mj_retI (mj_dt dt_X8_house 34 rfl) rfl)
    · rw [if_pos b4] at h
      refine mj_go_aload_n (k := 0) (x := 0) rfl (mj_dt dt_X8_house 13 rfl) ?_
      refine mj_go_bipush (v := 6) rfl (mj_dt dt_X8_house 14 rfl) ?_
      obtain ⟨r5, er5, h⟩ := mj_bind_some h
      refine ml_callV (Y' := mY_X8_refuse) (as := [.int 6]) (rest := []) (c := 8) (v := (some (.int r5.1))) (M1 := (mj_fin r5.2)) ho_0 rfl lm_X8_86 wc_X8_refuse pl_X8_refuse ok_X8_refuse rfl rfl (Nat.le_of_ble_eq_true rfl) (k_X8_refuse (by omega) er5) (mj_dt dt_X8_house 15 rfl) ?_
      obtain rfl := Option.some.inj h
      exact mj_go_ret (v := some (.int r5.1)) (Nat.le_of_ble_eq_true rfl) (mj_retI (mj_dt dt_X8_house 16 rfl) rfl)
  · rw [if_pos b2] at h
    refine mj_go_aload_n (k := 0) (x := 0) rfl (mj_dt dt_X8_house 3 rfl) ?_
    refine mj_go_iconst (v := 1) rfl (mj_dt dt_X8_house 4 rfl) ?_
    obtain ⟨r3, er3, h⟩ := mj_bind_some h
    refine ml_callV (Y' := mY_X8_refuse) (as := [.int 1]) (rest := []) (c := 8) (v := (some (.int r3.1))) (M1 := (mj_fin r3.2)) ho_0 rfl lm_X8_86 wc_X8_refuse pl_X8_refuse ok_X8_refuse rfl rfl (Nat.le_of_ble_eq_true rfl) (k_X8_refuse (by omega) er3) (mj_dt dt_X8_house 5 rfl) ?_
    obtain rfl := Option.some.inj h
    exact mj_go_ret (v := some (.int r3.1)) (Nat.le_of_ble_eq_true rfl) (mj_retI (mj_dt dt_X8_house 6 rfl) rfl)
def f_X9_isSo_47 (N : Nat) (m : mj_m) : Option (Int32) := (some 0)
theorem k_X9_isSo_47 {L : Nat} {xs : Nat → Int32} {δ N : Nat} {m : mj_m} {a : Int32} (h : f_X9_isSo_47 N m = some a) : mj_Go (mj_EX L xs) δ mY_X9_isSo 47 [] [] (mj_fin m) (some (.int a), (mj_fin m)) := by
  unfold f_X9_isSo_47 at h
  refine mj_go_iconst (v := 0) rfl (mj_dt dt_X9_isSo 23 rfl) ?_
  obtain rfl := Option.some.inj h
  exact mj_go_ret (v := some (.int 0)) (Nat.le_of_ble_eq_true rfl) (mj_retZ (mj_dt dt_X9_isSo 24 rfl) rfl rfl)
def f_X9_isSo (N : Nat) (v1 : Int32) (v2 : Int32) (v3 : Int32) (v4 : Int32) (m : mj_m) : Option (Int32) := if v1 < 0 then f_X9_isSo_47 N m else (if 9 < v1 then f_X9_isSo_47 N m else (if v2 < 0 then f_X9_isSo_47 N m else (if 99 < v2 then f_X9_isSo_47 N m else (if v3 < 0 then f_X9_isSo_47 N m else (if 99 < v3 then f_X9_isSo_47 N m else (if v4 < 1 then f_X9_isSo_47 N m else (if 99 < v4 then f_X9_isSo_47 N m else ((some 1)))))))))
theorem k_X9_isSo {L : Nat} {xs : Nat → Int32} {δ N : Nat} {v1 : Int32} {v2 : Int32} {v3 : Int32} {v4 : Int32} {m : mj_m} (_ : 0 ≤ δ) {a : Int32} (h : f_X9_isSo N v1 v2 v3 v4 m = some a) : mj_Cl (mj_EX L xs) δ mY_X9_isSo [.ref 95, .int v1, .int v2, .int v3, .int v4] (mj_fin m) (some (.int a), (mj_fin m)) := by
  refine mj_cl_of ok_X9_isSo (Nat.le_of_ble_eq_true rfl) ?_
  unfold f_X9_isSo at h
  refine mj_go_iload_n (k := 1) (x := v1) rfl (mj_dt dt_X9_isSo 0 rfl) ?_
  refine mj_go_if_lt (tgt := 47) rfl (mj_dt dt_X9_isSo 1 rfl) (fun b1 => ?_) (fun b1 => ?_)
  · rw [if_pos b1] at h
    refine mj_go_sub (lv' := []) (fun _ h9 => absurd h9 List.not_mem_nil) ?_
    exact k_X9_isSo_47 h
  · rw [if_neg b1] at h
    refine mj_go_iload_n (k := 1) (x := v1) rfl (mj_dt dt_X9_isSo 2 rfl) ?_
    refine mj_go_bipush (v := 9) rfl (mj_dt dt_X9_isSo 3 rfl) ?_
    refine mj_go_icmp_gt (tgt := 47) rfl (mj_dt dt_X9_isSo 4 rfl) (fun b2 => ?_) (fun b2 => ?_)
    · rw [if_pos b2] at h
      refine mj_go_sub (lv' := []) (fun _ h9 => absurd h9 List.not_mem_nil) ?_
      exact k_X9_isSo_47 h
    · rw [if_neg b2] at h
      refine mj_go_iload_n (k := 2) (x := v2) rfl (mj_dt dt_X9_isSo 5 rfl) ?_
      refine mj_go_if_lt (tgt := 47) rfl (mj_dt dt_X9_isSo 6 rfl) (fun b3 => ?_) (fun b3 => ?_)
      · rw [if_pos b3] at h
        refine mj_go_sub (lv' := []) (fun _ h9 => absurd h9 List.not_mem_nil) ?_
        exact k_X9_isSo_47 h
      · rw [if_neg b3] at h
        refine mj_go_iload_n (k := 2) (x := v2) rfl (mj_dt dt_X9_isSo 7 rfl) ?_
        refine mj_go_bipush (v := 99) rfl (mj_dt dt_X9_isSo 8 rfl) ?_
        refine mj_go_icmp_gt (tgt := 47) rfl (mj_dt dt_X9_isSo 9 rfl) (fun b4 => ?_) (fun b4 => ?_)
        · rw [if_pos b4] at h
          refine mj_go_sub (lv' := []) (fun _ h9 => absurd h9 List.not_mem_nil) ?_
          exact k_X9_isSo_47 h
        · rw [if_neg b4] at h
          refine mj_go_iload_n (k := 3) (x := v3) rfl (mj_dt dt_X9_isSo 10 rfl) ?_
          refine mj_go_if_lt (tgt := 47) rfl (mj_dt dt_X9_isSo 11 rfl) (fun b5 => ?_) (fun b5 => ?_)
          · rw [if_pos b5] at h
            refine mj_go_sub (lv' := []) (fun _ h9 => absurd h9 List.not_mem_nil) ?_
            exact k_X9_isSo_47 h
          · rw [if_neg b5] at h
            refine mj_go_iload_n (k := 3) (x := v3) rfl (mj_dt dt_X9_isSo 12 rfl) ?_
            refine mj_go_bipush (v := 99) rfl (mj_dt dt_X9_isSo 13 rfl) ?_
            refine mj_go_icmp_gt (tgt := 47) rfl (mj_dt dt_X9_isSo 14 rfl) (fun b6 => ?_) (fun b6 => ?_)
            · rw [if_pos b6] at h
              refine mj_go_sub (lv' := []) (fun _ h9 => absurd h9 List.not_mem_nil) ?_
              exact k_X9_isSo_47 h
            · rw [if_neg b6] at h
              refine mj_go_iload (i := 4) (x := v4) rfl (mj_dt dt_X9_isSo 15 rfl) ?_
              refine mj_go_iconst (v := 1) rfl (mj_dt dt_X9_isSo 16 rfl) ?_
              refine mj_go_icmp_lt (tgt := 47) rfl (mj_dt dt_X9_isSo 17 rfl) (fun b7 => ?_) (fun b7 => ?_)
              · rw [if_pos b7] at h
                refine mj_go_sub (lv' := []) (fun _ h9 => absurd h9 List.not_mem_nil) ?_
                exact k_X9_isSo_47 h
              · rw [if_neg b7] at h
                refine mj_go_iload (i := 4) (x := v4) rfl (mj_dt dt_X9_isSo 18 rfl) ?_
                refine mj_go_bipush (v := 99) rfl (mj_dt dt_X9_isSo 19 rfl) ?_
                refine mj_go_icmp_gt (tgt := 47) rfl (mj_dt dt_X9_isSo 20 rfl) (fun b8 => ?_) (fun b8 => ?_)
                · rw [if_pos b8] at h
                  refine mj_go_sub (lv' := []) (fun _ h9 => absurd h9 List.not_mem_nil) ?_
                  exact k_X9_isSo_47 h
                · rw [if_neg b8] at h
                  refine mj_go_iconst (v := 1) rfl (mj_dt dt_X9_isSo 21 rfl) ?_
                  refine mj_go_goto (tgt := 48) rfl (mj_dt dt_X9_isSo 22 rfl) ?_
                  obtain rfl := Option.some.inj h
                  exact mj_go_ret (v := some (.int 1)) (Nat.le_of_ble_eq_true rfl) (mj_retZ (mj_dt dt_X9_isSo 24 rfl) rfl rfl)
def f_X9_comes (N : Nat) (v1 : Int32) (v2 : Int32) (v3 : Int32) (v4 : Int32) (v5 : Int32) (m : mj_m) : Option (Int32 × mj_m) := mj_ck (mj_b 0 101 (m.1 95 1)) ( mj_mw (mj_wI m 101 ((m.1 95 1).toNatClampNeg) v1) (fun m2 => mj_ck (mj_b 0 102 (m2.1 95 1)) ( mj_mw (mj_wI m2 102 ((m2.1 95 1).toNatClampNeg) v2) (fun m4 => mj_ck (mj_b 0 103 (m4.1 95 1)) ( mj_mw (mj_wI m4 103 ((m4.1 95 1).toNatClampNeg) v3) (fun m6 => mj_ck (mj_b 0 104 (m6.1 95 1)) ( mj_mw (mj_wI m6 104 ((m6.1 95 1).toNatClampNeg) v4) (fun m8 => mj_ck (mj_b 0 105 (m8.1 95 1)) ( mj_mw (mj_wI m8 105 ((m8.1 95 1).toNatClampNeg) v5) (fun m10 => mj_ck (mj_b 0 106 (m10.1 95 1)) ( mj_mw (mj_wI m10 106 ((m10.1 95 1).toNatClampNeg) (-1 : Int32)) (fun m12 => mj_ck (mj_b 0 107 (m12.1 95 1)) ( mj_mw (mj_wI m12 107 ((m12.1 95 1).toNatClampNeg) (-1 : Int32)) (fun m14 => mj_ck (mj_b 0 108 (m14.1 95 1)) ( mj_mw (mj_wI m14 108 ((m14.1 95 1).toNatClampNeg) 0) (fun m16 => mj_ck (mj_b 0 109 (m16.1 95 1)) ( mj_mw (mj_wI m16 109 ((m16.1 95 1).toNatClampNeg) 0) (fun m18 => mj_mw (mj_wI m18 95 1 ((m18.1 95 1) + 1)) (fun m19 => some (m18.1 95 1, m19))))))))))))))))))))
theorem k_X9_comes {L : Nat} {xs : Nat → Int32} {δ N : Nat} {v1 : Int32} {v2 : Int32} {v3 : Int32} {v4 : Int32} {v5 : Int32} {m : mj_m} (_ : 0 ≤ δ) {a : Int32 × mj_m} (h : f_X9_comes N v1 v2 v3 v4 v5 m = some a) : mj_Cl (mj_EX L xs) δ mY_X9_comes [.ref 95, .int v1, .int v2, .int v3, .int v4, .int v5] (mj_fin m) (some (.int a.1), (mj_fin a.2)) := by
  refine mj_cl_of ok_X9_comes (Nat.le_of_ble_eq_true rfl) ?_
  unfold f_X9_comes at h
  refine mj_go_aload_n (k := 0) (x := 95) rfl (mj_dt dt_X9_comes 0 rfl) ?_
  refine ml_getR (c := 9) (k := 16) (q := 101) fd_9_16 rf_95_16 (Or.inl fl_X9_41) ho_95 (mj_dt dt_X9_comes 1 rfl) ?_
  refine mj_go_aload_n (k := 0) (x := 95) rfl (mj_dt dt_X9_comes 2 rfl) ?_
  refine mk_getI (c := 9) (k := 1) (Or.inl fd_9_1) (Or.inl fl_X9_124) ho_95 (mj_dt dt_X9_comes 3 rfl) ?_
  refine mj_go_iload_n (k := 1) (x := v1) rfl (mj_dt dt_X9_comes 4 rfl) ?_
  obtain ⟨c1, h⟩ := mj_ck_some h
  obtain ⟨m2, em2, h⟩ := mj_mw_some h
  refine ml_iast c1 (mj_dt dt_X9_comes 5 rfl) ?_
  refine ml_eqm (M1 := (mj_fin m2)) (by rw [em2] <;> rfl) ?_
  refine mj_go_aload_n (k := 0) (x := 95) rfl (mj_dt dt_X9_comes 6 rfl) ?_
  refine ml_getR (c := 9) (k := 17) (q := 102) fd_9_17 rf_95_17 (Or.inl fl_X9_44) ho_95 (mj_dt dt_X9_comes 7 rfl) ?_
  refine mj_go_aload_n (k := 0) (x := 95) rfl (mj_dt dt_X9_comes 8 rfl) ?_
  refine mk_getI (c := 9) (k := 1) (Or.inl fd_9_1) (Or.inl fl_X9_124) ho_95 (mj_dt dt_X9_comes 9 rfl) ?_
  refine mj_go_iload_n (k := 2) (x := v2) rfl (mj_dt dt_X9_comes 10 rfl) ?_
  obtain ⟨c3, h⟩ := mj_ck_some h
  obtain ⟨m4, em4, h⟩ := mj_mw_some h
  refine ml_iast c3 (mj_dt dt_X9_comes 11 rfl) ?_
  refine ml_eqm (M1 := (mj_fin m4)) (by rw [em4] <;> rfl) ?_
  refine mj_go_aload_n (k := 0) (x := 95) rfl (mj_dt dt_X9_comes 12 rfl) ?_
  refine ml_getR (c := 9) (k := 18) (q := 103) fd_9_18 rf_95_18 (Or.inl fl_X9_47) ho_95 (mj_dt dt_X9_comes 13 rfl) ?_
  refine mj_go_aload_n (k := 0) (x := 95) rfl (mj_dt dt_X9_comes 14 rfl) ?_
  refine mk_getI (c := 9) (k := 1) (Or.inl fd_9_1) (Or.inl fl_X9_124) ho_95 (mj_dt dt_X9_comes 15 rfl) ?_
  refine mj_go_iload_n (k := 3) (x := v3) rfl (mj_dt dt_X9_comes 16 rfl) ?_
  obtain ⟨c5, h⟩ := mj_ck_some h
  obtain ⟨m6, em6, h⟩ := mj_mw_some h
  refine ml_iast c5 (mj_dt dt_X9_comes 17 rfl) ?_
  refine ml_eqm (M1 := (mj_fin m6)) (by rw [em6] <;> rfl) ?_
  refine mj_go_aload_n (k := 0) (x := 95) rfl (mj_dt dt_X9_comes 18 rfl) ?_
  refine ml_getR (c := 9) (k := 19) (q := 104) fd_9_19 rf_95_19 (Or.inl fl_X9_50) ho_95 (mj_dt dt_X9_comes 19 rfl) ?_
  refine mj_go_aload_n (k := 0) (x := 95) rfl (mj_dt dt_X9_comes 20 rfl) ?_
  refine mk_getI (c := 9) (k := 1) (Or.inl fd_9_1) (Or.inl fl_X9_124) ho_95 (mj_dt dt_X9_comes 21 rfl) ?_
  refine mj_go_iload (i := 4) (x := v4) rfl (mj_dt dt_X9_comes 22 rfl) ?_
  obtain ⟨c7, h⟩ := mj_ck_some h
  obtain ⟨m8, em8, h⟩ := mj_mw_some h
  refine ml_iast c7 (mj_dt dt_X9_comes 23 rfl) ?_
  refine ml_eqm (M1 := (mj_fin m8)) (by rw [em8] <;> rfl) ?_
  refine mj_go_aload_n (k := 0) (x := 95) rfl (mj_dt dt_X9_comes 24 rfl) ?_
  refine ml_getR (c := 9) (k := 20) (q := 105) fd_9_20 rf_95_20 (Or.inl fl_X9_53) ho_95 (mj_dt dt_X9_comes 25 rfl) ?_
  refine mj_go_aload_n (k := 0) (x := 95) rfl (mj_dt dt_X9_comes 26 rfl) ?_
  refine mk_getI (c := 9) (k := 1) (Or.inl fd_9_1) (Or.inl fl_X9_124) ho_95 (mj_dt dt_X9_comes 27 rfl) ?_
  refine mj_go_iload (i := 5) (x := v5) rfl (mj_dt dt_X9_comes 28 rfl) ?_
  obtain ⟨c9, h⟩ := mj_ck_some h
  obtain ⟨m10, em10, h⟩ := mj_mw_some h
  refine ml_iast c9 (mj_dt dt_X9_comes 29 rfl) ?_
  refine ml_eqm (M1 := (mj_fin m10)) (by rw [em10] <;> rfl) ?_
  refine mj_go_aload_n (k := 0) (x := 95) rfl (mj_dt dt_X9_comes 30 rfl) ?_
  refine ml_getR (c := 9) (k := 21) (q := 106) fd_9_21 rf_95_21 (Or.inl fl_X9_56) ho_95 (mj_dt dt_X9_comes 31 rfl) ?_
  refine mj_go_aload_n (k := 0) (x := 95) rfl (mj_dt dt_X9_comes 32 rfl) ?_
  refine mk_getI (c := 9) (k := 1) (Or.inl fd_9_1) (Or.inl fl_X9_124) ho_95 (mj_dt dt_X9_comes 33 rfl) ?_
  refine mj_go_iconst (v := -1) rfl (mj_dt dt_X9_comes 34 rfl) ?_
  obtain ⟨c11, h⟩ := mj_ck_some h
  obtain ⟨m12, em12, h⟩ := mj_mw_some h
  refine ml_iast c11 (mj_dt dt_X9_comes 35 rfl) ?_
  refine ml_eqm (M1 := (mj_fin m12)) (by rw [em12] <;> rfl) ?_
  refine mj_go_aload_n (k := 0) (x := 95) rfl (mj_dt dt_X9_comes 36 rfl) ?_
  refine ml_getR (c := 9) (k := 22) (q := 107) fd_9_22 rf_95_22 (Or.inl fl_X9_59) ho_95 (mj_dt dt_X9_comes 37 rfl) ?_
  refine mj_go_aload_n (k := 0) (x := 95) rfl (mj_dt dt_X9_comes 38 rfl) ?_
  refine mk_getI (c := 9) (k := 1) (Or.inl fd_9_1) (Or.inl fl_X9_124) ho_95 (mj_dt dt_X9_comes 39 rfl) ?_
  refine mj_go_iconst (v := -1) rfl (mj_dt dt_X9_comes 40 rfl) ?_
  obtain ⟨c13, h⟩ := mj_ck_some h
  obtain ⟨m14, em14, h⟩ := mj_mw_some h
  refine ml_iast c13 (mj_dt dt_X9_comes 41 rfl) ?_
  refine ml_eqm (M1 := (mj_fin m14)) (by rw [em14] <;> rfl) ?_
  refine mj_go_aload_n (k := 0) (x := 95) rfl (mj_dt dt_X9_comes 42 rfl) ?_
  refine ml_getR (c := 9) (k := 23) (q := 108) fd_9_23 rf_95_23 (Or.inl fl_X9_62) ho_95 (mj_dt dt_X9_comes 43 rfl) ?_
  refine mj_go_aload_n (k := 0) (x := 95) rfl (mj_dt dt_X9_comes 44 rfl) ?_
  refine mk_getI (c := 9) (k := 1) (Or.inl fd_9_1) (Or.inl fl_X9_124) ho_95 (mj_dt dt_X9_comes 45 rfl) ?_
  refine mj_go_iconst (v := 0) rfl (mj_dt dt_X9_comes 46 rfl) ?_
  obtain ⟨c15, h⟩ := mj_ck_some h
  obtain ⟨m16, em16, h⟩ := mj_mw_some h
  refine ml_iast c15 (mj_dt dt_X9_comes 47 rfl) ?_
  refine ml_eqm (M1 := (mj_fin m16)) (by rw [em16] <;> rfl) ?_
  refine mj_go_aload_n (k := 0) (x := 95) rfl (mj_dt dt_X9_comes 48 rfl) ?_
  refine ml_getR (c := 9) (k := 24) (q := 109) fd_9_24 rf_95_24 (Or.inl fl_X9_65) ho_95 (mj_dt dt_X9_comes 49 rfl) ?_
  refine mj_go_aload_n (k := 0) (x := 95) rfl (mj_dt dt_X9_comes 50 rfl) ?_
  refine mk_getI (c := 9) (k := 1) (Or.inl fd_9_1) (Or.inl fl_X9_124) ho_95 (mj_dt dt_X9_comes 51 rfl) ?_
  refine mj_go_iconst (v := 0) rfl (mj_dt dt_X9_comes 52 rfl) ?_
  obtain ⟨c17, h⟩ := mj_ck_some h
  obtain ⟨m18, em18, h⟩ := mj_mw_some h
  refine ml_iast c17 (mj_dt dt_X9_comes 53 rfl) ?_
  refine ml_eqm (M1 := (mj_fin m18)) (by rw [em18] <;> rfl) ?_
  refine mj_go_aload_n (k := 0) (x := 95) rfl (mj_dt dt_X9_comes 54 rfl) ?_
  refine mj_go_dup rfl (mj_dt dt_X9_comes 55 rfl) ?_
  refine mk_getI (c := 9) (k := 1) (Or.inl fd_9_1) (Or.inl fl_X9_124) ho_95 (mj_dt dt_X9_comes 56 rfl) ?_
  refine mj_go_dup_x1 rfl rfl (mj_dt dt_X9_comes 57 rfl) ?_
  refine mj_go_iconst (v := 1) rfl (mj_dt dt_X9_comes 58 rfl) ?_
  refine mj_go_iadd (mj_dt dt_X9_comes 59 rfl) ?_
  obtain ⟨m19, em19, h⟩ := mj_mw_some h
  refine ml_putI (c := 9) (k := 1) fd_9_1 rfl fl_X9_124 ho_95 (mj_dt dt_X9_comes 60 rfl) ?_
  refine ml_eqm (M1 := (mj_fin m19)) (by rw [em19] <;> rfl) ?_
  obtain rfl := Option.some.inj h
  exact mj_go_ret (v := some (.int (m18.1 95 1))) (Nat.le_of_ble_eq_true rfl) (mj_retI (mj_dt dt_X9_comes 61 rfl) rfl)
def f_X9_house (N : Nat) (v1 : Int32) (v2 : Int32) (v3 : Int32) (v4 : Int32) (v5 : Int32) (m : mj_m) : Option (Int32 × mj_m) := (f_X9_isCorner N v1 m).bind (fun r1 => if r1 = 0 then ((f_X9_no N (-1 : Int32) m).bind (fun r3 => some (r3.1, r3.2))) else ((f_X9_isSo N v2 v3 v4 v5 m).bind (fun r3 => if r3 = 0 then ((f_X9_no N (-6 : Int32) m).bind (fun r5 => some (r5.1, r5.2))) else (if (m.1 95 1) = 10 then ((f_X9_no N (-7 : Int32) m).bind (fun r6 => (some (r6.1, r6.2)))) else ((f_X9_comes N v1 v2 v3 v4 v5 m).bind (fun r6 => (some (r6.1, r6.2))))))))
theorem k_X9_house {L : Nat} {xs : Nat → Int32} {δ N : Nat} {v1 : Int32} {v2 : Int32} {v3 : Int32} {v4 : Int32} {v5 : Int32} {m : mj_m} (hδ : 1 ≤ δ) {a : Int32 × mj_m} (h : f_X9_house N v1 v2 v3 v4 v5 m = some a) : mj_Cl (mj_EX L xs) δ mY_X9_house [.ref 95, .int v1, .int v2, .int v3, .int v4, .int v5] (mj_fin m) (some (.int a.1), (mj_fin a.2)) := by
  obtain ⟨δ, rfl⟩ : ∃ d, δ = d + 1 := ⟨δ - 1, by omega⟩
  have hδ : 0 ≤ δ := by omega
  refine mj_cl_of ok_X9_house (Nat.le_of_ble_eq_true rfl) ?_
  unfold f_X9_house at h
  refine mj_go_aload_n (k := 0) (x := 95) rfl (mj_dt dt_X9_house 0 rfl) ?_
  refine mj_go_iload_n (k := 1) (x := v1) rfl (mj_dt dt_X9_house 1 rfl) ?_
  obtain ⟨r1, er1, h⟩ := mj_bind_some h
  refine ml_callV (Y' := mY_X9_isCorner) (as := [.int v1]) (rest := []) (c := 9) (v := (some (.int r1))) (M1 := (mj_fin m)) ho_95 rfl lm_X9_152 wc_X9_isCorner pl_X9_isCorner ok_X9_isCorner rfl rfl (Nat.le_of_ble_eq_true rfl) (k_X9_isCorner (by omega) er1) (mj_dt dt_X9_house 2 rfl) ?_
  refine mj_go_if_ne (tgt := 14) rfl (mj_dt dt_X9_house 3 rfl) (fun b2 => ?_) (fun b2 => ?_)
  · rw [if_neg b2] at h
    refine mj_go_aload_n (k := 0) (x := 95) rfl (mj_dt dt_X9_house 8 rfl) ?_
    refine mj_go_iload_n (k := 2) (x := v2) rfl (mj_dt dt_X9_house 9 rfl) ?_
    refine mj_go_iload_n (k := 3) (x := v3) rfl (mj_dt dt_X9_house 10 rfl) ?_
    refine mj_go_iload (i := 4) (x := v4) rfl (mj_dt dt_X9_house 11 rfl) ?_
    refine mj_go_iload (i := 5) (x := v5) rfl (mj_dt dt_X9_house 12 rfl) ?_
    obtain ⟨r3, er3, h⟩ := mj_bind_some h
    refine ml_callV (Y' := mY_X9_isSo) (as := [.int v2, .int v3, .int v4, .int v5]) (rest := []) (c := 9) (v := (some (.int r3))) (M1 := (mj_fin m)) ho_95 rfl lm_X9_157 wc_X9_isSo pl_X9_isSo ok_X9_isSo rfl rfl (Nat.le_of_ble_eq_true rfl) (k_X9_isSo (by omega) er3) (mj_dt dt_X9_house 13 rfl) ?_
    refine mj_go_if_ne (tgt := 34) rfl (mj_dt dt_X9_house 14 rfl) (fun b4 => ?_) (fun b4 => ?_)
    · rw [if_neg b4] at h
      refine mj_go_aload_n (k := 0) (x := 95) rfl (mj_dt dt_X9_house 19 rfl) ?_
      refine mk_getI (c := 9) (k := 1) (Or.inl fd_9_1) (Or.inl fl_X9_124) ho_95 (mj_dt dt_X9_house 20 rfl) ?_
      refine mj_go_bipush (v := 10) rfl (mj_dt dt_X9_house 21 rfl) ?_
      refine mj_go_icmp_ne (tgt := 52) rfl (mj_dt dt_X9_house 22 rfl) (fun b5 => ?_) (fun b5 => ?_)
      · rw [if_neg b5] at h
        refine mj_go_aload_n (k := 0) (x := 95) rfl (mj_dt dt_X9_house 27 rfl) ?_
        refine mj_go_iload_n (k := 1) (x := v1) rfl (mj_dt dt_X9_house 28 rfl) ?_
        refine mj_go_iload_n (k := 2) (x := v2) rfl (mj_dt dt_X9_house 29 rfl) ?_
        refine mj_go_iload_n (k := 3) (x := v3) rfl (mj_dt dt_X9_house 30 rfl) ?_
        refine mj_go_iload (i := 4) (x := v4) rfl (mj_dt dt_X9_house 31 rfl) ?_
        refine mj_go_iload (i := 5) (x := v5) rfl (mj_dt dt_X9_house 32 rfl) ?_
        obtain ⟨r6, er6, h⟩ := mj_bind_some h
        refine ml_callV (Y' := mY_X9_comes) (as := [.int v1, .int v2, .int v3, .int v4, .int v5]) (rest := []) (c := 9) (v := (some (.int r6.1))) (M1 := (mj_fin r6.2)) ho_95 rfl lm_X9_161 wc_X9_comes pl_X9_comes ok_X9_comes rfl rfl (Nat.le_of_ble_eq_true rfl) (k_X9_comes (by omega) er6) (mj_dt dt_X9_house 33 rfl) ?_
        obtain rfl := Option.some.inj h
        exact mj_go_ret (v := some (.int r6.1)) (Nat.le_of_ble_eq_true rfl) (mj_retI (mj_dt dt_X9_house 34 rfl) rfl)
      · rw [if_pos b5] at h
        refine mj_go_aload_n (k := 0) (x := 95) rfl (mj_dt dt_X9_house 23 rfl) ?_
        refine mj_go_bipush (v := -7) rfl (mj_dt dt_X9_house 24 rfl) ?_
        obtain ⟨r6, er6, h⟩ := mj_bind_some h
        refine ml_callV (Y' := mY_X9_no) (as := [.int (-7 : Int32)]) (rest := []) (c := 9) (v := (some (.int r6.1))) (M1 := (mj_fin r6.2)) ho_95 rfl lm_X9_134 wc_X9_no pl_X9_no ok_X9_no rfl rfl (Nat.le_of_ble_eq_true rfl) (k_X9_no (by omega) er6) (mj_dt dt_X9_house 25 rfl) ?_
        refine mj_go_goto (tgt := 63) rfl (mj_dt dt_X9_house 26 rfl) ?_
        obtain rfl := Option.some.inj h
        exact mj_go_ret (v := some (.int r6.1)) (Nat.le_of_ble_eq_true rfl) (mj_retI (mj_dt dt_X9_house 34 rfl) rfl)
    · rw [if_pos b4] at h
      refine mj_go_aload_n (k := 0) (x := 95) rfl (mj_dt dt_X9_house 15 rfl) ?_
      refine mj_go_bipush (v := -6) rfl (mj_dt dt_X9_house 16 rfl) ?_
      obtain ⟨r5, er5, h⟩ := mj_bind_some h
      refine ml_callV (Y' := mY_X9_no) (as := [.int (-6 : Int32)]) (rest := []) (c := 9) (v := (some (.int r5.1))) (M1 := (mj_fin r5.2)) ho_95 rfl lm_X9_134 wc_X9_no pl_X9_no ok_X9_no rfl rfl (Nat.le_of_ble_eq_true rfl) (k_X9_no (by omega) er5) (mj_dt dt_X9_house 17 rfl) ?_
      obtain rfl := Option.some.inj h
      exact mj_go_ret (v := some (.int r5.1)) (Nat.le_of_ble_eq_true rfl) (mj_retI (mj_dt dt_X9_house 18 rfl) rfl)
  · rw [if_pos b2] at h
    refine mj_go_aload_n (k := 0) (x := 95) rfl (mj_dt dt_X9_house 4 rfl) ?_
    refine mj_go_iconst (v := -1) rfl (mj_dt dt_X9_house 5 rfl) ?_
    obtain ⟨r3, er3, h⟩ := mj_bind_some h
    refine ml_callV (Y' := mY_X9_no) (as := [.int (-1 : Int32)]) (rest := []) (c := 9) (v := (some (.int r3.1))) (M1 := (mj_fin r3.2)) ho_95 rfl lm_X9_134 wc_X9_no pl_X9_no ok_X9_no rfl rfl (Nat.le_of_ble_eq_true rfl) (k_X9_no (by omega) er3) (mj_dt dt_X9_house 6 rfl) ?_
    obtain rfl := Option.some.inj h
    exact mj_go_ret (v := some (.int r3.1)) (Nat.le_of_ble_eq_true rfl) (mj_retI (mj_dt dt_X9_house 7 rfl) rfl)
def f_X8_addHouseOf (N : Nat) (v1 : Nat) (v2 : Int32) (m : mj_m) : Option (Int32 × mj_m) := (f_X6_asInt N v1 v2 m).bind (fun r1 => mj_ck (mj_o 6 v1) ( (f_X6_asInt N v1 (v2 + 1) m).bind (fun r3 => (f_X6_asInt N v1 (v2 + 2) m).bind (fun r4 => (f_X6_asInt N v1 (v2 + 3) m).bind (fun r5 => (f_X6_asInt N v1 (v2 + 4) m).bind (fun r6 => (f_X8_isCorner N r1 m).bind (fun r7 => if r7 = 0 then (some (0, m)) else ((f_X8_canBeHouse N r3 r4 r5 r6 m).bind (fun r9 => if r9 = 0 then (some (0, m)) else ((f_X7_addHouse N r1 r3 r4 r5 r6 m).bind (fun r11 => if r11.1 = (-1 : Int32) then ((some (0, r11.2))) else ((some (1, r11.2))))))))))))))
theorem k_X8_addHouseOf {L : Nat} {xs : Nat → Int32} {δ N : Nat} {v1 : Nat} {v2 : Int32} {m : mj_m} (hδ : 2 ≤ δ) {a : Int32 × mj_m} (h : f_X8_addHouseOf N v1 v2 m = some a) : mj_Cl (mj_EX L xs) δ mY_X8_addHouseOf [.ref 0, .ref v1, .int v2] (mj_fin m) (some (.int a.1), (mj_fin a.2)) := by
  obtain ⟨δ, rfl⟩ : ∃ d, δ = d + 1 := ⟨δ - 1, by omega⟩
  have hδ : 1 ≤ δ := by omega
  refine mj_cl_of ok_X8_addHouseOf (Nat.le_of_ble_eq_true rfl) ?_
  unfold f_X8_addHouseOf at h
  refine mj_go_aload_n (k := 1) (x := v1) rfl (mj_dt dt_X8_addHouseOf 0 rfl) ?_
  refine mj_go_iload_n (k := 2) (x := v2) rfl (mj_dt dt_X8_addHouseOf 1 rfl) ?_
  obtain ⟨r1, er1, h⟩ := mj_bind_some h
  obtain ⟨c2, h⟩ := mj_ck_some h
  refine ml_callV (Y' := mY_X6_asInt) (as := [.int v2]) (rest := []) (c := 6) (v := (some (.int r1))) (M1 := (mj_fin m)) c2 rfl lm_X8_182 wc_X6_asInt pl_X6_asInt ok_X6_asInt rfl rfl (Nat.le_of_ble_eq_true rfl) (k_X6_asInt (by omega) er1) (mj_dt dt_X8_addHouseOf 2 rfl) ?_
  refine mj_go_istore_n (k := 3) (by decide) (mj_dt dt_X8_addHouseOf 3 rfl) ?_
  refine mj_go_aload_n (k := 1) (x := v1) rfl (mj_dt dt_X8_addHouseOf 4 rfl) ?_
  refine mj_go_iload_n (k := 2) (x := v2) rfl (mj_dt dt_X8_addHouseOf 5 rfl) ?_
  refine mj_go_iconst (v := 1) rfl (mj_dt dt_X8_addHouseOf 6 rfl) ?_
  refine mj_go_iadd (mj_dt dt_X8_addHouseOf 7 rfl) ?_
  obtain ⟨r3, er3, h⟩ := mj_bind_some h
  refine ml_callV (Y' := mY_X6_asInt) (as := [.int (v2 + 1)]) (rest := []) (c := 6) (v := (some (.int r3))) (M1 := (mj_fin m)) c2 rfl lm_X8_182 wc_X6_asInt pl_X6_asInt ok_X6_asInt rfl rfl (Nat.le_of_ble_eq_true rfl) (k_X6_asInt (by omega) er3) (mj_dt dt_X8_addHouseOf 8 rfl) ?_
  refine mj_go_istore (i := 4) (by decide) (mj_dt dt_X8_addHouseOf 9 rfl) ?_
  refine mj_go_aload_n (k := 1) (x := v1) rfl (mj_dt dt_X8_addHouseOf 10 rfl) ?_
  refine mj_go_iload_n (k := 2) (x := v2) rfl (mj_dt dt_X8_addHouseOf 11 rfl) ?_
  refine mj_go_iconst (v := 2) rfl (mj_dt dt_X8_addHouseOf 12 rfl) ?_
  refine mj_go_iadd (mj_dt dt_X8_addHouseOf 13 rfl) ?_
  obtain ⟨r4, er4, h⟩ := mj_bind_some h
  refine ml_callV (Y' := mY_X6_asInt) (as := [.int (v2 + 2)]) (rest := []) (c := 6) (v := (some (.int r4))) (M1 := (mj_fin m)) c2 rfl lm_X8_182 wc_X6_asInt pl_X6_asInt ok_X6_asInt rfl rfl (Nat.le_of_ble_eq_true rfl) (k_X6_asInt (by omega) er4) (mj_dt dt_X8_addHouseOf 14 rfl) ?_
  refine mj_go_istore (i := 5) (by decide) (mj_dt dt_X8_addHouseOf 15 rfl) ?_
  refine mj_go_aload_n (k := 1) (x := v1) rfl (mj_dt dt_X8_addHouseOf 16 rfl) ?_
  refine mj_go_iload_n (k := 2) (x := v2) rfl (mj_dt dt_X8_addHouseOf 17 rfl) ?_
  refine mj_go_iconst (v := 3) rfl (mj_dt dt_X8_addHouseOf 18 rfl) ?_
  refine mj_go_iadd (mj_dt dt_X8_addHouseOf 19 rfl) ?_
  obtain ⟨r5, er5, h⟩ := mj_bind_some h
  refine ml_callV (Y' := mY_X6_asInt) (as := [.int (v2 + 3)]) (rest := []) (c := 6) (v := (some (.int r5))) (M1 := (mj_fin m)) c2 rfl lm_X8_182 wc_X6_asInt pl_X6_asInt ok_X6_asInt rfl rfl (Nat.le_of_ble_eq_true rfl) (k_X6_asInt (by omega) er5) (mj_dt dt_X8_addHouseOf 20 rfl) ?_
  refine mj_go_istore (i := 6) (by decide) (mj_dt dt_X8_addHouseOf 21 rfl) ?_
  refine mj_go_aload_n (k := 1) (x := v1) rfl (mj_dt dt_X8_addHouseOf 22 rfl) ?_
  refine mj_go_iload_n (k := 2) (x := v2) rfl (mj_dt dt_X8_addHouseOf 23 rfl) ?_
  refine mj_go_iconst (v := 4) rfl (mj_dt dt_X8_addHouseOf 24 rfl) ?_
  refine mj_go_iadd (mj_dt dt_X8_addHouseOf 25 rfl) ?_
  obtain ⟨r6, er6, h⟩ := mj_bind_some h
  refine ml_callV (Y' := mY_X6_asInt) (as := [.int (v2 + 4)]) (rest := []) (c := 6) (v := (some (.int r6))) (M1 := (mj_fin m)) c2 rfl lm_X8_182 wc_X6_asInt pl_X6_asInt ok_X6_asInt rfl rfl (Nat.le_of_ble_eq_true rfl) (k_X6_asInt (by omega) er6) (mj_dt dt_X8_addHouseOf 26 rfl) ?_
  refine mj_go_istore (i := 7) (by decide) (mj_dt dt_X8_addHouseOf 27 rfl) ?_
  refine mj_go_iload_n (k := 3) (x := r1) rfl (mj_dt dt_X8_addHouseOf 28 rfl) ?_
  obtain ⟨r7, er7, h⟩ := mj_bind_some h
  refine ml_callS (Y' := mY_X8_isCorner) (as := [.int r1]) (rest := []) (v := (some (.int r7))) (M1 := (mj_fin m)) lm_X8_164 wc_X8_isCorner pl_X8_isCorner ok_X8_isCorner rfl rfl (Nat.le_of_ble_eq_true rfl) (k_X8_isCorner (by omega) er7) (mj_dt dt_X8_addHouseOf 29 rfl) ?_
  refine mj_go_if_eq (tgt := 63) rfl (mj_dt dt_X8_addHouseOf 30 rfl) (fun b8 => ?_) (fun b8 => ?_)
  · rw [if_pos b8] at h
    refine mj_go_iconst (v := 0) rfl (mj_dt dt_X8_addHouseOf 37 rfl) ?_
    obtain rfl := Option.some.inj h
    exact mj_go_ret (v := some (.int 0)) (Nat.le_of_ble_eq_true rfl) (mj_retZ (mj_dt dt_X8_addHouseOf 38 rfl) rfl rfl)
  · rw [if_neg b8] at h
    refine mj_go_iload (i := 4) (x := r3) rfl (mj_dt dt_X8_addHouseOf 31 rfl) ?_
    refine mj_go_iload (i := 5) (x := r4) rfl (mj_dt dt_X8_addHouseOf 32 rfl) ?_
    refine mj_go_iload (i := 6) (x := r5) rfl (mj_dt dt_X8_addHouseOf 33 rfl) ?_
    refine mj_go_iload (i := 7) (x := r6) rfl (mj_dt dt_X8_addHouseOf 34 rfl) ?_
    obtain ⟨r9, er9, h⟩ := mj_bind_some h
    refine ml_callS (Y' := mY_X8_canBeHouse) (as := [.int r3, .int r4, .int r5, .int r6]) (rest := []) (v := (some (.int r9))) (M1 := (mj_fin m)) lm_X8_170 wc_X8_canBeHouse pl_X8_canBeHouse ok_X8_canBeHouse rfl rfl (Nat.le_of_ble_eq_true rfl) (k_X8_canBeHouse (by omega) er9) (mj_dt dt_X8_addHouseOf 35 rfl) ?_
    refine mj_go_if_ne (tgt := 65) rfl (mj_dt dt_X8_addHouseOf 36 rfl) (fun b10 => ?_) (fun b10 => ?_)
    · rw [if_neg b10] at h
      refine mj_go_aload_n (k := 0) (x := 0) rfl (mj_dt dt_X8_addHouseOf 39 rfl) ?_
      refine ml_getR (c := 8) (k := 0) (q := 1) fd_8_0 rf_0_0 (Or.inl fl_X8_12) ho_0 (mj_dt dt_X8_addHouseOf 40 rfl) ?_
      refine mj_go_iload_n (k := 3) (x := r1) rfl (mj_dt dt_X8_addHouseOf 41 rfl) ?_
      refine mj_go_iload (i := 4) (x := r3) rfl (mj_dt dt_X8_addHouseOf 42 rfl) ?_
      refine mj_go_iload (i := 5) (x := r4) rfl (mj_dt dt_X8_addHouseOf 43 rfl) ?_
      refine mj_go_iload (i := 6) (x := r5) rfl (mj_dt dt_X8_addHouseOf 44 rfl) ?_
      refine mj_go_iload (i := 7) (x := r6) rfl (mj_dt dt_X8_addHouseOf 45 rfl) ?_
      obtain ⟨r11, er11, h⟩ := mj_bind_some h
      refine ml_callV (Y' := mY_X7_addHouse) (as := [.int r1, .int r3, .int r4, .int r5, .int r6]) (rest := []) (c := 7) (v := (some (.int r11.1))) (M1 := (mj_fin r11.2)) ho_1 rfl lm_X8_174 wc_X7_addHouse pl_X7_addHouse ok_X7_addHouse rfl rfl (Nat.le_of_ble_eq_true rfl) (k_X7_addHouse (by omega) er11) (mj_dt dt_X8_addHouseOf 46 rfl) ?_
      refine mj_go_iconst (v := -1) rfl (mj_dt dt_X8_addHouseOf 47 rfl) ?_
      refine mj_go_icmp_eq (tgt := 89) rfl (mj_dt dt_X8_addHouseOf 48 rfl) (fun b12 => ?_) (fun b12 => ?_)
      · rw [if_pos b12] at h
        refine mj_go_iconst (v := 0) rfl (mj_dt dt_X8_addHouseOf 51 rfl) ?_
        obtain rfl := Option.some.inj h
        exact mj_go_ret (v := some (.int 0)) (Nat.le_of_ble_eq_true rfl) (mj_retZ (mj_dt dt_X8_addHouseOf 52 rfl) rfl rfl)
      · rw [if_neg b12] at h
        refine mj_go_iconst (v := 1) rfl (mj_dt dt_X8_addHouseOf 49 rfl) ?_
        refine mj_go_goto (tgt := 90) rfl (mj_dt dt_X8_addHouseOf 50 rfl) ?_
        obtain rfl := Option.some.inj h
        exact mj_go_ret (v := some (.int 1)) (Nat.le_of_ble_eq_true rfl) (mj_retZ (mj_dt dt_X8_addHouseOf 52 rfl) rfl rfl)
    · rw [if_pos b10] at h
      refine mj_go_iconst (v := 0) rfl (mj_dt dt_X8_addHouseOf 37 rfl) ?_
      obtain rfl := Option.some.inj h
      exact mj_go_ret (v := some (.int 0)) (Nat.le_of_ble_eq_true rfl) (mj_retZ (mj_dt dt_X8_addHouseOf 38 rfl) rfl rfl)
def f_X8_houses_72 (N : Nat) (v2 : Int32) (v3 : Int32) (v5 : Nat) (k_72 : Int32 × Int32 × mj_m → Option (Int32 × mj_m)) (s : Int32 × Int32 × mj_m) : Option (Int32 × mj_m) := if (v2 + v3) ≤ s.2.1 then (some (s.1, s.2.2)) else ((f_X8_addHouseOf N v5 s.2.1 s.2.2).bind (fun r2 => if r2.1 = 0 then ((some (s.1, r2.2))) else (mj_mw (s.1 + 1) (fun x4 => mj_mw (s.2.1 + 5) (fun x5 => k_72 (x4, x5, r2.2))))))
theorem k_X8_houses_72 {L : Nat} {xs : Nat → Int32} {δ N : Nat} {v2 : Int32} {v3 : Int32} {v5 : Nat} (hδ : 2 ≤ δ) : ∀ (n : Nat) (s : Int32 × Int32 × mj_m) (a : Int32 × mj_m), mj_lp n (f_X8_houses_72 N v2 v3 v5) s = some a → mj_Go (mj_EX L xs) (δ + 1) mY_X8_houses 72 [(0, .ref 0), (2, .int v2), (3, .int v3), (5, .ref v5), (6, .int s.1), (7, .int s.2.1)] [] (mj_fin s.2.2) (some (.int a.1), (mj_fin a.2)) := by
  refine mj_lp_sound (fun k_72 s a q_72 h => ?_)
  unfold f_X8_houses_72 at h
  refine mj_go_iload (i := 7) (x := s.2.1) rfl (mj_dt dt_X8_houses 42 rfl) ?_
  refine mj_go_iload_n (k := 2) (x := v2) rfl (mj_dt dt_X8_houses 43 rfl) ?_
  refine mj_go_iload_n (k := 3) (x := v3) rfl (mj_dt dt_X8_houses 44 rfl) ?_
  refine mj_go_iadd (mj_dt dt_X8_houses 45 rfl) ?_
  refine mj_go_icmp_ge (tgt := 103) rfl (mj_dt dt_X8_houses 46 rfl) (fun b1 => ?_) (fun b1 => ?_)
  · rw [if_pos b1] at h
    refine mj_go_iload (i := 6) (x := s.1) rfl (mj_dt dt_X8_houses 56 rfl) ?_
    obtain rfl := Option.some.inj h
    exact mj_go_ret (v := some (.int s.1)) (Nat.le_of_ble_eq_true rfl) (mj_retI (mj_dt dt_X8_houses 57 rfl) rfl)
  · rw [if_neg b1] at h
    refine mj_go_aload_n (k := 0) (x := 0) rfl (mj_dt dt_X8_houses 47 rfl) ?_
    refine mj_go_aload (i := 5) (x := v5) rfl (mj_dt dt_X8_houses 48 rfl) ?_
    refine mj_go_iload (i := 7) (x := s.2.1) rfl (mj_dt dt_X8_houses 49 rfl) ?_
    obtain ⟨r2, er2, h⟩ := mj_bind_some h
    refine ml_callV (Y' := mY_X8_addHouseOf) (as := [.ref v5, .int s.2.1]) (rest := []) (c := 8) (v := (some (.int r2.1))) (M1 := (mj_fin r2.2)) ho_0 rfl lm_X8_178 wc_X8_addHouseOf pl_X8_addHouseOf ok_X8_addHouseOf rfl rfl (Nat.le_of_ble_eq_true rfl) (k_X8_addHouseOf (by omega) er2) (mj_dt dt_X8_houses 50 rfl) ?_
    refine mj_go_if_ne (tgt := 94) rfl (mj_dt dt_X8_houses 51 rfl) (fun b3 => ?_) (fun b3 => ?_)
    · rw [if_neg b3] at h
      obtain ⟨x4, ex4, h⟩ := mj_mw_some h
      refine mj_go_iinc (i := 6) (x := s.1) (v := x4) rfl (by rw [ex4] <;> rfl) (by decide) (mj_dt dt_X8_houses 53 rfl) ?_
      obtain ⟨x5, ex5, h⟩ := mj_mw_some h
      refine mj_go_iinc (i := 7) (x := s.2.1) (v := x5) rfl (by rw [ex5] <;> rfl) (by decide) (mj_dt dt_X8_houses 54 rfl) ?_
      refine mj_go_goto (tgt := 72) rfl (mj_dt dt_X8_houses 55 rfl) ?_
      refine mj_go_sub (lv' := [(0, .ref 0), (2, .int v2), (3, .int v3), (5, .ref v5), (6, .int x4), (7, .int x5)]) (List.forall_mem_cons.mpr ⟨rfl, (List.forall_mem_cons.mpr ⟨rfl, (List.forall_mem_cons.mpr ⟨rfl, (List.forall_mem_cons.mpr ⟨rfl, (List.forall_mem_cons.mpr ⟨rfl, (List.forall_mem_cons.mpr ⟨rfl, (fun _ h9 => absurd h9 List.not_mem_nil)⟩)⟩)⟩)⟩)⟩)⟩) ?_
      exact q_72 _ _ h
    · rw [if_pos b3] at h
      refine mj_go_goto (tgt := 103) rfl (mj_dt dt_X8_houses 52 rfl) ?_
      refine mj_go_iload (i := 6) (x := s.1) rfl (mj_dt dt_X8_houses 56 rfl) ?_
      obtain rfl := Option.some.inj h
      exact mj_go_ret (v := some (.int s.1)) (Nat.le_of_ble_eq_true rfl) (mj_retI (mj_dt dt_X8_houses 57 rfl) rfl)
def f_X8_houses (N : Nat) (v1 : Int32) (v2 : Int32) (v3 : Int32) (m : mj_m) : Option (Int32 × mj_m) := (f_X8_lacksRow N v1 m).bind (fun r1 => if r1 = 0 then (if 0 ≤ v3 then (mj_ck (mj_b 3 35 v1) ( (f_X6_hasRange N (79 + 2 * v1.toNatClampNeg) v2 v3 m).bind (fun r5 => if r5 = 0 then ((f_X8_refuse N 5 m).bind (fun r7 => some (r7.1, r7.2))) else (if (v3 - v3 / 5 * 5) = 0 then (mj_lp N (f_X8_houses_72 N v2 v3 (79 + 2 * v1.toNatClampNeg)) (0, v2, m)) else ((f_X8_refuse N 6 m).bind (fun r8 => some (r8.1, r8.2))))))) else ((f_X8_refuse N 4 m).bind (fun r4 => some (r4.1, r4.2)))) else ((f_X8_refuse N r1 m).bind (fun r3 => some (r3.1, r3.2))))
theorem k_X8_houses {L : Nat} {xs : Nat → Int32} {δ N : Nat} {v1 : Int32} {v2 : Int32} {v3 : Int32} {m : mj_m} (hδ : 3 ≤ δ) {a : Int32 × mj_m} (h : f_X8_houses N v1 v2 v3 m = some a) : mj_Cl (mj_EX L xs) δ mY_X8_houses [.ref 0, .int v1, .int v2, .int v3] (mj_fin m) (some (.int a.1), (mj_fin a.2)) := by
  obtain ⟨δ, rfl⟩ : ∃ d, δ = d + 1 := ⟨δ - 1, by omega⟩
  have hδ : 2 ≤ δ := by omega
  refine mj_cl_of ok_X8_houses (Nat.le_of_ble_eq_true rfl) ?_
  unfold f_X8_houses at h
  refine mj_go_aload_n (k := 0) (x := 0) rfl (mj_dt dt_X8_houses 0 rfl) ?_
  refine mj_go_iload_n (k := 1) (x := v1) rfl (mj_dt dt_X8_houses 1 rfl) ?_
  obtain ⟨r1, er1, h⟩ := mj_bind_some h
  refine ml_callV (Y' := mY_X8_lacksRow) (as := [.int v1]) (rest := []) (c := 8) (v := (some (.int r1))) (M1 := (mj_fin m)) ho_0 rfl lm_X8_94 wc_X8_lacksRow pl_X8_lacksRow ok_X8_lacksRow rfl rfl (Nat.le_of_ble_eq_true rfl) (k_X8_lacksRow (by omega) er1) (mj_dt dt_X8_houses 2 rfl) ?_
  refine mj_go_istore (i := 4) (by decide) (mj_dt dt_X8_houses 3 rfl) ?_
  refine mj_go_iload (i := 4) (x := r1) rfl (mj_dt dt_X8_houses 4 rfl) ?_
  refine mj_go_if_eq (tgt := 19) rfl (mj_dt dt_X8_houses 5 rfl) (fun b2 => ?_) (fun b2 => ?_)
  · rw [if_pos b2] at h
    refine mj_go_iload_n (k := 3) (x := v3) rfl (mj_dt dt_X8_houses 10 rfl) ?_
    refine mj_go_if_ge (tgt := 29) rfl (mj_dt dt_X8_houses 11 rfl) (fun b3 => ?_) (fun b3 => ?_)
    · rw [if_pos b3] at h
      refine mj_go_aload_n (k := 0) (x := 0) rfl (mj_dt dt_X8_houses 16 rfl) ?_
      refine ml_getR (c := 8) (k := 2) (q := 35) fd_8_2 rf_0_2 (Or.inl fl_X8_21) ho_0 (mj_dt dt_X8_houses 17 rfl) ?_
      refine mj_go_iload_n (k := 1) (x := v1) rfl (mj_dt dt_X8_houses 18 rfl) ?_
      obtain ⟨c4, h⟩ := mj_ck_some h
      refine ml_aald3 (q := 79 + 2 * v1.toNatClampNeg) c4 (mj_hs35 c4).1 (mj_dt dt_X8_houses 19 rfl) ?_
      refine mj_go_astore (i := 5) (by decide) (mj_dt dt_X8_houses 20 rfl) ?_
      refine mj_go_aload (i := 5) (x := (79 + 2 * v1.toNatClampNeg)) rfl (mj_dt dt_X8_houses 21 rfl) ?_
      refine mj_go_iload_n (k := 2) (x := v2) rfl (mj_dt dt_X8_houses 22 rfl) ?_
      refine mj_go_iload_n (k := 3) (x := v3) rfl (mj_dt dt_X8_houses 23 rfl) ?_
      obtain ⟨r5, er5, h⟩ := mj_bind_some h
      refine ml_callV (Y' := mY_X6_hasRange) (as := [.int v2, .int v3]) (rest := []) (c := 6) (v := (some (.int r5))) (M1 := (mj_fin m)) (mj_hs35 c4).2 rfl lm_X8_114 wc_X6_hasRange pl_X6_hasRange ok_X6_hasRange rfl rfl (Nat.le_of_ble_eq_true rfl) (k_X6_hasRange (by omega) er5) (mj_dt dt_X8_houses 24 rfl) ?_
      refine mj_go_if_ne (tgt := 53) rfl (mj_dt dt_X8_houses 25 rfl) (fun b6 => ?_) (fun b6 => ?_)
      · rw [if_neg b6] at h
        refine mj_go_iload_n (k := 3) (x := v3) rfl (mj_dt dt_X8_houses 30 rfl) ?_
        refine mj_go_iconst (v := 5) rfl (mj_dt dt_X8_houses 31 rfl) ?_
        refine mj_go_irem (by decide) (mj_dt dt_X8_houses 32 rfl) ?_
        refine mj_go_if_eq (tgt := 66) rfl (mj_dt dt_X8_houses 33 rfl) (fun b7 => ?_) (fun b7 => ?_)
        · rw [if_pos b7] at h
          refine mj_go_iconst (v := 0) rfl (mj_dt dt_X8_houses 38 rfl) ?_
          refine mj_go_istore (i := 6) (by decide) (mj_dt dt_X8_houses 39 rfl) ?_
          refine mj_go_iload_n (k := 2) (x := v2) rfl (mj_dt dt_X8_houses 40 rfl) ?_
          refine mj_go_istore (i := 7) (by decide) (mj_dt dt_X8_houses 41 rfl) ?_
          refine mj_go_sub (lv' := [(0, .ref 0), (2, .int v2), (3, .int v3), (5, .ref (79 + 2 * v1.toNatClampNeg)), (6, .int 0), (7, .int v2)]) (List.forall_mem_cons.mpr ⟨rfl, (List.forall_mem_cons.mpr ⟨rfl, (List.forall_mem_cons.mpr ⟨rfl, (List.forall_mem_cons.mpr ⟨rfl, (List.forall_mem_cons.mpr ⟨rfl, (List.forall_mem_cons.mpr ⟨rfl, (fun _ h9 => absurd h9 List.not_mem_nil)⟩)⟩)⟩)⟩)⟩)⟩) ?_
          exact k_X8_houses_72 hδ N _ _ h
        · rw [if_neg b7] at h
          refine mj_go_aload_n (k := 0) (x := 0) rfl (mj_dt dt_X8_houses 34 rfl) ?_
          refine mj_go_bipush (v := 6) rfl (mj_dt dt_X8_houses 35 rfl) ?_
          obtain ⟨r8, er8, h⟩ := mj_bind_some h
          refine ml_callV (Y' := mY_X8_refuse) (as := [.int 6]) (rest := []) (c := 8) (v := (some (.int r8.1))) (M1 := (mj_fin r8.2)) ho_0 rfl lm_X8_86 wc_X8_refuse pl_X8_refuse ok_X8_refuse rfl rfl (Nat.le_of_ble_eq_true rfl) (k_X8_refuse (by omega) er8) (mj_dt dt_X8_houses 36 rfl) ?_
          obtain rfl := Option.some.inj h
          exact mj_go_ret (v := some (.int r8.1)) (Nat.le_of_ble_eq_true rfl) (mj_retI (mj_dt dt_X8_houses 37 rfl) rfl)
      · rw [if_pos b6] at h
        refine mj_go_aload_n (k := 0) (x := 0) rfl (mj_dt dt_X8_houses 26 rfl) ?_
        refine mj_go_iconst (v := 5) rfl (mj_dt dt_X8_houses 27 rfl) ?_
        obtain ⟨r7, er7, h⟩ := mj_bind_some h
        refine ml_callV (Y' := mY_X8_refuse) (as := [.int 5]) (rest := []) (c := 8) (v := (some (.int r7.1))) (M1 := (mj_fin r7.2)) ho_0 rfl lm_X8_86 wc_X8_refuse pl_X8_refuse ok_X8_refuse rfl rfl (Nat.le_of_ble_eq_true rfl) (k_X8_refuse (by omega) er7) (mj_dt dt_X8_houses 28 rfl) ?_
        obtain rfl := Option.some.inj h
        exact mj_go_ret (v := some (.int r7.1)) (Nat.le_of_ble_eq_true rfl) (mj_retI (mj_dt dt_X8_houses 29 rfl) rfl)
    · rw [if_neg b3] at h
      refine mj_go_aload_n (k := 0) (x := 0) rfl (mj_dt dt_X8_houses 12 rfl) ?_
      refine mj_go_iconst (v := 4) rfl (mj_dt dt_X8_houses 13 rfl) ?_
      obtain ⟨r4, er4, h⟩ := mj_bind_some h
      refine ml_callV (Y' := mY_X8_refuse) (as := [.int 4]) (rest := []) (c := 8) (v := (some (.int r4.1))) (M1 := (mj_fin r4.2)) ho_0 rfl lm_X8_86 wc_X8_refuse pl_X8_refuse ok_X8_refuse rfl rfl (Nat.le_of_ble_eq_true rfl) (k_X8_refuse (by omega) er4) (mj_dt dt_X8_houses 14 rfl) ?_
      obtain rfl := Option.some.inj h
      exact mj_go_ret (v := some (.int r4.1)) (Nat.le_of_ble_eq_true rfl) (mj_retI (mj_dt dt_X8_houses 15 rfl) rfl)
  · rw [if_neg b2] at h
    refine mj_go_aload_n (k := 0) (x := 0) rfl (mj_dt dt_X8_houses 6 rfl) ?_
    refine mj_go_iload (i := 4) (x := r1) rfl (mj_dt dt_X8_houses 7 rfl) ?_
    obtain ⟨r3, er3, h⟩ := mj_bind_some h
    refine ml_callV (Y' := mY_X8_refuse) (as := [.int r1]) (rest := []) (c := 8) (v := (some (.int r3.1))) (M1 := (mj_fin r3.2)) ho_0 rfl lm_X8_86 wc_X8_refuse pl_X8_refuse ok_X8_refuse rfl rfl (Nat.le_of_ble_eq_true rfl) (k_X8_refuse (by omega) er3) (mj_dt dt_X8_houses 8 rfl) ?_
    obtain rfl := Option.some.inj h
    exact mj_go_ret (v := some (.int r3.1)) (Nat.le_of_ble_eq_true rfl) (mj_retI (mj_dt dt_X8_houses 9 rfl) rfl)
def f_X9_houses_47 (N : Nat) (m : mj_m) : Option (Int32 × mj_m) := (f_X9_no N (-5 : Int32) m).bind (fun r1 => some (r1.1, r1.2))
theorem k_X9_houses_47 {L : Nat} {xs : Nat → Int32} {δ N : Nat} {m : mj_m} (hδ : 1 ≤ δ) {a : Int32 × mj_m} (h : f_X9_houses_47 N m = some a) : mj_Go (mj_EX L xs) (δ + 1) mY_X9_houses 47 [(0, .ref 95)] [] (mj_fin m) (some (.int a.1), (mj_fin a.2)) := by
  unfold f_X9_houses_47 at h
  refine mj_go_aload_n (k := 0) (x := 95) rfl (mj_dt dt_X9_houses 27 rfl) ?_
  refine mj_go_bipush (v := -5) rfl (mj_dt dt_X9_houses 28 rfl) ?_
  obtain ⟨r1, er1, h⟩ := mj_bind_some h
  refine ml_callV (Y' := mY_X9_no) (as := [.int (-5 : Int32)]) (rest := []) (c := 9) (v := (some (.int r1.1))) (M1 := (mj_fin r1.2)) ho_95 rfl lm_X9_134 wc_X9_no pl_X9_no ok_X9_no rfl rfl (Nat.le_of_ble_eq_true rfl) (k_X9_no (by omega) er1) (mj_dt dt_X9_houses 29 rfl) ?_
  obtain rfl := Option.some.inj h
  exact mj_go_ret (v := some (.int r1.1)) (Nat.le_of_ble_eq_true rfl) (mj_retI (mj_dt dt_X9_houses 30 rfl) rfl)
def f_X9_houses_73 (N : Nat) (v1 : Int32) (v2 : Int32) (v3 : Int32) (k_73 : Int32 × Int32 × mj_m → Option (Int32 × mj_m)) (s : Int32 × Int32 × mj_m) : Option (Int32 × mj_m) := if (v2 + v3) ≤ s.2.1 then (some (s.1, s.2.2)) else (if (s.2.2.1 95 1) = 10 then (some (s.1, s.2.2)) else ((f_X9_intAt N v1 s.2.1 s.2.2).bind (fun r3 => (f_X9_isCorner N r3 s.2.2).bind (fun r4 => if r4 = 0 then (some (s.1, s.2.2)) else ((f_X9_intAt N v1 (s.2.1 + 1) s.2.2).bind (fun r6 => (f_X9_intAt N v1 (s.2.1 + 2) s.2.2).bind (fun r7 => (f_X9_intAt N v1 (s.2.1 + 3) s.2.2).bind (fun r8 => (f_X9_intAt N v1 (s.2.1 + 4) s.2.2).bind (fun r9 => (f_X9_isSo N r6 r7 r8 r9 s.2.2).bind (fun r10 => if r10 = 0 then (some (s.1, s.2.2)) else ((f_X9_intAt N v1 s.2.1 s.2.2).bind (fun r12 => (f_X9_intAt N v1 (s.2.1 + 1) s.2.2).bind (fun r13 => (f_X9_intAt N v1 (s.2.1 + 2) s.2.2).bind (fun r14 => (f_X9_intAt N v1 (s.2.1 + 3) s.2.2).bind (fun r15 => (f_X9_intAt N v1 (s.2.1 + 4) s.2.2).bind (fun r16 => (f_X9_comes N r12 r13 r14 r15 r16 s.2.2).bind (fun r17 => mj_mw (s.1 + 1) (fun x18 => mj_mw (s.2.1 + 5) (fun x19 => k_73 (x18, x19, r17.2))))))))))))))))))))
theorem k_X9_houses_73 {L : Nat} {xs : Nat → Int32} {δ N : Nat} {v1 : Int32} {v2 : Int32} {v3 : Int32} (hδ : 1 ≤ δ) : ∀ (n : Nat) (s : Int32 × Int32 × mj_m) (a : Int32 × mj_m), mj_lp n (f_X9_houses_73 N v1 v2 v3) s = some a → mj_Go (mj_EX L xs) (δ + 1) mY_X9_houses 73 [(0, .ref 95), (1, .int v1), (2, .int v2), (3, .int v3), (5, .int s.1), (6, .int s.2.1)] [] (mj_fin s.2.2) (some (.int a.1), (mj_fin a.2)) := by
  refine mj_lp_sound (fun k_73 s a q_73 h => ?_)
  unfold f_X9_houses_73 at h
  refine mj_go_iload (i := 6) (x := s.2.1) rfl (mj_dt dt_X9_houses 43 rfl) ?_
  refine mj_go_iload_n (k := 2) (x := v2) rfl (mj_dt dt_X9_houses 44 rfl) ?_
  refine mj_go_iload_n (k := 3) (x := v3) rfl (mj_dt dt_X9_houses 45 rfl) ?_
  refine mj_go_iadd (mj_dt dt_X9_houses 46 rfl) ?_
  refine mj_go_icmp_ge (tgt := 207) rfl (mj_dt dt_X9_houses 47 rfl) (fun b1 => ?_) (fun b1 => ?_)
  · rw [if_pos b1] at h
    refine mj_go_iload (i := 5) (x := s.1) rfl (mj_dt dt_X9_houses 122 rfl) ?_
    obtain rfl := Option.some.inj h
    exact mj_go_ret (v := some (.int s.1)) (Nat.le_of_ble_eq_true rfl) (mj_retI (mj_dt dt_X9_houses 123 rfl) rfl)
  · rw [if_neg b1] at h
    refine mj_go_aload_n (k := 0) (x := 95) rfl (mj_dt dt_X9_houses 48 rfl) ?_
    refine mk_getI (c := 9) (k := 1) (Or.inl fd_9_1) (Or.inl fl_X9_124) ho_95 (mj_dt dt_X9_houses 49 rfl) ?_
    refine mj_go_bipush (v := 10) rfl (mj_dt dt_X9_houses 50 rfl) ?_
    refine mj_go_icmp_eq (tgt := 147) rfl (mj_dt dt_X9_houses 51 rfl) (fun b2 => ?_) (fun b2 => ?_)
    · rw [if_pos b2] at h
      refine mj_go_iload (i := 5) (x := s.1) rfl (mj_dt dt_X9_houses 86 rfl) ?_
      obtain rfl := Option.some.inj h
      exact mj_go_ret (v := some (.int s.1)) (Nat.le_of_ble_eq_true rfl) (mj_retI (mj_dt dt_X9_houses 87 rfl) rfl)
    · rw [if_neg b2] at h
      refine mj_go_aload_n (k := 0) (x := 95) rfl (mj_dt dt_X9_houses 52 rfl) ?_
      refine mj_go_aload_n (k := 0) (x := 95) rfl (mj_dt dt_X9_houses 53 rfl) ?_
      refine mj_go_iload_n (k := 1) (x := v1) rfl (mj_dt dt_X9_houses 54 rfl) ?_
      refine mj_go_iload (i := 6) (x := s.2.1) rfl (mj_dt dt_X9_houses 55 rfl) ?_
      obtain ⟨r3, er3, h⟩ := mj_bind_some h
      refine ml_callV (Y' := mY_X9_intAt) (as := [.int v1, .int s.2.1]) (rest := [.ref 95]) (c := 9) (v := (some (.int r3))) (M1 := (mj_fin s.2.2)) ho_95 rfl lm_X9_165 wc_X9_intAt pl_X9_intAt ok_X9_intAt rfl rfl (Nat.le_of_ble_eq_true rfl) (k_X9_intAt (by omega) er3) (mj_dt dt_X9_houses 56 rfl) ?_
      obtain ⟨r4, er4, h⟩ := mj_bind_some h
      refine ml_callV (Y' := mY_X9_isCorner) (as := [.int r3]) (rest := []) (c := 9) (v := (some (.int r4))) (M1 := (mj_fin s.2.2)) ho_95 rfl lm_X9_152 wc_X9_isCorner pl_X9_isCorner ok_X9_isCorner rfl rfl (Nat.le_of_ble_eq_true rfl) (k_X9_isCorner (by omega) er4) (mj_dt dt_X9_houses 57 rfl) ?_
      refine mj_go_if_eq (tgt := 147) rfl (mj_dt dt_X9_houses 58 rfl) (fun b5 => ?_) (fun b5 => ?_)
      · rw [if_pos b5] at h
        refine mj_go_iload (i := 5) (x := s.1) rfl (mj_dt dt_X9_houses 86 rfl) ?_
        obtain rfl := Option.some.inj h
        exact mj_go_ret (v := some (.int s.1)) (Nat.le_of_ble_eq_true rfl) (mj_retI (mj_dt dt_X9_houses 87 rfl) rfl)
      · rw [if_neg b5] at h
        refine mj_go_aload_n (k := 0) (x := 95) rfl (mj_dt dt_X9_houses 59 rfl) ?_
        refine mj_go_aload_n (k := 0) (x := 95) rfl (mj_dt dt_X9_houses 60 rfl) ?_
        refine mj_go_iload_n (k := 1) (x := v1) rfl (mj_dt dt_X9_houses 61 rfl) ?_
        refine mj_go_iload (i := 6) (x := s.2.1) rfl (mj_dt dt_X9_houses 62 rfl) ?_
        refine mj_go_iconst (v := 1) rfl (mj_dt dt_X9_houses 63 rfl) ?_
        refine mj_go_iadd (mj_dt dt_X9_houses 64 rfl) ?_
        obtain ⟨r6, er6, h⟩ := mj_bind_some h
        refine ml_callV (Y' := mY_X9_intAt) (as := [.int v1, .int (s.2.1 + 1)]) (rest := [.ref 95]) (c := 9) (v := (some (.int r6))) (M1 := (mj_fin s.2.2)) ho_95 rfl lm_X9_165 wc_X9_intAt pl_X9_intAt ok_X9_intAt rfl rfl (Nat.le_of_ble_eq_true rfl) (k_X9_intAt (by omega) er6) (mj_dt dt_X9_houses 65 rfl) ?_
        refine mj_go_aload_n (k := 0) (x := 95) rfl (mj_dt dt_X9_houses 66 rfl) ?_
        refine mj_go_iload_n (k := 1) (x := v1) rfl (mj_dt dt_X9_houses 67 rfl) ?_
        refine mj_go_iload (i := 6) (x := s.2.1) rfl (mj_dt dt_X9_houses 68 rfl) ?_
        refine mj_go_iconst (v := 2) rfl (mj_dt dt_X9_houses 69 rfl) ?_
        refine mj_go_iadd (mj_dt dt_X9_houses 70 rfl) ?_
        obtain ⟨r7, er7, h⟩ := mj_bind_some h
        refine ml_callV (Y' := mY_X9_intAt) (as := [.int v1, .int (s.2.1 + 2)]) (rest := [.int r6, .ref 95]) (c := 9) (v := (some (.int r7))) (M1 := (mj_fin s.2.2)) ho_95 rfl lm_X9_165 wc_X9_intAt pl_X9_intAt ok_X9_intAt rfl rfl (Nat.le_of_ble_eq_true rfl) (k_X9_intAt (by omega) er7) (mj_dt dt_X9_houses 71 rfl) ?_
        refine mj_go_aload_n (k := 0) (x := 95) rfl (mj_dt dt_X9_houses 72 rfl) ?_
        refine mj_go_iload_n (k := 1) (x := v1) rfl (mj_dt dt_X9_houses 73 rfl) ?_
        refine mj_go_iload (i := 6) (x := s.2.1) rfl (mj_dt dt_X9_houses 74 rfl) ?_
        refine mj_go_iconst (v := 3) rfl (mj_dt dt_X9_houses 75 rfl) ?_
        refine mj_go_iadd (mj_dt dt_X9_houses 76 rfl) ?_
        obtain ⟨r8, er8, h⟩ := mj_bind_some h
        refine ml_callV (Y' := mY_X9_intAt) (as := [.int v1, .int (s.2.1 + 3)]) (rest := [.int r7, .int r6, .ref 95]) (c := 9) (v := (some (.int r8))) (M1 := (mj_fin s.2.2)) ho_95 rfl lm_X9_165 wc_X9_intAt pl_X9_intAt ok_X9_intAt rfl rfl (Nat.le_of_ble_eq_true rfl) (k_X9_intAt (by omega) er8) (mj_dt dt_X9_houses 77 rfl) ?_
        refine mj_go_aload_n (k := 0) (x := 95) rfl (mj_dt dt_X9_houses 78 rfl) ?_
        refine mj_go_iload_n (k := 1) (x := v1) rfl (mj_dt dt_X9_houses 79 rfl) ?_
        refine mj_go_iload (i := 6) (x := s.2.1) rfl (mj_dt dt_X9_houses 80 rfl) ?_
        refine mj_go_iconst (v := 4) rfl (mj_dt dt_X9_houses 81 rfl) ?_
        refine mj_go_iadd (mj_dt dt_X9_houses 82 rfl) ?_
        obtain ⟨r9, er9, h⟩ := mj_bind_some h
        refine ml_callV (Y' := mY_X9_intAt) (as := [.int v1, .int (s.2.1 + 4)]) (rest := [.int r8, .int r7, .int r6, .ref 95]) (c := 9) (v := (some (.int r9))) (M1 := (mj_fin s.2.2)) ho_95 rfl lm_X9_165 wc_X9_intAt pl_X9_intAt ok_X9_intAt rfl rfl (Nat.le_of_ble_eq_true rfl) (k_X9_intAt (by omega) er9) (mj_dt dt_X9_houses 83 rfl) ?_
        obtain ⟨r10, er10, h⟩ := mj_bind_some h
        refine ml_callV (Y' := mY_X9_isSo) (as := [.int r6, .int r7, .int r8, .int r9]) (rest := []) (c := 9) (v := (some (.int r10))) (M1 := (mj_fin s.2.2)) ho_95 rfl lm_X9_157 wc_X9_isSo pl_X9_isSo ok_X9_isSo rfl rfl (Nat.le_of_ble_eq_true rfl) (k_X9_isSo (by omega) er10) (mj_dt dt_X9_houses 84 rfl) ?_
        refine mj_go_if_ne (tgt := 150) rfl (mj_dt dt_X9_houses 85 rfl) (fun b11 => ?_) (fun b11 => ?_)
        · rw [if_neg b11] at h
          refine mj_go_aload_n (k := 0) (x := 95) rfl (mj_dt dt_X9_houses 88 rfl) ?_
          refine mj_go_aload_n (k := 0) (x := 95) rfl (mj_dt dt_X9_houses 89 rfl) ?_
          refine mj_go_iload_n (k := 1) (x := v1) rfl (mj_dt dt_X9_houses 90 rfl) ?_
          refine mj_go_iload (i := 6) (x := s.2.1) rfl (mj_dt dt_X9_houses 91 rfl) ?_
          obtain ⟨r12, er12, h⟩ := mj_bind_some h
          refine ml_callV (Y' := mY_X9_intAt) (as := [.int v1, .int s.2.1]) (rest := [.ref 95]) (c := 9) (v := (some (.int r12))) (M1 := (mj_fin s.2.2)) ho_95 rfl lm_X9_165 wc_X9_intAt pl_X9_intAt ok_X9_intAt rfl rfl (Nat.le_of_ble_eq_true rfl) (k_X9_intAt (by omega) er12) (mj_dt dt_X9_houses 92 rfl) ?_
          refine mj_go_aload_n (k := 0) (x := 95) rfl (mj_dt dt_X9_houses 93 rfl) ?_
          refine mj_go_iload_n (k := 1) (x := v1) rfl (mj_dt dt_X9_houses 94 rfl) ?_
          refine mj_go_iload (i := 6) (x := s.2.1) rfl (mj_dt dt_X9_houses 95 rfl) ?_
          refine mj_go_iconst (v := 1) rfl (mj_dt dt_X9_houses 96 rfl) ?_
          refine mj_go_iadd (mj_dt dt_X9_houses 97 rfl) ?_
          obtain ⟨r13, er13, h⟩ := mj_bind_some h
          refine ml_callV (Y' := mY_X9_intAt) (as := [.int v1, .int (s.2.1 + 1)]) (rest := [.int r12, .ref 95]) (c := 9) (v := (some (.int r13))) (M1 := (mj_fin s.2.2)) ho_95 rfl lm_X9_165 wc_X9_intAt pl_X9_intAt ok_X9_intAt rfl rfl (Nat.le_of_ble_eq_true rfl) (k_X9_intAt (by omega) er13) (mj_dt dt_X9_houses 98 rfl) ?_
          refine mj_go_aload_n (k := 0) (x := 95) rfl (mj_dt dt_X9_houses 99 rfl) ?_
          refine mj_go_iload_n (k := 1) (x := v1) rfl (mj_dt dt_X9_houses 100 rfl) ?_
          refine mj_go_iload (i := 6) (x := s.2.1) rfl (mj_dt dt_X9_houses 101 rfl) ?_
          refine mj_go_iconst (v := 2) rfl (mj_dt dt_X9_houses 102 rfl) ?_
          refine mj_go_iadd (mj_dt dt_X9_houses 103 rfl) ?_
          obtain ⟨r14, er14, h⟩ := mj_bind_some h
          refine ml_callV (Y' := mY_X9_intAt) (as := [.int v1, .int (s.2.1 + 2)]) (rest := [.int r13, .int r12, .ref 95]) (c := 9) (v := (some (.int r14))) (M1 := (mj_fin s.2.2)) ho_95 rfl lm_X9_165 wc_X9_intAt pl_X9_intAt ok_X9_intAt rfl rfl (Nat.le_of_ble_eq_true rfl) (k_X9_intAt (by omega) er14) (mj_dt dt_X9_houses 104 rfl) ?_
          refine mj_go_aload_n (k := 0) (x := 95) rfl (mj_dt dt_X9_houses 105 rfl) ?_
          refine mj_go_iload_n (k := 1) (x := v1) rfl (mj_dt dt_X9_houses 106 rfl) ?_
          refine mj_go_iload (i := 6) (x := s.2.1) rfl (mj_dt dt_X9_houses 107 rfl) ?_
          refine mj_go_iconst (v := 3) rfl (mj_dt dt_X9_houses 108 rfl) ?_
          refine mj_go_iadd (mj_dt dt_X9_houses 109 rfl) ?_
          obtain ⟨r15, er15, h⟩ := mj_bind_some h
          refine ml_callV (Y' := mY_X9_intAt) (as := [.int v1, .int (s.2.1 + 3)]) (rest := [.int r14, .int r13, .int r12, .ref 95]) (c := 9) (v := (some (.int r15))) (M1 := (mj_fin s.2.2)) ho_95 rfl lm_X9_165 wc_X9_intAt pl_X9_intAt ok_X9_intAt rfl rfl (Nat.le_of_ble_eq_true rfl) (k_X9_intAt (by omega) er15) (mj_dt dt_X9_houses 110 rfl) ?_
          refine mj_go_aload_n (k := 0) (x := 95) rfl (mj_dt dt_X9_houses 111 rfl) ?_
          refine mj_go_iload_n (k := 1) (x := v1) rfl (mj_dt dt_X9_houses 112 rfl) ?_
          refine mj_go_iload (i := 6) (x := s.2.1) rfl (mj_dt dt_X9_houses 113 rfl) ?_
          refine mj_go_iconst (v := 4) rfl (mj_dt dt_X9_houses 114 rfl) ?_
          refine mj_go_iadd (mj_dt dt_X9_houses 115 rfl) ?_
          obtain ⟨r16, er16, h⟩ := mj_bind_some h
          refine ml_callV (Y' := mY_X9_intAt) (as := [.int v1, .int (s.2.1 + 4)]) (rest := [.int r15, .int r14, .int r13, .int r12, .ref 95]) (c := 9) (v := (some (.int r16))) (M1 := (mj_fin s.2.2)) ho_95 rfl lm_X9_165 wc_X9_intAt pl_X9_intAt ok_X9_intAt rfl rfl (Nat.le_of_ble_eq_true rfl) (k_X9_intAt (by omega) er16) (mj_dt dt_X9_houses 116 rfl) ?_
          obtain ⟨r17, er17, h⟩ := mj_bind_some h
          refine ml_callV (Y' := mY_X9_comes) (as := [.int r12, .int r13, .int r14, .int r15, .int r16]) (rest := []) (c := 9) (v := (some (.int r17.1))) (M1 := (mj_fin r17.2)) ho_95 rfl lm_X9_161 wc_X9_comes pl_X9_comes ok_X9_comes rfl rfl (Nat.le_of_ble_eq_true rfl) (k_X9_comes (by omega) er17) (mj_dt dt_X9_houses 117 rfl) ?_
          refine mj_go_pop rfl (mj_dt dt_X9_houses 118 rfl) ?_
          obtain ⟨x18, ex18, h⟩ := mj_mw_some h
          refine mj_go_iinc (i := 5) (x := s.1) (v := x18) rfl (by rw [ex18] <;> rfl) (by decide) (mj_dt dt_X9_houses 119 rfl) ?_
          obtain ⟨x19, ex19, h⟩ := mj_mw_some h
          refine mj_go_iinc (i := 6) (x := s.2.1) (v := x19) rfl (by rw [ex19] <;> rfl) (by decide) (mj_dt dt_X9_houses 120 rfl) ?_
          refine mj_go_goto (tgt := 73) rfl (mj_dt dt_X9_houses 121 rfl) ?_
          refine mj_go_sub (lv' := [(0, .ref 95), (1, .int v1), (2, .int v2), (3, .int v3), (5, .int x18), (6, .int x19)]) (List.forall_mem_cons.mpr ⟨rfl, (List.forall_mem_cons.mpr ⟨rfl, (List.forall_mem_cons.mpr ⟨rfl, (List.forall_mem_cons.mpr ⟨rfl, (List.forall_mem_cons.mpr ⟨rfl, (List.forall_mem_cons.mpr ⟨rfl, (fun _ h9 => absurd h9 List.not_mem_nil)⟩)⟩)⟩)⟩)⟩)⟩) ?_
          exact q_73 _ _ h
        · rw [if_pos b11] at h
          refine mj_go_iload (i := 5) (x := s.1) rfl (mj_dt dt_X9_houses 86 rfl) ?_
          obtain rfl := Option.some.inj h
          exact mj_go_ret (v := some (.int s.1)) (Nat.le_of_ble_eq_true rfl) (mj_retI (mj_dt dt_X9_houses 87 rfl) rfl)
def f_X9_houses (N : Nat) (v1 : Int32) (v2 : Int32) (v3 : Int32) (m : mj_m) : Option (Int32 × mj_m) := (f_X9_wants N v1 1 m).bind (fun r1 => if r1 = 0 then (if 0 ≤ v3 then (if v2 < 0 then f_X9_houses_47 N m else (mj_ck (mj_b 0 112 v1) ( if v2 ≤ ((m.1 112 v1.toNatClampNeg) - v3) then (if (v3 - v3 / 5 * 5) = 0 then (mj_lp N (f_X9_houses_73 N v1 v2 v3) (0, v2, m)) else ((f_X9_no N (-6 : Int32) m).bind (fun r8 => some (r8.1, r8.2)))) else f_X9_houses_47 N m))) else ((f_X9_no N (-4 : Int32) m).bind (fun r4 => some (r4.1, r4.2)))) else ((f_X9_no N r1 m).bind (fun r3 => some (r3.1, r3.2))))
theorem k_X9_houses {L : Nat} {xs : Nat → Int32} {δ N : Nat} {v1 : Int32} {v2 : Int32} {v3 : Int32} {m : mj_m} (hδ : 2 ≤ δ) {a : Int32 × mj_m} (h : f_X9_houses N v1 v2 v3 m = some a) : mj_Cl (mj_EX L xs) δ mY_X9_houses [.ref 95, .int v1, .int v2, .int v3] (mj_fin m) (some (.int a.1), (mj_fin a.2)) := by
  obtain ⟨δ, rfl⟩ : ∃ d, δ = d + 1 := ⟨δ - 1, by omega⟩
  have hδ : 1 ≤ δ := by omega
  refine mj_cl_of ok_X9_houses (Nat.le_of_ble_eq_true rfl) ?_
  unfold f_X9_houses at h
  refine mj_go_aload_n (k := 0) (x := 95) rfl (mj_dt dt_X9_houses 0 rfl) ?_
  refine mj_go_iload_n (k := 1) (x := v1) rfl (mj_dt dt_X9_houses 1 rfl) ?_
  refine mj_go_iconst (v := 1) rfl (mj_dt dt_X9_houses 2 rfl) ?_
  obtain ⟨r1, er1, h⟩ := mj_bind_some h
  refine ml_callV (Y' := mY_X9_wants) (as := [.int v1, .int 1]) (rest := []) (c := 9) (v := (some (.int r1))) (M1 := (mj_fin m)) ho_95 rfl lm_X9_138 wc_X9_wants pl_X9_wants ok_X9_wants rfl rfl (Nat.le_of_ble_eq_true rfl) (k_X9_wants (by omega) er1) (mj_dt dt_X9_houses 3 rfl) ?_
  refine mj_go_istore (i := 4) (by decide) (mj_dt dt_X9_houses 4 rfl) ?_
  refine mj_go_iload (i := 4) (x := r1) rfl (mj_dt dt_X9_houses 5 rfl) ?_
  refine mj_go_if_eq (tgt := 20) rfl (mj_dt dt_X9_houses 6 rfl) (fun b2 => ?_) (fun b2 => ?_)
  · rw [if_pos b2] at h
    refine mj_go_iload_n (k := 3) (x := v3) rfl (mj_dt dt_X9_houses 11 rfl) ?_
    refine mj_go_if_ge (tgt := 31) rfl (mj_dt dt_X9_houses 12 rfl) (fun b3 => ?_) (fun b3 => ?_)
    · rw [if_pos b3] at h
      refine mj_go_iload_n (k := 2) (x := v2) rfl (mj_dt dt_X9_houses 17 rfl) ?_
      refine mj_go_if_lt (tgt := 47) rfl (mj_dt dt_X9_houses 18 rfl) (fun b4 => ?_) (fun b4 => ?_)
      · rw [if_pos b4] at h
        refine mj_go_sub (lv' := [(0, .ref 95)]) (List.forall_mem_cons.mpr ⟨rfl, (fun _ h9 => absurd h9 List.not_mem_nil)⟩) ?_
        exact k_X9_houses_47 hδ h
      · rw [if_neg b4] at h
        refine mj_go_iload_n (k := 2) (x := v2) rfl (mj_dt dt_X9_houses 19 rfl) ?_
        refine mj_go_aload_n (k := 0) (x := 95) rfl (mj_dt dt_X9_houses 20 rfl) ?_
        refine ml_getR (c := 9) (k := 27) (q := 112) fd_9_27 rf_95_27 (Or.inl fl_X9_74) ho_95 (mj_dt dt_X9_houses 21 rfl) ?_
        refine mj_go_iload_n (k := 1) (x := v1) rfl (mj_dt dt_X9_houses 22 rfl) ?_
        obtain ⟨c5, h⟩ := mj_ck_some h
        refine mk_iald c5 (mj_dt dt_X9_houses 23 rfl) ?_
        refine mj_go_iload_n (k := 3) (x := v3) rfl (mj_dt dt_X9_houses 24 rfl) ?_
        refine mj_go_isub (mj_dt dt_X9_houses 25 rfl) ?_
        refine mj_go_icmp_le (tgt := 54) rfl (mj_dt dt_X9_houses 26 rfl) (fun b6 => ?_) (fun b6 => ?_)
        · rw [if_pos b6] at h
          refine mj_go_iload_n (k := 3) (x := v3) rfl (mj_dt dt_X9_houses 31 rfl) ?_
          refine mj_go_iconst (v := 5) rfl (mj_dt dt_X9_houses 32 rfl) ?_
          refine mj_go_irem (by decide) (mj_dt dt_X9_houses 33 rfl) ?_
          refine mj_go_if_eq (tgt := 67) rfl (mj_dt dt_X9_houses 34 rfl) (fun b7 => ?_) (fun b7 => ?_)
          · rw [if_pos b7] at h
            refine mj_go_iconst (v := 0) rfl (mj_dt dt_X9_houses 39 rfl) ?_
            refine mj_go_istore (i := 5) (by decide) (mj_dt dt_X9_houses 40 rfl) ?_
            refine mj_go_iload_n (k := 2) (x := v2) rfl (mj_dt dt_X9_houses 41 rfl) ?_
            refine mj_go_istore (i := 6) (by decide) (mj_dt dt_X9_houses 42 rfl) ?_
            refine mj_go_sub (lv' := [(0, .ref 95), (1, .int v1), (2, .int v2), (3, .int v3), (5, .int 0), (6, .int v2)]) (List.forall_mem_cons.mpr ⟨rfl, (List.forall_mem_cons.mpr ⟨rfl, (List.forall_mem_cons.mpr ⟨rfl, (List.forall_mem_cons.mpr ⟨rfl, (List.forall_mem_cons.mpr ⟨rfl, (List.forall_mem_cons.mpr ⟨rfl, (fun _ h9 => absurd h9 List.not_mem_nil)⟩)⟩)⟩)⟩)⟩)⟩) ?_
            exact k_X9_houses_73 hδ N _ _ h
          · rw [if_neg b7] at h
            refine mj_go_aload_n (k := 0) (x := 95) rfl (mj_dt dt_X9_houses 35 rfl) ?_
            refine mj_go_bipush (v := -6) rfl (mj_dt dt_X9_houses 36 rfl) ?_
            obtain ⟨r8, er8, h⟩ := mj_bind_some h
            refine ml_callV (Y' := mY_X9_no) (as := [.int (-6 : Int32)]) (rest := []) (c := 9) (v := (some (.int r8.1))) (M1 := (mj_fin r8.2)) ho_95 rfl lm_X9_134 wc_X9_no pl_X9_no ok_X9_no rfl rfl (Nat.le_of_ble_eq_true rfl) (k_X9_no (by omega) er8) (mj_dt dt_X9_houses 37 rfl) ?_
            obtain rfl := Option.some.inj h
            exact mj_go_ret (v := some (.int r8.1)) (Nat.le_of_ble_eq_true rfl) (mj_retI (mj_dt dt_X9_houses 38 rfl) rfl)
        · rw [if_neg b6] at h
          refine mj_go_sub (lv' := [(0, .ref 95)]) (List.forall_mem_cons.mpr ⟨rfl, (fun _ h9 => absurd h9 List.not_mem_nil)⟩) ?_
          exact k_X9_houses_47 hδ h
    · rw [if_neg b3] at h
      refine mj_go_aload_n (k := 0) (x := 95) rfl (mj_dt dt_X9_houses 13 rfl) ?_
      refine mj_go_bipush (v := -4) rfl (mj_dt dt_X9_houses 14 rfl) ?_
      obtain ⟨r4, er4, h⟩ := mj_bind_some h
      refine ml_callV (Y' := mY_X9_no) (as := [.int (-4 : Int32)]) (rest := []) (c := 9) (v := (some (.int r4.1))) (M1 := (mj_fin r4.2)) ho_95 rfl lm_X9_134 wc_X9_no pl_X9_no ok_X9_no rfl rfl (Nat.le_of_ble_eq_true rfl) (k_X9_no (by omega) er4) (mj_dt dt_X9_houses 15 rfl) ?_
      obtain rfl := Option.some.inj h
      exact mj_go_ret (v := some (.int r4.1)) (Nat.le_of_ble_eq_true rfl) (mj_retI (mj_dt dt_X9_houses 16 rfl) rfl)
  · rw [if_neg b2] at h
    refine mj_go_aload_n (k := 0) (x := 95) rfl (mj_dt dt_X9_houses 7 rfl) ?_
    refine mj_go_iload (i := 4) (x := r1) rfl (mj_dt dt_X9_houses 8 rfl) ?_
    obtain ⟨r3, er3, h⟩ := mj_bind_some h
    refine ml_callV (Y' := mY_X9_no) (as := [.int r1]) (rest := []) (c := 9) (v := (some (.int r3.1))) (M1 := (mj_fin r3.2)) ho_95 rfl lm_X9_134 wc_X9_no pl_X9_no ok_X9_no rfl rfl (Nat.le_of_ble_eq_true rfl) (k_X9_no (by omega) er3) (mj_dt dt_X9_houses 9 rfl) ?_
    obtain rfl := Option.some.inj h
    exact mj_go_ret (v := some (.int r3.1)) (Nat.le_of_ble_eq_true rfl) (mj_retI (mj_dt dt_X9_houses 10 rfl) rfl)
def f_X7_isHouse_22 (N : Nat) (m : mj_m) : Option (Int32) := (some 0)
theorem k_X7_isHouse_22 {L : Nat} {xs : Nat → Int32} {δ N : Nat} {m : mj_m} {a : Int32} (h : f_X7_isHouse_22 N m = some a) : mj_Go (mj_EX L xs) δ mY_X7_isHouse 22 [] [] (mj_fin m) (some (.int a), (mj_fin m)) := by
  unfold f_X7_isHouse_22 at h
  refine mj_go_iconst (v := 0) rfl (mj_dt dt_X7_isHouse 11 rfl) ?_
  obtain rfl := Option.some.inj h
  exact mj_go_ret (v := some (.int 0)) (Nat.le_of_ble_eq_true rfl) (mj_retZ (mj_dt dt_X7_isHouse 12 rfl) rfl rfl)
def f_X7_isHouse (N : Nat) (v1 : Int32) (m : mj_m) : Option (Int32) := if v1 < 0 then f_X7_isHouse_22 N m else (if (m.1 1 7) ≤ v1 then f_X7_isHouse_22 N m else (if 10 ≤ v1 then f_X7_isHouse_22 N m else ((some 1))))
theorem k_X7_isHouse {L : Nat} {xs : Nat → Int32} {δ N : Nat} {v1 : Int32} {m : mj_m} (_ : 0 ≤ δ) {a : Int32} (h : f_X7_isHouse N v1 m = some a) : mj_Cl (mj_EX L xs) δ mY_X7_isHouse [.ref 1, .int v1] (mj_fin m) (some (.int a), (mj_fin m)) := by
  refine mj_cl_of ok_X7_isHouse (Nat.le_of_ble_eq_true rfl) ?_
  unfold f_X7_isHouse at h
  refine mj_go_iload_n (k := 1) (x := v1) rfl (mj_dt dt_X7_isHouse 0 rfl) ?_
  refine mj_go_if_lt (tgt := 22) rfl (mj_dt dt_X7_isHouse 1 rfl) (fun b1 => ?_) (fun b1 => ?_)
  · rw [if_pos b1] at h
    refine mj_go_sub (lv' := []) (fun _ h9 => absurd h9 List.not_mem_nil) ?_
    exact k_X7_isHouse_22 h
  · rw [if_neg b1] at h
    refine mj_go_iload_n (k := 1) (x := v1) rfl (mj_dt dt_X7_isHouse 2 rfl) ?_
    refine mj_go_aload_n (k := 0) (x := 1) rfl (mj_dt dt_X7_isHouse 3 rfl) ?_
    refine mk_getI (c := 7) (k := 7) (Or.inl fd_7_7) (Or.inl fl_X7_37) ho_1 (mj_dt dt_X7_isHouse 4 rfl) ?_
    refine mj_go_icmp_ge (tgt := 22) rfl (mj_dt dt_X7_isHouse 5 rfl) (fun b2 => ?_) (fun b2 => ?_)
    · rw [if_pos b2] at h
      refine mj_go_sub (lv' := []) (fun _ h9 => absurd h9 List.not_mem_nil) ?_
      exact k_X7_isHouse_22 h
    · rw [if_neg b2] at h
      refine mj_go_iload_n (k := 1) (x := v1) rfl (mj_dt dt_X7_isHouse 6 rfl) ?_
      refine mj_go_bipush (v := 10) rfl (mj_dt dt_X7_isHouse 7 rfl) ?_
      refine mj_go_icmp_ge (tgt := 22) rfl (mj_dt dt_X7_isHouse 8 rfl) (fun b3 => ?_) (fun b3 => ?_)
      · rw [if_pos b3] at h
        refine mj_go_sub (lv' := []) (fun _ h9 => absurd h9 List.not_mem_nil) ?_
        exact k_X7_isHouse_22 h
      · rw [if_neg b3] at h
        refine mj_go_iconst (v := 1) rfl (mj_dt dt_X7_isHouse 9 rfl) ?_
        refine mj_go_goto (tgt := 23) rfl (mj_dt dt_X7_isHouse 10 rfl) ?_
        obtain rfl := Option.some.inj h
        exact mj_go_ret (v := some (.int 1)) (Nat.le_of_ble_eq_true rfl) (mj_retZ (mj_dt dt_X7_isHouse 12 rfl) rfl rfl)
def f_X8_houseOf (N : Nat) (v1 : Int32) (v2 : Int32) (m : mj_m) : Option (Int32 × mj_m) := (f_X7_isHouse N v1 m).bind (fun r1 => if r1 = 0 then ((f_X8_refuse N 5 m).bind (fun r3 => some (r3.1, r3.2))) else (mj_ck (mj_b 2 4 v1) ( if v2 = 0 then (some (m.1 (8 + v1.toNatClampNeg) 0, m)) else if v2 = 1 then (some (m.1 (8 + v1.toNatClampNeg) 1, m)) else if v2 = 2 then (some (m.1 (8 + v1.toNatClampNeg) 2, m)) else if v2 = 3 then (some (m.1 (8 + v1.toNatClampNeg) 3, m)) else if v2 = 4 then (some (m.1 (8 + v1.toNatClampNeg) 4, m)) else if v2 = 5 then (some (m.1 (8 + v1.toNatClampNeg) 5, m)) else if v2 = 6 then (some (m.1 (8 + v1.toNatClampNeg) 6, m)) else if v2 = 7 then (mj_ck (mj_b 0 5 v1) ( some (m.1 5 v1.toNatClampNeg, m))) else if v2 = 8 then (if (m.1 (8 + v1.toNatClampNeg) 7) = 0 then ((some (0, m))) else ((some (1, m)))) else ((f_X8_refuse N 5 m).bind (fun r13 => some (r13.1, r13.2))))))
theorem k_X8_houseOf {L : Nat} {xs : Nat → Int32} {δ N : Nat} {v1 : Int32} {v2 : Int32} {m : mj_m} (hδ : 1 ≤ δ) {a : Int32 × mj_m} (h : f_X8_houseOf N v1 v2 m = some a) : mj_Cl (mj_EX L xs) δ mY_X8_houseOf [.ref 0, .int v1, .int v2] (mj_fin m) (some (.int a.1), (mj_fin a.2)) := by
  obtain ⟨δ, rfl⟩ : ∃ d, δ = d + 1 := ⟨δ - 1, by omega⟩
  have hδ : 0 ≤ δ := by omega
  refine mj_cl_of ok_X8_houseOf (Nat.le_of_ble_eq_true rfl) ?_
  unfold f_X8_houseOf at h
  refine mj_go_aload_n (k := 0) (x := 0) rfl (mj_dt dt_X8_houseOf 0 rfl) ?_
  refine ml_getR (c := 8) (k := 0) (q := 1) fd_8_0 rf_0_0 (Or.inl fl_X8_12) ho_0 (mj_dt dt_X8_houseOf 1 rfl) ?_
  refine mj_go_iload_n (k := 1) (x := v1) rfl (mj_dt dt_X8_houseOf 2 rfl) ?_
  obtain ⟨r1, er1, h⟩ := mj_bind_some h
  refine ml_callV (Y' := mY_X7_isHouse) (as := [.int v1]) (rest := []) (c := 7) (v := (some (.int r1))) (M1 := (mj_fin m)) ho_1 rfl lm_X8_185 wc_X7_isHouse pl_X7_isHouse ok_X7_isHouse rfl rfl (Nat.le_of_ble_eq_true rfl) (k_X7_isHouse (by omega) er1) (mj_dt dt_X8_houseOf 3 rfl) ?_
  refine mj_go_if_ne (tgt := 17) rfl (mj_dt dt_X8_houseOf 4 rfl) (fun b2 => ?_) (fun b2 => ?_)
  · rw [if_neg b2] at h
    refine mj_go_aload_n (k := 0) (x := 0) rfl (mj_dt dt_X8_houseOf 9 rfl) ?_
    refine ml_getR (c := 8) (k := 0) (q := 1) fd_8_0 rf_0_0 (Or.inl fl_X8_12) ho_0 (mj_dt dt_X8_houseOf 10 rfl) ?_
    refine ml_getR (c := 7) (k := 2) (q := 4) fd_7_2 rf_1_2 (Or.inl fl_X8_188) ho_1 (mj_dt dt_X8_houseOf 11 rfl) ?_
    refine mj_go_iload_n (k := 1) (x := v1) rfl (mj_dt dt_X8_houseOf 12 rfl) ?_
    obtain ⟨c3, h⟩ := mj_ck_some h
    refine ml_aald2 (q := 8 + v1.toNatClampNeg) c3 (mj_hs4 c3).1 (mj_dt dt_X8_houseOf 13 rfl) ?_
    refine mj_go_astore_n (k := 3) (by decide) (mj_dt dt_X8_houseOf 14 rfl) ?_
    refine mj_go_iload_n (k := 2) (x := v2) rfl (mj_dt dt_X8_houseOf 15 rfl) ?_
    refine mj_go_tsw [(0, 52), (1, 57), (2, 62), (3, 67), (4, 72), (5, 77), (6, 82), (7, 87), (8, 97)] (by decide) (by decide) (mj_dt dt_X8_houseOf 16 rfl) ?_
    refine ⟨fun b4 => ?_, fun b4 => ?_⟩
    · rw [if_pos b4] at h
      refine ⟨80, by decide, ?_⟩
      refine mj_go_aload_n (k := 3) (x := (8 + v1.toNatClampNeg)) rfl (mj_dt dt_X8_houseOf 17 rfl) ?_
      refine mk_getI (c := 1) (k := 0) (Or.inl fd_1_0) (Or.inl fl_X8_192) (mj_hs4 c3).2 (mj_dt dt_X8_houseOf 18 rfl) ?_
      obtain rfl := Option.some.inj h
      exact mj_go_ret (v := some (.int (m.1 (8 + v1.toNatClampNeg) 0))) (Nat.le_of_ble_eq_true rfl) (mj_retI (mj_dt dt_X8_houseOf 19 rfl) rfl)
    · rw [if_neg b4] at h
      refine ⟨fun b5 => ?_, fun b5 => ?_⟩
      · rw [if_pos b5] at h
        refine ⟨85, by decide, ?_⟩
        refine mj_go_aload_n (k := 3) (x := (8 + v1.toNatClampNeg)) rfl (mj_dt dt_X8_houseOf 20 rfl) ?_
        refine mk_getI (c := 1) (k := 1) (Or.inl fd_1_1) (Or.inl fl_X8_197) (mj_hs4 c3).2 (mj_dt dt_X8_houseOf 21 rfl) ?_
        obtain rfl := Option.some.inj h
        exact mj_go_ret (v := some (.int (m.1 (8 + v1.toNatClampNeg) 1))) (Nat.le_of_ble_eq_true rfl) (mj_retI (mj_dt dt_X8_houseOf 22 rfl) rfl)
      · rw [if_neg b5] at h
        refine ⟨fun b6 => ?_, fun b6 => ?_⟩
        · rw [if_pos b6] at h
          refine ⟨90, by decide, ?_⟩
          refine mj_go_aload_n (k := 3) (x := (8 + v1.toNatClampNeg)) rfl (mj_dt dt_X8_houseOf 23 rfl) ?_
          refine mk_getI (c := 1) (k := 2) (Or.inl fd_1_2) (Or.inl fl_X8_200) (mj_hs4 c3).2 (mj_dt dt_X8_houseOf 24 rfl) ?_
          obtain rfl := Option.some.inj h
          exact mj_go_ret (v := some (.int (m.1 (8 + v1.toNatClampNeg) 2))) (Nat.le_of_ble_eq_true rfl) (mj_retI (mj_dt dt_X8_houseOf 25 rfl) rfl)
        · rw [if_neg b6] at h
          refine ⟨fun b7 => ?_, fun b7 => ?_⟩
          · rw [if_pos b7] at h
            refine ⟨95, by decide, ?_⟩
            refine mj_go_aload_n (k := 3) (x := (8 + v1.toNatClampNeg)) rfl (mj_dt dt_X8_houseOf 26 rfl) ?_
            refine mk_getI (c := 1) (k := 3) (Or.inl fd_1_3) (Or.inl fl_X8_203) (mj_hs4 c3).2 (mj_dt dt_X8_houseOf 27 rfl) ?_
            obtain rfl := Option.some.inj h
            exact mj_go_ret (v := some (.int (m.1 (8 + v1.toNatClampNeg) 3))) (Nat.le_of_ble_eq_true rfl) (mj_retI (mj_dt dt_X8_houseOf 28 rfl) rfl)
          · rw [if_neg b7] at h
            refine ⟨fun b8 => ?_, fun b8 => ?_⟩
            · rw [if_pos b8] at h
              refine ⟨100, by decide, ?_⟩
              refine mj_go_aload_n (k := 3) (x := (8 + v1.toNatClampNeg)) rfl (mj_dt dt_X8_houseOf 29 rfl) ?_
              refine mk_getI (c := 1) (k := 4) (Or.inl fd_1_4) (Or.inl fl_X8_206) (mj_hs4 c3).2 (mj_dt dt_X8_houseOf 30 rfl) ?_
              obtain rfl := Option.some.inj h
              exact mj_go_ret (v := some (.int (m.1 (8 + v1.toNatClampNeg) 4))) (Nat.le_of_ble_eq_true rfl) (mj_retI (mj_dt dt_X8_houseOf 31 rfl) rfl)
            · rw [if_neg b8] at h
              refine ⟨fun b9 => ?_, fun b9 => ?_⟩
              · rw [if_pos b9] at h
                refine ⟨105, by decide, ?_⟩
                refine mj_go_aload_n (k := 3) (x := (8 + v1.toNatClampNeg)) rfl (mj_dt dt_X8_houseOf 32 rfl) ?_
                refine mk_getI (c := 1) (k := 5) (Or.inl fd_1_5) (Or.inl fl_X8_209) (mj_hs4 c3).2 (mj_dt dt_X8_houseOf 33 rfl) ?_
                obtain rfl := Option.some.inj h
                exact mj_go_ret (v := some (.int (m.1 (8 + v1.toNatClampNeg) 5))) (Nat.le_of_ble_eq_true rfl) (mj_retI (mj_dt dt_X8_houseOf 34 rfl) rfl)
              · rw [if_neg b9] at h
                refine ⟨fun b10 => ?_, fun b10 => ?_⟩
                · rw [if_pos b10] at h
                  refine ⟨110, by decide, ?_⟩
                  refine mj_go_aload_n (k := 3) (x := (8 + v1.toNatClampNeg)) rfl (mj_dt dt_X8_houseOf 35 rfl) ?_
                  refine mk_getI (c := 1) (k := 6) (Or.inl fd_1_6) (Or.inl fl_X8_212) (mj_hs4 c3).2 (mj_dt dt_X8_houseOf 36 rfl) ?_
                  obtain rfl := Option.some.inj h
                  exact mj_go_ret (v := some (.int (m.1 (8 + v1.toNatClampNeg) 6))) (Nat.le_of_ble_eq_true rfl) (mj_retI (mj_dt dt_X8_houseOf 37 rfl) rfl)
                · rw [if_neg b10] at h
                  refine ⟨fun b11 => ?_, fun b11 => ?_⟩
                  · rw [if_pos b11] at h
                    refine ⟨115, by decide, ?_⟩
                    refine mj_go_aload_n (k := 0) (x := 0) rfl (mj_dt dt_X8_houseOf 38 rfl) ?_
                    refine ml_getR (c := 8) (k := 0) (q := 1) fd_8_0 rf_0_0 (Or.inl fl_X8_12) ho_0 (mj_dt dt_X8_houseOf 39 rfl) ?_
                    refine ml_getR (c := 7) (k := 3) (q := 5) fd_7_3 rf_1_3 (Or.inl fl_X8_215) ho_1 (mj_dt dt_X8_houseOf 40 rfl) ?_
                    refine mj_go_iload_n (k := 1) (x := v1) rfl (mj_dt dt_X8_houseOf 41 rfl) ?_
                    obtain ⟨c12, h⟩ := mj_ck_some h
                    refine mk_iald c12 (mj_dt dt_X8_houseOf 42 rfl) ?_
                    obtain rfl := Option.some.inj h
                    exact mj_go_ret (v := some (.int (m.1 5 v1.toNatClampNeg))) (Nat.le_of_ble_eq_true rfl) (mj_retI (mj_dt dt_X8_houseOf 43 rfl) rfl)
                  · rw [if_neg b11] at h
                    refine ⟨fun b12 => ?_, fun b12 => ?_⟩
                    · rw [if_pos b12] at h
                      refine ⟨125, by decide, ?_⟩
                      refine mj_go_aload_n (k := 3) (x := (8 + v1.toNatClampNeg)) rfl (mj_dt dt_X8_houseOf 44 rfl) ?_
                      refine mk_getI (c := 1) (k := 7) (Or.inr fd_1_7) (Or.inl fl_X8_218) (mj_hs4 c3).2 (mj_dt dt_X8_houseOf 45 rfl) ?_
                      refine mj_go_if_eq (tgt := 136) rfl (mj_dt dt_X8_houseOf 46 rfl) (fun b13 => ?_) (fun b13 => ?_)
                      · rw [if_pos b13] at h
                        refine mj_go_iconst (v := 0) rfl (mj_dt dt_X8_houseOf 49 rfl) ?_
                        obtain rfl := Option.some.inj h
                        exact mj_go_ret (v := some (.int 0)) (Nat.le_of_ble_eq_true rfl) (mj_retI (mj_dt dt_X8_houseOf 50 rfl) rfl)
                      · rw [if_neg b13] at h
                        refine mj_go_iconst (v := 1) rfl (mj_dt dt_X8_houseOf 47 rfl) ?_
                        refine mj_go_goto (tgt := 137) rfl (mj_dt dt_X8_houseOf 48 rfl) ?_
                        obtain rfl := Option.some.inj h
                        exact mj_go_ret (v := some (.int 1)) (Nat.le_of_ble_eq_true rfl) (mj_retI (mj_dt dt_X8_houseOf 50 rfl) rfl)
                    · rw [if_neg b12] at h
                      refine ⟨138, by decide, ?_⟩
                      refine mj_go_aload_n (k := 0) (x := 0) rfl (mj_dt dt_X8_houseOf 51 rfl) ?_
                      refine mj_go_iconst (v := 5) rfl (mj_dt dt_X8_houseOf 52 rfl) ?_
                      obtain ⟨r13, er13, h⟩ := mj_bind_some h
                      refine ml_callV (Y' := mY_X8_refuse) (as := [.int 5]) (rest := []) (c := 8) (v := (some (.int r13.1))) (M1 := (mj_fin r13.2)) ho_0 rfl lm_X8_86 wc_X8_refuse pl_X8_refuse ok_X8_refuse rfl rfl (Nat.le_of_ble_eq_true rfl) (k_X8_refuse (by omega) er13) (mj_dt dt_X8_houseOf 53 rfl) ?_
                      obtain rfl := Option.some.inj h
                      exact mj_go_ret (v := some (.int r13.1)) (Nat.le_of_ble_eq_true rfl) (mj_retI (mj_dt dt_X8_houseOf 54 rfl) rfl)
  · rw [if_pos b2] at h
    refine mj_go_aload_n (k := 0) (x := 0) rfl (mj_dt dt_X8_houseOf 5 rfl) ?_
    refine mj_go_iconst (v := 5) rfl (mj_dt dt_X8_houseOf 6 rfl) ?_
    obtain ⟨r3, er3, h⟩ := mj_bind_some h
    refine ml_callV (Y' := mY_X8_refuse) (as := [.int 5]) (rest := []) (c := 8) (v := (some (.int r3.1))) (M1 := (mj_fin r3.2)) ho_0 rfl lm_X8_86 wc_X8_refuse pl_X8_refuse ok_X8_refuse rfl rfl (Nat.le_of_ble_eq_true rfl) (k_X8_refuse (by omega) er3) (mj_dt dt_X8_houseOf 7 rfl) ?_
    obtain rfl := Option.some.inj h
    exact mj_go_ret (v := some (.int r3.1)) (Nat.le_of_ble_eq_true rfl) (mj_retI (mj_dt dt_X8_houseOf 8 rfl) rfl)
def f_X9_houseOf_18 (N : Nat) (m : mj_m) : Option (Int32 × mj_m) := (f_X9_no N (-5 : Int32) m).bind (fun r1 => some (r1.1, r1.2))
theorem k_X9_houseOf_18 {L : Nat} {xs : Nat → Int32} {δ N : Nat} {m : mj_m} (hδ : 0 ≤ δ) {a : Int32 × mj_m} (h : f_X9_houseOf_18 N m = some a) : mj_Go (mj_EX L xs) (δ + 1) mY_X9_houseOf 18 [(0, .ref 95)] [] (mj_fin m) (some (.int a.1), (mj_fin a.2)) := by
  unfold f_X9_houseOf_18 at h
  refine mj_go_aload_n (k := 0) (x := 95) rfl (mj_dt dt_X9_houseOf 9 rfl) ?_
  refine mj_go_bipush (v := -5) rfl (mj_dt dt_X9_houseOf 10 rfl) ?_
  obtain ⟨r1, er1, h⟩ := mj_bind_some h
  refine ml_callV (Y' := mY_X9_no) (as := [.int (-5 : Int32)]) (rest := []) (c := 9) (v := (some (.int r1.1))) (M1 := (mj_fin r1.2)) ho_95 rfl lm_X9_134 wc_X9_no pl_X9_no ok_X9_no rfl rfl (Nat.le_of_ble_eq_true rfl) (k_X9_no (by omega) er1) (mj_dt dt_X9_houseOf 11 rfl) ?_
  obtain rfl := Option.some.inj h
  exact mj_go_ret (v := some (.int r1.1)) (Nat.le_of_ble_eq_true rfl) (mj_retI (mj_dt dt_X9_houseOf 12 rfl) rfl)
def f_X9_houseOf (N : Nat) (v1 : Int32) (v2 : Int32) (m : mj_m) : Option (Int32 × mj_m) := (f_X9_isHouse N v1 m).bind (fun r1 => if r1 = 0 then f_X9_houseOf_18 N m else (if v2 < 0 then f_X9_houseOf_18 N m else (if v2 ≤ 8 then (if v2 = 0 then (mj_ck (mj_b 0 101 v1) ( some (m.1 101 v1.toNatClampNeg, m))) else if v2 = 1 then (mj_ck (mj_b 0 102 v1) ( some (m.1 102 v1.toNatClampNeg, m))) else if v2 = 2 then (mj_ck (mj_b 0 103 v1) ( some (m.1 103 v1.toNatClampNeg, m))) else if v2 = 3 then (mj_ck (mj_b 0 104 v1) ( some (m.1 104 v1.toNatClampNeg, m))) else if v2 = 4 then (mj_ck (mj_b 0 105 v1) ( some (m.1 105 v1.toNatClampNeg, m))) else if v2 = 5 then (mj_ck (mj_b 0 106 v1) ( some (m.1 106 v1.toNatClampNeg, m))) else if v2 = 6 then (mj_ck (mj_b 0 107 v1) ( some (m.1 107 v1.toNatClampNeg, m))) else if v2 = 7 then (mj_ck (mj_b 0 108 v1) ( some (m.1 108 v1.toNatClampNeg, m))) else (mj_ck (mj_b 0 109 v1) ( some (m.1 109 v1.toNatClampNeg, m)))) else f_X9_houseOf_18 N m)))
theorem k_X9_houseOf {L : Nat} {xs : Nat → Int32} {δ N : Nat} {v1 : Int32} {v2 : Int32} {m : mj_m} (hδ : 1 ≤ δ) {a : Int32 × mj_m} (h : f_X9_houseOf N v1 v2 m = some a) : mj_Cl (mj_EX L xs) δ mY_X9_houseOf [.ref 95, .int v1, .int v2] (mj_fin m) (some (.int a.1), (mj_fin a.2)) := by
  obtain ⟨δ, rfl⟩ : ∃ d, δ = d + 1 := ⟨δ - 1, by omega⟩
  have hδ : 0 ≤ δ := by omega
  refine mj_cl_of ok_X9_houseOf (Nat.le_of_ble_eq_true rfl) ?_
  unfold f_X9_houseOf at h
  refine mj_go_aload_n (k := 0) (x := 95) rfl (mj_dt dt_X9_houseOf 0 rfl) ?_
  refine mj_go_iload_n (k := 1) (x := v1) rfl (mj_dt dt_X9_houseOf 1 rfl) ?_
  obtain ⟨r1, er1, h⟩ := mj_bind_some h
  refine ml_callV (Y' := mY_X9_isHouse) (as := [.int v1]) (rest := []) (c := 9) (v := (some (.int r1))) (M1 := (mj_fin m)) ho_95 rfl lm_X9_168 wc_X9_isHouse pl_X9_isHouse ok_X9_isHouse rfl rfl (Nat.le_of_ble_eq_true rfl) (k_X9_isHouse (by omega) er1) (mj_dt dt_X9_houseOf 2 rfl) ?_
  refine mj_go_if_eq (tgt := 18) rfl (mj_dt dt_X9_houseOf 3 rfl) (fun b2 => ?_) (fun b2 => ?_)
  · rw [if_pos b2] at h
    refine mj_go_sub (lv' := [(0, .ref 95)]) (List.forall_mem_cons.mpr ⟨rfl, (fun _ h9 => absurd h9 List.not_mem_nil)⟩) ?_
    exact k_X9_houseOf_18 hδ h
  · rw [if_neg b2] at h
    refine mj_go_iload_n (k := 2) (x := v2) rfl (mj_dt dt_X9_houseOf 4 rfl) ?_
    refine mj_go_if_lt (tgt := 18) rfl (mj_dt dt_X9_houseOf 5 rfl) (fun b3 => ?_) (fun b3 => ?_)
    · rw [if_pos b3] at h
      refine mj_go_sub (lv' := [(0, .ref 95)]) (List.forall_mem_cons.mpr ⟨rfl, (fun _ h9 => absurd h9 List.not_mem_nil)⟩) ?_
      exact k_X9_houseOf_18 hδ h
    · rw [if_neg b3] at h
      refine mj_go_iload_n (k := 2) (x := v2) rfl (mj_dt dt_X9_houseOf 6 rfl) ?_
      refine mj_go_bipush (v := 8) rfl (mj_dt dt_X9_houseOf 7 rfl) ?_
      refine mj_go_icmp_le (tgt := 25) rfl (mj_dt dt_X9_houseOf 8 rfl) (fun b4 => ?_) (fun b4 => ?_)
      · rw [if_pos b4] at h
        refine mj_go_iload_n (k := 2) (x := v2) rfl (mj_dt dt_X9_houseOf 13 rfl) ?_
        refine mj_go_tsw [(0, 46), (1, 53), (2, 60), (3, 67), (4, 74), (5, 81), (6, 88), (7, 95)] (by decide) (by decide) (mj_dt dt_X9_houseOf 14 rfl) ?_
        refine ⟨fun b5 => ?_, fun b5 => ?_⟩
        · rw [if_pos b5] at h
          refine ⟨72, by decide, ?_⟩
          refine mj_go_aload_n (k := 0) (x := 95) rfl (mj_dt dt_X9_houseOf 15 rfl) ?_
          refine ml_getR (c := 9) (k := 16) (q := 101) fd_9_16 rf_95_16 (Or.inl fl_X9_41) ho_95 (mj_dt dt_X9_houseOf 16 rfl) ?_
          refine mj_go_iload_n (k := 1) (x := v1) rfl (mj_dt dt_X9_houseOf 17 rfl) ?_
          obtain ⟨c6, h⟩ := mj_ck_some h
          refine mk_iald c6 (mj_dt dt_X9_houseOf 18 rfl) ?_
          obtain rfl := Option.some.inj h
          exact mj_go_ret (v := some (.int (m.1 101 v1.toNatClampNeg))) (Nat.le_of_ble_eq_true rfl) (mj_retI (mj_dt dt_X9_houseOf 19 rfl) rfl)
        · rw [if_neg b5] at h
          refine ⟨fun b6 => ?_, fun b6 => ?_⟩
          · rw [if_pos b6] at h
            refine ⟨79, by decide, ?_⟩
            refine mj_go_aload_n (k := 0) (x := 95) rfl (mj_dt dt_X9_houseOf 20 rfl) ?_
            refine ml_getR (c := 9) (k := 17) (q := 102) fd_9_17 rf_95_17 (Or.inl fl_X9_44) ho_95 (mj_dt dt_X9_houseOf 21 rfl) ?_
            refine mj_go_iload_n (k := 1) (x := v1) rfl (mj_dt dt_X9_houseOf 22 rfl) ?_
            obtain ⟨c7, h⟩ := mj_ck_some h
            refine mk_iald c7 (mj_dt dt_X9_houseOf 23 rfl) ?_
            obtain rfl := Option.some.inj h
            exact mj_go_ret (v := some (.int (m.1 102 v1.toNatClampNeg))) (Nat.le_of_ble_eq_true rfl) (mj_retI (mj_dt dt_X9_houseOf 24 rfl) rfl)
          · rw [if_neg b6] at h
            refine ⟨fun b7 => ?_, fun b7 => ?_⟩
            · rw [if_pos b7] at h
              refine ⟨86, by decide, ?_⟩
              refine mj_go_aload_n (k := 0) (x := 95) rfl (mj_dt dt_X9_houseOf 25 rfl) ?_
              refine ml_getR (c := 9) (k := 18) (q := 103) fd_9_18 rf_95_18 (Or.inl fl_X9_47) ho_95 (mj_dt dt_X9_houseOf 26 rfl) ?_
              refine mj_go_iload_n (k := 1) (x := v1) rfl (mj_dt dt_X9_houseOf 27 rfl) ?_
              obtain ⟨c8, h⟩ := mj_ck_some h
              refine mk_iald c8 (mj_dt dt_X9_houseOf 28 rfl) ?_
              obtain rfl := Option.some.inj h
              exact mj_go_ret (v := some (.int (m.1 103 v1.toNatClampNeg))) (Nat.le_of_ble_eq_true rfl) (mj_retI (mj_dt dt_X9_houseOf 29 rfl) rfl)
            · rw [if_neg b7] at h
              refine ⟨fun b8 => ?_, fun b8 => ?_⟩
              · rw [if_pos b8] at h
                refine ⟨93, by decide, ?_⟩
                refine mj_go_aload_n (k := 0) (x := 95) rfl (mj_dt dt_X9_houseOf 30 rfl) ?_
                refine ml_getR (c := 9) (k := 19) (q := 104) fd_9_19 rf_95_19 (Or.inl fl_X9_50) ho_95 (mj_dt dt_X9_houseOf 31 rfl) ?_
                refine mj_go_iload_n (k := 1) (x := v1) rfl (mj_dt dt_X9_houseOf 32 rfl) ?_
                obtain ⟨c9, h⟩ := mj_ck_some h
                refine mk_iald c9 (mj_dt dt_X9_houseOf 33 rfl) ?_
                obtain rfl := Option.some.inj h
                exact mj_go_ret (v := some (.int (m.1 104 v1.toNatClampNeg))) (Nat.le_of_ble_eq_true rfl) (mj_retI (mj_dt dt_X9_houseOf 34 rfl) rfl)
              · rw [if_neg b8] at h
                refine ⟨fun b9 => ?_, fun b9 => ?_⟩
                · rw [if_pos b9] at h
                  refine ⟨100, by decide, ?_⟩
                  refine mj_go_aload_n (k := 0) (x := 95) rfl (mj_dt dt_X9_houseOf 35 rfl) ?_
                  refine ml_getR (c := 9) (k := 20) (q := 105) fd_9_20 rf_95_20 (Or.inl fl_X9_53) ho_95 (mj_dt dt_X9_houseOf 36 rfl) ?_
                  refine mj_go_iload_n (k := 1) (x := v1) rfl (mj_dt dt_X9_houseOf 37 rfl) ?_
                  obtain ⟨c10, h⟩ := mj_ck_some h
                  refine mk_iald c10 (mj_dt dt_X9_houseOf 38 rfl) ?_
                  obtain rfl := Option.some.inj h
                  exact mj_go_ret (v := some (.int (m.1 105 v1.toNatClampNeg))) (Nat.le_of_ble_eq_true rfl) (mj_retI (mj_dt dt_X9_houseOf 39 rfl) rfl)
                · rw [if_neg b9] at h
                  refine ⟨fun b10 => ?_, fun b10 => ?_⟩
                  · rw [if_pos b10] at h
                    refine ⟨107, by decide, ?_⟩
                    refine mj_go_aload_n (k := 0) (x := 95) rfl (mj_dt dt_X9_houseOf 40 rfl) ?_
                    refine ml_getR (c := 9) (k := 21) (q := 106) fd_9_21 rf_95_21 (Or.inl fl_X9_56) ho_95 (mj_dt dt_X9_houseOf 41 rfl) ?_
                    refine mj_go_iload_n (k := 1) (x := v1) rfl (mj_dt dt_X9_houseOf 42 rfl) ?_
                    obtain ⟨c11, h⟩ := mj_ck_some h
                    refine mk_iald c11 (mj_dt dt_X9_houseOf 43 rfl) ?_
                    obtain rfl := Option.some.inj h
                    exact mj_go_ret (v := some (.int (m.1 106 v1.toNatClampNeg))) (Nat.le_of_ble_eq_true rfl) (mj_retI (mj_dt dt_X9_houseOf 44 rfl) rfl)
                  · rw [if_neg b10] at h
                    refine ⟨fun b11 => ?_, fun b11 => ?_⟩
                    · rw [if_pos b11] at h
                      refine ⟨114, by decide, ?_⟩
                      refine mj_go_aload_n (k := 0) (x := 95) rfl (mj_dt dt_X9_houseOf 45 rfl) ?_
                      refine ml_getR (c := 9) (k := 22) (q := 107) fd_9_22 rf_95_22 (Or.inl fl_X9_59) ho_95 (mj_dt dt_X9_houseOf 46 rfl) ?_
                      refine mj_go_iload_n (k := 1) (x := v1) rfl (mj_dt dt_X9_houseOf 47 rfl) ?_
                      obtain ⟨c12, h⟩ := mj_ck_some h
                      refine mk_iald c12 (mj_dt dt_X9_houseOf 48 rfl) ?_
                      obtain rfl := Option.some.inj h
                      exact mj_go_ret (v := some (.int (m.1 107 v1.toNatClampNeg))) (Nat.le_of_ble_eq_true rfl) (mj_retI (mj_dt dt_X9_houseOf 49 rfl) rfl)
                    · rw [if_neg b11] at h
                      refine ⟨fun b12 => ?_, fun b12 => ?_⟩
                      · rw [if_pos b12] at h
                        refine ⟨121, by decide, ?_⟩
                        refine mj_go_aload_n (k := 0) (x := 95) rfl (mj_dt dt_X9_houseOf 50 rfl) ?_
                        refine ml_getR (c := 9) (k := 23) (q := 108) fd_9_23 rf_95_23 (Or.inl fl_X9_62) ho_95 (mj_dt dt_X9_houseOf 51 rfl) ?_
                        refine mj_go_iload_n (k := 1) (x := v1) rfl (mj_dt dt_X9_houseOf 52 rfl) ?_
                        obtain ⟨c13, h⟩ := mj_ck_some h
                        refine mk_iald c13 (mj_dt dt_X9_houseOf 53 rfl) ?_
                        obtain rfl := Option.some.inj h
                        exact mj_go_ret (v := some (.int (m.1 108 v1.toNatClampNeg))) (Nat.le_of_ble_eq_true rfl) (mj_retI (mj_dt dt_X9_houseOf 54 rfl) rfl)
                      · rw [if_neg b12] at h
                        refine ⟨128, by decide, ?_⟩
                        refine mj_go_aload_n (k := 0) (x := 95) rfl (mj_dt dt_X9_houseOf 55 rfl) ?_
                        refine ml_getR (c := 9) (k := 24) (q := 109) fd_9_24 rf_95_24 (Or.inl fl_X9_65) ho_95 (mj_dt dt_X9_houseOf 56 rfl) ?_
                        refine mj_go_iload_n (k := 1) (x := v1) rfl (mj_dt dt_X9_houseOf 57 rfl) ?_
                        obtain ⟨c13, h⟩ := mj_ck_some h
                        refine mk_iald c13 (mj_dt dt_X9_houseOf 58 rfl) ?_
                        obtain rfl := Option.some.inj h
                        exact mj_go_ret (v := some (.int (m.1 109 v1.toNatClampNeg))) (Nat.le_of_ble_eq_true rfl) (mj_retI (mj_dt dt_X9_houseOf 59 rfl) rfl)
      · rw [if_neg b4] at h
        refine mj_go_sub (lv' := [(0, .ref 95)]) (List.forall_mem_cons.mpr ⟨rfl, (fun _ h9 => absurd h9 List.not_mem_nil)⟩) ?_
        exact k_X9_houseOf_18 hδ h
def f_X7_isStreet_22 (N : Nat) (m : mj_m) : Option (Int32) := (some 0)
theorem k_X7_isStreet_22 {L : Nat} {xs : Nat → Int32} {δ N : Nat} {m : mj_m} {a : Int32} (h : f_X7_isStreet_22 N m = some a) : mj_Go (mj_EX L xs) δ mY_X7_isStreet 22 [] [] (mj_fin m) (some (.int a), (mj_fin m)) := by
  unfold f_X7_isStreet_22 at h
  refine mj_go_iconst (v := 0) rfl (mj_dt dt_X7_isStreet 11 rfl) ?_
  obtain rfl := Option.some.inj h
  exact mj_go_ret (v := some (.int 0)) (Nat.le_of_ble_eq_true rfl) (mj_retZ (mj_dt dt_X7_isStreet 12 rfl) rfl rfl)
def f_X7_isStreet (N : Nat) (v1 : Int32) (m : mj_m) : Option (Int32) := if v1 < 0 then f_X7_isStreet_22 N m else (if (m.1 1 6) ≤ v1 then f_X7_isStreet_22 N m else (if 12 ≤ v1 then f_X7_isStreet_22 N m else ((some 1))))
theorem k_X7_isStreet {L : Nat} {xs : Nat → Int32} {δ N : Nat} {v1 : Int32} {m : mj_m} (_ : 0 ≤ δ) {a : Int32} (h : f_X7_isStreet N v1 m = some a) : mj_Cl (mj_EX L xs) δ mY_X7_isStreet [.ref 1, .int v1] (mj_fin m) (some (.int a), (mj_fin m)) := by
  refine mj_cl_of ok_X7_isStreet (Nat.le_of_ble_eq_true rfl) ?_
  unfold f_X7_isStreet at h
  refine mj_go_iload_n (k := 1) (x := v1) rfl (mj_dt dt_X7_isStreet 0 rfl) ?_
  refine mj_go_if_lt (tgt := 22) rfl (mj_dt dt_X7_isStreet 1 rfl) (fun b1 => ?_) (fun b1 => ?_)
  · rw [if_pos b1] at h
    refine mj_go_sub (lv' := []) (fun _ h9 => absurd h9 List.not_mem_nil) ?_
    exact k_X7_isStreet_22 h
  · rw [if_neg b1] at h
    refine mj_go_iload_n (k := 1) (x := v1) rfl (mj_dt dt_X7_isStreet 2 rfl) ?_
    refine mj_go_aload_n (k := 0) (x := 1) rfl (mj_dt dt_X7_isStreet 3 rfl) ?_
    refine mk_getI (c := 7) (k := 6) (Or.inl fd_7_6) (Or.inl fl_X7_33) ho_1 (mj_dt dt_X7_isStreet 4 rfl) ?_
    refine mj_go_icmp_ge (tgt := 22) rfl (mj_dt dt_X7_isStreet 5 rfl) (fun b2 => ?_) (fun b2 => ?_)
    · rw [if_pos b2] at h
      refine mj_go_sub (lv' := []) (fun _ h9 => absurd h9 List.not_mem_nil) ?_
      exact k_X7_isStreet_22 h
    · rw [if_neg b2] at h
      refine mj_go_iload_n (k := 1) (x := v1) rfl (mj_dt dt_X7_isStreet 6 rfl) ?_
      refine mj_go_bipush (v := 12) rfl (mj_dt dt_X7_isStreet 7 rfl) ?_
      refine mj_go_icmp_ge (tgt := 22) rfl (mj_dt dt_X7_isStreet 8 rfl) (fun b3 => ?_) (fun b3 => ?_)
      · rw [if_pos b3] at h
        refine mj_go_sub (lv' := []) (fun _ h9 => absurd h9 List.not_mem_nil) ?_
        exact k_X7_isStreet_22 h
      · rw [if_neg b3] at h
        refine mj_go_iconst (v := 1) rfl (mj_dt dt_X7_isStreet 9 rfl) ?_
        refine mj_go_goto (tgt := 23) rfl (mj_dt dt_X7_isStreet 10 rfl) ?_
        obtain rfl := Option.some.inj h
        exact mj_go_ret (v := some (.int 1)) (Nat.le_of_ble_eq_true rfl) (mj_retZ (mj_dt dt_X7_isStreet 12 rfl) rfl rfl)
def f_X8_refuseBelowTen (N : Nat) (v1 : Int32) (m : mj_m) : Option (Int32 × mj_m) := (f_X8_refuse N v1 m).bind (fun r1 => some (r1.1 - 10, r1.2))
theorem k_X8_refuseBelowTen {L : Nat} {xs : Nat → Int32} {δ N : Nat} {v1 : Int32} {m : mj_m} (hδ : 1 ≤ δ) {a : Int32 × mj_m} (h : f_X8_refuseBelowTen N v1 m = some a) : mj_Cl (mj_EX L xs) δ mY_X8_refuseBelowTen [.ref 0, .int v1] (mj_fin m) (some (.int a.1), (mj_fin a.2)) := by
  obtain ⟨δ, rfl⟩ : ∃ d, δ = d + 1 := ⟨δ - 1, by omega⟩
  have hδ : 0 ≤ δ := by omega
  refine mj_cl_of ok_X8_refuseBelowTen (Nat.le_of_ble_eq_true rfl) ?_
  unfold f_X8_refuseBelowTen at h
  refine mj_go_aload_n (k := 0) (x := 0) rfl (mj_dt dt_X8_refuseBelowTen 0 rfl) ?_
  refine mj_go_iload_n (k := 1) (x := v1) rfl (mj_dt dt_X8_refuseBelowTen 1 rfl) ?_
  obtain ⟨r1, er1, h⟩ := mj_bind_some h
  refine ml_callV (Y' := mY_X8_refuse) (as := [.int v1]) (rest := []) (c := 8) (v := (some (.int r1.1))) (M1 := (mj_fin r1.2)) ho_0 rfl lm_X8_86 wc_X8_refuse pl_X8_refuse ok_X8_refuse rfl rfl (Nat.le_of_ble_eq_true rfl) (k_X8_refuse (by omega) er1) (mj_dt dt_X8_refuseBelowTen 2 rfl) ?_
  refine mj_go_bipush (v := 10) rfl (mj_dt dt_X8_refuseBelowTen 3 rfl) ?_
  refine mj_go_isub (mj_dt dt_X8_refuseBelowTen 4 rfl) ?_
  obtain rfl := Option.some.inj h
  exact mj_go_ret (v := some (.int (r1.1 - 10))) (Nat.le_of_ble_eq_true rfl) (mj_retI (mj_dt dt_X8_refuseBelowTen 5 rfl) rfl)
def f_X8_front_27 (N : Nat) (m : mj_m) : Option (Int32 × mj_m) := (f_X8_refuseBelowTen N 1 m).bind (fun r1 => some (r1.1, r1.2))
theorem k_X8_front_27 {L : Nat} {xs : Nat → Int32} {δ N : Nat} {m : mj_m} (hδ : 1 ≤ δ) {a : Int32 × mj_m} (h : f_X8_front_27 N m = some a) : mj_Go (mj_EX L xs) (δ + 1) mY_X8_front 27 [(0, .ref 0)] [] (mj_fin m) (some (.int a.1), (mj_fin a.2)) := by
  unfold f_X8_front_27 at h
  refine mj_go_aload_n (k := 0) (x := 0) rfl (mj_dt dt_X8_front 13 rfl) ?_
  refine mj_go_iconst (v := 1) rfl (mj_dt dt_X8_front 14 rfl) ?_
  obtain ⟨r1, er1, h⟩ := mj_bind_some h
  refine ml_callV (Y' := mY_X8_refuseBelowTen) (as := [.int 1]) (rest := []) (c := 8) (v := (some (.int r1.1))) (M1 := (mj_fin r1.2)) ho_0 rfl lm_X8_224 wc_X8_refuseBelowTen pl_X8_refuseBelowTen ok_X8_refuseBelowTen rfl rfl (Nat.le_of_ble_eq_true rfl) (k_X8_refuseBelowTen (by omega) er1) (mj_dt dt_X8_front 15 rfl) ?_
  obtain rfl := Option.some.inj h
  exact mj_go_ret (v := some (.int r1.1)) (Nat.le_of_ble_eq_true rfl) (mj_retI (mj_dt dt_X8_front 16 rfl) rfl)
def f_X8_front_33 (N : Nat) (v1 : Int32) (v2 : Int32) (m : mj_m) : Option (Int32 × mj_m) := mj_ck (mj_b 2 4 v1) ( mj_mw (m.1 (8 + v1.toNatClampNeg) 5) (fun x2 => mj_mw (mj_wI m (8 + v1.toNatClampNeg) 5 v2) (fun m3 => some (x2, m3))))
theorem k_X8_front_33 {L : Nat} {xs : Nat → Int32} {δ N : Nat} {v1 : Int32} {v2 : Int32} {m : mj_m} (hδ : 1 ≤ δ) {a : Int32 × mj_m} (h : f_X8_front_33 N v1 v2 m = some a) : mj_Go (mj_EX L xs) (δ + 1) mY_X8_front 33 [(0, .ref 0), (1, .int v1), (2, .int v2)] [] (mj_fin m) (some (.int a.1), (mj_fin a.2)) := by
  unfold f_X8_front_33 at h
  refine mj_go_aload_n (k := 0) (x := 0) rfl (mj_dt dt_X8_front 17 rfl) ?_
  refine ml_getR (c := 8) (k := 0) (q := 1) fd_8_0 rf_0_0 (Or.inl fl_X8_12) ho_0 (mj_dt dt_X8_front 18 rfl) ?_
  refine ml_getR (c := 7) (k := 2) (q := 4) fd_7_2 rf_1_2 (Or.inl fl_X8_188) ho_1 (mj_dt dt_X8_front 19 rfl) ?_
  refine mj_go_iload_n (k := 1) (x := v1) rfl (mj_dt dt_X8_front 20 rfl) ?_
  obtain ⟨c1, h⟩ := mj_ck_some h
  refine ml_aald2 (q := 8 + v1.toNatClampNeg) c1 (mj_hs4 c1).1 (mj_dt dt_X8_front 21 rfl) ?_
  refine mk_getI (c := 1) (k := 5) (Or.inl fd_1_5) (Or.inl fl_X8_209) (mj_hs4 c1).2 (mj_dt dt_X8_front 22 rfl) ?_
  obtain ⟨x2, ex2, h⟩ := mj_mw_some h
  refine ml_eqi ex2 ?_
  refine mj_go_istore_n (k := 3) (by decide) (mj_dt dt_X8_front 23 rfl) ?_
  refine mj_go_aload_n (k := 0) (x := 0) rfl (mj_dt dt_X8_front 24 rfl) ?_
  refine ml_getR (c := 8) (k := 0) (q := 1) fd_8_0 rf_0_0 (Or.inl fl_X8_12) ho_0 (mj_dt dt_X8_front 25 rfl) ?_
  refine ml_getR (c := 7) (k := 2) (q := 4) fd_7_2 rf_1_2 (Or.inl fl_X8_188) ho_1 (mj_dt dt_X8_front 26 rfl) ?_
  refine mj_go_iload_n (k := 1) (x := v1) rfl (mj_dt dt_X8_front 27 rfl) ?_
  refine ml_aald2 (q := 8 + v1.toNatClampNeg) c1 (mj_hs4 c1).1 (mj_dt dt_X8_front 28 rfl) ?_
  refine mj_go_iload_n (k := 2) (x := v2) rfl (mj_dt dt_X8_front 29 rfl) ?_
  obtain ⟨m3, em3, h⟩ := mj_mw_some h
  refine ml_putI (c := 1) (k := 5) fd_1_5 rfl fl_X8_209 (mj_hs4 c1).2 (mj_dt dt_X8_front 30 rfl) ?_
  refine ml_eqm (M1 := (mj_fin m3)) (by rw [em3] <;> rfl) ?_
  refine mj_go_iload_n (k := 3) (x := x2) rfl (mj_dt dt_X8_front 31 rfl) ?_
  obtain rfl := Option.some.inj h
  exact mj_go_ret (v := some (.int x2)) (Nat.le_of_ble_eq_true rfl) (mj_retI (mj_dt dt_X8_front 32 rfl) rfl)
def f_X8_front (N : Nat) (v1 : Int32) (v2 : Int32) (m : mj_m) : Option (Int32 × mj_m) := (f_X7_isHouse N v1 m).bind (fun r1 => if r1 = 0 then f_X8_front_27 N m else (if v2 = (-1 : Int32) then f_X8_front_33 N v1 v2 m else ((f_X7_isStreet N v2 m).bind (fun r4 => if r4 = 0 then f_X8_front_27 N m else f_X8_front_33 N v1 v2 m))))
theorem k_X8_front {L : Nat} {xs : Nat → Int32} {δ N : Nat} {v1 : Int32} {v2 : Int32} {m : mj_m} (hδ : 2 ≤ δ) {a : Int32 × mj_m} (h : f_X8_front N v1 v2 m = some a) : mj_Cl (mj_EX L xs) δ mY_X8_front [.ref 0, .int v1, .int v2] (mj_fin m) (some (.int a.1), (mj_fin a.2)) := by
  obtain ⟨δ, rfl⟩ : ∃ d, δ = d + 1 := ⟨δ - 1, by omega⟩
  have hδ : 1 ≤ δ := by omega
  refine mj_cl_of ok_X8_front (Nat.le_of_ble_eq_true rfl) ?_
  unfold f_X8_front at h
  refine mj_go_aload_n (k := 0) (x := 0) rfl (mj_dt dt_X8_front 0 rfl) ?_
  refine ml_getR (c := 8) (k := 0) (q := 1) fd_8_0 rf_0_0 (Or.inl fl_X8_12) ho_0 (mj_dt dt_X8_front 1 rfl) ?_
  refine mj_go_iload_n (k := 1) (x := v1) rfl (mj_dt dt_X8_front 2 rfl) ?_
  obtain ⟨r1, er1, h⟩ := mj_bind_some h
  refine ml_callV (Y' := mY_X7_isHouse) (as := [.int v1]) (rest := []) (c := 7) (v := (some (.int r1))) (M1 := (mj_fin m)) ho_1 rfl lm_X8_185 wc_X7_isHouse pl_X7_isHouse ok_X7_isHouse rfl rfl (Nat.le_of_ble_eq_true rfl) (k_X7_isHouse (by omega) er1) (mj_dt dt_X8_front 3 rfl) ?_
  refine mj_go_if_eq (tgt := 27) rfl (mj_dt dt_X8_front 4 rfl) (fun b2 => ?_) (fun b2 => ?_)
  · rw [if_pos b2] at h
    refine mj_go_sub (lv' := [(0, .ref 0)]) (List.forall_mem_cons.mpr ⟨rfl, (fun _ h9 => absurd h9 List.not_mem_nil)⟩) ?_
    exact k_X8_front_27 hδ h
  · rw [if_neg b2] at h
    refine mj_go_iload_n (k := 2) (x := v2) rfl (mj_dt dt_X8_front 5 rfl) ?_
    refine mj_go_iconst (v := -1) rfl (mj_dt dt_X8_front 6 rfl) ?_
    refine mj_go_icmp_eq (tgt := 33) rfl (mj_dt dt_X8_front 7 rfl) (fun b3 => ?_) (fun b3 => ?_)
    · rw [if_pos b3] at h
      refine mj_go_sub (lv' := [(0, .ref 0), (1, .int v1), (2, .int v2)]) (List.forall_mem_cons.mpr ⟨rfl, (List.forall_mem_cons.mpr ⟨rfl, (List.forall_mem_cons.mpr ⟨rfl, (fun _ h9 => absurd h9 List.not_mem_nil)⟩)⟩)⟩) ?_
      exact k_X8_front_33 hδ h
    · rw [if_neg b3] at h
      refine mj_go_aload_n (k := 0) (x := 0) rfl (mj_dt dt_X8_front 8 rfl) ?_
      refine ml_getR (c := 8) (k := 0) (q := 1) fd_8_0 rf_0_0 (Or.inl fl_X8_12) ho_0 (mj_dt dt_X8_front 9 rfl) ?_
      refine mj_go_iload_n (k := 2) (x := v2) rfl (mj_dt dt_X8_front 10 rfl) ?_
      obtain ⟨r4, er4, h⟩ := mj_bind_some h
      refine ml_callV (Y' := mY_X7_isStreet) (as := [.int v2]) (rest := []) (c := 7) (v := (some (.int r4))) (M1 := (mj_fin m)) ho_1 rfl lm_X8_221 wc_X7_isStreet pl_X7_isStreet ok_X7_isStreet rfl rfl (Nat.le_of_ble_eq_true rfl) (k_X7_isStreet (by omega) er4) (mj_dt dt_X8_front 11 rfl) ?_
      refine mj_go_if_ne (tgt := 33) rfl (mj_dt dt_X8_front 12 rfl) (fun b5 => ?_) (fun b5 => ?_)
      · rw [if_neg b5] at h
        refine mj_go_sub (lv' := [(0, .ref 0), (1, .int v1), (2, .int v2)]) (List.forall_mem_cons.mpr ⟨rfl, (List.forall_mem_cons.mpr ⟨rfl, (List.forall_mem_cons.mpr ⟨rfl, (fun _ h9 => absurd h9 List.not_mem_nil)⟩)⟩)⟩) ?_
        exact k_X8_front_33 hδ h
      · rw [if_pos b5] at h
        refine mj_go_sub (lv' := [(0, .ref 0)]) (List.forall_mem_cons.mpr ⟨rfl, (fun _ h9 => absurd h9 List.not_mem_nil)⟩) ?_
        exact k_X8_front_27 hδ h
def f_X9_noTen (N : Nat) (v1 : Int32) (m : mj_m) : Option (Int32 × mj_m) := mj_ck (mj_b 0 96 (-v1)) ( mj_mw (mj_wI m 96 ((-v1).toNatClampNeg) ((m.1 96 (-v1).toNatClampNeg) + 1)) (fun m2 => some (v1 - 10, m2)))
theorem k_X9_noTen {L : Nat} {xs : Nat → Int32} {δ N : Nat} {v1 : Int32} {m : mj_m} (_ : 0 ≤ δ) {a : Int32 × mj_m} (h : f_X9_noTen N v1 m = some a) : mj_Cl (mj_EX L xs) δ mY_X9_noTen [.ref 95, .int v1] (mj_fin m) (some (.int a.1), (mj_fin a.2)) := by
  refine mj_cl_of ok_X9_noTen (Nat.le_of_ble_eq_true rfl) ?_
  unfold f_X9_noTen at h
  refine mj_go_aload_n (k := 0) (x := 95) rfl (mj_dt dt_X9_noTen 0 rfl) ?_
  refine ml_getR (c := 9) (k := 11) (q := 96) fd_9_11 rf_95_11 (Or.inl fl_X9_25) ho_95 (mj_dt dt_X9_noTen 1 rfl) ?_
  refine mj_go_iload_n (k := 1) (x := v1) rfl (mj_dt dt_X9_noTen 2 rfl) ?_
  refine mj_go_ineg (mj_dt dt_X9_noTen 3 rfl) ?_
  refine mj_go_dup2_11 rfl rfl (mj_dt dt_X9_noTen 4 rfl) ?_
  obtain ⟨c1, h⟩ := mj_ck_some h
  refine mk_iald c1 (mj_dt dt_X9_noTen 5 rfl) ?_
  refine mj_go_iconst (v := 1) rfl (mj_dt dt_X9_noTen 6 rfl) ?_
  refine mj_go_iadd (mj_dt dt_X9_noTen 7 rfl) ?_
  obtain ⟨m2, em2, h⟩ := mj_mw_some h
  refine ml_iast c1 (mj_dt dt_X9_noTen 8 rfl) ?_
  refine ml_eqm (M1 := (mj_fin m2)) (by rw [em2] <;> rfl) ?_
  refine mj_go_iload_n (k := 1) (x := v1) rfl (mj_dt dt_X9_noTen 9 rfl) ?_
  refine mj_go_bipush (v := 10) rfl (mj_dt dt_X9_noTen 10 rfl) ?_
  refine mj_go_isub (mj_dt dt_X9_noTen 11 rfl) ?_
  obtain rfl := Option.some.inj h
  exact mj_go_ret (v := some (.int (v1 - 10))) (Nat.le_of_ble_eq_true rfl) (mj_retI (mj_dt dt_X9_noTen 12 rfl) rfl)
def f_X9_front_21 (N : Nat) (m : mj_m) : Option (Int32 × mj_m) := (f_X9_noTen N (-1 : Int32) m).bind (fun r1 => some (r1.1, r1.2))
theorem k_X9_front_21 {L : Nat} {xs : Nat → Int32} {δ N : Nat} {m : mj_m} (hδ : 0 ≤ δ) {a : Int32 × mj_m} (h : f_X9_front_21 N m = some a) : mj_Go (mj_EX L xs) (δ + 1) mY_X9_front 21 [(0, .ref 95)] [] (mj_fin m) (some (.int a.1), (mj_fin a.2)) := by
  unfold f_X9_front_21 at h
  refine mj_go_aload_n (k := 0) (x := 95) rfl (mj_dt dt_X9_front 11 rfl) ?_
  refine mj_go_iconst (v := -1) rfl (mj_dt dt_X9_front 12 rfl) ?_
  obtain ⟨r1, er1, h⟩ := mj_bind_some h
  refine ml_callV (Y' := mY_X9_noTen) (as := [.int (-1 : Int32)]) (rest := []) (c := 9) (v := (some (.int r1.1))) (M1 := (mj_fin r1.2)) ho_95 rfl lm_X9_171 wc_X9_noTen pl_X9_noTen ok_X9_noTen rfl rfl (Nat.le_of_ble_eq_true rfl) (k_X9_noTen (by omega) er1) (mj_dt dt_X9_front 13 rfl) ?_
  obtain rfl := Option.some.inj h
  exact mj_go_ret (v := some (.int r1.1)) (Nat.le_of_ble_eq_true rfl) (mj_retI (mj_dt dt_X9_front 14 rfl) rfl)
def f_X9_front (N : Nat) (v1 : Int32) (v2 : Int32) (m : mj_m) : Option (Int32 × mj_m) := (f_X9_isHouse N v1 m).bind (fun r1 => if r1 = 0 then f_X9_front_21 N m else (if v2 < (-1 : Int32) then f_X9_front_21 N m else (if v2 < (m.1 95 0) then (mj_ck (mj_b 0 106 v1) ( mj_mw (m.1 106 v1.toNatClampNeg) (fun x6 => mj_mw (mj_wI m 106 (v1.toNatClampNeg) v2) (fun m7 => some (x6, m7))))) else f_X9_front_21 N m)))
theorem k_X9_front {L : Nat} {xs : Nat → Int32} {δ N : Nat} {v1 : Int32} {v2 : Int32} {m : mj_m} (hδ : 1 ≤ δ) {a : Int32 × mj_m} (h : f_X9_front N v1 v2 m = some a) : mj_Cl (mj_EX L xs) δ mY_X9_front [.ref 95, .int v1, .int v2] (mj_fin m) (some (.int a.1), (mj_fin a.2)) := by
  obtain ⟨δ, rfl⟩ : ∃ d, δ = d + 1 := ⟨δ - 1, by omega⟩
  have hδ : 0 ≤ δ := by omega
  refine mj_cl_of ok_X9_front (Nat.le_of_ble_eq_true rfl) ?_
  unfold f_X9_front at h
  refine mj_go_aload_n (k := 0) (x := 95) rfl (mj_dt dt_X9_front 0 rfl) ?_
  refine mj_go_iload_n (k := 1) (x := v1) rfl (mj_dt dt_X9_front 1 rfl) ?_
  obtain ⟨r1, er1, h⟩ := mj_bind_some h
  refine ml_callV (Y' := mY_X9_isHouse) (as := [.int v1]) (rest := []) (c := 9) (v := (some (.int r1))) (M1 := (mj_fin m)) ho_95 rfl lm_X9_168 wc_X9_isHouse pl_X9_isHouse ok_X9_isHouse rfl rfl (Nat.le_of_ble_eq_true rfl) (k_X9_isHouse (by omega) er1) (mj_dt dt_X9_front 2 rfl) ?_
  refine mj_go_if_eq (tgt := 21) rfl (mj_dt dt_X9_front 3 rfl) (fun b2 => ?_) (fun b2 => ?_)
  · rw [if_pos b2] at h
    refine mj_go_sub (lv' := [(0, .ref 95)]) (List.forall_mem_cons.mpr ⟨rfl, (fun _ h9 => absurd h9 List.not_mem_nil)⟩) ?_
    exact k_X9_front_21 hδ h
  · rw [if_neg b2] at h
    refine mj_go_iload_n (k := 2) (x := v2) rfl (mj_dt dt_X9_front 4 rfl) ?_
    refine mj_go_iconst (v := -1) rfl (mj_dt dt_X9_front 5 rfl) ?_
    refine mj_go_icmp_lt (tgt := 21) rfl (mj_dt dt_X9_front 6 rfl) (fun b3 => ?_) (fun b3 => ?_)
    · rw [if_pos b3] at h
      refine mj_go_sub (lv' := [(0, .ref 95)]) (List.forall_mem_cons.mpr ⟨rfl, (fun _ h9 => absurd h9 List.not_mem_nil)⟩) ?_
      exact k_X9_front_21 hδ h
    · rw [if_neg b3] at h
      refine mj_go_iload_n (k := 2) (x := v2) rfl (mj_dt dt_X9_front 7 rfl) ?_
      refine mj_go_aload_n (k := 0) (x := 95) rfl (mj_dt dt_X9_front 8 rfl) ?_
      refine mk_getI (c := 9) (k := 0) (Or.inl fd_9_0) (Or.inl fl_X9_149) ho_95 (mj_dt dt_X9_front 9 rfl) ?_
      refine mj_go_icmp_lt (tgt := 27) rfl (mj_dt dt_X9_front 10 rfl) (fun b4 => ?_) (fun b4 => ?_)
      · rw [if_pos b4] at h
        refine mj_go_aload_n (k := 0) (x := 95) rfl (mj_dt dt_X9_front 15 rfl) ?_
        refine ml_getR (c := 9) (k := 21) (q := 106) fd_9_21 rf_95_21 (Or.inl fl_X9_56) ho_95 (mj_dt dt_X9_front 16 rfl) ?_
        refine mj_go_iload_n (k := 1) (x := v1) rfl (mj_dt dt_X9_front 17 rfl) ?_
        obtain ⟨c5, h⟩ := mj_ck_some h
        refine mk_iald c5 (mj_dt dt_X9_front 18 rfl) ?_
        obtain ⟨x6, ex6, h⟩ := mj_mw_some h
        refine ml_eqi ex6 ?_
        refine mj_go_istore_n (k := 3) (by decide) (mj_dt dt_X9_front 19 rfl) ?_
        refine mj_go_aload_n (k := 0) (x := 95) rfl (mj_dt dt_X9_front 20 rfl) ?_
        refine ml_getR (c := 9) (k := 21) (q := 106) fd_9_21 rf_95_21 (Or.inl fl_X9_56) ho_95 (mj_dt dt_X9_front 21 rfl) ?_
        refine mj_go_iload_n (k := 1) (x := v1) rfl (mj_dt dt_X9_front 22 rfl) ?_
        refine mj_go_iload_n (k := 2) (x := v2) rfl (mj_dt dt_X9_front 23 rfl) ?_
        obtain ⟨m7, em7, h⟩ := mj_mw_some h
        refine ml_iast c5 (mj_dt dt_X9_front 24 rfl) ?_
        refine ml_eqm (M1 := (mj_fin m7)) (by rw [em7] <;> rfl) ?_
        refine mj_go_iload_n (k := 3) (x := x6) rfl (mj_dt dt_X9_front 25 rfl) ?_
        obtain rfl := Option.some.inj h
        exact mj_go_ret (v := some (.int x6)) (Nat.le_of_ble_eq_true rfl) (mj_retI (mj_dt dt_X9_front 26 rfl) rfl)
      · rw [if_neg b4] at h
        refine mj_go_sub (lv' := [(0, .ref 95)]) (List.forall_mem_cons.mpr ⟨rfl, (fun _ h9 => absurd h9 List.not_mem_nil)⟩) ?_
        exact k_X9_front_21 hδ h
def f_X8_next_27 (N : Nat) (m : mj_m) : Option (Int32 × mj_m) := (f_X8_refuseBelowTen N 1 m).bind (fun r1 => some (r1.1, r1.2))
theorem k_X8_next_27 {L : Nat} {xs : Nat → Int32} {δ N : Nat} {m : mj_m} (hδ : 1 ≤ δ) {a : Int32 × mj_m} (h : f_X8_next_27 N m = some a) : mj_Go (mj_EX L xs) (δ + 1) mY_X8_next 27 [(0, .ref 0)] [] (mj_fin m) (some (.int a.1), (mj_fin a.2)) := by
  unfold f_X8_next_27 at h
  refine mj_go_aload_n (k := 0) (x := 0) rfl (mj_dt dt_X8_next 13 rfl) ?_
  refine mj_go_iconst (v := 1) rfl (mj_dt dt_X8_next 14 rfl) ?_
  obtain ⟨r1, er1, h⟩ := mj_bind_some h
  refine ml_callV (Y' := mY_X8_refuseBelowTen) (as := [.int 1]) (rest := []) (c := 8) (v := (some (.int r1.1))) (M1 := (mj_fin r1.2)) ho_0 rfl lm_X8_224 wc_X8_refuseBelowTen pl_X8_refuseBelowTen ok_X8_refuseBelowTen rfl rfl (Nat.le_of_ble_eq_true rfl) (k_X8_refuseBelowTen (by omega) er1) (mj_dt dt_X8_next 15 rfl) ?_
  obtain rfl := Option.some.inj h
  exact mj_go_ret (v := some (.int r1.1)) (Nat.le_of_ble_eq_true rfl) (mj_retI (mj_dt dt_X8_next 16 rfl) rfl)
def f_X8_next_33 (N : Nat) (v1 : Int32) (v2 : Int32) (m : mj_m) : Option (Int32 × mj_m) := if v2 = v1 then ((f_X8_refuseBelowTen N 6 m).bind (fun r2 => some (r2.1, r2.2))) else (mj_ck (mj_b 2 4 v1) ( mj_mw (m.1 (8 + v1.toNatClampNeg) 6) (fun x3 => mj_mw (mj_wI m (8 + v1.toNatClampNeg) 6 v2) (fun m4 => some (x3, m4)))))
theorem k_X8_next_33 {L : Nat} {xs : Nat → Int32} {δ N : Nat} {v1 : Int32} {v2 : Int32} {m : mj_m} (hδ : 1 ≤ δ) {a : Int32 × mj_m} (h : f_X8_next_33 N v1 v2 m = some a) : mj_Go (mj_EX L xs) (δ + 1) mY_X8_next 33 [(0, .ref 0), (1, .int v1), (2, .int v2)] [] (mj_fin m) (some (.int a.1), (mj_fin a.2)) := by
  unfold f_X8_next_33 at h
  refine mj_go_iload_n (k := 2) (x := v2) rfl (mj_dt dt_X8_next 17 rfl) ?_
  refine mj_go_iload_n (k := 1) (x := v1) rfl (mj_dt dt_X8_next 18 rfl) ?_
  refine mj_go_icmp_ne (tgt := 45) rfl (mj_dt dt_X8_next 19 rfl) (fun b1 => ?_) (fun b1 => ?_)
  · rw [if_neg b1] at h
    refine mj_go_aload_n (k := 0) (x := 0) rfl (mj_dt dt_X8_next 24 rfl) ?_
    refine ml_getR (c := 8) (k := 0) (q := 1) fd_8_0 rf_0_0 (Or.inl fl_X8_12) ho_0 (mj_dt dt_X8_next 25 rfl) ?_
    refine ml_getR (c := 7) (k := 2) (q := 4) fd_7_2 rf_1_2 (Or.inl fl_X8_188) ho_1 (mj_dt dt_X8_next 26 rfl) ?_
    refine mj_go_iload_n (k := 1) (x := v1) rfl (mj_dt dt_X8_next 27 rfl) ?_
    obtain ⟨c2, h⟩ := mj_ck_some h
    refine ml_aald2 (q := 8 + v1.toNatClampNeg) c2 (mj_hs4 c2).1 (mj_dt dt_X8_next 28 rfl) ?_
    refine mk_getI (c := 1) (k := 6) (Or.inl fd_1_6) (Or.inl fl_X8_212) (mj_hs4 c2).2 (mj_dt dt_X8_next 29 rfl) ?_
    obtain ⟨x3, ex3, h⟩ := mj_mw_some h
    refine ml_eqi ex3 ?_
    refine mj_go_istore_n (k := 3) (by decide) (mj_dt dt_X8_next 30 rfl) ?_
    refine mj_go_aload_n (k := 0) (x := 0) rfl (mj_dt dt_X8_next 31 rfl) ?_
    refine ml_getR (c := 8) (k := 0) (q := 1) fd_8_0 rf_0_0 (Or.inl fl_X8_12) ho_0 (mj_dt dt_X8_next 32 rfl) ?_
    refine ml_getR (c := 7) (k := 2) (q := 4) fd_7_2 rf_1_2 (Or.inl fl_X8_188) ho_1 (mj_dt dt_X8_next 33 rfl) ?_
    refine mj_go_iload_n (k := 1) (x := v1) rfl (mj_dt dt_X8_next 34 rfl) ?_
    refine ml_aald2 (q := 8 + v1.toNatClampNeg) c2 (mj_hs4 c2).1 (mj_dt dt_X8_next 35 rfl) ?_
    refine mj_go_iload_n (k := 2) (x := v2) rfl (mj_dt dt_X8_next 36 rfl) ?_
    obtain ⟨m4, em4, h⟩ := mj_mw_some h
    refine ml_putI (c := 1) (k := 6) fd_1_6 rfl fl_X8_212 (mj_hs4 c2).2 (mj_dt dt_X8_next 37 rfl) ?_
    refine ml_eqm (M1 := (mj_fin m4)) (by rw [em4] <;> rfl) ?_
    refine mj_go_iload_n (k := 3) (x := x3) rfl (mj_dt dt_X8_next 38 rfl) ?_
    obtain rfl := Option.some.inj h
    exact mj_go_ret (v := some (.int x3)) (Nat.le_of_ble_eq_true rfl) (mj_retI (mj_dt dt_X8_next 39 rfl) rfl)
  · rw [if_pos b1] at h
    refine mj_go_aload_n (k := 0) (x := 0) rfl (mj_dt dt_X8_next 20 rfl) ?_
    refine mj_go_bipush (v := 6) rfl (mj_dt dt_X8_next 21 rfl) ?_
    obtain ⟨r2, er2, h⟩ := mj_bind_some h
    refine ml_callV (Y' := mY_X8_refuseBelowTen) (as := [.int 6]) (rest := []) (c := 8) (v := (some (.int r2.1))) (M1 := (mj_fin r2.2)) ho_0 rfl lm_X8_224 wc_X8_refuseBelowTen pl_X8_refuseBelowTen ok_X8_refuseBelowTen rfl rfl (Nat.le_of_ble_eq_true rfl) (k_X8_refuseBelowTen (by omega) er2) (mj_dt dt_X8_next 22 rfl) ?_
    obtain rfl := Option.some.inj h
    exact mj_go_ret (v := some (.int r2.1)) (Nat.le_of_ble_eq_true rfl) (mj_retI (mj_dt dt_X8_next 23 rfl) rfl)
def f_X8_next (N : Nat) (v1 : Int32) (v2 : Int32) (m : mj_m) : Option (Int32 × mj_m) := (f_X7_isHouse N v1 m).bind (fun r1 => if r1 = 0 then f_X8_next_27 N m else (if v2 = (-1 : Int32) then f_X8_next_33 N v1 v2 m else ((f_X7_isHouse N v2 m).bind (fun r4 => if r4 = 0 then f_X8_next_27 N m else f_X8_next_33 N v1 v2 m))))
theorem k_X8_next {L : Nat} {xs : Nat → Int32} {δ N : Nat} {v1 : Int32} {v2 : Int32} {m : mj_m} (hδ : 2 ≤ δ) {a : Int32 × mj_m} (h : f_X8_next N v1 v2 m = some a) : mj_Cl (mj_EX L xs) δ mY_X8_next [.ref 0, .int v1, .int v2] (mj_fin m) (some (.int a.1), (mj_fin a.2)) := by
  obtain ⟨δ, rfl⟩ : ∃ d, δ = d + 1 := ⟨δ - 1, by omega⟩
  have hδ : 1 ≤ δ := by omega
  refine mj_cl_of ok_X8_next (Nat.le_of_ble_eq_true rfl) ?_
  unfold f_X8_next at h
  refine mj_go_aload_n (k := 0) (x := 0) rfl (mj_dt dt_X8_next 0 rfl) ?_
  refine ml_getR (c := 8) (k := 0) (q := 1) fd_8_0 rf_0_0 (Or.inl fl_X8_12) ho_0 (mj_dt dt_X8_next 1 rfl) ?_
  refine mj_go_iload_n (k := 1) (x := v1) rfl (mj_dt dt_X8_next 2 rfl) ?_
  obtain ⟨r1, er1, h⟩ := mj_bind_some h
  refine ml_callV (Y' := mY_X7_isHouse) (as := [.int v1]) (rest := []) (c := 7) (v := (some (.int r1))) (M1 := (mj_fin m)) ho_1 rfl lm_X8_185 wc_X7_isHouse pl_X7_isHouse ok_X7_isHouse rfl rfl (Nat.le_of_ble_eq_true rfl) (k_X7_isHouse (by omega) er1) (mj_dt dt_X8_next 3 rfl) ?_
  refine mj_go_if_eq (tgt := 27) rfl (mj_dt dt_X8_next 4 rfl) (fun b2 => ?_) (fun b2 => ?_)
  · rw [if_pos b2] at h
    refine mj_go_sub (lv' := [(0, .ref 0)]) (List.forall_mem_cons.mpr ⟨rfl, (fun _ h9 => absurd h9 List.not_mem_nil)⟩) ?_
    exact k_X8_next_27 hδ h
  · rw [if_neg b2] at h
    refine mj_go_iload_n (k := 2) (x := v2) rfl (mj_dt dt_X8_next 5 rfl) ?_
    refine mj_go_iconst (v := -1) rfl (mj_dt dt_X8_next 6 rfl) ?_
    refine mj_go_icmp_eq (tgt := 33) rfl (mj_dt dt_X8_next 7 rfl) (fun b3 => ?_) (fun b3 => ?_)
    · rw [if_pos b3] at h
      refine mj_go_sub (lv' := [(0, .ref 0), (1, .int v1), (2, .int v2)]) (List.forall_mem_cons.mpr ⟨rfl, (List.forall_mem_cons.mpr ⟨rfl, (List.forall_mem_cons.mpr ⟨rfl, (fun _ h9 => absurd h9 List.not_mem_nil)⟩)⟩)⟩) ?_
      exact k_X8_next_33 hδ h
    · rw [if_neg b3] at h
      refine mj_go_aload_n (k := 0) (x := 0) rfl (mj_dt dt_X8_next 8 rfl) ?_
      refine ml_getR (c := 8) (k := 0) (q := 1) fd_8_0 rf_0_0 (Or.inl fl_X8_12) ho_0 (mj_dt dt_X8_next 9 rfl) ?_
      refine mj_go_iload_n (k := 2) (x := v2) rfl (mj_dt dt_X8_next 10 rfl) ?_
      obtain ⟨r4, er4, h⟩ := mj_bind_some h
      refine ml_callV (Y' := mY_X7_isHouse) (as := [.int v2]) (rest := []) (c := 7) (v := (some (.int r4))) (M1 := (mj_fin m)) ho_1 rfl lm_X8_185 wc_X7_isHouse pl_X7_isHouse ok_X7_isHouse rfl rfl (Nat.le_of_ble_eq_true rfl) (k_X7_isHouse (by omega) er4) (mj_dt dt_X8_next 11 rfl) ?_
      refine mj_go_if_ne (tgt := 33) rfl (mj_dt dt_X8_next 12 rfl) (fun b5 => ?_) (fun b5 => ?_)
      · rw [if_neg b5] at h
        refine mj_go_sub (lv' := [(0, .ref 0), (1, .int v1), (2, .int v2)]) (List.forall_mem_cons.mpr ⟨rfl, (List.forall_mem_cons.mpr ⟨rfl, (List.forall_mem_cons.mpr ⟨rfl, (fun _ h9 => absurd h9 List.not_mem_nil)⟩)⟩)⟩) ?_
        exact k_X8_next_33 hδ h
      · rw [if_pos b5] at h
        refine mj_go_sub (lv' := [(0, .ref 0)]) (List.forall_mem_cons.mpr ⟨rfl, (fun _ h9 => absurd h9 List.not_mem_nil)⟩) ?_
        exact k_X8_next_27 hδ h
def f_X9_next_21 (N : Nat) (m : mj_m) : Option (Int32 × mj_m) := (f_X9_noTen N (-1 : Int32) m).bind (fun r1 => some (r1.1, r1.2))
theorem k_X9_next_21 {L : Nat} {xs : Nat → Int32} {δ N : Nat} {m : mj_m} (hδ : 0 ≤ δ) {a : Int32 × mj_m} (h : f_X9_next_21 N m = some a) : mj_Go (mj_EX L xs) (δ + 1) mY_X9_next 21 [(0, .ref 95)] [] (mj_fin m) (some (.int a.1), (mj_fin a.2)) := by
  unfold f_X9_next_21 at h
  refine mj_go_aload_n (k := 0) (x := 95) rfl (mj_dt dt_X9_next 11 rfl) ?_
  refine mj_go_iconst (v := -1) rfl (mj_dt dt_X9_next 12 rfl) ?_
  obtain ⟨r1, er1, h⟩ := mj_bind_some h
  refine ml_callV (Y' := mY_X9_noTen) (as := [.int (-1 : Int32)]) (rest := []) (c := 9) (v := (some (.int r1.1))) (M1 := (mj_fin r1.2)) ho_95 rfl lm_X9_171 wc_X9_noTen pl_X9_noTen ok_X9_noTen rfl rfl (Nat.le_of_ble_eq_true rfl) (k_X9_noTen (by omega) er1) (mj_dt dt_X9_next 13 rfl) ?_
  obtain rfl := Option.some.inj h
  exact mj_go_ret (v := some (.int r1.1)) (Nat.le_of_ble_eq_true rfl) (mj_retI (mj_dt dt_X9_next 14 rfl) rfl)
def f_X9_next_27 (N : Nat) (v1 : Int32) (v2 : Int32) (m : mj_m) : Option (Int32 × mj_m) := if v1 = v2 then ((f_X9_noTen N (-6 : Int32) m).bind (fun r2 => some (r2.1, r2.2))) else (mj_ck (mj_b 0 107 v1) ( mj_mw (m.1 107 v1.toNatClampNeg) (fun x3 => mj_mw (mj_wI m 107 (v1.toNatClampNeg) v2) (fun m4 => some (x3, m4)))))
theorem k_X9_next_27 {L : Nat} {xs : Nat → Int32} {δ N : Nat} {v1 : Int32} {v2 : Int32} {m : mj_m} (hδ : 0 ≤ δ) {a : Int32 × mj_m} (h : f_X9_next_27 N v1 v2 m = some a) : mj_Go (mj_EX L xs) (δ + 1) mY_X9_next 27 [(0, .ref 95), (1, .int v1), (2, .int v2)] [] (mj_fin m) (some (.int a.1), (mj_fin a.2)) := by
  unfold f_X9_next_27 at h
  refine mj_go_iload_n (k := 1) (x := v1) rfl (mj_dt dt_X9_next 15 rfl) ?_
  refine mj_go_iload_n (k := 2) (x := v2) rfl (mj_dt dt_X9_next 16 rfl) ?_
  refine mj_go_icmp_ne (tgt := 39) rfl (mj_dt dt_X9_next 17 rfl) (fun b1 => ?_) (fun b1 => ?_)
  · rw [if_neg b1] at h
    refine mj_go_aload_n (k := 0) (x := 95) rfl (mj_dt dt_X9_next 22 rfl) ?_
    refine ml_getR (c := 9) (k := 22) (q := 107) fd_9_22 rf_95_22 (Or.inl fl_X9_59) ho_95 (mj_dt dt_X9_next 23 rfl) ?_
    refine mj_go_iload_n (k := 1) (x := v1) rfl (mj_dt dt_X9_next 24 rfl) ?_
    obtain ⟨c2, h⟩ := mj_ck_some h
    refine mk_iald c2 (mj_dt dt_X9_next 25 rfl) ?_
    obtain ⟨x3, ex3, h⟩ := mj_mw_some h
    refine ml_eqi ex3 ?_
    refine mj_go_istore_n (k := 3) (by decide) (mj_dt dt_X9_next 26 rfl) ?_
    refine mj_go_aload_n (k := 0) (x := 95) rfl (mj_dt dt_X9_next 27 rfl) ?_
    refine ml_getR (c := 9) (k := 22) (q := 107) fd_9_22 rf_95_22 (Or.inl fl_X9_59) ho_95 (mj_dt dt_X9_next 28 rfl) ?_
    refine mj_go_iload_n (k := 1) (x := v1) rfl (mj_dt dt_X9_next 29 rfl) ?_
    refine mj_go_iload_n (k := 2) (x := v2) rfl (mj_dt dt_X9_next 30 rfl) ?_
    obtain ⟨m4, em4, h⟩ := mj_mw_some h
    refine ml_iast c2 (mj_dt dt_X9_next 31 rfl) ?_
    refine ml_eqm (M1 := (mj_fin m4)) (by rw [em4] <;> rfl) ?_
    refine mj_go_iload_n (k := 3) (x := x3) rfl (mj_dt dt_X9_next 32 rfl) ?_
    obtain rfl := Option.some.inj h
    exact mj_go_ret (v := some (.int x3)) (Nat.le_of_ble_eq_true rfl) (mj_retI (mj_dt dt_X9_next 33 rfl) rfl)
  · rw [if_pos b1] at h
    refine mj_go_aload_n (k := 0) (x := 95) rfl (mj_dt dt_X9_next 18 rfl) ?_
    refine mj_go_bipush (v := -6) rfl (mj_dt dt_X9_next 19 rfl) ?_
    obtain ⟨r2, er2, h⟩ := mj_bind_some h
    refine ml_callV (Y' := mY_X9_noTen) (as := [.int (-6 : Int32)]) (rest := []) (c := 9) (v := (some (.int r2.1))) (M1 := (mj_fin r2.2)) ho_95 rfl lm_X9_171 wc_X9_noTen pl_X9_noTen ok_X9_noTen rfl rfl (Nat.le_of_ble_eq_true rfl) (k_X9_noTen (by omega) er2) (mj_dt dt_X9_next 20 rfl) ?_
    obtain rfl := Option.some.inj h
    exact mj_go_ret (v := some (.int r2.1)) (Nat.le_of_ble_eq_true rfl) (mj_retI (mj_dt dt_X9_next 21 rfl) rfl)
def f_X9_next (N : Nat) (v1 : Int32) (v2 : Int32) (m : mj_m) : Option (Int32 × mj_m) := (f_X9_isHouse N v1 m).bind (fun r1 => if r1 = 0 then f_X9_next_21 N m else (if v2 = (-1 : Int32) then f_X9_next_27 N v1 v2 m else ((f_X9_isHouse N v2 m).bind (fun r4 => if r4 = 0 then f_X9_next_21 N m else f_X9_next_27 N v1 v2 m))))
theorem k_X9_next {L : Nat} {xs : Nat → Int32} {δ N : Nat} {v1 : Int32} {v2 : Int32} {m : mj_m} (hδ : 1 ≤ δ) {a : Int32 × mj_m} (h : f_X9_next N v1 v2 m = some a) : mj_Cl (mj_EX L xs) δ mY_X9_next [.ref 95, .int v1, .int v2] (mj_fin m) (some (.int a.1), (mj_fin a.2)) := by
  obtain ⟨δ, rfl⟩ : ∃ d, δ = d + 1 := ⟨δ - 1, by omega⟩
  have hδ : 0 ≤ δ := by omega
  refine mj_cl_of ok_X9_next (Nat.le_of_ble_eq_true rfl) ?_
  unfold f_X9_next at h
  refine mj_go_aload_n (k := 0) (x := 95) rfl (mj_dt dt_X9_next 0 rfl) ?_
  refine mj_go_iload_n (k := 1) (x := v1) rfl (mj_dt dt_X9_next 1 rfl) ?_
  obtain ⟨r1, er1, h⟩ := mj_bind_some h
  refine ml_callV (Y' := mY_X9_isHouse) (as := [.int v1]) (rest := []) (c := 9) (v := (some (.int r1))) (M1 := (mj_fin m)) ho_95 rfl lm_X9_168 wc_X9_isHouse pl_X9_isHouse ok_X9_isHouse rfl rfl (Nat.le_of_ble_eq_true rfl) (k_X9_isHouse (by omega) er1) (mj_dt dt_X9_next 2 rfl) ?_
  refine mj_go_if_eq (tgt := 21) rfl (mj_dt dt_X9_next 3 rfl) (fun b2 => ?_) (fun b2 => ?_)
  · rw [if_pos b2] at h
    refine mj_go_sub (lv' := [(0, .ref 95)]) (List.forall_mem_cons.mpr ⟨rfl, (fun _ h9 => absurd h9 List.not_mem_nil)⟩) ?_
    exact k_X9_next_21 hδ h
  · rw [if_neg b2] at h
    refine mj_go_iload_n (k := 2) (x := v2) rfl (mj_dt dt_X9_next 4 rfl) ?_
    refine mj_go_iconst (v := -1) rfl (mj_dt dt_X9_next 5 rfl) ?_
    refine mj_go_icmp_eq (tgt := 27) rfl (mj_dt dt_X9_next 6 rfl) (fun b3 => ?_) (fun b3 => ?_)
    · rw [if_pos b3] at h
      refine mj_go_sub (lv' := [(0, .ref 95), (1, .int v1), (2, .int v2)]) (List.forall_mem_cons.mpr ⟨rfl, (List.forall_mem_cons.mpr ⟨rfl, (List.forall_mem_cons.mpr ⟨rfl, (fun _ h9 => absurd h9 List.not_mem_nil)⟩)⟩)⟩) ?_
      exact k_X9_next_27 hδ h
    · rw [if_neg b3] at h
      refine mj_go_aload_n (k := 0) (x := 95) rfl (mj_dt dt_X9_next 7 rfl) ?_
      refine mj_go_iload_n (k := 2) (x := v2) rfl (mj_dt dt_X9_next 8 rfl) ?_
      obtain ⟨r4, er4, h⟩ := mj_bind_some h
      refine ml_callV (Y' := mY_X9_isHouse) (as := [.int v2]) (rest := []) (c := 9) (v := (some (.int r4))) (M1 := (mj_fin m)) ho_95 rfl lm_X9_168 wc_X9_isHouse pl_X9_isHouse ok_X9_isHouse rfl rfl (Nat.le_of_ble_eq_true rfl) (k_X9_isHouse (by omega) er4) (mj_dt dt_X9_next 9 rfl) ?_
      refine mj_go_if_ne (tgt := 27) rfl (mj_dt dt_X9_next 10 rfl) (fun b5 => ?_) (fun b5 => ?_)
      · rw [if_neg b5] at h
        refine mj_go_sub (lv' := [(0, .ref 95), (1, .int v1), (2, .int v2)]) (List.forall_mem_cons.mpr ⟨rfl, (List.forall_mem_cons.mpr ⟨rfl, (List.forall_mem_cons.mpr ⟨rfl, (fun _ h9 => absurd h9 List.not_mem_nil)⟩)⟩)⟩) ?_
        exact k_X9_next_27 hδ h
      · rw [if_pos b5] at h
        refine mj_go_sub (lv' := [(0, .ref 95)]) (List.forall_mem_cons.mpr ⟨rfl, (fun _ h9 => absurd h9 List.not_mem_nil)⟩) ?_
        exact k_X9_next_21 hδ h
def f_X8_alter_45 (N : Nat) (m : mj_m) : Option (Int32 × mj_m) := (f_X8_refuse N 6 m).bind (fun r1 => some (r1.1, r1.2))
theorem k_X8_alter_45 {L : Nat} {xs : Nat → Int32} {δ N : Nat} {m : mj_m} (hδ : 0 ≤ δ) {a : Int32 × mj_m} (h : f_X8_alter_45 N m = some a) : mj_Go (mj_EX L xs) (δ + 1) mY_X8_alter 45 [(0, .ref 0)] [] (mj_fin m) (some (.int a.1), (mj_fin a.2)) := by
  unfold f_X8_alter_45 at h
  refine mj_go_aload_n (k := 0) (x := 0) rfl (mj_dt dt_X8_alter 24 rfl) ?_
  refine mj_go_bipush (v := 6) rfl (mj_dt dt_X8_alter 25 rfl) ?_
  obtain ⟨r1, er1, h⟩ := mj_bind_some h
  refine ml_callV (Y' := mY_X8_refuse) (as := [.int 6]) (rest := []) (c := 8) (v := (some (.int r1.1))) (M1 := (mj_fin r1.2)) ho_0 rfl lm_X8_86 wc_X8_refuse pl_X8_refuse ok_X8_refuse rfl rfl (Nat.le_of_ble_eq_true rfl) (k_X8_refuse (by omega) er1) (mj_dt dt_X8_alter 26 rfl) ?_
  obtain rfl := Option.some.inj h
  exact mj_go_ret (v := some (.int r1.1)) (Nat.le_of_ble_eq_true rfl) (mj_retI (mj_dt dt_X8_alter 27 rfl) rfl)
def f_X8_alter_42 (N : Nat) (v1 : Int32) (v2 : Int32) (v3 : Int32) (s0 : Int32) (s1 : Int32) (m : mj_m) : Option (Int32 × mj_m) := if s0 ≤ s1 then (mj_ck (mj_b 2 4 v1) ( if v2 = 0 then (mj_mw (m.1 (8 + v1.toNatClampNeg) 2) (fun x4 => mj_mw (mj_wI m (8 + v1.toNatClampNeg) 2 v3) (fun m5 => (some (x4, m5))))) else (if v2 = 1 then (mj_mw (m.1 (8 + v1.toNatClampNeg) 3) (fun x5 => mj_mw (mj_wI m (8 + v1.toNatClampNeg) 3 v3) (fun m6 => (some (x5, m6))))) else (mj_ck (mj_b 0 5 v1) ( mj_mw (m.1 5 v1.toNatClampNeg) (fun x6 => mj_mw (mj_wI m 5 (v1.toNatClampNeg) v3) (fun m7 => (some (x6, m7))))))))) else f_X8_alter_45 N m
theorem k_X8_alter_42 {L : Nat} {xs : Nat → Int32} {δ N : Nat} {v1 : Int32} {v2 : Int32} {v3 : Int32} {s0 : Int32} {s1 : Int32} {m : mj_m} (hδ : 0 ≤ δ) {a : Int32 × mj_m} (h : f_X8_alter_42 N v1 v2 v3 s0 s1 m = some a) : mj_Go (mj_EX L xs) (δ + 1) mY_X8_alter 42 [(0, .ref 0), (1, .int v1), (2, .int v2), (3, .int v3)] [.int s1, .int s0] (mj_fin m) (some (.int a.1), (mj_fin a.2)) := by
  unfold f_X8_alter_42 at h
  refine mj_go_icmp_le (tgt := 52) rfl (mj_dt dt_X8_alter 23 rfl) (fun b1 => ?_) (fun b1 => ?_)
  · rw [if_pos b1] at h
    refine mj_go_aload_n (k := 0) (x := 0) rfl (mj_dt dt_X8_alter 28 rfl) ?_
    refine ml_getR (c := 8) (k := 0) (q := 1) fd_8_0 rf_0_0 (Or.inl fl_X8_12) ho_0 (mj_dt dt_X8_alter 29 rfl) ?_
    refine ml_getR (c := 7) (k := 2) (q := 4) fd_7_2 rf_1_2 (Or.inl fl_X8_188) ho_1 (mj_dt dt_X8_alter 30 rfl) ?_
    refine mj_go_iload_n (k := 1) (x := v1) rfl (mj_dt dt_X8_alter 31 rfl) ?_
    obtain ⟨c2, h⟩ := mj_ck_some h
    refine ml_aald2 (q := 8 + v1.toNatClampNeg) c2 (mj_hs4 c2).1 (mj_dt dt_X8_alter 32 rfl) ?_
    refine mj_go_astore (i := 4) (by decide) (mj_dt dt_X8_alter 33 rfl) ?_
    refine mj_go_iload_n (k := 2) (x := v2) rfl (mj_dt dt_X8_alter 34 rfl) ?_
    refine mj_go_if_ne (tgt := 83) rfl (mj_dt dt_X8_alter 35 rfl) (fun b3 => ?_) (fun b3 => ?_)
    · rw [if_neg b3] at h
      refine mj_go_iload_n (k := 2) (x := v2) rfl (mj_dt dt_X8_alter 43 rfl) ?_
      refine mj_go_iconst (v := 1) rfl (mj_dt dt_X8_alter 44 rfl) ?_
      refine mj_go_icmp_ne (tgt := 104) rfl (mj_dt dt_X8_alter 45 rfl) (fun b4 => ?_) (fun b4 => ?_)
      · rw [if_neg b4] at h
        refine mj_go_aload_n (k := 0) (x := 0) rfl (mj_dt dt_X8_alter 53 rfl) ?_
        refine ml_getR (c := 8) (k := 0) (q := 1) fd_8_0 rf_0_0 (Or.inl fl_X8_12) ho_0 (mj_dt dt_X8_alter 54 rfl) ?_
        refine ml_getR (c := 7) (k := 3) (q := 5) fd_7_3 rf_1_3 (Or.inl fl_X8_215) ho_1 (mj_dt dt_X8_alter 55 rfl) ?_
        refine mj_go_iload_n (k := 1) (x := v1) rfl (mj_dt dt_X8_alter 56 rfl) ?_
        obtain ⟨c5, h⟩ := mj_ck_some h
        refine mk_iald c5 (mj_dt dt_X8_alter 57 rfl) ?_
        obtain ⟨x6, ex6, h⟩ := mj_mw_some h
        refine ml_eqi ex6 ?_
        refine mj_go_istore (i := 5) (by decide) (mj_dt dt_X8_alter 58 rfl) ?_
        refine mj_go_aload_n (k := 0) (x := 0) rfl (mj_dt dt_X8_alter 59 rfl) ?_
        refine ml_getR (c := 8) (k := 0) (q := 1) fd_8_0 rf_0_0 (Or.inl fl_X8_12) ho_0 (mj_dt dt_X8_alter 60 rfl) ?_
        refine ml_getR (c := 7) (k := 3) (q := 5) fd_7_3 rf_1_3 (Or.inl fl_X8_215) ho_1 (mj_dt dt_X8_alter 61 rfl) ?_
        refine mj_go_iload_n (k := 1) (x := v1) rfl (mj_dt dt_X8_alter 62 rfl) ?_
        refine mj_go_iload_n (k := 3) (x := v3) rfl (mj_dt dt_X8_alter 63 rfl) ?_
        obtain ⟨m7, em7, h⟩ := mj_mw_some h
        refine ml_iast c5 (mj_dt dt_X8_alter 64 rfl) ?_
        refine ml_eqm (M1 := (mj_fin m7)) (by rw [em7] <;> rfl) ?_
        refine mj_go_iload (i := 5) (x := x6) rfl (mj_dt dt_X8_alter 65 rfl) ?_
        obtain rfl := Option.some.inj h
        exact mj_go_ret (v := some (.int x6)) (Nat.le_of_ble_eq_true rfl) (mj_retI (mj_dt dt_X8_alter 66 rfl) rfl)
      · rw [if_pos b4] at h
        refine mj_go_aload (i := 4) (x := (8 + v1.toNatClampNeg)) rfl (mj_dt dt_X8_alter 46 rfl) ?_
        refine mk_getI (c := 1) (k := 3) (Or.inl fd_1_3) (Or.inl fl_X8_203) (mj_hs4 c2).2 (mj_dt dt_X8_alter 47 rfl) ?_
        obtain ⟨x5, ex5, h⟩ := mj_mw_some h
        refine ml_eqi ex5 ?_
        refine mj_go_istore (i := 5) (by decide) (mj_dt dt_X8_alter 48 rfl) ?_
        refine mj_go_aload (i := 4) (x := (8 + v1.toNatClampNeg)) rfl (mj_dt dt_X8_alter 49 rfl) ?_
        refine mj_go_iload_n (k := 3) (x := v3) rfl (mj_dt dt_X8_alter 50 rfl) ?_
        obtain ⟨m6, em6, h⟩ := mj_mw_some h
        refine ml_putI (c := 1) (k := 3) fd_1_3 rfl fl_X8_203 (mj_hs4 c2).2 (mj_dt dt_X8_alter 51 rfl) ?_
        refine ml_eqm (M1 := (mj_fin m6)) (by rw [em6] <;> rfl) ?_
        refine mj_go_goto (tgt := 125) rfl (mj_dt dt_X8_alter 52 rfl) ?_
        refine mj_go_iload (i := 5) (x := x5) rfl (mj_dt dt_X8_alter 65 rfl) ?_
        obtain rfl := Option.some.inj h
        exact mj_go_ret (v := some (.int x5)) (Nat.le_of_ble_eq_true rfl) (mj_retI (mj_dt dt_X8_alter 66 rfl) rfl)
    · rw [if_pos b3] at h
      refine mj_go_aload (i := 4) (x := (8 + v1.toNatClampNeg)) rfl (mj_dt dt_X8_alter 36 rfl) ?_
      refine mk_getI (c := 1) (k := 2) (Or.inl fd_1_2) (Or.inl fl_X8_200) (mj_hs4 c2).2 (mj_dt dt_X8_alter 37 rfl) ?_
      obtain ⟨x4, ex4, h⟩ := mj_mw_some h
      refine ml_eqi ex4 ?_
      refine mj_go_istore (i := 5) (by decide) (mj_dt dt_X8_alter 38 rfl) ?_
      refine mj_go_aload (i := 4) (x := (8 + v1.toNatClampNeg)) rfl (mj_dt dt_X8_alter 39 rfl) ?_
      refine mj_go_iload_n (k := 3) (x := v3) rfl (mj_dt dt_X8_alter 40 rfl) ?_
      obtain ⟨m5, em5, h⟩ := mj_mw_some h
      refine ml_putI (c := 1) (k := 2) fd_1_2 rfl fl_X8_200 (mj_hs4 c2).2 (mj_dt dt_X8_alter 41 rfl) ?_
      refine ml_eqm (M1 := (mj_fin m5)) (by rw [em5] <;> rfl) ?_
      refine mj_go_goto (tgt := 125) rfl (mj_dt dt_X8_alter 42 rfl) ?_
      refine mj_go_iload (i := 5) (x := x4) rfl (mj_dt dt_X8_alter 65 rfl) ?_
      obtain rfl := Option.some.inj h
      exact mj_go_ret (v := some (.int x4)) (Nat.le_of_ble_eq_true rfl) (mj_retI (mj_dt dt_X8_alter 66 rfl) rfl)
  · rw [if_neg b1] at h
    refine mj_go_sub (lv' := [(0, .ref 0)]) (List.forall_mem_cons.mpr ⟨rfl, (fun _ h9 => absurd h9 List.not_mem_nil)⟩) ?_
    exact k_X8_alter_45 hδ h
def f_X8_alter (N : Nat) (v1 : Int32) (v2 : Int32) (v3 : Int32) (m : mj_m) : Option (Int32 × mj_m) := (f_X7_isHouse N v1 m).bind (fun r1 => if r1 = 0 then ((f_X8_refuse N 1 m).bind (fun r3 => some (r3.1, r3.2))) else (if v2 < 0 then f_X8_alter_45 N m else (if 2 < v2 then f_X8_alter_45 N m else (if v3 < 0 then f_X8_alter_45 N m else (if v2 = 2 then (f_X8_alter_42 N v1 v2 v3 v3 2 m) else (f_X8_alter_42 N v1 v2 v3 v3 99 m))))))
theorem k_X8_alter {L : Nat} {xs : Nat → Int32} {δ N : Nat} {v1 : Int32} {v2 : Int32} {v3 : Int32} {m : mj_m} (hδ : 1 ≤ δ) {a : Int32 × mj_m} (h : f_X8_alter N v1 v2 v3 m = some a) : mj_Cl (mj_EX L xs) δ mY_X8_alter [.ref 0, .int v1, .int v2, .int v3] (mj_fin m) (some (.int a.1), (mj_fin a.2)) := by
  obtain ⟨δ, rfl⟩ : ∃ d, δ = d + 1 := ⟨δ - 1, by omega⟩
  have hδ : 0 ≤ δ := by omega
  refine mj_cl_of ok_X8_alter (Nat.le_of_ble_eq_true rfl) ?_
  unfold f_X8_alter at h
  refine mj_go_aload_n (k := 0) (x := 0) rfl (mj_dt dt_X8_alter 0 rfl) ?_
  refine ml_getR (c := 8) (k := 0) (q := 1) fd_8_0 rf_0_0 (Or.inl fl_X8_12) ho_0 (mj_dt dt_X8_alter 1 rfl) ?_
  refine mj_go_iload_n (k := 1) (x := v1) rfl (mj_dt dt_X8_alter 2 rfl) ?_
  obtain ⟨r1, er1, h⟩ := mj_bind_some h
  refine ml_callV (Y' := mY_X7_isHouse) (as := [.int v1]) (rest := []) (c := 7) (v := (some (.int r1))) (M1 := (mj_fin m)) ho_1 rfl lm_X8_185 wc_X7_isHouse pl_X7_isHouse ok_X7_isHouse rfl rfl (Nat.le_of_ble_eq_true rfl) (k_X7_isHouse (by omega) er1) (mj_dt dt_X8_alter 3 rfl) ?_
  refine mj_go_if_ne (tgt := 17) rfl (mj_dt dt_X8_alter 4 rfl) (fun b2 => ?_) (fun b2 => ?_)
  · rw [if_neg b2] at h
    refine mj_go_iload_n (k := 2) (x := v2) rfl (mj_dt dt_X8_alter 9 rfl) ?_
    refine mj_go_if_lt (tgt := 45) rfl (mj_dt dt_X8_alter 10 rfl) (fun b3 => ?_) (fun b3 => ?_)
    · rw [if_pos b3] at h
      refine mj_go_sub (lv' := [(0, .ref 0)]) (List.forall_mem_cons.mpr ⟨rfl, (fun _ h9 => absurd h9 List.not_mem_nil)⟩) ?_
      exact k_X8_alter_45 hδ h
    · rw [if_neg b3] at h
      refine mj_go_iload_n (k := 2) (x := v2) rfl (mj_dt dt_X8_alter 11 rfl) ?_
      refine mj_go_iconst (v := 2) rfl (mj_dt dt_X8_alter 12 rfl) ?_
      refine mj_go_icmp_gt (tgt := 45) rfl (mj_dt dt_X8_alter 13 rfl) (fun b4 => ?_) (fun b4 => ?_)
      · rw [if_pos b4] at h
        refine mj_go_sub (lv' := [(0, .ref 0)]) (List.forall_mem_cons.mpr ⟨rfl, (fun _ h9 => absurd h9 List.not_mem_nil)⟩) ?_
        exact k_X8_alter_45 hδ h
      · rw [if_neg b4] at h
        refine mj_go_iload_n (k := 3) (x := v3) rfl (mj_dt dt_X8_alter 14 rfl) ?_
        refine mj_go_if_lt (tgt := 45) rfl (mj_dt dt_X8_alter 15 rfl) (fun b5 => ?_) (fun b5 => ?_)
        · rw [if_pos b5] at h
          refine mj_go_sub (lv' := [(0, .ref 0)]) (List.forall_mem_cons.mpr ⟨rfl, (fun _ h9 => absurd h9 List.not_mem_nil)⟩) ?_
          exact k_X8_alter_45 hδ h
        · rw [if_neg b5] at h
          refine mj_go_iload_n (k := 3) (x := v3) rfl (mj_dt dt_X8_alter 16 rfl) ?_
          refine mj_go_iload_n (k := 2) (x := v2) rfl (mj_dt dt_X8_alter 17 rfl) ?_
          refine mj_go_iconst (v := 2) rfl (mj_dt dt_X8_alter 18 rfl) ?_
          refine mj_go_icmp_ne (tgt := 40) rfl (mj_dt dt_X8_alter 19 rfl) (fun b6 => ?_) (fun b6 => ?_)
          · rw [if_neg b6] at h
            refine mj_go_bipush (v := 99) rfl (mj_dt dt_X8_alter 22 rfl) ?_
            refine mj_go_sub (lv' := [(0, .ref 0), (1, .int v1), (2, .int v2), (3, .int v3)]) (List.forall_mem_cons.mpr ⟨rfl, (List.forall_mem_cons.mpr ⟨rfl, (List.forall_mem_cons.mpr ⟨rfl, (List.forall_mem_cons.mpr ⟨rfl, (fun _ h9 => absurd h9 List.not_mem_nil)⟩)⟩)⟩)⟩) ?_
            exact k_X8_alter_42 hδ h
          · rw [if_pos b6] at h
            refine mj_go_iconst (v := 2) rfl (mj_dt dt_X8_alter 20 rfl) ?_
            refine mj_go_goto (tgt := 42) rfl (mj_dt dt_X8_alter 21 rfl) ?_
            refine mj_go_sub (lv' := [(0, .ref 0), (1, .int v1), (2, .int v2), (3, .int v3)]) (List.forall_mem_cons.mpr ⟨rfl, (List.forall_mem_cons.mpr ⟨rfl, (List.forall_mem_cons.mpr ⟨rfl, (List.forall_mem_cons.mpr ⟨rfl, (fun _ h9 => absurd h9 List.not_mem_nil)⟩)⟩)⟩)⟩) ?_
            exact k_X8_alter_42 hδ h
  · rw [if_pos b2] at h
    refine mj_go_aload_n (k := 0) (x := 0) rfl (mj_dt dt_X8_alter 5 rfl) ?_
    refine mj_go_iconst (v := 1) rfl (mj_dt dt_X8_alter 6 rfl) ?_
    obtain ⟨r3, er3, h⟩ := mj_bind_some h
    refine ml_callV (Y' := mY_X8_refuse) (as := [.int 1]) (rest := []) (c := 8) (v := (some (.int r3.1))) (M1 := (mj_fin r3.2)) ho_0 rfl lm_X8_86 wc_X8_refuse pl_X8_refuse ok_X8_refuse rfl rfl (Nat.le_of_ble_eq_true rfl) (k_X8_refuse (by omega) er3) (mj_dt dt_X8_alter 7 rfl) ?_
    obtain rfl := Option.some.inj h
    exact mj_go_ret (v := some (.int r3.1)) (Nat.le_of_ble_eq_true rfl) (mj_retI (mj_dt dt_X8_alter 8 rfl) rfl)
