/-! THE MAKINGS as functions of the cells -/
def mj_abv (k : Nat) : Int32 := ([-1, 0, 0, 1, 0, 2, 0] : List Int32).getD k 0
def mj_EX (L : Nat) (xs : Nat → Int32) : mj_X := fun j => if j = 9000 then (L, xs) else (7, mj_abv)
theorem mj_retV {Y : mj_Y} {pc : Nat} (hd : decode (mj_by Y) pc = .ok (.return_, 1)) (h : mj_rt Y = none) : mj_ret Y pc none := ⟨hd, h⟩
theorem mj_retI {Y : mj_Y} {pc : Nat} {x : Int32} (hd : decode (mj_by Y) pc = .ok (.ireturn, 1)) (h : mj_rt Y = some .int) : mj_ret Y pc (some (.int x)) := ⟨hd, .int, h, rfl⟩
theorem mj_retZ {Y : mj_Y} {pc : Nat} {x : Int32} (hd : decode (mj_by Y) pc = .ok (.ireturn, 1)) (h : mj_rt Y = some .boolean) (z : x &&& 1 = x) : mj_ret Y pc (some (.int x)) := ⟨hd, .boolean, h, by show Value.int (x &&& 1) = _; rw [z]⟩
theorem mj_retL {Y : mj_Y} {pc : Nat} {x : Int64} (hd : decode (mj_by Y) pc = .ok (.lreturn, 1)) (h : mj_rt Y = some .long) : mj_ret Y pc (some (.long x)) := ⟨hd, h⟩
theorem mj_retA {Y : mj_Y} {pc n : Nat} {t : String} (hd : decode (mj_by Y) pc = .ok (.areturn, 1)) (h : mj_rt Y = some (.object t)) : mj_ret Y pc (some (.ref n)) := ⟨hd, t, h⟩
def f_X1_init_I (N : Nat) (v0 : Nat) (m : mj_M) : Option (mj_M) := mj_ck (mj_fo m 1 v0) ( mj_mw (mj_setI m v0 0 0) (fun m2 => mj_ck (mj_fo m2 1 v0) ( mj_mw (mj_setI m2 v0 1 0) (fun m4 => mj_ck (mj_fo m4 1 v0) ( mj_mw (mj_setI m4 v0 2 0) (fun m6 => mj_ck (mj_fo m6 1 v0) ( mj_mw (mj_setI m6 v0 3 0) (fun m8 => mj_ck (mj_fo m8 1 v0) ( mj_mw (mj_setI m8 v0 4 1) (fun m10 => mj_ck (mj_fo m10 1 v0) ( mj_mw (mj_setI m10 v0 5 (-1 : Int32)) (fun m12 => mj_ck (mj_fo m12 1 v0) ( mj_mw (mj_setI m12 v0 6 (-1 : Int32)) (fun m14 => mj_ck (mj_fo m14 1 v0) ( mj_mw (mj_setI m14 v0 7 0) (fun m16 => mj_ck (decide (m16.1 ≤ 9000)) ( some m16)))))))))))))))))
theorem k_X1_init_I {L : Nat} {xs : Nat → Int32} {δ N : Nat} {v0 : Nat} {m : mj_M} (_ : 0 ≤ δ) {a : mj_M} (h : f_X1_init_I N v0 m = some a) : mj_Cl (mj_EX L xs) δ mY_X1_init [.ref v0] m (none, a) := by
  refine mj_cl_of ok_X1_init (Nat.le_of_ble_eq_true rfl) ?_
  unfold f_X1_init_I at h
  refine mj_go_aload_n (k := 0) (x := v0) rfl (mj_dt dt_X1_init 0 rfl) ?_
  refine mj_go_obj hm_X1_3 (Nat.le_of_ble_eq_true rfl) (mj_dt dt_X1_init 1 rfl) ?_
  refine mj_go_aload_n (k := 0) (x := v0) rfl (mj_dt dt_X1_init 2 rfl) ?_
  refine mj_go_iconst (v := 0) rfl (mj_dt dt_X1_init 3 rfl) ?_
  obtain ⟨c1, h⟩ := mj_ck_some h
  obtain ⟨m2, em2, h⟩ := mj_mw_some h
  refine ml_putI (c := 1) (k := 0) fd_1_0 rfl fl_X1_9 c1 (mj_dt dt_X1_init 4 rfl) ?_
  refine ml_eqm (M1 := m2) (by rw [em2] <;> rfl) ?_
  refine mj_go_aload_n (k := 0) (x := v0) rfl (mj_dt dt_X1_init 5 rfl) ?_
  refine mj_go_iconst (v := 0) rfl (mj_dt dt_X1_init 6 rfl) ?_
  obtain ⟨c3, h⟩ := mj_ck_some h
  obtain ⟨m4, em4, h⟩ := mj_mw_some h
  refine ml_putI (c := 1) (k := 1) fd_1_1 rfl fl_X1_15 c3 (mj_dt dt_X1_init 7 rfl) ?_
  refine ml_eqm (M1 := m4) (by rw [em4] <;> rfl) ?_
  refine mj_go_aload_n (k := 0) (x := v0) rfl (mj_dt dt_X1_init 8 rfl) ?_
  refine mj_go_iconst (v := 0) rfl (mj_dt dt_X1_init 9 rfl) ?_
  obtain ⟨c5, h⟩ := mj_ck_some h
  obtain ⟨m6, em6, h⟩ := mj_mw_some h
  refine ml_putI (c := 1) (k := 2) fd_1_2 rfl fl_X1_18 c5 (mj_dt dt_X1_init 10 rfl) ?_
  refine ml_eqm (M1 := m6) (by rw [em6] <;> rfl) ?_
  refine mj_go_aload_n (k := 0) (x := v0) rfl (mj_dt dt_X1_init 11 rfl) ?_
  refine mj_go_iconst (v := 0) rfl (mj_dt dt_X1_init 12 rfl) ?_
  obtain ⟨c7, h⟩ := mj_ck_some h
  obtain ⟨m8, em8, h⟩ := mj_mw_some h
  refine ml_putI (c := 1) (k := 3) fd_1_3 rfl fl_X1_21 c7 (mj_dt dt_X1_init 13 rfl) ?_
  refine ml_eqm (M1 := m8) (by rw [em8] <;> rfl) ?_
  refine mj_go_aload_n (k := 0) (x := v0) rfl (mj_dt dt_X1_init 14 rfl) ?_
  refine mj_go_iconst (v := 1) rfl (mj_dt dt_X1_init 15 rfl) ?_
  obtain ⟨c9, h⟩ := mj_ck_some h
  obtain ⟨m10, em10, h⟩ := mj_mw_some h
  refine ml_putI (c := 1) (k := 4) fd_1_4 rfl fl_X1_24 c9 (mj_dt dt_X1_init 16 rfl) ?_
  refine ml_eqm (M1 := m10) (by rw [em10] <;> rfl) ?_
  refine mj_go_aload_n (k := 0) (x := v0) rfl (mj_dt dt_X1_init 17 rfl) ?_
  refine mj_go_iconst (v := -1) rfl (mj_dt dt_X1_init 18 rfl) ?_
  obtain ⟨c11, h⟩ := mj_ck_some h
  obtain ⟨m12, em12, h⟩ := mj_mw_some h
  refine ml_putI (c := 1) (k := 5) fd_1_5 rfl fl_X1_27 c11 (mj_dt dt_X1_init 19 rfl) ?_
  refine ml_eqm (M1 := m12) (by rw [em12] <;> rfl) ?_
  refine mj_go_aload_n (k := 0) (x := v0) rfl (mj_dt dt_X1_init 20 rfl) ?_
  refine mj_go_iconst (v := -1) rfl (mj_dt dt_X1_init 21 rfl) ?_
  obtain ⟨c13, h⟩ := mj_ck_some h
  obtain ⟨m14, em14, h⟩ := mj_mw_some h
  refine ml_putI (c := 1) (k := 6) fd_1_6 rfl fl_X1_30 c13 (mj_dt dt_X1_init 22 rfl) ?_
  refine ml_eqm (M1 := m14) (by rw [em14] <;> rfl) ?_
  refine mj_go_aload_n (k := 0) (x := v0) rfl (mj_dt dt_X1_init 23 rfl) ?_
  refine mj_go_iconst (v := 0) rfl (mj_dt dt_X1_init 24 rfl) ?_
  obtain ⟨c15, h⟩ := mj_ck_some h
  obtain ⟨m16, em16, h⟩ := mj_mw_some h
  refine ml_putZ (c := 1) (k := 7) rfl fd_1_7 rfl fl_X1_33 c15 (mj_dt dt_X1_init 25 rfl) ?_
  refine ml_eqm (M1 := m16) (by rw [em16] <;> rfl) ?_
  obtain ⟨c17, h⟩ := mj_ck_some h
  obtain rfl := Option.some.inj h
  exact mj_go_ret (v := none) (of_decide_eq_true c17) (mj_retV (mj_dt dt_X1_init 26 rfl) rfl)
def f_X7_init_I_104 (N : Nat) (v0 : Nat) (k_104 : Int32 × mj_M → Option (mj_M)) (s : Int32 × mj_M) : Option (mj_M) := if 10 ≤ s.1 then (mj_ck (decide (s.2.1 ≤ 9000)) ( some s.2)) else (mj_ck (mj_fo s.2 7 v0) ( (s.2.2.1 v0 2).bind (fun q3 => mj_ck (mj_fc s.2 1) ( mj_mw (mj_new s.2) (fun m5 => (f_X1_init_I N (s.2.1) m5).bind (fun r6 => mj_ck (mj_fb r6 2 q3 s.1) ( mj_ck (mj_fo r6 1 (s.2.1)) ( mj_mw (mj_setR r6 q3 (s.1.toNatClampNeg) (some (s.2.1))) (fun m9 => mj_mw (s.1 + 1) (fun x10 => k_104 (x10, m9)))))))))))
theorem k_X7_init_I_104 {L : Nat} {xs : Nat → Int32} {δ N : Nat} {v0 : Nat} (hδ : 0 ≤ δ) : ∀ (n : Nat) (s : Int32 × mj_M) (a : mj_M), mj_lp n (f_X7_init_I_104 N v0) s = some a → mj_Go (mj_EX L xs) (δ + 1) mY_X7_init 104 [(0, .ref v0), (1, .int s.1)] [] s.2 (none, a) := by
  refine mj_lp_sound (fun k_104 s a q_104 h => ?_)
  unfold f_X7_init_I_104 at h
  refine mj_go_iload_n (k := 1) (x := s.1) rfl (mj_dt dt_X7_init 58 rfl) ?_
  refine mj_go_bipush (v := 10) rfl (mj_dt dt_X7_init 59 rfl) ?_
  refine mj_go_icmp_ge (tgt := 129) rfl (mj_dt dt_X7_init 60 rfl) (fun b1 => ?_) (fun b1 => ?_)
  · rw [if_pos b1] at h
    obtain ⟨c2, h⟩ := mj_ck_some h
    obtain rfl := Option.some.inj h
    exact mj_go_ret (v := none) (of_decide_eq_true c2) (mj_retV (mj_dt dt_X7_init 70 rfl) rfl)
  · rw [if_neg b1] at h
    refine mj_go_aload_n (k := 0) (x := v0) rfl (mj_dt dt_X7_init 61 rfl) ?_
    obtain ⟨c2, h⟩ := mj_ck_some h
    obtain ⟨q3, eq3, h⟩ := mj_bind_some h
    refine ml_getR (c := 7) (k := 2) (q := q3) fd_7_2 eq3 (Or.inl fl_X7_20) c2 (mj_dt dt_X7_init 62 rfl) ?_
    refine mj_go_iload_n (k := 1) (x := s.1) rfl (mj_dt dt_X7_init 63 rfl) ?_
    obtain ⟨c4, h⟩ := mj_ck_some h
    obtain ⟨m5, em5, h⟩ := mj_mw_some h
    refine ml_new (c := 1) (by decide) cw_X7_18 c4 (mj_dt dt_X7_init 64 rfl) ?_
    refine ml_eqm (M1 := m5) (by rw [em5] <;> rfl) ?_
    refine mj_go_dup rfl (mj_dt dt_X7_init 65 rfl) ?_
    obtain ⟨r6, er6, h⟩ := mj_bind_some h
    refine ml_callIN (Y' := mY_X1_init) (as := []) (rest := [.ref (s.2.1), .int s.1, .ref q3]) (M1 := r6) lm_X7_64 wc_X1_init pl_X1_init ok_X1_init rfl rfl rfl rfl (Nat.le_of_ble_eq_true rfl) (k_X1_init_I (by omega) er6) (mj_dt dt_X7_init 66 rfl) ?_
    obtain ⟨c7, h⟩ := mj_ck_some h
    obtain ⟨c8, h⟩ := mj_ck_some h
    obtain ⟨m9, em9, h⟩ := mj_mw_some h
    refine ml_aast2 c7 c8 (mj_dt dt_X7_init 67 rfl) ?_
    refine ml_eqm (M1 := m9) (by rw [em9] <;> rfl) ?_
    obtain ⟨x10, ex10, h⟩ := mj_mw_some h
    refine mj_go_iinc (i := 1) (x := s.1) (v := x10) rfl (by rw [ex10] <;> rfl) (by decide) (mj_dt dt_X7_init 68 rfl) ?_
    refine mj_go_goto (tgt := 104) rfl (mj_dt dt_X7_init 69 rfl) ?_
    refine mj_go_sub (lv' := [(0, .ref v0), (1, .int x10)]) (List.forall_mem_cons.mpr ⟨rfl, (List.forall_mem_cons.mpr ⟨rfl, (fun _ h9 => absurd h9 List.not_mem_nil)⟩)⟩) ?_
    exact q_104 _ _ h
def f_X7_init_I (N : Nat) (v0 : Nat) (m : mj_M) : Option (mj_M) := mj_ck (mj_fw m 0 12) ( mj_mw (mj_new m) (fun m2 => mj_ck (mj_fo m2 7 v0) ( mj_mw (mj_setR m2 v0 0 (some (m.1))) (fun m4 => mj_ck (mj_fw m4 0 12) ( mj_mw (mj_new m4) (fun m6 => mj_ck (mj_fo m6 7 v0) ( mj_mw (mj_setR m6 v0 1 (some (m4.1))) (fun m8 => mj_ck (mj_fw m8 2 10) ( mj_mw (mj_new m8) (fun m10 => mj_ck (mj_fo m10 7 v0) ( mj_mw (mj_setR m10 v0 2 (some (m8.1))) (fun m12 => mj_ck (mj_fw m12 0 10) ( mj_mw (mj_new m12) (fun m14 => mj_ck (mj_fo m14 7 v0) ( mj_mw (mj_setR m14 v0 3 (some (m12.1))) (fun m16 => mj_ck (mj_fw m16 0 4) ( mj_mw (mj_new m16) (fun m18 => mj_ck (mj_fo m18 7 v0) ( mj_mw (mj_setR m18 v0 4 (some (m16.1))) (fun m20 => mj_ck (mj_fw m20 0 4) ( mj_mw (mj_new m20) (fun m22 => mj_ck (mj_fo m22 7 v0) ( mj_mw (mj_setR m22 v0 5 (some (m20.1))) (fun m24 => mj_ck (mj_fo m24 7 v0) ( mj_mw (mj_setI m24 v0 6 0) (fun m26 => mj_ck (mj_fo m26 7 v0) ( mj_mw (mj_setI m26 v0 7 0) (fun m28 => mj_ck (mj_fo m28 7 v0) ( mj_mw (mj_setI m28 v0 8 0) (fun m30 => mj_ck (mj_fo m30 7 v0) ( mj_mw (mj_setI m30 v0 9 50) (fun m32 => mj_ck (mj_fo m32 7 v0) ( mj_mw (mj_setI m32 v0 10 5) (fun m34 => mj_ck (mj_fo m34 7 v0) ( mj_mw (mj_setI m34 v0 11 4) (fun m36 => mj_ck (mj_fo m36 7 v0) ( mj_mw (mj_setI m36 v0 12 0) (fun m38 => mj_ck (mj_fo m38 7 v0) ( mj_mw (mj_setI m38 v0 13 0) (fun m40 => mj_ck (mj_fo m40 7 v0) ( mj_mw (mj_setI m40 v0 14 0) (fun m42 => mj_ck (mj_fo m42 7 v0) ( mj_mw (mj_setI m42 v0 15 1) (fun m44 => mj_lp N (f_X7_init_I_104 N v0) (0, m44)))))))))))))))))))))))))))))))))))))))))))))
theorem k_X7_init_I {L : Nat} {xs : Nat → Int32} {δ N : Nat} {v0 : Nat} {m : mj_M} (hδ : 1 ≤ δ) {a : mj_M} (h : f_X7_init_I N v0 m = some a) : mj_Cl (mj_EX L xs) δ mY_X7_init [.ref v0] m (none, a) := by
  obtain ⟨δ, rfl⟩ : ∃ d, δ = d + 1 := ⟨δ - 1, by omega⟩
  have hδ : 0 ≤ δ := by omega
  refine mj_cl_of ok_X7_init (Nat.le_of_ble_eq_true rfl) ?_
  unfold f_X7_init_I at h
  refine mj_go_aload_n (k := 0) (x := v0) rfl (mj_dt dt_X7_init 0 rfl) ?_
  refine mj_go_obj hm_X7_3 (Nat.le_of_ble_eq_true rfl) (mj_dt dt_X7_init 1 rfl) ?_
  refine mj_go_aload_n (k := 0) (x := v0) rfl (mj_dt dt_X7_init 2 rfl) ?_
  refine mj_go_bipush (v := 12) rfl (mj_dt dt_X7_init 3 rfl) ?_
  obtain ⟨c1, h⟩ := mj_ck_some h
  obtain ⟨m2, em2, h⟩ := mj_mw_some h
  refine ml_newI c1 (mj_dt dt_X7_init 4 rfl) ?_
  refine ml_eqm (M1 := m2) (by rw [em2] <;> rfl) ?_
  obtain ⟨c3, h⟩ := mj_ck_some h
  obtain ⟨m4, em4, h⟩ := mj_mw_some h
  refine ml_putR (c := 7) (k := 0) fd_7_0 rfl fl_X7_9 c3 (mj_dt dt_X7_init 5 rfl) ?_
  refine ml_eqm (M1 := m4) (by rw [em4] <;> rfl) ?_
  refine mj_go_aload_n (k := 0) (x := v0) rfl (mj_dt dt_X7_init 6 rfl) ?_
  refine mj_go_bipush (v := 12) rfl (mj_dt dt_X7_init 7 rfl) ?_
  obtain ⟨c5, h⟩ := mj_ck_some h
  obtain ⟨m6, em6, h⟩ := mj_mw_some h
  refine ml_newI c5 (mj_dt dt_X7_init 8 rfl) ?_
  refine ml_eqm (M1 := m6) (by rw [em6] <;> rfl) ?_
  obtain ⟨c7, h⟩ := mj_ck_some h
  obtain ⟨m8, em8, h⟩ := mj_mw_some h
  refine ml_putR (c := 7) (k := 1) fd_7_1 rfl fl_X7_15 c7 (mj_dt dt_X7_init 9 rfl) ?_
  refine ml_eqm (M1 := m8) (by rw [em8] <;> rfl) ?_
  refine mj_go_aload_n (k := 0) (x := v0) rfl (mj_dt dt_X7_init 10 rfl) ?_
  refine mj_go_bipush (v := 10) rfl (mj_dt dt_X7_init 11 rfl) ?_
  obtain ⟨c9, h⟩ := mj_ck_some h
  obtain ⟨m10, em10, h⟩ := mj_mw_some h
  refine ml_anew (k := 2) (c := 1) (by decide) cw_X7_18 c9 (mj_dt dt_X7_init 12 rfl) ?_
  refine ml_eqm (M1 := m10) (by rw [em10] <;> rfl) ?_
  obtain ⟨c11, h⟩ := mj_ck_some h
  obtain ⟨m12, em12, h⟩ := mj_mw_some h
  refine ml_putR (c := 7) (k := 2) fd_7_2 rfl fl_X7_20 c11 (mj_dt dt_X7_init 13 rfl) ?_
  refine ml_eqm (M1 := m12) (by rw [em12] <;> rfl) ?_
  refine mj_go_aload_n (k := 0) (x := v0) rfl (mj_dt dt_X7_init 14 rfl) ?_
  refine mj_go_bipush (v := 10) rfl (mj_dt dt_X7_init 15 rfl) ?_
  obtain ⟨c13, h⟩ := mj_ck_some h
  obtain ⟨m14, em14, h⟩ := mj_mw_some h
  refine ml_newI c13 (mj_dt dt_X7_init 16 rfl) ?_
  refine ml_eqm (M1 := m14) (by rw [em14] <;> rfl) ?_
  obtain ⟨c15, h⟩ := mj_ck_some h
  obtain ⟨m16, em16, h⟩ := mj_mw_some h
  refine ml_putR (c := 7) (k := 3) fd_7_3 rfl fl_X7_24 c15 (mj_dt dt_X7_init 17 rfl) ?_
  refine ml_eqm (M1 := m16) (by rw [em16] <;> rfl) ?_
  refine mj_go_aload_n (k := 0) (x := v0) rfl (mj_dt dt_X7_init 18 rfl) ?_
  refine mj_go_iconst (v := 4) rfl (mj_dt dt_X7_init 19 rfl) ?_
  obtain ⟨c17, h⟩ := mj_ck_some h
  obtain ⟨m18, em18, h⟩ := mj_mw_some h
  refine ml_newI c17 (mj_dt dt_X7_init 20 rfl) ?_
  refine ml_eqm (M1 := m18) (by rw [em18] <;> rfl) ?_
  obtain ⟨c19, h⟩ := mj_ck_some h
  obtain ⟨m20, em20, h⟩ := mj_mw_some h
  refine ml_putR (c := 7) (k := 4) fd_7_4 rfl fl_X7_27 c19 (mj_dt dt_X7_init 21 rfl) ?_
  refine ml_eqm (M1 := m20) (by rw [em20] <;> rfl) ?_
  refine mj_go_aload_n (k := 0) (x := v0) rfl (mj_dt dt_X7_init 22 rfl) ?_
  refine mj_go_iconst (v := 4) rfl (mj_dt dt_X7_init 23 rfl) ?_
  obtain ⟨c21, h⟩ := mj_ck_some h
  obtain ⟨m22, em22, h⟩ := mj_mw_some h
  refine ml_newI c21 (mj_dt dt_X7_init 24 rfl) ?_
  refine ml_eqm (M1 := m22) (by rw [em22] <;> rfl) ?_
  obtain ⟨c23, h⟩ := mj_ck_some h
  obtain ⟨m24, em24, h⟩ := mj_mw_some h
  refine ml_putR (c := 7) (k := 5) fd_7_5 rfl fl_X7_30 c23 (mj_dt dt_X7_init 25 rfl) ?_
  refine ml_eqm (M1 := m24) (by rw [em24] <;> rfl) ?_
  refine mj_go_aload_n (k := 0) (x := v0) rfl (mj_dt dt_X7_init 26 rfl) ?_
  refine mj_go_iconst (v := 0) rfl (mj_dt dt_X7_init 27 rfl) ?_
  obtain ⟨c25, h⟩ := mj_ck_some h
  obtain ⟨m26, em26, h⟩ := mj_mw_some h
  refine ml_putI (c := 7) (k := 6) fd_7_6 rfl fl_X7_33 c25 (mj_dt dt_X7_init 28 rfl) ?_
  refine ml_eqm (M1 := m26) (by rw [em26] <;> rfl) ?_
  refine mj_go_aload_n (k := 0) (x := v0) rfl (mj_dt dt_X7_init 29 rfl) ?_
  refine mj_go_iconst (v := 0) rfl (mj_dt dt_X7_init 30 rfl) ?_
  obtain ⟨c27, h⟩ := mj_ck_some h
  obtain ⟨m28, em28, h⟩ := mj_mw_some h
  refine ml_putI (c := 7) (k := 7) fd_7_7 rfl fl_X7_37 c27 (mj_dt dt_X7_init 31 rfl) ?_
  refine ml_eqm (M1 := m28) (by rw [em28] <;> rfl) ?_
  refine mj_go_aload_n (k := 0) (x := v0) rfl (mj_dt dt_X7_init 32 rfl) ?_
  refine mj_go_iconst (v := 0) rfl (mj_dt dt_X7_init 33 rfl) ?_
  obtain ⟨c29, h⟩ := mj_ck_some h
  obtain ⟨m30, em30, h⟩ := mj_mw_some h
  refine ml_putI (c := 7) (k := 8) fd_7_8 rfl fl_X7_40 c29 (mj_dt dt_X7_init 34 rfl) ?_
  refine ml_eqm (M1 := m30) (by rw [em30] <;> rfl) ?_
  refine mj_go_aload_n (k := 0) (x := v0) rfl (mj_dt dt_X7_init 35 rfl) ?_
  refine mj_go_bipush (v := 50) rfl (mj_dt dt_X7_init 36 rfl) ?_
  obtain ⟨c31, h⟩ := mj_ck_some h
  obtain ⟨m32, em32, h⟩ := mj_mw_some h
  refine ml_putI (c := 7) (k := 9) fd_7_9 rfl fl_X7_43 c31 (mj_dt dt_X7_init 37 rfl) ?_
  refine ml_eqm (M1 := m32) (by rw [em32] <;> rfl) ?_
  refine mj_go_aload_n (k := 0) (x := v0) rfl (mj_dt dt_X7_init 38 rfl) ?_
  refine mj_go_iconst (v := 5) rfl (mj_dt dt_X7_init 39 rfl) ?_
  obtain ⟨c33, h⟩ := mj_ck_some h
  obtain ⟨m34, em34, h⟩ := mj_mw_some h
  refine ml_putI (c := 7) (k := 10) fd_7_10 rfl fl_X7_46 c33 (mj_dt dt_X7_init 40 rfl) ?_
  refine ml_eqm (M1 := m34) (by rw [em34] <;> rfl) ?_
  refine mj_go_aload_n (k := 0) (x := v0) rfl (mj_dt dt_X7_init 41 rfl) ?_
  refine mj_go_iconst (v := 4) rfl (mj_dt dt_X7_init 42 rfl) ?_
  obtain ⟨c35, h⟩ := mj_ck_some h
  obtain ⟨m36, em36, h⟩ := mj_mw_some h
  refine ml_putI (c := 7) (k := 11) fd_7_11 rfl fl_X7_49 c35 (mj_dt dt_X7_init 43 rfl) ?_
  refine ml_eqm (M1 := m36) (by rw [em36] <;> rfl) ?_
  refine mj_go_aload_n (k := 0) (x := v0) rfl (mj_dt dt_X7_init 44 rfl) ?_
  refine mj_go_iconst (v := 0) rfl (mj_dt dt_X7_init 45 rfl) ?_
  obtain ⟨c37, h⟩ := mj_ck_some h
  obtain ⟨m38, em38, h⟩ := mj_mw_some h
  refine ml_putI (c := 7) (k := 12) fd_7_12 rfl fl_X7_52 c37 (mj_dt dt_X7_init 46 rfl) ?_
  refine ml_eqm (M1 := m38) (by rw [em38] <;> rfl) ?_
  refine mj_go_aload_n (k := 0) (x := v0) rfl (mj_dt dt_X7_init 47 rfl) ?_
  refine mj_go_iconst (v := 0) rfl (mj_dt dt_X7_init 48 rfl) ?_
  obtain ⟨c39, h⟩ := mj_ck_some h
  obtain ⟨m40, em40, h⟩ := mj_mw_some h
  refine ml_putI (c := 7) (k := 13) fd_7_13 rfl fl_X7_55 c39 (mj_dt dt_X7_init 49 rfl) ?_
  refine ml_eqm (M1 := m40) (by rw [em40] <;> rfl) ?_
  refine mj_go_aload_n (k := 0) (x := v0) rfl (mj_dt dt_X7_init 50 rfl) ?_
  refine mj_go_iconst (v := 0) rfl (mj_dt dt_X7_init 51 rfl) ?_
  obtain ⟨c41, h⟩ := mj_ck_some h
  obtain ⟨m42, em42, h⟩ := mj_mw_some h
  refine ml_putI (c := 7) (k := 14) fd_7_14 rfl fl_X7_58 c41 (mj_dt dt_X7_init 52 rfl) ?_
  refine ml_eqm (M1 := m42) (by rw [em42] <;> rfl) ?_
  refine mj_go_aload_n (k := 0) (x := v0) rfl (mj_dt dt_X7_init 53 rfl) ?_
  refine mj_go_iconst (v := 1) rfl (mj_dt dt_X7_init 54 rfl) ?_
  obtain ⟨c43, h⟩ := mj_ck_some h
  obtain ⟨m44, em44, h⟩ := mj_mw_some h
  refine ml_putI (c := 7) (k := 15) fd_7_15 rfl fl_X7_61 c43 (mj_dt dt_X7_init 55 rfl) ?_
  refine ml_eqm (M1 := m44) (by rw [em44] <;> rfl) ?_
  refine mj_go_iconst (v := 0) rfl (mj_dt dt_X7_init 56 rfl) ?_
  refine mj_go_istore_n (k := 1) (by decide) (mj_dt dt_X7_init 57 rfl) ?_
  refine mj_go_sub (lv' := [(0, .ref v0), (1, .int 0)]) (List.forall_mem_cons.mpr ⟨rfl, (List.forall_mem_cons.mpr ⟨rfl, (fun _ h9 => absurd h9 List.not_mem_nil)⟩)⟩) ?_
  exact k_X7_init_I_104 hδ N _ _ h
def f_X2_init_I (N : Nat) (v0 : Nat) (v1 : Nat) (m : mj_M) : Option (mj_M) := mj_ck (mj_fw m 0 10) ( mj_mw (mj_new m) (fun m2 => mj_ck (mj_fo m2 2 v0) ( mj_mw (mj_setR m2 v0 1 (some (m.1))) (fun m4 => mj_ck (mj_fw m4 0 10) ( mj_mw (mj_new m4) (fun m6 => mj_ck (mj_fo m6 2 v0) ( mj_mw (mj_setR m6 v0 2 (some (m4.1))) (fun m8 => mj_ck (mj_fw m8 0 10) ( mj_mw (mj_new m8) (fun m10 => mj_ck (mj_fo m10 2 v0) ( mj_mw (mj_setR m10 v0 3 (some (m8.1))) (fun m12 => mj_ck (mj_fw m12 0 1024) ( mj_mw (mj_new m12) (fun m14 => mj_ck (mj_fo m14 2 v0) ( mj_mw (mj_setR m14 v0 4 (some (m12.1))) (fun m16 => mj_ck (mj_fw m16 0 1024) ( mj_mw (mj_new m16) (fun m18 => mj_ck (mj_fo m18 2 v0) ( mj_mw (mj_setR m18 v0 5 (some (m16.1))) (fun m20 => mj_ck (mj_fw m20 1 1024) ( mj_mw (mj_new m20) (fun m22 => mj_ck (mj_fo m22 2 v0) ( mj_mw (mj_setR m22 v0 6 (some (m20.1))) (fun m24 => mj_ck (mj_fw m24 1 1024) ( mj_mw (mj_new m24) (fun m26 => mj_ck (mj_fo m26 2 v0) ( mj_mw (mj_setR m26 v0 7 (some (m24.1))) (fun m28 => mj_ck (mj_fw m28 1 8) ( mj_mw (mj_new m28) (fun m30 => mj_ck (mj_fo m30 2 v0) ( mj_mw (mj_setR m30 v0 8 (some (m28.1))) (fun m32 => mj_ck (mj_fo m32 2 v0) ( mj_mw (mj_setI m32 v0 9 0) (fun m34 => mj_ck (mj_fo m34 2 v0) ( mj_mw (mj_setI m34 v0 10 0) (fun m36 => mj_ck (mj_fo m36 2 v0) ( mj_mw (mj_setR m36 v0 0 (some v1)) (fun m38 => mj_ck (decide (m38.1 ≤ 9000)) ( some m38)))))))))))))))))))))))))))))))))))))))
theorem k_X2_init_I {L : Nat} {xs : Nat → Int32} {δ N : Nat} {v0 : Nat} {v1 : Nat} {m : mj_M} (_ : 0 ≤ δ) {a : mj_M} (h : f_X2_init_I N v0 v1 m = some a) : mj_Cl (mj_EX L xs) δ mY_X2_init [.ref v0, .ref v1] m (none, a) := by
  refine mj_cl_of ok_X2_init (Nat.le_of_ble_eq_true rfl) ?_
  unfold f_X2_init_I at h
  refine mj_go_aload_n (k := 0) (x := v0) rfl (mj_dt dt_X2_init 0 rfl) ?_
  refine mj_go_obj hm_X2_3 (Nat.le_of_ble_eq_true rfl) (mj_dt dt_X2_init 1 rfl) ?_
  refine mj_go_aload_n (k := 0) (x := v0) rfl (mj_dt dt_X2_init 2 rfl) ?_
  refine mj_go_bipush (v := 10) rfl (mj_dt dt_X2_init 3 rfl) ?_
  obtain ⟨c1, h⟩ := mj_ck_some h
  obtain ⟨m2, em2, h⟩ := mj_mw_some h
  refine ml_newI c1 (mj_dt dt_X2_init 4 rfl) ?_
  refine ml_eqm (M1 := m2) (by rw [em2] <;> rfl) ?_
  obtain ⟨c3, h⟩ := mj_ck_some h
  obtain ⟨m4, em4, h⟩ := mj_mw_some h
  refine ml_putR (c := 2) (k := 1) fd_2_1 rfl fl_X2_9 c3 (mj_dt dt_X2_init 5 rfl) ?_
  refine ml_eqm (M1 := m4) (by rw [em4] <;> rfl) ?_
  refine mj_go_aload_n (k := 0) (x := v0) rfl (mj_dt dt_X2_init 6 rfl) ?_
  refine mj_go_bipush (v := 10) rfl (mj_dt dt_X2_init 7 rfl) ?_
  obtain ⟨c5, h⟩ := mj_ck_some h
  obtain ⟨m6, em6, h⟩ := mj_mw_some h
  refine ml_newI c5 (mj_dt dt_X2_init 8 rfl) ?_
  refine ml_eqm (M1 := m6) (by rw [em6] <;> rfl) ?_
  obtain ⟨c7, h⟩ := mj_ck_some h
  obtain ⟨m8, em8, h⟩ := mj_mw_some h
  refine ml_putR (c := 2) (k := 2) fd_2_2 rfl fl_X2_15 c7 (mj_dt dt_X2_init 9 rfl) ?_
  refine ml_eqm (M1 := m8) (by rw [em8] <;> rfl) ?_
  refine mj_go_aload_n (k := 0) (x := v0) rfl (mj_dt dt_X2_init 10 rfl) ?_
  refine mj_go_bipush (v := 10) rfl (mj_dt dt_X2_init 11 rfl) ?_
  obtain ⟨c9, h⟩ := mj_ck_some h
  obtain ⟨m10, em10, h⟩ := mj_mw_some h
  refine ml_newI c9 (mj_dt dt_X2_init 12 rfl) ?_
  refine ml_eqm (M1 := m10) (by rw [em10] <;> rfl) ?_
  obtain ⟨c11, h⟩ := mj_ck_some h
  obtain ⟨m12, em12, h⟩ := mj_mw_some h
  refine ml_putR (c := 2) (k := 3) fd_2_3 rfl fl_X2_18 c11 (mj_dt dt_X2_init 13 rfl) ?_
  refine ml_eqm (M1 := m12) (by rw [em12] <;> rfl) ?_
  refine mj_go_aload_n (k := 0) (x := v0) rfl (mj_dt dt_X2_init 14 rfl) ?_
  refine mj_go_sipush (v := 1024) rfl (mj_dt dt_X2_init 15 rfl) ?_
  obtain ⟨c13, h⟩ := mj_ck_some h
  obtain ⟨m14, em14, h⟩ := mj_mw_some h
  refine ml_newI c13 (mj_dt dt_X2_init 16 rfl) ?_
  refine ml_eqm (M1 := m14) (by rw [em14] <;> rfl) ?_
  obtain ⟨c15, h⟩ := mj_ck_some h
  obtain ⟨m16, em16, h⟩ := mj_mw_some h
  refine ml_putR (c := 2) (k := 4) fd_2_4 rfl fl_X2_21 c15 (mj_dt dt_X2_init 17 rfl) ?_
  refine ml_eqm (M1 := m16) (by rw [em16] <;> rfl) ?_
  refine mj_go_aload_n (k := 0) (x := v0) rfl (mj_dt dt_X2_init 18 rfl) ?_
  refine mj_go_sipush (v := 1024) rfl (mj_dt dt_X2_init 19 rfl) ?_
  obtain ⟨c17, h⟩ := mj_ck_some h
  obtain ⟨m18, em18, h⟩ := mj_mw_some h
  refine ml_newI c17 (mj_dt dt_X2_init 20 rfl) ?_
  refine ml_eqm (M1 := m18) (by rw [em18] <;> rfl) ?_
  obtain ⟨c19, h⟩ := mj_ck_some h
  obtain ⟨m20, em20, h⟩ := mj_mw_some h
  refine ml_putR (c := 2) (k := 5) fd_2_5 rfl fl_X2_24 c19 (mj_dt dt_X2_init 21 rfl) ?_
  refine ml_eqm (M1 := m20) (by rw [em20] <;> rfl) ?_
  refine mj_go_aload_n (k := 0) (x := v0) rfl (mj_dt dt_X2_init 22 rfl) ?_
  refine mj_go_sipush (v := 1024) rfl (mj_dt dt_X2_init 23 rfl) ?_
  obtain ⟨c21, h⟩ := mj_ck_some h
  obtain ⟨m22, em22, h⟩ := mj_mw_some h
  refine ml_newL c21 (mj_dt dt_X2_init 24 rfl) ?_
  refine ml_eqm (M1 := m22) (by rw [em22] <;> rfl) ?_
  obtain ⟨c23, h⟩ := mj_ck_some h
  obtain ⟨m24, em24, h⟩ := mj_mw_some h
  refine ml_putR (c := 2) (k := 6) fd_2_6 rfl fl_X2_27 c23 (mj_dt dt_X2_init 25 rfl) ?_
  refine ml_eqm (M1 := m24) (by rw [em24] <;> rfl) ?_
  refine mj_go_aload_n (k := 0) (x := v0) rfl (mj_dt dt_X2_init 26 rfl) ?_
  refine mj_go_sipush (v := 1024) rfl (mj_dt dt_X2_init 27 rfl) ?_
  obtain ⟨c25, h⟩ := mj_ck_some h
  obtain ⟨m26, em26, h⟩ := mj_mw_some h
  refine ml_newL c25 (mj_dt dt_X2_init 28 rfl) ?_
  refine ml_eqm (M1 := m26) (by rw [em26] <;> rfl) ?_
  obtain ⟨c27, h⟩ := mj_ck_some h
  obtain ⟨m28, em28, h⟩ := mj_mw_some h
  refine ml_putR (c := 2) (k := 7) fd_2_7 rfl fl_X2_31 c27 (mj_dt dt_X2_init 29 rfl) ?_
  refine ml_eqm (M1 := m28) (by rw [em28] <;> rfl) ?_
  refine mj_go_aload_n (k := 0) (x := v0) rfl (mj_dt dt_X2_init 30 rfl) ?_
  refine mj_go_bipush (v := 8) rfl (mj_dt dt_X2_init 31 rfl) ?_
  obtain ⟨c29, h⟩ := mj_ck_some h
  obtain ⟨m30, em30, h⟩ := mj_mw_some h
  refine ml_newL c29 (mj_dt dt_X2_init 32 rfl) ?_
  refine ml_eqm (M1 := m30) (by rw [em30] <;> rfl) ?_
  obtain ⟨c31, h⟩ := mj_ck_some h
  obtain ⟨m32, em32, h⟩ := mj_mw_some h
  refine ml_putR (c := 2) (k := 8) fd_2_8 rfl fl_X2_34 c31 (mj_dt dt_X2_init 33 rfl) ?_
  refine ml_eqm (M1 := m32) (by rw [em32] <;> rfl) ?_
  refine mj_go_aload_n (k := 0) (x := v0) rfl (mj_dt dt_X2_init 34 rfl) ?_
  refine mj_go_iconst (v := 0) rfl (mj_dt dt_X2_init 35 rfl) ?_
  obtain ⟨c33, h⟩ := mj_ck_some h
  obtain ⟨m34, em34, h⟩ := mj_mw_some h
  refine ml_putI (c := 2) (k := 9) fd_2_9 rfl fl_X2_37 c33 (mj_dt dt_X2_init 36 rfl) ?_
  refine ml_eqm (M1 := m34) (by rw [em34] <;> rfl) ?_
  refine mj_go_aload_n (k := 0) (x := v0) rfl (mj_dt dt_X2_init 37 rfl) ?_
  refine mj_go_iconst (v := 0) rfl (mj_dt dt_X2_init 38 rfl) ?_
  obtain ⟨c35, h⟩ := mj_ck_some h
  obtain ⟨m36, em36, h⟩ := mj_mw_some h
  refine ml_putI (c := 2) (k := 10) fd_2_10 rfl fl_X2_41 c35 (mj_dt dt_X2_init 39 rfl) ?_
  refine ml_eqm (M1 := m36) (by rw [em36] <;> rfl) ?_
  refine mj_go_aload_n (k := 0) (x := v0) rfl (mj_dt dt_X2_init 40 rfl) ?_
  refine mj_go_aload_n (k := 1) (x := v1) rfl (mj_dt dt_X2_init 41 rfl) ?_
  obtain ⟨c37, h⟩ := mj_ck_some h
  obtain ⟨m38, em38, h⟩ := mj_mw_some h
  refine ml_putR (c := 2) (k := 0) fd_2_0 rfl fl_X2_44 c37 (mj_dt dt_X2_init 42 rfl) ?_
  refine ml_eqm (M1 := m38) (by rw [em38] <;> rfl) ?_
  obtain ⟨c39, h⟩ := mj_ck_some h
  obtain rfl := Option.some.inj h
  exact mj_go_ret (v := none) (of_decide_eq_true c39) (mj_retV (mj_dt dt_X2_init 43 rfl) rfl)
def f_X3_init_I (N : Nat) (v0 : Nat) (v1 : Nat) (v2 : Nat) (m : mj_M) : Option (mj_M) := mj_ck (mj_fw m 0 10) ( mj_mw (mj_new m) (fun m2 => mj_ck (mj_fo m2 3 v0) ( mj_mw (mj_setR m2 v0 2 (some (m.1))) (fun m4 => mj_ck (mj_fw m4 0 10) ( mj_mw (mj_new m4) (fun m6 => mj_ck (mj_fo m6 3 v0) ( mj_mw (mj_setR m6 v0 3 (some (m4.1))) (fun m8 => mj_ck (mj_fo m8 3 v0) ( mj_mw (mj_setR m8 v0 0 (some v1)) (fun m10 => mj_ck (mj_fo m10 3 v0) ( mj_mw (mj_setR m10 v0 1 (some v2)) (fun m12 => mj_ck (decide (m12.1 ≤ 9000)) ( some m12)))))))))))))
theorem k_X3_init_I {L : Nat} {xs : Nat → Int32} {δ N : Nat} {v0 : Nat} {v1 : Nat} {v2 : Nat} {m : mj_M} (_ : 0 ≤ δ) {a : mj_M} (h : f_X3_init_I N v0 v1 v2 m = some a) : mj_Cl (mj_EX L xs) δ mY_X3_init [.ref v0, .ref v1, .ref v2] m (none, a) := by
  refine mj_cl_of ok_X3_init (Nat.le_of_ble_eq_true rfl) ?_
  unfold f_X3_init_I at h
  refine mj_go_aload_n (k := 0) (x := v0) rfl (mj_dt dt_X3_init 0 rfl) ?_
  refine mj_go_obj hm_X3_3 (Nat.le_of_ble_eq_true rfl) (mj_dt dt_X3_init 1 rfl) ?_
  refine mj_go_aload_n (k := 0) (x := v0) rfl (mj_dt dt_X3_init 2 rfl) ?_
  refine mj_go_bipush (v := 10) rfl (mj_dt dt_X3_init 3 rfl) ?_
  obtain ⟨c1, h⟩ := mj_ck_some h
  obtain ⟨m2, em2, h⟩ := mj_mw_some h
  refine ml_newI c1 (mj_dt dt_X3_init 4 rfl) ?_
  refine ml_eqm (M1 := m2) (by rw [em2] <;> rfl) ?_
  obtain ⟨c3, h⟩ := mj_ck_some h
  obtain ⟨m4, em4, h⟩ := mj_mw_some h
  refine ml_putR (c := 3) (k := 2) fd_3_2 rfl fl_X3_9 c3 (mj_dt dt_X3_init 5 rfl) ?_
  refine ml_eqm (M1 := m4) (by rw [em4] <;> rfl) ?_
  refine mj_go_aload_n (k := 0) (x := v0) rfl (mj_dt dt_X3_init 6 rfl) ?_
  refine mj_go_bipush (v := 10) rfl (mj_dt dt_X3_init 7 rfl) ?_
  obtain ⟨c5, h⟩ := mj_ck_some h
  obtain ⟨m6, em6, h⟩ := mj_mw_some h
  refine ml_newI c5 (mj_dt dt_X3_init 8 rfl) ?_
  refine ml_eqm (M1 := m6) (by rw [em6] <;> rfl) ?_
  obtain ⟨c7, h⟩ := mj_ck_some h
  obtain ⟨m8, em8, h⟩ := mj_mw_some h
  refine ml_putR (c := 3) (k := 3) fd_3_3 rfl fl_X3_15 c7 (mj_dt dt_X3_init 9 rfl) ?_
  refine ml_eqm (M1 := m8) (by rw [em8] <;> rfl) ?_
  refine mj_go_aload_n (k := 0) (x := v0) rfl (mj_dt dt_X3_init 10 rfl) ?_
  refine mj_go_aload_n (k := 1) (x := v1) rfl (mj_dt dt_X3_init 11 rfl) ?_
  obtain ⟨c9, h⟩ := mj_ck_some h
  obtain ⟨m10, em10, h⟩ := mj_mw_some h
  refine ml_putR (c := 3) (k := 0) fd_3_0 rfl fl_X3_18 c9 (mj_dt dt_X3_init 12 rfl) ?_
  refine ml_eqm (M1 := m10) (by rw [em10] <;> rfl) ?_
  refine mj_go_aload_n (k := 0) (x := v0) rfl (mj_dt dt_X3_init 13 rfl) ?_
  refine mj_go_aload_n (k := 2) (x := v2) rfl (mj_dt dt_X3_init 14 rfl) ?_
  obtain ⟨c11, h⟩ := mj_ck_some h
  obtain ⟨m12, em12, h⟩ := mj_mw_some h
  refine ml_putR (c := 3) (k := 1) fd_3_1 rfl fl_X3_22 c11 (mj_dt dt_X3_init 15 rfl) ?_
  refine ml_eqm (M1 := m12) (by rw [em12] <;> rfl) ?_
  obtain ⟨c13, h⟩ := mj_ck_some h
  obtain rfl := Option.some.inj h
  exact mj_go_ret (v := none) (of_decide_eq_true c13) (mj_retV (mj_dt dt_X3_init 16 rfl) rfl)
def f_X4_init_I (N : Nat) (v0 : Nat) (v1 : Nat) (v2 : Nat) (v3 : Nat) (m : mj_M) : Option (mj_M) := mj_ck (mj_fw m 0 10) ( mj_mw (mj_new m) (fun m2 => mj_ck (mj_fo m2 4 v0) ( mj_mw (mj_setR m2 v0 3 (some (m.1))) (fun m4 => mj_ck (mj_fw m4 0 10) ( mj_mw (mj_new m4) (fun m6 => mj_ck (mj_fo m6 4 v0) ( mj_mw (mj_setR m6 v0 4 (some (m4.1))) (fun m8 => mj_ck (mj_fw m8 0 10) ( mj_mw (mj_new m8) (fun m10 => mj_ck (mj_fo m10 4 v0) ( mj_mw (mj_setR m10 v0 5 (some (m8.1))) (fun m12 => mj_ck (mj_fw m12 0 5) ( mj_mw (mj_new m12) (fun m14 => mj_ck (mj_fo m14 4 v0) ( mj_mw (mj_setR m14 v0 6 (some (m12.1))) (fun m16 => mj_ck (mj_fw m16 0 5) ( mj_mw (mj_new m16) (fun m18 => mj_ck (mj_fo m18 4 v0) ( mj_mw (mj_setR m18 v0 7 (some (m16.1))) (fun m20 => mj_ck (mj_fw m20 1 32) ( mj_mw (mj_new m20) (fun m22 => mj_ck (mj_fo m22 4 v0) ( mj_mw (mj_setR m22 v0 8 (some (m20.1))) (fun m24 => mj_ck (mj_fo m24 4 v0) ( mj_mw (mj_setI m24 v0 9 0) (fun m26 => mj_ck (mj_fo m26 4 v0) ( mj_mw (mj_setI m26 v0 10 0) (fun m28 => mj_ck (mj_fo m28 4 v0) ( mj_mw (mj_setI m28 v0 11 0) (fun m30 => mj_ck (mj_fo m30 4 v0) ( mj_mw (mj_setI m30 v0 12 0) (fun m32 => mj_ck (mj_fo m32 4 v0) ( mj_mw (mj_setI m32 v0 13 0) (fun m34 => mj_ck (mj_fo m34 4 v0) ( mj_mw (mj_setR m34 v0 0 (some v1)) (fun m36 => mj_ck (mj_fo m36 4 v0) ( mj_mw (mj_setR m36 v0 1 (some v2)) (fun m38 => mj_ck (mj_fo m38 4 v0) ( mj_mw (mj_setR m38 v0 2 (some v3)) (fun m40 => mj_ck (decide (m40.1 ≤ 9000)) ( some m40)))))))))))))))))))))))))))))))))))))))))
theorem k_X4_init_I {L : Nat} {xs : Nat → Int32} {δ N : Nat} {v0 : Nat} {v1 : Nat} {v2 : Nat} {v3 : Nat} {m : mj_M} (_ : 0 ≤ δ) {a : mj_M} (h : f_X4_init_I N v0 v1 v2 v3 m = some a) : mj_Cl (mj_EX L xs) δ mY_X4_init [.ref v0, .ref v1, .ref v2, .ref v3] m (none, a) := by
  refine mj_cl_of ok_X4_init (Nat.le_of_ble_eq_true rfl) ?_
  unfold f_X4_init_I at h
  refine mj_go_aload_n (k := 0) (x := v0) rfl (mj_dt dt_X4_init 0 rfl) ?_
  refine mj_go_obj hm_X4_3 (Nat.le_of_ble_eq_true rfl) (mj_dt dt_X4_init 1 rfl) ?_
  refine mj_go_aload_n (k := 0) (x := v0) rfl (mj_dt dt_X4_init 2 rfl) ?_
  refine mj_go_bipush (v := 10) rfl (mj_dt dt_X4_init 3 rfl) ?_
  obtain ⟨c1, h⟩ := mj_ck_some h
  obtain ⟨m2, em2, h⟩ := mj_mw_some h
  refine ml_newI c1 (mj_dt dt_X4_init 4 rfl) ?_
  refine ml_eqm (M1 := m2) (by rw [em2] <;> rfl) ?_
  obtain ⟨c3, h⟩ := mj_ck_some h
  obtain ⟨m4, em4, h⟩ := mj_mw_some h
  refine ml_putR (c := 4) (k := 3) fd_4_3 rfl fl_X4_9 c3 (mj_dt dt_X4_init 5 rfl) ?_
  refine ml_eqm (M1 := m4) (by rw [em4] <;> rfl) ?_
  refine mj_go_aload_n (k := 0) (x := v0) rfl (mj_dt dt_X4_init 6 rfl) ?_
  refine mj_go_bipush (v := 10) rfl (mj_dt dt_X4_init 7 rfl) ?_
  obtain ⟨c5, h⟩ := mj_ck_some h
  obtain ⟨m6, em6, h⟩ := mj_mw_some h
  refine ml_newI c5 (mj_dt dt_X4_init 8 rfl) ?_
  refine ml_eqm (M1 := m6) (by rw [em6] <;> rfl) ?_
  obtain ⟨c7, h⟩ := mj_ck_some h
  obtain ⟨m8, em8, h⟩ := mj_mw_some h
  refine ml_putR (c := 4) (k := 4) fd_4_4 rfl fl_X4_15 c7 (mj_dt dt_X4_init 9 rfl) ?_
  refine ml_eqm (M1 := m8) (by rw [em8] <;> rfl) ?_
  refine mj_go_aload_n (k := 0) (x := v0) rfl (mj_dt dt_X4_init 10 rfl) ?_
  refine mj_go_bipush (v := 10) rfl (mj_dt dt_X4_init 11 rfl) ?_
  obtain ⟨c9, h⟩ := mj_ck_some h
  obtain ⟨m10, em10, h⟩ := mj_mw_some h
  refine ml_newI c9 (mj_dt dt_X4_init 12 rfl) ?_
  refine ml_eqm (M1 := m10) (by rw [em10] <;> rfl) ?_
  obtain ⟨c11, h⟩ := mj_ck_some h
  obtain ⟨m12, em12, h⟩ := mj_mw_some h
  refine ml_putR (c := 4) (k := 5) fd_4_5 rfl fl_X4_18 c11 (mj_dt dt_X4_init 13 rfl) ?_
  refine ml_eqm (M1 := m12) (by rw [em12] <;> rfl) ?_
  refine mj_go_aload_n (k := 0) (x := v0) rfl (mj_dt dt_X4_init 14 rfl) ?_
  refine mj_go_iconst (v := 5) rfl (mj_dt dt_X4_init 15 rfl) ?_
  obtain ⟨c13, h⟩ := mj_ck_some h
  obtain ⟨m14, em14, h⟩ := mj_mw_some h
  refine ml_newI c13 (mj_dt dt_X4_init 16 rfl) ?_
  refine ml_eqm (M1 := m14) (by rw [em14] <;> rfl) ?_
  obtain ⟨c15, h⟩ := mj_ck_some h
  obtain ⟨m16, em16, h⟩ := mj_mw_some h
  refine ml_putR (c := 4) (k := 6) fd_4_6 rfl fl_X4_21 c15 (mj_dt dt_X4_init 17 rfl) ?_
  refine ml_eqm (M1 := m16) (by rw [em16] <;> rfl) ?_
  refine mj_go_aload_n (k := 0) (x := v0) rfl (mj_dt dt_X4_init 18 rfl) ?_
  refine mj_go_iconst (v := 5) rfl (mj_dt dt_X4_init 19 rfl) ?_
  obtain ⟨c17, h⟩ := mj_ck_some h
  obtain ⟨m18, em18, h⟩ := mj_mw_some h
  refine ml_newI c17 (mj_dt dt_X4_init 20 rfl) ?_
  refine ml_eqm (M1 := m18) (by rw [em18] <;> rfl) ?_
  obtain ⟨c19, h⟩ := mj_ck_some h
  obtain ⟨m20, em20, h⟩ := mj_mw_some h
  refine ml_putR (c := 4) (k := 7) fd_4_7 rfl fl_X4_24 c19 (mj_dt dt_X4_init 21 rfl) ?_
  refine ml_eqm (M1 := m20) (by rw [em20] <;> rfl) ?_
  refine mj_go_aload_n (k := 0) (x := v0) rfl (mj_dt dt_X4_init 22 rfl) ?_
  refine mj_go_bipush (v := 32) rfl (mj_dt dt_X4_init 23 rfl) ?_
  obtain ⟨c21, h⟩ := mj_ck_some h
  obtain ⟨m22, em22, h⟩ := mj_mw_some h
  refine ml_newL c21 (mj_dt dt_X4_init 24 rfl) ?_
  refine ml_eqm (M1 := m22) (by rw [em22] <;> rfl) ?_
  obtain ⟨c23, h⟩ := mj_ck_some h
  obtain ⟨m24, em24, h⟩ := mj_mw_some h
  refine ml_putR (c := 4) (k := 8) fd_4_8 rfl fl_X4_27 c23 (mj_dt dt_X4_init 25 rfl) ?_
  refine ml_eqm (M1 := m24) (by rw [em24] <;> rfl) ?_
  refine mj_go_aload_n (k := 0) (x := v0) rfl (mj_dt dt_X4_init 26 rfl) ?_
  refine mj_go_iconst (v := 0) rfl (mj_dt dt_X4_init 27 rfl) ?_
  obtain ⟨c25, h⟩ := mj_ck_some h
  obtain ⟨m26, em26, h⟩ := mj_mw_some h
  refine ml_putI (c := 4) (k := 9) fd_4_9 rfl fl_X4_31 c25 (mj_dt dt_X4_init 28 rfl) ?_
  refine ml_eqm (M1 := m26) (by rw [em26] <;> rfl) ?_
  refine mj_go_aload_n (k := 0) (x := v0) rfl (mj_dt dt_X4_init 29 rfl) ?_
  refine mj_go_iconst (v := 0) rfl (mj_dt dt_X4_init 30 rfl) ?_
  obtain ⟨c27, h⟩ := mj_ck_some h
  obtain ⟨m28, em28, h⟩ := mj_mw_some h
  refine ml_putI (c := 4) (k := 10) fd_4_10 rfl fl_X4_35 c27 (mj_dt dt_X4_init 31 rfl) ?_
  refine ml_eqm (M1 := m28) (by rw [em28] <;> rfl) ?_
  refine mj_go_aload_n (k := 0) (x := v0) rfl (mj_dt dt_X4_init 32 rfl) ?_
  refine mj_go_iconst (v := 0) rfl (mj_dt dt_X4_init 33 rfl) ?_
  obtain ⟨c29, h⟩ := mj_ck_some h
  obtain ⟨m30, em30, h⟩ := mj_mw_some h
  refine ml_putI (c := 4) (k := 11) fd_4_11 rfl fl_X4_38 c29 (mj_dt dt_X4_init 34 rfl) ?_
  refine ml_eqm (M1 := m30) (by rw [em30] <;> rfl) ?_
  refine mj_go_aload_n (k := 0) (x := v0) rfl (mj_dt dt_X4_init 35 rfl) ?_
  refine mj_go_iconst (v := 0) rfl (mj_dt dt_X4_init 36 rfl) ?_
  obtain ⟨c31, h⟩ := mj_ck_some h
  obtain ⟨m32, em32, h⟩ := mj_mw_some h
  refine ml_putI (c := 4) (k := 12) fd_4_12 rfl fl_X4_41 c31 (mj_dt dt_X4_init 37 rfl) ?_
  refine ml_eqm (M1 := m32) (by rw [em32] <;> rfl) ?_
  refine mj_go_aload_n (k := 0) (x := v0) rfl (mj_dt dt_X4_init 38 rfl) ?_
  refine mj_go_iconst (v := 0) rfl (mj_dt dt_X4_init 39 rfl) ?_
  obtain ⟨c33, h⟩ := mj_ck_some h
  obtain ⟨m34, em34, h⟩ := mj_mw_some h
  refine ml_putI (c := 4) (k := 13) fd_4_13 rfl fl_X4_44 c33 (mj_dt dt_X4_init 40 rfl) ?_
  refine ml_eqm (M1 := m34) (by rw [em34] <;> rfl) ?_
  refine mj_go_aload_n (k := 0) (x := v0) rfl (mj_dt dt_X4_init 41 rfl) ?_
  refine mj_go_aload_n (k := 1) (x := v1) rfl (mj_dt dt_X4_init 42 rfl) ?_
  obtain ⟨c35, h⟩ := mj_ck_some h
  obtain ⟨m36, em36, h⟩ := mj_mw_some h
  refine ml_putR (c := 4) (k := 0) fd_4_0 rfl fl_X4_47 c35 (mj_dt dt_X4_init 43 rfl) ?_
  refine ml_eqm (M1 := m36) (by rw [em36] <;> rfl) ?_
  refine mj_go_aload_n (k := 0) (x := v0) rfl (mj_dt dt_X4_init 44 rfl) ?_
  refine mj_go_aload_n (k := 2) (x := v2) rfl (mj_dt dt_X4_init 45 rfl) ?_
  obtain ⟨c37, h⟩ := mj_ck_some h
  obtain ⟨m38, em38, h⟩ := mj_mw_some h
  refine ml_putR (c := 4) (k := 1) fd_4_1 rfl fl_X4_51 c37 (mj_dt dt_X4_init 46 rfl) ?_
  refine ml_eqm (M1 := m38) (by rw [em38] <;> rfl) ?_
  refine mj_go_aload_n (k := 0) (x := v0) rfl (mj_dt dt_X4_init 47 rfl) ?_
  refine mj_go_aload_n (k := 3) (x := v3) rfl (mj_dt dt_X4_init 48 rfl) ?_
  obtain ⟨c39, h⟩ := mj_ck_some h
  obtain ⟨m40, em40, h⟩ := mj_mw_some h
  refine ml_putR (c := 4) (k := 2) fd_4_2 rfl fl_X4_55 c39 (mj_dt dt_X4_init 49 rfl) ?_
  refine ml_eqm (M1 := m40) (by rw [em40] <;> rfl) ?_
  obtain ⟨c41, h⟩ := mj_ck_some h
  obtain rfl := Option.some.inj h
  exact mj_go_ret (v := none) (of_decide_eq_true c41) (mj_retV (mj_dt dt_X4_init 50 rfl) rfl)
def f_X5_init_I (N : Nat) (v0 : Nat) (v1 : Nat) (m : mj_M) : Option (mj_M) := mj_ck (mj_fc m 7) ( mj_mw (mj_new m) (fun m2 => (f_X7_init_I N (m.1) m2).bind (fun r3 => mj_ck (mj_fo r3 5 v0) ( mj_mw (mj_setR r3 v0 1 (some (m.1))) (fun m5 => mj_ck (mj_fw m5 0 120) ( mj_mw (mj_new m5) (fun m7 => mj_ck (mj_fo m7 5 v0) ( mj_mw (mj_setR m7 v0 2 (some (m5.1))) (fun m9 => mj_ck (mj_fw m9 0 5) ( mj_mw (mj_new m9) (fun m11 => mj_ck (mj_fo m11 5 v0) ( mj_mw (mj_setR m11 v0 3 (some (m9.1))) (fun m13 => mj_ck (mj_fo m13 5 v0) ( mj_mw (mj_setI m13 v0 4 0) (fun m15 => mj_ck (mj_fo m15 5 v0) ( mj_mw (mj_setI m15 v0 5 0) (fun m17 => mj_ck (mj_fo m17 5 v0) ( mj_mw (mj_setI m17 v0 6 0) (fun m19 => mj_ck (mj_fo m19 5 v0) ( mj_mw (mj_setI m19 v0 7 (-1 : Int32)) (fun m21 => mj_ck (mj_fo m21 5 v0) ( mj_mw (mj_setR m21 v0 0 (some v1)) (fun m23 => mj_ck (decide (m23.1 ≤ 9000)) ( some m23))))))))))))))))))))))))
theorem k_X5_init_I {L : Nat} {xs : Nat → Int32} {δ N : Nat} {v0 : Nat} {v1 : Nat} {m : mj_M} (hδ : 2 ≤ δ) {a : mj_M} (h : f_X5_init_I N v0 v1 m = some a) : mj_Cl (mj_EX L xs) δ mY_X5_init [.ref v0, .ref v1] m (none, a) := by
  obtain ⟨δ, rfl⟩ : ∃ d, δ = d + 1 := ⟨δ - 1, by omega⟩
  have hδ : 1 ≤ δ := by omega
  refine mj_cl_of ok_X5_init (Nat.le_of_ble_eq_true rfl) ?_
  unfold f_X5_init_I at h
  refine mj_go_aload_n (k := 0) (x := v0) rfl (mj_dt dt_X5_init 0 rfl) ?_
  refine mj_go_obj hm_X5_3 (Nat.le_of_ble_eq_true rfl) (mj_dt dt_X5_init 1 rfl) ?_
  refine mj_go_aload_n (k := 0) (x := v0) rfl (mj_dt dt_X5_init 2 rfl) ?_
  obtain ⟨c1, h⟩ := mj_ck_some h
  obtain ⟨m2, em2, h⟩ := mj_mw_some h
  refine ml_new (c := 7) (by decide) cw_X5_9 c1 (mj_dt dt_X5_init 3 rfl) ?_
  refine ml_eqm (M1 := m2) (by rw [em2] <;> rfl) ?_
  refine mj_go_dup rfl (mj_dt dt_X5_init 4 rfl) ?_
  obtain ⟨r3, er3, h⟩ := mj_bind_some h
  refine ml_callI (Y' := mY_X7_init) (as := []) (rest := [.ref (m.1), .ref v0]) (M1 := r3) lm_X5_11 wc_X7_init pl_X7_init ok_X7_init rfl rfl rfl rfl (Nat.le_of_ble_eq_true rfl) (k_X7_init_I (by omega) er3) (mj_dt dt_X5_init 5 rfl) ?_
  obtain ⟨c4, h⟩ := mj_ck_some h
  obtain ⟨m5, em5, h⟩ := mj_mw_some h
  refine ml_putR (c := 5) (k := 1) fd_5_1 rfl fl_X5_12 c4 (mj_dt dt_X5_init 6 rfl) ?_
  refine ml_eqm (M1 := m5) (by rw [em5] <;> rfl) ?_
  refine mj_go_aload_n (k := 0) (x := v0) rfl (mj_dt dt_X5_init 7 rfl) ?_
  refine mj_go_bipush (v := 120) rfl (mj_dt dt_X5_init 8 rfl) ?_
  obtain ⟨c6, h⟩ := mj_ck_some h
  obtain ⟨m7, em7, h⟩ := mj_mw_some h
  refine ml_newI c6 (mj_dt dt_X5_init 9 rfl) ?_
  refine ml_eqm (M1 := m7) (by rw [em7] <;> rfl) ?_
  obtain ⟨c8, h⟩ := mj_ck_some h
  obtain ⟨m9, em9, h⟩ := mj_mw_some h
  refine ml_putR (c := 5) (k := 2) fd_5_2 rfl fl_X5_18 c8 (mj_dt dt_X5_init 10 rfl) ?_
  refine ml_eqm (M1 := m9) (by rw [em9] <;> rfl) ?_
  refine mj_go_aload_n (k := 0) (x := v0) rfl (mj_dt dt_X5_init 11 rfl) ?_
  refine mj_go_iconst (v := 5) rfl (mj_dt dt_X5_init 12 rfl) ?_
  obtain ⟨c10, h⟩ := mj_ck_some h
  obtain ⟨m11, em11, h⟩ := mj_mw_some h
  refine ml_newI c10 (mj_dt dt_X5_init 13 rfl) ?_
  refine ml_eqm (M1 := m11) (by rw [em11] <;> rfl) ?_
  obtain ⟨c12, h⟩ := mj_ck_some h
  obtain ⟨m13, em13, h⟩ := mj_mw_some h
  refine ml_putR (c := 5) (k := 3) fd_5_3 rfl fl_X5_22 c12 (mj_dt dt_X5_init 14 rfl) ?_
  refine ml_eqm (M1 := m13) (by rw [em13] <;> rfl) ?_
  refine mj_go_aload_n (k := 0) (x := v0) rfl (mj_dt dt_X5_init 15 rfl) ?_
  refine mj_go_iconst (v := 0) rfl (mj_dt dt_X5_init 16 rfl) ?_
  obtain ⟨c14, h⟩ := mj_ck_some h
  obtain ⟨m15, em15, h⟩ := mj_mw_some h
  refine ml_putI (c := 5) (k := 4) fd_5_4 rfl fl_X5_25 c14 (mj_dt dt_X5_init 17 rfl) ?_
  refine ml_eqm (M1 := m15) (by rw [em15] <;> rfl) ?_
  refine mj_go_aload_n (k := 0) (x := v0) rfl (mj_dt dt_X5_init 18 rfl) ?_
  refine mj_go_iconst (v := 0) rfl (mj_dt dt_X5_init 19 rfl) ?_
  obtain ⟨c16, h⟩ := mj_ck_some h
  obtain ⟨m17, em17, h⟩ := mj_mw_some h
  refine ml_putI (c := 5) (k := 5) fd_5_5 rfl fl_X5_29 c16 (mj_dt dt_X5_init 20 rfl) ?_
  refine ml_eqm (M1 := m17) (by rw [em17] <;> rfl) ?_
  refine mj_go_aload_n (k := 0) (x := v0) rfl (mj_dt dt_X5_init 21 rfl) ?_
  refine mj_go_iconst (v := 0) rfl (mj_dt dt_X5_init 22 rfl) ?_
  obtain ⟨c18, h⟩ := mj_ck_some h
  obtain ⟨m19, em19, h⟩ := mj_mw_some h
  refine ml_putI (c := 5) (k := 6) fd_5_6 rfl fl_X5_32 c18 (mj_dt dt_X5_init 23 rfl) ?_
  refine ml_eqm (M1 := m19) (by rw [em19] <;> rfl) ?_
  refine mj_go_aload_n (k := 0) (x := v0) rfl (mj_dt dt_X5_init 24 rfl) ?_
  refine mj_go_iconst (v := -1) rfl (mj_dt dt_X5_init 25 rfl) ?_
  obtain ⟨c20, h⟩ := mj_ck_some h
  obtain ⟨m21, em21, h⟩ := mj_mw_some h
  refine ml_putI (c := 5) (k := 7) fd_5_7 rfl fl_X5_35 c20 (mj_dt dt_X5_init 26 rfl) ?_
  refine ml_eqm (M1 := m21) (by rw [em21] <;> rfl) ?_
  refine mj_go_aload_n (k := 0) (x := v0) rfl (mj_dt dt_X5_init 27 rfl) ?_
  refine mj_go_aload_n (k := 1) (x := v1) rfl (mj_dt dt_X5_init 28 rfl) ?_
  obtain ⟨c22, h⟩ := mj_ck_some h
  obtain ⟨m23, em23, h⟩ := mj_mw_some h
  refine ml_putR (c := 5) (k := 0) fd_5_0 rfl fl_X5_38 c22 (mj_dt dt_X5_init 29 rfl) ?_
  refine ml_eqm (M1 := m23) (by rw [em23] <;> rfl) ?_
  obtain ⟨c24, h⟩ := mj_ck_some h
  obtain rfl := Option.some.inj h
  exact mj_go_ret (v := none) (of_decide_eq_true c24) (mj_retV (mj_dt dt_X5_init 30 rfl) rfl)
def f_X0_init_I (N : Nat) (v0 : Nat) (m : mj_M) : Option (mj_M) := mj_ck (mj_fw m 0 20) ( mj_mw (mj_new m) (fun m2 => mj_ck (mj_fo m2 0 v0) ( mj_mw (mj_setR m2 v0 0 (some (m.1))) (fun m4 => mj_ck (mj_fo m4 0 v0) ( mj_mw (mj_setI m4 v0 1 0) (fun m6 => mj_ck (mj_fo m6 0 v0) ( mj_mw (mj_setI m6 v0 2 0) (fun m8 => mj_ck (mj_fo m8 0 v0) ( mj_mw (mj_setI m8 v0 3 0) (fun m10 => mj_ck (mj_fo m10 0 v0) ( mj_mw (mj_setI m10 v0 4 0) (fun m12 => mj_ck (decide (m12.1 ≤ 9000)) ( some m12)))))))))))))
theorem k_X0_init_I {L : Nat} {xs : Nat → Int32} {δ N : Nat} {v0 : Nat} {m : mj_M} (_ : 0 ≤ δ) {a : mj_M} (h : f_X0_init_I N v0 m = some a) : mj_Cl (mj_EX L xs) δ mY_X0_init [.ref v0] m (none, a) := by
  refine mj_cl_of ok_X0_init (Nat.le_of_ble_eq_true rfl) ?_
  unfold f_X0_init_I at h
  refine mj_go_aload_n (k := 0) (x := v0) rfl (mj_dt dt_X0_init 0 rfl) ?_
  refine mj_go_obj hm_X0_3 (Nat.le_of_ble_eq_true rfl) (mj_dt dt_X0_init 1 rfl) ?_
  refine mj_go_aload_n (k := 0) (x := v0) rfl (mj_dt dt_X0_init 2 rfl) ?_
  refine mj_go_bipush (v := 20) rfl (mj_dt dt_X0_init 3 rfl) ?_
  obtain ⟨c1, h⟩ := mj_ck_some h
  obtain ⟨m2, em2, h⟩ := mj_mw_some h
  refine ml_newI c1 (mj_dt dt_X0_init 4 rfl) ?_
  refine ml_eqm (M1 := m2) (by rw [em2] <;> rfl) ?_
  obtain ⟨c3, h⟩ := mj_ck_some h
  obtain ⟨m4, em4, h⟩ := mj_mw_some h
  refine ml_putR (c := 0) (k := 0) fd_0_0 rfl fl_X0_11 c3 (mj_dt dt_X0_init 5 rfl) ?_
  refine ml_eqm (M1 := m4) (by rw [em4] <;> rfl) ?_
  refine mj_go_aload_n (k := 0) (x := v0) rfl (mj_dt dt_X0_init 6 rfl) ?_
  refine mj_go_iconst (v := 0) rfl (mj_dt dt_X0_init 7 rfl) ?_
  obtain ⟨c5, h⟩ := mj_ck_some h
  obtain ⟨m6, em6, h⟩ := mj_mw_some h
  refine ml_putI (c := 0) (k := 1) fd_0_1 rfl fl_X0_15 c5 (mj_dt dt_X0_init 8 rfl) ?_
  refine ml_eqm (M1 := m6) (by rw [em6] <;> rfl) ?_
  refine mj_go_aload_n (k := 0) (x := v0) rfl (mj_dt dt_X0_init 9 rfl) ?_
  refine mj_go_iconst (v := 0) rfl (mj_dt dt_X0_init 10 rfl) ?_
  obtain ⟨c7, h⟩ := mj_ck_some h
  obtain ⟨m8, em8, h⟩ := mj_mw_some h
  refine ml_putI (c := 0) (k := 2) fd_0_2 rfl fl_X0_19 c7 (mj_dt dt_X0_init 11 rfl) ?_
  refine ml_eqm (M1 := m8) (by rw [em8] <;> rfl) ?_
  refine mj_go_aload_n (k := 0) (x := v0) rfl (mj_dt dt_X0_init 12 rfl) ?_
  refine mj_go_iconst (v := 0) rfl (mj_dt dt_X0_init 13 rfl) ?_
  obtain ⟨c9, h⟩ := mj_ck_some h
  obtain ⟨m10, em10, h⟩ := mj_mw_some h
  refine ml_putI (c := 0) (k := 3) fd_0_3 rfl fl_X0_22 c9 (mj_dt dt_X0_init 14 rfl) ?_
  refine ml_eqm (M1 := m10) (by rw [em10] <;> rfl) ?_
  refine mj_go_aload_n (k := 0) (x := v0) rfl (mj_dt dt_X0_init 15 rfl) ?_
  refine mj_go_iconst (v := 0) rfl (mj_dt dt_X0_init 16 rfl) ?_
  obtain ⟨c11, h⟩ := mj_ck_some h
  obtain ⟨m12, em12, h⟩ := mj_mw_some h
  refine ml_putI (c := 0) (k := 4) fd_0_4 rfl fl_X0_25 c11 (mj_dt dt_X0_init 17 rfl) ?_
  refine ml_eqm (M1 := m12) (by rw [em12] <;> rfl) ?_
  obtain ⟨c13, h⟩ := mj_ck_some h
  obtain rfl := Option.some.inj h
  exact mj_go_ret (v := none) (of_decide_eq_true c13) (mj_retV (mj_dt dt_X0_init 18 rfl) rfl)
def f_X6_init_I (N : Nat) (v0 : Nat) (m : mj_M) : Option (mj_M) := mj_ck (mj_fw m 1 120) ( mj_mw (mj_new m) (fun m2 => mj_ck (mj_fo m2 6 v0) ( mj_mw (mj_setR m2 v0 0 (some (m.1))) (fun m4 => mj_ck (mj_fo m4 6 v0) ( mj_mw (mj_setI m4 v0 1 (-1 : Int32)) (fun m6 => mj_ck (mj_fo m6 6 v0) ( mj_mw (mj_setI m6 v0 2 0) (fun m8 => mj_ck (mj_fo m8 6 v0) ( mj_mw (mj_setI m8 v0 3 0) (fun m10 => mj_ck (decide (m10.1 ≤ 9000)) ( some m10)))))))))))
theorem k_X6_init_I {L : Nat} {xs : Nat → Int32} {δ N : Nat} {v0 : Nat} {m : mj_M} (_ : 0 ≤ δ) {a : mj_M} (h : f_X6_init_I N v0 m = some a) : mj_Cl (mj_EX L xs) δ mY_X6_init [.ref v0] m (none, a) := by
  refine mj_cl_of ok_X6_init (Nat.le_of_ble_eq_true rfl) ?_
  unfold f_X6_init_I at h
  refine mj_go_aload_n (k := 0) (x := v0) rfl (mj_dt dt_X6_init 0 rfl) ?_
  refine mj_go_obj hm_X6_3 (Nat.le_of_ble_eq_true rfl) (mj_dt dt_X6_init 1 rfl) ?_
  refine mj_go_aload_n (k := 0) (x := v0) rfl (mj_dt dt_X6_init 2 rfl) ?_
  refine mj_go_bipush (v := 120) rfl (mj_dt dt_X6_init 3 rfl) ?_
  obtain ⟨c1, h⟩ := mj_ck_some h
  obtain ⟨m2, em2, h⟩ := mj_mw_some h
  refine ml_newL c1 (mj_dt dt_X6_init 4 rfl) ?_
  refine ml_eqm (M1 := m2) (by rw [em2] <;> rfl) ?_
  obtain ⟨c3, h⟩ := mj_ck_some h
  obtain ⟨m4, em4, h⟩ := mj_mw_some h
  refine ml_putR (c := 6) (k := 0) fd_6_0 rfl fl_X6_9 c3 (mj_dt dt_X6_init 5 rfl) ?_
  refine ml_eqm (M1 := m4) (by rw [em4] <;> rfl) ?_
  refine mj_go_aload_n (k := 0) (x := v0) rfl (mj_dt dt_X6_init 6 rfl) ?_
  refine mj_go_iconst (v := -1) rfl (mj_dt dt_X6_init 7 rfl) ?_
  obtain ⟨c5, h⟩ := mj_ck_some h
  obtain ⟨m6, em6, h⟩ := mj_mw_some h
  refine ml_putI (c := 6) (k := 1) fd_6_1 rfl fl_X6_15 c5 (mj_dt dt_X6_init 8 rfl) ?_
  refine ml_eqm (M1 := m6) (by rw [em6] <;> rfl) ?_
  refine mj_go_aload_n (k := 0) (x := v0) rfl (mj_dt dt_X6_init 9 rfl) ?_
  refine mj_go_iconst (v := 0) rfl (mj_dt dt_X6_init 10 rfl) ?_
  obtain ⟨c7, h⟩ := mj_ck_some h
  obtain ⟨m8, em8, h⟩ := mj_mw_some h
  refine ml_putI (c := 6) (k := 2) fd_6_2 rfl fl_X6_19 c7 (mj_dt dt_X6_init 11 rfl) ?_
  refine ml_eqm (M1 := m8) (by rw [em8] <;> rfl) ?_
  refine mj_go_aload_n (k := 0) (x := v0) rfl (mj_dt dt_X6_init 12 rfl) ?_
  refine mj_go_iconst (v := 0) rfl (mj_dt dt_X6_init 13 rfl) ?_
  obtain ⟨c9, h⟩ := mj_ck_some h
  obtain ⟨m10, em10, h⟩ := mj_mw_some h
  refine ml_putI (c := 6) (k := 3) fd_6_3 rfl fl_X6_22 c9 (mj_dt dt_X6_init 14 rfl) ?_
  refine ml_eqm (M1 := m10) (by rw [em10] <;> rfl) ?_
  obtain ⟨c11, h⟩ := mj_ck_some h
  obtain rfl := Option.some.inj h
  exact mj_go_ret (v := none) (of_decide_eq_true c11) (mj_retV (mj_dt dt_X6_init 15 rfl) rfl)
def f_X8_init_I_146 (N : Nat) (v0 : Nat) (k_146 : Int32 × mj_M → Option (mj_M)) (s : Int32 × mj_M) : Option (mj_M) := if 8 ≤ s.1 then (mj_ck (decide (s.2.1 ≤ 9000)) ( some s.2)) else (mj_ck (mj_fo s.2 8 v0) ( (s.2.2.1 v0 2).bind (fun q3 => mj_ck (mj_fc s.2 6) ( mj_mw (mj_new s.2) (fun m5 => (f_X6_init_I N (s.2.1) m5).bind (fun r6 => mj_ck (mj_fb r6 3 q3 s.1) ( mj_ck (mj_fo r6 6 (s.2.1)) ( mj_mw (mj_setR r6 q3 (s.1.toNatClampNeg) (some (s.2.1))) (fun m9 => mj_mw (s.1 + 1) (fun x10 => k_146 (x10, m9)))))))))))
theorem k_X8_init_I_146 {L : Nat} {xs : Nat → Int32} {δ N : Nat} {v0 : Nat} (hδ : 2 ≤ δ) : ∀ (n : Nat) (s : Int32 × mj_M) (a : mj_M), mj_lp n (f_X8_init_I_146 N v0) s = some a → mj_Go (mj_EX L xs) (δ + 1) mY_X8_init 146 [(0, .ref v0), (1, .int s.1)] [] s.2 (none, a) := by
  refine mj_lp_sound (fun k_146 s a q_146 h => ?_)
  unfold f_X8_init_I_146 at h
  refine mj_go_iload_n (k := 1) (x := s.1) rfl (mj_dt dt_X8_init 71 rfl) ?_
  refine mj_go_bipush (v := 8) rfl (mj_dt dt_X8_init 72 rfl) ?_
  refine mj_go_icmp_ge (tgt := 171) rfl (mj_dt dt_X8_init 73 rfl) (fun b1 => ?_) (fun b1 => ?_)
  · rw [if_pos b1] at h
    obtain ⟨c2, h⟩ := mj_ck_some h
    obtain rfl := Option.some.inj h
    exact mj_go_ret (v := none) (of_decide_eq_true c2) (mj_retV (mj_dt dt_X8_init 83 rfl) rfl)
  · rw [if_neg b1] at h
    refine mj_go_aload_n (k := 0) (x := v0) rfl (mj_dt dt_X8_init 74 rfl) ?_
    obtain ⟨c2, h⟩ := mj_ck_some h
    obtain ⟨q3, eq3, h⟩ := mj_bind_some h
    refine ml_getR (c := 8) (k := 2) (q := q3) fd_8_2 eq3 (Or.inl fl_X8_21) c2 (mj_dt dt_X8_init 75 rfl) ?_
    refine mj_go_iload_n (k := 1) (x := s.1) rfl (mj_dt dt_X8_init 76 rfl) ?_
    obtain ⟨c4, h⟩ := mj_ck_some h
    obtain ⟨m5, em5, h⟩ := mj_mw_some h
    refine ml_new (c := 6) (by decide) cw_X8_19 c4 (mj_dt dt_X8_init 77 rfl) ?_
    refine ml_eqm (M1 := m5) (by rw [em5] <;> rfl) ?_
    refine mj_go_dup rfl (mj_dt dt_X8_init 78 rfl) ?_
    obtain ⟨r6, er6, h⟩ := mj_bind_some h
    refine ml_callIN (Y' := mY_X6_init) (as := []) (rest := [.ref (s.2.1), .int s.1, .ref q3]) (M1 := r6) lm_X8_81 wc_X6_init pl_X6_init ok_X6_init rfl rfl rfl rfl (Nat.le_of_ble_eq_true rfl) (k_X6_init_I (by omega) er6) (mj_dt dt_X8_init 79 rfl) ?_
    obtain ⟨c7, h⟩ := mj_ck_some h
    obtain ⟨c8, h⟩ := mj_ck_some h
    obtain ⟨m9, em9, h⟩ := mj_mw_some h
    refine ml_aast3 c7 c8 (mj_dt dt_X8_init 80 rfl) ?_
    refine ml_eqm (M1 := m9) (by rw [em9] <;> rfl) ?_
    obtain ⟨x10, ex10, h⟩ := mj_mw_some h
    refine mj_go_iinc (i := 1) (x := s.1) (v := x10) rfl (by rw [ex10] <;> rfl) (by decide) (mj_dt dt_X8_init 81 rfl) ?_
    refine mj_go_goto (tgt := 146) rfl (mj_dt dt_X8_init 82 rfl) ?_
    refine mj_go_sub (lv' := [(0, .ref v0), (1, .int x10)]) (List.forall_mem_cons.mpr ⟨rfl, (List.forall_mem_cons.mpr ⟨rfl, (fun _ h9 => absurd h9 List.not_mem_nil)⟩)⟩) ?_
    exact q_146 _ _ h
def f_X8_init_I (N : Nat) (v0 : Nat) (m : mj_M) : Option (mj_M) := mj_ck (mj_fc m 7) ( mj_mw (mj_new m) (fun m2 => (f_X7_init_I N (m.1) m2).bind (fun r3 => mj_ck (mj_fo r3 8 v0) ( mj_mw (mj_setR r3 v0 0 (some (m.1))) (fun m5 => mj_ck (mj_fc m5 7) ( mj_mw (mj_new m5) (fun m7 => (f_X7_init_I N (m5.1) m7).bind (fun r8 => mj_ck (mj_fo r8 8 v0) ( mj_mw (mj_setR r8 v0 1 (some (m5.1))) (fun m10 => mj_ck (mj_fw m10 3 8) ( mj_mw (mj_new m10) (fun m12 => mj_ck (mj_fo m12 8 v0) ( mj_mw (mj_setR m12 v0 2 (some (m10.1))) (fun m14 => mj_ck (mj_fc m14 2) ( mj_mw (mj_new m14) (fun m16 => mj_ck (mj_fo m16 8 v0) ( (m16.2.1 v0 0).bind (fun q18 => (f_X2_init_I N (m14.1) q18 m16).bind (fun r19 => mj_ck (mj_fo r19 8 v0) ( mj_mw (mj_setR r19 v0 3 (some (m14.1))) (fun m21 => mj_ck (mj_fc m21 3) ( mj_mw (mj_new m21) (fun m23 => mj_ck (mj_fo m23 8 v0) ( (m23.2.1 v0 0).bind (fun q25 => (m23.2.1 v0 3).bind (fun q26 => (f_X3_init_I N (m21.1) q25 q26 m23).bind (fun r27 => mj_ck (mj_fo r27 8 v0) ( mj_mw (mj_setR r27 v0 4 (some (m21.1))) (fun m29 => mj_ck (mj_fc m29 4) ( mj_mw (mj_new m29) (fun m31 => mj_ck (mj_fo m31 8 v0) ( (m31.2.1 v0 0).bind (fun q33 => (m31.2.1 v0 3).bind (fun q34 => (m31.2.1 v0 4).bind (fun q35 => (f_X4_init_I N (m29.1) q33 q34 q35 m31).bind (fun r36 => mj_ck (mj_fo r36 8 v0) ( mj_mw (mj_setR r36 v0 5 (some (m29.1))) (fun m38 => mj_ck (mj_fc m38 5) ( mj_mw (mj_new m38) (fun m40 => mj_ck (mj_fo m40 8 v0) ( (m40.2.1 v0 0).bind (fun q42 => (f_X5_init_I N (m38.1) q42 m40).bind (fun r43 => mj_ck (mj_fo r43 8 v0) ( mj_mw (mj_setR r43 v0 6 (some (m38.1))) (fun m45 => mj_ck (mj_fc m45 0) ( mj_mw (mj_new m45) (fun m47 => (f_X0_init_I N (m45.1) m47).bind (fun r48 => mj_ck (mj_fo r48 8 v0) ( mj_mw (mj_setR r48 v0 7 (some (m45.1))) (fun m50 => mj_ck (mj_fw m50 0 8) ( mj_mw (mj_new m50) (fun m52 => mj_ck (mj_fo m52 8 v0) ( mj_mw (mj_setR m52 v0 8 (some (m50.1))) (fun m54 => mj_ck (mj_fw m54 0 10) ( mj_mw (mj_new m54) (fun m56 => mj_ck (mj_fo m56 8 v0) ( mj_mw (mj_setR m56 v0 9 (some (m54.1))) (fun m58 => mj_ck (mj_fo m58 8 v0) ( mj_mw (mj_setI m58 v0 10 0) (fun m60 => mj_ck (mj_fo m60 8 v0) ( mj_mw (mj_setI m60 v0 11 (-1 : Int32)) (fun m62 => mj_lp N (f_X8_init_I_146 N v0) (0, m62)))))))))))))))))))))))))))))))))))))))))))))))))))))))))))))))
theorem k_X8_init_I {L : Nat} {xs : Nat → Int32} {δ N : Nat} {v0 : Nat} {m : mj_M} (hδ : 3 ≤ δ) {a : mj_M} (h : f_X8_init_I N v0 m = some a) : mj_Cl (mj_EX L xs) δ mY_X8_init [.ref v0] m (none, a) := by
  obtain ⟨δ, rfl⟩ : ∃ d, δ = d + 1 := ⟨δ - 1, by omega⟩
  have hδ : 2 ≤ δ := by omega
  refine mj_cl_of ok_X8_init (Nat.le_of_ble_eq_true rfl) ?_
  unfold f_X8_init_I at h
  refine mj_go_aload_n (k := 0) (x := v0) rfl (mj_dt dt_X8_init 0 rfl) ?_
  refine mj_go_obj hm_X8_3 (Nat.le_of_ble_eq_true rfl) (mj_dt dt_X8_init 1 rfl) ?_
  refine mj_go_aload_n (k := 0) (x := v0) rfl (mj_dt dt_X8_init 2 rfl) ?_
  obtain ⟨c1, h⟩ := mj_ck_some h
  obtain ⟨m2, em2, h⟩ := mj_mw_some h
  refine ml_new (c := 7) (by decide) cw_X8_9 c1 (mj_dt dt_X8_init 3 rfl) ?_
  refine ml_eqm (M1 := m2) (by rw [em2] <;> rfl) ?_
  refine mj_go_dup rfl (mj_dt dt_X8_init 4 rfl) ?_
  obtain ⟨r3, er3, h⟩ := mj_bind_some h
  refine ml_callI (Y' := mY_X7_init) (as := []) (rest := [.ref (m.1), .ref v0]) (M1 := r3) lm_X8_11 wc_X7_init pl_X7_init ok_X7_init rfl rfl rfl rfl (Nat.le_of_ble_eq_true rfl) (k_X7_init_I (by omega) er3) (mj_dt dt_X8_init 5 rfl) ?_
  obtain ⟨c4, h⟩ := mj_ck_some h
  obtain ⟨m5, em5, h⟩ := mj_mw_some h
  refine ml_putR (c := 8) (k := 0) fd_8_0 rfl fl_X8_12 c4 (mj_dt dt_X8_init 6 rfl) ?_
  refine ml_eqm (M1 := m5) (by rw [em5] <;> rfl) ?_
  refine mj_go_aload_n (k := 0) (x := v0) rfl (mj_dt dt_X8_init 7 rfl) ?_
  obtain ⟨c6, h⟩ := mj_ck_some h
  obtain ⟨m7, em7, h⟩ := mj_mw_some h
  refine ml_new (c := 7) (by decide) cw_X8_9 c6 (mj_dt dt_X8_init 8 rfl) ?_
  refine ml_eqm (M1 := m7) (by rw [em7] <;> rfl) ?_
  refine mj_go_dup rfl (mj_dt dt_X8_init 9 rfl) ?_
  obtain ⟨r8, er8, h⟩ := mj_bind_some h
  refine ml_callI (Y' := mY_X7_init) (as := []) (rest := [.ref (m5.1), .ref v0]) (M1 := r8) lm_X8_11 wc_X7_init pl_X7_init ok_X7_init rfl rfl rfl rfl (Nat.le_of_ble_eq_true rfl) (k_X7_init_I (by omega) er8) (mj_dt dt_X8_init 10 rfl) ?_
  obtain ⟨c9, h⟩ := mj_ck_some h
  obtain ⟨m10, em10, h⟩ := mj_mw_some h
  refine ml_putR (c := 8) (k := 1) fd_8_1 rfl fl_X8_16 c9 (mj_dt dt_X8_init 11 rfl) ?_
  refine ml_eqm (M1 := m10) (by rw [em10] <;> rfl) ?_
  refine mj_go_aload_n (k := 0) (x := v0) rfl (mj_dt dt_X8_init 12 rfl) ?_
  refine mj_go_bipush (v := 8) rfl (mj_dt dt_X8_init 13 rfl) ?_
  obtain ⟨c11, h⟩ := mj_ck_some h
  obtain ⟨m12, em12, h⟩ := mj_mw_some h
  refine ml_anew (k := 3) (c := 6) (by decide) cw_X8_19 c11 (mj_dt dt_X8_init 14 rfl) ?_
  refine ml_eqm (M1 := m12) (by rw [em12] <;> rfl) ?_
  obtain ⟨c13, h⟩ := mj_ck_some h
  obtain ⟨m14, em14, h⟩ := mj_mw_some h
  refine ml_putR (c := 8) (k := 2) fd_8_2 rfl fl_X8_21 c13 (mj_dt dt_X8_init 15 rfl) ?_
  refine ml_eqm (M1 := m14) (by rw [em14] <;> rfl) ?_
  refine mj_go_aload_n (k := 0) (x := v0) rfl (mj_dt dt_X8_init 16 rfl) ?_
  obtain ⟨c15, h⟩ := mj_ck_some h
  obtain ⟨m16, em16, h⟩ := mj_mw_some h
  refine ml_new (c := 2) (by decide) cw_X8_25 c15 (mj_dt dt_X8_init 17 rfl) ?_
  refine ml_eqm (M1 := m16) (by rw [em16] <;> rfl) ?_
  refine mj_go_dup rfl (mj_dt dt_X8_init 18 rfl) ?_
  refine mj_go_aload_n (k := 0) (x := v0) rfl (mj_dt dt_X8_init 19 rfl) ?_
  obtain ⟨c17, h⟩ := mj_ck_some h
  obtain ⟨q18, eq18, h⟩ := mj_bind_some h
  refine ml_getR (c := 8) (k := 0) (q := q18) fd_8_0 eq18 (Or.inl fl_X8_12) c17 (mj_dt dt_X8_init 20 rfl) ?_
  obtain ⟨r19, er19, h⟩ := mj_bind_some h
  refine ml_callI (Y' := mY_X2_init) (as := [.ref q18]) (rest := [.ref (m14.1), .ref v0]) (M1 := r19) lm_X8_27 wc_X2_init pl_X2_init ok_X2_init rfl rfl rfl rfl (Nat.le_of_ble_eq_true rfl) (k_X2_init_I (by omega) er19) (mj_dt dt_X8_init 21 rfl) ?_
  obtain ⟨c20, h⟩ := mj_ck_some h
  obtain ⟨m21, em21, h⟩ := mj_mw_some h
  refine ml_putR (c := 8) (k := 3) fd_8_3 rfl fl_X8_30 c20 (mj_dt dt_X8_init 22 rfl) ?_
  refine ml_eqm (M1 := m21) (by rw [em21] <;> rfl) ?_
  refine mj_go_aload_n (k := 0) (x := v0) rfl (mj_dt dt_X8_init 23 rfl) ?_
  obtain ⟨c22, h⟩ := mj_ck_some h
  obtain ⟨m23, em23, h⟩ := mj_mw_some h
  refine ml_new (c := 3) (by decide) cw_X8_34 c22 (mj_dt dt_X8_init 24 rfl) ?_
  refine ml_eqm (M1 := m23) (by rw [em23] <;> rfl) ?_
  refine mj_go_dup rfl (mj_dt dt_X8_init 25 rfl) ?_
  refine mj_go_aload_n (k := 0) (x := v0) rfl (mj_dt dt_X8_init 26 rfl) ?_
  obtain ⟨c24, h⟩ := mj_ck_some h
  obtain ⟨q25, eq25, h⟩ := mj_bind_some h
  refine ml_getR (c := 8) (k := 0) (q := q25) fd_8_0 eq25 (Or.inl fl_X8_12) c24 (mj_dt dt_X8_init 27 rfl) ?_
  refine mj_go_aload_n (k := 0) (x := v0) rfl (mj_dt dt_X8_init 28 rfl) ?_
  obtain ⟨q26, eq26, h⟩ := mj_bind_some h
  refine ml_getR (c := 8) (k := 3) (q := q26) fd_8_3 eq26 (Or.inl fl_X8_30) c24 (mj_dt dt_X8_init 29 rfl) ?_
  obtain ⟨r27, er27, h⟩ := mj_bind_some h
  refine ml_callI (Y' := mY_X3_init) (as := [.ref q25, .ref q26]) (rest := [.ref (m21.1), .ref v0]) (M1 := r27) lm_X8_36 wc_X3_init pl_X3_init ok_X3_init rfl rfl rfl rfl (Nat.le_of_ble_eq_true rfl) (k_X3_init_I (by omega) er27) (mj_dt dt_X8_init 30 rfl) ?_
  obtain ⟨c28, h⟩ := mj_ck_some h
  obtain ⟨m29, em29, h⟩ := mj_mw_some h
  refine ml_putR (c := 8) (k := 4) fd_8_4 rfl fl_X8_39 c28 (mj_dt dt_X8_init 31 rfl) ?_
  refine ml_eqm (M1 := m29) (by rw [em29] <;> rfl) ?_
  refine mj_go_aload_n (k := 0) (x := v0) rfl (mj_dt dt_X8_init 32 rfl) ?_
  obtain ⟨c30, h⟩ := mj_ck_some h
  obtain ⟨m31, em31, h⟩ := mj_mw_some h
  refine ml_new (c := 4) (by decide) cw_X8_43 c30 (mj_dt dt_X8_init 33 rfl) ?_
  refine ml_eqm (M1 := m31) (by rw [em31] <;> rfl) ?_
  refine mj_go_dup rfl (mj_dt dt_X8_init 34 rfl) ?_
  refine mj_go_aload_n (k := 0) (x := v0) rfl (mj_dt dt_X8_init 35 rfl) ?_
  obtain ⟨c32, h⟩ := mj_ck_some h
  obtain ⟨q33, eq33, h⟩ := mj_bind_some h
  refine ml_getR (c := 8) (k := 0) (q := q33) fd_8_0 eq33 (Or.inl fl_X8_12) c32 (mj_dt dt_X8_init 36 rfl) ?_
  refine mj_go_aload_n (k := 0) (x := v0) rfl (mj_dt dt_X8_init 37 rfl) ?_
  obtain ⟨q34, eq34, h⟩ := mj_bind_some h
  refine ml_getR (c := 8) (k := 3) (q := q34) fd_8_3 eq34 (Or.inl fl_X8_30) c32 (mj_dt dt_X8_init 38 rfl) ?_
  refine mj_go_aload_n (k := 0) (x := v0) rfl (mj_dt dt_X8_init 39 rfl) ?_
  obtain ⟨q35, eq35, h⟩ := mj_bind_some h
  refine ml_getR (c := 8) (k := 4) (q := q35) fd_8_4 eq35 (Or.inl fl_X8_39) c32 (mj_dt dt_X8_init 40 rfl) ?_
  obtain ⟨r36, er36, h⟩ := mj_bind_some h
  refine ml_callI (Y' := mY_X4_init) (as := [.ref q33, .ref q34, .ref q35]) (rest := [.ref (m29.1), .ref v0]) (M1 := r36) lm_X8_45 wc_X4_init pl_X4_init ok_X4_init rfl rfl rfl rfl (Nat.le_of_ble_eq_true rfl) (k_X4_init_I (by omega) er36) (mj_dt dt_X8_init 41 rfl) ?_
  obtain ⟨c37, h⟩ := mj_ck_some h
  obtain ⟨m38, em38, h⟩ := mj_mw_some h
  refine ml_putR (c := 8) (k := 5) fd_8_5 rfl fl_X8_48 c37 (mj_dt dt_X8_init 42 rfl) ?_
  refine ml_eqm (M1 := m38) (by rw [em38] <;> rfl) ?_
  refine mj_go_aload_n (k := 0) (x := v0) rfl (mj_dt dt_X8_init 43 rfl) ?_
  obtain ⟨c39, h⟩ := mj_ck_some h
  obtain ⟨m40, em40, h⟩ := mj_mw_some h
  refine ml_new (c := 5) (by decide) cw_X8_52 c39 (mj_dt dt_X8_init 44 rfl) ?_
  refine ml_eqm (M1 := m40) (by rw [em40] <;> rfl) ?_
  refine mj_go_dup rfl (mj_dt dt_X8_init 45 rfl) ?_
  refine mj_go_aload_n (k := 0) (x := v0) rfl (mj_dt dt_X8_init 46 rfl) ?_
  obtain ⟨c41, h⟩ := mj_ck_some h
  obtain ⟨q42, eq42, h⟩ := mj_bind_some h
  refine ml_getR (c := 8) (k := 0) (q := q42) fd_8_0 eq42 (Or.inl fl_X8_12) c41 (mj_dt dt_X8_init 47 rfl) ?_
  obtain ⟨r43, er43, h⟩ := mj_bind_some h
  refine ml_callI (Y' := mY_X5_init) (as := [.ref q42]) (rest := [.ref (m38.1), .ref v0]) (M1 := r43) lm_X8_54 wc_X5_init pl_X5_init ok_X5_init rfl rfl rfl rfl (Nat.le_of_ble_eq_true rfl) (k_X5_init_I (by omega) er43) (mj_dt dt_X8_init 48 rfl) ?_
  obtain ⟨c44, h⟩ := mj_ck_some h
  obtain ⟨m45, em45, h⟩ := mj_mw_some h
  refine ml_putR (c := 8) (k := 6) fd_8_6 rfl fl_X8_55 c44 (mj_dt dt_X8_init 49 rfl) ?_
  refine ml_eqm (M1 := m45) (by rw [em45] <;> rfl) ?_
  refine mj_go_aload_n (k := 0) (x := v0) rfl (mj_dt dt_X8_init 50 rfl) ?_
  obtain ⟨c46, h⟩ := mj_ck_some h
  obtain ⟨m47, em47, h⟩ := mj_mw_some h
  refine ml_new (c := 0) (by decide) cw_X8_59 c46 (mj_dt dt_X8_init 51 rfl) ?_
  refine ml_eqm (M1 := m47) (by rw [em47] <;> rfl) ?_
  refine mj_go_dup rfl (mj_dt dt_X8_init 52 rfl) ?_
  obtain ⟨r48, er48, h⟩ := mj_bind_some h
  refine ml_callIN (Y' := mY_X0_init) (as := []) (rest := [.ref (m45.1), .ref v0]) (M1 := r48) lm_X8_61 wc_X0_init pl_X0_init ok_X0_init rfl rfl rfl rfl (Nat.le_of_ble_eq_true rfl) (k_X0_init_I (by omega) er48) (mj_dt dt_X8_init 53 rfl) ?_
  obtain ⟨c49, h⟩ := mj_ck_some h
  obtain ⟨m50, em50, h⟩ := mj_mw_some h
  refine ml_putR (c := 8) (k := 7) fd_8_7 rfl fl_X8_62 c49 (mj_dt dt_X8_init 54 rfl) ?_
  refine ml_eqm (M1 := m50) (by rw [em50] <;> rfl) ?_
  refine mj_go_aload_n (k := 0) (x := v0) rfl (mj_dt dt_X8_init 55 rfl) ?_
  refine mj_go_bipush (v := 8) rfl (mj_dt dt_X8_init 56 rfl) ?_
  obtain ⟨c51, h⟩ := mj_ck_some h
  obtain ⟨m52, em52, h⟩ := mj_mw_some h
  refine ml_newI c51 (mj_dt dt_X8_init 57 rfl) ?_
  refine ml_eqm (M1 := m52) (by rw [em52] <;> rfl) ?_
  obtain ⟨c53, h⟩ := mj_ck_some h
  obtain ⟨m54, em54, h⟩ := mj_mw_some h
  refine ml_putR (c := 8) (k := 8) fd_8_8 rfl fl_X8_66 c53 (mj_dt dt_X8_init 58 rfl) ?_
  refine ml_eqm (M1 := m54) (by rw [em54] <;> rfl) ?_
  refine mj_go_aload_n (k := 0) (x := v0) rfl (mj_dt dt_X8_init 59 rfl) ?_
  refine mj_go_bipush (v := 10) rfl (mj_dt dt_X8_init 60 rfl) ?_
  obtain ⟨c55, h⟩ := mj_ck_some h
  obtain ⟨m56, em56, h⟩ := mj_mw_some h
  refine ml_newI c55 (mj_dt dt_X8_init 61 rfl) ?_
  refine ml_eqm (M1 := m56) (by rw [em56] <;> rfl) ?_
  obtain ⟨c57, h⟩ := mj_ck_some h
  obtain ⟨m58, em58, h⟩ := mj_mw_some h
  refine ml_putR (c := 8) (k := 9) fd_8_9 rfl fl_X8_70 c57 (mj_dt dt_X8_init 62 rfl) ?_
  refine ml_eqm (M1 := m58) (by rw [em58] <;> rfl) ?_
  refine mj_go_aload_n (k := 0) (x := v0) rfl (mj_dt dt_X8_init 63 rfl) ?_
  refine mj_go_iconst (v := 0) rfl (mj_dt dt_X8_init 64 rfl) ?_
  obtain ⟨c59, h⟩ := mj_ck_some h
  obtain ⟨m60, em60, h⟩ := mj_mw_some h
  refine ml_putZ (c := 8) (k := 10) rfl fd_8_10 rfl fl_X8_73 c59 (mj_dt dt_X8_init 65 rfl) ?_
  refine ml_eqm (M1 := m60) (by rw [em60] <;> rfl) ?_
  refine mj_go_aload_n (k := 0) (x := v0) rfl (mj_dt dt_X8_init 66 rfl) ?_
  refine mj_go_iconst (v := -1) rfl (mj_dt dt_X8_init 67 rfl) ?_
  obtain ⟨c61, h⟩ := mj_ck_some h
  obtain ⟨m62, em62, h⟩ := mj_mw_some h
  refine ml_putI (c := 8) (k := 11) fd_8_11 rfl fl_X8_77 c61 (mj_dt dt_X8_init 68 rfl) ?_
  refine ml_eqm (M1 := m62) (by rw [em62] <;> rfl) ?_
  refine mj_go_iconst (v := 0) rfl (mj_dt dt_X8_init 69 rfl) ?_
  refine mj_go_istore_n (k := 1) (by decide) (mj_dt dt_X8_init 70 rfl) ?_
  refine mj_go_sub (lv' := [(0, .ref v0), (1, .int 0)]) (List.forall_mem_cons.mpr ⟨rfl, (List.forall_mem_cons.mpr ⟨rfl, (fun _ h9 => absurd h9 List.not_mem_nil)⟩)⟩) ?_
  exact k_X8_init_I_146 hδ N _ _ h
def f_X9_init_I_608 (N : Nat) (v0 : Nat) (m : mj_M) : Option (mj_M) := mj_ck (mj_fw m 0 10) ( mj_mw (mj_new m) (fun m2 => mj_ck (mj_fo m2 9 v0) ( mj_mw (mj_setR m2 v0 50 (some (m.1))) (fun m4 => mj_ck (mj_fw m4 0 20) ( mj_mw (mj_new m4) (fun m6 => mj_ck (mj_fo m6 9 v0) ( mj_mw (mj_setR m6 v0 53 (some (m4.1))) (fun m8 => mj_ck (decide (m8.1 ≤ 9000)) ( some m8)))))))))
theorem k_X9_init_I_608 {L : Nat} {xs : Nat → Int32} {δ N : Nat} {v0 : Nat} {m : mj_M} {a : mj_M} (h : f_X9_init_I_608 N v0 m = some a) : mj_Go (mj_EX L xs) δ mY_X9_init 608 [(0, .ref v0)] [] m (none, a) := by
  unfold f_X9_init_I_608 at h
  refine mj_go_aload_n (k := 0) (x := v0) rfl (mj_dt dt_X9_init 369 rfl) ?_
  refine mj_go_bipush (v := 10) rfl (mj_dt dt_X9_init 370 rfl) ?_
  obtain ⟨c1, h⟩ := mj_ck_some h
  obtain ⟨m2, em2, h⟩ := mj_mw_some h
  refine ml_newI c1 (mj_dt dt_X9_init 371 rfl) ?_
  refine ml_eqm (M1 := m2) (by rw [em2] <;> rfl) ?_
  obtain ⟨c3, h⟩ := mj_ck_some h
  obtain ⟨m4, em4, h⟩ := mj_mw_some h
  refine ml_putR (c := 9) (k := 50) fd_9_50 rfl fl_X9_117 c3 (mj_dt dt_X9_init 372 rfl) ?_
  refine ml_eqm (M1 := m4) (by rw [em4] <;> rfl) ?_
  refine mj_go_aload_n (k := 0) (x := v0) rfl (mj_dt dt_X9_init 373 rfl) ?_
  refine mj_go_bipush (v := 20) rfl (mj_dt dt_X9_init 374 rfl) ?_
  obtain ⟨c5, h⟩ := mj_ck_some h
  obtain ⟨m6, em6, h⟩ := mj_mw_some h
  refine ml_newI c5 (mj_dt dt_X9_init 375 rfl) ?_
  refine ml_eqm (M1 := m6) (by rw [em6] <;> rfl) ?_
  obtain ⟨c7, h⟩ := mj_ck_some h
  obtain ⟨m8, em8, h⟩ := mj_mw_some h
  refine ml_putR (c := 9) (k := 53) fd_9_53 rfl fl_X9_120 c7 (mj_dt dt_X9_init 376 rfl) ?_
  refine ml_eqm (M1 := m8) (by rw [em8] <;> rfl) ?_
  obtain ⟨c9, h⟩ := mj_ck_some h
  obtain rfl := Option.some.inj h
  exact mj_go_ret (v := none) (of_decide_eq_true c9) (mj_retV (mj_dt dt_X9_init 377 rfl) rfl)
def f_X9_init_I_448 (N : Nat) (v0 : Nat) (s0 : Nat) (s1 : Nat) (m : mj_M) : Option (mj_M) := mj_ck (mj_fb m 0 s1 43) ( mj_mw (mj_setI m s1 ((43 : Int32).toNatClampNeg) 32) (fun m2 => mj_ck (mj_fb m2 0 s1 44) ( mj_mw (mj_setI m2 s1 ((44 : Int32).toNatClampNeg) 102) (fun m4 => mj_ck (mj_fb m4 0 s1 45) ( mj_mw (mj_setI m4 s1 ((45 : Int32).toNatClampNeg) 114) (fun m6 => mj_ck (mj_fb m6 0 s1 46) ( mj_mw (mj_setI m6 s1 ((46 : Int32).toNatClampNeg) 111) (fun m8 => mj_ck (mj_fb m8 0 s1 47) ( mj_mw (mj_setI m8 s1 ((47 : Int32).toNatClampNeg) 110) (fun m10 => mj_ck (mj_fb m10 0 s1 48) ( mj_mw (mj_setI m10 s1 ((48 : Int32).toNatClampNeg) 116) (fun m12 => mj_ck (mj_fb m12 0 s1 49) ( mj_mw (mj_setI m12 s1 ((49 : Int32).toNatClampNeg) 32) (fun m14 => mj_ck (mj_fb m14 0 s1 50) ( mj_mw (mj_setI m14 s1 ((50 : Int32).toNatClampNeg) 0) (fun m16 => mj_ck (mj_fb m16 0 s1 51) ( mj_mw (mj_setI m16 s1 ((51 : Int32).toNatClampNeg) 32) (fun m18 => mj_ck (mj_fb m18 0 s1 52) ( mj_mw (mj_setI m18 s1 ((52 : Int32).toNatClampNeg) 110) (fun m20 => mj_ck (mj_fb m20 0 s1 53) ( mj_mw (mj_setI m20 s1 ((53 : Int32).toNatClampNeg) 101) (fun m22 => mj_ck (mj_fb m22 0 s1 54) ( mj_mw (mj_setI m22 s1 ((54 : Int32).toNatClampNeg) 120) (fun m24 => mj_ck (mj_fb m24 0 s1 55) ( mj_mw (mj_setI m24 s1 ((55 : Int32).toNatClampNeg) 116) (fun m26 => mj_ck (mj_fb m26 0 s1 56) ( mj_mw (mj_setI m26 s1 ((56 : Int32).toNatClampNeg) 32) (fun m28 => mj_ck (mj_fb m28 0 s1 57) ( mj_mw (mj_setI m28 s1 ((57 : Int32).toNatClampNeg) 0) (fun m30 => mj_ck (mj_fo m30 9 s0) ( mj_mw (mj_setR m30 s0 32 (some s1)) (fun m32 => mj_ck (mj_fw m32 0 150) ( mj_mw (mj_new m32) (fun m34 => mj_ck (mj_fo m34 9 v0) ( mj_mw (mj_setR m34 v0 38 (some (m32.1))) (fun m36 => mj_ck (mj_fw m36 0 150) ( mj_mw (mj_new m36) (fun m38 => mj_ck (mj_fo m38 9 v0) ( mj_mw (mj_setR m38 v0 39 (some (m36.1))) (fun m40 => mj_ck (mj_fw m40 0 150) ( mj_mw (mj_new m40) (fun m42 => mj_ck (mj_fo m42 9 v0) ( mj_mw (mj_setR m42 v0 40 (some (m40.1))) (fun m44 => mj_ck (mj_fw m44 1 1024) ( mj_mw (mj_new m44) (fun m46 => mj_ck (mj_fo m46 9 v0) ( mj_mw (mj_setR m46 v0 41 (some (m44.1))) (fun m48 => mj_ck (mj_fw m48 1 1024) ( mj_mw (mj_new m48) (fun m50 => mj_ck (mj_fo m50 9 v0) ( mj_mw (mj_setR m50 v0 42 (some (m48.1))) (fun m52 => mj_ck (mj_fw m52 0 10) ( mj_mw (mj_new m52) (fun m54 => mj_ck (mj_fo m54 9 v0) ( mj_mw (mj_setR m54 v0 43 (some (m52.1))) (fun m56 => mj_ck (mj_fw m56 0 10) ( mj_mw (mj_new m56) (fun m58 => mj_ck (mj_fo m58 9 v0) ( mj_mw (mj_setR m58 v0 45 (some (m56.1))) (fun m60 => mj_ck (mj_fw m60 0 10) ( mj_mw (mj_new m60) (fun m62 => mj_ck (mj_fo m62 9 v0) ( mj_mw (mj_setR m62 v0 49 (some (m60.1))) (fun m64 => f_X9_init_I_608 N v0 m64))))))))))))))))))))))))))))))))))))))))))))))))))))))))))))))))
theorem k_X9_init_I_448 {L : Nat} {xs : Nat → Int32} {δ N : Nat} {v0 : Nat} {s0 : Nat} {s1 : Nat} {m : mj_M} {a : mj_M} (h : f_X9_init_I_448 N v0 s0 s1 m = some a) : mj_Go (mj_EX L xs) δ mY_X9_init 448 [(0, .ref v0)] [.ref s1, .ref s0] m (none, a) := by
  unfold f_X9_init_I_448 at h
  refine mj_go_dup rfl (mj_dt dt_X9_init 276 rfl) ?_
  refine mj_go_bipush (v := 43) rfl (mj_dt dt_X9_init 277 rfl) ?_
  refine mj_go_bipush (v := 32) rfl (mj_dt dt_X9_init 278 rfl) ?_
  obtain ⟨c1, h⟩ := mj_ck_some h
  obtain ⟨m2, em2, h⟩ := mj_mw_some h
  refine ml_iast c1 (mj_dt dt_X9_init 279 rfl) ?_
  refine ml_eqm (M1 := m2) (by rw [em2] <;> rfl) ?_
  refine mj_go_dup rfl (mj_dt dt_X9_init 280 rfl) ?_
  refine mj_go_bipush (v := 44) rfl (mj_dt dt_X9_init 281 rfl) ?_
  refine mj_go_bipush (v := 102) rfl (mj_dt dt_X9_init 282 rfl) ?_
  obtain ⟨c3, h⟩ := mj_ck_some h
  obtain ⟨m4, em4, h⟩ := mj_mw_some h
  refine ml_iast c3 (mj_dt dt_X9_init 283 rfl) ?_
  refine ml_eqm (M1 := m4) (by rw [em4] <;> rfl) ?_
  refine mj_go_dup rfl (mj_dt dt_X9_init 284 rfl) ?_
  refine mj_go_bipush (v := 45) rfl (mj_dt dt_X9_init 285 rfl) ?_
  refine mj_go_bipush (v := 114) rfl (mj_dt dt_X9_init 286 rfl) ?_
  obtain ⟨c5, h⟩ := mj_ck_some h
  obtain ⟨m6, em6, h⟩ := mj_mw_some h
  refine ml_iast c5 (mj_dt dt_X9_init 287 rfl) ?_
  refine ml_eqm (M1 := m6) (by rw [em6] <;> rfl) ?_
  refine mj_go_dup rfl (mj_dt dt_X9_init 288 rfl) ?_
  refine mj_go_bipush (v := 46) rfl (mj_dt dt_X9_init 289 rfl) ?_
  refine mj_go_bipush (v := 111) rfl (mj_dt dt_X9_init 290 rfl) ?_
  obtain ⟨c7, h⟩ := mj_ck_some h
  obtain ⟨m8, em8, h⟩ := mj_mw_some h
  refine ml_iast c7 (mj_dt dt_X9_init 291 rfl) ?_
  refine ml_eqm (M1 := m8) (by rw [em8] <;> rfl) ?_
  refine mj_go_dup rfl (mj_dt dt_X9_init 292 rfl) ?_
  refine mj_go_bipush (v := 47) rfl (mj_dt dt_X9_init 293 rfl) ?_
  refine mj_go_bipush (v := 110) rfl (mj_dt dt_X9_init 294 rfl) ?_
  obtain ⟨c9, h⟩ := mj_ck_some h
  obtain ⟨m10, em10, h⟩ := mj_mw_some h
  refine ml_iast c9 (mj_dt dt_X9_init 295 rfl) ?_
  refine ml_eqm (M1 := m10) (by rw [em10] <;> rfl) ?_
  refine mj_go_dup rfl (mj_dt dt_X9_init 296 rfl) ?_
  refine mj_go_bipush (v := 48) rfl (mj_dt dt_X9_init 297 rfl) ?_
  refine mj_go_bipush (v := 116) rfl (mj_dt dt_X9_init 298 rfl) ?_
  obtain ⟨c11, h⟩ := mj_ck_some h
  obtain ⟨m12, em12, h⟩ := mj_mw_some h
  refine ml_iast c11 (mj_dt dt_X9_init 299 rfl) ?_
  refine ml_eqm (M1 := m12) (by rw [em12] <;> rfl) ?_
  refine mj_go_dup rfl (mj_dt dt_X9_init 300 rfl) ?_
  refine mj_go_bipush (v := 49) rfl (mj_dt dt_X9_init 301 rfl) ?_
  refine mj_go_bipush (v := 32) rfl (mj_dt dt_X9_init 302 rfl) ?_
  obtain ⟨c13, h⟩ := mj_ck_some h
  obtain ⟨m14, em14, h⟩ := mj_mw_some h
  refine ml_iast c13 (mj_dt dt_X9_init 303 rfl) ?_
  refine ml_eqm (M1 := m14) (by rw [em14] <;> rfl) ?_
  refine mj_go_dup rfl (mj_dt dt_X9_init 304 rfl) ?_
  refine mj_go_bipush (v := 50) rfl (mj_dt dt_X9_init 305 rfl) ?_
  refine mj_go_iconst (v := 0) rfl (mj_dt dt_X9_init 306 rfl) ?_
  obtain ⟨c15, h⟩ := mj_ck_some h
  obtain ⟨m16, em16, h⟩ := mj_mw_some h
  refine ml_iast c15 (mj_dt dt_X9_init 307 rfl) ?_
  refine ml_eqm (M1 := m16) (by rw [em16] <;> rfl) ?_
  refine mj_go_dup rfl (mj_dt dt_X9_init 308 rfl) ?_
  refine mj_go_bipush (v := 51) rfl (mj_dt dt_X9_init 309 rfl) ?_
  refine mj_go_bipush (v := 32) rfl (mj_dt dt_X9_init 310 rfl) ?_
  obtain ⟨c17, h⟩ := mj_ck_some h
  obtain ⟨m18, em18, h⟩ := mj_mw_some h
  refine ml_iast c17 (mj_dt dt_X9_init 311 rfl) ?_
  refine ml_eqm (M1 := m18) (by rw [em18] <;> rfl) ?_
  refine mj_go_dup rfl (mj_dt dt_X9_init 312 rfl) ?_
  refine mj_go_bipush (v := 52) rfl (mj_dt dt_X9_init 313 rfl) ?_
  refine mj_go_bipush (v := 110) rfl (mj_dt dt_X9_init 314 rfl) ?_
  obtain ⟨c19, h⟩ := mj_ck_some h
  obtain ⟨m20, em20, h⟩ := mj_mw_some h
  refine ml_iast c19 (mj_dt dt_X9_init 315 rfl) ?_
  refine ml_eqm (M1 := m20) (by rw [em20] <;> rfl) ?_
  refine mj_go_dup rfl (mj_dt dt_X9_init 316 rfl) ?_
  refine mj_go_bipush (v := 53) rfl (mj_dt dt_X9_init 317 rfl) ?_
  refine mj_go_bipush (v := 101) rfl (mj_dt dt_X9_init 318 rfl) ?_
  obtain ⟨c21, h⟩ := mj_ck_some h
  obtain ⟨m22, em22, h⟩ := mj_mw_some h
  refine ml_iast c21 (mj_dt dt_X9_init 319 rfl) ?_
  refine ml_eqm (M1 := m22) (by rw [em22] <;> rfl) ?_
  refine mj_go_dup rfl (mj_dt dt_X9_init 320 rfl) ?_
  refine mj_go_bipush (v := 54) rfl (mj_dt dt_X9_init 321 rfl) ?_
  refine mj_go_bipush (v := 120) rfl (mj_dt dt_X9_init 322 rfl) ?_
  obtain ⟨c23, h⟩ := mj_ck_some h
  obtain ⟨m24, em24, h⟩ := mj_mw_some h
  refine ml_iast c23 (mj_dt dt_X9_init 323 rfl) ?_
  refine ml_eqm (M1 := m24) (by rw [em24] <;> rfl) ?_
  refine mj_go_dup rfl (mj_dt dt_X9_init 324 rfl) ?_
  refine mj_go_bipush (v := 55) rfl (mj_dt dt_X9_init 325 rfl) ?_
  refine mj_go_bipush (v := 116) rfl (mj_dt dt_X9_init 326 rfl) ?_
  obtain ⟨c25, h⟩ := mj_ck_some h
  obtain ⟨m26, em26, h⟩ := mj_mw_some h
  refine ml_iast c25 (mj_dt dt_X9_init 327 rfl) ?_
  refine ml_eqm (M1 := m26) (by rw [em26] <;> rfl) ?_
  refine mj_go_dup rfl (mj_dt dt_X9_init 328 rfl) ?_
  refine mj_go_bipush (v := 56) rfl (mj_dt dt_X9_init 329 rfl) ?_
  refine mj_go_bipush (v := 32) rfl (mj_dt dt_X9_init 330 rfl) ?_
  obtain ⟨c27, h⟩ := mj_ck_some h
  obtain ⟨m28, em28, h⟩ := mj_mw_some h
  refine ml_iast c27 (mj_dt dt_X9_init 331 rfl) ?_
  refine ml_eqm (M1 := m28) (by rw [em28] <;> rfl) ?_
  refine mj_go_dup rfl (mj_dt dt_X9_init 332 rfl) ?_
  refine mj_go_bipush (v := 57) rfl (mj_dt dt_X9_init 333 rfl) ?_
  refine mj_go_iconst (v := 0) rfl (mj_dt dt_X9_init 334 rfl) ?_
  obtain ⟨c29, h⟩ := mj_ck_some h
  obtain ⟨m30, em30, h⟩ := mj_mw_some h
  refine ml_iast c29 (mj_dt dt_X9_init 335 rfl) ?_
  refine ml_eqm (M1 := m30) (by rw [em30] <;> rfl) ?_
  obtain ⟨c31, h⟩ := mj_ck_some h
  obtain ⟨m32, em32, h⟩ := mj_mw_some h
  refine ml_putR (c := 9) (k := 32) fd_9_32 rfl fl_X9_90 c31 (mj_dt dt_X9_init 336 rfl) ?_
  refine ml_eqm (M1 := m32) (by rw [em32] <;> rfl) ?_
  refine mj_go_aload_n (k := 0) (x := v0) rfl (mj_dt dt_X9_init 337 rfl) ?_
  refine mj_go_sipush (v := 150) rfl (mj_dt dt_X9_init 338 rfl) ?_
  obtain ⟨c33, h⟩ := mj_ck_some h
  obtain ⟨m34, em34, h⟩ := mj_mw_some h
  refine ml_newI c33 (mj_dt dt_X9_init 339 rfl) ?_
  refine ml_eqm (M1 := m34) (by rw [em34] <;> rfl) ?_
  obtain ⟨c35, h⟩ := mj_ck_some h
  obtain ⟨m36, em36, h⟩ := mj_mw_some h
  refine ml_putR (c := 9) (k := 38) fd_9_38 rfl fl_X9_93 c35 (mj_dt dt_X9_init 340 rfl) ?_
  refine ml_eqm (M1 := m36) (by rw [em36] <;> rfl) ?_
  refine mj_go_aload_n (k := 0) (x := v0) rfl (mj_dt dt_X9_init 341 rfl) ?_
  refine mj_go_sipush (v := 150) rfl (mj_dt dt_X9_init 342 rfl) ?_
  obtain ⟨c37, h⟩ := mj_ck_some h
  obtain ⟨m38, em38, h⟩ := mj_mw_some h
  refine ml_newI c37 (mj_dt dt_X9_init 343 rfl) ?_
  refine ml_eqm (M1 := m38) (by rw [em38] <;> rfl) ?_
  obtain ⟨c39, h⟩ := mj_ck_some h
  obtain ⟨m40, em40, h⟩ := mj_mw_some h
  refine ml_putR (c := 9) (k := 39) fd_9_39 rfl fl_X9_96 c39 (mj_dt dt_X9_init 344 rfl) ?_
  refine ml_eqm (M1 := m40) (by rw [em40] <;> rfl) ?_
  refine mj_go_aload_n (k := 0) (x := v0) rfl (mj_dt dt_X9_init 345 rfl) ?_
  refine mj_go_sipush (v := 150) rfl (mj_dt dt_X9_init 346 rfl) ?_
  obtain ⟨c41, h⟩ := mj_ck_some h
  obtain ⟨m42, em42, h⟩ := mj_mw_some h
  refine ml_newI c41 (mj_dt dt_X9_init 347 rfl) ?_
  refine ml_eqm (M1 := m42) (by rw [em42] <;> rfl) ?_
  obtain ⟨c43, h⟩ := mj_ck_some h
  obtain ⟨m44, em44, h⟩ := mj_mw_some h
  refine ml_putR (c := 9) (k := 40) fd_9_40 rfl fl_X9_99 c43 (mj_dt dt_X9_init 348 rfl) ?_
  refine ml_eqm (M1 := m44) (by rw [em44] <;> rfl) ?_
  refine mj_go_aload_n (k := 0) (x := v0) rfl (mj_dt dt_X9_init 349 rfl) ?_
  refine mj_go_sipush (v := 1024) rfl (mj_dt dt_X9_init 350 rfl) ?_
  obtain ⟨c45, h⟩ := mj_ck_some h
  obtain ⟨m46, em46, h⟩ := mj_mw_some h
  refine ml_newL c45 (mj_dt dt_X9_init 351 rfl) ?_
  refine ml_eqm (M1 := m46) (by rw [em46] <;> rfl) ?_
  obtain ⟨c47, h⟩ := mj_ck_some h
  obtain ⟨m48, em48, h⟩ := mj_mw_some h
  refine ml_putR (c := 9) (k := 41) fd_9_41 rfl fl_X9_102 c47 (mj_dt dt_X9_init 352 rfl) ?_
  refine ml_eqm (M1 := m48) (by rw [em48] <;> rfl) ?_
  refine mj_go_aload_n (k := 0) (x := v0) rfl (mj_dt dt_X9_init 353 rfl) ?_
  refine mj_go_sipush (v := 1024) rfl (mj_dt dt_X9_init 354 rfl) ?_
  obtain ⟨c49, h⟩ := mj_ck_some h
  obtain ⟨m50, em50, h⟩ := mj_mw_some h
  refine ml_newL c49 (mj_dt dt_X9_init 355 rfl) ?_
  refine ml_eqm (M1 := m50) (by rw [em50] <;> rfl) ?_
  obtain ⟨c51, h⟩ := mj_ck_some h
  obtain ⟨m52, em52, h⟩ := mj_mw_some h
  refine ml_putR (c := 9) (k := 42) fd_9_42 rfl fl_X9_105 c51 (mj_dt dt_X9_init 356 rfl) ?_
  refine ml_eqm (M1 := m52) (by rw [em52] <;> rfl) ?_
  refine mj_go_aload_n (k := 0) (x := v0) rfl (mj_dt dt_X9_init 357 rfl) ?_
  refine mj_go_bipush (v := 10) rfl (mj_dt dt_X9_init 358 rfl) ?_
  obtain ⟨c53, h⟩ := mj_ck_some h
  obtain ⟨m54, em54, h⟩ := mj_mw_some h
  refine ml_newI c53 (mj_dt dt_X9_init 359 rfl) ?_
  refine ml_eqm (M1 := m54) (by rw [em54] <;> rfl) ?_
  obtain ⟨c55, h⟩ := mj_ck_some h
  obtain ⟨m56, em56, h⟩ := mj_mw_some h
  refine ml_putR (c := 9) (k := 43) fd_9_43 rfl fl_X9_108 c55 (mj_dt dt_X9_init 360 rfl) ?_
  refine ml_eqm (M1 := m56) (by rw [em56] <;> rfl) ?_
  refine mj_go_aload_n (k := 0) (x := v0) rfl (mj_dt dt_X9_init 361 rfl) ?_
  refine mj_go_bipush (v := 10) rfl (mj_dt dt_X9_init 362 rfl) ?_
  obtain ⟨c57, h⟩ := mj_ck_some h
  obtain ⟨m58, em58, h⟩ := mj_mw_some h
  refine ml_newI c57 (mj_dt dt_X9_init 363 rfl) ?_
  refine ml_eqm (M1 := m58) (by rw [em58] <;> rfl) ?_
  obtain ⟨c59, h⟩ := mj_ck_some h
  obtain ⟨m60, em60, h⟩ := mj_mw_some h
  refine ml_putR (c := 9) (k := 45) fd_9_45 rfl fl_X9_111 c59 (mj_dt dt_X9_init 364 rfl) ?_
  refine ml_eqm (M1 := m60) (by rw [em60] <;> rfl) ?_
  refine mj_go_aload_n (k := 0) (x := v0) rfl (mj_dt dt_X9_init 365 rfl) ?_
  refine mj_go_bipush (v := 10) rfl (mj_dt dt_X9_init 366 rfl) ?_
  obtain ⟨c61, h⟩ := mj_ck_some h
  obtain ⟨m62, em62, h⟩ := mj_mw_some h
  refine ml_newI c61 (mj_dt dt_X9_init 367 rfl) ?_
  refine ml_eqm (M1 := m62) (by rw [em62] <;> rfl) ?_
  obtain ⟨c63, h⟩ := mj_ck_some h
  obtain ⟨m64, em64, h⟩ := mj_mw_some h
  refine ml_putR (c := 9) (k := 49) fd_9_49 rfl fl_X9_114 c63 (mj_dt dt_X9_init 368 rfl) ?_
  refine ml_eqm (M1 := m64) (by rw [em64] <;> rfl) ?_
  refine mj_go_sub (lv' := [(0, .ref v0)]) (List.forall_mem_cons.mpr ⟨rfl, (fun _ h9 => absurd h9 List.not_mem_nil)⟩) ?_
  exact k_X9_init_I_608 h
def f_X9_init_I_314 (N : Nat) (v0 : Nat) (s0 : Nat) (s1 : Nat) (m : mj_M) : Option (mj_M) := mj_ck (mj_fb m 0 s1 20) ( mj_mw (mj_setI m s1 ((20 : Int32).toNatClampNeg) 32) (fun m2 => mj_ck (mj_fb m2 0 s1 21) ( mj_mw (mj_setI m2 s1 ((21 : Int32).toNatClampNeg) 0) (fun m4 => mj_ck (mj_fb m4 0 s1 22) ( mj_mw (mj_setI m4 s1 ((22 : Int32).toNatClampNeg) 99) (fun m6 => mj_ck (mj_fb m6 0 s1 23) ( mj_mw (mj_setI m6 s1 ((23 : Int32).toNatClampNeg) 111) (fun m8 => mj_ck (mj_fb m8 0 s1 24) ( mj_mw (mj_setI m8 s1 ((24 : Int32).toNatClampNeg) 105) (fun m10 => mj_ck (mj_fb m10 0 s1 25) ( mj_mw (mj_setI m10 s1 ((25 : Int32).toNatClampNeg) 110) (fun m12 => mj_ck (mj_fb m12 0 s1 26) ( mj_mw (mj_setI m12 s1 ((26 : Int32).toNatClampNeg) 32) (fun m14 => mj_ck (mj_fb m14 0 s1 27) ( mj_mw (mj_setI m14 s1 ((27 : Int32).toNatClampNeg) 0) (fun m16 => mj_ck (mj_fb m16 0 s1 28) ( mj_mw (mj_setI m16 s1 ((28 : Int32).toNatClampNeg) 115) (fun m18 => mj_ck (mj_fb m18 0 s1 29) ( mj_mw (mj_setI m18 s1 ((29 : Int32).toNatClampNeg) 104) (fun m20 => mj_ck (mj_fb m20 0 s1 30) ( mj_mw (mj_setI m20 s1 ((30 : Int32).toNatClampNeg) 117) (fun m22 => mj_ck (mj_fb m22 0 s1 31) ( mj_mw (mj_setI m22 s1 ((31 : Int32).toNatClampNeg) 116) (fun m24 => mj_ck (mj_fb m24 0 s1 32) ( mj_mw (mj_setI m24 s1 ((32 : Int32).toNatClampNeg) 32) (fun m26 => mj_ck (mj_fb m26 0 s1 33) ( mj_mw (mj_setI m26 s1 ((33 : Int32).toNatClampNeg) 0) (fun m28 => mj_ck (mj_fb m28 0 s1 34) ( mj_mw (mj_setI m28 s1 ((34 : Int32).toNatClampNeg) 100) (fun m30 => mj_ck (mj_fb m30 0 s1 35) ( mj_mw (mj_setI m30 s1 ((35 : Int32).toNatClampNeg) 97) (fun m32 => mj_ck (mj_fb m32 0 s1 36) ( mj_mw (mj_setI m32 s1 ((36 : Int32).toNatClampNeg) 121) (fun m34 => mj_ck (mj_fb m34 0 s1 37) ( mj_mw (mj_setI m34 s1 ((37 : Int32).toNatClampNeg) 112) (fun m36 => mj_ck (mj_fb m36 0 s1 38) ( mj_mw (mj_setI m36 s1 ((38 : Int32).toNatClampNeg) 97) (fun m38 => mj_ck (mj_fb m38 0 s1 39) ( mj_mw (mj_setI m38 s1 ((39 : Int32).toNatClampNeg) 114) (fun m40 => mj_ck (mj_fb m40 0 s1 40) ( mj_mw (mj_setI m40 s1 ((40 : Int32).toNatClampNeg) 116) (fun m42 => mj_ck (mj_fb m42 0 s1 41) ( mj_mw (mj_setI m42 s1 ((41 : Int32).toNatClampNeg) 32) (fun m44 => mj_ck (mj_fb m44 0 s1 42) ( mj_mw (mj_setI m44 s1 ((42 : Int32).toNatClampNeg) 0) (fun m46 => f_X9_init_I_448 N v0 s0 s1 m46))))))))))))))))))))))))))))))))))))))))))))))
theorem k_X9_init_I_314 {L : Nat} {xs : Nat → Int32} {δ N : Nat} {v0 : Nat} {s0 : Nat} {s1 : Nat} {m : mj_M} {a : mj_M} (h : f_X9_init_I_314 N v0 s0 s1 m = some a) : mj_Go (mj_EX L xs) δ mY_X9_init 314 [(0, .ref v0)] [.ref s1, .ref s0] m (none, a) := by
  unfold f_X9_init_I_314 at h
  refine mj_go_dup rfl (mj_dt dt_X9_init 184 rfl) ?_
  refine mj_go_bipush (v := 20) rfl (mj_dt dt_X9_init 185 rfl) ?_
  refine mj_go_bipush (v := 32) rfl (mj_dt dt_X9_init 186 rfl) ?_
  obtain ⟨c1, h⟩ := mj_ck_some h
  obtain ⟨m2, em2, h⟩ := mj_mw_some h
  refine ml_iast c1 (mj_dt dt_X9_init 187 rfl) ?_
  refine ml_eqm (M1 := m2) (by rw [em2] <;> rfl) ?_
  refine mj_go_dup rfl (mj_dt dt_X9_init 188 rfl) ?_
  refine mj_go_bipush (v := 21) rfl (mj_dt dt_X9_init 189 rfl) ?_
  refine mj_go_iconst (v := 0) rfl (mj_dt dt_X9_init 190 rfl) ?_
  obtain ⟨c3, h⟩ := mj_ck_some h
  obtain ⟨m4, em4, h⟩ := mj_mw_some h
  refine ml_iast c3 (mj_dt dt_X9_init 191 rfl) ?_
  refine ml_eqm (M1 := m4) (by rw [em4] <;> rfl) ?_
  refine mj_go_dup rfl (mj_dt dt_X9_init 192 rfl) ?_
  refine mj_go_bipush (v := 22) rfl (mj_dt dt_X9_init 193 rfl) ?_
  refine mj_go_bipush (v := 99) rfl (mj_dt dt_X9_init 194 rfl) ?_
  obtain ⟨c5, h⟩ := mj_ck_some h
  obtain ⟨m6, em6, h⟩ := mj_mw_some h
  refine ml_iast c5 (mj_dt dt_X9_init 195 rfl) ?_
  refine ml_eqm (M1 := m6) (by rw [em6] <;> rfl) ?_
  refine mj_go_dup rfl (mj_dt dt_X9_init 196 rfl) ?_
  refine mj_go_bipush (v := 23) rfl (mj_dt dt_X9_init 197 rfl) ?_
  refine mj_go_bipush (v := 111) rfl (mj_dt dt_X9_init 198 rfl) ?_
  obtain ⟨c7, h⟩ := mj_ck_some h
  obtain ⟨m8, em8, h⟩ := mj_mw_some h
  refine ml_iast c7 (mj_dt dt_X9_init 199 rfl) ?_
  refine ml_eqm (M1 := m8) (by rw [em8] <;> rfl) ?_
  refine mj_go_dup rfl (mj_dt dt_X9_init 200 rfl) ?_
  refine mj_go_bipush (v := 24) rfl (mj_dt dt_X9_init 201 rfl) ?_
  refine mj_go_bipush (v := 105) rfl (mj_dt dt_X9_init 202 rfl) ?_
  obtain ⟨c9, h⟩ := mj_ck_some h
  obtain ⟨m10, em10, h⟩ := mj_mw_some h
  refine ml_iast c9 (mj_dt dt_X9_init 203 rfl) ?_
  refine ml_eqm (M1 := m10) (by rw [em10] <;> rfl) ?_
  refine mj_go_dup rfl (mj_dt dt_X9_init 204 rfl) ?_
  refine mj_go_bipush (v := 25) rfl (mj_dt dt_X9_init 205 rfl) ?_
  refine mj_go_bipush (v := 110) rfl (mj_dt dt_X9_init 206 rfl) ?_
  obtain ⟨c11, h⟩ := mj_ck_some h
  obtain ⟨m12, em12, h⟩ := mj_mw_some h
  refine ml_iast c11 (mj_dt dt_X9_init 207 rfl) ?_
  refine ml_eqm (M1 := m12) (by rw [em12] <;> rfl) ?_
  refine mj_go_dup rfl (mj_dt dt_X9_init 208 rfl) ?_
  refine mj_go_bipush (v := 26) rfl (mj_dt dt_X9_init 209 rfl) ?_
  refine mj_go_bipush (v := 32) rfl (mj_dt dt_X9_init 210 rfl) ?_
  obtain ⟨c13, h⟩ := mj_ck_some h
  obtain ⟨m14, em14, h⟩ := mj_mw_some h
  refine ml_iast c13 (mj_dt dt_X9_init 211 rfl) ?_
  refine ml_eqm (M1 := m14) (by rw [em14] <;> rfl) ?_
  refine mj_go_dup rfl (mj_dt dt_X9_init 212 rfl) ?_
  refine mj_go_bipush (v := 27) rfl (mj_dt dt_X9_init 213 rfl) ?_
  refine mj_go_iconst (v := 0) rfl (mj_dt dt_X9_init 214 rfl) ?_
  obtain ⟨c15, h⟩ := mj_ck_some h
  obtain ⟨m16, em16, h⟩ := mj_mw_some h
  refine ml_iast c15 (mj_dt dt_X9_init 215 rfl) ?_
  refine ml_eqm (M1 := m16) (by rw [em16] <;> rfl) ?_
  refine mj_go_dup rfl (mj_dt dt_X9_init 216 rfl) ?_
  refine mj_go_bipush (v := 28) rfl (mj_dt dt_X9_init 217 rfl) ?_
  refine mj_go_bipush (v := 115) rfl (mj_dt dt_X9_init 218 rfl) ?_
  obtain ⟨c17, h⟩ := mj_ck_some h
  obtain ⟨m18, em18, h⟩ := mj_mw_some h
  refine ml_iast c17 (mj_dt dt_X9_init 219 rfl) ?_
  refine ml_eqm (M1 := m18) (by rw [em18] <;> rfl) ?_
  refine mj_go_dup rfl (mj_dt dt_X9_init 220 rfl) ?_
  refine mj_go_bipush (v := 29) rfl (mj_dt dt_X9_init 221 rfl) ?_
  refine mj_go_bipush (v := 104) rfl (mj_dt dt_X9_init 222 rfl) ?_
  obtain ⟨c19, h⟩ := mj_ck_some h
  obtain ⟨m20, em20, h⟩ := mj_mw_some h
  refine ml_iast c19 (mj_dt dt_X9_init 223 rfl) ?_
  refine ml_eqm (M1 := m20) (by rw [em20] <;> rfl) ?_
  refine mj_go_dup rfl (mj_dt dt_X9_init 224 rfl) ?_
  refine mj_go_bipush (v := 30) rfl (mj_dt dt_X9_init 225 rfl) ?_
  refine mj_go_bipush (v := 117) rfl (mj_dt dt_X9_init 226 rfl) ?_
  obtain ⟨c21, h⟩ := mj_ck_some h
  obtain ⟨m22, em22, h⟩ := mj_mw_some h
  refine ml_iast c21 (mj_dt dt_X9_init 227 rfl) ?_
  refine ml_eqm (M1 := m22) (by rw [em22] <;> rfl) ?_
  refine mj_go_dup rfl (mj_dt dt_X9_init 228 rfl) ?_
  refine mj_go_bipush (v := 31) rfl (mj_dt dt_X9_init 229 rfl) ?_
  refine mj_go_bipush (v := 116) rfl (mj_dt dt_X9_init 230 rfl) ?_
  obtain ⟨c23, h⟩ := mj_ck_some h
  obtain ⟨m24, em24, h⟩ := mj_mw_some h
  refine ml_iast c23 (mj_dt dt_X9_init 231 rfl) ?_
  refine ml_eqm (M1 := m24) (by rw [em24] <;> rfl) ?_
  refine mj_go_dup rfl (mj_dt dt_X9_init 232 rfl) ?_
  refine mj_go_bipush (v := 32) rfl (mj_dt dt_X9_init 233 rfl) ?_
  refine mj_go_bipush (v := 32) rfl (mj_dt dt_X9_init 234 rfl) ?_
  obtain ⟨c25, h⟩ := mj_ck_some h
  obtain ⟨m26, em26, h⟩ := mj_mw_some h
  refine ml_iast c25 (mj_dt dt_X9_init 235 rfl) ?_
  refine ml_eqm (M1 := m26) (by rw [em26] <;> rfl) ?_
  refine mj_go_dup rfl (mj_dt dt_X9_init 236 rfl) ?_
  refine mj_go_bipush (v := 33) rfl (mj_dt dt_X9_init 237 rfl) ?_
  refine mj_go_iconst (v := 0) rfl (mj_dt dt_X9_init 238 rfl) ?_
  obtain ⟨c27, h⟩ := mj_ck_some h
  obtain ⟨m28, em28, h⟩ := mj_mw_some h
  refine ml_iast c27 (mj_dt dt_X9_init 239 rfl) ?_
  refine ml_eqm (M1 := m28) (by rw [em28] <;> rfl) ?_
  refine mj_go_dup rfl (mj_dt dt_X9_init 240 rfl) ?_
  refine mj_go_bipush (v := 34) rfl (mj_dt dt_X9_init 241 rfl) ?_
  refine mj_go_bipush (v := 100) rfl (mj_dt dt_X9_init 242 rfl) ?_
  obtain ⟨c29, h⟩ := mj_ck_some h
  obtain ⟨m30, em30, h⟩ := mj_mw_some h
  refine ml_iast c29 (mj_dt dt_X9_init 243 rfl) ?_
  refine ml_eqm (M1 := m30) (by rw [em30] <;> rfl) ?_
  refine mj_go_dup rfl (mj_dt dt_X9_init 244 rfl) ?_
  refine mj_go_bipush (v := 35) rfl (mj_dt dt_X9_init 245 rfl) ?_
  refine mj_go_bipush (v := 97) rfl (mj_dt dt_X9_init 246 rfl) ?_
  obtain ⟨c31, h⟩ := mj_ck_some h
  obtain ⟨m32, em32, h⟩ := mj_mw_some h
  refine ml_iast c31 (mj_dt dt_X9_init 247 rfl) ?_
  refine ml_eqm (M1 := m32) (by rw [em32] <;> rfl) ?_
  refine mj_go_dup rfl (mj_dt dt_X9_init 248 rfl) ?_
  refine mj_go_bipush (v := 36) rfl (mj_dt dt_X9_init 249 rfl) ?_
  refine mj_go_bipush (v := 121) rfl (mj_dt dt_X9_init 250 rfl) ?_
  obtain ⟨c33, h⟩ := mj_ck_some h
  obtain ⟨m34, em34, h⟩ := mj_mw_some h
  refine ml_iast c33 (mj_dt dt_X9_init 251 rfl) ?_
  refine ml_eqm (M1 := m34) (by rw [em34] <;> rfl) ?_
  refine mj_go_dup rfl (mj_dt dt_X9_init 252 rfl) ?_
  refine mj_go_bipush (v := 37) rfl (mj_dt dt_X9_init 253 rfl) ?_
  refine mj_go_bipush (v := 112) rfl (mj_dt dt_X9_init 254 rfl) ?_
  obtain ⟨c35, h⟩ := mj_ck_some h
  obtain ⟨m36, em36, h⟩ := mj_mw_some h
  refine ml_iast c35 (mj_dt dt_X9_init 255 rfl) ?_
  refine ml_eqm (M1 := m36) (by rw [em36] <;> rfl) ?_
  refine mj_go_dup rfl (mj_dt dt_X9_init 256 rfl) ?_
  refine mj_go_bipush (v := 38) rfl (mj_dt dt_X9_init 257 rfl) ?_
  refine mj_go_bipush (v := 97) rfl (mj_dt dt_X9_init 258 rfl) ?_
  obtain ⟨c37, h⟩ := mj_ck_some h
  obtain ⟨m38, em38, h⟩ := mj_mw_some h
  refine ml_iast c37 (mj_dt dt_X9_init 259 rfl) ?_
  refine ml_eqm (M1 := m38) (by rw [em38] <;> rfl) ?_
  refine mj_go_dup rfl (mj_dt dt_X9_init 260 rfl) ?_
  refine mj_go_bipush (v := 39) rfl (mj_dt dt_X9_init 261 rfl) ?_
  refine mj_go_bipush (v := 114) rfl (mj_dt dt_X9_init 262 rfl) ?_
  obtain ⟨c39, h⟩ := mj_ck_some h
  obtain ⟨m40, em40, h⟩ := mj_mw_some h
  refine ml_iast c39 (mj_dt dt_X9_init 263 rfl) ?_
  refine ml_eqm (M1 := m40) (by rw [em40] <;> rfl) ?_
  refine mj_go_dup rfl (mj_dt dt_X9_init 264 rfl) ?_
  refine mj_go_bipush (v := 40) rfl (mj_dt dt_X9_init 265 rfl) ?_
  refine mj_go_bipush (v := 116) rfl (mj_dt dt_X9_init 266 rfl) ?_
  obtain ⟨c41, h⟩ := mj_ck_some h
  obtain ⟨m42, em42, h⟩ := mj_mw_some h
  refine ml_iast c41 (mj_dt dt_X9_init 267 rfl) ?_
  refine ml_eqm (M1 := m42) (by rw [em42] <;> rfl) ?_
  refine mj_go_dup rfl (mj_dt dt_X9_init 268 rfl) ?_
  refine mj_go_bipush (v := 41) rfl (mj_dt dt_X9_init 269 rfl) ?_
  refine mj_go_bipush (v := 32) rfl (mj_dt dt_X9_init 270 rfl) ?_
  obtain ⟨c43, h⟩ := mj_ck_some h
  obtain ⟨m44, em44, h⟩ := mj_mw_some h
  refine ml_iast c43 (mj_dt dt_X9_init 271 rfl) ?_
  refine ml_eqm (M1 := m44) (by rw [em44] <;> rfl) ?_
  refine mj_go_dup rfl (mj_dt dt_X9_init 272 rfl) ?_
  refine mj_go_bipush (v := 42) rfl (mj_dt dt_X9_init 273 rfl) ?_
  refine mj_go_iconst (v := 0) rfl (mj_dt dt_X9_init 274 rfl) ?_
  obtain ⟨c45, h⟩ := mj_ck_some h
  obtain ⟨m46, em46, h⟩ := mj_mw_some h
  refine ml_iast c45 (mj_dt dt_X9_init 275 rfl) ?_
  refine ml_eqm (M1 := m46) (by rw [em46] <;> rfl) ?_
  refine mj_go_sub (lv' := [(0, .ref v0)]) (List.forall_mem_cons.mpr ⟨rfl, (fun _ h9 => absurd h9 List.not_mem_nil)⟩) ?_
  exact k_X9_init_I_448 h
def f_X9_init_I_180 (N : Nat) (v0 : Nat) (m : mj_M) : Option (mj_M) := mj_ck (mj_fw m 1 960) ( mj_mw (mj_new m) (fun m2 => mj_ck (mj_fo m2 9 v0) ( mj_mw (mj_setR m2 v0 30 (some (m.1))) (fun m4 => mj_ck (mj_fw m4 1 120) ( mj_mw (mj_new m4) (fun m6 => mj_ck (mj_fo m6 9 v0) ( mj_mw (mj_setR m6 v0 31 (some (m4.1))) (fun m8 => mj_ck (mj_fw m8 0 58) ( mj_mw (mj_new m8) (fun m10 => mj_ck (mj_fb m10 0 (m8.1) 0) ( mj_mw (mj_setI m10 (m8.1) ((0 : Int32).toNatClampNeg) 115) (fun m12 => mj_ck (mj_fb m12 0 (m8.1) 1) ( mj_mw (mj_setI m12 (m8.1) ((1 : Int32).toNatClampNeg) 116) (fun m14 => mj_ck (mj_fb m14 0 (m8.1) 2) ( mj_mw (mj_setI m14 (m8.1) ((2 : Int32).toNatClampNeg) 114) (fun m16 => mj_ck (mj_fb m16 0 (m8.1) 3) ( mj_mw (mj_setI m16 (m8.1) ((3 : Int32).toNatClampNeg) 101) (fun m18 => mj_ck (mj_fb m18 0 (m8.1) 4) ( mj_mw (mj_setI m18 (m8.1) ((4 : Int32).toNatClampNeg) 101) (fun m20 => mj_ck (mj_fb m20 0 (m8.1) 5) ( mj_mw (mj_setI m20 (m8.1) ((5 : Int32).toNatClampNeg) 116) (fun m22 => mj_ck (mj_fb m22 0 (m8.1) 6) ( mj_mw (mj_setI m22 (m8.1) ((6 : Int32).toNatClampNeg) 32) (fun m24 => mj_ck (mj_fb m24 0 (m8.1) 7) ( mj_mw (mj_setI m24 (m8.1) ((7 : Int32).toNatClampNeg) 0) (fun m26 => mj_ck (mj_fb m26 0 (m8.1) 8) ( mj_mw (mj_setI m26 (m8.1) ((8 : Int32).toNatClampNeg) 104) (fun m28 => mj_ck (mj_fb m28 0 (m8.1) 9) ( mj_mw (mj_setI m28 (m8.1) ((9 : Int32).toNatClampNeg) 111) (fun m30 => mj_ck (mj_fb m30 0 (m8.1) 10) ( mj_mw (mj_setI m30 (m8.1) ((10 : Int32).toNatClampNeg) 117) (fun m32 => mj_ck (mj_fb m32 0 (m8.1) 11) ( mj_mw (mj_setI m32 (m8.1) ((11 : Int32).toNatClampNeg) 115) (fun m34 => mj_ck (mj_fb m34 0 (m8.1) 12) ( mj_mw (mj_setI m34 (m8.1) ((12 : Int32).toNatClampNeg) 101) (fun m36 => mj_ck (mj_fb m36 0 (m8.1) 13) ( mj_mw (mj_setI m36 (m8.1) ((13 : Int32).toNatClampNeg) 32) (fun m38 => mj_ck (mj_fb m38 0 (m8.1) 14) ( mj_mw (mj_setI m38 (m8.1) ((14 : Int32).toNatClampNeg) 0) (fun m40 => mj_ck (mj_fb m40 0 (m8.1) 15) ( mj_mw (mj_setI m40 (m8.1) ((15 : Int32).toNatClampNeg) 115) (fun m42 => mj_ck (mj_fb m42 0 (m8.1) 16) ( mj_mw (mj_setI m42 (m8.1) ((16 : Int32).toNatClampNeg) 104) (fun m44 => mj_ck (mj_fb m44 0 (m8.1) 17) ( mj_mw (mj_setI m44 (m8.1) ((17 : Int32).toNatClampNeg) 97) (fun m46 => mj_ck (mj_fb m46 0 (m8.1) 18) ( mj_mw (mj_setI m46 (m8.1) ((18 : Int32).toNatClampNeg) 107) (fun m48 => mj_ck (mj_fb m48 0 (m8.1) 19) ( mj_mw (mj_setI m48 (m8.1) ((19 : Int32).toNatClampNeg) 101) (fun m50 => f_X9_init_I_314 N v0 v0 (m8.1) m50))))))))))))))))))))))))))))))))))))))))))))))))))
theorem k_X9_init_I_180 {L : Nat} {xs : Nat → Int32} {δ N : Nat} {v0 : Nat} {m : mj_M} {a : mj_M} (h : f_X9_init_I_180 N v0 m = some a) : mj_Go (mj_EX L xs) δ mY_X9_init 180 [(0, .ref v0)] [] m (none, a) := by
  unfold f_X9_init_I_180 at h
  refine mj_go_aload_n (k := 0) (x := v0) rfl (mj_dt dt_X9_init 93 rfl) ?_
  refine mj_go_sipush (v := 960) rfl (mj_dt dt_X9_init 94 rfl) ?_
  obtain ⟨c1, h⟩ := mj_ck_some h
  obtain ⟨m2, em2, h⟩ := mj_mw_some h
  refine ml_newL c1 (mj_dt dt_X9_init 95 rfl) ?_
  refine ml_eqm (M1 := m2) (by rw [em2] <;> rfl) ?_
  obtain ⟨c3, h⟩ := mj_ck_some h
  obtain ⟨m4, em4, h⟩ := mj_mw_some h
  refine ml_putR (c := 9) (k := 30) fd_9_30 rfl fl_X9_83 c3 (mj_dt dt_X9_init 96 rfl) ?_
  refine ml_eqm (M1 := m4) (by rw [em4] <;> rfl) ?_
  refine mj_go_aload_n (k := 0) (x := v0) rfl (mj_dt dt_X9_init 97 rfl) ?_
  refine mj_go_bipush (v := 120) rfl (mj_dt dt_X9_init 98 rfl) ?_
  obtain ⟨c5, h⟩ := mj_ck_some h
  obtain ⟨m6, em6, h⟩ := mj_mw_some h
  refine ml_newL c5 (mj_dt dt_X9_init 99 rfl) ?_
  refine ml_eqm (M1 := m6) (by rw [em6] <;> rfl) ?_
  obtain ⟨c7, h⟩ := mj_ck_some h
  obtain ⟨m8, em8, h⟩ := mj_mw_some h
  refine ml_putR (c := 9) (k := 31) fd_9_31 rfl fl_X9_87 c7 (mj_dt dt_X9_init 100 rfl) ?_
  refine ml_eqm (M1 := m8) (by rw [em8] <;> rfl) ?_
  refine mj_go_aload_n (k := 0) (x := v0) rfl (mj_dt dt_X9_init 101 rfl) ?_
  refine mj_go_bipush (v := 58) rfl (mj_dt dt_X9_init 102 rfl) ?_
  obtain ⟨c9, h⟩ := mj_ck_some h
  obtain ⟨m10, em10, h⟩ := mj_mw_some h
  refine ml_newI c9 (mj_dt dt_X9_init 103 rfl) ?_
  refine ml_eqm (M1 := m10) (by rw [em10] <;> rfl) ?_
  refine mj_go_dup rfl (mj_dt dt_X9_init 104 rfl) ?_
  refine mj_go_iconst (v := 0) rfl (mj_dt dt_X9_init 105 rfl) ?_
  refine mj_go_bipush (v := 115) rfl (mj_dt dt_X9_init 106 rfl) ?_
  obtain ⟨c11, h⟩ := mj_ck_some h
  obtain ⟨m12, em12, h⟩ := mj_mw_some h
  refine ml_iast c11 (mj_dt dt_X9_init 107 rfl) ?_
  refine ml_eqm (M1 := m12) (by rw [em12] <;> rfl) ?_
  refine mj_go_dup rfl (mj_dt dt_X9_init 108 rfl) ?_
  refine mj_go_iconst (v := 1) rfl (mj_dt dt_X9_init 109 rfl) ?_
  refine mj_go_bipush (v := 116) rfl (mj_dt dt_X9_init 110 rfl) ?_
  obtain ⟨c13, h⟩ := mj_ck_some h
  obtain ⟨m14, em14, h⟩ := mj_mw_some h
  refine ml_iast c13 (mj_dt dt_X9_init 111 rfl) ?_
  refine ml_eqm (M1 := m14) (by rw [em14] <;> rfl) ?_
  refine mj_go_dup rfl (mj_dt dt_X9_init 112 rfl) ?_
  refine mj_go_iconst (v := 2) rfl (mj_dt dt_X9_init 113 rfl) ?_
  refine mj_go_bipush (v := 114) rfl (mj_dt dt_X9_init 114 rfl) ?_
  obtain ⟨c15, h⟩ := mj_ck_some h
  obtain ⟨m16, em16, h⟩ := mj_mw_some h
  refine ml_iast c15 (mj_dt dt_X9_init 115 rfl) ?_
  refine ml_eqm (M1 := m16) (by rw [em16] <;> rfl) ?_
  refine mj_go_dup rfl (mj_dt dt_X9_init 116 rfl) ?_
  refine mj_go_iconst (v := 3) rfl (mj_dt dt_X9_init 117 rfl) ?_
  refine mj_go_bipush (v := 101) rfl (mj_dt dt_X9_init 118 rfl) ?_
  obtain ⟨c17, h⟩ := mj_ck_some h
  obtain ⟨m18, em18, h⟩ := mj_mw_some h
  refine ml_iast c17 (mj_dt dt_X9_init 119 rfl) ?_
  refine ml_eqm (M1 := m18) (by rw [em18] <;> rfl) ?_
  refine mj_go_dup rfl (mj_dt dt_X9_init 120 rfl) ?_
  refine mj_go_iconst (v := 4) rfl (mj_dt dt_X9_init 121 rfl) ?_
  refine mj_go_bipush (v := 101) rfl (mj_dt dt_X9_init 122 rfl) ?_
  obtain ⟨c19, h⟩ := mj_ck_some h
  obtain ⟨m20, em20, h⟩ := mj_mw_some h
  refine ml_iast c19 (mj_dt dt_X9_init 123 rfl) ?_
  refine ml_eqm (M1 := m20) (by rw [em20] <;> rfl) ?_
  refine mj_go_dup rfl (mj_dt dt_X9_init 124 rfl) ?_
  refine mj_go_iconst (v := 5) rfl (mj_dt dt_X9_init 125 rfl) ?_
  refine mj_go_bipush (v := 116) rfl (mj_dt dt_X9_init 126 rfl) ?_
  obtain ⟨c21, h⟩ := mj_ck_some h
  obtain ⟨m22, em22, h⟩ := mj_mw_some h
  refine ml_iast c21 (mj_dt dt_X9_init 127 rfl) ?_
  refine ml_eqm (M1 := m22) (by rw [em22] <;> rfl) ?_
  refine mj_go_dup rfl (mj_dt dt_X9_init 128 rfl) ?_
  refine mj_go_bipush (v := 6) rfl (mj_dt dt_X9_init 129 rfl) ?_
  refine mj_go_bipush (v := 32) rfl (mj_dt dt_X9_init 130 rfl) ?_
  obtain ⟨c23, h⟩ := mj_ck_some h
  obtain ⟨m24, em24, h⟩ := mj_mw_some h
  refine ml_iast c23 (mj_dt dt_X9_init 131 rfl) ?_
  refine ml_eqm (M1 := m24) (by rw [em24] <;> rfl) ?_
  refine mj_go_dup rfl (mj_dt dt_X9_init 132 rfl) ?_
  refine mj_go_bipush (v := 7) rfl (mj_dt dt_X9_init 133 rfl) ?_
  refine mj_go_iconst (v := 0) rfl (mj_dt dt_X9_init 134 rfl) ?_
  obtain ⟨c25, h⟩ := mj_ck_some h
  obtain ⟨m26, em26, h⟩ := mj_mw_some h
  refine ml_iast c25 (mj_dt dt_X9_init 135 rfl) ?_
  refine ml_eqm (M1 := m26) (by rw [em26] <;> rfl) ?_
  refine mj_go_dup rfl (mj_dt dt_X9_init 136 rfl) ?_
  refine mj_go_bipush (v := 8) rfl (mj_dt dt_X9_init 137 rfl) ?_
  refine mj_go_bipush (v := 104) rfl (mj_dt dt_X9_init 138 rfl) ?_
  obtain ⟨c27, h⟩ := mj_ck_some h
  obtain ⟨m28, em28, h⟩ := mj_mw_some h
  refine ml_iast c27 (mj_dt dt_X9_init 139 rfl) ?_
  refine ml_eqm (M1 := m28) (by rw [em28] <;> rfl) ?_
  refine mj_go_dup rfl (mj_dt dt_X9_init 140 rfl) ?_
  refine mj_go_bipush (v := 9) rfl (mj_dt dt_X9_init 141 rfl) ?_
  refine mj_go_bipush (v := 111) rfl (mj_dt dt_X9_init 142 rfl) ?_
  obtain ⟨c29, h⟩ := mj_ck_some h
  obtain ⟨m30, em30, h⟩ := mj_mw_some h
  refine ml_iast c29 (mj_dt dt_X9_init 143 rfl) ?_
  refine ml_eqm (M1 := m30) (by rw [em30] <;> rfl) ?_
  refine mj_go_dup rfl (mj_dt dt_X9_init 144 rfl) ?_
  refine mj_go_bipush (v := 10) rfl (mj_dt dt_X9_init 145 rfl) ?_
  refine mj_go_bipush (v := 117) rfl (mj_dt dt_X9_init 146 rfl) ?_
  obtain ⟨c31, h⟩ := mj_ck_some h
  obtain ⟨m32, em32, h⟩ := mj_mw_some h
  refine ml_iast c31 (mj_dt dt_X9_init 147 rfl) ?_
  refine ml_eqm (M1 := m32) (by rw [em32] <;> rfl) ?_
  refine mj_go_dup rfl (mj_dt dt_X9_init 148 rfl) ?_
  refine mj_go_bipush (v := 11) rfl (mj_dt dt_X9_init 149 rfl) ?_
  refine mj_go_bipush (v := 115) rfl (mj_dt dt_X9_init 150 rfl) ?_
  obtain ⟨c33, h⟩ := mj_ck_some h
  obtain ⟨m34, em34, h⟩ := mj_mw_some h
  refine ml_iast c33 (mj_dt dt_X9_init 151 rfl) ?_
  refine ml_eqm (M1 := m34) (by rw [em34] <;> rfl) ?_
  refine mj_go_dup rfl (mj_dt dt_X9_init 152 rfl) ?_
  refine mj_go_bipush (v := 12) rfl (mj_dt dt_X9_init 153 rfl) ?_
  refine mj_go_bipush (v := 101) rfl (mj_dt dt_X9_init 154 rfl) ?_
  obtain ⟨c35, h⟩ := mj_ck_some h
  obtain ⟨m36, em36, h⟩ := mj_mw_some h
  refine ml_iast c35 (mj_dt dt_X9_init 155 rfl) ?_
  refine ml_eqm (M1 := m36) (by rw [em36] <;> rfl) ?_
  refine mj_go_dup rfl (mj_dt dt_X9_init 156 rfl) ?_
  refine mj_go_bipush (v := 13) rfl (mj_dt dt_X9_init 157 rfl) ?_
  refine mj_go_bipush (v := 32) rfl (mj_dt dt_X9_init 158 rfl) ?_
  obtain ⟨c37, h⟩ := mj_ck_some h
  obtain ⟨m38, em38, h⟩ := mj_mw_some h
  refine ml_iast c37 (mj_dt dt_X9_init 159 rfl) ?_
  refine ml_eqm (M1 := m38) (by rw [em38] <;> rfl) ?_
  refine mj_go_dup rfl (mj_dt dt_X9_init 160 rfl) ?_
  refine mj_go_bipush (v := 14) rfl (mj_dt dt_X9_init 161 rfl) ?_
  refine mj_go_iconst (v := 0) rfl (mj_dt dt_X9_init 162 rfl) ?_
  obtain ⟨c39, h⟩ := mj_ck_some h
  obtain ⟨m40, em40, h⟩ := mj_mw_some h
  refine ml_iast c39 (mj_dt dt_X9_init 163 rfl) ?_
  refine ml_eqm (M1 := m40) (by rw [em40] <;> rfl) ?_
  refine mj_go_dup rfl (mj_dt dt_X9_init 164 rfl) ?_
  refine mj_go_bipush (v := 15) rfl (mj_dt dt_X9_init 165 rfl) ?_
  refine mj_go_bipush (v := 115) rfl (mj_dt dt_X9_init 166 rfl) ?_
  obtain ⟨c41, h⟩ := mj_ck_some h
  obtain ⟨m42, em42, h⟩ := mj_mw_some h
  refine ml_iast c41 (mj_dt dt_X9_init 167 rfl) ?_
  refine ml_eqm (M1 := m42) (by rw [em42] <;> rfl) ?_
  refine mj_go_dup rfl (mj_dt dt_X9_init 168 rfl) ?_
  refine mj_go_bipush (v := 16) rfl (mj_dt dt_X9_init 169 rfl) ?_
  refine mj_go_bipush (v := 104) rfl (mj_dt dt_X9_init 170 rfl) ?_
  obtain ⟨c43, h⟩ := mj_ck_some h
  obtain ⟨m44, em44, h⟩ := mj_mw_some h
  refine ml_iast c43 (mj_dt dt_X9_init 171 rfl) ?_
  refine ml_eqm (M1 := m44) (by rw [em44] <;> rfl) ?_
  refine mj_go_dup rfl (mj_dt dt_X9_init 172 rfl) ?_
  refine mj_go_bipush (v := 17) rfl (mj_dt dt_X9_init 173 rfl) ?_
  refine mj_go_bipush (v := 97) rfl (mj_dt dt_X9_init 174 rfl) ?_
  obtain ⟨c45, h⟩ := mj_ck_some h
  obtain ⟨m46, em46, h⟩ := mj_mw_some h
  refine ml_iast c45 (mj_dt dt_X9_init 175 rfl) ?_
  refine ml_eqm (M1 := m46) (by rw [em46] <;> rfl) ?_
  refine mj_go_dup rfl (mj_dt dt_X9_init 176 rfl) ?_
  refine mj_go_bipush (v := 18) rfl (mj_dt dt_X9_init 177 rfl) ?_
  refine mj_go_bipush (v := 107) rfl (mj_dt dt_X9_init 178 rfl) ?_
  obtain ⟨c47, h⟩ := mj_ck_some h
  obtain ⟨m48, em48, h⟩ := mj_mw_some h
  refine ml_iast c47 (mj_dt dt_X9_init 179 rfl) ?_
  refine ml_eqm (M1 := m48) (by rw [em48] <;> rfl) ?_
  refine mj_go_dup rfl (mj_dt dt_X9_init 180 rfl) ?_
  refine mj_go_bipush (v := 19) rfl (mj_dt dt_X9_init 181 rfl) ?_
  refine mj_go_bipush (v := 101) rfl (mj_dt dt_X9_init 182 rfl) ?_
  obtain ⟨c49, h⟩ := mj_ck_some h
  obtain ⟨m50, em50, h⟩ := mj_mw_some h
  refine ml_iast c49 (mj_dt dt_X9_init 183 rfl) ?_
  refine ml_eqm (M1 := m50) (by rw [em50] <;> rfl) ?_
  refine mj_go_sub (lv' := [(0, .ref v0)]) (List.forall_mem_cons.mpr ⟨rfl, (fun _ h9 => absurd h9 List.not_mem_nil)⟩) ?_
  exact k_X9_init_I_314 h
def f_X9_init_I (N : Nat) (v0 : Nat) (m : mj_M) : Option (mj_M) := mj_ck (mj_fo m 9 v0) ( mj_mw (mj_setI m v0 3 50) (fun m2 => mj_ck (mj_fo m2 9 v0) ( mj_mw (mj_setI m2 v0 4 5) (fun m4 => mj_ck (mj_fo m4 9 v0) ( mj_mw (mj_setI m4 v0 5 4) (fun m6 => mj_ck (mj_fo m6 9 v0) ( mj_mw (mj_setI m6 v0 9 1) (fun m8 => mj_ck (mj_fo m8 9 v0) ( mj_mw (mj_setI m8 v0 10 (-1 : Int32)) (fun m10 => mj_ck (mj_fw m10 0 8) ( mj_mw (mj_new m10) (fun m12 => mj_ck (mj_fo m12 9 v0) ( mj_mw (mj_setR m12 v0 11 (some (m10.1))) (fun m14 => mj_ck (mj_fw m14 0 12) ( mj_mw (mj_new m14) (fun m16 => mj_ck (mj_fo m16 9 v0) ( mj_mw (mj_setR m16 v0 12 (some (m14.1))) (fun m18 => mj_ck (mj_fw m18 0 12) ( mj_mw (mj_new m18) (fun m20 => mj_ck (mj_fo m20 9 v0) ( mj_mw (mj_setR m20 v0 13 (some (m18.1))) (fun m22 => mj_ck (mj_fw m22 0 4) ( mj_mw (mj_new m22) (fun m24 => mj_ck (mj_fo m24 9 v0) ( mj_mw (mj_setR m24 v0 14 (some (m22.1))) (fun m26 => mj_ck (mj_fw m26 0 4) ( mj_mw (mj_new m26) (fun m28 => mj_ck (mj_fo m28 9 v0) ( mj_mw (mj_setR m28 v0 15 (some (m26.1))) (fun m30 => mj_ck (mj_fw m30 0 10) ( mj_mw (mj_new m30) (fun m32 => mj_ck (mj_fo m32 9 v0) ( mj_mw (mj_setR m32 v0 16 (some (m30.1))) (fun m34 => mj_ck (mj_fw m34 0 10) ( mj_mw (mj_new m34) (fun m36 => mj_ck (mj_fo m36 9 v0) ( mj_mw (mj_setR m36 v0 17 (some (m34.1))) (fun m38 => mj_ck (mj_fw m38 0 10) ( mj_mw (mj_new m38) (fun m40 => mj_ck (mj_fo m40 9 v0) ( mj_mw (mj_setR m40 v0 18 (some (m38.1))) (fun m42 => mj_ck (mj_fw m42 0 10) ( mj_mw (mj_new m42) (fun m44 => mj_ck (mj_fo m44 9 v0) ( mj_mw (mj_setR m44 v0 19 (some (m42.1))) (fun m46 => mj_ck (mj_fw m46 0 10) ( mj_mw (mj_new m46) (fun m48 => mj_ck (mj_fo m48 9 v0) ( mj_mw (mj_setR m48 v0 20 (some (m46.1))) (fun m50 => mj_ck (mj_fw m50 0 10) ( mj_mw (mj_new m50) (fun m52 => mj_ck (mj_fo m52 9 v0) ( mj_mw (mj_setR m52 v0 21 (some (m50.1))) (fun m54 => mj_ck (mj_fw m54 0 10) ( mj_mw (mj_new m54) (fun m56 => mj_ck (mj_fo m56 9 v0) ( mj_mw (mj_setR m56 v0 22 (some (m54.1))) (fun m58 => mj_ck (mj_fw m58 0 10) ( mj_mw (mj_new m58) (fun m60 => mj_ck (mj_fo m60 9 v0) ( mj_mw (mj_setR m60 v0 23 (some (m58.1))) (fun m62 => mj_ck (mj_fw m62 0 10) ( mj_mw (mj_new m62) (fun m64 => mj_ck (mj_fo m64 9 v0) ( mj_mw (mj_setR m64 v0 24 (some (m62.1))) (fun m66 => mj_ck (mj_fw m66 0 8) ( mj_mw (mj_new m66) (fun m68 => mj_ck (mj_fo m68 9 v0) ( mj_mw (mj_setR m68 v0 25 (some (m66.1))) (fun m70 => mj_ck (mj_fw m70 0 8) ( mj_mw (mj_new m70) (fun m72 => mj_ck (mj_fo m72 9 v0) ( mj_mw (mj_setR m72 v0 26 (some (m70.1))) (fun m74 => mj_ck (mj_fw m74 0 8) ( mj_mw (mj_new m74) (fun m76 => mj_ck (mj_fo m76 9 v0) ( mj_mw (mj_setR m76 v0 27 (some (m74.1))) (fun m78 => mj_ck (mj_fw m78 0 8) ( mj_mw (mj_new m78) (fun m80 => mj_ck (mj_fo m80 9 v0) ( mj_mw (mj_setR m80 v0 28 (some (m78.1))) (fun m82 => mj_ck (mj_fw m82 0 8) ( mj_mw (mj_new m82) (fun m84 => mj_ck (mj_fo m84 9 v0) ( mj_mw (mj_setR m84 v0 29 (some (m82.1))) (fun m86 => f_X9_init_I_180 N v0 m86))))))))))))))))))))))))))))))))))))))))))))))))))))))))))))))))))))))))))))))))))))))
theorem k_X9_init_I {L : Nat} {xs : Nat → Int32} {δ N : Nat} {v0 : Nat} {m : mj_M} (_ : 0 ≤ δ) {a : mj_M} (h : f_X9_init_I N v0 m = some a) : mj_Cl (mj_EX L xs) δ mY_X9_init [.ref v0] m (none, a) := by
  refine mj_cl_of ok_X9_init (Nat.le_of_ble_eq_true rfl) ?_
  unfold f_X9_init_I at h
  refine mj_go_aload_n (k := 0) (x := v0) rfl (mj_dt dt_X9_init 0 rfl) ?_
  refine mj_go_obj hm_X9_1 (Nat.le_of_ble_eq_true rfl) (mj_dt dt_X9_init 1 rfl) ?_
  refine mj_go_aload_n (k := 0) (x := v0) rfl (mj_dt dt_X9_init 2 rfl) ?_
  refine mj_go_bipush (v := 50) rfl (mj_dt dt_X9_init 3 rfl) ?_
  obtain ⟨c1, h⟩ := mj_ck_some h
  obtain ⟨m2, em2, h⟩ := mj_mw_some h
  refine ml_putI (c := 9) (k := 3) fd_9_3 rfl fl_X9_7 c1 (mj_dt dt_X9_init 4 rfl) ?_
  refine ml_eqm (M1 := m2) (by rw [em2] <;> rfl) ?_
  refine mj_go_aload_n (k := 0) (x := v0) rfl (mj_dt dt_X9_init 5 rfl) ?_
  refine mj_go_iconst (v := 5) rfl (mj_dt dt_X9_init 6 rfl) ?_
  obtain ⟨c3, h⟩ := mj_ck_some h
  obtain ⟨m4, em4, h⟩ := mj_mw_some h
  refine ml_putI (c := 9) (k := 4) fd_9_4 rfl fl_X9_13 c3 (mj_dt dt_X9_init 7 rfl) ?_
  refine ml_eqm (M1 := m4) (by rw [em4] <;> rfl) ?_
  refine mj_go_aload_n (k := 0) (x := v0) rfl (mj_dt dt_X9_init 8 rfl) ?_
  refine mj_go_iconst (v := 4) rfl (mj_dt dt_X9_init 9 rfl) ?_
  obtain ⟨c5, h⟩ := mj_ck_some h
  obtain ⟨m6, em6, h⟩ := mj_mw_some h
  refine ml_putI (c := 9) (k := 5) fd_9_5 rfl fl_X9_16 c5 (mj_dt dt_X9_init 10 rfl) ?_
  refine ml_eqm (M1 := m6) (by rw [em6] <;> rfl) ?_
  refine mj_go_aload_n (k := 0) (x := v0) rfl (mj_dt dt_X9_init 11 rfl) ?_
  refine mj_go_iconst (v := 1) rfl (mj_dt dt_X9_init 12 rfl) ?_
  obtain ⟨c7, h⟩ := mj_ck_some h
  obtain ⟨m8, em8, h⟩ := mj_mw_some h
  refine ml_putI (c := 9) (k := 9) fd_9_9 rfl fl_X9_19 c7 (mj_dt dt_X9_init 13 rfl) ?_
  refine ml_eqm (M1 := m8) (by rw [em8] <;> rfl) ?_
  refine mj_go_aload_n (k := 0) (x := v0) rfl (mj_dt dt_X9_init 14 rfl) ?_
  refine mj_go_iconst (v := -1) rfl (mj_dt dt_X9_init 15 rfl) ?_
  obtain ⟨c9, h⟩ := mj_ck_some h
  obtain ⟨m10, em10, h⟩ := mj_mw_some h
  refine ml_putI (c := 9) (k := 10) fd_9_10 rfl fl_X9_22 c9 (mj_dt dt_X9_init 16 rfl) ?_
  refine ml_eqm (M1 := m10) (by rw [em10] <;> rfl) ?_
  refine mj_go_aload_n (k := 0) (x := v0) rfl (mj_dt dt_X9_init 17 rfl) ?_
  refine mj_go_bipush (v := 8) rfl (mj_dt dt_X9_init 18 rfl) ?_
  obtain ⟨c11, h⟩ := mj_ck_some h
  obtain ⟨m12, em12, h⟩ := mj_mw_some h
  refine ml_newI c11 (mj_dt dt_X9_init 19 rfl) ?_
  refine ml_eqm (M1 := m12) (by rw [em12] <;> rfl) ?_
  obtain ⟨c13, h⟩ := mj_ck_some h
  obtain ⟨m14, em14, h⟩ := mj_mw_some h
  refine ml_putR (c := 9) (k := 11) fd_9_11 rfl fl_X9_25 c13 (mj_dt dt_X9_init 20 rfl) ?_
  refine ml_eqm (M1 := m14) (by rw [em14] <;> rfl) ?_
  refine mj_go_aload_n (k := 0) (x := v0) rfl (mj_dt dt_X9_init 21 rfl) ?_
  refine mj_go_bipush (v := 12) rfl (mj_dt dt_X9_init 22 rfl) ?_
  obtain ⟨c15, h⟩ := mj_ck_some h
  obtain ⟨m16, em16, h⟩ := mj_mw_some h
  refine ml_newI c15 (mj_dt dt_X9_init 23 rfl) ?_
  refine ml_eqm (M1 := m16) (by rw [em16] <;> rfl) ?_
  obtain ⟨c17, h⟩ := mj_ck_some h
  obtain ⟨m18, em18, h⟩ := mj_mw_some h
  refine ml_putR (c := 9) (k := 12) fd_9_12 rfl fl_X9_29 c17 (mj_dt dt_X9_init 24 rfl) ?_
  refine ml_eqm (M1 := m18) (by rw [em18] <;> rfl) ?_
  refine mj_go_aload_n (k := 0) (x := v0) rfl (mj_dt dt_X9_init 25 rfl) ?_
  refine mj_go_bipush (v := 12) rfl (mj_dt dt_X9_init 26 rfl) ?_
  obtain ⟨c19, h⟩ := mj_ck_some h
  obtain ⟨m20, em20, h⟩ := mj_mw_some h
  refine ml_newI c19 (mj_dt dt_X9_init 27 rfl) ?_
  refine ml_eqm (M1 := m20) (by rw [em20] <;> rfl) ?_
  obtain ⟨c21, h⟩ := mj_ck_some h
  obtain ⟨m22, em22, h⟩ := mj_mw_some h
  refine ml_putR (c := 9) (k := 13) fd_9_13 rfl fl_X9_32 c21 (mj_dt dt_X9_init 28 rfl) ?_
  refine ml_eqm (M1 := m22) (by rw [em22] <;> rfl) ?_
  refine mj_go_aload_n (k := 0) (x := v0) rfl (mj_dt dt_X9_init 29 rfl) ?_
  refine mj_go_iconst (v := 4) rfl (mj_dt dt_X9_init 30 rfl) ?_
  obtain ⟨c23, h⟩ := mj_ck_some h
  obtain ⟨m24, em24, h⟩ := mj_mw_some h
  refine ml_newI c23 (mj_dt dt_X9_init 31 rfl) ?_
  refine ml_eqm (M1 := m24) (by rw [em24] <;> rfl) ?_
  obtain ⟨c25, h⟩ := mj_ck_some h
  obtain ⟨m26, em26, h⟩ := mj_mw_some h
  refine ml_putR (c := 9) (k := 14) fd_9_14 rfl fl_X9_35 c25 (mj_dt dt_X9_init 32 rfl) ?_
  refine ml_eqm (M1 := m26) (by rw [em26] <;> rfl) ?_
  refine mj_go_aload_n (k := 0) (x := v0) rfl (mj_dt dt_X9_init 33 rfl) ?_
  refine mj_go_iconst (v := 4) rfl (mj_dt dt_X9_init 34 rfl) ?_
  obtain ⟨c27, h⟩ := mj_ck_some h
  obtain ⟨m28, em28, h⟩ := mj_mw_some h
  refine ml_newI c27 (mj_dt dt_X9_init 35 rfl) ?_
  refine ml_eqm (M1 := m28) (by rw [em28] <;> rfl) ?_
  obtain ⟨c29, h⟩ := mj_ck_some h
  obtain ⟨m30, em30, h⟩ := mj_mw_some h
  refine ml_putR (c := 9) (k := 15) fd_9_15 rfl fl_X9_38 c29 (mj_dt dt_X9_init 36 rfl) ?_
  refine ml_eqm (M1 := m30) (by rw [em30] <;> rfl) ?_
  refine mj_go_aload_n (k := 0) (x := v0) rfl (mj_dt dt_X9_init 37 rfl) ?_
  refine mj_go_bipush (v := 10) rfl (mj_dt dt_X9_init 38 rfl) ?_
  obtain ⟨c31, h⟩ := mj_ck_some h
  obtain ⟨m32, em32, h⟩ := mj_mw_some h
  refine ml_newI c31 (mj_dt dt_X9_init 39 rfl) ?_
  refine ml_eqm (M1 := m32) (by rw [em32] <;> rfl) ?_
  obtain ⟨c33, h⟩ := mj_ck_some h
  obtain ⟨m34, em34, h⟩ := mj_mw_some h
  refine ml_putR (c := 9) (k := 16) fd_9_16 rfl fl_X9_41 c33 (mj_dt dt_X9_init 40 rfl) ?_
  refine ml_eqm (M1 := m34) (by rw [em34] <;> rfl) ?_
  refine mj_go_aload_n (k := 0) (x := v0) rfl (mj_dt dt_X9_init 41 rfl) ?_
  refine mj_go_bipush (v := 10) rfl (mj_dt dt_X9_init 42 rfl) ?_
  obtain ⟨c35, h⟩ := mj_ck_some h
  obtain ⟨m36, em36, h⟩ := mj_mw_some h
  refine ml_newI c35 (mj_dt dt_X9_init 43 rfl) ?_
  refine ml_eqm (M1 := m36) (by rw [em36] <;> rfl) ?_
  obtain ⟨c37, h⟩ := mj_ck_some h
  obtain ⟨m38, em38, h⟩ := mj_mw_some h
  refine ml_putR (c := 9) (k := 17) fd_9_17 rfl fl_X9_44 c37 (mj_dt dt_X9_init 44 rfl) ?_
  refine ml_eqm (M1 := m38) (by rw [em38] <;> rfl) ?_
  refine mj_go_aload_n (k := 0) (x := v0) rfl (mj_dt dt_X9_init 45 rfl) ?_
  refine mj_go_bipush (v := 10) rfl (mj_dt dt_X9_init 46 rfl) ?_
  obtain ⟨c39, h⟩ := mj_ck_some h
  obtain ⟨m40, em40, h⟩ := mj_mw_some h
  refine ml_newI c39 (mj_dt dt_X9_init 47 rfl) ?_
  refine ml_eqm (M1 := m40) (by rw [em40] <;> rfl) ?_
  obtain ⟨c41, h⟩ := mj_ck_some h
  obtain ⟨m42, em42, h⟩ := mj_mw_some h
  refine ml_putR (c := 9) (k := 18) fd_9_18 rfl fl_X9_47 c41 (mj_dt dt_X9_init 48 rfl) ?_
  refine ml_eqm (M1 := m42) (by rw [em42] <;> rfl) ?_
  refine mj_go_aload_n (k := 0) (x := v0) rfl (mj_dt dt_X9_init 49 rfl) ?_
  refine mj_go_bipush (v := 10) rfl (mj_dt dt_X9_init 50 rfl) ?_
  obtain ⟨c43, h⟩ := mj_ck_some h
  obtain ⟨m44, em44, h⟩ := mj_mw_some h
  refine ml_newI c43 (mj_dt dt_X9_init 51 rfl) ?_
  refine ml_eqm (M1 := m44) (by rw [em44] <;> rfl) ?_
  obtain ⟨c45, h⟩ := mj_ck_some h
  obtain ⟨m46, em46, h⟩ := mj_mw_some h
  refine ml_putR (c := 9) (k := 19) fd_9_19 rfl fl_X9_50 c45 (mj_dt dt_X9_init 52 rfl) ?_
  refine ml_eqm (M1 := m46) (by rw [em46] <;> rfl) ?_
  refine mj_go_aload_n (k := 0) (x := v0) rfl (mj_dt dt_X9_init 53 rfl) ?_
  refine mj_go_bipush (v := 10) rfl (mj_dt dt_X9_init 54 rfl) ?_
  obtain ⟨c47, h⟩ := mj_ck_some h
  obtain ⟨m48, em48, h⟩ := mj_mw_some h
  refine ml_newI c47 (mj_dt dt_X9_init 55 rfl) ?_
  refine ml_eqm (M1 := m48) (by rw [em48] <;> rfl) ?_
  obtain ⟨c49, h⟩ := mj_ck_some h
  obtain ⟨m50, em50, h⟩ := mj_mw_some h
  refine ml_putR (c := 9) (k := 20) fd_9_20 rfl fl_X9_53 c49 (mj_dt dt_X9_init 56 rfl) ?_
  refine ml_eqm (M1 := m50) (by rw [em50] <;> rfl) ?_
  refine mj_go_aload_n (k := 0) (x := v0) rfl (mj_dt dt_X9_init 57 rfl) ?_
  refine mj_go_bipush (v := 10) rfl (mj_dt dt_X9_init 58 rfl) ?_
  obtain ⟨c51, h⟩ := mj_ck_some h
  obtain ⟨m52, em52, h⟩ := mj_mw_some h
  refine ml_newI c51 (mj_dt dt_X9_init 59 rfl) ?_
  refine ml_eqm (M1 := m52) (by rw [em52] <;> rfl) ?_
  obtain ⟨c53, h⟩ := mj_ck_some h
  obtain ⟨m54, em54, h⟩ := mj_mw_some h
  refine ml_putR (c := 9) (k := 21) fd_9_21 rfl fl_X9_56 c53 (mj_dt dt_X9_init 60 rfl) ?_
  refine ml_eqm (M1 := m54) (by rw [em54] <;> rfl) ?_
  refine mj_go_aload_n (k := 0) (x := v0) rfl (mj_dt dt_X9_init 61 rfl) ?_
  refine mj_go_bipush (v := 10) rfl (mj_dt dt_X9_init 62 rfl) ?_
  obtain ⟨c55, h⟩ := mj_ck_some h
  obtain ⟨m56, em56, h⟩ := mj_mw_some h
  refine ml_newI c55 (mj_dt dt_X9_init 63 rfl) ?_
  refine ml_eqm (M1 := m56) (by rw [em56] <;> rfl) ?_
  obtain ⟨c57, h⟩ := mj_ck_some h
  obtain ⟨m58, em58, h⟩ := mj_mw_some h
  refine ml_putR (c := 9) (k := 22) fd_9_22 rfl fl_X9_59 c57 (mj_dt dt_X9_init 64 rfl) ?_
  refine ml_eqm (M1 := m58) (by rw [em58] <;> rfl) ?_
  refine mj_go_aload_n (k := 0) (x := v0) rfl (mj_dt dt_X9_init 65 rfl) ?_
  refine mj_go_bipush (v := 10) rfl (mj_dt dt_X9_init 66 rfl) ?_
  obtain ⟨c59, h⟩ := mj_ck_some h
  obtain ⟨m60, em60, h⟩ := mj_mw_some h
  refine ml_newI c59 (mj_dt dt_X9_init 67 rfl) ?_
  refine ml_eqm (M1 := m60) (by rw [em60] <;> rfl) ?_
  obtain ⟨c61, h⟩ := mj_ck_some h
  obtain ⟨m62, em62, h⟩ := mj_mw_some h
  refine ml_putR (c := 9) (k := 23) fd_9_23 rfl fl_X9_62 c61 (mj_dt dt_X9_init 68 rfl) ?_
  refine ml_eqm (M1 := m62) (by rw [em62] <;> rfl) ?_
  refine mj_go_aload_n (k := 0) (x := v0) rfl (mj_dt dt_X9_init 69 rfl) ?_
  refine mj_go_bipush (v := 10) rfl (mj_dt dt_X9_init 70 rfl) ?_
  obtain ⟨c63, h⟩ := mj_ck_some h
  obtain ⟨m64, em64, h⟩ := mj_mw_some h
  refine ml_newI c63 (mj_dt dt_X9_init 71 rfl) ?_
  refine ml_eqm (M1 := m64) (by rw [em64] <;> rfl) ?_
  obtain ⟨c65, h⟩ := mj_ck_some h
  obtain ⟨m66, em66, h⟩ := mj_mw_some h
  refine ml_putR (c := 9) (k := 24) fd_9_24 rfl fl_X9_65 c65 (mj_dt dt_X9_init 72 rfl) ?_
  refine ml_eqm (M1 := m66) (by rw [em66] <;> rfl) ?_
  refine mj_go_aload_n (k := 0) (x := v0) rfl (mj_dt dt_X9_init 73 rfl) ?_
  refine mj_go_bipush (v := 8) rfl (mj_dt dt_X9_init 74 rfl) ?_
  obtain ⟨c67, h⟩ := mj_ck_some h
  obtain ⟨m68, em68, h⟩ := mj_mw_some h
  refine ml_newI c67 (mj_dt dt_X9_init 75 rfl) ?_
  refine ml_eqm (M1 := m68) (by rw [em68] <;> rfl) ?_
  obtain ⟨c69, h⟩ := mj_ck_some h
  obtain ⟨m70, em70, h⟩ := mj_mw_some h
  refine ml_putR (c := 9) (k := 25) fd_9_25 rfl fl_X9_68 c69 (mj_dt dt_X9_init 76 rfl) ?_
  refine ml_eqm (M1 := m70) (by rw [em70] <;> rfl) ?_
  refine mj_go_aload_n (k := 0) (x := v0) rfl (mj_dt dt_X9_init 77 rfl) ?_
  refine mj_go_bipush (v := 8) rfl (mj_dt dt_X9_init 78 rfl) ?_
  obtain ⟨c71, h⟩ := mj_ck_some h
  obtain ⟨m72, em72, h⟩ := mj_mw_some h
  refine ml_newI c71 (mj_dt dt_X9_init 79 rfl) ?_
  refine ml_eqm (M1 := m72) (by rw [em72] <;> rfl) ?_
  obtain ⟨c73, h⟩ := mj_ck_some h
  obtain ⟨m74, em74, h⟩ := mj_mw_some h
  refine ml_putR (c := 9) (k := 26) fd_9_26 rfl fl_X9_71 c73 (mj_dt dt_X9_init 80 rfl) ?_
  refine ml_eqm (M1 := m74) (by rw [em74] <;> rfl) ?_
  refine mj_go_aload_n (k := 0) (x := v0) rfl (mj_dt dt_X9_init 81 rfl) ?_
  refine mj_go_bipush (v := 8) rfl (mj_dt dt_X9_init 82 rfl) ?_
  obtain ⟨c75, h⟩ := mj_ck_some h
  obtain ⟨m76, em76, h⟩ := mj_mw_some h
  refine ml_newI c75 (mj_dt dt_X9_init 83 rfl) ?_
  refine ml_eqm (M1 := m76) (by rw [em76] <;> rfl) ?_
  obtain ⟨c77, h⟩ := mj_ck_some h
  obtain ⟨m78, em78, h⟩ := mj_mw_some h
  refine ml_putR (c := 9) (k := 27) fd_9_27 rfl fl_X9_74 c77 (mj_dt dt_X9_init 84 rfl) ?_
  refine ml_eqm (M1 := m78) (by rw [em78] <;> rfl) ?_
  refine mj_go_aload_n (k := 0) (x := v0) rfl (mj_dt dt_X9_init 85 rfl) ?_
  refine mj_go_bipush (v := 8) rfl (mj_dt dt_X9_init 86 rfl) ?_
  obtain ⟨c79, h⟩ := mj_ck_some h
  obtain ⟨m80, em80, h⟩ := mj_mw_some h
  refine ml_newI c79 (mj_dt dt_X9_init 87 rfl) ?_
  refine ml_eqm (M1 := m80) (by rw [em80] <;> rfl) ?_
  obtain ⟨c81, h⟩ := mj_ck_some h
  obtain ⟨m82, em82, h⟩ := mj_mw_some h
  refine ml_putR (c := 9) (k := 28) fd_9_28 rfl fl_X9_77 c81 (mj_dt dt_X9_init 88 rfl) ?_
  refine ml_eqm (M1 := m82) (by rw [em82] <;> rfl) ?_
  refine mj_go_aload_n (k := 0) (x := v0) rfl (mj_dt dt_X9_init 89 rfl) ?_
  refine mj_go_bipush (v := 8) rfl (mj_dt dt_X9_init 90 rfl) ?_
  obtain ⟨c83, h⟩ := mj_ck_some h
  obtain ⟨m84, em84, h⟩ := mj_mw_some h
  refine ml_newI c83 (mj_dt dt_X9_init 91 rfl) ?_
  refine ml_eqm (M1 := m84) (by rw [em84] <;> rfl) ?_
  obtain ⟨c85, h⟩ := mj_ck_some h
  obtain ⟨m86, em86, h⟩ := mj_mw_some h
  refine ml_putR (c := 9) (k := 29) fd_9_29 rfl fl_X9_80 c85 (mj_dt dt_X9_init 92 rfl) ?_
  refine ml_eqm (M1 := m86) (by rw [em86] <;> rfl) ?_
  refine mj_go_sub (lv' := [(0, .ref v0)]) (List.forall_mem_cons.mpr ⟨rfl, (fun _ h9 => absurd h9 List.not_mem_nil)⟩) ?_
  exact k_X9_init_I_180 h
