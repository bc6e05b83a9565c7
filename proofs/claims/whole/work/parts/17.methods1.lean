/-! METHODS as functions, and their rows over the small machine (printed by program from the printed instructions) -/
def f_X8_isShelf_14 (N : Nat) (m : mj_m) : Option (Int32) := (some 0)
theorem k_X8_isShelf_14 {L : Nat} {xs : Nat → Int32} {δ N : Nat} {m : mj_m} {a : Int32} (h : f_X8_isShelf_14 N m = some a) : mj_Go (mj_EX L xs) δ mY_X8_isShelf 14 [] [] (mj_fin m) (some (.int a), (mj_fin m)) := by
  unfold f_X8_isShelf_14 at h
  refine mj_go_iconst (v := 0) rfl (mj_dt dt_X8_isShelf 7 rfl) ?_
  obtain rfl := Option.some.inj h
  exact mj_go_ret (v := some (.int 0)) (Nat.le_of_ble_eq_true rfl) (mj_retZ (mj_dt dt_X8_isShelf 8 rfl) rfl rfl)
def f_X8_isShelf (N : Nat) (v0 : Int32) (m : mj_m) : Option (Int32) := if v0 < 0 then f_X8_isShelf_14 N m else (if 8 ≤ v0 then f_X8_isShelf_14 N m else ((some 1)))
theorem k_X8_isShelf {L : Nat} {xs : Nat → Int32} {δ N : Nat} {v0 : Int32} {m : mj_m} (_ : 0 ≤ δ) {a : Int32} (h : f_X8_isShelf N v0 m = some a) : mj_Cl (mj_EX L xs) δ mY_X8_isShelf [.int v0] (mj_fin m) (some (.int a), (mj_fin m)) := by
  refine mj_cl_of ok_X8_isShelf (Nat.le_of_ble_eq_true rfl) ?_
  unfold f_X8_isShelf at h
  refine mj_go_iload_n (k := 0) (x := v0) rfl (mj_dt dt_X8_isShelf 0 rfl) ?_
  refine mj_go_if_lt (tgt := 14) rfl (mj_dt dt_X8_isShelf 1 rfl) (fun b1 => ?_) (fun b1 => ?_)
  · rw [if_pos b1] at h
    refine mj_go_sub (lv' := []) (fun _ h9 => absurd h9 List.not_mem_nil) ?_
    exact k_X8_isShelf_14 h
  · rw [if_neg b1] at h
    refine mj_go_iload_n (k := 0) (x := v0) rfl (mj_dt dt_X8_isShelf 2 rfl) ?_
    refine mj_go_bipush (v := 8) rfl (mj_dt dt_X8_isShelf 3 rfl) ?_
    refine mj_go_icmp_ge (tgt := 14) rfl (mj_dt dt_X8_isShelf 4 rfl) (fun b2 => ?_) (fun b2 => ?_)
    · rw [if_pos b2] at h
      refine mj_go_sub (lv' := []) (fun _ h9 => absurd h9 List.not_mem_nil) ?_
      exact k_X8_isShelf_14 h
    · rw [if_neg b2] at h
      refine mj_go_iconst (v := 1) rfl (mj_dt dt_X8_isShelf 5 rfl) ?_
      refine mj_go_goto (tgt := 15) rfl (mj_dt dt_X8_isShelf 6 rfl) ?_
      obtain rfl := Option.some.inj h
      exact mj_go_ret (v := some (.int 1)) (Nat.le_of_ble_eq_true rfl) (mj_retZ (mj_dt dt_X8_isShelf 8 rfl) rfl rfl)
def f_J7_fill_d0a16_6 (N : Nat) (v0 : Nat) (v1 : Int64) (v4 : Int32) (k_6 : Int32 × mj_m → Option (mj_m)) (s : Int32 × mj_m) : Option (mj_m) := if v4 ≤ s.1 then (some s.2) else (mj_ck (mj_b 1 v0 s.1) ( mj_mw (mj_wL s.2 v0 (s.1.toNatClampNeg) v1) (fun m3 => mj_mw (s.1 + 1) (fun x4 => k_6 (x4, m3)))))
theorem k_J7_fill_d0a16_6 {L : Nat} {xs : Nat → Int32} {δ N : Nat} {v0 : Nat} {v1 : Int64} {v4 : Int32} : ∀ (n : Nat) (s : Int32 × mj_m) (a : mj_m), mj_lp n (f_J7_fill_d0a16_6 N v0 v1 v4) s = some a → mj_Go (mj_EX L xs) δ mY_J7_fill_d0a16 6 [(0, .ref v0), (1, .long v1), (3, .int s.1), (4, .int v4)] [] (mj_fin s.2) (none, (mj_fin a)) := by
  refine mj_lp_sound (fun k_6 s a q_6 h => ?_)
  unfold f_J7_fill_d0a16_6 at h
  refine mj_go_iload_n (k := 3) (x := s.1) rfl (mj_dt dt_J7_fill_d0a16 5 rfl) ?_
  refine mj_go_iload (i := 4) (x := v4) rfl (mj_dt dt_J7_fill_d0a16 6 rfl) ?_
  refine mj_go_icmp_ge (tgt := 22) rfl (mj_dt dt_J7_fill_d0a16 7 rfl) (fun b1 => ?_) (fun b1 => ?_)
  · rw [if_pos b1] at h
    obtain rfl := Option.some.inj h
    exact mj_go_ret (v := none) (Nat.le_of_ble_eq_true rfl) (mj_retV (mj_dt dt_J7_fill_d0a16 14 rfl) rfl)
  · rw [if_neg b1] at h
    refine mj_go_aload_n (k := 0) (x := v0) rfl (mj_dt dt_J7_fill_d0a16 8 rfl) ?_
    refine mj_go_iload_n (k := 3) (x := s.1) rfl (mj_dt dt_J7_fill_d0a16 9 rfl) ?_
    refine mj_go_lload_n (k := 1) (x := v1) rfl (mj_dt dt_J7_fill_d0a16 10 rfl) ?_
    obtain ⟨c2, h⟩ := mj_ck_some h
    obtain ⟨m3, em3, h⟩ := mj_mw_some h
    refine ml_last c2 (mj_dt dt_J7_fill_d0a16 11 rfl) ?_
    refine ml_eqm (M1 := (mj_fin m3)) (by rw [em3] <;> rfl) ?_
    obtain ⟨x4, ex4, h⟩ := mj_mw_some h
    refine mj_go_iinc (i := 3) (x := s.1) (v := x4) rfl (by rw [ex4] <;> rfl) (by decide) (mj_dt dt_J7_fill_d0a16 12 rfl) ?_
    refine mj_go_goto (tgt := 6) rfl (mj_dt dt_J7_fill_d0a16 13 rfl) ?_
    refine mj_go_sub (lv' := [(0, .ref v0), (1, .long v1), (3, .int x4), (4, .int v4)]) (List.forall_mem_cons.mpr ⟨rfl, (List.forall_mem_cons.mpr ⟨rfl, (List.forall_mem_cons.mpr ⟨rfl, (List.forall_mem_cons.mpr ⟨rfl, (fun _ h9 => absurd h9 List.not_mem_nil)⟩)⟩)⟩)⟩) ?_
    exact q_6 _ _ h
def f_J7_fill_d0a16 (N : Nat) (v0 : Nat) (v1 : Int64) (m : mj_m) : Option (mj_m) := mj_ck (mj_ar 1 v0) ( mj_mw (Int32.ofNat (mj_sh v0).2) (fun x2 => mj_lp N (f_J7_fill_d0a16_6 N v0 v1 x2) (0, m)))
theorem k_J7_fill_d0a16 {L : Nat} {xs : Nat → Int32} {δ N : Nat} {v0 : Nat} {v1 : Int64} {m : mj_m} (_ : 0 ≤ δ) {a : mj_m} (h : f_J7_fill_d0a16 N v0 v1 m = some a) : mj_Cl (mj_EX L xs) δ mY_J7_fill_d0a16 [.ref v0, .long v1] (mj_fin m) (none, (mj_fin a)) := by
  refine mj_cl_of ok_J7_fill_d0a16 (Nat.le_of_ble_eq_true rfl) ?_
  unfold f_J7_fill_d0a16 at h
  refine mj_go_iconst (v := 0) rfl (mj_dt dt_J7_fill_d0a16 0 rfl) ?_
  refine mj_go_istore_n (k := 3) (by decide) (mj_dt dt_J7_fill_d0a16 1 rfl) ?_
  refine mj_go_aload_n (k := 0) (x := v0) rfl (mj_dt dt_J7_fill_d0a16 2 rfl) ?_
  obtain ⟨c1, h⟩ := mj_ck_some h
  refine mj_go_alen (mj_ar_use c1).1 (k := 1) (by decide) (mj_ar_use c1).2 (mj_dt dt_J7_fill_d0a16 3 rfl) ?_
  obtain ⟨x2, ex2, h⟩ := mj_mw_some h
  refine ml_eqi ex2 ?_
  refine mj_go_istore (i := 4) (by decide) (mj_dt dt_J7_fill_d0a16 4 rfl) ?_
  refine mj_go_sub (lv' := [(0, .ref v0), (1, .long v1), (3, .int 0), (4, .int x2)]) (List.forall_mem_cons.mpr ⟨rfl, (List.forall_mem_cons.mpr ⟨rfl, (List.forall_mem_cons.mpr ⟨rfl, (List.forall_mem_cons.mpr ⟨rfl, (fun _ h9 => absurd h9 List.not_mem_nil)⟩)⟩)⟩)⟩) ?_
  exact k_J7_fill_d0a16_6 N _ _ h
def f_X6_holdRow (N : Nat) (v0 : Nat) (v1 : Int32) (v2 : Int32) (m : mj_m) : Option (mj_m) := mj_ck (mj_o 6 v0) ( mj_mw (mj_wI m v0 1 (100 + v1)) (fun m2 => mj_mw (mj_wI m2 v0 2 v2) (fun m3 => (f_J7_fill_d0a16 N (v0 + 1) 0 m3).bind (fun r4 => some r4))))
theorem k_X6_holdRow {L : Nat} {xs : Nat → Int32} {δ N : Nat} {v0 : Nat} {v1 : Int32} {v2 : Int32} {m : mj_m} (hδ : 1 ≤ δ) {a : mj_m} (h : f_X6_holdRow N v0 v1 v2 m = some a) : mj_Cl (mj_EX L xs) δ mY_X6_holdRow [.ref v0, .int v1, .int v2] (mj_fin m) (none, (mj_fin a)) := by
  obtain ⟨δ, rfl⟩ : ∃ d, δ = d + 1 := ⟨δ - 1, by omega⟩
  have hδ : 0 ≤ δ := by omega
  refine mj_cl_of ok_X6_holdRow (Nat.le_of_ble_eq_true rfl) ?_
  unfold f_X6_holdRow at h
  refine mj_go_aload_n (k := 0) (x := v0) rfl (mj_dt dt_X6_holdRow 0 rfl) ?_
  refine mj_go_bipush (v := 100) rfl (mj_dt dt_X6_holdRow 1 rfl) ?_
  refine mj_go_iload_n (k := 1) (x := v1) rfl (mj_dt dt_X6_holdRow 2 rfl) ?_
  refine mj_go_iadd (mj_dt dt_X6_holdRow 3 rfl) ?_
  obtain ⟨c1, h⟩ := mj_ck_some h
  obtain ⟨m2, em2, h⟩ := mj_mw_some h
  refine ml_putI (c := 6) (k := 1) fd_6_1 rfl fl_X6_15 c1 (mj_dt dt_X6_holdRow 4 rfl) ?_
  refine ml_eqm (M1 := (mj_fin m2)) (by rw [em2] <;> rfl) ?_
  refine mj_go_aload_n (k := 0) (x := v0) rfl (mj_dt dt_X6_holdRow 5 rfl) ?_
  refine mj_go_iload_n (k := 2) (x := v2) rfl (mj_dt dt_X6_holdRow 6 rfl) ?_
  obtain ⟨m3, em3, h⟩ := mj_mw_some h
  refine ml_putI (c := 6) (k := 2) fd_6_2 rfl fl_X6_19 c1 (mj_dt dt_X6_holdRow 7 rfl) ?_
  refine ml_eqm (M1 := (mj_fin m3)) (by rw [em3] <;> rfl) ?_
  refine mj_go_aload_n (k := 0) (x := v0) rfl (mj_dt dt_X6_holdRow 8 rfl) ?_
  refine ml_getR (c := 6) (k := 0) (q := v0 + 1) fd_6_0 (mj_RFs c1) (Or.inl fl_X6_9) c1 (mj_dt dt_X6_holdRow 9 rfl) ?_
  refine mj_go_lconst (v := 0) rfl (mj_dt dt_X6_holdRow 10 rfl) ?_
  obtain ⟨r4, er4, h⟩ := mj_bind_some h
  refine ml_callS (Y' := mY_J7_fill_d0a16) (as := [.ref (v0 + 1), .long 0]) (rest := []) (v := none) (M1 := (mj_fin r4)) lm_X6_25 wc_J7_fill_d0a16 pl_J7_fill_d0a16 ok_J7_fill_d0a16 rfl rfl (Nat.le_of_ble_eq_true rfl) (k_J7_fill_d0a16 (by omega) er4) (mj_dt dt_X6_holdRow 11 rfl) ?_
  obtain rfl := Option.some.inj h
  exact mj_go_ret (v := none) (Nat.le_of_ble_eq_true rfl) (mj_retV (mj_dt dt_X6_holdRow 12 rfl) rfl)
def f_X8_refuse_20 (N : Nat) (v1 : Int32) (m : mj_m) : Option (Int32 × mj_m) := some (-v1, m)
theorem k_X8_refuse_20 {L : Nat} {xs : Nat → Int32} {δ N : Nat} {v1 : Int32} {m : mj_m} {a : Int32 × mj_m} (h : f_X8_refuse_20 N v1 m = some a) : mj_Go (mj_EX L xs) δ mY_X8_refuse 20 [(1, .int v1)] [] (mj_fin m) (some (.int a.1), (mj_fin a.2)) := by
  unfold f_X8_refuse_20 at h
  refine mj_go_iload_n (k := 1) (x := v1) rfl (mj_dt dt_X8_refuse 13 rfl) ?_
  refine mj_go_ineg (mj_dt dt_X8_refuse 14 rfl) ?_
  obtain rfl := Option.some.inj h
  exact mj_go_ret (v := some (.int (-v1))) (Nat.le_of_ble_eq_true rfl) (mj_retI (mj_dt dt_X8_refuse 15 rfl) rfl)
def f_X8_refuse (N : Nat) (v1 : Int32) (m : mj_m) : Option (Int32 × mj_m) := if v1 ≤ 0 then f_X8_refuse_20 N v1 m else (if 7 < v1 then f_X8_refuse_20 N v1 m else (mj_ck (mj_b 0 77 v1) ( mj_mw (mj_wI m 77 (v1.toNatClampNeg) ((m.1 77 v1.toNatClampNeg) + 1)) (fun m4 => f_X8_refuse_20 N v1 m4))))
theorem k_X8_refuse {L : Nat} {xs : Nat → Int32} {δ N : Nat} {v1 : Int32} {m : mj_m} (_ : 0 ≤ δ) {a : Int32 × mj_m} (h : f_X8_refuse N v1 m = some a) : mj_Cl (mj_EX L xs) δ mY_X8_refuse [.ref 0, .int v1] (mj_fin m) (some (.int a.1), (mj_fin a.2)) := by
  refine mj_cl_of ok_X8_refuse (Nat.le_of_ble_eq_true rfl) ?_
  unfold f_X8_refuse at h
  refine mj_go_iload_n (k := 1) (x := v1) rfl (mj_dt dt_X8_refuse 0 rfl) ?_
  refine mj_go_if_le (tgt := 20) rfl (mj_dt dt_X8_refuse 1 rfl) (fun b1 => ?_) (fun b1 => ?_)
  · rw [if_pos b1] at h
    refine mj_go_sub (lv' := [(1, .int v1)]) (List.forall_mem_cons.mpr ⟨rfl, (fun _ h9 => absurd h9 List.not_mem_nil)⟩) ?_
    exact k_X8_refuse_20 h
  · rw [if_neg b1] at h
    refine mj_go_iload_n (k := 1) (x := v1) rfl (mj_dt dt_X8_refuse 2 rfl) ?_
    refine mj_go_bipush (v := 7) rfl (mj_dt dt_X8_refuse 3 rfl) ?_
    refine mj_go_icmp_gt (tgt := 20) rfl (mj_dt dt_X8_refuse 4 rfl) (fun b2 => ?_) (fun b2 => ?_)
    · rw [if_pos b2] at h
      refine mj_go_sub (lv' := [(1, .int v1)]) (List.forall_mem_cons.mpr ⟨rfl, (fun _ h9 => absurd h9 List.not_mem_nil)⟩) ?_
      exact k_X8_refuse_20 h
    · rw [if_neg b2] at h
      refine mj_go_aload_n (k := 0) (x := 0) rfl (mj_dt dt_X8_refuse 5 rfl) ?_
      refine ml_getR (c := 8) (k := 8) (q := 77) fd_8_8 rf_0_8 (Or.inl fl_X8_66) ho_0 (mj_dt dt_X8_refuse 6 rfl) ?_
      refine mj_go_iload_n (k := 1) (x := v1) rfl (mj_dt dt_X8_refuse 7 rfl) ?_
      refine mj_go_dup2_11 rfl rfl (mj_dt dt_X8_refuse 8 rfl) ?_
      obtain ⟨c3, h⟩ := mj_ck_some h
      refine mk_iald c3 (mj_dt dt_X8_refuse 9 rfl) ?_
      refine mj_go_iconst (v := 1) rfl (mj_dt dt_X8_refuse 10 rfl) ?_
      refine mj_go_iadd (mj_dt dt_X8_refuse 11 rfl) ?_
      obtain ⟨m4, em4, h⟩ := mj_mw_some h
      refine ml_iast c3 (mj_dt dt_X8_refuse 12 rfl) ?_
      refine ml_eqm (M1 := (mj_fin m4)) (by rw [em4] <;> rfl) ?_
      refine mj_go_sub (lv' := [(1, .int v1)]) (List.forall_mem_cons.mpr ⟨rfl, (fun _ h9 => absurd h9 List.not_mem_nil)⟩) ?_
      exact k_X8_refuse_20 h
def f_X8_row_32 (N : Nat) (m : mj_m) : Option (Int32 × mj_m) := (f_X8_refuse N 6 m).bind (fun r1 => some (r1.1, r1.2))
theorem k_X8_row_32 {L : Nat} {xs : Nat → Int32} {δ N : Nat} {m : mj_m} (hδ : 1 ≤ δ) {a : Int32 × mj_m} (h : f_X8_row_32 N m = some a) : mj_Go (mj_EX L xs) (δ + 1) mY_X8_row 32 [(0, .ref 0)] [] (mj_fin m) (some (.int a.1), (mj_fin a.2)) := by
  unfold f_X8_row_32 at h
  refine mj_go_aload_n (k := 0) (x := 0) rfl (mj_dt dt_X8_row 18 rfl) ?_
  refine mj_go_bipush (v := 6) rfl (mj_dt dt_X8_row 19 rfl) ?_
  obtain ⟨r1, er1, h⟩ := mj_bind_some h
  refine ml_callV (Y' := mY_X8_refuse) (as := [.int 6]) (rest := []) (c := 8) (v := (some (.int r1.1))) (M1 := (mj_fin r1.2)) ho_0 rfl lm_X8_86 wc_X8_refuse pl_X8_refuse ok_X8_refuse rfl rfl (Nat.le_of_ble_eq_true rfl) (k_X8_refuse (by omega) er1) (mj_dt dt_X8_row 20 rfl) ?_
  obtain rfl := Option.some.inj h
  exact mj_go_ret (v := some (.int r1.1)) (Nat.le_of_ble_eq_true rfl) (mj_retI (mj_dt dt_X8_row 21 rfl) rfl)
def f_X8_row (N : Nat) (v1 : Int32) (v2 : Int32) (v3 : Int32) (m : mj_m) : Option (Int32 × mj_m) := (f_X8_isShelf N v1 m).bind (fun r1 => if r1 = 0 then ((f_X8_refuse N 1 m).bind (fun r3 => some (r3.1, r3.2))) else (if 0 ≤ v3 then (if v2 < 0 then f_X8_row_32 N m else (if v2 ≤ 3 then (if v3 ≤ 120 then (mj_ck (mj_b 3 35 v1) ( (f_X6_holdRow N (79 + 2 * v1.toNatClampNeg) v2 v3 m).bind (fun r8 => some (1, r8)))) else ((f_X8_refuse N 7 m).bind (fun r7 => some (r7.1, r7.2)))) else f_X8_row_32 N m)) else ((f_X8_refuse N 4 m).bind (fun r4 => some (r4.1, r4.2)))))
theorem k_X8_row {L : Nat} {xs : Nat → Int32} {δ N : Nat} {v1 : Int32} {v2 : Int32} {v3 : Int32} {m : mj_m} (hδ : 2 ≤ δ) {a : Int32 × mj_m} (h : f_X8_row N v1 v2 v3 m = some a) : mj_Cl (mj_EX L xs) δ mY_X8_row [.ref 0, .int v1, .int v2, .int v3] (mj_fin m) (some (.int a.1), (mj_fin a.2)) := by
  obtain ⟨δ, rfl⟩ : ∃ d, δ = d + 1 := ⟨δ - 1, by omega⟩
  have hδ : 1 ≤ δ := by omega
  refine mj_cl_of ok_X8_row (Nat.le_of_ble_eq_true rfl) ?_
  unfold f_X8_row at h
  refine mj_go_iload_n (k := 1) (x := v1) rfl (mj_dt dt_X8_row 0 rfl) ?_
  obtain ⟨r1, er1, h⟩ := mj_bind_some h
  refine ml_callS (Y' := mY_X8_isShelf) (as := [.int v1]) (rest := []) (v := (some (.int r1))) (M1 := (mj_fin m)) lm_X8_82 wc_X8_isShelf pl_X8_isShelf ok_X8_isShelf rfl rfl (Nat.le_of_ble_eq_true rfl) (k_X8_isShelf (by omega) er1) (mj_dt dt_X8_row 1 rfl) ?_
  refine mj_go_if_ne (tgt := 13) rfl (mj_dt dt_X8_row 2 rfl) (fun b2 => ?_) (fun b2 => ?_)
  · rw [if_neg b2] at h
    refine mj_go_iload_n (k := 3) (x := v3) rfl (mj_dt dt_X8_row 7 rfl) ?_
    refine mj_go_if_ge (tgt := 23) rfl (mj_dt dt_X8_row 8 rfl) (fun b3 => ?_) (fun b3 => ?_)
    · rw [if_pos b3] at h
      refine mj_go_iload_n (k := 2) (x := v2) rfl (mj_dt dt_X8_row 13 rfl) ?_
      refine mj_go_if_lt (tgt := 32) rfl (mj_dt dt_X8_row 14 rfl) (fun b4 => ?_) (fun b4 => ?_)
      · rw [if_pos b4] at h
        refine mj_go_sub (lv' := [(0, .ref 0)]) (List.forall_mem_cons.mpr ⟨rfl, (fun _ h9 => absurd h9 List.not_mem_nil)⟩) ?_
        exact k_X8_row_32 hδ h
      · rw [if_neg b4] at h
        refine mj_go_iload_n (k := 2) (x := v2) rfl (mj_dt dt_X8_row 15 rfl) ?_
        refine mj_go_iconst (v := 3) rfl (mj_dt dt_X8_row 16 rfl) ?_
        refine mj_go_icmp_le (tgt := 39) rfl (mj_dt dt_X8_row 17 rfl) (fun b5 => ?_) (fun b5 => ?_)
        · rw [if_pos b5] at h
          refine mj_go_iload_n (k := 3) (x := v3) rfl (mj_dt dt_X8_row 22 rfl) ?_
          refine mj_go_bipush (v := 120) rfl (mj_dt dt_X8_row 23 rfl) ?_
          refine mj_go_icmp_le (tgt := 52) rfl (mj_dt dt_X8_row 24 rfl) (fun b6 => ?_) (fun b6 => ?_)
          · rw [if_pos b6] at h
            refine mj_go_aload_n (k := 0) (x := 0) rfl (mj_dt dt_X8_row 29 rfl) ?_
            refine ml_getR (c := 8) (k := 2) (q := 35) fd_8_2 rf_0_2 (Or.inl fl_X8_21) ho_0 (mj_dt dt_X8_row 30 rfl) ?_
            refine mj_go_iload_n (k := 1) (x := v1) rfl (mj_dt dt_X8_row 31 rfl) ?_
            obtain ⟨c7, h⟩ := mj_ck_some h
            refine ml_aald3 (q := 79 + 2 * v1.toNatClampNeg) c7 (mj_hs35 c7).1 (mj_dt dt_X8_row 32 rfl) ?_
            refine mj_go_iload_n (k := 2) (x := v2) rfl (mj_dt dt_X8_row 33 rfl) ?_
            refine mj_go_iload_n (k := 3) (x := v3) rfl (mj_dt dt_X8_row 34 rfl) ?_
            obtain ⟨r8, er8, h⟩ := mj_bind_some h
            refine ml_callV (Y' := mY_X6_holdRow) (as := [.int v2, .int v3]) (rest := []) (c := 6) (v := none) (M1 := (mj_fin r8)) (mj_hs35 c7).2 rfl lm_X8_90 wc_X6_holdRow pl_X6_holdRow ok_X6_holdRow rfl rfl (Nat.le_of_ble_eq_true rfl) (k_X6_holdRow (by omega) er8) (mj_dt dt_X8_row 35 rfl) ?_
            refine mj_go_iconst (v := 1) rfl (mj_dt dt_X8_row 36 rfl) ?_
            obtain rfl := Option.some.inj h
            exact mj_go_ret (v := some (.int 1)) (Nat.le_of_ble_eq_true rfl) (mj_retI (mj_dt dt_X8_row 37 rfl) rfl)
          · rw [if_neg b6] at h
            refine mj_go_aload_n (k := 0) (x := 0) rfl (mj_dt dt_X8_row 25 rfl) ?_
            refine mj_go_bipush (v := 7) rfl (mj_dt dt_X8_row 26 rfl) ?_
            obtain ⟨r7, er7, h⟩ := mj_bind_some h
            refine ml_callV (Y' := mY_X8_refuse) (as := [.int 7]) (rest := []) (c := 8) (v := (some (.int r7.1))) (M1 := (mj_fin r7.2)) ho_0 rfl lm_X8_86 wc_X8_refuse pl_X8_refuse ok_X8_refuse rfl rfl (Nat.le_of_ble_eq_true rfl) (k_X8_refuse (by omega) er7) (mj_dt dt_X8_row 27 rfl) ?_
            obtain rfl := Option.some.inj h
            exact mj_go_ret (v := some (.int r7.1)) (Nat.le_of_ble_eq_true rfl) (mj_retI (mj_dt dt_X8_row 28 rfl) rfl)
        · rw [if_neg b5] at h
          refine mj_go_sub (lv' := [(0, .ref 0)]) (List.forall_mem_cons.mpr ⟨rfl, (fun _ h9 => absurd h9 List.not_mem_nil)⟩) ?_
          exact k_X8_row_32 hδ h
    · rw [if_neg b3] at h
      refine mj_go_aload_n (k := 0) (x := 0) rfl (mj_dt dt_X8_row 9 rfl) ?_
      refine mj_go_iconst (v := 4) rfl (mj_dt dt_X8_row 10 rfl) ?_
      obtain ⟨r4, er4, h⟩ := mj_bind_some h
      refine ml_callV (Y' := mY_X8_refuse) (as := [.int 4]) (rest := []) (c := 8) (v := (some (.int r4.1))) (M1 := (mj_fin r4.2)) ho_0 rfl lm_X8_86 wc_X8_refuse pl_X8_refuse ok_X8_refuse rfl rfl (Nat.le_of_ble_eq_true rfl) (k_X8_refuse (by omega) er4) (mj_dt dt_X8_row 11 rfl) ?_
      obtain rfl := Option.some.inj h
      exact mj_go_ret (v := some (.int r4.1)) (Nat.le_of_ble_eq_true rfl) (mj_retI (mj_dt dt_X8_row 12 rfl) rfl)
  · rw [if_pos b2] at h
    refine mj_go_aload_n (k := 0) (x := 0) rfl (mj_dt dt_X8_row 3 rfl) ?_
    refine mj_go_iconst (v := 1) rfl (mj_dt dt_X8_row 4 rfl) ?_
    obtain ⟨r3, er3, h⟩ := mj_bind_some h
    refine ml_callV (Y' := mY_X8_refuse) (as := [.int 1]) (rest := []) (c := 8) (v := (some (.int r3.1))) (M1 := (mj_fin r3.2)) ho_0 rfl lm_X8_86 wc_X8_refuse pl_X8_refuse ok_X8_refuse rfl rfl (Nat.le_of_ble_eq_true rfl) (k_X8_refuse (by omega) er3) (mj_dt dt_X8_row 5 rfl) ?_
    obtain rfl := Option.some.inj h
    exact mj_go_ret (v := some (.int r3.1)) (Nat.le_of_ble_eq_true rfl) (mj_retI (mj_dt dt_X8_row 6 rfl) rfl)
def f_X9_isShelf_14 (N : Nat) (m : mj_m) : Option (Int32) := (some 0)
theorem k_X9_isShelf_14 {L : Nat} {xs : Nat → Int32} {δ N : Nat} {m : mj_m} {a : Int32} (h : f_X9_isShelf_14 N m = some a) : mj_Go (mj_EX L xs) δ mY_X9_isShelf 14 [] [] (mj_fin m) (some (.int a), (mj_fin m)) := by
  unfold f_X9_isShelf_14 at h
  refine mj_go_iconst (v := 0) rfl (mj_dt dt_X9_isShelf 7 rfl) ?_
  obtain rfl := Option.some.inj h
  exact mj_go_ret (v := some (.int 0)) (Nat.le_of_ble_eq_true rfl) (mj_retZ (mj_dt dt_X9_isShelf 8 rfl) rfl rfl)
def f_X9_isShelf (N : Nat) (v1 : Int32) (m : mj_m) : Option (Int32) := if v1 < 0 then f_X9_isShelf_14 N m else (if 8 ≤ v1 then f_X9_isShelf_14 N m else ((some 1)))
theorem k_X9_isShelf {L : Nat} {xs : Nat → Int32} {δ N : Nat} {v1 : Int32} {m : mj_m} (_ : 0 ≤ δ) {a : Int32} (h : f_X9_isShelf N v1 m = some a) : mj_Cl (mj_EX L xs) δ mY_X9_isShelf [.ref 95, .int v1] (mj_fin m) (some (.int a), (mj_fin m)) := by
  refine mj_cl_of ok_X9_isShelf (Nat.le_of_ble_eq_true rfl) ?_
  unfold f_X9_isShelf at h
  refine mj_go_iload_n (k := 1) (x := v1) rfl (mj_dt dt_X9_isShelf 0 rfl) ?_
  refine mj_go_if_lt (tgt := 14) rfl (mj_dt dt_X9_isShelf 1 rfl) (fun b1 => ?_) (fun b1 => ?_)
  · rw [if_pos b1] at h
    refine mj_go_sub (lv' := []) (fun _ h9 => absurd h9 List.not_mem_nil) ?_
    exact k_X9_isShelf_14 h
  · rw [if_neg b1] at h
    refine mj_go_iload_n (k := 1) (x := v1) rfl (mj_dt dt_X9_isShelf 2 rfl) ?_
    refine mj_go_bipush (v := 8) rfl (mj_dt dt_X9_isShelf 3 rfl) ?_
    refine mj_go_icmp_ge (tgt := 14) rfl (mj_dt dt_X9_isShelf 4 rfl) (fun b2 => ?_) (fun b2 => ?_)
    · rw [if_pos b2] at h
      refine mj_go_sub (lv' := []) (fun _ h9 => absurd h9 List.not_mem_nil) ?_
      exact k_X9_isShelf_14 h
    · rw [if_neg b2] at h
      refine mj_go_iconst (v := 1) rfl (mj_dt dt_X9_isShelf 5 rfl) ?_
      refine mj_go_goto (tgt := 15) rfl (mj_dt dt_X9_isShelf 6 rfl) ?_
      obtain rfl := Option.some.inj h
      exact mj_go_ret (v := some (.int 1)) (Nat.le_of_ble_eq_true rfl) (mj_retZ (mj_dt dt_X9_isShelf 8 rfl) rfl rfl)
def f_X9_no (N : Nat) (v1 : Int32) (m : mj_m) : Option (Int32 × mj_m) := mj_ck (mj_b 0 96 (-v1)) ( mj_mw (mj_wI m 96 ((-v1).toNatClampNeg) ((m.1 96 (-v1).toNatClampNeg) + 1)) (fun m2 => some (v1, m2)))
theorem k_X9_no {L : Nat} {xs : Nat → Int32} {δ N : Nat} {v1 : Int32} {m : mj_m} (_ : 0 ≤ δ) {a : Int32 × mj_m} (h : f_X9_no N v1 m = some a) : mj_Cl (mj_EX L xs) δ mY_X9_no [.ref 95, .int v1] (mj_fin m) (some (.int a.1), (mj_fin a.2)) := by
  refine mj_cl_of ok_X9_no (Nat.le_of_ble_eq_true rfl) ?_
  unfold f_X9_no at h
  refine mj_go_aload_n (k := 0) (x := 95) rfl (mj_dt dt_X9_no 0 rfl) ?_
  refine ml_getR (c := 9) (k := 11) (q := 96) fd_9_11 rf_95_11 (Or.inl fl_X9_25) ho_95 (mj_dt dt_X9_no 1 rfl) ?_
  refine mj_go_iload_n (k := 1) (x := v1) rfl (mj_dt dt_X9_no 2 rfl) ?_
  refine mj_go_ineg (mj_dt dt_X9_no 3 rfl) ?_
  refine mj_go_dup2_11 rfl rfl (mj_dt dt_X9_no 4 rfl) ?_
  obtain ⟨c1, h⟩ := mj_ck_some h
  refine mk_iald c1 (mj_dt dt_X9_no 5 rfl) ?_
  refine mj_go_iconst (v := 1) rfl (mj_dt dt_X9_no 6 rfl) ?_
  refine mj_go_iadd (mj_dt dt_X9_no 7 rfl) ?_
  obtain ⟨m2, em2, h⟩ := mj_mw_some h
  refine ml_iast c1 (mj_dt dt_X9_no 8 rfl) ?_
  refine ml_eqm (M1 := (mj_fin m2)) (by rw [em2] <;> rfl) ?_
  refine mj_go_iload_n (k := 1) (x := v1) rfl (mj_dt dt_X9_no 9 rfl) ?_
  obtain rfl := Option.some.inj h
  exact mj_go_ret (v := some (.int v1)) (Nat.le_of_ble_eq_true rfl) (mj_retI (mj_dt dt_X9_no 10 rfl) rfl)
def f_X9_row_34 (N : Nat) (m : mj_m) : Option (Int32 × mj_m) := (f_X9_no N (-6 : Int32) m).bind (fun r1 => some (r1.1, r1.2))
theorem k_X9_row_34 {L : Nat} {xs : Nat → Int32} {δ N : Nat} {m : mj_m} (hδ : 0 ≤ δ) {a : Int32 × mj_m} (h : f_X9_row_34 N m = some a) : mj_Go (mj_EX L xs) (δ + 1) mY_X9_row 34 [(0, .ref 95)] [] (mj_fin m) (some (.int a.1), (mj_fin a.2)) := by
  unfold f_X9_row_34 at h
  refine mj_go_aload_n (k := 0) (x := 95) rfl (mj_dt dt_X9_row 19 rfl) ?_
  refine mj_go_bipush (v := -6) rfl (mj_dt dt_X9_row 20 rfl) ?_
  obtain ⟨r1, er1, h⟩ := mj_bind_some h
  refine ml_callV (Y' := mY_X9_no) (as := [.int (-6 : Int32)]) (rest := []) (c := 9) (v := (some (.int r1.1))) (M1 := (mj_fin r1.2)) ho_95 rfl lm_X9_134 wc_X9_no pl_X9_no ok_X9_no rfl rfl (Nat.le_of_ble_eq_true rfl) (k_X9_no (by omega) er1) (mj_dt dt_X9_row 21 rfl) ?_
  obtain rfl := Option.some.inj h
  exact mj_go_ret (v := some (.int r1.1)) (Nat.le_of_ble_eq_true rfl) (mj_retI (mj_dt dt_X9_row 22 rfl) rfl)
def f_X9_row_78 (N : Nat) (v1 : Int32) (k_78 : Int32 × mj_m → Option (Int32 × mj_m)) (s : Int32 × mj_m) : Option (Int32 × mj_m) := if 120 ≤ s.1 then (some (1, s.2)) else (mj_ck (mj_b 1 115 ((120 * v1) + s.1)) ( mj_mw (mj_wL s.2 115 (((120 * v1) + s.1).toNatClampNeg) 0) (fun m3 => mj_mw (s.1 + 1) (fun x4 => k_78 (x4, m3)))))
theorem k_X9_row_78 {L : Nat} {xs : Nat → Int32} {δ N : Nat} {v1 : Int32} (hδ : 0 ≤ δ) : ∀ (n : Nat) (s : Int32 × mj_m) (a : Int32 × mj_m), mj_lp n (f_X9_row_78 N v1) s = some a → mj_Go (mj_EX L xs) (δ + 1) mY_X9_row 78 [(0, .ref 95), (1, .int v1), (4, .int s.1)] [] (mj_fin s.2) (some (.int a.1), (mj_fin a.2)) := by
  refine mj_lp_sound (fun k_78 s a q_78 h => ?_)
  unfold f_X9_row_78 at h
  refine mj_go_iload (i := 4) (x := s.1) rfl (mj_dt dt_X9_row 47 rfl) ?_
  refine mj_go_bipush (v := 120) rfl (mj_dt dt_X9_row 48 rfl) ?_
  refine mj_go_icmp_ge (tgt := 104) rfl (mj_dt dt_X9_row 49 rfl) (fun b1 => ?_) (fun b1 => ?_)
  · rw [if_pos b1] at h
    refine mj_go_iconst (v := 1) rfl (mj_dt dt_X9_row 61 rfl) ?_
    obtain rfl := Option.some.inj h
    exact mj_go_ret (v := some (.int 1)) (Nat.le_of_ble_eq_true rfl) (mj_retI (mj_dt dt_X9_row 62 rfl) rfl)
  · rw [if_neg b1] at h
    refine mj_go_aload_n (k := 0) (x := 95) rfl (mj_dt dt_X9_row 50 rfl) ?_
    refine ml_getR (c := 9) (k := 30) (q := 115) fd_9_30 rf_95_30 (Or.inl fl_X9_83) ho_95 (mj_dt dt_X9_row 51 rfl) ?_
    refine mj_go_bipush (v := 120) rfl (mj_dt dt_X9_row 52 rfl) ?_
    refine mj_go_iload_n (k := 1) (x := v1) rfl (mj_dt dt_X9_row 53 rfl) ?_
    refine mj_go_imul (mj_dt dt_X9_row 54 rfl) ?_
    refine mj_go_iload (i := 4) (x := s.1) rfl (mj_dt dt_X9_row 55 rfl) ?_
    refine mj_go_iadd (mj_dt dt_X9_row 56 rfl) ?_
    refine mj_go_lconst (v := 0) rfl (mj_dt dt_X9_row 57 rfl) ?_
    obtain ⟨c2, h⟩ := mj_ck_some h
    obtain ⟨m3, em3, h⟩ := mj_mw_some h
    refine ml_last c2 (mj_dt dt_X9_row 58 rfl) ?_
    refine ml_eqm (M1 := (mj_fin m3)) (by rw [em3] <;> rfl) ?_
    obtain ⟨x4, ex4, h⟩ := mj_mw_some h
    refine mj_go_iinc (i := 4) (x := s.1) (v := x4) rfl (by rw [ex4] <;> rfl) (by decide) (mj_dt dt_X9_row 59 rfl) ?_
    refine mj_go_goto (tgt := 78) rfl (mj_dt dt_X9_row 60 rfl) ?_
    refine mj_go_sub (lv' := [(0, .ref 95), (1, .int v1), (4, .int x4)]) (List.forall_mem_cons.mpr ⟨rfl, (List.forall_mem_cons.mpr ⟨rfl, (List.forall_mem_cons.mpr ⟨rfl, (fun _ h9 => absurd h9 List.not_mem_nil)⟩)⟩)⟩) ?_
    exact q_78 _ _ h
def f_X9_row (N : Nat) (v1 : Int32) (v2 : Int32) (v3 : Int32) (m : mj_m) : Option (Int32 × mj_m) := (f_X9_isShelf N v1 m).bind (fun r1 => if r1 = 0 then ((f_X9_no N (-1 : Int32) m).bind (fun r3 => some (r3.1, r3.2))) else (if 0 ≤ v3 then (if v2 < 0 then f_X9_row_34 N m else (if v2 ≤ 3 then (if v3 ≤ 120 then (mj_ck (mj_b 0 110 v1) ( mj_mw (mj_wI m 110 (v1.toNatClampNeg) 1) (fun m8 => mj_ck (mj_b 0 111 v1) ( mj_mw (mj_wI m8 111 (v1.toNatClampNeg) v2) (fun m10 => mj_ck (mj_b 0 112 v1) ( mj_mw (mj_wI m10 112 (v1.toNatClampNeg) v3) (fun m12 => mj_lp N (f_X9_row_78 N v1) (0, m12)))))))) else ((f_X9_no N (-7 : Int32) m).bind (fun r7 => some (r7.1, r7.2)))) else f_X9_row_34 N m)) else ((f_X9_no N (-4 : Int32) m).bind (fun r4 => some (r4.1, r4.2)))))
theorem k_X9_row {L : Nat} {xs : Nat → Int32} {δ N : Nat} {v1 : Int32} {v2 : Int32} {v3 : Int32} {m : mj_m} (hδ : 1 ≤ δ) {a : Int32 × mj_m} (h : f_X9_row N v1 v2 v3 m = some a) : mj_Cl (mj_EX L xs) δ mY_X9_row [.ref 95, .int v1, .int v2, .int v3] (mj_fin m) (some (.int a.1), (mj_fin a.2)) := by
  obtain ⟨δ, rfl⟩ : ∃ d, δ = d + 1 := ⟨δ - 1, by omega⟩
  have hδ : 0 ≤ δ := by omega
  refine mj_cl_of ok_X9_row (Nat.le_of_ble_eq_true rfl) ?_
  unfold f_X9_row at h
  refine mj_go_aload_n (k := 0) (x := 95) rfl (mj_dt dt_X9_row 0 rfl) ?_
  refine mj_go_iload_n (k := 1) (x := v1) rfl (mj_dt dt_X9_row 1 rfl) ?_
  obtain ⟨r1, er1, h⟩ := mj_bind_some h
  refine ml_callV (Y' := mY_X9_isShelf) (as := [.int v1]) (rest := []) (c := 9) (v := (some (.int r1))) (M1 := (mj_fin m)) ho_95 rfl lm_X9_130 wc_X9_isShelf pl_X9_isShelf ok_X9_isShelf rfl rfl (Nat.le_of_ble_eq_true rfl) (k_X9_isShelf (by omega) er1) (mj_dt dt_X9_row 2 rfl) ?_
  refine mj_go_if_ne (tgt := 14) rfl (mj_dt dt_X9_row 3 rfl) (fun b2 => ?_) (fun b2 => ?_)
  · rw [if_neg b2] at h
    refine mj_go_iload_n (k := 3) (x := v3) rfl (mj_dt dt_X9_row 8 rfl) ?_
    refine mj_go_if_ge (tgt := 25) rfl (mj_dt dt_X9_row 9 rfl) (fun b3 => ?_) (fun b3 => ?_)
    · rw [if_pos b3] at h
      refine mj_go_iload_n (k := 2) (x := v2) rfl (mj_dt dt_X9_row 14 rfl) ?_
      refine mj_go_if_lt (tgt := 34) rfl (mj_dt dt_X9_row 15 rfl) (fun b4 => ?_) (fun b4 => ?_)
      · rw [if_pos b4] at h
        refine mj_go_sub (lv' := [(0, .ref 95)]) (List.forall_mem_cons.mpr ⟨rfl, (fun _ h9 => absurd h9 List.not_mem_nil)⟩) ?_
        exact k_X9_row_34 hδ h
      · rw [if_neg b4] at h
        refine mj_go_iload_n (k := 2) (x := v2) rfl (mj_dt dt_X9_row 16 rfl) ?_
        refine mj_go_iconst (v := 3) rfl (mj_dt dt_X9_row 17 rfl) ?_
        refine mj_go_icmp_le (tgt := 41) rfl (mj_dt dt_X9_row 18 rfl) (fun b5 => ?_) (fun b5 => ?_)
        · rw [if_pos b5] at h
          refine mj_go_iload_n (k := 3) (x := v3) rfl (mj_dt dt_X9_row 23 rfl) ?_
          refine mj_go_bipush (v := 120) rfl (mj_dt dt_X9_row 24 rfl) ?_
          refine mj_go_icmp_le (tgt := 54) rfl (mj_dt dt_X9_row 25 rfl) (fun b6 => ?_) (fun b6 => ?_)
          · rw [if_pos b6] at h
            refine mj_go_aload_n (k := 0) (x := 95) rfl (mj_dt dt_X9_row 30 rfl) ?_
            refine ml_getR (c := 9) (k := 25) (q := 110) fd_9_25 rf_95_25 (Or.inl fl_X9_68) ho_95 (mj_dt dt_X9_row 31 rfl) ?_
            refine mj_go_iload_n (k := 1) (x := v1) rfl (mj_dt dt_X9_row 32 rfl) ?_
            refine mj_go_iconst (v := 1) rfl (mj_dt dt_X9_row 33 rfl) ?_
            obtain ⟨c7, h⟩ := mj_ck_some h
            obtain ⟨m8, em8, h⟩ := mj_mw_some h
            refine ml_iast c7 (mj_dt dt_X9_row 34 rfl) ?_
            refine ml_eqm (M1 := (mj_fin m8)) (by rw [em8] <;> rfl) ?_
            refine mj_go_aload_n (k := 0) (x := 95) rfl (mj_dt dt_X9_row 35 rfl) ?_
            refine ml_getR (c := 9) (k := 26) (q := 111) fd_9_26 rf_95_26 (Or.inl fl_X9_71) ho_95 (mj_dt dt_X9_row 36 rfl) ?_
            refine mj_go_iload_n (k := 1) (x := v1) rfl (mj_dt dt_X9_row 37 rfl) ?_
            refine mj_go_iload_n (k := 2) (x := v2) rfl (mj_dt dt_X9_row 38 rfl) ?_
            obtain ⟨c9, h⟩ := mj_ck_some h
            obtain ⟨m10, em10, h⟩ := mj_mw_some h
            refine ml_iast c9 (mj_dt dt_X9_row 39 rfl) ?_
            refine ml_eqm (M1 := (mj_fin m10)) (by rw [em10] <;> rfl) ?_
            refine mj_go_aload_n (k := 0) (x := 95) rfl (mj_dt dt_X9_row 40 rfl) ?_
            refine ml_getR (c := 9) (k := 27) (q := 112) fd_9_27 rf_95_27 (Or.inl fl_X9_74) ho_95 (mj_dt dt_X9_row 41 rfl) ?_
            refine mj_go_iload_n (k := 1) (x := v1) rfl (mj_dt dt_X9_row 42 rfl) ?_
            refine mj_go_iload_n (k := 3) (x := v3) rfl (mj_dt dt_X9_row 43 rfl) ?_
            obtain ⟨c11, h⟩ := mj_ck_some h
            obtain ⟨m12, em12, h⟩ := mj_mw_some h
            refine ml_iast c11 (mj_dt dt_X9_row 44 rfl) ?_
            refine ml_eqm (M1 := (mj_fin m12)) (by rw [em12] <;> rfl) ?_
            refine mj_go_iconst (v := 0) rfl (mj_dt dt_X9_row 45 rfl) ?_
            refine mj_go_istore (i := 4) (by decide) (mj_dt dt_X9_row 46 rfl) ?_
            refine mj_go_sub (lv' := [(0, .ref 95), (1, .int v1), (4, .int 0)]) (List.forall_mem_cons.mpr ⟨rfl, (List.forall_mem_cons.mpr ⟨rfl, (List.forall_mem_cons.mpr ⟨rfl, (fun _ h9 => absurd h9 List.not_mem_nil)⟩)⟩)⟩) ?_
            exact k_X9_row_78 hδ N _ _ h
          · rw [if_neg b6] at h
            refine mj_go_aload_n (k := 0) (x := 95) rfl (mj_dt dt_X9_row 26 rfl) ?_
            refine mj_go_bipush (v := -7) rfl (mj_dt dt_X9_row 27 rfl) ?_
            obtain ⟨r7, er7, h⟩ := mj_bind_some h
            refine ml_callV (Y' := mY_X9_no) (as := [.int (-7 : Int32)]) (rest := []) (c := 9) (v := (some (.int r7.1))) (M1 := (mj_fin r7.2)) ho_95 rfl lm_X9_134 wc_X9_no pl_X9_no ok_X9_no rfl rfl (Nat.le_of_ble_eq_true rfl) (k_X9_no (by omega) er7) (mj_dt dt_X9_row 28 rfl) ?_
            obtain rfl := Option.some.inj h
            exact mj_go_ret (v := some (.int r7.1)) (Nat.le_of_ble_eq_true rfl) (mj_retI (mj_dt dt_X9_row 29 rfl) rfl)
        · rw [if_neg b5] at h
          refine mj_go_sub (lv' := [(0, .ref 95)]) (List.forall_mem_cons.mpr ⟨rfl, (fun _ h9 => absurd h9 List.not_mem_nil)⟩) ?_
          exact k_X9_row_34 hδ h
    · rw [if_neg b3] at h
      refine mj_go_aload_n (k := 0) (x := 95) rfl (mj_dt dt_X9_row 10 rfl) ?_
      refine mj_go_bipush (v := -4) rfl (mj_dt dt_X9_row 11 rfl) ?_
      obtain ⟨r4, er4, h⟩ := mj_bind_some h
      refine ml_callV (Y' := mY_X9_no) (as := [.int (-4 : Int32)]) (rest := []) (c := 9) (v := (some (.int r4.1))) (M1 := (mj_fin r4.2)) ho_95 rfl lm_X9_134 wc_X9_no pl_X9_no ok_X9_no rfl rfl (Nat.le_of_ble_eq_true rfl) (k_X9_no (by omega) er4) (mj_dt dt_X9_row 12 rfl) ?_
      obtain rfl := Option.some.inj h
      exact mj_go_ret (v := some (.int r4.1)) (Nat.le_of_ble_eq_true rfl) (mj_retI (mj_dt dt_X9_row 13 rfl) rfl)
  · rw [if_pos b2] at h
    refine mj_go_aload_n (k := 0) (x := 95) rfl (mj_dt dt_X9_row 4 rfl) ?_
    refine mj_go_iconst (v := -1) rfl (mj_dt dt_X9_row 5 rfl) ?_
    obtain ⟨r3, er3, h⟩ := mj_bind_some h
    refine ml_callV (Y' := mY_X9_no) (as := [.int (-1 : Int32)]) (rest := []) (c := 9) (v := (some (.int r3.1))) (M1 := (mj_fin r3.2)) ho_95 rfl lm_X9_134 wc_X9_no pl_X9_no ok_X9_no rfl rfl (Nat.le_of_ble_eq_true rfl) (k_X9_no (by omega) er3) (mj_dt dt_X9_row 6 rfl) ?_
    obtain rfl := Option.some.inj h
    exact mj_go_ret (v := some (.int r3.1)) (Nat.le_of_ble_eq_true rfl) (mj_retI (mj_dt dt_X9_row 7 rfl) rfl)
def f_X6_isRule_20 (N : Nat) (m : mj_m) : Option (Int32) := (some 0)
theorem k_X6_isRule_20 {L : Nat} {xs : Nat → Int32} {δ N : Nat} {m : mj_m} {a : Int32} (h : f_X6_isRule_20 N m = some a) : mj_Go (mj_EX L xs) δ mY_X6_isRule 20 [] [] (mj_fin m) (some (.int a), (mj_fin m)) := by
  unfold f_X6_isRule_20 at h
  refine mj_go_iconst (v := 0) rfl (mj_dt dt_X6_isRule 9 rfl) ?_
  obtain rfl := Option.some.inj h
  exact mj_go_ret (v := some (.int 0)) (Nat.le_of_ble_eq_true rfl) (mj_retZ (mj_dt dt_X6_isRule 10 rfl) rfl rfl)
def f_X6_isRule (N : Nat) (v0 : Nat) (m : mj_m) : Option (Int32) := mj_ck (mj_o 6 v0) ( if (m.1 v0 1) < 0 then f_X6_isRule_20 N m else (if 100 ≤ (m.1 v0 1) then f_X6_isRule_20 N m else ((some 1))))
theorem k_X6_isRule {L : Nat} {xs : Nat → Int32} {δ N : Nat} {v0 : Nat} {m : mj_m} (_ : 0 ≤ δ) {a : Int32} (h : f_X6_isRule N v0 m = some a) : mj_Cl (mj_EX L xs) δ mY_X6_isRule [.ref v0] (mj_fin m) (some (.int a), (mj_fin m)) := by
  refine mj_cl_of ok_X6_isRule (Nat.le_of_ble_eq_true rfl) ?_
  unfold f_X6_isRule at h
  refine mj_go_aload_n (k := 0) (x := v0) rfl (mj_dt dt_X6_isRule 0 rfl) ?_
  obtain ⟨c1, h⟩ := mj_ck_some h
  refine mk_getI (c := 6) (k := 1) (Or.inl fd_6_1) (Or.inl fl_X6_15) c1 (mj_dt dt_X6_isRule 1 rfl) ?_
  refine mj_go_if_lt (tgt := 20) rfl (mj_dt dt_X6_isRule 2 rfl) (fun b2 => ?_) (fun b2 => ?_)
  · rw [if_pos b2] at h
    refine mj_go_sub (lv' := []) (fun _ h9 => absurd h9 List.not_mem_nil) ?_
    exact k_X6_isRule_20 h
  · rw [if_neg b2] at h
    refine mj_go_aload_n (k := 0) (x := v0) rfl (mj_dt dt_X6_isRule 3 rfl) ?_
    refine mk_getI (c := 6) (k := 1) (Or.inl fd_6_1) (Or.inl fl_X6_15) c1 (mj_dt dt_X6_isRule 4 rfl) ?_
    refine mj_go_bipush (v := 100) rfl (mj_dt dt_X6_isRule 5 rfl) ?_
    refine mj_go_icmp_ge (tgt := 20) rfl (mj_dt dt_X6_isRule 6 rfl) (fun b3 => ?_) (fun b3 => ?_)
    · rw [if_pos b3] at h
      refine mj_go_sub (lv' := []) (fun _ h9 => absurd h9 List.not_mem_nil) ?_
      exact k_X6_isRule_20 h
    · rw [if_neg b3] at h
      refine mj_go_iconst (v := 1) rfl (mj_dt dt_X6_isRule 7 rfl) ?_
      refine mj_go_goto (tgt := 21) rfl (mj_dt dt_X6_isRule 8 rfl) ?_
      obtain rfl := Option.some.inj h
      exact mj_go_ret (v := some (.int 1)) (Nat.le_of_ble_eq_true rfl) (mj_retZ (mj_dt dt_X6_isRule 10 rfl) rfl rfl)
def f_X6_isRow (N : Nat) (v0 : Nat) (m : mj_m) : Option (Int32) := mj_ck (mj_o 6 v0) ( if (m.1 v0 1) < 100 then ((some 0)) else ((some 1)))
theorem k_X6_isRow {L : Nat} {xs : Nat → Int32} {δ N : Nat} {v0 : Nat} {m : mj_m} (_ : 0 ≤ δ) {a : Int32} (h : f_X6_isRow N v0 m = some a) : mj_Cl (mj_EX L xs) δ mY_X6_isRow [.ref v0] (mj_fin m) (some (.int a), (mj_fin m)) := by
  refine mj_cl_of ok_X6_isRow (Nat.le_of_ble_eq_true rfl) ?_
  unfold f_X6_isRow at h
  refine mj_go_aload_n (k := 0) (x := v0) rfl (mj_dt dt_X6_isRow 0 rfl) ?_
  obtain ⟨c1, h⟩ := mj_ck_some h
  refine mk_getI (c := 6) (k := 1) (Or.inl fd_6_1) (Or.inl fl_X6_15) c1 (mj_dt dt_X6_isRow 1 rfl) ?_
  refine mj_go_bipush (v := 100) rfl (mj_dt dt_X6_isRow 2 rfl) ?_
  refine mj_go_icmp_lt (tgt := 13) rfl (mj_dt dt_X6_isRow 3 rfl) (fun b2 => ?_) (fun b2 => ?_)
  · rw [if_pos b2] at h
    refine mj_go_iconst (v := 0) rfl (mj_dt dt_X6_isRow 6 rfl) ?_
    obtain rfl := Option.some.inj h
    exact mj_go_ret (v := some (.int 0)) (Nat.le_of_ble_eq_true rfl) (mj_retZ (mj_dt dt_X6_isRow 7 rfl) rfl rfl)
  · rw [if_neg b2] at h
    refine mj_go_iconst (v := 1) rfl (mj_dt dt_X6_isRow 4 rfl) ?_
    refine mj_go_goto (tgt := 14) rfl (mj_dt dt_X6_isRow 5 rfl) ?_
    obtain rfl := Option.some.inj h
    exact mj_go_ret (v := some (.int 1)) (Nat.le_of_ble_eq_true rfl) (mj_retZ (mj_dt dt_X6_isRow 7 rfl) rfl rfl)
def f_X8_lacksRow (N : Nat) (v1 : Int32) (m : mj_m) : Option (Int32) := (f_X8_isShelf N v1 m).bind (fun r1 => if r1 = 0 then (some 1) else (mj_ck (mj_b 3 35 v1) ( (f_X6_isRule N (79 + 2 * v1.toNatClampNeg) m).bind (fun r4 => if r4 = 0 then ((f_X6_isRow N (79 + 2 * v1.toNatClampNeg) m).bind (fun r6 => if r6 = 0 then ((some 3)) else ((some 0)))) else (some 2)))))
theorem k_X8_lacksRow {L : Nat} {xs : Nat → Int32} {δ N : Nat} {v1 : Int32} {m : mj_m} (hδ : 1 ≤ δ) {a : Int32} (h : f_X8_lacksRow N v1 m = some a) : mj_Cl (mj_EX L xs) δ mY_X8_lacksRow [.ref 0, .int v1] (mj_fin m) (some (.int a), (mj_fin m)) := by
  obtain ⟨δ, rfl⟩ : ∃ d, δ = d + 1 := ⟨δ - 1, by omega⟩
  have hδ : 0 ≤ δ := by omega
  refine mj_cl_of ok_X8_lacksRow (Nat.le_of_ble_eq_true rfl) ?_
  unfold f_X8_lacksRow at h
  refine mj_go_iload_n (k := 1) (x := v1) rfl (mj_dt dt_X8_lacksRow 0 rfl) ?_
  obtain ⟨r1, er1, h⟩ := mj_bind_some h
  refine ml_callS (Y' := mY_X8_isShelf) (as := [.int v1]) (rest := []) (v := (some (.int r1))) (M1 := (mj_fin m)) lm_X8_82 wc_X8_isShelf pl_X8_isShelf ok_X8_isShelf rfl rfl (Nat.le_of_ble_eq_true rfl) (k_X8_isShelf (by omega) er1) (mj_dt dt_X8_lacksRow 1 rfl) ?_
  refine mj_go_if_ne (tgt := 9) rfl (mj_dt dt_X8_lacksRow 2 rfl) (fun b2 => ?_) (fun b2 => ?_)
  · rw [if_neg b2] at h
    refine mj_go_aload_n (k := 0) (x := 0) rfl (mj_dt dt_X8_lacksRow 5 rfl) ?_
    refine ml_getR (c := 8) (k := 2) (q := 35) fd_8_2 rf_0_2 (Or.inl fl_X8_21) ho_0 (mj_dt dt_X8_lacksRow 6 rfl) ?_
    refine mj_go_iload_n (k := 1) (x := v1) rfl (mj_dt dt_X8_lacksRow 7 rfl) ?_
    obtain ⟨c3, h⟩ := mj_ck_some h
    refine ml_aald3 (q := 79 + 2 * v1.toNatClampNeg) c3 (mj_hs35 c3).1 (mj_dt dt_X8_lacksRow 8 rfl) ?_
    obtain ⟨r4, er4, h⟩ := mj_bind_some h
    refine ml_callV (Y' := mY_X6_isRule) (as := []) (rest := []) (c := 6) (v := (some (.int r4))) (M1 := (mj_fin m)) (mj_hs35 c3).2 rfl lm_X8_104 wc_X6_isRule pl_X6_isRule ok_X6_isRule rfl rfl (Nat.le_of_ble_eq_true rfl) (k_X6_isRule (by omega) er4) (mj_dt dt_X8_lacksRow 9 rfl) ?_
    refine mj_go_if_eq (tgt := 23) rfl (mj_dt dt_X8_lacksRow 10 rfl) (fun b5 => ?_) (fun b5 => ?_)
    · rw [if_pos b5] at h
      refine mj_go_aload_n (k := 0) (x := 0) rfl (mj_dt dt_X8_lacksRow 13 rfl) ?_
      refine ml_getR (c := 8) (k := 2) (q := 35) fd_8_2 rf_0_2 (Or.inl fl_X8_21) ho_0 (mj_dt dt_X8_lacksRow 14 rfl) ?_
      refine mj_go_iload_n (k := 1) (x := v1) rfl (mj_dt dt_X8_lacksRow 15 rfl) ?_
      refine ml_aald3 (q := 79 + 2 * v1.toNatClampNeg) c3 (mj_hs35 c3).1 (mj_dt dt_X8_lacksRow 16 rfl) ?_
      obtain ⟨r6, er6, h⟩ := mj_bind_some h
      refine ml_callV (Y' := mY_X6_isRow) (as := []) (rest := []) (c := 6) (v := (some (.int r6))) (M1 := (mj_fin m)) (mj_hs35 c3).2 rfl lm_X8_108 wc_X6_isRow pl_X6_isRow ok_X6_isRow rfl rfl (Nat.le_of_ble_eq_true rfl) (k_X6_isRow (by omega) er6) (mj_dt dt_X8_lacksRow 17 rfl) ?_
      refine mj_go_if_eq (tgt := 39) rfl (mj_dt dt_X8_lacksRow 18 rfl) (fun b7 => ?_) (fun b7 => ?_)
      · rw [if_pos b7] at h
        refine mj_go_iconst (v := 3) rfl (mj_dt dt_X8_lacksRow 21 rfl) ?_
        obtain rfl := Option.some.inj h
        exact mj_go_ret (v := some (.int 3)) (Nat.le_of_ble_eq_true rfl) (mj_retI (mj_dt dt_X8_lacksRow 22 rfl) rfl)
      · rw [if_neg b7] at h
        refine mj_go_iconst (v := 0) rfl (mj_dt dt_X8_lacksRow 19 rfl) ?_
        refine mj_go_goto (tgt := 40) rfl (mj_dt dt_X8_lacksRow 20 rfl) ?_
        obtain rfl := Option.some.inj h
        exact mj_go_ret (v := some (.int 0)) (Nat.le_of_ble_eq_true rfl) (mj_retI (mj_dt dt_X8_lacksRow 22 rfl) rfl)
    · rw [if_neg b5] at h
      refine mj_go_iconst (v := 2) rfl (mj_dt dt_X8_lacksRow 11 rfl) ?_
      obtain rfl := Option.some.inj h
      exact mj_go_ret (v := some (.int 2)) (Nat.le_of_ble_eq_true rfl) (mj_retI (mj_dt dt_X8_lacksRow 12 rfl) rfl)
  · rw [if_pos b2] at h
    refine mj_go_iconst (v := 1) rfl (mj_dt dt_X8_lacksRow 3 rfl) ?_
    obtain rfl := Option.some.inj h
    exact mj_go_ret (v := some (.int 1)) (Nat.le_of_ble_eq_true rfl) (mj_retI (mj_dt dt_X8_lacksRow 4 rfl) rfl)
def f_X6_has_16 (N : Nat) (m : mj_m) : Option (Int32) := (some 0)
theorem k_X6_has_16 {L : Nat} {xs : Nat → Int32} {δ N : Nat} {m : mj_m} {a : Int32} (h : f_X6_has_16 N m = some a) : mj_Go (mj_EX L xs) δ mY_X6_has 16 [] [] (mj_fin m) (some (.int a), (mj_fin m)) := by
  unfold f_X6_has_16 at h
  refine mj_go_iconst (v := 0) rfl (mj_dt dt_X6_has 8 rfl) ?_
  obtain rfl := Option.some.inj h
  exact mj_go_ret (v := some (.int 0)) (Nat.le_of_ble_eq_true rfl) (mj_retZ (mj_dt dt_X6_has 9 rfl) rfl rfl)
def f_X6_has (N : Nat) (v0 : Nat) (v1 : Int32) (m : mj_m) : Option (Int32) := if v1 < 0 then f_X6_has_16 N m else (mj_ck (mj_o 6 v0) ( if (m.1 v0 2) ≤ v1 then f_X6_has_16 N m else ((some 1))))
theorem k_X6_has {L : Nat} {xs : Nat → Int32} {δ N : Nat} {v0 : Nat} {v1 : Int32} {m : mj_m} (_ : 0 ≤ δ) {a : Int32} (h : f_X6_has N v0 v1 m = some a) : mj_Cl (mj_EX L xs) δ mY_X6_has [.ref v0, .int v1] (mj_fin m) (some (.int a), (mj_fin m)) := by
  refine mj_cl_of ok_X6_has (Nat.le_of_ble_eq_true rfl) ?_
  unfold f_X6_has at h
  refine mj_go_iload_n (k := 1) (x := v1) rfl (mj_dt dt_X6_has 0 rfl) ?_
  refine mj_go_if_lt (tgt := 16) rfl (mj_dt dt_X6_has 1 rfl) (fun b1 => ?_) (fun b1 => ?_)
  · rw [if_pos b1] at h
    refine mj_go_sub (lv' := []) (fun _ h9 => absurd h9 List.not_mem_nil) ?_
    exact k_X6_has_16 h
  · rw [if_neg b1] at h
    refine mj_go_iload_n (k := 1) (x := v1) rfl (mj_dt dt_X6_has 2 rfl) ?_
    refine mj_go_aload_n (k := 0) (x := v0) rfl (mj_dt dt_X6_has 3 rfl) ?_
    obtain ⟨c2, h⟩ := mj_ck_some h
    refine mk_getI (c := 6) (k := 2) (Or.inl fd_6_2) (Or.inl fl_X6_19) c2 (mj_dt dt_X6_has 4 rfl) ?_
    refine mj_go_icmp_ge (tgt := 16) rfl (mj_dt dt_X6_has 5 rfl) (fun b3 => ?_) (fun b3 => ?_)
    · rw [if_pos b3] at h
      refine mj_go_sub (lv' := []) (fun _ h9 => absurd h9 List.not_mem_nil) ?_
      exact k_X6_has_16 h
    · rw [if_neg b3] at h
      refine mj_go_iconst (v := 1) rfl (mj_dt dt_X6_has 6 rfl) ?_
      refine mj_go_goto (tgt := 17) rfl (mj_dt dt_X6_has 7 rfl) ?_
      obtain rfl := Option.some.inj h
      exact mj_go_ret (v := some (.int 1)) (Nat.le_of_ble_eq_true rfl) (mj_retZ (mj_dt dt_X6_has 9 rfl) rfl rfl)
def f_X6_put (N : Nat) (v0 : Nat) (v1 : Int32) (v2 : Int64) (m : mj_m) : Option (mj_m) := (f_X6_has N v0 v1 m).bind (fun r1 => mj_ck (mj_o 6 v0) ( if r1 = 0 then (some m) else (if ((m.1 v0 1) - 100) = 0 then (mj_ck (mj_b 1 (v0 + 1) v1) ( mj_mw (mj_wL m (v0 + 1) (v1.toNatClampNeg) (((v2.toInt32).toInt8.toInt32).toInt64)) (fun m6 => (some m6)))) else if ((m.1 v0 1) - 100) = 1 then (mj_ck (mj_b 1 (v0 + 1) v1) ( mj_mw (mj_wL m (v0 + 1) (v1.toNatClampNeg) (((v2.toInt32).toInt16.toInt32).toInt64)) (fun m7 => (some m7)))) else if ((m.1 v0 1) - 100) = 2 then (mj_ck (mj_b 1 (v0 + 1) v1) ( mj_mw (mj_wL m (v0 + 1) (v1.toNatClampNeg) ((v2.toInt32).toInt64)) (fun m8 => (some m8)))) else (mj_ck (mj_b 1 (v0 + 1) v1) ( mj_mw (mj_wL m (v0 + 1) (v1.toNatClampNeg) v2) (fun m8 => (some m8)))))))
theorem k_X6_put {L : Nat} {xs : Nat → Int32} {δ N : Nat} {v0 : Nat} {v1 : Int32} {v2 : Int64} {m : mj_m} (hδ : 1 ≤ δ) {a : mj_m} (h : f_X6_put N v0 v1 v2 m = some a) : mj_Cl (mj_EX L xs) δ mY_X6_put [.ref v0, .int v1, .long v2] (mj_fin m) (none, (mj_fin a)) := by
  obtain ⟨δ, rfl⟩ : ∃ d, δ = d + 1 := ⟨δ - 1, by omega⟩
  have hδ : 0 ≤ δ := by omega
  refine mj_cl_of ok_X6_put (Nat.le_of_ble_eq_true rfl) ?_
  unfold f_X6_put at h
  refine mj_go_aload_n (k := 0) (x := v0) rfl (mj_dt dt_X6_put 0 rfl) ?_
  refine mj_go_iload_n (k := 1) (x := v1) rfl (mj_dt dt_X6_put 1 rfl) ?_
  obtain ⟨r1, er1, h⟩ := mj_bind_some h
  obtain ⟨c2, h⟩ := mj_ck_some h
  refine ml_callV (Y' := mY_X6_has) (as := [.int v1]) (rest := []) (c := 6) (v := (some (.int r1))) (M1 := (mj_fin m)) c2 rfl lm_X6_35 wc_X6_has pl_X6_has ok_X6_has rfl rfl (Nat.le_of_ble_eq_true rfl) (k_X6_has (by omega) er1) (mj_dt dt_X6_put 2 rfl) ?_
  refine mj_go_if_ne (tgt := 9) rfl (mj_dt dt_X6_put 3 rfl) (fun b3 => ?_) (fun b3 => ?_)
  · rw [if_neg b3] at h
    refine mj_go_aload_n (k := 0) (x := v0) rfl (mj_dt dt_X6_put 5 rfl) ?_
    refine mk_getI (c := 6) (k := 1) (Or.inl fd_6_1) (Or.inl fl_X6_15) c2 (mj_dt dt_X6_put 6 rfl) ?_
    refine mj_go_bipush (v := 100) rfl (mj_dt dt_X6_put 7 rfl) ?_
    refine mj_go_isub (mj_dt dt_X6_put 8 rfl) ?_
    refine mj_go_tsw [(0, 28), (1, 41), (2, 54)] (by decide) (by decide) (mj_dt dt_X6_put 9 rfl) ?_
    refine ⟨fun b4 => ?_, fun b4 => ?_⟩
    · rw [if_pos b4] at h
      refine ⟨44, by decide, ?_⟩
      refine mj_go_aload_n (k := 0) (x := v0) rfl (mj_dt dt_X6_put 10 rfl) ?_
      refine ml_getR (c := 6) (k := 0) (q := v0 + 1) fd_6_0 (mj_RFs c2) (Or.inl fl_X6_9) c2 (mj_dt dt_X6_put 11 rfl) ?_
      refine mj_go_iload_n (k := 1) (x := v1) rfl (mj_dt dt_X6_put 12 rfl) ?_
      refine mj_go_lload_n (k := 2) (x := v2) rfl (mj_dt dt_X6_put 13 rfl) ?_
      refine mj_go_l2i (mj_dt dt_X6_put 14 rfl) ?_
      refine mj_go_i2b (mj_dt dt_X6_put 15 rfl) ?_
      refine mj_go_i2l (mj_dt dt_X6_put 16 rfl) ?_
      obtain ⟨c5, h⟩ := mj_ck_some h
      obtain ⟨m6, em6, h⟩ := mj_mw_some h
      refine ml_last c5 (mj_dt dt_X6_put 17 rfl) ?_
      refine ml_eqm (M1 := (mj_fin m6)) (by rw [em6] <;> rfl) ?_
      refine mj_go_goto (tgt := 89) rfl (mj_dt dt_X6_put 18 rfl) ?_
      obtain rfl := Option.some.inj h
      exact mj_go_ret (v := none) (Nat.le_of_ble_eq_true rfl) (mj_retV (mj_dt dt_X6_put 41 rfl) rfl)
    · rw [if_neg b4] at h
      refine ⟨fun b5 => ?_, fun b5 => ?_⟩
      · rw [if_pos b5] at h
        refine ⟨57, by decide, ?_⟩
        refine mj_go_aload_n (k := 0) (x := v0) rfl (mj_dt dt_X6_put 19 rfl) ?_
        refine ml_getR (c := 6) (k := 0) (q := v0 + 1) fd_6_0 (mj_RFs c2) (Or.inl fl_X6_9) c2 (mj_dt dt_X6_put 20 rfl) ?_
        refine mj_go_iload_n (k := 1) (x := v1) rfl (mj_dt dt_X6_put 21 rfl) ?_
        refine mj_go_lload_n (k := 2) (x := v2) rfl (mj_dt dt_X6_put 22 rfl) ?_
        refine mj_go_l2i (mj_dt dt_X6_put 23 rfl) ?_
        refine mj_go_i2s (mj_dt dt_X6_put 24 rfl) ?_
        refine mj_go_i2l (mj_dt dt_X6_put 25 rfl) ?_
        obtain ⟨c6, h⟩ := mj_ck_some h
        obtain ⟨m7, em7, h⟩ := mj_mw_some h
        refine ml_last c6 (mj_dt dt_X6_put 26 rfl) ?_
        refine ml_eqm (M1 := (mj_fin m7)) (by rw [em7] <;> rfl) ?_
        refine mj_go_goto (tgt := 89) rfl (mj_dt dt_X6_put 27 rfl) ?_
        obtain rfl := Option.some.inj h
        exact mj_go_ret (v := none) (Nat.le_of_ble_eq_true rfl) (mj_retV (mj_dt dt_X6_put 41 rfl) rfl)
      · rw [if_neg b5] at h
        refine ⟨fun b6 => ?_, fun b6 => ?_⟩
        · rw [if_pos b6] at h
          refine ⟨70, by decide, ?_⟩
          refine mj_go_aload_n (k := 0) (x := v0) rfl (mj_dt dt_X6_put 28 rfl) ?_
          refine ml_getR (c := 6) (k := 0) (q := v0 + 1) fd_6_0 (mj_RFs c2) (Or.inl fl_X6_9) c2 (mj_dt dt_X6_put 29 rfl) ?_
          refine mj_go_iload_n (k := 1) (x := v1) rfl (mj_dt dt_X6_put 30 rfl) ?_
          refine mj_go_lload_n (k := 2) (x := v2) rfl (mj_dt dt_X6_put 31 rfl) ?_
          refine mj_go_l2i (mj_dt dt_X6_put 32 rfl) ?_
          refine mj_go_i2l (mj_dt dt_X6_put 33 rfl) ?_
          obtain ⟨c7, h⟩ := mj_ck_some h
          obtain ⟨m8, em8, h⟩ := mj_mw_some h
          refine ml_last c7 (mj_dt dt_X6_put 34 rfl) ?_
          refine ml_eqm (M1 := (mj_fin m8)) (by rw [em8] <;> rfl) ?_
          refine mj_go_goto (tgt := 89) rfl (mj_dt dt_X6_put 35 rfl) ?_
          obtain rfl := Option.some.inj h
          exact mj_go_ret (v := none) (Nat.le_of_ble_eq_true rfl) (mj_retV (mj_dt dt_X6_put 41 rfl) rfl)
        · rw [if_neg b6] at h
          refine ⟨82, by decide, ?_⟩
          refine mj_go_aload_n (k := 0) (x := v0) rfl (mj_dt dt_X6_put 36 rfl) ?_
          refine ml_getR (c := 6) (k := 0) (q := v0 + 1) fd_6_0 (mj_RFs c2) (Or.inl fl_X6_9) c2 (mj_dt dt_X6_put 37 rfl) ?_
          refine mj_go_iload_n (k := 1) (x := v1) rfl (mj_dt dt_X6_put 38 rfl) ?_
          refine mj_go_lload_n (k := 2) (x := v2) rfl (mj_dt dt_X6_put 39 rfl) ?_
          obtain ⟨c7, h⟩ := mj_ck_some h
          obtain ⟨m8, em8, h⟩ := mj_mw_some h
          refine ml_last c7 (mj_dt dt_X6_put 40 rfl) ?_
          refine ml_eqm (M1 := (mj_fin m8)) (by rw [em8] <;> rfl) ?_
          obtain rfl := Option.some.inj h
          exact mj_go_ret (v := none) (Nat.le_of_ble_eq_true rfl) (mj_retV (mj_dt dt_X6_put 41 rfl) rfl)
  · rw [if_pos b3] at h
    obtain rfl := Option.some.inj h
    exact mj_go_ret (v := none) (Nat.le_of_ble_eq_true rfl) (mj_retV (mj_dt dt_X6_put 4 rfl) rfl)
def f_X8_set (N : Nat) (v1 : Int32) (v2 : Int32) (v3 : Int64) (m : mj_m) : Option (Int32 × mj_m) := (f_X8_lacksRow N v1 m).bind (fun r1 => if r1 = 0 then (mj_ck (mj_b 3 35 v1) ( (f_X6_has N (79 + 2 * v1.toNatClampNeg) v2 m).bind (fun r4 => if r4 = 0 then ((f_X8_refuse N 5 m).bind (fun r6 => some (r6.1, r6.2))) else ((f_X6_put N (79 + 2 * v1.toNatClampNeg) v2 v3 m).bind (fun r6 => some (1, r6)))))) else ((f_X8_refuse N r1 m).bind (fun r3 => some (r3.1, r3.2))))
theorem k_X8_set {L : Nat} {xs : Nat → Int32} {δ N : Nat} {v1 : Int32} {v2 : Int32} {v3 : Int64} {m : mj_m} (hδ : 2 ≤ δ) {a : Int32 × mj_m} (h : f_X8_set N v1 v2 v3 m = some a) : mj_Cl (mj_EX L xs) δ mY_X8_set [.ref 0, .int v1, .int v2, .long v3] (mj_fin m) (some (.int a.1), (mj_fin a.2)) := by
  obtain ⟨δ, rfl⟩ : ∃ d, δ = d + 1 := ⟨δ - 1, by omega⟩
  have hδ : 1 ≤ δ := by omega
  refine mj_cl_of ok_X8_set (Nat.le_of_ble_eq_true rfl) ?_
  unfold f_X8_set at h
  refine mj_go_aload_n (k := 0) (x := 0) rfl (mj_dt dt_X8_set 0 rfl) ?_
  refine mj_go_iload_n (k := 1) (x := v1) rfl (mj_dt dt_X8_set 1 rfl) ?_
  obtain ⟨r1, er1, h⟩ := mj_bind_some h
  refine ml_callV (Y' := mY_X8_lacksRow) (as := [.int v1]) (rest := []) (c := 8) (v := (some (.int r1))) (M1 := (mj_fin m)) ho_0 rfl lm_X8_94 wc_X8_lacksRow pl_X8_lacksRow ok_X8_lacksRow rfl rfl (Nat.le_of_ble_eq_true rfl) (k_X8_lacksRow (by omega) er1) (mj_dt dt_X8_set 2 rfl) ?_
  refine mj_go_istore (i := 5) (by decide) (mj_dt dt_X8_set 3 rfl) ?_
  refine mj_go_iload (i := 5) (x := r1) rfl (mj_dt dt_X8_set 4 rfl) ?_
  refine mj_go_if_eq (tgt := 19) rfl (mj_dt dt_X8_set 5 rfl) (fun b2 => ?_) (fun b2 => ?_)
  · rw [if_pos b2] at h
    refine mj_go_aload_n (k := 0) (x := 0) rfl (mj_dt dt_X8_set 10 rfl) ?_
    refine ml_getR (c := 8) (k := 2) (q := 35) fd_8_2 rf_0_2 (Or.inl fl_X8_21) ho_0 (mj_dt dt_X8_set 11 rfl) ?_
    refine mj_go_iload_n (k := 1) (x := v1) rfl (mj_dt dt_X8_set 12 rfl) ?_
    obtain ⟨c3, h⟩ := mj_ck_some h
    refine ml_aald3 (q := 79 + 2 * v1.toNatClampNeg) c3 (mj_hs35 c3).1 (mj_dt dt_X8_set 13 rfl) ?_
    refine mj_go_iload_n (k := 2) (x := v2) rfl (mj_dt dt_X8_set 14 rfl) ?_
    obtain ⟨r4, er4, h⟩ := mj_bind_some h
    refine ml_callV (Y' := mY_X6_has) (as := [.int v2]) (rest := []) (c := 6) (v := (some (.int r4))) (M1 := (mj_fin m)) (mj_hs35 c3).2 rfl lm_X8_97 wc_X6_has pl_X6_has ok_X6_has rfl rfl (Nat.le_of_ble_eq_true rfl) (k_X6_has (by omega) er4) (mj_dt dt_X8_set 15 rfl) ?_
    refine mj_go_if_ne (tgt := 38) rfl (mj_dt dt_X8_set 16 rfl) (fun b5 => ?_) (fun b5 => ?_)
    · rw [if_neg b5] at h
      refine mj_go_aload_n (k := 0) (x := 0) rfl (mj_dt dt_X8_set 21 rfl) ?_
      refine ml_getR (c := 8) (k := 2) (q := 35) fd_8_2 rf_0_2 (Or.inl fl_X8_21) ho_0 (mj_dt dt_X8_set 22 rfl) ?_
      refine mj_go_iload_n (k := 1) (x := v1) rfl (mj_dt dt_X8_set 23 rfl) ?_
      refine ml_aald3 (q := 79 + 2 * v1.toNatClampNeg) c3 (mj_hs35 c3).1 (mj_dt dt_X8_set 24 rfl) ?_
      refine mj_go_iload_n (k := 2) (x := v2) rfl (mj_dt dt_X8_set 25 rfl) ?_
      refine mj_go_lload_n (k := 3) (x := v3) rfl (mj_dt dt_X8_set 26 rfl) ?_
      obtain ⟨r6, er6, h⟩ := mj_bind_some h
      refine ml_callV (Y' := mY_X6_put) (as := [.int v2, .long v3]) (rest := []) (c := 6) (v := none) (M1 := (mj_fin r6)) (mj_hs35 c3).2 rfl lm_X8_100 wc_X6_put pl_X6_put ok_X6_put rfl rfl (Nat.le_of_ble_eq_true rfl) (k_X6_put (by omega) er6) (mj_dt dt_X8_set 27 rfl) ?_
      refine mj_go_iconst (v := 1) rfl (mj_dt dt_X8_set 28 rfl) ?_
      obtain rfl := Option.some.inj h
      exact mj_go_ret (v := some (.int 1)) (Nat.le_of_ble_eq_true rfl) (mj_retI (mj_dt dt_X8_set 29 rfl) rfl)
    · rw [if_pos b5] at h
      refine mj_go_aload_n (k := 0) (x := 0) rfl (mj_dt dt_X8_set 17 rfl) ?_
      refine mj_go_iconst (v := 5) rfl (mj_dt dt_X8_set 18 rfl) ?_
      obtain ⟨r6, er6, h⟩ := mj_bind_some h
      refine ml_callV (Y' := mY_X8_refuse) (as := [.int 5]) (rest := []) (c := 8) (v := (some (.int r6.1))) (M1 := (mj_fin r6.2)) ho_0 rfl lm_X8_86 wc_X8_refuse pl_X8_refuse ok_X8_refuse rfl rfl (Nat.le_of_ble_eq_true rfl) (k_X8_refuse (by omega) er6) (mj_dt dt_X8_set 19 rfl) ?_
      obtain rfl := Option.some.inj h
      exact mj_go_ret (v := some (.int r6.1)) (Nat.le_of_ble_eq_true rfl) (mj_retI (mj_dt dt_X8_set 20 rfl) rfl)
  · rw [if_neg b2] at h
    refine mj_go_aload_n (k := 0) (x := 0) rfl (mj_dt dt_X8_set 6 rfl) ?_
    refine mj_go_iload (i := 5) (x := r1) rfl (mj_dt dt_X8_set 7 rfl) ?_
    obtain ⟨r3, er3, h⟩ := mj_bind_some h
    refine ml_callV (Y' := mY_X8_refuse) (as := [.int r1]) (rest := []) (c := 8) (v := (some (.int r3.1))) (M1 := (mj_fin r3.2)) ho_0 rfl lm_X8_86 wc_X8_refuse pl_X8_refuse ok_X8_refuse rfl rfl (Nat.le_of_ble_eq_true rfl) (k_X8_refuse (by omega) er3) (mj_dt dt_X8_set 8 rfl) ?_
    obtain rfl := Option.some.inj h
    exact mj_go_ret (v := some (.int r3.1)) (Nat.le_of_ble_eq_true rfl) (mj_retI (mj_dt dt_X8_set 9 rfl) rfl)
def f_X9_set_61 (N : Nat) (m : mj_m) : Option (Int32 × mj_m) := (f_X9_no N (-5 : Int32) m).bind (fun r1 => some (r1.1, r1.2))
theorem k_X9_set_61 {L : Nat} {xs : Nat → Int32} {δ N : Nat} {m : mj_m} (hδ : 0 ≤ δ) {a : Int32 × mj_m} (h : f_X9_set_61 N m = some a) : mj_Go (mj_EX L xs) (δ + 1) mY_X9_set 61 [(0, .ref 95)] [] (mj_fin m) (some (.int a.1), (mj_fin a.2)) := by
  unfold f_X9_set_61 at h
  refine mj_go_aload_n (k := 0) (x := 95) rfl (mj_dt dt_X9_set 35 rfl) ?_
  refine mj_go_bipush (v := -5) rfl (mj_dt dt_X9_set 36 rfl) ?_
  obtain ⟨r1, er1, h⟩ := mj_bind_some h
  refine ml_callV (Y' := mY_X9_no) (as := [.int (-5 : Int32)]) (rest := []) (c := 9) (v := (some (.int r1.1))) (M1 := (mj_fin r1.2)) ho_95 rfl lm_X9_134 wc_X9_no pl_X9_no ok_X9_no rfl rfl (Nat.le_of_ble_eq_true rfl) (k_X9_no (by omega) er1) (mj_dt dt_X9_set 37 rfl) ?_
  obtain rfl := Option.some.inj h
  exact mj_go_ret (v := some (.int r1.1)) (Nat.le_of_ble_eq_true rfl) (mj_retI (mj_dt dt_X9_set 38 rfl) rfl)
def f_X9_set_128 (N : Nat) (s1 : Int32) (s2 : Int64) (m : mj_m) : Option (Int32 × mj_m) := mj_ck (mj_b 1 115 s1) ( mj_mw (mj_wL m 115 (s1.toNatClampNeg) s2) (fun m2 => some (1, m2)))
theorem k_X9_set_128 {L : Nat} {xs : Nat → Int32} {δ N : Nat} {s1 : Int32} {s2 : Int64} {m : mj_m} (hδ : 0 ≤ δ) {a : Int32 × mj_m} (h : f_X9_set_128 N s1 s2 m = some a) : mj_Go (mj_EX L xs) (δ + 1) mY_X9_set 128 [] [.long s2, .int s1, .ref 115] (mj_fin m) (some (.int a.1), (mj_fin a.2)) := by
  unfold f_X9_set_128 at h
  obtain ⟨c1, h⟩ := mj_ck_some h
  obtain ⟨m2, em2, h⟩ := mj_mw_some h
  refine ml_last c1 (mj_dt dt_X9_set 78 rfl) ?_
  refine ml_eqm (M1 := (mj_fin m2)) (by rw [em2] <;> rfl) ?_
  refine mj_go_iconst (v := 1) rfl (mj_dt dt_X9_set 79 rfl) ?_
  obtain rfl := Option.some.inj h
  exact mj_go_ret (v := some (.int 1)) (Nat.le_of_ble_eq_true rfl) (mj_retI (mj_dt dt_X9_set 80 rfl) rfl)
def f_X9_set (N : Nat) (v1 : Int32) (v2 : Int32) (v3 : Int64) (m : mj_m) : Option (Int32 × mj_m) := (f_X9_isShelf N v1 m).bind (fun r1 => if r1 = 0 then ((f_X9_no N (-1 : Int32) m).bind (fun r3 => some (r3.1, r3.2))) else (mj_ck (mj_b 0 110 v1) ( if (m.1 110 v1.toNatClampNeg) = 2 then ((f_X9_no N (-2 : Int32) m).bind (fun r5 => some (r5.1, r5.2))) else (if (m.1 110 v1.toNatClampNeg) = 0 then ((f_X9_no N (-3 : Int32) m).bind (fun r6 => some (r6.1, r6.2))) else (if v2 < 0 then f_X9_set_61 N m else (mj_ck (mj_b 0 112 v1) ( if v2 < (m.1 112 v1.toNatClampNeg) then (mj_ck (mj_b 0 111 v1) ( if (m.1 111 v1.toNatClampNeg) = 0 then (f_X9_set_128 N ((120 * v1) + v2) (((v3.toInt32).toInt8.toInt32).toInt64) m) else (if (m.1 111 v1.toNatClampNeg) = 1 then (f_X9_set_128 N ((120 * v1) + v2) (((v3.toInt32).toInt16.toInt32).toInt64) m) else (if (m.1 111 v1.toNatClampNeg) = 2 then (f_X9_set_128 N ((120 * v1) + v2) ((v3.toInt32).toInt64) m) else (f_X9_set_128 N ((120 * v1) + v2) v3 m))))) else f_X9_set_61 N m)))))))
theorem k_X9_set {L : Nat} {xs : Nat → Int32} {δ N : Nat} {v1 : Int32} {v2 : Int32} {v3 : Int64} {m : mj_m} (hδ : 1 ≤ δ) {a : Int32 × mj_m} (h : f_X9_set N v1 v2 v3 m = some a) : mj_Cl (mj_EX L xs) δ mY_X9_set [.ref 95, .int v1, .int v2, .long v3] (mj_fin m) (some (.int a.1), (mj_fin a.2)) := by
  obtain ⟨δ, rfl⟩ : ∃ d, δ = d + 1 := ⟨δ - 1, by omega⟩
  have hδ : 0 ≤ δ := by omega
  refine mj_cl_of ok_X9_set (Nat.le_of_ble_eq_true rfl) ?_
  unfold f_X9_set at h
  refine mj_go_aload_n (k := 0) (x := 95) rfl (mj_dt dt_X9_set 0 rfl) ?_
  refine mj_go_iload_n (k := 1) (x := v1) rfl (mj_dt dt_X9_set 1 rfl) ?_
  obtain ⟨r1, er1, h⟩ := mj_bind_some h
  refine ml_callV (Y' := mY_X9_isShelf) (as := [.int v1]) (rest := []) (c := 9) (v := (some (.int r1))) (M1 := (mj_fin m)) ho_95 rfl lm_X9_130 wc_X9_isShelf pl_X9_isShelf ok_X9_isShelf rfl rfl (Nat.le_of_ble_eq_true rfl) (k_X9_isShelf (by omega) er1) (mj_dt dt_X9_set 2 rfl) ?_
  refine mj_go_if_ne (tgt := 14) rfl (mj_dt dt_X9_set 3 rfl) (fun b2 => ?_) (fun b2 => ?_)
  · rw [if_neg b2] at h
    refine mj_go_aload_n (k := 0) (x := 95) rfl (mj_dt dt_X9_set 8 rfl) ?_
    refine ml_getR (c := 9) (k := 25) (q := 110) fd_9_25 rf_95_25 (Or.inl fl_X9_68) ho_95 (mj_dt dt_X9_set 9 rfl) ?_
    refine mj_go_iload_n (k := 1) (x := v1) rfl (mj_dt dt_X9_set 10 rfl) ?_
    obtain ⟨c3, h⟩ := mj_ck_some h
    refine mk_iald c3 (mj_dt dt_X9_set 11 rfl) ?_
    refine mj_go_iconst (v := 2) rfl (mj_dt dt_X9_set 12 rfl) ?_
    refine mj_go_icmp_ne (tgt := 31) rfl (mj_dt dt_X9_set 13 rfl) (fun b4 => ?_) (fun b4 => ?_)
    · rw [if_neg b4] at h
      refine mj_go_aload_n (k := 0) (x := 95) rfl (mj_dt dt_X9_set 18 rfl) ?_
      refine ml_getR (c := 9) (k := 25) (q := 110) fd_9_25 rf_95_25 (Or.inl fl_X9_68) ho_95 (mj_dt dt_X9_set 19 rfl) ?_
      refine mj_go_iload_n (k := 1) (x := v1) rfl (mj_dt dt_X9_set 20 rfl) ?_
      refine mk_iald c3 (mj_dt dt_X9_set 21 rfl) ?_
      refine mj_go_if_ne (tgt := 47) rfl (mj_dt dt_X9_set 22 rfl) (fun b5 => ?_) (fun b5 => ?_)
      · rw [if_neg b5] at h
        refine mj_go_iload_n (k := 2) (x := v2) rfl (mj_dt dt_X9_set 27 rfl) ?_
        refine mj_go_if_lt (tgt := 61) rfl (mj_dt dt_X9_set 28 rfl) (fun b6 => ?_) (fun b6 => ?_)
        · rw [if_pos b6] at h
          refine mj_go_sub (lv' := [(0, .ref 95)]) (List.forall_mem_cons.mpr ⟨rfl, (fun _ h9 => absurd h9 List.not_mem_nil)⟩) ?_
          exact k_X9_set_61 hδ h
        · rw [if_neg b6] at h
          refine mj_go_iload_n (k := 2) (x := v2) rfl (mj_dt dt_X9_set 29 rfl) ?_
          refine mj_go_aload_n (k := 0) (x := 95) rfl (mj_dt dt_X9_set 30 rfl) ?_
          refine ml_getR (c := 9) (k := 27) (q := 112) fd_9_27 rf_95_27 (Or.inl fl_X9_74) ho_95 (mj_dt dt_X9_set 31 rfl) ?_
          refine mj_go_iload_n (k := 1) (x := v1) rfl (mj_dt dt_X9_set 32 rfl) ?_
          obtain ⟨c7, h⟩ := mj_ck_some h
          refine mk_iald c7 (mj_dt dt_X9_set 33 rfl) ?_
          refine mj_go_icmp_lt (tgt := 68) rfl (mj_dt dt_X9_set 34 rfl) (fun b8 => ?_) (fun b8 => ?_)
          · rw [if_pos b8] at h
            refine mj_go_aload_n (k := 0) (x := 95) rfl (mj_dt dt_X9_set 39 rfl) ?_
            refine ml_getR (c := 9) (k := 30) (q := 115) fd_9_30 rf_95_30 (Or.inl fl_X9_83) ho_95 (mj_dt dt_X9_set 40 rfl) ?_
            refine mj_go_bipush (v := 120) rfl (mj_dt dt_X9_set 41 rfl) ?_
            refine mj_go_iload_n (k := 1) (x := v1) rfl (mj_dt dt_X9_set 42 rfl) ?_
            refine mj_go_imul (mj_dt dt_X9_set 43 rfl) ?_
            refine mj_go_iload_n (k := 2) (x := v2) rfl (mj_dt dt_X9_set 44 rfl) ?_
            refine mj_go_iadd (mj_dt dt_X9_set 45 rfl) ?_
            refine mj_go_aload_n (k := 0) (x := 95) rfl (mj_dt dt_X9_set 46 rfl) ?_
            refine ml_getR (c := 9) (k := 26) (q := 111) fd_9_26 rf_95_26 (Or.inl fl_X9_71) ho_95 (mj_dt dt_X9_set 47 rfl) ?_
            refine mj_go_iload_n (k := 1) (x := v1) rfl (mj_dt dt_X9_set 48 rfl) ?_
            obtain ⟨c9, h⟩ := mj_ck_some h
            refine mk_iald c9 (mj_dt dt_X9_set 49 rfl) ?_
            refine mj_go_if_ne (tgt := 94) rfl (mj_dt dt_X9_set 50 rfl) (fun b10 => ?_) (fun b10 => ?_)
            · rw [if_neg b10] at h
              refine mj_go_aload_n (k := 0) (x := 95) rfl (mj_dt dt_X9_set 56 rfl) ?_
              refine ml_getR (c := 9) (k := 26) (q := 111) fd_9_26 rf_95_26 (Or.inl fl_X9_71) ho_95 (mj_dt dt_X9_set 57 rfl) ?_
              refine mj_go_iload_n (k := 1) (x := v1) rfl (mj_dt dt_X9_set 58 rfl) ?_
              refine mk_iald c9 (mj_dt dt_X9_set 59 rfl) ?_
              refine mj_go_iconst (v := 1) rfl (mj_dt dt_X9_set 60 rfl) ?_
              refine mj_go_icmp_ne (tgt := 111) rfl (mj_dt dt_X9_set 61 rfl) (fun b11 => ?_) (fun b11 => ?_)
              · rw [if_neg b11] at h
                refine mj_go_aload_n (k := 0) (x := 95) rfl (mj_dt dt_X9_set 67 rfl) ?_
                refine ml_getR (c := 9) (k := 26) (q := 111) fd_9_26 rf_95_26 (Or.inl fl_X9_71) ho_95 (mj_dt dt_X9_set 68 rfl) ?_
                refine mj_go_iload_n (k := 1) (x := v1) rfl (mj_dt dt_X9_set 69 rfl) ?_
                refine mk_iald c9 (mj_dt dt_X9_set 70 rfl) ?_
                refine mj_go_iconst (v := 2) rfl (mj_dt dt_X9_set 71 rfl) ?_
                refine mj_go_icmp_ne (tgt := 127) rfl (mj_dt dt_X9_set 72 rfl) (fun b12 => ?_) (fun b12 => ?_)
                · rw [if_neg b12] at h
                  refine mj_go_lload_n (k := 3) (x := v3) rfl (mj_dt dt_X9_set 77 rfl) ?_
                  refine mj_go_sub (lv' := []) (fun _ h9 => absurd h9 List.not_mem_nil) ?_
                  exact k_X9_set_128 hδ h
                · rw [if_pos b12] at h
                  refine mj_go_lload_n (k := 3) (x := v3) rfl (mj_dt dt_X9_set 73 rfl) ?_
                  refine mj_go_l2i (mj_dt dt_X9_set 74 rfl) ?_
                  refine mj_go_i2l (mj_dt dt_X9_set 75 rfl) ?_
                  refine mj_go_goto (tgt := 128) rfl (mj_dt dt_X9_set 76 rfl) ?_
                  refine mj_go_sub (lv' := []) (fun _ h9 => absurd h9 List.not_mem_nil) ?_
                  exact k_X9_set_128 hδ h
              · rw [if_pos b11] at h
                refine mj_go_lload_n (k := 3) (x := v3) rfl (mj_dt dt_X9_set 62 rfl) ?_
                refine mj_go_l2i (mj_dt dt_X9_set 63 rfl) ?_
                refine mj_go_i2s (mj_dt dt_X9_set 64 rfl) ?_
                refine mj_go_i2l (mj_dt dt_X9_set 65 rfl) ?_
                refine mj_go_goto (tgt := 128) rfl (mj_dt dt_X9_set 66 rfl) ?_
                refine mj_go_sub (lv' := []) (fun _ h9 => absurd h9 List.not_mem_nil) ?_
                exact k_X9_set_128 hδ h
            · rw [if_pos b10] at h
              refine mj_go_lload_n (k := 3) (x := v3) rfl (mj_dt dt_X9_set 51 rfl) ?_
              refine mj_go_l2i (mj_dt dt_X9_set 52 rfl) ?_
              refine mj_go_i2b (mj_dt dt_X9_set 53 rfl) ?_
              refine mj_go_i2l (mj_dt dt_X9_set 54 rfl) ?_
              refine mj_go_goto (tgt := 128) rfl (mj_dt dt_X9_set 55 rfl) ?_
              refine mj_go_sub (lv' := []) (fun _ h9 => absurd h9 List.not_mem_nil) ?_
              exact k_X9_set_128 hδ h
          · rw [if_neg b8] at h
            refine mj_go_sub (lv' := [(0, .ref 95)]) (List.forall_mem_cons.mpr ⟨rfl, (fun _ h9 => absurd h9 List.not_mem_nil)⟩) ?_
            exact k_X9_set_61 hδ h
      · rw [if_pos b5] at h
        refine mj_go_aload_n (k := 0) (x := 95) rfl (mj_dt dt_X9_set 23 rfl) ?_
        refine mj_go_bipush (v := -3) rfl (mj_dt dt_X9_set 24 rfl) ?_
        obtain ⟨r6, er6, h⟩ := mj_bind_some h
        refine ml_callV (Y' := mY_X9_no) (as := [.int (-3 : Int32)]) (rest := []) (c := 9) (v := (some (.int r6.1))) (M1 := (mj_fin r6.2)) ho_95 rfl lm_X9_134 wc_X9_no pl_X9_no ok_X9_no rfl rfl (Nat.le_of_ble_eq_true rfl) (k_X9_no (by omega) er6) (mj_dt dt_X9_set 25 rfl) ?_
        obtain rfl := Option.some.inj h
        exact mj_go_ret (v := some (.int r6.1)) (Nat.le_of_ble_eq_true rfl) (mj_retI (mj_dt dt_X9_set 26 rfl) rfl)
    · rw [if_pos b4] at h
      refine mj_go_aload_n (k := 0) (x := 95) rfl (mj_dt dt_X9_set 14 rfl) ?_
      refine mj_go_bipush (v := -2) rfl (mj_dt dt_X9_set 15 rfl) ?_
      obtain ⟨r5, er5, h⟩ := mj_bind_some h
      refine ml_callV (Y' := mY_X9_no) (as := [.int (-2 : Int32)]) (rest := []) (c := 9) (v := (some (.int r5.1))) (M1 := (mj_fin r5.2)) ho_95 rfl lm_X9_134 wc_X9_no pl_X9_no ok_X9_no rfl rfl (Nat.le_of_ble_eq_true rfl) (k_X9_no (by omega) er5) (mj_dt dt_X9_set 16 rfl) ?_
      obtain rfl := Option.some.inj h
      exact mj_go_ret (v := some (.int r5.1)) (Nat.le_of_ble_eq_true rfl) (mj_retI (mj_dt dt_X9_set 17 rfl) rfl)
  · rw [if_pos b2] at h
    refine mj_go_aload_n (k := 0) (x := 95) rfl (mj_dt dt_X9_set 4 rfl) ?_
    refine mj_go_iconst (v := -1) rfl (mj_dt dt_X9_set 5 rfl) ?_
    obtain ⟨r3, er3, h⟩ := mj_bind_some h
    refine ml_callV (Y' := mY_X9_no) (as := [.int (-1 : Int32)]) (rest := []) (c := 9) (v := (some (.int r3.1))) (M1 := (mj_fin r3.2)) ho_95 rfl lm_X9_134 wc_X9_no pl_X9_no ok_X9_no rfl rfl (Nat.le_of_ble_eq_true rfl) (k_X9_no (by omega) er3) (mj_dt dt_X9_set 6 rfl) ?_
    obtain rfl := Option.some.inj h
    exact mj_go_ret (v := some (.int r3.1)) (Nat.le_of_ble_eq_true rfl) (mj_retI (mj_dt dt_X9_set 7 rfl) rfl)
def f_X6_hasRange_30 (N : Nat) (m : mj_m) : Option (Int32) := (some 0)
theorem k_X6_hasRange_30 {L : Nat} {xs : Nat → Int32} {δ N : Nat} {m : mj_m} {a : Int32} (h : f_X6_hasRange_30 N m = some a) : mj_Go (mj_EX L xs) δ mY_X6_hasRange 30 [] [] (mj_fin m) (some (.int a), (mj_fin m)) := by
  unfold f_X6_hasRange_30 at h
  refine mj_go_iconst (v := 0) rfl (mj_dt dt_X6_hasRange 16 rfl) ?_
  obtain rfl := Option.some.inj h
  exact mj_go_ret (v := some (.int 0)) (Nat.le_of_ble_eq_true rfl) (mj_retZ (mj_dt dt_X6_hasRange 17 rfl) rfl rfl)
def f_X6_hasRange (N : Nat) (v0 : Nat) (v1 : Int32) (v2 : Int32) (m : mj_m) : Option (Int32) := if v1 < 0 then f_X6_hasRange_30 N m else (if v2 < 0 then f_X6_hasRange_30 N m else (mj_ck (mj_o 6 v0) ( if (m.1 v0 2) < v2 then f_X6_hasRange_30 N m else (if ((m.1 v0 2) - v2) < v1 then f_X6_hasRange_30 N m else ((some 1))))))
theorem k_X6_hasRange {L : Nat} {xs : Nat → Int32} {δ N : Nat} {v0 : Nat} {v1 : Int32} {v2 : Int32} {m : mj_m} (_ : 0 ≤ δ) {a : Int32} (h : f_X6_hasRange N v0 v1 v2 m = some a) : mj_Cl (mj_EX L xs) δ mY_X6_hasRange [.ref v0, .int v1, .int v2] (mj_fin m) (some (.int a), (mj_fin m)) := by
  refine mj_cl_of ok_X6_hasRange (Nat.le_of_ble_eq_true rfl) ?_
  unfold f_X6_hasRange at h
  refine mj_go_iload_n (k := 1) (x := v1) rfl (mj_dt dt_X6_hasRange 0 rfl) ?_
  refine mj_go_if_lt (tgt := 30) rfl (mj_dt dt_X6_hasRange 1 rfl) (fun b1 => ?_) (fun b1 => ?_)
  · rw [if_pos b1] at h
    refine mj_go_sub (lv' := []) (fun _ h9 => absurd h9 List.not_mem_nil) ?_
    exact k_X6_hasRange_30 h
  · rw [if_neg b1] at h
    refine mj_go_iload_n (k := 2) (x := v2) rfl (mj_dt dt_X6_hasRange 2 rfl) ?_
    refine mj_go_if_lt (tgt := 30) rfl (mj_dt dt_X6_hasRange 3 rfl) (fun b2 => ?_) (fun b2 => ?_)
    · rw [if_pos b2] at h
      refine mj_go_sub (lv' := []) (fun _ h9 => absurd h9 List.not_mem_nil) ?_
      exact k_X6_hasRange_30 h
    · rw [if_neg b2] at h
      refine mj_go_iload_n (k := 2) (x := v2) rfl (mj_dt dt_X6_hasRange 4 rfl) ?_
      refine mj_go_aload_n (k := 0) (x := v0) rfl (mj_dt dt_X6_hasRange 5 rfl) ?_
      obtain ⟨c3, h⟩ := mj_ck_some h
      refine mk_getI (c := 6) (k := 2) (Or.inl fd_6_2) (Or.inl fl_X6_19) c3 (mj_dt dt_X6_hasRange 6 rfl) ?_
      refine mj_go_icmp_gt (tgt := 30) rfl (mj_dt dt_X6_hasRange 7 rfl) (fun b4 => ?_) (fun b4 => ?_)
      · rw [if_pos b4] at h
        refine mj_go_sub (lv' := []) (fun _ h9 => absurd h9 List.not_mem_nil) ?_
        exact k_X6_hasRange_30 h
      · rw [if_neg b4] at h
        refine mj_go_iload_n (k := 1) (x := v1) rfl (mj_dt dt_X6_hasRange 8 rfl) ?_
        refine mj_go_aload_n (k := 0) (x := v0) rfl (mj_dt dt_X6_hasRange 9 rfl) ?_
        refine mk_getI (c := 6) (k := 2) (Or.inl fd_6_2) (Or.inl fl_X6_19) c3 (mj_dt dt_X6_hasRange 10 rfl) ?_
        refine mj_go_iload_n (k := 2) (x := v2) rfl (mj_dt dt_X6_hasRange 11 rfl) ?_
        refine mj_go_isub (mj_dt dt_X6_hasRange 12 rfl) ?_
        refine mj_go_icmp_gt (tgt := 30) rfl (mj_dt dt_X6_hasRange 13 rfl) (fun b5 => ?_) (fun b5 => ?_)
        · rw [if_pos b5] at h
          refine mj_go_sub (lv' := []) (fun _ h9 => absurd h9 List.not_mem_nil) ?_
          exact k_X6_hasRange_30 h
        · rw [if_neg b5] at h
          refine mj_go_iconst (v := 1) rfl (mj_dt dt_X6_hasRange 14 rfl) ?_
          refine mj_go_goto (tgt := 31) rfl (mj_dt dt_X6_hasRange 15 rfl) ?_
          obtain rfl := Option.some.inj h
          exact mj_go_ret (v := some (.int 1)) (Nat.le_of_ble_eq_true rfl) (mj_retZ (mj_dt dt_X6_hasRange 17 rfl) rfl rfl)
def f_X8_copy_14 (N : Nat) (m : mj_m) : Option (Int32 × mj_m) := (f_X8_refuse N 1 m).bind (fun r1 => some (r1.1, r1.2))
theorem k_X8_copy_14 {L : Nat} {xs : Nat → Int32} {δ N : Nat} {m : mj_m} (hδ : 0 ≤ δ) {a : Int32 × mj_m} (h : f_X8_copy_14 N m = some a) : mj_Go (mj_EX L xs) (δ + 1) mY_X8_copy 14 [(0, .ref 0)] [] (mj_fin m) (some (.int a.1), (mj_fin a.2)) := by
  unfold f_X8_copy_14 at h
  refine mj_go_aload_n (k := 0) (x := 0) rfl (mj_dt dt_X8_copy 6 rfl) ?_
  refine mj_go_iconst (v := 1) rfl (mj_dt dt_X8_copy 7 rfl) ?_
  obtain ⟨r1, er1, h⟩ := mj_bind_some h
  refine ml_callV (Y' := mY_X8_refuse) (as := [.int 1]) (rest := []) (c := 8) (v := (some (.int r1.1))) (M1 := (mj_fin r1.2)) ho_0 rfl lm_X8_86 wc_X8_refuse pl_X8_refuse ok_X8_refuse rfl rfl (Nat.le_of_ble_eq_true rfl) (k_X8_refuse (by omega) er1) (mj_dt dt_X8_copy 8 rfl) ?_
  obtain rfl := Option.some.inj h
  exact mj_go_ret (v := some (.int r1.1)) (Nat.le_of_ble_eq_true rfl) (mj_retI (mj_dt dt_X8_copy 9 rfl) rfl)
def f_X8_copy_81 (N : Nat) (m : mj_m) : Option (Int32 × mj_m) := (f_X8_refuse N 2 m).bind (fun r1 => some (r1.1, r1.2))
theorem k_X8_copy_81 {L : Nat} {xs : Nat → Int32} {δ N : Nat} {m : mj_m} (hδ : 0 ≤ δ) {a : Int32 × mj_m} (h : f_X8_copy_81 N m = some a) : mj_Go (mj_EX L xs) (δ + 1) mY_X8_copy 81 [(0, .ref 0)] [] (mj_fin m) (some (.int a.1), (mj_fin a.2)) := by
  unfold f_X8_copy_81 at h
  refine mj_go_aload_n (k := 0) (x := 0) rfl (mj_dt dt_X8_copy 37 rfl) ?_
  refine mj_go_iconst (v := 2) rfl (mj_dt dt_X8_copy 38 rfl) ?_
  obtain ⟨r1, er1, h⟩ := mj_bind_some h
  refine ml_callV (Y' := mY_X8_refuse) (as := [.int 2]) (rest := []) (c := 8) (v := (some (.int r1.1))) (M1 := (mj_fin r1.2)) ho_0 rfl lm_X8_86 wc_X8_refuse pl_X8_refuse ok_X8_refuse rfl rfl (Nat.le_of_ble_eq_true rfl) (k_X8_refuse (by omega) er1) (mj_dt dt_X8_copy 39 rfl) ?_
  obtain rfl := Option.some.inj h
  exact mj_go_ret (v := some (.int r1.1)) (Nat.le_of_ble_eq_true rfl) (mj_retI (mj_dt dt_X8_copy 40 rfl) rfl)
def f_X8_copy_103 (N : Nat) (m : mj_m) : Option (Int32 × mj_m) := (f_X8_refuse N 3 m).bind (fun r1 => some (r1.1, r1.2))
theorem k_X8_copy_103 {L : Nat} {xs : Nat → Int32} {δ N : Nat} {m : mj_m} (hδ : 0 ≤ δ) {a : Int32 × mj_m} (h : f_X8_copy_103 N m = some a) : mj_Go (mj_EX L xs) (δ + 1) mY_X8_copy 103 [(0, .ref 0)] [] (mj_fin m) (some (.int a.1), (mj_fin a.2)) := by
  unfold f_X8_copy_103 at h
  refine mj_go_aload_n (k := 0) (x := 0) rfl (mj_dt dt_X8_copy 47 rfl) ?_
  refine mj_go_iconst (v := 3) rfl (mj_dt dt_X8_copy 48 rfl) ?_
  obtain ⟨r1, er1, h⟩ := mj_bind_some h
  refine ml_callV (Y' := mY_X8_refuse) (as := [.int 3]) (rest := []) (c := 8) (v := (some (.int r1.1))) (M1 := (mj_fin r1.2)) ho_0 rfl lm_X8_86 wc_X8_refuse pl_X8_refuse ok_X8_refuse rfl rfl (Nat.le_of_ble_eq_true rfl) (k_X8_refuse (by omega) er1) (mj_dt dt_X8_copy 49 rfl) ?_
  obtain rfl := Option.some.inj h
  exact mj_go_ret (v := some (.int r1.1)) (Nat.le_of_ble_eq_true rfl) (mj_retI (mj_dt dt_X8_copy 50 rfl) rfl)
def f_X8_copy_143 (N : Nat) (m : mj_m) : Option (Int32 × mj_m) := (f_X8_refuse N 5 m).bind (fun r1 => some (r1.1, r1.2))
theorem k_X8_copy_143 {L : Nat} {xs : Nat → Int32} {δ N : Nat} {m : mj_m} (hδ : 0 ≤ δ) {a : Int32 × mj_m} (h : f_X8_copy_143 N m = some a) : mj_Go (mj_EX L xs) (δ + 1) mY_X8_copy 143 [(0, .ref 0)] [] (mj_fin m) (some (.int a.1), (mj_fin a.2)) := by
  unfold f_X8_copy_143 at h
  refine mj_go_aload_n (k := 0) (x := 0) rfl (mj_dt dt_X8_copy 67 rfl) ?_
  refine mj_go_iconst (v := 5) rfl (mj_dt dt_X8_copy 68 rfl) ?_
  obtain ⟨r1, er1, h⟩ := mj_bind_some h
  refine ml_callV (Y' := mY_X8_refuse) (as := [.int 5]) (rest := []) (c := 8) (v := (some (.int r1.1))) (M1 := (mj_fin r1.2)) ho_0 rfl lm_X8_86 wc_X8_refuse pl_X8_refuse ok_X8_refuse rfl rfl (Nat.le_of_ble_eq_true rfl) (k_X8_refuse (by omega) er1) (mj_dt dt_X8_copy 69 rfl) ?_
  obtain rfl := Option.some.inj h
  exact mj_go_ret (v := some (.int r1.1)) (Nat.le_of_ble_eq_true rfl) (mj_retI (mj_dt dt_X8_copy 70 rfl) rfl)
def f_X8_copy_87 (N : Nat) (v3 : Int32) (v4 : Int32) (v5 : Int32) (v6 : Nat) (v7 : Nat) (m : mj_m) : Option (Int32 × mj_m) := (f_X6_isRow N v6 m).bind (fun r1 => mj_ck (mj_o 6 v6) ( if r1 = 0 then f_X8_copy_103 N m else ((f_X6_isRow N v7 m).bind (fun r4 => mj_ck (mj_o 6 v7) ( if r4 = 0 then f_X8_copy_103 N m else (if 0 ≤ v5 then ((f_X6_hasRange N v6 v3 v5 m).bind (fun r8 => if r8 = 0 then f_X8_copy_143 N m else ((f_X6_hasRange N v7 v4 v5 m).bind (fun r10 => if r10 = 0 then f_X8_copy_143 N m else (mj_ck (mj_p 1 (v6 + 1) (v7 + 1) v3 v4 v5) ( mj_mw (mj_kL m (v6 + 1) (v7 + 1) (v3.toNatClampNeg) (v4.toNatClampNeg) (v5.toNatClampNeg)) (fun m13 => some (1, m13)))))))) else ((f_X8_refuse N 4 m).bind (fun r8 => some (r8.1, r8.2)))))))))
theorem k_X8_copy_87 {L : Nat} {xs : Nat → Int32} {δ N : Nat} {v3 : Int32} {v4 : Int32} {v5 : Int32} {v6 : Nat} {v7 : Nat} {m : mj_m} (hδ : 0 ≤ δ) {a : Int32 × mj_m} (h : f_X8_copy_87 N v3 v4 v5 v6 v7 m = some a) : mj_Go (mj_EX L xs) (δ + 1) mY_X8_copy 87 [(0, .ref 0), (3, .int v3), (4, .int v4), (5, .int v5), (6, .ref v6), (7, .ref v7)] [] (mj_fin m) (some (.int a.1), (mj_fin a.2)) := by
  unfold f_X8_copy_87 at h
  refine mj_go_aload (i := 6) (x := v6) rfl (mj_dt dt_X8_copy 41 rfl) ?_
  obtain ⟨r1, er1, h⟩ := mj_bind_some h
  obtain ⟨c2, h⟩ := mj_ck_some h
  refine ml_callV (Y' := mY_X6_isRow) (as := []) (rest := []) (c := 6) (v := (some (.int r1))) (M1 := (mj_fin m)) c2 rfl lm_X8_108 wc_X6_isRow pl_X6_isRow ok_X6_isRow rfl rfl (Nat.le_of_ble_eq_true rfl) (k_X6_isRow (by omega) er1) (mj_dt dt_X8_copy 42 rfl) ?_
  refine mj_go_if_eq (tgt := 103) rfl (mj_dt dt_X8_copy 43 rfl) (fun b3 => ?_) (fun b3 => ?_)
  · rw [if_pos b3] at h
    refine mj_go_sub (lv' := [(0, .ref 0)]) (List.forall_mem_cons.mpr ⟨rfl, (fun _ h9 => absurd h9 List.not_mem_nil)⟩) ?_
    exact k_X8_copy_103 hδ h
  · rw [if_neg b3] at h
    refine mj_go_aload (i := 7) (x := v7) rfl (mj_dt dt_X8_copy 44 rfl) ?_
    obtain ⟨r4, er4, h⟩ := mj_bind_some h
    obtain ⟨c5, h⟩ := mj_ck_some h
    refine ml_callV (Y' := mY_X6_isRow) (as := []) (rest := []) (c := 6) (v := (some (.int r4))) (M1 := (mj_fin m)) c5 rfl lm_X8_108 wc_X6_isRow pl_X6_isRow ok_X6_isRow rfl rfl (Nat.le_of_ble_eq_true rfl) (k_X6_isRow (by omega) er4) (mj_dt dt_X8_copy 45 rfl) ?_
    refine mj_go_if_ne (tgt := 109) rfl (mj_dt dt_X8_copy 46 rfl) (fun b6 => ?_) (fun b6 => ?_)
    · rw [if_neg b6] at h
      refine mj_go_iload (i := 5) (x := v5) rfl (mj_dt dt_X8_copy 51 rfl) ?_
      refine mj_go_if_ge (tgt := 120) rfl (mj_dt dt_X8_copy 52 rfl) (fun b7 => ?_) (fun b7 => ?_)
      · rw [if_pos b7] at h
        refine mj_go_aload (i := 6) (x := v6) rfl (mj_dt dt_X8_copy 57 rfl) ?_
        refine mj_go_iload_n (k := 3) (x := v3) rfl (mj_dt dt_X8_copy 58 rfl) ?_
        refine mj_go_iload (i := 5) (x := v5) rfl (mj_dt dt_X8_copy 59 rfl) ?_
        obtain ⟨r8, er8, h⟩ := mj_bind_some h
        refine ml_callV (Y' := mY_X6_hasRange) (as := [.int v3, .int v5]) (rest := []) (c := 6) (v := (some (.int r8))) (M1 := (mj_fin m)) c2 rfl lm_X8_114 wc_X6_hasRange pl_X6_hasRange ok_X6_hasRange rfl rfl (Nat.le_of_ble_eq_true rfl) (k_X6_hasRange (by omega) er8) (mj_dt dt_X8_copy 60 rfl) ?_
        refine mj_go_if_eq (tgt := 143) rfl (mj_dt dt_X8_copy 61 rfl) (fun b9 => ?_) (fun b9 => ?_)
        · rw [if_pos b9] at h
          refine mj_go_sub (lv' := [(0, .ref 0)]) (List.forall_mem_cons.mpr ⟨rfl, (fun _ h9 => absurd h9 List.not_mem_nil)⟩) ?_
          exact k_X8_copy_143 hδ h
        · rw [if_neg b9] at h
          refine mj_go_aload (i := 7) (x := v7) rfl (mj_dt dt_X8_copy 62 rfl) ?_
          refine mj_go_iload (i := 4) (x := v4) rfl (mj_dt dt_X8_copy 63 rfl) ?_
          refine mj_go_iload (i := 5) (x := v5) rfl (mj_dt dt_X8_copy 64 rfl) ?_
          obtain ⟨r10, er10, h⟩ := mj_bind_some h
          refine ml_callV (Y' := mY_X6_hasRange) (as := [.int v4, .int v5]) (rest := []) (c := 6) (v := (some (.int r10))) (M1 := (mj_fin m)) c5 rfl lm_X8_114 wc_X6_hasRange pl_X6_hasRange ok_X6_hasRange rfl rfl (Nat.le_of_ble_eq_true rfl) (k_X6_hasRange (by omega) er10) (mj_dt dt_X8_copy 65 rfl) ?_
          refine mj_go_if_ne (tgt := 149) rfl (mj_dt dt_X8_copy 66 rfl) (fun b11 => ?_) (fun b11 => ?_)
          · rw [if_neg b11] at h
            refine mj_go_aload (i := 6) (x := v6) rfl (mj_dt dt_X8_copy 71 rfl) ?_
            refine ml_getR (c := 6) (k := 0) (q := v6 + 1) fd_6_0 (mj_RFs c2) (Or.inl fl_X8_118) c2 (mj_dt dt_X8_copy 72 rfl) ?_
            refine mj_go_iload_n (k := 3) (x := v3) rfl (mj_dt dt_X8_copy 73 rfl) ?_
            refine mj_go_aload (i := 7) (x := v7) rfl (mj_dt dt_X8_copy 74 rfl) ?_
            refine ml_getR (c := 6) (k := 0) (q := v7 + 1) fd_6_0 (mj_RFs c5) (Or.inl fl_X8_118) c5 (mj_dt dt_X8_copy 75 rfl) ?_
            refine mj_go_iload (i := 4) (x := v4) rfl (mj_dt dt_X8_copy 76 rfl) ?_
            refine mj_go_iload (i := 5) (x := v5) rfl (mj_dt dt_X8_copy 77 rfl) ?_
            obtain ⟨c12, h⟩ := mj_ck_some h
            obtain ⟨m13, em13, h⟩ := mj_mw_some h
            refine ml_cpyL hm_X8_122 (Nat.le_of_ble_eq_true rfl) c12 (mj_dt dt_X8_copy 78 rfl) ?_
            refine ml_eqm (M1 := (mj_fin m13)) (by rw [em13] <;> rfl) ?_
            refine mj_go_iconst (v := 1) rfl (mj_dt dt_X8_copy 79 rfl) ?_
            obtain rfl := Option.some.inj h
            exact mj_go_ret (v := some (.int 1)) (Nat.le_of_ble_eq_true rfl) (mj_retI (mj_dt dt_X8_copy 80 rfl) rfl)
          · rw [if_pos b11] at h
            refine mj_go_sub (lv' := [(0, .ref 0)]) (List.forall_mem_cons.mpr ⟨rfl, (fun _ h9 => absurd h9 List.not_mem_nil)⟩) ?_
            exact k_X8_copy_143 hδ h
      · rw [if_neg b7] at h
        refine mj_go_aload_n (k := 0) (x := 0) rfl (mj_dt dt_X8_copy 53 rfl) ?_
        refine mj_go_iconst (v := 4) rfl (mj_dt dt_X8_copy 54 rfl) ?_
        obtain ⟨r8, er8, h⟩ := mj_bind_some h
        refine ml_callV (Y' := mY_X8_refuse) (as := [.int 4]) (rest := []) (c := 8) (v := (some (.int r8.1))) (M1 := (mj_fin r8.2)) ho_0 rfl lm_X8_86 wc_X8_refuse pl_X8_refuse ok_X8_refuse rfl rfl (Nat.le_of_ble_eq_true rfl) (k_X8_refuse (by omega) er8) (mj_dt dt_X8_copy 55 rfl) ?_
        obtain rfl := Option.some.inj h
        exact mj_go_ret (v := some (.int r8.1)) (Nat.le_of_ble_eq_true rfl) (mj_retI (mj_dt dt_X8_copy 56 rfl) rfl)
    · rw [if_pos b6] at h
      refine mj_go_sub (lv' := [(0, .ref 0)]) (List.forall_mem_cons.mpr ⟨rfl, (fun _ h9 => absurd h9 List.not_mem_nil)⟩) ?_
      exact k_X8_copy_103 hδ h
def f_X8_copy (N : Nat) (v1 : Int32) (v2 : Int32) (v3 : Int32) (v4 : Int32) (v5 : Int32) (m : mj_m) : Option (Int32 × mj_m) := (f_X8_isShelf N v1 m).bind (fun r1 => if r1 = 0 then f_X8_copy_14 N m else ((f_X8_isShelf N v2 m).bind (fun r3 => if r3 = 0 then f_X8_copy_14 N m else (mj_ck (mj_b 3 35 v1) ( mj_ck (mj_b 3 35 v2) ( (f_X6_isRule N (79 + 2 * v1.toNatClampNeg) m).bind (fun r7 => if r7 = 0 then ((f_X6_isRule N (79 + 2 * v2.toNatClampNeg) m).bind (fun r9 => if r9 = 0 then ((f_X6_isRow N (79 + 2 * v1.toNatClampNeg) m).bind (fun r11 => if r11 = 0 then f_X8_copy_87 N v3 v4 v5 (79 + 2 * v1.toNatClampNeg) (79 + 2 * v2.toNatClampNeg) m else ((f_X6_isRow N (79 + 2 * v2.toNatClampNeg) m).bind (fun r13 => if r13 = 0 then f_X8_copy_87 N v3 v4 v5 (79 + 2 * v1.toNatClampNeg) (79 + 2 * v2.toNatClampNeg) m else (if (m.1 (79 + 2 * v1.toNatClampNeg) 1) = (m.1 (79 + 2 * v2.toNatClampNeg) 1) then f_X8_copy_87 N v3 v4 v5 (79 + 2 * v1.toNatClampNeg) (79 + 2 * v2.toNatClampNeg) m else f_X8_copy_81 N m))))) else f_X8_copy_81 N m)) else f_X8_copy_81 N m)))))))
theorem k_X8_copy {L : Nat} {xs : Nat → Int32} {δ N : Nat} {v1 : Int32} {v2 : Int32} {v3 : Int32} {v4 : Int32} {v5 : Int32} {m : mj_m} (hδ : 1 ≤ δ) {a : Int32 × mj_m} (h : f_X8_copy N v1 v2 v3 v4 v5 m = some a) : mj_Cl (mj_EX L xs) δ mY_X8_copy [.ref 0, .int v1, .int v2, .int v3, .int v4, .int v5] (mj_fin m) (some (.int a.1), (mj_fin a.2)) := by
  obtain ⟨δ, rfl⟩ : ∃ d, δ = d + 1 := ⟨δ - 1, by omega⟩
  have hδ : 0 ≤ δ := by omega
  refine mj_cl_of ok_X8_copy (Nat.le_of_ble_eq_true rfl) ?_
  unfold f_X8_copy at h
  refine mj_go_iload_n (k := 1) (x := v1) rfl (mj_dt dt_X8_copy 0 rfl) ?_
  obtain ⟨r1, er1, h⟩ := mj_bind_some h
  refine ml_callS (Y' := mY_X8_isShelf) (as := [.int v1]) (rest := []) (v := (some (.int r1))) (M1 := (mj_fin m)) lm_X8_82 wc_X8_isShelf pl_X8_isShelf ok_X8_isShelf rfl rfl (Nat.le_of_ble_eq_true rfl) (k_X8_isShelf (by omega) er1) (mj_dt dt_X8_copy 1 rfl) ?_
  refine mj_go_if_eq (tgt := 14) rfl (mj_dt dt_X8_copy 2 rfl) (fun b2 => ?_) (fun b2 => ?_)
  · rw [if_pos b2] at h
    refine mj_go_sub (lv' := [(0, .ref 0)]) (List.forall_mem_cons.mpr ⟨rfl, (fun _ h9 => absurd h9 List.not_mem_nil)⟩) ?_
    exact k_X8_copy_14 hδ h
  · rw [if_neg b2] at h
    refine mj_go_iload_n (k := 2) (x := v2) rfl (mj_dt dt_X8_copy 3 rfl) ?_
    obtain ⟨r3, er3, h⟩ := mj_bind_some h
    refine ml_callS (Y' := mY_X8_isShelf) (as := [.int v2]) (rest := []) (v := (some (.int r3))) (M1 := (mj_fin m)) lm_X8_82 wc_X8_isShelf pl_X8_isShelf ok_X8_isShelf rfl rfl (Nat.le_of_ble_eq_true rfl) (k_X8_isShelf (by omega) er3) (mj_dt dt_X8_copy 4 rfl) ?_
    refine mj_go_if_ne (tgt := 20) rfl (mj_dt dt_X8_copy 5 rfl) (fun b4 => ?_) (fun b4 => ?_)
    · rw [if_neg b4] at h
      refine mj_go_aload_n (k := 0) (x := 0) rfl (mj_dt dt_X8_copy 10 rfl) ?_
      refine ml_getR (c := 8) (k := 2) (q := 35) fd_8_2 rf_0_2 (Or.inl fl_X8_21) ho_0 (mj_dt dt_X8_copy 11 rfl) ?_
      refine mj_go_iload_n (k := 1) (x := v1) rfl (mj_dt dt_X8_copy 12 rfl) ?_
      obtain ⟨c5, h⟩ := mj_ck_some h
      refine ml_aald3 (q := 79 + 2 * v1.toNatClampNeg) c5 (mj_hs35 c5).1 (mj_dt dt_X8_copy 13 rfl) ?_
      refine mj_go_astore (i := 6) (by decide) (mj_dt dt_X8_copy 14 rfl) ?_
      refine mj_go_aload_n (k := 0) (x := 0) rfl (mj_dt dt_X8_copy 15 rfl) ?_
      refine ml_getR (c := 8) (k := 2) (q := 35) fd_8_2 rf_0_2 (Or.inl fl_X8_21) ho_0 (mj_dt dt_X8_copy 16 rfl) ?_
      refine mj_go_iload_n (k := 2) (x := v2) rfl (mj_dt dt_X8_copy 17 rfl) ?_
      obtain ⟨c6, h⟩ := mj_ck_some h
      refine ml_aald3 (q := 79 + 2 * v2.toNatClampNeg) c6 (mj_hs35 c6).1 (mj_dt dt_X8_copy 18 rfl) ?_
      refine mj_go_astore (i := 7) (by decide) (mj_dt dt_X8_copy 19 rfl) ?_
      refine mj_go_aload (i := 6) (x := (79 + 2 * v1.toNatClampNeg)) rfl (mj_dt dt_X8_copy 20 rfl) ?_
      obtain ⟨r7, er7, h⟩ := mj_bind_some h
      refine ml_callV (Y' := mY_X6_isRule) (as := []) (rest := []) (c := 6) (v := (some (.int r7))) (M1 := (mj_fin m)) (mj_hs35 c5).2 rfl lm_X8_104 wc_X6_isRule pl_X6_isRule ok_X6_isRule rfl rfl (Nat.le_of_ble_eq_true rfl) (k_X6_isRule (by omega) er7) (mj_dt dt_X8_copy 21 rfl) ?_
      refine mj_go_if_ne (tgt := 81) rfl (mj_dt dt_X8_copy 22 rfl) (fun b8 => ?_) (fun b8 => ?_)
      · rw [if_neg b8] at h
        refine mj_go_sub (lv' := [(0, .ref 0)]) (List.forall_mem_cons.mpr ⟨rfl, (fun _ h9 => absurd h9 List.not_mem_nil)⟩) ?_
        exact k_X8_copy_81 hδ h
      · rw [if_pos b8] at h
        refine mj_go_aload (i := 7) (x := (79 + 2 * v2.toNatClampNeg)) rfl (mj_dt dt_X8_copy 23 rfl) ?_
        obtain ⟨r9, er9, h⟩ := mj_bind_some h
        refine ml_callV (Y' := mY_X6_isRule) (as := []) (rest := []) (c := 6) (v := (some (.int r9))) (M1 := (mj_fin m)) (mj_hs35 c6).2 rfl lm_X8_104 wc_X6_isRule pl_X6_isRule ok_X6_isRule rfl rfl (Nat.le_of_ble_eq_true rfl) (k_X6_isRule (by omega) er9) (mj_dt dt_X8_copy 24 rfl) ?_
        refine mj_go_if_ne (tgt := 81) rfl (mj_dt dt_X8_copy 25 rfl) (fun b10 => ?_) (fun b10 => ?_)
        · rw [if_neg b10] at h
          refine mj_go_sub (lv' := [(0, .ref 0)]) (List.forall_mem_cons.mpr ⟨rfl, (fun _ h9 => absurd h9 List.not_mem_nil)⟩) ?_
          exact k_X8_copy_81 hδ h
        · rw [if_pos b10] at h
          refine mj_go_aload (i := 6) (x := (79 + 2 * v1.toNatClampNeg)) rfl (mj_dt dt_X8_copy 26 rfl) ?_
          obtain ⟨r11, er11, h⟩ := mj_bind_some h
          refine ml_callV (Y' := mY_X6_isRow) (as := []) (rest := []) (c := 6) (v := (some (.int r11))) (M1 := (mj_fin m)) (mj_hs35 c5).2 rfl lm_X8_108 wc_X6_isRow pl_X6_isRow ok_X6_isRow rfl rfl (Nat.le_of_ble_eq_true rfl) (k_X6_isRow (by omega) er11) (mj_dt dt_X8_copy 27 rfl) ?_
          refine mj_go_if_eq (tgt := 87) rfl (mj_dt dt_X8_copy 28 rfl) (fun b12 => ?_) (fun b12 => ?_)
          · rw [if_pos b12] at h
            refine mj_go_sub (lv' := [(0, .ref 0), (3, .int v3), (4, .int v4), (5, .int v5), (6, .ref (79 + 2 * v1.toNatClampNeg)), (7, .ref (79 + 2 * v2.toNatClampNeg))]) (List.forall_mem_cons.mpr ⟨rfl, (List.forall_mem_cons.mpr ⟨rfl, (List.forall_mem_cons.mpr ⟨rfl, (List.forall_mem_cons.mpr ⟨rfl, (List.forall_mem_cons.mpr ⟨rfl, (List.forall_mem_cons.mpr ⟨rfl, (fun _ h9 => absurd h9 List.not_mem_nil)⟩)⟩)⟩)⟩)⟩)⟩) ?_
            exact k_X8_copy_87 hδ h
          · rw [if_neg b12] at h
            refine mj_go_aload (i := 7) (x := (79 + 2 * v2.toNatClampNeg)) rfl (mj_dt dt_X8_copy 29 rfl) ?_
            obtain ⟨r13, er13, h⟩ := mj_bind_some h
            refine ml_callV (Y' := mY_X6_isRow) (as := []) (rest := []) (c := 6) (v := (some (.int r13))) (M1 := (mj_fin m)) (mj_hs35 c6).2 rfl lm_X8_108 wc_X6_isRow pl_X6_isRow ok_X6_isRow rfl rfl (Nat.le_of_ble_eq_true rfl) (k_X6_isRow (by omega) er13) (mj_dt dt_X8_copy 30 rfl) ?_
            refine mj_go_if_eq (tgt := 87) rfl (mj_dt dt_X8_copy 31 rfl) (fun b14 => ?_) (fun b14 => ?_)
            · rw [if_pos b14] at h
              refine mj_go_sub (lv' := [(0, .ref 0), (3, .int v3), (4, .int v4), (5, .int v5), (6, .ref (79 + 2 * v1.toNatClampNeg)), (7, .ref (79 + 2 * v2.toNatClampNeg))]) (List.forall_mem_cons.mpr ⟨rfl, (List.forall_mem_cons.mpr ⟨rfl, (List.forall_mem_cons.mpr ⟨rfl, (List.forall_mem_cons.mpr ⟨rfl, (List.forall_mem_cons.mpr ⟨rfl, (List.forall_mem_cons.mpr ⟨rfl, (fun _ h9 => absurd h9 List.not_mem_nil)⟩)⟩)⟩)⟩)⟩)⟩) ?_
              exact k_X8_copy_87 hδ h
            · rw [if_neg b14] at h
              refine mj_go_aload (i := 6) (x := (79 + 2 * v1.toNatClampNeg)) rfl (mj_dt dt_X8_copy 32 rfl) ?_
              refine mk_getI (c := 6) (k := 1) (Or.inl fd_6_1) (Or.inl fl_X8_111) (mj_hs35 c5).2 (mj_dt dt_X8_copy 33 rfl) ?_
              refine mj_go_aload (i := 7) (x := (79 + 2 * v2.toNatClampNeg)) rfl (mj_dt dt_X8_copy 34 rfl) ?_
              refine mk_getI (c := 6) (k := 1) (Or.inl fd_6_1) (Or.inl fl_X8_111) (mj_hs35 c6).2 (mj_dt dt_X8_copy 35 rfl) ?_
              refine mj_go_icmp_eq (tgt := 87) rfl (mj_dt dt_X8_copy 36 rfl) (fun b15 => ?_) (fun b15 => ?_)
              · rw [if_pos b15] at h
                refine mj_go_sub (lv' := [(0, .ref 0), (3, .int v3), (4, .int v4), (5, .int v5), (6, .ref (79 + 2 * v1.toNatClampNeg)), (7, .ref (79 + 2 * v2.toNatClampNeg))]) (List.forall_mem_cons.mpr ⟨rfl, (List.forall_mem_cons.mpr ⟨rfl, (List.forall_mem_cons.mpr ⟨rfl, (List.forall_mem_cons.mpr ⟨rfl, (List.forall_mem_cons.mpr ⟨rfl, (List.forall_mem_cons.mpr ⟨rfl, (fun _ h9 => absurd h9 List.not_mem_nil)⟩)⟩)⟩)⟩)⟩)⟩) ?_
                exact k_X8_copy_87 hδ h
              · rw [if_neg b15] at h
                refine mj_go_sub (lv' := [(0, .ref 0)]) (List.forall_mem_cons.mpr ⟨rfl, (fun _ h9 => absurd h9 List.not_mem_nil)⟩) ?_
                exact k_X8_copy_81 hδ h
    · rw [if_pos b4] at h
      refine mj_go_sub (lv' := [(0, .ref 0)]) (List.forall_mem_cons.mpr ⟨rfl, (fun _ h9 => absurd h9 List.not_mem_nil)⟩) ?_
      exact k_X8_copy_14 hδ h
def f_X9_copy_16 (N : Nat) (m : mj_m) : Option (Int32 × mj_m) := (f_X9_no N (-1 : Int32) m).bind (fun r1 => some (r1.1, r1.2))
theorem k_X9_copy_16 {L : Nat} {xs : Nat → Int32} {δ N : Nat} {m : mj_m} (hδ : 0 ≤ δ) {a : Int32 × mj_m} (h : f_X9_copy_16 N m = some a) : mj_Go (mj_EX L xs) (δ + 1) mY_X9_copy 16 [(0, .ref 95)] [] (mj_fin m) (some (.int a.1), (mj_fin a.2)) := by
  unfold f_X9_copy_16 at h
  refine mj_go_aload_n (k := 0) (x := 95) rfl (mj_dt dt_X9_copy 8 rfl) ?_
  refine mj_go_iconst (v := -1) rfl (mj_dt dt_X9_copy 9 rfl) ?_
  obtain ⟨r1, er1, h⟩ := mj_bind_some h
  refine ml_callV (Y' := mY_X9_no) (as := [.int (-1 : Int32)]) (rest := []) (c := 9) (v := (some (.int r1.1))) (M1 := (mj_fin r1.2)) ho_95 rfl lm_X9_134 wc_X9_no pl_X9_no ok_X9_no rfl rfl (Nat.le_of_ble_eq_true rfl) (k_X9_no (by omega) er1) (mj_dt dt_X9_copy 10 rfl) ?_
  obtain rfl := Option.some.inj h
  exact mj_go_ret (v := some (.int r1.1)) (Nat.le_of_ble_eq_true rfl) (mj_retI (mj_dt dt_X9_copy 11 rfl) rfl)
def f_X9_copy_77 (N : Nat) (m : mj_m) : Option (Int32 × mj_m) := (f_X9_no N (-2 : Int32) m).bind (fun r1 => some (r1.1, r1.2))
theorem k_X9_copy_77 {L : Nat} {xs : Nat → Int32} {δ N : Nat} {m : mj_m} (hδ : 0 ≤ δ) {a : Int32 × mj_m} (h : f_X9_copy_77 N m = some a) : mj_Go (mj_EX L xs) (δ + 1) mY_X9_copy 77 [(0, .ref 95)] [] (mj_fin m) (some (.int a.1), (mj_fin a.2)) := by
  unfold f_X9_copy_77 at h
  refine mj_go_aload_n (k := 0) (x := 95) rfl (mj_dt dt_X9_copy 45 rfl) ?_
  refine mj_go_bipush (v := -2) rfl (mj_dt dt_X9_copy 46 rfl) ?_
  obtain ⟨r1, er1, h⟩ := mj_bind_some h
  refine ml_callV (Y' := mY_X9_no) (as := [.int (-2 : Int32)]) (rest := []) (c := 9) (v := (some (.int r1.1))) (M1 := (mj_fin r1.2)) ho_95 rfl lm_X9_134 wc_X9_no pl_X9_no ok_X9_no rfl rfl (Nat.le_of_ble_eq_true rfl) (k_X9_no (by omega) er1) (mj_dt dt_X9_copy 47 rfl) ?_
  obtain rfl := Option.some.inj h
  exact mj_go_ret (v := some (.int r1.1)) (Nat.le_of_ble_eq_true rfl) (mj_retI (mj_dt dt_X9_copy 48 rfl) rfl)
def f_X9_copy_102 (N : Nat) (m : mj_m) : Option (Int32 × mj_m) := (f_X9_no N (-3 : Int32) m).bind (fun r1 => some (r1.1, r1.2))
theorem k_X9_copy_102 {L : Nat} {xs : Nat → Int32} {δ N : Nat} {m : mj_m} (hδ : 0 ≤ δ) {a : Int32 × mj_m} (h : f_X9_copy_102 N m = some a) : mj_Go (mj_EX L xs) (δ + 1) mY_X9_copy 102 [(0, .ref 95)] [] (mj_fin m) (some (.int a.1), (mj_fin a.2)) := by
  unfold f_X9_copy_102 at h
  refine mj_go_aload_n (k := 0) (x := 95) rfl (mj_dt dt_X9_copy 59 rfl) ?_
  refine mj_go_bipush (v := -3) rfl (mj_dt dt_X9_copy 60 rfl) ?_
  obtain ⟨r1, er1, h⟩ := mj_bind_some h
  refine ml_callV (Y' := mY_X9_no) (as := [.int (-3 : Int32)]) (rest := []) (c := 9) (v := (some (.int r1.1))) (M1 := (mj_fin r1.2)) ho_95 rfl lm_X9_134 wc_X9_no pl_X9_no ok_X9_no rfl rfl (Nat.le_of_ble_eq_true rfl) (k_X9_no (by omega) er1) (mj_dt dt_X9_copy 61 rfl) ?_
  obtain rfl := Option.some.inj h
  exact mj_go_ret (v := some (.int r1.1)) (Nat.le_of_ble_eq_true rfl) (mj_retI (mj_dt dt_X9_copy 62 rfl) rfl)
def f_X9_copy_157 (N : Nat) (m : mj_m) : Option (Int32 × mj_m) := (f_X9_no N (-5 : Int32) m).bind (fun r1 => some (r1.1, r1.2))
theorem k_X9_copy_157 {L : Nat} {xs : Nat → Int32} {δ N : Nat} {m : mj_m} (hδ : 0 ≤ δ) {a : Int32 × mj_m} (h : f_X9_copy_157 N m = some a) : mj_Go (mj_EX L xs) (δ + 1) mY_X9_copy 157 [(0, .ref 95)] [] (mj_fin m) (some (.int a.1), (mj_fin a.2)) := by
  unfold f_X9_copy_157 at h
  refine mj_go_aload_n (k := 0) (x := 95) rfl (mj_dt dt_X9_copy 89 rfl) ?_
  refine mj_go_bipush (v := -5) rfl (mj_dt dt_X9_copy 90 rfl) ?_
  obtain ⟨r1, er1, h⟩ := mj_bind_some h
  refine ml_callV (Y' := mY_X9_no) (as := [.int (-5 : Int32)]) (rest := []) (c := 9) (v := (some (.int r1.1))) (M1 := (mj_fin r1.2)) ho_95 rfl lm_X9_134 wc_X9_no pl_X9_no ok_X9_no rfl rfl (Nat.le_of_ble_eq_true rfl) (k_X9_no (by omega) er1) (mj_dt dt_X9_copy 91 rfl) ?_
  obtain rfl := Option.some.inj h
  exact mj_go_ret (v := some (.int r1.1)) (Nat.le_of_ble_eq_true rfl) (mj_retI (mj_dt dt_X9_copy 92 rfl) rfl)
def f_X9_copy_204 (N : Nat) (v2 : Int32) (v4 : Int32) (v5 : Int32) (k_204 : Int32 × mj_m → Option (Int32 × mj_m)) (s : Int32 × mj_m) : Option (Int32 × mj_m) := if v5 ≤ s.1 then (some (1, s.2)) else (mj_ck (mj_b 1 116 s.1) ( mj_ck (mj_b 1 115 (((120 * v2) + v4) + s.1)) ( mj_mw (mj_wL s.2 115 ((((120 * v2) + v4) + s.1).toNatClampNeg) (s.2.2 116 s.1.toNatClampNeg)) (fun m4 => mj_mw (s.1 + 1) (fun x5 => k_204 (x5, m4))))))
theorem k_X9_copy_204 {L : Nat} {xs : Nat → Int32} {δ N : Nat} {v2 : Int32} {v4 : Int32} {v5 : Int32} (hδ : 0 ≤ δ) : ∀ (n : Nat) (s : Int32 × mj_m) (a : Int32 × mj_m), mj_lp n (f_X9_copy_204 N v2 v4 v5) s = some a → mj_Go (mj_EX L xs) (δ + 1) mY_X9_copy 204 [(0, .ref 95), (2, .int v2), (4, .int v4), (5, .int v5), (6, .int s.1)] [] (mj_fin s.2) (some (.int a.1), (mj_fin a.2)) := by
  refine mj_lp_sound (fun k_204 s a q_204 h => ?_)
  unfold f_X9_copy_204 at h
  refine mj_go_iload (i := 6) (x := s.1) rfl (mj_dt dt_X9_copy 116 rfl) ?_
  refine mj_go_iload (i := 5) (x := v5) rfl (mj_dt dt_X9_copy 117 rfl) ?_
  refine mj_go_icmp_ge (tgt := 239) rfl (mj_dt dt_X9_copy 118 rfl) (fun b1 => ?_) (fun b1 => ?_)
  · rw [if_pos b1] at h
    refine mj_go_iconst (v := 1) rfl (mj_dt dt_X9_copy 135 rfl) ?_
    obtain rfl := Option.some.inj h
    exact mj_go_ret (v := some (.int 1)) (Nat.le_of_ble_eq_true rfl) (mj_retI (mj_dt dt_X9_copy 136 rfl) rfl)
  · rw [if_neg b1] at h
    refine mj_go_aload_n (k := 0) (x := 95) rfl (mj_dt dt_X9_copy 119 rfl) ?_
    refine ml_getR (c := 9) (k := 30) (q := 115) fd_9_30 rf_95_30 (Or.inl fl_X9_83) ho_95 (mj_dt dt_X9_copy 120 rfl) ?_
    refine mj_go_bipush (v := 120) rfl (mj_dt dt_X9_copy 121 rfl) ?_
    refine mj_go_iload_n (k := 2) (x := v2) rfl (mj_dt dt_X9_copy 122 rfl) ?_
    refine mj_go_imul (mj_dt dt_X9_copy 123 rfl) ?_
    refine mj_go_iload (i := 4) (x := v4) rfl (mj_dt dt_X9_copy 124 rfl) ?_
    refine mj_go_iadd (mj_dt dt_X9_copy 125 rfl) ?_
    refine mj_go_iload (i := 6) (x := s.1) rfl (mj_dt dt_X9_copy 126 rfl) ?_
    refine mj_go_iadd (mj_dt dt_X9_copy 127 rfl) ?_
    refine mj_go_aload_n (k := 0) (x := 95) rfl (mj_dt dt_X9_copy 128 rfl) ?_
    refine ml_getR (c := 9) (k := 31) (q := 116) fd_9_31 rf_95_31 (Or.inl fl_X9_87) ho_95 (mj_dt dt_X9_copy 129 rfl) ?_
    refine mj_go_iload (i := 6) (x := s.1) rfl (mj_dt dt_X9_copy 130 rfl) ?_
    obtain ⟨c2, h⟩ := mj_ck_some h
    refine mk_lald c2 (mj_dt dt_X9_copy 131 rfl) ?_
    obtain ⟨c3, h⟩ := mj_ck_some h
    obtain ⟨m4, em4, h⟩ := mj_mw_some h
    refine ml_last c3 (mj_dt dt_X9_copy 132 rfl) ?_
    refine ml_eqm (M1 := (mj_fin m4)) (by rw [em4] <;> rfl) ?_
    obtain ⟨x5, ex5, h⟩ := mj_mw_some h
    refine mj_go_iinc (i := 6) (x := s.1) (v := x5) rfl (by rw [ex5] <;> rfl) (by decide) (mj_dt dt_X9_copy 133 rfl) ?_
    refine mj_go_goto (tgt := 204) rfl (mj_dt dt_X9_copy 134 rfl) ?_
    refine mj_go_sub (lv' := [(0, .ref 95), (2, .int v2), (4, .int v4), (5, .int v5), (6, .int x5)]) (List.forall_mem_cons.mpr ⟨rfl, (List.forall_mem_cons.mpr ⟨rfl, (List.forall_mem_cons.mpr ⟨rfl, (List.forall_mem_cons.mpr ⟨rfl, (List.forall_mem_cons.mpr ⟨rfl, (fun _ h9 => absurd h9 List.not_mem_nil)⟩)⟩)⟩)⟩)⟩) ?_
    exact q_204 _ _ h
def f_X9_copy_167 (N : Nat) (v1 : Int32) (v2 : Int32) (v3 : Int32) (v4 : Int32) (v5 : Int32) (k_167 : Int32 × mj_m → Option (Int32 × mj_m)) (s : Int32 × mj_m) : Option (Int32 × mj_m) := if v5 ≤ s.1 then (mj_lp N (f_X9_copy_204 N v2 v4 v5) (0, s.2)) else (mj_ck (mj_b 1 115 (((120 * v1) + v3) + s.1)) ( mj_ck (mj_b 1 116 s.1) ( mj_mw (mj_wL s.2 116 (s.1.toNatClampNeg) (s.2.2 115 (((120 * v1) + v3) + s.1).toNatClampNeg)) (fun m4 => mj_mw (s.1 + 1) (fun x5 => k_167 (x5, m4))))))
theorem k_X9_copy_167 {L : Nat} {xs : Nat → Int32} {δ N : Nat} {v1 : Int32} {v2 : Int32} {v3 : Int32} {v4 : Int32} {v5 : Int32} (hδ : 0 ≤ δ) : ∀ (n : Nat) (s : Int32 × mj_m) (a : Int32 × mj_m), mj_lp n (f_X9_copy_167 N v1 v2 v3 v4 v5) s = some a → mj_Go (mj_EX L xs) (δ + 1) mY_X9_copy 167 [(0, .ref 95), (1, .int v1), (2, .int v2), (3, .int v3), (4, .int v4), (5, .int v5), (6, .int s.1)] [] (mj_fin s.2) (some (.int a.1), (mj_fin a.2)) := by
  refine mj_lp_sound (fun k_167 s a q_167 h => ?_)
  unfold f_X9_copy_167 at h
  refine mj_go_iload (i := 6) (x := s.1) rfl (mj_dt dt_X9_copy 95 rfl) ?_
  refine mj_go_iload (i := 5) (x := v5) rfl (mj_dt dt_X9_copy 96 rfl) ?_
  refine mj_go_icmp_ge (tgt := 201) rfl (mj_dt dt_X9_copy 97 rfl) (fun b1 => ?_) (fun b1 => ?_)
  · rw [if_pos b1] at h
    refine mj_go_iconst (v := 0) rfl (mj_dt dt_X9_copy 114 rfl) ?_
    refine mj_go_istore (i := 6) (by decide) (mj_dt dt_X9_copy 115 rfl) ?_
    refine mj_go_sub (lv' := [(0, .ref 95), (2, .int v2), (4, .int v4), (5, .int v5), (6, .int 0)]) (List.forall_mem_cons.mpr ⟨rfl, (List.forall_mem_cons.mpr ⟨rfl, (List.forall_mem_cons.mpr ⟨rfl, (List.forall_mem_cons.mpr ⟨rfl, (List.forall_mem_cons.mpr ⟨rfl, (fun _ h9 => absurd h9 List.not_mem_nil)⟩)⟩)⟩)⟩)⟩) ?_
    exact k_X9_copy_204 hδ N _ _ h
  · rw [if_neg b1] at h
    refine mj_go_aload_n (k := 0) (x := 95) rfl (mj_dt dt_X9_copy 98 rfl) ?_
    refine ml_getR (c := 9) (k := 31) (q := 116) fd_9_31 rf_95_31 (Or.inl fl_X9_87) ho_95 (mj_dt dt_X9_copy 99 rfl) ?_
    refine mj_go_iload (i := 6) (x := s.1) rfl (mj_dt dt_X9_copy 100 rfl) ?_
    refine mj_go_aload_n (k := 0) (x := 95) rfl (mj_dt dt_X9_copy 101 rfl) ?_
    refine ml_getR (c := 9) (k := 30) (q := 115) fd_9_30 rf_95_30 (Or.inl fl_X9_83) ho_95 (mj_dt dt_X9_copy 102 rfl) ?_
    refine mj_go_bipush (v := 120) rfl (mj_dt dt_X9_copy 103 rfl) ?_
    refine mj_go_iload_n (k := 1) (x := v1) rfl (mj_dt dt_X9_copy 104 rfl) ?_
    refine mj_go_imul (mj_dt dt_X9_copy 105 rfl) ?_
    refine mj_go_iload_n (k := 3) (x := v3) rfl (mj_dt dt_X9_copy 106 rfl) ?_
    refine mj_go_iadd (mj_dt dt_X9_copy 107 rfl) ?_
    refine mj_go_iload (i := 6) (x := s.1) rfl (mj_dt dt_X9_copy 108 rfl) ?_
    refine mj_go_iadd (mj_dt dt_X9_copy 109 rfl) ?_
    obtain ⟨c2, h⟩ := mj_ck_some h
    refine mk_lald c2 (mj_dt dt_X9_copy 110 rfl) ?_
    obtain ⟨c3, h⟩ := mj_ck_some h
    obtain ⟨m4, em4, h⟩ := mj_mw_some h
    refine ml_last c3 (mj_dt dt_X9_copy 111 rfl) ?_
    refine ml_eqm (M1 := (mj_fin m4)) (by rw [em4] <;> rfl) ?_
    obtain ⟨x5, ex5, h⟩ := mj_mw_some h
    refine mj_go_iinc (i := 6) (x := s.1) (v := x5) rfl (by rw [ex5] <;> rfl) (by decide) (mj_dt dt_X9_copy 112 rfl) ?_
    refine mj_go_goto (tgt := 167) rfl (mj_dt dt_X9_copy 113 rfl) ?_
    refine mj_go_sub (lv' := [(0, .ref 95), (1, .int v1), (2, .int v2), (3, .int v3), (4, .int v4), (5, .int v5), (6, .int x5)]) (List.forall_mem_cons.mpr ⟨rfl, (List.forall_mem_cons.mpr ⟨rfl, (List.forall_mem_cons.mpr ⟨rfl, (List.forall_mem_cons.mpr ⟨rfl, (List.forall_mem_cons.mpr ⟨rfl, (List.forall_mem_cons.mpr ⟨rfl, (List.forall_mem_cons.mpr ⟨rfl, (fun _ h9 => absurd h9 List.not_mem_nil)⟩)⟩)⟩)⟩)⟩)⟩)⟩) ?_
    exact q_167 _ _ h
def f_X9_copy_84 (N : Nat) (v1 : Int32) (v2 : Int32) (v3 : Int32) (v4 : Int32) (v5 : Int32) (m : mj_m) : Option (Int32 × mj_m) := mj_ck (mj_b 0 110 v1) ( if (m.1 110 v1.toNatClampNeg) = 0 then f_X9_copy_102 N m else (mj_ck (mj_b 0 110 v2) ( if (m.1 110 v2.toNatClampNeg) = 0 then f_X9_copy_102 N m else (if 0 ≤ v5 then (if v3 < 0 then f_X9_copy_157 N m else (if v4 < 0 then f_X9_copy_157 N m else (mj_ck (mj_b 0 112 v1) ( if ((m.1 112 v1.toNatClampNeg) - v5) < v3 then f_X9_copy_157 N m else (mj_ck (mj_b 0 112 v2) ( if v4 ≤ ((m.1 112 v2.toNatClampNeg) - v5) then (mj_lp N (f_X9_copy_167 N v1 v2 v3 v4 v5) (0, m)) else f_X9_copy_157 N m)))))) else ((f_X9_no N (-4 : Int32) m).bind (fun r6 => some (r6.1, r6.2)))))))
theorem k_X9_copy_84 {L : Nat} {xs : Nat → Int32} {δ N : Nat} {v1 : Int32} {v2 : Int32} {v3 : Int32} {v4 : Int32} {v5 : Int32} {m : mj_m} (hδ : 0 ≤ δ) {a : Int32 × mj_m} (h : f_X9_copy_84 N v1 v2 v3 v4 v5 m = some a) : mj_Go (mj_EX L xs) (δ + 1) mY_X9_copy 84 [(0, .ref 95), (1, .int v1), (2, .int v2), (3, .int v3), (4, .int v4), (5, .int v5)] [] (mj_fin m) (some (.int a.1), (mj_fin a.2)) := by
  unfold f_X9_copy_84 at h
  refine mj_go_aload_n (k := 0) (x := 95) rfl (mj_dt dt_X9_copy 49 rfl) ?_
  refine ml_getR (c := 9) (k := 25) (q := 110) fd_9_25 rf_95_25 (Or.inl fl_X9_68) ho_95 (mj_dt dt_X9_copy 50 rfl) ?_
  refine mj_go_iload_n (k := 1) (x := v1) rfl (mj_dt dt_X9_copy 51 rfl) ?_
  obtain ⟨c1, h⟩ := mj_ck_some h
  refine mk_iald c1 (mj_dt dt_X9_copy 52 rfl) ?_
  refine mj_go_if_eq (tgt := 102) rfl (mj_dt dt_X9_copy 53 rfl) (fun b2 => ?_) (fun b2 => ?_)
  · rw [if_pos b2] at h
    refine mj_go_sub (lv' := [(0, .ref 95)]) (List.forall_mem_cons.mpr ⟨rfl, (fun _ h9 => absurd h9 List.not_mem_nil)⟩) ?_
    exact k_X9_copy_102 hδ h
  · rw [if_neg b2] at h
    refine mj_go_aload_n (k := 0) (x := 95) rfl (mj_dt dt_X9_copy 54 rfl) ?_
    refine ml_getR (c := 9) (k := 25) (q := 110) fd_9_25 rf_95_25 (Or.inl fl_X9_68) ho_95 (mj_dt dt_X9_copy 55 rfl) ?_
    refine mj_go_iload_n (k := 2) (x := v2) rfl (mj_dt dt_X9_copy 56 rfl) ?_
    obtain ⟨c3, h⟩ := mj_ck_some h
    refine mk_iald c3 (mj_dt dt_X9_copy 57 rfl) ?_
    refine mj_go_if_ne (tgt := 109) rfl (mj_dt dt_X9_copy 58 rfl) (fun b4 => ?_) (fun b4 => ?_)
    · rw [if_neg b4] at h
      refine mj_go_iload (i := 5) (x := v5) rfl (mj_dt dt_X9_copy 63 rfl) ?_
      refine mj_go_if_ge (tgt := 121) rfl (mj_dt dt_X9_copy 64 rfl) (fun b5 => ?_) (fun b5 => ?_)
      · rw [if_pos b5] at h
        refine mj_go_iload_n (k := 3) (x := v3) rfl (mj_dt dt_X9_copy 69 rfl) ?_
        refine mj_go_if_lt (tgt := 157) rfl (mj_dt dt_X9_copy 70 rfl) (fun b6 => ?_) (fun b6 => ?_)
        · rw [if_pos b6] at h
          refine mj_go_sub (lv' := [(0, .ref 95)]) (List.forall_mem_cons.mpr ⟨rfl, (fun _ h9 => absurd h9 List.not_mem_nil)⟩) ?_
          exact k_X9_copy_157 hδ h
        · rw [if_neg b6] at h
          refine mj_go_iload (i := 4) (x := v4) rfl (mj_dt dt_X9_copy 71 rfl) ?_
          refine mj_go_if_lt (tgt := 157) rfl (mj_dt dt_X9_copy 72 rfl) (fun b7 => ?_) (fun b7 => ?_)
          · rw [if_pos b7] at h
            refine mj_go_sub (lv' := [(0, .ref 95)]) (List.forall_mem_cons.mpr ⟨rfl, (fun _ h9 => absurd h9 List.not_mem_nil)⟩) ?_
            exact k_X9_copy_157 hδ h
          · rw [if_neg b7] at h
            refine mj_go_iload_n (k := 3) (x := v3) rfl (mj_dt dt_X9_copy 73 rfl) ?_
            refine mj_go_aload_n (k := 0) (x := 95) rfl (mj_dt dt_X9_copy 74 rfl) ?_
            refine ml_getR (c := 9) (k := 27) (q := 112) fd_9_27 rf_95_27 (Or.inl fl_X9_74) ho_95 (mj_dt dt_X9_copy 75 rfl) ?_
            refine mj_go_iload_n (k := 1) (x := v1) rfl (mj_dt dt_X9_copy 76 rfl) ?_
            obtain ⟨c8, h⟩ := mj_ck_some h
            refine mk_iald c8 (mj_dt dt_X9_copy 77 rfl) ?_
            refine mj_go_iload (i := 5) (x := v5) rfl (mj_dt dt_X9_copy 78 rfl) ?_
            refine mj_go_isub (mj_dt dt_X9_copy 79 rfl) ?_
            refine mj_go_icmp_gt (tgt := 157) rfl (mj_dt dt_X9_copy 80 rfl) (fun b9 => ?_) (fun b9 => ?_)
            · rw [if_pos b9] at h
              refine mj_go_sub (lv' := [(0, .ref 95)]) (List.forall_mem_cons.mpr ⟨rfl, (fun _ h9 => absurd h9 List.not_mem_nil)⟩) ?_
              exact k_X9_copy_157 hδ h
            · rw [if_neg b9] at h
              refine mj_go_iload (i := 4) (x := v4) rfl (mj_dt dt_X9_copy 81 rfl) ?_
              refine mj_go_aload_n (k := 0) (x := 95) rfl (mj_dt dt_X9_copy 82 rfl) ?_
              refine ml_getR (c := 9) (k := 27) (q := 112) fd_9_27 rf_95_27 (Or.inl fl_X9_74) ho_95 (mj_dt dt_X9_copy 83 rfl) ?_
              refine mj_go_iload_n (k := 2) (x := v2) rfl (mj_dt dt_X9_copy 84 rfl) ?_
              obtain ⟨c10, h⟩ := mj_ck_some h
              refine mk_iald c10 (mj_dt dt_X9_copy 85 rfl) ?_
              refine mj_go_iload (i := 5) (x := v5) rfl (mj_dt dt_X9_copy 86 rfl) ?_
              refine mj_go_isub (mj_dt dt_X9_copy 87 rfl) ?_
              refine mj_go_icmp_le (tgt := 164) rfl (mj_dt dt_X9_copy 88 rfl) (fun b11 => ?_) (fun b11 => ?_)
              · rw [if_pos b11] at h
                refine mj_go_iconst (v := 0) rfl (mj_dt dt_X9_copy 93 rfl) ?_
                refine mj_go_istore (i := 6) (by decide) (mj_dt dt_X9_copy 94 rfl) ?_
                refine mj_go_sub (lv' := [(0, .ref 95), (1, .int v1), (2, .int v2), (3, .int v3), (4, .int v4), (5, .int v5), (6, .int 0)]) (List.forall_mem_cons.mpr ⟨rfl, (List.forall_mem_cons.mpr ⟨rfl, (List.forall_mem_cons.mpr ⟨rfl, (List.forall_mem_cons.mpr ⟨rfl, (List.forall_mem_cons.mpr ⟨rfl, (List.forall_mem_cons.mpr ⟨rfl, (List.forall_mem_cons.mpr ⟨rfl, (fun _ h9 => absurd h9 List.not_mem_nil)⟩)⟩)⟩)⟩)⟩)⟩)⟩) ?_
                exact k_X9_copy_167 hδ N _ _ h
              · rw [if_neg b11] at h
                refine mj_go_sub (lv' := [(0, .ref 95)]) (List.forall_mem_cons.mpr ⟨rfl, (fun _ h9 => absurd h9 List.not_mem_nil)⟩) ?_
                exact k_X9_copy_157 hδ h
      · rw [if_neg b5] at h
        refine mj_go_aload_n (k := 0) (x := 95) rfl (mj_dt dt_X9_copy 65 rfl) ?_
        refine mj_go_bipush (v := -4) rfl (mj_dt dt_X9_copy 66 rfl) ?_
        obtain ⟨r6, er6, h⟩ := mj_bind_some h
        refine ml_callV (Y' := mY_X9_no) (as := [.int (-4 : Int32)]) (rest := []) (c := 9) (v := (some (.int r6.1))) (M1 := (mj_fin r6.2)) ho_95 rfl lm_X9_134 wc_X9_no pl_X9_no ok_X9_no rfl rfl (Nat.le_of_ble_eq_true rfl) (k_X9_no (by omega) er6) (mj_dt dt_X9_copy 67 rfl) ?_
        obtain rfl := Option.some.inj h
        exact mj_go_ret (v := some (.int r6.1)) (Nat.le_of_ble_eq_true rfl) (mj_retI (mj_dt dt_X9_copy 68 rfl) rfl)
    · rw [if_pos b4] at h
      refine mj_go_sub (lv' := [(0, .ref 95)]) (List.forall_mem_cons.mpr ⟨rfl, (fun _ h9 => absurd h9 List.not_mem_nil)⟩) ?_
      exact k_X9_copy_102 hδ h
def f_X9_copy (N : Nat) (v1 : Int32) (v2 : Int32) (v3 : Int32) (v4 : Int32) (v5 : Int32) (m : mj_m) : Option (Int32 × mj_m) := (f_X9_isShelf N v1 m).bind (fun r1 => if r1 = 0 then f_X9_copy_16 N m else ((f_X9_isShelf N v2 m).bind (fun r3 => if r3 = 0 then f_X9_copy_16 N m else (mj_ck (mj_b 0 110 v1) ( if (m.1 110 v1.toNatClampNeg) = 2 then f_X9_copy_77 N m else (mj_ck (mj_b 0 110 v2) ( if (m.1 110 v2.toNatClampNeg) = 2 then f_X9_copy_77 N m else (if (m.1 110 v1.toNatClampNeg) = 1 then (if (m.1 110 v2.toNatClampNeg) = 1 then (mj_ck (mj_b 0 111 v1) ( mj_ck (mj_b 0 111 v2) ( if (m.1 111 v1.toNatClampNeg) = (m.1 111 v2.toNatClampNeg) then f_X9_copy_84 N v1 v2 v3 v4 v5 m else f_X9_copy_77 N m))) else f_X9_copy_84 N v1 v2 v3 v4 v5 m) else f_X9_copy_84 N v1 v2 v3 v4 v5 m))))))))
theorem k_X9_copy {L : Nat} {xs : Nat → Int32} {δ N : Nat} {v1 : Int32} {v2 : Int32} {v3 : Int32} {v4 : Int32} {v5 : Int32} {m : mj_m} (hδ : 1 ≤ δ) {a : Int32 × mj_m} (h : f_X9_copy N v1 v2 v3 v4 v5 m = some a) : mj_Cl (mj_EX L xs) δ mY_X9_copy [.ref 95, .int v1, .int v2, .int v3, .int v4, .int v5] (mj_fin m) (some (.int a.1), (mj_fin a.2)) := by
  obtain ⟨δ, rfl⟩ : ∃ d, δ = d + 1 := ⟨δ - 1, by omega⟩
  have hδ : 0 ≤ δ := by omega
  refine mj_cl_of ok_X9_copy (Nat.le_of_ble_eq_true rfl) ?_
  unfold f_X9_copy at h
  refine mj_go_aload_n (k := 0) (x := 95) rfl (mj_dt dt_X9_copy 0 rfl) ?_
  refine mj_go_iload_n (k := 1) (x := v1) rfl (mj_dt dt_X9_copy 1 rfl) ?_
  obtain ⟨r1, er1, h⟩ := mj_bind_some h
  refine ml_callV (Y' := mY_X9_isShelf) (as := [.int v1]) (rest := []) (c := 9) (v := (some (.int r1))) (M1 := (mj_fin m)) ho_95 rfl lm_X9_130 wc_X9_isShelf pl_X9_isShelf ok_X9_isShelf rfl rfl (Nat.le_of_ble_eq_true rfl) (k_X9_isShelf (by omega) er1) (mj_dt dt_X9_copy 2 rfl) ?_
  refine mj_go_if_eq (tgt := 16) rfl (mj_dt dt_X9_copy 3 rfl) (fun b2 => ?_) (fun b2 => ?_)
  · rw [if_pos b2] at h
    refine mj_go_sub (lv' := [(0, .ref 95)]) (List.forall_mem_cons.mpr ⟨rfl, (fun _ h9 => absurd h9 List.not_mem_nil)⟩) ?_
    exact k_X9_copy_16 hδ h
  · rw [if_neg b2] at h
    refine mj_go_aload_n (k := 0) (x := 95) rfl (mj_dt dt_X9_copy 4 rfl) ?_
    refine mj_go_iload_n (k := 2) (x := v2) rfl (mj_dt dt_X9_copy 5 rfl) ?_
    obtain ⟨r3, er3, h⟩ := mj_bind_some h
    refine ml_callV (Y' := mY_X9_isShelf) (as := [.int v2]) (rest := []) (c := 9) (v := (some (.int r3))) (M1 := (mj_fin m)) ho_95 rfl lm_X9_130 wc_X9_isShelf pl_X9_isShelf ok_X9_isShelf rfl rfl (Nat.le_of_ble_eq_true rfl) (k_X9_isShelf (by omega) er3) (mj_dt dt_X9_copy 6 rfl) ?_
    refine mj_go_if_ne (tgt := 22) rfl (mj_dt dt_X9_copy 7 rfl) (fun b4 => ?_) (fun b4 => ?_)
    · rw [if_neg b4] at h
      refine mj_go_aload_n (k := 0) (x := 95) rfl (mj_dt dt_X9_copy 12 rfl) ?_
      refine ml_getR (c := 9) (k := 25) (q := 110) fd_9_25 rf_95_25 (Or.inl fl_X9_68) ho_95 (mj_dt dt_X9_copy 13 rfl) ?_
      refine mj_go_iload_n (k := 1) (x := v1) rfl (mj_dt dt_X9_copy 14 rfl) ?_
      obtain ⟨c5, h⟩ := mj_ck_some h
      refine mk_iald c5 (mj_dt dt_X9_copy 15 rfl) ?_
      refine mj_go_iconst (v := 2) rfl (mj_dt dt_X9_copy 16 rfl) ?_
      refine mj_go_icmp_eq (tgt := 77) rfl (mj_dt dt_X9_copy 17 rfl) (fun b6 => ?_) (fun b6 => ?_)
      · rw [if_pos b6] at h
        refine mj_go_sub (lv' := [(0, .ref 95)]) (List.forall_mem_cons.mpr ⟨rfl, (fun _ h9 => absurd h9 List.not_mem_nil)⟩) ?_
        exact k_X9_copy_77 hδ h
      · rw [if_neg b6] at h
        refine mj_go_aload_n (k := 0) (x := 95) rfl (mj_dt dt_X9_copy 18 rfl) ?_
        refine ml_getR (c := 9) (k := 25) (q := 110) fd_9_25 rf_95_25 (Or.inl fl_X9_68) ho_95 (mj_dt dt_X9_copy 19 rfl) ?_
        refine mj_go_iload_n (k := 2) (x := v2) rfl (mj_dt dt_X9_copy 20 rfl) ?_
        obtain ⟨c7, h⟩ := mj_ck_some h
        refine mk_iald c7 (mj_dt dt_X9_copy 21 rfl) ?_
        refine mj_go_iconst (v := 2) rfl (mj_dt dt_X9_copy 22 rfl) ?_
        refine mj_go_icmp_eq (tgt := 77) rfl (mj_dt dt_X9_copy 23 rfl) (fun b8 => ?_) (fun b8 => ?_)
        · rw [if_pos b8] at h
          refine mj_go_sub (lv' := [(0, .ref 95)]) (List.forall_mem_cons.mpr ⟨rfl, (fun _ h9 => absurd h9 List.not_mem_nil)⟩) ?_
          exact k_X9_copy_77 hδ h
        · rw [if_neg b8] at h
          refine mj_go_aload_n (k := 0) (x := 95) rfl (mj_dt dt_X9_copy 24 rfl) ?_
          refine ml_getR (c := 9) (k := 25) (q := 110) fd_9_25 rf_95_25 (Or.inl fl_X9_68) ho_95 (mj_dt dt_X9_copy 25 rfl) ?_
          refine mj_go_iload_n (k := 1) (x := v1) rfl (mj_dt dt_X9_copy 26 rfl) ?_
          refine mk_iald c5 (mj_dt dt_X9_copy 27 rfl) ?_
          refine mj_go_iconst (v := 1) rfl (mj_dt dt_X9_copy 28 rfl) ?_
          refine mj_go_icmp_ne (tgt := 84) rfl (mj_dt dt_X9_copy 29 rfl) (fun b9 => ?_) (fun b9 => ?_)
          · rw [if_neg b9] at h
            refine mj_go_sub (lv' := [(0, .ref 95), (1, .int v1), (2, .int v2), (3, .int v3), (4, .int v4), (5, .int v5)]) (List.forall_mem_cons.mpr ⟨rfl, (List.forall_mem_cons.mpr ⟨rfl, (List.forall_mem_cons.mpr ⟨rfl, (List.forall_mem_cons.mpr ⟨rfl, (List.forall_mem_cons.mpr ⟨rfl, (List.forall_mem_cons.mpr ⟨rfl, (fun _ h9 => absurd h9 List.not_mem_nil)⟩)⟩)⟩)⟩)⟩)⟩) ?_
            exact k_X9_copy_84 hδ h
          · rw [if_pos b9] at h
            refine mj_go_aload_n (k := 0) (x := 95) rfl (mj_dt dt_X9_copy 30 rfl) ?_
            refine ml_getR (c := 9) (k := 25) (q := 110) fd_9_25 rf_95_25 (Or.inl fl_X9_68) ho_95 (mj_dt dt_X9_copy 31 rfl) ?_
            refine mj_go_iload_n (k := 2) (x := v2) rfl (mj_dt dt_X9_copy 32 rfl) ?_
            refine mk_iald c7 (mj_dt dt_X9_copy 33 rfl) ?_
            refine mj_go_iconst (v := 1) rfl (mj_dt dt_X9_copy 34 rfl) ?_
            refine mj_go_icmp_ne (tgt := 84) rfl (mj_dt dt_X9_copy 35 rfl) (fun b10 => ?_) (fun b10 => ?_)
            · rw [if_neg b10] at h
              refine mj_go_sub (lv' := [(0, .ref 95), (1, .int v1), (2, .int v2), (3, .int v3), (4, .int v4), (5, .int v5)]) (List.forall_mem_cons.mpr ⟨rfl, (List.forall_mem_cons.mpr ⟨rfl, (List.forall_mem_cons.mpr ⟨rfl, (List.forall_mem_cons.mpr ⟨rfl, (List.forall_mem_cons.mpr ⟨rfl, (List.forall_mem_cons.mpr ⟨rfl, (fun _ h9 => absurd h9 List.not_mem_nil)⟩)⟩)⟩)⟩)⟩)⟩) ?_
              exact k_X9_copy_84 hδ h
            · rw [if_pos b10] at h
              refine mj_go_aload_n (k := 0) (x := 95) rfl (mj_dt dt_X9_copy 36 rfl) ?_
              refine ml_getR (c := 9) (k := 26) (q := 111) fd_9_26 rf_95_26 (Or.inl fl_X9_71) ho_95 (mj_dt dt_X9_copy 37 rfl) ?_
              refine mj_go_iload_n (k := 1) (x := v1) rfl (mj_dt dt_X9_copy 38 rfl) ?_
              obtain ⟨c11, h⟩ := mj_ck_some h
              refine mk_iald c11 (mj_dt dt_X9_copy 39 rfl) ?_
              refine mj_go_aload_n (k := 0) (x := 95) rfl (mj_dt dt_X9_copy 40 rfl) ?_
              refine ml_getR (c := 9) (k := 26) (q := 111) fd_9_26 rf_95_26 (Or.inl fl_X9_71) ho_95 (mj_dt dt_X9_copy 41 rfl) ?_
              refine mj_go_iload_n (k := 2) (x := v2) rfl (mj_dt dt_X9_copy 42 rfl) ?_
              obtain ⟨c12, h⟩ := mj_ck_some h
              refine mk_iald c12 (mj_dt dt_X9_copy 43 rfl) ?_
              refine mj_go_icmp_eq (tgt := 84) rfl (mj_dt dt_X9_copy 44 rfl) (fun b13 => ?_) (fun b13 => ?_)
              · rw [if_pos b13] at h
                refine mj_go_sub (lv' := [(0, .ref 95), (1, .int v1), (2, .int v2), (3, .int v3), (4, .int v4), (5, .int v5)]) (List.forall_mem_cons.mpr ⟨rfl, (List.forall_mem_cons.mpr ⟨rfl, (List.forall_mem_cons.mpr ⟨rfl, (List.forall_mem_cons.mpr ⟨rfl, (List.forall_mem_cons.mpr ⟨rfl, (List.forall_mem_cons.mpr ⟨rfl, (fun _ h9 => absurd h9 List.not_mem_nil)⟩)⟩)⟩)⟩)⟩)⟩) ?_
                exact k_X9_copy_84 hδ h
              · rw [if_neg b13] at h
                refine mj_go_sub (lv' := [(0, .ref 95)]) (List.forall_mem_cons.mpr ⟨rfl, (fun _ h9 => absurd h9 List.not_mem_nil)⟩) ?_
                exact k_X9_copy_77 hδ h
    · rw [if_pos b4] at h
      refine mj_go_sub (lv' := [(0, .ref 95)]) (List.forall_mem_cons.mpr ⟨rfl, (fun _ h9 => absurd h9 List.not_mem_nil)⟩) ?_
      exact k_X9_copy_16 hδ h
def f_X8_element (N : Nat) (v1 : Int32) (v2 : Int32) (m : mj_m) : Option (Int64) := (f_X8_isShelf N v1 m).bind (fun r1 => if r1 = 0 then (some 0) else (mj_ck (mj_b 3 35 v1) ( (f_X6_isRow N (79 + 2 * v1.toNatClampNeg) m).bind (fun r4 => if r4 = 0 then (some 0) else ((f_X6_has N (79 + 2 * v1.toNatClampNeg) v2 m).bind (fun r6 => if r6 = 0 then (some 0) else (mj_ck (mj_b 1 ((79 + 2 * v1.toNatClampNeg) + 1) v2) ( some (m.2 ((79 + 2 * v1.toNatClampNeg) + 1) v2.toNatClampNeg)))))))))
theorem k_X8_element {L : Nat} {xs : Nat → Int32} {δ N : Nat} {v1 : Int32} {v2 : Int32} {m : mj_m} (hδ : 1 ≤ δ) {a : Int64} (h : f_X8_element N v1 v2 m = some a) : mj_Cl (mj_EX L xs) δ mY_X8_element [.ref 0, .int v1, .int v2] (mj_fin m) (some (.long a), (mj_fin m)) := by
  obtain ⟨δ, rfl⟩ : ∃ d, δ = d + 1 := ⟨δ - 1, by omega⟩
  have hδ : 0 ≤ δ := by omega
  refine mj_cl_of ok_X8_element (Nat.le_of_ble_eq_true rfl) ?_
  unfold f_X8_element at h
  refine mj_go_iload_n (k := 1) (x := v1) rfl (mj_dt dt_X8_element 0 rfl) ?_
  obtain ⟨r1, er1, h⟩ := mj_bind_some h
  refine ml_callS (Y' := mY_X8_isShelf) (as := [.int v1]) (rest := []) (v := (some (.int r1))) (M1 := (mj_fin m)) lm_X8_82 wc_X8_isShelf pl_X8_isShelf ok_X8_isShelf rfl rfl (Nat.le_of_ble_eq_true rfl) (k_X8_isShelf (by omega) er1) (mj_dt dt_X8_element 1 rfl) ?_
  refine mj_go_if_eq (tgt := 32) rfl (mj_dt dt_X8_element 2 rfl) (fun b2 => ?_) (fun b2 => ?_)
  · rw [if_pos b2] at h
    refine mj_go_lconst (v := 0) rfl (mj_dt dt_X8_element 16 rfl) ?_
    obtain rfl := Option.some.inj h
    exact mj_go_ret (v := some (.long 0)) (Nat.le_of_ble_eq_true rfl) (mj_retL (mj_dt dt_X8_element 17 rfl) rfl)
  · rw [if_neg b2] at h
    refine mj_go_aload_n (k := 0) (x := 0) rfl (mj_dt dt_X8_element 3 rfl) ?_
    refine ml_getR (c := 8) (k := 2) (q := 35) fd_8_2 rf_0_2 (Or.inl fl_X8_21) ho_0 (mj_dt dt_X8_element 4 rfl) ?_
    refine mj_go_iload_n (k := 1) (x := v1) rfl (mj_dt dt_X8_element 5 rfl) ?_
    obtain ⟨c3, h⟩ := mj_ck_some h
    refine ml_aald3 (q := 79 + 2 * v1.toNatClampNeg) c3 (mj_hs35 c3).1 (mj_dt dt_X8_element 6 rfl) ?_
    obtain ⟨r4, er4, h⟩ := mj_bind_some h
    refine ml_callV (Y' := mY_X6_isRow) (as := []) (rest := []) (c := 6) (v := (some (.int r4))) (M1 := (mj_fin m)) (mj_hs35 c3).2 rfl lm_X8_108 wc_X6_isRow pl_X6_isRow ok_X6_isRow rfl rfl (Nat.le_of_ble_eq_true rfl) (k_X6_isRow (by omega) er4) (mj_dt dt_X8_element 7 rfl) ?_
    refine mj_go_if_eq (tgt := 32) rfl (mj_dt dt_X8_element 8 rfl) (fun b5 => ?_) (fun b5 => ?_)
    · rw [if_pos b5] at h
      refine mj_go_lconst (v := 0) rfl (mj_dt dt_X8_element 16 rfl) ?_
      obtain rfl := Option.some.inj h
      exact mj_go_ret (v := some (.long 0)) (Nat.le_of_ble_eq_true rfl) (mj_retL (mj_dt dt_X8_element 17 rfl) rfl)
    · rw [if_neg b5] at h
      refine mj_go_aload_n (k := 0) (x := 0) rfl (mj_dt dt_X8_element 9 rfl) ?_
      refine ml_getR (c := 8) (k := 2) (q := 35) fd_8_2 rf_0_2 (Or.inl fl_X8_21) ho_0 (mj_dt dt_X8_element 10 rfl) ?_
      refine mj_go_iload_n (k := 1) (x := v1) rfl (mj_dt dt_X8_element 11 rfl) ?_
      refine ml_aald3 (q := 79 + 2 * v1.toNatClampNeg) c3 (mj_hs35 c3).1 (mj_dt dt_X8_element 12 rfl) ?_
      refine mj_go_iload_n (k := 2) (x := v2) rfl (mj_dt dt_X8_element 13 rfl) ?_
      obtain ⟨r6, er6, h⟩ := mj_bind_some h
      refine ml_callV (Y' := mY_X6_has) (as := [.int v2]) (rest := []) (c := 6) (v := (some (.int r6))) (M1 := (mj_fin m)) (mj_hs35 c3).2 rfl lm_X8_97 wc_X6_has pl_X6_has ok_X6_has rfl rfl (Nat.le_of_ble_eq_true rfl) (k_X6_has (by omega) er6) (mj_dt dt_X8_element 14 rfl) ?_
      refine mj_go_if_ne (tgt := 34) rfl (mj_dt dt_X8_element 15 rfl) (fun b7 => ?_) (fun b7 => ?_)
      · rw [if_neg b7] at h
        refine mj_go_aload_n (k := 0) (x := 0) rfl (mj_dt dt_X8_element 18 rfl) ?_
        refine ml_getR (c := 8) (k := 2) (q := 35) fd_8_2 rf_0_2 (Or.inl fl_X8_21) ho_0 (mj_dt dt_X8_element 19 rfl) ?_
        refine mj_go_iload_n (k := 1) (x := v1) rfl (mj_dt dt_X8_element 20 rfl) ?_
        refine ml_aald3 (q := 79 + 2 * v1.toNatClampNeg) c3 (mj_hs35 c3).1 (mj_dt dt_X8_element 21 rfl) ?_
        refine ml_getR (c := 6) (k := 0) (q := (79 + 2 * v1.toNatClampNeg) + 1) fd_6_0 (mj_RFs (mj_hs35 c3).2) (Or.inl fl_X8_118) (mj_hs35 c3).2 (mj_dt dt_X8_element 22 rfl) ?_
        refine mj_go_iload_n (k := 2) (x := v2) rfl (mj_dt dt_X8_element 23 rfl) ?_
        obtain ⟨c8, h⟩ := mj_ck_some h
        refine mk_lald c8 (mj_dt dt_X8_element 24 rfl) ?_
        obtain rfl := Option.some.inj h
        exact mj_go_ret (v := some (.long (m.2 ((79 + 2 * v1.toNatClampNeg) + 1) v2.toNatClampNeg))) (Nat.le_of_ble_eq_true rfl) (mj_retL (mj_dt dt_X8_element 25 rfl) rfl)
      · rw [if_pos b7] at h
        refine mj_go_lconst (v := 0) rfl (mj_dt dt_X8_element 16 rfl) ?_
        obtain rfl := Option.some.inj h
        exact mj_go_ret (v := some (.long 0)) (Nat.le_of_ble_eq_true rfl) (mj_retL (mj_dt dt_X8_element 17 rfl) rfl)
def f_X9_element_46 (N : Nat) (m : mj_m) : Option (Int64) := (some 0)
theorem k_X9_element_46 {L : Nat} {xs : Nat → Int32} {δ N : Nat} {m : mj_m} (hδ : 0 ≤ δ) {a : Int64} (h : f_X9_element_46 N m = some a) : mj_Go (mj_EX L xs) (δ + 1) mY_X9_element 46 [] [] (mj_fin m) (some (.long a), (mj_fin m)) := by
  unfold f_X9_element_46 at h
  refine mj_go_lconst (v := 0) rfl (mj_dt dt_X9_element 27 rfl) ?_
  obtain rfl := Option.some.inj h
  exact mj_go_ret (v := some (.long 0)) (Nat.le_of_ble_eq_true rfl) (mj_retL (mj_dt dt_X9_element 28 rfl) rfl)
def f_X9_element (N : Nat) (v1 : Int32) (v2 : Int32) (m : mj_m) : Option (Int64) := (f_X9_isShelf N v1 m).bind (fun r1 => if r1 = 0 then f_X9_element_46 N m else (mj_ck (mj_b 0 110 v1) ( if (m.1 110 v1.toNatClampNeg) = 1 then (if v2 < 0 then f_X9_element_46 N m else (mj_ck (mj_b 0 112 v1) ( if (m.1 112 v1.toNatClampNeg) ≤ v2 then f_X9_element_46 N m else (mj_ck (mj_b 1 115 ((120 * v1) + v2)) ( (some (m.2 115 ((120 * v1) + v2).toNatClampNeg))))))) else f_X9_element_46 N m)))
theorem k_X9_element {L : Nat} {xs : Nat → Int32} {δ N : Nat} {v1 : Int32} {v2 : Int32} {m : mj_m} (hδ : 1 ≤ δ) {a : Int64} (h : f_X9_element N v1 v2 m = some a) : mj_Cl (mj_EX L xs) δ mY_X9_element [.ref 95, .int v1, .int v2] (mj_fin m) (some (.long a), (mj_fin m)) := by
  obtain ⟨δ, rfl⟩ : ∃ d, δ = d + 1 := ⟨δ - 1, by omega⟩
  have hδ : 0 ≤ δ := by omega
  refine mj_cl_of ok_X9_element (Nat.le_of_ble_eq_true rfl) ?_
  unfold f_X9_element at h
  refine mj_go_aload_n (k := 0) (x := 95) rfl (mj_dt dt_X9_element 0 rfl) ?_
  refine mj_go_iload_n (k := 1) (x := v1) rfl (mj_dt dt_X9_element 1 rfl) ?_
  obtain ⟨r1, er1, h⟩ := mj_bind_some h
  refine ml_callV (Y' := mY_X9_isShelf) (as := [.int v1]) (rest := []) (c := 9) (v := (some (.int r1))) (M1 := (mj_fin m)) ho_95 rfl lm_X9_130 wc_X9_isShelf pl_X9_isShelf ok_X9_isShelf rfl rfl (Nat.le_of_ble_eq_true rfl) (k_X9_isShelf (by omega) er1) (mj_dt dt_X9_element 2 rfl) ?_
  refine mj_go_if_eq (tgt := 46) rfl (mj_dt dt_X9_element 3 rfl) (fun b2 => ?_) (fun b2 => ?_)
  · rw [if_pos b2] at h
    refine mj_go_sub (lv' := []) (fun _ h9 => absurd h9 List.not_mem_nil) ?_
    exact k_X9_element_46 hδ h
  · rw [if_neg b2] at h
    refine mj_go_aload_n (k := 0) (x := 95) rfl (mj_dt dt_X9_element 4 rfl) ?_
    refine ml_getR (c := 9) (k := 25) (q := 110) fd_9_25 rf_95_25 (Or.inl fl_X9_68) ho_95 (mj_dt dt_X9_element 5 rfl) ?_
    refine mj_go_iload_n (k := 1) (x := v1) rfl (mj_dt dt_X9_element 6 rfl) ?_
    obtain ⟨c3, h⟩ := mj_ck_some h
    refine mk_iald c3 (mj_dt dt_X9_element 7 rfl) ?_
    refine mj_go_iconst (v := 1) rfl (mj_dt dt_X9_element 8 rfl) ?_
    refine mj_go_icmp_ne (tgt := 46) rfl (mj_dt dt_X9_element 9 rfl) (fun b4 => ?_) (fun b4 => ?_)
    · rw [if_neg b4] at h
      refine mj_go_sub (lv' := []) (fun _ h9 => absurd h9 List.not_mem_nil) ?_
      exact k_X9_element_46 hδ h
    · rw [if_pos b4] at h
      refine mj_go_iload_n (k := 2) (x := v2) rfl (mj_dt dt_X9_element 10 rfl) ?_
      refine mj_go_if_lt (tgt := 46) rfl (mj_dt dt_X9_element 11 rfl) (fun b5 => ?_) (fun b5 => ?_)
      · rw [if_pos b5] at h
        refine mj_go_sub (lv' := []) (fun _ h9 => absurd h9 List.not_mem_nil) ?_
        exact k_X9_element_46 hδ h
      · rw [if_neg b5] at h
        refine mj_go_iload_n (k := 2) (x := v2) rfl (mj_dt dt_X9_element 12 rfl) ?_
        refine mj_go_aload_n (k := 0) (x := 95) rfl (mj_dt dt_X9_element 13 rfl) ?_
        refine ml_getR (c := 9) (k := 27) (q := 112) fd_9_27 rf_95_27 (Or.inl fl_X9_74) ho_95 (mj_dt dt_X9_element 14 rfl) ?_
        refine mj_go_iload_n (k := 1) (x := v1) rfl (mj_dt dt_X9_element 15 rfl) ?_
        obtain ⟨c6, h⟩ := mj_ck_some h
        refine mk_iald c6 (mj_dt dt_X9_element 16 rfl) ?_
        refine mj_go_icmp_ge (tgt := 46) rfl (mj_dt dt_X9_element 17 rfl) (fun b7 => ?_) (fun b7 => ?_)
        · rw [if_pos b7] at h
          refine mj_go_sub (lv' := []) (fun _ h9 => absurd h9 List.not_mem_nil) ?_
          exact k_X9_element_46 hδ h
        · rw [if_neg b7] at h
          refine mj_go_aload_n (k := 0) (x := 95) rfl (mj_dt dt_X9_element 18 rfl) ?_
          refine ml_getR (c := 9) (k := 30) (q := 115) fd_9_30 rf_95_30 (Or.inl fl_X9_83) ho_95 (mj_dt dt_X9_element 19 rfl) ?_
          refine mj_go_bipush (v := 120) rfl (mj_dt dt_X9_element 20 rfl) ?_
          refine mj_go_iload_n (k := 1) (x := v1) rfl (mj_dt dt_X9_element 21 rfl) ?_
          refine mj_go_imul (mj_dt dt_X9_element 22 rfl) ?_
          refine mj_go_iload_n (k := 2) (x := v2) rfl (mj_dt dt_X9_element 23 rfl) ?_
          refine mj_go_iadd (mj_dt dt_X9_element 24 rfl) ?_
          obtain ⟨c8, h⟩ := mj_ck_some h
          refine mk_lald c8 (mj_dt dt_X9_element 25 rfl) ?_
          refine mj_go_goto (tgt := 47) rfl (mj_dt dt_X9_element 26 rfl) ?_
          obtain rfl := Option.some.inj h
          exact mj_go_ret (v := some (.long (m.2 115 ((120 * v1) + v2).toNatClampNeg))) (Nat.le_of_ble_eq_true rfl) (mj_retL (mj_dt dt_X9_element 28 rfl) rfl)
def f_X8_isKind_14 (N : Nat) (m : mj_m) : Option (Int32) := (some 0)
theorem k_X8_isKind_14 {L : Nat} {xs : Nat → Int32} {δ N : Nat} {m : mj_m} {a : Int32} (h : f_X8_isKind_14 N m = some a) : mj_Go (mj_EX L xs) δ mY_X8_isKind 14 [] [] (mj_fin m) (some (.int a), (mj_fin m)) := by
  unfold f_X8_isKind_14 at h
  refine mj_go_iconst (v := 0) rfl (mj_dt dt_X8_isKind 7 rfl) ?_
  obtain rfl := Option.some.inj h
  exact mj_go_ret (v := some (.int 0)) (Nat.le_of_ble_eq_true rfl) (mj_retZ (mj_dt dt_X8_isKind 8 rfl) rfl rfl)
def f_X8_isKind (N : Nat) (v0 : Int32) (m : mj_m) : Option (Int32) := if v0 < 0 then f_X8_isKind_14 N m else (if 6 < v0 then f_X8_isKind_14 N m else ((some 1)))
theorem k_X8_isKind {L : Nat} {xs : Nat → Int32} {δ N : Nat} {v0 : Int32} {m : mj_m} (_ : 0 ≤ δ) {a : Int32} (h : f_X8_isKind N v0 m = some a) : mj_Cl (mj_EX L xs) δ mY_X8_isKind [.int v0] (mj_fin m) (some (.int a), (mj_fin m)) := by
  refine mj_cl_of ok_X8_isKind (Nat.le_of_ble_eq_true rfl) ?_
  unfold f_X8_isKind at h
  refine mj_go_iload_n (k := 0) (x := v0) rfl (mj_dt dt_X8_isKind 0 rfl) ?_
  refine mj_go_if_lt (tgt := 14) rfl (mj_dt dt_X8_isKind 1 rfl) (fun b1 => ?_) (fun b1 => ?_)
  · rw [if_pos b1] at h
    refine mj_go_sub (lv' := []) (fun _ h9 => absurd h9 List.not_mem_nil) ?_
    exact k_X8_isKind_14 h
  · rw [if_neg b1] at h
    refine mj_go_iload_n (k := 0) (x := v0) rfl (mj_dt dt_X8_isKind 2 rfl) ?_
    refine mj_go_bipush (v := 6) rfl (mj_dt dt_X8_isKind 3 rfl) ?_
    refine mj_go_icmp_gt (tgt := 14) rfl (mj_dt dt_X8_isKind 4 rfl) (fun b2 => ?_) (fun b2 => ?_)
    · rw [if_pos b2] at h
      refine mj_go_sub (lv' := []) (fun _ h9 => absurd h9 List.not_mem_nil) ?_
      exact k_X8_isKind_14 h
    · rw [if_neg b2] at h
      refine mj_go_iconst (v := 1) rfl (mj_dt dt_X8_isKind 5 rfl) ?_
      refine mj_go_goto (tgt := 15) rfl (mj_dt dt_X8_isKind 6 rfl) ?_
      obtain rfl := Option.some.inj h
      exact mj_go_ret (v := some (.int 1)) (Nat.le_of_ble_eq_true rfl) (mj_retZ (mj_dt dt_X8_isKind 8 rfl) rfl rfl)
def f_X6_holdRule (N : Nat) (v0 : Nat) (v1 : Int32) (v2 : Int32) (m : mj_m) : Option (mj_m) := mj_ck (mj_o 6 v0) ( mj_mw (mj_wI m v0 1 v1) (fun m2 => mj_mw (mj_wI m2 v0 3 v2) (fun m3 => mj_mw (mj_wI m3 v0 2 0) (fun m4 => some m4))))
theorem k_X6_holdRule {L : Nat} {xs : Nat → Int32} {δ N : Nat} {v0 : Nat} {v1 : Int32} {v2 : Int32} {m : mj_m} (_ : 0 ≤ δ) {a : mj_m} (h : f_X6_holdRule N v0 v1 v2 m = some a) : mj_Cl (mj_EX L xs) δ mY_X6_holdRule [.ref v0, .int v1, .int v2] (mj_fin m) (none, (mj_fin a)) := by
  refine mj_cl_of ok_X6_holdRule (Nat.le_of_ble_eq_true rfl) ?_
  unfold f_X6_holdRule at h
  refine mj_go_aload_n (k := 0) (x := v0) rfl (mj_dt dt_X6_holdRule 0 rfl) ?_
  refine mj_go_iload_n (k := 1) (x := v1) rfl (mj_dt dt_X6_holdRule 1 rfl) ?_
  obtain ⟨c1, h⟩ := mj_ck_some h
  obtain ⟨m2, em2, h⟩ := mj_mw_some h
  refine ml_putI (c := 6) (k := 1) fd_6_1 rfl fl_X6_15 c1 (mj_dt dt_X6_holdRule 2 rfl) ?_
  refine ml_eqm (M1 := (mj_fin m2)) (by rw [em2] <;> rfl) ?_
  refine mj_go_aload_n (k := 0) (x := v0) rfl (mj_dt dt_X6_holdRule 3 rfl) ?_
  refine mj_go_iload_n (k := 2) (x := v2) rfl (mj_dt dt_X6_holdRule 4 rfl) ?_
  obtain ⟨m3, em3, h⟩ := mj_mw_some h
  refine ml_putI (c := 6) (k := 3) fd_6_3 rfl fl_X6_22 c1 (mj_dt dt_X6_holdRule 5 rfl) ?_
  refine ml_eqm (M1 := (mj_fin m3)) (by rw [em3] <;> rfl) ?_
  refine mj_go_aload_n (k := 0) (x := v0) rfl (mj_dt dt_X6_holdRule 6 rfl) ?_
  refine mj_go_iconst (v := 0) rfl (mj_dt dt_X6_holdRule 7 rfl) ?_
  obtain ⟨m4, em4, h⟩ := mj_mw_some h
  refine ml_putI (c := 6) (k := 2) fd_6_2 rfl fl_X6_19 c1 (mj_dt dt_X6_holdRule 8 rfl) ?_
  refine ml_eqm (M1 := (mj_fin m4)) (by rw [em4] <;> rfl) ?_
  obtain rfl := Option.some.inj h
  exact mj_go_ret (v := none) (Nat.le_of_ble_eq_true rfl) (mj_retV (mj_dt dt_X6_holdRule 9 rfl) rfl)
def f_X6_asInt (N : Nat) (v0 : Nat) (v1 : Int32) (m : mj_m) : Option (Int32) := (f_X6_has N v0 v1 m).bind (fun r1 => mj_ck (mj_o 6 v0) ( if r1 = 0 then ((some 0)) else (mj_ck (mj_b 1 (v0 + 1) v1) ( (some ((m.2 (v0 + 1) v1.toNatClampNeg).toInt32))))))
theorem k_X6_asInt {L : Nat} {xs : Nat → Int32} {δ N : Nat} {v0 : Nat} {v1 : Int32} {m : mj_m} (hδ : 1 ≤ δ) {a : Int32} (h : f_X6_asInt N v0 v1 m = some a) : mj_Cl (mj_EX L xs) δ mY_X6_asInt [.ref v0, .int v1] (mj_fin m) (some (.int a), (mj_fin m)) := by
  obtain ⟨δ, rfl⟩ : ∃ d, δ = d + 1 := ⟨δ - 1, by omega⟩
  have hδ : 0 ≤ δ := by omega
  refine mj_cl_of ok_X6_asInt (Nat.le_of_ble_eq_true rfl) ?_
  unfold f_X6_asInt at h
  refine mj_go_aload_n (k := 0) (x := v0) rfl (mj_dt dt_X6_asInt 0 rfl) ?_
  refine mj_go_iload_n (k := 1) (x := v1) rfl (mj_dt dt_X6_asInt 1 rfl) ?_
  obtain ⟨r1, er1, h⟩ := mj_bind_some h
  obtain ⟨c2, h⟩ := mj_ck_some h
  refine ml_callV (Y' := mY_X6_has) (as := [.int v1]) (rest := []) (c := 6) (v := (some (.int r1))) (M1 := (mj_fin m)) c2 rfl lm_X6_35 wc_X6_has pl_X6_has ok_X6_has rfl rfl (Nat.le_of_ble_eq_true rfl) (k_X6_has (by omega) er1) (mj_dt dt_X6_asInt 2 rfl) ?_
  refine mj_go_if_eq (tgt := 18) rfl (mj_dt dt_X6_asInt 3 rfl) (fun b3 => ?_) (fun b3 => ?_)
  · rw [if_pos b3] at h
    refine mj_go_iconst (v := 0) rfl (mj_dt dt_X6_asInt 10 rfl) ?_
    obtain rfl := Option.some.inj h
    exact mj_go_ret (v := some (.int 0)) (Nat.le_of_ble_eq_true rfl) (mj_retI (mj_dt dt_X6_asInt 11 rfl) rfl)
  · rw [if_neg b3] at h
    refine mj_go_aload_n (k := 0) (x := v0) rfl (mj_dt dt_X6_asInt 4 rfl) ?_
    refine ml_getR (c := 6) (k := 0) (q := v0 + 1) fd_6_0 (mj_RFs c2) (Or.inl fl_X6_9) c2 (mj_dt dt_X6_asInt 5 rfl) ?_
    refine mj_go_iload_n (k := 1) (x := v1) rfl (mj_dt dt_X6_asInt 6 rfl) ?_
    obtain ⟨c4, h⟩ := mj_ck_some h
    refine mk_lald c4 (mj_dt dt_X6_asInt 7 rfl) ?_
    refine mj_go_l2i (mj_dt dt_X6_asInt 8 rfl) ?_
    refine mj_go_goto (tgt := 19) rfl (mj_dt dt_X6_asInt 9 rfl) ?_
    obtain rfl := Option.some.inj h
    exact mj_go_ret (v := some (.int ((m.2 (v0 + 1) v1.toNatClampNeg).toInt32))) (Nat.le_of_ble_eq_true rfl) (mj_retI (mj_dt dt_X6_asInt 11 rfl) rfl)
def f_X6_holdTold_2 (N : Nat) (v0 : Nat) (v1 : Nat) (v2 : Int32) (k_2 : Int32 × mj_m → Option (mj_m)) (s : Int32 × mj_m) : Option (mj_m) := mj_ck (mj_o 6 v1) ( if (s.2.1 v1 2) ≤ s.1 then (mj_ck (mj_o 6 v0) ( mj_mw (mj_wI s.2 v0 2 (s.2.1 v1 2)) (fun m4 => mj_mw (mj_wI m4 v0 1 6) (fun m5 => mj_mw (mj_wI m5 v0 3 v2) (fun m6 => some m6))))) else (mj_ck (mj_o 6 v0) ( (f_X6_asInt N v1 s.1 s.2).bind (fun r4 => mj_ck (mj_b 1 (v0 + 1) s.1) ( mj_mw (mj_wL s.2 (v0 + 1) (s.1.toNatClampNeg) (r4.toInt64)) (fun m6 => mj_mw (s.1 + 1) (fun x7 => k_2 (x7, m6))))))))
theorem k_X6_holdTold_2 {L : Nat} {xs : Nat → Int32} {δ N : Nat} {v0 : Nat} {v1 : Nat} {v2 : Int32} (hδ : 1 ≤ δ) : ∀ (n : Nat) (s : Int32 × mj_m) (a : mj_m), mj_lp n (f_X6_holdTold_2 N v0 v1 v2) s = some a → mj_Go (mj_EX L xs) (δ + 1) mY_X6_holdTold 2 [(0, .ref v0), (1, .ref v1), (2, .int v2), (3, .int s.1)] [] (mj_fin s.2) (none, (mj_fin a)) := by
  refine mj_lp_sound (fun k_2 s a q_2 h => ?_)
  unfold f_X6_holdTold_2 at h
  refine mj_go_iload_n (k := 3) (x := s.1) rfl (mj_dt dt_X6_holdTold 2 rfl) ?_
  refine mj_go_aload_n (k := 1) (x := v1) rfl (mj_dt dt_X6_holdTold 3 rfl) ?_
  obtain ⟨c1, h⟩ := mj_ck_some h
  refine mk_getI (c := 6) (k := 2) (Or.inl fd_6_2) (Or.inl fl_X6_19) c1 (mj_dt dt_X6_holdTold 4 rfl) ?_
  refine mj_go_icmp_ge (tgt := 28) rfl (mj_dt dt_X6_holdTold 5 rfl) (fun b2 => ?_) (fun b2 => ?_)
  · rw [if_pos b2] at h
    refine mj_go_aload_n (k := 0) (x := v0) rfl (mj_dt dt_X6_holdTold 16 rfl) ?_
    refine mj_go_aload_n (k := 1) (x := v1) rfl (mj_dt dt_X6_holdTold 17 rfl) ?_
    refine mk_getI (c := 6) (k := 2) (Or.inl fd_6_2) (Or.inl fl_X6_19) c1 (mj_dt dt_X6_holdTold 18 rfl) ?_
    obtain ⟨c3, h⟩ := mj_ck_some h
    obtain ⟨m4, em4, h⟩ := mj_mw_some h
    refine ml_putI (c := 6) (k := 2) fd_6_2 rfl fl_X6_19 c3 (mj_dt dt_X6_holdTold 19 rfl) ?_
    refine ml_eqm (M1 := (mj_fin m4)) (by rw [em4] <;> rfl) ?_
    refine mj_go_aload_n (k := 0) (x := v0) rfl (mj_dt dt_X6_holdTold 20 rfl) ?_
    refine mj_go_bipush (v := 6) rfl (mj_dt dt_X6_holdTold 21 rfl) ?_
    obtain ⟨m5, em5, h⟩ := mj_mw_some h
    refine ml_putI (c := 6) (k := 1) fd_6_1 rfl fl_X6_15 c3 (mj_dt dt_X6_holdTold 22 rfl) ?_
    refine ml_eqm (M1 := (mj_fin m5)) (by rw [em5] <;> rfl) ?_
    refine mj_go_aload_n (k := 0) (x := v0) rfl (mj_dt dt_X6_holdTold 23 rfl) ?_
    refine mj_go_iload_n (k := 2) (x := v2) rfl (mj_dt dt_X6_holdTold 24 rfl) ?_
    obtain ⟨m6, em6, h⟩ := mj_mw_some h
    refine ml_putI (c := 6) (k := 3) fd_6_3 rfl fl_X6_22 c3 (mj_dt dt_X6_holdTold 25 rfl) ?_
    refine ml_eqm (M1 := (mj_fin m6)) (by rw [em6] <;> rfl) ?_
    obtain rfl := Option.some.inj h
    exact mj_go_ret (v := none) (Nat.le_of_ble_eq_true rfl) (mj_retV (mj_dt dt_X6_holdTold 26 rfl) rfl)
  · rw [if_neg b2] at h
    refine mj_go_aload_n (k := 0) (x := v0) rfl (mj_dt dt_X6_holdTold 6 rfl) ?_
    obtain ⟨c3, h⟩ := mj_ck_some h
    refine ml_getR (c := 6) (k := 0) (q := v0 + 1) fd_6_0 (mj_RFs c3) (Or.inl fl_X6_9) c3 (mj_dt dt_X6_holdTold 7 rfl) ?_
    refine mj_go_iload_n (k := 3) (x := s.1) rfl (mj_dt dt_X6_holdTold 8 rfl) ?_
    refine mj_go_aload_n (k := 1) (x := v1) rfl (mj_dt dt_X6_holdTold 9 rfl) ?_
    refine mj_go_iload_n (k := 3) (x := s.1) rfl (mj_dt dt_X6_holdTold 10 rfl) ?_
    obtain ⟨r4, er4, h⟩ := mj_bind_some h
    refine ml_callV (Y' := mY_X6_asInt) (as := [.int s.1]) (rest := [.int s.1, .ref (v0 + 1)]) (c := 6) (v := (some (.int r4))) (M1 := (mj_fin s.2)) c1 rfl lm_X6_31 wc_X6_asInt pl_X6_asInt ok_X6_asInt rfl rfl (Nat.le_of_ble_eq_true rfl) (k_X6_asInt (by omega) er4) (mj_dt dt_X6_holdTold 11 rfl) ?_
    refine mj_go_i2l (mj_dt dt_X6_holdTold 12 rfl) ?_
    obtain ⟨c5, h⟩ := mj_ck_some h
    obtain ⟨m6, em6, h⟩ := mj_mw_some h
    refine ml_last c5 (mj_dt dt_X6_holdTold 13 rfl) ?_
    refine ml_eqm (M1 := (mj_fin m6)) (by rw [em6] <;> rfl) ?_
    obtain ⟨x7, ex7, h⟩ := mj_mw_some h
    refine mj_go_iinc (i := 3) (x := s.1) (v := x7) rfl (by rw [ex7] <;> rfl) (by decide) (mj_dt dt_X6_holdTold 14 rfl) ?_
    refine mj_go_goto (tgt := 2) rfl (mj_dt dt_X6_holdTold 15 rfl) ?_
    refine mj_go_sub (lv' := [(0, .ref v0), (1, .ref v1), (2, .int v2), (3, .int x7)]) (List.forall_mem_cons.mpr ⟨rfl, (List.forall_mem_cons.mpr ⟨rfl, (List.forall_mem_cons.mpr ⟨rfl, (List.forall_mem_cons.mpr ⟨rfl, (fun _ h9 => absurd h9 List.not_mem_nil)⟩)⟩)⟩)⟩) ?_
    exact q_2 _ _ h
def f_X6_holdTold (N : Nat) (v0 : Nat) (v1 : Nat) (v2 : Int32) (m : mj_m) : Option (mj_m) := mj_lp N (f_X6_holdTold_2 N v0 v1 v2) (0, m)
theorem k_X6_holdTold {L : Nat} {xs : Nat → Int32} {δ N : Nat} {v0 : Nat} {v1 : Nat} {v2 : Int32} {m : mj_m} (hδ : 2 ≤ δ) {a : mj_m} (h : f_X6_holdTold N v0 v1 v2 m = some a) : mj_Cl (mj_EX L xs) δ mY_X6_holdTold [.ref v0, .ref v1, .int v2] (mj_fin m) (none, (mj_fin a)) := by
  obtain ⟨δ, rfl⟩ : ∃ d, δ = d + 1 := ⟨δ - 1, by omega⟩
  have hδ : 1 ≤ δ := by omega
  refine mj_cl_of ok_X6_holdTold (Nat.le_of_ble_eq_true rfl) ?_
  unfold f_X6_holdTold at h
  refine mj_go_iconst (v := 0) rfl (mj_dt dt_X6_holdTold 0 rfl) ?_
  refine mj_go_istore_n (k := 3) (by decide) (mj_dt dt_X6_holdTold 1 rfl) ?_
  refine mj_go_sub (lv' := [(0, .ref v0), (1, .ref v1), (2, .int v2), (3, .int 0)]) (List.forall_mem_cons.mpr ⟨rfl, (List.forall_mem_cons.mpr ⟨rfl, (List.forall_mem_cons.mpr ⟨rfl, (List.forall_mem_cons.mpr ⟨rfl, (fun _ h9 => absurd h9 List.not_mem_nil)⟩)⟩)⟩)⟩) ?_
  exact k_X6_holdTold_2 hδ N _ _ h
def f_X8_ruleTold (N : Nat) (v1 : Int32) (v2 : Int32) (m : mj_m) : Option (Int32 × mj_m) := (f_X8_lacksRow N v2 m).bind (fun r1 => if r1 = 0 then (mj_ck (mj_b 3 35 v1) ( mj_ck (mj_b 3 35 v2) ( (f_X6_holdTold N (79 + 2 * v1.toNatClampNeg) (79 + 2 * v2.toNatClampNeg) v2 m).bind (fun r5 => some (1, r5))))) else ((f_X8_refuse N r1 m).bind (fun r3 => some (r3.1, r3.2))))
theorem k_X8_ruleTold {L : Nat} {xs : Nat → Int32} {δ N : Nat} {v1 : Int32} {v2 : Int32} {m : mj_m} (hδ : 3 ≤ δ) {a : Int32 × mj_m} (h : f_X8_ruleTold N v1 v2 m = some a) : mj_Cl (mj_EX L xs) δ mY_X8_ruleTold [.ref 0, .int v1, .int v2] (mj_fin m) (some (.int a.1), (mj_fin a.2)) := by
  obtain ⟨δ, rfl⟩ : ∃ d, δ = d + 1 := ⟨δ - 1, by omega⟩
  have hδ : 2 ≤ δ := by omega
  refine mj_cl_of ok_X8_ruleTold (Nat.le_of_ble_eq_true rfl) ?_
  unfold f_X8_ruleTold at h
  refine mj_go_aload_n (k := 0) (x := 0) rfl (mj_dt dt_X8_ruleTold 0 rfl) ?_
  refine mj_go_iload_n (k := 2) (x := v2) rfl (mj_dt dt_X8_ruleTold 1 rfl) ?_
  obtain ⟨r1, er1, h⟩ := mj_bind_some h
  refine ml_callV (Y' := mY_X8_lacksRow) (as := [.int v2]) (rest := []) (c := 8) (v := (some (.int r1))) (M1 := (mj_fin m)) ho_0 rfl lm_X8_94 wc_X8_lacksRow pl_X8_lacksRow ok_X8_lacksRow rfl rfl (Nat.le_of_ble_eq_true rfl) (k_X8_lacksRow (by omega) er1) (mj_dt dt_X8_ruleTold 2 rfl) ?_
  refine mj_go_istore_n (k := 3) (by decide) (mj_dt dt_X8_ruleTold 3 rfl) ?_
  refine mj_go_iload_n (k := 3) (x := r1) rfl (mj_dt dt_X8_ruleTold 4 rfl) ?_
  refine mj_go_if_eq (tgt := 16) rfl (mj_dt dt_X8_ruleTold 5 rfl) (fun b2 => ?_) (fun b2 => ?_)
  · rw [if_pos b2] at h
    refine mj_go_aload_n (k := 0) (x := 0) rfl (mj_dt dt_X8_ruleTold 10 rfl) ?_
    refine ml_getR (c := 8) (k := 2) (q := 35) fd_8_2 rf_0_2 (Or.inl fl_X8_21) ho_0 (mj_dt dt_X8_ruleTold 11 rfl) ?_
    refine mj_go_iload_n (k := 1) (x := v1) rfl (mj_dt dt_X8_ruleTold 12 rfl) ?_
    obtain ⟨c3, h⟩ := mj_ck_some h
    refine ml_aald3 (q := 79 + 2 * v1.toNatClampNeg) c3 (mj_hs35 c3).1 (mj_dt dt_X8_ruleTold 13 rfl) ?_
    refine mj_go_aload_n (k := 0) (x := 0) rfl (mj_dt dt_X8_ruleTold 14 rfl) ?_
    refine ml_getR (c := 8) (k := 2) (q := 35) fd_8_2 rf_0_2 (Or.inl fl_X8_21) ho_0 (mj_dt dt_X8_ruleTold 15 rfl) ?_
    refine mj_go_iload_n (k := 2) (x := v2) rfl (mj_dt dt_X8_ruleTold 16 rfl) ?_
    obtain ⟨c4, h⟩ := mj_ck_some h
    refine ml_aald3 (q := 79 + 2 * v2.toNatClampNeg) c4 (mj_hs35 c4).1 (mj_dt dt_X8_ruleTold 17 rfl) ?_
    refine mj_go_iload_n (k := 2) (x := v2) rfl (mj_dt dt_X8_ruleTold 18 rfl) ?_
    obtain ⟨r5, er5, h⟩ := mj_bind_some h
    refine ml_callV (Y' := mY_X6_holdTold) (as := [.ref (79 + 2 * v2.toNatClampNeg), .int v2]) (rest := []) (c := 6) (v := none) (M1 := (mj_fin r5)) (mj_hs35 c3).2 rfl lm_X8_141 wc_X6_holdTold pl_X6_holdTold ok_X6_holdTold rfl rfl (Nat.le_of_ble_eq_true rfl) (k_X6_holdTold (by omega) er5) (mj_dt dt_X8_ruleTold 19 rfl) ?_
    refine mj_go_iconst (v := 1) rfl (mj_dt dt_X8_ruleTold 20 rfl) ?_
    obtain rfl := Option.some.inj h
    exact mj_go_ret (v := some (.int 1)) (Nat.le_of_ble_eq_true rfl) (mj_retI (mj_dt dt_X8_ruleTold 21 rfl) rfl)
  · rw [if_neg b2] at h
    refine mj_go_aload_n (k := 0) (x := 0) rfl (mj_dt dt_X8_ruleTold 6 rfl) ?_
    refine mj_go_iload_n (k := 3) (x := r1) rfl (mj_dt dt_X8_ruleTold 7 rfl) ?_
    obtain ⟨r3, er3, h⟩ := mj_bind_some h
    refine ml_callV (Y' := mY_X8_refuse) (as := [.int r1]) (rest := []) (c := 8) (v := (some (.int r3.1))) (M1 := (mj_fin r3.2)) ho_0 rfl lm_X8_86 wc_X8_refuse pl_X8_refuse ok_X8_refuse rfl rfl (Nat.le_of_ble_eq_true rfl) (k_X8_refuse (by omega) er3) (mj_dt dt_X8_ruleTold 8 rfl) ?_
    obtain rfl := Option.some.inj h
    exact mj_go_ret (v := some (.int r3.1)) (Nat.le_of_ble_eq_true rfl) (mj_retI (mj_dt dt_X8_ruleTold 9 rfl) rfl)
def f_X6_empty (N : Nat) (v0 : Nat) (m : mj_m) : Option (mj_m) := mj_ck (mj_o 6 v0) ( mj_mw (mj_wI m v0 1 (-1 : Int32)) (fun m2 => mj_mw (mj_wI m2 v0 2 0) (fun m3 => some m3)))
theorem k_X6_empty {L : Nat} {xs : Nat → Int32} {δ N : Nat} {v0 : Nat} {m : mj_m} (_ : 0 ≤ δ) {a : mj_m} (h : f_X6_empty N v0 m = some a) : mj_Cl (mj_EX L xs) δ mY_X6_empty [.ref v0] (mj_fin m) (none, (mj_fin a)) := by
  refine mj_cl_of ok_X6_empty (Nat.le_of_ble_eq_true rfl) ?_
  unfold f_X6_empty at h
  refine mj_go_aload_n (k := 0) (x := v0) rfl (mj_dt dt_X6_empty 0 rfl) ?_
  refine mj_go_iconst (v := -1) rfl (mj_dt dt_X6_empty 1 rfl) ?_
  obtain ⟨c1, h⟩ := mj_ck_some h
  obtain ⟨m2, em2, h⟩ := mj_mw_some h
  refine ml_putI (c := 6) (k := 1) fd_6_1 rfl fl_X6_15 c1 (mj_dt dt_X6_empty 2 rfl) ?_
  refine ml_eqm (M1 := (mj_fin m2)) (by rw [em2] <;> rfl) ?_
  refine mj_go_aload_n (k := 0) (x := v0) rfl (mj_dt dt_X6_empty 3 rfl) ?_
  refine mj_go_iconst (v := 0) rfl (mj_dt dt_X6_empty 4 rfl) ?_
  obtain ⟨m3, em3, h⟩ := mj_mw_some h
  refine ml_putI (c := 6) (k := 2) fd_6_2 rfl fl_X6_19 c1 (mj_dt dt_X6_empty 5 rfl) ?_
  refine ml_eqm (M1 := (mj_fin m3)) (by rw [em3] <;> rfl) ?_
  obtain rfl := Option.some.inj h
  exact mj_go_ret (v := none) (Nat.le_of_ble_eq_true rfl) (mj_retV (mj_dt dt_X6_empty 6 rfl) rfl)
def f_X8_rule_19 (N : Nat) (m : mj_m) : Option (Int32 × mj_m) := (f_X8_refuse N 1 m).bind (fun r1 => some (r1.1, r1.2))
theorem k_X8_rule_19 {L : Nat} {xs : Nat → Int32} {δ N : Nat} {m : mj_m} (hδ : 3 ≤ δ) {a : Int32 × mj_m} (h : f_X8_rule_19 N m = some a) : mj_Go (mj_EX L xs) (δ + 1) mY_X8_rule 19 [(0, .ref 0)] [] (mj_fin m) (some (.int a.1), (mj_fin a.2)) := by
  unfold f_X8_rule_19 at h
  refine mj_go_aload_n (k := 0) (x := 0) rfl (mj_dt dt_X8_rule 9 rfl) ?_
  refine mj_go_iconst (v := 1) rfl (mj_dt dt_X8_rule 10 rfl) ?_
  obtain ⟨r1, er1, h⟩ := mj_bind_some h
  refine ml_callV (Y' := mY_X8_refuse) (as := [.int 1]) (rest := []) (c := 8) (v := (some (.int r1.1))) (M1 := (mj_fin r1.2)) ho_0 rfl lm_X8_86 wc_X8_refuse pl_X8_refuse ok_X8_refuse rfl rfl (Nat.le_of_ble_eq_true rfl) (k_X8_refuse (by omega) er1) (mj_dt dt_X8_rule 11 rfl) ?_
  obtain rfl := Option.some.inj h
  exact mj_go_ret (v := some (.int r1.1)) (Nat.le_of_ble_eq_true rfl) (mj_retI (mj_dt dt_X8_rule 12 rfl) rfl)
def f_X8_rule_64 (N : Nat) (m : mj_m) : Option (Int32 × mj_m) := (f_X8_refuse N 6 m).bind (fun r1 => some (r1.1, r1.2))
theorem k_X8_rule_64 {L : Nat} {xs : Nat → Int32} {δ N : Nat} {m : mj_m} (hδ : 3 ≤ δ) {a : Int32 × mj_m} (h : f_X8_rule_64 N m = some a) : mj_Go (mj_EX L xs) (δ + 1) mY_X8_rule 64 [(0, .ref 0)] [] (mj_fin m) (some (.int a.1), (mj_fin a.2)) := by
  unfold f_X8_rule_64 at h
  refine mj_go_aload_n (k := 0) (x := 0) rfl (mj_dt dt_X8_rule 36 rfl) ?_
  refine mj_go_bipush (v := 6) rfl (mj_dt dt_X8_rule 37 rfl) ?_
  obtain ⟨r1, er1, h⟩ := mj_bind_some h
  refine ml_callV (Y' := mY_X8_refuse) (as := [.int 6]) (rest := []) (c := 8) (v := (some (.int r1.1))) (M1 := (mj_fin r1.2)) ho_0 rfl lm_X8_86 wc_X8_refuse pl_X8_refuse ok_X8_refuse rfl rfl (Nat.le_of_ble_eq_true rfl) (k_X8_refuse (by omega) er1) (mj_dt dt_X8_rule 38 rfl) ?_
  obtain rfl := Option.some.inj h
  exact mj_go_ret (v := some (.int r1.1)) (Nat.le_of_ble_eq_true rfl) (mj_retI (mj_dt dt_X8_rule 39 rfl) rfl)
def f_X8_rule_25 (N : Nat) (v1 : Int32) (v2 : Int32) (v3 : Int32) (m : mj_m) : Option (Int32 × mj_m) := if v2 = (-1 : Int32) then (mj_ck (mj_b 3 35 v1) ( (f_X6_empty N (79 + 2 * v1.toNatClampNeg) m).bind (fun r3 => some (0, r3)))) else (if v2 = 6 then ((f_X8_ruleTold N v1 v3 m).bind (fun r3 => some (r3.1, r3.2))) else (if v3 < 0 then f_X8_rule_64 N m else (if v3 ≤ 99 then (mj_ck (mj_b 3 35 v1) ( (f_X6_holdRule N (79 + 2 * v1.toNatClampNeg) v2 v3 m).bind (fun r6 => some (1, r6)))) else f_X8_rule_64 N m)))
theorem k_X8_rule_25 {L : Nat} {xs : Nat → Int32} {δ N : Nat} {v1 : Int32} {v2 : Int32} {v3 : Int32} {m : mj_m} (hδ : 3 ≤ δ) {a : Int32 × mj_m} (h : f_X8_rule_25 N v1 v2 v3 m = some a) : mj_Go (mj_EX L xs) (δ + 1) mY_X8_rule 25 [(0, .ref 0), (1, .int v1), (2, .int v2), (3, .int v3)] [] (mj_fin m) (some (.int a.1), (mj_fin a.2)) := by
  unfold f_X8_rule_25 at h
  refine mj_go_iload_n (k := 2) (x := v2) rfl (mj_dt dt_X8_rule 13 rfl) ?_
  refine mj_go_iconst (v := -1) rfl (mj_dt dt_X8_rule 14 rfl) ?_
  refine mj_go_icmp_ne (tgt := 41) rfl (mj_dt dt_X8_rule 15 rfl) (fun b1 => ?_) (fun b1 => ?_)
  · rw [if_neg b1] at h
    refine mj_go_iload_n (k := 2) (x := v2) rfl (mj_dt dt_X8_rule 23 rfl) ?_
    refine mj_go_bipush (v := 6) rfl (mj_dt dt_X8_rule 24 rfl) ?_
    refine mj_go_icmp_ne (tgt := 54) rfl (mj_dt dt_X8_rule 25 rfl) (fun b2 => ?_) (fun b2 => ?_)
    · rw [if_neg b2] at h
      refine mj_go_iload_n (k := 3) (x := v3) rfl (mj_dt dt_X8_rule 31 rfl) ?_
      refine mj_go_if_lt (tgt := 64) rfl (mj_dt dt_X8_rule 32 rfl) (fun b3 => ?_) (fun b3 => ?_)
      · rw [if_pos b3] at h
        refine mj_go_sub (lv' := [(0, .ref 0)]) (List.forall_mem_cons.mpr ⟨rfl, (fun _ h9 => absurd h9 List.not_mem_nil)⟩) ?_
        exact k_X8_rule_64 hδ h
      · rw [if_neg b3] at h
        refine mj_go_iload_n (k := 3) (x := v3) rfl (mj_dt dt_X8_rule 33 rfl) ?_
        refine mj_go_bipush (v := 99) rfl (mj_dt dt_X8_rule 34 rfl) ?_
        refine mj_go_icmp_le (tgt := 71) rfl (mj_dt dt_X8_rule 35 rfl) (fun b4 => ?_) (fun b4 => ?_)
        · rw [if_pos b4] at h
          refine mj_go_aload_n (k := 0) (x := 0) rfl (mj_dt dt_X8_rule 40 rfl) ?_
          refine ml_getR (c := 8) (k := 2) (q := 35) fd_8_2 rf_0_2 (Or.inl fl_X8_21) ho_0 (mj_dt dt_X8_rule 41 rfl) ?_
          refine mj_go_iload_n (k := 1) (x := v1) rfl (mj_dt dt_X8_rule 42 rfl) ?_
          obtain ⟨c5, h⟩ := mj_ck_some h
          refine ml_aald3 (q := 79 + 2 * v1.toNatClampNeg) c5 (mj_hs35 c5).1 (mj_dt dt_X8_rule 43 rfl) ?_
          refine mj_go_iload_n (k := 2) (x := v2) rfl (mj_dt dt_X8_rule 44 rfl) ?_
          refine mj_go_iload_n (k := 3) (x := v3) rfl (mj_dt dt_X8_rule 45 rfl) ?_
          obtain ⟨r6, er6, h⟩ := mj_bind_some h
          refine ml_callV (Y' := mY_X6_holdRule) (as := [.int v2, .int v3]) (rest := []) (c := 6) (v := none) (M1 := (mj_fin r6)) (mj_hs35 c5).2 rfl lm_X8_138 wc_X6_holdRule pl_X6_holdRule ok_X6_holdRule rfl rfl (Nat.le_of_ble_eq_true rfl) (k_X6_holdRule (by omega) er6) (mj_dt dt_X8_rule 46 rfl) ?_
          refine mj_go_iconst (v := 1) rfl (mj_dt dt_X8_rule 47 rfl) ?_
          obtain rfl := Option.some.inj h
          exact mj_go_ret (v := some (.int 1)) (Nat.le_of_ble_eq_true rfl) (mj_retI (mj_dt dt_X8_rule 48 rfl) rfl)
        · rw [if_neg b4] at h
          refine mj_go_sub (lv' := [(0, .ref 0)]) (List.forall_mem_cons.mpr ⟨rfl, (fun _ h9 => absurd h9 List.not_mem_nil)⟩) ?_
          exact k_X8_rule_64 hδ h
    · rw [if_pos b2] at h
      refine mj_go_aload_n (k := 0) (x := 0) rfl (mj_dt dt_X8_rule 26 rfl) ?_
      refine mj_go_iload_n (k := 1) (x := v1) rfl (mj_dt dt_X8_rule 27 rfl) ?_
      refine mj_go_iload_n (k := 3) (x := v3) rfl (mj_dt dt_X8_rule 28 rfl) ?_
      obtain ⟨r3, er3, h⟩ := mj_bind_some h
      refine ml_callV (Y' := mY_X8_ruleTold) (as := [.int v1, .int v3]) (rest := []) (c := 8) (v := (some (.int r3.1))) (M1 := (mj_fin r3.2)) ho_0 rfl lm_X8_134 wc_X8_ruleTold pl_X8_ruleTold ok_X8_ruleTold rfl rfl (Nat.le_of_ble_eq_true rfl) (k_X8_ruleTold (by omega) er3) (mj_dt dt_X8_rule 29 rfl) ?_
      obtain rfl := Option.some.inj h
      exact mj_go_ret (v := some (.int r3.1)) (Nat.le_of_ble_eq_true rfl) (mj_retI (mj_dt dt_X8_rule 30 rfl) rfl)
  · rw [if_pos b1] at h
    refine mj_go_aload_n (k := 0) (x := 0) rfl (mj_dt dt_X8_rule 16 rfl) ?_
    refine ml_getR (c := 8) (k := 2) (q := 35) fd_8_2 rf_0_2 (Or.inl fl_X8_21) ho_0 (mj_dt dt_X8_rule 17 rfl) ?_
    refine mj_go_iload_n (k := 1) (x := v1) rfl (mj_dt dt_X8_rule 18 rfl) ?_
    obtain ⟨c2, h⟩ := mj_ck_some h
    refine ml_aald3 (q := 79 + 2 * v1.toNatClampNeg) c2 (mj_hs35 c2).1 (mj_dt dt_X8_rule 19 rfl) ?_
    obtain ⟨r3, er3, h⟩ := mj_bind_some h
    refine ml_callV (Y' := mY_X6_empty) (as := []) (rest := []) (c := 6) (v := none) (M1 := (mj_fin r3)) (mj_hs35 c2).2 rfl lm_X8_131 wc_X6_empty pl_X6_empty ok_X6_empty rfl rfl (Nat.le_of_ble_eq_true rfl) (k_X6_empty (by omega) er3) (mj_dt dt_X8_rule 20 rfl) ?_
    refine mj_go_iconst (v := 0) rfl (mj_dt dt_X8_rule 21 rfl) ?_
    obtain rfl := Option.some.inj h
    exact mj_go_ret (v := some (.int 0)) (Nat.le_of_ble_eq_true rfl) (mj_retI (mj_dt dt_X8_rule 22 rfl) rfl)
def f_X8_rule (N : Nat) (v1 : Int32) (v2 : Int32) (v3 : Int32) (m : mj_m) : Option (Int32 × mj_m) := (f_X8_isShelf N v1 m).bind (fun r1 => if r1 = 0 then f_X8_rule_19 N m else (if v2 = (-1 : Int32) then f_X8_rule_25 N v1 v2 v3 m else ((f_X8_isKind N v2 m).bind (fun r4 => if r4 = 0 then f_X8_rule_19 N m else f_X8_rule_25 N v1 v2 v3 m))))
theorem k_X8_rule {L : Nat} {xs : Nat → Int32} {δ N : Nat} {v1 : Int32} {v2 : Int32} {v3 : Int32} {m : mj_m} (hδ : 4 ≤ δ) {a : Int32 × mj_m} (h : f_X8_rule N v1 v2 v3 m = some a) : mj_Cl (mj_EX L xs) δ mY_X8_rule [.ref 0, .int v1, .int v2, .int v3] (mj_fin m) (some (.int a.1), (mj_fin a.2)) := by
  obtain ⟨δ, rfl⟩ : ∃ d, δ = d + 1 := ⟨δ - 1, by omega⟩
  have hδ : 3 ≤ δ := by omega
  refine mj_cl_of ok_X8_rule (Nat.le_of_ble_eq_true rfl) ?_
  unfold f_X8_rule at h
  refine mj_go_iload_n (k := 1) (x := v1) rfl (mj_dt dt_X8_rule 0 rfl) ?_
  obtain ⟨r1, er1, h⟩ := mj_bind_some h
  refine ml_callS (Y' := mY_X8_isShelf) (as := [.int v1]) (rest := []) (v := (some (.int r1))) (M1 := (mj_fin m)) lm_X8_82 wc_X8_isShelf pl_X8_isShelf ok_X8_isShelf rfl rfl (Nat.le_of_ble_eq_true rfl) (k_X8_isShelf (by omega) er1) (mj_dt dt_X8_rule 1 rfl) ?_
  refine mj_go_if_eq (tgt := 19) rfl (mj_dt dt_X8_rule 2 rfl) (fun b2 => ?_) (fun b2 => ?_)
  · rw [if_pos b2] at h
    refine mj_go_sub (lv' := [(0, .ref 0)]) (List.forall_mem_cons.mpr ⟨rfl, (fun _ h9 => absurd h9 List.not_mem_nil)⟩) ?_
    exact k_X8_rule_19 hδ h
  · rw [if_neg b2] at h
    refine mj_go_iload_n (k := 2) (x := v2) rfl (mj_dt dt_X8_rule 3 rfl) ?_
    refine mj_go_iconst (v := -1) rfl (mj_dt dt_X8_rule 4 rfl) ?_
    refine mj_go_icmp_eq (tgt := 25) rfl (mj_dt dt_X8_rule 5 rfl) (fun b3 => ?_) (fun b3 => ?_)
    · rw [if_pos b3] at h
      refine mj_go_sub (lv' := [(0, .ref 0), (1, .int v1), (2, .int v2), (3, .int v3)]) (List.forall_mem_cons.mpr ⟨rfl, (List.forall_mem_cons.mpr ⟨rfl, (List.forall_mem_cons.mpr ⟨rfl, (List.forall_mem_cons.mpr ⟨rfl, (fun _ h9 => absurd h9 List.not_mem_nil)⟩)⟩)⟩)⟩) ?_
      exact k_X8_rule_25 hδ h
    · rw [if_neg b3] at h
      refine mj_go_iload_n (k := 2) (x := v2) rfl (mj_dt dt_X8_rule 6 rfl) ?_
      obtain ⟨r4, er4, h⟩ := mj_bind_some h
      refine ml_callS (Y' := mY_X8_isKind) (as := [.int v2]) (rest := []) (v := (some (.int r4))) (M1 := (mj_fin m)) lm_X8_128 wc_X8_isKind pl_X8_isKind ok_X8_isKind rfl rfl (Nat.le_of_ble_eq_true rfl) (k_X8_isKind (by omega) er4) (mj_dt dt_X8_rule 7 rfl) ?_
      refine mj_go_if_ne (tgt := 25) rfl (mj_dt dt_X8_rule 8 rfl) (fun b5 => ?_) (fun b5 => ?_)
      · rw [if_neg b5] at h
        refine mj_go_sub (lv' := [(0, .ref 0), (1, .int v1), (2, .int v2), (3, .int v3)]) (List.forall_mem_cons.mpr ⟨rfl, (List.forall_mem_cons.mpr ⟨rfl, (List.forall_mem_cons.mpr ⟨rfl, (List.forall_mem_cons.mpr ⟨rfl, (fun _ h9 => absurd h9 List.not_mem_nil)⟩)⟩)⟩)⟩) ?_
        exact k_X8_rule_25 hδ h
      · rw [if_pos b5] at h
        refine mj_go_sub (lv' := [(0, .ref 0)]) (List.forall_mem_cons.mpr ⟨rfl, (fun _ h9 => absurd h9 List.not_mem_nil)⟩) ?_
        exact k_X8_rule_19 hδ h
