/-! METHODS as functions, and their rows over the small machine (printed by program from the printed instructions) -/
def f_X9_lostBy_10 (N : Nat) (m : mj_m) (k_10 : Int64 × Int32 → Option (Int64 × mj_m)) (s : Int64 × Int32) : Option (Int64 × mj_m) := if (1 <<< ((m.1 95 1) &&& 31)) ≤ s.2 then (some (s.1, m)) else (mj_ck (mj_b 1 121 s.2) ( mj_ck (mj_b 1 122 s.2) ( mj_mw (s.1 + ((m.2 121 s.2.toNatClampNeg) * (m.2 122 s.2.toNatClampNeg))) (fun x4 => mj_mw (s.2 + 1) (fun x5 => k_10 (x4, x5))))))
theorem k_X9_lostBy_10 {L : Nat} {xs : Nat → Int32} {δ N : Nat} {m : mj_m} (hδ : 1 ≤ δ) : ∀ (n : Nat) (s : Int64 × Int32) (a : Int64 × mj_m), mj_lp n (f_X9_lostBy_10 N m) s = some a → mj_Go (mj_EX L xs) (δ + 1) mY_X9_lostBy 10 [(0, .ref 95), (2, .long s.1), (4, .int s.2)] [] (mj_fin m) (some (.long a.1), (mj_fin a.2)) := by
  refine mj_lp_sound (fun k_10 s a q_10 h => ?_)
  unfold f_X9_lostBy_10 at h
  refine mj_go_iload (i := 4) (x := s.2) rfl (mj_dt dt_X9_lostBy 7 rfl) ?_
  refine mj_go_iconst (v := 1) rfl (mj_dt dt_X9_lostBy 8 rfl) ?_
  refine mj_go_aload_n (k := 0) (x := 95) rfl (mj_dt dt_X9_lostBy 9 rfl) ?_
  refine mk_getI (c := 9) (k := 1) (Or.inl fd_9_1) (Or.inl fl_X9_124) ho_95 (mj_dt dt_X9_lostBy 10 rfl) ?_
  refine mj_go_ishl (mj_dt dt_X9_lostBy 11 rfl) ?_
  refine mj_go_icmp_ge (tgt := 45) rfl (mj_dt dt_X9_lostBy 12 rfl) (fun b1 => ?_) (fun b1 => ?_)
  · rw [if_pos b1] at h
    refine mj_go_lload_n (k := 2) (x := s.1) rfl (mj_dt dt_X9_lostBy 27 rfl) ?_
    obtain rfl := Option.some.inj h
    exact mj_go_ret (v := some (.long s.1)) (Nat.le_of_ble_eq_true rfl) (mj_retL (mj_dt dt_X9_lostBy 28 rfl) rfl)
  · rw [if_neg b1] at h
    refine mj_go_lload_n (k := 2) (x := s.1) rfl (mj_dt dt_X9_lostBy 13 rfl) ?_
    refine mj_go_aload_n (k := 0) (x := 95) rfl (mj_dt dt_X9_lostBy 14 rfl) ?_
    refine ml_getR (c := 9) (k := 41) (q := 121) fd_9_41 rf_95_41 (Or.inl fl_X9_102) ho_95 (mj_dt dt_X9_lostBy 15 rfl) ?_
    refine mj_go_iload (i := 4) (x := s.2) rfl (mj_dt dt_X9_lostBy 16 rfl) ?_
    obtain ⟨c2, h⟩ := mj_ck_some h
    refine mk_lald c2 (mj_dt dt_X9_lostBy 17 rfl) ?_
    refine mj_go_aload_n (k := 0) (x := 95) rfl (mj_dt dt_X9_lostBy 18 rfl) ?_
    refine ml_getR (c := 9) (k := 42) (q := 122) fd_9_42 rf_95_42 (Or.inl fl_X9_105) ho_95 (mj_dt dt_X9_lostBy 19 rfl) ?_
    refine mj_go_iload (i := 4) (x := s.2) rfl (mj_dt dt_X9_lostBy 20 rfl) ?_
    obtain ⟨c3, h⟩ := mj_ck_some h
    refine mk_lald c3 (mj_dt dt_X9_lostBy 21 rfl) ?_
    refine mj_go_lmul (mj_dt dt_X9_lostBy 22 rfl) ?_
    refine mj_go_ladd (mj_dt dt_X9_lostBy 23 rfl) ?_
    obtain ⟨x4, ex4, h⟩ := mj_mw_some h
    refine ml_eql ex4 ?_
    refine mj_go_lstore_n (k := 2) (by decide) (mj_dt dt_X9_lostBy 24 rfl) ?_
    obtain ⟨x5, ex5, h⟩ := mj_mw_some h
    refine mj_go_iinc (i := 4) (x := s.2) (v := x5) rfl (by rw [ex5] <;> rfl) (by decide) (mj_dt dt_X9_lostBy 25 rfl) ?_
    refine mj_go_goto (tgt := 10) rfl (mj_dt dt_X9_lostBy 26 rfl) ?_
    refine mj_go_sub (lv' := [(0, .ref 95), (2, .long x4), (4, .int x5)]) (List.forall_mem_cons.mpr ⟨rfl, (List.forall_mem_cons.mpr ⟨rfl, (List.forall_mem_cons.mpr ⟨rfl, (fun _ h9 => absurd h9 List.not_mem_nil)⟩)⟩)⟩) ?_
    exact q_10 _ _ h
def f_X9_lostBy (N : Nat) (v1 : Int32) (m : mj_m) : Option (Int64 × mj_m) := (f_X9_oddsBy N v1 m).bind (fun r1 => mj_lp N (f_X9_lostBy_10 N r1) (0, 0))
theorem k_X9_lostBy {L : Nat} {xs : Nat → Int32} {δ N : Nat} {v1 : Int32} {m : mj_m} (hδ : 2 ≤ δ) {a : Int64 × mj_m} (h : f_X9_lostBy N v1 m = some a) : mj_Cl (mj_EX L xs) δ mY_X9_lostBy [.ref 95, .int v1] (mj_fin m) (some (.long a.1), (mj_fin a.2)) := by
  obtain ⟨δ, rfl⟩ : ∃ d, δ = d + 1 := ⟨δ - 1, by omega⟩
  have hδ : 1 ≤ δ := by omega
  refine mj_cl_of ok_X9_lostBy (Nat.le_of_ble_eq_true rfl) ?_
  unfold f_X9_lostBy at h
  refine mj_go_aload_n (k := 0) (x := 95) rfl (mj_dt dt_X9_lostBy 0 rfl) ?_
  refine mj_go_iload_n (k := 1) (x := v1) rfl (mj_dt dt_X9_lostBy 1 rfl) ?_
  obtain ⟨r1, er1, h⟩ := mj_bind_some h
  refine ml_callV (Y' := mY_X9_oddsBy) (as := [.int v1]) (rest := []) (c := 9) (v := none) (M1 := (mj_fin r1)) ho_95 rfl lm_X9_248 wc_X9_oddsBy pl_X9_oddsBy ok_X9_oddsBy rfl rfl (Nat.le_of_ble_eq_true rfl) (k_X9_oddsBy (by omega) er1) (mj_dt dt_X9_lostBy 2 rfl) ?_
  refine mj_go_lconst (v := 0) rfl (mj_dt dt_X9_lostBy 3 rfl) ?_
  refine mj_go_lstore_n (k := 2) (by decide) (mj_dt dt_X9_lostBy 4 rfl) ?_
  refine mj_go_iconst (v := 0) rfl (mj_dt dt_X9_lostBy 5 rfl) ?_
  refine mj_go_istore (i := 4) (by decide) (mj_dt dt_X9_lostBy 6 rfl) ?_
  refine mj_go_sub (lv' := [(0, .ref 95), (2, .long 0), (4, .int 0)]) (List.forall_mem_cons.mpr ⟨rfl, (List.forall_mem_cons.mpr ⟨rfl, (List.forall_mem_cons.mpr ⟨rfl, (fun _ h9 => absurd h9 List.not_mem_nil)⟩)⟩)⟩) ?_
  exact k_X9_lostBy_10 hδ N _ _ h
def f_X9_meanNow_37 (N : Nat) (k_4 : Int64 × Int32 × mj_m → Option (Int64 × mj_m)) (v1 : Int64) (v3 : Int32) (m : mj_m) : Option (Int64 × mj_m) := mj_mw (v3 + 1) (fun x1 => k_4 (v1, x1, m))
theorem k_X9_meanNow_37 {L : Nat} {xs : Nat → Int32} {δ N : Nat} {v1 : Int64} {v3 : Int32} {m : mj_m} {k_4 : Int64 × Int32 × mj_m → Option (Int64 × mj_m)} (q_4 : ∀ (s_ : Int64 × Int32 × mj_m) (a_ : Int64 × mj_m), k_4 s_ = some a_ → mj_Go (mj_EX L xs) (δ + 1) mY_X9_meanNow 4 [(0, .ref 95), (1, .long s_.1), (3, .int s_.2.1)] [] (mj_fin s_.2.2) (some (.long a_.1), (mj_fin a_.2))) (hδ : 2 ≤ δ) {a : Int64 × mj_m} (h : f_X9_meanNow_37 N k_4 v1 v3 m = some a) : mj_Go (mj_EX L xs) (δ + 1) mY_X9_meanNow 37 [(0, .ref 95), (1, .long v1), (3, .int v3)] [] (mj_fin m) (some (.long a.1), (mj_fin a.2)) := by
  unfold f_X9_meanNow_37 at h
  obtain ⟨x1, ex1, h⟩ := mj_mw_some h
  refine mj_go_iinc (i := 3) (x := v3) (v := x1) rfl (by rw [ex1] <;> rfl) (by decide) (mj_dt dt_X9_meanNow 25 rfl) ?_
  refine mj_go_goto (tgt := 4) rfl (mj_dt dt_X9_meanNow 26 rfl) ?_
  refine mj_go_sub (lv' := [(0, .ref 95), (1, .long v1), (3, .int x1)]) (List.forall_mem_cons.mpr ⟨rfl, (List.forall_mem_cons.mpr ⟨rfl, (List.forall_mem_cons.mpr ⟨rfl, (fun _ h9 => absurd h9 List.not_mem_nil)⟩)⟩)⟩) ?_
  exact q_4 _ _ h
def f_X9_meanNow_4 (N : Nat) (k_4 : Int64 × Int32 × mj_m → Option (Int64 × mj_m)) (s : Int64 × Int32 × mj_m) : Option (Int64 × mj_m) := if (s.2.2.1 95 2) ≤ s.2.1 then (some (s.1, s.2.2)) else (mj_ck (mj_b 0 99 s.2.1) ( if (s.2.2.1 99 s.2.1.toNatClampNeg) ≤ 0 then f_X9_meanNow_37 N k_4 s.1 s.2.1 s.2.2 else ((f_X9_lostBy N s.2.1 s.2.2).bind (fun r4 => mj_mw (s.1 + (((s.2.2.1 99 s.2.1.toNatClampNeg).toInt64) * r4.1)) (fun x5 => f_X9_meanNow_37 N k_4 x5 s.2.1 r4.2)))))
theorem k_X9_meanNow_4 {L : Nat} {xs : Nat → Int32} {δ N : Nat} (hδ : 2 ≤ δ) : ∀ (n : Nat) (s : Int64 × Int32 × mj_m) (a : Int64 × mj_m), mj_lp n (f_X9_meanNow_4 N) s = some a → mj_Go (mj_EX L xs) (δ + 1) mY_X9_meanNow 4 [(0, .ref 95), (1, .long s.1), (3, .int s.2.1)] [] (mj_fin s.2.2) (some (.long a.1), (mj_fin a.2)) := by
  refine mj_lp_sound (fun k_4 s a q_4 h => ?_)
  unfold f_X9_meanNow_4 at h
  refine mj_go_iload_n (k := 3) (x := s.2.1) rfl (mj_dt dt_X9_meanNow 4 rfl) ?_
  refine mj_go_aload_n (k := 0) (x := 95) rfl (mj_dt dt_X9_meanNow 5 rfl) ?_
  refine mk_getI (c := 9) (k := 2) (Or.inl fd_9_2) (Or.inl fl_X9_127) ho_95 (mj_dt dt_X9_meanNow 6 rfl) ?_
  refine mj_go_icmp_ge (tgt := 43) rfl (mj_dt dt_X9_meanNow 7 rfl) (fun b1 => ?_) (fun b1 => ?_)
  · rw [if_pos b1] at h
    refine mj_go_lload_n (k := 1) (x := s.1) rfl (mj_dt dt_X9_meanNow 27 rfl) ?_
    obtain rfl := Option.some.inj h
    exact mj_go_ret (v := some (.long s.1)) (Nat.le_of_ble_eq_true rfl) (mj_retL (mj_dt dt_X9_meanNow 28 rfl) rfl)
  · rw [if_neg b1] at h
    refine mj_go_aload_n (k := 0) (x := 95) rfl (mj_dt dt_X9_meanNow 8 rfl) ?_
    refine ml_getR (c := 9) (k := 14) (q := 99) fd_9_14 rf_95_14 (Or.inl fl_X9_35) ho_95 (mj_dt dt_X9_meanNow 9 rfl) ?_
    refine mj_go_iload_n (k := 3) (x := s.2.1) rfl (mj_dt dt_X9_meanNow 10 rfl) ?_
    obtain ⟨c2, h⟩ := mj_ck_some h
    refine mk_iald c2 (mj_dt dt_X9_meanNow 11 rfl) ?_
    refine mj_go_if_le (tgt := 37) rfl (mj_dt dt_X9_meanNow 12 rfl) (fun b3 => ?_) (fun b3 => ?_)
    · rw [if_pos b3] at h
      refine mj_go_sub (lv' := [(0, .ref 95), (1, .long s.1), (3, .int s.2.1)]) (List.forall_mem_cons.mpr ⟨rfl, (List.forall_mem_cons.mpr ⟨rfl, (List.forall_mem_cons.mpr ⟨rfl, (fun _ h9 => absurd h9 List.not_mem_nil)⟩)⟩)⟩) ?_
      exact k_X9_meanNow_37 q_4 hδ h
    · rw [if_neg b3] at h
      refine mj_go_lload_n (k := 1) (x := s.1) rfl (mj_dt dt_X9_meanNow 13 rfl) ?_
      refine mj_go_aload_n (k := 0) (x := 95) rfl (mj_dt dt_X9_meanNow 14 rfl) ?_
      refine ml_getR (c := 9) (k := 14) (q := 99) fd_9_14 rf_95_14 (Or.inl fl_X9_35) ho_95 (mj_dt dt_X9_meanNow 15 rfl) ?_
      refine mj_go_iload_n (k := 3) (x := s.2.1) rfl (mj_dt dt_X9_meanNow 16 rfl) ?_
      refine mk_iald c2 (mj_dt dt_X9_meanNow 17 rfl) ?_
      refine mj_go_i2l (mj_dt dt_X9_meanNow 18 rfl) ?_
      refine mj_go_aload_n (k := 0) (x := 95) rfl (mj_dt dt_X9_meanNow 19 rfl) ?_
      refine mj_go_iload_n (k := 3) (x := s.2.1) rfl (mj_dt dt_X9_meanNow 20 rfl) ?_
      obtain ⟨r4, er4, h⟩ := mj_bind_some h
      refine ml_callV (Y' := mY_X9_lostBy) (as := [.int s.2.1]) (rest := [.long ((s.2.2.1 99 s.2.1.toNatClampNeg).toInt64), .long s.1]) (c := 9) (v := (some (.long r4.1))) (M1 := (mj_fin r4.2)) ho_95 rfl lm_X9_255 wc_X9_lostBy pl_X9_lostBy ok_X9_lostBy rfl rfl (Nat.le_of_ble_eq_true rfl) (k_X9_lostBy (by omega) er4) (mj_dt dt_X9_meanNow 21 rfl) ?_
      refine mj_go_lmul (mj_dt dt_X9_meanNow 22 rfl) ?_
      refine mj_go_ladd (mj_dt dt_X9_meanNow 23 rfl) ?_
      obtain ⟨x5, ex5, h⟩ := mj_mw_some h
      refine ml_eql ex5 ?_
      refine mj_go_lstore_n (k := 1) (by decide) (mj_dt dt_X9_meanNow 24 rfl) ?_
      refine mj_go_sub (lv' := [(0, .ref 95), (1, .long x5), (3, .int s.2.1)]) (List.forall_mem_cons.mpr ⟨rfl, (List.forall_mem_cons.mpr ⟨rfl, (List.forall_mem_cons.mpr ⟨rfl, (fun _ h9 => absurd h9 List.not_mem_nil)⟩)⟩)⟩) ?_
      exact k_X9_meanNow_37 q_4 hδ h
def f_X9_meanNow (N : Nat) (m : mj_m) : Option (Int64 × mj_m) := mj_lp N (f_X9_meanNow_4 N) (0, 0, m)
theorem k_X9_meanNow {L : Nat} {xs : Nat → Int32} {δ N : Nat} {m : mj_m} (hδ : 3 ≤ δ) {a : Int64 × mj_m} (h : f_X9_meanNow N m = some a) : mj_Cl (mj_EX L xs) δ mY_X9_meanNow [.ref 95] (mj_fin m) (some (.long a.1), (mj_fin a.2)) := by
  obtain ⟨δ, rfl⟩ : ∃ d, δ = d + 1 := ⟨δ - 1, by omega⟩
  have hδ : 2 ≤ δ := by omega
  refine mj_cl_of ok_X9_meanNow (Nat.le_of_ble_eq_true rfl) ?_
  unfold f_X9_meanNow at h
  refine mj_go_lconst (v := 0) rfl (mj_dt dt_X9_meanNow 0 rfl) ?_
  refine mj_go_lstore_n (k := 1) (by decide) (mj_dt dt_X9_meanNow 1 rfl) ?_
  refine mj_go_iconst (v := 0) rfl (mj_dt dt_X9_meanNow 2 rfl) ?_
  refine mj_go_istore_n (k := 3) (by decide) (mj_dt dt_X9_meanNow 3 rfl) ?_
  refine mj_go_sub (lv' := [(0, .ref 95), (1, .long 0), (3, .int 0)]) (List.forall_mem_cons.mpr ⟨rfl, (List.forall_mem_cons.mpr ⟨rfl, (List.forall_mem_cons.mpr ⟨rfl, (fun _ h9 => absurd h9 List.not_mem_nil)⟩)⟩)⟩) ?_
  exact k_X9_meanNow_4 hδ N _ _ h
def f_X9_rests_45 (N : Nat) (k_2 : Int32 × mj_m → Option (mj_m)) (v1 : Int32) (m : mj_m) : Option (mj_m) := mj_mw (v1 + 1) (fun x1 => k_2 (x1, m))
theorem k_X9_rests_45 {L : Nat} {xs : Nat → Int32} {δ N : Nat} {v1 : Int32} {m : mj_m} {k_2 : Int32 × mj_m → Option (mj_m)} (q_2 : ∀ (s_ : Int32 × mj_m) (a_ : mj_m), k_2 s_ = some a_ → mj_Go (mj_EX L xs) (δ + 1) mY_X9_rests 2 [(0, .ref 95), (1, .int s_.1)] [] (mj_fin s_.2) (none, (mj_fin a_))) (hδ : 0 ≤ δ) {a : mj_m} (h : f_X9_rests_45 N k_2 v1 m = some a) : mj_Go (mj_EX L xs) (δ + 1) mY_X9_rests 45 [(0, .ref 95), (1, .int v1)] [] (mj_fin m) (none, (mj_fin a)) := by
  unfold f_X9_rests_45 at h
  obtain ⟨x1, ex1, h⟩ := mj_mw_some h
  refine mj_go_iinc (i := 1) (x := v1) (v := x1) rfl (by rw [ex1] <;> rfl) (by decide) (mj_dt dt_X9_rests 27 rfl) ?_
  refine mj_go_goto (tgt := 2) rfl (mj_dt dt_X9_rests 28 rfl) ?_
  refine mj_go_sub (lv' := [(0, .ref 95), (1, .int x1)]) (List.forall_mem_cons.mpr ⟨rfl, (List.forall_mem_cons.mpr ⟨rfl, (fun _ h9 => absurd h9 List.not_mem_nil)⟩)⟩) ?_
  exact q_2 _ _ h
def f_X9_rests_2 (N : Nat) (k_2 : Int32 × mj_m → Option (mj_m)) (s : Int32 × mj_m) : Option (mj_m) := if (s.2.1 95 1) ≤ s.1 then (some s.2) else (mj_ck (mj_b 0 108 s.1) ( if 2 ≤ (s.2.1 108 s.1.toNatClampNeg) then f_X9_rests_45 N k_2 s.1 s.2 else ((f_X9_isIn N s.1 s.2).bind (fun r4 => if r4 = 0 then (mj_mw (mj_wI s.2 95 44 ((s.2.1 95 44) + 1)) (fun m6 => mj_ck (mj_b 0 123 (s.2.1 95 44)) ( mj_mw (mj_wI m6 123 ((s.2.1 95 44).toNatClampNeg) s.1) (fun m8 => f_X9_rests_45 N k_2 s.1 m8)))) else f_X9_rests_45 N k_2 s.1 s.2))))
theorem k_X9_rests_2 {L : Nat} {xs : Nat → Int32} {δ N : Nat} (hδ : 0 ≤ δ) : ∀ (n : Nat) (s : Int32 × mj_m) (a : mj_m), mj_lp n (f_X9_rests_2 N) s = some a → mj_Go (mj_EX L xs) (δ + 1) mY_X9_rests 2 [(0, .ref 95), (1, .int s.1)] [] (mj_fin s.2) (none, (mj_fin a)) := by
  refine mj_lp_sound (fun k_2 s a q_2 h => ?_)
  unfold f_X9_rests_2 at h
  refine mj_go_iload_n (k := 1) (x := s.1) rfl (mj_dt dt_X9_rests 2 rfl) ?_
  refine mj_go_aload_n (k := 0) (x := 95) rfl (mj_dt dt_X9_rests 3 rfl) ?_
  refine mk_getI (c := 9) (k := 1) (Or.inl fd_9_1) (Or.inl fl_X9_124) ho_95 (mj_dt dt_X9_rests 4 rfl) ?_
  refine mj_go_icmp_ge (tgt := 51) rfl (mj_dt dt_X9_rests 5 rfl) (fun b1 => ?_) (fun b1 => ?_)
  · rw [if_pos b1] at h
    obtain rfl := Option.some.inj h
    exact mj_go_ret (v := none) (Nat.le_of_ble_eq_true rfl) (mj_retV (mj_dt dt_X9_rests 29 rfl) rfl)
  · rw [if_neg b1] at h
    refine mj_go_aload_n (k := 0) (x := 95) rfl (mj_dt dt_X9_rests 6 rfl) ?_
    refine ml_getR (c := 9) (k := 23) (q := 108) fd_9_23 rf_95_23 (Or.inl fl_X9_62) ho_95 (mj_dt dt_X9_rests 7 rfl) ?_
    refine mj_go_iload_n (k := 1) (x := s.1) rfl (mj_dt dt_X9_rests 8 rfl) ?_
    obtain ⟨c2, h⟩ := mj_ck_some h
    refine mk_iald c2 (mj_dt dt_X9_rests 9 rfl) ?_
    refine mj_go_iconst (v := 2) rfl (mj_dt dt_X9_rests 10 rfl) ?_
    refine mj_go_icmp_ge (tgt := 45) rfl (mj_dt dt_X9_rests 11 rfl) (fun b3 => ?_) (fun b3 => ?_)
    · rw [if_pos b3] at h
      refine mj_go_sub (lv' := [(0, .ref 95), (1, .int s.1)]) (List.forall_mem_cons.mpr ⟨rfl, (List.forall_mem_cons.mpr ⟨rfl, (fun _ h9 => absurd h9 List.not_mem_nil)⟩)⟩) ?_
      exact k_X9_rests_45 q_2 hδ h
    · rw [if_neg b3] at h
      refine mj_go_aload_n (k := 0) (x := 95) rfl (mj_dt dt_X9_rests 12 rfl) ?_
      refine mj_go_iload_n (k := 1) (x := s.1) rfl (mj_dt dt_X9_rests 13 rfl) ?_
      obtain ⟨r4, er4, h⟩ := mj_bind_some h
      refine ml_callV (Y' := mY_X9_isIn) (as := [.int s.1]) (rest := []) (c := 9) (v := (some (.int r4))) (M1 := (mj_fin s.2)) ho_95 rfl lm_X9_272 wc_X9_isIn pl_X9_isIn ok_X9_isIn rfl rfl (Nat.le_of_ble_eq_true rfl) (k_X9_isIn (by omega) er4) (mj_dt dt_X9_rests 14 rfl) ?_
      refine mj_go_if_ne (tgt := 45) rfl (mj_dt dt_X9_rests 15 rfl) (fun b5 => ?_) (fun b5 => ?_)
      · rw [if_neg b5] at h
        refine mj_go_sub (lv' := [(0, .ref 95), (1, .int s.1)]) (List.forall_mem_cons.mpr ⟨rfl, (List.forall_mem_cons.mpr ⟨rfl, (fun _ h9 => absurd h9 List.not_mem_nil)⟩)⟩) ?_
        exact k_X9_rests_45 q_2 hδ h
      · rw [if_pos b5] at h
        refine mj_go_aload_n (k := 0) (x := 95) rfl (mj_dt dt_X9_rests 16 rfl) ?_
        refine ml_getR (c := 9) (k := 43) (q := 123) fd_9_43 rf_95_43 (Or.inl fl_X9_108) ho_95 (mj_dt dt_X9_rests 17 rfl) ?_
        refine mj_go_aload_n (k := 0) (x := 95) rfl (mj_dt dt_X9_rests 18 rfl) ?_
        refine mj_go_dup rfl (mj_dt dt_X9_rests 19 rfl) ?_
        refine mk_getI (c := 9) (k := 44) (Or.inl fd_9_44) (Or.inl fl_X9_146) ho_95 (mj_dt dt_X9_rests 20 rfl) ?_
        refine mj_go_dup_x1 rfl rfl (mj_dt dt_X9_rests 21 rfl) ?_
        refine mj_go_iconst (v := 1) rfl (mj_dt dt_X9_rests 22 rfl) ?_
        refine mj_go_iadd (mj_dt dt_X9_rests 23 rfl) ?_
        obtain ⟨m6, em6, h⟩ := mj_mw_some h
        refine ml_putI (c := 9) (k := 44) fd_9_44 rfl fl_X9_146 ho_95 (mj_dt dt_X9_rests 24 rfl) ?_
        refine ml_eqm (M1 := (mj_fin m6)) (by rw [em6] <;> rfl) ?_
        refine mj_go_iload_n (k := 1) (x := s.1) rfl (mj_dt dt_X9_rests 25 rfl) ?_
        obtain ⟨c7, h⟩ := mj_ck_some h
        obtain ⟨m8, em8, h⟩ := mj_mw_some h
        refine ml_iast c7 (mj_dt dt_X9_rests 26 rfl) ?_
        refine ml_eqm (M1 := (mj_fin m8)) (by rw [em8] <;> rfl) ?_
        refine mj_go_sub (lv' := [(0, .ref 95), (1, .int s.1)]) (List.forall_mem_cons.mpr ⟨rfl, (List.forall_mem_cons.mpr ⟨rfl, (fun _ h9 => absurd h9 List.not_mem_nil)⟩)⟩) ?_
        exact k_X9_rests_45 q_2 hδ h
def f_X9_rests (N : Nat) (m : mj_m) : Option (mj_m) := mj_lp N (f_X9_rests_2 N) (0, m)
theorem k_X9_rests {L : Nat} {xs : Nat → Int32} {δ N : Nat} {m : mj_m} (hδ : 1 ≤ δ) {a : mj_m} (h : f_X9_rests N m = some a) : mj_Cl (mj_EX L xs) δ mY_X9_rests [.ref 95] (mj_fin m) (none, (mj_fin a)) := by
  obtain ⟨δ, rfl⟩ : ∃ d, δ = d + 1 := ⟨δ - 1, by omega⟩
  have hδ : 0 ≤ δ := by omega
  refine mj_cl_of ok_X9_rests (Nat.le_of_ble_eq_true rfl) ?_
  unfold f_X9_rests at h
  refine mj_go_iconst (v := 0) rfl (mj_dt dt_X9_rests 0 rfl) ?_
  refine mj_go_istore_n (k := 1) (by decide) (mj_dt dt_X9_rests 1 rfl) ?_
  refine mj_go_sub (lv' := [(0, .ref 95), (1, .int 0)]) (List.forall_mem_cons.mpr ⟨rfl, (List.forall_mem_cons.mpr ⟨rfl, (fun _ h9 => absurd h9 List.not_mem_nil)⟩)⟩) ?_
  exact k_X9_rests_2 hδ N _ _ h
def f_X9_saves_189 (N : Nat) (k_162 : Int32 × mj_m → Option (mj_m)) (v2 : Int32) (v3 : Int32) (m : mj_m) : Option (mj_m) := mj_mw (v3 + 1) (fun x1 => k_162 (x1, m))
theorem k_X9_saves_189 {L : Nat} {xs : Nat → Int32} {δ N : Nat} {v2 : Int32} {v3 : Int32} {m : mj_m} {k_162 : Int32 × mj_m → Option (mj_m)} (q_162 : ∀ (s_ : Int32 × mj_m) (a_ : mj_m), k_162 s_ = some a_ → mj_Go (mj_EX L xs) (δ + 1) mY_X9_saves 162 [(0, .ref 95), (2, .int v2), (3, .int s_.1)] [] (mj_fin s_.2) (none, (mj_fin a_))) (hδ : 3 ≤ δ) {a : mj_m} (h : f_X9_saves_189 N k_162 v2 v3 m = some a) : mj_Go (mj_EX L xs) (δ + 1) mY_X9_saves 189 [(0, .ref 95), (2, .int v2), (3, .int v3)] [] (mj_fin m) (none, (mj_fin a)) := by
  unfold f_X9_saves_189 at h
  obtain ⟨x1, ex1, h⟩ := mj_mw_some h
  refine mj_go_iinc (i := 3) (x := v3) (v := x1) rfl (by rw [ex1] <;> rfl) (by decide) (mj_dt dt_X9_saves 117 rfl) ?_
  refine mj_go_goto (tgt := 162) rfl (mj_dt dt_X9_saves 118 rfl) ?_
  refine mj_go_sub (lv' := [(0, .ref 95), (2, .int v2), (3, .int x1)]) (List.forall_mem_cons.mpr ⟨rfl, (List.forall_mem_cons.mpr ⟨rfl, (List.forall_mem_cons.mpr ⟨rfl, (fun _ h9 => absurd h9 List.not_mem_nil)⟩)⟩)⟩) ?_
  exact q_162 _ _ h
def f_X9_saves_162 (N : Nat) (v2 : Int32) (k_162 : Int32 × mj_m → Option (mj_m)) (s : Int32 × mj_m) : Option (mj_m) := if (s.2.1 95 1) ≤ s.1 then ((f_X9_rests N s.2).bind (fun r2 => some r2)) else (if ((v2 >>> (s.1 &&& 31)) &&& 1) = 1 then (mj_ck (mj_b 0 108 s.1) ( mj_mw (mj_wI s.2 108 (s.1.toNatClampNeg) ((s.2.1 108 s.1.toNatClampNeg) - 1)) (fun m4 => f_X9_saves_189 N k_162 v2 s.1 m4))) else f_X9_saves_189 N k_162 v2 s.1 s.2)
theorem k_X9_saves_162 {L : Nat} {xs : Nat → Int32} {δ N : Nat} {v2 : Int32} (hδ : 3 ≤ δ) : ∀ (n : Nat) (s : Int32 × mj_m) (a : mj_m), mj_lp n (f_X9_saves_162 N v2) s = some a → mj_Go (mj_EX L xs) (δ + 1) mY_X9_saves 162 [(0, .ref 95), (2, .int v2), (3, .int s.1)] [] (mj_fin s.2) (none, (mj_fin a)) := by
  refine mj_lp_sound (fun k_162 s a q_162 h => ?_)
  unfold f_X9_saves_162 at h
  refine mj_go_iload_n (k := 3) (x := s.1) rfl (mj_dt dt_X9_saves 98 rfl) ?_
  refine mj_go_aload_n (k := 0) (x := 95) rfl (mj_dt dt_X9_saves 99 rfl) ?_
  refine mk_getI (c := 9) (k := 1) (Or.inl fd_9_1) (Or.inl fl_X9_124) ho_95 (mj_dt dt_X9_saves 100 rfl) ?_
  refine mj_go_icmp_ge (tgt := 195) rfl (mj_dt dt_X9_saves 101 rfl) (fun b1 => ?_) (fun b1 => ?_)
  · rw [if_pos b1] at h
    refine mj_go_aload_n (k := 0) (x := 95) rfl (mj_dt dt_X9_saves 119 rfl) ?_
    obtain ⟨r2, er2, h⟩ := mj_bind_some h
    refine ml_callV (Y' := mY_X9_rests) (as := []) (rest := []) (c := 9) (v := none) (M1 := (mj_fin r2)) ho_95 rfl lm_X9_275 wc_X9_rests pl_X9_rests ok_X9_rests rfl rfl (Nat.le_of_ble_eq_true rfl) (k_X9_rests (by omega) er2) (mj_dt dt_X9_saves 120 rfl) ?_
    obtain rfl := Option.some.inj h
    exact mj_go_ret (v := none) (Nat.le_of_ble_eq_true rfl) (mj_retV (mj_dt dt_X9_saves 121 rfl) rfl)
  · rw [if_neg b1] at h
    refine mj_go_iload_n (k := 2) (x := v2) rfl (mj_dt dt_X9_saves 102 rfl) ?_
    refine mj_go_iload_n (k := 3) (x := s.1) rfl (mj_dt dt_X9_saves 103 rfl) ?_
    refine mj_go_ishr (mj_dt dt_X9_saves 104 rfl) ?_
    refine mj_go_iconst (v := 1) rfl (mj_dt dt_X9_saves 105 rfl) ?_
    refine mj_go_iand (mj_dt dt_X9_saves 106 rfl) ?_
    refine mj_go_iconst (v := 1) rfl (mj_dt dt_X9_saves 107 rfl) ?_
    refine mj_go_icmp_ne (tgt := 189) rfl (mj_dt dt_X9_saves 108 rfl) (fun b2 => ?_) (fun b2 => ?_)
    · rw [if_neg b2] at h
      refine mj_go_sub (lv' := [(0, .ref 95), (2, .int v2), (3, .int s.1)]) (List.forall_mem_cons.mpr ⟨rfl, (List.forall_mem_cons.mpr ⟨rfl, (List.forall_mem_cons.mpr ⟨rfl, (fun _ h9 => absurd h9 List.not_mem_nil)⟩)⟩)⟩) ?_
      exact k_X9_saves_189 q_162 hδ h
    · rw [if_pos b2] at h
      refine mj_go_aload_n (k := 0) (x := 95) rfl (mj_dt dt_X9_saves 109 rfl) ?_
      refine ml_getR (c := 9) (k := 23) (q := 108) fd_9_23 rf_95_23 (Or.inl fl_X9_62) ho_95 (mj_dt dt_X9_saves 110 rfl) ?_
      refine mj_go_iload_n (k := 3) (x := s.1) rfl (mj_dt dt_X9_saves 111 rfl) ?_
      refine mj_go_dup2_11 rfl rfl (mj_dt dt_X9_saves 112 rfl) ?_
      obtain ⟨c3, h⟩ := mj_ck_some h
      refine mk_iald c3 (mj_dt dt_X9_saves 113 rfl) ?_
      refine mj_go_iconst (v := 1) rfl (mj_dt dt_X9_saves 114 rfl) ?_
      refine mj_go_isub (mj_dt dt_X9_saves 115 rfl) ?_
      obtain ⟨m4, em4, h⟩ := mj_mw_some h
      refine ml_iast c3 (mj_dt dt_X9_saves 116 rfl) ?_
      refine ml_eqm (M1 := (mj_fin m4)) (by rw [em4] <;> rfl) ?_
      refine mj_go_sub (lv' := [(0, .ref 95), (2, .int v2), (3, .int s.1)]) (List.forall_mem_cons.mpr ⟨rfl, (List.forall_mem_cons.mpr ⟨rfl, (List.forall_mem_cons.mpr ⟨rfl, (fun _ h9 => absurd h9 List.not_mem_nil)⟩)⟩)⟩) ?_
      exact k_X9_saves_189 q_162 hδ h
def f_X9_saves_110 (N : Nat) (k_8 : Int32 × mj_m → Option (mj_m)) (k_16 : Int32 × Int64 × Int32 × mj_m → Option (mj_m)) (v1 : Int32) (v2 : Int32) (v3 : Int32) (v4 : Int64) (v6 : Int32) (m : mj_m) : Option (mj_m) := mj_mw (v6 + 1) (fun x1 => k_16 (v3, v4, x1, m))
theorem k_X9_saves_110 {L : Nat} {xs : Nat → Int32} {δ N : Nat} {v1 : Int32} {v2 : Int32} {v3 : Int32} {v4 : Int64} {v6 : Int32} {m : mj_m} {k_8 : Int32 × mj_m → Option (mj_m)} (q_8 : ∀ (s_ : Int32 × mj_m) (a_ : mj_m), k_8 s_ = some a_ → mj_Go (mj_EX L xs) (δ + 1) mY_X9_saves 8 [(0, .ref 95), (1, .int v1), (2, .int s_.1)] [] (mj_fin s_.2) (none, (mj_fin a_))) {k_16 : Int32 × Int64 × Int32 × mj_m → Option (mj_m)} (q_16 : ∀ (s_ : Int32 × Int64 × Int32 × mj_m) (a_ : mj_m), k_16 s_ = some a_ → mj_Go (mj_EX L xs) (δ + 1) mY_X9_saves 16 [(0, .ref 95), (1, .int v1), (2, .int v2), (3, .int s_.1), (4, .long s_.2.1), (6, .int s_.2.2.1)] [] (mj_fin s_.2.2.2) (none, (mj_fin a_))) (hδ : 3 ≤ δ) {a : mj_m} (h : f_X9_saves_110 N k_8 k_16 v1 v2 v3 v4 v6 m = some a) : mj_Go (mj_EX L xs) (δ + 1) mY_X9_saves 110 [(0, .ref 95), (1, .int v1), (2, .int v2), (3, .int v3), (4, .long v4), (6, .int v6)] [] (mj_fin m) (none, (mj_fin a)) := by
  unfold f_X9_saves_110 at h
  obtain ⟨x1, ex1, h⟩ := mj_mw_some h
  refine mj_go_iinc (i := 6) (x := v6) (v := x1) rfl (by rw [ex1] <;> rfl) (by decide) (mj_dt dt_X9_saves 64 rfl) ?_
  refine mj_go_goto (tgt := 16) rfl (mj_dt dt_X9_saves 65 rfl) ?_
  refine mj_go_sub (lv' := [(0, .ref 95), (1, .int v1), (2, .int v2), (3, .int v3), (4, .long v4), (6, .int x1)]) (List.forall_mem_cons.mpr ⟨rfl, (List.forall_mem_cons.mpr ⟨rfl, (List.forall_mem_cons.mpr ⟨rfl, (List.forall_mem_cons.mpr ⟨rfl, (List.forall_mem_cons.mpr ⟨rfl, (List.forall_mem_cons.mpr ⟨rfl, (fun _ h9 => absurd h9 List.not_mem_nil)⟩)⟩)⟩)⟩)⟩)⟩) ?_
  exact q_16 _ _ h
def f_X9_saves_103 (N : Nat) (k_8 : Int32 × mj_m → Option (mj_m)) (k_16 : Int32 × Int64 × Int32 × mj_m → Option (mj_m)) (v1 : Int32) (v2 : Int32) (v6 : Int32) (v7 : Int64) (m : mj_m) : Option (mj_m) := f_X9_saves_110 N k_8 k_16 v1 v2 v6 v7 v6 m
theorem k_X9_saves_103 {L : Nat} {xs : Nat → Int32} {δ N : Nat} {v1 : Int32} {v2 : Int32} {v6 : Int32} {v7 : Int64} {m : mj_m} {k_8 : Int32 × mj_m → Option (mj_m)} (q_8 : ∀ (s_ : Int32 × mj_m) (a_ : mj_m), k_8 s_ = some a_ → mj_Go (mj_EX L xs) (δ + 1) mY_X9_saves 8 [(0, .ref 95), (1, .int v1), (2, .int s_.1)] [] (mj_fin s_.2) (none, (mj_fin a_))) {k_16 : Int32 × Int64 × Int32 × mj_m → Option (mj_m)} (q_16 : ∀ (s_ : Int32 × Int64 × Int32 × mj_m) (a_ : mj_m), k_16 s_ = some a_ → mj_Go (mj_EX L xs) (δ + 1) mY_X9_saves 16 [(0, .ref 95), (1, .int v1), (2, .int v2), (3, .int s_.1), (4, .long s_.2.1), (6, .int s_.2.2.1)] [] (mj_fin s_.2.2.2) (none, (mj_fin a_))) (hδ : 3 ≤ δ) {a : mj_m} (h : f_X9_saves_103 N k_8 k_16 v1 v2 v6 v7 m = some a) : mj_Go (mj_EX L xs) (δ + 1) mY_X9_saves 103 [(0, .ref 95), (1, .int v1), (2, .int v2), (6, .int v6), (7, .long v7)] [] (mj_fin m) (none, (mj_fin a)) := by
  unfold f_X9_saves_103 at h
  refine mj_go_iload (i := 6) (x := v6) rfl (mj_dt dt_X9_saves 60 rfl) ?_
  refine mj_go_istore_n (k := 3) (by decide) (mj_dt dt_X9_saves 61 rfl) ?_
  refine mj_go_lload (i := 7) (x := v7) rfl (mj_dt dt_X9_saves 62 rfl) ?_
  refine mj_go_lstore (i := 4) (by decide) (mj_dt dt_X9_saves 63 rfl) ?_
  refine mj_go_sub (lv' := [(0, .ref 95), (1, .int v1), (2, .int v2), (3, .int v6), (4, .long v7), (6, .int v6)]) (List.forall_mem_cons.mpr ⟨rfl, (List.forall_mem_cons.mpr ⟨rfl, (List.forall_mem_cons.mpr ⟨rfl, (List.forall_mem_cons.mpr ⟨rfl, (List.forall_mem_cons.mpr ⟨rfl, (List.forall_mem_cons.mpr ⟨rfl, (fun _ h9 => absurd h9 List.not_mem_nil)⟩)⟩)⟩)⟩)⟩)⟩) ?_
  exact k_X9_saves_110 q_8 q_16 hδ h
def f_X9_saves_16 (N : Nat) (k_8 : Int32 × mj_m → Option (mj_m)) (v1 : Int32) (v2 : Int32) (k_16 : Int32 × Int64 × Int32 × mj_m → Option (mj_m)) (s : Int32 × Int64 × Int32 × mj_m) : Option (mj_m) := if (s.2.2.2.1 95 1) ≤ s.2.2.1 then (if s.1 = (-1 : Int32) then ((mj_lp N (f_X9_saves_162 N v2) (0, s.2.2.2))) else (mj_mw (mj_wI s.2.2.2 95 44 ((s.2.2.2.1 95 44) + 1)) (fun m3 => mj_ck (mj_b 0 123 (s.2.2.2.1 95 44)) ( mj_mw (mj_wI m3 123 ((s.2.2.2.1 95 44).toNatClampNeg) s.1) (fun m5 => mj_ck (mj_b 0 108 s.1) ( mj_mw (mj_wI m5 108 (s.1.toNatClampNeg) ((m5.1 108 s.1.toNatClampNeg) + 1)) (fun m7 => mj_mw (v2 ||| (1 <<< (s.1 &&& 31))) (fun x8 => k_8 (x8, m7))))))))) else (mj_ck (mj_b 0 108 s.2.2.1) ( if (s.2.2.2.1 108 s.2.2.1.toNatClampNeg) = 2 then f_X9_saves_110 N k_8 k_16 v1 v2 s.1 s.2.1 s.2.2.1 s.2.2.2 else (mj_ck (mj_b 0 105 s.2.2.1) ( if v1 < (s.2.2.2.1 105 s.2.2.1.toNatClampNeg) then f_X9_saves_110 N k_8 k_16 v1 v2 s.1 s.2.1 s.2.2.1 s.2.2.2 else ((f_X9_isIn N s.2.2.1 s.2.2.2).bind (fun r6 => if r6 = 0 then (mj_mw (mj_wI s.2.2.2 108 (s.2.2.1.toNatClampNeg) ((s.2.2.2.1 108 s.2.2.1.toNatClampNeg) + 1)) (fun m8 => (f_X9_meanNow N m8).bind (fun r9 => mj_mw (mj_wI r9.2 108 (s.2.2.1.toNatClampNeg) ((r9.2.1 108 s.2.2.1.toNatClampNeg) - 1)) (fun m10 => if s.1 = (-1 : Int32) then f_X9_saves_103 N k_8 k_16 v1 v2 s.2.2.1 r9.1 m10 else (if (lg_cmp r9.1 s.2.1) < 0 then f_X9_saves_103 N k_8 k_16 v1 v2 s.2.2.1 r9.1 m10 else (f_X9_saves_110 N k_8 k_16 v1 v2 s.1 s.2.1 s.2.2.1 m10)))))) else (f_X9_saves_110 N k_8 k_16 v1 v2 s.1 s.2.1 s.2.2.1 s.2.2.2)))))))
theorem k_X9_saves_16 {L : Nat} {xs : Nat → Int32} {δ N : Nat} {v1 : Int32} {v2 : Int32} {k_8 : Int32 × mj_m → Option (mj_m)} (q_8 : ∀ (s_ : Int32 × mj_m) (a_ : mj_m), k_8 s_ = some a_ → mj_Go (mj_EX L xs) (δ + 1) mY_X9_saves 8 [(0, .ref 95), (1, .int v1), (2, .int s_.1)] [] (mj_fin s_.2) (none, (mj_fin a_))) (hδ : 3 ≤ δ) : ∀ (n : Nat) (s : Int32 × Int64 × Int32 × mj_m) (a : mj_m), mj_lp n (f_X9_saves_16 N k_8 v1 v2) s = some a → mj_Go (mj_EX L xs) (δ + 1) mY_X9_saves 16 [(0, .ref 95), (1, .int v1), (2, .int v2), (3, .int s.1), (4, .long s.2.1), (6, .int s.2.2.1)] [] (mj_fin s.2.2.2) (none, (mj_fin a)) := by
  refine mj_lp_sound (fun k_16 s a q_16 h => ?_)
  unfold f_X9_saves_16 at h
  refine mj_go_iload (i := 6) (x := s.2.2.1) rfl (mj_dt dt_X9_saves 12 rfl) ?_
  refine mj_go_aload_n (k := 0) (x := 95) rfl (mj_dt dt_X9_saves 13 rfl) ?_
  refine mk_getI (c := 9) (k := 1) (Or.inl fd_9_1) (Or.inl fl_X9_124) ho_95 (mj_dt dt_X9_saves 14 rfl) ?_
  refine mj_go_icmp_ge (tgt := 116) rfl (mj_dt dt_X9_saves 15 rfl) (fun b1 => ?_) (fun b1 => ?_)
  · rw [if_pos b1] at h
    refine mj_go_iload_n (k := 3) (x := s.1) rfl (mj_dt dt_X9_saves 66 rfl) ?_
    refine mj_go_iconst (v := -1) rfl (mj_dt dt_X9_saves 67 rfl) ?_
    refine mj_go_icmp_ne (tgt := 124) rfl (mj_dt dt_X9_saves 68 rfl) (fun b2 => ?_) (fun b2 => ?_)
    · rw [if_neg b2] at h
      refine mj_go_aload_n (k := 0) (x := 95) rfl (mj_dt dt_X9_saves 70 rfl) ?_
      refine ml_getR (c := 9) (k := 43) (q := 123) fd_9_43 rf_95_43 (Or.inl fl_X9_108) ho_95 (mj_dt dt_X9_saves 71 rfl) ?_
      refine mj_go_aload_n (k := 0) (x := 95) rfl (mj_dt dt_X9_saves 72 rfl) ?_
      refine mj_go_dup rfl (mj_dt dt_X9_saves 73 rfl) ?_
      refine mk_getI (c := 9) (k := 44) (Or.inl fd_9_44) (Or.inl fl_X9_146) ho_95 (mj_dt dt_X9_saves 74 rfl) ?_
      refine mj_go_dup_x1 rfl rfl (mj_dt dt_X9_saves 75 rfl) ?_
      refine mj_go_iconst (v := 1) rfl (mj_dt dt_X9_saves 76 rfl) ?_
      refine mj_go_iadd (mj_dt dt_X9_saves 77 rfl) ?_
      obtain ⟨m3, em3, h⟩ := mj_mw_some h
      refine ml_putI (c := 9) (k := 44) fd_9_44 rfl fl_X9_146 ho_95 (mj_dt dt_X9_saves 78 rfl) ?_
      refine ml_eqm (M1 := (mj_fin m3)) (by rw [em3] <;> rfl) ?_
      refine mj_go_iload_n (k := 3) (x := s.1) rfl (mj_dt dt_X9_saves 79 rfl) ?_
      obtain ⟨c4, h⟩ := mj_ck_some h
      obtain ⟨m5, em5, h⟩ := mj_mw_some h
      refine ml_iast c4 (mj_dt dt_X9_saves 80 rfl) ?_
      refine ml_eqm (M1 := (mj_fin m5)) (by rw [em5] <;> rfl) ?_
      refine mj_go_aload_n (k := 0) (x := 95) rfl (mj_dt dt_X9_saves 81 rfl) ?_
      refine ml_getR (c := 9) (k := 23) (q := 108) fd_9_23 rf_95_23 (Or.inl fl_X9_62) ho_95 (mj_dt dt_X9_saves 82 rfl) ?_
      refine mj_go_iload_n (k := 3) (x := s.1) rfl (mj_dt dt_X9_saves 83 rfl) ?_
      refine mj_go_dup2_11 rfl rfl (mj_dt dt_X9_saves 84 rfl) ?_
      obtain ⟨c6, h⟩ := mj_ck_some h
      refine mk_iald c6 (mj_dt dt_X9_saves 85 rfl) ?_
      refine mj_go_iconst (v := 1) rfl (mj_dt dt_X9_saves 86 rfl) ?_
      refine mj_go_iadd (mj_dt dt_X9_saves 87 rfl) ?_
      obtain ⟨m7, em7, h⟩ := mj_mw_some h
      refine ml_iast c6 (mj_dt dt_X9_saves 88 rfl) ?_
      refine ml_eqm (M1 := (mj_fin m7)) (by rw [em7] <;> rfl) ?_
      refine mj_go_iload_n (k := 2) (x := v2) rfl (mj_dt dt_X9_saves 89 rfl) ?_
      refine mj_go_iconst (v := 1) rfl (mj_dt dt_X9_saves 90 rfl) ?_
      refine mj_go_iload_n (k := 3) (x := s.1) rfl (mj_dt dt_X9_saves 91 rfl) ?_
      refine mj_go_ishl (mj_dt dt_X9_saves 92 rfl) ?_
      refine mj_go_ior (mj_dt dt_X9_saves 93 rfl) ?_
      obtain ⟨x8, ex8, h⟩ := mj_mw_some h
      refine ml_eqi ex8 ?_
      refine mj_go_istore_n (k := 2) (by decide) (mj_dt dt_X9_saves 94 rfl) ?_
      refine mj_go_goto (tgt := 8) rfl (mj_dt dt_X9_saves 95 rfl) ?_
      refine mj_go_sub (lv' := [(0, .ref 95), (1, .int v1), (2, .int x8)]) (List.forall_mem_cons.mpr ⟨rfl, (List.forall_mem_cons.mpr ⟨rfl, (List.forall_mem_cons.mpr ⟨rfl, (fun _ h9 => absurd h9 List.not_mem_nil)⟩)⟩)⟩) ?_
      exact q_8 _ _ h
    · rw [if_pos b2] at h
      refine mj_go_goto (tgt := 160) rfl (mj_dt dt_X9_saves 69 rfl) ?_
      refine mj_go_iconst (v := 0) rfl (mj_dt dt_X9_saves 96 rfl) ?_
      refine mj_go_istore_n (k := 3) (by decide) (mj_dt dt_X9_saves 97 rfl) ?_
      refine mj_go_sub (lv' := [(0, .ref 95), (2, .int v2), (3, .int 0)]) (List.forall_mem_cons.mpr ⟨rfl, (List.forall_mem_cons.mpr ⟨rfl, (List.forall_mem_cons.mpr ⟨rfl, (fun _ h9 => absurd h9 List.not_mem_nil)⟩)⟩)⟩) ?_
      exact k_X9_saves_162 hδ N _ _ h
  · rw [if_neg b1] at h
    refine mj_go_aload_n (k := 0) (x := 95) rfl (mj_dt dt_X9_saves 16 rfl) ?_
    refine ml_getR (c := 9) (k := 23) (q := 108) fd_9_23 rf_95_23 (Or.inl fl_X9_62) ho_95 (mj_dt dt_X9_saves 17 rfl) ?_
    refine mj_go_iload (i := 6) (x := s.2.2.1) rfl (mj_dt dt_X9_saves 18 rfl) ?_
    obtain ⟨c2, h⟩ := mj_ck_some h
    refine mk_iald c2 (mj_dt dt_X9_saves 19 rfl) ?_
    refine mj_go_iconst (v := 2) rfl (mj_dt dt_X9_saves 20 rfl) ?_
    refine mj_go_icmp_eq (tgt := 110) rfl (mj_dt dt_X9_saves 21 rfl) (fun b3 => ?_) (fun b3 => ?_)
    · rw [if_pos b3] at h
      refine mj_go_sub (lv' := [(0, .ref 95), (1, .int v1), (2, .int v2), (3, .int s.1), (4, .long s.2.1), (6, .int s.2.2.1)]) (List.forall_mem_cons.mpr ⟨rfl, (List.forall_mem_cons.mpr ⟨rfl, (List.forall_mem_cons.mpr ⟨rfl, (List.forall_mem_cons.mpr ⟨rfl, (List.forall_mem_cons.mpr ⟨rfl, (List.forall_mem_cons.mpr ⟨rfl, (fun _ h9 => absurd h9 List.not_mem_nil)⟩)⟩)⟩)⟩)⟩)⟩) ?_
      exact k_X9_saves_110 q_8 q_16 hδ h
    · rw [if_neg b3] at h
      refine mj_go_aload_n (k := 0) (x := 95) rfl (mj_dt dt_X9_saves 22 rfl) ?_
      refine ml_getR (c := 9) (k := 20) (q := 105) fd_9_20 rf_95_20 (Or.inl fl_X9_53) ho_95 (mj_dt dt_X9_saves 23 rfl) ?_
      refine mj_go_iload (i := 6) (x := s.2.2.1) rfl (mj_dt dt_X9_saves 24 rfl) ?_
      obtain ⟨c4, h⟩ := mj_ck_some h
      refine mk_iald c4 (mj_dt dt_X9_saves 25 rfl) ?_
      refine mj_go_iload_n (k := 1) (x := v1) rfl (mj_dt dt_X9_saves 26 rfl) ?_
      refine mj_go_icmp_gt (tgt := 110) rfl (mj_dt dt_X9_saves 27 rfl) (fun b5 => ?_) (fun b5 => ?_)
      · rw [if_pos b5] at h
        refine mj_go_sub (lv' := [(0, .ref 95), (1, .int v1), (2, .int v2), (3, .int s.1), (4, .long s.2.1), (6, .int s.2.2.1)]) (List.forall_mem_cons.mpr ⟨rfl, (List.forall_mem_cons.mpr ⟨rfl, (List.forall_mem_cons.mpr ⟨rfl, (List.forall_mem_cons.mpr ⟨rfl, (List.forall_mem_cons.mpr ⟨rfl, (List.forall_mem_cons.mpr ⟨rfl, (fun _ h9 => absurd h9 List.not_mem_nil)⟩)⟩)⟩)⟩)⟩)⟩) ?_
        exact k_X9_saves_110 q_8 q_16 hδ h
      · rw [if_neg b5] at h
        refine mj_go_aload_n (k := 0) (x := 95) rfl (mj_dt dt_X9_saves 28 rfl) ?_
        refine mj_go_iload (i := 6) (x := s.2.2.1) rfl (mj_dt dt_X9_saves 29 rfl) ?_
        obtain ⟨r6, er6, h⟩ := mj_bind_some h
        refine ml_callV (Y' := mY_X9_isIn) (as := [.int s.2.2.1]) (rest := []) (c := 9) (v := (some (.int r6))) (M1 := (mj_fin s.2.2.2)) ho_95 rfl lm_X9_272 wc_X9_isIn pl_X9_isIn ok_X9_isIn rfl rfl (Nat.le_of_ble_eq_true rfl) (k_X9_isIn (by omega) er6) (mj_dt dt_X9_saves 30 rfl) ?_
        refine mj_go_if_eq (tgt := 59) rfl (mj_dt dt_X9_saves 31 rfl) (fun b7 => ?_) (fun b7 => ?_)
        · rw [if_pos b7] at h
          refine mj_go_aload_n (k := 0) (x := 95) rfl (mj_dt dt_X9_saves 33 rfl) ?_
          refine ml_getR (c := 9) (k := 23) (q := 108) fd_9_23 rf_95_23 (Or.inl fl_X9_62) ho_95 (mj_dt dt_X9_saves 34 rfl) ?_
          refine mj_go_iload (i := 6) (x := s.2.2.1) rfl (mj_dt dt_X9_saves 35 rfl) ?_
          refine mj_go_dup2_11 rfl rfl (mj_dt dt_X9_saves 36 rfl) ?_
          refine mk_iald c2 (mj_dt dt_X9_saves 37 rfl) ?_
          refine mj_go_iconst (v := 1) rfl (mj_dt dt_X9_saves 38 rfl) ?_
          refine mj_go_iadd (mj_dt dt_X9_saves 39 rfl) ?_
          obtain ⟨m8, em8, h⟩ := mj_mw_some h
          refine ml_iast c2 (mj_dt dt_X9_saves 40 rfl) ?_
          refine ml_eqm (M1 := (mj_fin m8)) (by rw [em8] <;> rfl) ?_
          refine mj_go_aload_n (k := 0) (x := 95) rfl (mj_dt dt_X9_saves 41 rfl) ?_
          obtain ⟨r9, er9, h⟩ := mj_bind_some h
          refine ml_callV (Y' := mY_X9_meanNow) (as := []) (rest := []) (c := 9) (v := (some (.long r9.1))) (M1 := (mj_fin r9.2)) ho_95 rfl lm_X9_259 wc_X9_meanNow pl_X9_meanNow ok_X9_meanNow rfl rfl (Nat.le_of_ble_eq_true rfl) (k_X9_meanNow (by omega) er9) (mj_dt dt_X9_saves 42 rfl) ?_
          refine mj_go_lstore (i := 7) (by decide) (mj_dt dt_X9_saves 43 rfl) ?_
          refine mj_go_aload_n (k := 0) (x := 95) rfl (mj_dt dt_X9_saves 44 rfl) ?_
          refine ml_getR (c := 9) (k := 23) (q := 108) fd_9_23 rf_95_23 (Or.inl fl_X9_62) ho_95 (mj_dt dt_X9_saves 45 rfl) ?_
          refine mj_go_iload (i := 6) (x := s.2.2.1) rfl (mj_dt dt_X9_saves 46 rfl) ?_
          refine mj_go_dup2_11 rfl rfl (mj_dt dt_X9_saves 47 rfl) ?_
          refine mk_iald c2 (mj_dt dt_X9_saves 48 rfl) ?_
          refine mj_go_iconst (v := 1) rfl (mj_dt dt_X9_saves 49 rfl) ?_
          refine mj_go_isub (mj_dt dt_X9_saves 50 rfl) ?_
          obtain ⟨m10, em10, h⟩ := mj_mw_some h
          refine ml_iast c2 (mj_dt dt_X9_saves 51 rfl) ?_
          refine ml_eqm (M1 := (mj_fin m10)) (by rw [em10] <;> rfl) ?_
          refine mj_go_iload_n (k := 3) (x := s.1) rfl (mj_dt dt_X9_saves 52 rfl) ?_
          refine mj_go_iconst (v := -1) rfl (mj_dt dt_X9_saves 53 rfl) ?_
          refine mj_go_icmp_eq (tgt := 103) rfl (mj_dt dt_X9_saves 54 rfl) (fun b11 => ?_) (fun b11 => ?_)
          · rw [if_pos b11] at h
            refine mj_go_sub (lv' := [(0, .ref 95), (1, .int v1), (2, .int v2), (6, .int s.2.2.1), (7, .long r9.1)]) (List.forall_mem_cons.mpr ⟨rfl, (List.forall_mem_cons.mpr ⟨rfl, (List.forall_mem_cons.mpr ⟨rfl, (List.forall_mem_cons.mpr ⟨rfl, (List.forall_mem_cons.mpr ⟨rfl, (fun _ h9 => absurd h9 List.not_mem_nil)⟩)⟩)⟩)⟩)⟩) ?_
            exact k_X9_saves_103 q_8 q_16 hδ h
          · rw [if_neg b11] at h
            refine mj_go_lload (i := 7) (x := r9.1) rfl (mj_dt dt_X9_saves 55 rfl) ?_
            refine mj_go_lload (i := 4) (x := s.2.1) rfl (mj_dt dt_X9_saves 56 rfl) ?_
            refine mj_go_lcmp (mj_dt dt_X9_saves 57 rfl) ?_
            refine mj_go_if_lt (tgt := 103) rfl (mj_dt dt_X9_saves 58 rfl) (fun b12 => ?_) (fun b12 => ?_)
            · rw [if_pos b12] at h
              refine mj_go_sub (lv' := [(0, .ref 95), (1, .int v1), (2, .int v2), (6, .int s.2.2.1), (7, .long r9.1)]) (List.forall_mem_cons.mpr ⟨rfl, (List.forall_mem_cons.mpr ⟨rfl, (List.forall_mem_cons.mpr ⟨rfl, (List.forall_mem_cons.mpr ⟨rfl, (List.forall_mem_cons.mpr ⟨rfl, (fun _ h9 => absurd h9 List.not_mem_nil)⟩)⟩)⟩)⟩)⟩) ?_
              exact k_X9_saves_103 q_8 q_16 hδ h
            · rw [if_neg b12] at h
              refine mj_go_goto (tgt := 110) rfl (mj_dt dt_X9_saves 59 rfl) ?_
              refine mj_go_sub (lv' := [(0, .ref 95), (1, .int v1), (2, .int v2), (3, .int s.1), (4, .long s.2.1), (6, .int s.2.2.1)]) (List.forall_mem_cons.mpr ⟨rfl, (List.forall_mem_cons.mpr ⟨rfl, (List.forall_mem_cons.mpr ⟨rfl, (List.forall_mem_cons.mpr ⟨rfl, (List.forall_mem_cons.mpr ⟨rfl, (List.forall_mem_cons.mpr ⟨rfl, (fun _ h9 => absurd h9 List.not_mem_nil)⟩)⟩)⟩)⟩)⟩)⟩) ?_
              exact k_X9_saves_110 q_8 q_16 hδ h
        · rw [if_neg b7] at h
          refine mj_go_goto (tgt := 110) rfl (mj_dt dt_X9_saves 32 rfl) ?_
          refine mj_go_sub (lv' := [(0, .ref 95), (1, .int v1), (2, .int v2), (3, .int s.1), (4, .long s.2.1), (6, .int s.2.2.1)]) (List.forall_mem_cons.mpr ⟨rfl, (List.forall_mem_cons.mpr ⟨rfl, (List.forall_mem_cons.mpr ⟨rfl, (List.forall_mem_cons.mpr ⟨rfl, (List.forall_mem_cons.mpr ⟨rfl, (List.forall_mem_cons.mpr ⟨rfl, (fun _ h9 => absurd h9 List.not_mem_nil)⟩)⟩)⟩)⟩)⟩)⟩) ?_
          exact k_X9_saves_110 q_8 q_16 hδ h
def f_X9_saves_8 (N : Nat) (v1 : Int32) (k_8 : Int32 × mj_m → Option (mj_m)) (s : Int32 × mj_m) : Option (mj_m) := mj_lp N (f_X9_saves_16 N k_8 v1 s.1) ((-1 : Int32), 0, 0, s.2)
theorem k_X9_saves_8 {L : Nat} {xs : Nat → Int32} {δ N : Nat} {v1 : Int32} (hδ : 3 ≤ δ) : ∀ (n : Nat) (s : Int32 × mj_m) (a : mj_m), mj_lp n (f_X9_saves_8 N v1) s = some a → mj_Go (mj_EX L xs) (δ + 1) mY_X9_saves 8 [(0, .ref 95), (1, .int v1), (2, .int s.1)] [] (mj_fin s.2) (none, (mj_fin a)) := by
  refine mj_lp_sound (fun k_8 s a q_8 h => ?_)
  unfold f_X9_saves_8 at h
  refine mj_go_iconst (v := -1) rfl (mj_dt dt_X9_saves 6 rfl) ?_
  refine mj_go_istore_n (k := 3) (by decide) (mj_dt dt_X9_saves 7 rfl) ?_
  refine mj_go_lconst (v := 0) rfl (mj_dt dt_X9_saves 8 rfl) ?_
  refine mj_go_lstore (i := 4) (by decide) (mj_dt dt_X9_saves 9 rfl) ?_
  refine mj_go_iconst (v := 0) rfl (mj_dt dt_X9_saves 10 rfl) ?_
  refine mj_go_istore (i := 6) (by decide) (mj_dt dt_X9_saves 11 rfl) ?_
  refine mj_go_sub (lv' := [(0, .ref 95), (1, .int v1), (2, .int s.1), (3, .int (-1 : Int32)), (4, .long 0), (6, .int 0)]) (List.forall_mem_cons.mpr ⟨rfl, (List.forall_mem_cons.mpr ⟨rfl, (List.forall_mem_cons.mpr ⟨rfl, (List.forall_mem_cons.mpr ⟨rfl, (List.forall_mem_cons.mpr ⟨rfl, (List.forall_mem_cons.mpr ⟨rfl, (fun _ h9 => absurd h9 List.not_mem_nil)⟩)⟩)⟩)⟩)⟩)⟩) ?_
  exact k_X9_saves_16 q_8 hδ N _ _ h
def f_X9_saves (N : Nat) (v1 : Int32) (m : mj_m) : Option (mj_m) := (f_X9_worthsBy N 2 1 m).bind (fun r1 => mj_lp N (f_X9_saves_8 N v1) (0, r1))
theorem k_X9_saves {L : Nat} {xs : Nat → Int32} {δ N : Nat} {v1 : Int32} {m : mj_m} (hδ : 4 ≤ δ) {a : mj_m} (h : f_X9_saves N v1 m = some a) : mj_Cl (mj_EX L xs) δ mY_X9_saves [.ref 95, .int v1] (mj_fin m) (none, (mj_fin a)) := by
  obtain ⟨δ, rfl⟩ : ∃ d, δ = d + 1 := ⟨δ - 1, by omega⟩
  have hδ : 3 ≤ δ := by omega
  refine mj_cl_of ok_X9_saves (Nat.le_of_ble_eq_true rfl) ?_
  unfold f_X9_saves at h
  refine mj_go_aload_n (k := 0) (x := 95) rfl (mj_dt dt_X9_saves 0 rfl) ?_
  refine mj_go_iconst (v := 2) rfl (mj_dt dt_X9_saves 1 rfl) ?_
  refine mj_go_iconst (v := 1) rfl (mj_dt dt_X9_saves 2 rfl) ?_
  obtain ⟨r1, er1, h⟩ := mj_bind_some h
  refine ml_callV (Y' := mY_X9_worthsBy) (as := [.int 2, .int 1]) (rest := []) (c := 9) (v := none) (M1 := (mj_fin r1)) ho_95 rfl lm_X9_251 wc_X9_worthsBy pl_X9_worthsBy ok_X9_worthsBy rfl rfl (Nat.le_of_ble_eq_true rfl) (k_X9_worthsBy (by omega) er1) (mj_dt dt_X9_saves 3 rfl) ?_
  refine mj_go_iconst (v := 0) rfl (mj_dt dt_X9_saves 4 rfl) ?_
  refine mj_go_istore_n (k := 2) (by decide) (mj_dt dt_X9_saves 5 rfl) ?_
  refine mj_go_sub (lv' := [(0, .ref 95), (1, .int v1), (2, .int 0)]) (List.forall_mem_cons.mpr ⟨rfl, (List.forall_mem_cons.mpr ⟨rfl, (List.forall_mem_cons.mpr ⟨rfl, (fun _ h9 => absurd h9 List.not_mem_nil)⟩)⟩)⟩) ?_
  exact k_X9_saves_8 hδ N _ _ h
def f_X9_intAt (N : Nat) (v1 : Int32) (v2 : Int32) (m : mj_m) : Option (Int32) := mj_ck (mj_b 1 115 ((120 * v1) + v2)) ( some ((m.2 115 ((120 * v1) + v2).toNatClampNeg).toInt32))
theorem k_X9_intAt {L : Nat} {xs : Nat → Int32} {δ N : Nat} {v1 : Int32} {v2 : Int32} {m : mj_m} (_ : 0 ≤ δ) {a : Int32} (h : f_X9_intAt N v1 v2 m = some a) : mj_Cl (mj_EX L xs) δ mY_X9_intAt [.ref 95, .int v1, .int v2] (mj_fin m) (some (.int a), (mj_fin m)) := by
  refine mj_cl_of ok_X9_intAt (Nat.le_of_ble_eq_true rfl) ?_
  unfold f_X9_intAt at h
  refine mj_go_aload_n (k := 0) (x := 95) rfl (mj_dt dt_X9_intAt 0 rfl) ?_
  refine ml_getR (c := 9) (k := 30) (q := 115) fd_9_30 rf_95_30 (Or.inl fl_X9_83) ho_95 (mj_dt dt_X9_intAt 1 rfl) ?_
  refine mj_go_bipush (v := 120) rfl (mj_dt dt_X9_intAt 2 rfl) ?_
  refine mj_go_iload_n (k := 1) (x := v1) rfl (mj_dt dt_X9_intAt 3 rfl) ?_
  refine mj_go_imul (mj_dt dt_X9_intAt 4 rfl) ?_
  refine mj_go_iload_n (k := 2) (x := v2) rfl (mj_dt dt_X9_intAt 5 rfl) ?_
  refine mj_go_iadd (mj_dt dt_X9_intAt 6 rfl) ?_
  obtain ⟨c1, h⟩ := mj_ck_some h
  refine mk_lald c1 (mj_dt dt_X9_intAt 7 rfl) ?_
  refine mj_go_l2i (mj_dt dt_X9_intAt 8 rfl) ?_
  obtain rfl := Option.some.inj h
  exact mj_go_ret (v := some (.int ((m.2 115 ((120 * v1) + v2).toNatClampNeg).toInt32))) (Nat.le_of_ble_eq_true rfl) (mj_retI (mj_dt dt_X9_intAt 9 rfl) rfl)
def f_X9_isHouse_16 (N : Nat) (m : mj_m) : Option (Int32) := (some 0)
theorem k_X9_isHouse_16 {L : Nat} {xs : Nat → Int32} {δ N : Nat} {m : mj_m} {a : Int32} (h : f_X9_isHouse_16 N m = some a) : mj_Go (mj_EX L xs) δ mY_X9_isHouse 16 [] [] (mj_fin m) (some (.int a), (mj_fin m)) := by
  unfold f_X9_isHouse_16 at h
  refine mj_go_iconst (v := 0) rfl (mj_dt dt_X9_isHouse 8 rfl) ?_
  obtain rfl := Option.some.inj h
  exact mj_go_ret (v := some (.int 0)) (Nat.le_of_ble_eq_true rfl) (mj_retZ (mj_dt dt_X9_isHouse 9 rfl) rfl rfl)
def f_X9_isHouse (N : Nat) (v1 : Int32) (m : mj_m) : Option (Int32) := if v1 < 0 then f_X9_isHouse_16 N m else (if (m.1 95 1) ≤ v1 then f_X9_isHouse_16 N m else ((some 1)))
theorem k_X9_isHouse {L : Nat} {xs : Nat → Int32} {δ N : Nat} {v1 : Int32} {m : mj_m} (_ : 0 ≤ δ) {a : Int32} (h : f_X9_isHouse N v1 m = some a) : mj_Cl (mj_EX L xs) δ mY_X9_isHouse [.ref 95, .int v1] (mj_fin m) (some (.int a), (mj_fin m)) := by
  refine mj_cl_of ok_X9_isHouse (Nat.le_of_ble_eq_true rfl) ?_
  unfold f_X9_isHouse at h
  refine mj_go_iload_n (k := 1) (x := v1) rfl (mj_dt dt_X9_isHouse 0 rfl) ?_
  refine mj_go_if_lt (tgt := 16) rfl (mj_dt dt_X9_isHouse 1 rfl) (fun b1 => ?_) (fun b1 => ?_)
  · rw [if_pos b1] at h
    refine mj_go_sub (lv' := []) (fun _ h9 => absurd h9 List.not_mem_nil) ?_
    exact k_X9_isHouse_16 h
  · rw [if_neg b1] at h
    refine mj_go_iload_n (k := 1) (x := v1) rfl (mj_dt dt_X9_isHouse 2 rfl) ?_
    refine mj_go_aload_n (k := 0) (x := 95) rfl (mj_dt dt_X9_isHouse 3 rfl) ?_
    refine mk_getI (c := 9) (k := 1) (Or.inl fd_9_1) (Or.inl fl_X9_124) ho_95 (mj_dt dt_X9_isHouse 4 rfl) ?_
    refine mj_go_icmp_ge (tgt := 16) rfl (mj_dt dt_X9_isHouse 5 rfl) (fun b2 => ?_) (fun b2 => ?_)
    · rw [if_pos b2] at h
      refine mj_go_sub (lv' := []) (fun _ h9 => absurd h9 List.not_mem_nil) ?_
      exact k_X9_isHouse_16 h
    · rw [if_neg b2] at h
      refine mj_go_iconst (v := 1) rfl (mj_dt dt_X9_isHouse 6 rfl) ?_
      refine mj_go_goto (tgt := 17) rfl (mj_dt dt_X9_isHouse 7 rfl) ?_
      obtain rfl := Option.some.inj h
      exact mj_go_ret (v := some (.int 1)) (Nat.le_of_ble_eq_true rfl) (mj_retZ (mj_dt dt_X9_isHouse 9 rfl) rfl rfl)
def f_X9_isAhead_64 (N : Nat) (v2 : Int32) (v3 : Int32) (m : mj_m) : Option (Int32) := (f_X9_people N v2 2 m).bind (fun r1 => (f_X9_people N v3 2 m).bind (fun r2 => if r1 ≤ r2 then ((some 0)) else ((some 1))))
theorem k_X9_isAhead_64 {L : Nat} {xs : Nat → Int32} {δ N : Nat} {v2 : Int32} {v3 : Int32} {m : mj_m} (hδ : 0 ≤ δ) {a : Int32} (h : f_X9_isAhead_64 N v2 v3 m = some a) : mj_Go (mj_EX L xs) (δ + 1) mY_X9_isAhead 64 [(0, .ref 95), (2, .int v2), (3, .int v3)] [] (mj_fin m) (some (.int a), (mj_fin m)) := by
  unfold f_X9_isAhead_64 at h
  refine mj_go_aload_n (k := 0) (x := 95) rfl (mj_dt dt_X9_isAhead 38 rfl) ?_
  refine mj_go_iload_n (k := 2) (x := v2) rfl (mj_dt dt_X9_isAhead 39 rfl) ?_
  refine mj_go_iconst (v := 2) rfl (mj_dt dt_X9_isAhead 40 rfl) ?_
  obtain ⟨r1, er1, h⟩ := mj_bind_some h
  refine ml_callV (Y' := mY_X9_people) (as := [.int v2, .int 2]) (rest := []) (c := 9) (v := (some (.int r1))) (M1 := (mj_fin m)) ho_95 rfl lm_X9_245 wc_X9_people pl_X9_people ok_X9_people rfl rfl (Nat.le_of_ble_eq_true rfl) (k_X9_people (by omega) er1) (mj_dt dt_X9_isAhead 41 rfl) ?_
  refine mj_go_aload_n (k := 0) (x := 95) rfl (mj_dt dt_X9_isAhead 42 rfl) ?_
  refine mj_go_iload_n (k := 3) (x := v3) rfl (mj_dt dt_X9_isAhead 43 rfl) ?_
  refine mj_go_iconst (v := 2) rfl (mj_dt dt_X9_isAhead 44 rfl) ?_
  obtain ⟨r2, er2, h⟩ := mj_bind_some h
  refine ml_callV (Y' := mY_X9_people) (as := [.int v3, .int 2]) (rest := [.int r1]) (c := 9) (v := (some (.int r2))) (M1 := (mj_fin m)) ho_95 rfl lm_X9_245 wc_X9_people pl_X9_people ok_X9_people rfl rfl (Nat.le_of_ble_eq_true rfl) (k_X9_people (by omega) er2) (mj_dt dt_X9_isAhead 45 rfl) ?_
  refine mj_go_icmp_le (tgt := 83) rfl (mj_dt dt_X9_isAhead 46 rfl) (fun b3 => ?_) (fun b3 => ?_)
  · rw [if_pos b3] at h
    refine mj_go_iconst (v := 0) rfl (mj_dt dt_X9_isAhead 49 rfl) ?_
    obtain rfl := Option.some.inj h
    exact mj_go_ret (v := some (.int 0)) (Nat.le_of_ble_eq_true rfl) (mj_retZ (mj_dt dt_X9_isAhead 50 rfl) rfl rfl)
  · rw [if_neg b3] at h
    refine mj_go_iconst (v := 1) rfl (mj_dt dt_X9_isAhead 47 rfl) ?_
    refine mj_go_goto (tgt := 84) rfl (mj_dt dt_X9_isAhead 48 rfl) ?_
    obtain rfl := Option.some.inj h
    exact mj_go_ret (v := some (.int 1)) (Nat.le_of_ble_eq_true rfl) (mj_retZ (mj_dt dt_X9_isAhead 50 rfl) rfl rfl)
def f_X9_isAhead_167 (N : Nat) (m : mj_m) : Option (Int32) := (some 0)
theorem k_X9_isAhead_167 {L : Nat} {xs : Nat → Int32} {δ N : Nat} {m : mj_m} (hδ : 0 ≤ δ) {a : Int32} (h : f_X9_isAhead_167 N m = some a) : mj_Go (mj_EX L xs) (δ + 1) mY_X9_isAhead 167 [] [] (mj_fin m) (some (.int a), (mj_fin m)) := by
  unfold f_X9_isAhead_167 at h
  refine mj_go_iconst (v := 0) rfl (mj_dt dt_X9_isAhead 103 rfl) ?_
  obtain rfl := Option.some.inj h
  exact mj_go_ret (v := some (.int 0)) (Nat.le_of_ble_eq_true rfl) (mj_retZ (mj_dt dt_X9_isAhead 104 rfl) rfl rfl)
def f_X9_isAhead_130 (N : Nat) (v2 : Int32) (v3 : Int32) (m : mj_m) : Option (Int32) := mj_ck (mj_b 0 102 v2) ( mj_ck (mj_b 0 108 v2) ( mj_ck (mj_b 0 102 v3) ( mj_ck (mj_b 0 108 v3) ( if ((m.1 102 v2.toNatClampNeg) - (4 * (m.1 108 v2.toNatClampNeg))) ≤ ((m.1 102 v3.toNatClampNeg) - (4 * (m.1 108 v3.toNatClampNeg))) then f_X9_isAhead_167 N m else ((some 1))))))
theorem k_X9_isAhead_130 {L : Nat} {xs : Nat → Int32} {δ N : Nat} {v2 : Int32} {v3 : Int32} {m : mj_m} (hδ : 0 ≤ δ) {a : Int32} (h : f_X9_isAhead_130 N v2 v3 m = some a) : mj_Go (mj_EX L xs) (δ + 1) mY_X9_isAhead 130 [(0, .ref 95), (2, .int v2), (3, .int v3)] [] (mj_fin m) (some (.int a), (mj_fin m)) := by
  unfold f_X9_isAhead_130 at h
  refine mj_go_aload_n (k := 0) (x := 95) rfl (mj_dt dt_X9_isAhead 78 rfl) ?_
  refine ml_getR (c := 9) (k := 17) (q := 102) fd_9_17 rf_95_17 (Or.inl fl_X9_44) ho_95 (mj_dt dt_X9_isAhead 79 rfl) ?_
  refine mj_go_iload_n (k := 2) (x := v2) rfl (mj_dt dt_X9_isAhead 80 rfl) ?_
  obtain ⟨c1, h⟩ := mj_ck_some h
  refine mk_iald c1 (mj_dt dt_X9_isAhead 81 rfl) ?_
  refine mj_go_iconst (v := 4) rfl (mj_dt dt_X9_isAhead 82 rfl) ?_
  refine mj_go_aload_n (k := 0) (x := 95) rfl (mj_dt dt_X9_isAhead 83 rfl) ?_
  refine ml_getR (c := 9) (k := 23) (q := 108) fd_9_23 rf_95_23 (Or.inl fl_X9_62) ho_95 (mj_dt dt_X9_isAhead 84 rfl) ?_
  refine mj_go_iload_n (k := 2) (x := v2) rfl (mj_dt dt_X9_isAhead 85 rfl) ?_
  obtain ⟨c2, h⟩ := mj_ck_some h
  refine mk_iald c2 (mj_dt dt_X9_isAhead 86 rfl) ?_
  refine mj_go_imul (mj_dt dt_X9_isAhead 87 rfl) ?_
  refine mj_go_isub (mj_dt dt_X9_isAhead 88 rfl) ?_
  refine mj_go_aload_n (k := 0) (x := 95) rfl (mj_dt dt_X9_isAhead 89 rfl) ?_
  refine ml_getR (c := 9) (k := 17) (q := 102) fd_9_17 rf_95_17 (Or.inl fl_X9_44) ho_95 (mj_dt dt_X9_isAhead 90 rfl) ?_
  refine mj_go_iload_n (k := 3) (x := v3) rfl (mj_dt dt_X9_isAhead 91 rfl) ?_
  obtain ⟨c3, h⟩ := mj_ck_some h
  refine mk_iald c3 (mj_dt dt_X9_isAhead 92 rfl) ?_
  refine mj_go_iconst (v := 4) rfl (mj_dt dt_X9_isAhead 93 rfl) ?_
  refine mj_go_aload_n (k := 0) (x := 95) rfl (mj_dt dt_X9_isAhead 94 rfl) ?_
  refine ml_getR (c := 9) (k := 23) (q := 108) fd_9_23 rf_95_23 (Or.inl fl_X9_62) ho_95 (mj_dt dt_X9_isAhead 95 rfl) ?_
  refine mj_go_iload_n (k := 3) (x := v3) rfl (mj_dt dt_X9_isAhead 96 rfl) ?_
  obtain ⟨c4, h⟩ := mj_ck_some h
  refine mk_iald c4 (mj_dt dt_X9_isAhead 97 rfl) ?_
  refine mj_go_imul (mj_dt dt_X9_isAhead 98 rfl) ?_
  refine mj_go_isub (mj_dt dt_X9_isAhead 99 rfl) ?_
  refine mj_go_icmp_le (tgt := 167) rfl (mj_dt dt_X9_isAhead 100 rfl) (fun b5 => ?_) (fun b5 => ?_)
  · rw [if_pos b5] at h
    refine mj_go_sub (lv' := []) (fun _ h9 => absurd h9 List.not_mem_nil) ?_
    exact k_X9_isAhead_167 hδ h
  · rw [if_neg b5] at h
    refine mj_go_iconst (v := 1) rfl (mj_dt dt_X9_isAhead 101 rfl) ?_
    refine mj_go_goto (tgt := 168) rfl (mj_dt dt_X9_isAhead 102 rfl) ?_
    obtain rfl := Option.some.inj h
    exact mj_go_ret (v := some (.int 1)) (Nat.le_of_ble_eq_true rfl) (mj_retZ (mj_dt dt_X9_isAhead 104 rfl) rfl rfl)
def f_X9_isAhead_120 (N : Nat) (v1 : Int32) (v2 : Int32) (v3 : Int32) (m : mj_m) : Option (Int32) := if v1 = 2 then f_X9_isAhead_130 N v2 v3 m else (if v1 = 5 then f_X9_isAhead_130 N v2 v3 m else f_X9_isAhead_167 N m)
theorem k_X9_isAhead_120 {L : Nat} {xs : Nat → Int32} {δ N : Nat} {v1 : Int32} {v2 : Int32} {v3 : Int32} {m : mj_m} (hδ : 0 ≤ δ) {a : Int32} (h : f_X9_isAhead_120 N v1 v2 v3 m = some a) : mj_Go (mj_EX L xs) (δ + 1) mY_X9_isAhead 120 [(0, .ref 95), (1, .int v1), (2, .int v2), (3, .int v3)] [] (mj_fin m) (some (.int a), (mj_fin m)) := by
  unfold f_X9_isAhead_120 at h
  refine mj_go_iload_n (k := 1) (x := v1) rfl (mj_dt dt_X9_isAhead 72 rfl) ?_
  refine mj_go_iconst (v := 2) rfl (mj_dt dt_X9_isAhead 73 rfl) ?_
  refine mj_go_icmp_eq (tgt := 130) rfl (mj_dt dt_X9_isAhead 74 rfl) (fun b1 => ?_) (fun b1 => ?_)
  · rw [if_pos b1] at h
    refine mj_go_sub (lv' := [(0, .ref 95), (2, .int v2), (3, .int v3)]) (List.forall_mem_cons.mpr ⟨rfl, (List.forall_mem_cons.mpr ⟨rfl, (List.forall_mem_cons.mpr ⟨rfl, (fun _ h9 => absurd h9 List.not_mem_nil)⟩)⟩)⟩) ?_
    exact k_X9_isAhead_130 hδ h
  · rw [if_neg b1] at h
    refine mj_go_iload_n (k := 1) (x := v1) rfl (mj_dt dt_X9_isAhead 75 rfl) ?_
    refine mj_go_iconst (v := 5) rfl (mj_dt dt_X9_isAhead 76 rfl) ?_
    refine mj_go_icmp_ne (tgt := 167) rfl (mj_dt dt_X9_isAhead 77 rfl) (fun b2 => ?_) (fun b2 => ?_)
    · rw [if_neg b2] at h
      refine mj_go_sub (lv' := []) (fun _ h9 => absurd h9 List.not_mem_nil) ?_
      exact k_X9_isAhead_167 hδ h
    · rw [if_pos b2] at h
      refine mj_go_sub (lv' := [(0, .ref 95), (2, .int v2), (3, .int v3)]) (List.forall_mem_cons.mpr ⟨rfl, (List.forall_mem_cons.mpr ⟨rfl, (List.forall_mem_cons.mpr ⟨rfl, (fun _ h9 => absurd h9 List.not_mem_nil)⟩)⟩)⟩) ?_
      exact k_X9_isAhead_130 hδ h
def f_X9_isAhead_54 (N : Nat) (v1 : Int32) (v2 : Int32) (v3 : Int32) (m : mj_m) : Option (Int32) := if v1 = 1 then f_X9_isAhead_64 N v2 v3 m else (if v1 = 3 then f_X9_isAhead_64 N v2 v3 m else (if v1 = 5 then (mj_ck (mj_b 0 109 v2) ( mj_ck (mj_b 0 109 v3) ( if (m.1 109 v2.toNatClampNeg) = (m.1 109 v3.toNatClampNeg) then f_X9_isAhead_120 N v1 v2 v3 m else (if (m.1 109 v2.toNatClampNeg) = 0 then ((some 1)) else ((some 0)))))) else f_X9_isAhead_120 N v1 v2 v3 m))
theorem k_X9_isAhead_54 {L : Nat} {xs : Nat → Int32} {δ N : Nat} {v1 : Int32} {v2 : Int32} {v3 : Int32} {m : mj_m} (hδ : 0 ≤ δ) {a : Int32} (h : f_X9_isAhead_54 N v1 v2 v3 m = some a) : mj_Go (mj_EX L xs) (δ + 1) mY_X9_isAhead 54 [(0, .ref 95), (1, .int v1), (2, .int v2), (3, .int v3)] [] (mj_fin m) (some (.int a), (mj_fin m)) := by
  unfold f_X9_isAhead_54 at h
  refine mj_go_iload_n (k := 1) (x := v1) rfl (mj_dt dt_X9_isAhead 32 rfl) ?_
  refine mj_go_iconst (v := 1) rfl (mj_dt dt_X9_isAhead 33 rfl) ?_
  refine mj_go_icmp_eq (tgt := 64) rfl (mj_dt dt_X9_isAhead 34 rfl) (fun b1 => ?_) (fun b1 => ?_)
  · rw [if_pos b1] at h
    refine mj_go_sub (lv' := [(0, .ref 95), (2, .int v2), (3, .int v3)]) (List.forall_mem_cons.mpr ⟨rfl, (List.forall_mem_cons.mpr ⟨rfl, (List.forall_mem_cons.mpr ⟨rfl, (fun _ h9 => absurd h9 List.not_mem_nil)⟩)⟩)⟩) ?_
    exact k_X9_isAhead_64 hδ h
  · rw [if_neg b1] at h
    refine mj_go_iload_n (k := 1) (x := v1) rfl (mj_dt dt_X9_isAhead 35 rfl) ?_
    refine mj_go_iconst (v := 3) rfl (mj_dt dt_X9_isAhead 36 rfl) ?_
    refine mj_go_icmp_ne (tgt := 85) rfl (mj_dt dt_X9_isAhead 37 rfl) (fun b2 => ?_) (fun b2 => ?_)
    · rw [if_neg b2] at h
      refine mj_go_iload_n (k := 1) (x := v1) rfl (mj_dt dt_X9_isAhead 51 rfl) ?_
      refine mj_go_iconst (v := 5) rfl (mj_dt dt_X9_isAhead 52 rfl) ?_
      refine mj_go_icmp_ne (tgt := 120) rfl (mj_dt dt_X9_isAhead 53 rfl) (fun b3 => ?_) (fun b3 => ?_)
      · rw [if_neg b3] at h
        refine mj_go_sub (lv' := [(0, .ref 95), (1, .int v1), (2, .int v2), (3, .int v3)]) (List.forall_mem_cons.mpr ⟨rfl, (List.forall_mem_cons.mpr ⟨rfl, (List.forall_mem_cons.mpr ⟨rfl, (List.forall_mem_cons.mpr ⟨rfl, (fun _ h9 => absurd h9 List.not_mem_nil)⟩)⟩)⟩)⟩) ?_
        exact k_X9_isAhead_120 hδ h
      · rw [if_pos b3] at h
        refine mj_go_aload_n (k := 0) (x := 95) rfl (mj_dt dt_X9_isAhead 54 rfl) ?_
        refine ml_getR (c := 9) (k := 24) (q := 109) fd_9_24 rf_95_24 (Or.inl fl_X9_65) ho_95 (mj_dt dt_X9_isAhead 55 rfl) ?_
        refine mj_go_iload_n (k := 2) (x := v2) rfl (mj_dt dt_X9_isAhead 56 rfl) ?_
        obtain ⟨c4, h⟩ := mj_ck_some h
        refine mk_iald c4 (mj_dt dt_X9_isAhead 57 rfl) ?_
        refine mj_go_aload_n (k := 0) (x := 95) rfl (mj_dt dt_X9_isAhead 58 rfl) ?_
        refine ml_getR (c := 9) (k := 24) (q := 109) fd_9_24 rf_95_24 (Or.inl fl_X9_65) ho_95 (mj_dt dt_X9_isAhead 59 rfl) ?_
        refine mj_go_iload_n (k := 3) (x := v3) rfl (mj_dt dt_X9_isAhead 60 rfl) ?_
        obtain ⟨c5, h⟩ := mj_ck_some h
        refine mk_iald c5 (mj_dt dt_X9_isAhead 61 rfl) ?_
        refine mj_go_icmp_eq (tgt := 120) rfl (mj_dt dt_X9_isAhead 62 rfl) (fun b6 => ?_) (fun b6 => ?_)
        · rw [if_pos b6] at h
          refine mj_go_sub (lv' := [(0, .ref 95), (1, .int v1), (2, .int v2), (3, .int v3)]) (List.forall_mem_cons.mpr ⟨rfl, (List.forall_mem_cons.mpr ⟨rfl, (List.forall_mem_cons.mpr ⟨rfl, (List.forall_mem_cons.mpr ⟨rfl, (fun _ h9 => absurd h9 List.not_mem_nil)⟩)⟩)⟩)⟩) ?_
          exact k_X9_isAhead_120 hδ h
        · rw [if_neg b6] at h
          refine mj_go_aload_n (k := 0) (x := 95) rfl (mj_dt dt_X9_isAhead 63 rfl) ?_
          refine ml_getR (c := 9) (k := 24) (q := 109) fd_9_24 rf_95_24 (Or.inl fl_X9_65) ho_95 (mj_dt dt_X9_isAhead 64 rfl) ?_
          refine mj_go_iload_n (k := 2) (x := v2) rfl (mj_dt dt_X9_isAhead 65 rfl) ?_
          refine mk_iald c4 (mj_dt dt_X9_isAhead 66 rfl) ?_
          refine mj_go_if_ne (tgt := 118) rfl (mj_dt dt_X9_isAhead 67 rfl) (fun b7 => ?_) (fun b7 => ?_)
          · rw [if_neg b7] at h
            refine mj_go_iconst (v := 0) rfl (mj_dt dt_X9_isAhead 70 rfl) ?_
            obtain rfl := Option.some.inj h
            exact mj_go_ret (v := some (.int 0)) (Nat.le_of_ble_eq_true rfl) (mj_retZ (mj_dt dt_X9_isAhead 71 rfl) rfl rfl)
          · rw [if_pos b7] at h
            refine mj_go_iconst (v := 1) rfl (mj_dt dt_X9_isAhead 68 rfl) ?_
            refine mj_go_goto (tgt := 119) rfl (mj_dt dt_X9_isAhead 69 rfl) ?_
            obtain rfl := Option.some.inj h
            exact mj_go_ret (v := some (.int 1)) (Nat.le_of_ble_eq_true rfl) (mj_retZ (mj_dt dt_X9_isAhead 71 rfl) rfl rfl)
    · rw [if_pos b2] at h
      refine mj_go_sub (lv' := [(0, .ref 95), (2, .int v2), (3, .int v3)]) (List.forall_mem_cons.mpr ⟨rfl, (List.forall_mem_cons.mpr ⟨rfl, (List.forall_mem_cons.mpr ⟨rfl, (fun _ h9 => absurd h9 List.not_mem_nil)⟩)⟩)⟩) ?_
      exact k_X9_isAhead_64 hδ h
def f_X9_isAhead_35 (N : Nat) (v1 : Int32) (v2 : Int32) (v3 : Int32) (s0 : Int32) (s1 : Int32) (m : mj_m) : Option (Int32) := if s0 = s1 then f_X9_isAhead_54 N v1 v2 v3 m else (mj_ck (mj_b 0 106 v2) ( if (m.1 106 v2.toNatClampNeg) = (-1 : Int32) then ((some 0)) else ((some 1))))
theorem k_X9_isAhead_35 {L : Nat} {xs : Nat → Int32} {δ N : Nat} {v1 : Int32} {v2 : Int32} {v3 : Int32} {s0 : Int32} {s1 : Int32} {m : mj_m} (hδ : 0 ≤ δ) {a : Int32} (h : f_X9_isAhead_35 N v1 v2 v3 s0 s1 m = some a) : mj_Go (mj_EX L xs) (δ + 1) mY_X9_isAhead 35 [(0, .ref 95), (1, .int v1), (2, .int v2), (3, .int v3)] [.int s1, .int s0] (mj_fin m) (some (.int a), (mj_fin m)) := by
  unfold f_X9_isAhead_35 at h
  refine mj_go_icmp_eq (tgt := 54) rfl (mj_dt dt_X9_isAhead 21 rfl) (fun b1 => ?_) (fun b1 => ?_)
  · rw [if_pos b1] at h
    refine mj_go_sub (lv' := [(0, .ref 95), (1, .int v1), (2, .int v2), (3, .int v3)]) (List.forall_mem_cons.mpr ⟨rfl, (List.forall_mem_cons.mpr ⟨rfl, (List.forall_mem_cons.mpr ⟨rfl, (List.forall_mem_cons.mpr ⟨rfl, (fun _ h9 => absurd h9 List.not_mem_nil)⟩)⟩)⟩)⟩) ?_
    exact k_X9_isAhead_54 hδ h
  · rw [if_neg b1] at h
    refine mj_go_aload_n (k := 0) (x := 95) rfl (mj_dt dt_X9_isAhead 22 rfl) ?_
    refine ml_getR (c := 9) (k := 21) (q := 106) fd_9_21 rf_95_21 (Or.inl fl_X9_56) ho_95 (mj_dt dt_X9_isAhead 23 rfl) ?_
    refine mj_go_iload_n (k := 2) (x := v2) rfl (mj_dt dt_X9_isAhead 24 rfl) ?_
    obtain ⟨c2, h⟩ := mj_ck_some h
    refine mk_iald c2 (mj_dt dt_X9_isAhead 25 rfl) ?_
    refine mj_go_iconst (v := -1) rfl (mj_dt dt_X9_isAhead 26 rfl) ?_
    refine mj_go_icmp_eq (tgt := 52) rfl (mj_dt dt_X9_isAhead 27 rfl) (fun b3 => ?_) (fun b3 => ?_)
    · rw [if_pos b3] at h
      refine mj_go_iconst (v := 0) rfl (mj_dt dt_X9_isAhead 30 rfl) ?_
      obtain rfl := Option.some.inj h
      exact mj_go_ret (v := some (.int 0)) (Nat.le_of_ble_eq_true rfl) (mj_retZ (mj_dt dt_X9_isAhead 31 rfl) rfl rfl)
    · rw [if_neg b3] at h
      refine mj_go_iconst (v := 1) rfl (mj_dt dt_X9_isAhead 28 rfl) ?_
      refine mj_go_goto (tgt := 53) rfl (mj_dt dt_X9_isAhead 29 rfl) ?_
      obtain rfl := Option.some.inj h
      exact mj_go_ret (v := some (.int 1)) (Nat.le_of_ble_eq_true rfl) (mj_retZ (mj_dt dt_X9_isAhead 31 rfl) rfl rfl)
def f_X9_isAhead_20 (N : Nat) (v1 : Int32) (v2 : Int32) (v3 : Int32) (s0 : Int32) (m : mj_m) : Option (Int32) := mj_ck (mj_b 0 106 v3) ( if (m.1 106 v3.toNatClampNeg) = (-1 : Int32) then (f_X9_isAhead_35 N v1 v2 v3 s0 1 m) else (f_X9_isAhead_35 N v1 v2 v3 s0 0 m))
theorem k_X9_isAhead_20 {L : Nat} {xs : Nat → Int32} {δ N : Nat} {v1 : Int32} {v2 : Int32} {v3 : Int32} {s0 : Int32} {m : mj_m} (hδ : 0 ≤ δ) {a : Int32} (h : f_X9_isAhead_20 N v1 v2 v3 s0 m = some a) : mj_Go (mj_EX L xs) (δ + 1) mY_X9_isAhead 20 [(0, .ref 95), (1, .int v1), (2, .int v2), (3, .int v3)] [.int s0] (mj_fin m) (some (.int a), (mj_fin m)) := by
  unfold f_X9_isAhead_20 at h
  refine mj_go_aload_n (k := 0) (x := 95) rfl (mj_dt dt_X9_isAhead 12 rfl) ?_
  refine ml_getR (c := 9) (k := 21) (q := 106) fd_9_21 rf_95_21 (Or.inl fl_X9_56) ho_95 (mj_dt dt_X9_isAhead 13 rfl) ?_
  refine mj_go_iload_n (k := 3) (x := v3) rfl (mj_dt dt_X9_isAhead 14 rfl) ?_
  obtain ⟨c1, h⟩ := mj_ck_some h
  refine mk_iald c1 (mj_dt dt_X9_isAhead 15 rfl) ?_
  refine mj_go_iconst (v := -1) rfl (mj_dt dt_X9_isAhead 16 rfl) ?_
  refine mj_go_icmp_ne (tgt := 34) rfl (mj_dt dt_X9_isAhead 17 rfl) (fun b2 => ?_) (fun b2 => ?_)
  · rw [if_neg b2] at h
    refine mj_go_iconst (v := 0) rfl (mj_dt dt_X9_isAhead 20 rfl) ?_
    refine mj_go_sub (lv' := [(0, .ref 95), (1, .int v1), (2, .int v2), (3, .int v3)]) (List.forall_mem_cons.mpr ⟨rfl, (List.forall_mem_cons.mpr ⟨rfl, (List.forall_mem_cons.mpr ⟨rfl, (List.forall_mem_cons.mpr ⟨rfl, (fun _ h9 => absurd h9 List.not_mem_nil)⟩)⟩)⟩)⟩) ?_
    exact k_X9_isAhead_35 hδ h
  · rw [if_pos b2] at h
    refine mj_go_iconst (v := 1) rfl (mj_dt dt_X9_isAhead 18 rfl) ?_
    refine mj_go_goto (tgt := 35) rfl (mj_dt dt_X9_isAhead 19 rfl) ?_
    refine mj_go_sub (lv' := [(0, .ref 95), (1, .int v1), (2, .int v2), (3, .int v3)]) (List.forall_mem_cons.mpr ⟨rfl, (List.forall_mem_cons.mpr ⟨rfl, (List.forall_mem_cons.mpr ⟨rfl, (List.forall_mem_cons.mpr ⟨rfl, (fun _ h9 => absurd h9 List.not_mem_nil)⟩)⟩)⟩)⟩) ?_
    exact k_X9_isAhead_35 hδ h
def f_X9_isAhead (N : Nat) (v1 : Int32) (v2 : Int32) (v3 : Int32) (m : mj_m) : Option (Int32) := if v1 = 3 then (mj_ck (mj_b 0 106 v2) ( if (m.1 106 v2.toNatClampNeg) = (-1 : Int32) then (f_X9_isAhead_20 N v1 v2 v3 1 m) else (f_X9_isAhead_20 N v1 v2 v3 0 m))) else f_X9_isAhead_54 N v1 v2 v3 m
theorem k_X9_isAhead {L : Nat} {xs : Nat → Int32} {δ N : Nat} {v1 : Int32} {v2 : Int32} {v3 : Int32} {m : mj_m} (hδ : 1 ≤ δ) {a : Int32} (h : f_X9_isAhead N v1 v2 v3 m = some a) : mj_Cl (mj_EX L xs) δ mY_X9_isAhead [.ref 95, .int v1, .int v2, .int v3] (mj_fin m) (some (.int a), (mj_fin m)) := by
  obtain ⟨δ, rfl⟩ : ∃ d, δ = d + 1 := ⟨δ - 1, by omega⟩
  have hδ : 0 ≤ δ := by omega
  refine mj_cl_of ok_X9_isAhead (Nat.le_of_ble_eq_true rfl) ?_
  unfold f_X9_isAhead at h
  refine mj_go_iload_n (k := 1) (x := v1) rfl (mj_dt dt_X9_isAhead 0 rfl) ?_
  refine mj_go_iconst (v := 3) rfl (mj_dt dt_X9_isAhead 1 rfl) ?_
  refine mj_go_icmp_ne (tgt := 54) rfl (mj_dt dt_X9_isAhead 2 rfl) (fun b1 => ?_) (fun b1 => ?_)
  · rw [if_neg b1] at h
    refine mj_go_sub (lv' := [(0, .ref 95), (1, .int v1), (2, .int v2), (3, .int v3)]) (List.forall_mem_cons.mpr ⟨rfl, (List.forall_mem_cons.mpr ⟨rfl, (List.forall_mem_cons.mpr ⟨rfl, (List.forall_mem_cons.mpr ⟨rfl, (fun _ h9 => absurd h9 List.not_mem_nil)⟩)⟩)⟩)⟩) ?_
    exact k_X9_isAhead_54 hδ h
  · rw [if_pos b1] at h
    refine mj_go_aload_n (k := 0) (x := 95) rfl (mj_dt dt_X9_isAhead 3 rfl) ?_
    refine ml_getR (c := 9) (k := 21) (q := 106) fd_9_21 rf_95_21 (Or.inl fl_X9_56) ho_95 (mj_dt dt_X9_isAhead 4 rfl) ?_
    refine mj_go_iload_n (k := 2) (x := v2) rfl (mj_dt dt_X9_isAhead 5 rfl) ?_
    obtain ⟨c2, h⟩ := mj_ck_some h
    refine mk_iald c2 (mj_dt dt_X9_isAhead 6 rfl) ?_
    refine mj_go_iconst (v := -1) rfl (mj_dt dt_X9_isAhead 7 rfl) ?_
    refine mj_go_icmp_ne (tgt := 19) rfl (mj_dt dt_X9_isAhead 8 rfl) (fun b3 => ?_) (fun b3 => ?_)
    · rw [if_neg b3] at h
      refine mj_go_iconst (v := 0) rfl (mj_dt dt_X9_isAhead 11 rfl) ?_
      refine mj_go_sub (lv' := [(0, .ref 95), (1, .int v1), (2, .int v2), (3, .int v3)]) (List.forall_mem_cons.mpr ⟨rfl, (List.forall_mem_cons.mpr ⟨rfl, (List.forall_mem_cons.mpr ⟨rfl, (List.forall_mem_cons.mpr ⟨rfl, (fun _ h9 => absurd h9 List.not_mem_nil)⟩)⟩)⟩)⟩) ?_
      exact k_X9_isAhead_20 hδ h
    · rw [if_pos b3] at h
      refine mj_go_iconst (v := 1) rfl (mj_dt dt_X9_isAhead 9 rfl) ?_
      refine mj_go_goto (tgt := 20) rfl (mj_dt dt_X9_isAhead 10 rfl) ?_
      refine mj_go_sub (lv' := [(0, .ref 95), (1, .int v1), (2, .int v2), (3, .int v3)]) (List.forall_mem_cons.mpr ⟨rfl, (List.forall_mem_cons.mpr ⟨rfl, (List.forall_mem_cons.mpr ⟨rfl, (List.forall_mem_cons.mpr ⟨rfl, (fun _ h9 => absurd h9 List.not_mem_nil)⟩)⟩)⟩)⟩) ?_
      exact k_X9_isAhead_20 hδ h
def f_X9_orders_201 (N : Nat) (k_112 : Int32 × mj_m → Option (mj_m)) (v1 : Int32) (v2 : Int32) (m : mj_m) : Option (mj_m) := mj_mw (v2 + 1) (fun x1 => k_112 (x1, m))
theorem k_X9_orders_201 {L : Nat} {xs : Nat → Int32} {δ N : Nat} {v1 : Int32} {v2 : Int32} {m : mj_m} {k_112 : Int32 × mj_m → Option (mj_m)} (q_112 : ∀ (s_ : Int32 × mj_m) (a_ : mj_m), k_112 s_ = some a_ → mj_Go (mj_EX L xs) (δ + 1) mY_X9_orders 112 [(0, .ref 95), (1, .int v1), (2, .int s_.1)] [] (mj_fin s_.2) (none, (mj_fin a_))) (hδ : 4 ≤ δ) {a : mj_m} (h : f_X9_orders_201 N k_112 v1 v2 m = some a) : mj_Go (mj_EX L xs) (δ + 1) mY_X9_orders 201 [(0, .ref 95), (1, .int v1), (2, .int v2)] [] (mj_fin m) (none, (mj_fin a)) := by
  unfold f_X9_orders_201 at h
  obtain ⟨x1, ex1, h⟩ := mj_mw_some h
  refine mj_go_iinc (i := 2) (x := v2) (v := x1) rfl (by rw [ex1] <;> rfl) (by decide) (mj_dt dt_X9_orders 120 rfl) ?_
  refine mj_go_goto (tgt := 112) rfl (mj_dt dt_X9_orders 121 rfl) ?_
  refine mj_go_sub (lv' := [(0, .ref 95), (1, .int v1), (2, .int x1)]) (List.forall_mem_cons.mpr ⟨rfl, (List.forall_mem_cons.mpr ⟨rfl, (List.forall_mem_cons.mpr ⟨rfl, (fun _ h9 => absurd h9 List.not_mem_nil)⟩)⟩)⟩) ?_
  exact q_112 _ _ h
def f_X9_orders_184 (N : Nat) (k_112 : Int32 × mj_m → Option (mj_m)) (v1 : Int32) (v2 : Int32) (v3 : Int32) (m : mj_m) : Option (mj_m) := mj_ck (mj_b 0 123 v3) ( mj_mw (mj_wI m 123 (v3.toNatClampNeg) v2) (fun m2 => mj_mw (mj_wI m2 95 44 ((m2.1 95 44) + 1)) (fun m3 => f_X9_orders_201 N k_112 v1 v2 m3)))
theorem k_X9_orders_184 {L : Nat} {xs : Nat → Int32} {δ N : Nat} {v1 : Int32} {v2 : Int32} {v3 : Int32} {m : mj_m} {k_112 : Int32 × mj_m → Option (mj_m)} (q_112 : ∀ (s_ : Int32 × mj_m) (a_ : mj_m), k_112 s_ = some a_ → mj_Go (mj_EX L xs) (δ + 1) mY_X9_orders 112 [(0, .ref 95), (1, .int v1), (2, .int s_.1)] [] (mj_fin s_.2) (none, (mj_fin a_))) (hδ : 4 ≤ δ) {a : mj_m} (h : f_X9_orders_184 N k_112 v1 v2 v3 m = some a) : mj_Go (mj_EX L xs) (δ + 1) mY_X9_orders 184 [(0, .ref 95), (1, .int v1), (2, .int v2), (3, .int v3)] [] (mj_fin m) (none, (mj_fin a)) := by
  unfold f_X9_orders_184 at h
  refine mj_go_aload_n (k := 0) (x := 95) rfl (mj_dt dt_X9_orders 109 rfl) ?_
  refine ml_getR (c := 9) (k := 43) (q := 123) fd_9_43 rf_95_43 (Or.inl fl_X9_108) ho_95 (mj_dt dt_X9_orders 110 rfl) ?_
  refine mj_go_iload_n (k := 3) (x := v3) rfl (mj_dt dt_X9_orders 111 rfl) ?_
  refine mj_go_iload_n (k := 2) (x := v2) rfl (mj_dt dt_X9_orders 112 rfl) ?_
  obtain ⟨c1, h⟩ := mj_ck_some h
  obtain ⟨m2, em2, h⟩ := mj_mw_some h
  refine ml_iast c1 (mj_dt dt_X9_orders 113 rfl) ?_
  refine ml_eqm (M1 := (mj_fin m2)) (by rw [em2] <;> rfl) ?_
  refine mj_go_aload_n (k := 0) (x := 95) rfl (mj_dt dt_X9_orders 114 rfl) ?_
  refine mj_go_dup rfl (mj_dt dt_X9_orders 115 rfl) ?_
  refine mk_getI (c := 9) (k := 44) (Or.inl fd_9_44) (Or.inl fl_X9_146) ho_95 (mj_dt dt_X9_orders 116 rfl) ?_
  refine mj_go_iconst (v := 1) rfl (mj_dt dt_X9_orders 117 rfl) ?_
  refine mj_go_iadd (mj_dt dt_X9_orders 118 rfl) ?_
  obtain ⟨m3, em3, h⟩ := mj_mw_some h
  refine ml_putI (c := 9) (k := 44) fd_9_44 rfl fl_X9_146 ho_95 (mj_dt dt_X9_orders 119 rfl) ?_
  refine ml_eqm (M1 := (mj_fin m3)) (by rw [em3] <;> rfl) ?_
  refine mj_go_sub (lv' := [(0, .ref 95), (1, .int v1), (2, .int v2)]) (List.forall_mem_cons.mpr ⟨rfl, (List.forall_mem_cons.mpr ⟨rfl, (List.forall_mem_cons.mpr ⟨rfl, (fun _ h9 => absurd h9 List.not_mem_nil)⟩)⟩)⟩) ?_
  exact k_X9_orders_201 q_112 hδ h
def f_X9_orders_138 (N : Nat) (k_112 : Int32 × mj_m → Option (mj_m)) (v1 : Int32) (v2 : Int32) (k_138 : Int32 × mj_m → Option (mj_m)) (s : Int32 × mj_m) : Option (mj_m) := if s.1 ≤ 0 then f_X9_orders_184 N k_112 v1 v2 s.1 s.2 else (mj_ck (mj_b 0 113 v1) ( mj_ck (mj_b 0 123 (s.1 - 1)) ( (f_X9_isAhead N (s.2.1 113 v1.toNatClampNeg) v2 (s.2.1 123 (s.1 - 1).toNatClampNeg) s.2).bind (fun r4 => if r4 = 0 then f_X9_orders_184 N k_112 v1 v2 s.1 s.2 else (mj_ck (mj_b 0 123 s.1) ( mj_mw (mj_wI s.2 123 (s.1.toNatClampNeg) (s.2.1 123 (s.1 - 1).toNatClampNeg)) (fun m7 => mj_mw (s.1 + (-1 : Int32)) (fun x8 => k_138 (x8, m7)))))))))
theorem k_X9_orders_138 {L : Nat} {xs : Nat → Int32} {δ N : Nat} {v1 : Int32} {v2 : Int32} {k_112 : Int32 × mj_m → Option (mj_m)} (q_112 : ∀ (s_ : Int32 × mj_m) (a_ : mj_m), k_112 s_ = some a_ → mj_Go (mj_EX L xs) (δ + 1) mY_X9_orders 112 [(0, .ref 95), (1, .int v1), (2, .int s_.1)] [] (mj_fin s_.2) (none, (mj_fin a_))) (hδ : 4 ≤ δ) : ∀ (n : Nat) (s : Int32 × mj_m) (a : mj_m), mj_lp n (f_X9_orders_138 N k_112 v1 v2) s = some a → mj_Go (mj_EX L xs) (δ + 1) mY_X9_orders 138 [(0, .ref 95), (1, .int v1), (2, .int v2), (3, .int s.1)] [] (mj_fin s.2) (none, (mj_fin a)) := by
  refine mj_lp_sound (fun k_138 s a q_138 h => ?_)
  unfold f_X9_orders_138 at h
  refine mj_go_iload_n (k := 3) (x := s.1) rfl (mj_dt dt_X9_orders 81 rfl) ?_
  refine mj_go_if_le (tgt := 184) rfl (mj_dt dt_X9_orders 82 rfl) (fun b1 => ?_) (fun b1 => ?_)
  · rw [if_pos b1] at h
    refine mj_go_sub (lv' := [(0, .ref 95), (1, .int v1), (2, .int v2), (3, .int s.1)]) (List.forall_mem_cons.mpr ⟨rfl, (List.forall_mem_cons.mpr ⟨rfl, (List.forall_mem_cons.mpr ⟨rfl, (List.forall_mem_cons.mpr ⟨rfl, (fun _ h9 => absurd h9 List.not_mem_nil)⟩)⟩)⟩)⟩) ?_
    exact k_X9_orders_184 q_112 hδ h
  · rw [if_neg b1] at h
    refine mj_go_aload_n (k := 0) (x := 95) rfl (mj_dt dt_X9_orders 83 rfl) ?_
    refine mj_go_aload_n (k := 0) (x := 95) rfl (mj_dt dt_X9_orders 84 rfl) ?_
    refine ml_getR (c := 9) (k := 28) (q := 113) fd_9_28 rf_95_28 (Or.inl fl_X9_77) ho_95 (mj_dt dt_X9_orders 85 rfl) ?_
    refine mj_go_iload_n (k := 1) (x := v1) rfl (mj_dt dt_X9_orders 86 rfl) ?_
    obtain ⟨c2, h⟩ := mj_ck_some h
    refine mk_iald c2 (mj_dt dt_X9_orders 87 rfl) ?_
    refine mj_go_iload_n (k := 2) (x := v2) rfl (mj_dt dt_X9_orders 88 rfl) ?_
    refine mj_go_aload_n (k := 0) (x := 95) rfl (mj_dt dt_X9_orders 89 rfl) ?_
    refine ml_getR (c := 9) (k := 43) (q := 123) fd_9_43 rf_95_43 (Or.inl fl_X9_108) ho_95 (mj_dt dt_X9_orders 90 rfl) ?_
    refine mj_go_iload_n (k := 3) (x := s.1) rfl (mj_dt dt_X9_orders 91 rfl) ?_
    refine mj_go_iconst (v := 1) rfl (mj_dt dt_X9_orders 92 rfl) ?_
    refine mj_go_isub (mj_dt dt_X9_orders 93 rfl) ?_
    obtain ⟨c3, h⟩ := mj_ck_some h
    refine mk_iald c3 (mj_dt dt_X9_orders 94 rfl) ?_
    obtain ⟨r4, er4, h⟩ := mj_bind_some h
    refine ml_callV (Y' := mY_X9_isAhead) (as := [.int (s.2.1 113 v1.toNatClampNeg), .int v2, .int (s.2.1 123 (s.1 - 1).toNatClampNeg)]) (rest := []) (c := 9) (v := (some (.int r4))) (M1 := (mj_fin s.2)) ho_95 rfl lm_X9_281 wc_X9_isAhead pl_X9_isAhead ok_X9_isAhead rfl rfl (Nat.le_of_ble_eq_true rfl) (k_X9_isAhead (by omega) er4) (mj_dt dt_X9_orders 95 rfl) ?_
    refine mj_go_if_eq (tgt := 184) rfl (mj_dt dt_X9_orders 96 rfl) (fun b5 => ?_) (fun b5 => ?_)
    · rw [if_pos b5] at h
      refine mj_go_sub (lv' := [(0, .ref 95), (1, .int v1), (2, .int v2), (3, .int s.1)]) (List.forall_mem_cons.mpr ⟨rfl, (List.forall_mem_cons.mpr ⟨rfl, (List.forall_mem_cons.mpr ⟨rfl, (List.forall_mem_cons.mpr ⟨rfl, (fun _ h9 => absurd h9 List.not_mem_nil)⟩)⟩)⟩)⟩) ?_
      exact k_X9_orders_184 q_112 hδ h
    · rw [if_neg b5] at h
      refine mj_go_aload_n (k := 0) (x := 95) rfl (mj_dt dt_X9_orders 97 rfl) ?_
      refine ml_getR (c := 9) (k := 43) (q := 123) fd_9_43 rf_95_43 (Or.inl fl_X9_108) ho_95 (mj_dt dt_X9_orders 98 rfl) ?_
      refine mj_go_iload_n (k := 3) (x := s.1) rfl (mj_dt dt_X9_orders 99 rfl) ?_
      refine mj_go_aload_n (k := 0) (x := 95) rfl (mj_dt dt_X9_orders 100 rfl) ?_
      refine ml_getR (c := 9) (k := 43) (q := 123) fd_9_43 rf_95_43 (Or.inl fl_X9_108) ho_95 (mj_dt dt_X9_orders 101 rfl) ?_
      refine mj_go_iload_n (k := 3) (x := s.1) rfl (mj_dt dt_X9_orders 102 rfl) ?_
      refine mj_go_iconst (v := 1) rfl (mj_dt dt_X9_orders 103 rfl) ?_
      refine mj_go_isub (mj_dt dt_X9_orders 104 rfl) ?_
      refine mk_iald c3 (mj_dt dt_X9_orders 105 rfl) ?_
      obtain ⟨c6, h⟩ := mj_ck_some h
      obtain ⟨m7, em7, h⟩ := mj_mw_some h
      refine ml_iast c6 (mj_dt dt_X9_orders 106 rfl) ?_
      refine ml_eqm (M1 := (mj_fin m7)) (by rw [em7] <;> rfl) ?_
      obtain ⟨x8, ex8, h⟩ := mj_mw_some h
      refine mj_go_iinc (i := 3) (x := s.1) (v := x8) rfl (by rw [ex8] <;> rfl) (by decide) (mj_dt dt_X9_orders 107 rfl) ?_
      refine mj_go_goto (tgt := 138) rfl (mj_dt dt_X9_orders 108 rfl) ?_
      refine mj_go_sub (lv' := [(0, .ref 95), (1, .int v1), (2, .int v2), (3, .int x8)]) (List.forall_mem_cons.mpr ⟨rfl, (List.forall_mem_cons.mpr ⟨rfl, (List.forall_mem_cons.mpr ⟨rfl, (List.forall_mem_cons.mpr ⟨rfl, (fun _ h9 => absurd h9 List.not_mem_nil)⟩)⟩)⟩)⟩) ?_
      exact q_138 _ _ h
def f_X9_orders_112 (N : Nat) (v1 : Int32) (k_112 : Int32 × mj_m → Option (mj_m)) (s : Int32 × mj_m) : Option (mj_m) := if (s.2.1 95 1) ≤ s.1 then (some s.2) else (mj_ck (mj_b 0 108 s.1) ( if (s.2.1 108 s.1.toNatClampNeg) = 2 then (f_X9_orders_201 N k_112 v1 s.1 s.2) else (mj_mw (s.2.1 95 44) (fun x4 => mj_lp N (f_X9_orders_138 N k_112 v1 s.1) (x4, s.2)))))
theorem k_X9_orders_112 {L : Nat} {xs : Nat → Int32} {δ N : Nat} {v1 : Int32} (hδ : 4 ≤ δ) : ∀ (n : Nat) (s : Int32 × mj_m) (a : mj_m), mj_lp n (f_X9_orders_112 N v1) s = some a → mj_Go (mj_EX L xs) (δ + 1) mY_X9_orders 112 [(0, .ref 95), (1, .int v1), (2, .int s.1)] [] (mj_fin s.2) (none, (mj_fin a)) := by
  refine mj_lp_sound (fun k_112 s a q_112 h => ?_)
  unfold f_X9_orders_112 at h
  refine mj_go_iload_n (k := 2) (x := s.1) rfl (mj_dt dt_X9_orders 67 rfl) ?_
  refine mj_go_aload_n (k := 0) (x := 95) rfl (mj_dt dt_X9_orders 68 rfl) ?_
  refine mk_getI (c := 9) (k := 1) (Or.inl fd_9_1) (Or.inl fl_X9_124) ho_95 (mj_dt dt_X9_orders 69 rfl) ?_
  refine mj_go_icmp_ge (tgt := 207) rfl (mj_dt dt_X9_orders 70 rfl) (fun b1 => ?_) (fun b1 => ?_)
  · rw [if_pos b1] at h
    obtain rfl := Option.some.inj h
    exact mj_go_ret (v := none) (Nat.le_of_ble_eq_true rfl) (mj_retV (mj_dt dt_X9_orders 122 rfl) rfl)
  · rw [if_neg b1] at h
    refine mj_go_aload_n (k := 0) (x := 95) rfl (mj_dt dt_X9_orders 71 rfl) ?_
    refine ml_getR (c := 9) (k := 23) (q := 108) fd_9_23 rf_95_23 (Or.inl fl_X9_62) ho_95 (mj_dt dt_X9_orders 72 rfl) ?_
    refine mj_go_iload_n (k := 2) (x := s.1) rfl (mj_dt dt_X9_orders 73 rfl) ?_
    obtain ⟨c2, h⟩ := mj_ck_some h
    refine mk_iald c2 (mj_dt dt_X9_orders 74 rfl) ?_
    refine mj_go_iconst (v := 2) rfl (mj_dt dt_X9_orders 75 rfl) ?_
    refine mj_go_icmp_ne (tgt := 133) rfl (mj_dt dt_X9_orders 76 rfl) (fun b3 => ?_) (fun b3 => ?_)
    · rw [if_neg b3] at h
      refine mj_go_aload_n (k := 0) (x := 95) rfl (mj_dt dt_X9_orders 78 rfl) ?_
      refine mk_getI (c := 9) (k := 44) (Or.inl fd_9_44) (Or.inl fl_X9_146) ho_95 (mj_dt dt_X9_orders 79 rfl) ?_
      obtain ⟨x4, ex4, h⟩ := mj_mw_some h
      refine ml_eqi ex4 ?_
      refine mj_go_istore_n (k := 3) (by decide) (mj_dt dt_X9_orders 80 rfl) ?_
      refine mj_go_sub (lv' := [(0, .ref 95), (1, .int v1), (2, .int s.1), (3, .int x4)]) (List.forall_mem_cons.mpr ⟨rfl, (List.forall_mem_cons.mpr ⟨rfl, (List.forall_mem_cons.mpr ⟨rfl, (List.forall_mem_cons.mpr ⟨rfl, (fun _ h9 => absurd h9 List.not_mem_nil)⟩)⟩)⟩)⟩) ?_
      exact k_X9_orders_138 q_112 hδ N _ _ h
    · rw [if_pos b3] at h
      refine mj_go_goto (tgt := 201) rfl (mj_dt dt_X9_orders 77 rfl) ?_
      refine mj_go_sub (lv' := [(0, .ref 95), (1, .int v1), (2, .int s.1)]) (List.forall_mem_cons.mpr ⟨rfl, (List.forall_mem_cons.mpr ⟨rfl, (List.forall_mem_cons.mpr ⟨rfl, (fun _ h9 => absurd h9 List.not_mem_nil)⟩)⟩)⟩) ?_
      exact k_X9_orders_201 q_112 hδ h
def f_X9_orders_99 (N : Nat) (k_39 : Int32 × mj_m → Option (mj_m)) (v1 : Int32) (v2 : Int32) (m : mj_m) : Option (mj_m) := mj_mw (v2 + 1) (fun x1 => k_39 (x1, m))
theorem k_X9_orders_99 {L : Nat} {xs : Nat → Int32} {δ N : Nat} {v1 : Int32} {v2 : Int32} {m : mj_m} {k_39 : Int32 × mj_m → Option (mj_m)} (q_39 : ∀ (s_ : Int32 × mj_m) (a_ : mj_m), k_39 s_ = some a_ → mj_Go (mj_EX L xs) (δ + 1) mY_X9_orders 39 [(0, .ref 95), (1, .int v1), (2, .int s_.1)] [] (mj_fin s_.2) (none, (mj_fin a_))) (hδ : 4 ≤ δ) {a : mj_m} (h : f_X9_orders_99 N k_39 v1 v2 m = some a) : mj_Go (mj_EX L xs) (δ + 1) mY_X9_orders 99 [(0, .ref 95), (1, .int v1), (2, .int v2)] [] (mj_fin m) (none, (mj_fin a)) := by
  unfold f_X9_orders_99 at h
  obtain ⟨x1, ex1, h⟩ := mj_mw_some h
  refine mj_go_iinc (i := 2) (x := v2) (v := x1) rfl (by rw [ex1] <;> rfl) (by decide) (mj_dt dt_X9_orders 60 rfl) ?_
  refine mj_go_goto (tgt := 39) rfl (mj_dt dt_X9_orders 61 rfl) ?_
  refine mj_go_sub (lv' := [(0, .ref 95), (1, .int v1), (2, .int x1)]) (List.forall_mem_cons.mpr ⟨rfl, (List.forall_mem_cons.mpr ⟨rfl, (List.forall_mem_cons.mpr ⟨rfl, (fun _ h9 => absurd h9 List.not_mem_nil)⟩)⟩)⟩) ?_
  exact q_39 _ _ h
def f_X9_orders_39 (N : Nat) (v1 : Int32) (k_39 : Int32 × mj_m → Option (mj_m)) (s : Int32 × mj_m) : Option (mj_m) := mj_ck (mj_b 0 112 v1) ( if (s.2.1 112 v1.toNatClampNeg) ≤ s.1 then ((f_X9_rests N s.2).bind (fun r3 => some r3)) else ((f_X9_intAt N v1 s.1 s.2).bind (fun r3 => (f_X9_isHouse N r3 s.2).bind (fun r4 => if r4 = 0 then f_X9_orders_99 N k_39 v1 s.1 s.2 else (mj_ck (mj_b 0 108 r3) ( if 2 ≤ (s.2.1 108 r3.toNatClampNeg) then f_X9_orders_99 N k_39 v1 s.1 s.2 else ((f_X9_isIn N r3 s.2).bind (fun r8 => if r8 = 0 then (mj_mw (mj_wI s.2 95 44 ((s.2.1 95 44) + 1)) (fun m10 => mj_ck (mj_b 0 123 (s.2.1 95 44)) ( mj_mw (mj_wI m10 123 ((s.2.1 95 44).toNatClampNeg) r3) (fun m12 => f_X9_orders_99 N k_39 v1 s.1 m12)))) else f_X9_orders_99 N k_39 v1 s.1 s.2))))))))
theorem k_X9_orders_39 {L : Nat} {xs : Nat → Int32} {δ N : Nat} {v1 : Int32} (hδ : 4 ≤ δ) : ∀ (n : Nat) (s : Int32 × mj_m) (a : mj_m), mj_lp n (f_X9_orders_39 N v1) s = some a → mj_Go (mj_EX L xs) (δ + 1) mY_X9_orders 39 [(0, .ref 95), (1, .int v1), (2, .int s.1)] [] (mj_fin s.2) (none, (mj_fin a)) := by
  refine mj_lp_sound (fun k_39 s a q_39 h => ?_)
  unfold f_X9_orders_39 at h
  refine mj_go_iload_n (k := 2) (x := s.1) rfl (mj_dt dt_X9_orders 24 rfl) ?_
  refine mj_go_aload_n (k := 0) (x := 95) rfl (mj_dt dt_X9_orders 25 rfl) ?_
  refine ml_getR (c := 9) (k := 27) (q := 112) fd_9_27 rf_95_27 (Or.inl fl_X9_74) ho_95 (mj_dt dt_X9_orders 26 rfl) ?_
  refine mj_go_iload_n (k := 1) (x := v1) rfl (mj_dt dt_X9_orders 27 rfl) ?_
  obtain ⟨c1, h⟩ := mj_ck_some h
  refine mk_iald c1 (mj_dt dt_X9_orders 28 rfl) ?_
  refine mj_go_icmp_ge (tgt := 105) rfl (mj_dt dt_X9_orders 29 rfl) (fun b2 => ?_) (fun b2 => ?_)
  · rw [if_pos b2] at h
    refine mj_go_aload_n (k := 0) (x := 95) rfl (mj_dt dt_X9_orders 62 rfl) ?_
    obtain ⟨r3, er3, h⟩ := mj_bind_some h
    refine ml_callV (Y' := mY_X9_rests) (as := []) (rest := []) (c := 9) (v := none) (M1 := (mj_fin r3)) ho_95 rfl lm_X9_275 wc_X9_rests pl_X9_rests ok_X9_rests rfl rfl (Nat.le_of_ble_eq_true rfl) (k_X9_rests (by omega) er3) (mj_dt dt_X9_orders 63 rfl) ?_
    obtain rfl := Option.some.inj h
    exact mj_go_ret (v := none) (Nat.le_of_ble_eq_true rfl) (mj_retV (mj_dt dt_X9_orders 64 rfl) rfl)
  · rw [if_neg b2] at h
    refine mj_go_aload_n (k := 0) (x := 95) rfl (mj_dt dt_X9_orders 30 rfl) ?_
    refine mj_go_iload_n (k := 1) (x := v1) rfl (mj_dt dt_X9_orders 31 rfl) ?_
    refine mj_go_iload_n (k := 2) (x := s.1) rfl (mj_dt dt_X9_orders 32 rfl) ?_
    obtain ⟨r3, er3, h⟩ := mj_bind_some h
    refine ml_callV (Y' := mY_X9_intAt) (as := [.int v1, .int s.1]) (rest := []) (c := 9) (v := (some (.int r3))) (M1 := (mj_fin s.2)) ho_95 rfl lm_X9_165 wc_X9_intAt pl_X9_intAt ok_X9_intAt rfl rfl (Nat.le_of_ble_eq_true rfl) (k_X9_intAt (by omega) er3) (mj_dt dt_X9_orders 33 rfl) ?_
    refine mj_go_istore_n (k := 3) (by decide) (mj_dt dt_X9_orders 34 rfl) ?_
    refine mj_go_aload_n (k := 0) (x := 95) rfl (mj_dt dt_X9_orders 35 rfl) ?_
    refine mj_go_iload_n (k := 3) (x := r3) rfl (mj_dt dt_X9_orders 36 rfl) ?_
    obtain ⟨r4, er4, h⟩ := mj_bind_some h
    refine ml_callV (Y' := mY_X9_isHouse) (as := [.int r3]) (rest := []) (c := 9) (v := (some (.int r4))) (M1 := (mj_fin s.2)) ho_95 rfl lm_X9_168 wc_X9_isHouse pl_X9_isHouse ok_X9_isHouse rfl rfl (Nat.le_of_ble_eq_true rfl) (k_X9_isHouse (by omega) er4) (mj_dt dt_X9_orders 37 rfl) ?_
    refine mj_go_if_eq (tgt := 99) rfl (mj_dt dt_X9_orders 38 rfl) (fun b5 => ?_) (fun b5 => ?_)
    · rw [if_pos b5] at h
      refine mj_go_sub (lv' := [(0, .ref 95), (1, .int v1), (2, .int s.1)]) (List.forall_mem_cons.mpr ⟨rfl, (List.forall_mem_cons.mpr ⟨rfl, (List.forall_mem_cons.mpr ⟨rfl, (fun _ h9 => absurd h9 List.not_mem_nil)⟩)⟩)⟩) ?_
      exact k_X9_orders_99 q_39 hδ h
    · rw [if_neg b5] at h
      refine mj_go_aload_n (k := 0) (x := 95) rfl (mj_dt dt_X9_orders 39 rfl) ?_
      refine ml_getR (c := 9) (k := 23) (q := 108) fd_9_23 rf_95_23 (Or.inl fl_X9_62) ho_95 (mj_dt dt_X9_orders 40 rfl) ?_
      refine mj_go_iload_n (k := 3) (x := r3) rfl (mj_dt dt_X9_orders 41 rfl) ?_
      obtain ⟨c6, h⟩ := mj_ck_some h
      refine mk_iald c6 (mj_dt dt_X9_orders 42 rfl) ?_
      refine mj_go_iconst (v := 2) rfl (mj_dt dt_X9_orders 43 rfl) ?_
      refine mj_go_icmp_ge (tgt := 99) rfl (mj_dt dt_X9_orders 44 rfl) (fun b7 => ?_) (fun b7 => ?_)
      · rw [if_pos b7] at h
        refine mj_go_sub (lv' := [(0, .ref 95), (1, .int v1), (2, .int s.1)]) (List.forall_mem_cons.mpr ⟨rfl, (List.forall_mem_cons.mpr ⟨rfl, (List.forall_mem_cons.mpr ⟨rfl, (fun _ h9 => absurd h9 List.not_mem_nil)⟩)⟩)⟩) ?_
        exact k_X9_orders_99 q_39 hδ h
      · rw [if_neg b7] at h
        refine mj_go_aload_n (k := 0) (x := 95) rfl (mj_dt dt_X9_orders 45 rfl) ?_
        refine mj_go_iload_n (k := 3) (x := r3) rfl (mj_dt dt_X9_orders 46 rfl) ?_
        obtain ⟨r8, er8, h⟩ := mj_bind_some h
        refine ml_callV (Y' := mY_X9_isIn) (as := [.int r3]) (rest := []) (c := 9) (v := (some (.int r8))) (M1 := (mj_fin s.2)) ho_95 rfl lm_X9_272 wc_X9_isIn pl_X9_isIn ok_X9_isIn rfl rfl (Nat.le_of_ble_eq_true rfl) (k_X9_isIn (by omega) er8) (mj_dt dt_X9_orders 47 rfl) ?_
        refine mj_go_if_ne (tgt := 99) rfl (mj_dt dt_X9_orders 48 rfl) (fun b9 => ?_) (fun b9 => ?_)
        · rw [if_neg b9] at h
          refine mj_go_sub (lv' := [(0, .ref 95), (1, .int v1), (2, .int s.1)]) (List.forall_mem_cons.mpr ⟨rfl, (List.forall_mem_cons.mpr ⟨rfl, (List.forall_mem_cons.mpr ⟨rfl, (fun _ h9 => absurd h9 List.not_mem_nil)⟩)⟩)⟩) ?_
          exact k_X9_orders_99 q_39 hδ h
        · rw [if_pos b9] at h
          refine mj_go_aload_n (k := 0) (x := 95) rfl (mj_dt dt_X9_orders 49 rfl) ?_
          refine ml_getR (c := 9) (k := 43) (q := 123) fd_9_43 rf_95_43 (Or.inl fl_X9_108) ho_95 (mj_dt dt_X9_orders 50 rfl) ?_
          refine mj_go_aload_n (k := 0) (x := 95) rfl (mj_dt dt_X9_orders 51 rfl) ?_
          refine mj_go_dup rfl (mj_dt dt_X9_orders 52 rfl) ?_
          refine mk_getI (c := 9) (k := 44) (Or.inl fd_9_44) (Or.inl fl_X9_146) ho_95 (mj_dt dt_X9_orders 53 rfl) ?_
          refine mj_go_dup_x1 rfl rfl (mj_dt dt_X9_orders 54 rfl) ?_
          refine mj_go_iconst (v := 1) rfl (mj_dt dt_X9_orders 55 rfl) ?_
          refine mj_go_iadd (mj_dt dt_X9_orders 56 rfl) ?_
          obtain ⟨m10, em10, h⟩ := mj_mw_some h
          refine ml_putI (c := 9) (k := 44) fd_9_44 rfl fl_X9_146 ho_95 (mj_dt dt_X9_orders 57 rfl) ?_
          refine ml_eqm (M1 := (mj_fin m10)) (by rw [em10] <;> rfl) ?_
          refine mj_go_iload_n (k := 3) (x := r3) rfl (mj_dt dt_X9_orders 58 rfl) ?_
          obtain ⟨c11, h⟩ := mj_ck_some h
          obtain ⟨m12, em12, h⟩ := mj_mw_some h
          refine ml_iast c11 (mj_dt dt_X9_orders 59 rfl) ?_
          refine ml_eqm (M1 := (mj_fin m12)) (by rw [em12] <;> rfl) ?_
          refine mj_go_sub (lv' := [(0, .ref 95), (1, .int v1), (2, .int s.1)]) (List.forall_mem_cons.mpr ⟨rfl, (List.forall_mem_cons.mpr ⟨rfl, (List.forall_mem_cons.mpr ⟨rfl, (fun _ h9 => absurd h9 List.not_mem_nil)⟩)⟩)⟩) ?_
          exact k_X9_orders_99 q_39 hδ h
def f_X9_orders (N : Nat) (v1 : Int32) (m : mj_m) : Option (mj_m) := mj_mw (mj_wI m 95 44 0) (fun m1 => mj_ck (mj_b 0 113 v1) ( if (m1.1 113 v1.toNatClampNeg) = 4 then (mj_ck (mj_b 0 114 v1) ( (f_X9_saves N (m1.1 114 v1.toNatClampNeg) m1).bind (fun r5 => some r5))) else (if (m1.1 113 v1.toNatClampNeg) = 6 then (mj_lp N (f_X9_orders_39 N v1) (0, m1)) else (mj_lp N (f_X9_orders_112 N v1) (0, m1)))))
theorem k_X9_orders {L : Nat} {xs : Nat → Int32} {δ N : Nat} {v1 : Int32} {m : mj_m} (hδ : 5 ≤ δ) {a : mj_m} (h : f_X9_orders N v1 m = some a) : mj_Cl (mj_EX L xs) δ mY_X9_orders [.ref 95, .int v1] (mj_fin m) (none, (mj_fin a)) := by
  obtain ⟨δ, rfl⟩ : ∃ d, δ = d + 1 := ⟨δ - 1, by omega⟩
  have hδ : 4 ≤ δ := by omega
  refine mj_cl_of ok_X9_orders (Nat.le_of_ble_eq_true rfl) ?_
  unfold f_X9_orders at h
  refine mj_go_aload_n (k := 0) (x := 95) rfl (mj_dt dt_X9_orders 0 rfl) ?_
  refine mj_go_iconst (v := 0) rfl (mj_dt dt_X9_orders 1 rfl) ?_
  obtain ⟨m1, em1, h⟩ := mj_mw_some h
  refine ml_putI (c := 9) (k := 44) fd_9_44 rfl fl_X9_146 ho_95 (mj_dt dt_X9_orders 2 rfl) ?_
  refine ml_eqm (M1 := (mj_fin m1)) (by rw [em1] <;> rfl) ?_
  refine mj_go_aload_n (k := 0) (x := 95) rfl (mj_dt dt_X9_orders 3 rfl) ?_
  refine ml_getR (c := 9) (k := 28) (q := 113) fd_9_28 rf_95_28 (Or.inl fl_X9_77) ho_95 (mj_dt dt_X9_orders 4 rfl) ?_
  refine mj_go_iload_n (k := 1) (x := v1) rfl (mj_dt dt_X9_orders 5 rfl) ?_
  obtain ⟨c2, h⟩ := mj_ck_some h
  refine mk_iald c2 (mj_dt dt_X9_orders 6 rfl) ?_
  refine mj_go_iconst (v := 4) rfl (mj_dt dt_X9_orders 7 rfl) ?_
  refine mj_go_icmp_ne (tgt := 26) rfl (mj_dt dt_X9_orders 8 rfl) (fun b3 => ?_) (fun b3 => ?_)
  · rw [if_neg b3] at h
    refine mj_go_aload_n (k := 0) (x := 95) rfl (mj_dt dt_X9_orders 16 rfl) ?_
    refine ml_getR (c := 9) (k := 28) (q := 113) fd_9_28 rf_95_28 (Or.inl fl_X9_77) ho_95 (mj_dt dt_X9_orders 17 rfl) ?_
    refine mj_go_iload_n (k := 1) (x := v1) rfl (mj_dt dt_X9_orders 18 rfl) ?_
    refine mk_iald c2 (mj_dt dt_X9_orders 19 rfl) ?_
    refine mj_go_bipush (v := 6) rfl (mj_dt dt_X9_orders 20 rfl) ?_
    refine mj_go_icmp_ne (tgt := 110) rfl (mj_dt dt_X9_orders 21 rfl) (fun b4 => ?_) (fun b4 => ?_)
    · rw [if_neg b4] at h
      refine mj_go_iconst (v := 0) rfl (mj_dt dt_X9_orders 65 rfl) ?_
      refine mj_go_istore_n (k := 2) (by decide) (mj_dt dt_X9_orders 66 rfl) ?_
      refine mj_go_sub (lv' := [(0, .ref 95), (1, .int v1), (2, .int 0)]) (List.forall_mem_cons.mpr ⟨rfl, (List.forall_mem_cons.mpr ⟨rfl, (List.forall_mem_cons.mpr ⟨rfl, (fun _ h9 => absurd h9 List.not_mem_nil)⟩)⟩)⟩) ?_
      exact k_X9_orders_112 hδ N _ _ h
    · rw [if_pos b4] at h
      refine mj_go_iconst (v := 0) rfl (mj_dt dt_X9_orders 22 rfl) ?_
      refine mj_go_istore_n (k := 2) (by decide) (mj_dt dt_X9_orders 23 rfl) ?_
      refine mj_go_sub (lv' := [(0, .ref 95), (1, .int v1), (2, .int 0)]) (List.forall_mem_cons.mpr ⟨rfl, (List.forall_mem_cons.mpr ⟨rfl, (List.forall_mem_cons.mpr ⟨rfl, (fun _ h9 => absurd h9 List.not_mem_nil)⟩)⟩)⟩) ?_
      exact k_X9_orders_39 hδ N _ _ h
  · rw [if_pos b3] at h
    refine mj_go_aload_n (k := 0) (x := 95) rfl (mj_dt dt_X9_orders 9 rfl) ?_
    refine mj_go_aload_n (k := 0) (x := 95) rfl (mj_dt dt_X9_orders 10 rfl) ?_
    refine ml_getR (c := 9) (k := 29) (q := 114) fd_9_29 rf_95_29 (Or.inl fl_X9_80) ho_95 (mj_dt dt_X9_orders 11 rfl) ?_
    refine mj_go_iload_n (k := 1) (x := v1) rfl (mj_dt dt_X9_orders 12 rfl) ?_
    obtain ⟨c4, h⟩ := mj_ck_some h
    refine mk_iald c4 (mj_dt dt_X9_orders 13 rfl) ?_
    obtain ⟨r5, er5, h⟩ := mj_bind_some h
    refine ml_callV (Y' := mY_X9_saves) (as := [.int (m1.1 114 v1.toNatClampNeg)]) (rest := []) (c := 9) (v := none) (M1 := (mj_fin r5)) ho_95 rfl lm_X9_278 wc_X9_saves pl_X9_saves ok_X9_saves rfl rfl (Nat.le_of_ble_eq_true rfl) (k_X9_saves (by omega) er5) (mj_dt dt_X9_orders 14 rfl) ?_
    obtain rfl := Option.some.inj h
    exact mj_go_ret (v := none) (Nat.le_of_ble_eq_true rfl) (mj_retV (mj_dt dt_X9_orders 15 rfl) rfl)
def f_X9_says_18 (N : Nat) (m : mj_m) : Option (Int32 × mj_m) := (f_X9_no N (-1 : Int32) m).bind (fun r1 => some (r1.1, r1.2))
theorem k_X9_says_18 {L : Nat} {xs : Nat → Int32} {δ N : Nat} {m : mj_m} (hδ : 5 ≤ δ) {a : Int32 × mj_m} (h : f_X9_says_18 N m = some a) : mj_Go (mj_EX L xs) (δ + 1) mY_X9_says 18 [(0, .ref 95)] [] (mj_fin m) (some (.int a.1), (mj_fin a.2)) := by
  unfold f_X9_says_18 at h
  refine mj_go_aload_n (k := 0) (x := 95) rfl (mj_dt dt_X9_says 9 rfl) ?_
  refine mj_go_iconst (v := -1) rfl (mj_dt dt_X9_says 10 rfl) ?_
  obtain ⟨r1, er1, h⟩ := mj_bind_some h
  refine ml_callV (Y' := mY_X9_no) (as := [.int (-1 : Int32)]) (rest := []) (c := 9) (v := (some (.int r1.1))) (M1 := (mj_fin r1.2)) ho_95 rfl lm_X9_134 wc_X9_no pl_X9_no ok_X9_no rfl rfl (Nat.le_of_ble_eq_true rfl) (k_X9_no (by omega) er1) (mj_dt dt_X9_says 11 rfl) ?_
  obtain rfl := Option.some.inj h
  exact mj_go_ret (v := some (.int r1.1)) (Nat.le_of_ble_eq_true rfl) (mj_retI (mj_dt dt_X9_says 12 rfl) rfl)
def f_X9_says_198 (N : Nat) (m : mj_m) : Option (Int32 × mj_m) := mj_ck (mj_b 0 123 0) ( (some (m.1 123 (0 : Int32).toNatClampNeg, m)))
theorem k_X9_says_198 {L : Nat} {xs : Nat → Int32} {δ N : Nat} {m : mj_m} (hδ : 5 ≤ δ) {a : Int32 × mj_m} (h : f_X9_says_198 N m = some a) : mj_Go (mj_EX L xs) (δ + 1) mY_X9_says 198 [(0, .ref 95)] [] (mj_fin m) (some (.int a.1), (mj_fin a.2)) := by
  unfold f_X9_says_198 at h
  refine mj_go_aload_n (k := 0) (x := 95) rfl (mj_dt dt_X9_says 112 rfl) ?_
  refine ml_getR (c := 9) (k := 43) (q := 123) fd_9_43 rf_95_43 (Or.inl fl_X9_108) ho_95 (mj_dt dt_X9_says 113 rfl) ?_
  refine mj_go_iconst (v := 0) rfl (mj_dt dt_X9_says 114 rfl) ?_
  obtain ⟨c1, h⟩ := mj_ck_some h
  refine mk_iald c1 (mj_dt dt_X9_says 115 rfl) ?_
  refine mj_go_goto (tgt := 218) rfl (mj_dt dt_X9_says 116 rfl) ?_
  obtain rfl := Option.some.inj h
  exact mj_go_ret (v := some (.int (m.1 123 (0 : Int32).toNatClampNeg))) (Nat.le_of_ble_eq_true rfl) (mj_retI (mj_dt dt_X9_says 124 rfl) rfl)
def f_X9_says_163 (N : Nat) (k_135 : Int32 × Int32 → Option (Int32 × mj_m)) (v1 : Int32) (v4 : Int32) (v5 : Int32) (m : mj_m) : Option (Int32 × mj_m) := mj_mw (v5 + 1) (fun x1 => k_135 (v4, x1))
theorem k_X9_says_163 {L : Nat} {xs : Nat → Int32} {δ N : Nat} {v1 : Int32} {v4 : Int32} {v5 : Int32} {m : mj_m} {k_135 : Int32 × Int32 → Option (Int32 × mj_m)} (q_135 : ∀ (s_ : Int32 × Int32) (a_ : Int32 × mj_m), k_135 s_ = some a_ → mj_Go (mj_EX L xs) (δ + 1) mY_X9_says 135 [(0, .ref 95), (1, .int v1), (4, .int s_.1), (5, .int s_.2)] [] (mj_fin m) (some (.int a_.1), (mj_fin a_.2))) (hδ : 5 ≤ δ) {a : Int32 × mj_m} (h : f_X9_says_163 N k_135 v1 v4 v5 m = some a) : mj_Go (mj_EX L xs) (δ + 1) mY_X9_says 163 [(0, .ref 95), (1, .int v1), (4, .int v4), (5, .int v5)] [] (mj_fin m) (some (.int a.1), (mj_fin a.2)) := by
  unfold f_X9_says_163 at h
  obtain ⟨x1, ex1, h⟩ := mj_mw_some h
  refine mj_go_iinc (i := 5) (x := v5) (v := x1) rfl (by rw [ex1] <;> rfl) (by decide) (mj_dt dt_X9_says 94 rfl) ?_
  refine mj_go_goto (tgt := 135) rfl (mj_dt dt_X9_says 95 rfl) ?_
  refine mj_go_sub (lv' := [(0, .ref 95), (1, .int v1), (4, .int v4), (5, .int x1)]) (List.forall_mem_cons.mpr ⟨rfl, (List.forall_mem_cons.mpr ⟨rfl, (List.forall_mem_cons.mpr ⟨rfl, (List.forall_mem_cons.mpr ⟨rfl, (fun _ h9 => absurd h9 List.not_mem_nil)⟩)⟩)⟩)⟩) ?_
  exact q_135 _ _ h
def f_X9_says_135 (N : Nat) (v1 : Int32) (m : mj_m) (k_135 : Int32 × Int32 → Option (Int32 × mj_m)) (s : Int32 × Int32) : Option (Int32 × mj_m) := if (m.1 95 1) ≤ s.2 then (some (s.1, m)) else (mj_ck (mj_b 0 105 s.2) ( mj_ck (mj_b 0 114 v1) ( if (m.1 114 v1.toNatClampNeg) < (m.1 105 s.2.toNatClampNeg) then f_X9_says_163 N k_135 v1 s.1 s.2 m else (mj_mw (s.1 + 1) (fun x5 => f_X9_says_163 N k_135 v1 x5 s.2 m)))))
theorem k_X9_says_135 {L : Nat} {xs : Nat → Int32} {δ N : Nat} {v1 : Int32} {m : mj_m} (hδ : 5 ≤ δ) : ∀ (n : Nat) (s : Int32 × Int32) (a : Int32 × mj_m), mj_lp n (f_X9_says_135 N v1 m) s = some a → mj_Go (mj_EX L xs) (δ + 1) mY_X9_says 135 [(0, .ref 95), (1, .int v1), (4, .int s.1), (5, .int s.2)] [] (mj_fin m) (some (.int a.1), (mj_fin a.2)) := by
  refine mj_lp_sound (fun k_135 s a q_135 h => ?_)
  unfold f_X9_says_135 at h
  refine mj_go_iload (i := 5) (x := s.2) rfl (mj_dt dt_X9_says 80 rfl) ?_
  refine mj_go_aload_n (k := 0) (x := 95) rfl (mj_dt dt_X9_says 81 rfl) ?_
  refine mk_getI (c := 9) (k := 1) (Or.inl fd_9_1) (Or.inl fl_X9_124) ho_95 (mj_dt dt_X9_says 82 rfl) ?_
  refine mj_go_icmp_ge (tgt := 169) rfl (mj_dt dt_X9_says 83 rfl) (fun b1 => ?_) (fun b1 => ?_)
  · rw [if_pos b1] at h
    refine mj_go_iload (i := 4) (x := s.1) rfl (mj_dt dt_X9_says 96 rfl) ?_
    obtain rfl := Option.some.inj h
    exact mj_go_ret (v := some (.int s.1)) (Nat.le_of_ble_eq_true rfl) (mj_retI (mj_dt dt_X9_says 97 rfl) rfl)
  · rw [if_neg b1] at h
    refine mj_go_aload_n (k := 0) (x := 95) rfl (mj_dt dt_X9_says 84 rfl) ?_
    refine ml_getR (c := 9) (k := 20) (q := 105) fd_9_20 rf_95_20 (Or.inl fl_X9_53) ho_95 (mj_dt dt_X9_says 85 rfl) ?_
    refine mj_go_iload (i := 5) (x := s.2) rfl (mj_dt dt_X9_says 86 rfl) ?_
    obtain ⟨c2, h⟩ := mj_ck_some h
    refine mk_iald c2 (mj_dt dt_X9_says 87 rfl) ?_
    refine mj_go_aload_n (k := 0) (x := 95) rfl (mj_dt dt_X9_says 88 rfl) ?_
    refine ml_getR (c := 9) (k := 29) (q := 114) fd_9_29 rf_95_29 (Or.inl fl_X9_80) ho_95 (mj_dt dt_X9_says 89 rfl) ?_
    refine mj_go_iload_n (k := 1) (x := v1) rfl (mj_dt dt_X9_says 90 rfl) ?_
    obtain ⟨c3, h⟩ := mj_ck_some h
    refine mk_iald c3 (mj_dt dt_X9_says 91 rfl) ?_
    refine mj_go_icmp_gt (tgt := 163) rfl (mj_dt dt_X9_says 92 rfl) (fun b4 => ?_) (fun b4 => ?_)
    · rw [if_pos b4] at h
      refine mj_go_sub (lv' := [(0, .ref 95), (1, .int v1), (4, .int s.1), (5, .int s.2)]) (List.forall_mem_cons.mpr ⟨rfl, (List.forall_mem_cons.mpr ⟨rfl, (List.forall_mem_cons.mpr ⟨rfl, (List.forall_mem_cons.mpr ⟨rfl, (fun _ h9 => absurd h9 List.not_mem_nil)⟩)⟩)⟩)⟩) ?_
      exact k_X9_says_163 q_135 hδ h
    · rw [if_neg b4] at h
      obtain ⟨x5, ex5, h⟩ := mj_mw_some h
      refine mj_go_iinc (i := 4) (x := s.1) (v := x5) rfl (by rw [ex5] <;> rfl) (by decide) (mj_dt dt_X9_says 93 rfl) ?_
      refine mj_go_sub (lv' := [(0, .ref 95), (1, .int v1), (4, .int x5), (5, .int s.2)]) (List.forall_mem_cons.mpr ⟨rfl, (List.forall_mem_cons.mpr ⟨rfl, (List.forall_mem_cons.mpr ⟨rfl, (List.forall_mem_cons.mpr ⟨rfl, (fun _ h9 => absurd h9 List.not_mem_nil)⟩)⟩)⟩)⟩) ?_
      exact k_X9_says_163 q_135 hδ h
def f_X9_says_100 (N : Nat) (v1 : Int32) (v2 : Int32) (m : mj_m) : Option (Int32 × mj_m) := if v2 = 0 then (mj_ck (mj_b 0 114 v1) ( some (m.1 114 v1.toNatClampNeg, m))) else (if v2 = 6 then (mj_ck (mj_b 0 112 v1) ( some (m.1 112 v1.toNatClampNeg, m))) else (if v2 = 4 then (mj_lp N (f_X9_says_135 N v1 m) (0, 0)) else ((f_X9_orders N v1 m).bind (fun r4 => if (r4.1 95 44) = 0 then ((some ((-1 : Int32), r4))) else (if v2 = 1 then f_X9_says_198 N r4 else (if v2 = 3 then f_X9_says_198 N r4 else (mj_ck (mj_b 0 123 ((r4.1 95 44) - 1)) ( (some (r4.1 123 ((r4.1 95 44) - 1).toNatClampNeg, r4))))))))))
theorem k_X9_says_100 {L : Nat} {xs : Nat → Int32} {δ N : Nat} {v1 : Int32} {v2 : Int32} {m : mj_m} (hδ : 5 ≤ δ) {a : Int32 × mj_m} (h : f_X9_says_100 N v1 v2 m = some a) : mj_Go (mj_EX L xs) (δ + 1) mY_X9_says 100 [(0, .ref 95), (1, .int v1), (2, .int v2)] [] (mj_fin m) (some (.int a.1), (mj_fin a.2)) := by
  unfold f_X9_says_100 at h
  refine mj_go_iload_n (k := 2) (x := v2) rfl (mj_dt dt_X9_says 58 rfl) ?_
  refine mj_go_if_ne (tgt := 111) rfl (mj_dt dt_X9_says 59 rfl) (fun b1 => ?_) (fun b1 => ?_)
  · rw [if_neg b1] at h
    refine mj_go_iload_n (k := 2) (x := v2) rfl (mj_dt dt_X9_says 65 rfl) ?_
    refine mj_go_bipush (v := 6) rfl (mj_dt dt_X9_says 66 rfl) ?_
    refine mj_go_icmp_ne (tgt := 124) rfl (mj_dt dt_X9_says 67 rfl) (fun b2 => ?_) (fun b2 => ?_)
    · rw [if_neg b2] at h
      refine mj_go_iload_n (k := 2) (x := v2) rfl (mj_dt dt_X9_says 73 rfl) ?_
      refine mj_go_iconst (v := 4) rfl (mj_dt dt_X9_says 74 rfl) ?_
      refine mj_go_icmp_ne (tgt := 172) rfl (mj_dt dt_X9_says 75 rfl) (fun b3 => ?_) (fun b3 => ?_)
      · rw [if_neg b3] at h
        refine mj_go_aload_n (k := 0) (x := 95) rfl (mj_dt dt_X9_says 98 rfl) ?_
        refine mj_go_iload_n (k := 1) (x := v1) rfl (mj_dt dt_X9_says 99 rfl) ?_
        obtain ⟨r4, er4, h⟩ := mj_bind_some h
        refine ml_callV (Y' := mY_X9_orders) (as := [.int v1]) (rest := []) (c := 9) (v := none) (M1 := (mj_fin r4)) ho_95 rfl lm_X9_142 wc_X9_orders pl_X9_orders ok_X9_orders rfl rfl (Nat.le_of_ble_eq_true rfl) (k_X9_orders (by omega) er4) (mj_dt dt_X9_says 100 rfl) ?_
        refine mj_go_aload_n (k := 0) (x := 95) rfl (mj_dt dt_X9_says 101 rfl) ?_
        refine mk_getI (c := 9) (k := 44) (Or.inl fd_9_44) (Or.inl fl_X9_146) ho_95 (mj_dt dt_X9_says 102 rfl) ?_
        refine mj_go_if_ne (tgt := 188) rfl (mj_dt dt_X9_says 103 rfl) (fun b5 => ?_) (fun b5 => ?_)
        · rw [if_neg b5] at h
          refine mj_go_iload_n (k := 2) (x := v2) rfl (mj_dt dt_X9_says 106 rfl) ?_
          refine mj_go_iconst (v := 1) rfl (mj_dt dt_X9_says 107 rfl) ?_
          refine mj_go_icmp_eq (tgt := 198) rfl (mj_dt dt_X9_says 108 rfl) (fun b6 => ?_) (fun b6 => ?_)
          · rw [if_pos b6] at h
            refine mj_go_sub (lv' := [(0, .ref 95)]) (List.forall_mem_cons.mpr ⟨rfl, (fun _ h9 => absurd h9 List.not_mem_nil)⟩) ?_
            exact k_X9_says_198 hδ h
          · rw [if_neg b6] at h
            refine mj_go_iload_n (k := 2) (x := v2) rfl (mj_dt dt_X9_says 109 rfl) ?_
            refine mj_go_iconst (v := 3) rfl (mj_dt dt_X9_says 110 rfl) ?_
            refine mj_go_icmp_ne (tgt := 207) rfl (mj_dt dt_X9_says 111 rfl) (fun b7 => ?_) (fun b7 => ?_)
            · rw [if_neg b7] at h
              refine mj_go_aload_n (k := 0) (x := 95) rfl (mj_dt dt_X9_says 117 rfl) ?_
              refine ml_getR (c := 9) (k := 43) (q := 123) fd_9_43 rf_95_43 (Or.inl fl_X9_108) ho_95 (mj_dt dt_X9_says 118 rfl) ?_
              refine mj_go_aload_n (k := 0) (x := 95) rfl (mj_dt dt_X9_says 119 rfl) ?_
              refine mk_getI (c := 9) (k := 44) (Or.inl fd_9_44) (Or.inl fl_X9_146) ho_95 (mj_dt dt_X9_says 120 rfl) ?_
              refine mj_go_iconst (v := 1) rfl (mj_dt dt_X9_says 121 rfl) ?_
              refine mj_go_isub (mj_dt dt_X9_says 122 rfl) ?_
              obtain ⟨c8, h⟩ := mj_ck_some h
              refine mk_iald c8 (mj_dt dt_X9_says 123 rfl) ?_
              obtain rfl := Option.some.inj h
              exact mj_go_ret (v := some (.int (r4.1 123 ((r4.1 95 44) - 1).toNatClampNeg))) (Nat.le_of_ble_eq_true rfl) (mj_retI (mj_dt dt_X9_says 124 rfl) rfl)
            · rw [if_pos b7] at h
              refine mj_go_sub (lv' := [(0, .ref 95)]) (List.forall_mem_cons.mpr ⟨rfl, (fun _ h9 => absurd h9 List.not_mem_nil)⟩) ?_
              exact k_X9_says_198 hδ h
        · rw [if_pos b5] at h
          refine mj_go_iconst (v := -1) rfl (mj_dt dt_X9_says 104 rfl) ?_
          refine mj_go_goto (tgt := 218) rfl (mj_dt dt_X9_says 105 rfl) ?_
          obtain rfl := Option.some.inj h
          exact mj_go_ret (v := some (.int (-1 : Int32))) (Nat.le_of_ble_eq_true rfl) (mj_retI (mj_dt dt_X9_says 124 rfl) rfl)
      · rw [if_pos b3] at h
        refine mj_go_iconst (v := 0) rfl (mj_dt dt_X9_says 76 rfl) ?_
        refine mj_go_istore (i := 4) (by decide) (mj_dt dt_X9_says 77 rfl) ?_
        refine mj_go_iconst (v := 0) rfl (mj_dt dt_X9_says 78 rfl) ?_
        refine mj_go_istore (i := 5) (by decide) (mj_dt dt_X9_says 79 rfl) ?_
        refine mj_go_sub (lv' := [(0, .ref 95), (1, .int v1), (4, .int 0), (5, .int 0)]) (List.forall_mem_cons.mpr ⟨rfl, (List.forall_mem_cons.mpr ⟨rfl, (List.forall_mem_cons.mpr ⟨rfl, (List.forall_mem_cons.mpr ⟨rfl, (fun _ h9 => absurd h9 List.not_mem_nil)⟩)⟩)⟩)⟩) ?_
        exact k_X9_says_135 hδ N _ _ h
    · rw [if_pos b2] at h
      refine mj_go_aload_n (k := 0) (x := 95) rfl (mj_dt dt_X9_says 68 rfl) ?_
      refine ml_getR (c := 9) (k := 27) (q := 112) fd_9_27 rf_95_27 (Or.inl fl_X9_74) ho_95 (mj_dt dt_X9_says 69 rfl) ?_
      refine mj_go_iload_n (k := 1) (x := v1) rfl (mj_dt dt_X9_says 70 rfl) ?_
      obtain ⟨c3, h⟩ := mj_ck_some h
      refine mk_iald c3 (mj_dt dt_X9_says 71 rfl) ?_
      obtain rfl := Option.some.inj h
      exact mj_go_ret (v := some (.int (m.1 112 v1.toNatClampNeg))) (Nat.le_of_ble_eq_true rfl) (mj_retI (mj_dt dt_X9_says 72 rfl) rfl)
  · rw [if_pos b1] at h
    refine mj_go_aload_n (k := 0) (x := 95) rfl (mj_dt dt_X9_says 60 rfl) ?_
    refine ml_getR (c := 9) (k := 29) (q := 114) fd_9_29 rf_95_29 (Or.inl fl_X9_80) ho_95 (mj_dt dt_X9_says 61 rfl) ?_
    refine mj_go_iload_n (k := 1) (x := v1) rfl (mj_dt dt_X9_says 62 rfl) ?_
    obtain ⟨c2, h⟩ := mj_ck_some h
    refine mk_iald c2 (mj_dt dt_X9_says 63 rfl) ?_
    obtain rfl := Option.some.inj h
    exact mj_go_ret (v := some (.int (m.1 114 v1.toNatClampNeg))) (Nat.le_of_ble_eq_true rfl) (mj_retI (mj_dt dt_X9_says 64 rfl) rfl)
def f_X9_says_93 (N : Nat) (m : mj_m) : Option (Int32 × mj_m) := (f_X9_no N (-2 : Int32) m).bind (fun r1 => some (r1.1, r1.2))
theorem k_X9_says_93 {L : Nat} {xs : Nat → Int32} {δ N : Nat} {m : mj_m} (hδ : 5 ≤ δ) {a : Int32 × mj_m} (h : f_X9_says_93 N m = some a) : mj_Go (mj_EX L xs) (δ + 1) mY_X9_says 93 [(0, .ref 95)] [] (mj_fin m) (some (.int a.1), (mj_fin a.2)) := by
  unfold f_X9_says_93 at h
  refine mj_go_aload_n (k := 0) (x := 95) rfl (mj_dt dt_X9_says 54 rfl) ?_
  refine mj_go_bipush (v := -2) rfl (mj_dt dt_X9_says 55 rfl) ?_
  obtain ⟨r1, er1, h⟩ := mj_bind_some h
  refine ml_callV (Y' := mY_X9_no) (as := [.int (-2 : Int32)]) (rest := []) (c := 9) (v := (some (.int r1.1))) (M1 := (mj_fin r1.2)) ho_95 rfl lm_X9_134 wc_X9_no pl_X9_no ok_X9_no rfl rfl (Nat.le_of_ble_eq_true rfl) (k_X9_no (by omega) er1) (mj_dt dt_X9_says 56 rfl) ?_
  obtain rfl := Option.some.inj h
  exact mj_go_ret (v := some (.int r1.1)) (Nat.le_of_ble_eq_true rfl) (mj_retI (mj_dt dt_X9_says 57 rfl) rfl)
def f_X9_says_83 (N : Nat) (v1 : Int32) (v2 : Int32) (v3 : Int32) (m : mj_m) : Option (Int32 × mj_m) := if v2 = 2 then (if v3 = 5 then f_X9_says_100 N v1 v2 m else f_X9_says_93 N m) else f_X9_says_93 N m
theorem k_X9_says_83 {L : Nat} {xs : Nat → Int32} {δ N : Nat} {v1 : Int32} {v2 : Int32} {v3 : Int32} {m : mj_m} (hδ : 5 ≤ δ) {a : Int32 × mj_m} (h : f_X9_says_83 N v1 v2 v3 m = some a) : mj_Go (mj_EX L xs) (δ + 1) mY_X9_says 83 [(0, .ref 95), (1, .int v1), (2, .int v2), (3, .int v3)] [] (mj_fin m) (some (.int a.1), (mj_fin a.2)) := by
  unfold f_X9_says_83 at h
  refine mj_go_iload_n (k := 2) (x := v2) rfl (mj_dt dt_X9_says 48 rfl) ?_
  refine mj_go_iconst (v := 2) rfl (mj_dt dt_X9_says 49 rfl) ?_
  refine mj_go_icmp_ne (tgt := 93) rfl (mj_dt dt_X9_says 50 rfl) (fun b1 => ?_) (fun b1 => ?_)
  · rw [if_neg b1] at h
    refine mj_go_sub (lv' := [(0, .ref 95)]) (List.forall_mem_cons.mpr ⟨rfl, (fun _ h9 => absurd h9 List.not_mem_nil)⟩) ?_
    exact k_X9_says_93 hδ h
  · rw [if_pos b1] at h
    refine mj_go_iload_n (k := 3) (x := v3) rfl (mj_dt dt_X9_says 51 rfl) ?_
    refine mj_go_iconst (v := 5) rfl (mj_dt dt_X9_says 52 rfl) ?_
    refine mj_go_icmp_eq (tgt := 100) rfl (mj_dt dt_X9_says 53 rfl) (fun b2 => ?_) (fun b2 => ?_)
    · rw [if_pos b2] at h
      refine mj_go_sub (lv' := [(0, .ref 95), (1, .int v1), (2, .int v2)]) (List.forall_mem_cons.mpr ⟨rfl, (List.forall_mem_cons.mpr ⟨rfl, (List.forall_mem_cons.mpr ⟨rfl, (fun _ h9 => absurd h9 List.not_mem_nil)⟩)⟩)⟩) ?_
      exact k_X9_says_100 hδ h
    · rw [if_neg b2] at h
      refine mj_go_sub (lv' := [(0, .ref 95)]) (List.forall_mem_cons.mpr ⟨rfl, (fun _ h9 => absurd h9 List.not_mem_nil)⟩) ?_
      exact k_X9_says_93 hδ h
def f_X9_says (N : Nat) (v1 : Int32) (v2 : Int32) (m : mj_m) : Option (Int32 × mj_m) := (f_X9_isShelf N v1 m).bind (fun r1 => if r1 = 0 then f_X9_says_18 N m else (if v2 < 0 then f_X9_says_18 N m else (if v2 ≤ 6 then (mj_ck (mj_b 0 110 v1) ( if (m.1 110 v1.toNatClampNeg) = 1 then ((f_X9_no N (-2 : Int32) m).bind (fun r7 => some (r7.1, r7.2))) else (if (m.1 110 v1.toNatClampNeg) = 0 then ((f_X9_no N (-3 : Int32) m).bind (fun r8 => some (r8.1, r8.2))) else (mj_ck (mj_b 0 113 v1) ( mj_mw (m.1 113 v1.toNatClampNeg) (fun x9 => if v2 = 0 then f_X9_says_100 N v1 v2 m else (if v2 = x9 then f_X9_says_100 N v1 v2 m else (if v2 = 1 then (if x9 = 3 then f_X9_says_100 N v1 v2 m else f_X9_says_83 N v1 v2 x9 m) else f_X9_says_83 N v1 v2 x9 m)))))))) else f_X9_says_18 N m)))
theorem k_X9_says {L : Nat} {xs : Nat → Int32} {δ N : Nat} {v1 : Int32} {v2 : Int32} {m : mj_m} (hδ : 6 ≤ δ) {a : Int32 × mj_m} (h : f_X9_says N v1 v2 m = some a) : mj_Cl (mj_EX L xs) δ mY_X9_says [.ref 95, .int v1, .int v2] (mj_fin m) (some (.int a.1), (mj_fin a.2)) := by
  obtain ⟨δ, rfl⟩ : ∃ d, δ = d + 1 := ⟨δ - 1, by omega⟩
  have hδ : 5 ≤ δ := by omega
  refine mj_cl_of ok_X9_says (Nat.le_of_ble_eq_true rfl) ?_
  unfold f_X9_says at h
  refine mj_go_aload_n (k := 0) (x := 95) rfl (mj_dt dt_X9_says 0 rfl) ?_
  refine mj_go_iload_n (k := 1) (x := v1) rfl (mj_dt dt_X9_says 1 rfl) ?_
  obtain ⟨r1, er1, h⟩ := mj_bind_some h
  refine ml_callV (Y' := mY_X9_isShelf) (as := [.int v1]) (rest := []) (c := 9) (v := (some (.int r1))) (M1 := (mj_fin m)) ho_95 rfl lm_X9_130 wc_X9_isShelf pl_X9_isShelf ok_X9_isShelf rfl rfl (Nat.le_of_ble_eq_true rfl) (k_X9_isShelf (by omega) er1) (mj_dt dt_X9_says 2 rfl) ?_
  refine mj_go_if_eq (tgt := 18) rfl (mj_dt dt_X9_says 3 rfl) (fun b2 => ?_) (fun b2 => ?_)
  · rw [if_pos b2] at h
    refine mj_go_sub (lv' := [(0, .ref 95)]) (List.forall_mem_cons.mpr ⟨rfl, (fun _ h9 => absurd h9 List.not_mem_nil)⟩) ?_
    exact k_X9_says_18 hδ h
  · rw [if_neg b2] at h
    refine mj_go_iload_n (k := 2) (x := v2) rfl (mj_dt dt_X9_says 4 rfl) ?_
    refine mj_go_if_lt (tgt := 18) rfl (mj_dt dt_X9_says 5 rfl) (fun b3 => ?_) (fun b3 => ?_)
    · rw [if_pos b3] at h
      refine mj_go_sub (lv' := [(0, .ref 95)]) (List.forall_mem_cons.mpr ⟨rfl, (fun _ h9 => absurd h9 List.not_mem_nil)⟩) ?_
      exact k_X9_says_18 hδ h
    · rw [if_neg b3] at h
      refine mj_go_iload_n (k := 2) (x := v2) rfl (mj_dt dt_X9_says 6 rfl) ?_
      refine mj_go_bipush (v := 6) rfl (mj_dt dt_X9_says 7 rfl) ?_
      refine mj_go_icmp_le (tgt := 24) rfl (mj_dt dt_X9_says 8 rfl) (fun b4 => ?_) (fun b4 => ?_)
      · rw [if_pos b4] at h
        refine mj_go_aload_n (k := 0) (x := 95) rfl (mj_dt dt_X9_says 13 rfl) ?_
        refine ml_getR (c := 9) (k := 25) (q := 110) fd_9_25 rf_95_25 (Or.inl fl_X9_68) ho_95 (mj_dt dt_X9_says 14 rfl) ?_
        refine mj_go_iload_n (k := 1) (x := v1) rfl (mj_dt dt_X9_says 15 rfl) ?_
        obtain ⟨c5, h⟩ := mj_ck_some h
        refine mk_iald c5 (mj_dt dt_X9_says 16 rfl) ?_
        refine mj_go_iconst (v := 1) rfl (mj_dt dt_X9_says 17 rfl) ?_
        refine mj_go_icmp_ne (tgt := 41) rfl (mj_dt dt_X9_says 18 rfl) (fun b6 => ?_) (fun b6 => ?_)
        · rw [if_neg b6] at h
          refine mj_go_aload_n (k := 0) (x := 95) rfl (mj_dt dt_X9_says 23 rfl) ?_
          refine ml_getR (c := 9) (k := 25) (q := 110) fd_9_25 rf_95_25 (Or.inl fl_X9_68) ho_95 (mj_dt dt_X9_says 24 rfl) ?_
          refine mj_go_iload_n (k := 1) (x := v1) rfl (mj_dt dt_X9_says 25 rfl) ?_
          refine mk_iald c5 (mj_dt dt_X9_says 26 rfl) ?_
          refine mj_go_if_ne (tgt := 57) rfl (mj_dt dt_X9_says 27 rfl) (fun b7 => ?_) (fun b7 => ?_)
          · rw [if_neg b7] at h
            refine mj_go_aload_n (k := 0) (x := 95) rfl (mj_dt dt_X9_says 32 rfl) ?_
            refine ml_getR (c := 9) (k := 28) (q := 113) fd_9_28 rf_95_28 (Or.inl fl_X9_77) ho_95 (mj_dt dt_X9_says 33 rfl) ?_
            refine mj_go_iload_n (k := 1) (x := v1) rfl (mj_dt dt_X9_says 34 rfl) ?_
            obtain ⟨c8, h⟩ := mj_ck_some h
            refine mk_iald c8 (mj_dt dt_X9_says 35 rfl) ?_
            obtain ⟨x9, ex9, h⟩ := mj_mw_some h
            refine ml_eqi ex9 ?_
            refine mj_go_istore_n (k := 3) (by decide) (mj_dt dt_X9_says 36 rfl) ?_
            refine mj_go_iload_n (k := 2) (x := v2) rfl (mj_dt dt_X9_says 37 rfl) ?_
            refine mj_go_if_eq (tgt := 100) rfl (mj_dt dt_X9_says 38 rfl) (fun b10 => ?_) (fun b10 => ?_)
            · rw [if_pos b10] at h
              refine mj_go_sub (lv' := [(0, .ref 95), (1, .int v1), (2, .int v2)]) (List.forall_mem_cons.mpr ⟨rfl, (List.forall_mem_cons.mpr ⟨rfl, (List.forall_mem_cons.mpr ⟨rfl, (fun _ h9 => absurd h9 List.not_mem_nil)⟩)⟩)⟩) ?_
              exact k_X9_says_100 hδ h
            · rw [if_neg b10] at h
              refine mj_go_iload_n (k := 2) (x := v2) rfl (mj_dt dt_X9_says 39 rfl) ?_
              refine mj_go_iload_n (k := 3) (x := x9) rfl (mj_dt dt_X9_says 40 rfl) ?_
              refine mj_go_icmp_eq (tgt := 100) rfl (mj_dt dt_X9_says 41 rfl) (fun b11 => ?_) (fun b11 => ?_)
              · rw [if_pos b11] at h
                refine mj_go_sub (lv' := [(0, .ref 95), (1, .int v1), (2, .int v2)]) (List.forall_mem_cons.mpr ⟨rfl, (List.forall_mem_cons.mpr ⟨rfl, (List.forall_mem_cons.mpr ⟨rfl, (fun _ h9 => absurd h9 List.not_mem_nil)⟩)⟩)⟩) ?_
                exact k_X9_says_100 hδ h
              · rw [if_neg b11] at h
                refine mj_go_iload_n (k := 2) (x := v2) rfl (mj_dt dt_X9_says 42 rfl) ?_
                refine mj_go_iconst (v := 1) rfl (mj_dt dt_X9_says 43 rfl) ?_
                refine mj_go_icmp_ne (tgt := 83) rfl (mj_dt dt_X9_says 44 rfl) (fun b12 => ?_) (fun b12 => ?_)
                · rw [if_neg b12] at h
                  refine mj_go_sub (lv' := [(0, .ref 95), (1, .int v1), (2, .int v2), (3, .int x9)]) (List.forall_mem_cons.mpr ⟨rfl, (List.forall_mem_cons.mpr ⟨rfl, (List.forall_mem_cons.mpr ⟨rfl, (List.forall_mem_cons.mpr ⟨rfl, (fun _ h9 => absurd h9 List.not_mem_nil)⟩)⟩)⟩)⟩) ?_
                  exact k_X9_says_83 hδ h
                · rw [if_pos b12] at h
                  refine mj_go_iload_n (k := 3) (x := x9) rfl (mj_dt dt_X9_says 45 rfl) ?_
                  refine mj_go_iconst (v := 3) rfl (mj_dt dt_X9_says 46 rfl) ?_
                  refine mj_go_icmp_eq (tgt := 100) rfl (mj_dt dt_X9_says 47 rfl) (fun b13 => ?_) (fun b13 => ?_)
                  · rw [if_pos b13] at h
                    refine mj_go_sub (lv' := [(0, .ref 95), (1, .int v1), (2, .int v2)]) (List.forall_mem_cons.mpr ⟨rfl, (List.forall_mem_cons.mpr ⟨rfl, (List.forall_mem_cons.mpr ⟨rfl, (fun _ h9 => absurd h9 List.not_mem_nil)⟩)⟩)⟩) ?_
                    exact k_X9_says_100 hδ h
                  · rw [if_neg b13] at h
                    refine mj_go_sub (lv' := [(0, .ref 95), (1, .int v1), (2, .int v2), (3, .int x9)]) (List.forall_mem_cons.mpr ⟨rfl, (List.forall_mem_cons.mpr ⟨rfl, (List.forall_mem_cons.mpr ⟨rfl, (List.forall_mem_cons.mpr ⟨rfl, (fun _ h9 => absurd h9 List.not_mem_nil)⟩)⟩)⟩)⟩) ?_
                    exact k_X9_says_83 hδ h
          · rw [if_pos b7] at h
            refine mj_go_aload_n (k := 0) (x := 95) rfl (mj_dt dt_X9_says 28 rfl) ?_
            refine mj_go_bipush (v := -3) rfl (mj_dt dt_X9_says 29 rfl) ?_
            obtain ⟨r8, er8, h⟩ := mj_bind_some h
            refine ml_callV (Y' := mY_X9_no) (as := [.int (-3 : Int32)]) (rest := []) (c := 9) (v := (some (.int r8.1))) (M1 := (mj_fin r8.2)) ho_95 rfl lm_X9_134 wc_X9_no pl_X9_no ok_X9_no rfl rfl (Nat.le_of_ble_eq_true rfl) (k_X9_no (by omega) er8) (mj_dt dt_X9_says 30 rfl) ?_
            obtain rfl := Option.some.inj h
            exact mj_go_ret (v := some (.int r8.1)) (Nat.le_of_ble_eq_true rfl) (mj_retI (mj_dt dt_X9_says 31 rfl) rfl)
        · rw [if_pos b6] at h
          refine mj_go_aload_n (k := 0) (x := 95) rfl (mj_dt dt_X9_says 19 rfl) ?_
          refine mj_go_bipush (v := -2) rfl (mj_dt dt_X9_says 20 rfl) ?_
          obtain ⟨r7, er7, h⟩ := mj_bind_some h
          refine ml_callV (Y' := mY_X9_no) (as := [.int (-2 : Int32)]) (rest := []) (c := 9) (v := (some (.int r7.1))) (M1 := (mj_fin r7.2)) ho_95 rfl lm_X9_134 wc_X9_no pl_X9_no ok_X9_no rfl rfl (Nat.le_of_ble_eq_true rfl) (k_X9_no (by omega) er7) (mj_dt dt_X9_says 21 rfl) ?_
          obtain rfl := Option.some.inj h
          exact mj_go_ret (v := some (.int r7.1)) (Nat.le_of_ble_eq_true rfl) (mj_retI (mj_dt dt_X9_says 22 rfl) rfl)
      · rw [if_neg b4] at h
        refine mj_go_sub (lv' := [(0, .ref 95)]) (List.forall_mem_cons.mpr ⟨rfl, (fun _ h9 => absurd h9 List.not_mem_nil)⟩) ?_
        exact k_X9_says_18 hδ h
def f_X8_isCorner_14 (N : Nat) (m : mj_m) : Option (Int32) := (some 0)
theorem k_X8_isCorner_14 {L : Nat} {xs : Nat → Int32} {δ N : Nat} {m : mj_m} {a : Int32} (h : f_X8_isCorner_14 N m = some a) : mj_Go (mj_EX L xs) δ mY_X8_isCorner 14 [] [] (mj_fin m) (some (.int a), (mj_fin m)) := by
  unfold f_X8_isCorner_14 at h
  refine mj_go_iconst (v := 0) rfl (mj_dt dt_X8_isCorner 7 rfl) ?_
  obtain rfl := Option.some.inj h
  exact mj_go_ret (v := some (.int 0)) (Nat.le_of_ble_eq_true rfl) (mj_retZ (mj_dt dt_X8_isCorner 8 rfl) rfl rfl)
def f_X8_isCorner (N : Nat) (v0 : Int32) (m : mj_m) : Option (Int32) := if v0 < 0 then f_X8_isCorner_14 N m else (if 8 ≤ v0 then f_X8_isCorner_14 N m else ((some 1)))
theorem k_X8_isCorner {L : Nat} {xs : Nat → Int32} {δ N : Nat} {v0 : Int32} {m : mj_m} (_ : 0 ≤ δ) {a : Int32} (h : f_X8_isCorner N v0 m = some a) : mj_Cl (mj_EX L xs) δ mY_X8_isCorner [.int v0] (mj_fin m) (some (.int a), (mj_fin m)) := by
  refine mj_cl_of ok_X8_isCorner (Nat.le_of_ble_eq_true rfl) ?_
  unfold f_X8_isCorner at h
  refine mj_go_iload_n (k := 0) (x := v0) rfl (mj_dt dt_X8_isCorner 0 rfl) ?_
  refine mj_go_if_lt (tgt := 14) rfl (mj_dt dt_X8_isCorner 1 rfl) (fun b1 => ?_) (fun b1 => ?_)
  · rw [if_pos b1] at h
    refine mj_go_sub (lv' := []) (fun _ h9 => absurd h9 List.not_mem_nil) ?_
    exact k_X8_isCorner_14 h
  · rw [if_neg b1] at h
    refine mj_go_iload_n (k := 0) (x := v0) rfl (mj_dt dt_X8_isCorner 2 rfl) ?_
    refine mj_go_bipush (v := 8) rfl (mj_dt dt_X8_isCorner 3 rfl) ?_
    refine mj_go_icmp_ge (tgt := 14) rfl (mj_dt dt_X8_isCorner 4 rfl) (fun b2 => ?_) (fun b2 => ?_)
    · rw [if_pos b2] at h
      refine mj_go_sub (lv' := []) (fun _ h9 => absurd h9 List.not_mem_nil) ?_
      exact k_X8_isCorner_14 h
    · rw [if_neg b2] at h
      refine mj_go_iconst (v := 1) rfl (mj_dt dt_X8_isCorner 5 rfl) ?_
      refine mj_go_goto (tgt := 15) rfl (mj_dt dt_X8_isCorner 6 rfl) ?_
      obtain rfl := Option.some.inj h
      exact mj_go_ret (v := some (.int 1)) (Nat.le_of_ble_eq_true rfl) (mj_retZ (mj_dt dt_X8_isCorner 8 rfl) rfl rfl)
def f_X7_addStreet (N : Nat) (v1 : Int32) (v2 : Int32) (m : mj_m) : Option (Int32 × mj_m) := if (m.1 1 6) < 12 then (mj_ck (mj_b 0 2 (m.1 1 6)) ( mj_mw (mj_wI m 2 ((m.1 1 6).toNatClampNeg) v1) (fun m3 => mj_ck (mj_b 0 3 (m3.1 1 6)) ( mj_mw (mj_wI m3 3 ((m3.1 1 6).toNatClampNeg) v2) (fun m5 => mj_mw (mj_wI m5 1 6 ((m5.1 1 6) + 1)) (fun m6 => some ((m6.1 1 6) - 1, m6))))))) else (some ((-1 : Int32), m))
theorem k_X7_addStreet {L : Nat} {xs : Nat → Int32} {δ N : Nat} {v1 : Int32} {v2 : Int32} {m : mj_m} (_ : 0 ≤ δ) {a : Int32 × mj_m} (h : f_X7_addStreet N v1 v2 m = some a) : mj_Cl (mj_EX L xs) δ mY_X7_addStreet [.ref 1, .int v1, .int v2] (mj_fin m) (some (.int a.1), (mj_fin a.2)) := by
  refine mj_cl_of ok_X7_addStreet (Nat.le_of_ble_eq_true rfl) ?_
  unfold f_X7_addStreet at h
  refine mj_go_aload_n (k := 0) (x := 1) rfl (mj_dt dt_X7_addStreet 0 rfl) ?_
  refine mk_getI (c := 7) (k := 6) (Or.inl fd_7_6) (Or.inl fl_X7_33) ho_1 (mj_dt dt_X7_addStreet 1 rfl) ?_
  refine mj_go_bipush (v := 12) rfl (mj_dt dt_X7_addStreet 2 rfl) ?_
  refine mj_go_icmp_lt (tgt := 11) rfl (mj_dt dt_X7_addStreet 3 rfl) (fun b1 => ?_) (fun b1 => ?_)
  · rw [if_pos b1] at h
    refine mj_go_aload_n (k := 0) (x := 1) rfl (mj_dt dt_X7_addStreet 6 rfl) ?_
    refine ml_getR (c := 7) (k := 0) (q := 2) fd_7_0 rf_1_0 (Or.inl fl_X7_9) ho_1 (mj_dt dt_X7_addStreet 7 rfl) ?_
    refine mj_go_aload_n (k := 0) (x := 1) rfl (mj_dt dt_X7_addStreet 8 rfl) ?_
    refine mk_getI (c := 7) (k := 6) (Or.inl fd_7_6) (Or.inl fl_X7_33) ho_1 (mj_dt dt_X7_addStreet 9 rfl) ?_
    refine mj_go_iload_n (k := 1) (x := v1) rfl (mj_dt dt_X7_addStreet 10 rfl) ?_
    obtain ⟨c2, h⟩ := mj_ck_some h
    obtain ⟨m3, em3, h⟩ := mj_mw_some h
    refine ml_iast c2 (mj_dt dt_X7_addStreet 11 rfl) ?_
    refine ml_eqm (M1 := (mj_fin m3)) (by rw [em3] <;> rfl) ?_
    refine mj_go_aload_n (k := 0) (x := 1) rfl (mj_dt dt_X7_addStreet 12 rfl) ?_
    refine ml_getR (c := 7) (k := 1) (q := 3) fd_7_1 rf_1_1 (Or.inl fl_X7_15) ho_1 (mj_dt dt_X7_addStreet 13 rfl) ?_
    refine mj_go_aload_n (k := 0) (x := 1) rfl (mj_dt dt_X7_addStreet 14 rfl) ?_
    refine mk_getI (c := 7) (k := 6) (Or.inl fd_7_6) (Or.inl fl_X7_33) ho_1 (mj_dt dt_X7_addStreet 15 rfl) ?_
    refine mj_go_iload_n (k := 2) (x := v2) rfl (mj_dt dt_X7_addStreet 16 rfl) ?_
    obtain ⟨c4, h⟩ := mj_ck_some h
    obtain ⟨m5, em5, h⟩ := mj_mw_some h
    refine ml_iast c4 (mj_dt dt_X7_addStreet 17 rfl) ?_
    refine ml_eqm (M1 := (mj_fin m5)) (by rw [em5] <;> rfl) ?_
    refine mj_go_aload_n (k := 0) (x := 1) rfl (mj_dt dt_X7_addStreet 18 rfl) ?_
    refine mj_go_dup rfl (mj_dt dt_X7_addStreet 19 rfl) ?_
    refine mk_getI (c := 7) (k := 6) (Or.inl fd_7_6) (Or.inl fl_X7_33) ho_1 (mj_dt dt_X7_addStreet 20 rfl) ?_
    refine mj_go_iconst (v := 1) rfl (mj_dt dt_X7_addStreet 21 rfl) ?_
    refine mj_go_iadd (mj_dt dt_X7_addStreet 22 rfl) ?_
    obtain ⟨m6, em6, h⟩ := mj_mw_some h
    refine ml_putI (c := 7) (k := 6) fd_7_6 rfl fl_X7_33 ho_1 (mj_dt dt_X7_addStreet 23 rfl) ?_
    refine ml_eqm (M1 := (mj_fin m6)) (by rw [em6] <;> rfl) ?_
    refine mj_go_aload_n (k := 0) (x := 1) rfl (mj_dt dt_X7_addStreet 24 rfl) ?_
    refine mk_getI (c := 7) (k := 6) (Or.inl fd_7_6) (Or.inl fl_X7_33) ho_1 (mj_dt dt_X7_addStreet 25 rfl) ?_
    refine mj_go_iconst (v := 1) rfl (mj_dt dt_X7_addStreet 26 rfl) ?_
    refine mj_go_isub (mj_dt dt_X7_addStreet 27 rfl) ?_
    obtain rfl := Option.some.inj h
    exact mj_go_ret (v := some (.int ((m6.1 1 6) - 1))) (Nat.le_of_ble_eq_true rfl) (mj_retI (mj_dt dt_X7_addStreet 28 rfl) rfl)
  · rw [if_neg b1] at h
    refine mj_go_iconst (v := -1) rfl (mj_dt dt_X7_addStreet 4 rfl) ?_
    obtain rfl := Option.some.inj h
    exact mj_go_ret (v := some (.int (-1 : Int32))) (Nat.le_of_ble_eq_true rfl) (mj_retI (mj_dt dt_X7_addStreet 5 rfl) rfl)
def f_X8_street_14 (N : Nat) (m : mj_m) : Option (Int32 × mj_m) := (f_X8_refuse N 1 m).bind (fun r1 => some (r1.1, r1.2))
theorem k_X8_street_14 {L : Nat} {xs : Nat → Int32} {δ N : Nat} {m : mj_m} (hδ : 0 ≤ δ) {a : Int32 × mj_m} (h : f_X8_street_14 N m = some a) : mj_Go (mj_EX L xs) (δ + 1) mY_X8_street 14 [(0, .ref 0)] [] (mj_fin m) (some (.int a.1), (mj_fin a.2)) := by
  unfold f_X8_street_14 at h
  refine mj_go_aload_n (k := 0) (x := 0) rfl (mj_dt dt_X8_street 6 rfl) ?_
  refine mj_go_iconst (v := 1) rfl (mj_dt dt_X8_street 7 rfl) ?_
  obtain ⟨r1, er1, h⟩ := mj_bind_some h
  refine ml_callV (Y' := mY_X8_refuse) (as := [.int 1]) (rest := []) (c := 8) (v := (some (.int r1.1))) (M1 := (mj_fin r1.2)) ho_0 rfl lm_X8_86 wc_X8_refuse pl_X8_refuse ok_X8_refuse rfl rfl (Nat.le_of_ble_eq_true rfl) (k_X8_refuse (by omega) er1) (mj_dt dt_X8_street 8 rfl) ?_
  obtain rfl := Option.some.inj h
  exact mj_go_ret (v := some (.int r1.1)) (Nat.le_of_ble_eq_true rfl) (mj_retI (mj_dt dt_X8_street 9 rfl) rfl)
def f_X8_street (N : Nat) (v1 : Int32) (v2 : Int32) (m : mj_m) : Option (Int32 × mj_m) := (f_X8_isCorner N v1 m).bind (fun r1 => if r1 = 0 then f_X8_street_14 N m else ((f_X8_isCorner N v2 m).bind (fun r3 => if r3 = 0 then f_X8_street_14 N m else (if v1 = v2 then ((f_X8_refuse N 6 m).bind (fun r6 => some (r6.1, r6.2))) else ((f_X7_addStreet N v1 v2 m).bind (fun r6 => if r6.1 = (-1 : Int32) then ((f_X8_refuse N 7 r6.2).bind (fun r8 => (some (r8.1, r8.2)))) else ((some (r6.1, r6.2)))))))))
theorem k_X8_street {L : Nat} {xs : Nat → Int32} {δ N : Nat} {v1 : Int32} {v2 : Int32} {m : mj_m} (hδ : 1 ≤ δ) {a : Int32 × mj_m} (h : f_X8_street N v1 v2 m = some a) : mj_Cl (mj_EX L xs) δ mY_X8_street [.ref 0, .int v1, .int v2] (mj_fin m) (some (.int a.1), (mj_fin a.2)) := by
  obtain ⟨δ, rfl⟩ : ∃ d, δ = d + 1 := ⟨δ - 1, by omega⟩
  have hδ : 0 ≤ δ := by omega
  refine mj_cl_of ok_X8_street (Nat.le_of_ble_eq_true rfl) ?_
  unfold f_X8_street at h
  refine mj_go_iload_n (k := 1) (x := v1) rfl (mj_dt dt_X8_street 0 rfl) ?_
  obtain ⟨r1, er1, h⟩ := mj_bind_some h
  refine ml_callS (Y' := mY_X8_isCorner) (as := [.int v1]) (rest := []) (v := (some (.int r1))) (M1 := (mj_fin m)) lm_X8_164 wc_X8_isCorner pl_X8_isCorner ok_X8_isCorner rfl rfl (Nat.le_of_ble_eq_true rfl) (k_X8_isCorner (by omega) er1) (mj_dt dt_X8_street 1 rfl) ?_
  refine mj_go_if_eq (tgt := 14) rfl (mj_dt dt_X8_street 2 rfl) (fun b2 => ?_) (fun b2 => ?_)
  · rw [if_pos b2] at h
    refine mj_go_sub (lv' := [(0, .ref 0)]) (List.forall_mem_cons.mpr ⟨rfl, (fun _ h9 => absurd h9 List.not_mem_nil)⟩) ?_
    exact k_X8_street_14 hδ h
  · rw [if_neg b2] at h
    refine mj_go_iload_n (k := 2) (x := v2) rfl (mj_dt dt_X8_street 3 rfl) ?_
    obtain ⟨r3, er3, h⟩ := mj_bind_some h
    refine ml_callS (Y' := mY_X8_isCorner) (as := [.int v2]) (rest := []) (v := (some (.int r3))) (M1 := (mj_fin m)) lm_X8_164 wc_X8_isCorner pl_X8_isCorner ok_X8_isCorner rfl rfl (Nat.le_of_ble_eq_true rfl) (k_X8_isCorner (by omega) er3) (mj_dt dt_X8_street 4 rfl) ?_
    refine mj_go_if_ne (tgt := 20) rfl (mj_dt dt_X8_street 5 rfl) (fun b4 => ?_) (fun b4 => ?_)
    · rw [if_neg b4] at h
      refine mj_go_iload_n (k := 1) (x := v1) rfl (mj_dt dt_X8_street 10 rfl) ?_
      refine mj_go_iload_n (k := 2) (x := v2) rfl (mj_dt dt_X8_street 11 rfl) ?_
      refine mj_go_icmp_ne (tgt := 32) rfl (mj_dt dt_X8_street 12 rfl) (fun b5 => ?_) (fun b5 => ?_)
      · rw [if_neg b5] at h
        refine mj_go_aload_n (k := 0) (x := 0) rfl (mj_dt dt_X8_street 17 rfl) ?_
        refine ml_getR (c := 8) (k := 0) (q := 1) fd_8_0 rf_0_0 (Or.inl fl_X8_12) ho_0 (mj_dt dt_X8_street 18 rfl) ?_
        refine mj_go_iload_n (k := 1) (x := v1) rfl (mj_dt dt_X8_street 19 rfl) ?_
        refine mj_go_iload_n (k := 2) (x := v2) rfl (mj_dt dt_X8_street 20 rfl) ?_
        obtain ⟨r6, er6, h⟩ := mj_bind_some h
        refine ml_callV (Y' := mY_X7_addStreet) (as := [.int v1, .int v2]) (rest := []) (c := 7) (v := (some (.int r6.1))) (M1 := (mj_fin r6.2)) ho_1 rfl lm_X8_167 wc_X7_addStreet pl_X7_addStreet ok_X7_addStreet rfl rfl (Nat.le_of_ble_eq_true rfl) (k_X7_addStreet (by omega) er6) (mj_dt dt_X8_street 21 rfl) ?_
        refine mj_go_istore_n (k := 3) (by decide) (mj_dt dt_X8_street 22 rfl) ?_
        refine mj_go_iload_n (k := 3) (x := r6.1) rfl (mj_dt dt_X8_street 23 rfl) ?_
        refine mj_go_iconst (v := -1) rfl (mj_dt dt_X8_street 24 rfl) ?_
        refine mj_go_icmp_ne (tgt := 56) rfl (mj_dt dt_X8_street 25 rfl) (fun b7 => ?_) (fun b7 => ?_)
        · rw [if_neg b7] at h
          refine mj_go_iload_n (k := 3) (x := r6.1) rfl (mj_dt dt_X8_street 30 rfl) ?_
          obtain rfl := Option.some.inj h
          exact mj_go_ret (v := some (.int r6.1)) (Nat.le_of_ble_eq_true rfl) (mj_retI (mj_dt dt_X8_street 31 rfl) rfl)
        · rw [if_pos b7] at h
          refine mj_go_aload_n (k := 0) (x := 0) rfl (mj_dt dt_X8_street 26 rfl) ?_
          refine mj_go_bipush (v := 7) rfl (mj_dt dt_X8_street 27 rfl) ?_
          obtain ⟨r8, er8, h⟩ := mj_bind_some h
          refine ml_callV (Y' := mY_X8_refuse) (as := [.int 7]) (rest := []) (c := 8) (v := (some (.int r8.1))) (M1 := (mj_fin r8.2)) ho_0 rfl lm_X8_86 wc_X8_refuse pl_X8_refuse ok_X8_refuse rfl rfl (Nat.le_of_ble_eq_true rfl) (k_X8_refuse (by omega) er8) (mj_dt dt_X8_street 28 rfl) ?_
          refine mj_go_goto (tgt := 57) rfl (mj_dt dt_X8_street 29 rfl) ?_
          obtain rfl := Option.some.inj h
          exact mj_go_ret (v := some (.int r8.1)) (Nat.le_of_ble_eq_true rfl) (mj_retI (mj_dt dt_X8_street 31 rfl) rfl)
      · rw [if_pos b5] at h
        refine mj_go_aload_n (k := 0) (x := 0) rfl (mj_dt dt_X8_street 13 rfl) ?_
        refine mj_go_bipush (v := 6) rfl (mj_dt dt_X8_street 14 rfl) ?_
        obtain ⟨r6, er6, h⟩ := mj_bind_some h
        refine ml_callV (Y' := mY_X8_refuse) (as := [.int 6]) (rest := []) (c := 8) (v := (some (.int r6.1))) (M1 := (mj_fin r6.2)) ho_0 rfl lm_X8_86 wc_X8_refuse pl_X8_refuse ok_X8_refuse rfl rfl (Nat.le_of_ble_eq_true rfl) (k_X8_refuse (by omega) er6) (mj_dt dt_X8_street 15 rfl) ?_
        obtain rfl := Option.some.inj h
        exact mj_go_ret (v := some (.int r6.1)) (Nat.le_of_ble_eq_true rfl) (mj_retI (mj_dt dt_X8_street 16 rfl) rfl)
    · rw [if_pos b4] at h
      refine mj_go_sub (lv' := [(0, .ref 0)]) (List.forall_mem_cons.mpr ⟨rfl, (fun _ h9 => absurd h9 List.not_mem_nil)⟩) ?_
      exact k_X8_street_14 hδ h
def f_X9_isCorner_14 (N : Nat) (m : mj_m) : Option (Int32) := (some 0)
theorem k_X9_isCorner_14 {L : Nat} {xs : Nat → Int32} {δ N : Nat} {m : mj_m} {a : Int32} (h : f_X9_isCorner_14 N m = some a) : mj_Go (mj_EX L xs) δ mY_X9_isCorner 14 [] [] (mj_fin m) (some (.int a), (mj_fin m)) := by
  unfold f_X9_isCorner_14 at h
  refine mj_go_iconst (v := 0) rfl (mj_dt dt_X9_isCorner 7 rfl) ?_
  obtain rfl := Option.some.inj h
  exact mj_go_ret (v := some (.int 0)) (Nat.le_of_ble_eq_true rfl) (mj_retZ (mj_dt dt_X9_isCorner 8 rfl) rfl rfl)
def f_X9_isCorner (N : Nat) (v1 : Int32) (m : mj_m) : Option (Int32) := if v1 < 0 then f_X9_isCorner_14 N m else (if 8 ≤ v1 then f_X9_isCorner_14 N m else ((some 1)))
theorem k_X9_isCorner {L : Nat} {xs : Nat → Int32} {δ N : Nat} {v1 : Int32} {m : mj_m} (_ : 0 ≤ δ) {a : Int32} (h : f_X9_isCorner N v1 m = some a) : mj_Cl (mj_EX L xs) δ mY_X9_isCorner [.ref 95, .int v1] (mj_fin m) (some (.int a), (mj_fin m)) := by
  refine mj_cl_of ok_X9_isCorner (Nat.le_of_ble_eq_true rfl) ?_
  unfold f_X9_isCorner at h
  refine mj_go_iload_n (k := 1) (x := v1) rfl (mj_dt dt_X9_isCorner 0 rfl) ?_
  refine mj_go_if_lt (tgt := 14) rfl (mj_dt dt_X9_isCorner 1 rfl) (fun b1 => ?_) (fun b1 => ?_)
  · rw [if_pos b1] at h
    refine mj_go_sub (lv' := []) (fun _ h9 => absurd h9 List.not_mem_nil) ?_
    exact k_X9_isCorner_14 h
  · rw [if_neg b1] at h
    refine mj_go_iload_n (k := 1) (x := v1) rfl (mj_dt dt_X9_isCorner 2 rfl) ?_
    refine mj_go_bipush (v := 8) rfl (mj_dt dt_X9_isCorner 3 rfl) ?_
    refine mj_go_icmp_ge (tgt := 14) rfl (mj_dt dt_X9_isCorner 4 rfl) (fun b2 => ?_) (fun b2 => ?_)
    · rw [if_pos b2] at h
      refine mj_go_sub (lv' := []) (fun _ h9 => absurd h9 List.not_mem_nil) ?_
      exact k_X9_isCorner_14 h
    · rw [if_neg b2] at h
      refine mj_go_iconst (v := 1) rfl (mj_dt dt_X9_isCorner 5 rfl) ?_
      refine mj_go_goto (tgt := 15) rfl (mj_dt dt_X9_isCorner 6 rfl) ?_
      obtain rfl := Option.some.inj h
      exact mj_go_ret (v := some (.int 1)) (Nat.le_of_ble_eq_true rfl) (mj_retZ (mj_dt dt_X9_isCorner 8 rfl) rfl rfl)
def f_X9_streets (N : Nat) (v1 : Int32) (v2 : Int32) (m : mj_m) : Option (Int32 × mj_m) := mj_ck (mj_b 0 97 (m.1 95 0)) ( mj_mw (mj_wI m 97 ((m.1 95 0).toNatClampNeg) v1) (fun m2 => mj_ck (mj_b 0 98 (m2.1 95 0)) ( mj_mw (mj_wI m2 98 ((m2.1 95 0).toNatClampNeg) v2) (fun m4 => mj_mw (mj_wI m4 95 0 ((m4.1 95 0) + 1)) (fun m5 => some (m4.1 95 0, m5))))))
theorem k_X9_streets {L : Nat} {xs : Nat → Int32} {δ N : Nat} {v1 : Int32} {v2 : Int32} {m : mj_m} (_ : 0 ≤ δ) {a : Int32 × mj_m} (h : f_X9_streets N v1 v2 m = some a) : mj_Cl (mj_EX L xs) δ mY_X9_streets [.ref 95, .int v1, .int v2] (mj_fin m) (some (.int a.1), (mj_fin a.2)) := by
  refine mj_cl_of ok_X9_streets (Nat.le_of_ble_eq_true rfl) ?_
  unfold f_X9_streets at h
  refine mj_go_aload_n (k := 0) (x := 95) rfl (mj_dt dt_X9_streets 0 rfl) ?_
  refine ml_getR (c := 9) (k := 12) (q := 97) fd_9_12 rf_95_12 (Or.inl fl_X9_29) ho_95 (mj_dt dt_X9_streets 1 rfl) ?_
  refine mj_go_aload_n (k := 0) (x := 95) rfl (mj_dt dt_X9_streets 2 rfl) ?_
  refine mk_getI (c := 9) (k := 0) (Or.inl fd_9_0) (Or.inl fl_X9_149) ho_95 (mj_dt dt_X9_streets 3 rfl) ?_
  refine mj_go_iload_n (k := 1) (x := v1) rfl (mj_dt dt_X9_streets 4 rfl) ?_
  obtain ⟨c1, h⟩ := mj_ck_some h
  obtain ⟨m2, em2, h⟩ := mj_mw_some h
  refine ml_iast c1 (mj_dt dt_X9_streets 5 rfl) ?_
  refine ml_eqm (M1 := (mj_fin m2)) (by rw [em2] <;> rfl) ?_
  refine mj_go_aload_n (k := 0) (x := 95) rfl (mj_dt dt_X9_streets 6 rfl) ?_
  refine ml_getR (c := 9) (k := 13) (q := 98) fd_9_13 rf_95_13 (Or.inl fl_X9_32) ho_95 (mj_dt dt_X9_streets 7 rfl) ?_
  refine mj_go_aload_n (k := 0) (x := 95) rfl (mj_dt dt_X9_streets 8 rfl) ?_
  refine mk_getI (c := 9) (k := 0) (Or.inl fd_9_0) (Or.inl fl_X9_149) ho_95 (mj_dt dt_X9_streets 9 rfl) ?_
  refine mj_go_iload_n (k := 2) (x := v2) rfl (mj_dt dt_X9_streets 10 rfl) ?_
  obtain ⟨c3, h⟩ := mj_ck_some h
  obtain ⟨m4, em4, h⟩ := mj_mw_some h
  refine ml_iast c3 (mj_dt dt_X9_streets 11 rfl) ?_
  refine ml_eqm (M1 := (mj_fin m4)) (by rw [em4] <;> rfl) ?_
  refine mj_go_aload_n (k := 0) (x := 95) rfl (mj_dt dt_X9_streets 12 rfl) ?_
  refine mj_go_dup rfl (mj_dt dt_X9_streets 13 rfl) ?_
  refine mk_getI (c := 9) (k := 0) (Or.inl fd_9_0) (Or.inl fl_X9_149) ho_95 (mj_dt dt_X9_streets 14 rfl) ?_
  refine mj_go_dup_x1 rfl rfl (mj_dt dt_X9_streets 15 rfl) ?_
  refine mj_go_iconst (v := 1) rfl (mj_dt dt_X9_streets 16 rfl) ?_
  refine mj_go_iadd (mj_dt dt_X9_streets 17 rfl) ?_
  obtain ⟨m5, em5, h⟩ := mj_mw_some h
  refine ml_putI (c := 9) (k := 0) fd_9_0 rfl fl_X9_149 ho_95 (mj_dt dt_X9_streets 18 rfl) ?_
  refine ml_eqm (M1 := (mj_fin m5)) (by rw [em5] <;> rfl) ?_
  obtain rfl := Option.some.inj h
  exact mj_go_ret (v := some (.int (m4.1 95 0))) (Nat.le_of_ble_eq_true rfl) (mj_retI (mj_dt dt_X9_streets 19 rfl) rfl)
def f_X9_street_16 (N : Nat) (m : mj_m) : Option (Int32 × mj_m) := (f_X9_no N (-1 : Int32) m).bind (fun r1 => some (r1.1, r1.2))
theorem k_X9_street_16 {L : Nat} {xs : Nat → Int32} {δ N : Nat} {m : mj_m} (hδ : 0 ≤ δ) {a : Int32 × mj_m} (h : f_X9_street_16 N m = some a) : mj_Go (mj_EX L xs) (δ + 1) mY_X9_street 16 [(0, .ref 95)] [] (mj_fin m) (some (.int a.1), (mj_fin a.2)) := by
  unfold f_X9_street_16 at h
  refine mj_go_aload_n (k := 0) (x := 95) rfl (mj_dt dt_X9_street 8 rfl) ?_
  refine mj_go_iconst (v := -1) rfl (mj_dt dt_X9_street 9 rfl) ?_
  obtain ⟨r1, er1, h⟩ := mj_bind_some h
  refine ml_callV (Y' := mY_X9_no) (as := [.int (-1 : Int32)]) (rest := []) (c := 9) (v := (some (.int r1.1))) (M1 := (mj_fin r1.2)) ho_95 rfl lm_X9_134 wc_X9_no pl_X9_no ok_X9_no rfl rfl (Nat.le_of_ble_eq_true rfl) (k_X9_no (by omega) er1) (mj_dt dt_X9_street 10 rfl) ?_
  obtain rfl := Option.some.inj h
  exact mj_go_ret (v := some (.int r1.1)) (Nat.le_of_ble_eq_true rfl) (mj_retI (mj_dt dt_X9_street 11 rfl) rfl)
def f_X9_street (N : Nat) (v1 : Int32) (v2 : Int32) (m : mj_m) : Option (Int32 × mj_m) := (f_X9_isCorner N v1 m).bind (fun r1 => if r1 = 0 then f_X9_street_16 N m else ((f_X9_isCorner N v2 m).bind (fun r3 => if r3 = 0 then f_X9_street_16 N m else (if v1 = v2 then ((f_X9_no N (-6 : Int32) m).bind (fun r6 => some (r6.1, r6.2))) else (if (m.1 95 0) = 12 then ((f_X9_no N (-7 : Int32) m).bind (fun r7 => (some (r7.1, r7.2)))) else ((f_X9_streets N v1 v2 m).bind (fun r7 => (some (r7.1, r7.2)))))))))
theorem k_X9_street {L : Nat} {xs : Nat → Int32} {δ N : Nat} {v1 : Int32} {v2 : Int32} {m : mj_m} (hδ : 1 ≤ δ) {a : Int32 × mj_m} (h : f_X9_street N v1 v2 m = some a) : mj_Cl (mj_EX L xs) δ mY_X9_street [.ref 95, .int v1, .int v2] (mj_fin m) (some (.int a.1), (mj_fin a.2)) := by
  obtain ⟨δ, rfl⟩ : ∃ d, δ = d + 1 := ⟨δ - 1, by omega⟩
  have hδ : 0 ≤ δ := by omega
  refine mj_cl_of ok_X9_street (Nat.le_of_ble_eq_true rfl) ?_
  unfold f_X9_street at h
  refine mj_go_aload_n (k := 0) (x := 95) rfl (mj_dt dt_X9_street 0 rfl) ?_
  refine mj_go_iload_n (k := 1) (x := v1) rfl (mj_dt dt_X9_street 1 rfl) ?_
  obtain ⟨r1, er1, h⟩ := mj_bind_some h
  refine ml_callV (Y' := mY_X9_isCorner) (as := [.int v1]) (rest := []) (c := 9) (v := (some (.int r1))) (M1 := (mj_fin m)) ho_95 rfl lm_X9_152 wc_X9_isCorner pl_X9_isCorner ok_X9_isCorner rfl rfl (Nat.le_of_ble_eq_true rfl) (k_X9_isCorner (by omega) er1) (mj_dt dt_X9_street 2 rfl) ?_
  refine mj_go_if_eq (tgt := 16) rfl (mj_dt dt_X9_street 3 rfl) (fun b2 => ?_) (fun b2 => ?_)
  · rw [if_pos b2] at h
    refine mj_go_sub (lv' := [(0, .ref 95)]) (List.forall_mem_cons.mpr ⟨rfl, (fun _ h9 => absurd h9 List.not_mem_nil)⟩) ?_
    exact k_X9_street_16 hδ h
  · rw [if_neg b2] at h
    refine mj_go_aload_n (k := 0) (x := 95) rfl (mj_dt dt_X9_street 4 rfl) ?_
    refine mj_go_iload_n (k := 2) (x := v2) rfl (mj_dt dt_X9_street 5 rfl) ?_
    obtain ⟨r3, er3, h⟩ := mj_bind_some h
    refine ml_callV (Y' := mY_X9_isCorner) (as := [.int v2]) (rest := []) (c := 9) (v := (some (.int r3))) (M1 := (mj_fin m)) ho_95 rfl lm_X9_152 wc_X9_isCorner pl_X9_isCorner ok_X9_isCorner rfl rfl (Nat.le_of_ble_eq_true rfl) (k_X9_isCorner (by omega) er3) (mj_dt dt_X9_street 6 rfl) ?_
    refine mj_go_if_ne (tgt := 22) rfl (mj_dt dt_X9_street 7 rfl) (fun b4 => ?_) (fun b4 => ?_)
    · rw [if_neg b4] at h
      refine mj_go_iload_n (k := 1) (x := v1) rfl (mj_dt dt_X9_street 12 rfl) ?_
      refine mj_go_iload_n (k := 2) (x := v2) rfl (mj_dt dt_X9_street 13 rfl) ?_
      refine mj_go_icmp_ne (tgt := 34) rfl (mj_dt dt_X9_street 14 rfl) (fun b5 => ?_) (fun b5 => ?_)
      · rw [if_neg b5] at h
        refine mj_go_aload_n (k := 0) (x := 95) rfl (mj_dt dt_X9_street 19 rfl) ?_
        refine mk_getI (c := 9) (k := 0) (Or.inl fd_9_0) (Or.inl fl_X9_149) ho_95 (mj_dt dt_X9_street 20 rfl) ?_
        refine mj_go_bipush (v := 12) rfl (mj_dt dt_X9_street 21 rfl) ?_
        refine mj_go_icmp_ne (tgt := 52) rfl (mj_dt dt_X9_street 22 rfl) (fun b6 => ?_) (fun b6 => ?_)
        · rw [if_neg b6] at h
          refine mj_go_aload_n (k := 0) (x := 95) rfl (mj_dt dt_X9_street 27 rfl) ?_
          refine mj_go_iload_n (k := 1) (x := v1) rfl (mj_dt dt_X9_street 28 rfl) ?_
          refine mj_go_iload_n (k := 2) (x := v2) rfl (mj_dt dt_X9_street 29 rfl) ?_
          obtain ⟨r7, er7, h⟩ := mj_bind_some h
          refine ml_callV (Y' := mY_X9_streets) (as := [.int v1, .int v2]) (rest := []) (c := 9) (v := (some (.int r7.1))) (M1 := (mj_fin r7.2)) ho_95 rfl lm_X9_155 wc_X9_streets pl_X9_streets ok_X9_streets rfl rfl (Nat.le_of_ble_eq_true rfl) (k_X9_streets (by omega) er7) (mj_dt dt_X9_street 30 rfl) ?_
          obtain rfl := Option.some.inj h
          exact mj_go_ret (v := some (.int r7.1)) (Nat.le_of_ble_eq_true rfl) (mj_retI (mj_dt dt_X9_street 31 rfl) rfl)
        · rw [if_pos b6] at h
          refine mj_go_aload_n (k := 0) (x := 95) rfl (mj_dt dt_X9_street 23 rfl) ?_
          refine mj_go_bipush (v := -7) rfl (mj_dt dt_X9_street 24 rfl) ?_
          obtain ⟨r7, er7, h⟩ := mj_bind_some h
          refine ml_callV (Y' := mY_X9_no) (as := [.int (-7 : Int32)]) (rest := []) (c := 9) (v := (some (.int r7.1))) (M1 := (mj_fin r7.2)) ho_95 rfl lm_X9_134 wc_X9_no pl_X9_no ok_X9_no rfl rfl (Nat.le_of_ble_eq_true rfl) (k_X9_no (by omega) er7) (mj_dt dt_X9_street 25 rfl) ?_
          refine mj_go_goto (tgt := 58) rfl (mj_dt dt_X9_street 26 rfl) ?_
          obtain rfl := Option.some.inj h
          exact mj_go_ret (v := some (.int r7.1)) (Nat.le_of_ble_eq_true rfl) (mj_retI (mj_dt dt_X9_street 31 rfl) rfl)
      · rw [if_pos b5] at h
        refine mj_go_aload_n (k := 0) (x := 95) rfl (mj_dt dt_X9_street 15 rfl) ?_
        refine mj_go_bipush (v := -6) rfl (mj_dt dt_X9_street 16 rfl) ?_
        obtain ⟨r6, er6, h⟩ := mj_bind_some h
        refine ml_callV (Y' := mY_X9_no) (as := [.int (-6 : Int32)]) (rest := []) (c := 9) (v := (some (.int r6.1))) (M1 := (mj_fin r6.2)) ho_95 rfl lm_X9_134 wc_X9_no pl_X9_no ok_X9_no rfl rfl (Nat.le_of_ble_eq_true rfl) (k_X9_no (by omega) er6) (mj_dt dt_X9_street 17 rfl) ?_
        obtain rfl := Option.some.inj h
        exact mj_go_ret (v := some (.int r6.1)) (Nat.le_of_ble_eq_true rfl) (mj_retI (mj_dt dt_X9_street 18 rfl) rfl)
    · rw [if_pos b4] at h
      refine mj_go_sub (lv' := [(0, .ref 95)]) (List.forall_mem_cons.mpr ⟨rfl, (fun _ h9 => absurd h9 List.not_mem_nil)⟩) ?_
      exact k_X9_street_16 hδ h
def f_X8_canBeHouse_45 (N : Nat) (m : mj_m) : Option (Int32) := (some 0)
theorem k_X8_canBeHouse_45 {L : Nat} {xs : Nat → Int32} {δ N : Nat} {m : mj_m} {a : Int32} (h : f_X8_canBeHouse_45 N m = some a) : mj_Go (mj_EX L xs) δ mY_X8_canBeHouse 45 [] [] (mj_fin m) (some (.int a), (mj_fin m)) := by
  unfold f_X8_canBeHouse_45 at h
  refine mj_go_iconst (v := 0) rfl (mj_dt dt_X8_canBeHouse 23 rfl) ?_
  obtain rfl := Option.some.inj h
  exact mj_go_ret (v := some (.int 0)) (Nat.le_of_ble_eq_true rfl) (mj_retZ (mj_dt dt_X8_canBeHouse 24 rfl) rfl rfl)
def f_X8_canBeHouse (N : Nat) (v0 : Int32) (v1 : Int32) (v2 : Int32) (v3 : Int32) (m : mj_m) : Option (Int32) := if v0 < 0 then f_X8_canBeHouse_45 N m else (if 9 < v0 then f_X8_canBeHouse_45 N m else (if v1 < 0 then f_X8_canBeHouse_45 N m else (if 99 < v1 then f_X8_canBeHouse_45 N m else (if v2 < 0 then f_X8_canBeHouse_45 N m else (if 99 < v2 then f_X8_canBeHouse_45 N m else (if v3 < 1 then f_X8_canBeHouse_45 N m else (if 99 < v3 then f_X8_canBeHouse_45 N m else ((some 1)))))))))
theorem k_X8_canBeHouse {L : Nat} {xs : Nat → Int32} {δ N : Nat} {v0 : Int32} {v1 : Int32} {v2 : Int32} {v3 : Int32} {m : mj_m} (_ : 0 ≤ δ) {a : Int32} (h : f_X8_canBeHouse N v0 v1 v2 v3 m = some a) : mj_Cl (mj_EX L xs) δ mY_X8_canBeHouse [.int v0, .int v1, .int v2, .int v3] (mj_fin m) (some (.int a), (mj_fin m)) := by
  refine mj_cl_of ok_X8_canBeHouse (Nat.le_of_ble_eq_true rfl) ?_
  unfold f_X8_canBeHouse at h
  refine mj_go_iload_n (k := 0) (x := v0) rfl (mj_dt dt_X8_canBeHouse 0 rfl) ?_
  refine mj_go_if_lt (tgt := 45) rfl (mj_dt dt_X8_canBeHouse 1 rfl) (fun b1 => ?_) (fun b1 => ?_)
  · rw [if_pos b1] at h
    refine mj_go_sub (lv' := []) (fun _ h9 => absurd h9 List.not_mem_nil) ?_
    exact k_X8_canBeHouse_45 h
  · rw [if_neg b1] at h
    refine mj_go_iload_n (k := 0) (x := v0) rfl (mj_dt dt_X8_canBeHouse 2 rfl) ?_
    refine mj_go_bipush (v := 9) rfl (mj_dt dt_X8_canBeHouse 3 rfl) ?_
    refine mj_go_icmp_gt (tgt := 45) rfl (mj_dt dt_X8_canBeHouse 4 rfl) (fun b2 => ?_) (fun b2 => ?_)
    · rw [if_pos b2] at h
      refine mj_go_sub (lv' := []) (fun _ h9 => absurd h9 List.not_mem_nil) ?_
      exact k_X8_canBeHouse_45 h
    · rw [if_neg b2] at h
      refine mj_go_iload_n (k := 1) (x := v1) rfl (mj_dt dt_X8_canBeHouse 5 rfl) ?_
      refine mj_go_if_lt (tgt := 45) rfl (mj_dt dt_X8_canBeHouse 6 rfl) (fun b3 => ?_) (fun b3 => ?_)
      · rw [if_pos b3] at h
        refine mj_go_sub (lv' := []) (fun _ h9 => absurd h9 List.not_mem_nil) ?_
        exact k_X8_canBeHouse_45 h
      · rw [if_neg b3] at h
        refine mj_go_iload_n (k := 1) (x := v1) rfl (mj_dt dt_X8_canBeHouse 7 rfl) ?_
        refine mj_go_bipush (v := 99) rfl (mj_dt dt_X8_canBeHouse 8 rfl) ?_
        refine mj_go_icmp_gt (tgt := 45) rfl (mj_dt dt_X8_canBeHouse 9 rfl) (fun b4 => ?_) (fun b4 => ?_)
        · rw [if_pos b4] at h
          refine mj_go_sub (lv' := []) (fun _ h9 => absurd h9 List.not_mem_nil) ?_
          exact k_X8_canBeHouse_45 h
        · rw [if_neg b4] at h
          refine mj_go_iload_n (k := 2) (x := v2) rfl (mj_dt dt_X8_canBeHouse 10 rfl) ?_
          refine mj_go_if_lt (tgt := 45) rfl (mj_dt dt_X8_canBeHouse 11 rfl) (fun b5 => ?_) (fun b5 => ?_)
          · rw [if_pos b5] at h
            refine mj_go_sub (lv' := []) (fun _ h9 => absurd h9 List.not_mem_nil) ?_
            exact k_X8_canBeHouse_45 h
          · rw [if_neg b5] at h
            refine mj_go_iload_n (k := 2) (x := v2) rfl (mj_dt dt_X8_canBeHouse 12 rfl) ?_
            refine mj_go_bipush (v := 99) rfl (mj_dt dt_X8_canBeHouse 13 rfl) ?_
            refine mj_go_icmp_gt (tgt := 45) rfl (mj_dt dt_X8_canBeHouse 14 rfl) (fun b6 => ?_) (fun b6 => ?_)
            · rw [if_pos b6] at h
              refine mj_go_sub (lv' := []) (fun _ h9 => absurd h9 List.not_mem_nil) ?_
              exact k_X8_canBeHouse_45 h
            · rw [if_neg b6] at h
              refine mj_go_iload_n (k := 3) (x := v3) rfl (mj_dt dt_X8_canBeHouse 15 rfl) ?_
              refine mj_go_iconst (v := 1) rfl (mj_dt dt_X8_canBeHouse 16 rfl) ?_
              refine mj_go_icmp_lt (tgt := 45) rfl (mj_dt dt_X8_canBeHouse 17 rfl) (fun b7 => ?_) (fun b7 => ?_)
              · rw [if_pos b7] at h
                refine mj_go_sub (lv' := []) (fun _ h9 => absurd h9 List.not_mem_nil) ?_
                exact k_X8_canBeHouse_45 h
              · rw [if_neg b7] at h
                refine mj_go_iload_n (k := 3) (x := v3) rfl (mj_dt dt_X8_canBeHouse 18 rfl) ?_
                refine mj_go_bipush (v := 99) rfl (mj_dt dt_X8_canBeHouse 19 rfl) ?_
                refine mj_go_icmp_gt (tgt := 45) rfl (mj_dt dt_X8_canBeHouse 20 rfl) (fun b8 => ?_) (fun b8 => ?_)
                · rw [if_pos b8] at h
                  refine mj_go_sub (lv' := []) (fun _ h9 => absurd h9 List.not_mem_nil) ?_
                  exact k_X8_canBeHouse_45 h
                · rw [if_neg b8] at h
                  refine mj_go_iconst (v := 1) rfl (mj_dt dt_X8_canBeHouse 21 rfl) ?_
                  refine mj_go_goto (tgt := 46) rfl (mj_dt dt_X8_canBeHouse 22 rfl) ?_
                  obtain rfl := Option.some.inj h
                  exact mj_go_ret (v := some (.int 1)) (Nat.le_of_ble_eq_true rfl) (mj_retZ (mj_dt dt_X8_canBeHouse 24 rfl) rfl rfl)
