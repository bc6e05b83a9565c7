/-! METHODS as functions, and their rows over the small machine (printed by program from the printed instructions) -/
def f_X3_mostSaving_115 (N : Nat) (k_8 : Int32 × Int64 × Int32 × mj_m → Option (Int32 × mj_m)) (v1 : Int32) (v2 : Int32) (v3 : Int32) (v4 : Int64) (v6 : Int32) (m : mj_m) : Option (Int32 × mj_m) := mj_mw (v6 + 1) (fun x1 => k_8 (v3, v4, x1, m))
theorem k_X3_mostSaving_115 {L : Nat} {xs : Nat → Int32} {δ N : Nat} {v1 : Int32} {v2 : Int32} {v3 : Int32} {v4 : Int64} {v6 : Int32} {m : mj_m} {k_8 : Int32 × Int64 × Int32 × mj_m → Option (Int32 × mj_m)} (q_8 : ∀ (s_ : Int32 × Int64 × Int32 × mj_m) (a_ : Int32 × mj_m), k_8 s_ = some a_ → mj_Go (mj_EX L xs) (δ + 1) mY_X3_mostSaving 8 [(0, .ref 45), (1, .int v1), (2, .int v2), (3, .int s_.1), (4, .long s_.2.1), (6, .int s_.2.2.1)] [] (mj_fin s_.2.2.2) (some (.int a_.1), (mj_fin a_.2))) (hδ : 3 ≤ δ) {a : Int32 × mj_m} (h : f_X3_mostSaving_115 N k_8 v1 v2 v3 v4 v6 m = some a) : mj_Go (mj_EX L xs) (δ + 1) mY_X3_mostSaving 115 [(0, .ref 45), (1, .int v1), (2, .int v2), (3, .int v3), (4, .long v4), (6, .int v6)] [] (mj_fin m) (some (.int a.1), (mj_fin a.2)) := by
  unfold f_X3_mostSaving_115 at h
  obtain ⟨x1, ex1, h⟩ := mj_mw_some h
  refine mj_go_iinc (i := 6) (x := v6) (v := x1) rfl (by rw [ex1] <;> rfl) (by decide) (mj_dt dt_X3_mostSaving 65 rfl) ?_
  refine mj_go_goto (tgt := 8) rfl (mj_dt dt_X3_mostSaving 66 rfl) ?_
  refine mj_go_sub (lv' := [(0, .ref 45), (1, .int v1), (2, .int v2), (3, .int v3), (4, .long v4), (6, .int x1)]) (List.forall_mem_cons.mpr ⟨rfl, (List.forall_mem_cons.mpr ⟨rfl, (List.forall_mem_cons.mpr ⟨rfl, (List.forall_mem_cons.mpr ⟨rfl, (List.forall_mem_cons.mpr ⟨rfl, (List.forall_mem_cons.mpr ⟨rfl, (fun _ h9 => absurd h9 List.not_mem_nil)⟩)⟩)⟩)⟩)⟩)⟩) ?_
  exact q_8 _ _ h
def f_X3_mostSaving_108 (N : Nat) (k_8 : Int32 × Int64 × Int32 × mj_m → Option (Int32 × mj_m)) (v1 : Int32) (v2 : Int32) (v6 : Int32) (v7 : Int64) (m : mj_m) : Option (Int32 × mj_m) := f_X3_mostSaving_115 N k_8 v1 v2 v6 v7 v6 m
theorem k_X3_mostSaving_108 {L : Nat} {xs : Nat → Int32} {δ N : Nat} {v1 : Int32} {v2 : Int32} {v6 : Int32} {v7 : Int64} {m : mj_m} {k_8 : Int32 × Int64 × Int32 × mj_m → Option (Int32 × mj_m)} (q_8 : ∀ (s_ : Int32 × Int64 × Int32 × mj_m) (a_ : Int32 × mj_m), k_8 s_ = some a_ → mj_Go (mj_EX L xs) (δ + 1) mY_X3_mostSaving 8 [(0, .ref 45), (1, .int v1), (2, .int v2), (3, .int s_.1), (4, .long s_.2.1), (6, .int s_.2.2.1)] [] (mj_fin s_.2.2.2) (some (.int a_.1), (mj_fin a_.2))) (hδ : 3 ≤ δ) {a : Int32 × mj_m} (h : f_X3_mostSaving_108 N k_8 v1 v2 v6 v7 m = some a) : mj_Go (mj_EX L xs) (δ + 1) mY_X3_mostSaving 108 [(0, .ref 45), (1, .int v1), (2, .int v2), (6, .int v6), (7, .long v7)] [] (mj_fin m) (some (.int a.1), (mj_fin a.2)) := by
  unfold f_X3_mostSaving_108 at h
  refine mj_go_iload (i := 6) (x := v6) rfl (mj_dt dt_X3_mostSaving 61 rfl) ?_
  refine mj_go_istore_n (k := 3) (by decide) (mj_dt dt_X3_mostSaving 62 rfl) ?_
  refine mj_go_lload (i := 7) (x := v7) rfl (mj_dt dt_X3_mostSaving 63 rfl) ?_
  refine mj_go_lstore (i := 4) (by decide) (mj_dt dt_X3_mostSaving 64 rfl) ?_
  refine mj_go_sub (lv' := [(0, .ref 45), (1, .int v1), (2, .int v2), (3, .int v6), (4, .long v7), (6, .int v6)]) (List.forall_mem_cons.mpr ⟨rfl, (List.forall_mem_cons.mpr ⟨rfl, (List.forall_mem_cons.mpr ⟨rfl, (List.forall_mem_cons.mpr ⟨rfl, (List.forall_mem_cons.mpr ⟨rfl, (List.forall_mem_cons.mpr ⟨rfl, (fun _ h9 => absurd h9 List.not_mem_nil)⟩)⟩)⟩)⟩)⟩)⟩) ?_
  exact k_X3_mostSaving_115 q_8 hδ h
def f_X3_mostSaving_8 (N : Nat) (v1 : Int32) (v2 : Int32) (k_8 : Int32 × Int64 × Int32 × mj_m → Option (Int32 × mj_m)) (s : Int32 × Int64 × Int32 × mj_m) : Option (Int32 × mj_m) := if (s.2.2.2.1 1 7) ≤ s.2.2.1 then (some (s.1, s.2.2.2)) else (mj_ck (mj_b 0 5 s.2.2.1) ( if 2 ≤ (s.2.2.2.1 5 s.2.2.1.toNatClampNeg) then f_X3_mostSaving_115 N k_8 v1 v2 s.1 s.2.1 s.2.2.1 s.2.2.2 else (mj_ck (mj_b 2 4 s.2.2.1) ( if v1 < (s.2.2.2.1 (8 + s.2.2.1.toNatClampNeg) 4) then f_X3_mostSaving_115 N k_8 v1 v2 s.1 s.2.1 s.2.2.1 s.2.2.2 else (if ((v2 >>> (s.2.2.1 &&& 31)) &&& 1) = 0 then (mj_ck (mj_b 0 47 s.2.2.1) ( mj_mw (mj_wI s.2.2.2 47 (s.2.2.1.toNatClampNeg) ((s.2.2.2.1 47 s.2.2.1.toNatClampNeg) + 1)) (fun m8 => (f_X2_meanBy N 47 m8).bind (fun r9 => mj_mw (mj_wI r9.2 47 (s.2.2.1.toNatClampNeg) ((r9.2.1 47 s.2.2.1.toNatClampNeg) - 1)) (fun m10 => if s.1 = (-1 : Int32) then f_X3_mostSaving_108 N k_8 v1 v2 s.2.2.1 r9.1 m10 else (if 0 ≤ (lg_cmp r9.1 s.2.1) then f_X3_mostSaving_115 N k_8 v1 v2 s.1 s.2.1 s.2.2.1 m10 else f_X3_mostSaving_108 N k_8 v1 v2 s.2.2.1 r9.1 m10)))))) else f_X3_mostSaving_115 N k_8 v1 v2 s.1 s.2.1 s.2.2.1 s.2.2.2)))))
theorem k_X3_mostSaving_8 {L : Nat} {xs : Nat → Int32} {δ N : Nat} {v1 : Int32} {v2 : Int32} (hδ : 3 ≤ δ) : ∀ (n : Nat) (s : Int32 × Int64 × Int32 × mj_m) (a : Int32 × mj_m), mj_lp n (f_X3_mostSaving_8 N v1 v2) s = some a → mj_Go (mj_EX L xs) (δ + 1) mY_X3_mostSaving 8 [(0, .ref 45), (1, .int v1), (2, .int v2), (3, .int s.1), (4, .long s.2.1), (6, .int s.2.2.1)] [] (mj_fin s.2.2.2) (some (.int a.1), (mj_fin a.2)) := by
  refine mj_lp_sound (fun k_8 s a q_8 h => ?_)
  unfold f_X3_mostSaving_8 at h
  refine mj_go_iload (i := 6) (x := s.2.2.1) rfl (mj_dt dt_X3_mostSaving 6 rfl) ?_
  refine mj_go_aload_n (k := 0) (x := 45) rfl (mj_dt dt_X3_mostSaving 7 rfl) ?_
  refine ml_getR (c := 3) (k := 0) (q := 1) fd_3_0 rf_45_0 (Or.inl fl_X3_18) ho_45 (mj_dt dt_X3_mostSaving 8 rfl) ?_
  refine mk_getI (c := 7) (k := 7) (Or.inl fd_7_7) (Or.inl fl_X3_39) ho_1 (mj_dt dt_X3_mostSaving 9 rfl) ?_
  refine mj_go_icmp_ge (tgt := 121) rfl (mj_dt dt_X3_mostSaving 10 rfl) (fun b1 => ?_) (fun b1 => ?_)
  · rw [if_pos b1] at h
    refine mj_go_iload_n (k := 3) (x := s.1) rfl (mj_dt dt_X3_mostSaving 67 rfl) ?_
    obtain rfl := Option.some.inj h
    exact mj_go_ret (v := some (.int s.1)) (Nat.le_of_ble_eq_true rfl) (mj_retI (mj_dt dt_X3_mostSaving 68 rfl) rfl)
  · rw [if_neg b1] at h
    refine mj_go_aload_n (k := 0) (x := 45) rfl (mj_dt dt_X3_mostSaving 11 rfl) ?_
    refine ml_getR (c := 3) (k := 0) (q := 1) fd_3_0 rf_45_0 (Or.inl fl_X3_18) ho_45 (mj_dt dt_X3_mostSaving 12 rfl) ?_
    refine ml_getR (c := 7) (k := 3) (q := 5) fd_7_3 rf_1_3 (Or.inl fl_X3_44) ho_1 (mj_dt dt_X3_mostSaving 13 rfl) ?_
    refine mj_go_iload (i := 6) (x := s.2.2.1) rfl (mj_dt dt_X3_mostSaving 14 rfl) ?_
    obtain ⟨c2, h⟩ := mj_ck_some h
    refine mk_iald c2 (mj_dt dt_X3_mostSaving 15 rfl) ?_
    refine mj_go_iconst (v := 2) rfl (mj_dt dt_X3_mostSaving 16 rfl) ?_
    refine mj_go_icmp_ge (tgt := 115) rfl (mj_dt dt_X3_mostSaving 17 rfl) (fun b3 => ?_) (fun b3 => ?_)
    · rw [if_pos b3] at h
      refine mj_go_sub (lv' := [(0, .ref 45), (1, .int v1), (2, .int v2), (3, .int s.1), (4, .long s.2.1), (6, .int s.2.2.1)]) (List.forall_mem_cons.mpr ⟨rfl, (List.forall_mem_cons.mpr ⟨rfl, (List.forall_mem_cons.mpr ⟨rfl, (List.forall_mem_cons.mpr ⟨rfl, (List.forall_mem_cons.mpr ⟨rfl, (List.forall_mem_cons.mpr ⟨rfl, (fun _ h9 => absurd h9 List.not_mem_nil)⟩)⟩)⟩)⟩)⟩)⟩) ?_
      exact k_X3_mostSaving_115 q_8 hδ h
    · rw [if_neg b3] at h
      refine mj_go_aload_n (k := 0) (x := 45) rfl (mj_dt dt_X3_mostSaving 18 rfl) ?_
      refine ml_getR (c := 3) (k := 0) (q := 1) fd_3_0 rf_45_0 (Or.inl fl_X3_18) ho_45 (mj_dt dt_X3_mostSaving 19 rfl) ?_
      refine ml_getR (c := 7) (k := 2) (q := 4) fd_7_2 rf_1_2 (Or.inl fl_X3_61) ho_1 (mj_dt dt_X3_mostSaving 20 rfl) ?_
      refine mj_go_iload (i := 6) (x := s.2.2.1) rfl (mj_dt dt_X3_mostSaving 21 rfl) ?_
      obtain ⟨c4, h⟩ := mj_ck_some h
      refine ml_aald2 (q := 8 + s.2.2.1.toNatClampNeg) c4 (mj_hs4 c4).1 (mj_dt dt_X3_mostSaving 22 rfl) ?_
      refine mk_getI (c := 1) (k := 4) (Or.inl fd_1_4) (Or.inl fl_X3_114) (mj_hs4 c4).2 (mj_dt dt_X3_mostSaving 23 rfl) ?_
      refine mj_go_iload_n (k := 1) (x := v1) rfl (mj_dt dt_X3_mostSaving 24 rfl) ?_
      refine mj_go_icmp_gt (tgt := 115) rfl (mj_dt dt_X3_mostSaving 25 rfl) (fun b5 => ?_) (fun b5 => ?_)
      · rw [if_pos b5] at h
        refine mj_go_sub (lv' := [(0, .ref 45), (1, .int v1), (2, .int v2), (3, .int s.1), (4, .long s.2.1), (6, .int s.2.2.1)]) (List.forall_mem_cons.mpr ⟨rfl, (List.forall_mem_cons.mpr ⟨rfl, (List.forall_mem_cons.mpr ⟨rfl, (List.forall_mem_cons.mpr ⟨rfl, (List.forall_mem_cons.mpr ⟨rfl, (List.forall_mem_cons.mpr ⟨rfl, (fun _ h9 => absurd h9 List.not_mem_nil)⟩)⟩)⟩)⟩)⟩)⟩) ?_
        exact k_X3_mostSaving_115 q_8 hδ h
      · rw [if_neg b5] at h
        refine mj_go_iload_n (k := 2) (x := v2) rfl (mj_dt dt_X3_mostSaving 26 rfl) ?_
        refine mj_go_iload (i := 6) (x := s.2.2.1) rfl (mj_dt dt_X3_mostSaving 27 rfl) ?_
        refine mj_go_ishr (mj_dt dt_X3_mostSaving 28 rfl) ?_
        refine mj_go_iconst (v := 1) rfl (mj_dt dt_X3_mostSaving 29 rfl) ?_
        refine mj_go_iand (mj_dt dt_X3_mostSaving 30 rfl) ?_
        refine mj_go_if_ne (tgt := 115) rfl (mj_dt dt_X3_mostSaving 31 rfl) (fun b6 => ?_) (fun b6 => ?_)
        · rw [if_neg b6] at h
          refine mj_go_sub (lv' := [(0, .ref 45), (1, .int v1), (2, .int v2), (3, .int s.1), (4, .long s.2.1), (6, .int s.2.2.1)]) (List.forall_mem_cons.mpr ⟨rfl, (List.forall_mem_cons.mpr ⟨rfl, (List.forall_mem_cons.mpr ⟨rfl, (List.forall_mem_cons.mpr ⟨rfl, (List.forall_mem_cons.mpr ⟨rfl, (List.forall_mem_cons.mpr ⟨rfl, (fun _ h9 => absurd h9 List.not_mem_nil)⟩)⟩)⟩)⟩)⟩)⟩) ?_
          exact k_X3_mostSaving_115 q_8 hδ h
        · rw [if_pos b6] at h
          refine mj_go_aload_n (k := 0) (x := 45) rfl (mj_dt dt_X3_mostSaving 32 rfl) ?_
          refine ml_getR (c := 3) (k := 3) (q := 47) fd_3_3 rf_45_3 (Or.inl fl_X3_15) ho_45 (mj_dt dt_X3_mostSaving 33 rfl) ?_
          refine mj_go_iload (i := 6) (x := s.2.2.1) rfl (mj_dt dt_X3_mostSaving 34 rfl) ?_
          refine mj_go_dup2_11 rfl rfl (mj_dt dt_X3_mostSaving 35 rfl) ?_
          obtain ⟨c7, h⟩ := mj_ck_some h
          refine mk_iald c7 (mj_dt dt_X3_mostSaving 36 rfl) ?_
          refine mj_go_iconst (v := 1) rfl (mj_dt dt_X3_mostSaving 37 rfl) ?_
          refine mj_go_iadd (mj_dt dt_X3_mostSaving 38 rfl) ?_
          obtain ⟨m8, em8, h⟩ := mj_mw_some h
          refine ml_iast c7 (mj_dt dt_X3_mostSaving 39 rfl) ?_
          refine ml_eqm (M1 := (mj_fin m8)) (by rw [em8] <;> rfl) ?_
          refine mj_go_aload_n (k := 0) (x := 45) rfl (mj_dt dt_X3_mostSaving 40 rfl) ?_
          refine ml_getR (c := 3) (k := 1) (q := 36) fd_3_1 rf_45_1 (Or.inl fl_X3_22) ho_45 (mj_dt dt_X3_mostSaving 41 rfl) ?_
          refine mj_go_aload_n (k := 0) (x := 45) rfl (mj_dt dt_X3_mostSaving 42 rfl) ?_
          refine ml_getR (c := 3) (k := 3) (q := 47) fd_3_3 rf_45_3 (Or.inl fl_X3_15) ho_45 (mj_dt dt_X3_mostSaving 43 rfl) ?_
          obtain ⟨r9, er9, h⟩ := mj_bind_some h
          refine ml_callV (Y' := mY_X2_meanBy) (as := [.ref 47]) (rest := []) (c := 2) (v := (some (.long r9.1))) (M1 := (mj_fin r9.2)) ho_36 rfl lm_X3_117 wc_X2_meanBy pl_X2_meanBy ok_X2_meanBy rfl rfl (Nat.le_of_ble_eq_true rfl) (k_X2_meanBy (by omega) er9) (mj_dt dt_X3_mostSaving 44 rfl) ?_
          refine mj_go_lstore (i := 7) (by decide) (mj_dt dt_X3_mostSaving 45 rfl) ?_
          refine mj_go_aload_n (k := 0) (x := 45) rfl (mj_dt dt_X3_mostSaving 46 rfl) ?_
          refine ml_getR (c := 3) (k := 3) (q := 47) fd_3_3 rf_45_3 (Or.inl fl_X3_15) ho_45 (mj_dt dt_X3_mostSaving 47 rfl) ?_
          refine mj_go_iload (i := 6) (x := s.2.2.1) rfl (mj_dt dt_X3_mostSaving 48 rfl) ?_
          refine mj_go_dup2_11 rfl rfl (mj_dt dt_X3_mostSaving 49 rfl) ?_
          refine mk_iald c7 (mj_dt dt_X3_mostSaving 50 rfl) ?_
          refine mj_go_iconst (v := 1) rfl (mj_dt dt_X3_mostSaving 51 rfl) ?_
          refine mj_go_isub (mj_dt dt_X3_mostSaving 52 rfl) ?_
          obtain ⟨m10, em10, h⟩ := mj_mw_some h
          refine ml_iast c7 (mj_dt dt_X3_mostSaving 53 rfl) ?_
          refine ml_eqm (M1 := (mj_fin m10)) (by rw [em10] <;> rfl) ?_
          refine mj_go_iload_n (k := 3) (x := s.1) rfl (mj_dt dt_X3_mostSaving 54 rfl) ?_
          refine mj_go_iconst (v := -1) rfl (mj_dt dt_X3_mostSaving 55 rfl) ?_
          refine mj_go_icmp_eq (tgt := 108) rfl (mj_dt dt_X3_mostSaving 56 rfl) (fun b11 => ?_) (fun b11 => ?_)
          · rw [if_pos b11] at h
            refine mj_go_sub (lv' := [(0, .ref 45), (1, .int v1), (2, .int v2), (6, .int s.2.2.1), (7, .long r9.1)]) (List.forall_mem_cons.mpr ⟨rfl, (List.forall_mem_cons.mpr ⟨rfl, (List.forall_mem_cons.mpr ⟨rfl, (List.forall_mem_cons.mpr ⟨rfl, (List.forall_mem_cons.mpr ⟨rfl, (fun _ h9 => absurd h9 List.not_mem_nil)⟩)⟩)⟩)⟩)⟩) ?_
            exact k_X3_mostSaving_108 q_8 hδ h
          · rw [if_neg b11] at h
            refine mj_go_lload (i := 7) (x := r9.1) rfl (mj_dt dt_X3_mostSaving 57 rfl) ?_
            refine mj_go_lload (i := 4) (x := s.2.1) rfl (mj_dt dt_X3_mostSaving 58 rfl) ?_
            refine mj_go_lcmp (mj_dt dt_X3_mostSaving 59 rfl) ?_
            refine mj_go_if_ge (tgt := 115) rfl (mj_dt dt_X3_mostSaving 60 rfl) (fun b12 => ?_) (fun b12 => ?_)
            · rw [if_pos b12] at h
              refine mj_go_sub (lv' := [(0, .ref 45), (1, .int v1), (2, .int v2), (3, .int s.1), (4, .long s.2.1), (6, .int s.2.2.1)]) (List.forall_mem_cons.mpr ⟨rfl, (List.forall_mem_cons.mpr ⟨rfl, (List.forall_mem_cons.mpr ⟨rfl, (List.forall_mem_cons.mpr ⟨rfl, (List.forall_mem_cons.mpr ⟨rfl, (List.forall_mem_cons.mpr ⟨rfl, (fun _ h9 => absurd h9 List.not_mem_nil)⟩)⟩)⟩)⟩)⟩)⟩) ?_
              exact k_X3_mostSaving_115 q_8 hδ h
            · rw [if_neg b12] at h
              refine mj_go_sub (lv' := [(0, .ref 45), (1, .int v1), (2, .int v2), (6, .int s.2.2.1), (7, .long r9.1)]) (List.forall_mem_cons.mpr ⟨rfl, (List.forall_mem_cons.mpr ⟨rfl, (List.forall_mem_cons.mpr ⟨rfl, (List.forall_mem_cons.mpr ⟨rfl, (List.forall_mem_cons.mpr ⟨rfl, (fun _ h9 => absurd h9 List.not_mem_nil)⟩)⟩)⟩)⟩)⟩) ?_
              exact k_X3_mostSaving_108 q_8 hδ h
def f_X3_mostSaving (N : Nat) (v1 : Int32) (v2 : Int32) (m : mj_m) : Option (Int32 × mj_m) := mj_lp N (f_X3_mostSaving_8 N v1 v2) ((-1 : Int32), 0, 0, m)
theorem k_X3_mostSaving {L : Nat} {xs : Nat → Int32} {δ N : Nat} {v1 : Int32} {v2 : Int32} {m : mj_m} (hδ : 4 ≤ δ) {a : Int32 × mj_m} (h : f_X3_mostSaving N v1 v2 m = some a) : mj_Cl (mj_EX L xs) δ mY_X3_mostSaving [.ref 45, .int v1, .int v2] (mj_fin m) (some (.int a.1), (mj_fin a.2)) := by
  obtain ⟨δ, rfl⟩ : ∃ d, δ = d + 1 := ⟨δ - 1, by omega⟩
  have hδ : 3 ≤ δ := by omega
  refine mj_cl_of ok_X3_mostSaving (Nat.le_of_ble_eq_true rfl) ?_
  unfold f_X3_mostSaving at h
  refine mj_go_iconst (v := -1) rfl (mj_dt dt_X3_mostSaving 0 rfl) ?_
  refine mj_go_istore_n (k := 3) (by decide) (mj_dt dt_X3_mostSaving 1 rfl) ?_
  refine mj_go_lconst (v := 0) rfl (mj_dt dt_X3_mostSaving 2 rfl) ?_
  refine mj_go_lstore (i := 4) (by decide) (mj_dt dt_X3_mostSaving 3 rfl) ?_
  refine mj_go_iconst (v := 0) rfl (mj_dt dt_X3_mostSaving 4 rfl) ?_
  refine mj_go_istore (i := 6) (by decide) (mj_dt dt_X3_mostSaving 5 rfl) ?_
  refine mj_go_sub (lv' := [(0, .ref 45), (1, .int v1), (2, .int v2), (3, .int (-1 : Int32)), (4, .long 0), (6, .int 0)]) (List.forall_mem_cons.mpr ⟨rfl, (List.forall_mem_cons.mpr ⟨rfl, (List.forall_mem_cons.mpr ⟨rfl, (List.forall_mem_cons.mpr ⟨rfl, (List.forall_mem_cons.mpr ⟨rfl, (List.forall_mem_cons.mpr ⟨rfl, (fun _ h9 => absurd h9 List.not_mem_nil)⟩)⟩)⟩)⟩)⟩)⟩) ?_
  exact k_X3_mostSaving_8 hδ N _ _ h
def f_X3_arrangeSaving_150 (N : Nat) (k_98 : Int32 × Int32 × mj_m → Option (Int32 × mj_m)) (v1 : Int32) (v2 : Nat) (v4 : Int32) (v5 : Int32) (m : mj_m) : Option (Int32 × mj_m) := mj_mw (v5 + 1) (fun x1 => k_98 (v4, x1, m))
theorem k_X3_arrangeSaving_150 {L : Nat} {xs : Nat → Int32} {δ N : Nat} {v1 : Int32} {v2 : Nat} {v4 : Int32} {v5 : Int32} {m : mj_m} {k_98 : Int32 × Int32 × mj_m → Option (Int32 × mj_m)} (q_98 : ∀ (s_ : Int32 × Int32 × mj_m) (a_ : Int32 × mj_m), k_98 s_ = some a_ → mj_Go (mj_EX L xs) (δ + 1) mY_X3_arrangeSaving 98 [(0, .ref 45), (1, .int v1), (2, .ref v2), (4, .int s_.1), (5, .int s_.2.1)] [] (mj_fin s_.2.2) (some (.int a_.1), (mj_fin a_.2))) (hδ : 4 ≤ δ) {a : Int32 × mj_m} (h : f_X3_arrangeSaving_150 N k_98 v1 v2 v4 v5 m = some a) : mj_Go (mj_EX L xs) (δ + 1) mY_X3_arrangeSaving 150 [(0, .ref 45), (1, .int v1), (2, .ref v2), (4, .int v4), (5, .int v5)] [] (mj_fin m) (some (.int a.1), (mj_fin a.2)) := by
  unfold f_X3_arrangeSaving_150 at h
  obtain ⟨x1, ex1, h⟩ := mj_mw_some h
  refine mj_go_iinc (i := 5) (x := v5) (v := x1) rfl (by rw [ex1] <;> rfl) (by decide) (mj_dt dt_X3_arrangeSaving 80 rfl) ?_
  refine mj_go_goto (tgt := 98) rfl (mj_dt dt_X3_arrangeSaving 81 rfl) ?_
  refine mj_go_sub (lv' := [(0, .ref 45), (1, .int v1), (2, .ref v2), (4, .int v4), (5, .int x1)]) (List.forall_mem_cons.mpr ⟨rfl, (List.forall_mem_cons.mpr ⟨rfl, (List.forall_mem_cons.mpr ⟨rfl, (List.forall_mem_cons.mpr ⟨rfl, (List.forall_mem_cons.mpr ⟨rfl, (fun _ h9 => absurd h9 List.not_mem_nil)⟩)⟩)⟩)⟩)⟩) ?_
  exact q_98 _ _ h
def f_X3_arrangeSaving_98 (N : Nat) (v1 : Int32) (v2 : Nat) (k_98 : Int32 × Int32 × mj_m → Option (Int32 × mj_m)) (s : Int32 × Int32 × mj_m) : Option (Int32 × mj_m) := if (s.2.2.1 1 7) ≤ s.2.1 then (some (s.1, s.2.2)) else (mj_ck (mj_b 0 5 s.2.1) ( if 2 ≤ (s.2.2.1 5 s.2.1.toNatClampNeg) then f_X3_arrangeSaving_150 N k_98 v1 v2 s.1 s.2.1 s.2.2 else (mj_ck (mj_b 2 4 s.2.1) ( if (s.2.2.1 (8 + s.2.1.toNatClampNeg) 4) ≤ v1 then f_X3_arrangeSaving_150 N k_98 v1 v2 s.1 s.2.1 s.2.2 else (mj_ck (mj_b 0 v2 s.1) ( mj_mw (mj_wI s.2.2 v2 (s.1.toNatClampNeg) s.2.1) (fun m7 => mj_mw (s.1 + 1) (fun x8 => f_X3_arrangeSaving_150 N k_98 v1 v2 x8 s.2.1 m7))))))))
theorem k_X3_arrangeSaving_98 {L : Nat} {xs : Nat → Int32} {δ N : Nat} {v1 : Int32} {v2 : Nat} (hδ : 4 ≤ δ) : ∀ (n : Nat) (s : Int32 × Int32 × mj_m) (a : Int32 × mj_m), mj_lp n (f_X3_arrangeSaving_98 N v1 v2) s = some a → mj_Go (mj_EX L xs) (δ + 1) mY_X3_arrangeSaving 98 [(0, .ref 45), (1, .int v1), (2, .ref v2), (4, .int s.1), (5, .int s.2.1)] [] (mj_fin s.2.2) (some (.int a.1), (mj_fin a.2)) := by
  refine mj_lp_sound (fun k_98 s a q_98 h => ?_)
  unfold f_X3_arrangeSaving_98 at h
  refine mj_go_iload (i := 5) (x := s.2.1) rfl (mj_dt dt_X3_arrangeSaving 55 rfl) ?_
  refine mj_go_aload_n (k := 0) (x := 45) rfl (mj_dt dt_X3_arrangeSaving 56 rfl) ?_
  refine ml_getR (c := 3) (k := 0) (q := 1) fd_3_0 rf_45_0 (Or.inl fl_X3_18) ho_45 (mj_dt dt_X3_arrangeSaving 57 rfl) ?_
  refine mk_getI (c := 7) (k := 7) (Or.inl fd_7_7) (Or.inl fl_X3_39) ho_1 (mj_dt dt_X3_arrangeSaving 58 rfl) ?_
  refine mj_go_icmp_ge (tgt := 156) rfl (mj_dt dt_X3_arrangeSaving 59 rfl) (fun b1 => ?_) (fun b1 => ?_)
  · rw [if_pos b1] at h
    refine mj_go_iload (i := 4) (x := s.1) rfl (mj_dt dt_X3_arrangeSaving 82 rfl) ?_
    obtain rfl := Option.some.inj h
    exact mj_go_ret (v := some (.int s.1)) (Nat.le_of_ble_eq_true rfl) (mj_retI (mj_dt dt_X3_arrangeSaving 83 rfl) rfl)
  · rw [if_neg b1] at h
    refine mj_go_aload_n (k := 0) (x := 45) rfl (mj_dt dt_X3_arrangeSaving 60 rfl) ?_
    refine ml_getR (c := 3) (k := 0) (q := 1) fd_3_0 rf_45_0 (Or.inl fl_X3_18) ho_45 (mj_dt dt_X3_arrangeSaving 61 rfl) ?_
    refine ml_getR (c := 7) (k := 3) (q := 5) fd_7_3 rf_1_3 (Or.inl fl_X3_44) ho_1 (mj_dt dt_X3_arrangeSaving 62 rfl) ?_
    refine mj_go_iload (i := 5) (x := s.2.1) rfl (mj_dt dt_X3_arrangeSaving 63 rfl) ?_
    obtain ⟨c2, h⟩ := mj_ck_some h
    refine mk_iald c2 (mj_dt dt_X3_arrangeSaving 64 rfl) ?_
    refine mj_go_iconst (v := 2) rfl (mj_dt dt_X3_arrangeSaving 65 rfl) ?_
    refine mj_go_icmp_ge (tgt := 150) rfl (mj_dt dt_X3_arrangeSaving 66 rfl) (fun b3 => ?_) (fun b3 => ?_)
    · rw [if_pos b3] at h
      refine mj_go_sub (lv' := [(0, .ref 45), (1, .int v1), (2, .ref v2), (4, .int s.1), (5, .int s.2.1)]) (List.forall_mem_cons.mpr ⟨rfl, (List.forall_mem_cons.mpr ⟨rfl, (List.forall_mem_cons.mpr ⟨rfl, (List.forall_mem_cons.mpr ⟨rfl, (List.forall_mem_cons.mpr ⟨rfl, (fun _ h9 => absurd h9 List.not_mem_nil)⟩)⟩)⟩)⟩)⟩) ?_
      exact k_X3_arrangeSaving_150 q_98 hδ h
    · rw [if_neg b3] at h
      refine mj_go_aload_n (k := 0) (x := 45) rfl (mj_dt dt_X3_arrangeSaving 67 rfl) ?_
      refine ml_getR (c := 3) (k := 0) (q := 1) fd_3_0 rf_45_0 (Or.inl fl_X3_18) ho_45 (mj_dt dt_X3_arrangeSaving 68 rfl) ?_
      refine ml_getR (c := 7) (k := 2) (q := 4) fd_7_2 rf_1_2 (Or.inl fl_X3_61) ho_1 (mj_dt dt_X3_arrangeSaving 69 rfl) ?_
      refine mj_go_iload (i := 5) (x := s.2.1) rfl (mj_dt dt_X3_arrangeSaving 70 rfl) ?_
      obtain ⟨c4, h⟩ := mj_ck_some h
      refine ml_aald2 (q := 8 + s.2.1.toNatClampNeg) c4 (mj_hs4 c4).1 (mj_dt dt_X3_arrangeSaving 71 rfl) ?_
      refine mk_getI (c := 1) (k := 4) (Or.inl fd_1_4) (Or.inl fl_X3_114) (mj_hs4 c4).2 (mj_dt dt_X3_arrangeSaving 72 rfl) ?_
      refine mj_go_iload_n (k := 1) (x := v1) rfl (mj_dt dt_X3_arrangeSaving 73 rfl) ?_
      refine mj_go_icmp_le (tgt := 150) rfl (mj_dt dt_X3_arrangeSaving 74 rfl) (fun b5 => ?_) (fun b5 => ?_)
      · rw [if_pos b5] at h
        refine mj_go_sub (lv' := [(0, .ref 45), (1, .int v1), (2, .ref v2), (4, .int s.1), (5, .int s.2.1)]) (List.forall_mem_cons.mpr ⟨rfl, (List.forall_mem_cons.mpr ⟨rfl, (List.forall_mem_cons.mpr ⟨rfl, (List.forall_mem_cons.mpr ⟨rfl, (List.forall_mem_cons.mpr ⟨rfl, (fun _ h9 => absurd h9 List.not_mem_nil)⟩)⟩)⟩)⟩)⟩) ?_
        exact k_X3_arrangeSaving_150 q_98 hδ h
      · rw [if_neg b5] at h
        refine mj_go_aload_n (k := 2) (x := v2) rfl (mj_dt dt_X3_arrangeSaving 75 rfl) ?_
        refine mj_go_iload (i := 4) (x := s.1) rfl (mj_dt dt_X3_arrangeSaving 76 rfl) ?_
        refine mj_go_iload (i := 5) (x := s.2.1) rfl (mj_dt dt_X3_arrangeSaving 77 rfl) ?_
        obtain ⟨c6, h⟩ := mj_ck_some h
        obtain ⟨m7, em7, h⟩ := mj_mw_some h
        refine ml_iast c6 (mj_dt dt_X3_arrangeSaving 78 rfl) ?_
        refine ml_eqm (M1 := (mj_fin m7)) (by rw [em7] <;> rfl) ?_
        obtain ⟨x8, ex8, h⟩ := mj_mw_some h
        refine mj_go_iinc (i := 4) (x := s.1) (v := x8) rfl (by rw [ex8] <;> rfl) (by decide) (mj_dt dt_X3_arrangeSaving 79 rfl) ?_
        refine mj_go_sub (lv' := [(0, .ref 45), (1, .int v1), (2, .ref v2), (4, .int x8), (5, .int s.2.1)]) (List.forall_mem_cons.mpr ⟨rfl, (List.forall_mem_cons.mpr ⟨rfl, (List.forall_mem_cons.mpr ⟨rfl, (List.forall_mem_cons.mpr ⟨rfl, (List.forall_mem_cons.mpr ⟨rfl, (fun _ h9 => absurd h9 List.not_mem_nil)⟩)⟩)⟩)⟩)⟩) ?_
        exact k_X3_arrangeSaving_150 q_98 hδ h
def f_X3_arrangeSaving_95 (N : Nat) (v1 : Int32) (v2 : Nat) (v4 : Int32) (m : mj_m) : Option (Int32 × mj_m) := mj_lp N (f_X3_arrangeSaving_98 N v1 v2) (v4, 0, m)
theorem k_X3_arrangeSaving_95 {L : Nat} {xs : Nat → Int32} {δ N : Nat} {v1 : Int32} {v2 : Nat} {v4 : Int32} {m : mj_m} (hδ : 4 ≤ δ) {a : Int32 × mj_m} (h : f_X3_arrangeSaving_95 N v1 v2 v4 m = some a) : mj_Go (mj_EX L xs) (δ + 1) mY_X3_arrangeSaving 95 [(0, .ref 45), (1, .int v1), (2, .ref v2), (4, .int v4)] [] (mj_fin m) (some (.int a.1), (mj_fin a.2)) := by
  unfold f_X3_arrangeSaving_95 at h
  refine mj_go_iconst (v := 0) rfl (mj_dt dt_X3_arrangeSaving 53 rfl) ?_
  refine mj_go_istore (i := 5) (by decide) (mj_dt dt_X3_arrangeSaving 54 rfl) ?_
  refine mj_go_sub (lv' := [(0, .ref 45), (1, .int v1), (2, .ref v2), (4, .int v4), (5, .int 0)]) (List.forall_mem_cons.mpr ⟨rfl, (List.forall_mem_cons.mpr ⟨rfl, (List.forall_mem_cons.mpr ⟨rfl, (List.forall_mem_cons.mpr ⟨rfl, (List.forall_mem_cons.mpr ⟨rfl, (fun _ h9 => absurd h9 List.not_mem_nil)⟩)⟩)⟩)⟩)⟩) ?_
  exact k_X3_arrangeSaving_98 hδ N _ _ h
def f_X3_arrangeSaving_33 (N : Nat) (v1 : Int32) (v2 : Nat) (k_33 : Int32 × Int32 × Int32 × mj_m → Option (Int32 × mj_m)) (s : Int32 × Int32 × Int32 × mj_m) : Option (Int32 × mj_m) := if (s.2.2.2.1 1 7) ≤ s.2.2.1 then f_X3_arrangeSaving_95 N v1 v2 s.2.1 s.2.2.2 else ((f_X3_mostSaving N v1 s.1 s.2.2.2).bind (fun r2 => if r2.1 = (-1 : Int32) then (f_X3_arrangeSaving_95 N v1 v2 s.2.1 r2.2) else (mj_ck (mj_b 0 v2 s.2.1) ( mj_mw (mj_wI r2.2 v2 (s.2.1.toNatClampNeg) r2.1) (fun m5 => mj_mw (s.2.1 + 1) (fun x6 => mj_mw (s.1 ||| (1 <<< (r2.1 &&& 31))) (fun x7 => mj_ck (mj_b 0 47 r2.1) ( mj_mw (mj_wI m5 47 (r2.1.toNatClampNeg) ((m5.1 47 r2.1.toNatClampNeg) + 1)) (fun m9 => mj_mw (s.2.2.1 + 1) (fun x10 => k_33 (x7, x6, x10, m9)))))))))))
theorem k_X3_arrangeSaving_33 {L : Nat} {xs : Nat → Int32} {δ N : Nat} {v1 : Int32} {v2 : Nat} (hδ : 4 ≤ δ) : ∀ (n : Nat) (s : Int32 × Int32 × Int32 × mj_m) (a : Int32 × mj_m), mj_lp n (f_X3_arrangeSaving_33 N v1 v2) s = some a → mj_Go (mj_EX L xs) (δ + 1) mY_X3_arrangeSaving 33 [(0, .ref 45), (1, .int v1), (2, .ref v2), (3, .int s.1), (4, .int s.2.1), (5, .int s.2.2.1)] [] (mj_fin s.2.2.2) (some (.int a.1), (mj_fin a.2)) := by
  refine mj_lp_sound (fun k_33 s a q_33 h => ?_)
  unfold f_X3_arrangeSaving_33 at h
  refine mj_go_iload (i := 5) (x := s.2.2.1) rfl (mj_dt dt_X3_arrangeSaving 18 rfl) ?_
  refine mj_go_aload_n (k := 0) (x := 45) rfl (mj_dt dt_X3_arrangeSaving 19 rfl) ?_
  refine ml_getR (c := 3) (k := 0) (q := 1) fd_3_0 rf_45_0 (Or.inl fl_X3_18) ho_45 (mj_dt dt_X3_arrangeSaving 20 rfl) ?_
  refine mk_getI (c := 7) (k := 7) (Or.inl fd_7_7) (Or.inl fl_X3_39) ho_1 (mj_dt dt_X3_arrangeSaving 21 rfl) ?_
  refine mj_go_icmp_ge (tgt := 95) rfl (mj_dt dt_X3_arrangeSaving 22 rfl) (fun b1 => ?_) (fun b1 => ?_)
  · rw [if_pos b1] at h
    refine mj_go_sub (lv' := [(0, .ref 45), (1, .int v1), (2, .ref v2), (4, .int s.2.1)]) (List.forall_mem_cons.mpr ⟨rfl, (List.forall_mem_cons.mpr ⟨rfl, (List.forall_mem_cons.mpr ⟨rfl, (List.forall_mem_cons.mpr ⟨rfl, (fun _ h9 => absurd h9 List.not_mem_nil)⟩)⟩)⟩)⟩) ?_
    exact k_X3_arrangeSaving_95 hδ h
  · rw [if_neg b1] at h
    refine mj_go_aload_n (k := 0) (x := 45) rfl (mj_dt dt_X3_arrangeSaving 23 rfl) ?_
    refine mj_go_iload_n (k := 1) (x := v1) rfl (mj_dt dt_X3_arrangeSaving 24 rfl) ?_
    refine mj_go_iload_n (k := 3) (x := s.1) rfl (mj_dt dt_X3_arrangeSaving 25 rfl) ?_
    obtain ⟨r2, er2, h⟩ := mj_bind_some h
    refine ml_callV (Y' := mY_X3_mostSaving) (as := [.int v1, .int s.1]) (rest := []) (c := 3) (v := (some (.int r2.1))) (M1 := (mj_fin r2.2)) ho_45 rfl lm_X3_111 wc_X3_mostSaving pl_X3_mostSaving ok_X3_mostSaving rfl rfl (Nat.le_of_ble_eq_true rfl) (k_X3_mostSaving (by omega) er2) (mj_dt dt_X3_arrangeSaving 26 rfl) ?_
    refine mj_go_istore (i := 6) (by decide) (mj_dt dt_X3_arrangeSaving 27 rfl) ?_
    refine mj_go_iload (i := 6) (x := r2.1) rfl (mj_dt dt_X3_arrangeSaving 28 rfl) ?_
    refine mj_go_iconst (v := -1) rfl (mj_dt dt_X3_arrangeSaving 29 rfl) ?_
    refine mj_go_icmp_ne (tgt := 62) rfl (mj_dt dt_X3_arrangeSaving 30 rfl) (fun b3 => ?_) (fun b3 => ?_)
    · rw [if_neg b3] at h
      refine mj_go_aload_n (k := 2) (x := v2) rfl (mj_dt dt_X3_arrangeSaving 32 rfl) ?_
      refine mj_go_iload (i := 4) (x := s.2.1) rfl (mj_dt dt_X3_arrangeSaving 33 rfl) ?_
      refine mj_go_iload (i := 6) (x := r2.1) rfl (mj_dt dt_X3_arrangeSaving 34 rfl) ?_
      obtain ⟨c4, h⟩ := mj_ck_some h
      obtain ⟨m5, em5, h⟩ := mj_mw_some h
      refine ml_iast c4 (mj_dt dt_X3_arrangeSaving 35 rfl) ?_
      refine ml_eqm (M1 := (mj_fin m5)) (by rw [em5] <;> rfl) ?_
      obtain ⟨x6, ex6, h⟩ := mj_mw_some h
      refine mj_go_iinc (i := 4) (x := s.2.1) (v := x6) rfl (by rw [ex6] <;> rfl) (by decide) (mj_dt dt_X3_arrangeSaving 36 rfl) ?_
      refine mj_go_iload_n (k := 3) (x := s.1) rfl (mj_dt dt_X3_arrangeSaving 37 rfl) ?_
      refine mj_go_iconst (v := 1) rfl (mj_dt dt_X3_arrangeSaving 38 rfl) ?_
      refine mj_go_iload (i := 6) (x := r2.1) rfl (mj_dt dt_X3_arrangeSaving 39 rfl) ?_
      refine mj_go_ishl (mj_dt dt_X3_arrangeSaving 40 rfl) ?_
      refine mj_go_ior (mj_dt dt_X3_arrangeSaving 41 rfl) ?_
      obtain ⟨x7, ex7, h⟩ := mj_mw_some h
      refine ml_eqi ex7 ?_
      refine mj_go_istore_n (k := 3) (by decide) (mj_dt dt_X3_arrangeSaving 42 rfl) ?_
      refine mj_go_aload_n (k := 0) (x := 45) rfl (mj_dt dt_X3_arrangeSaving 43 rfl) ?_
      refine ml_getR (c := 3) (k := 3) (q := 47) fd_3_3 rf_45_3 (Or.inl fl_X3_15) ho_45 (mj_dt dt_X3_arrangeSaving 44 rfl) ?_
      refine mj_go_iload (i := 6) (x := r2.1) rfl (mj_dt dt_X3_arrangeSaving 45 rfl) ?_
      refine mj_go_dup2_11 rfl rfl (mj_dt dt_X3_arrangeSaving 46 rfl) ?_
      obtain ⟨c8, h⟩ := mj_ck_some h
      refine mk_iald c8 (mj_dt dt_X3_arrangeSaving 47 rfl) ?_
      refine mj_go_iconst (v := 1) rfl (mj_dt dt_X3_arrangeSaving 48 rfl) ?_
      refine mj_go_iadd (mj_dt dt_X3_arrangeSaving 49 rfl) ?_
      obtain ⟨m9, em9, h⟩ := mj_mw_some h
      refine ml_iast c8 (mj_dt dt_X3_arrangeSaving 50 rfl) ?_
      refine ml_eqm (M1 := (mj_fin m9)) (by rw [em9] <;> rfl) ?_
      obtain ⟨x10, ex10, h⟩ := mj_mw_some h
      refine mj_go_iinc (i := 5) (x := s.2.2.1) (v := x10) rfl (by rw [ex10] <;> rfl) (by decide) (mj_dt dt_X3_arrangeSaving 51 rfl) ?_
      refine mj_go_goto (tgt := 33) rfl (mj_dt dt_X3_arrangeSaving 52 rfl) ?_
      refine mj_go_sub (lv' := [(0, .ref 45), (1, .int v1), (2, .ref v2), (3, .int x7), (4, .int x6), (5, .int x10)]) (List.forall_mem_cons.mpr ⟨rfl, (List.forall_mem_cons.mpr ⟨rfl, (List.forall_mem_cons.mpr ⟨rfl, (List.forall_mem_cons.mpr ⟨rfl, (List.forall_mem_cons.mpr ⟨rfl, (List.forall_mem_cons.mpr ⟨rfl, (fun _ h9 => absurd h9 List.not_mem_nil)⟩)⟩)⟩)⟩)⟩)⟩) ?_
      exact q_33 _ _ h
    · rw [if_pos b3] at h
      refine mj_go_goto (tgt := 95) rfl (mj_dt dt_X3_arrangeSaving 31 rfl) ?_
      refine mj_go_sub (lv' := [(0, .ref 45), (1, .int v1), (2, .ref v2), (4, .int s.2.1)]) (List.forall_mem_cons.mpr ⟨rfl, (List.forall_mem_cons.mpr ⟨rfl, (List.forall_mem_cons.mpr ⟨rfl, (List.forall_mem_cons.mpr ⟨rfl, (fun _ h9 => absurd h9 List.not_mem_nil)⟩)⟩)⟩)⟩) ?_
      exact k_X3_arrangeSaving_95 hδ h
def f_X3_arrangeSaving (N : Nat) (v1 : Int32) (v2 : Nat) (m : mj_m) : Option (Int32 × mj_m) := (f_X2_weighYear N m).bind (fun r1 => mj_ck (mj_p 0 5 47 0 0 10) ( mj_mw (mj_kI r1 5 47 ((0 : Int32).toNatClampNeg) ((0 : Int32).toNatClampNeg) ((10 : Int32).toNatClampNeg)) (fun m3 => mj_lp N (f_X3_arrangeSaving_33 N v1 v2) (0, 0, 0, m3))))
theorem k_X3_arrangeSaving {L : Nat} {xs : Nat → Int32} {δ N : Nat} {v1 : Int32} {v2 : Nat} {m : mj_m} (hδ : 5 ≤ δ) {a : Int32 × mj_m} (h : f_X3_arrangeSaving N v1 v2 m = some a) : mj_Cl (mj_EX L xs) δ mY_X3_arrangeSaving [.ref 45, .int v1, .ref v2] (mj_fin m) (some (.int a.1), (mj_fin a.2)) := by
  obtain ⟨δ, rfl⟩ : ∃ d, δ = d + 1 := ⟨δ - 1, by omega⟩
  have hδ : 4 ≤ δ := by omega
  refine mj_cl_of ok_X3_arrangeSaving (Nat.le_of_ble_eq_true rfl) ?_
  unfold f_X3_arrangeSaving at h
  refine mj_go_aload_n (k := 0) (x := 45) rfl (mj_dt dt_X3_arrangeSaving 0 rfl) ?_
  refine ml_getR (c := 3) (k := 1) (q := 36) fd_3_1 rf_45_1 (Or.inl fl_X3_22) ho_45 (mj_dt dt_X3_arrangeSaving 1 rfl) ?_
  obtain ⟨r1, er1, h⟩ := mj_bind_some h
  refine ml_callV (Y' := mY_X2_weighYear) (as := []) (rest := []) (c := 2) (v := none) (M1 := (mj_fin r1)) ho_36 rfl lm_X3_100 wc_X2_weighYear pl_X2_weighYear ok_X2_weighYear rfl rfl (Nat.le_of_ble_eq_true rfl) (k_X2_weighYear (by omega) er1) (mj_dt dt_X3_arrangeSaving 2 rfl) ?_
  refine mj_go_aload_n (k := 0) (x := 45) rfl (mj_dt dt_X3_arrangeSaving 3 rfl) ?_
  refine ml_getR (c := 3) (k := 0) (q := 1) fd_3_0 rf_45_0 (Or.inl fl_X3_18) ho_45 (mj_dt dt_X3_arrangeSaving 4 rfl) ?_
  refine ml_getR (c := 7) (k := 3) (q := 5) fd_7_3 rf_1_3 (Or.inl fl_X3_44) ho_1 (mj_dt dt_X3_arrangeSaving 5 rfl) ?_
  refine mj_go_iconst (v := 0) rfl (mj_dt dt_X3_arrangeSaving 6 rfl) ?_
  refine mj_go_aload_n (k := 0) (x := 45) rfl (mj_dt dt_X3_arrangeSaving 7 rfl) ?_
  refine ml_getR (c := 3) (k := 3) (q := 47) fd_3_3 rf_45_3 (Or.inl fl_X3_15) ho_45 (mj_dt dt_X3_arrangeSaving 8 rfl) ?_
  refine mj_go_iconst (v := 0) rfl (mj_dt dt_X3_arrangeSaving 9 rfl) ?_
  refine mj_go_bipush (v := 10) rfl (mj_dt dt_X3_arrangeSaving 10 rfl) ?_
  obtain ⟨c2, h⟩ := mj_ck_some h
  obtain ⟨m3, em3, h⟩ := mj_mw_some h
  refine ml_cpyI hm_X3_105 (Nat.le_of_ble_eq_true rfl) c2 (mj_dt dt_X3_arrangeSaving 11 rfl) ?_
  refine ml_eqm (M1 := (mj_fin m3)) (by rw [em3] <;> rfl) ?_
  refine mj_go_iconst (v := 0) rfl (mj_dt dt_X3_arrangeSaving 12 rfl) ?_
  refine mj_go_istore_n (k := 3) (by decide) (mj_dt dt_X3_arrangeSaving 13 rfl) ?_
  refine mj_go_iconst (v := 0) rfl (mj_dt dt_X3_arrangeSaving 14 rfl) ?_
  refine mj_go_istore (i := 4) (by decide) (mj_dt dt_X3_arrangeSaving 15 rfl) ?_
  refine mj_go_iconst (v := 0) rfl (mj_dt dt_X3_arrangeSaving 16 rfl) ?_
  refine mj_go_istore (i := 5) (by decide) (mj_dt dt_X3_arrangeSaving 17 rfl) ?_
  refine mj_go_sub (lv' := [(0, .ref 45), (1, .int v1), (2, .ref v2), (3, .int 0), (4, .int 0), (5, .int 0)]) (List.forall_mem_cons.mpr ⟨rfl, (List.forall_mem_cons.mpr ⟨rfl, (List.forall_mem_cons.mpr ⟨rfl, (List.forall_mem_cons.mpr ⟨rfl, (List.forall_mem_cons.mpr ⟨rfl, (List.forall_mem_cons.mpr ⟨rfl, (fun _ h9 => absurd h9 List.not_mem_nil)⟩)⟩)⟩)⟩)⟩)⟩) ?_
  exact k_X3_arrangeSaving_33 hδ N _ _ h
def f_X3_peopleOf (N : Nat) (v1 : Nat) (m : mj_m) : Option (Int32) := mj_ck (mj_o 1 v1) ( some (((m.1 1 11) * (m.1 v1 2)) + ((10 - (m.1 1 11)) * (m.1 v1 3))))
theorem k_X3_peopleOf {L : Nat} {xs : Nat → Int32} {δ N : Nat} {v1 : Nat} {m : mj_m} (_ : 0 ≤ δ) {a : Int32} (h : f_X3_peopleOf N v1 m = some a) : mj_Cl (mj_EX L xs) δ mY_X3_peopleOf [.ref 45, .ref v1] (mj_fin m) (some (.int a), (mj_fin m)) := by
  refine mj_cl_of ok_X3_peopleOf (Nat.le_of_ble_eq_true rfl) ?_
  unfold f_X3_peopleOf at h
  refine mj_go_aload_n (k := 0) (x := 45) rfl (mj_dt dt_X3_peopleOf 0 rfl) ?_
  refine ml_getR (c := 3) (k := 0) (q := 1) fd_3_0 rf_45_0 (Or.inl fl_X3_18) ho_45 (mj_dt dt_X3_peopleOf 1 rfl) ?_
  refine mk_getI (c := 7) (k := 11) (Or.inl fd_7_11) (Or.inl fl_X3_84) ho_1 (mj_dt dt_X3_peopleOf 2 rfl) ?_
  refine mj_go_aload_n (k := 1) (x := v1) rfl (mj_dt dt_X3_peopleOf 3 rfl) ?_
  obtain ⟨c1, h⟩ := mj_ck_some h
  refine mk_getI (c := 1) (k := 2) (Or.inl fd_1_2) (Or.inl fl_X3_87) c1 (mj_dt dt_X3_peopleOf 4 rfl) ?_
  refine mj_go_imul (mj_dt dt_X3_peopleOf 5 rfl) ?_
  refine mj_go_bipush (v := 10) rfl (mj_dt dt_X3_peopleOf 6 rfl) ?_
  refine mj_go_aload_n (k := 0) (x := 45) rfl (mj_dt dt_X3_peopleOf 7 rfl) ?_
  refine ml_getR (c := 3) (k := 0) (q := 1) fd_3_0 rf_45_0 (Or.inl fl_X3_18) ho_45 (mj_dt dt_X3_peopleOf 8 rfl) ?_
  refine mk_getI (c := 7) (k := 11) (Or.inl fd_7_11) (Or.inl fl_X3_84) ho_1 (mj_dt dt_X3_peopleOf 9 rfl) ?_
  refine mj_go_isub (mj_dt dt_X3_peopleOf 10 rfl) ?_
  refine mj_go_aload_n (k := 1) (x := v1) rfl (mj_dt dt_X3_peopleOf 11 rfl) ?_
  refine mk_getI (c := 1) (k := 3) (Or.inl fd_1_3) (Or.inl fl_X3_90) c1 (mj_dt dt_X3_peopleOf 12 rfl) ?_
  refine mj_go_imul (mj_dt dt_X3_peopleOf 13 rfl) ?_
  refine mj_go_iadd (mj_dt dt_X3_peopleOf 14 rfl) ?_
  obtain rfl := Option.some.inj h
  exact mj_go_ret (v := some (.int (((m.1 1 11) * (m.1 v1 2)) + ((10 - (m.1 1 11)) * (m.1 v1 3))))) (Nat.le_of_ble_eq_true rfl) (mj_retI (mj_dt dt_X3_peopleOf 15 rfl) rfl)
def f_X3_placeOf_2 (N : Nat) (v0 : Nat) (v1 : Int32) (m : mj_m) (k_2 : Int32 → Option (Int32)) (s : Int32) : Option (Int32) := mj_ck (mj_o 6 v0) ( if (m.1 v0 2) ≤ s then (some 120) else ((f_X6_asInt N v0 s m).bind (fun r3 => if r3 = v1 then (some s) else (mj_mw (s + 1) (fun x5 => k_2 (x5))))))
theorem k_X3_placeOf_2 {L : Nat} {xs : Nat → Int32} {δ N : Nat} {v0 : Nat} {v1 : Int32} {m : mj_m} (hδ : 1 ≤ δ) : ∀ (n : Nat) (s : Int32) (a : Int32), mj_lp n (f_X3_placeOf_2 N v0 v1 m) s = some a → mj_Go (mj_EX L xs) (δ + 1) mY_X3_placeOf 2 [(0, .ref v0), (1, .int v1), (2, .int s)] [] (mj_fin m) (some (.int a), (mj_fin m)) := by
  refine mj_lp_sound (fun k_2 s a q_2 h => ?_)
  unfold f_X3_placeOf_2 at h
  refine mj_go_iload_n (k := 2) (x := s) rfl (mj_dt dt_X3_placeOf 2 rfl) ?_
  refine mj_go_aload_n (k := 0) (x := v0) rfl (mj_dt dt_X3_placeOf 3 rfl) ?_
  obtain ⟨c1, h⟩ := mj_ck_some h
  refine mk_getI (c := 6) (k := 2) (Or.inl fd_6_2) (Or.inl fl_X3_93) c1 (mj_dt dt_X3_placeOf 4 rfl) ?_
  refine mj_go_icmp_ge (tgt := 27) rfl (mj_dt dt_X3_placeOf 5 rfl) (fun b2 => ?_) (fun b2 => ?_)
  · rw [if_pos b2] at h
    refine mj_go_bipush (v := 120) rfl (mj_dt dt_X3_placeOf 15 rfl) ?_
    obtain rfl := Option.some.inj h
    exact mj_go_ret (v := some (.int 120)) (Nat.le_of_ble_eq_true rfl) (mj_retI (mj_dt dt_X3_placeOf 16 rfl) rfl)
  · rw [if_neg b2] at h
    refine mj_go_aload_n (k := 0) (x := v0) rfl (mj_dt dt_X3_placeOf 6 rfl) ?_
    refine mj_go_iload_n (k := 2) (x := s) rfl (mj_dt dt_X3_placeOf 7 rfl) ?_
    obtain ⟨r3, er3, h⟩ := mj_bind_some h
    refine ml_callV (Y' := mY_X6_asInt) (as := [.int s]) (rest := []) (c := 6) (v := (some (.int r3))) (M1 := (mj_fin m)) c1 rfl lm_X3_96 wc_X6_asInt pl_X6_asInt ok_X6_asInt rfl rfl (Nat.le_of_ble_eq_true rfl) (k_X6_asInt (by omega) er3) (mj_dt dt_X3_placeOf 8 rfl) ?_
    refine mj_go_iload_n (k := 1) (x := v1) rfl (mj_dt dt_X3_placeOf 9 rfl) ?_
    refine mj_go_icmp_ne (tgt := 21) rfl (mj_dt dt_X3_placeOf 10 rfl) (fun b4 => ?_) (fun b4 => ?_)
    · rw [if_neg b4] at h
      obtain ⟨x5, ex5, h⟩ := mj_mw_some h
      refine mj_go_iinc (i := 2) (x := s) (v := x5) rfl (by rw [ex5] <;> rfl) (by decide) (mj_dt dt_X3_placeOf 13 rfl) ?_
      refine mj_go_goto (tgt := 2) rfl (mj_dt dt_X3_placeOf 14 rfl) ?_
      refine mj_go_sub (lv' := [(0, .ref v0), (1, .int v1), (2, .int x5)]) (List.forall_mem_cons.mpr ⟨rfl, (List.forall_mem_cons.mpr ⟨rfl, (List.forall_mem_cons.mpr ⟨rfl, (fun _ h9 => absurd h9 List.not_mem_nil)⟩)⟩)⟩) ?_
      exact q_2 _ _ h
    · rw [if_pos b4] at h
      refine mj_go_iload_n (k := 2) (x := s) rfl (mj_dt dt_X3_placeOf 11 rfl) ?_
      obtain rfl := Option.some.inj h
      exact mj_go_ret (v := some (.int s)) (Nat.le_of_ble_eq_true rfl) (mj_retI (mj_dt dt_X3_placeOf 12 rfl) rfl)
def f_X3_placeOf (N : Nat) (v0 : Nat) (v1 : Int32) (m : mj_m) : Option (Int32) := mj_lp N (f_X3_placeOf_2 N v0 v1 m) (0)
theorem k_X3_placeOf {L : Nat} {xs : Nat → Int32} {δ N : Nat} {v0 : Nat} {v1 : Int32} {m : mj_m} (hδ : 2 ≤ δ) {a : Int32} (h : f_X3_placeOf N v0 v1 m = some a) : mj_Cl (mj_EX L xs) δ mY_X3_placeOf [.ref v0, .int v1] (mj_fin m) (some (.int a), (mj_fin m)) := by
  obtain ⟨δ, rfl⟩ : ∃ d, δ = d + 1 := ⟨δ - 1, by omega⟩
  have hδ : 1 ≤ δ := by omega
  refine mj_cl_of ok_X3_placeOf (Nat.le_of_ble_eq_true rfl) ?_
  unfold f_X3_placeOf at h
  refine mj_go_iconst (v := 0) rfl (mj_dt dt_X3_placeOf 0 rfl) ?_
  refine mj_go_istore_n (k := 2) (by decide) (mj_dt dt_X3_placeOf 1 rfl) ?_
  refine mj_go_sub (lv' := [(0, .ref v0), (1, .int v1), (2, .int 0)]) (List.forall_mem_cons.mpr ⟨rfl, (List.forall_mem_cons.mpr ⟨rfl, (List.forall_mem_cons.mpr ⟨rfl, (fun _ h9 => absurd h9 List.not_mem_nil)⟩)⟩)⟩) ?_
  exact k_X3_placeOf_2 hδ N _ _ h
def f_X3_keyOf (N : Nat) (v1 : Nat) (v2 : Int32) (m : mj_m) : Option (Int32) := mj_ck (mj_b 2 4 v2) ( mj_ck (mj_o 6 v1) ( if (m.1 v1 1) = 1 then ((f_X3_peopleOf N (8 + v2.toNatClampNeg) m).bind (fun r4 => some r4)) else if (m.1 v1 1) = 2 then (mj_ck (mj_b 0 5 v2) ( some ((m.1 (8 + v2.toNatClampNeg) 1) - (4 * (m.1 5 v2.toNatClampNeg))))) else if (m.1 v1 1) = 3 then ((f_X3_peopleOf N (8 + v2.toNatClampNeg) m).bind (fun r6 => if (m.1 (8 + v2.toNatClampNeg) 5) = (-1 : Int32) then ((some (r6 + 0))) else ((some (r6 + 10000))))) else if (m.1 v1 1) = 4 then (some 0) else if (m.1 v1 1) = 5 then (mj_ck (mj_b 0 5 v2) ( if (m.1 (8 + v2.toNatClampNeg) 7) = 0 then ((some (((m.1 (8 + v2.toNatClampNeg) 1) - (4 * (m.1 5 v2.toNatClampNeg))) - 0))) else ((some (((m.1 (8 + v2.toNatClampNeg) 1) - (4 * (m.1 5 v2.toNatClampNeg))) - 100))))) else if (m.1 v1 1) = 6 then ((f_X3_placeOf N v1 v2 m).bind (fun r9 => some (-r9))) else (some 0)))
theorem k_X3_keyOf {L : Nat} {xs : Nat → Int32} {δ N : Nat} {v1 : Nat} {v2 : Int32} {m : mj_m} (hδ : 3 ≤ δ) {a : Int32} (h : f_X3_keyOf N v1 v2 m = some a) : mj_Cl (mj_EX L xs) δ mY_X3_keyOf [.ref 45, .ref v1, .int v2] (mj_fin m) (some (.int a), (mj_fin m)) := by
  obtain ⟨δ, rfl⟩ : ∃ d, δ = d + 1 := ⟨δ - 1, by omega⟩
  have hδ : 2 ≤ δ := by omega
  refine mj_cl_of ok_X3_keyOf (Nat.le_of_ble_eq_true rfl) ?_
  unfold f_X3_keyOf at h
  refine mj_go_aload_n (k := 0) (x := 45) rfl (mj_dt dt_X3_keyOf 0 rfl) ?_
  refine ml_getR (c := 3) (k := 0) (q := 1) fd_3_0 rf_45_0 (Or.inl fl_X3_18) ho_45 (mj_dt dt_X3_keyOf 1 rfl) ?_
  refine ml_getR (c := 7) (k := 2) (q := 4) fd_7_2 rf_1_2 (Or.inl fl_X3_61) ho_1 (mj_dt dt_X3_keyOf 2 rfl) ?_
  refine mj_go_iload_n (k := 2) (x := v2) rfl (mj_dt dt_X3_keyOf 3 rfl) ?_
  obtain ⟨c1, h⟩ := mj_ck_some h
  refine ml_aald2 (q := 8 + v2.toNatClampNeg) c1 (mj_hs4 c1).1 (mj_dt dt_X3_keyOf 4 rfl) ?_
  refine mj_go_astore_n (k := 3) (by decide) (mj_dt dt_X3_keyOf 5 rfl) ?_
  refine mj_go_aload_n (k := 1) (x := v1) rfl (mj_dt dt_X3_keyOf 6 rfl) ?_
  obtain ⟨c2, h⟩ := mj_ck_some h
  refine mk_getI (c := 6) (k := 1) (Or.inl fd_6_1) (Or.inl fl_X3_26) c2 (mj_dt dt_X3_keyOf 7 rfl) ?_
  refine mj_go_tsw [(1, 38), (2, 66), (3, 44), (4, 121), (5, 83), (6, 114)] (by decide) (by decide) (mj_dt dt_X3_keyOf 8 rfl) ?_
  refine ⟨fun b3 => ?_, fun b3 => ?_⟩
  · rw [if_pos b3] at h
    refine ⟨52, by decide, ?_⟩
    refine mj_go_aload_n (k := 0) (x := 45) rfl (mj_dt dt_X3_keyOf 9 rfl) ?_
    refine mj_go_aload_n (k := 3) (x := (8 + v2.toNatClampNeg)) rfl (mj_dt dt_X3_keyOf 10 rfl) ?_
    obtain ⟨r4, er4, h⟩ := mj_bind_some h
    refine ml_callV (Y' := mY_X3_peopleOf) (as := [.ref (8 + v2.toNatClampNeg)]) (rest := []) (c := 3) (v := (some (.int r4))) (M1 := (mj_fin m)) ho_45 rfl lm_X3_65 wc_X3_peopleOf pl_X3_peopleOf ok_X3_peopleOf rfl rfl (Nat.le_of_ble_eq_true rfl) (k_X3_peopleOf (by omega) er4) (mj_dt dt_X3_keyOf 11 rfl) ?_
    obtain rfl := Option.some.inj h
    exact mj_go_ret (v := some (.int r4)) (Nat.le_of_ble_eq_true rfl) (mj_retI (mj_dt dt_X3_keyOf 12 rfl) rfl)
  · rw [if_neg b3] at h
    refine ⟨fun b4 => ?_, fun b4 => ?_⟩
    · rw [if_pos b4] at h
      refine ⟨80, by decide, ?_⟩
      refine mj_go_aload_n (k := 3) (x := (8 + v2.toNatClampNeg)) rfl (mj_dt dt_X3_keyOf 25 rfl) ?_
      refine mk_getI (c := 1) (k := 1) (Or.inl fd_1_1) (Or.inl fl_X3_74) (mj_hs4 c1).2 (mj_dt dt_X3_keyOf 26 rfl) ?_
      refine mj_go_iconst (v := 4) rfl (mj_dt dt_X3_keyOf 27 rfl) ?_
      refine mj_go_aload_n (k := 0) (x := 45) rfl (mj_dt dt_X3_keyOf 28 rfl) ?_
      refine ml_getR (c := 3) (k := 0) (q := 1) fd_3_0 rf_45_0 (Or.inl fl_X3_18) ho_45 (mj_dt dt_X3_keyOf 29 rfl) ?_
      refine ml_getR (c := 7) (k := 3) (q := 5) fd_7_3 rf_1_3 (Or.inl fl_X3_44) ho_1 (mj_dt dt_X3_keyOf 30 rfl) ?_
      refine mj_go_iload_n (k := 2) (x := v2) rfl (mj_dt dt_X3_keyOf 31 rfl) ?_
      obtain ⟨c5, h⟩ := mj_ck_some h
      refine mk_iald c5 (mj_dt dt_X3_keyOf 32 rfl) ?_
      refine mj_go_imul (mj_dt dt_X3_keyOf 33 rfl) ?_
      refine mj_go_isub (mj_dt dt_X3_keyOf 34 rfl) ?_
      obtain rfl := Option.some.inj h
      exact mj_go_ret (v := some (.int ((m.1 (8 + v2.toNatClampNeg) 1) - (4 * (m.1 5 v2.toNatClampNeg))))) (Nat.le_of_ble_eq_true rfl) (mj_retI (mj_dt dt_X3_keyOf 35 rfl) rfl)
    · rw [if_neg b4] at h
      refine ⟨fun b5 => ?_, fun b5 => ?_⟩
      · rw [if_pos b5] at h
        refine ⟨58, by decide, ?_⟩
        refine mj_go_aload_n (k := 0) (x := 45) rfl (mj_dt dt_X3_keyOf 13 rfl) ?_
        refine mj_go_aload_n (k := 3) (x := (8 + v2.toNatClampNeg)) rfl (mj_dt dt_X3_keyOf 14 rfl) ?_
        obtain ⟨r6, er6, h⟩ := mj_bind_some h
        refine ml_callV (Y' := mY_X3_peopleOf) (as := [.ref (8 + v2.toNatClampNeg)]) (rest := []) (c := 3) (v := (some (.int r6))) (M1 := (mj_fin m)) ho_45 rfl lm_X3_65 wc_X3_peopleOf pl_X3_peopleOf ok_X3_peopleOf rfl rfl (Nat.le_of_ble_eq_true rfl) (k_X3_peopleOf (by omega) er6) (mj_dt dt_X3_keyOf 15 rfl) ?_
        refine mj_go_aload_n (k := 3) (x := (8 + v2.toNatClampNeg)) rfl (mj_dt dt_X3_keyOf 16 rfl) ?_
        refine mk_getI (c := 1) (k := 5) (Or.inl fd_1_5) (Or.inl fl_X3_69) (mj_hs4 c1).2 (mj_dt dt_X3_keyOf 17 rfl) ?_
        refine mj_go_iconst (v := -1) rfl (mj_dt dt_X3_keyOf 18 rfl) ?_
        refine mj_go_icmp_ne (tgt := 75) rfl (mj_dt dt_X3_keyOf 19 rfl) (fun b7 => ?_) (fun b7 => ?_)
        · rw [if_neg b7] at h
          refine mj_go_sipush (v := 10000) rfl (mj_dt dt_X3_keyOf 22 rfl) ?_
          refine mj_go_iadd (mj_dt dt_X3_keyOf 23 rfl) ?_
          obtain rfl := Option.some.inj h
          exact mj_go_ret (v := some (.int (r6 + 10000))) (Nat.le_of_ble_eq_true rfl) (mj_retI (mj_dt dt_X3_keyOf 24 rfl) rfl)
        · rw [if_pos b7] at h
          refine mj_go_iconst (v := 0) rfl (mj_dt dt_X3_keyOf 20 rfl) ?_
          refine mj_go_goto (tgt := 78) rfl (mj_dt dt_X3_keyOf 21 rfl) ?_
          refine mj_go_iadd (mj_dt dt_X3_keyOf 23 rfl) ?_
          obtain rfl := Option.some.inj h
          exact mj_go_ret (v := some (.int (r6 + 0))) (Nat.le_of_ble_eq_true rfl) (mj_retI (mj_dt dt_X3_keyOf 24 rfl) rfl)
      · rw [if_neg b5] at h
        refine ⟨fun b6 => ?_, fun b6 => ?_⟩
        · rw [if_pos b6] at h
          refine ⟨135, by decide, ?_⟩
          refine mj_go_iconst (v := 0) rfl (mj_dt dt_X3_keyOf 59 rfl) ?_
          obtain rfl := Option.some.inj h
          exact mj_go_ret (v := some (.int 0)) (Nat.le_of_ble_eq_true rfl) (mj_retI (mj_dt dt_X3_keyOf 60 rfl) rfl)
        · rw [if_neg b6] at h
          refine ⟨fun b7 => ?_, fun b7 => ?_⟩
          · rw [if_pos b7] at h
            refine ⟨97, by decide, ?_⟩
            refine mj_go_aload_n (k := 3) (x := (8 + v2.toNatClampNeg)) rfl (mj_dt dt_X3_keyOf 36 rfl) ?_
            refine mk_getI (c := 1) (k := 1) (Or.inl fd_1_1) (Or.inl fl_X3_74) (mj_hs4 c1).2 (mj_dt dt_X3_keyOf 37 rfl) ?_
            refine mj_go_iconst (v := 4) rfl (mj_dt dt_X3_keyOf 38 rfl) ?_
            refine mj_go_aload_n (k := 0) (x := 45) rfl (mj_dt dt_X3_keyOf 39 rfl) ?_
            refine ml_getR (c := 3) (k := 0) (q := 1) fd_3_0 rf_45_0 (Or.inl fl_X3_18) ho_45 (mj_dt dt_X3_keyOf 40 rfl) ?_
            refine ml_getR (c := 7) (k := 3) (q := 5) fd_7_3 rf_1_3 (Or.inl fl_X3_44) ho_1 (mj_dt dt_X3_keyOf 41 rfl) ?_
            refine mj_go_iload_n (k := 2) (x := v2) rfl (mj_dt dt_X3_keyOf 42 rfl) ?_
            obtain ⟨c8, h⟩ := mj_ck_some h
            refine mk_iald c8 (mj_dt dt_X3_keyOf 43 rfl) ?_
            refine mj_go_imul (mj_dt dt_X3_keyOf 44 rfl) ?_
            refine mj_go_isub (mj_dt dt_X3_keyOf 45 rfl) ?_
            refine mj_go_aload_n (k := 3) (x := (8 + v2.toNatClampNeg)) rfl (mj_dt dt_X3_keyOf 46 rfl) ?_
            refine mk_getI (c := 1) (k := 7) (Or.inr fd_1_7) (Or.inl fl_X3_77) (mj_hs4 c1).2 (mj_dt dt_X3_keyOf 47 rfl) ?_
            refine mj_go_if_eq (tgt := 125) rfl (mj_dt dt_X3_keyOf 48 rfl) (fun b9 => ?_) (fun b9 => ?_)
            · rw [if_pos b9] at h
              refine mj_go_iconst (v := 0) rfl (mj_dt dt_X3_keyOf 51 rfl) ?_
              refine mj_go_isub (mj_dt dt_X3_keyOf 52 rfl) ?_
              obtain rfl := Option.some.inj h
              exact mj_go_ret (v := some (.int (((m.1 (8 + v2.toNatClampNeg) 1) - (4 * (m.1 5 v2.toNatClampNeg))) - 0))) (Nat.le_of_ble_eq_true rfl) (mj_retI (mj_dt dt_X3_keyOf 53 rfl) rfl)
            · rw [if_neg b9] at h
              refine mj_go_bipush (v := 100) rfl (mj_dt dt_X3_keyOf 49 rfl) ?_
              refine mj_go_goto (tgt := 126) rfl (mj_dt dt_X3_keyOf 50 rfl) ?_
              refine mj_go_isub (mj_dt dt_X3_keyOf 52 rfl) ?_
              obtain rfl := Option.some.inj h
              exact mj_go_ret (v := some (.int (((m.1 (8 + v2.toNatClampNeg) 1) - (4 * (m.1 5 v2.toNatClampNeg))) - 100))) (Nat.le_of_ble_eq_true rfl) (mj_retI (mj_dt dt_X3_keyOf 53 rfl) rfl)
          · rw [if_neg b7] at h
            refine ⟨fun b8 => ?_, fun b8 => ?_⟩
            · rw [if_pos b8] at h
              refine ⟨128, by decide, ?_⟩
              refine mj_go_aload_n (k := 1) (x := v1) rfl (mj_dt dt_X3_keyOf 54 rfl) ?_
              refine mj_go_iload_n (k := 2) (x := v2) rfl (mj_dt dt_X3_keyOf 55 rfl) ?_
              obtain ⟨r9, er9, h⟩ := mj_bind_some h
              refine ml_callS (Y' := mY_X3_placeOf) (as := [.ref v1, .int v2]) (rest := []) (v := (some (.int r9))) (M1 := (mj_fin m)) lm_X3_81 wc_X3_placeOf pl_X3_placeOf ok_X3_placeOf rfl rfl (Nat.le_of_ble_eq_true rfl) (k_X3_placeOf (by omega) er9) (mj_dt dt_X3_keyOf 56 rfl) ?_
              refine mj_go_ineg (mj_dt dt_X3_keyOf 57 rfl) ?_
              obtain rfl := Option.some.inj h
              exact mj_go_ret (v := some (.int (-r9))) (Nat.le_of_ble_eq_true rfl) (mj_retI (mj_dt dt_X3_keyOf 58 rfl) rfl)
            · rw [if_neg b8] at h
              refine ⟨135, by decide, ?_⟩
              refine mj_go_iconst (v := 0) rfl (mj_dt dt_X3_keyOf 59 rfl) ?_
              obtain rfl := Option.some.inj h
              exact mj_go_ret (v := some (.int 0)) (Nat.le_of_ble_eq_true rfl) (mj_retI (mj_dt dt_X3_keyOf 60 rfl) rfl)
def f_X3_insert_59 (N : Nat) (v1 : Int32) (v3 : Nat) (v4 : Int32) (m : mj_m) : Option (mj_m) := mj_ck (mj_b 0 v3 v4) ( mj_mw (mj_wI m v3 (v4.toNatClampNeg) v1) (fun m2 => some m2))
theorem k_X3_insert_59 {L : Nat} {xs : Nat → Int32} {δ N : Nat} {v1 : Int32} {v3 : Nat} {v4 : Int32} {m : mj_m} {a : mj_m} (h : f_X3_insert_59 N v1 v3 v4 m = some a) : mj_Go (mj_EX L xs) δ mY_X3_insert 59 [(1, .int v1), (3, .ref v3), (4, .int v4)] [] (mj_fin m) (none, (mj_fin a)) := by
  unfold f_X3_insert_59 at h
  refine mj_go_aload_n (k := 3) (x := v3) rfl (mj_dt dt_X3_insert 35 rfl) ?_
  refine mj_go_iload (i := 4) (x := v4) rfl (mj_dt dt_X3_insert 36 rfl) ?_
  refine mj_go_iload_n (k := 1) (x := v1) rfl (mj_dt dt_X3_insert 37 rfl) ?_
  obtain ⟨c1, h⟩ := mj_ck_some h
  obtain ⟨m2, em2, h⟩ := mj_mw_some h
  refine ml_iast c1 (mj_dt dt_X3_insert 38 rfl) ?_
  refine ml_eqm (M1 := (mj_fin m2)) (by rw [em2] <;> rfl) ?_
  obtain rfl := Option.some.inj h
  exact mj_go_ret (v := none) (Nat.le_of_ble_eq_true rfl) (mj_retV (mj_dt dt_X3_insert 39 rfl) rfl)
def f_X3_insert_12 (N : Nat) (v1 : Int32) (v3 : Nat) (k_12 : Int32 × Int32 × mj_m → Option (mj_m)) (s : Int32 × Int32 × mj_m) : Option (mj_m) := if s.2.1 ≤ 0 then f_X3_insert_59 N v1 v3 s.1 s.2.2 else (mj_ck (mj_b 0 v3 (s.2.1 - 1)) ( mj_ck (mj_b 0 46 (s.2.2.1 v3 (s.2.1 - 1).toNatClampNeg)) ( mj_ck (mj_b 0 46 v1) ( if (s.2.2.1 46 v1.toNatClampNeg) ≤ (s.2.2.1 46 (s.2.2.1 v3 (s.2.1 - 1).toNatClampNeg).toNatClampNeg) then f_X3_insert_59 N v1 v3 s.1 s.2.2 else (mj_ck (mj_b 0 v3 s.2.1) ( mj_mw (mj_wI s.2.2 v3 (s.2.1.toNatClampNeg) (s.2.2.1 v3 (s.2.1 - 1).toNatClampNeg)) (fun m7 => mj_mw (s.2.1 - 1) (fun x8 => mj_mw (s.2.1 + (-1 : Int32)) (fun x9 => k_12 (x8, x9, m7))))))))))
theorem k_X3_insert_12 {L : Nat} {xs : Nat → Int32} {δ N : Nat} {v1 : Int32} {v3 : Nat} : ∀ (n : Nat) (s : Int32 × Int32 × mj_m) (a : mj_m), mj_lp n (f_X3_insert_12 N v1 v3) s = some a → mj_Go (mj_EX L xs) δ mY_X3_insert 12 [(0, .ref 45), (1, .int v1), (3, .ref v3), (4, .int s.1), (5, .int s.2.1)] [] (mj_fin s.2.2) (none, (mj_fin a)) := by
  refine mj_lp_sound (fun k_12 s a q_12 h => ?_)
  unfold f_X3_insert_12 at h
  refine mj_go_iload (i := 5) (x := s.2.1) rfl (mj_dt dt_X3_insert 6 rfl) ?_
  refine mj_go_if_le (tgt := 59) rfl (mj_dt dt_X3_insert 7 rfl) (fun b1 => ?_) (fun b1 => ?_)
  · rw [if_pos b1] at h
    refine mj_go_sub (lv' := [(1, .int v1), (3, .ref v3), (4, .int s.1)]) (List.forall_mem_cons.mpr ⟨rfl, (List.forall_mem_cons.mpr ⟨rfl, (List.forall_mem_cons.mpr ⟨rfl, (fun _ h9 => absurd h9 List.not_mem_nil)⟩)⟩)⟩) ?_
    exact k_X3_insert_59 h
  · rw [if_neg b1] at h
    refine mj_go_aload_n (k := 0) (x := 45) rfl (mj_dt dt_X3_insert 8 rfl) ?_
    refine ml_getR (c := 3) (k := 2) (q := 46) fd_3_2 rf_45_2 (Or.inl fl_X3_9) ho_45 (mj_dt dt_X3_insert 9 rfl) ?_
    refine mj_go_aload_n (k := 3) (x := v3) rfl (mj_dt dt_X3_insert 10 rfl) ?_
    refine mj_go_iload (i := 5) (x := s.2.1) rfl (mj_dt dt_X3_insert 11 rfl) ?_
    refine mj_go_iconst (v := 1) rfl (mj_dt dt_X3_insert 12 rfl) ?_
    refine mj_go_isub (mj_dt dt_X3_insert 13 rfl) ?_
    obtain ⟨c2, h⟩ := mj_ck_some h
    refine mk_iald c2 (mj_dt dt_X3_insert 14 rfl) ?_
    obtain ⟨c3, h⟩ := mj_ck_some h
    refine mk_iald c3 (mj_dt dt_X3_insert 15 rfl) ?_
    refine mj_go_aload_n (k := 0) (x := 45) rfl (mj_dt dt_X3_insert 16 rfl) ?_
    refine ml_getR (c := 3) (k := 2) (q := 46) fd_3_2 rf_45_2 (Or.inl fl_X3_9) ho_45 (mj_dt dt_X3_insert 17 rfl) ?_
    refine mj_go_iload_n (k := 1) (x := v1) rfl (mj_dt dt_X3_insert 18 rfl) ?_
    obtain ⟨c4, h⟩ := mj_ck_some h
    refine mk_iald c4 (mj_dt dt_X3_insert 19 rfl) ?_
    refine mj_go_icmp_ge (tgt := 59) rfl (mj_dt dt_X3_insert 20 rfl) (fun b5 => ?_) (fun b5 => ?_)
    · rw [if_pos b5] at h
      refine mj_go_sub (lv' := [(1, .int v1), (3, .ref v3), (4, .int s.1)]) (List.forall_mem_cons.mpr ⟨rfl, (List.forall_mem_cons.mpr ⟨rfl, (List.forall_mem_cons.mpr ⟨rfl, (fun _ h9 => absurd h9 List.not_mem_nil)⟩)⟩)⟩) ?_
      exact k_X3_insert_59 h
    · rw [if_neg b5] at h
      refine mj_go_aload_n (k := 3) (x := v3) rfl (mj_dt dt_X3_insert 21 rfl) ?_
      refine mj_go_iload (i := 5) (x := s.2.1) rfl (mj_dt dt_X3_insert 22 rfl) ?_
      refine mj_go_aload_n (k := 3) (x := v3) rfl (mj_dt dt_X3_insert 23 rfl) ?_
      refine mj_go_iload (i := 5) (x := s.2.1) rfl (mj_dt dt_X3_insert 24 rfl) ?_
      refine mj_go_iconst (v := 1) rfl (mj_dt dt_X3_insert 25 rfl) ?_
      refine mj_go_isub (mj_dt dt_X3_insert 26 rfl) ?_
      refine mk_iald c2 (mj_dt dt_X3_insert 27 rfl) ?_
      obtain ⟨c6, h⟩ := mj_ck_some h
      obtain ⟨m7, em7, h⟩ := mj_mw_some h
      refine ml_iast c6 (mj_dt dt_X3_insert 28 rfl) ?_
      refine ml_eqm (M1 := (mj_fin m7)) (by rw [em7] <;> rfl) ?_
      refine mj_go_iload (i := 5) (x := s.2.1) rfl (mj_dt dt_X3_insert 29 rfl) ?_
      refine mj_go_iconst (v := 1) rfl (mj_dt dt_X3_insert 30 rfl) ?_
      refine mj_go_isub (mj_dt dt_X3_insert 31 rfl) ?_
      obtain ⟨x8, ex8, h⟩ := mj_mw_some h
      refine ml_eqi ex8 ?_
      refine mj_go_istore (i := 4) (by decide) (mj_dt dt_X3_insert 32 rfl) ?_
      obtain ⟨x9, ex9, h⟩ := mj_mw_some h
      refine mj_go_iinc (i := 5) (x := s.2.1) (v := x9) rfl (by rw [ex9] <;> rfl) (by decide) (mj_dt dt_X3_insert 33 rfl) ?_
      refine mj_go_goto (tgt := 12) rfl (mj_dt dt_X3_insert 34 rfl) ?_
      refine mj_go_sub (lv' := [(0, .ref 45), (1, .int v1), (3, .ref v3), (4, .int x8), (5, .int x9)]) (List.forall_mem_cons.mpr ⟨rfl, (List.forall_mem_cons.mpr ⟨rfl, (List.forall_mem_cons.mpr ⟨rfl, (List.forall_mem_cons.mpr ⟨rfl, (List.forall_mem_cons.mpr ⟨rfl, (fun _ h9 => absurd h9 List.not_mem_nil)⟩)⟩)⟩)⟩)⟩) ?_
      exact q_12 _ _ h
def f_X3_insert (N : Nat) (v1 : Int32) (v2 : Int32) (v3 : Nat) (m : mj_m) : Option (mj_m) := mj_mw (if 9 < v2 then 9 else v2) (fun x1 => mj_lp N (f_X3_insert_12 N v1 v3) (x1, x1, m))
theorem k_X3_insert {L : Nat} {xs : Nat → Int32} {δ N : Nat} {v1 : Int32} {v2 : Int32} {v3 : Nat} {m : mj_m} (_ : 0 ≤ δ) {a : mj_m} (h : f_X3_insert N v1 v2 v3 m = some a) : mj_Cl (mj_EX L xs) δ mY_X3_insert [.ref 45, .int v1, .int v2, .ref v3] (mj_fin m) (none, (mj_fin a)) := by
  refine mj_cl_of ok_X3_insert (Nat.le_of_ble_eq_true rfl) ?_
  unfold f_X3_insert at h
  refine mj_go_iload_n (k := 2) (x := v2) rfl (mj_dt dt_X3_insert 0 rfl) ?_
  refine mj_go_bipush (v := 9) rfl (mj_dt dt_X3_insert 1 rfl) ?_
  refine mj_go_min hm_X3_55 (Nat.le_of_ble_eq_true rfl) (mj_dt dt_X3_insert 2 rfl) ?_
  obtain ⟨x1, ex1, h⟩ := mj_mw_some h
  refine ml_eqi ex1 ?_
  refine mj_go_istore (i := 4) (by decide) (mj_dt dt_X3_insert 3 rfl) ?_
  refine mj_go_iload (i := 4) (x := x1) rfl (mj_dt dt_X3_insert 4 rfl) ?_
  refine mj_go_istore (i := 5) (by decide) (mj_dt dt_X3_insert 5 rfl) ?_
  refine mj_go_sub (lv' := [(0, .ref 45), (1, .int v1), (3, .ref v3), (4, .int x1), (5, .int x1)]) (List.forall_mem_cons.mpr ⟨rfl, (List.forall_mem_cons.mpr ⟨rfl, (List.forall_mem_cons.mpr ⟨rfl, (List.forall_mem_cons.mpr ⟨rfl, (List.forall_mem_cons.mpr ⟨rfl, (fun _ h9 => absurd h9 List.not_mem_nil)⟩)⟩)⟩)⟩)⟩) ?_
  exact k_X3_insert_12 N _ _ h
def f_X3_arrange_74 (N : Nat) (k_23 : Int32 × Int32 × mj_m → Option (Int32 × mj_m)) (v1 : Nat) (v2 : Nat) (v3 : Int32) (v4 : Int32) (m : mj_m) : Option (Int32 × mj_m) := mj_mw (v4 + 1) (fun x1 => k_23 (v3, x1, m))
theorem k_X3_arrange_74 {L : Nat} {xs : Nat → Int32} {δ N : Nat} {v1 : Nat} {v2 : Nat} {v3 : Int32} {v4 : Int32} {m : mj_m} {k_23 : Int32 × Int32 × mj_m → Option (Int32 × mj_m)} (q_23 : ∀ (s_ : Int32 × Int32 × mj_m) (a_ : Int32 × mj_m), k_23 s_ = some a_ → mj_Go (mj_EX L xs) (δ + 1) mY_X3_arrange 23 [(0, .ref 45), (1, .ref v1), (2, .ref v2), (3, .int s_.1), (4, .int s_.2.1)] [] (mj_fin s_.2.2) (some (.int a_.1), (mj_fin a_.2))) (hδ : 5 ≤ δ) {a : Int32 × mj_m} (h : f_X3_arrange_74 N k_23 v1 v2 v3 v4 m = some a) : mj_Go (mj_EX L xs) (δ + 1) mY_X3_arrange 74 [(0, .ref 45), (1, .ref v1), (2, .ref v2), (3, .int v3), (4, .int v4)] [] (mj_fin m) (some (.int a.1), (mj_fin a.2)) := by
  unfold f_X3_arrange_74 at h
  obtain ⟨x1, ex1, h⟩ := mj_mw_some h
  refine mj_go_iinc (i := 4) (x := v4) (v := x1) rfl (by rw [ex1] <;> rfl) (by decide) (mj_dt dt_X3_arrange 40 rfl) ?_
  refine mj_go_goto (tgt := 23) rfl (mj_dt dt_X3_arrange 41 rfl) ?_
  refine mj_go_sub (lv' := [(0, .ref 45), (1, .ref v1), (2, .ref v2), (3, .int v3), (4, .int x1)]) (List.forall_mem_cons.mpr ⟨rfl, (List.forall_mem_cons.mpr ⟨rfl, (List.forall_mem_cons.mpr ⟨rfl, (List.forall_mem_cons.mpr ⟨rfl, (List.forall_mem_cons.mpr ⟨rfl, (fun _ h9 => absurd h9 List.not_mem_nil)⟩)⟩)⟩)⟩)⟩) ?_
  exact q_23 _ _ h
def f_X3_arrange_23 (N : Nat) (v1 : Nat) (v2 : Nat) (k_23 : Int32 × Int32 × mj_m → Option (Int32 × mj_m)) (s : Int32 × Int32 × mj_m) : Option (Int32 × mj_m) := if (s.2.2.1 1 7) ≤ s.2.1 then (some (s.1, s.2.2)) else (mj_ck (mj_b 0 5 s.2.1) ( if 2 ≤ (s.2.2.1 5 s.2.1.toNatClampNeg) then f_X3_arrange_74 N k_23 v1 v2 s.1 s.2.1 s.2.2 else ((f_X3_keyOf N v1 s.2.1 s.2.2).bind (fun r4 => mj_ck (mj_b 0 46 s.2.1) ( mj_mw (mj_wI s.2.2 46 (s.2.1.toNatClampNeg) r4) (fun m6 => (f_X3_insert N s.2.1 s.1 v2 m6).bind (fun r7 => mj_mw (s.1 + 1) (fun x8 => f_X3_arrange_74 N k_23 v1 v2 x8 s.2.1 r7))))))))
theorem k_X3_arrange_23 {L : Nat} {xs : Nat → Int32} {δ N : Nat} {v1 : Nat} {v2 : Nat} (hδ : 5 ≤ δ) : ∀ (n : Nat) (s : Int32 × Int32 × mj_m) (a : Int32 × mj_m), mj_lp n (f_X3_arrange_23 N v1 v2) s = some a → mj_Go (mj_EX L xs) (δ + 1) mY_X3_arrange 23 [(0, .ref 45), (1, .ref v1), (2, .ref v2), (3, .int s.1), (4, .int s.2.1)] [] (mj_fin s.2.2) (some (.int a.1), (mj_fin a.2)) := by
  refine mj_lp_sound (fun k_23 s a q_23 h => ?_)
  unfold f_X3_arrange_23 at h
  refine mj_go_iload (i := 4) (x := s.2.1) rfl (mj_dt dt_X3_arrange 14 rfl) ?_
  refine mj_go_aload_n (k := 0) (x := 45) rfl (mj_dt dt_X3_arrange 15 rfl) ?_
  refine ml_getR (c := 3) (k := 0) (q := 1) fd_3_0 rf_45_0 (Or.inl fl_X3_18) ho_45 (mj_dt dt_X3_arrange 16 rfl) ?_
  refine mk_getI (c := 7) (k := 7) (Or.inl fd_7_7) (Or.inl fl_X3_39) ho_1 (mj_dt dt_X3_arrange 17 rfl) ?_
  refine mj_go_icmp_ge (tgt := 80) rfl (mj_dt dt_X3_arrange 18 rfl) (fun b1 => ?_) (fun b1 => ?_)
  · rw [if_pos b1] at h
    refine mj_go_iload_n (k := 3) (x := s.1) rfl (mj_dt dt_X3_arrange 42 rfl) ?_
    obtain rfl := Option.some.inj h
    exact mj_go_ret (v := some (.int s.1)) (Nat.le_of_ble_eq_true rfl) (mj_retI (mj_dt dt_X3_arrange 43 rfl) rfl)
  · rw [if_neg b1] at h
    refine mj_go_aload_n (k := 0) (x := 45) rfl (mj_dt dt_X3_arrange 19 rfl) ?_
    refine ml_getR (c := 3) (k := 0) (q := 1) fd_3_0 rf_45_0 (Or.inl fl_X3_18) ho_45 (mj_dt dt_X3_arrange 20 rfl) ?_
    refine ml_getR (c := 7) (k := 3) (q := 5) fd_7_3 rf_1_3 (Or.inl fl_X3_44) ho_1 (mj_dt dt_X3_arrange 21 rfl) ?_
    refine mj_go_iload (i := 4) (x := s.2.1) rfl (mj_dt dt_X3_arrange 22 rfl) ?_
    obtain ⟨c2, h⟩ := mj_ck_some h
    refine mk_iald c2 (mj_dt dt_X3_arrange 23 rfl) ?_
    refine mj_go_iconst (v := 2) rfl (mj_dt dt_X3_arrange 24 rfl) ?_
    refine mj_go_icmp_ge (tgt := 74) rfl (mj_dt dt_X3_arrange 25 rfl) (fun b3 => ?_) (fun b3 => ?_)
    · rw [if_pos b3] at h
      refine mj_go_sub (lv' := [(0, .ref 45), (1, .ref v1), (2, .ref v2), (3, .int s.1), (4, .int s.2.1)]) (List.forall_mem_cons.mpr ⟨rfl, (List.forall_mem_cons.mpr ⟨rfl, (List.forall_mem_cons.mpr ⟨rfl, (List.forall_mem_cons.mpr ⟨rfl, (List.forall_mem_cons.mpr ⟨rfl, (fun _ h9 => absurd h9 List.not_mem_nil)⟩)⟩)⟩)⟩)⟩) ?_
      exact k_X3_arrange_74 q_23 hδ h
    · rw [if_neg b3] at h
      refine mj_go_aload_n (k := 0) (x := 45) rfl (mj_dt dt_X3_arrange 26 rfl) ?_
      refine ml_getR (c := 3) (k := 2) (q := 46) fd_3_2 rf_45_2 (Or.inl fl_X3_9) ho_45 (mj_dt dt_X3_arrange 27 rfl) ?_
      refine mj_go_iload (i := 4) (x := s.2.1) rfl (mj_dt dt_X3_arrange 28 rfl) ?_
      refine mj_go_aload_n (k := 0) (x := 45) rfl (mj_dt dt_X3_arrange 29 rfl) ?_
      refine mj_go_aload_n (k := 1) (x := v1) rfl (mj_dt dt_X3_arrange 30 rfl) ?_
      refine mj_go_iload (i := 4) (x := s.2.1) rfl (mj_dt dt_X3_arrange 31 rfl) ?_
      obtain ⟨r4, er4, h⟩ := mj_bind_some h
      refine ml_callV (Y' := mY_X3_keyOf) (as := [.ref v1, .int s.2.1]) (rest := [.int s.2.1, .ref 46]) (c := 3) (v := (some (.int r4))) (M1 := (mj_fin s.2.2)) ho_45 rfl lm_X3_47 wc_X3_keyOf pl_X3_keyOf ok_X3_keyOf rfl rfl (Nat.le_of_ble_eq_true rfl) (k_X3_keyOf (by omega) er4) (mj_dt dt_X3_arrange 32 rfl) ?_
      obtain ⟨c5, h⟩ := mj_ck_some h
      obtain ⟨m6, em6, h⟩ := mj_mw_some h
      refine ml_iast c5 (mj_dt dt_X3_arrange 33 rfl) ?_
      refine ml_eqm (M1 := (mj_fin m6)) (by rw [em6] <;> rfl) ?_
      refine mj_go_aload_n (k := 0) (x := 45) rfl (mj_dt dt_X3_arrange 34 rfl) ?_
      refine mj_go_iload (i := 4) (x := s.2.1) rfl (mj_dt dt_X3_arrange 35 rfl) ?_
      refine mj_go_iload_n (k := 3) (x := s.1) rfl (mj_dt dt_X3_arrange 36 rfl) ?_
      refine mj_go_aload_n (k := 2) (x := v2) rfl (mj_dt dt_X3_arrange 37 rfl) ?_
      obtain ⟨r7, er7, h⟩ := mj_bind_some h
      refine ml_callV (Y' := mY_X3_insert) (as := [.int s.2.1, .int s.1, .ref v2]) (rest := []) (c := 3) (v := none) (M1 := (mj_fin r7)) ho_45 rfl lm_X3_51 wc_X3_insert pl_X3_insert ok_X3_insert rfl rfl (Nat.le_of_ble_eq_true rfl) (k_X3_insert (by omega) er7) (mj_dt dt_X3_arrange 38 rfl) ?_
      obtain ⟨x8, ex8, h⟩ := mj_mw_some h
      refine mj_go_iinc (i := 3) (x := s.1) (v := x8) rfl (by rw [ex8] <;> rfl) (by decide) (mj_dt dt_X3_arrange 39 rfl) ?_
      refine mj_go_sub (lv' := [(0, .ref 45), (1, .ref v1), (2, .ref v2), (3, .int x8), (4, .int s.2.1)]) (List.forall_mem_cons.mpr ⟨rfl, (List.forall_mem_cons.mpr ⟨rfl, (List.forall_mem_cons.mpr ⟨rfl, (List.forall_mem_cons.mpr ⟨rfl, (List.forall_mem_cons.mpr ⟨rfl, (fun _ h9 => absurd h9 List.not_mem_nil)⟩)⟩)⟩)⟩)⟩) ?_
      exact k_X3_arrange_74 q_23 hδ h
def f_X3_arrange (N : Nat) (v1 : Nat) (v2 : Nat) (m : mj_m) : Option (Int32 × mj_m) := mj_ck (mj_o 6 v1) ( if (m.1 v1 1) = 4 then ((f_X3_arrangeSaving N (m.1 v1 3) v2 m).bind (fun r3 => some (r3.1, r3.2))) else (mj_lp N (f_X3_arrange_23 N v1 v2) (0, 0, m)))
theorem k_X3_arrange {L : Nat} {xs : Nat → Int32} {δ N : Nat} {v1 : Nat} {v2 : Nat} {m : mj_m} (hδ : 6 ≤ δ) {a : Int32 × mj_m} (h : f_X3_arrange N v1 v2 m = some a) : mj_Cl (mj_EX L xs) δ mY_X3_arrange [.ref 45, .ref v1, .ref v2] (mj_fin m) (some (.int a.1), (mj_fin a.2)) := by
  obtain ⟨δ, rfl⟩ : ∃ d, δ = d + 1 := ⟨δ - 1, by omega⟩
  have hδ : 5 ≤ δ := by omega
  refine mj_cl_of ok_X3_arrange (Nat.le_of_ble_eq_true rfl) ?_
  unfold f_X3_arrange at h
  refine mj_go_aload_n (k := 1) (x := v1) rfl (mj_dt dt_X3_arrange 0 rfl) ?_
  obtain ⟨c1, h⟩ := mj_ck_some h
  refine mk_getI (c := 6) (k := 1) (Or.inl fd_6_1) (Or.inl fl_X3_26) c1 (mj_dt dt_X3_arrange 1 rfl) ?_
  refine mj_go_iconst (v := 4) rfl (mj_dt dt_X3_arrange 2 rfl) ?_
  refine mj_go_icmp_ne (tgt := 18) rfl (mj_dt dt_X3_arrange 3 rfl) (fun b2 => ?_) (fun b2 => ?_)
  · rw [if_neg b2] at h
    refine mj_go_iconst (v := 0) rfl (mj_dt dt_X3_arrange 10 rfl) ?_
    refine mj_go_istore_n (k := 3) (by decide) (mj_dt dt_X3_arrange 11 rfl) ?_
    refine mj_go_iconst (v := 0) rfl (mj_dt dt_X3_arrange 12 rfl) ?_
    refine mj_go_istore (i := 4) (by decide) (mj_dt dt_X3_arrange 13 rfl) ?_
    refine mj_go_sub (lv' := [(0, .ref 45), (1, .ref v1), (2, .ref v2), (3, .int 0), (4, .int 0)]) (List.forall_mem_cons.mpr ⟨rfl, (List.forall_mem_cons.mpr ⟨rfl, (List.forall_mem_cons.mpr ⟨rfl, (List.forall_mem_cons.mpr ⟨rfl, (List.forall_mem_cons.mpr ⟨rfl, (fun _ h9 => absurd h9 List.not_mem_nil)⟩)⟩)⟩)⟩)⟩) ?_
    exact k_X3_arrange_23 hδ N _ _ h
  · rw [if_pos b2] at h
    refine mj_go_aload_n (k := 0) (x := 45) rfl (mj_dt dt_X3_arrange 4 rfl) ?_
    refine mj_go_aload_n (k := 1) (x := v1) rfl (mj_dt dt_X3_arrange 5 rfl) ?_
    refine mk_getI (c := 6) (k := 3) (Or.inl fd_6_3) (Or.inl fl_X3_32) c1 (mj_dt dt_X3_arrange 6 rfl) ?_
    refine mj_go_aload_n (k := 2) (x := v2) rfl (mj_dt dt_X3_arrange 7 rfl) ?_
    obtain ⟨r3, er3, h⟩ := mj_bind_some h
    refine ml_callV (Y' := mY_X3_arrangeSaving) (as := [.int (m.1 v1 3), .ref v2]) (rest := []) (c := 3) (v := (some (.int r3.1))) (M1 := (mj_fin r3.2)) ho_45 rfl lm_X3_35 wc_X3_arrangeSaving pl_X3_arrangeSaving ok_X3_arrangeSaving rfl rfl (Nat.le_of_ble_eq_true rfl) (k_X3_arrangeSaving (by omega) er3) (mj_dt dt_X3_arrange 8 rfl) ?_
    obtain rfl := Option.some.inj h
    exact mj_go_ret (v := some (.int r3.1)) (Nat.le_of_ble_eq_true rfl) (mj_retI (mj_dt dt_X3_arrange 9 rfl) rfl)
def f_X8_lastPlace_21 (N : Nat) (m : mj_m) : Option (Int32) := (some (-1 : Int32))
theorem k_X8_lastPlace_21 {L : Nat} {xs : Nat → Int32} {δ N : Nat} {m : mj_m} {a : Int32} (h : f_X8_lastPlace_21 N m = some a) : mj_Go (mj_EX L xs) δ mY_X8_lastPlace 21 [] [] (mj_fin m) (some (.int a), (mj_fin m)) := by
  unfold f_X8_lastPlace_21 at h
  refine mj_go_iconst (v := -1) rfl (mj_dt dt_X8_lastPlace 12 rfl) ?_
  obtain rfl := Option.some.inj h
  exact mj_go_ret (v := some (.int (-1 : Int32))) (Nat.le_of_ble_eq_true rfl) (mj_retI (mj_dt dt_X8_lastPlace 13 rfl) rfl)
def f_X8_lastPlace (N : Nat) (v1 : Int32) (m : mj_m) : Option (Int32) := if v1 ≤ 0 then f_X8_lastPlace_21 N m else (if 10 < v1 then f_X8_lastPlace_21 N m else (mj_ck (mj_b 0 78 (v1 - 1)) ( (some (m.1 78 (v1 - 1).toNatClampNeg)))))
theorem k_X8_lastPlace {L : Nat} {xs : Nat → Int32} {δ N : Nat} {v1 : Int32} {m : mj_m} (_ : 0 ≤ δ) {a : Int32} (h : f_X8_lastPlace N v1 m = some a) : mj_Cl (mj_EX L xs) δ mY_X8_lastPlace [.ref 0, .int v1] (mj_fin m) (some (.int a), (mj_fin m)) := by
  refine mj_cl_of ok_X8_lastPlace (Nat.le_of_ble_eq_true rfl) ?_
  unfold f_X8_lastPlace at h
  refine mj_go_iload_n (k := 1) (x := v1) rfl (mj_dt dt_X8_lastPlace 0 rfl) ?_
  refine mj_go_if_le (tgt := 21) rfl (mj_dt dt_X8_lastPlace 1 rfl) (fun b1 => ?_) (fun b1 => ?_)
  · rw [if_pos b1] at h
    refine mj_go_sub (lv' := []) (fun _ h9 => absurd h9 List.not_mem_nil) ?_
    exact k_X8_lastPlace_21 h
  · rw [if_neg b1] at h
    refine mj_go_iload_n (k := 1) (x := v1) rfl (mj_dt dt_X8_lastPlace 2 rfl) ?_
    refine mj_go_bipush (v := 10) rfl (mj_dt dt_X8_lastPlace 3 rfl) ?_
    refine mj_go_icmp_gt (tgt := 21) rfl (mj_dt dt_X8_lastPlace 4 rfl) (fun b2 => ?_) (fun b2 => ?_)
    · rw [if_pos b2] at h
      refine mj_go_sub (lv' := []) (fun _ h9 => absurd h9 List.not_mem_nil) ?_
      exact k_X8_lastPlace_21 h
    · rw [if_neg b2] at h
      refine mj_go_aload_n (k := 0) (x := 0) rfl (mj_dt dt_X8_lastPlace 5 rfl) ?_
      refine ml_getR (c := 8) (k := 9) (q := 78) fd_8_9 rf_0_9 (Or.inl fl_X8_70) ho_0 (mj_dt dt_X8_lastPlace 6 rfl) ?_
      refine mj_go_iload_n (k := 1) (x := v1) rfl (mj_dt dt_X8_lastPlace 7 rfl) ?_
      refine mj_go_iconst (v := 1) rfl (mj_dt dt_X8_lastPlace 8 rfl) ?_
      refine mj_go_isub (mj_dt dt_X8_lastPlace 9 rfl) ?_
      obtain ⟨c3, h⟩ := mj_ck_some h
      refine mk_iald c3 (mj_dt dt_X8_lastPlace 10 rfl) ?_
      refine mj_go_goto (tgt := 22) rfl (mj_dt dt_X8_lastPlace 11 rfl) ?_
      obtain rfl := Option.some.inj h
      exact mj_go_ret (v := some (.int (m.1 78 (v1 - 1).toNatClampNeg))) (Nat.le_of_ble_eq_true rfl) (mj_retI (mj_dt dt_X8_lastPlace 13 rfl) rfl)
def f_X8_says_14 (N : Nat) (m : mj_m) : Option (Int32 × mj_m) := (f_X8_refuse N 1 m).bind (fun r1 => some (r1.1, r1.2))
theorem k_X8_says_14 {L : Nat} {xs : Nat → Int32} {δ N : Nat} {m : mj_m} (hδ : 6 ≤ δ) {a : Int32 × mj_m} (h : f_X8_says_14 N m = some a) : mj_Go (mj_EX L xs) (δ + 1) mY_X8_says 14 [(0, .ref 0)] [] (mj_fin m) (some (.int a.1), (mj_fin a.2)) := by
  unfold f_X8_says_14 at h
  refine mj_go_aload_n (k := 0) (x := 0) rfl (mj_dt dt_X8_says 6 rfl) ?_
  refine mj_go_iconst (v := 1) rfl (mj_dt dt_X8_says 7 rfl) ?_
  obtain ⟨r1, er1, h⟩ := mj_bind_some h
  refine ml_callV (Y' := mY_X8_refuse) (as := [.int 1]) (rest := []) (c := 8) (v := (some (.int r1.1))) (M1 := (mj_fin r1.2)) ho_0 rfl lm_X8_86 wc_X8_refuse pl_X8_refuse ok_X8_refuse rfl rfl (Nat.le_of_ble_eq_true rfl) (k_X8_refuse (by omega) er1) (mj_dt dt_X8_says 8 rfl) ?_
  obtain rfl := Option.some.inj h
  exact mj_go_ret (v := some (.int r1.1)) (Nat.le_of_ble_eq_true rfl) (mj_retI (mj_dt dt_X8_says 9 rfl) rfl)
def f_X8_says_52 (N : Nat) (m : mj_m) : Option (Int32 × mj_m) := (f_X8_refuse N 2 m).bind (fun r1 => some (r1.1, r1.2))
theorem k_X8_says_52 {L : Nat} {xs : Nat → Int32} {δ N : Nat} {m : mj_m} (hδ : 6 ≤ δ) {a : Int32 × mj_m} (h : f_X8_says_52 N m = some a) : mj_Go (mj_EX L xs) (δ + 1) mY_X8_says 52 [(0, .ref 0)] [] (mj_fin m) (some (.int a.1), (mj_fin a.2)) := by
  unfold f_X8_says_52 at h
  refine mj_go_aload_n (k := 0) (x := 0) rfl (mj_dt dt_X8_says 26 rfl) ?_
  refine mj_go_iconst (v := 2) rfl (mj_dt dt_X8_says 27 rfl) ?_
  obtain ⟨r1, er1, h⟩ := mj_bind_some h
  refine ml_callV (Y' := mY_X8_refuse) (as := [.int 2]) (rest := []) (c := 8) (v := (some (.int r1.1))) (M1 := (mj_fin r1.2)) ho_0 rfl lm_X8_86 wc_X8_refuse pl_X8_refuse ok_X8_refuse rfl rfl (Nat.le_of_ble_eq_true rfl) (k_X8_refuse (by omega) er1) (mj_dt dt_X8_says 28 rfl) ?_
  obtain rfl := Option.some.inj h
  exact mj_go_ret (v := some (.int r1.1)) (Nat.le_of_ble_eq_true rfl) (mj_retI (mj_dt dt_X8_says 29 rfl) rfl)
def f_X8_says_112 (N : Nat) (v3 : Nat) (m : mj_m) : Option (Int32 × mj_m) := (f_X3_arrange N v3 78 m).bind (fun r1 => if r1.1 ≤ 0 then ((some ((-1 : Int32), r1.2))) else (mj_ck (mj_b 0 78 0) ( (some (r1.2.1 78 (0 : Int32).toNatClampNeg, r1.2)))))
theorem k_X8_says_112 {L : Nat} {xs : Nat → Int32} {δ N : Nat} {v3 : Nat} {m : mj_m} (hδ : 6 ≤ δ) {a : Int32 × mj_m} (h : f_X8_says_112 N v3 m = some a) : mj_Go (mj_EX L xs) (δ + 1) mY_X8_says 112 [(0, .ref 0), (3, .ref v3)] [] (mj_fin m) (some (.int a.1), (mj_fin a.2)) := by
  unfold f_X8_says_112 at h
  refine mj_go_aload_n (k := 0) (x := 0) rfl (mj_dt dt_X8_says 39 rfl) ?_
  refine ml_getR (c := 8) (k := 4) (q := 45) fd_8_4 rf_0_4 (Or.inl fl_X8_39) ho_0 (mj_dt dt_X8_says 40 rfl) ?_
  refine mj_go_aload_n (k := 3) (x := v3) rfl (mj_dt dt_X8_says 41 rfl) ?_
  refine mj_go_aload_n (k := 0) (x := 0) rfl (mj_dt dt_X8_says 42 rfl) ?_
  refine ml_getR (c := 8) (k := 9) (q := 78) fd_8_9 rf_0_9 (Or.inl fl_X8_70) ho_0 (mj_dt dt_X8_says 43 rfl) ?_
  obtain ⟨r1, er1, h⟩ := mj_bind_some h
  refine ml_callV (Y' := mY_X3_arrange) (as := [.ref v3, .ref 78]) (rest := []) (c := 3) (v := (some (.int r1.1))) (M1 := (mj_fin r1.2)) ho_45 rfl lm_X8_148 wc_X3_arrange pl_X3_arrange ok_X3_arrange rfl rfl (Nat.le_of_ble_eq_true rfl) (k_X3_arrange (by omega) er1) (mj_dt dt_X8_says 44 rfl) ?_
  refine mj_go_if_le (tgt := 136) rfl (mj_dt dt_X8_says 45 rfl) (fun b2 => ?_) (fun b2 => ?_)
  · rw [if_pos b2] at h
    refine mj_go_iconst (v := -1) rfl (mj_dt dt_X8_says 51 rfl) ?_
    obtain rfl := Option.some.inj h
    exact mj_go_ret (v := some (.int (-1 : Int32))) (Nat.le_of_ble_eq_true rfl) (mj_retI (mj_dt dt_X8_says 52 rfl) rfl)
  · rw [if_neg b2] at h
    refine mj_go_aload_n (k := 0) (x := 0) rfl (mj_dt dt_X8_says 46 rfl) ?_
    refine ml_getR (c := 8) (k := 9) (q := 78) fd_8_9 rf_0_9 (Or.inl fl_X8_70) ho_0 (mj_dt dt_X8_says 47 rfl) ?_
    refine mj_go_iconst (v := 0) rfl (mj_dt dt_X8_says 48 rfl) ?_
    obtain ⟨c3, h⟩ := mj_ck_some h
    refine mk_iald c3 (mj_dt dt_X8_says 49 rfl) ?_
    refine mj_go_goto (tgt := 137) rfl (mj_dt dt_X8_says 50 rfl) ?_
    obtain rfl := Option.some.inj h
    exact mj_go_ret (v := some (.int (r1.2.1 78 (0 : Int32).toNatClampNeg))) (Nat.le_of_ble_eq_true rfl) (mj_retI (mj_dt dt_X8_says 52 rfl) rfl)
def f_X8_says_138 (N : Nat) (v3 : Nat) (m : mj_m) : Option (Int32 × mj_m) := (f_X3_arrange N v3 78 m).bind (fun r1 => (f_X8_lastPlace N r1.1 r1.2).bind (fun r2 => some (r2, r1.2)))
theorem k_X8_says_138 {L : Nat} {xs : Nat → Int32} {δ N : Nat} {v3 : Nat} {m : mj_m} (hδ : 6 ≤ δ) {a : Int32 × mj_m} (h : f_X8_says_138 N v3 m = some a) : mj_Go (mj_EX L xs) (δ + 1) mY_X8_says 138 [(0, .ref 0), (3, .ref v3)] [] (mj_fin m) (some (.int a.1), (mj_fin a.2)) := by
  unfold f_X8_says_138 at h
  refine mj_go_aload_n (k := 0) (x := 0) rfl (mj_dt dt_X8_says 53 rfl) ?_
  refine mj_go_aload_n (k := 0) (x := 0) rfl (mj_dt dt_X8_says 54 rfl) ?_
  refine ml_getR (c := 8) (k := 4) (q := 45) fd_8_4 rf_0_4 (Or.inl fl_X8_39) ho_0 (mj_dt dt_X8_says 55 rfl) ?_
  refine mj_go_aload_n (k := 3) (x := v3) rfl (mj_dt dt_X8_says 56 rfl) ?_
  refine mj_go_aload_n (k := 0) (x := 0) rfl (mj_dt dt_X8_says 57 rfl) ?_
  refine ml_getR (c := 8) (k := 9) (q := 78) fd_8_9 rf_0_9 (Or.inl fl_X8_70) ho_0 (mj_dt dt_X8_says 58 rfl) ?_
  obtain ⟨r1, er1, h⟩ := mj_bind_some h
  refine ml_callV (Y' := mY_X3_arrange) (as := [.ref v3, .ref 78]) (rest := [.ref 0]) (c := 3) (v := (some (.int r1.1))) (M1 := (mj_fin r1.2)) ho_45 rfl lm_X8_148 wc_X3_arrange pl_X3_arrange ok_X3_arrange rfl rfl (Nat.le_of_ble_eq_true rfl) (k_X3_arrange (by omega) er1) (mj_dt dt_X8_says 59 rfl) ?_
  obtain ⟨r2, er2, h⟩ := mj_bind_some h
  refine ml_callV (Y' := mY_X8_lastPlace) (as := [.int r1.1]) (rest := []) (c := 8) (v := (some (.int r2))) (M1 := (mj_fin r1.2)) ho_0 rfl lm_X8_152 wc_X8_lastPlace pl_X8_lastPlace ok_X8_lastPlace rfl rfl (Nat.le_of_ble_eq_true rfl) (k_X8_lastPlace (by omega) er2) (mj_dt dt_X8_says 60 rfl) ?_
  obtain rfl := Option.some.inj h
  exact mj_go_ret (v := some (.int r2)) (Nat.le_of_ble_eq_true rfl) (mj_retI (mj_dt dt_X8_says 61 rfl) rfl)
def f_X8_says_58 (N : Nat) (v2 : Int32) (v3 : Nat) (m : mj_m) : Option (Int32 × mj_m) := (f_X6_isRule N v3 m).bind (fun r1 => mj_ck (mj_o 6 v3) ( if r1 = 0 then ((f_X8_refuse N 3 m).bind (fun r4 => some (r4.1, r4.2))) else (if v2 = 1 then f_X8_says_112 N v3 m else if v2 = 2 then f_X8_says_138 N v3 m else if v2 = 3 then f_X8_says_112 N v3 m else if v2 = 4 then ((f_X7_countUpToCost N (m.1 v3 3) m).bind (fun r8 => some (r8, m))) else if v2 = 5 then f_X8_says_138 N v3 m else if v2 = 6 then (some (m.1 v3 2, m)) else (some (m.1 v3 3, m)))))
theorem k_X8_says_58 {L : Nat} {xs : Nat → Int32} {δ N : Nat} {v2 : Int32} {v3 : Nat} {m : mj_m} (hδ : 6 ≤ δ) {a : Int32 × mj_m} (h : f_X8_says_58 N v2 v3 m = some a) : mj_Go (mj_EX L xs) (δ + 1) mY_X8_says 58 [(0, .ref 0), (2, .int v2), (3, .ref v3)] [] (mj_fin m) (some (.int a.1), (mj_fin a.2)) := by
  unfold f_X8_says_58 at h
  refine mj_go_aload_n (k := 3) (x := v3) rfl (mj_dt dt_X8_says 30 rfl) ?_
  obtain ⟨r1, er1, h⟩ := mj_bind_some h
  obtain ⟨c2, h⟩ := mj_ck_some h
  refine ml_callV (Y' := mY_X6_isRule) (as := []) (rest := []) (c := 6) (v := (some (.int r1))) (M1 := (mj_fin m)) c2 rfl lm_X8_104 wc_X6_isRule pl_X6_isRule ok_X6_isRule rfl rfl (Nat.le_of_ble_eq_true rfl) (k_X6_isRule (by omega) er1) (mj_dt dt_X8_says 31 rfl) ?_
  refine mj_go_if_ne (tgt := 71) rfl (mj_dt dt_X8_says 32 rfl) (fun b3 => ?_) (fun b3 => ?_)
  · rw [if_neg b3] at h
    refine mj_go_iload_n (k := 2) (x := v2) rfl (mj_dt dt_X8_says 37 rfl) ?_
    refine mj_go_tsw [(1, 40), (2, 66), (3, 40), (4, 83), (5, 66), (6, 95)] (by decide) (by decide) (mj_dt dt_X8_says 38 rfl) ?_
    refine ⟨fun b4 => ?_, fun b4 => ?_⟩
    · rw [if_pos b4] at h
      refine ⟨112, by decide, ?_⟩
      refine mj_go_sub (lv' := [(0, .ref 0), (3, .ref v3)]) (List.forall_mem_cons.mpr ⟨rfl, (List.forall_mem_cons.mpr ⟨rfl, (fun _ h9 => absurd h9 List.not_mem_nil)⟩)⟩) ?_
      exact k_X8_says_112 hδ h
    · rw [if_neg b4] at h
      refine ⟨fun b5 => ?_, fun b5 => ?_⟩
      · rw [if_pos b5] at h
        refine ⟨138, by decide, ?_⟩
        refine mj_go_sub (lv' := [(0, .ref 0), (3, .ref v3)]) (List.forall_mem_cons.mpr ⟨rfl, (List.forall_mem_cons.mpr ⟨rfl, (fun _ h9 => absurd h9 List.not_mem_nil)⟩)⟩) ?_
        exact k_X8_says_138 hδ h
      · rw [if_neg b5] at h
        refine ⟨fun b6 => ?_, fun b6 => ?_⟩
        · rw [if_pos b6] at h
          refine ⟨112, by decide, ?_⟩
          refine mj_go_sub (lv' := [(0, .ref 0), (3, .ref v3)]) (List.forall_mem_cons.mpr ⟨rfl, (List.forall_mem_cons.mpr ⟨rfl, (fun _ h9 => absurd h9 List.not_mem_nil)⟩)⟩) ?_
          exact k_X8_says_112 hδ h
        · rw [if_neg b6] at h
          refine ⟨fun b7 => ?_, fun b7 => ?_⟩
          · rw [if_pos b7] at h
            refine ⟨155, by decide, ?_⟩
            refine mj_go_aload_n (k := 0) (x := 0) rfl (mj_dt dt_X8_says 62 rfl) ?_
            refine ml_getR (c := 8) (k := 0) (q := 1) fd_8_0 rf_0_0 (Or.inl fl_X8_12) ho_0 (mj_dt dt_X8_says 63 rfl) ?_
            refine mj_go_aload_n (k := 3) (x := v3) rfl (mj_dt dt_X8_says 64 rfl) ?_
            refine mk_getI (c := 6) (k := 3) (Or.inl fd_6_3) (Or.inl fl_X8_155) c2 (mj_dt dt_X8_says 65 rfl) ?_
            obtain ⟨r8, er8, h⟩ := mj_bind_some h
            refine ml_callV (Y' := mY_X7_countUpToCost) (as := [.int (m.1 v3 3)]) (rest := []) (c := 7) (v := (some (.int r8))) (M1 := (mj_fin m)) ho_1 rfl lm_X8_158 wc_X7_countUpToCost pl_X7_countUpToCost ok_X7_countUpToCost rfl rfl (Nat.le_of_ble_eq_true rfl) (k_X7_countUpToCost (by omega) er8) (mj_dt dt_X8_says 66 rfl) ?_
            obtain rfl := Option.some.inj h
            exact mj_go_ret (v := some (.int r8)) (Nat.le_of_ble_eq_true rfl) (mj_retI (mj_dt dt_X8_says 67 rfl) rfl)
          · rw [if_neg b7] at h
            refine ⟨fun b8 => ?_, fun b8 => ?_⟩
            · rw [if_pos b8] at h
              refine ⟨138, by decide, ?_⟩
              refine mj_go_sub (lv' := [(0, .ref 0), (3, .ref v3)]) (List.forall_mem_cons.mpr ⟨rfl, (List.forall_mem_cons.mpr ⟨rfl, (fun _ h9 => absurd h9 List.not_mem_nil)⟩)⟩) ?_
              exact k_X8_says_138 hδ h
            · rw [if_neg b8] at h
              refine ⟨fun b9 => ?_, fun b9 => ?_⟩
              · rw [if_pos b9] at h
                refine ⟨167, by decide, ?_⟩
                refine mj_go_aload_n (k := 3) (x := v3) rfl (mj_dt dt_X8_says 68 rfl) ?_
                refine mk_getI (c := 6) (k := 2) (Or.inl fd_6_2) (Or.inl fl_X8_161) c2 (mj_dt dt_X8_says 69 rfl) ?_
                obtain rfl := Option.some.inj h
                exact mj_go_ret (v := some (.int (m.1 v3 2))) (Nat.le_of_ble_eq_true rfl) (mj_retI (mj_dt dt_X8_says 70 rfl) rfl)
              · rw [if_neg b9] at h
                refine ⟨172, by decide, ?_⟩
                refine mj_go_aload_n (k := 3) (x := v3) rfl (mj_dt dt_X8_says 71 rfl) ?_
                refine mk_getI (c := 6) (k := 3) (Or.inl fd_6_3) (Or.inl fl_X8_155) c2 (mj_dt dt_X8_says 72 rfl) ?_
                obtain rfl := Option.some.inj h
                exact mj_go_ret (v := some (.int (m.1 v3 3))) (Nat.le_of_ble_eq_true rfl) (mj_retI (mj_dt dt_X8_says 73 rfl) rfl)
  · rw [if_pos b3] at h
    refine mj_go_aload_n (k := 0) (x := 0) rfl (mj_dt dt_X8_says 33 rfl) ?_
    refine mj_go_iconst (v := 3) rfl (mj_dt dt_X8_says 34 rfl) ?_
    obtain ⟨r4, er4, h⟩ := mj_bind_some h
    refine ml_callV (Y' := mY_X8_refuse) (as := [.int 3]) (rest := []) (c := 8) (v := (some (.int r4.1))) (M1 := (mj_fin r4.2)) ho_0 rfl lm_X8_86 wc_X8_refuse pl_X8_refuse ok_X8_refuse rfl rfl (Nat.le_of_ble_eq_true rfl) (k_X8_refuse (by omega) er4) (mj_dt dt_X8_says 35 rfl) ?_
    obtain rfl := Option.some.inj h
    exact mj_go_ret (v := some (.int r4.1)) (Nat.le_of_ble_eq_true rfl) (mj_retI (mj_dt dt_X8_says 36 rfl) rfl)
def f_X8_says (N : Nat) (v1 : Int32) (v2 : Int32) (m : mj_m) : Option (Int32 × mj_m) := (f_X8_isShelf N v1 m).bind (fun r1 => if r1 = 0 then f_X8_says_14 N m else ((f_X8_isKind N v2 m).bind (fun r3 => if r3 = 0 then f_X8_says_14 N m else (mj_ck (mj_b 3 35 v1) ( (f_X6_isRow N (79 + 2 * v1.toNatClampNeg) m).bind (fun r6 => if r6 = 0 then ((f_X6_isRule N (79 + 2 * v1.toNatClampNeg) m).bind (fun r8 => if r8 = 0 then f_X8_says_58 N v2 (79 + 2 * v1.toNatClampNeg) m else ((f_X8_isUnder N (m.1 (79 + 2 * v1.toNatClampNeg) 1) v2 m).bind (fun r10 => if r10 = 0 then f_X8_says_52 N m else f_X8_says_58 N v2 (79 + 2 * v1.toNatClampNeg) m)))) else f_X8_says_52 N m))))))
theorem k_X8_says {L : Nat} {xs : Nat → Int32} {δ N : Nat} {v1 : Int32} {v2 : Int32} {m : mj_m} (hδ : 7 ≤ δ) {a : Int32 × mj_m} (h : f_X8_says N v1 v2 m = some a) : mj_Cl (mj_EX L xs) δ mY_X8_says [.ref 0, .int v1, .int v2] (mj_fin m) (some (.int a.1), (mj_fin a.2)) := by
  obtain ⟨δ, rfl⟩ : ∃ d, δ = d + 1 := ⟨δ - 1, by omega⟩
  have hδ : 6 ≤ δ := by omega
  refine mj_cl_of ok_X8_says (Nat.le_of_ble_eq_true rfl) ?_
  unfold f_X8_says at h
  refine mj_go_iload_n (k := 1) (x := v1) rfl (mj_dt dt_X8_says 0 rfl) ?_
  obtain ⟨r1, er1, h⟩ := mj_bind_some h
  refine ml_callS (Y' := mY_X8_isShelf) (as := [.int v1]) (rest := []) (v := (some (.int r1))) (M1 := (mj_fin m)) lm_X8_82 wc_X8_isShelf pl_X8_isShelf ok_X8_isShelf rfl rfl (Nat.le_of_ble_eq_true rfl) (k_X8_isShelf (by omega) er1) (mj_dt dt_X8_says 1 rfl) ?_
  refine mj_go_if_eq (tgt := 14) rfl (mj_dt dt_X8_says 2 rfl) (fun b2 => ?_) (fun b2 => ?_)
  · rw [if_pos b2] at h
    refine mj_go_sub (lv' := [(0, .ref 0)]) (List.forall_mem_cons.mpr ⟨rfl, (fun _ h9 => absurd h9 List.not_mem_nil)⟩) ?_
    exact k_X8_says_14 hδ h
  · rw [if_neg b2] at h
    refine mj_go_iload_n (k := 2) (x := v2) rfl (mj_dt dt_X8_says 3 rfl) ?_
    obtain ⟨r3, er3, h⟩ := mj_bind_some h
    refine ml_callS (Y' := mY_X8_isKind) (as := [.int v2]) (rest := []) (v := (some (.int r3))) (M1 := (mj_fin m)) lm_X8_128 wc_X8_isKind pl_X8_isKind ok_X8_isKind rfl rfl (Nat.le_of_ble_eq_true rfl) (k_X8_isKind (by omega) er3) (mj_dt dt_X8_says 4 rfl) ?_
    refine mj_go_if_ne (tgt := 20) rfl (mj_dt dt_X8_says 5 rfl) (fun b4 => ?_) (fun b4 => ?_)
    · rw [if_neg b4] at h
      refine mj_go_aload_n (k := 0) (x := 0) rfl (mj_dt dt_X8_says 10 rfl) ?_
      refine ml_getR (c := 8) (k := 2) (q := 35) fd_8_2 rf_0_2 (Or.inl fl_X8_21) ho_0 (mj_dt dt_X8_says 11 rfl) ?_
      refine mj_go_iload_n (k := 1) (x := v1) rfl (mj_dt dt_X8_says 12 rfl) ?_
      obtain ⟨c5, h⟩ := mj_ck_some h
      refine ml_aald3 (q := 79 + 2 * v1.toNatClampNeg) c5 (mj_hs35 c5).1 (mj_dt dt_X8_says 13 rfl) ?_
      refine mj_go_astore_n (k := 3) (by decide) (mj_dt dt_X8_says 14 rfl) ?_
      refine mj_go_aload_n (k := 3) (x := (79 + 2 * v1.toNatClampNeg)) rfl (mj_dt dt_X8_says 15 rfl) ?_
      obtain ⟨r6, er6, h⟩ := mj_bind_some h
      refine ml_callV (Y' := mY_X6_isRow) (as := []) (rest := []) (c := 6) (v := (some (.int r6))) (M1 := (mj_fin m)) (mj_hs35 c5).2 rfl lm_X8_108 wc_X6_isRow pl_X6_isRow ok_X6_isRow rfl rfl (Nat.le_of_ble_eq_true rfl) (k_X6_isRow (by omega) er6) (mj_dt dt_X8_says 16 rfl) ?_
      refine mj_go_if_ne (tgt := 52) rfl (mj_dt dt_X8_says 17 rfl) (fun b7 => ?_) (fun b7 => ?_)
      · rw [if_neg b7] at h
        refine mj_go_sub (lv' := [(0, .ref 0)]) (List.forall_mem_cons.mpr ⟨rfl, (fun _ h9 => absurd h9 List.not_mem_nil)⟩) ?_
        exact k_X8_says_52 hδ h
      · rw [if_pos b7] at h
        refine mj_go_aload_n (k := 3) (x := (79 + 2 * v1.toNatClampNeg)) rfl (mj_dt dt_X8_says 18 rfl) ?_
        obtain ⟨r8, er8, h⟩ := mj_bind_some h
        refine ml_callV (Y' := mY_X6_isRule) (as := []) (rest := []) (c := 6) (v := (some (.int r8))) (M1 := (mj_fin m)) (mj_hs35 c5).2 rfl lm_X8_104 wc_X6_isRule pl_X6_isRule ok_X6_isRule rfl rfl (Nat.le_of_ble_eq_true rfl) (k_X6_isRule (by omega) er8) (mj_dt dt_X8_says 19 rfl) ?_
        refine mj_go_if_eq (tgt := 58) rfl (mj_dt dt_X8_says 20 rfl) (fun b9 => ?_) (fun b9 => ?_)
        · rw [if_pos b9] at h
          refine mj_go_sub (lv' := [(0, .ref 0), (2, .int v2), (3, .ref (79 + 2 * v1.toNatClampNeg))]) (List.forall_mem_cons.mpr ⟨rfl, (List.forall_mem_cons.mpr ⟨rfl, (List.forall_mem_cons.mpr ⟨rfl, (fun _ h9 => absurd h9 List.not_mem_nil)⟩)⟩)⟩) ?_
          exact k_X8_says_58 hδ h
        · rw [if_neg b9] at h
          refine mj_go_aload_n (k := 3) (x := (79 + 2 * v1.toNatClampNeg)) rfl (mj_dt dt_X8_says 21 rfl) ?_
          refine mk_getI (c := 6) (k := 1) (Or.inl fd_6_1) (Or.inl fl_X8_111) (mj_hs35 c5).2 (mj_dt dt_X8_says 22 rfl) ?_
          refine mj_go_iload_n (k := 2) (x := v2) rfl (mj_dt dt_X8_says 23 rfl) ?_
          obtain ⟨r10, er10, h⟩ := mj_bind_some h
          refine ml_callS (Y' := mY_X8_isUnder) (as := [.int (m.1 (79 + 2 * v1.toNatClampNeg) 1), .int v2]) (rest := []) (v := (some (.int r10))) (M1 := (mj_fin m)) lm_X8_145 wc_X8_isUnder pl_X8_isUnder ok_X8_isUnder rfl rfl (Nat.le_of_ble_eq_true rfl) (k_X8_isUnder (by omega) er10) (mj_dt dt_X8_says 24 rfl) ?_
          refine mj_go_if_ne (tgt := 58) rfl (mj_dt dt_X8_says 25 rfl) (fun b11 => ?_) (fun b11 => ?_)
          · rw [if_neg b11] at h
            refine mj_go_sub (lv' := [(0, .ref 0), (2, .int v2), (3, .ref (79 + 2 * v1.toNatClampNeg))]) (List.forall_mem_cons.mpr ⟨rfl, (List.forall_mem_cons.mpr ⟨rfl, (List.forall_mem_cons.mpr ⟨rfl, (fun _ h9 => absurd h9 List.not_mem_nil)⟩)⟩)⟩) ?_
            exact k_X8_says_58 hδ h
          · rw [if_pos b11] at h
            refine mj_go_sub (lv' := [(0, .ref 0)]) (List.forall_mem_cons.mpr ⟨rfl, (fun _ h9 => absurd h9 List.not_mem_nil)⟩) ?_
            exact k_X8_says_52 hδ h
    · rw [if_pos b4] at h
      refine mj_go_sub (lv' := [(0, .ref 0)]) (List.forall_mem_cons.mpr ⟨rfl, (fun _ h9 => absurd h9 List.not_mem_nil)⟩) ?_
      exact k_X8_says_14 hδ h
def f_X9_cutOf_131 (N : Nat) (k_4 : Int32 × Int32 → Option (Int32)) (k_14 : Int32 × Int32 → Option (Int32)) (v1 : Int32) (v2 : Int32) (v3 : Int32) (v4 : Int32) (m : mj_m) : Option (Int32) := mj_mw (v4 + 1) (fun x1 => k_14 (v2, x1))
theorem k_X9_cutOf_131 {L : Nat} {xs : Nat → Int32} {δ N : Nat} {v1 : Int32} {v2 : Int32} {v3 : Int32} {v4 : Int32} {m : mj_m} {k_4 : Int32 × Int32 → Option (Int32)} (q_4 : ∀ (s_ : Int32 × Int32) (a_ : Int32), k_4 s_ = some a_ → mj_Go (mj_EX L xs) δ mY_X9_cutOf 4 [(0, .ref 95), (1, .int v1), (2, .int s_.1), (3, .int s_.2)] [] (mj_fin m) (some (.int a_), (mj_fin m))) {k_14 : Int32 × Int32 → Option (Int32)} (q_14 : ∀ (s_ : Int32 × Int32) (a_ : Int32), k_14 s_ = some a_ → mj_Go (mj_EX L xs) δ mY_X9_cutOf 14 [(0, .ref 95), (1, .int v1), (2, .int s_.1), (3, .int v3), (4, .int s_.2)] [] (mj_fin m) (some (.int a_), (mj_fin m))) {a : Int32} (h : f_X9_cutOf_131 N k_4 k_14 v1 v2 v3 v4 m = some a) : mj_Go (mj_EX L xs) δ mY_X9_cutOf 131 [(0, .ref 95), (1, .int v1), (2, .int v2), (3, .int v3), (4, .int v4)] [] (mj_fin m) (some (.int a), (mj_fin m)) := by
  unfold f_X9_cutOf_131 at h
  obtain ⟨x1, ex1, h⟩ := mj_mw_some h
  refine mj_go_iinc (i := 4) (x := v4) (v := x1) rfl (by rw [ex1] <;> rfl) (by decide) (mj_dt dt_X9_cutOf 81 rfl) ?_
  refine mj_go_goto (tgt := 14) rfl (mj_dt dt_X9_cutOf 82 rfl) ?_
  refine mj_go_sub (lv' := [(0, .ref 95), (1, .int v1), (2, .int v2), (3, .int v3), (4, .int x1)]) (List.forall_mem_cons.mpr ⟨rfl, (List.forall_mem_cons.mpr ⟨rfl, (List.forall_mem_cons.mpr ⟨rfl, (List.forall_mem_cons.mpr ⟨rfl, (List.forall_mem_cons.mpr ⟨rfl, (fun _ h9 => absurd h9 List.not_mem_nil)⟩)⟩)⟩)⟩)⟩) ?_
  exact q_14 _ _ h
def f_X9_cutOf_104 (N : Nat) (k_4 : Int32 × Int32 → Option (Int32)) (k_14 : Int32 × Int32 → Option (Int32)) (v1 : Int32) (v2 : Int32) (v3 : Int32) (v4 : Int32) (m : mj_m) : Option (Int32) := mj_ck (mj_b 0 98 v4) ( if ((v2 >>> ((m.1 98 v4.toNatClampNeg) &&& 31)) &&& 1) = 1 then (mj_ck (mj_b 0 97 v4) ( mj_mw (v2 ||| (1 <<< ((m.1 97 v4.toNatClampNeg) &&& 31))) (fun x4 => f_X9_cutOf_131 N k_4 k_14 v1 x4 v3 v4 m))) else f_X9_cutOf_131 N k_4 k_14 v1 v2 v3 v4 m)
theorem k_X9_cutOf_104 {L : Nat} {xs : Nat → Int32} {δ N : Nat} {v1 : Int32} {v2 : Int32} {v3 : Int32} {v4 : Int32} {m : mj_m} {k_4 : Int32 × Int32 → Option (Int32)} (q_4 : ∀ (s_ : Int32 × Int32) (a_ : Int32), k_4 s_ = some a_ → mj_Go (mj_EX L xs) δ mY_X9_cutOf 4 [(0, .ref 95), (1, .int v1), (2, .int s_.1), (3, .int s_.2)] [] (mj_fin m) (some (.int a_), (mj_fin m))) {k_14 : Int32 × Int32 → Option (Int32)} (q_14 : ∀ (s_ : Int32 × Int32) (a_ : Int32), k_14 s_ = some a_ → mj_Go (mj_EX L xs) δ mY_X9_cutOf 14 [(0, .ref 95), (1, .int v1), (2, .int s_.1), (3, .int v3), (4, .int s_.2)] [] (mj_fin m) (some (.int a_), (mj_fin m))) {a : Int32} (h : f_X9_cutOf_104 N k_4 k_14 v1 v2 v3 v4 m = some a) : mj_Go (mj_EX L xs) δ mY_X9_cutOf 104 [(0, .ref 95), (1, .int v1), (2, .int v2), (3, .int v3), (4, .int v4)] [] (mj_fin m) (some (.int a), (mj_fin m)) := by
  unfold f_X9_cutOf_104 at h
  refine mj_go_iload_n (k := 2) (x := v2) rfl (mj_dt dt_X9_cutOf 62 rfl) ?_
  refine mj_go_aload_n (k := 0) (x := 95) rfl (mj_dt dt_X9_cutOf 63 rfl) ?_
  refine ml_getR (c := 9) (k := 13) (q := 98) fd_9_13 rf_95_13 (Or.inl fl_X9_32) ho_95 (mj_dt dt_X9_cutOf 64 rfl) ?_
  refine mj_go_iload (i := 4) (x := v4) rfl (mj_dt dt_X9_cutOf 65 rfl) ?_
  obtain ⟨c1, h⟩ := mj_ck_some h
  refine mk_iald c1 (mj_dt dt_X9_cutOf 66 rfl) ?_
  refine mj_go_ishr (mj_dt dt_X9_cutOf 67 rfl) ?_
  refine mj_go_iconst (v := 1) rfl (mj_dt dt_X9_cutOf 68 rfl) ?_
  refine mj_go_iand (mj_dt dt_X9_cutOf 69 rfl) ?_
  refine mj_go_iconst (v := 1) rfl (mj_dt dt_X9_cutOf 70 rfl) ?_
  refine mj_go_icmp_ne (tgt := 131) rfl (mj_dt dt_X9_cutOf 71 rfl) (fun b2 => ?_) (fun b2 => ?_)
  · rw [if_neg b2] at h
    refine mj_go_sub (lv' := [(0, .ref 95), (1, .int v1), (2, .int v2), (3, .int v3), (4, .int v4)]) (List.forall_mem_cons.mpr ⟨rfl, (List.forall_mem_cons.mpr ⟨rfl, (List.forall_mem_cons.mpr ⟨rfl, (List.forall_mem_cons.mpr ⟨rfl, (List.forall_mem_cons.mpr ⟨rfl, (fun _ h9 => absurd h9 List.not_mem_nil)⟩)⟩)⟩)⟩)⟩) ?_
    exact k_X9_cutOf_131 q_4 q_14 h
  · rw [if_pos b2] at h
    refine mj_go_iload_n (k := 2) (x := v2) rfl (mj_dt dt_X9_cutOf 72 rfl) ?_
    refine mj_go_iconst (v := 1) rfl (mj_dt dt_X9_cutOf 73 rfl) ?_
    refine mj_go_aload_n (k := 0) (x := 95) rfl (mj_dt dt_X9_cutOf 74 rfl) ?_
    refine ml_getR (c := 9) (k := 12) (q := 97) fd_9_12 rf_95_12 (Or.inl fl_X9_29) ho_95 (mj_dt dt_X9_cutOf 75 rfl) ?_
    refine mj_go_iload (i := 4) (x := v4) rfl (mj_dt dt_X9_cutOf 76 rfl) ?_
    obtain ⟨c3, h⟩ := mj_ck_some h
    refine mk_iald c3 (mj_dt dt_X9_cutOf 77 rfl) ?_
    refine mj_go_ishl (mj_dt dt_X9_cutOf 78 rfl) ?_
    refine mj_go_ior (mj_dt dt_X9_cutOf 79 rfl) ?_
    obtain ⟨x4, ex4, h⟩ := mj_mw_some h
    refine ml_eqi ex4 ?_
    refine mj_go_istore_n (k := 2) (by decide) (mj_dt dt_X9_cutOf 80 rfl) ?_
    refine mj_go_sub (lv' := [(0, .ref 95), (1, .int v1), (2, .int x4), (3, .int v3), (4, .int v4)]) (List.forall_mem_cons.mpr ⟨rfl, (List.forall_mem_cons.mpr ⟨rfl, (List.forall_mem_cons.mpr ⟨rfl, (List.forall_mem_cons.mpr ⟨rfl, (List.forall_mem_cons.mpr ⟨rfl, (fun _ h9 => absurd h9 List.not_mem_nil)⟩)⟩)⟩)⟩)⟩) ?_
    exact k_X9_cutOf_131 q_4 q_14 h
def f_X9_cutOf_63 (N : Nat) (k_4 : Int32 × Int32 → Option (Int32)) (k_14 : Int32 × Int32 → Option (Int32)) (k_29 : Int32 × Int32 → Option (Int32)) (v1 : Int32) (v2 : Int32) (v3 : Int32) (v4 : Int32) (v5 : Int32) (v6 : Int32) (m : mj_m) : Option (Int32) := mj_mw (v6 + 1) (fun x1 => k_29 (v5, x1))
theorem k_X9_cutOf_63 {L : Nat} {xs : Nat → Int32} {δ N : Nat} {v1 : Int32} {v2 : Int32} {v3 : Int32} {v4 : Int32} {v5 : Int32} {v6 : Int32} {m : mj_m} {k_4 : Int32 × Int32 → Option (Int32)} (q_4 : ∀ (s_ : Int32 × Int32) (a_ : Int32), k_4 s_ = some a_ → mj_Go (mj_EX L xs) δ mY_X9_cutOf 4 [(0, .ref 95), (1, .int v1), (2, .int s_.1), (3, .int s_.2)] [] (mj_fin m) (some (.int a_), (mj_fin m))) {k_14 : Int32 × Int32 → Option (Int32)} (q_14 : ∀ (s_ : Int32 × Int32) (a_ : Int32), k_14 s_ = some a_ → mj_Go (mj_EX L xs) δ mY_X9_cutOf 14 [(0, .ref 95), (1, .int v1), (2, .int s_.1), (3, .int v3), (4, .int s_.2)] [] (mj_fin m) (some (.int a_), (mj_fin m))) {k_29 : Int32 × Int32 → Option (Int32)} (q_29 : ∀ (s_ : Int32 × Int32) (a_ : Int32), k_29 s_ = some a_ → mj_Go (mj_EX L xs) δ mY_X9_cutOf 29 [(0, .ref 95), (1, .int v1), (2, .int v2), (3, .int v3), (4, .int v4), (5, .int s_.1), (6, .int s_.2)] [] (mj_fin m) (some (.int a_), (mj_fin m))) {a : Int32} (h : f_X9_cutOf_63 N k_4 k_14 k_29 v1 v2 v3 v4 v5 v6 m = some a) : mj_Go (mj_EX L xs) δ mY_X9_cutOf 63 [(0, .ref 95), (1, .int v1), (2, .int v2), (3, .int v3), (4, .int v4), (5, .int v5), (6, .int v6)] [] (mj_fin m) (some (.int a), (mj_fin m)) := by
  unfold f_X9_cutOf_63 at h
  obtain ⟨x1, ex1, h⟩ := mj_mw_some h
  refine mj_go_iinc (i := 6) (x := v6) (v := x1) rfl (by rw [ex1] <;> rfl) (by decide) (mj_dt dt_X9_cutOf 38 rfl) ?_
  refine mj_go_goto (tgt := 29) rfl (mj_dt dt_X9_cutOf 39 rfl) ?_
  refine mj_go_sub (lv' := [(0, .ref 95), (1, .int v1), (2, .int v2), (3, .int v3), (4, .int v4), (5, .int v5), (6, .int x1)]) (List.forall_mem_cons.mpr ⟨rfl, (List.forall_mem_cons.mpr ⟨rfl, (List.forall_mem_cons.mpr ⟨rfl, (List.forall_mem_cons.mpr ⟨rfl, (List.forall_mem_cons.mpr ⟨rfl, (List.forall_mem_cons.mpr ⟨rfl, (List.forall_mem_cons.mpr ⟨rfl, (fun _ h9 => absurd h9 List.not_mem_nil)⟩)⟩)⟩)⟩)⟩)⟩)⟩) ?_
  exact q_29 _ _ h
def f_X9_cutOf_29 (N : Nat) (k_4 : Int32 × Int32 → Option (Int32)) (k_14 : Int32 × Int32 → Option (Int32)) (v1 : Int32) (v2 : Int32) (v3 : Int32) (v4 : Int32) (m : mj_m) (k_29 : Int32 × Int32 → Option (Int32)) (s : Int32 × Int32) : Option (Int32) := if (m.1 95 1) ≤ s.2 then (if s.1 = 0 then (f_X9_cutOf_131 N k_4 k_14 v1 v2 v3 v4 m) else (mj_ck (mj_b 0 97 v4) ( if ((v2 >>> ((m.1 97 v4.toNatClampNeg) &&& 31)) &&& 1) = 1 then (mj_ck (mj_b 0 98 v4) ( mj_mw (v2 ||| (1 <<< ((m.1 98 v4.toNatClampNeg) &&& 31))) (fun x6 => f_X9_cutOf_104 N k_4 k_14 v1 x6 v3 v4 m))) else f_X9_cutOf_104 N k_4 k_14 v1 v2 v3 v4 m))) else (if ((v1 >>> (s.2 &&& 31)) &&& 1) = 1 then (mj_ck (mj_b 0 106 s.2) ( if (m.1 106 s.2.toNatClampNeg) = v4 then (f_X9_cutOf_63 N k_4 k_14 k_29 v1 v2 v3 v4 0 s.2 m) else f_X9_cutOf_63 N k_4 k_14 k_29 v1 v2 v3 v4 s.1 s.2 m)) else f_X9_cutOf_63 N k_4 k_14 k_29 v1 v2 v3 v4 s.1 s.2 m)
theorem k_X9_cutOf_29 {L : Nat} {xs : Nat → Int32} {δ N : Nat} {v1 : Int32} {v2 : Int32} {v3 : Int32} {v4 : Int32} {m : mj_m} {k_4 : Int32 × Int32 → Option (Int32)} (q_4 : ∀ (s_ : Int32 × Int32) (a_ : Int32), k_4 s_ = some a_ → mj_Go (mj_EX L xs) δ mY_X9_cutOf 4 [(0, .ref 95), (1, .int v1), (2, .int s_.1), (3, .int s_.2)] [] (mj_fin m) (some (.int a_), (mj_fin m))) {k_14 : Int32 × Int32 → Option (Int32)} (q_14 : ∀ (s_ : Int32 × Int32) (a_ : Int32), k_14 s_ = some a_ → mj_Go (mj_EX L xs) δ mY_X9_cutOf 14 [(0, .ref 95), (1, .int v1), (2, .int s_.1), (3, .int v3), (4, .int s_.2)] [] (mj_fin m) (some (.int a_), (mj_fin m))) : ∀ (n : Nat) (s : Int32 × Int32) (a : Int32), mj_lp n (f_X9_cutOf_29 N k_4 k_14 v1 v2 v3 v4 m) s = some a → mj_Go (mj_EX L xs) δ mY_X9_cutOf 29 [(0, .ref 95), (1, .int v1), (2, .int v2), (3, .int v3), (4, .int v4), (5, .int s.1), (6, .int s.2)] [] (mj_fin m) (some (.int a), (mj_fin m)) := by
  refine mj_lp_sound (fun k_29 s a q_29 h => ?_)
  unfold f_X9_cutOf_29 at h
  refine mj_go_iload (i := 6) (x := s.2) rfl (mj_dt dt_X9_cutOf 19 rfl) ?_
  refine mj_go_aload_n (k := 0) (x := 95) rfl (mj_dt dt_X9_cutOf 20 rfl) ?_
  refine mk_getI (c := 9) (k := 1) (Or.inl fd_9_1) (Or.inl fl_X9_124) ho_95 (mj_dt dt_X9_cutOf 21 rfl) ?_
  refine mj_go_icmp_ge (tgt := 69) rfl (mj_dt dt_X9_cutOf 22 rfl) (fun b1 => ?_) (fun b1 => ?_)
  · rw [if_pos b1] at h
    refine mj_go_iload (i := 5) (x := s.1) rfl (mj_dt dt_X9_cutOf 40 rfl) ?_
    refine mj_go_if_ne (tgt := 77) rfl (mj_dt dt_X9_cutOf 41 rfl) (fun b2 => ?_) (fun b2 => ?_)
    · rw [if_neg b2] at h
      refine mj_go_iload_n (k := 2) (x := v2) rfl (mj_dt dt_X9_cutOf 43 rfl) ?_
      refine mj_go_aload_n (k := 0) (x := 95) rfl (mj_dt dt_X9_cutOf 44 rfl) ?_
      refine ml_getR (c := 9) (k := 12) (q := 97) fd_9_12 rf_95_12 (Or.inl fl_X9_29) ho_95 (mj_dt dt_X9_cutOf 45 rfl) ?_
      refine mj_go_iload (i := 4) (x := v4) rfl (mj_dt dt_X9_cutOf 46 rfl) ?_
      obtain ⟨c3, h⟩ := mj_ck_some h
      refine mk_iald c3 (mj_dt dt_X9_cutOf 47 rfl) ?_
      refine mj_go_ishr (mj_dt dt_X9_cutOf 48 rfl) ?_
      refine mj_go_iconst (v := 1) rfl (mj_dt dt_X9_cutOf 49 rfl) ?_
      refine mj_go_iand (mj_dt dt_X9_cutOf 50 rfl) ?_
      refine mj_go_iconst (v := 1) rfl (mj_dt dt_X9_cutOf 51 rfl) ?_
      refine mj_go_icmp_ne (tgt := 104) rfl (mj_dt dt_X9_cutOf 52 rfl) (fun b4 => ?_) (fun b4 => ?_)
      · rw [if_neg b4] at h
        refine mj_go_sub (lv' := [(0, .ref 95), (1, .int v1), (2, .int v2), (3, .int v3), (4, .int v4)]) (List.forall_mem_cons.mpr ⟨rfl, (List.forall_mem_cons.mpr ⟨rfl, (List.forall_mem_cons.mpr ⟨rfl, (List.forall_mem_cons.mpr ⟨rfl, (List.forall_mem_cons.mpr ⟨rfl, (fun _ h9 => absurd h9 List.not_mem_nil)⟩)⟩)⟩)⟩)⟩) ?_
        exact k_X9_cutOf_104 q_4 q_14 h
      · rw [if_pos b4] at h
        refine mj_go_iload_n (k := 2) (x := v2) rfl (mj_dt dt_X9_cutOf 53 rfl) ?_
        refine mj_go_iconst (v := 1) rfl (mj_dt dt_X9_cutOf 54 rfl) ?_
        refine mj_go_aload_n (k := 0) (x := 95) rfl (mj_dt dt_X9_cutOf 55 rfl) ?_
        refine ml_getR (c := 9) (k := 13) (q := 98) fd_9_13 rf_95_13 (Or.inl fl_X9_32) ho_95 (mj_dt dt_X9_cutOf 56 rfl) ?_
        refine mj_go_iload (i := 4) (x := v4) rfl (mj_dt dt_X9_cutOf 57 rfl) ?_
        obtain ⟨c5, h⟩ := mj_ck_some h
        refine mk_iald c5 (mj_dt dt_X9_cutOf 58 rfl) ?_
        refine mj_go_ishl (mj_dt dt_X9_cutOf 59 rfl) ?_
        refine mj_go_ior (mj_dt dt_X9_cutOf 60 rfl) ?_
        obtain ⟨x6, ex6, h⟩ := mj_mw_some h
        refine ml_eqi ex6 ?_
        refine mj_go_istore_n (k := 2) (by decide) (mj_dt dt_X9_cutOf 61 rfl) ?_
        refine mj_go_sub (lv' := [(0, .ref 95), (1, .int v1), (2, .int x6), (3, .int v3), (4, .int v4)]) (List.forall_mem_cons.mpr ⟨rfl, (List.forall_mem_cons.mpr ⟨rfl, (List.forall_mem_cons.mpr ⟨rfl, (List.forall_mem_cons.mpr ⟨rfl, (List.forall_mem_cons.mpr ⟨rfl, (fun _ h9 => absurd h9 List.not_mem_nil)⟩)⟩)⟩)⟩)⟩) ?_
        exact k_X9_cutOf_104 q_4 q_14 h
    · rw [if_pos b2] at h
      refine mj_go_goto (tgt := 131) rfl (mj_dt dt_X9_cutOf 42 rfl) ?_
      refine mj_go_sub (lv' := [(0, .ref 95), (1, .int v1), (2, .int v2), (3, .int v3), (4, .int v4)]) (List.forall_mem_cons.mpr ⟨rfl, (List.forall_mem_cons.mpr ⟨rfl, (List.forall_mem_cons.mpr ⟨rfl, (List.forall_mem_cons.mpr ⟨rfl, (List.forall_mem_cons.mpr ⟨rfl, (fun _ h9 => absurd h9 List.not_mem_nil)⟩)⟩)⟩)⟩)⟩) ?_
      exact k_X9_cutOf_131 q_4 q_14 h
  · rw [if_neg b1] at h
    refine mj_go_iload_n (k := 1) (x := v1) rfl (mj_dt dt_X9_cutOf 23 rfl) ?_
    refine mj_go_iload (i := 6) (x := s.2) rfl (mj_dt dt_X9_cutOf 24 rfl) ?_
    refine mj_go_ishr (mj_dt dt_X9_cutOf 25 rfl) ?_
    refine mj_go_iconst (v := 1) rfl (mj_dt dt_X9_cutOf 26 rfl) ?_
    refine mj_go_iand (mj_dt dt_X9_cutOf 27 rfl) ?_
    refine mj_go_iconst (v := 1) rfl (mj_dt dt_X9_cutOf 28 rfl) ?_
    refine mj_go_icmp_ne (tgt := 63) rfl (mj_dt dt_X9_cutOf 29 rfl) (fun b2 => ?_) (fun b2 => ?_)
    · rw [if_neg b2] at h
      refine mj_go_sub (lv' := [(0, .ref 95), (1, .int v1), (2, .int v2), (3, .int v3), (4, .int v4), (5, .int s.1), (6, .int s.2)]) (List.forall_mem_cons.mpr ⟨rfl, (List.forall_mem_cons.mpr ⟨rfl, (List.forall_mem_cons.mpr ⟨rfl, (List.forall_mem_cons.mpr ⟨rfl, (List.forall_mem_cons.mpr ⟨rfl, (List.forall_mem_cons.mpr ⟨rfl, (List.forall_mem_cons.mpr ⟨rfl, (fun _ h9 => absurd h9 List.not_mem_nil)⟩)⟩)⟩)⟩)⟩)⟩)⟩) ?_
      exact k_X9_cutOf_63 q_4 q_14 q_29 h
    · rw [if_pos b2] at h
      refine mj_go_aload_n (k := 0) (x := 95) rfl (mj_dt dt_X9_cutOf 30 rfl) ?_
      refine ml_getR (c := 9) (k := 21) (q := 106) fd_9_21 rf_95_21 (Or.inl fl_X9_56) ho_95 (mj_dt dt_X9_cutOf 31 rfl) ?_
      refine mj_go_iload (i := 6) (x := s.2) rfl (mj_dt dt_X9_cutOf 32 rfl) ?_
      obtain ⟨c3, h⟩ := mj_ck_some h
      refine mk_iald c3 (mj_dt dt_X9_cutOf 33 rfl) ?_
      refine mj_go_iload (i := 4) (x := v4) rfl (mj_dt dt_X9_cutOf 34 rfl) ?_
      refine mj_go_icmp_ne (tgt := 63) rfl (mj_dt dt_X9_cutOf 35 rfl) (fun b4 => ?_) (fun b4 => ?_)
      · rw [if_neg b4] at h
        refine mj_go_sub (lv' := [(0, .ref 95), (1, .int v1), (2, .int v2), (3, .int v3), (4, .int v4), (5, .int s.1), (6, .int s.2)]) (List.forall_mem_cons.mpr ⟨rfl, (List.forall_mem_cons.mpr ⟨rfl, (List.forall_mem_cons.mpr ⟨rfl, (List.forall_mem_cons.mpr ⟨rfl, (List.forall_mem_cons.mpr ⟨rfl, (List.forall_mem_cons.mpr ⟨rfl, (List.forall_mem_cons.mpr ⟨rfl, (fun _ h9 => absurd h9 List.not_mem_nil)⟩)⟩)⟩)⟩)⟩)⟩)⟩) ?_
        exact k_X9_cutOf_63 q_4 q_14 q_29 h
      · rw [if_pos b4] at h
        refine mj_go_iconst (v := 0) rfl (mj_dt dt_X9_cutOf 36 rfl) ?_
        refine mj_go_istore (i := 5) (by decide) (mj_dt dt_X9_cutOf 37 rfl) ?_
        refine mj_go_sub (lv' := [(0, .ref 95), (1, .int v1), (2, .int v2), (3, .int v3), (4, .int v4), (5, .int 0), (6, .int s.2)]) (List.forall_mem_cons.mpr ⟨rfl, (List.forall_mem_cons.mpr ⟨rfl, (List.forall_mem_cons.mpr ⟨rfl, (List.forall_mem_cons.mpr ⟨rfl, (List.forall_mem_cons.mpr ⟨rfl, (List.forall_mem_cons.mpr ⟨rfl, (List.forall_mem_cons.mpr ⟨rfl, (fun _ h9 => absurd h9 List.not_mem_nil)⟩)⟩)⟩)⟩)⟩)⟩)⟩) ?_
        exact k_X9_cutOf_63 q_4 q_14 q_29 h
def f_X9_cutOf_14 (N : Nat) (k_4 : Int32 × Int32 → Option (Int32)) (v1 : Int32) (v3 : Int32) (m : mj_m) (k_14 : Int32 × Int32 → Option (Int32)) (s : Int32 × Int32) : Option (Int32) := if (m.1 95 0) ≤ s.2 then (k_4 (s.1, v3)) else (mj_lp N (f_X9_cutOf_29 N k_4 k_14 v1 s.1 v3 s.2 m) (1, 0))
theorem k_X9_cutOf_14 {L : Nat} {xs : Nat → Int32} {δ N : Nat} {v1 : Int32} {v3 : Int32} {m : mj_m} {k_4 : Int32 × Int32 → Option (Int32)} (q_4 : ∀ (s_ : Int32 × Int32) (a_ : Int32), k_4 s_ = some a_ → mj_Go (mj_EX L xs) δ mY_X9_cutOf 4 [(0, .ref 95), (1, .int v1), (2, .int s_.1), (3, .int s_.2)] [] (mj_fin m) (some (.int a_), (mj_fin m))) : ∀ (n : Nat) (s : Int32 × Int32) (a : Int32), mj_lp n (f_X9_cutOf_14 N k_4 v1 v3 m) s = some a → mj_Go (mj_EX L xs) δ mY_X9_cutOf 14 [(0, .ref 95), (1, .int v1), (2, .int s.1), (3, .int v3), (4, .int s.2)] [] (mj_fin m) (some (.int a), (mj_fin m)) := by
  refine mj_lp_sound (fun k_14 s a q_14 h => ?_)
  unfold f_X9_cutOf_14 at h
  refine mj_go_iload (i := 4) (x := s.2) rfl (mj_dt dt_X9_cutOf 11 rfl) ?_
  refine mj_go_aload_n (k := 0) (x := 95) rfl (mj_dt dt_X9_cutOf 12 rfl) ?_
  refine mk_getI (c := 9) (k := 0) (Or.inl fd_9_0) (Or.inl fl_X9_149) ho_95 (mj_dt dt_X9_cutOf 13 rfl) ?_
  refine mj_go_icmp_ge (tgt := 137) rfl (mj_dt dt_X9_cutOf 14 rfl) (fun b1 => ?_) (fun b1 => ?_)
  · rw [if_pos b1] at h
    refine mj_go_goto (tgt := 4) rfl (mj_dt dt_X9_cutOf 83 rfl) ?_
    refine mj_go_sub (lv' := [(0, .ref 95), (1, .int v1), (2, .int s.1), (3, .int v3)]) (List.forall_mem_cons.mpr ⟨rfl, (List.forall_mem_cons.mpr ⟨rfl, (List.forall_mem_cons.mpr ⟨rfl, (List.forall_mem_cons.mpr ⟨rfl, (fun _ h9 => absurd h9 List.not_mem_nil)⟩)⟩)⟩)⟩) ?_
    exact q_4 _ _ h
  · rw [if_neg b1] at h
    refine mj_go_iconst (v := 1) rfl (mj_dt dt_X9_cutOf 15 rfl) ?_
    refine mj_go_istore (i := 5) (by decide) (mj_dt dt_X9_cutOf 16 rfl) ?_
    refine mj_go_iconst (v := 0) rfl (mj_dt dt_X9_cutOf 17 rfl) ?_
    refine mj_go_istore (i := 6) (by decide) (mj_dt dt_X9_cutOf 18 rfl) ?_
    refine mj_go_sub (lv' := [(0, .ref 95), (1, .int v1), (2, .int s.1), (3, .int v3), (4, .int s.2), (5, .int 1), (6, .int 0)]) (List.forall_mem_cons.mpr ⟨rfl, (List.forall_mem_cons.mpr ⟨rfl, (List.forall_mem_cons.mpr ⟨rfl, (List.forall_mem_cons.mpr ⟨rfl, (List.forall_mem_cons.mpr ⟨rfl, (List.forall_mem_cons.mpr ⟨rfl, (List.forall_mem_cons.mpr ⟨rfl, (fun _ h9 => absurd h9 List.not_mem_nil)⟩)⟩)⟩)⟩)⟩)⟩)⟩) ?_
    exact k_X9_cutOf_29 q_4 q_14 N _ _ h
def f_X9_cutOf_4 (N : Nat) (v1 : Int32) (m : mj_m) (k_4 : Int32 × Int32 → Option (Int32)) (s : Int32 × Int32) : Option (Int32) := if s.2 = s.1 then (some (255 &&& (s.1 ^^^ (-1 : Int32)))) else (mj_lp N (f_X9_cutOf_14 N k_4 v1 s.1 m) (s.1, 0))
theorem k_X9_cutOf_4 {L : Nat} {xs : Nat → Int32} {δ N : Nat} {v1 : Int32} {m : mj_m} : ∀ (n : Nat) (s : Int32 × Int32) (a : Int32), mj_lp n (f_X9_cutOf_4 N v1 m) s = some a → mj_Go (mj_EX L xs) δ mY_X9_cutOf 4 [(0, .ref 95), (1, .int v1), (2, .int s.1), (3, .int s.2)] [] (mj_fin m) (some (.int a), (mj_fin m)) := by
  refine mj_lp_sound (fun k_4 s a q_4 h => ?_)
  unfold f_X9_cutOf_4 at h
  refine mj_go_iload_n (k := 3) (x := s.2) rfl (mj_dt dt_X9_cutOf 4 rfl) ?_
  refine mj_go_iload_n (k := 2) (x := s.1) rfl (mj_dt dt_X9_cutOf 5 rfl) ?_
  refine mj_go_icmp_eq (tgt := 140) rfl (mj_dt dt_X9_cutOf 6 rfl) (fun b1 => ?_) (fun b1 => ?_)
  · rw [if_pos b1] at h
    refine mj_go_sipush (v := 255) rfl (mj_dt dt_X9_cutOf 84 rfl) ?_
    refine mj_go_iload_n (k := 2) (x := s.1) rfl (mj_dt dt_X9_cutOf 85 rfl) ?_
    refine mj_go_iconst (v := -1) rfl (mj_dt dt_X9_cutOf 86 rfl) ?_
    refine mj_go_ixor (mj_dt dt_X9_cutOf 87 rfl) ?_
    refine mj_go_iand (mj_dt dt_X9_cutOf 88 rfl) ?_
    obtain rfl := Option.some.inj h
    exact mj_go_ret (v := some (.int (255 &&& (s.1 ^^^ (-1 : Int32))))) (Nat.le_of_ble_eq_true rfl) (mj_retI (mj_dt dt_X9_cutOf 89 rfl) rfl)
  · rw [if_neg b1] at h
    refine mj_go_iload_n (k := 2) (x := s.1) rfl (mj_dt dt_X9_cutOf 7 rfl) ?_
    refine mj_go_istore_n (k := 3) (by decide) (mj_dt dt_X9_cutOf 8 rfl) ?_
    refine mj_go_iconst (v := 0) rfl (mj_dt dt_X9_cutOf 9 rfl) ?_
    refine mj_go_istore (i := 4) (by decide) (mj_dt dt_X9_cutOf 10 rfl) ?_
    refine mj_go_sub (lv' := [(0, .ref 95), (1, .int v1), (2, .int s.1), (3, .int s.1), (4, .int 0)]) (List.forall_mem_cons.mpr ⟨rfl, (List.forall_mem_cons.mpr ⟨rfl, (List.forall_mem_cons.mpr ⟨rfl, (List.forall_mem_cons.mpr ⟨rfl, (List.forall_mem_cons.mpr ⟨rfl, (fun _ h9 => absurd h9 List.not_mem_nil)⟩)⟩)⟩)⟩)⟩) ?_
    exact k_X9_cutOf_14 q_4 N _ _ h
def f_X9_cutOf (N : Nat) (v1 : Int32) (m : mj_m) : Option (Int32) := mj_lp N (f_X9_cutOf_4 N v1 m) (1, 0)
theorem k_X9_cutOf {L : Nat} {xs : Nat → Int32} {δ N : Nat} {v1 : Int32} {m : mj_m} (_ : 0 ≤ δ) {a : Int32} (h : f_X9_cutOf N v1 m = some a) : mj_Cl (mj_EX L xs) δ mY_X9_cutOf [.ref 95, .int v1] (mj_fin m) (some (.int a), (mj_fin m)) := by
  refine mj_cl_of ok_X9_cutOf (Nat.le_of_ble_eq_true rfl) ?_
  unfold f_X9_cutOf at h
  refine mj_go_iconst (v := 1) rfl (mj_dt dt_X9_cutOf 0 rfl) ?_
  refine mj_go_istore_n (k := 2) (by decide) (mj_dt dt_X9_cutOf 1 rfl) ?_
  refine mj_go_iconst (v := 0) rfl (mj_dt dt_X9_cutOf 2 rfl) ?_
  refine mj_go_istore_n (k := 3) (by decide) (mj_dt dt_X9_cutOf 3 rfl) ?_
  refine mj_go_sub (lv' := [(0, .ref 95), (1, .int v1), (2, .int 1), (3, .int 0)]) (List.forall_mem_cons.mpr ⟨rfl, (List.forall_mem_cons.mpr ⟨rfl, (List.forall_mem_cons.mpr ⟨rfl, (List.forall_mem_cons.mpr ⟨rfl, (fun _ h9 => absurd h9 List.not_mem_nil)⟩)⟩)⟩)⟩) ?_
  exact k_X9_cutOf_4 N _ _ h
def f_X9_people (N : Nat) (v1 : Int32) (v2 : Int32) (m : mj_m) : Option (Int32) := if v2 = 0 then (mj_ck (mj_b 0 103 v1) ( (some (m.1 103 v1.toNatClampNeg)))) else (if v2 = 1 then (mj_ck (mj_b 0 104 v1) ( (some (m.1 104 v1.toNatClampNeg)))) else (mj_ck (mj_b 0 103 v1) ( mj_ck (mj_b 0 104 v1) ( (some (((m.1 95 5) * (m.1 103 v1.toNatClampNeg)) + ((10 - (m.1 95 5)) * (m.1 104 v1.toNatClampNeg))))))))
theorem k_X9_people {L : Nat} {xs : Nat → Int32} {δ N : Nat} {v1 : Int32} {v2 : Int32} {m : mj_m} (_ : 0 ≤ δ) {a : Int32} (h : f_X9_people N v1 v2 m = some a) : mj_Cl (mj_EX L xs) δ mY_X9_people [.ref 95, .int v1, .int v2] (mj_fin m) (some (.int a), (mj_fin m)) := by
  refine mj_cl_of ok_X9_people (Nat.le_of_ble_eq_true rfl) ?_
  unfold f_X9_people at h
  refine mj_go_iload_n (k := 2) (x := v2) rfl (mj_dt dt_X9_people 0 rfl) ?_
  refine mj_go_if_ne (tgt := 13) rfl (mj_dt dt_X9_people 1 rfl) (fun b1 => ?_) (fun b1 => ?_)
  · rw [if_neg b1] at h
    refine mj_go_iload_n (k := 2) (x := v2) rfl (mj_dt dt_X9_people 7 rfl) ?_
    refine mj_go_iconst (v := 1) rfl (mj_dt dt_X9_people 8 rfl) ?_
    refine mj_go_icmp_ne (tgt := 27) rfl (mj_dt dt_X9_people 9 rfl) (fun b2 => ?_) (fun b2 => ?_)
    · rw [if_neg b2] at h
      refine mj_go_aload_n (k := 0) (x := 95) rfl (mj_dt dt_X9_people 15 rfl) ?_
      refine mk_getI (c := 9) (k := 5) (Or.inl fd_9_5) (Or.inl fl_X9_16) ho_95 (mj_dt dt_X9_people 16 rfl) ?_
      refine mj_go_aload_n (k := 0) (x := 95) rfl (mj_dt dt_X9_people 17 rfl) ?_
      refine ml_getR (c := 9) (k := 18) (q := 103) fd_9_18 rf_95_18 (Or.inl fl_X9_47) ho_95 (mj_dt dt_X9_people 18 rfl) ?_
      refine mj_go_iload_n (k := 1) (x := v1) rfl (mj_dt dt_X9_people 19 rfl) ?_
      obtain ⟨c3, h⟩ := mj_ck_some h
      refine mk_iald c3 (mj_dt dt_X9_people 20 rfl) ?_
      refine mj_go_imul (mj_dt dt_X9_people 21 rfl) ?_
      refine mj_go_bipush (v := 10) rfl (mj_dt dt_X9_people 22 rfl) ?_
      refine mj_go_aload_n (k := 0) (x := 95) rfl (mj_dt dt_X9_people 23 rfl) ?_
      refine mk_getI (c := 9) (k := 5) (Or.inl fd_9_5) (Or.inl fl_X9_16) ho_95 (mj_dt dt_X9_people 24 rfl) ?_
      refine mj_go_isub (mj_dt dt_X9_people 25 rfl) ?_
      refine mj_go_aload_n (k := 0) (x := 95) rfl (mj_dt dt_X9_people 26 rfl) ?_
      refine ml_getR (c := 9) (k := 19) (q := 104) fd_9_19 rf_95_19 (Or.inl fl_X9_50) ho_95 (mj_dt dt_X9_people 27 rfl) ?_
      refine mj_go_iload_n (k := 1) (x := v1) rfl (mj_dt dt_X9_people 28 rfl) ?_
      obtain ⟨c4, h⟩ := mj_ck_some h
      refine mk_iald c4 (mj_dt dt_X9_people 29 rfl) ?_
      refine mj_go_imul (mj_dt dt_X9_people 30 rfl) ?_
      refine mj_go_iadd (mj_dt dt_X9_people 31 rfl) ?_
      obtain rfl := Option.some.inj h
      exact mj_go_ret (v := some (.int (((m.1 95 5) * (m.1 103 v1.toNatClampNeg)) + ((10 - (m.1 95 5)) * (m.1 104 v1.toNatClampNeg))))) (Nat.le_of_ble_eq_true rfl) (mj_retI (mj_dt dt_X9_people 32 rfl) rfl)
    · rw [if_pos b2] at h
      refine mj_go_aload_n (k := 0) (x := 95) rfl (mj_dt dt_X9_people 10 rfl) ?_
      refine ml_getR (c := 9) (k := 19) (q := 104) fd_9_19 rf_95_19 (Or.inl fl_X9_50) ho_95 (mj_dt dt_X9_people 11 rfl) ?_
      refine mj_go_iload_n (k := 1) (x := v1) rfl (mj_dt dt_X9_people 12 rfl) ?_
      obtain ⟨c3, h⟩ := mj_ck_some h
      refine mk_iald c3 (mj_dt dt_X9_people 13 rfl) ?_
      refine mj_go_goto (tgt := 53) rfl (mj_dt dt_X9_people 14 rfl) ?_
      obtain rfl := Option.some.inj h
      exact mj_go_ret (v := some (.int (m.1 104 v1.toNatClampNeg))) (Nat.le_of_ble_eq_true rfl) (mj_retI (mj_dt dt_X9_people 32 rfl) rfl)
  · rw [if_pos b1] at h
    refine mj_go_aload_n (k := 0) (x := 95) rfl (mj_dt dt_X9_people 2 rfl) ?_
    refine ml_getR (c := 9) (k := 18) (q := 103) fd_9_18 rf_95_18 (Or.inl fl_X9_47) ho_95 (mj_dt dt_X9_people 3 rfl) ?_
    refine mj_go_iload_n (k := 1) (x := v1) rfl (mj_dt dt_X9_people 4 rfl) ?_
    obtain ⟨c2, h⟩ := mj_ck_some h
    refine mk_iald c2 (mj_dt dt_X9_people 5 rfl) ?_
    refine mj_go_goto (tgt := 53) rfl (mj_dt dt_X9_people 6 rfl) ?_
    obtain rfl := Option.some.inj h
    exact mj_go_ret (v := some (.int (m.1 103 v1.toNatClampNeg))) (Nat.le_of_ble_eq_true rfl) (mj_retI (mj_dt dt_X9_people 32 rfl) rfl)
def f_X9_worthsBy_107 (N : Nat) (k_2 : Int32 × mj_m → Option (mj_m)) (k_33 : Int64 × Int32 → Option (mj_m)) (v1 : Int32) (v2 : Int32) (v3 : Int32) (v4 : Int32) (v5 : Int64) (v7 : Int32) (m : mj_m) : Option (mj_m) := mj_mw (v7 + 1) (fun x1 => k_33 (v5, x1))
theorem k_X9_worthsBy_107 {L : Nat} {xs : Nat → Int32} {δ N : Nat} {v1 : Int32} {v2 : Int32} {v3 : Int32} {v4 : Int32} {v5 : Int64} {v7 : Int32} {m : mj_m} {k_2 : Int32 × mj_m → Option (mj_m)} (q_2 : ∀ (s_ : Int32 × mj_m) (a_ : mj_m), k_2 s_ = some a_ → mj_Go (mj_EX L xs) (δ + 1) mY_X9_worthsBy 2 [(0, .ref 95), (1, .int v1), (2, .int v2), (3, .int s_.1)] [] (mj_fin s_.2) (none, (mj_fin a_))) {k_33 : Int64 × Int32 → Option (mj_m)} (q_33 : ∀ (s_ : Int64 × Int32) (a_ : mj_m), k_33 s_ = some a_ → mj_Go (mj_EX L xs) (δ + 1) mY_X9_worthsBy 33 [(0, .ref 95), (1, .int v1), (2, .int v2), (3, .int v3), (4, .int v4), (5, .long s_.1), (7, .int s_.2)] [] (mj_fin m) (none, (mj_fin a_))) (hδ : 0 ≤ δ) {a : mj_m} (h : f_X9_worthsBy_107 N k_2 k_33 v1 v2 v3 v4 v5 v7 m = some a) : mj_Go (mj_EX L xs) (δ + 1) mY_X9_worthsBy 107 [(0, .ref 95), (1, .int v1), (2, .int v2), (3, .int v3), (4, .int v4), (5, .long v5), (7, .int v7)] [] (mj_fin m) (none, (mj_fin a)) := by
  unfold f_X9_worthsBy_107 at h
  obtain ⟨x1, ex1, h⟩ := mj_mw_some h
  refine mj_go_iinc (i := 7) (x := v7) (v := x1) rfl (by rw [ex1] <;> rfl) (by decide) (mj_dt dt_X9_worthsBy 64 rfl) ?_
  refine mj_go_goto (tgt := 33) rfl (mj_dt dt_X9_worthsBy 65 rfl) ?_
  refine mj_go_sub (lv' := [(0, .ref 95), (1, .int v1), (2, .int v2), (3, .int v3), (4, .int v4), (5, .long v5), (7, .int x1)]) (List.forall_mem_cons.mpr ⟨rfl, (List.forall_mem_cons.mpr ⟨rfl, (List.forall_mem_cons.mpr ⟨rfl, (List.forall_mem_cons.mpr ⟨rfl, (List.forall_mem_cons.mpr ⟨rfl, (List.forall_mem_cons.mpr ⟨rfl, (List.forall_mem_cons.mpr ⟨rfl, (fun _ h9 => absurd h9 List.not_mem_nil)⟩)⟩)⟩)⟩)⟩)⟩)⟩) ?_
  exact q_33 _ _ h
def f_X9_worthsBy_33 (N : Nat) (k_2 : Int32 × mj_m → Option (mj_m)) (v1 : Int32) (v2 : Int32) (v3 : Int32) (v4 : Int32) (m : mj_m) (k_33 : Int64 × Int32 → Option (mj_m)) (s : Int64 × Int32) : Option (mj_m) := if (m.1 95 1) ≤ s.2 then (mj_ck (mj_b 1 122 v3) ( mj_mw (mj_wL m 122 (v3.toNatClampNeg) s.1) (fun m3 => mj_mw (v3 + 1) (fun x4 => k_2 (x4, m3))))) else (if ((v3 >>> (s.2 &&& 31)) &&& 1) = 1 then ((f_X9_people N s.2 v1 m).bind (fun r3 => mj_mw (s.1 + (10 * (r3.toInt64))) (fun x4 => f_X9_worthsBy_107 N k_2 k_33 v1 v2 v3 v4 x4 s.2 m))) else (mj_ck (mj_b 0 101 s.2) ( if ((v4 >>> ((m.1 101 s.2.toNatClampNeg) &&& 31)) &&& 1) = 1 then ((f_X9_people N s.2 v1 m).bind (fun r5 => mj_mw (s.1 + (((m.1 95 4).toInt64) * (r5.toInt64))) (fun x6 => f_X9_worthsBy_107 N k_2 k_33 v1 v2 v3 v4 x6 s.2 m))) else f_X9_worthsBy_107 N k_2 k_33 v1 v2 v3 v4 s.1 s.2 m)))
theorem k_X9_worthsBy_33 {L : Nat} {xs : Nat → Int32} {δ N : Nat} {v1 : Int32} {v2 : Int32} {v3 : Int32} {v4 : Int32} {m : mj_m} {k_2 : Int32 × mj_m → Option (mj_m)} (q_2 : ∀ (s_ : Int32 × mj_m) (a_ : mj_m), k_2 s_ = some a_ → mj_Go (mj_EX L xs) (δ + 1) mY_X9_worthsBy 2 [(0, .ref 95), (1, .int v1), (2, .int v2), (3, .int s_.1)] [] (mj_fin s_.2) (none, (mj_fin a_))) (hδ : 0 ≤ δ) : ∀ (n : Nat) (s : Int64 × Int32) (a : mj_m), mj_lp n (f_X9_worthsBy_33 N k_2 v1 v2 v3 v4 m) s = some a → mj_Go (mj_EX L xs) (δ + 1) mY_X9_worthsBy 33 [(0, .ref 95), (1, .int v1), (2, .int v2), (3, .int v3), (4, .int v4), (5, .long s.1), (7, .int s.2)] [] (mj_fin m) (none, (mj_fin a)) := by
  refine mj_lp_sound (fun k_33 s a q_33 h => ?_)
  unfold f_X9_worthsBy_33 at h
  refine mj_go_iload (i := 7) (x := s.2) rfl (mj_dt dt_X9_worthsBy 20 rfl) ?_
  refine mj_go_aload_n (k := 0) (x := 95) rfl (mj_dt dt_X9_worthsBy 21 rfl) ?_
  refine mk_getI (c := 9) (k := 1) (Or.inl fd_9_1) (Or.inl fl_X9_124) ho_95 (mj_dt dt_X9_worthsBy 22 rfl) ?_
  refine mj_go_icmp_ge (tgt := 113) rfl (mj_dt dt_X9_worthsBy 23 rfl) (fun b1 => ?_) (fun b1 => ?_)
  · rw [if_pos b1] at h
    refine mj_go_aload_n (k := 0) (x := 95) rfl (mj_dt dt_X9_worthsBy 66 rfl) ?_
    refine ml_getR (c := 9) (k := 42) (q := 122) fd_9_42 rf_95_42 (Or.inl fl_X9_105) ho_95 (mj_dt dt_X9_worthsBy 67 rfl) ?_
    refine mj_go_iload_n (k := 3) (x := v3) rfl (mj_dt dt_X9_worthsBy 68 rfl) ?_
    refine mj_go_lload (i := 5) (x := s.1) rfl (mj_dt dt_X9_worthsBy 69 rfl) ?_
    obtain ⟨c2, h⟩ := mj_ck_some h
    obtain ⟨m3, em3, h⟩ := mj_mw_some h
    refine ml_last c2 (mj_dt dt_X9_worthsBy 70 rfl) ?_
    refine ml_eqm (M1 := (mj_fin m3)) (by rw [em3] <;> rfl) ?_
    obtain ⟨x4, ex4, h⟩ := mj_mw_some h
    refine mj_go_iinc (i := 3) (x := v3) (v := x4) rfl (by rw [ex4] <;> rfl) (by decide) (mj_dt dt_X9_worthsBy 71 rfl) ?_
    refine mj_go_goto (tgt := 2) rfl (mj_dt dt_X9_worthsBy 72 rfl) ?_
    refine mj_go_sub (lv' := [(0, .ref 95), (1, .int v1), (2, .int v2), (3, .int x4)]) (List.forall_mem_cons.mpr ⟨rfl, (List.forall_mem_cons.mpr ⟨rfl, (List.forall_mem_cons.mpr ⟨rfl, (List.forall_mem_cons.mpr ⟨rfl, (fun _ h9 => absurd h9 List.not_mem_nil)⟩)⟩)⟩)⟩) ?_
    exact q_2 _ _ h
  · rw [if_neg b1] at h
    refine mj_go_iload_n (k := 3) (x := v3) rfl (mj_dt dt_X9_worthsBy 24 rfl) ?_
    refine mj_go_iload (i := 7) (x := s.2) rfl (mj_dt dt_X9_worthsBy 25 rfl) ?_
    refine mj_go_ishr (mj_dt dt_X9_worthsBy 26 rfl) ?_
    refine mj_go_iconst (v := 1) rfl (mj_dt dt_X9_worthsBy 27 rfl) ?_
    refine mj_go_iand (mj_dt dt_X9_worthsBy 28 rfl) ?_
    refine mj_go_iconst (v := 1) rfl (mj_dt dt_X9_worthsBy 29 rfl) ?_
    refine mj_go_icmp_ne (tgt := 72) rfl (mj_dt dt_X9_worthsBy 30 rfl) (fun b2 => ?_) (fun b2 => ?_)
    · rw [if_neg b2] at h
      refine mj_go_iload (i := 4) (x := v4) rfl (mj_dt dt_X9_worthsBy 42 rfl) ?_
      refine mj_go_aload_n (k := 0) (x := 95) rfl (mj_dt dt_X9_worthsBy 43 rfl) ?_
      refine ml_getR (c := 9) (k := 16) (q := 101) fd_9_16 rf_95_16 (Or.inl fl_X9_41) ho_95 (mj_dt dt_X9_worthsBy 44 rfl) ?_
      refine mj_go_iload (i := 7) (x := s.2) rfl (mj_dt dt_X9_worthsBy 45 rfl) ?_
      obtain ⟨c3, h⟩ := mj_ck_some h
      refine mk_iald c3 (mj_dt dt_X9_worthsBy 46 rfl) ?_
      refine mj_go_ishr (mj_dt dt_X9_worthsBy 47 rfl) ?_
      refine mj_go_iconst (v := 1) rfl (mj_dt dt_X9_worthsBy 48 rfl) ?_
      refine mj_go_iand (mj_dt dt_X9_worthsBy 49 rfl) ?_
      refine mj_go_iconst (v := 1) rfl (mj_dt dt_X9_worthsBy 50 rfl) ?_
      refine mj_go_icmp_ne (tgt := 107) rfl (mj_dt dt_X9_worthsBy 51 rfl) (fun b4 => ?_) (fun b4 => ?_)
      · rw [if_neg b4] at h
        refine mj_go_sub (lv' := [(0, .ref 95), (1, .int v1), (2, .int v2), (3, .int v3), (4, .int v4), (5, .long s.1), (7, .int s.2)]) (List.forall_mem_cons.mpr ⟨rfl, (List.forall_mem_cons.mpr ⟨rfl, (List.forall_mem_cons.mpr ⟨rfl, (List.forall_mem_cons.mpr ⟨rfl, (List.forall_mem_cons.mpr ⟨rfl, (List.forall_mem_cons.mpr ⟨rfl, (List.forall_mem_cons.mpr ⟨rfl, (fun _ h9 => absurd h9 List.not_mem_nil)⟩)⟩)⟩)⟩)⟩)⟩)⟩) ?_
        exact k_X9_worthsBy_107 q_2 q_33 hδ h
      · rw [if_pos b4] at h
        refine mj_go_lload (i := 5) (x := s.1) rfl (mj_dt dt_X9_worthsBy 52 rfl) ?_
        refine mj_go_aload_n (k := 0) (x := 95) rfl (mj_dt dt_X9_worthsBy 53 rfl) ?_
        refine mk_getI (c := 9) (k := 4) (Or.inl fd_9_4) (Or.inl fl_X9_13) ho_95 (mj_dt dt_X9_worthsBy 54 rfl) ?_
        refine mj_go_i2l (mj_dt dt_X9_worthsBy 55 rfl) ?_
        refine mj_go_aload_n (k := 0) (x := 95) rfl (mj_dt dt_X9_worthsBy 56 rfl) ?_
        refine mj_go_iload (i := 7) (x := s.2) rfl (mj_dt dt_X9_worthsBy 57 rfl) ?_
        refine mj_go_iload_n (k := 1) (x := v1) rfl (mj_dt dt_X9_worthsBy 58 rfl) ?_
        obtain ⟨r5, er5, h⟩ := mj_bind_some h
        refine ml_callV (Y' := mY_X9_people) (as := [.int s.2, .int v1]) (rest := [.long ((m.1 95 4).toInt64), .long s.1]) (c := 9) (v := (some (.int r5))) (M1 := (mj_fin m)) ho_95 rfl lm_X9_245 wc_X9_people pl_X9_people ok_X9_people rfl rfl (Nat.le_of_ble_eq_true rfl) (k_X9_people (by omega) er5) (mj_dt dt_X9_worthsBy 59 rfl) ?_
        refine mj_go_i2l (mj_dt dt_X9_worthsBy 60 rfl) ?_
        refine mj_go_lmul (mj_dt dt_X9_worthsBy 61 rfl) ?_
        refine mj_go_ladd (mj_dt dt_X9_worthsBy 62 rfl) ?_
        obtain ⟨x6, ex6, h⟩ := mj_mw_some h
        refine ml_eql ex6 ?_
        refine mj_go_lstore (i := 5) (by decide) (mj_dt dt_X9_worthsBy 63 rfl) ?_
        refine mj_go_sub (lv' := [(0, .ref 95), (1, .int v1), (2, .int v2), (3, .int v3), (4, .int v4), (5, .long x6), (7, .int s.2)]) (List.forall_mem_cons.mpr ⟨rfl, (List.forall_mem_cons.mpr ⟨rfl, (List.forall_mem_cons.mpr ⟨rfl, (List.forall_mem_cons.mpr ⟨rfl, (List.forall_mem_cons.mpr ⟨rfl, (List.forall_mem_cons.mpr ⟨rfl, (List.forall_mem_cons.mpr ⟨rfl, (fun _ h9 => absurd h9 List.not_mem_nil)⟩)⟩)⟩)⟩)⟩)⟩)⟩) ?_
        exact k_X9_worthsBy_107 q_2 q_33 hδ h
    · rw [if_pos b2] at h
      refine mj_go_lload (i := 5) (x := s.1) rfl (mj_dt dt_X9_worthsBy 31 rfl) ?_
      refine mj_go_ldc2 (v := 10) cl_X9_243 (mj_dt dt_X9_worthsBy 32 rfl) ?_
      refine mj_go_aload_n (k := 0) (x := 95) rfl (mj_dt dt_X9_worthsBy 33 rfl) ?_
      refine mj_go_iload (i := 7) (x := s.2) rfl (mj_dt dt_X9_worthsBy 34 rfl) ?_
      refine mj_go_iload_n (k := 1) (x := v1) rfl (mj_dt dt_X9_worthsBy 35 rfl) ?_
      obtain ⟨r3, er3, h⟩ := mj_bind_some h
      refine ml_callV (Y' := mY_X9_people) (as := [.int s.2, .int v1]) (rest := [.long 10, .long s.1]) (c := 9) (v := (some (.int r3))) (M1 := (mj_fin m)) ho_95 rfl lm_X9_245 wc_X9_people pl_X9_people ok_X9_people rfl rfl (Nat.le_of_ble_eq_true rfl) (k_X9_people (by omega) er3) (mj_dt dt_X9_worthsBy 36 rfl) ?_
      refine mj_go_i2l (mj_dt dt_X9_worthsBy 37 rfl) ?_
      refine mj_go_lmul (mj_dt dt_X9_worthsBy 38 rfl) ?_
      refine mj_go_ladd (mj_dt dt_X9_worthsBy 39 rfl) ?_
      obtain ⟨x4, ex4, h⟩ := mj_mw_some h
      refine ml_eql ex4 ?_
      refine mj_go_lstore (i := 5) (by decide) (mj_dt dt_X9_worthsBy 40 rfl) ?_
      refine mj_go_goto (tgt := 107) rfl (mj_dt dt_X9_worthsBy 41 rfl) ?_
      refine mj_go_sub (lv' := [(0, .ref 95), (1, .int v1), (2, .int v2), (3, .int v3), (4, .int v4), (5, .long x4), (7, .int s.2)]) (List.forall_mem_cons.mpr ⟨rfl, (List.forall_mem_cons.mpr ⟨rfl, (List.forall_mem_cons.mpr ⟨rfl, (List.forall_mem_cons.mpr ⟨rfl, (List.forall_mem_cons.mpr ⟨rfl, (List.forall_mem_cons.mpr ⟨rfl, (List.forall_mem_cons.mpr ⟨rfl, (fun _ h9 => absurd h9 List.not_mem_nil)⟩)⟩)⟩)⟩)⟩)⟩)⟩) ?_
      exact k_X9_worthsBy_107 q_2 q_33 hδ h
def f_X9_worthsBy_25 (N : Nat) (k_2 : Int32 × mj_m → Option (mj_m)) (v1 : Int32) (v2 : Int32) (v3 : Int32) (s0 : Int32) (m : mj_m) : Option (mj_m) := mj_lp N (f_X9_worthsBy_33 N k_2 v1 v2 v3 s0 m) (0, 0)
theorem k_X9_worthsBy_25 {L : Nat} {xs : Nat → Int32} {δ N : Nat} {v1 : Int32} {v2 : Int32} {v3 : Int32} {s0 : Int32} {m : mj_m} {k_2 : Int32 × mj_m → Option (mj_m)} (q_2 : ∀ (s_ : Int32 × mj_m) (a_ : mj_m), k_2 s_ = some a_ → mj_Go (mj_EX L xs) (δ + 1) mY_X9_worthsBy 2 [(0, .ref 95), (1, .int v1), (2, .int v2), (3, .int s_.1)] [] (mj_fin s_.2) (none, (mj_fin a_))) (hδ : 0 ≤ δ) {a : mj_m} (h : f_X9_worthsBy_25 N k_2 v1 v2 v3 s0 m = some a) : mj_Go (mj_EX L xs) (δ + 1) mY_X9_worthsBy 25 [(0, .ref 95), (1, .int v1), (2, .int v2), (3, .int v3)] [.int s0] (mj_fin m) (none, (mj_fin a)) := by
  unfold f_X9_worthsBy_25 at h
  refine mj_go_istore (i := 4) (by decide) (mj_dt dt_X9_worthsBy 15 rfl) ?_
  refine mj_go_lconst (v := 0) rfl (mj_dt dt_X9_worthsBy 16 rfl) ?_
  refine mj_go_lstore (i := 5) (by decide) (mj_dt dt_X9_worthsBy 17 rfl) ?_
  refine mj_go_iconst (v := 0) rfl (mj_dt dt_X9_worthsBy 18 rfl) ?_
  refine mj_go_istore (i := 7) (by decide) (mj_dt dt_X9_worthsBy 19 rfl) ?_
  refine mj_go_sub (lv' := [(0, .ref 95), (1, .int v1), (2, .int v2), (3, .int v3), (4, .int s0), (5, .long 0), (7, .int 0)]) (List.forall_mem_cons.mpr ⟨rfl, (List.forall_mem_cons.mpr ⟨rfl, (List.forall_mem_cons.mpr ⟨rfl, (List.forall_mem_cons.mpr ⟨rfl, (List.forall_mem_cons.mpr ⟨rfl, (List.forall_mem_cons.mpr ⟨rfl, (List.forall_mem_cons.mpr ⟨rfl, (fun _ h9 => absurd h9 List.not_mem_nil)⟩)⟩)⟩)⟩)⟩)⟩)⟩) ?_
  exact k_X9_worthsBy_33 q_2 hδ N _ _ h
def f_X9_worthsBy_2 (N : Nat) (v1 : Int32) (v2 : Int32) (k_2 : Int32 × mj_m → Option (mj_m)) (s : Int32 × mj_m) : Option (mj_m) := if (1 <<< ((s.2.1 95 1) &&& 31)) ≤ s.1 then (some s.2) else (if v2 = 0 then (f_X9_worthsBy_25 N k_2 v1 v2 s.1 0 s.2) else ((f_X9_cutOf N s.1 s.2).bind (fun r3 => f_X9_worthsBy_25 N k_2 v1 v2 s.1 r3 s.2)))
theorem k_X9_worthsBy_2 {L : Nat} {xs : Nat → Int32} {δ N : Nat} {v1 : Int32} {v2 : Int32} (hδ : 0 ≤ δ) : ∀ (n : Nat) (s : Int32 × mj_m) (a : mj_m), mj_lp n (f_X9_worthsBy_2 N v1 v2) s = some a → mj_Go (mj_EX L xs) (δ + 1) mY_X9_worthsBy 2 [(0, .ref 95), (1, .int v1), (2, .int v2), (3, .int s.1)] [] (mj_fin s.2) (none, (mj_fin a)) := by
  refine mj_lp_sound (fun k_2 s a q_2 h => ?_)
  unfold f_X9_worthsBy_2 at h
  refine mj_go_iload_n (k := 3) (x := s.1) rfl (mj_dt dt_X9_worthsBy 2 rfl) ?_
  refine mj_go_iconst (v := 1) rfl (mj_dt dt_X9_worthsBy 3 rfl) ?_
  refine mj_go_aload_n (k := 0) (x := 95) rfl (mj_dt dt_X9_worthsBy 4 rfl) ?_
  refine mk_getI (c := 9) (k := 1) (Or.inl fd_9_1) (Or.inl fl_X9_124) ho_95 (mj_dt dt_X9_worthsBy 5 rfl) ?_
  refine mj_go_ishl (mj_dt dt_X9_worthsBy 6 rfl) ?_
  refine mj_go_icmp_ge (tgt := 127) rfl (mj_dt dt_X9_worthsBy 7 rfl) (fun b1 => ?_) (fun b1 => ?_)
  · rw [if_pos b1] at h
    obtain rfl := Option.some.inj h
    exact mj_go_ret (v := none) (Nat.le_of_ble_eq_true rfl) (mj_retV (mj_dt dt_X9_worthsBy 73 rfl) rfl)
  · rw [if_neg b1] at h
    refine mj_go_iload_n (k := 2) (x := v2) rfl (mj_dt dt_X9_worthsBy 8 rfl) ?_
    refine mj_go_if_eq (tgt := 24) rfl (mj_dt dt_X9_worthsBy 9 rfl) (fun b2 => ?_) (fun b2 => ?_)
    · rw [if_pos b2] at h
      refine mj_go_iconst (v := 0) rfl (mj_dt dt_X9_worthsBy 14 rfl) ?_
      refine mj_go_sub (lv' := [(0, .ref 95), (1, .int v1), (2, .int v2), (3, .int s.1)]) (List.forall_mem_cons.mpr ⟨rfl, (List.forall_mem_cons.mpr ⟨rfl, (List.forall_mem_cons.mpr ⟨rfl, (List.forall_mem_cons.mpr ⟨rfl, (fun _ h9 => absurd h9 List.not_mem_nil)⟩)⟩)⟩)⟩) ?_
      exact k_X9_worthsBy_25 q_2 hδ h
    · rw [if_neg b2] at h
      refine mj_go_aload_n (k := 0) (x := 95) rfl (mj_dt dt_X9_worthsBy 10 rfl) ?_
      refine mj_go_iload_n (k := 3) (x := s.1) rfl (mj_dt dt_X9_worthsBy 11 rfl) ?_
      obtain ⟨r3, er3, h⟩ := mj_bind_some h
      refine ml_callV (Y' := mY_X9_cutOf) (as := [.int s.1]) (rest := []) (c := 9) (v := (some (.int r3))) (M1 := (mj_fin s.2)) ho_95 rfl lm_X9_240 wc_X9_cutOf pl_X9_cutOf ok_X9_cutOf rfl rfl (Nat.le_of_ble_eq_true rfl) (k_X9_cutOf (by omega) er3) (mj_dt dt_X9_worthsBy 12 rfl) ?_
      refine mj_go_goto (tgt := 25) rfl (mj_dt dt_X9_worthsBy 13 rfl) ?_
      refine mj_go_sub (lv' := [(0, .ref 95), (1, .int v1), (2, .int v2), (3, .int s.1)]) (List.forall_mem_cons.mpr ⟨rfl, (List.forall_mem_cons.mpr ⟨rfl, (List.forall_mem_cons.mpr ⟨rfl, (List.forall_mem_cons.mpr ⟨rfl, (fun _ h9 => absurd h9 List.not_mem_nil)⟩)⟩)⟩)⟩) ?_
      exact k_X9_worthsBy_25 q_2 hδ h
def f_X9_worthsBy (N : Nat) (v1 : Int32) (v2 : Int32) (m : mj_m) : Option (mj_m) := mj_lp N (f_X9_worthsBy_2 N v1 v2) (0, m)
theorem k_X9_worthsBy {L : Nat} {xs : Nat → Int32} {δ N : Nat} {v1 : Int32} {v2 : Int32} {m : mj_m} (hδ : 1 ≤ δ) {a : mj_m} (h : f_X9_worthsBy N v1 v2 m = some a) : mj_Cl (mj_EX L xs) δ mY_X9_worthsBy [.ref 95, .int v1, .int v2] (mj_fin m) (none, (mj_fin a)) := by
  obtain ⟨δ, rfl⟩ : ∃ d, δ = d + 1 := ⟨δ - 1, by omega⟩
  have hδ : 0 ≤ δ := by omega
  refine mj_cl_of ok_X9_worthsBy (Nat.le_of_ble_eq_true rfl) ?_
  unfold f_X9_worthsBy at h
  refine mj_go_iconst (v := 0) rfl (mj_dt dt_X9_worthsBy 0 rfl) ?_
  refine mj_go_istore_n (k := 3) (by decide) (mj_dt dt_X9_worthsBy 1 rfl) ?_
  refine mj_go_sub (lv' := [(0, .ref 95), (1, .int v1), (2, .int v2), (3, .int 0)]) (List.forall_mem_cons.mpr ⟨rfl, (List.forall_mem_cons.mpr ⟨rfl, (List.forall_mem_cons.mpr ⟨rfl, (List.forall_mem_cons.mpr ⟨rfl, (fun _ h9 => absurd h9 List.not_mem_nil)⟩)⟩)⟩)⟩) ?_
  exact k_X9_worthsBy_2 hδ N _ _ h
def f_X9_isIn_2 (N : Nat) (v1 : Int32) (m : mj_m) (k_2 : Int32 → Option (Int32)) (s : Int32) : Option (Int32) := if (m.1 95 44) ≤ s then (some 0) else (mj_ck (mj_b 0 123 s) ( if (m.1 123 s.toNatClampNeg) = v1 then (some 1) else (mj_mw (s + 1) (fun x4 => k_2 (x4)))))
theorem k_X9_isIn_2 {L : Nat} {xs : Nat → Int32} {δ N : Nat} {v1 : Int32} {m : mj_m} : ∀ (n : Nat) (s : Int32) (a : Int32), mj_lp n (f_X9_isIn_2 N v1 m) s = some a → mj_Go (mj_EX L xs) δ mY_X9_isIn 2 [(0, .ref 95), (1, .int v1), (2, .int s)] [] (mj_fin m) (some (.int a), (mj_fin m)) := by
  refine mj_lp_sound (fun k_2 s a q_2 h => ?_)
  unfold f_X9_isIn_2 at h
  refine mj_go_iload_n (k := 2) (x := s) rfl (mj_dt dt_X9_isIn 2 rfl) ?_
  refine mj_go_aload_n (k := 0) (x := 95) rfl (mj_dt dt_X9_isIn 3 rfl) ?_
  refine mk_getI (c := 9) (k := 44) (Or.inl fd_9_44) (Or.inl fl_X9_146) ho_95 (mj_dt dt_X9_isIn 4 rfl) ?_
  refine mj_go_icmp_ge (tgt := 28) rfl (mj_dt dt_X9_isIn 5 rfl) (fun b1 => ?_) (fun b1 => ?_)
  · rw [if_pos b1] at h
    refine mj_go_iconst (v := 0) rfl (mj_dt dt_X9_isIn 16 rfl) ?_
    obtain rfl := Option.some.inj h
    exact mj_go_ret (v := some (.int 0)) (Nat.le_of_ble_eq_true rfl) (mj_retZ (mj_dt dt_X9_isIn 17 rfl) rfl rfl)
  · rw [if_neg b1] at h
    refine mj_go_aload_n (k := 0) (x := 95) rfl (mj_dt dt_X9_isIn 6 rfl) ?_
    refine ml_getR (c := 9) (k := 43) (q := 123) fd_9_43 rf_95_43 (Or.inl fl_X9_108) ho_95 (mj_dt dt_X9_isIn 7 rfl) ?_
    refine mj_go_iload_n (k := 2) (x := s) rfl (mj_dt dt_X9_isIn 8 rfl) ?_
    obtain ⟨c2, h⟩ := mj_ck_some h
    refine mk_iald c2 (mj_dt dt_X9_isIn 9 rfl) ?_
    refine mj_go_iload_n (k := 1) (x := v1) rfl (mj_dt dt_X9_isIn 10 rfl) ?_
    refine mj_go_icmp_ne (tgt := 22) rfl (mj_dt dt_X9_isIn 11 rfl) (fun b3 => ?_) (fun b3 => ?_)
    · rw [if_neg b3] at h
      obtain ⟨x4, ex4, h⟩ := mj_mw_some h
      refine mj_go_iinc (i := 2) (x := s) (v := x4) rfl (by rw [ex4] <;> rfl) (by decide) (mj_dt dt_X9_isIn 14 rfl) ?_
      refine mj_go_goto (tgt := 2) rfl (mj_dt dt_X9_isIn 15 rfl) ?_
      refine mj_go_sub (lv' := [(0, .ref 95), (1, .int v1), (2, .int x4)]) (List.forall_mem_cons.mpr ⟨rfl, (List.forall_mem_cons.mpr ⟨rfl, (List.forall_mem_cons.mpr ⟨rfl, (fun _ h9 => absurd h9 List.not_mem_nil)⟩)⟩)⟩) ?_
      exact q_2 _ _ h
    · rw [if_pos b3] at h
      refine mj_go_iconst (v := 1) rfl (mj_dt dt_X9_isIn 12 rfl) ?_
      obtain rfl := Option.some.inj h
      exact mj_go_ret (v := some (.int 1)) (Nat.le_of_ble_eq_true rfl) (mj_retZ (mj_dt dt_X9_isIn 13 rfl) rfl rfl)
def f_X9_isIn (N : Nat) (v1 : Int32) (m : mj_m) : Option (Int32) := mj_lp N (f_X9_isIn_2 N v1 m) (0)
theorem k_X9_isIn {L : Nat} {xs : Nat → Int32} {δ N : Nat} {v1 : Int32} {m : mj_m} (_ : 0 ≤ δ) {a : Int32} (h : f_X9_isIn N v1 m = some a) : mj_Cl (mj_EX L xs) δ mY_X9_isIn [.ref 95, .int v1] (mj_fin m) (some (.int a), (mj_fin m)) := by
  refine mj_cl_of ok_X9_isIn (Nat.le_of_ble_eq_true rfl) ?_
  unfold f_X9_isIn at h
  refine mj_go_iconst (v := 0) rfl (mj_dt dt_X9_isIn 0 rfl) ?_
  refine mj_go_istore_n (k := 2) (by decide) (mj_dt dt_X9_isIn 1 rfl) ?_
  refine mj_go_sub (lv' := [(0, .ref 95), (1, .int v1), (2, .int 0)]) (List.forall_mem_cons.mpr ⟨rfl, (List.forall_mem_cons.mpr ⟨rfl, (List.forall_mem_cons.mpr ⟨rfl, (fun _ h9 => absurd h9 List.not_mem_nil)⟩)⟩)⟩) ?_
  exact k_X9_isIn_2 N _ _ h
def f_X9_fallsOf_65 (N : Nat) (v3 : Int32) (m : mj_m) : Option (Int32) := if 0 ≤ v3 then (if v3 ≤ 10 then ((some v3)) else ((some 10))) else ((some 0))
theorem k_X9_fallsOf_65 {L : Nat} {xs : Nat → Int32} {δ N : Nat} {v3 : Int32} {m : mj_m} {a : Int32} (h : f_X9_fallsOf_65 N v3 m = some a) : mj_Go (mj_EX L xs) δ mY_X9_fallsOf 65 [(3, .int v3)] [] (mj_fin m) (some (.int a), (mj_fin m)) := by
  unfold f_X9_fallsOf_65 at h
  refine mj_go_iload_n (k := 3) (x := v3) rfl (mj_dt dt_X9_fallsOf 43 rfl) ?_
  refine mj_go_if_ge (tgt := 73) rfl (mj_dt dt_X9_fallsOf 44 rfl) (fun b1 => ?_) (fun b1 => ?_)
  · rw [if_pos b1] at h
    refine mj_go_iload_n (k := 3) (x := v3) rfl (mj_dt dt_X9_fallsOf 47 rfl) ?_
    refine mj_go_bipush (v := 10) rfl (mj_dt dt_X9_fallsOf 48 rfl) ?_
    refine mj_go_icmp_le (tgt := 84) rfl (mj_dt dt_X9_fallsOf 49 rfl) (fun b2 => ?_) (fun b2 => ?_)
    · rw [if_pos b2] at h
      refine mj_go_iload_n (k := 3) (x := v3) rfl (mj_dt dt_X9_fallsOf 52 rfl) ?_
      obtain rfl := Option.some.inj h
      exact mj_go_ret (v := some (.int v3)) (Nat.le_of_ble_eq_true rfl) (mj_retI (mj_dt dt_X9_fallsOf 53 rfl) rfl)
    · rw [if_neg b2] at h
      refine mj_go_bipush (v := 10) rfl (mj_dt dt_X9_fallsOf 50 rfl) ?_
      refine mj_go_goto (tgt := 85) rfl (mj_dt dt_X9_fallsOf 51 rfl) ?_
      obtain rfl := Option.some.inj h
      exact mj_go_ret (v := some (.int 10)) (Nat.le_of_ble_eq_true rfl) (mj_retI (mj_dt dt_X9_fallsOf 53 rfl) rfl)
  · rw [if_neg b1] at h
    refine mj_go_iconst (v := 0) rfl (mj_dt dt_X9_fallsOf 45 rfl) ?_
    refine mj_go_goto (tgt := 85) rfl (mj_dt dt_X9_fallsOf 46 rfl) ?_
    obtain rfl := Option.some.inj h
    exact mj_go_ret (v := some (.int 0)) (Nat.le_of_ble_eq_true rfl) (mj_retI (mj_dt dt_X9_fallsOf 53 rfl) rfl)
def f_X9_fallsOf (N : Nat) (v1 : Int32) (v2 : Int32) (m : mj_m) : Option (Int32) := mj_ck (mj_b 0 102 v1) ( mj_ck (mj_b 0 100 v2) ( mj_ck (mj_b 0 108 v1) ( mj_ck (mj_b 0 109 v1) ( mj_mw ((((m.1 102 v1.toNatClampNeg) + (m.1 100 v2.toNatClampNeg)) - (4 * (m.1 108 v1.toNatClampNeg))) - (2 * (m.1 109 v1.toNatClampNeg))) (fun x5 => mj_ck (mj_b 0 107 v1) ( if (m.1 107 v1.toNatClampNeg) = (-1 : Int32) then f_X9_fallsOf_65 N x5 m else (mj_ck (mj_b 0 108 (m.1 107 v1.toNatClampNeg)) ( if (m.1 108 (m.1 107 v1.toNatClampNeg).toNatClampNeg) ≤ (m.1 108 v1.toNatClampNeg) then f_X9_fallsOf_65 N x5 m else (mj_mw (x5 + 1) (fun x10 => f_X9_fallsOf_65 N x10 m))))))))))
theorem k_X9_fallsOf {L : Nat} {xs : Nat → Int32} {δ N : Nat} {v1 : Int32} {v2 : Int32} {m : mj_m} (_ : 0 ≤ δ) {a : Int32} (h : f_X9_fallsOf N v1 v2 m = some a) : mj_Cl (mj_EX L xs) δ mY_X9_fallsOf [.ref 95, .int v1, .int v2] (mj_fin m) (some (.int a), (mj_fin m)) := by
  refine mj_cl_of ok_X9_fallsOf (Nat.le_of_ble_eq_true rfl) ?_
  unfold f_X9_fallsOf at h
  refine mj_go_aload_n (k := 0) (x := 95) rfl (mj_dt dt_X9_fallsOf 0 rfl) ?_
  refine ml_getR (c := 9) (k := 17) (q := 102) fd_9_17 rf_95_17 (Or.inl fl_X9_44) ho_95 (mj_dt dt_X9_fallsOf 1 rfl) ?_
  refine mj_go_iload_n (k := 1) (x := v1) rfl (mj_dt dt_X9_fallsOf 2 rfl) ?_
  obtain ⟨c1, h⟩ := mj_ck_some h
  refine mk_iald c1 (mj_dt dt_X9_fallsOf 3 rfl) ?_
  refine mj_go_aload_n (k := 0) (x := 95) rfl (mj_dt dt_X9_fallsOf 4 rfl) ?_
  refine ml_getR (c := 9) (k := 15) (q := 100) fd_9_15 rf_95_15 (Or.inl fl_X9_38) ho_95 (mj_dt dt_X9_fallsOf 5 rfl) ?_
  refine mj_go_iload_n (k := 2) (x := v2) rfl (mj_dt dt_X9_fallsOf 6 rfl) ?_
  obtain ⟨c2, h⟩ := mj_ck_some h
  refine mk_iald c2 (mj_dt dt_X9_fallsOf 7 rfl) ?_
  refine mj_go_iadd (mj_dt dt_X9_fallsOf 8 rfl) ?_
  refine mj_go_iconst (v := 4) rfl (mj_dt dt_X9_fallsOf 9 rfl) ?_
  refine mj_go_aload_n (k := 0) (x := 95) rfl (mj_dt dt_X9_fallsOf 10 rfl) ?_
  refine ml_getR (c := 9) (k := 23) (q := 108) fd_9_23 rf_95_23 (Or.inl fl_X9_62) ho_95 (mj_dt dt_X9_fallsOf 11 rfl) ?_
  refine mj_go_iload_n (k := 1) (x := v1) rfl (mj_dt dt_X9_fallsOf 12 rfl) ?_
  obtain ⟨c3, h⟩ := mj_ck_some h
  refine mk_iald c3 (mj_dt dt_X9_fallsOf 13 rfl) ?_
  refine mj_go_imul (mj_dt dt_X9_fallsOf 14 rfl) ?_
  refine mj_go_isub (mj_dt dt_X9_fallsOf 15 rfl) ?_
  refine mj_go_iconst (v := 2) rfl (mj_dt dt_X9_fallsOf 16 rfl) ?_
  refine mj_go_aload_n (k := 0) (x := 95) rfl (mj_dt dt_X9_fallsOf 17 rfl) ?_
  refine ml_getR (c := 9) (k := 24) (q := 109) fd_9_24 rf_95_24 (Or.inl fl_X9_65) ho_95 (mj_dt dt_X9_fallsOf 18 rfl) ?_
  refine mj_go_iload_n (k := 1) (x := v1) rfl (mj_dt dt_X9_fallsOf 19 rfl) ?_
  obtain ⟨c4, h⟩ := mj_ck_some h
  refine mk_iald c4 (mj_dt dt_X9_fallsOf 20 rfl) ?_
  refine mj_go_imul (mj_dt dt_X9_fallsOf 21 rfl) ?_
  refine mj_go_isub (mj_dt dt_X9_fallsOf 22 rfl) ?_
  obtain ⟨x5, ex5, h⟩ := mj_mw_some h
  refine ml_eqi ex5 ?_
  refine mj_go_istore_n (k := 3) (by decide) (mj_dt dt_X9_fallsOf 23 rfl) ?_
  refine mj_go_aload_n (k := 0) (x := 95) rfl (mj_dt dt_X9_fallsOf 24 rfl) ?_
  refine ml_getR (c := 9) (k := 22) (q := 107) fd_9_22 rf_95_22 (Or.inl fl_X9_59) ho_95 (mj_dt dt_X9_fallsOf 25 rfl) ?_
  refine mj_go_iload_n (k := 1) (x := v1) rfl (mj_dt dt_X9_fallsOf 26 rfl) ?_
  obtain ⟨c6, h⟩ := mj_ck_some h
  refine mk_iald c6 (mj_dt dt_X9_fallsOf 27 rfl) ?_
  refine mj_go_iconst (v := -1) rfl (mj_dt dt_X9_fallsOf 28 rfl) ?_
  refine mj_go_icmp_eq (tgt := 65) rfl (mj_dt dt_X9_fallsOf 29 rfl) (fun b7 => ?_) (fun b7 => ?_)
  · rw [if_pos b7] at h
    refine mj_go_sub (lv' := [(3, .int x5)]) (List.forall_mem_cons.mpr ⟨rfl, (fun _ h9 => absurd h9 List.not_mem_nil)⟩) ?_
    exact k_X9_fallsOf_65 h
  · rw [if_neg b7] at h
    refine mj_go_aload_n (k := 0) (x := 95) rfl (mj_dt dt_X9_fallsOf 30 rfl) ?_
    refine ml_getR (c := 9) (k := 23) (q := 108) fd_9_23 rf_95_23 (Or.inl fl_X9_62) ho_95 (mj_dt dt_X9_fallsOf 31 rfl) ?_
    refine mj_go_aload_n (k := 0) (x := 95) rfl (mj_dt dt_X9_fallsOf 32 rfl) ?_
    refine ml_getR (c := 9) (k := 22) (q := 107) fd_9_22 rf_95_22 (Or.inl fl_X9_59) ho_95 (mj_dt dt_X9_fallsOf 33 rfl) ?_
    refine mj_go_iload_n (k := 1) (x := v1) rfl (mj_dt dt_X9_fallsOf 34 rfl) ?_
    refine mk_iald c6 (mj_dt dt_X9_fallsOf 35 rfl) ?_
    obtain ⟨c8, h⟩ := mj_ck_some h
    refine mk_iald c8 (mj_dt dt_X9_fallsOf 36 rfl) ?_
    refine mj_go_aload_n (k := 0) (x := 95) rfl (mj_dt dt_X9_fallsOf 37 rfl) ?_
    refine ml_getR (c := 9) (k := 23) (q := 108) fd_9_23 rf_95_23 (Or.inl fl_X9_62) ho_95 (mj_dt dt_X9_fallsOf 38 rfl) ?_
    refine mj_go_iload_n (k := 1) (x := v1) rfl (mj_dt dt_X9_fallsOf 39 rfl) ?_
    refine mk_iald c3 (mj_dt dt_X9_fallsOf 40 rfl) ?_
    refine mj_go_icmp_le (tgt := 65) rfl (mj_dt dt_X9_fallsOf 41 rfl) (fun b9 => ?_) (fun b9 => ?_)
    · rw [if_pos b9] at h
      refine mj_go_sub (lv' := [(3, .int x5)]) (List.forall_mem_cons.mpr ⟨rfl, (fun _ h9 => absurd h9 List.not_mem_nil)⟩) ?_
      exact k_X9_fallsOf_65 h
    · rw [if_neg b9] at h
      obtain ⟨x10, ex10, h⟩ := mj_mw_some h
      refine mj_go_iinc (i := 3) (x := x5) (v := x10) rfl (by rw [ex10] <;> rfl) (by decide) (mj_dt dt_X9_fallsOf 42 rfl) ?_
      refine mj_go_sub (lv' := [(3, .int x10)]) (List.forall_mem_cons.mpr ⟨rfl, (fun _ h9 => absurd h9 List.not_mem_nil)⟩) ?_
      exact k_X9_fallsOf_65 h
def f_X9_oddsBy_27 (N : Nat) (k_9 : Int32 × mj_m → Option (mj_m)) (v1 : Int32) (v2 : Int32) (v3 : Int32) (k_27 : Int32 × mj_m → Option (mj_m)) (s : Int32 × mj_m) : Option (mj_m) := if (1 <<< (v2 &&& 31)) ≤ s.1 then (mj_mw (v2 + 1) (fun x2 => k_9 (x2, s.2))) else (mj_ck (mj_b 1 121 s.1) ( mj_ck (mj_b 1 121 (s.1 ||| (1 <<< (v2 &&& 31)))) ( mj_mw (mj_wL s.2 121 ((s.1 ||| (1 <<< (v2 &&& 31))).toNatClampNeg) ((s.2.2 121 s.1.toNatClampNeg) * (v3.toInt64))) (fun m4 => mj_mw (mj_wL m4 121 (s.1.toNatClampNeg) ((m4.2 121 s.1.toNatClampNeg) * ((10 - v3).toInt64))) (fun m5 => mj_mw (s.1 + 1) (fun x6 => k_27 (x6, m5)))))))
theorem k_X9_oddsBy_27 {L : Nat} {xs : Nat → Int32} {δ N : Nat} {v1 : Int32} {v2 : Int32} {v3 : Int32} {k_9 : Int32 × mj_m → Option (mj_m)} (q_9 : ∀ (s_ : Int32 × mj_m) (a_ : mj_m), k_9 s_ = some a_ → mj_Go (mj_EX L xs) (δ + 1) mY_X9_oddsBy 9 [(0, .ref 95), (1, .int v1), (2, .int s_.1)] [] (mj_fin s_.2) (none, (mj_fin a_))) (hδ : 0 ≤ δ) : ∀ (n : Nat) (s : Int32 × mj_m) (a : mj_m), mj_lp n (f_X9_oddsBy_27 N k_9 v1 v2 v3) s = some a → mj_Go (mj_EX L xs) (δ + 1) mY_X9_oddsBy 27 [(0, .ref 95), (1, .int v1), (2, .int v2), (3, .int v3), (4, .int s.1)] [] (mj_fin s.2) (none, (mj_fin a)) := by
  refine mj_lp_sound (fun k_27 s a q_27 h => ?_)
  unfold f_X9_oddsBy_27 at h
  refine mj_go_iload (i := 4) (x := s.1) rfl (mj_dt dt_X9_oddsBy 18 rfl) ?_
  refine mj_go_iconst (v := 1) rfl (mj_dt dt_X9_oddsBy 19 rfl) ?_
  refine mj_go_iload_n (k := 2) (x := v2) rfl (mj_dt dt_X9_oddsBy 20 rfl) ?_
  refine mj_go_ishl (mj_dt dt_X9_oddsBy 21 rfl) ?_
  refine mj_go_icmp_ge (tgt := 77) rfl (mj_dt dt_X9_oddsBy 22 rfl) (fun b1 => ?_) (fun b1 => ?_)
  · rw [if_pos b1] at h
    obtain ⟨x2, ex2, h⟩ := mj_mw_some h
    refine mj_go_iinc (i := 2) (x := v2) (v := x2) rfl (by rw [ex2] <;> rfl) (by decide) (mj_dt dt_X9_oddsBy 51 rfl) ?_
    refine mj_go_goto (tgt := 9) rfl (mj_dt dt_X9_oddsBy 52 rfl) ?_
    refine mj_go_sub (lv' := [(0, .ref 95), (1, .int v1), (2, .int x2)]) (List.forall_mem_cons.mpr ⟨rfl, (List.forall_mem_cons.mpr ⟨rfl, (List.forall_mem_cons.mpr ⟨rfl, (fun _ h9 => absurd h9 List.not_mem_nil)⟩)⟩)⟩) ?_
    exact q_9 _ _ h
  · rw [if_neg b1] at h
    refine mj_go_aload_n (k := 0) (x := 95) rfl (mj_dt dt_X9_oddsBy 23 rfl) ?_
    refine ml_getR (c := 9) (k := 41) (q := 121) fd_9_41 rf_95_41 (Or.inl fl_X9_102) ho_95 (mj_dt dt_X9_oddsBy 24 rfl) ?_
    refine mj_go_iload (i := 4) (x := s.1) rfl (mj_dt dt_X9_oddsBy 25 rfl) ?_
    refine mj_go_iconst (v := 1) rfl (mj_dt dt_X9_oddsBy 26 rfl) ?_
    refine mj_go_iload_n (k := 2) (x := v2) rfl (mj_dt dt_X9_oddsBy 27 rfl) ?_
    refine mj_go_ishl (mj_dt dt_X9_oddsBy 28 rfl) ?_
    refine mj_go_ior (mj_dt dt_X9_oddsBy 29 rfl) ?_
    refine mj_go_aload_n (k := 0) (x := 95) rfl (mj_dt dt_X9_oddsBy 30 rfl) ?_
    refine ml_getR (c := 9) (k := 41) (q := 121) fd_9_41 rf_95_41 (Or.inl fl_X9_102) ho_95 (mj_dt dt_X9_oddsBy 31 rfl) ?_
    refine mj_go_iload (i := 4) (x := s.1) rfl (mj_dt dt_X9_oddsBy 32 rfl) ?_
    obtain ⟨c2, h⟩ := mj_ck_some h
    refine mk_lald c2 (mj_dt dt_X9_oddsBy 33 rfl) ?_
    refine mj_go_iload_n (k := 3) (x := v3) rfl (mj_dt dt_X9_oddsBy 34 rfl) ?_
    refine mj_go_i2l (mj_dt dt_X9_oddsBy 35 rfl) ?_
    refine mj_go_lmul (mj_dt dt_X9_oddsBy 36 rfl) ?_
    obtain ⟨c3, h⟩ := mj_ck_some h
    obtain ⟨m4, em4, h⟩ := mj_mw_some h
    refine ml_last c3 (mj_dt dt_X9_oddsBy 37 rfl) ?_
    refine ml_eqm (M1 := (mj_fin m4)) (by rw [em4] <;> rfl) ?_
    refine mj_go_aload_n (k := 0) (x := 95) rfl (mj_dt dt_X9_oddsBy 38 rfl) ?_
    refine ml_getR (c := 9) (k := 41) (q := 121) fd_9_41 rf_95_41 (Or.inl fl_X9_102) ho_95 (mj_dt dt_X9_oddsBy 39 rfl) ?_
    refine mj_go_iload (i := 4) (x := s.1) rfl (mj_dt dt_X9_oddsBy 40 rfl) ?_
    refine mj_go_dup2_11 rfl rfl (mj_dt dt_X9_oddsBy 41 rfl) ?_
    refine mk_lald c2 (mj_dt dt_X9_oddsBy 42 rfl) ?_
    refine mj_go_bipush (v := 10) rfl (mj_dt dt_X9_oddsBy 43 rfl) ?_
    refine mj_go_iload_n (k := 3) (x := v3) rfl (mj_dt dt_X9_oddsBy 44 rfl) ?_
    refine mj_go_isub (mj_dt dt_X9_oddsBy 45 rfl) ?_
    refine mj_go_i2l (mj_dt dt_X9_oddsBy 46 rfl) ?_
    refine mj_go_lmul (mj_dt dt_X9_oddsBy 47 rfl) ?_
    obtain ⟨m5, em5, h⟩ := mj_mw_some h
    refine ml_last c2 (mj_dt dt_X9_oddsBy 48 rfl) ?_
    refine ml_eqm (M1 := (mj_fin m5)) (by rw [em5] <;> rfl) ?_
    obtain ⟨x6, ex6, h⟩ := mj_mw_some h
    refine mj_go_iinc (i := 4) (x := s.1) (v := x6) rfl (by rw [ex6] <;> rfl) (by decide) (mj_dt dt_X9_oddsBy 49 rfl) ?_
    refine mj_go_goto (tgt := 27) rfl (mj_dt dt_X9_oddsBy 50 rfl) ?_
    refine mj_go_sub (lv' := [(0, .ref 95), (1, .int v1), (2, .int v2), (3, .int v3), (4, .int x6)]) (List.forall_mem_cons.mpr ⟨rfl, (List.forall_mem_cons.mpr ⟨rfl, (List.forall_mem_cons.mpr ⟨rfl, (List.forall_mem_cons.mpr ⟨rfl, (List.forall_mem_cons.mpr ⟨rfl, (fun _ h9 => absurd h9 List.not_mem_nil)⟩)⟩)⟩)⟩)⟩) ?_
    exact q_27 _ _ h
def f_X9_oddsBy_9 (N : Nat) (v1 : Int32) (k_9 : Int32 × mj_m → Option (mj_m)) (s : Int32 × mj_m) : Option (mj_m) := if (s.2.1 95 1) ≤ s.1 then (some s.2) else ((f_X9_fallsOf N s.1 v1 s.2).bind (fun r2 => mj_lp N (f_X9_oddsBy_27 N k_9 v1 s.1 r2) (0, s.2)))
theorem k_X9_oddsBy_9 {L : Nat} {xs : Nat → Int32} {δ N : Nat} {v1 : Int32} (hδ : 0 ≤ δ) : ∀ (n : Nat) (s : Int32 × mj_m) (a : mj_m), mj_lp n (f_X9_oddsBy_9 N v1) s = some a → mj_Go (mj_EX L xs) (δ + 1) mY_X9_oddsBy 9 [(0, .ref 95), (1, .int v1), (2, .int s.1)] [] (mj_fin s.2) (none, (mj_fin a)) := by
  refine mj_lp_sound (fun k_9 s a q_9 h => ?_)
  unfold f_X9_oddsBy_9 at h
  refine mj_go_iload_n (k := 2) (x := s.1) rfl (mj_dt dt_X9_oddsBy 7 rfl) ?_
  refine mj_go_aload_n (k := 0) (x := 95) rfl (mj_dt dt_X9_oddsBy 8 rfl) ?_
  refine mk_getI (c := 9) (k := 1) (Or.inl fd_9_1) (Or.inl fl_X9_124) ho_95 (mj_dt dt_X9_oddsBy 9 rfl) ?_
  refine mj_go_icmp_ge (tgt := 83) rfl (mj_dt dt_X9_oddsBy 10 rfl) (fun b1 => ?_) (fun b1 => ?_)
  · rw [if_pos b1] at h
    obtain rfl := Option.some.inj h
    exact mj_go_ret (v := none) (Nat.le_of_ble_eq_true rfl) (mj_retV (mj_dt dt_X9_oddsBy 53 rfl) rfl)
  · rw [if_neg b1] at h
    refine mj_go_aload_n (k := 0) (x := 95) rfl (mj_dt dt_X9_oddsBy 11 rfl) ?_
    refine mj_go_iload_n (k := 2) (x := s.1) rfl (mj_dt dt_X9_oddsBy 12 rfl) ?_
    refine mj_go_iload_n (k := 1) (x := v1) rfl (mj_dt dt_X9_oddsBy 13 rfl) ?_
    obtain ⟨r2, er2, h⟩ := mj_bind_some h
    refine ml_callV (Y' := mY_X9_fallsOf) (as := [.int s.1, .int v1]) (rest := []) (c := 9) (v := (some (.int r2))) (M1 := (mj_fin s.2)) ho_95 rfl lm_X9_237 wc_X9_fallsOf pl_X9_fallsOf ok_X9_fallsOf rfl rfl (Nat.le_of_ble_eq_true rfl) (k_X9_fallsOf (by omega) er2) (mj_dt dt_X9_oddsBy 14 rfl) ?_
    refine mj_go_istore_n (k := 3) (by decide) (mj_dt dt_X9_oddsBy 15 rfl) ?_
    refine mj_go_iconst (v := 0) rfl (mj_dt dt_X9_oddsBy 16 rfl) ?_
    refine mj_go_istore (i := 4) (by decide) (mj_dt dt_X9_oddsBy 17 rfl) ?_
    refine mj_go_sub (lv' := [(0, .ref 95), (1, .int v1), (2, .int s.1), (3, .int r2), (4, .int 0)]) (List.forall_mem_cons.mpr ⟨rfl, (List.forall_mem_cons.mpr ⟨rfl, (List.forall_mem_cons.mpr ⟨rfl, (List.forall_mem_cons.mpr ⟨rfl, (List.forall_mem_cons.mpr ⟨rfl, (fun _ h9 => absurd h9 List.not_mem_nil)⟩)⟩)⟩)⟩)⟩) ?_
    exact k_X9_oddsBy_27 q_9 hδ N _ _ h
def f_X9_oddsBy (N : Nat) (v1 : Int32) (m : mj_m) : Option (mj_m) := mj_ck (mj_b 1 121 0) ( mj_mw (mj_wL m 121 ((0 : Int32).toNatClampNeg) 1) (fun m2 => mj_lp N (f_X9_oddsBy_9 N v1) (0, m2)))
theorem k_X9_oddsBy {L : Nat} {xs : Nat → Int32} {δ N : Nat} {v1 : Int32} {m : mj_m} (hδ : 1 ≤ δ) {a : mj_m} (h : f_X9_oddsBy N v1 m = some a) : mj_Cl (mj_EX L xs) δ mY_X9_oddsBy [.ref 95, .int v1] (mj_fin m) (none, (mj_fin a)) := by
  obtain ⟨δ, rfl⟩ : ∃ d, δ = d + 1 := ⟨δ - 1, by omega⟩
  have hδ : 0 ≤ δ := by omega
  refine mj_cl_of ok_X9_oddsBy (Nat.le_of_ble_eq_true rfl) ?_
  unfold f_X9_oddsBy at h
  refine mj_go_aload_n (k := 0) (x := 95) rfl (mj_dt dt_X9_oddsBy 0 rfl) ?_
  refine ml_getR (c := 9) (k := 41) (q := 121) fd_9_41 rf_95_41 (Or.inl fl_X9_102) ho_95 (mj_dt dt_X9_oddsBy 1 rfl) ?_
  refine mj_go_iconst (v := 0) rfl (mj_dt dt_X9_oddsBy 2 rfl) ?_
  refine mj_go_lconst (v := 1) rfl (mj_dt dt_X9_oddsBy 3 rfl) ?_
  obtain ⟨c1, h⟩ := mj_ck_some h
  obtain ⟨m2, em2, h⟩ := mj_mw_some h
  refine ml_last c1 (mj_dt dt_X9_oddsBy 4 rfl) ?_
  refine ml_eqm (M1 := (mj_fin m2)) (by rw [em2] <;> rfl) ?_
  refine mj_go_iconst (v := 0) rfl (mj_dt dt_X9_oddsBy 5 rfl) ?_
  refine mj_go_istore_n (k := 2) (by decide) (mj_dt dt_X9_oddsBy 6 rfl) ?_
  refine mj_go_sub (lv' := [(0, .ref 95), (1, .int v1), (2, .int 0)]) (List.forall_mem_cons.mpr ⟨rfl, (List.forall_mem_cons.mpr ⟨rfl, (List.forall_mem_cons.mpr ⟨rfl, (fun _ h9 => absurd h9 List.not_mem_nil)⟩)⟩)⟩) ?_
  exact k_X9_oddsBy_9 hδ N _ _ h
