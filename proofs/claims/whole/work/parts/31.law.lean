/-! THE LAW as a function of the script and the cells -/
def f_L_law_1643 (N : Nat) (L : Nat) (xs : Nat → Int32) (k_18 : Int32 × mj_m → Option (Int32 × mj_m)) (v3 : Int32) (m : mj_m) : Option (Int32 × mj_m) := mj_mw (v3 + 6) (fun x1 => k_18 (x1, m))
theorem k_L_law_1643 {L : Nat} {xs : Nat → Int32} {δ N : Nat} {v3 : Int32} {m : mj_m} {k_18 : Int32 × mj_m → Option (Int32 × mj_m)} (q_18 : ∀ (s_ : Int32 × mj_m) (a_ : Int32 × mj_m), k_18 s_ = some a_ → mj_Go (mj_EX L xs) (δ + 1) mY_L_law 18 [(0, .ref 9000), (1, .ref 0), (2, .ref 95), (3, .int s_.1)] [] (mj_fin s_.2) (some (.int a_.1), (mj_fin a_.2))) (hδ : 26 ≤ δ) {a : Int32 × mj_m} (h : f_L_law_1643 N L xs k_18 v3 m = some a) : mj_Go (mj_EX L xs) (δ + 1) mY_L_law 1643 [(0, .ref 9000), (1, .ref 0), (2, .ref 95), (3, .int v3)] [] (mj_fin m) (some (.int a.1), (mj_fin a.2)) := by
  unfold f_L_law_1643 at h
  obtain ⟨x1, ex1, h⟩ := mj_mw_some h
  refine mj_go_iinc (i := 3) (x := v3) (v := x1) rfl (by rw [ex1] <;> rfl) (by decide) (mj_dt dt_L_law 1163 rfl) ?_
  refine mj_go_goto (tgt := 18) rfl (mj_dt dt_L_law 1164 rfl) ?_
  refine mj_go_sub (lv' := [(0, .ref 9000), (1, .ref 0), (2, .ref 95), (3, .int x1)]) (List.forall_mem_cons.mpr ⟨rfl, (List.forall_mem_cons.mpr ⟨rfl, (List.forall_mem_cons.mpr ⟨rfl, (List.forall_mem_cons.mpr ⟨rfl, (fun _ h9 => absurd h9 List.not_mem_nil)⟩)⟩)⟩)⟩) ?_
  exact q_18 _ _ h
def f_L_law_858 (N : Nat) (L : Nat) (xs : Nat → Int32) (k_18 : Int32 × mj_m → Option (Int32 × mj_m)) (v3 : Int32) (s0 : Int32) (s2 : Int32) (s3 : Int32) (m : mj_m) : Option (Int32 × mj_m) := (f_X9_prop N s2 s3 m).bind (fun r1 => if s0 = r1.1 then f_L_law_1643 N L xs k_18 v3 r1.2 else (some (0, r1.2)))
theorem k_L_law_858 {L : Nat} {xs : Nat → Int32} {δ N : Nat} {v3 : Int32} {s0 : Int32} {s2 : Int32} {s3 : Int32} {m : mj_m} {k_18 : Int32 × mj_m → Option (Int32 × mj_m)} (q_18 : ∀ (s_ : Int32 × mj_m) (a_ : Int32 × mj_m), k_18 s_ = some a_ → mj_Go (mj_EX L xs) (δ + 1) mY_L_law 18 [(0, .ref 9000), (1, .ref 0), (2, .ref 95), (3, .int s_.1)] [] (mj_fin s_.2) (some (.int a_.1), (mj_fin a_.2))) (hδ : 26 ≤ δ) {a : Int32 × mj_m} (h : f_L_law_858 N L xs k_18 v3 s0 s2 s3 m = some a) : mj_Go (mj_EX L xs) (δ + 1) mY_L_law 858 [(0, .ref 9000), (1, .ref 0), (2, .ref 95), (3, .int v3)] [.int s3, .int s2, .ref 95, .int s0] (mj_fin m) (some (.int a.1), (mj_fin a.2)) := by
  unfold f_L_law_858 at h
  obtain ⟨r1, er1, h⟩ := mj_bind_some h
  refine ml_callV (Y' := mY_X9_prop) (as := [.int s2, .int s3]) (rest := [.int s0]) (c := 9) (v := (some (.int r1.1))) (M1 := (mj_fin r1.2)) ho_95 rfl lm_L_81 wc_X9_prop pl_X9_prop ok_X9_prop rfl rfl (Nat.le_of_ble_eq_true rfl) (k_X9_prop (by omega) er1) (mj_dt dt_L_law 556 rfl) ?_
  refine mj_go_icmp_eq (tgt := 1643) rfl (mj_dt dt_L_law 557 rfl) (fun b2 => ?_) (fun b2 => ?_)
  · rw [if_pos b2] at h
    refine mj_go_sub (lv' := [(0, .ref 9000), (1, .ref 0), (2, .ref 95), (3, .int v3)]) (List.forall_mem_cons.mpr ⟨rfl, (List.forall_mem_cons.mpr ⟨rfl, (List.forall_mem_cons.mpr ⟨rfl, (List.forall_mem_cons.mpr ⟨rfl, (fun _ h9 => absurd h9 List.not_mem_nil)⟩)⟩)⟩)⟩) ?_
    exact k_L_law_1643 q_18 hδ h
  · rw [if_neg b2] at h
    refine mj_go_iconst (v := 0) rfl (mj_dt dt_L_law 558 rfl) ?_
    obtain rfl := Option.some.inj h
    exact mj_go_ret (v := some (.int 0)) (Nat.le_of_ble_eq_true rfl) (mj_retZ (mj_dt dt_L_law 559 rfl) rfl rfl)
def f_L_law_836 (N : Nat) (L : Nat) (xs : Nat → Int32) (k_18 : Int32 × mj_m → Option (Int32 × mj_m)) (v3 : Int32) (s1 : Int32) (s2 : Int32) (m : mj_m) : Option (Int32 × mj_m) := (f_X8_prop N s1 s2 m).bind (fun r1 => mj_ck (mj_xb L (v3 + 1)) ( mj_ck (mj_xb L (v3 + 2)) ( if (xs (v3 + 2).toNatClampNeg) = 0 then (f_L_law_858 N L xs k_18 v3 r1.1 (xs (v3 + 1).toNatClampNeg) 0 r1.2) else (f_L_law_858 N L xs k_18 v3 r1.1 (xs (v3 + 1).toNatClampNeg) 1 r1.2))))
theorem k_L_law_836 {L : Nat} {xs : Nat → Int32} {δ N : Nat} {v3 : Int32} {s1 : Int32} {s2 : Int32} {m : mj_m} {k_18 : Int32 × mj_m → Option (Int32 × mj_m)} (q_18 : ∀ (s_ : Int32 × mj_m) (a_ : Int32 × mj_m), k_18 s_ = some a_ → mj_Go (mj_EX L xs) (δ + 1) mY_L_law 18 [(0, .ref 9000), (1, .ref 0), (2, .ref 95), (3, .int s_.1)] [] (mj_fin s_.2) (some (.int a_.1), (mj_fin a_.2))) (hδ : 26 ≤ δ) {a : Int32 × mj_m} (h : f_L_law_836 N L xs k_18 v3 s1 s2 m = some a) : mj_Go (mj_EX L xs) (δ + 1) mY_L_law 836 [(0, .ref 9000), (1, .ref 0), (2, .ref 95), (3, .int v3)] [.int s2, .int s1, .ref 0] (mj_fin m) (some (.int a.1), (mj_fin a.2)) := by
  unfold f_L_law_836 at h
  obtain ⟨r1, er1, h⟩ := mj_bind_some h
  refine ml_callV (Y' := mY_X8_prop) (as := [.int s1, .int s2]) (rest := []) (c := 8) (v := (some (.int r1.1))) (M1 := (mj_fin r1.2)) ho_0 rfl lm_L_77 wc_X8_prop pl_X8_prop ok_X8_prop rfl rfl (Nat.le_of_ble_eq_true rfl) (k_X8_prop (by omega) er1) (mj_dt dt_L_law 540 rfl) ?_
  refine mj_go_aload_n (k := 2) (x := 95) rfl (mj_dt dt_L_law 541 rfl) ?_
  refine mj_go_aload_n (k := 0) (x := 9000) rfl (mj_dt dt_L_law 542 rfl) ?_
  refine mj_go_iload_n (k := 3) (x := v3) rfl (mj_dt dt_L_law 543 rfl) ?_
  refine mj_go_iconst (v := 1) rfl (mj_dt dt_L_law 544 rfl) ?_
  refine mj_go_iadd (mj_dt dt_L_law 545 rfl) ?_
  obtain ⟨c2, h⟩ := mj_ck_some h
  refine mj_go_xld (j := 9000) (by decide) (mj_xb_use c2) (mj_dt dt_L_law 546 rfl) ?_
  refine mj_go_aload_n (k := 0) (x := 9000) rfl (mj_dt dt_L_law 547 rfl) ?_
  refine mj_go_iload_n (k := 3) (x := v3) rfl (mj_dt dt_L_law 548 rfl) ?_
  refine mj_go_iconst (v := 2) rfl (mj_dt dt_L_law 549 rfl) ?_
  refine mj_go_iadd (mj_dt dt_L_law 550 rfl) ?_
  obtain ⟨c3, h⟩ := mj_ck_some h
  refine mj_go_xld (j := 9000) (by decide) (mj_xb_use c3) (mj_dt dt_L_law 551 rfl) ?_
  refine mj_go_if_eq (tgt := 857) rfl (mj_dt dt_L_law 552 rfl) (fun b4 => ?_) (fun b4 => ?_)
  · rw [if_pos b4] at h
    refine mj_go_iconst (v := 0) rfl (mj_dt dt_L_law 555 rfl) ?_
    refine mj_go_sub (lv' := [(0, .ref 9000), (1, .ref 0), (2, .ref 95), (3, .int v3)]) (List.forall_mem_cons.mpr ⟨rfl, (List.forall_mem_cons.mpr ⟨rfl, (List.forall_mem_cons.mpr ⟨rfl, (List.forall_mem_cons.mpr ⟨rfl, (fun _ h9 => absurd h9 List.not_mem_nil)⟩)⟩)⟩)⟩) ?_
    exact k_L_law_858 q_18 hδ h
  · rw [if_neg b4] at h
    refine mj_go_iconst (v := 1) rfl (mj_dt dt_L_law 553 rfl) ?_
    refine mj_go_goto (tgt := 858) rfl (mj_dt dt_L_law 554 rfl) ?_
    refine mj_go_sub (lv' := [(0, .ref 9000), (1, .ref 0), (2, .ref 95), (3, .int v3)]) (List.forall_mem_cons.mpr ⟨rfl, (List.forall_mem_cons.mpr ⟨rfl, (List.forall_mem_cons.mpr ⟨rfl, (List.forall_mem_cons.mpr ⟨rfl, (fun _ h9 => absurd h9 List.not_mem_nil)⟩)⟩)⟩)⟩) ?_
    exact k_L_law_858 q_18 hδ h
def f_L_law_18 (N : Nat) (L : Nat) (xs : Nat → Int32) (k_18 : Int32 × mj_m → Option (Int32 × mj_m)) (s : Int32 × mj_m) : Option (Int32 × mj_m) := if ((Int32.ofNat L) - 6) < s.1 then (some (1, s.2)) else (mj_ck (mj_xb L s.1) ( if ((xs s.1.toNatClampNeg) &&& 63) = 0 then (mj_ck (mj_xb L (s.1 + 1)) ( mj_ck (mj_xb L (s.1 + 2)) ( mj_ck (mj_xb L (s.1 + 3)) ( (f_X8_row N (xs (s.1 + 1).toNatClampNeg) (xs (s.1 + 2).toNatClampNeg) (xs (s.1 + 3).toNatClampNeg) s.2).bind (fun r7 => (f_X9_row N (xs (s.1 + 1).toNatClampNeg) (xs (s.1 + 2).toNatClampNeg) (xs (s.1 + 3).toNatClampNeg) r7.2).bind (fun r8 => if r7.1 = r8.1 then f_L_law_1643 N L xs k_18 s.1 r8.2 else (some (0, r8.2)))))))) else if ((xs s.1.toNatClampNeg) &&& 63) = 1 then (mj_ck (mj_xb L (s.1 + 1)) ( mj_ck (mj_xb L (s.1 + 2)) ( mj_ck (mj_xb L (s.1 + 3)) ( mj_ck (mj_xb L (s.1 + 4)) ( (f_X8_set N (xs (s.1 + 1).toNatClampNeg) (xs (s.1 + 2).toNatClampNeg) ((((xs (s.1 + 3).toNatClampNeg).toInt64) <<< ((32 : Int32).toInt64 &&& 63)) ||| (((xs (s.1 + 4).toNatClampNeg).toInt64) &&& 4294967295)) s.2).bind (fun r9 => (f_X9_set N (xs (s.1 + 1).toNatClampNeg) (xs (s.1 + 2).toNatClampNeg) ((((xs (s.1 + 3).toNatClampNeg).toInt64) <<< ((32 : Int32).toInt64 &&& 63)) ||| (((xs (s.1 + 4).toNatClampNeg).toInt64) &&& 4294967295)) r9.2).bind (fun r10 => if r9.1 = r10.1 then f_L_law_1643 N L xs k_18 s.1 r10.2 else (some (0, r10.2))))))))) else if ((xs s.1.toNatClampNeg) &&& 63) = 2 then (mj_ck (mj_xb L (s.1 + 1)) ( mj_ck (mj_xb L (s.1 + 2)) ( mj_ck (mj_xb L (s.1 + 3)) ( mj_ck (mj_xb L (s.1 + 4)) ( mj_ck (mj_xb L (s.1 + 5)) ( (f_X8_copy N (xs (s.1 + 1).toNatClampNeg) (xs (s.1 + 2).toNatClampNeg) (xs (s.1 + 3).toNatClampNeg) (xs (s.1 + 4).toNatClampNeg) (xs (s.1 + 5).toNatClampNeg) s.2).bind (fun r11 => (f_X9_copy N (xs (s.1 + 1).toNatClampNeg) (xs (s.1 + 2).toNatClampNeg) (xs (s.1 + 3).toNatClampNeg) (xs (s.1 + 4).toNatClampNeg) (xs (s.1 + 5).toNatClampNeg) r11.2).bind (fun r12 => if r11.1 = r12.1 then f_L_law_1643 N L xs k_18 s.1 r12.2 else (some (0, r12.2)))))))))) else if ((xs s.1.toNatClampNeg) &&& 63) = 3 then (mj_ck (mj_xb L (s.1 + 1)) ( mj_ck (mj_xb L (s.1 + 2)) ( (f_X8_element N (xs (s.1 + 1).toNatClampNeg) (xs (s.1 + 2).toNatClampNeg) s.2).bind (fun r9 => (f_X9_element N (xs (s.1 + 1).toNatClampNeg) (xs (s.1 + 2).toNatClampNeg) s.2).bind (fun r10 => if (lg_cmp r9 r10) = 0 then f_L_law_1643 N L xs k_18 s.1 s.2 else (some (0, s.2))))))) else if ((xs s.1.toNatClampNeg) &&& 63) = 4 then (mj_ck (mj_xb L (s.1 + 1)) ( mj_ck (mj_xb L (s.1 + 2)) ( mj_ck (mj_xb L (s.1 + 3)) ( (f_X8_rule N (xs (s.1 + 1).toNatClampNeg) (xs (s.1 + 2).toNatClampNeg) (xs (s.1 + 3).toNatClampNeg) s.2).bind (fun r11 => (f_X9_rule N (xs (s.1 + 1).toNatClampNeg) (xs (s.1 + 2).toNatClampNeg) (xs (s.1 + 3).toNatClampNeg) r11.2).bind (fun r12 => if r11.1 = r12.1 then f_L_law_1643 N L xs k_18 s.1 r12.2 else (some (0, r12.2)))))))) else if ((xs s.1.toNatClampNeg) &&& 63) = 5 then (mj_ck (mj_xb L (s.1 + 1)) ( (f_X8_holds N (xs (s.1 + 1).toNatClampNeg) s.2).bind (fun r10 => (f_X9_holds N (xs (s.1 + 1).toNatClampNeg) s.2).bind (fun r11 => if r10 = r11 then f_L_law_1643 N L xs k_18 s.1 s.2 else (some (0, s.2)))))) else if ((xs s.1.toNatClampNeg) &&& 63) = 6 then (mj_ck (mj_xb L (s.1 + 1)) ( mj_ck (mj_xb L (s.1 + 2)) ( (f_X8_says N (xs (s.1 + 1).toNatClampNeg) (xs (s.1 + 2).toNatClampNeg) s.2).bind (fun r12 => (f_X9_says N (xs (s.1 + 1).toNatClampNeg) (xs (s.1 + 2).toNatClampNeg) r12.2).bind (fun r13 => if r12.1 = r13.1 then f_L_law_1643 N L xs k_18 s.1 r13.2 else (some (0, r13.2))))))) else if ((xs s.1.toNatClampNeg) &&& 63) = 7 then (mj_ck (mj_xb L (s.1 + 1)) ( mj_ck (mj_xb L (s.1 + 2)) ( (f_X8_street N (xs (s.1 + 1).toNatClampNeg) (xs (s.1 + 2).toNatClampNeg) s.2).bind (fun r13 => (f_X9_street N (xs (s.1 + 1).toNatClampNeg) (xs (s.1 + 2).toNatClampNeg) r13.2).bind (fun r14 => if r13.1 = r14.1 then f_L_law_1643 N L xs k_18 s.1 r14.2 else (some (0, r14.2))))))) else if ((xs s.1.toNatClampNeg) &&& 63) = 8 then (mj_ck (mj_xb L (s.1 + 1)) ( mj_ck (mj_xb L (s.1 + 2)) ( mj_ck (mj_xb L (s.1 + 3)) ( mj_ck (mj_xb L (s.1 + 4)) ( mj_ck (mj_xb L (s.1 + 5)) ( (f_X8_house N (xs (s.1 + 1).toNatClampNeg) (xs (s.1 + 2).toNatClampNeg) (xs (s.1 + 3).toNatClampNeg) (xs (s.1 + 4).toNatClampNeg) (xs (s.1 + 5).toNatClampNeg) s.2).bind (fun r17 => (f_X9_house N (xs (s.1 + 1).toNatClampNeg) (xs (s.1 + 2).toNatClampNeg) (xs (s.1 + 3).toNatClampNeg) (xs (s.1 + 4).toNatClampNeg) (xs (s.1 + 5).toNatClampNeg) r17.2).bind (fun r18 => if r17.1 = r18.1 then f_L_law_1643 N L xs k_18 s.1 r18.2 else (some (0, r18.2)))))))))) else if ((xs s.1.toNatClampNeg) &&& 63) = 9 then (mj_ck (mj_xb L (s.1 + 1)) ( mj_ck (mj_xb L (s.1 + 2)) ( mj_ck (mj_xb L (s.1 + 3)) ( (f_X8_houses N (xs (s.1 + 1).toNatClampNeg) (xs (s.1 + 2).toNatClampNeg) (xs (s.1 + 3).toNatClampNeg) s.2).bind (fun r16 => (f_X9_houses N (xs (s.1 + 1).toNatClampNeg) (xs (s.1 + 2).toNatClampNeg) (xs (s.1 + 3).toNatClampNeg) r16.2).bind (fun r17 => if r16.1 = r17.1 then f_L_law_1643 N L xs k_18 s.1 r17.2 else (some (0, r17.2)))))))) else if ((xs s.1.toNatClampNeg) &&& 63) = 10 then (mj_ck (mj_xb L (s.1 + 1)) ( mj_ck (mj_xb L (s.1 + 2)) ( (f_X8_houseOf N (xs (s.1 + 1).toNatClampNeg) (xs (s.1 + 2).toNatClampNeg) s.2).bind (fun r16 => (f_X9_houseOf N (xs (s.1 + 1).toNatClampNeg) (xs (s.1 + 2).toNatClampNeg) r16.2).bind (fun r17 => if r16.1 = r17.1 then f_L_law_1643 N L xs k_18 s.1 r17.2 else (some (0, r17.2))))))) else if ((xs s.1.toNatClampNeg) &&& 63) = 11 then (mj_ck (mj_xb L (s.1 + 1)) ( mj_ck (mj_xb L (s.1 + 2)) ( (f_X8_front N (xs (s.1 + 1).toNatClampNeg) (xs (s.1 + 2).toNatClampNeg) s.2).bind (fun r17 => (f_X9_front N (xs (s.1 + 1).toNatClampNeg) (xs (s.1 + 2).toNatClampNeg) r17.2).bind (fun r18 => if r17.1 = r18.1 then f_L_law_1643 N L xs k_18 s.1 r18.2 else (some (0, r18.2))))))) else if ((xs s.1.toNatClampNeg) &&& 63) = 12 then (mj_ck (mj_xb L (s.1 + 1)) ( mj_ck (mj_xb L (s.1 + 2)) ( (f_X8_next N (xs (s.1 + 1).toNatClampNeg) (xs (s.1 + 2).toNatClampNeg) s.2).bind (fun r18 => (f_X9_next N (xs (s.1 + 1).toNatClampNeg) (xs (s.1 + 2).toNatClampNeg) r18.2).bind (fun r19 => if r18.1 = r19.1 then f_L_law_1643 N L xs k_18 s.1 r19.2 else (some (0, r19.2))))))) else if ((xs s.1.toNatClampNeg) &&& 63) = 13 then (mj_ck (mj_xb L (s.1 + 1)) ( mj_ck (mj_xb L (s.1 + 2)) ( mj_ck (mj_xb L (s.1 + 3)) ( (f_X8_alter N (xs (s.1 + 1).toNatClampNeg) (xs (s.1 + 2).toNatClampNeg) (xs (s.1 + 3).toNatClampNeg) s.2).bind (fun r20 => (f_X9_alter N (xs (s.1 + 1).toNatClampNeg) (xs (s.1 + 2).toNatClampNeg) (xs (s.1 + 3).toNatClampNeg) r20.2).bind (fun r21 => if r20.1 = r21.1 then f_L_law_1643 N L xs k_18 s.1 r21.2 else (some (0, r21.2)))))))) else if ((xs s.1.toNatClampNeg) &&& 63) = 14 then (mj_ck (mj_xb L (s.1 + 1)) ( mj_ck (mj_xb L (s.1 + 2)) ( if (xs (s.1 + 2).toNatClampNeg) = 0 then (f_L_law_836 N L xs k_18 s.1 (xs (s.1 + 1).toNatClampNeg) 0 s.2) else (f_L_law_836 N L xs k_18 s.1 (xs (s.1 + 1).toNatClampNeg) 1 s.2)))) else if ((xs s.1.toNatClampNeg) &&& 63) = 15 then (mj_ck (mj_xb L (s.1 + 1)) ( mj_ck (mj_xb L (s.1 + 2)) ( (f_X8_shake N (xs (s.1 + 1).toNatClampNeg) (xs (s.1 + 2).toNatClampNeg) s.2).bind (fun r21 => (f_X9_shake N (xs (s.1 + 1).toNatClampNeg) (xs (s.1 + 2).toNatClampNeg) r21.2).bind (fun r22 => if r21.1 = r22.1 then f_L_law_1643 N L xs k_18 s.1 r22.2 else (some (0, r22.2))))))) else if ((xs s.1.toNatClampNeg) &&& 63) = 16 then (mj_ck (mj_xb L (s.1 + 1)) ( mj_ck (mj_xb L (s.1 + 2)) ( (f_X8_ask N (xs (s.1 + 1).toNatClampNeg) (xs (s.1 + 2).toNatClampNeg) s.2).bind (fun r22 => (f_X9_ask N (xs (s.1 + 1).toNatClampNeg) (xs (s.1 + 2).toNatClampNeg) r22.2).bind (fun r23 => if r22.1 = r23.1 then f_L_law_1643 N L xs k_18 s.1 r23.2 else (some (0, r23.2))))))) else if ((xs s.1.toNatClampNeg) &&& 63) = 17 then (mj_ck (mj_xb L (s.1 + 1)) ( (f_X8_town N (xs (s.1 + 1).toNatClampNeg) s.2).bind (fun r22 => (f_X9_town N (xs (s.1 + 1).toNatClampNeg) r22.2).bind (fun r23 => if r22.1 = r23.1 then f_L_law_1643 N L xs k_18 s.1 r23.2 else (some (0, r23.2)))))) else if ((xs s.1.toNatClampNeg) &&& 63) = 18 then ((f_X8_fault N s.2).bind (fun r22 => (f_X9_fault N s.2).bind (fun r23 => if r22 = r23 then f_L_law_1643 N L xs k_18 s.1 s.2 else (some (0, s.2))))) else if ((xs s.1.toNatClampNeg) &&& 63) = 19 then (mj_ck (mj_xb L (s.1 + 1)) ( mj_ck (mj_xb L (s.1 + 2)) ( (f_X8_falls N (xs (s.1 + 1).toNatClampNeg) (xs (s.1 + 2).toNatClampNeg) s.2).bind (fun r25 => (f_X9_falls N (xs (s.1 + 1).toNatClampNeg) (xs (s.1 + 2).toNatClampNeg) r25.2).bind (fun r26 => if r25.1 = r26.1 then f_L_law_1643 N L xs k_18 s.1 r26.2 else (some (0, r26.2))))))) else if ((xs s.1.toNatClampNeg) &&& 63) = 20 then (mj_ck (mj_xb L (s.1 + 1)) ( (f_X8_cut N (xs (s.1 + 1).toNatClampNeg) s.2).bind (fun r25 => (f_X9_cut N (xs (s.1 + 1).toNatClampNeg) r25.2).bind (fun r26 => if r25.1 = r26.1 then f_L_law_1643 N L xs k_18 s.1 r26.2 else (some (0, r26.2)))))) else if ((xs s.1.toNatClampNeg) &&& 63) = 21 then (mj_ck (mj_xb L (s.1 + 1)) ( mj_ck (mj_xb L (s.1 + 2)) ( (f_X8_lost N (xs (s.1 + 1).toNatClampNeg) (xs (s.1 + 2).toNatClampNeg) s.2).bind (fun r27 => (f_X9_lost N (xs (s.1 + 1).toNatClampNeg) (xs (s.1 + 2).toNatClampNeg) r27.2).bind (fun r28 => if (lg_cmp r27.1 r28.1) = 0 then f_L_law_1643 N L xs k_18 s.1 r28.2 else (some (0, r28.2))))))) else if ((xs s.1.toNatClampNeg) &&& 63) = 22 then (mj_ck (mj_xb L (s.1 + 1)) ( mj_ck (mj_xb L (s.1 + 2)) ( (f_X8_dead N (xs (s.1 + 1).toNatClampNeg) (xs (s.1 + 2).toNatClampNeg) s.2).bind (fun r28 => (f_X9_dead N (xs (s.1 + 1).toNatClampNeg) (xs (s.1 + 2).toNatClampNeg) r28.2).bind (fun r29 => if (lg_cmp r28.1 r29.1) = 0 then f_L_law_1643 N L xs k_18 s.1 r29.2 else (some (0, r29.2))))))) else if ((xs s.1.toNatClampNeg) &&& 63) = 23 then (mj_ck (mj_xb L (s.1 + 1)) ( mj_ck (mj_xb L (s.1 + 2)) ( (f_X8_shuts N (xs (s.1 + 1).toNatClampNeg) (xs (s.1 + 2).toNatClampNeg) s.2).bind (fun r29 => (f_X9_shuts N (xs (s.1 + 1).toNatClampNeg) (xs (s.1 + 2).toNatClampNeg) r29.2).bind (fun r30 => if (lg_cmp r29.1 r30.1) = 0 then f_L_law_1643 N L xs k_18 s.1 r30.2 else (some (0, r30.2))))))) else if ((xs s.1.toNatClampNeg) &&& 63) = 24 then ((f_X8_mean N s.2).bind (fun r28 => (f_X9_mean N r28.2).bind (fun r29 => if (lg_cmp r28.1 r29.1) = 0 then f_L_law_1643 N L xs k_18 s.1 r29.2 else (some (0, r29.2))))) else if ((xs s.1.toNatClampNeg) &&& 63) = 25 then (mj_ck (mj_xb L (s.1 + 1)) ( (f_X8_worth N (xs (s.1 + 1).toNatClampNeg) s.2).bind (fun r30 => (f_X9_worth N (xs (s.1 + 1).toNatClampNeg) r30.2).bind (fun r31 => if (lg_cmp r30.1 r31.1) = 0 then f_L_law_1643 N L xs k_18 s.1 r31.2 else (some (0, r31.2)))))) else if ((xs s.1.toNatClampNeg) &&& 63) = 26 then ((f_X8_which N s.2).bind (fun r30 => (f_X9_which N r30.2).bind (fun r31 => if r30.1 = r31.1 then f_L_law_1643 N L xs k_18 s.1 r31.2 else (some (0, r31.2))))) else if ((xs s.1.toNatClampNeg) &&& 63) = 27 then (mj_ck (mj_xb L (s.1 + 1)) ( mj_ck (mj_xb L (s.1 + 2)) ( (f_X8_order N (xs (s.1 + 1).toNatClampNeg) (xs (s.1 + 2).toNatClampNeg) s.2).bind (fun r33 => (f_X9_order N (xs (s.1 + 1).toNatClampNeg) (xs (s.1 + 2).toNatClampNeg) r33.2).bind (fun r34 => if r33.1 = r34.1 then f_L_law_1643 N L xs k_18 s.1 r34.2 else (some (0, r34.2))))))) else if ((xs s.1.toNatClampNeg) &&& 63) = 28 then (mj_ck (mj_xb L (s.1 + 1)) ( mj_ck (mj_xb L (s.1 + 2)) ( (f_X8_plan N (xs (s.1 + 1).toNatClampNeg) (xs (s.1 + 2).toNatClampNeg) s.2).bind (fun r34 => (f_X9_plan N (xs (s.1 + 1).toNatClampNeg) (xs (s.1 + 2).toNatClampNeg) r34.2).bind (fun r35 => if (lg_cmp r34.1 r35.1) = 0 then f_L_law_1643 N L xs k_18 s.1 r35.2 else (some (0, r35.2))))))) else if ((xs s.1.toNatClampNeg) &&& 63) = 29 then (mj_ck (mj_xb L (s.1 + 1)) ( mj_ck (mj_xb L (s.1 + 2)) ( (f_X8_steps N (xs (s.1 + 1).toNatClampNeg) (xs (s.1 + 2).toNatClampNeg) s.2).bind (fun r35 => (f_X9_steps N (xs (s.1 + 1).toNatClampNeg) (xs (s.1 + 2).toNatClampNeg) r35.2).bind (fun r36 => if r35.1 = r36.1 then f_L_law_1643 N L xs k_18 s.1 r36.2 else (some (0, r36.2))))))) else if ((xs s.1.toNatClampNeg) &&& 63) = 30 then (mj_ck (mj_xb L (s.1 + 1)) ( mj_ck (mj_xb L (s.1 + 2)) ( (f_X8_judge N (xs (s.1 + 1).toNatClampNeg) (xs (s.1 + 2).toNatClampNeg) s.2).bind (fun r36 => (f_X9_judge N (xs (s.1 + 1).toNatClampNeg) (xs (s.1 + 2).toNatClampNeg) r36.2).bind (fun r37 => if (lg_cmp r36.1 r37.1) = 0 then f_L_law_1643 N L xs k_18 s.1 r37.2 else (some (0, r37.2))))))) else if ((xs s.1.toNatClampNeg) &&& 63) = 31 then (mj_ck (mj_xb L (s.1 + 1)) ( (f_X8_best N (xs (s.1 + 1).toNatClampNeg) s.2).bind (fun r36 => (f_X9_best N (xs (s.1 + 1).toNatClampNeg) r36.2).bind (fun r37 => if (lg_cmp r36.1 r37.1) = 0 then f_L_law_1643 N L xs k_18 s.1 r37.2 else (some (0, r37.2)))))) else if ((xs s.1.toNatClampNeg) &&& 63) = 32 then (mj_ck (mj_xb L (s.1 + 1)) ( mj_ck (mj_xb L (s.1 + 2)) ( (f_X8_first N (xs (s.1 + 1).toNatClampNeg) (xs (s.1 + 2).toNatClampNeg) s.2).bind (fun r38 => (f_X9_first N (xs (s.1 + 1).toNatClampNeg) (xs (s.1 + 2).toNatClampNeg) r38.2).bind (fun r39 => if r38.1 = r39.1 then f_L_law_1643 N L xs k_18 s.1 r39.2 else (some (0, r39.2))))))) else if ((xs s.1.toNatClampNeg) &&& 63) = 33 then (mj_ck (mj_xb L (s.1 + 1)) ( mj_ck (mj_xb L (s.1 + 2)) ( (f_X8_gap N (xs (s.1 + 1).toNatClampNeg) (xs (s.1 + 2).toNatClampNeg) s.2).bind (fun r39 => (f_X9_gap N (xs (s.1 + 1).toNatClampNeg) (xs (s.1 + 2).toNatClampNeg) r39.2).bind (fun r40 => if (lg_cmp r39.1 r40.1) = 0 then f_L_law_1643 N L xs k_18 s.1 r40.2 else (some (0, r40.2))))))) else if ((xs s.1.toNatClampNeg) &&& 63) = 34 then (mj_ck (mj_xb L (s.1 + 1)) ( (f_X8_bound N (xs (s.1 + 1).toNatClampNeg) s.2).bind (fun r39 => (f_X9_bound N (xs (s.1 + 1).toNatClampNeg) r39.2).bind (fun r40 => if (lg_cmp r39.1 r40.1) = 0 then f_L_law_1643 N L xs k_18 s.1 r40.2 else (some (0, r40.2)))))) else if ((xs s.1.toNatClampNeg) &&& 63) = 35 then (mj_ck (mj_xb L (s.1 + 1)) ( (f_X8_head N (xs (s.1 + 1).toNatClampNeg) s.2).bind (fun r40 => (f_X9_head N (xs (s.1 + 1).toNatClampNeg) r40.2).bind (fun r41 => if r40.1 = r41.1 then f_L_law_1643 N L xs k_18 s.1 r41.2 else (some (0, r41.2)))))) else if ((xs s.1.toNatClampNeg) &&& 63) = 36 then (mj_ck (mj_xb L (s.1 + 1)) ( (f_X8_narrow N (xs (s.1 + 1).toNatClampNeg) s.2).bind (fun r41 => (f_X9_narrow N (xs (s.1 + 1).toNatClampNeg) r41.2).bind (fun r42 => if r41.1 = r42.1 then f_L_law_1643 N L xs k_18 s.1 r42.2 else (some (0, r42.2)))))) else if ((xs s.1.toNatClampNeg) &&& 63) = 37 then (mj_ck (mj_xb L (s.1 + 1)) ( mj_ck (mj_xb L (s.1 + 2)) ( (f_X8_years N (xs (s.1 + 1).toNatClampNeg) (xs (s.1 + 2).toNatClampNeg) s.2).bind (fun r43 => (f_X9_years N (xs (s.1 + 1).toNatClampNeg) (xs (s.1 + 2).toNatClampNeg) r43.2).bind (fun r44 => if r43.1 = r44.1 then f_L_law_1643 N L xs k_18 s.1 r44.2 else (some (0, r44.2))))))) else if ((xs s.1.toNatClampNeg) &&& 63) = 38 then (mj_ck (mj_xb L (s.1 + 1)) ( (f_X8_seed N (xs (s.1 + 1).toNatClampNeg) s.2).bind (fun r43 => (f_X9_seed N (xs (s.1 + 1).toNatClampNeg) r43.2).bind (fun r44 => if r43.1 = r44.1 then f_L_law_1643 N L xs k_18 s.1 r44.2 else (some (0, r44.2)))))) else if ((xs s.1.toNatClampNeg) &&& 63) = 39 then (mj_ck (mj_xb L (s.1 + 1)) ( mj_ck (mj_xb L (s.1 + 2)) ( mj_ck (mj_xb L (s.1 + 3)) ( (f_X8_act N (xs (s.1 + 1).toNatClampNeg) (xs (s.1 + 2).toNatClampNeg) (xs (s.1 + 3).toNatClampNeg) s.2).bind (fun r46 => (f_X9_act N (xs (s.1 + 1).toNatClampNeg) (xs (s.1 + 2).toNatClampNeg) (xs (s.1 + 3).toNatClampNeg) r46.2).bind (fun r47 => if r46.1 = r47.1 then f_L_law_1643 N L xs k_18 s.1 r47.2 else (some (0, r47.2)))))))) else if ((xs s.1.toNatClampNeg) &&& 63) = 40 then (mj_ck (mj_xb L (s.1 + 1)) ( (f_X8_trace N (xs (s.1 + 1).toNatClampNeg) s.2).bind (fun r45 => (f_X9_trace N (xs (s.1 + 1).toNatClampNeg) s.2).bind (fun r46 => if r45 = r46 then f_L_law_1643 N L xs k_18 s.1 s.2 else (some (0, s.2)))))) else if ((xs s.1.toNatClampNeg) &&& 63) = 41 then ((f_X8_image N s.2).bind (fun r45 => (f_X9_image N r45.2).bind (fun r46 => if r45.1 = r46.1 then f_L_law_1643 N L xs k_18 s.1 r46.2 else (some (0, r46.2))))) else if ((xs s.1.toNatClampNeg) &&& 63) = 42 then ((f_X8_restore N s.2).bind (fun r46 => (f_X9_restore N r46.2).bind (fun r47 => if r46.1 = r47.1 then f_L_law_1643 N L xs k_18 s.1 r47.2 else (some (0, r47.2))))) else if ((xs s.1.toNatClampNeg) &&& 63) = 43 then (mj_ck (mj_xb L (s.1 + 1)) ( (f_X8_status N (xs (s.1 + 1).toNatClampNeg) s.2).bind (fun r48 => (f_X9_status N (xs (s.1 + 1).toNatClampNeg) s.2).bind (fun r49 => if r48 = r49 then f_L_law_1643 N L xs k_18 s.1 s.2 else (some (0, s.2)))))) else f_L_law_1643 N L xs k_18 s.1 s.2))
theorem k_L_law_18 {L : Nat} {xs : Nat → Int32} {δ N : Nat} (hδ : 26 ≤ δ) : ∀ (n : Nat) (s : Int32 × mj_m) (a : Int32 × mj_m), mj_lp n (f_L_law_18 N L xs) s = some a → mj_Go (mj_EX L xs) (δ + 1) mY_L_law 18 [(0, .ref 9000), (1, .ref 0), (2, .ref 95), (3, .int s.1)] [] (mj_fin s.2) (some (.int a.1), (mj_fin a.2)) := by
  refine mj_lp_sound (fun k_18 s a q_18 h => ?_)
  unfold f_L_law_18 at h
  refine mj_go_iload_n (k := 3) (x := s.1) rfl (mj_dt dt_L_law 10 rfl) ?_
  refine mj_go_aload_n (k := 0) (x := 9000) rfl (mj_dt dt_L_law 11 rfl) ?_
  refine mj_go_xlen (j := 9000) (by decide) (mj_dt dt_L_law 12 rfl) ?_
  refine mj_go_bipush (v := 6) rfl (mj_dt dt_L_law 13 rfl) ?_
  refine mj_go_isub (mj_dt dt_L_law 14 rfl) ?_
  refine mj_go_icmp_gt (tgt := 1649) rfl (mj_dt dt_L_law 15 rfl) (fun b1 => ?_) (fun b1 => ?_)
  · rw [if_pos b1] at h
    refine mj_go_iconst (v := 1) rfl (mj_dt dt_L_law 1165 rfl) ?_
    obtain rfl := Option.some.inj h
    exact mj_go_ret (v := some (.int 1)) (Nat.le_of_ble_eq_true rfl) (mj_retZ (mj_dt dt_L_law 1166 rfl) rfl rfl)
  · rw [if_neg b1] at h
    refine mj_go_aload_n (k := 0) (x := 9000) rfl (mj_dt dt_L_law 16 rfl) ?_
    refine mj_go_iload_n (k := 3) (x := s.1) rfl (mj_dt dt_L_law 17 rfl) ?_
    obtain ⟨c2, h⟩ := mj_ck_some h
    refine mj_go_xld (j := 9000) (by decide) (mj_xb_use c2) (mj_dt dt_L_law 18 rfl) ?_
    refine mj_go_bipush (v := 63) rfl (mj_dt dt_L_law 19 rfl) ?_
    refine mj_go_iand (mj_dt dt_L_law 20 rfl) ?_
    refine mj_go_tsw [(0, 191), (1, 234), (2, 307), (3, 370), (4, 404), (5, 447), (6, 470), (7, 503), (8, 536), (9, 599), (10, 642), (11, 675), (12, 708), (13, 741), (14, 784), (15, 833), (16, 866), (17, 899), (18, 922), (19, 935), (20, 968), (21, 991), (22, 1025), (23, 1059), (24, 1093), (25, 1107), (26, 1131), (27, 1144), (28, 1177), (29, 1211), (30, 1244), (31, 1278), (32, 1302), (33, 1335), (34, 1369), (35, 1393), (36, 1416), (37, 1439), (38, 1472), (39, 1495), (40, 1538), (41, 1561), (42, 1574), (43, 1587)] (by decide) (by decide) (mj_dt dt_L_law 21 rfl) ?_
    refine ⟨fun b3 => ?_, fun b3 => ?_⟩
    · rw [if_pos b3] at h
      refine ⟨224, by decide, ?_⟩
      refine mj_go_aload_n (k := 1) (x := 0) rfl (mj_dt dt_L_law 22 rfl) ?_
      refine mj_go_aload_n (k := 0) (x := 9000) rfl (mj_dt dt_L_law 23 rfl) ?_
      refine mj_go_iload_n (k := 3) (x := s.1) rfl (mj_dt dt_L_law 24 rfl) ?_
      refine mj_go_iconst (v := 1) rfl (mj_dt dt_L_law 25 rfl) ?_
      refine mj_go_iadd (mj_dt dt_L_law 26 rfl) ?_
      obtain ⟨c4, h⟩ := mj_ck_some h
      refine mj_go_xld (j := 9000) (by decide) (mj_xb_use c4) (mj_dt dt_L_law 27 rfl) ?_
      refine mj_go_aload_n (k := 0) (x := 9000) rfl (mj_dt dt_L_law 28 rfl) ?_
      refine mj_go_iload_n (k := 3) (x := s.1) rfl (mj_dt dt_L_law 29 rfl) ?_
      refine mj_go_iconst (v := 2) rfl (mj_dt dt_L_law 30 rfl) ?_
      refine mj_go_iadd (mj_dt dt_L_law 31 rfl) ?_
      obtain ⟨c5, h⟩ := mj_ck_some h
      refine mj_go_xld (j := 9000) (by decide) (mj_xb_use c5) (mj_dt dt_L_law 32 rfl) ?_
      refine mj_go_aload_n (k := 0) (x := 9000) rfl (mj_dt dt_L_law 33 rfl) ?_
      refine mj_go_iload_n (k := 3) (x := s.1) rfl (mj_dt dt_L_law 34 rfl) ?_
      refine mj_go_iconst (v := 3) rfl (mj_dt dt_L_law 35 rfl) ?_
      refine mj_go_iadd (mj_dt dt_L_law 36 rfl) ?_
      obtain ⟨c6, h⟩ := mj_ck_some h
      refine mj_go_xld (j := 9000) (by decide) (mj_xb_use c6) (mj_dt dt_L_law 37 rfl) ?_
      obtain ⟨r7, er7, h⟩ := mj_bind_some h
      refine ml_callV (Y' := mY_X8_row) (as := [.int (xs (s.1 + 1).toNatClampNeg), .int (xs (s.1 + 2).toNatClampNeg), .int (xs (s.1 + 3).toNatClampNeg)]) (rest := []) (c := 8) (v := (some (.int r7.1))) (M1 := (mj_fin r7.2)) ho_0 rfl lm_L_13 wc_X8_row pl_X8_row ok_X8_row rfl rfl (Nat.le_of_ble_eq_true rfl) (k_X8_row (by omega) er7) (mj_dt dt_L_law 38 rfl) ?_
      refine mj_go_aload_n (k := 2) (x := 95) rfl (mj_dt dt_L_law 39 rfl) ?_
      refine mj_go_aload_n (k := 0) (x := 9000) rfl (mj_dt dt_L_law 40 rfl) ?_
      refine mj_go_iload_n (k := 3) (x := s.1) rfl (mj_dt dt_L_law 41 rfl) ?_
      refine mj_go_iconst (v := 1) rfl (mj_dt dt_L_law 42 rfl) ?_
      refine mj_go_iadd (mj_dt dt_L_law 43 rfl) ?_
      refine mj_go_xld (j := 9000) (by decide) (mj_xb_use c4) (mj_dt dt_L_law 44 rfl) ?_
      refine mj_go_aload_n (k := 0) (x := 9000) rfl (mj_dt dt_L_law 45 rfl) ?_
      refine mj_go_iload_n (k := 3) (x := s.1) rfl (mj_dt dt_L_law 46 rfl) ?_
      refine mj_go_iconst (v := 2) rfl (mj_dt dt_L_law 47 rfl) ?_
      refine mj_go_iadd (mj_dt dt_L_law 48 rfl) ?_
      refine mj_go_xld (j := 9000) (by decide) (mj_xb_use c5) (mj_dt dt_L_law 49 rfl) ?_
      refine mj_go_aload_n (k := 0) (x := 9000) rfl (mj_dt dt_L_law 50 rfl) ?_
      refine mj_go_iload_n (k := 3) (x := s.1) rfl (mj_dt dt_L_law 51 rfl) ?_
      refine mj_go_iconst (v := 3) rfl (mj_dt dt_L_law 52 rfl) ?_
      refine mj_go_iadd (mj_dt dt_L_law 53 rfl) ?_
      refine mj_go_xld (j := 9000) (by decide) (mj_xb_use c6) (mj_dt dt_L_law 54 rfl) ?_
      obtain ⟨r8, er8, h⟩ := mj_bind_some h
      refine ml_callV (Y' := mY_X9_row) (as := [.int (xs (s.1 + 1).toNatClampNeg), .int (xs (s.1 + 2).toNatClampNeg), .int (xs (s.1 + 3).toNatClampNeg)]) (rest := [.int r7.1]) (c := 9) (v := (some (.int r8.1))) (M1 := (mj_fin r8.2)) ho_95 rfl lm_L_17 wc_X9_row pl_X9_row ok_X9_row rfl rfl (Nat.le_of_ble_eq_true rfl) (k_X9_row (by omega) er8) (mj_dt dt_L_law 55 rfl) ?_
      refine mj_go_icmp_eq (tgt := 1643) rfl (mj_dt dt_L_law 56 rfl) (fun b9 => ?_) (fun b9 => ?_)
      · rw [if_pos b9] at h
        refine mj_go_sub (lv' := [(0, .ref 9000), (1, .ref 0), (2, .ref 95), (3, .int s.1)]) (List.forall_mem_cons.mpr ⟨rfl, (List.forall_mem_cons.mpr ⟨rfl, (List.forall_mem_cons.mpr ⟨rfl, (List.forall_mem_cons.mpr ⟨rfl, (fun _ h9 => absurd h9 List.not_mem_nil)⟩)⟩)⟩)⟩) ?_
        exact k_L_law_1643 q_18 hδ h
      · rw [if_neg b9] at h
        refine mj_go_iconst (v := 0) rfl (mj_dt dt_L_law 57 rfl) ?_
        obtain rfl := Option.some.inj h
        exact mj_go_ret (v := some (.int 0)) (Nat.le_of_ble_eq_true rfl) (mj_retZ (mj_dt dt_L_law 58 rfl) rfl rfl)
    · rw [if_neg b3] at h
      refine ⟨fun b4 => ?_, fun b4 => ?_⟩
      · rw [if_pos b4] at h
        refine ⟨267, by decide, ?_⟩
        refine mj_go_aload_n (k := 1) (x := 0) rfl (mj_dt dt_L_law 59 rfl) ?_
        refine mj_go_aload_n (k := 0) (x := 9000) rfl (mj_dt dt_L_law 60 rfl) ?_
        refine mj_go_iload_n (k := 3) (x := s.1) rfl (mj_dt dt_L_law 61 rfl) ?_
        refine mj_go_iconst (v := 1) rfl (mj_dt dt_L_law 62 rfl) ?_
        refine mj_go_iadd (mj_dt dt_L_law 63 rfl) ?_
        obtain ⟨c5, h⟩ := mj_ck_some h
        refine mj_go_xld (j := 9000) (by decide) (mj_xb_use c5) (mj_dt dt_L_law 64 rfl) ?_
        refine mj_go_aload_n (k := 0) (x := 9000) rfl (mj_dt dt_L_law 65 rfl) ?_
        refine mj_go_iload_n (k := 3) (x := s.1) rfl (mj_dt dt_L_law 66 rfl) ?_
        refine mj_go_iconst (v := 2) rfl (mj_dt dt_L_law 67 rfl) ?_
        refine mj_go_iadd (mj_dt dt_L_law 68 rfl) ?_
        obtain ⟨c6, h⟩ := mj_ck_some h
        refine mj_go_xld (j := 9000) (by decide) (mj_xb_use c6) (mj_dt dt_L_law 69 rfl) ?_
        refine mj_go_aload_n (k := 0) (x := 9000) rfl (mj_dt dt_L_law 70 rfl) ?_
        refine mj_go_iload_n (k := 3) (x := s.1) rfl (mj_dt dt_L_law 71 rfl) ?_
        refine mj_go_iconst (v := 3) rfl (mj_dt dt_L_law 72 rfl) ?_
        refine mj_go_iadd (mj_dt dt_L_law 73 rfl) ?_
        obtain ⟨c7, h⟩ := mj_ck_some h
        refine mj_go_xld (j := 9000) (by decide) (mj_xb_use c7) (mj_dt dt_L_law 74 rfl) ?_
        refine mj_go_i2l (mj_dt dt_L_law 75 rfl) ?_
        refine mj_go_bipush (v := 32) rfl (mj_dt dt_L_law 76 rfl) ?_
        refine mj_go_lshl (mj_dt dt_L_law 77 rfl) ?_
        refine mj_go_aload_n (k := 0) (x := 9000) rfl (mj_dt dt_L_law 78 rfl) ?_
        refine mj_go_iload_n (k := 3) (x := s.1) rfl (mj_dt dt_L_law 79 rfl) ?_
        refine mj_go_iconst (v := 4) rfl (mj_dt dt_L_law 80 rfl) ?_
        refine mj_go_iadd (mj_dt dt_L_law 81 rfl) ?_
        obtain ⟨c8, h⟩ := mj_ck_some h
        refine mj_go_xld (j := 9000) (by decide) (mj_xb_use c8) (mj_dt dt_L_law 82 rfl) ?_
        refine mj_go_i2l (mj_dt dt_L_law 83 rfl) ?_
        refine mj_go_ldc2 (v := 4294967295) cl_L_18 (mj_dt dt_L_law 84 rfl) ?_
        refine mj_go_land (mj_dt dt_L_law 85 rfl) ?_
        refine mj_go_lor (mj_dt dt_L_law 86 rfl) ?_
        obtain ⟨r9, er9, h⟩ := mj_bind_some h
        refine ml_callV (Y' := mY_X8_set) (as := [.int (xs (s.1 + 1).toNatClampNeg), .int (xs (s.1 + 2).toNatClampNeg), .long ((((xs (s.1 + 3).toNatClampNeg).toInt64) <<< ((32 : Int32).toInt64 &&& 63)) ||| (((xs (s.1 + 4).toNatClampNeg).toInt64) &&& 4294967295))]) (rest := []) (c := 8) (v := (some (.int r9.1))) (M1 := (mj_fin r9.2)) ho_0 rfl lm_L_20 wc_X8_set pl_X8_set ok_X8_set rfl rfl (Nat.le_of_ble_eq_true rfl) (k_X8_set (by omega) er9) (mj_dt dt_L_law 87 rfl) ?_
        refine mj_go_aload_n (k := 2) (x := 95) rfl (mj_dt dt_L_law 88 rfl) ?_
        refine mj_go_aload_n (k := 0) (x := 9000) rfl (mj_dt dt_L_law 89 rfl) ?_
        refine mj_go_iload_n (k := 3) (x := s.1) rfl (mj_dt dt_L_law 90 rfl) ?_
        refine mj_go_iconst (v := 1) rfl (mj_dt dt_L_law 91 rfl) ?_
        refine mj_go_iadd (mj_dt dt_L_law 92 rfl) ?_
        refine mj_go_xld (j := 9000) (by decide) (mj_xb_use c5) (mj_dt dt_L_law 93 rfl) ?_
        refine mj_go_aload_n (k := 0) (x := 9000) rfl (mj_dt dt_L_law 94 rfl) ?_
        refine mj_go_iload_n (k := 3) (x := s.1) rfl (mj_dt dt_L_law 95 rfl) ?_
        refine mj_go_iconst (v := 2) rfl (mj_dt dt_L_law 96 rfl) ?_
        refine mj_go_iadd (mj_dt dt_L_law 97 rfl) ?_
        refine mj_go_xld (j := 9000) (by decide) (mj_xb_use c6) (mj_dt dt_L_law 98 rfl) ?_
        refine mj_go_aload_n (k := 0) (x := 9000) rfl (mj_dt dt_L_law 99 rfl) ?_
        refine mj_go_iload_n (k := 3) (x := s.1) rfl (mj_dt dt_L_law 100 rfl) ?_
        refine mj_go_iconst (v := 3) rfl (mj_dt dt_L_law 101 rfl) ?_
        refine mj_go_iadd (mj_dt dt_L_law 102 rfl) ?_
        refine mj_go_xld (j := 9000) (by decide) (mj_xb_use c7) (mj_dt dt_L_law 103 rfl) ?_
        refine mj_go_i2l (mj_dt dt_L_law 104 rfl) ?_
        refine mj_go_bipush (v := 32) rfl (mj_dt dt_L_law 105 rfl) ?_
        refine mj_go_lshl (mj_dt dt_L_law 106 rfl) ?_
        refine mj_go_aload_n (k := 0) (x := 9000) rfl (mj_dt dt_L_law 107 rfl) ?_
        refine mj_go_iload_n (k := 3) (x := s.1) rfl (mj_dt dt_L_law 108 rfl) ?_
        refine mj_go_iconst (v := 4) rfl (mj_dt dt_L_law 109 rfl) ?_
        refine mj_go_iadd (mj_dt dt_L_law 110 rfl) ?_
        refine mj_go_xld (j := 9000) (by decide) (mj_xb_use c8) (mj_dt dt_L_law 111 rfl) ?_
        refine mj_go_i2l (mj_dt dt_L_law 112 rfl) ?_
        refine mj_go_ldc2 (v := 4294967295) cl_L_18 (mj_dt dt_L_law 113 rfl) ?_
        refine mj_go_land (mj_dt dt_L_law 114 rfl) ?_
        refine mj_go_lor (mj_dt dt_L_law 115 rfl) ?_
        obtain ⟨r10, er10, h⟩ := mj_bind_some h
        refine ml_callV (Y' := mY_X9_set) (as := [.int (xs (s.1 + 1).toNatClampNeg), .int (xs (s.1 + 2).toNatClampNeg), .long ((((xs (s.1 + 3).toNatClampNeg).toInt64) <<< ((32 : Int32).toInt64 &&& 63)) ||| (((xs (s.1 + 4).toNatClampNeg).toInt64) &&& 4294967295))]) (rest := [.int r9.1]) (c := 9) (v := (some (.int r10.1))) (M1 := (mj_fin r10.2)) ho_95 rfl lm_L_24 wc_X9_set pl_X9_set ok_X9_set rfl rfl (Nat.le_of_ble_eq_true rfl) (k_X9_set (by omega) er10) (mj_dt dt_L_law 116 rfl) ?_
        refine mj_go_icmp_eq (tgt := 1643) rfl (mj_dt dt_L_law 117 rfl) (fun b11 => ?_) (fun b11 => ?_)
        · rw [if_pos b11] at h
          refine mj_go_sub (lv' := [(0, .ref 9000), (1, .ref 0), (2, .ref 95), (3, .int s.1)]) (List.forall_mem_cons.mpr ⟨rfl, (List.forall_mem_cons.mpr ⟨rfl, (List.forall_mem_cons.mpr ⟨rfl, (List.forall_mem_cons.mpr ⟨rfl, (fun _ h9 => absurd h9 List.not_mem_nil)⟩)⟩)⟩)⟩) ?_
          exact k_L_law_1643 q_18 hδ h
        · rw [if_neg b11] at h
          refine mj_go_iconst (v := 0) rfl (mj_dt dt_L_law 118 rfl) ?_
          obtain rfl := Option.some.inj h
          exact mj_go_ret (v := some (.int 0)) (Nat.le_of_ble_eq_true rfl) (mj_retZ (mj_dt dt_L_law 119 rfl) rfl rfl)
      · rw [if_neg b4] at h
        refine ⟨fun b5 => ?_, fun b5 => ?_⟩
        · rw [if_pos b5] at h
          refine ⟨340, by decide, ?_⟩
          refine mj_go_aload_n (k := 1) (x := 0) rfl (mj_dt dt_L_law 120 rfl) ?_
          refine mj_go_aload_n (k := 0) (x := 9000) rfl (mj_dt dt_L_law 121 rfl) ?_
          refine mj_go_iload_n (k := 3) (x := s.1) rfl (mj_dt dt_L_law 122 rfl) ?_
          refine mj_go_iconst (v := 1) rfl (mj_dt dt_L_law 123 rfl) ?_
          refine mj_go_iadd (mj_dt dt_L_law 124 rfl) ?_
          obtain ⟨c6, h⟩ := mj_ck_some h
          refine mj_go_xld (j := 9000) (by decide) (mj_xb_use c6) (mj_dt dt_L_law 125 rfl) ?_
          refine mj_go_aload_n (k := 0) (x := 9000) rfl (mj_dt dt_L_law 126 rfl) ?_
          refine mj_go_iload_n (k := 3) (x := s.1) rfl (mj_dt dt_L_law 127 rfl) ?_
          refine mj_go_iconst (v := 2) rfl (mj_dt dt_L_law 128 rfl) ?_
          refine mj_go_iadd (mj_dt dt_L_law 129 rfl) ?_
          obtain ⟨c7, h⟩ := mj_ck_some h
          refine mj_go_xld (j := 9000) (by decide) (mj_xb_use c7) (mj_dt dt_L_law 130 rfl) ?_
          refine mj_go_aload_n (k := 0) (x := 9000) rfl (mj_dt dt_L_law 131 rfl) ?_
          refine mj_go_iload_n (k := 3) (x := s.1) rfl (mj_dt dt_L_law 132 rfl) ?_
          refine mj_go_iconst (v := 3) rfl (mj_dt dt_L_law 133 rfl) ?_
          refine mj_go_iadd (mj_dt dt_L_law 134 rfl) ?_
          obtain ⟨c8, h⟩ := mj_ck_some h
          refine mj_go_xld (j := 9000) (by decide) (mj_xb_use c8) (mj_dt dt_L_law 135 rfl) ?_
          refine mj_go_aload_n (k := 0) (x := 9000) rfl (mj_dt dt_L_law 136 rfl) ?_
          refine mj_go_iload_n (k := 3) (x := s.1) rfl (mj_dt dt_L_law 137 rfl) ?_
          refine mj_go_iconst (v := 4) rfl (mj_dt dt_L_law 138 rfl) ?_
          refine mj_go_iadd (mj_dt dt_L_law 139 rfl) ?_
          obtain ⟨c9, h⟩ := mj_ck_some h
          refine mj_go_xld (j := 9000) (by decide) (mj_xb_use c9) (mj_dt dt_L_law 140 rfl) ?_
          refine mj_go_aload_n (k := 0) (x := 9000) rfl (mj_dt dt_L_law 141 rfl) ?_
          refine mj_go_iload_n (k := 3) (x := s.1) rfl (mj_dt dt_L_law 142 rfl) ?_
          refine mj_go_iconst (v := 5) rfl (mj_dt dt_L_law 143 rfl) ?_
          refine mj_go_iadd (mj_dt dt_L_law 144 rfl) ?_
          obtain ⟨c10, h⟩ := mj_ck_some h
          refine mj_go_xld (j := 9000) (by decide) (mj_xb_use c10) (mj_dt dt_L_law 145 rfl) ?_
          obtain ⟨r11, er11, h⟩ := mj_bind_some h
          refine ml_callV (Y' := mY_X8_copy) (as := [.int (xs (s.1 + 1).toNatClampNeg), .int (xs (s.1 + 2).toNatClampNeg), .int (xs (s.1 + 3).toNatClampNeg), .int (xs (s.1 + 4).toNatClampNeg), .int (xs (s.1 + 5).toNatClampNeg)]) (rest := []) (c := 8) (v := (some (.int r11.1))) (M1 := (mj_fin r11.2)) ho_0 rfl lm_L_25 wc_X8_copy pl_X8_copy ok_X8_copy rfl rfl (Nat.le_of_ble_eq_true rfl) (k_X8_copy (by omega) er11) (mj_dt dt_L_law 146 rfl) ?_
          refine mj_go_aload_n (k := 2) (x := 95) rfl (mj_dt dt_L_law 147 rfl) ?_
          refine mj_go_aload_n (k := 0) (x := 9000) rfl (mj_dt dt_L_law 148 rfl) ?_
          refine mj_go_iload_n (k := 3) (x := s.1) rfl (mj_dt dt_L_law 149 rfl) ?_
          refine mj_go_iconst (v := 1) rfl (mj_dt dt_L_law 150 rfl) ?_
          refine mj_go_iadd (mj_dt dt_L_law 151 rfl) ?_
          refine mj_go_xld (j := 9000) (by decide) (mj_xb_use c6) (mj_dt dt_L_law 152 rfl) ?_
          refine mj_go_aload_n (k := 0) (x := 9000) rfl (mj_dt dt_L_law 153 rfl) ?_
          refine mj_go_iload_n (k := 3) (x := s.1) rfl (mj_dt dt_L_law 154 rfl) ?_
          refine mj_go_iconst (v := 2) rfl (mj_dt dt_L_law 155 rfl) ?_
          refine mj_go_iadd (mj_dt dt_L_law 156 rfl) ?_
          refine mj_go_xld (j := 9000) (by decide) (mj_xb_use c7) (mj_dt dt_L_law 157 rfl) ?_
          refine mj_go_aload_n (k := 0) (x := 9000) rfl (mj_dt dt_L_law 158 rfl) ?_
          refine mj_go_iload_n (k := 3) (x := s.1) rfl (mj_dt dt_L_law 159 rfl) ?_
          refine mj_go_iconst (v := 3) rfl (mj_dt dt_L_law 160 rfl) ?_
          refine mj_go_iadd (mj_dt dt_L_law 161 rfl) ?_
          refine mj_go_xld (j := 9000) (by decide) (mj_xb_use c8) (mj_dt dt_L_law 162 rfl) ?_
          refine mj_go_aload_n (k := 0) (x := 9000) rfl (mj_dt dt_L_law 163 rfl) ?_
          refine mj_go_iload_n (k := 3) (x := s.1) rfl (mj_dt dt_L_law 164 rfl) ?_
          refine mj_go_iconst (v := 4) rfl (mj_dt dt_L_law 165 rfl) ?_
          refine mj_go_iadd (mj_dt dt_L_law 166 rfl) ?_
          refine mj_go_xld (j := 9000) (by decide) (mj_xb_use c9) (mj_dt dt_L_law 167 rfl) ?_
          refine mj_go_aload_n (k := 0) (x := 9000) rfl (mj_dt dt_L_law 168 rfl) ?_
          refine mj_go_iload_n (k := 3) (x := s.1) rfl (mj_dt dt_L_law 169 rfl) ?_
          refine mj_go_iconst (v := 5) rfl (mj_dt dt_L_law 170 rfl) ?_
          refine mj_go_iadd (mj_dt dt_L_law 171 rfl) ?_
          refine mj_go_xld (j := 9000) (by decide) (mj_xb_use c10) (mj_dt dt_L_law 172 rfl) ?_
          obtain ⟨r12, er12, h⟩ := mj_bind_some h
          refine ml_callV (Y' := mY_X9_copy) (as := [.int (xs (s.1 + 1).toNatClampNeg), .int (xs (s.1 + 2).toNatClampNeg), .int (xs (s.1 + 3).toNatClampNeg), .int (xs (s.1 + 4).toNatClampNeg), .int (xs (s.1 + 5).toNatClampNeg)]) (rest := [.int r11.1]) (c := 9) (v := (some (.int r12.1))) (M1 := (mj_fin r12.2)) ho_95 rfl lm_L_29 wc_X9_copy pl_X9_copy ok_X9_copy rfl rfl (Nat.le_of_ble_eq_true rfl) (k_X9_copy (by omega) er12) (mj_dt dt_L_law 173 rfl) ?_
          refine mj_go_icmp_eq (tgt := 1643) rfl (mj_dt dt_L_law 174 rfl) (fun b13 => ?_) (fun b13 => ?_)
          · rw [if_pos b13] at h
            refine mj_go_sub (lv' := [(0, .ref 9000), (1, .ref 0), (2, .ref 95), (3, .int s.1)]) (List.forall_mem_cons.mpr ⟨rfl, (List.forall_mem_cons.mpr ⟨rfl, (List.forall_mem_cons.mpr ⟨rfl, (List.forall_mem_cons.mpr ⟨rfl, (fun _ h9 => absurd h9 List.not_mem_nil)⟩)⟩)⟩)⟩) ?_
            exact k_L_law_1643 q_18 hδ h
          · rw [if_neg b13] at h
            refine mj_go_iconst (v := 0) rfl (mj_dt dt_L_law 175 rfl) ?_
            obtain rfl := Option.some.inj h
            exact mj_go_ret (v := some (.int 0)) (Nat.le_of_ble_eq_true rfl) (mj_retZ (mj_dt dt_L_law 176 rfl) rfl rfl)
        · rw [if_neg b5] at h
          refine ⟨fun b6 => ?_, fun b6 => ?_⟩
          · rw [if_pos b6] at h
            refine ⟨403, by decide, ?_⟩
            refine mj_go_aload_n (k := 1) (x := 0) rfl (mj_dt dt_L_law 177 rfl) ?_
            refine mj_go_aload_n (k := 0) (x := 9000) rfl (mj_dt dt_L_law 178 rfl) ?_
            refine mj_go_iload_n (k := 3) (x := s.1) rfl (mj_dt dt_L_law 179 rfl) ?_
            refine mj_go_iconst (v := 1) rfl (mj_dt dt_L_law 180 rfl) ?_
            refine mj_go_iadd (mj_dt dt_L_law 181 rfl) ?_
            obtain ⟨c7, h⟩ := mj_ck_some h
            refine mj_go_xld (j := 9000) (by decide) (mj_xb_use c7) (mj_dt dt_L_law 182 rfl) ?_
            refine mj_go_aload_n (k := 0) (x := 9000) rfl (mj_dt dt_L_law 183 rfl) ?_
            refine mj_go_iload_n (k := 3) (x := s.1) rfl (mj_dt dt_L_law 184 rfl) ?_
            refine mj_go_iconst (v := 2) rfl (mj_dt dt_L_law 185 rfl) ?_
            refine mj_go_iadd (mj_dt dt_L_law 186 rfl) ?_
            obtain ⟨c8, h⟩ := mj_ck_some h
            refine mj_go_xld (j := 9000) (by decide) (mj_xb_use c8) (mj_dt dt_L_law 187 rfl) ?_
            obtain ⟨r9, er9, h⟩ := mj_bind_some h
            refine ml_callV (Y' := mY_X8_element) (as := [.int (xs (s.1 + 1).toNatClampNeg), .int (xs (s.1 + 2).toNatClampNeg)]) (rest := []) (c := 8) (v := (some (.long r9))) (M1 := (mj_fin s.2)) ho_0 rfl lm_L_30 wc_X8_element pl_X8_element ok_X8_element rfl rfl (Nat.le_of_ble_eq_true rfl) (k_X8_element (by omega) er9) (mj_dt dt_L_law 188 rfl) ?_
            refine mj_go_aload_n (k := 2) (x := 95) rfl (mj_dt dt_L_law 189 rfl) ?_
            refine mj_go_aload_n (k := 0) (x := 9000) rfl (mj_dt dt_L_law 190 rfl) ?_
            refine mj_go_iload_n (k := 3) (x := s.1) rfl (mj_dt dt_L_law 191 rfl) ?_
            refine mj_go_iconst (v := 1) rfl (mj_dt dt_L_law 192 rfl) ?_
            refine mj_go_iadd (mj_dt dt_L_law 193 rfl) ?_
            refine mj_go_xld (j := 9000) (by decide) (mj_xb_use c7) (mj_dt dt_L_law 194 rfl) ?_
            refine mj_go_aload_n (k := 0) (x := 9000) rfl (mj_dt dt_L_law 195 rfl) ?_
            refine mj_go_iload_n (k := 3) (x := s.1) rfl (mj_dt dt_L_law 196 rfl) ?_
            refine mj_go_iconst (v := 2) rfl (mj_dt dt_L_law 197 rfl) ?_
            refine mj_go_iadd (mj_dt dt_L_law 198 rfl) ?_
            refine mj_go_xld (j := 9000) (by decide) (mj_xb_use c8) (mj_dt dt_L_law 199 rfl) ?_
            obtain ⟨r10, er10, h⟩ := mj_bind_some h
            refine ml_callV (Y' := mY_X9_element) (as := [.int (xs (s.1 + 1).toNatClampNeg), .int (xs (s.1 + 2).toNatClampNeg)]) (rest := [.long r9]) (c := 9) (v := (some (.long r10))) (M1 := (mj_fin s.2)) ho_95 rfl lm_L_34 wc_X9_element pl_X9_element ok_X9_element rfl rfl (Nat.le_of_ble_eq_true rfl) (k_X9_element (by omega) er10) (mj_dt dt_L_law 200 rfl) ?_
            refine mj_go_lcmp (mj_dt dt_L_law 201 rfl) ?_
            refine mj_go_if_eq (tgt := 1643) rfl (mj_dt dt_L_law 202 rfl) (fun b11 => ?_) (fun b11 => ?_)
            · rw [if_pos b11] at h
              refine mj_go_sub (lv' := [(0, .ref 9000), (1, .ref 0), (2, .ref 95), (3, .int s.1)]) (List.forall_mem_cons.mpr ⟨rfl, (List.forall_mem_cons.mpr ⟨rfl, (List.forall_mem_cons.mpr ⟨rfl, (List.forall_mem_cons.mpr ⟨rfl, (fun _ h9 => absurd h9 List.not_mem_nil)⟩)⟩)⟩)⟩) ?_
              exact k_L_law_1643 q_18 hδ h
            · rw [if_neg b11] at h
              refine mj_go_iconst (v := 0) rfl (mj_dt dt_L_law 203 rfl) ?_
              obtain rfl := Option.some.inj h
              exact mj_go_ret (v := some (.int 0)) (Nat.le_of_ble_eq_true rfl) (mj_retZ (mj_dt dt_L_law 204 rfl) rfl rfl)
          · rw [if_neg b6] at h
            refine ⟨fun b7 => ?_, fun b7 => ?_⟩
            · rw [if_pos b7] at h
              refine ⟨437, by decide, ?_⟩
              refine mj_go_aload_n (k := 1) (x := 0) rfl (mj_dt dt_L_law 205 rfl) ?_
              refine mj_go_aload_n (k := 0) (x := 9000) rfl (mj_dt dt_L_law 206 rfl) ?_
              refine mj_go_iload_n (k := 3) (x := s.1) rfl (mj_dt dt_L_law 207 rfl) ?_
              refine mj_go_iconst (v := 1) rfl (mj_dt dt_L_law 208 rfl) ?_
              refine mj_go_iadd (mj_dt dt_L_law 209 rfl) ?_
              obtain ⟨c8, h⟩ := mj_ck_some h
              refine mj_go_xld (j := 9000) (by decide) (mj_xb_use c8) (mj_dt dt_L_law 210 rfl) ?_
              refine mj_go_aload_n (k := 0) (x := 9000) rfl (mj_dt dt_L_law 211 rfl) ?_
              refine mj_go_iload_n (k := 3) (x := s.1) rfl (mj_dt dt_L_law 212 rfl) ?_
              refine mj_go_iconst (v := 2) rfl (mj_dt dt_L_law 213 rfl) ?_
              refine mj_go_iadd (mj_dt dt_L_law 214 rfl) ?_
              obtain ⟨c9, h⟩ := mj_ck_some h
              refine mj_go_xld (j := 9000) (by decide) (mj_xb_use c9) (mj_dt dt_L_law 215 rfl) ?_
              refine mj_go_aload_n (k := 0) (x := 9000) rfl (mj_dt dt_L_law 216 rfl) ?_
              refine mj_go_iload_n (k := 3) (x := s.1) rfl (mj_dt dt_L_law 217 rfl) ?_
              refine mj_go_iconst (v := 3) rfl (mj_dt dt_L_law 218 rfl) ?_
              refine mj_go_iadd (mj_dt dt_L_law 219 rfl) ?_
              obtain ⟨c10, h⟩ := mj_ck_some h
              refine mj_go_xld (j := 9000) (by decide) (mj_xb_use c10) (mj_dt dt_L_law 220 rfl) ?_
              obtain ⟨r11, er11, h⟩ := mj_bind_some h
              refine ml_callV (Y' := mY_X8_rule) (as := [.int (xs (s.1 + 1).toNatClampNeg), .int (xs (s.1 + 2).toNatClampNeg), .int (xs (s.1 + 3).toNatClampNeg)]) (rest := []) (c := 8) (v := (some (.int r11.1))) (M1 := (mj_fin r11.2)) ho_0 rfl lm_L_35 wc_X8_rule pl_X8_rule ok_X8_rule rfl rfl (Nat.le_of_ble_eq_true rfl) (k_X8_rule (by omega) er11) (mj_dt dt_L_law 221 rfl) ?_
              refine mj_go_aload_n (k := 2) (x := 95) rfl (mj_dt dt_L_law 222 rfl) ?_
              refine mj_go_aload_n (k := 0) (x := 9000) rfl (mj_dt dt_L_law 223 rfl) ?_
              refine mj_go_iload_n (k := 3) (x := s.1) rfl (mj_dt dt_L_law 224 rfl) ?_
              refine mj_go_iconst (v := 1) rfl (mj_dt dt_L_law 225 rfl) ?_
              refine mj_go_iadd (mj_dt dt_L_law 226 rfl) ?_
              refine mj_go_xld (j := 9000) (by decide) (mj_xb_use c8) (mj_dt dt_L_law 227 rfl) ?_
              refine mj_go_aload_n (k := 0) (x := 9000) rfl (mj_dt dt_L_law 228 rfl) ?_
              refine mj_go_iload_n (k := 3) (x := s.1) rfl (mj_dt dt_L_law 229 rfl) ?_
              refine mj_go_iconst (v := 2) rfl (mj_dt dt_L_law 230 rfl) ?_
              refine mj_go_iadd (mj_dt dt_L_law 231 rfl) ?_
              refine mj_go_xld (j := 9000) (by decide) (mj_xb_use c9) (mj_dt dt_L_law 232 rfl) ?_
              refine mj_go_aload_n (k := 0) (x := 9000) rfl (mj_dt dt_L_law 233 rfl) ?_
              refine mj_go_iload_n (k := 3) (x := s.1) rfl (mj_dt dt_L_law 234 rfl) ?_
              refine mj_go_iconst (v := 3) rfl (mj_dt dt_L_law 235 rfl) ?_
              refine mj_go_iadd (mj_dt dt_L_law 236 rfl) ?_
              refine mj_go_xld (j := 9000) (by decide) (mj_xb_use c10) (mj_dt dt_L_law 237 rfl) ?_
              obtain ⟨r12, er12, h⟩ := mj_bind_some h
              refine ml_callV (Y' := mY_X9_rule) (as := [.int (xs (s.1 + 1).toNatClampNeg), .int (xs (s.1 + 2).toNatClampNeg), .int (xs (s.1 + 3).toNatClampNeg)]) (rest := [.int r11.1]) (c := 9) (v := (some (.int r12.1))) (M1 := (mj_fin r12.2)) ho_95 rfl lm_L_38 wc_X9_rule pl_X9_rule ok_X9_rule rfl rfl (Nat.le_of_ble_eq_true rfl) (k_X9_rule (by omega) er12) (mj_dt dt_L_law 238 rfl) ?_
              refine mj_go_icmp_eq (tgt := 1643) rfl (mj_dt dt_L_law 239 rfl) (fun b13 => ?_) (fun b13 => ?_)
              · rw [if_pos b13] at h
                refine mj_go_sub (lv' := [(0, .ref 9000), (1, .ref 0), (2, .ref 95), (3, .int s.1)]) (List.forall_mem_cons.mpr ⟨rfl, (List.forall_mem_cons.mpr ⟨rfl, (List.forall_mem_cons.mpr ⟨rfl, (List.forall_mem_cons.mpr ⟨rfl, (fun _ h9 => absurd h9 List.not_mem_nil)⟩)⟩)⟩)⟩) ?_
                exact k_L_law_1643 q_18 hδ h
              · rw [if_neg b13] at h
                refine mj_go_iconst (v := 0) rfl (mj_dt dt_L_law 240 rfl) ?_
                obtain rfl := Option.some.inj h
                exact mj_go_ret (v := some (.int 0)) (Nat.le_of_ble_eq_true rfl) (mj_retZ (mj_dt dt_L_law 241 rfl) rfl rfl)
            · rw [if_neg b7] at h
              refine ⟨fun b8 => ?_, fun b8 => ?_⟩
              · rw [if_pos b8] at h
                refine ⟨480, by decide, ?_⟩
                refine mj_go_aload_n (k := 1) (x := 0) rfl (mj_dt dt_L_law 242 rfl) ?_
                refine mj_go_aload_n (k := 0) (x := 9000) rfl (mj_dt dt_L_law 243 rfl) ?_
                refine mj_go_iload_n (k := 3) (x := s.1) rfl (mj_dt dt_L_law 244 rfl) ?_
                refine mj_go_iconst (v := 1) rfl (mj_dt dt_L_law 245 rfl) ?_
                refine mj_go_iadd (mj_dt dt_L_law 246 rfl) ?_
                obtain ⟨c9, h⟩ := mj_ck_some h
                refine mj_go_xld (j := 9000) (by decide) (mj_xb_use c9) (mj_dt dt_L_law 247 rfl) ?_
                obtain ⟨r10, er10, h⟩ := mj_bind_some h
                refine ml_callV (Y' := mY_X8_holds) (as := [.int (xs (s.1 + 1).toNatClampNeg)]) (rest := []) (c := 8) (v := (some (.int r10))) (M1 := (mj_fin s.2)) ho_0 rfl lm_L_39 wc_X8_holds pl_X8_holds ok_X8_holds rfl rfl (Nat.le_of_ble_eq_true rfl) (k_X8_holds (by omega) er10) (mj_dt dt_L_law 248 rfl) ?_
                refine mj_go_aload_n (k := 2) (x := 95) rfl (mj_dt dt_L_law 249 rfl) ?_
                refine mj_go_aload_n (k := 0) (x := 9000) rfl (mj_dt dt_L_law 250 rfl) ?_
                refine mj_go_iload_n (k := 3) (x := s.1) rfl (mj_dt dt_L_law 251 rfl) ?_
                refine mj_go_iconst (v := 1) rfl (mj_dt dt_L_law 252 rfl) ?_
                refine mj_go_iadd (mj_dt dt_L_law 253 rfl) ?_
                refine mj_go_xld (j := 9000) (by decide) (mj_xb_use c9) (mj_dt dt_L_law 254 rfl) ?_
                obtain ⟨r11, er11, h⟩ := mj_bind_some h
                refine ml_callV (Y' := mY_X9_holds) (as := [.int (xs (s.1 + 1).toNatClampNeg)]) (rest := [.int r10]) (c := 9) (v := (some (.int r11))) (M1 := (mj_fin s.2)) ho_95 rfl lm_L_43 wc_X9_holds pl_X9_holds ok_X9_holds rfl rfl (Nat.le_of_ble_eq_true rfl) (k_X9_holds (by omega) er11) (mj_dt dt_L_law 255 rfl) ?_
                refine mj_go_icmp_eq (tgt := 1643) rfl (mj_dt dt_L_law 256 rfl) (fun b12 => ?_) (fun b12 => ?_)
                · rw [if_pos b12] at h
                  refine mj_go_sub (lv' := [(0, .ref 9000), (1, .ref 0), (2, .ref 95), (3, .int s.1)]) (List.forall_mem_cons.mpr ⟨rfl, (List.forall_mem_cons.mpr ⟨rfl, (List.forall_mem_cons.mpr ⟨rfl, (List.forall_mem_cons.mpr ⟨rfl, (fun _ h9 => absurd h9 List.not_mem_nil)⟩)⟩)⟩)⟩) ?_
                  exact k_L_law_1643 q_18 hδ h
                · rw [if_neg b12] at h
                  refine mj_go_iconst (v := 0) rfl (mj_dt dt_L_law 257 rfl) ?_
                  obtain rfl := Option.some.inj h
                  exact mj_go_ret (v := some (.int 0)) (Nat.le_of_ble_eq_true rfl) (mj_retZ (mj_dt dt_L_law 258 rfl) rfl rfl)
              · rw [if_neg b8] at h
                refine ⟨fun b9 => ?_, fun b9 => ?_⟩
                · rw [if_pos b9] at h
                  refine ⟨503, by decide, ?_⟩
                  refine mj_go_aload_n (k := 1) (x := 0) rfl (mj_dt dt_L_law 259 rfl) ?_
                  refine mj_go_aload_n (k := 0) (x := 9000) rfl (mj_dt dt_L_law 260 rfl) ?_
                  refine mj_go_iload_n (k := 3) (x := s.1) rfl (mj_dt dt_L_law 261 rfl) ?_
                  refine mj_go_iconst (v := 1) rfl (mj_dt dt_L_law 262 rfl) ?_
                  refine mj_go_iadd (mj_dt dt_L_law 263 rfl) ?_
                  obtain ⟨c10, h⟩ := mj_ck_some h
                  refine mj_go_xld (j := 9000) (by decide) (mj_xb_use c10) (mj_dt dt_L_law 264 rfl) ?_
                  refine mj_go_aload_n (k := 0) (x := 9000) rfl (mj_dt dt_L_law 265 rfl) ?_
                  refine mj_go_iload_n (k := 3) (x := s.1) rfl (mj_dt dt_L_law 266 rfl) ?_
                  refine mj_go_iconst (v := 2) rfl (mj_dt dt_L_law 267 rfl) ?_
                  refine mj_go_iadd (mj_dt dt_L_law 268 rfl) ?_
                  obtain ⟨c11, h⟩ := mj_ck_some h
                  refine mj_go_xld (j := 9000) (by decide) (mj_xb_use c11) (mj_dt dt_L_law 269 rfl) ?_
                  obtain ⟨r12, er12, h⟩ := mj_bind_some h
                  refine ml_callV (Y' := mY_X8_says) (as := [.int (xs (s.1 + 1).toNatClampNeg), .int (xs (s.1 + 2).toNatClampNeg)]) (rest := []) (c := 8) (v := (some (.int r12.1))) (M1 := (mj_fin r12.2)) ho_0 rfl lm_L_44 wc_X8_says pl_X8_says ok_X8_says rfl rfl (Nat.le_of_ble_eq_true rfl) (k_X8_says (by omega) er12) (mj_dt dt_L_law 270 rfl) ?_
                  refine mj_go_aload_n (k := 2) (x := 95) rfl (mj_dt dt_L_law 271 rfl) ?_
                  refine mj_go_aload_n (k := 0) (x := 9000) rfl (mj_dt dt_L_law 272 rfl) ?_
                  refine mj_go_iload_n (k := 3) (x := s.1) rfl (mj_dt dt_L_law 273 rfl) ?_
                  refine mj_go_iconst (v := 1) rfl (mj_dt dt_L_law 274 rfl) ?_
                  refine mj_go_iadd (mj_dt dt_L_law 275 rfl) ?_
                  refine mj_go_xld (j := 9000) (by decide) (mj_xb_use c10) (mj_dt dt_L_law 276 rfl) ?_
                  refine mj_go_aload_n (k := 0) (x := 9000) rfl (mj_dt dt_L_law 277 rfl) ?_
                  refine mj_go_iload_n (k := 3) (x := s.1) rfl (mj_dt dt_L_law 278 rfl) ?_
                  refine mj_go_iconst (v := 2) rfl (mj_dt dt_L_law 279 rfl) ?_
                  refine mj_go_iadd (mj_dt dt_L_law 280 rfl) ?_
                  refine mj_go_xld (j := 9000) (by decide) (mj_xb_use c11) (mj_dt dt_L_law 281 rfl) ?_
                  obtain ⟨r13, er13, h⟩ := mj_bind_some h
                  refine ml_callV (Y' := mY_X9_says) (as := [.int (xs (s.1 + 1).toNatClampNeg), .int (xs (s.1 + 2).toNatClampNeg)]) (rest := [.int r12.1]) (c := 9) (v := (some (.int r13.1))) (M1 := (mj_fin r13.2)) ho_95 rfl lm_L_48 wc_X9_says pl_X9_says ok_X9_says rfl rfl (Nat.le_of_ble_eq_true rfl) (k_X9_says (by omega) er13) (mj_dt dt_L_law 282 rfl) ?_
                  refine mj_go_icmp_eq (tgt := 1643) rfl (mj_dt dt_L_law 283 rfl) (fun b14 => ?_) (fun b14 => ?_)
                  · rw [if_pos b14] at h
                    refine mj_go_sub (lv' := [(0, .ref 9000), (1, .ref 0), (2, .ref 95), (3, .int s.1)]) (List.forall_mem_cons.mpr ⟨rfl, (List.forall_mem_cons.mpr ⟨rfl, (List.forall_mem_cons.mpr ⟨rfl, (List.forall_mem_cons.mpr ⟨rfl, (fun _ h9 => absurd h9 List.not_mem_nil)⟩)⟩)⟩)⟩) ?_
                    exact k_L_law_1643 q_18 hδ h
                  · rw [if_neg b14] at h
                    refine mj_go_iconst (v := 0) rfl (mj_dt dt_L_law 284 rfl) ?_
                    obtain rfl := Option.some.inj h
                    exact mj_go_ret (v := some (.int 0)) (Nat.le_of_ble_eq_true rfl) (mj_retZ (mj_dt dt_L_law 285 rfl) rfl rfl)
                · rw [if_neg b9] at h
                  refine ⟨fun b10 => ?_, fun b10 => ?_⟩
                  · rw [if_pos b10] at h
                    refine ⟨536, by decide, ?_⟩
                    refine mj_go_aload_n (k := 1) (x := 0) rfl (mj_dt dt_L_law 286 rfl) ?_
                    refine mj_go_aload_n (k := 0) (x := 9000) rfl (mj_dt dt_L_law 287 rfl) ?_
                    refine mj_go_iload_n (k := 3) (x := s.1) rfl (mj_dt dt_L_law 288 rfl) ?_
                    refine mj_go_iconst (v := 1) rfl (mj_dt dt_L_law 289 rfl) ?_
                    refine mj_go_iadd (mj_dt dt_L_law 290 rfl) ?_
                    obtain ⟨c11, h⟩ := mj_ck_some h
                    refine mj_go_xld (j := 9000) (by decide) (mj_xb_use c11) (mj_dt dt_L_law 291 rfl) ?_
                    refine mj_go_aload_n (k := 0) (x := 9000) rfl (mj_dt dt_L_law 292 rfl) ?_
                    refine mj_go_iload_n (k := 3) (x := s.1) rfl (mj_dt dt_L_law 293 rfl) ?_
                    refine mj_go_iconst (v := 2) rfl (mj_dt dt_L_law 294 rfl) ?_
                    refine mj_go_iadd (mj_dt dt_L_law 295 rfl) ?_
                    obtain ⟨c12, h⟩ := mj_ck_some h
                    refine mj_go_xld (j := 9000) (by decide) (mj_xb_use c12) (mj_dt dt_L_law 296 rfl) ?_
                    obtain ⟨r13, er13, h⟩ := mj_bind_some h
                    refine ml_callV (Y' := mY_X8_street) (as := [.int (xs (s.1 + 1).toNatClampNeg), .int (xs (s.1 + 2).toNatClampNeg)]) (rest := []) (c := 8) (v := (some (.int r13.1))) (M1 := (mj_fin r13.2)) ho_0 rfl lm_L_49 wc_X8_street pl_X8_street ok_X8_street rfl rfl (Nat.le_of_ble_eq_true rfl) (k_X8_street (by omega) er13) (mj_dt dt_L_law 297 rfl) ?_
                    refine mj_go_aload_n (k := 2) (x := 95) rfl (mj_dt dt_L_law 298 rfl) ?_
                    refine mj_go_aload_n (k := 0) (x := 9000) rfl (mj_dt dt_L_law 299 rfl) ?_
                    refine mj_go_iload_n (k := 3) (x := s.1) rfl (mj_dt dt_L_law 300 rfl) ?_
                    refine mj_go_iconst (v := 1) rfl (mj_dt dt_L_law 301 rfl) ?_
                    refine mj_go_iadd (mj_dt dt_L_law 302 rfl) ?_
                    refine mj_go_xld (j := 9000) (by decide) (mj_xb_use c11) (mj_dt dt_L_law 303 rfl) ?_
                    refine mj_go_aload_n (k := 0) (x := 9000) rfl (mj_dt dt_L_law 304 rfl) ?_
                    refine mj_go_iload_n (k := 3) (x := s.1) rfl (mj_dt dt_L_law 305 rfl) ?_
                    refine mj_go_iconst (v := 2) rfl (mj_dt dt_L_law 306 rfl) ?_
                    refine mj_go_iadd (mj_dt dt_L_law 307 rfl) ?_
                    refine mj_go_xld (j := 9000) (by decide) (mj_xb_use c12) (mj_dt dt_L_law 308 rfl) ?_
                    obtain ⟨r14, er14, h⟩ := mj_bind_some h
                    refine ml_callV (Y' := mY_X9_street) (as := [.int (xs (s.1 + 1).toNatClampNeg), .int (xs (s.1 + 2).toNatClampNeg)]) (rest := [.int r13.1]) (c := 9) (v := (some (.int r14.1))) (M1 := (mj_fin r14.2)) ho_95 rfl lm_L_52 wc_X9_street pl_X9_street ok_X9_street rfl rfl (Nat.le_of_ble_eq_true rfl) (k_X9_street (by omega) er14) (mj_dt dt_L_law 309 rfl) ?_
                    refine mj_go_icmp_eq (tgt := 1643) rfl (mj_dt dt_L_law 310 rfl) (fun b15 => ?_) (fun b15 => ?_)
                    · rw [if_pos b15] at h
                      refine mj_go_sub (lv' := [(0, .ref 9000), (1, .ref 0), (2, .ref 95), (3, .int s.1)]) (List.forall_mem_cons.mpr ⟨rfl, (List.forall_mem_cons.mpr ⟨rfl, (List.forall_mem_cons.mpr ⟨rfl, (List.forall_mem_cons.mpr ⟨rfl, (fun _ h9 => absurd h9 List.not_mem_nil)⟩)⟩)⟩)⟩) ?_
                      exact k_L_law_1643 q_18 hδ h
                    · rw [if_neg b15] at h
                      refine mj_go_iconst (v := 0) rfl (mj_dt dt_L_law 311 rfl) ?_
                      obtain rfl := Option.some.inj h
                      exact mj_go_ret (v := some (.int 0)) (Nat.le_of_ble_eq_true rfl) (mj_retZ (mj_dt dt_L_law 312 rfl) rfl rfl)
                  · rw [if_neg b10] at h
                    refine ⟨fun b11 => ?_, fun b11 => ?_⟩
                    · rw [if_pos b11] at h
                      refine ⟨569, by decide, ?_⟩
                      refine mj_go_aload_n (k := 1) (x := 0) rfl (mj_dt dt_L_law 313 rfl) ?_
                      refine mj_go_aload_n (k := 0) (x := 9000) rfl (mj_dt dt_L_law 314 rfl) ?_
                      refine mj_go_iload_n (k := 3) (x := s.1) rfl (mj_dt dt_L_law 315 rfl) ?_
                      refine mj_go_iconst (v := 1) rfl (mj_dt dt_L_law 316 rfl) ?_
                      refine mj_go_iadd (mj_dt dt_L_law 317 rfl) ?_
                      obtain ⟨c12, h⟩ := mj_ck_some h
                      refine mj_go_xld (j := 9000) (by decide) (mj_xb_use c12) (mj_dt dt_L_law 318 rfl) ?_
                      refine mj_go_aload_n (k := 0) (x := 9000) rfl (mj_dt dt_L_law 319 rfl) ?_
                      refine mj_go_iload_n (k := 3) (x := s.1) rfl (mj_dt dt_L_law 320 rfl) ?_
                      refine mj_go_iconst (v := 2) rfl (mj_dt dt_L_law 321 rfl) ?_
                      refine mj_go_iadd (mj_dt dt_L_law 322 rfl) ?_
                      obtain ⟨c13, h⟩ := mj_ck_some h
                      refine mj_go_xld (j := 9000) (by decide) (mj_xb_use c13) (mj_dt dt_L_law 323 rfl) ?_
                      refine mj_go_aload_n (k := 0) (x := 9000) rfl (mj_dt dt_L_law 324 rfl) ?_
                      refine mj_go_iload_n (k := 3) (x := s.1) rfl (mj_dt dt_L_law 325 rfl) ?_
                      refine mj_go_iconst (v := 3) rfl (mj_dt dt_L_law 326 rfl) ?_
                      refine mj_go_iadd (mj_dt dt_L_law 327 rfl) ?_
                      obtain ⟨c14, h⟩ := mj_ck_some h
                      refine mj_go_xld (j := 9000) (by decide) (mj_xb_use c14) (mj_dt dt_L_law 328 rfl) ?_
                      refine mj_go_aload_n (k := 0) (x := 9000) rfl (mj_dt dt_L_law 329 rfl) ?_
                      refine mj_go_iload_n (k := 3) (x := s.1) rfl (mj_dt dt_L_law 330 rfl) ?_
                      refine mj_go_iconst (v := 4) rfl (mj_dt dt_L_law 331 rfl) ?_
                      refine mj_go_iadd (mj_dt dt_L_law 332 rfl) ?_
                      obtain ⟨c15, h⟩ := mj_ck_some h
                      refine mj_go_xld (j := 9000) (by decide) (mj_xb_use c15) (mj_dt dt_L_law 333 rfl) ?_
                      refine mj_go_aload_n (k := 0) (x := 9000) rfl (mj_dt dt_L_law 334 rfl) ?_
                      refine mj_go_iload_n (k := 3) (x := s.1) rfl (mj_dt dt_L_law 335 rfl) ?_
                      refine mj_go_iconst (v := 5) rfl (mj_dt dt_L_law 336 rfl) ?_
                      refine mj_go_iadd (mj_dt dt_L_law 337 rfl) ?_
                      obtain ⟨c16, h⟩ := mj_ck_some h
                      refine mj_go_xld (j := 9000) (by decide) (mj_xb_use c16) (mj_dt dt_L_law 338 rfl) ?_
                      obtain ⟨r17, er17, h⟩ := mj_bind_some h
                      refine ml_callV (Y' := mY_X8_house) (as := [.int (xs (s.1 + 1).toNatClampNeg), .int (xs (s.1 + 2).toNatClampNeg), .int (xs (s.1 + 3).toNatClampNeg), .int (xs (s.1 + 4).toNatClampNeg), .int (xs (s.1 + 5).toNatClampNeg)]) (rest := []) (c := 8) (v := (some (.int r17.1))) (M1 := (mj_fin r17.2)) ho_0 rfl lm_L_53 wc_X8_house pl_X8_house ok_X8_house rfl rfl (Nat.le_of_ble_eq_true rfl) (k_X8_house (by omega) er17) (mj_dt dt_L_law 339 rfl) ?_
                      refine mj_go_aload_n (k := 2) (x := 95) rfl (mj_dt dt_L_law 340 rfl) ?_
                      refine mj_go_aload_n (k := 0) (x := 9000) rfl (mj_dt dt_L_law 341 rfl) ?_
                      refine mj_go_iload_n (k := 3) (x := s.1) rfl (mj_dt dt_L_law 342 rfl) ?_
                      refine mj_go_iconst (v := 1) rfl (mj_dt dt_L_law 343 rfl) ?_
                      refine mj_go_iadd (mj_dt dt_L_law 344 rfl) ?_
                      refine mj_go_xld (j := 9000) (by decide) (mj_xb_use c12) (mj_dt dt_L_law 345 rfl) ?_
                      refine mj_go_aload_n (k := 0) (x := 9000) rfl (mj_dt dt_L_law 346 rfl) ?_
                      refine mj_go_iload_n (k := 3) (x := s.1) rfl (mj_dt dt_L_law 347 rfl) ?_
                      refine mj_go_iconst (v := 2) rfl (mj_dt dt_L_law 348 rfl) ?_
                      refine mj_go_iadd (mj_dt dt_L_law 349 rfl) ?_
                      refine mj_go_xld (j := 9000) (by decide) (mj_xb_use c13) (mj_dt dt_L_law 350 rfl) ?_
                      refine mj_go_aload_n (k := 0) (x := 9000) rfl (mj_dt dt_L_law 351 rfl) ?_
                      refine mj_go_iload_n (k := 3) (x := s.1) rfl (mj_dt dt_L_law 352 rfl) ?_
                      refine mj_go_iconst (v := 3) rfl (mj_dt dt_L_law 353 rfl) ?_
                      refine mj_go_iadd (mj_dt dt_L_law 354 rfl) ?_
                      refine mj_go_xld (j := 9000) (by decide) (mj_xb_use c14) (mj_dt dt_L_law 355 rfl) ?_
                      refine mj_go_aload_n (k := 0) (x := 9000) rfl (mj_dt dt_L_law 356 rfl) ?_
                      refine mj_go_iload_n (k := 3) (x := s.1) rfl (mj_dt dt_L_law 357 rfl) ?_
                      refine mj_go_iconst (v := 4) rfl (mj_dt dt_L_law 358 rfl) ?_
                      refine mj_go_iadd (mj_dt dt_L_law 359 rfl) ?_
                      refine mj_go_xld (j := 9000) (by decide) (mj_xb_use c15) (mj_dt dt_L_law 360 rfl) ?_
                      refine mj_go_aload_n (k := 0) (x := 9000) rfl (mj_dt dt_L_law 361 rfl) ?_
                      refine mj_go_iload_n (k := 3) (x := s.1) rfl (mj_dt dt_L_law 362 rfl) ?_
                      refine mj_go_iconst (v := 5) rfl (mj_dt dt_L_law 363 rfl) ?_
                      refine mj_go_iadd (mj_dt dt_L_law 364 rfl) ?_
                      refine mj_go_xld (j := 9000) (by decide) (mj_xb_use c16) (mj_dt dt_L_law 365 rfl) ?_
                      obtain ⟨r18, er18, h⟩ := mj_bind_some h
                      refine ml_callV (Y' := mY_X9_house) (as := [.int (xs (s.1 + 1).toNatClampNeg), .int (xs (s.1 + 2).toNatClampNeg), .int (xs (s.1 + 3).toNatClampNeg), .int (xs (s.1 + 4).toNatClampNeg), .int (xs (s.1 + 5).toNatClampNeg)]) (rest := [.int r17.1]) (c := 9) (v := (some (.int r18.1))) (M1 := (mj_fin r18.2)) ho_95 rfl lm_L_56 wc_X9_house pl_X9_house ok_X9_house rfl rfl (Nat.le_of_ble_eq_true rfl) (k_X9_house (by omega) er18) (mj_dt dt_L_law 366 rfl) ?_
                      refine mj_go_icmp_eq (tgt := 1643) rfl (mj_dt dt_L_law 367 rfl) (fun b19 => ?_) (fun b19 => ?_)
                      · rw [if_pos b19] at h
                        refine mj_go_sub (lv' := [(0, .ref 9000), (1, .ref 0), (2, .ref 95), (3, .int s.1)]) (List.forall_mem_cons.mpr ⟨rfl, (List.forall_mem_cons.mpr ⟨rfl, (List.forall_mem_cons.mpr ⟨rfl, (List.forall_mem_cons.mpr ⟨rfl, (fun _ h9 => absurd h9 List.not_mem_nil)⟩)⟩)⟩)⟩) ?_
                        exact k_L_law_1643 q_18 hδ h
                      · rw [if_neg b19] at h
                        refine mj_go_iconst (v := 0) rfl (mj_dt dt_L_law 368 rfl) ?_
                        obtain rfl := Option.some.inj h
                        exact mj_go_ret (v := some (.int 0)) (Nat.le_of_ble_eq_true rfl) (mj_retZ (mj_dt dt_L_law 369 rfl) rfl rfl)
                    · rw [if_neg b11] at h
                      refine ⟨fun b12 => ?_, fun b12 => ?_⟩
                      · rw [if_pos b12] at h
                        refine ⟨632, by decide, ?_⟩
                        refine mj_go_aload_n (k := 1) (x := 0) rfl (mj_dt dt_L_law 370 rfl) ?_
                        refine mj_go_aload_n (k := 0) (x := 9000) rfl (mj_dt dt_L_law 371 rfl) ?_
                        refine mj_go_iload_n (k := 3) (x := s.1) rfl (mj_dt dt_L_law 372 rfl) ?_
                        refine mj_go_iconst (v := 1) rfl (mj_dt dt_L_law 373 rfl) ?_
                        refine mj_go_iadd (mj_dt dt_L_law 374 rfl) ?_
                        obtain ⟨c13, h⟩ := mj_ck_some h
                        refine mj_go_xld (j := 9000) (by decide) (mj_xb_use c13) (mj_dt dt_L_law 375 rfl) ?_
                        refine mj_go_aload_n (k := 0) (x := 9000) rfl (mj_dt dt_L_law 376 rfl) ?_
                        refine mj_go_iload_n (k := 3) (x := s.1) rfl (mj_dt dt_L_law 377 rfl) ?_
                        refine mj_go_iconst (v := 2) rfl (mj_dt dt_L_law 378 rfl) ?_
                        refine mj_go_iadd (mj_dt dt_L_law 379 rfl) ?_
                        obtain ⟨c14, h⟩ := mj_ck_some h
                        refine mj_go_xld (j := 9000) (by decide) (mj_xb_use c14) (mj_dt dt_L_law 380 rfl) ?_
                        refine mj_go_aload_n (k := 0) (x := 9000) rfl (mj_dt dt_L_law 381 rfl) ?_
                        refine mj_go_iload_n (k := 3) (x := s.1) rfl (mj_dt dt_L_law 382 rfl) ?_
                        refine mj_go_iconst (v := 3) rfl (mj_dt dt_L_law 383 rfl) ?_
                        refine mj_go_iadd (mj_dt dt_L_law 384 rfl) ?_
                        obtain ⟨c15, h⟩ := mj_ck_some h
                        refine mj_go_xld (j := 9000) (by decide) (mj_xb_use c15) (mj_dt dt_L_law 385 rfl) ?_
                        obtain ⟨r16, er16, h⟩ := mj_bind_some h
                        refine ml_callV (Y' := mY_X8_houses) (as := [.int (xs (s.1 + 1).toNatClampNeg), .int (xs (s.1 + 2).toNatClampNeg), .int (xs (s.1 + 3).toNatClampNeg)]) (rest := []) (c := 8) (v := (some (.int r16.1))) (M1 := (mj_fin r16.2)) ho_0 rfl lm_L_57 wc_X8_houses pl_X8_houses ok_X8_houses rfl rfl (Nat.le_of_ble_eq_true rfl) (k_X8_houses (by omega) er16) (mj_dt dt_L_law 386 rfl) ?_
                        refine mj_go_aload_n (k := 2) (x := 95) rfl (mj_dt dt_L_law 387 rfl) ?_
                        refine mj_go_aload_n (k := 0) (x := 9000) rfl (mj_dt dt_L_law 388 rfl) ?_
                        refine mj_go_iload_n (k := 3) (x := s.1) rfl (mj_dt dt_L_law 389 rfl) ?_
                        refine mj_go_iconst (v := 1) rfl (mj_dt dt_L_law 390 rfl) ?_
                        refine mj_go_iadd (mj_dt dt_L_law 391 rfl) ?_
                        refine mj_go_xld (j := 9000) (by decide) (mj_xb_use c13) (mj_dt dt_L_law 392 rfl) ?_
                        refine mj_go_aload_n (k := 0) (x := 9000) rfl (mj_dt dt_L_law 393 rfl) ?_
                        refine mj_go_iload_n (k := 3) (x := s.1) rfl (mj_dt dt_L_law 394 rfl) ?_
                        refine mj_go_iconst (v := 2) rfl (mj_dt dt_L_law 395 rfl) ?_
                        refine mj_go_iadd (mj_dt dt_L_law 396 rfl) ?_
                        refine mj_go_xld (j := 9000) (by decide) (mj_xb_use c14) (mj_dt dt_L_law 397 rfl) ?_
                        refine mj_go_aload_n (k := 0) (x := 9000) rfl (mj_dt dt_L_law 398 rfl) ?_
                        refine mj_go_iload_n (k := 3) (x := s.1) rfl (mj_dt dt_L_law 399 rfl) ?_
                        refine mj_go_iconst (v := 3) rfl (mj_dt dt_L_law 400 rfl) ?_
                        refine mj_go_iadd (mj_dt dt_L_law 401 rfl) ?_
                        refine mj_go_xld (j := 9000) (by decide) (mj_xb_use c15) (mj_dt dt_L_law 402 rfl) ?_
                        obtain ⟨r17, er17, h⟩ := mj_bind_some h
                        refine ml_callV (Y' := mY_X9_houses) (as := [.int (xs (s.1 + 1).toNatClampNeg), .int (xs (s.1 + 2).toNatClampNeg), .int (xs (s.1 + 3).toNatClampNeg)]) (rest := [.int r16.1]) (c := 9) (v := (some (.int r17.1))) (M1 := (mj_fin r17.2)) ho_95 rfl lm_L_60 wc_X9_houses pl_X9_houses ok_X9_houses rfl rfl (Nat.le_of_ble_eq_true rfl) (k_X9_houses (by omega) er17) (mj_dt dt_L_law 403 rfl) ?_
                        refine mj_go_icmp_eq (tgt := 1643) rfl (mj_dt dt_L_law 404 rfl) (fun b18 => ?_) (fun b18 => ?_)
                        · rw [if_pos b18] at h
                          refine mj_go_sub (lv' := [(0, .ref 9000), (1, .ref 0), (2, .ref 95), (3, .int s.1)]) (List.forall_mem_cons.mpr ⟨rfl, (List.forall_mem_cons.mpr ⟨rfl, (List.forall_mem_cons.mpr ⟨rfl, (List.forall_mem_cons.mpr ⟨rfl, (fun _ h9 => absurd h9 List.not_mem_nil)⟩)⟩)⟩)⟩) ?_
                          exact k_L_law_1643 q_18 hδ h
                        · rw [if_neg b18] at h
                          refine mj_go_iconst (v := 0) rfl (mj_dt dt_L_law 405 rfl) ?_
                          obtain rfl := Option.some.inj h
                          exact mj_go_ret (v := some (.int 0)) (Nat.le_of_ble_eq_true rfl) (mj_retZ (mj_dt dt_L_law 406 rfl) rfl rfl)
                      · rw [if_neg b12] at h
                        refine ⟨fun b13 => ?_, fun b13 => ?_⟩
                        · rw [if_pos b13] at h
                          refine ⟨675, by decide, ?_⟩
                          refine mj_go_aload_n (k := 1) (x := 0) rfl (mj_dt dt_L_law 407 rfl) ?_
                          refine mj_go_aload_n (k := 0) (x := 9000) rfl (mj_dt dt_L_law 408 rfl) ?_
                          refine mj_go_iload_n (k := 3) (x := s.1) rfl (mj_dt dt_L_law 409 rfl) ?_
                          refine mj_go_iconst (v := 1) rfl (mj_dt dt_L_law 410 rfl) ?_
                          refine mj_go_iadd (mj_dt dt_L_law 411 rfl) ?_
                          obtain ⟨c14, h⟩ := mj_ck_some h
                          refine mj_go_xld (j := 9000) (by decide) (mj_xb_use c14) (mj_dt dt_L_law 412 rfl) ?_
                          refine mj_go_aload_n (k := 0) (x := 9000) rfl (mj_dt dt_L_law 413 rfl) ?_
                          refine mj_go_iload_n (k := 3) (x := s.1) rfl (mj_dt dt_L_law 414 rfl) ?_
                          refine mj_go_iconst (v := 2) rfl (mj_dt dt_L_law 415 rfl) ?_
                          refine mj_go_iadd (mj_dt dt_L_law 416 rfl) ?_
                          obtain ⟨c15, h⟩ := mj_ck_some h
                          refine mj_go_xld (j := 9000) (by decide) (mj_xb_use c15) (mj_dt dt_L_law 417 rfl) ?_
                          obtain ⟨r16, er16, h⟩ := mj_bind_some h
                          refine ml_callV (Y' := mY_X8_houseOf) (as := [.int (xs (s.1 + 1).toNatClampNeg), .int (xs (s.1 + 2).toNatClampNeg)]) (rest := []) (c := 8) (v := (some (.int r16.1))) (M1 := (mj_fin r16.2)) ho_0 rfl lm_L_61 wc_X8_houseOf pl_X8_houseOf ok_X8_houseOf rfl rfl (Nat.le_of_ble_eq_true rfl) (k_X8_houseOf (by omega) er16) (mj_dt dt_L_law 418 rfl) ?_
                          refine mj_go_aload_n (k := 2) (x := 95) rfl (mj_dt dt_L_law 419 rfl) ?_
                          refine mj_go_aload_n (k := 0) (x := 9000) rfl (mj_dt dt_L_law 420 rfl) ?_
                          refine mj_go_iload_n (k := 3) (x := s.1) rfl (mj_dt dt_L_law 421 rfl) ?_
                          refine mj_go_iconst (v := 1) rfl (mj_dt dt_L_law 422 rfl) ?_
                          refine mj_go_iadd (mj_dt dt_L_law 423 rfl) ?_
                          refine mj_go_xld (j := 9000) (by decide) (mj_xb_use c14) (mj_dt dt_L_law 424 rfl) ?_
                          refine mj_go_aload_n (k := 0) (x := 9000) rfl (mj_dt dt_L_law 425 rfl) ?_
                          refine mj_go_iload_n (k := 3) (x := s.1) rfl (mj_dt dt_L_law 426 rfl) ?_
                          refine mj_go_iconst (v := 2) rfl (mj_dt dt_L_law 427 rfl) ?_
                          refine mj_go_iadd (mj_dt dt_L_law 428 rfl) ?_
                          refine mj_go_xld (j := 9000) (by decide) (mj_xb_use c15) (mj_dt dt_L_law 429 rfl) ?_
                          obtain ⟨r17, er17, h⟩ := mj_bind_some h
                          refine ml_callV (Y' := mY_X9_houseOf) (as := [.int (xs (s.1 + 1).toNatClampNeg), .int (xs (s.1 + 2).toNatClampNeg)]) (rest := [.int r16.1]) (c := 9) (v := (some (.int r17.1))) (M1 := (mj_fin r17.2)) ho_95 rfl lm_L_64 wc_X9_houseOf pl_X9_houseOf ok_X9_houseOf rfl rfl (Nat.le_of_ble_eq_true rfl) (k_X9_houseOf (by omega) er17) (mj_dt dt_L_law 430 rfl) ?_
                          refine mj_go_icmp_eq (tgt := 1643) rfl (mj_dt dt_L_law 431 rfl) (fun b18 => ?_) (fun b18 => ?_)
                          · rw [if_pos b18] at h
                            refine mj_go_sub (lv' := [(0, .ref 9000), (1, .ref 0), (2, .ref 95), (3, .int s.1)]) (List.forall_mem_cons.mpr ⟨rfl, (List.forall_mem_cons.mpr ⟨rfl, (List.forall_mem_cons.mpr ⟨rfl, (List.forall_mem_cons.mpr ⟨rfl, (fun _ h9 => absurd h9 List.not_mem_nil)⟩)⟩)⟩)⟩) ?_
                            exact k_L_law_1643 q_18 hδ h
                          · rw [if_neg b18] at h
                            refine mj_go_iconst (v := 0) rfl (mj_dt dt_L_law 432 rfl) ?_
                            obtain rfl := Option.some.inj h
                            exact mj_go_ret (v := some (.int 0)) (Nat.le_of_ble_eq_true rfl) (mj_retZ (mj_dt dt_L_law 433 rfl) rfl rfl)
                        · rw [if_neg b13] at h
                          refine ⟨fun b14 => ?_, fun b14 => ?_⟩
                          · rw [if_pos b14] at h
                            refine ⟨708, by decide, ?_⟩
                            refine mj_go_aload_n (k := 1) (x := 0) rfl (mj_dt dt_L_law 434 rfl) ?_
                            refine mj_go_aload_n (k := 0) (x := 9000) rfl (mj_dt dt_L_law 435 rfl) ?_
                            refine mj_go_iload_n (k := 3) (x := s.1) rfl (mj_dt dt_L_law 436 rfl) ?_
                            refine mj_go_iconst (v := 1) rfl (mj_dt dt_L_law 437 rfl) ?_
                            refine mj_go_iadd (mj_dt dt_L_law 438 rfl) ?_
                            obtain ⟨c15, h⟩ := mj_ck_some h
                            refine mj_go_xld (j := 9000) (by decide) (mj_xb_use c15) (mj_dt dt_L_law 439 rfl) ?_
                            refine mj_go_aload_n (k := 0) (x := 9000) rfl (mj_dt dt_L_law 440 rfl) ?_
                            refine mj_go_iload_n (k := 3) (x := s.1) rfl (mj_dt dt_L_law 441 rfl) ?_
                            refine mj_go_iconst (v := 2) rfl (mj_dt dt_L_law 442 rfl) ?_
                            refine mj_go_iadd (mj_dt dt_L_law 443 rfl) ?_
                            obtain ⟨c16, h⟩ := mj_ck_some h
                            refine mj_go_xld (j := 9000) (by decide) (mj_xb_use c16) (mj_dt dt_L_law 444 rfl) ?_
                            obtain ⟨r17, er17, h⟩ := mj_bind_some h
                            refine ml_callV (Y' := mY_X8_front) (as := [.int (xs (s.1 + 1).toNatClampNeg), .int (xs (s.1 + 2).toNatClampNeg)]) (rest := []) (c := 8) (v := (some (.int r17.1))) (M1 := (mj_fin r17.2)) ho_0 rfl lm_L_65 wc_X8_front pl_X8_front ok_X8_front rfl rfl (Nat.le_of_ble_eq_true rfl) (k_X8_front (by omega) er17) (mj_dt dt_L_law 445 rfl) ?_
                            refine mj_go_aload_n (k := 2) (x := 95) rfl (mj_dt dt_L_law 446 rfl) ?_
                            refine mj_go_aload_n (k := 0) (x := 9000) rfl (mj_dt dt_L_law 447 rfl) ?_
                            refine mj_go_iload_n (k := 3) (x := s.1) rfl (mj_dt dt_L_law 448 rfl) ?_
                            refine mj_go_iconst (v := 1) rfl (mj_dt dt_L_law 449 rfl) ?_
                            refine mj_go_iadd (mj_dt dt_L_law 450 rfl) ?_
                            refine mj_go_xld (j := 9000) (by decide) (mj_xb_use c15) (mj_dt dt_L_law 451 rfl) ?_
                            refine mj_go_aload_n (k := 0) (x := 9000) rfl (mj_dt dt_L_law 452 rfl) ?_
                            refine mj_go_iload_n (k := 3) (x := s.1) rfl (mj_dt dt_L_law 453 rfl) ?_
                            refine mj_go_iconst (v := 2) rfl (mj_dt dt_L_law 454 rfl) ?_
                            refine mj_go_iadd (mj_dt dt_L_law 455 rfl) ?_
                            refine mj_go_xld (j := 9000) (by decide) (mj_xb_use c16) (mj_dt dt_L_law 456 rfl) ?_
                            obtain ⟨r18, er18, h⟩ := mj_bind_some h
                            refine ml_callV (Y' := mY_X9_front) (as := [.int (xs (s.1 + 1).toNatClampNeg), .int (xs (s.1 + 2).toNatClampNeg)]) (rest := [.int r17.1]) (c := 9) (v := (some (.int r18.1))) (M1 := (mj_fin r18.2)) ho_95 rfl lm_L_68 wc_X9_front pl_X9_front ok_X9_front rfl rfl (Nat.le_of_ble_eq_true rfl) (k_X9_front (by omega) er18) (mj_dt dt_L_law 457 rfl) ?_
                            refine mj_go_icmp_eq (tgt := 1643) rfl (mj_dt dt_L_law 458 rfl) (fun b19 => ?_) (fun b19 => ?_)
                            · rw [if_pos b19] at h
                              refine mj_go_sub (lv' := [(0, .ref 9000), (1, .ref 0), (2, .ref 95), (3, .int s.1)]) (List.forall_mem_cons.mpr ⟨rfl, (List.forall_mem_cons.mpr ⟨rfl, (List.forall_mem_cons.mpr ⟨rfl, (List.forall_mem_cons.mpr ⟨rfl, (fun _ h9 => absurd h9 List.not_mem_nil)⟩)⟩)⟩)⟩) ?_
                              exact k_L_law_1643 q_18 hδ h
                            · rw [if_neg b19] at h
                              refine mj_go_iconst (v := 0) rfl (mj_dt dt_L_law 459 rfl) ?_
                              obtain rfl := Option.some.inj h
                              exact mj_go_ret (v := some (.int 0)) (Nat.le_of_ble_eq_true rfl) (mj_retZ (mj_dt dt_L_law 460 rfl) rfl rfl)
                          · rw [if_neg b14] at h
                            refine ⟨fun b15 => ?_, fun b15 => ?_⟩
                            · rw [if_pos b15] at h
                              refine ⟨741, by decide, ?_⟩
                              refine mj_go_aload_n (k := 1) (x := 0) rfl (mj_dt dt_L_law 461 rfl) ?_
                              refine mj_go_aload_n (k := 0) (x := 9000) rfl (mj_dt dt_L_law 462 rfl) ?_
                              refine mj_go_iload_n (k := 3) (x := s.1) rfl (mj_dt dt_L_law 463 rfl) ?_
                              refine mj_go_iconst (v := 1) rfl (mj_dt dt_L_law 464 rfl) ?_
                              refine mj_go_iadd (mj_dt dt_L_law 465 rfl) ?_
                              obtain ⟨c16, h⟩ := mj_ck_some h
                              refine mj_go_xld (j := 9000) (by decide) (mj_xb_use c16) (mj_dt dt_L_law 466 rfl) ?_
                              refine mj_go_aload_n (k := 0) (x := 9000) rfl (mj_dt dt_L_law 467 rfl) ?_
                              refine mj_go_iload_n (k := 3) (x := s.1) rfl (mj_dt dt_L_law 468 rfl) ?_
                              refine mj_go_iconst (v := 2) rfl (mj_dt dt_L_law 469 rfl) ?_
                              refine mj_go_iadd (mj_dt dt_L_law 470 rfl) ?_
                              obtain ⟨c17, h⟩ := mj_ck_some h
                              refine mj_go_xld (j := 9000) (by decide) (mj_xb_use c17) (mj_dt dt_L_law 471 rfl) ?_
                              obtain ⟨r18, er18, h⟩ := mj_bind_some h
                              refine ml_callV (Y' := mY_X8_next) (as := [.int (xs (s.1 + 1).toNatClampNeg), .int (xs (s.1 + 2).toNatClampNeg)]) (rest := []) (c := 8) (v := (some (.int r18.1))) (M1 := (mj_fin r18.2)) ho_0 rfl lm_L_69 wc_X8_next pl_X8_next ok_X8_next rfl rfl (Nat.le_of_ble_eq_true rfl) (k_X8_next (by omega) er18) (mj_dt dt_L_law 472 rfl) ?_
                              refine mj_go_aload_n (k := 2) (x := 95) rfl (mj_dt dt_L_law 473 rfl) ?_
                              refine mj_go_aload_n (k := 0) (x := 9000) rfl (mj_dt dt_L_law 474 rfl) ?_
                              refine mj_go_iload_n (k := 3) (x := s.1) rfl (mj_dt dt_L_law 475 rfl) ?_
                              refine mj_go_iconst (v := 1) rfl (mj_dt dt_L_law 476 rfl) ?_
                              refine mj_go_iadd (mj_dt dt_L_law 477 rfl) ?_
                              refine mj_go_xld (j := 9000) (by decide) (mj_xb_use c16) (mj_dt dt_L_law 478 rfl) ?_
                              refine mj_go_aload_n (k := 0) (x := 9000) rfl (mj_dt dt_L_law 479 rfl) ?_
                              refine mj_go_iload_n (k := 3) (x := s.1) rfl (mj_dt dt_L_law 480 rfl) ?_
                              refine mj_go_iconst (v := 2) rfl (mj_dt dt_L_law 481 rfl) ?_
                              refine mj_go_iadd (mj_dt dt_L_law 482 rfl) ?_
                              refine mj_go_xld (j := 9000) (by decide) (mj_xb_use c17) (mj_dt dt_L_law 483 rfl) ?_
                              obtain ⟨r19, er19, h⟩ := mj_bind_some h
                              refine ml_callV (Y' := mY_X9_next) (as := [.int (xs (s.1 + 1).toNatClampNeg), .int (xs (s.1 + 2).toNatClampNeg)]) (rest := [.int r18.1]) (c := 9) (v := (some (.int r19.1))) (M1 := (mj_fin r19.2)) ho_95 rfl lm_L_72 wc_X9_next pl_X9_next ok_X9_next rfl rfl (Nat.le_of_ble_eq_true rfl) (k_X9_next (by omega) er19) (mj_dt dt_L_law 484 rfl) ?_
                              refine mj_go_icmp_eq (tgt := 1643) rfl (mj_dt dt_L_law 485 rfl) (fun b20 => ?_) (fun b20 => ?_)
                              · rw [if_pos b20] at h
                                refine mj_go_sub (lv' := [(0, .ref 9000), (1, .ref 0), (2, .ref 95), (3, .int s.1)]) (List.forall_mem_cons.mpr ⟨rfl, (List.forall_mem_cons.mpr ⟨rfl, (List.forall_mem_cons.mpr ⟨rfl, (List.forall_mem_cons.mpr ⟨rfl, (fun _ h9 => absurd h9 List.not_mem_nil)⟩)⟩)⟩)⟩) ?_
                                exact k_L_law_1643 q_18 hδ h
                              · rw [if_neg b20] at h
                                refine mj_go_iconst (v := 0) rfl (mj_dt dt_L_law 486 rfl) ?_
                                obtain rfl := Option.some.inj h
                                exact mj_go_ret (v := some (.int 0)) (Nat.le_of_ble_eq_true rfl) (mj_retZ (mj_dt dt_L_law 487 rfl) rfl rfl)
                            · rw [if_neg b15] at h
                              refine ⟨fun b16 => ?_, fun b16 => ?_⟩
                              · rw [if_pos b16] at h
                                refine ⟨774, by decide, ?_⟩
                                refine mj_go_aload_n (k := 1) (x := 0) rfl (mj_dt dt_L_law 488 rfl) ?_
                                refine mj_go_aload_n (k := 0) (x := 9000) rfl (mj_dt dt_L_law 489 rfl) ?_
                                refine mj_go_iload_n (k := 3) (x := s.1) rfl (mj_dt dt_L_law 490 rfl) ?_
                                refine mj_go_iconst (v := 1) rfl (mj_dt dt_L_law 491 rfl) ?_
                                refine mj_go_iadd (mj_dt dt_L_law 492 rfl) ?_
                                obtain ⟨c17, h⟩ := mj_ck_some h
                                refine mj_go_xld (j := 9000) (by decide) (mj_xb_use c17) (mj_dt dt_L_law 493 rfl) ?_
                                refine mj_go_aload_n (k := 0) (x := 9000) rfl (mj_dt dt_L_law 494 rfl) ?_
                                refine mj_go_iload_n (k := 3) (x := s.1) rfl (mj_dt dt_L_law 495 rfl) ?_
                                refine mj_go_iconst (v := 2) rfl (mj_dt dt_L_law 496 rfl) ?_
                                refine mj_go_iadd (mj_dt dt_L_law 497 rfl) ?_
                                obtain ⟨c18, h⟩ := mj_ck_some h
                                refine mj_go_xld (j := 9000) (by decide) (mj_xb_use c18) (mj_dt dt_L_law 498 rfl) ?_
                                refine mj_go_aload_n (k := 0) (x := 9000) rfl (mj_dt dt_L_law 499 rfl) ?_
                                refine mj_go_iload_n (k := 3) (x := s.1) rfl (mj_dt dt_L_law 500 rfl) ?_
                                refine mj_go_iconst (v := 3) rfl (mj_dt dt_L_law 501 rfl) ?_
                                refine mj_go_iadd (mj_dt dt_L_law 502 rfl) ?_
                                obtain ⟨c19, h⟩ := mj_ck_some h
                                refine mj_go_xld (j := 9000) (by decide) (mj_xb_use c19) (mj_dt dt_L_law 503 rfl) ?_
                                obtain ⟨r20, er20, h⟩ := mj_bind_some h
                                refine ml_callV (Y' := mY_X8_alter) (as := [.int (xs (s.1 + 1).toNatClampNeg), .int (xs (s.1 + 2).toNatClampNeg), .int (xs (s.1 + 3).toNatClampNeg)]) (rest := []) (c := 8) (v := (some (.int r20.1))) (M1 := (mj_fin r20.2)) ho_0 rfl lm_L_73 wc_X8_alter pl_X8_alter ok_X8_alter rfl rfl (Nat.le_of_ble_eq_true rfl) (k_X8_alter (by omega) er20) (mj_dt dt_L_law 504 rfl) ?_
                                refine mj_go_aload_n (k := 2) (x := 95) rfl (mj_dt dt_L_law 505 rfl) ?_
                                refine mj_go_aload_n (k := 0) (x := 9000) rfl (mj_dt dt_L_law 506 rfl) ?_
                                refine mj_go_iload_n (k := 3) (x := s.1) rfl (mj_dt dt_L_law 507 rfl) ?_
                                refine mj_go_iconst (v := 1) rfl (mj_dt dt_L_law 508 rfl) ?_
                                refine mj_go_iadd (mj_dt dt_L_law 509 rfl) ?_
                                refine mj_go_xld (j := 9000) (by decide) (mj_xb_use c17) (mj_dt dt_L_law 510 rfl) ?_
                                refine mj_go_aload_n (k := 0) (x := 9000) rfl (mj_dt dt_L_law 511 rfl) ?_
                                refine mj_go_iload_n (k := 3) (x := s.1) rfl (mj_dt dt_L_law 512 rfl) ?_
                                refine mj_go_iconst (v := 2) rfl (mj_dt dt_L_law 513 rfl) ?_
                                refine mj_go_iadd (mj_dt dt_L_law 514 rfl) ?_
                                refine mj_go_xld (j := 9000) (by decide) (mj_xb_use c18) (mj_dt dt_L_law 515 rfl) ?_
                                refine mj_go_aload_n (k := 0) (x := 9000) rfl (mj_dt dt_L_law 516 rfl) ?_
                                refine mj_go_iload_n (k := 3) (x := s.1) rfl (mj_dt dt_L_law 517 rfl) ?_
                                refine mj_go_iconst (v := 3) rfl (mj_dt dt_L_law 518 rfl) ?_
                                refine mj_go_iadd (mj_dt dt_L_law 519 rfl) ?_
                                refine mj_go_xld (j := 9000) (by decide) (mj_xb_use c19) (mj_dt dt_L_law 520 rfl) ?_
                                obtain ⟨r21, er21, h⟩ := mj_bind_some h
                                refine ml_callV (Y' := mY_X9_alter) (as := [.int (xs (s.1 + 1).toNatClampNeg), .int (xs (s.1 + 2).toNatClampNeg), .int (xs (s.1 + 3).toNatClampNeg)]) (rest := [.int r20.1]) (c := 9) (v := (some (.int r21.1))) (M1 := (mj_fin r21.2)) ho_95 rfl lm_L_76 wc_X9_alter pl_X9_alter ok_X9_alter rfl rfl (Nat.le_of_ble_eq_true rfl) (k_X9_alter (by omega) er21) (mj_dt dt_L_law 521 rfl) ?_
                                refine mj_go_icmp_eq (tgt := 1643) rfl (mj_dt dt_L_law 522 rfl) (fun b22 => ?_) (fun b22 => ?_)
                                · rw [if_pos b22] at h
                                  refine mj_go_sub (lv' := [(0, .ref 9000), (1, .ref 0), (2, .ref 95), (3, .int s.1)]) (List.forall_mem_cons.mpr ⟨rfl, (List.forall_mem_cons.mpr ⟨rfl, (List.forall_mem_cons.mpr ⟨rfl, (List.forall_mem_cons.mpr ⟨rfl, (fun _ h9 => absurd h9 List.not_mem_nil)⟩)⟩)⟩)⟩) ?_
                                  exact k_L_law_1643 q_18 hδ h
                                · rw [if_neg b22] at h
                                  refine mj_go_iconst (v := 0) rfl (mj_dt dt_L_law 523 rfl) ?_
                                  obtain rfl := Option.some.inj h
                                  exact mj_go_ret (v := some (.int 0)) (Nat.le_of_ble_eq_true rfl) (mj_retZ (mj_dt dt_L_law 524 rfl) rfl rfl)
                              · rw [if_neg b16] at h
                                refine ⟨fun b17 => ?_, fun b17 => ?_⟩
                                · rw [if_pos b17] at h
                                  refine ⟨817, by decide, ?_⟩
                                  refine mj_go_aload_n (k := 1) (x := 0) rfl (mj_dt dt_L_law 525 rfl) ?_
                                  refine mj_go_aload_n (k := 0) (x := 9000) rfl (mj_dt dt_L_law 526 rfl) ?_
                                  refine mj_go_iload_n (k := 3) (x := s.1) rfl (mj_dt dt_L_law 527 rfl) ?_
                                  refine mj_go_iconst (v := 1) rfl (mj_dt dt_L_law 528 rfl) ?_
                                  refine mj_go_iadd (mj_dt dt_L_law 529 rfl) ?_
                                  obtain ⟨c18, h⟩ := mj_ck_some h
                                  refine mj_go_xld (j := 9000) (by decide) (mj_xb_use c18) (mj_dt dt_L_law 530 rfl) ?_
                                  refine mj_go_aload_n (k := 0) (x := 9000) rfl (mj_dt dt_L_law 531 rfl) ?_
                                  refine mj_go_iload_n (k := 3) (x := s.1) rfl (mj_dt dt_L_law 532 rfl) ?_
                                  refine mj_go_iconst (v := 2) rfl (mj_dt dt_L_law 533 rfl) ?_
                                  refine mj_go_iadd (mj_dt dt_L_law 534 rfl) ?_
                                  obtain ⟨c19, h⟩ := mj_ck_some h
                                  refine mj_go_xld (j := 9000) (by decide) (mj_xb_use c19) (mj_dt dt_L_law 535 rfl) ?_
                                  refine mj_go_if_eq (tgt := 835) rfl (mj_dt dt_L_law 536 rfl) (fun b20 => ?_) (fun b20 => ?_)
                                  · rw [if_pos b20] at h
                                    refine mj_go_iconst (v := 0) rfl (mj_dt dt_L_law 539 rfl) ?_
                                    refine mj_go_sub (lv' := [(0, .ref 9000), (1, .ref 0), (2, .ref 95), (3, .int s.1)]) (List.forall_mem_cons.mpr ⟨rfl, (List.forall_mem_cons.mpr ⟨rfl, (List.forall_mem_cons.mpr ⟨rfl, (List.forall_mem_cons.mpr ⟨rfl, (fun _ h9 => absurd h9 List.not_mem_nil)⟩)⟩)⟩)⟩) ?_
                                    exact k_L_law_836 q_18 hδ h
                                  · rw [if_neg b20] at h
                                    refine mj_go_iconst (v := 1) rfl (mj_dt dt_L_law 537 rfl) ?_
                                    refine mj_go_goto (tgt := 836) rfl (mj_dt dt_L_law 538 rfl) ?_
                                    refine mj_go_sub (lv' := [(0, .ref 9000), (1, .ref 0), (2, .ref 95), (3, .int s.1)]) (List.forall_mem_cons.mpr ⟨rfl, (List.forall_mem_cons.mpr ⟨rfl, (List.forall_mem_cons.mpr ⟨rfl, (List.forall_mem_cons.mpr ⟨rfl, (fun _ h9 => absurd h9 List.not_mem_nil)⟩)⟩)⟩)⟩) ?_
                                    exact k_L_law_836 q_18 hδ h
                                · rw [if_neg b17] at h
                                  refine ⟨fun b18 => ?_, fun b18 => ?_⟩
                                  · rw [if_pos b18] at h
                                    refine ⟨866, by decide, ?_⟩
                                    refine mj_go_aload_n (k := 1) (x := 0) rfl (mj_dt dt_L_law 560 rfl) ?_
                                    refine mj_go_aload_n (k := 0) (x := 9000) rfl (mj_dt dt_L_law 561 rfl) ?_
                                    refine mj_go_iload_n (k := 3) (x := s.1) rfl (mj_dt dt_L_law 562 rfl) ?_
                                    refine mj_go_iconst (v := 1) rfl (mj_dt dt_L_law 563 rfl) ?_
                                    refine mj_go_iadd (mj_dt dt_L_law 564 rfl) ?_
                                    obtain ⟨c19, h⟩ := mj_ck_some h
                                    refine mj_go_xld (j := 9000) (by decide) (mj_xb_use c19) (mj_dt dt_L_law 565 rfl) ?_
                                    refine mj_go_aload_n (k := 0) (x := 9000) rfl (mj_dt dt_L_law 566 rfl) ?_
                                    refine mj_go_iload_n (k := 3) (x := s.1) rfl (mj_dt dt_L_law 567 rfl) ?_
                                    refine mj_go_iconst (v := 2) rfl (mj_dt dt_L_law 568 rfl) ?_
                                    refine mj_go_iadd (mj_dt dt_L_law 569 rfl) ?_
                                    obtain ⟨c20, h⟩ := mj_ck_some h
                                    refine mj_go_xld (j := 9000) (by decide) (mj_xb_use c20) (mj_dt dt_L_law 570 rfl) ?_
                                    obtain ⟨r21, er21, h⟩ := mj_bind_some h
                                    refine ml_callV (Y' := mY_X8_shake) (as := [.int (xs (s.1 + 1).toNatClampNeg), .int (xs (s.1 + 2).toNatClampNeg)]) (rest := []) (c := 8) (v := (some (.int r21.1))) (M1 := (mj_fin r21.2)) ho_0 rfl lm_L_82 wc_X8_shake pl_X8_shake ok_X8_shake rfl rfl (Nat.le_of_ble_eq_true rfl) (k_X8_shake (by omega) er21) (mj_dt dt_L_law 571 rfl) ?_
                                    refine mj_go_aload_n (k := 2) (x := 95) rfl (mj_dt dt_L_law 572 rfl) ?_
                                    refine mj_go_aload_n (k := 0) (x := 9000) rfl (mj_dt dt_L_law 573 rfl) ?_
                                    refine mj_go_iload_n (k := 3) (x := s.1) rfl (mj_dt dt_L_law 574 rfl) ?_
                                    refine mj_go_iconst (v := 1) rfl (mj_dt dt_L_law 575 rfl) ?_
                                    refine mj_go_iadd (mj_dt dt_L_law 576 rfl) ?_
                                    refine mj_go_xld (j := 9000) (by decide) (mj_xb_use c19) (mj_dt dt_L_law 577 rfl) ?_
                                    refine mj_go_aload_n (k := 0) (x := 9000) rfl (mj_dt dt_L_law 578 rfl) ?_
                                    refine mj_go_iload_n (k := 3) (x := s.1) rfl (mj_dt dt_L_law 579 rfl) ?_
                                    refine mj_go_iconst (v := 2) rfl (mj_dt dt_L_law 580 rfl) ?_
                                    refine mj_go_iadd (mj_dt dt_L_law 581 rfl) ?_
                                    refine mj_go_xld (j := 9000) (by decide) (mj_xb_use c20) (mj_dt dt_L_law 582 rfl) ?_
                                    obtain ⟨r22, er22, h⟩ := mj_bind_some h
                                    refine ml_callV (Y' := mY_X9_shake) (as := [.int (xs (s.1 + 1).toNatClampNeg), .int (xs (s.1 + 2).toNatClampNeg)]) (rest := [.int r21.1]) (c := 9) (v := (some (.int r22.1))) (M1 := (mj_fin r22.2)) ho_95 rfl lm_L_85 wc_X9_shake pl_X9_shake ok_X9_shake rfl rfl (Nat.le_of_ble_eq_true rfl) (k_X9_shake (by omega) er22) (mj_dt dt_L_law 583 rfl) ?_
                                    refine mj_go_icmp_eq (tgt := 1643) rfl (mj_dt dt_L_law 584 rfl) (fun b23 => ?_) (fun b23 => ?_)
                                    · rw [if_pos b23] at h
                                      refine mj_go_sub (lv' := [(0, .ref 9000), (1, .ref 0), (2, .ref 95), (3, .int s.1)]) (List.forall_mem_cons.mpr ⟨rfl, (List.forall_mem_cons.mpr ⟨rfl, (List.forall_mem_cons.mpr ⟨rfl, (List.forall_mem_cons.mpr ⟨rfl, (fun _ h9 => absurd h9 List.not_mem_nil)⟩)⟩)⟩)⟩) ?_
                                      exact k_L_law_1643 q_18 hδ h
                                    · rw [if_neg b23] at h
                                      refine mj_go_iconst (v := 0) rfl (mj_dt dt_L_law 585 rfl) ?_
                                      obtain rfl := Option.some.inj h
                                      exact mj_go_ret (v := some (.int 0)) (Nat.le_of_ble_eq_true rfl) (mj_retZ (mj_dt dt_L_law 586 rfl) rfl rfl)
                                  · rw [if_neg b18] at h
                                    refine ⟨fun b19 => ?_, fun b19 => ?_⟩
                                    · rw [if_pos b19] at h
                                      refine ⟨899, by decide, ?_⟩
                                      refine mj_go_aload_n (k := 1) (x := 0) rfl (mj_dt dt_L_law 587 rfl) ?_
                                      refine mj_go_aload_n (k := 0) (x := 9000) rfl (mj_dt dt_L_law 588 rfl) ?_
                                      refine mj_go_iload_n (k := 3) (x := s.1) rfl (mj_dt dt_L_law 589 rfl) ?_
                                      refine mj_go_iconst (v := 1) rfl (mj_dt dt_L_law 590 rfl) ?_
                                      refine mj_go_iadd (mj_dt dt_L_law 591 rfl) ?_
                                      obtain ⟨c20, h⟩ := mj_ck_some h
                                      refine mj_go_xld (j := 9000) (by decide) (mj_xb_use c20) (mj_dt dt_L_law 592 rfl) ?_
                                      refine mj_go_aload_n (k := 0) (x := 9000) rfl (mj_dt dt_L_law 593 rfl) ?_
                                      refine mj_go_iload_n (k := 3) (x := s.1) rfl (mj_dt dt_L_law 594 rfl) ?_
                                      refine mj_go_iconst (v := 2) rfl (mj_dt dt_L_law 595 rfl) ?_
                                      refine mj_go_iadd (mj_dt dt_L_law 596 rfl) ?_
                                      obtain ⟨c21, h⟩ := mj_ck_some h
                                      refine mj_go_xld (j := 9000) (by decide) (mj_xb_use c21) (mj_dt dt_L_law 597 rfl) ?_
                                      obtain ⟨r22, er22, h⟩ := mj_bind_some h
                                      refine ml_callV (Y' := mY_X8_ask) (as := [.int (xs (s.1 + 1).toNatClampNeg), .int (xs (s.1 + 2).toNatClampNeg)]) (rest := []) (c := 8) (v := (some (.int r22.1))) (M1 := (mj_fin r22.2)) ho_0 rfl lm_L_86 wc_X8_ask pl_X8_ask ok_X8_ask rfl rfl (Nat.le_of_ble_eq_true rfl) (k_X8_ask (by omega) er22) (mj_dt dt_L_law 598 rfl) ?_
                                      refine mj_go_aload_n (k := 2) (x := 95) rfl (mj_dt dt_L_law 599 rfl) ?_
                                      refine mj_go_aload_n (k := 0) (x := 9000) rfl (mj_dt dt_L_law 600 rfl) ?_
                                      refine mj_go_iload_n (k := 3) (x := s.1) rfl (mj_dt dt_L_law 601 rfl) ?_
                                      refine mj_go_iconst (v := 1) rfl (mj_dt dt_L_law 602 rfl) ?_
                                      refine mj_go_iadd (mj_dt dt_L_law 603 rfl) ?_
                                      refine mj_go_xld (j := 9000) (by decide) (mj_xb_use c20) (mj_dt dt_L_law 604 rfl) ?_
                                      refine mj_go_aload_n (k := 0) (x := 9000) rfl (mj_dt dt_L_law 605 rfl) ?_
                                      refine mj_go_iload_n (k := 3) (x := s.1) rfl (mj_dt dt_L_law 606 rfl) ?_
                                      refine mj_go_iconst (v := 2) rfl (mj_dt dt_L_law 607 rfl) ?_
                                      refine mj_go_iadd (mj_dt dt_L_law 608 rfl) ?_
                                      refine mj_go_xld (j := 9000) (by decide) (mj_xb_use c21) (mj_dt dt_L_law 609 rfl) ?_
                                      obtain ⟨r23, er23, h⟩ := mj_bind_some h
                                      refine ml_callV (Y' := mY_X9_ask) (as := [.int (xs (s.1 + 1).toNatClampNeg), .int (xs (s.1 + 2).toNatClampNeg)]) (rest := [.int r22.1]) (c := 9) (v := (some (.int r23.1))) (M1 := (mj_fin r23.2)) ho_95 rfl lm_L_89 wc_X9_ask pl_X9_ask ok_X9_ask rfl rfl (Nat.le_of_ble_eq_true rfl) (k_X9_ask (by omega) er23) (mj_dt dt_L_law 610 rfl) ?_
                                      refine mj_go_icmp_eq (tgt := 1643) rfl (mj_dt dt_L_law 611 rfl) (fun b24 => ?_) (fun b24 => ?_)
                                      · rw [if_pos b24] at h
                                        refine mj_go_sub (lv' := [(0, .ref 9000), (1, .ref 0), (2, .ref 95), (3, .int s.1)]) (List.forall_mem_cons.mpr ⟨rfl, (List.forall_mem_cons.mpr ⟨rfl, (List.forall_mem_cons.mpr ⟨rfl, (List.forall_mem_cons.mpr ⟨rfl, (fun _ h9 => absurd h9 List.not_mem_nil)⟩)⟩)⟩)⟩) ?_
                                        exact k_L_law_1643 q_18 hδ h
                                      · rw [if_neg b24] at h
                                        refine mj_go_iconst (v := 0) rfl (mj_dt dt_L_law 612 rfl) ?_
                                        obtain rfl := Option.some.inj h
                                        exact mj_go_ret (v := some (.int 0)) (Nat.le_of_ble_eq_true rfl) (mj_retZ (mj_dt dt_L_law 613 rfl) rfl rfl)
                                    · rw [if_neg b19] at h
                                      refine ⟨fun b20 => ?_, fun b20 => ?_⟩
                                      · rw [if_pos b20] at h
                                        refine ⟨932, by decide, ?_⟩
                                        refine mj_go_aload_n (k := 1) (x := 0) rfl (mj_dt dt_L_law 614 rfl) ?_
                                        refine mj_go_aload_n (k := 0) (x := 9000) rfl (mj_dt dt_L_law 615 rfl) ?_
                                        refine mj_go_iload_n (k := 3) (x := s.1) rfl (mj_dt dt_L_law 616 rfl) ?_
                                        refine mj_go_iconst (v := 1) rfl (mj_dt dt_L_law 617 rfl) ?_
                                        refine mj_go_iadd (mj_dt dt_L_law 618 rfl) ?_
                                        obtain ⟨c21, h⟩ := mj_ck_some h
                                        refine mj_go_xld (j := 9000) (by decide) (mj_xb_use c21) (mj_dt dt_L_law 619 rfl) ?_
                                        obtain ⟨r22, er22, h⟩ := mj_bind_some h
                                        refine ml_callV (Y' := mY_X8_town) (as := [.int (xs (s.1 + 1).toNatClampNeg)]) (rest := []) (c := 8) (v := (some (.int r22.1))) (M1 := (mj_fin r22.2)) ho_0 rfl lm_L_90 wc_X8_town pl_X8_town ok_X8_town rfl rfl (Nat.le_of_ble_eq_true rfl) (k_X8_town (by omega) er22) (mj_dt dt_L_law 620 rfl) ?_
                                        refine mj_go_aload_n (k := 2) (x := 95) rfl (mj_dt dt_L_law 621 rfl) ?_
                                        refine mj_go_aload_n (k := 0) (x := 9000) rfl (mj_dt dt_L_law 622 rfl) ?_
                                        refine mj_go_iload_n (k := 3) (x := s.1) rfl (mj_dt dt_L_law 623 rfl) ?_
                                        refine mj_go_iconst (v := 1) rfl (mj_dt dt_L_law 624 rfl) ?_
                                        refine mj_go_iadd (mj_dt dt_L_law 625 rfl) ?_
                                        refine mj_go_xld (j := 9000) (by decide) (mj_xb_use c21) (mj_dt dt_L_law 626 rfl) ?_
                                        obtain ⟨r23, er23, h⟩ := mj_bind_some h
                                        refine ml_callV (Y' := mY_X9_town) (as := [.int (xs (s.1 + 1).toNatClampNeg)]) (rest := [.int r22.1]) (c := 9) (v := (some (.int r23.1))) (M1 := (mj_fin r23.2)) ho_95 rfl lm_L_93 wc_X9_town pl_X9_town ok_X9_town rfl rfl (Nat.le_of_ble_eq_true rfl) (k_X9_town (by omega) er23) (mj_dt dt_L_law 627 rfl) ?_
                                        refine mj_go_icmp_eq (tgt := 1643) rfl (mj_dt dt_L_law 628 rfl) (fun b24 => ?_) (fun b24 => ?_)
                                        · rw [if_pos b24] at h
                                          refine mj_go_sub (lv' := [(0, .ref 9000), (1, .ref 0), (2, .ref 95), (3, .int s.1)]) (List.forall_mem_cons.mpr ⟨rfl, (List.forall_mem_cons.mpr ⟨rfl, (List.forall_mem_cons.mpr ⟨rfl, (List.forall_mem_cons.mpr ⟨rfl, (fun _ h9 => absurd h9 List.not_mem_nil)⟩)⟩)⟩)⟩) ?_
                                          exact k_L_law_1643 q_18 hδ h
                                        · rw [if_neg b24] at h
                                          refine mj_go_iconst (v := 0) rfl (mj_dt dt_L_law 629 rfl) ?_
                                          obtain rfl := Option.some.inj h
                                          exact mj_go_ret (v := some (.int 0)) (Nat.le_of_ble_eq_true rfl) (mj_retZ (mj_dt dt_L_law 630 rfl) rfl rfl)
                                      · rw [if_neg b20] at h
                                        refine ⟨fun b21 => ?_, fun b21 => ?_⟩
                                        · rw [if_pos b21] at h
                                          refine ⟨955, by decide, ?_⟩
                                          refine mj_go_aload_n (k := 1) (x := 0) rfl (mj_dt dt_L_law 631 rfl) ?_
                                          obtain ⟨r22, er22, h⟩ := mj_bind_some h
                                          refine ml_callV (Y' := mY_X8_fault) (as := []) (rest := []) (c := 8) (v := (some (.int r22))) (M1 := (mj_fin s.2)) ho_0 rfl lm_L_94 wc_X8_fault pl_X8_fault ok_X8_fault rfl rfl (Nat.le_of_ble_eq_true rfl) (k_X8_fault (by omega) er22) (mj_dt dt_L_law 632 rfl) ?_
                                          refine mj_go_aload_n (k := 2) (x := 95) rfl (mj_dt dt_L_law 633 rfl) ?_
                                          obtain ⟨r23, er23, h⟩ := mj_bind_some h
                                          refine ml_callV (Y' := mY_X9_fault) (as := []) (rest := [.int r22]) (c := 9) (v := (some (.int r23))) (M1 := (mj_fin s.2)) ho_95 rfl lm_L_98 wc_X9_fault pl_X9_fault ok_X9_fault rfl rfl (Nat.le_of_ble_eq_true rfl) (k_X9_fault (by omega) er23) (mj_dt dt_L_law 634 rfl) ?_
                                          refine mj_go_icmp_eq (tgt := 1643) rfl (mj_dt dt_L_law 635 rfl) (fun b24 => ?_) (fun b24 => ?_)
                                          · rw [if_pos b24] at h
                                            refine mj_go_sub (lv' := [(0, .ref 9000), (1, .ref 0), (2, .ref 95), (3, .int s.1)]) (List.forall_mem_cons.mpr ⟨rfl, (List.forall_mem_cons.mpr ⟨rfl, (List.forall_mem_cons.mpr ⟨rfl, (List.forall_mem_cons.mpr ⟨rfl, (fun _ h9 => absurd h9 List.not_mem_nil)⟩)⟩)⟩)⟩) ?_
                                            exact k_L_law_1643 q_18 hδ h
                                          · rw [if_neg b24] at h
                                            refine mj_go_iconst (v := 0) rfl (mj_dt dt_L_law 636 rfl) ?_
                                            obtain rfl := Option.some.inj h
                                            exact mj_go_ret (v := some (.int 0)) (Nat.le_of_ble_eq_true rfl) (mj_retZ (mj_dt dt_L_law 637 rfl) rfl rfl)
                                        · rw [if_neg b21] at h
                                          refine ⟨fun b22 => ?_, fun b22 => ?_⟩
                                          · rw [if_pos b22] at h
                                            refine ⟨968, by decide, ?_⟩
                                            refine mj_go_aload_n (k := 1) (x := 0) rfl (mj_dt dt_L_law 638 rfl) ?_
                                            refine mj_go_aload_n (k := 0) (x := 9000) rfl (mj_dt dt_L_law 639 rfl) ?_
                                            refine mj_go_iload_n (k := 3) (x := s.1) rfl (mj_dt dt_L_law 640 rfl) ?_
                                            refine mj_go_iconst (v := 1) rfl (mj_dt dt_L_law 641 rfl) ?_
                                            refine mj_go_iadd (mj_dt dt_L_law 642 rfl) ?_
                                            obtain ⟨c23, h⟩ := mj_ck_some h
                                            refine mj_go_xld (j := 9000) (by decide) (mj_xb_use c23) (mj_dt dt_L_law 643 rfl) ?_
                                            refine mj_go_aload_n (k := 0) (x := 9000) rfl (mj_dt dt_L_law 644 rfl) ?_
                                            refine mj_go_iload_n (k := 3) (x := s.1) rfl (mj_dt dt_L_law 645 rfl) ?_
                                            refine mj_go_iconst (v := 2) rfl (mj_dt dt_L_law 646 rfl) ?_
                                            refine mj_go_iadd (mj_dt dt_L_law 647 rfl) ?_
                                            obtain ⟨c24, h⟩ := mj_ck_some h
                                            refine mj_go_xld (j := 9000) (by decide) (mj_xb_use c24) (mj_dt dt_L_law 648 rfl) ?_
                                            obtain ⟨r25, er25, h⟩ := mj_bind_some h
                                            refine ml_callV (Y' := mY_X8_falls) (as := [.int (xs (s.1 + 1).toNatClampNeg), .int (xs (s.1 + 2).toNatClampNeg)]) (rest := []) (c := 8) (v := (some (.int r25.1))) (M1 := (mj_fin r25.2)) ho_0 rfl lm_L_99 wc_X8_falls pl_X8_falls ok_X8_falls rfl rfl (Nat.le_of_ble_eq_true rfl) (k_X8_falls (by omega) er25) (mj_dt dt_L_law 649 rfl) ?_
                                            refine mj_go_aload_n (k := 2) (x := 95) rfl (mj_dt dt_L_law 650 rfl) ?_
                                            refine mj_go_aload_n (k := 0) (x := 9000) rfl (mj_dt dt_L_law 651 rfl) ?_
                                            refine mj_go_iload_n (k := 3) (x := s.1) rfl (mj_dt dt_L_law 652 rfl) ?_
                                            refine mj_go_iconst (v := 1) rfl (mj_dt dt_L_law 653 rfl) ?_
                                            refine mj_go_iadd (mj_dt dt_L_law 654 rfl) ?_
                                            refine mj_go_xld (j := 9000) (by decide) (mj_xb_use c23) (mj_dt dt_L_law 655 rfl) ?_
                                            refine mj_go_aload_n (k := 0) (x := 9000) rfl (mj_dt dt_L_law 656 rfl) ?_
                                            refine mj_go_iload_n (k := 3) (x := s.1) rfl (mj_dt dt_L_law 657 rfl) ?_
                                            refine mj_go_iconst (v := 2) rfl (mj_dt dt_L_law 658 rfl) ?_
                                            refine mj_go_iadd (mj_dt dt_L_law 659 rfl) ?_
                                            refine mj_go_xld (j := 9000) (by decide) (mj_xb_use c24) (mj_dt dt_L_law 660 rfl) ?_
                                            obtain ⟨r26, er26, h⟩ := mj_bind_some h
                                            refine ml_callV (Y' := mY_X9_falls) (as := [.int (xs (s.1 + 1).toNatClampNeg), .int (xs (s.1 + 2).toNatClampNeg)]) (rest := [.int r25.1]) (c := 9) (v := (some (.int r26.1))) (M1 := (mj_fin r26.2)) ho_95 rfl lm_L_102 wc_X9_falls pl_X9_falls ok_X9_falls rfl rfl (Nat.le_of_ble_eq_true rfl) (k_X9_falls (by omega) er26) (mj_dt dt_L_law 661 rfl) ?_
                                            refine mj_go_icmp_eq (tgt := 1643) rfl (mj_dt dt_L_law 662 rfl) (fun b27 => ?_) (fun b27 => ?_)
                                            · rw [if_pos b27] at h
                                              refine mj_go_sub (lv' := [(0, .ref 9000), (1, .ref 0), (2, .ref 95), (3, .int s.1)]) (List.forall_mem_cons.mpr ⟨rfl, (List.forall_mem_cons.mpr ⟨rfl, (List.forall_mem_cons.mpr ⟨rfl, (List.forall_mem_cons.mpr ⟨rfl, (fun _ h9 => absurd h9 List.not_mem_nil)⟩)⟩)⟩)⟩) ?_
                                              exact k_L_law_1643 q_18 hδ h
                                            · rw [if_neg b27] at h
                                              refine mj_go_iconst (v := 0) rfl (mj_dt dt_L_law 663 rfl) ?_
                                              obtain rfl := Option.some.inj h
                                              exact mj_go_ret (v := some (.int 0)) (Nat.le_of_ble_eq_true rfl) (mj_retZ (mj_dt dt_L_law 664 rfl) rfl rfl)
                                          · rw [if_neg b22] at h
                                            refine ⟨fun b23 => ?_, fun b23 => ?_⟩
                                            · rw [if_pos b23] at h
                                              refine ⟨1001, by decide, ?_⟩
                                              refine mj_go_aload_n (k := 1) (x := 0) rfl (mj_dt dt_L_law 665 rfl) ?_
                                              refine mj_go_aload_n (k := 0) (x := 9000) rfl (mj_dt dt_L_law 666 rfl) ?_
                                              refine mj_go_iload_n (k := 3) (x := s.1) rfl (mj_dt dt_L_law 667 rfl) ?_
                                              refine mj_go_iconst (v := 1) rfl (mj_dt dt_L_law 668 rfl) ?_
                                              refine mj_go_iadd (mj_dt dt_L_law 669 rfl) ?_
                                              obtain ⟨c24, h⟩ := mj_ck_some h
                                              refine mj_go_xld (j := 9000) (by decide) (mj_xb_use c24) (mj_dt dt_L_law 670 rfl) ?_
                                              obtain ⟨r25, er25, h⟩ := mj_bind_some h
                                              refine ml_callV (Y' := mY_X8_cut) (as := [.int (xs (s.1 + 1).toNatClampNeg)]) (rest := []) (c := 8) (v := (some (.int r25.1))) (M1 := (mj_fin r25.2)) ho_0 rfl lm_L_103 wc_X8_cut pl_X8_cut ok_X8_cut rfl rfl (Nat.le_of_ble_eq_true rfl) (k_X8_cut (by omega) er25) (mj_dt dt_L_law 671 rfl) ?_
                                              refine mj_go_aload_n (k := 2) (x := 95) rfl (mj_dt dt_L_law 672 rfl) ?_
                                              refine mj_go_aload_n (k := 0) (x := 9000) rfl (mj_dt dt_L_law 673 rfl) ?_
                                              refine mj_go_iload_n (k := 3) (x := s.1) rfl (mj_dt dt_L_law 674 rfl) ?_
                                              refine mj_go_iconst (v := 1) rfl (mj_dt dt_L_law 675 rfl) ?_
                                              refine mj_go_iadd (mj_dt dt_L_law 676 rfl) ?_
                                              refine mj_go_xld (j := 9000) (by decide) (mj_xb_use c24) (mj_dt dt_L_law 677 rfl) ?_
                                              obtain ⟨r26, er26, h⟩ := mj_bind_some h
                                              refine ml_callV (Y' := mY_X9_cut) (as := [.int (xs (s.1 + 1).toNatClampNeg)]) (rest := [.int r25.1]) (c := 9) (v := (some (.int r26.1))) (M1 := (mj_fin r26.2)) ho_95 rfl lm_L_106 wc_X9_cut pl_X9_cut ok_X9_cut rfl rfl (Nat.le_of_ble_eq_true rfl) (k_X9_cut (by omega) er26) (mj_dt dt_L_law 678 rfl) ?_
                                              refine mj_go_icmp_eq (tgt := 1643) rfl (mj_dt dt_L_law 679 rfl) (fun b27 => ?_) (fun b27 => ?_)
                                              · rw [if_pos b27] at h
                                                refine mj_go_sub (lv' := [(0, .ref 9000), (1, .ref 0), (2, .ref 95), (3, .int s.1)]) (List.forall_mem_cons.mpr ⟨rfl, (List.forall_mem_cons.mpr ⟨rfl, (List.forall_mem_cons.mpr ⟨rfl, (List.forall_mem_cons.mpr ⟨rfl, (fun _ h9 => absurd h9 List.not_mem_nil)⟩)⟩)⟩)⟩) ?_
                                                exact k_L_law_1643 q_18 hδ h
                                              · rw [if_neg b27] at h
                                                refine mj_go_iconst (v := 0) rfl (mj_dt dt_L_law 680 rfl) ?_
                                                obtain rfl := Option.some.inj h
                                                exact mj_go_ret (v := some (.int 0)) (Nat.le_of_ble_eq_true rfl) (mj_retZ (mj_dt dt_L_law 681 rfl) rfl rfl)
                                            · rw [if_neg b23] at h
                                              refine ⟨fun b24 => ?_, fun b24 => ?_⟩
                                              · rw [if_pos b24] at h
                                                refine ⟨1024, by decide, ?_⟩
                                                refine mj_go_aload_n (k := 1) (x := 0) rfl (mj_dt dt_L_law 682 rfl) ?_
                                                refine mj_go_aload_n (k := 0) (x := 9000) rfl (mj_dt dt_L_law 683 rfl) ?_
                                                refine mj_go_iload_n (k := 3) (x := s.1) rfl (mj_dt dt_L_law 684 rfl) ?_
                                                refine mj_go_iconst (v := 1) rfl (mj_dt dt_L_law 685 rfl) ?_
                                                refine mj_go_iadd (mj_dt dt_L_law 686 rfl) ?_
                                                obtain ⟨c25, h⟩ := mj_ck_some h
                                                refine mj_go_xld (j := 9000) (by decide) (mj_xb_use c25) (mj_dt dt_L_law 687 rfl) ?_
                                                refine mj_go_aload_n (k := 0) (x := 9000) rfl (mj_dt dt_L_law 688 rfl) ?_
                                                refine mj_go_iload_n (k := 3) (x := s.1) rfl (mj_dt dt_L_law 689 rfl) ?_
                                                refine mj_go_iconst (v := 2) rfl (mj_dt dt_L_law 690 rfl) ?_
                                                refine mj_go_iadd (mj_dt dt_L_law 691 rfl) ?_
                                                obtain ⟨c26, h⟩ := mj_ck_some h
                                                refine mj_go_xld (j := 9000) (by decide) (mj_xb_use c26) (mj_dt dt_L_law 692 rfl) ?_
                                                obtain ⟨r27, er27, h⟩ := mj_bind_some h
                                                refine ml_callV (Y' := mY_X8_lost) (as := [.int (xs (s.1 + 1).toNatClampNeg), .int (xs (s.1 + 2).toNatClampNeg)]) (rest := []) (c := 8) (v := (some (.long r27.1))) (M1 := (mj_fin r27.2)) ho_0 rfl lm_L_107 wc_X8_lost pl_X8_lost ok_X8_lost rfl rfl (Nat.le_of_ble_eq_true rfl) (k_X8_lost (by omega) er27) (mj_dt dt_L_law 693 rfl) ?_
                                                refine mj_go_aload_n (k := 2) (x := 95) rfl (mj_dt dt_L_law 694 rfl) ?_
                                                refine mj_go_aload_n (k := 0) (x := 9000) rfl (mj_dt dt_L_law 695 rfl) ?_
                                                refine mj_go_iload_n (k := 3) (x := s.1) rfl (mj_dt dt_L_law 696 rfl) ?_
                                                refine mj_go_iconst (v := 1) rfl (mj_dt dt_L_law 697 rfl) ?_
                                                refine mj_go_iadd (mj_dt dt_L_law 698 rfl) ?_
                                                refine mj_go_xld (j := 9000) (by decide) (mj_xb_use c25) (mj_dt dt_L_law 699 rfl) ?_
                                                refine mj_go_aload_n (k := 0) (x := 9000) rfl (mj_dt dt_L_law 700 rfl) ?_
                                                refine mj_go_iload_n (k := 3) (x := s.1) rfl (mj_dt dt_L_law 701 rfl) ?_
                                                refine mj_go_iconst (v := 2) rfl (mj_dt dt_L_law 702 rfl) ?_
                                                refine mj_go_iadd (mj_dt dt_L_law 703 rfl) ?_
                                                refine mj_go_xld (j := 9000) (by decide) (mj_xb_use c26) (mj_dt dt_L_law 704 rfl) ?_
                                                obtain ⟨r28, er28, h⟩ := mj_bind_some h
                                                refine ml_callV (Y' := mY_X9_lost) (as := [.int (xs (s.1 + 1).toNatClampNeg), .int (xs (s.1 + 2).toNatClampNeg)]) (rest := [.long r27.1]) (c := 9) (v := (some (.long r28.1))) (M1 := (mj_fin r28.2)) ho_95 rfl lm_L_110 wc_X9_lost pl_X9_lost ok_X9_lost rfl rfl (Nat.le_of_ble_eq_true rfl) (k_X9_lost (by omega) er28) (mj_dt dt_L_law 705 rfl) ?_
                                                refine mj_go_lcmp (mj_dt dt_L_law 706 rfl) ?_
                                                refine mj_go_if_eq (tgt := 1643) rfl (mj_dt dt_L_law 707 rfl) (fun b29 => ?_) (fun b29 => ?_)
                                                · rw [if_pos b29] at h
                                                  refine mj_go_sub (lv' := [(0, .ref 9000), (1, .ref 0), (2, .ref 95), (3, .int s.1)]) (List.forall_mem_cons.mpr ⟨rfl, (List.forall_mem_cons.mpr ⟨rfl, (List.forall_mem_cons.mpr ⟨rfl, (List.forall_mem_cons.mpr ⟨rfl, (fun _ h9 => absurd h9 List.not_mem_nil)⟩)⟩)⟩)⟩) ?_
                                                  exact k_L_law_1643 q_18 hδ h
                                                · rw [if_neg b29] at h
                                                  refine mj_go_iconst (v := 0) rfl (mj_dt dt_L_law 708 rfl) ?_
                                                  obtain rfl := Option.some.inj h
                                                  exact mj_go_ret (v := some (.int 0)) (Nat.le_of_ble_eq_true rfl) (mj_retZ (mj_dt dt_L_law 709 rfl) rfl rfl)
                                              · rw [if_neg b24] at h
                                                refine ⟨fun b25 => ?_, fun b25 => ?_⟩
                                                · rw [if_pos b25] at h
                                                  refine ⟨1058, by decide, ?_⟩
                                                  refine mj_go_aload_n (k := 1) (x := 0) rfl (mj_dt dt_L_law 710 rfl) ?_
                                                  refine mj_go_aload_n (k := 0) (x := 9000) rfl (mj_dt dt_L_law 711 rfl) ?_
                                                  refine mj_go_iload_n (k := 3) (x := s.1) rfl (mj_dt dt_L_law 712 rfl) ?_
                                                  refine mj_go_iconst (v := 1) rfl (mj_dt dt_L_law 713 rfl) ?_
                                                  refine mj_go_iadd (mj_dt dt_L_law 714 rfl) ?_
                                                  obtain ⟨c26, h⟩ := mj_ck_some h
                                                  refine mj_go_xld (j := 9000) (by decide) (mj_xb_use c26) (mj_dt dt_L_law 715 rfl) ?_
                                                  refine mj_go_aload_n (k := 0) (x := 9000) rfl (mj_dt dt_L_law 716 rfl) ?_
                                                  refine mj_go_iload_n (k := 3) (x := s.1) rfl (mj_dt dt_L_law 717 rfl) ?_
                                                  refine mj_go_iconst (v := 2) rfl (mj_dt dt_L_law 718 rfl) ?_
                                                  refine mj_go_iadd (mj_dt dt_L_law 719 rfl) ?_
                                                  obtain ⟨c27, h⟩ := mj_ck_some h
                                                  refine mj_go_xld (j := 9000) (by decide) (mj_xb_use c27) (mj_dt dt_L_law 720 rfl) ?_
                                                  obtain ⟨r28, er28, h⟩ := mj_bind_some h
                                                  refine ml_callV (Y' := mY_X8_dead) (as := [.int (xs (s.1 + 1).toNatClampNeg), .int (xs (s.1 + 2).toNatClampNeg)]) (rest := []) (c := 8) (v := (some (.long r28.1))) (M1 := (mj_fin r28.2)) ho_0 rfl lm_L_111 wc_X8_dead pl_X8_dead ok_X8_dead rfl rfl (Nat.le_of_ble_eq_true rfl) (k_X8_dead (by omega) er28) (mj_dt dt_L_law 721 rfl) ?_
                                                  refine mj_go_aload_n (k := 2) (x := 95) rfl (mj_dt dt_L_law 722 rfl) ?_
                                                  refine mj_go_aload_n (k := 0) (x := 9000) rfl (mj_dt dt_L_law 723 rfl) ?_
                                                  refine mj_go_iload_n (k := 3) (x := s.1) rfl (mj_dt dt_L_law 724 rfl) ?_
                                                  refine mj_go_iconst (v := 1) rfl (mj_dt dt_L_law 725 rfl) ?_
                                                  refine mj_go_iadd (mj_dt dt_L_law 726 rfl) ?_
                                                  refine mj_go_xld (j := 9000) (by decide) (mj_xb_use c26) (mj_dt dt_L_law 727 rfl) ?_
                                                  refine mj_go_aload_n (k := 0) (x := 9000) rfl (mj_dt dt_L_law 728 rfl) ?_
                                                  refine mj_go_iload_n (k := 3) (x := s.1) rfl (mj_dt dt_L_law 729 rfl) ?_
                                                  refine mj_go_iconst (v := 2) rfl (mj_dt dt_L_law 730 rfl) ?_
                                                  refine mj_go_iadd (mj_dt dt_L_law 731 rfl) ?_
                                                  refine mj_go_xld (j := 9000) (by decide) (mj_xb_use c27) (mj_dt dt_L_law 732 rfl) ?_
                                                  obtain ⟨r29, er29, h⟩ := mj_bind_some h
                                                  refine ml_callV (Y' := mY_X9_dead) (as := [.int (xs (s.1 + 1).toNatClampNeg), .int (xs (s.1 + 2).toNatClampNeg)]) (rest := [.long r28.1]) (c := 9) (v := (some (.long r29.1))) (M1 := (mj_fin r29.2)) ho_95 rfl lm_L_114 wc_X9_dead pl_X9_dead ok_X9_dead rfl rfl (Nat.le_of_ble_eq_true rfl) (k_X9_dead (by omega) er29) (mj_dt dt_L_law 733 rfl) ?_
                                                  refine mj_go_lcmp (mj_dt dt_L_law 734 rfl) ?_
                                                  refine mj_go_if_eq (tgt := 1643) rfl (mj_dt dt_L_law 735 rfl) (fun b30 => ?_) (fun b30 => ?_)
                                                  · rw [if_pos b30] at h
                                                    refine mj_go_sub (lv' := [(0, .ref 9000), (1, .ref 0), (2, .ref 95), (3, .int s.1)]) (List.forall_mem_cons.mpr ⟨rfl, (List.forall_mem_cons.mpr ⟨rfl, (List.forall_mem_cons.mpr ⟨rfl, (List.forall_mem_cons.mpr ⟨rfl, (fun _ h9 => absurd h9 List.not_mem_nil)⟩)⟩)⟩)⟩) ?_
                                                    exact k_L_law_1643 q_18 hδ h
                                                  · rw [if_neg b30] at h
                                                    refine mj_go_iconst (v := 0) rfl (mj_dt dt_L_law 736 rfl) ?_
                                                    obtain rfl := Option.some.inj h
                                                    exact mj_go_ret (v := some (.int 0)) (Nat.le_of_ble_eq_true rfl) (mj_retZ (mj_dt dt_L_law 737 rfl) rfl rfl)
                                                · rw [if_neg b25] at h
                                                  refine ⟨fun b26 => ?_, fun b26 => ?_⟩
                                                  · rw [if_pos b26] at h
                                                    refine ⟨1092, by decide, ?_⟩
                                                    refine mj_go_aload_n (k := 1) (x := 0) rfl (mj_dt dt_L_law 738 rfl) ?_
                                                    refine mj_go_aload_n (k := 0) (x := 9000) rfl (mj_dt dt_L_law 739 rfl) ?_
                                                    refine mj_go_iload_n (k := 3) (x := s.1) rfl (mj_dt dt_L_law 740 rfl) ?_
                                                    refine mj_go_iconst (v := 1) rfl (mj_dt dt_L_law 741 rfl) ?_
                                                    refine mj_go_iadd (mj_dt dt_L_law 742 rfl) ?_
                                                    obtain ⟨c27, h⟩ := mj_ck_some h
                                                    refine mj_go_xld (j := 9000) (by decide) (mj_xb_use c27) (mj_dt dt_L_law 743 rfl) ?_
                                                    refine mj_go_aload_n (k := 0) (x := 9000) rfl (mj_dt dt_L_law 744 rfl) ?_
                                                    refine mj_go_iload_n (k := 3) (x := s.1) rfl (mj_dt dt_L_law 745 rfl) ?_
                                                    refine mj_go_iconst (v := 2) rfl (mj_dt dt_L_law 746 rfl) ?_
                                                    refine mj_go_iadd (mj_dt dt_L_law 747 rfl) ?_
                                                    obtain ⟨c28, h⟩ := mj_ck_some h
                                                    refine mj_go_xld (j := 9000) (by decide) (mj_xb_use c28) (mj_dt dt_L_law 748 rfl) ?_
                                                    obtain ⟨r29, er29, h⟩ := mj_bind_some h
                                                    refine ml_callV (Y' := mY_X8_shuts) (as := [.int (xs (s.1 + 1).toNatClampNeg), .int (xs (s.1 + 2).toNatClampNeg)]) (rest := []) (c := 8) (v := (some (.long r29.1))) (M1 := (mj_fin r29.2)) ho_0 rfl lm_L_115 wc_X8_shuts pl_X8_shuts ok_X8_shuts rfl rfl (Nat.le_of_ble_eq_true rfl) (k_X8_shuts (by omega) er29) (mj_dt dt_L_law 749 rfl) ?_
                                                    refine mj_go_aload_n (k := 2) (x := 95) rfl (mj_dt dt_L_law 750 rfl) ?_
                                                    refine mj_go_aload_n (k := 0) (x := 9000) rfl (mj_dt dt_L_law 751 rfl) ?_
                                                    refine mj_go_iload_n (k := 3) (x := s.1) rfl (mj_dt dt_L_law 752 rfl) ?_
                                                    refine mj_go_iconst (v := 1) rfl (mj_dt dt_L_law 753 rfl) ?_
                                                    refine mj_go_iadd (mj_dt dt_L_law 754 rfl) ?_
                                                    refine mj_go_xld (j := 9000) (by decide) (mj_xb_use c27) (mj_dt dt_L_law 755 rfl) ?_
                                                    refine mj_go_aload_n (k := 0) (x := 9000) rfl (mj_dt dt_L_law 756 rfl) ?_
                                                    refine mj_go_iload_n (k := 3) (x := s.1) rfl (mj_dt dt_L_law 757 rfl) ?_
                                                    refine mj_go_iconst (v := 2) rfl (mj_dt dt_L_law 758 rfl) ?_
                                                    refine mj_go_iadd (mj_dt dt_L_law 759 rfl) ?_
                                                    refine mj_go_xld (j := 9000) (by decide) (mj_xb_use c28) (mj_dt dt_L_law 760 rfl) ?_
                                                    obtain ⟨r30, er30, h⟩ := mj_bind_some h
                                                    refine ml_callV (Y' := mY_X9_shuts) (as := [.int (xs (s.1 + 1).toNatClampNeg), .int (xs (s.1 + 2).toNatClampNeg)]) (rest := [.long r29.1]) (c := 9) (v := (some (.long r30.1))) (M1 := (mj_fin r30.2)) ho_95 rfl lm_L_118 wc_X9_shuts pl_X9_shuts ok_X9_shuts rfl rfl (Nat.le_of_ble_eq_true rfl) (k_X9_shuts (by omega) er30) (mj_dt dt_L_law 761 rfl) ?_
                                                    refine mj_go_lcmp (mj_dt dt_L_law 762 rfl) ?_
                                                    refine mj_go_if_eq (tgt := 1643) rfl (mj_dt dt_L_law 763 rfl) (fun b31 => ?_) (fun b31 => ?_)
                                                    · rw [if_pos b31] at h
                                                      refine mj_go_sub (lv' := [(0, .ref 9000), (1, .ref 0), (2, .ref 95), (3, .int s.1)]) (List.forall_mem_cons.mpr ⟨rfl, (List.forall_mem_cons.mpr ⟨rfl, (List.forall_mem_cons.mpr ⟨rfl, (List.forall_mem_cons.mpr ⟨rfl, (fun _ h9 => absurd h9 List.not_mem_nil)⟩)⟩)⟩)⟩) ?_
                                                      exact k_L_law_1643 q_18 hδ h
                                                    · rw [if_neg b31] at h
                                                      refine mj_go_iconst (v := 0) rfl (mj_dt dt_L_law 764 rfl) ?_
                                                      obtain rfl := Option.some.inj h
                                                      exact mj_go_ret (v := some (.int 0)) (Nat.le_of_ble_eq_true rfl) (mj_retZ (mj_dt dt_L_law 765 rfl) rfl rfl)
                                                  · rw [if_neg b26] at h
                                                    refine ⟨fun b27 => ?_, fun b27 => ?_⟩
                                                    · rw [if_pos b27] at h
                                                      refine ⟨1126, by decide, ?_⟩
                                                      refine mj_go_aload_n (k := 1) (x := 0) rfl (mj_dt dt_L_law 766 rfl) ?_
                                                      obtain ⟨r28, er28, h⟩ := mj_bind_some h
                                                      refine ml_callV (Y' := mY_X8_mean) (as := []) (rest := []) (c := 8) (v := (some (.long r28.1))) (M1 := (mj_fin r28.2)) ho_0 rfl lm_L_119 wc_X8_mean pl_X8_mean ok_X8_mean rfl rfl (Nat.le_of_ble_eq_true rfl) (k_X8_mean (by omega) er28) (mj_dt dt_L_law 767 rfl) ?_
                                                      refine mj_go_aload_n (k := 2) (x := 95) rfl (mj_dt dt_L_law 768 rfl) ?_
                                                      obtain ⟨r29, er29, h⟩ := mj_bind_some h
                                                      refine ml_callV (Y' := mY_X9_mean) (as := []) (rest := [.long r28.1]) (c := 9) (v := (some (.long r29.1))) (M1 := (mj_fin r29.2)) ho_95 rfl lm_L_123 wc_X9_mean pl_X9_mean ok_X9_mean rfl rfl (Nat.le_of_ble_eq_true rfl) (k_X9_mean (by omega) er29) (mj_dt dt_L_law 769 rfl) ?_
                                                      refine mj_go_lcmp (mj_dt dt_L_law 770 rfl) ?_
                                                      refine mj_go_if_eq (tgt := 1643) rfl (mj_dt dt_L_law 771 rfl) (fun b30 => ?_) (fun b30 => ?_)
                                                      · rw [if_pos b30] at h
                                                        refine mj_go_sub (lv' := [(0, .ref 9000), (1, .ref 0), (2, .ref 95), (3, .int s.1)]) (List.forall_mem_cons.mpr ⟨rfl, (List.forall_mem_cons.mpr ⟨rfl, (List.forall_mem_cons.mpr ⟨rfl, (List.forall_mem_cons.mpr ⟨rfl, (fun _ h9 => absurd h9 List.not_mem_nil)⟩)⟩)⟩)⟩) ?_
                                                        exact k_L_law_1643 q_18 hδ h
                                                      · rw [if_neg b30] at h
                                                        refine mj_go_iconst (v := 0) rfl (mj_dt dt_L_law 772 rfl) ?_
                                                        obtain rfl := Option.some.inj h
                                                        exact mj_go_ret (v := some (.int 0)) (Nat.le_of_ble_eq_true rfl) (mj_retZ (mj_dt dt_L_law 773 rfl) rfl rfl)
                                                    · rw [if_neg b27] at h
                                                      refine ⟨fun b28 => ?_, fun b28 => ?_⟩
                                                      · rw [if_pos b28] at h
                                                        refine ⟨1140, by decide, ?_⟩
                                                        refine mj_go_aload_n (k := 1) (x := 0) rfl (mj_dt dt_L_law 774 rfl) ?_
                                                        refine mj_go_aload_n (k := 0) (x := 9000) rfl (mj_dt dt_L_law 775 rfl) ?_
                                                        refine mj_go_iload_n (k := 3) (x := s.1) rfl (mj_dt dt_L_law 776 rfl) ?_
                                                        refine mj_go_iconst (v := 1) rfl (mj_dt dt_L_law 777 rfl) ?_
                                                        refine mj_go_iadd (mj_dt dt_L_law 778 rfl) ?_
                                                        obtain ⟨c29, h⟩ := mj_ck_some h
                                                        refine mj_go_xld (j := 9000) (by decide) (mj_xb_use c29) (mj_dt dt_L_law 779 rfl) ?_
                                                        obtain ⟨r30, er30, h⟩ := mj_bind_some h
                                                        refine ml_callV (Y' := mY_X8_worth) (as := [.int (xs (s.1 + 1).toNatClampNeg)]) (rest := []) (c := 8) (v := (some (.long r30.1))) (M1 := (mj_fin r30.2)) ho_0 rfl lm_L_124 wc_X8_worth pl_X8_worth ok_X8_worth rfl rfl (Nat.le_of_ble_eq_true rfl) (k_X8_worth (by omega) er30) (mj_dt dt_L_law 780 rfl) ?_
                                                        refine mj_go_aload_n (k := 2) (x := 95) rfl (mj_dt dt_L_law 781 rfl) ?_
                                                        refine mj_go_aload_n (k := 0) (x := 9000) rfl (mj_dt dt_L_law 782 rfl) ?_
                                                        refine mj_go_iload_n (k := 3) (x := s.1) rfl (mj_dt dt_L_law 783 rfl) ?_
                                                        refine mj_go_iconst (v := 1) rfl (mj_dt dt_L_law 784 rfl) ?_
                                                        refine mj_go_iadd (mj_dt dt_L_law 785 rfl) ?_
                                                        refine mj_go_xld (j := 9000) (by decide) (mj_xb_use c29) (mj_dt dt_L_law 786 rfl) ?_
                                                        obtain ⟨r31, er31, h⟩ := mj_bind_some h
                                                        refine ml_callV (Y' := mY_X9_worth) (as := [.int (xs (s.1 + 1).toNatClampNeg)]) (rest := [.long r30.1]) (c := 9) (v := (some (.long r31.1))) (M1 := (mj_fin r31.2)) ho_95 rfl lm_L_128 wc_X9_worth pl_X9_worth ok_X9_worth rfl rfl (Nat.le_of_ble_eq_true rfl) (k_X9_worth (by omega) er31) (mj_dt dt_L_law 787 rfl) ?_
                                                        refine mj_go_lcmp (mj_dt dt_L_law 788 rfl) ?_
                                                        refine mj_go_if_eq (tgt := 1643) rfl (mj_dt dt_L_law 789 rfl) (fun b32 => ?_) (fun b32 => ?_)
                                                        · rw [if_pos b32] at h
                                                          refine mj_go_sub (lv' := [(0, .ref 9000), (1, .ref 0), (2, .ref 95), (3, .int s.1)]) (List.forall_mem_cons.mpr ⟨rfl, (List.forall_mem_cons.mpr ⟨rfl, (List.forall_mem_cons.mpr ⟨rfl, (List.forall_mem_cons.mpr ⟨rfl, (fun _ h9 => absurd h9 List.not_mem_nil)⟩)⟩)⟩)⟩) ?_
                                                          exact k_L_law_1643 q_18 hδ h
                                                        · rw [if_neg b32] at h
                                                          refine mj_go_iconst (v := 0) rfl (mj_dt dt_L_law 790 rfl) ?_
                                                          obtain rfl := Option.some.inj h
                                                          exact mj_go_ret (v := some (.int 0)) (Nat.le_of_ble_eq_true rfl) (mj_retZ (mj_dt dt_L_law 791 rfl) rfl rfl)
                                                      · rw [if_neg b28] at h
                                                        refine ⟨fun b29 => ?_, fun b29 => ?_⟩
                                                        · rw [if_pos b29] at h
                                                          refine ⟨1164, by decide, ?_⟩
                                                          refine mj_go_aload_n (k := 1) (x := 0) rfl (mj_dt dt_L_law 792 rfl) ?_
                                                          obtain ⟨r30, er30, h⟩ := mj_bind_some h
                                                          refine ml_callV (Y' := mY_X8_which) (as := []) (rest := []) (c := 8) (v := (some (.int r30.1))) (M1 := (mj_fin r30.2)) ho_0 rfl lm_L_129 wc_X8_which pl_X8_which ok_X8_which rfl rfl (Nat.le_of_ble_eq_true rfl) (k_X8_which (by omega) er30) (mj_dt dt_L_law 793 rfl) ?_
                                                          refine mj_go_aload_n (k := 2) (x := 95) rfl (mj_dt dt_L_law 794 rfl) ?_
                                                          obtain ⟨r31, er31, h⟩ := mj_bind_some h
                                                          refine ml_callV (Y' := mY_X9_which) (as := []) (rest := [.int r30.1]) (c := 9) (v := (some (.int r31.1))) (M1 := (mj_fin r31.2)) ho_95 rfl lm_L_132 wc_X9_which pl_X9_which ok_X9_which rfl rfl (Nat.le_of_ble_eq_true rfl) (k_X9_which (by omega) er31) (mj_dt dt_L_law 795 rfl) ?_
                                                          refine mj_go_icmp_eq (tgt := 1643) rfl (mj_dt dt_L_law 796 rfl) (fun b32 => ?_) (fun b32 => ?_)
                                                          · rw [if_pos b32] at h
                                                            refine mj_go_sub (lv' := [(0, .ref 9000), (1, .ref 0), (2, .ref 95), (3, .int s.1)]) (List.forall_mem_cons.mpr ⟨rfl, (List.forall_mem_cons.mpr ⟨rfl, (List.forall_mem_cons.mpr ⟨rfl, (List.forall_mem_cons.mpr ⟨rfl, (fun _ h9 => absurd h9 List.not_mem_nil)⟩)⟩)⟩)⟩) ?_
                                                            exact k_L_law_1643 q_18 hδ h
                                                          · rw [if_neg b32] at h
                                                            refine mj_go_iconst (v := 0) rfl (mj_dt dt_L_law 797 rfl) ?_
                                                            obtain rfl := Option.some.inj h
                                                            exact mj_go_ret (v := some (.int 0)) (Nat.le_of_ble_eq_true rfl) (mj_retZ (mj_dt dt_L_law 798 rfl) rfl rfl)
                                                        · rw [if_neg b29] at h
                                                          refine ⟨fun b30 => ?_, fun b30 => ?_⟩
                                                          · rw [if_pos b30] at h
                                                            refine ⟨1177, by decide, ?_⟩
                                                            refine mj_go_aload_n (k := 1) (x := 0) rfl (mj_dt dt_L_law 799 rfl) ?_
                                                            refine mj_go_aload_n (k := 0) (x := 9000) rfl (mj_dt dt_L_law 800 rfl) ?_
                                                            refine mj_go_iload_n (k := 3) (x := s.1) rfl (mj_dt dt_L_law 801 rfl) ?_
                                                            refine mj_go_iconst (v := 1) rfl (mj_dt dt_L_law 802 rfl) ?_
                                                            refine mj_go_iadd (mj_dt dt_L_law 803 rfl) ?_
                                                            obtain ⟨c31, h⟩ := mj_ck_some h
                                                            refine mj_go_xld (j := 9000) (by decide) (mj_xb_use c31) (mj_dt dt_L_law 804 rfl) ?_
                                                            refine mj_go_aload_n (k := 0) (x := 9000) rfl (mj_dt dt_L_law 805 rfl) ?_
                                                            refine mj_go_iload_n (k := 3) (x := s.1) rfl (mj_dt dt_L_law 806 rfl) ?_
                                                            refine mj_go_iconst (v := 2) rfl (mj_dt dt_L_law 807 rfl) ?_
                                                            refine mj_go_iadd (mj_dt dt_L_law 808 rfl) ?_
                                                            obtain ⟨c32, h⟩ := mj_ck_some h
                                                            refine mj_go_xld (j := 9000) (by decide) (mj_xb_use c32) (mj_dt dt_L_law 809 rfl) ?_
                                                            obtain ⟨r33, er33, h⟩ := mj_bind_some h
                                                            refine ml_callV (Y' := mY_X8_order) (as := [.int (xs (s.1 + 1).toNatClampNeg), .int (xs (s.1 + 2).toNatClampNeg)]) (rest := []) (c := 8) (v := (some (.int r33.1))) (M1 := (mj_fin r33.2)) ho_0 rfl lm_L_133 wc_X8_order pl_X8_order ok_X8_order rfl rfl (Nat.le_of_ble_eq_true rfl) (k_X8_order (by omega) er33) (mj_dt dt_L_law 810 rfl) ?_
                                                            refine mj_go_aload_n (k := 2) (x := 95) rfl (mj_dt dt_L_law 811 rfl) ?_
                                                            refine mj_go_aload_n (k := 0) (x := 9000) rfl (mj_dt dt_L_law 812 rfl) ?_
                                                            refine mj_go_iload_n (k := 3) (x := s.1) rfl (mj_dt dt_L_law 813 rfl) ?_
                                                            refine mj_go_iconst (v := 1) rfl (mj_dt dt_L_law 814 rfl) ?_
                                                            refine mj_go_iadd (mj_dt dt_L_law 815 rfl) ?_
                                                            refine mj_go_xld (j := 9000) (by decide) (mj_xb_use c31) (mj_dt dt_L_law 816 rfl) ?_
                                                            refine mj_go_aload_n (k := 0) (x := 9000) rfl (mj_dt dt_L_law 817 rfl) ?_
                                                            refine mj_go_iload_n (k := 3) (x := s.1) rfl (mj_dt dt_L_law 818 rfl) ?_
                                                            refine mj_go_iconst (v := 2) rfl (mj_dt dt_L_law 819 rfl) ?_
                                                            refine mj_go_iadd (mj_dt dt_L_law 820 rfl) ?_
                                                            refine mj_go_xld (j := 9000) (by decide) (mj_xb_use c32) (mj_dt dt_L_law 821 rfl) ?_
                                                            obtain ⟨r34, er34, h⟩ := mj_bind_some h
                                                            refine ml_callV (Y' := mY_X9_order) (as := [.int (xs (s.1 + 1).toNatClampNeg), .int (xs (s.1 + 2).toNatClampNeg)]) (rest := [.int r33.1]) (c := 9) (v := (some (.int r34.1))) (M1 := (mj_fin r34.2)) ho_95 rfl lm_L_136 wc_X9_order pl_X9_order ok_X9_order rfl rfl (Nat.le_of_ble_eq_true rfl) (k_X9_order (by omega) er34) (mj_dt dt_L_law 822 rfl) ?_
                                                            refine mj_go_icmp_eq (tgt := 1643) rfl (mj_dt dt_L_law 823 rfl) (fun b35 => ?_) (fun b35 => ?_)
                                                            · rw [if_pos b35] at h
                                                              refine mj_go_sub (lv' := [(0, .ref 9000), (1, .ref 0), (2, .ref 95), (3, .int s.1)]) (List.forall_mem_cons.mpr ⟨rfl, (List.forall_mem_cons.mpr ⟨rfl, (List.forall_mem_cons.mpr ⟨rfl, (List.forall_mem_cons.mpr ⟨rfl, (fun _ h9 => absurd h9 List.not_mem_nil)⟩)⟩)⟩)⟩) ?_
                                                              exact k_L_law_1643 q_18 hδ h
                                                            · rw [if_neg b35] at h
                                                              refine mj_go_iconst (v := 0) rfl (mj_dt dt_L_law 824 rfl) ?_
                                                              obtain rfl := Option.some.inj h
                                                              exact mj_go_ret (v := some (.int 0)) (Nat.le_of_ble_eq_true rfl) (mj_retZ (mj_dt dt_L_law 825 rfl) rfl rfl)
                                                          · rw [if_neg b30] at h
                                                            refine ⟨fun b31 => ?_, fun b31 => ?_⟩
                                                            · rw [if_pos b31] at h
                                                              refine ⟨1210, by decide, ?_⟩
                                                              refine mj_go_aload_n (k := 1) (x := 0) rfl (mj_dt dt_L_law 826 rfl) ?_
                                                              refine mj_go_aload_n (k := 0) (x := 9000) rfl (mj_dt dt_L_law 827 rfl) ?_
                                                              refine mj_go_iload_n (k := 3) (x := s.1) rfl (mj_dt dt_L_law 828 rfl) ?_
                                                              refine mj_go_iconst (v := 1) rfl (mj_dt dt_L_law 829 rfl) ?_
                                                              refine mj_go_iadd (mj_dt dt_L_law 830 rfl) ?_
                                                              obtain ⟨c32, h⟩ := mj_ck_some h
                                                              refine mj_go_xld (j := 9000) (by decide) (mj_xb_use c32) (mj_dt dt_L_law 831 rfl) ?_
                                                              refine mj_go_aload_n (k := 0) (x := 9000) rfl (mj_dt dt_L_law 832 rfl) ?_
                                                              refine mj_go_iload_n (k := 3) (x := s.1) rfl (mj_dt dt_L_law 833 rfl) ?_
                                                              refine mj_go_iconst (v := 2) rfl (mj_dt dt_L_law 834 rfl) ?_
                                                              refine mj_go_iadd (mj_dt dt_L_law 835 rfl) ?_
                                                              obtain ⟨c33, h⟩ := mj_ck_some h
                                                              refine mj_go_xld (j := 9000) (by decide) (mj_xb_use c33) (mj_dt dt_L_law 836 rfl) ?_
                                                              obtain ⟨r34, er34, h⟩ := mj_bind_some h
                                                              refine ml_callV (Y' := mY_X8_plan) (as := [.int (xs (s.1 + 1).toNatClampNeg), .int (xs (s.1 + 2).toNatClampNeg)]) (rest := []) (c := 8) (v := (some (.long r34.1))) (M1 := (mj_fin r34.2)) ho_0 rfl lm_L_137 wc_X8_plan pl_X8_plan ok_X8_plan rfl rfl (Nat.le_of_ble_eq_true rfl) (k_X8_plan (by omega) er34) (mj_dt dt_L_law 837 rfl) ?_
                                                              refine mj_go_aload_n (k := 2) (x := 95) rfl (mj_dt dt_L_law 838 rfl) ?_
                                                              refine mj_go_aload_n (k := 0) (x := 9000) rfl (mj_dt dt_L_law 839 rfl) ?_
                                                              refine mj_go_iload_n (k := 3) (x := s.1) rfl (mj_dt dt_L_law 840 rfl) ?_
                                                              refine mj_go_iconst (v := 1) rfl (mj_dt dt_L_law 841 rfl) ?_
                                                              refine mj_go_iadd (mj_dt dt_L_law 842 rfl) ?_
                                                              refine mj_go_xld (j := 9000) (by decide) (mj_xb_use c32) (mj_dt dt_L_law 843 rfl) ?_
                                                              refine mj_go_aload_n (k := 0) (x := 9000) rfl (mj_dt dt_L_law 844 rfl) ?_
                                                              refine mj_go_iload_n (k := 3) (x := s.1) rfl (mj_dt dt_L_law 845 rfl) ?_
                                                              refine mj_go_iconst (v := 2) rfl (mj_dt dt_L_law 846 rfl) ?_
                                                              refine mj_go_iadd (mj_dt dt_L_law 847 rfl) ?_
                                                              refine mj_go_xld (j := 9000) (by decide) (mj_xb_use c33) (mj_dt dt_L_law 848 rfl) ?_
                                                              obtain ⟨r35, er35, h⟩ := mj_bind_some h
                                                              refine ml_callV (Y' := mY_X9_plan) (as := [.int (xs (s.1 + 1).toNatClampNeg), .int (xs (s.1 + 2).toNatClampNeg)]) (rest := [.long r34.1]) (c := 9) (v := (some (.long r35.1))) (M1 := (mj_fin r35.2)) ho_95 rfl lm_L_140 wc_X9_plan pl_X9_plan ok_X9_plan rfl rfl (Nat.le_of_ble_eq_true rfl) (k_X9_plan (by omega) er35) (mj_dt dt_L_law 849 rfl) ?_
                                                              refine mj_go_lcmp (mj_dt dt_L_law 850 rfl) ?_
                                                              refine mj_go_if_eq (tgt := 1643) rfl (mj_dt dt_L_law 851 rfl) (fun b36 => ?_) (fun b36 => ?_)
                                                              · rw [if_pos b36] at h
                                                                refine mj_go_sub (lv' := [(0, .ref 9000), (1, .ref 0), (2, .ref 95), (3, .int s.1)]) (List.forall_mem_cons.mpr ⟨rfl, (List.forall_mem_cons.mpr ⟨rfl, (List.forall_mem_cons.mpr ⟨rfl, (List.forall_mem_cons.mpr ⟨rfl, (fun _ h9 => absurd h9 List.not_mem_nil)⟩)⟩)⟩)⟩) ?_
                                                                exact k_L_law_1643 q_18 hδ h
                                                              · rw [if_neg b36] at h
                                                                refine mj_go_iconst (v := 0) rfl (mj_dt dt_L_law 852 rfl) ?_
                                                                obtain rfl := Option.some.inj h
                                                                exact mj_go_ret (v := some (.int 0)) (Nat.le_of_ble_eq_true rfl) (mj_retZ (mj_dt dt_L_law 853 rfl) rfl rfl)
                                                            · rw [if_neg b31] at h
                                                              refine ⟨fun b32 => ?_, fun b32 => ?_⟩
                                                              · rw [if_pos b32] at h
                                                                refine ⟨1244, by decide, ?_⟩
                                                                refine mj_go_aload_n (k := 1) (x := 0) rfl (mj_dt dt_L_law 854 rfl) ?_
                                                                refine mj_go_aload_n (k := 0) (x := 9000) rfl (mj_dt dt_L_law 855 rfl) ?_
                                                                refine mj_go_iload_n (k := 3) (x := s.1) rfl (mj_dt dt_L_law 856 rfl) ?_
                                                                refine mj_go_iconst (v := 1) rfl (mj_dt dt_L_law 857 rfl) ?_
                                                                refine mj_go_iadd (mj_dt dt_L_law 858 rfl) ?_
                                                                obtain ⟨c33, h⟩ := mj_ck_some h
                                                                refine mj_go_xld (j := 9000) (by decide) (mj_xb_use c33) (mj_dt dt_L_law 859 rfl) ?_
                                                                refine mj_go_aload_n (k := 0) (x := 9000) rfl (mj_dt dt_L_law 860 rfl) ?_
                                                                refine mj_go_iload_n (k := 3) (x := s.1) rfl (mj_dt dt_L_law 861 rfl) ?_
                                                                refine mj_go_iconst (v := 2) rfl (mj_dt dt_L_law 862 rfl) ?_
                                                                refine mj_go_iadd (mj_dt dt_L_law 863 rfl) ?_
                                                                obtain ⟨c34, h⟩ := mj_ck_some h
                                                                refine mj_go_xld (j := 9000) (by decide) (mj_xb_use c34) (mj_dt dt_L_law 864 rfl) ?_
                                                                obtain ⟨r35, er35, h⟩ := mj_bind_some h
                                                                refine ml_callV (Y' := mY_X8_steps) (as := [.int (xs (s.1 + 1).toNatClampNeg), .int (xs (s.1 + 2).toNatClampNeg)]) (rest := []) (c := 8) (v := (some (.int r35.1))) (M1 := (mj_fin r35.2)) ho_0 rfl lm_L_141 wc_X8_steps pl_X8_steps ok_X8_steps rfl rfl (Nat.le_of_ble_eq_true rfl) (k_X8_steps (by omega) er35) (mj_dt dt_L_law 865 rfl) ?_
                                                                refine mj_go_aload_n (k := 2) (x := 95) rfl (mj_dt dt_L_law 866 rfl) ?_
                                                                refine mj_go_aload_n (k := 0) (x := 9000) rfl (mj_dt dt_L_law 867 rfl) ?_
                                                                refine mj_go_iload_n (k := 3) (x := s.1) rfl (mj_dt dt_L_law 868 rfl) ?_
                                                                refine mj_go_iconst (v := 1) rfl (mj_dt dt_L_law 869 rfl) ?_
                                                                refine mj_go_iadd (mj_dt dt_L_law 870 rfl) ?_
                                                                refine mj_go_xld (j := 9000) (by decide) (mj_xb_use c33) (mj_dt dt_L_law 871 rfl) ?_
                                                                refine mj_go_aload_n (k := 0) (x := 9000) rfl (mj_dt dt_L_law 872 rfl) ?_
                                                                refine mj_go_iload_n (k := 3) (x := s.1) rfl (mj_dt dt_L_law 873 rfl) ?_
                                                                refine mj_go_iconst (v := 2) rfl (mj_dt dt_L_law 874 rfl) ?_
                                                                refine mj_go_iadd (mj_dt dt_L_law 875 rfl) ?_
                                                                refine mj_go_xld (j := 9000) (by decide) (mj_xb_use c34) (mj_dt dt_L_law 876 rfl) ?_
                                                                obtain ⟨r36, er36, h⟩ := mj_bind_some h
                                                                refine ml_callV (Y' := mY_X9_steps) (as := [.int (xs (s.1 + 1).toNatClampNeg), .int (xs (s.1 + 2).toNatClampNeg)]) (rest := [.int r35.1]) (c := 9) (v := (some (.int r36.1))) (M1 := (mj_fin r36.2)) ho_95 rfl lm_L_144 wc_X9_steps pl_X9_steps ok_X9_steps rfl rfl (Nat.le_of_ble_eq_true rfl) (k_X9_steps (by omega) er36) (mj_dt dt_L_law 877 rfl) ?_
                                                                refine mj_go_icmp_eq (tgt := 1643) rfl (mj_dt dt_L_law 878 rfl) (fun b37 => ?_) (fun b37 => ?_)
                                                                · rw [if_pos b37] at h
                                                                  refine mj_go_sub (lv' := [(0, .ref 9000), (1, .ref 0), (2, .ref 95), (3, .int s.1)]) (List.forall_mem_cons.mpr ⟨rfl, (List.forall_mem_cons.mpr ⟨rfl, (List.forall_mem_cons.mpr ⟨rfl, (List.forall_mem_cons.mpr ⟨rfl, (fun _ h9 => absurd h9 List.not_mem_nil)⟩)⟩)⟩)⟩) ?_
                                                                  exact k_L_law_1643 q_18 hδ h
                                                                · rw [if_neg b37] at h
                                                                  refine mj_go_iconst (v := 0) rfl (mj_dt dt_L_law 879 rfl) ?_
                                                                  obtain rfl := Option.some.inj h
                                                                  exact mj_go_ret (v := some (.int 0)) (Nat.le_of_ble_eq_true rfl) (mj_retZ (mj_dt dt_L_law 880 rfl) rfl rfl)
                                                              · rw [if_neg b32] at h
                                                                refine ⟨fun b33 => ?_, fun b33 => ?_⟩
                                                                · rw [if_pos b33] at h
                                                                  refine ⟨1277, by decide, ?_⟩
                                                                  refine mj_go_aload_n (k := 1) (x := 0) rfl (mj_dt dt_L_law 881 rfl) ?_
                                                                  refine mj_go_aload_n (k := 0) (x := 9000) rfl (mj_dt dt_L_law 882 rfl) ?_
                                                                  refine mj_go_iload_n (k := 3) (x := s.1) rfl (mj_dt dt_L_law 883 rfl) ?_
                                                                  refine mj_go_iconst (v := 1) rfl (mj_dt dt_L_law 884 rfl) ?_
                                                                  refine mj_go_iadd (mj_dt dt_L_law 885 rfl) ?_
                                                                  obtain ⟨c34, h⟩ := mj_ck_some h
                                                                  refine mj_go_xld (j := 9000) (by decide) (mj_xb_use c34) (mj_dt dt_L_law 886 rfl) ?_
                                                                  refine mj_go_aload_n (k := 0) (x := 9000) rfl (mj_dt dt_L_law 887 rfl) ?_
                                                                  refine mj_go_iload_n (k := 3) (x := s.1) rfl (mj_dt dt_L_law 888 rfl) ?_
                                                                  refine mj_go_iconst (v := 2) rfl (mj_dt dt_L_law 889 rfl) ?_
                                                                  refine mj_go_iadd (mj_dt dt_L_law 890 rfl) ?_
                                                                  obtain ⟨c35, h⟩ := mj_ck_some h
                                                                  refine mj_go_xld (j := 9000) (by decide) (mj_xb_use c35) (mj_dt dt_L_law 891 rfl) ?_
                                                                  obtain ⟨r36, er36, h⟩ := mj_bind_some h
                                                                  refine ml_callV (Y' := mY_X8_judge) (as := [.int (xs (s.1 + 1).toNatClampNeg), .int (xs (s.1 + 2).toNatClampNeg)]) (rest := []) (c := 8) (v := (some (.long r36.1))) (M1 := (mj_fin r36.2)) ho_0 rfl lm_L_145 wc_X8_judge pl_X8_judge ok_X8_judge rfl rfl (Nat.le_of_ble_eq_true rfl) (k_X8_judge (by omega) er36) (mj_dt dt_L_law 892 rfl) ?_
                                                                  refine mj_go_aload_n (k := 2) (x := 95) rfl (mj_dt dt_L_law 893 rfl) ?_
                                                                  refine mj_go_aload_n (k := 0) (x := 9000) rfl (mj_dt dt_L_law 894 rfl) ?_
                                                                  refine mj_go_iload_n (k := 3) (x := s.1) rfl (mj_dt dt_L_law 895 rfl) ?_
                                                                  refine mj_go_iconst (v := 1) rfl (mj_dt dt_L_law 896 rfl) ?_
                                                                  refine mj_go_iadd (mj_dt dt_L_law 897 rfl) ?_
                                                                  refine mj_go_xld (j := 9000) (by decide) (mj_xb_use c34) (mj_dt dt_L_law 898 rfl) ?_
                                                                  refine mj_go_aload_n (k := 0) (x := 9000) rfl (mj_dt dt_L_law 899 rfl) ?_
                                                                  refine mj_go_iload_n (k := 3) (x := s.1) rfl (mj_dt dt_L_law 900 rfl) ?_
                                                                  refine mj_go_iconst (v := 2) rfl (mj_dt dt_L_law 901 rfl) ?_
                                                                  refine mj_go_iadd (mj_dt dt_L_law 902 rfl) ?_
                                                                  refine mj_go_xld (j := 9000) (by decide) (mj_xb_use c35) (mj_dt dt_L_law 903 rfl) ?_
                                                                  obtain ⟨r37, er37, h⟩ := mj_bind_some h
                                                                  refine ml_callV (Y' := mY_X9_judge) (as := [.int (xs (s.1 + 1).toNatClampNeg), .int (xs (s.1 + 2).toNatClampNeg)]) (rest := [.long r36.1]) (c := 9) (v := (some (.long r37.1))) (M1 := (mj_fin r37.2)) ho_95 rfl lm_L_148 wc_X9_judge pl_X9_judge ok_X9_judge rfl rfl (Nat.le_of_ble_eq_true rfl) (k_X9_judge (by omega) er37) (mj_dt dt_L_law 904 rfl) ?_
                                                                  refine mj_go_lcmp (mj_dt dt_L_law 905 rfl) ?_
                                                                  refine mj_go_if_eq (tgt := 1643) rfl (mj_dt dt_L_law 906 rfl) (fun b38 => ?_) (fun b38 => ?_)
                                                                  · rw [if_pos b38] at h
                                                                    refine mj_go_sub (lv' := [(0, .ref 9000), (1, .ref 0), (2, .ref 95), (3, .int s.1)]) (List.forall_mem_cons.mpr ⟨rfl, (List.forall_mem_cons.mpr ⟨rfl, (List.forall_mem_cons.mpr ⟨rfl, (List.forall_mem_cons.mpr ⟨rfl, (fun _ h9 => absurd h9 List.not_mem_nil)⟩)⟩)⟩)⟩) ?_
                                                                    exact k_L_law_1643 q_18 hδ h
                                                                  · rw [if_neg b38] at h
                                                                    refine mj_go_iconst (v := 0) rfl (mj_dt dt_L_law 907 rfl) ?_
                                                                    obtain rfl := Option.some.inj h
                                                                    exact mj_go_ret (v := some (.int 0)) (Nat.le_of_ble_eq_true rfl) (mj_retZ (mj_dt dt_L_law 908 rfl) rfl rfl)
                                                                · rw [if_neg b33] at h
                                                                  refine ⟨fun b34 => ?_, fun b34 => ?_⟩
                                                                  · rw [if_pos b34] at h
                                                                    refine ⟨1311, by decide, ?_⟩
                                                                    refine mj_go_aload_n (k := 1) (x := 0) rfl (mj_dt dt_L_law 909 rfl) ?_
                                                                    refine mj_go_aload_n (k := 0) (x := 9000) rfl (mj_dt dt_L_law 910 rfl) ?_
                                                                    refine mj_go_iload_n (k := 3) (x := s.1) rfl (mj_dt dt_L_law 911 rfl) ?_
                                                                    refine mj_go_iconst (v := 1) rfl (mj_dt dt_L_law 912 rfl) ?_
                                                                    refine mj_go_iadd (mj_dt dt_L_law 913 rfl) ?_
                                                                    obtain ⟨c35, h⟩ := mj_ck_some h
                                                                    refine mj_go_xld (j := 9000) (by decide) (mj_xb_use c35) (mj_dt dt_L_law 914 rfl) ?_
                                                                    obtain ⟨r36, er36, h⟩ := mj_bind_some h
                                                                    refine ml_callV (Y' := mY_X8_best) (as := [.int (xs (s.1 + 1).toNatClampNeg)]) (rest := []) (c := 8) (v := (some (.long r36.1))) (M1 := (mj_fin r36.2)) ho_0 rfl lm_L_149 wc_X8_best pl_X8_best ok_X8_best rfl rfl (Nat.le_of_ble_eq_true rfl) (k_X8_best (by omega) er36) (mj_dt dt_L_law 915 rfl) ?_
                                                                    refine mj_go_aload_n (k := 2) (x := 95) rfl (mj_dt dt_L_law 916 rfl) ?_
                                                                    refine mj_go_aload_n (k := 0) (x := 9000) rfl (mj_dt dt_L_law 917 rfl) ?_
                                                                    refine mj_go_iload_n (k := 3) (x := s.1) rfl (mj_dt dt_L_law 918 rfl) ?_
                                                                    refine mj_go_iconst (v := 1) rfl (mj_dt dt_L_law 919 rfl) ?_
                                                                    refine mj_go_iadd (mj_dt dt_L_law 920 rfl) ?_
                                                                    refine mj_go_xld (j := 9000) (by decide) (mj_xb_use c35) (mj_dt dt_L_law 921 rfl) ?_
                                                                    obtain ⟨r37, er37, h⟩ := mj_bind_some h
                                                                    refine ml_callV (Y' := mY_X9_best) (as := [.int (xs (s.1 + 1).toNatClampNeg)]) (rest := [.long r36.1]) (c := 9) (v := (some (.long r37.1))) (M1 := (mj_fin r37.2)) ho_95 rfl lm_L_152 wc_X9_best pl_X9_best ok_X9_best rfl rfl (Nat.le_of_ble_eq_true rfl) (k_X9_best (by omega) er37) (mj_dt dt_L_law 922 rfl) ?_
                                                                    refine mj_go_lcmp (mj_dt dt_L_law 923 rfl) ?_
                                                                    refine mj_go_if_eq (tgt := 1643) rfl (mj_dt dt_L_law 924 rfl) (fun b38 => ?_) (fun b38 => ?_)
                                                                    · rw [if_pos b38] at h
                                                                      refine mj_go_sub (lv' := [(0, .ref 9000), (1, .ref 0), (2, .ref 95), (3, .int s.1)]) (List.forall_mem_cons.mpr ⟨rfl, (List.forall_mem_cons.mpr ⟨rfl, (List.forall_mem_cons.mpr ⟨rfl, (List.forall_mem_cons.mpr ⟨rfl, (fun _ h9 => absurd h9 List.not_mem_nil)⟩)⟩)⟩)⟩) ?_
                                                                      exact k_L_law_1643 q_18 hδ h
                                                                    · rw [if_neg b38] at h
                                                                      refine mj_go_iconst (v := 0) rfl (mj_dt dt_L_law 925 rfl) ?_
                                                                      obtain rfl := Option.some.inj h
                                                                      exact mj_go_ret (v := some (.int 0)) (Nat.le_of_ble_eq_true rfl) (mj_retZ (mj_dt dt_L_law 926 rfl) rfl rfl)
                                                                  · rw [if_neg b34] at h
                                                                    refine ⟨fun b35 => ?_, fun b35 => ?_⟩
                                                                    · rw [if_pos b35] at h
                                                                      refine ⟨1335, by decide, ?_⟩
                                                                      refine mj_go_aload_n (k := 1) (x := 0) rfl (mj_dt dt_L_law 927 rfl) ?_
                                                                      refine mj_go_aload_n (k := 0) (x := 9000) rfl (mj_dt dt_L_law 928 rfl) ?_
                                                                      refine mj_go_iload_n (k := 3) (x := s.1) rfl (mj_dt dt_L_law 929 rfl) ?_
                                                                      refine mj_go_iconst (v := 1) rfl (mj_dt dt_L_law 930 rfl) ?_
                                                                      refine mj_go_iadd (mj_dt dt_L_law 931 rfl) ?_
                                                                      obtain ⟨c36, h⟩ := mj_ck_some h
                                                                      refine mj_go_xld (j := 9000) (by decide) (mj_xb_use c36) (mj_dt dt_L_law 932 rfl) ?_
                                                                      refine mj_go_aload_n (k := 0) (x := 9000) rfl (mj_dt dt_L_law 933 rfl) ?_
                                                                      refine mj_go_iload_n (k := 3) (x := s.1) rfl (mj_dt dt_L_law 934 rfl) ?_
                                                                      refine mj_go_iconst (v := 2) rfl (mj_dt dt_L_law 935 rfl) ?_
                                                                      refine mj_go_iadd (mj_dt dt_L_law 936 rfl) ?_
                                                                      obtain ⟨c37, h⟩ := mj_ck_some h
                                                                      refine mj_go_xld (j := 9000) (by decide) (mj_xb_use c37) (mj_dt dt_L_law 937 rfl) ?_
                                                                      obtain ⟨r38, er38, h⟩ := mj_bind_some h
                                                                      refine ml_callV (Y' := mY_X8_first) (as := [.int (xs (s.1 + 1).toNatClampNeg), .int (xs (s.1 + 2).toNatClampNeg)]) (rest := []) (c := 8) (v := (some (.int r38.1))) (M1 := (mj_fin r38.2)) ho_0 rfl lm_L_153 wc_X8_first pl_X8_first ok_X8_first rfl rfl (Nat.le_of_ble_eq_true rfl) (k_X8_first (by omega) er38) (mj_dt dt_L_law 938 rfl) ?_
                                                                      refine mj_go_aload_n (k := 2) (x := 95) rfl (mj_dt dt_L_law 939 rfl) ?_
                                                                      refine mj_go_aload_n (k := 0) (x := 9000) rfl (mj_dt dt_L_law 940 rfl) ?_
                                                                      refine mj_go_iload_n (k := 3) (x := s.1) rfl (mj_dt dt_L_law 941 rfl) ?_
                                                                      refine mj_go_iconst (v := 1) rfl (mj_dt dt_L_law 942 rfl) ?_
                                                                      refine mj_go_iadd (mj_dt dt_L_law 943 rfl) ?_
                                                                      refine mj_go_xld (j := 9000) (by decide) (mj_xb_use c36) (mj_dt dt_L_law 944 rfl) ?_
                                                                      refine mj_go_aload_n (k := 0) (x := 9000) rfl (mj_dt dt_L_law 945 rfl) ?_
                                                                      refine mj_go_iload_n (k := 3) (x := s.1) rfl (mj_dt dt_L_law 946 rfl) ?_
                                                                      refine mj_go_iconst (v := 2) rfl (mj_dt dt_L_law 947 rfl) ?_
                                                                      refine mj_go_iadd (mj_dt dt_L_law 948 rfl) ?_
                                                                      refine mj_go_xld (j := 9000) (by decide) (mj_xb_use c37) (mj_dt dt_L_law 949 rfl) ?_
                                                                      obtain ⟨r39, er39, h⟩ := mj_bind_some h
                                                                      refine ml_callV (Y' := mY_X9_first) (as := [.int (xs (s.1 + 1).toNatClampNeg), .int (xs (s.1 + 2).toNatClampNeg)]) (rest := [.int r38.1]) (c := 9) (v := (some (.int r39.1))) (M1 := (mj_fin r39.2)) ho_95 rfl lm_L_156 wc_X9_first pl_X9_first ok_X9_first rfl rfl (Nat.le_of_ble_eq_true rfl) (k_X9_first (by omega) er39) (mj_dt dt_L_law 950 rfl) ?_
                                                                      refine mj_go_icmp_eq (tgt := 1643) rfl (mj_dt dt_L_law 951 rfl) (fun b40 => ?_) (fun b40 => ?_)
                                                                      · rw [if_pos b40] at h
                                                                        refine mj_go_sub (lv' := [(0, .ref 9000), (1, .ref 0), (2, .ref 95), (3, .int s.1)]) (List.forall_mem_cons.mpr ⟨rfl, (List.forall_mem_cons.mpr ⟨rfl, (List.forall_mem_cons.mpr ⟨rfl, (List.forall_mem_cons.mpr ⟨rfl, (fun _ h9 => absurd h9 List.not_mem_nil)⟩)⟩)⟩)⟩) ?_
                                                                        exact k_L_law_1643 q_18 hδ h
                                                                      · rw [if_neg b40] at h
                                                                        refine mj_go_iconst (v := 0) rfl (mj_dt dt_L_law 952 rfl) ?_
                                                                        obtain rfl := Option.some.inj h
                                                                        exact mj_go_ret (v := some (.int 0)) (Nat.le_of_ble_eq_true rfl) (mj_retZ (mj_dt dt_L_law 953 rfl) rfl rfl)
                                                                    · rw [if_neg b35] at h
                                                                      refine ⟨fun b36 => ?_, fun b36 => ?_⟩
                                                                      · rw [if_pos b36] at h
                                                                        refine ⟨1368, by decide, ?_⟩
                                                                        refine mj_go_aload_n (k := 1) (x := 0) rfl (mj_dt dt_L_law 954 rfl) ?_
                                                                        refine mj_go_aload_n (k := 0) (x := 9000) rfl (mj_dt dt_L_law 955 rfl) ?_
                                                                        refine mj_go_iload_n (k := 3) (x := s.1) rfl (mj_dt dt_L_law 956 rfl) ?_
                                                                        refine mj_go_iconst (v := 1) rfl (mj_dt dt_L_law 957 rfl) ?_
                                                                        refine mj_go_iadd (mj_dt dt_L_law 958 rfl) ?_
                                                                        obtain ⟨c37, h⟩ := mj_ck_some h
                                                                        refine mj_go_xld (j := 9000) (by decide) (mj_xb_use c37) (mj_dt dt_L_law 959 rfl) ?_
                                                                        refine mj_go_aload_n (k := 0) (x := 9000) rfl (mj_dt dt_L_law 960 rfl) ?_
                                                                        refine mj_go_iload_n (k := 3) (x := s.1) rfl (mj_dt dt_L_law 961 rfl) ?_
                                                                        refine mj_go_iconst (v := 2) rfl (mj_dt dt_L_law 962 rfl) ?_
                                                                        refine mj_go_iadd (mj_dt dt_L_law 963 rfl) ?_
                                                                        obtain ⟨c38, h⟩ := mj_ck_some h
                                                                        refine mj_go_xld (j := 9000) (by decide) (mj_xb_use c38) (mj_dt dt_L_law 964 rfl) ?_
                                                                        obtain ⟨r39, er39, h⟩ := mj_bind_some h
                                                                        refine ml_callV (Y' := mY_X8_gap) (as := [.int (xs (s.1 + 1).toNatClampNeg), .int (xs (s.1 + 2).toNatClampNeg)]) (rest := []) (c := 8) (v := (some (.long r39.1))) (M1 := (mj_fin r39.2)) ho_0 rfl lm_L_157 wc_X8_gap pl_X8_gap ok_X8_gap rfl rfl (Nat.le_of_ble_eq_true rfl) (k_X8_gap (by omega) er39) (mj_dt dt_L_law 965 rfl) ?_
                                                                        refine mj_go_aload_n (k := 2) (x := 95) rfl (mj_dt dt_L_law 966 rfl) ?_
                                                                        refine mj_go_aload_n (k := 0) (x := 9000) rfl (mj_dt dt_L_law 967 rfl) ?_
                                                                        refine mj_go_iload_n (k := 3) (x := s.1) rfl (mj_dt dt_L_law 968 rfl) ?_
                                                                        refine mj_go_iconst (v := 1) rfl (mj_dt dt_L_law 969 rfl) ?_
                                                                        refine mj_go_iadd (mj_dt dt_L_law 970 rfl) ?_
                                                                        refine mj_go_xld (j := 9000) (by decide) (mj_xb_use c37) (mj_dt dt_L_law 971 rfl) ?_
                                                                        refine mj_go_aload_n (k := 0) (x := 9000) rfl (mj_dt dt_L_law 972 rfl) ?_
                                                                        refine mj_go_iload_n (k := 3) (x := s.1) rfl (mj_dt dt_L_law 973 rfl) ?_
                                                                        refine mj_go_iconst (v := 2) rfl (mj_dt dt_L_law 974 rfl) ?_
                                                                        refine mj_go_iadd (mj_dt dt_L_law 975 rfl) ?_
                                                                        refine mj_go_xld (j := 9000) (by decide) (mj_xb_use c38) (mj_dt dt_L_law 976 rfl) ?_
                                                                        obtain ⟨r40, er40, h⟩ := mj_bind_some h
                                                                        refine ml_callV (Y' := mY_X9_gap) (as := [.int (xs (s.1 + 1).toNatClampNeg), .int (xs (s.1 + 2).toNatClampNeg)]) (rest := [.long r39.1]) (c := 9) (v := (some (.long r40.1))) (M1 := (mj_fin r40.2)) ho_95 rfl lm_L_160 wc_X9_gap pl_X9_gap ok_X9_gap rfl rfl (Nat.le_of_ble_eq_true rfl) (k_X9_gap (by omega) er40) (mj_dt dt_L_law 977 rfl) ?_
                                                                        refine mj_go_lcmp (mj_dt dt_L_law 978 rfl) ?_
                                                                        refine mj_go_if_eq (tgt := 1643) rfl (mj_dt dt_L_law 979 rfl) (fun b41 => ?_) (fun b41 => ?_)
                                                                        · rw [if_pos b41] at h
                                                                          refine mj_go_sub (lv' := [(0, .ref 9000), (1, .ref 0), (2, .ref 95), (3, .int s.1)]) (List.forall_mem_cons.mpr ⟨rfl, (List.forall_mem_cons.mpr ⟨rfl, (List.forall_mem_cons.mpr ⟨rfl, (List.forall_mem_cons.mpr ⟨rfl, (fun _ h9 => absurd h9 List.not_mem_nil)⟩)⟩)⟩)⟩) ?_
                                                                          exact k_L_law_1643 q_18 hδ h
                                                                        · rw [if_neg b41] at h
                                                                          refine mj_go_iconst (v := 0) rfl (mj_dt dt_L_law 980 rfl) ?_
                                                                          obtain rfl := Option.some.inj h
                                                                          exact mj_go_ret (v := some (.int 0)) (Nat.le_of_ble_eq_true rfl) (mj_retZ (mj_dt dt_L_law 981 rfl) rfl rfl)
                                                                      · rw [if_neg b36] at h
                                                                        refine ⟨fun b37 => ?_, fun b37 => ?_⟩
                                                                        · rw [if_pos b37] at h
                                                                          refine ⟨1402, by decide, ?_⟩
                                                                          refine mj_go_aload_n (k := 1) (x := 0) rfl (mj_dt dt_L_law 982 rfl) ?_
                                                                          refine mj_go_aload_n (k := 0) (x := 9000) rfl (mj_dt dt_L_law 983 rfl) ?_
                                                                          refine mj_go_iload_n (k := 3) (x := s.1) rfl (mj_dt dt_L_law 984 rfl) ?_
                                                                          refine mj_go_iconst (v := 1) rfl (mj_dt dt_L_law 985 rfl) ?_
                                                                          refine mj_go_iadd (mj_dt dt_L_law 986 rfl) ?_
                                                                          obtain ⟨c38, h⟩ := mj_ck_some h
                                                                          refine mj_go_xld (j := 9000) (by decide) (mj_xb_use c38) (mj_dt dt_L_law 987 rfl) ?_
                                                                          obtain ⟨r39, er39, h⟩ := mj_bind_some h
                                                                          refine ml_callV (Y' := mY_X8_bound) (as := [.int (xs (s.1 + 1).toNatClampNeg)]) (rest := []) (c := 8) (v := (some (.long r39.1))) (M1 := (mj_fin r39.2)) ho_0 rfl lm_L_161 wc_X8_bound pl_X8_bound ok_X8_bound rfl rfl (Nat.le_of_ble_eq_true rfl) (k_X8_bound (by omega) er39) (mj_dt dt_L_law 988 rfl) ?_
                                                                          refine mj_go_aload_n (k := 2) (x := 95) rfl (mj_dt dt_L_law 989 rfl) ?_
                                                                          refine mj_go_aload_n (k := 0) (x := 9000) rfl (mj_dt dt_L_law 990 rfl) ?_
                                                                          refine mj_go_iload_n (k := 3) (x := s.1) rfl (mj_dt dt_L_law 991 rfl) ?_
                                                                          refine mj_go_iconst (v := 1) rfl (mj_dt dt_L_law 992 rfl) ?_
                                                                          refine mj_go_iadd (mj_dt dt_L_law 993 rfl) ?_
                                                                          refine mj_go_xld (j := 9000) (by decide) (mj_xb_use c38) (mj_dt dt_L_law 994 rfl) ?_
                                                                          obtain ⟨r40, er40, h⟩ := mj_bind_some h
                                                                          refine ml_callV (Y' := mY_X9_bound) (as := [.int (xs (s.1 + 1).toNatClampNeg)]) (rest := [.long r39.1]) (c := 9) (v := (some (.long r40.1))) (M1 := (mj_fin r40.2)) ho_95 rfl lm_L_164 wc_X9_bound pl_X9_bound ok_X9_bound rfl rfl (Nat.le_of_ble_eq_true rfl) (k_X9_bound (by omega) er40) (mj_dt dt_L_law 995 rfl) ?_
                                                                          refine mj_go_lcmp (mj_dt dt_L_law 996 rfl) ?_
                                                                          refine mj_go_if_eq (tgt := 1643) rfl (mj_dt dt_L_law 997 rfl) (fun b41 => ?_) (fun b41 => ?_)
                                                                          · rw [if_pos b41] at h
                                                                            refine mj_go_sub (lv' := [(0, .ref 9000), (1, .ref 0), (2, .ref 95), (3, .int s.1)]) (List.forall_mem_cons.mpr ⟨rfl, (List.forall_mem_cons.mpr ⟨rfl, (List.forall_mem_cons.mpr ⟨rfl, (List.forall_mem_cons.mpr ⟨rfl, (fun _ h9 => absurd h9 List.not_mem_nil)⟩)⟩)⟩)⟩) ?_
                                                                            exact k_L_law_1643 q_18 hδ h
                                                                          · rw [if_neg b41] at h
                                                                            refine mj_go_iconst (v := 0) rfl (mj_dt dt_L_law 998 rfl) ?_
                                                                            obtain rfl := Option.some.inj h
                                                                            exact mj_go_ret (v := some (.int 0)) (Nat.le_of_ble_eq_true rfl) (mj_retZ (mj_dt dt_L_law 999 rfl) rfl rfl)
                                                                        · rw [if_neg b37] at h
                                                                          refine ⟨fun b38 => ?_, fun b38 => ?_⟩
                                                                          · rw [if_pos b38] at h
                                                                            refine ⟨1426, by decide, ?_⟩
                                                                            refine mj_go_aload_n (k := 1) (x := 0) rfl (mj_dt dt_L_law 1000 rfl) ?_
                                                                            refine mj_go_aload_n (k := 0) (x := 9000) rfl (mj_dt dt_L_law 1001 rfl) ?_
                                                                            refine mj_go_iload_n (k := 3) (x := s.1) rfl (mj_dt dt_L_law 1002 rfl) ?_
                                                                            refine mj_go_iconst (v := 1) rfl (mj_dt dt_L_law 1003 rfl) ?_
                                                                            refine mj_go_iadd (mj_dt dt_L_law 1004 rfl) ?_
                                                                            obtain ⟨c39, h⟩ := mj_ck_some h
                                                                            refine mj_go_xld (j := 9000) (by decide) (mj_xb_use c39) (mj_dt dt_L_law 1005 rfl) ?_
                                                                            obtain ⟨r40, er40, h⟩ := mj_bind_some h
                                                                            refine ml_callV (Y' := mY_X8_head) (as := [.int (xs (s.1 + 1).toNatClampNeg)]) (rest := []) (c := 8) (v := (some (.int r40.1))) (M1 := (mj_fin r40.2)) ho_0 rfl lm_L_165 wc_X8_head pl_X8_head ok_X8_head rfl rfl (Nat.le_of_ble_eq_true rfl) (k_X8_head (by omega) er40) (mj_dt dt_L_law 1006 rfl) ?_
                                                                            refine mj_go_aload_n (k := 2) (x := 95) rfl (mj_dt dt_L_law 1007 rfl) ?_
                                                                            refine mj_go_aload_n (k := 0) (x := 9000) rfl (mj_dt dt_L_law 1008 rfl) ?_
                                                                            refine mj_go_iload_n (k := 3) (x := s.1) rfl (mj_dt dt_L_law 1009 rfl) ?_
                                                                            refine mj_go_iconst (v := 1) rfl (mj_dt dt_L_law 1010 rfl) ?_
                                                                            refine mj_go_iadd (mj_dt dt_L_law 1011 rfl) ?_
                                                                            refine mj_go_xld (j := 9000) (by decide) (mj_xb_use c39) (mj_dt dt_L_law 1012 rfl) ?_
                                                                            obtain ⟨r41, er41, h⟩ := mj_bind_some h
                                                                            refine ml_callV (Y' := mY_X9_head) (as := [.int (xs (s.1 + 1).toNatClampNeg)]) (rest := [.int r40.1]) (c := 9) (v := (some (.int r41.1))) (M1 := (mj_fin r41.2)) ho_95 rfl lm_L_168 wc_X9_head pl_X9_head ok_X9_head rfl rfl (Nat.le_of_ble_eq_true rfl) (k_X9_head (by omega) er41) (mj_dt dt_L_law 1013 rfl) ?_
                                                                            refine mj_go_icmp_eq (tgt := 1643) rfl (mj_dt dt_L_law 1014 rfl) (fun b42 => ?_) (fun b42 => ?_)
                                                                            · rw [if_pos b42] at h
                                                                              refine mj_go_sub (lv' := [(0, .ref 9000), (1, .ref 0), (2, .ref 95), (3, .int s.1)]) (List.forall_mem_cons.mpr ⟨rfl, (List.forall_mem_cons.mpr ⟨rfl, (List.forall_mem_cons.mpr ⟨rfl, (List.forall_mem_cons.mpr ⟨rfl, (fun _ h9 => absurd h9 List.not_mem_nil)⟩)⟩)⟩)⟩) ?_
                                                                              exact k_L_law_1643 q_18 hδ h
                                                                            · rw [if_neg b42] at h
                                                                              refine mj_go_iconst (v := 0) rfl (mj_dt dt_L_law 1015 rfl) ?_
                                                                              obtain rfl := Option.some.inj h
                                                                              exact mj_go_ret (v := some (.int 0)) (Nat.le_of_ble_eq_true rfl) (mj_retZ (mj_dt dt_L_law 1016 rfl) rfl rfl)
                                                                          · rw [if_neg b38] at h
                                                                            refine ⟨fun b39 => ?_, fun b39 => ?_⟩
                                                                            · rw [if_pos b39] at h
                                                                              refine ⟨1449, by decide, ?_⟩
                                                                              refine mj_go_aload_n (k := 1) (x := 0) rfl (mj_dt dt_L_law 1017 rfl) ?_
                                                                              refine mj_go_aload_n (k := 0) (x := 9000) rfl (mj_dt dt_L_law 1018 rfl) ?_
                                                                              refine mj_go_iload_n (k := 3) (x := s.1) rfl (mj_dt dt_L_law 1019 rfl) ?_
                                                                              refine mj_go_iconst (v := 1) rfl (mj_dt dt_L_law 1020 rfl) ?_
                                                                              refine mj_go_iadd (mj_dt dt_L_law 1021 rfl) ?_
                                                                              obtain ⟨c40, h⟩ := mj_ck_some h
                                                                              refine mj_go_xld (j := 9000) (by decide) (mj_xb_use c40) (mj_dt dt_L_law 1022 rfl) ?_
                                                                              obtain ⟨r41, er41, h⟩ := mj_bind_some h
                                                                              refine ml_callV (Y' := mY_X8_narrow) (as := [.int (xs (s.1 + 1).toNatClampNeg)]) (rest := []) (c := 8) (v := (some (.int r41.1))) (M1 := (mj_fin r41.2)) ho_0 rfl lm_L_169 wc_X8_narrow pl_X8_narrow ok_X8_narrow rfl rfl (Nat.le_of_ble_eq_true rfl) (k_X8_narrow (by omega) er41) (mj_dt dt_L_law 1023 rfl) ?_
                                                                              refine mj_go_aload_n (k := 2) (x := 95) rfl (mj_dt dt_L_law 1024 rfl) ?_
                                                                              refine mj_go_aload_n (k := 0) (x := 9000) rfl (mj_dt dt_L_law 1025 rfl) ?_
                                                                              refine mj_go_iload_n (k := 3) (x := s.1) rfl (mj_dt dt_L_law 1026 rfl) ?_
                                                                              refine mj_go_iconst (v := 1) rfl (mj_dt dt_L_law 1027 rfl) ?_
                                                                              refine mj_go_iadd (mj_dt dt_L_law 1028 rfl) ?_
                                                                              refine mj_go_xld (j := 9000) (by decide) (mj_xb_use c40) (mj_dt dt_L_law 1029 rfl) ?_
                                                                              obtain ⟨r42, er42, h⟩ := mj_bind_some h
                                                                              refine ml_callV (Y' := mY_X9_narrow) (as := [.int (xs (s.1 + 1).toNatClampNeg)]) (rest := [.int r41.1]) (c := 9) (v := (some (.int r42.1))) (M1 := (mj_fin r42.2)) ho_95 rfl lm_L_172 wc_X9_narrow pl_X9_narrow ok_X9_narrow rfl rfl (Nat.le_of_ble_eq_true rfl) (k_X9_narrow (by omega) er42) (mj_dt dt_L_law 1030 rfl) ?_
                                                                              refine mj_go_icmp_eq (tgt := 1643) rfl (mj_dt dt_L_law 1031 rfl) (fun b43 => ?_) (fun b43 => ?_)
                                                                              · rw [if_pos b43] at h
                                                                                refine mj_go_sub (lv' := [(0, .ref 9000), (1, .ref 0), (2, .ref 95), (3, .int s.1)]) (List.forall_mem_cons.mpr ⟨rfl, (List.forall_mem_cons.mpr ⟨rfl, (List.forall_mem_cons.mpr ⟨rfl, (List.forall_mem_cons.mpr ⟨rfl, (fun _ h9 => absurd h9 List.not_mem_nil)⟩)⟩)⟩)⟩) ?_
                                                                                exact k_L_law_1643 q_18 hδ h
                                                                              · rw [if_neg b43] at h
                                                                                refine mj_go_iconst (v := 0) rfl (mj_dt dt_L_law 1032 rfl) ?_
                                                                                obtain rfl := Option.some.inj h
                                                                                exact mj_go_ret (v := some (.int 0)) (Nat.le_of_ble_eq_true rfl) (mj_retZ (mj_dt dt_L_law 1033 rfl) rfl rfl)
                                                                            · rw [if_neg b39] at h
                                                                              refine ⟨fun b40 => ?_, fun b40 => ?_⟩
                                                                              · rw [if_pos b40] at h
                                                                                refine ⟨1472, by decide, ?_⟩
                                                                                refine mj_go_aload_n (k := 1) (x := 0) rfl (mj_dt dt_L_law 1034 rfl) ?_
                                                                                refine mj_go_aload_n (k := 0) (x := 9000) rfl (mj_dt dt_L_law 1035 rfl) ?_
                                                                                refine mj_go_iload_n (k := 3) (x := s.1) rfl (mj_dt dt_L_law 1036 rfl) ?_
                                                                                refine mj_go_iconst (v := 1) rfl (mj_dt dt_L_law 1037 rfl) ?_
                                                                                refine mj_go_iadd (mj_dt dt_L_law 1038 rfl) ?_
                                                                                obtain ⟨c41, h⟩ := mj_ck_some h
                                                                                refine mj_go_xld (j := 9000) (by decide) (mj_xb_use c41) (mj_dt dt_L_law 1039 rfl) ?_
                                                                                refine mj_go_aload_n (k := 0) (x := 9000) rfl (mj_dt dt_L_law 1040 rfl) ?_
                                                                                refine mj_go_iload_n (k := 3) (x := s.1) rfl (mj_dt dt_L_law 1041 rfl) ?_
                                                                                refine mj_go_iconst (v := 2) rfl (mj_dt dt_L_law 1042 rfl) ?_
                                                                                refine mj_go_iadd (mj_dt dt_L_law 1043 rfl) ?_
                                                                                obtain ⟨c42, h⟩ := mj_ck_some h
                                                                                refine mj_go_xld (j := 9000) (by decide) (mj_xb_use c42) (mj_dt dt_L_law 1044 rfl) ?_
                                                                                obtain ⟨r43, er43, h⟩ := mj_bind_some h
                                                                                refine ml_callV (Y' := mY_X8_years) (as := [.int (xs (s.1 + 1).toNatClampNeg), .int (xs (s.1 + 2).toNatClampNeg)]) (rest := []) (c := 8) (v := (some (.int r43.1))) (M1 := (mj_fin r43.2)) ho_0 rfl lm_L_173 wc_X8_years pl_X8_years ok_X8_years rfl rfl (Nat.le_of_ble_eq_true rfl) (k_X8_years (by omega) er43) (mj_dt dt_L_law 1045 rfl) ?_
                                                                                refine mj_go_aload_n (k := 2) (x := 95) rfl (mj_dt dt_L_law 1046 rfl) ?_
                                                                                refine mj_go_aload_n (k := 0) (x := 9000) rfl (mj_dt dt_L_law 1047 rfl) ?_
                                                                                refine mj_go_iload_n (k := 3) (x := s.1) rfl (mj_dt dt_L_law 1048 rfl) ?_
                                                                                refine mj_go_iconst (v := 1) rfl (mj_dt dt_L_law 1049 rfl) ?_
                                                                                refine mj_go_iadd (mj_dt dt_L_law 1050 rfl) ?_
                                                                                refine mj_go_xld (j := 9000) (by decide) (mj_xb_use c41) (mj_dt dt_L_law 1051 rfl) ?_
                                                                                refine mj_go_aload_n (k := 0) (x := 9000) rfl (mj_dt dt_L_law 1052 rfl) ?_
                                                                                refine mj_go_iload_n (k := 3) (x := s.1) rfl (mj_dt dt_L_law 1053 rfl) ?_
                                                                                refine mj_go_iconst (v := 2) rfl (mj_dt dt_L_law 1054 rfl) ?_
                                                                                refine mj_go_iadd (mj_dt dt_L_law 1055 rfl) ?_
                                                                                refine mj_go_xld (j := 9000) (by decide) (mj_xb_use c42) (mj_dt dt_L_law 1056 rfl) ?_
                                                                                obtain ⟨r44, er44, h⟩ := mj_bind_some h
                                                                                refine ml_callV (Y' := mY_X9_years) (as := [.int (xs (s.1 + 1).toNatClampNeg), .int (xs (s.1 + 2).toNatClampNeg)]) (rest := [.int r43.1]) (c := 9) (v := (some (.int r44.1))) (M1 := (mj_fin r44.2)) ho_95 rfl lm_L_176 wc_X9_years pl_X9_years ok_X9_years rfl rfl (Nat.le_of_ble_eq_true rfl) (k_X9_years (by omega) er44) (mj_dt dt_L_law 1057 rfl) ?_
                                                                                refine mj_go_icmp_eq (tgt := 1643) rfl (mj_dt dt_L_law 1058 rfl) (fun b45 => ?_) (fun b45 => ?_)
                                                                                · rw [if_pos b45] at h
                                                                                  refine mj_go_sub (lv' := [(0, .ref 9000), (1, .ref 0), (2, .ref 95), (3, .int s.1)]) (List.forall_mem_cons.mpr ⟨rfl, (List.forall_mem_cons.mpr ⟨rfl, (List.forall_mem_cons.mpr ⟨rfl, (List.forall_mem_cons.mpr ⟨rfl, (fun _ h9 => absurd h9 List.not_mem_nil)⟩)⟩)⟩)⟩) ?_
                                                                                  exact k_L_law_1643 q_18 hδ h
                                                                                · rw [if_neg b45] at h
                                                                                  refine mj_go_iconst (v := 0) rfl (mj_dt dt_L_law 1059 rfl) ?_
                                                                                  obtain rfl := Option.some.inj h
                                                                                  exact mj_go_ret (v := some (.int 0)) (Nat.le_of_ble_eq_true rfl) (mj_retZ (mj_dt dt_L_law 1060 rfl) rfl rfl)
                                                                              · rw [if_neg b40] at h
                                                                                refine ⟨fun b41 => ?_, fun b41 => ?_⟩
                                                                                · rw [if_pos b41] at h
                                                                                  refine ⟨1505, by decide, ?_⟩
                                                                                  refine mj_go_aload_n (k := 1) (x := 0) rfl (mj_dt dt_L_law 1061 rfl) ?_
                                                                                  refine mj_go_aload_n (k := 0) (x := 9000) rfl (mj_dt dt_L_law 1062 rfl) ?_
                                                                                  refine mj_go_iload_n (k := 3) (x := s.1) rfl (mj_dt dt_L_law 1063 rfl) ?_
                                                                                  refine mj_go_iconst (v := 1) rfl (mj_dt dt_L_law 1064 rfl) ?_
                                                                                  refine mj_go_iadd (mj_dt dt_L_law 1065 rfl) ?_
                                                                                  obtain ⟨c42, h⟩ := mj_ck_some h
                                                                                  refine mj_go_xld (j := 9000) (by decide) (mj_xb_use c42) (mj_dt dt_L_law 1066 rfl) ?_
                                                                                  obtain ⟨r43, er43, h⟩ := mj_bind_some h
                                                                                  refine ml_callV (Y' := mY_X8_seed) (as := [.int (xs (s.1 + 1).toNatClampNeg)]) (rest := []) (c := 8) (v := (some (.int r43.1))) (M1 := (mj_fin r43.2)) ho_0 rfl lm_L_177 wc_X8_seed pl_X8_seed ok_X8_seed rfl rfl (Nat.le_of_ble_eq_true rfl) (k_X8_seed (by omega) er43) (mj_dt dt_L_law 1067 rfl) ?_
                                                                                  refine mj_go_aload_n (k := 2) (x := 95) rfl (mj_dt dt_L_law 1068 rfl) ?_
                                                                                  refine mj_go_aload_n (k := 0) (x := 9000) rfl (mj_dt dt_L_law 1069 rfl) ?_
                                                                                  refine mj_go_iload_n (k := 3) (x := s.1) rfl (mj_dt dt_L_law 1070 rfl) ?_
                                                                                  refine mj_go_iconst (v := 1) rfl (mj_dt dt_L_law 1071 rfl) ?_
                                                                                  refine mj_go_iadd (mj_dt dt_L_law 1072 rfl) ?_
                                                                                  refine mj_go_xld (j := 9000) (by decide) (mj_xb_use c42) (mj_dt dt_L_law 1073 rfl) ?_
                                                                                  obtain ⟨r44, er44, h⟩ := mj_bind_some h
                                                                                  refine ml_callV (Y' := mY_X9_seed) (as := [.int (xs (s.1 + 1).toNatClampNeg)]) (rest := [.int r43.1]) (c := 9) (v := (some (.int r44.1))) (M1 := (mj_fin r44.2)) ho_95 rfl lm_L_180 wc_X9_seed pl_X9_seed ok_X9_seed rfl rfl (Nat.le_of_ble_eq_true rfl) (k_X9_seed (by omega) er44) (mj_dt dt_L_law 1074 rfl) ?_
                                                                                  refine mj_go_icmp_eq (tgt := 1643) rfl (mj_dt dt_L_law 1075 rfl) (fun b45 => ?_) (fun b45 => ?_)
                                                                                  · rw [if_pos b45] at h
                                                                                    refine mj_go_sub (lv' := [(0, .ref 9000), (1, .ref 0), (2, .ref 95), (3, .int s.1)]) (List.forall_mem_cons.mpr ⟨rfl, (List.forall_mem_cons.mpr ⟨rfl, (List.forall_mem_cons.mpr ⟨rfl, (List.forall_mem_cons.mpr ⟨rfl, (fun _ h9 => absurd h9 List.not_mem_nil)⟩)⟩)⟩)⟩) ?_
                                                                                    exact k_L_law_1643 q_18 hδ h
                                                                                  · rw [if_neg b45] at h
                                                                                    refine mj_go_iconst (v := 0) rfl (mj_dt dt_L_law 1076 rfl) ?_
                                                                                    obtain rfl := Option.some.inj h
                                                                                    exact mj_go_ret (v := some (.int 0)) (Nat.le_of_ble_eq_true rfl) (mj_retZ (mj_dt dt_L_law 1077 rfl) rfl rfl)
                                                                                · rw [if_neg b41] at h
                                                                                  refine ⟨fun b42 => ?_, fun b42 => ?_⟩
                                                                                  · rw [if_pos b42] at h
                                                                                    refine ⟨1528, by decide, ?_⟩
                                                                                    refine mj_go_aload_n (k := 1) (x := 0) rfl (mj_dt dt_L_law 1078 rfl) ?_
                                                                                    refine mj_go_aload_n (k := 0) (x := 9000) rfl (mj_dt dt_L_law 1079 rfl) ?_
                                                                                    refine mj_go_iload_n (k := 3) (x := s.1) rfl (mj_dt dt_L_law 1080 rfl) ?_
                                                                                    refine mj_go_iconst (v := 1) rfl (mj_dt dt_L_law 1081 rfl) ?_
                                                                                    refine mj_go_iadd (mj_dt dt_L_law 1082 rfl) ?_
                                                                                    obtain ⟨c43, h⟩ := mj_ck_some h
                                                                                    refine mj_go_xld (j := 9000) (by decide) (mj_xb_use c43) (mj_dt dt_L_law 1083 rfl) ?_
                                                                                    refine mj_go_aload_n (k := 0) (x := 9000) rfl (mj_dt dt_L_law 1084 rfl) ?_
                                                                                    refine mj_go_iload_n (k := 3) (x := s.1) rfl (mj_dt dt_L_law 1085 rfl) ?_
                                                                                    refine mj_go_iconst (v := 2) rfl (mj_dt dt_L_law 1086 rfl) ?_
                                                                                    refine mj_go_iadd (mj_dt dt_L_law 1087 rfl) ?_
                                                                                    obtain ⟨c44, h⟩ := mj_ck_some h
                                                                                    refine mj_go_xld (j := 9000) (by decide) (mj_xb_use c44) (mj_dt dt_L_law 1088 rfl) ?_
                                                                                    refine mj_go_aload_n (k := 0) (x := 9000) rfl (mj_dt dt_L_law 1089 rfl) ?_
                                                                                    refine mj_go_iload_n (k := 3) (x := s.1) rfl (mj_dt dt_L_law 1090 rfl) ?_
                                                                                    refine mj_go_iconst (v := 3) rfl (mj_dt dt_L_law 1091 rfl) ?_
                                                                                    refine mj_go_iadd (mj_dt dt_L_law 1092 rfl) ?_
                                                                                    obtain ⟨c45, h⟩ := mj_ck_some h
                                                                                    refine mj_go_xld (j := 9000) (by decide) (mj_xb_use c45) (mj_dt dt_L_law 1093 rfl) ?_
                                                                                    obtain ⟨r46, er46, h⟩ := mj_bind_some h
                                                                                    refine ml_callV (Y' := mY_X8_act) (as := [.int (xs (s.1 + 1).toNatClampNeg), .int (xs (s.1 + 2).toNatClampNeg), .int (xs (s.1 + 3).toNatClampNeg)]) (rest := []) (c := 8) (v := (some (.int r46.1))) (M1 := (mj_fin r46.2)) ho_0 rfl lm_L_181 wc_X8_act pl_X8_act ok_X8_act rfl rfl (Nat.le_of_ble_eq_true rfl) (k_X8_act (by omega) er46) (mj_dt dt_L_law 1094 rfl) ?_
                                                                                    refine mj_go_aload_n (k := 2) (x := 95) rfl (mj_dt dt_L_law 1095 rfl) ?_
                                                                                    refine mj_go_aload_n (k := 0) (x := 9000) rfl (mj_dt dt_L_law 1096 rfl) ?_
                                                                                    refine mj_go_iload_n (k := 3) (x := s.1) rfl (mj_dt dt_L_law 1097 rfl) ?_
                                                                                    refine mj_go_iconst (v := 1) rfl (mj_dt dt_L_law 1098 rfl) ?_
                                                                                    refine mj_go_iadd (mj_dt dt_L_law 1099 rfl) ?_
                                                                                    refine mj_go_xld (j := 9000) (by decide) (mj_xb_use c43) (mj_dt dt_L_law 1100 rfl) ?_
                                                                                    refine mj_go_aload_n (k := 0) (x := 9000) rfl (mj_dt dt_L_law 1101 rfl) ?_
                                                                                    refine mj_go_iload_n (k := 3) (x := s.1) rfl (mj_dt dt_L_law 1102 rfl) ?_
                                                                                    refine mj_go_iconst (v := 2) rfl (mj_dt dt_L_law 1103 rfl) ?_
                                                                                    refine mj_go_iadd (mj_dt dt_L_law 1104 rfl) ?_
                                                                                    refine mj_go_xld (j := 9000) (by decide) (mj_xb_use c44) (mj_dt dt_L_law 1105 rfl) ?_
                                                                                    refine mj_go_aload_n (k := 0) (x := 9000) rfl (mj_dt dt_L_law 1106 rfl) ?_
                                                                                    refine mj_go_iload_n (k := 3) (x := s.1) rfl (mj_dt dt_L_law 1107 rfl) ?_
                                                                                    refine mj_go_iconst (v := 3) rfl (mj_dt dt_L_law 1108 rfl) ?_
                                                                                    refine mj_go_iadd (mj_dt dt_L_law 1109 rfl) ?_
                                                                                    refine mj_go_xld (j := 9000) (by decide) (mj_xb_use c45) (mj_dt dt_L_law 1110 rfl) ?_
                                                                                    obtain ⟨r47, er47, h⟩ := mj_bind_some h
                                                                                    refine ml_callV (Y' := mY_X9_act) (as := [.int (xs (s.1 + 1).toNatClampNeg), .int (xs (s.1 + 2).toNatClampNeg), .int (xs (s.1 + 3).toNatClampNeg)]) (rest := [.int r46.1]) (c := 9) (v := (some (.int r47.1))) (M1 := (mj_fin r47.2)) ho_95 rfl lm_L_184 wc_X9_act pl_X9_act ok_X9_act rfl rfl (Nat.le_of_ble_eq_true rfl) (k_X9_act (by omega) er47) (mj_dt dt_L_law 1111 rfl) ?_
                                                                                    refine mj_go_icmp_eq (tgt := 1643) rfl (mj_dt dt_L_law 1112 rfl) (fun b48 => ?_) (fun b48 => ?_)
                                                                                    · rw [if_pos b48] at h
                                                                                      refine mj_go_sub (lv' := [(0, .ref 9000), (1, .ref 0), (2, .ref 95), (3, .int s.1)]) (List.forall_mem_cons.mpr ⟨rfl, (List.forall_mem_cons.mpr ⟨rfl, (List.forall_mem_cons.mpr ⟨rfl, (List.forall_mem_cons.mpr ⟨rfl, (fun _ h9 => absurd h9 List.not_mem_nil)⟩)⟩)⟩)⟩) ?_
                                                                                      exact k_L_law_1643 q_18 hδ h
                                                                                    · rw [if_neg b48] at h
                                                                                      refine mj_go_iconst (v := 0) rfl (mj_dt dt_L_law 1113 rfl) ?_
                                                                                      obtain rfl := Option.some.inj h
                                                                                      exact mj_go_ret (v := some (.int 0)) (Nat.le_of_ble_eq_true rfl) (mj_retZ (mj_dt dt_L_law 1114 rfl) rfl rfl)
                                                                                  · rw [if_neg b42] at h
                                                                                    refine ⟨fun b43 => ?_, fun b43 => ?_⟩
                                                                                    · rw [if_pos b43] at h
                                                                                      refine ⟨1571, by decide, ?_⟩
                                                                                      refine mj_go_aload_n (k := 1) (x := 0) rfl (mj_dt dt_L_law 1115 rfl) ?_
                                                                                      refine mj_go_aload_n (k := 0) (x := 9000) rfl (mj_dt dt_L_law 1116 rfl) ?_
                                                                                      refine mj_go_iload_n (k := 3) (x := s.1) rfl (mj_dt dt_L_law 1117 rfl) ?_
                                                                                      refine mj_go_iconst (v := 1) rfl (mj_dt dt_L_law 1118 rfl) ?_
                                                                                      refine mj_go_iadd (mj_dt dt_L_law 1119 rfl) ?_
                                                                                      obtain ⟨c44, h⟩ := mj_ck_some h
                                                                                      refine mj_go_xld (j := 9000) (by decide) (mj_xb_use c44) (mj_dt dt_L_law 1120 rfl) ?_
                                                                                      obtain ⟨r45, er45, h⟩ := mj_bind_some h
                                                                                      refine ml_callV (Y' := mY_X8_trace) (as := [.int (xs (s.1 + 1).toNatClampNeg)]) (rest := []) (c := 8) (v := (some (.int r45))) (M1 := (mj_fin s.2)) ho_0 rfl lm_L_185 wc_X8_trace pl_X8_trace ok_X8_trace rfl rfl (Nat.le_of_ble_eq_true rfl) (k_X8_trace (by omega) er45) (mj_dt dt_L_law 1121 rfl) ?_
                                                                                      refine mj_go_aload_n (k := 2) (x := 95) rfl (mj_dt dt_L_law 1122 rfl) ?_
                                                                                      refine mj_go_aload_n (k := 0) (x := 9000) rfl (mj_dt dt_L_law 1123 rfl) ?_
                                                                                      refine mj_go_iload_n (k := 3) (x := s.1) rfl (mj_dt dt_L_law 1124 rfl) ?_
                                                                                      refine mj_go_iconst (v := 1) rfl (mj_dt dt_L_law 1125 rfl) ?_
                                                                                      refine mj_go_iadd (mj_dt dt_L_law 1126 rfl) ?_
                                                                                      refine mj_go_xld (j := 9000) (by decide) (mj_xb_use c44) (mj_dt dt_L_law 1127 rfl) ?_
                                                                                      obtain ⟨r46, er46, h⟩ := mj_bind_some h
                                                                                      refine ml_callV (Y' := mY_X9_trace) (as := [.int (xs (s.1 + 1).toNatClampNeg)]) (rest := [.int r45]) (c := 9) (v := (some (.int r46))) (M1 := (mj_fin s.2)) ho_95 rfl lm_L_188 wc_X9_trace pl_X9_trace ok_X9_trace rfl rfl (Nat.le_of_ble_eq_true rfl) (k_X9_trace (by omega) er46) (mj_dt dt_L_law 1128 rfl) ?_
                                                                                      refine mj_go_icmp_eq (tgt := 1643) rfl (mj_dt dt_L_law 1129 rfl) (fun b47 => ?_) (fun b47 => ?_)
                                                                                      · rw [if_pos b47] at h
                                                                                        refine mj_go_sub (lv' := [(0, .ref 9000), (1, .ref 0), (2, .ref 95), (3, .int s.1)]) (List.forall_mem_cons.mpr ⟨rfl, (List.forall_mem_cons.mpr ⟨rfl, (List.forall_mem_cons.mpr ⟨rfl, (List.forall_mem_cons.mpr ⟨rfl, (fun _ h9 => absurd h9 List.not_mem_nil)⟩)⟩)⟩)⟩) ?_
                                                                                        exact k_L_law_1643 q_18 hδ h
                                                                                      · rw [if_neg b47] at h
                                                                                        refine mj_go_iconst (v := 0) rfl (mj_dt dt_L_law 1130 rfl) ?_
                                                                                        obtain rfl := Option.some.inj h
                                                                                        exact mj_go_ret (v := some (.int 0)) (Nat.le_of_ble_eq_true rfl) (mj_retZ (mj_dt dt_L_law 1131 rfl) rfl rfl)
                                                                                    · rw [if_neg b43] at h
                                                                                      refine ⟨fun b44 => ?_, fun b44 => ?_⟩
                                                                                      · rw [if_pos b44] at h
                                                                                        refine ⟨1594, by decide, ?_⟩
                                                                                        refine mj_go_aload_n (k := 1) (x := 0) rfl (mj_dt dt_L_law 1132 rfl) ?_
                                                                                        obtain ⟨r45, er45, h⟩ := mj_bind_some h
                                                                                        refine ml_callV (Y' := mY_X8_image) (as := []) (rest := []) (c := 8) (v := (some (.int r45.1))) (M1 := (mj_fin r45.2)) ho_0 rfl lm_L_189 wc_X8_image pl_X8_image ok_X8_image rfl rfl (Nat.le_of_ble_eq_true rfl) (k_X8_image (by omega) er45) (mj_dt dt_L_law 1133 rfl) ?_
                                                                                        refine mj_go_aload_n (k := 2) (x := 95) rfl (mj_dt dt_L_law 1134 rfl) ?_
                                                                                        obtain ⟨r46, er46, h⟩ := mj_bind_some h
                                                                                        refine ml_callV (Y' := mY_X9_image) (as := []) (rest := [.int r45.1]) (c := 9) (v := (some (.int r46.1))) (M1 := (mj_fin r46.2)) ho_95 rfl lm_L_192 wc_X9_image pl_X9_image ok_X9_image rfl rfl (Nat.le_of_ble_eq_true rfl) (k_X9_image (by omega) er46) (mj_dt dt_L_law 1135 rfl) ?_
                                                                                        refine mj_go_icmp_eq (tgt := 1643) rfl (mj_dt dt_L_law 1136 rfl) (fun b47 => ?_) (fun b47 => ?_)
                                                                                        · rw [if_pos b47] at h
                                                                                          refine mj_go_sub (lv' := [(0, .ref 9000), (1, .ref 0), (2, .ref 95), (3, .int s.1)]) (List.forall_mem_cons.mpr ⟨rfl, (List.forall_mem_cons.mpr ⟨rfl, (List.forall_mem_cons.mpr ⟨rfl, (List.forall_mem_cons.mpr ⟨rfl, (fun _ h9 => absurd h9 List.not_mem_nil)⟩)⟩)⟩)⟩) ?_
                                                                                          exact k_L_law_1643 q_18 hδ h
                                                                                        · rw [if_neg b47] at h
                                                                                          refine mj_go_iconst (v := 0) rfl (mj_dt dt_L_law 1137 rfl) ?_
                                                                                          obtain rfl := Option.some.inj h
                                                                                          exact mj_go_ret (v := some (.int 0)) (Nat.le_of_ble_eq_true rfl) (mj_retZ (mj_dt dt_L_law 1138 rfl) rfl rfl)
                                                                                      · rw [if_neg b44] at h
                                                                                        refine ⟨fun b45 => ?_, fun b45 => ?_⟩
                                                                                        · rw [if_pos b45] at h
                                                                                          refine ⟨1607, by decide, ?_⟩
                                                                                          refine mj_go_aload_n (k := 1) (x := 0) rfl (mj_dt dt_L_law 1139 rfl) ?_
                                                                                          obtain ⟨r46, er46, h⟩ := mj_bind_some h
                                                                                          refine ml_callV (Y' := mY_X8_restore) (as := []) (rest := []) (c := 8) (v := (some (.int r46.1))) (M1 := (mj_fin r46.2)) ho_0 rfl lm_L_193 wc_X8_restore pl_X8_restore ok_X8_restore rfl rfl (Nat.le_of_ble_eq_true rfl) (k_X8_restore (by omega) er46) (mj_dt dt_L_law 1140 rfl) ?_
                                                                                          refine mj_go_aload_n (k := 2) (x := 95) rfl (mj_dt dt_L_law 1141 rfl) ?_
                                                                                          obtain ⟨r47, er47, h⟩ := mj_bind_some h
                                                                                          refine ml_callV (Y' := mY_X9_restore) (as := []) (rest := [.int r46.1]) (c := 9) (v := (some (.int r47.1))) (M1 := (mj_fin r47.2)) ho_95 rfl lm_L_196 wc_X9_restore pl_X9_restore ok_X9_restore rfl rfl (Nat.le_of_ble_eq_true rfl) (k_X9_restore (by omega) er47) (mj_dt dt_L_law 1142 rfl) ?_
                                                                                          refine mj_go_icmp_eq (tgt := 1643) rfl (mj_dt dt_L_law 1143 rfl) (fun b48 => ?_) (fun b48 => ?_)
                                                                                          · rw [if_pos b48] at h
                                                                                            refine mj_go_sub (lv' := [(0, .ref 9000), (1, .ref 0), (2, .ref 95), (3, .int s.1)]) (List.forall_mem_cons.mpr ⟨rfl, (List.forall_mem_cons.mpr ⟨rfl, (List.forall_mem_cons.mpr ⟨rfl, (List.forall_mem_cons.mpr ⟨rfl, (fun _ h9 => absurd h9 List.not_mem_nil)⟩)⟩)⟩)⟩) ?_
                                                                                            exact k_L_law_1643 q_18 hδ h
                                                                                          · rw [if_neg b48] at h
                                                                                            refine mj_go_iconst (v := 0) rfl (mj_dt dt_L_law 1144 rfl) ?_
                                                                                            obtain rfl := Option.some.inj h
                                                                                            exact mj_go_ret (v := some (.int 0)) (Nat.le_of_ble_eq_true rfl) (mj_retZ (mj_dt dt_L_law 1145 rfl) rfl rfl)
                                                                                        · rw [if_neg b45] at h
                                                                                          refine ⟨fun b46 => ?_, fun b46 => ?_⟩
                                                                                          · rw [if_pos b46] at h
                                                                                            refine ⟨1620, by decide, ?_⟩
                                                                                            refine mj_go_aload_n (k := 1) (x := 0) rfl (mj_dt dt_L_law 1146 rfl) ?_
                                                                                            refine mj_go_aload_n (k := 0) (x := 9000) rfl (mj_dt dt_L_law 1147 rfl) ?_
                                                                                            refine mj_go_iload_n (k := 3) (x := s.1) rfl (mj_dt dt_L_law 1148 rfl) ?_
                                                                                            refine mj_go_iconst (v := 1) rfl (mj_dt dt_L_law 1149 rfl) ?_
                                                                                            refine mj_go_iadd (mj_dt dt_L_law 1150 rfl) ?_
                                                                                            obtain ⟨c47, h⟩ := mj_ck_some h
                                                                                            refine mj_go_xld (j := 9000) (by decide) (mj_xb_use c47) (mj_dt dt_L_law 1151 rfl) ?_
                                                                                            obtain ⟨r48, er48, h⟩ := mj_bind_some h
                                                                                            refine ml_callV (Y' := mY_X8_status) (as := [.int (xs (s.1 + 1).toNatClampNeg)]) (rest := []) (c := 8) (v := (some (.int r48))) (M1 := (mj_fin s.2)) ho_0 rfl lm_L_197 wc_X8_status pl_X8_status ok_X8_status rfl rfl (Nat.le_of_ble_eq_true rfl) (k_X8_status (by omega) er48) (mj_dt dt_L_law 1152 rfl) ?_
                                                                                            refine mj_go_aload_n (k := 2) (x := 95) rfl (mj_dt dt_L_law 1153 rfl) ?_
                                                                                            refine mj_go_aload_n (k := 0) (x := 9000) rfl (mj_dt dt_L_law 1154 rfl) ?_
                                                                                            refine mj_go_iload_n (k := 3) (x := s.1) rfl (mj_dt dt_L_law 1155 rfl) ?_
                                                                                            refine mj_go_iconst (v := 1) rfl (mj_dt dt_L_law 1156 rfl) ?_
                                                                                            refine mj_go_iadd (mj_dt dt_L_law 1157 rfl) ?_
                                                                                            refine mj_go_xld (j := 9000) (by decide) (mj_xb_use c47) (mj_dt dt_L_law 1158 rfl) ?_
                                                                                            obtain ⟨r49, er49, h⟩ := mj_bind_some h
                                                                                            refine ml_callV (Y' := mY_X9_status) (as := [.int (xs (s.1 + 1).toNatClampNeg)]) (rest := [.int r48]) (c := 9) (v := (some (.int r49))) (M1 := (mj_fin s.2)) ho_95 rfl lm_L_200 wc_X9_status pl_X9_status ok_X9_status rfl rfl (Nat.le_of_ble_eq_true rfl) (k_X9_status (by omega) er49) (mj_dt dt_L_law 1159 rfl) ?_
                                                                                            refine mj_go_icmp_eq (tgt := 1643) rfl (mj_dt dt_L_law 1160 rfl) (fun b50 => ?_) (fun b50 => ?_)
                                                                                            · rw [if_pos b50] at h
                                                                                              refine mj_go_sub (lv' := [(0, .ref 9000), (1, .ref 0), (2, .ref 95), (3, .int s.1)]) (List.forall_mem_cons.mpr ⟨rfl, (List.forall_mem_cons.mpr ⟨rfl, (List.forall_mem_cons.mpr ⟨rfl, (List.forall_mem_cons.mpr ⟨rfl, (fun _ h9 => absurd h9 List.not_mem_nil)⟩)⟩)⟩)⟩) ?_
                                                                                              exact k_L_law_1643 q_18 hδ h
                                                                                            · rw [if_neg b50] at h
                                                                                              refine mj_go_iconst (v := 0) rfl (mj_dt dt_L_law 1161 rfl) ?_
                                                                                              obtain rfl := Option.some.inj h
                                                                                              exact mj_go_ret (v := some (.int 0)) (Nat.le_of_ble_eq_true rfl) (mj_retZ (mj_dt dt_L_law 1162 rfl) rfl rfl)
                                                                                          · rw [if_neg b46] at h
                                                                                            refine ⟨1643, by decide, ?_⟩
                                                                                            refine mj_go_sub (lv' := [(0, .ref 9000), (1, .ref 0), (2, .ref 95), (3, .int s.1)]) (List.forall_mem_cons.mpr ⟨rfl, (List.forall_mem_cons.mpr ⟨rfl, (List.forall_mem_cons.mpr ⟨rfl, (List.forall_mem_cons.mpr ⟨rfl, (fun _ h9 => absurd h9 List.not_mem_nil)⟩)⟩)⟩)⟩) ?_
                                                                                            exact k_L_law_1643 q_18 hδ h
