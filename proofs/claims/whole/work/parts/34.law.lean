/-! THE LAW'S printed instructions together -/
theorem mj_dl {l : List (Nat × Instr × Nat)} (h : ∀ x ∈ l, decode (mj_by mY_L_law) x.1 = .ok x.2) (j : Nat) {pc : Nat} {i : Instr} {len : Nat} (e : l[j]? = some (pc, i, len)) : decode (mj_by mY_L_law) pc = .ok (i, len) := by
  have h1 := h (pc, i, len) (List.mem_of_getElem? e)
  dsimp only at h1
  exact h1
theorem mk_xld {L : Nat} {xs : Nat → Int32} {δ : Nat} {Y : mj_Y} {pc : Nat} {lv : mj_LV} {rest : List Value} {M : mj_M} {r : mj_S} {i : Int32} (c : mj_xb L i = true) (hd : decode (mj_by Y) pc = .ok (.iaload, 1)) (hg : mj_Go (mj_EX L xs) δ Y (pc + 1) lv (.int (xs i.toNatClampNeg) :: rest) M r) : mj_Go (mj_EX L xs) δ Y pc lv (.int i :: .ref 9000 :: rest) M r := mj_go_xld (Or.inl rfl) (mj_xb_use c) hd hg
theorem mk_xlen {L : Nat} {xs : Nat → Int32} {δ : Nat} {Y : mj_Y} {pc : Nat} {lv : mj_LV} {rest : List Value} {M : mj_M} {r : mj_S} (hd : decode (mj_by Y) pc = .ok (.arraylength, 1)) (hg : mj_Go (mj_EX L xs) δ Y (pc + 1) lv (.int (Int32.ofNat L) :: rest) M r) : mj_Go (mj_EX L xs) δ Y pc lv (.ref 9000 :: rest) M r := mj_go_xlen (Or.inl rfl) hd hg
/-! THE LAW as a function of the script and the cells -/
def f_L_law_1643 (N : Nat) (L : Nat) (xs : Nat → Int32) (k_18 : Int32 × mj_m → Option (Int32 × mj_m)) (v3 : Int32) (m : mj_m) : Option (Int32 × mj_m) := mj_mw (v3 + 6) (fun x1 => k_18 (x1, m))
theorem k_L_law_1643 {L : Nat} {xs : Nat → Int32} {δ N : Nat} {v3 : Int32} {m : mj_m} {k_18 : Int32 × mj_m → Option (Int32 × mj_m)} (q_18 : ∀ (s_ : Int32 × mj_m) (a_ : Int32 × mj_m), k_18 s_ = some a_ → mj_Go (mj_EX L xs) (δ + 1) mY_L_law 18 [(0, .ref 9000), (1, .ref 0), (2, .ref 95), (3, .int s_.1)] [] (mj_fin s_.2) (some (.int a_.1), (mj_fin a_.2))) (hδ : 26 ≤ δ) {a : Int32 × mj_m} (h : f_L_law_1643 N L xs k_18 v3 m = some a) : mj_Go (mj_EX L xs) (δ + 1) mY_L_law 1643 [(0, .ref 9000), (1, .ref 0), (2, .ref 95), (3, .int v3)] [] (mj_fin m) (some (.int a.1), (mj_fin a.2)) := by
  unfold f_L_law_1643 at h
  obtain ⟨x1, ex1, h⟩ := mj_mw_some h
  refine mj_go_iinc (i := 3) (x := v3) (v := x1) rfl (by rw [ex1] <;> rfl) (by decide) (mj_dl lwd_23 13 rfl) ?_
  refine mj_go_goto (tgt := 18) rfl (mj_dl lwd_23 14 rfl) ?_
  refine mj_go_sub (lv' := [(0, .ref 9000), (1, .ref 0), (2, .ref 95), (3, .int x1)]) (List.forall_mem_cons.mpr ⟨rfl, (List.forall_mem_cons.mpr ⟨rfl, (List.forall_mem_cons.mpr ⟨rfl, (List.forall_mem_cons.mpr ⟨rfl, (fun _ h9 => absurd h9 List.not_mem_nil)⟩)⟩)⟩)⟩) ?_
  exact q_18 _ _ h
def f_L_law_858 (N : Nat) (L : Nat) (xs : Nat → Int32) (k_18 : Int32 × mj_m → Option (Int32 × mj_m)) (v3 : Int32) (s0 : Int32) (s2 : Int32) (s3 : Int32) (m : mj_m) : Option (Int32 × mj_m) := (f_X9_prop N s2 s3 m).bind (fun r1 => if s0 = r1.1 then f_L_law_1643 N L xs k_18 v3 r1.2 else (some (0, r1.2)))
theorem k_L_law_858 {L : Nat} {xs : Nat → Int32} {δ N : Nat} {v3 : Int32} {s0 : Int32} {s2 : Int32} {s3 : Int32} {m : mj_m} {k_18 : Int32 × mj_m → Option (Int32 × mj_m)} (q_18 : ∀ (s_ : Int32 × mj_m) (a_ : Int32 × mj_m), k_18 s_ = some a_ → mj_Go (mj_EX L xs) (δ + 1) mY_L_law 18 [(0, .ref 9000), (1, .ref 0), (2, .ref 95), (3, .int s_.1)] [] (mj_fin s_.2) (some (.int a_.1), (mj_fin a_.2))) (hδ : 26 ≤ δ) {a : Int32 × mj_m} (h : f_L_law_858 N L xs k_18 v3 s0 s2 s3 m = some a) : mj_Go (mj_EX L xs) (δ + 1) mY_L_law 858 [(0, .ref 9000), (1, .ref 0), (2, .ref 95), (3, .int v3)] [.int s3, .int s2, .ref 95, .int s0] (mj_fin m) (some (.int a.1), (mj_fin a.2)) := by
  unfold f_L_law_858 at h
  obtain ⟨r1, er1, h⟩ := mj_bind_some h
  refine ml_callV (Y' := mY_X9_prop) (as := [.int s2, .int s3]) (rest := [.int s0]) (c := 9) (v := (some (.int r1.1))) (M1 := (mj_fin r1.2)) ho_95 rfl lm_L_81 wc_X9_prop pl_X9_prop ok_X9_prop rfl rfl (Nat.le_of_ble_eq_true rfl) (k_X9_prop (by omega) er1) (mj_dl lwd_11 6 rfl) ?_
  refine mj_go_icmp_eq (tgt := 1643) rfl (mj_dl lwd_11 7 rfl) (fun b2 => ?_) (fun b2 => ?_)
  · rw [if_pos b2] at h
    refine mj_go_sub (lv' := [(0, .ref 9000), (1, .ref 0), (2, .ref 95), (3, .int v3)]) (List.forall_mem_cons.mpr ⟨rfl, (List.forall_mem_cons.mpr ⟨rfl, (List.forall_mem_cons.mpr ⟨rfl, (List.forall_mem_cons.mpr ⟨rfl, (fun _ h9 => absurd h9 List.not_mem_nil)⟩)⟩)⟩)⟩) ?_
    exact k_L_law_1643 q_18 hδ h
  · rw [if_neg b2] at h
    refine mj_go_iconst (v := 0) rfl (mj_dl lwd_11 8 rfl) ?_
    obtain rfl := Option.some.inj h
    exact mj_go_ret (v := some (.int 0)) (Nat.le_of_ble_eq_true rfl) (mj_retZ (mj_dl lwd_11 9 rfl) rfl rfl)
def f_L_law_836 (N : Nat) (L : Nat) (xs : Nat → Int32) (k_18 : Int32 × mj_m → Option (Int32 × mj_m)) (v3 : Int32) (s1 : Int32) (s2 : Int32) (m : mj_m) : Option (Int32 × mj_m) := (f_X8_prop N s1 s2 m).bind (fun r1 => mj_ck (mj_xb L (v3 + 1)) ( mj_ck (mj_xb L (v3 + 2)) ( if (xs (v3 + 2).toNatClampNeg) = 0 then (f_L_law_858 N L xs k_18 v3 r1.1 (xs (v3 + 1).toNatClampNeg) 0 r1.2) else (f_L_law_858 N L xs k_18 v3 r1.1 (xs (v3 + 1).toNatClampNeg) 1 r1.2))))
theorem k_L_law_836 {L : Nat} {xs : Nat → Int32} {δ N : Nat} {v3 : Int32} {s1 : Int32} {s2 : Int32} {m : mj_m} {k_18 : Int32 × mj_m → Option (Int32 × mj_m)} (q_18 : ∀ (s_ : Int32 × mj_m) (a_ : Int32 × mj_m), k_18 s_ = some a_ → mj_Go (mj_EX L xs) (δ + 1) mY_L_law 18 [(0, .ref 9000), (1, .ref 0), (2, .ref 95), (3, .int s_.1)] [] (mj_fin s_.2) (some (.int a_.1), (mj_fin a_.2))) (hδ : 26 ≤ δ) {a : Int32 × mj_m} (h : f_L_law_836 N L xs k_18 v3 s1 s2 m = some a) : mj_Go (mj_EX L xs) (δ + 1) mY_L_law 836 [(0, .ref 9000), (1, .ref 0), (2, .ref 95), (3, .int v3)] [.int s2, .int s1, .ref 0] (mj_fin m) (some (.int a.1), (mj_fin a.2)) := by
  unfold f_L_law_836 at h
  obtain ⟨r1, er1, h⟩ := mj_bind_some h
  refine ml_callV (Y' := mY_X8_prop) (as := [.int s1, .int s2]) (rest := []) (c := 8) (v := (some (.int r1.1))) (M1 := (mj_fin r1.2)) ho_0 rfl lm_L_77 wc_X8_prop pl_X8_prop ok_X8_prop rfl rfl (Nat.le_of_ble_eq_true rfl) (k_X8_prop (by omega) er1) (mj_dl lwd_10 40 rfl) ?_
  refine mj_go_aload_n (k := 2) (x := 95) rfl (mj_dl lwd_10 41 rfl) ?_
  refine mj_go_aload_n (k := 0) (x := 9000) rfl (mj_dl lwd_10 42 rfl) ?_
  refine mj_go_iload_n (k := 3) (x := v3) rfl (mj_dl lwd_10 43 rfl) ?_
  refine mj_go_iconst (v := 1) rfl (mj_dl lwd_10 44 rfl) ?_
  refine mj_go_iadd (mj_dl lwd_10 45 rfl) ?_
  obtain ⟨c2, h⟩ := mj_ck_some h
  refine mk_xld c2 (mj_dl lwd_10 46 rfl) ?_
  refine mj_go_aload_n (k := 0) (x := 9000) rfl (mj_dl lwd_10 47 rfl) ?_
  refine mj_go_iload_n (k := 3) (x := v3) rfl (mj_dl lwd_10 48 rfl) ?_
  refine mj_go_iconst (v := 2) rfl (mj_dl lwd_10 49 rfl) ?_
  refine mj_go_iadd (mj_dl lwd_11 0 rfl) ?_
  obtain ⟨c3, h⟩ := mj_ck_some h
  refine mk_xld c3 (mj_dl lwd_11 1 rfl) ?_
  refine mj_go_if_eq (tgt := 857) rfl (mj_dl lwd_11 2 rfl) (fun b4 => ?_) (fun b4 => ?_)
  · rw [if_pos b4] at h
    refine mj_go_iconst (v := 0) rfl (mj_dl lwd_11 5 rfl) ?_
    refine mj_go_sub (lv' := [(0, .ref 9000), (1, .ref 0), (2, .ref 95), (3, .int v3)]) (List.forall_mem_cons.mpr ⟨rfl, (List.forall_mem_cons.mpr ⟨rfl, (List.forall_mem_cons.mpr ⟨rfl, (List.forall_mem_cons.mpr ⟨rfl, (fun _ h9 => absurd h9 List.not_mem_nil)⟩)⟩)⟩)⟩) ?_
    exact k_L_law_858 q_18 hδ h
  · rw [if_neg b4] at h
    refine mj_go_iconst (v := 1) rfl (mj_dl lwd_11 3 rfl) ?_
    refine mj_go_goto (tgt := 858) rfl (mj_dl lwd_11 4 rfl) ?_
    refine mj_go_sub (lv' := [(0, .ref 9000), (1, .ref 0), (2, .ref 95), (3, .int v3)]) (List.forall_mem_cons.mpr ⟨rfl, (List.forall_mem_cons.mpr ⟨rfl, (List.forall_mem_cons.mpr ⟨rfl, (List.forall_mem_cons.mpr ⟨rfl, (fun _ h9 => absurd h9 List.not_mem_nil)⟩)⟩)⟩)⟩) ?_
    exact k_L_law_858 q_18 hδ h
def f_L_law_18 (N : Nat) (L : Nat) (xs : Nat → Int32) (k_18 : Int32 × mj_m → Option (Int32 × mj_m)) (s : Int32 × mj_m) : Option (Int32 × mj_m) := if ((Int32.ofNat L) - 6) < s.1 then (some (1, s.2)) else (mj_ck (mj_xb L s.1) ( if ((xs s.1.toNatClampNeg) &&& 63) = 0 then (mj_ck (mj_xb L (s.1 + 1)) ( mj_ck (mj_xb L (s.1 + 2)) ( mj_ck (mj_xb L (s.1 + 3)) ( (f_X8_row N (xs (s.1 + 1).toNatClampNeg) (xs (s.1 + 2).toNatClampNeg) (xs (s.1 + 3).toNatClampNeg) s.2).bind (fun r7 => (f_X9_row N (xs (s.1 + 1).toNatClampNeg) (xs (s.1 + 2).toNatClampNeg) (xs (s.1 + 3).toNatClampNeg) r7.2).bind (fun r8 => if r7.1 = r8.1 then f_L_law_1643 N L xs k_18 s.1 r8.2 else (some (0, r8.2)))))))) else if ((xs s.1.toNatClampNeg) &&& 63) = 1 then (mj_ck (mj_xb L (s.1 + 1)) ( mj_ck (mj_xb L (s.1 + 2)) ( mj_ck (mj_xb L (s.1 + 3)) ( mj_ck (mj_xb L (s.1 + 4)) ( (f_X8_set N (xs (s.1 + 1).toNatClampNeg) (xs (s.1 + 2).toNatClampNeg) ((((xs (s.1 + 3).toNatClampNeg).toInt64) <<< ((32 : Int32).toInt64 &&& 63)) ||| (((xs (s.1 + 4).toNatClampNeg).toInt64) &&& 4294967295)) s.2).bind (fun r9 => (f_X9_set N (xs (s.1 + 1).toNatClampNeg) (xs (s.1 + 2).toNatClampNeg) ((((xs (s.1 + 3).toNatClampNeg).toInt64) <<< ((32 : Int32).toInt64 &&& 63)) ||| (((xs (s.1 + 4).toNatClampNeg).toInt64) &&& 4294967295)) r9.2).bind (fun r10 => if r9.1 = r10.1 then f_L_law_1643 N L xs k_18 s.1 r10.2 else (some (0, r10.2))))))))) else if ((xs s.1.toNatClampNeg) &&& 63) = 2 then (mj_ck (mj_xb L (s.1 + 1)) ( mj_ck (mj_xb L (s.1 + 2)) ( mj_ck (mj_xb L (s.1 + 3)) ( mj_ck (mj_xb L (s.1 + 4)) ( mj_ck (mj_xb L (s.1 + 5)) ( (f_X8_copy N (xs (s.1 + 1).toNatClampNeg) (xs (s.1 + 2).toNatClampNeg) (xs (s.1 + 3).toNatClampNeg) (xs (s.1 + 4).toNatClampNeg) (xs (s.1 + 5).toNatClampNeg) s.2).bind (fun r11 => (f_X9_copy N (xs (s.1 + 1).toNatClampNeg) (xs (s.1 + 2).toNatClampNeg) (xs (s.1 + 3).toNatClampNeg) (xs (s.1 + 4).toNatClampNeg) (xs (s.1 + 5).toNatClampNeg) r11.2).bind (fun r12 => if r11.1 = r12.1 then f_L_law_1643 N L xs k_18 s.1 r12.2 else (some (0, r12.2)))))))))) else if ((xs s.1.toNatClampNeg) &&& 63) = 3 then (mj_ck (mj_xb L (s.1 + 1)) ( mj_ck (mj_xb L (s.1 + 2)) ( (f_X8_element N (xs (s.1 + 1).toNatClampNeg) (xs (s.1 + 2).toNatClampNeg) s.2).bind (fun r9 => (f_X9_element N (xs (s.1 + 1).toNatClampNeg) (xs (s.1 + 2).toNatClampNeg) s.2).bind (fun r10 => if (lg_cmp r9 r10) = 0 then f_L_law_1643 N L xs k_18 s.1 s.2 else (some (0, s.2))))))) else if ((xs s.1.toNatClampNeg) &&& 63) = 4 then (mj_ck (mj_xb L (s.1 + 1)) ( mj_ck (mj_xb L (s.1 + 2)) ( mj_ck (mj_xb L (s.1 + 3)) ( (f_X8_rule N (xs (s.1 + 1).toNatClampNeg) (xs (s.1 + 2).toNatClampNeg) (xs (s.1 + 3).toNatClampNeg) s.2).bind (fun r11 => (f_X9_rule N (xs (s.1 + 1).toNatClampNeg) (xs (s.1 + 2).toNatClampNeg) (xs (s.1 + 3).toNatClampNeg) r11.2).bind (fun r12 => if r11.1 = r12.1 then f_L_law_1643 N L xs k_18 s.1 r12.2 else (some (0, r12.2)))))))) else if ((xs s.1.toNatClampNeg) &&& 63) = 5 then (mj_ck (mj_xb L (s.1 + 1)) ( (f_X8_holds N (xs (s.1 + 1).toNatClampNeg) s.2).bind (fun r10 => (f_X9_holds N (xs (s.1 + 1).toNatClampNeg) s.2).bind (fun r11 => if r10 = r11 then f_L_law_1643 N L xs k_18 s.1 s.2 else (some (0, s.2)))))) else if ((xs s.1.toNatClampNeg) &&& 63) = 6 then (mj_ck (mj_xb L (s.1 + 1)) ( mj_ck (mj_xb L (s.1 + 2)) ( (f_X8_says N (xs (s.1 + 1).toNatClampNeg) (xs (s.1 + 2).toNatClampNeg) s.2).bind (fun r12 => (f_X9_says N (xs (s.1 + 1).toNatClampNeg) (xs (s.1 + 2).toNatClampNeg) r12.2).bind (fun r13 => if r12.1 = r13.1 then f_L_law_1643 N L xs k_18 s.1 r13.2 else (some (0, r13.2))))))) else if ((xs s.1.toNatClampNeg) &&& 63) = 7 then (mj_ck (mj_xb L (s.1 + 1)) ( mj_ck (mj_xb L (s.1 + 2)) ( (f_X8_street N (xs (s.1 + 1).toNatClampNeg) (xs (s.1 + 2).toNatClampNeg) s.2).bind (fun r13 => (f_X9_street N (xs (s.1 + 1).toNatClampNeg) (xs (s.1 + 2).toNatClampNeg) r13.2).bind (fun r14 => if r13.1 = r14.1 then f_L_law_1643 N L xs k_18 s.1 r14.2 else (some (0, r14.2))))))) else if ((xs s.1.toNatClampNeg) &&& 63) = 8 then (mj_ck (mj_xb L (s.1 + 1)) ( mj_ck (mj_xb L (s.1 + 2)) ( mj_ck (mj_xb L (s.1 + 3)) ( mj_ck (mj_xb L (s.1 + 4)) ( mj_ck (mj_xb L (s.1 + 5)) ( (f_X8_house N (xs (s.1 + 1).toNatClampNeg) (xs (s.1 + 2).toNatClampNeg) (xs (s.1 + 3).toNatClampNeg) (xs (s.1 + 4).toNatClampNeg) (xs (s.1 + 5).toNatClampNeg) s.2).bind (fun r17 => (f_X9_house N (xs (s.1 + 1).toNatClampNeg) (xs (s.1 + 2).toNatClampNeg) (xs (s.1 + 3).toNatClampNeg) (xs (s.1 + 4).toNatClampNeg) (xs (s.1 + 5).toNatClampNeg) r17.2).bind (fun r18 => if r17.1 = r18.1 then f_L_law_1643 N L xs k_18 s.1 r18.2 else (some (0, r18.2)))))))))) else if ((xs s.1.toNatClampNeg) &&& 63) = 9 then (mj_ck (mj_xb L (s.1 + 1)) ( mj_ck (mj_xb L (s.1 + 2)) ( mj_ck (mj_xb L (s.1 + 3)) ( (f_X8_houses N (xs (s.1 + 1).toNatClampNeg) (xs (s.1 + 2).toNatClampNeg) (xs (s.1 + 3).toNatClampNeg) s.2).bind (fun r16 => (f_X9_houses N (xs (s.1 + 1).toNatClampNeg) (xs (s.1 + 2).toNatClampNeg) (xs (s.1 + 3).toNatClampNeg) r16.2).bind (fun r17 => if r16.1 = r17.1 then f_L_law_1643 N L xs k_18 s.1 r17.2 else (some (0, r17.2)))))))) else if ((xs s.1.toNatClampNeg) &&& 63) = 10 then (mj_ck (mj_xb L (s.1 + 1)) ( mj_ck (mj_xb L (s.1 + 2)) ( (f_X8_houseOf N (xs (s.1 + 1).toNatClampNeg) (xs (s.1 + 2).toNatClampNeg) s.2).bind (fun r16 => (f_X9_houseOf N (xs (s.1 + 1).toNatClampNeg) (xs (s.1 + 2).toNatClampNeg) r16.2).bind (fun r17 => if r16.1 = r17.1 then f_L_law_1643 N L xs k_18 s.1 r17.2 else (some (0, r17.2))))))) else if ((xs s.1.toNatClampNeg) &&& 63) = 11 then (mj_ck (mj_xb L (s.1 + 1)) ( mj_ck (mj_xb L (s.1 + 2)) ( (f_X8_front N (xs (s.1 + 1).toNatClampNeg) (xs (s.1 + 2).toNatClampNeg) s.2).bind (fun r17 => (f_X9_front N (xs (s.1 + 1).toNatClampNeg) (xs (s.1 + 2).toNatClampNeg) r17.2).bind (fun r18 => if r17.1 = r18.1 then f_L_law_1643 N L xs k_18 s.1 r18.2 else (some (0, r18.2))))))) else if ((xs s.1.toNatClampNeg) &&& 63) = 12 then (mj_ck (mj_xb L (s.1 + 1)) ( mj_ck (mj_xb L (s.1 + 2)) ( (f_X8_next N (xs (s.1 + 1).toNatClampNeg) (xs (s.1 + 2).toNatClampNeg) s.2).bind (fun r18 => (f_X9_next N (xs (s.1 + 1).toNatClampNeg) (xs (s.1 + 2).toNatClampNeg) r18.2).bind (fun r19 => if r18.1 = r19.1 then f_L_law_1643 N L xs k_18 s.1 r19.2 else (some (0, r19.2))))))) else if ((xs s.1.toNatClampNeg) &&& 63) = 13 then (mj_ck (mj_xb L (s.1 + 1)) ( mj_ck (mj_xb L (s.1 + 2)) ( mj_ck (mj_xb L (s.1 + 3)) ( (f_X8_alter N (xs (s.1 + 1).toNatClampNeg) (xs (s.1 + 2).toNatClampNeg) (xs (s.1 + 3).toNatClampNeg) s.2).bind (fun r20 => (f_X9_alter N (xs (s.1 + 1).toNatClampNeg) (xs (s.1 + 2).toNatClampNeg) (xs (s.1 + 3).toNatClampNeg) r20.2).bind (fun r21 => if r20.1 = r21.1 then f_L_law_1643 N L xs k_18 s.1 r21.2 else (some (0, r21.2)))))))) else if ((xs s.1.toNatClampNeg) &&& 63) = 14 then (mj_ck (mj_xb L (s.1 + 1)) ( mj_ck (mj_xb L (s.1 + 2)) ( if (xs (s.1 + 2).toNatClampNeg) = 0 then (f_L_law_836 N L xs k_18 s.1 (xs (s.1 + 1).toNatClampNeg) 0 s.2) else (f_L_law_836 N L xs k_18 s.1 (xs (s.1 + 1).toNatClampNeg) 1 s.2)))) else if ((xs s.1.toNatClampNeg) &&& 63) = 15 then (mj_ck (mj_xb L (s.1 + 1)) ( mj_ck (mj_xb L (s.1 + 2)) ( (f_X8_shake N (xs (s.1 + 1).toNatClampNeg) (xs (s.1 + 2).toNatClampNeg) s.2).bind (fun r21 => (f_X9_shake N (xs (s.1 + 1).toNatClampNeg) (xs (s.1 + 2).toNatClampNeg) r21.2).bind (fun r22 => if r21.1 = r22.1 then f_L_law_1643 N L xs k_18 s.1 r22.2 else (some (0, r22.2))))))) else if ((xs s.1.toNatClampNeg) &&& 63) = 16 then (mj_ck (mj_xb L (s.1 + 1)) ( mj_ck (mj_xb L (s.1 + 2)) ( (f_X8_ask N (xs (s.1 + 1).toNatClampNeg) (xs (s.1 + 2).toNatClampNeg) s.2).bind (fun r22 => (f_X9_ask N (xs (s.1 + 1).toNatClampNeg) (xs (s.1 + 2).toNatClampNeg) r22.2).bind (fun r23 => if r22.1 = r23.1 then f_L_law_1643 N L xs k_18 s.1 r23.2 else (some (0, r23.2))))))) else if ((xs s.1.toNatClampNeg) &&& 63) = 17 then (mj_ck (mj_xb L (s.1 + 1)) ( (f_X8_town N (xs (s.1 + 1).toNatClampNeg) s.2).bind (fun r22 => (f_X9_town N (xs (s.1 + 1).toNatClampNeg) r22.2).bind (fun r23 => if r22.1 = r23.1 then f_L_law_1643 N L xs k_18 s.1 r23.2 else (some (0, r23.2)))))) else if ((xs s.1.toNatClampNeg) &&& 63) = 18 then ((f_X8_fault N s.2).bind (fun r22 => (f_X9_fault N s.2).bind (fun r23 => if r22 = r23 then f_L_law_1643 N L xs k_18 s.1 s.2 else (some (0, s.2))))) else if ((xs s.1.toNatClampNeg) &&& 63) = 19 then (mj_ck (mj_xb L (s.1 + 1)) ( mj_ck (mj_xb L (s.1 + 2)) ( (f_X8_falls N (xs (s.1 + 1).toNatClampNeg) (xs (s.1 + 2).toNatClampNeg) s.2).bind (fun r25 => (f_X9_falls N (xs (s.1 + 1).toNatClampNeg) (xs (s.1 + 2).toNatClampNeg) r25.2).bind (fun r26 => if r25.1 = r26.1 then f_L_law_1643 N L xs k_18 s.1 r26.2 else (some (0, r26.2))))))) else if ((xs s.1.toNatClampNeg) &&& 63) = 20 then (mj_ck (mj_xb L (s.1 + 1)) ( (f_X8_cut N (xs (s.1 + 1).toNatClampNeg) s.2).bind (fun r25 => (f_X9_cut N (xs (s.1 + 1).toNatClampNeg) r25.2).bind (fun r26 => if r25.1 = r26.1 then f_L_law_1643 N L xs k_18 s.1 r26.2 else (some (0, r26.2)))))) else if ((xs s.1.toNatClampNeg) &&& 63) = 21 then (mj_ck (mj_xb L (s.1 + 1)) ( mj_ck (mj_xb L (s.1 + 2)) ( (f_X8_lost N (xs (s.1 + 1).toNatClampNeg) (xs (s.1 + 2).toNatClampNeg) s.2).bind (fun r27 => (f_X9_lost N (xs (s.1 + 1).toNatClampNeg) (xs (s.1 + 2).toNatClampNeg) r27.2).bind (fun r28 => if (lg_cmp r27.1 r28.1) = 0 then f_L_law_1643 N L xs k_18 s.1 r28.2 else (some (0, r28.2))))))) else if ((xs s.1.toNatClampNeg) &&& 63) = 22 then (mj_ck (mj_xb L (s.1 + 1)) ( mj_ck (mj_xb L (s.1 + 2)) ( (f_X8_dead N (xs (s.1 + 1).toNatClampNeg) (xs (s.1 + 2).toNatClampNeg) s.2).bind (fun r28 => (f_X9_dead N (xs (s.1 + 1).toNatClampNeg) (xs (s.1 + 2).toNatClampNeg) r28.2).bind (fun r29 => if (lg_cmp r28.1 r29.1) = 0 then f_L_law_1643 N L xs k_18 s.1 r29.2 else (some (0, r29.2))))))) else if ((xs s.1.toNatClampNeg) &&& 63) = 23 then (mj_ck (mj_xb L (s.1 + 1)) ( mj_ck (mj_xb L (s.1 + 2)) ( (f_X8_shuts N (xs (s.1 + 1).toNatClampNeg) (xs (s.1 + 2).toNatClampNeg) s.2).bind (fun r29 => (f_X9_shuts N (xs (s.1 + 1).toNatClampNeg) (xs (s.1 + 2).toNatClampNeg) r29.2).bind (fun r30 => if (lg_cmp r29.1 r30.1) = 0 then f_L_law_1643 N L xs k_18 s.1 r30.2 else (some (0, r30.2))))))) else if ((xs s.1.toNatClampNeg) &&& 63) = 24 then ((f_X8_mean N s.2).bind (fun r28 => (f_X9_mean N r28.2).bind (fun r29 => if (lg_cmp r28.1 r29.1) = 0 then f_L_law_1643 N L xs k_18 s.1 r29.2 else (some (0, r29.2))))) else if ((xs s.1.toNatClampNeg) &&& 63) = 25 then (mj_ck (mj_xb L (s.1 + 1)) ( (f_X8_worth N (xs (s.1 + 1).toNatClampNeg) s.2).bind (fun r30 => (f_X9_worth N (xs (s.1 + 1).toNatClampNeg) r30.2).bind (fun r31 => if (lg_cmp r30.1 r31.1) = 0 then f_L_law_1643 N L xs k_18 s.1 r31.2 else (some (0, r31.2)))))) else if ((xs s.1.toNatClampNeg) &&& 63) = 26 then ((f_X8_which N s.2).bind (fun r30 => (f_X9_which N r30.2).bind (fun r31 => if r30.1 = r31.1 then f_L_law_1643 N L xs k_18 s.1 r31.2 else (some (0, r31.2))))) else if ((xs s.1.toNatClampNeg) &&& 63) = 27 then (mj_ck (mj_xb L (s.1 + 1)) ( mj_ck (mj_xb L (s.1 + 2)) ( (f_X8_order N (xs (s.1 + 1).toNatClampNeg) (xs (s.1 + 2).toNatClampNeg) s.2).bind (fun r33 => (f_X9_order N (xs (s.1 + 1).toNatClampNeg) (xs (s.1 + 2).toNatClampNeg) r33.2).bind (fun r34 => if r33.1 = r34.1 then f_L_law_1643 N L xs k_18 s.1 r34.2 else (some (0, r34.2))))))) else if ((xs s.1.toNatClampNeg) &&& 63) = 28 then (mj_ck (mj_xb L (s.1 + 1)) ( mj_ck (mj_xb L (s.1 + 2)) ( (f_X8_plan N (xs (s.1 + 1).toNatClampNeg) (xs (s.1 + 2).toNatClampNeg) s.2).bind (fun r34 => (f_X9_plan N (xs (s.1 + 1).toNatClampNeg) (xs (s.1 + 2).toNatClampNeg) r34.2).bind (fun r35 => if (lg_cmp r34.1 r35.1) = 0 then f_L_law_1643 N L xs k_18 s.1 r35.2 else (some (0, r35.2))))))) else if ((xs s.1.toNatClampNeg) &&& 63) = 29 then (mj_ck (mj_xb L (s.1 + 1)) ( mj_ck (mj_xb L (s.1 + 2)) ( (f_X8_steps N (xs (s.1 + 1).toNatClampNeg) (xs (s.1 + 2).toNatClampNeg) s.2).bind (fun r35 => (f_X9_steps N (xs (s.1 + 1).toNatClampNeg) (xs (s.1 + 2).toNatClampNeg) r35.2).bind (fun r36 => if r35.1 = r36.1 then f_L_law_1643 N L xs k_18 s.1 r36.2 else (some (0, r36.2))))))) else if ((xs s.1.toNatClampNeg) &&& 63) = 30 then (mj_ck (mj_xb L (s.1 + 1)) ( mj_ck (mj_xb L (s.1 + 2)) ( (f_X8_judge N (xs (s.1 + 1).toNatClampNeg) (xs (s.1 + 2).toNatClampNeg) s.2).bind (fun r36 => (f_X9_judge N (xs (s.1 + 1).toNatClampNeg) (xs (s.1 + 2).toNatClampNeg) r36.2).bind (fun r37 => if (lg_cmp r36.1 r37.1) = 0 then f_L_law_1643 N L xs k_18 s.1 r37.2 else (some (0, r37.2))))))) else if ((xs s.1.toNatClampNeg) &&& 63) = 31 then (mj_ck (mj_xb L (s.1 + 1)) ( (f_X8_best N (xs (s.1 + 1).toNatClampNeg) s.2).bind (fun r36 => (f_X9_best N (xs (s.1 + 1).toNatClampNeg) r36.2).bind (fun r37 => if (lg_cmp r36.1 r37.1) = 0 then f_L_law_1643 N L xs k_18 s.1 r37.2 else (some (0, r37.2)))))) else if ((xs s.1.toNatClampNeg) &&& 63) = 32 then (mj_ck (mj_xb L (s.1 + 1)) ( mj_ck (mj_xb L (s.1 + 2)) ( (f_X8_first N (xs (s.1 + 1).toNatClampNeg) (xs (s.1 + 2).toNatClampNeg) s.2).bind (fun r38 => (f_X9_first N (xs (s.1 + 1).toNatClampNeg) (xs (s.1 + 2).toNatClampNeg) r38.2).bind (fun r39 => if r38.1 = r39.1 then f_L_law_1643 N L xs k_18 s.1 r39.2 else (some (0, r39.2))))))) else if ((xs s.1.toNatClampNeg) &&& 63) = 33 then (mj_ck (mj_xb L (s.1 + 1)) ( mj_ck (mj_xb L (s.1 + 2)) ( (f_X8_gap N (xs (s.1 + 1).toNatClampNeg) (xs (s.1 + 2).toNatClampNeg) s.2).bind (fun r39 => (f_X9_gap N (xs (s.1 + 1).toNatClampNeg) (xs (s.1 + 2).toNatClampNeg) r39.2).bind (fun r40 => if (lg_cmp r39.1 r40.1) = 0 then f_L_law_1643 N L xs k_18 s.1 r40.2 else (some (0, r40.2))))))) else if ((xs s.1.toNatClampNeg) &&& 63) = 34 then (mj_ck (mj_xb L (s.1 + 1)) ( (f_X8_bound N (xs (s.1 + 1).toNatClampNeg) s.2).bind (fun r39 => (f_X9_bound N (xs (s.1 + 1).toNatClampNeg) r39.2).bind (fun r40 => if (lg_cmp r39.1 r40.1) = 0 then f_L_law_1643 N L xs k_18 s.1 r40.2 else (some (0, r40.2)))))) else if ((xs s.1.toNatClampNeg) &&& 63) = 35 then (mj_ck (mj_xb L (s.1 + 1)) ( (f_X8_head N (xs (s.1 + 1).toNatClampNeg) s.2).bind (fun r40 => (f_X9_head N (xs (s.1 + 1).toNatClampNeg) r40.2).bind (fun r41 => if r40.1 = r41.1 then f_L_law_1643 N L xs k_18 s.1 r41.2 else (some (0, r41.2)))))) else if ((xs s.1.toNatClampNeg) &&& 63) = 36 then (mj_ck (mj_xb L (s.1 + 1)) ( (f_X8_narrow N (xs (s.1 + 1).toNatClampNeg) s.2).bind (fun r41 => (f_X9_narrow N (xs (s.1 + 1).toNatClampNeg) r41.2).bind (fun r42 => if r41.1 = r42.1 then f_L_law_1643 N L xs k_18 s.1 r42.2 else (some (0, r42.2)))))) else if ((xs s.1.toNatClampNeg) &&& 63) = 37 then (mj_ck (mj_xb L (s.1 + 1)) ( mj_ck (mj_xb L (s.1 + 2)) ( (f_X8_years N (xs (s.1 + 1).toNatClampNeg) (xs (s.1 + 2).toNatClampNeg) s.2).bind (fun r43 => (f_X9_years N (xs (s.1 + 1).toNatClampNeg) (xs (s.1 + 2).toNatClampNeg) r43.2).bind (fun r44 => if r43.1 = r44.1 then f_L_law_1643 N L xs k_18 s.1 r44.2 else (some (0, r44.2))))))) else if ((xs s.1.toNatClampNeg) &&& 63) = 38 then (mj_ck (mj_xb L (s.1 + 1)) ( (f_X8_seed N (xs (s.1 + 1).toNatClampNeg) s.2).bind (fun r43 => (f_X9_seed N (xs (s.1 + 1).toNatClampNeg) r43.2).bind (fun r44 => if r43.1 = r44.1 then f_L_law_1643 N L xs k_18 s.1 r44.2 else (some (0, r44.2)))))) else if ((xs s.1.toNatClampNeg) &&& 63) = 39 then (mj_ck (mj_xb L (s.1 + 1)) ( mj_ck (mj_xb L (s.1 + 2)) ( mj_ck (mj_xb L (s.1 + 3)) ( (f_X8_act N (xs (s.1 + 1).toNatClampNeg) (xs (s.1 + 2).toNatClampNeg) (xs (s.1 + 3).toNatClampNeg) s.2).bind (fun r46 => (f_X9_act N (xs (s.1 + 1).toNatClampNeg) (xs (s.1 + 2).toNatClampNeg) (xs (s.1 + 3).toNatClampNeg) r46.2).bind (fun r47 => if r46.1 = r47.1 then f_L_law_1643 N L xs k_18 s.1 r47.2 else (some (0, r47.2)))))))) else if ((xs s.1.toNatClampNeg) &&& 63) = 40 then (mj_ck (mj_xb L (s.1 + 1)) ( (f_X8_trace N (xs (s.1 + 1).toNatClampNeg) s.2).bind (fun r45 => (f_X9_trace N (xs (s.1 + 1).toNatClampNeg) s.2).bind (fun r46 => if r45 = r46 then f_L_law_1643 N L xs k_18 s.1 s.2 else (some (0, s.2)))))) else if ((xs s.1.toNatClampNeg) &&& 63) = 41 then ((f_X8_image N s.2).bind (fun r45 => (f_X9_image N r45.2).bind (fun r46 => if r45.1 = r46.1 then f_L_law_1643 N L xs k_18 s.1 r46.2 else (some (0, r46.2))))) else if ((xs s.1.toNatClampNeg) &&& 63) = 42 then ((f_X8_restore N s.2).bind (fun r46 => (f_X9_restore N r46.2).bind (fun r47 => if r46.1 = r47.1 then f_L_law_1643 N L xs k_18 s.1 r47.2 else (some (0, r47.2))))) else if ((xs s.1.toNatClampNeg) &&& 63) = 43 then (mj_ck (mj_xb L (s.1 + 1)) ( (f_X8_status N (xs (s.1 + 1).toNatClampNeg) s.2).bind (fun r48 => (f_X9_status N (xs (s.1 + 1).toNatClampNeg) s.2).bind (fun r49 => if r48 = r49 then f_L_law_1643 N L xs k_18 s.1 s.2 else (some (0, s.2)))))) else f_L_law_1643 N L xs k_18 s.1 s.2))
theorem k_L_law_18 {L : Nat} {xs : Nat → Int32} {δ N : Nat} (hδ : 26 ≤ δ) : ∀ (n : Nat) (s : Int32 × mj_m) (a : Int32 × mj_m), mj_lp n (f_L_law_18 N L xs) s = some a → mj_Go (mj_EX L xs) (δ + 1) mY_L_law 18 [(0, .ref 9000), (1, .ref 0), (2, .ref 95), (3, .int s.1)] [] (mj_fin s.2) (some (.int a.1), (mj_fin a.2)) := by
  refine mj_lp_sound (fun k_18 s a q_18 h => ?_)
  unfold f_L_law_18 at h
  refine mj_go_iload_n (k := 3) (x := s.1) rfl (mj_dl lwd_0 10 rfl) ?_
  refine mj_go_aload_n (k := 0) (x := 9000) rfl (mj_dl lwd_0 11 rfl) ?_
  refine mk_xlen (mj_dl lwd_0 12 rfl) ?_
  refine mj_go_bipush (v := 6) rfl (mj_dl lwd_0 13 rfl) ?_
  refine mj_go_isub (mj_dl lwd_0 14 rfl) ?_
  refine mj_go_icmp_gt (tgt := 1649) rfl (mj_dl lwd_0 15 rfl) (fun b1 => ?_) (fun b1 => ?_)
  · rw [if_pos b1] at h
    refine mj_go_iconst (v := 1) rfl (mj_dl lwd_23 15 rfl) ?_
    obtain rfl := Option.some.inj h
    exact mj_go_ret (v := some (.int 1)) (Nat.le_of_ble_eq_true rfl) (mj_retZ (mj_dl lwd_23 16 rfl) rfl rfl)
  · rw [if_neg b1] at h
    refine mj_go_aload_n (k := 0) (x := 9000) rfl (mj_dl lwd_0 16 rfl) ?_
    refine mj_go_iload_n (k := 3) (x := s.1) rfl (mj_dl lwd_0 17 rfl) ?_
    obtain ⟨c2, h⟩ := mj_ck_some h
    refine mk_xld c2 (mj_dl lwd_0 18 rfl) ?_
    refine mj_go_bipush (v := 63) rfl (mj_dl lwd_0 19 rfl) ?_
    refine mj_go_iand (mj_dl lwd_0 20 rfl) ?_
    refine mj_go_tsw [(0, 191), (1, 234), (2, 307), (3, 370), (4, 404), (5, 447), (6, 470), (7, 503), (8, 536), (9, 599), (10, 642), (11, 675), (12, 708), (13, 741), (14, 784), (15, 833), (16, 866), (17, 899), (18, 922), (19, 935), (20, 968), (21, 991), (22, 1025), (23, 1059), (24, 1093), (25, 1107), (26, 1131), (27, 1144), (28, 1177), (29, 1211), (30, 1244), (31, 1278), (32, 1302), (33, 1335), (34, 1369), (35, 1393), (36, 1416), (37, 1439), (38, 1472), (39, 1495), (40, 1538), (41, 1561), (42, 1574), (43, 1587)] (by decide) (by decide) (mj_dl lwd_0 21 rfl) ?_
    refine ⟨fun b3 => ?_, fun b3 => ?_⟩
    · rw [if_pos b3] at h
      refine ⟨224, by decide, ?_⟩
      refine mj_go_aload_n (k := 1) (x := 0) rfl (mj_dl lwd_0 22 rfl) ?_
      refine mj_go_aload_n (k := 0) (x := 9000) rfl (mj_dl lwd_0 23 rfl) ?_
      refine mj_go_iload_n (k := 3) (x := s.1) rfl (mj_dl lwd_0 24 rfl) ?_
      refine mj_go_iconst (v := 1) rfl (mj_dl lwd_0 25 rfl) ?_
      refine mj_go_iadd (mj_dl lwd_0 26 rfl) ?_
      obtain ⟨c4, h⟩ := mj_ck_some h
      refine mk_xld c4 (mj_dl lwd_0 27 rfl) ?_
      refine mj_go_aload_n (k := 0) (x := 9000) rfl (mj_dl lwd_0 28 rfl) ?_
      refine mj_go_iload_n (k := 3) (x := s.1) rfl (mj_dl lwd_0 29 rfl) ?_
      refine mj_go_iconst (v := 2) rfl (mj_dl lwd_0 30 rfl) ?_
      refine mj_go_iadd (mj_dl lwd_0 31 rfl) ?_
      obtain ⟨c5, h⟩ := mj_ck_some h
      refine mk_xld c5 (mj_dl lwd_0 32 rfl) ?_
      refine mj_go_aload_n (k := 0) (x := 9000) rfl (mj_dl lwd_0 33 rfl) ?_
      refine mj_go_iload_n (k := 3) (x := s.1) rfl (mj_dl lwd_0 34 rfl) ?_
      refine mj_go_iconst (v := 3) rfl (mj_dl lwd_0 35 rfl) ?_
      refine mj_go_iadd (mj_dl lwd_0 36 rfl) ?_
      obtain ⟨c6, h⟩ := mj_ck_some h
      refine mk_xld c6 (mj_dl lwd_0 37 rfl) ?_
      obtain ⟨r7, er7, h⟩ := mj_bind_some h
      refine ml_callV (Y' := mY_X8_row) (as := [.int (xs (s.1 + 1).toNatClampNeg), .int (xs (s.1 + 2).toNatClampNeg), .int (xs (s.1 + 3).toNatClampNeg)]) (rest := []) (c := 8) (v := (some (.int r7.1))) (M1 := (mj_fin r7.2)) ho_0 rfl lm_L_13 wc_X8_row pl_X8_row ok_X8_row rfl rfl (Nat.le_of_ble_eq_true rfl) (k_X8_row (by omega) er7) (mj_dl lwd_0 38 rfl) ?_
      refine mj_go_aload_n (k := 2) (x := 95) rfl (mj_dl lwd_0 39 rfl) ?_
      refine mj_go_aload_n (k := 0) (x := 9000) rfl (mj_dl lwd_0 40 rfl) ?_
      refine mj_go_iload_n (k := 3) (x := s.1) rfl (mj_dl lwd_0 41 rfl) ?_
      refine mj_go_iconst (v := 1) rfl (mj_dl lwd_0 42 rfl) ?_
      refine mj_go_iadd (mj_dl lwd_0 43 rfl) ?_
      refine mk_xld c4 (mj_dl lwd_0 44 rfl) ?_
      refine mj_go_aload_n (k := 0) (x := 9000) rfl (mj_dl lwd_0 45 rfl) ?_
      refine mj_go_iload_n (k := 3) (x := s.1) rfl (mj_dl lwd_0 46 rfl) ?_
      refine mj_go_iconst (v := 2) rfl (mj_dl lwd_0 47 rfl) ?_
      refine mj_go_iadd (mj_dl lwd_0 48 rfl) ?_
      refine mk_xld c5 (mj_dl lwd_0 49 rfl) ?_
      refine mj_go_aload_n (k := 0) (x := 9000) rfl (mj_dl lwd_1 0 rfl) ?_
      refine mj_go_iload_n (k := 3) (x := s.1) rfl (mj_dl lwd_1 1 rfl) ?_
      refine mj_go_iconst (v := 3) rfl (mj_dl lwd_1 2 rfl) ?_
      refine mj_go_iadd (mj_dl lwd_1 3 rfl) ?_
      refine mk_xld c6 (mj_dl lwd_1 4 rfl) ?_
      obtain ⟨r8, er8, h⟩ := mj_bind_some h
      refine ml_callV (Y' := mY_X9_row) (as := [.int (xs (s.1 + 1).toNatClampNeg), .int (xs (s.1 + 2).toNatClampNeg), .int (xs (s.1 + 3).toNatClampNeg)]) (rest := [.int r7.1]) (c := 9) (v := (some (.int r8.1))) (M1 := (mj_fin r8.2)) ho_95 rfl lm_L_17 wc_X9_row pl_X9_row ok_X9_row rfl rfl (Nat.le_of_ble_eq_true rfl) (k_X9_row (by omega) er8) (mj_dl lwd_1 5 rfl) ?_
      refine mj_go_icmp_eq (tgt := 1643) rfl (mj_dl lwd_1 6 rfl) (fun b9 => ?_) (fun b9 => ?_)
      · rw [if_pos b9] at h
        refine mj_go_sub (lv' := [(0, .ref 9000), (1, .ref 0), (2, .ref 95), (3, .int s.1)]) (List.forall_mem_cons.mpr ⟨rfl, (List.forall_mem_cons.mpr ⟨rfl, (List.forall_mem_cons.mpr ⟨rfl, (List.forall_mem_cons.mpr ⟨rfl, (fun _ h9 => absurd h9 List.not_mem_nil)⟩)⟩)⟩)⟩) ?_
        exact k_L_law_1643 q_18 hδ h
      · rw [if_neg b9] at h
        refine mj_go_iconst (v := 0) rfl (mj_dl lwd_1 7 rfl) ?_
        obtain rfl := Option.some.inj h
        exact mj_go_ret (v := some (.int 0)) (Nat.le_of_ble_eq_true rfl) (mj_retZ (mj_dl lwd_1 8 rfl) rfl rfl)
    · rw [if_neg b3] at h
      refine ⟨fun b4 => ?_, fun b4 => ?_⟩
      · rw [if_pos b4] at h
        refine ⟨267, by decide, ?_⟩
        refine mj_go_aload_n (k := 1) (x := 0) rfl (mj_dl lwd_1 9 rfl) ?_
        refine mj_go_aload_n (k := 0) (x := 9000) rfl (mj_dl lwd_1 10 rfl) ?_
        refine mj_go_iload_n (k := 3) (x := s.1) rfl (mj_dl lwd_1 11 rfl) ?_
        refine mj_go_iconst (v := 1) rfl (mj_dl lwd_1 12 rfl) ?_
        refine mj_go_iadd (mj_dl lwd_1 13 rfl) ?_
        obtain ⟨c5, h⟩ := mj_ck_some h
        refine mk_xld c5 (mj_dl lwd_1 14 rfl) ?_
        refine mj_go_aload_n (k := 0) (x := 9000) rfl (mj_dl lwd_1 15 rfl) ?_
        refine mj_go_iload_n (k := 3) (x := s.1) rfl (mj_dl lwd_1 16 rfl) ?_
        refine mj_go_iconst (v := 2) rfl (mj_dl lwd_1 17 rfl) ?_
        refine mj_go_iadd (mj_dl lwd_1 18 rfl) ?_
        obtain ⟨c6, h⟩ := mj_ck_some h
        refine mk_xld c6 (mj_dl lwd_1 19 rfl) ?_
        refine mj_go_aload_n (k := 0) (x := 9000) rfl (mj_dl lwd_1 20 rfl) ?_
        refine mj_go_iload_n (k := 3) (x := s.1) rfl (mj_dl lwd_1 21 rfl) ?_
        refine mj_go_iconst (v := 3) rfl (mj_dl lwd_1 22 rfl) ?_
        refine mj_go_iadd (mj_dl lwd_1 23 rfl) ?_
        obtain ⟨c7, h⟩ := mj_ck_some h
        refine mk_xld c7 (mj_dl lwd_1 24 rfl) ?_
        refine mj_go_i2l (mj_dl lwd_1 25 rfl) ?_
        refine mj_go_bipush (v := 32) rfl (mj_dl lwd_1 26 rfl) ?_
        refine mj_go_lshl (mj_dl lwd_1 27 rfl) ?_
        refine mj_go_aload_n (k := 0) (x := 9000) rfl (mj_dl lwd_1 28 rfl) ?_
        refine mj_go_iload_n (k := 3) (x := s.1) rfl (mj_dl lwd_1 29 rfl) ?_
        refine mj_go_iconst (v := 4) rfl (mj_dl lwd_1 30 rfl) ?_
        refine mj_go_iadd (mj_dl lwd_1 31 rfl) ?_
        obtain ⟨c8, h⟩ := mj_ck_some h
        refine mk_xld c8 (mj_dl lwd_1 32 rfl) ?_
        refine mj_go_i2l (mj_dl lwd_1 33 rfl) ?_
        refine mj_go_ldc2 (v := 4294967295) cl_L_18 (mj_dl lwd_1 34 rfl) ?_
        refine mj_go_land (mj_dl lwd_1 35 rfl) ?_
        refine mj_go_lor (mj_dl lwd_1 36 rfl) ?_
        obtain ⟨r9, er9, h⟩ := mj_bind_some h
        refine ml_callV (Y' := mY_X8_set) (as := [.int (xs (s.1 + 1).toNatClampNeg), .int (xs (s.1 + 2).toNatClampNeg), .long ((((xs (s.1 + 3).toNatClampNeg).toInt64) <<< ((32 : Int32).toInt64 &&& 63)) ||| (((xs (s.1 + 4).toNatClampNeg).toInt64) &&& 4294967295))]) (rest := []) (c := 8) (v := (some (.int r9.1))) (M1 := (mj_fin r9.2)) ho_0 rfl lm_L_20 wc_X8_set pl_X8_set ok_X8_set rfl rfl (Nat.le_of_ble_eq_true rfl) (k_X8_set (by omega) er9) (mj_dl lwd_1 37 rfl) ?_
        refine mj_go_aload_n (k := 2) (x := 95) rfl (mj_dl lwd_1 38 rfl) ?_
        refine mj_go_aload_n (k := 0) (x := 9000) rfl (mj_dl lwd_1 39 rfl) ?_
        refine mj_go_iload_n (k := 3) (x := s.1) rfl (mj_dl lwd_1 40 rfl) ?_
        refine mj_go_iconst (v := 1) rfl (mj_dl lwd_1 41 rfl) ?_
        refine mj_go_iadd (mj_dl lwd_1 42 rfl) ?_
        refine mk_xld c5 (mj_dl lwd_1 43 rfl) ?_
        refine mj_go_aload_n (k := 0) (x := 9000) rfl (mj_dl lwd_1 44 rfl) ?_
        refine mj_go_iload_n (k := 3) (x := s.1) rfl (mj_dl lwd_1 45 rfl) ?_
        refine mj_go_iconst (v := 2) rfl (mj_dl lwd_1 46 rfl) ?_
        refine mj_go_iadd (mj_dl lwd_1 47 rfl) ?_
        refine mk_xld c6 (mj_dl lwd_1 48 rfl) ?_
        refine mj_go_aload_n (k := 0) (x := 9000) rfl (mj_dl lwd_1 49 rfl) ?_
        refine mj_go_iload_n (k := 3) (x := s.1) rfl (mj_dl lwd_2 0 rfl) ?_
        refine mj_go_iconst (v := 3) rfl (mj_dl lwd_2 1 rfl) ?_
        refine mj_go_iadd (mj_dl lwd_2 2 rfl) ?_
        refine mk_xld c7 (mj_dl lwd_2 3 rfl) ?_
        refine mj_go_i2l (mj_dl lwd_2 4 rfl) ?_
        refine mj_go_bipush (v := 32) rfl (mj_dl lwd_2 5 rfl) ?_
        refine mj_go_lshl (mj_dl lwd_2 6 rfl) ?_
        refine mj_go_aload_n (k := 0) (x := 9000) rfl (mj_dl lwd_2 7 rfl) ?_
        refine mj_go_iload_n (k := 3) (x := s.1) rfl (mj_dl lwd_2 8 rfl) ?_
        refine mj_go_iconst (v := 4) rfl (mj_dl lwd_2 9 rfl) ?_
        refine mj_go_iadd (mj_dl lwd_2 10 rfl) ?_
        refine mk_xld c8 (mj_dl lwd_2 11 rfl) ?_
        refine mj_go_i2l (mj_dl lwd_2 12 rfl) ?_
        refine mj_go_ldc2 (v := 4294967295) cl_L_18 (mj_dl lwd_2 13 rfl) ?_
        refine mj_go_land (mj_dl lwd_2 14 rfl) ?_
        refine mj_go_lor (mj_dl lwd_2 15 rfl) ?_
        obtain ⟨r10, er10, h⟩ := mj_bind_some h
        refine ml_callV (Y' := mY_X9_set) (as := [.int (xs (s.1 + 1).toNatClampNeg), .int (xs (s.1 + 2).toNatClampNeg), .long ((((xs (s.1 + 3).toNatClampNeg).toInt64) <<< ((32 : Int32).toInt64 &&& 63)) ||| (((xs (s.1 + 4).toNatClampNeg).toInt64) &&& 4294967295))]) (rest := [.int r9.1]) (c := 9) (v := (some (.int r10.1))) (M1 := (mj_fin r10.2)) ho_95 rfl lm_L_24 wc_X9_set pl_X9_set ok_X9_set rfl rfl (Nat.le_of_ble_eq_true rfl) (k_X9_set (by omega) er10) (mj_dl lwd_2 16 rfl) ?_
        refine mj_go_icmp_eq (tgt := 1643) rfl (mj_dl lwd_2 17 rfl) (fun b11 => ?_) (fun b11 => ?_)
        · rw [if_pos b11] at h
          refine mj_go_sub (lv' := [(0, .ref 9000), (1, .ref 0), (2, .ref 95), (3, .int s.1)]) (List.forall_mem_cons.mpr ⟨rfl, (List.forall_mem_cons.mpr ⟨rfl, (List.forall_mem_cons.mpr ⟨rfl, (List.forall_mem_cons.mpr ⟨rfl, (fun _ h9 => absurd h9 List.not_mem_nil)⟩)⟩)⟩)⟩) ?_
          exact k_L_law_1643 q_18 hδ h
        · rw [if_neg b11] at h
          refine mj_go_iconst (v := 0) rfl (mj_dl lwd_2 18 rfl) ?_
          obtain rfl := Option.some.inj h
          exact mj_go_ret (v := some (.int 0)) (Nat.le_of_ble_eq_true rfl) (mj_retZ (mj_dl lwd_2 19 rfl) rfl rfl)
      · rw [if_neg b4] at h
        refine ⟨fun b5 => ?_, fun b5 => ?_⟩
        · rw [if_pos b5] at h
          refine ⟨340, by decide, ?_⟩
          refine mj_go_aload_n (k := 1) (x := 0) rfl (mj_dl lwd_2 20 rfl) ?_
          refine mj_go_aload_n (k := 0) (x := 9000) rfl (mj_dl lwd_2 21 rfl) ?_
          refine mj_go_iload_n (k := 3) (x := s.1) rfl (mj_dl lwd_2 22 rfl) ?_
          refine mj_go_iconst (v := 1) rfl (mj_dl lwd_2 23 rfl) ?_
          refine mj_go_iadd (mj_dl lwd_2 24 rfl) ?_
          obtain ⟨c6, h⟩ := mj_ck_some h
          refine mk_xld c6 (mj_dl lwd_2 25 rfl) ?_
          refine mj_go_aload_n (k := 0) (x := 9000) rfl (mj_dl lwd_2 26 rfl) ?_
          refine mj_go_iload_n (k := 3) (x := s.1) rfl (mj_dl lwd_2 27 rfl) ?_
          refine mj_go_iconst (v := 2) rfl (mj_dl lwd_2 28 rfl) ?_
          refine mj_go_iadd (mj_dl lwd_2 29 rfl) ?_
          obtain ⟨c7, h⟩ := mj_ck_some h
          refine mk_xld c7 (mj_dl lwd_2 30 rfl) ?_
          refine mj_go_aload_n (k := 0) (x := 9000) rfl (mj_dl lwd_2 31 rfl) ?_
          refine mj_go_iload_n (k := 3) (x := s.1) rfl (mj_dl lwd_2 32 rfl) ?_
          refine mj_go_iconst (v := 3) rfl (mj_dl lwd_2 33 rfl) ?_
          refine mj_go_iadd (mj_dl lwd_2 34 rfl) ?_
          obtain ⟨c8, h⟩ := mj_ck_some h
          refine mk_xld c8 (mj_dl lwd_2 35 rfl) ?_
          refine mj_go_aload_n (k := 0) (x := 9000) rfl (mj_dl lwd_2 36 rfl) ?_
          refine mj_go_iload_n (k := 3) (x := s.1) rfl (mj_dl lwd_2 37 rfl) ?_
          refine mj_go_iconst (v := 4) rfl (mj_dl lwd_2 38 rfl) ?_
          refine mj_go_iadd (mj_dl lwd_2 39 rfl) ?_
          obtain ⟨c9, h⟩ := mj_ck_some h
          refine mk_xld c9 (mj_dl lwd_2 40 rfl) ?_
          refine mj_go_aload_n (k := 0) (x := 9000) rfl (mj_dl lwd_2 41 rfl) ?_
          refine mj_go_iload_n (k := 3) (x := s.1) rfl (mj_dl lwd_2 42 rfl) ?_
          refine mj_go_iconst (v := 5) rfl (mj_dl lwd_2 43 rfl) ?_
          refine mj_go_iadd (mj_dl lwd_2 44 rfl) ?_
          obtain ⟨c10, h⟩ := mj_ck_some h
          refine mk_xld c10 (mj_dl lwd_2 45 rfl) ?_
          obtain ⟨r11, er11, h⟩ := mj_bind_some h
          refine ml_callV (Y' := mY_X8_copy) (as := [.int (xs (s.1 + 1).toNatClampNeg), .int (xs (s.1 + 2).toNatClampNeg), .int (xs (s.1 + 3).toNatClampNeg), .int (xs (s.1 + 4).toNatClampNeg), .int (xs (s.1 + 5).toNatClampNeg)]) (rest := []) (c := 8) (v := (some (.int r11.1))) (M1 := (mj_fin r11.2)) ho_0 rfl lm_L_25 wc_X8_copy pl_X8_copy ok_X8_copy rfl rfl (Nat.le_of_ble_eq_true rfl) (k_X8_copy (by omega) er11) (mj_dl lwd_2 46 rfl) ?_
          refine mj_go_aload_n (k := 2) (x := 95) rfl (mj_dl lwd_2 47 rfl) ?_
          refine mj_go_aload_n (k := 0) (x := 9000) rfl (mj_dl lwd_2 48 rfl) ?_
          refine mj_go_iload_n (k := 3) (x := s.1) rfl (mj_dl lwd_2 49 rfl) ?_
          refine mj_go_iconst (v := 1) rfl (mj_dl lwd_3 0 rfl) ?_
          refine mj_go_iadd (mj_dl lwd_3 1 rfl) ?_
          refine mk_xld c6 (mj_dl lwd_3 2 rfl) ?_
          refine mj_go_aload_n (k := 0) (x := 9000) rfl (mj_dl lwd_3 3 rfl) ?_
          refine mj_go_iload_n (k := 3) (x := s.1) rfl (mj_dl lwd_3 4 rfl) ?_
          refine mj_go_iconst (v := 2) rfl (mj_dl lwd_3 5 rfl) ?_
          refine mj_go_iadd (mj_dl lwd_3 6 rfl) ?_
          refine mk_xld c7 (mj_dl lwd_3 7 rfl) ?_
          refine mj_go_aload_n (k := 0) (x := 9000) rfl (mj_dl lwd_3 8 rfl) ?_
          refine mj_go_iload_n (k := 3) (x := s.1) rfl (mj_dl lwd_3 9 rfl) ?_
          refine mj_go_iconst (v := 3) rfl (mj_dl lwd_3 10 rfl) ?_
          refine mj_go_iadd (mj_dl lwd_3 11 rfl) ?_
          refine mk_xld c8 (mj_dl lwd_3 12 rfl) ?_
          refine mj_go_aload_n (k := 0) (x := 9000) rfl (mj_dl lwd_3 13 rfl) ?_
          refine mj_go_iload_n (k := 3) (x := s.1) rfl (mj_dl lwd_3 14 rfl) ?_
          refine mj_go_iconst (v := 4) rfl (mj_dl lwd_3 15 rfl) ?_
          refine mj_go_iadd (mj_dl lwd_3 16 rfl) ?_
          refine mk_xld c9 (mj_dl lwd_3 17 rfl) ?_
          refine mj_go_aload_n (k := 0) (x := 9000) rfl (mj_dl lwd_3 18 rfl) ?_
          refine mj_go_iload_n (k := 3) (x := s.1) rfl (mj_dl lwd_3 19 rfl) ?_
          refine mj_go_iconst (v := 5) rfl (mj_dl lwd_3 20 rfl) ?_
          refine mj_go_iadd (mj_dl lwd_3 21 rfl) ?_
          refine mk_xld c10 (mj_dl lwd_3 22 rfl) ?_
          obtain ⟨r12, er12, h⟩ := mj_bind_some h
          refine ml_callV (Y' := mY_X9_copy) (as := [.int (xs (s.1 + 1).toNatClampNeg), .int (xs (s.1 + 2).toNatClampNeg), .int (xs (s.1 + 3).toNatClampNeg), .int (xs (s.1 + 4).toNatClampNeg), .int (xs (s.1 + 5).toNatClampNeg)]) (rest := [.int r11.1]) (c := 9) (v := (some (.int r12.1))) (M1 := (mj_fin r12.2)) ho_95 rfl lm_L_29 wc_X9_copy pl_X9_copy ok_X9_copy rfl rfl (Nat.le_of_ble_eq_true rfl) (k_X9_copy (by omega) er12) (mj_dl lwd_3 23 rfl) ?_
          refine mj_go_icmp_eq (tgt := 1643) rfl (mj_dl lwd_3 24 rfl) (fun b13 => ?_) (fun b13 => ?_)
          · rw [if_pos b13] at h
            refine mj_go_sub (lv' := [(0, .ref 9000), (1, .ref 0), (2, .ref 95), (3, .int s.1)]) (List.forall_mem_cons.mpr ⟨rfl, (List.forall_mem_cons.mpr ⟨rfl, (List.forall_mem_cons.mpr ⟨rfl, (List.forall_mem_cons.mpr ⟨rfl, (fun _ h9 => absurd h9 List.not_mem_nil)⟩)⟩)⟩)⟩) ?_
            exact k_L_law_1643 q_18 hδ h
          · rw [if_neg b13] at h
            refine mj_go_iconst (v := 0) rfl (mj_dl lwd_3 25 rfl) ?_
            obtain rfl := Option.some.inj h
            exact mj_go_ret (v := some (.int 0)) (Nat.le_of_ble_eq_true rfl) (mj_retZ (mj_dl lwd_3 26 rfl) rfl rfl)
        · rw [if_neg b5] at h
          refine ⟨fun b6 => ?_, fun b6 => ?_⟩
          · rw [if_pos b6] at h
            refine ⟨403, by decide, ?_⟩
            refine mj_go_aload_n (k := 1) (x := 0) rfl (mj_dl lwd_3 27 rfl) ?_
            refine mj_go_aload_n (k := 0) (x := 9000) rfl (mj_dl lwd_3 28 rfl) ?_
            refine mj_go_iload_n (k := 3) (x := s.1) rfl (mj_dl lwd_3 29 rfl) ?_
            refine mj_go_iconst (v := 1) rfl (mj_dl lwd_3 30 rfl) ?_
            refine mj_go_iadd (mj_dl lwd_3 31 rfl) ?_
            obtain ⟨c7, h⟩ := mj_ck_some h
            refine mk_xld c7 (mj_dl lwd_3 32 rfl) ?_
            refine mj_go_aload_n (k := 0) (x := 9000) rfl (mj_dl lwd_3 33 rfl) ?_
            refine mj_go_iload_n (k := 3) (x := s.1) rfl (mj_dl lwd_3 34 rfl) ?_
            refine mj_go_iconst (v := 2) rfl (mj_dl lwd_3 35 rfl) ?_
            refine mj_go_iadd (mj_dl lwd_3 36 rfl) ?_
            obtain ⟨c8, h⟩ := mj_ck_some h
            refine mk_xld c8 (mj_dl lwd_3 37 rfl) ?_
            obtain ⟨r9, er9, h⟩ := mj_bind_some h
            refine ml_callV (Y' := mY_X8_element) (as := [.int (xs (s.1 + 1).toNatClampNeg), .int (xs (s.1 + 2).toNatClampNeg)]) (rest := []) (c := 8) (v := (some (.long r9))) (M1 := (mj_fin s.2)) ho_0 rfl lm_L_30 wc_X8_element pl_X8_element ok_X8_element rfl rfl (Nat.le_of_ble_eq_true rfl) (k_X8_element (by omega) er9) (mj_dl lwd_3 38 rfl) ?_
            refine mj_go_aload_n (k := 2) (x := 95) rfl (mj_dl lwd_3 39 rfl) ?_
            refine mj_go_aload_n (k := 0) (x := 9000) rfl (mj_dl lwd_3 40 rfl) ?_
            refine mj_go_iload_n (k := 3) (x := s.1) rfl (mj_dl lwd_3 41 rfl) ?_
            refine mj_go_iconst (v := 1) rfl (mj_dl lwd_3 42 rfl) ?_
            refine mj_go_iadd (mj_dl lwd_3 43 rfl) ?_
            refine mk_xld c7 (mj_dl lwd_3 44 rfl) ?_
            refine mj_go_aload_n (k := 0) (x := 9000) rfl (mj_dl lwd_3 45 rfl) ?_
            refine mj_go_iload_n (k := 3) (x := s.1) rfl (mj_dl lwd_3 46 rfl) ?_
            refine mj_go_iconst (v := 2) rfl (mj_dl lwd_3 47 rfl) ?_
            refine mj_go_iadd (mj_dl lwd_3 48 rfl) ?_
            refine mk_xld c8 (mj_dl lwd_3 49 rfl) ?_
            obtain ⟨r10, er10, h⟩ := mj_bind_some h
            refine ml_callV (Y' := mY_X9_element) (as := [.int (xs (s.1 + 1).toNatClampNeg), .int (xs (s.1 + 2).toNatClampNeg)]) (rest := [.long r9]) (c := 9) (v := (some (.long r10))) (M1 := (mj_fin s.2)) ho_95 rfl lm_L_34 wc_X9_element pl_X9_element ok_X9_element rfl rfl (Nat.le_of_ble_eq_true rfl) (k_X9_element (by omega) er10) (mj_dl lwd_4 0 rfl) ?_
            refine mj_go_lcmp (mj_dl lwd_4 1 rfl) ?_
            refine mj_go_if_eq (tgt := 1643) rfl (mj_dl lwd_4 2 rfl) (fun b11 => ?_) (fun b11 => ?_)
            · rw [if_pos b11] at h
              refine mj_go_sub (lv' := [(0, .ref 9000), (1, .ref 0), (2, .ref 95), (3, .int s.1)]) (List.forall_mem_cons.mpr ⟨rfl, (List.forall_mem_cons.mpr ⟨rfl, (List.forall_mem_cons.mpr ⟨rfl, (List.forall_mem_cons.mpr ⟨rfl, (fun _ h9 => absurd h9 List.not_mem_nil)⟩)⟩)⟩)⟩) ?_
              exact k_L_law_1643 q_18 hδ h
            · rw [if_neg b11] at h
              refine mj_go_iconst (v := 0) rfl (mj_dl lwd_4 3 rfl) ?_
              obtain rfl := Option.some.inj h
              exact mj_go_ret (v := some (.int 0)) (Nat.le_of_ble_eq_true rfl) (mj_retZ (mj_dl lwd_4 4 rfl) rfl rfl)
          · rw [if_neg b6] at h
            refine ⟨fun b7 => ?_, fun b7 => ?_⟩
            · rw [if_pos b7] at h
              refine ⟨437, by decide, ?_⟩
              refine mj_go_aload_n (k := 1) (x := 0) rfl (mj_dl lwd_4 5 rfl) ?_
              refine mj_go_aload_n (k := 0) (x := 9000) rfl (mj_dl lwd_4 6 rfl) ?_
              refine mj_go_iload_n (k := 3) (x := s.1) rfl (mj_dl lwd_4 7 rfl) ?_
              refine mj_go_iconst (v := 1) rfl (mj_dl lwd_4 8 rfl) ?_
              refine mj_go_iadd (mj_dl lwd_4 9 rfl) ?_
              obtain ⟨c8, h⟩ := mj_ck_some h
              refine mk_xld c8 (mj_dl lwd_4 10 rfl) ?_
              refine mj_go_aload_n (k := 0) (x := 9000) rfl (mj_dl lwd_4 11 rfl) ?_
              refine mj_go_iload_n (k := 3) (x := s.1) rfl (mj_dl lwd_4 12 rfl) ?_
              refine mj_go_iconst (v := 2) rfl (mj_dl lwd_4 13 rfl) ?_
              refine mj_go_iadd (mj_dl lwd_4 14 rfl) ?_
              obtain ⟨c9, h⟩ := mj_ck_some h
              refine mk_xld c9 (mj_dl lwd_4 15 rfl) ?_
              refine mj_go_aload_n (k := 0) (x := 9000) rfl (mj_dl lwd_4 16 rfl) ?_
              refine mj_go_iload_n (k := 3) (x := s.1) rfl (mj_dl lwd_4 17 rfl) ?_
              refine mj_go_iconst (v := 3) rfl (mj_dl lwd_4 18 rfl) ?_
              refine mj_go_iadd (mj_dl lwd_4 19 rfl) ?_
              obtain ⟨c10, h⟩ := mj_ck_some h
              refine mk_xld c10 (mj_dl lwd_4 20 rfl) ?_
              obtain ⟨r11, er11, h⟩ := mj_bind_some h
              refine ml_callV (Y' := mY_X8_rule) (as := [.int (xs (s.1 + 1).toNatClampNeg), .int (xs (s.1 + 2).toNatClampNeg), .int (xs (s.1 + 3).toNatClampNeg)]) (rest := []) (c := 8) (v := (some (.int r11.1))) (M1 := (mj_fin r11.2)) ho_0 rfl lm_L_35 wc_X8_rule pl_X8_rule ok_X8_rule rfl rfl (Nat.le_of_ble_eq_true rfl) (k_X8_rule (by omega) er11) (mj_dl lwd_4 21 rfl) ?_
              refine mj_go_aload_n (k := 2) (x := 95) rfl (mj_dl lwd_4 22 rfl) ?_
              refine mj_go_aload_n (k := 0) (x := 9000) rfl (mj_dl lwd_4 23 rfl) ?_
              refine mj_go_iload_n (k := 3) (x := s.1) rfl (mj_dl lwd_4 24 rfl) ?_
              refine mj_go_iconst (v := 1) rfl (mj_dl lwd_4 25 rfl) ?_
              refine mj_go_iadd (mj_dl lwd_4 26 rfl) ?_
              refine mk_xld c8 (mj_dl lwd_4 27 rfl) ?_
              refine mj_go_aload_n (k := 0) (x := 9000) rfl (mj_dl lwd_4 28 rfl) ?_
              refine mj_go_iload_n (k := 3) (x := s.1) rfl (mj_dl lwd_4 29 rfl) ?_
              refine mj_go_iconst (v := 2) rfl (mj_dl lwd_4 30 rfl) ?_
              refine mj_go_iadd (mj_dl lwd_4 31 rfl) ?_
              refine mk_xld c9 (mj_dl lwd_4 32 rfl) ?_
              refine mj_go_aload_n (k := 0) (x := 9000) rfl (mj_dl lwd_4 33 rfl) ?_
              refine mj_go_iload_n (k := 3) (x := s.1) rfl (mj_dl lwd_4 34 rfl) ?_
              refine mj_go_iconst (v := 3) rfl (mj_dl lwd_4 35 rfl) ?_
              refine mj_go_iadd (mj_dl lwd_4 36 rfl) ?_
              refine mk_xld c10 (mj_dl lwd_4 37 rfl) ?_
              obtain ⟨r12, er12, h⟩ := mj_bind_some h
              refine ml_callV (Y' := mY_X9_rule) (as := [.int (xs (s.1 + 1).toNatClampNeg), .int (xs (s.1 + 2).toNatClampNeg), .int (xs (s.1 + 3).toNatClampNeg)]) (rest := [.int r11.1]) (c := 9) (v := (some (.int r12.1))) (M1 := (mj_fin r12.2)) ho_95 rfl lm_L_38 wc_X9_rule pl_X9_rule ok_X9_rule rfl rfl (Nat.le_of_ble_eq_true rfl) (k_X9_rule (by omega) er12) (mj_dl lwd_4 38 rfl) ?_
              refine mj_go_icmp_eq (tgt := 1643) rfl (mj_dl lwd_4 39 rfl) (fun b13 => ?_) (fun b13 => ?_)
              · rw [if_pos b13] at h
                refine mj_go_sub (lv' := [(0, .ref 9000), (1, .ref 0), (2, .ref 95), (3, .int s.1)]) (List.forall_mem_cons.mpr ⟨rfl, (List.forall_mem_cons.mpr ⟨rfl, (List.forall_mem_cons.mpr ⟨rfl, (List.forall_mem_cons.mpr ⟨rfl, (fun _ h9 => absurd h9 List.not_mem_nil)⟩)⟩)⟩)⟩) ?_
                exact k_L_law_1643 q_18 hδ h
              · rw [if_neg b13] at h
                refine mj_go_iconst (v := 0) rfl (mj_dl lwd_4 40 rfl) ?_
                obtain rfl := Option.some.inj h
                exact mj_go_ret (v := some (.int 0)) (Nat.le_of_ble_eq_true rfl) (mj_retZ (mj_dl lwd_4 41 rfl) rfl rfl)
            · rw [if_neg b7] at h
              refine ⟨fun b8 => ?_, fun b8 => ?_⟩
              · rw [if_pos b8] at h
                refine ⟨480, by decide, ?_⟩
                refine mj_go_aload_n (k := 1) (x := 0) rfl (mj_dl lwd_4 42 rfl) ?_
                refine mj_go_aload_n (k := 0) (x := 9000) rfl (mj_dl lwd_4 43 rfl) ?_
                refine mj_go_iload_n (k := 3) (x := s.1) rfl (mj_dl lwd_4 44 rfl) ?_
                refine mj_go_iconst (v := 1) rfl (mj_dl lwd_4 45 rfl) ?_
                refine mj_go_iadd (mj_dl lwd_4 46 rfl) ?_
                obtain ⟨c9, h⟩ := mj_ck_some h
                refine mk_xld c9 (mj_dl lwd_4 47 rfl) ?_
                obtain ⟨r10, er10, h⟩ := mj_bind_some h
                refine ml_callV (Y' := mY_X8_holds) (as := [.int (xs (s.1 + 1).toNatClampNeg)]) (rest := []) (c := 8) (v := (some (.int r10))) (M1 := (mj_fin s.2)) ho_0 rfl lm_L_39 wc_X8_holds pl_X8_holds ok_X8_holds rfl rfl (Nat.le_of_ble_eq_true rfl) (k_X8_holds (by omega) er10) (mj_dl lwd_4 48 rfl) ?_
                refine mj_go_aload_n (k := 2) (x := 95) rfl (mj_dl lwd_4 49 rfl) ?_
                refine mj_go_aload_n (k := 0) (x := 9000) rfl (mj_dl lwd_5 0 rfl) ?_
                refine mj_go_iload_n (k := 3) (x := s.1) rfl (mj_dl lwd_5 1 rfl) ?_
                refine mj_go_iconst (v := 1) rfl (mj_dl lwd_5 2 rfl) ?_
                refine mj_go_iadd (mj_dl lwd_5 3 rfl) ?_
                refine mk_xld c9 (mj_dl lwd_5 4 rfl) ?_
                obtain ⟨r11, er11, h⟩ := mj_bind_some h
                refine ml_callV (Y' := mY_X9_holds) (as := [.int (xs (s.1 + 1).toNatClampNeg)]) (rest := [.int r10]) (c := 9) (v := (some (.int r11))) (M1 := (mj_fin s.2)) ho_95 rfl lm_L_43 wc_X9_holds pl_X9_holds ok_X9_holds rfl rfl (Nat.le_of_ble_eq_true rfl) (k_X9_holds (by omega) er11) (mj_dl lwd_5 5 rfl) ?_
                refine mj_go_icmp_eq (tgt := 1643) rfl (mj_dl lwd_5 6 rfl) (fun b12 => ?_) (fun b12 => ?_)
                · rw [if_pos b12] at h
                  refine mj_go_sub (lv' := [(0, .ref 9000), (1, .ref 0), (2, .ref 95), (3, .int s.1)]) (List.forall_mem_cons.mpr ⟨rfl, (List.forall_mem_cons.mpr ⟨rfl, (List.forall_mem_cons.mpr ⟨rfl, (List.forall_mem_cons.mpr ⟨rfl, (fun _ h9 => absurd h9 List.not_mem_nil)⟩)⟩)⟩)⟩) ?_
                  exact k_L_law_1643 q_18 hδ h
                · rw [if_neg b12] at h
                  refine mj_go_iconst (v := 0) rfl (mj_dl lwd_5 7 rfl) ?_
                  obtain rfl := Option.some.inj h
                  exact mj_go_ret (v := some (.int 0)) (Nat.le_of_ble_eq_true rfl) (mj_retZ (mj_dl lwd_5 8 rfl) rfl rfl)
              · rw [if_neg b8] at h
                refine ⟨fun b9 => ?_, fun b9 => ?_⟩
                · rw [if_pos b9] at h
                  refine ⟨503, by decide, ?_⟩
                  refine mj_go_aload_n (k := 1) (x := 0) rfl (mj_dl lwd_5 9 rfl) ?_
                  refine mj_go_aload_n (k := 0) (x := 9000) rfl (mj_dl lwd_5 10 rfl) ?_
                  refine mj_go_iload_n (k := 3) (x := s.1) rfl (mj_dl lwd_5 11 rfl) ?_
                  refine mj_go_iconst (v := 1) rfl (mj_dl lwd_5 12 rfl) ?_
                  refine mj_go_iadd (mj_dl lwd_5 13 rfl) ?_
                  obtain ⟨c10, h⟩ := mj_ck_some h
                  refine mk_xld c10 (mj_dl lwd_5 14 rfl) ?_
                  refine mj_go_aload_n (k := 0) (x := 9000) rfl (mj_dl lwd_5 15 rfl) ?_
                  refine mj_go_iload_n (k := 3) (x := s.1) rfl (mj_dl lwd_5 16 rfl) ?_
                  refine mj_go_iconst (v := 2) rfl (mj_dl lwd_5 17 rfl) ?_
                  refine mj_go_iadd (mj_dl lwd_5 18 rfl) ?_
                  obtain ⟨c11, h⟩ := mj_ck_some h
                  refine mk_xld c11 (mj_dl lwd_5 19 rfl) ?_
                  obtain ⟨r12, er12, h⟩ := mj_bind_some h
                  refine ml_callV (Y' := mY_X8_says) (as := [.int (xs (s.1 + 1).toNatClampNeg), .int (xs (s.1 + 2).toNatClampNeg)]) (rest := []) (c := 8) (v := (some (.int r12.1))) (M1 := (mj_fin r12.2)) ho_0 rfl lm_L_44 wc_X8_says pl_X8_says ok_X8_says rfl rfl (Nat.le_of_ble_eq_true rfl) (k_X8_says (by omega) er12) (mj_dl lwd_5 20 rfl) ?_
                  refine mj_go_aload_n (k := 2) (x := 95) rfl (mj_dl lwd_5 21 rfl) ?_
                  refine mj_go_aload_n (k := 0) (x := 9000) rfl (mj_dl lwd_5 22 rfl) ?_
                  refine mj_go_iload_n (k := 3) (x := s.1) rfl (mj_dl lwd_5 23 rfl) ?_
                  refine mj_go_iconst (v := 1) rfl (mj_dl lwd_5 24 rfl) ?_
                  refine mj_go_iadd (mj_dl lwd_5 25 rfl) ?_
                  refine mk_xld c10 (mj_dl lwd_5 26 rfl) ?_
                  refine mj_go_aload_n (k := 0) (x := 9000) rfl (mj_dl lwd_5 27 rfl) ?_
                  refine mj_go_iload_n (k := 3) (x := s.1) rfl (mj_dl lwd_5 28 rfl) ?_
                  refine mj_go_iconst (v := 2) rfl (mj_dl lwd_5 29 rfl) ?_
                  refine mj_go_iadd (mj_dl lwd_5 30 rfl) ?_
                  refine mk_xld c11 (mj_dl lwd_5 31 rfl) ?_
                  obtain ⟨r13, er13, h⟩ := mj_bind_some h
                  refine ml_callV (Y' := mY_X9_says) (as := [.int (xs (s.1 + 1).toNatClampNeg), .int (xs (s.1 + 2).toNatClampNeg)]) (rest := [.int r12.1]) (c := 9) (v := (some (.int r13.1))) (M1 := (mj_fin r13.2)) ho_95 rfl lm_L_48 wc_X9_says pl_X9_says ok_X9_says rfl rfl (Nat.le_of_ble_eq_true rfl) (k_X9_says (by omega) er13) (mj_dl lwd_5 32 rfl) ?_
                  refine mj_go_icmp_eq (tgt := 1643) rfl (mj_dl lwd_5 33 rfl) (fun b14 => ?_) (fun b14 => ?_)
                  · rw [if_pos b14] at h
                    refine mj_go_sub (lv' := [(0, .ref 9000), (1, .ref 0), (2, .ref 95), (3, .int s.1)]) (List.forall_mem_cons.mpr ⟨rfl, (List.forall_mem_cons.mpr ⟨rfl, (List.forall_mem_cons.mpr ⟨rfl, (List.forall_mem_cons.mpr ⟨rfl, (fun _ h9 => absurd h9 List.not_mem_nil)⟩)⟩)⟩)⟩) ?_
                    exact k_L_law_1643 q_18 hδ h
                  · rw [if_neg b14] at h
                    refine mj_go_iconst (v := 0) rfl (mj_dl lwd_5 34 rfl) ?_
                    obtain rfl := Option.some.inj h
                    exact mj_go_ret (v := some (.int 0)) (Nat.le_of_ble_eq_true rfl) (mj_retZ (mj_dl lwd_5 35 rfl) rfl rfl)
                · rw [if_neg b9] at h
                  refine ⟨fun b10 => ?_, fun b10 => ?_⟩
                  · rw [if_pos b10] at h
                    refine ⟨536, by decide, ?_⟩
                    refine mj_go_aload_n (k := 1) (x := 0) rfl (mj_dl lwd_5 36 rfl) ?_
                    refine mj_go_aload_n (k := 0) (x := 9000) rfl (mj_dl lwd_5 37 rfl) ?_
                    refine mj_go_iload_n (k := 3) (x := s.1) rfl (mj_dl lwd_5 38 rfl) ?_
                    refine mj_go_iconst (v := 1) rfl (mj_dl lwd_5 39 rfl) ?_
                    refine mj_go_iadd (mj_dl lwd_5 40 rfl) ?_
                    obtain ⟨c11, h⟩ := mj_ck_some h
                    refine mk_xld c11 (mj_dl lwd_5 41 rfl) ?_
                    refine mj_go_aload_n (k := 0) (x := 9000) rfl (mj_dl lwd_5 42 rfl) ?_
                    refine mj_go_iload_n (k := 3) (x := s.1) rfl (mj_dl lwd_5 43 rfl) ?_
                    refine mj_go_iconst (v := 2) rfl (mj_dl lwd_5 44 rfl) ?_
                    refine mj_go_iadd (mj_dl lwd_5 45 rfl) ?_
                    obtain ⟨c12, h⟩ := mj_ck_some h
                    refine mk_xld c12 (mj_dl lwd_5 46 rfl) ?_
                    obtain ⟨r13, er13, h⟩ := mj_bind_some h
                    refine ml_callV (Y' := mY_X8_street) (as := [.int (xs (s.1 + 1).toNatClampNeg), .int (xs (s.1 + 2).toNatClampNeg)]) (rest := []) (c := 8) (v := (some (.int r13.1))) (M1 := (mj_fin r13.2)) ho_0 rfl lm_L_49 wc_X8_street pl_X8_street ok_X8_street rfl rfl (Nat.le_of_ble_eq_true rfl) (k_X8_street (by omega) er13) (mj_dl lwd_5 47 rfl) ?_
                    refine mj_go_aload_n (k := 2) (x := 95) rfl (mj_dl lwd_5 48 rfl) ?_
                    refine mj_go_aload_n (k := 0) (x := 9000) rfl (mj_dl lwd_5 49 rfl) ?_
                    refine mj_go_iload_n (k := 3) (x := s.1) rfl (mj_dl lwd_6 0 rfl) ?_
                    refine mj_go_iconst (v := 1) rfl (mj_dl lwd_6 1 rfl) ?_
                    refine mj_go_iadd (mj_dl lwd_6 2 rfl) ?_
                    refine mk_xld c11 (mj_dl lwd_6 3 rfl) ?_
                    refine mj_go_aload_n (k := 0) (x := 9000) rfl (mj_dl lwd_6 4 rfl) ?_
                    refine mj_go_iload_n (k := 3) (x := s.1) rfl (mj_dl lwd_6 5 rfl) ?_
                    refine mj_go_iconst (v := 2) rfl (mj_dl lwd_6 6 rfl) ?_
                    refine mj_go_iadd (mj_dl lwd_6 7 rfl) ?_
                    refine mk_xld c12 (mj_dl lwd_6 8 rfl) ?_
                    obtain ⟨r14, er14, h⟩ := mj_bind_some h
                    refine ml_callV (Y' := mY_X9_street) (as := [.int (xs (s.1 + 1).toNatClampNeg), .int (xs (s.1 + 2).toNatClampNeg)]) (rest := [.int r13.1]) (c := 9) (v := (some (.int r14.1))) (M1 := (mj_fin r14.2)) ho_95 rfl lm_L_52 wc_X9_street pl_X9_street ok_X9_street rfl rfl (Nat.le_of_ble_eq_true rfl) (k_X9_street (by omega) er14) (mj_dl lwd_6 9 rfl) ?_
                    refine mj_go_icmp_eq (tgt := 1643) rfl (mj_dl lwd_6 10 rfl) (fun b15 => ?_) (fun b15 => ?_)
                    · rw [if_pos b15] at h
                      refine mj_go_sub (lv' := [(0, .ref 9000), (1, .ref 0), (2, .ref 95), (3, .int s.1)]) (List.forall_mem_cons.mpr ⟨rfl, (List.forall_mem_cons.mpr ⟨rfl, (List.forall_mem_cons.mpr ⟨rfl, (List.forall_mem_cons.mpr ⟨rfl, (fun _ h9 => absurd h9 List.not_mem_nil)⟩)⟩)⟩)⟩) ?_
                      exact k_L_law_1643 q_18 hδ h
                    · rw [if_neg b15] at h
                      refine mj_go_iconst (v := 0) rfl (mj_dl lwd_6 11 rfl) ?_
                      obtain rfl := Option.some.inj h
                      exact mj_go_ret (v := some (.int 0)) (Nat.le_of_ble_eq_true rfl) (mj_retZ (mj_dl lwd_6 12 rfl) rfl rfl)
                  · rw [if_neg b10] at h
                    refine ⟨fun b11 => ?_, fun b11 => ?_⟩
                    · rw [if_pos b11] at h
                      refine ⟨569, by decide, ?_⟩
                      refine mj_go_aload_n (k := 1) (x := 0) rfl (mj_dl lwd_6 13 rfl) ?_
                      refine mj_go_aload_n (k := 0) (x := 9000) rfl (mj_dl lwd_6 14 rfl) ?_
                      refine mj_go_iload_n (k := 3) (x := s.1) rfl (mj_dl lwd_6 15 rfl) ?_
                      refine mj_go_iconst (v := 1) rfl (mj_dl lwd_6 16 rfl) ?_
                      refine mj_go_iadd (mj_dl lwd_6 17 rfl) ?_
                      obtain ⟨c12, h⟩ := mj_ck_some h
                      refine mk_xld c12 (mj_dl lwd_6 18 rfl) ?_
                      refine mj_go_aload_n (k := 0) (x := 9000) rfl (mj_dl lwd_6 19 rfl) ?_
                      refine mj_go_iload_n (k := 3) (x := s.1) rfl (mj_dl lwd_6 20 rfl) ?_
                      refine mj_go_iconst (v := 2) rfl (mj_dl lwd_6 21 rfl) ?_
                      refine mj_go_iadd (mj_dl lwd_6 22 rfl) ?_
                      obtain ⟨c13, h⟩ := mj_ck_some h
                      refine mk_xld c13 (mj_dl lwd_6 23 rfl) ?_
                      refine mj_go_aload_n (k := 0) (x := 9000) rfl (mj_dl lwd_6 24 rfl) ?_
                      refine mj_go_iload_n (k := 3) (x := s.1) rfl (mj_dl lwd_6 25 rfl) ?_
                      refine mj_go_iconst (v := 3) rfl (mj_dl lwd_6 26 rfl) ?_
                      refine mj_go_iadd (mj_dl lwd_6 27 rfl) ?_
                      obtain ⟨c14, h⟩ := mj_ck_some h
                      refine mk_xld c14 (mj_dl lwd_6 28 rfl) ?_
                      refine mj_go_aload_n (k := 0) (x := 9000) rfl (mj_dl lwd_6 29 rfl) ?_
                      refine mj_go_iload_n (k := 3) (x := s.1) rfl (mj_dl lwd_6 30 rfl) ?_
                      refine mj_go_iconst (v := 4) rfl (mj_dl lwd_6 31 rfl) ?_
                      refine mj_go_iadd (mj_dl lwd_6 32 rfl) ?_
                      obtain ⟨c15, h⟩ := mj_ck_some h
                      refine mk_xld c15 (mj_dl lwd_6 33 rfl) ?_
                      refine mj_go_aload_n (k := 0) (x := 9000) rfl (mj_dl lwd_6 34 rfl) ?_
                      refine mj_go_iload_n (k := 3) (x := s.1) rfl (mj_dl lwd_6 35 rfl) ?_
                      refine mj_go_iconst (v := 5) rfl (mj_dl lwd_6 36 rfl) ?_
                      refine mj_go_iadd (mj_dl lwd_6 37 rfl) ?_
                      obtain ⟨c16, h⟩ := mj_ck_some h
                      refine mk_xld c16 (mj_dl lwd_6 38 rfl) ?_
                      obtain ⟨r17, er17, h⟩ := mj_bind_some h
                      refine ml_callV (Y' := mY_X8_house) (as := [.int (xs (s.1 + 1).toNatClampNeg), .int (xs (s.1 + 2).toNatClampNeg), .int (xs (s.1 + 3).toNatClampNeg), .int (xs (s.1 + 4).toNatClampNeg), .int (xs (s.1 + 5).toNatClampNeg)]) (rest := []) (c := 8) (v := (some (.int r17.1))) (M1 := (mj_fin r17.2)) ho_0 rfl lm_L_53 wc_X8_house pl_X8_house ok_X8_house rfl rfl (Nat.le_of_ble_eq_true rfl) (k_X8_house (by omega) er17) (mj_dl lwd_6 39 rfl) ?_
                      refine mj_go_aload_n (k := 2) (x := 95) rfl (mj_dl lwd_6 40 rfl) ?_
                      refine mj_go_aload_n (k := 0) (x := 9000) rfl (mj_dl lwd_6 41 rfl) ?_
                      refine mj_go_iload_n (k := 3) (x := s.1) rfl (mj_dl lwd_6 42 rfl) ?_
                      refine mj_go_iconst (v := 1) rfl (mj_dl lwd_6 43 rfl) ?_
                      refine mj_go_iadd (mj_dl lwd_6 44 rfl) ?_
                      refine mk_xld c12 (mj_dl lwd_6 45 rfl) ?_
                      refine mj_go_aload_n (k := 0) (x := 9000) rfl (mj_dl lwd_6 46 rfl) ?_
                      refine mj_go_iload_n (k := 3) (x := s.1) rfl (mj_dl lwd_6 47 rfl) ?_
                      refine mj_go_iconst (v := 2) rfl (mj_dl lwd_6 48 rfl) ?_
                      refine mj_go_iadd (mj_dl lwd_6 49 rfl) ?_
                      refine mk_xld c13 (mj_dl lwd_7 0 rfl) ?_
                      refine mj_go_aload_n (k := 0) (x := 9000) rfl (mj_dl lwd_7 1 rfl) ?_
                      refine mj_go_iload_n (k := 3) (x := s.1) rfl (mj_dl lwd_7 2 rfl) ?_
                      refine mj_go_iconst (v := 3) rfl (mj_dl lwd_7 3 rfl) ?_
                      refine mj_go_iadd (mj_dl lwd_7 4 rfl) ?_
                      refine mk_xld c14 (mj_dl lwd_7 5 rfl) ?_
                      refine mj_go_aload_n (k := 0) (x := 9000) rfl (mj_dl lwd_7 6 rfl) ?_
                      refine mj_go_iload_n (k := 3) (x := s.1) rfl (mj_dl lwd_7 7 rfl) ?_
                      refine mj_go_iconst (v := 4) rfl (mj_dl lwd_7 8 rfl) ?_
                      refine mj_go_iadd (mj_dl lwd_7 9 rfl) ?_
                      refine mk_xld c15 (mj_dl lwd_7 10 rfl) ?_
                      refine mj_go_aload_n (k := 0) (x := 9000) rfl (mj_dl lwd_7 11 rfl) ?_
                      refine mj_go_iload_n (k := 3) (x := s.1) rfl (mj_dl lwd_7 12 rfl) ?_
                      refine mj_go_iconst (v := 5) rfl (mj_dl lwd_7 13 rfl) ?_
                      refine mj_go_iadd (mj_dl lwd_7 14 rfl) ?_
                      refine mk_xld c16 (mj_dl lwd_7 15 rfl) ?_
                      obtain ⟨r18, er18, h⟩ := mj_bind_some h
                      refine ml_callV (Y' := mY_X9_house) (as := [.int (xs (s.1 + 1).toNatClampNeg), .int (xs (s.1 + 2).toNatClampNeg), .int (xs (s.1 + 3).toNatClampNeg), .int (xs (s.1 + 4).toNatClampNeg), .int (xs (s.1 + 5).toNatClampNeg)]) (rest := [.int r17.1]) (c := 9) (v := (some (.int r18.1))) (M1 := (mj_fin r18.2)) ho_95 rfl lm_L_56 wc_X9_house pl_X9_house ok_X9_house rfl rfl (Nat.le_of_ble_eq_true rfl) (k_X9_house (by omega) er18) (mj_dl lwd_7 16 rfl) ?_
                      refine mj_go_icmp_eq (tgt := 1643) rfl (mj_dl lwd_7 17 rfl) (fun b19 => ?_) (fun b19 => ?_)
                      · rw [if_pos b19] at h
                        refine mj_go_sub (lv' := [(0, .ref 9000), (1, .ref 0), (2, .ref 95), (3, .int s.1)]) (List.forall_mem_cons.mpr ⟨rfl, (List.forall_mem_cons.mpr ⟨rfl, (List.forall_mem_cons.mpr ⟨rfl, (List.forall_mem_cons.mpr ⟨rfl, (fun _ h9 => absurd h9 List.not_mem_nil)⟩)⟩)⟩)⟩) ?_
                        exact k_L_law_1643 q_18 hδ h
                      · rw [if_neg b19] at h
                        refine mj_go_iconst (v := 0) rfl (mj_dl lwd_7 18 rfl) ?_
                        obtain rfl := Option.some.inj h
                        exact mj_go_ret (v := some (.int 0)) (Nat.le_of_ble_eq_true rfl) (mj_retZ (mj_dl lwd_7 19 rfl) rfl rfl)
                    · rw [if_neg b11] at h
                      refine ⟨fun b12 => ?_, fun b12 => ?_⟩
                      · rw [if_pos b12] at h
                        refine ⟨632, by decide, ?_⟩
                        refine mj_go_aload_n (k := 1) (x := 0) rfl (mj_dl lwd_7 20 rfl) ?_
                        refine mj_go_aload_n (k := 0) (x := 9000) rfl (mj_dl lwd_7 21 rfl) ?_
                        refine mj_go_iload_n (k := 3) (x := s.1) rfl (mj_dl lwd_7 22 rfl) ?_
                        refine mj_go_iconst (v := 1) rfl (mj_dl lwd_7 23 rfl) ?_
                        refine mj_go_iadd (mj_dl lwd_7 24 rfl) ?_
                        obtain ⟨c13, h⟩ := mj_ck_some h
                        refine mk_xld c13 (mj_dl lwd_7 25 rfl) ?_
                        refine mj_go_aload_n (k := 0) (x := 9000) rfl (mj_dl lwd_7 26 rfl) ?_
                        refine mj_go_iload_n (k := 3) (x := s.1) rfl (mj_dl lwd_7 27 rfl) ?_
                        refine mj_go_iconst (v := 2) rfl (mj_dl lwd_7 28 rfl) ?_
                        refine mj_go_iadd (mj_dl lwd_7 29 rfl) ?_
                        obtain ⟨c14, h⟩ := mj_ck_some h
                        refine mk_xld c14 (mj_dl lwd_7 30 rfl) ?_
                        refine mj_go_aload_n (k := 0) (x := 9000) rfl (mj_dl lwd_7 31 rfl) ?_
                        refine mj_go_iload_n (k := 3) (x := s.1) rfl (mj_dl lwd_7 32 rfl) ?_
                        refine mj_go_iconst (v := 3) rfl (mj_dl lwd_7 33 rfl) ?_
                        refine mj_go_iadd (mj_dl lwd_7 34 rfl) ?_
                        obtain ⟨c15, h⟩ := mj_ck_some h
                        refine mk_xld c15 (mj_dl lwd_7 35 rfl) ?_
                        obtain ⟨r16, er16, h⟩ := mj_bind_some h
                        refine ml_callV (Y' := mY_X8_houses) (as := [.int (xs (s.1 + 1).toNatClampNeg), .int (xs (s.1 + 2).toNatClampNeg), .int (xs (s.1 + 3).toNatClampNeg)]) (rest := []) (c := 8) (v := (some (.int r16.1))) (M1 := (mj_fin r16.2)) ho_0 rfl lm_L_57 wc_X8_houses pl_X8_houses ok_X8_houses rfl rfl (Nat.le_of_ble_eq_true rfl) (k_X8_houses (by omega) er16) (mj_dl lwd_7 36 rfl) ?_
                        refine mj_go_aload_n (k := 2) (x := 95) rfl (mj_dl lwd_7 37 rfl) ?_
                        refine mj_go_aload_n (k := 0) (x := 9000) rfl (mj_dl lwd_7 38 rfl) ?_
                        refine mj_go_iload_n (k := 3) (x := s.1) rfl (mj_dl lwd_7 39 rfl) ?_
                        refine mj_go_iconst (v := 1) rfl (mj_dl lwd_7 40 rfl) ?_
                        refine mj_go_iadd (mj_dl lwd_7 41 rfl) ?_
                        refine mk_xld c13 (mj_dl lwd_7 42 rfl) ?_
                        refine mj_go_aload_n (k := 0) (x := 9000) rfl (mj_dl lwd_7 43 rfl) ?_
                        refine mj_go_iload_n (k := 3) (x := s.1) rfl (mj_dl lwd_7 44 rfl) ?_
                        refine mj_go_iconst (v := 2) rfl (mj_dl lwd_7 45 rfl) ?_
                        refine mj_go_iadd (mj_dl lwd_7 46 rfl) ?_
                        refine mk_xld c14 (mj_dl lwd_7 47 rfl) ?_
                        refine mj_go_aload_n (k := 0) (x := 9000) rfl (mj_dl lwd_7 48 rfl) ?_
                        refine mj_go_iload_n (k := 3) (x := s.1) rfl (mj_dl lwd_7 49 rfl) ?_
                        refine mj_go_iconst (v := 3) rfl (mj_dl lwd_8 0 rfl) ?_
                        refine mj_go_iadd (mj_dl lwd_8 1 rfl) ?_
                        refine mk_xld c15 (mj_dl lwd_8 2 rfl) ?_
                        obtain ⟨r17, er17, h⟩ := mj_bind_some h
                        refine ml_callV (Y' := mY_X9_houses) (as := [.int (xs (s.1 + 1).toNatClampNeg), .int (xs (s.1 + 2).toNatClampNeg), .int (xs (s.1 + 3).toNatClampNeg)]) (rest := [.int r16.1]) (c := 9) (v := (some (.int r17.1))) (M1 := (mj_fin r17.2)) ho_95 rfl lm_L_60 wc_X9_houses pl_X9_houses ok_X9_houses rfl rfl (Nat.le_of_ble_eq_true rfl) (k_X9_houses (by omega) er17) (mj_dl lwd_8 3 rfl) ?_
                        refine mj_go_icmp_eq (tgt := 1643) rfl (mj_dl lwd_8 4 rfl) (fun b18 => ?_) (fun b18 => ?_)
                        · rw [if_pos b18] at h
                          refine mj_go_sub (lv' := [(0, .ref 9000), (1, .ref 0), (2, .ref 95), (3, .int s.1)]) (List.forall_mem_cons.mpr ⟨rfl, (List.forall_mem_cons.mpr ⟨rfl, (List.forall_mem_cons.mpr ⟨rfl, (List.forall_mem_cons.mpr ⟨rfl, (fun _ h9 => absurd h9 List.not_mem_nil)⟩)⟩)⟩)⟩) ?_
                          exact k_L_law_1643 q_18 hδ h
                        · rw [if_neg b18] at h
                          refine mj_go_iconst (v := 0) rfl (mj_dl lwd_8 5 rfl) ?_
                          obtain rfl := Option.some.inj h
                          exact mj_go_ret (v := some (.int 0)) (Nat.le_of_ble_eq_true rfl) (mj_retZ (mj_dl lwd_8 6 rfl) rfl rfl)
                      · rw [if_neg b12] at h
                        refine ⟨fun b13 => ?_, fun b13 => ?_⟩
                        · rw [if_pos b13] at h
                          refine ⟨675, by decide, ?_⟩
                          refine mj_go_aload_n (k := 1) (x := 0) rfl (mj_dl lwd_8 7 rfl) ?_
                          refine mj_go_aload_n (k := 0) (x := 9000) rfl (mj_dl lwd_8 8 rfl) ?_
                          refine mj_go_iload_n (k := 3) (x := s.1) rfl (mj_dl lwd_8 9 rfl) ?_
                          refine mj_go_iconst (v := 1) rfl (mj_dl lwd_8 10 rfl) ?_
                          refine mj_go_iadd (mj_dl lwd_8 11 rfl) ?_
                          obtain ⟨c14, h⟩ := mj_ck_some h
                          refine mk_xld c14 (mj_dl lwd_8 12 rfl) ?_
                          refine mj_go_aload_n (k := 0) (x := 9000) rfl (mj_dl lwd_8 13 rfl) ?_
                          refine mj_go_iload_n (k := 3) (x := s.1) rfl (mj_dl lwd_8 14 rfl) ?_
                          refine mj_go_iconst (v := 2) rfl (mj_dl lwd_8 15 rfl) ?_
                          refine mj_go_iadd (mj_dl lwd_8 16 rfl) ?_
                          obtain ⟨c15, h⟩ := mj_ck_some h
                          refine mk_xld c15 (mj_dl lwd_8 17 rfl) ?_
                          obtain ⟨r16, er16, h⟩ := mj_bind_some h
                          refine ml_callV (Y' := mY_X8_houseOf) (as := [.int (xs (s.1 + 1).toNatClampNeg), .int (xs (s.1 + 2).toNatClampNeg)]) (rest := []) (c := 8) (v := (some (.int r16.1))) (M1 := (mj_fin r16.2)) ho_0 rfl lm_L_61 wc_X8_houseOf pl_X8_houseOf ok_X8_houseOf rfl rfl (Nat.le_of_ble_eq_true rfl) (k_X8_houseOf (by omega) er16) (mj_dl lwd_8 18 rfl) ?_
                          refine mj_go_aload_n (k := 2) (x := 95) rfl (mj_dl lwd_8 19 rfl) ?_
                          refine mj_go_aload_n (k := 0) (x := 9000) rfl (mj_dl lwd_8 20 rfl) ?_
                          refine mj_go_iload_n (k := 3) (x := s.1) rfl (mj_dl lwd_8 21 rfl) ?_
                          refine mj_go_iconst (v := 1) rfl (mj_dl lwd_8 22 rfl) ?_
                          refine mj_go_iadd (mj_dl lwd_8 23 rfl) ?_
                          refine mk_xld c14 (mj_dl lwd_8 24 rfl) ?_
                          refine mj_go_aload_n (k := 0) (x := 9000) rfl (mj_dl lwd_8 25 rfl) ?_
                          refine mj_go_iload_n (k := 3) (x := s.1) rfl (mj_dl lwd_8 26 rfl) ?_
                          refine mj_go_iconst (v := 2) rfl (mj_dl lwd_8 27 rfl) ?_
                          refine mj_go_iadd (mj_dl lwd_8 28 rfl) ?_
                          refine mk_xld c15 (mj_dl lwd_8 29 rfl) ?_
                          obtain ⟨r17, er17, h⟩ := mj_bind_some h
                          refine ml_callV (Y' := mY_X9_houseOf) (as := [.int (xs (s.1 + 1).toNatClampNeg), .int (xs (s.1 + 2).toNatClampNeg)]) (rest := [.int r16.1]) (c := 9) (v := (some (.int r17.1))) (M1 := (mj_fin r17.2)) ho_95 rfl lm_L_64 wc_X9_houseOf pl_X9_houseOf ok_X9_houseOf rfl rfl (Nat.le_of_ble_eq_true rfl) (k_X9_houseOf (by omega) er17) (mj_dl lwd_8 30 rfl) ?_
                          refine mj_go_icmp_eq (tgt := 1643) rfl (mj_dl lwd_8 31 rfl) (fun b18 => ?_) (fun b18 => ?_)
                          · rw [if_pos b18] at h
                            refine mj_go_sub (lv' := [(0, .ref 9000), (1, .ref 0), (2, .ref 95), (3, .int s.1)]) (List.forall_mem_cons.mpr ⟨rfl, (List.forall_mem_cons.mpr ⟨rfl, (List.forall_mem_cons.mpr ⟨rfl, (List.forall_mem_cons.mpr ⟨rfl, (fun _ h9 => absurd h9 List.not_mem_nil)⟩)⟩)⟩)⟩) ?_
                            exact k_L_law_1643 q_18 hδ h
                          · rw [if_neg b18] at h
                            refine mj_go_iconst (v := 0) rfl (mj_dl lwd_8 32 rfl) ?_
                            obtain rfl := Option.some.inj h
                            exact mj_go_ret (v := some (.int 0)) (Nat.le_of_ble_eq_true rfl) (mj_retZ (mj_dl lwd_8 33 rfl) rfl rfl)
                        · rw [if_neg b13] at h
                          refine ⟨fun b14 => ?_, fun b14 => ?_⟩
                          · rw [if_pos b14] at h
                            refine ⟨708, by decide, ?_⟩
                            refine mj_go_aload_n (k := 1) (x := 0) rfl (mj_dl lwd_8 34 rfl) ?_
                            refine mj_go_aload_n (k := 0) (x := 9000) rfl (mj_dl lwd_8 35 rfl) ?_
                            refine mj_go_iload_n (k := 3) (x := s.1) rfl (mj_dl lwd_8 36 rfl) ?_
                            refine mj_go_iconst (v := 1) rfl (mj_dl lwd_8 37 rfl) ?_
                            refine mj_go_iadd (mj_dl lwd_8 38 rfl) ?_
                            obtain ⟨c15, h⟩ := mj_ck_some h
                            refine mk_xld c15 (mj_dl lwd_8 39 rfl) ?_
                            refine mj_go_aload_n (k := 0) (x := 9000) rfl (mj_dl lwd_8 40 rfl) ?_
                            refine mj_go_iload_n (k := 3) (x := s.1) rfl (mj_dl lwd_8 41 rfl) ?_
                            refine mj_go_iconst (v := 2) rfl (mj_dl lwd_8 42 rfl) ?_
                            refine mj_go_iadd (mj_dl lwd_8 43 rfl) ?_
                            obtain ⟨c16, h⟩ := mj_ck_some h
                            refine mk_xld c16 (mj_dl lwd_8 44 rfl) ?_
                            obtain ⟨r17, er17, h⟩ := mj_bind_some h
                            refine ml_callV (Y' := mY_X8_front) (as := [.int (xs (s.1 + 1).toNatClampNeg), .int (xs (s.1 + 2).toNatClampNeg)]) (rest := []) (c := 8) (v := (some (.int r17.1))) (M1 := (mj_fin r17.2)) ho_0 rfl lm_L_65 wc_X8_front pl_X8_front ok_X8_front rfl rfl (Nat.le_of_ble_eq_true rfl) (k_X8_front (by omega) er17) (mj_dl lwd_8 45 rfl) ?_
                            refine mj_go_aload_n (k := 2) (x := 95) rfl (mj_dl lwd_8 46 rfl) ?_
                            refine mj_go_aload_n (k := 0) (x := 9000) rfl (mj_dl lwd_8 47 rfl) ?_
                            refine mj_go_iload_n (k := 3) (x := s.1) rfl (mj_dl lwd_8 48 rfl) ?_
                            refine mj_go_iconst (v := 1) rfl (mj_dl lwd_8 49 rfl) ?_
                            refine mj_go_iadd (mj_dl lwd_9 0 rfl) ?_
                            refine mk_xld c15 (mj_dl lwd_9 1 rfl) ?_
                            refine mj_go_aload_n (k := 0) (x := 9000) rfl (mj_dl lwd_9 2 rfl) ?_
                            refine mj_go_iload_n (k := 3) (x := s.1) rfl (mj_dl lwd_9 3 rfl) ?_
                            refine mj_go_iconst (v := 2) rfl (mj_dl lwd_9 4 rfl) ?_
                            refine mj_go_iadd (mj_dl lwd_9 5 rfl) ?_
                            refine mk_xld c16 (mj_dl lwd_9 6 rfl) ?_
                            obtain ⟨r18, er18, h⟩ := mj_bind_some h
                            refine ml_callV (Y' := mY_X9_front) (as := [.int (xs (s.1 + 1).toNatClampNeg), .int (xs (s.1 + 2).toNatClampNeg)]) (rest := [.int r17.1]) (c := 9) (v := (some (.int r18.1))) (M1 := (mj_fin r18.2)) ho_95 rfl lm_L_68 wc_X9_front pl_X9_front ok_X9_front rfl rfl (Nat.le_of_ble_eq_true rfl) (k_X9_front (by omega) er18) (mj_dl lwd_9 7 rfl) ?_
                            refine mj_go_icmp_eq (tgt := 1643) rfl (mj_dl lwd_9 8 rfl) (fun b19 => ?_) (fun b19 => ?_)
                            · rw [if_pos b19] at h
                              refine mj_go_sub (lv' := [(0, .ref 9000), (1, .ref 0), (2, .ref 95), (3, .int s.1)]) (List.forall_mem_cons.mpr ⟨rfl, (List.forall_mem_cons.mpr ⟨rfl, (List.forall_mem_cons.mpr ⟨rfl, (List.forall_mem_cons.mpr ⟨rfl, (fun _ h9 => absurd h9 List.not_mem_nil)⟩)⟩)⟩)⟩) ?_
                              exact k_L_law_1643 q_18 hδ h
                            · rw [if_neg b19] at h
                              refine mj_go_iconst (v := 0) rfl (mj_dl lwd_9 9 rfl) ?_
                              obtain rfl := Option.some.inj h
                              exact mj_go_ret (v := some (.int 0)) (Nat.le_of_ble_eq_true rfl) (mj_retZ (mj_dl lwd_9 10 rfl) rfl rfl)
                          · rw [if_neg b14] at h
                            refine ⟨fun b15 => ?_, fun b15 => ?_⟩
                            · rw [if_pos b15] at h
                              refine ⟨741, by decide, ?_⟩
                              refine mj_go_aload_n (k := 1) (x := 0) rfl (mj_dl lwd_9 11 rfl) ?_
                              refine mj_go_aload_n (k := 0) (x := 9000) rfl (mj_dl lwd_9 12 rfl) ?_
                              refine mj_go_iload_n (k := 3) (x := s.1) rfl (mj_dl lwd_9 13 rfl) ?_
                              refine mj_go_iconst (v := 1) rfl (mj_dl lwd_9 14 rfl) ?_
                              refine mj_go_iadd (mj_dl lwd_9 15 rfl) ?_
                              obtain ⟨c16, h⟩ := mj_ck_some h
                              refine mk_xld c16 (mj_dl lwd_9 16 rfl) ?_
                              refine mj_go_aload_n (k := 0) (x := 9000) rfl (mj_dl lwd_9 17 rfl) ?_
                              refine mj_go_iload_n (k := 3) (x := s.1) rfl (mj_dl lwd_9 18 rfl) ?_
                              refine mj_go_iconst (v := 2) rfl (mj_dl lwd_9 19 rfl) ?_
                              refine mj_go_iadd (mj_dl lwd_9 20 rfl) ?_
                              obtain ⟨c17, h⟩ := mj_ck_some h
                              refine mk_xld c17 (mj_dl lwd_9 21 rfl) ?_
                              obtain ⟨r18, er18, h⟩ := mj_bind_some h
                              refine ml_callV (Y' := mY_X8_next) (as := [.int (xs (s.1 + 1).toNatClampNeg), .int (xs (s.1 + 2).toNatClampNeg)]) (rest := []) (c := 8) (v := (some (.int r18.1))) (M1 := (mj_fin r18.2)) ho_0 rfl lm_L_69 wc_X8_next pl_X8_next ok_X8_next rfl rfl (Nat.le_of_ble_eq_true rfl) (k_X8_next (by omega) er18) (mj_dl lwd_9 22 rfl) ?_
                              refine mj_go_aload_n (k := 2) (x := 95) rfl (mj_dl lwd_9 23 rfl) ?_
                              refine mj_go_aload_n (k := 0) (x := 9000) rfl (mj_dl lwd_9 24 rfl) ?_
                              refine mj_go_iload_n (k := 3) (x := s.1) rfl (mj_dl lwd_9 25 rfl) ?_
                              refine mj_go_iconst (v := 1) rfl (mj_dl lwd_9 26 rfl) ?_
                              refine mj_go_iadd (mj_dl lwd_9 27 rfl) ?_
                              refine mk_xld c16 (mj_dl lwd_9 28 rfl) ?_
                              refine mj_go_aload_n (k := 0) (x := 9000) rfl (mj_dl lwd_9 29 rfl) ?_
                              refine mj_go_iload_n (k := 3) (x := s.1) rfl (mj_dl lwd_9 30 rfl) ?_
                              refine mj_go_iconst (v := 2) rfl (mj_dl lwd_9 31 rfl) ?_
                              refine mj_go_iadd (mj_dl lwd_9 32 rfl) ?_
                              refine mk_xld c17 (mj_dl lwd_9 33 rfl) ?_
                              obtain ⟨r19, er19, h⟩ := mj_bind_some h
                              refine ml_callV (Y' := mY_X9_next) (as := [.int (xs (s.1 + 1).toNatClampNeg), .int (xs (s.1 + 2).toNatClampNeg)]) (rest := [.int r18.1]) (c := 9) (v := (some (.int r19.1))) (M1 := (mj_fin r19.2)) ho_95 rfl lm_L_72 wc_X9_next pl_X9_next ok_X9_next rfl rfl (Nat.le_of_ble_eq_true rfl) (k_X9_next (by omega) er19) (mj_dl lwd_9 34 rfl) ?_
                              refine mj_go_icmp_eq (tgt := 1643) rfl (mj_dl lwd_9 35 rfl) (fun b20 => ?_) (fun b20 => ?_)
                              · rw [if_pos b20] at h
                                refine mj_go_sub (lv' := [(0, .ref 9000), (1, .ref 0), (2, .ref 95), (3, .int s.1)]) (List.forall_mem_cons.mpr ⟨rfl, (List.forall_mem_cons.mpr ⟨rfl, (List.forall_mem_cons.mpr ⟨rfl, (List.forall_mem_cons.mpr ⟨rfl, (fun _ h9 => absurd h9 List.not_mem_nil)⟩)⟩)⟩)⟩) ?_
                                exact k_L_law_1643 q_18 hδ h
                              · rw [if_neg b20] at h
                                refine mj_go_iconst (v := 0) rfl (mj_dl lwd_9 36 rfl) ?_
                                obtain rfl := Option.some.inj h
                                exact mj_go_ret (v := some (.int 0)) (Nat.le_of_ble_eq_true rfl) (mj_retZ (mj_dl lwd_9 37 rfl) rfl rfl)
                            · rw [if_neg b15] at h
                              refine ⟨fun b16 => ?_, fun b16 => ?_⟩
                              · rw [if_pos b16] at h
                                refine ⟨774, by decide, ?_⟩
                                refine mj_go_aload_n (k := 1) (x := 0) rfl (mj_dl lwd_9 38 rfl) ?_
                                refine mj_go_aload_n (k := 0) (x := 9000) rfl (mj_dl lwd_9 39 rfl) ?_
                                refine mj_go_iload_n (k := 3) (x := s.1) rfl (mj_dl lwd_9 40 rfl) ?_
                                refine mj_go_iconst (v := 1) rfl (mj_dl lwd_9 41 rfl) ?_
                                refine mj_go_iadd (mj_dl lwd_9 42 rfl) ?_
                                obtain ⟨c17, h⟩ := mj_ck_some h
                                refine mk_xld c17 (mj_dl lwd_9 43 rfl) ?_
                                refine mj_go_aload_n (k := 0) (x := 9000) rfl (mj_dl lwd_9 44 rfl) ?_
                                refine mj_go_iload_n (k := 3) (x := s.1) rfl (mj_dl lwd_9 45 rfl) ?_
                                refine mj_go_iconst (v := 2) rfl (mj_dl lwd_9 46 rfl) ?_
                                refine mj_go_iadd (mj_dl lwd_9 47 rfl) ?_
                                obtain ⟨c18, h⟩ := mj_ck_some h
                                refine mk_xld c18 (mj_dl lwd_9 48 rfl) ?_
                                refine mj_go_aload_n (k := 0) (x := 9000) rfl (mj_dl lwd_9 49 rfl) ?_
                                refine mj_go_iload_n (k := 3) (x := s.1) rfl (mj_dl lwd_10 0 rfl) ?_
                                refine mj_go_iconst (v := 3) rfl (mj_dl lwd_10 1 rfl) ?_
                                refine mj_go_iadd (mj_dl lwd_10 2 rfl) ?_
                                obtain ⟨c19, h⟩ := mj_ck_some h
                                refine mk_xld c19 (mj_dl lwd_10 3 rfl) ?_
                                obtain ⟨r20, er20, h⟩ := mj_bind_some h
                                refine ml_callV (Y' := mY_X8_alter) (as := [.int (xs (s.1 + 1).toNatClampNeg), .int (xs (s.1 + 2).toNatClampNeg), .int (xs (s.1 + 3).toNatClampNeg)]) (rest := []) (c := 8) (v := (some (.int r20.1))) (M1 := (mj_fin r20.2)) ho_0 rfl lm_L_73 wc_X8_alter pl_X8_alter ok_X8_alter rfl rfl (Nat.le_of_ble_eq_true rfl) (k_X8_alter (by omega) er20) (mj_dl lwd_10 4 rfl) ?_
                                refine mj_go_aload_n (k := 2) (x := 95) rfl (mj_dl lwd_10 5 rfl) ?_
                                refine mj_go_aload_n (k := 0) (x := 9000) rfl (mj_dl lwd_10 6 rfl) ?_
                                refine mj_go_iload_n (k := 3) (x := s.1) rfl (mj_dl lwd_10 7 rfl) ?_
                                refine mj_go_iconst (v := 1) rfl (mj_dl lwd_10 8 rfl) ?_
                                refine mj_go_iadd (mj_dl lwd_10 9 rfl) ?_
                                refine mk_xld c17 (mj_dl lwd_10 10 rfl) ?_
                                refine mj_go_aload_n (k := 0) (x := 9000) rfl (mj_dl lwd_10 11 rfl) ?_
                                refine mj_go_iload_n (k := 3) (x := s.1) rfl (mj_dl lwd_10 12 rfl) ?_
                                refine mj_go_iconst (v := 2) rfl (mj_dl lwd_10 13 rfl) ?_
                                refine mj_go_iadd (mj_dl lwd_10 14 rfl) ?_
                                refine mk_xld c18 (mj_dl lwd_10 15 rfl) ?_
                                refine mj_go_aload_n (k := 0) (x := 9000) rfl (mj_dl lwd_10 16 rfl) ?_
                                refine mj_go_iload_n (k := 3) (x := s.1) rfl (mj_dl lwd_10 17 rfl) ?_
                                refine mj_go_iconst (v := 3) rfl (mj_dl lwd_10 18 rfl) ?_
                                refine mj_go_iadd (mj_dl lwd_10 19 rfl) ?_
                                refine mk_xld c19 (mj_dl lwd_10 20 rfl) ?_
                                obtain ⟨r21, er21, h⟩ := mj_bind_some h
                                refine ml_callV (Y' := mY_X9_alter) (as := [.int (xs (s.1 + 1).toNatClampNeg), .int (xs (s.1 + 2).toNatClampNeg), .int (xs (s.1 + 3).toNatClampNeg)]) (rest := [.int r20.1]) (c := 9) (v := (some (.int r21.1))) (M1 := (mj_fin r21.2)) ho_95 rfl lm_L_76 wc_X9_alter pl_X9_alter ok_X9_alter rfl rfl (Nat.le_of_ble_eq_true rfl) (k_X9_alter (by omega) er21) (mj_dl lwd_10 21 rfl) ?_
                                refine mj_go_icmp_eq (tgt := 1643) rfl (mj_dl lwd_10 22 rfl) (fun b22 => ?_) (fun b22 => ?_)
                                · rw [if_pos b22] at h
                                  refine mj_go_sub (lv' := [(0, .ref 9000), (1, .ref 0), (2, .ref 95), (3, .int s.1)]) (List.forall_mem_cons.mpr ⟨rfl, (List.forall_mem_cons.mpr ⟨rfl, (List.forall_mem_cons.mpr ⟨rfl, (List.forall_mem_cons.mpr ⟨rfl, (fun _ h9 => absurd h9 List.not_mem_nil)⟩)⟩)⟩)⟩) ?_
                                  exact k_L_law_1643 q_18 hδ h
                                · rw [if_neg b22] at h
                                  refine mj_go_iconst (v := 0) rfl (mj_dl lwd_10 23 rfl) ?_
                                  obtain rfl := Option.some.inj h
                                  exact mj_go_ret (v := some (.int 0)) (Nat.le_of_ble_eq_true rfl) (mj_retZ (mj_dl lwd_10 24 rfl) rfl rfl)
                              · rw [if_neg b16] at h
                                refine ⟨fun b17 => ?_, fun b17 => ?_⟩
                                · rw [if_pos b17] at h
                                  refine ⟨817, by decide, ?_⟩
                                  refine mj_go_aload_n (k := 1) (x := 0) rfl (mj_dl lwd_10 25 rfl) ?_
                                  refine mj_go_aload_n (k := 0) (x := 9000) rfl (mj_dl lwd_10 26 rfl) ?_
                                  refine mj_go_iload_n (k := 3) (x := s.1) rfl (mj_dl lwd_10 27 rfl) ?_
                                  refine mj_go_iconst (v := 1) rfl (mj_dl lwd_10 28 rfl) ?_
                                  refine mj_go_iadd (mj_dl lwd_10 29 rfl) ?_
                                  obtain ⟨c18, h⟩ := mj_ck_some h
                                  refine mk_xld c18 (mj_dl lwd_10 30 rfl) ?_
                                  refine mj_go_aload_n (k := 0) (x := 9000) rfl (mj_dl lwd_10 31 rfl) ?_
                                  refine mj_go_iload_n (k := 3) (x := s.1) rfl (mj_dl lwd_10 32 rfl) ?_
                                  refine mj_go_iconst (v := 2) rfl (mj_dl lwd_10 33 rfl) ?_
                                  refine mj_go_iadd (mj_dl lwd_10 34 rfl) ?_
                                  obtain ⟨c19, h⟩ := mj_ck_some h
                                  refine mk_xld c19 (mj_dl lwd_10 35 rfl) ?_
                                  refine mj_go_if_eq (tgt := 835) rfl (mj_dl lwd_10 36 rfl) (fun b20 => ?_) (fun b20 => ?_)
                                  · rw [if_pos b20] at h
                                    refine mj_go_iconst (v := 0) rfl (mj_dl lwd_10 39 rfl) ?_
                                    refine mj_go_sub (lv' := [(0, .ref 9000), (1, .ref 0), (2, .ref 95), (3, .int s.1)]) (List.forall_mem_cons.mpr ⟨rfl, (List.forall_mem_cons.mpr ⟨rfl, (List.forall_mem_cons.mpr ⟨rfl, (List.forall_mem_cons.mpr ⟨rfl, (fun _ h9 => absurd h9 List.not_mem_nil)⟩)⟩)⟩)⟩) ?_
                                    exact k_L_law_836 q_18 hδ h
                                  · rw [if_neg b20] at h
                                    refine mj_go_iconst (v := 1) rfl (mj_dl lwd_10 37 rfl) ?_
                                    refine mj_go_goto (tgt := 836) rfl (mj_dl lwd_10 38 rfl) ?_
                                    refine mj_go_sub (lv' := [(0, .ref 9000), (1, .ref 0), (2, .ref 95), (3, .int s.1)]) (List.forall_mem_cons.mpr ⟨rfl, (List.forall_mem_cons.mpr ⟨rfl, (List.forall_mem_cons.mpr ⟨rfl, (List.forall_mem_cons.mpr ⟨rfl, (fun _ h9 => absurd h9 List.not_mem_nil)⟩)⟩)⟩)⟩) ?_
                                    exact k_L_law_836 q_18 hδ h
                                · rw [if_neg b17] at h
                                  refine ⟨fun b18 => ?_, fun b18 => ?_⟩
                                  · rw [if_pos b18] at h
                                    refine ⟨866, by decide, ?_⟩
                                    refine mj_go_aload_n (k := 1) (x := 0) rfl (mj_dl lwd_11 10 rfl) ?_
                                    refine mj_go_aload_n (k := 0) (x := 9000) rfl (mj_dl lwd_11 11 rfl) ?_
                                    refine mj_go_iload_n (k := 3) (x := s.1) rfl (mj_dl lwd_11 12 rfl) ?_
                                    refine mj_go_iconst (v := 1) rfl (mj_dl lwd_11 13 rfl) ?_
                                    refine mj_go_iadd (mj_dl lwd_11 14 rfl) ?_
                                    obtain ⟨c19, h⟩ := mj_ck_some h
                                    refine mk_xld c19 (mj_dl lwd_11 15 rfl) ?_
                                    refine mj_go_aload_n (k := 0) (x := 9000) rfl (mj_dl lwd_11 16 rfl) ?_
                                    refine mj_go_iload_n (k := 3) (x := s.1) rfl (mj_dl lwd_11 17 rfl) ?_
                                    refine mj_go_iconst (v := 2) rfl (mj_dl lwd_11 18 rfl) ?_
                                    refine mj_go_iadd (mj_dl lwd_11 19 rfl) ?_
                                    obtain ⟨c20, h⟩ := mj_ck_some h
                                    refine mk_xld c20 (mj_dl lwd_11 20 rfl) ?_
                                    obtain ⟨r21, er21, h⟩ := mj_bind_some h
                                    refine ml_callV (Y' := mY_X8_shake) (as := [.int (xs (s.1 + 1).toNatClampNeg), .int (xs (s.1 + 2).toNatClampNeg)]) (rest := []) (c := 8) (v := (some (.int r21.1))) (M1 := (mj_fin r21.2)) ho_0 rfl lm_L_82 wc_X8_shake pl_X8_shake ok_X8_shake rfl rfl (Nat.le_of_ble_eq_true rfl) (k_X8_shake (by omega) er21) (mj_dl lwd_11 21 rfl) ?_
                                    refine mj_go_aload_n (k := 2) (x := 95) rfl (mj_dl lwd_11 22 rfl) ?_
                                    refine mj_go_aload_n (k := 0) (x := 9000) rfl (mj_dl lwd_11 23 rfl) ?_
                                    refine mj_go_iload_n (k := 3) (x := s.1) rfl (mj_dl lwd_11 24 rfl) ?_
                                    refine mj_go_iconst (v := 1) rfl (mj_dl lwd_11 25 rfl) ?_
                                    refine mj_go_iadd (mj_dl lwd_11 26 rfl) ?_
                                    refine mk_xld c19 (mj_dl lwd_11 27 rfl) ?_
                                    refine mj_go_aload_n (k := 0) (x := 9000) rfl (mj_dl lwd_11 28 rfl) ?_
                                    refine mj_go_iload_n (k := 3) (x := s.1) rfl (mj_dl lwd_11 29 rfl) ?_
                                    refine mj_go_iconst (v := 2) rfl (mj_dl lwd_11 30 rfl) ?_
                                    refine mj_go_iadd (mj_dl lwd_11 31 rfl) ?_
                                    refine mk_xld c20 (mj_dl lwd_11 32 rfl) ?_
                                    obtain ⟨r22, er22, h⟩ := mj_bind_some h
                                    refine ml_callV (Y' := mY_X9_shake) (as := [.int (xs (s.1 + 1).toNatClampNeg), .int (xs (s.1 + 2).toNatClampNeg)]) (rest := [.int r21.1]) (c := 9) (v := (some (.int r22.1))) (M1 := (mj_fin r22.2)) ho_95 rfl lm_L_85 wc_X9_shake pl_X9_shake ok_X9_shake rfl rfl (Nat.le_of_ble_eq_true rfl) (k_X9_shake (by omega) er22) (mj_dl lwd_11 33 rfl) ?_
                                    refine mj_go_icmp_eq (tgt := 1643) rfl (mj_dl lwd_11 34 rfl) (fun b23 => ?_) (fun b23 => ?_)
                                    · rw [if_pos b23] at h
                                      refine mj_go_sub (lv' := [(0, .ref 9000), (1, .ref 0), (2, .ref 95), (3, .int s.1)]) (List.forall_mem_cons.mpr ⟨rfl, (List.forall_mem_cons.mpr ⟨rfl, (List.forall_mem_cons.mpr ⟨rfl, (List.forall_mem_cons.mpr ⟨rfl, (fun _ h9 => absurd h9 List.not_mem_nil)⟩)⟩)⟩)⟩) ?_
                                      exact k_L_law_1643 q_18 hδ h
                                    · rw [if_neg b23] at h
                                      refine mj_go_iconst (v := 0) rfl (mj_dl lwd_11 35 rfl) ?_
                                      obtain rfl := Option.some.inj h
                                      exact mj_go_ret (v := some (.int 0)) (Nat.le_of_ble_eq_true rfl) (mj_retZ (mj_dl lwd_11 36 rfl) rfl rfl)
                                  · rw [if_neg b18] at h
                                    refine ⟨fun b19 => ?_, fun b19 => ?_⟩
                                    · rw [if_pos b19] at h
                                      refine ⟨899, by decide, ?_⟩
                                      refine mj_go_aload_n (k := 1) (x := 0) rfl (mj_dl lwd_11 37 rfl) ?_
                                      refine mj_go_aload_n (k := 0) (x := 9000) rfl (mj_dl lwd_11 38 rfl) ?_
                                      refine mj_go_iload_n (k := 3) (x := s.1) rfl (mj_dl lwd_11 39 rfl) ?_
                                      refine mj_go_iconst (v := 1) rfl (mj_dl lwd_11 40 rfl) ?_
                                      refine mj_go_iadd (mj_dl lwd_11 41 rfl) ?_
                                      obtain ⟨c20, h⟩ := mj_ck_some h
                                      refine mk_xld c20 (mj_dl lwd_11 42 rfl) ?_
                                      refine mj_go_aload_n (k := 0) (x := 9000) rfl (mj_dl lwd_11 43 rfl) ?_
                                      refine mj_go_iload_n (k := 3) (x := s.1) rfl (mj_dl lwd_11 44 rfl) ?_
                                      refine mj_go_iconst (v := 2) rfl (mj_dl lwd_11 45 rfl) ?_
                                      refine mj_go_iadd (mj_dl lwd_11 46 rfl) ?_
                                      obtain ⟨c21, h⟩ := mj_ck_some h
                                      refine mk_xld c21 (mj_dl lwd_11 47 rfl) ?_
                                      obtain ⟨r22, er22, h⟩ := mj_bind_some h
                                      refine ml_callV (Y' := mY_X8_ask) (as := [.int (xs (s.1 + 1).toNatClampNeg), .int (xs (s.1 + 2).toNatClampNeg)]) (rest := []) (c := 8) (v := (some (.int r22.1))) (M1 := (mj_fin r22.2)) ho_0 rfl lm_L_86 wc_X8_ask pl_X8_ask ok_X8_ask rfl rfl (Nat.le_of_ble_eq_true rfl) (k_X8_ask (by omega) er22) (mj_dl lwd_11 48 rfl) ?_
                                      refine mj_go_aload_n (k := 2) (x := 95) rfl (mj_dl lwd_11 49 rfl) ?_
                                      refine mj_go_aload_n (k := 0) (x := 9000) rfl (mj_dl lwd_12 0 rfl) ?_
                                      refine mj_go_iload_n (k := 3) (x := s.1) rfl (mj_dl lwd_12 1 rfl) ?_
                                      refine mj_go_iconst (v := 1) rfl (mj_dl lwd_12 2 rfl) ?_
                                      refine mj_go_iadd (mj_dl lwd_12 3 rfl) ?_
                                      refine mk_xld c20 (mj_dl lwd_12 4 rfl) ?_
                                      refine mj_go_aload_n (k := 0) (x := 9000) rfl (mj_dl lwd_12 5 rfl) ?_
                                      refine mj_go_iload_n (k := 3) (x := s.1) rfl (mj_dl lwd_12 6 rfl) ?_
                                      refine mj_go_iconst (v := 2) rfl (mj_dl lwd_12 7 rfl) ?_
                                      refine mj_go_iadd (mj_dl lwd_12 8 rfl) ?_
                                      refine mk_xld c21 (mj_dl lwd_12 9 rfl) ?_
                                      obtain ⟨r23, er23, h⟩ := mj_bind_some h
                                      refine ml_callV (Y' := mY_X9_ask) (as := [.int (xs (s.1 + 1).toNatClampNeg), .int (xs (s.1 + 2).toNatClampNeg)]) (rest := [.int r22.1]) (c := 9) (v := (some (.int r23.1))) (M1 := (mj_fin r23.2)) ho_95 rfl lm_L_89 wc_X9_ask pl_X9_ask ok_X9_ask rfl rfl (Nat.le_of_ble_eq_true rfl) (k_X9_ask (by omega) er23) (mj_dl lwd_12 10 rfl) ?_
                                      refine mj_go_icmp_eq (tgt := 1643) rfl (mj_dl lwd_12 11 rfl) (fun b24 => ?_) (fun b24 => ?_)
                                      · rw [if_pos b24] at h
                                        refine mj_go_sub (lv' := [(0, .ref 9000), (1, .ref 0), (2, .ref 95), (3, .int s.1)]) (List.forall_mem_cons.mpr ⟨rfl, (List.forall_mem_cons.mpr ⟨rfl, (List.forall_mem_cons.mpr ⟨rfl, (List.forall_mem_cons.mpr ⟨rfl, (fun _ h9 => absurd h9 List.not_mem_nil)⟩)⟩)⟩)⟩) ?_
                                        exact k_L_law_1643 q_18 hδ h
                                      · rw [if_neg b24] at h
                                        refine mj_go_iconst (v := 0) rfl (mj_dl lwd_12 12 rfl) ?_
                                        obtain rfl := Option.some.inj h
                                        exact mj_go_ret (v := some (.int 0)) (Nat.le_of_ble_eq_true rfl) (mj_retZ (mj_dl lwd_12 13 rfl) rfl rfl)
                                    · rw [if_neg b19] at h
                                      refine ⟨fun b20 => ?_, fun b20 => ?_⟩
                                      · rw [if_pos b20] at h
                                        refine ⟨932, by decide, ?_⟩
                                        refine mj_go_aload_n (k := 1) (x := 0) rfl (mj_dl lwd_12 14 rfl) ?_
                                        refine mj_go_aload_n (k := 0) (x := 9000) rfl (mj_dl lwd_12 15 rfl) ?_
                                        refine mj_go_iload_n (k := 3) (x := s.1) rfl (mj_dl lwd_12 16 rfl) ?_
                                        refine mj_go_iconst (v := 1) rfl (mj_dl lwd_12 17 rfl) ?_
                                        refine mj_go_iadd (mj_dl lwd_12 18 rfl) ?_
                                        obtain ⟨c21, h⟩ := mj_ck_some h
                                        refine mk_xld c21 (mj_dl lwd_12 19 rfl) ?_
                                        obtain ⟨r22, er22, h⟩ := mj_bind_some h
                                        refine ml_callV (Y' := mY_X8_town) (as := [.int (xs (s.1 + 1).toNatClampNeg)]) (rest := []) (c := 8) (v := (some (.int r22.1))) (M1 := (mj_fin r22.2)) ho_0 rfl lm_L_90 wc_X8_town pl_X8_town ok_X8_town rfl rfl (Nat.le_of_ble_eq_true rfl) (k_X8_town (by omega) er22) (mj_dl lwd_12 20 rfl) ?_
                                        refine mj_go_aload_n (k := 2) (x := 95) rfl (mj_dl lwd_12 21 rfl) ?_
                                        refine mj_go_aload_n (k := 0) (x := 9000) rfl (mj_dl lwd_12 22 rfl) ?_
                                        refine mj_go_iload_n (k := 3) (x := s.1) rfl (mj_dl lwd_12 23 rfl) ?_
                                        refine mj_go_iconst (v := 1) rfl (mj_dl lwd_12 24 rfl) ?_
                                        refine mj_go_iadd (mj_dl lwd_12 25 rfl) ?_
                                        refine mk_xld c21 (mj_dl lwd_12 26 rfl) ?_
                                        obtain ⟨r23, er23, h⟩ := mj_bind_some h
                                        refine ml_callV (Y' := mY_X9_town) (as := [.int (xs (s.1 + 1).toNatClampNeg)]) (rest := [.int r22.1]) (c := 9) (v := (some (.int r23.1))) (M1 := (mj_fin r23.2)) ho_95 rfl lm_L_93 wc_X9_town pl_X9_town ok_X9_town rfl rfl (Nat.le_of_ble_eq_true rfl) (k_X9_town (by omega) er23) (mj_dl lwd_12 27 rfl) ?_
                                        refine mj_go_icmp_eq (tgt := 1643) rfl (mj_dl lwd_12 28 rfl) (fun b24 => ?_) (fun b24 => ?_)
                                        · rw [if_pos b24] at h
                                          refine mj_go_sub (lv' := [(0, .ref 9000), (1, .ref 0), (2, .ref 95), (3, .int s.1)]) (List.forall_mem_cons.mpr ⟨rfl, (List.forall_mem_cons.mpr ⟨rfl, (List.forall_mem_cons.mpr ⟨rfl, (List.forall_mem_cons.mpr ⟨rfl, (fun _ h9 => absurd h9 List.not_mem_nil)⟩)⟩)⟩)⟩) ?_
                                          exact k_L_law_1643 q_18 hδ h
                                        · rw [if_neg b24] at h
                                          refine mj_go_iconst (v := 0) rfl (mj_dl lwd_12 29 rfl) ?_
                                          obtain rfl := Option.some.inj h
                                          exact mj_go_ret (v := some (.int 0)) (Nat.le_of_ble_eq_true rfl) (mj_retZ (mj_dl lwd_12 30 rfl) rfl rfl)
                                      · rw [if_neg b20] at h
                                        refine ⟨fun b21 => ?_, fun b21 => ?_⟩
                                        · rw [if_pos b21] at h
                                          refine ⟨955, by decide, ?_⟩
                                          refine mj_go_aload_n (k := 1) (x := 0) rfl (mj_dl lwd_12 31 rfl) ?_
                                          obtain ⟨r22, er22, h⟩ := mj_bind_some h
                                          refine ml_callV (Y' := mY_X8_fault) (as := []) (rest := []) (c := 8) (v := (some (.int r22))) (M1 := (mj_fin s.2)) ho_0 rfl lm_L_94 wc_X8_fault pl_X8_fault ok_X8_fault rfl rfl (Nat.le_of_ble_eq_true rfl) (k_X8_fault (by omega) er22) (mj_dl lwd_12 32 rfl) ?_
                                          refine mj_go_aload_n (k := 2) (x := 95) rfl (mj_dl lwd_12 33 rfl) ?_
                                          obtain ⟨r23, er23, h⟩ := mj_bind_some h
                                          refine ml_callV (Y' := mY_X9_fault) (as := []) (rest := [.int r22]) (c := 9) (v := (some (.int r23))) (M1 := (mj_fin s.2)) ho_95 rfl lm_L_98 wc_X9_fault pl_X9_fault ok_X9_fault rfl rfl (Nat.le_of_ble_eq_true rfl) (k_X9_fault (by omega) er23) (mj_dl lwd_12 34 rfl) ?_
                                          refine mj_go_icmp_eq (tgt := 1643) rfl (mj_dl lwd_12 35 rfl) (fun b24 => ?_) (fun b24 => ?_)
                                          · rw [if_pos b24] at h
                                            refine mj_go_sub (lv' := [(0, .ref 9000), (1, .ref 0), (2, .ref 95), (3, .int s.1)]) (List.forall_mem_cons.mpr ⟨rfl, (List.forall_mem_cons.mpr ⟨rfl, (List.forall_mem_cons.mpr ⟨rfl, (List.forall_mem_cons.mpr ⟨rfl, (fun _ h9 => absurd h9 List.not_mem_nil)⟩)⟩)⟩)⟩) ?_
                                            exact k_L_law_1643 q_18 hδ h
                                          · rw [if_neg b24] at h
                                            refine mj_go_iconst (v := 0) rfl (mj_dl lwd_12 36 rfl) ?_
                                            obtain rfl := Option.some.inj h
                                            exact mj_go_ret (v := some (.int 0)) (Nat.le_of_ble_eq_true rfl) (mj_retZ (mj_dl lwd_12 37 rfl) rfl rfl)
                                        · rw [if_neg b21] at h
                                          refine ⟨fun b22 => ?_, fun b22 => ?_⟩
                                          · rw [if_pos b22] at h
                                            refine ⟨968, by decide, ?_⟩
                                            refine mj_go_aload_n (k := 1) (x := 0) rfl (mj_dl lwd_12 38 rfl) ?_
                                            refine mj_go_aload_n (k := 0) (x := 9000) rfl (mj_dl lwd_12 39 rfl) ?_
                                            refine mj_go_iload_n (k := 3) (x := s.1) rfl (mj_dl lwd_12 40 rfl) ?_
                                            refine mj_go_iconst (v := 1) rfl (mj_dl lwd_12 41 rfl) ?_
                                            refine mj_go_iadd (mj_dl lwd_12 42 rfl) ?_
                                            obtain ⟨c23, h⟩ := mj_ck_some h
                                            refine mk_xld c23 (mj_dl lwd_12 43 rfl) ?_
                                            refine mj_go_aload_n (k := 0) (x := 9000) rfl (mj_dl lwd_12 44 rfl) ?_
                                            refine mj_go_iload_n (k := 3) (x := s.1) rfl (mj_dl lwd_12 45 rfl) ?_
                                            refine mj_go_iconst (v := 2) rfl (mj_dl lwd_12 46 rfl) ?_
                                            refine mj_go_iadd (mj_dl lwd_12 47 rfl) ?_
                                            obtain ⟨c24, h⟩ := mj_ck_some h
                                            refine mk_xld c24 (mj_dl lwd_12 48 rfl) ?_
                                            obtain ⟨r25, er25, h⟩ := mj_bind_some h
                                            refine ml_callV (Y' := mY_X8_falls) (as := [.int (xs (s.1 + 1).toNatClampNeg), .int (xs (s.1 + 2).toNatClampNeg)]) (rest := []) (c := 8) (v := (some (.int r25.1))) (M1 := (mj_fin r25.2)) ho_0 rfl lm_L_99 wc_X8_falls pl_X8_falls ok_X8_falls rfl rfl (Nat.le_of_ble_eq_true rfl) (k_X8_falls (by omega) er25) (mj_dl lwd_12 49 rfl) ?_
                                            refine mj_go_aload_n (k := 2) (x := 95) rfl (mj_dl lwd_13 0 rfl) ?_
                                            refine mj_go_aload_n (k := 0) (x := 9000) rfl (mj_dl lwd_13 1 rfl) ?_
                                            refine mj_go_iload_n (k := 3) (x := s.1) rfl (mj_dl lwd_13 2 rfl) ?_
                                            refine mj_go_iconst (v := 1) rfl (mj_dl lwd_13 3 rfl) ?_
                                            refine mj_go_iadd (mj_dl lwd_13 4 rfl) ?_
                                            refine mk_xld c23 (mj_dl lwd_13 5 rfl) ?_
                                            refine mj_go_aload_n (k := 0) (x := 9000) rfl (mj_dl lwd_13 6 rfl) ?_
                                            refine mj_go_iload_n (k := 3) (x := s.1) rfl (mj_dl lwd_13 7 rfl) ?_
                                            refine mj_go_iconst (v := 2) rfl (mj_dl lwd_13 8 rfl) ?_
                                            refine mj_go_iadd (mj_dl lwd_13 9 rfl) ?_
                                            refine mk_xld c24 (mj_dl lwd_13 10 rfl) ?_
                                            obtain ⟨r26, er26, h⟩ := mj_bind_some h
                                            refine ml_callV (Y' := mY_X9_falls) (as := [.int (xs (s.1 + 1).toNatClampNeg), .int (xs (s.1 + 2).toNatClampNeg)]) (rest := [.int r25.1]) (c := 9) (v := (some (.int r26.1))) (M1 := (mj_fin r26.2)) ho_95 rfl lm_L_102 wc_X9_falls pl_X9_falls ok_X9_falls rfl rfl (Nat.le_of_ble_eq_true rfl) (k_X9_falls (by omega) er26) (mj_dl lwd_13 11 rfl) ?_
                                            refine mj_go_icmp_eq (tgt := 1643) rfl (mj_dl lwd_13 12 rfl) (fun b27 => ?_) (fun b27 => ?_)
                                            · rw [if_pos b27] at h
                                              refine mj_go_sub (lv' := [(0, .ref 9000), (1, .ref 0), (2, .ref 95), (3, .int s.1)]) (List.forall_mem_cons.mpr ⟨rfl, (List.forall_mem_cons.mpr ⟨rfl, (List.forall_mem_cons.mpr ⟨rfl, (List.forall_mem_cons.mpr ⟨rfl, (fun _ h9 => absurd h9 List.not_mem_nil)⟩)⟩)⟩)⟩) ?_
                                              exact k_L_law_1643 q_18 hδ h
                                            · rw [if_neg b27] at h
                                              refine mj_go_iconst (v := 0) rfl (mj_dl lwd_13 13 rfl) ?_
                                              obtain rfl := Option.some.inj h
                                              exact mj_go_ret (v := some (.int 0)) (Nat.le_of_ble_eq_true rfl) (mj_retZ (mj_dl lwd_13 14 rfl) rfl rfl)
                                          · rw [if_neg b22] at h
                                            refine ⟨fun b23 => ?_, fun b23 => ?_⟩
                                            · rw [if_pos b23] at h
                                              refine ⟨1001, by decide, ?_⟩
                                              refine mj_go_aload_n (k := 1) (x := 0) rfl (mj_dl lwd_13 15 rfl) ?_
                                              refine mj_go_aload_n (k := 0) (x := 9000) rfl (mj_dl lwd_13 16 rfl) ?_
                                              refine mj_go_iload_n (k := 3) (x := s.1) rfl (mj_dl lwd_13 17 rfl) ?_
                                              refine mj_go_iconst (v := 1) rfl (mj_dl lwd_13 18 rfl) ?_
                                              refine mj_go_iadd (mj_dl lwd_13 19 rfl) ?_
                                              obtain ⟨c24, h⟩ := mj_ck_some h
                                              refine mk_xld c24 (mj_dl lwd_13 20 rfl) ?_
                                              obtain ⟨r25, er25, h⟩ := mj_bind_some h
                                              refine ml_callV (Y' := mY_X8_cut) (as := [.int (xs (s.1 + 1).toNatClampNeg)]) (rest := []) (c := 8) (v := (some (.int r25.1))) (M1 := (mj_fin r25.2)) ho_0 rfl lm_L_103 wc_X8_cut pl_X8_cut ok_X8_cut rfl rfl (Nat.le_of_ble_eq_true rfl) (k_X8_cut (by omega) er25) (mj_dl lwd_13 21 rfl) ?_
                                              refine mj_go_aload_n (k := 2) (x := 95) rfl (mj_dl lwd_13 22 rfl) ?_
                                              refine mj_go_aload_n (k := 0) (x := 9000) rfl (mj_dl lwd_13 23 rfl) ?_
                                              refine mj_go_iload_n (k := 3) (x := s.1) rfl (mj_dl lwd_13 24 rfl) ?_
                                              refine mj_go_iconst (v := 1) rfl (mj_dl lwd_13 25 rfl) ?_
                                              refine mj_go_iadd (mj_dl lwd_13 26 rfl) ?_
                                              refine mk_xld c24 (mj_dl lwd_13 27 rfl) ?_
                                              obtain ⟨r26, er26, h⟩ := mj_bind_some h
                                              refine ml_callV (Y' := mY_X9_cut) (as := [.int (xs (s.1 + 1).toNatClampNeg)]) (rest := [.int r25.1]) (c := 9) (v := (some (.int r26.1))) (M1 := (mj_fin r26.2)) ho_95 rfl lm_L_106 wc_X9_cut pl_X9_cut ok_X9_cut rfl rfl (Nat.le_of_ble_eq_true rfl) (k_X9_cut (by omega) er26) (mj_dl lwd_13 28 rfl) ?_
                                              refine mj_go_icmp_eq (tgt := 1643) rfl (mj_dl lwd_13 29 rfl) (fun b27 => ?_) (fun b27 => ?_)
                                              · rw [if_pos b27] at h
                                                refine mj_go_sub (lv' := [(0, .ref 9000), (1, .ref 0), (2, .ref 95), (3, .int s.1)]) (List.forall_mem_cons.mpr ⟨rfl, (List.forall_mem_cons.mpr ⟨rfl, (List.forall_mem_cons.mpr ⟨rfl, (List.forall_mem_cons.mpr ⟨rfl, (fun _ h9 => absurd h9 List.not_mem_nil)⟩)⟩)⟩)⟩) ?_
                                                exact k_L_law_1643 q_18 hδ h
                                              · rw [if_neg b27] at h
                                                refine mj_go_iconst (v := 0) rfl (mj_dl lwd_13 30 rfl) ?_
                                                obtain rfl := Option.some.inj h
                                                exact mj_go_ret (v := some (.int 0)) (Nat.le_of_ble_eq_true rfl) (mj_retZ (mj_dl lwd_13 31 rfl) rfl rfl)
                                            · rw [if_neg b23] at h
                                              refine ⟨fun b24 => ?_, fun b24 => ?_⟩
                                              · rw [if_pos b24] at h
                                                refine ⟨1024, by decide, ?_⟩
                                                refine mj_go_aload_n (k := 1) (x := 0) rfl (mj_dl lwd_13 32 rfl) ?_
                                                refine mj_go_aload_n (k := 0) (x := 9000) rfl (mj_dl lwd_13 33 rfl) ?_
                                                refine mj_go_iload_n (k := 3) (x := s.1) rfl (mj_dl lwd_13 34 rfl) ?_
                                                refine mj_go_iconst (v := 1) rfl (mj_dl lwd_13 35 rfl) ?_
                                                refine mj_go_iadd (mj_dl lwd_13 36 rfl) ?_
                                                obtain ⟨c25, h⟩ := mj_ck_some h
                                                refine mk_xld c25 (mj_dl lwd_13 37 rfl) ?_
                                                refine mj_go_aload_n (k := 0) (x := 9000) rfl (mj_dl lwd_13 38 rfl) ?_
                                                refine mj_go_iload_n (k := 3) (x := s.1) rfl (mj_dl lwd_13 39 rfl) ?_
                                                refine mj_go_iconst (v := 2) rfl (mj_dl lwd_13 40 rfl) ?_
                                                refine mj_go_iadd (mj_dl lwd_13 41 rfl) ?_
                                                obtain ⟨c26, h⟩ := mj_ck_some h
                                                refine mk_xld c26 (mj_dl lwd_13 42 rfl) ?_
                                                obtain ⟨r27, er27, h⟩ := mj_bind_some h
                                                refine ml_callV (Y' := mY_X8_lost) (as := [.int (xs (s.1 + 1).toNatClampNeg), .int (xs (s.1 + 2).toNatClampNeg)]) (rest := []) (c := 8) (v := (some (.long r27.1))) (M1 := (mj_fin r27.2)) ho_0 rfl lm_L_107 wc_X8_lost pl_X8_lost ok_X8_lost rfl rfl (Nat.le_of_ble_eq_true rfl) (k_X8_lost (by omega) er27) (mj_dl lwd_13 43 rfl) ?_
                                                refine mj_go_aload_n (k := 2) (x := 95) rfl (mj_dl lwd_13 44 rfl) ?_
                                                refine mj_go_aload_n (k := 0) (x := 9000) rfl (mj_dl lwd_13 45 rfl) ?_
                                                refine mj_go_iload_n (k := 3) (x := s.1) rfl (mj_dl lwd_13 46 rfl) ?_
                                                refine mj_go_iconst (v := 1) rfl (mj_dl lwd_13 47 rfl) ?_
                                                refine mj_go_iadd (mj_dl lwd_13 48 rfl) ?_
                                                refine mk_xld c25 (mj_dl lwd_13 49 rfl) ?_
                                                refine mj_go_aload_n (k := 0) (x := 9000) rfl (mj_dl lwd_14 0 rfl) ?_
                                                refine mj_go_iload_n (k := 3) (x := s.1) rfl (mj_dl lwd_14 1 rfl) ?_
                                                refine mj_go_iconst (v := 2) rfl (mj_dl lwd_14 2 rfl) ?_
                                                refine mj_go_iadd (mj_dl lwd_14 3 rfl) ?_
                                                refine mk_xld c26 (mj_dl lwd_14 4 rfl) ?_
                                                obtain ⟨r28, er28, h⟩ := mj_bind_some h
                                                refine ml_callV (Y' := mY_X9_lost) (as := [.int (xs (s.1 + 1).toNatClampNeg), .int (xs (s.1 + 2).toNatClampNeg)]) (rest := [.long r27.1]) (c := 9) (v := (some (.long r28.1))) (M1 := (mj_fin r28.2)) ho_95 rfl lm_L_110 wc_X9_lost pl_X9_lost ok_X9_lost rfl rfl (Nat.le_of_ble_eq_true rfl) (k_X9_lost (by omega) er28) (mj_dl lwd_14 5 rfl) ?_
                                                refine mj_go_lcmp (mj_dl lwd_14 6 rfl) ?_
                                                refine mj_go_if_eq (tgt := 1643) rfl (mj_dl lwd_14 7 rfl) (fun b29 => ?_) (fun b29 => ?_)
                                                · rw [if_pos b29] at h
                                                  refine mj_go_sub (lv' := [(0, .ref 9000), (1, .ref 0), (2, .ref 95), (3, .int s.1)]) (List.forall_mem_cons.mpr ⟨rfl, (List.forall_mem_cons.mpr ⟨rfl, (List.forall_mem_cons.mpr ⟨rfl, (List.forall_mem_cons.mpr ⟨rfl, (fun _ h9 => absurd h9 List.not_mem_nil)⟩)⟩)⟩)⟩) ?_
                                                  exact k_L_law_1643 q_18 hδ h
                                                · rw [if_neg b29] at h
                                                  refine mj_go_iconst (v := 0) rfl (mj_dl lwd_14 8 rfl) ?_
                                                  obtain rfl := Option.some.inj h
                                                  exact mj_go_ret (v := some (.int 0)) (Nat.le_of_ble_eq_true rfl) (mj_retZ (mj_dl lwd_14 9 rfl) rfl rfl)
                                              · rw [if_neg b24] at h
                                                refine ⟨fun b25 => ?_, fun b25 => ?_⟩
                                                · rw [if_pos b25] at h
                                                  refine ⟨1058, by decide, ?_⟩
                                                  refine mj_go_aload_n (k := 1) (x := 0) rfl (mj_dl lwd_14 10 rfl) ?_
                                                  refine mj_go_aload_n (k := 0) (x := 9000) rfl (mj_dl lwd_14 11 rfl) ?_
                                                  refine mj_go_iload_n (k := 3) (x := s.1) rfl (mj_dl lwd_14 12 rfl) ?_
                                                  refine mj_go_iconst (v := 1) rfl (mj_dl lwd_14 13 rfl) ?_
                                                  refine mj_go_iadd (mj_dl lwd_14 14 rfl) ?_
                                                  obtain ⟨c26, h⟩ := mj_ck_some h
                                                  refine mk_xld c26 (mj_dl lwd_14 15 rfl) ?_
                                                  refine mj_go_aload_n (k := 0) (x := 9000) rfl (mj_dl lwd_14 16 rfl) ?_
                                                  refine mj_go_iload_n (k := 3) (x := s.1) rfl (mj_dl lwd_14 17 rfl) ?_
                                                  refine mj_go_iconst (v := 2) rfl (mj_dl lwd_14 18 rfl) ?_
                                                  refine mj_go_iadd (mj_dl lwd_14 19 rfl) ?_
                                                  obtain ⟨c27, h⟩ := mj_ck_some h
                                                  refine mk_xld c27 (mj_dl lwd_14 20 rfl) ?_
                                                  obtain ⟨r28, er28, h⟩ := mj_bind_some h
                                                  refine ml_callV (Y' := mY_X8_dead) (as := [.int (xs (s.1 + 1).toNatClampNeg), .int (xs (s.1 + 2).toNatClampNeg)]) (rest := []) (c := 8) (v := (some (.long r28.1))) (M1 := (mj_fin r28.2)) ho_0 rfl lm_L_111 wc_X8_dead pl_X8_dead ok_X8_dead rfl rfl (Nat.le_of_ble_eq_true rfl) (k_X8_dead (by omega) er28) (mj_dl lwd_14 21 rfl) ?_
                                                  refine mj_go_aload_n (k := 2) (x := 95) rfl (mj_dl lwd_14 22 rfl) ?_
                                                  refine mj_go_aload_n (k := 0) (x := 9000) rfl (mj_dl lwd_14 23 rfl) ?_
                                                  refine mj_go_iload_n (k := 3) (x := s.1) rfl (mj_dl lwd_14 24 rfl) ?_
                                                  refine mj_go_iconst (v := 1) rfl (mj_dl lwd_14 25 rfl) ?_
                                                  refine mj_go_iadd (mj_dl lwd_14 26 rfl) ?_
                                                  refine mk_xld c26 (mj_dl lwd_14 27 rfl) ?_
                                                  refine mj_go_aload_n (k := 0) (x := 9000) rfl (mj_dl lwd_14 28 rfl) ?_
                                                  refine mj_go_iload_n (k := 3) (x := s.1) rfl (mj_dl lwd_14 29 rfl) ?_
                                                  refine mj_go_iconst (v := 2) rfl (mj_dl lwd_14 30 rfl) ?_
                                                  refine mj_go_iadd (mj_dl lwd_14 31 rfl) ?_
                                                  refine mk_xld c27 (mj_dl lwd_14 32 rfl) ?_
                                                  obtain ⟨r29, er29, h⟩ := mj_bind_some h
                                                  refine ml_callV (Y' := mY_X9_dead) (as := [.int (xs (s.1 + 1).toNatClampNeg), .int (xs (s.1 + 2).toNatClampNeg)]) (rest := [.long r28.1]) (c := 9) (v := (some (.long r29.1))) (M1 := (mj_fin r29.2)) ho_95 rfl lm_L_114 wc_X9_dead pl_X9_dead ok_X9_dead rfl rfl (Nat.le_of_ble_eq_true rfl) (k_X9_dead (by omega) er29) (mj_dl lwd_14 33 rfl) ?_
                                                  refine mj_go_lcmp (mj_dl lwd_14 34 rfl) ?_
                                                  refine mj_go_if_eq (tgt := 1643) rfl (mj_dl lwd_14 35 rfl) (fun b30 => ?_) (fun b30 => ?_)
                                                  · rw [if_pos b30] at h
                                                    refine mj_go_sub (lv' := [(0, .ref 9000), (1, .ref 0), (2, .ref 95), (3, .int s.1)]) (List.forall_mem_cons.mpr ⟨rfl, (List.forall_mem_cons.mpr ⟨rfl, (List.forall_mem_cons.mpr ⟨rfl, (List.forall_mem_cons.mpr ⟨rfl, (fun _ h9 => absurd h9 List.not_mem_nil)⟩)⟩)⟩)⟩) ?_
                                                    exact k_L_law_1643 q_18 hδ h
                                                  · rw [if_neg b30] at h
                                                    refine mj_go_iconst (v := 0) rfl (mj_dl lwd_14 36 rfl) ?_
                                                    obtain rfl := Option.some.inj h
                                                    exact mj_go_ret (v := some (.int 0)) (Nat.le_of_ble_eq_true rfl) (mj_retZ (mj_dl lwd_14 37 rfl) rfl rfl)
                                                · rw [if_neg b25] at h
                                                  refine ⟨fun b26 => ?_, fun b26 => ?_⟩
                                                  · rw [if_pos b26] at h
                                                    refine ⟨1092, by decide, ?_⟩
                                                    refine mj_go_aload_n (k := 1) (x := 0) rfl (mj_dl lwd_14 38 rfl) ?_
                                                    refine mj_go_aload_n (k := 0) (x := 9000) rfl (mj_dl lwd_14 39 rfl) ?_
                                                    refine mj_go_iload_n (k := 3) (x := s.1) rfl (mj_dl lwd_14 40 rfl) ?_
                                                    refine mj_go_iconst (v := 1) rfl (mj_dl lwd_14 41 rfl) ?_
                                                    refine mj_go_iadd (mj_dl lwd_14 42 rfl) ?_
                                                    obtain ⟨c27, h⟩ := mj_ck_some h
                                                    refine mk_xld c27 (mj_dl lwd_14 43 rfl) ?_
                                                    refine mj_go_aload_n (k := 0) (x := 9000) rfl (mj_dl lwd_14 44 rfl) ?_
                                                    refine mj_go_iload_n (k := 3) (x := s.1) rfl (mj_dl lwd_14 45 rfl) ?_
                                                    refine mj_go_iconst (v := 2) rfl (mj_dl lwd_14 46 rfl) ?_
                                                    refine mj_go_iadd (mj_dl lwd_14 47 rfl) ?_
                                                    obtain ⟨c28, h⟩ := mj_ck_some h
                                                    refine mk_xld c28 (mj_dl lwd_14 48 rfl) ?_
                                                    obtain ⟨r29, er29, h⟩ := mj_bind_some h
                                                    refine ml_callV (Y' := mY_X8_shuts) (as := [.int (xs (s.1 + 1).toNatClampNeg), .int (xs (s.1 + 2).toNatClampNeg)]) (rest := []) (c := 8) (v := (some (.long r29.1))) (M1 := (mj_fin r29.2)) ho_0 rfl lm_L_115 wc_X8_shuts pl_X8_shuts ok_X8_shuts rfl rfl (Nat.le_of_ble_eq_true rfl) (k_X8_shuts (by omega) er29) (mj_dl lwd_14 49 rfl) ?_
                                                    refine mj_go_aload_n (k := 2) (x := 95) rfl (mj_dl lwd_15 0 rfl) ?_
                                                    refine mj_go_aload_n (k := 0) (x := 9000) rfl (mj_dl lwd_15 1 rfl) ?_
                                                    refine mj_go_iload_n (k := 3) (x := s.1) rfl (mj_dl lwd_15 2 rfl) ?_
                                                    refine mj_go_iconst (v := 1) rfl (mj_dl lwd_15 3 rfl) ?_
                                                    refine mj_go_iadd (mj_dl lwd_15 4 rfl) ?_
                                                    refine mk_xld c27 (mj_dl lwd_15 5 rfl) ?_
                                                    refine mj_go_aload_n (k := 0) (x := 9000) rfl (mj_dl lwd_15 6 rfl) ?_
                                                    refine mj_go_iload_n (k := 3) (x := s.1) rfl (mj_dl lwd_15 7 rfl) ?_
                                                    refine mj_go_iconst (v := 2) rfl (mj_dl lwd_15 8 rfl) ?_
                                                    refine mj_go_iadd (mj_dl lwd_15 9 rfl) ?_
                                                    refine mk_xld c28 (mj_dl lwd_15 10 rfl) ?_
                                                    obtain ⟨r30, er30, h⟩ := mj_bind_some h
                                                    refine ml_callV (Y' := mY_X9_shuts) (as := [.int (xs (s.1 + 1).toNatClampNeg), .int (xs (s.1 + 2).toNatClampNeg)]) (rest := [.long r29.1]) (c := 9) (v := (some (.long r30.1))) (M1 := (mj_fin r30.2)) ho_95 rfl lm_L_118 wc_X9_shuts pl_X9_shuts ok_X9_shuts rfl rfl (Nat.le_of_ble_eq_true rfl) (k_X9_shuts (by omega) er30) (mj_dl lwd_15 11 rfl) ?_
                                                    refine mj_go_lcmp (mj_dl lwd_15 12 rfl) ?_
                                                    refine mj_go_if_eq (tgt := 1643) rfl (mj_dl lwd_15 13 rfl) (fun b31 => ?_) (fun b31 => ?_)
                                                    · rw [if_pos b31] at h
                                                      refine mj_go_sub (lv' := [(0, .ref 9000), (1, .ref 0), (2, .ref 95), (3, .int s.1)]) (List.forall_mem_cons.mpr ⟨rfl, (List.forall_mem_cons.mpr ⟨rfl, (List.forall_mem_cons.mpr ⟨rfl, (List.forall_mem_cons.mpr ⟨rfl, (fun _ h9 => absurd h9 List.not_mem_nil)⟩)⟩)⟩)⟩) ?_
                                                      exact k_L_law_1643 q_18 hδ h
                                                    · rw [if_neg b31] at h
                                                      refine mj_go_iconst (v := 0) rfl (mj_dl lwd_15 14 rfl) ?_
                                                      obtain rfl := Option.some.inj h
                                                      exact mj_go_ret (v := some (.int 0)) (Nat.le_of_ble_eq_true rfl) (mj_retZ (mj_dl lwd_15 15 rfl) rfl rfl)
                                                  · rw [if_neg b26] at h
                                                    refine ⟨fun b27 => ?_, fun b27 => ?_⟩
                                                    · rw [if_pos b27] at h
                                                      refine ⟨1126, by decide, ?_⟩
                                                      refine mj_go_aload_n (k := 1) (x := 0) rfl (mj_dl lwd_15 16 rfl) ?_
                                                      obtain ⟨r28, er28, h⟩ := mj_bind_some h
                                                      refine ml_callV (Y' := mY_X8_mean) (as := []) (rest := []) (c := 8) (v := (some (.long r28.1))) (M1 := (mj_fin r28.2)) ho_0 rfl lm_L_119 wc_X8_mean pl_X8_mean ok_X8_mean rfl rfl (Nat.le_of_ble_eq_true rfl) (k_X8_mean (by omega) er28) (mj_dl lwd_15 17 rfl) ?_
                                                      refine mj_go_aload_n (k := 2) (x := 95) rfl (mj_dl lwd_15 18 rfl) ?_
                                                      obtain ⟨r29, er29, h⟩ := mj_bind_some h
                                                      refine ml_callV (Y' := mY_X9_mean) (as := []) (rest := [.long r28.1]) (c := 9) (v := (some (.long r29.1))) (M1 := (mj_fin r29.2)) ho_95 rfl lm_L_123 wc_X9_mean pl_X9_mean ok_X9_mean rfl rfl (Nat.le_of_ble_eq_true rfl) (k_X9_mean (by omega) er29) (mj_dl lwd_15 19 rfl) ?_
                                                      refine mj_go_lcmp (mj_dl lwd_15 20 rfl) ?_
                                                      refine mj_go_if_eq (tgt := 1643) rfl (mj_dl lwd_15 21 rfl) (fun b30 => ?_) (fun b30 => ?_)
                                                      · rw [if_pos b30] at h
                                                        refine mj_go_sub (lv' := [(0, .ref 9000), (1, .ref 0), (2, .ref 95), (3, .int s.1)]) (List.forall_mem_cons.mpr ⟨rfl, (List.forall_mem_cons.mpr ⟨rfl, (List.forall_mem_cons.mpr ⟨rfl, (List.forall_mem_cons.mpr ⟨rfl, (fun _ h9 => absurd h9 List.not_mem_nil)⟩)⟩)⟩)⟩) ?_
                                                        exact k_L_law_1643 q_18 hδ h
                                                      · rw [if_neg b30] at h
                                                        refine mj_go_iconst (v := 0) rfl (mj_dl lwd_15 22 rfl) ?_
                                                        obtain rfl := Option.some.inj h
                                                        exact mj_go_ret (v := some (.int 0)) (Nat.le_of_ble_eq_true rfl) (mj_retZ (mj_dl lwd_15 23 rfl) rfl rfl)
                                                    · rw [if_neg b27] at h
                                                      refine ⟨fun b28 => ?_, fun b28 => ?_⟩
                                                      · rw [if_pos b28] at h
                                                        refine ⟨1140, by decide, ?_⟩
                                                        refine mj_go_aload_n (k := 1) (x := 0) rfl (mj_dl lwd_15 24 rfl) ?_
                                                        refine mj_go_aload_n (k := 0) (x := 9000) rfl (mj_dl lwd_15 25 rfl) ?_
                                                        refine mj_go_iload_n (k := 3) (x := s.1) rfl (mj_dl lwd_15 26 rfl) ?_
                                                        refine mj_go_iconst (v := 1) rfl (mj_dl lwd_15 27 rfl) ?_
                                                        refine mj_go_iadd (mj_dl lwd_15 28 rfl) ?_
                                                        obtain ⟨c29, h⟩ := mj_ck_some h
                                                        refine mk_xld c29 (mj_dl lwd_15 29 rfl) ?_
                                                        obtain ⟨r30, er30, h⟩ := mj_bind_some h
                                                        refine ml_callV (Y' := mY_X8_worth) (as := [.int (xs (s.1 + 1).toNatClampNeg)]) (rest := []) (c := 8) (v := (some (.long r30.1))) (M1 := (mj_fin r30.2)) ho_0 rfl lm_L_124 wc_X8_worth pl_X8_worth ok_X8_worth rfl rfl (Nat.le_of_ble_eq_true rfl) (k_X8_worth (by omega) er30) (mj_dl lwd_15 30 rfl) ?_
                                                        refine mj_go_aload_n (k := 2) (x := 95) rfl (mj_dl lwd_15 31 rfl) ?_
                                                        refine mj_go_aload_n (k := 0) (x := 9000) rfl (mj_dl lwd_15 32 rfl) ?_
                                                        refine mj_go_iload_n (k := 3) (x := s.1) rfl (mj_dl lwd_15 33 rfl) ?_
                                                        refine mj_go_iconst (v := 1) rfl (mj_dl lwd_15 34 rfl) ?_
                                                        refine mj_go_iadd (mj_dl lwd_15 35 rfl) ?_
                                                        refine mk_xld c29 (mj_dl lwd_15 36 rfl) ?_
                                                        obtain ⟨r31, er31, h⟩ := mj_bind_some h
                                                        refine ml_callV (Y' := mY_X9_worth) (as := [.int (xs (s.1 + 1).toNatClampNeg)]) (rest := [.long r30.1]) (c := 9) (v := (some (.long r31.1))) (M1 := (mj_fin r31.2)) ho_95 rfl lm_L_128 wc_X9_worth pl_X9_worth ok_X9_worth rfl rfl (Nat.le_of_ble_eq_true rfl) (k_X9_worth (by omega) er31) (mj_dl lwd_15 37 rfl) ?_
                                                        refine mj_go_lcmp (mj_dl lwd_15 38 rfl) ?_
                                                        refine mj_go_if_eq (tgt := 1643) rfl (mj_dl lwd_15 39 rfl) (fun b32 => ?_) (fun b32 => ?_)
                                                        · rw [if_pos b32] at h
                                                          refine mj_go_sub (lv' := [(0, .ref 9000), (1, .ref 0), (2, .ref 95), (3, .int s.1)]) (List.forall_mem_cons.mpr ⟨rfl, (List.forall_mem_cons.mpr ⟨rfl, (List.forall_mem_cons.mpr ⟨rfl, (List.forall_mem_cons.mpr ⟨rfl, (fun _ h9 => absurd h9 List.not_mem_nil)⟩)⟩)⟩)⟩) ?_
                                                          exact k_L_law_1643 q_18 hδ h
                                                        · rw [if_neg b32] at h
                                                          refine mj_go_iconst (v := 0) rfl (mj_dl lwd_15 40 rfl) ?_
                                                          obtain rfl := Option.some.inj h
                                                          exact mj_go_ret (v := some (.int 0)) (Nat.le_of_ble_eq_true rfl) (mj_retZ (mj_dl lwd_15 41 rfl) rfl rfl)
                                                      · rw [if_neg b28] at h
                                                        refine ⟨fun b29 => ?_, fun b29 => ?_⟩
                                                        · rw [if_pos b29] at h
                                                          refine ⟨1164, by decide, ?_⟩
                                                          refine mj_go_aload_n (k := 1) (x := 0) rfl (mj_dl lwd_15 42 rfl) ?_
                                                          obtain ⟨r30, er30, h⟩ := mj_bind_some h
                                                          refine ml_callV (Y' := mY_X8_which) (as := []) (rest := []) (c := 8) (v := (some (.int r30.1))) (M1 := (mj_fin r30.2)) ho_0 rfl lm_L_129 wc_X8_which pl_X8_which ok_X8_which rfl rfl (Nat.le_of_ble_eq_true rfl) (k_X8_which (by omega) er30) (mj_dl lwd_15 43 rfl) ?_
                                                          refine mj_go_aload_n (k := 2) (x := 95) rfl (mj_dl lwd_15 44 rfl) ?_
                                                          obtain ⟨r31, er31, h⟩ := mj_bind_some h
                                                          refine ml_callV (Y' := mY_X9_which) (as := []) (rest := [.int r30.1]) (c := 9) (v := (some (.int r31.1))) (M1 := (mj_fin r31.2)) ho_95 rfl lm_L_132 wc_X9_which pl_X9_which ok_X9_which rfl rfl (Nat.le_of_ble_eq_true rfl) (k_X9_which (by omega) er31) (mj_dl lwd_15 45 rfl) ?_
                                                          refine mj_go_icmp_eq (tgt := 1643) rfl (mj_dl lwd_15 46 rfl) (fun b32 => ?_) (fun b32 => ?_)
                                                          · rw [if_pos b32] at h
                                                            refine mj_go_sub (lv' := [(0, .ref 9000), (1, .ref 0), (2, .ref 95), (3, .int s.1)]) (List.forall_mem_cons.mpr ⟨rfl, (List.forall_mem_cons.mpr ⟨rfl, (List.forall_mem_cons.mpr ⟨rfl, (List.forall_mem_cons.mpr ⟨rfl, (fun _ h9 => absurd h9 List.not_mem_nil)⟩)⟩)⟩)⟩) ?_
                                                            exact k_L_law_1643 q_18 hδ h
                                                          · rw [if_neg b32] at h
                                                            refine mj_go_iconst (v := 0) rfl (mj_dl lwd_15 47 rfl) ?_
                                                            obtain rfl := Option.some.inj h
                                                            exact mj_go_ret (v := some (.int 0)) (Nat.le_of_ble_eq_true rfl) (mj_retZ (mj_dl lwd_15 48 rfl) rfl rfl)
                                                        · rw [if_neg b29] at h
                                                          refine ⟨fun b30 => ?_, fun b30 => ?_⟩
                                                          · rw [if_pos b30] at h
                                                            refine ⟨1177, by decide, ?_⟩
                                                            refine mj_go_aload_n (k := 1) (x := 0) rfl (mj_dl lwd_15 49 rfl) ?_
                                                            refine mj_go_aload_n (k := 0) (x := 9000) rfl (mj_dl lwd_16 0 rfl) ?_
                                                            refine mj_go_iload_n (k := 3) (x := s.1) rfl (mj_dl lwd_16 1 rfl) ?_
                                                            refine mj_go_iconst (v := 1) rfl (mj_dl lwd_16 2 rfl) ?_
                                                            refine mj_go_iadd (mj_dl lwd_16 3 rfl) ?_
                                                            obtain ⟨c31, h⟩ := mj_ck_some h
                                                            refine mk_xld c31 (mj_dl lwd_16 4 rfl) ?_
                                                            refine mj_go_aload_n (k := 0) (x := 9000) rfl (mj_dl lwd_16 5 rfl) ?_
                                                            refine mj_go_iload_n (k := 3) (x := s.1) rfl (mj_dl lwd_16 6 rfl) ?_
                                                            refine mj_go_iconst (v := 2) rfl (mj_dl lwd_16 7 rfl) ?_
                                                            refine mj_go_iadd (mj_dl lwd_16 8 rfl) ?_
                                                            obtain ⟨c32, h⟩ := mj_ck_some h
                                                            refine mk_xld c32 (mj_dl lwd_16 9 rfl) ?_
                                                            obtain ⟨r33, er33, h⟩ := mj_bind_some h
                                                            refine ml_callV (Y' := mY_X8_order) (as := [.int (xs (s.1 + 1).toNatClampNeg), .int (xs (s.1 + 2).toNatClampNeg)]) (rest := []) (c := 8) (v := (some (.int r33.1))) (M1 := (mj_fin r33.2)) ho_0 rfl lm_L_133 wc_X8_order pl_X8_order ok_X8_order rfl rfl (Nat.le_of_ble_eq_true rfl) (k_X8_order (by omega) er33) (mj_dl lwd_16 10 rfl) ?_
                                                            refine mj_go_aload_n (k := 2) (x := 95) rfl (mj_dl lwd_16 11 rfl) ?_
                                                            refine mj_go_aload_n (k := 0) (x := 9000) rfl (mj_dl lwd_16 12 rfl) ?_
                                                            refine mj_go_iload_n (k := 3) (x := s.1) rfl (mj_dl lwd_16 13 rfl) ?_
                                                            refine mj_go_iconst (v := 1) rfl (mj_dl lwd_16 14 rfl) ?_
                                                            refine mj_go_iadd (mj_dl lwd_16 15 rfl) ?_
                                                            refine mk_xld c31 (mj_dl lwd_16 16 rfl) ?_
                                                            refine mj_go_aload_n (k := 0) (x := 9000) rfl (mj_dl lwd_16 17 rfl) ?_
                                                            refine mj_go_iload_n (k := 3) (x := s.1) rfl (mj_dl lwd_16 18 rfl) ?_
                                                            refine mj_go_iconst (v := 2) rfl (mj_dl lwd_16 19 rfl) ?_
                                                            refine mj_go_iadd (mj_dl lwd_16 20 rfl) ?_
                                                            refine mk_xld c32 (mj_dl lwd_16 21 rfl) ?_
                                                            obtain ⟨r34, er34, h⟩ := mj_bind_some h
                                                            refine ml_callV (Y' := mY_X9_order) (as := [.int (xs (s.1 + 1).toNatClampNeg), .int (xs (s.1 + 2).toNatClampNeg)]) (rest := [.int r33.1]) (c := 9) (v := (some (.int r34.1))) (M1 := (mj_fin r34.2)) ho_95 rfl lm_L_136 wc_X9_order pl_X9_order ok_X9_order rfl rfl (Nat.le_of_ble_eq_true rfl) (k_X9_order (by omega) er34) (mj_dl lwd_16 22 rfl) ?_
                                                            refine mj_go_icmp_eq (tgt := 1643) rfl (mj_dl lwd_16 23 rfl) (fun b35 => ?_) (fun b35 => ?_)
                                                            · rw [if_pos b35] at h
                                                              refine mj_go_sub (lv' := [(0, .ref 9000), (1, .ref 0), (2, .ref 95), (3, .int s.1)]) (List.forall_mem_cons.mpr ⟨rfl, (List.forall_mem_cons.mpr ⟨rfl, (List.forall_mem_cons.mpr ⟨rfl, (List.forall_mem_cons.mpr ⟨rfl, (fun _ h9 => absurd h9 List.not_mem_nil)⟩)⟩)⟩)⟩) ?_
                                                              exact k_L_law_1643 q_18 hδ h
                                                            · rw [if_neg b35] at h
                                                              refine mj_go_iconst (v := 0) rfl (mj_dl lwd_16 24 rfl) ?_
                                                              obtain rfl := Option.some.inj h
                                                              exact mj_go_ret (v := some (.int 0)) (Nat.le_of_ble_eq_true rfl) (mj_retZ (mj_dl lwd_16 25 rfl) rfl rfl)
                                                          · rw [if_neg b30] at h
                                                            refine ⟨fun b31 => ?_, fun b31 => ?_⟩
                                                            · rw [if_pos b31] at h
                                                              refine ⟨1210, by decide, ?_⟩
                                                              refine mj_go_aload_n (k := 1) (x := 0) rfl (mj_dl lwd_16 26 rfl) ?_
                                                              refine mj_go_aload_n (k := 0) (x := 9000) rfl (mj_dl lwd_16 27 rfl) ?_
                                                              refine mj_go_iload_n (k := 3) (x := s.1) rfl (mj_dl lwd_16 28 rfl) ?_
                                                              refine mj_go_iconst (v := 1) rfl (mj_dl lwd_16 29 rfl) ?_
                                                              refine mj_go_iadd (mj_dl lwd_16 30 rfl) ?_
                                                              obtain ⟨c32, h⟩ := mj_ck_some h
                                                              refine mk_xld c32 (mj_dl lwd_16 31 rfl) ?_
                                                              refine mj_go_aload_n (k := 0) (x := 9000) rfl (mj_dl lwd_16 32 rfl) ?_
                                                              refine mj_go_iload_n (k := 3) (x := s.1) rfl (mj_dl lwd_16 33 rfl) ?_
                                                              refine mj_go_iconst (v := 2) rfl (mj_dl lwd_16 34 rfl) ?_
                                                              refine mj_go_iadd (mj_dl lwd_16 35 rfl) ?_
                                                              obtain ⟨c33, h⟩ := mj_ck_some h
                                                              refine mk_xld c33 (mj_dl lwd_16 36 rfl) ?_
                                                              obtain ⟨r34, er34, h⟩ := mj_bind_some h
                                                              refine ml_callV (Y' := mY_X8_plan) (as := [.int (xs (s.1 + 1).toNatClampNeg), .int (xs (s.1 + 2).toNatClampNeg)]) (rest := []) (c := 8) (v := (some (.long r34.1))) (M1 := (mj_fin r34.2)) ho_0 rfl lm_L_137 wc_X8_plan pl_X8_plan ok_X8_plan rfl rfl (Nat.le_of_ble_eq_true rfl) (k_X8_plan (by omega) er34) (mj_dl lwd_16 37 rfl) ?_
                                                              refine mj_go_aload_n (k := 2) (x := 95) rfl (mj_dl lwd_16 38 rfl) ?_
                                                              refine mj_go_aload_n (k := 0) (x := 9000) rfl (mj_dl lwd_16 39 rfl) ?_
                                                              refine mj_go_iload_n (k := 3) (x := s.1) rfl (mj_dl lwd_16 40 rfl) ?_
                                                              refine mj_go_iconst (v := 1) rfl (mj_dl lwd_16 41 rfl) ?_
                                                              refine mj_go_iadd (mj_dl lwd_16 42 rfl) ?_
                                                              refine mk_xld c32 (mj_dl lwd_16 43 rfl) ?_
                                                              refine mj_go_aload_n (k := 0) (x := 9000) rfl (mj_dl lwd_16 44 rfl) ?_
                                                              refine mj_go_iload_n (k := 3) (x := s.1) rfl (mj_dl lwd_16 45 rfl) ?_
                                                              refine mj_go_iconst (v := 2) rfl (mj_dl lwd_16 46 rfl) ?_
                                                              refine mj_go_iadd (mj_dl lwd_16 47 rfl) ?_
                                                              refine mk_xld c33 (mj_dl lwd_16 48 rfl) ?_
                                                              obtain ⟨r35, er35, h⟩ := mj_bind_some h
                                                              refine ml_callV (Y' := mY_X9_plan) (as := [.int (xs (s.1 + 1).toNatClampNeg), .int (xs (s.1 + 2).toNatClampNeg)]) (rest := [.long r34.1]) (c := 9) (v := (some (.long r35.1))) (M1 := (mj_fin r35.2)) ho_95 rfl lm_L_140 wc_X9_plan pl_X9_plan ok_X9_plan rfl rfl (Nat.le_of_ble_eq_true rfl) (k_X9_plan (by omega) er35) (mj_dl lwd_16 49 rfl) ?_
                                                              refine mj_go_lcmp (mj_dl lwd_17 0 rfl) ?_
                                                              refine mj_go_if_eq (tgt := 1643) rfl (mj_dl lwd_17 1 rfl) (fun b36 => ?_) (fun b36 => ?_)
                                                              · rw [if_pos b36] at h
                                                                refine mj_go_sub (lv' := [(0, .ref 9000), (1, .ref 0), (2, .ref 95), (3, .int s.1)]) (List.forall_mem_cons.mpr ⟨rfl, (List.forall_mem_cons.mpr ⟨rfl, (List.forall_mem_cons.mpr ⟨rfl, (List.forall_mem_cons.mpr ⟨rfl, (fun _ h9 => absurd h9 List.not_mem_nil)⟩)⟩)⟩)⟩) ?_
                                                                exact k_L_law_1643 q_18 hδ h
                                                              · rw [if_neg b36] at h
                                                                refine mj_go_iconst (v := 0) rfl (mj_dl lwd_17 2 rfl) ?_
                                                                obtain rfl := Option.some.inj h
                                                                exact mj_go_ret (v := some (.int 0)) (Nat.le_of_ble_eq_true rfl) (mj_retZ (mj_dl lwd_17 3 rfl) rfl rfl)
                                                            · rw [if_neg b31] at h
                                                              refine ⟨fun b32 => ?_, fun b32 => ?_⟩
                                                              · rw [if_pos b32] at h
                                                                refine ⟨1244, by decide, ?_⟩
                                                                refine mj_go_aload_n (k := 1) (x := 0) rfl (mj_dl lwd_17 4 rfl) ?_
                                                                refine mj_go_aload_n (k := 0) (x := 9000) rfl (mj_dl lwd_17 5 rfl) ?_
                                                                refine mj_go_iload_n (k := 3) (x := s.1) rfl (mj_dl lwd_17 6 rfl) ?_
                                                                refine mj_go_iconst (v := 1) rfl (mj_dl lwd_17 7 rfl) ?_
                                                                refine mj_go_iadd (mj_dl lwd_17 8 rfl) ?_
                                                                obtain ⟨c33, h⟩ := mj_ck_some h
                                                                refine mk_xld c33 (mj_dl lwd_17 9 rfl) ?_
                                                                refine mj_go_aload_n (k := 0) (x := 9000) rfl (mj_dl lwd_17 10 rfl) ?_
                                                                refine mj_go_iload_n (k := 3) (x := s.1) rfl (mj_dl lwd_17 11 rfl) ?_
                                                                refine mj_go_iconst (v := 2) rfl (mj_dl lwd_17 12 rfl) ?_
                                                                refine mj_go_iadd (mj_dl lwd_17 13 rfl) ?_
                                                                obtain ⟨c34, h⟩ := mj_ck_some h
                                                                refine mk_xld c34 (mj_dl lwd_17 14 rfl) ?_
                                                                obtain ⟨r35, er35, h⟩ := mj_bind_some h
                                                                refine ml_callV (Y' := mY_X8_steps) (as := [.int (xs (s.1 + 1).toNatClampNeg), .int (xs (s.1 + 2).toNatClampNeg)]) (rest := []) (c := 8) (v := (some (.int r35.1))) (M1 := (mj_fin r35.2)) ho_0 rfl lm_L_141 wc_X8_steps pl_X8_steps ok_X8_steps rfl rfl (Nat.le_of_ble_eq_true rfl) (k_X8_steps (by omega) er35) (mj_dl lwd_17 15 rfl) ?_
                                                                refine mj_go_aload_n (k := 2) (x := 95) rfl (mj_dl lwd_17 16 rfl) ?_
                                                                refine mj_go_aload_n (k := 0) (x := 9000) rfl (mj_dl lwd_17 17 rfl) ?_
                                                                refine mj_go_iload_n (k := 3) (x := s.1) rfl (mj_dl lwd_17 18 rfl) ?_
                                                                refine mj_go_iconst (v := 1) rfl (mj_dl lwd_17 19 rfl) ?_
                                                                refine mj_go_iadd (mj_dl lwd_17 20 rfl) ?_
                                                                refine mk_xld c33 (mj_dl lwd_17 21 rfl) ?_
                                                                refine mj_go_aload_n (k := 0) (x := 9000) rfl (mj_dl lwd_17 22 rfl) ?_
                                                                refine mj_go_iload_n (k := 3) (x := s.1) rfl (mj_dl lwd_17 23 rfl) ?_
                                                                refine mj_go_iconst (v := 2) rfl (mj_dl lwd_17 24 rfl) ?_
                                                                refine mj_go_iadd (mj_dl lwd_17 25 rfl) ?_
                                                                refine mk_xld c34 (mj_dl lwd_17 26 rfl) ?_
                                                                obtain ⟨r36, er36, h⟩ := mj_bind_some h
                                                                refine ml_callV (Y' := mY_X9_steps) (as := [.int (xs (s.1 + 1).toNatClampNeg), .int (xs (s.1 + 2).toNatClampNeg)]) (rest := [.int r35.1]) (c := 9) (v := (some (.int r36.1))) (M1 := (mj_fin r36.2)) ho_95 rfl lm_L_144 wc_X9_steps pl_X9_steps ok_X9_steps rfl rfl (Nat.le_of_ble_eq_true rfl) (k_X9_steps (by omega) er36) (mj_dl lwd_17 27 rfl) ?_
                                                                refine mj_go_icmp_eq (tgt := 1643) rfl (mj_dl lwd_17 28 rfl) (fun b37 => ?_) (fun b37 => ?_)
                                                                · rw [if_pos b37] at h
                                                                  refine mj_go_sub (lv' := [(0, .ref 9000), (1, .ref 0), (2, .ref 95), (3, .int s.1)]) (List.forall_mem_cons.mpr ⟨rfl, (List.forall_mem_cons.mpr ⟨rfl, (List.forall_mem_cons.mpr ⟨rfl, (List.forall_mem_cons.mpr ⟨rfl, (fun _ h9 => absurd h9 List.not_mem_nil)⟩)⟩)⟩)⟩) ?_
                                                                  exact k_L_law_1643 q_18 hδ h
                                                                · rw [if_neg b37] at h
                                                                  refine mj_go_iconst (v := 0) rfl (mj_dl lwd_17 29 rfl) ?_
                                                                  obtain rfl := Option.some.inj h
                                                                  exact mj_go_ret (v := some (.int 0)) (Nat.le_of_ble_eq_true rfl) (mj_retZ (mj_dl lwd_17 30 rfl) rfl rfl)
                                                              · rw [if_neg b32] at h
                                                                refine ⟨fun b33 => ?_, fun b33 => ?_⟩
                                                                · rw [if_pos b33] at h
                                                                  refine ⟨1277, by decide, ?_⟩
                                                                  refine mj_go_aload_n (k := 1) (x := 0) rfl (mj_dl lwd_17 31 rfl) ?_
                                                                  refine mj_go_aload_n (k := 0) (x := 9000) rfl (mj_dl lwd_17 32 rfl) ?_
                                                                  refine mj_go_iload_n (k := 3) (x := s.1) rfl (mj_dl lwd_17 33 rfl) ?_
                                                                  refine mj_go_iconst (v := 1) rfl (mj_dl lwd_17 34 rfl) ?_
                                                                  refine mj_go_iadd (mj_dl lwd_17 35 rfl) ?_
                                                                  obtain ⟨c34, h⟩ := mj_ck_some h
                                                                  refine mk_xld c34 (mj_dl lwd_17 36 rfl) ?_
                                                                  refine mj_go_aload_n (k := 0) (x := 9000) rfl (mj_dl lwd_17 37 rfl) ?_
                                                                  refine mj_go_iload_n (k := 3) (x := s.1) rfl (mj_dl lwd_17 38 rfl) ?_
                                                                  refine mj_go_iconst (v := 2) rfl (mj_dl lwd_17 39 rfl) ?_
                                                                  refine mj_go_iadd (mj_dl lwd_17 40 rfl) ?_
                                                                  obtain ⟨c35, h⟩ := mj_ck_some h
                                                                  refine mk_xld c35 (mj_dl lwd_17 41 rfl) ?_
                                                                  obtain ⟨r36, er36, h⟩ := mj_bind_some h
                                                                  refine ml_callV (Y' := mY_X8_judge) (as := [.int (xs (s.1 + 1).toNatClampNeg), .int (xs (s.1 + 2).toNatClampNeg)]) (rest := []) (c := 8) (v := (some (.long r36.1))) (M1 := (mj_fin r36.2)) ho_0 rfl lm_L_145 wc_X8_judge pl_X8_judge ok_X8_judge rfl rfl (Nat.le_of_ble_eq_true rfl) (k_X8_judge (by omega) er36) (mj_dl lwd_17 42 rfl) ?_
                                                                  refine mj_go_aload_n (k := 2) (x := 95) rfl (mj_dl lwd_17 43 rfl) ?_
                                                                  refine mj_go_aload_n (k := 0) (x := 9000) rfl (mj_dl lwd_17 44 rfl) ?_
                                                                  refine mj_go_iload_n (k := 3) (x := s.1) rfl (mj_dl lwd_17 45 rfl) ?_
                                                                  refine mj_go_iconst (v := 1) rfl (mj_dl lwd_17 46 rfl) ?_
                                                                  refine mj_go_iadd (mj_dl lwd_17 47 rfl) ?_
                                                                  refine mk_xld c34 (mj_dl lwd_17 48 rfl) ?_
                                                                  refine mj_go_aload_n (k := 0) (x := 9000) rfl (mj_dl lwd_17 49 rfl) ?_
                                                                  refine mj_go_iload_n (k := 3) (x := s.1) rfl (mj_dl lwd_18 0 rfl) ?_
                                                                  refine mj_go_iconst (v := 2) rfl (mj_dl lwd_18 1 rfl) ?_
                                                                  refine mj_go_iadd (mj_dl lwd_18 2 rfl) ?_
                                                                  refine mk_xld c35 (mj_dl lwd_18 3 rfl) ?_
                                                                  obtain ⟨r37, er37, h⟩ := mj_bind_some h
                                                                  refine ml_callV (Y' := mY_X9_judge) (as := [.int (xs (s.1 + 1).toNatClampNeg), .int (xs (s.1 + 2).toNatClampNeg)]) (rest := [.long r36.1]) (c := 9) (v := (some (.long r37.1))) (M1 := (mj_fin r37.2)) ho_95 rfl lm_L_148 wc_X9_judge pl_X9_judge ok_X9_judge rfl rfl (Nat.le_of_ble_eq_true rfl) (k_X9_judge (by omega) er37) (mj_dl lwd_18 4 rfl) ?_
                                                                  refine mj_go_lcmp (mj_dl lwd_18 5 rfl) ?_
                                                                  refine mj_go_if_eq (tgt := 1643) rfl (mj_dl lwd_18 6 rfl) (fun b38 => ?_) (fun b38 => ?_)
                                                                  · rw [if_pos b38] at h
                                                                    refine mj_go_sub (lv' := [(0, .ref 9000), (1, .ref 0), (2, .ref 95), (3, .int s.1)]) (List.forall_mem_cons.mpr ⟨rfl, (List.forall_mem_cons.mpr ⟨rfl, (List.forall_mem_cons.mpr ⟨rfl, (List.forall_mem_cons.mpr ⟨rfl, (fun _ h9 => absurd h9 List.not_mem_nil)⟩)⟩)⟩)⟩) ?_
                                                                    exact k_L_law_1643 q_18 hδ h
                                                                  · rw [if_neg b38] at h
                                                                    refine mj_go_iconst (v := 0) rfl (mj_dl lwd_18 7 rfl) ?_
                                                                    obtain rfl := Option.some.inj h
                                                                    exact mj_go_ret (v := some (.int 0)) (Nat.le_of_ble_eq_true rfl) (mj_retZ (mj_dl lwd_18 8 rfl) rfl rfl)
                                                                · rw [if_neg b33] at h
                                                                  refine ⟨fun b34 => ?_, fun b34 => ?_⟩
                                                                  · rw [if_pos b34] at h
                                                                    refine ⟨1311, by decide, ?_⟩
                                                                    refine mj_go_aload_n (k := 1) (x := 0) rfl (mj_dl lwd_18 9 rfl) ?_
                                                                    refine mj_go_aload_n (k := 0) (x := 9000) rfl (mj_dl lwd_18 10 rfl) ?_
                                                                    refine mj_go_iload_n (k := 3) (x := s.1) rfl (mj_dl lwd_18 11 rfl) ?_
                                                                    refine mj_go_iconst (v := 1) rfl (mj_dl lwd_18 12 rfl) ?_
                                                                    refine mj_go_iadd (mj_dl lwd_18 13 rfl) ?_
                                                                    obtain ⟨c35, h⟩ := mj_ck_some h
                                                                    refine mk_xld c35 (mj_dl lwd_18 14 rfl) ?_
                                                                    obtain ⟨r36, er36, h⟩ := mj_bind_some h
                                                                    refine ml_callV (Y' := mY_X8_best) (as := [.int (xs (s.1 + 1).toNatClampNeg)]) (rest := []) (c := 8) (v := (some (.long r36.1))) (M1 := (mj_fin r36.2)) ho_0 rfl lm_L_149 wc_X8_best pl_X8_best ok_X8_best rfl rfl (Nat.le_of_ble_eq_true rfl) (k_X8_best (by omega) er36) (mj_dl lwd_18 15 rfl) ?_
                                                                    refine mj_go_aload_n (k := 2) (x := 95) rfl (mj_dl lwd_18 16 rfl) ?_
                                                                    refine mj_go_aload_n (k := 0) (x := 9000) rfl (mj_dl lwd_18 17 rfl) ?_
                                                                    refine mj_go_iload_n (k := 3) (x := s.1) rfl (mj_dl lwd_18 18 rfl) ?_
                                                                    refine mj_go_iconst (v := 1) rfl (mj_dl lwd_18 19 rfl) ?_
                                                                    refine mj_go_iadd (mj_dl lwd_18 20 rfl) ?_
                                                                    refine mk_xld c35 (mj_dl lwd_18 21 rfl) ?_
                                                                    obtain ⟨r37, er37, h⟩ := mj_bind_some h
                                                                    refine ml_callV (Y' := mY_X9_best) (as := [.int (xs (s.1 + 1).toNatClampNeg)]) (rest := [.long r36.1]) (c := 9) (v := (some (.long r37.1))) (M1 := (mj_fin r37.2)) ho_95 rfl lm_L_152 wc_X9_best pl_X9_best ok_X9_best rfl rfl (Nat.le_of_ble_eq_true rfl) (k_X9_best (by omega) er37) (mj_dl lwd_18 22 rfl) ?_
                                                                    refine mj_go_lcmp (mj_dl lwd_18 23 rfl) ?_
                                                                    refine mj_go_if_eq (tgt := 1643) rfl (mj_dl lwd_18 24 rfl) (fun b38 => ?_) (fun b38 => ?_)
                                                                    · rw [if_pos b38] at h
                                                                      refine mj_go_sub (lv' := [(0, .ref 9000), (1, .ref 0), (2, .ref 95), (3, .int s.1)]) (List.forall_mem_cons.mpr ⟨rfl, (List.forall_mem_cons.mpr ⟨rfl, (List.forall_mem_cons.mpr ⟨rfl, (List.forall_mem_cons.mpr ⟨rfl, (fun _ h9 => absurd h9 List.not_mem_nil)⟩)⟩)⟩)⟩) ?_
                                                                      exact k_L_law_1643 q_18 hδ h
                                                                    · rw [if_neg b38] at h
                                                                      refine mj_go_iconst (v := 0) rfl (mj_dl lwd_18 25 rfl) ?_
                                                                      obtain rfl := Option.some.inj h
                                                                      exact mj_go_ret (v := some (.int 0)) (Nat.le_of_ble_eq_true rfl) (mj_retZ (mj_dl lwd_18 26 rfl) rfl rfl)
                                                                  · rw [if_neg b34] at h
                                                                    refine ⟨fun b35 => ?_, fun b35 => ?_⟩
                                                                    · rw [if_pos b35] at h
                                                                      refine ⟨1335, by decide, ?_⟩
                                                                      refine mj_go_aload_n (k := 1) (x := 0) rfl (mj_dl lwd_18 27 rfl) ?_
                                                                      refine mj_go_aload_n (k := 0) (x := 9000) rfl (mj_dl lwd_18 28 rfl) ?_
                                                                      refine mj_go_iload_n (k := 3) (x := s.1) rfl (mj_dl lwd_18 29 rfl) ?_
                                                                      refine mj_go_iconst (v := 1) rfl (mj_dl lwd_18 30 rfl) ?_
                                                                      refine mj_go_iadd (mj_dl lwd_18 31 rfl) ?_
                                                                      obtain ⟨c36, h⟩ := mj_ck_some h
                                                                      refine mk_xld c36 (mj_dl lwd_18 32 rfl) ?_
                                                                      refine mj_go_aload_n (k := 0) (x := 9000) rfl (mj_dl lwd_18 33 rfl) ?_
                                                                      refine mj_go_iload_n (k := 3) (x := s.1) rfl (mj_dl lwd_18 34 rfl) ?_
                                                                      refine mj_go_iconst (v := 2) rfl (mj_dl lwd_18 35 rfl) ?_
                                                                      refine mj_go_iadd (mj_dl lwd_18 36 rfl) ?_
                                                                      obtain ⟨c37, h⟩ := mj_ck_some h
                                                                      refine mk_xld c37 (mj_dl lwd_18 37 rfl) ?_
                                                                      obtain ⟨r38, er38, h⟩ := mj_bind_some h
                                                                      refine ml_callV (Y' := mY_X8_first) (as := [.int (xs (s.1 + 1).toNatClampNeg), .int (xs (s.1 + 2).toNatClampNeg)]) (rest := []) (c := 8) (v := (some (.int r38.1))) (M1 := (mj_fin r38.2)) ho_0 rfl lm_L_153 wc_X8_first pl_X8_first ok_X8_first rfl rfl (Nat.le_of_ble_eq_true rfl) (k_X8_first (by omega) er38) (mj_dl lwd_18 38 rfl) ?_
                                                                      refine mj_go_aload_n (k := 2) (x := 95) rfl (mj_dl lwd_18 39 rfl) ?_
                                                                      refine mj_go_aload_n (k := 0) (x := 9000) rfl (mj_dl lwd_18 40 rfl) ?_
                                                                      refine mj_go_iload_n (k := 3) (x := s.1) rfl (mj_dl lwd_18 41 rfl) ?_
                                                                      refine mj_go_iconst (v := 1) rfl (mj_dl lwd_18 42 rfl) ?_
                                                                      refine mj_go_iadd (mj_dl lwd_18 43 rfl) ?_
                                                                      refine mk_xld c36 (mj_dl lwd_18 44 rfl) ?_
                                                                      refine mj_go_aload_n (k := 0) (x := 9000) rfl (mj_dl lwd_18 45 rfl) ?_
                                                                      refine mj_go_iload_n (k := 3) (x := s.1) rfl (mj_dl lwd_18 46 rfl) ?_
                                                                      refine mj_go_iconst (v := 2) rfl (mj_dl lwd_18 47 rfl) ?_
                                                                      refine mj_go_iadd (mj_dl lwd_18 48 rfl) ?_
                                                                      refine mk_xld c37 (mj_dl lwd_18 49 rfl) ?_
                                                                      obtain ⟨r39, er39, h⟩ := mj_bind_some h
                                                                      refine ml_callV (Y' := mY_X9_first) (as := [.int (xs (s.1 + 1).toNatClampNeg), .int (xs (s.1 + 2).toNatClampNeg)]) (rest := [.int r38.1]) (c := 9) (v := (some (.int r39.1))) (M1 := (mj_fin r39.2)) ho_95 rfl lm_L_156 wc_X9_first pl_X9_first ok_X9_first rfl rfl (Nat.le_of_ble_eq_true rfl) (k_X9_first (by omega) er39) (mj_dl lwd_19 0 rfl) ?_
                                                                      refine mj_go_icmp_eq (tgt := 1643) rfl (mj_dl lwd_19 1 rfl) (fun b40 => ?_) (fun b40 => ?_)
                                                                      · rw [if_pos b40] at h
                                                                        refine mj_go_sub (lv' := [(0, .ref 9000), (1, .ref 0), (2, .ref 95), (3, .int s.1)]) (List.forall_mem_cons.mpr ⟨rfl, (List.forall_mem_cons.mpr ⟨rfl, (List.forall_mem_cons.mpr ⟨rfl, (List.forall_mem_cons.mpr ⟨rfl, (fun _ h9 => absurd h9 List.not_mem_nil)⟩)⟩)⟩)⟩) ?_
                                                                        exact k_L_law_1643 q_18 hδ h
                                                                      · rw [if_neg b40] at h
                                                                        refine mj_go_iconst (v := 0) rfl (mj_dl lwd_19 2 rfl) ?_
                                                                        obtain rfl := Option.some.inj h
                                                                        exact mj_go_ret (v := some (.int 0)) (Nat.le_of_ble_eq_true rfl) (mj_retZ (mj_dl lwd_19 3 rfl) rfl rfl)
                                                                    · rw [if_neg b35] at h
                                                                      refine ⟨fun b36 => ?_, fun b36 => ?_⟩
                                                                      · rw [if_pos b36] at h
                                                                        refine ⟨1368, by decide, ?_⟩
                                                                        refine mj_go_aload_n (k := 1) (x := 0) rfl (mj_dl lwd_19 4 rfl) ?_
                                                                        refine mj_go_aload_n (k := 0) (x := 9000) rfl (mj_dl lwd_19 5 rfl) ?_
                                                                        refine mj_go_iload_n (k := 3) (x := s.1) rfl (mj_dl lwd_19 6 rfl) ?_
                                                                        refine mj_go_iconst (v := 1) rfl (mj_dl lwd_19 7 rfl) ?_
                                                                        refine mj_go_iadd (mj_dl lwd_19 8 rfl) ?_
                                                                        obtain ⟨c37, h⟩ := mj_ck_some h
                                                                        refine mk_xld c37 (mj_dl lwd_19 9 rfl) ?_
                                                                        refine mj_go_aload_n (k := 0) (x := 9000) rfl (mj_dl lwd_19 10 rfl) ?_
                                                                        refine mj_go_iload_n (k := 3) (x := s.1) rfl (mj_dl lwd_19 11 rfl) ?_
                                                                        refine mj_go_iconst (v := 2) rfl (mj_dl lwd_19 12 rfl) ?_
                                                                        refine mj_go_iadd (mj_dl lwd_19 13 rfl) ?_
                                                                        obtain ⟨c38, h⟩ := mj_ck_some h
                                                                        refine mk_xld c38 (mj_dl lwd_19 14 rfl) ?_
                                                                        obtain ⟨r39, er39, h⟩ := mj_bind_some h
                                                                        refine ml_callV (Y' := mY_X8_gap) (as := [.int (xs (s.1 + 1).toNatClampNeg), .int (xs (s.1 + 2).toNatClampNeg)]) (rest := []) (c := 8) (v := (some (.long r39.1))) (M1 := (mj_fin r39.2)) ho_0 rfl lm_L_157 wc_X8_gap pl_X8_gap ok_X8_gap rfl rfl (Nat.le_of_ble_eq_true rfl) (k_X8_gap (by omega) er39) (mj_dl lwd_19 15 rfl) ?_
                                                                        refine mj_go_aload_n (k := 2) (x := 95) rfl (mj_dl lwd_19 16 rfl) ?_
                                                                        refine mj_go_aload_n (k := 0) (x := 9000) rfl (mj_dl lwd_19 17 rfl) ?_
                                                                        refine mj_go_iload_n (k := 3) (x := s.1) rfl (mj_dl lwd_19 18 rfl) ?_
                                                                        refine mj_go_iconst (v := 1) rfl (mj_dl lwd_19 19 rfl) ?_
                                                                        refine mj_go_iadd (mj_dl lwd_19 20 rfl) ?_
                                                                        refine mk_xld c37 (mj_dl lwd_19 21 rfl) ?_
                                                                        refine mj_go_aload_n (k := 0) (x := 9000) rfl (mj_dl lwd_19 22 rfl) ?_
                                                                        refine mj_go_iload_n (k := 3) (x := s.1) rfl (mj_dl lwd_19 23 rfl) ?_
                                                                        refine mj_go_iconst (v := 2) rfl (mj_dl lwd_19 24 rfl) ?_
                                                                        refine mj_go_iadd (mj_dl lwd_19 25 rfl) ?_
                                                                        refine mk_xld c38 (mj_dl lwd_19 26 rfl) ?_
                                                                        obtain ⟨r40, er40, h⟩ := mj_bind_some h
                                                                        refine ml_callV (Y' := mY_X9_gap) (as := [.int (xs (s.1 + 1).toNatClampNeg), .int (xs (s.1 + 2).toNatClampNeg)]) (rest := [.long r39.1]) (c := 9) (v := (some (.long r40.1))) (M1 := (mj_fin r40.2)) ho_95 rfl lm_L_160 wc_X9_gap pl_X9_gap ok_X9_gap rfl rfl (Nat.le_of_ble_eq_true rfl) (k_X9_gap (by omega) er40) (mj_dl lwd_19 27 rfl) ?_
                                                                        refine mj_go_lcmp (mj_dl lwd_19 28 rfl) ?_
                                                                        refine mj_go_if_eq (tgt := 1643) rfl (mj_dl lwd_19 29 rfl) (fun b41 => ?_) (fun b41 => ?_)
                                                                        · rw [if_pos b41] at h
                                                                          refine mj_go_sub (lv' := [(0, .ref 9000), (1, .ref 0), (2, .ref 95), (3, .int s.1)]) (List.forall_mem_cons.mpr ⟨rfl, (List.forall_mem_cons.mpr ⟨rfl, (List.forall_mem_cons.mpr ⟨rfl, (List.forall_mem_cons.mpr ⟨rfl, (fun _ h9 => absurd h9 List.not_mem_nil)⟩)⟩)⟩)⟩) ?_
                                                                          exact k_L_law_1643 q_18 hδ h
                                                                        · rw [if_neg b41] at h
                                                                          refine mj_go_iconst (v := 0) rfl (mj_dl lwd_19 30 rfl) ?_
                                                                          obtain rfl := Option.some.inj h
                                                                          exact mj_go_ret (v := some (.int 0)) (Nat.le_of_ble_eq_true rfl) (mj_retZ (mj_dl lwd_19 31 rfl) rfl rfl)
                                                                      · rw [if_neg b36] at h
                                                                        refine ⟨fun b37 => ?_, fun b37 => ?_⟩
                                                                        · rw [if_pos b37] at h
                                                                          refine ⟨1402, by decide, ?_⟩
                                                                          refine mj_go_aload_n (k := 1) (x := 0) rfl (mj_dl lwd_19 32 rfl) ?_
                                                                          refine mj_go_aload_n (k := 0) (x := 9000) rfl (mj_dl lwd_19 33 rfl) ?_
                                                                          refine mj_go_iload_n (k := 3) (x := s.1) rfl (mj_dl lwd_19 34 rfl) ?_
                                                                          refine mj_go_iconst (v := 1) rfl (mj_dl lwd_19 35 rfl) ?_
                                                                          refine mj_go_iadd (mj_dl lwd_19 36 rfl) ?_
                                                                          obtain ⟨c38, h⟩ := mj_ck_some h
                                                                          refine mk_xld c38 (mj_dl lwd_19 37 rfl) ?_
                                                                          obtain ⟨r39, er39, h⟩ := mj_bind_some h
                                                                          refine ml_callV (Y' := mY_X8_bound) (as := [.int (xs (s.1 + 1).toNatClampNeg)]) (rest := []) (c := 8) (v := (some (.long r39.1))) (M1 := (mj_fin r39.2)) ho_0 rfl lm_L_161 wc_X8_bound pl_X8_bound ok_X8_bound rfl rfl (Nat.le_of_ble_eq_true rfl) (k_X8_bound (by omega) er39) (mj_dl lwd_19 38 rfl) ?_
                                                                          refine mj_go_aload_n (k := 2) (x := 95) rfl (mj_dl lwd_19 39 rfl) ?_
                                                                          refine mj_go_aload_n (k := 0) (x := 9000) rfl (mj_dl lwd_19 40 rfl) ?_
                                                                          refine mj_go_iload_n (k := 3) (x := s.1) rfl (mj_dl lwd_19 41 rfl) ?_
                                                                          refine mj_go_iconst (v := 1) rfl (mj_dl lwd_19 42 rfl) ?_
                                                                          refine mj_go_iadd (mj_dl lwd_19 43 rfl) ?_
                                                                          refine mk_xld c38 (mj_dl lwd_19 44 rfl) ?_
                                                                          obtain ⟨r40, er40, h⟩ := mj_bind_some h
                                                                          refine ml_callV (Y' := mY_X9_bound) (as := [.int (xs (s.1 + 1).toNatClampNeg)]) (rest := [.long r39.1]) (c := 9) (v := (some (.long r40.1))) (M1 := (mj_fin r40.2)) ho_95 rfl lm_L_164 wc_X9_bound pl_X9_bound ok_X9_bound rfl rfl (Nat.le_of_ble_eq_true rfl) (k_X9_bound (by omega) er40) (mj_dl lwd_19 45 rfl) ?_
                                                                          refine mj_go_lcmp (mj_dl lwd_19 46 rfl) ?_
                                                                          refine mj_go_if_eq (tgt := 1643) rfl (mj_dl lwd_19 47 rfl) (fun b41 => ?_) (fun b41 => ?_)
                                                                          · rw [if_pos b41] at h
                                                                            refine mj_go_sub (lv' := [(0, .ref 9000), (1, .ref 0), (2, .ref 95), (3, .int s.1)]) (List.forall_mem_cons.mpr ⟨rfl, (List.forall_mem_cons.mpr ⟨rfl, (List.forall_mem_cons.mpr ⟨rfl, (List.forall_mem_cons.mpr ⟨rfl, (fun _ h9 => absurd h9 List.not_mem_nil)⟩)⟩)⟩)⟩) ?_
                                                                            exact k_L_law_1643 q_18 hδ h
                                                                          · rw [if_neg b41] at h
                                                                            refine mj_go_iconst (v := 0) rfl (mj_dl lwd_19 48 rfl) ?_
                                                                            obtain rfl := Option.some.inj h
                                                                            exact mj_go_ret (v := some (.int 0)) (Nat.le_of_ble_eq_true rfl) (mj_retZ (mj_dl lwd_19 49 rfl) rfl rfl)
                                                                        · rw [if_neg b37] at h
                                                                          refine ⟨fun b38 => ?_, fun b38 => ?_⟩
                                                                          · rw [if_pos b38] at h
                                                                            refine ⟨1426, by decide, ?_⟩
                                                                            refine mj_go_aload_n (k := 1) (x := 0) rfl (mj_dl lwd_20 0 rfl) ?_
                                                                            refine mj_go_aload_n (k := 0) (x := 9000) rfl (mj_dl lwd_20 1 rfl) ?_
                                                                            refine mj_go_iload_n (k := 3) (x := s.1) rfl (mj_dl lwd_20 2 rfl) ?_
                                                                            refine mj_go_iconst (v := 1) rfl (mj_dl lwd_20 3 rfl) ?_
                                                                            refine mj_go_iadd (mj_dl lwd_20 4 rfl) ?_
                                                                            obtain ⟨c39, h⟩ := mj_ck_some h
                                                                            refine mk_xld c39 (mj_dl lwd_20 5 rfl) ?_
                                                                            obtain ⟨r40, er40, h⟩ := mj_bind_some h
                                                                            refine ml_callV (Y' := mY_X8_head) (as := [.int (xs (s.1 + 1).toNatClampNeg)]) (rest := []) (c := 8) (v := (some (.int r40.1))) (M1 := (mj_fin r40.2)) ho_0 rfl lm_L_165 wc_X8_head pl_X8_head ok_X8_head rfl rfl (Nat.le_of_ble_eq_true rfl) (k_X8_head (by omega) er40) (mj_dl lwd_20 6 rfl) ?_
                                                                            refine mj_go_aload_n (k := 2) (x := 95) rfl (mj_dl lwd_20 7 rfl) ?_
                                                                            refine mj_go_aload_n (k := 0) (x := 9000) rfl (mj_dl lwd_20 8 rfl) ?_
                                                                            refine mj_go_iload_n (k := 3) (x := s.1) rfl (mj_dl lwd_20 9 rfl) ?_
                                                                            refine mj_go_iconst (v := 1) rfl (mj_dl lwd_20 10 rfl) ?_
                                                                            refine mj_go_iadd (mj_dl lwd_20 11 rfl) ?_
                                                                            refine mk_xld c39 (mj_dl lwd_20 12 rfl) ?_
                                                                            obtain ⟨r41, er41, h⟩ := mj_bind_some h
                                                                            refine ml_callV (Y' := mY_X9_head) (as := [.int (xs (s.1 + 1).toNatClampNeg)]) (rest := [.int r40.1]) (c := 9) (v := (some (.int r41.1))) (M1 := (mj_fin r41.2)) ho_95 rfl lm_L_168 wc_X9_head pl_X9_head ok_X9_head rfl rfl (Nat.le_of_ble_eq_true rfl) (k_X9_head (by omega) er41) (mj_dl lwd_20 13 rfl) ?_
                                                                            refine mj_go_icmp_eq (tgt := 1643) rfl (mj_dl lwd_20 14 rfl) (fun b42 => ?_) (fun b42 => ?_)
                                                                            · rw [if_pos b42] at h
                                                                              refine mj_go_sub (lv' := [(0, .ref 9000), (1, .ref 0), (2, .ref 95), (3, .int s.1)]) (List.forall_mem_cons.mpr ⟨rfl, (List.forall_mem_cons.mpr ⟨rfl, (List.forall_mem_cons.mpr ⟨rfl, (List.forall_mem_cons.mpr ⟨rfl, (fun _ h9 => absurd h9 List.not_mem_nil)⟩)⟩)⟩)⟩) ?_
                                                                              exact k_L_law_1643 q_18 hδ h
                                                                            · rw [if_neg b42] at h
                                                                              refine mj_go_iconst (v := 0) rfl (mj_dl lwd_20 15 rfl) ?_
                                                                              obtain rfl := Option.some.inj h
                                                                              exact mj_go_ret (v := some (.int 0)) (Nat.le_of_ble_eq_true rfl) (mj_retZ (mj_dl lwd_20 16 rfl) rfl rfl)
                                                                          · rw [if_neg b38] at h
                                                                            refine ⟨fun b39 => ?_, fun b39 => ?_⟩
                                                                            · rw [if_pos b39] at h
                                                                              refine ⟨1449, by decide, ?_⟩
                                                                              refine mj_go_aload_n (k := 1) (x := 0) rfl (mj_dl lwd_20 17 rfl) ?_
                                                                              refine mj_go_aload_n (k := 0) (x := 9000) rfl (mj_dl lwd_20 18 rfl) ?_
                                                                              refine mj_go_iload_n (k := 3) (x := s.1) rfl (mj_dl lwd_20 19 rfl) ?_
                                                                              refine mj_go_iconst (v := 1) rfl (mj_dl lwd_20 20 rfl) ?_
                                                                              refine mj_go_iadd (mj_dl lwd_20 21 rfl) ?_
                                                                              obtain ⟨c40, h⟩ := mj_ck_some h
                                                                              refine mk_xld c40 (mj_dl lwd_20 22 rfl) ?_
                                                                              obtain ⟨r41, er41, h⟩ := mj_bind_some h
                                                                              refine ml_callV (Y' := mY_X8_narrow) (as := [.int (xs (s.1 + 1).toNatClampNeg)]) (rest := []) (c := 8) (v := (some (.int r41.1))) (M1 := (mj_fin r41.2)) ho_0 rfl lm_L_169 wc_X8_narrow pl_X8_narrow ok_X8_narrow rfl rfl (Nat.le_of_ble_eq_true rfl) (k_X8_narrow (by omega) er41) (mj_dl lwd_20 23 rfl) ?_
                                                                              refine mj_go_aload_n (k := 2) (x := 95) rfl (mj_dl lwd_20 24 rfl) ?_
                                                                              refine mj_go_aload_n (k := 0) (x := 9000) rfl (mj_dl lwd_20 25 rfl) ?_
                                                                              refine mj_go_iload_n (k := 3) (x := s.1) rfl (mj_dl lwd_20 26 rfl) ?_
                                                                              refine mj_go_iconst (v := 1) rfl (mj_dl lwd_20 27 rfl) ?_
                                                                              refine mj_go_iadd (mj_dl lwd_20 28 rfl) ?_
                                                                              refine mk_xld c40 (mj_dl lwd_20 29 rfl) ?_
                                                                              obtain ⟨r42, er42, h⟩ := mj_bind_some h
                                                                              refine ml_callV (Y' := mY_X9_narrow) (as := [.int (xs (s.1 + 1).toNatClampNeg)]) (rest := [.int r41.1]) (c := 9) (v := (some (.int r42.1))) (M1 := (mj_fin r42.2)) ho_95 rfl lm_L_172 wc_X9_narrow pl_X9_narrow ok_X9_narrow rfl rfl (Nat.le_of_ble_eq_true rfl) (k_X9_narrow (by omega) er42) (mj_dl lwd_20 30 rfl) ?_
                                                                              refine mj_go_icmp_eq (tgt := 1643) rfl (mj_dl lwd_20 31 rfl) (fun b43 => ?_) (fun b43 => ?_)
                                                                              · rw [if_pos b43] at h
                                                                                refine mj_go_sub (lv' := [(0, .ref 9000), (1, .ref 0), (2, .ref 95), (3, .int s.1)]) (List.forall_mem_cons.mpr ⟨rfl, (List.forall_mem_cons.mpr ⟨rfl, (List.forall_mem_cons.mpr ⟨rfl, (List.forall_mem_cons.mpr ⟨rfl, (fun _ h9 => absurd h9 List.not_mem_nil)⟩)⟩)⟩)⟩) ?_
                                                                                exact k_L_law_1643 q_18 hδ h
                                                                              · rw [if_neg b43] at h
                                                                                refine mj_go_iconst (v := 0) rfl (mj_dl lwd_20 32 rfl) ?_
                                                                                obtain rfl := Option.some.inj h
                                                                                exact mj_go_ret (v := some (.int 0)) (Nat.le_of_ble_eq_true rfl) (mj_retZ (mj_dl lwd_20 33 rfl) rfl rfl)
                                                                            · rw [if_neg b39] at h
                                                                              refine ⟨fun b40 => ?_, fun b40 => ?_⟩
                                                                              · rw [if_pos b40] at h
                                                                                refine ⟨1472, by decide, ?_⟩
                                                                                refine mj_go_aload_n (k := 1) (x := 0) rfl (mj_dl lwd_20 34 rfl) ?_
                                                                                refine mj_go_aload_n (k := 0) (x := 9000) rfl (mj_dl lwd_20 35 rfl) ?_
                                                                                refine mj_go_iload_n (k := 3) (x := s.1) rfl (mj_dl lwd_20 36 rfl) ?_
                                                                                refine mj_go_iconst (v := 1) rfl (mj_dl lwd_20 37 rfl) ?_
                                                                                refine mj_go_iadd (mj_dl lwd_20 38 rfl) ?_
                                                                                obtain ⟨c41, h⟩ := mj_ck_some h
                                                                                refine mk_xld c41 (mj_dl lwd_20 39 rfl) ?_
                                                                                refine mj_go_aload_n (k := 0) (x := 9000) rfl (mj_dl lwd_20 40 rfl) ?_
                                                                                refine mj_go_iload_n (k := 3) (x := s.1) rfl (mj_dl lwd_20 41 rfl) ?_
                                                                                refine mj_go_iconst (v := 2) rfl (mj_dl lwd_20 42 rfl) ?_
                                                                                refine mj_go_iadd (mj_dl lwd_20 43 rfl) ?_
                                                                                obtain ⟨c42, h⟩ := mj_ck_some h
                                                                                refine mk_xld c42 (mj_dl lwd_20 44 rfl) ?_
                                                                                obtain ⟨r43, er43, h⟩ := mj_bind_some h
                                                                                refine ml_callV (Y' := mY_X8_years) (as := [.int (xs (s.1 + 1).toNatClampNeg), .int (xs (s.1 + 2).toNatClampNeg)]) (rest := []) (c := 8) (v := (some (.int r43.1))) (M1 := (mj_fin r43.2)) ho_0 rfl lm_L_173 wc_X8_years pl_X8_years ok_X8_years rfl rfl (Nat.le_of_ble_eq_true rfl) (k_X8_years (by omega) er43) (mj_dl lwd_20 45 rfl) ?_
                                                                                refine mj_go_aload_n (k := 2) (x := 95) rfl (mj_dl lwd_20 46 rfl) ?_
                                                                                refine mj_go_aload_n (k := 0) (x := 9000) rfl (mj_dl lwd_20 47 rfl) ?_
                                                                                refine mj_go_iload_n (k := 3) (x := s.1) rfl (mj_dl lwd_20 48 rfl) ?_
                                                                                refine mj_go_iconst (v := 1) rfl (mj_dl lwd_20 49 rfl) ?_
                                                                                refine mj_go_iadd (mj_dl lwd_21 0 rfl) ?_
                                                                                refine mk_xld c41 (mj_dl lwd_21 1 rfl) ?_
                                                                                refine mj_go_aload_n (k := 0) (x := 9000) rfl (mj_dl lwd_21 2 rfl) ?_
                                                                                refine mj_go_iload_n (k := 3) (x := s.1) rfl (mj_dl lwd_21 3 rfl) ?_
                                                                                refine mj_go_iconst (v := 2) rfl (mj_dl lwd_21 4 rfl) ?_
                                                                                refine mj_go_iadd (mj_dl lwd_21 5 rfl) ?_
                                                                                refine mk_xld c42 (mj_dl lwd_21 6 rfl) ?_
                                                                                obtain ⟨r44, er44, h⟩ := mj_bind_some h
                                                                                refine ml_callV (Y' := mY_X9_years) (as := [.int (xs (s.1 + 1).toNatClampNeg), .int (xs (s.1 + 2).toNatClampNeg)]) (rest := [.int r43.1]) (c := 9) (v := (some (.int r44.1))) (M1 := (mj_fin r44.2)) ho_95 rfl lm_L_176 wc_X9_years pl_X9_years ok_X9_years rfl rfl (Nat.le_of_ble_eq_true rfl) (k_X9_years (by omega) er44) (mj_dl lwd_21 7 rfl) ?_
                                                                                refine mj_go_icmp_eq (tgt := 1643) rfl (mj_dl lwd_21 8 rfl) (fun b45 => ?_) (fun b45 => ?_)
                                                                                · rw [if_pos b45] at h
                                                                                  refine mj_go_sub (lv' := [(0, .ref 9000), (1, .ref 0), (2, .ref 95), (3, .int s.1)]) (List.forall_mem_cons.mpr ⟨rfl, (List.forall_mem_cons.mpr ⟨rfl, (List.forall_mem_cons.mpr ⟨rfl, (List.forall_mem_cons.mpr ⟨rfl, (fun _ h9 => absurd h9 List.not_mem_nil)⟩)⟩)⟩)⟩) ?_
                                                                                  exact k_L_law_1643 q_18 hδ h
                                                                                · rw [if_neg b45] at h
                                                                                  refine mj_go_iconst (v := 0) rfl (mj_dl lwd_21 9 rfl) ?_
                                                                                  obtain rfl := Option.some.inj h
                                                                                  exact mj_go_ret (v := some (.int 0)) (Nat.le_of_ble_eq_true rfl) (mj_retZ (mj_dl lwd_21 10 rfl) rfl rfl)
                                                                              · rw [if_neg b40] at h
                                                                                refine ⟨fun b41 => ?_, fun b41 => ?_⟩
                                                                                · rw [if_pos b41] at h
                                                                                  refine ⟨1505, by decide, ?_⟩
                                                                                  refine mj_go_aload_n (k := 1) (x := 0) rfl (mj_dl lwd_21 11 rfl) ?_
                                                                                  refine mj_go_aload_n (k := 0) (x := 9000) rfl (mj_dl lwd_21 12 rfl) ?_
                                                                                  refine mj_go_iload_n (k := 3) (x := s.1) rfl (mj_dl lwd_21 13 rfl) ?_
                                                                                  refine mj_go_iconst (v := 1) rfl (mj_dl lwd_21 14 rfl) ?_
                                                                                  refine mj_go_iadd (mj_dl lwd_21 15 rfl) ?_
                                                                                  obtain ⟨c42, h⟩ := mj_ck_some h
                                                                                  refine mk_xld c42 (mj_dl lwd_21 16 rfl) ?_
                                                                                  obtain ⟨r43, er43, h⟩ := mj_bind_some h
                                                                                  refine ml_callV (Y' := mY_X8_seed) (as := [.int (xs (s.1 + 1).toNatClampNeg)]) (rest := []) (c := 8) (v := (some (.int r43.1))) (M1 := (mj_fin r43.2)) ho_0 rfl lm_L_177 wc_X8_seed pl_X8_seed ok_X8_seed rfl rfl (Nat.le_of_ble_eq_true rfl) (k_X8_seed (by omega) er43) (mj_dl lwd_21 17 rfl) ?_
                                                                                  refine mj_go_aload_n (k := 2) (x := 95) rfl (mj_dl lwd_21 18 rfl) ?_
                                                                                  refine mj_go_aload_n (k := 0) (x := 9000) rfl (mj_dl lwd_21 19 rfl) ?_
                                                                                  refine mj_go_iload_n (k := 3) (x := s.1) rfl (mj_dl lwd_21 20 rfl) ?_
                                                                                  refine mj_go_iconst (v := 1) rfl (mj_dl lwd_21 21 rfl) ?_
                                                                                  refine mj_go_iadd (mj_dl lwd_21 22 rfl) ?_
                                                                                  refine mk_xld c42 (mj_dl lwd_21 23 rfl) ?_
                                                                                  obtain ⟨r44, er44, h⟩ := mj_bind_some h
                                                                                  refine ml_callV (Y' := mY_X9_seed) (as := [.int (xs (s.1 + 1).toNatClampNeg)]) (rest := [.int r43.1]) (c := 9) (v := (some (.int r44.1))) (M1 := (mj_fin r44.2)) ho_95 rfl lm_L_180 wc_X9_seed pl_X9_seed ok_X9_seed rfl rfl (Nat.le_of_ble_eq_true rfl) (k_X9_seed (by omega) er44) (mj_dl lwd_21 24 rfl) ?_
                                                                                  refine mj_go_icmp_eq (tgt := 1643) rfl (mj_dl lwd_21 25 rfl) (fun b45 => ?_) (fun b45 => ?_)
                                                                                  · rw [if_pos b45] at h
                                                                                    refine mj_go_sub (lv' := [(0, .ref 9000), (1, .ref 0), (2, .ref 95), (3, .int s.1)]) (List.forall_mem_cons.mpr ⟨rfl, (List.forall_mem_cons.mpr ⟨rfl, (List.forall_mem_cons.mpr ⟨rfl, (List.forall_mem_cons.mpr ⟨rfl, (fun _ h9 => absurd h9 List.not_mem_nil)⟩)⟩)⟩)⟩) ?_
                                                                                    exact k_L_law_1643 q_18 hδ h
                                                                                  · rw [if_neg b45] at h
                                                                                    refine mj_go_iconst (v := 0) rfl (mj_dl lwd_21 26 rfl) ?_
                                                                                    obtain rfl := Option.some.inj h
                                                                                    exact mj_go_ret (v := some (.int 0)) (Nat.le_of_ble_eq_true rfl) (mj_retZ (mj_dl lwd_21 27 rfl) rfl rfl)
                                                                                · rw [if_neg b41] at h
                                                                                  refine ⟨fun b42 => ?_, fun b42 => ?_⟩
                                                                                  · rw [if_pos b42] at h
                                                                                    refine ⟨1528, by decide, ?_⟩
                                                                                    refine mj_go_aload_n (k := 1) (x := 0) rfl (mj_dl lwd_21 28 rfl) ?_
                                                                                    refine mj_go_aload_n (k := 0) (x := 9000) rfl (mj_dl lwd_21 29 rfl) ?_
                                                                                    refine mj_go_iload_n (k := 3) (x := s.1) rfl (mj_dl lwd_21 30 rfl) ?_
                                                                                    refine mj_go_iconst (v := 1) rfl (mj_dl lwd_21 31 rfl) ?_
                                                                                    refine mj_go_iadd (mj_dl lwd_21 32 rfl) ?_
                                                                                    obtain ⟨c43, h⟩ := mj_ck_some h
                                                                                    refine mk_xld c43 (mj_dl lwd_21 33 rfl) ?_
                                                                                    refine mj_go_aload_n (k := 0) (x := 9000) rfl (mj_dl lwd_21 34 rfl) ?_
                                                                                    refine mj_go_iload_n (k := 3) (x := s.1) rfl (mj_dl lwd_21 35 rfl) ?_
                                                                                    refine mj_go_iconst (v := 2) rfl (mj_dl lwd_21 36 rfl) ?_
                                                                                    refine mj_go_iadd (mj_dl lwd_21 37 rfl) ?_
                                                                                    obtain ⟨c44, h⟩ := mj_ck_some h
                                                                                    refine mk_xld c44 (mj_dl lwd_21 38 rfl) ?_
                                                                                    refine mj_go_aload_n (k := 0) (x := 9000) rfl (mj_dl lwd_21 39 rfl) ?_
                                                                                    refine mj_go_iload_n (k := 3) (x := s.1) rfl (mj_dl lwd_21 40 rfl) ?_
                                                                                    refine mj_go_iconst (v := 3) rfl (mj_dl lwd_21 41 rfl) ?_
                                                                                    refine mj_go_iadd (mj_dl lwd_21 42 rfl) ?_
                                                                                    obtain ⟨c45, h⟩ := mj_ck_some h
                                                                                    refine mk_xld c45 (mj_dl lwd_21 43 rfl) ?_
                                                                                    obtain ⟨r46, er46, h⟩ := mj_bind_some h
                                                                                    refine ml_callV (Y' := mY_X8_act) (as := [.int (xs (s.1 + 1).toNatClampNeg), .int (xs (s.1 + 2).toNatClampNeg), .int (xs (s.1 + 3).toNatClampNeg)]) (rest := []) (c := 8) (v := (some (.int r46.1))) (M1 := (mj_fin r46.2)) ho_0 rfl lm_L_181 wc_X8_act pl_X8_act ok_X8_act rfl rfl (Nat.le_of_ble_eq_true rfl) (k_X8_act (by omega) er46) (mj_dl lwd_21 44 rfl) ?_
                                                                                    refine mj_go_aload_n (k := 2) (x := 95) rfl (mj_dl lwd_21 45 rfl) ?_
                                                                                    refine mj_go_aload_n (k := 0) (x := 9000) rfl (mj_dl lwd_21 46 rfl) ?_
                                                                                    refine mj_go_iload_n (k := 3) (x := s.1) rfl (mj_dl lwd_21 47 rfl) ?_
                                                                                    refine mj_go_iconst (v := 1) rfl (mj_dl lwd_21 48 rfl) ?_
                                                                                    refine mj_go_iadd (mj_dl lwd_21 49 rfl) ?_
                                                                                    refine mk_xld c43 (mj_dl lwd_22 0 rfl) ?_
                                                                                    refine mj_go_aload_n (k := 0) (x := 9000) rfl (mj_dl lwd_22 1 rfl) ?_
                                                                                    refine mj_go_iload_n (k := 3) (x := s.1) rfl (mj_dl lwd_22 2 rfl) ?_
                                                                                    refine mj_go_iconst (v := 2) rfl (mj_dl lwd_22 3 rfl) ?_
                                                                                    refine mj_go_iadd (mj_dl lwd_22 4 rfl) ?_
                                                                                    refine mk_xld c44 (mj_dl lwd_22 5 rfl) ?_
                                                                                    refine mj_go_aload_n (k := 0) (x := 9000) rfl (mj_dl lwd_22 6 rfl) ?_
                                                                                    refine mj_go_iload_n (k := 3) (x := s.1) rfl (mj_dl lwd_22 7 rfl) ?_
                                                                                    refine mj_go_iconst (v := 3) rfl (mj_dl lwd_22 8 rfl) ?_
                                                                                    refine mj_go_iadd (mj_dl lwd_22 9 rfl) ?_
                                                                                    refine mk_xld c45 (mj_dl lwd_22 10 rfl) ?_
                                                                                    obtain ⟨r47, er47, h⟩ := mj_bind_some h
                                                                                    refine ml_callV (Y' := mY_X9_act) (as := [.int (xs (s.1 + 1).toNatClampNeg), .int (xs (s.1 + 2).toNatClampNeg), .int (xs (s.1 + 3).toNatClampNeg)]) (rest := [.int r46.1]) (c := 9) (v := (some (.int r47.1))) (M1 := (mj_fin r47.2)) ho_95 rfl lm_L_184 wc_X9_act pl_X9_act ok_X9_act rfl rfl (Nat.le_of_ble_eq_true rfl) (k_X9_act (by omega) er47) (mj_dl lwd_22 11 rfl) ?_
                                                                                    refine mj_go_icmp_eq (tgt := 1643) rfl (mj_dl lwd_22 12 rfl) (fun b48 => ?_) (fun b48 => ?_)
                                                                                    · rw [if_pos b48] at h
                                                                                      refine mj_go_sub (lv' := [(0, .ref 9000), (1, .ref 0), (2, .ref 95), (3, .int s.1)]) (List.forall_mem_cons.mpr ⟨rfl, (List.forall_mem_cons.mpr ⟨rfl, (List.forall_mem_cons.mpr ⟨rfl, (List.forall_mem_cons.mpr ⟨rfl, (fun _ h9 => absurd h9 List.not_mem_nil)⟩)⟩)⟩)⟩) ?_
                                                                                      exact k_L_law_1643 q_18 hδ h
                                                                                    · rw [if_neg b48] at h
                                                                                      refine mj_go_iconst (v := 0) rfl (mj_dl lwd_22 13 rfl) ?_
                                                                                      obtain rfl := Option.some.inj h
                                                                                      exact mj_go_ret (v := some (.int 0)) (Nat.le_of_ble_eq_true rfl) (mj_retZ (mj_dl lwd_22 14 rfl) rfl rfl)
                                                                                  · rw [if_neg b42] at h
                                                                                    refine ⟨fun b43 => ?_, fun b43 => ?_⟩
                                                                                    · rw [if_pos b43] at h
                                                                                      refine ⟨1571, by decide, ?_⟩
                                                                                      refine mj_go_aload_n (k := 1) (x := 0) rfl (mj_dl lwd_22 15 rfl) ?_
                                                                                      refine mj_go_aload_n (k := 0) (x := 9000) rfl (mj_dl lwd_22 16 rfl) ?_
                                                                                      refine mj_go_iload_n (k := 3) (x := s.1) rfl (mj_dl lwd_22 17 rfl) ?_
                                                                                      refine mj_go_iconst (v := 1) rfl (mj_dl lwd_22 18 rfl) ?_
                                                                                      refine mj_go_iadd (mj_dl lwd_22 19 rfl) ?_
                                                                                      obtain ⟨c44, h⟩ := mj_ck_some h
                                                                                      refine mk_xld c44 (mj_dl lwd_22 20 rfl) ?_
                                                                                      obtain ⟨r45, er45, h⟩ := mj_bind_some h
                                                                                      refine ml_callV (Y' := mY_X8_trace) (as := [.int (xs (s.1 + 1).toNatClampNeg)]) (rest := []) (c := 8) (v := (some (.int r45))) (M1 := (mj_fin s.2)) ho_0 rfl lm_L_185 wc_X8_trace pl_X8_trace ok_X8_trace rfl rfl (Nat.le_of_ble_eq_true rfl) (k_X8_trace (by omega) er45) (mj_dl lwd_22 21 rfl) ?_
                                                                                      refine mj_go_aload_n (k := 2) (x := 95) rfl (mj_dl lwd_22 22 rfl) ?_
                                                                                      refine mj_go_aload_n (k := 0) (x := 9000) rfl (mj_dl lwd_22 23 rfl) ?_
                                                                                      refine mj_go_iload_n (k := 3) (x := s.1) rfl (mj_dl lwd_22 24 rfl) ?_
                                                                                      refine mj_go_iconst (v := 1) rfl (mj_dl lwd_22 25 rfl) ?_
                                                                                      refine mj_go_iadd (mj_dl lwd_22 26 rfl) ?_
                                                                                      refine mk_xld c44 (mj_dl lwd_22 27 rfl) ?_
                                                                                      obtain ⟨r46, er46, h⟩ := mj_bind_some h
                                                                                      refine ml_callV (Y' := mY_X9_trace) (as := [.int (xs (s.1 + 1).toNatClampNeg)]) (rest := [.int r45]) (c := 9) (v := (some (.int r46))) (M1 := (mj_fin s.2)) ho_95 rfl lm_L_188 wc_X9_trace pl_X9_trace ok_X9_trace rfl rfl (Nat.le_of_ble_eq_true rfl) (k_X9_trace (by omega) er46) (mj_dl lwd_22 28 rfl) ?_
                                                                                      refine mj_go_icmp_eq (tgt := 1643) rfl (mj_dl lwd_22 29 rfl) (fun b47 => ?_) (fun b47 => ?_)
                                                                                      · rw [if_pos b47] at h
                                                                                        refine mj_go_sub (lv' := [(0, .ref 9000), (1, .ref 0), (2, .ref 95), (3, .int s.1)]) (List.forall_mem_cons.mpr ⟨rfl, (List.forall_mem_cons.mpr ⟨rfl, (List.forall_mem_cons.mpr ⟨rfl, (List.forall_mem_cons.mpr ⟨rfl, (fun _ h9 => absurd h9 List.not_mem_nil)⟩)⟩)⟩)⟩) ?_
                                                                                        exact k_L_law_1643 q_18 hδ h
                                                                                      · rw [if_neg b47] at h
                                                                                        refine mj_go_iconst (v := 0) rfl (mj_dl lwd_22 30 rfl) ?_
                                                                                        obtain rfl := Option.some.inj h
                                                                                        exact mj_go_ret (v := some (.int 0)) (Nat.le_of_ble_eq_true rfl) (mj_retZ (mj_dl lwd_22 31 rfl) rfl rfl)
                                                                                    · rw [if_neg b43] at h
                                                                                      refine ⟨fun b44 => ?_, fun b44 => ?_⟩
                                                                                      · rw [if_pos b44] at h
                                                                                        refine ⟨1594, by decide, ?_⟩
                                                                                        refine mj_go_aload_n (k := 1) (x := 0) rfl (mj_dl lwd_22 32 rfl) ?_
                                                                                        obtain ⟨r45, er45, h⟩ := mj_bind_some h
                                                                                        refine ml_callV (Y' := mY_X8_image) (as := []) (rest := []) (c := 8) (v := (some (.int r45.1))) (M1 := (mj_fin r45.2)) ho_0 rfl lm_L_189 wc_X8_image pl_X8_image ok_X8_image rfl rfl (Nat.le_of_ble_eq_true rfl) (k_X8_image (by omega) er45) (mj_dl lwd_22 33 rfl) ?_
                                                                                        refine mj_go_aload_n (k := 2) (x := 95) rfl (mj_dl lwd_22 34 rfl) ?_
                                                                                        obtain ⟨r46, er46, h⟩ := mj_bind_some h
                                                                                        refine ml_callV (Y' := mY_X9_image) (as := []) (rest := [.int r45.1]) (c := 9) (v := (some (.int r46.1))) (M1 := (mj_fin r46.2)) ho_95 rfl lm_L_192 wc_X9_image pl_X9_image ok_X9_image rfl rfl (Nat.le_of_ble_eq_true rfl) (k_X9_image (by omega) er46) (mj_dl lwd_22 35 rfl) ?_
                                                                                        refine mj_go_icmp_eq (tgt := 1643) rfl (mj_dl lwd_22 36 rfl) (fun b47 => ?_) (fun b47 => ?_)
                                                                                        · rw [if_pos b47] at h
                                                                                          refine mj_go_sub (lv' := [(0, .ref 9000), (1, .ref 0), (2, .ref 95), (3, .int s.1)]) (List.forall_mem_cons.mpr ⟨rfl, (List.forall_mem_cons.mpr ⟨rfl, (List.forall_mem_cons.mpr ⟨rfl, (List.forall_mem_cons.mpr ⟨rfl, (fun _ h9 => absurd h9 List.not_mem_nil)⟩)⟩)⟩)⟩) ?_
                                                                                          exact k_L_law_1643 q_18 hδ h
                                                                                        · rw [if_neg b47] at h
                                                                                          refine mj_go_iconst (v := 0) rfl (mj_dl lwd_22 37 rfl) ?_
                                                                                          obtain rfl := Option.some.inj h
                                                                                          exact mj_go_ret (v := some (.int 0)) (Nat.le_of_ble_eq_true rfl) (mj_retZ (mj_dl lwd_22 38 rfl) rfl rfl)
                                                                                      · rw [if_neg b44] at h
                                                                                        refine ⟨fun b45 => ?_, fun b45 => ?_⟩
                                                                                        · rw [if_pos b45] at h
                                                                                          refine ⟨1607, by decide, ?_⟩
                                                                                          refine mj_go_aload_n (k := 1) (x := 0) rfl (mj_dl lwd_22 39 rfl) ?_
                                                                                          obtain ⟨r46, er46, h⟩ := mj_bind_some h
                                                                                          refine ml_callV (Y' := mY_X8_restore) (as := []) (rest := []) (c := 8) (v := (some (.int r46.1))) (M1 := (mj_fin r46.2)) ho_0 rfl lm_L_193 wc_X8_restore pl_X8_restore ok_X8_restore rfl rfl (Nat.le_of_ble_eq_true rfl) (k_X8_restore (by omega) er46) (mj_dl lwd_22 40 rfl) ?_
                                                                                          refine mj_go_aload_n (k := 2) (x := 95) rfl (mj_dl lwd_22 41 rfl) ?_
                                                                                          obtain ⟨r47, er47, h⟩ := mj_bind_some h
                                                                                          refine ml_callV (Y' := mY_X9_restore) (as := []) (rest := [.int r46.1]) (c := 9) (v := (some (.int r47.1))) (M1 := (mj_fin r47.2)) ho_95 rfl lm_L_196 wc_X9_restore pl_X9_restore ok_X9_restore rfl rfl (Nat.le_of_ble_eq_true rfl) (k_X9_restore (by omega) er47) (mj_dl lwd_22 42 rfl) ?_
                                                                                          refine mj_go_icmp_eq (tgt := 1643) rfl (mj_dl lwd_22 43 rfl) (fun b48 => ?_) (fun b48 => ?_)
                                                                                          · rw [if_pos b48] at h
                                                                                            refine mj_go_sub (lv' := [(0, .ref 9000), (1, .ref 0), (2, .ref 95), (3, .int s.1)]) (List.forall_mem_cons.mpr ⟨rfl, (List.forall_mem_cons.mpr ⟨rfl, (List.forall_mem_cons.mpr ⟨rfl, (List.forall_mem_cons.mpr ⟨rfl, (fun _ h9 => absurd h9 List.not_mem_nil)⟩)⟩)⟩)⟩) ?_
                                                                                            exact k_L_law_1643 q_18 hδ h
                                                                                          · rw [if_neg b48] at h
                                                                                            refine mj_go_iconst (v := 0) rfl (mj_dl lwd_22 44 rfl) ?_
                                                                                            obtain rfl := Option.some.inj h
                                                                                            exact mj_go_ret (v := some (.int 0)) (Nat.le_of_ble_eq_true rfl) (mj_retZ (mj_dl lwd_22 45 rfl) rfl rfl)
                                                                                        · rw [if_neg b45] at h
                                                                                          refine ⟨fun b46 => ?_, fun b46 => ?_⟩
                                                                                          · rw [if_pos b46] at h
                                                                                            refine ⟨1620, by decide, ?_⟩
                                                                                            refine mj_go_aload_n (k := 1) (x := 0) rfl (mj_dl lwd_22 46 rfl) ?_
                                                                                            refine mj_go_aload_n (k := 0) (x := 9000) rfl (mj_dl lwd_22 47 rfl) ?_
                                                                                            refine mj_go_iload_n (k := 3) (x := s.1) rfl (mj_dl lwd_22 48 rfl) ?_
                                                                                            refine mj_go_iconst (v := 1) rfl (mj_dl lwd_22 49 rfl) ?_
                                                                                            refine mj_go_iadd (mj_dl lwd_23 0 rfl) ?_
                                                                                            obtain ⟨c47, h⟩ := mj_ck_some h
                                                                                            refine mk_xld c47 (mj_dl lwd_23 1 rfl) ?_
                                                                                            obtain ⟨r48, er48, h⟩ := mj_bind_some h
                                                                                            refine ml_callV (Y' := mY_X8_status) (as := [.int (xs (s.1 + 1).toNatClampNeg)]) (rest := []) (c := 8) (v := (some (.int r48))) (M1 := (mj_fin s.2)) ho_0 rfl lm_L_197 wc_X8_status pl_X8_status ok_X8_status rfl rfl (Nat.le_of_ble_eq_true rfl) (k_X8_status (by omega) er48) (mj_dl lwd_23 2 rfl) ?_
                                                                                            refine mj_go_aload_n (k := 2) (x := 95) rfl (mj_dl lwd_23 3 rfl) ?_
                                                                                            refine mj_go_aload_n (k := 0) (x := 9000) rfl (mj_dl lwd_23 4 rfl) ?_
                                                                                            refine mj_go_iload_n (k := 3) (x := s.1) rfl (mj_dl lwd_23 5 rfl) ?_
                                                                                            refine mj_go_iconst (v := 1) rfl (mj_dl lwd_23 6 rfl) ?_
                                                                                            refine mj_go_iadd (mj_dl lwd_23 7 rfl) ?_
                                                                                            refine mk_xld c47 (mj_dl lwd_23 8 rfl) ?_
                                                                                            obtain ⟨r49, er49, h⟩ := mj_bind_some h
                                                                                            refine ml_callV (Y' := mY_X9_status) (as := [.int (xs (s.1 + 1).toNatClampNeg)]) (rest := [.int r48]) (c := 9) (v := (some (.int r49))) (M1 := (mj_fin s.2)) ho_95 rfl lm_L_200 wc_X9_status pl_X9_status ok_X9_status rfl rfl (Nat.le_of_ble_eq_true rfl) (k_X9_status (by omega) er49) (mj_dl lwd_23 9 rfl) ?_
                                                                                            refine mj_go_icmp_eq (tgt := 1643) rfl (mj_dl lwd_23 10 rfl) (fun b50 => ?_) (fun b50 => ?_)
                                                                                            · rw [if_pos b50] at h
                                                                                              refine mj_go_sub (lv' := [(0, .ref 9000), (1, .ref 0), (2, .ref 95), (3, .int s.1)]) (List.forall_mem_cons.mpr ⟨rfl, (List.forall_mem_cons.mpr ⟨rfl, (List.forall_mem_cons.mpr ⟨rfl, (List.forall_mem_cons.mpr ⟨rfl, (fun _ h9 => absurd h9 List.not_mem_nil)⟩)⟩)⟩)⟩) ?_
                                                                                              exact k_L_law_1643 q_18 hδ h
                                                                                            · rw [if_neg b50] at h
                                                                                              refine mj_go_iconst (v := 0) rfl (mj_dl lwd_23 11 rfl) ?_
                                                                                              obtain rfl := Option.some.inj h
                                                                                              exact mj_go_ret (v := some (.int 0)) (Nat.le_of_ble_eq_true rfl) (mj_retZ (mj_dl lwd_23 12 rfl) rfl rfl)
                                                                                          · rw [if_neg b46] at h
                                                                                            refine ⟨1643, by decide, ?_⟩
                                                                                            refine mj_go_sub (lv' := [(0, .ref 9000), (1, .ref 0), (2, .ref 95), (3, .int s.1)]) (List.forall_mem_cons.mpr ⟨rfl, (List.forall_mem_cons.mpr ⟨rfl, (List.forall_mem_cons.mpr ⟨rfl, (List.forall_mem_cons.mpr ⟨rfl, (fun _ h9 => absurd h9 List.not_mem_nil)⟩)⟩)⟩)⟩) ?_
                                                                                            exact k_L_law_1643 q_18 hδ h
