/-! THE WORDS' TEXTS: what String.length and String.charAt answer of them -/
def RJ0 : String := "java/lang/String"
def RJ1 : String := "java/lang/StringLatin1"
def RJ3 : String := "jdk/internal/util/Preconditions"
def mS_coder : mj_Y := (⟨RJ0, "coder", "()B"⟩, prog_13_method_152_code, 1, some .byte, [(0, .getstatic 38, 3), (3, .ifCond .eq 10, 3), (6, .aload_n 0, 1), (7, .getfield 15, 3), (10, .goto 4, 3), (13, .iconst 1, 1), (14, .ireturn, 1)], [], 0)
theorem dS_coder : ∀ x ∈ mj_cd mS_coder, decode (mj_by mS_coder) x.1 = .ok x.2 := by decide +kernel
theorem oS_coder : mj_OK mS_coder := ⟨by decide +kernel, by decide +kernel, by decide⟩
def mS_length : mj_Y := (⟨RJ0, "length", "()I"⟩, prog_13_method_54_code, 1, some .int, [(0, .aload_n 0, 1), (1, .getfield 9, 3), (4, .arraylength, 1), (5, .aload_n 0, 1), (6, .invokevirtual 335, 3), (9, .ishr, 1), (10, .ireturn, 1)], [], 0)
theorem dS_length : ∀ x ∈ mj_cd mS_length, decode (mj_by mS_length) x.1 = .ok x.2 := by decide +kernel
theorem oS_length : mj_OK mS_length := ⟨by decide +kernel, by decide +kernel, by decide⟩
def mS_latin : mj_Y := (⟨RJ0, "isLatin1", "()Z"⟩, prog_13_method_154_code, 1, some .boolean, [(0, .getstatic 38, 3), (3, .ifCond .eq 14, 3), (6, .aload_n 0, 1), (7, .getfield 15, 3), (10, .ifCond .ne 7, 3), (13, .iconst 1, 1), (14, .goto 4, 3), (17, .iconst 0, 1), (18, .ireturn, 1)], [], 0)
theorem dS_latin : ∀ x ∈ mj_cd mS_latin, decode (mj_by mS_latin) x.1 = .ok x.2 := by decide +kernel
theorem oS_latin : mj_OK mS_latin := ⟨by decide +kernel, by decide +kernel, by decide⟩
def mS_ck : mj_Y := (⟨RJ0, "checkIndex", "(II)V"⟩, prog_13_method_155_code, 2, none, [(0, .iload_n 0, 1), (1, .iload_n 1, 1), (2, .getstatic 1053, 3), (5, .invokestatic 1059, 3), (8, .pop, 1), (9, .return_, 1)], [], 0)
theorem dS_ck : ∀ x ∈ mj_cd mS_ck, decode (mj_by mS_ck) x.1 = .ok x.2 := by decide +kernel
theorem oS_ck : mj_OK mS_ck := ⟨by decide +kernel, by decide +kernel, by decide⟩
def mS_cat : mj_Y := (⟨RJ1, "charAt", "([BI)C"⟩, prog_14_method_2_code, 2, some .char, [(0, .iload_n 1, 1), (1, .aload_n 0, 1), (2, .arraylength, 1), (3, .invokestatic 9, 3), (6, .aload_n 0, 1), (7, .iload_n 1, 1), (8, .baload, 1), (9, .sipush 255, 3), (12, .iand, 1), (13, .i2c, 1), (14, .ireturn, 1)], [], 0)
theorem dS_cat : ∀ x ∈ mj_cd mS_cat, decode (mj_by mS_cat) x.1 = .ok x.2 := by decide +kernel
theorem oS_cat : mj_OK mS_cat := ⟨by decide +kernel, by decide +kernel, by decide⟩
def mS_ck3 : mj_Y := (⟨RJ3, "checkIndex", "(IILjava/util/function/BiFunction;)I"⟩, prog_18_method_11_code, 3, some .int, [(0, .iload_n 0, 1), (1, .ifCond .lt 8, 3), (4, .iload_n 0, 1), (5, .iload_n 1, 1), (6, .if_icmp .lt 10, 3), (9, .aload_n 2, 1), (10, .iload_n 0, 1), (11, .iload_n 1, 1), (12, .invokestatic 95, 3), (15, .athrow, 1), (16, .iload_n 0, 1), (17, .ireturn, 1)], [], 0)
theorem dS_ck3 : ∀ x ∈ mj_cd mS_ck3, decode (mj_by mS_ck3) x.1 = .ok x.2 := by decide +kernel
theorem oS_ck3 : mj_OK mS_ck3 := ⟨by decide +kernel, by decide +kernel, by decide⟩
def mS_charAt : mj_Y := (⟨RJ0, "charAt", "(I)C"⟩, prog_13_method_56_code, 2, some .char, [(0, .aload_n 0, 1), (1, .invokevirtual 492, 3), (4, .ifCond .eq 12, 3), (7, .aload_n 0, 1), (8, .getfield 9, 3), (11, .iload_n 1, 1), (12, .invokestatic 495, 3), (15, .ireturn, 1), (16, .aload_n 0, 1), (17, .getfield 9, 3), (20, .iload_n 1, 1), (21, .invokestatic 498, 3), (24, .ireturn, 1)], [], 0)
theorem dS_charAt : ∀ x ∈ mj_cd mS_charAt, decode (mj_by mS_charAt) x.1 = .ok x.2 := by decide +kernel
theorem oS_charAt : mj_OK mS_charAt := ⟨by decide +kernel, by decide +kernel, by decide⟩
theorem wS_coder : ∀ w ∈ mj_cwds 0 mS_length 335 mS_coder, w ∈ mj_GW := (List.forall_mem_cons.mpr ⟨(mj_in4 4 (by decide +kernel) rfl), (List.forall_mem_cons.mpr ⟨(mj_in4 5 (by decide +kernel) rfl), (List.forall_mem_cons.mpr ⟨(mj_in4 6 (by decide +kernel) rfl), (List.forall_mem_cons.mpr ⟨(mj_in1 14 (by decide +kernel) rfl), (List.forall_mem_cons.mpr ⟨(mj_in4 7 (by decide +kernel) rfl), (fun _ h9 => absurd h9 List.not_mem_nil)⟩)⟩)⟩)⟩)⟩)
theorem wS_latin : ∀ w ∈ mj_cwds 0 mS_charAt 492 mS_latin, w ∈ mj_GW := (List.forall_mem_cons.mpr ⟨(mj_in4 18 (by decide +kernel) rfl), (List.forall_mem_cons.mpr ⟨(mj_in4 19 (by decide +kernel) rfl), (List.forall_mem_cons.mpr ⟨(mj_in4 20 (by decide +kernel) rfl), (List.forall_mem_cons.mpr ⟨(mj_in1 14 (by decide +kernel) rfl), (List.forall_mem_cons.mpr ⟨(mj_in4 21 (by decide +kernel) rfl), (fun _ h9 => absurd h9 List.not_mem_nil)⟩)⟩)⟩)⟩)⟩)
theorem wS_ck3 : ∀ w ∈ mj_cwds 1 mS_ck 1059 mS_ck3, w ∈ mj_GW := (List.forall_mem_cons.mpr ⟨(mj_in4 30 (by decide +kernel) rfl), (List.forall_mem_cons.mpr ⟨(mj_in4 31 (by decide +kernel) rfl), (List.forall_mem_cons.mpr ⟨(mj_in1 16 (by decide +kernel) rfl), (List.forall_mem_cons.mpr ⟨(mj_in4 32 (by decide +kernel) rfl), (fun _ h9 => absurd h9 List.not_mem_nil)⟩)⟩)⟩)⟩)
theorem wS_ck : ∀ w ∈ mj_cwds 1 mS_cat 9 mS_ck, w ∈ mj_GW := (List.forall_mem_cons.mpr ⟨(mj_in4 25 (by decide +kernel) rfl), (List.forall_mem_cons.mpr ⟨(mj_in4 26 (by decide +kernel) rfl), (List.forall_mem_cons.mpr ⟨(mj_in1 14 (by decide +kernel) rfl), (List.forall_mem_cons.mpr ⟨(mj_in4 27 (by decide +kernel) rfl), (fun _ h9 => absurd h9 List.not_mem_nil)⟩)⟩)⟩)⟩)
theorem wS_cat : ∀ w ∈ mj_cwds 1 mS_charAt 495 mS_cat, w ∈ mj_GW := (List.forall_mem_cons.mpr ⟨(mj_in4 22 (by decide +kernel) rfl), (List.forall_mem_cons.mpr ⟨(mj_in4 23 (by decide +kernel) rfl), (List.forall_mem_cons.mpr ⟨(mj_in1 15 (by decide +kernel) rfl), (List.forall_mem_cons.mpr ⟨(mj_in4 24 (by decide +kernel) rfl), (fun _ h9 => absurd h9 List.not_mem_nil)⟩)⟩)⟩)⟩)
theorem pS_coder : mj_pl mS_coder 0 := ⟨by decide +kernel, by decide +kernel, by decide +kernel⟩
theorem pS_length : mj_pl mS_length 0 := ⟨by decide +kernel, by decide +kernel, by decide +kernel⟩
theorem pS_latin : mj_pl mS_latin 0 := ⟨by decide +kernel, by decide +kernel, by decide +kernel⟩
theorem pS_ck : mj_pl mS_ck 2 := ⟨by decide +kernel, by decide +kernel, by decide +kernel⟩
theorem pS_cat : mj_pl mS_cat 2 := ⟨by decide +kernel, by decide +kernel, by decide +kernel⟩
theorem pS_ck3 : mj_pl mS_ck3 3 := ⟨by decide +kernel, by decide +kernel, by decide +kernel⟩
theorem pS_charAt : mj_pl mS_charAt 1 := ⟨by decide +kernel, by decide +kernel, by decide +kernel⟩
theorem fS_cs : Cond.fieldLink RJ0 38 "java/lang/String" "COMPACT_STRINGS" "Z" ∈ mj_GW := (mj_in4 8 (by decide +kernel) rfl)
theorem fS_cd : Cond.fieldLink RJ0 15 "java/lang/String" "coder" "B" ∈ mj_GW := (mj_in7 209 (by decide +kernel) rfl)
theorem fS_vl : Cond.fieldLink RJ0 9 "java/lang/String" "value" "[B" ∈ mj_GW := (mj_in7 208 (by decide +kernel) rfl)
theorem fS_sf : Cond.fieldLink RJ0 1053 "jdk/internal/util/Preconditions" "SIOOBE_FORMATTER" "Ljava/util/function/BiFunction;" ∈ mj_GW := (mj_in4 28 (by decide +kernel) rfl)
section MJT
variable {EX : mj_X} {δ : Nat} {M : mj_M} {i : Nat} {k n : Int32}
theorem kS_coder (hi : i < 8) (hM : M.1 ≤ 9000) : mj_Cl EX δ mS_coder [.ref (9100 + i)] M (some (.int 0), M) := by
  refine mj_cl_of oS_coder (Nat.le_of_ble_eq_true rfl) ?_
  refine mj_go_gcs fS_cs (mj_dt dS_coder 0 rfl) ?_
  refine mj_go_if_eq (tgt := 13) rfl (mj_dt dS_coder 1 rfl) (fun b => absurd b (by decide)) (fun _ => ?_)
  refine mj_go_aload_n (k := 0) (x := 9100 + i) rfl (mj_dt dS_coder 2 rfl) ?_
  refine mj_go_scod hi fS_cd (mj_dt dS_coder 3 rfl) ?_
  refine mj_go_goto (tgt := 14) rfl (mj_dt dS_coder 4 rfl) ?_
  exact mj_go_ret (v := some (.int 0)) hM ⟨mj_dt dS_coder 6 rfl, .byte, rfl, rfl⟩
theorem kS_latin (hi : i < 8) (hM : M.1 ≤ 9000) : mj_Cl EX δ mS_latin [.ref (9100 + i)] M (some (.int 1), M) := by
  refine mj_cl_of oS_latin (Nat.le_of_ble_eq_true rfl) ?_
  refine mj_go_gcs fS_cs (mj_dt dS_latin 0 rfl) ?_
  refine mj_go_if_eq (tgt := 17) rfl (mj_dt dS_latin 1 rfl) (fun b => absurd b (by decide)) (fun _ => ?_)
  refine mj_go_aload_n (k := 0) (x := 9100 + i) rfl (mj_dt dS_latin 2 rfl) ?_
  refine mj_go_scod hi fS_cd (mj_dt dS_latin 3 rfl) ?_
  refine mj_go_if_ne (tgt := 17) rfl (mj_dt dS_latin 4 rfl) (fun b => absurd rfl b) (fun _ => ?_)
  refine mj_go_iconst (v := 1) rfl (mj_dt dS_latin 5 rfl) ?_
  refine mj_go_goto (tgt := 18) rfl (mj_dt dS_latin 6 rfl) ?_
  exact mj_go_ret (v := some (.int 1)) hM ⟨mj_dt dS_latin 8 rfl, .boolean, rfl, rfl⟩
theorem mj_sShr : ∀ i, i < 8 → Int32.ofNat (mj_sLen.getD i 0) >>> ((0 : Int32) &&& 31) = Int32.ofNat (mj_sLen.getD i 0) := by decide
theorem kS_length (hi : i < 8) (hM : M.1 ≤ 9000) : mj_Cl EX (δ + 1) mS_length [.ref (9100 + i)] M (some (.int (Int32.ofNat (mj_sLen.getD i 0))), M) := by
  refine mj_cl_of oS_length (Nat.le_of_ble_eq_true rfl) ?_
  refine mj_go_aload_n (k := 0) (x := 9100 + i) rfl (mj_dt dS_length 0 rfl) ?_
  refine mj_go_sval hi fS_vl (mj_dt dS_length 1 rfl) ?_
  refine mj_go_slen hi (mj_dt dS_length 2 rfl) ?_
  refine mj_go_aload_n (k := 0) (x := 9100 + i) rfl (mj_dt dS_length 3 rfl) ?_
  refine mj_go_callT (Y' := mS_coder) (as := []) (rest := [.int (Int32.ofNat (mj_sLen.getD i 0))]) wS_coder pS_coder (by decide) hi rfl rfl rfl (Nat.le_of_ble_eq_true rfl) (kS_coder hi hM) (mj_dt dS_length 4 rfl) ?_
  refine mj_go_ishr (mj_dt dS_length 5 rfl) ?_
  rw [mj_sShr i hi]
  exact mj_go_ret (v := some (.int (Int32.ofNat (mj_sLen.getD i 0)))) hM ⟨mj_dt dS_length 6 rfl, .int, rfl, rfl⟩
theorem kS_ck3 {v : Value} (hv : v = .null ∨ v = .ref 9300) (hM : M.1 ≤ 9000) (h1 : ¬ k < 0) (h2 : k < n) : mj_Cl EX δ mS_ck3 [.int k, .int n, v] M (some (.int k), M) := by
  rcases hv with rfl | rfl
  all_goals
    refine mj_cl_of oS_ck3 (Nat.le_of_ble_eq_true rfl) ?_
    refine mj_go_iload_n (k := 0) (x := k) rfl (mj_dt dS_ck3 0 rfl) ?_
    refine mj_go_if_lt (tgt := 9) rfl (mj_dt dS_ck3 1 rfl) (fun b => absurd b h1) (fun _ => ?_)
    refine mj_go_iload_n (k := 0) (x := k) rfl (mj_dt dS_ck3 2 rfl) ?_
    refine mj_go_iload_n (k := 1) (x := n) rfl (mj_dt dS_ck3 3 rfl) ?_
    refine mj_go_icmp_lt (tgt := 16) rfl (mj_dt dS_ck3 4 rfl) (fun _ => ?_) (fun b => absurd h2 b)
    refine mj_go_iload_n (k := 0) (x := k) rfl (mj_dt dS_ck3 10 rfl) ?_
    exact mj_go_ret (v := some (.int k)) hM ⟨mj_dt dS_ck3 11 rfl, .int, rfl, rfl⟩
theorem kS_ck (hM : M.1 ≤ 9000) (h1 : ¬ k < 0) (h2 : k < n) : mj_Cl EX (δ + 1) mS_ck [.int k, .int n] M (none, M) := by
  refine mj_cl_of oS_ck (Nat.le_of_ble_eq_true rfl) ?_
  refine mj_go_iload_n (k := 0) (x := k) rfl (mj_dt dS_ck 0 rfl) ?_
  refine mj_go_iload_n (k := 1) (x := n) rfl (mj_dt dS_ck 1 rfl) ?_
  refine mj_go_gsf fS_sf (mj_dt dS_ck 2 rfl) ?_ ?_
  · refine mj_go_callS (Y' := mS_ck3) (as := [.int k, .int n, .null]) (rest := []) wS_ck3 pS_ck3 (by decide) rfl rfl (Nat.le_of_ble_eq_true rfl) (kS_ck3 (Or.inl rfl) hM h1 h2) (mj_dt dS_ck 3 rfl) ?_
    refine mj_go_pop (v := .int k) rfl (mj_dt dS_ck 4 rfl) ?_
    exact mj_go_ret (v := none) hM ⟨mj_dt dS_ck 5 rfl, rfl⟩
  · refine mj_go_callS (Y' := mS_ck3) (as := [.int k, .int n, .ref 9300]) (rest := []) wS_ck3 pS_ck3 (by decide) rfl rfl (Nat.le_of_ble_eq_true rfl) (kS_ck3 (Or.inr rfl) hM h1 h2) (mj_dt dS_ck 3 rfl) ?_
    refine mj_go_pop (v := .int k) rfl (mj_dt dS_ck 4 rfl) ?_
    exact mj_go_ret (v := none) hM ⟨mj_dt dS_ck 5 rfl, rfl⟩
theorem mj_sAsc : ∀ i, i < 8 → ∀ j, j < mj_sLen.getD i 0 → (((mj_sByt.getD i []).getD j 0 &&& 255).toUInt32 % 65536).toInt32 = (mj_sByt.getD i []).getD j 0 ∧ narrow .char (.int ((mj_sByt.getD i []).getD j 0)) = .int ((mj_sByt.getD i []).getD j 0) := by decide +kernel
theorem mj_sL7 : ∀ i, i < 8 → mj_sLen.getD i 0 < 8 := by decide
theorem mj_ltLen (hi : i < 8) (hk : vp_in k (mj_sLen.getD i 0)) : ¬ k < 0 ∧ k < Int32.ofNat (mj_sLen.getD i 0) := by
  obtain ⟨h1, h2⟩ := vp_in_iff.mp hk
  refine ⟨mj_nn h1, ?_⟩
  have h8 := mj_sL7 i hi
  rw [Int32.lt_iff_toInt_lt]
  have : (Int32.ofNat (mj_sLen.getD i 0)).toInt = (mj_sLen.getD i 0 : Int) := nI_toInt (by omega)
  omega
theorem kS_cat (hi : i < 8) (hM : M.1 ≤ 9000) (hk : vp_in k (mj_sLen.getD i 0)) : mj_Cl EX (δ + 2) mS_cat [.ref (9200 + i), .int k] M (some (.int ((mj_sByt.getD i []).getD k.toNatClampNeg 0)), M) := by
  obtain ⟨h1, h2⟩ := mj_ltLen hi hk
  obtain ⟨h3, h4⟩ := mj_sAsc i hi k.toNatClampNeg (Nat.not_le.mp fun q => hk (Or.inr q))
  refine mj_cl_of oS_cat (Nat.le_of_ble_eq_true rfl) ?_
  refine mj_go_iload_n (k := 1) (x := k) rfl (mj_dt dS_cat 0 rfl) ?_
  refine mj_go_aload_n (k := 0) (x := 9200 + i) rfl (mj_dt dS_cat 1 rfl) ?_
  refine mj_go_slen hi (mj_dt dS_cat 2 rfl) ?_
  refine mj_go_callS (Y' := mS_ck) (as := [.int k, .int (Int32.ofNat (mj_sLen.getD i 0))]) (rest := []) wS_ck pS_ck (by decide) rfl rfl (Nat.le_of_ble_eq_true rfl) (kS_ck hM h1 h2) (mj_dt dS_cat 3 rfl) ?_
  refine mj_go_aload_n (k := 0) (x := 9200 + i) rfl (mj_dt dS_cat 4 rfl) ?_
  refine mj_go_iload_n (k := 1) (x := k) rfl (mj_dt dS_cat 5 rfl) ?_
  refine mj_go_sbyt hi hk (mj_dt dS_cat 6 rfl) ?_
  refine mj_go_sipush (v := 255) rfl (mj_dt dS_cat 7 rfl) ?_
  refine mj_go_iand (mj_dt dS_cat 8 rfl) ?_
  refine mj_go_i2c (mj_dt dS_cat 9 rfl) ?_
  rw [h3]
  exact mj_go_ret (v := some (.int ((mj_sByt.getD i []).getD k.toNatClampNeg 0))) hM ⟨mj_dt dS_cat 10 rfl, .char, rfl, h4⟩
theorem kS_charAt (hi : i < 8) (hM : M.1 ≤ 9000) (hk : vp_in k (mj_sLen.getD i 0)) : mj_Cl EX (δ + 3) mS_charAt [.ref (9100 + i), .int k] M (some (.int ((mj_sByt.getD i []).getD k.toNatClampNeg 0)), M) := by
  obtain ⟨h3, h4⟩ := mj_sAsc i hi k.toNatClampNeg (Nat.not_le.mp fun q => hk (Or.inr q))
  refine mj_cl_of oS_charAt (Nat.le_of_ble_eq_true rfl) ?_
  refine mj_go_aload_n (k := 0) (x := 9100 + i) rfl (mj_dt dS_charAt 0 rfl) ?_
  refine mj_go_callT (Y' := mS_latin) (as := []) (rest := []) wS_latin pS_latin (by decide) hi rfl rfl rfl (Nat.le_of_ble_eq_true rfl) (kS_latin hi hM) (mj_dt dS_charAt 1 rfl) ?_
  refine mj_go_if_eq (x := 1) (tgt := 16) rfl (mj_dt dS_charAt 2 rfl) (fun b => absurd b (by decide)) (fun _ => ?_)
  refine mj_go_aload_n (k := 0) (x := 9100 + i) rfl (mj_dt dS_charAt 3 rfl) ?_
  refine mj_go_sval hi fS_vl (mj_dt dS_charAt 4 rfl) ?_
  refine mj_go_iload_n (k := 1) (x := k) rfl (mj_dt dS_charAt 5 rfl) ?_
  refine mj_go_callS (Y' := mS_cat) (as := [.ref (9200 + i), .int k]) (rest := []) wS_cat pS_cat (by decide) rfl rfl (Nat.le_of_ble_eq_true rfl) (kS_cat hi hM hk) (mj_dt dS_charAt 6 rfl) ?_
  exact mj_go_ret (v := some (.int ((mj_sByt.getD i []).getD k.toNatClampNeg 0))) hM ⟨mj_dt dS_charAt 7 rfl, .char, rfl, h4⟩
end MJT
theorem wS_len : ∀ w ∈ ([.instanceMethod (mj_nm mS_length), .selects (mj_ow mS_length) (mj_nm mS_length) (mj_nm mS_length), .initialized (mj_ow mS_length), .code (mj_nm mS_length) (mj_by mS_length) (mj_ml mS_length) (mj_rt mS_length)] : List Cond), w ∈ mj_GW := (List.forall_mem_cons.mpr ⟨(mj_in4 1 (by decide +kernel) rfl), (List.forall_mem_cons.mpr ⟨(mj_in4 2 (by decide +kernel) rfl), (List.forall_mem_cons.mpr ⟨(mj_in1 14 (by decide +kernel) rfl), (List.forall_mem_cons.mpr ⟨(mj_in4 3 (by decide +kernel) rfl), (fun _ h9 => absurd h9 List.not_mem_nil)⟩)⟩)⟩)⟩)
theorem wS_chr : ∀ w ∈ ([.instanceMethod (mj_nm mS_charAt), .selects (mj_ow mS_charAt) (mj_nm mS_charAt) (mj_nm mS_charAt), .initialized (mj_ow mS_charAt), .code (mj_nm mS_charAt) (mj_by mS_charAt) (mj_ml mS_charAt) (mj_rt mS_charAt)] : List Cond), w ∈ mj_GW := (List.forall_mem_cons.mpr ⟨(mj_in4 15 (by decide +kernel) rfl), (List.forall_mem_cons.mpr ⟨(mj_in4 16 (by decide +kernel) rfl), (List.forall_mem_cons.mpr ⟨(mj_in1 14 (by decide +kernel) rfl), (List.forall_mem_cons.mpr ⟨(mj_in4 17 (by decide +kernel) rfl), (fun _ h9 => absurd h9 List.not_mem_nil)⟩)⟩)⟩)⟩)
