/-! MAKINGS, WHAT THE JDK ITSELF DOES, CALLS, RETURNS -/
theorem mj_g_ai : Cond.arrayClass .int ∈ mj_GW := by decide +kernel
theorem mj_g_al : Cond.arrayClass .long ∈ mj_GW := by decide +kernel
theorem mj_g_obj : Cond.instanceMethod objectInit ∈ mj_GW ∧ Cond.code objectInit ⟨#[0xb1]⟩ 1 none ∈ mj_GW := by decide +kernel
theorem mj_g_max : Cond.static Lib.Math.max.name ∈ mj_GW ∧ Cond.initialized "java/lang/Math" ∈ mj_GW ∧ Cond.code Lib.Math.max.name Lib.Math.max.code 2 (some .int) ∈ mj_GW := by decide +kernel
theorem mj_g_min : Cond.static Lib.Math.min.name ∈ mj_GW ∧ Cond.code Lib.Math.min.name Lib.Math.min.code 2 (some .int) ∈ mj_GW := by decide +kernel
theorem mj_g_cpy : Cond.native arraycopyName ∈ mj_GW ∧ Cond.static arraycopyName ∈ mj_GW ∧ Cond.initialized "java/lang/System" ∈ mj_GW := by decide +kernel
theorem mj_g_new : ∀ c, c < 10 → Cond.instantiable (mj_R c) (mj_N c) ∈ mj_GW ∧ Cond.initialized (mj_R c) ∈ mj_GW := by decide +kernel
theorem mj_nfd : ∀ c, c < 10 → ∀ k, k < mj_N c → mj_ty c k ≠ .float ∧ mj_ty c k ≠ .double := by decide +kernel
theorem mj_cpw : nativeFrameWords "java/lang/System" "arraycopy" 5 = 7 := by decide +kernel
/-- the context's outside, seen from a later state -/
theorem mj_ExtMove {EX : mj_X} {base : Nat} {X : Nat → Nat} {s U : State} {H : Heap} {locs : List Loc} (h : mj_Ext EX base X s) (hU : U.heap = H) (hS : va_S (fun q => base ≤ q) s.heap H locs) (hW : s.WarmedH U.vm) : mj_Ext EX base X U := by
  obtain ⟨h1, h2, h3, h4, h5, h6, h7, h8, h9, h10⟩ := h
  have hq : ∀ a : Nat, a < s.heap.size → ¬ base ≤ a → U.heap[a]? = s.heap[a]? := fun a q1 q2 => by rw [hU]; exact hS.2.1 a q1 q2
  have hal := hW.alike
  refine ⟨by rw [hU]; exact Nat.le_trans h1 hS.1, fun j hj => ((h2 j hj).kept hq).moved hal, (h3.kept hq).moved hal, (h4.kept hq).moved hal, fun i hi => (h5 i hi).warm hW, (h6.kept hq).moved hal, h7.imp (fun z => (z.kept hq).moved hal) (fun z => (z.kept hq).moved hal), ?_, h9.moved hal, h10.moved hal⟩
  intro w hw
  have h0 := h8 w hw
  unfold mj_NW at hw
  simp only [List.mem_cons, List.not_mem_nil, or_false] at hw
  rcases hw with rfl | rfl | rfl | rfl | rfl
  · exact va_Nw.warmM hW h0
  · exact va_Nw.warmF hW h0
  · exact va_Nw.warmM hW h0
  · exact va_Nw.warmF hW h0
  · exact va_Nw.warmM hW h0
theorem mj_ExtCall {EX : mj_X} {base : Nat} {X : Nat → Nat} {U : State} (g : JFrame) (mk : MethodId) (a : Array Value) (h : mj_Ext EX base X U) : mj_Ext EX base X (U.calling g mk a) := by
  obtain ⟨h1, h2, h3, h4, h5, h6, h7, h8, h9, h10⟩ := h
  have hal : U.vm.Alike (U.calling g mk a).vm := Vm.Alike.refl U.vm
  exact ⟨h1, fun j hj => va_T.moved (U := U.calling g mk a) hal (h2 j hj), va_Z.moved (U := U.calling g mk a) hal h3, vk_S.moved (U := U.calling g mk a) hal h4, fun i hi => vk_R.same (U := U.calling g mk a) rfl (h5 i hi), va_Z.moved (U := U.calling g mk a) hal h6, h7.imp (fun z => va_Z.moved (U := U.calling g mk a) hal z) (fun z => va_Z.moved (U := U.calling g mk a) hal z), fun w hw => va_Nw.same (mj_NWok hw) (u := U) (U := U.calling g mk a) rfl (h8 w hw), va_AO.moved (U := U.calling g mk a) hal h9, va_AO.moved (U := U.calling g mk a) hal h10⟩
/-- the address of what was made -/
theorem mj_newq {D : va_G} {base q : Nat} {X : Nat → Nat} {cA : Nat → ClassId} {M : mj_M} {e : va_E} {H1 : Heap} (hP : va_P D mj_cl (mj_w (mj_ad base X) cA M ++ [(q, e)]) H1) (hD : va_D (fun q => base ≤ q) (mj_w (mj_ad base X) cA M ++ [(q, e)])) (hz : H1.size ≤ base + (M.1 + 1)) (hM : M.1 < 9000) : q = mj_ad base X M.1 := by
  have hl : (mj_w (mj_ad base X) cA M ++ [(q, e)])[M.1]? = some (q, e) := by
    rw [List.getElem?_append_right (by rw [mj_w_len]; exact Nat.le_refl _), mj_w_len, Nat.sub_self]
    rfl
  have h1 : q < H1.size := va_at.lt (hP _ _ hl)
  have h2 : base ≤ q := hD.2 _ _ hl
  rw [mj_adlt hM]
  by_cases h3 : q < base + M.1
  · exfalso
    have hj : q - base < M.1 := by omega
    have h4 : (mj_w (mj_ad base X) cA M ++ [(q, e)])[q - base]? = some (mj_ad base X (q - base), mj_ent (mj_ad base X) cA M (q - base)) := by
      rw [List.getElem?_append_left (by rw [mj_w_len]; exact hj), mj_w_get hj]
    have h5 := hD.1 _ _ _ _ h4 hl (by show mj_ad base X (q - base) = q; rw [mj_adlt (by omega)]; omega)
    omega
  · omega
section MJC
variable {EX : mj_X} {δ : Nat} {Y : mj_Y} {pc : Nat} {lv : mj_LV} {rest : List Value} {M : mj_M} {r : mj_S}
theorem mj_go_newI {n : Int32} (hn : ¬ n < 0) (hsh : mj_sh M.1 = (0, n.toNatClampNeg)) (hM : M.1 < 9000) (hlen : n.toNatClampNeg ≤ 4096) (hd : decode (mj_by Y) pc = .ok (.newarray .int, 2)) (hg : mj_Go EX δ Y (pc + 2) lv (.ref M.1 :: rest) (mj_new M) r) : mj_Go EX δ Y pc lv (.int n :: rest) M r := by
  have hm1 : M.1 + 1 ≤ r.2.1 := hg.1.1
  refine ⟨⟨by omega, hg.1.2⟩, fun p l e R s m args below meth c0 D cA base X hC Q H locs cells slots ls hl hP hS hz hc hs hk => ?_⟩
  obtain ⟨hx, hb, -, hown, hts, hK, hE, -⟩ := id hC
  have hD := mj_D (base := base) (X := X) (cA := cA) (M := M) (by omega)
  have hsl : mj_sl (M.1 + 1) = mj_sl M.1 + n.toNatClampNeg := by show mj_sl M.1 + (mj_sh M.1).2 = _; rw [hsh]
  have hsl2 := mj_sl_mono hm1
  refine va_newa (atype := .int) (ty := .int) (a0 := (n.toNatClampNeg, .inl (fun _ => 0))) hx hb (hts _ mj_g_ai) rfl hK hP hD hS (fun q h => Nat.le_trans hE.1 h) (fun _ => rfl) hn rfl (by show n.toNatClampNeg * 4 ≤ _; omega) (by omega) (by omega) hd (fun q cA1 H1 hK1 hP1 hD1 hS1 => ?_)
  refine mj_bd (fun hb1 => ?_)
  have hq := mj_newq hP1 hD1 (by omega) hM
  have e1 : cA1 = cA 0 := Option.some.inj ((hK1.2 4 _ rfl).2.symm.trans (hK.2 0 _ rfl).2)
  subst e1
  rw [mj_w_push (M' := mj_new M) rfl hq (fun a ha => mj_ent_of (fun b => if_neg ha) (fun b => if_neg ha) (fun b => if_neg ha)) (by
    rw [mj_ent_i (by rw [hsh]), hsh]
    congr 4
    funext b
    simp [mj_new, mj_cl0])] at hP1
  rw [hq]
  refine hg.2 p l e R s m args below meth c0 D cA base X hC Q H1 locs (cells + 1) (slots + n.toNatClampNeg) ls hl hP1 hS1 (by show s.heap.size + (cells + 1) ≤ base + (M.1 + 1); omega) (by show cells + 1 + (r.2.1 - (M.1 + 1)) ≤ _; omega) (by show slots + n.toNatClampNeg + (mj_sl r.2.1 - mj_sl (M.1 + 1)) ≤ _; omega) ?_
  rw [show cells + 1 + (r.2.1 - (mj_new M).1) = cells + (r.2.1 - M.1) by show cells + 1 + (r.2.1 - (M.1 + 1)) = _; omega, show slots + n.toNatClampNeg + (mj_sl r.2.1 - mj_sl (mj_new M).1) = slots + (mj_sl r.2.1 - mj_sl M.1) by show slots + n.toNatClampNeg + (mj_sl r.2.1 - mj_sl (M.1 + 1)) = _; omega]
  exact hk
theorem mj_go_newL {n : Int32} (hn : ¬ n < 0) (hsh : mj_sh M.1 = (1, n.toNatClampNeg)) (hM : M.1 < 9000) (hlen : n.toNatClampNeg ≤ 4096) (hd : decode (mj_by Y) pc = .ok (.newarray .long, 2)) (hg : mj_Go EX δ Y (pc + 2) lv (.ref M.1 :: rest) (mj_new M) r) : mj_Go EX δ Y pc lv (.int n :: rest) M r := by
  have hm1 : M.1 + 1 ≤ r.2.1 := hg.1.1
  refine ⟨⟨by omega, hg.1.2⟩, fun p l e R s m args below meth c0 D cA base X hC Q H locs cells slots ls hl hP hS hz hc hs hk => ?_⟩
  obtain ⟨hx, hb, -, hown, hts, hK, hE, -⟩ := id hC
  have hD := mj_D (base := base) (X := X) (cA := cA) (M := M) (by omega)
  have hsl : mj_sl (M.1 + 1) = mj_sl M.1 + n.toNatClampNeg := by show mj_sl M.1 + (mj_sh M.1).2 = _; rw [hsh]
  have hsl2 := mj_sl_mono hm1
  refine va_newa (atype := .long) (ty := .long) (a0 := (n.toNatClampNeg, .inr (.inl (fun _ => 0)))) hx hb (hts _ mj_g_al) rfl hK hP hD hS (fun q h => Nat.le_trans hE.1 h) (fun _ => rfl) hn rfl (by show n.toNatClampNeg * 8 ≤ _; omega) (by omega) (by omega) hd (fun q cA1 H1 hK1 hP1 hD1 hS1 => ?_)
  refine mj_bd (fun hb1 => ?_)
  have hq := mj_newq hP1 hD1 (by omega) hM
  have e1 : cA1 = cA 1 := Option.some.inj ((hK1.2 4 _ rfl).2.symm.trans (hK.2 1 _ rfl).2)
  subst e1
  rw [mj_w_push (M' := mj_new M) rfl hq (fun a ha => mj_ent_of (fun b => if_neg ha) (fun b => if_neg ha) (fun b => if_neg ha)) (by
    rw [mj_ent_l (by rw [hsh]), hsh]
    congr 5
    funext b
    simp [mj_new, mj_cl0])] at hP1
  rw [hq]
  refine hg.2 p l e R s m args below meth c0 D cA base X hC Q H1 locs (cells + 1) (slots + n.toNatClampNeg) ls hl hP1 hS1 (by show s.heap.size + (cells + 1) ≤ base + (M.1 + 1); omega) (by show cells + 1 + (r.2.1 - (M.1 + 1)) ≤ _; omega) (by show slots + n.toNatClampNeg + (mj_sl r.2.1 - mj_sl (M.1 + 1)) ≤ _; omega) ?_
  rw [show cells + 1 + (r.2.1 - (mj_new M).1) = cells + (r.2.1 - M.1) by show cells + 1 + (r.2.1 - (M.1 + 1)) = _; omega, show slots + n.toNatClampNeg + (mj_sl r.2.1 - mj_sl (mj_new M).1) = slots + (mj_sl r.2.1 - mj_sl M.1) by show slots + n.toNatClampNeg + (mj_sl r.2.1 - mj_sl (M.1 + 1)) = _; omega]
  exact hk
theorem mj_go_anew {n : Int32} {idx k c : Nat} (hkc : k = 2 ∧ c = 1 ∨ k = 3 ∧ c = 6) (hw : Cond.classLink (mj_ow Y) idx (mj_R c) ∈ mj_GW) (hn : ¬ n < 0) (hsh : mj_sh M.1 = (k, n.toNatClampNeg)) (hM : M.1 < 9000) (hlen : n.toNatClampNeg ≤ 4096) (hd : decode (mj_by Y) pc = .ok (.anewarray idx, 3)) (hg : mj_Go EX δ Y (pc + 3) lv (.ref M.1 :: rest) (mj_new M) r) : mj_Go EX δ Y pc lv (.int n :: rest) M r := by
  have hm1 : M.1 + 1 ≤ r.2.1 := hg.1.1
  refine ⟨⟨by omega, hg.1.2⟩, fun p l e R s m args below meth c0 D cA base X hC Q H locs cells slots ls hl hP hS hz hc hs hk => ?_⟩
  obtain ⟨hx, hb, -, hown, hts, hK, hE, -⟩ := id hC
  have hD := mj_D (base := base) (X := X) (cA := cA) (M := M) (by omega)
  have hsl : mj_sl (M.1 + 1) = mj_sl M.1 + n.toNatClampNeg := by show mj_sl M.1 + (mj_sh M.1).2 = _; rw [hsh]
  have hsl2 := mj_sl_mono hm1
  have hAO : va_AO (mj_R c) s := by
    rcases hkc with ⟨-, rfl⟩ | ⟨-, rfl⟩
    · exact hE.2.2.2.2.2.2.2.2.1
    · exact hE.2.2.2.2.2.2.2.2.2
  refine va_newq hx hb hown (hts _ hw) hAO hK hP hD hS (fun q h => Nat.le_trans hE.1 h) hn rfl (by show n.toNatClampNeg * 4 ≤ _; omega) (by omega) (by omega) hd (fun q cA1 H1 hK1 hP1 hD1 hS1 => ?_)
  refine mj_bd (fun hb1 => ?_)
  have hq := mj_newq hP1 hD1 (by omega) hM
  have e1 : cA1 = cA k := by
    rcases hkc with ⟨rfl, rfl⟩ | ⟨rfl, rfl⟩
    · obtain ⟨_, _, -, -, -, f1⟩ := (hK1.2 4 _ rfl).2
      obtain ⟨_, _, -, -, -, f2⟩ := (hK.2 2 _ rfl).2
      exact Option.some.inj (f1.symm.trans f2)
    · obtain ⟨_, _, -, -, -, f1⟩ := (hK1.2 4 _ rfl).2
      obtain ⟨_, _, -, -, -, f2⟩ := (hK.2 3 _ rfl).2
      exact Option.some.inj (f1.symm.trans f2)
  subst e1
  rw [mj_w_push (M' := mj_new M) rfl hq (fun a ha => mj_ent_of (fun b => if_neg ha) (fun b => if_neg ha) (fun b => if_neg ha)) (by
    rw [mj_ent_q (k := k) (by omega) (by rw [hsh]), hsh]
    congr 7
    funext b
    simp [mj_new, mj_cl0])] at hP1
  rw [hq]
  refine hg.2 p l e R s m args below meth c0 D cA base X hC Q H1 locs (cells + 1) (slots + n.toNatClampNeg) ls hl hP1 hS1 (by show s.heap.size + (cells + 1) ≤ base + (M.1 + 1); omega) (by show cells + 1 + (r.2.1 - (M.1 + 1)) ≤ _; omega) (by show slots + n.toNatClampNeg + (mj_sl r.2.1 - mj_sl (M.1 + 1)) ≤ _; omega) ?_
  rw [show cells + 1 + (r.2.1 - (mj_new M).1) = cells + (r.2.1 - M.1) by show cells + 1 + (r.2.1 - (M.1 + 1)) = _; omega, show slots + n.toNatClampNeg + (mj_sl r.2.1 - mj_sl (mj_new M).1) = slots + (mj_sl r.2.1 - mj_sl M.1) by show slots + n.toNatClampNeg + (mj_sl r.2.1 - mj_sl (M.1 + 1)) = _; omega]
  exact hk
theorem mj_go_new {idx c : Nat} (hc10 : c < 10) (hw : Cond.classLink (mj_ow Y) idx (mj_R c) ∈ mj_GW) (hsh : mj_sh M.1 = (c + 10, mj_N c)) (hM : M.1 < 9000) (hd : decode (mj_by Y) pc = .ok (.new idx, 3)) (hg : mj_Go EX δ Y (pc + 3) lv (.ref M.1 :: rest) (mj_new M) r) : mj_Go EX δ Y pc lv rest M r := by
  have hm1 : M.1 + 1 ≤ r.2.1 := hg.1.1
  refine ⟨⟨by omega, hg.1.2⟩, fun p l e R s m args below meth c0 D cA base X hC Q H locs cells slots ls hl hP hS hz hc hs hk => ?_⟩
  obtain ⟨hx, hb, -, hown, hts, hK, hE, -⟩ := id hC
  have hD := mj_D (base := base) (X := X) (cA := cA) (M := M) (by omega)
  have hsl : mj_sl (M.1 + 1) = mj_sl M.1 + mj_N c := by show mj_sl M.1 + (mj_sh M.1).2 = _; rw [hsh]
  have hsl2 := mj_sl_mono hm1
  refine va_new (Ts := mj_GW) (ci := c) (fs := (List.range (mj_N c)).map (fun k => mj_upv (mj_ad base X) (mj_val (mj_new M) M.1 k (mj_ty c k)))) hx hb hts (mj_layAll c hc10) (mj_ty c) (mj_tyOK c hc10) hown (hts _ hw) (hts _ (mj_g_new c hc10).1) (hts _ (mj_g_new c hc10).2) hK hP hD hS (fun q h => Nat.le_trans hE.1 h) (mj_clOK c hc10) (fun j hj => ?_) (by omega) (by omega) hd (fun q H1 hP1 hD1 hS1 => ?_)
  · have hv : vp_V ((List.range (mj_N c)).map (fun k => mj_upv (mj_ad base X) (mj_val (mj_new M) M.1 k (mj_ty c k)))) j = mj_upv (mj_ad base X) (mj_val (mj_new M) M.1 j (mj_ty c j)) := by
      unfold vp_V
      rw [List.getD_eq_getElem?_getD]
      simp [hj]
    rw [hv]
    obtain ⟨n1, n2⟩ := mj_nfd c hc10 j hj
    cases ht : mj_ty c j with
    | float => exact absurd ht n1
    | double => exact absurd ht n2
    | _ => simp [mj_val, mj_new, mj_cl0, mj_upv, defaultValue, va_rf]
  refine mj_bd (fun hb1 => ?_)
  have hq := mj_newq hP1 hD1 (by omega) hM
  rw [mj_w_push (M' := mj_new M) rfl hq (fun a ha => mj_ent_of (fun b => if_neg ha) (fun b => if_neg ha) (fun b => if_neg ha)) (by
    rw [mj_ent_obj hsh])] at hP1
  rw [hq]
  refine hg.2 p l e R s m args below meth c0 D cA base X hC Q H1 locs (cells + 1) (slots + mj_N c) ls hl hP1 hS1 (by show s.heap.size + (cells + 1) ≤ base + (M.1 + 1); omega) (by show cells + 1 + (r.2.1 - (M.1 + 1)) ≤ _; omega) (by show slots + mj_N c + (mj_sl r.2.1 - mj_sl (M.1 + 1)) ≤ _; omega) ?_
  rw [show cells + 1 + (r.2.1 - (mj_new M).1) = cells + (r.2.1 - M.1) by show cells + 1 + (r.2.1 - (M.1 + 1)) = _; omega, show slots + mj_N c + (mj_sl r.2.1 - mj_sl (mj_new M).1) = slots + (mj_sl r.2.1 - mj_sl M.1) by show slots + mj_N c + (mj_sl r.2.1 - mj_sl (M.1 + 1)) = _; omega]
  exact hk
theorem mj_go_max {idx : Nat} {x y : Int32} (hw : Cond.methodLink (mj_ow Y) idx Lib.Math.max.name ∈ mj_GW) (hcat : (rest.map fun v => v.category).sum ≤ 8) (hd : decode (mj_by Y) pc = .ok (.invokestatic idx, 3)) (hg : mj_Go EX δ Y (pc + 3) lv (.int (if x < y then y else x) :: rest) M r) : mj_Go EX δ Y pc lv (.int y :: .int x :: rest) M r := by
  refine ⟨hg.1, fun p l e R s m args below meth c0 D cA base X hC Q H locs cells slots ls hl hP hS hz hc hs hk => ?_⟩
  obtain ⟨hx, hb, hml, hown, hts, hK, hE, -, hf, hlo⟩ := id hC
  have h8 := mj_us_cat (mj_ad base X) rest
  exact va_mmax hx hb (hml.trans hl.1.symm) hown (hts _ hw) (hts _ mj_g_max.1) (hts _ mj_g_max.2.1) (hts _ mj_g_max.2.2) (by omega) (by show ((mj_us (mj_ad base X) rest).map fun v => v.category).sum + 13 ≤ _; omega) (by omega) (by omega) hd (hg.2 p l e R s m args below meth c0 D cA base X hC Q H locs cells slots ls hl hP hS hz hc hs hk)
theorem mj_go_min {idx : Nat} {x y : Int32} (hw : Cond.methodLink (mj_ow Y) idx Lib.Math.min.name ∈ mj_GW) (hcat : (rest.map fun v => v.category).sum ≤ 8) (hd : decode (mj_by Y) pc = .ok (.invokestatic idx, 3)) (hg : mj_Go EX δ Y (pc + 3) lv (.int (if y < x then y else x) :: rest) M r) : mj_Go EX δ Y pc lv (.int y :: .int x :: rest) M r := by
  refine ⟨hg.1, fun p l e R s m args below meth c0 D cA base X hC Q H locs cells slots ls hl hP hS hz hc hs hk => ?_⟩
  obtain ⟨hx, hb, hml, hown, hts, hK, hE, -, hf, hlo⟩ := id hC
  have h8 := mj_us_cat (mj_ad base X) rest
  exact va_mmin hx hb (hml.trans hl.1.symm) hown (hts _ hw) (hts _ mj_g_min.1) (hts _ mj_g_max.2.1) (hts _ mj_g_min.2) (by omega) (by show ((mj_us (mj_ad base X) rest).map fun v => v.category).sum + 13 ≤ _; omega) (by omega) (by omega) hd (hg.2 p l e R s m args below meth c0 D cA base X hC Q H locs cells slots ls hl hP hS hz hc hs hk)
theorem mj_go_obj {idx h : Nat} (hw : Cond.methodLink (mj_ow Y) idx objectInit ∈ mj_GW) (hcat : (rest.map fun v => v.category).sum ≤ 8) (hd : decode (mj_by Y) pc = .ok (.invokespecial idx, 3)) (hg : mj_Go EX δ Y (pc + 3) lv rest M r) : mj_Go EX δ Y pc lv (.ref h :: rest) M r := by
  refine ⟨hg.1, fun p l e R s m args below meth c0 D cA base X hC Q H locs cells slots ls hl hP hS hz hc hs hk => ?_⟩
  obtain ⟨hx, hb, hml, hown, hts, hK, hE, -, hf, hlo⟩ := id hC
  have h8 := mj_us_cat (mj_ad base X) rest
  refine W.objInit hx hb hown (hts _ hw) (hts _ mj_g_obj.1) (hts _ mj_g_obj.2) rfl (hl.1.trans hml.symm) (a := mj_ad base X h) (rest := mj_us (mj_ad base X) rest) rfl hd (by omega) ?_ ?_
  · show 2 * 0 + ((mj_us (mj_ad base X) rest).map fun v => v.category).sum + 12 ≤ _
    omega
  · exact hg.2 p l e R s m args below meth c0 D cA base X hC Q H locs cells slots ls hl hP hS hz hc hs hk
def mj_cpI (M : mj_M) (h0 h1 sp dp n : Nat) : mj_M := (M.1, M.2.1, mj_cpy M.2.2.1 h0 h1 sp dp n, M.2.2.2)
def mj_cpL (M : mj_M) (h0 h1 sp dp n : Nat) : mj_M := (M.1, M.2.1, M.2.2.1, mj_cpy M.2.2.2 h0 h1 sp dp n)
theorem mj_go_cpyI {idx h0 h1 : Nat} {sp dp n : Int32} (hw : Cond.methodLink (mj_ow Y) idx arraycopyName ∈ mj_GW) (hcat : (rest.map fun v => v.category).sum ≤ 8) (k0 : h0 < M.1) (k1 : h1 < M.1) (s0 : (mj_sh h0).1 = 0) (s1 : (mj_sh h1).1 = 0) (q1 : ¬ sp < 0) (q2 : ¬ dp < 0) (q3 : ¬ n < 0) (q4 : sp.toNatClampNeg + n.toNatClampNeg ≤ (mj_sh h0).2) (q5 : dp.toNatClampNeg + n.toNatClampNeg ≤ (mj_sh h1).2)
    (hd : decode (mj_by Y) pc = .ok (.invokestatic idx, 3)) (hg : mj_Go EX δ Y (pc + 3) lv rest (mj_cpI M h0 h1 sp.toNatClampNeg dp.toNatClampNeg n.toNatClampNeg) r) : mj_Go EX δ Y pc lv (.int n :: .int dp :: .ref h1 :: .int sp :: .ref h0 :: rest) M r := by
  refine ⟨hg.1, fun p l e R s m args below meth c0 D cA base X hC Q H locs cells slots ls hl hP hS hz hc hs hk => ?_⟩
  obtain ⟨hx, hb, hml, hown, hts, hK, hE, -, hf, hlo⟩ := id hC
  have h8 := mj_us_cat (mj_ad base X) rest
  have hD := mj_D (base := base) (X := X) (cA := cA) (M := M) (Nat.le_trans hg.1.1 hg.1.2)
  refine va_copyi hx hb (hml.trans hl.1.symm) hown (hts _ hw) (hts _ mj_g_cpy.1) (hts _ mj_g_cpy.2.1) (hts _ mj_g_cpy.2.2) hK hP hD hS h0 h1 0 0 (ty := .int) (by rw [mj_w_get k0, mj_ent_i s0]) (by rw [mj_w_get k1, mj_ent_i s1]) rfl rfl rfl q1 q2 q3 q4 q5 (fun _ _ => rfl) (by omega) (by rw [mj_cpw]; show ((mj_us (mj_ad base X) rest).map fun v => v.category).sum + (7 + 11) ≤ _; omega) hd (fun H1 locs1 hP1 _ hS1 => ?_)
  rw [mj_w_set (M := M) (M' := mj_cpI M h0 h1 sp.toNatClampNeg dp.toNatClampNeg n.toNatClampNeg) rfl (fun a ha => mj_ent_of (fun b => by first | rfl | exact if_neg ha) (fun b => by first | rfl | exact if_neg ha) (fun b => by first | rfl | exact if_neg ha)) (by
    rw [mj_ent_i s1]
    congr 4
    funext b
    simp [mj_cpI, mj_cpy])] at hP1
  exact hg.2 p l e R s m args below meth c0 D cA base X hC Q H1 locs1 cells slots ls hl hP1 hS1 hz hc hs hk
theorem mj_go_cpyL {idx h0 h1 : Nat} {sp dp n : Int32} (hw : Cond.methodLink (mj_ow Y) idx arraycopyName ∈ mj_GW) (hcat : (rest.map fun v => v.category).sum ≤ 8) (k0 : h0 < M.1) (k1 : h1 < M.1) (s0 : (mj_sh h0).1 = 1) (s1 : (mj_sh h1).1 = 1) (q1 : ¬ sp < 0) (q2 : ¬ dp < 0) (q3 : ¬ n < 0) (q4 : sp.toNatClampNeg + n.toNatClampNeg ≤ (mj_sh h0).2) (q5 : dp.toNatClampNeg + n.toNatClampNeg ≤ (mj_sh h1).2)
    (hd : decode (mj_by Y) pc = .ok (.invokestatic idx, 3)) (hg : mj_Go EX δ Y (pc + 3) lv rest (mj_cpL M h0 h1 sp.toNatClampNeg dp.toNatClampNeg n.toNatClampNeg) r) : mj_Go EX δ Y pc lv (.int n :: .int dp :: .ref h1 :: .int sp :: .ref h0 :: rest) M r := by
  refine ⟨hg.1, fun p l e R s m args below meth c0 D cA base X hC Q H locs cells slots ls hl hP hS hz hc hs hk => ?_⟩
  obtain ⟨hx, hb, hml, hown, hts, hK, hE, -, hf, hlo⟩ := id hC
  have h8 := mj_us_cat (mj_ad base X) rest
  have hD := mj_D (base := base) (X := X) (cA := cA) (M := M) (Nat.le_trans hg.1.1 hg.1.2)
  refine va_copyl hx hb (hml.trans hl.1.symm) hown (hts _ hw) (hts _ mj_g_cpy.1) (hts _ mj_g_cpy.2.1) (hts _ mj_g_cpy.2.2) hK hP hD hS h0 h1 1 1 (ty := .long) (by rw [mj_w_get k0, mj_ent_l s0]) (by rw [mj_w_get k1, mj_ent_l s1]) rfl rfl rfl q1 q2 q3 q4 q5 (fun _ _ => rfl) (by omega) (by rw [mj_cpw]; show ((mj_us (mj_ad base X) rest).map fun v => v.category).sum + (7 + 11) ≤ _; omega) hd (fun H1 locs1 hP1 _ hS1 => ?_)
  rw [mj_w_set (M := M) (M' := mj_cpL M h0 h1 sp.toNatClampNeg dp.toNatClampNeg n.toNatClampNeg) rfl (fun a ha => mj_ent_of (fun b => by first | rfl | exact if_neg ha) (fun b => by first | rfl | exact if_neg ha) (fun b => by first | rfl | exact if_neg ha)) (by
    rw [mj_ent_l s1]
    congr 5
    funext b
    simp [mj_cpL, mj_cpy])] at hP1
  exact hg.2 p l e R s m args below meth c0 D cA base X hC Q H1 locs1 cells slots ls hl hP1 hS1 hz hc hs hk
end MJC
