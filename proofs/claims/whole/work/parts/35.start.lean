-- ===== end of PART A; then your names; then what follows =====
/-! THE CLAIM OUT OF ONE WALK OF THE LAW'S BODY. Your part is whole_start (and what it stands on); all else here is the same for every law, but numbers. -/
def R_law : String := "StrengthenFirstLaw"
def lw_P (b : Addr) (xs : List Int32) (args : Array Value) (s : State) : Prop := args = #[.ref b] ∧ s.IntsAt b xs ∧ xs.length ≤ 3072 ∧ (Jvm.Cond.and given_1 narrow_1).before args s = true
def lw_Q (_ : Array Value) (s : State) (o : Outcome) (t : State) : Prop := o = .returned (some (.int 1)) ∧ Framed s o t [] 600000 7302250
def lw_Z (below : List Frame) (a : Array Value) (s : State) : State → Prop := fun t => ∃ o, t.status = .running ∧ Ended t below o ∧ lw_Q a s o t
/-- the law's own end, with 1 on the stack, nothing written that was there before, its room as the claim has it -/
theorem lw_ret {p : Program} {l : Launch} {e : Env} {s : State} {m : MethodId} {below : List Frame} {meth : Method} {c : Code} {b : Nat} (hx : p.tables.exec = Jvm.exec) (hb : c.code = code) (hr : meth.sig.returnType = ret) (hlocks : meth.locks = false) {pc : Nat} {H : Heap} {ls : Array Slot} (hdg : decode code pc = .ok (.ireturn, 1)) : W p l e room_1 s m #[Value.ref b] below meth c H [] 600000 7302250 (lw_Z below #[Value.ref b] s) (F0 m pc ls [.int 1]) := by
  intro T hT X
  obtain ⟨fs, hret, hrun, hended, hW, hframe⟩ := X.leave (v := some (.int 1)) (hlocks := hlocks) (fun h => by rw [hr] at h; cases h)
  have hmeth' : T.vm.method? m = some meth := X.method'
  refine ⟨T.setFrames fs, ?_, .returned (some (.int 1)), hrun, hended, rfl, ⟨_, rfl⟩, hW, hframe⟩
  jvm_step X.here [X.here.top, hx, hb, hdg, hmeth', hr, ret, narrow_b1]
  (try refine ⟨rfl, ?_⟩); (try refine ⟨rfl, ?_⟩)
  first | (intro acts; rw [hret _ acts rfl rfl rfl]) | rw [hret _ _ rfl rfl rfl]
  exact Steps.refl _
/-- what holds at the law's entry: the machine, the code, the tables' words (any of lw_tbl by 'hts w (by decide +kernel)'), the script of L ints xs at the cell b, what the Statement gives of the start (any of its parts by flat_of_before) -/
def lw_At (p : Program) (s : State) (m : MethodId) (meth : Method) (c : Code) (b L : Nat) (xs : Nat → Int32) : Prop :=
  p.tables.exec = Jvm.exec ∧ c.code = code ∧ meth.sig.returnType = ret ∧ c.maxLocals = 4 ∧ s.vm.findClass R_law = some m.cls ∧ (∀ w ∈ lw_tbl, w.before #[Value.ref b] s = true) ∧ va_X b L xs s s.heap ∧ b < s.heap.size ∧ meth.locks = false ∧ (Jvm.Cond.and given_1 narrow_1).before #[Value.ref b] s = true
/-! THE START: what the Statement gives at the law's entry, and the law's walk out of the law as a function -/
theorem mj_law_go {L : Nat} {xs : Nat → Int32} {δ : Nat} {m' : mj_m} (hδ : 40 ≤ δ) (h : mj_lp 5000 (f_L_law_18 5000 L xs) (0, mj_m1) = some (1, m')) : mj_Go (mj_EX L xs) (δ + 1) mY_L_law 0 [(0, .ref 9000)] [] mj_M0 (some (.int 1), mj_fin m') := by
  have hi := mj_ini_ok
  unfold mj_ini at hi
  obtain ⟨c1, hi⟩ := mj_ck_some hi
  obtain ⟨m1, e1, hi⟩ := mj_mw_some hi
  obtain ⟨m2, e2, hi⟩ := mj_bind_some hi
  obtain ⟨c2, hi⟩ := mj_ck_some hi
  obtain ⟨m3, e3, hi⟩ := mj_mw_some hi
  simp only [Bool.and_eq_true, decide_eq_true_eq] at c2
  refine ml_new (c := 8) (by decide) cw_L_7 c1 (mj_dl lwd_0 0 rfl) ?_
  refine ml_eqm (M1 := m1) (by rw [e1]) ?_
  refine mj_go_dup rfl (mj_dl lwd_0 1 rfl) ?_
  refine ml_callI (Y' := mY_X8_init) (as := []) (rest := [.ref 0]) (M1 := m2) lm_L_9 wc_X8_init pl_X8_init ok_X8_init rfl rfl rfl rfl (Nat.le_of_ble_eq_true rfl) (k_X8_init_I (by omega) e2) (mj_dl lwd_0 2 rfl) ?_
  refine mj_go_astore_n (k := 1) (by decide) (mj_dl lwd_0 3 rfl) ?_
  refine ml_new (c := 9) (by decide) cw_L_10 c2.2 (mj_dl lwd_0 4 rfl) ?_
  refine ml_eqm (M1 := m3) (by rw [e3]) ?_
  rw [c2.1]
  refine mj_go_dup rfl (mj_dl lwd_0 5 rfl) ?_
  refine ml_callI (Y' := mY_X9_init) (as := []) (rest := [.ref 95]) (M1 := mj_fin mj_m1) lm_L_12 wc_X9_init pl_X9_init ok_X9_init rfl rfl rfl rfl (Nat.le_of_ble_eq_true rfl) (k_X9_init_I (by omega) hi) (mj_dl lwd_0 6 rfl) ?_
  refine mj_go_astore_n (k := 2) (by decide) (mj_dl lwd_0 7 rfl) ?_
  refine mj_go_iconst (v := 0) rfl (mj_dl lwd_0 8 rfl) ?_
  refine mj_go_istore_n (k := 3) (by decide) (mj_dl lwd_0 9 rfl) ?_
  refine mj_go_sub (lv' := [(0, .ref 9000), (1, .ref 0), (2, .ref 95), (3, .int 0)]) (List.forall_mem_cons.mpr ⟨rfl, List.forall_mem_cons.mpr ⟨rfl, List.forall_mem_cons.mpr ⟨rfl, List.forall_mem_cons.mpr ⟨rfl, fun _ h9 => absurd h9 List.not_mem_nil⟩⟩⟩⟩) ?_
  exact k_L_law_18 (by omega) 5000 (0, mj_m1) (1, m') h
def mj_G : Cond := Jvm.Cond.and given_1 narrow_1
theorem mj_f0 : Cond.arrayOf (.static "StrengthenFirst" "ABOVE" "[I") .int ∈ flatC mj_G ∧ Cond.eq (.length (.static "StrengthenFirst" "ABOVE" "[I")) (.int 7) ∈ flatC mj_G ∧ Cond.eq (.static "java/lang/String" "COMPACT_STRINGS" "Z") (.int 1) ∈ flatC mj_G ∧ Cond.isRef (.static "jdk/internal/util/Preconditions" "SIOOBE_FORMATTER" "Ljava/util/function/BiFunction;") ∈ flatC mj_G := by decide +kernel
theorem mj_f1 : ∀ i, i < 7 → Cond.eq (.elem (.static "StrengthenFirst" "ABOVE" "[I") (.int (Int32.ofNat i))) (.int (mj_abv i)) ∈ flatC mj_G := by decide +kernel
theorem mj_f2 : ∀ i, i < 8 → Cond.exactly (.string "StrengthenFirst$Reader" (mj_sIx i)) "java/lang/String" ∈ flatC mj_G := by decide +kernel
theorem mj_f3 : ∀ i, i < 8 → Cond.eq (.field (.string "StrengthenFirst$Reader" (mj_sIx i)) "java/lang/String" "coder" "B") (.int 0) ∈ flatC mj_G := by decide +kernel
theorem mj_f4 : ∀ i, i < 8 → Cond.arrayOf (.field (.string "StrengthenFirst$Reader" (mj_sIx i)) "java/lang/String" "value" "[B") .byte ∈ flatC mj_G := by decide +kernel
theorem mj_f5 : ∀ i, i < 8 → Cond.eq (.length (.field (.string "StrengthenFirst$Reader" (mj_sIx i)) "java/lang/String" "value" "[B")) (.int (Int32.ofNat (mj_sLen.getD i 0))) ∈ flatC mj_G := by decide +kernel
theorem mj_f6 : ∀ i, i < 8 → ∀ j, j < mj_sLen.getD i 0 → Cond.eq (.elem (.field (.string "StrengthenFirst$Reader" (mj_sIx i)) "java/lang/String" "value" "[B") (.int (Int32.ofNat j))) (.int ((mj_sByt.getD i []).getD j 0)) ∈ flatC mj_G := by decide +kernel
theorem mj_f7 : ∀ i, i < 8 → ∀ j, j < 8 → i ≠ j → Cond.not (Cond.eq (.string "StrengthenFirst$Reader" (mj_sIx i)) (.string "StrengthenFirst$Reader" (mj_sIx j))) ∈ flatC mj_G ∨ Cond.not (Cond.eq (.string "StrengthenFirst$Reader" (mj_sIx j)) (.string "StrengthenFirst$Reader" (mj_sIx i))) ∈ flatC mj_G := by decide +kernel
theorem mj_w0 : Cond.laysStatic "StrengthenFirst" "ABOVE" "[I" ∈ lw_tbl ∧ Cond.initialized "StrengthenFirst" ∈ lw_tbl ∧ Cond.laysStatic "java/lang/String" "COMPACT_STRINGS" "Z" ∈ lw_tbl ∧ Cond.initialized "java/lang/String" ∈ lw_tbl ∧ Cond.laysStatic "jdk/internal/util/Preconditions" "SIOOBE_FORMATTER" "Ljava/util/function/BiFunction;" ∈ lw_tbl ∧ Cond.initialized "jdk/internal/util/Preconditions" ∈ lw_tbl ∧ Cond.arrayOver (.object RX1) ∈ lw_tbl ∧ Cond.arrayOver (.object RX6) ∈ lw_tbl := by decide +kernel
theorem mj_w1 : ∀ i, i < 8 → Cond.stringRef "StrengthenFirst$Reader" (mj_sIx i) (mj_sTx i) ∈ lw_tbl := by decide +kernel
theorem mj_w2 : ∀ w ∈ mj_NW, w ∈ lw_tbl := by decide +kernel
set_option maxHeartbeats 4000000 in
theorem whole_start_of {p : Program} {e : Env} {s : State} {m : MethodId} {below : List Frame} {meth : Method} {c : Code} (l : Launch) {b L : Nat} {xs : Nat → Int32} (C0 : lw_At p s m meth c b L xs) (H : ∃ m', mj_lp 5000 (f_L_law_18 5000 L xs) (0, mj_m1) = some (1, m')) : W p l e room_1 s m #[Value.ref b] below meth c s.heap [] 0 0 (lw_Z below #[Value.ref b] s) (entryFrame m ([Value.ref b] : List Value).toArray 4) := by
  obtain ⟨hx, hb, hr, hml, hown, hts, hX, hbl, hlocks, hgv⟩ := id C0
  obtain ⟨m', H⟩ := H
  have hn : ∀ w ∈ flatC mj_G, w.before #[Value.ref b] s = true := flat_of_before _ hgv
  have hA : ∀ a : Nat, a < s.heap.size → ¬ (fun q => s.heap.size ≤ q) a := fun a h => Nat.not_le.mpr h
  have hGW : ∀ w ∈ mj_GW, w.before #[Value.ref b] s = true := fun w h => hts w (mj_GWok w h).1
  -- the classes
  have hK0 : ∀ c : Nat, ∃ (q : ClassId × (Nat → Nat)), c < 10 → u_Kn s (mj_R c) (mj_T c) (mj_N c) q.1 q.2 := by
    intro c
    by_cases hc : c < 10
    · obtain ⟨cC, iS, h⟩ := u_known (ws := mj_GW) (n := mj_N c) hGW (mj_layAll c hc) (hGW _ (mj_g_new c hc).1)
      exact ⟨(cC, iS), fun _ => h⟩
    · exact ⟨(0, fun _ => 0), fun h => absurd h hc⟩
  obtain ⟨dd, hdd⟩ := Classical.axiomOfChoice hK0
  have hcl : ∀ (c : Nat) (q : vw_C), mj_cl[c]? = some q → u_Kn s q.1 q.2.1 q.2.2 (dd c).1 (dd c).2 := by
    intro c q hq
    have hc : c < 10 := (List.getElem?_eq_some_iff.mp hq).1
    rw [mj_clOK c hc] at hq
    cases hq
    exact hdd c hc
  -- the rows
  obtain ⟨a0, k0, p0, f0, g0, i0⟩ := Cond.arrayClass_spec (hGW _ mj_g_ai)
  obtain ⟨a1, k1, p1, f1, g1, i1⟩ := Cond.arrayClass_spec (hGW _ mj_g_al)
  obtain ⟨p2, a2, k2, n2, -, g2, i2, f2⟩ := Cond.arrayOver_spec (hts _ mj_w0.2.2.2.2.2.2.1)
  obtain ⟨p3, a3, k3, n3, -, g3, i3, f3⟩ := Cond.arrayOver_spec (hts _ mj_w0.2.2.2.2.2.2.2)
  have hK : va_K (fun c => (dd c).1, fun c => (dd c).2) mj_cl (mj_tys (fun t => if t = 0 then a0 else if t = 1 then a1 else if t = 2 then a2 else a3)) s := by
    refine ⟨hcl, fun k q hq => ?_⟩
    match k, hq with
    | 0, hq => cases hq; exact ⟨fun n z => ⟨fun k h => (by cases h), k0, g0, p0, i0⟩, f0⟩
    | 1, hq => cases hq; exact ⟨fun n z => ⟨fun k h => (by cases h), k1, g1, p1, i1⟩, f1⟩
    | 2, hq => cases hq; exact ⟨fun n z => ⟨fun k h => (by cases h), k2, g2, p2, i2⟩, k2, p2, g2, i2, n2, f2⟩
    | 3, hq => cases hq; exact ⟨fun n z => ⟨fun k h => (by cases h), k3, g3, p3, i3⟩, k3, p3, g3, i3, n3, f3⟩
    | k + 4, hq => simp [mj_tys] at hq
  -- what lies outside
  obtain ⟨tA, hvA, hTA⟩ := va_Tof (N := 7) (f := fun i => .int (mj_abv i)) (A := fun q => s.heap.size ≤ q) (by decide) (hn _ mj_f0.1) (va_eqt (hn _ mj_f0.2.1)) (fun j hj => va_eqt (hn _ (mj_f1 j hj))) hA
  have hZA : va_Z "StrengthenFirst" "ABOVE" "[I" (.ref tA) (fun q => s.heap.size ≤ q) s s.heap := va_Zof (hts _ mj_w0.1) (hts _ mj_w0.2.1) hvA hA
  have hZC : va_Z "java/lang/String" "COMPACT_STRINGS" "Z" (.int 1) (fun q => s.heap.size ≤ q) s s.heap := va_Zof (hts _ mj_w0.2.2.1) (hts _ mj_w0.2.2.2.1) (va_eqt (hn _ mj_f0.2.2.1)) hA
  have hZF : va_Zq "jdk/internal/util/Preconditions" "SIOOBE_FORMATTER" "Ljava/util/function/BiFunction;" (fun q => s.heap.size ≤ q) s s.heap := va_Zqof (hts _ mj_w0.2.2.2.2.1) (hts _ mj_w0.2.2.2.2.2.1) (hn _ mj_f0.2.2.2) hA
  obtain ⟨adK, adV, hSS, hSe⟩ := vk_Sof (N := 8) (tm := fun i => .string "StrengthenFirst$Reader" (mj_sIx i)) (len := mj_sLen) (byt := mj_sByt) (A := fun q => s.heap.size ≤ q) (fun i hi => Nat.lt_trans (mj_sL7 i hi) (by decide)) (fun i hi => hn _ (mj_f2 i hi)) (fun i hi => hn _ (mj_f3 i hi)) (fun i hi => hn _ (mj_f4 i hi)) (fun i hi => hn _ (mj_f5 i hi)) (fun i hi j hj => hn _ (mj_f6 i hi j hj)) (fun i j hi hj hij => (mj_f7 i hi j hj hij).imp (fun z => hn _ z) (fun z => hn _ z)) hA
  obtain ⟨tS, hZF⟩ : ∃ tS : Nat, va_Z "jdk/internal/util/Preconditions" "SIOOBE_FORMATTER" "Ljava/util/function/BiFunction;" .null (fun q => s.heap.size ≤ q) s s.heap ∨ va_Z "jdk/internal/util/Preconditions" "SIOOBE_FORMATTER" "Ljava/util/function/BiFunction;" (.ref tS) (fun q => s.heap.size ≤ q) s s.heap := by
    rcases hZF with h | ⟨t, h⟩
    · exact ⟨0, Or.inl h⟩
    · exact ⟨t, Or.inr h⟩
  obtain ⟨X, x0, x1, x2, x3, x4⟩ : ∃ X : Nat → Nat, X 9000 = b ∧ X 9001 = tA ∧ X 9300 = tS ∧ (∀ i, i < 8 → X (9100 + i) = adK i) ∧ ∀ i, i < 8 → X (9200 + i) = adV i := by
    refine ⟨fun h => if h = 9000 then b else if h = 9001 then tA else if h = 9300 then tS else if h < 9200 then adK (h - 9100) else adV (h - 9200), rfl, rfl, rfl, fun i hi => ?_, fun i hi => ?_⟩
    · show (if 9100 + i = 9000 then b else if 9100 + i = 9001 then tA else if 9100 + i = 9300 then tS else if 9100 + i < 9200 then adK (9100 + i - 9100) else adV (9100 + i - 9200)) = _
      rw [if_neg (by omega), if_neg (by omega), if_neg (by omega), if_pos (by omega), Nat.add_sub_cancel_left]
    · show (if 9200 + i = 9000 then b else if 9200 + i = 9001 then tA else if 9200 + i = 9300 then tS else if 9200 + i < 9200 then adK (9200 + i - 9100) else adV (9200 + i - 9200)) = _
      rw [if_neg (by omega), if_neg (by omega), if_neg (by omega), if_neg (by omega), Nat.add_sub_cancel_left]
  have hTX : va_T .int b L (fun i => .int (xs i)) (fun q => s.heap.size ≤ q) s s.heap := by
    obtain ⟨scr, q1, q2, q3, q4, q5⟩ := hX
    exact ⟨scr, q1, q2, q3, Nat.le_of_eq q4.symm, by rw [q4] <;> rfl, q5, Nat.not_le.mpr hbl⟩
  have hE : mj_Ext (mj_EX L xs) s.heap.size X s := by
    refine ⟨Nat.le_refl _, fun j hj => ?_, by rw [x1]; exact hZA, ⟨fun i hi => ?_, fun i j hi hj hij => ?_⟩, fun i hi => ?_, hZC, by rw [x2]; exact hZF, fun w hw => va_Nw.of (mj_NWok hw) (hts w (mj_w2 w hw)), va_AO.of (hts _ mj_w0.2.2.2.2.2.2.1), va_AO.of (hts _ mj_w0.2.2.2.2.2.2.2)⟩
    · rcases hj with rfl | rfl
      · rw [x0]; exact hTX
      · rw [x1]; exact hTA
    · dsimp only; rw [x3 i hi, x4 i hi]; exact hSS.1 i hi
    · dsimp only at hij; rw [x3 i hi, x3 j hj] at hij; exact hSS.2 i j hi hj hij
    · rw [x3 i hi]; exact vk_R.of (hts _ (mj_w1 i hi)) (hSe i hi)
  have hl := lv_entry ([.ref b]) (n := 4) (Nat.le_of_ble_eq_true rfl)
  rw [lg_entry_eq]
  generalize (lg_sl ([.ref b]) ++ List.replicate (4 - (lg_sl ([.ref b])).length) Slot.unset).toArray = ls at hl ⊢
  have hl : lv_has ls 4 (mj_ulv (mj_ad s.heap.size X) [(0, .ref 9000)]) := by
    show lv_has ls 4 [(0, .ref (mj_ad s.heap.size X 9000))]
    rw [mj_adge (by omega), x0]
    exact hl
  have hgo := mj_law_go (L := L) (xs := xs) (δ := 100) (by omega) H
  refine hgo.2 p l e room_1 s m #[Value.ref b] below meth c (fun c => (dd c).1, fun c => (dd c).2) (fun t => if t = 0 then a0 else if t = 1 then a1 else if t = 2 then a2 else a3) s.heap.size X ⟨hx, hb, hml, hown, hGW, hK, hE, fun h => absurd h (by decide), by decide, by decide⟩ _ s.heap [] 0 0 ls hl (fun k q hq => ?_) va_S.rf (Nat.le_refl _) (show 0 + (128 - 0) ≤ 600000 by decide) (show 0 + (mj_sl 128 - mj_sl 0) ≤ 7302250 by decide +kernel) ?_
  · simp [mj_w, mj_M0] at hq
  · intro pc' ls' H' locs' hret hP' hS'
    refine va_forget (fun q hq => hS'.2.2 q hq) ?_
    refine W.widen (k := 600000) (n := 7302250) (show 0 + (128 - 0) ≤ 600000 by decide) (show 0 + (mj_sl 128 - mj_sl 0) ≤ 7302250 by decide +kernel) ?_
    exact lw_ret hx hb hr hlocks hret.1
