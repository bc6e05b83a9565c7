/-! CONTRACTS: a method by its walk, a call by its contract -/
def mj_ws (Y : mj_Y) : List Cond := Cond.code (mj_nm Y) (mj_by Y) (mj_ml Y) (mj_rt Y) :: mj_GW
def mj_rm (δ : Nat) (M : mj_M) (r : mj_S) : Room := { frames := δ + 1, cells := r.2.1 - M.1, slots := mj_sl r.2.1 - mj_sl M.1, locals := 64 * (δ + 1) }
def mj_B (EX : mj_X) (D : va_G) (cA : Nat → ClassId) (base : Nat) (X : Nat → Nat) (M : mj_M) (U : State) : Prop := va_P D mj_cl (mj_w (mj_ad base X) cA M) U.heap ∧ va_K D mj_cl (mj_tys cA) U ∧ mj_Ext EX base X U ∧ U.heap.size ≤ base + M.1
def mj_Qc (D : va_G) (cA : Nat → ClassId) (base : Nat) (X : Nat → Nat) (r : mj_S) : Array Value → State → Outcome → State → Prop := fun _ st oc t => oc = .returned (r.1.map (mj_upv (mj_ad base X))) ∧ va_P D mj_cl (mj_w (mj_ad base X) cA r.2) t.heap ∧ va_F (fun q => base ≤ q) st t
def mj_Cl (EX : mj_X) (δ : Nat) (Y : mj_Y) (as : List Value) (M : mj_M) (r : mj_S) : Prop := (M.1 ≤ r.2.1 ∧ r.2.1 ≤ 9000) ∧ ∀ (l : Launch) (D : va_G) (cA : Nat → ClassId) (base : Nat) (X : Nat → Nat), Met l (mj_nm Y) (mj_ws Y) (mj_rm δ M r) (va_Pc (mj_us (mj_ad base X) as) (mj_B EX D cA base X M)) (mj_Qc D cA base X r) (r.2.1 - M.1) (mj_sl r.2.1 - mj_sl M.1) (fun q => base ≤ q)
def mj_OK (Y : mj_Y) : Prop := plainName (mj_ow Y) = true ∧ (mj_ii Y = 1 → (mj_nm Y).name = "<init>") ∧ mj_ml Y ≤ 40
theorem mj_argsU (ad : Nat → Nat) : ∀ (as : List Value) (i : Nat), lv_args i (mj_us ad as) = mj_ulv ad (lv_args i as)
  | [], _ => rfl
  | v :: as, i => by
    show (i, mj_upv ad v) :: lv_args (if (mj_upv ad v).category = 2 then i + 2 else i + 1) (mj_us ad as) = (i, mj_upv ad v) :: mj_ulv ad (lv_args (if v.category = 2 then i + 2 else i + 1) as)
    rw [mj_upv_cat, mj_argsU ad as]
theorem mj_slU (ad : Nat → Nat) : ∀ (as : List Value), (lg_sl (mj_us ad as)).length = (lg_sl as).length := by
  intro as
  induction as with
  | nil => rfl
  | cons v as ih =>
    have h1 := mj_upv_cat ad v
    cases v <;> simp_all [mj_us, lg_sl, mj_upv, Value.category]
theorem mj_cl_of {EX : mj_X} {δ : Nat} {Y : mj_Y} {as : List Value} {M : mj_M} {r : mj_S} (hY : mj_OK Y) (hsl : (lg_sl as).length ≤ mj_ml Y) (hg : mj_Go EX δ Y 0 (lv_args 0 as) [] M r) : mj_Cl EX δ Y as M r := by
  refine ⟨hg.1, fun l D cA base X => ?_⟩
  refine Met.ofW (cc := mj_by Y) (maxL := mj_ml Y) (ret := mj_rt Y) hY.1 rfl ?_
  intro p e s m args below meth c s₁ B hml hv
  obtain ⟨rfl, hP, hK, hE, hz⟩ := hv
  have hx := B.exec
  have hb := B.bytes
  have hr := B.returns
  have hts := atoms_spec (ws := mj_ws Y) B.pre
  have hown : s.vm.findClass (mj_ow Y) = some m.cls := findClass_of_methodNamed B.named
  have hlocks := B.notSynchronized
  have hin : meth.name = (mj_nm Y).name := (name_of_methodNamed B.named B.method).1
  have hl := lv_entry (mj_us (mj_ad base X) as) (n := mj_ml Y) (by rw [mj_slU]; exact hsl)
  rw [lg_entry_eq]
  generalize (lg_sl (mj_us (mj_ad base X) as) ++ List.replicate (mj_ml Y - (lg_sl (mj_us (mj_ad base X) as)).length) Slot.unset).toArray = ls at hl ⊢
  rw [mj_argsU] at hl
  refine hg.2 p l e (headSpec (mj_ws Y) (mj_rm δ M r)).room s m (mj_us (mj_ad base X) as).toArray below meth c D cA base X ⟨hx, hb, hml, hown, fun w hw => hts w (List.mem_cons_of_mem _ hw), hK, hE, fun h => hin.trans (hY.2.1 h), Nat.le_refl _, Nat.le_refl _⟩ _ s.heap [] 0 0 ls hl hP va_S.rf (by omega) (by rw [Nat.zero_add]; exact Nat.le_refl _) (by rw [Nat.zero_add]; exact Nat.le_refl _) ?_
  intro pc' ls' H' locs' hret hP' hS'
  rw [Nat.zero_add, Nat.zero_add]
  obtain ⟨v, M'⟩ := r
  match v, hret with
  | none, ⟨hd, h1⟩ => exact W.vret hx hb (hr.trans h1) (fun t ht _ => ⟨rfl, by rw [ht]; exact hP', hS'.F ht⟩) hS'.2.2 hd
  | some (.int x), ⟨hd, h1⟩ =>
    obtain ⟨ty, h1, h2⟩ := h1
    exact W.zret (v := x) (ty := ty) hx hb (hr.trans h1) h2 (fun t ht _ => ⟨rfl, by rw [ht]; exact hP', hS'.F ht⟩) hS'.2.2 hd
  | some (.long x), ⟨hd, h1⟩ => exact W.lret (v := x) hx hb (hr.trans h1) (fun t ht _ => ⟨rfl, by rw [ht]; exact hP', hS'.F ht⟩) hS'.2.2 hd
  | some (.ref x), ⟨hd, n, h1⟩ => exact W.aret (v := .ref (mj_ad base X x)) (rt := .object n) hx hb (hr.trans h1) (Or.inl ⟨n, rfl⟩) (Or.inr ⟨_, rfl⟩) (fun t ht _ => ⟨rfl, by rw [ht]; exact hP', hS'.F ht⟩) hS'.2.2 hd
  | some .null, h => exact absurd h (by simp [mj_ret])
  | some (.float _), h => exact absurd h (by simp [mj_ret])
  | some (.double _), h => exact absurd h (by simp [mj_ret])
  | some (.retAddr _), h => exact absurd h (by simp [mj_ret])
/-- behind a call -/
theorem mj_callk {p : Program} {l : Launch} {e : Env} {R : Room} {s : State} {m : MethodId} {args : Array Value} {below : List Frame} {meth : Method} {c : Code} {H : Heap} {locs : List Loc} {cells slots mc ms pc base : Nat} {Q : State → Prop} {ls : Array Slot} {st0 rest : List Value} {D : va_G} {cA : Nat → ClassId} {X : Nat → Nat} {r1 : mj_S} {a : Array Value}
    (hr : va_Run p l e R s m args below meth c H locs cells slots mc ms (F0 m pc ls st0) rest (mj_Qc D cA base X r1 a) (fun q => base ≤ q)) (hS : va_S (fun q => base ≤ q) s.heap H locs)
    (kk : ∀ (H1 : Heap) (locs1 : List Loc), va_P D mj_cl (mj_w (mj_ad base X) cA r1.2) H1 → va_S (fun q => base ≤ q) s.heap H1 locs1 → W p l e R s m args below meth c H1 locs1 (cells + mc) (slots + ms) Q (F0 m (pc + 3) ls ((r1.1.map (mj_upv (mj_ad base X))).toList ++ rest))) : W p l e R s m args below meth c H locs cells slots Q (F0 m pc ls st0) := by
  intro T hT X0
  obtain ⟨v, st₀, t, T', L, h0, X', hL, e1, e2, ⟨hv, hp, hz, hk⟩, st⟩ := hr T hT X0
  cases hv
  rw [h0] at hz hk
  obtain ⟨t2, a1, b1⟩ := kk T'.heap (locs ++ L) (by rw [e1]; exact hp)
    ⟨Nat.le_trans hS.1 (by rw [e1]; exact hz), fun q h1 h2 => by rw [e1, hk q (Nat.lt_of_lt_of_le h1 hS.1) h2]; exact hS.2.1 q h1 h2, fun q hq => by
      rcases List.mem_append.mp hq with h | h
      · exact hS.2.2 q h
      · exact hL q h⟩ T' rfl X'
  exact ⟨t2, st t2 a1, b1⟩
theorem mj_good {ws : List Cond} (h : ∀ w ∈ ws, w ∈ mj_GW) : GoodIn mj_GW ws := fun w hw => ⟨h w hw, (mj_GWok w (h w hw)).2⟩
def mj_pl (Y' : mj_Y) (n : Nat) : Prop := mj_ow Y' ≠ "java/lang/invoke/MethodHandle" ∧ mj_ow Y' ≠ "java/lang/invoke/VarHandle" ∧ (parseMethodDescriptor (mj_nm Y').desc).map (fun d => d.parameters.length) = some n
/-- the words of a call: of an instance's method (0), a static one (1), a constructor (2) -/
def mj_cwds (k : Nat) (Y : mj_Y) (idx : Nat) (Y' : mj_Y) : List Cond := match k with
  | 0 => [.methodLink (mj_ow Y) idx (mj_nm Y'), .instanceMethod (mj_nm Y'), .selects (mj_ow Y') (mj_nm Y') (mj_nm Y'), .initialized (mj_ow Y'), .code (mj_nm Y') (mj_by Y') (mj_ml Y') (mj_rt Y')]
  | 1 => [.methodLink (mj_ow Y) idx (mj_nm Y'), .static (mj_nm Y'), .initialized (mj_ow Y'), .code (mj_nm Y') (mj_by Y') (mj_ml Y') (mj_rt Y')]
  | 2 => [.methodLink (mj_ow Y) idx (mj_nm Y'), .instanceMethod (mj_nm Y'), .initialized (mj_ow Y'), .code (mj_nm Y') (mj_by Y') (mj_ml Y') (mj_rt Y')]
  | _ => [.instanceMethod (mj_nm Y'), .initialized (mj_ow Y'), .code (mj_nm Y') (mj_by Y') (mj_ml Y') (mj_rt Y')]
section MJK
variable {EX : mj_X} {δ : Nat} {Y Y' : mj_Y} {pc idx : Nat} {lv : mj_LV} {st rest as : List Value} {M : mj_M} {r r1 : mj_S}
theorem mj_blind {D : va_G} {cA : Nat → ClassId} {base : Nat} {X : Nat → Nat} {av : List Value} : FrameBlind (va_Pc av (mj_B EX D cA base X M)) := fun a U g mk q => by
  obtain ⟨q0, qP, qK, qE, qz⟩ := q
  exact ⟨q0, qP, va_K.moved (u := U) (U := U.calling g mk a) (Vm.Alike.refl U.vm) qK, mj_ExtCall g mk a qE, qz⟩
theorem mj_go_callV {h c n : Nat} (hw : ∀ w ∈ mj_cwds 0 Y idx Y', w ∈ mj_GW) (hp : mj_pl Y' n) (hm : mj_ml Y' ≤ 40) (hc10 : c < 10) (hown' : mj_R c = mj_ow Y') (hsh : mj_sh h = (c + 10, mj_N c)) (hh : h < M.1) (hn : as.length = n) (hst : st = as.reverse ++ .ref h :: rest) (hcat : (rest.map fun v => v.category).sum ≤ 8)
    (hcl : mj_Cl EX δ Y' (.ref h :: as) M r1) (hd : decode (mj_by Y) pc = .ok (.invokevirtual idx, 3)) (hg : mj_Go EX (δ + 1) Y (pc + 3) lv (r1.1.toList ++ rest) r1.2 r) : mj_Go EX (δ + 1) Y pc lv st M r := by
  have hq1 := hcl.1.1
  have hq2 := hg.1.1
  have hq3 := mj_sl_mono hq1
  have hq4 := mj_sl_mono hq2
  refine ⟨⟨Nat.le_trans hq1 hq2, hg.1.2⟩, fun p l e R s m args below meth c0 D cA base X hC Q H locs cells slots ls hl hP hS hz hc hs hk => ?_⟩
  obtain ⟨hx, hb, hml, hown, hts, hK, hE, -, hf, hlo⟩ := id hC
  have h8 := mj_us_cat (mj_ad base X) rest
  refine mj_bd (fun hbd => ?_)
  have he : (mj_w (mj_ad base X) cA M)[h]? = some (mj_ad base X h, .inr (c, (List.range (mj_N c)).map (fun k => mj_upv (mj_ad base X) (mj_val M h k (mj_ty c k))))) := by rw [mj_w_get hh, mj_ent_obj hsh]
  have hrc := va_recv hK hP (mj_clOK c hc10) he
  rw [show (mj_R c, mj_T c, mj_N c).1 = mj_ow Y' from hown'] at hrc
  refine mj_callk (r1 := r1) (va_runV (As := mj_us (mj_ad base X) as) (rest := mj_us (mj_ad base X) rest) (n := n) (Ts := mj_GW) ⟨hx, hb, hml, hown, hts⟩ (hcl.2 l D cA base X) (cwV n hts (mj_good (fun w hw1 => ?_)) rfl rfl rfl ⟨rfl, hp⟩ ⟨by show δ + 1 + 1 ≤ _; exact hf, by show 8 + (mj_ml Y' + 11) + 64 * (δ + 1) ≤ _; omega⟩) ⟨mj_blind, hrc, fun U hU hW => ⟨rfl, by rw [hU]; exact hP, va_K.moved hW.alike hK, mj_ExtMove hE hU hS hW, by rw [hU]; omega⟩⟩ rfl (by simpa [mj_us] using hn) hl.1 (by rw [hst]; simp [mj_us, List.map_reverse, mj_upv]) (lv_room (by rw [h8]; exact hcat)) hd ⟨by omega, by omega⟩) hS (fun H1 locs1 hP1 hS1 => ?_)
  · rcases List.mem_append.mp hw1 with hw1 | hw1
    · refine hw w ?_
      simp only [List.mem_cons, List.not_mem_nil, or_false] at hw1
      simp only [mj_cwds, List.mem_cons, List.not_mem_nil, or_false]
      rcases hw1 with h | h | h | h <;> simp [h, mj_ow]
    · rcases List.mem_cons.mp hw1 with h | h
      · exact hw w (by rw [h]; simp [mj_cwds])
      · exact h
  · have hkk := hg.2 p l e R s m args below meth c0 D cA base X ⟨hx, hb, hml, hown, hts, hK, hE, hC.2.2.2.2.2.2.2.1, hf, hlo⟩ Q H1 locs1 (cells + (r1.2.1 - M.1)) (slots + (mj_sl r1.2.1 - mj_sl M.1)) ls hl hP1 hS1 (by omega) (by omega) (by omega) (by
      rw [show cells + (r1.2.1 - M.1) + (r.2.1 - r1.2.1) = cells + (r.2.1 - M.1) by omega, show slots + (mj_sl r1.2.1 - mj_sl M.1) + (mj_sl r.2.1 - mj_sl r1.2.1) = slots + (mj_sl r.2.1 - mj_sl M.1) by omega]
      exact hk)
    rw [show (r1.1.map (mj_upv (mj_ad base X))).toList ++ mj_us (mj_ad base X) rest = mj_us (mj_ad base X) (r1.1.toList ++ rest) by cases r1.1 <;> simp [mj_us]]
    exact hkk
theorem mj_go_callT {i n : Nat} (hw : ∀ w ∈ mj_cwds 0 Y idx Y', w ∈ mj_GW) (hp : mj_pl Y' n) (hm : mj_ml Y' ≤ 40) (hi : i < 8) (hown' : mj_ow Y' = "java/lang/String") (hn : as.length = n) (hst : st = as.reverse ++ .ref (9100 + i) :: rest) (hcat : (rest.map fun v => v.category).sum ≤ 8)
    (hcl : mj_Cl EX δ Y' (.ref (9100 + i) :: as) M r1) (hd : decode (mj_by Y) pc = .ok (.invokevirtual idx, 3)) (hg : mj_Go EX (δ + 1) Y (pc + 3) lv (r1.1.toList ++ rest) r1.2 r) : mj_Go EX (δ + 1) Y pc lv st M r := by
  have hq1 := hcl.1.1
  have hq2 := hg.1.1
  have hq3 := mj_sl_mono hq1
  have hq4 := mj_sl_mono hq2
  refine ⟨⟨Nat.le_trans hq1 hq2, hg.1.2⟩, fun p l e R s m args below meth c0 D cA base X hC Q H locs cells slots ls hl hP hS hz hc hs hk => ?_⟩
  obtain ⟨hx, hb, hml, hown, hts, hK, hE, -, hf, hlo⟩ := id hC
  have h8 := mj_us_cat (mj_ad base X) rest
  refine mj_bd (fun hbd => ?_)
  have hrc := vk_recv hE.2.2.2.1 hi hS
  rw [← mj_adge (base := base) (X := X) (h := 9100 + i) (by omega), ← hown'] at hrc
  refine mj_callk (r1 := r1) (va_runV (As := mj_us (mj_ad base X) as) (rest := mj_us (mj_ad base X) rest) (n := n) (Ts := mj_GW) ⟨hx, hb, hml, hown, hts⟩ (hcl.2 l D cA base X) (cwV n hts (mj_good (fun w hw1 => ?_)) rfl rfl rfl ⟨rfl, hp⟩ ⟨by show δ + 1 + 1 ≤ _; exact hf, by show 8 + (mj_ml Y' + 11) + 64 * (δ + 1) ≤ _; omega⟩) ⟨mj_blind, hrc, fun U hU hW => ⟨rfl, by rw [hU]; exact hP, va_K.moved hW.alike hK, mj_ExtMove hE hU hS hW, by rw [hU]; omega⟩⟩ rfl (by simpa [mj_us] using hn) hl.1 (by rw [hst]; simp [mj_us, List.map_reverse, mj_upv]) (lv_room (by rw [h8]; exact hcat)) hd ⟨by omega, by omega⟩) hS (fun H1 locs1 hP1 hS1 => ?_)
  · rcases List.mem_append.mp hw1 with hw1 | hw1
    · refine hw w ?_
      simp only [List.mem_cons, List.not_mem_nil, or_false] at hw1
      simp only [mj_cwds, List.mem_cons, List.not_mem_nil, or_false]
      rcases hw1 with h | h | h | h <;> simp [h, mj_ow]
    · rcases List.mem_cons.mp hw1 with h | h
      · exact hw w (by rw [h]; simp [mj_cwds])
      · exact h
  · have hkk := hg.2 p l e R s m args below meth c0 D cA base X ⟨hx, hb, hml, hown, hts, hK, hE, hC.2.2.2.2.2.2.2.1, hf, hlo⟩ Q H1 locs1 (cells + (r1.2.1 - M.1)) (slots + (mj_sl r1.2.1 - mj_sl M.1)) ls hl hP1 hS1 (by omega) (by omega) (by omega) (by
      rw [show cells + (r1.2.1 - M.1) + (r.2.1 - r1.2.1) = cells + (r.2.1 - M.1) by omega, show slots + (mj_sl r1.2.1 - mj_sl M.1) + (mj_sl r.2.1 - mj_sl r1.2.1) = slots + (mj_sl r.2.1 - mj_sl M.1) by omega]
      exact hk)
    rw [show (r1.1.map (mj_upv (mj_ad base X))).toList ++ mj_us (mj_ad base X) rest = mj_us (mj_ad base X) (r1.1.toList ++ rest) by cases r1.1 <;> simp [mj_us]]
    exact hkk
theorem mj_go_callS {n : Nat} (hw : ∀ w ∈ mj_cwds 1 Y idx Y', w ∈ mj_GW) (hp : mj_pl Y' n) (hm : mj_ml Y' ≤ 40) (hn : as.length = n) (hst : st = as.reverse ++ rest) (hcat : (rest.map fun v => v.category).sum ≤ 8)
    (hcl : mj_Cl EX δ Y' as M r1) (hd : decode (mj_by Y) pc = .ok (.invokestatic idx, 3)) (hg : mj_Go EX (δ + 1) Y (pc + 3) lv (r1.1.toList ++ rest) r1.2 r) : mj_Go EX (δ + 1) Y pc lv st M r := by
  have hq1 := hcl.1.1
  have hq2 := hg.1.1
  have hq3 := mj_sl_mono hq1
  have hq4 := mj_sl_mono hq2
  refine ⟨⟨Nat.le_trans hq1 hq2, hg.1.2⟩, fun p l e R s m args below meth c0 D cA base X hC Q H locs cells slots ls hl hP hS hz hc hs hk => ?_⟩
  obtain ⟨hx, hb, hml, hown, hts, hK, hE, -, hf, hlo⟩ := id hC
  have h8 := mj_us_cat (mj_ad base X) rest
  refine mj_bd (fun hbd => ?_)
  have hw0 : ∀ w ∈ mj_ws Y', w ∈ mj_GW := fun w h => by
    rcases List.mem_cons.mp h with h | h
    · exact hw w (by rw [h]; simp [mj_cwds])
    · exact h
  refine mj_callk (r1 := r1) (va_runS (As := mj_us (mj_ad base X) as) (rest := mj_us (mj_ad base X) rest) (n := n) (Ts := mj_GW) ⟨hx, hb, hml, hown, hts⟩ (hcl.2 l D cA base X) ⟨callB_of n hts (mj_good hw0) rfl rfl rfl (hts _ (hw _ (by simp [mj_cwds, mj_ow]))) (hts _ (hw _ (by simp [mj_cwds]))) hp ⟨by show δ + 1 + 1 ≤ _; exact hf, by show 8 + (mj_ml Y' + 11) + 64 * (δ + 1) ≤ _; omega⟩, hts _ (hw _ (by simp [mj_cwds]))⟩ ⟨mj_blind, fun U hU hW => ⟨rfl, by rw [hU]; exact hP, va_K.moved hW.alike hK, mj_ExtMove hE hU hS hW, by rw [hU]; omega⟩⟩ rfl (by simpa [mj_us] using hn) hl.1 (by rw [hst]; simp [mj_us, List.map_reverse]) (lv_room (by rw [h8]; exact hcat)) hd ⟨by omega, by omega⟩) hS (fun H1 locs1 hP1 hS1 => ?_)
  have hkk := hg.2 p l e R s m args below meth c0 D cA base X ⟨hx, hb, hml, hown, hts, hK, hE, hC.2.2.2.2.2.2.2.1, hf, hlo⟩ Q H1 locs1 (cells + (r1.2.1 - M.1)) (slots + (mj_sl r1.2.1 - mj_sl M.1)) ls hl hP1 hS1 (by omega) (by omega) (by omega) (by
      rw [show cells + (r1.2.1 - M.1) + (r.2.1 - r1.2.1) = cells + (r.2.1 - M.1) by omega, show slots + (mj_sl r1.2.1 - mj_sl M.1) + (mj_sl r.2.1 - mj_sl r1.2.1) = slots + (mj_sl r.2.1 - mj_sl M.1) by omega]
      exact hk)
  rw [show (r1.1.map (mj_upv (mj_ad base X))).toList ++ mj_us (mj_ad base X) rest = mj_us (mj_ad base X) (r1.1.toList ++ rest) by cases r1.1 <;> simp [mj_us]]
  exact hkk
theorem mj_go_callI {h n : Nat} (hw : ∀ w ∈ mj_cwds 2 Y idx Y', w ∈ mj_GW) (hp : mj_pl Y' n) (hm : mj_ml Y' ≤ 40) (hini : (mj_nm Y').name = "<init>") (hrt : mj_rt Y' = none) (hn : as.length = n) (hst : st = as.reverse ++ .ref h :: rest) (hcat : (rest.map fun v => v.category).sum ≤ 8)
    (hcl : mj_Cl EX δ Y' (.ref h :: as) M r1) (hd : decode (mj_by Y) pc = .ok (.invokespecial idx, 3)) (hg : mj_Go EX (δ + 1) Y (pc + 3) lv (r1.1.toList ++ rest) r1.2 r) : mj_Go EX (δ + 1) Y pc lv st M r := by
  have hq1 := hcl.1.1
  have hq2 := hg.1.1
  have hq3 := mj_sl_mono hq1
  have hq4 := mj_sl_mono hq2
  refine ⟨⟨Nat.le_trans hq1 hq2, hg.1.2⟩, fun p l e R s m args below meth c0 D cA base X hC Q H locs cells slots ls hl hP hS hz hc hs hk => ?_⟩
  obtain ⟨hx, hb, hml, hown, hts, hK, hE, -, hf, hlo⟩ := id hC
  have h8 := mj_us_cat (mj_ad base X) rest
  refine mj_bd (fun hbd => ?_)
  have hw0 : ∀ w ∈ mj_ws Y', w ∈ mj_GW := fun w h => by
    rcases List.mem_cons.mp h with h | h
    · exact hw w (by rw [h]; simp [mj_cwds])
    · exact h
  have hM := hcl.2 l D cA base X
  have hws : mj_ws Y' = Cond.code (mj_nm Y') (mj_by Y') (mj_ml Y') none :: mj_GW := by unfold mj_ws; rw [hrt]
  refine mj_callk (r1 := r1) (va_runI (As := mj_us (mj_ad base X) as) (rest := mj_us (mj_ad base X) rest) (n := n) (Ts := mj_GW) ⟨hx, hb, hml, hown, hts⟩ hM ⟨callB_of n hts (mj_good hw0) hws rfl rfl (hts _ (hw _ (by simp [mj_cwds, mj_ow]))) (hts _ (hw _ (by simp [mj_cwds]))) hp ⟨by show δ + 1 + 1 ≤ _; exact hf, by show 8 + (mj_ml Y' + 11) + 64 * (δ + 1) ≤ _; omega⟩, hini, hts _ (hw _ (by simp [mj_cwds]))⟩ ⟨mj_blind, fun U hU hW => ⟨rfl, by rw [hU]; exact hP, va_K.moved hW.alike hK, mj_ExtMove hE hU hS hW, by rw [hU]; omega⟩⟩ rfl (by simpa [mj_us] using hn) hl.1 (by rw [hst]; simp [mj_us, List.map_reverse, mj_upv]) (lv_room (by rw [h8]; exact hcat)) hd ⟨by omega, by omega⟩) hS (fun H1 locs1 hP1 hS1 => ?_)
  have hkk := hg.2 p l e R s m args below meth c0 D cA base X ⟨hx, hb, hml, hown, hts, hK, hE, hC.2.2.2.2.2.2.2.1, hf, hlo⟩ Q H1 locs1 (cells + (r1.2.1 - M.1)) (slots + (mj_sl r1.2.1 - mj_sl M.1)) ls hl hP1 hS1 (by omega) (by omega) (by omega) (by
      rw [show cells + (r1.2.1 - M.1) + (r.2.1 - r1.2.1) = cells + (r.2.1 - M.1) by omega, show slots + (mj_sl r1.2.1 - mj_sl M.1) + (mj_sl r.2.1 - mj_sl r1.2.1) = slots + (mj_sl r.2.1 - mj_sl M.1) by omega]
      exact hk)
  rw [show (r1.1.map (mj_upv (mj_ad base X))).toList ++ mj_us (mj_ad base X) rest = mj_us (mj_ad base X) (r1.1.toList ++ rest) by cases r1.1 <;> simp [mj_us]]
  exact hkk
theorem mj_go_callIN {h n : Nat} (hw : ∀ w ∈ mj_cwds 3 Y idx Y', w ∈ mj_GW) (hnw : Cond.methodLinkNest (mj_ow Y) idx (mj_nm Y') "StrengthenFirst" ∈ mj_NW) (hp : mj_pl Y' n) (hm : mj_ml Y' ≤ 40) (hini : (mj_nm Y').name = "<init>") (hrt : mj_rt Y' = none) (hn : as.length = n) (hst : st = as.reverse ++ .ref h :: rest) (hcat : (rest.map fun v => v.category).sum ≤ 8)
    (hcl : mj_Cl EX δ Y' (.ref h :: as) M r1) (hd : decode (mj_by Y) pc = .ok (.invokespecial idx, 3)) (hg : mj_Go EX (δ + 1) Y (pc + 3) lv (r1.1.toList ++ rest) r1.2 r) : mj_Go EX (δ + 1) Y pc lv st M r := by
  have hq1 := hcl.1.1
  have hq2 := hg.1.1
  have hq3 := mj_sl_mono hq1
  have hq4 := mj_sl_mono hq2
  refine ⟨⟨Nat.le_trans hq1 hq2, hg.1.2⟩, fun p l e R s m args below meth c0 D cA base X hC Q H locs cells slots ls hl hP hS hz hc hs hk => ?_⟩
  obtain ⟨hx, hb, hml, hown, hts, hK, hE, -, hf, hlo⟩ := id hC
  have h8 := mj_us_cat (mj_ad base X) rest
  refine mj_bd (fun hbd => ?_)
  have hw0 : ∀ w ∈ mj_ws Y', w ∈ mj_GW := fun w h => by
    rcases List.mem_cons.mp h with h | h
    · exact hw w (by rw [h]; simp [mj_cwds])
    · exact h
  have hM := hcl.2 l D cA base X
  have hws : mj_ws Y' = Cond.code (mj_nm Y') (mj_by Y') (mj_ml Y') none :: mj_GW := by unfold mj_ws; rw [hrt]
  refine mj_callk (r1 := r1) (va_runIN (host := "StrengthenFirst") (As := mj_us (mj_ad base X) as) (rest := mj_us (mj_ad base X) rest) (n := n) (Ts := mj_GW) ⟨hx, hb, hml, hown, hts⟩ hM ⟨va_cnB n hts (mj_good hw0) hws rfl rfl (hE.2.2.2.2.2.2.2.1 _ hnw) (hts _ (hw _ (by simp [mj_cwds, mj_ow]))) hp ⟨by show δ + 1 + 1 ≤ _; exact hf, by show 8 + (mj_ml Y' + 11) + 64 * (δ + 1) ≤ _; omega⟩, hini, hts _ (hw _ (by simp [mj_cwds]))⟩ ⟨mj_blind, fun U hU hW => ⟨rfl, by rw [hU]; exact hP, va_K.moved hW.alike hK, mj_ExtMove hE hU hS hW, by rw [hU]; omega⟩⟩ rfl (by simpa [mj_us] using hn) hl.1 (by rw [hst]; simp [mj_us, List.map_reverse, mj_upv]) (lv_room (by rw [h8]; exact hcat)) hd ⟨by omega, by omega⟩) hS (fun H1 locs1 hP1 hS1 => ?_)
  have hkk := hg.2 p l e R s m args below meth c0 D cA base X ⟨hx, hb, hml, hown, hts, hK, hE, hC.2.2.2.2.2.2.2.1, hf, hlo⟩ Q H1 locs1 (cells + (r1.2.1 - M.1)) (slots + (mj_sl r1.2.1 - mj_sl M.1)) ls hl hP1 hS1 (by omega) (by omega) (by omega) (by
      rw [show cells + (r1.2.1 - M.1) + (r.2.1 - r1.2.1) = cells + (r.2.1 - M.1) by omega, show slots + (mj_sl r1.2.1 - mj_sl M.1) + (mj_sl r.2.1 - mj_sl r1.2.1) = slots + (mj_sl r.2.1 - mj_sl M.1) by omega]
      exact hk)
  rw [show (r1.1.map (mj_upv (mj_ad base X))).toList ++ mj_us (mj_ad base X) rest = mj_us (mj_ad base X) (r1.1.toList ++ rest) by cases r1.1 <;> simp [mj_us]]
  exact hkk
/-- a return -/
theorem mj_go_ret {v : Option Value} (hM : M.1 ≤ 9000) (hr : mj_ret Y pc v) : mj_Go EX δ Y pc lv v.toList M (v, M) := by
  refine ⟨⟨Nat.le_refl _, hM⟩, fun p l e R s m args below meth c0 D cA base X hC Q H locs cells slots ls hl hP hS hz hc hs hk => ?_⟩
  have h := hk pc ls H locs hr hP hS
  rw [show cells + (M.1 - M.1) = cells by omega, show slots + (mj_sl M.1 - mj_sl M.1) = slots by omega] at h
  exact h
/-- the switches: the keys as ints of the machine -/
def mj_swG (ps : List (Int32 × Int)) (d : Int) (x : Int32) (G : Int → Prop) : Prop := match ps with
  | [] => G d
  | (k, o) :: ps => (x = k → G o) ∧ (¬ x = k → mj_swG ps d x G)
theorem mj_swG_of {G : Int → Prop} {d : Int} {x : Int32} : ∀ (ps : List (Int32 × Int)), mj_swG ps d x G → G (Op.lookupswitch.offset (ps.map (fun q => (q.1.toInt, q.2))) d x.toInt)
  | [], h => h
  | (k, o) :: ps, h => by
    rw [List.map_cons, Op.lookupswitch.offset_cons]
    by_cases hx : x = k
    · rw [if_pos (by rw [hx])]
      exact h.1 hx
    · rw [if_neg (fun q => hx (Int32.toInt_inj.mp q.symm))]
      exact mj_swG_of ps (h.2 hx)
theorem mj_go_lsw {d : Int} {ps : Array (Int × Int)} {len : Nat} {x : Int32} (ks : List (Int32 × Int)) (hp : (ps.toList.zip (ps.toList.drop 1)).all (fun (a, next) => a.1 < next.1) = true) (hq : ks.map (fun q => (q.1.toInt, q.2)) = ps.toList) (hd : decode (mj_by Y) pc = .ok (.lookupswitch d ps, len)) (hg : mj_swG ks d x (fun o => ∃ tgt : Nat, (pc : Int) + o = (tgt : Int) ∧ mj_Go EX δ Y tgt lv rest M r)) : mj_Go EX δ Y pc lv (.int x :: rest) M r := by
  obtain ⟨tgt, ht, hgo⟩ := mj_swG_of _ hg
  rw [hq] at ht
  exact ⟨hgo.1, fun p l e R s m args below meth c0 D cA base X hC Q H locs cells slots ls hl hP hS hz hc hs hk => lv_lookup hC.1 hC.2.1 hd hp rfl ht (hgo.2 p l e R s m args below meth c0 D cA base X hC Q H locs cells slots ls hl hP hS hz hc hs hk)⟩
/-- a table's places as pairs -/
def mj_tsP (lo : Int) : List Int → List (Int × Int)
  | [] => []
  | o :: os => (lo, o) :: mj_tsP (lo + 1) os
theorem mj_tsP_get : ∀ (os : List Int) (lo d k : Int), Op.lookupswitch.offset (mj_tsP lo os) d k = if k < lo then d else (os[(k - lo).toNat]?).getD d
  | [], lo, d, k => by simp [mj_tsP, Op.lookupswitch.offset]
  | o :: os, lo, d, k => by
    rw [mj_tsP, Op.lookupswitch.offset_cons, mj_tsP_get os (lo + 1) d k]
    by_cases h1 : lo = k
    · subst h1
      simp
    · rw [if_neg h1]
      by_cases h2 : k < lo
      · rw [if_pos h2, if_pos (by omega)]
      · rw [if_neg h2, if_neg (by omega), show (k - lo).toNat = (k - (lo + 1)).toNat + 1 by omega, List.getElem?_cons_succ]
theorem mj_go_tsw {d lo hi : Int} {os : Array Int} {len : Nat} {x : Int32} (ks : List (Int32 × Int)) (hsz : hi - lo + 1 = (os.size : Int)) (hq : ks.map (fun q => (q.1.toInt, q.2)) = mj_tsP lo os.toList) (hd : decode (mj_by Y) pc = .ok (.tableswitch d lo hi os, len)) (hg : mj_swG ks d x (fun o => ∃ tgt : Nat, (pc : Int) + o = (tgt : Int) ∧ mj_Go EX δ Y tgt lv rest M r)) : mj_Go EX δ Y pc lv (.int x :: rest) M r := by
  obtain ⟨tgt, ht, hgo⟩ := mj_swG_of _ hg
  rw [hq, mj_tsP_get] at ht
  refine ⟨hgo.1, fun p l e R s m args below meth c0 D cA base X hC Q H locs cells slots ls hl hP hS hz hc hs hk => ?_⟩
  have hG := hgo.2 p l e R s m args below meth c0 D cA base X hC Q H locs cells slots ls hl hP hS hz hc hs hk
  by_cases h1 : x.toInt < lo
  · rw [if_pos h1] at ht
    exact lv_tableOut hC.1 hC.2.1 hd (Or.inl h1) ht hG
  · rw [if_neg h1] at ht
    by_cases h2 : hi < x.toInt
    · rw [List.getElem?_eq_none (by simp; omega)] at ht
      exact lv_tableOut hC.1 hC.2.1 hd (Or.inr h2) ht hG
    · have hlt : (x.toInt - lo).toNat < os.toList.length := by simp; omega
      rw [List.getElem?_eq_getElem hlt] at ht
      exact lv_tableIn hC.1 hC.2.1 hd h1 h2 (by rw [← Array.getElem?_toList, List.getElem?_eq_getElem hlt]; rfl) ht hG
end MJK
