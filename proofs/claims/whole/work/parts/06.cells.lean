/-! ROWS OF THE CELLS -/
theorem mj_ent_obj {ad : Nat → Nat} {cA : Nat → ClassId} {M : mj_M} {h c n : Nat} (hsh : mj_sh h = (c + 10, n)) : mj_ent ad cA M h = .inr (c, (List.range n).map (fun k => mj_upv ad (mj_val M h k (mj_ty c k)))) := by
  unfold mj_ent
  rw [hsh]
  show (Sum.inr (c + 6 - 6, (List.range n).map (fun k => mj_upv ad (mj_val M h k (mj_ty (c + 6 - 6) k)))) : va_E) = _
  rw [Nat.add_sub_cancel]
theorem mj_ent_i {ad : Nat → Nat} {cA : Nat → ClassId} {M : mj_M} {h : Nat} (hsh : (mj_sh h).1 = 0) : mj_ent ad cA M h = .inl (cA 0, (mj_sh h).2, .inl (M.2.2.1 h)) := by
  unfold mj_ent
  rw [hsh]
  rfl
theorem mj_ent_l {ad : Nat → Nat} {cA : Nat → ClassId} {M : mj_M} {h : Nat} (hsh : (mj_sh h).1 = 1) : mj_ent ad cA M h = .inl (cA 1, (mj_sh h).2, .inr (.inl (M.2.2.2 h))) := by
  unfold mj_ent
  rw [hsh]
  rfl
theorem mj_ent_q {ad : Nat → Nat} {cA : Nat → ClassId} {M : mj_M} {h k : Nat} (hk : k = 2 ∨ k = 3) (hsh : (mj_sh h).1 = k) : mj_ent ad cA M h = .inl (cA k, (mj_sh h).2, .inr (.inr (.inr (.inr (fun j => (M.2.1 h j).map ad))))) := by
  unfold mj_ent
  rw [hsh]
  rcases hk with rfl | rfl <;> rfl
theorem mj_adlt {base : Nat} {X : Nat → Nat} {h : Nat} (hh : h < 9000) : mj_ad base X h = base + h := by simp [mj_ad, hh]
def mj_fl (Y : mj_Y) (idx c k : Nat) : Prop := Cond.fieldLink (mj_ow Y) idx (mj_R c) (mj_T c k).2.1 (mj_T c k).2.2.1 ∈ mj_GW
def mj_fn (Y : mj_Y) (idx c k : Nat) : Prop := Cond.fieldLinkNest (mj_ow Y) idx (mj_R c) (mj_T c k).2.1 (mj_T c k).2.2.1 "StrengthenFirst" ∈ mj_NW
theorem mj_NWok {w : Cond} (hw : w ∈ mj_NW) : w.onTables = true := by
  unfold mj_NW at hw
  simp only [List.mem_cons, List.not_mem_nil, or_false] at hw
  rcases hw with rfl | rfl | rfl | rfl | rfl <;> rfl
section MJM
variable {EX : mj_X} {δ : Nat} {Y : mj_Y} {pc : Nat} {lv : mj_LV} {rest : List Value} {M : mj_M} {r : mj_S}
theorem mj_go_getf {idx c k h : Nat} (hc10 : c < 10) (hkN : k < mj_N c) (hw : mj_fl Y idx c k ∨ mj_fn Y idx c k) (hh : h < M.1) (hsh : mj_sh h = (c + 10, mj_N c)) (hd : decode (mj_by Y) pc = .ok (.getfield idx, 3)) (hg : mj_Go EX δ Y (pc + 3) lv (mj_val M h k (mj_ty c k) :: rest) M r) : mj_Go EX δ Y pc lv (.ref h :: rest) M r := by
  refine ⟨hg.1, fun p l e R s m args below meth c0 D cA base X hC Q H locs cells slots ls hl hP hS hz hc hs hk => ?_⟩
  have he : (mj_w (mj_ad base X) cA M)[h]? = some (mj_ad base X h, .inr (c, (List.range (mj_N c)).map (fun k => mj_upv (mj_ad base X) (mj_val M h k (mj_ty c k))))) := by rw [mj_w_get hh, mj_ent_obj hsh]
  have hv : ((List.range (mj_N c)).map (fun k => mj_upv (mj_ad base X) (mj_val M h k (mj_ty c k))))[k]? = some (mj_upv (mj_ad base X) (mj_val M h k (mj_ty c k))) := by simp [hkN]
  have hsame : ∀ x, s.fieldFound? (mj_T c k).1 (mj_T c k).2.1 (mj_T c k).2.2.1 = some x → s.fieldFound? (mj_R c) (mj_T c k).2.1 (mj_T c k).2.2.1 = some x := by
    intro x hx
    rw [mj_own c hc10 k hkN] at hx
    exact hx
  obtain ⟨hx, hb, -, hown, hts, hK, hE, -⟩ := id hC
  rcases hw with hw | hw
  · exact va_get (Ts := mj_GW) (ci := c) hx hb hts (mj_layAll c hc10) hown hK hP h he (mj_clOK c hc10) k hkN (hts _ hw) hsame hv hd (hg.2 p l e R s m args below meth c0 D cA base X hC Q H locs cells slots ls hl hP hS hz hc hs hk)
  · exact va_getN (Ts := mj_GW) (ci := c) hx hb hts (mj_layAll c hc10) hown hK hP h he (mj_clOK c hc10) k hkN (va_Nw.use (mj_NWok hw) (hE.2.2.2.2.2.2.2.1 _ hw)) hsame hv hd (hg.2 p l e R s m args below meth c0 D cA base X hC Q H locs cells slots ls hl hP hS hz hc hs hk)
theorem mj_go_put {idx c k h : Nat} {v : Value} {M' : mj_M} (hc10 : c < 10) (hkN : k < mj_N c) (hw : mj_fl Y idx c k) (hf : (mj_T c k).2.2.2 = false ∨ (mj_T c k).2.2.2 = true ∧ mj_ii Y = 1 ∧ mj_R c = mj_ow Y) (hh : h < M.1) (hsh : mj_sh h = (c + 10, mj_N c))
    (hn : ∀ ad : Nat → Nat, narrow (mj_ty c k) (mj_upv ad v) = mj_upv ad v) (hfit : ∀ ad : Nat → Nat, fits (mj_ty c k) (mj_upv ad v) = true) (h1 : M'.1 = M.1) (h2 : ∀ (ad : Nat → Nat) (cA : Nat → ClassId) (a : Nat), a ≠ h → mj_ent ad cA M' a = mj_ent ad cA M a)
    (h3 : ∀ j, j ≠ k → mj_val M' h j (mj_ty c j) = mj_val M h j (mj_ty c j)) (h4 : mj_val M' h k (mj_ty c k) = v) (hd : decode (mj_by Y) pc = .ok (.putfield idx, 3)) (hg : mj_Go EX δ Y (pc + 3) lv rest M' r) : mj_Go EX δ Y pc lv (v :: .ref h :: rest) M r := by
  refine ⟨by rw [← h1]; exact hg.1, fun p l e R s m args below meth c0 D cA base X hC Q H locs cells slots ls hl hP hS hz hc hs hk => ?_⟩
  have he : (mj_w (mj_ad base X) cA M)[h]? = some (mj_ad base X h, .inr (c, (List.range (mj_N c)).map (fun k => mj_upv (mj_ad base X) (mj_val M h k (mj_ty c k))))) := by rw [mj_w_get hh, mj_ent_obj hsh]
  have hsame : ∀ x, s.fieldFound? (mj_T c k).1 (mj_T c k).2.1 (mj_T c k).2.2.1 = some x → s.fieldFound? (mj_R c) (mj_T c k).2.1 (mj_T c k).2.2.1 = some x := by
    intro x hx
    rw [mj_own c hc10 k hkN] at hx
    exact hx
  have hD := mj_D (base := base) (X := X) (cA := cA) (M := M) (Nat.le_trans (by rw [← h1]; exact hg.1.1) hg.1.2)
  have hw2 : (mj_w (mj_ad base X) cA M).set h (mj_ad base X h, .inr (c, ((List.range (mj_N c)).map (fun k => mj_upv (mj_ad base X) (mj_val M h k (mj_ty c k)))).set k (mj_upv (mj_ad base X) v))) = mj_w (mj_ad base X) cA M' := by
    refine mj_w_set h1 (h2 _ _) ?_
    rw [mj_ent_obj hsh]
    congr 2
    apply List.ext_getElem?
    intro j
    rw [List.getElem?_set]
    by_cases hj : k = j
    · subst hj
      rw [if_pos rfl, if_pos (by simpa using hkN)]
      simp [hkN, h4]
    · rw [if_neg hj]
      simp only [List.getElem?_map]
      cases hr : (List.range (mj_N c))[j]? with
      | none => rfl
      | some x =>
        have hx : x = j := by
          obtain ⟨hlt, he2⟩ := List.getElem?_eq_some_iff.mp hr
          simp at he2
          exact he2.symm
        subst hx
        simp only [Option.map_some]
        rw [h3 _ (Ne.symm hj)]
  obtain ⟨hx, hb, -, hown, hts, hK, hE, hin, -⟩ := id hC
  have hlen : k < ((List.range (mj_N c)).map (fun k => mj_upv (mj_ad base X) (mj_val M h k (mj_ty c k)))).length := by simpa using hkN
  have fin : ∀ (H1 : Heap) (locs1 : List Loc), va_P D mj_cl ((mj_w (mj_ad base X) cA M).set h (mj_ad base X h, .inr (c, ((List.range (mj_N c)).map (fun k => mj_upv (mj_ad base X) (mj_val M h k (mj_ty c k)))).set k (mj_upv (mj_ad base X) v)))) H1 → va_D (fun q => base ≤ q) ((mj_w (mj_ad base X) cA M).set h (mj_ad base X h, .inr (c, ((List.range (mj_N c)).map (fun k => mj_upv (mj_ad base X) (mj_val M h k (mj_ty c k)))).set k (mj_upv (mj_ad base X) v)))) → va_S (fun q => base ≤ q) s.heap H1 locs1 → W p l e R s m args below meth c0 H1 locs1 cells slots Q (F0 m (pc + 3) ls (mj_us (mj_ad base X) rest)) := by
    intro H1 locs1 hP1 _ hS1
    rw [hw2] at hP1
    exact hg.2 p l e R s m args below meth c0 D cA base X hC Q H1 locs1 cells slots ls hl hP1 hS1 (by rw [h1]; exact hz) (by rw [h1]; exact hc) (by rw [h1]; exact hs) (by rw [h1]; exact hk)
  rcases hf with hf | ⟨hf, hi1, hi2⟩
  · exact va_put (Ts := mj_GW) (ci := c) (ty := mj_ty c k) hx hb hts (mj_layAll c hc10) (mj_ty c) (mj_tyOK c hc10) (mj_nmOK c hc10) hown hK hP hD hS h he (mj_clOK c hc10) k hkN (hts _ hw) hsame hf (mj_tyOK c hc10 k hkN) (hn _) (hfit _) hlen hd fin
  · exact va_putF (Ts := mj_GW) (ci := c) (ty := mj_ty c k) hx hb hts (mj_layAll c hc10) (mj_ty c) (mj_tyOK c hc10) (mj_nmOK c hc10) hown hK hP hD hS h he (mj_clOK c hc10) k hkN (hts _ hw) hsame hf (hin hi1) ((mj_own c hc10 k hkN).trans hi2) (mj_tyOK c hc10 k hkN) (hn _) (hfit _) hlen hd fin
theorem mj_up_ne {α : Type} {f : Nat → Nat → α} {h k a b : Nat} {v : α} (q : ¬ (a = h ∧ b = k)) : mj_up f h k v a b = f a b := if_neg q
theorem mj_up_eq {α : Type} {f : Nat → Nat → α} {h k : Nat} {v : α} : mj_up f h k v h k = v := if_pos ⟨rfl, rfl⟩
theorem mj_valI {M : mj_M} {h k : Nat} {t : FieldType} {x : Int32} (j a : Nat) (q : ¬ (a = h ∧ j = k)) : mj_val (mj_setI M h k x) a j t = mj_val M a j t := by cases t <;> simp only [mj_val, mj_setI, mj_up_ne q]
theorem mj_valL {M : mj_M} {h k : Nat} {t : FieldType} {x : Int64} (j a : Nat) (q : ¬ (a = h ∧ j = k)) : mj_val (mj_setL M h k x) a j t = mj_val M a j t := by cases t <;> simp only [mj_val, mj_setL, mj_up_ne q]
theorem mj_valR {M : mj_M} {h k : Nat} {t : FieldType} {x : Option Nat} (j a : Nat) (q : ¬ (a = h ∧ j = k)) : mj_val (mj_setR M h k x) a j t = mj_val M a j t := by cases t <;> simp only [mj_val, mj_setR, mj_up_ne q]

theorem mj_go_putI {idx c k h : Nat} {x : Int32} (hc10 : c < 10) (hkN : k < mj_N c) (hw : mj_fl Y idx c k) (hf : (mj_T c k).2.2.2 = false ∨ (mj_T c k).2.2.2 = true ∧ mj_ii Y = 1 ∧ mj_R c = mj_ow Y) (hh : h < M.1) (hsh : mj_sh h = (c + 10, mj_N c)) (hty : mj_ty c k = .int) (hd : decode (mj_by Y) pc = .ok (.putfield idx, 3)) (hg : mj_Go EX δ Y (pc + 3) lv rest (mj_setI M h k x) r) : mj_Go EX δ Y pc lv (.int x :: .ref h :: rest) M r := by
  refine mj_go_put (M' := mj_setI M h k x) hc10 hkN hw hf hh hsh (fun ad => by rw [hty]; rfl) (fun ad => by rw [hty]; rfl) rfl (fun ad cA a ha => ?_) (fun j hj => mj_valI j h (fun q => hj q.2)) (by rw [hty]; simp only [mj_val, mj_setI, mj_up_eq]) hd hg
  refine mj_ent_of (fun b => ?_) (fun b => ?_) (fun b => ?_)
  all_goals (first | rfl | exact mj_up_ne (fun q => ha q.1))
theorem mj_go_putZ {idx c k h : Nat} {x : Int32} (hc10 : c < 10) (hkN : k < mj_N c) (hw : mj_fl Y idx c k) (hf : (mj_T c k).2.2.2 = false ∨ (mj_T c k).2.2.2 = true ∧ mj_ii Y = 1 ∧ mj_R c = mj_ow Y) (hh : h < M.1) (hsh : mj_sh h = (c + 10, mj_N c)) (hty : mj_ty c k = .boolean) (hx : x = 0 ∨ x = 1) (hd : decode (mj_by Y) pc = .ok (.putfield idx, 3)) (hg : mj_Go EX δ Y (pc + 3) lv rest (mj_setI M h k x) r) : mj_Go EX δ Y pc lv (.int x :: .ref h :: rest) M r := by
  refine mj_go_put (M' := mj_setI M h k x) hc10 hkN hw hf hh hsh (fun ad => by rw [hty]; rcases hx with rfl | rfl <;> rfl) (fun ad => by rw [hty]; rcases hx with rfl | rfl <;> rfl) rfl (fun ad cA a ha => ?_) (fun j hj => mj_valI j h (fun q => hj q.2)) (by rw [hty]; simp only [mj_val, mj_setI, mj_up_eq]) hd hg
  refine mj_ent_of (fun b => ?_) (fun b => ?_) (fun b => ?_)
  all_goals (first | rfl | exact mj_up_ne (fun q => ha q.1))
theorem mj_go_putL {idx c k h : Nat} {x : Int64} (hc10 : c < 10) (hkN : k < mj_N c) (hw : mj_fl Y idx c k) (hf : (mj_T c k).2.2.2 = false ∨ (mj_T c k).2.2.2 = true ∧ mj_ii Y = 1 ∧ mj_R c = mj_ow Y) (hh : h < M.1) (hsh : mj_sh h = (c + 10, mj_N c)) (hty : mj_ty c k = .long) (hd : decode (mj_by Y) pc = .ok (.putfield idx, 3)) (hg : mj_Go EX δ Y (pc + 3) lv rest (mj_setL M h k x) r) : mj_Go EX δ Y pc lv (.long x :: .ref h :: rest) M r := by
  refine mj_go_put (M' := mj_setL M h k x) hc10 hkN hw hf hh hsh (fun ad => by rw [hty]; rfl) (fun ad => by rw [hty]; rfl) rfl (fun ad cA a ha => ?_) (fun j hj => mj_valL j h (fun q => hj q.2)) (by rw [hty]; simp only [mj_val, mj_setL, mj_up_eq]) hd hg
  refine mj_ent_of (fun b => ?_) (fun b => ?_) (fun b => ?_)
  all_goals (first | rfl | exact mj_up_ne (fun q => ha q.1))
theorem mj_go_putR {idx c k h : Nat} {x : Nat} (hc10 : c < 10) (hkN : k < mj_N c) (hw : mj_fl Y idx c k) (hf : (mj_T c k).2.2.2 = false ∨ (mj_T c k).2.2.2 = true ∧ mj_ii Y = 1 ∧ mj_R c = mj_ow Y) (hh : h < M.1) (hsh : mj_sh h = (c + 10, mj_N c)) (hty : (∃ n, mj_ty c k = .object n) ∨ ∃ t, mj_ty c k = .array t) (hd : decode (mj_by Y) pc = .ok (.putfield idx, 3)) (hg : mj_Go EX δ Y (pc + 3) lv rest (mj_setR M h k (some x)) r) : mj_Go EX δ Y pc lv (.ref x :: .ref h :: rest) M r := by
  refine mj_go_put (M' := mj_setR M h k (some x)) hc10 hkN hw hf hh hsh (fun ad => by rcases hty with ⟨n, hty⟩ | ⟨n, hty⟩ <;> rw [hty] <;> rfl) (fun ad => by rcases hty with ⟨n, hty⟩ | ⟨n, hty⟩ <;> rw [hty] <;> rfl) rfl (fun ad cA a ha => ?_) (fun j hj => mj_valR j h (fun q => hj q.2)) (by rcases hty with ⟨n, hty⟩ | ⟨n, hty⟩ <;> rw [hty] <;> simp only [mj_val, mj_setR, mj_up_eq] <;> rfl) hd hg
  refine mj_ent_of (fun b => ?_) (fun b => ?_) (fun b => ?_)
  all_goals (first | rfl | exact mj_up_ne (fun q => ha q.1))
theorem mj_go_iald {h : Nat} {i : Int32} (hh : h < M.1) (hsh : (mj_sh h).1 = 0) (hi : vp_in i (mj_sh h).2) (hd : decode (mj_by Y) pc = .ok (.iaload, 1)) (hg : mj_Go EX δ Y (pc + 1) lv (.int (M.2.2.1 h i.toNatClampNeg) :: rest) M r) : mj_Go EX δ Y pc lv (.int i :: .ref h :: rest) M r := by
  refine ⟨hg.1, fun p l e R s m args below meth c0 D cA base X hC Q H locs cells slots ls hl hP hS hz hc hs hk => ?_⟩
  exact va_iald hC.1 hC.2.1 hC.2.2.2.2.2.1 hP h 0 (by rw [mj_w_get hh, mj_ent_i hsh]) rfl hi hd (hg.2 p l e R s m args below meth c0 D cA base X hC Q H locs cells slots ls hl hP hS hz hc hs hk)
theorem mj_go_lald {h : Nat} {i : Int32} (hh : h < M.1) (hsh : (mj_sh h).1 = 1) (hi : vp_in i (mj_sh h).2) (hd : decode (mj_by Y) pc = .ok (.laload, 1)) (hg : mj_Go EX δ Y (pc + 1) lv (.long (M.2.2.2 h i.toNatClampNeg) :: rest) M r) : mj_Go EX δ Y pc lv (.int i :: .ref h :: rest) M r := by
  refine ⟨hg.1, fun p l e R s m args below meth c0 D cA base X hC Q H locs cells slots ls hl hP hS hz hc hs hk => ?_⟩
  exact va_lald hC.1 hC.2.1 hC.2.2.2.2.2.1 hP h 1 (by rw [mj_w_get hh, mj_ent_l hsh]) rfl hi hd (hg.2 p l e R s m args below meth c0 D cA base X hC Q H locs cells slots ls hl hP hS hz hc hs hk)
theorem mj_go_aald2 {h : Nat} {i : Int32} {x : Nat} (hh : h < M.1) (hsh : (mj_sh h).1 = 2) (hi : vp_in i (mj_sh h).2) (hx : M.2.1 h i.toNatClampNeg = some x) (hd : decode (mj_by Y) pc = .ok (.aaload, 1)) (hg : mj_Go EX δ Y (pc + 1) lv (.ref x :: rest) M r) : mj_Go EX δ Y pc lv (.int i :: .ref h :: rest) M r := by
  refine ⟨hg.1, fun p l e R s m args below meth c0 D cA base X hC Q H locs cells slots ls hl hP hS hz hc hs hk => ?_⟩
  refine va_aldq (C := RX1) hC.1 hC.2.1 hC.2.2.2.2.2.1 hP h 2 (by rw [mj_w_get hh, mj_ent_q (k := 2) (by decide) hsh]) rfl hi hd ?_
  show W p l e R s m args below meth c0 H locs cells slots Q (F0 m (pc + 1) ls (va_rf ((M.2.1 h i.toNatClampNeg).map (mj_ad base X)) :: mj_us (mj_ad base X) rest))
  rw [hx]
  exact (hg.2 p l e R s m args below meth c0 D cA base X hC Q H locs cells slots ls hl hP hS hz hc hs hk)
theorem mj_go_aald3 {h : Nat} {i : Int32} {x : Nat} (hh : h < M.1) (hsh : (mj_sh h).1 = 3) (hi : vp_in i (mj_sh h).2) (hx : M.2.1 h i.toNatClampNeg = some x) (hd : decode (mj_by Y) pc = .ok (.aaload, 1)) (hg : mj_Go EX δ Y (pc + 1) lv (.ref x :: rest) M r) : mj_Go EX δ Y pc lv (.int i :: .ref h :: rest) M r := by
  refine ⟨hg.1, fun p l e R s m args below meth c0 D cA base X hC Q H locs cells slots ls hl hP hS hz hc hs hk => ?_⟩
  refine va_aldq (C := RX6) hC.1 hC.2.1 hC.2.2.2.2.2.1 hP h 3 (by rw [mj_w_get hh, mj_ent_q (k := 3) (by decide) hsh]) rfl hi hd ?_
  show W p l e R s m args below meth c0 H locs cells slots Q (F0 m (pc + 1) ls (va_rf ((M.2.1 h i.toNatClampNeg).map (mj_ad base X)) :: mj_us (mj_ad base X) rest))
  rw [hx]
  exact (hg.2 p l e R s m args below meth c0 D cA base X hC Q H locs cells slots ls hl hP hS hz hc hs hk)
theorem mj_go_iast {h : Nat} {i : Int32} {x : Int32} (hh : h < M.1) (hsh : (mj_sh h).1 = 0) (hi : vp_in i (mj_sh h).2) (hd : decode (mj_by Y) pc = .ok (.iastore, 1)) (hg : mj_Go EX δ Y (pc + 1) lv rest (mj_setI M h i.toNatClampNeg x) r) : mj_Go EX δ Y pc lv (.int x :: .int i :: .ref h :: rest) M r := by
  refine ⟨hg.1, fun p l e R s m args below meth c0 D cA base X hC Q H locs cells slots ls hl hP hS hz hc hs hk => ?_⟩
  have hD := mj_D (base := base) (X := X) (cA := cA) (M := M) (Nat.le_trans hg.1.1 hg.1.2)
  refine va_iast hC.1 hC.2.1 hC.2.2.2.2.2.1 hP hD hS h 0 (by rw [mj_w_get hh, mj_ent_i hsh]) rfl hi hd (fun H1 locs1 hP1 _ hS1 => ?_)
  rw [mj_w_set (M := M) (M' := mj_setI M h i.toNatClampNeg x) rfl (fun a ha => mj_ent_of (fun b => by first | rfl | exact mj_up_ne (fun q => ha q.1)) (fun b => by first | rfl | exact mj_up_ne (fun q => ha q.1)) (fun b => by first | rfl | exact mj_up_ne (fun q => ha q.1))) (by
    rw [mj_ent_i hsh]
    congr 4
    funext b
    simp [mj_setI, mj_up, upd, vp_updL])] at hP1
  exact hg.2 p l e R s m args below meth c0 D cA base X hC Q H1 locs1 cells slots ls hl hP1 hS1 hz hc hs hk
theorem mj_go_last {h : Nat} {i : Int32} {x : Int64} (hh : h < M.1) (hsh : (mj_sh h).1 = 1) (hi : vp_in i (mj_sh h).2) (hd : decode (mj_by Y) pc = .ok (.lastore, 1)) (hg : mj_Go EX δ Y (pc + 1) lv rest (mj_setL M h i.toNatClampNeg x) r) : mj_Go EX δ Y pc lv (.long x :: .int i :: .ref h :: rest) M r := by
  refine ⟨hg.1, fun p l e R s m args below meth c0 D cA base X hC Q H locs cells slots ls hl hP hS hz hc hs hk => ?_⟩
  have hD := mj_D (base := base) (X := X) (cA := cA) (M := M) (Nat.le_trans hg.1.1 hg.1.2)
  refine va_last hC.1 hC.2.1 hC.2.2.2.2.2.1 hP hD hS h 1 (by rw [mj_w_get hh, mj_ent_l hsh]) rfl hi hd (fun H1 locs1 hP1 _ hS1 => ?_)
  rw [mj_w_set (M := M) (M' := mj_setL M h i.toNatClampNeg x) rfl (fun a ha => mj_ent_of (fun b => by first | rfl | exact mj_up_ne (fun q => ha q.1)) (fun b => by first | rfl | exact mj_up_ne (fun q => ha q.1)) (fun b => by first | rfl | exact mj_up_ne (fun q => ha q.1))) (by
    rw [mj_ent_l hsh]
    congr 5
    funext b
    simp [mj_setL, mj_up, upd, vp_updL])] at hP1
  exact hg.2 p l e R s m args below meth c0 D cA base X hC Q H1 locs1 cells slots ls hl hP1 hS1 hz hc hs hk
theorem mj_go_aast2 {h x : Nat} {i : Int32} (hh : h < M.1) (hsh : (mj_sh h).1 = 2) (hi : vp_in i (mj_sh h).2) (hx : x < M.1) (hsx : mj_sh x = (1 + 10, 8)) (hd : decode (mj_by Y) pc = .ok (.aastore, 1)) (hg : mj_Go EX δ Y (pc + 1) lv rest (mj_setR M h i.toNatClampNeg (some x)) r) : mj_Go EX δ Y pc lv (.ref x :: .int i :: .ref h :: rest) M r := by
  refine ⟨hg.1, fun p l e R s m args below meth c0 D cA base X hC Q H locs cells slots ls hl hP hS hz hc hs hk => ?_⟩
  have hD := mj_D (base := base) (X := X) (cA := cA) (M := M) (Nat.le_trans hg.1.1 hg.1.2)
  refine va_astq (r := (RX1, mj_T 1, 8)) hC.1 hC.2.1 hC.2.2.2.2.2.1 hP hD hS h 2 x 1 (by rw [mj_w_get hh, mj_ent_q (k := 2) (by decide) hsh]) rfl (by rw [mj_w_get hx, mj_ent_obj hsx]) rfl hi hd (fun H1 locs1 hP1 _ hS1 => ?_)
  rw [mj_w_set (M := M) (M' := mj_setR M h i.toNatClampNeg (some x)) rfl (fun a ha => mj_ent_of (fun b => by first | rfl | exact mj_up_ne (fun q => ha q.1)) (fun b => by first | rfl | exact mj_up_ne (fun q => ha q.1)) (fun b => by first | rfl | exact mj_up_ne (fun q => ha q.1))) (by
    rw [mj_ent_q (k := 2) (by decide) hsh]
    congr 7
    funext b
    by_cases hb : b = i.toNatClampNeg
    · simp [mj_setR, mj_up, va_up, hb]
    · simp [mj_setR, mj_up, va_up, hb])] at hP1
  exact hg.2 p l e R s m args below meth c0 D cA base X hC Q H1 locs1 cells slots ls hl hP1 hS1 hz hc hs hk
theorem mj_go_aast3 {h x : Nat} {i : Int32} (hh : h < M.1) (hsh : (mj_sh h).1 = 3) (hi : vp_in i (mj_sh h).2) (hx : x < M.1) (hsx : mj_sh x = (6 + 10, 4)) (hd : decode (mj_by Y) pc = .ok (.aastore, 1)) (hg : mj_Go EX δ Y (pc + 1) lv rest (mj_setR M h i.toNatClampNeg (some x)) r) : mj_Go EX δ Y pc lv (.ref x :: .int i :: .ref h :: rest) M r := by
  refine ⟨hg.1, fun p l e R s m args below meth c0 D cA base X hC Q H locs cells slots ls hl hP hS hz hc hs hk => ?_⟩
  have hD := mj_D (base := base) (X := X) (cA := cA) (M := M) (Nat.le_trans hg.1.1 hg.1.2)
  refine va_astq (r := (RX6, mj_T 6, 4)) hC.1 hC.2.1 hC.2.2.2.2.2.1 hP hD hS h 3 x 6 (by rw [mj_w_get hh, mj_ent_q (k := 3) (by decide) hsh]) rfl (by rw [mj_w_get hx, mj_ent_obj hsx]) rfl hi hd (fun H1 locs1 hP1 _ hS1 => ?_)
  rw [mj_w_set (M := M) (M' := mj_setR M h i.toNatClampNeg (some x)) rfl (fun a ha => mj_ent_of (fun b => by first | rfl | exact mj_up_ne (fun q => ha q.1)) (fun b => by first | rfl | exact mj_up_ne (fun q => ha q.1)) (fun b => by first | rfl | exact mj_up_ne (fun q => ha q.1))) (by
    rw [mj_ent_q (k := 3) (by decide) hsh]
    congr 7
    funext b
    by_cases hb : b = i.toNatClampNeg
    · simp [mj_setR, mj_up, va_up, hb]
    · simp [mj_setR, mj_up, va_up, hb])] at hP1
  exact hg.2 p l e R s m args below meth c0 D cA base X hC Q H1 locs1 cells slots ls hl hP1 hS1 hz hc hs hk
theorem mj_go_alen {h k : Nat} (hh : h < M.1) (hk4 : k < 4) (hsh : (mj_sh h).1 = k) (hd : decode (mj_by Y) pc = .ok (.arraylength, 1)) (hg : mj_Go EX δ Y (pc + 1) lv (.int (Int32.ofNat (mj_sh h).2) :: rest) M r) : mj_Go EX δ Y pc lv (.ref h :: rest) M r := by
  refine ⟨hg.1, fun p l e R s m args below meth c0 D cA base X hC Q H locs cells slots ls hl hP hS hz hc hs hk => ?_⟩
  match k, hk4, hsh with
  | 0, _, hsh => exact va_alen (x := ((mj_sh h).2, .inl (M.2.2.1 h))) hC.1 hC.2.1 hC.2.2.2.2.2.1 hP h 0 (by rw [mj_w_get hh, mj_ent_i hsh]) rfl rfl hd (hg.2 p l e R s m args below meth c0 D cA base X hC Q H locs cells slots ls hl hP hS hz hc hs hk)
  | 1, _, hsh => exact va_alen (x := ((mj_sh h).2, .inr (.inl (M.2.2.2 h)))) hC.1 hC.2.1 hC.2.2.2.2.2.1 hP h 1 (by rw [mj_w_get hh, mj_ent_l hsh]) rfl rfl hd (hg.2 p l e R s m args below meth c0 D cA base X hC Q H locs cells slots ls hl hP hS hz hc hs hk)
  | 2, _, hsh => exact va_alen (x := ((mj_sh h).2, .inr (.inr (.inr (.inr (fun j => (M.2.1 h j).map (mj_ad base X))))))) hC.1 hC.2.1 hC.2.2.2.2.2.1 hP h 2 (by rw [mj_w_get hh, mj_ent_q (k := 2) (by decide) hsh]) rfl rfl hd (hg.2 p l e R s m args below meth c0 D cA base X hC Q H locs cells slots ls hl hP hS hz hc hs hk)
  | 3, _, hsh => exact va_alen (x := ((mj_sh h).2, .inr (.inr (.inr (.inr (fun j => (M.2.1 h j).map (mj_ad base X))))))) hC.1 hC.2.1 hC.2.2.2.2.2.1 hP h 3 (by rw [mj_w_get hh, mj_ent_q (k := 3) (by decide) hsh]) rfl rfl hd (hg.2 p l e R s m args below meth c0 D cA base X hC Q H locs cells slots ls hl hP hS hz hc hs hk)
  | n + 4, h4, _ => exact absurd h4 (by omega)
theorem mj_adge {base : Nat} {X : Nat → Nat} {h : Nat} (hh : 9000 ≤ h) : mj_ad base X h = X h := by simp only [mj_ad]; rw [if_neg (by omega)]
theorem mj_go_xld {j : Nat} {i : Int32} (hj : j = 9000 ∨ j = 9001) (hi : vp_in i (EX j).1) (hd : decode (mj_by Y) pc = .ok (.iaload, 1)) (hg : mj_Go EX δ Y (pc + 1) lv (.int ((EX j).2 i.toNatClampNeg) :: rest) M r) : mj_Go EX δ Y pc lv (.int i :: .ref j :: rest) M r := by
  refine ⟨hg.1, fun p l e R s m args below meth c0 D cA base X hC Q H locs cells slots ls hl hP hS hz hc hs hk => ?_⟩
  show W p l e R s m args below meth c0 H locs cells slots Q (F0 m pc ls (.int i :: .ref (mj_ad base X j) :: mj_us (mj_ad base X) rest))
  rw [mj_adge (by omega)]
  exact va_ti hC.1 hC.2.1 (hC.2.2.2.2.2.2.1.2.1 j hj) hS hi rfl hd (hg.2 p l e R s m args below meth c0 D cA base X hC Q H locs cells slots ls hl hP hS hz hc hs hk)
theorem mj_go_xlen {j : Nat} (hj : j = 9000 ∨ j = 9001) (hd : decode (mj_by Y) pc = .ok (.arraylength, 1)) (hg : mj_Go EX δ Y (pc + 1) lv (.int (Int32.ofNat (EX j).1) :: rest) M r) : mj_Go EX δ Y pc lv (.ref j :: rest) M r := by
  refine ⟨hg.1, fun p l e R s m args below meth c0 D cA base X hC Q H locs cells slots ls hl hP hS hz hc hs hk => ?_⟩
  show W p l e R s m args below meth c0 H locs cells slots Q (F0 m pc ls (.ref (mj_ad base X j) :: mj_us (mj_ad base X) rest))
  rw [mj_adge (by omega)]
  exact va_tlen hC.1 hC.2.1 (hC.2.2.2.2.2.2.1.2.1 j hj) hS rfl hd (hg.2 p l e R s m args below meth c0 D cA base X hC Q H locs cells slots ls hl hP hS hz hc hs hk)
/-- the words' texts: a String's bytes and coder, the bytes themselves, the JDK's statics -/
theorem mj_go_sval {idx i : Nat} (hi : i < 8) (hw : Cond.fieldLink (mj_ow Y) idx "java/lang/String" "value" "[B" ∈ mj_GW) (hd : decode (mj_by Y) pc = .ok (.getfield idx, 3)) (hg : mj_Go EX δ Y (pc + 3) lv (.ref (9200 + i) :: rest) M r) : mj_Go EX δ Y pc lv (.ref (9100 + i) :: rest) M r := by
  refine ⟨hg.1, fun p l e R s m args below meth c0 D cA base X hC Q H locs cells slots ls hl hP hS hz hc hs hk => ?_⟩
  show W p l e R s m args below meth c0 H locs cells slots Q (F0 m pc ls (.ref (mj_ad base X (9100 + i)) :: mj_us (mj_ad base X) rest))
  rw [mj_adge (by omega)]
  refine vk_getf hC.1 hC.2.1 ((hC.2.2.2.2.2.2.1.2.2.2.1).1 i hi).2.2.1 hS hC.2.2.2.1 (hC.2.2.2.2.1 _ hw) (fun _ h9 => h9) hd ?_
  show W p l e R s m args below meth c0 H locs cells slots Q (F0 m (pc + 3) ls (.ref (X (9200 + i)) :: mj_us (mj_ad base X) rest))
  rw [← mj_adge (base := base) (X := X) (h := 9200 + i) (by omega)]
  exact (hg.2 p l e R s m args below meth c0 D cA base X hC Q H locs cells slots ls hl hP hS hz hc hs hk)
theorem mj_go_scod {idx i : Nat} (hi : i < 8) (hw : Cond.fieldLink (mj_ow Y) idx "java/lang/String" "coder" "B" ∈ mj_GW) (hd : decode (mj_by Y) pc = .ok (.getfield idx, 3)) (hg : mj_Go EX δ Y (pc + 3) lv (.int 0 :: rest) M r) : mj_Go EX δ Y pc lv (.ref (9100 + i) :: rest) M r := by
  refine ⟨hg.1, fun p l e R s m args below meth c0 D cA base X hC Q H locs cells slots ls hl hP hS hz hc hs hk => ?_⟩
  show W p l e R s m args below meth c0 H locs cells slots Q (F0 m pc ls (.ref (mj_ad base X (9100 + i)) :: mj_us (mj_ad base X) rest))
  rw [mj_adge (by omega)]
  exact vk_getf hC.1 hC.2.1 ((hC.2.2.2.2.2.2.1.2.2.2.1).1 i hi).2.1 hS hC.2.2.2.1 (hC.2.2.2.2.1 _ hw) (fun _ h9 => h9) hd (hg.2 p l e R s m args below meth c0 D cA base X hC Q H locs cells slots ls hl hP hS hz hc hs hk)
theorem mj_go_slen {i : Nat} (hi : i < 8) (hd : decode (mj_by Y) pc = .ok (.arraylength, 1)) (hg : mj_Go EX δ Y (pc + 1) lv (.int (Int32.ofNat (mj_sLen.getD i 0)) :: rest) M r) : mj_Go EX δ Y pc lv (.ref (9200 + i) :: rest) M r := by
  refine ⟨hg.1, fun p l e R s m args below meth c0 D cA base X hC Q H locs cells slots ls hl hP hS hz hc hs hk => ?_⟩
  show W p l e R s m args below meth c0 H locs cells slots Q (F0 m pc ls (.ref (mj_ad base X (9200 + i)) :: mj_us (mj_ad base X) rest))
  rw [mj_adge (by omega)]
  exact va_tlen hC.1 hC.2.1 ((hC.2.2.2.2.2.2.1.2.2.2.1).1 i hi).2.2.2 hS rfl hd (hg.2 p l e R s m args below meth c0 D cA base X hC Q H locs cells slots ls hl hP hS hz hc hs hk)
theorem mj_go_sbyt {i : Nat} {k : Int32} (hi : i < 8) (hk : vp_in k (mj_sLen.getD i 0)) (hd : decode (mj_by Y) pc = .ok (.baload, 1)) (hg : mj_Go EX δ Y (pc + 1) lv (.int ((mj_sByt.getD i []).getD k.toNatClampNeg 0) :: rest) M r) : mj_Go EX δ Y pc lv (.int k :: .ref (9200 + i) :: rest) M r := by
  refine ⟨hg.1, fun p l e R s m args below meth c0 D cA base X hC Q H locs cells slots ls hl hP hS hz hc hs hk2 => ?_⟩
  show W p l e R s m args below meth c0 H locs cells slots Q (F0 m pc ls (.int k :: .ref (mj_ad base X (9200 + i)) :: mj_us (mj_ad base X) rest))
  rw [mj_adge (by omega)]
  exact va_tb hC.1 hC.2.1 ((hC.2.2.2.2.2.2.1.2.2.2.1).1 i hi).2.2.2 hS hk rfl hd (hg.2 p l e R s m args below meth c0 D cA base X hC Q H locs cells slots ls hl hP hS hz hc hs hk2)
theorem mj_go_gcs {idx : Nat} (hw : Cond.fieldLink (mj_ow Y) idx "java/lang/String" "COMPACT_STRINGS" "Z" ∈ mj_GW) (hd : decode (mj_by Y) pc = .ok (.getstatic idx, 3)) (hg : mj_Go EX δ Y (pc + 3) lv (.int 1 :: rest) M r) : mj_Go EX δ Y pc lv rest M r := by
  refine ⟨hg.1, fun p l e R s m args below meth c0 D cA base X hC Q H locs cells slots ls hl hP hS hz hc hs hk => ?_⟩
  exact va_gets hC.1 hC.2.1 (v := .int 1) hC.2.2.2.2.2.2.1.2.2.2.2.2.1 hS hC.2.2.2.1 (hC.2.2.2.2.1 _ hw) (fun _ h9 => h9) hd (hg.2 p l e R s m args below meth c0 D cA base X hC Q H locs cells slots ls hl hP hS hz hc hs hk)
theorem mj_go_gsf {idx : Nat} (hw : Cond.fieldLink (mj_ow Y) idx "jdk/internal/util/Preconditions" "SIOOBE_FORMATTER" "Ljava/util/function/BiFunction;" ∈ mj_GW) (hd : decode (mj_by Y) pc = .ok (.getstatic idx, 3)) (h0 : mj_Go EX δ Y (pc + 3) lv (.null :: rest) M r) (h1 : mj_Go EX δ Y (pc + 3) lv (.ref 9300 :: rest) M r) : mj_Go EX δ Y pc lv rest M r := by
  refine ⟨h0.1, fun p l e R s m args below meth c0 D cA base X hC Q H locs cells slots ls hl hP hS hz hc hs hk => ?_⟩
  rcases hC.2.2.2.2.2.2.1.2.2.2.2.2.2.1 with hZ | hZ
  · exact va_gets hC.1 hC.2.1 (v := .null) hZ hS hC.2.2.2.1 (hC.2.2.2.2.1 _ hw) (fun _ h9 => h9) hd (h0.2 p l e R s m args below meth c0 D cA base X hC Q H locs cells slots ls hl hP hS hz hc hs hk)
  · refine va_gets hC.1 hC.2.1 (v := .ref (X 9300)) hZ hS hC.2.2.2.1 (hC.2.2.2.2.1 _ hw) (fun _ h9 => h9) hd ?_
    rw [← mj_adge (base := base) (X := X) (h := 9300) (by omega)]
    exact h1.2 p l e R s m args below meth c0 D cA base X hC Q H locs cells slots ls hl hP hS hz hc hs hk
theorem mj_go_gets {idx : Nat} (hw : Cond.fieldLink (mj_ow Y) idx RX8 "ABOVE" "[I" ∈ mj_GW) (hd : decode (mj_by Y) pc = .ok (.getstatic idx, 3)) (hg : mj_Go EX δ Y (pc + 3) lv (.ref 9001 :: rest) M r) : mj_Go EX δ Y pc lv rest M r := by
  refine ⟨hg.1, fun p l e R s m args below meth c0 D cA base X hC Q H locs cells slots ls hl hP hS hz hc hs hk => ?_⟩
  have hjj : mj_ad base X 9001 = X 9001 := by simp only [mj_ad]; rw [if_neg (by omega)]
  refine va_gets hC.1 hC.2.1 (v := .ref (X 9001)) hC.2.2.2.2.2.2.1.2.2.1 hS hC.2.2.2.1 (hC.2.2.2.2.1 _ hw) (fun _ h9 => h9) hd ?_
  rw [← hjj]
  exact (hg.2 p l e R s m args below meth c0 D cA base X hC Q H locs cells slots ls hl hP hS hz hc hs hk)
theorem mj_go_ldc {idx : Nat} {v : Int32} (hw : Cond.constant (mj_ow Y) idx v ∈ mj_GW) (hd : decode (mj_by Y) pc = .ok (.ldc idx, 2)) (hg : mj_Go EX δ Y (pc + 2) lv (.int v :: rest) M r) : mj_Go EX δ Y pc lv rest M r := by
  refine ⟨hg.1, fun p l e R s m args below meth c0 D cA base X hC Q H locs cells slots ls hl hP hS hz hc hs hk => ?_⟩
  exact lv_ldc hC.1 hC.2.1 hC.2.2.2.1 (hC.2.2.2.2.1 _ hw) hd (hg.2 p l e R s m args below meth c0 D cA base X hC Q H locs cells slots ls hl hP hS hz hc hs hk)
theorem mj_go_ldcw {idx : Nat} {v : Int32} (hw : Cond.constant (mj_ow Y) idx v ∈ mj_GW) (hd : decode (mj_by Y) pc = .ok (.ldc_w idx, 3)) (hg : mj_Go EX δ Y (pc + 3) lv (.int v :: rest) M r) : mj_Go EX δ Y pc lv rest M r := by
  refine ⟨hg.1, fun p l e R s m args below meth c0 D cA base X hC Q H locs cells slots ls hl hP hS hz hc hs hk => ?_⟩
  exact lv_ldcw hC.1 hC.2.1 hC.2.2.2.1 (hC.2.2.2.2.1 _ hw) hd (hg.2 p l e R s m args below meth c0 D cA base X hC Q H locs cells slots ls hl hP hS hz hc hs hk)
theorem mj_go_ldc2 {idx : Nat} {v : Int64} (hw : Cond.constantLong (mj_ow Y) idx v ∈ mj_GW) (hd : decode (mj_by Y) pc = .ok (.ldc2_w idx, 3)) (hg : mj_Go EX δ Y (pc + 3) lv (.long v :: rest) M r) : mj_Go EX δ Y pc lv rest M r := by
  refine ⟨hg.1, fun p l e R s m args below meth c0 D cA base X hC Q H locs cells slots ls hl hP hS hz hc hs hk => ?_⟩
  exact lv_ldc2 hC.1 hC.2.1 hC.2.2.2.1 (hC.2.2.2.2.1 _ hw) hd (hg.2 p l e R s m args below meth c0 D cA base X hC Q H locs cells slots ls hl hP hS hz hc hs hk)
theorem mj_go_ldcS {i : Nat} (hi : i < 8) (ho : mj_ow Y = RX5) (hd : decode (mj_by Y) pc = .ok (.ldc (mj_sIx i), 2)) (hg : mj_Go EX δ Y (pc + 2) lv (.ref (9100 + i) :: rest) M r) : mj_Go EX δ Y pc lv rest M r := by
  refine ⟨hg.1, fun p l e R s m args below meth c0 D cA base X hC Q H locs cells slots ls hl hP hS hz hc hs hk => ?_⟩
  have hjj : mj_ad base X (9100 + i) = X (9100 + i) := by simp only [mj_ad]; rw [if_neg (by omega)]
  refine va_ldcS (q := X (9100 + i)) hC.1 hC.2.1 (own := RX5) (by rw [← ho]; exact hC.2.2.2.1) (hC.2.2.2.2.2.2.1.2.2.2.2.1 i hi) hd ?_
  rw [← hjj]
  exact (hg.2 p l e R s m args below meth c0 D cA base X hC Q H locs cells slots ls hl hP hS hz hc hs hk)
end MJM
