/-! THE START: both sides fresh; THE LAW: a round, all rounds -/
def t0 : aT := fun f i => if f = 13 then ([0, 0, 0, 50, 5, 4] : List Nat).getD i 0 else 0
def u0 : Nat → Int32 := fun i => ([0, 0, 0, 1] : List Int32).getD i 0
theorem st_a : ∀ i, i < 6 → cg mj_m1 1 8 13 i = nI (t0 13 i) ∧ mg mj_m1 13 i = nI (t0 13 i) := by decide +kernel
theorem st_b : ∀ i, i < 4 → cg mj_m1 1 8 14 i = u0 i ∧ mg mj_m1 14 i = u0 i := by decide +kernel
theorem st_c : mj_m1.1 95 55 = 0 ∧ mj_m1.1 0 10 = 0 ∧ mj_m1.1 95 10 = -1 ∧ mj_m1.1 0 11 = -1 ∧ mj_m1.1 75 1 = 0 ∧ mj_m1.1 95 54 = 0 := by decide +kernel
theorem st_d : ∀ i, i < 8 → mj_m1.1 96 i = mj_m1.1 77 i := by decide +kernel
theorem st_e : ∀ s, s < 8 → mj_m1.1 110 s = 0 ∧ mj_m1.1 (79 + 2 * s) 1 = -1 ∧ mj_m1.1 (79 + 2 * s) 2 = 0 := by decide +kernel
theorem st_f : ∀ i, i < 58 → mj_m1.1 117 i = wdl.getD i 0 := by decide +kernel
theorem st_g : ∀ i, i < 10 → mj_m1.1 (8 + i) 7 = 0 ∧ mj_m1.1 (25 + i) 7 = 0 := by decide +kernel
theorem Good_t0 : Good t0 := by
  refine ⟨by decide, fun h hh => absurd hh (by show ¬ h < t0 13 1; exact Nat.not_lt_zero h), fun h hh => absurd hh (by show ¬ h < t0 13 0; exact Nat.not_lt_zero h), fun h hh => absurd hh (by show ¬ h < t0 13 2; exact Nat.not_lt_zero h)⟩
theorem Rep_t0 {g : Nat → Nat → Int32} (h1 : ∀ i, i < 6 → g 13 i = nI (t0 13 i)) (h2 : ∀ i, i < 4 → g 14 i = u0 i) : Rep g t0 u0 :=
  ⟨h1, h2, fun _ _ h hh => absurd hh (by show ¬ h < t0 13 1; exact Nat.not_lt_zero h), fun _ _ h hh => absurd hh (by show ¬ h < t0 13 0; exact Nat.not_lt_zero h), fun _ _ h hh => absurd hh (by show ¬ h < t0 13 2; exact Nat.not_lt_zero h)⟩
theorem Rel_m1 : Rel mj_m1 := by
  obtain ⟨c1, c2, c3, c4, c5, c6⟩ := st_c
  refine ⟨⟨t0, u0, Good_t0, Rep_t0 (fun i hi => (st_a i hi).1) (fun i hi => (st_b i hi).1), Rep_t0 (fun i hi => (st_a i hi).2) (fun i hi => (st_b i hi).2)⟩, ⟨c1.trans c2.symm, Or.inl c2⟩, c3.trans c4.symm, st_d, fun s hs => shN _ s (st_e s hs), ⟨0, by omega, c5, c6, fun i _ hi => absurd hi (Nat.not_lt_zero i)⟩, st_f, fun i hi => ⟨Or.inl (st_g i hi).1, Or.inl (st_g i hi).2⟩⟩
def Ro (K : Int32 × mj_m → Option (Int32 × mj_m)) (i : Nat) (z : Option (Int32 × mj_m)) : Prop := ∃ m', Rel m' ∧ z = K (nI i + 6, m')
theorem Ro_ite {K : Int32 × mj_m → Option (Int32 × mj_m)} {i : Nat} {c : Prop} [Decidable c] {a b : Option (Int32 × mj_m)} (h1 : c → Ro K i a) (h2 : ¬ c → Ro K i b) : Ro K i (if c then a else b) := by
  by_cases q : c
  · rw [if_pos q]; exact h1 q
  · rw [if_neg q]; exact h2 q
theorem Ro_ck {K : Int32 × mj_m → Option (Int32 × mj_m)} {i : Nat} {c : Bool} {a : Option (Int32 × mj_m)} (h : c = true) (h1 : Ro K i a) : Ro K i (mj_ck c a) := by
  rw [mj_ck_t h]; exact h1
theorem Ro_E {K : Int32 × mj_m → Option (Int32 × mj_m)} {i N L : Nat} {xs : Nat → Int32} {m : mj_m} (h : Rel m) : Ro K i (f_L_law_1643 N L xs K (nI i) m) := ⟨m, h, rfl⟩
theorem Ro_B {K : Int32 × mj_m → Option (Int32 × mj_m)} {i N L : Nat} {xs : Nat → Int32} {m : mj_m} {f g : mj_m → Option (Int32 × mj_m)} (h : Both f g m) : Ro K i ((f m).bind (fun r => (g r.2).bind (fun r' => if r.1 = r'.1 then f_L_law_1643 N L xs K (nI i) r'.2 else (some (0, r'.2))))) := by
  obtain ⟨v, m1, m2, h1, h2, h3⟩ := h
  rw [h1, bind_some', h2, bind_some', if_pos rfl]
  exact Ro_E h3
theorem Ro_L {K : Int32 × mj_m → Option (Int32 × mj_m)} {i N L : Nat} {xs : Nat → Int32} {m : mj_m} {f g : mj_m → Option (Int64 × mj_m)} (h : BothL f g m) : Ro K i ((f m).bind (fun r => (g r.2).bind (fun r' => if (lg_cmp r.1 r'.1) = 0 then f_L_law_1643 N L xs K (nI i) r'.2 else (some (0, r'.2))))) := by
  obtain ⟨v, m1, m2, h1, h2, h3⟩ := h
  rw [h1, bind_some', h2, bind_some', if_pos ((lg_cmp_eq _ _).mpr rfl)]
  exact Ro_E h3
theorem Ro_P {K : Int32 × mj_m → Option (Int32 × mj_m)} {i N L : Nat} {xs : Nat → Int32} {m : mj_m} (hR : Rel m) {f g : Option Int32} (h : ∃ x, f = some x ∧ g = some x) : Ro K i (f.bind (fun r => g.bind (fun r' => if r = r' then f_L_law_1643 N L xs K (nI i) m else (some (0, m))))) := by
  obtain ⟨v, h1, h2⟩ := h
  rw [h1, bind_some', h2, bind_some', if_pos rfl]
  exact Ro_E hR
theorem Ro_Q {K : Int32 × mj_m → Option (Int32 × mj_m)} {i N L : Nat} {xs : Nat → Int32} {m : mj_m} (hR : Rel m) {f g : Option Int64} (h : ∃ x, f = some x ∧ g = some x) : Ro K i (f.bind (fun r => g.bind (fun r' => if (lg_cmp r r') = 0 then f_L_law_1643 N L xs K (nI i) m else (some (0, m))))) := by
  obtain ⟨v, h1, h2⟩ := h
  rw [h1, bind_some', h2, bind_some', if_pos ((lg_cmp_eq _ _).mpr rfl)]
  exact Ro_E hR
theorem Ro_prop {K : Int32 × mj_m → Option (Int32 × mj_m)} {i L : Nat} {xs : Nat → Int32} {m : mj_m} (hR : Rel m) (x1 : mj_xb L (nI i + 1) = true) (x2 : mj_xb L (nI i + 2) = true) : Ro K i (if (xs (nI i + 2).toNatClampNeg) = 0 then (f_L_law_836 5000 L xs K (nI i) (xs (nI i + 1).toNatClampNeg) 0 m) else (f_L_law_836 5000 L xs K (nI i) (xs (nI i + 1).toNatClampNeg) 1 m)) := by
  refine Ro_ite (fun q => ?_) (fun q => ?_)
  · obtain ⟨v, m1, m2, h1, h2, h3⟩ := ca_prop hR 5000 (xs (nI i + 1).toNatClampNeg) (b := 0) (by decide)
    unfold f_L_law_836
    rw [show f_X8_prop 5000 (xs (nI i + 1).toNatClampNeg) 0 m = some (v, m1) from h1, bind_some', mj_ck_t x1, mj_ck_t x2, if_pos q]
    unfold f_L_law_858
    rw [show f_X9_prop 5000 (xs (nI i + 1).toNatClampNeg) 0 m1 = some (v, m2) from h2, bind_some', if_pos rfl]
    exact Ro_E h3
  · obtain ⟨v, m1, m2, h1, h2, h3⟩ := ca_prop hR 5000 (xs (nI i + 1).toNatClampNeg) (b := 1) (by decide)
    unfold f_L_law_836
    rw [show f_X8_prop 5000 (xs (nI i + 1).toNatClampNeg) 1 m = some (v, m1) from h1, bind_some', mj_ck_t x1, mj_ck_t x2, if_neg q]
    unfold f_L_law_858
    rw [show f_X9_prop 5000 (xs (nI i + 1).toNatClampNeg) 1 m1 = some (v, m2) from h2, bind_some', if_pos rfl]
    exact Ro_E h3
theorem xb_n {L j : Nat} (hj : j < L) (hL : L ≤ 3072) : mj_xb L (nI j) = true := by
  have h1 := nI_toInt (n := j) (by omega)
  simp only [mj_xb, Bool.and_eq_true, decide_eq_true_eq]
  rw [h1]
  exact ⟨by omega, by omega⟩
theorem end_n {L i : Nat} (hL : L ≤ 3072) (hi : i ≤ 4000) : ((Int32.ofNat L) - 6 < nI i) ↔ L < i + 6 := by
  rcases Nat.lt_or_ge L 6 with y | y
  · refine ⟨fun _ => by omega, fun _ => ?_⟩
    have p : (Int32.ofNat L) - 6 < 0 := by
      rcases (by omega : L = 0 ∨ L = 1 ∨ L = 2 ∨ L = 3 ∨ L = 4 ∨ L = 5) with rfl | rfl | rfl | rfl | rfl | rfl <;> decide
    exact Int32.lt_of_lt_of_le p (nI_pos' (by omega))
  · obtain ⟨l, rfl⟩ : ∃ l, L = l + 6 := ⟨L - 6, by omega⟩
    have e : (Int32.ofNat (l + 6)) - 6 = nI l := by
      rw [show Int32.ofNat (l + 6) = nI l + 6 from (nI_add l 6).symm]
      exact Int32.add_sub_cancel _ _
    rw [e, nI_ltI (by omega) (by omega)]
    omega

theorem law_round {L i : Nat} (hL : L ≤ 3072) (hi : i + 6 ≤ L) (xs : Nat → Int32) {m : mj_m} (h : Rel m) (K : Int32 × mj_m → Option (Int32 × mj_m)) : Ro K i (f_L_law_18 5000 L xs K (nI i, m)) := by
  have x0 : mj_xb L (nI i) = true := xb_n (by omega) hL
  have x1 : mj_xb L (nI i + 1) = true := by rw [show nI i + 1 = nI (i + 1) from nI_add i 1]; exact xb_n (by omega) hL
  have x2 : mj_xb L (nI i + 2) = true := by rw [show nI i + 2 = nI (i + 2) from nI_add i 2]; exact xb_n (by omega) hL
  have x3 : mj_xb L (nI i + 3) = true := by rw [show nI i + 3 = nI (i + 3) from nI_add i 3]; exact xb_n (by omega) hL
  have x4 : mj_xb L (nI i + 4) = true := by rw [show nI i + 4 = nI (i + 4) from nI_add i 4]; exact xb_n (by omega) hL
  have x5 : mj_xb L (nI i + 5) = true := by rw [show nI i + 5 = nI (i + 5) from nI_add i 5]; exact xb_n (by omega) hL
  unfold f_L_law_18
  dsimp only
  rw [if_neg (fun z => absurd ((end_n hL (by omega)).mp z) (by omega))]
  refine Ro_ck x0 ?_
  refine Ro_ite (fun _ => ?_) (fun _ => ?_)
  · refine Ro_ck x1 ?_
    refine Ro_ck x2 ?_
    refine Ro_ck x3 ?_
    exact Ro_B (ca_row h (N := 5000) (by decide) _ _ _)
  refine Ro_ite (fun _ => ?_) (fun _ => ?_)
  · refine Ro_ck x1 ?_
    refine Ro_ck x2 ?_
    refine Ro_ck x3 ?_
    refine Ro_ck x4 ?_
    exact Ro_B (ca_set h 5000 _ _ _)
  refine Ro_ite (fun _ => ?_) (fun _ => ?_)
  · refine Ro_ck x1 ?_
    refine Ro_ck x2 ?_
    refine Ro_ck x3 ?_
    refine Ro_ck x4 ?_
    refine Ro_ck x5 ?_
    exact Ro_B (ca_copy h (N := 5000) (by decide) _ _ _ _ _)
  refine Ro_ite (fun _ => ?_) (fun _ => ?_)
  · refine Ro_ck x1 ?_
    refine Ro_ck x2 ?_
    exact Ro_Q h (ca_element h 5000 _ _)
  refine Ro_ite (fun _ => ?_) (fun _ => ?_)
  · refine Ro_ck x1 ?_
    refine Ro_ck x2 ?_
    refine Ro_ck x3 ?_
    exact Ro_B (ca_rule h (N := 5000) (by decide) _ _ _)
  refine Ro_ite (fun _ => ?_) (fun _ => ?_)
  · refine Ro_ck x1 ?_
    exact Ro_P h (ca_holds h 5000 _)
  refine Ro_ite (fun _ => ?_) (fun _ => ?_)
  · refine Ro_ck x1 ?_
    refine Ro_ck x2 ?_
    exact Ro_B (ca_says h (N := 5000) (by decide) _ _)
  refine Ro_ite (fun _ => ?_) (fun _ => ?_)
  · refine Ro_ck x1 ?_
    refine Ro_ck x2 ?_
    exact Ro_B (ca_street h 5000 _ _)
  refine Ro_ite (fun _ => ?_) (fun _ => ?_)
  · refine Ro_ck x1 ?_
    refine Ro_ck x2 ?_
    refine Ro_ck x3 ?_
    refine Ro_ck x4 ?_
    refine Ro_ck x5 ?_
    exact Ro_B (ca_house h 5000 _ _ _ _ _)
  refine Ro_ite (fun _ => ?_) (fun _ => ?_)
  · refine Ro_ck x1 ?_
    refine Ro_ck x2 ?_
    refine Ro_ck x3 ?_
    exact Ro_B (ca_houses h (N := 5000) (by decide) _ _ _)
  refine Ro_ite (fun _ => ?_) (fun _ => ?_)
  · refine Ro_ck x1 ?_
    refine Ro_ck x2 ?_
    exact Ro_B (ca_houseOf h 5000 _ _)
  refine Ro_ite (fun _ => ?_) (fun _ => ?_)
  · refine Ro_ck x1 ?_
    refine Ro_ck x2 ?_
    exact Ro_B (ca_front h 5000 _ _)
  refine Ro_ite (fun _ => ?_) (fun _ => ?_)
  · refine Ro_ck x1 ?_
    refine Ro_ck x2 ?_
    exact Ro_B (ca_next h 5000 _ _)
  refine Ro_ite (fun _ => ?_) (fun _ => ?_)
  · refine Ro_ck x1 ?_
    refine Ro_ck x2 ?_
    refine Ro_ck x3 ?_
    exact Ro_B (ca_alter h 5000 _ _ _)
  refine Ro_ite (fun _ => ?_) (fun _ => ?_)
  · refine Ro_ck x1 ?_
    refine Ro_ck x2 ?_
    exact Ro_prop h x1 x2
  refine Ro_ite (fun _ => ?_) (fun _ => ?_)
  · refine Ro_ck x1 ?_
    refine Ro_ck x2 ?_
    exact Ro_B (ca_shake h 5000 _ _)
  refine Ro_ite (fun _ => ?_) (fun _ => ?_)
  · refine Ro_ck x1 ?_
    refine Ro_ck x2 ?_
    exact Ro_B (ca_ask h 5000 _ _)
  refine Ro_ite (fun _ => ?_) (fun _ => ?_)
  · refine Ro_ck x1 ?_
    exact Ro_B (ca_town h (N := 5000) (by decide) _)
  refine Ro_ite (fun _ => ?_) (fun _ => ?_)
  · exact Ro_P h (ca_fault h 5000)
  refine Ro_ite (fun _ => ?_) (fun _ => ?_)
  · refine Ro_ck x1 ?_
    refine Ro_ck x2 ?_
    exact Ro_B (ca_falls h 5000 _ _)
  refine Ro_ite (fun _ => ?_) (fun _ => ?_)
  · refine Ro_ck x1 ?_
    exact Ro_B (ca_cut h (N := 5000) (by decide) _)
  refine Ro_ite (fun _ => ?_) (fun _ => ?_)
  · refine Ro_ck x1 ?_
    refine Ro_ck x2 ?_
    exact Ro_L (ca_lost h (N := 5000) (by decide) _ _)
  refine Ro_ite (fun _ => ?_) (fun _ => ?_)
  · refine Ro_ck x1 ?_
    refine Ro_ck x2 ?_
    exact Ro_L (ca_dead h (N := 5000) (by decide) _ _)
  refine Ro_ite (fun _ => ?_) (fun _ => ?_)
  · refine Ro_ck x1 ?_
    refine Ro_ck x2 ?_
    exact Ro_L (ca_shuts h (N := 5000) (by decide) _ _)
  refine Ro_ite (fun _ => ?_) (fun _ => ?_)
  · exact Ro_L (ca_mean h (N := 5000) (by decide))
  refine Ro_ite (fun _ => ?_) (fun _ => ?_)
  · refine Ro_ck x1 ?_
    exact Ro_L (ca_worth h (N := 5000) (by decide) _)
  refine Ro_ite (fun _ => ?_) (fun _ => ?_)
  · exact Ro_B (ca_which h (N := 5000) (by decide))
  refine Ro_ite (fun _ => ?_) (fun _ => ?_)
  · refine Ro_ck x1 ?_
    refine Ro_ck x2 ?_
    exact Ro_B (ca_order h (N := 5000) (by decide) _ _)
  refine Ro_ite (fun _ => ?_) (fun _ => ?_)
  · refine Ro_ck x1 ?_
    refine Ro_ck x2 ?_
    exact Ro_L (ca_plan h (N := 5000) (by decide) _ _)
  refine Ro_ite (fun _ => ?_) (fun _ => ?_)
  · refine Ro_ck x1 ?_
    refine Ro_ck x2 ?_
    exact Ro_B (ca_steps h (N := 5000) (by decide) _ _)
  refine Ro_ite (fun _ => ?_) (fun _ => ?_)
  · refine Ro_ck x1 ?_
    refine Ro_ck x2 ?_
    exact Ro_L (ca_judge h (N := 5000) (by decide) _ _)
  refine Ro_ite (fun _ => ?_) (fun _ => ?_)
  · refine Ro_ck x1 ?_
    exact Ro_L (ca_best h (N := 5000) (by decide) _)
  refine Ro_ite (fun _ => ?_) (fun _ => ?_)
  · refine Ro_ck x1 ?_
    refine Ro_ck x2 ?_
    exact Ro_B (ca_first h (N := 5000) (by decide) _ _)
  refine Ro_ite (fun _ => ?_) (fun _ => ?_)
  · refine Ro_ck x1 ?_
    refine Ro_ck x2 ?_
    exact Ro_L (ca_gap h (N := 5000) (by decide) _ _)
  refine Ro_ite (fun _ => ?_) (fun _ => ?_)
  · refine Ro_ck x1 ?_
    exact Ro_L (ca_bound h (N := 5000) (by decide) _)
  refine Ro_ite (fun _ => ?_) (fun _ => ?_)
  · refine Ro_ck x1 ?_
    exact Ro_B (ca_head h (N := 5000) (by decide) _)
  refine Ro_ite (fun _ => ?_) (fun _ => ?_)
  · refine Ro_ck x1 ?_
    exact Ro_B (ca_narrow h (N := 5000) (by decide) _)
  refine Ro_ite (fun _ => ?_) (fun _ => ?_)
  · refine Ro_ck x1 ?_
    refine Ro_ck x2 ?_
    exact Ro_B (ca_years h (N := 5000) (by decide) _ _)
  refine Ro_ite (fun _ => ?_) (fun _ => ?_)
  · refine Ro_ck x1 ?_
    exact Ro_B (ca_seed h 5000 _)
  refine Ro_ite (fun _ => ?_) (fun _ => ?_)
  · refine Ro_ck x1 ?_
    refine Ro_ck x2 ?_
    refine Ro_ck x3 ?_
    exact Ro_B (ca_act h 5000 _ _ _)
  refine Ro_ite (fun _ => ?_) (fun _ => ?_)
  · refine Ro_ck x1 ?_
    exact Ro_P h (ca_trace h 5000 _)
  refine Ro_ite (fun _ => ?_) (fun _ => ?_)
  · exact Ro_B (ca_image h (N := 5000) (by decide))
  refine Ro_ite (fun _ => ?_) (fun _ => ?_)
  · exact Ro_B (ca_restore h (N := 5000) (by decide))
  refine Ro_ite (fun _ => ?_) (fun _ => ?_)
  · refine Ro_ck x1 ?_
    exact Ro_P h (ca_status h (N := 5000) (by decide) _)
  exact Ro_E h
theorem law_lp {L : Nat} (hL : L ≤ 3072) (xs : Nat → Int32) : ∀ d i n (m : mj_m), d < n → L < i + 6 * (d + 1) → i ≤ 4000 → Rel m → ∃ m', mj_lp n (f_L_law_18 5000 L xs) (nI i, m) = some (1, m') := by
  intro d
  induction d with
  | zero =>
    intro i n m h1 h2 h3 h
    obtain ⟨n, rfl⟩ : ∃ k, n = k + 1 := ⟨n - 1, by omega⟩
    refine ⟨m, ?_⟩
    show f_L_law_18 5000 L xs _ (nI i, m) = _
    unfold f_L_law_18
    dsimp only
    rw [if_pos ((end_n hL h3).mpr (by omega))]
  | succ d ih =>
    intro i n m h1 h2 h3 h
    obtain ⟨n, rfl⟩ : ∃ k, n = k + 1 := ⟨n - 1, by omega⟩
    rcases Nat.lt_or_ge L (i + 6) with y | y
    · refine ⟨m, ?_⟩
      show f_L_law_18 5000 L xs _ (nI i, m) = _
      unfold f_L_law_18
      dsimp only
      rw [if_pos ((end_n hL h3).mpr y)]
    · obtain ⟨m1, r, e⟩ := law_round hL y xs h (mj_lp n (f_L_law_18 5000 L xs))
      obtain ⟨m', e'⟩ := ih (i + 6) n m1 (by omega) (by omega) (by omega) r
      refine ⟨m', ?_⟩
      show f_L_law_18 5000 L xs (mj_lp n (f_L_law_18 5000 L xs)) (nI i, m) = _
      rw [e, show nI i + 6 = nI (i + 6) from nI_add i 6]
      exact e'
/-! THE LAW AS A FUNCTION ANSWERS 1 -/
theorem law_ok {L : Nat} (hL : L ≤ 3072) (xs : Nat → Int32) : ∃ m', mj_lp 5000 (f_L_law_18 5000 L xs) (0, mj_m1) = some (1, m') := law_lp hL xs 512 0 5000 mj_m1 (by omega) (by omega) (by omega) Rel_m1
