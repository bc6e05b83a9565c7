/-! THE CALLS, one by one: both answer alike, and stay side by side. First: seed, fault, ask, front, next, prop -/
theorem Rep_cu {m : mj_m} {t : aT} {u : Nat → Int32} {j : Nat} {v : Int32} (hG : Good t) (h : Rep (cg m 1 8) t u) (hj : j < 4) : Rep (cg (mj_wI m 1 (12 + j) v) 1 8) t (fun i => if i = j then v else u i) := by
  have e := gA_w (ad := cA 1 8) (m := m) (v := v) (f := 14) (i := j) (A := 1) (K := 12 + j) (fun _ _ _ _ => cA_inj rfl) ⟨by decide, by simpa using hj⟩ rfl
  refine Rep_u h hG (fun a b ha hd => (e a b hd).trans (if_neg (by omega))) (fun i hi => (e 14 i ⟨by decide, by simpa using hi⟩).trans ?_)
  by_cases q : i = j
  · rw [if_pos ⟨rfl, q⟩, if_pos q]
  · rw [if_neg (fun z => q z.2), if_neg q]; exact h.2.1 i hi
theorem Rep_mu {m : mj_m} {t : aT} {u : Nat → Int32} {j : Nat} {v : Int32} (hG : Good t) (h : Rep (mg m) t u) (hj : j < 4) : Rep (mg (mj_wI m 95 (6 + j) v)) t (fun i => if i = j then v else u i) := by
  have e := gA_w (ad := mA) (m := m) (v := v) (f := 14) (i := j) (A := 95) (K := 6 + j) (fun _ _ _ _ => mA_inj) ⟨by decide, by simpa using hj⟩ rfl
  refine Rep_u h hG (fun a b ha hd => (e a b hd).trans (if_neg (by omega))) (fun i hi => (e 14 i ⟨by decide, by simpa using hi⟩).trans ?_)
  by_cases q : i = j
  · rw [if_pos ⟨rfl, q⟩, if_pos q]
  · rw [if_neg (fun z => q z.2), if_neg q]; exact h.2.1 i hi
/-- a number of the town becomes another, in the class's cells; in the reference's -/
theorem Rep_cw {m : mj_m} {t : aT} {u : Nat → Int32} {f i v A K : Nat} {x : Int32} (hG : Good t) (h : Rep (cg m 1 8) t u) (hf : f < 13) (hd : dm f i) (e : cA 1 8 f i = (A, K)) (hx : x = nI v - (if f = 5 ∨ f = 6 then 1 else 0)) : Rep (cg (mj_wI m A K x) 1 8) (mj_up t f i v) u :=
  Rep_up h hG hf (gA_w (fun _ _ _ _ => cA_inj rfl) hd e) hx
theorem Rep_mw {m : mj_m} {t : aT} {u : Nat → Int32} {f i v A K : Nat} {x : Int32} (hG : Good t) (h : Rep (mg m) t u) (hf : f < 13) (hd : dm f i) (e : mA f i = (A, K)) (hx : x = nI v - (if f = 5 ∨ f = 6 then 1 else 0)) : Rep (mg (mj_wI m A K x)) (mj_up t f i v) u :=
  Rep_up h hG hf (gA_w (fun _ _ _ _ => mA_inj) hd e) hx
theorem Rep_csc {m : mj_m} {t : aT} {u : Nat → Int32} {i v : Nat} (hG : Good t) (h : Rep (cg m 1 8) t u) (hi : 3 ≤ i) (h6 : i < 6) : Rep (cg (mj_wI m 1 (6 + i) (nI v)) 1 8) (mj_up t 13 i v) u :=
  Rep_sc h hG hi (gA_w (ad := cA 1 8) (f := 13) (fun _ _ _ _ => cA_inj rfl) ⟨by decide, by simpa using h6⟩ rfl) rfl
theorem Rep_msc {m : mj_m} {t : aT} {u : Nat → Int32} {i v : Nat} (hG : Good t) (h : Rep (mg m) t u) (hi : 3 ≤ i) (h6 : i < 6) : Rep (mg (mj_wI m 95 i (nI v))) (mj_up t 13 i v) u :=
  Rep_sc h hG hi (gA_w (ad := mA) (f := 13) (fun _ _ _ _ => mA_inj) ⟨by decide, by simpa using h6⟩ rfl) rfl
/-- the one's write leaves the other's town -/
theorem Rep_cn {m : mj_m} {t : aT} {u : Nat → Int32} {a k : Nat} {v : Int32} (hG : Good t) (h : Rep (cg m 1 8) t u) (q : a = 0 ∨ 18 ≤ a) : Rep (cg (mj_wI m a k v) 1 8) t u :=
  Rep_same h hG (fun f i hd => gA_n (by have := cA_rng (b := 1) (d := 8) rfl hd; omega))
theorem Rep_mn {m : mj_m} {t : aT} {u : Nat → Int32} {a k : Nat} {v : Int32} (hG : Good t) (h : Rep (mg m) t u) (q : a < 95) : Rep (mg (mj_wI m a k v)) t u :=
  Rep_same h hG (fun f i hd => gA_n (by have := mA_rng hd; omega))
def Both (f g : mj_m → Option (Int32 × mj_m)) (m : mj_m) : Prop := ∃ v m1 m2, f m = some (v, m1) ∧ g m1 = some (v, m2) ∧ Rel m2
def BothL (f g : mj_m → Option (Int64 × mj_m)) (m : mj_m) : Prop := ∃ v m1 m2, f m = some (v, m1) ∧ g m1 = some (v, m2) ∧ Rel m2
theorem bind_some' {A B : Type} (a : A) (f : A → Option B) : (some a).bind f = f a := rfl
theorem RT_rfu {m : mj_m} {t : aT} {u : Nat → Int32} (h : RT m t u) (n : Nat) : RT (rfu m n) t u := RT_wI h (by omega)
theorem ca_seed {m : mj_m} (h : Rel m) (N : Nat) (v : Int32) : Both (f_X8_seed N v) (f_X9_seed N v) m := by
  obtain ⟨⟨t, u, h1⟩, h2, h3, h4, h5, h6, h7⟩ := h
  refine ⟨m.1 1 15, mj_wI m 1 15 v, mj_wI (mj_wI m 1 15 v) 95 9 v, rfl, ?_, ⟨t, fun i => if i = 3 then v else u i, ?_⟩, RP_wI (RP_wI h2 (by omega)) (by omega), RF_wI (RF_wI h3 (by omega)) (by omega), RR_wI (RR_wI h4 (by omega)) (by omega), RS_wI (RS_wI h5 (by omega)) (by omega), RA_wI (RA_wI h6 (by omega)) (by omega), RW_wI (RW_wI h7 (by omega)) (by omega)⟩
  · unfold f_X9_seed
    rw [mw_eq, mw_eq]
    rw [show (mj_wI m 1 15 v).1 95 9 = m.1 1 15 by simp only [wI_1, up_at]; rw [if_neg (by omega), m_seed h1, c_seed h1]]
  · exact ⟨h1.1, Rep_cn h1.1 (Rep_cu (j := 3) h1.1 h1.2.1 (by decide)) (by omega), Rep_mu (j := 3) h1.1 (Rep_mn h1.1 h1.2.2 (by decide)) (by decide)⟩
theorem ca_fault {m : mj_m} (h : Rel m) (N : Nat) : ∃ v, f_X8_fault N m = some v ∧ f_X9_fault N m = some v := by
  refine ⟨m.1 0 11, rfl, ?_⟩
  unfold f_X9_fault
  rw [show m.1 95 10 = m.1 0 11 from h.2.2.1]
