/-! THE CALLS, further: lost, dead, shuts, mean -/
def tS (t : aT) (st : Nat → Nat) : aT := fun f i => if f = 7 then st i else t f i
theorem tS_o (t : aT) (st : Nat → Nat) {f : Nat} (h : f ≠ 7) : tS t st f = t f := funext (fun _ => if_neg h)
theorem tS_7 (t : aT) (st : Nat → Nat) : tS t st 7 = st := rfl
theorem Good_tS {t : aT} {st : Nat → Nat} (h : Good t) (hs : ∀ i, i < t 13 1 → st i ≤ 2) : Good (tS t st) := by
  obtain ⟨g1, g2, g3, g4⟩ := h
  refine ⟨g1, fun i hi => ?_, g3, g4⟩
  obtain ⟨a0, a1, a2, a3, a4, a5, a6, a7, a8⟩ := g2 i hi
  exact ⟨a0, a1, a2, a3, a4, a5, a6, hs i hi, a8⟩
theorem Rep_tS {m m' : mj_m} {t : aT} {u : Nat → Int32} {st : Nat → Nat} (hG : Good t) (g : Rep (mg m) t u) (e : ∀ a k, okM a k → a ≠ 108 → m'.1 a k = m.1 a k) (hs : ∀ i, i < t 13 1 → m'.1 108 i = nI (st i)) : Rep (mg m') (tS t st) u := by
  have gh := GH hG
  have gS := GS hG
  have gK := GK hG
  have same : ∀ f i, dm f i → f ≠ 7 → mg m' f i = mg m f i := by
    intro f i hd hf
    have r := mA_rng hd
    refine e _ _ (by unfold okM; omega) ?_
    rcases mA_fm hd with ⟨_, q⟩ | ⟨_, q⟩ | ⟨_, q⟩ | ⟨_, q⟩ | ⟨_, q⟩ | ⟨_, q⟩ | ⟨_, q⟩ <;> rw [q] <;> dsimp only <;> omega
  obtain ⟨h1, h2, h3, h4, h5⟩ := g
  refine ⟨fun i hi => (same 13 i ⟨by omega, by simpa using hi⟩ (by omega)).trans (h1 i hi), fun i hi => (same 14 i ⟨by omega, by simpa using hi⟩ (by omega)).trans (h2 i hi), fun f hf i hi => ?_, fun f hf i hi => ?_, fun f hf i hi => ?_⟩
  · have hi' : i < t 13 1 := hi
    by_cases q : f = 7
    · subst q
      show m'.1 108 i = nI (st i) - 0
      rw [hs i hi', Int32.sub_zero]
    · rw [same f i ⟨by omega, by rw [if_pos hf]; omega⟩ q, tS_o t st q]; exact h3 f hf i hi'
  · have hi' : i < t 13 0 := hi
    rw [same f i ⟨by omega, by rw [if_neg (by omega), if_pos (by omega)]; omega⟩ (by omega), tS_o t st (by omega)]; exact h4 f hf i hi'
  · have hi' : i < t 13 2 := hi
    rw [same f i ⟨by omega, by rw [if_neg (by omega), if_neg (by omega), if_pos (by omega)]; omega⟩ (by omega), tS_o t st (by omega)]; exact h5 f hf i hi'
theorem endsN_c {t t' : aT} (h : ∀ f, f ≠ 7 → t' f = t f) (i : Nat) : endsN t' i = endsN t i := by unfold endsN; rw [h 9 (by decide), h 10 (by decide)]
theorem stp_c {t t' : aT} (h : ∀ f, f ≠ 7 → t' f = t f) (b i r : Nat) : stp t' b i r = stp t b i r := by unfold stp; rw [endsN_c h]
theorem passN_c {t t' : aT} (h : ∀ f, f ≠ 7 → t' f = t f) (b n r : Nat) : passN t' b n r = passN t b n r := by
  induction n with
  | zero => rfl
  | succ n ih => show stp t' b n (passN t' b n r) = stp t b n (passN t b n r); rw [ih, stp_c h]
theorem pwN_c {t t' : aT} (h : ∀ f, f ≠ 7 → t' f = t f) (b p : Nat) : pwN t' b p = pwN t b p := by
  induction p with
  | zero => rfl
  | succ p ih => show passN t' b (t' 13 0) (pwN t' b p) = passN t b (t 13 0) (pwN t b p); rw [ih, passN_c h, h 13 (by decide)]
theorem cutN_c {t t' : aT} (h : ∀ f, f ≠ 7 → t' f = t f) (b : Nat) : cutN t' b = cutN t b := by unfold cutN; rw [pwN_c h]
theorem shP_c {t t' : aT} (h : ∀ f, f ≠ 7 → t' f = t f) (P : Nat → Bool) (n : Nat) : shP t' P n = shP t P n := by
  induction n with
  | zero => rfl
  | succ n ih => rw [shP_s, shP_s, ih, h 5 (by decide)]
theorem cutP_c {t t' : aT} (h : ∀ f, f ≠ 7 → t' f = t f) : cutP t' = cutP t := by
  funext P c
  unfold cutP
  rw [h 13 (by decide), shP_c h, cutN_c h]
theorem fN_c {t t' : aT} (h : ∀ f, f ≠ 7 → t' f = t f) (st : Nat → Nat) : fN t' st = fN t st := by
  funext a k
  unfold fN rsN
  rw [h 6 (by decide), h 1 (by decide), h 12 (by decide), h 8 (by decide)]
theorem SVal_c {t t' : aT} (h : ∀ f, f ≠ 7 → t' f = t f) (st : Nat → Nat) (k : Nat) (P : Nat → Int64) (C : Int64) (base : W1) : SVal t' st k P C base = SVal t st k P C base := by
  unfold SVal
  rw [fN_c h, h 13 (by decide), h 0 (by decide), cutP_c h]
theorem MV_c {t t' : aT} (h : ∀ f, f ≠ 7 → t' f = t f) (st : Nat → Nat) (P : Nat → Int64) (C : Int64) (base : W1) (n : Nat) : MV t' st P C base n = MV t st P C base n := by
  induction n with
  | zero => rfl
  | succ n ih =>
    show (if t' 11 n = 0 then MV t' st P C base n else MV t' st P C base n + lN (t' 11 n) * SVal t' st n P C base) = (if t 11 n = 0 then MV t st P C base n else MV t st P C base n + lN (t 11 n) * SVal t st n P C base)
    rw [ih, SVal_c h, h 11 (by decide)]
theorem pyN_c {t t' : aT} (h : ∀ f, f ≠ 7 → t' f = t f) : pyN t' = pyN t := by
  funext a
  unfold pyN
  rw [h 13 (by decide), h 2 (by decide), h 3 (by decide)]
/-- the mean of a year by such steps -/
def YM (t : aT) (st : Nat → Nat) : Int64 := MV t st (fun h => lN (pyN t h)) (lN (t 13 4)) zW (t 13 2)
theorem YM_c {t t' : aT} (h : ∀ f, f ≠ 7 → t' f = t f) (st : Nat → Nat) : YM t' st = YM t st := by
  unfold YM
  rw [MV_c h, pyN_c h, h 13 (by decide)]
def WY (m : mj_m) (t : aT) : Prop := Wst m t (pyN t) (lN (t 13 4)) (fun s => hmL (fun h => lN (pyN t h)) (lN (t 13 4)) t zW (LT t) (mem (LT t) s))
theorem WY_e {m m' : mj_m} {t : aT} (h : WY m t) (e1 : ∀ a k, 36 ≤ a → a ≤ 41 → a ≠ 39 → m'.1 a k = m.1 a k) (e2 : ∀ k, m'.2 42 k = m.2 42 k) : WY m' t := by
  obtain ⟨w1, w2, w3, w4, w5, w6⟩ := h
  exact ⟨by rw [e1 36 9 (by omega) (by omega) (by omega)]; exact w1, by rw [e1 36 10 (by omega) (by omega) (by omega)]; exact w2, fun i x hi hx => by rw [e1 37 i (by omega) (by omega) (by omega)]; exact w3 i x hi hx, fun i hi => by rw [e1 38 i (by omega) (by omega) (by omega)]; exact w4 i hi, fun s hs => by rw [e1 41 s (by omega) (by omega) (by omega)]; exact w5 s hs, fun s hs => by rw [e2 s]; exact w6 s hs⟩
theorem meanY8 {m : mj_m} {t : aT} {u : Nat → Int32} (hG : Good t) (g : Rep (cg m 1 8) t u) (w : WY m t) {A : Nat} {st : Nat → Nat} (hA : A ≠ 39) (hs : StA m A t st) {N : Nat} (hN : 1100 ≤ N) : ∃ m', f_X2_meanBy N A m = some (YM t st, m') ∧ Os m m' :=
  mean8 hG g (fun _ hh => pyN_le hG hh) (fun _ _ _ => rfl) w (fun _ _ => rfl) hA hs hN
def WZ (m : mj_m) (t : aT) : Prop := ∀ r, r < 2 ^ t 13 1 → m.2 122 r = Wn (fun h => lN (pyN t h)) (lN (t 13 4)) (t 0) (cutP t) zW (t 13 1) r.testBit
theorem WZ_c {m m' : mj_m} {t t' : aT} (h : ∀ f, f ≠ 7 → t' f = t f) (e : ∀ k, m'.2 122 k = m.2 122 k) (w : WZ m t) : WZ m' t' := by
  unfold WZ
  rw [h 13 (by decide), h 0 (by decide), cutP_c h, pyN_c h]
  intro r hr
  rw [e]; exact w r hr
theorem worthsY9 {m : mj_m} {t : aT} {u : Nat → Int32} (hG : Good t) (g : Rep (mg m) t u) {N : Nat} (hN : 1100 ≤ N) : ∃ m', f_X9_worthsBy N 2 1 m = some m' ∧ WZ m' t ∧ m'.1 = m.1 ∧ (∀ A K, A ≠ 122 → m'.2 A K = m.2 A K) := by
  have gh := GH hG
  have h5 := hG.1.2.2.2.2.2
  refine worths9 hG g 2 (pe := pyN t) (fun _ hh => pyN_le hG hh) (fun m' e h hh => ?_) (Or.inr ⟨rfl, rfl⟩) hN
  unfold f_X9_people
  rw [if_neg (by decide), if_neg (by decide), mj_ck_t (bb_103 (by omega)), mj_ck_t (bb_104 (by omega)), nI_clamp (by omega), e, y_daypart g, y_day g hh, y_night g hh, ten_sub h5, nI_mul, nI_mul, nI_add]
  rfl
theorem meanY9 {m : mj_m} {t : aT} {u : Nat → Int32} (hG : Good t) (g : Rep (mg m) t u) (w : WZ m t) {N : Nat} (hN : 1100 ≤ N) : ∃ m', f_X9_meanNow N m = some (YM t (t 7), m') ∧ m'.1 = m.1 ∧ (∀ A K, A ≠ 121 → m'.2 A K = m.2 A K) :=
  mean9 hG g (St9 hG g) w hN
theorem Eq_M {m m' : mj_m} (e1 : m'.1 = m.1) (e2 : ∀ A K, A ≠ 121 → A ≠ 122 → m'.2 A K = m.2 A K) : Eqs okA m m' := ⟨fun _ _ _ => by rw [e1], fun a k q => e2 a k (by unfold okL at q; omega) (by unfold okL at q; omega)⟩
theorem Od_g {m m' : mj_m} {t : aT} {u : Nat → Int32} (hG : Good t) (h : Rep (mg m) t u) (e : Od m m') : Rep (mg m') t u := RT_m hG h (fun a k q => e.1 a k (by unfold okM at q; omega))
def lostG (N : Nat) (v w v2 : Int32) (m : mj_m) : Option (Int64 × mj_m) := (f_X9_isShake N v m).bind (fun r1 => if r1 = 0 then ((f_X9_no N (-1 : Int32) m).bind (fun r3 => some (r3.1.toInt64, r3.2))) else (if w < 0 then ((f_X9_no N (-6 : Int32) m).bind (fun r1 => some (r1.1.toInt64, r1.2))) else (if w ≤ 1 then ((f_X9_worthsBy N w v2 m).bind (fun r5 => (f_X9_lostBy N v r5).bind (fun r6 => some (r6.1, r6.2)))) else ((f_X9_no N (-6 : Int32) m).bind (fun r1 => some (r1.1.toInt64, r1.2))))))
theorem ca_sum {m : mj_m} (h : Rel m) {N : Nat} (hN : 1100 ≤ N) (v w v3 v2 : Int32) (hC : ∀ t u, RT m t u → (v2 = 0 ∧ v3.toInt64 = 0) ∨ (v2 = 1 ∧ v3.toInt64 = lN (t 13 4))) : BothL (f_X8_sumOf N v w v3) (lostG N v w v2) m := by
  obtain ⟨t, u, h1⟩ := h.1
  have hG := h1.1
  have gh := GH hG
  rcases isK8 h1 N v with ⟨a1, a2⟩ | ⟨k, hk, rfl, a1⟩
  · refine ⟨(-1 : Int32).toInt64, rfu m 1, _, ?_, ?_, Rel_rf h 1⟩
    · unfold f_X8_sumOf; rw [a1, bind_some', if_pos rfl, rf8_1]; rfl
    · unfold lostG; rw [isK9_n (RT_rfu h1 1) N a2, bind_some', if_pos rfl, rf9_1]; rfl
  have main : ∀ pe : Nat → Nat, (∀ h, h < t 13 1 → (1 - w) * nI (t 2 h) + w * nI (t 3 h) = nI (pe h) ∧ pe h ≤ 990) → (∀ m' : mj_m, Rep (mg m') t u → ∀ h, h < t 13 1 → f_X9_people N (nI h) w m' = some (nI (pe h))) → ∃ (x : Int64) (m1 m2 : mj_m), f_X8_sumOf_35 N (nI k) w v3 m = some (x, m1) ∧ (f_X9_worthsBy N w v2 m1).bind (fun r5 => (f_X9_lostBy N (nI k) r5).bind (fun r6 => some (r6.1, r6.2))) = some (x, m2) ∧ f_X9_isShake N (nI k) m1 = some 1 ∧ Rel m2 := by
    intro pe hp8 hp9
    obtain ⟨m1, b1, b2, b3⟩ := weigh8 hG h1.2.1 v3 (1 - w) w hp8 hN
    have g1 := Od_c hG h1.2.1 b3
    obtain ⟨m2, c1, c2⟩ := sum8 hG g1 (fun h hh => (hp8 h hh).2) (base := zW) (fun _ _ _ => rfl) b2 (fun _ _ => rfl) (by decide) (St5 hG g1) hk hN
    have o2 := Od_t b3 (Os_O c2)
    have r2 : RT m2 t u := RT_S h1 (Od_E o2)
    obtain ⟨m3, d1, d2, d3, d4⟩ := worths9 (N := N) hG r2.2.2 w (fun h hh => (hp8 h hh).2) (fun m' e h hh => hp9 m' (RT_m hG r2.2.2 (fun a k _ => by rw [e])) h hh) (hC t u h1) hN
    have g3 : Rep (mg m3) t u := RT_m hG r2.2.2 (fun a k _ => by rw [d3])
    obtain ⟨m4, e1, e2, e3⟩ := lost9 hG g3 (St9 hG g3) hk d2 hN
    refine ⟨SVal t (t 7) k (fun h => lN (pe h)) v3.toInt64 zW, m2, m4, ?_, ?_, isK9' r2 N hk, Rel_S h (Eqs_t (Od_E o2) (Eq_M (e2.trans d3) (fun A K q1 q2 => (e3 A K q1).trans (d4 A K q2))))⟩
    · unfold f_X8_sumOf_35; rw [b1, bind_some', c1]; rfl
    · rw [d1, bind_some', e1]; rfl
  by_cases w0 : w = 0
  · subst w0
    obtain ⟨x, m1, m2, r1, r2, r3, r4⟩ := main (t 2) (fun h hh => ⟨(by intro a b; grind : ∀ a b : Int32, (1 - 0) * a + 0 * b = a) _ _, by have := (hG.2.1 h hh).2.2.1; omega⟩) (fun m' g h hh => by unfold f_X9_people; rw [if_pos rfl, mj_ck_t (bb_103 (by omega)), nI_clamp (by omega), y_day g hh])
    refine ⟨x, m1, m2, ?_, ?_, r4⟩
    · unfold f_X8_sumOf; rw [a1, bind_some', if_neg (by decide), if_pos rfl]; exact r1
    · unfold lostG; rw [r3, bind_some', if_neg (by decide), if_neg (by decide), if_pos (by decide)]; exact r2
  by_cases w1 : w = 1
  · subst w1
    obtain ⟨x, m1, m2, r1, r2, r3, r4⟩ := main (t 3) (fun h hh => ⟨(by intro a b; grind : ∀ a b : Int32, (1 - 1) * a + 1 * b = b) _ _, by have := (hG.2.1 h hh).2.2.2.1; omega⟩) (fun m' g h hh => by unfold f_X9_people; rw [if_neg (by decide), if_pos rfl, mj_ck_t (bb_104 (by omega)), nI_clamp (by omega), y_night g hh])
    refine ⟨x, m1, m2, ?_, ?_, r4⟩
    · unfold f_X8_sumOf; rw [a1, bind_some', if_neg (by decide), if_neg (by decide), if_pos rfl]; exact r1
    · unfold lostG; rw [r3, bind_some', if_neg (by decide), if_neg (by decide), if_pos (by decide)]; exact r2
  · refine ⟨(-6 : Int32).toInt64, rfu m 6, _, ?_, ?_, Rel_rf h 6⟩
    · unfold f_X8_sumOf; rw [a1, bind_some', if_neg (by decide), if_neg w0, if_neg w1, rf8_6]; rfl
    · unfold lostG
      rw [isK9' (RT_rfu h1 6) N hk, bind_some', if_neg (by decide), rf9_6]
      by_cases y : w < 0
      · rw [if_pos y]; rfl
      · rw [if_neg y, if_neg]
        · rfl
        · intro z
          obtain ⟨n, n1, n2, e⟩ := mid (x := w) (a := 0) (b := 1) y (fun q => by rw [Int32.lt_iff_toInt_lt] at q; rw [Int32.le_iff_toInt_le] at z; have : (nI 1).toInt = (1 : Int32).toInt := rfl; omega) (by decide)
          rcases (by omega : n = 0 ∨ n = 1) with rfl | rfl
          · exact w0 e
          · exact w1 e
theorem ca_lost {m : mj_m} (h : Rel m) {N : Nat} (hN : 1100 ≤ N) (v w : Int32) : BothL (f_X8_lost N v w) (f_X9_lost N v w) m := by
  obtain ⟨x, m1, m2, r1, r2, r3⟩ := ca_sum h hN v w (m.1 1 10) 1 (fun t u h1 => Or.inr ⟨rfl, by rw [c_shut h1, nI_l (by have := h1.1.1.2.2.2.2.1; omega)]⟩)
  refine ⟨x, m1, m2, ?_, r2, r3⟩
  unfold f_X8_lost; rw [r1]; rfl
theorem ca_dead {m : mj_m} (h : Rel m) {N : Nat} (hN : 1100 ≤ N) (v w : Int32) : BothL (f_X8_dead N v w) (f_X9_dead N v w) m := by
  obtain ⟨x, m1, m2, r1, r2, r3⟩ := ca_sum h hN v w 0 0 (fun t u h1 => Or.inl ⟨rfl, by decide⟩)
  refine ⟨x, m1, m2, ?_, r2, r3⟩
  unfold f_X8_dead; rw [r1]; rfl
theorem ca_mean {m : mj_m} (h : Rel m) {N : Nat} (hN : 1100 ≤ N) : BothL (f_X8_mean N) (f_X9_mean N) m := by
  obtain ⟨t, u, h1⟩ := h.1
  have hG := h1.1
  obtain ⟨m1, b1, b2, b3⟩ := weighYear8 hG h1.2.1 hN
  have g1 := Od_c hG h1.2.1 b3
  obtain ⟨m2, c1, c2⟩ := meanY8 hG g1 b2 (by decide) (St5 hG g1) hN
  have o2 := Od_t b3 (Os_O c2)
  have r2 : RT m2 t u := RT_S h1 (Od_E o2)
  obtain ⟨m3, d1, d2, d3, d4⟩ := worthsY9 hG r2.2.2 hN
  have g3 : Rep (mg m3) t u := RT_m hG r2.2.2 (fun a k _ => by rw [d3])
  obtain ⟨m4, e1, e2, e3⟩ := meanY9 hG g3 d2 hN
  refine ⟨YM t (t 7), m2, m4, ?_, ?_, Rel_S h (Eqs_t (Od_E o2) (Eq_M (e2.trans d3) (fun A K q1 q2 => (e3 A K q1).trans (d4 A K q2))))⟩
  · unfold f_X8_mean; rw [b1, bind_some', c1]; rfl
  · unfold f_X9_mean f_X9_meanOf; rw [d1, bind_some', e1]; rfl
theorem hmL_0 (C : Int64) (t : aT) (base : W1) (s : Nat → Bool) : ∀ l, hmL (fun _ => lN 0) C t base l s = base s := by
  intro l
  induction l with
  | nil => rfl
  | cons a l ih =>
    show hmL (fun _ => lN 0) C t base l s + wv (fun _ => lN 0) C (t 0) (cutP t) a s = base s
    rw [ih]
    have z : lN 0 = 0 := rfl
    unfold wv
    simp only [z]
    split
    · grind
    · split
      · grind
      · grind
theorem Wn_0 (C : Int64) (cor : Nat → Nat) (cut : (Nat → Bool) → Nat → Bool) (base : W1) (s : Nat → Bool) : ∀ n, Wn (fun _ => lN 0) C cor cut base n s = base s := by
  intro n
  induction n with
  | zero => rfl
  | succ n ih =>
    show 1 * Wn (fun _ => lN 0) C cor cut base n s + 1 * wv (fun _ => lN 0) C cor cut n s = base s
    rw [ih]
    have z : lN 0 = 0 := rfl
    unfold wv
    simp only [z]
    split
    · grind
    · split
      · grind
      · grind
theorem isC9' (N : Nat) {c : Nat} (hc : c < 8) (m : mj_m) : f_X9_isCorner N (nI c) m = some 1 := by
  unfold f_X9_isCorner f_X9_isCorner_14
  rw [if_neg (nI_pos (by omega)), if_neg (show ¬ 8 ≤ nI c from (nI_ge hc (by omega) : ¬ nI 8 ≤ nI c))]
theorem ca_shuts {m : mj_m} (h : Rel m) {N : Nat} (hN : 1100 ≤ N) (v w : Int32) : BothL (f_X8_shuts N v w) (f_X9_shuts N v w) m := by
  obtain ⟨t, u, h1⟩ := h.1
  have hG := h1.1
  have gh := GH hG
  have e8 : f_X8_shuts_18 N m = some ((-1 : Int32).toInt64, rfu m 1) := by unfold f_X8_shuts_18; rw [rf8_1]; rfl
  have e9 : f_X9_shuts_16 N (rfu m 1) = some ((-1 : Int32).toInt64, rfm (rfu m 1) 1) := by unfold f_X9_shuts_16; rw [rf9_1]; rfl
  rcases isC N v m with c1 | ⟨a, a1, rfl, c1⟩
  · refine ⟨(-1 : Int32).toInt64, rfu m 1, _, ?_, ?_, Rel_rf h 1⟩
    · unfold f_X8_shuts; rw [c1]; exact e8
    · unfold f_X9_shuts; rw [isC9 N v m, c1]; exact e9
  rcases isK8 h1 N w with ⟨b1, b2⟩ | ⟨k, hk, rfl, b1⟩
  · refine ⟨(-1 : Int32).toInt64, rfu m 1, _, ?_, ?_, Rel_rf h 1⟩
    · unfold f_X8_shuts; rw [c1, bind_some', if_neg (by decide), b1]; exact e8
    · unfold f_X9_shuts; rw [isC9' N a1, bind_some', if_neg (by decide), isK9_n (RT_rfu h1 1) N b2]; exact e9
  have p10 : 2 ^ t 13 1 ≤ 1024 := (Nat.pow_le_pow_right (by decide) gh : 2 ^ t 13 1 ≤ 2 ^ 10)
  obtain ⟨m1, C, x1, x2, x3⟩ := weighCut8 hG h1.2.1 a1 hN
  have g1 := Od_c hG h1.2.1 x3
  obtain ⟨m2, y1, y2⟩ := sum8 hG g1 (pe := fun _ => 0) (fun _ _ => by omega) (base := fun S => if cutP t S a = true then 1 else 0) (fun h s hf => by rw [cutP_ins t h s hf]) x2 (fun s hs => by rw [hmL_0, cutP_mem]) (by decide) (St5 hG g1) hk hN
  have o2 := Od_t x3 (Os_O y2)
  have r2 : RT m2 t u := RT_S h1 (Od_E o2)
  obtain ⟨m3, d1, d2, d3, d4⟩ := odds9 hG r2.2.2 (St9 hG r2.2.2) hk hN
  have g3 : Rep (mg m3) t u := RT_m hG r2.2.2 (fun a k _ => by rw [d3])
  refine ⟨SVal t (t 7) k (fun _ => lN 0) C (fun S => if cutP t S a = true then 1 else 0), m2, m3, ?_, ?_, Rel_S h (Eqs_t (Od_E o2) (Eq_M d3 (fun A K q1 q2 => d4 A K q1)))⟩
  · unfold f_X8_shuts; rw [c1, bind_some', if_neg (by decide), b1, bind_some', if_neg (by decide), x1, bind_some', y1]; rfl
  · have sum := sum_Ex (fun h => lN (fN t (t 7) h k)) (t 13 1) (fun r => if cutP t r.testBit a = true then 1 else 0) (Wn (fun _ => lN 0) C (t 0) (cutP t) (fun S => if cutP t S a = true then 1 else 0) (t 13 1)) (fun r hr => (Wn_0 C (t 0) (cutP t) (fun S => if cutP t S a = true then 1 else 0) r.testBit (t 13 1)).symm)
    unfold f_X9_shuts
    rw [isC9' N a1, bind_some', if_neg (by decide), isK9' r2 N hk, bind_some', if_neg (by decide), d1, bind_some']
    unfold SVal
    rw [← sum]
    refine lp_for (fun i => (sumL (fun s => odN (fun h => lN (fN t (t 7) h k)) (t 13 1) s * (if cutP t s.testBit a = true then 1 else 0)) i, nI i)) (c := 2 ^ t 13 1) (by omega) (fun i hi k' => ?_) (fun k' => ?_)
    · unfold f_X9_shuts_33 f_X9_shuts_68
      dsimp only
      rw [y_houses g3, n_shl _ (by omega), if_neg (nI_ge hi (by omega)), cut9 hG g3 i (by omega), bind_some', mj_ck_t (bb_121 (by omega)), nI_clamp (by omega), d2 i hi, mw_eq, mw_eq, mw_eq, nI_succ]
      show _ = k' (sumL _ i + odN (fun h => lN (fN t (t 7) h k)) (t 13 1) i * (if cutP t i.testBit a = true then 1 else 0), _)
      rw [cutP_set]
      by_cases y : (cutN t (shuN t i (t 13 1))).testBit a = true
      · rw [if_pos ((n_bit1 _ (by omega)).mpr y), if_pos y]
        exact congrArg (fun z => k' (z, _)) ((by intro a b; grind : ∀ a b : Int64, a + b = a + b * 1) _ _)
      · rw [if_neg (fun z => y ((n_bit1 _ (by omega)).mp z)), if_neg y]
        exact congrArg (fun z => k' (z, _)) ((by intro a b; grind : ∀ a b : Int64, a = a + b * 0) _ _)
    · unfold f_X9_shuts_33
      dsimp only
      rw [y_houses g3, n_shl _ (by omega), if_pos (nI_le (by omega) (by omega))]
