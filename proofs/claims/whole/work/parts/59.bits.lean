/-! SETS AS NUMBERS -/
theorem n_or (a b : Nat) : nI a ||| nI b = nI (a ||| b) := by
  apply Int32.toBitVec_inj.1
  show BitVec.ofNat 32 a ||| BitVec.ofNat 32 b = BitVec.ofNat 32 (a ||| b)
  apply BitVec.eq_of_getLsbD_eq
  intro i hi
  simp [hi]
theorem n_and (a b : Nat) : nI a &&& nI b = nI (a &&& b) := by
  apply Int32.toBitVec_inj.1
  show BitVec.ofNat 32 a &&& BitVec.ofNat 32 b = BitVec.ofNat 32 (a &&& b)
  apply BitVec.eq_of_getLsbD_eq
  intro i hi
  simp [hi]
theorem n_shl : ∀ a, a < 31 → (1 : Int32) <<< (nI a &&& 31) = nI (2 ^ a) := by decide +kernel
theorem n_sm : ∀ a, a < 32 → ((nI a &&& 31).toBitVec.smod 32).toNat = a := by decide +kernel
theorem n_bit (n : Nat) {i : Nat} (hi : i < 32) : (nI n >>> (nI i &&& 31)) &&& 1 = if n.testBit i = true then 1 else 0 := by
  apply Int32.toBitVec_inj.1
  rw [Int32.toBitVec_and, Int32.toBitVec_shiftRight]
  show (BitVec.sshiftRight (nI n).toBitVec ((nI i &&& 31).toBitVec.smod 32).toNat) &&& 1#32 = _
  rw [n_sm i hi, BitVec.and_one_eq_setWidth_ofBool_getLsbD, BitVec.getLsbD_sshiftRight]
  show BitVec.setWidth 32 (BitVec.ofBool (!decide (32 ≤ 0) && if i + 0 < 32 then (BitVec.ofNat 32 n).getLsbD (i + 0) else _)) = _
  rw [Nat.add_zero, if_pos hi, BitVec.getLsbD_ofNat, decide_eq_true hi, Bool.true_and]
  cases n.testBit i <;> rfl
theorem n_bit0 (n : Nat) {i : Nat} (hi : i < 32) : (nI n >>> (nI i &&& 31)) &&& 1 = 0 ↔ n.testBit i = false := by
  rw [n_bit n hi]
  cases n.testBit i
  · exact ⟨fun _ => rfl, fun _ => rfl⟩
  · exact ⟨fun z => absurd z (by decide), fun z => absurd z (by decide)⟩
theorem n_bit1 (n : Nat) {i : Nat} (hi : i < 32) : (nI n >>> (nI i &&& 31)) &&& 1 = 1 ↔ n.testBit i = true := by
  rw [n_bit n hi]
  cases n.testBit i
  · exact ⟨fun z => absurd z (by decide), fun z => absurd z (by decide)⟩
  · exact ⟨fun _ => rfl, fun _ => rfl⟩
theorem pw31 {a : Nat} (h : a < 31) : 2 ^ a < 2 ^ 31 := Nat.pow_lt_pow_right (by decide) h
theorem pw_lt {a b : Nat} (h : a < b) : 2 ^ a < 2 ^ b := Nat.pow_lt_pow_right (by decide) h
theorem n_rest : ∀ r, r < 256 → (255 : Int32) &&& (nI r ^^^ (-1)) = nI (255 ^^^ r) := by decide +kernel
/-! CUT: the corners that are reached, pass by pass -/
def endsN (t : aT) (i : Nat) : Nat := 2 ^ t 9 i ||| 2 ^ t 10 i
def stp (t : aT) (b i r : Nat) : Nat := if b.testBit i = false ∧ r &&& endsN t i ≠ 0 then r ||| endsN t i else r
def passN (t : aT) (b : Nat) : Nat → Nat → Nat
  | 0, r => r
  | n + 1, r => stp t b n (passN t b n r)
def pwN (t : aT) (b : Nat) : Nat → Nat
  | 0 => 1
  | p + 1 => passN t b (t 13 0) (pwN t b p)
def cutN (t : aT) (b : Nat) : Nat := 255 ^^^ pwN t b 7
def pc (r : Nat) : Nat := r % 2 + r / 2 % 2 + r / 4 % 2 + r / 8 % 2 + r / 16 % 2 + r / 32 % 2 + r / 64 % 2 + r / 128 % 2
theorem pc_le (r : Nat) : pc r ≤ 8 := by unfold pc; omega
theorem pc_ends : ∀ r, r < 256 → ∀ a, a < 8 → ∀ b, b < 8 → r ||| (2 ^ a ||| 2 ^ b) = r ∨ pc r < pc (r ||| (2 ^ a ||| 2 ^ b)) := by decide +kernel
theorem ends_lt {t : aT} (hG : Good t) {i : Nat} (hi : i < t 13 0) : endsN t i < 256 := by
  obtain ⟨h1, h2⟩ := hG.2.2.1 i hi
  have a1 := pw_lt h1
  have a2 := pw_lt h2
  exact Nat.or_lt_two_pow (n := 8) a1 a2
theorem stp_lt {t : aT} (hG : Good t) {b i r : Nat} (hi : i < t 13 0) (hr : r < 256) : stp t b i r < 256 := by
  unfold stp
  split
  · exact Nat.or_lt_two_pow (n := 8) hr (ends_lt hG hi)
  · exact hr
theorem pass_lt {t : aT} (hG : Good t) {b r : Nat} (hr : r < 256) : ∀ n, n ≤ t 13 0 → passN t b n r < 256 := by
  intro n
  induction n with
  | zero => intro _; exact hr
  | succ n ih => intro hn; exact stp_lt hG (by omega) (ih (by omega))
theorem pass_pc {t : aT} (hG : Good t) {b r : Nat} (hr : r < 256) : ∀ n, n ≤ t 13 0 → passN t b n r = r ∨ pc r < pc (passN t b n r) := by
  intro n
  induction n with
  | zero => intro _; exact Or.inl rfl
  | succ n ih =>
    intro hn
    have h1 := ih (by omega)
    have h2 := pass_lt (b := b) hG hr n (by omega)
    have h3 : stp t b n (passN t b n r) = passN t b n r ∨ pc (passN t b n r) < pc (stp t b n (passN t b n r)) := by
      unfold stp
      split
      · exact pc_ends _ h2 _ (hG.2.2.1 n (by omega)).1 _ (hG.2.2.1 n (by omega)).2
      · exact Or.inl rfl
    show stp t b n (passN t b n r) = r ∨ pc r < pc (stp t b n (passN t b n r))
    rcases h3 with h3 | h3
    · rw [h3]; exact h1
    · rcases h1 with h1 | h1
      · rw [h1] at h3 ⊢; exact Or.inr h3
      · exact Or.inr (by omega)
theorem pw_lt256 {t : aT} (hG : Good t) (b p : Nat) : pwN t b p < 256 := by
  induction p with
  | zero => exact (by decide : 1 < 256)
  | succ p ih => exact pass_lt hG ih _ (Nat.le_refl _)
theorem pw_fix {t : aT} {b p : Nat} (h : pwN t b (p + 1) = pwN t b p) : ∀ d, pwN t b (p + d) = pwN t b p := by
  intro d
  induction d with
  | zero => rfl
  | succ d ih =>
    show passN t b (t 13 0) (pwN t b (p + d)) = _
    rw [ih]; exact h
theorem pw_grow {t : aT} (hG : Good t) (b p : Nat) : (∃ q, q < p ∧ pwN t b (q + 1) = pwN t b q) ∨ p + 1 ≤ pc (pwN t b p) := by
  induction p with
  | zero => exact Or.inr (by show 1 ≤ pc 1; decide)
  | succ p ih =>
    rcases ih with ⟨q, h1, h2⟩ | ih
    · exact Or.inl ⟨q, by omega, h2⟩
    · rcases pass_pc (b := b) hG (pw_lt256 hG b p) _ (Nat.le_refl _) with h | h
      · exact Or.inl ⟨p, by omega, h⟩
      · exact Or.inr (by show p + 1 + 1 ≤ pc (passN t b (t 13 0) (pwN t b p)); omega)
theorem pw_7 {t : aT} (hG : Good t) (b : Nat) : pwN t b 8 = pwN t b 7 := by
  rcases pw_grow hG b 8 with ⟨q, h1, h2⟩ | h
  · have a := pw_fix h2 (8 - q)
    have b' := pw_fix h2 (7 - q)
    rw [show q + (8 - q) = 8 by omega] at a
    rw [show q + (7 - q) = 7 by omega] at b'
    rw [a, b']
  · have := pc_le (pwN t b 8); omega
theorem pw_at {t : aT} {b p : Nat} (hp : p ≤ 7) (h : pwN t b (p + 1) = pwN t b p) : pwN t b p = pwN t b 7 := by
  have a := pw_fix h (7 - p)
  rw [show p + (7 - p) = 7 by omega] at a
  exact a.symm
theorem cutN_lt {t : aT} (hG : Good t) (b : Nat) : cutN t b < 256 := Nat.xor_lt_two_pow (n := 8) (by decide) (pw_lt256 hG b 7)
theorem nI_z {n : Nat} (h : n < 2 ^ 31) : nI n = 0 ↔ n = 0 := nI_eq (b := 0) h (by decide)
/-- one pass of the class -/
theorem pass8 {m : mj_m} {t : aT} {u : Nat → Int32} (hG : Good t) (g : Rep (cg m 1 8) t u) {N0 : Nat} {k4 : Int32 × Int32 → Option Int32} {b p r : Nat} {v4 : Int32} (hr : r < 256) {N : Nat} (hN : 20 ≤ N) : mj_lp N (f_X7_cutCorners_16 N0 k4 (nI b) (nI p) v4 m) (nI r, 0) = if nI (passN t b (t 13 0) r) = v4 then f_X7_cutCorners_88 N0 (nI (passN t b (t 13 0) r)) m else k4 (nI (passN t b (t 13 0) r), nI (p + 1)) := by
  have gs := GS hG
  refine lp_for (fun i => (nI (passN t b i r), nI i)) (c := t 13 0) (by omega) (fun i hi k => ?_) (fun k => ?_)
  · obtain ⟨e1, e2⟩ := hG.2.2.1 i hi
    unfold f_X7_cutCorners_16
    dsimp only
    rw [x_streets g, if_neg (nI_ge hi (by omega)), mj_ck_t (bb_2 (by omega)), mj_ck_t (bb_3 (by omega)), nI_clamp (by omega), x_ea g hi, x_eb g hi, n_shl _ (by omega), n_shl _ (by omega), n_or, mw_eq]
    have pl := pass_lt (b := b) hG hr i (by omega)
    have el := ends_lt hG hi
    have al : passN t b i r &&& (2 ^ t 9 i ||| 2 ^ t 10 i) < 2 ^ 31 := Nat.lt_of_le_of_lt Nat.and_le_left (by omega)
    show _ = k (nI (stp t b i (passN t b i r)), nI (i + 1))
    unfold stp endsN f_X7_cutCorners_67
    simp only [mw_eq]
    by_cases q : b.testBit i = false
    · rw [if_pos ((n_bit0 b (by omega)).mpr q), n_and]
      by_cases y : passN t b i r &&& (2 ^ t 9 i ||| 2 ^ t 10 i) = 0
      · rw [if_pos ((nI_z al).mpr y), if_neg (fun z => z.2 y), nI_succ]
      · rw [if_neg (fun z => y ((nI_z al).mp z)), if_pos ⟨q, y⟩, n_or, nI_succ]
    · rw [if_neg (fun z => q ((n_bit0 b (by omega)).mp z)), if_neg (fun z => q z.1), nI_succ]
  · unfold f_X7_cutCorners_16
    dsimp only
    rw [x_streets g, if_pos (nI_le (by omega) (by omega)), mw_eq, nI_succ]
theorem cut8 {m : mj_m} {t : aT} {u : Nat → Int32} (hG : Good t) (g : Rep (cg m 1 8) t u) (b : Nat) {N : Nat} (hN : 20 ≤ N) : f_X7_cutCorners N (nI b) m = some (nI (cutN t b)) := by
  have fin : ∀ p, pwN t b p = pwN t b 7 → f_X7_cutCorners_88 N (nI (pwN t b p)) m = some (nI (cutN t b)) := by
    intro p hp
    unfold f_X7_cutCorners_88 cutN
    rw [n_rest _ (pw_lt256 hG b p), hp]
  have H : ∀ d p M, p + d = 7 → d < M → mj_lp M (f_X7_cutCorners_4 N (nI b) m) (nI (pwN t b p), nI (p + 1)) = some (nI (cutN t b)) := by
    intro d
    induction d with
    | zero =>
      intro p M h1 h2
      obtain ⟨M, rfl⟩ : ∃ k, M = k + 1 := ⟨M - 1, by omega⟩
      show f_X7_cutCorners_4 N (nI b) m (mj_lp M (f_X7_cutCorners_4 N (nI b) m)) (nI (pwN t b p), nI (p + 1)) = _
      unfold f_X7_cutCorners_4
      dsimp only
      rw [if_pos (show 8 ≤ nI (p + 1) from (nI_le (by omega) (by omega) : nI 8 ≤ nI (p + 1)))]
      exact fin p (by rw [show p = 7 by omega])
    | succ d ih =>
      intro p M h1 h2
      obtain ⟨M, rfl⟩ : ∃ k, M = k + 1 := ⟨M - 1, by omega⟩
      have i1 := ih (p + 1) M (by omega) (by omega)
      show f_X7_cutCorners_4 N (nI b) m (mj_lp M (f_X7_cutCorners_4 N (nI b) m)) (nI (pwN t b p), nI (p + 1)) = _
      generalize hK : mj_lp M (f_X7_cutCorners_4 N (nI b) m) = K at i1
      unfold f_X7_cutCorners_4
      dsimp only
      rw [if_neg (show ¬ 8 ≤ nI (p + 1) from (nI_ge (by omega) (by omega) : ¬ nI 8 ≤ nI (p + 1))), pass8 hG g (pw_lt256 hG b p) hN]
      have l1 := pw_lt256 hG b p
      have l2 := pw_lt256 hG b (p + 1)
      show (if nI (pwN t b (p + 1)) = nI (pwN t b p) then f_X7_cutCorners_88 N (nI (pwN t b (p + 1))) m else K (nI (pwN t b (p + 1)), nI (p + 1 + 1))) = _
      by_cases q : pwN t b (p + 1) = pwN t b p
      · rw [if_pos (by rw [q])]
        exact fin _ (by rw [q]; exact pw_at (by omega) q)
      · rw [if_neg (fun z => q ((nI_eq (by omega) (by omega)).mp z))]
        exact i1
  exact H 7 0 N rfl (by omega)
/-- which streets a set of fallen houses shuts -/
def shuN (t : aT) (set : Nat) : Nat → Nat
  | 0 => 0
  | n + 1 => if set.testBit n = true ∧ t 5 n ≠ 0 then shuN t set n ||| 2 ^ (t 5 n - 1) else shuN t set n
theorem shuN_lt {t : aT} (hG : Good t) (set : Nat) : ∀ n, n ≤ t 13 1 → shuN t set n < 4096 := by
  intro n
  induction n with
  | zero => intro _; exact (by decide : 0 < 4096)
  | succ n ih =>
    intro hn
    have gs := GS hG
    have w5 := (hG.2.1 n (by omega)).2.2.2.2.2.1
    show (if _ then _ else _) < _
    split
    · have := pw_lt (show t 5 n - 1 < 12 by omega)
      exact Nat.or_lt_two_pow (n := 12) (ih (by omega)) this
    · exact ih (by omega)
theorem shut8 {m : mj_m} {t : aT} {u : Nat → Int32} (hG : Good t) (g : Rep (cg m 1 8) t u) (set : Nat) {N : Nat} (hN : 20 ≤ N) : f_X7_streetsShutBy N (nI set) m = some (nI (shuN t set (t 13 1))) := by
  have gh := GH hG
  have gs := GS hG
  unfold f_X7_streetsShutBy
  refine lp_for (fun i => (nI (shuN t set i), nI i)) (c := t 13 1) (by omega) (fun i hi k => ?_) (fun k => ?_)
  · have w5 := (hG.2.1 i hi).2.2.2.2.2.1
    unfold f_X7_streetsShutBy_4 f_X7_streetsShutBy_28 f_X7_frontBit
    dsimp only
    rw [x_houses g, if_neg (nI_ge hi (by omega)), mj_ck_t (bb_4 (by omega)), nI_clamp (by omega), x_front g hi, mw_eq]
    show _ = k (nI (shuN t set (i + 1)), nI (i + 1))
    show _ = k (nI (if set.testBit i = true ∧ t 5 i ≠ 0 then shuN t set i ||| 2 ^ (t 5 i - 1) else shuN t set i), nI (i + 1))
    by_cases q : set.testBit i = true
    · rw [if_neg (fun z => by have := (n_bit0 set (by omega)).mp z; rw [q] at this; cases this)]
      by_cases y : t 5 i = 0
      · rw [if_neg (show ¬ (set.testBit i = true ∧ t 5 i ≠ 0) from fun z => z.2 y), y, if_pos (by decide), bind_some', mw_eq, mw_eq, show nI (shuN t set i) ||| 0 = nI (shuN t set i) from by rw [show (0 : Int32) = nI 0 from rfl, n_or, Nat.or_zero], nI_succ]
      · obtain ⟨j, hj⟩ : ∃ j, t 5 i = j + 1 := ⟨t 5 i - 1, by omega⟩
        rw [if_pos (show set.testBit i = true ∧ t 5 i ≠ 0 from ⟨q, y⟩), hj, nI_pred, if_neg (nI_neg j (by omega)), bind_some', n_shl j (by omega), mw_eq, n_or, mw_eq, nI_succ, show j + 1 - 1 = j by omega]
    · rw [if_pos ((n_bit0 set (by omega)).mpr (Bool.eq_false_iff.mpr q)), if_neg (fun z => q z.1), nI_succ]
  · unfold f_X7_streetsShutBy_4
    dsimp only
    rw [x_houses g, if_pos (nI_le (by omega) (by omega))]
