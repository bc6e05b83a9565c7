/-! ORDERS: the told one: both ways give the same list -/
theorem nd_len : ∀ (n : Nat) (L : List Nat), L.Nodup → (∀ x, x ∈ L → x < n) → L.length ≤ n := by
  intro n
  induction n with
  | zero =>
    intro L _ h
    cases L with
    | nil => exact Nat.le_refl _
    | cons a l => exact absurd (h a List.mem_cons_self) (Nat.not_lt_zero _)
  | succ n ih =>
    intro L nd h
    by_cases q : n ∈ L
    · have l1 := List.length_erase_of_mem q
      have := ih (L.erase n) (nd.erase n) (fun x hx => by
        obtain ⟨h1, h2⟩ := (nd.mem_erase_iff).mp hx
        have := h x h2; omega)
      omega
    · have := ih L nd (fun x hx => by
        have h1 := h x hx
        have : x ≠ n := fun z => q (by rw [← z]; exact hx)
        omega)
      omega
theorem uniqL {R : Nat → Nat → Prop} (as : ∀ a b, R a b → R b a → False) : ∀ (l l' : List Nat), l.Pairwise R → l'.Pairwise R → (∀ x, x ∈ l ↔ x ∈ l') → l = l' := by
  intro l
  induction l with
  | nil =>
    intro l' _ _ h
    cases l' with
    | nil => rfl
    | cons b l' => exact absurd ((h b).mpr List.mem_cons_self) (fun z => by cases z)
  | cons a l ih =>
    intro l' h1 h2 h
    cases l' with
    | nil => exact absurd ((h a).mp List.mem_cons_self) (fun z => by cases z)
    | cons b l' =>
      rw [List.pairwise_cons] at h1 h2
      have e : a = b := by
        by_cases q : a = b
        · exact q
        · exfalso
          rcases List.mem_cons.mp ((h a).mp List.mem_cons_self) with z | z
          · exact q z
          · rcases List.mem_cons.mp ((h b).mpr List.mem_cons_self) with y | y
            · exact q y.symm
            · exact as a b (h1.1 b y) (h2.1 a z)
      subst e
      refine congrArg (a :: ·) (ih l' h1.2 h2.2 (fun x => ⟨fun hx => ?_, fun hx => ?_⟩))
      · rcases List.mem_cons.mp ((h x).mp (List.mem_cons_of_mem _ hx)) with z | z
        · subst z; exact (as x x (h1.1 x hx) (h1.1 x hx)).elim
        · exact z
      · rcases List.mem_cons.mp ((h x).mpr (List.mem_cons_of_mem _ hx)) with z | z
        · subst z; exact (as x x (h2.1 x hx) (h2.1 x hx)).elim
        · exact z
def kR (ky : Nat → Int) (a b : Nat) : Prop := ky b < ky a ∨ (ky a = ky b ∧ a < b)
theorem kR_as (ky : Nat → Int) (a b : Nat) (h : kR ky a b) (h' : kR ky b a) : False := by
  unfold kR at h h'; omega
theorem pw_nd {R : Nat → Nat → Prop} (as : ∀ a b, R a b → R b a → False) {l : List Nat} (h : l.Pairwise R) : l.Nodup :=
  h.imp (fun {a b} r z => by subst z; exact as a a r r)
theorem ins_pw (ky : Nat → Int) {h : Nat} {L : List Nat} (hL : L.Pairwise (kR ky)) (hx : ∀ x, x ∈ L → x < h) : (insA (akB ky) h L).Pairwise (kR ky) := by
  have pl := posA_le (akB ky) h L L.length
  have g := List.pairwise_iff_getElem.mp hL
  have hq : ∀ i j, i < j → j < L.length → kR ky (gd L i) (gd L j) := fun i j h1 h2 => by
    have := g i j (by omega) h2 h1
    rw [gd_q, gd_q, List.getElem?_eq_getElem h2, List.getElem?_eq_getElem (show i < L.length by omega)]
    exact this
  have hi : ∀ j, posA (akB ky) h L L.length ≤ j → j < L.length → ky (gd L j) < ky h := fun j h1 h2 => by
    have := posA_hi (akB ky) h L L.length (j + 1) (by omega) (by omega)
    exact of_decide_eq_true this
  have lo : ∀ j, j < posA (akB ky) h L L.length → ky h ≤ ky (gd L j) := fun j h1 => by
    rcases posA_lo (akB ky) h L L.length with z | z
    · omega
    · have z1 := of_decide_eq_false z
      by_cases q : j = posA (akB ky) h L L.length - 1
      · rw [q]; omega
      · have := hq j (posA (akB ky) h L L.length - 1) (by omega) (by omega)
        unfold kR at this; omega
  rw [List.pairwise_iff_getElem]
  intro i j h1 h2 h3
  have e : ∀ i (hi : i < (insA (akB ky) h L).length), (insA (akB ky) h L)[i] = gd (insA (akB ky) h L) i := fun i hi => by
    rw [gd_q, List.getElem?_eq_getElem hi]; rfl
  rw [e i h1, e j h2]
  rw [insA_len] at h1 h2
  unfold insA
  rw [gd_ins pl, gd_ins pl]
  generalize hp : posA (akB ky) h L L.length = p at pl hi lo
  by_cases q1 : i < p
  · rw [if_pos q1]
    have m1 := hx _ (gd_mem (L := L) (i := i) (by omega))
    by_cases q2 : j < p
    · rw [if_pos q2]; exact hq i j h3 (by omega)
    · rw [if_neg q2]
      by_cases q3 : j = p
      · rw [if_pos q3]
        have := lo i q1
        unfold kR; omega
      · rw [if_neg q3]; exact hq i (j - 1) (by omega) (by omega)
  · rw [if_neg q1, if_neg (show ¬ j < p by omega), if_neg (show ¬ j = p by omega)]
    by_cases q3 : i = p
    · rw [if_pos q3]; exact Or.inl (hi (j - 1) (by omega) (by omega))
    · rw [if_neg q3]; exact hq (i - 1) (j - 1) (by omega) (by omega)
theorem ord_pw (ky : Nat → Int) (t : aT) : ∀ n, (ordA (akB ky) t n).Pairwise (kR ky) := by
  intro n
  induction n with
  | zero => exact List.Pairwise.nil
  | succ n ih =>
    rw [ordA_s]
    split
    · exact ih
    · exact ins_pw ky ih (fun x hx => ((ordA_mem _ _ _ _).mp hx).1)
theorem ord_nd (ky : Nat → Int) (t : aT) (n : Nat) : (ordA (akB ky) t n).Nodup := pw_nd (kR_as ky) (ord_pw ky t n)
def tdc (t : aT) (v : Int32) : Bool := decide (0 ≤ v.toInt ∧ v.toInt < (t 13 1 : Int) ∧ t 7 v.toNatClampNeg ≠ 2)
def toldL (t : aT) (e : Nat → Int32) : Nat → List Nat
  | 0 => []
  | i + 1 => if tdc t (e i) = true ∧ (e i).toNatClampNeg ∉ toldL t e i then toldL t e i ++ [(e i).toNatClampNeg] else toldL t e i
def restL (t : aT) (T : List Nat) : Nat → List Nat
  | 0 => T
  | h + 1 => if t 7 h ≠ 2 ∧ h ∉ restL t T h then restL t T h ++ [h] else restL t T h
theorem toldL_s (t : aT) (e : Nat → Int32) (i : Nat) : toldL t e (i + 1) = if tdc t (e i) = true ∧ (e i).toNatClampNeg ∉ toldL t e i then toldL t e i ++ [(e i).toNatClampNeg] else toldL t e i := rfl
theorem restL_s (t : aT) (T : List Nat) (h : Nat) : restL t T (h + 1) = if t 7 h ≠ 2 ∧ h ∉ restL t T h then restL t T h ++ [h] else restL t T h := rfl
theorem tdc_use {t : aT} {v : Int32} (h : tdc t v = true) : ∃ x, x < t 13 1 ∧ v = nI x ∧ v.toNatClampNeg = x ∧ t 7 x ≠ 2 := by
  obtain ⟨h1, h2, h3⟩ := of_decide_eq_true h
  obtain ⟨n, hn, e⟩ := nI_of (mj_nn h1)
  rw [e, nI_toInt hn] at h2
  rw [e, nI_clamp hn] at h3
  exact ⟨n, by omega, e, by rw [e, nI_clamp hn], h3⟩
theorem tdc_of {t : aT} {x : Nat} (hx : x < t 13 1) (hb : t 13 1 < 1000) (h7 : t 7 x ≠ 2) : tdc t (nI x) = true := by
  refine decide_eq_true ⟨?_, ?_, ?_⟩
  · rw [nI_toInt (by omega)]; omega
  · rw [nI_toInt (by omega)]; omega
  · rw [nI_clamp (by omega)]; exact h7
theorem toldL_mem {t : aT} (hb : t 13 1 < 1000) (e : Nat → Int32) (x : Nat) : ∀ i, x ∈ toldL t e i ↔ x < t 13 1 ∧ t 7 x ≠ 2 ∧ ∃ j, j < i ∧ e j = nI x := by
  intro i
  induction i with
  | zero => exact ⟨fun h => (by cases h), fun h => by obtain ⟨-, -, j, hj, -⟩ := h; exact absurd hj (Nat.not_lt_zero _)⟩
  | succ i ih =>
    rw [toldL_s]
    by_cases q : tdc t (e i) = true ∧ (e i).toNatClampNeg ∉ toldL t e i
    · obtain ⟨y, y1, y2, y3, y4⟩ := tdc_use q.1
      rw [if_pos q, List.mem_append, ih, y3]
      constructor
      · rintro (⟨h1, h2, j, h3, h4⟩ | h)
        · exact ⟨h1, h2, j, by omega, h4⟩
        · rw [List.mem_singleton] at h
          subst h
          exact ⟨y1, y4, i, by omega, y2⟩
      · rintro ⟨h1, h2, j, h3, h4⟩
        by_cases z : j = i
        · right
          rw [z, y2] at h4
          rw [List.mem_singleton]
          exact ((nI_eq (by omega) (by omega)).mp h4).symm
        · exact Or.inl ⟨h1, h2, j, by omega, h4⟩
    · rw [if_neg q, ih]
      constructor
      · rintro ⟨h1, h2, j, h3, h4⟩
        exact ⟨h1, h2, j, by omega, h4⟩
      · rintro ⟨h1, h2, j, h3, h4⟩
        by_cases z : j = i
        · subst z
          have h5 : tdc t (e j) = true := by rw [h4]; exact tdc_of h1 hb h2
          have h6 : (e j).toNatClampNeg ∈ toldL t e j := Decidable.byContradiction (fun w => q ⟨h5, w⟩)
          rw [h4, nI_clamp (by omega)] at h6
          exact ih.mp h6
        · exact ⟨h1, h2, j, by omega, h4⟩
theorem restL_mem {t : aT} (T : List Nat) (x : Nat) : ∀ h, x ∈ restL t T h ↔ x ∈ T ∨ (x < h ∧ t 7 x ≠ 2) := by
  intro h
  induction h with
  | zero => exact ⟨Or.inl, fun z => z.elim id (fun z => absurd z.1 (Nat.not_lt_zero _))⟩
  | succ h ih =>
    rw [restL_s]
    by_cases q : t 7 h ≠ 2 ∧ h ∉ restL t T h
    · rw [if_pos q, List.mem_append, ih, List.mem_singleton]
      constructor
      · rintro ((z | z) | z)
        · exact Or.inl z
        · exact Or.inr ⟨by omega, z.2⟩
        · rw [z]; exact Or.inr ⟨by omega, q.1⟩
      · rintro (z | z)
        · exact Or.inl (Or.inl z)
        · by_cases y : x = h
          · exact Or.inr y
          · exact Or.inl (Or.inr ⟨by omega, z.2⟩)
    · rw [if_neg q, ih]
      constructor
      · rintro (z | z)
        · exact Or.inl z
        · exact Or.inr ⟨by omega, z.2⟩
      · rintro (z | z)
        · exact Or.inl z
        · by_cases y : x = h
          · subst y
            exact ih.mp (Decidable.byContradiction (fun w => q ⟨z.2, w⟩))
          · exact Or.inr ⟨by omega, z.2⟩
theorem plN_at {e : Nat → Int32} {h n j : Nat} (hn : n ≤ 120) (hj : j < n) (he : e j = nI h) : plN e h n ≤ j := by
  rcases plN_cases e h n hn with ⟨h1, h2, h3⟩ | ⟨h1, h2⟩
  · rcases Nat.lt_or_ge j (plN e h n) with z | z
    · exact absurd he (h3 j z)
    · exact z
  · exact absurd he (h2 j hj)
theorem told_pw {t : aT} (hb : t 13 1 < 1000) (e : Nat → Int32) {n : Nat} (hn : n ≤ 120) : ∀ i, i ≤ n → (toldL t e i).Pairwise (kR (kyN t 6 e n)) := by
  intro i
  induction i with
  | zero => intro _; exact List.Pairwise.nil
  | succ i ih =>
    intro hi
    rw [toldL_s]
    by_cases q : tdc t (e i) = true ∧ (e i).toNatClampNeg ∉ toldL t e i
    · rw [if_pos q]
      obtain ⟨y, y1, y2, y3, y4⟩ := tdc_use q.1
      rw [List.pairwise_append]
      refine ⟨ih (by omega), List.pairwise_singleton _ _, fun a ha b hb' => ?_⟩
      rw [List.mem_singleton, y3] at hb'
      subst hb'
      obtain ⟨a1, a2, j, j1, j2⟩ := (toldL_mem hb e a i).mp ha
      have p1 := plN_at hn (show j < n by omega) j2
      have p2 := plN_at hn (show i < n by omega) y2
      have p3 : ¬ plN e b n < i := fun z => by
        rcases plN_cases e b n hn with ⟨h1, h2, h3⟩ | ⟨h1, h2⟩
        · refine q.2 ?_
          rw [y3]
          exact (toldL_mem hb e b i).mpr ⟨y1, y4, plN e b n, z, h2⟩
        · omega
      have k1 : kyN t 6 e n a = -(plN e a n : Int) := rfl
      have k2 : kyN t 6 e n b = -(plN e b n : Int) := rfl
      unfold kR; rw [k1, k2]; omega
    · rw [if_neg q]; exact ih (by omega)
theorem rest_pw {t : aT} (hb : t 13 1 < 1000) (e : Nat → Int32) {n : Nat} (hn : n ≤ 120) : ∀ h, h ≤ t 13 1 → (restL t (toldL t e n) h).Pairwise (kR (kyN t 6 e n)) := by
  intro h
  induction h with
  | zero => intro _; exact told_pw hb e hn n (Nat.le_refl _)
  | succ h ih =>
    intro hh
    rw [restL_s]
    by_cases q : t 7 h ≠ 2 ∧ h ∉ restL t (toldL t e n) h
    · rw [if_pos q, List.pairwise_append]
      refine ⟨ih (by omega), List.pairwise_singleton _ _, fun a ha b hb' => ?_⟩
      rw [List.mem_singleton] at hb'
      subst hb'
      have nt : b ∉ toldL t e n := fun z => q.2 ((restL_mem _ _ _).mpr (Or.inl z))
      have pb : plN e b n = 120 := by
        rcases plN_cases e b n hn with ⟨h1, h2, h3⟩ | ⟨h1, h2⟩
        · exact absurd ((toldL_mem hb e b n).mpr ⟨by omega, q.1, _, h1, h2⟩) nt
        · exact h1
      have k1 : kyN t 6 e n a = -(plN e a n : Int) := rfl
      have k2 : kyN t 6 e n b = -(plN e b n : Int) := rfl
      unfold kR; rw [k1, k2, pb]
      rcases (restL_mem _ _ _).mp ha with z | z
      · obtain ⟨a1, a2, j, j1, j2⟩ := (toldL_mem hb e a n).mp z
        have p1 := plN_at hn j1 j2
        omega
      · have : plN e a n ≤ 120 := by rcases plN_cases e a n hn with y | y <;> omega
        omega
    · rw [if_neg q]; exact ih (by omega)
theorem told_eq {t : aT} (hb : t 13 1 < 1000) (e : Nat → Int32) {n : Nat} (hn : n ≤ 120) : restL t (toldL t e n) (t 13 1) = ordA (akB (kyN t 6 e n)) t (t 13 1) := by
  refine uniqL (kR_as (kyN t 6 e n)) _ _ (rest_pw hb e hn _ (Nat.le_refl _)) (ord_pw _ t _) (fun x => ?_)
  rw [restL_mem, ordA_mem, toldL_mem hb]
  constructor
  · rintro (⟨h1, h2, -⟩ | h)
    · exact ⟨h1, h2⟩
    · exact h
  · exact Or.inr
/-! the reference's told order, its rests -/
theorem isIn9 {m : mj_m} {L : List Nat} (hl : L.length ≤ 10) (hx : ∀ x, x ∈ L → x < 1000) (hm : m.1 95 44 = nI L.length) (hr : Rw m 123 L) {x : Nat} (hx1 : x < 1000) {N : Nat} (hN : 20 ≤ N) : f_X9_isIn N (nI x) m = some (b2I (decide (x ∈ L))) := by
  have H : ∀ (d i M : Nat), i + d = L.length → d < M → mj_lp M (f_X9_isIn_2 N (nI x) m) (nI i) = some (b2I (decide (x ∈ L.drop i))) := by
    intro d
    induction d with
    | zero =>
      intro i M h1 h2
      obtain ⟨M, rfl⟩ : ∃ k, M = k + 1 := ⟨M - 1, by omega⟩
      show f_X9_isIn_2 N (nI x) m (mj_lp M _) (nI i) = _
      unfold f_X9_isIn_2
      rw [hm, if_pos (nI_le (by omega) (by omega)), List.drop_eq_nil_of_le (by omega)]
      rfl
    | succ d ih =>
      intro i M h1 h2
      obtain ⟨M, rfl⟩ : ∃ k, M = k + 1 := ⟨M - 1, by omega⟩
      have i1 := ih (i + 1) M (by omega) (by omega)
      have hi : i < L.length := by omega
      have gm := hx _ (gd_mem hi)
      have dr : L.drop i = gd L i :: L.drop (i + 1) := by
        rw [List.drop_eq_getElem_cons hi, gd_q, List.getElem?_eq_getElem hi]; rfl
      show f_X9_isIn_2 N (nI x) m (mj_lp M (f_X9_isIn_2 N (nI x) m)) (nI i) = _
      generalize mj_lp M (f_X9_isIn_2 N (nI x) m) = K at i1
      unfold f_X9_isIn_2
      rw [hm, if_neg (nI_ge hi (by omega)), mj_ck_t (bb_123 (by omega)), nI_clamp (by omega), hr i hi, dr]
      by_cases q : gd L i = x
      · rw [if_pos (by rw [q]), decide_eq_true (by rw [q]; exact List.mem_cons_self)]; rfl
      · rw [if_neg (fun z => q ((nI_eq (by omega) (by omega)).mp z)), mw_eq, ← nI_succ, i1]
        refine congrArg (fun z => some (b2I z)) (decide_eq_decide.mpr ?_)
        rw [List.mem_cons]
        exact ⟨Or.inr, fun z => z.elim (fun y => absurd y.symm q) id⟩
  have := H L.length 0 N (by omega) (by omega)
  rw [List.drop_zero] at this
  exact this
theorem Rw_snoc {m : mj_m} {A : Nat} {L : List Nat} (h : Nat) (hr : Rw m A L) : Rw (mj_wI m A L.length (nI h)) A (L ++ [h]) := by
  intro j hj
  rw [List.length_append, List.length_singleton] at hj
  rw [gd_snoc _ _ _ (by omega)]
  by_cases q : j = L.length
  · rw [if_pos q, q, wI_e]
  · rw [if_neg q, wI_n (by omega)]; exact hr j (by omega)
theorem nd_snoc {L : List Nat} {h : Nat} (nd : L.Nodup) (q : h ∉ L) : (L ++ [h]).Nodup := by
  rw [List.nodup_append]
  exact ⟨nd, List.nodup_cons.mpr ⟨fun z => (by cases z), List.nodup_nil⟩, fun a ha b hb z => q (by rw [List.mem_singleton] at hb; rw [← hb, ← z]; exact ha)⟩
theorem nd_room {L : List Nat} {h n : Nat} (nd : L.Nodup) (q : h ∉ L) (hL : ∀ x, x ∈ L → x < n) (hh : h < n) : L.length + 1 ≤ n := by
  have := nd_len n (h :: L) (List.nodup_cons.mpr ⟨q, nd⟩) (fun x hx => by
    rcases List.mem_cons.mp hx with z | z
    · rw [z]; exact hh
    · exact hL x z)
  rw [List.length_cons] at this
  exact this
/-- the list in the reference's cells -/
def OL9 (m : mj_m) (t : aT) (L : List Nat) : Prop := Rw m 123 L ∧ m.1 95 44 = nI L.length ∧ L.Nodup ∧ (∀ x, x ∈ L → x < t 13 1)
theorem OL9_len {m : mj_m} {t : aT} {L : List Nat} (h : OL9 m t L) : L.length ≤ t 13 1 := nd_len _ _ h.2.2.1 h.2.2.2
theorem OL9_snoc {m : mj_m} {t : aT} {L : List Nat} {h : Nat} (o : OL9 m t L) (q : h ∉ L) (hh : h < t 13 1) : OL9 (mj_wI (mj_wI m 95 44 (nI (L.length + 1))) 123 L.length (nI h)) t (L ++ [h]) := by
  refine ⟨Rw_snoc h (fun j hj => by rw [wI_n (by omega)]; exact o.1 j hj), ?_, nd_snoc o.2.2.1 q, fun x hx => ?_⟩
  · rw [wI_n (by omega), wI_e, List.length_append, List.length_singleton]
  · rcases List.mem_append.mp hx with z | z
    · exact o.2.2.2 x z
    · rw [List.mem_singleton] at z; rw [z]; exact hh
theorem OL9_in {m : mj_m} {t : aT} {L : List Nat} (hG : Good t) (o : OL9 m t L) {x : Nat} (hx : x < t 13 1) {N : Nat} (hN : 20 ≤ N) : f_X9_isIn N (nI x) m = some (b2I (decide (x ∈ L))) := by
  have gh := GH hG
  have := OL9_len o
  exact isIn9 (by omega) (fun y hy => by have := o.2.2.2 y hy; omega) o.2.1 o.1 (by omega) hN
theorem rests9 {m : mj_m} {t : aT} {u : Nat → Int32} (hG : Good t) (g : Rep (mg m) t u) {T : List Nat} (o : OL9 m t T) {N : Nat} (hN : 20 ≤ N) : ∃ m', f_X9_rests N m = some m' ∧ OL9 m' t (restL t T (t 13 1)) ∧ Eqs okA m m' := by
  have gh := GH hG
  unfold f_X9_rests
  obtain ⟨z, ⟨-, e2, e3⟩, e4⟩ := lp_cnt (B := f_X9_rests_2 N) (E := fun z => some z.2) (c := t 13 1) (N := N) (s0 := (0, m)) (fun i z => z.1 = nI i ∧ OL9 z.2 t (restL t T i) ∧ Eqs okA m z.2) (by omega)
    ⟨rfl, o, Eqs_r _ _⟩
    (fun i z hi ⟨e1, e2, e3⟩ => by
      have gs := RT_m hG g (fun a j q => e3.1 a j (Or.inr (Or.inr q)))
      have sl := st_le hG hi
      have ol := OL9_len e2
      by_cases q : t 7 i ≠ 2 ∧ i ∉ restL t T i
      · have room := nd_room e2.2.2.1 q.2 e2.2.2.2 hi
        refine ⟨(nI (i + 1), mj_wI (mj_wI z.2 95 44 (nI ((restL t T i).length + 1))) 123 (restL t T i).length (nI i)), ⟨rfl, ?_, Eqs_w (Eqs_w e3 (n44 0).2) (n44 _).1⟩, fun k' => ?_⟩
        · rw [restL_s, if_pos q]; exact OL9_snoc e2 q.2 hi
        · unfold f_X9_rests_2 f_X9_rests_45
          rw [y_houses gs, e1, if_neg (nI_ge hi (by omega)), mj_ck_t (bb_108 (by omega)), nI_clamp (by omega), y_steps gs hi, if_neg (show ¬ 2 ≤ nI (t 7 i) from (nI_ge (show t 7 i < 2 by omega) (by omega) : ¬ nI 2 ≤ nI (t 7 i))), OL9_in hG e2 hi hN, bind_some', decide_eq_false q.2, if_pos (by rfl), mw_eq, e2.2.1, mj_ck_t (bb_123 (by omega)), nI_clamp (by omega), mw_eq, mw_eq, nI_succ, nI_succ]
      · refine ⟨(nI (i + 1), z.2), ⟨rfl, by rw [restL_s, if_neg q]; exact e2, e3⟩, fun k' => ?_⟩
        unfold f_X9_rests_2 f_X9_rests_45
        rw [y_houses gs, e1, if_neg (nI_ge hi (by omega)), mj_ck_t (bb_108 (by omega)), nI_clamp (by omega), y_steps gs hi]
        by_cases y : t 7 i = 2
        · rw [y, if_pos (by decide), mw_eq, nI_succ]
        · have yi : i ∈ restL t T i := Decidable.byContradiction (fun w => q ⟨y, w⟩)
          rw [if_neg (show ¬ 2 ≤ nI (t 7 i) from (nI_ge (show t 7 i < 2 by omega) (by omega) : ¬ nI 2 ≤ nI (t 7 i))), OL9_in hG e2 hi hN, bind_some', decide_eq_true yi, if_neg (by decide), mw_eq, nI_succ])
    (fun z ⟨e1, _, e3⟩ k' => by
      have gs := RT_m hG g (fun a j q => e3.1 a j (Or.inr (Or.inr q)))
      unfold f_X9_rests_2
      rw [y_houses gs, e1, if_pos (nI_le (by omega) (by omega))])
  exact ⟨z.2, e4, e2, e3⟩
theorem yisH_n {m : mj_m} {t : aT} {u : Nat → Int32} (hG : Good t) (h : Rep (mg m) t u) (N : Nat) (v : Int32) : (f_X9_isHouse N v m = some 0 ∧ ∀ k, k < t 13 1 → v ≠ nI k) ∨ ∃ k, k < t 13 1 ∧ v = nI k ∧ f_X9_isHouse N v m = some 1 := by
  have hc := y_houses h
  have hb := GH hG
  unfold f_X9_isHouse f_X9_isHouse_16
  by_cases h0 : v < 0
  · rw [if_pos h0]; exact Or.inl ⟨rfl, bndn hc (by omega) (Or.inl h0)⟩
  · rw [if_neg h0]
    by_cases h1 : m.1 95 1 ≤ v
    · rw [if_pos h1]; exact Or.inl ⟨rfl, bndn hc (by omega) (Or.inr h1)⟩
    · rw [if_neg h1]
      obtain ⟨k, hk, rfl⟩ := bnd hc (by omega) h0 h1
      exact Or.inr ⟨k, hk, rfl, rfl⟩
theorem toldO9 {m : mj_m} {t : aT} {u : Nat → Int32} (hG : Good t) (g : Rep (mg m) t u) {s n : Nat} (hs : s < 8) (hn : n ≤ 120) (hk : m.1 113 s = nI 6) (hz : m.1 112 s = nI n) {e : Nat → Int32} (he : ∀ i, i < n → (m.2 115 (120 * s + i)).toInt32 = e i) {N : Nat} (hN : 200 ≤ N) : ∃ m', f_X9_orders N (nI s) m = some m' ∧ OL9 m' t (restL t (toldL t e n) (t 13 1)) ∧ Eqs okA m m' := by
  have gh := GH hG
  unfold f_X9_orders
  rw [mw_eq, mj_ck_t (bb_113 hs), nI_clamp (by omega), wI_n (by omega), hk, if_neg (show ¬ nI 6 = 4 by decide), if_pos (show nI 6 = 6 by decide)]
  obtain ⟨z, ⟨-, e2, e3⟩, e4⟩ := lp_cnt (B := f_X9_orders_39 N (nI s)) (E := fun z => (f_X9_rests N z.2).bind (fun r3 => some r3)) (c := n) (N := N) (s0 := (0, mj_wI m 95 44 0)) (fun i z => z.1 = nI i ∧ OL9 z.2 t (toldL t e i) ∧ Eqs okA m z.2) (by omega)
    ⟨rfl, ⟨fun i hi => absurd hi (Nat.not_lt_zero i), wI_e, List.nodup_nil, fun x hx => by cases hx⟩, Eqs_w (Eqs_r _ _) (n44 0).2⟩
    (fun i z hi ⟨e1, e2, e3⟩ => by
      have gs := RT_m hG g (fun a j q => e3.1 a j (Or.inr (Or.inr q)))
      have ol := OL9_len e2
      have ia : f_X9_intAt N (nI s) (nI i) z.2 = some (e i) := by
        rw [int9 hs (by omega), e3.2 115 _ (by unfold okL; omega), he i hi]
      have hz' : z.2.1 112 s = nI n := by rw [e3.1 112 s (by unfold okA okN; omega)]; exact hz
      by_cases q : tdc t (e i) = true ∧ (e i).toNatClampNeg ∉ toldL t e i
      · obtain ⟨x, x1, x2, x3, x4⟩ := tdc_use q.1
        have sl := st_le hG x1
        have q2 := q.2
        rw [x3] at q2
        have room := nd_room e2.2.2.1 q2 e2.2.2.2 x1
        refine ⟨(nI (i + 1), mj_wI (mj_wI z.2 95 44 (nI ((toldL t e i).length + 1))) 123 (toldL t e i).length (nI x)), ⟨rfl, ?_, Eqs_w (Eqs_w e3 (n44 0).2) (n44 _).1⟩, fun k' => ?_⟩
        · rw [toldL_s, if_pos q, x3]; exact OL9_snoc e2 q2 x1
        · unfold f_X9_orders_39 f_X9_orders_99
          rw [mj_ck_t (bb_112 hs), nI_clamp (show s < 2 ^ 31 by omega), hz', e1, if_neg (nI_ge hi (by omega)), ia, bind_some', x2, yisH hG gs N x1, bind_some', if_neg (by decide), mj_ck_t (bb_108 (by omega)), nI_clamp (show x < 2 ^ 31 by omega), y_steps gs x1, if_neg (show ¬ 2 ≤ nI (t 7 x) from (nI_ge (show t 7 x < 2 by omega) (by omega) : ¬ nI 2 ≤ nI (t 7 x))), OL9_in hG e2 x1 (by omega), bind_some', decide_eq_false q2, if_pos (by rfl), mw_eq, e2.2.1, mj_ck_t (bb_123 (by omega)), nI_clamp (by omega), mw_eq, mw_eq, nI_succ, nI_succ]
      · refine ⟨(nI (i + 1), z.2), ⟨rfl, by rw [toldL_s, if_neg q]; exact e2, e3⟩, fun k' => ?_⟩
        unfold f_X9_orders_39 f_X9_orders_99
        rw [mj_ck_t (bb_112 hs), nI_clamp (show s < 2 ^ 31 by omega), hz', e1, if_neg (nI_ge hi (by omega)), ia, bind_some']
        rcases yisH_n hG gs N (e i) with ⟨a1, a2⟩ | ⟨x, x1, x2, a1⟩
        · rw [a1, bind_some', if_pos rfl, mw_eq, nI_succ]
        · have sl := st_le hG x1
          rw [a1, bind_some', if_neg (by decide), x2, mj_ck_t (bb_108 (by omega)), nI_clamp (show x < 2 ^ 31 by omega), y_steps gs x1]
          by_cases y : t 7 x = 2
          · rw [y, if_pos (by decide), mw_eq, nI_succ]
          · have yi : x ∈ toldL t e i := Decidable.byContradiction (fun w => q ⟨by rw [x2]; exact tdc_of x1 (by omega) y, by rw [x2, nI_clamp (by omega)]; exact w⟩)
            rw [if_neg (show ¬ 2 ≤ nI (t 7 x) from (nI_ge (show t 7 x < 2 by omega) (by omega) : ¬ nI 2 ≤ nI (t 7 x))), OL9_in hG e2 x1 (by omega), bind_some', decide_eq_true yi, if_neg (by decide), mw_eq, nI_succ])
    (fun z ⟨e1, _, e3⟩ k' => by
      have hz' : z.2.1 112 s = nI n := by rw [e3.1 112 s (by unfold okA okN; omega)]; exact hz
      unfold f_X9_orders_39
      rw [mj_ck_t (bb_112 hs), nI_clamp (by omega), hz', e1, if_pos (nI_le (by omega) (by omega))])
  obtain ⟨m', r1, r2, r3⟩ := rests9 hG (RT_m hG g (fun a j q => e3.1 a j (Or.inr (Or.inr q)))) e2 (N := N) (by omega)
  exact ⟨m', by rw [e4, r1]; rfl, r2, Eqs_t e3 r3⟩
