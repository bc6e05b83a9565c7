/-! BEST, in pure numbers: all rows of the open houses, one behind the other -/
def opL (t : aT) : Nat → List Nat
  | 0 => []
  | h + 1 => if t 7 h = 0 then opL t h ++ [h] else opL t h
theorem opL_s (t : aT) (h : Nat) : opL t (h + 1) = if t 7 h = 0 then opL t h ++ [h] else opL t h := rfl
theorem opL_mem (t : aT) (x : Nat) : ∀ h, x ∈ opL t h ↔ x < h ∧ t 7 x = 0 := by
  intro h
  induction h with
  | zero => exact ⟨fun z => (by cases z), fun z => absurd z.1 (Nat.not_lt_zero _)⟩
  | succ h ih =>
    rw [opL_s]
    by_cases q : t 7 h = 0
    · rw [if_pos q, List.mem_append, ih, List.mem_singleton]
      constructor
      · rintro (z | z)
        · exact ⟨by omega, z.2⟩
        · rw [z]; exact ⟨by omega, q⟩
      · intro z
        by_cases y : x = h
        · exact Or.inr y
        · exact Or.inl ⟨by omega, z.2⟩
    · rw [if_neg q, ih]
      constructor
      · intro z; exact ⟨by omega, z.2⟩
      · intro z
        refine ⟨?_, z.2⟩
        have : x ≠ h := fun y => q (by rw [← y]; exact z.2)
        omega
theorem opL_nd (t : aT) : ∀ h, (opL t h).Nodup := by
  intro h
  induction h with
  | zero => exact List.nodup_nil
  | succ h ih =>
    rw [opL_s]
    split
    · exact nd_snoc ih (fun z => by have := (opL_mem t h h).mp z; omega)
    · exact ih
theorem opL_pre (t : aT) : ∀ (d h : Nat), ∃ r, opL t (h + d) = opL t h ++ r := by
  intro d
  induction d with
  | zero => intro h; exact ⟨[], by rw [List.append_nil]; rfl⟩
  | succ d ih =>
    intro h
    obtain ⟨r, hr⟩ := ih h
    show ∃ r, opL t (h + d + 1) = opL t h ++ r
    rw [opL_s]
    by_cases q : t 7 (h + d) = 0
    · rw [if_pos q, hr]; exact ⟨r ++ [h + d], by rw [List.append_assoc]⟩
    · rw [if_neg q]; exact ⟨r, hr⟩
theorem gd_app {A B : List Nat} {i : Nat} (h : i < A.length) : gd (A ++ B) i = gd A i := by
  rw [gd_q, gd_q, List.getElem?_append_left h]
theorem opL_gd {t : aT} {h H i : Nat} (hh : h ≤ H) (hi : i < (opL t h).length) : gd (opL t H) i = gd (opL t h) i := by
  obtain ⟨r, hr⟩ := opL_pre t (H - h) h
  rw [show h + (H - h) = H by omega] at hr
  rw [hr, gd_app hi]
theorem opL_at {t : aT} {h H : Nat} (hh : h < H) (h0 : t 7 h = 0) : (opL t h).length < (opL t H).length ∧ gd (opL t H) (opL t h).length = h := by
  have e : opL t (h + 1) = opL t h ++ [h] := by rw [opL_s, if_pos h0]
  have l : (opL t h).length < (opL t (h + 1)).length := by rw [e, List.length_append, List.length_singleton]; omega
  obtain ⟨r, hr⟩ := opL_pre t (H - (h + 1)) (h + 1)
  rw [show h + 1 + (H - (h + 1)) = H by omega] at hr
  have l2 : (opL t (h + 1)).length ≤ (opL t H).length := by rw [hr, List.length_append]; omega
  refine ⟨by omega, ?_⟩
  rw [opL_gd (show h + 1 ≤ H by omega) l, e, gd_snoc _ _ _ (Nat.le_refl _), if_pos rfl]
theorem gd_inj {L : List Nat} (nd : L.Nodup) {i j : Nat} (hi : i < L.length) (hj : j < L.length) (e : gd L i = gd L j) : i = j := by
  have h := List.pairwise_iff_getElem.mp (show L.Pairwise (· ≠ ·) from nd)
  have ei : gd L i = L[i] := by rw [gd_q, List.getElem?_eq_getElem hi]; rfl
  have ej : gd L j = L[j] := by rw [gd_q, List.getElem?_eq_getElem hj]; rfl
  rw [ei, ej] at e
  rcases Nat.lt_trichotomy i j with z | z | z
  · exact absurd e (h i j hi hj z)
  · exact z
  · exact absurd e.symm (h j i hj hi z)
def hasN (i : Nat) : List Nat → Bool
  | [] => false
  | x :: l => if i = x then true else hasN i l
theorem hasN_iff (i : Nat) : ∀ l, hasN i l = true ↔ i ∈ l := by
  intro l
  induction l with
  | nil => exact ⟨fun z => (by cases z), fun z => (by cases z)⟩
  | cons x l ih =>
    rw [List.mem_cons]
    show (if i = x then true else hasN i l) = true ↔ _
    by_cases q : i = x
    · rw [if_pos q]; exact ⟨fun _ => Or.inl q, fun _ => rfl⟩
    · rw [if_neg q, ih]; exact ⟨Or.inr, fun z => z.resolve_left q⟩
def catN (f : Nat → List (List Nat)) : Nat → List (List Nat)
  | 0 => []
  | j + 1 => catN f j ++ f j
def pmL (c : Nat) : Nat → List Nat → List (List Nat)
  | 0, P => [P]
  | r + 1, P => catN (fun i => if hasN i P = true then [] else pmL c r (P ++ [i])) c
/-- the class's next row, as its loops go -/
def dpN (T : Nat → Nat) : Nat → Nat
  | 0 => 0
  | i + 1 => if T i < T (i + 1) then i + 1 else dpN T i
def rsF (T : Nat → Nat) (d : Nat) : Nat → Nat
  | 0 => d + 1
  | j + 1 => if T d < T (d + 1 + j) then d + 1 + j else rsF T d j
def swF (T : Nat → Nat) (i j : Nat) : Nat → Nat := fun k => if k = j then T i else if k = i then T j else T k
def rvF : Nat → (Nat → Nat) → Nat → Nat → (Nat → Nat)
  | 0, T, _, _ => T
  | n + 1, T, lo, hi => if lo < hi then rvF n (swF T lo hi) (lo + 1) (hi - 1) else T
def nxF (c : Nat) (T : Nat → Nat) : Option (Nat → Nat) := if dpN T (c - 1) = 0 then none else some (rvF 6 (swF T (dpN T (c - 1) - 1) (rsF T (dpN T (c - 1) - 1) (c - dpN T (c - 1)))) (dpN T (c - 1)) (c - 1))
def sameN (f g : Nat → Nat) : Nat → Bool
  | 0 => true
  | n + 1 => (f n == g n) && sameN f g n
def chk (c : Nat) : List Nat → List (List Nat) → Bool
  | x, [] => (match nxF c (gd x) with | none => true | some _ => c == 5)
  | x, y :: l => (match nxF c (gd x) with | none => false | some T => sameN T (gd y) c) && chk c y l
def okP (c : Nat) (l : List Nat) : Bool := (l.length == c) && (l.all (fun x => x < c) && (match l with | [] => true | [_] => true | [a, b] => a != b | [a, b, d] => a != b && a != d && b != d | [a, b, d, e] => a != b && a != d && a != e && b != d && b != e && d != e | [a, b, d, e, f] => a != b && a != d && a != e && a != f && b != d && b != e && b != f && d != e && d != f && e != f | _ => false))
def rgL (c : Nat) : List Nat := if c = 0 then [] else if c = 1 then [0] else if c = 2 then [0, 1] else if c = 3 then [0, 1, 2] else if c = 4 then [0, 1, 2, 3] else [0, 1, 2, 3, 4]
theorem pm_facts : ∀ c, c < 6 → (match pmL c c [] with | [] => false | x :: l => (x == rgL c) && (chk c x l && ((x :: l).all (okP c) && decide (l.length < 120)))) = true := by decide +kernel
theorem pm_last5 : (match pmL 5 5 [] with | [] => 0 | _ :: l => l.length) = 119 := by decide +kernel
theorem sameN_at {f g : Nat → Nat} : ∀ {n i : Nat}, sameN f g n = true → i < n → f i = g i := by
  intro n
  induction n with
  | zero => intro i _ h; exact absurd h (Nat.not_lt_zero _)
  | succ n ih =>
    intro i h hi
    unfold sameN at h
    rw [Bool.and_eq_true] at h
    by_cases q : i = n
    · rw [q]; exact eq_of_beq h.1
    · exact ih h.2 (by omega)
theorem okP_use {c : Nat} {l : List Nat} (h : okP c l = true) : l.length = c ∧ (∀ x, x ∈ l → x < c) ∧ l.Nodup := by
  unfold okP at h
  rw [Bool.and_eq_true, Bool.and_eq_true] at h
  obtain ⟨h1, h2, h3⟩ := h
  refine ⟨eq_of_beq h1, fun x hx => by have := List.all_eq_true.mp h2 x hx; exact of_decide_eq_true this, ?_⟩
  match l, h3 with
  | [], _ => exact List.nodup_nil
  | [a], _ => simp
  | [a, b], h => simp at h ⊢; exact h
  | [a, b, d], h => simp at h ⊢; omega
  | [a, b, d, e], h => simp at h ⊢; omega
  | [a, b, d, e, f], h => simp at h ⊢; omega
/-- the best so far -/
def bsF (loss : List Nat → Int64) (a : Option (Int64 × List Nat)) (T : List Nat) : Option (Int64 × List Nat) :=
  match a with
  | none => some (loss T, T)
  | some (l, B) => if lg_cmp (loss T) l < 0 then some (loss T, T) else some (l, B)
def foB (loss : List Nat → Int64) : Option (Int64 × List Nat) → List (List Nat) → Option (Int64 × List Nat)
  | a, [] => a
  | a, T :: l => foB loss (bsF loss a T) l
theorem foB_app (loss : List Nat → Int64) : ∀ (l l' : List (List Nat)) (a : Option (Int64 × List Nat)), foB loss a (l ++ l') = foB loss (foB loss a l) l' := by
  intro l
  induction l with
  | nil => intro l' a; rfl
  | cons x l ih => intro l' a; exact ih l' _
def rwT (O T : List Nat) : List Nat := T.map (gd O)
theorem rwT_len (O T : List Nat) : (rwT O T).length = T.length := List.length_map ..
theorem rwT_gd {O T : List Nat} {i : Nat} (h : i < T.length) : gd (rwT O T) i = gd O (gd T i) := by
  unfold rwT
  rw [gd_q, gd_q T, List.getElem?_map, List.getElem?_eq_getElem h]
  rfl
