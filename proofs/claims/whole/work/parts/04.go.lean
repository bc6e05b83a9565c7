/-! THE CELLS: their shapes by handles (0 int row, 1 long row, 2 row of houses, 3 row of shelves, 10 and a class's number: an object), and what the heap holds of them -/
def mj_shl : List (Nat × Nat) := [(18, 12), (17, 16), (0, 12), (0, 12), (2, 10), (0, 10), (0, 4), (0, 4), (11, 8), (11, 8), (11, 8), (11, 8), (11, 8), (11, 8), (11, 8), (11, 8), (11, 8), (11, 8), (17, 16), (0, 12), (0, 12), (2, 10), (0, 10), (0, 4), (0, 4), (11, 8), (11, 8), (11, 8), (11, 8), (11, 8), (11, 8), (11, 8), (11, 8), (11, 8), (11, 8), (3, 8), (12, 11), (0, 10), (0, 10), (0, 10), (0, 1024), (0, 1024), (1, 1024), (1, 1024), (1, 8), (13, 4), (0, 10), (0, 10), (14, 14), (0, 10), (0, 10), (0, 10), (0, 5), (0, 5), (1, 32), (15, 8), (17, 16), (0, 12), (0, 12), (2, 10), (0, 10), (0, 4), (0, 4), (11, 8), (11, 8), (11, 8), (11, 8), (11, 8), (11, 8), (11, 8), (11, 8), (11, 8), (11, 8), (0, 120), (0, 5), (10, 5), (0, 20), (0, 8), (0, 10), (16, 4), (1, 120), (16, 4), (1, 120), (16, 4), (1, 120), (16, 4), (1, 120), (16, 4), (1, 120), (16, 4), (1, 120), (16, 4), (1, 120), (16, 4), (1, 120), (19, 56), (0, 8), (0, 12), (0, 12), (0, 4), (0, 4), (0, 10), (0, 10), (0, 10), (0, 10), (0, 10), (0, 10), (0, 10), (0, 10), (0, 10), (0, 8), (0, 8), (0, 8), (0, 8), (0, 8), (1, 960), (1, 120), (0, 58), (0, 150), (0, 150), (0, 150), (1, 1024), (1, 1024), (0, 10), (0, 10), (0, 10), (0, 10), (0, 20)]
def mj_sh (h : Nat) : Nat × Nat := mj_shl.getD h (99, 0)
/-- how many cells there are behind the two makings -/
def mj_NF : Nat := 128
def mj_sl : Nat → Nat
  | 0 => 0
  | n + 1 => mj_sl n + (mj_sh n).2
theorem mj_sl_mono {a b : Nat} (h : a ≤ b) : mj_sl a ≤ mj_sl b := by
  induction b with
  | zero => rw [Nat.le_zero.mp h]; exact Nat.le_refl _
  | succ b ih =>
    rcases Nat.lt_or_ge a (b + 1) with q | q
    · exact Nat.le_trans (ih (by omega)) (Nat.le_add_right _ _)
    · rw [show a = b + 1 by omega]; exact Nat.le_refl _
def mj_ad (base : Nat) (X : Nat → Nat) (h : Nat) : Nat := if h < 9000 then base + h else X h
def mj_upv (ad : Nat → Nat) : Value → Value
  | .ref h => .ref (ad h)
  | v => v
def mj_ulv (ad : Nat → Nat) (lv : mj_LV) : mj_LV := lv.map (fun q => (q.1, mj_upv ad q.2))
def mj_us (ad : Nat → Nat) (st : List Value) : List Value := st.map (mj_upv ad)
theorem mj_upv_cat (ad : Nat → Nat) (v : Value) : (mj_upv ad v).category = v.category := by cases v <;> rfl
theorem mj_us_cat (ad : Nat → Nat) (st : List Value) : ((mj_us ad st).map fun v => v.category).sum = (st.map fun v => v.category).sum := by
  unfold mj_us
  rw [List.map_map]
  congr 1
  exact List.map_congr_left (fun v _ => mj_upv_cat ad v)
def mj_val (M : mj_M) (h k : Nat) : FieldType → Value
  | .long => .long (M.2.2.2 h k)
  | .object _ => va_rf (M.2.1 h k)
  | .array _ => va_rf (M.2.1 h k)
  | _ => .int (M.2.2.1 h k)
def mj_entK (ad : Nat → Nat) (cA : Nat → ClassId) (M : mj_M) (h : Nat) (kd n : Nat) : va_E := match kd with
  | 0 => .inl (cA 0, n, .inl (M.2.2.1 h))
  | 1 => .inl (cA 1, n, .inr (.inl (M.2.2.2 h)))
  | 2 => .inl (cA 2, n, .inr (.inr (.inr (.inr (fun j => (M.2.1 h j).map ad)))))
  | 3 => .inl (cA 3, n, .inr (.inr (.inr (.inr (fun j => (M.2.1 h j).map ad)))))
  | kd + 4 => .inr (kd - 6, (List.range n).map (fun k => mj_upv ad (mj_val M h k (mj_ty (kd - 6) k))))
def mj_ent (ad : Nat → Nat) (cA : Nat → ClassId) (M : mj_M) (h : Nat) : va_E := mj_entK ad cA M h (mj_sh h).1 (mj_sh h).2
def mj_w (ad : Nat → Nat) (cA : Nat → ClassId) (M : mj_M) : va_W := (List.range M.1).map (fun h => (ad h, mj_ent ad cA M h))
def mj_tys (cA : Nat → ClassId) : List (ClassId × FieldType) := [(cA 0, .int), (cA 1, .long), (cA 2, .object RX1), (cA 3, .object RX6)]
def mj_up {α : Type} (f : Nat → Nat → α) (h k : Nat) (v : α) : Nat → Nat → α := fun a b => if a = h ∧ b = k then v else f a b
def mj_cl0 {α : Type} (f : Nat → Nat → α) (h : Nat) (v : α) : Nat → Nat → α := fun a b => if a = h then v else f a b
def mj_cpy {α : Type} (f : Nat → Nat → α) (h0 h1 sp dp n : Nat) : Nat → Nat → α := fun a b => if a = h1 then va_cpy (f h0) (f h1) sp dp n b else f a b
def mj_setI (M : mj_M) (h k : Nat) (v : Int32) : mj_M := (M.1, M.2.1, mj_up M.2.2.1 h k v, M.2.2.2)
def mj_setL (M : mj_M) (h k : Nat) (v : Int64) : mj_M := (M.1, M.2.1, M.2.2.1, mj_up M.2.2.2 h k v)
def mj_setR (M : mj_M) (h k : Nat) (v : Option Nat) : mj_M := (M.1, mj_up M.2.1 h k v, M.2.2.1, M.2.2.2)
def mj_new (M : mj_M) : mj_M := (M.1 + 1, mj_cl0 M.2.1 M.1 none, mj_cl0 M.2.2.1 M.1 0, mj_cl0 M.2.2.2 M.1 0)
theorem mj_w_len (ad : Nat → Nat) (cA : Nat → ClassId) (M : mj_M) : (mj_w ad cA M).length = M.1 := by simp [mj_w]
theorem mj_w_get {ad : Nat → Nat} {cA : Nat → ClassId} {M : mj_M} {h : Nat} (hh : h < M.1) : (mj_w ad cA M)[h]? = some (ad h, mj_ent ad cA M h) := by
  simp [mj_w, hh]
theorem mj_w_inv {ad : Nat → Nat} {cA : Nat → ClassId} {M : mj_M} {h : Nat} {q : Nat × va_E} (hq : (mj_w ad cA M)[h]? = some q) : h < M.1 ∧ q = (ad h, mj_ent ad cA M h) := by
  have hl : h < M.1 := by
    have := (List.getElem?_eq_some_iff.mp hq).1
    rwa [mj_w_len] at this
  refine ⟨hl, ?_⟩
  rw [mj_w_get hl] at hq
  exact (Option.some.inj hq).symm
theorem mj_w_set {ad : Nat → Nat} {cA : Nat → ClassId} {M M' : mj_M} {h : Nat} {e : va_E} (h1 : M'.1 = M.1) (h2 : ∀ a, a ≠ h → mj_ent ad cA M' a = mj_ent ad cA M a) (h3 : mj_ent ad cA M' h = e) : (mj_w ad cA M).set h (ad h, e) = mj_w ad cA M' := by
  apply List.ext_getElem?
  intro k
  rw [List.getElem?_set, mj_w_len]
  by_cases hk : k < M.1
  · by_cases hkh : h = k
    · subst hkh
      rw [if_pos rfl, if_pos hk, mj_w_get (by omega), h3]
    · rw [if_neg hkh, mj_w_get hk, mj_w_get (by omega), h2 k (Ne.symm hkh)]
  · have e1 : (mj_w ad cA M)[k]? = none := List.getElem?_eq_none (by rw [mj_w_len]; omega)
    have e2 : (mj_w ad cA M')[k]? = none := List.getElem?_eq_none (by rw [mj_w_len]; omega)
    rw [e1, e2]
    split
    · split <;> first | rfl | (exfalso; omega)
    · rfl
theorem mj_w_push {ad : Nat → Nat} {cA : Nat → ClassId} {M M' : mj_M} {q : Nat} {e : va_E} (h1 : M'.1 = M.1 + 1) (hq : q = ad M.1) (h2 : ∀ a, a ≠ M.1 → mj_ent ad cA M' a = mj_ent ad cA M a) (h3 : mj_ent ad cA M' M.1 = e) : mj_w ad cA M ++ [(q, e)] = mj_w ad cA M' := by
  subst hq
  apply List.ext_getElem?
  intro k
  by_cases hk : k < M.1
  · rw [List.getElem?_append_left (by rw [mj_w_len]; exact hk), mj_w_get hk, mj_w_get (by omega), h2 k (by omega)]
  · rw [List.getElem?_append_right (by rw [mj_w_len]; omega), mj_w_len]
    by_cases hk2 : k = M.1
    · subst hk2
      rw [Nat.sub_self, mj_w_get (by omega), h3]
      rfl
    · have e2 : (mj_w ad cA M')[k]? = none := List.getElem?_eq_none (by rw [mj_w_len]; omega)
      rw [e2]
      exact List.getElem?_eq_none (by simp; omega)
theorem mj_ent_of {ad : Nat → Nat} {cA : Nat → ClassId} {M M' : mj_M} {a : Nat} (h1 : ∀ k, M'.2.1 a k = M.2.1 a k) (h2 : ∀ k, M'.2.2.1 a k = M.2.2.1 a k) (h3 : ∀ k, M'.2.2.2 a k = M.2.2.2 a k) : mj_ent ad cA M' a = mj_ent ad cA M a := by
  have e1 : M'.2.1 a = M.2.1 a := funext h1
  have e2 : M'.2.2.1 a = M.2.2.1 a := funext h2
  have e3 : M'.2.2.2 a = M.2.2.2 a := funext h3
  have ev : ∀ (k : Nat) (t : FieldType), mj_val M' a k t = mj_val M a k t := by
    intro k t
    cases t <;> simp only [mj_val, e1, e2, e3]
  unfold mj_ent mj_entK
  simp only [e1, e2, e3, ev]
theorem mj_D {base : Nat} {X : Nat → Nat} {cA : Nat → ClassId} {M : mj_M} (hM : M.1 ≤ 9000) : va_D (fun q => base ≤ q) (mj_w (mj_ad base X) cA M) := by
  refine ⟨fun i j p q hi hj e => ?_, fun k q hk => ?_⟩
  · obtain ⟨h1, rfl⟩ := mj_w_inv hi
    obtain ⟨h2, rfl⟩ := mj_w_inv hj
    simp only [mj_ad, if_pos (show i < 9000 by omega), if_pos (show j < 9000 by omega)] at e
    omega
  · obtain ⟨h1, rfl⟩ := mj_w_inv hk
    show base ≤ mj_ad base X k
    simp only [mj_ad, if_pos (show k < 9000 by omega)]
    omega
/-! THE START: what lies outside the cells (the script, the table of kinds, the words' texts), what a call's context is -/
def mj_sLen : List Nat := [6, 5, 5, 4, 4, 7, 5, 4]
def mj_sByt : List (List Int32) := [[115, 116, 114, 101, 101, 116], [104, 111, 117, 115, 101], [115, 104, 97, 107, 101], [99, 111, 105, 110], [115, 104, 117, 116], [100, 97, 121, 112, 97, 114, 116], [102, 114, 111, 110, 116], [110, 101, 120, 116]]
def mj_sTx (i : Nat) : String := (["street", "house", "shake", "coin", "shut", "daypart", "front", "next"] : List String).getD i ""
def mj_sIx (i : Nat) : Nat := ([153, 155, 156, 158, 159, 160, 161, 162] : List Nat).getD i 0
def mj_NW : List Cond := [.methodLinkNest RX7 64 yX1_init "StrengthenFirst", .fieldLinkNest RX8 243 RX5 "faultPlace" "I" "StrengthenFirst", .methodLinkNest RX8 61 yX0_init "StrengthenFirst", .fieldLinkNest RX8 373 RX0 "ran" "I" "StrengthenFirst", .methodLinkNest RX8 81 yX6_init "StrengthenFirst"]
/-- the script (9000) and the table of kinds (9001), by handles: how many, and what they hold -/
abbrev mj_X : Type := Nat → Nat × (Nat → Int32)
def mj_Ext (EX : mj_X) (base : Nat) (X : Nat → Nat) (U : State) : Prop :=
  base ≤ U.heap.size ∧ (∀ j, j = 9000 ∨ j = 9001 → va_T .int (X j) (EX j).1 (fun i => .int ((EX j).2 i)) (fun q => base ≤ q) U U.heap) ∧ va_Z RX8 "ABOVE" "[I" (.ref (X 9001)) (fun q => base ≤ q) U U.heap ∧
  vk_S 8 mj_sLen mj_sByt (fun i => X (9100 + i)) (fun i => X (9200 + i)) (fun q => base ≤ q) U U.heap ∧ (∀ i, i < 8 → vk_R RX5 (mj_sIx i) (mj_sTx i) (X (9100 + i)) U) ∧
  va_Z "java/lang/String" "COMPACT_STRINGS" "Z" (.int 1) (fun q => base ≤ q) U U.heap ∧ (va_Z "jdk/internal/util/Preconditions" "SIOOBE_FORMATTER" "Ljava/util/function/BiFunction;" .null (fun q => base ≤ q) U U.heap ∨ va_Z "jdk/internal/util/Preconditions" "SIOOBE_FORMATTER" "Ljava/util/function/BiFunction;" (.ref (X 9300)) (fun q => base ≤ q) U U.heap) ∧
  (∀ w ∈ mj_NW, va_Nw w U) ∧ va_AO RX1 U ∧ va_AO RX6 U
