/-! THE PROGRAM AS FUNCTIONS: checks, names, loops; rows of the small machine in their form -/
theorem mj_dt {Y : mj_Y} (h : ∀ x ∈ mj_cd Y, decode (mj_by Y) x.1 = .ok x.2) (j : Nat) {pc : Nat} {i : Instr} {len : Nat} (e : (mj_cd Y)[j]? = some (pc, i, len)) : decode (mj_by Y) pc = .ok (i, len) := by
  have h1 := h (pc, i, len) (List.mem_of_getElem? e)
  dsimp only at h1
  exact h1
def mj_ck {A : Type} (b : Bool) (k : Option A) : Option A := if b = true then k else none
theorem mj_ck_some {A : Type} {b : Bool} {k : Option A} {a : A} (h : mj_ck b k = some a) : b = true ∧ k = some a := by
  unfold mj_ck at h
  by_cases hb : b = true
  · rw [if_pos hb] at h; exact ⟨hb, h⟩
  · rw [if_neg hb] at h; cases h
theorem mj_ck_t {A : Type} {b : Bool} {k : Option A} (h : b = true) : mj_ck b k = k := if_pos h
def mj_mw {B A : Type} (x : B) (f : B → Option A) : Option A := f x
theorem mj_mw_some {B A : Type} {x : B} {f : B → Option A} {a : A} (h : mj_mw x f = some a) : ∃ y, y = x ∧ f y = some a := ⟨x, rfl, h⟩
def mj_lp {S A : Type} : Nat → ((S → Option A) → S → Option A) → S → Option A
  | 0, _, _ => none
  | n + 1, B, s => B (mj_lp n B) s
theorem mj_lp_sound {S A : Type} {B : (S → Option A) → S → Option A} {P : S → A → Prop} (hB : ∀ (k : S → Option A) (s : S) (a : A), (∀ s' a', k s' = some a' → P s' a') → B k s = some a → P s a) : ∀ (n : Nat) (s : S) (a : A), mj_lp n B s = some a → P s a := by
  intro n
  induction n with
  | zero => intro s a h; cases h
  | succ n ih => intro s a h; exact hB _ s a (fun s' a' h' => ih s' a' h') h
theorem mj_bind_some {A B : Type} {x : Option A} {f : A → Option B} {b : B} (h : x.bind f = some b) : ∃ a, x = some a ∧ f a = some b := Option.bind_eq_some_iff.mp h
/-- a place of a row, an object of a class: among the cells so far -/
def mj_fb (M : mj_M) (kd a : Nat) (i : Int32) : Bool := decide (a < M.1) && (decide ((mj_sh a).1 = kd) && (decide (0 ≤ i.toInt) && decide (i.toInt < ((mj_sh a).2 : Int))))
def mj_fo (M : mj_M) (c a : Nat) : Bool := decide (a < M.1) && decide (mj_sh a = (c + 10, mj_N c))
def mj_fw (M : mj_M) (kd : Nat) (n : Int32) : Bool := decide (M.1 < 9000) && (decide (0 ≤ n.toInt) && (decide (mj_sh M.1 = (kd, n.toNatClampNeg)) && decide (n.toNatClampNeg ≤ 4096)))
def mj_fc (M : mj_M) (c : Nat) : Bool := decide (M.1 < 9000) && decide (mj_sh M.1 = (c + 10, mj_N c))
def mj_fp (M : mj_M) (kd h0 h1 : Nat) (sp dp n : Int32) : Bool := decide (h0 < M.1) && (decide (h1 < M.1) && (decide ((mj_sh h0).1 = kd) && (decide ((mj_sh h1).1 = kd) && (decide (0 ≤ sp.toInt) && (decide (0 ≤ dp.toInt) && (decide (0 ≤ n.toInt) && (decide (sp.toInt + n.toInt ≤ ((mj_sh h0).2 : Int)) && decide (dp.toInt + n.toInt ≤ ((mj_sh h1).2 : Int)))))))))
theorem mj_fb_use {M : mj_M} {kd a : Nat} {i : Int32} (h : mj_fb M kd a i = true) : a < M.1 ∧ (mj_sh a).1 = kd ∧ vp_in i (mj_sh a).2 := by
  simp only [mj_fb, Bool.and_eq_true, decide_eq_true_eq] at h
  exact ⟨h.1, h.2.1, vp_in_iff.mpr ⟨h.2.2.1, h.2.2.2⟩⟩
theorem mj_fo_use {M : mj_M} {c a : Nat} (h : mj_fo M c a = true) : a < M.1 ∧ mj_sh a = (c + 10, mj_N c) := by
  simp only [mj_fo, Bool.and_eq_true, decide_eq_true_eq] at h
  exact h
theorem mj_nn {n : Int32} (h : 0 ≤ n.toInt) : ¬ n < 0 := by
  rw [Int32.lt_iff_toInt_lt]
  have h0 : (0 : Int32).toInt = 0 := by decide
  omega
theorem mj_nc {n : Int32} (h : 0 ≤ n.toInt) : (n.toNatClampNeg : Int) = n.toInt := by
  show ((n.toInt.toNat : Nat) : Int) = _
  omega
abbrev mj_tl (v : Option Value) (rest : List Value) : List Value := match v with
  | some x => x :: rest
  | none => rest
section MJP
variable {EX : mj_X} {δ : Nat} {Y Y' : mj_Y} {pc idx : Nat} {lv : mj_LV} {st rest as : List Value} {M M1 : mj_M} {r : mj_S}
theorem ml_eqi {x e : Int32} (q : x = e) (hg : mj_Go EX δ Y pc lv (.int x :: rest) M r) : mj_Go EX δ Y pc lv (.int e :: rest) M r := q ▸ hg
theorem ml_eql {x e : Int64} (q : x = e) (hg : mj_Go EX δ Y pc lv (.long x :: rest) M r) : mj_Go EX δ Y pc lv (.long e :: rest) M r := q ▸ hg
theorem ml_eqm {M' : mj_M} (q : M1 = M') (hg : mj_Go EX δ Y pc lv st M1 r) : mj_Go EX δ Y pc lv st M' r := q ▸ hg
theorem ml_iald {a : Nat} {i : Int32} (c : mj_fb M 0 a i = true) (hd : decode (mj_by Y) pc = .ok (.iaload, 1)) (hg : mj_Go EX δ Y (pc + 1) lv (.int (M.2.2.1 a i.toNatClampNeg) :: rest) M r) : mj_Go EX δ Y pc lv (.int i :: .ref a :: rest) M r := mj_go_iald (mj_fb_use c).1 (mj_fb_use c).2.1 (mj_fb_use c).2.2 hd hg
theorem ml_lald {a : Nat} {i : Int32} (c : mj_fb M 1 a i = true) (hd : decode (mj_by Y) pc = .ok (.laload, 1)) (hg : mj_Go EX δ Y (pc + 1) lv (.long (M.2.2.2 a i.toNatClampNeg) :: rest) M r) : mj_Go EX δ Y pc lv (.int i :: .ref a :: rest) M r := mj_go_lald (mj_fb_use c).1 (mj_fb_use c).2.1 (mj_fb_use c).2.2 hd hg
theorem ml_aald2 {a q : Nat} {i : Int32} (c : mj_fb M 2 a i = true) (hx : M.2.1 a i.toNatClampNeg = some q) (hd : decode (mj_by Y) pc = .ok (.aaload, 1)) (hg : mj_Go EX δ Y (pc + 1) lv (.ref q :: rest) M r) : mj_Go EX δ Y pc lv (.int i :: .ref a :: rest) M r := mj_go_aald2 (mj_fb_use c).1 (mj_fb_use c).2.1 (mj_fb_use c).2.2 hx hd hg
theorem ml_aald3 {a q : Nat} {i : Int32} (c : mj_fb M 3 a i = true) (hx : M.2.1 a i.toNatClampNeg = some q) (hd : decode (mj_by Y) pc = .ok (.aaload, 1)) (hg : mj_Go EX δ Y (pc + 1) lv (.ref q :: rest) M r) : mj_Go EX δ Y pc lv (.int i :: .ref a :: rest) M r := mj_go_aald3 (mj_fb_use c).1 (mj_fb_use c).2.1 (mj_fb_use c).2.2 hx hd hg
theorem ml_iast {a : Nat} {i x : Int32} (c : mj_fb M 0 a i = true) (hd : decode (mj_by Y) pc = .ok (.iastore, 1)) (hg : mj_Go EX δ Y (pc + 1) lv rest (mj_setI M a i.toNatClampNeg x) r) : mj_Go EX δ Y pc lv (.int x :: .int i :: .ref a :: rest) M r := mj_go_iast (mj_fb_use c).1 (mj_fb_use c).2.1 (mj_fb_use c).2.2 hd hg
theorem ml_last {a : Nat} {i : Int32} {x : Int64} (c : mj_fb M 1 a i = true) (hd : decode (mj_by Y) pc = .ok (.lastore, 1)) (hg : mj_Go EX δ Y (pc + 1) lv rest (mj_setL M a i.toNatClampNeg x) r) : mj_Go EX δ Y pc lv (.long x :: .int i :: .ref a :: rest) M r := mj_go_last (mj_fb_use c).1 (mj_fb_use c).2.1 (mj_fb_use c).2.2 hd hg
theorem ml_aast2 {a x : Nat} {i : Int32} (c : mj_fb M 2 a i = true) (o : mj_fo M 1 x = true) (hd : decode (mj_by Y) pc = .ok (.aastore, 1)) (hg : mj_Go EX δ Y (pc + 1) lv rest (mj_setR M a i.toNatClampNeg (some x)) r) : mj_Go EX δ Y pc lv (.ref x :: .int i :: .ref a :: rest) M r := mj_go_aast2 (mj_fb_use c).1 (mj_fb_use c).2.1 (mj_fb_use c).2.2 (mj_fo_use o).1 (mj_fo_use o).2 hd hg
theorem ml_aast3 {a x : Nat} {i : Int32} (c : mj_fb M 3 a i = true) (o : mj_fo M 6 x = true) (hd : decode (mj_by Y) pc = .ok (.aastore, 1)) (hg : mj_Go EX δ Y (pc + 1) lv rest (mj_setR M a i.toNatClampNeg (some x)) r) : mj_Go EX δ Y pc lv (.ref x :: .int i :: .ref a :: rest) M r := mj_go_aast3 (mj_fb_use c).1 (mj_fb_use c).2.1 (mj_fb_use c).2.2 (mj_fo_use o).1 (mj_fo_use o).2 hd hg
/-- a field: its place, its kind (0 int, 1 boolean, 2 long, 3 a reference), whether it is final -/
def mj_fk (c k : Nat) : Nat := match mj_ty c k with
  | .int => 0
  | .boolean => 1
  | .long => 2
  | .object _ => 3
  | .array _ => 3
  | _ => 9
def mj_fd (c k kd : Nat) : Bool := decide (c < 10) && (decide (k < mj_N c) && decide (mj_fk c k = kd))
def mj_fq (Y : mj_Y) (c k : Nat) : Bool := !(mj_T c k).2.2.2 || (decide (mj_ii Y = 1) && decide (mj_R c = mj_ow Y))
theorem mj_fd_use {c k kd : Nat} (h : mj_fd c k kd = true) : c < 10 ∧ k < mj_N c ∧ mj_fk c k = kd := by
  simp only [mj_fd, Bool.and_eq_true, decide_eq_true_eq] at h
  exact h
theorem mj_fq_use {c k : Nat} (h : mj_fq Y c k = true) : (mj_T c k).2.2.2 = false ∨ (mj_T c k).2.2.2 = true ∧ mj_ii Y = 1 ∧ mj_R c = mj_ow Y := by
  unfold mj_fq at h
  cases ht : (mj_T c k).2.2.2 with
  | false => exact Or.inl rfl
  | true =>
    rw [ht] at h
    simp at h
    exact Or.inr ⟨rfl, h⟩
theorem mj_fk0 {c k : Nat} (h : mj_fk c k = 0) : mj_ty c k = .int := by
  unfold mj_fk at h
  split at h <;> first | assumption | (exfalso; omega)
theorem mj_fk1 {c k : Nat} (h : mj_fk c k = 1) : mj_ty c k = .boolean := by
  unfold mj_fk at h
  split at h <;> first | assumption | (exfalso; omega)
theorem mj_fk2 {c k : Nat} (h : mj_fk c k = 2) : mj_ty c k = .long := by
  unfold mj_fk at h
  split at h <;> first | assumption | (exfalso; omega)
theorem mj_fk3 {c k : Nat} (h : mj_fk c k = 3) : (∃ n, mj_ty c k = .object n) ∨ ∃ t, mj_ty c k = .array t := by
  unfold mj_fk at h
  split at h <;> first | (exfalso; omega) | exact Or.inl ⟨_, by assumption⟩ | exact Or.inr ⟨_, by assumption⟩
theorem ml_getI {c k a : Nat} (f : mj_fd c k 0 = true ∨ mj_fd c k 1 = true) (hw : mj_fl Y idx c k ∨ mj_fn Y idx c k) (o : mj_fo M c a = true) (hd : decode (mj_by Y) pc = .ok (.getfield idx, 3)) (hg : mj_Go EX δ Y (pc + 3) lv (.int (M.2.2.1 a k) :: rest) M r) : mj_Go EX δ Y pc lv (.ref a :: rest) M r := by
  rcases f with f | f
  · refine mj_go_getf (mj_fd_use f).1 (mj_fd_use f).2.1 hw (mj_fo_use o).1 (mj_fo_use o).2 hd ?_
    rw [mj_fk0 (mj_fd_use f).2.2]
    exact hg
  · refine mj_go_getf (mj_fd_use f).1 (mj_fd_use f).2.1 hw (mj_fo_use o).1 (mj_fo_use o).2 hd ?_
    rw [mj_fk1 (mj_fd_use f).2.2]
    exact hg
theorem ml_getL {c k a : Nat} (f : mj_fd c k 2 = true) (hw : mj_fl Y idx c k ∨ mj_fn Y idx c k) (o : mj_fo M c a = true) (hd : decode (mj_by Y) pc = .ok (.getfield idx, 3)) (hg : mj_Go EX δ Y (pc + 3) lv (.long (M.2.2.2 a k) :: rest) M r) : mj_Go EX δ Y pc lv (.ref a :: rest) M r := by
  refine mj_go_getf (mj_fd_use f).1 (mj_fd_use f).2.1 hw (mj_fo_use o).1 (mj_fo_use o).2 hd ?_
  rw [mj_fk2 (mj_fd_use f).2.2]
  exact hg
theorem ml_getR {c k a q : Nat} (f : mj_fd c k 3 = true) (hx : M.2.1 a k = some q) (hw : mj_fl Y idx c k ∨ mj_fn Y idx c k) (o : mj_fo M c a = true) (hd : decode (mj_by Y) pc = .ok (.getfield idx, 3)) (hg : mj_Go EX δ Y (pc + 3) lv (.ref q :: rest) M r) : mj_Go EX δ Y pc lv (.ref a :: rest) M r := by
  refine mj_go_getf (mj_fd_use f).1 (mj_fd_use f).2.1 hw (mj_fo_use o).1 (mj_fo_use o).2 hd ?_
  rcases mj_fk3 (mj_fd_use f).2.2 with ⟨n, h⟩ | ⟨n, h⟩
  · rw [h]
    show mj_Go EX δ Y (pc + 3) lv (va_rf (M.2.1 a k) :: rest) M r
    rw [hx]
    exact hg
  · rw [h]
    show mj_Go EX δ Y (pc + 3) lv (va_rf (M.2.1 a k) :: rest) M r
    rw [hx]
    exact hg
theorem ml_putI {c k a : Nat} {x : Int32} (f : mj_fd c k 0 = true) (fq : mj_fq Y c k = true) (hw : mj_fl Y idx c k) (o : mj_fo M c a = true) (hd : decode (mj_by Y) pc = .ok (.putfield idx, 3)) (hg : mj_Go EX δ Y (pc + 3) lv rest (mj_setI M a k x) r) : mj_Go EX δ Y pc lv (.int x :: .ref a :: rest) M r := mj_go_putI (mj_fd_use f).1 (mj_fd_use f).2.1 hw (mj_fq_use fq) (mj_fo_use o).1 (mj_fo_use o).2 (mj_fk0 (mj_fd_use f).2.2) hd hg
theorem ml_putZ {c k a : Nat} {x : Int32} (z : (x == 0 || x == 1) = true) (f : mj_fd c k 1 = true) (fq : mj_fq Y c k = true) (hw : mj_fl Y idx c k) (o : mj_fo M c a = true) (hd : decode (mj_by Y) pc = .ok (.putfield idx, 3)) (hg : mj_Go EX δ Y (pc + 3) lv rest (mj_setI M a k x) r) : mj_Go EX δ Y pc lv (.int x :: .ref a :: rest) M r := mj_go_putZ (mj_fd_use f).1 (mj_fd_use f).2.1 hw (mj_fq_use fq) (mj_fo_use o).1 (mj_fo_use o).2 (mj_fk1 (mj_fd_use f).2.2) (by simpa using z) hd hg
theorem ml_putL {c k a : Nat} {x : Int64} (f : mj_fd c k 2 = true) (fq : mj_fq Y c k = true) (hw : mj_fl Y idx c k) (o : mj_fo M c a = true) (hd : decode (mj_by Y) pc = .ok (.putfield idx, 3)) (hg : mj_Go EX δ Y (pc + 3) lv rest (mj_setL M a k x) r) : mj_Go EX δ Y pc lv (.long x :: .ref a :: rest) M r := mj_go_putL (mj_fd_use f).1 (mj_fd_use f).2.1 hw (mj_fq_use fq) (mj_fo_use o).1 (mj_fo_use o).2 (mj_fk2 (mj_fd_use f).2.2) hd hg
theorem ml_putR {c k a x : Nat} (f : mj_fd c k 3 = true) (fq : mj_fq Y c k = true) (hw : mj_fl Y idx c k) (o : mj_fo M c a = true) (hd : decode (mj_by Y) pc = .ok (.putfield idx, 3)) (hg : mj_Go EX δ Y (pc + 3) lv rest (mj_setR M a k (some x)) r) : mj_Go EX δ Y pc lv (.ref x :: .ref a :: rest) M r := mj_go_putR (mj_fd_use f).1 (mj_fd_use f).2.1 hw (mj_fq_use fq) (mj_fo_use o).1 (mj_fo_use o).2 (mj_fk3 (mj_fd_use f).2.2) hd hg
theorem ml_newI {n : Int32} (c : mj_fw M 0 n = true) (hd : decode (mj_by Y) pc = .ok (.newarray .int, 2)) (hg : mj_Go EX δ Y (pc + 2) lv (.ref M.1 :: rest) (mj_new M) r) : mj_Go EX δ Y pc lv (.int n :: rest) M r := by
  simp only [mj_fw, Bool.and_eq_true, decide_eq_true_eq] at c
  exact mj_go_newI (mj_nn c.2.1) c.2.2.1 c.1 c.2.2.2 hd hg
theorem ml_newL {n : Int32} (c : mj_fw M 1 n = true) (hd : decode (mj_by Y) pc = .ok (.newarray .long, 2)) (hg : mj_Go EX δ Y (pc + 2) lv (.ref M.1 :: rest) (mj_new M) r) : mj_Go EX δ Y pc lv (.int n :: rest) M r := by
  simp only [mj_fw, Bool.and_eq_true, decide_eq_true_eq] at c
  exact mj_go_newL (mj_nn c.2.1) c.2.2.1 c.1 c.2.2.2 hd hg
theorem ml_anew {n : Int32} {k c : Nat} (hkc : k = 2 ∧ c = 1 ∨ k = 3 ∧ c = 6) (hw : Cond.classLink (mj_ow Y) idx (mj_R c) ∈ mj_GW) (q : mj_fw M k n = true) (hd : decode (mj_by Y) pc = .ok (.anewarray idx, 3)) (hg : mj_Go EX δ Y (pc + 3) lv (.ref M.1 :: rest) (mj_new M) r) : mj_Go EX δ Y pc lv (.int n :: rest) M r := by
  simp only [mj_fw, Bool.and_eq_true, decide_eq_true_eq] at q
  exact mj_go_anew hkc hw (mj_nn q.2.1) q.2.2.1 q.1 q.2.2.2 hd hg
theorem ml_new {c : Nat} (hc10 : c < 10) (hw : Cond.classLink (mj_ow Y) idx (mj_R c) ∈ mj_GW) (q : mj_fc M c = true) (hd : decode (mj_by Y) pc = .ok (.new idx, 3)) (hg : mj_Go EX δ Y (pc + 3) lv (.ref M.1 :: rest) (mj_new M) r) : mj_Go EX δ Y pc lv rest M r := by
  simp only [mj_fc, Bool.and_eq_true, decide_eq_true_eq] at q
  exact mj_go_new hc10 hw q.2 q.1 hd hg
theorem mj_fp_use {kd h0 h1 : Nat} {sp dp n : Int32} (c : mj_fp M kd h0 h1 sp dp n = true) : h0 < M.1 ∧ h1 < M.1 ∧ (mj_sh h0).1 = kd ∧ (mj_sh h1).1 = kd ∧ ¬ sp < 0 ∧ ¬ dp < 0 ∧ ¬ n < 0 ∧ sp.toNatClampNeg + n.toNatClampNeg ≤ (mj_sh h0).2 ∧ dp.toNatClampNeg + n.toNatClampNeg ≤ (mj_sh h1).2 := by
  simp only [mj_fp, Bool.and_eq_true, decide_eq_true_eq] at c
  obtain ⟨c1, c2, c3, c4, c5, c6, c7, c8, c9⟩ := c
  have e1 := mj_nc c5
  have e2 := mj_nc c6
  have e3 := mj_nc c7
  exact ⟨c1, c2, c3, c4, mj_nn c5, mj_nn c6, mj_nn c7, by omega, by omega⟩
theorem ml_cpyI {h0 h1 : Nat} {sp dp n : Int32} (hw : Cond.methodLink (mj_ow Y) idx arraycopyName ∈ mj_GW) (hcat : (rest.map fun v => v.category).sum ≤ 8) (c : mj_fp M 0 h0 h1 sp dp n = true) (hd : decode (mj_by Y) pc = .ok (.invokestatic idx, 3)) (hg : mj_Go EX δ Y (pc + 3) lv rest (mj_cpI M h0 h1 sp.toNatClampNeg dp.toNatClampNeg n.toNatClampNeg) r) : mj_Go EX δ Y pc lv (.int n :: .int dp :: .ref h1 :: .int sp :: .ref h0 :: rest) M r := by
  obtain ⟨c1, c2, c3, c4, c5, c6, c7, c8, c9⟩ := mj_fp_use c
  exact mj_go_cpyI hw hcat c1 c2 c3 c4 c5 c6 c7 c8 c9 hd hg
theorem ml_cpyL {h0 h1 : Nat} {sp dp n : Int32} (hw : Cond.methodLink (mj_ow Y) idx arraycopyName ∈ mj_GW) (hcat : (rest.map fun v => v.category).sum ≤ 8) (c : mj_fp M 1 h0 h1 sp dp n = true) (hd : decode (mj_by Y) pc = .ok (.invokestatic idx, 3)) (hg : mj_Go EX δ Y (pc + 3) lv rest (mj_cpL M h0 h1 sp.toNatClampNeg dp.toNatClampNeg n.toNatClampNeg) r) : mj_Go EX δ Y pc lv (.int n :: .int dp :: .ref h1 :: .int sp :: .ref h0 :: rest) M r := by
  obtain ⟨c1, c2, c3, c4, c5, c6, c7, c8, c9⟩ := mj_fp_use c
  exact mj_go_cpyL hw hcat c1 c2 c3 c4 c5 c6 c7 c8 c9 hd hg
theorem mj_cat0 {v : Option Value} : v.toList ++ rest = mj_tl v rest := by cases v <;> rfl
theorem ml_callV {h c n : Nat} {v : Option Value} (o : mj_fo M c h = true) (hcn : (decide (c < 10) && decide (mj_R c = mj_ow Y')) = true) (hl : Cond.methodLink (mj_ow Y) idx (mj_nm Y') ∈ mj_GW) (hw : ∀ w ∈ ([.instanceMethod (mj_nm Y'), .selects (mj_ow Y') (mj_nm Y') (mj_nm Y'), .initialized (mj_ow Y'), .code (mj_nm Y') (mj_by Y') (mj_ml Y') (mj_rt Y')] : List Cond), w ∈ mj_GW) (hp : mj_pl Y' n) (hY : mj_OK Y') (hn : as.length = n) (hst : st = as.reverse ++ .ref h :: rest) (hcat : (rest.map fun v => v.category).sum ≤ 8)
    (hcl : mj_Cl EX δ Y' (.ref h :: as) M (v, M1)) (hd : decode (mj_by Y) pc = .ok (.invokevirtual idx, 3)) (hg : mj_Go EX (δ + 1) Y (pc + 3) lv (mj_tl v rest) M1 r) : mj_Go EX (δ + 1) Y pc lv st M r := by
  simp only [Bool.and_eq_true, decide_eq_true_eq] at hcn
  exact mj_go_callV (List.forall_mem_cons.mpr ⟨hl, hw⟩) hp hY.2.2 hcn.1 hcn.2 (mj_fo_use o).2 (mj_fo_use o).1 hn hst hcat hcl hd (by rw [mj_cat0]; exact hg)
theorem ml_callS {n : Nat} {v : Option Value} (hl : Cond.methodLink (mj_ow Y) idx (mj_nm Y') ∈ mj_GW) (hw : ∀ w ∈ ([.static (mj_nm Y'), .initialized (mj_ow Y'), .code (mj_nm Y') (mj_by Y') (mj_ml Y') (mj_rt Y')] : List Cond), w ∈ mj_GW) (hp : mj_pl Y' n) (hY : mj_OK Y') (hn : as.length = n) (hst : st = as.reverse ++ rest) (hcat : (rest.map fun v => v.category).sum ≤ 8)
    (hcl : mj_Cl EX δ Y' as M (v, M1)) (hd : decode (mj_by Y) pc = .ok (.invokestatic idx, 3)) (hg : mj_Go EX (δ + 1) Y (pc + 3) lv (mj_tl v rest) M1 r) : mj_Go EX (δ + 1) Y pc lv st M r :=
  mj_go_callS (List.forall_mem_cons.mpr ⟨hl, hw⟩) hp hY.2.2 hn hst hcat hcl hd (by rw [mj_cat0]; exact hg)
theorem ml_callI {h n : Nat} (hl : Cond.methodLink (mj_ow Y) idx (mj_nm Y') ∈ mj_GW) (hw : ∀ w ∈ ([.instanceMethod (mj_nm Y'), .initialized (mj_ow Y'), .code (mj_nm Y') (mj_by Y') (mj_ml Y') (mj_rt Y')] : List Cond), w ∈ mj_GW) (hp : mj_pl Y' n) (hY : mj_OK Y') (hini : (mj_nm Y').name = "<init>") (hrt : mj_rt Y' = none) (hn : as.length = n) (hst : st = as.reverse ++ .ref h :: rest) (hcat : (rest.map fun v => v.category).sum ≤ 8)
    (hcl : mj_Cl EX δ Y' (.ref h :: as) M (none, M1)) (hd : decode (mj_by Y) pc = .ok (.invokespecial idx, 3)) (hg : mj_Go EX (δ + 1) Y (pc + 3) lv rest M1 r) : mj_Go EX (δ + 1) Y pc lv st M r :=
  mj_go_callI (List.forall_mem_cons.mpr ⟨hl, hw⟩) hp hY.2.2 hini hrt hn hst hcat hcl hd hg
theorem ml_callIN {h n : Nat} (hl : Cond.methodLinkNest (mj_ow Y) idx (mj_nm Y') "StrengthenFirst" ∈ mj_NW) (hw : ∀ w ∈ ([.instanceMethod (mj_nm Y'), .initialized (mj_ow Y'), .code (mj_nm Y') (mj_by Y') (mj_ml Y') (mj_rt Y')] : List Cond), w ∈ mj_GW) (hp : mj_pl Y' n) (hY : mj_OK Y') (hini : (mj_nm Y').name = "<init>") (hrt : mj_rt Y' = none) (hn : as.length = n) (hst : st = as.reverse ++ .ref h :: rest) (hcat : (rest.map fun v => v.category).sum ≤ 8)
    (hcl : mj_Cl EX δ Y' (.ref h :: as) M (none, M1)) (hd : decode (mj_by Y) pc = .ok (.invokespecial idx, 3)) (hg : mj_Go EX (δ + 1) Y (pc + 3) lv rest M1 r) : mj_Go EX (δ + 1) Y pc lv st M r :=
  mj_go_callIN hw hl hp hY.2.2 hini hrt hn hst hcat hcl hd hg
end MJP
