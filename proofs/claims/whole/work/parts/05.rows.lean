/-! GO: from this place of a method the machine comes to its return with that answer and those cells. CL: a method's contract so. -/
def mj_Ctx (EX : mj_X) (δ : Nat) (Y : mj_Y) (p : Program) (R : Room) (s : State) (m : MethodId) (args : Array Value) (meth : Method) (c : Code) (D : va_G) (cA : Nat → ClassId) (base : Nat) (X : Nat → Nat) : Prop :=
  p.tables.exec = Jvm.exec ∧ c.code = mj_by Y ∧ c.maxLocals = mj_ml Y ∧ s.vm.findClass (mj_ow Y) = some m.cls ∧ (∀ w ∈ mj_GW, w.before args s = true) ∧ va_K D mj_cl (mj_tys cA) s ∧ mj_Ext EX base X s ∧ (mj_ii Y = 1 → meth.name = "<init>") ∧ δ + 1 ≤ R.frames ∧ 64 * (δ + 1) ≤ R.locals
/-- the return instruction that fits an answer -/
def mj_ret (Y : mj_Y) (pc : Nat) (v : Option Value) : Prop := match v with
  | none => decode (mj_by Y) pc = .ok (.return_, 1) ∧ mj_rt Y = none
  | some (.int x) => decode (mj_by Y) pc = .ok (.ireturn, 1) ∧ ∃ ty, mj_rt Y = some ty ∧ narrow ty (.int x) = .int x
  | some (.long _) => decode (mj_by Y) pc = .ok (.lreturn, 1) ∧ mj_rt Y = some .long
  | some (.ref _) => decode (mj_by Y) pc = .ok (.areturn, 1) ∧ ∃ n, mj_rt Y = some (.object n)
  | _ => False
abbrev mj_S : Type := Option Value × mj_M
def mj_Go (EX : mj_X) (δ : Nat) (Y : mj_Y) (pc : Nat) (lv : mj_LV) (st : List Value) (M : mj_M) (r : mj_S) : Prop :=
  (M.1 ≤ r.2.1 ∧ r.2.1 ≤ 9000) ∧
  ∀ (p : Program) (l : Launch) (e : Env) (R : Room) (s : State) (m : MethodId) (args : Array Value) (below : List Frame) (meth : Method) (c : Code) (D : va_G) (cA : Nat → ClassId) (base : Nat) (X : Nat → Nat), mj_Ctx EX δ Y p R s m args meth c D cA base X →
    ∀ (Q : State → Prop) (H : Heap) (locs : List Loc) (cells slots : Nat) (ls : Array Slot), lv_has ls (mj_ml Y) (mj_ulv (mj_ad base X) lv) → va_P D mj_cl (mj_w (mj_ad base X) cA M) H → va_S (fun q => base ≤ q) s.heap H locs →
      s.heap.size + cells ≤ base + M.1 → cells + (r.2.1 - M.1) ≤ R.cells → slots + (mj_sl r.2.1 - mj_sl M.1) ≤ R.slots →
      (∀ (pc' : Nat) (ls' : Array Slot) (H' : Heap) (locs' : List Loc), mj_ret Y pc' r.1 → va_P D mj_cl (mj_w (mj_ad base X) cA r.2) H' → va_S (fun q => base ≤ q) s.heap H' locs' → W p l e R s m args below meth c H' locs' (cells + (r.2.1 - M.1)) (slots + (mj_sl r.2.1 - mj_sl M.1)) Q (F0 m pc' ls' (mj_us (mj_ad base X) r.1.toList))) →
      W p l e R s m args below meth c H locs cells slots Q (F0 m pc ls (mj_us (mj_ad base X) st))
/-- the heap's size is told by the count of what was made -/
theorem mj_bd {p : Program} {l : Launch} {e : Env} {R : Room} {s : State} {m : MethodId} {args : Array Value} {below : List Frame} {meth : Method} {c : Code} {H : Heap} {locs : List Loc} {cells slots : Nat} {Q : State → Prop} {g : JFrame} (k : H.size ≤ s.heap.size + cells → W p l e R s m args below meth c H locs cells slots Q g) : W p l e R s m args below meth c H locs cells slots Q g := fun T hT X => k (by rw [← hT]; exact X.heapSize) T hT X
def mj_get (lv : mj_LV) (i : Nat) : Option Value := (lv.find? (fun q => q.1 == i)).map (fun q => q.2)
def mj_st1 (lv : mj_LV) (i : Nat) (v : Value) : mj_LV := (i, v) :: lv.filter (fun q => !(q.1 == i) && !(q.1 + 1 == i && q.2.category == 2))
def mj_st2 (lv : mj_LV) (i : Nat) (v : Value) : mj_LV := (i, v) :: lv.filter (fun q => !(q.1 == i) && (!(q.1 == i + 1) && !(q.1 + 1 == i && q.2.category == 2)))
theorem mj_at {ls : Array Slot} {n : Nat} {ad : Nat → Nat} {lv : mj_LV} {i : Nat} {v : Value} (h : lv_has ls n (mj_ulv ad lv)) (hg : mj_get lv i = some v) : ls[i]? = some (.val (mj_upv ad v)) := by
  unfold mj_get at hg
  cases hf : lv.find? (fun q => q.1 == i) with
  | none => rw [hf] at hg; cases hg
  | some q =>
    rw [hf] at hg
    have hq : q.2 = v := Option.some.inj hg
    have h1 : q ∈ lv := List.mem_of_find?_eq_some hf
    have h2 : (q.1 == i) = true := by have := List.find?_some hf; exact this
    have h3 := h.2.2 (q.1, mj_upv ad q.2) (List.mem_map.mpr ⟨q, h1, rfl⟩)
    rw [← hq, ← (beq_iff_eq.mp h2)]
    exact h3
theorem mj_ulv_filter (ad : Nat → Nat) (f g : Nat × Value → Bool) (hfg : ∀ q : Nat × Value, f (q.1, mj_upv ad q.2) = g q) (lv : mj_LV) : (mj_ulv ad lv).filter f = mj_ulv ad (lv.filter g) := by
  unfold mj_ulv
  rw [List.filter_map]
  congr 1
  apply List.filter_congr
  intro q _
  exact hfg q
theorem mj_ulv_st1 (ad : Nat → Nat) (lv : mj_LV) (i : Nat) (v : Value) : (i, mj_upv ad v) :: (mj_ulv ad lv).filter (fun q => !(q.1 == i) && !(q.1 + 1 == i && q.2.category == 2)) = mj_ulv ad (mj_st1 lv i v) := by
  rw [mj_ulv_filter ad _ (fun q => !(q.1 == i) && !(q.1 + 1 == i && q.2.category == 2)) (fun q => by simp only [mj_upv_cat])]
  rfl
theorem mj_ulv_st2 (ad : Nat → Nat) (lv : mj_LV) (i : Nat) (v : Value) : (i, mj_upv ad v) :: (mj_ulv ad lv).filter (fun q => !(q.1 == i) && (!(q.1 == i + 1) && !(q.1 + 1 == i && q.2.category == 2))) = mj_ulv ad (mj_st2 lv i v) := by
  rw [mj_ulv_filter ad _ (fun q => !(q.1 == i) && (!(q.1 == i + 1) && !(q.1 + 1 == i && q.2.category == 2))) (fun q => by simp only [mj_upv_cat])]
  rfl
section MJG
variable {EX : mj_X} {δ : Nat} {Y : mj_Y} {pc : Nat} {lv : mj_LV} {rest : List Value} {M : mj_M} {r : mj_S}
/-- fewer locals are told -/
theorem mj_go_sub {lv' : mj_LV} {st : List Value} (h : ∀ q ∈ lv', mj_get lv q.1 = some q.2) (hg : mj_Go EX δ Y pc lv' st M r) : mj_Go EX δ Y pc lv st M r := by
  refine ⟨hg.1, fun p l e R s m args below meth c D cA base X hC Q H locs cells slots ls hl hP hS hz hc hs hk => ?_⟩
  refine hg.2 p l e R s m args below meth c D cA base X hC Q H locs cells slots ls ⟨hl.1, hl.2.1, fun q hq => ?_⟩ hP hS hz hc hs hk
  obtain ⟨q0, h0, rfl⟩ := List.mem_map.mp hq
  exact mj_at hl (h q0 h0)

theorem mj_go_iconst {n : Int} {v : Int32} (hv : Int32.ofInt n = v) (hd : decode (mj_by Y) pc = .ok (.iconst n, 1)) (hg : mj_Go EX δ Y (pc + 1) lv (.int v :: rest) M r) : mj_Go EX δ Y pc lv (rest) M r := by
  refine ⟨hg.1, fun p l e R s m args below meth c D cA base X hC Q H locs cells slots ls hl hP hS hz hc hs hk => ?_⟩
  exact lv_iconst hC.1 hC.2.1 hd hv (hg.2 p l e R s m args below meth c D cA base X hC Q H locs cells slots ls hl hP hS hz hc hs hk)
theorem mj_go_bipush {n : Int} {v : Int32} (hv : (Int8.ofInt n).toInt32 = v) (hd : decode (mj_by Y) pc = .ok (.bipush n, 2)) (hg : mj_Go EX δ Y (pc + 2) lv (.int v :: rest) M r) : mj_Go EX δ Y pc lv (rest) M r := by
  refine ⟨hg.1, fun p l e R s m args below meth c D cA base X hC Q H locs cells slots ls hl hP hS hz hc hs hk => ?_⟩
  exact lv_bipush hC.1 hC.2.1 hd hv (hg.2 p l e R s m args below meth c D cA base X hC Q H locs cells slots ls hl hP hS hz hc hs hk)
theorem mj_go_sipush {n : Int} {v : Int32} (hv : (Int16.ofInt n).toInt32 = v) (hd : decode (mj_by Y) pc = .ok (.sipush n, 3)) (hg : mj_Go EX δ Y (pc + 3) lv (.int v :: rest) M r) : mj_Go EX δ Y pc lv (rest) M r := by
  refine ⟨hg.1, fun p l e R s m args below meth c D cA base X hC Q H locs cells slots ls hl hP hS hz hc hs hk => ?_⟩
  exact lv_sipush hC.1 hC.2.1 hd hv (hg.2 p l e R s m args below meth c D cA base X hC Q H locs cells slots ls hl hP hS hz hc hs hk)
theorem mj_go_lconst {n : Fin 2} {v : Int64} (hv : Int64.ofNat (n : Nat) = v) (hd : decode (mj_by Y) pc = .ok (.lconst n, 1)) (hg : mj_Go EX δ Y (pc + 1) lv (.long v :: rest) M r) : mj_Go EX δ Y pc lv (rest) M r := by
  refine ⟨hg.1, fun p l e R s m args below meth c D cA base X hC Q H locs cells slots ls hl hP hS hz hc hs hk => ?_⟩
  exact lv_lconst hC.1 hC.2.1 hd hv (hg.2 p l e R s m args below meth c D cA base X hC Q H locs cells slots ls hl hP hS hz hc hs hk)
theorem mj_go_iload_n {k : Fin 4} {x : Int32} (hx : mj_get lv (k : Nat) = some (.int x)) (hd : decode (mj_by Y) pc = .ok (.iload_n k, 1)) (hg : mj_Go EX δ Y (pc + 1) lv (.int x :: rest) M r) : mj_Go EX δ Y pc lv (rest) M r := by
  refine ⟨hg.1, fun p l e R s m args below meth c D cA base X hC Q H locs cells slots ls hl hP hS hz hc hs hk => ?_⟩
  exact lv_iload_n hC.1 hC.2.1 hd rfl (mj_at hl hx) (hg.2 p l e R s m args below meth c D cA base X hC Q H locs cells slots ls hl hP hS hz hc hs hk)
theorem mj_go_iload {i : Nat} {x : Int32} (hx : mj_get lv i = some (.int x)) (hd : decode (mj_by Y) pc = .ok (.iload i, 2)) (hg : mj_Go EX δ Y (pc + 2) lv (.int x :: rest) M r) : mj_Go EX δ Y pc lv (rest) M r := by
  refine ⟨hg.1, fun p l e R s m args below meth c D cA base X hC Q H locs cells slots ls hl hP hS hz hc hs hk => ?_⟩
  exact lv_iload hC.1 hC.2.1 hd (mj_at hl hx) (hg.2 p l e R s m args below meth c D cA base X hC Q H locs cells slots ls hl hP hS hz hc hs hk)
theorem mj_go_istore_n {k : Fin 4} {x : Int32} (hi : (k : Nat) < mj_ml Y) (hd : decode (mj_by Y) pc = .ok (.istore_n k, 1)) (hg : mj_Go EX δ Y (pc + 1) (mj_st1 lv (k : Nat) (.int x)) rest M r) : mj_Go EX δ Y pc lv (.int x :: rest) M r := by
  refine ⟨hg.1, fun p l e R s m args below meth c D cA base X hC Q H locs cells slots ls hl hP hS hz hc hs hk => ?_⟩
  exact lv_istore_n hC.1 hC.2.1 hd rfl hl hi (mj_ulv_st1 (mj_ad base X) lv (k : Nat) (.int x)) (fun ls1 hl1 => hg.2 p l e R s m args below meth c D cA base X hC Q H locs cells slots ls1 hl1 hP hS hz hc hs hk)
theorem mj_go_istore {i : Nat} {x : Int32} (hi : i < mj_ml Y) (hd : decode (mj_by Y) pc = .ok (.istore i, 2)) (hg : mj_Go EX δ Y (pc + 2) (mj_st1 lv i (.int x)) rest M r) : mj_Go EX δ Y pc lv (.int x :: rest) M r := by
  refine ⟨hg.1, fun p l e R s m args below meth c D cA base X hC Q H locs cells slots ls hl hP hS hz hc hs hk => ?_⟩
  exact lv_istore hC.1 hC.2.1 hd hl hi (mj_ulv_st1 (mj_ad base X) lv i (.int x)) (fun ls1 hl1 => hg.2 p l e R s m args below meth c D cA base X hC Q H locs cells slots ls1 hl1 hP hS hz hc hs hk)
theorem mj_go_lload_n {k : Fin 4} {x : Int64} (hx : mj_get lv (k : Nat) = some (.long x)) (hd : decode (mj_by Y) pc = .ok (.lload_n k, 1)) (hg : mj_Go EX δ Y (pc + 1) lv (.long x :: rest) M r) : mj_Go EX δ Y pc lv (rest) M r := by
  refine ⟨hg.1, fun p l e R s m args below meth c D cA base X hC Q H locs cells slots ls hl hP hS hz hc hs hk => ?_⟩
  exact lv_lload_n hC.1 hC.2.1 hd rfl (mj_at hl hx) (hg.2 p l e R s m args below meth c D cA base X hC Q H locs cells slots ls hl hP hS hz hc hs hk)
theorem mj_go_lload {i : Nat} {x : Int64} (hx : mj_get lv i = some (.long x)) (hd : decode (mj_by Y) pc = .ok (.lload i, 2)) (hg : mj_Go EX δ Y (pc + 2) lv (.long x :: rest) M r) : mj_Go EX δ Y pc lv (rest) M r := by
  refine ⟨hg.1, fun p l e R s m args below meth c D cA base X hC Q H locs cells slots ls hl hP hS hz hc hs hk => ?_⟩
  exact lv_lload hC.1 hC.2.1 hd (mj_at hl hx) (hg.2 p l e R s m args below meth c D cA base X hC Q H locs cells slots ls hl hP hS hz hc hs hk)
theorem mj_go_lstore_n {k : Fin 4} {x : Int64} (hi : (k : Nat) + 1 < mj_ml Y) (hd : decode (mj_by Y) pc = .ok (.lstore_n k, 1)) (hg : mj_Go EX δ Y (pc + 1) (mj_st2 lv (k : Nat) (.long x)) rest M r) : mj_Go EX δ Y pc lv (.long x :: rest) M r := by
  refine ⟨hg.1, fun p l e R s m args below meth c D cA base X hC Q H locs cells slots ls hl hP hS hz hc hs hk => ?_⟩
  exact lv_lstore_n hC.1 hC.2.1 hd rfl hl hi (mj_ulv_st2 (mj_ad base X) lv (k : Nat) (.long x)) (fun ls1 hl1 => hg.2 p l e R s m args below meth c D cA base X hC Q H locs cells slots ls1 hl1 hP hS hz hc hs hk)
theorem mj_go_lstore {i : Nat} {x : Int64} (hi : i + 1 < mj_ml Y) (hd : decode (mj_by Y) pc = .ok (.lstore i, 2)) (hg : mj_Go EX δ Y (pc + 2) (mj_st2 lv i (.long x)) rest M r) : mj_Go EX δ Y pc lv (.long x :: rest) M r := by
  refine ⟨hg.1, fun p l e R s m args below meth c D cA base X hC Q H locs cells slots ls hl hP hS hz hc hs hk => ?_⟩
  exact lv_lstore hC.1 hC.2.1 hd hl hi (mj_ulv_st2 (mj_ad base X) lv i (.long x)) (fun ls1 hl1 => hg.2 p l e R s m args below meth c D cA base X hC Q H locs cells slots ls1 hl1 hP hS hz hc hs hk)
theorem mj_go_aload_n {k : Fin 4} {x : Nat} (hx : mj_get lv (k : Nat) = some (.ref x)) (hd : decode (mj_by Y) pc = .ok (.aload_n k, 1)) (hg : mj_Go EX δ Y (pc + 1) lv (.ref x :: rest) M r) : mj_Go EX δ Y pc lv (rest) M r := by
  refine ⟨hg.1, fun p l e R s m args below meth c D cA base X hC Q H locs cells slots ls hl hP hS hz hc hs hk => ?_⟩
  exact lv_aload_n hC.1 hC.2.1 hd rfl (mj_at hl hx) (hg.2 p l e R s m args below meth c D cA base X hC Q H locs cells slots ls hl hP hS hz hc hs hk)
theorem mj_go_aload {i : Nat} {x : Nat} (hx : mj_get lv i = some (.ref x)) (hd : decode (mj_by Y) pc = .ok (.aload i, 2)) (hg : mj_Go EX δ Y (pc + 2) lv (.ref x :: rest) M r) : mj_Go EX δ Y pc lv (rest) M r := by
  refine ⟨hg.1, fun p l e R s m args below meth c D cA base X hC Q H locs cells slots ls hl hP hS hz hc hs hk => ?_⟩
  exact lv_aload hC.1 hC.2.1 hd (mj_at hl hx) (hg.2 p l e R s m args below meth c D cA base X hC Q H locs cells slots ls hl hP hS hz hc hs hk)
theorem mj_go_astore_n {k : Fin 4} {x : Nat} (hi : (k : Nat) < mj_ml Y) (hd : decode (mj_by Y) pc = .ok (.astore_n k, 1)) (hg : mj_Go EX δ Y (pc + 1) (mj_st1 lv (k : Nat) (.ref x)) rest M r) : mj_Go EX δ Y pc lv (.ref x :: rest) M r := by
  refine ⟨hg.1, fun p l e R s m args below meth c D cA base X hC Q H locs cells slots ls hl hP hS hz hc hs hk => ?_⟩
  exact lv_astore_n hC.1 hC.2.1 hd rfl hl hi (mj_ulv_st1 (mj_ad base X) lv (k : Nat) (.ref x)) (fun ls1 hl1 => hg.2 p l e R s m args below meth c D cA base X hC Q H locs cells slots ls1 hl1 hP hS hz hc hs hk)
theorem mj_go_astore {i : Nat} {x : Nat} (hi : i < mj_ml Y) (hd : decode (mj_by Y) pc = .ok (.astore i, 2)) (hg : mj_Go EX δ Y (pc + 2) (mj_st1 lv i (.ref x)) rest M r) : mj_Go EX δ Y pc lv (.ref x :: rest) M r := by
  refine ⟨hg.1, fun p l e R s m args below meth c D cA base X hC Q H locs cells slots ls hl hP hS hz hc hs hk => ?_⟩
  exact lv_astore hC.1 hC.2.1 hd hl hi (mj_ulv_st1 (mj_ad base X) lv i (.ref x)) (fun ls1 hl1 => hg.2 p l e R s m args below meth c D cA base X hC Q H locs cells slots ls1 hl1 hP hS hz hc hs hk)
theorem mj_go_iinc {i : Nat} {n : Int} {x v : Int32} (hx : mj_get lv i = some (.int x)) (hv : x + Int32.ofInt n = v) (hi : i < mj_ml Y) (hd : decode (mj_by Y) pc = .ok (.iinc i n, 3)) (hg : mj_Go EX δ Y (pc + 3) (mj_st1 lv i (.int v)) rest M r) : mj_Go EX δ Y pc lv rest M r := by
  refine ⟨hg.1, fun p l e R s m args below meth c D cA base X hC Q H locs cells slots ls hl hP hS hz hc hs hk => ?_⟩
  obtain ⟨k, hk1⟩ : ∃ k : Nat, (mj_ulv (mj_ad base X) lv)[k]? = some (i, Value.int x) := by
    unfold mj_get at hx
    cases hf : lv.find? (fun q => q.1 == i) with
    | none => rw [hf] at hx; cases hx
    | some q =>
      rw [hf] at hx
      have hq : q.2 = .int x := Option.some.inj hx
      have h2 : q.1 = i := beq_iff_eq.mp (by have := List.find?_some hf; exact this)
      have h3 : (i, Value.int x) ∈ mj_ulv (mj_ad base X) lv := List.mem_map.mpr ⟨q, List.mem_of_find?_eq_some hf, by rw [hq, h2]; rfl⟩
      exact List.mem_iff_getElem?.mp h3
  exact lv_iinc hC.1 hC.2.1 hd hl hk1 hv hi (mj_ulv_st1 (mj_ad base X) lv i (.int v)) (fun ls1 hl1 => hg.2 p l e R s m args below meth c D cA base X hC Q H locs cells slots ls1 hl1 hP hS hz hc hs hk)
theorem mj_go_iadd {x y : Int32} (hd : decode (mj_by Y) pc = .ok (.iadd, 1)) (hg : mj_Go EX δ Y (pc + 1) lv (.int (x + y) :: rest) M r) : mj_Go EX δ Y pc lv (.int y :: .int x :: rest) M r := by
  refine ⟨hg.1, fun p l e R s m args below meth c D cA base X hC Q H locs cells slots ls hl hP hS hz hc hs hk => ?_⟩
  exact lv_iadd hC.1 hC.2.1 hd  (hg.2 p l e R s m args below meth c D cA base X hC Q H locs cells slots ls hl hP hS hz hc hs hk)
theorem mj_go_isub {x y : Int32} (hd : decode (mj_by Y) pc = .ok (.isub, 1)) (hg : mj_Go EX δ Y (pc + 1) lv (.int (x - y) :: rest) M r) : mj_Go EX δ Y pc lv (.int y :: .int x :: rest) M r := by
  refine ⟨hg.1, fun p l e R s m args below meth c D cA base X hC Q H locs cells slots ls hl hP hS hz hc hs hk => ?_⟩
  exact lv_isub hC.1 hC.2.1 hd  (hg.2 p l e R s m args below meth c D cA base X hC Q H locs cells slots ls hl hP hS hz hc hs hk)
theorem mj_go_imul {x y : Int32} (hd : decode (mj_by Y) pc = .ok (.imul, 1)) (hg : mj_Go EX δ Y (pc + 1) lv (.int (x * y) :: rest) M r) : mj_Go EX δ Y pc lv (.int y :: .int x :: rest) M r := by
  refine ⟨hg.1, fun p l e R s m args below meth c D cA base X hC Q H locs cells slots ls hl hP hS hz hc hs hk => ?_⟩
  exact lv_imul hC.1 hC.2.1 hd  (hg.2 p l e R s m args below meth c D cA base X hC Q H locs cells slots ls hl hP hS hz hc hs hk)
theorem mj_go_iand {x y : Int32} (hd : decode (mj_by Y) pc = .ok (.iand, 1)) (hg : mj_Go EX δ Y (pc + 1) lv (.int (x &&& y) :: rest) M r) : mj_Go EX δ Y pc lv (.int y :: .int x :: rest) M r := by
  refine ⟨hg.1, fun p l e R s m args below meth c D cA base X hC Q H locs cells slots ls hl hP hS hz hc hs hk => ?_⟩
  exact lv_iand hC.1 hC.2.1 hd  (hg.2 p l e R s m args below meth c D cA base X hC Q H locs cells slots ls hl hP hS hz hc hs hk)
theorem mj_go_ior {x y : Int32} (hd : decode (mj_by Y) pc = .ok (.ior, 1)) (hg : mj_Go EX δ Y (pc + 1) lv (.int (x ||| y) :: rest) M r) : mj_Go EX δ Y pc lv (.int y :: .int x :: rest) M r := by
  refine ⟨hg.1, fun p l e R s m args below meth c D cA base X hC Q H locs cells slots ls hl hP hS hz hc hs hk => ?_⟩
  exact lv_ior hC.1 hC.2.1 hd  (hg.2 p l e R s m args below meth c D cA base X hC Q H locs cells slots ls hl hP hS hz hc hs hk)
theorem mj_go_ixor {x y : Int32} (hd : decode (mj_by Y) pc = .ok (.ixor, 1)) (hg : mj_Go EX δ Y (pc + 1) lv (.int (x ^^^ y) :: rest) M r) : mj_Go EX δ Y pc lv (.int y :: .int x :: rest) M r := by
  refine ⟨hg.1, fun p l e R s m args below meth c D cA base X hC Q H locs cells slots ls hl hP hS hz hc hs hk => ?_⟩
  exact lv_ixor hC.1 hC.2.1 hd  (hg.2 p l e R s m args below meth c D cA base X hC Q H locs cells slots ls hl hP hS hz hc hs hk)
theorem mj_go_idiv {x y : Int32} (hy : ¬ y = 0) (hd : decode (mj_by Y) pc = .ok (.idiv, 1)) (hg : mj_Go EX δ Y (pc + 1) lv (.int (x / y) :: rest) M r) : mj_Go EX δ Y pc lv (.int y :: .int x :: rest) M r := by
  refine ⟨hg.1, fun p l e R s m args below meth c D cA base X hC Q H locs cells slots ls hl hP hS hz hc hs hk => ?_⟩
  exact lv_idiv hC.1 hC.2.1 hd hy (hg.2 p l e R s m args below meth c D cA base X hC Q H locs cells slots ls hl hP hS hz hc hs hk)
theorem mj_go_irem {x y : Int32} (hy : ¬ y = 0) (hd : decode (mj_by Y) pc = .ok (.irem, 1)) (hg : mj_Go EX δ Y (pc + 1) lv (.int (x - x / y * y) :: rest) M r) : mj_Go EX δ Y pc lv (.int y :: .int x :: rest) M r := by
  refine ⟨hg.1, fun p l e R s m args below meth c D cA base X hC Q H locs cells slots ls hl hP hS hz hc hs hk => ?_⟩
  exact lv_irem hC.1 hC.2.1 hd hy (hg.2 p l e R s m args below meth c D cA base X hC Q H locs cells slots ls hl hP hS hz hc hs hk)
theorem mj_go_ineg {x : Int32} (hd : decode (mj_by Y) pc = .ok (.ineg, 1)) (hg : mj_Go EX δ Y (pc + 1) lv (.int (-x) :: rest) M r) : mj_Go EX δ Y pc lv (.int x :: rest) M r := by
  refine ⟨hg.1, fun p l e R s m args below meth c D cA base X hC Q H locs cells slots ls hl hP hS hz hc hs hk => ?_⟩
  exact lv_ineg hC.1 hC.2.1 hd  (hg.2 p l e R s m args below meth c D cA base X hC Q H locs cells slots ls hl hP hS hz hc hs hk)
theorem mj_go_ladd {x y : Int64} (hd : decode (mj_by Y) pc = .ok (.ladd, 1)) (hg : mj_Go EX δ Y (pc + 1) lv (.long (x + y) :: rest) M r) : mj_Go EX δ Y pc lv (.long y :: .long x :: rest) M r := by
  refine ⟨hg.1, fun p l e R s m args below meth c D cA base X hC Q H locs cells slots ls hl hP hS hz hc hs hk => ?_⟩
  exact lv_ladd hC.1 hC.2.1 hd  (hg.2 p l e R s m args below meth c D cA base X hC Q H locs cells slots ls hl hP hS hz hc hs hk)
theorem mj_go_lsub {x y : Int64} (hd : decode (mj_by Y) pc = .ok (.lsub, 1)) (hg : mj_Go EX δ Y (pc + 1) lv (.long (x - y) :: rest) M r) : mj_Go EX δ Y pc lv (.long y :: .long x :: rest) M r := by
  refine ⟨hg.1, fun p l e R s m args below meth c D cA base X hC Q H locs cells slots ls hl hP hS hz hc hs hk => ?_⟩
  exact lv_lsub hC.1 hC.2.1 hd  (hg.2 p l e R s m args below meth c D cA base X hC Q H locs cells slots ls hl hP hS hz hc hs hk)
theorem mj_go_lmul {x y : Int64} (hd : decode (mj_by Y) pc = .ok (.lmul, 1)) (hg : mj_Go EX δ Y (pc + 1) lv (.long (x * y) :: rest) M r) : mj_Go EX δ Y pc lv (.long y :: .long x :: rest) M r := by
  refine ⟨hg.1, fun p l e R s m args below meth c D cA base X hC Q H locs cells slots ls hl hP hS hz hc hs hk => ?_⟩
  exact lv_lmul hC.1 hC.2.1 hd  (hg.2 p l e R s m args below meth c D cA base X hC Q H locs cells slots ls hl hP hS hz hc hs hk)
theorem mj_go_land {x y : Int64} (hd : decode (mj_by Y) pc = .ok (.land, 1)) (hg : mj_Go EX δ Y (pc + 1) lv (.long (x &&& y) :: rest) M r) : mj_Go EX δ Y pc lv (.long y :: .long x :: rest) M r := by
  refine ⟨hg.1, fun p l e R s m args below meth c D cA base X hC Q H locs cells slots ls hl hP hS hz hc hs hk => ?_⟩
  exact lv_land hC.1 hC.2.1 hd  (hg.2 p l e R s m args below meth c D cA base X hC Q H locs cells slots ls hl hP hS hz hc hs hk)
theorem mj_go_lor {x y : Int64} (hd : decode (mj_by Y) pc = .ok (.lor, 1)) (hg : mj_Go EX δ Y (pc + 1) lv (.long (x ||| y) :: rest) M r) : mj_Go EX δ Y pc lv (.long y :: .long x :: rest) M r := by
  refine ⟨hg.1, fun p l e R s m args below meth c D cA base X hC Q H locs cells slots ls hl hP hS hz hc hs hk => ?_⟩
  exact lv_lor hC.1 hC.2.1 hd  (hg.2 p l e R s m args below meth c D cA base X hC Q H locs cells slots ls hl hP hS hz hc hs hk)
theorem mj_go_ldiv {x y : Int64} (hy : ¬ y = 0) (hd : decode (mj_by Y) pc = .ok (.ldiv, 1)) (hg : mj_Go EX δ Y (pc + 1) lv (.long (x / y) :: rest) M r) : mj_Go EX δ Y pc lv (.long y :: .long x :: rest) M r := by
  refine ⟨hg.1, fun p l e R s m args below meth c D cA base X hC Q H locs cells slots ls hl hP hS hz hc hs hk => ?_⟩
  exact lv_ldiv hC.1 hC.2.1 hd hy (hg.2 p l e R s m args below meth c D cA base X hC Q H locs cells slots ls hl hP hS hz hc hs hk)
theorem mj_go_ishl {x y : Int32} (hd : decode (mj_by Y) pc = .ok (.ishl, 1)) (hg : mj_Go EX δ Y (pc + 1) lv (.int (x <<< (y &&& 31)) :: rest) M r) : mj_Go EX δ Y pc lv (.int y :: .int x :: rest) M r := by
  refine ⟨hg.1, fun p l e R s m args below meth c D cA base X hC Q H locs cells slots ls hl hP hS hz hc hs hk => ?_⟩
  exact lv_ishl hC.1 hC.2.1 hd  (hg.2 p l e R s m args below meth c D cA base X hC Q H locs cells slots ls hl hP hS hz hc hs hk)
theorem mj_go_ishr {x y : Int32} (hd : decode (mj_by Y) pc = .ok (.ishr, 1)) (hg : mj_Go EX δ Y (pc + 1) lv (.int (x >>> (y &&& 31)) :: rest) M r) : mj_Go EX δ Y pc lv (.int y :: .int x :: rest) M r := by
  refine ⟨hg.1, fun p l e R s m args below meth c D cA base X hC Q H locs cells slots ls hl hP hS hz hc hs hk => ?_⟩
  exact lv_ishr hC.1 hC.2.1 hd  (hg.2 p l e R s m args below meth c D cA base X hC Q H locs cells slots ls hl hP hS hz hc hs hk)
theorem mj_go_iushr {x y : Int32} (hd : decode (mj_by Y) pc = .ok (.iushr, 1)) (hg : mj_Go EX δ Y (pc + 1) lv (.int (x.toUInt32 >>> (y.toUInt32 &&& Int32.toUInt32 31)).toInt32 :: rest) M r) : mj_Go EX δ Y pc lv (.int y :: .int x :: rest) M r := by
  refine ⟨hg.1, fun p l e R s m args below meth c D cA base X hC Q H locs cells slots ls hl hP hS hz hc hs hk => ?_⟩
  exact lv_iushr hC.1 hC.2.1 hd rfl (hg.2 p l e R s m args below meth c D cA base X hC Q H locs cells slots ls hl hP hS hz hc hs hk)
theorem mj_go_lshl {x : Int64} {y : Int32} (hd : decode (mj_by Y) pc = .ok (.lshl, 1)) (hg : mj_Go EX δ Y (pc + 1) lv (.long (x <<< (y.toInt64 &&& 63)) :: rest) M r) : mj_Go EX δ Y pc lv (.int y :: .long x :: rest) M r := by
  refine ⟨hg.1, fun p l e R s m args below meth c D cA base X hC Q H locs cells slots ls hl hP hS hz hc hs hk => ?_⟩
  exact lv_lshl hC.1 hC.2.1 hd rfl (hg.2 p l e R s m args below meth c D cA base X hC Q H locs cells slots ls hl hP hS hz hc hs hk)
theorem mj_go_i2l {x : Int32} (hd : decode (mj_by Y) pc = .ok (.i2l, 1)) (hg : mj_Go EX δ Y (pc + 1) lv (.long x.toInt64 :: rest) M r) : mj_Go EX δ Y pc lv (.int x :: rest) M r := by
  refine ⟨hg.1, fun p l e R s m args below meth c D cA base X hC Q H locs cells slots ls hl hP hS hz hc hs hk => ?_⟩
  exact lv_i2l hC.1 hC.2.1 hd rfl (hg.2 p l e R s m args below meth c D cA base X hC Q H locs cells slots ls hl hP hS hz hc hs hk)
theorem mj_go_l2i {x : Int64} (hd : decode (mj_by Y) pc = .ok (.l2i, 1)) (hg : mj_Go EX δ Y (pc + 1) lv (.int x.toInt32 :: rest) M r) : mj_Go EX δ Y pc lv (.long x :: rest) M r := by
  refine ⟨hg.1, fun p l e R s m args below meth c D cA base X hC Q H locs cells slots ls hl hP hS hz hc hs hk => ?_⟩
  exact lv_l2i hC.1 hC.2.1 hd rfl (hg.2 p l e R s m args below meth c D cA base X hC Q H locs cells slots ls hl hP hS hz hc hs hk)
theorem mj_go_i2b {x : Int32} (hd : decode (mj_by Y) pc = .ok (.i2b, 1)) (hg : mj_Go EX δ Y (pc + 1) lv (.int x.toInt8.toInt32 :: rest) M r) : mj_Go EX δ Y pc lv (.int x :: rest) M r := by
  refine ⟨hg.1, fun p l e R s m args below meth c D cA base X hC Q H locs cells slots ls hl hP hS hz hc hs hk => ?_⟩
  exact lv_i2b hC.1 hC.2.1 hd rfl (hg.2 p l e R s m args below meth c D cA base X hC Q H locs cells slots ls hl hP hS hz hc hs hk)
theorem mj_go_i2s {x : Int32} (hd : decode (mj_by Y) pc = .ok (.i2s, 1)) (hg : mj_Go EX δ Y (pc + 1) lv (.int x.toInt16.toInt32 :: rest) M r) : mj_Go EX δ Y pc lv (.int x :: rest) M r := by
  refine ⟨hg.1, fun p l e R s m args below meth c D cA base X hC Q H locs cells slots ls hl hP hS hz hc hs hk => ?_⟩
  exact lv_i2s hC.1 hC.2.1 hd rfl (hg.2 p l e R s m args below meth c D cA base X hC Q H locs cells slots ls hl hP hS hz hc hs hk)
theorem mj_go_i2c {x : Int32} (hd : decode (mj_by Y) pc = .ok (.i2c, 1)) (hg : mj_Go EX δ Y (pc + 1) lv (.int (x.toUInt32 % 65536).toInt32 :: rest) M r) : mj_Go EX δ Y pc lv (.int x :: rest) M r := by
  refine ⟨hg.1, fun p l e R s m args below meth c D cA base X hC Q H locs cells slots ls hl hP hS hz hc hs hk => ?_⟩
  exact lv_i2c hC.1 hC.2.1 hd rfl (hg.2 p l e R s m args below meth c D cA base X hC Q H locs cells slots ls hl hP hS hz hc hs hk)
theorem mj_go_lcmp {x y : Int64} (hd : decode (mj_by Y) pc = .ok (.lcmp, 1)) (hg : mj_Go EX δ Y (pc + 1) lv (.int (lg_cmp x y) :: rest) M r) : mj_Go EX δ Y pc lv (.long y :: .long x :: rest) M r := by
  refine ⟨hg.1, fun p l e R s m args below meth c D cA base X hC Q H locs cells slots ls hl hP hS hz hc hs hk => ?_⟩
  exact W.lcmp hC.1 hC.2.1 hd  (hg.2 p l e R s m args below meth c D cA base X hC Q H locs cells slots ls hl hP hS hz hc hs hk)
theorem mj_go_dup {v : Value} (hv : v.category = 1) (hd : decode (mj_by Y) pc = .ok (.dup, 1)) (hg : mj_Go EX δ Y (pc + 1) lv (v :: v :: rest) M r) : mj_Go EX δ Y pc lv (v :: rest) M r := by
  refine ⟨hg.1, fun p l e R s m args below meth c D cA base X hC Q H locs cells slots ls hl hP hS hz hc hs hk => ?_⟩
  exact lv_dup hC.1 hC.2.1 hd ((mj_upv_cat _ _).trans hv) (hg.2 p l e R s m args below meth c D cA base X hC Q H locs cells slots ls hl hP hS hz hc hs hk)
theorem mj_go_pop {v : Value} (hv : v.category = 1) (hd : decode (mj_by Y) pc = .ok (.pop, 1)) (hg : mj_Go EX δ Y (pc + 1) lv (rest) M r) : mj_Go EX δ Y pc lv (v :: rest) M r := by
  refine ⟨hg.1, fun p l e R s m args below meth c D cA base X hC Q H locs cells slots ls hl hP hS hz hc hs hk => ?_⟩
  exact lv_pop hC.1 hC.2.1 hd ((mj_upv_cat _ _).trans hv) (hg.2 p l e R s m args below meth c D cA base X hC Q H locs cells slots ls hl hP hS hz hc hs hk)
theorem mj_go_dup_x1 {v w : Value} (hv : v.category = 1) (hw : w.category = 1) (hd : decode (mj_by Y) pc = .ok (.dup_x1, 1)) (hg : mj_Go EX δ Y (pc + 1) lv (v :: w :: v :: rest) M r) : mj_Go EX δ Y pc lv (v :: w :: rest) M r := by
  refine ⟨hg.1, fun p l e R s m args below meth c D cA base X hC Q H locs cells slots ls hl hP hS hz hc hs hk => ?_⟩
  exact lv_dup_x1 hC.1 hC.2.1 hd ((mj_upv_cat _ _).trans hv) ((mj_upv_cat _ _).trans hw) (hg.2 p l e R s m args below meth c D cA base X hC Q H locs cells slots ls hl hP hS hz hc hs hk)
theorem mj_go_dup2_11 {v w : Value} (hv : v.category = 1) (hw : w.category = 1) (hd : decode (mj_by Y) pc = .ok (.dup2, 1)) (hg : mj_Go EX δ Y (pc + 1) lv (v :: w :: v :: w :: rest) M r) : mj_Go EX δ Y pc lv (v :: w :: rest) M r := by
  refine ⟨hg.1, fun p l e R s m args below meth c D cA base X hC Q H locs cells slots ls hl hP hS hz hc hs hk => ?_⟩
  exact lv_dup2_11 hC.1 hC.2.1 hd ((mj_upv_cat _ _).trans hv) ((mj_upv_cat _ _).trans hw) (hg.2 p l e R s m args below meth c D cA base X hC Q H locs cells slots ls hl hP hS hz hc hs hk)
theorem mj_go_dup2_2 {v : Value} (hv : v.category = 2) (hd : decode (mj_by Y) pc = .ok (.dup2, 1)) (hg : mj_Go EX δ Y (pc + 1) lv (v :: v :: rest) M r) : mj_Go EX δ Y pc lv (v :: rest) M r := by
  refine ⟨hg.1, fun p l e R s m args below meth c D cA base X hC Q H locs cells slots ls hl hP hS hz hc hs hk => ?_⟩
  exact lv_dup2_2 hC.1 hC.2.1 hd ((mj_upv_cat _ _).trans hv) (hg.2 p l e R s m args below meth c D cA base X hC Q H locs cells slots ls hl hP hS hz hc hs hk)
theorem mj_go_pop2_2 {v : Value} (hv : v.category = 2) (hd : decode (mj_by Y) pc = .ok (.pop2, 1)) (hg : mj_Go EX δ Y (pc + 1) lv (rest) M r) : mj_Go EX δ Y pc lv (v :: rest) M r := by
  refine ⟨hg.1, fun p l e R s m args below meth c D cA base X hC Q H locs cells slots ls hl hP hS hz hc hs hk => ?_⟩
  exact lv_pop2_2 hC.1 hC.2.1 hd ((mj_upv_cat _ _).trans hv) (hg.2 p l e R s m args below meth c D cA base X hC Q H locs cells slots ls hl hP hS hz hc hs hk)
theorem mj_go_pop2_11 {v w : Value} (hv : v.category = 1) (hw : w.category = 1) (hd : decode (mj_by Y) pc = .ok (.pop2, 1)) (hg : mj_Go EX δ Y (pc + 1) lv (rest) M r) : mj_Go EX δ Y pc lv (v :: w :: rest) M r := by
  refine ⟨hg.1, fun p l e R s m args below meth c D cA base X hC Q H locs cells slots ls hl hP hS hz hc hs hk => ?_⟩
  exact lv_pop2_11 hC.1 hC.2.1 hd ((mj_upv_cat _ _).trans hv) ((mj_upv_cat _ _).trans hw) (hg.2 p l e R s m args below meth c D cA base X hC Q H locs cells slots ls hl hP hS hz hc hs hk)
theorem mj_go_goto {off : Int} {tgt : Nat} (ht : (pc : Int) + off = (tgt : Int)) (hd : decode (mj_by Y) pc = .ok (.goto off, 3)) (hg : mj_Go EX δ Y tgt lv rest M r) : mj_Go EX δ Y pc lv rest M r := by
  refine ⟨hg.1, fun p l e R s m args below meth c D cA base X hC Q H locs cells slots ls hl hP hS hz hc hs hk => ?_⟩
  exact lv_goto hC.1 hC.2.1 hd ht (hg.2 p l e R s m args below meth c D cA base X hC Q H locs cells slots ls hl hP hS hz hc hs hk)
theorem mj_go_if_eq {x : Int32} {off : Int} {tgt : Nat} (ht : (pc : Int) + off = (tgt : Int)) (hd : decode (mj_by Y) pc = .ok (.ifCond .eq off, 3)) (kt : x = 0 → mj_Go EX δ Y tgt lv rest M r) (kf : ¬ x = 0 → mj_Go EX δ Y (pc + 3) lv rest M r) : mj_Go EX δ Y pc lv (.int x :: rest) M r := by
  refine ⟨(Classical.em (x = 0)).elim (fun h => (kt h).1) (fun h => (kf h).1), fun p l e R s m args below meth c D cA base X hC Q H locs cells slots ls hl hP hS hz hc hs hk => ?_⟩
  exact lv_if_eq hC.1 hC.2.1 hd ht (fun h => (kt h).2 p l e R s m args below meth c D cA base X hC Q H locs cells slots ls hl hP hS hz hc hs hk) (fun h => (kf h).2 p l e R s m args below meth c D cA base X hC Q H locs cells slots ls hl hP hS hz hc hs hk)
theorem mj_go_icmp_eq {x y : Int32} {off : Int} {tgt : Nat} (ht : (pc : Int) + off = (tgt : Int)) (hd : decode (mj_by Y) pc = .ok (.if_icmp .eq off, 3)) (kt : x = y → mj_Go EX δ Y tgt lv rest M r) (kf : ¬ x = y → mj_Go EX δ Y (pc + 3) lv rest M r) : mj_Go EX δ Y pc lv (.int y :: .int x :: rest) M r := by
  refine ⟨(Classical.em (x = y)).elim (fun h => (kt h).1) (fun h => (kf h).1), fun p l e R s m args below meth c D cA base X hC Q H locs cells slots ls hl hP hS hz hc hs hk => ?_⟩
  exact lv_icmp_eq hC.1 hC.2.1 hd ht (fun h => (kt h).2 p l e R s m args below meth c D cA base X hC Q H locs cells slots ls hl hP hS hz hc hs hk) (fun h => (kf h).2 p l e R s m args below meth c D cA base X hC Q H locs cells slots ls hl hP hS hz hc hs hk)
theorem mj_go_if_ne {x : Int32} {off : Int} {tgt : Nat} (ht : (pc : Int) + off = (tgt : Int)) (hd : decode (mj_by Y) pc = .ok (.ifCond .ne off, 3)) (kt : ¬ x = 0 → mj_Go EX δ Y tgt lv rest M r) (kf : x = 0 → mj_Go EX δ Y (pc + 3) lv rest M r) : mj_Go EX δ Y pc lv (.int x :: rest) M r := by
  refine ⟨(Classical.em (¬ x = 0)).elim (fun h => (kt h).1) (fun h => (kf (Classical.not_not.mp h)).1), fun p l e R s m args below meth c D cA base X hC Q H locs cells slots ls hl hP hS hz hc hs hk => ?_⟩
  exact lv_if_ne hC.1 hC.2.1 hd ht (fun h => (kt h).2 p l e R s m args below meth c D cA base X hC Q H locs cells slots ls hl hP hS hz hc hs hk) (fun h => (kf h).2 p l e R s m args below meth c D cA base X hC Q H locs cells slots ls hl hP hS hz hc hs hk)
theorem mj_go_icmp_ne {x y : Int32} {off : Int} {tgt : Nat} (ht : (pc : Int) + off = (tgt : Int)) (hd : decode (mj_by Y) pc = .ok (.if_icmp .ne off, 3)) (kt : ¬ x = y → mj_Go EX δ Y tgt lv rest M r) (kf : x = y → mj_Go EX δ Y (pc + 3) lv rest M r) : mj_Go EX δ Y pc lv (.int y :: .int x :: rest) M r := by
  refine ⟨(Classical.em (¬ x = y)).elim (fun h => (kt h).1) (fun h => (kf (Classical.not_not.mp h)).1), fun p l e R s m args below meth c D cA base X hC Q H locs cells slots ls hl hP hS hz hc hs hk => ?_⟩
  exact lv_icmp_ne hC.1 hC.2.1 hd ht (fun h => (kt h).2 p l e R s m args below meth c D cA base X hC Q H locs cells slots ls hl hP hS hz hc hs hk) (fun h => (kf h).2 p l e R s m args below meth c D cA base X hC Q H locs cells slots ls hl hP hS hz hc hs hk)
theorem mj_go_if_lt {x : Int32} {off : Int} {tgt : Nat} (ht : (pc : Int) + off = (tgt : Int)) (hd : decode (mj_by Y) pc = .ok (.ifCond .lt off, 3)) (kt : x < 0 → mj_Go EX δ Y tgt lv rest M r) (kf : ¬ (x < 0) → mj_Go EX δ Y (pc + 3) lv rest M r) : mj_Go EX δ Y pc lv (.int x :: rest) M r := by
  refine ⟨(Classical.em (x < 0)).elim (fun h => (kt h).1) (fun h => (kf h).1), fun p l e R s m args below meth c D cA base X hC Q H locs cells slots ls hl hP hS hz hc hs hk => ?_⟩
  exact lv_if_lt hC.1 hC.2.1 hd ht (fun h => (kt h).2 p l e R s m args below meth c D cA base X hC Q H locs cells slots ls hl hP hS hz hc hs hk) (fun h => (kf h).2 p l e R s m args below meth c D cA base X hC Q H locs cells slots ls hl hP hS hz hc hs hk)
theorem mj_go_icmp_lt {x y : Int32} {off : Int} {tgt : Nat} (ht : (pc : Int) + off = (tgt : Int)) (hd : decode (mj_by Y) pc = .ok (.if_icmp .lt off, 3)) (kt : x < y → mj_Go EX δ Y tgt lv rest M r) (kf : ¬ (x < y) → mj_Go EX δ Y (pc + 3) lv rest M r) : mj_Go EX δ Y pc lv (.int y :: .int x :: rest) M r := by
  refine ⟨(Classical.em (x < y)).elim (fun h => (kt h).1) (fun h => (kf h).1), fun p l e R s m args below meth c D cA base X hC Q H locs cells slots ls hl hP hS hz hc hs hk => ?_⟩
  exact lv_icmp_lt hC.1 hC.2.1 hd ht (fun h => (kt h).2 p l e R s m args below meth c D cA base X hC Q H locs cells slots ls hl hP hS hz hc hs hk) (fun h => (kf h).2 p l e R s m args below meth c D cA base X hC Q H locs cells slots ls hl hP hS hz hc hs hk)
theorem mj_go_if_ge {x : Int32} {off : Int} {tgt : Nat} (ht : (pc : Int) + off = (tgt : Int)) (hd : decode (mj_by Y) pc = .ok (.ifCond .ge off, 3)) (kt : 0 ≤ x → mj_Go EX δ Y tgt lv rest M r) (kf : ¬ (0 ≤ x) → mj_Go EX δ Y (pc + 3) lv rest M r) : mj_Go EX δ Y pc lv (.int x :: rest) M r := by
  refine ⟨(Classical.em (0 ≤ x)).elim (fun h => (kt h).1) (fun h => (kf h).1), fun p l e R s m args below meth c D cA base X hC Q H locs cells slots ls hl hP hS hz hc hs hk => ?_⟩
  exact lv_if_ge hC.1 hC.2.1 hd ht (fun h => (kt h).2 p l e R s m args below meth c D cA base X hC Q H locs cells slots ls hl hP hS hz hc hs hk) (fun h => (kf h).2 p l e R s m args below meth c D cA base X hC Q H locs cells slots ls hl hP hS hz hc hs hk)
theorem mj_go_icmp_ge {x y : Int32} {off : Int} {tgt : Nat} (ht : (pc : Int) + off = (tgt : Int)) (hd : decode (mj_by Y) pc = .ok (.if_icmp .ge off, 3)) (kt : y ≤ x → mj_Go EX δ Y tgt lv rest M r) (kf : ¬ (y ≤ x) → mj_Go EX δ Y (pc + 3) lv rest M r) : mj_Go EX δ Y pc lv (.int y :: .int x :: rest) M r := by
  refine ⟨(Classical.em (y ≤ x)).elim (fun h => (kt h).1) (fun h => (kf h).1), fun p l e R s m args below meth c D cA base X hC Q H locs cells slots ls hl hP hS hz hc hs hk => ?_⟩
  exact lv_icmp_ge hC.1 hC.2.1 hd ht (fun h => (kt h).2 p l e R s m args below meth c D cA base X hC Q H locs cells slots ls hl hP hS hz hc hs hk) (fun h => (kf h).2 p l e R s m args below meth c D cA base X hC Q H locs cells slots ls hl hP hS hz hc hs hk)
theorem mj_go_if_gt {x : Int32} {off : Int} {tgt : Nat} (ht : (pc : Int) + off = (tgt : Int)) (hd : decode (mj_by Y) pc = .ok (.ifCond .gt off, 3)) (kt : 0 < x → mj_Go EX δ Y tgt lv rest M r) (kf : ¬ (0 < x) → mj_Go EX δ Y (pc + 3) lv rest M r) : mj_Go EX δ Y pc lv (.int x :: rest) M r := by
  refine ⟨(Classical.em (0 < x)).elim (fun h => (kt h).1) (fun h => (kf h).1), fun p l e R s m args below meth c D cA base X hC Q H locs cells slots ls hl hP hS hz hc hs hk => ?_⟩
  exact lv_if_gt hC.1 hC.2.1 hd ht (fun h => (kt h).2 p l e R s m args below meth c D cA base X hC Q H locs cells slots ls hl hP hS hz hc hs hk) (fun h => (kf h).2 p l e R s m args below meth c D cA base X hC Q H locs cells slots ls hl hP hS hz hc hs hk)
theorem mj_go_icmp_gt {x y : Int32} {off : Int} {tgt : Nat} (ht : (pc : Int) + off = (tgt : Int)) (hd : decode (mj_by Y) pc = .ok (.if_icmp .gt off, 3)) (kt : y < x → mj_Go EX δ Y tgt lv rest M r) (kf : ¬ (y < x) → mj_Go EX δ Y (pc + 3) lv rest M r) : mj_Go EX δ Y pc lv (.int y :: .int x :: rest) M r := by
  refine ⟨(Classical.em (y < x)).elim (fun h => (kt h).1) (fun h => (kf h).1), fun p l e R s m args below meth c D cA base X hC Q H locs cells slots ls hl hP hS hz hc hs hk => ?_⟩
  exact lv_icmp_gt hC.1 hC.2.1 hd ht (fun h => (kt h).2 p l e R s m args below meth c D cA base X hC Q H locs cells slots ls hl hP hS hz hc hs hk) (fun h => (kf h).2 p l e R s m args below meth c D cA base X hC Q H locs cells slots ls hl hP hS hz hc hs hk)
theorem mj_go_if_le {x : Int32} {off : Int} {tgt : Nat} (ht : (pc : Int) + off = (tgt : Int)) (hd : decode (mj_by Y) pc = .ok (.ifCond .le off, 3)) (kt : x ≤ 0 → mj_Go EX δ Y tgt lv rest M r) (kf : ¬ (x ≤ 0) → mj_Go EX δ Y (pc + 3) lv rest M r) : mj_Go EX δ Y pc lv (.int x :: rest) M r := by
  refine ⟨(Classical.em (x ≤ 0)).elim (fun h => (kt h).1) (fun h => (kf h).1), fun p l e R s m args below meth c D cA base X hC Q H locs cells slots ls hl hP hS hz hc hs hk => ?_⟩
  exact lv_if_le hC.1 hC.2.1 hd ht (fun h => (kt h).2 p l e R s m args below meth c D cA base X hC Q H locs cells slots ls hl hP hS hz hc hs hk) (fun h => (kf h).2 p l e R s m args below meth c D cA base X hC Q H locs cells slots ls hl hP hS hz hc hs hk)
theorem mj_go_icmp_le {x y : Int32} {off : Int} {tgt : Nat} (ht : (pc : Int) + off = (tgt : Int)) (hd : decode (mj_by Y) pc = .ok (.if_icmp .le off, 3)) (kt : x ≤ y → mj_Go EX δ Y tgt lv rest M r) (kf : ¬ (x ≤ y) → mj_Go EX δ Y (pc + 3) lv rest M r) : mj_Go EX δ Y pc lv (.int y :: .int x :: rest) M r := by
  refine ⟨(Classical.em (x ≤ y)).elim (fun h => (kt h).1) (fun h => (kf h).1), fun p l e R s m args below meth c D cA base X hC Q H locs cells slots ls hl hP hS hz hc hs hk => ?_⟩
  exact lv_icmp_le hC.1 hC.2.1 hd ht (fun h => (kt h).2 p l e R s m args below meth c D cA base X hC Q H locs cells slots ls hl hP hS hz hc hs hk) (fun h => (kf h).2 p l e R s m args below meth c D cA base X hC Q H locs cells slots ls hl hP hS hz hc hs hk)
end MJG
