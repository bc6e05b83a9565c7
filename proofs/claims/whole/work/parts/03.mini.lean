/-! THE SMALL MACHINE: memory by handles (how many cells there are, references, ints, longs), a method's record, what a step does. Written for this claim. -/
abbrev mj_M : Type := Nat × (Nat → Nat → Option Nat) × (Nat → Nat → Int32) × (Nat → Nat → Int64)
abbrev mj_LV : Type := List (Nat × Value)
/-- a method: its name, bytes, how many locals, what it returns, its instructions by their places, what its constants' numbers mean, 1 if it is a constructor -/
abbrev mj_Y : Type := MethodName × ByteArray × Nat × Option FieldType × List (Nat × Instr × Nat) × List (Nat × Nat × Nat × Nat) × Nat
def mj_nm (Y : mj_Y) : MethodName := Y.1
def mj_by (Y : mj_Y) : ByteArray := Y.2.1
def mj_ml (Y : mj_Y) : Nat := Y.2.2.1
def mj_rt (Y : mj_Y) : Option FieldType := Y.2.2.2.1
def mj_cd (Y : mj_Y) : List (Nat × Instr × Nat) := Y.2.2.2.2.1
def mj_cp (Y : mj_Y) : List (Nat × Nat × Nat × Nat) := Y.2.2.2.2.2.1
/-- 1: it is a constructor -/
def mj_ii (Y : mj_Y) : Nat := Y.2.2.2.2.2.2
def mj_ow (Y : mj_Y) : String := (mj_nm Y).cls
/-- the classes whose objects there are -/
def mj_R (c : Nat) : String := match c with
  | 0 => RX0 | 1 => RX1 | 2 => RX2 | 3 => RX3 | 4 => RX4 | 5 => RX5 | 6 => RX6 | 7 => RX7 | 8 => RX8 | _ => RX9
def mj_T (c : Nat) : u_T := match c with
  | 0 => TX0 | 1 => TX1 | 2 => TX2 | 3 => TX3 | 4 => TX4 | 5 => TX5 | 6 => TX6 | 7 => TX7 | 8 => TX8 | _ => TX9
def mj_N (c : Nat) : Nat := match c with
  | 0 => 5 | 1 => 8 | 2 => 11 | 3 => 4 | 4 => 14 | 5 => 8 | 6 => 4 | 7 => 16 | 8 => 12 | _ => 56
def mj_ty (c : Nat) : Nat → FieldType := match c with
  | 0 => tyX0 | 1 => tyX1 | 2 => tyX2 | 3 => tyX3 | 4 => tyX4 | 5 => tyX5 | 6 => tyX6 | 7 => tyX7 | 8 => tyX8 | _ => tyX9
def mj_cl : List vw_C := [(RX0, TX0, 5), (RX1, TX1, 8), (RX2, TX2, 11), (RX3, TX3, 4), (RX4, TX4, 14), (RX5, TX5, 8), (RX6, TX6, 4), (RX7, TX7, 16), (RX8, TX8, 12), (RX9, TX9, 56)]
/-- the words that every method may lean on -/
def mj_GW : List Cond := lw_tbl.filter goodWord
theorem mj_clOK : ∀ c, c < 10 → mj_cl[c]? = some (mj_R c, mj_T c, mj_N c) := by
  intro c hc
  match c, hc with
  | 0, _ => rfl
  | 1, _ => rfl
  | 2, _ => rfl
  | 3, _ => rfl
  | 4, _ => rfl
  | 5, _ => rfl
  | 6, _ => rfl
  | 7, _ => rfl
  | 8, _ => rfl
  | 9, _ => rfl
  | n + 10, h => omega
theorem mj_nmOK : ∀ c, c < 10 → ∀ a, a < mj_N c → ∀ b, b < mj_N c → a ≠ b → (mj_T c a).2.1 ≠ (mj_T c b).2.1 := by
  intro c hc
  match c, hc with
  | 0, _ => exact nmX0
  | 1, _ => exact nmX1
  | 2, _ => exact nmX2
  | 3, _ => exact nmX3
  | 4, _ => exact nmX4
  | 5, _ => exact nmX5
  | 6, _ => exact nmX6
  | 7, _ => exact nmX7
  | 8, _ => exact nmX8
  | 9, _ => exact nmX9
  | n + 10, h => omega
theorem mj_tyOK : ∀ c, c < 10 → ∀ k, k < mj_N c → parseFieldDescriptor (mj_T c k).2.2.1 = some (mj_ty c k) := by
  intro c hc
  match c, hc with
  | 0, _ => exact tyX0_ok
  | 1, _ => exact tyX1_ok
  | 2, _ => exact tyX2_ok
  | 3, _ => exact tyX3_ok
  | 4, _ => exact tyX4_ok
  | 5, _ => exact tyX5_ok
  | 6, _ => exact tyX6_ok
  | 7, _ => exact tyX7_ok
  | 8, _ => exact tyX8_ok
  | 9, _ => exact tyX9_ok
  | n + 10, h => omega
theorem mj_own : ∀ c, c < 10 → ∀ k, k < mj_N c → (mj_T c k).1 = mj_R c := by decide +kernel
theorem mj_layAll : ∀ c, c < 10 → ∀ w ∈ u_ws (mj_R c) (mj_T c) (mj_N c), w ∈ mj_GW := by decide +kernel
theorem mj_GWok : ∀ w ∈ mj_GW, w ∈ lw_tbl ∧ ((w.onTables && w.keeps) = true ∨ ∃ ty, w = .arrayClass ty) := by
  intro w h
  have h1 := List.mem_filter.mp h
  exact ⟨h1.1, good_of_word h1.2⟩
