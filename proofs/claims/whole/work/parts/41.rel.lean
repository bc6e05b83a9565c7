/-! THE TWO STATES SIDE BY SIDE: a town in numbers (front and next plus one), what cells hold it -/
abbrev aT : Type := Nat → Nat → Nat
def Rep (g : Nat → Nat → Int32) (t : aT) (u : Nat → Int32) : Prop :=
  (∀ i, i < 6 → g 13 i = nI (t 13 i)) ∧ (∀ i, i < 4 → g 14 i = u i) ∧ (∀ f, f < 9 → ∀ h, h < t 13 1 → g f h = nI (t f h) - (if f = 5 ∨ f = 6 then 1 else 0)) ∧
  (∀ f, f = 9 ∨ f = 10 → ∀ s, s < t 13 0 → g f s = nI (t f s)) ∧ (∀ f, f = 11 ∨ f = 12 → ∀ k, k < t 13 2 → g f k = nI (t f k))
def Good (t : aT) : Prop :=
  (t 13 0 ≤ 12 ∧ t 13 1 ≤ 10 ∧ t 13 2 ≤ 4 ∧ (1 ≤ t 13 3 ∧ t 13 3 ≤ 999) ∧ t 13 4 ≤ 10 ∧ t 13 5 ≤ 10) ∧
  (∀ h, h < t 13 1 → t 0 h < 8 ∧ t 1 h ≤ 9 ∧ t 2 h ≤ 99 ∧ t 3 h ≤ 99 ∧ (1 ≤ t 4 h ∧ t 4 h ≤ 99) ∧ t 5 h ≤ t 13 0 ∧ t 6 h ≤ t 13 1 ∧ t 7 h ≤ 2 ∧ t 8 h ≤ 1) ∧
  (∀ s, s < t 13 0 → t 9 s < 8 ∧ t 10 s < 8) ∧ (∀ k, k < t 13 2 → t 11 k ≤ 99 ∧ t 12 k ≤ 9)
/-- where the class's town at the cell b (its houses from d on), the reference's, the reference's kept row a have a town's numbers -/
def cA (b d f i : Nat) : Nat × Nat := if f < 7 then (d + i, f) else if f = 7 then (b + 4, i) else if f = 8 then (d + i, 7) else if f = 9 then (b + 1, i) else if f = 10 then (b + 2, i) else if f = 11 then (b + 5, i) else if f = 12 then (b + 6, i) else if f = 13 then (b, 6 + i) else (b, 12 + i)
def mA (f i : Nat) : Nat × Nat := if f < 9 then (101 + f, i) else if f = 9 then (97, i) else if f = 10 then (98, i) else if f = 11 then (99, i) else if f = 12 then (100, i) else if f = 13 then (95, i) else (95, 6 + i)
def kA (a f i : Nat) : Nat × Nat := if f < 9 then (a, 32 + 10 * f + i) else if f = 9 then (a, i) else if f = 10 then (a, 12 + i) else if f = 11 then (a, 24 + i) else if f = 12 then (a, 28 + i) else if f = 13 then (a, 122 + i) else (a, 128 + i)
def gA (ad : Nat → Nat → Nat × Nat) (m : mj_m) : Nat → Nat → Int32 := fun f i => m.1 (ad f i).1 (ad f i).2
def cg (m : mj_m) (b d : Nat) : Nat → Nat → Int32 := gA (cA b d) m
def mg (m : mj_m) : Nat → Nat → Int32 := gA mA m
def kg (m : mj_m) (a : Nat) : Nat → Nat → Int32 := gA (kA a) m
/-- where a town's numbers may lie -/
def dm (f i : Nat) : Prop := f < 15 ∧ i < (if f < 9 then 10 else if f < 11 then 12 else if f < 13 then 4 else if f = 13 then 6 else 4)
theorem dm_use {a b : Nat} (h : dm a b) : a < 15 ∧ b < 12 ∧ (a < 9 → b < 10) ∧ (13 ≤ a → b < 6) ∧ (a = 14 → b < 4) ∧ (11 ≤ a → a < 13 → b < 4) := by
  obtain ⟨h1, h2⟩ := h
  by_cases q1 : a < 9
  · rw [if_pos q1] at h2; omega
  · rw [if_neg q1] at h2
    by_cases q2 : a < 11
    · rw [if_pos q2] at h2; omega
    · rw [if_neg q2] at h2
      by_cases q3 : a < 13
      · rw [if_pos q3] at h2; omega
      · rw [if_neg q3] at h2
        by_cases q4 : a = 13
        · rw [if_pos q4] at h2; omega
        · rw [if_neg q4] at h2; omega
theorem cA_fm {b d f i : Nat} (h : dm f i) : (f < 7 ∧ cA b d f i = (d + i, f)) ∨ (f = 7 ∧ cA b d f i = (b + 4, i)) ∨ (f = 8 ∧ cA b d f i = (d + i, 7)) ∨ (f = 9 ∧ cA b d f i = (b + 1, i)) ∨ (f = 10 ∧ cA b d f i = (b + 2, i)) ∨ (f = 11 ∧ cA b d f i = (b + 5, i)) ∨ (f = 12 ∧ cA b d f i = (b + 6, i)) ∨ (f = 13 ∧ cA b d f i = (b, 6 + i)) ∨ (f = 14 ∧ cA b d f i = (b, 12 + i)) := by
  have h1 := (dm_use h).1
  unfold cA
  by_cases q : f < 7
  · exact Or.inl ⟨q, if_pos q⟩
  · rw [if_neg q]
    rcases (show f = 7 ∨ f = 8 ∨ f = 9 ∨ f = 10 ∨ f = 11 ∨ f = 12 ∨ f = 13 ∨ f = 14 by omega) with rfl | rfl | rfl | rfl | rfl | rfl | rfl | rfl <;> simp
theorem mA_fm {f i : Nat} (h : dm f i) : (f < 9 ∧ mA f i = (101 + f, i)) ∨ (f = 9 ∧ mA f i = (97, i)) ∨ (f = 10 ∧ mA f i = (98, i)) ∨ (f = 11 ∧ mA f i = (99, i)) ∨ (f = 12 ∧ mA f i = (100, i)) ∨ (f = 13 ∧ mA f i = (95, i)) ∨ (f = 14 ∧ mA f i = (95, 6 + i)) := by
  have h1 := (dm_use h).1
  unfold mA
  by_cases q : f < 9
  · exact Or.inl ⟨q, if_pos q⟩
  · rw [if_neg q]
    rcases (show f = 9 ∨ f = 10 ∨ f = 11 ∨ f = 12 ∨ f = 13 ∨ f = 14 by omega) with rfl | rfl | rfl | rfl | rfl | rfl <;> simp
theorem kA_fm {a f i : Nat} (h : dm f i) : (f < 9 ∧ kA a f i = (a, 32 + 10 * f + i)) ∨ (f = 9 ∧ kA a f i = (a, i)) ∨ (f = 10 ∧ kA a f i = (a, 12 + i)) ∨ (f = 11 ∧ kA a f i = (a, 24 + i)) ∨ (f = 12 ∧ kA a f i = (a, 28 + i)) ∨ (f = 13 ∧ kA a f i = (a, 122 + i)) ∨ (f = 14 ∧ kA a f i = (a, 128 + i)) := by
  have h1 := (dm_use h).1
  unfold kA
  by_cases q : f < 9
  · exact Or.inl ⟨q, if_pos q⟩
  · rw [if_neg q]
    rcases (show f = 9 ∨ f = 10 ∨ f = 11 ∨ f = 12 ∨ f = 13 ∨ f = 14 by omega) with rfl | rfl | rfl | rfl | rfl | rfl <;> simp
theorem cA_inj {b d f i f' i' : Nat} (hb : d = b + 7) (h : dm f i) (h' : dm f' i') (e : cA b d f i = cA b d f' i') : f = f' ∧ i = i' := by
  obtain ⟨a1, a2, a3, a4, a5, a6⟩ := dm_use h
  obtain ⟨b1, b2, b3, b4, b5, b6⟩ := dm_use h'
  rcases cA_fm (b := b) (d := d) h with ⟨q, r⟩ | ⟨q, r⟩ | ⟨q, r⟩ | ⟨q, r⟩ | ⟨q, r⟩ | ⟨q, r⟩ | ⟨q, r⟩ | ⟨q, r⟩ | ⟨q, r⟩ <;>
  rcases cA_fm (b := b) (d := d) h' with ⟨q', r'⟩ | ⟨q', r'⟩ | ⟨q', r'⟩ | ⟨q', r'⟩ | ⟨q', r'⟩ | ⟨q', r'⟩ | ⟨q', r'⟩ | ⟨q', r'⟩ | ⟨q', r'⟩ <;>
  (rw [r, r'] at e; have e1 := congrArg Prod.fst e; have e2 := congrArg Prod.snd e; dsimp only at e1 e2; omega)
theorem mA_inj {f i f' i' : Nat} (h : dm f i) (h' : dm f' i') (e : mA f i = mA f' i') : f = f' ∧ i = i' := by
  obtain ⟨a1, a2, a3, a4, a5, a6⟩ := dm_use h
  obtain ⟨b1, b2, b3, b4, b5, b6⟩ := dm_use h'
  rcases mA_fm h with ⟨q, r⟩ | ⟨q, r⟩ | ⟨q, r⟩ | ⟨q, r⟩ | ⟨q, r⟩ | ⟨q, r⟩ | ⟨q, r⟩ <;>
  rcases mA_fm h' with ⟨q', r'⟩ | ⟨q', r'⟩ | ⟨q', r'⟩ | ⟨q', r'⟩ | ⟨q', r'⟩ | ⟨q', r'⟩ | ⟨q', r'⟩ <;>
  (rw [r, r'] at e; have e1 := congrArg Prod.fst e; have e2 := congrArg Prod.snd e; dsimp only at e1 e2; omega)
theorem cA_rng {b d f i : Nat} (hb : d = b + 7) (h : dm f i) : b ≤ (cA b d f i).1 ∧ (cA b d f i).1 < b + 17 ∧ ((cA b d f i).1 ≠ b + 3) ∧ ((cA b d f i).1 = b → 6 ≤ (cA b d f i).2) := by
  obtain ⟨a1, a2, a3, a4, a5, a6⟩ := dm_use h
  rcases cA_fm (b := b) (d := d) h with ⟨q, r⟩ | ⟨q, r⟩ | ⟨q, r⟩ | ⟨q, r⟩ | ⟨q, r⟩ | ⟨q, r⟩ | ⟨q, r⟩ | ⟨q, r⟩ | ⟨q, r⟩ <;> (rw [r]; dsimp only; omega)
theorem mA_rng {f i : Nat} (h : dm f i) : (97 ≤ (mA f i).1 ∧ (mA f i).1 ≤ 109) ∨ ((mA f i).1 = 95 ∧ (mA f i).2 < 10) := by
  obtain ⟨a1, a2, a3, a4, a5, a6⟩ := dm_use h
  rcases mA_fm h with ⟨q, r⟩ | ⟨q, r⟩ | ⟨q, r⟩ | ⟨q, r⟩ | ⟨q, r⟩ | ⟨q, r⟩ | ⟨q, r⟩ <;> (rw [r]; dsimp only; omega)
theorem kA_rng {a f i : Nat} (h : dm f i) : (kA a f i).1 = a ∧ (kA a f i).2 < 132 := by
  obtain ⟨a1, a2, a3, a4, a5, a6⟩ := dm_use h
  rcases kA_fm (a := a) h with ⟨q, r⟩ | ⟨q, r⟩ | ⟨q, r⟩ | ⟨q, r⟩ | ⟨q, r⟩ | ⟨q, r⟩ | ⟨q, r⟩ <;> (rw [r]; dsimp only; omega)
/-- a write elsewhere; a write there -/
theorem gA_n {ad : Nat → Nat → Nat × Nat} {m : mj_m} {A K : Nat} {v : Int32} {f i : Nat} (q : (ad f i).1 ≠ A ∨ (ad f i).2 ≠ K) : gA ad (mj_wI m A K v) f i = gA ad m f i := by
  unfold gA
  rw [wI_1, up_at, if_neg (by omega)]
theorem gA_w {ad : Nat → Nat → Nat × Nat} (inj : ∀ f i f' i', dm f i → dm f' i' → ad f i = ad f' i' → f = f' ∧ i = i') {m : mj_m} {A K : Nat} {v : Int32} {f i : Nat} (hd : dm f i) (e : ad f i = (A, K)) (a b : Nat) (h : dm a b) : gA ad (mj_wI m A K v) a b = if a = f ∧ b = i then v else gA ad m a b := by
  by_cases q : a = f ∧ b = i
  · rw [if_pos q]
    unfold gA
    rw [q.1, q.2, e, wI_1, up_at, if_pos ⟨rfl, rfl⟩]
  · rw [if_neg q]
    refine gA_n ?_
    by_cases q1 : (ad a b).1 = A
    · refine Or.inr (fun q2 => q (inj a b f i h hd ?_))
      rw [e, ← q1, ← q2]
    · exact Or.inl q1
theorem Rep_same {g g' : Nat → Nat → Int32} {t : aT} {u : Nat → Int32} (h : Rep g t u) (hG : Good t) (e : ∀ f i, dm f i → g' f i = g f i) : Rep g' t u := by
  obtain ⟨h1, h2, h3, h4, h5⟩ := h
  obtain ⟨⟨b1, b2, b3, -⟩, -⟩ := hG
  refine ⟨fun i hi => ?_, fun i hi => ?_, fun f hf i hi => ?_, fun f hf i hi => ?_, fun f hf i hi => ?_⟩
  · rw [e 13 i ⟨by omega, by simpa using hi⟩]; exact h1 i hi
  · rw [e 14 i ⟨by omega, by simpa using hi⟩]; exact h2 i hi
  · rw [e f i ⟨by omega, by rw [if_pos hf]; omega⟩]; exact h3 f hf i hi
  · rw [e f i ⟨by omega, by rw [if_neg (by omega), if_pos (by omega)]; omega⟩]; exact h4 f hf i hi
  · rw [e f i ⟨by omega, by rw [if_neg (by omega), if_neg (by omega), if_pos (by omega)]; omega⟩]; exact h5 f hf i hi
/-- one number of a house, a street or a shake becomes another -/
theorem Rep_up {g g' : Nat → Nat → Int32} {t : aT} {u : Nat → Int32} {f i v : Nat} {x : Int32} (h : Rep g t u) (hG : Good t) (hf : f < 13) (e : ∀ a b, dm a b → g' a b = if a = f ∧ b = i then x else g a b) (hx : x = nI v - (if f = 5 ∨ f = 6 then 1 else 0)) : Rep g' (mj_up t f i v) u := by
  obtain ⟨h1, h2, h3, h4, h5⟩ := h
  obtain ⟨⟨b1, b2, b3, -⟩, -⟩ := hG
  have c : ∀ a, mj_up t f i v 13 a = t 13 a := fun a => by rw [up_at, if_neg (by omega)]
  refine ⟨fun j hj => ?_, fun j hj => ?_, fun a ha j hj => ?_, fun a ha j hj => ?_, fun a ha j hj => ?_⟩
  · rw [e 13 j ⟨by omega, by simpa using hj⟩, if_neg (by omega), c]; exact h1 j hj
  · rw [e 14 j ⟨by omega, by simpa using hj⟩, if_neg (by omega)]; exact h2 j hj
  · rw [c] at hj
    rw [e a j ⟨by omega, by rw [if_pos ha]; omega⟩, up_at]
    by_cases q : a = f ∧ j = i
    · rw [if_pos q, if_pos q, hx, q.1]
    · rw [if_neg q, if_neg q]; exact h3 a ha j hj
  · rw [c] at hj
    rw [e a j ⟨by omega, by rw [if_neg (by omega), if_pos (by omega)]; omega⟩, up_at]
    by_cases q : a = f ∧ j = i
    · rw [if_pos q, if_pos q, hx, if_neg (by omega)]; simp
    · rw [if_neg q, if_neg q]; exact h4 a ha j hj
  · rw [c] at hj
    rw [e a j ⟨by omega, by rw [if_neg (by omega), if_neg (by omega), if_pos (by omega)]; omega⟩, up_at]
    by_cases q : a = f ∧ j = i
    · rw [if_pos q, if_pos q, hx, if_neg (by omega)]; simp
    · rw [if_neg q, if_neg q]; exact h5 a ha j hj
/-- COIN, SHUT or DAYPART becomes another -/
theorem Rep_sc {g g' : Nat → Nat → Int32} {t : aT} {u : Nat → Int32} {i v : Nat} {x : Int32} (h : Rep g t u) (hG : Good t) (hi : 3 ≤ i) (e : ∀ a b, dm a b → g' a b = if a = 13 ∧ b = i then x else g a b) (hx : x = nI v) : Rep g' (mj_up t 13 i v) u := by
  obtain ⟨h1, h2, h3, h4, h5⟩ := h
  obtain ⟨⟨b1, b2, b3, -⟩, -⟩ := hG
  have c : ∀ a, a < 3 → mj_up t 13 i v 13 a = t 13 a := fun a ha => by rw [up_at, if_neg (by omega)]
  have c2 : ∀ a b, a < 13 → mj_up t 13 i v a b = t a b := fun a b ha => by rw [up_at, if_neg (by omega)]
  refine ⟨fun j hj => ?_, fun j hj => ?_, fun a ha j hj => ?_, fun a ha j hj => ?_, fun a ha j hj => ?_⟩
  · rw [e 13 j ⟨by omega, by simpa using hj⟩, up_at]
    by_cases q : 13 = 13 ∧ j = i
    · rw [if_pos q, if_pos q, hx]
    · rw [if_neg q, if_neg q]; exact h1 j hj
  · rw [e 14 j ⟨by omega, by simpa using hj⟩, if_neg (by omega)]; exact h2 j hj
  · rw [c 1 (by omega)] at hj
    rw [e a j ⟨by omega, by rw [if_pos ha]; omega⟩, if_neg (by omega), c2 a j (by omega)]; exact h3 a ha j hj
  · rw [c 0 (by omega)] at hj
    rw [e a j ⟨by omega, by rw [if_neg (by omega), if_pos (by omega)]; omega⟩, if_neg (by omega), c2 a j (by omega)]; exact h4 a ha j hj
  · rw [c 2 (by omega)] at hj
    rw [e a j ⟨by omega, by rw [if_neg (by omega), if_neg (by omega), if_pos (by omega)]; omega⟩, if_neg (by omega), c2 a j (by omega)]; exact h5 a ha j hj
/-- PURSE, THE YEAR, GONE or SEED becomes another -/
theorem Rep_u {g g' : Nat → Nat → Int32} {t : aT} {u u' : Nat → Int32} (h : Rep g t u) (hG : Good t) (e : ∀ a b, a < 14 → dm a b → g' a b = g a b) (hu : ∀ i, i < 4 → g' 14 i = u' i) : Rep g' t u' := by
  obtain ⟨h1, h2, h3, h4, h5⟩ := h
  obtain ⟨⟨b1, b2, b3, -⟩, -⟩ := hG
  refine ⟨fun j hj => ?_, hu, fun a ha j hj => ?_, fun a ha j hj => ?_, fun a ha j hj => ?_⟩
  · rw [e 13 j (by omega) ⟨by omega, by simpa using hj⟩]; exact h1 j hj
  · rw [e a j (by omega) ⟨by omega, by rw [if_pos ha]; omega⟩]; exact h3 a ha j hj
  · rw [e a j (by omega) ⟨by omega, by rw [if_neg (by omega), if_pos (by omega)]; omega⟩]; exact h4 a ha j hj
  · rw [e a j (by omega) ⟨by omega, by rw [if_neg (by omega), if_neg (by omega), if_pos (by omega)]; omega⟩]; exact h5 a ha j hj
/-- a shelf of the class and one of the reference -/
def ShR (m : mj_m) (s : Nat) : Prop :=
  (m.1 110 s = 0 ∧ m.1 (79 + 2 * s) 1 = -1 ∧ m.1 (79 + 2 * s) 2 = 0) ∨
  (∃ o n : Nat, o < 4 ∧ n ≤ 120 ∧ m.1 110 s = 1 ∧ m.1 111 s = nI o ∧ m.1 112 s = nI n ∧ m.1 (79 + 2 * s) 1 = nI (100 + o) ∧ m.1 (79 + 2 * s) 2 = nI n ∧ ∀ i, i < n → m.2 (80 + 2 * s) i = m.2 115 (120 * s + i)) ∨
  (∃ k : Nat, k < 7 ∧ m.1 110 s = 2 ∧ m.1 113 s = nI k ∧ m.1 (79 + 2 * s) 1 = nI k ∧ m.1 (79 + 2 * s) 3 = m.1 114 s ∧ (∃ a : Nat, a ≤ 99 ∧ m.1 114 s = nI a) ∧
    ((k ≠ 6 ∧ m.1 (79 + 2 * s) 2 = 0) ∨ k = 6 ∧ ∃ n : Nat, n ≤ 120 ∧ m.1 112 s = nI n ∧ m.1 (79 + 2 * s) 2 = nI n ∧ ∀ i, i < n → (m.2 (80 + 2 * s) i).toInt32 = (m.2 115 (120 * s + i)).toInt32))
def wdl : List Int32 := [115, 116, 114, 101, 101, 116, 32, 0, 104, 111, 117, 115, 101, 32, 0, 115, 104, 97, 107, 101, 32, 0, 99, 111, 105, 110, 32, 0, 115, 104, 117, 116, 32, 0, 100, 97, 121, 112, 97, 114, 116, 32, 0, 32, 102, 114, 111, 110, 116, 32, 0, 32, 110, 101, 120, 116, 32, 0]
def RT (m : mj_m) (t : aT) (u : Nat → Int32) : Prop := Good t ∧ Rep (cg m 1 8) t u ∧ Rep (mg m) t u
def RP (m : mj_m) : Prop := m.1 95 55 = m.1 0 10 ∧ (m.1 0 10 = 0 ∨ m.1 0 10 = 1 ∧ ∃ t u, Good t ∧ Rep (cg m 18 25) t u ∧ Rep (kg m 119) t u)
def RF (m : mj_m) : Prop := m.1 95 10 = m.1 0 11
def RR (m : mj_m) : Prop := ∀ i, i < 8 → m.1 96 i = m.1 77 i
def RS (m : mj_m) : Prop := ∀ s, s < 8 → ShR m s
def RA (m : mj_m) : Prop := ∃ n : Nat, n < 1000 ∧ m.1 75 1 = nI n ∧ m.1 95 54 = nI n ∧ ∀ i, i < 20 → i < n → m.1 127 i = m.1 76 i
def b01 (x : Int32) : Prop := x = 0 ∨ x = 1
/-- whether a house is propped is a truth, also where no house stands yet: the class's town, its image -/
def RB (m : mj_m) : Prop := ∀ i, i < 10 → b01 (m.1 (8 + i) 7) ∧ b01 (m.1 (25 + i) 7)
theorem RB_of {m m' : mj_m} (h : RB m) (e : ∀ a, ((8 ≤ a ∧ a < 18) ∨ (25 ≤ a ∧ a < 35)) → m'.1 a 7 = m.1 a 7 ∨ b01 (m'.1 a 7)) : RB m' := by
  intro i hi
  obtain ⟨h1, h2⟩ := h i hi
  refine ⟨?_, ?_⟩
  · rcases e (8 + i) (by omega) with q | q
    · rw [q]; exact h1
    · exact q
  · rcases e (25 + i) (by omega) with q | q
    · rw [q]; exact h2
    · exact q
def RW (m : mj_m) : Prop := (∀ i, i < 58 → m.1 117 i = wdl.getD i 0) ∧ RB m
def Rel (m : mj_m) : Prop := (∃ t u, RT m t u) ∧ RP m ∧ RF m ∧ RR m ∧ RS m ∧ RA m ∧ RW m
