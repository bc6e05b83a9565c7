/-! A TOWN FROM LETTERS: an item in pure numbers -/
def bnS {α β : Type} (x : Nat ⊕ α) (f : α → Nat ⊕ β) : Nat ⊕ β := Sum.elim .inl f x
theorem bnS_l {α β : Type} {x : Nat ⊕ α} {q : Nat} {f : α → Nat ⊕ β} (h : x = .inl q) : bnS x f = .inl q := by rw [h]; rfl
theorem bnS_r {α β : Type} {x : Nat ⊕ α} {a : α} {f : α → Nat ⊕ β} (h : x = .inr a) : bnS x f = f a := by rw [h]; rfl
theorem bnS_inr {α β : Type} {x : Nat ⊕ α} {f : α → Nat ⊕ β} {b : β} (h : bnS x f = .inr b) : ∃ a, x = .inr a ∧ f a = .inr b := by
  cases x with
  | inl q => cases h
  | inr a => exact ⟨a, rfl, h⟩
def fullB (t : aT) (w : Nat) : Bool := decide ((w = 0 ∧ t 13 0 = 12) ∨ (w = 1 ∧ t 13 1 = 10) ∨ (w = 2 ∧ t 13 2 = 4))
def xS (a b : Nat) : Nat → Nat := fun f => if f = 9 then a else b
def xK (a b : Nat) : Nat → Nat := fun f => if f = 11 then a else b
def xH (c w d n k : Nat) : Nat → Nat := fun f => if f = 0 then c else if f = 1 then w else if f = 2 then d else if f = 3 then n else if f = 4 then k else 0
def mo2 (L : Nat → Int32) (t : aT) (f p : Nat) : Nat ⊕ (Nat × Nat × Nat) :=
  if L p = 32 then bnS (rwN L (p + 1) 1 7 0) (fun w => bnS (nbB L (p + 1 + wl w) 0 (t 13 1)) (fun x => .inr (f, x.1 + 1, x.2))) else .inr (f, 0, p)
def moP (L : Nat → Int32) (t : aT) (p : Nat) : Nat ⊕ (Nat × Nat × Nat) :=
  if L p = 32 then bnS (rwN L (p + 1) 2 6 0) (fun w => if w = 6 then bnS (nbB L (p + 1 + wl w) 0 (t 13 0)) (fun f => mo2 L t (f.1 + 1) f.2) else bnS (nbB L (p + 1 + wl w) 0 (t 13 1)) (fun x => .inr (0, x.1 + 1, x.2))) else .inr (0, 0, p)
def houseT (t : aT) (x : Nat → Nat) (fr nx : Nat) : aT := mj_up (mj_up (grow t 0 8 1 x) 5 (t 13 1) fr) 6 (t 13 1) nx
def hsP (L : Nat → Int32) (t : aT) (q : Nat) : Nat ⊕ (aT × Nat) :=
  bnS (nbB L q 0 8) (fun c => bnS (nbB L c.2 0 10) (fun w => bnS (nbB L w.2 0 100) (fun d => bnS (nbB L d.2 0 100) (fun n => bnS (nbB L n.2 1 100) (fun k => bnS (moP L t k.2) (fun r => .inr (houseT t (xH c.1 w.1 d.1 n.1 k.1) r.1 r.2.1, r.2.2)))))))
def stP (L : Nat → Int32) (t : aT) (q : Nat) : Nat ⊕ (aT × Nat) :=
  bnS (nbB L q 0 8) (fun a => bnS (nbB L a.2 0 8) (fun b => if a.1 = b.1 then .inl (a.2 + 1) else .inr (grow t 9 10 0 (xS a.1 b.1), b.2)))
def skP (L : Nat → Int32) (t : aT) (q : Nat) : Nat ⊕ (aT × Nat) :=
  bnS (nbB L q 0 100) (fun a => bnS (nbB L a.2 0 10) (fun b => .inr (grow t 11 12 2 (xK a.1 b.1), b.2)))
def scP (L : Nat → Int32) (t : aT) (q lo top i : Nat) : Nat ⊕ (aT × Nat) := bnS (nbB L q lo top) (fun v => .inr (mj_up t 13 i v.1, v.2))
def itW (L : Nat → Int32) (t : aT) (p w : Nat) : Nat ⊕ (aT × Nat) := if fullB t w = true then .inl p else if w = 0 then stP L t (p + wl w) else if w = 1 then hsP L t (p + wl w) else if w = 2 then skP L t (p + wl w) else if w = 3 then scP L t (p + wl w) 1 1000 3 else if w = 4 then scP L t (p + wl w) 0 11 4 else scP L t (p + wl w) 0 11 5
def itP (L : Nat → Int32) (t : aT) (p : Nat) : Nat ⊕ (aT × Nat) := bnS (rwN L p 6 0 0) (itW L t p)
theorem nbB_in {L : Nat → Int32} {p lo top q : Nat} (h : nbB L p lo top = .inl q) : q ≤ p + 1 := by
  unfold nbB nbP at h
  by_cases y : L p = 32
  · rw [if_pos y] at h
    by_cases z : (rdN L 3 (0, p + 1)).2 = p + 1 ∨ (rdN L 3 (0, p + 1)).1 < lo ∨ top ≤ (rdN L 3 (0, p + 1)).1
    · rw [if_pos z] at h; have := Sum.inl.inj h; omega
    · rw [if_neg z] at h; cases h
  · rw [if_neg y] at h; have := Sum.inl.inj h; omega
theorem rwN_in {L : Nat → Int32} {p q : Nat} : ∀ d w g, w + d ≤ 8 → g ≤ 7 → rwN L p d w g = .inl q → p + g ≤ q ∧ q ≤ p + 7 := by
  intro d
  induction d with
  | zero => intro w g h1 h2 h; have := Sum.inl.inj h; omega
  | succ d ih =>
    intro w g h1 h2 h
    unfold rwN at h
    by_cases y : fitF L p w = wl w
    · rw [if_pos y] at h; cases h
    · rw [if_neg y] at h
      have a := fitF_le L p w
      have b := wl_le w (by omega)
      have := ih (w + 1) (max g (fitF L p w)) (by omega) (by omega) h
      omega
theorem rwN_r {L : Nat → Int32} {p x : Nat} : ∀ d w g, rwN L p d w g = .inr x → w ≤ x ∧ x < w + d ∧ fitF L p x = wl x := by
  intro d
  induction d with
  | zero => intro w g h; cases h
  | succ d ih =>
    intro w g h
    unfold rwN at h
    by_cases y : fitF L p w = wl w
    · rw [if_pos y] at h; have := Sum.inr.inj h; subst this; exact ⟨Nat.le_refl _, by omega, y⟩
    · rw [if_neg y] at h; have := ih _ _ h; omega
theorem grow_13 (t : aT) (f1 f2 j : Nat) (x : Nat → Nat) (i : Nat) (h : f2 < 13) : grow t f1 f2 j x 13 i = if i = j then t 13 j + 1 else t 13 i := by
  unfold grow
  by_cases q : i = j
  · rw [if_pos ⟨rfl, q⟩, if_pos q]
  · rw [if_neg (fun z => q z.2), if_neg (by omega), if_neg q]
theorem houseG {t : aT} (hG : Good t) (h1 : t 13 1 < 10) {c w d n k fr nx : Nat} (b0 : c < 8) (b1 : w ≤ 9) (b2 : d ≤ 99) (b3 : n ≤ 99) (b4 : 1 ≤ k ∧ k ≤ 99) (b5 : fr ≤ t 13 0) (b6 : nx ≤ t 13 1) : Good (grow t 0 8 1 (xH c w d n k)) ∧ Good (mj_up (grow t 0 8 1 (xH c w d n k)) 5 (t 13 1) fr) ∧ Good (houseT t (xH c w d n k) fr nx) := by
  have g0 : Good (grow t 0 8 1 (xH c w d n k)) := Good_grow _ hG (by omega) ⟨by omega, fun _ => ⟨b0, b1, b2, b3, b4, Nat.zero_le _, Nat.zero_le _, Nat.zero_le _, Nat.zero_le _⟩, by omega⟩
  have c0 := grow_13 t 0 8 1 (xH c w d n k) 0 (by decide)
  have c1 := grow_13 t 0 8 1 (xH c w d n k) 1 (by decide)
  rw [if_neg (by decide)] at c0
  rw [if_pos rfl] at c1
  have g1 : Good (mj_up (grow t 0 8 1 (xH c w d n k)) 5 (t 13 1) fr) := Good_up g0 (by decide) (by omega)
  have c2 : mj_up (grow t 0 8 1 (xH c w d n k)) 5 (t 13 1) fr 13 1 = t 13 1 + 1 := by rw [up_at, if_neg (by omega), c1]
  exact ⟨g0, g1, Good_up g1 (by decide) (by omega)⟩
theorem mo2_ok {L : Nat → Int32} {n : Nat} (hL : LL L n) {t : aT} {f p : Nat} (hp : p ≤ n) {r : Nat × Nat × Nat} (h : mo2 L t f p = .inr r) : r.1 = f ∧ r.2.1 ≤ t 13 1 ∧ p ≤ r.2.2 ∧ r.2.2 ≤ n := by
  unfold mo2 at h
  by_cases q : L p = 32
  · rw [if_pos q] at h
    obtain ⟨w, a1, h⟩ := bnS_inr h
    obtain ⟨x, b1, h⟩ := bnS_inr h
    have e := Sum.inr.inj h
    have b2 := nbB_ok hL b1
    rw [← e]; dsimp only; omega
  · rw [if_neg q] at h
    have e := Sum.inr.inj h
    rw [← e]; dsimp only; omega
theorem moP_ok {L : Nat → Int32} {n : Nat} (hL : LL L n) {t : aT} {p : Nat} (hp : p ≤ n) {r : Nat × Nat × Nat} (h : moP L t p = .inr r) : r.1 ≤ t 13 0 ∧ r.2.1 ≤ t 13 1 ∧ p ≤ r.2.2 ∧ r.2.2 ≤ n := by
  unfold moP at h
  by_cases q : L p = 32
  · rw [if_pos q] at h
    obtain ⟨w, a1, h⟩ := bnS_inr h
    by_cases y : w = 6
    · rw [if_pos y] at h
      obtain ⟨f, b1, h⟩ := bnS_inr h
      have b2 := nbB_ok hL b1
      have b3 := mo2_ok hL (by omega) h
      omega
    · rw [if_neg y] at h
      obtain ⟨x, b1, h⟩ := bnS_inr h
      have e := Sum.inr.inj h
      have b2 := nbB_ok hL b1
      rw [← e]; dsimp only; omega
  · rw [if_neg q] at h
    have e := Sum.inr.inj h
    rw [← e]; dsimp only; omega
theorem it_ok {L : Nat → Int32} {n : Nat} (hL : LL L n) {t : aT} (hG : Good t) {p : Nat} {r : aT × Nat} (h : itP L t p = .inr r) : Good r.1 ∧ p + 1 < r.2 ∧ r.2 ≤ n := by
  unfold itP at h
  obtain ⟨w, a1, h⟩ := bnS_inr h
  have a2 := rwN_r _ _ _ a1
  have a3 := wl_le w (by omega)
  unfold itW at h
  have g0 := GS hG
  have g1 := GH hG
  have g2 := GK hG
  by_cases q : fullB t w = true
  · rw [if_pos q] at h; cases h
  rw [if_neg q] at h
  have q : ¬ ((w = 0 ∧ t 13 0 = 12) ∨ (w = 1 ∧ t 13 1 = 10) ∨ (w = 2 ∧ t 13 2 = 4)) := fun z => q (decide_eq_true z)
  by_cases w0 : w = 0
  · rw [if_pos w0] at h
    unfold stP at h
    obtain ⟨a, b1, h⟩ := bnS_inr h
    obtain ⟨b, b2, h⟩ := bnS_inr h
    have c1 := nbB_ok hL b1
    have c2 := nbB_ok hL b2
    by_cases y : a.1 = b.1
    · rw [if_pos y] at h; cases h
    · rw [if_neg y] at h
      have e := Sum.inr.inj h
      rw [← e]; dsimp only
      exact ⟨Good_grow _ hG (by omega) ⟨fun _ => ⟨by show a.1 < 8; omega, by show b.1 < 8; omega⟩, by omega, by omega⟩, by omega, by omega⟩
  rw [if_neg w0] at h
  by_cases w1 : w = 1
  · rw [if_pos w1] at h
    unfold hsP at h
    obtain ⟨a, b1, h⟩ := bnS_inr h
    obtain ⟨b, b2, h⟩ := bnS_inr h
    obtain ⟨c, b3, h⟩ := bnS_inr h
    obtain ⟨d, b4, h⟩ := bnS_inr h
    obtain ⟨k, b5, h⟩ := bnS_inr h
    obtain ⟨s, b6, h⟩ := bnS_inr h
    have c1 := nbB_ok hL b1
    have c2 := nbB_ok hL b2
    have c3 := nbB_ok hL b3
    have c4 := nbB_ok hL b4
    have c5 := nbB_ok hL b5
    have c6 := moP_ok hL (by omega) b6
    have e := Sum.inr.inj h
    rw [← e]; dsimp only
    exact ⟨(houseG hG (by omega) (by omega) (by omega) (by omega) (by omega) (by omega) c6.1 c6.2.1).2.2, by omega, by omega⟩
  rw [if_neg w1] at h
  by_cases w2 : w = 2
  · rw [if_pos w2] at h
    unfold skP at h
    obtain ⟨a, b1, h⟩ := bnS_inr h
    obtain ⟨b, b2, h⟩ := bnS_inr h
    have c1 := nbB_ok hL b1
    have c2 := nbB_ok hL b2
    have e := Sum.inr.inj h
    rw [← e]; dsimp only
    exact ⟨Good_grow _ hG (by omega) ⟨by omega, by omega, fun _ => ⟨by show a.1 ≤ 99; omega, by show b.1 ≤ 9; omega⟩⟩, by omega, by omega⟩
  rw [if_neg w2] at h
  have sc : ∀ lo top i, 3 ≤ i → (i = 3 → lo = 1 ∧ top = 1000) → (i = 4 ∨ i = 5 → top = 11) → i < 6 → scP L t (p + wl w) lo top i = .inr r → Good r.1 ∧ p + 1 < r.2 ∧ r.2 ≤ n := by
    intro lo top i i3 h3 h4 h6 h
    unfold scP at h
    obtain ⟨v, b1, h⟩ := bnS_inr h
    have c1 := nbB_ok hL b1
    have e := Sum.inr.inj h
    rw [← e]; dsimp only
    exact ⟨Good_sc hG i3 (by omega), by omega, by omega⟩
  by_cases w3 : w = 3
  · rw [if_pos w3] at h; exact sc 1 1000 3 (by omega) (by omega) (by omega) (by omega) h
  rw [if_neg w3] at h
  by_cases w4 : w = 4
  · rw [if_pos w4] at h; exact sc 0 11 4 (by omega) (by omega) (by omega) (by omega) h
  rw [if_neg w4] at h
  exact sc 0 11 5 (by omega) (by omega) (by omega) (by omega) h
