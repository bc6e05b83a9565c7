/-! THE ODDS, in pure numbers: sums over all sets of houses, and the class's way to them -/
abbrev W1 : Type := (Nat → Bool) → Int64
def ins (h : Nat) (s : Nat → Bool) : Nat → Bool := fun x => if x = h then true else s x
theorem ins_comm (a b : Nat) (s : Nat → Bool) : ins a (ins b s) = ins b (ins a s) := by
  funext x
  unfold ins
  by_cases q : x = a
  · rw [if_pos q, if_pos q]; split <;> rfl
  · rw [if_neg q, if_neg q]
def T1 (f : Nat → Int64) (h : Nat) (W : W1) : W1 := fun s => (10 - f h) * W s + f h * W (ins h s)
def Ex (f : Nat → Int64) : List Nat → W1 → Int64
  | [], W => W (fun _ => false)
  | h :: l, W => (10 - f h) * Ex f l W + f h * Ex f l (fun s => W (ins h s))
def To (f : Nat → Int64) : List Nat → W1 → W1
  | [], W => W
  | h :: l, W => T1 f h (To f l W)
def dn : Nat → List Nat
  | 0 => []
  | n + 1 => n :: dn n
def frL (fr : Nat → Bool) : Nat → List Nat
  | 0 => []
  | n + 1 => if fr n = true then n :: frL fr n else frL fr n
def otL (fr : Nat → Bool) : Nat → List Nat
  | 0 => []
  | n + 1 => if fr n = true then otL fr n else n :: otL fr n
theorem Ex_lin (f : Nat → Int64) (a b : Int64) : ∀ (l : List Nat) (W V : W1), Ex f l (fun s => a * W s + b * V s) = a * Ex f l W + b * Ex f l V := by
  intro l
  induction l with
  | nil => intro W V; rfl
  | cons h l ih =>
    intro W V
    have e1 := ih W V
    have e2 := ih (fun s => W (ins h s)) (fun s => V (ins h s))
    unfold Ex
    rw [e1, e2]
    grind
theorem To_ins (f : Nat → Int64) (n : Nat) : ∀ (l : List Nat) (W : W1) (s : Nat → Bool), To f l (fun s => W (ins n s)) s = To f l W (ins n s) := by
  intro l
  induction l with
  | nil => intro W s; rfl
  | cons h l ih =>
    intro W s
    unfold To T1
    rw [ih, ih, ins_comm n h]
theorem Ex_split (f : Nat → Int64) (fr : Nat → Bool) : ∀ (n : Nat) (W : W1), Ex f (dn n) W = Ex f (frL fr n) (To f (otL fr n) W) := by
  intro n
  induction n with
  | zero => intro W; rfl
  | succ n ih =>
    intro W
    have e1 := ih W
    have e2 := ih (fun s => W (ins n s))
    have e3 : (To f (otL fr n) fun s => W (ins n s)) = fun s => To f (otL fr n) W (ins n s) := funext (fun s => To_ins f n _ W s)
    show (10 - f n) * Ex f (dn n) W + f n * Ex f (dn n) (fun s => W (ins n s)) = Ex f (if fr n = true then n :: frL fr n else frL fr n) (To f (if fr n = true then otL fr n else n :: otL fr n) W)
    rw [e1, e2, e3]
    by_cases q : fr n = true
    · rw [if_pos q, if_pos q]; rfl
    · rw [if_neg q, if_neg q]
      show _ = Ex f (frL fr n) (fun s => (10 - f n) * To f (otL fr n) W s + f n * To f (otL fr n) W (ins n s))
      rw [Ex_lin]
theorem To_lin (f : Nat → Int64) (a b : Int64) : ∀ (l : List Nat) (W V : W1) (s : Nat → Bool), To f l (fun s => a * W s + b * V s) s = a * To f l W s + b * To f l V s := by
  intro l
  induction l with
  | nil => intro W V s; rfl
  | cons h l ih =>
    intro W V s
    unfold To T1
    rw [ih, ih]
    grind
/-- what 10 to the houses without a front is -/
def whN (fr : Nat → Bool) : Nat → Int64
  | 0 => 1
  | n + 1 => if fr n = true then whN fr n else whN fr n * 10
def btN (fr : Nat → Bool) : Nat → Int64
  | 0 => 0
  | n + 1 => if fr n = true then btN fr n else whN fr n
theorem whN_f {fr : Nat → Bool} {n : Nat} (q : fr n = true) : whN fr (n + 1) = whN fr n := if_pos q
theorem whN_o {fr : Nat → Bool} {n : Nat} (q : ¬ fr n = true) : whN fr (n + 1) = whN fr n * 10 := if_neg q
theorem btN_f {fr : Nat → Bool} {n : Nat} (q : fr n = true) : btN fr (n + 1) = btN fr n := if_pos q
theorem btN_o {fr : Nat → Bool} {n : Nat} (q : ¬ fr n = true) : btN fr (n + 1) = whN fr n := if_neg q
theorem otL_f {fr : Nat → Bool} {n : Nat} (q : fr n = true) : otL fr (n + 1) = otL fr n := if_pos q
theorem otL_o {fr : Nat → Bool} {n : Nat} (q : ¬ fr n = true) : otL fr (n + 1) = n :: otL fr n := if_neg q
theorem ar0 (a b c : Int64) : (10 - c) * (a * b) + c * (a * b) = a * 10 * b := by grind
theorem To_inv (f : Nat → Int64) (fr : Nat → Bool) (W : W1) : ∀ (n : Nat), (∀ h s, h < n → fr h = false → W (ins h s) = W s) → ∀ s, To f (otL fr n) W s = whN fr n * W s := by
  intro n
  induction n with
  | zero => intro _ s; show W s = 1 * W s; grind
  | succ n ih =>
    intro hW s
    have ih := ih (fun h s hh => hW h s (by omega))
    by_cases q : fr n = true
    · rw [otL_f q, whN_f q]; exact ih s
    · rw [otL_o q, whN_o q]
      show (10 - f n) * To f (otL fr n) W s + f n * To f (otL fr n) W (ins n s) = _
      rw [ih, ih, hW n s (by omega) (Bool.eq_false_iff.mpr q)]
      exact ar0 _ _ _
theorem ar1 (a b c d e : Int64) : 1 * (a * b + c * d) + 1 * (a * e) = a * (b + e) + c * d := by grind
theorem ar2 (wh hm bt ot f v p : Int64) (h : bt * 10 = wh) : (10 - f) * (1 * (wh * hm + bt * ot) + 1 * (wh * v)) + f * (1 * (wh * hm + bt * ot) + 1 * (wh * (10 * p))) = wh * 10 * hm + wh * (ot + (10 * f * p + (10 - f) * v)) := by
  subst h; grind
theorem ar3 (c f p : Int64) : c * (10 - f) * p = (10 - f) * (c * p) := by grind
theorem ar4 (f : Int64) : (0 : Int64) = (10 - f) * 0 := by grind
theorem ar5 (wh hm f v p : Int64) : (10 - f) * (1 * (wh * hm + 0 * 0) + 1 * (wh * v)) + f * (1 * (wh * hm + 0 * 0) + 1 * (wh * (10 * p))) = wh * 10 * hm + wh * (0 + (10 * f * p + (10 - f) * v)) := by grind
section
variable (f : Nat → Int64) (fr : Nat → Bool) (p : Nat → Int64) (c : Int64) (cor : Nat → Nat) (cut : (Nat → Bool) → Nat → Bool) (base : W1)
def wv (h : Nat) : W1 := fun s => if s h = true then 10 * p h else if cut s (cor h) = true then c * p h else 0
def Wn : Nat → W1
  | 0 => base
  | n + 1 => fun s => 1 * Wn n s + 1 * wv p c cor cut n s
def hmF : Nat → W1
  | 0 => base
  | n + 1 => fun s => if fr n = true then hmF n s + wv p c cor cut n s else hmF n s
def otN : Nat → W1
  | 0 => fun _ => 0
  | n + 1 => fun s => if fr n = true then otN n s else otN n s + (10 * f n * p n + if cut s (cor n) = true then c * (10 - f n) * p n else 0)
theorem bt_wh : ∀ n, (btN fr n * 10 = whN fr n) ∨ (btN fr n = 0 ∧ ∀ s, otN f fr p c cor cut n s = 0) := by
  intro n
  induction n with
  | zero => exact Or.inr ⟨rfl, fun _ => rfl⟩
  | succ n ih =>
    by_cases q : fr n = true
    · rw [btN_f q, whN_f q]
      rcases ih with ih | ⟨i1, i2⟩
      · exact Or.inl ih
      · exact Or.inr ⟨i1, fun s => (if_pos q : otN f fr p c cor cut (n + 1) s = _).trans (i2 s)⟩
    · rw [btN_o q, whN_o q]; exact Or.inl rfl
theorem hm_ins (hc : ∀ h s, fr h = false → cut (ins h s) = cut s) (hb : ∀ h s, fr h = false → base (ins h s) = base s) {k : Nat} (hk : fr k = false) : ∀ (n : Nat) (s : Nat → Bool), hmF fr p c cor cut base n (ins k s) = hmF fr p c cor cut base n s := by
  intro n
  induction n with
  | zero => intro s; exact hb k s hk
  | succ n ih =>
    intro s
    unfold hmF
    rw [ih]
    by_cases q : fr n = true
    · rw [if_pos q, if_pos q]
      unfold wv
      rw [hc k s hk, show ins k s n = s n from if_neg (fun z => by rw [z, hk] at q; cases q)]
    · rw [if_neg q, if_neg q]
theorem ot_ins (hc : ∀ h s, fr h = false → cut (ins h s) = cut s) {k : Nat} (hk : fr k = false) : ∀ (n : Nat) (s : Nat → Bool), otN f fr p c cor cut n (ins k s) = otN f fr p c cor cut n s := by
  intro n
  induction n with
  | zero => intro s; rfl
  | succ n ih =>
    intro s
    unfold otN
    rw [ih, hc k s hk]
theorem To_val (hc : ∀ h s, fr h = false → cut (ins h s) = cut s) (hb : ∀ h s, fr h = false → base (ins h s) = base s) : ∀ (n : Nat) (s : Nat → Bool), (∀ h, h < n → fr h = false → s h = false) → To f (otL fr n) (Wn p c cor cut base n) s = whN fr n * hmF fr p c cor cut base n s + btN fr n * otN f fr p c cor cut n s := by
  intro n
  induction n with
  | zero => intro s _; show base s = 1 * base s + 0 * 0; grind
  | succ n ih =>
    intro s hs
    have i1 := ih s (fun h hh => hs h (by omega))
    have lin := To_lin f 1 1 (otL fr n) (Wn p c cor cut base n) (wv p c cor cut n)
    have wI : ∀ s, To f (otL fr n) (wv p c cor cut n) s = whN fr n * wv p c cor cut n s := by
      refine To_inv f fr _ n (fun h s hh hf => ?_)
      unfold wv
      rw [hc h s hf, show ins h s n = s n from if_neg (by omega)]
    by_cases q : fr n = true
    · have e : To f (otL fr (n + 1)) (Wn p c cor cut base (n + 1)) s = To f (otL fr n) (fun s => 1 * Wn p c cor cut base n s + 1 * wv p c cor cut n s) s := by
        show To f (if fr n = true then _ else _) _ s = _
        rw [if_pos q]; rfl
      rw [e, lin, i1, wI, whN_f q, btN_f q, show hmF fr p c cor cut base (n + 1) s = hmF fr p c cor cut base n s + wv p c cor cut n s from if_pos q, show otN f fr p c cor cut (n + 1) s = otN f fr p c cor cut n s from if_pos q]
      exact ar1 _ _ _ _ _
    · have qf : fr n = false := Bool.eq_false_iff.mpr q
      have i2 := ih (ins n s) (fun h hh hf => by
        have := hs h (by omega) hf
        unfold ins; rw [if_neg (by omega)]; exact this)
      rw [hm_ins fr p c cor cut base hc hb qf, ot_ins f fr p c cor cut hc qf] at i2
      have e : To f (otL fr (n + 1)) (Wn p c cor cut base (n + 1)) s = (10 - f n) * To f (otL fr n) (fun s => 1 * Wn p c cor cut base n s + 1 * wv p c cor cut n s) s + f n * To f (otL fr n) (fun s => 1 * Wn p c cor cut base n s + 1 * wv p c cor cut n s) (ins n s) := by
        show To f (if fr n = true then _ else _) _ s = _
        rw [if_neg q]; rfl
      have v1 : wv p c cor cut n s = if cut s (cor n) = true then c * p n else 0 := by
        unfold wv; rw [hs n (by omega) qf]; rfl
      have v2 : wv p c cor cut n (ins n s) = 10 * p n := by
        unfold wv; rw [show ins n s n = true from if_pos rfl, if_pos rfl]
      rw [e, lin, lin, i1, i2, wI, wI, v1, v2]
      rw [whN_o q, btN_o q, show hmF fr p c cor cut base (n + 1) s = hmF fr p c cor cut base n s from if_neg q, show otN f fr p c cor cut (n + 1) s = otN f fr p c cor cut n s + (10 * f n * p n + if cut s (cor n) = true then c * (10 - f n) * p n else 0) from if_neg q]
      have b := bt_wh f fr p c cor cut n
      have y : (if cut s (cor n) = true then c * (10 - f n) * p n else 0) = (10 - f n) * (if cut s (cor n) = true then c * p n else 0) := by
        by_cases z : cut s (cor n) = true
        · rw [if_pos z, if_pos z]; exact ar3 _ _ _
        · rw [if_neg z, if_neg z]; exact ar4 _
      rw [y]
      rcases b with b | ⟨b1, b2⟩
      · exact ar2 _ _ _ _ _ _ _ b
      · rw [b1, b2 s]
        exact ar5 _ _ _ _ _
end
theorem Ex_congr (f : Nat → Int64) : ∀ (l : List Nat) (V V' : W1), (∀ s, (∀ x, s x = true → x ∈ l) → V s = V' s) → Ex f l V = Ex f l V' := by
  intro l
  induction l with
  | nil => intro V V' h; exact h _ (fun x hx => by cases hx)
  | cons k l ih =>
    intro V V' h
    unfold Ex
    rw [ih V V' (fun s hs => h s (fun x hx => List.mem_cons_of_mem _ (hs x hx))), ih _ (fun s => V' (ins k s)) (fun s hs => h _ (fun x hx => by
      unfold ins at hx
      by_cases q : x = k
      · rw [q]; exact List.mem_cons_self
      · rw [if_neg q] at hx; exact List.mem_cons_of_mem _ (hs x hx)))]
/-! the reference's sums: sets as numbers -/
def sumL (g : Nat → Int64) : Nat → Int64
  | 0 => 0
  | n + 1 => sumL g n + g n
theorem sumL_congr {g g' : Nat → Int64} : ∀ n, (∀ i, i < n → g i = g' i) → sumL g n = sumL g' n := by
  intro n
  induction n with
  | zero => intro _; rfl
  | succ n ih => intro h; unfold sumL; rw [ih (fun i hi => h i (by omega)), h n (by omega)]
theorem sumL_add (g : Nat → Int64) (a : Nat) : ∀ b, sumL g (a + b) = sumL g a + sumL (fun i => g (a + i)) b := by
  intro b
  induction b with
  | zero => show sumL g a = sumL g a + 0; grind
  | succ b ih => show sumL g (a + b) + g (a + b) = sumL g a + (sumL _ b + g (a + b)); rw [ih]; grind
theorem sumL_mul (c : Int64) (g : Nat → Int64) : ∀ n, sumL (fun i => c * g i) n = c * sumL g n := by
  intro n
  induction n with
  | zero => show (0 : Int64) = c * 0; grind
  | succ n ih => show sumL _ n + c * g n = c * (sumL g n + g n); rw [ih]; grind
def odN (f : Nat → Int64) : Nat → Nat → Int64
  | 0, _ => 1
  | n + 1, s => if 2 ^ n ≤ s then odN f n (s - 2 ^ n) * f n else odN f n s * (10 - f n)
theorem tb_add {n s : Nat} (h : s < 2 ^ n) : (2 ^ n + s).testBit = ins n s.testBit := by
  funext x
  unfold ins
  by_cases q : x = n
  · rw [if_pos q, q, Nat.testBit_two_pow_add_eq, Nat.testBit_lt_two_pow h]; rfl
  · rw [if_neg q]
    rcases Nat.lt_or_gt_of_ne q with z | z
    · exact Nat.testBit_two_pow_add_gt z s
    · have h1 : 2 ^ n + s < 2 ^ x := by
        have : 2 ^ (n + 1) ≤ 2 ^ x := Nat.pow_le_pow_right (by decide) z
        rw [Nat.pow_succ] at this
        omega
      have h2 : s < 2 ^ x := by omega
      rw [Nat.testBit_lt_two_pow h1, Nat.testBit_lt_two_pow h2]
theorem sum_Ex (f : Nat → Int64) : ∀ (n : Nat) (W : Nat → Int64) (Wp : W1), (∀ s, s < 2 ^ n → W s = Wp s.testBit) → sumL (fun s => odN f n s * W s) (2 ^ n) = Ex f (dn n) Wp := by
  intro n
  induction n with
  | zero =>
    intro W Wp h
    show (0 : Int64) + 1 * W 0 = Wp _
    rw [h 0 (by decide)]
    have : (Nat.testBit 0) = fun _ => false := by funext x; exact Nat.zero_testBit x
    rw [this]; grind
  | succ n ih =>
    intro W Wp h
    have p2 : 2 ^ (n + 1) = 2 ^ n + 2 ^ n := by rw [Nat.pow_succ]; omega
    rw [p2, sumL_add]
    have e1 : sumL (fun s => odN f (n + 1) s * W s) (2 ^ n) = (10 - f n) * Ex f (dn n) Wp := by
      rw [← ih W Wp (fun s hs => h s (by omega)), ← sumL_mul]
      refine sumL_congr _ (fun i hi => ?_)
      show (if 2 ^ n ≤ i then _ else _) * W i = _
      rw [if_neg (by omega)]; grind
    have e2 : sumL (fun i => odN f (n + 1) (2 ^ n + i) * W (2 ^ n + i)) (2 ^ n) = f n * Ex f (dn n) (fun s => Wp (ins n s)) := by
      rw [← ih (fun s => W (2 ^ n + s)) (fun s => Wp (ins n s)) (fun s hs => by rw [h _ (by omega), tb_add hs]), ← sumL_mul]
      refine sumL_congr _ (fun i hi => ?_)
      show (if 2 ^ n ≤ 2 ^ n + i then odN f n (2 ^ n + i - 2 ^ n) * f n else _) * W (2 ^ n + i) = _
      rw [if_pos (by omega), show 2 ^ n + i - 2 ^ n = i by omega]; grind
    rw [e1, e2]
    rfl
/-! the class's fold over the fronted houses -/
def mem : List Nat → Nat → Nat → Bool
  | [], _ => fun _ => false
  | h :: l, s => if s.testBit l.length = true then ins h (mem l s) else mem l s
def FoL (f : Nat → Int64) : List Nat → (Nat → Int64) → Int64
  | [], a => a 0
  | h :: l, a => FoL f l (fun s => a s * (10 - f h) + a (2 ^ l.length + s) * f h)
theorem mem_hi : ∀ (l : List Nat) (k s : Nat), l.length ≤ k → s < 2 ^ k → mem l (2 ^ k + s) = mem l s := by
  intro l
  induction l with
  | nil => intro k s _ _; rfl
  | cons h l ih =>
    intro k s hk hs
    have hk' : l.length < k := by simp at hk; omega
    unfold mem
    rw [ih k s (by omega) hs, Nat.testBit_two_pow_add_gt hk' s]
theorem mem_0 (l : List Nat) : mem l 0 = fun _ => false := by
  induction l with
  | nil => rfl
  | cons h l ih => unfold mem; rw [Nat.zero_testBit, ih]; rfl
theorem FoL_congr (f : Nat → Int64) : ∀ (l : List Nat) (a b : Nat → Int64), (∀ s, s < 2 ^ l.length → a s = b s) → FoL f l a = FoL f l b := by
  intro l
  induction l with
  | nil => intro a b h; exact h 0 (by decide)
  | cons k l ih =>
    intro a b h
    have p2 : 2 ^ (k :: l).length = 2 ^ l.length + 2 ^ l.length := by rw [List.length_cons, Nat.pow_succ]; omega
    unfold FoL
    exact ih _ _ (fun s hs => by rw [h s (by omega), h _ (by omega)])
theorem FoL_Ex (f : Nat → Int64) : ∀ (l : List Nat) (a : Nat → Int64) (V : W1), (∀ s, s < 2 ^ l.length → a s = V (mem l s)) → FoL f l a = Ex f l V := by
  intro l
  induction l with
  | nil => intro a V h; exact h 0 (by decide)
  | cons k l ih =>
    intro a V h
    have p2 : 2 ^ (k :: l).length = 2 ^ l.length + 2 ^ l.length := by rw [List.length_cons, Nat.pow_succ]; omega
    have e := ih (fun s => a s * (10 - f k) + a (2 ^ l.length + s) * f k) (fun s => (10 - f k) * V s + f k * V (ins k s)) (fun s hs => by
      have h1 := h s (by omega)
      have h2 := h (2 ^ l.length + s) (by omega)
      unfold mem at h1 h2
      rw [Nat.testBit_lt_two_pow hs] at h1
      rw [Nat.testBit_two_pow_add_eq, Nat.testBit_lt_two_pow hs, mem_hi l _ s (Nat.le_refl _) hs] at h2
      rw [h1, h2]
      simp
      grind)
    show FoL f l (fun s => a s * (10 - f k) + a (2 ^ l.length + s) * f k) = _
    rw [e, Ex_lin]
    rfl
