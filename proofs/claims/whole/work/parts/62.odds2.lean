/-! THE ODDS: the fronted houses as a list, the streets they shut, what is cut -/
/-- a loop by an invariant that counts -/
theorem lp_cnt {S A : Type} {B : (S → Option A) → S → Option A} (I : Nat → S → Prop) {E : S → Option A} {c N : Nat} (hN : c < N) {s0 : S} (h0 : I 0 s0) (hs : ∀ i s, i < c → I i s → ∃ s', I (i + 1) s' ∧ ∀ k, B k s = k s') (he : ∀ s, I c s → ∀ k, B k s = E s) : ∃ s, I c s ∧ mj_lp N B s0 = E s := by
  have H : ∀ (d i M : Nat) (s : S), i + d = c → d < M → I i s → ∃ s', I c s' ∧ mj_lp M B s = E s' := by
    intro d
    induction d with
    | zero =>
      intro i M s h1 h2 h3
      obtain ⟨M, rfl⟩ : ∃ k, M = k + 1 := ⟨M - 1, by omega⟩
      have : i = c := by omega
      subst this
      exact ⟨s, h3, he s h3 _⟩
    | succ d ih =>
      intro i M s h1 h2 h3
      obtain ⟨M, rfl⟩ : ∃ k, M = k + 1 := ⟨M - 1, by omega⟩
      obtain ⟨s', h4, h5⟩ := hs i s (by omega) h3
      obtain ⟨s2, h6, h7⟩ := ih (i + 1) M s' (by omega) (by omega) h4
      exact ⟨s2, h6, (h5 _).trans h7⟩
  exact H c 0 N s0 (by omega) hN h0
theorem mem_c (h : Nat) (l : List Nat) (s : Nat) : mem (h :: l) s = if s.testBit l.length = true then ins h (mem l s) else mem l s := rfl
/-- the last i of a list -/
def sfx (L : List Nat) (i : Nat) : List Nat := L.drop (L.length - i)
theorem sfx_0 (L : List Nat) : sfx L 0 = [] := by unfold sfx; simp
theorem sfx_all (L : List Nat) : sfx L L.length = L := by unfold sfx; simp
theorem sfx_len {L : List Nat} {i : Nat} (h : i ≤ L.length) : (sfx L i).length = i := by unfold sfx; rw [List.length_drop]; omega
theorem sfx_s {L : List Nat} {i : Nat} (h : i < L.length) : ∃ x, sfx L (i + 1) = x :: sfx L i ∧ x ∈ L := by
  have hk : L.length - (i + 1) < L.length := by omega
  refine ⟨L[L.length - (i + 1)], ?_, List.getElem_mem hk⟩
  unfold sfx
  rw [List.drop_eq_getElem_cons hk, show L.length - (i + 1) + 1 = L.length - i by omega]
theorem sfx_c (x : Nat) (L : List Nat) {i : Nat} (h : i ≤ L.length) : sfx (x :: L) i = sfx L i := by
  unfold sfx
  rw [List.length_cons, show L.length + 1 - i = (L.length - i) + 1 by omega, List.drop_succ_cons]
def Cells (m : mj_m) (L : List Nat) : Prop := ∀ i x, i < L.length → sfx L (i + 1) = x :: sfx L i → m.1 37 i = nI x
theorem frL_lt (fr : Nat → Bool) : ∀ n x, x ∈ frL fr n → x < n ∧ fr x = true := by
  intro n
  induction n with
  | zero => intro x h; cases h
  | succ n ih =>
    intro x h
    unfold frL at h
    by_cases q : fr n = true
    · rw [if_pos q] at h
      rcases List.mem_cons.mp h with rfl | h
      · exact ⟨by omega, q⟩
      · have := ih x h; exact ⟨by omega, this.2⟩
    · rw [if_neg q] at h
      have := ih x h; exact ⟨by omega, this.2⟩
theorem frL_len (fr : Nat → Bool) (n : Nat) : (frL fr n).length ≤ n := by
  induction n with
  | zero => exact Nat.le_refl _
  | succ n ih =>
    unfold frL
    split
    · rw [List.length_cons]; omega
    · omega
theorem frL_nd (fr : Nat → Bool) (n : Nat) : (frL fr n).Nodup := by
  induction n with
  | zero => exact List.nodup_nil
  | succ n ih =>
    unfold frL
    split
    · rw [List.nodup_cons]
      exact ⟨fun h => by have := (frL_lt fr n n h).1; omega, ih⟩
    · exact ih
theorem mem_no : ∀ (l : List Nat) (s x : Nat), x ∉ l → mem l s x = false := by
  intro l
  induction l with
  | nil => intro s x _; rfl
  | cons h l ih =>
    intro s x hx
    have h1 : x ≠ h := fun z => hx (by rw [z]; exact List.mem_cons_self)
    have h2 : x ∉ l := fun z => hx (List.mem_cons_of_mem _ z)
    unfold mem
    split
    · unfold ins; rw [if_neg h1]; exact ih s x h2
    · exact ih s x h2
theorem mem_at {L : List Nat} (nd : L.Nodup) (s : Nat) : ∀ {i x : Nat}, i < L.length → sfx L (i + 1) = x :: sfx L i → mem L s x = s.testBit i := by
  induction L with
  | nil => intro i x h; cases h
  | cons k L ih =>
    intro i x hi hx
    rw [List.nodup_cons] at nd
    by_cases q : i = L.length
    · subst q
      rw [show L.length + 1 = (k :: L).length from rfl, sfx_all, sfx_c k L (Nat.le_refl _), sfx_all] at hx
      have e : k = x := (List.cons.inj hx).1
      subst e
      rw [mem_c]
      by_cases y : s.testBit L.length = true
      · rw [if_pos y, y]; exact if_pos rfl
      · rw [if_neg y, mem_no L s k nd.1]; exact (Bool.eq_false_iff.mpr y).symm
    · have hi' : i < L.length := by rw [List.length_cons] at hi; omega
      rw [sfx_c k L (by omega), sfx_c k L (by omega)] at hx
      have h1 := ih nd.2 hi' hx
      have xm : x ∈ L := by
        obtain ⟨x', e1, e2⟩ := sfx_s hi'
        rw [e1] at hx
        rw [← (List.cons.inj hx).1]; exact e2
      have xk : x ≠ k := fun z => nd.1 (by rw [← z]; exact xm)
      rw [mem_c]
      split
      · unfold ins; rw [if_neg xk]; exact h1
      · exact h1
def frT (t : aT) : Nat → Bool := fun h => decide (t 5 h ≠ 0)
def LT (t : aT) : List Nat := frL (frT t) (t 13 1)
/-- the streets that the fronted houses of a set shut, over the class's numbers -/
def sbN (t : aT) : List Nat → Nat → Nat
  | [], _ => 0
  | h :: l, s => if s.testBit l.length = true then sbN t l s ||| 2 ^ (t 5 h - 1) else sbN t l s
theorem sbN_c (t : aT) (h : Nat) (l : List Nat) (s : Nat) : sbN t (h :: l) s = if s.testBit l.length = true then sbN t l s ||| 2 ^ (t 5 h - 1) else sbN t l s := rfl
theorem sbN_hi (t : aT) : ∀ (l : List Nat) (k s : Nat), l.length ≤ k → s < 2 ^ k → sbN t l (2 ^ k + s) = sbN t l s := by
  intro l
  induction l with
  | nil => intro k s _ _; rfl
  | cons h l ih =>
    intro k s hk hs
    have hk' : l.length < k := by simp at hk; omega
    unfold sbN
    rw [ih k s (by omega) hs, Nat.testBit_two_pow_add_gt hk' s]
theorem sbN_0 (t : aT) (l : List Nat) : sbN t l 0 = 0 := by
  induction l with
  | nil => rfl
  | cons h l ih => unfold sbN; rw [Nat.zero_testBit, ih]; rfl
theorem sbN_lo (t : aT) (h : Nat) (l : List Nat) {s : Nat} (hs : s < 2 ^ l.length) : sbN t (h :: l) s = sbN t l s := by
  rw [sbN_c, Nat.testBit_lt_two_pow hs]; rfl
theorem sbN_up (t : aT) (h : Nat) (l : List Nat) {s : Nat} (hs : s < 2 ^ l.length) : sbN t (h :: l) (2 ^ l.length + s) = sbN t l s ||| 2 ^ (t 5 h - 1) := by
  rw [sbN_c, Nat.testBit_two_pow_add_eq, Nat.testBit_lt_two_pow hs, if_pos (show (!false) = true from rfl), sbN_hi t l _ s (Nat.le_refl _) hs]
def shP (t : aT) (P : Nat → Bool) : Nat → Nat
  | 0 => 0
  | n + 1 => if P n = true ∧ t 5 n ≠ 0 then shP t P n ||| 2 ^ (t 5 n - 1) else shP t P n
theorem shP_s (t : aT) (P : Nat → Bool) (n : Nat) : shP t P (n + 1) = if P n = true ∧ t 5 n ≠ 0 then shP t P n ||| 2 ^ (t 5 n - 1) else shP t P n := rfl
theorem shP_shu (t : aT) (set : Nat) : ∀ n, shuN t set n = shP t set.testBit n := by
  intro n
  induction n with
  | zero => rfl
  | succ n ih => unfold shuN shP; rw [ih]
theorem shP_congr (t : aT) {P Q : Nat → Bool} : ∀ n, (∀ x, x < n → t 5 x ≠ 0 → P x = Q x) → shP t P n = shP t Q n := by
  intro n
  induction n with
  | zero => intro _; rfl
  | succ n ih =>
    intro h
    unfold shP
    rw [ih (fun x hx => h x (by omega))]
    by_cases q : t 5 n = 0
    · rw [if_neg (fun z => z.2 q), if_neg (fun z => z.2 q)]
    · rw [h n (by omega) q]
theorem shP_mem (t : aT) (s : Nat) : ∀ n, shP t (mem (frL (frT t) n) s) n = sbN t (frL (frT t) n) s := by
  intro n
  induction n with
  | zero => rfl
  | succ n ih =>
    by_cases q : frT t n = true
    · have q5 : t 5 n ≠ 0 := of_decide_eq_true q
      have e : frL (frT t) (n + 1) = n :: frL (frT t) n := if_pos q
      rw [e]
      have a1 : shP t (mem (n :: frL (frT t) n) s) n = shP t (mem (frL (frT t) n) s) n := by
        refine shP_congr t n (fun x hx _ => ?_)
        rw [mem_c]
        split
        · unfold ins; rw [if_neg (by omega)]
        · rfl
      have a2 : mem (n :: frL (frT t) n) s n = s.testBit (frL (frT t) n).length := by
        rw [mem_c]
        by_cases y : s.testBit (frL (frT t) n).length = true
        · rw [if_pos y, y]; exact if_pos rfl
        · rw [if_neg y, mem_no _ s n (fun z => by have := (frL_lt _ _ _ z).1; omega)]; exact (Bool.eq_false_iff.mpr y).symm
      rw [shP_s, sbN_c, a1, a2, ih]
      by_cases y : s.testBit (frL (frT t) n).length = true
      · rw [if_pos ⟨y, q5⟩, if_pos y]
      · rw [if_neg (fun z => y z.1), if_neg y]
    · have q5 : t 5 n = 0 := Decidable.byContradiction (fun z => q (decide_eq_true z))
      have e : frL (frT t) (n + 1) = frL (frT t) n := if_neg q
      rw [e, shP_s, if_neg (fun z => z.2 q5), ih]
def cutP (t : aT) (P : Nat → Bool) (c : Nat) : Bool := (cutN t (shP t P (t 13 1))).testBit c
theorem cutP_ins (t : aT) (h : Nat) (s : Nat → Bool) (hf : frT t h = false) : cutP t (ins h s) = cutP t s := by
  have q5 : t 5 h = 0 := Decidable.byContradiction (fun z => by rw [show frT t h = true from decide_eq_true z] at hf; cases hf)
  funext c
  unfold cutP
  rw [shP_congr t (P := ins h s) (Q := s) _ (fun x _ hx => if_neg (fun z => hx (by rw [z]; exact q5)))]
theorem cutP_mem (t : aT) (s c : Nat) : cutP t (mem (LT t) s) c = (cutN t (sbN t (LT t) s)).testBit c := by
  unfold cutP LT; rw [shP_mem]
theorem cutP_set (t : aT) (set c : Nat) : cutP t set.testBit c = (cutN t (shuN t set (t 13 1))).testBit c := by
  unfold cutP; rw [shP_shu]
/-- the value of a sum over all sets -/
def SVal (t : aT) (st : Nat → Nat) (k : Nat) (P : Nat → Int64) (C : Int64) (base : W1) : Int64 := Ex (fun h => lN (fN t st h k)) (dn (t 13 1)) (Wn P C (t 0) (cutP t) base (t 13 1))
def hmL (P : Nat → Int64) (C : Int64) (t : aT) (base : W1) : List Nat → W1
  | [] => base
  | h :: l => fun s => hmL P C t base l s + wv P C (t 0) (cutP t) h s
theorem hmL_F (P : Nat → Int64) (C : Int64) (t : aT) (base : W1) : ∀ n, hmF (frT t) P C (t 0) (cutP t) base n = hmL P C t base (frL (frT t) n) := by
  intro n
  induction n with
  | zero => rfl
  | succ n ih =>
    by_cases q : frT t n = true
    · rw [show frL (frT t) (n + 1) = n :: frL (frT t) n from if_pos q, show hmF (frT t) P C (t 0) (cutP t) base (n + 1) = (fun s => if frT t n = true then hmF (frT t) P C (t 0) (cutP t) base n s + wv P C (t 0) (cutP t) n s else hmF (frT t) P C (t 0) (cutP t) base n s) from rfl, ih]
      funext s
      rw [if_pos q]; rfl
    · rw [show frL (frT t) (n + 1) = frL (frT t) n from if_neg q, ← ih]
      funext s
      exact if_neg q
/-- the class's fold gives that value -/
theorem fold_val (t : aT) (st : Nat → Nat) (k : Nat) (P : Nat → Int64) (C : Int64) (base : W1) (hb : ∀ h s, frT t h = false → base (ins h s) = base s) (a : Nat → Int64)
    (ha : ∀ s, s < 2 ^ (LT t).length → a s = whN (frT t) (t 13 1) * hmL P C t base (LT t) (mem (LT t) s) + btN (frT t) (t 13 1) * otN (fun h => lN (fN t st h k)) (frT t) P C (t 0) (cutP t) (t 13 1) (mem (LT t) s)) :
    FoL (fun h => lN (fN t st h k)) (LT t) a = SVal t st k P C base := by
  unfold SVal
  rw [Ex_split _ (frT t)]
  rw [FoL_Ex _ (LT t) a (fun S => whN (frT t) (t 13 1) * hmL P C t base (LT t) S + btN (frT t) (t 13 1) * otN (fun h => lN (fN t st h k)) (frT t) P C (t 0) (cutP t) (t 13 1) S) ha]
  refine Ex_congr _ _ _ _ (fun s hs => ?_)
  rw [To_val _ (frT t) P C (t 0) (cutP t) base (cutP_ins t) hb (t 13 1) s (fun h hh hf => ?_)]
  · rw [hmL_F]; rfl
  · refine Bool.eq_false_iff.mpr (fun z => ?_)
    have := (frL_lt _ _ _ (hs h z)).2
    rw [hf] at this; cases this
/-- corner 0 is never cut -/
theorem pw_bit0 (t : aT) (b : Nat) : ∀ p, (pwN t b p).testBit 0 = true := by
  have step : ∀ i r, r.testBit 0 = true → (stp t b i r).testBit 0 = true := by
    intro i r h
    unfold stp
    split
    · rw [Nat.testBit_or, h]; rfl
    · exact h
  have pass : ∀ n r, r.testBit 0 = true → (passN t b n r).testBit 0 = true := by
    intro n
    induction n with
    | zero => intro r h; exact h
    | succ n ih => intro r h; exact step n _ (ih r h)
  intro p
  induction p with
  | zero => exact (by decide : Nat.testBit 1 0 = true)
  | succ p ih => exact pass _ _ ih
theorem cut_bit0 (t : aT) (b : Nat) : (cutN t b).testBit 0 = false := by
  unfold cutN
  rw [Nat.testBit_xor, pw_bit0 t b 7]; rfl
