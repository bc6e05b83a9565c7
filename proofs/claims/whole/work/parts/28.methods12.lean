/-! METHODS as functions, and their rows over the small machine (printed by program from the printed instructions) -/
def f_X7_strike_168 (N : Nat) (k_86 : Int32 × Int32 × Int32 → Option (Int32 × mj_m)) (v2 : Int32) (v3 : Int32) (v4 : Int32) (v5 : Int32) (v6 : Int32) (v7 : Int32) (m : mj_m) : Option (Int32 × mj_m) := mj_mw (v7 + 1) (fun x1 => k_86 (v5, v6, x1))
theorem k_X7_strike_168 {L : Nat} {xs : Nat → Int32} {δ N : Nat} {v2 : Int32} {v3 : Int32} {v4 : Int32} {v5 : Int32} {v6 : Int32} {v7 : Int32} {m : mj_m} {k_86 : Int32 × Int32 × Int32 → Option (Int32 × mj_m)} (q_86 : ∀ (s_ : Int32 × Int32 × Int32) (a_ : Int32 × mj_m), k_86 s_ = some a_ → mj_Go (mj_EX L xs) (δ + 1) mY_X7_strike 86 [(0, .ref 1), (2, .int v2), (3, .int v3), (4, .int v4), (5, .int s_.1), (6, .int s_.2.1), (7, .int s_.2.2)] [] (mj_fin m) (some (.int a_.1), (mj_fin a_.2))) (hδ : 1 ≤ δ) {a : Int32 × mj_m} (h : f_X7_strike_168 N k_86 v2 v3 v4 v5 v6 v7 m = some a) : mj_Go (mj_EX L xs) (δ + 1) mY_X7_strike 168 [(0, .ref 1), (2, .int v2), (3, .int v3), (4, .int v4), (5, .int v5), (6, .int v6), (7, .int v7)] [] (mj_fin m) (some (.int a.1), (mj_fin a.2)) := by
  unfold f_X7_strike_168 at h
  obtain ⟨x1, ex1, h⟩ := mj_mw_some h
  refine mj_go_iinc (i := 7) (x := v7) (v := x1) rfl (by rw [ex1] <;> rfl) (by decide) (mj_dt dt_X7_strike 91 rfl) ?_
  refine mj_go_goto (tgt := 86) rfl (mj_dt dt_X7_strike 92 rfl) ?_
  refine mj_go_sub (lv' := [(0, .ref 1), (2, .int v2), (3, .int v3), (4, .int v4), (5, .int v5), (6, .int v6), (7, .int x1)]) (List.forall_mem_cons.mpr ⟨rfl, (List.forall_mem_cons.mpr ⟨rfl, (List.forall_mem_cons.mpr ⟨rfl, (List.forall_mem_cons.mpr ⟨rfl, (List.forall_mem_cons.mpr ⟨rfl, (List.forall_mem_cons.mpr ⟨rfl, (List.forall_mem_cons.mpr ⟨rfl, (fun _ h9 => absurd h9 List.not_mem_nil)⟩)⟩)⟩)⟩)⟩)⟩)⟩) ?_
  exact q_86 _ _ h
def f_X7_strike_122 (N : Nat) (k_86 : Int32 × Int32 × Int32 → Option (Int32 × mj_m)) (v2 : Int32) (v3 : Int32) (v4 : Int32) (v5 : Int32) (v6 : Int32) (v7 : Int32) (s0 : Int32) (m : mj_m) : Option (Int32 × mj_m) := if ((v3 >>> (v7 &&& 31)) &&& 1) = 0 then (mj_ck (mj_b 2 4 v7) ( if ((v4 >>> ((m.1 (8 + v7.toNatClampNeg) 0) &&& 31)) &&& 1) = 0 then f_X7_strike_168 N k_86 v2 v3 v4 v5 v6 v7 m else (mj_mw (v6 + s0) (fun x4 => f_X7_strike_168 N k_86 v2 v3 v4 v5 x4 v7 m)))) else (mj_mw (v5 + s0) (fun x2 => f_X7_strike_168 N k_86 v2 v3 v4 x2 v6 v7 m))
theorem k_X7_strike_122 {L : Nat} {xs : Nat → Int32} {δ N : Nat} {v2 : Int32} {v3 : Int32} {v4 : Int32} {v5 : Int32} {v6 : Int32} {v7 : Int32} {s0 : Int32} {m : mj_m} {k_86 : Int32 × Int32 × Int32 → Option (Int32 × mj_m)} (q_86 : ∀ (s_ : Int32 × Int32 × Int32) (a_ : Int32 × mj_m), k_86 s_ = some a_ → mj_Go (mj_EX L xs) (δ + 1) mY_X7_strike 86 [(0, .ref 1), (2, .int v2), (3, .int v3), (4, .int v4), (5, .int s_.1), (6, .int s_.2.1), (7, .int s_.2.2)] [] (mj_fin m) (some (.int a_.1), (mj_fin a_.2))) (hδ : 1 ≤ δ) {a : Int32 × mj_m} (h : f_X7_strike_122 N k_86 v2 v3 v4 v5 v6 v7 s0 m = some a) : mj_Go (mj_EX L xs) (δ + 1) mY_X7_strike 122 [(0, .ref 1), (2, .int v2), (3, .int v3), (4, .int v4), (5, .int v5), (6, .int v6), (7, .int v7)] [.int s0] (mj_fin m) (some (.int a.1), (mj_fin a.2)) := by
  unfold f_X7_strike_122 at h
  refine mj_go_istore (i := 8) (by decide) (mj_dt dt_X7_strike 65 rfl) ?_
  refine mj_go_iload_n (k := 3) (x := v3) rfl (mj_dt dt_X7_strike 66 rfl) ?_
  refine mj_go_iload (i := 7) (x := v7) rfl (mj_dt dt_X7_strike 67 rfl) ?_
  refine mj_go_ishr (mj_dt dt_X7_strike 68 rfl) ?_
  refine mj_go_iconst (v := 1) rfl (mj_dt dt_X7_strike 69 rfl) ?_
  refine mj_go_iand (mj_dt dt_X7_strike 70 rfl) ?_
  refine mj_go_if_eq (tgt := 143) rfl (mj_dt dt_X7_strike 71 rfl) (fun b1 => ?_) (fun b1 => ?_)
  · rw [if_pos b1] at h
    refine mj_go_iload (i := 4) (x := v4) rfl (mj_dt dt_X7_strike 77 rfl) ?_
    refine mj_go_aload_n (k := 0) (x := 1) rfl (mj_dt dt_X7_strike 78 rfl) ?_
    refine ml_getR (c := 7) (k := 2) (q := 4) fd_7_2 rf_1_2 (Or.inl fl_X7_20) ho_1 (mj_dt dt_X7_strike 79 rfl) ?_
    refine mj_go_iload (i := 7) (x := v7) rfl (mj_dt dt_X7_strike 80 rfl) ?_
    obtain ⟨c2, h⟩ := mj_ck_some h
    refine ml_aald2 (q := 8 + v7.toNatClampNeg) c2 (mj_hs4 c2).1 (mj_dt dt_X7_strike 81 rfl) ?_
    refine mk_getI (c := 1) (k := 0) (Or.inl fd_1_0) (Or.inl fl_X7_75) (mj_hs4 c2).2 (mj_dt dt_X7_strike 82 rfl) ?_
    refine mj_go_ishr (mj_dt dt_X7_strike 83 rfl) ?_
    refine mj_go_iconst (v := 1) rfl (mj_dt dt_X7_strike 84 rfl) ?_
    refine mj_go_iand (mj_dt dt_X7_strike 85 rfl) ?_
    refine mj_go_if_eq (tgt := 168) rfl (mj_dt dt_X7_strike 86 rfl) (fun b3 => ?_) (fun b3 => ?_)
    · rw [if_pos b3] at h
      refine mj_go_sub (lv' := [(0, .ref 1), (2, .int v2), (3, .int v3), (4, .int v4), (5, .int v5), (6, .int v6), (7, .int v7)]) (List.forall_mem_cons.mpr ⟨rfl, (List.forall_mem_cons.mpr ⟨rfl, (List.forall_mem_cons.mpr ⟨rfl, (List.forall_mem_cons.mpr ⟨rfl, (List.forall_mem_cons.mpr ⟨rfl, (List.forall_mem_cons.mpr ⟨rfl, (List.forall_mem_cons.mpr ⟨rfl, (fun _ h9 => absurd h9 List.not_mem_nil)⟩)⟩)⟩)⟩)⟩)⟩)⟩) ?_
      exact k_X7_strike_168 q_86 hδ h
    · rw [if_neg b3] at h
      refine mj_go_iload (i := 6) (x := v6) rfl (mj_dt dt_X7_strike 87 rfl) ?_
      refine mj_go_iload (i := 8) (x := s0) rfl (mj_dt dt_X7_strike 88 rfl) ?_
      refine mj_go_iadd (mj_dt dt_X7_strike 89 rfl) ?_
      obtain ⟨x4, ex4, h⟩ := mj_mw_some h
      refine ml_eqi ex4 ?_
      refine mj_go_istore (i := 6) (by decide) (mj_dt dt_X7_strike 90 rfl) ?_
      refine mj_go_sub (lv' := [(0, .ref 1), (2, .int v2), (3, .int v3), (4, .int v4), (5, .int v5), (6, .int x4), (7, .int v7)]) (List.forall_mem_cons.mpr ⟨rfl, (List.forall_mem_cons.mpr ⟨rfl, (List.forall_mem_cons.mpr ⟨rfl, (List.forall_mem_cons.mpr ⟨rfl, (List.forall_mem_cons.mpr ⟨rfl, (List.forall_mem_cons.mpr ⟨rfl, (List.forall_mem_cons.mpr ⟨rfl, (fun _ h9 => absurd h9 List.not_mem_nil)⟩)⟩)⟩)⟩)⟩)⟩)⟩) ?_
      exact k_X7_strike_168 q_86 hδ h
  · rw [if_neg b1] at h
    refine mj_go_iload (i := 5) (x := v5) rfl (mj_dt dt_X7_strike 72 rfl) ?_
    refine mj_go_iload (i := 8) (x := s0) rfl (mj_dt dt_X7_strike 73 rfl) ?_
    refine mj_go_iadd (mj_dt dt_X7_strike 74 rfl) ?_
    obtain ⟨x2, ex2, h⟩ := mj_mw_some h
    refine ml_eqi ex2 ?_
    refine mj_go_istore (i := 5) (by decide) (mj_dt dt_X7_strike 75 rfl) ?_
    refine mj_go_goto (tgt := 168) rfl (mj_dt dt_X7_strike 76 rfl) ?_
    refine mj_go_sub (lv' := [(0, .ref 1), (2, .int v2), (3, .int v3), (4, .int v4), (5, .int x2), (6, .int v6), (7, .int v7)]) (List.forall_mem_cons.mpr ⟨rfl, (List.forall_mem_cons.mpr ⟨rfl, (List.forall_mem_cons.mpr ⟨rfl, (List.forall_mem_cons.mpr ⟨rfl, (List.forall_mem_cons.mpr ⟨rfl, (List.forall_mem_cons.mpr ⟨rfl, (List.forall_mem_cons.mpr ⟨rfl, (fun _ h9 => absurd h9 List.not_mem_nil)⟩)⟩)⟩)⟩)⟩)⟩)⟩) ?_
    exact k_X7_strike_168 q_86 hδ h
def f_X7_strike_86 (N : Nat) (v2 : Int32) (v3 : Int32) (v4 : Int32) (m : mj_m) (k_86 : Int32 × Int32 × Int32 → Option (Int32 × mj_m)) (s : Int32 × Int32 × Int32) : Option (Int32 × mj_m) := if (m.1 1 7) ≤ s.2.2 then (some (s.1 + ((s.2.1 * (m.1 1 10)) / 10), m)) else (if v2 = 0 then (mj_ck (mj_b 2 4 s.2.2) ( f_X7_strike_122 N k_86 v2 v3 v4 s.1 s.2.1 s.2.2 (m.1 (8 + s.2.2.toNatClampNeg) 3) m)) else (mj_ck (mj_b 2 4 s.2.2) ( f_X7_strike_122 N k_86 v2 v3 v4 s.1 s.2.1 s.2.2 (m.1 (8 + s.2.2.toNatClampNeg) 2) m)))
theorem k_X7_strike_86 {L : Nat} {xs : Nat → Int32} {δ N : Nat} {v2 : Int32} {v3 : Int32} {v4 : Int32} {m : mj_m} (hδ : 1 ≤ δ) : ∀ (n : Nat) (s : Int32 × Int32 × Int32) (a : Int32 × mj_m), mj_lp n (f_X7_strike_86 N v2 v3 v4 m) s = some a → mj_Go (mj_EX L xs) (δ + 1) mY_X7_strike 86 [(0, .ref 1), (2, .int v2), (3, .int v3), (4, .int v4), (5, .int s.1), (6, .int s.2.1), (7, .int s.2.2)] [] (mj_fin m) (some (.int a.1), (mj_fin a.2)) := by
  refine mj_lp_sound (fun k_86 s a q_86 h => ?_)
  unfold f_X7_strike_86 at h
  refine mj_go_iload (i := 7) (x := s.2.2) rfl (mj_dt dt_X7_strike 48 rfl) ?_
  refine mj_go_aload_n (k := 0) (x := 1) rfl (mj_dt dt_X7_strike 49 rfl) ?_
  refine mk_getI (c := 7) (k := 7) (Or.inl fd_7_7) (Or.inl fl_X7_37) ho_1 (mj_dt dt_X7_strike 50 rfl) ?_
  refine mj_go_icmp_ge (tgt := 174) rfl (mj_dt dt_X7_strike 51 rfl) (fun b1 => ?_) (fun b1 => ?_)
  · rw [if_pos b1] at h
    refine mj_go_iload (i := 5) (x := s.1) rfl (mj_dt dt_X7_strike 93 rfl) ?_
    refine mj_go_iload (i := 6) (x := s.2.1) rfl (mj_dt dt_X7_strike 94 rfl) ?_
    refine mj_go_aload_n (k := 0) (x := 1) rfl (mj_dt dt_X7_strike 95 rfl) ?_
    refine mk_getI (c := 7) (k := 10) (Or.inl fd_7_10) (Or.inl fl_X7_46) ho_1 (mj_dt dt_X7_strike 96 rfl) ?_
    refine mj_go_imul (mj_dt dt_X7_strike 97 rfl) ?_
    refine mj_go_bipush (v := 10) rfl (mj_dt dt_X7_strike 98 rfl) ?_
    refine mj_go_idiv (by decide) (mj_dt dt_X7_strike 99 rfl) ?_
    refine mj_go_iadd (mj_dt dt_X7_strike 100 rfl) ?_
    obtain rfl := Option.some.inj h
    exact mj_go_ret (v := some (.int (s.1 + ((s.2.1 * (m.1 1 10)) / 10)))) (Nat.le_of_ble_eq_true rfl) (mj_retI (mj_dt dt_X7_strike 101 rfl) rfl)
  · rw [if_neg b1] at h
    refine mj_go_iload_n (k := 2) (x := v2) rfl (mj_dt dt_X7_strike 52 rfl) ?_
    refine mj_go_if_eq (tgt := 112) rfl (mj_dt dt_X7_strike 53 rfl) (fun b2 => ?_) (fun b2 => ?_)
    · rw [if_pos b2] at h
      refine mj_go_aload_n (k := 0) (x := 1) rfl (mj_dt dt_X7_strike 60 rfl) ?_
      refine ml_getR (c := 7) (k := 2) (q := 4) fd_7_2 rf_1_2 (Or.inl fl_X7_20) ho_1 (mj_dt dt_X7_strike 61 rfl) ?_
      refine mj_go_iload (i := 7) (x := s.2.2) rfl (mj_dt dt_X7_strike 62 rfl) ?_
      obtain ⟨c3, h⟩ := mj_ck_some h
      refine ml_aald2 (q := 8 + s.2.2.toNatClampNeg) c3 (mj_hs4 c3).1 (mj_dt dt_X7_strike 63 rfl) ?_
      refine mk_getI (c := 1) (k := 3) (Or.inl fd_1_3) (Or.inl fl_X7_84) (mj_hs4 c3).2 (mj_dt dt_X7_strike 64 rfl) ?_
      refine mj_go_sub (lv' := [(0, .ref 1), (2, .int v2), (3, .int v3), (4, .int v4), (5, .int s.1), (6, .int s.2.1), (7, .int s.2.2)]) (List.forall_mem_cons.mpr ⟨rfl, (List.forall_mem_cons.mpr ⟨rfl, (List.forall_mem_cons.mpr ⟨rfl, (List.forall_mem_cons.mpr ⟨rfl, (List.forall_mem_cons.mpr ⟨rfl, (List.forall_mem_cons.mpr ⟨rfl, (List.forall_mem_cons.mpr ⟨rfl, (fun _ h9 => absurd h9 List.not_mem_nil)⟩)⟩)⟩)⟩)⟩)⟩)⟩) ?_
      exact k_X7_strike_122 q_86 hδ h
    · rw [if_neg b2] at h
      refine mj_go_aload_n (k := 0) (x := 1) rfl (mj_dt dt_X7_strike 54 rfl) ?_
      refine ml_getR (c := 7) (k := 2) (q := 4) fd_7_2 rf_1_2 (Or.inl fl_X7_20) ho_1 (mj_dt dt_X7_strike 55 rfl) ?_
      refine mj_go_iload (i := 7) (x := s.2.2) rfl (mj_dt dt_X7_strike 56 rfl) ?_
      obtain ⟨c3, h⟩ := mj_ck_some h
      refine ml_aald2 (q := 8 + s.2.2.toNatClampNeg) c3 (mj_hs4 c3).1 (mj_dt dt_X7_strike 57 rfl) ?_
      refine mk_getI (c := 1) (k := 2) (Or.inl fd_1_2) (Or.inl fl_X7_81) (mj_hs4 c3).2 (mj_dt dt_X7_strike 58 rfl) ?_
      refine mj_go_goto (tgt := 122) rfl (mj_dt dt_X7_strike 59 rfl) ?_
      refine mj_go_sub (lv' := [(0, .ref 1), (2, .int v2), (3, .int v3), (4, .int v4), (5, .int s.1), (6, .int s.2.1), (7, .int s.2.2)]) (List.forall_mem_cons.mpr ⟨rfl, (List.forall_mem_cons.mpr ⟨rfl, (List.forall_mem_cons.mpr ⟨rfl, (List.forall_mem_cons.mpr ⟨rfl, (List.forall_mem_cons.mpr ⟨rfl, (List.forall_mem_cons.mpr ⟨rfl, (List.forall_mem_cons.mpr ⟨rfl, (fun _ h9 => absurd h9 List.not_mem_nil)⟩)⟩)⟩)⟩)⟩)⟩)⟩) ?_
      exact k_X7_strike_122 q_86 hδ h
def f_X7_strike_60 (N : Nat) (k_24 : Int32 × Int32 × mj_m → Option (Int32 × mj_m)) (v1 : Int32) (v2 : Int32) (v3 : Int32) (v4 : Int32) (m : mj_m) : Option (Int32 × mj_m) := mj_mw (v4 + 1) (fun x1 => k_24 (v3, x1, m))
theorem k_X7_strike_60 {L : Nat} {xs : Nat → Int32} {δ N : Nat} {v1 : Int32} {v2 : Int32} {v3 : Int32} {v4 : Int32} {m : mj_m} {k_24 : Int32 × Int32 × mj_m → Option (Int32 × mj_m)} (q_24 : ∀ (s_ : Int32 × Int32 × mj_m) (a_ : Int32 × mj_m), k_24 s_ = some a_ → mj_Go (mj_EX L xs) (δ + 1) mY_X7_strike 24 [(0, .ref 1), (1, .int v1), (2, .int v2), (3, .int s_.1), (4, .int s_.2.1)] [] (mj_fin s_.2.2) (some (.int a_.1), (mj_fin a_.2))) (hδ : 1 ≤ δ) {a : Int32 × mj_m} (h : f_X7_strike_60 N k_24 v1 v2 v3 v4 m = some a) : mj_Go (mj_EX L xs) (δ + 1) mY_X7_strike 60 [(0, .ref 1), (1, .int v1), (2, .int v2), (3, .int v3), (4, .int v4)] [] (mj_fin m) (some (.int a.1), (mj_fin a.2)) := by
  unfold f_X7_strike_60 at h
  obtain ⟨x1, ex1, h⟩ := mj_mw_some h
  refine mj_go_iinc (i := 4) (x := v4) (v := x1) rfl (by rw [ex1] <;> rfl) (by decide) (mj_dt dt_X7_strike 34 rfl) ?_
  refine mj_go_goto (tgt := 24) rfl (mj_dt dt_X7_strike 35 rfl) ?_
  refine mj_go_sub (lv' := [(0, .ref 1), (1, .int v1), (2, .int v2), (3, .int v3), (4, .int x1)]) (List.forall_mem_cons.mpr ⟨rfl, (List.forall_mem_cons.mpr ⟨rfl, (List.forall_mem_cons.mpr ⟨rfl, (List.forall_mem_cons.mpr ⟨rfl, (List.forall_mem_cons.mpr ⟨rfl, (fun _ h9 => absurd h9 List.not_mem_nil)⟩)⟩)⟩)⟩)⟩) ?_
  exact q_24 _ _ h
def f_X7_strike_24 (N : Nat) (v1 : Int32) (v2 : Int32) (k_24 : Int32 × Int32 × mj_m → Option (Int32 × mj_m)) (s : Int32 × Int32 × mj_m) : Option (Int32 × mj_m) := if (s.2.2.1 1 7) ≤ s.2.1 then ((f_X7_streetsShutBy N s.1 s.2.2).bind (fun r2 => (f_X7_cutCorners N r2 s.2.2).bind (fun r3 => mj_lp N (f_X7_strike_86 N v2 s.1 r3 s.2.2) (0, 0, 0)))) else ((f_X7_draw N 10 s.2.2).bind (fun r2 => (f_X7_tenths N s.2.1 v1 5 r2.2).bind (fun r3 => if r3 ≤ r2.1 then f_X7_strike_60 N k_24 v1 v2 s.1 s.2.1 r2.2 else (mj_mw (s.1 ||| (1 <<< (s.2.1 &&& 31))) (fun x5 => f_X7_strike_60 N k_24 v1 v2 x5 s.2.1 r2.2)))))
theorem k_X7_strike_24 {L : Nat} {xs : Nat → Int32} {δ N : Nat} {v1 : Int32} {v2 : Int32} (hδ : 1 ≤ δ) : ∀ (n : Nat) (s : Int32 × Int32 × mj_m) (a : Int32 × mj_m), mj_lp n (f_X7_strike_24 N v1 v2) s = some a → mj_Go (mj_EX L xs) (δ + 1) mY_X7_strike 24 [(0, .ref 1), (1, .int v1), (2, .int v2), (3, .int s.1), (4, .int s.2.1)] [] (mj_fin s.2.2) (some (.int a.1), (mj_fin a.2)) := by
  refine mj_lp_sound (fun k_24 s a q_24 h => ?_)
  unfold f_X7_strike_24 at h
  refine mj_go_iload (i := 4) (x := s.2.1) rfl (mj_dt dt_X7_strike 14 rfl) ?_
  refine mj_go_aload_n (k := 0) (x := 1) rfl (mj_dt dt_X7_strike 15 rfl) ?_
  refine mk_getI (c := 7) (k := 7) (Or.inl fd_7_7) (Or.inl fl_X7_37) ho_1 (mj_dt dt_X7_strike 16 rfl) ?_
  refine mj_go_icmp_ge (tgt := 66) rfl (mj_dt dt_X7_strike 17 rfl) (fun b1 => ?_) (fun b1 => ?_)
  · rw [if_pos b1] at h
    refine mj_go_aload_n (k := 0) (x := 1) rfl (mj_dt dt_X7_strike 36 rfl) ?_
    refine mj_go_aload_n (k := 0) (x := 1) rfl (mj_dt dt_X7_strike 37 rfl) ?_
    refine mj_go_iload_n (k := 3) (x := s.1) rfl (mj_dt dt_X7_strike 38 rfl) ?_
    obtain ⟨r2, er2, h⟩ := mj_bind_some h
    refine ml_callV (Y' := mY_X7_streetsShutBy) (as := [.int s.1]) (rest := [.ref 1]) (c := 7) (v := (some (.int r2))) (M1 := (mj_fin s.2.2)) ho_1 rfl lm_X7_112 wc_X7_streetsShutBy pl_X7_streetsShutBy ok_X7_streetsShutBy rfl rfl (Nat.le_of_ble_eq_true rfl) (k_X7_streetsShutBy (by omega) er2) (mj_dt dt_X7_strike 39 rfl) ?_
    obtain ⟨r3, er3, h⟩ := mj_bind_some h
    refine ml_callV (Y' := mY_X7_cutCorners) (as := [.int r2]) (rest := []) (c := 7) (v := (some (.int r3))) (M1 := (mj_fin s.2.2)) ho_1 rfl lm_X7_115 wc_X7_cutCorners pl_X7_cutCorners ok_X7_cutCorners rfl rfl (Nat.le_of_ble_eq_true rfl) (k_X7_cutCorners (by omega) er3) (mj_dt dt_X7_strike 40 rfl) ?_
    refine mj_go_istore (i := 4) (by decide) (mj_dt dt_X7_strike 41 rfl) ?_
    refine mj_go_iconst (v := 0) rfl (mj_dt dt_X7_strike 42 rfl) ?_
    refine mj_go_istore (i := 5) (by decide) (mj_dt dt_X7_strike 43 rfl) ?_
    refine mj_go_iconst (v := 0) rfl (mj_dt dt_X7_strike 44 rfl) ?_
    refine mj_go_istore (i := 6) (by decide) (mj_dt dt_X7_strike 45 rfl) ?_
    refine mj_go_iconst (v := 0) rfl (mj_dt dt_X7_strike 46 rfl) ?_
    refine mj_go_istore (i := 7) (by decide) (mj_dt dt_X7_strike 47 rfl) ?_
    refine mj_go_sub (lv' := [(0, .ref 1), (2, .int v2), (3, .int s.1), (4, .int r3), (5, .int 0), (6, .int 0), (7, .int 0)]) (List.forall_mem_cons.mpr ⟨rfl, (List.forall_mem_cons.mpr ⟨rfl, (List.forall_mem_cons.mpr ⟨rfl, (List.forall_mem_cons.mpr ⟨rfl, (List.forall_mem_cons.mpr ⟨rfl, (List.forall_mem_cons.mpr ⟨rfl, (List.forall_mem_cons.mpr ⟨rfl, (fun _ h9 => absurd h9 List.not_mem_nil)⟩)⟩)⟩)⟩)⟩)⟩)⟩) ?_
    exact k_X7_strike_86 hδ N _ _ h
  · rw [if_neg b1] at h
    refine mj_go_aload_n (k := 0) (x := 1) rfl (mj_dt dt_X7_strike 18 rfl) ?_
    refine mj_go_bipush (v := 10) rfl (mj_dt dt_X7_strike 19 rfl) ?_
    obtain ⟨r2, er2, h⟩ := mj_bind_some h
    refine ml_callV (Y' := mY_X7_draw) (as := [.int 10]) (rest := []) (c := 7) (v := (some (.int r2.1))) (M1 := (mj_fin r2.2)) ho_1 rfl lm_X7_105 wc_X7_draw pl_X7_draw ok_X7_draw rfl rfl (Nat.le_of_ble_eq_true rfl) (k_X7_draw (by omega) er2) (mj_dt dt_X7_strike 20 rfl) ?_
    refine mj_go_aload_n (k := 0) (x := 1) rfl (mj_dt dt_X7_strike 21 rfl) ?_
    refine mj_go_iload (i := 4) (x := s.2.1) rfl (mj_dt dt_X7_strike 22 rfl) ?_
    refine mj_go_iload_n (k := 1) (x := v1) rfl (mj_dt dt_X7_strike 23 rfl) ?_
    refine mj_go_aload_n (k := 0) (x := 1) rfl (mj_dt dt_X7_strike 24 rfl) ?_
    refine ml_getR (c := 7) (k := 3) (q := 5) fd_7_3 rf_1_3 (Or.inl fl_X7_24) ho_1 (mj_dt dt_X7_strike 25 rfl) ?_
    obtain ⟨r3, er3, h⟩ := mj_bind_some h
    refine ml_callV (Y' := mY_X7_tenths) (as := [.int s.2.1, .int v1, .ref 5]) (rest := [.int r2.1]) (c := 7) (v := (some (.int r3))) (M1 := (mj_fin r2.2)) ho_1 rfl lm_X7_108 wc_X7_tenths pl_X7_tenths ok_X7_tenths rfl rfl (Nat.le_of_ble_eq_true rfl) (k_X7_tenths (by omega) er3) (mj_dt dt_X7_strike 26 rfl) ?_
    refine mj_go_icmp_ge (tgt := 60) rfl (mj_dt dt_X7_strike 27 rfl) (fun b4 => ?_) (fun b4 => ?_)
    · rw [if_pos b4] at h
      refine mj_go_sub (lv' := [(0, .ref 1), (1, .int v1), (2, .int v2), (3, .int s.1), (4, .int s.2.1)]) (List.forall_mem_cons.mpr ⟨rfl, (List.forall_mem_cons.mpr ⟨rfl, (List.forall_mem_cons.mpr ⟨rfl, (List.forall_mem_cons.mpr ⟨rfl, (List.forall_mem_cons.mpr ⟨rfl, (fun _ h9 => absurd h9 List.not_mem_nil)⟩)⟩)⟩)⟩)⟩) ?_
      exact k_X7_strike_60 q_24 hδ h
    · rw [if_neg b4] at h
      refine mj_go_iload_n (k := 3) (x := s.1) rfl (mj_dt dt_X7_strike 28 rfl) ?_
      refine mj_go_iconst (v := 1) rfl (mj_dt dt_X7_strike 29 rfl) ?_
      refine mj_go_iload (i := 4) (x := s.2.1) rfl (mj_dt dt_X7_strike 30 rfl) ?_
      refine mj_go_ishl (mj_dt dt_X7_strike 31 rfl) ?_
      refine mj_go_ior (mj_dt dt_X7_strike 32 rfl) ?_
      obtain ⟨x5, ex5, h⟩ := mj_mw_some h
      refine ml_eqi ex5 ?_
      refine mj_go_istore_n (k := 3) (by decide) (mj_dt dt_X7_strike 33 rfl) ?_
      refine mj_go_sub (lv' := [(0, .ref 1), (1, .int v1), (2, .int v2), (3, .int x5), (4, .int s.2.1)]) (List.forall_mem_cons.mpr ⟨rfl, (List.forall_mem_cons.mpr ⟨rfl, (List.forall_mem_cons.mpr ⟨rfl, (List.forall_mem_cons.mpr ⟨rfl, (List.forall_mem_cons.mpr ⟨rfl, (fun _ h9 => absurd h9 List.not_mem_nil)⟩)⟩)⟩)⟩)⟩) ?_
      exact k_X7_strike_60 q_24 hδ h
def f_X7_strike_18 (N : Nat) (v1 : Int32) (s0 : Int32) (m : mj_m) : Option (Int32 × mj_m) := mj_lp N (f_X7_strike_24 N v1 s0) (0, 0, m)
theorem k_X7_strike_18 {L : Nat} {xs : Nat → Int32} {δ N : Nat} {v1 : Int32} {s0 : Int32} {m : mj_m} (hδ : 1 ≤ δ) {a : Int32 × mj_m} (h : f_X7_strike_18 N v1 s0 m = some a) : mj_Go (mj_EX L xs) (δ + 1) mY_X7_strike 18 [(0, .ref 1), (1, .int v1)] [.int s0] (mj_fin m) (some (.int a.1), (mj_fin a.2)) := by
  unfold f_X7_strike_18 at h
  refine mj_go_istore_n (k := 2) (by decide) (mj_dt dt_X7_strike 9 rfl) ?_
  refine mj_go_iconst (v := 0) rfl (mj_dt dt_X7_strike 10 rfl) ?_
  refine mj_go_istore_n (k := 3) (by decide) (mj_dt dt_X7_strike 11 rfl) ?_
  refine mj_go_iconst (v := 0) rfl (mj_dt dt_X7_strike 12 rfl) ?_
  refine mj_go_istore (i := 4) (by decide) (mj_dt dt_X7_strike 13 rfl) ?_
  refine mj_go_sub (lv' := [(0, .ref 1), (1, .int v1), (2, .int s0), (3, .int 0), (4, .int 0)]) (List.forall_mem_cons.mpr ⟨rfl, (List.forall_mem_cons.mpr ⟨rfl, (List.forall_mem_cons.mpr ⟨rfl, (List.forall_mem_cons.mpr ⟨rfl, (List.forall_mem_cons.mpr ⟨rfl, (fun _ h9 => absurd h9 List.not_mem_nil)⟩)⟩)⟩)⟩)⟩) ?_
  exact k_X7_strike_24 hδ N _ _ h
def f_X7_strike (N : Nat) (v1 : Int32) (m : mj_m) : Option (Int32 × mj_m) := (f_X7_draw N 10 m).bind (fun r1 => if (r1.2.1 1 11) ≤ r1.1 then (f_X7_strike_18 N v1 0 r1.2) else (f_X7_strike_18 N v1 1 r1.2))
theorem k_X7_strike {L : Nat} {xs : Nat → Int32} {δ N : Nat} {v1 : Int32} {m : mj_m} (hδ : 2 ≤ δ) {a : Int32 × mj_m} (h : f_X7_strike N v1 m = some a) : mj_Cl (mj_EX L xs) δ mY_X7_strike [.ref 1, .int v1] (mj_fin m) (some (.int a.1), (mj_fin a.2)) := by
  obtain ⟨δ, rfl⟩ : ∃ d, δ = d + 1 := ⟨δ - 1, by omega⟩
  have hδ : 1 ≤ δ := by omega
  refine mj_cl_of ok_X7_strike (Nat.le_of_ble_eq_true rfl) ?_
  unfold f_X7_strike at h
  refine mj_go_aload_n (k := 0) (x := 1) rfl (mj_dt dt_X7_strike 0 rfl) ?_
  refine mj_go_bipush (v := 10) rfl (mj_dt dt_X7_strike 1 rfl) ?_
  obtain ⟨r1, er1, h⟩ := mj_bind_some h
  refine ml_callV (Y' := mY_X7_draw) (as := [.int 10]) (rest := []) (c := 7) (v := (some (.int r1.1))) (M1 := (mj_fin r1.2)) ho_1 rfl lm_X7_105 wc_X7_draw pl_X7_draw ok_X7_draw rfl rfl (Nat.le_of_ble_eq_true rfl) (k_X7_draw (by omega) er1) (mj_dt dt_X7_strike 2 rfl) ?_
  refine mj_go_aload_n (k := 0) (x := 1) rfl (mj_dt dt_X7_strike 3 rfl) ?_
  refine mk_getI (c := 7) (k := 11) (Or.inl fd_7_11) (Or.inl fl_X7_49) ho_1 (mj_dt dt_X7_strike 4 rfl) ?_
  refine mj_go_icmp_ge (tgt := 17) rfl (mj_dt dt_X7_strike 5 rfl) (fun b2 => ?_) (fun b2 => ?_)
  · rw [if_pos b2] at h
    refine mj_go_iconst (v := 0) rfl (mj_dt dt_X7_strike 8 rfl) ?_
    refine mj_go_sub (lv' := [(0, .ref 1), (1, .int v1)]) (List.forall_mem_cons.mpr ⟨rfl, (List.forall_mem_cons.mpr ⟨rfl, (fun _ h9 => absurd h9 List.not_mem_nil)⟩)⟩) ?_
    exact k_X7_strike_18 hδ h
  · rw [if_neg b2] at h
    refine mj_go_iconst (v := 1) rfl (mj_dt dt_X7_strike 6 rfl) ?_
    refine mj_go_goto (tgt := 18) rfl (mj_dt dt_X7_strike 7 rfl) ?_
    refine mj_go_sub (lv' := [(0, .ref 1), (1, .int v1)]) (List.forall_mem_cons.mpr ⟨rfl, (List.forall_mem_cons.mpr ⟨rfl, (fun _ h9 => absurd h9 List.not_mem_nil)⟩)⟩) ?_
    exact k_X7_strike_18 hδ h
def f_X4_passYear_101 (N : Nat) (k_57 : Int32 × Int32 × mj_m → Option (Int32 × mj_m)) (v2 : Int32) (v3 : Int32) (m : mj_m) : Option (Int32 × mj_m) := mj_mw (v3 + 1) (fun x1 => k_57 (v2, x1, m))
theorem k_X4_passYear_101 {L : Nat} {xs : Nat → Int32} {δ N : Nat} {v2 : Int32} {v3 : Int32} {m : mj_m} {k_57 : Int32 × Int32 × mj_m → Option (Int32 × mj_m)} (q_57 : ∀ (s_ : Int32 × Int32 × mj_m) (a_ : Int32 × mj_m), k_57 s_ = some a_ → mj_Go (mj_EX L xs) (δ + 1) mY_X4_passYear 57 [(0, .ref 48), (2, .int s_.1), (3, .int s_.2.1)] [] (mj_fin s_.2.2) (some (.int a_.1), (mj_fin a_.2))) (hδ : 6 ≤ δ) {a : Int32 × mj_m} (h : f_X4_passYear_101 N k_57 v2 v3 m = some a) : mj_Go (mj_EX L xs) (δ + 1) mY_X4_passYear 101 [(0, .ref 48), (2, .int v2), (3, .int v3)] [] (mj_fin m) (some (.int a.1), (mj_fin a.2)) := by
  unfold f_X4_passYear_101 at h
  obtain ⟨x1, ex1, h⟩ := mj_mw_some h
  refine mj_go_iinc (i := 3) (x := v3) (v := x1) rfl (by rw [ex1] <;> rfl) (by decide) (mj_dt dt_X4_passYear 52 rfl) ?_
  refine mj_go_goto (tgt := 57) rfl (mj_dt dt_X4_passYear 53 rfl) ?_
  refine mj_go_sub (lv' := [(0, .ref 48), (2, .int v2), (3, .int x1)]) (List.forall_mem_cons.mpr ⟨rfl, (List.forall_mem_cons.mpr ⟨rfl, (List.forall_mem_cons.mpr ⟨rfl, (fun _ h9 => absurd h9 List.not_mem_nil)⟩)⟩)⟩) ?_
  exact q_57 _ _ h
def f_X4_passYear_57 (N : Nat) (k_57 : Int32 × Int32 × mj_m → Option (Int32 × mj_m)) (s : Int32 × Int32 × mj_m) : Option (Int32 × mj_m) := if (s.2.2.1 1 8) ≤ s.2.1 then (mj_mw (mj_wI s.2.2 1 14 ((s.2.2.1 1 14) + s.1)) (fun m2 => (f_X7_endYear N m2).bind (fun r3 => some (s.1, r3)))) else ((f_X7_draw N 1000 s.2.2).bind (fun r2 => mj_ck (mj_b 0 6 s.2.1) ( if (r2.2.1 6 s.2.1.toNatClampNeg) ≤ r2.1 then f_X4_passYear_101 N k_57 s.1 s.2.1 r2.2 else ((f_X7_strike N s.2.1 r2.2).bind (fun r5 => mj_mw (s.1 + r5.1) (fun x6 => f_X4_passYear_101 N k_57 x6 s.2.1 r5.2))))))
theorem k_X4_passYear_57 {L : Nat} {xs : Nat → Int32} {δ N : Nat} (hδ : 6 ≤ δ) : ∀ (n : Nat) (s : Int32 × Int32 × mj_m) (a : Int32 × mj_m), mj_lp n (f_X4_passYear_57 N) s = some a → mj_Go (mj_EX L xs) (δ + 1) mY_X4_passYear 57 [(0, .ref 48), (2, .int s.1), (3, .int s.2.1)] [] (mj_fin s.2.2) (some (.int a.1), (mj_fin a.2)) := by
  refine mj_lp_sound (fun k_57 s a q_57 h => ?_)
  unfold f_X4_passYear_57 at h
  refine mj_go_iload_n (k := 3) (x := s.2.1) rfl (mj_dt dt_X4_passYear 30 rfl) ?_
  refine mj_go_aload_n (k := 0) (x := 48) rfl (mj_dt dt_X4_passYear 31 rfl) ?_
  refine ml_getR (c := 4) (k := 0) (q := 1) fd_4_0 rf_48_0 (Or.inl fl_X4_47) ho_48 (mj_dt dt_X4_passYear 32 rfl) ?_
  refine mk_getI (c := 7) (k := 8) (Or.inl fd_7_8) (Or.inl fl_X4_151) ho_1 (mj_dt dt_X4_passYear 33 rfl) ?_
  refine mj_go_icmp_ge (tgt := 107) rfl (mj_dt dt_X4_passYear 34 rfl) (fun b1 => ?_) (fun b1 => ?_)
  · rw [if_pos b1] at h
    refine mj_go_aload_n (k := 0) (x := 48) rfl (mj_dt dt_X4_passYear 54 rfl) ?_
    refine ml_getR (c := 4) (k := 0) (q := 1) fd_4_0 rf_48_0 (Or.inl fl_X4_47) ho_48 (mj_dt dt_X4_passYear 55 rfl) ?_
    refine mj_go_dup rfl (mj_dt dt_X4_passYear 56 rfl) ?_
    refine mk_getI (c := 7) (k := 14) (Or.inl fd_7_14) (Or.inl fl_X4_163) ho_1 (mj_dt dt_X4_passYear 57 rfl) ?_
    refine mj_go_iload_n (k := 2) (x := s.1) rfl (mj_dt dt_X4_passYear 58 rfl) ?_
    refine mj_go_iadd (mj_dt dt_X4_passYear 59 rfl) ?_
    obtain ⟨m2, em2, h⟩ := mj_mw_some h
    refine ml_putI (c := 7) (k := 14) fd_7_14 rfl fl_X4_163 ho_1 (mj_dt dt_X4_passYear 60 rfl) ?_
    refine ml_eqm (M1 := (mj_fin m2)) (by rw [em2] <;> rfl) ?_
    refine mj_go_aload_n (k := 0) (x := 48) rfl (mj_dt dt_X4_passYear 61 rfl) ?_
    refine ml_getR (c := 4) (k := 0) (q := 1) fd_4_0 rf_48_0 (Or.inl fl_X4_47) ho_48 (mj_dt dt_X4_passYear 62 rfl) ?_
    obtain ⟨r3, er3, h⟩ := mj_bind_some h
    refine ml_callV (Y' := mY_X7_endYear) (as := []) (rest := []) (c := 7) (v := none) (M1 := (mj_fin r3)) ho_1 rfl lm_X4_166 wc_X7_endYear pl_X7_endYear ok_X7_endYear rfl rfl (Nat.le_of_ble_eq_true rfl) (k_X7_endYear (by omega) er3) (mj_dt dt_X4_passYear 63 rfl) ?_
    refine mj_go_iload_n (k := 2) (x := s.1) rfl (mj_dt dt_X4_passYear 64 rfl) ?_
    obtain rfl := Option.some.inj h
    exact mj_go_ret (v := some (.int s.1)) (Nat.le_of_ble_eq_true rfl) (mj_retI (mj_dt dt_X4_passYear 65 rfl) rfl)
  · rw [if_neg b1] at h
    refine mj_go_aload_n (k := 0) (x := 48) rfl (mj_dt dt_X4_passYear 35 rfl) ?_
    refine ml_getR (c := 4) (k := 0) (q := 1) fd_4_0 rf_48_0 (Or.inl fl_X4_47) ho_48 (mj_dt dt_X4_passYear 36 rfl) ?_
    refine mj_go_sipush (v := 1000) rfl (mj_dt dt_X4_passYear 37 rfl) ?_
    obtain ⟨r2, er2, h⟩ := mj_bind_some h
    refine ml_callV (Y' := mY_X7_draw) (as := [.int 1000]) (rest := []) (c := 7) (v := (some (.int r2.1))) (M1 := (mj_fin r2.2)) ho_1 rfl lm_X4_154 wc_X7_draw pl_X7_draw ok_X7_draw rfl rfl (Nat.le_of_ble_eq_true rfl) (k_X7_draw (by omega) er2) (mj_dt dt_X4_passYear 38 rfl) ?_
    refine mj_go_aload_n (k := 0) (x := 48) rfl (mj_dt dt_X4_passYear 39 rfl) ?_
    refine ml_getR (c := 4) (k := 0) (q := 1) fd_4_0 rf_48_0 (Or.inl fl_X4_47) ho_48 (mj_dt dt_X4_passYear 40 rfl) ?_
    refine ml_getR (c := 7) (k := 4) (q := 6) fd_7_4 rf_1_4 (Or.inl fl_X4_157) ho_1 (mj_dt dt_X4_passYear 41 rfl) ?_
    refine mj_go_iload_n (k := 3) (x := s.2.1) rfl (mj_dt dt_X4_passYear 42 rfl) ?_
    obtain ⟨c3, h⟩ := mj_ck_some h
    refine mk_iald c3 (mj_dt dt_X4_passYear 43 rfl) ?_
    refine mj_go_icmp_ge (tgt := 101) rfl (mj_dt dt_X4_passYear 44 rfl) (fun b4 => ?_) (fun b4 => ?_)
    · rw [if_pos b4] at h
      refine mj_go_sub (lv' := [(0, .ref 48), (2, .int s.1), (3, .int s.2.1)]) (List.forall_mem_cons.mpr ⟨rfl, (List.forall_mem_cons.mpr ⟨rfl, (List.forall_mem_cons.mpr ⟨rfl, (fun _ h9 => absurd h9 List.not_mem_nil)⟩)⟩)⟩) ?_
      exact k_X4_passYear_101 q_57 hδ h
    · rw [if_neg b4] at h
      refine mj_go_iload_n (k := 2) (x := s.1) rfl (mj_dt dt_X4_passYear 45 rfl) ?_
      refine mj_go_aload_n (k := 0) (x := 48) rfl (mj_dt dt_X4_passYear 46 rfl) ?_
      refine ml_getR (c := 4) (k := 0) (q := 1) fd_4_0 rf_48_0 (Or.inl fl_X4_47) ho_48 (mj_dt dt_X4_passYear 47 rfl) ?_
      refine mj_go_iload_n (k := 3) (x := s.2.1) rfl (mj_dt dt_X4_passYear 48 rfl) ?_
      obtain ⟨r5, er5, h⟩ := mj_bind_some h
      refine ml_callV (Y' := mY_X7_strike) (as := [.int s.2.1]) (rest := [.int s.1]) (c := 7) (v := (some (.int r5.1))) (M1 := (mj_fin r5.2)) ho_1 rfl lm_X4_160 wc_X7_strike pl_X7_strike ok_X7_strike rfl rfl (Nat.le_of_ble_eq_true rfl) (k_X7_strike (by omega) er5) (mj_dt dt_X4_passYear 49 rfl) ?_
      refine mj_go_iadd (mj_dt dt_X4_passYear 50 rfl) ?_
      obtain ⟨x6, ex6, h⟩ := mj_mw_some h
      refine ml_eqi ex6 ?_
      refine mj_go_istore_n (k := 2) (by decide) (mj_dt dt_X4_passYear 51 rfl) ?_
      refine mj_go_sub (lv' := [(0, .ref 48), (2, .int x6), (3, .int s.2.1)]) (List.forall_mem_cons.mpr ⟨rfl, (List.forall_mem_cons.mpr ⟨rfl, (List.forall_mem_cons.mpr ⟨rfl, (fun _ h9 => absurd h9 List.not_mem_nil)⟩)⟩)⟩) ?_
      exact k_X4_passYear_101 q_57 hδ h
def f_X4_passYear (N : Nat) (v1 : Nat) (m : mj_m) : Option (Int32 × mj_m) := (f_X3_arrange N v1 49 m).bind (fun r1 => mj_mw (mj_wI r1.2 48 9 r1.1) (fun m2 => (f_X4_begin N m2).bind (fun r3 => (f_X4_spend N r3).bind (fun r4 => mj_ck (mj_p 0 50 5 0 0 10) ( mj_mw (mj_kI r4 50 5 ((0 : Int32).toNatClampNeg) ((0 : Int32).toNatClampNeg) ((10 : Int32).toNatClampNeg)) (fun m6 => mj_mw (mj_wI m6 1 12 (m6.1 48 11)) (fun m7 => mj_lp N (f_X4_passYear_57 N) (0, 0, m7))))))))
theorem k_X4_passYear {L : Nat} {xs : Nat → Int32} {δ N : Nat} {v1 : Nat} {m : mj_m} (hδ : 7 ≤ δ) {a : Int32 × mj_m} (h : f_X4_passYear N v1 m = some a) : mj_Cl (mj_EX L xs) δ mY_X4_passYear [.ref 48, .ref v1] (mj_fin m) (some (.int a.1), (mj_fin a.2)) := by
  obtain ⟨δ, rfl⟩ : ∃ d, δ = d + 1 := ⟨δ - 1, by omega⟩
  have hδ : 6 ≤ δ := by omega
  refine mj_cl_of ok_X4_passYear (Nat.le_of_ble_eq_true rfl) ?_
  unfold f_X4_passYear at h
  refine mj_go_aload_n (k := 0) (x := 48) rfl (mj_dt dt_X4_passYear 0 rfl) ?_
  refine mj_go_aload_n (k := 0) (x := 48) rfl (mj_dt dt_X4_passYear 1 rfl) ?_
  refine ml_getR (c := 4) (k := 2) (q := 45) fd_4_2 rf_48_2 (Or.inl fl_X4_55) ho_48 (mj_dt dt_X4_passYear 2 rfl) ?_
  refine mj_go_aload_n (k := 1) (x := v1) rfl (mj_dt dt_X4_passYear 3 rfl) ?_
  refine mj_go_aload_n (k := 0) (x := 48) rfl (mj_dt dt_X4_passYear 4 rfl) ?_
  refine ml_getR (c := 4) (k := 3) (q := 49) fd_4_3 rf_48_3 (Or.inl fl_X4_9) ho_48 (mj_dt dt_X4_passYear 5 rfl) ?_
  obtain ⟨r1, er1, h⟩ := mj_bind_some h
  refine ml_callV (Y' := mY_X3_arrange) (as := [.ref v1, .ref 49]) (rest := [.ref 48]) (c := 3) (v := (some (.int r1.1))) (M1 := (mj_fin r1.2)) ho_45 rfl lm_X4_101 wc_X3_arrange pl_X3_arrange ok_X3_arrange rfl rfl (Nat.le_of_ble_eq_true rfl) (k_X3_arrange (by omega) er1) (mj_dt dt_X4_passYear 6 rfl) ?_
  obtain ⟨m2, em2, h⟩ := mj_mw_some h
  refine ml_putI (c := 4) (k := 9) fd_4_9 rfl fl_X4_31 ho_48 (mj_dt dt_X4_passYear 7 rfl) ?_
  refine ml_eqm (M1 := (mj_fin m2)) (by rw [em2] <;> rfl) ?_
  refine mj_go_aload_n (k := 0) (x := 48) rfl (mj_dt dt_X4_passYear 8 rfl) ?_
  obtain ⟨r3, er3, h⟩ := mj_bind_some h
  refine ml_callV (Y' := mY_X4_begin) (as := []) (rest := []) (c := 4) (v := none) (M1 := (mj_fin r3)) ho_48 rfl lm_X4_111 wc_X4_begin pl_X4_begin ok_X4_begin rfl rfl (Nat.le_of_ble_eq_true rfl) (k_X4_begin (by omega) er3) (mj_dt dt_X4_passYear 9 rfl) ?_
  refine mj_go_aload_n (k := 0) (x := 48) rfl (mj_dt dt_X4_passYear 10 rfl) ?_
  obtain ⟨r4, er4, h⟩ := mj_bind_some h
  refine ml_callV (Y' := mY_X4_spend) (as := []) (rest := []) (c := 4) (v := none) (M1 := (mj_fin r4)) ho_48 rfl lm_X4_114 wc_X4_spend pl_X4_spend ok_X4_spend rfl rfl (Nat.le_of_ble_eq_true rfl) (k_X4_spend (by omega) er4) (mj_dt dt_X4_passYear 11 rfl) ?_
  refine mj_go_aload_n (k := 0) (x := 48) rfl (mj_dt dt_X4_passYear 12 rfl) ?_
  refine ml_getR (c := 4) (k := 4) (q := 50) fd_4_4 rf_48_4 (Or.inl fl_X4_15) ho_48 (mj_dt dt_X4_passYear 13 rfl) ?_
  refine mj_go_iconst (v := 0) rfl (mj_dt dt_X4_passYear 14 rfl) ?_
  refine mj_go_aload_n (k := 0) (x := 48) rfl (mj_dt dt_X4_passYear 15 rfl) ?_
  refine ml_getR (c := 4) (k := 0) (q := 1) fd_4_0 rf_48_0 (Or.inl fl_X4_47) ho_48 (mj_dt dt_X4_passYear 16 rfl) ?_
  refine ml_getR (c := 7) (k := 3) (q := 5) fd_7_3 rf_1_3 (Or.inl fl_X4_59) ho_1 (mj_dt dt_X4_passYear 17 rfl) ?_
  refine mj_go_iconst (v := 0) rfl (mj_dt dt_X4_passYear 18 rfl) ?_
  refine mj_go_bipush (v := 10) rfl (mj_dt dt_X4_passYear 19 rfl) ?_
  obtain ⟨c5, h⟩ := mj_ck_some h
  obtain ⟨m6, em6, h⟩ := mj_mw_some h
  refine ml_cpyI hm_X4_64 (Nat.le_of_ble_eq_true rfl) c5 (mj_dt dt_X4_passYear 20 rfl) ?_
  refine ml_eqm (M1 := (mj_fin m6)) (by rw [em6] <;> rfl) ?_
  refine mj_go_aload_n (k := 0) (x := 48) rfl (mj_dt dt_X4_passYear 21 rfl) ?_
  refine ml_getR (c := 4) (k := 0) (q := 1) fd_4_0 rf_48_0 (Or.inl fl_X4_47) ho_48 (mj_dt dt_X4_passYear 22 rfl) ?_
  refine mj_go_aload_n (k := 0) (x := 48) rfl (mj_dt dt_X4_passYear 23 rfl) ?_
  refine mk_getI (c := 4) (k := 11) (Or.inl fd_4_11) (Or.inl fl_X4_38) ho_48 (mj_dt dt_X4_passYear 24 rfl) ?_
  obtain ⟨m7, em7, h⟩ := mj_mw_some h
  refine ml_putI (c := 7) (k := 12) fd_7_12 rfl fl_X4_130 ho_1 (mj_dt dt_X4_passYear 25 rfl) ?_
  refine ml_eqm (M1 := (mj_fin m7)) (by rw [em7] <;> rfl) ?_
  refine mj_go_iconst (v := 0) rfl (mj_dt dt_X4_passYear 26 rfl) ?_
  refine mj_go_istore_n (k := 2) (by decide) (mj_dt dt_X4_passYear 27 rfl) ?_
  refine mj_go_iconst (v := 0) rfl (mj_dt dt_X4_passYear 28 rfl) ?_
  refine mj_go_istore_n (k := 3) (by decide) (mj_dt dt_X4_passYear 29 rfl) ?_
  refine mj_go_sub (lv' := [(0, .ref 48), (2, .int 0), (3, .int 0)]) (List.forall_mem_cons.mpr ⟨rfl, (List.forall_mem_cons.mpr ⟨rfl, (List.forall_mem_cons.mpr ⟨rfl, (fun _ h9 => absurd h9 List.not_mem_nil)⟩)⟩)⟩) ?_
  exact k_X4_passYear_57 hδ N _ _ h
def f_X8_years_23 (N : Nat) (v1 : Int32) (v2 : Int32) (k_23 : Int32 × Int32 × mj_m → Option (Int32 × mj_m)) (s : Int32 × Int32 × mj_m) : Option (Int32 × mj_m) := if v2 ≤ s.2.1 then (some (s.1, s.2.2)) else (mj_ck (mj_b 3 35 v1) ( (f_X4_passYear N (79 + 2 * v1.toNatClampNeg) s.2.2).bind (fun r3 => mj_mw (s.1 + r3.1) (fun x4 => mj_mw (s.2.1 + 1) (fun x5 => k_23 (x4, x5, r3.2))))))
theorem k_X8_years_23 {L : Nat} {xs : Nat → Int32} {δ N : Nat} {v1 : Int32} {v2 : Int32} (hδ : 7 ≤ δ) : ∀ (n : Nat) (s : Int32 × Int32 × mj_m) (a : Int32 × mj_m), mj_lp n (f_X8_years_23 N v1 v2) s = some a → mj_Go (mj_EX L xs) (δ + 1) mY_X8_years 23 [(0, .ref 0), (1, .int v1), (2, .int v2), (4, .int s.1), (5, .int s.2.1)] [] (mj_fin s.2.2) (some (.int a.1), (mj_fin a.2)) := by
  refine mj_lp_sound (fun k_23 s a q_23 h => ?_)
  unfold f_X8_years_23 at h
  refine mj_go_iload (i := 5) (x := s.2.1) rfl (mj_dt dt_X8_years 15 rfl) ?_
  refine mj_go_iload_n (k := 2) (x := v2) rfl (mj_dt dt_X8_years 16 rfl) ?_
  refine mj_go_icmp_ge (tgt := 53) rfl (mj_dt dt_X8_years 17 rfl) (fun b1 => ?_) (fun b1 => ?_)
  · rw [if_pos b1] at h
    refine mj_go_iload (i := 4) (x := s.1) rfl (mj_dt dt_X8_years 30 rfl) ?_
    obtain rfl := Option.some.inj h
    exact mj_go_ret (v := some (.int s.1)) (Nat.le_of_ble_eq_true rfl) (mj_retI (mj_dt dt_X8_years 31 rfl) rfl)
  · rw [if_neg b1] at h
    refine mj_go_iload (i := 4) (x := s.1) rfl (mj_dt dt_X8_years 18 rfl) ?_
    refine mj_go_aload_n (k := 0) (x := 0) rfl (mj_dt dt_X8_years 19 rfl) ?_
    refine ml_getR (c := 8) (k := 5) (q := 48) fd_8_5 rf_0_5 (Or.inl fl_X8_48) ho_0 (mj_dt dt_X8_years 20 rfl) ?_
    refine mj_go_aload_n (k := 0) (x := 0) rfl (mj_dt dt_X8_years 21 rfl) ?_
    refine ml_getR (c := 8) (k := 2) (q := 35) fd_8_2 rf_0_2 (Or.inl fl_X8_21) ho_0 (mj_dt dt_X8_years 22 rfl) ?_
    refine mj_go_iload_n (k := 1) (x := v1) rfl (mj_dt dt_X8_years 23 rfl) ?_
    obtain ⟨c2, h⟩ := mj_ck_some h
    refine ml_aald3 (q := 79 + 2 * v1.toNatClampNeg) c2 (mj_hs35 c2).1 (mj_dt dt_X8_years 24 rfl) ?_
    obtain ⟨r3, er3, h⟩ := mj_bind_some h
    refine ml_callV (Y' := mY_X4_passYear) (as := [.ref (79 + 2 * v1.toNatClampNeg)]) (rest := [.int s.1]) (c := 4) (v := (some (.int r3.1))) (M1 := (mj_fin r3.2)) ho_48 rfl lm_X8_336 wc_X4_passYear pl_X4_passYear ok_X4_passYear rfl rfl (Nat.le_of_ble_eq_true rfl) (k_X4_passYear (by omega) er3) (mj_dt dt_X8_years 25 rfl) ?_
    refine mj_go_iadd (mj_dt dt_X8_years 26 rfl) ?_
    obtain ⟨x4, ex4, h⟩ := mj_mw_some h
    refine ml_eqi ex4 ?_
    refine mj_go_istore (i := 4) (by decide) (mj_dt dt_X8_years 27 rfl) ?_
    obtain ⟨x5, ex5, h⟩ := mj_mw_some h
    refine mj_go_iinc (i := 5) (x := s.2.1) (v := x5) rfl (by rw [ex5] <;> rfl) (by decide) (mj_dt dt_X8_years 28 rfl) ?_
    refine mj_go_goto (tgt := 23) rfl (mj_dt dt_X8_years 29 rfl) ?_
    refine mj_go_sub (lv' := [(0, .ref 0), (1, .int v1), (2, .int v2), (4, .int x4), (5, .int x5)]) (List.forall_mem_cons.mpr ⟨rfl, (List.forall_mem_cons.mpr ⟨rfl, (List.forall_mem_cons.mpr ⟨rfl, (List.forall_mem_cons.mpr ⟨rfl, (List.forall_mem_cons.mpr ⟨rfl, (fun _ h9 => absurd h9 List.not_mem_nil)⟩)⟩)⟩)⟩)⟩) ?_
    exact q_23 _ _ h
def f_X8_years (N : Nat) (v1 : Int32) (v2 : Int32) (m : mj_m) : Option (Int32 × mj_m) := (f_X8_lacksPlan N v1 v2 m).bind (fun r1 => if r1 = 0 then (mj_lp N (f_X8_years_23 N v1 v2) (0, 0, m)) else ((f_X8_refuse N r1 m).bind (fun r3 => some (r3.1, r3.2))))
theorem k_X8_years {L : Nat} {xs : Nat → Int32} {δ N : Nat} {v1 : Int32} {v2 : Int32} {m : mj_m} (hδ : 8 ≤ δ) {a : Int32 × mj_m} (h : f_X8_years N v1 v2 m = some a) : mj_Cl (mj_EX L xs) δ mY_X8_years [.ref 0, .int v1, .int v2] (mj_fin m) (some (.int a.1), (mj_fin a.2)) := by
  obtain ⟨δ, rfl⟩ : ∃ d, δ = d + 1 := ⟨δ - 1, by omega⟩
  have hδ : 7 ≤ δ := by omega
  refine mj_cl_of ok_X8_years (Nat.le_of_ble_eq_true rfl) ?_
  unfold f_X8_years at h
  refine mj_go_aload_n (k := 0) (x := 0) rfl (mj_dt dt_X8_years 0 rfl) ?_
  refine mj_go_iload_n (k := 1) (x := v1) rfl (mj_dt dt_X8_years 1 rfl) ?_
  refine mj_go_iload_n (k := 2) (x := v2) rfl (mj_dt dt_X8_years 2 rfl) ?_
  obtain ⟨r1, er1, h⟩ := mj_bind_some h
  refine ml_callV (Y' := mY_X8_lacksPlan) (as := [.int v1, .int v2]) (rest := []) (c := 8) (v := (some (.int r1))) (M1 := (mj_fin m)) ho_0 rfl lm_X8_300 wc_X8_lacksPlan pl_X8_lacksPlan ok_X8_lacksPlan rfl rfl (Nat.le_of_ble_eq_true rfl) (k_X8_lacksPlan (by omega) er1) (mj_dt dt_X8_years 3 rfl) ?_
  refine mj_go_istore_n (k := 3) (by decide) (mj_dt dt_X8_years 4 rfl) ?_
  refine mj_go_iload_n (k := 3) (x := r1) rfl (mj_dt dt_X8_years 5 rfl) ?_
  refine mj_go_if_eq (tgt := 17) rfl (mj_dt dt_X8_years 6 rfl) (fun b2 => ?_) (fun b2 => ?_)
  · rw [if_pos b2] at h
    refine mj_go_iconst (v := 0) rfl (mj_dt dt_X8_years 11 rfl) ?_
    refine mj_go_istore (i := 4) (by decide) (mj_dt dt_X8_years 12 rfl) ?_
    refine mj_go_iconst (v := 0) rfl (mj_dt dt_X8_years 13 rfl) ?_
    refine mj_go_istore (i := 5) (by decide) (mj_dt dt_X8_years 14 rfl) ?_
    refine mj_go_sub (lv' := [(0, .ref 0), (1, .int v1), (2, .int v2), (4, .int 0), (5, .int 0)]) (List.forall_mem_cons.mpr ⟨rfl, (List.forall_mem_cons.mpr ⟨rfl, (List.forall_mem_cons.mpr ⟨rfl, (List.forall_mem_cons.mpr ⟨rfl, (List.forall_mem_cons.mpr ⟨rfl, (fun _ h9 => absurd h9 List.not_mem_nil)⟩)⟩)⟩)⟩)⟩) ?_
    exact k_X8_years_23 hδ N _ _ h
  · rw [if_neg b2] at h
    refine mj_go_aload_n (k := 0) (x := 0) rfl (mj_dt dt_X8_years 7 rfl) ?_
    refine mj_go_iload_n (k := 3) (x := r1) rfl (mj_dt dt_X8_years 8 rfl) ?_
    obtain ⟨r3, er3, h⟩ := mj_bind_some h
    refine ml_callV (Y' := mY_X8_refuse) (as := [.int r1]) (rest := []) (c := 8) (v := (some (.int r3.1))) (M1 := (mj_fin r3.2)) ho_0 rfl lm_X8_86 wc_X8_refuse pl_X8_refuse ok_X8_refuse rfl rfl (Nat.le_of_ble_eq_true rfl) (k_X8_refuse (by omega) er3) (mj_dt dt_X8_years 9 rfl) ?_
    obtain rfl := Option.some.inj h
    exact mj_go_ret (v := some (.int r3.1)) (Nat.le_of_ble_eq_true rfl) (mj_retI (mj_dt dt_X8_years 10 rfl) rfl)
def f_X9_draw (N : Nat) (v1 : Int32) (m : mj_m) : Option (Int32 × mj_m) := mj_mw (mj_wI m 95 9 (((m.1 95 9) * 1103515245) + 12345)) (fun m1 => mj_ck (decide (¬ v1 = 0)) ( some ((((m1.1 95 9).toUInt32 >>> ((16 : Int32).toUInt32 &&& Int32.toUInt32 31)).toInt32) - (((m1.1 95 9).toUInt32 >>> ((16 : Int32).toUInt32 &&& Int32.toUInt32 31)).toInt32) / v1 * v1, m1)))
theorem k_X9_draw {L : Nat} {xs : Nat → Int32} {δ N : Nat} {v1 : Int32} {m : mj_m} (_ : 0 ≤ δ) {a : Int32 × mj_m} (h : f_X9_draw N v1 m = some a) : mj_Cl (mj_EX L xs) δ mY_X9_draw [.ref 95, .int v1] (mj_fin m) (some (.int a.1), (mj_fin a.2)) := by
  refine mj_cl_of ok_X9_draw (Nat.le_of_ble_eq_true rfl) ?_
  unfold f_X9_draw at h
  refine mj_go_aload_n (k := 0) (x := 95) rfl (mj_dt dt_X9_draw 0 rfl) ?_
  refine mj_go_aload_n (k := 0) (x := 95) rfl (mj_dt dt_X9_draw 1 rfl) ?_
  refine mk_getI (c := 9) (k := 9) (Or.inl fd_9_9) (Or.inl fl_X9_19) ho_95 (mj_dt dt_X9_draw 2 rfl) ?_
  refine mj_go_ldcw (v := 1103515245) cl_X9_324 (mj_dt dt_X9_draw 3 rfl) ?_
  refine mj_go_imul (mj_dt dt_X9_draw 4 rfl) ?_
  refine mj_go_sipush (v := 12345) rfl (mj_dt dt_X9_draw 5 rfl) ?_
  refine mj_go_iadd (mj_dt dt_X9_draw 6 rfl) ?_
  obtain ⟨m1, em1, h⟩ := mj_mw_some h
  refine ml_putI (c := 9) (k := 9) fd_9_9 rfl fl_X9_19 ho_95 (mj_dt dt_X9_draw 7 rfl) ?_
  refine ml_eqm (M1 := (mj_fin m1)) (by rw [em1] <;> rfl) ?_
  refine mj_go_aload_n (k := 0) (x := 95) rfl (mj_dt dt_X9_draw 8 rfl) ?_
  refine mk_getI (c := 9) (k := 9) (Or.inl fd_9_9) (Or.inl fl_X9_19) ho_95 (mj_dt dt_X9_draw 9 rfl) ?_
  refine mj_go_bipush (v := 16) rfl (mj_dt dt_X9_draw 10 rfl) ?_
  refine mj_go_iushr (mj_dt dt_X9_draw 11 rfl) ?_
  refine mj_go_iload_n (k := 1) (x := v1) rfl (mj_dt dt_X9_draw 12 rfl) ?_
  obtain ⟨c2, h⟩ := mj_ck_some h
  refine mj_go_irem (of_decide_eq_true c2) (mj_dt dt_X9_draw 13 rfl) ?_
  obtain rfl := Option.some.inj h
  exact mj_go_ret (v := some (.int ((((m1.1 95 9).toUInt32 >>> ((16 : Int32).toUInt32 &&& Int32.toUInt32 31)).toInt32) - (((m1.1 95 9).toUInt32 >>> ((16 : Int32).toUInt32 &&& Int32.toUInt32 31)).toInt32) / v1 * v1))) (Nat.le_of_ble_eq_true rfl) (mj_retI (mj_dt dt_X9_draw 14 rfl) rfl)
def f_X9_lives_313 (N : Nat) (k_215 : Int32 × mj_m → Option (Int32 × mj_m)) (v2 : Int32) (v3 : Int32) (s1 : Int32) (s2 : Int32) (m : mj_m) : Option (Int32 × mj_m) := mj_ck (mj_b 0 104 s1) ( mj_mw (mj_wI m 104 (s1.toNatClampNeg) s2) (fun m2 => mj_mw (v3 + 1) (fun x3 => k_215 (x3, m2))))
theorem k_X9_lives_313 {L : Nat} {xs : Nat → Int32} {δ N : Nat} {v2 : Int32} {v3 : Int32} {s1 : Int32} {s2 : Int32} {m : mj_m} {k_215 : Int32 × mj_m → Option (Int32 × mj_m)} (q_215 : ∀ (s_ : Int32 × mj_m) (a_ : Int32 × mj_m), k_215 s_ = some a_ → mj_Go (mj_EX L xs) (δ + 1) mY_X9_lives 215 [(0, .ref 95), (2, .int v2), (3, .int s_.1)] [] (mj_fin s_.2) (some (.int a_.1), (mj_fin a_.2))) (hδ : 6 ≤ δ) {a : Int32 × mj_m} (h : f_X9_lives_313 N k_215 v2 v3 s1 s2 m = some a) : mj_Go (mj_EX L xs) (δ + 1) mY_X9_lives 313 [(0, .ref 95), (2, .int v2), (3, .int v3)] [.int s2, .int s1, .ref 104] (mj_fin m) (some (.int a.1), (mj_fin a.2)) := by
  unfold f_X9_lives_313 at h
  obtain ⟨c1, h⟩ := mj_ck_some h
  obtain ⟨m2, em2, h⟩ := mj_mw_some h
  refine ml_iast c1 (mj_dt dt_X9_lives 178 rfl) ?_
  refine ml_eqm (M1 := (mj_fin m2)) (by rw [em2] <;> rfl) ?_
  obtain ⟨x3, ex3, h⟩ := mj_mw_some h
  refine mj_go_iinc (i := 3) (x := v3) (v := x3) rfl (by rw [ex3] <;> rfl) (by decide) (mj_dt dt_X9_lives 179 rfl) ?_
  refine mj_go_goto (tgt := 215) rfl (mj_dt dt_X9_lives 180 rfl) ?_
  refine mj_go_sub (lv' := [(0, .ref 95), (2, .int v2), (3, .int x3)]) (List.forall_mem_cons.mpr ⟨rfl, (List.forall_mem_cons.mpr ⟨rfl, (List.forall_mem_cons.mpr ⟨rfl, (fun _ h9 => absurd h9 List.not_mem_nil)⟩)⟩)⟩) ?_
  exact q_215 _ _ h
def f_X9_lives_271 (N : Nat) (k_215 : Int32 × mj_m → Option (Int32 × mj_m)) (v2 : Int32) (v3 : Int32) (s1 : Int32) (s2 : Int32) (m : mj_m) : Option (Int32 × mj_m) := mj_ck (mj_b 0 103 s1) ( mj_mw (mj_wI m 103 (s1.toNatClampNeg) s2) (fun m2 => mj_ck (mj_b 0 104 v3) ( mj_ck (mj_b 0 108 v3) ( if ((m2.1 104 v3.toNatClampNeg) + (m2.1 108 v3.toNatClampNeg)) ≤ 99 then (f_X9_lives_313 N k_215 v2 v3 v3 ((m2.1 104 v3.toNatClampNeg) + (m2.1 108 v3.toNatClampNeg)) m2) else (f_X9_lives_313 N k_215 v2 v3 v3 99 m2)))))
theorem k_X9_lives_271 {L : Nat} {xs : Nat → Int32} {δ N : Nat} {v2 : Int32} {v3 : Int32} {s1 : Int32} {s2 : Int32} {m : mj_m} {k_215 : Int32 × mj_m → Option (Int32 × mj_m)} (q_215 : ∀ (s_ : Int32 × mj_m) (a_ : Int32 × mj_m), k_215 s_ = some a_ → mj_Go (mj_EX L xs) (δ + 1) mY_X9_lives 215 [(0, .ref 95), (2, .int v2), (3, .int s_.1)] [] (mj_fin s_.2) (some (.int a_.1), (mj_fin a_.2))) (hδ : 6 ≤ δ) {a : Int32 × mj_m} (h : f_X9_lives_271 N k_215 v2 v3 s1 s2 m = some a) : mj_Go (mj_EX L xs) (δ + 1) mY_X9_lives 271 [(0, .ref 95), (2, .int v2), (3, .int v3)] [.int s2, .int s1, .ref 103] (mj_fin m) (some (.int a.1), (mj_fin a.2)) := by
  unfold f_X9_lives_271 at h
  obtain ⟨c1, h⟩ := mj_ck_some h
  obtain ⟨m2, em2, h⟩ := mj_mw_some h
  refine ml_iast c1 (mj_dt dt_X9_lives 152 rfl) ?_
  refine ml_eqm (M1 := (mj_fin m2)) (by rw [em2] <;> rfl) ?_
  refine mj_go_aload_n (k := 0) (x := 95) rfl (mj_dt dt_X9_lives 153 rfl) ?_
  refine ml_getR (c := 9) (k := 19) (q := 104) fd_9_19 rf_95_19 (Or.inl fl_X9_50) ho_95 (mj_dt dt_X9_lives 154 rfl) ?_
  refine mj_go_iload_n (k := 3) (x := v3) rfl (mj_dt dt_X9_lives 155 rfl) ?_
  refine mj_go_aload_n (k := 0) (x := 95) rfl (mj_dt dt_X9_lives 156 rfl) ?_
  refine ml_getR (c := 9) (k := 19) (q := 104) fd_9_19 rf_95_19 (Or.inl fl_X9_50) ho_95 (mj_dt dt_X9_lives 157 rfl) ?_
  refine mj_go_iload_n (k := 3) (x := v3) rfl (mj_dt dt_X9_lives 158 rfl) ?_
  obtain ⟨c3, h⟩ := mj_ck_some h
  refine mk_iald c3 (mj_dt dt_X9_lives 159 rfl) ?_
  refine mj_go_aload_n (k := 0) (x := 95) rfl (mj_dt dt_X9_lives 160 rfl) ?_
  refine ml_getR (c := 9) (k := 23) (q := 108) fd_9_23 rf_95_23 (Or.inl fl_X9_62) ho_95 (mj_dt dt_X9_lives 161 rfl) ?_
  refine mj_go_iload_n (k := 3) (x := v3) rfl (mj_dt dt_X9_lives 162 rfl) ?_
  obtain ⟨c4, h⟩ := mj_ck_some h
  refine mk_iald c4 (mj_dt dt_X9_lives 163 rfl) ?_
  refine mj_go_iadd (mj_dt dt_X9_lives 164 rfl) ?_
  refine mj_go_bipush (v := 99) rfl (mj_dt dt_X9_lives 165 rfl) ?_
  refine mj_go_icmp_le (tgt := 300) rfl (mj_dt dt_X9_lives 166 rfl) (fun b5 => ?_) (fun b5 => ?_)
  · rw [if_pos b5] at h
    refine mj_go_aload_n (k := 0) (x := 95) rfl (mj_dt dt_X9_lives 169 rfl) ?_
    refine ml_getR (c := 9) (k := 19) (q := 104) fd_9_19 rf_95_19 (Or.inl fl_X9_50) ho_95 (mj_dt dt_X9_lives 170 rfl) ?_
    refine mj_go_iload_n (k := 3) (x := v3) rfl (mj_dt dt_X9_lives 171 rfl) ?_
    refine mk_iald c3 (mj_dt dt_X9_lives 172 rfl) ?_
    refine mj_go_aload_n (k := 0) (x := 95) rfl (mj_dt dt_X9_lives 173 rfl) ?_
    refine ml_getR (c := 9) (k := 23) (q := 108) fd_9_23 rf_95_23 (Or.inl fl_X9_62) ho_95 (mj_dt dt_X9_lives 174 rfl) ?_
    refine mj_go_iload_n (k := 3) (x := v3) rfl (mj_dt dt_X9_lives 175 rfl) ?_
    refine mk_iald c4 (mj_dt dt_X9_lives 176 rfl) ?_
    refine mj_go_iadd (mj_dt dt_X9_lives 177 rfl) ?_
    refine mj_go_sub (lv' := [(0, .ref 95), (2, .int v2), (3, .int v3)]) (List.forall_mem_cons.mpr ⟨rfl, (List.forall_mem_cons.mpr ⟨rfl, (List.forall_mem_cons.mpr ⟨rfl, (fun _ h9 => absurd h9 List.not_mem_nil)⟩)⟩)⟩) ?_
    exact k_X9_lives_313 q_215 hδ h
  · rw [if_neg b5] at h
    refine mj_go_bipush (v := 99) rfl (mj_dt dt_X9_lives 167 rfl) ?_
    refine mj_go_goto (tgt := 313) rfl (mj_dt dt_X9_lives 168 rfl) ?_
    refine mj_go_sub (lv' := [(0, .ref 95), (2, .int v2), (3, .int v3)]) (List.forall_mem_cons.mpr ⟨rfl, (List.forall_mem_cons.mpr ⟨rfl, (List.forall_mem_cons.mpr ⟨rfl, (fun _ h9 => absurd h9 List.not_mem_nil)⟩)⟩)⟩) ?_
    exact k_X9_lives_313 q_215 hδ h
def f_X9_lives_215 (N : Nat) (v2 : Int32) (k_215 : Int32 × mj_m → Option (Int32 × mj_m)) (s : Int32 × mj_m) : Option (Int32 × mj_m) := if (s.2.1 95 1) ≤ s.1 then (mj_mw (mj_wI s.2 95 8 ((s.2.1 95 8) + v2)) (fun m2 => mj_mw (mj_wI m2 95 7 ((m2.1 95 7) + 1)) (fun m3 => some (v2, m3)))) else (mj_ck (mj_b 0 109 s.1) ( mj_mw (mj_wI s.2 109 (s.1.toNatClampNeg) 0) (fun m3 => mj_ck (mj_b 0 103 s.1) ( mj_ck (mj_b 0 108 s.1) ( if ((m3.1 103 s.1.toNatClampNeg) + (m3.1 108 s.1.toNatClampNeg)) ≤ 99 then (f_X9_lives_271 N k_215 v2 s.1 s.1 ((m3.1 103 s.1.toNatClampNeg) + (m3.1 108 s.1.toNatClampNeg)) m3) else (f_X9_lives_271 N k_215 v2 s.1 s.1 99 m3))))))
theorem k_X9_lives_215 {L : Nat} {xs : Nat → Int32} {δ N : Nat} {v2 : Int32} (hδ : 6 ≤ δ) : ∀ (n : Nat) (s : Int32 × mj_m) (a : Int32 × mj_m), mj_lp n (f_X9_lives_215 N v2) s = some a → mj_Go (mj_EX L xs) (δ + 1) mY_X9_lives 215 [(0, .ref 95), (2, .int v2), (3, .int s.1)] [] (mj_fin s.2) (some (.int a.1), (mj_fin a.2)) := by
  refine mj_lp_sound (fun k_215 s a q_215 h => ?_)
  unfold f_X9_lives_215 at h
  refine mj_go_iload_n (k := 3) (x := s.1) rfl (mj_dt dt_X9_lives 118 rfl) ?_
  refine mj_go_aload_n (k := 0) (x := 95) rfl (mj_dt dt_X9_lives 119 rfl) ?_
  refine mk_getI (c := 9) (k := 1) (Or.inl fd_9_1) (Or.inl fl_X9_124) ho_95 (mj_dt dt_X9_lives 120 rfl) ?_
  refine mj_go_icmp_ge (tgt := 320) rfl (mj_dt dt_X9_lives 121 rfl) (fun b1 => ?_) (fun b1 => ?_)
  · rw [if_pos b1] at h
    refine mj_go_aload_n (k := 0) (x := 95) rfl (mj_dt dt_X9_lives 181 rfl) ?_
    refine mj_go_dup rfl (mj_dt dt_X9_lives 182 rfl) ?_
    refine mk_getI (c := 9) (k := 8) (Or.inl fd_9_8) (Or.inl fl_X9_224) ho_95 (mj_dt dt_X9_lives 183 rfl) ?_
    refine mj_go_iload_n (k := 2) (x := v2) rfl (mj_dt dt_X9_lives 184 rfl) ?_
    refine mj_go_iadd (mj_dt dt_X9_lives 185 rfl) ?_
    obtain ⟨m2, em2, h⟩ := mj_mw_some h
    refine ml_putI (c := 9) (k := 8) fd_9_8 rfl fl_X9_224 ho_95 (mj_dt dt_X9_lives 186 rfl) ?_
    refine ml_eqm (M1 := (mj_fin m2)) (by rw [em2] <;> rfl) ?_
    refine mj_go_aload_n (k := 0) (x := 95) rfl (mj_dt dt_X9_lives 187 rfl) ?_
    refine mj_go_dup rfl (mj_dt dt_X9_lives 188 rfl) ?_
    refine mk_getI (c := 9) (k := 7) (Or.inl fd_9_7) (Or.inl fl_X9_221) ho_95 (mj_dt dt_X9_lives 189 rfl) ?_
    refine mj_go_iconst (v := 1) rfl (mj_dt dt_X9_lives 190 rfl) ?_
    refine mj_go_iadd (mj_dt dt_X9_lives 191 rfl) ?_
    obtain ⟨m3, em3, h⟩ := mj_mw_some h
    refine ml_putI (c := 9) (k := 7) fd_9_7 rfl fl_X9_221 ho_95 (mj_dt dt_X9_lives 192 rfl) ?_
    refine ml_eqm (M1 := (mj_fin m3)) (by rw [em3] <;> rfl) ?_
    refine mj_go_iload_n (k := 2) (x := v2) rfl (mj_dt dt_X9_lives 193 rfl) ?_
    obtain rfl := Option.some.inj h
    exact mj_go_ret (v := some (.int v2)) (Nat.le_of_ble_eq_true rfl) (mj_retI (mj_dt dt_X9_lives 194 rfl) rfl)
  · rw [if_neg b1] at h
    refine mj_go_aload_n (k := 0) (x := 95) rfl (mj_dt dt_X9_lives 122 rfl) ?_
    refine ml_getR (c := 9) (k := 24) (q := 109) fd_9_24 rf_95_24 (Or.inl fl_X9_65) ho_95 (mj_dt dt_X9_lives 123 rfl) ?_
    refine mj_go_iload_n (k := 3) (x := s.1) rfl (mj_dt dt_X9_lives 124 rfl) ?_
    refine mj_go_iconst (v := 0) rfl (mj_dt dt_X9_lives 125 rfl) ?_
    obtain ⟨c2, h⟩ := mj_ck_some h
    obtain ⟨m3, em3, h⟩ := mj_mw_some h
    refine ml_iast c2 (mj_dt dt_X9_lives 126 rfl) ?_
    refine ml_eqm (M1 := (mj_fin m3)) (by rw [em3] <;> rfl) ?_
    refine mj_go_aload_n (k := 0) (x := 95) rfl (mj_dt dt_X9_lives 127 rfl) ?_
    refine ml_getR (c := 9) (k := 18) (q := 103) fd_9_18 rf_95_18 (Or.inl fl_X9_47) ho_95 (mj_dt dt_X9_lives 128 rfl) ?_
    refine mj_go_iload_n (k := 3) (x := s.1) rfl (mj_dt dt_X9_lives 129 rfl) ?_
    refine mj_go_aload_n (k := 0) (x := 95) rfl (mj_dt dt_X9_lives 130 rfl) ?_
    refine ml_getR (c := 9) (k := 18) (q := 103) fd_9_18 rf_95_18 (Or.inl fl_X9_47) ho_95 (mj_dt dt_X9_lives 131 rfl) ?_
    refine mj_go_iload_n (k := 3) (x := s.1) rfl (mj_dt dt_X9_lives 132 rfl) ?_
    obtain ⟨c4, h⟩ := mj_ck_some h
    refine mk_iald c4 (mj_dt dt_X9_lives 133 rfl) ?_
    refine mj_go_aload_n (k := 0) (x := 95) rfl (mj_dt dt_X9_lives 134 rfl) ?_
    refine ml_getR (c := 9) (k := 23) (q := 108) fd_9_23 rf_95_23 (Or.inl fl_X9_62) ho_95 (mj_dt dt_X9_lives 135 rfl) ?_
    refine mj_go_iload_n (k := 3) (x := s.1) rfl (mj_dt dt_X9_lives 136 rfl) ?_
    obtain ⟨c5, h⟩ := mj_ck_some h
    refine mk_iald c5 (mj_dt dt_X9_lives 137 rfl) ?_
    refine mj_go_iadd (mj_dt dt_X9_lives 138 rfl) ?_
    refine mj_go_bipush (v := 99) rfl (mj_dt dt_X9_lives 139 rfl) ?_
    refine mj_go_icmp_le (tgt := 258) rfl (mj_dt dt_X9_lives 140 rfl) (fun b6 => ?_) (fun b6 => ?_)
    · rw [if_pos b6] at h
      refine mj_go_aload_n (k := 0) (x := 95) rfl (mj_dt dt_X9_lives 143 rfl) ?_
      refine ml_getR (c := 9) (k := 18) (q := 103) fd_9_18 rf_95_18 (Or.inl fl_X9_47) ho_95 (mj_dt dt_X9_lives 144 rfl) ?_
      refine mj_go_iload_n (k := 3) (x := s.1) rfl (mj_dt dt_X9_lives 145 rfl) ?_
      refine mk_iald c4 (mj_dt dt_X9_lives 146 rfl) ?_
      refine mj_go_aload_n (k := 0) (x := 95) rfl (mj_dt dt_X9_lives 147 rfl) ?_
      refine ml_getR (c := 9) (k := 23) (q := 108) fd_9_23 rf_95_23 (Or.inl fl_X9_62) ho_95 (mj_dt dt_X9_lives 148 rfl) ?_
      refine mj_go_iload_n (k := 3) (x := s.1) rfl (mj_dt dt_X9_lives 149 rfl) ?_
      refine mk_iald c5 (mj_dt dt_X9_lives 150 rfl) ?_
      refine mj_go_iadd (mj_dt dt_X9_lives 151 rfl) ?_
      refine mj_go_sub (lv' := [(0, .ref 95), (2, .int v2), (3, .int s.1)]) (List.forall_mem_cons.mpr ⟨rfl, (List.forall_mem_cons.mpr ⟨rfl, (List.forall_mem_cons.mpr ⟨rfl, (fun _ h9 => absurd h9 List.not_mem_nil)⟩)⟩)⟩) ?_
      exact k_X9_lives_271 q_215 hδ h
    · rw [if_neg b6] at h
      refine mj_go_bipush (v := 99) rfl (mj_dt dt_X9_lives 141 rfl) ?_
      refine mj_go_goto (tgt := 271) rfl (mj_dt dt_X9_lives 142 rfl) ?_
      refine mj_go_sub (lv' := [(0, .ref 95), (2, .int v2), (3, .int s.1)]) (List.forall_mem_cons.mpr ⟨rfl, (List.forall_mem_cons.mpr ⟨rfl, (List.forall_mem_cons.mpr ⟨rfl, (fun _ h9 => absurd h9 List.not_mem_nil)⟩)⟩)⟩) ?_
      exact k_X9_lives_271 q_215 hδ h
def f_X9_lives_207 (N : Nat) (k_18 : Int32 × Int32 × mj_m → Option (Int32 × mj_m)) (v2 : Int32) (v3 : Int32) (m : mj_m) : Option (Int32 × mj_m) := mj_mw (v3 + 1) (fun x1 => k_18 (v2, x1, m))
theorem k_X9_lives_207 {L : Nat} {xs : Nat → Int32} {δ N : Nat} {v2 : Int32} {v3 : Int32} {m : mj_m} {k_18 : Int32 × Int32 × mj_m → Option (Int32 × mj_m)} (q_18 : ∀ (s_ : Int32 × Int32 × mj_m) (a_ : Int32 × mj_m), k_18 s_ = some a_ → mj_Go (mj_EX L xs) (δ + 1) mY_X9_lives 18 [(0, .ref 95), (2, .int s_.1), (3, .int s_.2.1)] [] (mj_fin s_.2.2) (some (.int a_.1), (mj_fin a_.2))) (hδ : 6 ≤ δ) {a : Int32 × mj_m} (h : f_X9_lives_207 N k_18 v2 v3 m = some a) : mj_Go (mj_EX L xs) (δ + 1) mY_X9_lives 207 [(0, .ref 95), (2, .int v2), (3, .int v3)] [] (mj_fin m) (some (.int a.1), (mj_fin a.2)) := by
  unfold f_X9_lives_207 at h
  obtain ⟨x1, ex1, h⟩ := mj_mw_some h
  refine mj_go_iinc (i := 3) (x := v3) (v := x1) rfl (by rw [ex1] <;> rfl) (by decide) (mj_dt dt_X9_lives 114 rfl) ?_
  refine mj_go_goto (tgt := 18) rfl (mj_dt dt_X9_lives 115 rfl) ?_
  refine mj_go_sub (lv' := [(0, .ref 95), (2, .int v2), (3, .int x1)]) (List.forall_mem_cons.mpr ⟨rfl, (List.forall_mem_cons.mpr ⟨rfl, (List.forall_mem_cons.mpr ⟨rfl, (fun _ h9 => absurd h9 List.not_mem_nil)⟩)⟩)⟩) ?_
  exact q_18 _ _ h
def f_X9_lives_188 (N : Nat) (k_18 : Int32 × Int32 × mj_m → Option (Int32 × mj_m)) (k_125 : Int32 × Int32 × Int32 → Option (Int32 × mj_m)) (v2 : Int32) (v3 : Int32) (v4 : Int32) (v5 : Int32) (v6 : Int32) (v7 : Int32) (v8 : Int32) (m : mj_m) : Option (Int32 × mj_m) := mj_mw (v8 + 1) (fun x1 => k_125 (v2, v6, x1))
theorem k_X9_lives_188 {L : Nat} {xs : Nat → Int32} {δ N : Nat} {v2 : Int32} {v3 : Int32} {v4 : Int32} {v5 : Int32} {v6 : Int32} {v7 : Int32} {v8 : Int32} {m : mj_m} {k_18 : Int32 × Int32 × mj_m → Option (Int32 × mj_m)} (q_18 : ∀ (s_ : Int32 × Int32 × mj_m) (a_ : Int32 × mj_m), k_18 s_ = some a_ → mj_Go (mj_EX L xs) (δ + 1) mY_X9_lives 18 [(0, .ref 95), (2, .int s_.1), (3, .int s_.2.1)] [] (mj_fin s_.2.2) (some (.int a_.1), (mj_fin a_.2))) {k_125 : Int32 × Int32 × Int32 → Option (Int32 × mj_m)} (q_125 : ∀ (s_ : Int32 × Int32 × Int32) (a_ : Int32 × mj_m), k_125 s_ = some a_ → mj_Go (mj_EX L xs) (δ + 1) mY_X9_lives 125 [(0, .ref 95), (2, .int s_.1), (3, .int v3), (4, .int v4), (5, .int v5), (6, .int s_.2.1), (7, .int v7), (8, .int s_.2.2)] [] (mj_fin m) (some (.int a_.1), (mj_fin a_.2))) (hδ : 6 ≤ δ) {a : Int32 × mj_m} (h : f_X9_lives_188 N k_18 k_125 v2 v3 v4 v5 v6 v7 v8 m = some a) : mj_Go (mj_EX L xs) (δ + 1) mY_X9_lives 188 [(0, .ref 95), (2, .int v2), (3, .int v3), (4, .int v4), (5, .int v5), (6, .int v6), (7, .int v7), (8, .int v8)] [] (mj_fin m) (some (.int a.1), (mj_fin a.2)) := by
  unfold f_X9_lives_188 at h
  obtain ⟨x1, ex1, h⟩ := mj_mw_some h
  refine mj_go_iinc (i := 8) (x := v8) (v := x1) rfl (by rw [ex1] <;> rfl) (by decide) (mj_dt dt_X9_lives 103 rfl) ?_
  refine mj_go_goto (tgt := 125) rfl (mj_dt dt_X9_lives 104 rfl) ?_
  refine mj_go_sub (lv' := [(0, .ref 95), (2, .int v2), (3, .int v3), (4, .int v4), (5, .int v5), (6, .int v6), (7, .int v7), (8, .int x1)]) (List.forall_mem_cons.mpr ⟨rfl, (List.forall_mem_cons.mpr ⟨rfl, (List.forall_mem_cons.mpr ⟨rfl, (List.forall_mem_cons.mpr ⟨rfl, (List.forall_mem_cons.mpr ⟨rfl, (List.forall_mem_cons.mpr ⟨rfl, (List.forall_mem_cons.mpr ⟨rfl, (List.forall_mem_cons.mpr ⟨rfl, (fun _ h9 => absurd h9 List.not_mem_nil)⟩)⟩)⟩)⟩)⟩)⟩)⟩)⟩) ?_
  exact q_125 _ _ h
def f_X9_lives_125 (N : Nat) (k_18 : Int32 × Int32 × mj_m → Option (Int32 × mj_m)) (v3 : Int32) (v4 : Int32) (v5 : Int32) (v7 : Int32) (m : mj_m) (k_125 : Int32 × Int32 × Int32 → Option (Int32 × mj_m)) (s : Int32 × Int32 × Int32) : Option (Int32 × mj_m) := if (m.1 95 1) ≤ s.2.2 then (mj_mw (s.1 + ((s.2.1 * (m.1 95 4)) / 10)) (fun x2 => f_X9_lives_207 N k_18 x2 v3 m)) else (if ((v5 >>> (s.2.2 &&& 31)) &&& 1) = 1 then ((f_X9_people N s.2.2 v4 m).bind (fun r3 => mj_mw (s.1 + r3) (fun x4 => f_X9_lives_188 N k_18 k_125 x4 v3 v4 v5 s.2.1 v7 s.2.2 m))) else (mj_ck (mj_b 0 101 s.2.2) ( if ((v7 >>> ((m.1 101 s.2.2.toNatClampNeg) &&& 31)) &&& 1) = 1 then ((f_X9_people N s.2.2 v4 m).bind (fun r5 => mj_mw (s.2.1 + r5) (fun x6 => f_X9_lives_188 N k_18 k_125 s.1 v3 v4 v5 x6 v7 s.2.2 m))) else f_X9_lives_188 N k_18 k_125 s.1 v3 v4 v5 s.2.1 v7 s.2.2 m)))
theorem k_X9_lives_125 {L : Nat} {xs : Nat → Int32} {δ N : Nat} {v3 : Int32} {v4 : Int32} {v5 : Int32} {v7 : Int32} {m : mj_m} {k_18 : Int32 × Int32 × mj_m → Option (Int32 × mj_m)} (q_18 : ∀ (s_ : Int32 × Int32 × mj_m) (a_ : Int32 × mj_m), k_18 s_ = some a_ → mj_Go (mj_EX L xs) (δ + 1) mY_X9_lives 18 [(0, .ref 95), (2, .int s_.1), (3, .int s_.2.1)] [] (mj_fin s_.2.2) (some (.int a_.1), (mj_fin a_.2))) (hδ : 6 ≤ δ) : ∀ (n : Nat) (s : Int32 × Int32 × Int32) (a : Int32 × mj_m), mj_lp n (f_X9_lives_125 N k_18 v3 v4 v5 v7 m) s = some a → mj_Go (mj_EX L xs) (δ + 1) mY_X9_lives 125 [(0, .ref 95), (2, .int s.1), (3, .int v3), (4, .int v4), (5, .int v5), (6, .int s.2.1), (7, .int v7), (8, .int s.2.2)] [] (mj_fin m) (some (.int a.1), (mj_fin a.2)) := by
  refine mj_lp_sound (fun k_125 s a q_125 h => ?_)
  unfold f_X9_lives_125 at h
  refine mj_go_iload (i := 8) (x := s.2.2) rfl (mj_dt dt_X9_lives 67 rfl) ?_
  refine mj_go_aload_n (k := 0) (x := 95) rfl (mj_dt dt_X9_lives 68 rfl) ?_
  refine mk_getI (c := 9) (k := 1) (Or.inl fd_9_1) (Or.inl fl_X9_124) ho_95 (mj_dt dt_X9_lives 69 rfl) ?_
  refine mj_go_icmp_ge (tgt := 194) rfl (mj_dt dt_X9_lives 70 rfl) (fun b1 => ?_) (fun b1 => ?_)
  · rw [if_pos b1] at h
    refine mj_go_iload_n (k := 2) (x := s.1) rfl (mj_dt dt_X9_lives 105 rfl) ?_
    refine mj_go_iload (i := 6) (x := s.2.1) rfl (mj_dt dt_X9_lives 106 rfl) ?_
    refine mj_go_aload_n (k := 0) (x := 95) rfl (mj_dt dt_X9_lives 107 rfl) ?_
    refine mk_getI (c := 9) (k := 4) (Or.inl fd_9_4) (Or.inl fl_X9_13) ho_95 (mj_dt dt_X9_lives 108 rfl) ?_
    refine mj_go_imul (mj_dt dt_X9_lives 109 rfl) ?_
    refine mj_go_bipush (v := 10) rfl (mj_dt dt_X9_lives 110 rfl) ?_
    refine mj_go_idiv (by decide) (mj_dt dt_X9_lives 111 rfl) ?_
    refine mj_go_iadd (mj_dt dt_X9_lives 112 rfl) ?_
    obtain ⟨x2, ex2, h⟩ := mj_mw_some h
    refine ml_eqi ex2 ?_
    refine mj_go_istore_n (k := 2) (by decide) (mj_dt dt_X9_lives 113 rfl) ?_
    refine mj_go_sub (lv' := [(0, .ref 95), (2, .int x2), (3, .int v3)]) (List.forall_mem_cons.mpr ⟨rfl, (List.forall_mem_cons.mpr ⟨rfl, (List.forall_mem_cons.mpr ⟨rfl, (fun _ h9 => absurd h9 List.not_mem_nil)⟩)⟩)⟩) ?_
    exact k_X9_lives_207 q_18 hδ h
  · rw [if_neg b1] at h
    refine mj_go_iload (i := 5) (x := v5) rfl (mj_dt dt_X9_lives 71 rfl) ?_
    refine mj_go_iload (i := 8) (x := s.2.2) rfl (mj_dt dt_X9_lives 72 rfl) ?_
    refine mj_go_ishr (mj_dt dt_X9_lives 73 rfl) ?_
    refine mj_go_iconst (v := 1) rfl (mj_dt dt_X9_lives 74 rfl) ?_
    refine mj_go_iand (mj_dt dt_X9_lives 75 rfl) ?_
    refine mj_go_iconst (v := 1) rfl (mj_dt dt_X9_lives 76 rfl) ?_
    refine mj_go_icmp_ne (tgt := 159) rfl (mj_dt dt_X9_lives 77 rfl) (fun b2 => ?_) (fun b2 => ?_)
    · rw [if_neg b2] at h
      refine mj_go_iload (i := 7) (x := v7) rfl (mj_dt dt_X9_lives 86 rfl) ?_
      refine mj_go_aload_n (k := 0) (x := 95) rfl (mj_dt dt_X9_lives 87 rfl) ?_
      refine ml_getR (c := 9) (k := 16) (q := 101) fd_9_16 rf_95_16 (Or.inl fl_X9_41) ho_95 (mj_dt dt_X9_lives 88 rfl) ?_
      refine mj_go_iload (i := 8) (x := s.2.2) rfl (mj_dt dt_X9_lives 89 rfl) ?_
      obtain ⟨c3, h⟩ := mj_ck_some h
      refine mk_iald c3 (mj_dt dt_X9_lives 90 rfl) ?_
      refine mj_go_ishr (mj_dt dt_X9_lives 91 rfl) ?_
      refine mj_go_iconst (v := 1) rfl (mj_dt dt_X9_lives 92 rfl) ?_
      refine mj_go_iand (mj_dt dt_X9_lives 93 rfl) ?_
      refine mj_go_iconst (v := 1) rfl (mj_dt dt_X9_lives 94 rfl) ?_
      refine mj_go_icmp_ne (tgt := 188) rfl (mj_dt dt_X9_lives 95 rfl) (fun b4 => ?_) (fun b4 => ?_)
      · rw [if_neg b4] at h
        refine mj_go_sub (lv' := [(0, .ref 95), (2, .int s.1), (3, .int v3), (4, .int v4), (5, .int v5), (6, .int s.2.1), (7, .int v7), (8, .int s.2.2)]) (List.forall_mem_cons.mpr ⟨rfl, (List.forall_mem_cons.mpr ⟨rfl, (List.forall_mem_cons.mpr ⟨rfl, (List.forall_mem_cons.mpr ⟨rfl, (List.forall_mem_cons.mpr ⟨rfl, (List.forall_mem_cons.mpr ⟨rfl, (List.forall_mem_cons.mpr ⟨rfl, (List.forall_mem_cons.mpr ⟨rfl, (fun _ h9 => absurd h9 List.not_mem_nil)⟩)⟩)⟩)⟩)⟩)⟩)⟩)⟩) ?_
        exact k_X9_lives_188 q_18 q_125 hδ h
      · rw [if_pos b4] at h
        refine mj_go_iload (i := 6) (x := s.2.1) rfl (mj_dt dt_X9_lives 96 rfl) ?_
        refine mj_go_aload_n (k := 0) (x := 95) rfl (mj_dt dt_X9_lives 97 rfl) ?_
        refine mj_go_iload (i := 8) (x := s.2.2) rfl (mj_dt dt_X9_lives 98 rfl) ?_
        refine mj_go_iload (i := 4) (x := v4) rfl (mj_dt dt_X9_lives 99 rfl) ?_
        obtain ⟨r5, er5, h⟩ := mj_bind_some h
        refine ml_callV (Y' := mY_X9_people) (as := [.int s.2.2, .int v4]) (rest := [.int s.2.1]) (c := 9) (v := (some (.int r5))) (M1 := (mj_fin m)) ho_95 rfl lm_X9_245 wc_X9_people pl_X9_people ok_X9_people rfl rfl (Nat.le_of_ble_eq_true rfl) (k_X9_people (by omega) er5) (mj_dt dt_X9_lives 100 rfl) ?_
        refine mj_go_iadd (mj_dt dt_X9_lives 101 rfl) ?_
        obtain ⟨x6, ex6, h⟩ := mj_mw_some h
        refine ml_eqi ex6 ?_
        refine mj_go_istore (i := 6) (by decide) (mj_dt dt_X9_lives 102 rfl) ?_
        refine mj_go_sub (lv' := [(0, .ref 95), (2, .int s.1), (3, .int v3), (4, .int v4), (5, .int v5), (6, .int x6), (7, .int v7), (8, .int s.2.2)]) (List.forall_mem_cons.mpr ⟨rfl, (List.forall_mem_cons.mpr ⟨rfl, (List.forall_mem_cons.mpr ⟨rfl, (List.forall_mem_cons.mpr ⟨rfl, (List.forall_mem_cons.mpr ⟨rfl, (List.forall_mem_cons.mpr ⟨rfl, (List.forall_mem_cons.mpr ⟨rfl, (List.forall_mem_cons.mpr ⟨rfl, (fun _ h9 => absurd h9 List.not_mem_nil)⟩)⟩)⟩)⟩)⟩)⟩)⟩)⟩) ?_
        exact k_X9_lives_188 q_18 q_125 hδ h
    · rw [if_pos b2] at h
      refine mj_go_iload_n (k := 2) (x := s.1) rfl (mj_dt dt_X9_lives 78 rfl) ?_
      refine mj_go_aload_n (k := 0) (x := 95) rfl (mj_dt dt_X9_lives 79 rfl) ?_
      refine mj_go_iload (i := 8) (x := s.2.2) rfl (mj_dt dt_X9_lives 80 rfl) ?_
      refine mj_go_iload (i := 4) (x := v4) rfl (mj_dt dt_X9_lives 81 rfl) ?_
      obtain ⟨r3, er3, h⟩ := mj_bind_some h
      refine ml_callV (Y' := mY_X9_people) (as := [.int s.2.2, .int v4]) (rest := [.int s.1]) (c := 9) (v := (some (.int r3))) (M1 := (mj_fin m)) ho_95 rfl lm_X9_245 wc_X9_people pl_X9_people ok_X9_people rfl rfl (Nat.le_of_ble_eq_true rfl) (k_X9_people (by omega) er3) (mj_dt dt_X9_lives 82 rfl) ?_
      refine mj_go_iadd (mj_dt dt_X9_lives 83 rfl) ?_
      obtain ⟨x4, ex4, h⟩ := mj_mw_some h
      refine ml_eqi ex4 ?_
      refine mj_go_istore_n (k := 2) (by decide) (mj_dt dt_X9_lives 84 rfl) ?_
      refine mj_go_goto (tgt := 188) rfl (mj_dt dt_X9_lives 85 rfl) ?_
      refine mj_go_sub (lv' := [(0, .ref 95), (2, .int x4), (3, .int v3), (4, .int v4), (5, .int v5), (6, .int s.2.1), (7, .int v7), (8, .int s.2.2)]) (List.forall_mem_cons.mpr ⟨rfl, (List.forall_mem_cons.mpr ⟨rfl, (List.forall_mem_cons.mpr ⟨rfl, (List.forall_mem_cons.mpr ⟨rfl, (List.forall_mem_cons.mpr ⟨rfl, (List.forall_mem_cons.mpr ⟨rfl, (List.forall_mem_cons.mpr ⟨rfl, (List.forall_mem_cons.mpr ⟨rfl, (fun _ h9 => absurd h9 List.not_mem_nil)⟩)⟩)⟩)⟩)⟩)⟩)⟩)⟩) ?_
      exact k_X9_lives_188 q_18 q_125 hδ h
def f_X9_lives_108 (N : Nat) (k_18 : Int32 × Int32 × mj_m → Option (Int32 × mj_m)) (k_74 : Int32 × Int32 × mj_m → Option (Int32 × mj_m)) (v2 : Int32) (v3 : Int32) (v4 : Int32) (v5 : Int32) (v6 : Int32) (v7 : Int32) (m : mj_m) : Option (Int32 × mj_m) := mj_mw (v7 + 1) (fun x1 => k_74 (v5, x1, m))
theorem k_X9_lives_108 {L : Nat} {xs : Nat → Int32} {δ N : Nat} {v2 : Int32} {v3 : Int32} {v4 : Int32} {v5 : Int32} {v6 : Int32} {v7 : Int32} {m : mj_m} {k_18 : Int32 × Int32 × mj_m → Option (Int32 × mj_m)} (q_18 : ∀ (s_ : Int32 × Int32 × mj_m) (a_ : Int32 × mj_m), k_18 s_ = some a_ → mj_Go (mj_EX L xs) (δ + 1) mY_X9_lives 18 [(0, .ref 95), (2, .int s_.1), (3, .int s_.2.1)] [] (mj_fin s_.2.2) (some (.int a_.1), (mj_fin a_.2))) {k_74 : Int32 × Int32 × mj_m → Option (Int32 × mj_m)} (q_74 : ∀ (s_ : Int32 × Int32 × mj_m) (a_ : Int32 × mj_m), k_74 s_ = some a_ → mj_Go (mj_EX L xs) (δ + 1) mY_X9_lives 74 [(0, .ref 95), (2, .int v2), (3, .int v3), (4, .int v4), (5, .int s_.1), (6, .int v6), (7, .int s_.2.1)] [] (mj_fin s_.2.2) (some (.int a_.1), (mj_fin a_.2))) (hδ : 6 ≤ δ) {a : Int32 × mj_m} (h : f_X9_lives_108 N k_18 k_74 v2 v3 v4 v5 v6 v7 m = some a) : mj_Go (mj_EX L xs) (δ + 1) mY_X9_lives 108 [(0, .ref 95), (2, .int v2), (3, .int v3), (4, .int v4), (5, .int v5), (6, .int v6), (7, .int v7)] [] (mj_fin m) (some (.int a.1), (mj_fin a.2)) := by
  unfold f_X9_lives_108 at h
  obtain ⟨x1, ex1, h⟩ := mj_mw_some h
  refine mj_go_iinc (i := 7) (x := v7) (v := x1) rfl (by rw [ex1] <;> rfl) (by decide) (mj_dt dt_X9_lives 59 rfl) ?_
  refine mj_go_goto (tgt := 74) rfl (mj_dt dt_X9_lives 60 rfl) ?_
  refine mj_go_sub (lv' := [(0, .ref 95), (2, .int v2), (3, .int v3), (4, .int v4), (5, .int v5), (6, .int v6), (7, .int x1)]) (List.forall_mem_cons.mpr ⟨rfl, (List.forall_mem_cons.mpr ⟨rfl, (List.forall_mem_cons.mpr ⟨rfl, (List.forall_mem_cons.mpr ⟨rfl, (List.forall_mem_cons.mpr ⟨rfl, (List.forall_mem_cons.mpr ⟨rfl, (List.forall_mem_cons.mpr ⟨rfl, (fun _ h9 => absurd h9 List.not_mem_nil)⟩)⟩)⟩)⟩)⟩)⟩)⟩) ?_
  exact q_74 _ _ h
def f_X9_lives_74 (N : Nat) (k_18 : Int32 × Int32 × mj_m → Option (Int32 × mj_m)) (v2 : Int32) (v3 : Int32) (v4 : Int32) (v6 : Int32) (k_74 : Int32 × Int32 × mj_m → Option (Int32 × mj_m)) (s : Int32 × Int32 × mj_m) : Option (Int32 × mj_m) := if (s.2.2.1 95 1) ≤ s.2.1 then ((f_X9_cutOf N s.1 s.2.2).bind (fun r2 => mj_lp N (f_X9_lives_125 N k_18 v3 v4 s.1 r2 s.2.2) (v2, v6, 0))) else ((f_X9_draw N 10 s.2.2).bind (fun r2 => (f_X9_fallsOf N s.2.1 v3 r2.2).bind (fun r3 => if r3 ≤ r2.1 then f_X9_lives_108 N k_18 k_74 v2 v3 v4 s.1 v6 s.2.1 r2.2 else (mj_mw (s.1 ||| (1 <<< (s.2.1 &&& 31))) (fun x5 => f_X9_lives_108 N k_18 k_74 v2 v3 v4 x5 v6 s.2.1 r2.2)))))
theorem k_X9_lives_74 {L : Nat} {xs : Nat → Int32} {δ N : Nat} {v2 : Int32} {v3 : Int32} {v4 : Int32} {v6 : Int32} {k_18 : Int32 × Int32 × mj_m → Option (Int32 × mj_m)} (q_18 : ∀ (s_ : Int32 × Int32 × mj_m) (a_ : Int32 × mj_m), k_18 s_ = some a_ → mj_Go (mj_EX L xs) (δ + 1) mY_X9_lives 18 [(0, .ref 95), (2, .int s_.1), (3, .int s_.2.1)] [] (mj_fin s_.2.2) (some (.int a_.1), (mj_fin a_.2))) (hδ : 6 ≤ δ) : ∀ (n : Nat) (s : Int32 × Int32 × mj_m) (a : Int32 × mj_m), mj_lp n (f_X9_lives_74 N k_18 v2 v3 v4 v6) s = some a → mj_Go (mj_EX L xs) (δ + 1) mY_X9_lives 74 [(0, .ref 95), (2, .int v2), (3, .int v3), (4, .int v4), (5, .int s.1), (6, .int v6), (7, .int s.2.1)] [] (mj_fin s.2.2) (some (.int a.1), (mj_fin a.2)) := by
  refine mj_lp_sound (fun k_74 s a q_74 h => ?_)
  unfold f_X9_lives_74 at h
  refine mj_go_iload (i := 7) (x := s.2.1) rfl (mj_dt dt_X9_lives 41 rfl) ?_
  refine mj_go_aload_n (k := 0) (x := 95) rfl (mj_dt dt_X9_lives 42 rfl) ?_
  refine mk_getI (c := 9) (k := 1) (Or.inl fd_9_1) (Or.inl fl_X9_124) ho_95 (mj_dt dt_X9_lives 43 rfl) ?_
  refine mj_go_icmp_ge (tgt := 114) rfl (mj_dt dt_X9_lives 44 rfl) (fun b1 => ?_) (fun b1 => ?_)
  · rw [if_pos b1] at h
    refine mj_go_aload_n (k := 0) (x := 95) rfl (mj_dt dt_X9_lives 61 rfl) ?_
    refine mj_go_iload (i := 5) (x := s.1) rfl (mj_dt dt_X9_lives 62 rfl) ?_
    obtain ⟨r2, er2, h⟩ := mj_bind_some h
    refine ml_callV (Y' := mY_X9_cutOf) (as := [.int s.1]) (rest := []) (c := 9) (v := (some (.int r2))) (M1 := (mj_fin s.2.2)) ho_95 rfl lm_X9_240 wc_X9_cutOf pl_X9_cutOf ok_X9_cutOf rfl rfl (Nat.le_of_ble_eq_true rfl) (k_X9_cutOf (by omega) er2) (mj_dt dt_X9_lives 63 rfl) ?_
    refine mj_go_istore (i := 7) (by decide) (mj_dt dt_X9_lives 64 rfl) ?_
    refine mj_go_iconst (v := 0) rfl (mj_dt dt_X9_lives 65 rfl) ?_
    refine mj_go_istore (i := 8) (by decide) (mj_dt dt_X9_lives 66 rfl) ?_
    refine mj_go_sub (lv' := [(0, .ref 95), (2, .int v2), (3, .int v3), (4, .int v4), (5, .int s.1), (6, .int v6), (7, .int r2), (8, .int 0)]) (List.forall_mem_cons.mpr ⟨rfl, (List.forall_mem_cons.mpr ⟨rfl, (List.forall_mem_cons.mpr ⟨rfl, (List.forall_mem_cons.mpr ⟨rfl, (List.forall_mem_cons.mpr ⟨rfl, (List.forall_mem_cons.mpr ⟨rfl, (List.forall_mem_cons.mpr ⟨rfl, (List.forall_mem_cons.mpr ⟨rfl, (fun _ h9 => absurd h9 List.not_mem_nil)⟩)⟩)⟩)⟩)⟩)⟩)⟩)⟩) ?_
    exact k_X9_lives_125 q_18 hδ N _ _ h
  · rw [if_neg b1] at h
    refine mj_go_aload_n (k := 0) (x := 95) rfl (mj_dt dt_X9_lives 45 rfl) ?_
    refine mj_go_bipush (v := 10) rfl (mj_dt dt_X9_lives 46 rfl) ?_
    obtain ⟨r2, er2, h⟩ := mj_bind_some h
    refine ml_callV (Y' := mY_X9_draw) (as := [.int 10]) (rest := []) (c := 9) (v := (some (.int r2.1))) (M1 := (mj_fin r2.2)) ho_95 rfl lm_X9_325 wc_X9_draw pl_X9_draw ok_X9_draw rfl rfl (Nat.le_of_ble_eq_true rfl) (k_X9_draw (by omega) er2) (mj_dt dt_X9_lives 47 rfl) ?_
    refine mj_go_aload_n (k := 0) (x := 95) rfl (mj_dt dt_X9_lives 48 rfl) ?_
    refine mj_go_iload (i := 7) (x := s.2.1) rfl (mj_dt dt_X9_lives 49 rfl) ?_
    refine mj_go_iload_n (k := 3) (x := v3) rfl (mj_dt dt_X9_lives 50 rfl) ?_
    obtain ⟨r3, er3, h⟩ := mj_bind_some h
    refine ml_callV (Y' := mY_X9_fallsOf) (as := [.int s.2.1, .int v3]) (rest := [.int r2.1]) (c := 9) (v := (some (.int r3))) (M1 := (mj_fin r2.2)) ho_95 rfl lm_X9_237 wc_X9_fallsOf pl_X9_fallsOf ok_X9_fallsOf rfl rfl (Nat.le_of_ble_eq_true rfl) (k_X9_fallsOf (by omega) er3) (mj_dt dt_X9_lives 51 rfl) ?_
    refine mj_go_icmp_ge (tgt := 108) rfl (mj_dt dt_X9_lives 52 rfl) (fun b4 => ?_) (fun b4 => ?_)
    · rw [if_pos b4] at h
      refine mj_go_sub (lv' := [(0, .ref 95), (2, .int v2), (3, .int v3), (4, .int v4), (5, .int s.1), (6, .int v6), (7, .int s.2.1)]) (List.forall_mem_cons.mpr ⟨rfl, (List.forall_mem_cons.mpr ⟨rfl, (List.forall_mem_cons.mpr ⟨rfl, (List.forall_mem_cons.mpr ⟨rfl, (List.forall_mem_cons.mpr ⟨rfl, (List.forall_mem_cons.mpr ⟨rfl, (List.forall_mem_cons.mpr ⟨rfl, (fun _ h9 => absurd h9 List.not_mem_nil)⟩)⟩)⟩)⟩)⟩)⟩)⟩) ?_
      exact k_X9_lives_108 q_18 q_74 hδ h
    · rw [if_neg b4] at h
      refine mj_go_iload (i := 5) (x := s.1) rfl (mj_dt dt_X9_lives 53 rfl) ?_
      refine mj_go_iconst (v := 1) rfl (mj_dt dt_X9_lives 54 rfl) ?_
      refine mj_go_iload (i := 7) (x := s.2.1) rfl (mj_dt dt_X9_lives 55 rfl) ?_
      refine mj_go_ishl (mj_dt dt_X9_lives 56 rfl) ?_
      refine mj_go_ior (mj_dt dt_X9_lives 57 rfl) ?_
      obtain ⟨x5, ex5, h⟩ := mj_mw_some h
      refine ml_eqi ex5 ?_
      refine mj_go_istore (i := 5) (by decide) (mj_dt dt_X9_lives 58 rfl) ?_
      refine mj_go_sub (lv' := [(0, .ref 95), (2, .int v2), (3, .int v3), (4, .int v4), (5, .int x5), (6, .int v6), (7, .int s.2.1)]) (List.forall_mem_cons.mpr ⟨rfl, (List.forall_mem_cons.mpr ⟨rfl, (List.forall_mem_cons.mpr ⟨rfl, (List.forall_mem_cons.mpr ⟨rfl, (List.forall_mem_cons.mpr ⟨rfl, (List.forall_mem_cons.mpr ⟨rfl, (List.forall_mem_cons.mpr ⟨rfl, (fun _ h9 => absurd h9 List.not_mem_nil)⟩)⟩)⟩)⟩)⟩)⟩)⟩) ?_
      exact k_X9_lives_108 q_18 q_74 hδ h
def f_X9_lives_63 (N : Nat) (k_18 : Int32 × Int32 × mj_m → Option (Int32 × mj_m)) (v2 : Int32) (v3 : Int32) (s0 : Int32) (m : mj_m) : Option (Int32 × mj_m) := mj_lp N (f_X9_lives_74 N k_18 v2 v3 s0 0) (0, 0, m)
theorem k_X9_lives_63 {L : Nat} {xs : Nat → Int32} {δ N : Nat} {v2 : Int32} {v3 : Int32} {s0 : Int32} {m : mj_m} {k_18 : Int32 × Int32 × mj_m → Option (Int32 × mj_m)} (q_18 : ∀ (s_ : Int32 × Int32 × mj_m) (a_ : Int32 × mj_m), k_18 s_ = some a_ → mj_Go (mj_EX L xs) (δ + 1) mY_X9_lives 18 [(0, .ref 95), (2, .int s_.1), (3, .int s_.2.1)] [] (mj_fin s_.2.2) (some (.int a_.1), (mj_fin a_.2))) (hδ : 6 ≤ δ) {a : Int32 × mj_m} (h : f_X9_lives_63 N k_18 v2 v3 s0 m = some a) : mj_Go (mj_EX L xs) (δ + 1) mY_X9_lives 63 [(0, .ref 95), (2, .int v2), (3, .int v3)] [.int s0] (mj_fin m) (some (.int a.1), (mj_fin a.2)) := by
  unfold f_X9_lives_63 at h
  refine mj_go_istore (i := 4) (by decide) (mj_dt dt_X9_lives 34 rfl) ?_
  refine mj_go_iconst (v := 0) rfl (mj_dt dt_X9_lives 35 rfl) ?_
  refine mj_go_istore (i := 5) (by decide) (mj_dt dt_X9_lives 36 rfl) ?_
  refine mj_go_iconst (v := 0) rfl (mj_dt dt_X9_lives 37 rfl) ?_
  refine mj_go_istore (i := 6) (by decide) (mj_dt dt_X9_lives 38 rfl) ?_
  refine mj_go_iconst (v := 0) rfl (mj_dt dt_X9_lives 39 rfl) ?_
  refine mj_go_istore (i := 7) (by decide) (mj_dt dt_X9_lives 40 rfl) ?_
  refine mj_go_sub (lv' := [(0, .ref 95), (2, .int v2), (3, .int v3), (4, .int s0), (5, .int 0), (6, .int 0), (7, .int 0)]) (List.forall_mem_cons.mpr ⟨rfl, (List.forall_mem_cons.mpr ⟨rfl, (List.forall_mem_cons.mpr ⟨rfl, (List.forall_mem_cons.mpr ⟨rfl, (List.forall_mem_cons.mpr ⟨rfl, (List.forall_mem_cons.mpr ⟨rfl, (List.forall_mem_cons.mpr ⟨rfl, (fun _ h9 => absurd h9 List.not_mem_nil)⟩)⟩)⟩)⟩)⟩)⟩)⟩) ?_
  exact k_X9_lives_74 q_18 hδ N _ _ h
def f_X9_lives_18 (N : Nat) (k_18 : Int32 × Int32 × mj_m → Option (Int32 × mj_m)) (s : Int32 × Int32 × mj_m) : Option (Int32 × mj_m) := if (s.2.2.1 95 2) ≤ s.2.1 then (mj_lp N (f_X9_lives_215 N s.1) (0, s.2.2)) else ((f_X9_draw N 1000 s.2.2).bind (fun r2 => mj_ck (mj_b 0 99 s.2.1) ( if r2.1 < (r2.2.1 99 s.2.1.toNatClampNeg) then ((f_X9_draw N 10 r2.2).bind (fun r5 => if (r5.2.1 95 5) ≤ r5.1 then (f_X9_lives_63 N k_18 s.1 s.2.1 1 r5.2) else (f_X9_lives_63 N k_18 s.1 s.2.1 0 r5.2))) else (f_X9_lives_207 N k_18 s.1 s.2.1 r2.2))))
theorem k_X9_lives_18 {L : Nat} {xs : Nat → Int32} {δ N : Nat} (hδ : 6 ≤ δ) : ∀ (n : Nat) (s : Int32 × Int32 × mj_m) (a : Int32 × mj_m), mj_lp n (f_X9_lives_18 N) s = some a → mj_Go (mj_EX L xs) (δ + 1) mY_X9_lives 18 [(0, .ref 95), (2, .int s.1), (3, .int s.2.1)] [] (mj_fin s.2.2) (some (.int a.1), (mj_fin a.2)) := by
  refine mj_lp_sound (fun k_18 s a q_18 h => ?_)
  unfold f_X9_lives_18 at h
  refine mj_go_iload_n (k := 3) (x := s.2.1) rfl (mj_dt dt_X9_lives 12 rfl) ?_
  refine mj_go_aload_n (k := 0) (x := 95) rfl (mj_dt dt_X9_lives 13 rfl) ?_
  refine mk_getI (c := 9) (k := 2) (Or.inl fd_9_2) (Or.inl fl_X9_127) ho_95 (mj_dt dt_X9_lives 14 rfl) ?_
  refine mj_go_icmp_ge (tgt := 213) rfl (mj_dt dt_X9_lives 15 rfl) (fun b1 => ?_) (fun b1 => ?_)
  · rw [if_pos b1] at h
    refine mj_go_iconst (v := 0) rfl (mj_dt dt_X9_lives 116 rfl) ?_
    refine mj_go_istore_n (k := 3) (by decide) (mj_dt dt_X9_lives 117 rfl) ?_
    refine mj_go_sub (lv' := [(0, .ref 95), (2, .int s.1), (3, .int 0)]) (List.forall_mem_cons.mpr ⟨rfl, (List.forall_mem_cons.mpr ⟨rfl, (List.forall_mem_cons.mpr ⟨rfl, (fun _ h9 => absurd h9 List.not_mem_nil)⟩)⟩)⟩) ?_
    exact k_X9_lives_215 hδ N _ _ h
  · rw [if_neg b1] at h
    refine mj_go_aload_n (k := 0) (x := 95) rfl (mj_dt dt_X9_lives 16 rfl) ?_
    refine mj_go_sipush (v := 1000) rfl (mj_dt dt_X9_lives 17 rfl) ?_
    obtain ⟨r2, er2, h⟩ := mj_bind_some h
    refine ml_callV (Y' := mY_X9_draw) (as := [.int 1000]) (rest := []) (c := 9) (v := (some (.int r2.1))) (M1 := (mj_fin r2.2)) ho_95 rfl lm_X9_325 wc_X9_draw pl_X9_draw ok_X9_draw rfl rfl (Nat.le_of_ble_eq_true rfl) (k_X9_draw (by omega) er2) (mj_dt dt_X9_lives 18 rfl) ?_
    refine mj_go_aload_n (k := 0) (x := 95) rfl (mj_dt dt_X9_lives 19 rfl) ?_
    refine ml_getR (c := 9) (k := 14) (q := 99) fd_9_14 rf_95_14 (Or.inl fl_X9_35) ho_95 (mj_dt dt_X9_lives 20 rfl) ?_
    refine mj_go_iload_n (k := 3) (x := s.2.1) rfl (mj_dt dt_X9_lives 21 rfl) ?_
    obtain ⟨c3, h⟩ := mj_ck_some h
    refine mk_iald c3 (mj_dt dt_X9_lives 22 rfl) ?_
    refine mj_go_icmp_lt (tgt := 45) rfl (mj_dt dt_X9_lives 23 rfl) (fun b4 => ?_) (fun b4 => ?_)
    · rw [if_pos b4] at h
      refine mj_go_aload_n (k := 0) (x := 95) rfl (mj_dt dt_X9_lives 25 rfl) ?_
      refine mj_go_bipush (v := 10) rfl (mj_dt dt_X9_lives 26 rfl) ?_
      obtain ⟨r5, er5, h⟩ := mj_bind_some h
      refine ml_callV (Y' := mY_X9_draw) (as := [.int 10]) (rest := []) (c := 9) (v := (some (.int r5.1))) (M1 := (mj_fin r5.2)) ho_95 rfl lm_X9_325 wc_X9_draw pl_X9_draw ok_X9_draw rfl rfl (Nat.le_of_ble_eq_true rfl) (k_X9_draw (by omega) er5) (mj_dt dt_X9_lives 27 rfl) ?_
      refine mj_go_aload_n (k := 0) (x := 95) rfl (mj_dt dt_X9_lives 28 rfl) ?_
      refine mk_getI (c := 9) (k := 5) (Or.inl fd_9_5) (Or.inl fl_X9_16) ho_95 (mj_dt dt_X9_lives 29 rfl) ?_
      refine mj_go_icmp_ge (tgt := 62) rfl (mj_dt dt_X9_lives 30 rfl) (fun b6 => ?_) (fun b6 => ?_)
      · rw [if_pos b6] at h
        refine mj_go_iconst (v := 1) rfl (mj_dt dt_X9_lives 33 rfl) ?_
        refine mj_go_sub (lv' := [(0, .ref 95), (2, .int s.1), (3, .int s.2.1)]) (List.forall_mem_cons.mpr ⟨rfl, (List.forall_mem_cons.mpr ⟨rfl, (List.forall_mem_cons.mpr ⟨rfl, (fun _ h9 => absurd h9 List.not_mem_nil)⟩)⟩)⟩) ?_
        exact k_X9_lives_63 q_18 hδ h
      · rw [if_neg b6] at h
        refine mj_go_iconst (v := 0) rfl (mj_dt dt_X9_lives 31 rfl) ?_
        refine mj_go_goto (tgt := 63) rfl (mj_dt dt_X9_lives 32 rfl) ?_
        refine mj_go_sub (lv' := [(0, .ref 95), (2, .int s.1), (3, .int s.2.1)]) (List.forall_mem_cons.mpr ⟨rfl, (List.forall_mem_cons.mpr ⟨rfl, (List.forall_mem_cons.mpr ⟨rfl, (fun _ h9 => absurd h9 List.not_mem_nil)⟩)⟩)⟩) ?_
        exact k_X9_lives_63 q_18 hδ h
    · rw [if_neg b4] at h
      refine mj_go_goto (tgt := 207) rfl (mj_dt dt_X9_lives 24 rfl) ?_
      refine mj_go_sub (lv' := [(0, .ref 95), (2, .int s.1), (3, .int s.2.1)]) (List.forall_mem_cons.mpr ⟨rfl, (List.forall_mem_cons.mpr ⟨rfl, (List.forall_mem_cons.mpr ⟨rfl, (fun _ h9 => absurd h9 List.not_mem_nil)⟩)⟩)⟩) ?_
      exact k_X9_lives_207 q_18 hδ h
def f_X9_lives (N : Nat) (v1 : Int32) (m : mj_m) : Option (Int32 × mj_m) := (f_X9_rowBy N v1 m).bind (fun r1 => mj_mw (mj_wI r1 95 47 0) (fun m2 => (f_X9_builds N m2).bind (fun r3 => mj_lp N (f_X9_lives_18 N) (0, 0, r3))))
theorem k_X9_lives {L : Nat} {xs : Nat → Int32} {δ N : Nat} {v1 : Int32} {m : mj_m} (hδ : 7 ≤ δ) {a : Int32 × mj_m} (h : f_X9_lives N v1 m = some a) : mj_Cl (mj_EX L xs) δ mY_X9_lives [.ref 95, .int v1] (mj_fin m) (some (.int a.1), (mj_fin a.2)) := by
  obtain ⟨δ, rfl⟩ : ∃ d, δ = d + 1 := ⟨δ - 1, by omega⟩
  have hδ : 6 ≤ δ := by omega
  refine mj_cl_of ok_X9_lives (Nat.le_of_ble_eq_true rfl) ?_
  unfold f_X9_lives at h
  refine mj_go_aload_n (k := 0) (x := 95) rfl (mj_dt dt_X9_lives 0 rfl) ?_
  refine mj_go_iload_n (k := 1) (x := v1) rfl (mj_dt dt_X9_lives 1 rfl) ?_
  obtain ⟨r1, er1, h⟩ := mj_bind_some h
  refine ml_callV (Y' := mY_X9_rowBy) (as := [.int v1]) (rest := []) (c := 9) (v := none) (M1 := (mj_fin r1)) ho_95 rfl lm_X9_299 wc_X9_rowBy pl_X9_rowBy ok_X9_rowBy rfl rfl (Nat.le_of_ble_eq_true rfl) (k_X9_rowBy (by omega) er1) (mj_dt dt_X9_lives 2 rfl) ?_
  refine mj_go_aload_n (k := 0) (x := 95) rfl (mj_dt dt_X9_lives 3 rfl) ?_
  refine mj_go_iconst (v := 0) rfl (mj_dt dt_X9_lives 4 rfl) ?_
  obtain ⟨m2, em2, h⟩ := mj_mw_some h
  refine ml_putI (c := 9) (k := 47) fd_9_47 rfl fl_X9_284 ho_95 (mj_dt dt_X9_lives 5 rfl) ?_
  refine ml_eqm (M1 := (mj_fin m2)) (by rw [em2] <;> rfl) ?_
  refine mj_go_aload_n (k := 0) (x := 95) rfl (mj_dt dt_X9_lives 6 rfl) ?_
  obtain ⟨r3, er3, h⟩ := mj_bind_some h
  refine ml_callV (Y' := mY_X9_builds) (as := []) (rest := []) (c := 9) (v := none) (M1 := (mj_fin r3)) ho_95 rfl lm_X9_293 wc_X9_builds pl_X9_builds ok_X9_builds rfl rfl (Nat.le_of_ble_eq_true rfl) (k_X9_builds (by omega) er3) (mj_dt dt_X9_lives 7 rfl) ?_
  refine mj_go_iconst (v := 0) rfl (mj_dt dt_X9_lives 8 rfl) ?_
  refine mj_go_istore_n (k := 2) (by decide) (mj_dt dt_X9_lives 9 rfl) ?_
  refine mj_go_iconst (v := 0) rfl (mj_dt dt_X9_lives 10 rfl) ?_
  refine mj_go_istore_n (k := 3) (by decide) (mj_dt dt_X9_lives 11 rfl) ?_
  refine mj_go_sub (lv' := [(0, .ref 95), (2, .int 0), (3, .int 0)]) (List.forall_mem_cons.mpr ⟨rfl, (List.forall_mem_cons.mpr ⟨rfl, (List.forall_mem_cons.mpr ⟨rfl, (fun _ h9 => absurd h9 List.not_mem_nil)⟩)⟩)⟩) ?_
  exact k_X9_lives_18 hδ N _ _ h
def f_X9_years_38 (N : Nat) (v1 : Int32) (v2 : Int32) (k_38 : Int32 × Int32 × mj_m → Option (Int32 × mj_m)) (s : Int32 × Int32 × mj_m) : Option (Int32 × mj_m) := if v2 ≤ s.2.1 then (some (s.1, s.2.2)) else ((f_X9_lives N v1 s.2.2).bind (fun r2 => mj_mw (s.1 + r2.1) (fun x3 => mj_mw (s.2.1 + 1) (fun x4 => k_38 (x3, x4, r2.2)))))
theorem k_X9_years_38 {L : Nat} {xs : Nat → Int32} {δ N : Nat} {v1 : Int32} {v2 : Int32} (hδ : 7 ≤ δ) : ∀ (n : Nat) (s : Int32 × Int32 × mj_m) (a : Int32 × mj_m), mj_lp n (f_X9_years_38 N v1 v2) s = some a → mj_Go (mj_EX L xs) (δ + 1) mY_X9_years 38 [(0, .ref 95), (1, .int v1), (2, .int v2), (4, .int s.1), (5, .int s.2.1)] [] (mj_fin s.2.2) (some (.int a.1), (mj_fin a.2)) := by
  refine mj_lp_sound (fun k_38 s a q_38 h => ?_)
  unfold f_X9_years_38 at h
  refine mj_go_iload (i := 5) (x := s.2.1) rfl (mj_dt dt_X9_years 23 rfl) ?_
  refine mj_go_iload_n (k := 2) (x := v2) rfl (mj_dt dt_X9_years 24 rfl) ?_
  refine mj_go_icmp_ge (tgt := 60) rfl (mj_dt dt_X9_years 25 rfl) (fun b1 => ?_) (fun b1 => ?_)
  · rw [if_pos b1] at h
    refine mj_go_iload (i := 4) (x := s.1) rfl (mj_dt dt_X9_years 34 rfl) ?_
    obtain rfl := Option.some.inj h
    exact mj_go_ret (v := some (.int s.1)) (Nat.le_of_ble_eq_true rfl) (mj_retI (mj_dt dt_X9_years 35 rfl) rfl)
  · rw [if_neg b1] at h
    refine mj_go_iload (i := 4) (x := s.1) rfl (mj_dt dt_X9_years 26 rfl) ?_
    refine mj_go_aload_n (k := 0) (x := 95) rfl (mj_dt dt_X9_years 27 rfl) ?_
    refine mj_go_iload_n (k := 1) (x := v1) rfl (mj_dt dt_X9_years 28 rfl) ?_
    obtain ⟨r2, er2, h⟩ := mj_bind_some h
    refine ml_callV (Y' := mY_X9_lives) (as := [.int v1]) (rest := [.int s.1]) (c := 9) (v := (some (.int r2.1))) (M1 := (mj_fin r2.2)) ho_95 rfl lm_X9_328 wc_X9_lives pl_X9_lives ok_X9_lives rfl rfl (Nat.le_of_ble_eq_true rfl) (k_X9_lives (by omega) er2) (mj_dt dt_X9_years 29 rfl) ?_
    refine mj_go_iadd (mj_dt dt_X9_years 30 rfl) ?_
    obtain ⟨x3, ex3, h⟩ := mj_mw_some h
    refine ml_eqi ex3 ?_
    refine mj_go_istore (i := 4) (by decide) (mj_dt dt_X9_years 31 rfl) ?_
    obtain ⟨x4, ex4, h⟩ := mj_mw_some h
    refine mj_go_iinc (i := 5) (x := s.2.1) (v := x4) rfl (by rw [ex4] <;> rfl) (by decide) (mj_dt dt_X9_years 32 rfl) ?_
    refine mj_go_goto (tgt := 38) rfl (mj_dt dt_X9_years 33 rfl) ?_
    refine mj_go_sub (lv' := [(0, .ref 95), (1, .int v1), (2, .int v2), (4, .int x3), (5, .int x4)]) (List.forall_mem_cons.mpr ⟨rfl, (List.forall_mem_cons.mpr ⟨rfl, (List.forall_mem_cons.mpr ⟨rfl, (List.forall_mem_cons.mpr ⟨rfl, (List.forall_mem_cons.mpr ⟨rfl, (fun _ h9 => absurd h9 List.not_mem_nil)⟩)⟩)⟩)⟩)⟩) ?_
    exact q_38 _ _ h
def f_X9_years (N : Nat) (v1 : Int32) (v2 : Int32) (m : mj_m) : Option (Int32 × mj_m) := (f_X9_wants N v1 2 m).bind (fun r1 => if r1 = 0 then ((f_X9_isYears N v2 m).bind (fun r3 => if r3 = 0 then ((f_X9_no N (-6 : Int32) m).bind (fun r5 => some (r5.1, r5.2))) else (mj_lp N (f_X9_years_38 N v1 v2) (0, 0, m)))) else ((f_X9_no N r1 m).bind (fun r3 => some (r3.1, r3.2))))
theorem k_X9_years {L : Nat} {xs : Nat → Int32} {δ N : Nat} {v1 : Int32} {v2 : Int32} {m : mj_m} (hδ : 8 ≤ δ) {a : Int32 × mj_m} (h : f_X9_years N v1 v2 m = some a) : mj_Cl (mj_EX L xs) δ mY_X9_years [.ref 95, .int v1, .int v2] (mj_fin m) (some (.int a.1), (mj_fin a.2)) := by
  obtain ⟨δ, rfl⟩ : ∃ d, δ = d + 1 := ⟨δ - 1, by omega⟩
  have hδ : 7 ≤ δ := by omega
  refine mj_cl_of ok_X9_years (Nat.le_of_ble_eq_true rfl) ?_
  unfold f_X9_years at h
  refine mj_go_aload_n (k := 0) (x := 95) rfl (mj_dt dt_X9_years 0 rfl) ?_
  refine mj_go_iload_n (k := 1) (x := v1) rfl (mj_dt dt_X9_years 1 rfl) ?_
  refine mj_go_iconst (v := 2) rfl (mj_dt dt_X9_years 2 rfl) ?_
  obtain ⟨r1, er1, h⟩ := mj_bind_some h
  refine ml_callV (Y' := mY_X9_wants) (as := [.int v1, .int 2]) (rest := []) (c := 9) (v := (some (.int r1))) (M1 := (mj_fin m)) ho_95 rfl lm_X9_138 wc_X9_wants pl_X9_wants ok_X9_wants rfl rfl (Nat.le_of_ble_eq_true rfl) (k_X9_wants (by omega) er1) (mj_dt dt_X9_years 3 rfl) ?_
  refine mj_go_istore_n (k := 3) (by decide) (mj_dt dt_X9_years 4 rfl) ?_
  refine mj_go_iload_n (k := 3) (x := r1) rfl (mj_dt dt_X9_years 5 rfl) ?_
  refine mj_go_if_eq (tgt := 17) rfl (mj_dt dt_X9_years 6 rfl) (fun b2 => ?_) (fun b2 => ?_)
  · rw [if_pos b2] at h
    refine mj_go_aload_n (k := 0) (x := 95) rfl (mj_dt dt_X9_years 11 rfl) ?_
    refine mj_go_iload_n (k := 2) (x := v2) rfl (mj_dt dt_X9_years 12 rfl) ?_
    obtain ⟨r3, er3, h⟩ := mj_bind_some h
    refine ml_callV (Y' := mY_X9_isYears) (as := [.int v2]) (rest := []) (c := 9) (v := (some (.int r3))) (M1 := (mj_fin m)) ho_95 rfl lm_X9_296 wc_X9_isYears pl_X9_isYears ok_X9_isYears rfl rfl (Nat.le_of_ble_eq_true rfl) (k_X9_isYears (by omega) er3) (mj_dt dt_X9_years 13 rfl) ?_
    refine mj_go_if_ne (tgt := 32) rfl (mj_dt dt_X9_years 14 rfl) (fun b4 => ?_) (fun b4 => ?_)
    · rw [if_neg b4] at h
      refine mj_go_iconst (v := 0) rfl (mj_dt dt_X9_years 19 rfl) ?_
      refine mj_go_istore (i := 4) (by decide) (mj_dt dt_X9_years 20 rfl) ?_
      refine mj_go_iconst (v := 0) rfl (mj_dt dt_X9_years 21 rfl) ?_
      refine mj_go_istore (i := 5) (by decide) (mj_dt dt_X9_years 22 rfl) ?_
      refine mj_go_sub (lv' := [(0, .ref 95), (1, .int v1), (2, .int v2), (4, .int 0), (5, .int 0)]) (List.forall_mem_cons.mpr ⟨rfl, (List.forall_mem_cons.mpr ⟨rfl, (List.forall_mem_cons.mpr ⟨rfl, (List.forall_mem_cons.mpr ⟨rfl, (List.forall_mem_cons.mpr ⟨rfl, (fun _ h9 => absurd h9 List.not_mem_nil)⟩)⟩)⟩)⟩)⟩) ?_
      exact k_X9_years_38 hδ N _ _ h
    · rw [if_pos b4] at h
      refine mj_go_aload_n (k := 0) (x := 95) rfl (mj_dt dt_X9_years 15 rfl) ?_
      refine mj_go_bipush (v := -6) rfl (mj_dt dt_X9_years 16 rfl) ?_
      obtain ⟨r5, er5, h⟩ := mj_bind_some h
      refine ml_callV (Y' := mY_X9_no) (as := [.int (-6 : Int32)]) (rest := []) (c := 9) (v := (some (.int r5.1))) (M1 := (mj_fin r5.2)) ho_95 rfl lm_X9_134 wc_X9_no pl_X9_no ok_X9_no rfl rfl (Nat.le_of_ble_eq_true rfl) (k_X9_no (by omega) er5) (mj_dt dt_X9_years 17 rfl) ?_
      obtain rfl := Option.some.inj h
      exact mj_go_ret (v := some (.int r5.1)) (Nat.le_of_ble_eq_true rfl) (mj_retI (mj_dt dt_X9_years 18 rfl) rfl)
  · rw [if_neg b2] at h
    refine mj_go_aload_n (k := 0) (x := 95) rfl (mj_dt dt_X9_years 7 rfl) ?_
    refine mj_go_iload_n (k := 3) (x := r1) rfl (mj_dt dt_X9_years 8 rfl) ?_
    obtain ⟨r3, er3, h⟩ := mj_bind_some h
    refine ml_callV (Y' := mY_X9_no) (as := [.int r1]) (rest := []) (c := 9) (v := (some (.int r3.1))) (M1 := (mj_fin r3.2)) ho_95 rfl lm_X9_134 wc_X9_no pl_X9_no ok_X9_no rfl rfl (Nat.le_of_ble_eq_true rfl) (k_X9_no (by omega) er3) (mj_dt dt_X9_years 9 rfl) ?_
    obtain rfl := Option.some.inj h
    exact mj_go_ret (v := some (.int r3.1)) (Nat.le_of_ble_eq_true rfl) (mj_retI (mj_dt dt_X9_years 10 rfl) rfl)
def f_X8_seed (N : Nat) (v1 : Int32) (m : mj_m) : Option (Int32 × mj_m) := mj_mw (m.1 1 15) (fun x1 => mj_mw (mj_wI m 1 15 v1) (fun m2 => some (x1, m2)))
theorem k_X8_seed {L : Nat} {xs : Nat → Int32} {δ N : Nat} {v1 : Int32} {m : mj_m} (_ : 0 ≤ δ) {a : Int32 × mj_m} (h : f_X8_seed N v1 m = some a) : mj_Cl (mj_EX L xs) δ mY_X8_seed [.ref 0, .int v1] (mj_fin m) (some (.int a.1), (mj_fin a.2)) := by
  refine mj_cl_of ok_X8_seed (Nat.le_of_ble_eq_true rfl) ?_
  unfold f_X8_seed at h
  refine mj_go_aload_n (k := 0) (x := 0) rfl (mj_dt dt_X8_seed 0 rfl) ?_
  refine ml_getR (c := 8) (k := 0) (q := 1) fd_8_0 rf_0_0 (Or.inl fl_X8_12) ho_0 (mj_dt dt_X8_seed 1 rfl) ?_
  refine mk_getI (c := 7) (k := 15) (Or.inl fd_7_15) (Or.inl fl_X8_339) ho_1 (mj_dt dt_X8_seed 2 rfl) ?_
  obtain ⟨x1, ex1, h⟩ := mj_mw_some h
  refine ml_eqi ex1 ?_
  refine mj_go_istore_n (k := 2) (by decide) (mj_dt dt_X8_seed 3 rfl) ?_
  refine mj_go_aload_n (k := 0) (x := 0) rfl (mj_dt dt_X8_seed 4 rfl) ?_
  refine ml_getR (c := 8) (k := 0) (q := 1) fd_8_0 rf_0_0 (Or.inl fl_X8_12) ho_0 (mj_dt dt_X8_seed 5 rfl) ?_
  refine mj_go_iload_n (k := 1) (x := v1) rfl (mj_dt dt_X8_seed 6 rfl) ?_
  obtain ⟨m2, em2, h⟩ := mj_mw_some h
  refine ml_putI (c := 7) (k := 15) fd_7_15 rfl fl_X8_339 ho_1 (mj_dt dt_X8_seed 7 rfl) ?_
  refine ml_eqm (M1 := (mj_fin m2)) (by rw [em2] <;> rfl) ?_
  refine mj_go_iload_n (k := 2) (x := x1) rfl (mj_dt dt_X8_seed 8 rfl) ?_
  obtain rfl := Option.some.inj h
  exact mj_go_ret (v := some (.int x1)) (Nat.le_of_ble_eq_true rfl) (mj_retI (mj_dt dt_X8_seed 9 rfl) rfl)
def f_X9_seed (N : Nat) (v1 : Int32) (m : mj_m) : Option (Int32 × mj_m) := mj_mw (m.1 95 9) (fun x1 => mj_mw (mj_wI m 95 9 v1) (fun m2 => some (x1, m2)))
theorem k_X9_seed {L : Nat} {xs : Nat → Int32} {δ N : Nat} {v1 : Int32} {m : mj_m} (_ : 0 ≤ δ) {a : Int32 × mj_m} (h : f_X9_seed N v1 m = some a) : mj_Cl (mj_EX L xs) δ mY_X9_seed [.ref 95, .int v1] (mj_fin m) (some (.int a.1), (mj_fin a.2)) := by
  refine mj_cl_of ok_X9_seed (Nat.le_of_ble_eq_true rfl) ?_
  unfold f_X9_seed at h
  refine mj_go_aload_n (k := 0) (x := 95) rfl (mj_dt dt_X9_seed 0 rfl) ?_
  refine mk_getI (c := 9) (k := 9) (Or.inl fd_9_9) (Or.inl fl_X9_19) ho_95 (mj_dt dt_X9_seed 1 rfl) ?_
  obtain ⟨x1, ex1, h⟩ := mj_mw_some h
  refine ml_eqi ex1 ?_
  refine mj_go_istore_n (k := 2) (by decide) (mj_dt dt_X9_seed 2 rfl) ?_
  refine mj_go_aload_n (k := 0) (x := 95) rfl (mj_dt dt_X9_seed 3 rfl) ?_
  refine mj_go_iload_n (k := 1) (x := v1) rfl (mj_dt dt_X9_seed 4 rfl) ?_
  obtain ⟨m2, em2, h⟩ := mj_mw_some h
  refine ml_putI (c := 9) (k := 9) fd_9_9 rfl fl_X9_19 ho_95 (mj_dt dt_X9_seed 5 rfl) ?_
  refine ml_eqm (M1 := (mj_fin m2)) (by rw [em2] <;> rfl) ?_
  refine mj_go_iload_n (k := 2) (x := x1) rfl (mj_dt dt_X9_seed 6 rfl) ?_
  obtain rfl := Option.some.inj h
  exact mj_go_ret (v := some (.int x1)) (Nat.le_of_ble_eq_true rfl) (mj_retI (mj_dt dt_X9_seed 7 rfl) rfl)
def f_X0_forget (N : Nat) (m : mj_m) : Option (mj_m) := mj_mw (mj_wI m 75 1 0) (fun m1 => some m1)
theorem k_X0_forget {L : Nat} {xs : Nat → Int32} {δ N : Nat} {m : mj_m} (_ : 0 ≤ δ) {a : mj_m} (h : f_X0_forget N m = some a) : mj_Cl (mj_EX L xs) δ mY_X0_forget [.ref 75] (mj_fin m) (none, (mj_fin a)) := by
  refine mj_cl_of ok_X0_forget (Nat.le_of_ble_eq_true rfl) ?_
  unfold f_X0_forget at h
  refine mj_go_aload_n (k := 0) (x := 75) rfl (mj_dt dt_X0_forget 0 rfl) ?_
  refine mj_go_iconst (v := 0) rfl (mj_dt dt_X0_forget 1 rfl) ?_
  obtain ⟨m1, em1, h⟩ := mj_mw_some h
  refine ml_putI (c := 0) (k := 1) fd_0_1 rfl fl_X0_15 ho_75 (mj_dt dt_X0_forget 2 rfl) ?_
  refine ml_eqm (M1 := (mj_fin m1)) (by rw [em1] <;> rfl) ?_
  obtain rfl := Option.some.inj h
  exact mj_go_ret (v := none) (Nat.le_of_ble_eq_true rfl) (mj_retV (mj_dt dt_X0_forget 3 rfl) rfl)
def f_X0_begin_19 (N : Nat) (m : mj_m) : Option (mj_m) := mj_mw (mj_wI m 75 1 ((m.1 75 1) + 1)) (fun m1 => some m1)
theorem k_X0_begin_19 {L : Nat} {xs : Nat → Int32} {δ N : Nat} {m : mj_m} {a : mj_m} (h : f_X0_begin_19 N m = some a) : mj_Go (mj_EX L xs) δ mY_X0_begin 19 [(0, .ref 75)] [] (mj_fin m) (none, (mj_fin a)) := by
  unfold f_X0_begin_19 at h
  refine mj_go_aload_n (k := 0) (x := 75) rfl (mj_dt dt_X0_begin 10 rfl) ?_
  refine mj_go_dup rfl (mj_dt dt_X0_begin 11 rfl) ?_
  refine mk_getI (c := 0) (k := 1) (Or.inl fd_0_1) (Or.inl fl_X0_15) ho_75 (mj_dt dt_X0_begin 12 rfl) ?_
  refine mj_go_iconst (v := 1) rfl (mj_dt dt_X0_begin 13 rfl) ?_
  refine mj_go_iadd (mj_dt dt_X0_begin 14 rfl) ?_
  obtain ⟨m1, em1, h⟩ := mj_mw_some h
  refine ml_putI (c := 0) (k := 1) fd_0_1 rfl fl_X0_15 ho_75 (mj_dt dt_X0_begin 15 rfl) ?_
  refine ml_eqm (M1 := (mj_fin m1)) (by rw [em1] <;> rfl) ?_
  obtain rfl := Option.some.inj h
  exact mj_go_ret (v := none) (Nat.le_of_ble_eq_true rfl) (mj_retV (mj_dt dt_X0_begin 16 rfl) rfl)
def f_X0_begin (N : Nat) (v1 : Int32) (m : mj_m) : Option (mj_m) := if 20 ≤ (m.1 75 1) then f_X0_begin_19 N m else (mj_ck (mj_b 0 76 (m.1 75 1)) ( mj_mw (mj_wI m 76 ((m.1 75 1).toNatClampNeg) v1) (fun m3 => f_X0_begin_19 N m3)))
theorem k_X0_begin {L : Nat} {xs : Nat → Int32} {δ N : Nat} {v1 : Int32} {m : mj_m} (_ : 0 ≤ δ) {a : mj_m} (h : f_X0_begin N v1 m = some a) : mj_Cl (mj_EX L xs) δ mY_X0_begin [.ref 75, .int v1] (mj_fin m) (none, (mj_fin a)) := by
  refine mj_cl_of ok_X0_begin (Nat.le_of_ble_eq_true rfl) ?_
  unfold f_X0_begin at h
  refine mj_go_aload_n (k := 0) (x := 75) rfl (mj_dt dt_X0_begin 0 rfl) ?_
  refine mk_getI (c := 0) (k := 1) (Or.inl fd_0_1) (Or.inl fl_X0_15) ho_75 (mj_dt dt_X0_begin 1 rfl) ?_
  refine mj_go_bipush (v := 20) rfl (mj_dt dt_X0_begin 2 rfl) ?_
  refine mj_go_icmp_ge (tgt := 19) rfl (mj_dt dt_X0_begin 3 rfl) (fun b1 => ?_) (fun b1 => ?_)
  · rw [if_pos b1] at h
    refine mj_go_sub (lv' := [(0, .ref 75)]) (List.forall_mem_cons.mpr ⟨rfl, (fun _ h9 => absurd h9 List.not_mem_nil)⟩) ?_
    exact k_X0_begin_19 h
  · rw [if_neg b1] at h
    refine mj_go_aload_n (k := 0) (x := 75) rfl (mj_dt dt_X0_begin 4 rfl) ?_
    refine ml_getR (c := 0) (k := 0) (q := 76) fd_0_0 rf_75_0 (Or.inl fl_X0_11) ho_75 (mj_dt dt_X0_begin 5 rfl) ?_
    refine mj_go_aload_n (k := 0) (x := 75) rfl (mj_dt dt_X0_begin 6 rfl) ?_
    refine mk_getI (c := 0) (k := 1) (Or.inl fd_0_1) (Or.inl fl_X0_15) ho_75 (mj_dt dt_X0_begin 7 rfl) ?_
    refine mj_go_iload_n (k := 1) (x := v1) rfl (mj_dt dt_X0_begin 8 rfl) ?_
    obtain ⟨c2, h⟩ := mj_ck_some h
    obtain ⟨m3, em3, h⟩ := mj_mw_some h
    refine ml_iast c2 (mj_dt dt_X0_begin 9 rfl) ?_
    refine ml_eqm (M1 := (mj_fin m3)) (by rw [em3] <;> rfl) ?_
    refine mj_go_sub (lv' := [(0, .ref 75)]) (List.forall_mem_cons.mpr ⟨rfl, (fun _ h9 => absurd h9 List.not_mem_nil)⟩) ?_
    exact k_X0_begin_19 h
def f_X0_ordersFrom_b (N : Nat) (rc : Int32 → Int32 → mj_m → Option (Int32 × mj_m)) (v1 : Int32) (v2 : Int32) (m : mj_m) : Option (Int32 × mj_m) := if v1 = 1 then ((f_X0_begin N 20 m).bind (fun r2 => (rc 0 v2 r2).bind (fun r3 => some (r3.1 + (r3.2.1 75 4), r3.2)))) else if v1 = 3 then ((f_X0_begin N 30 m).bind (fun r3 => (rc 1 (v2 + 1) r3).bind (fun r4 => some (r4.1, r4.2)))) else ((f_X0_begin N 10 m).bind (fun r3 => some (v2 + (r3.1 75 3), r3)))
theorem k_X0_ordersFrom_b {L : Nat} {xs : Nat → Int32} {δ N : Nat} {rc : Int32 → Int32 → mj_m → Option (Int32 × mj_m)} (hrc : ∀ v1_ v2_ m_ a_, rc v1_ v2_ m_ = some a_ → mj_Cl (mj_EX L xs) δ mY_X0_ordersFrom [.ref 75, .int v1_, .int v2_] (mj_fin m_) (some (.int a_.1), (mj_fin a_.2))) {v1 : Int32} {v2 : Int32} {m : mj_m} (hδ : 0 ≤ δ) {a : Int32 × mj_m} (h : f_X0_ordersFrom_b N rc v1 v2 m = some a) : mj_Cl (mj_EX L xs) (δ + 1) mY_X0_ordersFrom [.ref 75, .int v1, .int v2] (mj_fin m) (some (.int a.1), (mj_fin a.2)) := by
  refine mj_cl_of ok_X0_ordersFrom (Nat.le_of_ble_eq_true rfl) ?_
  unfold f_X0_ordersFrom_b at h
  refine mj_go_iload_n (k := 1) (x := v1) rfl (mj_dt dt_X0_ordersFrom 0 rfl) ?_
  refine mj_go_lsw [(1, 42), (3, 27)] rfl rfl (mj_dt dt_X0_ordersFrom 1 rfl) ?_
  refine ⟨fun b1 => ?_, fun b1 => ?_⟩
  · rw [if_pos b1] at h
    refine ⟨43, by decide, ?_⟩
    refine mj_go_aload_n (k := 0) (x := 75) rfl (mj_dt dt_X0_ordersFrom 12 rfl) ?_
    refine mj_go_bipush (v := 20) rfl (mj_dt dt_X0_ordersFrom 13 rfl) ?_
    obtain ⟨r2, er2, h⟩ := mj_bind_some h
    refine ml_callV (Y' := mY_X0_begin) (as := [.int 20]) (rest := []) (c := 0) (v := none) (M1 := (mj_fin r2)) ho_75 rfl lm_X0_46 wc_X0_begin pl_X0_begin ok_X0_begin rfl rfl (Nat.le_of_ble_eq_true rfl) (k_X0_begin (by omega) er2) (mj_dt dt_X0_ordersFrom 14 rfl) ?_
    refine mj_go_aload_n (k := 0) (x := 75) rfl (mj_dt dt_X0_ordersFrom 15 rfl) ?_
    refine mj_go_iconst (v := 0) rfl (mj_dt dt_X0_ordersFrom 16 rfl) ?_
    refine mj_go_iload_n (k := 2) (x := v2) rfl (mj_dt dt_X0_ordersFrom 17 rfl) ?_
    obtain ⟨r3, er3, h⟩ := mj_bind_some h
    refine ml_callV (Y' := mY_X0_ordersFrom) (as := [.int 0, .int v2]) (rest := []) (c := 0) (v := (some (.int r3.1))) (M1 := (mj_fin r3.2)) ho_75 rfl lm_X0_36 wc_X0_ordersFrom pl_X0_ordersFrom ok_X0_ordersFrom rfl rfl (Nat.le_of_ble_eq_true rfl) (hrc _ _ _ _ er3) (mj_dt dt_X0_ordersFrom 18 rfl) ?_
    refine mj_go_aload_n (k := 0) (x := 75) rfl (mj_dt dt_X0_ordersFrom 19 rfl) ?_
    refine mk_getI (c := 0) (k := 4) (Or.inl fd_0_4) (Or.inl fl_X0_25) ho_75 (mj_dt dt_X0_ordersFrom 20 rfl) ?_
    refine mj_go_iadd (mj_dt dt_X0_ordersFrom 21 rfl) ?_
    obtain rfl := Option.some.inj h
    exact mj_go_ret (v := some (.int (r3.1 + (r3.2.1 75 4)))) (Nat.le_of_ble_eq_true rfl) (mj_retI (mj_dt dt_X0_ordersFrom 22 rfl) rfl)
  · rw [if_neg b1] at h
    refine ⟨fun b2 => ?_, fun b2 => ?_⟩
    · rw [if_pos b2] at h
      refine ⟨28, by decide, ?_⟩
      refine mj_go_aload_n (k := 0) (x := 75) rfl (mj_dt dt_X0_ordersFrom 2 rfl) ?_
      refine mj_go_bipush (v := 30) rfl (mj_dt dt_X0_ordersFrom 3 rfl) ?_
      obtain ⟨r3, er3, h⟩ := mj_bind_some h
      refine ml_callV (Y' := mY_X0_begin) (as := [.int 30]) (rest := []) (c := 0) (v := none) (M1 := (mj_fin r3)) ho_75 rfl lm_X0_46 wc_X0_begin pl_X0_begin ok_X0_begin rfl rfl (Nat.le_of_ble_eq_true rfl) (k_X0_begin (by omega) er3) (mj_dt dt_X0_ordersFrom 4 rfl) ?_
      refine mj_go_aload_n (k := 0) (x := 75) rfl (mj_dt dt_X0_ordersFrom 5 rfl) ?_
      refine mj_go_iconst (v := 1) rfl (mj_dt dt_X0_ordersFrom 6 rfl) ?_
      refine mj_go_iload_n (k := 2) (x := v2) rfl (mj_dt dt_X0_ordersFrom 7 rfl) ?_
      refine mj_go_iconst (v := 1) rfl (mj_dt dt_X0_ordersFrom 8 rfl) ?_
      refine mj_go_iadd (mj_dt dt_X0_ordersFrom 9 rfl) ?_
      obtain ⟨r4, er4, h⟩ := mj_bind_some h
      refine ml_callV (Y' := mY_X0_ordersFrom) (as := [.int 1, .int (v2 + 1)]) (rest := []) (c := 0) (v := (some (.int r4.1))) (M1 := (mj_fin r4.2)) ho_75 rfl lm_X0_36 wc_X0_ordersFrom pl_X0_ordersFrom ok_X0_ordersFrom rfl rfl (Nat.le_of_ble_eq_true rfl) (hrc _ _ _ _ er4) (mj_dt dt_X0_ordersFrom 10 rfl) ?_
      obtain rfl := Option.some.inj h
      exact mj_go_ret (v := some (.int r4.1)) (Nat.le_of_ble_eq_true rfl) (mj_retI (mj_dt dt_X0_ordersFrom 11 rfl) rfl)
    · rw [if_neg b2] at h
      refine ⟨61, by decide, ?_⟩
      refine mj_go_aload_n (k := 0) (x := 75) rfl (mj_dt dt_X0_ordersFrom 23 rfl) ?_
      refine mj_go_bipush (v := 10) rfl (mj_dt dt_X0_ordersFrom 24 rfl) ?_
      obtain ⟨r3, er3, h⟩ := mj_bind_some h
      refine ml_callV (Y' := mY_X0_begin) (as := [.int 10]) (rest := []) (c := 0) (v := none) (M1 := (mj_fin r3)) ho_75 rfl lm_X0_46 wc_X0_begin pl_X0_begin ok_X0_begin rfl rfl (Nat.le_of_ble_eq_true rfl) (k_X0_begin (by omega) er3) (mj_dt dt_X0_ordersFrom 25 rfl) ?_
      refine mj_go_iload_n (k := 2) (x := v2) rfl (mj_dt dt_X0_ordersFrom 26 rfl) ?_
      refine mj_go_aload_n (k := 0) (x := 75) rfl (mj_dt dt_X0_ordersFrom 27 rfl) ?_
      refine mk_getI (c := 0) (k := 3) (Or.inl fd_0_3) (Or.inl fl_X0_22) ho_75 (mj_dt dt_X0_ordersFrom 28 rfl) ?_
      refine mj_go_iadd (mj_dt dt_X0_ordersFrom 29 rfl) ?_
      obtain rfl := Option.some.inj h
      exact mj_go_ret (v := some (.int (v2 + (r3.1 75 3)))) (Nat.le_of_ble_eq_true rfl) (mj_retI (mj_dt dt_X0_ordersFrom 30 rfl) rfl)
def f_X0_ordersFrom (N : Nat) : Nat → Int32 → Int32 → mj_m → Option (Int32 × mj_m)
  | 0, _, _, _ => none
  | d + 1, v1, v2, m => f_X0_ordersFrom_b N (f_X0_ordersFrom N d) v1 v2 m
theorem k_X0_ordersFrom {L : Nat} {xs : Nat → Int32} {N : Nat} : ∀ (d δ : Nat) {v1 : Int32} {v2 : Int32} {m : mj_m} {a : Int32 × mj_m}, d + 0 ≤ δ → f_X0_ordersFrom N d v1 v2 m = some a → mj_Cl (mj_EX L xs) δ mY_X0_ordersFrom [.ref 75, .int v1, .int v2] (mj_fin m) (some (.int a.1), (mj_fin a.2)) := by
  intro d
  induction d with
  | zero => intro δ v1 v2 m a _ h; cases h
  | succ d ih =>
    intro δ v1 v2 m a hd h
    obtain ⟨δ, rfl⟩ : ∃ d, δ = d + 1 := ⟨δ - 1, by omega⟩
    exact k_X0_ordersFrom_b (rc := f_X0_ordersFrom N d) (fun _ _ _ _ h9 => ih δ (by omega) h9) (by omega) h
def f_X0_costsFrom_83 (N : Nat) (rc : Int32 → Int32 → mj_m → Option (Int32 × mj_m)) (v2 : Int32) (m : mj_m) : Option (Int32 × mj_m) := (f_X0_begin N 11 m).bind (fun r1 => (f_X0_ordersFrom N 8 (r1.1 75 2) v2 r1).bind (fun r2 => some (r2.1 * 2, r2.2)))
theorem k_X0_costsFrom_83 {L : Nat} {xs : Nat → Int32} {δ N : Nat} {rc : Int32 → Int32 → mj_m → Option (Int32 × mj_m)} (hrc : ∀ v1_ v2_ m_ a_, rc v1_ v2_ m_ = some a_ → mj_Cl (mj_EX L xs) δ mY_X0_costsFrom [.ref 75, .int v1_, .int v2_] (mj_fin m_) (some (.int a_.1), (mj_fin a_.2))) {v2 : Int32} {m : mj_m} (hδ : 8 ≤ δ) {a : Int32 × mj_m} (h : f_X0_costsFrom_83 N rc v2 m = some a) : mj_Go (mj_EX L xs) (δ + 1) mY_X0_costsFrom 83 [(0, .ref 75), (2, .int v2)] [] (mj_fin m) (some (.int a.1), (mj_fin a.2)) := by
  unfold f_X0_costsFrom_83 at h
  refine mj_go_aload_n (k := 0) (x := 75) rfl (mj_dt dt_X0_costsFrom 32 rfl) ?_
  refine mj_go_bipush (v := 11) rfl (mj_dt dt_X0_costsFrom 33 rfl) ?_
  obtain ⟨r1, er1, h⟩ := mj_bind_some h
  refine ml_callV (Y' := mY_X0_begin) (as := [.int 11]) (rest := []) (c := 0) (v := none) (M1 := (mj_fin r1)) ho_75 rfl lm_X0_46 wc_X0_begin pl_X0_begin ok_X0_begin rfl rfl (Nat.le_of_ble_eq_true rfl) (k_X0_begin (by omega) er1) (mj_dt dt_X0_costsFrom 34 rfl) ?_
  refine mj_go_aload_n (k := 0) (x := 75) rfl (mj_dt dt_X0_costsFrom 35 rfl) ?_
  refine mj_go_aload_n (k := 0) (x := 75) rfl (mj_dt dt_X0_costsFrom 36 rfl) ?_
  refine mk_getI (c := 0) (k := 2) (Or.inl fd_0_2) (Or.inl fl_X0_19) ho_75 (mj_dt dt_X0_costsFrom 37 rfl) ?_
  refine mj_go_iload_n (k := 2) (x := v2) rfl (mj_dt dt_X0_costsFrom 38 rfl) ?_
  obtain ⟨r2, er2, h⟩ := mj_bind_some h
  refine ml_callV (Y' := mY_X0_ordersFrom) (as := [.int (r1.1 75 2), .int v2]) (rest := []) (c := 0) (v := (some (.int r2.1))) (M1 := (mj_fin r2.2)) ho_75 rfl lm_X0_36 wc_X0_ordersFrom pl_X0_ordersFrom ok_X0_ordersFrom rfl rfl (Nat.le_of_ble_eq_true rfl) (k_X0_ordersFrom 8 _ (by omega) er2) (mj_dt dt_X0_costsFrom 39 rfl) ?_
  refine mj_go_iconst (v := 2) rfl (mj_dt dt_X0_costsFrom 40 rfl) ?_
  refine mj_go_imul (mj_dt dt_X0_costsFrom 41 rfl) ?_
  obtain rfl := Option.some.inj h
  exact mj_go_ret (v := some (.int (r2.1 * 2))) (Nat.le_of_ble_eq_true rfl) (mj_retI (mj_dt dt_X0_costsFrom 42 rfl) rfl)
def f_X0_costsFrom_b (N : Nat) (rc : Int32 → Int32 → mj_m → Option (Int32 × mj_m)) (v1 : Int32) (v2 : Int32) (m : mj_m) : Option (Int32 × mj_m) := if v1 = 2 then ((f_X0_begin N 40 m).bind (fun r2 => (rc 0 v2 r2).bind (fun r3 => some (r3.1 * 3, r3.2)))) else if v1 = 3 then f_X0_costsFrom_83 N rc v2 m else if v1 = 4 then f_X0_costsFrom_83 N rc v2 m else if v1 = 5 then ((f_X0_begin N 50 m).bind (fun r5 => (rc 2 v2 r5).bind (fun r6 => some (-r6.1, r6.2)))) else if v1 = 6 then ((f_X0_begin N 71 m).bind (fun r6 => (rc 0 (v2 - (r6.1 75 4)) r6).bind (fun r7 => some (r7.1, r7.2)))) else f_X0_costsFrom_83 N rc v2 m
theorem k_X0_costsFrom_b {L : Nat} {xs : Nat → Int32} {δ N : Nat} {rc : Int32 → Int32 → mj_m → Option (Int32 × mj_m)} (hrc : ∀ v1_ v2_ m_ a_, rc v1_ v2_ m_ = some a_ → mj_Cl (mj_EX L xs) δ mY_X0_costsFrom [.ref 75, .int v1_, .int v2_] (mj_fin m_) (some (.int a_.1), (mj_fin a_.2))) {v1 : Int32} {v2 : Int32} {m : mj_m} (hδ : 8 ≤ δ) {a : Int32 × mj_m} (h : f_X0_costsFrom_b N rc v1 v2 m = some a) : mj_Cl (mj_EX L xs) (δ + 1) mY_X0_costsFrom [.ref 75, .int v1, .int v2] (mj_fin m) (some (.int a.1), (mj_fin a.2)) := by
  refine mj_cl_of ok_X0_costsFrom (Nat.le_of_ble_eq_true rfl) ?_
  unfold f_X0_costsFrom_b at h
  refine mj_go_iload_n (k := 1) (x := v1) rfl (mj_dt dt_X0_costsFrom 0 rfl) ?_
  refine mj_go_tsw [(2, 49), (3, 82), (4, 82), (5, 35), (6, 64)] (by decide) (by decide) (mj_dt dt_X0_costsFrom 1 rfl) ?_
  refine ⟨fun b1 => ?_, fun b1 => ?_⟩
  · rw [if_pos b1] at h
    refine ⟨50, by decide, ?_⟩
    refine mj_go_aload_n (k := 0) (x := 75) rfl (mj_dt dt_X0_costsFrom 11 rfl) ?_
    refine mj_go_bipush (v := 40) rfl (mj_dt dt_X0_costsFrom 12 rfl) ?_
    obtain ⟨r2, er2, h⟩ := mj_bind_some h
    refine ml_callV (Y' := mY_X0_begin) (as := [.int 40]) (rest := []) (c := 0) (v := none) (M1 := (mj_fin r2)) ho_75 rfl lm_X0_46 wc_X0_begin pl_X0_begin ok_X0_begin rfl rfl (Nat.le_of_ble_eq_true rfl) (k_X0_begin (by omega) er2) (mj_dt dt_X0_costsFrom 13 rfl) ?_
    refine mj_go_aload_n (k := 0) (x := 75) rfl (mj_dt dt_X0_costsFrom 14 rfl) ?_
    refine mj_go_iconst (v := 0) rfl (mj_dt dt_X0_costsFrom 15 rfl) ?_
    refine mj_go_iload_n (k := 2) (x := v2) rfl (mj_dt dt_X0_costsFrom 16 rfl) ?_
    obtain ⟨r3, er3, h⟩ := mj_bind_some h
    refine ml_callV (Y' := mY_X0_costsFrom) (as := [.int 0, .int v2]) (rest := []) (c := 0) (v := (some (.int r3.1))) (M1 := (mj_fin r3.2)) ho_75 rfl lm_X0_40 wc_X0_costsFrom pl_X0_costsFrom ok_X0_costsFrom rfl rfl (Nat.le_of_ble_eq_true rfl) (hrc _ _ _ _ er3) (mj_dt dt_X0_costsFrom 17 rfl) ?_
    refine mj_go_iconst (v := 3) rfl (mj_dt dt_X0_costsFrom 18 rfl) ?_
    refine mj_go_imul (mj_dt dt_X0_costsFrom 19 rfl) ?_
    obtain rfl := Option.some.inj h
    exact mj_go_ret (v := some (.int (r3.1 * 3))) (Nat.le_of_ble_eq_true rfl) (mj_retI (mj_dt dt_X0_costsFrom 20 rfl) rfl)
  · rw [if_neg b1] at h
    refine ⟨fun b2 => ?_, fun b2 => ?_⟩
    · rw [if_pos b2] at h
      refine ⟨83, by decide, ?_⟩
      refine mj_go_sub (lv' := [(0, .ref 75), (2, .int v2)]) (List.forall_mem_cons.mpr ⟨rfl, (List.forall_mem_cons.mpr ⟨rfl, (fun _ h9 => absurd h9 List.not_mem_nil)⟩)⟩) ?_
      exact k_X0_costsFrom_83 hrc hδ h
    · rw [if_neg b2] at h
      refine ⟨fun b3 => ?_, fun b3 => ?_⟩
      · rw [if_pos b3] at h
        refine ⟨83, by decide, ?_⟩
        refine mj_go_sub (lv' := [(0, .ref 75), (2, .int v2)]) (List.forall_mem_cons.mpr ⟨rfl, (List.forall_mem_cons.mpr ⟨rfl, (fun _ h9 => absurd h9 List.not_mem_nil)⟩)⟩) ?_
        exact k_X0_costsFrom_83 hrc hδ h
      · rw [if_neg b3] at h
        refine ⟨fun b4 => ?_, fun b4 => ?_⟩
        · rw [if_pos b4] at h
          refine ⟨36, by decide, ?_⟩
          refine mj_go_aload_n (k := 0) (x := 75) rfl (mj_dt dt_X0_costsFrom 2 rfl) ?_
          refine mj_go_bipush (v := 50) rfl (mj_dt dt_X0_costsFrom 3 rfl) ?_
          obtain ⟨r5, er5, h⟩ := mj_bind_some h
          refine ml_callV (Y' := mY_X0_begin) (as := [.int 50]) (rest := []) (c := 0) (v := none) (M1 := (mj_fin r5)) ho_75 rfl lm_X0_46 wc_X0_begin pl_X0_begin ok_X0_begin rfl rfl (Nat.le_of_ble_eq_true rfl) (k_X0_begin (by omega) er5) (mj_dt dt_X0_costsFrom 4 rfl) ?_
          refine mj_go_aload_n (k := 0) (x := 75) rfl (mj_dt dt_X0_costsFrom 5 rfl) ?_
          refine mj_go_iconst (v := 2) rfl (mj_dt dt_X0_costsFrom 6 rfl) ?_
          refine mj_go_iload_n (k := 2) (x := v2) rfl (mj_dt dt_X0_costsFrom 7 rfl) ?_
          obtain ⟨r6, er6, h⟩ := mj_bind_some h
          refine ml_callV (Y' := mY_X0_costsFrom) (as := [.int 2, .int v2]) (rest := []) (c := 0) (v := (some (.int r6.1))) (M1 := (mj_fin r6.2)) ho_75 rfl lm_X0_40 wc_X0_costsFrom pl_X0_costsFrom ok_X0_costsFrom rfl rfl (Nat.le_of_ble_eq_true rfl) (hrc _ _ _ _ er6) (mj_dt dt_X0_costsFrom 8 rfl) ?_
          refine mj_go_ineg (mj_dt dt_X0_costsFrom 9 rfl) ?_
          obtain rfl := Option.some.inj h
          exact mj_go_ret (v := some (.int (-r6.1))) (Nat.le_of_ble_eq_true rfl) (mj_retI (mj_dt dt_X0_costsFrom 10 rfl) rfl)
        · rw [if_neg b4] at h
          refine ⟨fun b5 => ?_, fun b5 => ?_⟩
          · rw [if_pos b5] at h
            refine ⟨65, by decide, ?_⟩
            refine mj_go_aload_n (k := 0) (x := 75) rfl (mj_dt dt_X0_costsFrom 21 rfl) ?_
            refine mj_go_bipush (v := 71) rfl (mj_dt dt_X0_costsFrom 22 rfl) ?_
            obtain ⟨r6, er6, h⟩ := mj_bind_some h
            refine ml_callV (Y' := mY_X0_begin) (as := [.int 71]) (rest := []) (c := 0) (v := none) (M1 := (mj_fin r6)) ho_75 rfl lm_X0_46 wc_X0_begin pl_X0_begin ok_X0_begin rfl rfl (Nat.le_of_ble_eq_true rfl) (k_X0_begin (by omega) er6) (mj_dt dt_X0_costsFrom 23 rfl) ?_
            refine mj_go_aload_n (k := 0) (x := 75) rfl (mj_dt dt_X0_costsFrom 24 rfl) ?_
            refine mj_go_iconst (v := 0) rfl (mj_dt dt_X0_costsFrom 25 rfl) ?_
            refine mj_go_iload_n (k := 2) (x := v2) rfl (mj_dt dt_X0_costsFrom 26 rfl) ?_
            refine mj_go_aload_n (k := 0) (x := 75) rfl (mj_dt dt_X0_costsFrom 27 rfl) ?_
            refine mk_getI (c := 0) (k := 4) (Or.inl fd_0_4) (Or.inl fl_X0_25) ho_75 (mj_dt dt_X0_costsFrom 28 rfl) ?_
            refine mj_go_isub (mj_dt dt_X0_costsFrom 29 rfl) ?_
            obtain ⟨r7, er7, h⟩ := mj_bind_some h
            refine ml_callV (Y' := mY_X0_costsFrom) (as := [.int 0, .int (v2 - (r6.1 75 4))]) (rest := []) (c := 0) (v := (some (.int r7.1))) (M1 := (mj_fin r7.2)) ho_75 rfl lm_X0_40 wc_X0_costsFrom pl_X0_costsFrom ok_X0_costsFrom rfl rfl (Nat.le_of_ble_eq_true rfl) (hrc _ _ _ _ er7) (mj_dt dt_X0_costsFrom 30 rfl) ?_
            obtain rfl := Option.some.inj h
            exact mj_go_ret (v := some (.int r7.1)) (Nat.le_of_ble_eq_true rfl) (mj_retI (mj_dt dt_X0_costsFrom 31 rfl) rfl)
          · rw [if_neg b5] at h
            refine ⟨83, by decide, ?_⟩
            refine mj_go_sub (lv' := [(0, .ref 75), (2, .int v2)]) (List.forall_mem_cons.mpr ⟨rfl, (List.forall_mem_cons.mpr ⟨rfl, (fun _ h9 => absurd h9 List.not_mem_nil)⟩)⟩) ?_
            exact k_X0_costsFrom_83 hrc hδ h
def f_X0_costsFrom (N : Nat) : Nat → Int32 → Int32 → mj_m → Option (Int32 × mj_m)
  | 0, _, _, _ => none
  | d + 1, v1, v2, m => f_X0_costsFrom_b N (f_X0_costsFrom N d) v1 v2 m
theorem k_X0_costsFrom {L : Nat} {xs : Nat → Int32} {N : Nat} : ∀ (d δ : Nat) {v1 : Int32} {v2 : Int32} {m : mj_m} {a : Int32 × mj_m}, d + 8 ≤ δ → f_X0_costsFrom N d v1 v2 m = some a → mj_Cl (mj_EX L xs) δ mY_X0_costsFrom [.ref 75, .int v1, .int v2] (mj_fin m) (some (.int a.1), (mj_fin a.2)) := by
  intro d
  induction d with
  | zero => intro δ v1 v2 m a _ h; cases h
  | succ d ih =>
    intro δ v1 v2 m a hd h
    obtain ⟨δ, rfl⟩ : ∃ d, δ = d + 1 := ⟨δ - 1, by omega⟩
    exact k_X0_costsFrom_b (rc := f_X0_costsFrom N d) (fun _ _ _ _ h9 => ih δ (by omega) h9) (by omega) h
def f_X0_savesFrom_80 (N : Nat) (rc : Int32 → Int32 → mj_m → Option (Int32 × mj_m)) (v2 : Int32) (m : mj_m) : Option (Int32 × mj_m) := (f_X0_begin N 12 m).bind (fun r1 => (f_X0_costsFrom N 8 (r1.1 75 2) v2 r1).bind (fun r2 => (f_X0_ordersFrom N 8 (r2.2.1 75 2) (v2 - (r2.2.1 75 4)) r2.2).bind (fun r3 => some (r2.1 ^^^ r3.1, r3.2))))
theorem k_X0_savesFrom_80 {L : Nat} {xs : Nat → Int32} {δ N : Nat} {rc : Int32 → Int32 → mj_m → Option (Int32 × mj_m)} (hrc : ∀ v1_ v2_ m_ a_, rc v1_ v2_ m_ = some a_ → mj_Cl (mj_EX L xs) δ mY_X0_savesFrom [.ref 75, .int v1_, .int v2_] (mj_fin m_) (some (.int a_.1), (mj_fin a_.2))) {v2 : Int32} {m : mj_m} (hδ : 16 ≤ δ) {a : Int32 × mj_m} (h : f_X0_savesFrom_80 N rc v2 m = some a) : mj_Go (mj_EX L xs) (δ + 1) mY_X0_savesFrom 80 [(0, .ref 75), (2, .int v2)] [] (mj_fin m) (some (.int a.1), (mj_fin a.2)) := by
  unfold f_X0_savesFrom_80 at h
  refine mj_go_aload_n (k := 0) (x := 75) rfl (mj_dt dt_X0_savesFrom 33 rfl) ?_
  refine mj_go_bipush (v := 12) rfl (mj_dt dt_X0_savesFrom 34 rfl) ?_
  obtain ⟨r1, er1, h⟩ := mj_bind_some h
  refine ml_callV (Y' := mY_X0_begin) (as := [.int 12]) (rest := []) (c := 0) (v := none) (M1 := (mj_fin r1)) ho_75 rfl lm_X0_46 wc_X0_begin pl_X0_begin ok_X0_begin rfl rfl (Nat.le_of_ble_eq_true rfl) (k_X0_begin (by omega) er1) (mj_dt dt_X0_savesFrom 35 rfl) ?_
  refine mj_go_aload_n (k := 0) (x := 75) rfl (mj_dt dt_X0_savesFrom 36 rfl) ?_
  refine mj_go_aload_n (k := 0) (x := 75) rfl (mj_dt dt_X0_savesFrom 37 rfl) ?_
  refine mk_getI (c := 0) (k := 2) (Or.inl fd_0_2) (Or.inl fl_X0_19) ho_75 (mj_dt dt_X0_savesFrom 38 rfl) ?_
  refine mj_go_iload_n (k := 2) (x := v2) rfl (mj_dt dt_X0_savesFrom 39 rfl) ?_
  obtain ⟨r2, er2, h⟩ := mj_bind_some h
  refine ml_callV (Y' := mY_X0_costsFrom) (as := [.int (r1.1 75 2), .int v2]) (rest := []) (c := 0) (v := (some (.int r2.1))) (M1 := (mj_fin r2.2)) ho_75 rfl lm_X0_40 wc_X0_costsFrom pl_X0_costsFrom ok_X0_costsFrom rfl rfl (Nat.le_of_ble_eq_true rfl) (k_X0_costsFrom 8 _ (by omega) er2) (mj_dt dt_X0_savesFrom 40 rfl) ?_
  refine mj_go_aload_n (k := 0) (x := 75) rfl (mj_dt dt_X0_savesFrom 41 rfl) ?_
  refine mj_go_aload_n (k := 0) (x := 75) rfl (mj_dt dt_X0_savesFrom 42 rfl) ?_
  refine mk_getI (c := 0) (k := 2) (Or.inl fd_0_2) (Or.inl fl_X0_19) ho_75 (mj_dt dt_X0_savesFrom 43 rfl) ?_
  refine mj_go_iload_n (k := 2) (x := v2) rfl (mj_dt dt_X0_savesFrom 44 rfl) ?_
  refine mj_go_aload_n (k := 0) (x := 75) rfl (mj_dt dt_X0_savesFrom 45 rfl) ?_
  refine mk_getI (c := 0) (k := 4) (Or.inl fd_0_4) (Or.inl fl_X0_25) ho_75 (mj_dt dt_X0_savesFrom 46 rfl) ?_
  refine mj_go_isub (mj_dt dt_X0_savesFrom 47 rfl) ?_
  obtain ⟨r3, er3, h⟩ := mj_bind_some h
  refine ml_callV (Y' := mY_X0_ordersFrom) (as := [.int (r2.2.1 75 2), .int (v2 - (r2.2.1 75 4))]) (rest := [.int r2.1]) (c := 0) (v := (some (.int r3.1))) (M1 := (mj_fin r3.2)) ho_75 rfl lm_X0_36 wc_X0_ordersFrom pl_X0_ordersFrom ok_X0_ordersFrom rfl rfl (Nat.le_of_ble_eq_true rfl) (k_X0_ordersFrom 8 _ (by omega) er3) (mj_dt dt_X0_savesFrom 48 rfl) ?_
  refine mj_go_ixor (mj_dt dt_X0_savesFrom 49 rfl) ?_
  obtain rfl := Option.some.inj h
  exact mj_go_ret (v := some (.int (r2.1 ^^^ r3.1))) (Nat.le_of_ble_eq_true rfl) (mj_retI (mj_dt dt_X0_savesFrom 50 rfl) rfl)
def f_X0_savesFrom_b (N : Nat) (rc : Int32 → Int32 → mj_m → Option (Int32 × mj_m)) (v1 : Int32) (v2 : Int32) (m : mj_m) : Option (Int32 × mj_m) := if v1 = 3 then ((f_X0_begin N 31 m).bind (fun r2 => (rc 0 v2 r2).bind (fun r3 => some (r3.1 - (r3.2.1 75 3), r3.2)))) else if v1 = 4 then ((f_X0_begin N 60 m).bind (fun r3 => (rc 0 v2 r3).bind (fun r4 => some (r4.1 ^^^ 5, r4.2)))) else if v1 = 5 then f_X0_savesFrom_80 N rc v2 m else if v1 = 6 then ((f_X0_begin N 70 m).bind (fun r5 => (rc 0 v2 r5).bind (fun r6 => some (r6.1 * 2, r6.2)))) else f_X0_savesFrom_80 N rc v2 m
theorem k_X0_savesFrom_b {L : Nat} {xs : Nat → Int32} {δ N : Nat} {rc : Int32 → Int32 → mj_m → Option (Int32 × mj_m)} (hrc : ∀ v1_ v2_ m_ a_, rc v1_ v2_ m_ = some a_ → mj_Cl (mj_EX L xs) δ mY_X0_savesFrom [.ref 75, .int v1_, .int v2_] (mj_fin m_) (some (.int a_.1), (mj_fin a_.2))) {v1 : Int32} {v2 : Int32} {m : mj_m} (hδ : 16 ≤ δ) {a : Int32 × mj_m} (h : f_X0_savesFrom_b N rc v1 v2 m = some a) : mj_Cl (mj_EX L xs) (δ + 1) mY_X0_savesFrom [.ref 75, .int v1, .int v2] (mj_fin m) (some (.int a.1), (mj_fin a.2)) := by
  refine mj_cl_of ok_X0_savesFrom (Nat.le_of_ble_eq_true rfl) ?_
  unfold f_X0_savesFrom_b at h
  refine mj_go_iload_n (k := 1) (x := v1) rfl (mj_dt dt_X0_savesFrom 0 rfl) ?_
  refine mj_go_tsw [(3, 31), (4, 49), (5, 79), (6, 64)] (by decide) (by decide) (mj_dt dt_X0_savesFrom 1 rfl) ?_
  refine ⟨fun b1 => ?_, fun b1 => ?_⟩
  · rw [if_pos b1] at h
    refine ⟨32, by decide, ?_⟩
    refine mj_go_aload_n (k := 0) (x := 75) rfl (mj_dt dt_X0_savesFrom 2 rfl) ?_
    refine mj_go_bipush (v := 31) rfl (mj_dt dt_X0_savesFrom 3 rfl) ?_
    obtain ⟨r2, er2, h⟩ := mj_bind_some h
    refine ml_callV (Y' := mY_X0_begin) (as := [.int 31]) (rest := []) (c := 0) (v := none) (M1 := (mj_fin r2)) ho_75 rfl lm_X0_46 wc_X0_begin pl_X0_begin ok_X0_begin rfl rfl (Nat.le_of_ble_eq_true rfl) (k_X0_begin (by omega) er2) (mj_dt dt_X0_savesFrom 4 rfl) ?_
    refine mj_go_aload_n (k := 0) (x := 75) rfl (mj_dt dt_X0_savesFrom 5 rfl) ?_
    refine mj_go_iconst (v := 0) rfl (mj_dt dt_X0_savesFrom 6 rfl) ?_
    refine mj_go_iload_n (k := 2) (x := v2) rfl (mj_dt dt_X0_savesFrom 7 rfl) ?_
    obtain ⟨r3, er3, h⟩ := mj_bind_some h
    refine ml_callV (Y' := mY_X0_savesFrom) (as := [.int 0, .int v2]) (rest := []) (c := 0) (v := (some (.int r3.1))) (M1 := (mj_fin r3.2)) ho_75 rfl lm_X0_43 wc_X0_savesFrom pl_X0_savesFrom ok_X0_savesFrom rfl rfl (Nat.le_of_ble_eq_true rfl) (hrc _ _ _ _ er3) (mj_dt dt_X0_savesFrom 8 rfl) ?_
    refine mj_go_aload_n (k := 0) (x := 75) rfl (mj_dt dt_X0_savesFrom 9 rfl) ?_
    refine mk_getI (c := 0) (k := 3) (Or.inl fd_0_3) (Or.inl fl_X0_22) ho_75 (mj_dt dt_X0_savesFrom 10 rfl) ?_
    refine mj_go_isub (mj_dt dt_X0_savesFrom 11 rfl) ?_
    obtain rfl := Option.some.inj h
    exact mj_go_ret (v := some (.int (r3.1 - (r3.2.1 75 3)))) (Nat.le_of_ble_eq_true rfl) (mj_retI (mj_dt dt_X0_savesFrom 12 rfl) rfl)
  · rw [if_neg b1] at h
    refine ⟨fun b2 => ?_, fun b2 => ?_⟩
    · rw [if_pos b2] at h
      refine ⟨50, by decide, ?_⟩
      refine mj_go_aload_n (k := 0) (x := 75) rfl (mj_dt dt_X0_savesFrom 13 rfl) ?_
      refine mj_go_bipush (v := 60) rfl (mj_dt dt_X0_savesFrom 14 rfl) ?_
      obtain ⟨r3, er3, h⟩ := mj_bind_some h
      refine ml_callV (Y' := mY_X0_begin) (as := [.int 60]) (rest := []) (c := 0) (v := none) (M1 := (mj_fin r3)) ho_75 rfl lm_X0_46 wc_X0_begin pl_X0_begin ok_X0_begin rfl rfl (Nat.le_of_ble_eq_true rfl) (k_X0_begin (by omega) er3) (mj_dt dt_X0_savesFrom 15 rfl) ?_
      refine mj_go_aload_n (k := 0) (x := 75) rfl (mj_dt dt_X0_savesFrom 16 rfl) ?_
      refine mj_go_iconst (v := 0) rfl (mj_dt dt_X0_savesFrom 17 rfl) ?_
      refine mj_go_iload_n (k := 2) (x := v2) rfl (mj_dt dt_X0_savesFrom 18 rfl) ?_
      obtain ⟨r4, er4, h⟩ := mj_bind_some h
      refine ml_callV (Y' := mY_X0_savesFrom) (as := [.int 0, .int v2]) (rest := []) (c := 0) (v := (some (.int r4.1))) (M1 := (mj_fin r4.2)) ho_75 rfl lm_X0_43 wc_X0_savesFrom pl_X0_savesFrom ok_X0_savesFrom rfl rfl (Nat.le_of_ble_eq_true rfl) (hrc _ _ _ _ er4) (mj_dt dt_X0_savesFrom 19 rfl) ?_
      refine mj_go_iconst (v := 5) rfl (mj_dt dt_X0_savesFrom 20 rfl) ?_
      refine mj_go_ixor (mj_dt dt_X0_savesFrom 21 rfl) ?_
      obtain rfl := Option.some.inj h
      exact mj_go_ret (v := some (.int (r4.1 ^^^ 5))) (Nat.le_of_ble_eq_true rfl) (mj_retI (mj_dt dt_X0_savesFrom 22 rfl) rfl)
    · rw [if_neg b2] at h
      refine ⟨fun b3 => ?_, fun b3 => ?_⟩
      · rw [if_pos b3] at h
        refine ⟨80, by decide, ?_⟩
        refine mj_go_sub (lv' := [(0, .ref 75), (2, .int v2)]) (List.forall_mem_cons.mpr ⟨rfl, (List.forall_mem_cons.mpr ⟨rfl, (fun _ h9 => absurd h9 List.not_mem_nil)⟩)⟩) ?_
        exact k_X0_savesFrom_80 hrc hδ h
      · rw [if_neg b3] at h
        refine ⟨fun b4 => ?_, fun b4 => ?_⟩
        · rw [if_pos b4] at h
          refine ⟨65, by decide, ?_⟩
          refine mj_go_aload_n (k := 0) (x := 75) rfl (mj_dt dt_X0_savesFrom 23 rfl) ?_
          refine mj_go_bipush (v := 70) rfl (mj_dt dt_X0_savesFrom 24 rfl) ?_
          obtain ⟨r5, er5, h⟩ := mj_bind_some h
          refine ml_callV (Y' := mY_X0_begin) (as := [.int 70]) (rest := []) (c := 0) (v := none) (M1 := (mj_fin r5)) ho_75 rfl lm_X0_46 wc_X0_begin pl_X0_begin ok_X0_begin rfl rfl (Nat.le_of_ble_eq_true rfl) (k_X0_begin (by omega) er5) (mj_dt dt_X0_savesFrom 25 rfl) ?_
          refine mj_go_aload_n (k := 0) (x := 75) rfl (mj_dt dt_X0_savesFrom 26 rfl) ?_
          refine mj_go_iconst (v := 0) rfl (mj_dt dt_X0_savesFrom 27 rfl) ?_
          refine mj_go_iload_n (k := 2) (x := v2) rfl (mj_dt dt_X0_savesFrom 28 rfl) ?_
          obtain ⟨r6, er6, h⟩ := mj_bind_some h
          refine ml_callV (Y' := mY_X0_savesFrom) (as := [.int 0, .int v2]) (rest := []) (c := 0) (v := (some (.int r6.1))) (M1 := (mj_fin r6.2)) ho_75 rfl lm_X0_43 wc_X0_savesFrom pl_X0_savesFrom ok_X0_savesFrom rfl rfl (Nat.le_of_ble_eq_true rfl) (hrc _ _ _ _ er6) (mj_dt dt_X0_savesFrom 29 rfl) ?_
          refine mj_go_iconst (v := 2) rfl (mj_dt dt_X0_savesFrom 30 rfl) ?_
          refine mj_go_imul (mj_dt dt_X0_savesFrom 31 rfl) ?_
          obtain rfl := Option.some.inj h
          exact mj_go_ret (v := some (.int (r6.1 * 2))) (Nat.le_of_ble_eq_true rfl) (mj_retI (mj_dt dt_X0_savesFrom 32 rfl) rfl)
        · rw [if_neg b4] at h
          refine ⟨80, by decide, ?_⟩
          refine mj_go_sub (lv' := [(0, .ref 75), (2, .int v2)]) (List.forall_mem_cons.mpr ⟨rfl, (List.forall_mem_cons.mpr ⟨rfl, (fun _ h9 => absurd h9 List.not_mem_nil)⟩)⟩) ?_
          exact k_X0_savesFrom_80 hrc hδ h
def f_X0_savesFrom (N : Nat) : Nat → Int32 → Int32 → mj_m → Option (Int32 × mj_m)
  | 0, _, _, _ => none
  | d + 1, v1, v2, m => f_X0_savesFrom_b N (f_X0_savesFrom N d) v1 v2 m
theorem k_X0_savesFrom {L : Nat} {xs : Nat → Int32} {N : Nat} : ∀ (d δ : Nat) {v1 : Int32} {v2 : Int32} {m : mj_m} {a : Int32 × mj_m}, d + 16 ≤ δ → f_X0_savesFrom N d v1 v2 m = some a → mj_Cl (mj_EX L xs) δ mY_X0_savesFrom [.ref 75, .int v1, .int v2] (mj_fin m) (some (.int a.1), (mj_fin a.2)) := by
  intro d
  induction d with
  | zero => intro δ v1 v2 m a _ h; cases h
  | succ d ih =>
    intro δ v1 v2 m a hd h
    obtain ⟨δ, rfl⟩ : ∃ d, δ = d + 1 := ⟨δ - 1, by omega⟩
    exact k_X0_savesFrom_b (rc := f_X0_savesFrom N d) (fun _ _ _ _ h9 => ih δ (by omega) h9) (by omega) h
def f_X0_perform (N : Nat) (v1 : Nat) (v2 : Int32) (v3 : Int32) (v4 : Int32) (m : mj_m) : Option (Int32 × mj_m) := mj_ck (mj_o 6 v1) ( mj_mw (mj_wI m 75 2 (m.1 v1 1)) (fun m2 => mj_mw (mj_wI m2 75 3 v2) (fun m3 => mj_mw (mj_wI m3 75 4 (m3.1 v1 3)) (fun m4 => if v3 = 0 then ((f_X0_ordersFrom N 8 (m4.1 75 2) v4 m4).bind (fun r6 => some (r6.1, r6.2))) else if v3 = 1 then ((f_X0_costsFrom N 8 (m4.1 75 2) v4 m4).bind (fun r7 => some (r7.1, r7.2))) else ((f_X0_savesFrom N 8 (m4.1 75 2) v4 m4).bind (fun r7 => some (r7.1, r7.2)))))))
theorem k_X0_perform {L : Nat} {xs : Nat → Int32} {δ N : Nat} {v1 : Nat} {v2 : Int32} {v3 : Int32} {v4 : Int32} {m : mj_m} (hδ : 25 ≤ δ) {a : Int32 × mj_m} (h : f_X0_perform N v1 v2 v3 v4 m = some a) : mj_Cl (mj_EX L xs) δ mY_X0_perform [.ref 75, .ref v1, .int v2, .int v3, .int v4] (mj_fin m) (some (.int a.1), (mj_fin a.2)) := by
  obtain ⟨δ, rfl⟩ : ∃ d, δ = d + 1 := ⟨δ - 1, by omega⟩
  have hδ : 24 ≤ δ := by omega
  refine mj_cl_of ok_X0_perform (Nat.le_of_ble_eq_true rfl) ?_
  unfold f_X0_perform at h
  refine mj_go_aload_n (k := 0) (x := 75) rfl (mj_dt dt_X0_perform 0 rfl) ?_
  refine mj_go_aload_n (k := 1) (x := v1) rfl (mj_dt dt_X0_perform 1 rfl) ?_
  obtain ⟨c1, h⟩ := mj_ck_some h
  refine mk_getI (c := 6) (k := 1) (Or.inl fd_6_1) (Or.inl fl_X0_28) c1 (mj_dt dt_X0_perform 2 rfl) ?_
  obtain ⟨m2, em2, h⟩ := mj_mw_some h
  refine ml_putI (c := 0) (k := 2) fd_0_2 rfl fl_X0_19 ho_75 (mj_dt dt_X0_perform 3 rfl) ?_
  refine ml_eqm (M1 := (mj_fin m2)) (by rw [em2] <;> rfl) ?_
  refine mj_go_aload_n (k := 0) (x := 75) rfl (mj_dt dt_X0_perform 4 rfl) ?_
  refine mj_go_iload_n (k := 2) (x := v2) rfl (mj_dt dt_X0_perform 5 rfl) ?_
  obtain ⟨m3, em3, h⟩ := mj_mw_some h
  refine ml_putI (c := 0) (k := 3) fd_0_3 rfl fl_X0_22 ho_75 (mj_dt dt_X0_perform 6 rfl) ?_
  refine ml_eqm (M1 := (mj_fin m3)) (by rw [em3] <;> rfl) ?_
  refine mj_go_aload_n (k := 0) (x := 75) rfl (mj_dt dt_X0_perform 7 rfl) ?_
  refine mj_go_aload_n (k := 1) (x := v1) rfl (mj_dt dt_X0_perform 8 rfl) ?_
  refine mk_getI (c := 6) (k := 3) (Or.inl fd_6_3) (Or.inl fl_X0_33) c1 (mj_dt dt_X0_perform 9 rfl) ?_
  obtain ⟨m4, em4, h⟩ := mj_mw_some h
  refine ml_putI (c := 0) (k := 4) fd_0_4 rfl fl_X0_25 ho_75 (mj_dt dt_X0_perform 10 rfl) ?_
  refine ml_eqm (M1 := (mj_fin m4)) (by rw [em4] <;> rfl) ?_
  refine mj_go_iload_n (k := 3) (x := v3) rfl (mj_dt dt_X0_perform 11 rfl) ?_
  refine mj_go_lsw [(0, 26), (1, 37)] rfl rfl (mj_dt dt_X0_perform 12 rfl) ?_
  refine ⟨fun b5 => ?_, fun b5 => ?_⟩
  · rw [if_pos b5] at h
    refine ⟨48, by decide, ?_⟩
    refine mj_go_aload_n (k := 0) (x := 75) rfl (mj_dt dt_X0_perform 13 rfl) ?_
    refine mj_go_aload_n (k := 0) (x := 75) rfl (mj_dt dt_X0_perform 14 rfl) ?_
    refine mk_getI (c := 0) (k := 2) (Or.inl fd_0_2) (Or.inl fl_X0_19) ho_75 (mj_dt dt_X0_perform 15 rfl) ?_
    refine mj_go_iload (i := 4) (x := v4) rfl (mj_dt dt_X0_perform 16 rfl) ?_
    obtain ⟨r6, er6, h⟩ := mj_bind_some h
    refine ml_callV (Y' := mY_X0_ordersFrom) (as := [.int (m4.1 75 2), .int v4]) (rest := []) (c := 0) (v := (some (.int r6.1))) (M1 := (mj_fin r6.2)) ho_75 rfl lm_X0_36 wc_X0_ordersFrom pl_X0_ordersFrom ok_X0_ordersFrom rfl rfl (Nat.le_of_ble_eq_true rfl) (k_X0_ordersFrom 8 _ (by omega) er6) (mj_dt dt_X0_perform 17 rfl) ?_
    obtain rfl := Option.some.inj h
    exact mj_go_ret (v := some (.int r6.1)) (Nat.le_of_ble_eq_true rfl) (mj_retI (mj_dt dt_X0_perform 18 rfl) rfl)
  · rw [if_neg b5] at h
    refine ⟨fun b6 => ?_, fun b6 => ?_⟩
    · rw [if_pos b6] at h
      refine ⟨59, by decide, ?_⟩
      refine mj_go_aload_n (k := 0) (x := 75) rfl (mj_dt dt_X0_perform 19 rfl) ?_
      refine mj_go_aload_n (k := 0) (x := 75) rfl (mj_dt dt_X0_perform 20 rfl) ?_
      refine mk_getI (c := 0) (k := 2) (Or.inl fd_0_2) (Or.inl fl_X0_19) ho_75 (mj_dt dt_X0_perform 21 rfl) ?_
      refine mj_go_iload (i := 4) (x := v4) rfl (mj_dt dt_X0_perform 22 rfl) ?_
      obtain ⟨r7, er7, h⟩ := mj_bind_some h
      refine ml_callV (Y' := mY_X0_costsFrom) (as := [.int (m4.1 75 2), .int v4]) (rest := []) (c := 0) (v := (some (.int r7.1))) (M1 := (mj_fin r7.2)) ho_75 rfl lm_X0_40 wc_X0_costsFrom pl_X0_costsFrom ok_X0_costsFrom rfl rfl (Nat.le_of_ble_eq_true rfl) (k_X0_costsFrom 8 _ (by omega) er7) (mj_dt dt_X0_perform 23 rfl) ?_
      obtain rfl := Option.some.inj h
      exact mj_go_ret (v := some (.int r7.1)) (Nat.le_of_ble_eq_true rfl) (mj_retI (mj_dt dt_X0_perform 24 rfl) rfl)
    · rw [if_neg b6] at h
      refine ⟨70, by decide, ?_⟩
      refine mj_go_aload_n (k := 0) (x := 75) rfl (mj_dt dt_X0_perform 25 rfl) ?_
      refine mj_go_aload_n (k := 0) (x := 75) rfl (mj_dt dt_X0_perform 26 rfl) ?_
      refine mk_getI (c := 0) (k := 2) (Or.inl fd_0_2) (Or.inl fl_X0_19) ho_75 (mj_dt dt_X0_perform 27 rfl) ?_
      refine mj_go_iload (i := 4) (x := v4) rfl (mj_dt dt_X0_perform 28 rfl) ?_
      obtain ⟨r7, er7, h⟩ := mj_bind_some h
      refine ml_callV (Y' := mY_X0_savesFrom) (as := [.int (m4.1 75 2), .int v4]) (rest := []) (c := 0) (v := (some (.int r7.1))) (M1 := (mj_fin r7.2)) ho_75 rfl lm_X0_43 wc_X0_savesFrom pl_X0_savesFrom ok_X0_savesFrom rfl rfl (Nat.le_of_ble_eq_true rfl) (k_X0_savesFrom 8 _ (by omega) er7) (mj_dt dt_X0_perform 29 rfl) ?_
      obtain rfl := Option.some.inj h
      exact mj_go_ret (v := some (.int r7.1)) (Nat.le_of_ble_eq_true rfl) (mj_retI (mj_dt dt_X0_perform 30 rfl) rfl)
def f_X8_act (N : Nat) (v1 : Int32) (v2 : Int32) (v3 : Int32) (m : mj_m) : Option (Int32 × mj_m) := (f_X0_forget N m).bind (fun r1 => (f_X8_isShelf N v1 r1).bind (fun r2 => if r2 = 0 then (some (0, r1)) else (mj_ck (mj_b 3 35 v1) ( (f_X6_isRule N (79 + 2 * v1.toNatClampNeg) r1).bind (fun r5 => if r5 = 0 then (some (0, r1)) else (if v2 < 0 then (some (0, r1)) else (if v2 ≤ 2 then ((f_X0_perform N (79 + 2 * v1.toNatClampNeg) v1 v2 v3 r1).bind (fun r9 => some (r9.1, r9.2))) else (some (0, r1)))))))))
theorem k_X8_act {L : Nat} {xs : Nat → Int32} {δ N : Nat} {v1 : Int32} {v2 : Int32} {v3 : Int32} {m : mj_m} (hδ : 26 ≤ δ) {a : Int32 × mj_m} (h : f_X8_act N v1 v2 v3 m = some a) : mj_Cl (mj_EX L xs) δ mY_X8_act [.ref 0, .int v1, .int v2, .int v3] (mj_fin m) (some (.int a.1), (mj_fin a.2)) := by
  obtain ⟨δ, rfl⟩ : ∃ d, δ = d + 1 := ⟨δ - 1, by omega⟩
  have hδ : 25 ≤ δ := by omega
  refine mj_cl_of ok_X8_act (Nat.le_of_ble_eq_true rfl) ?_
  unfold f_X8_act at h
  refine mj_go_aload_n (k := 0) (x := 0) rfl (mj_dt dt_X8_act 0 rfl) ?_
  refine ml_getR (c := 8) (k := 7) (q := 75) fd_8_7 rf_0_7 (Or.inl fl_X8_62) ho_0 (mj_dt dt_X8_act 1 rfl) ?_
  obtain ⟨r1, er1, h⟩ := mj_bind_some h
  refine ml_callV (Y' := mY_X0_forget) (as := []) (rest := []) (c := 0) (v := none) (M1 := (mj_fin r1)) ho_75 rfl lm_X8_342 wc_X0_forget pl_X0_forget ok_X0_forget rfl rfl (Nat.le_of_ble_eq_true rfl) (k_X0_forget (by omega) er1) (mj_dt dt_X8_act 2 rfl) ?_
  refine mj_go_iload_n (k := 1) (x := v1) rfl (mj_dt dt_X8_act 3 rfl) ?_
  obtain ⟨r2, er2, h⟩ := mj_bind_some h
  refine ml_callS (Y' := mY_X8_isShelf) (as := [.int v1]) (rest := []) (v := (some (.int r2))) (M1 := (mj_fin r1)) lm_X8_82 wc_X8_isShelf pl_X8_isShelf ok_X8_isShelf rfl rfl (Nat.le_of_ble_eq_true rfl) (k_X8_isShelf (by omega) er2) (mj_dt dt_X8_act 4 rfl) ?_
  refine mj_go_if_eq (tgt := 35) rfl (mj_dt dt_X8_act 5 rfl) (fun b3 => ?_) (fun b3 => ?_)
  · rw [if_pos b3] at h
    refine mj_go_iconst (v := 0) rfl (mj_dt dt_X8_act 17 rfl) ?_
    obtain rfl := Option.some.inj h
    exact mj_go_ret (v := some (.int 0)) (Nat.le_of_ble_eq_true rfl) (mj_retI (mj_dt dt_X8_act 18 rfl) rfl)
  · rw [if_neg b3] at h
    refine mj_go_aload_n (k := 0) (x := 0) rfl (mj_dt dt_X8_act 6 rfl) ?_
    refine ml_getR (c := 8) (k := 2) (q := 35) fd_8_2 rf_0_2 (Or.inl fl_X8_21) ho_0 (mj_dt dt_X8_act 7 rfl) ?_
    refine mj_go_iload_n (k := 1) (x := v1) rfl (mj_dt dt_X8_act 8 rfl) ?_
    obtain ⟨c4, h⟩ := mj_ck_some h
    refine ml_aald3 (q := 79 + 2 * v1.toNatClampNeg) c4 (mj_hs35 c4).1 (mj_dt dt_X8_act 9 rfl) ?_
    obtain ⟨r5, er5, h⟩ := mj_bind_some h
    refine ml_callV (Y' := mY_X6_isRule) (as := []) (rest := []) (c := 6) (v := (some (.int r5))) (M1 := (mj_fin r1)) (mj_hs35 c4).2 rfl lm_X8_104 wc_X6_isRule pl_X6_isRule ok_X6_isRule rfl rfl (Nat.le_of_ble_eq_true rfl) (k_X6_isRule (by omega) er5) (mj_dt dt_X8_act 10 rfl) ?_
    refine mj_go_if_eq (tgt := 35) rfl (mj_dt dt_X8_act 11 rfl) (fun b6 => ?_) (fun b6 => ?_)
    · rw [if_pos b6] at h
      refine mj_go_iconst (v := 0) rfl (mj_dt dt_X8_act 17 rfl) ?_
      obtain rfl := Option.some.inj h
      exact mj_go_ret (v := some (.int 0)) (Nat.le_of_ble_eq_true rfl) (mj_retI (mj_dt dt_X8_act 18 rfl) rfl)
    · rw [if_neg b6] at h
      refine mj_go_iload_n (k := 2) (x := v2) rfl (mj_dt dt_X8_act 12 rfl) ?_
      refine mj_go_if_lt (tgt := 35) rfl (mj_dt dt_X8_act 13 rfl) (fun b7 => ?_) (fun b7 => ?_)
      · rw [if_pos b7] at h
        refine mj_go_iconst (v := 0) rfl (mj_dt dt_X8_act 17 rfl) ?_
        obtain rfl := Option.some.inj h
        exact mj_go_ret (v := some (.int 0)) (Nat.le_of_ble_eq_true rfl) (mj_retI (mj_dt dt_X8_act 18 rfl) rfl)
      · rw [if_neg b7] at h
        refine mj_go_iload_n (k := 2) (x := v2) rfl (mj_dt dt_X8_act 14 rfl) ?_
        refine mj_go_iconst (v := 2) rfl (mj_dt dt_X8_act 15 rfl) ?_
        refine mj_go_icmp_le (tgt := 37) rfl (mj_dt dt_X8_act 16 rfl) (fun b8 => ?_) (fun b8 => ?_)
        · rw [if_pos b8] at h
          refine mj_go_aload_n (k := 0) (x := 0) rfl (mj_dt dt_X8_act 19 rfl) ?_
          refine ml_getR (c := 8) (k := 7) (q := 75) fd_8_7 rf_0_7 (Or.inl fl_X8_62) ho_0 (mj_dt dt_X8_act 20 rfl) ?_
          refine mj_go_aload_n (k := 0) (x := 0) rfl (mj_dt dt_X8_act 21 rfl) ?_
          refine ml_getR (c := 8) (k := 2) (q := 35) fd_8_2 rf_0_2 (Or.inl fl_X8_21) ho_0 (mj_dt dt_X8_act 22 rfl) ?_
          refine mj_go_iload_n (k := 1) (x := v1) rfl (mj_dt dt_X8_act 23 rfl) ?_
          refine ml_aald3 (q := 79 + 2 * v1.toNatClampNeg) c4 (mj_hs35 c4).1 (mj_dt dt_X8_act 24 rfl) ?_
          refine mj_go_iload_n (k := 1) (x := v1) rfl (mj_dt dt_X8_act 25 rfl) ?_
          refine mj_go_iload_n (k := 2) (x := v2) rfl (mj_dt dt_X8_act 26 rfl) ?_
          refine mj_go_iload_n (k := 3) (x := v3) rfl (mj_dt dt_X8_act 27 rfl) ?_
          obtain ⟨r9, er9, h⟩ := mj_bind_some h
          refine ml_callV (Y' := mY_X0_perform) (as := [.ref (79 + 2 * v1.toNatClampNeg), .int v1, .int v2, .int v3]) (rest := []) (c := 0) (v := (some (.int r9.1))) (M1 := (mj_fin r9.2)) ho_75 rfl lm_X8_345 wc_X0_perform pl_X0_perform ok_X0_perform rfl rfl (Nat.le_of_ble_eq_true rfl) (k_X0_perform (by omega) er9) (mj_dt dt_X8_act 28 rfl) ?_
          obtain rfl := Option.some.inj h
          exact mj_go_ret (v := some (.int r9.1)) (Nat.le_of_ble_eq_true rfl) (mj_retI (mj_dt dt_X8_act 29 rfl) rfl)
        · rw [if_neg b8] at h
          refine mj_go_iconst (v := 0) rfl (mj_dt dt_X8_act 17 rfl) ?_
          obtain rfl := Option.some.inj h
          exact mj_go_ret (v := some (.int 0)) (Nat.le_of_ble_eq_true rfl) (mj_retI (mj_dt dt_X8_act 18 rfl) rfl)
def f_X9_body_19 (N : Nat) (m : mj_m) : Option (mj_m) := mj_mw (mj_wI m 95 54 ((m.1 95 54) + 1)) (fun m1 => some m1)
theorem k_X9_body_19 {L : Nat} {xs : Nat → Int32} {δ N : Nat} {m : mj_m} {a : mj_m} (h : f_X9_body_19 N m = some a) : mj_Go (mj_EX L xs) δ mY_X9_body 19 [(0, .ref 95)] [] (mj_fin m) (none, (mj_fin a)) := by
  unfold f_X9_body_19 at h
  refine mj_go_aload_n (k := 0) (x := 95) rfl (mj_dt dt_X9_body 10 rfl) ?_
  refine mj_go_dup rfl (mj_dt dt_X9_body 11 rfl) ?_
  refine mk_getI (c := 9) (k := 54) (Or.inl fd_9_54) (Or.inl fl_X9_331) ho_95 (mj_dt dt_X9_body 12 rfl) ?_
  refine mj_go_iconst (v := 1) rfl (mj_dt dt_X9_body 13 rfl) ?_
  refine mj_go_iadd (mj_dt dt_X9_body 14 rfl) ?_
  obtain ⟨m1, em1, h⟩ := mj_mw_some h
  refine ml_putI (c := 9) (k := 54) fd_9_54 rfl fl_X9_331 ho_95 (mj_dt dt_X9_body 15 rfl) ?_
  refine ml_eqm (M1 := (mj_fin m1)) (by rw [em1] <;> rfl) ?_
  obtain rfl := Option.some.inj h
  exact mj_go_ret (v := none) (Nat.le_of_ble_eq_true rfl) (mj_retV (mj_dt dt_X9_body 16 rfl) rfl)
def f_X9_body (N : Nat) (v1 : Int32) (m : mj_m) : Option (mj_m) := if 20 ≤ (m.1 95 54) then f_X9_body_19 N m else (mj_ck (mj_b 0 127 (m.1 95 54)) ( mj_mw (mj_wI m 127 ((m.1 95 54).toNatClampNeg) v1) (fun m3 => f_X9_body_19 N m3)))
theorem k_X9_body {L : Nat} {xs : Nat → Int32} {δ N : Nat} {v1 : Int32} {m : mj_m} (_ : 0 ≤ δ) {a : mj_m} (h : f_X9_body N v1 m = some a) : mj_Cl (mj_EX L xs) δ mY_X9_body [.ref 95, .int v1] (mj_fin m) (none, (mj_fin a)) := by
  refine mj_cl_of ok_X9_body (Nat.le_of_ble_eq_true rfl) ?_
  unfold f_X9_body at h
  refine mj_go_aload_n (k := 0) (x := 95) rfl (mj_dt dt_X9_body 0 rfl) ?_
  refine mk_getI (c := 9) (k := 54) (Or.inl fd_9_54) (Or.inl fl_X9_331) ho_95 (mj_dt dt_X9_body 1 rfl) ?_
  refine mj_go_bipush (v := 20) rfl (mj_dt dt_X9_body 2 rfl) ?_
  refine mj_go_icmp_ge (tgt := 19) rfl (mj_dt dt_X9_body 3 rfl) (fun b1 => ?_) (fun b1 => ?_)
  · rw [if_pos b1] at h
    refine mj_go_sub (lv' := [(0, .ref 95)]) (List.forall_mem_cons.mpr ⟨rfl, (fun _ h9 => absurd h9 List.not_mem_nil)⟩) ?_
    exact k_X9_body_19 h
  · rw [if_neg b1] at h
    refine mj_go_aload_n (k := 0) (x := 95) rfl (mj_dt dt_X9_body 4 rfl) ?_
    refine ml_getR (c := 9) (k := 53) (q := 127) fd_9_53 rf_95_53 (Or.inl fl_X9_120) ho_95 (mj_dt dt_X9_body 5 rfl) ?_
    refine mj_go_aload_n (k := 0) (x := 95) rfl (mj_dt dt_X9_body 6 rfl) ?_
    refine mk_getI (c := 9) (k := 54) (Or.inl fd_9_54) (Or.inl fl_X9_331) ho_95 (mj_dt dt_X9_body 7 rfl) ?_
    refine mj_go_iload_n (k := 1) (x := v1) rfl (mj_dt dt_X9_body 8 rfl) ?_
    obtain ⟨c2, h⟩ := mj_ck_some h
    obtain ⟨m3, em3, h⟩ := mj_mw_some h
    refine ml_iast c2 (mj_dt dt_X9_body 9 rfl) ?_
    refine ml_eqm (M1 := (mj_fin m3)) (by rw [em3] <;> rfl) ?_
    refine mj_go_sub (lv' := [(0, .ref 95)]) (List.forall_mem_cons.mpr ⟨rfl, (fun _ h9 => absurd h9 List.not_mem_nil)⟩) ?_
    exact k_X9_body_19 h
def f_X9_ordering_64 (N : Nat) (v1 : Int32) (v5 : Int32) (m : mj_m) : Option (Int32 × mj_m) := mj_ck (mj_b 0 114 v1) ( (some (v5 + (m.1 114 v1.toNatClampNeg), m)))
theorem k_X9_ordering_64 {L : Nat} {xs : Nat → Int32} {δ N : Nat} {v1 : Int32} {v5 : Int32} {m : mj_m} (hδ : 0 ≤ δ) {a : Int32 × mj_m} (h : f_X9_ordering_64 N v1 v5 m = some a) : mj_Go (mj_EX L xs) (δ + 1) mY_X9_ordering 64 [(0, .ref 95), (1, .int v1), (5, .int v5)] [] (mj_fin m) (some (.int a.1), (mj_fin a.2)) := by
  unfold f_X9_ordering_64 at h
  refine mj_go_iload (i := 5) (x := v5) rfl (mj_dt dt_X9_ordering 39 rfl) ?_
  refine mj_go_aload_n (k := 0) (x := 95) rfl (mj_dt dt_X9_ordering 40 rfl) ?_
  refine ml_getR (c := 9) (k := 29) (q := 114) fd_9_29 rf_95_29 (Or.inl fl_X9_80) ho_95 (mj_dt dt_X9_ordering 41 rfl) ?_
  refine mj_go_iload_n (k := 1) (x := v1) rfl (mj_dt dt_X9_ordering 42 rfl) ?_
  obtain ⟨c1, h⟩ := mj_ck_some h
  refine mk_iald c1 (mj_dt dt_X9_ordering 43 rfl) ?_
  refine mj_go_iadd (mj_dt dt_X9_ordering 44 rfl) ?_
  refine mj_go_goto (tgt := 78) rfl (mj_dt dt_X9_ordering 45 rfl) ?_
  obtain rfl := Option.some.inj h
  exact mj_go_ret (v := some (.int (v5 + (m.1 114 v1.toNatClampNeg)))) (Nat.le_of_ble_eq_true rfl) (mj_retI (mj_dt dt_X9_ordering 47 rfl) rfl)
def f_X9_ordering_42 (N : Nat) (v1 : Int32) (v3 : Int32) (v4 : Int32) (m : mj_m) : Option (Int32 × mj_m) := (f_X9_body N 10 m).bind (fun r1 => mj_mw (v4 + v1) (fun x2 => if v3 = 1 then f_X9_ordering_64 N v1 x2 r1 else (if v3 = 3 then f_X9_ordering_64 N v1 x2 r1 else ((some (x2, r1))))))
theorem k_X9_ordering_42 {L : Nat} {xs : Nat → Int32} {δ N : Nat} {v1 : Int32} {v3 : Int32} {v4 : Int32} {m : mj_m} (hδ : 0 ≤ δ) {a : Int32 × mj_m} (h : f_X9_ordering_42 N v1 v3 v4 m = some a) : mj_Go (mj_EX L xs) (δ + 1) mY_X9_ordering 42 [(0, .ref 95), (1, .int v1), (3, .int v3), (4, .int v4)] [] (mj_fin m) (some (.int a.1), (mj_fin a.2)) := by
  unfold f_X9_ordering_42 at h
  refine mj_go_aload_n (k := 0) (x := 95) rfl (mj_dt dt_X9_ordering 26 rfl) ?_
  refine mj_go_bipush (v := 10) rfl (mj_dt dt_X9_ordering 27 rfl) ?_
  obtain ⟨r1, er1, h⟩ := mj_bind_some h
  refine ml_callV (Y' := mY_X9_body) (as := [.int 10]) (rest := []) (c := 9) (v := none) (M1 := (mj_fin r1)) ho_95 rfl lm_X9_334 wc_X9_body pl_X9_body ok_X9_body rfl rfl (Nat.le_of_ble_eq_true rfl) (k_X9_body (by omega) er1) (mj_dt dt_X9_ordering 28 rfl) ?_
  refine mj_go_iload (i := 4) (x := v4) rfl (mj_dt dt_X9_ordering 29 rfl) ?_
  refine mj_go_iload_n (k := 1) (x := v1) rfl (mj_dt dt_X9_ordering 30 rfl) ?_
  refine mj_go_iadd (mj_dt dt_X9_ordering 31 rfl) ?_
  obtain ⟨x2, ex2, h⟩ := mj_mw_some h
  refine ml_eqi ex2 ?_
  refine mj_go_istore (i := 5) (by decide) (mj_dt dt_X9_ordering 32 rfl) ?_
  refine mj_go_iload_n (k := 3) (x := v3) rfl (mj_dt dt_X9_ordering 33 rfl) ?_
  refine mj_go_iconst (v := 1) rfl (mj_dt dt_X9_ordering 34 rfl) ?_
  refine mj_go_icmp_eq (tgt := 64) rfl (mj_dt dt_X9_ordering 35 rfl) (fun b3 => ?_) (fun b3 => ?_)
  · rw [if_pos b3] at h
    refine mj_go_sub (lv' := [(0, .ref 95), (1, .int v1), (5, .int x2)]) (List.forall_mem_cons.mpr ⟨rfl, (List.forall_mem_cons.mpr ⟨rfl, (List.forall_mem_cons.mpr ⟨rfl, (fun _ h9 => absurd h9 List.not_mem_nil)⟩)⟩)⟩) ?_
    exact k_X9_ordering_64 hδ h
  · rw [if_neg b3] at h
    refine mj_go_iload_n (k := 3) (x := v3) rfl (mj_dt dt_X9_ordering 36 rfl) ?_
    refine mj_go_iconst (v := 3) rfl (mj_dt dt_X9_ordering 37 rfl) ?_
    refine mj_go_icmp_ne (tgt := 76) rfl (mj_dt dt_X9_ordering 38 rfl) (fun b4 => ?_) (fun b4 => ?_)
    · rw [if_neg b4] at h
      refine mj_go_iload (i := 5) (x := x2) rfl (mj_dt dt_X9_ordering 46 rfl) ?_
      obtain rfl := Option.some.inj h
      exact mj_go_ret (v := some (.int x2)) (Nat.le_of_ble_eq_true rfl) (mj_retI (mj_dt dt_X9_ordering 47 rfl) rfl)
    · rw [if_pos b4] at h
      refine mj_go_sub (lv' := [(0, .ref 95), (1, .int v1), (5, .int x2)]) (List.forall_mem_cons.mpr ⟨rfl, (List.forall_mem_cons.mpr ⟨rfl, (List.forall_mem_cons.mpr ⟨rfl, (fun _ h9 => absurd h9 List.not_mem_nil)⟩)⟩)⟩) ?_
      exact k_X9_ordering_64 hδ h
def f_X9_ordering_36 (N : Nat) (v1 : Int32) (v3 : Int32) (v4 : Int32) (m : mj_m) : Option (Int32 × mj_m) := (f_X9_body N 20 m).bind (fun r1 => f_X9_ordering_42 N v1 v3 v4 r1)
theorem k_X9_ordering_36 {L : Nat} {xs : Nat → Int32} {δ N : Nat} {v1 : Int32} {v3 : Int32} {v4 : Int32} {m : mj_m} (hδ : 0 ≤ δ) {a : Int32 × mj_m} (h : f_X9_ordering_36 N v1 v3 v4 m = some a) : mj_Go (mj_EX L xs) (δ + 1) mY_X9_ordering 36 [(0, .ref 95), (1, .int v1), (3, .int v3), (4, .int v4)] [] (mj_fin m) (some (.int a.1), (mj_fin a.2)) := by
  unfold f_X9_ordering_36 at h
  refine mj_go_aload_n (k := 0) (x := 95) rfl (mj_dt dt_X9_ordering 23 rfl) ?_
  refine mj_go_bipush (v := 20) rfl (mj_dt dt_X9_ordering 24 rfl) ?_
  obtain ⟨r1, er1, h⟩ := mj_bind_some h
  refine ml_callV (Y' := mY_X9_body) (as := [.int 20]) (rest := []) (c := 9) (v := none) (M1 := (mj_fin r1)) ho_95 rfl lm_X9_334 wc_X9_body pl_X9_body ok_X9_body rfl rfl (Nat.le_of_ble_eq_true rfl) (k_X9_body (by omega) er1) (mj_dt dt_X9_ordering 25 rfl) ?_
  refine mj_go_sub (lv' := [(0, .ref 95), (1, .int v1), (3, .int v3), (4, .int v4)]) (List.forall_mem_cons.mpr ⟨rfl, (List.forall_mem_cons.mpr ⟨rfl, (List.forall_mem_cons.mpr ⟨rfl, (List.forall_mem_cons.mpr ⟨rfl, (fun _ h9 => absurd h9 List.not_mem_nil)⟩)⟩)⟩)⟩) ?_
  exact k_X9_ordering_42 hδ h
def f_X9_ordering_26 (N : Nat) (v1 : Int32) (v3 : Int32) (v4 : Int32) (m : mj_m) : Option (Int32 × mj_m) := if v3 = 1 then f_X9_ordering_36 N v1 v3 v4 m else (if v3 = 3 then f_X9_ordering_36 N v1 v3 v4 m else f_X9_ordering_42 N v1 v3 v4 m)
theorem k_X9_ordering_26 {L : Nat} {xs : Nat → Int32} {δ N : Nat} {v1 : Int32} {v3 : Int32} {v4 : Int32} {m : mj_m} (hδ : 0 ≤ δ) {a : Int32 × mj_m} (h : f_X9_ordering_26 N v1 v3 v4 m = some a) : mj_Go (mj_EX L xs) (δ + 1) mY_X9_ordering 26 [(0, .ref 95), (1, .int v1), (3, .int v3), (4, .int v4)] [] (mj_fin m) (some (.int a.1), (mj_fin a.2)) := by
  unfold f_X9_ordering_26 at h
  refine mj_go_iload_n (k := 3) (x := v3) rfl (mj_dt dt_X9_ordering 17 rfl) ?_
  refine mj_go_iconst (v := 1) rfl (mj_dt dt_X9_ordering 18 rfl) ?_
  refine mj_go_icmp_eq (tgt := 36) rfl (mj_dt dt_X9_ordering 19 rfl) (fun b1 => ?_) (fun b1 => ?_)
  · rw [if_pos b1] at h
    refine mj_go_sub (lv' := [(0, .ref 95), (1, .int v1), (3, .int v3), (4, .int v4)]) (List.forall_mem_cons.mpr ⟨rfl, (List.forall_mem_cons.mpr ⟨rfl, (List.forall_mem_cons.mpr ⟨rfl, (List.forall_mem_cons.mpr ⟨rfl, (fun _ h9 => absurd h9 List.not_mem_nil)⟩)⟩)⟩)⟩) ?_
    exact k_X9_ordering_36 hδ h
  · rw [if_neg b1] at h
    refine mj_go_iload_n (k := 3) (x := v3) rfl (mj_dt dt_X9_ordering 20 rfl) ?_
    refine mj_go_iconst (v := 3) rfl (mj_dt dt_X9_ordering 21 rfl) ?_
    refine mj_go_icmp_ne (tgt := 42) rfl (mj_dt dt_X9_ordering 22 rfl) (fun b2 => ?_) (fun b2 => ?_)
    · rw [if_neg b2] at h
      refine mj_go_sub (lv' := [(0, .ref 95), (1, .int v1), (3, .int v3), (4, .int v4)]) (List.forall_mem_cons.mpr ⟨rfl, (List.forall_mem_cons.mpr ⟨rfl, (List.forall_mem_cons.mpr ⟨rfl, (List.forall_mem_cons.mpr ⟨rfl, (fun _ h9 => absurd h9 List.not_mem_nil)⟩)⟩)⟩)⟩) ?_
      exact k_X9_ordering_42 hδ h
    · rw [if_pos b2] at h
      refine mj_go_sub (lv' := [(0, .ref 95), (1, .int v1), (3, .int v3), (4, .int v4)]) (List.forall_mem_cons.mpr ⟨rfl, (List.forall_mem_cons.mpr ⟨rfl, (List.forall_mem_cons.mpr ⟨rfl, (List.forall_mem_cons.mpr ⟨rfl, (fun _ h9 => absurd h9 List.not_mem_nil)⟩)⟩)⟩)⟩) ?_
      exact k_X9_ordering_36 hδ h
def f_X9_ordering (N : Nat) (v1 : Int32) (v2 : Int32) (m : mj_m) : Option (Int32 × mj_m) := mj_ck (mj_b 0 113 v1) ( mj_mw (m.1 113 v1.toNatClampNeg) (fun x2 => if x2 = 3 then ((f_X9_body N 30 m).bind (fun r4 => mj_mw (v2 + 1) (fun x5 => f_X9_ordering_26 N v1 x2 x5 r4))) else f_X9_ordering_26 N v1 x2 v2 m))
theorem k_X9_ordering {L : Nat} {xs : Nat → Int32} {δ N : Nat} {v1 : Int32} {v2 : Int32} {m : mj_m} (hδ : 1 ≤ δ) {a : Int32 × mj_m} (h : f_X9_ordering N v1 v2 m = some a) : mj_Cl (mj_EX L xs) δ mY_X9_ordering [.ref 95, .int v1, .int v2] (mj_fin m) (some (.int a.1), (mj_fin a.2)) := by
  obtain ⟨δ, rfl⟩ : ∃ d, δ = d + 1 := ⟨δ - 1, by omega⟩
  have hδ : 0 ≤ δ := by omega
  refine mj_cl_of ok_X9_ordering (Nat.le_of_ble_eq_true rfl) ?_
  unfold f_X9_ordering at h
  refine mj_go_aload_n (k := 0) (x := 95) rfl (mj_dt dt_X9_ordering 0 rfl) ?_
  refine ml_getR (c := 9) (k := 28) (q := 113) fd_9_28 rf_95_28 (Or.inl fl_X9_77) ho_95 (mj_dt dt_X9_ordering 1 rfl) ?_
  refine mj_go_iload_n (k := 1) (x := v1) rfl (mj_dt dt_X9_ordering 2 rfl) ?_
  obtain ⟨c1, h⟩ := mj_ck_some h
  refine mk_iald c1 (mj_dt dt_X9_ordering 3 rfl) ?_
  obtain ⟨x2, ex2, h⟩ := mj_mw_some h
  refine ml_eqi ex2 ?_
  refine mj_go_istore_n (k := 3) (by decide) (mj_dt dt_X9_ordering 4 rfl) ?_
  refine mj_go_iload_n (k := 2) (x := v2) rfl (mj_dt dt_X9_ordering 5 rfl) ?_
  refine mj_go_istore (i := 4) (by decide) (mj_dt dt_X9_ordering 6 rfl) ?_
  refine mj_go_iload_n (k := 3) (x := x2) rfl (mj_dt dt_X9_ordering 7 rfl) ?_
  refine mj_go_iconst (v := 3) rfl (mj_dt dt_X9_ordering 8 rfl) ?_
  refine mj_go_icmp_ne (tgt := 26) rfl (mj_dt dt_X9_ordering 9 rfl) (fun b3 => ?_) (fun b3 => ?_)
  · rw [if_neg b3] at h
    refine mj_go_sub (lv' := [(0, .ref 95), (1, .int v1), (3, .int x2), (4, .int v2)]) (List.forall_mem_cons.mpr ⟨rfl, (List.forall_mem_cons.mpr ⟨rfl, (List.forall_mem_cons.mpr ⟨rfl, (List.forall_mem_cons.mpr ⟨rfl, (fun _ h9 => absurd h9 List.not_mem_nil)⟩)⟩)⟩)⟩) ?_
    exact k_X9_ordering_26 hδ h
  · rw [if_pos b3] at h
    refine mj_go_aload_n (k := 0) (x := 95) rfl (mj_dt dt_X9_ordering 10 rfl) ?_
    refine mj_go_bipush (v := 30) rfl (mj_dt dt_X9_ordering 11 rfl) ?_
    obtain ⟨r4, er4, h⟩ := mj_bind_some h
    refine ml_callV (Y' := mY_X9_body) (as := [.int 30]) (rest := []) (c := 9) (v := none) (M1 := (mj_fin r4)) ho_95 rfl lm_X9_334 wc_X9_body pl_X9_body ok_X9_body rfl rfl (Nat.le_of_ble_eq_true rfl) (k_X9_body (by omega) er4) (mj_dt dt_X9_ordering 12 rfl) ?_
    refine mj_go_iload_n (k := 2) (x := v2) rfl (mj_dt dt_X9_ordering 13 rfl) ?_
    refine mj_go_iconst (v := 1) rfl (mj_dt dt_X9_ordering 14 rfl) ?_
    refine mj_go_iadd (mj_dt dt_X9_ordering 15 rfl) ?_
    obtain ⟨x5, ex5, h⟩ := mj_mw_some h
    refine ml_eqi ex5 ?_
    refine mj_go_istore (i := 4) (by decide) (mj_dt dt_X9_ordering 16 rfl) ?_
    refine mj_go_sub (lv' := [(0, .ref 95), (1, .int v1), (3, .int x2), (4, .int x5)]) (List.forall_mem_cons.mpr ⟨rfl, (List.forall_mem_cons.mpr ⟨rfl, (List.forall_mem_cons.mpr ⟨rfl, (List.forall_mem_cons.mpr ⟨rfl, (fun _ h9 => absurd h9 List.not_mem_nil)⟩)⟩)⟩)⟩) ?_
    exact k_X9_ordering_26 hδ h
