/-! the plain questions, the list, the best placements -/
def Same (a m : Nat) (B : Int) (sM : Prop) (v : Int32) (M : Int32 × HH) : Prop := sM ∧ v = M.1 ∧ INV B a m M.2
theorem players_ok {a m : Nat} {B : Int} {h : HH} (d : a + 110 ≤ m) (inv : INV B a m h) : Same a m B (sX6_players m h) (fX5_players a h) (fX6_players m h) := by
  obtain ⟨⟨n, gi, cg, ch⟩, _⟩ := id inv
  have kz : (0 : Int32).toNatClampNeg = 0 := by decide
  have R : hset h m 4 0 (m + 1) = h (m + 1) := hset_o _ _ _ _ (by omega)
  refine ⟨vpd (by decide), ?_, INV_keep (keep_m d (by decide)) inv⟩
  simp only [fX5_players_c0, fX5_players, fX6_players_c10, fX6_players_c0, fX6_players, kz, R]
  exact cg.1 0 (by decide)
theorem round_ok {a m : Nat} {B : Int} {h : HH} (d : a + 110 ≤ m) (inv : INV B a m h) : Same a m B (sX6_round m h) (fX5_round a h) (fX6_round m h) := by
  obtain ⟨⟨n, gi, cg, ch⟩, _⟩ := id inv
  have kz : (2 : Int32).toNatClampNeg = 2 := by decide
  have R : hset h m 4 0 (m + 1) = h (m + 1) := hset_o _ _ _ _ (by omega)
  refine ⟨vpd (by decide), ?_, INV_keep (keep_m d (by decide)) inv⟩
  simp only [fX5_round_c0, fX5_round, fX6_round_c10, fX6_round_c0, fX6_round, kz, R]
  exact cg.1 2 (by decide)
theorem inTurn_ok {a m : Nat} {B : Int} {h : HH} (d : a + 110 ≤ m) (inv : INV B a m h) : Same a m B (sX6_inTurn m h) (fX5_inTurn a h) (fX6_inTurn m h) := by
  obtain ⟨⟨n, gi, cg, ch⟩, _⟩ := id inv
  have kz : (3 : Int32).toNatClampNeg = 3 := by decide
  have R : hset h m 4 0 (m + 1) = h (m + 1) := hset_o _ _ _ _ (by omega)
  refine ⟨vpd (by decide), ?_, INV_keep (keep_m d (by decide)) inv⟩
  simp only [fX5_inTurn_c0, fX5_inTurn, fX6_inTurn_c10, fX6_inTurn_c0, fX6_inTurn, kz, R]
  exact cg.1 3 (by decide)
theorem startPlayer_ok {a m : Nat} {B : Int} {h : HH} (d : a + 110 ≤ m) (inv : INV B a m h) : Same a m B (sX6_startPlayer m h) (fX5_startPlayer a h) (fX6_startPlayer m h) := by
  obtain ⟨⟨n, gi, cg, ch⟩, _⟩ := id inv
  have kz : (4 : Int32).toNatClampNeg = 4 := by decide
  have R : hset h m 4 0 (m + 1) = h (m + 1) := hset_o _ _ _ _ (by omega)
  refine ⟨vpd (by decide), ?_, INV_keep (keep_m d (by decide)) inv⟩
  simp only [fX5_startPlayer_c0, fX5_startPlayer, fX6_startPlayer_c10, fX6_startPlayer_c0, fX6_startPlayer, kz, R]
  exact cg.1 4 (by decide)
theorem moves_ok {a m : Nat} {B : Int} {h : HH} (d : a + 110 ≤ m) (inv : INV B a m h) : Same a m B (sX6_moves m h) (fX5_moves a h) (fX6_moves m h) := by
  obtain ⟨⟨n, gi, cg, ch⟩, _⟩ := id inv
  obtain ⟨qn, hqn, e2, e85, _⟩ := c_hist ch
  have kz : (85 : Int32).toNatClampNeg = 85 := by decide
  have R : hset h m 4 0 (m + 1) = h (m + 1) := hset_o _ _ _ _ (by omega)
  refine ⟨vpd (by decide), ?_, INV_keep (keep_m d (by decide)) inv⟩
  simp only [fX5_moves, fX5_moves_c0, fX6_moves, fX6_moves_c0, fX6_moves_c11, kz, R, e2, e85]
-- the list
theorem m_nx {m n t k : Nat} {h : HH} {L : List Nat} {x : Int32} (ok : OKg n t (h (m + 1))) (hk : k ≤ 300) (hx : x + 1 = nI k) (hL : okfrom n t (h (m + 1)) (300 - k) k = L) : fX6_nextCode m x h = hd L ∧ sX6_nextCode m x h := by
  obtain ⟨hn, ht, h0, h3, _, _⟩ := ok
  have N := m_next (m := m) (n := n) (t := t) (k := k) (x := x) (h := h) hn h0 (by omega) h3 hk hx
  rw [gnext_v, hL] at N
  refine ⟨?_, N.2⟩
  rw [N.1]
  cases L <;> rfl
theorem m_poss_loop {m n t : Nat} {h : HH} (ok : OKg n t (h (m + 1))) : ∀ (L : List Nat) (k f x : Nat), k ≤ 300 → okfrom n t (h (m + 1)) (300 - k) k = L → fX6_possibles_c8 m (L.length + f + 1) (nI x) (hd L) h = nI (x + L.length) ∧ sX6_possibles_c8 m (L.length + f + 1) (nI x) (hd L) h
  | [], k, f, x, hk, hL => by
    have c : hd [] = -1 := rfl
    refine ⟨?_, fun _ => trivial, fun q => absurd c q⟩
    show (if hd [] = -1 then nI x else _) = _
    rw [if_pos c]
    rfl
  | y :: L, k, f, x, hk, hL => by
    obtain ⟨d', b1, b2, b3, b4⟩ := okfrom_cons _ _ hL
    have hy : y < 300 := by omega
    have c : ¬ hd (y :: L) = -1 := nI_m1 (by omega)
    have ed : d' = 300 - (y + 1) := by omega
    subst ed
    have N := m_nx (m := m) (k := y + 1) (x := nI y) (h := h) ok (by omega) (nI_1 y) b4.symm
    have I := m_poss_loop ok L (y + 1) f (x + 1) (by omega) b4.symm
    have e1 : (y :: L).length + f + 1 = (L.length + f + 1) + 1 := by show L.length + 1 + f + 1 = _; omega
    have e2 : x + (y :: L).length = x + 1 + L.length := by show x + (L.length + 1) = _; omega
    rw [e1, e2]
    constructor
    · show (if hd (y :: L) = -1 then nI x else fX6_possibles_c8 m (L.length + f + 1) (nI x + 1) (fX6_nextCode m (nI y) h) h) = _
      rw [if_neg c, N.1, nI_1]
      exact I.1
    · refine ⟨fun q => absurd q c, fun _ => ⟨N.2, ?_⟩⟩
      show sX6_possibles_c8 m (L.length + f + 1) (nI x + 1) (fX6_nextCode m (nI y) h) h
      rw [N.1, nI_1]
      exact I.2
theorem m_poss {m n t : Nat} {h : HH} (ok : OKg n t (h (m + 1))) : fX6_possibles m h = nI (okl n t (h (m + 1))).length ∧ sX6_possibles m h := by
  have len := okl_len n t (h (m + 1))
  obtain ⟨L, eL⟩ : ∃ L, okl n t (h (m + 1)) = L := ⟨_, rfl⟩
  have N := m_nx (m := m) (k := 0) (x := -1) (h := h) (L := L) ok (by omega) (by decide) eL
  have I := m_poss_loop ok L 0 (301 - L.length) 0 (by omega) eL
  rw [eL] at len ⊢
  rw [show L.length + (301 - L.length) + 1 = 302 by omega, show 0 + L.length = L.length by omega] at I
  unfold fX6_possibles fX6_possibles_c0 sX6_possibles sX6_possibles_c0
  rw [N.1]
  exact ⟨I.1, N.2, I.2⟩
def nth : List Nat → Nat → Nat
  | [], _ => 0
  | y :: _, 0 => y
  | _ :: L, i + 1 => nth L i
theorem opt_nth {r : Nat → Int32} : ∀ (L : List Nat) (j i : Nat), opt r L j → i < L.length → r (j + i) = nI (told (nth L i))
  | [], _, _, _, hi => absurd hi (Nat.not_lt_zero _)
  | y :: L, j, 0, o, _ => o.1
  | y :: L, j, i + 1, o, hi => by
    have := opt_nth L (j + 1) i o.2 (by have : (y :: L).length = L.length + 1 := rfl; omega)
    rw [show j + (i + 1) = j + 1 + i by omega]
    exact this
theorem told_v {y : Nat} (hy : y < 300) : fX6_told (nI y) = nI (told y) := by
  show 100 * (nI y / 25) + jrem (nI y) 25 = _
  rw [show nI y / 25 = nI (y / 25) from nI_div (b := 25) (by omega) (by decide) (by decide), show jrem (nI y) 25 = nI (y % 25) from jrem_n (b := 25) (by omega) (by decide) (by decide), show (100 : Int32) * nI (y / 25) = nI (100 * (y / 25)) from (Int32.ofNat_mul 100 _).symm, nI_add]
  rfl
theorem m_opt_loop {m n t : Nat} {h : HH} (ok : OKg n t (h (m + 1))) : ∀ (i : Nat) (L : List Nat) (k f : Nat), k ≤ 300 → okfrom n t (h (m + 1)) (300 - k) k = L → i < L.length → fX6_option_c36 m (i + f + 1) (hd L) (nI i) h = (nI (told (nth L i)), h) ∧ sX6_option_c36 m (i + f + 1) (hd L) (nI i) h
  | _, [], _, _, _, _, hi => absurd hi (Nat.not_lt_zero _)
  | 0, y :: L, k, f, hk, hL, hi => by
    obtain ⟨d', b1, b2, b3, b4⟩ := okfrom_cons _ _ hL
    have c : nI 0 ≤ 0 := by decide
    rw [show 0 + f + 1 = f + 1 by omega]
    refine ⟨?_, fun _ => trivial, fun q => absurd c q⟩
    show (if nI 0 ≤ 0 then (fX6_told (nI y), h) else _) = _
    rw [if_pos c, told_v (by omega)]
    rfl
  | i + 1, y :: L, k, f, hk, hL, hi => by
    obtain ⟨d', b1, b2, b3, b4⟩ := okfrom_cons _ _ hL
    have ed : d' = 300 - (y + 1) := by omega
    subst ed
    have len : i < L.length := by have : (y :: L).length = L.length + 1 := rfl; omega
    have bound := ok_len (n := n) (t := t) (g := h (m + 1)) (300 - (y + 1)) (y + 1)
    have c300 : nch (y + 1 + (300 - (y + 1))) = 40 := by rw [show y + 1 + (300 - (y + 1)) = 300 by omega]; exact nch_300
    rw [c300, ← b4] at bound
    have c : ¬ nI (i + 1) ≤ 0 := nI_nle (by omega) (by omega)
    have N := m_nx (m := m) (k := y + 1) (x := nI y) (h := h) ok (by omega) (nI_1 y) b4.symm
    have I := m_opt_loop ok i L (y + 1) f (by omega) b4.symm len
    have lm : nI (i + 1) + (-1) = nI i := by
      refine ti_eq ?_
      rw [ti_add (by rw [tm1, ti_nI (by omega)]; omega) (by rw [tm1, ti_nI (by omega)]; omega), tm1, ti_nI (by omega), ti_nI (by omega)]
      omega
    rw [show i + 1 + f + 1 = (i + f + 1) + 1 by omega]
    constructor
    · show (if nI (i + 1) ≤ 0 then _ else fX6_option_c36 m (i + f + 1) (fX6_nextCode m (nI y) h) (nI (i + 1) + (-1)) h) = _
      rw [if_neg c, N.1, lm]
      exact I.1
    · refine ⟨fun q => absurd q c, fun _ => ⟨N.2, ?_⟩⟩
      show sX6_option_c36 m (i + f + 1) (fX6_nextCode m (nI y) h) (nI (i + 1) + (-1)) h
      rw [N.1, lm]
      exact I.2
theorem possible_ok {a m : Nat} {B : Int} {h : HH} (d : a + 110 ≤ m) (inv : INV B a m h) : sX5_possible a h ∧ Same a m B (sX6_possible m (fX5_possible a h).2) (fX5_possible a h).1 (fX6_possible m (fX5_possible a h).2) := by
  obtain ⟨⟨n, gi, cg, ch⟩, _⟩ := id inv
  obtain ⟨t, ok, _⟩ := gi_ok gi
  have L := c_list (a := a + 1) (r := a + 109) ok (by omega) cg
  obtain ⟨h1, e1⟩ : ∃ h1, wr (a + 109) (okl n t (h (m + 1))) 0 h = h1 := ⟨_, rfl⟩
  rw [e1] at L
  have f1 (q : Nat) (hq : q ≠ a + 109) : h1 q = h q := by rw [← e1, wr_o hq]
  have C : fX5_possible a h = (nI (okl n t (h (m + 1))).length, h1) := by
    unfold fX5_possible fX5_possible_c0 fX5_possible_c11
    rw [L.1]
  have R : hset h1 m 4 0 (m + 1) = h (m + 1) := by rw [hset_o _ _ _ _ (by omega), f1 _ (by omega)]
  have P := m_poss (m := m) (n := n) (t := t) (h := hset h1 m 4 0) (by rw [R]; exact ok)
  rw [R] at P
  rw [C]
  refine ⟨L.2, P.2, ?_, INV_keep (keep_tr (keep_se d (fun q hq => f1 q (by omega))) (keep_m d (by decide))) inv⟩
  show nI (okl n t (h (m + 1))).length = fX6_possibles m (hset h1 m 4 0)
  rw [P.1]
theorem option_ok {a m o : Nat} {B : Int} {h : HH} (d : a + 110 ≤ m ∧ m + 6 ≤ o) (inv : INV B a m h) (x1 : Int32) : Good a m o B (sL_option a x1 o h) (fL_option a x1 o h) (sX6_option m x1) (fX6_option m x1) := by
  obtain ⟨⟨n, gi, cg, ch⟩, _⟩ := id inv
  show Good a m o B (sX5_option a x1 h ∧ ((fX5_option a x1 h).1 = 0 ∨ (fX5_option a x1 h).1 = 2)) (W1 o (fX5_option a x1 h)) _ _
  obtain ⟨t, ok, _⟩ := gi_ok gi
  have L := c_list (a := a + 1) (r := a + 109) ok (by omega) cg
  have len := okl_len n t (h (m + 1))
  obtain ⟨h1, e1⟩ : ∃ h1, wr (a + 109) (okl n t (h (m + 1))) 0 h = h1 := ⟨_, rfl⟩
  have op : opt (h1 (a + 109)) (okl n t (h (m + 1))) 0 := by rw [← e1]; exact wr_opt _ 0 h
  rw [e1] at L
  have f1 (q : Nat) (hq : q ≠ a + 109) : h1 q = h q := by rw [← e1, wr_o hq]
  have kp : Keep a m h h1 := keep_se d.1 (fun q hq => f1 q (by omega))
  have PP (h' : HH) (e : h' (m + 1) = h (m + 1)) : fX6_possibles m h' = nI (okl n t (h (m + 1))).length ∧ sX6_possibles m h' := by
    have P := m_poss (m := m) (n := n) (t := t) (h := h') (by rw [e]; exact ok)
    rw [e] at P
    exact P
  obtain ⟨O, eO⟩ : ∃ O, okl n t (h (m + 1)) = O := ⟨_, rfl⟩
  rw [eO] at len L op PP
  have lq : (nI O.length - 1 : Int32).toInt = O.length - 1 := by
    rw [ti_sub (by rw [t1, ti_nI (by omega)]; omega) (by rw [t1, ti_nI (by omega)]; omega), t1, ti_nI (by omega)]
  have ge : nI O.length ≤ x1 ↔ (nI O.length - 1 : Int32) < x1 := by
    rw [ti_le, ti_lt, lq, ti_nI (by omega)]
    omega
  by_cases c1 : x1 < 0
  · exact q1 d inv keep_refl (e := 2) (v := 0) (w := 0) (r := 1) ⟨by simp only [fX5_option_c24, fX5_option_c23, fX5_option_c16, fX5_option_c0, fX5_option, c1, rf0, rf1, rf2, ra0, ra1, ri0, ri1, rs0, rs1, bf, bt, n10, n20, n30, if_true, if_false, true_implies, false_implies, not_true_eq_false, not_false_eq_true, and_true, true_and, and_self, implies_true], by simp only [sX5_option_c24, sX5_option_c23, sX5_option_c16, sX5_option_c0, sX5_option, c1, rf0, rf1, rf2, ra0, ra1, ri0, ri1, rs0, rs1, bf, bt, n10, n20, n30, if_true, if_false, true_implies, false_implies, not_true_eq_false, not_false_eq_true, and_true, true_and, and_self, implies_true]⟩ (fun h' e => ⟨by simp only [fX6_option_c23, fX6_option_c20, fX6_option_c0, fX6_option, PP h' e, wi_f1 (hi := nI O.length - 1) c1, rf0, rf1, rf2, ra0, ra1, ri0, ri1, rs0, rs1, bf, bt, n10, n20, n30, if_true, if_false, true_implies, false_implies, not_true_eq_false, not_false_eq_true, and_true, true_and, and_self, implies_true], by simp only [sX6_option_c23, sX6_option_c20, sX6_option_c0, sX6_option, PP h' e, wi_f1 (hi := nI O.length - 1) c1, rf0, rf1, rf2, ra0, ra1, ri0, ri1, rs0, rs1, bf, bt, n10, n20, n30, if_true, if_false, true_implies, false_implies, not_true_eq_false, not_false_eq_true, and_true, true_and, and_self, implies_true]⟩) (by decide) (Or.inr ⟨rfl, rfl⟩)
  · by_cases c2 : nI O.length ≤ x1
    · exact q1 d inv kp (e := 2) (v := 0) (w := 0) (r := 1) ⟨by simp only [fX5_option_c24, fX5_option_c23, fX5_option_c16, fX5_option_c0, fX5_option, c1, L.1, c2, rf0, rf1, rf2, ra0, ra1, ri0, ri1, rs0, rs1, bf, bt, n10, n20, n30, if_true, if_false, true_implies, false_implies, not_true_eq_false, not_false_eq_true, and_true, true_and, and_self, implies_true], by simp only [sX5_option_c24, sX5_option_c23, sX5_option_c16, sX5_option_c0, sX5_option, c1, L.1, L.2, c2, rf0, rf1, rf2, ra0, ra1, ri0, ri1, rs0, rs1, bf, bt, n10, n20, n30, if_true, if_false, true_implies, false_implies, not_true_eq_false, not_false_eq_true, and_true, true_and, and_self, implies_true]⟩ (fun h' e => ⟨by simp only [fX6_option_c23, fX6_option_c20, fX6_option_c0, fX6_option, PP h' e, wi_f2 (hi := nI O.length - 1) c1 (ge.mp c2), rf0, rf1, rf2, ra0, ra1, ri0, ri1, rs0, rs1, bf, bt, n10, n20, n30, if_true, if_false, true_implies, false_implies, not_true_eq_false, not_false_eq_true, and_true, true_and, and_self, implies_true], by simp only [sX6_option_c23, sX6_option_c20, sX6_option_c0, sX6_option, PP h' e, wi_f2 (hi := nI O.length - 1) c1 (ge.mp c2), rf0, rf1, rf2, ra0, ra1, ri0, ri1, rs0, rs1, bf, bt, n10, n20, n30, if_true, if_false, true_implies, false_implies, not_true_eq_false, not_false_eq_true, and_true, true_and, and_self, implies_true]⟩) (by decide) (Or.inr ⟨rfl, rfl⟩)
    · obtain ⟨i, hi, rfl⟩ := rng (N := O.length) (by omega) c1 c2
      have W := wi_t (lo := 0) (hi := nI O.length - 1) c1 (fun z => c2 (ge.mpr z))
      have ki : (nI i).toNatClampNeg = i := nclamp (by omega)
      have vi : vp_in (nI i) 40 := v_of (by omega) (by decide)
      have V : h1 (a + 109) i = nI (told (nth O i)) := by
        have := opt_nth O 0 i op hi
        rw [Nat.zero_add] at this
        exact this
      have R (h' : HH) (e : h' (m + 1) = h (m + 1)) : hset h' m 4 0 (m + 1) = h (m + 1) := by rw [hset_o _ _ _ _ (by omega), e]
      have N (h' : HH) (e : h' (m + 1) = h (m + 1)) := m_nx (m := m) (n := n) (t := t) (k := 0) (x := -1) (h := hset h' m 4 0) (L := O) (by rw [R h' e]; exact ok) (by omega) (by decide) (by rw [R h' e]; exact eO)
      have G (h' : HH) (e : h' (m + 1) = h (m + 1)) : fX6_option_c36 m 302 (hd O) (nI i) (hset h' m 4 0) = (nI (told (nth O i)), hset h' m 4 0) ∧ sX6_option_c36 m 302 (hd O) (nI i) (hset h' m 4 0) := by
        have := m_opt_loop (m := m) (n := n) (t := t) (h := hset h' m 4 0) (by rw [R h' e]; exact ok) i O 0 (301 - i) (by omega) (by rw [R h' e]; exact eO) hi
        rw [show i + (301 - i) + 1 = 302 by omega] at this
        exact this
      exact q1 d inv kp (e := 0) (v := nI (told (nth O i))) (w := nI (told (nth O i))) (r := 0) ⟨by simp only [fX5_option_c24, fX5_option_c23, fX5_option_c16, fX5_option_c0, fX5_option, c1, L.1, c2, ki, V, rf0, rf1, rf2, ra0, ra1, ri0, ri1, rs0, rs1, bf, bt, n10, n20, n30, if_true, if_false, true_implies, false_implies, not_true_eq_false, not_false_eq_true, and_true, true_and, and_self, implies_true], by simp only [sX5_option_c24, sX5_option_c23, sX5_option_c16, sX5_option_c0, sX5_option, c1, L.1, L.2, c2, vi, rf0, rf1, rf2, ra0, ra1, ri0, ri1, rs0, rs1, bf, bt, n10, n20, n30, if_true, if_false, true_implies, false_implies, not_true_eq_false, not_false_eq_true, and_true, true_and, and_self, implies_true]⟩ (fun h' e => ⟨by simp only [fX6_option_c23, fX6_option_c20, fX6_option_c0, fX6_option, PP h' e, W, (N h' e).1, (G h' e).1, rf0, rf1, rf2, ra0, ra1, ri0, ri1, rs0, rs1, bf, bt, n10, n20, n30, if_true, if_false, true_implies, false_implies, not_true_eq_false, not_false_eq_true, and_true, true_and, and_self, implies_true], by simp only [sX6_option_c23, sX6_option_c20, sX6_option_c0, sX6_option, PP h' e, W, (N h' e).1, (N h' e).2, (G h' e).2, rf0, rf1, rf2, ra0, ra1, ri0, ri1, rs0, rs1, bf, bt, n10, n20, n30, if_true, if_false, true_implies, false_implies, not_true_eq_false, not_false_eq_true, and_true, true_and, and_self, implies_true]⟩) (by decide) (Or.inl ⟨rfl, rfl, rfl⟩)
