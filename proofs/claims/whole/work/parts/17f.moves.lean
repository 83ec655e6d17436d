/-! the moves on both sides -/
theorem wi_of {x lo hi : Int32} (h : fX6_within x lo hi = true) : ¬ x < lo ∧ ¬ hi < x := by
  have h : (if x < lo then false else if hi < x then false else true) = true := h
  by_cases c1 : x < lo
  · rw [if_pos c1] at h
    cases h
  · rw [if_neg c1] at h
    by_cases c2 : hi < x
    · rw [if_pos c2] at h
      cases h
    · exact ⟨c1, c2⟩
theorem st_place {B : Int} {a n t s j : Nat} {h : HH} {g : Nat → Int32} (hB : B ≤ 70000000) (hB3 : 3 ≤ B) (gi : GI B n g) (tk : TK n t g) (hs : s < 12) (hj : j < 25) (hw : G_why n t g s (nI j) = 0) (cg : CG n a h g) (ch : CH a h g) : ∃ q, SA (B + 51) a (fX0_makePlacement a (nI s) (nI j) h) (G_places n t q s (nI j) g) ∧ sX0_makePlacement a (nI s) (nI j) h ∧ Out a (a + 15) h (fX0_makePlacement a (nI s) (nI j) h) ∧ ∀ (m : Nat) (h' : HH), h' (m + 1) = g → fX6_places m (nI s) (nI j) h' = hrow h' (m + 1) (G_places n t q s (nI j) g) ∧ sX6_places m (nI s) (nI j) h' := by
  obtain ⟨w1, w2, w3, w4⟩ := why_ok hw
  obtain ⟨h3, h7, hr⟩ := tk.2 w1
  have htn := tk.1.2.1
  have CI := comes_inv hB gi htn h3 h7 hr hs hj hw
  obtain ⟨a1, a2, a3, a4, a5, a6, a7, a8, a9, a10, a11⟩ := id gi
  have Pl := c_place (a := a) (h := h) (B := B + 40) (by omega) a1 a2 htn a3 h3 ⟨a4.1, hr, a4.2.2.2⟩ hs hj ⟨(a8 s hs).1, (a9 s hs).1⟩ (fun z => by
    subst z
    exact ⟨ch_9 hj w3, (a7 t htn).2.2.2.2.2.2, own_none a2 (can_9 w4) t htn⟩) CI.1 cg ch
  obtain ⟨q, hq, e85, p1, p2, p3, p4⟩ := Pl
  refine ⟨q, ⟨n, gi_places hB hB3 gi htn h3 h7 hr hs hj hw hq, p1, p2⟩, p3, p4, fun m h' e => ?_⟩
  have M := m_places (m := m) (n := n) (t := t) (q := q) (s := s) (j := j) (h := h') a1 a2 htn (by rw [e]; exact a3) (by rw [e]; exact h3) hq (by rw [e]; exact e85) hs hj
  rw [e] at M
  exact M
theorem st_skip {B : Int} {a n t : Nat} {h : HH} {g : Nat → Int32} (hB : B ≤ 70000000) (hB3 : 3 ≤ B) (gi : GI B n g) (tk : TK n t g) (ov : bI (G_over g) = 0) (cg : CG n a h g) (ch : CH a h g) : ∃ q, SA (B + 51) a (fX0_makeSkip a h) (G_skips n t q g) ∧ sX0_makeSkip a h ∧ Out a (a + 15) h (fX0_makeSkip a h) ∧ ∀ (m : Nat) (h' : HH), h' (m + 1) = g → fX6_skips m h' = hrow h' (m + 1) (G_skips n t q g) ∧ sX6_skips m h' := by
  obtain ⟨h3, h7, hr⟩ := tk.2 ov
  have htn := tk.1.2.1
  obtain ⟨a1, a2, a3, a4, a5, a6, a7, a8, a9, a10, a11⟩ := id gi
  have Pl := c_skip (a := a) (h := h) (B := B) (by omega) a1 a2 htn a3 h3 ⟨a4.1, hr, a4.2.2.2⟩ (fun p hp => by
    by_cases e : p = t
    · subst e
      rw [if_pos rfl]
      exact pi_7 (by decide) (a7 p hp)
    · rw [if_neg e]
      exact a7 p hp) cg ch
  obtain ⟨q, hq, e85, p1, p2, p3, p4⟩ := Pl
  refine ⟨q, ⟨n, gi_skips hB hB3 gi htn hr hq, p1, p2⟩, p3, p4, fun m h' e => ?_⟩
  have M := m_skips (m := m) (n := n) (t := t) (q := q) (h := h') a1 a2 htn (by rw [e]; exact a3) (by rw [e]; exact h3) hq (by rw [e]; exact e85)
  rw [e] at M
  exact M
def kk (k : Nat) : Nat := if k = 4 then 4 else k + 1
theorem both_push {B : Int} {a m : Nat} {h : HH} (inv : INV B a m h) : ∃ k, h m 3 = nI k ∧ UC B (a + 16) (fX4_push (a + 16) (a + 1) h) (kk k) (G_save k (h (m + 1)) (h (m + 2))) ∧ sX4_push (a + 16) (a + 1) h ∧ Out (a + 16) (a + 78) h (fX4_push (a + 16) (a + 1) h) ∧ ∀ h' : HH, h' m 3 = nI k → h' (m + 1) = h (m + 1) → h' (m + 2) = h (m + 2) → fX6_saves m h' = hset (hrow h' (m + 2) (G_save k (h (m + 1)) (h (m + 2)))) m 3 (nI (kk k)) ∧ sX6_saves m h' := by
  obtain ⟨sa, k, e3, uc⟩ := inv
  have Pu := c_push (u := a + 16) (a := a + 1) (by omega) uc sa
  refine ⟨k, e3, Pu.1, Pu.2.1, out_mono (by omega) (by omega) Pu.2.2, fun h' q3 q1 q2 => ?_⟩
  have S := m_saves (m := m) (k := k) (h := h') uc.1 q3
  rw [q1, q2] at S
  exact S
theorem fin_inv {B : Int} {a m k : Nat} {hF hM : HH} {gF S : Nat → Int32} (sa : SA B (a + 1) hF gF) (uc : UC B (a + 16) hF k S) (e : ∀ q, a + 1 ≤ q → q < a + 78 → hM q = hF q) (e3 : hM m 3 = nI k) (e1 : hM (m + 1) = gF) (e2 : hM (m + 2) = S) : INV B a m hM := by
  refine ⟨?_, k, e3, ?_⟩
  · rw [e1]
    exact SA_h (fun q q1 q2 => e q (by omega) (by omega)) sa
  · rw [e2]
    exact UC_h (fun q q1 q2 => e q (by omega) (by omega)) uc
/-- the model's heap behind a saved state and a new row -/
def mHp (m : Nat) (h : HH) (S : Nat → Int32) (k : Nat) (g : Nat → Int32) : HH := hrow (hset (hrow (hset h m 4 0) (m + 2) S) m 3 (nI k)) (m + 1) g
theorem mHp_v {m k : Nat} {h : HH} {S g : Nat → Int32} : mHp m h S k g m 4 = 0 ∧ mHp m h S k g m 3 = nI k ∧ mHp m h S k g (m + 1) = g ∧ mHp m h S k g (m + 2) = S ∧ ∀ q, q ≠ m → q ≠ m + 1 → q ≠ m + 2 → mHp m h S k g q = h q := by
  unfold mHp
  refine ⟨?_, ?_, hrow_s, ?_, fun q q1 q2 q3 => ?_⟩
  · rw [hrow_o (by omega), hset_s, upd_o (by decide), hrow_o (by omega), hset_s, upd_s]
  · rw [hrow_o (by omega), hset_s, upd_s]
  · rw [hrow_o (by omega), hset_o _ _ _ _ (by omega), hrow_s]
  · rw [hrow_o q2, hset_o _ _ _ _ q1, hrow_o q3, hset_o _ _ _ _ q1]
/-- what the wrapper leaves: the model's part is that of before -/
theorem w2_v {o : Nat} {c : Nat × Int32 × HH} : ∀ q, q ≠ o → (W2 o c).2 q = c.2.2 q := fun q hq => by
  unfold W2
  split
  · show hset (hset c.2.2 o 0 _) o 1 _ q = _
    rw [hset_o _ _ _ _ hq, hset_o _ _ _ _ hq]
  · split <;> rfl
theorem w1_v {o : Nat} {c : Nat × Int32 × HH} : ∀ q, q ≠ o → (W1 o c).2 q = c.2.2 q := fun q hq => by
  unfold W1
  split
  · show hset (hset c.2.2 o 0 _) o 1 _ q = _
    rw [hset_o _ _ _ _ hq, hset_o _ _ _ _ hq]
  · rfl
theorem newGame_ok {a m o : Nat} {B : Int} {h : HH} (hB4 : 4 ≤ B) (d : a + 110 ≤ m ∧ m + 6 ≤ o) (inv : INV B a m h) (x1 x2 : Int32) : Good a m o B (sL_newGame a x1 x2 o h) (fL_newGame a x1 x2 o h) (sX6_newGame m x1 x2) (fX6_newGame m x1 x2) := by
  obtain ⟨⟨n, gi, cg, ch⟩, _⟩ := id inv
  show Good a m o B (sX5_newGame a x1 x2 h ∧ ((fX5_newGame a x1 x2 h).1 = 0 ∨ (fX5_newGame a x1 x2 h).1 = 1)) (W1 o (fX5_newGame a x1 x2 h)) _ _
  by_cases c1 : x1 < 2
  · exact q1 d inv keep_refl (e := 1) (v := 0) (w := 0) (r := 1) ⟨by simp only [fX5_newGame_c52, fX5_newGame_c34, fX5_newGame_c33, fX5_newGame_c15, fX5_newGame_c14, fX5_newGame_c0, fX5_newGame, c1, rf0, rf1, rf2, ra0, ra1, ri0, ri1, rs0, rs1, bf, bt, n10, n20, n30, if_true, if_false, true_implies, false_implies, not_true_eq_false, not_false_eq_true, and_true, true_and, and_self, implies_true], by simp only [sX5_newGame_c52, sX5_newGame_c34, sX5_newGame_c33, sX5_newGame_c15, sX5_newGame_c14, sX5_newGame_c0, sX5_newGame, c1, rf0, rf1, rf2, ra0, ra1, ri0, ri1, rs0, rs1, bf, bt, n10, n20, n30, if_true, if_false, true_implies, false_implies, not_true_eq_false, not_false_eq_true, and_true, true_and, and_self, implies_true]⟩ (fun h' e => ⟨by simp only [fX6_newGame_c42, fX6_newGame_c28, fX6_newGame_c25, fX6_newGame_c24, fX6_newGame_c0, fX6_newGame, wi_f1 (hi := 4) c1, rf0, rf1, rf2, ra0, ra1, ri0, ri1, rs0, rs1, bf, bt, n10, n20, n30, if_true, if_false, true_implies, false_implies, not_true_eq_false, not_false_eq_true, and_true, true_and, and_self, implies_true], by simp only [sX6_newGame_c42, sX6_newGame_c28, sX6_newGame_c25, sX6_newGame_c24, sX6_newGame_c0, sX6_newGame, wi_f1 (hi := 4) c1, rf0, rf1, rf2, ra0, ra1, ri0, ri1, rs0, rs1, bf, bt, n10, n20, n30, if_true, if_false, true_implies, false_implies, not_true_eq_false, not_false_eq_true, and_true, true_and, and_self, implies_true]⟩) (by decide) (Or.inr ⟨rfl, rfl⟩)
  · by_cases c2 : 4 < x1
    · exact q1 d inv keep_refl (e := 1) (v := 0) (w := 0) (r := 1) ⟨by simp only [fX5_newGame_c52, fX5_newGame_c34, fX5_newGame_c33, fX5_newGame_c15, fX5_newGame_c14, fX5_newGame_c0, fX5_newGame, c1, c2, rf0, rf1, rf2, ra0, ra1, ri0, ri1, rs0, rs1, bf, bt, n10, n20, n30, if_true, if_false, true_implies, false_implies, not_true_eq_false, not_false_eq_true, and_true, true_and, and_self, implies_true], by simp only [sX5_newGame_c52, sX5_newGame_c34, sX5_newGame_c33, sX5_newGame_c15, sX5_newGame_c14, sX5_newGame_c0, sX5_newGame, c1, c2, rf0, rf1, rf2, ra0, ra1, ri0, ri1, rs0, rs1, bf, bt, n10, n20, n30, if_true, if_false, true_implies, false_implies, not_true_eq_false, not_false_eq_true, and_true, true_and, and_self, implies_true]⟩ (fun h' e => ⟨by simp only [fX6_newGame_c42, fX6_newGame_c28, fX6_newGame_c25, fX6_newGame_c24, fX6_newGame_c0, fX6_newGame, wi_f2 (hi := 4) c1 c2, rf0, rf1, rf2, ra0, ra1, ri0, ri1, rs0, rs1, bf, bt, n10, n20, n30, if_true, if_false, true_implies, false_implies, not_true_eq_false, not_false_eq_true, and_true, true_and, and_self, implies_true], by simp only [sX6_newGame_c42, sX6_newGame_c28, sX6_newGame_c25, sX6_newGame_c24, sX6_newGame_c0, sX6_newGame, wi_f2 (hi := 4) c1 c2, rf0, rf1, rf2, ra0, ra1, ri0, ri1, rs0, rs1, bf, bt, n10, n20, n30, if_true, if_false, true_implies, false_implies, not_true_eq_false, not_false_eq_true, and_true, true_and, and_self, implies_true]⟩) (by decide) (Or.inr ⟨rfl, rfl⟩)
    · have V1 := wi_t (lo := 2) (hi := 4) c1 c2
      by_cases c3 : x2 < 1
      · exact q1 d inv keep_refl (e := 1) (v := 0) (w := 0) (r := 1) ⟨by simp only [fX5_newGame_c52, fX5_newGame_c34, fX5_newGame_c33, fX5_newGame_c15, fX5_newGame_c14, fX5_newGame_c0, fX5_newGame, c1, c2, c3, rf0, rf1, rf2, ra0, ra1, ri0, ri1, rs0, rs1, bf, bt, n10, n20, n30, if_true, if_false, true_implies, false_implies, not_true_eq_false, not_false_eq_true, and_true, true_and, and_self, implies_true], by simp only [sX5_newGame_c52, sX5_newGame_c34, sX5_newGame_c33, sX5_newGame_c15, sX5_newGame_c14, sX5_newGame_c0, sX5_newGame, c1, c2, c3, rf0, rf1, rf2, ra0, ra1, ri0, ri1, rs0, rs1, bf, bt, n10, n20, n30, if_true, if_false, true_implies, false_implies, not_true_eq_false, not_false_eq_true, and_true, true_and, and_self, implies_true]⟩ (fun h' e => ⟨by simp only [fX6_newGame_c42, fX6_newGame_c28, fX6_newGame_c25, fX6_newGame_c24, fX6_newGame_c0, fX6_newGame, V1, wi_f1 (hi := 12) c3, rf0, rf1, rf2, ra0, ra1, ri0, ri1, rs0, rs1, bf, bt, n10, n20, n30, if_true, if_false, true_implies, false_implies, not_true_eq_false, not_false_eq_true, and_true, true_and, and_self, implies_true], by simp only [sX6_newGame_c42, sX6_newGame_c28, sX6_newGame_c25, sX6_newGame_c24, sX6_newGame_c0, sX6_newGame, V1, wi_f1 (hi := 12) c3, rf0, rf1, rf2, ra0, ra1, ri0, ri1, rs0, rs1, bf, bt, n10, n20, n30, if_true, if_false, true_implies, false_implies, not_true_eq_false, not_false_eq_true, and_true, true_and, and_self, implies_true]⟩) (by decide) (Or.inr ⟨rfl, rfl⟩)
      · by_cases c4 : 12 < x2
        · exact q1 d inv keep_refl (e := 1) (v := 0) (w := 0) (r := 1) ⟨by simp only [fX5_newGame_c52, fX5_newGame_c34, fX5_newGame_c33, fX5_newGame_c15, fX5_newGame_c14, fX5_newGame_c0, fX5_newGame, c1, c2, c3, c4, rf0, rf1, rf2, ra0, ra1, ri0, ri1, rs0, rs1, bf, bt, n10, n20, n30, if_true, if_false, true_implies, false_implies, not_true_eq_false, not_false_eq_true, and_true, true_and, and_self, implies_true], by simp only [sX5_newGame_c52, sX5_newGame_c34, sX5_newGame_c33, sX5_newGame_c15, sX5_newGame_c14, sX5_newGame_c0, sX5_newGame, c1, c2, c3, c4, rf0, rf1, rf2, ra0, ra1, ri0, ri1, rs0, rs1, bf, bt, n10, n20, n30, if_true, if_false, true_implies, false_implies, not_true_eq_false, not_false_eq_true, and_true, true_and, and_self, implies_true]⟩ (fun h' e => ⟨by simp only [fX6_newGame_c42, fX6_newGame_c28, fX6_newGame_c25, fX6_newGame_c24, fX6_newGame_c0, fX6_newGame, V1, wi_f2 (hi := 12) c3 c4, rf0, rf1, rf2, ra0, ra1, ri0, ri1, rs0, rs1, bf, bt, n10, n20, n30, if_true, if_false, true_implies, false_implies, not_true_eq_false, not_false_eq_true, and_true, true_and, and_self, implies_true], by simp only [sX6_newGame_c42, sX6_newGame_c28, sX6_newGame_c25, sX6_newGame_c24, sX6_newGame_c0, sX6_newGame, V1, wi_f2 (hi := 12) c3 c4, rf0, rf1, rf2, ra0, ra1, ri0, ri1, rs0, rs1, bf, bt, n10, n20, n30, if_true, if_false, true_implies, false_implies, not_true_eq_false, not_false_eq_true, and_true, true_and, and_self, implies_true]⟩) (by decide) (Or.inr ⟨rfl, rfl⟩)
        · have V2 := wi_t (lo := 1) (hi := 12) c3 c4
          obtain ⟨n', n0, n4, rfl⟩ := rng2 (lo := 2) (hi := 4) (by decide) c1 c2 (by decide)
          obtain ⟨R, R0, R1, rfl⟩ := rng2 (lo := 1) (hi := 12) (by decide) c3 c4 (by decide)
          obtain ⟨k, e3, uc, sp, ou, sv⟩ := both_push inv
          obtain ⟨h1, e1⟩ : ∃ h1, fX4_push (a + 16) (a + 1) h = h1 := ⟨_, rfl⟩
          rw [e1] at uc ou
          have Bg := c_begin (a := a + 1) (n := n') (R := nI R) (h := h1) (h (m + 1)) (by omega)
          obtain ⟨hF, eF⟩ : ∃ hF, fX0_begin (a + 1) (nI n') (nI R) h1 = hF := ⟨_, rfl⟩
          rw [eF] at Bg
          have oF := Bg.2.2.2
          have v2 : h1 (a + 1) 2 = h (m + 1) 2 := by rw [ou _ (by omega), cg.1 2 (by decide)]
          have C : fX5_newGame a (nI n') (nI R) h = (0, h (m + 1) 2 - 1, hF) := by simp only [fX5_newGame_c52, fX5_newGame_c34, fX5_newGame_c33, fX5_newGame_c15, fX5_newGame_c14, fX5_newGame_c0, fX5_newGame, c1, c2, c3, c4, e1, eF, v2, rf0, rf1, rf2, ra0, ra1, ri0, ri1, rs0, rs1, bf, bt, n10, n20, n30, if_true, if_false, true_implies, false_implies, not_true_eq_false, not_false_eq_true, and_true, true_and, and_self, implies_true]
          have sC : sX5_newGame a (nI n') (nI R) h := by simp only [sX5_newGame_c52, sX5_newGame_c34, sX5_newGame_c33, sX5_newGame_c15, sX5_newGame_c14, sX5_newGame_c0, sX5_newGame, c1, c2, c3, c4, sp, e1, Bg.2.2.1, rf0, rf1, rf2, ra0, ra1, ri0, ri1, rs0, rs1, bf, bt, n10, n20, n30, if_true, if_false, true_implies, false_implies, not_true_eq_false, not_false_eq_true, and_true, true_and, and_self, implies_true]
          obtain ⟨h', eh⟩ : ∃ h', (W1 o (fX5_newGame a (nI n') (nI R) h)).2 = h' := ⟨_, rfl⟩
          have w (q : Nat) (hq : q ≠ o) : h' q = hF q := by rw [← eh, w1_v q hq, C]
          have far (q : Nat) (hq : m ≤ q) (hq' : q ≠ o) : h' q = h q := by rw [w q hq', oF q (by omega), ou q (by omega)]
          have SV := sv (hset h' m 4 0) (by rw [hset_s, upd_o (by decide), far m (by omega) (by omega)]; exact e3) (by rw [hset_o _ _ _ _ (by omega), far _ (by omega) (by omega)]) (by rw [hset_o _ _ _ _ (by omega), far _ (by omega) (by omega)])
          obtain ⟨hS, eS⟩ : ∃ hS, hset (hrow (hset h' m 4 0) (m + 2) (G_save k (h (m + 1)) (h (m + 2)))) m 3 (nI (kk k)) = hS := ⟨_, rfl⟩
          rw [eS] at SV
          have rS : hS (m + 1) = h (m + 1) := by rw [← eS, hset_o _ _ _ _ (by omega), hrow_o (by omega), hset_o _ _ _ _ (by omega), far _ (by omega) (by omega)]
          have BG := m_begin (m := m) (n := n') (R := nI R) (h := hS) (by omega)
          rw [rS] at BG
          have eM : hrow hS (m + 1) (G_begin n' (nI R) (h (m + 1))) = mHp m h' (G_save k (h (m + 1)) (h (m + 2))) (kk k) (G_begin n' (nI R) (h (m + 1))) := by rw [← eS]; rfl
          rw [eM] at BG
          have Mv := mHp_v (m := m) (k := kk k) (h := h') (S := G_save k (h (m + 1)) (h (m + 2))) (g := G_begin n' (nI R) (h (m + 1)))
          obtain ⟨hM, eH⟩ : ∃ hM, mHp m h' (G_save k (h (m + 1)) (h (m + 2))) (kk k) (G_begin n' (nI R) (h (m + 1))) = hM := ⟨_, rfl⟩
          rw [eH] at BG Mv
          have kz : (2 : Int32).toNatClampNeg = 2 := by decide
          have vz : vp_in (2 : Int32) 206 := vpd (by decide)
          have IN : INV B a m hM := fin_inv (hF := hF) ⟨n', GI_mono hB4 (gi_begin (Rn := R) n0 n4 R0 R1), Bg.1, Bg.2.1⟩ (UC_h (fun q q1 q2 => oF q (by omega)) uc) (fun q q1 q2 => by rw [Mv.2.2.2.2 q (by omega) (by omega) (by omega), w q (by omega)]) Mv.2.1 Mv.2.2.1 Mv.2.2.2.1
          refine g1 (hM := hM) C sC (w := h (m + 1) 2 - 1) (r := 0) ?_ ?_ Mv.1 (by rw [eh, Mv.2.2.2.2 o (by omega) (by omega) (by omega)]) IN (by decide) (Or.inl ⟨rfl, rfl, rfl⟩)
          · rw [eh]
            simp only [fX6_newGame_c42, fX6_newGame_c28, fX6_newGame_c25, fX6_newGame_c24, fX6_newGame_c0, fX6_newGame, V1, V2, SV.1, kz, rS, BG.1, rf0, rf1, rf2, ra0, ra1, ri0, ri1, rs0, rs1, bf, bt, n10, n20, n30, if_true, if_false, true_implies, false_implies, not_true_eq_false, not_false_eq_true, and_true, true_and, and_self, implies_true]
          · rw [eh]
            simp only [sX6_newGame_c42, sX6_newGame_c28, sX6_newGame_c25, sX6_newGame_c24, sX6_newGame_c0, sX6_newGame, V1, V2, SV.1, SV.2, vz, BG.2, rf0, rf1, rf2, ra0, ra1, ri0, ri1, rs0, rs1, bf, bt, n10, n20, n30, if_true, if_false, true_implies, false_implies, not_true_eq_false, not_false_eq_true, and_true, true_and, and_self, implies_true]
theorem place_ok {a m o : Nat} {B : Int} {h : HH} (hB4 : 4 ≤ B) (hB : B ≤ 70000000) (d : a + 110 ≤ m ∧ m + 6 ≤ o) (inv : INV B a m h) (x1 x2 : Int32) : Good a m o (B + 51) (sL_place a x1 x2 o h) (fL_place a x1 x2 o h) (sX6_place m x1 x2) (fX6_place m x1 x2) := by
  have inv0 := inv
  replace inv := INV_mono (show B ≤ B + 51 by omega) inv
  obtain ⟨⟨n, gi, cg, ch⟩, _⟩ := id inv0
  show Good a m o (B + 51) (sX5_place a x1 x2 h ∧ ((fX5_place a x1 x2 h).1 = 0 ∨ (fX5_place a x1 x2 h).1 = 2 ∨ (fX5_place a x1 x2 h).1 = 3)) (W2 o (fX5_place a x1 x2 h)) _ _
  by_cases c1 : x1 < 0
  · exact q2 d inv keep_refl (e := 2) (v := 0) (w := 0) (r := 1) ⟨by simp only [fX5_place_c62, fX5_place_c55, fX5_place_c35, fX5_place_c15, fX5_place_c14, fX5_place_c0, fX5_place, c1, rf0, rf1, rf2, ra0, ra1, ri0, ri1, rs0, rs1, bf, bt, n10, n20, n30, if_true, if_false, true_implies, false_implies, not_true_eq_false, not_false_eq_true, and_true, true_and, and_self, implies_true], by simp only [sX5_place_c55, sX5_place_c35, sX5_place_c15, sX5_place_c14, sX5_place_c0, sX5_place, c1, rf0, rf1, rf2, ra0, ra1, ri0, ri1, rs0, rs1, bf, bt, n10, n20, n30, if_true, if_false, true_implies, false_implies, not_true_eq_false, not_false_eq_true, and_true, true_and, and_self, implies_true]⟩ (fun h' e => ⟨by simp only [fX6_place_c49, fX6_place_c41, fX6_place_c29, fX6_place_c26, fX6_place_c0, fX6_place, fX6_isSpace, fX6_isSpace_c0, wi_f1 (hi := 11) c1, rf0, rf1, rf2, ra0, ra1, ri0, ri1, rs0, rs1, bf, bt, n10, n20, n30, if_true, if_false, true_implies, false_implies, not_true_eq_false, not_false_eq_true, and_true, true_and, and_self, implies_true], by simp only [sX6_place_c49, sX6_place_c41, sX6_place_c29, sX6_place_c26, sX6_place_c0, sX6_place, fX6_isSpace, fX6_isSpace_c0, wi_f1 (hi := 11) c1, rf0, rf1, rf2, ra0, ra1, ri0, ri1, rs0, rs1, bf, bt, n10, n20, n30, if_true, if_false, true_implies, false_implies, not_true_eq_false, not_false_eq_true, and_true, true_and, and_self, implies_true]⟩) (by decide) (Or.inr (Or.inl ⟨rfl, rfl⟩))
  · by_cases c2 : 12 ≤ x1
    · exact q2 d inv keep_refl (e := 2) (v := 0) (w := 0) (r := 1) ⟨by simp only [fX5_place_c62, fX5_place_c55, fX5_place_c35, fX5_place_c15, fX5_place_c14, fX5_place_c0, fX5_place, c1, c2, rf0, rf1, rf2, ra0, ra1, ri0, ri1, rs0, rs1, bf, bt, n10, n20, n30, if_true, if_false, true_implies, false_implies, not_true_eq_false, not_false_eq_true, and_true, true_and, and_self, implies_true], by simp only [sX5_place_c55, sX5_place_c35, sX5_place_c15, sX5_place_c14, sX5_place_c0, sX5_place, c1, c2, rf0, rf1, rf2, ra0, ra1, ri0, ri1, rs0, rs1, bf, bt, n10, n20, n30, if_true, if_false, true_implies, false_implies, not_true_eq_false, not_false_eq_true, and_true, true_and, and_self, implies_true]⟩ (fun h' e => ⟨by simp only [fX6_place_c49, fX6_place_c41, fX6_place_c29, fX6_place_c26, fX6_place_c0, fX6_place, fX6_isSpace, fX6_isSpace_c0, wi_f2 (hi := 11) c1 ((le_lt (lo := 11) (hi := 12) rfl).mp c2), rf0, rf1, rf2, ra0, ra1, ri0, ri1, rs0, rs1, bf, bt, n10, n20, n30, if_true, if_false, true_implies, false_implies, not_true_eq_false, not_false_eq_true, and_true, true_and, and_self, implies_true], by simp only [sX6_place_c49, sX6_place_c41, sX6_place_c29, sX6_place_c26, sX6_place_c0, sX6_place, fX6_isSpace, fX6_isSpace_c0, wi_f2 (hi := 11) c1 ((le_lt (lo := 11) (hi := 12) rfl).mp c2), rf0, rf1, rf2, ra0, ra1, ri0, ri1, rs0, rs1, bf, bt, n10, n20, n30, if_true, if_false, true_implies, false_implies, not_true_eq_false, not_false_eq_true, and_true, true_and, and_self, implies_true]⟩) (by decide) (Or.inr (Or.inl ⟨rfl, rfl⟩))
    · obtain ⟨s, hs, rfl⟩ := rng (N := 12) (by decide) c1 c2
      have W := wi_t (lo := 0) (hi := 11) c1 (fun z => c2 ((le_lt (lo := 11) (hi := 12) rfl).mpr z))
      obtain ⟨t, tk⟩ : ∃ t, TK n t (h (m + 1)) := gi_ok gi
      have hn4 := gi.2.1
      have g0 := gi.2.2.1
      obtain ⟨_, htn, _, h3, ho, h50⟩ := tk.1
      obtain ⟨k0, hk0, e50⟩ := h50 s hs
      have V := c_why (a := a + 1) (c := x2) hn4 htn g0 h3 ho hs hk0 e50 cg
      have G (h' : HH) (e : h' (m + 1) = h (m + 1)) : fX6_why m (nI s) x2 h' = G_why n t (h (m + 1)) s x2 ∧ sX6_why m (nI s) x2 h' := by
        have := m_why (m := m) (n := n) (t := t) (s := s) (c := x2) (h := h') hn4 (by rw [e]; exact g0) (by omega) (by rw [e]; exact h3) hs
        rw [e] at this
        exact this
      by_cases c5 : G_why n t (h (m + 1)) s x2 = 0
      · obtain ⟨j, hj, rfl⟩ := ch_j (why_ok c5).2.2.1
        obtain ⟨k, e3, uc, spp, ou, sv⟩ := both_push inv
        obtain ⟨h1, e1⟩ : ∃ h1, fX4_push (a + 16) (a + 1) h = h1 := ⟨_, rfl⟩
        rw [e1] at uc ou
        have cg1 : CG n (a + 1) h1 (h (m + 1)) := CG_fr hn4 (fun q q1 q2 => ou q (by omega)) cg
        have ch1 : CH (a + 1) h1 (h (m + 1)) := CH_h (ou _ (by omega)) (ou _ (by omega)) ch
        obtain ⟨qn, SAF, sF, oF, mF⟩ := st_place (B := B) (a := a + 1) (h := h1) hB (by omega) gi tk hs hj c5 cg1 ch1
        obtain ⟨gF, eg⟩ : ∃ gF, G_places n t qn s (nI j) (h (m + 1)) = gF := ⟨_, rfl⟩
        rw [eg] at SAF mF
        obtain ⟨hF, eF⟩ : ∃ hF, fX0_makePlacement (a + 1) (nI s) (nI j) h1 = hF := ⟨_, rfl⟩
        rw [eF] at SAF oF
        have v3 : hF (a + 1) 3 = gF 3 := by obtain ⟨_, _, x, _⟩ := SAF; exact x.1 3 (by decide)
        have C : fX5_place a (nI s) (nI j) h = (0, gF 3, hF) := by simp only [fX5_place_c62, fX5_place_c55, fX5_place_c35, fX5_place_c15, fX5_place_c14, fX5_place_c0, fX5_place, c1, c2, V.1, c5, e1, eF, v3, rf0, rf1, rf2, ra0, ra1, ri0, ri1, rs0, rs1, bf, bt, n10, n20, n30, if_true, if_false, true_implies, false_implies, not_true_eq_false, not_false_eq_true, and_true, true_and, and_self, implies_true]
        have sC : sX5_place a (nI s) (nI j) h := by simp only [sX5_place_c55, sX5_place_c35, sX5_place_c15, sX5_place_c14, sX5_place_c0, sX5_place, c1, c2, V.1, V.2, c5, spp, e1, sF, rf0, rf1, rf2, ra0, ra1, ri0, ri1, rs0, rs1, bf, bt, n10, n20, n30, if_true, if_false, true_implies, false_implies, not_true_eq_false, not_false_eq_true, and_true, true_and, and_self, implies_true]
        obtain ⟨h', eh⟩ : ∃ h', (W2 o (fX5_place a (nI s) (nI j) h)).2 = h' := ⟨_, rfl⟩
        have w (q : Nat) (hq : q ≠ o) : h' q = hF q := by rw [← eh, w2_v q hq, C]
        have far (q : Nat) (hq : m ≤ q) (hq' : q ≠ o) : h' q = h q := by rw [w q hq', oF q (by omega), ou q (by omega)]
        have SV := sv (hset h' m 4 0) (by rw [hset_s, upd_o (by decide), far m (by omega) (by omega)]; exact e3) (by rw [hset_o _ _ _ _ (by omega), far _ (by omega) (by omega)]) (by rw [hset_o _ _ _ _ (by omega), far _ (by omega) (by omega)])
        obtain ⟨hS, eS⟩ : ∃ hS, hset (hrow (hset h' m 4 0) (m + 2) (G_save k (h (m + 1)) (h (m + 2)))) m 3 (nI (kk k)) = hS := ⟨_, rfl⟩
        rw [eS] at SV
        have rS : hS (m + 1) = h (m + 1) := by rw [← eS, hset_o _ _ _ _ (by omega), hrow_o (by omega), hset_o _ _ _ _ (by omega), far _ (by omega) (by omega)]
        have BG := mF m hS rS
        have eM : hrow hS (m + 1) gF = mHp m h' (G_save k (h (m + 1)) (h (m + 2))) (kk k) gF := by rw [← eS]; rfl
        rw [eM] at BG
        have Mv := mHp_v (m := m) (k := kk k) (h := h') (S := G_save k (h (m + 1)) (h (m + 2))) (g := gF)
        obtain ⟨hM, eH⟩ : ∃ hM, mHp m h' (G_save k (h (m + 1)) (h (m + 2))) (kk k) gF = hM := ⟨_, rfl⟩
        rw [eH] at BG Mv
        have kz : (3 : Int32).toNatClampNeg = 3 := by decide
        have vz : vp_in (3 : Int32) 206 := vpd (by decide)
        have Gw := G h' (far _ (by omega) (by omega))
        have IN : INV (B + 51) a m hM := fin_inv (hF := hF) SAF (UC_h (fun q q1 q2 => oF q (by omega)) uc) (fun q q1 q2 => by rw [Mv.2.2.2.2 q (by omega) (by omega) (by omega), w q (by omega)]) Mv.2.1 Mv.2.2.1 Mv.2.2.2.1
        refine g2 (hM := hM) C sC (w := gF 3) (r := 0) ?_ ?_ Mv.1 (by rw [eh, Mv.2.2.2.2 o (by omega) (by omega) (by omega)]) IN (by decide) (Or.inl ⟨rfl, rfl, rfl⟩)
        · rw [eh]
          simp only [fX6_place_c49, fX6_place_c41, fX6_place_c29, fX6_place_c26, fX6_place_c0, fX6_place, fX6_isSpace, fX6_isSpace_c0, W, Gw.1, c5, SV.1, kz, BG.1, Mv.2.2.1, rf0, rf1, rf2, ra0, ra1, ri0, ri1, rs0, rs1, bf, bt, n10, n20, n30, if_true, if_false, true_implies, false_implies, not_true_eq_false, not_false_eq_true, and_true, true_and, and_self, implies_true]
        · rw [eh]
          simp only [sX6_place_c49, sX6_place_c41, sX6_place_c29, sX6_place_c26, sX6_place_c0, sX6_place, fX6_isSpace, fX6_isSpace_c0, W, Gw.1, Gw.2, c5, SV.1, SV.2, vz, BG.1, BG.2, rf0, rf1, rf2, ra0, ra1, ri0, ri1, rs0, rs1, bf, bt, n10, n20, n30, if_true, if_false, true_implies, false_implies, not_true_eq_false, not_false_eq_true, and_true, true_and, and_self, implies_true]
      · exact q2 d inv keep_refl (e := 3) (v := 0) (w := 0) (r := 2) ⟨by simp only [fX5_place_c62, fX5_place_c55, fX5_place_c35, fX5_place_c15, fX5_place_c14, fX5_place_c0, fX5_place, c1, c2, V.1, V.2, c5, rf0, rf1, rf2, ra0, ra1, ri0, ri1, rs0, rs1, bf, bt, n10, n20, n30, if_true, if_false, true_implies, false_implies, not_true_eq_false, not_false_eq_true, and_true, true_and, and_self, implies_true], by simp only [sX5_place_c55, sX5_place_c35, sX5_place_c15, sX5_place_c14, sX5_place_c0, sX5_place, c1, c2, V.1, V.2, c5, rf0, rf1, rf2, ra0, ra1, ri0, ri1, rs0, rs1, bf, bt, n10, n20, n30, if_true, if_false, true_implies, false_implies, not_true_eq_false, not_false_eq_true, and_true, true_and, and_self, implies_true]⟩ (fun h' e => ⟨by simp only [fX6_place_c49, fX6_place_c41, fX6_place_c29, fX6_place_c26, fX6_place_c0, fX6_place, fX6_isSpace, fX6_isSpace_c0, W, (G h' e).1, (G h' e).2, c5, rf0, rf1, rf2, ra0, ra1, ri0, ri1, rs0, rs1, bf, bt, n10, n20, n30, if_true, if_false, true_implies, false_implies, not_true_eq_false, not_false_eq_true, and_true, true_and, and_self, implies_true], by simp only [sX6_place_c49, sX6_place_c41, sX6_place_c29, sX6_place_c26, sX6_place_c0, sX6_place, fX6_isSpace, fX6_isSpace_c0, W, (G h' e).1, (G h' e).2, c5, rf0, rf1, rf2, ra0, ra1, ri0, ri1, rs0, rs1, bf, bt, n10, n20, n30, if_true, if_false, true_implies, false_implies, not_true_eq_false, not_false_eq_true, and_true, true_and, and_self, implies_true]⟩) (by decide) (Or.inr (Or.inr ⟨rfl, rfl⟩))
