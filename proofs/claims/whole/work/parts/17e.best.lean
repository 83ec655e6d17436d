/-! the best placements -/
def bR : Bs → Int32
  | none => -1
  | some (r, _, _) => r
def bS : Bs → Nat → Int32
  | none, _ => -1
  | some (_, l, f), i => if i < l then nI (told (f i)) else -1
theorem BC_res {a : Nat} {h : HH} {b : Bs} (bc : BC a h b) : fX3_bestResult a h = bR b := by
  unfold fX3_bestResult fX3_bestResult_c0
  match b, bc with
  | none, bc => exact if_pos bc
  | some (r, l, f), bc =>
    obtain ⟨b1, b2, b3, b4, b5⟩ := bc
    rw [if_neg (by rw [b1]; exact nI_ne0 (by omega) (by omega))]
    exact b4
theorem BC_stp {a i : Nat} {h : HH} {b : Bs} (hi : i < 3) (bc : BC a h b) : fX3_bestStep a (nI i) h = bS b i ∧ sX3_bestStep a (nI i) h := by
  have n0 : ¬ nI i < 0 := nI_pos (by omega)
  have v : vp_in (nI i) 3 := v_of hi (by decide)
  refine ⟨?_, fun _ => trivial, fun _ => ⟨fun _ => trivial, fun _ => v⟩⟩
  unfold fX3_bestStep fX3_bestStep_c0
  rw [if_neg n0, nclamp (by omega)]
  match b, bc with
  | none, bc =>
    have z : h a 7 = 0 := bc
    rw [z, if_pos (nI_pos' (by omega))]
    rfl
  | some (r, l, f), bc =>
    obtain ⟨b1, b2, b3, b4, b5⟩ := bc
    show _ = if i < l then nI (told (f i)) else -1
    rw [b1]
    by_cases c : i < l
    · rw [if_neg (nI_ge c (by omega)), if_pos c]
      exact b5 i c
    · rw [if_pos (nI_le (by omega) (by omega)), if_neg c]
theorem BM_res {m : Nat} {h : HH} {b : Bs} (bc : BM m h b) : fX6_bestScoreOf_c6 m h = (bR b, h) := by
  unfold fX6_bestScoreOf_c6
  match b, bc with
  | none, bc => exact if_pos bc
  | some (r, l, f), bc =>
    obtain ⟨b1, b2, b3, b4, b5⟩ := bc
    rw [if_neg (by rw [b1]; exact nI_ne0 (by omega) (by omega)), b4]
    rfl
theorem BM_stp {Q : Nat → Prop} {m i : Nat} {h : HH} {b : Bs} (hi : i < 3) (ok : Bok Q b) (bc : BM m h b) : fX6_bestCodeOf_c7 m (nI i) (nI i) h = (bS b i, h) ∧ sX6_bestCodeOf_c7 m (nI i) (nI i) h := by
  have v : vp_in (nI i) 4 := v_of (by omega) (by decide)
  refine ⟨?_, fun _ => trivial, fun _ => v⟩
  unfold fX6_bestCodeOf_c7
  rw [nclamp (by omega)]
  match b, bc, ok with
  | none, bc, _ =>
    have z : h m 7 = 0 := bc
    rw [z, if_pos (nI_pos' (by omega))]
    rfl
  | some (r, l, f), bc, ok =>
    obtain ⟨b1, b2, b3, b4, b5⟩ := bc
    have k := (ok r l f rfl).2.2.2
    show _ = ((if i < l then nI (told (f i)) else -1), h)
    rw [b1]
    by_cases c : i < l
    · rw [if_neg (nI_ge c (by omega)), if_pos c, b5 i c, told_v (k i c)]
    · rw [if_pos (nI_le (by omega) (by omega)), if_neg c]
theorem m_bs {m n t D : Nat} {B : Int} {h : HH} (hD0 : 1 ≤ D) (hD : D ≤ 3) (hB : B + 120 ≤ 70000000) (gi : GI B n (h (m + 1))) (tk : TK n t (h (m + 1))) : fX6_bestScoreOf m (nI D) h = (bR (Sroot n t D (h (m + 1))), fX6_searches m (nI D) h) ∧ sX6_bestScoreOf m (nI D) h := by
  have S := m_searches hD0 hD hB gi tk
  exact ⟨BM_res S.1, S.2.1⟩
theorem m_bc {m n t D i : Nat} {B : Int} {h : HH} (hD0 : 1 ≤ D) (hD : D ≤ 3) (hi : i < 3) (hB : B + 120 ≤ 70000000) (gi : GI B n (h (m + 1))) (tk : TK n t (h (m + 1))) : fX6_bestCodeOf m (nI D) (nI i) h = (bS (Sroot n t D (h (m + 1))) i, fX6_searches m (nI D) h) ∧ sX6_bestCodeOf m (nI D) (nI i) h := by
  have S := m_searches hD0 hD hB gi tk
  have T := BM_stp hi (Sroot_ok hD) S.1
  exact ⟨T.1, S.2.1, T.2⟩
theorem keep_srch {a m n t D : Nat} {B : Int} {h : HH} (d : a + 110 ≤ m) (hD0 : 1 ≤ D) (hD : D ≤ 3) (hB : B + 120 ≤ 70000000) (gi : GI B n (h (m + 1))) (tk : TK n t (h (m + 1))) : Keep a m h (fX6_searches m (nI D) h) := by
  have S := (m_searches hD0 hD hB gi tk).2.2
  exact ⟨fun q q1 q2 => S.1 q (by omega) (by omega) (by omega) (by omega), S.2 3 (by decide) (by decide), S.1 _ (by omega) (by omega) (by omega) (by omega), S.1 _ (by omega) (by omega) (by omega) (by omega)⟩
theorem rng2 {x : Int32} {lo hi : Nat} (hh : hi < 2147483648) (c : ¬ x < nI lo) (c2 : ¬ nI hi < x) (hl : lo ≤ hi) : ∃ j, lo ≤ j ∧ j ≤ hi ∧ x = nI j := by
  have z : ¬ x.toInt < lo := fun z => c (ti_lt.mpr (by rw [ti_nI (by omega)]; exact z))
  have y : ¬ (hi : Int) < x.toInt := fun z => c2 (ti_lt.mpr (by rw [ti_nI hh]; exact z))
  exact ⟨x.toInt.toNat, by omega, by omega, ti_of (by omega)⟩
theorem bestScore_ok {a m o : Nat} {B : Int} {h : HH} (hB : B + 120 ≤ 70000000) (d : a + 110 ≤ m ∧ m + 6 ≤ o) (inv : INV B a m h) (x1 : Int32) : Good a m o B (sL_bestScore a x1 o h) (fL_bestScore a x1 o h) (sX6_bestScore m x1) (fX6_bestScore m x1) := by
  obtain ⟨⟨n, gi, cg, ch⟩, _⟩ := id inv
  show Good a m o B (sX5_bestScore a x1 h ∧ ((fX5_bestScore a x1 h).1 = 0 ∨ (fX5_bestScore a x1 h).1 = 1)) (W1 o (fX5_bestScore a x1 h)) _ _
  by_cases c1 : x1 < 1
  · exact q1 d inv keep_refl (e := 1) (v := 0) (w := 0) (r := 1) ⟨by simp only [fX5_bestScore_c34, fX5_bestScore_c15, fX5_bestScore_c14, fX5_bestScore_c0, fX5_bestScore, c1, rf0, rf1, rf2, ra0, ra1, ri0, ri1, rs0, rs1, bf, bt, n10, n20, n30, if_true, if_false, true_implies, false_implies, not_true_eq_false, not_false_eq_true, and_true, true_and, and_self, implies_true], by simp only [sX5_bestScore_c15, sX5_bestScore_c14, sX5_bestScore_c0, sX5_bestScore, c1, rf0, rf1, rf2, ra0, ra1, ri0, ri1, rs0, rs1, bf, bt, n10, n20, n30, if_true, if_false, true_implies, false_implies, not_true_eq_false, not_false_eq_true, and_true, true_and, and_self, implies_true]⟩ (fun h' e => ⟨by simp only [fX6_bestScore_c30, fX6_bestScore_c18, fX6_bestScore_c15, fX6_bestScore_c0, fX6_bestScore, wi_f1 (hi := 3) c1, rf0, rf1, rf2, ra0, ra1, ri0, ri1, rs0, rs1, bf, bt, n10, n20, n30, if_true, if_false, true_implies, false_implies, not_true_eq_false, not_false_eq_true, and_true, true_and, and_self, implies_true], by simp only [sX6_bestScore_c18, sX6_bestScore_c15, sX6_bestScore_c0, sX6_bestScore, wi_f1 (hi := 3) c1, rf0, rf1, rf2, ra0, ra1, ri0, ri1, rs0, rs1, bf, bt, n10, n20, n30, if_true, if_false, true_implies, false_implies, not_true_eq_false, not_false_eq_true, and_true, true_and, and_self, implies_true]⟩) (by decide) (Or.inr ⟨rfl, rfl⟩)
  · by_cases c2 : 3 < x1
    · exact q1 d inv keep_refl (e := 1) (v := 0) (w := 0) (r := 1) ⟨by simp only [fX5_bestScore_c34, fX5_bestScore_c15, fX5_bestScore_c14, fX5_bestScore_c0, fX5_bestScore, c1, c2, rf0, rf1, rf2, ra0, ra1, ri0, ri1, rs0, rs1, bf, bt, n10, n20, n30, if_true, if_false, true_implies, false_implies, not_true_eq_false, not_false_eq_true, and_true, true_and, and_self, implies_true], by simp only [sX5_bestScore_c15, sX5_bestScore_c14, sX5_bestScore_c0, sX5_bestScore, c1, c2, rf0, rf1, rf2, ra0, ra1, ri0, ri1, rs0, rs1, bf, bt, n10, n20, n30, if_true, if_false, true_implies, false_implies, not_true_eq_false, not_false_eq_true, and_true, true_and, and_self, implies_true]⟩ (fun h' e => ⟨by simp only [fX6_bestScore_c30, fX6_bestScore_c18, fX6_bestScore_c15, fX6_bestScore_c0, fX6_bestScore, wi_f2 (hi := 3) c1 c2, rf0, rf1, rf2, ra0, ra1, ri0, ri1, rs0, rs1, bf, bt, n10, n20, n30, if_true, if_false, true_implies, false_implies, not_true_eq_false, not_false_eq_true, and_true, true_and, and_self, implies_true], by simp only [sX6_bestScore_c18, sX6_bestScore_c15, sX6_bestScore_c0, sX6_bestScore, wi_f2 (hi := 3) c1 c2, rf0, rf1, rf2, ra0, ra1, ri0, ri1, rs0, rs1, bf, bt, n10, n20, n30, if_true, if_false, true_implies, false_implies, not_true_eq_false, not_false_eq_true, and_true, true_and, and_self, implies_true]⟩) (by decide) (Or.inr ⟨rfl, rfl⟩)
    · obtain ⟨D, hD0, hD, rfl⟩ := rng2 (lo := 1) (hi := 3) (by decide) c1 c2 (by decide)
      have W := wi_t (lo := 1) (hi := 3) c1 c2
      obtain ⟨t, tk⟩ : ∃ t, TK n t (h (m + 1)) := gi_ok gi
      have R := c_run (a := a + 78) (r := a + 1) hD hB (by omega) gi tk cg
      obtain ⟨h1, e1⟩ : ∃ h1, fX3_run (a + 78) (a + 1) (nI D) h = h1 := ⟨_, rfl⟩
      rw [e1] at R
      have V := BC_res R.1
      have kp : Keep a m h h1 := keep_se d.1 (out_mono (by omega) (by omega) R.2.2)
      have C : fX5_bestScore a (nI D) h = (0, bR (Sroot n t D (h (m + 1))), h1) := by simp only [fX5_bestScore_c34, fX5_bestScore_c15, fX5_bestScore_c14, fX5_bestScore_c0, fX5_bestScore, c1, c2, e1, V, rf0, rf1, rf2, ra0, ra1, ri0, ri1, rs0, rs1, bf, bt, n10, n20, n30, if_true, if_false, true_implies, false_implies, not_true_eq_false, not_false_eq_true, and_true, true_and, and_self, implies_true]
      have sC : sX5_bestScore a (nI D) h := by simp only [sX5_bestScore_c15, sX5_bestScore_c14, sX5_bestScore_c0, sX5_bestScore, c1, c2, R.2.1, rf0, rf1, rf2, ra0, ra1, ri0, ri1, rs0, rs1, bf, bt, n10, n20, n30, if_true, if_false, true_implies, false_implies, not_true_eq_false, not_false_eq_true, and_true, true_and, and_self, implies_true]
      have k1 : Keep a m h (W1 o (fX5_bestScore a (nI D) h)).2 := keep_tr kp (by rw [C]; exact w1_keep d)
      obtain ⟨h', eh⟩ : ∃ h', (W1 o (fX5_bestScore a (nI D) h)).2 = h' := ⟨_, rfl⟩
      rw [eh] at k1
      have k2 : Keep a m h (hset h' m 4 0) := keep_tr k1 (keep_m d.1 (by decide))
      have r2 := k2.2.2.1
      have MM := m_bs (m := m) (n := n) (t := t) (D := D) (B := B) (h := hset h' m 4 0) hD0 hD hB (by rw [r2]; exact gi) (by rw [r2]; exact tk)
      have k3 := keep_srch (m := m) (n := n) (t := t) (D := D) (B := B) (h := hset h' m 4 0) d.1 hD0 hD hB (by rw [r2]; exact gi) (by rw [r2]; exact tk)
      have S := (m_searches (m := m) (n := n) (t := t) (D := D) (B := B) (h := hset h' m 4 0) hD0 hD hB (by rw [r2]; exact gi) (by rw [r2]; exact tk)).2.2
      rw [r2] at MM
      refine g1 (hM := fX6_searches m (nI D) (hset h' m 4 0)) C sC (w := bR (Sroot n t D (h (m + 1)))) (r := 0) ?_ ?_ ?_ ?_ (INV_keep (keep_tr k2 k3) inv) (by decide) (Or.inl ⟨rfl, rfl, rfl⟩)
      · rw [eh]
        simp only [fX6_bestScore_c30, fX6_bestScore_c18, fX6_bestScore_c15, fX6_bestScore_c0, fX6_bestScore, W, MM.1, rf0, rf1, rf2, ra0, ra1, ri0, ri1, rs0, rs1, bf, bt, n10, n20, n30, if_true, if_false, true_implies, false_implies, not_true_eq_false, not_false_eq_true, and_true, true_and, and_self, implies_true]
      · rw [eh]
        simp only [sX6_bestScore_c18, sX6_bestScore_c15, sX6_bestScore_c0, sX6_bestScore, W, MM.2, rf0, rf1, rf2, ra0, ra1, ri0, ri1, rs0, rs1, bf, bt, n10, n20, n30, if_true, if_false, true_implies, false_implies, not_true_eq_false, not_false_eq_true, and_true, true_and, and_self, implies_true]
      · rw [S.2 4 (by decide) (by decide), hset_s, upd_s]
      · rw [eh, S.1 o (by omega) (by omega) (by omega) (by omega), hset_o _ _ _ _ (by omega)]
theorem bestPlacement_ok {a m o : Nat} {B : Int} {h : HH} (hB : B + 120 ≤ 70000000) (d : a + 110 ≤ m ∧ m + 6 ≤ o) (inv : INV B a m h) (x1 x2 : Int32) : Good a m o B (sL_bestPlacement a x1 x2 o h) (fL_bestPlacement a x1 x2 o h) (sX6_bestPlacement m x1 x2) (fX6_bestPlacement m x1 x2) := by
  obtain ⟨⟨n, gi, cg, ch⟩, _⟩ := id inv
  show Good a m o B (sX5_bestPlacement a x1 x2 h ∧ ((fX5_bestPlacement a x1 x2 h).1 = 0 ∨ (fX5_bestPlacement a x1 x2 h).1 = 1)) (W1 o (fX5_bestPlacement a x1 x2 h)) _ _
  by_cases c1 : x1 < 1
  · exact q1 d inv keep_refl (e := 1) (v := 0) (w := 0) (r := 1) ⟨by simp only [fX5_bestPlacement_c52, fX5_bestPlacement_c32, fX5_bestPlacement_c31, fX5_bestPlacement_c15, fX5_bestPlacement_c14, fX5_bestPlacement_c0, fX5_bestPlacement, c1, rf0, rf1, rf2, ra0, ra1, ri0, ri1, rs0, rs1, bf, bt, n10, n20, n30, if_true, if_false, true_implies, false_implies, not_true_eq_false, not_false_eq_true, and_true, true_and, and_self, implies_true], by simp only [sX5_bestPlacement_c52, sX5_bestPlacement_c32, sX5_bestPlacement_c31, sX5_bestPlacement_c15, sX5_bestPlacement_c14, sX5_bestPlacement_c0, sX5_bestPlacement, c1, rf0, rf1, rf2, ra0, ra1, ri0, ri1, rs0, rs1, bf, bt, n10, n20, n30, if_true, if_false, true_implies, false_implies, not_true_eq_false, not_false_eq_true, and_true, true_and, and_self, implies_true]⟩ (fun h' e => ⟨by simp only [fX6_bestPlacement_c42, fX6_bestPlacement_c29, fX6_bestPlacement_c26, fX6_bestPlacement_c25, fX6_bestPlacement_c0, fX6_bestPlacement, wi_f1 (hi := 3) c1, rf0, rf1, rf2, ra0, ra1, ri0, ri1, rs0, rs1, bf, bt, n10, n20, n30, if_true, if_false, true_implies, false_implies, not_true_eq_false, not_false_eq_true, and_true, true_and, and_self, implies_true], by simp only [sX6_bestPlacement_c29, sX6_bestPlacement_c26, sX6_bestPlacement_c25, sX6_bestPlacement_c0, sX6_bestPlacement, wi_f1 (hi := 3) c1, rf0, rf1, rf2, ra0, ra1, ri0, ri1, rs0, rs1, bf, bt, n10, n20, n30, if_true, if_false, true_implies, false_implies, not_true_eq_false, not_false_eq_true, and_true, true_and, and_self, implies_true]⟩) (by decide) (Or.inr ⟨rfl, rfl⟩)
  · by_cases c2 : 3 < x1
    · exact q1 d inv keep_refl (e := 1) (v := 0) (w := 0) (r := 1) ⟨by simp only [fX5_bestPlacement_c52, fX5_bestPlacement_c32, fX5_bestPlacement_c31, fX5_bestPlacement_c15, fX5_bestPlacement_c14, fX5_bestPlacement_c0, fX5_bestPlacement, c1, c2, rf0, rf1, rf2, ra0, ra1, ri0, ri1, rs0, rs1, bf, bt, n10, n20, n30, if_true, if_false, true_implies, false_implies, not_true_eq_false, not_false_eq_true, and_true, true_and, and_self, implies_true], by simp only [sX5_bestPlacement_c52, sX5_bestPlacement_c32, sX5_bestPlacement_c31, sX5_bestPlacement_c15, sX5_bestPlacement_c14, sX5_bestPlacement_c0, sX5_bestPlacement, c1, c2, rf0, rf1, rf2, ra0, ra1, ri0, ri1, rs0, rs1, bf, bt, n10, n20, n30, if_true, if_false, true_implies, false_implies, not_true_eq_false, not_false_eq_true, and_true, true_and, and_self, implies_true]⟩ (fun h' e => ⟨by simp only [fX6_bestPlacement_c42, fX6_bestPlacement_c29, fX6_bestPlacement_c26, fX6_bestPlacement_c25, fX6_bestPlacement_c0, fX6_bestPlacement, wi_f2 (hi := 3) c1 c2, rf0, rf1, rf2, ra0, ra1, ri0, ri1, rs0, rs1, bf, bt, n10, n20, n30, if_true, if_false, true_implies, false_implies, not_true_eq_false, not_false_eq_true, and_true, true_and, and_self, implies_true], by simp only [sX6_bestPlacement_c29, sX6_bestPlacement_c26, sX6_bestPlacement_c25, sX6_bestPlacement_c0, sX6_bestPlacement, wi_f2 (hi := 3) c1 c2, rf0, rf1, rf2, ra0, ra1, ri0, ri1, rs0, rs1, bf, bt, n10, n20, n30, if_true, if_false, true_implies, false_implies, not_true_eq_false, not_false_eq_true, and_true, true_and, and_self, implies_true]⟩) (by decide) (Or.inr ⟨rfl, rfl⟩)
    · obtain ⟨D, hD0, hD, rfl⟩ := rng2 (lo := 1) (hi := 3) (by decide) c1 c2 (by decide)
      have W := wi_t (lo := 1) (hi := 3) c1 c2
      have lq : (nI D - 1 : Int32).toInt = D - 1 := by
        rw [ti_sub (by rw [t1, ti_nI (by omega)]; omega) (by rw [t1, ti_nI (by omega)]; omega), t1, ti_nI (by omega)]
      have ge : nI D ≤ x2 ↔ (nI D - 1 : Int32) < x2 := by
        rw [ti_le, ti_lt, lq, ti_nI (by omega)]
        omega
      by_cases c3 : x2 < 0
      · exact q1 d inv keep_refl (e := 1) (v := 0) (w := 0) (r := 1) ⟨by simp only [fX5_bestPlacement_c52, fX5_bestPlacement_c32, fX5_bestPlacement_c31, fX5_bestPlacement_c15, fX5_bestPlacement_c14, fX5_bestPlacement_c0, fX5_bestPlacement, c1, c2, c3, rf0, rf1, rf2, ra0, ra1, ri0, ri1, rs0, rs1, bf, bt, n10, n20, n30, if_true, if_false, true_implies, false_implies, not_true_eq_false, not_false_eq_true, and_true, true_and, and_self, implies_true], by simp only [sX5_bestPlacement_c52, sX5_bestPlacement_c32, sX5_bestPlacement_c31, sX5_bestPlacement_c15, sX5_bestPlacement_c14, sX5_bestPlacement_c0, sX5_bestPlacement, c1, c2, c3, rf0, rf1, rf2, ra0, ra1, ri0, ri1, rs0, rs1, bf, bt, n10, n20, n30, if_true, if_false, true_implies, false_implies, not_true_eq_false, not_false_eq_true, and_true, true_and, and_self, implies_true]⟩ (fun h' e => ⟨by simp only [fX6_bestPlacement_c42, fX6_bestPlacement_c29, fX6_bestPlacement_c26, fX6_bestPlacement_c25, fX6_bestPlacement_c0, fX6_bestPlacement, W, wi_f1 (hi := nI D - 1) c3, rf0, rf1, rf2, ra0, ra1, ri0, ri1, rs0, rs1, bf, bt, n10, n20, n30, if_true, if_false, true_implies, false_implies, not_true_eq_false, not_false_eq_true, and_true, true_and, and_self, implies_true], by simp only [sX6_bestPlacement_c29, sX6_bestPlacement_c26, sX6_bestPlacement_c25, sX6_bestPlacement_c0, sX6_bestPlacement, W, wi_f1 (hi := nI D - 1) c3, rf0, rf1, rf2, ra0, ra1, ri0, ri1, rs0, rs1, bf, bt, n10, n20, n30, if_true, if_false, true_implies, false_implies, not_true_eq_false, not_false_eq_true, and_true, true_and, and_self, implies_true]⟩) (by decide) (Or.inr ⟨rfl, rfl⟩)
      · by_cases c4 : nI D ≤ x2
        · exact q1 d inv keep_refl (e := 1) (v := 0) (w := 0) (r := 1) ⟨by simp only [fX5_bestPlacement_c52, fX5_bestPlacement_c32, fX5_bestPlacement_c31, fX5_bestPlacement_c15, fX5_bestPlacement_c14, fX5_bestPlacement_c0, fX5_bestPlacement, c1, c2, c3, c4, rf0, rf1, rf2, ra0, ra1, ri0, ri1, rs0, rs1, bf, bt, n10, n20, n30, if_true, if_false, true_implies, false_implies, not_true_eq_false, not_false_eq_true, and_true, true_and, and_self, implies_true], by simp only [sX5_bestPlacement_c52, sX5_bestPlacement_c32, sX5_bestPlacement_c31, sX5_bestPlacement_c15, sX5_bestPlacement_c14, sX5_bestPlacement_c0, sX5_bestPlacement, c1, c2, c3, c4, rf0, rf1, rf2, ra0, ra1, ri0, ri1, rs0, rs1, bf, bt, n10, n20, n30, if_true, if_false, true_implies, false_implies, not_true_eq_false, not_false_eq_true, and_true, true_and, and_self, implies_true]⟩ (fun h' e => ⟨by simp only [fX6_bestPlacement_c42, fX6_bestPlacement_c29, fX6_bestPlacement_c26, fX6_bestPlacement_c25, fX6_bestPlacement_c0, fX6_bestPlacement, W, wi_f2 (hi := nI D - 1) c3 (ge.mp c4), rf0, rf1, rf2, ra0, ra1, ri0, ri1, rs0, rs1, bf, bt, n10, n20, n30, if_true, if_false, true_implies, false_implies, not_true_eq_false, not_false_eq_true, and_true, true_and, and_self, implies_true], by simp only [sX6_bestPlacement_c29, sX6_bestPlacement_c26, sX6_bestPlacement_c25, sX6_bestPlacement_c0, sX6_bestPlacement, W, wi_f2 (hi := nI D - 1) c3 (ge.mp c4), rf0, rf1, rf2, ra0, ra1, ri0, ri1, rs0, rs1, bf, bt, n10, n20, n30, if_true, if_false, true_implies, false_implies, not_true_eq_false, not_false_eq_true, and_true, true_and, and_self, implies_true]⟩) (by decide) (Or.inr ⟨rfl, rfl⟩)
        · obtain ⟨i, hi, rfl⟩ := rng (N := D) (by omega) c3 c4
          have W2' := wi_t (lo := 0) (hi := nI D - 1) c3 (fun z => c4 (ge.mpr z))
          obtain ⟨t, tk⟩ : ∃ t, TK n t (h (m + 1)) := gi_ok gi
          have R := c_run (a := a + 78) (r := a + 1) hD hB (by omega) gi tk cg
          obtain ⟨h1, e1⟩ : ∃ h1, fX3_run (a + 78) (a + 1) (nI D) h = h1 := ⟨_, rfl⟩
          rw [e1] at R
          have V := BC_stp (i := i) (by omega) R.1
          have kp : Keep a m h h1 := keep_se d.1 (out_mono (by omega) (by omega) R.2.2)
          have C : fX5_bestPlacement a (nI D) (nI i) h = (0, bS (Sroot n t D (h (m + 1))) i, h1) := by simp only [fX5_bestPlacement_c52, fX5_bestPlacement_c32, fX5_bestPlacement_c31, fX5_bestPlacement_c15, fX5_bestPlacement_c14, fX5_bestPlacement_c0, fX5_bestPlacement, c1, c2, c3, c4, e1, V.1, rf0, rf1, rf2, ra0, ra1, ri0, ri1, rs0, rs1, bf, bt, n10, n20, n30, if_true, if_false, true_implies, false_implies, not_true_eq_false, not_false_eq_true, and_true, true_and, and_self, implies_true]
          have sC : sX5_bestPlacement a (nI D) (nI i) h := by simp only [sX5_bestPlacement_c52, sX5_bestPlacement_c32, sX5_bestPlacement_c31, sX5_bestPlacement_c15, sX5_bestPlacement_c14, sX5_bestPlacement_c0, sX5_bestPlacement, c1, c2, c3, c4, e1, R.2.1, V.2, rf0, rf1, rf2, ra0, ra1, ri0, ri1, rs0, rs1, bf, bt, n10, n20, n30, if_true, if_false, true_implies, false_implies, not_true_eq_false, not_false_eq_true, and_true, true_and, and_self, implies_true]
          have k1 : Keep a m h (W1 o (fX5_bestPlacement a (nI D) (nI i) h)).2 := keep_tr kp (by rw [C]; exact w1_keep d)
          obtain ⟨h', eh⟩ : ∃ h', (W1 o (fX5_bestPlacement a (nI D) (nI i) h)).2 = h' := ⟨_, rfl⟩
          rw [eh] at k1
          have k2 : Keep a m h (hset h' m 4 0) := keep_tr k1 (keep_m d.1 (by decide))
          have r2 := k2.2.2.1
          have MM := m_bc (m := m) (n := n) (t := t) (D := D) (i := i) (B := B) (h := hset h' m 4 0) hD0 hD (by omega) hB (by rw [r2]; exact gi) (by rw [r2]; exact tk)
          have k3 := keep_srch (m := m) (n := n) (t := t) (D := D) (B := B) (h := hset h' m 4 0) d.1 hD0 hD hB (by rw [r2]; exact gi) (by rw [r2]; exact tk)
          have S := (m_searches (m := m) (n := n) (t := t) (D := D) (B := B) (h := hset h' m 4 0) hD0 hD hB (by rw [r2]; exact gi) (by rw [r2]; exact tk)).2.2
          rw [r2] at MM
          refine g1 (hM := fX6_searches m (nI D) (hset h' m 4 0)) C sC (w := bS (Sroot n t D (h (m + 1))) i) (r := 0) ?_ ?_ ?_ ?_ (INV_keep (keep_tr k2 k3) inv) (by decide) (Or.inl ⟨rfl, rfl, rfl⟩)
          · rw [eh]
            simp only [fX6_bestPlacement_c42, fX6_bestPlacement_c29, fX6_bestPlacement_c26, fX6_bestPlacement_c25, fX6_bestPlacement_c0, fX6_bestPlacement, W, W2', MM.1, rf0, rf1, rf2, ra0, ra1, ri0, ri1, rs0, rs1, bf, bt, n10, n20, n30, if_true, if_false, true_implies, false_implies, not_true_eq_false, not_false_eq_true, and_true, true_and, and_self, implies_true]
          · rw [eh]
            simp only [sX6_bestPlacement_c29, sX6_bestPlacement_c26, sX6_bestPlacement_c25, sX6_bestPlacement_c0, sX6_bestPlacement, W, W2', MM.2, rf0, rf1, rf2, ra0, ra1, ri0, ri1, rs0, rs1, bf, bt, n10, n20, n30, if_true, if_false, true_implies, false_implies, not_true_eq_false, not_false_eq_true, and_true, true_and, and_self, implies_true]
          · rw [S.2 4 (by decide) (by decide), hset_s, upd_s]
          · rw [eh, S.1 o (by omega) (by omega) (by omega) (by omega), hset_o _ _ _ _ (by omega)]
