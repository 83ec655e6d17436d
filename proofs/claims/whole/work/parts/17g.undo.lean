/-! skip, undo and play on both sides -/
theorem skip_ok {a m o : Nat} {B : Int} {h : HH} (hB4 : 4 ≤ B) (hB : B ≤ 70000000) (d : a + 110 ≤ m ∧ m + 6 ≤ o) (inv : INV B a m h) : Good a m o (B + 51) (sL_skip a o h) (fL_skip a o h) (sX6_skip m) (fX6_skip m) := by
  have inv0 := inv
  replace inv := INV_mono (show B ≤ B + 51 by omega) inv
  obtain ⟨⟨n, gi, cg, ch⟩, _⟩ := id inv0
  show Good a m o (B + 51) (sX5_skip a h ∧ ((fX5_skip a h).1 = 0 ∨ (fX5_skip a h).1 = 3)) (W1 o (fX5_skip a h)) _ _
  obtain ⟨t, tk⟩ : ∃ t, TK n t (h (m + 1)) := gi_ok gi
  have hn4 := gi.2.1
  have hov : fX0_isOver (a + 1) h = G_over (h (m + 1)) := by
    show (if h (a + 1) 3 = -1 then true else false) = _
    rw [cg.1 3 (by decide)]
    exact tk.1.2.2.2.2.1
  have mov (h' : HH) (e : h' (m + 1) = h (m + 1)) : fX6_isOver m h' = G_over (h (m + 1)) := by
    show G_over (h' (m + 1)) = _
    rw [e]
  cases cO : G_over (h (m + 1)) with
  | true =>
    exact q1 d inv keep_refl (e := 3) (v := 0) (w := 0) (r := 1) ⟨by simp only [fX5_skip_c54, fX5_skip_c47, fX5_skip_c29, fX5_skip_c28, fX5_skip_c21, fX5_skip_c0, fX5_skip, hov, cO, rf0, rf1, rf2, ra0, ra1, ri0, ri1, rs0, rs1, bf, bt, n10, n20, n30, if_true, if_false, true_implies, false_implies, not_true_eq_false, not_false_eq_true, and_true, true_and, and_self, implies_true], by simp only [sX5_skip_c47, sX5_skip_c29, sX5_skip_c28, sX5_skip_c21, sX5_skip_c0, sX5_skip, hov, cO, rf0, rf1, rf2, ra0, ra1, ri0, ri1, rs0, rs1, bf, bt, n10, n20, n30, if_true, if_false, true_implies, false_implies, not_true_eq_false, not_false_eq_true, and_true, true_and, and_self, implies_true]⟩ (fun h' e => ⟨by simp only [fX6_skip_c43, fX6_skip_c35, fX6_skip_c25, fX6_skip_c22, fX6_skip_c17, fX6_skip_c0, fX6_skip, mov h' e, cO, rf0, rf1, rf2, ra0, ra1, ri0, ri1, rs0, rs1, bf, bt, n10, n20, n30, if_true, if_false, true_implies, false_implies, not_true_eq_false, not_false_eq_true, and_true, true_and, and_self, implies_true], by simp only [sX6_skip_c43, sX6_skip_c35, sX6_skip_c25, sX6_skip_c22, sX6_skip_c17, sX6_skip_c0, sX6_skip, mov h' e, cO, rf0, rf1, rf2, ra0, ra1, ri0, ri1, rs0, rs1, bf, bt, n10, n20, n30, if_true, if_false, true_implies, false_implies, not_true_eq_false, not_false_eq_true, and_true, true_and, and_self, implies_true]⟩) (by decide) (Or.inr ⟨rfl, rfl⟩)
  | false =>
    have ov : bI (G_over (h (m + 1))) = 0 := by rw [cO]; rfl
    have L := c_list (a := a + 1) (r := a + 109) tk.1 (by omega) cg
    have len := okl_len n t (h (m + 1))
    obtain ⟨O, eO⟩ : ∃ O, okl n t (h (m + 1)) = O := ⟨_, rfl⟩
    have memO : ∀ k, k ∈ O → k < 300 := fun k hk => (okl_mem (by rw [eO]; exact hk)).1
    rw [eO] at L len
    have NX (h' : HH) (e : h' (m + 1) = h (m + 1)) := m_nx (m := m) (n := n) (t := t) (k := 0) (x := -1) (h := h') (L := O) (by rw [e]; exact tk.1) (by omega) (by decide) (by rw [e]; exact eO)
    by_cases c2 : O = []
    · subst c2
      have L1 : fX0_listPlacements (a + 1) (a + 109) h = (0, h) := L.1
      have z (h' : HH) (e : h' (m + 1) = h (m + 1)) : fX6_nextCode m (-1) h' = -1 := (NX h' e).1
      obtain ⟨k, e3, uc, spp, ou, sv⟩ := both_push inv
      obtain ⟨h1, e1⟩ : ∃ h1, fX4_push (a + 16) (a + 1) h = h1 := ⟨_, rfl⟩
      rw [e1] at uc ou
      have cg1 : CG n (a + 1) h1 (h (m + 1)) := CG_fr hn4 (fun q q1 q2 => ou q (by omega)) cg
      have ch1 : CH (a + 1) h1 (h (m + 1)) := CH_h (ou _ (by omega)) (ou _ (by omega)) ch
      obtain ⟨qn, SAF, sF, oF, mF⟩ := st_skip (B := B) (a := a + 1) (h := h1) hB (by omega) gi tk ov cg1 ch1
      obtain ⟨gF, eg⟩ : ∃ gF, G_skips n t qn (h (m + 1)) = gF := ⟨_, rfl⟩
      rw [eg] at SAF mF
      obtain ⟨hF, eF⟩ : ∃ hF, fX0_makeSkip (a + 1) h1 = hF := ⟨_, rfl⟩
      rw [eF] at SAF oF
      have v3 : hF (a + 1) 3 = gF 3 := by obtain ⟨_, _, x, _⟩ := SAF; exact x.1 3 (by decide)
      have C : fX5_skip a h = (0, gF 3, hF) := by simp only [fX5_skip_c54, fX5_skip_c47, fX5_skip_c29, fX5_skip_c28, fX5_skip_c21, fX5_skip_c0, fX5_skip, hov, cO, L1, e1, eF, v3, rf0, rf1, rf2, ra0, ra1, ri0, ri1, rs0, rs1, bf, bt, n10, n20, n30, if_true, if_false, true_implies, false_implies, not_true_eq_false, not_false_eq_true, and_true, true_and, and_self, implies_true]
      have sC : sX5_skip a h := by simp only [sX5_skip_c47, sX5_skip_c29, sX5_skip_c28, sX5_skip_c21, sX5_skip_c0, sX5_skip, hov, cO, L1, L.2, spp, e1, sF, rf0, rf1, rf2, ra0, ra1, ri0, ri1, rs0, rs1, bf, bt, n10, n20, n30, if_true, if_false, true_implies, false_implies, not_true_eq_false, not_false_eq_true, and_true, true_and, and_self, implies_true]
      obtain ⟨h', eh⟩ : ∃ h', (W1 o (fX5_skip a h)).2 = h' := ⟨_, rfl⟩
      have w (q : Nat) (hq : q ≠ o) : h' q = hF q := by rw [← eh, w1_v q hq, C]
      have far (q : Nat) (hq : m ≤ q) (hq' : q ≠ o) : h' q = h q := by rw [w q hq', oF q (by omega), ou q (by omega)]
      have SV := sv (hset h' m 4 0) (by rw [hset_s, upd_o (by decide), far m (by omega) (by omega)]; exact e3) (by rw [hset_o _ _ _ _ (by omega), far _ (by omega) (by omega)]) (by rw [hset_o _ _ _ _ (by omega), far _ (by omega) (by omega)])
      obtain ⟨hS, eS⟩ : ∃ hS, hset (hrow (hset h' m 4 0) (m + 2) (G_save k (h (m + 1)) (h (m + 2)))) m 3 (nI (kk k)) = hS := ⟨_, rfl⟩
      rw [eS] at SV
      have rS : hS (m + 1) = h (m + 1) := by rw [← eS, hset_o _ _ _ _ (by omega), hrow_o (by omega), hset_o _ _ _ _ (by omega), far _ (by omega) (by omega)]
      have BG := mF m hS rS
      have eM : hrow hS (m + 1) gF = mHp m h' (G_save k (h (m + 1)) (h (m + 2))) (kk k) gF := by rw [← eS]; rfl
      rw [eM] at BG
      have Mv := mHp_v (m := m) (k := kk k) (h := h') (S := G_save k (h (m + 1)) (h (m + 2))) (g := gF)
      obtain ⟨hM, eH⟩ : ∃ hM, mHp m h' (G_save k (h (m + 1)) (h (m + 2))) (kk k) gF = hM := ⟨_, rfl⟩
      rw [eH] at BG Mv
      have kz : (3 : Int32).toNatClampNeg = 3 := by decide
      have vz : vp_in (3 : Int32) 206 := vpd (by decide)
      have e' := far (m + 1) (by omega) (by omega)
      have IN : INV (B + 51) a m hM := fin_inv (hF := hF) SAF (UC_h (fun q q1 q2 => oF q (by omega)) uc) (fun q q1 q2 => by rw [Mv.2.2.2.2 q (by omega) (by omega) (by omega), w q (by omega)]) Mv.2.1 Mv.2.2.1 Mv.2.2.2.1
      refine g1 (hM := hM) C sC (w := gF 3) (r := 0) ?_ ?_ Mv.1 (by rw [eh, Mv.2.2.2.2 o (by omega) (by omega) (by omega)]) IN (by decide) (Or.inl ⟨rfl, rfl, rfl⟩)
      · rw [eh]
        simp only [fX6_skip_c43, fX6_skip_c35, fX6_skip_c25, fX6_skip_c22, fX6_skip_c17, fX6_skip_c0, fX6_skip, mov h' e', cO, z h' e', SV.1, kz, BG.1, Mv.2.2.1, rf0, rf1, rf2, ra0, ra1, ri0, ri1, rs0, rs1, bf, bt, n10, n20, n30, if_true, if_false, true_implies, false_implies, not_true_eq_false, not_false_eq_true, and_true, true_and, and_self, implies_true]
      · rw [eh]
        simp only [sX6_skip_c43, sX6_skip_c35, sX6_skip_c25, sX6_skip_c22, sX6_skip_c17, sX6_skip_c0, sX6_skip, mov h' e', cO, z h' e', (NX h' e').2, SV.1, SV.2, vz, BG.1, BG.2, rf0, rf1, rf2, ra0, ra1, ri0, ri1, rs0, rs1, bf, bt, n10, n20, n30, if_true, if_false, true_implies, false_implies, not_true_eq_false, not_false_eq_true, and_true, true_and, and_self, implies_true]
    · have ne : (nI O.length = 0) = False := eq_false (nI_ne0 (List.length_pos_iff.mpr c2) (by omega))
      have z (h' : HH) (e : h' (m + 1) = h (m + 1)) : (fX6_nextCode m (-1) h' = -1) = False := by
        rw [(NX h' e).1]
        refine eq_false ?_
        cases O with
        | nil => exact absurd rfl c2
        | cons y O => exact nI_m1 (by have := memO y List.mem_cons_self; omega)
      have kp : Keep a m h (wr (a + 109) O 0 h) := keep_se d.1 (fun q hq => wr_o (by omega) O 0 h)
      exact q1 d inv kp (e := 3) (v := 0) (w := 0) (r := 1) ⟨by simp only [fX5_skip_c54, fX5_skip_c47, fX5_skip_c29, fX5_skip_c28, fX5_skip_c21, fX5_skip_c0, fX5_skip, hov, cO, L.1, L.2, ne, rf0, rf1, rf2, ra0, ra1, ri0, ri1, rs0, rs1, bf, bt, n10, n20, n30, if_true, if_false, true_implies, false_implies, not_true_eq_false, not_false_eq_true, and_true, true_and, and_self, implies_true], by simp only [sX5_skip_c47, sX5_skip_c29, sX5_skip_c28, sX5_skip_c21, sX5_skip_c0, sX5_skip, hov, cO, L.1, L.2, ne, rf0, rf1, rf2, ra0, ra1, ri0, ri1, rs0, rs1, bf, bt, n10, n20, n30, if_true, if_false, true_implies, false_implies, not_true_eq_false, not_false_eq_true, and_true, true_and, and_self, implies_true]⟩ (fun h' e => ⟨by simp only [fX6_skip_c43, fX6_skip_c35, fX6_skip_c25, fX6_skip_c22, fX6_skip_c17, fX6_skip_c0, fX6_skip, mov h' e, cO, z h' e, (NX h' e).2, rf0, rf1, rf2, ra0, ra1, ri0, ri1, rs0, rs1, bf, bt, n10, n20, n30, if_true, if_false, true_implies, false_implies, not_true_eq_false, not_false_eq_true, and_true, true_and, and_self, implies_true], by simp only [sX6_skip_c43, sX6_skip_c35, sX6_skip_c25, sX6_skip_c22, sX6_skip_c17, sX6_skip_c0, sX6_skip, mov h' e, cO, z h' e, (NX h' e).2, rf0, rf1, rf2, ra0, ra1, ri0, ri1, rs0, rs1, bf, bt, n10, n20, n30, if_true, if_false, true_implies, false_implies, not_true_eq_false, not_false_eq_true, and_true, true_and, and_self, implies_true]⟩) (by decide) (Or.inr ⟨rfl, rfl⟩)
theorem undo_ok {a m o : Nat} {B : Int} {h : HH} (d : a + 110 ≤ m ∧ m + 6 ≤ o) (inv : INV B a m h) : Good a m o B (sL_undo a o h) (fL_undo a o h) (sX6_undo m) (fX6_undo m) := by
  obtain ⟨sa, k, e3, uc⟩ := id inv
  show Good a m o B (sX5_undo a h ∧ ((fX5_undo a h).1 = 0 ∨ (fX5_undo a h).1 = 3)) (W1 o (fX5_undo a h)) _ _
  have u2 : h (a + 16) 2 = nI k := by obtain ⟨_, _, _, _, x, _⟩ := uc; exact x
  have hk4 := uc.1
  by_cases c0 : k = 0
  · subst c0
    have z1 : (nI 0 ≤ 0) = True := eq_true (by decide)
    have z2 : (nI 0 = 0) = True := eq_true (by decide)
    have C : fX5_undo a h = (3, 0, h) := by simp only [fX5_undo_c33, fX5_undo_c15, fX5_undo_c0, fX5_undo, u2, z1, rf0, rf1, rf2, ra0, ra1, ri0, ri1, rs0, rs1, bf, bt, n10, n20, n30, if_true, if_false, true_implies, false_implies, not_true_eq_false, not_false_eq_true, and_true, true_and, and_self, implies_true]
    have sC : sX5_undo a h := by simp only [sX5_undo_c15, sX5_undo_c0, sX5_undo, u2, z1, rf0, rf1, rf2, ra0, ra1, ri0, ri1, rs0, rs1, bf, bt, n10, n20, n30, if_true, if_false, true_implies, false_implies, not_true_eq_false, not_false_eq_true, and_true, true_and, and_self, implies_true]
    have k1 : Keep a m h (W1 o (fX5_undo a h)).2 := by have := w1_keep (c := fX5_undo a h) d; rw [C] at this ⊢; exact this
    obtain ⟨h', eh⟩ : ∃ h', (W1 o (fX5_undo a h)).2 = h' := ⟨_, rfl⟩
    rw [eh] at k1
    have q3 : h' m 3 = nI 0 := k1.2.1.trans e3
    refine g1 (hM := hset h' m 4 1) C sC (w := 0) (r := 1) ?_ ?_ (by rw [hset_s, upd_s]) (by rw [eh, hset_o _ _ _ _ (by omega)]) (INV_keep (keep_tr k1 (keep_m d.1 (by decide))) inv) (by decide) (Or.inr ⟨rfl, rfl⟩)
    · rw [eh]
      simp only [fX6_undo_c16, fX6_undo_c13, fX6_undo_c0, fX6_undo, q3, z2, rf0, rf1, rf2, ra0, ra1, ri0, ri1, rs0, rs1, bf, bt, n10, n20, n30, if_true, if_false, true_implies, false_implies, not_true_eq_false, not_false_eq_true, and_true, true_and, and_self, implies_true]
    · rw [eh]
      simp only [sX6_undo_c16, sX6_undo_c13, sX6_undo_c0, sX6_undo, q3, z2, rf0, rf1, rf2, ra0, ra1, ri0, ri1, rs0, rs1, bf, bt, n10, n20, n30, if_true, if_false, true_implies, false_implies, not_true_eq_false, not_false_eq_true, and_true, true_and, and_self, implies_true]
  · have z1 : (nI k ≤ 0) = False := eq_false (nI_nle (by omega) (by omega))
    have z2 : (nI k = 0) = False := eq_false (nI_ne0 (by omega) (by omega))
    have Po := c_pop (u := a + 16) (a := a + 1) (by omega) (by omega) uc
    obtain ⟨hF, eF⟩ : ∃ hF, fX4_pop (a + 16) (a + 1) h = hF := ⟨_, rfl⟩
    rw [eF] at Po
    obtain ⟨ucF, saF, sP, frF⟩ := Po
    have v2 : hF (a + 16) 2 = nI (k - 1) := by obtain ⟨_, _, _, _, x, _⟩ := ucF; exact x
    have C : fX5_undo a h = (0, nI (k - 1), hF) := by simp only [fX5_undo_c33, fX5_undo_c15, fX5_undo_c0, fX5_undo, u2, z1, eF, v2, rf0, rf1, rf2, ra0, ra1, ri0, ri1, rs0, rs1, bf, bt, n10, n20, n30, if_true, if_false, true_implies, false_implies, not_true_eq_false, not_false_eq_true, and_true, true_and, and_self, implies_true]
    have sC : sX5_undo a h := by simp only [sX5_undo_c15, sX5_undo_c0, sX5_undo, u2, z1, sP, rf0, rf1, rf2, ra0, ra1, ri0, ri1, rs0, rs1, bf, bt, n10, n20, n30, if_true, if_false, true_implies, false_implies, not_true_eq_false, not_false_eq_true, and_true, true_and, and_self, implies_true]
    obtain ⟨h', eh⟩ : ∃ h', (W1 o (fX5_undo a h)).2 = h' := ⟨_, rfl⟩
    have w (q : Nat) (hq : q ≠ o) : h' q = hF q := by rw [← eh, w1_v q hq, C]
    have far (q : Nat) (hq : m ≤ q) (hq' : q ≠ o) : h' q = h q := by rw [w q hq', frF q (by omega) (by omega)]
    have q3 : h' m 3 = nI k := by rw [far m (by omega) (by omega)]; exact e3
    have q3' : hset h' m 4 0 m 3 = nI k := by rw [hset_s, upd_o (by decide), q3]
    have km : nI k - 1 = nI (k - 1) := by
      refine ti_eq ?_
      rw [ti_sub (by rw [t1, ti_nI (by omega)]; omega) (by rw [t1, ti_nI (by omega)]; omega), t1, ti_nI (by omega), ti_nI (by omega)]
      omega
    obtain ⟨h4, e4⟩ : ∃ h4, hset (hset h' m 4 0) m 3 (nI (k - 1)) = h4 := ⟨_, rfl⟩
    have f4 (q : Nat) (hq : q ≠ m) : h4 q = h' q := by rw [← e4, hset_o _ _ _ _ hq, hset_o _ _ _ _ hq]
    have U := m_un_loop (m := m) (k := k - 1) (by omega) 206 0 0 h4 (by rw [← e4, hset_s, upd_s]) (by decide)
    have U : fX6_undo_c33 m 207 0 h4 = (nI (k - 1), hrow h4 (m + 1) (unf (k - 1) (h4 (m + 2)) 0 206 (h4 (m + 1)))) ∧ sX6_undo_c33 m 207 0 h4 := U
    obtain ⟨hM, eM⟩ : ∃ hM, hrow h4 (m + 1) (unf (k - 1) (h4 (m + 2)) 0 206 (h4 (m + 1))) = hM := ⟨_, rfl⟩
    rw [eM] at U
    have fM (q : Nat) (hq : q ≠ m + 1) : hM q = h4 q := by rw [← eM, hrow_o hq]
    have rM (y : Nat) (hy : y < 206) : hM (m + 1) y = h (m + 2) (206 * (k - 1) + y) := by
      rw [← eM, hrow_s, unf_v, if_pos (by omega), f4 _ (by omega), far _ (by omega) (by omega)]
    have m3 : hM m 3 = nI (k - 1) := by rw [fM m (by omega), ← e4, hset_s, upd_s]
    have IN : INV B a m hM := fin_inv (hF := hF) (gF := hM (m + 1)) (S := h (m + 2)) (SA_row (fun y hy => rM y hy) saF) ucF (fun q q1 q2 => by rw [fM q (by omega), f4 q (by omega), w q (by omega)]) m3 rfl (by rw [fM _ (by omega), f4 _ (by omega), far _ (by omega) (by omega)])
    refine g1 (hM := hM) C sC (w := nI (k - 1)) (r := 0) ?_ ?_ (by rw [fM m (by omega), ← e4, hset_s, upd_o (by decide), hset_s, upd_s]) (by rw [eh, fM o (by omega), f4 o (by omega)]) IN (by decide) (Or.inl ⟨rfl, rfl, rfl⟩)
    · rw [eh]
      simp only [fX6_undo_c16, fX6_undo_c13, fX6_undo_c0, fX6_undo, q3, z2, q3', km, e4, U.1, rf0, rf1, rf2, ra0, ra1, ri0, ri1, rs0, rs1, bf, bt, n10, n20, n30, if_true, if_false, true_implies, false_implies, not_true_eq_false, not_false_eq_true, and_true, true_and, and_self, implies_true]
    · rw [eh]
      simp only [sX6_undo_c16, sX6_undo_c13, sX6_undo_c0, sX6_undo, q3, z2, q3', km, e4, U.2, rf0, rf1, rf2, ra0, ra1, ri0, ri1, rs0, rs1, bf, bt, n10, n20, n30, if_true, if_false, true_implies, false_implies, not_true_eq_false, not_false_eq_true, and_true, true_and, and_self, implies_true]
