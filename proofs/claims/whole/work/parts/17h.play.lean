/-! play on both sides -/
theorem play_loop {a m D M : Nat} (hD0 : 1 ≤ D) (hD : D ≤ 3) (hM : M ≤ 10) (d : a + 110 ≤ m) : ∀ (r x f : Nat) (B : Int) (g : Nat → Int32) (hc : HH), x + r = M → 4 ≤ B → B + 51 * (r : Int) + 120 ≤ 70000000 → SA B (a + 1) hc g → ∃ (y : Int32) (gF : Nat → Int32) (hcF : HH), fX5_play_c50 a (r + f + 1) (nI D) (nI M) (nI x) hc = (0, y, hcF) ∧ sX5_play_c50 a (r + f + 1) (nI D) (nI M) (nI x) hc ∧ SA (B + 51 * (r : Int)) (a + 1) hcF gF ∧ (∀ q, (q < a + 1 ∨ (a + 16 ≤ q ∧ q < a + 78) ∨ a + 109 ≤ q) → hcF q = hc q) ∧ ∀ hm : HH, hm (m + 1) = g → ∃ hmF, fX6_play_c39 m (r + f + 1) (nI D) (nI M) (nI x) hm = (y, hmF) ∧ sX6_play_c39 m (r + f + 1) (nI D) (nI M) (nI x) hm ∧ hmF (m + 1) = gF ∧ (∀ q, q ≠ m → q ≠ m + 1 → q ≠ m + 3 → q ≠ m + 4 → q ≠ m + 5 → hmF q = hm q) ∧ ∀ k, k ≠ 7 → k ≠ 8 → hmF m k = hm m k := by
  intro r
  induction r with
  | zero =>
    intro x f B g hc e hB4 hB sa
    have c : nI M ≤ nI x := nI_le (by omega) (by omega)
    rw [show 0 + f + 1 = f + 1 by omega]
    refine ⟨nI x, g, hc, ?_, ⟨fun _ => trivial, fun q => absurd c q⟩, SA_mono (by omega) sa, fun _ _ => rfl, fun hm eg => ⟨hm, ?_, ⟨fun _ => trivial, fun q => absurd c q⟩, eg, fun _ _ _ _ _ _ => rfl, fun _ _ _ => rfl⟩⟩
    · show (if nI M ≤ nI x then (0, nI x, hc) else _) = _
      rw [if_pos c]
    · show (if nI M ≤ nI x then (nI x, hm) else _) = _
      rw [if_pos c]
  | succ r ih =>
    intro x f B g hc e hB4 hB sa
    have c : ¬ nI M ≤ nI x := nI_ge (by omega) (by omega)
    rw [show r + 1 + f + 1 = (r + f + 1) + 1 by omega]
    obtain ⟨n, gi, cg, ch⟩ := id sa
    obtain ⟨t, tk⟩ : ∃ t, TK n t g := gi_ok gi
    have hn4 := gi.2.1
    have hov : fX0_isOver (a + 1) hc = G_over g := by
      show (if hc (a + 1) 3 = -1 then true else false) = _
      rw [cg.1 3 (by decide)]
      exact tk.1.2.2.2.2.1
    have mov (h' : HH) (e : h' (m + 1) = g) : fX6_isOver m h' = G_over g := by
      show G_over (h' (m + 1)) = _
      rw [e]
    have EC : fX5_play_c50 a ((r + f + 1) + 1) (nI D) (nI M) (nI x) hc = if nI M ≤ nI x then (0, nI x, hc) else (if bI (fX0_isOver (a + 1) hc) = 0 then fX5_play_c82 a (fX5_play_c50 a (r + f + 1)) (nI D) (nI M) (nI x) 0 (fX3_run (a + 78) (a + 1) (nI D) hc) else (0, nI x, hc)) := rfl
    have EM (hm : HH) : fX6_play_c39 m ((r + f + 1) + 1) (nI D) (nI M) (nI x) hm = if nI M ≤ nI x then (nI x, hm) else (if bI (fX6_isOver m hm) = 0 then fX6_play_c57 m (fX6_play_c39 m (r + f + 1)) (nI D) (nI M) (nI x) (fX6_searches m (nI D) hm) else (nI x, hm)) := rfl
    by_cases ov : bI (G_over g) = 0
    · have Rn := c_run (a := a + 78) (r := a + 1) hD (by omega) (by omega) gi tk cg
      obtain ⟨h1, e1⟩ : ∃ h1, fX3_run (a + 78) (a + 1) (nI D) hc = h1 := ⟨_, rfl⟩
      rw [e1] at Rn EC
      have V : fX3_bestStep (a + 78) 0 h1 = bS (Sroot n t D g) 0 ∧ sX3_bestStep (a + 78) 0 h1 := BC_stp (i := 0) (by decide) Rn.1
      have bok := Sroot_ok (n := n) (t := t) (g := g) hD
      have MS (hm : HH) (eg : hm (m + 1) = g) := m_searches (m := m) (n := n) (t := t) (D := D) (B := B) (h := hm) hD0 hD (by omega) (by rw [eg]; exact gi) (by rw [eg]; exact tk)
      have cg1 : CG n (a + 1) h1 g := CG_fr hn4 (fun q q1 q2 => Rn.2.2 q (by omega)) cg
      have ch1 : CH (a + 1) h1 g := CH_h (Rn.2.2 _ (by omega)) (Rn.2.2 _ (by omega)) ch
      rw [if_neg c, hov, if_pos ov] at EC
      obtain ⟨b, eb⟩ : ∃ b, Sroot n t D g = b := ⟨_, rfl⟩
      rw [eb] at V bok
      -- what either move gives
      have GO (h2 : HH) (g2 : Nat → Int32) (F2 : HH → HH) (E2 : fX5_play_c82 a (fX5_play_c50 a (r + f + 1)) (nI D) (nI M) (nI x) 0 h1 = fX5_play_c50 a (r + f + 1) (nI D) (nI M) (nI (x + 1)) h2) (S2 : sX5_play_c50 a (r + f + 1) (nI D) (nI M) (nI (x + 1)) h2 → sX5_play_c82 a (sX5_play_c50 a (r + f + 1)) (nI D) (nI M) (nI x) 0 h1) (sa2 : SA (B + 51) (a + 1) h2 g2) (o2 : Out (a + 1) (a + 1 + 15) h1 h2)
          (M2 : ∀ hm : HH, hm (m + 1) = g → fX6_play_c57 m (fX6_play_c39 m (r + f + 1)) (nI D) (nI M) (nI x) (fX6_searches m (nI D) hm) = fX6_play_c39 m (r + f + 1) (nI D) (nI M) (nI (x + 1)) (hrow (fX6_searches m (nI D) hm) (m + 1) g2) ∧ (sX6_play_c39 m (r + f + 1) (nI D) (nI M) (nI (x + 1)) (hrow (fX6_searches m (nI D) hm) (m + 1) g2) → sX6_play_c57 m (sX6_play_c39 m (r + f + 1)) (nI D) (nI M) (nI x) (fX6_searches m (nI D) hm))) :
          ∃ (y : Int32) (gF : Nat → Int32) (hcF : HH), fX5_play_c50 a ((r + f + 1) + 1) (nI D) (nI M) (nI x) hc = (0, y, hcF) ∧ sX5_play_c50 a ((r + f + 1) + 1) (nI D) (nI M) (nI x) hc ∧ SA (B + 51 * ((r + 1 : Nat) : Int)) (a + 1) hcF gF ∧ (∀ q, (q < a + 1 ∨ (a + 16 ≤ q ∧ q < a + 78) ∨ a + 109 ≤ q) → hcF q = hc q) ∧ ∀ hm : HH, hm (m + 1) = g → ∃ hmF, fX6_play_c39 m ((r + f + 1) + 1) (nI D) (nI M) (nI x) hm = (y, hmF) ∧ sX6_play_c39 m ((r + f + 1) + 1) (nI D) (nI M) (nI x) hm ∧ hmF (m + 1) = gF ∧ (∀ q, q ≠ m → q ≠ m + 1 → q ≠ m + 3 → q ≠ m + 4 → q ≠ m + 5 → hmF q = hm q) ∧ ∀ k, k ≠ 7 → k ≠ 8 → hmF m k = hm m k := by
        obtain ⟨y, gF, hcF, i1, i2, i3, i4, i5⟩ := ih (x + 1) f (B + 51) g2 h2 (by omega) (by omega) (by omega) sa2
        refine ⟨y, gF, hcF, by rw [EC, E2, i1], ⟨fun q => absurd q c, fun _ => ⟨fun _ => ⟨Rn.2.1, ?_⟩, fun q => absurd (by rw [hov]; exact ov) q⟩⟩, SA_mono (by omega) i3, fun q hq => ?_, fun hm eg => ?_⟩
        · rw [e1]
          exact S2 i2
        · rw [i4 q hq, o2 q (by omega), Rn.2.2 q (by omega)]
        · have S := MS hm eg
          obtain ⟨hmF, j1, j2, j3, j4, j5⟩ := i5 (hrow (fX6_searches m (nI D) hm) (m + 1) g2) hrow_s
          have Q := M2 hm eg
          refine ⟨hmF, ?_, ⟨fun q => absurd q c, fun _ => ⟨fun _ => ⟨S.2.1, Q.2 j2⟩, fun q => absurd (by rw [mov hm eg]; exact ov) q⟩⟩, j3, fun q q0 q1 q3 q4 q5 => ?_, fun k k7 k8 => ?_⟩
          · rw [EM hm, if_neg c, mov hm eg, if_pos ov, Q.1]
            exact j1
          · rw [j4 q q0 q1 q3 q4 q5, hrow_o q1, S.2.2.1 q q0 q3 q4 q5]
          · rw [j5 k k7 k8, hrow_o (by omega), S.2.2.2 k k7 k8]
      match b, V, bok, eb with
      | none, V, bok, eb =>
        have V1 : fX3_bestStep (a + 78) 0 h1 = -1 := V.1
        obtain ⟨qn, sa2, s2, o2, m2⟩ := st_skip (a := a + 1) (h := h1) (by omega) (by omega) gi tk ov cg1 ch1
        refine GO _ _ (fun h => h) ?_ ?_ sa2 o2 (fun hm eg => ?_)
        · unfold fX5_play_c82 fX5_play_c120
          rw [if_pos V1, nI_1]
        · intro w
          unfold sX5_play_c82 sX5_play_c120
          rw [V1, nI_1]
          exact ⟨V.2, fun _ => ⟨s2, w⟩, fun q => absurd rfl q⟩
        · have S := MS hm eg
          rw [eg, eb] at S
          have z : fX6_searches m (nI D) hm m 7 = 0 := S.1
          have Q := m2 m (fX6_searches m (nI D) hm) (by rw [S.2.2.1 _ (by omega) (by omega) (by omega) (by omega)]; exact eg)
          unfold fX6_play_c57 fX6_play_c92 sX6_play_c57 sX6_play_c92
          rw [if_pos z, nI_1, Q.1]
          exact ⟨rfl, fun w => ⟨fun _ => ⟨Q.2, w⟩, fun q => absurd z q⟩⟩
      | some (rr, l, ff), V, bok, eb =>
        obtain ⟨l1, l3, inL, f3⟩ := bok rr l ff rfl
        obtain ⟨f0, okf⟩ := okl_mem inL
        have V1 : fX3_bestStep (a + 78) 0 h1 = nI (told (ff 0)) := by
          rw [V.1]
          show (if 0 < l then nI (told (ff 0)) else -1) = _
          rw [if_pos (by omega)]
        have V0 : ¬ nI (told (ff 0)) = -1 := by
          have tl : told (ff 0) < 2147483648 := by unfold told; omega
          intro z
          have := congrArg Int32.toInt z
          rw [ti_nI tl, tm1] at this
          omega
        obtain ⟨qn, sa2, s2, o2, m2⟩ := st_place (a := a + 1) (h := h1) (s := ff 0 / 25) (j := ff 0 % 25) (by omega) (by omega) gi tk (by omega) (by omega) (ok_why okf) cg1 ch1
        refine GO _ _ (fun h => h) ?_ ?_ sa2 o2 (fun hm eg => ?_)
        · unfold fX5_play_c82 fX5_play_c120
          rw [V1, if_neg V0, told_div f0, told_rem f0, nI_1]
        · intro w
          unfold sX5_play_c82 sX5_play_c120
          rw [V1, told_div f0, told_rem f0, nI_1]
          exact ⟨V.2, fun q => absurd q V0, fun _ => ⟨s2, w⟩⟩
        · have S := MS hm eg
          rw [eg, eb] at S
          obtain ⟨b1, b2, b3, b4, b5⟩ := S.1
          have z : ¬ fX6_searches m (nI D) hm m 7 = 0 := by rw [b1]; exact nI_ne0 (by omega) (by omega)
          have b0 := b5 0 (by omega)
          have d1 : nI (ff 0) / 25 = nI (ff 0 / 25) := nI_div (b := 25) (by omega) (by decide) (by decide)
          have d2 : jrem (nI (ff 0)) 25 = nI (ff 0 % 25) := jrem_n (b := 25) (by omega) (by decide) (by decide)
          have Q := m2 m (fX6_searches m (nI D) hm) (by rw [S.2.2.1 _ (by omega) (by omega) (by omega) (by omega)]; exact eg)
          unfold fX6_play_c57 fX6_play_c92 sX6_play_c57 sX6_play_c92
          rw [if_neg z, b0, d1, d2, nI_1, Q.1]
          exact ⟨rfl, fun w => ⟨fun q => absurd q z, fun _ => ⟨Q.2, w⟩⟩⟩
    · refine ⟨nI x, g, hc, by rw [EC, if_neg c, hov, if_neg ov], ⟨fun q => absurd q c, fun _ => ⟨fun q => absurd (by rw [hov] at q; exact q) ov, fun _ => trivial⟩⟩, SA_mono (by omega) sa, fun _ _ => rfl, fun hm eg => ⟨hm, by rw [EM hm, if_neg c, mov hm eg, if_neg ov], ⟨fun q => absurd q c, fun _ => ⟨fun q => absurd (by rw [mov hm eg] at q; exact q) ov, fun _ => trivial⟩⟩, eg, fun _ _ _ _ _ _ => rfl, fun _ _ _ => rfl⟩⟩
theorem play_ok {a m o : Nat} {B : Int} {h : HH} (hB4 : 4 ≤ B) (hB : B + 700 ≤ 70000000) (d : a + 110 ≤ m ∧ m + 6 ≤ o) (inv : INV B a m h) (x1 x2 : Int32) : Good a m o (B + 510) (sL_play a x1 x2 o h) (fL_play a x1 x2 o h) (sX6_play m x1 x2) (fX6_play m x1 x2) := by
  have inv0 := inv
  replace inv := INV_mono (show B ≤ B + 510 by omega) inv
  show Good a m o (B + 510) (sX5_play a x1 x2 h ∧ ((fX5_play a x1 x2 h).1 = 0 ∨ (fX5_play a x1 x2 h).1 = 1)) (W1 o (fX5_play a x1 x2 h)) _ _
  by_cases c1 : x1 < 1
  · exact q1 d inv keep_refl (e := 1) (v := 0) (w := 0) (r := 1) ⟨by simp only [fX5_play_c34, fX5_play_c33, fX5_play_c15, fX5_play_c14, fX5_play_c0, fX5_play, c1, rf0, rf1, rf2, ra0, ra1, ri0, ri1, rs0, rs1, bf, bt, n10, n20, n30, if_true, if_false, true_implies, false_implies, not_true_eq_false, not_false_eq_true, and_true, true_and, and_self, implies_true], by simp only [sX5_play_c34, sX5_play_c33, sX5_play_c15, sX5_play_c14, sX5_play_c0, sX5_play, c1, rf0, rf1, rf2, ra0, ra1, ri0, ri1, rs0, rs1, bf, bt, n10, n20, n30, if_true, if_false, true_implies, false_implies, not_true_eq_false, not_false_eq_true, and_true, true_and, and_self, implies_true]⟩ (fun h' e => ⟨by simp only [fX6_play_c28, fX6_play_c25, fX6_play_c24, fX6_play_c0, fX6_play, wi_f1 (hi := 2) c1, rf0, rf1, rf2, ra0, ra1, ri0, ri1, rs0, rs1, bf, bt, n10, n20, n30, if_true, if_false, true_implies, false_implies, not_true_eq_false, not_false_eq_true, and_true, true_and, and_self, implies_true], by simp only [sX6_play_c28, sX6_play_c25, sX6_play_c24, sX6_play_c0, sX6_play, wi_f1 (hi := 2) c1, rf0, rf1, rf2, ra0, ra1, ri0, ri1, rs0, rs1, bf, bt, n10, n20, n30, if_true, if_false, true_implies, false_implies, not_true_eq_false, not_false_eq_true, and_true, true_and, and_self, implies_true]⟩) (by decide) (Or.inr ⟨rfl, rfl⟩)
  · by_cases c2 : 2 < x1
    · exact q1 d inv keep_refl (e := 1) (v := 0) (w := 0) (r := 1) ⟨by simp only [fX5_play_c34, fX5_play_c33, fX5_play_c15, fX5_play_c14, fX5_play_c0, fX5_play, c1, c2, rf0, rf1, rf2, ra0, ra1, ri0, ri1, rs0, rs1, bf, bt, n10, n20, n30, if_true, if_false, true_implies, false_implies, not_true_eq_false, not_false_eq_true, and_true, true_and, and_self, implies_true], by simp only [sX5_play_c34, sX5_play_c33, sX5_play_c15, sX5_play_c14, sX5_play_c0, sX5_play, c1, c2, rf0, rf1, rf2, ra0, ra1, ri0, ri1, rs0, rs1, bf, bt, n10, n20, n30, if_true, if_false, true_implies, false_implies, not_true_eq_false, not_false_eq_true, and_true, true_and, and_self, implies_true]⟩ (fun h' e => ⟨by simp only [fX6_play_c28, fX6_play_c25, fX6_play_c24, fX6_play_c0, fX6_play, wi_f2 (hi := 2) c1 c2, rf0, rf1, rf2, ra0, ra1, ri0, ri1, rs0, rs1, bf, bt, n10, n20, n30, if_true, if_false, true_implies, false_implies, not_true_eq_false, not_false_eq_true, and_true, true_and, and_self, implies_true], by simp only [sX6_play_c28, sX6_play_c25, sX6_play_c24, sX6_play_c0, sX6_play, wi_f2 (hi := 2) c1 c2, rf0, rf1, rf2, ra0, ra1, ri0, ri1, rs0, rs1, bf, bt, n10, n20, n30, if_true, if_false, true_implies, false_implies, not_true_eq_false, not_false_eq_true, and_true, true_and, and_self, implies_true]⟩) (by decide) (Or.inr ⟨rfl, rfl⟩)
    · have V1 := wi_t (lo := 1) (hi := 2) c1 c2
      by_cases c3 : x2 < 1
      · exact q1 d inv keep_refl (e := 1) (v := 0) (w := 0) (r := 1) ⟨by simp only [fX5_play_c34, fX5_play_c33, fX5_play_c15, fX5_play_c14, fX5_play_c0, fX5_play, c1, c2, c3, rf0, rf1, rf2, ra0, ra1, ri0, ri1, rs0, rs1, bf, bt, n10, n20, n30, if_true, if_false, true_implies, false_implies, not_true_eq_false, not_false_eq_true, and_true, true_and, and_self, implies_true], by simp only [sX5_play_c34, sX5_play_c33, sX5_play_c15, sX5_play_c14, sX5_play_c0, sX5_play, c1, c2, c3, rf0, rf1, rf2, ra0, ra1, ri0, ri1, rs0, rs1, bf, bt, n10, n20, n30, if_true, if_false, true_implies, false_implies, not_true_eq_false, not_false_eq_true, and_true, true_and, and_self, implies_true]⟩ (fun h' e => ⟨by simp only [fX6_play_c28, fX6_play_c25, fX6_play_c24, fX6_play_c0, fX6_play, V1, wi_f1 (hi := 10) c3, rf0, rf1, rf2, ra0, ra1, ri0, ri1, rs0, rs1, bf, bt, n10, n20, n30, if_true, if_false, true_implies, false_implies, not_true_eq_false, not_false_eq_true, and_true, true_and, and_self, implies_true], by simp only [sX6_play_c28, sX6_play_c25, sX6_play_c24, sX6_play_c0, sX6_play, V1, wi_f1 (hi := 10) c3, rf0, rf1, rf2, ra0, ra1, ri0, ri1, rs0, rs1, bf, bt, n10, n20, n30, if_true, if_false, true_implies, false_implies, not_true_eq_false, not_false_eq_true, and_true, true_and, and_self, implies_true]⟩) (by decide) (Or.inr ⟨rfl, rfl⟩)
      · by_cases c4 : 10 < x2
        · exact q1 d inv keep_refl (e := 1) (v := 0) (w := 0) (r := 1) ⟨by simp only [fX5_play_c34, fX5_play_c33, fX5_play_c15, fX5_play_c14, fX5_play_c0, fX5_play, c1, c2, c3, c4, rf0, rf1, rf2, ra0, ra1, ri0, ri1, rs0, rs1, bf, bt, n10, n20, n30, if_true, if_false, true_implies, false_implies, not_true_eq_false, not_false_eq_true, and_true, true_and, and_self, implies_true], by simp only [sX5_play_c34, sX5_play_c33, sX5_play_c15, sX5_play_c14, sX5_play_c0, sX5_play, c1, c2, c3, c4, rf0, rf1, rf2, ra0, ra1, ri0, ri1, rs0, rs1, bf, bt, n10, n20, n30, if_true, if_false, true_implies, false_implies, not_true_eq_false, not_false_eq_true, and_true, true_and, and_self, implies_true]⟩ (fun h' e => ⟨by simp only [fX6_play_c28, fX6_play_c25, fX6_play_c24, fX6_play_c0, fX6_play, V1, wi_f2 (hi := 10) c3 c4, rf0, rf1, rf2, ra0, ra1, ri0, ri1, rs0, rs1, bf, bt, n10, n20, n30, if_true, if_false, true_implies, false_implies, not_true_eq_false, not_false_eq_true, and_true, true_and, and_self, implies_true], by simp only [sX6_play_c28, sX6_play_c25, sX6_play_c24, sX6_play_c0, sX6_play, V1, wi_f2 (hi := 10) c3 c4, rf0, rf1, rf2, ra0, ra1, ri0, ri1, rs0, rs1, bf, bt, n10, n20, n30, if_true, if_false, true_implies, false_implies, not_true_eq_false, not_false_eq_true, and_true, true_and, and_self, implies_true]⟩) (by decide) (Or.inr ⟨rfl, rfl⟩)
        · have V2 := wi_t (lo := 1) (hi := 10) c3 c4
          obtain ⟨D, D0, D2, rfl⟩ := rng2 (lo := 1) (hi := 2) (by decide) c1 c2 (by decide)
          obtain ⟨M, M0, M1, rfl⟩ := rng2 (lo := 1) (hi := 10) (by decide) c3 c4 (by decide)
          obtain ⟨k, e3, uc, spp, ou, sv⟩ := both_push inv0
          obtain ⟨h1, e1⟩ : ∃ h1, fX4_push (a + 16) (a + 1) h = h1 := ⟨_, rfl⟩
          rw [e1] at uc ou
          have sa1 : SA B (a + 1) h1 (h (m + 1)) := SA_h (fun q q1 q2 => ou q (by omega)) inv0.1
          obtain ⟨y, gF, hF, p1, p2, p3, p4, p5⟩ := play_loop (a := a) (m := m) (D := D) (M := M) D0 (by omega) M1 d.1 M 0 (10 - M) B (h (m + 1)) h1 (by omega) hB4 (by omega) sa1
          rw [show M + (10 - M) + 1 = 11 by omega] at p1 p2 p5
          have p1 : fX5_play_c50 a 11 (nI D) (nI M) 0 h1 = (0, y, hF) := p1
          have p2 : sX5_play_c50 a 11 (nI D) (nI M) 0 h1 := p2
          have C : fX5_play a (nI D) (nI M) h = (0, y, hF) := by simp only [fX5_play_c34, fX5_play_c33, fX5_play_c15, fX5_play_c14, fX5_play_c0, fX5_play, c1, c2, c3, c4, e1, p1, rf0, rf1, rf2, ra0, ra1, ri0, ri1, rs0, rs1, bf, bt, n10, n20, n30, if_true, if_false, true_implies, false_implies, not_true_eq_false, not_false_eq_true, and_true, true_and, and_self, implies_true]
          have sC : sX5_play a (nI D) (nI M) h := by simp only [sX5_play_c34, sX5_play_c33, sX5_play_c15, sX5_play_c14, sX5_play_c0, sX5_play, c1, c2, c3, c4, spp, e1, p2, rf0, rf1, rf2, ra0, ra1, ri0, ri1, rs0, rs1, bf, bt, n10, n20, n30, if_true, if_false, true_implies, false_implies, not_true_eq_false, not_false_eq_true, and_true, true_and, and_self, implies_true]
          obtain ⟨h', eh⟩ : ∃ h', (W1 o (fX5_play a (nI D) (nI M) h)).2 = h' := ⟨_, rfl⟩
          have w (q : Nat) (hq : q ≠ o) : h' q = hF q := by rw [← eh, w1_v q hq, C]
          have far (q : Nat) (hq : m ≤ q) (hq' : q ≠ o) : h' q = h q := by rw [w q hq', p4 q (by omega), ou q (by omega)]
          have SV := sv (hset h' m 4 0) (by rw [hset_s, upd_o (by decide), far m (by omega) (by omega)]; exact e3) (by rw [hset_o _ _ _ _ (by omega), far _ (by omega) (by omega)]) (by rw [hset_o _ _ _ _ (by omega), far _ (by omega) (by omega)])
          obtain ⟨hS, eS⟩ : ∃ hS, hset (hrow (hset h' m 4 0) (m + 2) (G_save k (h (m + 1)) (h (m + 2)))) m 3 (nI (kk k)) = hS := ⟨_, rfl⟩
          rw [eS] at SV
          have rS : hS (m + 1) = h (m + 1) := by rw [← eS, hset_o _ _ _ _ (by omega), hrow_o (by omega), hset_o _ _ _ _ (by omega), far _ (by omega) (by omega)]
          have rS2 : hS (m + 2) = G_save k (h (m + 1)) (h (m + 2)) := by rw [← eS, hset_o _ _ _ _ (by omega), hrow_s]
          have rS4 : hS m 4 = 0 := by rw [← eS, hset_s, upd_o (by decide), hrow_o (by omega), hset_s, upd_s]
          have rS3 : hS m 3 = nI (kk k) := by rw [← eS, hset_s, upd_s]
          have fS (q : Nat) (q1 : q ≠ m) (q2 : q ≠ m + 2) : hS q = h' q := by rw [← eS, hset_o _ _ _ _ q1, hrow_o q2, hset_o _ _ _ _ q1]
          obtain ⟨hM, j1, j2, j3, j4, j5⟩ := p5 hS rS
          have j1 : fX6_play_c39 m 11 (nI D) (nI M) 0 hS = (y, hM) := j1
          have j2 : sX6_play_c39 m 11 (nI D) (nI M) 0 hS := j2
          have IN : INV (B + 510) a m hM := fin_inv (hF := hF) (SA_mono (by omega) p3) (UC_mono (by omega) (UC_h (fun q q1 q2 => p4 q (by omega)) uc)) (fun q q1 q2 => by rw [j4 q (by omega) (by omega) (by omega) (by omega) (by omega), fS q (by omega) (by omega), w q (by omega)]) ((j5 3 (by decide) (by decide)).trans rS3) j3 (by rw [j4 _ (by omega) (by omega) (by omega) (by omega) (by omega), rS2])
          refine g1 (hM := hM) C sC (w := y) (r := 0) ?_ ?_ ((j5 4 (by decide) (by decide)).trans rS4) (by rw [eh, j4 o (by omega) (by omega) (by omega) (by omega) (by omega), fS o (by omega) (by omega)]) IN (by decide) (Or.inl ⟨rfl, rfl, rfl⟩)
          · rw [eh]
            simp only [fX6_play_c28, fX6_play_c25, fX6_play_c24, fX6_play_c0, fX6_play, V1, V2, SV.1, j1, rf0, rf1, rf2, ra0, ra1, ri0, ri1, rs0, rs1, bf, bt, n10, n20, n30, if_true, if_false, true_implies, false_implies, not_true_eq_false, not_false_eq_true, and_true, true_and, and_self, implies_true]
          · rw [eh]
            simp only [sX6_play_c28, sX6_play_c25, sX6_play_c24, sX6_play_c0, sX6_play, V1, V2, SV.1, SV.2, j2, rf0, rf1, rf2, ra0, ra1, ri0, ri1, rs0, rs1, bf, bt, n10, n20, n30, if_true, if_false, true_implies, false_implies, not_true_eq_false, not_false_eq_true, and_true, true_and, and_self, implies_true]
