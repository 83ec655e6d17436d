/-! the component's moves against the row -/
theorem comes_row {t s : Nat} {c : Int32} {g g' : Nat → Int32} (ht : t < 4) (hs : s < 12) (e : ∀ k, k < 85 → g' k = g k) : ∀ k, k < 85 → G_comes t s c g' k = G_comes t s c g k := by
  intro k hk
  have em := mp_row ht e
  have e50 := e (50 + 3 * s) (by omega)
  have ek := e k hk
  unfold G_comes
  rw [em, e (49 + 3 * s) (by omega)]
  unfold ps
  by_cases b : 5 + 11 * t ≤ k ∧ k < 16 + 11 * t
  · rw [if_pos b, if_pos b]
  · rw [if_neg b, if_neg b]
    unfold G_sp G_tk
    rw [e50]
    by_cases z : g (50 + 3 * s) = 0
    · simp only [if_pos z]
      split
      · unfold upd
        rw [ek]
      · split
        · unfold upd
          rw [ek]
        · unfold upd
          rw [ek]
    · simp only [if_neg z]
      split
      · unfold upd
        rw [ek]
      · split
        · unfold upd
          rw [ek]
        · unfold upd
          rw [ek]
theorem SI_row {s : Nat} {g g' : Nat → Int32} (hs : s < 12) (e : ∀ k, k < 85 → g' k = g k) (h : SI g s) : SI g' s := by
  unfold SI
  rw [e _ (by omega), e _ (by omega), e _ (by omega)]
  exact h
theorem c_place {a n t s j : Nat} {h : HH} {g : Nat → Int32} {B : Int} (hB : B ≤ 100000000) (hn0 : 2 ≤ n) (hn : n ≤ 4) (ht : t < n) (h0 : g 0 = nI n) (h3 : g 3 = nI t) (hr : 1 ≤ (g 2).toInt ∧ (g 2).toInt ≤ (g 1).toInt ∧ (g 1).toInt ≤ 12) (hs : s < 12) (hj : j < 25) (hS : SI g s) (h9 : s = 9 → j < 8 ∧ (0 ≤ (mp g t 10).toInt ∧ (mp g t 10).toInt ≤ 255) ∧ P_has (mp g t) (nI j) = false) (hI : ∀ p, p < n → PI B (mp (G_comes t s (nI j) g) p)) (cg : CG n a h g) (ch : CH a h g) : ∃ q, q ≤ 30 ∧ g 85 = nI q ∧ CG n a (fX0_makePlacement a (nI s) (nI j) h) (G_places n t q s (nI j) g) ∧ CH a (fX0_makePlacement a (nI s) (nI j) h) (G_places n t q s (nI j) g) ∧ sX0_makePlacement a (nI s) (nI j) h ∧ Out a (a + 15) h (fX0_makePlacement a (nI s) (nI j) h) := by
  obtain ⟨q, o, q1, q2, q3, q4, q5, q6⟩ := ch
  refine ⟨q, q1, q5, ?_⟩
  have hA2 : h a 2 = g 2 := cg.1 2 (by decide)
  have hA3 : h a 3 = g 3 := cg.1 3 (by decide)
  have A := c_add (s := nI s) (c := nI j) q1 q2 q3 q4 q6
  obtain ⟨h1, e1⟩ : ∃ h1, fX1_add (a + 5) (g 2) (g 3) (nI s) (nI j) h = h1 := ⟨_, rfl⟩
  obtain ⟨g1, eg⟩ : ∃ g1, G_notes q g (nI s) (nI j) = g1 := ⟨_, rfl⟩
  rw [e1, eg] at A
  have gl : ∀ k, k < 85 → g1 k = g k := fun k hk => by rw [← eg, notes_lo hk]
  have cg1 : CG n a h1 g1 := by
    obtain ⟨c1, c2, c3⟩ := cg
    have o := A.2.2
    refine CG_row hn gl ⟨fun k hk => by rw [o a (by omega)]; exact c1 k hk, fun p hp => by rw [pv_out o (by omega)]; exact c2 p hp, fun s hs => by rw [o _ (by omega), o _ (by omega), o _ (by omega)]; exact c3 s hs⟩
  have ht4 : t < 4 := by omega
  have mt : mp g1 t = mp g t := mp_row ht4 gl
  obtain ⟨c1, c2, c3⟩ := cg1
  have a3 : h1 a 3 = nI t := by rw [c1 3 (by decide), gl 3 (by decide), h3]
  have C := c_carry (a := a) (r := a + 7 + 2 * t) (s := s) (j := j) (h := h1) (by omega) hs hj (fun z => by rw [c2 t ht, mt]; exact h9 z)
  have oC := o2_carry a (a + 7 + 2 * t) (nI s) (nI j) h1
  obtain ⟨h2, e2⟩ : ∃ h2, fX0_carryOut a (a + 7 + 2 * t) (nI s) (nI j) h1 = h2 := ⟨_, rfl⟩
  rw [e2] at C oC
  rw [(c3 s hs).1, c2 t ht] at C
  have O := c_occ (a := a) (n := n) (t := t) (s := s) (h := h2) (g := g1) (r := P_act s (nI j) (g1 (49 + 3 * s)) (mp g1 t)) hn ht hs (by rw [gl 3 (by decide), h3]) (SI_row hs gl hS)
    (fun k hk => by rw [oC a (by omega)]; exact c1 k hk)
    (fun p hp => by
      by_cases e : p = t
      · subst e
        rw [if_pos rfl]
        exact C.1
      · rw [if_neg e, pv_out oC (by omega)]
        exact c2 p hp)
    (fun x hx => by rw [oC _ (by omega), oC _ (by omega), oC _ (by omega)]; exact c3 x hx)
    (cut_act hj (mp_cut _ _))
  obtain ⟨h3', e3⟩ : ∃ h3', fX0_occupy a (nI s) h2 = h3' := ⟨_, rfl⟩
  rw [e3] at O
  have cr := comes_row (c := nI j) ht4 hs gl
  have cm : CG n a h3' (G_comes t s (nI j) g1) := O.1
  have l0 : G_comes t s (nI j) g1 0 = nI n := by rw [comes_lo (by decide), gl 0 (by decide), h0]
  have l1 : G_comes t s (nI j) g1 1 = g 1 := by rw [comes_lo (by decide), gl 1 (by decide)]
  have l2 : G_comes t s (nI j) g1 2 = g 2 := by rw [comes_lo (by decide), gl 2 (by decide)]
  have l3 : G_comes t s (nI j) g1 3 = nI t := by rw [comes_lo (by decide), gl 3 (by decide), h3]
  have P := c_pass (a := a) (h := h3') hB hn0 hn ht l0 l3 (by rw [l1, l2]; exact hr) (fun p hp => by rw [mp_row (by omega) cr]; exact hI p hp) cm
  have E : fX0_makePlacement a (nI s) (nI j) h = fX0_passTurn a h3' ∧ sX0_makePlacement a (nI s) (nI j) h := by
    unfold fX0_makePlacement fX0_makePlacement_c0 fX0_makePlacement_c23 fX0_makePlacement_c34 fX0_makePlacement_c38 sX0_makePlacement sX0_makePlacement_c0 sX0_makePlacement_c23 sX0_makePlacement_c34 sX0_makePlacement_c38
    rw [hA2, hA3, e1, a3, nclamp (by omega), e2, e3]
    exact ⟨rfl, A.2.1, v_of ht4 (by decide), C.2, O.2.1, P.2.1⟩
  have f5 : h3' (a + 5) = h1 (a + 5) := (O.2.2 _ (by omega)).trans (oC _ (by omega))
  have f6 : h3' (a + 6) = h1 (a + 6) := (O.2.2 _ (by omega)).trans (oC _ (by omega))
  rw [E.1]
  unfold G_places
  rw [eg]
  refine ⟨P.1, CH_fr (P.2.2.2.1.trans f5) (P.2.2.2.2.trans f6) (fun k hk => ?_) A.1, E.2, out_tr (out_mono (by omega) (by omega) A.2.2) (out_tr (out_mono (by omega) (by omega) oC) (out_tr (out_mono (by omega) (by omega) O.2.2) P.2.2.1))⟩
  unfold G_goesOn
  rw [gon_hi hn hk, comes_hi ht4 hs hk]
theorem c_skip {a n t : Nat} {h : HH} {g : Nat → Int32} {B : Int} (hB : B ≤ 100000000) (hn0 : 2 ≤ n) (hn : n ≤ 4) (ht : t < n) (h0 : g 0 = nI n) (h3 : g 3 = nI t) (hr : 1 ≤ (g 2).toInt ∧ (g 2).toInt ≤ (g 1).toInt ∧ (g 1).toInt ≤ 12) (hI : ∀ p, p < n → PI B (if p = t then upd (mp g t) 7 0 else mp g p)) (cg : CG n a h g) (ch : CH a h g) : ∃ q, q ≤ 30 ∧ g 85 = nI q ∧ CG n a (fX0_makeSkip a h) (G_skips n t q g) ∧ CH a (fX0_makeSkip a h) (G_skips n t q g) ∧ sX0_makeSkip a h ∧ Out a (a + 15) h (fX0_makeSkip a h) := by
  obtain ⟨q, o, q1, q2, q3, q4, q5, q6⟩ := ch
  refine ⟨q, q1, q5, ?_⟩
  have hA2 : h a 2 = g 2 := cg.1 2 (by decide)
  have hA3 : h a 3 = g 3 := cg.1 3 (by decide)
  have A := c_add (s := -1) (c := 0) q1 q2 q3 q4 q6
  obtain ⟨h1, e1⟩ : ∃ h1, fX1_add (a + 5) (g 2) (g 3) (-1) 0 h = h1 := ⟨_, rfl⟩
  obtain ⟨g1, eg⟩ : ∃ g1, G_notes q g (-1) 0 = g1 := ⟨_, rfl⟩
  rw [e1, eg] at A
  have gl : ∀ k, k < 85 → g1 k = g k := fun k hk => by rw [← eg, notes_lo hk]
  have cg1 : CG n a h1 g1 := by
    obtain ⟨c1, c2, c3⟩ := cg
    have o := A.2.2
    refine CG_row hn gl ⟨fun k hk => by rw [o a (by omega)]; exact c1 k hk, fun p hp => by rw [pv_out o (by omega)]; exact c2 p hp, fun s hs => by rw [o _ (by omega), o _ (by omega), o _ (by omega)]; exact c3 s hs⟩
  have ht4 : t < 4 := by omega
  have mt (p : Nat) (hp : p < 4) : mp g1 p = mp g p := mp_row hp gl
  obtain ⟨c1, c2, c3⟩ := cg1
  have a3 : h1 a 3 = nI t := by rw [c1 3 (by decide), gl 3 (by decide), h3]
  obtain ⟨h2, e2⟩ : ∃ h2, hset h1 (a + 7 + 2 * t) 3 0 = h2 := ⟨_, rfl⟩
  have o2 : Out (a + 7 + 2 * t) (a + 9 + 2 * t) h1 h2 := by rw [← e2]; exact out_set (by omega) (by omega) out_refl
  have p2 : pv (a + 7 + 2 * t) h2 = upd (mp g1 t) 7 0 := by rw [← e2, pv_setF (by decide), c2 t ht]
  have cu : Cut (upd (mp g1 t) 7 0) := cut_upd (mp_cut _ _) (by decide)
  have cg2 : CG n a h2 (ps g1 t (upd (mp g1 t) 7 0)) := by
    refine ⟨fun k hk => ?_, fun p hp => ?_, fun s hs => ?_⟩
    · rw [o2 a (by omega), ps_lo hk]
      exact c1 k hk
    · by_cases e : p = t
      · subst e
        rw [p2, mp_ps_s cu]
      · rw [pv_out o2 (by omega), mp_ps_o e]
        exact c2 p hp
    · rw [o2 _ (by omega), o2 _ (by omega), o2 _ (by omega), ps_hi ht4 (by omega), ps_hi ht4 (by omega), ps_hi ht4 (by omega)]
      exact c3 s hs
  have P := c_pass (a := a) (h := h2) hB hn0 hn ht (by rw [ps_lo (by decide), gl 0 (by decide), h0]) (by rw [ps_lo (by decide), gl 3 (by decide), h3]) (by rw [ps_lo (by decide), ps_lo (by decide), gl 1 (by decide), gl 2 (by decide)]; exact hr) (fun p hp => by
    have w := hI p hp
    by_cases e : p = t
    · subst e
      rw [if_pos rfl] at w
      rw [mp_ps_s cu, mt p (by omega)]
      exact w
    · rw [if_neg e] at w
      rw [mp_ps_o e, mt p (by omega)]
      exact w) cg2
  have E : fX0_makeSkip a h = fX0_passTurn a h2 ∧ sX0_makeSkip a h := by
    unfold fX0_makeSkip fX0_makeSkip_c0 fX0_makeSkip_c22 fX0_makeSkip_c31 sX0_makeSkip sX0_makeSkip_c0 sX0_makeSkip_c22 sX0_makeSkip_c31
    rw [hA2, hA3, e1, a3, nclamp (by omega), e2]
    exact ⟨rfl, A.2.1, v_of ht4 (by decide), P.2.1⟩
  have f5 : h2 (a + 5) = h1 (a + 5) := o2 _ (by omega)
  have f6 : h2 (a + 6) = h1 (a + 6) := o2 _ (by omega)
  rw [E.1]
  unfold G_skips
  rw [eg]
  refine ⟨P.1, CH_fr (P.2.2.2.1.trans f5) (P.2.2.2.2.trans f6) (fun k hk => ?_) A.1, E.2, out_tr (out_mono (by omega) (by omega) A.2.2) (out_tr (out_mono (by omega) (by omega) o2) P.2.2.1)⟩
  unfold G_goesOn
  rw [gon_hi hn hk, ps_hi ht4 (by omega)]
