/-! a placement that is possible keeps what a player's row is -/
theorem cost_v {r : Nat → Int32} {b g : Int32} (h1 : -1 ≤ b.toInt) (h2 : b.toInt ≤ 7) : 0 ≤ (P_cost r b g).toInt ∧ (P_cost r b g).toInt ≤ 4 := by
  have A : (0 ≤ (fX6_woodOf b).toInt ∧ (fX6_woodOf b).toInt ≤ 4) ∧ (0 ≤ (fX6_clayOf b).toInt ∧ (fX6_clayOf b).toInt ≤ 4) := by
    rcases bld_cases h1 h2 with rfl | rfl | rfl | rfl | rfl | rfl | rfl | rfl | rfl <;> decide
  have D (x : Int32) (hx : 0 ≤ x.toInt ∧ x.toInt ≤ 4) (hp : ¬ x ≤ 0) : 0 ≤ (x - 1).toInt ∧ (x - 1).toInt ≤ 4 := by
    have hp' : ¬ x.toInt ≤ 0 := fun q => hp (ti_le.mpr q)
    rw [ti_sub (by rw [t1]; omega) (by rw [t1]; omega), t1]
    omega
  unfold P_cost
  by_cases g0 : g = 0
  · rw [if_pos g0]
    split
    · exact A.1
    · split
      · exact A.1
      · split
        · exact A.1
        · rename_i q
          exact D _ A.1 q
  · rw [if_neg g0]
    split
    · exact A.2
    · split
      · exact A.2
      · split
        · exact A.2
        · rename_i q
          exact D _ A.2 q
theorem pi_pay {B : Int} {r : Nat → Int32} {b : Int32} (hB : B ≤ 90000000) (h1 : -1 ≤ b.toInt) (h2 : b.toInt ≤ 7) (c : P_canPay r b = true) (p : PI B r) : PI B (P_pay r b) := by
  have c0 := cost_v (r := r) (g := 0) h1 h2
  have c1 := cost_v (r := r) (g := 1) h1 h2
  have h0 := p.1 0 (by decide)
  have h1' := p.1 1 (by decide)
  unfold P_canPay at c
  by_cases q0 : r 0 < P_cost r b 0
  · rw [if_pos q0] at c; cases c
  rw [if_neg q0] at c
  by_cases q1 : r 1 < P_cost r b 1
  · rw [if_pos q1] at c; cases c
  have q0' : ¬ (r 0).toInt < (P_cost r b 0).toInt := fun q => q0 (ti_lt.mpr q)
  have q1' : ¬ (r 1).toInt < (P_cost r b 1).toInt := fun q => q1 (ti_lt.mpr q)
  unfold P_pay
  refine pi_g (by decide) (Int.le_refl _) ?_ (pi_g (by decide) (Int.le_refl _) ?_ p)
  · rw [ti_sub (by omega) (by omega)]; omega
  · rw [ti_sub (by omega) (by omega)]; omega
theorem canPay_ext {r r' : Nat → Int32} {b : Int32} (h0 : r' 0 = r 0) (h1 : r' 1 = r 1) (h10 : r' 10 = r 10) : P_canPay r' b = P_canPay r b := by
  unfold P_canPay
  rw [h0, h1, P_cost_ext h10, P_cost_ext h10]
theorem pi_act {B : Int} {n t s j : Nat} {g : Nat → Int32} {lie : Int32} (hB : B ≤ 90000000) (hs : s < 12) (hj : j < 25) (hc : fX6_isChoice (nI s) (nI j) = true) (ha : G_can n t g (nI s) (nI j) = true) (hl : 0 ≤ lie.toInt ∧ lie.toInt ≤ 36) (h7 : 0 < (mp g t 7).toInt) (h9 : s = 9 → P_has (mp g t) (nI j) = false) (p : PI B (mp g t)) : PI (B + 40) (P_act s (nI j) lie (mp g t)) := by
  obtain ⟨r, er⟩ : ∃ r, mp g t = r := ⟨_, rfl⟩
  rw [er] at h7 h9 p ⊢
  have p7 := p.2.2.2.1
  obtain ⟨v, ev⟩ : ∃ v, upd r 7 (r 7 + -1) = v := ⟨_, rfl⟩
  have pV : PI B v := by
    rw [← ev]
    refine pi_7 ?_ p
    rw [ti_add (by rw [tm1]; omega) (by rw [tm1]; omega), tm1]
    omega
  have vk (k : Nat) (hk : k ≠ 7) : v k = r k := by rw [← ev, upd_o hk]
  have g0 := pV.1 0 (by decide)
  have g1 := pV.1 1 (by decide)
  have g2 := pV.1 2 (by decide)
  have g3 := pV.1 3 (by decide)
  have g4 := pV.1 4 (by decide)
  have pM : PI (B + 40) v := pi_mono (by omega) pV
  unfold P_act
  rw [ev]
  have add (k : Nat) (hk : k < 5) (x : Int32) (hx : 0 ≤ x.toInt ∧ x.toInt ≤ 40) : PI (B + 40) (upd v k (v k + x)) := by
    have gk := pV.1 k hk
    refine pi_g hk (by omega) ?_ pV
    rw [ti_add (by omega) (by omega)]
    omega
  have q : s = 0 ∨ s = 1 ∨ s = 2 ∨ s = 3 ∨ s = 4 ∨ s = 5 ∨ s = 6 ∨ s = 7 ∨ s = 8 ∨ s = 9 ∨ s = 10 ∨ s = 11 := by omega
  rcases q with rfl | rfl | rfl | rfl | rfl | rfl | rfl | rfl | rfl | rfl | rfl | rfl
  · rw [P_act0_0]
    refine pi_g (by decide) (by omega) ?_ pV
    have e : (v 0 + lie).toInt = (v 0).toInt + lie.toInt := ti_add (by omega) (by omega)
    split
    · rw [ti_add (by rw [t0]; omega) (by rw [t0]; omega), e, t0]; omega
    · rw [ti_add (by rw [t1]; omega) (by rw [t1]; omega), e, t1]; omega
  · exact add 1 (by decide) lie (by omega)
  · exact add 2 (by decide) 1 (by decide)
  · exact add 4 (by decide) lie (by omega)
  · exact add 4 (by decide) 2 (by decide)
  · exact add 3 (by decide) lie (by omega)
  · unfold G_can at ha
    rw [if_pos (by decide : nI 6 = 6), er] at ha
    by_cases w8 : 5 ≤ r 8
    · rw [if_pos w8] at ha; cases ha
    rw [if_neg w8] at ha
    have cp : P_canPay v (-1) = true := by
      rw [canPay_ext (vk 0 (by decide)) (vk 1 (by decide)) (vk 10 (by decide))]
      cases y : P_canPay r (-1)
      · rw [y, if_pos (by decide)] at ha; cases ha
      · rfl
    have w8' : ¬ 5 ≤ (r 8).toInt := fun z => w8 (ti_le.mpr z)
    have h8 := p.2.2.2.2.1
    refine pi_8 ?_ (pi_mono (by omega) (pi_pay hB (by decide) (by decide) cp pV))
    rw [vk 8 (by decide), ti_add (by rw [t1]; omega) (by rw [t1]; omega), t1]
    omega
  · unfold G_can at ha
    rw [if_neg (by decide : ¬ nI 7 = 6), if_pos (by decide : nI 7 = 7), er] at ha
    unfold P_canGrow at ha
    by_cases w5 : 5 ≤ r 5
    · rw [if_pos w5] at ha; cases ha
    have w5' : ¬ 5 ≤ (r 5).toInt := fun z => w5 (ti_le.mpr z)
    have h5 := p.2.1
    have h6 := p.2.2.1
    have e5 : (v 5 + 1).toInt = (r 5).toInt + 1 := by rw [vk 5 (by decide), ti_add (by rw [t1]; omega) (by rw [t1]; omega), t1]
    have e6 : (v 6 + 1).toInt = (r 6).toInt + 1 := by rw [vk 6 (by decide), ti_add (by rw [t1]; omega) (by rw [t1]; omega), t1]
    refine pi_6 ?_ (pi_5 ?_ pM)
    · rw [upd_s, e5, e6]; omega
    · rw [e5, vk 5 (by decide)]; omega
  · have j3 : j ≤ 3 := by
      unfold fX6_isChoice fX6_isChoice_c0 at hc
      rw [if_pos (by decide : nI 8 = 8)] at hc
      obtain ⟨i, _, i2, ei⟩ := (w_in (x := nI j) (a := 1) (b := 3) (by decide) (by decide)).mp hc
      have := (nI_eq (by omega) (by omega)).mp ei
      omega
    unfold G_can at ha
    rw [if_neg (by decide : ¬ nI 8 = 6), if_neg (by decide : ¬ nI 8 = 7), if_pos (by decide : nI 8 = 8), er] at ha
    by_cases w2 : r 2 < nI j
    · rw [if_pos w2] at ha; cases ha
    have w2' : ¬ (r 2).toInt < (nI j).toInt := fun z => w2 (ti_lt.mpr z)
    rw [ti_nI (by omega)] at w2'
    rw [P_act0_8]
    have e2 : (v 2).toInt = (r 2).toInt := by rw [vk 2 (by decide)]
    have m : 0 ≤ ((if bI (P_has v 0) = 0 then (3 : Int32) else 5) * nI j).toInt ∧ ((if bI (P_has v 0) = 0 then (3 : Int32) else 5) * nI j).toInt ≤ 15 := by
      split
      · rw [ti_mul (by rw [t3, ti_nI (by omega)]; omega) (by rw [t3, ti_nI (by omega)]; omega), t3, ti_nI (by omega)]; omega
      · rw [ti_mul (by rw [t5, ti_nI (by omega)]; omega) (by rw [t5, ti_nI (by omega)]; omega), t5, ti_nI (by omega)]; omega
    refine pi_g (by decide) (Int.le_refl _) ?_ (pi_g (by decide) (by omega) ?_ pV)
    · rw [ti_add (by omega) (by omega)]; omega
    · rw [ti_sub (by rw [ti_nI (by omega)]; omega) (by rw [ti_nI (by omega)]; omega), ti_nI (by omega)]; omega
  · have j8 : j < 8 := by
      unfold fX6_isChoice fX6_isChoice_c0 at hc
      rw [if_neg (by decide : ¬ nI 9 = 8), if_pos (by decide : nI 9 = 9)] at hc
      obtain ⟨i, _, i2, ei⟩ := (w_in (x := nI j) (a := 0) (b := 7) (by decide) (by decide)).mp hc
      have := (nI_eq (by omega) (by omega)).mp ei
      omega
    unfold G_can at ha
    rw [if_neg (by decide : ¬ nI 9 = 6), if_neg (by decide : ¬ nI 9 = 7), if_neg (by decide : ¬ nI 9 = 8), if_pos (by decide : nI 9 = 9), er] at ha
    have cp : P_canPay v (nI j) = true := by
      rw [canPay_ext (vk 0 (by decide)) (vk 1 (by decide)) (vk 10 (by decide))]
      cases y : P_canPay r (nI j)
      · rw [y, if_pos (by decide : bI false = 0)] at ha
        split at ha <;> cases ha
      · rfl
    have h10 := p.2.2.2.2.2.2
    have HA := has_add (r := v) (r' := upd (P_pay v (nI j)) 10 (v 10 + (1 <<< (nI j &&& 31)))) (c := j) (b := j) j8 j8 (by rw [vk 10 (by decide)]; exact h10.1) (by rw [vk 10 (by decide)]; exact h10.2) ((P_has_ext (vk 10 (by decide)) _).trans (h9 rfl)) upd_s
    rw [upd_s] at HA
    exact pi_10 HA.2 (pi_mono (by omega) (pi_pay hB (by rw [ti_nI (by omega)]; omega) (by rw [ti_nI (by omega)]; omega) cp pV))
  · exact add 2 (by decide) 1 (by decide)
  · have e := j5c hj
    unfold G_can at ha
    rw [if_neg (by decide : ¬ nI 11 = 6), if_neg (by decide : ¬ nI 11 = 7), if_neg (by decide : ¬ nI 11 = 8), if_neg (by decide : ¬ nI 11 = 9), if_neg (by decide : ¬ nI 11 = 10), if_pos (by decide : nI 11 = 11), er, e.1] at ha
    by_cases w : r (j / 5) < 2
    · rw [if_pos w] at ha; cases ha
    have w' : ¬ (r (j / 5)).toInt < 2 := fun z => w (ti_lt.mpr (by rw [t2]; exact z))
    have gi := pV.1 (j / 5) (by omega)
    have ei : (v (j / 5)).toInt = (r (j / 5)).toInt := by rw [vk _ (by omega)]
    rw [P_act0_11, e.1, e.2]
    have P1 : PI B (upd v (j / 5) (v (j / 5) - 2)) := by
      refine pi_g (by omega) (Int.le_refl _) ?_ pV
      rw [ti_sub (by rw [t2]; omega) (by rw [t2]; omega), t2]
      omega
    have gk := P1.1 (j % 5) (by omega)
    refine pi_g (by omega) (by omega) ?_ P1
    rw [ti_add (by rw [t1]; omega) (by rw [t1]; omega), t1]
    omega
