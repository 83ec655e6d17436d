/-! the buildings as bits -/
theorem bits_tab : ∀ k : Fin 256, ∀ c : Fin 8, (((nI k.val >>> (nI c.val &&& 31)) &&& 1) = nI (k.val / 2 ^ c.val % 2)) ∧ ((1 : Int32) <<< (nI c.val &&& 31)) = nI (2 ^ c.val) := by decide +kernel
theorem or_tab : ∀ k : Fin 256, ∀ c : Fin 8, k.val / 2 ^ c.val % 2 = 0 → (nI k.val ||| nI (2 ^ c.val)) = nI (k.val + 2 ^ c.val) := by decide +kernel
theorem own_of {x : Int32} (h1 : 0 ≤ x.toInt) (h2 : x.toInt ≤ 255) : ∃ k : Nat, k < 256 ∧ x = nI k := ⟨x.toInt.toNat, by omega, ti_of h1⟩
theorem has_v {r : Nat → Int32} {k b : Nat} (hk : k < 256) (hb : b < 8) (e : r 10 = nI k) : P_has r (nI b) = if k / 2 ^ b % 2 = 1 then true else false := by
  have t := (bits_tab ⟨k, hk⟩ ⟨b, hb⟩).1
  unfold P_has
  rw [e, t]
  have : k / 2 ^ b % 2 = 0 ∨ k / 2 ^ b % 2 = 1 := by omega
  rcases this with q | q <;> rw [q] <;> decide
theorem shl_v {c : Nat} (hc : c < 8) : (1 : Int32) <<< (nI c &&& 31) = nI (2 ^ c) := (bits_tab ⟨0, by decide⟩ ⟨c, hc⟩).2
theorem or_v {x : Int32} {r : Nat → Int32} {c : Nat} (hc : c < 8) (er : r 10 = x) (h1 : 0 ≤ x.toInt) (h2 : x.toInt ≤ 255) (hn : P_has r (nI c) = false) : x ||| ((1 : Int32) <<< (nI c &&& 31)) = x + ((1 : Int32) <<< (nI c &&& 31)) := by
  obtain ⟨k, hk, rfl⟩ := own_of h1 h2
  have q := has_v hk hc er
  rw [hn] at q
  have z : k / 2 ^ c % 2 = 0 := by
    by_cases w : k / 2 ^ c % 2 = 1
    · rw [if_pos w] at q; cases q
    · omega
  rw [shl_v hc, or_tab ⟨k, hk⟩ ⟨c, hc⟩ z, nI_add]
/-- a building added: what is owned then -/
theorem has_add {r r' : Nat → Int32} {c b : Nat} (hc : c < 8) (hb : b < 8) (h1 : 0 ≤ (r 10).toInt) (h2 : (r 10).toInt ≤ 255) (hn : P_has r (nI c) = false) (e' : r' 10 = r 10 + ((1 : Int32) <<< (nI c &&& 31))) : P_has r' (nI b) = (if b = c then true else P_has r (nI b)) ∧ 0 ≤ (r' 10).toInt ∧ (r' 10).toInt ≤ 255 := by
  obtain ⟨k, hk, e⟩ := own_of h1 h2
  have q := has_v hk hc e
  rw [hn] at q
  have z : k / 2 ^ c % 2 = 0 := by
    by_cases w : k / 2 ^ c % 2 = 1
    · rw [if_pos w] at q; cases q
    · omega
  have e1 : r' 10 = nI (k + 2 ^ c) := by rw [e', e, shl_v hc, nI_add]
  have c8 : c = 0 ∨ c = 1 ∨ c = 2 ∨ c = 3 ∨ c = 4 ∨ c = 5 ∨ c = 6 ∨ c = 7 := by omega
  have b8 : b = 0 ∨ b = 1 ∨ b = 2 ∨ b = 3 ∨ b = 4 ∨ b = 5 ∨ b = 6 ∨ b = 7 := by omega
  have k2 : k + 2 ^ c < 256 := by
    rcases c8 with rfl | rfl | rfl | rfl | rfl | rfl | rfl | rfl <;> simp only [Nat.reducePow] at z ⊢ <;> omega
  rw [has_v k2 hb e1, has_v hk hb e]
  refine ⟨?_, ?_, ?_⟩
  · by_cases w : b = c
    · subst w
      rw [if_pos rfl, if_pos ?_]
      rcases c8 with rfl | rfl | rfl | rfl | rfl | rfl | rfl | rfl <;> simp only [Nat.reducePow] at z ⊢ <;> omega
    · rw [if_neg w]
      have : (k + 2 ^ c) / 2 ^ b % 2 = k / 2 ^ b % 2 := by
        rcases c8 with rfl | rfl | rfl | rfl | rfl | rfl | rfl | rfl <;> rcases b8 with rfl | rfl | rfl | rfl | rfl | rfl | rfl | rfl <;> simp only [Nat.reducePow] at z ⊢ <;> omega
      rw [this]
  · rw [e1, ti_nI (by omega)]
    exact Int.natCast_nonneg _
  · rw [e1, ti_nI (by omega)]
    omega
-- a placement on the component's player
theorem o2_carry (a r : Nat) (s c : Int32) (h : HH) : Out r (r + 2) h (fX0_carryOut a r s c h) := by
  have o0 : Out r (r + 2) h (hset h r 3 (h r 3 - 1)) := out_set (by omega) (by omega) out_refl
  show Out r (r + 2) h (fX0_carryOut_c0 a r s c h)
  unfold fX0_carryOut_c0
  refine out_ite (out_ite (out_set (by omega) (by omega) o0) (out_set (by omega) (by omega) o0)) ?_
  refine out_ite (out_set (by omega) (by omega) o0) ?_
  refine out_ite (out_set (by omega) (by omega) o0) ?_
  refine out_ite (out_set (by omega) (by omega) o0) ?_
  refine out_ite (out_set (by omega) (by omega) o0) ?_
  refine out_ite (out_set (by omega) (by omega) o0) ?_
  refine out_ite (out_set (by omega) (by omega) (out_tr o0 (o2_payFor r _ _))) ?_
  refine out_ite (out_tr o0 (o2_grow r _)) ?_
  refine out_ite (out_set (by omega) (by omega) (out_set (by omega) (by omega) o0)) ?_
  refine out_ite (out_set (by omega) (by omega) (out_tr o0 (o2_payFor r _ _))) ?_
  refine out_ite (out_set (by omega) (by omega) o0) ?_
  exact out_ite (out_set (by omega) (by omega) (out_set (by omega) (by omega) o0)) o0
theorem c_carry0 {a r j : Nat} {h : HH} (hr : a + 2 < r) : pv r (fX0_carryOut a r (nI 0) (nI j) h) = P_act 0 (nI j) (h (a + 2) 0) (pv r h) ∧ sX0_carryOut a r (nI 0) (nI j) h := by
  obtain ⟨h1, e1⟩ : ∃ h1, hset h r 3 (h r 3 - 1) = h1 := ⟨_, rfl⟩
  obtain ⟨w, ew⟩ : ∃ w, pv r h = w := ⟨_, rfl⟩
  obtain ⟨v, ev⟩ : ∃ v, upd w 7 (w 7 + -1) = v := ⟨_, rfl⟩
  have p1 : pv r h1 = v := by rw [← e1, pv_setF (by decide), show h r 3 = pv r h 7 from pv_F r h 2, ew, Int32.sub_eq_add_neg, ← ev]
  have l1 : h1 (a + 2) = h (a + 2) := by rw [← e1, hset_o _ _ _ _ (by omega)]
  have k0 : (0 : Int32).toNatClampNeg = 0 := by decide
  have ks : (nI 0).toNatClampNeg = 0 := by decide
  unfold fX0_carryOut fX0_carryOut_c0 sX0_carryOut sX0_carryOut_c0 P_act
  rw [e1, ew, ev]
  constructor
  · rw [if_pos (by decide : nI 0 = 0)]
    unfold fX0_carryOut_c84 fX0_carryOut_c110
    rw [c_has, p1, k0, ks, l1, pv_G r h1 (by decide : 0 < 5), p1, P_act0_0]
    by_cases c : bI (P_has v 1) = 0
    · rw [if_pos c, if_pos c, pv_setG (by decide), p1, show v 0 + h (a + 2) 0 + 0 = v 0 + h (a + 2) 0 from Int32.add_zero _]
    · rw [if_neg c, if_neg c, pv_setG (by decide), p1, ← Int32.add_assoc]
  · exact ⟨fun _ => ⟨vpd (by decide), fun _ => ⟨vpd (by decide), vpd (by decide)⟩, fun _ => ⟨vpd (by decide), vpd (by decide)⟩⟩, fun q => absurd rfl q⟩
theorem c_carry1 {a r j : Nat} {h : HH} (hr : a + 2 < r) : pv r (fX0_carryOut a r (nI 1) (nI j) h) = P_act 1 (nI j) (h (a + 2) 1) (pv r h) ∧ sX0_carryOut a r (nI 1) (nI j) h := by
  obtain ⟨h1, e1⟩ : ∃ h1, hset h r 3 (h r 3 - 1) = h1 := ⟨_, rfl⟩
  obtain ⟨w, ew⟩ : ∃ w, pv r h = w := ⟨_, rfl⟩
  obtain ⟨v, ev⟩ : ∃ v, upd w 7 (w 7 + -1) = v := ⟨_, rfl⟩
  have p1 : pv r h1 = v := by rw [← e1, pv_setF (by decide), show h r 3 = pv r h 7 from pv_F r h 2, ew, Int32.sub_eq_add_neg, ← ev]
  have l1 : h1 (a + 2) = h (a + 2) := by rw [← e1, hset_o _ _ _ _ (by omega)]
  have k1 : (1 : Int32).toNatClampNeg = 1 := by decide
  have ks : (nI 1).toNatClampNeg = 1 := by decide
  unfold fX0_carryOut fX0_carryOut_c0 sX0_carryOut sX0_carryOut_c0 P_act
  rw [e1, ew, ev]
  constructor
  · rw [if_neg (by decide : ¬ nI 1 = 0), if_pos (by decide : nI 1 = 1)]
    unfold fX0_carryOut_c119
    rw [k1, ks, l1, pv_setG (by decide), pv_G r h1 (by decide : 1 < 5), p1]
    rfl
  · exact ⟨fun q => absurd q (by decide), fun _ => ⟨fun _ => ⟨vpd (by decide), vpd (by decide), vpd (by decide)⟩, fun q => absurd rfl q⟩⟩
theorem c_carry2 {a r j : Nat} {h : HH} (hr : a + 2 < r) : pv r (fX0_carryOut a r (nI 2) (nI j) h) = P_act 2 (nI j) (h (a + 2) 2) (pv r h) ∧ sX0_carryOut a r (nI 2) (nI j) h := by
  obtain ⟨h1, e1⟩ : ∃ h1, hset h r 3 (h r 3 - 1) = h1 := ⟨_, rfl⟩
  obtain ⟨w, ew⟩ : ∃ w, pv r h = w := ⟨_, rfl⟩
  obtain ⟨v, ev⟩ : ∃ v, upd w 7 (w 7 + -1) = v := ⟨_, rfl⟩
  have p1 : pv r h1 = v := by rw [← e1, pv_setF (by decide), show h r 3 = pv r h 7 from pv_F r h 2, ew, Int32.sub_eq_add_neg, ← ev]
  have l1 : h1 (a + 2) = h (a + 2) := by rw [← e1, hset_o _ _ _ _ (by omega)]
  unfold fX0_carryOut fX0_carryOut_c0 sX0_carryOut sX0_carryOut_c0 P_act
  rw [e1, ew, ev]
  constructor
  · rw [if_neg (by decide : ¬ nI 2 = 0), if_neg (by decide : ¬ nI 2 = 1), if_pos (by decide : nI 2 = 2)]
    unfold fX0_carryOut_c163
    rw [pv_setG (by decide), pv_G r h1 (by decide : 2 < 5), p1]
    rfl
  · exact ⟨fun q => absurd q (by decide), fun _ => ⟨fun q => absurd q (by decide), fun _ => ⟨fun _ => trivial, fun q => absurd rfl q⟩⟩⟩
theorem c_carry3 {a r j : Nat} {h : HH} (hr : a + 2 < r) : pv r (fX0_carryOut a r (nI 3) (nI j) h) = P_act 3 (nI j) (h (a + 2) 3) (pv r h) ∧ sX0_carryOut a r (nI 3) (nI j) h := by
  obtain ⟨h1, e1⟩ : ∃ h1, hset h r 3 (h r 3 - 1) = h1 := ⟨_, rfl⟩
  obtain ⟨w, ew⟩ : ∃ w, pv r h = w := ⟨_, rfl⟩
  obtain ⟨v, ev⟩ : ∃ v, upd w 7 (w 7 + -1) = v := ⟨_, rfl⟩
  have p1 : pv r h1 = v := by rw [← e1, pv_setF (by decide), show h r 3 = pv r h 7 from pv_F r h 2, ew, Int32.sub_eq_add_neg, ← ev]
  have l1 : h1 (a + 2) = h (a + 2) := by rw [← e1, hset_o _ _ _ _ (by omega)]
  have k4 : (4 : Int32).toNatClampNeg = 4 := by decide
  have ks : (nI 3).toNatClampNeg = 3 := by decide
  unfold fX0_carryOut fX0_carryOut_c0 sX0_carryOut sX0_carryOut_c0 P_act
  rw [e1, ew, ev]
  constructor
  · rw [if_neg (by decide : ¬ nI 3 = 0), if_neg (by decide : ¬ nI 3 = 1), if_neg (by decide : ¬ nI 3 = 2), if_pos (by decide : nI 3 = 3)]
    unfold fX0_carryOut_c135
    rw [k4, ks, l1, pv_setG (by decide), pv_G r h1 (by decide : 4 < 5), p1]
    rfl
  · exact ⟨fun q => absurd q (by decide), fun _ => ⟨fun q => absurd q (by decide), fun _ => ⟨fun q => absurd q (by decide), fun _ => ⟨fun _ => ⟨vpd (by decide), vpd (by decide), vpd (by decide)⟩, fun q => absurd rfl q⟩⟩⟩⟩
theorem c_carry4 {a r j : Nat} {h : HH} (hr : a + 2 < r) : pv r (fX0_carryOut a r (nI 4) (nI j) h) = P_act 4 (nI j) (h (a + 2) 4) (pv r h) ∧ sX0_carryOut a r (nI 4) (nI j) h := by
  obtain ⟨h1, e1⟩ : ∃ h1, hset h r 3 (h r 3 - 1) = h1 := ⟨_, rfl⟩
  obtain ⟨w, ew⟩ : ∃ w, pv r h = w := ⟨_, rfl⟩
  obtain ⟨v, ev⟩ : ∃ v, upd w 7 (w 7 + -1) = v := ⟨_, rfl⟩
  have p1 : pv r h1 = v := by rw [← e1, pv_setF (by decide), show h r 3 = pv r h 7 from pv_F r h 2, ew, Int32.sub_eq_add_neg, ← ev]
  have l1 : h1 (a + 2) = h (a + 2) := by rw [← e1, hset_o _ _ _ _ (by omega)]
  have k4 : (4 : Int32).toNatClampNeg = 4 := by decide
  unfold fX0_carryOut fX0_carryOut_c0 sX0_carryOut sX0_carryOut_c0 P_act
  rw [e1, ew, ev]
  constructor
  · rw [if_neg (by decide : ¬ nI 4 = 0), if_neg (by decide : ¬ nI 4 = 1), if_neg (by decide : ¬ nI 4 = 2), if_neg (by decide : ¬ nI 4 = 3), if_pos (by decide : nI 4 = 4)]
    unfold fX0_carryOut_c178
    rw [k4, pv_setG (by decide), pv_G r h1 (by decide : 4 < 5), p1]
    rfl
  · exact ⟨fun q => absurd q (by decide), fun _ => ⟨fun q => absurd q (by decide), fun _ => ⟨fun q => absurd q (by decide), fun _ => ⟨fun q => absurd q (by decide), fun _ => ⟨fun _ => ⟨vpd (by decide), vpd (by decide)⟩, fun q => absurd rfl q⟩⟩⟩⟩⟩
theorem c_carry5 {a r j : Nat} {h : HH} (hr : a + 2 < r) : pv r (fX0_carryOut a r (nI 5) (nI j) h) = P_act 5 (nI j) (h (a + 2) 5) (pv r h) ∧ sX0_carryOut a r (nI 5) (nI j) h := by
  obtain ⟨h1, e1⟩ : ∃ h1, hset h r 3 (h r 3 - 1) = h1 := ⟨_, rfl⟩
  obtain ⟨w, ew⟩ : ∃ w, pv r h = w := ⟨_, rfl⟩
  obtain ⟨v, ev⟩ : ∃ v, upd w 7 (w 7 + -1) = v := ⟨_, rfl⟩
  have p1 : pv r h1 = v := by rw [← e1, pv_setF (by decide), show h r 3 = pv r h 7 from pv_F r h 2, ew, Int32.sub_eq_add_neg, ← ev]
  have l1 : h1 (a + 2) = h (a + 2) := by rw [← e1, hset_o _ _ _ _ (by omega)]
  have k3 : (3 : Int32).toNatClampNeg = 3 := by decide
  have ks : (nI 5).toNatClampNeg = 5 := by decide
  unfold fX0_carryOut fX0_carryOut_c0 sX0_carryOut sX0_carryOut_c0 P_act
  rw [e1, ew, ev]
  constructor
  · rw [if_neg (by decide : ¬ nI 5 = 0), if_neg (by decide : ¬ nI 5 = 1), if_neg (by decide : ¬ nI 5 = 2), if_neg (by decide : ¬ nI 5 = 3), if_neg (by decide : ¬ nI 5 = 4), if_pos (by decide : nI 5 = 5)]
    unfold fX0_carryOut_c151
    rw [k3, ks, l1, pv_setG (by decide), pv_G r h1 (by decide : 3 < 5), p1]
    rfl
  · exact ⟨fun q => absurd q (by decide), fun _ => ⟨fun q => absurd q (by decide), fun _ => ⟨fun q => absurd q (by decide), fun _ => ⟨fun q => absurd q (by decide), fun _ => ⟨fun q => absurd q (by decide), fun _ => ⟨fun _ => ⟨vpd (by decide), vpd (by decide), vpd (by decide)⟩, fun q => absurd rfl q⟩⟩⟩⟩⟩⟩
theorem c_carry6 {a r j : Nat} {h : HH} (hr : a + 2 < r) : pv r (fX0_carryOut a r (nI 6) (nI j) h) = P_act 6 (nI j) (h (a + 2) 6) (pv r h) ∧ sX0_carryOut a r (nI 6) (nI j) h := by
  obtain ⟨h1, e1⟩ : ∃ h1, hset h r 3 (h r 3 - 1) = h1 := ⟨_, rfl⟩
  obtain ⟨w, ew⟩ : ∃ w, pv r h = w := ⟨_, rfl⟩
  obtain ⟨v, ev⟩ : ∃ v, upd w 7 (w 7 + -1) = v := ⟨_, rfl⟩
  have p1 : pv r h1 = v := by rw [← e1, pv_setF (by decide), show h r 3 = pv r h 7 from pv_F r h 2, ew, Int32.sub_eq_add_neg, ← ev]
  have l1 : h1 (a + 2) = h (a + 2) := by rw [← e1, hset_o _ _ _ _ (by omega)]
  have P := c_payFor r (-1) h1 (by decide) (by decide)
  unfold fX0_carryOut fX0_carryOut_c0 sX0_carryOut sX0_carryOut_c0 P_act
  rw [e1, ew, ev]
  constructor
  · rw [if_neg (by decide : ¬ nI 6 = 0), if_neg (by decide : ¬ nI 6 = 1), if_neg (by decide : ¬ nI 6 = 2), if_neg (by decide : ¬ nI 6 = 3), if_neg (by decide : ¬ nI 6 = 4), if_neg (by decide : ¬ nI 6 = 5), if_pos (by decide : nI 6 = 6)]
    unfold fX0_carryOut_c187 fX0_carryOut_c192
    rw [pv_setF (by decide), show fX2_payFor r (-1) h1 r 4 = pv r (fX2_payFor r (-1) h1) 8 from pv_F r _ 3, P.1, p1]
    rfl
  · exact ⟨fun q => absurd q (by decide), fun _ => ⟨fun q => absurd q (by decide), fun _ => ⟨fun q => absurd q (by decide), fun _ => ⟨fun q => absurd q (by decide), fun _ => ⟨fun q => absurd q (by decide), fun _ => ⟨fun q => absurd q (by decide), fun _ => ⟨fun _ => P.2, fun q => absurd rfl q⟩⟩⟩⟩⟩⟩⟩
theorem c_carry7 {a r j : Nat} {h : HH} (hr : a + 2 < r) : pv r (fX0_carryOut a r (nI 7) (nI j) h) = P_act 7 (nI j) (h (a + 2) 7) (pv r h) ∧ sX0_carryOut a r (nI 7) (nI j) h := by
  obtain ⟨h1, e1⟩ : ∃ h1, hset h r 3 (h r 3 - 1) = h1 := ⟨_, rfl⟩
  obtain ⟨w, ew⟩ : ∃ w, pv r h = w := ⟨_, rfl⟩
  obtain ⟨v, ev⟩ : ∃ v, upd w 7 (w 7 + -1) = v := ⟨_, rfl⟩
  have p1 : pv r h1 = v := by rw [← e1, pv_setF (by decide), show h r 3 = pv r h 7 from pv_F r h 2, ew, Int32.sub_eq_add_neg, ← ev]
  have l1 : h1 (a + 2) = h (a + 2) := by rw [← e1, hset_o _ _ _ _ (by omega)]
  unfold fX0_carryOut fX0_carryOut_c0 sX0_carryOut sX0_carryOut_c0 P_act
  rw [e1, ew, ev]
  constructor
  · rw [if_neg (by decide : ¬ nI 7 = 0), if_neg (by decide : ¬ nI 7 = 1), if_neg (by decide : ¬ nI 7 = 2), if_neg (by decide : ¬ nI 7 = 3), if_neg (by decide : ¬ nI 7 = 4), if_neg (by decide : ¬ nI 7 = 5), if_neg (by decide : ¬ nI 7 = 6), if_pos (by decide : nI 7 = 7)]
    unfold fX0_carryOut_c204
    rw [c_grow, p1]
    rfl
  · exact ⟨fun q => absurd q (by decide), fun _ => ⟨fun q => absurd q (by decide), fun _ => ⟨fun q => absurd q (by decide), fun _ => ⟨fun q => absurd q (by decide), fun _ => ⟨fun q => absurd q (by decide), fun _ => ⟨fun q => absurd q (by decide), fun _ => ⟨fun q => absurd q (by decide), fun _ => ⟨fun _ => trivial, fun q => absurd rfl q⟩⟩⟩⟩⟩⟩⟩⟩
theorem c_carry8 {a r j : Nat} {h : HH} (hr : a + 2 < r) : pv r (fX0_carryOut a r (nI 8) (nI j) h) = P_act 8 (nI j) (h (a + 2) 8) (pv r h) ∧ sX0_carryOut a r (nI 8) (nI j) h := by
  obtain ⟨h1, e1⟩ : ∃ h1, hset h r 3 (h r 3 - 1) = h1 := ⟨_, rfl⟩
  obtain ⟨w, ew⟩ : ∃ w, pv r h = w := ⟨_, rfl⟩
  obtain ⟨v, ev⟩ : ∃ v, upd w 7 (w 7 + -1) = v := ⟨_, rfl⟩
  have p1 : pv r h1 = v := by rw [← e1, pv_setF (by decide), show h r 3 = pv r h 7 from pv_F r h 2, ew, Int32.sub_eq_add_neg, ← ev]
  have l1 : h1 (a + 2) = h (a + 2) := by rw [← e1, hset_o _ _ _ _ (by omega)]
  have k2 : (2 : Int32).toNatClampNeg = 2 := by decide
  have k4 : (4 : Int32).toNatClampNeg = 4 := by decide
  unfold fX0_carryOut fX0_carryOut_c0 sX0_carryOut sX0_carryOut_c0 P_act
  rw [e1, ew, ev]
  constructor
  · rw [if_neg (by decide : ¬ nI 8 = 0), if_neg (by decide : ¬ nI 8 = 1), if_neg (by decide : ¬ nI 8 = 2), if_neg (by decide : ¬ nI 8 = 3), if_neg (by decide : ¬ nI 8 = 4), if_neg (by decide : ¬ nI 8 = 5), if_neg (by decide : ¬ nI 8 = 6), if_neg (by decide : ¬ nI 8 = 7), if_pos (by decide : nI 8 = 8)]
    unfold fX0_carryOut_c214 fX0_carryOut_c222
    obtain ⟨h2, e2⟩ : ∃ h2, hset h1 (r + 1) 2 (v 2 - nI j) = h2 := ⟨_, rfl⟩
    have p2 : pv r h2 = upd v 2 (v 2 - nI j) := by rw [← e2, pv_setG (by decide), p1]
    have m1 : fX2_foodOfMilledGrain r h2 = if bI (P_has v 0) = 0 then 3 else 5 := by
      show (if bI (fX2_has r 0 h2) = 0 then (3 : Int32) else 5) = _
      rw [c_has, p2, P_has_ext (upd_o (by decide))]
    rw [k2, k4, pv_G r h1 (by decide : 2 < 5), p1, e2, pv_setG (by decide), pv_G r h2 (by decide : 4 < 5), p2, upd_o (by decide : (4 : Nat) ≠ 2), P_act0_8]
    rw [m1, Int32.mul_comm]
  · exact ⟨fun q => absurd q (by decide), fun _ => ⟨fun q => absurd q (by decide), fun _ => ⟨fun q => absurd q (by decide), fun _ => ⟨fun q => absurd q (by decide), fun _ => ⟨fun q => absurd q (by decide), fun _ => ⟨fun q => absurd q (by decide), fun _ => ⟨fun q => absurd q (by decide), fun _ => ⟨fun q => absurd q (by decide), fun _ => ⟨fun _ => ⟨vpd (by decide), vpd (by decide), vpd (by decide), vpd (by decide)⟩, fun q => absurd rfl q⟩⟩⟩⟩⟩⟩⟩⟩⟩
theorem c_carry9 {a r j : Nat} {h : HH} (hr : a + 2 < r) (hj : j < 8) (hw : 0 ≤ (pv r h 10).toInt ∧ (pv r h 10).toInt ≤ 255) (hb : P_has (pv r h) (nI j) = false) : pv r (fX0_carryOut a r (nI 9) (nI j) h) = P_act 9 (nI j) (h (a + 2) 9) (pv r h) ∧ sX0_carryOut a r (nI 9) (nI j) h := by
  obtain ⟨h1, e1⟩ : ∃ h1, hset h r 3 (h r 3 - 1) = h1 := ⟨_, rfl⟩
  obtain ⟨w, ew⟩ : ∃ w, pv r h = w := ⟨_, rfl⟩
  obtain ⟨v, ev⟩ : ∃ v, upd w 7 (w 7 + -1) = v := ⟨_, rfl⟩
  have p1 : pv r h1 = v := by rw [← e1, pv_setF (by decide), show h r 3 = pv r h 7 from pv_F r h 2, ew, Int32.sub_eq_add_neg, ← ev]
  have l1 : h1 (a + 2) = h (a + 2) := by rw [← e1, hset_o _ _ _ _ (by omega)]
  rw [ew] at hw hb
  have P := c_payFor r (nI j) h1 (by rw [ti_nI (by omega)]; omega) (by rw [ti_nI (by omega)]; omega)
  have v10 : P_pay v (nI j) 10 = v 10 := (upd_o (by decide)).trans (upd_o (by decide))
  have w10 : v 10 = w 10 := by rw [← ev, upd_o (by decide)]
  have O := or_v (x := v 10) (r := v) hj rfl (by rw [w10]; exact hw.1) (by rw [w10]; exact hw.2) ((P_has_ext w10 _).trans hb)
  unfold fX0_carryOut fX0_carryOut_c0 sX0_carryOut sX0_carryOut_c0 P_act
  rw [e1, ew, ev]
  constructor
  · rw [if_neg (by decide : ¬ nI 9 = 0), if_neg (by decide : ¬ nI 9 = 1), if_neg (by decide : ¬ nI 9 = 2), if_neg (by decide : ¬ nI 9 = 3), if_neg (by decide : ¬ nI 9 = 4), if_neg (by decide : ¬ nI 9 = 5), if_neg (by decide : ¬ nI 9 = 6), if_neg (by decide : ¬ nI 9 = 7), if_neg (by decide : ¬ nI 9 = 8), if_pos (by decide : nI 9 = 9)]
    unfold fX0_carryOut_c236 fX0_carryOut_c241
    rw [pv_setF (by decide), show fX2_payFor r (nI j) h1 r 6 = pv r (fX2_payFor r (nI j) h1) 10 from pv_F r _ 5, P.1, p1, v10, O]
    rfl
  · exact ⟨fun q => absurd q (by decide), fun _ => ⟨fun q => absurd q (by decide), fun _ => ⟨fun q => absurd q (by decide), fun _ => ⟨fun q => absurd q (by decide), fun _ => ⟨fun q => absurd q (by decide), fun _ => ⟨fun q => absurd q (by decide), fun _ => ⟨fun q => absurd q (by decide), fun _ => ⟨fun q => absurd q (by decide), fun _ => ⟨fun q => absurd q (by decide), fun _ => ⟨fun _ => P.2, fun q => absurd rfl q⟩⟩⟩⟩⟩⟩⟩⟩⟩⟩
theorem c_carry10 {a r j : Nat} {h : HH} (hr : a + 2 < r) : pv r (fX0_carryOut a r (nI 10) (nI j) h) = P_act 10 (nI j) (h (a + 2) 10) (pv r h) ∧ sX0_carryOut a r (nI 10) (nI j) h := by
  obtain ⟨h1, e1⟩ : ∃ h1, hset h r 3 (h r 3 - 1) = h1 := ⟨_, rfl⟩
  obtain ⟨w, ew⟩ : ∃ w, pv r h = w := ⟨_, rfl⟩
  obtain ⟨v, ev⟩ : ∃ v, upd w 7 (w 7 + -1) = v := ⟨_, rfl⟩
  have p1 : pv r h1 = v := by rw [← e1, pv_setF (by decide), show h r 3 = pv r h 7 from pv_F r h 2, ew, Int32.sub_eq_add_neg, ← ev]
  have l1 : h1 (a + 2) = h (a + 2) := by rw [← e1, hset_o _ _ _ _ (by omega)]
  unfold fX0_carryOut fX0_carryOut_c0 sX0_carryOut sX0_carryOut_c0 P_act
  rw [e1, ew, ev]
  constructor
  · rw [if_neg (by decide : ¬ nI 10 = 0), if_neg (by decide : ¬ nI 10 = 1), if_neg (by decide : ¬ nI 10 = 2), if_neg (by decide : ¬ nI 10 = 3), if_neg (by decide : ¬ nI 10 = 4), if_neg (by decide : ¬ nI 10 = 5), if_neg (by decide : ¬ nI 10 = 6), if_neg (by decide : ¬ nI 10 = 7), if_neg (by decide : ¬ nI 10 = 8), if_neg (by decide : ¬ nI 10 = 9), if_pos (by decide : nI 10 = 10)]
    unfold fX0_carryOut_c163
    rw [pv_setG (by decide), pv_G r h1 (by decide : 2 < 5), p1]
    rfl
  · exact ⟨fun q => absurd q (by decide), fun _ => ⟨fun q => absurd q (by decide), fun _ => ⟨fun q => absurd q (by decide), fun _ => ⟨fun q => absurd q (by decide), fun _ => ⟨fun q => absurd q (by decide), fun _ => ⟨fun q => absurd q (by decide), fun _ => ⟨fun q => absurd q (by decide), fun _ => ⟨fun q => absurd q (by decide), fun _ => ⟨fun q => absurd q (by decide), fun _ => ⟨fun q => absurd q (by decide), fun _ => ⟨fun _ => trivial, fun q => absurd rfl q⟩⟩⟩⟩⟩⟩⟩⟩⟩⟩⟩
theorem c_carry11 {a r j : Nat} {h : HH} (hr : a + 2 < r) (hj : j < 25) : pv r (fX0_carryOut a r (nI 11) (nI j) h) = P_act 11 (nI j) (h (a + 2) 11) (pv r h) ∧ sX0_carryOut a r (nI 11) (nI j) h := by
  obtain ⟨h1, e1⟩ : ∃ h1, hset h r 3 (h r 3 - 1) = h1 := ⟨_, rfl⟩
  obtain ⟨w, ew⟩ : ∃ w, pv r h = w := ⟨_, rfl⟩
  obtain ⟨v, ev⟩ : ∃ v, upd w 7 (w 7 + -1) = v := ⟨_, rfl⟩
  have p1 : pv r h1 = v := by rw [← e1, pv_setF (by decide), show h r 3 = pv r h 7 from pv_F r h 2, ew, Int32.sub_eq_add_neg, ← ev]
  have l1 : h1 (a + 2) = h (a + 2) := by rw [← e1, hset_o _ _ _ _ (by omega)]
  have e := j5c hj
  have e' := j5 hj
  unfold fX0_carryOut fX0_carryOut_c0 sX0_carryOut sX0_carryOut_c0 P_act
  rw [e1, ew, ev]
  constructor
  · rw [if_neg (by decide : ¬ nI 11 = 0), if_neg (by decide : ¬ nI 11 = 1), if_neg (by decide : ¬ nI 11 = 2), if_neg (by decide : ¬ nI 11 = 3), if_neg (by decide : ¬ nI 11 = 4), if_neg (by decide : ¬ nI 11 = 5), if_neg (by decide : ¬ nI 11 = 6), if_neg (by decide : ¬ nI 11 = 7), if_neg (by decide : ¬ nI 11 = 8), if_neg (by decide : ¬ nI 11 = 9), if_neg (by decide : ¬ nI 11 = 10), if_pos (by decide : nI 11 = 11)]
    unfold fX0_carryOut_c260 fX0_carryOut_c270
    obtain ⟨h2, e2⟩ : ∃ h2, hset h1 (r + 1) (j / 5) (v (j / 5) - 2) = h2 := ⟨_, rfl⟩
    have p2 : pv r h2 = upd v (j / 5) (v (j / 5) - 2) := by rw [← e2, pv_setG (by omega), p1]
    rw [e.1, e.2, pv_G r h1 (by omega : j / 5 < 5), p1, e2, pv_setG (by omega), pv_G r h2 (by omega : j % 5 < 5), p2, P_act0_11, e.1, e.2]
  · exact ⟨fun q => absurd q (by decide), fun _ => ⟨fun q => absurd q (by decide), fun _ => ⟨fun q => absurd q (by decide), fun _ => ⟨fun q => absurd q (by decide), fun _ => ⟨fun q => absurd q (by decide), fun _ => ⟨fun q => absurd q (by decide), fun _ => ⟨fun q => absurd q (by decide), fun _ => ⟨fun q => absurd q (by decide), fun _ => ⟨fun q => absurd q (by decide), fun _ => ⟨fun q => absurd q (by decide), fun _ => ⟨fun q => absurd q (by decide), fun _ => ⟨fun _ => ⟨by rw [e'.1]; exact v_of (by omega) (by decide), by rw [e'.1]; exact v_of (by omega) (by decide), by rw [e'.2]; exact v_of (by omega) (by decide), by rw [e'.2]; exact v_of (by omega) (by decide)⟩, fun q => absurd rfl q⟩⟩⟩⟩⟩⟩⟩⟩⟩⟩⟩⟩
theorem c_carry {a r s j : Nat} {h : HH} (hr : a + 2 < r) (hs : s < 12) (hj : j < 25) (h9 : s = 9 → j < 8 ∧ (0 ≤ (pv r h 10).toInt ∧ (pv r h 10).toInt ≤ 255) ∧ P_has (pv r h) (nI j) = false) : pv r (fX0_carryOut a r (nI s) (nI j) h) = P_act s (nI j) (h (a + 2) s) (pv r h) ∧ sX0_carryOut a r (nI s) (nI j) h := by
  have q : s = 0 ∨ s = 1 ∨ s = 2 ∨ s = 3 ∨ s = 4 ∨ s = 5 ∨ s = 6 ∨ s = 7 ∨ s = 8 ∨ s = 9 ∨ s = 10 ∨ s = 11 := by omega
  rcases q with rfl | rfl | rfl | rfl | rfl | rfl | rfl | rfl | rfl | rfl | rfl | rfl
  · exact c_carry0 hr
  · exact c_carry1 hr
  · exact c_carry2 hr
  · exact c_carry3 hr
  · exact c_carry4 hr
  · exact c_carry5 hr
  · exact c_carry6 hr
  · exact c_carry7 hr
  · exact c_carry8 hr
  · exact c_carry9 hr (h9 rfl).1 (h9 rfl).2.1 (h9 rfl).2.2
  · exact c_carry10 hr
  · exact c_carry11 hr hj
