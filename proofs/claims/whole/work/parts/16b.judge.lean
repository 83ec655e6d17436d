/-! the component's search: the judge, the steps of the trial -/
theorem nI_div {a b : Nat} (ha : a < 2147483648) (hb : 0 < b) (hb' : b < 2147483648) : nI a / nI b = nI (a / b) := by
  have q : a / b ≤ a := Nat.div_le_self a b
  refine ti_eq ?_
  rw [ti_div (by rw [ti_nI ha]; omega) (by rw [ti_nI hb']; omega), ti_nI ha, ti_nI hb', ti_nI (by omega)]
  rfl
theorem told_div {k : Nat} (hk : k < 300) : nI (told k) / 100 = nI (k / 25) := by
  have e : told k / 100 = k / 25 := by unfold told; omega
  have l : told k < 2147483648 := by unfold told; omega
  have := nI_div (a := told k) (b := 100) l (by decide) (by decide)
  rw [e] at this
  exact this
theorem told_rem {k : Nat} (hk : k < 300) : jrem (nI (told k)) 100 = nI (k % 25) := by
  have e : told k % 100 = k % 25 := by unfold told; omega
  have l : told k < 2147483648 := by unfold told; omega
  have := jrem_n (a := told k) (b := 100) l (by decide) (by decide)
  rw [e] at this
  exact this
def opt (r : Nat → Int32) : List Nat → Nat → Prop
  | [], _ => True
  | k :: M, i => r i = nI (told k) ∧ opt r M (i + 1)
theorem wr_opt {r : Nat} : ∀ (L : List Nat) (i : Nat) (h : HH), opt (wr r L i h r) L i
  | [], _, _ => trivial
  | k :: L, i, h => by
    refine ⟨?_, wr_opt L (i + 1) (hset h r i (nI (told k)))⟩
    show wr r L (i + 1) (hset h r i (nI (told k))) r i = _
    rw [wr_lo L (i + 1) _ (by omega), hset_s, upd_s]
def BC (a : Nat) (h : HH) (b : Bs) : Prop := match b with
  | none => h a 7 = 0
  | some (r, l, f) => h a 7 = nI l ∧ 1 ≤ l ∧ l ≤ 3 ∧ h a 8 = r ∧ ∀ i, i < l → h (a + 24) i = nI (told (f i))
theorem BC_fr {a : Nat} {h h' : HH} {b : Bs} (e7 : h' a 7 = h a 7) (e8 : h' a 8 = h a 8) (e24 : h' (a + 24) = h (a + 24)) (bc : BC a h b) : BC a h' b := by
  match b, bc with
  | none, bc => exact e7.trans bc
  | some (r, l, f), bc =>
    obtain ⟨b1, b2, b3, b4, b5⟩ := bc
    exact ⟨e7.trans b1, b2, b3, e8.trans b4, fun i hi => by rw [e24]; exact b5 i hi⟩
theorem c_63 {a l : Nat} {x : Int32} {pre : Nat → Nat} {h : HH} (hl0 : 1 ≤ l) (hl : l ≤ 3) (st : ∀ i, i < l → h (a + 23) i = nI (told (pre i))) : BC a (fX3_judge_c63 a (nI l) x h) (some (x, l, pre)) ∧ sX3_judge_c63 a (nI l) x h ∧ (∀ q, q ≠ a → q ≠ a + 24 → fX3_judge_c63 a (nI l) x h q = h q) ∧ ∀ k, k ≠ 7 → k ≠ 8 → fX3_judge_c63 a (nI l) x h a k = h a k := by
  unfold fX3_judge_c63 sX3_judge_c63
  rw [nclamp (by omega)]
  refine ⟨⟨?_, hl0, hl, ?_, fun i hi => ?_⟩, ⟨nI_pos (by omega), by omega, by omega⟩, fun q q1 q2 => ?_, fun k k7 k8 => ?_⟩
  · rw [hcpy_o _ _ _ _ _ _ (by omega), hset_s, upd_s]
  · rw [hcpy_o _ _ _ _ _ _ (by omega), hset_s, upd_o (by decide), hset_s, upd_s]
  · rw [hcpy_s, cpy_v hi, hset_o _ _ _ _ (by omega), hset_o _ _ _ _ (by omega)]
    exact st i hi
  · rw [hcpy_o _ _ _ _ _ _ q2, hset_o _ _ _ _ q1, hset_o _ _ _ _ q1]
  · rw [hcpy_o _ _ _ _ _ _ (by omega), hset_s, upd_o k7, hset_s, upd_o k8]
theorem c_judge {a n t l : Nat} {h : HH} {gT g : Nat → Int32} {pre : Nat → Nat} {b : Bs} {B : Int} (hB : B ≤ 100000000) (hp : PI B (mp g t)) (hl : l ≤ 3) (hn : n ≤ 4) (ht : t < n) (h3 : g 3 = nI t) (tr : TR gT g) (cg : CG n (a + 1) h gT) (bc : BC a h b) (st : ∀ i, i < l → h (a + 23) i = nI (told (pre i))) : BC a (fX3_judge a (nI l) h) (wgh t g l pre b) ∧ sX3_judge a (nI l) h ∧ (∀ q, q ≠ a → q ≠ a + 17 → q ≠ a + 18 → q ≠ a + 24 → fX3_judge a (nI l) h q = h q) ∧ ∀ k, k ≠ 7 → k ≠ 8 → fX3_judge a (nI l) h a k = h a k := by
  have h13 : h (a + 1) 3 = nI t := by rw [cg.1 3 (by decide), tr.1 3 (by decide), h3]
  have P0 : pv (a + 1 + 7 + 2 * t) h = mp g t := by rw [cg.2.1 t ht, tr.2.1 t (by omega)]
  obtain ⟨h1, e1⟩ : ∃ h1, fX2_copyFrom (a + 17) (a + 1 + 7 + 2 * t) h = h1 := ⟨_, rfl⟩
  have c1 : pv (a + 17) h1 = mp g t := by rw [← e1, c_copy (by omega), P0]
  have o1 : Out (a + 17) (a + 17 + 2) h h1 := by rw [← e1]; exact o2_copy _ _ _
  have f1 : fX0_feedsAtEnd (a + 1) h1 = feeds g := by
    show (if jrem (h1 (a + 1) 2) 2 = 0 then true else (if h1 (a + 1) 2 = h1 (a + 1) 1 then true else false)) = feeds g
    rw [o1 (a + 1) (by omega), cg.1 2 (by decide), cg.1 1 (by decide), tr.1 2 (by decide), tr.1 1 (by decide)]
    rfl
  have E := c_end hB (a + 17) (feeds g) h1 (by rw [c1]; exact hp)
  obtain ⟨h2, e2⟩ : ∃ h2, fX2_endRound (a + 17) (bI (feeds g)) h1 = h2 := ⟨_, rfl⟩
  have o2 : Out (a + 17) (a + 17 + 2) h1 h2 := by rw [← e2]; exact o2_end _ _ _
  rw [e2, c1] at E
  have W := c_all (a + 17) h2
  rw [E.1] at W
  have W1 : fX2_wholeScore (a + 17) h2 = P_fin t g := W.1
  have o := out_tr o1 o2
  have J : fX3_judge a (nI l) h = fX3_judge_c40 a (nI l) h2 := by
    unfold fX3_judge fX3_judge_c0 fX3_judge_c30
    rw [h13, nclamp (by omega), e1, f1, e2]
  have sJ : sX3_judge_c40 a (nI l) h2 → sX3_judge a (nI l) h := fun z => by
    unfold sX3_judge sX3_judge_c0 sX3_judge_c30
    rw [h13, nclamp (by omega), e1, f1, e2]
    exact ⟨v_of (by omega) (by decide), E.2, z⟩
  have ea : h2 a = h a := o a (by omega)
  have e23 : h2 (a + 23) = h (a + 23) := o _ (by omega)
  have e24 : h2 (a + 24) = h (a + 24) := o _ (by omega)
  have far (q : Nat) (q2 : q ≠ a + 17) (q3 : q ≠ a + 18) : h2 q = h q := o q (by omega)
  have bc2 : BC a h2 b := BC_fr (by rw [ea]) (by rw [ea]) e24 bc
  rw [J]
  by_cases c0 : l = 0
  · subst c0
    have z : nI 0 ≤ 0 := by decide
    have e0 : fX3_judge_c40 a (nI 0) h2 = h2 := by
      unfold fX3_judge_c40
      rw [if_pos z]
    rw [e0]
    unfold wgh
    rw [if_pos rfl]
    exact ⟨bc2, sJ ⟨W.2, fun _ => trivial, fun q => absurd z q⟩, fun q _ q2 q3 _ => far q q2 q3, fun k _ _ => by rw [ea]⟩
  · have z : ¬ nI l ≤ 0 := nI_nle (by omega) (by omega)
    have K := c_63 (a := a) (x := P_fin t g) (pre := pre) (h := h2) (by omega) hl (fun i hi => by rw [e23]; exact st i hi)
    have fr : (∀ q, q ≠ a → q ≠ a + 17 → q ≠ a + 18 → q ≠ a + 24 → fX3_judge_c63 a (nI l) (P_fin t g) h2 q = h q) ∧ ∀ k, k ≠ 7 → k ≠ 8 → fX3_judge_c63 a (nI l) (P_fin t g) h2 a k = h a k := ⟨fun q q1 q2 q3 q4 => by rw [K.2.2.1 q q1 q4, far q q2 q3], fun k k7 k8 => by rw [K.2.2.2 k k7 k8, ea]⟩
    unfold wgh
    rw [if_neg c0]
    match b, bc2 with
    | none, bc2 =>
      have z7 : h2 a 7 = 0 := bc2
      have e0 : fX3_judge_c40 a (nI l) h2 = fX3_judge_c63 a (nI l) (P_fin t g) h2 := by
        unfold fX3_judge_c40
        rw [if_neg z, if_pos z7, W1]
      rw [e0]
      refine ⟨K.1, sJ ⟨W.2, fun q => absurd q z, fun _ => ⟨fun _ => ?_, fun q => absurd z7 q⟩⟩, fr⟩
      rw [W1]
      exact K.2.1
    | some (r, l', f), bc2 =>
      obtain ⟨b1, b2, b3, b4, b5⟩ := id bc2
      have z7 : ¬ h2 a 7 = 0 := by rw [b1]; exact nI_ne0 (by omega) (by omega)
      by_cases c : P_fin t g ≤ r
      · have e0 : fX3_judge_c40 a (nI l) h2 = h2 := by
          unfold fX3_judge_c40
          rw [if_neg z, if_neg z7, W1, b4, if_pos c]
        rw [e0]
        show BC a h2 (if P_fin t g ≤ r then some (r, l', f) else some (P_fin t g, l, pre)) ∧ _
        rw [if_pos c]
        refine ⟨bc2, sJ ⟨W.2, fun q => absurd q z, fun _ => ⟨fun q => absurd q z7, fun _ => ⟨fun _ => trivial, fun q => absurd ?_ q⟩⟩⟩, fun q _ q2 q3 _ => far q q2 q3, fun k _ _ => by rw [ea]⟩
        rw [W1, b4]
        exact c
      · have e0 : fX3_judge_c40 a (nI l) h2 = fX3_judge_c63 a (nI l) (P_fin t g) h2 := by
          unfold fX3_judge_c40
          rw [if_neg z, if_neg z7, W1, b4, if_neg c]
        rw [e0]
        show BC a (fX3_judge_c63 a (nI l) (P_fin t g) h2) (if P_fin t g ≤ r then some (r, l', f) else some (P_fin t g, l, pre)) ∧ _
        rw [if_neg c]
        refine ⟨K.1, sJ ⟨W.2, fun q => absurd q z, fun _ => ⟨fun q => absurd q z7, fun _ => ⟨fun q => absurd ?_ c, fun _ => ?_⟩⟩⟩, fr⟩
        · rw [W1, b4] at q
          exact q
        · rw [W1]
          exact K.2.1
-- a step of the trial, and back
theorem Cst_lo {t s k : Nat} {c : Int32} {g : Nat → Int32} (hk : k < 5) : C_step t s c g k = g k := by
  unfold C_step
  rw [ps_lo hk, upd_o (by omega)]
theorem Cst_t {t s j : Nat} {g : Nat → Int32} (hj : j < 25) : mp (C_step t s (nI j) g) t = P_act s (nI j) (g (49 + 3 * s)) (mp g t) := mp_ps_s (cut_act hj (mp_cut _ _))
theorem Cst_o {t s p : Nat} {c : Int32} {g : Nat → Int32} (hp : p < 4) (e : p ≠ t) : mp (C_step t s c g) p = mp g p := by
  unfold C_step
  rw [mp_ps_o e, mp_hi hp (by omega)]
theorem Cst_x {t s x : Nat} {c : Int32} {g : Nat → Int32} (ht : t < 4) : C_step t s c g (49 + 3 * x) = g (49 + 3 * x) ∧ C_step t s c g (50 + 3 * x) = (if x = s then g (50 + 3 * s) + 1 else g (50 + 3 * x)) ∧ C_step t s c g (51 + 3 * x) = g (51 + 3 * x) := by
  unfold C_step
  rw [ps_hi ht (by omega), ps_hi ht (by omega), ps_hi ht (by omega)]
  refine ⟨upd_o (by omega), ?_, upd_o (by omega)⟩
  by_cases e : x = s
  · subst e
    rw [upd_s, if_pos rfl]
  · rw [upd_o (by omega), if_neg e]
theorem c_stp {a n t s j : Nat} {h : HH} {g : Nat → Int32} (hn : n ≤ 4) (ht : t < n) (hs : s < 12) (hj : j < 25) (h9 : s = 9 → j < 8 ∧ (0 ≤ (mp g t 10).toInt ∧ (mp g t 10).toInt ≤ 255) ∧ P_has (mp g t) (nI j) = false) (cg : CG n a h g) : CG n a (hset (fX0_carryOut a (a + 7 + 2 * t) (nI s) (nI j) h) (a + 3) s (fX0_carryOut a (a + 7 + 2 * t) (nI s) (nI j) h (a + 3) s + 1)) (C_step t s (nI j) g) ∧ sX0_carryOut a (a + 7 + 2 * t) (nI s) (nI j) h ∧ Out a (a + 15) h (hset (fX0_carryOut a (a + 7 + 2 * t) (nI s) (nI j) h) (a + 3) s (fX0_carryOut a (a + 7 + 2 * t) (nI s) (nI j) h (a + 3) s + 1)) := by
  obtain ⟨c1, c2, c3⟩ := cg
  have C := c_carry (a := a) (r := a + 7 + 2 * t) (s := s) (j := j) (h := h) (by omega) hs hj (fun z => by rw [c2 t ht]; exact h9 z)
  have oC := o2_carry a (a + 7 + 2 * t) (nI s) (nI j) h
  obtain ⟨h2, e2⟩ : ∃ h2, fX0_carryOut a (a + 7 + 2 * t) (nI s) (nI j) h = h2 := ⟨_, rfl⟩
  rw [e2] at C oC ⊢
  rw [(c3 s hs).1, c2 t ht] at C
  refine ⟨⟨fun k hk => ?_, fun p hp => ?_, fun x hx => ?_⟩, C.2, out_set (by omega) (by omega) (out_mono (by omega) (by omega) oC)⟩
  · rw [hset_o _ _ _ _ (by omega), oC a (by omega), Cst_lo hk]
    exact c1 k hk
  · rw [pv_o (by omega) (by omega)]
    by_cases e : p = t
    · subst e
      rw [Cst_t hj]
      exact C.1
    · rw [pv_out oC (by omega), Cst_o (by omega) e]
      exact c2 p hp
  · have R := Cst_x (t := t) (s := s) (x := x) (c := nI j) (g := g) (by omega)
    rw [R.1, R.2.1, R.2.2, hset_o _ _ _ _ (by omega), hset_o _ _ _ _ (by omega : a + 4 ≠ a + 3), hset_s, oC _ (by omega), oC _ (by omega), oC _ (by omega)]
    refine ⟨(c3 x hx).1, ?_, (c3 x hx).2.2⟩
    by_cases e : x = s
    · subst e
      rw [upd_s, if_pos rfl, (c3 x hx).2.1]
    · rw [upd_o e, if_neg e]
      exact (c3 x hx).2.1
theorem c_bck {a n t s j q : Nat} {h : HH} {g : Nat → Int32} (hn : n ≤ 4) (ht : t < n) (hs : s < 12) (hq : a + 15 < q) (hp : pv q h = mp g t) (cg : CG n a h (C_step t s (nI j) g)) : CG n a (fX2_copyFrom (a + 7 + 2 * t) q (hset h (a + 3) s (h (a + 3) s - 1))) g ∧ Out a (a + 15) h (fX2_copyFrom (a + 7 + 2 * t) q (hset h (a + 3) s (h (a + 3) s - 1))) := by
  obtain ⟨c1, c2, c3⟩ := cg
  have oC := o2_copy (a + 7 + 2 * t) q (hset h (a + 3) s (h (a + 3) s - 1))
  have C := c_copy (a := a + 7 + 2 * t) (b := q) (by omega) (hset h (a + 3) s (h (a + 3) s - 1))
  rw [pv_o (by omega) (by omega), hp] at C
  obtain ⟨h2, e2⟩ : ∃ h2, fX2_copyFrom (a + 7 + 2 * t) q (hset h (a + 3) s (h (a + 3) s - 1)) = h2 := ⟨_, rfl⟩
  rw [e2] at C oC ⊢
  refine ⟨⟨fun k hk => ?_, fun p hp' => ?_, fun x hx => ?_⟩, out_tr (out_set (by omega) (by omega) out_refl) (out_mono (by omega) (by omega) oC)⟩
  · rw [oC a (by omega), hset_o _ _ _ _ (by omega), ← Cst_lo (t := t) (s := s) (c := nI j) (g := g) hk]
    exact c1 k hk
  · by_cases e : p = t
    · subst e
      exact C
    · rw [pv_out oC (by omega), pv_o (by omega) (by omega), ← Cst_o (t := t) (s := s) (c := nI j) (g := g) (by omega) e]
      exact c2 p hp'
  · have R := Cst_x (t := t) (s := s) (x := x) (c := nI j) (g := g) (by omega)
    have S := c3 x hx
    rw [R.1, R.2.1, R.2.2] at S
    rw [oC _ (by omega), oC _ (by omega), oC _ (by omega), hset_o _ _ _ _ (by omega : a + 2 ≠ a + 3), hset_o _ _ _ _ (by omega : a + 4 ≠ a + 3), hset_s]
    refine ⟨S.1, ?_, S.2.2⟩
    by_cases e : x = s
    · subst e
      rw [upd_s, S.2.1, if_pos rfl]
      exact Int32.add_sub_cancel _ _
    · rw [upd_o e]
      rw [if_neg e] at S
      exact S.2.1
