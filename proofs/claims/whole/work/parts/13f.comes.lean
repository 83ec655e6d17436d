/-! a possible placement keeps what the row is -/
theorem act_10 {s j : Nat} {lie : Int32} {r : Nat → Int32} (h9 : s ≠ 9) (hs : s < 12) (hj : j < 25) : P_act s (nI j) lie r 10 = r 10 := by
  unfold P_act
  obtain ⟨v, ev⟩ : ∃ v, upd r 7 (r 7 + -1) = v := ⟨_, rfl⟩
  have e : v 10 = r 10 := by rw [← ev, upd_o (by decide)]
  rw [ev, ← e]
  have q : s = 0 ∨ s = 1 ∨ s = 2 ∨ s = 3 ∨ s = 4 ∨ s = 5 ∨ s = 6 ∨ s = 7 ∨ s = 8 ∨ s = 10 ∨ s = 11 := by omega
  rcases q with rfl | rfl | rfl | rfl | rfl | rfl | rfl | rfl | rfl | rfl | rfl
  · exact upd_o (by decide)
  · exact upd_o (by decide)
  · exact upd_o (by decide)
  · exact upd_o (by decide)
  · exact upd_o (by decide)
  · exact upd_o (by decide)
  · exact (upd_o (by decide)).trans ((upd_o (by decide)).trans (upd_o (by decide)))
  · exact (upd_o (by decide)).trans (upd_o (by decide))
  · exact (upd_o (by decide)).trans (upd_o (by decide))
  · exact upd_o (by decide)
  · have c := j5c hj
    rw [P_act0_11, c.1, c.2]
    exact (upd_o (by omega)).trans (upd_o (by omega))
theorem act_10b {j : Nat} {lie : Int32} {r : Nat → Int32} : P_act 9 (nI j) lie r 10 = r 10 + (1 <<< (nI j &&& 31)) := by
  unfold P_act
  show upd (P_pay (upd r 7 (r 7 + -1)) (nI j)) 10 (upd r 7 (r 7 + -1) 10 + (1 <<< (nI j &&& 31))) 10 = _
  rw [upd_s, upd_o (by decide)]
theorem own_none {n : Nat} {g : Nat → Int32} {b : Int32} (hn : n ≤ 4) (h : G_own n g b = -1) : ∀ p, p < n → P_has (mp g p) b = false := by
  have M := mown_c (g := g) (b := b) n 0 (-1)
  rw [Nat.zero_add] at M
  rcases M with ⟨m1, _⟩ | ⟨q, m1, m2, m3, m4⟩
  · exact fun p hp => m1 p (by omega) hp
  · have : mown g b n 0 (-1) = -1 := h
    rw [m4] at this
    exact absurd this (nI_m1 (by omega))
/-- what a possible code says -/
theorem why_ok {n t s : Nat} {g : Nat → Int32} {c : Int32} (h : G_why n t g s c = 0) : bI (G_over g) = 0 ∧ ¬ g (50 + 3 * s) = fX6_placesOf (nI s) ∧ fX6_isChoice (nI s) c = true ∧ G_can n t g (nI s) c = true := by
  have w := why_0 (n := n) (t := t) (s := s) (g := g) (c := c)
  rw [if_pos h] at w
  by_cases so : G_so g s = 0
  · rw [if_pos so] at w
    have b1 : fX6_isChoice (nI s) c = true := by
      cases y : fX6_isChoice (nI s) c
      · rw [y, if_pos (by decide : bI false = 0)] at w; cases w
      · rfl
    have b2 : G_can n t g (nI s) c = true := by
      cases y : G_can n t g (nI s) c
      · rw [b1, y, if_neg (by decide : ¬ bI true = 0), if_pos (by decide : bI false = 0)] at w; cases w
      · rfl
    unfold G_so at so
    by_cases o : bI (G_over g) = 0
    · rw [if_pos o] at so
      refine ⟨o, fun f => ?_, b1, b2⟩
      rw [if_pos f] at so
      exact absurd so (by decide)
    · rw [if_neg o] at so
      exact absurd so (by decide)
  · rw [if_neg so] at w; cases w
theorem ch_9 {j : Nat} (hj : j < 25) (h : fX6_isChoice (nI 9) (nI j) = true) : j < 8 := by
  unfold fX6_isChoice fX6_isChoice_c0 at h
  rw [if_neg (by decide : ¬ nI 9 = 8), if_pos (by decide : nI 9 = 9)] at h
  obtain ⟨i, _, i2, ei⟩ := (w_in (x := nI j) (a := 0) (b := 7) (by decide) (by decide)).mp h
  have := (nI_eq (by omega) (by omega)).mp ei
  omega
theorem can_9 {n t j : Nat} {g : Nat → Int32} (h : G_can n t g (nI 9) (nI j) = true) : G_own n g (nI j) = -1 := by
  unfold G_can at h
  rw [if_neg (by decide : ¬ nI 9 = 6), if_neg (by decide : ¬ nI 9 = 7), if_neg (by decide : ¬ nI 9 = 8), if_pos (by decide : nI 9 = 9)] at h
  by_cases w : G_own n g (nI j) = -1
  · exact w
  · rw [if_neg w] at h; cases h
theorem comes_inv {B : Int} {n t s j : Nat} {g : Nat → Int32} (hB : B ≤ 70000000) (gi : GI B n g) (ht : t < n) (h3 : g 3 = nI t) (h7 : 0 < (mp g t 7).toInt) (hr : (g 2).toInt ≤ (g 1).toInt) (hs : s < 12) (hj : j < 25) (hw : G_why n t g s (nI j) = 0) : (∀ p, p < n → PI (B + 40) (mp (G_comes t s (nI j) g) p)) ∧ LI (G_comes t s (nI j) g) ∧ SP2 (G_comes t s (nI j) g) ∧ UO n (G_comes t s (nI j) g) ∧ (∃ st, st < n ∧ G_comes t s (nI j) g 4 = nI st) := by
  obtain ⟨hn0, hn, h0, hrr, ⟨st, hst, est⟩, _, hp, hl, hs2, hu, _⟩ := gi
  obtain ⟨_, w2, w3, w4⟩ := why_ok hw
  have ht4 : t < 4 := by omega
  obtain ⟨k, hk, h50⟩ := (hs2 s hs).2
  have kl : k < plN s := by
    have : ¬ k = plN s := fun e => w2 (by rw [h50, (pl_v hs).2.1, e])
    omega
  have pl2 := (pl_v hs).2.2
  have R := sp_r (t := t) (g := g) hs (hl s hs).1
  have n9 : s = 9 → ∀ p, p < n → P_has (mp g p) (nI j) = false := fun z => by
    subst z
    exact own_none hn (can_9 w4)
  have cr : Cut (P_act s (nI j) (g (49 + 3 * s)) (mp g t)) := cut_act hj (mp_cut _ _)
  have mt : mp (G_comes t s (nI j) g) t = P_act s (nI j) (g (49 + 3 * s)) (mp g t) := mp_ps_s cr
  have mo (p : Nat) (hp' : p < 4) (e : p ≠ t) : mp (G_comes t s (nI j) g) p = mp g p := by
    unfold G_comes
    rw [mp_ps_o e]
    funext x
    unfold mp
    by_cases c : x < 11
    · rw [if_pos c, if_pos c, R.1 _ (by omega), if_neg (by omega)]
    · rw [if_neg c, if_neg c]
  have hi (x : Nat) (hx : 49 ≤ x) : G_comes t s (nI j) g x = G_sp t s g x := ps_hi ht4 hx
  have l2 : G_comes t s (nI j) g 2 = g 2 := comes_lo (by decide)
  have ls := hl s hs
  refine ⟨fun p hp' => ?_, fun x hx => ?_, fun x hx => ?_, fun b hb p q hp' hq' h1 h2 => ?_, ?_⟩
  · by_cases e : p = t
    · subst e
      rw [mt]
      exact pi_act (by omega) hs hj w3 w4 ⟨ls.2.1, by omega⟩ h7 (fun z => n9 z p hp') (hp p hp')
    · rw [mo p (by omega) e]
      exact pi_mono (by omega) (hp p hp')
  · have lx := hl x hx
    rw [hi _ (by omega), (R.2 x hx).1, l2]
    by_cases e : x = s
    · rw [if_pos e]
      exact ⟨fun _ => rfl, by decide, by rw [t0]; omega⟩
    · rw [if_neg e]
      exact lx
  · rw [hi _ (by omega), hi _ (by omega), (R.2 x hx).2.1, (R.2 x hx).2.2]
    by_cases e : x = s
    · subst e
      have ek : g (50 + 3 * x) + 1 = nI (k + 1) := by rw [h50, nI_1]
      rw [if_pos rfl, ek]
      refine ⟨⟨fun z => absurd z (nI_ne0 (by omega) (by omega)), fun z => ?_⟩, k + 1, by omega, rfl⟩
      by_cases c : g (50 + 3 * x) = 0
      · rw [if_pos ⟨rfl, c⟩] at z
        exact absurd z (nI_m1 (by omega))
      · rw [if_neg (fun y => c y.2)] at z
        exact absurd ((hs2 x hx).1.mpr z) c
    · rw [if_neg e, if_neg (fun y => e y.1)]
      exact hs2 x hx
  · by_cases z : s = 9
    · have j8 : j < 8 := ch_9 hj (by rw [z] at w3; exact w3)
      have p10 := (hp t ht).2.2.2.2.2.2
      have H (b : Nat) (hb : b < 8) : P_has (mp (G_comes t s (nI j) g) t) (nI b) = if b = j then true else P_has (mp g t) (nI b) := by
        rw [mt, z]
        exact (has_add j8 hb p10.1 p10.2 (n9 z t ht) act_10b).1
      have K (p : Nat) (hp' : p < n) (e : p ≠ t) (h : P_has (mp (G_comes t s (nI j) g) p) (nI b) = true) : b ≠ j ∧ P_has (mp g p) (nI b) = true := by
        rw [mo p (by omega) e] at h
        refine ⟨fun y => ?_, h⟩
        subst y
        rw [n9 z p hp'] at h
        cases h
      by_cases e1 : p = t
      · by_cases e2 : q = t
        · rw [e1, e2]
        · obtain ⟨k1, k2⟩ := K q hq' e2 h2
          subst e1
          rw [H b hb, if_neg k1] at h1
          exact hu b hb p q hp' hq' h1 k2
      · by_cases e2 : q = t
        · obtain ⟨k1, k2⟩ := K p hp' e1 h1
          subst e2
          rw [H b hb, if_neg k1] at h2
          exact hu b hb p q hp' hq' k2 h2
        · exact hu b hb p q hp' hq' (K p hp' e1 h1).2 (K q hq' e2 h2).2
    · have H (p : Nat) (hp' : p < n) : P_has (mp (G_comes t s (nI j) g) p) (nI b) = P_has (mp g p) (nI b) := by
        by_cases e : p = t
        · subst e
          rw [mt]
          exact P_has_ext (act_10 z hs hj) _
        · rw [mo p (by omega) e]
      rw [H p hp'] at h1
      rw [H q hq'] at h2
      exact hu b hb p q hp' hq' h1 h2
  · have c4 : G_comes t s (nI j) g 4 = G_sp t s g 4 := ps_lo (by decide)
    rw [c4, R.1 4 (by omega)]
    by_cases z : s = 10
    · exact ⟨t, ht, if_pos ⟨rfl, z⟩⟩
    · exact ⟨st, hst, by rw [if_neg (fun y => z y.2), est]⟩
