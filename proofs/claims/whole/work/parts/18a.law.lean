/-! the law's loop -/
theorem clos {a m o : Nat} {B : Int} {sC : Prop} {C : Int32 × HH} {sM : HH → Prop} {M : HH → Int32 × HH} {K : Prop} (G : Good a m o B sC C sM M) (hK : INV B a m (M C.2).2 → K) : ((fX6_thrown m (M C.2).2 = C.1 → ((C.1 = 0 → ((lg_cmp (LJ ((M C.2).2 o 0) ((M C.2).2 o 1)) (M C.2).1.toInt64 = 0 → K) ∧ (¬ (lg_cmp (LJ ((M C.2).2 o 0) ((M C.2).2 o 1)) (M C.2).1.toInt64 = 0) → False))) ∧ (¬ (C.1 = 0) → K))) ∧ (¬ (fX6_thrown m (M C.2).2 = C.1) → False)) :=
  ⟨fun _ => ⟨fun z => ⟨fun _ => hK G.2.2.2.2, fun q => q ((lg_cmp_eq _ _).mpr (G.2.2.2.1 z))⟩, fun _ => hK G.2.2.2.2⟩, fun q => q G.2.2.1⟩
theorem law_loop {a m o L : Nat} {xs : Nat → Int32} (d : a + 110 ≤ m ∧ m + 6 ≤ o) (hL : L ≤ 2048) : ∀ (r i : Nat) (B : Int) (h : HH), i + (r + 1) = 513 → 4 ≤ B → B + 510 * (r : Int) + 700 ≤ 70000000 → INV B a m h → sL_law_c23 a m o L xs (r + 1) (nI (4 * i)) h := by
  have lq : (nI L - 4 : Int32).toInt = L - 4 := by
    rw [ti_sub (by rw [t4, ti_nI (by omega)]; omega) (by rw [t4, ti_nI (by omega)]; omega), t4, ti_nI (by omega)]
  intro r
  induction r with
  | zero =>
    intro i B h e hB4 hB inv
    have c : nI L - 4 < nI (4 * i) := by
      rw [ti_lt, lq, ti_nI (by omega)]
      omega
    exact ⟨fun _ => trivial, fun q => absurd c q⟩
  | succ r ih =>
    intro i B h e hB4 hB inv
    by_cases c : nI L - 4 < nI (4 * i)
    · exact ⟨fun _ => trivial, fun q => absurd c q⟩
    · have l4 : 4 * i + 4 ≤ L := by
        have : ¬ ((L : Int) - 4 < (4 * i : Nat)) := fun z => c (by rw [ti_lt, lq, ti_nI (by omega)]; exact z)
        omega
      have v0 : vp_in (nI (4 * i)) L := ti_vp (by rw [ti_nI (by omega)]; omega) (by rw [ti_nI (by omega)]; omega)
      have v1 : vp_in (nI (4 * i) + 1) L := by rw [show nI (4 * i) + 1 = nI (4 * i + 1) from nI_add _ 1]; exact ti_vp (by rw [ti_nI (by omega)]; omega) (by rw [ti_nI (by omega)]; omega)
      have v2 : vp_in (nI (4 * i) + 2) L := by rw [show nI (4 * i) + 2 = nI (4 * i + 2) from nI_add _ 2]; exact ti_vp (by rw [ti_nI (by omega)]; omega) (by rw [ti_nI (by omega)]; omega)
      have v3 : vp_in (nI (4 * i) + 3) L := by rw [show nI (4 * i) + 3 = nI (4 * i + 3) from nI_add _ 3]; exact ti_vp (by rw [ti_nI (by omega)]; omega) (by rw [ti_nI (by omega)]; omega)
      have go (h' : HH) (i' : INV (B + 510) a m h') : sL_law_c23 a m o L xs (r + 1) (nI (4 * i) + 4) h' := by
        rw [show nI (4 * i) + 4 = nI (4 * (i + 1)) from nI_add _ 4]
        exact ih (i + 1) (B + 510) h' (by omega) (by omega) (by omega) i'
      have g0 (h' : HH) (i' : INV B a m h') := go h' (INV_mono (by omega) i')
      have g51 (h' : HH) (i' : INV (B + 51) a m h') := go h' (INV_mono (by omega) i')
      refine ⟨fun q => absurd q c, fun _ => ⟨v0, fun _ => ⟨v1, v2, (newGame_ok hB4 d inv _ _).1, v1, v2, (newGame_ok hB4 d inv _ _).2.1, clos (newGame_ok hB4 d inv _ _) (g0 _)⟩, fun _ => ?_⟩⟩
      refine ⟨fun _ => ⟨v1, v2, (reason_ok (by omega) d inv _ _).1, v1, v2, (reason_ok (by omega) d inv _ _).2.1, clos (reason_ok (by omega) d inv _ _) (g0 _)⟩, fun _ => ?_⟩
      refine ⟨fun _ => ⟨v1, v2, (place_ok hB4 (by omega) d inv _ _).1, v1, v2, (place_ok hB4 (by omega) d inv _ _).2.1, clos (place_ok hB4 (by omega) d inv _ _) (g51 _)⟩, fun _ => ?_⟩
      refine ⟨fun _ => ⟨(skip_ok hB4 (by omega) d inv).1, (skip_ok hB4 (by omega) d inv).2.1, clos (skip_ok hB4 (by omega) d inv) (g51 _)⟩, fun _ => ?_⟩
      refine ⟨fun _ => ⟨v1, v2, (play_ok hB4 (by omega) d inv _ _).1, v1, v2, (play_ok hB4 (by omega) d inv _ _).2.1, clos (play_ok hB4 (by omega) d inv _ _) (go _)⟩, fun _ => ?_⟩
      refine ⟨fun _ => ⟨(players_ok d.1 inv).1, fun _ => g0 _ (players_ok d.1 inv).2.2, fun q => q (players_ok d.1 inv).2.1⟩, fun _ => ?_⟩
      refine ⟨fun _ => ⟨(round_ok d.1 inv).1, fun _ => g0 _ (round_ok d.1 inv).2.2, fun q => q (round_ok d.1 inv).2.1⟩, fun _ => ?_⟩
      refine ⟨fun _ => ⟨(inTurn_ok d.1 inv).1, fun _ => g0 _ (inTurn_ok d.1 inv).2.2, fun q => q (inTurn_ok d.1 inv).2.1⟩, fun _ => ?_⟩
      refine ⟨fun _ => ⟨(startPlayer_ok d.1 inv).1, fun _ => g0 _ (startPlayer_ok d.1 inv).2.2, fun q => q (startPlayer_ok d.1 inv).2.1⟩, fun _ => ?_⟩
      refine ⟨fun _ => ⟨v1, v2, (goods_ok (by omega) d inv _ _).1, v1, v2, (goods_ok (by omega) d inv _ _).2.1, clos (goods_ok (by omega) d inv _ _) (g0 _)⟩, fun _ => ?_⟩
      refine ⟨fun _ => ⟨v1, v2, (player_ok (by omega) d inv _ _).1, v1, v2, (player_ok (by omega) d inv _ _).2.1, clos (player_ok (by omega) d inv _ _) (g0 _)⟩, fun _ => ?_⟩
      refine ⟨fun _ => ⟨v1, (owner_ok (by omega) d inv _).1, v1, (owner_ok (by omega) d inv _).2.1, clos (owner_ok (by omega) d inv _) (g0 _)⟩, fun _ => ?_⟩
      refine ⟨fun _ => ⟨v1, v2, (space_ok (by omega) d inv _ _).1, v1, v2, (space_ok (by omega) d inv _ _).2.1, clos (space_ok (by omega) d inv _ _) (g0 _)⟩, fun _ => ?_⟩
      refine ⟨fun _ => ⟨v1, v2, v3, (cost_ok (by omega) d inv _ _ _).1, v1, v2, v3, (cost_ok (by omega) d inv _ _ _).2.1, clos (cost_ok (by omega) d inv _ _ _) (g0 _)⟩, fun _ => ?_⟩
      refine ⟨fun _ => ⟨v1, (need_ok (by omega) d inv _).1, v1, (need_ok (by omega) d inv _).2.1, clos (need_ok (by omega) d inv _) (g0 _)⟩, fun _ => ?_⟩
      refine ⟨fun _ => ⟨v1, (missing_ok (by omega) d inv _).1, v1, (missing_ok (by omega) d inv _).2.1, clos (missing_ok (by omega) d inv _) (g0 _)⟩, fun _ => ?_⟩
      refine ⟨fun _ => ⟨v1, v2, (score_ok (by omega) d inv _ _).1, v1, v2, (score_ok (by omega) d inv _ _).2.1, clos (score_ok (by omega) d inv _ _) (g0 _)⟩, fun _ => ?_⟩
      refine ⟨fun _ => ⟨v1, (rank_ok (by omega) d inv _).1, v1, (rank_ok (by omega) d inv _).2.1, clos (rank_ok (by omega) d inv _) (g0 _)⟩, fun _ => ?_⟩
      refine ⟨fun _ => ⟨(possible_ok d.1 inv).1, (possible_ok d.1 inv).2.1, fun _ => g0 _ (possible_ok d.1 inv).2.2.2, fun q => q (possible_ok d.1 inv).2.2.1⟩, fun _ => ?_⟩
      refine ⟨fun _ => ⟨v1, (option_ok  d inv _).1, v1, (option_ok  d inv _).2.1, clos (option_ok  d inv _) (g0 _)⟩, fun _ => ?_⟩
      refine ⟨fun _ => ⟨v1, (bestScore_ok (by omega) d inv _).1, v1, (bestScore_ok (by omega) d inv _).2.1, clos (bestScore_ok (by omega) d inv _) (g0 _)⟩, fun _ => ?_⟩
      refine ⟨fun _ => ⟨v1, v2, (bestPlacement_ok (by omega) d inv _ _).1, v1, v2, (bestPlacement_ok (by omega) d inv _ _).2.1, clos (bestPlacement_ok (by omega) d inv _ _) (g0 _)⟩, fun _ => ?_⟩
      refine ⟨fun _ => ⟨(moves_ok d.1 inv).1, fun _ => g0 _ (moves_ok d.1 inv).2.2, fun q => q (moves_ok d.1 inv).2.1⟩, fun _ => ?_⟩
      refine ⟨fun _ => ⟨v1, v2, (move_ok (by omega) d inv _ _).1, v1, v2, (move_ok (by omega) d inv _ _).2.1, clos (move_ok (by omega) d inv _ _) (g0 _)⟩, fun _ => ?_⟩
      refine ⟨fun _ => ⟨(undo_ok  d inv).1, (undo_ok  d inv).2.1, clos (undo_ok  d inv) (g0 _)⟩, fun _ => ?_⟩
      refine ⟨fun _ => ⟨(digest_ok (by omega) d.1 inv).1, (digest_ok (by omega) d.1 inv).2.1, fun _ => g0 _ (digest_ok (by omega) d.1 inv).2.2.2, fun q => q ((lg_cmp_eq _ _).mpr (digest_ok (by omega) d.1 inv).2.2.1.symm)⟩, fun _ => ?_⟩
      exact g0 h inv
theorem pure_ok : PureOK := by
  intro z mA oA L xs h1 h2 hL
  have C := c_begin (a := z + 1) (n := 2) (R := nI 6) (h := fun _ _ => 0) (fun _ => 0) (by decide)
  have C : CG 2 (z + 1) (fX0_begin (z + 1) 2 6 (fun _ _ => 0)) (G_begin 2 (nI 6) (fun _ => 0)) ∧ CH (z + 1) (fX0_begin (z + 1) 2 6 (fun _ _ => 0)) (G_begin 2 (nI 6) (fun _ => 0)) ∧ sX0_begin (z + 1) 2 6 (fun _ _ => 0) ∧ Out (z + 1) (z + 1 + 15) (fun _ _ => 0) (fX0_begin (z + 1) 2 6 (fun _ _ => 0)) := C
  have M := m_begin (m := mA) (n := 2) (R := nI 6) (h := fun _ _ => 0) (by decide)
  have M : fX6_begins mA 2 6 (fun _ _ => 0) = hrow (fun _ _ => 0) (mA + 1) (G_begin 2 (nI 6) (fun _ => 0)) ∧ sX6_begins mA 2 6 (fun _ _ => 0) := M
  refine ⟨C.2.2.1, M.2, ?_⟩
  have lo (q : Nat) (hq : q < mA) : hIni z mA oA q = fX0_begin (z + 1) 2 6 (fun _ _ => 0) q := if_pos hq
  have hi (q : Nat) (hq : mA ≤ q) (hq' : q < oA) : hIni z mA oA q = hrow (fun _ _ => 0) (mA + 1) (G_begin 2 (nI 6) (fun _ => 0)) q := by
    unfold hIni
    rw [if_neg (by omega), if_pos hq', M.1]
  have row : hIni z mA oA (mA + 1) = G_begin 2 (nI 6) (fun _ => 0) := by rw [hi _ (by omega) (by omega), hrow_s]
  have sv : hIni z mA oA mA 3 = nI 0 := by
    rw [hi _ (by omega) (by omega), hrow_o (by omega)]
    rfl
  have un (k : Nat) : hIni z mA oA (z + 16) k = nI 0 := by
    rw [lo _ (by omega), C.2.2.2 _ (by omega)]
    rfl
  have I : INV 4 z mA (hIni z mA oA) := by
    refine ⟨?_, 0, sv, by decide, 0, by decide, un 1, un 2, fun i hi => absurd hi (by omega)⟩
    rw [row]
    exact SA_h (fun q q1 q2 => lo q (by omega)) ⟨2, gi_begin (Rn := 6) (by decide) (by decide) (by decide) (by decide), C.1, C.2.1⟩
  have := law_loop (a := z) (m := mA) (o := oA) (L := L) (xs := xs) ⟨h1, h2⟩ hL 512 0 4 (hIni z mA oA) (by decide) (by decide) (by decide) I
  rw [show 4 * 0 = 0 from rfl, nI_0] at this
  exact this
