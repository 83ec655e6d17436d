/-! the component's list of placements, over the spaces -/
theorem okfrom_space {n t s : Nat} {g : Nat → Int32} (hs : s < 12) : okfrom n t g 25 (25 * s) = okfrom n t g (laN s + 1 - fiN s) (25 * s + fiN s) := by
  have fl := fl_v hs
  have e1 : okfrom n t g 25 (25 * s) = okfrom n t g (fiN s) (25 * s) ++ (okfrom n t g (laN s + 1 - fiN s) (25 * s + fiN s) ++ okfrom n t g (24 - laN s) (25 * s + (laN s + 1))) := by
    rw [show (25 : Nat) = fiN s + ((laN s + 1 - fiN s) + (24 - laN s)) by omega, okfrom_add, okfrom_add, show fiN s + ((laN s + 1 - fiN s) + (24 - laN s)) = 25 by omega, show 25 * s + fiN s + (laN s + 1 - fiN s) = 25 * s + (laN s + 1) by omega]
  rw [e1, okfrom_nil (fiN s) (25 * s) (fun i hi => ok_false (nc_tab ⟨s, hs⟩ ⟨i, by omega⟩ (Or.inl hi))), okfrom_nil (24 - laN s) (25 * s + (laN s + 1)) (fun i hi => by
    have := nc_tab ⟨s, hs⟩ ⟨laN s + 1 + i, by omega⟩ (Or.inr (by show laN s < laN s + 1 + i; omega))
    rw [show 25 * s + (laN s + 1) + i = 25 * s + (laN s + 1 + i) by omega]
    exact ok_false this), List.nil_append, List.append_nil]
theorem ok_len {n t : Nat} {g : Nat → Int32} : ∀ (d k : Nat), (okfrom n t g d k).length + nch k ≤ nch (k + d)
  | 0, k => by
    show 0 + nch k ≤ nch (k + 0)
    rw [Nat.add_zero]
    omega
  | d + 1, k => by
    have := ok_len (n := n) (t := t) (g := g) d (k + 1)
    rw [show k + 1 + d = k + (d + 1) by omega] at this
    have nn : nch (k + 1) = nch k + (if isCh k = true then 1 else 0) := rfl
    by_cases c : G_ok n t g k = true
    · have L : okfrom n t g (d + 1) k = k :: okfrom n t g d (k + 1) := if_pos c
      rw [L, List.length_cons]
      rw [if_pos (ok_ch c)] at nn
      omega
    · have L : okfrom n t g (d + 1) k = okfrom n t g d (k + 1) := if_neg c
      rw [L]
      omega
theorem c_out {a n t r : Nat} {g : Nat → Int32} (ok : OKg n t g) (hr : r < a ∨ a + 15 ≤ r) : ∀ (d s cnt f : Nat) (h : HH), s + d = 12 → CG n a h g → cnt ≤ nch (25 * s) →
    fX0_listPlacements_c4 a r (d + f + 1) (nI cnt) (nI s) h = (nI (cnt + (okfrom n t g (25 * d) (25 * s)).length), wr r (okfrom n t g (25 * d) (25 * s)) cnt h) ∧ sX0_listPlacements_c4 a r (d + f + 1) (nI cnt) (nI s) h := by
  intro d
  induction d with
  | zero =>
    intro s cnt f h e cg hc
    have c : (12 : Int32) ≤ nI s := nI_le (a := 12) (by omega) (by omega)
    rw [show 0 + f + 1 = f + 1 by omega]
    exact ⟨if_pos c, fun _ => trivial, fun q => absurd c q⟩
  | succ d ih =>
    intro s cnt f h e cg hc
    have hs : s < 12 := by omega
    have c : ¬ (12 : Int32) ≤ nI s := nI_ge (b := 12) hs (by decide)
    have so := c_so ok hs cg
    have fl := fl_v hs
    have hn := ok.1
    rw [show d + 1 + f + 1 = (d + f + 1) + 1 by omega]
    have SP : okfrom n t g (25 * (d + 1)) (25 * s) = okfrom n t g 25 (25 * s) ++ okfrom n t g (25 * d) (25 * (s + 1)) := by
      rw [show 25 * (d + 1) = 25 + 25 * d by omega, okfrom_add, show 25 * s + 25 = 25 * (s + 1) by omega]
    by_cases z : G_so g s = 0
    · obtain ⟨L, eL⟩ : ∃ L, okfrom n t g (laN s + 1 - fiN s) (25 * s + fiN s) = L := ⟨_, rfl⟩
      have m0 : nch (25 * s) ≤ nch (25 * s + fiN s) := nch_mono _ _
      have IN := c_in ok hr hs z (fX0_listPlacements_c4 a r (d + f + 1)) (sX0_listPlacements_c4 a r (d + f + 1)) (laN s + 1 - fiN s) (fiN s) cnt (25 - (laN s + 1 - fiN s)) h (by omega) cg (by omega)
      rw [eL, show laN s + 1 - fiN s + (25 - (laN s + 1 - fiN s)) + 1 = 26 by omega] at IN
      have len : L.length + nch (25 * s + fiN s) ≤ nch (25 * (s + 1)) := by
        have q := ok_len (n := n) (t := t) (g := g) (laN s + 1 - fiN s) (25 * s + fiN s)
        rw [eL] at q
        have q2 := nch_mono (25 * (s + 1) - (25 * s + fiN s + (laN s + 1 - fiN s))) (25 * s + fiN s + (laN s + 1 - fiN s))
        rw [show 25 * s + fiN s + (laN s + 1 - fiN s) + (25 * (s + 1) - (25 * s + fiN s + (laN s + 1 - fiN s))) = 25 * (s + 1) by omega] at q2
        omega
      have cg1 : CG n a (wr r L cnt h) g := CG_fr hn (fun q q1 q2 => wr_o (by omega) L cnt h) cg
      have I := ih (s + 1) (cnt + L.length) f (wr r L cnt h) (by omega) cg1 (by omega)
      rw [SP, okfrom_space hs, eL, List.length_append, wr_add, ← Nat.add_assoc]
      constructor
      · show (if (12 : Int32) ≤ nI s then _ else (if fX0_spaceObstacle a (nI s) h = 0 then fX0_listPlacements_c28 a r (fX0_listPlacements_c4 a r (d + f + 1)) 26 (nI cnt) (nI s) (tFIRST_CHOICE (nI s).toNatClampNeg) h else _)) = _
        rw [if_neg c, so.1, if_pos z, nclamp (by omega), fl.1, IN.1]
        exact I.1
      · refine ⟨fun q => absurd q c, fun _ => ⟨so.2, fun _ => ⟨v_of hs (by decide), ?_⟩, fun q => absurd (by rw [so.1]; exact z) q⟩⟩
        rw [nclamp (by omega), fl.1]
        exact IN.2 I.2
    · have nil : okfrom n t g 25 (25 * s) = [] := okfrom_nil 25 (25 * s) (fun i hi => by
        unfold G_ok
        rw [(cd (s := s) hi).1, (cd (s := s) hi).2, why_0, if_neg z])
      have m1 := nch_mono 25 (25 * s)
      rw [show 25 * s + 25 = 25 * (s + 1) by omega] at m1
      have I := ih (s + 1) cnt f h (by omega) cg (by omega)
      rw [SP, nil, List.nil_append]
      constructor
      · show (if (12 : Int32) ≤ nI s then _ else (if fX0_spaceObstacle a (nI s) h = 0 then _ else fX0_listPlacements_c4 a r (d + f + 1) (nI cnt) (nI s + 1) h)) = _
        rw [if_neg c, so.1, if_neg z, nI_1]
        exact I.1
      · refine ⟨fun q => absurd q c, fun _ => ⟨so.2, fun q => absurd (by rw [← so.1]; exact q) z, fun _ => ?_⟩⟩
        show sX0_listPlacements_c4 a r (d + f + 1) (nI cnt) (nI s + 1) h
        rw [nI_1]
        exact I.2
/-- all codes that are possible -/
def okl (n t : Nat) (g : Nat → Int32) : List Nat := okfrom n t g 300 0
theorem okl_len (n t : Nat) (g : Nat → Int32) : (okl n t g).length ≤ 40 := by
  have := ok_len (n := n) (t := t) (g := g) 300 0
  rw [show 0 + 300 = 300 by omega, nch_300] at this
  unfold okl
  omega
theorem c_list {a n t r : Nat} {g : Nat → Int32} {h : HH} (ok : OKg n t g) (hr : r < a ∨ a + 15 ≤ r) (cg : CG n a h g) : fX0_listPlacements a r h = (nI (okl n t g).length, wr r (okl n t g) 0 h) ∧ sX0_listPlacements a r h := by
  have L := c_out ok hr 12 0 0 0 h (by decide) cg (by decide)
  have e : okfrom n t g (25 * 12) (25 * 0) = okl n t g := rfl
  rw [e, Nat.zero_add] at L
  exact L
theorem wr_lo {r i : Nat} : ∀ (L : List Nat) (j : Nat) (h : HH), i < j → wr r L j h r i = h r i
  | [], _, _, _ => rfl
  | k :: L, j, h, hi => by
    show wr r L (j + 1) (hset h r j (nI (told k))) r i = h r i
    rw [wr_lo L (j + 1) _ (by omega), hset_s, upd_o (by omega)]
theorem wr_v {r : Nat} : ∀ (L : List Nat) (j i : Nat) (h : HH) (hi : i < L.length), wr r L j h r (j + i) = nI (told (L[i]))
  | [], _, _, _, hi => absurd hi (by simp)
  | k :: L, j, 0, h, hi => by
    show wr r L (j + 1) (hset h r j (nI (told k))) r (j + 0) = nI (told k)
    rw [wr_lo L (j + 1) _ (by omega), hset_s]
    exact upd_s
  | k :: L, j, i + 1, h, hi => by
    show wr r L (j + 1) (hset h r j (nI (told k))) r (j + (i + 1)) = nI (told (L[i]'(by rw [List.length_cons] at hi; omega)))
    rw [show j + (i + 1) = j + 1 + i by omega]
    exact wr_v L (j + 1) i _ _
