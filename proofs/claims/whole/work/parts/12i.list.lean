/-! the component's list of placements -/
def fiN (s : Nat) : Nat := if s = 8 then 1 else 0
def laN (s : Nat) : Nat := if s = 8 then 3 else if s = 9 then 7 else if s = 11 then 24 else 0
theorem fl_v {s : Nat} (hs : s < 12) : tFIRST_CHOICE s = nI (fiN s) ∧ tLAST_CHOICE s = nI (laN s) ∧ laN s ≤ 24 ∧ fiN s ≤ laN s := by
  have q : s = 0 ∨ s = 1 ∨ s = 2 ∨ s = 3 ∨ s = 4 ∨ s = 5 ∨ s = 6 ∨ s = 7 ∨ s = 8 ∨ s = 9 ∨ s = 10 ∨ s = 11 := by omega
  rcases q with rfl | rfl | rfl | rfl | rfl | rfl | rfl | rfl | rfl | rfl | rfl | rfl <;> exact ⟨by decide, by decide, by decide, by decide⟩
theorem nc_tab : ∀ s : Fin 12, ∀ j : Fin 25, (j.val < fiN s.val ∨ laN s.val < j.val) → isCh (25 * s.val + j.val) = false := by decide +kernel
theorem ok_false {n t k : Nat} {g : Nat → Int32} (h : isCh k = false) : G_ok n t g k = false := by
  cases w : G_ok n t g k
  · rfl
  · rw [ok_ch w] at h; cases h
theorem cd {s j : Nat} (hj : j < 25) : (25 * s + j) / 25 = s ∧ (25 * s + j) % 25 = j := by omega
theorem c_in {a n t r s : Nat} {g : Nat → Int32} (ok : OKg n t g) (hr : r < a ∨ a + 15 ≤ r) (hs : s < 12) (so : G_so g s = 0) (k4 : Int32 → Int32 → HH → Int32 × HH) (K4 : Int32 → Int32 → HH → Prop) : ∀ (d j cnt f : Nat) (h : HH), j + d = laN s + 1 → CG n a h g → cnt ≤ nch (25 * s + j) →
    fX0_listPlacements_c28 a r k4 (d + f + 1) (nI cnt) (nI s) (nI j) h = k4 (nI (cnt + (okfrom n t g d (25 * s + j)).length)) (nI (s + 1)) (wr r (okfrom n t g d (25 * s + j)) cnt h)
    ∧ (K4 (nI (cnt + (okfrom n t g d (25 * s + j)).length)) (nI (s + 1)) (wr r (okfrom n t g d (25 * s + j)) cnt h) → sX0_listPlacements_c28 a r K4 (d + f + 1) (nI cnt) (nI s) (nI j) h) := by
  have fl := fl_v hs
  have vs := v_of hs (by decide : 12 < 1000)
  have okc := ok
  obtain ⟨hn, ht, h0, h3, ho, hk⟩ := ok
  have ov : bI (G_over g) = 0 := by
    by_cases w : bI (G_over g) = 0
    · exact w
    · unfold G_so at so
      rw [if_neg w] at so
      exact absurd so (by decide)
  intro d
  induction d with
  | zero =>
    intro j cnt f h e cg hc
    have c : tLAST_CHOICE (nI s).toNatClampNeg < nI j := by rw [nclamp (by omega), fl.2.1]; exact nI_lt (by omega) (by omega)
    rw [show 0 + f + 1 = f + 1 by omega]
    constructor
    · show (if tLAST_CHOICE (nI s).toNatClampNeg < nI j then k4 (nI cnt) (nI s + 1) h else _) = _
      rw [if_pos c, nI_1]
      rfl
    · intro w
      refine ⟨vs, fun _ => ?_, fun q => absurd c q⟩
      show K4 (nI cnt) (nI s + 1) h
      rw [nI_1]
      exact w
  | succ d ih =>
    intro j cnt f h e cg hc
    have hj : j < 25 := by omega
    have c : ¬ tLAST_CHOICE (nI s).toNatClampNeg < nI j := by rw [nclamp (by omega), fl.2.1]; exact nI_nlt (by omega) (by omega)
    have a3 : h a 3 = nI t := by rw [cg.1 3 (by decide), h3 ov]
    have ht4 : t < 4 := by omega
    have C := c_choice (c := nI j) hs
    have kd := cd (s := s) hj
    have isc : isCh (25 * s + j) = fX6_isChoice (nI s) (nI j) := by unfold isCh; rw [kd.1, kd.2]
    have nn : nch (25 * s + j + 1) = nch (25 * s + j) + (if isCh (25 * s + j) = true then 1 else 0) := rfl
    have le : nch (25 * s + j + 1) ≤ 40 := by
      have := nch_mono (300 - (25 * s + j + 1)) (25 * s + j + 1)
      rw [show 25 * s + j + 1 + (300 - (25 * s + j + 1)) = 300 by omega, nch_300] at this
      exact this
    have okv : G_ok n t g (25 * s + j) = (if bI (fX6_isChoice (nI s) (nI j)) = 0 then false else if bI (G_can n t g (nI s) (nI j)) = 0 then false else true) := by
      unfold G_ok
      rw [kd.1, kd.2, why_0, if_pos so]
    rw [show d + 1 + f + 1 = (d + f + 1) + 1 by omega]
    have I (cnt : Nat) (h : HH) (cg : CG n a h g) (hc : cnt ≤ nch (25 * s + j + 1)) := ih (j + 1) cnt f h (by omega) cg (by rw [show 25 * s + (j + 1) = 25 * s + j + 1 by omega]; exact hc)
    rw [show 25 * s + (j + 1) = 25 * s + j + 1 by omega] at I
    by_cases x : bI (fX6_isChoice (nI s) (nI j)) = 0
    · -- no such choice
      have L : okfrom n t g (d + 1) (25 * s + j) = okfrom n t g d (25 * s + j + 1) := by
        rw [if_pos x] at okv
        exact if_neg (by rw [okv]; decide)
      have I0 := I cnt h cg (by omega)
      rw [L]
      constructor
      · show (if tLAST_CHOICE (nI s).toNatClampNeg < nI j then _ else (if (40 : Int32) ≤ nI cnt then fX0_listPlacements_c28 a r k4 (d + f + 1) (nI cnt) (nI s) (nI j + 1) h else (if bI (fX0_isChoice (nI s) (nI j)) = 0 then fX0_listPlacements_c28 a r k4 (d + f + 1) (nI cnt) (nI s) (nI j + 1) h else _))) = _
        rw [if_neg c, C.1, if_pos x, nI_1, I0.1]
        split <;> rfl
      · intro w
        have S : sX0_listPlacements_c28 a r K4 (d + f + 1) (nI cnt) (nI s) (nI j + 1) h := by rw [nI_1]; exact I0.2 w
        refine ⟨vs, fun q => absurd q c, fun _ => ⟨fun _ => ⟨fun _ => S, fun q => absurd rfl q⟩, fun _ => ⟨C.2, fun _ => ⟨fun _ => S, fun q => absurd rfl q⟩, fun q => absurd (by rw [C.1]; exact x) q⟩⟩⟩
    · have xt : isCh (25 * s + j) = true := by
        rw [isc]
        cases y : fX6_isChoice (nI s) (nI j)
        · rw [y] at x; exact absurd rfl x
        · rfl
      rw [if_pos xt] at nn
      have c40 : ¬ (40 : Int32) ≤ nI cnt := nI_ge (b := 40) (by omega) (by decide)
      have j9 : nI s = 9 → j < 8 := fun y => by
        have s9 : s = 9 := (nI_eq (b := 9) (by omega) (by decide)).mp y
        subst s9
        have : laN 9 = 7 := by decide
        omega
      have AL := c_allow (s := nI s) hn ht h0 hj j9 cg
      rw [if_neg x] at okv
      have a3c : (h a 3).toNatClampNeg = t := by rw [a3, nclamp (by omega)]
      by_cases y : bI (G_can n t g (nI s) (nI j)) = 0
      · have L : okfrom n t g (d + 1) (25 * s + j) = okfrom n t g d (25 * s + j + 1) := by
          rw [if_pos y] at okv
          exact if_neg (by rw [okv]; decide)
        have I0 := I cnt h cg (by omega)
        rw [L]
        constructor
        · show (if tLAST_CHOICE (nI s).toNatClampNeg < nI j then _ else (if (40 : Int32) ≤ nI cnt then _ else (if bI (fX0_isChoice (nI s) (nI j)) = 0 then _ else (if (1 : Int32) = 0 then _ else (if bI (fX0_isAllowed a (a + 7 + 2 * (h a 3).toNatClampNeg) (nI s) (nI j) h) = 0 then fX0_listPlacements_c28 a r k4 (d + f + 1) (nI cnt) (nI s) (nI j + 1) h else _))))) = _
          rw [if_neg c, if_neg c40, C.1, if_neg x, if_neg (by decide : ¬ (1 : Int32) = 0), a3c, AL.1, if_pos y, nI_1]
          exact I0.1
        · intro w
          have S : sX0_listPlacements_c28 a r K4 (d + f + 1) (nI cnt) (nI s) (nI j + 1) h := by rw [nI_1]; exact I0.2 w
          refine ⟨vs, fun q => absurd q c, fun _ => ⟨fun q => absurd q c40, fun _ => ⟨C.2, fun q => absurd q (by rw [C.1]; exact x), fun _ => ⟨fun q => absurd q (by decide), fun _ => ⟨by rw [a3]; exact v_of ht4 (by decide), by rw [a3c]; exact AL.2, fun _ => S, fun q => absurd (by rw [a3c, AL.1]; exact y) q⟩⟩⟩⟩⟩
      · have L : okfrom n t g (d + 1) (25 * s + j) = (25 * s + j) :: okfrom n t g d (25 * s + j + 1) := by
          rw [if_neg y] at okv
          exact if_pos okv
        obtain ⟨h1, e1⟩ : ∃ h1, hset h r cnt (nI (told (25 * s + j))) = h1 := ⟨_, rfl⟩
        have cg1 : CG n a h1 g := CG_fr hn (fun q q1 q2 => by rw [← e1, hset_o _ _ _ _ (by omega)]) cg
        have I0 := I (cnt + 1) h1 cg1 (by omega)
        have tv : 100 * nI s + nI j = nI (told (25 * s + j)) := by
          unfold told
          rw [kd.1, kd.2, ← nI_add, show (100 : Int32) = nI 100 from rfl, show nI 100 * nI s = nI (100 * s) from (Int32.ofNat_mul _ _).symm]
        rw [L, List.length_cons, show cnt + ((okfrom n t g d (25 * s + j + 1)).length + 1) = cnt + 1 + (okfrom n t g d (25 * s + j + 1)).length by omega]
        have W : wr r ((25 * s + j) :: okfrom n t g d (25 * s + j + 1)) cnt h = wr r (okfrom n t g d (25 * s + j + 1)) (cnt + 1) h1 := by rw [← e1]; rfl
        rw [W]
        constructor
        · show (if tLAST_CHOICE (nI s).toNatClampNeg < nI j then _ else (if (40 : Int32) ≤ nI cnt then _ else (if bI (fX0_isChoice (nI s) (nI j)) = 0 then _ else (if (1 : Int32) = 0 then _ else (if bI (fX0_isAllowed a (a + 7 + 2 * (h a 3).toNatClampNeg) (nI s) (nI j) h) = 0 then _ else fX0_listPlacements_c28 a r k4 (d + f + 1) (nI cnt + 1) (nI s) (nI j + 1) (hset h r (nI cnt).toNatClampNeg (100 * nI s + nI j))))))) = _
          rw [if_neg c, if_neg c40, C.1, if_neg x, if_neg (by decide : ¬ (1 : Int32) = 0), a3c, AL.1, if_neg y, nI_1, nI_1, nclamp (by omega), tv, e1]
          exact I0.1
        · intro w
          have S : sX0_listPlacements_c28 a r K4 (d + f + 1) (nI cnt + 1) (nI s) (nI j + 1) (hset h r (nI cnt).toNatClampNeg (100 * nI s + nI j)) := by rw [nI_1, nI_1, nclamp (by omega), tv, e1]; exact I0.2 w
          refine ⟨vs, fun q => absurd q c, fun _ => ⟨fun q => absurd q c40, fun _ => ⟨C.2, fun q => absurd q (by rw [C.1]; exact x), fun _ => ⟨fun q => absurd q (by decide), fun _ => ⟨by rw [a3]; exact v_of ht4 (by decide), by rw [a3c]; exact AL.2, fun q => absurd q (by rw [a3c, AL.1]; exact y), fun _ => ⟨v_of (by omega) (by decide), S⟩⟩⟩⟩⟩⟩
