/-! what is possible: the component against the row -/
theorem mown_c {g : Nat → Int32} {b : Int32} : ∀ (d p : Nat) (x : Int32), ((∀ q, p ≤ q → q < p + d → P_has (mp g q) b = false) ∧ mown g b d p x = x) ∨ ∃ q, p ≤ q ∧ q < p + d ∧ P_has (mp g q) b = true ∧ mown g b d p x = nI q
  | 0, p, x => Or.inl ⟨fun q h1 h2 => absurd h2 (by omega), rfl⟩
  | d + 1, p, x => by
    show ((∀ q, p ≤ q → q < p + (d + 1) → P_has (mp g q) b = false) ∧ mown g b d (p + 1) (if bI (P_has (mp g p) b) = 0 then x else nI p) = x) ∨ ∃ q, p ≤ q ∧ q < p + (d + 1) ∧ P_has (mp g q) b = true ∧ mown g b d (p + 1) (if bI (P_has (mp g p) b) = 0 then x else nI p) = nI q
    rcases mown_c d (p + 1) (if bI (P_has (mp g p) b) = 0 then x else nI p) with ⟨h1, h2⟩ | ⟨q, h1, h2, h3, h4⟩
    · cases w : P_has (mp g p) b with
      | false =>
        rw [w] at h2
        rw [if_pos (by decide)] at h2 ⊢
        refine Or.inl ⟨fun q q1 q2 => ?_, h2⟩
        by_cases e : q = p
        · subst e; exact w
        · exact h1 q (by omega) (by omega)
      | true =>
        rw [w] at h2
        rw [if_neg (by decide)] at h2 ⊢
        exact Or.inr ⟨p, by omega, by omega, w, h2⟩
    · exact Or.inr ⟨q, by omega, by omega, h3, h4⟩
theorem c_own_loop {a n : Nat} {b : Int32} {h : HH} {g : Nat → Int32} (hn : n ≤ 4) (h0 : g 0 = nI n) (cg : CG n a h g) : ∀ (d p f : Nat), p + d = n → sX0_ownerOf_c2 a (d + f + 1) b (nI p) h ∧ (((∀ q, p ≤ q → q < n → P_has (mp g q) b = false) ∧ fX0_ownerOf_c2 a (d + f + 1) b (nI p) h = -1) ∨ ∃ q, p ≤ q ∧ q < n ∧ P_has (mp g q) b = true ∧ fX0_ownerOf_c2 a (d + f + 1) b (nI p) h = nI q) := by
  have a0 : h a 0 = nI n := by rw [cg.1 0 (by decide), h0]
  intro d
  induction d with
  | zero =>
    intro p f e
    have c : h a 0 ≤ nI p := by rw [a0]; exact nI_le (by omega) (by omega)
    rw [show 0 + f + 1 = f + 1 by omega]
    exact ⟨⟨fun _ => trivial, fun q => absurd c q⟩, Or.inl ⟨fun q h1 h2 => absurd h2 (by omega), if_pos c⟩⟩
  | succ d ih =>
    intro p f e
    have c : ¬ h a 0 ≤ nI p := by rw [a0]; exact nI_ge (by omega) (by omega)
    have I := ih (p + 1) f (by omega)
    rw [show d + 1 + f + 1 = (d + f + 1) + 1 by omega]
    have E : fX0_ownerOf_c2 a (d + f + 1 + 1) b (nI p) h = if bI (P_has (mp g p) b) = 0 then fX0_ownerOf_c2 a (d + f + 1) b (nI (p + 1)) h else nI p := by
      show (if h a 0 ≤ nI p then (-1 : Int32) else (if bI (fX2_has (a + 7 + 2 * (nI p).toNatClampNeg) b h) = 0 then fX0_ownerOf_c2 a (d + f + 1) b (nI p + 1) h else nI p)) = _
      rw [if_neg c, nclamp (by omega), c_has, cg.2.1 p (by omega), nI_1]
    constructor
    · refine ⟨fun q => absurd q c, fun _ => ⟨v_of (by omega) (by decide), fun _ => ?_, fun _ => trivial⟩⟩
      rw [nI_1]
      exact I.1
    · rw [E]
      cases w : P_has (mp g p) b with
      | false =>
        rw [if_pos (by decide)]
        rcases I.2 with ⟨h1, h2⟩ | ⟨q, h1, h2, h3, h4⟩
        · refine Or.inl ⟨fun q q1 q2 => ?_, h2⟩
          by_cases e : q = p
          · subst e; exact w
          · exact h1 q (by omega) q2
        · exact Or.inr ⟨q, by omega, h2, h3, h4⟩
      | true =>
        rw [if_neg (by decide)]
        exact Or.inr ⟨p, by omega, by omega, w, rfl⟩
theorem nI_m1 {q : Nat} (hq : q < 1000) : ¬ nI q = -1 := fun e => by
  have := congrArg Int32.toInt e
  rw [ti_nI (by omega), tm1] at this
  omega
/-- an owner on the one side is one on the other; if only one owns, the same one -/
theorem c_own {a n : Nat} {b : Int32} {h : HH} {g : Nat → Int32} (hn : n ≤ 4) (h0 : g 0 = nI n) (cg : CG n a h g) : (fX0_ownerOf a b h = -1 ↔ G_own n g b = -1) ∧ sX0_ownerOf a b h ∧ ((∀ p q, p < n → q < n → P_has (mp g p) b = true → P_has (mp g q) b = true → p = q) → fX0_ownerOf a b h = G_own n g b) := by
  have L := c_own_loop (b := b) hn h0 cg n 0 (4 - n) (by omega)
  rw [show n + (4 - n) + 1 = 5 by omega] at L
  have M := mown_c (g := g) (b := b) n 0 (-1)
  rw [Nat.zero_add] at M
  refine ⟨?_, L.1, fun u => ?_⟩
  · show fX0_ownerOf_c2 a 5 b (nI 0) h = -1 ↔ mown g b n 0 (-1) = -1
    rcases L.2 with ⟨l1, l2⟩ | ⟨q, l1, l2, l3, l4⟩ <;> rcases M with ⟨m1, m2⟩ | ⟨q', m1, m2, m3, m4⟩
    · rw [l2, m2]
    · have := l1 q' (by omega) m2
      rw [m3] at this
      cases this
    · have := m1 q (by omega) l2
      rw [l3] at this
      cases this
    · rw [l4, m4]
      exact ⟨fun e => absurd e (nI_m1 (by omega)), fun e => absurd e (nI_m1 (by omega))⟩
  · show fX0_ownerOf_c2 a 5 b (nI 0) h = mown g b n 0 (-1)
    rcases L.2 with ⟨l1, l2⟩ | ⟨q, l1, l2, l3, l4⟩ <;> rcases M with ⟨m1, m2⟩ | ⟨q', m1, m2, m3, m4⟩
    · rw [l2, m2]
    · have := l1 q' (by omega) m2
      rw [m3] at this
      cases this
    · have := m1 q (by omega) l2
      rw [l3] at this
      cases this
    · rw [l4, m4, u q q' l2 m2 l3 m3]
theorem c_allow {a n t j : Nat} {s : Int32} {h : HH} {g : Nat → Int32} (hn : n ≤ 4) (ht : t < n) (h0 : g 0 = nI n) (hj : j < 25) (h9 : s = 9 → j < 8) (cg : CG n a h g) : fX0_isAllowed a (a + 7 + 2 * t) s (nI j) h = G_can n t g s (nI j) ∧ sX0_isAllowed a (a + 7 + 2 * t) s (nI j) h := by
  have m := cg.2.1 t ht
  have O := c_own (b := nI j) hn h0 cg
  have A := c_canAfford (a + 7 + 2 * t) (-1) h (by decide) (by decide)
  have e := (j5 hj).1
  have e' := (j5c hj).1
  have r8 : h (a + 7 + 2 * t) 4 = mp g t 8 := by rw [← m]; exact pv_F _ h 3
  have r2 : h (a + 7 + 2 * t + 1) 2 = mp g t 2 := by rw [← m]; exact pv_G _ h (by decide)
  have rj : h (a + 7 + 2 * t + 1) (j / 5) = mp g t (j / 5) := by rw [← m]; exact pv_G _ h (by omega)
  have A9 : s = 9 → fX2_canAfford (a + 7 + 2 * t) (nI j) h = P_canPay (mp g t) (nI j) ∧ sX2_canAfford (a + 7 + 2 * t) (nI j) h := fun z => by
    have j8 := h9 z
    have B := c_canAfford (a + 7 + 2 * t) (nI j) h (by rw [ti_nI (by omega)]; omega) (by rw [ti_nI (by omega)]; omega)
    rw [m] at B
    exact B
  rw [m] at A
  constructor
  · unfold fX0_isAllowed fX0_isAllowed_c0 G_can
    rw [A.1, c_canGrow, m, r8, r2, e', rj]
    by_cases z6 : s = 6
    · rw [if_pos z6, if_pos z6]
    rw [if_neg z6, if_neg z6]
    by_cases z7 : s = 7
    · rw [if_pos z7, if_pos z7]
    rw [if_neg z7, if_neg z7]
    by_cases z8 : s = 8
    · rw [if_pos z8, if_pos z8]
    rw [if_neg z8, if_neg z8]
    by_cases z9 : s = 9
    · rw [if_pos z9, if_pos z9, (A9 z9).1]
      by_cases w : G_own n g (nI j) = -1
      · rw [if_pos w, if_pos (O.1.mpr w)]
      · rw [if_neg w, if_neg (fun y => w (O.1.mp y))]
    rw [if_neg z9, if_neg z9]
  · unfold sX0_isAllowed sX0_isAllowed_c0
    refine ⟨fun _ => ⟨fun _ => trivial, fun _ => A.2⟩, fun _ => ⟨fun _ => trivial, fun _ => ⟨fun _ => trivial, fun _ => ⟨fun z => ⟨O.2.1, fun _ => (A9 z).2, fun _ => trivial⟩, fun _ => ⟨fun _ => trivial, fun _ => ⟨fun _ => ?_, fun _ => trivial⟩⟩⟩⟩⟩⟩
    rw [e]
    exact v_of (by omega) (by decide)
theorem w00 (c : Int32) : fX6_within c 0 0 = fX6_isChoice_c72 c := by
  show (if c < 0 then false else if 0 < c then false else true) = (if c = 0 then true else false)
  by_cases e : c = 0
  · subst e; decide
  · rw [if_neg e]
    by_cases l : c < 0
    · rw [if_pos l]
    · rw [if_neg l, if_pos ?_]
      have l' : ¬ c.toInt < (0 : Int32).toInt := fun q => l (ti_lt.mpr q)
      have e' := ti_ne e
      refine ti_lt.mpr ?_
      omega
theorem c_chW {s : Nat} {c F L : Int32} (hF : tFIRST_CHOICE s = F) (hL : tLAST_CHOICE s = L) (hs : s < 12) (h11 : s ≠ 11) : fX0_isChoice (nI s) c = fX6_within c F L := by
  unfold fX0_isChoice fX0_isChoice_c0 fX0_isChoice_c22 fX0_isChoice_c23 fX0_isChoice_c43
  rw [nclamp (by omega), hF, hL, if_pos rfl, if_neg (by decide : ¬ (1 : Int32) = 0), if_neg (show ¬ nI s = 11 from fun e => h11 ((nI_eq (b := 11) (by omega) (by decide)).mp e))]
  rfl
theorem c_choice {s : Nat} {c : Int32} (hs : s < 12) : fX0_isChoice (nI s) c = fX6_isChoice (nI s) c ∧ sX0_isChoice (nI s) c := by
  refine ⟨?_, v_of hs (by decide), fun _ => trivial, fun _ => v_of hs (by decide)⟩
  have q : s = 0 ∨ s = 1 ∨ s = 2 ∨ s = 3 ∨ s = 4 ∨ s = 5 ∨ s = 6 ∨ s = 7 ∨ s = 8 ∨ s = 9 ∨ s = 10 ∨ s = 11 := by omega
  have d (s : Nat) (hs : s < 12) (h11 : s ≠ 11) (hF : tFIRST_CHOICE s = 0) (hL : tLAST_CHOICE s = 0) (h8 : ¬ nI s = 8) (h9 : ¬ nI s = 9) (h11' : ¬ nI s = 11) : fX0_isChoice (nI s) c = fX6_isChoice (nI s) c := by
    rw [c_chW hF hL hs h11, w00]
    unfold fX6_isChoice fX6_isChoice_c0
    rw [if_neg h8, if_neg h9]
    by_cases z : nI s = 10
    · rw [if_pos z]
    · rw [if_neg z, if_neg h11']
  rcases q with rfl | rfl | rfl | rfl | rfl | rfl | rfl | rfl | rfl | rfl | rfl | rfl
  · exact d 0 (by decide) (by decide) rfl rfl (by decide) (by decide) (by decide)
  · exact d 1 (by decide) (by decide) rfl rfl (by decide) (by decide) (by decide)
  · exact d 2 (by decide) (by decide) rfl rfl (by decide) (by decide) (by decide)
  · exact d 3 (by decide) (by decide) rfl rfl (by decide) (by decide) (by decide)
  · exact d 4 (by decide) (by decide) rfl rfl (by decide) (by decide) (by decide)
  · exact d 5 (by decide) (by decide) rfl rfl (by decide) (by decide) (by decide)
  · exact d 6 (by decide) (by decide) rfl rfl (by decide) (by decide) (by decide)
  · exact d 7 (by decide) (by decide) rfl rfl (by decide) (by decide) (by decide)
  · rw [c_chW (F := 1) (L := 3) rfl rfl (by decide) (by decide)]
    unfold fX6_isChoice fX6_isChoice_c0
    rw [if_pos (by decide : nI 8 = 8)]
  · rw [c_chW (F := 0) (L := 7) rfl rfl (by decide) (by decide)]
    unfold fX6_isChoice fX6_isChoice_c0
    rw [if_neg (by decide : ¬ nI 9 = 8), if_pos (by decide : nI 9 = 9)]
  · exact d 10 (by decide) (by decide) rfl rfl (by decide) (by decide) (by decide)
  · unfold fX0_isChoice fX0_isChoice_c0 fX0_isChoice_c22 fX0_isChoice_c23 fX0_isChoice_c43 fX6_isChoice fX6_isChoice_c0
    rw [if_neg (by decide : ¬ nI 11 = 8), if_neg (by decide : ¬ nI 11 = 9), if_neg (by decide : ¬ nI 11 = 10), if_pos (by decide : nI 11 = 11), if_pos (by decide : nI 11 = 11), if_pos (rfl : (0 : Int32) = 0), if_neg (by decide : ¬ (1 : Int32) = 0), nclamp (by decide), show tFIRST_CHOICE 11 = 0 from rfl, show tLAST_CHOICE 11 = 24 from rfl]
    unfold fX6_within fX6_within_c0
    by_cases c1 : c < 0
    · rw [if_pos c1, if_pos c1, if_pos (by decide)]
    · rw [if_neg c1, if_neg c1]
      by_cases c2 : 24 < c
      · rw [if_pos c2, if_pos c2, if_pos (by decide)]
      · rw [if_neg c2, if_neg c2, if_neg (by decide : ¬ bI true = 0)]
def plN (s : Nat) : Nat := if s = 4 then 2 else if s = 9 then 2 else if s = 11 then 2 else 1
theorem pl_v {s : Nat} (hs : s < 12) : tPLACES s = nI (plN s) ∧ fX6_placesOf (nI s) = nI (plN s) ∧ plN s ≤ 2 := by
  have q : s = 0 ∨ s = 1 ∨ s = 2 ∨ s = 3 ∨ s = 4 ∨ s = 5 ∨ s = 6 ∨ s = 7 ∨ s = 8 ∨ s = 9 ∨ s = 10 ∨ s = 11 := by omega
  rcases q with rfl | rfl | rfl | rfl | rfl | rfl | rfl | rfl | rfl | rfl | rfl | rfl <;> exact ⟨by decide, by decide, by decide⟩
theorem c_why {a n t s k : Nat} {c : Int32} {h : HH} {g : Nat → Int32} (hn : n ≤ 4) (ht : t < n) (h0 : g 0 = nI n) (h3 : bI (G_over g) = 0 → g 3 = nI t) (ho : (if g 3 = -1 then true else false) = G_over g) (hs : s < 12) (hk : k ≤ plN s) (h50 : g (50 + 3 * s) = nI k) (cg : CG n a h g) : fX0_obstacle a (nI s) c h = G_why n t g s c ∧ sX0_obstacle a (nI s) c h := by
  have o : fX0_isOver a h = G_over g := by
    rw [← ho]
    show (if h a 3 = -1 then true else false) = _
    rw [cg.1 3 (by decide)]
  have pl := pl_v hs
  have vs := v_of hs (by decide : 12 < 1000)
  have C := c_choice (c := c) hs
  have SO : fX0_spaceObstacle a (nI s) h = (if bI (G_over g) = 0 then (if g (50 + 3 * s) = fX6_placesOf (nI s) then 2 else (if nI s = 7 then (if 2 ≤ g 2 then 0 else 3) else 0)) else 1) ∧ sX0_spaceObstacle a (nI s) h := by
    unfold fX0_spaceObstacle fX0_spaceObstacle_c0 sX0_spaceObstacle sX0_spaceObstacle_c0
    rw [o, nclamp (by omega), (cg.2.2 s hs).2.1, pl.1, pl.2.1, h50, cg.1 2 (by decide)]
    refine ⟨?_, fun _ => ⟨vs, vs⟩, fun _ => trivial⟩
    by_cases w : bI (G_over g) = 0
    · rw [if_pos w, if_pos w]
      by_cases e : k = plN s
      · rw [e, if_neg (nI_nlt (by omega) (by omega)), if_pos rfl]
      · rw [if_pos (nI_lt (by omega) (by omega)), if_neg (fun z => e ((nI_eq (by omega) (by omega)).mp z))]
    · rw [if_neg w, if_neg w]
  unfold fX0_obstacle fX0_obstacle_c0 sX0_obstacle sX0_obstacle_c0 G_why
  rw [SO.1, C.1]
  by_cases w : bI (G_over g) = 0
  · rw [if_pos w, if_pos w]
    have a3 : h a 3 = nI t := by rw [cg.1 3 (by decide), h3 w]
    have ht4 : t < 4 := by omega
    have D : (if bI (fX6_isChoice (nI s) c) = 0 then (4 : Int32) else if bI (fX0_isAllowed a (a + 7 + 2 * (h a 3).toNatClampNeg) (nI s) c h) = 0 then 5 else 0) = (if bI (fX6_isChoice (nI s) c) = 0 then 4 else if bI (G_can n t g (nI s) c) = 0 then 5 else 0) ∧ (sX0_isChoice (nI s) c ∧ ((bI (fX6_isChoice (nI s) c) = 0 → True) ∧ (¬ bI (fX6_isChoice (nI s) c) = 0 → (vp_in (h a 3) 4 ∧ sX0_isAllowed a (a + 7 + 2 * (h a 3).toNatClampNeg) (nI s) c h)))) := by
      rw [a3, nclamp (by omega)]
      by_cases z : bI (fX6_isChoice (nI s) c) = 0
      · rw [if_pos z, if_pos z]
        exact ⟨rfl, C.2, fun _ => trivial, fun y => absurd z y⟩
      · have z' : fX6_isChoice (nI s) c = true := by
          cases y : fX6_isChoice (nI s) c
          · rw [y] at z; exact absurd rfl z
          · rfl
        obtain ⟨j, hj, rfl⟩ := ch_j z'
        have j9 : nI s = 9 → j < 8 := fun y => by
          have s9 : s = 9 := (nI_eq (b := 9) (by omega) (by decide)).mp y
          subst s9
          unfold fX6_isChoice fX6_isChoice_c0 at z'
          rw [if_neg (by decide : ¬ nI 9 = 8), if_pos (by decide : nI 9 = 9)] at z'
          obtain ⟨i, _, i2, ei⟩ := (w_in (x := nI j) (a := 0) (b := 7) (by decide) (by decide)).mp z'
          have := (nI_eq (by omega) (by omega)).mp ei
          omega
        have AL := c_allow (s := nI s) hn ht h0 hj j9 cg
        rw [if_neg z, if_neg z, AL.1]
        exact ⟨rfl, C.2, fun y => absurd y z, fun _ => ⟨v_of ht4 (by decide), AL.2⟩⟩
    by_cases f : g (50 + 3 * s) = fX6_placesOf (nI s)
    · rw [if_pos f, if_pos f, if_neg (by decide : ¬ (2 : Int32) = 0)]
      exact ⟨rfl, SO.2, fun y => absurd y (by decide), fun _ => trivial⟩
    · rw [if_neg f, if_neg f]
      by_cases e7 : nI s = 7
      · rw [if_pos e7, if_pos e7]
        by_cases r2 : 2 ≤ g 2
        · rw [if_pos r2, if_pos r2, if_pos rfl]
          exact ⟨D.1, SO.2, fun _ => D.2, fun y => absurd rfl y⟩
        · rw [if_neg r2, if_neg r2, if_neg (by decide : ¬ (3 : Int32) = 0)]
          exact ⟨rfl, SO.2, fun y => absurd y (by decide), fun _ => trivial⟩
      · rw [if_neg e7, if_neg e7, if_pos rfl]
        exact ⟨D.1, SO.2, fun _ => D.2, fun y => absurd rfl y⟩
  · rw [if_neg w, if_neg w, if_neg (by decide : ¬ (1 : Int32) = 0)]
    exact ⟨rfl, SO.2, fun y => absurd y (by decide), fun _ => trivial⟩
