/-! the digest: what it is -/
def mixf (F : Nat → Int32) : Nat → Nat → Int64 → Int64
  | _, 0, y => y
  | k, d + 1, y => mixf F (k + 1) d (fX5_mix y (F k).toInt64)
theorem mixf_0 {F : Nat → Int32} {k : Nat} {y : Int64} : mixf F k 0 y = y := rfl
theorem mixf_s {F : Nat → Int32} {k d : Nat} {y : Int64} : mixf F k (d + 1) y = mixf F (k + 1) d (fX5_mix y (F k).toInt64) := rfl
theorem mixf_add {F : Nat → Int32} : ∀ (d e k : Nat) (y : Int64), mixf F k (d + e) y = mixf F (k + d) e (mixf F k d y)
  | 0, e, k, y => by rw [Nat.zero_add]; rfl
  | d + 1, e, k, y => by
    rw [show d + 1 + e = (d + e) + 1 by omega, mixf_s, mixf_add d e (k + 1), mixf_s, show k + (d + 1) = k + 1 + d by omega]
def dPl (n : Nat) (g : Nat → Int32) (p : Nat) (y : Int64) : Int64 := fX5_mix (fX5_mix (mixf (fun j => P_score (mp g p) (nI j)) 0 6 (fX5_mix (fX5_mix (mixf (mp g p) 0 11 y) (P_need (mp g p)).toInt64) (P_miss (mp g p)).toInt64)) (P_all (mp g p)).toInt64) (grank g p n 0 1).toInt64
def dPs (n : Nat) (g : Nat → Int32) : Nat → Nat → Int64 → Int64
  | _, 0, y => y
  | p, d + 1, y => dPs n g (p + 1) d (dPl n g p y)
def dTail (n t : Nat) (g : Nat → Int32) (q : Nat) (y : Int64) : Int64 := mixf (fun j => g (86 + j)) 0 (4 * q) (fX5_mix (fX5_mix (fX5_mix y (bR (Sroot n t 1 g)).toInt64) (bS (Sroot n t 1 g) 0).toInt64) (nI q).toInt64)
def dMid (n t : Nat) (g : Nat → Int32) (q : Nat) (y : Int64) : Int64 := dTail n t g q (fX5_mix (mixf (fun k => spv g (k / 4) (k % 4)) 0 48 y) (nI (okl n t g).length).toInt64)
-- the component
theorem c_105 {a n p : Nat} {h : HH} {g : Nat → Int32} (hn : n ≤ 4) (hp : p < n) (h0 : g 0 = nI n) (cg : CG n (a + 1) h g) : ∀ (d k f : Nat) (y : Int64), k + d = 6 → fX5_mixPlayer_c105 a (d + f + 1) (nI p) (a + 1 + 7 + 2 * p) y (nI k) h = fX5_mix (fX5_mix (mixf (fun j => P_score (mp g p) (nI j)) k d y) (P_all (mp g p)).toInt64) (grank g p n 0 1).toInt64 ∧ sX5_mixPlayer_c105 a (d + f + 1) (nI p) (a + 1 + 7 + 2 * p) y (nI k) h := by
  have A := c_all (a + 1 + 7 + 2 * p) h
  have R := c_rank (a := a + 1) hn hp h0 cg
  have pv0 := cg.2.1 p hp
  rw [pv0] at A
  intro d
  induction d with
  | zero =>
    intro k f y e
    have c : (6 : Int32) ≤ nI k := nI_le (a := 6) (by omega) (by omega)
    rw [show 0 + f + 1 = f + 1 by omega]
    refine ⟨?_, fun _ => ⟨A.2, R.2⟩, fun q => absurd c q⟩
    show (if (6 : Int32) ≤ nI k then fX5_mix (fX5_mix y (fX2_wholeScore (a + 1 + 7 + 2 * p) h).toInt64) (fX0_rankOf (a + 1) (nI p) h).toInt64 else _) = _
    rw [if_pos c, A.1, R.1, mixf_0]
  | succ d ih =>
    intro k f y e
    have c : ¬ (6 : Int32) ≤ nI k := nI_ge (b := 6) (by omega) (by decide)
    have S := c_score (a + 1 + 7 + 2 * p) (nI k) h
    rw [pv0] at S
    have I := ih (k + 1) f (fX5_mix y (P_score (mp g p) (nI k)).toInt64) (by omega)
    rw [show d + 1 + f + 1 = (d + f + 1) + 1 by omega, mixf_s]
    constructor
    · show (if (6 : Int32) ≤ nI k then _ else fX5_mixPlayer_c105 a (d + f + 1) (nI p) (a + 1 + 7 + 2 * p) (fX5_mix y (fX2_scorePart (a + 1 + 7 + 2 * p) (nI k) h).toInt64) (nI k + 1) h) = _
      rw [if_neg c, S.1, nI_1]
      exact I.1
    · refine ⟨fun q => absurd q c, fun _ => ⟨S.2, ?_⟩⟩
      rw [S.1, nI_1]
      exact I.2
theorem c_48 {a n p : Nat} {B : Int} {h : HH} {g : Nat → Int32} (hB : B ≤ 100000000) (hn : n ≤ 4) (hp : p < n) (h0 : g 0 = nI n) (pi : PI B (mp g p)) (cg : CG n (a + 1) h g) : ∀ (d k f : Nat) (y : Int64), k + d = 6 → fX5_mixPlayer_c48 a (d + f + 1) (nI p) (a + 1 + 7 + 2 * p) y (nI k) h = fX5_mix (fX5_mix (mixf (fun j => P_score (mp g p) (nI j)) 0 6 (fX5_mix (fX5_mix (mixf (fun j => mp g p (5 + j)) k d y) (P_need (mp g p)).toInt64) (P_miss (mp g p)).toInt64)) (P_all (mp g p)).toInt64) (grank g p n 0 1).toInt64 ∧ sX5_mixPlayer_c48 a (d + f + 1) (nI p) (a + 1 + 7 + 2 * p) y (nI k) h := by
  have pv0 := cg.2.1 p hp
  have N : fX2_foodNeeded (a + 1 + 7 + 2 * p) h = P_need (mp g p) := by rw [c_need, pv0]
  have M : fX2_foodMissing (a + 1 + 7 + 2 * p) h = P_miss (mp g p) := by
    rw [← pv0] at pi ⊢
    exact c_missing hB _ h pi
  intro d
  induction d with
  | zero =>
    intro k f y e
    have c : (6 : Int32) ≤ nI k := nI_le (a := 6) (by omega) (by omega)
    rw [show 0 + f + 1 = f + 1 by omega]
    have L := c_105 hn hp h0 cg 6 0 0 (fX5_mix (fX5_mix y (P_need (mp g p)).toInt64) (P_miss (mp g p)).toInt64) (by decide)
    rw [show 6 + 0 + 1 = 7 from rfl, nI_0] at L
    constructor
    · show (if (6 : Int32) ≤ nI k then fX5_mixPlayer_c105 a 7 (nI p) (a + 1 + 7 + 2 * p) (fX5_mix (fX5_mix y (fX2_foodNeeded (a + 1 + 7 + 2 * p) h).toInt64) (fX2_foodMissing (a + 1 + 7 + 2 * p) h).toInt64) 0 h else _) = _
      rw [if_pos c, N, M, mixf_0]
      exact L.1
    · refine ⟨fun _ => ?_, fun q => absurd c q⟩
      show sX5_mixPlayer_c105 a 7 (nI p) (a + 1 + 7 + 2 * p) (fX5_mix (fX5_mix y (fX2_foodNeeded (a + 1 + 7 + 2 * p) h).toInt64) (fX2_foodMissing (a + 1 + 7 + 2 * p) h).toInt64) 0 h
      rw [N, M]
      exact L.2
  | succ d ih =>
    intro k f y e
    have c : ¬ (6 : Int32) ≤ nI k := nI_ge (b := 6) (by omega) (by decide)
    have S : fX2_part (a + 1 + 7 + 2 * p) (nI k) h = mp g p (5 + k) := by rw [c_part _ k (by omega), pv0]
    have I := ih (k + 1) f (fX5_mix y (mp g p (5 + k)).toInt64) (by omega)
    rw [show d + 1 + f + 1 = (d + f + 1) + 1 by omega, mixf_s (F := fun j => mp g p (5 + j)) (k := k) (d := d)]
    constructor
    · show (if (6 : Int32) ≤ nI k then _ else fX5_mixPlayer_c48 a (d + f + 1) (nI p) (a + 1 + 7 + 2 * p) (fX5_mix y (fX2_part (a + 1 + 7 + 2 * p) (nI k) h).toInt64) (nI k + 1) h) = _
      rw [if_neg c, S, nI_1]
      exact I.1
    · refine ⟨fun q => absurd q c, fun _ => ?_⟩
      rw [S, nI_1]
      exact I.2
theorem c_17 {a n p : Nat} {B : Int} {h : HH} {g : Nat → Int32} (hB : B ≤ 100000000) (hn : n ≤ 4) (hp : p < n) (h0 : g 0 = nI n) (pi : PI B (mp g p)) (cg : CG n (a + 1) h g) : ∀ (d k f : Nat) (y : Int64), k + d = 5 → fX5_mixPlayer_c17 a (d + f + 1) (nI p) (a + 1 + 7 + 2 * p) y (nI k) h = fX5_mix (fX5_mix (mixf (fun j => P_score (mp g p) (nI j)) 0 6 (fX5_mix (fX5_mix (mixf (fun j => mp g p (5 + j)) 0 6 (mixf (mp g p) k d y)) (P_need (mp g p)).toInt64) (P_miss (mp g p)).toInt64)) (P_all (mp g p)).toInt64) (grank g p n 0 1).toInt64 ∧ sX5_mixPlayer_c17 a (d + f + 1) (nI p) (a + 1 + 7 + 2 * p) y (nI k) h := by
  have pv0 := cg.2.1 p hp
  intro d
  induction d with
  | zero =>
    intro k f y e
    have c : (5 : Int32) ≤ nI k := nI_le (a := 5) (by omega) (by omega)
    rw [show 0 + f + 1 = f + 1 by omega]
    have L := c_48 hB hn hp h0 pi cg 6 0 0 y (by decide)
    rw [show 6 + 0 + 1 = 7 from rfl, nI_0] at L
    constructor
    · show (if (5 : Int32) ≤ nI k then fX5_mixPlayer_c48 a 7 (nI p) (a + 1 + 7 + 2 * p) y 0 h else _) = _
      rw [if_pos c, mixf_0]
      exact L.1
    · exact ⟨fun _ => L.2, fun q => absurd c q⟩
  | succ d ih =>
    intro k f y e
    have c : ¬ (5 : Int32) ≤ nI k := nI_ge (b := 5) (by omega) (by decide)
    have S : h (a + 1 + 7 + 2 * p + 1) k = mp g p k := by rw [pv_G _ h (by omega), pv0]
    have I := ih (k + 1) f (fX5_mix y (mp g p k).toInt64) (by omega)
    rw [show d + 1 + f + 1 = (d + f + 1) + 1 by omega, mixf_s (F := mp g p) (k := k) (d := d)]
    constructor
    · show (if (5 : Int32) ≤ nI k then _ else fX5_mixPlayer_c17 a (d + f + 1) (nI p) (a + 1 + 7 + 2 * p) (fX5_mix y (h (a + 1 + 7 + 2 * p + 1) (nI k).toNatClampNeg).toInt64) (nI k + 1) h) = _
      rw [if_neg c, nclamp (by omega), S, nI_1]
      exact I.1
    · refine ⟨fun q => absurd q c, fun _ => ⟨v_of (by omega) (by decide), ?_⟩⟩
      rw [nclamp (by omega), S, nI_1]
      exact I.2
theorem mixf_11 {r : Nat → Int32} {y : Int64} : mixf r 0 11 y = mixf (fun j => r (5 + j)) 0 6 (mixf r 0 5 y) := rfl
theorem c_dPl {a n p : Nat} {B : Int} {h : HH} {g : Nat → Int32} {y : Int64} (hB : B ≤ 100000000) (hn : n ≤ 4) (hp : p < n) (h0 : g 0 = nI n) (pi : PI B (mp g p)) (cg : CG n (a + 1) h g) : fX5_mixPlayer a y (nI p) h = dPl n g p y ∧ sX5_mixPlayer a y (nI p) h := by
  have L := c_17 hB hn hp h0 pi cg 5 0 0 y (by decide)
  rw [show 5 + 0 + 1 = 6 from rfl, nI_0] at L
  unfold fX5_mixPlayer fX5_mixPlayer_c0 sX5_mixPlayer sX5_mixPlayer_c0 dPl
  rw [nclamp (by omega), mixf_11]
  exact ⟨L.1, v_of (by omega) (by decide), L.2⟩
-- spaces
theorem c_15 {a n s : Nat} {h : HH} {g : Nat → Int32} {k5 : Int64 → Int32 → HH → Int64} {K5 : Int64 → Int32 → HH → Prop} (hs : s < 12) (cg : CG n (a + 1) h g) : ∀ (d w f : Nat) (y : Int64), w + d = 4 → fX5_mixSpaces_c15 a k5 (d + f + 1) y (nI s) (nI w) h = k5 (mixf (fun k => spv g (k / 4) (k % 4)) (4 * s + w) d y) (nI (s + 1)) h ∧ (K5 (mixf (fun k => spv g (k / 4) (k % 4)) (4 * s + w) d y) (nI (s + 1)) h → sX5_mixSpaces_c15 a K5 (d + f + 1) y (nI s) (nI w) h) := by
  intro d
  induction d with
  | zero =>
    intro w f y e
    have c : (4 : Int32) ≤ nI w := nI_le (a := 4) (by omega) (by omega)
    rw [show 0 + f + 1 = f + 1 by omega, mixf_0]
    constructor
    · show (if (4 : Int32) ≤ nI w then k5 y (nI s + 1) h else _) = _
      rw [if_pos c, nI_1]
    · intro z
      refine ⟨fun _ => ?_, fun q => absurd c q⟩
      rw [nI_1]
      exact z
  | succ d ih =>
    intro w f y e
    have c : ¬ (4 : Int32) ≤ nI w := nI_ge (b := 4) (by omega) (by decide)
    have S := c_spv (a := a + 1) cg hs (show w < 4 by omega)
    have I := ih (w + 1) f (fX5_mix y (spv g s w).toInt64) (by omega)
    rw [show d + 1 + f + 1 = (d + f + 1) + 1 by omega, mixf_s]
    rw [show 4 * s + (w + 1) = 4 * s + w + 1 by omega] at I
    have e1 : spv g ((4 * s + w) / 4) ((4 * s + w) % 4) = spv g s w := by rw [show (4 * s + w) / 4 = s by omega, show (4 * s + w) % 4 = w by omega]
    rw [e1]
    constructor
    · show (if (4 : Int32) ≤ nI w then _ else fX5_mixSpaces_c15 a k5 (d + f + 1) (fX5_mix y (fX0_spacePart (a + 1) (nI s) (nI w) h).toInt64) (nI s) (nI w + 1) h) = _
      rw [if_neg c, S.1, nI_1]
      exact I.1
    · intro z
      refine ⟨fun q => absurd q c, fun _ => ⟨S.2, ?_⟩⟩
      rw [S.1, nI_1]
      exact I.2 z
theorem c_5 {a n : Nat} {h : HH} {g : Nat → Int32} (cg : CG n (a + 1) h g) : ∀ (d s f : Nat) (y : Int64), s + d = 12 → fX5_mixSpaces_c5 a (d + f + 1) y (nI s) h = mixf (fun k => spv g (k / 4) (k % 4)) (4 * s) (4 * d) y ∧ sX5_mixSpaces_c5 a (d + f + 1) y (nI s) h := by
  intro d
  induction d with
  | zero =>
    intro s f y e
    have c : (12 : Int32) ≤ nI s := nI_le (a := 12) (by omega) (by omega)
    rw [show 0 + f + 1 = f + 1 by omega]
    refine ⟨?_, fun _ => trivial, fun q => absurd c q⟩
    show (if (12 : Int32) ≤ nI s then y else _) = _
    rw [if_pos c]
    rfl
  | succ d ih =>
    intro s f y e
    have c : ¬ (12 : Int32) ≤ nI s := nI_ge (b := 12) (by omega) (by decide)
    have I := ih (s + 1) f (mixf (fun k => spv g (k / 4) (k % 4)) (4 * s) 4 y) (by omega)
    have L := c_15 (k5 := fX5_mixSpaces_c5 a (d + f + 1)) (K5 := sX5_mixSpaces_c5 a (d + f + 1)) (show s < 12 by omega) cg 4 0 0 y (by decide)
    rw [Nat.add_zero] at L
    rw [show d + 1 + f + 1 = (d + f + 1) + 1 by omega, show 4 * (d + 1) = 4 + 4 * d by omega, mixf_add 4 (4 * d)]
    rw [show 4 * (s + 1) = 4 * s + 4 by omega] at I
    constructor
    · show (if (12 : Int32) ≤ nI s then y else fX5_mixSpaces_c15 a (fX5_mixSpaces_c5 a (d + f + 1)) 5 y (nI s) (nI 0) h) = _
      rw [if_neg c]
      exact L.1.trans I.1
    · exact ⟨fun q => absurd q c, fun _ => L.2 I.2⟩
theorem c_sps {a n : Nat} {h : HH} {g : Nat → Int32} {y : Int64} (cg : CG n (a + 1) h g) : fX5_mixSpaces a y h = mixf (fun k => spv g (k / 4) (k % 4)) 0 48 y ∧ sX5_mixSpaces a y h := by
  have L := c_5 cg 12 0 0 y (by decide)
  exact L
-- history
theorem c_37 {a i qn : Nat} {h : HH} {g : Nat → Int32} {k5 : Int64 → Int32 → HH → Int64} {K5 : Int64 → Int32 → HH → Prop} (hi : i < qn) (hist : ∀ i, i < qn → ∀ w, w < 4 → fX1_part (a + 1 + 5) (nI i) (nI w) h = g (86 + 4 * i + w) ∧ sX1_part (a + 1 + 5) (nI i) (nI w) h) : ∀ (d w f : Nat) (y : Int64), w + d = 4 → fX5_mixHistory_c37 a k5 (d + f + 1) y (nI i) (nI w) h = k5 (mixf (fun j => g (86 + j)) (4 * i + w) d y) (nI (i + 1)) h ∧ (K5 (mixf (fun j => g (86 + j)) (4 * i + w) d y) (nI (i + 1)) h → sX5_mixHistory_c37 a K5 (d + f + 1) y (nI i) (nI w) h) := by
  intro d
  induction d with
  | zero =>
    intro w f y e
    have c : (4 : Int32) ≤ nI w := nI_le (a := 4) (by omega) (by omega)
    rw [show 0 + f + 1 = f + 1 by omega, mixf_0]
    constructor
    · show (if (4 : Int32) ≤ nI w then k5 y (nI i + 1) h else _) = _
      rw [if_pos c, nI_1]
    · intro z
      refine ⟨fun _ => ?_, fun q => absurd c q⟩
      rw [nI_1]
      exact z
  | succ d ih =>
    intro w f y e
    have c : ¬ (4 : Int32) ≤ nI w := nI_ge (b := 4) (by omega) (by decide)
    have S := hist i hi w (by omega)
    have I := ih (w + 1) f (fX5_mix y (g (86 + 4 * i + w)).toInt64) (by omega)
    rw [show d + 1 + f + 1 = (d + f + 1) + 1 by omega, mixf_s]
    rw [show 4 * i + (w + 1) = 4 * i + w + 1 by omega] at I
    have e1 : g (86 + (4 * i + w)) = g (86 + 4 * i + w) := by rw [Nat.add_assoc]
    rw [e1]
    constructor
    · show (if (4 : Int32) ≤ nI w then _ else fX5_mixHistory_c37 a k5 (d + f + 1) (fX5_mix y (fX1_part (a + 1 + 5) (nI i) (nI w) h).toInt64) (nI i) (nI w + 1) h) = _
      rw [if_neg c, S.1, nI_1]
      exact I.1
    · intro z
      refine ⟨fun q => absurd q c, fun _ => ⟨S.2, ?_⟩⟩
      rw [S.1, nI_1]
      exact I.2 z
theorem c_19 {a qn : Nat} {h : HH} {g : Nat → Int32} (hq : qn ≤ 30) (e2 : h (a + 1 + 5) 2 = nI qn) (hist : ∀ i, i < qn → ∀ w, w < 4 → fX1_part (a + 1 + 5) (nI i) (nI w) h = g (86 + 4 * i + w) ∧ sX1_part (a + 1 + 5) (nI i) (nI w) h) : ∀ (d i f : Nat) (y : Int64), i + d = qn → fX5_mixHistory_c19 a (d + f + 1) y (nI i) h = mixf (fun j => g (86 + j)) (4 * i) (4 * d) y ∧ sX5_mixHistory_c19 a (d + f + 1) y (nI i) h := by
  intro d
  induction d with
  | zero =>
    intro i f y e
    have c : h (a + 1 + 5) 2 ≤ nI i := by rw [e2]; exact nI_le (by omega) (by omega)
    rw [show 0 + f + 1 = f + 1 by omega]
    refine ⟨?_, fun _ => trivial, fun q => absurd c q⟩
    show (if h (a + 1 + 5) 2 ≤ nI i then y else _) = _
    rw [if_pos c]
    rfl
  | succ d ih =>
    intro i f y e
    have c : ¬ h (a + 1 + 5) 2 ≤ nI i := by rw [e2]; exact nI_ge (by omega) (by omega)
    have I := ih (i + 1) f (mixf (fun j => g (86 + j)) (4 * i) 4 y) (by omega)
    have L := c_37 (k5 := fX5_mixHistory_c19 a (d + f + 1)) (K5 := sX5_mixHistory_c19 a (d + f + 1)) (show i < qn by omega) hist 4 0 0 y (by decide)
    rw [Nat.add_zero] at L
    rw [show d + 1 + f + 1 = (d + f + 1) + 1 by omega, show 4 * (d + 1) = 4 + 4 * d by omega, mixf_add 4 (4 * d)]
    rw [show 4 * (i + 1) = 4 * i + 4 by omega] at I
    constructor
    · show (if h (a + 1 + 5) 2 ≤ nI i then y else fX5_mixHistory_c37 a (fX5_mixHistory_c19 a (d + f + 1)) 5 y (nI i) (nI 0) h) = _
      rw [if_neg c]
      exact L.1.trans I.1
    · exact ⟨fun q => absurd q c, fun _ => L.2 I.2⟩
theorem c_hst {a qn : Nat} {h : HH} {g : Nat → Int32} {y : Int64} (hq : qn ≤ 30) (e2 : h (a + 1 + 5) 2 = nI qn) (hist : ∀ i, i < qn → ∀ w, w < 4 → fX1_part (a + 1 + 5) (nI i) (nI w) h = g (86 + 4 * i + w) ∧ sX1_part (a + 1 + 5) (nI i) (nI w) h) : fX5_mixHistory a y h = mixf (fun j => g (86 + j)) 0 (4 * qn) (fX5_mix y (nI qn).toInt64) ∧ sX5_mixHistory a y h := by
  have L := c_19 hq e2 hist qn 0 (30 - qn) (fX5_mix y (nI qn).toInt64) (by omega)
  rw [show qn + (30 - qn) + 1 = 31 by omega] at L
  unfold fX5_mixHistory fX5_mixHistory_c0 sX5_mixHistory sX5_mixHistory_c0
  rw [e2]
  exact L
-- the whole
theorem c_82 {a n t qn : Nat} {B : Int} {h : HH} {g : Nat → Int32} (hB : B + 120 ≤ 70000000) (gi : GI B n g) (tk : TK n t g) (cg : CG n (a + 1) h g) (ch : CH (a + 1) h g) (eq : g 85 = nI qn) (hqn : qn ≤ 30) : ∀ (d p f : Nat) (y : Int64), p + d = n → ∃ hF, fX5_digest_c82 a (d + f + 1) y (nI p) h = (dMid n t g qn (dPs n g p d y), hF) ∧ sX5_digest_c82 a (d + f + 1) y (nI p) h ∧ Out (a + 78) (a + 110) h hF := by
  have hn4 := gi.2.1
  have g0 := gi.2.2.1
  have e0 : h (a + 1) 0 = nI n := by rw [cg.1 0 (by decide), g0]
  intro d
  induction d with
  | zero =>
    intro p f y e
    have c : h (a + 1) 0 ≤ nI p := by rw [e0]; exact nI_le (by omega) (by omega)
    have Sp := c_sps (y := y) cg
    have L := c_list (a := a + 1) (r := a + 109) tk.1 (by omega) cg
    obtain ⟨h1, e1⟩ : ∃ h1, wr (a + 109) (okl n t g) 0 h = h1 := ⟨_, rfl⟩
    rw [e1] at L
    have f1 (q : Nat) (hq : q ≠ a + 109) : h1 q = h q := by rw [← e1, wr_o hq]
    have cg1 : CG n (a + 1) h1 g := CG_fr hn4 (fun q q1 q2 => f1 q (by omega)) cg
    have ch1 : CH (a + 1) h1 g := CH_h (f1 _ (by omega)) (f1 _ (by omega)) ch
    have R := c_run (a := a + 78) (r := a + 1) (D := 1) (by decide) hB (by omega) gi tk cg1
    have R : BC (a + 78) (fX3_run (a + 78) (a + 1) 1 h1) (Sroot n t 1 g) ∧ sX3_run (a + 78) (a + 1) 1 h1 ∧ Out (a + 78) (a + 78 + 31) h1 (fX3_run (a + 78) (a + 1) 1 h1) := R
    obtain ⟨h2, e2⟩ : ∃ h2, fX3_run (a + 78) (a + 1) 1 h1 = h2 := ⟨_, rfl⟩
    rw [e2] at R
    have ch2 : CH (a + 1) h2 g := CH_h (R.2.2 _ (by omega)) (R.2.2 _ (by omega)) ch1
    obtain ⟨q', hq', k2, k85, hist⟩ := c_hist ch2
    have : q' = qn := by
      rw [eq] at k85
      exact ((nI_eq (by omega) (by omega)).mp k85).symm
    subst this
    have V := BC_res R.1
    have W : fX3_bestStep (a + 78) 0 h2 = bS (Sroot n t 1 g) 0 ∧ sX3_bestStep (a + 78) 0 h2 := BC_stp (i := 0) (by decide) R.1
    have H := c_hst (y := fX5_mix (fX5_mix (fX5_mix (mixf (fun k => spv g (k / 4) (k % 4)) 0 48 y) (nI (okl n t g).length).toInt64) (bR (Sroot n t 1 g)).toInt64) (bS (Sroot n t 1 g) 0).toInt64) hq' k2 hist
    rw [show 0 + f + 1 = f + 1 by omega]
    refine ⟨h2, ?_, ⟨fun _ => ⟨Sp.2, L.2, ?_⟩, fun q => absurd c q⟩, out_tr (fun q hq => f1 q (by omega)) (out_mono (by omega) (by omega) R.2.2)⟩
    · show (if h (a + 1) 0 ≤ nI p then fX5_digest_c124 a ((fX0_listPlacements (a + 1) (a + 109) h).1) (fX5_mixSpaces a y h) ((fX0_listPlacements (a + 1) (a + 109) h).2) else _) = _
      rw [if_pos c, L.1, Sp.1]
      unfold fX5_digest_c124 fX5_digest_c146
      rw [e2, V, W.1, H.1]
      rfl
    · rw [L.1, Sp.1]
      unfold sX5_digest_c124 sX5_digest_c146
      rw [e2, V, W.1]
      exact ⟨R.2.1, W.2, H.2⟩
  | succ d ih =>
    intro p f y e
    have c : ¬ h (a + 1) 0 ≤ nI p := by rw [e0]; exact nI_ge (by omega) (by omega)
    have D := c_dPl (y := y) (B := B) (by omega) hn4 (show p < n by omega) g0 (gi.2.2.2.2.2.2.1 p (by omega)) cg
    obtain ⟨hF, i1, i2, i3⟩ := ih (p + 1) f (dPl n g p y) (by omega)
    rw [show d + 1 + f + 1 = (d + f + 1) + 1 by omega]
    refine ⟨hF, ?_, ⟨fun q => absurd q c, fun _ => ⟨D.2, ?_⟩⟩, i3⟩
    · show (if h (a + 1) 0 ≤ nI p then _ else fX5_digest_c82 a (d + f + 1) (fX5_mixPlayer a y (nI p) h) (nI p + 1) h) = _
      rw [if_neg c, D.1, nI_1]
      exact i1
    · rw [D.1, nI_1]
      exact i2
