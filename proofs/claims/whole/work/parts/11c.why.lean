/-! what is possible, on the model's row -/
/-- the model's owner: the last one -/
def mown (g : Nat → Int32) (b : Int32) : Nat → Nat → Int32 → Int32
  | 0, _, x => x
  | d + 1, p, x => mown g b d (p + 1) (if bI (P_has (mp g p) b) = 0 then x else nI p)
def G_own (n : Nat) (g : Nat → Int32) (b : Int32) : Int32 := mown g b n 0 (-1)
theorem m_own_loop {m n : Nat} {b : Int32} {h : HH} (hn : n ≤ 4) (h0 : h (m + 1) 0 = nI n) : ∀ (d p f : Nat) (x : Int32), p + d = n → fX6_ownerOf_c4 m (d + f + 1) b x (nI p) h = mown (h (m + 1)) b d p x ∧ sX6_ownerOf_c4 m (d + f + 1) b x (nI p) h := by
  intro d
  induction d with
  | zero =>
    intro p f x e
    have c : h (m + 1) 0 ≤ nI p := by rw [h0]; exact nI_le (by omega) (by omega)
    rw [show 0 + f + 1 = f + 1 by omega]
    exact ⟨if_pos c, fun _ => trivial, fun q => absurd c q⟩
  | succ d ih =>
    intro p f x e
    have c : ¬ h (m + 1) 0 ≤ nI p := by rw [h0]; exact nI_ge (by omega) (by omega)
    have hp : p < 4 := by omega
    have I (x : Int32) := ih (p + 1) f x (by omega)
    rw [show d + 1 + f + 1 = (d + f + 1) + 1 by omega]
    constructor
    · show (if h (m + 1) 0 ≤ nI p then x else (if bI (fX6_has m (nI p) b h) = 0 then fX6_ownerOf_c4 m (d + f + 1) b x (nI p + 1) h else fX6_ownerOf_c4 m (d + f + 1) b (nI p) (nI p + 1) h)) = mown (h (m + 1)) b d (p + 1) (if bI (P_has (mp (h (m + 1)) p) b) = 0 then x else nI p)
      rw [if_neg c, m_has hp, nI_1, (I x).1, (I (nI p)).1]
      split <;> rfl
    · refine ⟨fun q => absurd q c, fun _ => ⟨m_shas hp, fun _ => ?_, fun _ => ?_⟩⟩
      · show sX6_ownerOf_c4 m (d + f + 1) b x (nI p + 1) h
        rw [nI_1]
        exact (I x).2
      · show sX6_ownerOf_c4 m (d + f + 1) b (nI p) (nI p + 1) h
        rw [nI_1]
        exact (I (nI p)).2
theorem m_own {m n : Nat} {b : Int32} {h : HH} (hn : n ≤ 4) (h0 : h (m + 1) 0 = nI n) : fX6_ownerOf m b h = G_own n (h (m + 1)) b ∧ sX6_ownerOf m b h := by
  have := m_own_loop (b := b) hn h0 n 0 (4 - n) (-1) (by omega)
  rw [show n + (4 - n) + 1 = 5 by omega] at this
  exact this
def G_can (n t : Nat) (g : Nat → Int32) (s c : Int32) : Bool :=
  if s = 6 then (if 5 ≤ mp g t 8 then false else (if bI (P_canPay (mp g t) (-1)) = 0 then false else true))
  else if s = 7 then P_canGrow (mp g t)
  else if s = 8 then (if mp g t 2 < c then false else true)
  else if s = 9 then (if G_own n g c = -1 then (if bI (P_canPay (mp g t) c) = 0 then false else true) else false)
  else if s = 10 then true
  else if s = 11 then (if mp g t (c / 5).toNatClampNeg < 2 then false else true)
  else true
theorem m_can {m n t j : Nat} {h : HH} (hn : n ≤ 4) (h0 : h (m + 1) 0 = nI n) (ht : t < 4) (hj : j < 25) (s : Int32) : fX6_canAct m (nI t) s (nI j) h = G_can n t (h (m + 1)) s (nI j) ∧ sX6_canAct m (nI t) s (nI j) h := by
  have O := m_own (b := nI j) hn h0
  have e := (j5 hj).1
  have e' := (j5c hj).1
  constructor
  · unfold fX6_canAct fX6_canAct_c0 fX6_canAct_c103 G_can
    rw [m_canPay ht, m_canPay ht, m_g8 ht, m_g5 ht, m_g2 ht, m_has ht, O.1, e', e, m_get ht (by omega)]
    have g : (if 5 ≤ mp (h (m + 1)) t 5 then false else if bI (P_has (mp (h (m + 1)) t) 4) = 0 then (if mp (h (m + 1)) t 8 + 0 ≤ mp (h (m + 1)) t 5 then false else true) else if mp (h (m + 1)) t 8 + 1 ≤ mp (h (m + 1)) t 5 then false else true) = P_canGrow (mp (h (m + 1)) t) := by
      unfold P_canGrow
      by_cases c : bI (P_has (mp (h (m + 1)) t) 4) = 0
      · rw [if_pos c, if_pos c]
      · rw [if_neg c, if_neg c]
    rw [g]
  · unfold sX6_canAct sX6_canAct_c0
    have q : sX6_get m (nI t) (nI j / 5) h := by rw [e]; exact m_sget ht (by omega)
    simp only [m_s8 ht, m_s5 ht, m_s2 ht, m_shas ht, m_scanPay ht, O.2, q, implies_true, and_self]
theorem w_in {x : Int32} {a b : Nat} (ha : a < 2147483648) (hb : b < 2147483648) : fX6_within x (nI a) (nI b) = true ↔ ∃ j : Nat, a ≤ j ∧ j ≤ b ∧ x = nI j := by
  show (if x < nI a then false else if nI b < x then false else true) = true ↔ _
  constructor
  · intro h
    by_cases c : x < nI a
    · rw [if_pos c] at h; cases h
    · rw [if_neg c] at h
      by_cases d : nI b < x
      · rw [if_pos d] at h; cases h
      · have c' : ¬ x.toInt < (nI a).toInt := fun q => c (ti_lt.mpr q)
        have d' : ¬ (nI b).toInt < x.toInt := fun q => d (ti_lt.mpr q)
        rw [ti_nI ha] at c'
        rw [ti_nI hb] at d'
        exact ⟨x.toInt.toNat, by omega, by omega, ti_of (by omega)⟩
  · rintro ⟨j, h1, h2, rfl⟩
    rw [if_neg (nI_nlt h1 (by omega)), if_neg (nI_nlt h2 (by omega))]
theorem w_0 {x : Int32} {a b : Nat} (ha : a < 2147483648) (hb : b < 2147483648) : fX6_within x (nI a) (nI b) = true ∨ fX6_within x (nI a) (nI b) = false := by
  cases fX6_within x (nI a) (nI b)
  · exact Or.inr rfl
  · exact Or.inl rfl
theorem ch_j {s c : Int32} (h : fX6_isChoice s c = true) : ∃ j : Nat, j < 25 ∧ c = nI j := by
  have z : ∀ c, fX6_isChoice_c72 c = true → ∃ j : Nat, j < 25 ∧ c = nI j := by
    intro c h
    unfold fX6_isChoice_c72 at h
    by_cases q : c = 0
    · exact ⟨0, by decide, q⟩
    · rw [if_neg q] at h; cases h
  unfold fX6_isChoice fX6_isChoice_c0 at h
  by_cases c8 : s = 8
  · rw [if_pos c8] at h
    obtain ⟨j, _, h2, e⟩ := (w_in (x := c) (a := 1) (b := 3) (by decide) (by decide)).mp h
    exact ⟨j, by omega, e⟩
  rw [if_neg c8] at h
  by_cases c9 : s = 9
  · rw [if_pos c9] at h
    obtain ⟨j, _, h2, e⟩ := (w_in (x := c) (a := 0) (b := 7) (by decide) (by decide)).mp h
    exact ⟨j, by omega, e⟩
  rw [if_neg c9] at h
  by_cases c10 : s = 10
  · rw [if_pos c10] at h
    exact z c h
  rw [if_neg c10] at h
  by_cases c11 : s = 11
  · rw [if_pos c11] at h
    by_cases w : bI (fX6_within c 0 24) = 0
    · rw [if_pos w] at h; cases h
    · have w' : fX6_within c (nI 0) (nI 24) = true := by
        rcases w_0 (x := c) (a := 0) (b := 24) (by decide) (by decide) with q | q
        · exact q
        · exact absurd (by show bI (fX6_within c (nI 0) (nI 24)) = 0; rw [q]; rfl) w
      obtain ⟨j, _, h2, e⟩ := (w_in (x := c) (a := 0) (b := 24) (by decide) (by decide)).mp w'
      exact ⟨j, by omega, e⟩
  rw [if_neg c11] at h
  exact z c h
def G_over (g : Nat → Int32) : Bool := if g 2 ≤ g 1 then false else true
def G_why (n t : Nat) (g : Nat → Int32) (s : Nat) (c : Int32) : Int32 :=
  if bI (G_over g) = 0 then (if g (50 + 3 * s) = fX6_placesOf (nI s) then 2 else (if nI s = 7 then (if 2 ≤ g 2 then (if bI (fX6_isChoice (nI s) c) = 0 then 4 else if bI (G_can n t g (nI s) c) = 0 then 5 else 0) else 3) else (if bI (fX6_isChoice (nI s) c) = 0 then 4 else if bI (G_can n t g (nI s) c) = 0 then 5 else 0))) else 1
theorem m_why {m n t s : Nat} {c : Int32} {h : HH} (hn : n ≤ 4) (h0 : h (m + 1) 0 = nI n) (ht : t < 4) (h3 : bI (G_over (h (m + 1))) = 0 → h (m + 1) 3 = nI t) (hs : s < 12) : fX6_why m (nI s) c h = G_why n t (h (m + 1)) s c ∧ sX6_why m (nI s) c h := by
  unfold fX6_why fX6_why_c0 sX6_why sX6_why_c0 G_why
  rw [(sa1 hs).1, show fX6_isOver m h = G_over (h (m + 1)) from rfl]
  by_cases o : bI (G_over (h (m + 1))) = 0
  · have A : fX6_why_c46 m (nI s) c h = (if bI (fX6_isChoice (nI s) c) = 0 then 4 else if bI (G_can n t (h (m + 1)) (nI s) c) = 0 then 5 else 0) ∧ sX6_why_c46 m (nI s) c h := by
      unfold fX6_why_c46 sX6_why_c46
      rw [h3 o]
      by_cases q : bI (fX6_isChoice (nI s) c) = 0
      · rw [if_pos q, if_pos q]
        exact ⟨rfl, fun _ => trivial, fun w => absurd q w⟩
      · have q' : fX6_isChoice (nI s) c = true := by
          cases w : fX6_isChoice (nI s) c
          · rw [w] at q; exact absurd rfl q
          · rfl
        obtain ⟨j, hj, rfl⟩ := ch_j q'
        have C := m_can hn h0 ht hj (nI s)
        rw [if_neg q, if_neg q, C.1]
        exact ⟨rfl, fun w => absurd w q, fun _ => C.2⟩
    rw [if_pos o, if_pos o, A.1]
    exact ⟨rfl, fun _ => ⟨(sa1 hs).2, fun _ => trivial, fun _ => ⟨fun _ => ⟨fun _ => A.2, fun _ => trivial⟩, fun _ => A.2⟩⟩, fun q => absurd o q⟩
  · rw [if_neg o, if_neg o]
    exact ⟨rfl, fun q => absurd q o, fun _ => trivial⟩
