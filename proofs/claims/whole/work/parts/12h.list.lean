/-! the list of possible placements -/
def OKg (n t : Nat) (g : Nat → Int32) : Prop := n ≤ 4 ∧ t < n ∧ g 0 = nI n ∧ (bI (G_over g) = 0 → g 3 = nI t) ∧ ((if g 3 = -1 then true else false) = G_over g) ∧ ∀ s, s < 12 → ∃ k, k ≤ plN s ∧ g (50 + 3 * s) = nI k
def G_so (g : Nat → Int32) (s : Nat) : Int32 := if bI (G_over g) = 0 then (if g (50 + 3 * s) = fX6_placesOf (nI s) then 2 else (if nI s = 7 then (if 2 ≤ g 2 then 0 else 3) else 0)) else 1
theorem c_so {a n t s : Nat} {h : HH} {g : Nat → Int32} (ok : OKg n t g) (hs : s < 12) (cg : CG n a h g) : fX0_spaceObstacle a (nI s) h = G_so g s ∧ sX0_spaceObstacle a (nI s) h := by
  obtain ⟨hn, ht, h0, h3, ho, hk⟩ := ok
  obtain ⟨k, hk, h50⟩ := hk s hs
  have o : fX0_isOver a h = G_over g := by
    rw [← ho]
    show (if h a 3 = -1 then true else false) = _
    rw [cg.1 3 (by decide)]
  have pl := pl_v hs
  have vs := v_of hs (by decide : 12 < 1000)
  unfold fX0_spaceObstacle fX0_spaceObstacle_c0 sX0_spaceObstacle sX0_spaceObstacle_c0 G_so
  rw [o, nclamp (by omega), (cg.2.2 s hs).2.1, pl.1, pl.2.1, h50, cg.1 2 (by decide)]
  refine ⟨?_, fun _ => ⟨vs, vs⟩, fun _ => trivial⟩
  by_cases w : bI (G_over g) = 0
  · rw [if_pos w, if_pos w]
    by_cases e : k = plN s
    · rw [e, if_neg (nI_nlt (by omega) (by omega)), if_pos rfl]
    · rw [if_pos (nI_lt (by omega) (by omega)), if_neg (fun z => e ((nI_eq (by omega) (by omega)).mp z))]
  · rw [if_neg w, if_neg w]
theorem why_0 {n t s : Nat} {g : Nat → Int32} {c : Int32} : (if G_why n t g s c = 0 then true else false) = (if G_so g s = 0 then (if bI (fX6_isChoice (nI s) c) = 0 then false else if bI (G_can n t g (nI s) c) = 0 then false else true) else false) := by
  have D : (if (if bI (fX6_isChoice (nI s) c) = 0 then (4 : Int32) else if bI (G_can n t g (nI s) c) = 0 then 5 else 0) = 0 then true else false) = (if bI (fX6_isChoice (nI s) c) = 0 then false else if bI (G_can n t g (nI s) c) = 0 then false else true) := by
    by_cases x : bI (fX6_isChoice (nI s) c) = 0
    · rw [if_pos x, if_pos x]; decide
    · rw [if_neg x, if_neg x]
      by_cases y : bI (G_can n t g (nI s) c) = 0
      · rw [if_pos y, if_pos y]; decide
      · rw [if_neg y, if_neg y]; decide
  unfold G_why G_so
  by_cases w : bI (G_over g) = 0
  · rw [if_pos w, if_pos w]
    by_cases f : g (50 + 3 * s) = fX6_placesOf (nI s)
    · rw [if_pos f, if_pos f, if_neg (by decide : ¬ (2 : Int32) = 0), if_neg (by decide : ¬ (2 : Int32) = 0)]
    · rw [if_neg f, if_neg f]
      by_cases e7 : nI s = 7
      · rw [if_pos e7, if_pos e7]
        by_cases r2 : 2 ≤ g 2
        · rw [if_pos r2, if_pos r2, if_pos (rfl : (0 : Int32) = 0), D]
        · rw [if_neg r2, if_neg r2, if_neg (by decide : ¬ (3 : Int32) = 0), if_neg (by decide : ¬ (3 : Int32) = 0)]
      · rw [if_neg e7, if_neg e7, if_pos (rfl : (0 : Int32) = 0), D]
  · rw [if_neg w, if_neg w, if_neg (by decide : ¬ (1 : Int32) = 0), if_neg (by decide : ¬ (1 : Int32) = 0)]
def okfrom (n t : Nat) (g : Nat → Int32) : Nat → Nat → List Nat
  | 0, _ => []
  | d + 1, k => if G_ok n t g k = true then k :: okfrom n t g d (k + 1) else okfrom n t g d (k + 1)
theorem okfrom_add {n t : Nat} {g : Nat → Int32} : ∀ (d e k : Nat), okfrom n t g (d + e) k = okfrom n t g d k ++ okfrom n t g e (k + d)
  | 0, e, k => by rw [Nat.zero_add]; rfl
  | d + 1, e, k => by
    rw [show d + 1 + e = (d + e) + 1 by omega]
    show (if G_ok n t g k = true then k :: okfrom n t g (d + e) (k + 1) else okfrom n t g (d + e) (k + 1)) = (if G_ok n t g k = true then k :: okfrom n t g d (k + 1) else okfrom n t g d (k + 1)) ++ okfrom n t g e (k + (d + 1))
    rw [okfrom_add d e (k + 1), show k + 1 + d = k + (d + 1) by omega]
    split <;> rfl
theorem okfrom_nil {n t : Nat} {g : Nat → Int32} : ∀ (d k : Nat), (∀ i, i < d → G_ok n t g (k + i) = false) → okfrom n t g d k = []
  | 0, _, _ => rfl
  | d + 1, k, h => by
    show (if G_ok n t g k = true then k :: okfrom n t g d (k + 1) else okfrom n t g d (k + 1)) = []
    have h0 := h 0 (by omega)
    rw [Nat.add_zero] at h0
    rw [h0, if_neg (by decide)]
    exact okfrom_nil d (k + 1) (fun i hi => by have := h (i + 1) (by omega); rw [show k + (i + 1) = k + 1 + i by omega] at this; exact this)
theorem gnext_v {n t : Nat} {g : Nat → Int32} : ∀ (d k : Nat), gnext n t g d k = match okfrom n t g d k with | [] => -1 | x :: _ => nI x
  | 0, _ => rfl
  | d + 1, k => by
    show (if G_ok n t g k = true then nI k else gnext n t g d (k + 1)) = _
    by_cases c : G_ok n t g k = true
    · have : okfrom n t g (d + 1) k = k :: okfrom n t g d (k + 1) := if_pos c
      rw [if_pos c, this]
    · have : okfrom n t g (d + 1) k = okfrom n t g d (k + 1) := if_neg c
      rw [if_neg c, this]
      exact gnext_v d (k + 1)
def told (k : Nat) : Nat := 100 * (k / 25) + k % 25
def wr (r : Nat) : List Nat → Nat → HH → HH
  | [], _, h => h
  | k :: ks, i, h => wr r ks (i + 1) (hset h r i (nI (told k)))
theorem wr_add {r : Nat} : ∀ (L M : List Nat) (i : Nat) (h : HH), wr r (L ++ M) i h = wr r M (i + L.length) (wr r L i h)
  | [], M, i, h => rfl
  | k :: L, M, i, h => by
    show wr r (L ++ M) (i + 1) (hset h r i (nI (told k))) = _
    rw [wr_add L M (i + 1) _, show i + (k :: L).length = i + 1 + L.length by rw [List.length_cons]; omega]
    rfl
theorem wr_o {r q : Nat} (hq : q ≠ r) : ∀ (L : List Nat) (i : Nat) (h : HH), wr r L i h q = h q
  | [], _, _ => rfl
  | k :: L, i, h => by
    show wr r L (i + 1) (hset h r i (nI (told k))) q = h q
    rw [wr_o hq L (i + 1) _, hset_o _ _ _ _ hq]
def isCh (k : Nat) : Bool := fX6_isChoice (nI (k / 25)) (nI (k % 25))
def nch : Nat → Nat
  | 0 => 0
  | k + 1 => nch k + (if isCh k = true then 1 else 0)
theorem nch_300 : nch 300 = 40 := by decide +kernel
theorem nch_mono : ∀ (d k : Nat), nch k ≤ nch (k + d)
  | 0, _ => Nat.le_refl _
  | d + 1, k => by
    have := nch_mono d k
    show nch k ≤ nch (k + d) + _
    omega
theorem ok_ch {n t k : Nat} {g : Nat → Int32} (h : G_ok n t g k = true) : isCh k = true := by
  unfold G_ok at h
  rw [why_0] at h
  unfold isCh
  by_cases x : bI (fX6_isChoice (nI (k / 25)) (nI (k % 25))) = 0
  · rw [if_pos x] at h
    split at h <;> cases h
  · cases y : fX6_isChoice (nI (k / 25)) (nI (k % 25))
    · rw [y] at x; exact absurd rfl x
    · rfl
