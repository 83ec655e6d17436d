/-! the moves noted, placements and skips, the next code, on the model's row -/
def G_shift (g : Nat → Int32) : Nat → Int32 := fun x => if 86 ≤ x ∧ x < 202 then g (x + 4) else g x
def shf : Nat → Nat → (Nat → Int32) → (Nat → Int32)
  | _, 0, g => g
  | k, d + 1, g => shf (k + 1) d (upd g k (g (k + 4)))
theorem shf_v : ∀ (d k : Nat) (g : Nat → Int32) (x : Nat), shf k d g x = if k ≤ x ∧ x < k + d then g (x + 4) else g x
  | 0, k, g, x => by rw [if_neg (by omega)]; rfl
  | d + 1, k, g, x => by
    show shf (k + 1) d (upd g k (g (k + 4))) x = _
    rw [shf_v d (k + 1) _ x]
    by_cases c1 : x = k
    · subst c1
      rw [if_neg (by omega), upd_s, if_pos (by omega)]
    · rw [upd_o c1]
      by_cases c3 : k + 1 ≤ x ∧ x < k + 1 + d
      · rw [if_pos c3, if_pos (by omega), upd_o (by omega)]
      · rw [if_neg c3, if_neg (by omega)]
def G_put (q : Nat) (g : Nat → Int32) (s c : Int32) : Nat → Int32 := upd (upd (upd (upd (upd g (86 + 4 * q) (g 2)) (87 + 4 * q) (g 3)) (88 + 4 * q) s) (89 + 4 * q) c) 85 (nI (q + 1))
def G_notes (q : Nat) (g : Nat → Int32) (s c : Int32) : Nat → Int32 := if q = 30 then G_put 29 (upd (G_shift g) 85 (nI 29)) s c else G_put q g s c
theorem v206 {k : Nat} (h : k < 206) : vp_in (nI k) 206 := ti_vp (by rw [ti_nI (by omega)]; omega) (by rw [ti_nI (by omega)]; omega)
theorem m_lay {m q : Nat} {s c : Int32} {h : HH} (hq : q < 30) (h85 : h (m + 1) 85 = nI q) : fX6_notes_c53 m s c h = hrow h (m + 1) (G_put q (h (m + 1)) s c) ∧ sX6_notes_c53 m s c h := by
  obtain ⟨g, eg⟩ : ∃ g, h (m + 1) = g := ⟨_, rfl⟩
  have e0 : (86 : Int32) + 4 * h (m + 1) 85 = nI (86 + 4 * q) := by
    rw [h85, show (4 : Int32) = nI 4 from rfl, show nI 4 * nI q = nI (4 * q) from (Int32.ofNat_mul _ _).symm]
    exact nI_add 86 (4 * q)
  have e1 : nI (86 + 4 * q) + 1 = nI (87 + 4 * q) := by rw [nI_1]; congr 1; omega
  have e2 : nI (86 + 4 * q) + 2 = nI (88 + 4 * q) := by rw [show (2 : Int32) = nI 2 from rfl, nI_add]; congr 1; omega
  have e3 : nI (86 + 4 * q) + 3 = nI (89 + 4 * q) := by rw [show (3 : Int32) = nI 3 from rfl, nI_add]; congr 1; omega
  have k0 : (nI (86 + 4 * q)).toNatClampNeg = 86 + 4 * q := nI_clamp (by omega)
  have k1 : (nI (87 + 4 * q)).toNatClampNeg = 87 + 4 * q := nI_clamp (by omega)
  have k2 : (nI (88 + 4 * q)).toNatClampNeg = 88 + 4 * q := nI_clamp (by omega)
  have k3 : (nI (89 + 4 * q)).toNatClampNeg = 89 + 4 * q := nI_clamp (by omega)
  have k85 : (85 : Int32).toNatClampNeg = 85 := by decide
  have kk3 : (3 : Int32).toNatClampNeg = 3 := by decide
  unfold fX6_notes_c53 sX6_notes_c53 fX6_notes_c90 sX6_notes_c90 fX6_notes_c117 sX6_notes_c117
  rw [e0, e1, e2, e3, k0, k1, k2, k3, k85, kk3]
  refine ⟨?_, v206 (by omega), vpd (by decide), v206 (by omega), v206 (by omega), v206 (by omega), vpd (by decide), vpd (by decide)⟩
  unfold G_put
  simp only [hset_row, hrow_s, hrow_hrow, upd_o (by omega : (3 : Nat) ≠ 86 + 4 * q), upd_o (by omega : (85 : Nat) ≠ 86 + 4 * q), upd_o (by omega : (85 : Nat) ≠ 87 + 4 * q), upd_o (by omega : (85 : Nat) ≠ 88 + 4 * q), upd_o (by omega : (85 : Nat) ≠ 89 + 4 * q)]
  rw [h85, nI_1]
theorem m_shift_loop {m : Nat} {s c : Int32} : ∀ (d k f : Nat) (h : HH), 86 ≤ k → h (m + 1) 85 = nI 30 → k + d = 202 → fX6_notes_c15 m (d + f + 1) s c (nI k) h = hrow h (m + 1) (G_put 29 (upd (shf k d (h (m + 1))) 85 (nI 29)) s c) ∧ sX6_notes_c15 m (d + f + 1) s c (nI k) h := by
  intro d
  induction d with
  | zero =>
    intro k f h hk h85 e
    have c1 : (202 : Int32) ≤ nI k := nI_le (a := 202) (by omega) (by omega)
    have E : hset h (m + 1) 85 (h (m + 1) 85 - 1) = hrow h (m + 1) (upd (h (m + 1)) 85 (nI 29)) := by
      rw [hset_row, h85, show nI 30 - 1 = nI 29 by decide]
    have P := m_lay (m := m) (q := 29) (s := s) (c := c) (h := hrow h (m + 1) (upd (h (m + 1)) 85 (nI 29))) (by decide) (by rw [hrow_s, upd_s])
    rw [hrow_s, hrow_hrow] at P
    rw [show 0 + f + 1 = f + 1 by omega]
    constructor
    · show (if (202 : Int32) ≤ nI k then fX6_notes_c53 m s c (hset h (m + 1) 85 (h (m + 1) 85 - 1)) else _) = _
      rw [if_pos c1, E]
      exact P.1
    · refine ⟨fun _ => ?_, fun q => absurd c1 q⟩
      rw [E]
      exact P.2
  | succ d ih =>
    intro k f h hk h85 e
    have c1 : ¬ (202 : Int32) ≤ nI k := nI_ge (b := 202) (by omega) (by decide)
    have I := ih (k + 1) f (hrow h (m + 1) (upd (h (m + 1)) k (h (m + 1) (k + 4)))) (by omega) (by rw [hrow_s, upd_o (by omega), h85]) (by omega)
    rw [hrow_s, hrow_hrow] at I
    have e4 : nI k + 4 = nI (k + 4) := nI_add k 4
    have E : hset h (m + 1) (nI k).toNatClampNeg (h (m + 1) (nI k + 4).toNatClampNeg) = hrow h (m + 1) (upd (h (m + 1)) k (h (m + 1) (k + 4))) := by
      rw [e4, nI_clamp (by omega), nI_clamp (by omega), hset_row]
    rw [show d + 1 + f + 1 = (d + f + 1) + 1 by omega]
    constructor
    · show (if (202 : Int32) ≤ nI k then _ else fX6_notes_c15 m (d + f + 1) s c (nI k + 1) (hset h (m + 1) (nI k).toNatClampNeg (h (m + 1) (nI k + 4).toNatClampNeg))) = _
      rw [if_neg c1, E, nI_1]
      exact I.1
    · refine ⟨fun q => absurd q c1, fun _ => ⟨?_, v206 (by omega), ?_⟩⟩
      · rw [e4]
        exact v206 (by omega)
      · rw [E, nI_1]
        exact I.2
theorem m_notes {m q : Nat} {s c : Int32} {h : HH} (hq : q ≤ 30) (h85 : h (m + 1) 85 = nI q) : fX6_notes m s c h = hrow h (m + 1) (G_notes q (h (m + 1)) s c) ∧ sX6_notes m s c h := by
  unfold fX6_notes fX6_notes_c0 sX6_notes sX6_notes_c0 G_notes
  by_cases e : q = 30
  · have c1 : h (m + 1) 85 = 30 := by rw [h85, e]; rfl
    have L := m_shift_loop (m := m) (s := s) (c := c) 116 86 0 h (by decide) (by rw [h85, e]) (by decide)
    have z : shf 86 116 (h (m + 1)) = G_shift (h (m + 1)) := by
      funext x
      rw [shf_v]
      rfl
    rw [z] at L
    rw [if_pos c1, if_pos e]
    exact ⟨L.1, fun _ => L.2, fun q => absurd c1 q⟩
  · have c1 : ¬ h (m + 1) 85 = 30 := by
      rw [h85]
      exact fun w => e ((nI_eq (b := 30) (by omega) (by decide)).mp w)
    have P := m_lay (m := m) (s := s) (c := c) (h := h) (by omega : q < 30) h85
    rw [if_neg c1, if_neg e]
    exact ⟨P.1, fun w => absurd w c1, fun _ => P.2⟩
theorem put_lo {q k : Nat} {g : Nat → Int32} {s c : Int32} (hk : k < 85) : G_put q g s c k = g k := by
  unfold G_put
  rw [upd_o (by omega), upd_o (by omega), upd_o (by omega), upd_o (by omega), upd_o (by omega)]
theorem notes_lo {q k : Nat} {g : Nat → Int32} {s c : Int32} (hk : k < 85) : G_notes q g s c k = g k := by
  unfold G_notes
  split
  · rw [put_lo hk, upd_o (by omega)]
    exact if_neg (by omega)
  · exact put_lo hk
def G_places (n t q s : Nat) (c : Int32) (g : Nat → Int32) : Nat → Int32 := G_goesOn n t (G_comes t s c (G_notes q g (nI s) c))
def G_skips (n t q : Nat) (g : Nat → Int32) : Nat → Int32 := G_goesOn n t (ps (G_notes q g (-1) 0) t (upd (mp (G_notes q g (-1) 0) t) 7 0))
theorem G_tk_lo {t s k : Nat} {g : Nat → Int32} (hk : k < 4) : G_tk t s g k = g k := by
  unfold G_tk
  split
  · exact upd_o (by omega)
  · split
    · exact upd_o (by omega)
    · rfl
theorem comes_lo {t s k : Nat} {c : Int32} {g : Nat → Int32} (hk : k < 4) : G_comes t s c g k = g k := by
  unfold G_comes G_sp
  rw [ps_lo (by omega), G_tk_lo hk, upd_o (by omega)]
  split
  · exact upd_o (by omega)
  · rfl
theorem m_places {m n t q s j : Nat} {h : HH} (hn0 : 2 ≤ n) (hn : n ≤ 4) (ht : t < n) (h0 : h (m + 1) 0 = nI n) (h3 : h (m + 1) 3 = nI t) (hq : q ≤ 30) (h85 : h (m + 1) 85 = nI q) (hs : s < 12) (hj : j < 25) : fX6_places m (nI s) (nI j) h = hrow h (m + 1) (G_places n t q s (nI j) (h (m + 1))) ∧ sX6_places m (nI s) (nI j) h := by
  have N := m_notes (m := m) (s := nI s) (c := nI j) hq h85
  obtain ⟨g1, e1⟩ : ∃ g1, G_notes q (h (m + 1)) (nI s) (nI j) = g1 := ⟨_, rfl⟩
  have a0 : g1 0 = nI n := by rw [← e1, notes_lo (by decide), h0]
  have a3 : g1 3 = nI t := by rw [← e1, notes_lo (by decide), h3]
  rw [e1] at N
  have C := m_comes (m := m) (t := t) (s := s) (j := j) (h := hrow h (m + 1) g1) (by omega) (by rw [hrow_s, a3]) hs hj
  rw [hrow_s, hrow_hrow] at C
  have O := m_on (m := m) (n := n) (t := t) (h := hrow h (m + 1) (G_comes t s (nI j) g1)) hn0 hn ht (by rw [hrow_s, comes_lo (by decide), a0]) (by rw [hrow_s, comes_lo (by decide), a3])
  rw [hrow_s, hrow_hrow] at O
  unfold fX6_places fX6_places_c0 fX6_places_c9 fX6_places_c13 sX6_places sX6_places_c0 sX6_places_c9 sX6_places_c13 G_places
  rw [N.1, C.1, e1]
  exact ⟨O.1, N.2, C.2, O.2⟩
theorem m_skips {m n t q : Nat} {h : HH} (hn0 : 2 ≤ n) (hn : n ≤ 4) (ht : t < n) (h0 : h (m + 1) 0 = nI n) (h3 : h (m + 1) 3 = nI t) (hq : q ≤ 30) (h85 : h (m + 1) 85 = nI q) : fX6_skips m h = hrow h (m + 1) (G_skips n t q (h (m + 1))) ∧ sX6_skips m h := by
  have N := m_notes (m := m) (s := -1) (c := 0) hq h85
  obtain ⟨g1, e1⟩ : ∃ g1, G_notes q (h (m + 1)) (-1) 0 = g1 := ⟨_, rfl⟩
  have a0 : g1 0 = nI n := by rw [← e1, notes_lo (by decide), h0]
  have a3 : g1 3 = nI t := by rw [← e1, notes_lo (by decide), h3]
  rw [e1] at N
  have k3 : (3 : Int32).toNatClampNeg = 3 := by decide
  have ht4 : t < 4 := by omega
  have P := m_p7 (m := m) (p := t) (v := 0) (h := hrow h (m + 1) g1) ht4
  rw [hrow_s, hrow_hrow] at P
  have O := m_on (m := m) (n := n) (t := t) (h := hrow h (m + 1) (ps g1 t (upd (mp g1 t) 7 0))) hn0 hn ht (by rw [hrow_s, ps_lo (by decide), a0]) (by rw [hrow_s, ps_lo (by decide), a3])
  rw [hrow_s, hrow_hrow] at O
  unfold fX6_skips fX6_skips_c0 fX6_skips_c15 fX6_skips_c24 sX6_skips sX6_skips_c0 sX6_skips_c15 sX6_skips_c24 G_skips
  rw [N.1, e1, k3, hrow_s, a3, P]
  exact ⟨O.1, N.2, vpd (by decide), m_v7 ht4, O.2⟩
-- the next code
def G_ok (n t : Nat) (g : Nat → Int32) (k : Nat) : Bool := if G_why n t g (k / 25) (nI (k % 25)) = 0 then true else false
def gnext (n t : Nat) (g : Nat → Int32) : Nat → Nat → Int32
  | 0, _ => -1
  | d + 1, k => if G_ok n t g k = true then nI k else gnext n t g d (k + 1)
theorem m_next_loop {m n t : Nat} {h : HH} (hn : n ≤ 4) (h0 : h (m + 1) 0 = nI n) (ht : t < 4) (h3 : bI (G_over (h (m + 1))) = 0 → h (m + 1) 3 = nI t) : ∀ (d k f : Nat), k + d = 300 → fX6_nextCode_c4 m (d + f + 1) (nI k) h = gnext n t (h (m + 1)) d k ∧ sX6_nextCode_c4 m (d + f + 1) (nI k) h := by
  intro d
  induction d with
  | zero =>
    intro k f e
    have c : (300 : Int32) ≤ nI k := nI_le (a := 300) (by omega) (by omega)
    rw [show 0 + f + 1 = f + 1 by omega]
    exact ⟨if_pos c, fun _ => trivial, fun q => absurd c q⟩
  | succ d ih =>
    intro k f e
    have c : ¬ (300 : Int32) ≤ nI k := nI_ge (b := 300) (by omega) (by decide)
    have W := m_why (m := m) (n := n) (t := t) (s := k / 25) (c := nI (k % 25)) (h := h) hn h0 ht h3 (by omega)
    have e1 : nI k / 25 = nI (k / 25) := by
      refine ti_eq ?_
      rw [ti_div (by rw [ti_nI (by omega)]; omega) (by decide), ti_nI (by omega), ti_nI (by omega), show ((25 : Int32)).toInt = 25 from rfl]
      omega
    have e2 : jrem (nI k) 25 = nI (k % 25) := jrem_n (b := 25) (by omega) (by decide) (by decide)
    have I := ih (k + 1) f (by omega)
    rw [show d + 1 + f + 1 = (d + f + 1) + 1 by omega]
    constructor
    · show (if (300 : Int32) ≤ nI k then _ else (if fX6_why m (nI k / 25) (jrem (nI k) 25) h = 0 then nI k else fX6_nextCode_c4 m (d + f + 1) (nI k + 1) h)) = (if G_ok n t (h (m + 1)) k = true then nI k else gnext n t (h (m + 1)) d (k + 1))
      rw [if_neg c, e1, e2, W.1, nI_1, I.1]
      unfold G_ok
      by_cases w : G_why n t (h (m + 1)) (k / 25) (nI (k % 25)) = 0
      · rw [if_pos w, if_pos w, if_pos rfl]
      · rw [if_neg w, if_neg w, if_neg (by decide)]
    · refine ⟨fun q => absurd q c, fun _ => ?_⟩
      rw [e1, e2, nI_1]
      exact ⟨W.2, fun _ => trivial, fun _ => I.2⟩
theorem m_next {m n t k : Nat} {x : Int32} {h : HH} (hn : n ≤ 4) (h0 : h (m + 1) 0 = nI n) (ht : t < 4) (h3 : bI (G_over (h (m + 1))) = 0 → h (m + 1) 3 = nI t) (hk : k ≤ 300) (hx : x + 1 = nI k) : fX6_nextCode m x h = gnext n t (h (m + 1)) (300 - k) k ∧ sX6_nextCode m x h := by
  have L := m_next_loop hn h0 ht h3 (300 - k) k k (by omega)
  rw [show 300 - k + k + 1 = 301 by omega, ← hx] at L
  exact L
