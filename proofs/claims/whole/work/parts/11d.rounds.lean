/-! rounds, moves and ranks on the model's row -/
theorem m_all {m p : Nat} {h : HH} (hp : p < 4) : fX6_allOf m (nI p) h = P_all (mp (h (m + 1)) p) ∧ sX6_allOf m (nI p) h := by
  have s (x : Int32) := m_score (m := m) (h := h) hp x
  constructor
  · unfold fX6_allOf fX6_allOf_c0 P_all
    rw [(s 0).1, (s 1).1, (s 2).1, (s 3).1, (s 4).1, (s 5).1]
  · exact ⟨(s 0).2, (s 1).2, (s 2).2, (s 3).2, (s 4).2, (s 5).2⟩
/-- a change of each player in turn -/
def pfrom (F : Nat → (Nat → Int32) → (Nat → Int32)) : Nat → Nat → (Nat → Int32) → (Nat → Int32)
  | _, 0, g => g
  | p, d + 1, g => pfrom F (p + 1) d (ps g p (F p (mp g p)))
theorem pfrom_out {F : Nat → (Nat → Int32) → (Nat → Int32)} : ∀ (d p : Nat) (g : Nat → Int32) (k : Nat), p + d ≤ 4 → (k < 5 ∨ 49 ≤ k) → pfrom F p d g k = g k
  | 0, _, _, _, _, _ => rfl
  | d + 1, p, g, k, h1, h2 => by
    show pfrom F (p + 1) d (ps g p (F p (mp g p))) k = g k
    rw [pfrom_out d (p + 1) _ k (by omega) h2]
    rcases h2 with h2 | h2
    · exact ps_lo h2
    · exact ps_hi (by omega) h2
theorem pfrom_mp {F : Nat → (Nat → Int32) → (Nat → Int32)} (hF : ∀ p r, Cut r → Cut (F p r)) : ∀ (d p : Nat) (g : Nat → Int32) (q : Nat), mp (pfrom F p d g) q = if p ≤ q ∧ q < p + d then F q (mp g q) else mp g q
  | 0, p, g, q => by rw [if_neg (by omega)]; rfl
  | d + 1, p, g, q => by
    show mp (pfrom F (p + 1) d (ps g p (F p (mp g p)))) q = _
    rw [pfrom_mp hF d (p + 1) _ q]
    by_cases e : q = p
    · subst e
      rw [if_neg (by omega), if_pos (by omega), mp_ps_s (hF _ _ (mp_cut _ _))]
    · rw [mp_ps_o e]
      by_cases c : p + 1 ≤ q ∧ q < p + 1 + d
      · rw [if_pos c, if_pos (by omega)]
      · rw [if_neg c, if_neg (by omega)]
/-- the spaces made free -/
def sfrom : Nat → Nat → (Nat → Int32) → (Nat → Int32)
  | _, 0, g => g
  | s, d + 1, g => sfrom (s + 1) d (upd (upd g (50 + 3 * s) 0) (51 + 3 * s) (-1))
theorem sfrom_v : ∀ (d s : Nat) (g : Nat → Int32) (k : Nat), sfrom s d g k = if 49 + 3 * s ≤ k ∧ k < 49 + 3 * (s + d) then (if k % 3 = 2 then 0 else if k % 3 = 0 then -1 else g k) else g k
  | 0, s, g, k => by rw [if_neg (by omega)]; rfl
  | d + 1, s, g, k => by
    show sfrom (s + 1) d (upd (upd g (50 + 3 * s) 0) (51 + 3 * s) (-1)) k = _
    rw [sfrom_v d (s + 1) _ k]
    by_cases c1 : k = 50 + 3 * s
    · subst c1
      rw [if_neg (by omega), upd_o (by omega), upd_s, if_pos (by omega), if_pos (by omega)]
    · by_cases c2 : k = 51 + 3 * s
      · subst c2
        rw [if_neg (by omega), upd_s, if_pos (by omega), if_neg (by omega), if_pos (by omega)]
      · rw [upd_o c2, upd_o c1]
        by_cases c3 : 49 + 3 * (s + 1) ≤ k ∧ k < 49 + 3 * (s + 1 + d)
        · rw [if_pos c3, if_pos (show 49 + 3 * s ≤ k ∧ k < 49 + 3 * (s + (d + 1)) by omega)]
        · rw [if_neg c3]
          by_cases c4 : 49 + 3 * s ≤ k ∧ k < 49 + 3 * (s + (d + 1))
          · rw [if_pos c4, if_neg (by omega), if_neg (by omega)]
          · rw [if_neg c4]
def G_sup (g : Nat → Int32) : Nat → Int32 := upd (upd (upd (upd (upd g 2 (g 2 + 1)) 49 (g 49 + 3)) 52 (g 52 + 2)) 58 (g 58 + 1)) 64 (g 64 + 1)
def G_start (n : Nat) (g : Nat → Int32) : Nat → Int32 := upd (pfrom (fun _ => P_start) 0 n (sfrom 0 12 (G_sup g))) 3 (g 4)
theorem m_st_loop {m n : Nat} (hn : n ≤ 4) : ∀ (d p f : Nat) (h : HH), h (m + 1) 0 = nI n → p + d = n → fX6_startsRound_c104 m (d + f + 1) (nI p) h = hrow h (m + 1) (upd (pfrom (fun _ => P_start) p d (h (m + 1))) 3 (h (m + 1) 4)) ∧ sX6_startsRound_c104 m (d + f + 1) (nI p) h := by
  intro d
  induction d with
  | zero =>
    intro p f h h0 e
    have c : h (m + 1) 0 ≤ nI p := by rw [h0]; exact nI_le (by omega) (by omega)
    rw [show 0 + f + 1 = f + 1 by omega]
    exact ⟨if_pos c, fun _ => trivial, fun q => absurd c q⟩
  | succ d ih =>
    intro p f h h0 e
    have c : ¬ h (m + 1) 0 ≤ nI p := by rw [h0]; exact nI_ge (by omega) (by omega)
    have hp : p < 4 := by omega
    obtain ⟨g, eg⟩ : ∃ g, h (m + 1) = g := ⟨_, rfl⟩
    have A : ∀ w, w = (if bI (P_has (mp g p) 5) = 0 then (0 : Int32) else 1) → fX6_startsRound_c131 m (fX6_startsRound_c104 m (d + f + 1)) (nI p) w 4 (nI p) h = hrow h (m + 1) (upd (pfrom (fun _ => P_start) (p + 1) d (ps g p (P_start (mp g p)))) 3 (g 4)) ∧ sX6_startsRound_c131 m (sX6_startsRound_c104 m (d + f + 1)) (nI p) w 4 (nI p) h := by
      intro w ew
      have c1 : Cut (upd (mp g p) 4 (mp g p 4 + w)) := cut_upd (mp_cut _ _) (by decide)
      have c2 : Cut (upd (upd (mp g p) 4 (mp g p 4 + w)) 6 0) := cut_upd c1 (by decide)
      have e3 : hset (hset (fX6_gets m (nI p) 4 w h) (m + 1) (fX6_at (nI p) 6).toNatClampNeg 0) (m + 1) (fX6_at (nI p) 7).toNatClampNeg (fX6_get m (nI p) 5 (hset (fX6_gets m (nI p) 4 w h) (m + 1) (fX6_at (nI p) 6).toNatClampNeg 0)) = hrow h (m + 1) (ps g p (P_start (mp g p))) := by
        rw [m_i4 hp, m_p6 hp, hrow_s, hrow_hrow, ps_ps, eg, mp_ps_s c1, m_p7 hp, m_g5 hp, hrow_s, hrow_hrow, ps_ps, mp_ps_s c2, upd_o (by decide : (5 : Nat) ≠ 6), upd_o (by decide : (5 : Nat) ≠ 4)]
        unfold P_start
        rw [← ew]
      have I := ih (p + 1) f (hrow h (m + 1) (ps g p (P_start (mp g p)))) (by rw [hrow_s, ps_lo (by decide), ← eg, h0]) (by omega)
      rw [hrow_s, hrow_hrow, ps_lo (by decide)] at I
      constructor
      · show fX6_startsRound_c104 m (d + f + 1) (nI p + 1) (hset (hset (fX6_gets m (nI p) 4 w h) (m + 1) (fX6_at (nI p) 6).toNatClampNeg 0) (m + 1) (fX6_at (nI p) 7).toNatClampNeg (fX6_get m (nI p) 5 (hset (fX6_gets m (nI p) 4 w h) (m + 1) (fX6_at (nI p) 6).toNatClampNeg 0))) = _
        rw [e3, nI_1]
        exact I.1
      · refine ⟨m_si4 hp, m_v6 hp, m_s5 hp, m_v7 hp, ?_⟩
        show sX6_startsRound_c104 m (d + f + 1) (nI p + 1) (hset (hset (fX6_gets m (nI p) 4 w h) (m + 1) (fX6_at (nI p) 6).toNatClampNeg 0) (m + 1) (fX6_at (nI p) 7).toNatClampNeg (fX6_get m (nI p) 5 (hset (fX6_gets m (nI p) 4 w h) (m + 1) (fX6_at (nI p) 6).toNatClampNeg 0)))
        rw [e3, nI_1]
        exact I.2
    rw [show d + 1 + f + 1 = (d + f + 1) + 1 by omega]
    constructor
    · show (if h (m + 1) 0 ≤ nI p then _ else (if bI (fX6_has m (nI p) 5 h) = 0 then _ else _)) = _
      rw [if_neg c, m_has hp, eg]
      by_cases w : bI (P_has (mp g p) 5) = 0
      · rw [if_pos w]
        exact (A 0 (if_pos w).symm).1
      · rw [if_neg w]
        exact (A 1 (if_neg w).symm).1
    · refine ⟨fun q => absurd q c, fun _ => ⟨m_shas hp, ?_⟩⟩
      rw [m_has hp, eg]
      exact ⟨fun w => (A 0 (if_pos w).symm).2, fun w => (A 1 (if_neg w).symm).2⟩
theorem m_sp_loop {m n : Nat} (hn : n ≤ 4) : ∀ (d s f : Nat) (h : HH), h (m + 1) 0 = nI n → s + d = 12 → fX6_startsRound_c68 m (d + f + 1) (nI s) h = hrow h (m + 1) (upd (pfrom (fun _ => P_start) 0 n (sfrom s d (h (m + 1)))) 3 (h (m + 1) 4)) ∧ sX6_startsRound_c68 m (d + f + 1) (nI s) h := by
  intro d
  induction d with
  | zero =>
    intro s f h h0 e
    have c : (12 : Int32) ≤ nI s := nI_le (a := 12) (by omega) (by omega)
    have L := m_st_loop (m := m) hn n 0 (4 - n) h h0 (by omega)
    rw [show n + (4 - n) + 1 = 5 by omega] at L
    rw [show 0 + f + 1 = f + 1 by omega]
    exact ⟨(if_pos c).trans L.1, fun _ => L.2, fun q => absurd c q⟩
  | succ d ih =>
    intro s f h h0 e
    have hs : s < 12 := by omega
    have c : ¬ (12 : Int32) ≤ nI s := nI_ge (b := 12) hs (by decide)
    have e3 : hset (hset h (m + 1) (fX6_spaceAt (nI s) 1).toNatClampNeg 0) (m + 1) (fX6_spaceAt (nI s) 2).toNatClampNeg (-1) = hrow h (m + 1) (upd (upd (h (m + 1)) (50 + 3 * s) 0) (51 + 3 * s) (-1)) := by
      rw [(sa1 hs).1, (sa2 hs).1, hset_row, hset_row, hrow_s, hrow_hrow]
    have I := ih (s + 1) f (hrow h (m + 1) (upd (upd (h (m + 1)) (50 + 3 * s) 0) (51 + 3 * s) (-1))) (by rw [hrow_s, upd_o (by omega), upd_o (by omega), h0]) (by omega)
    rw [hrow_s, hrow_hrow, upd_o (by omega), upd_o (by omega)] at I
    rw [show d + 1 + f + 1 = (d + f + 1) + 1 by omega]
    constructor
    · show (if (12 : Int32) ≤ nI s then _ else fX6_startsRound_c68 m (d + f + 1) (nI s + 1) (hset (hset h (m + 1) (fX6_spaceAt (nI s) 1).toNatClampNeg 0) (m + 1) (fX6_spaceAt (nI s) 2).toNatClampNeg (-1))) = _
      rw [if_neg c, e3, nI_1]
      exact I.1
    · refine ⟨fun q => absurd q c, fun _ => ⟨(sa1 hs).2, (sa2 hs).2, ?_⟩⟩
      rw [e3, nI_1]
      exact I.2
theorem m_start {m n : Nat} {h : HH} (hn : n ≤ 4) (h0 : h (m + 1) 0 = nI n) : fX6_startsRound m h = hrow h (m + 1) (G_start n (h (m + 1))) ∧ sX6_startsRound m h := by
  obtain ⟨g, eg⟩ : ∃ g, h (m + 1) = g := ⟨_, rfl⟩
  have w (s : Nat) (hs : s < 12) := sa0 hs
  have z0 : (fX6_spaceAt 0 0).toNatClampNeg = 49 ∧ vp_in (fX6_spaceAt 0 0) 206 := sa0 (s := 0) (by decide)
  have z1 : (fX6_spaceAt 1 0).toNatClampNeg = 52 ∧ vp_in (fX6_spaceAt 1 0) 206 := sa0 (s := 1) (by decide)
  have z3 : (fX6_spaceAt 3 0).toNatClampNeg = 58 ∧ vp_in (fX6_spaceAt 3 0) 206 := sa0 (s := 3) (by decide)
  have z5 : (fX6_spaceAt 5 0).toNatClampNeg = 64 ∧ vp_in (fX6_spaceAt 5 0) 206 := sa0 (s := 5) (by decide)
  obtain ⟨h5, e5⟩ : ∃ h5, hrow h (m + 1) (G_sup g) = h5 := ⟨_, rfl⟩
  have L := m_sp_loop (m := m) hn 12 0 0 (hrow h (m + 1) (G_sup g)) (by
    rw [hrow_s]
    unfold G_sup
    rw [upd_o (by decide), upd_o (by decide), upd_o (by decide), upd_o (by decide), upd_o (by decide), ← eg, h0]) (by decide)
  have g4 : G_sup g 4 = g 4 := by
    unfold G_sup
    rw [upd_o (by decide), upd_o (by decide), upd_o (by decide), upd_o (by decide), upd_o (by decide)]
  rw [hrow_s, hrow_hrow, g4] at L
  have E : hset (hset (hset (hset (hset h (m + 1) 2 (h (m + 1) 2 + 1)) (m + 1) 49 (hset h (m + 1) 2 (h (m + 1) 2 + 1) (m + 1) 49 + 3)) (m + 1) 52 (hset (hset h (m + 1) 2 (h (m + 1) 2 + 1)) (m + 1) 49 (hset h (m + 1) 2 (h (m + 1) 2 + 1) (m + 1) 49 + 3) (m + 1) 52 + 2)) (m + 1) 58 (hset (hset (hset h (m + 1) 2 (h (m + 1) 2 + 1)) (m + 1) 49 (hset h (m + 1) 2 (h (m + 1) 2 + 1) (m + 1) 49 + 3)) (m + 1) 52 (hset (hset h (m + 1) 2 (h (m + 1) 2 + 1)) (m + 1) 49 (hset h (m + 1) 2 (h (m + 1) 2 + 1) (m + 1) 49 + 3) (m + 1) 52 + 2) (m + 1) 58 + 1)) (m + 1) 64 (hset (hset (hset (hset h (m + 1) 2 (h (m + 1) 2 + 1)) (m + 1) 49 (hset h (m + 1) 2 (h (m + 1) 2 + 1) (m + 1) 49 + 3)) (m + 1) 52 (hset (hset h (m + 1) 2 (h (m + 1) 2 + 1)) (m + 1) 49 (hset h (m + 1) 2 (h (m + 1) 2 + 1) (m + 1) 49 + 3) (m + 1) 52 + 2)) (m + 1) 58 (hset (hset (hset h (m + 1) 2 (h (m + 1) 2 + 1)) (m + 1) 49 (hset h (m + 1) 2 (h (m + 1) 2 + 1) (m + 1) 49 + 3)) (m + 1) 52 (hset (hset h (m + 1) 2 (h (m + 1) 2 + 1)) (m + 1) 49 (hset h (m + 1) 2 (h (m + 1) 2 + 1) (m + 1) 49 + 3) (m + 1) 52 + 2) (m + 1) 58 + 1) (m + 1) 64 + 1) = hrow h (m + 1) (G_sup g) := by
    unfold G_sup
    simp only [hset_row, hrow_s, hrow_hrow, eg, upd_o (by decide : (49 : Nat) ≠ 2), upd_o (by decide : (52 : Nat) ≠ 2), upd_o (by decide : (58 : Nat) ≠ 2), upd_o (by decide : (64 : Nat) ≠ 2), upd_o (by decide : (52 : Nat) ≠ 49), upd_o (by decide : (58 : Nat) ≠ 49), upd_o (by decide : (64 : Nat) ≠ 49), upd_o (by decide : (58 : Nat) ≠ 52), upd_o (by decide : (64 : Nat) ≠ 52), upd_o (by decide : (64 : Nat) ≠ 58)]
  rw [eg]
  unfold fX6_startsRound fX6_startsRound_c0 fX6_startsRound_c20 fX6_startsRound_c34 fX6_startsRound_c48 fX6_startsRound_c62 sX6_startsRound sX6_startsRound_c0 sX6_startsRound_c20 sX6_startsRound_c34 sX6_startsRound_c48 sX6_startsRound_c62
  rw [z0.1, z1.1, z3.1, z5.1, E]
  exact ⟨L.1, z0.2, z0.2, z1.2, z1.2, z3.2, z3.2, z5.2, z5.2, L.2⟩
def G_zero (g : Nat → Int32) : Nat → Int32 := fun k => if k < 206 then 0 else g k
def P_ini (p : Nat) (r : Nat → Int32) : Nat → Int32 := upd (upd (upd r 4 (if nI p = 0 then 2 else 3)) 5 2) 8 2
def G_begin (n : Nat) (R : Int32) (g : Nat → Int32) : Nat → Int32 := G_start n (pfrom P_ini 0 n (upd (upd (G_zero g) 0 (nI n)) 1 R))
def zfrom : Nat → Nat → (Nat → Int32) → (Nat → Int32)
  | _, 0, g => g
  | k, d + 1, g => zfrom (k + 1) d (upd g k 0)
theorem zfrom_v : ∀ (d k : Nat) (g : Nat → Int32) (x : Nat), zfrom k d g x = if k ≤ x ∧ x < k + d then 0 else g x
  | 0, k, g, x => by rw [if_neg (by omega)]; rfl
  | d + 1, k, g, x => by
    show zfrom (k + 1) d (upd g k 0) x = _
    rw [zfrom_v d (k + 1) _ x]
    by_cases c1 : x = k
    · subst c1
      rw [if_neg (by omega), upd_s, if_pos (by omega)]
    · rw [upd_o c1]
      by_cases c3 : k + 1 ≤ x ∧ x < k + 1 + d
      · rw [if_pos c3, if_pos (by omega)]
      · rw [if_neg c3, if_neg (by omega)]
theorem cut_ini (p : Nat) (r : Nat → Int32) (c : Cut r) : Cut (P_ini p r) := cut_upd (cut_upd (cut_upd c (by decide)) (by decide)) (by decide)
theorem m_ini_loop {m n : Nat} (hn : n ≤ 4) : ∀ (d p f : Nat) (h : HH), h (m + 1) 0 = nI n → p + d = n → fX6_begins_c38 m (d + f + 1) (nI n) (nI p) h = hrow h (m + 1) (G_start n (pfrom P_ini p d (h (m + 1)))) ∧ sX6_begins_c38 m (d + f + 1) (nI n) (nI p) h := by
  intro d
  induction d with
  | zero =>
    intro p f h h0 e
    have c : nI n ≤ nI p := nI_le (by omega) (by omega)
    have S := m_start (m := m) (h := h) hn h0
    rw [show 0 + f + 1 = f + 1 by omega]
    exact ⟨(if_pos c).trans S.1, fun _ => S.2, fun q => absurd c q⟩
  | succ d ih =>
    intro p f h h0 e
    have c : ¬ nI n ≤ nI p := nI_ge (by omega) (by omega)
    have hp : p < 4 := by omega
    obtain ⟨g, eg⟩ : ∃ g, h (m + 1) = g := ⟨_, rfl⟩
    have A : ∀ w, w = (if nI p = 0 then (2 : Int32) else 3) → fX6_begins_c61 m (fX6_begins_c38 m (d + f + 1)) (nI n) (nI p) w (fX6_at (nI p) 4) h = hrow h (m + 1) (G_start n (pfrom P_ini (p + 1) d (ps g p (P_ini p (mp g p))))) ∧ sX6_begins_c61 m (sX6_begins_c38 m (d + f + 1)) (nI n) (nI p) w (fX6_at (nI p) 4) h := by
      intro w ew
      have c1 : Cut (upd (mp g p) 4 w) := cut_upd (mp_cut _ _) (by decide)
      have c2 : Cut (upd (upd (mp g p) 4 w) 5 2) := cut_upd c1 (by decide)
      have e3 : hset (hset (hset h (m + 1) (fX6_at (nI p) 4).toNatClampNeg w) (m + 1) (fX6_at (nI p) 5).toNatClampNeg 2) (m + 1) (fX6_at (nI p) 8).toNatClampNeg 2 = hrow h (m + 1) (ps g p (P_ini p (mp g p))) := by
        rw [m_p4 hp, m_p5 hp, hrow_s, hrow_hrow, ps_ps, eg, mp_ps_s c1, m_p8 hp, hrow_s, hrow_hrow, ps_ps, mp_ps_s c2]
        unfold P_ini
        rw [← ew]
      have I := ih (p + 1) f (hrow h (m + 1) (ps g p (P_ini p (mp g p)))) (by rw [hrow_s, ps_lo (by decide), ← eg, h0]) (by omega)
      rw [hrow_s, hrow_hrow] at I
      unfold fX6_begins_c61 sX6_begins_c61
      rw [e3, nI_1]
      exact ⟨I.1, m_v4 hp, m_v5 hp, m_v8 hp, I.2⟩
    rw [show d + 1 + f + 1 = (d + f + 1) + 1 by omega]
    constructor
    · show (if nI n ≤ nI p then _ else (if nI p = 0 then _ else _)) = _
      rw [if_neg c, eg]
      by_cases w : nI p = 0
      · rw [if_pos w]
        exact (A 2 (if_pos w).symm).1
      · rw [if_neg w]
        exact (A 3 (if_neg w).symm).1
    · refine ⟨fun q => absurd q c, fun _ => ?_⟩
      exact ⟨fun w => (A 2 (if_pos w).symm).2, fun w => (A 3 (if_neg w).symm).2⟩
theorem m_zero_loop {m n : Nat} {R : Int32} (hn : n ≤ 4) : ∀ (d k f : Nat) (h : HH), k + d = 206 → fX6_begins_c2 m (d + f + 1) (nI n) R (nI k) h = hrow h (m + 1) (G_start n (pfrom P_ini 0 n (upd (upd (zfrom k d (h (m + 1))) 0 (nI n)) 1 R))) ∧ sX6_begins_c2 m (d + f + 1) (nI n) R (nI k) h := by
  intro d
  induction d with
  | zero =>
    intro k f h e
    have c : (206 : Int32) ≤ nI k := nI_le (a := 206) (by omega) (by omega)
    have L := m_ini_loop (m := m) hn n 0 (4 - n) (hrow h (m + 1) (upd (upd (h (m + 1)) 0 (nI n)) 1 R)) (by rw [hrow_s]; exact (upd_o (by decide)).trans upd_s) (by omega)
    rw [show n + (4 - n) + 1 = 5 by omega, hrow_s, hrow_hrow] at L
    have E : hset (hset h (m + 1) 0 (nI n)) (m + 1) 1 R = hrow h (m + 1) (upd (upd (h (m + 1)) 0 (nI n)) 1 R) := by rw [hset_row, hset_row, hrow_s, hrow_hrow]
    rw [show 0 + f + 1 = f + 1 by omega]
    constructor
    · show (if (206 : Int32) ≤ nI k then fX6_begins_c38 m 5 (nI n) (nI 0) (hset (hset h (m + 1) 0 (nI n)) (m + 1) 1 R) else _) = _
      rw [if_pos c, E]
      exact L.1
    · refine ⟨fun _ => ?_, fun q => absurd c q⟩
      show sX6_begins_c38 m 5 (nI n) (nI 0) (hset (hset h (m + 1) 0 (nI n)) (m + 1) 1 R)
      rw [E]
      exact L.2
  | succ d ih =>
    intro k f h e
    have c : ¬ (206 : Int32) ≤ nI k := nI_ge (b := 206) (by omega) (by decide)
    have I := ih (k + 1) f (hrow h (m + 1) (upd (h (m + 1)) k 0)) (by omega)
    rw [hrow_s, hrow_hrow] at I
    have E : hset h (m + 1) (nI k).toNatClampNeg 0 = hrow h (m + 1) (upd (h (m + 1)) k 0) := by rw [nI_clamp (by omega), hset_row]
    rw [show d + 1 + f + 1 = (d + f + 1) + 1 by omega]
    constructor
    · show (if (206 : Int32) ≤ nI k then _ else fX6_begins_c2 m (d + f + 1) (nI n) R (nI k + 1) (hset h (m + 1) (nI k).toNatClampNeg 0)) = _
      rw [if_neg c, E, nI_1]
      exact I.1
    · refine ⟨fun q => absurd q c, fun _ => ⟨ti_vp (by rw [ti_nI (by omega)]; omega) (by rw [ti_nI (by omega)]; omega), ?_⟩⟩
      rw [E, nI_1]
      exact I.2
theorem m_begin {m n : Nat} {R : Int32} {h : HH} (hn : n ≤ 4) : fX6_begins m (nI n) R h = hrow h (m + 1) (G_begin n R (h (m + 1))) ∧ sX6_begins m (nI n) R h := by
  have L := m_zero_loop (m := m) (R := R) hn 206 0 0 h (by decide)
  have z : zfrom 0 206 (h (m + 1)) = G_zero (h (m + 1)) := by
    funext x
    rw [zfrom_v]
    unfold G_zero
    by_cases c : x < 206
    · rw [if_pos c, if_pos (by omega)]
    · rw [if_neg c, if_neg (by omega)]
  rw [z] at L
  exact L
-- the end of a turn
def G_end (n : Nat) (g : Nat → Int32) : Nat → Int32 := if g 2 = g 1 then upd (upd (pfrom (fun _ => P_end (feeds g)) 0 n g) 2 (g 2 + 1)) 3 (-1) else G_start n (pfrom (fun _ => P_end (feeds g)) 0 n g)
def gon (n t : Nat) (g : Nat → Int32) : Nat → Nat → (Nat → Int32)
  | 0, _ => G_end n g
  | d + 1, k => if mp g ((t + k) % n) 7 ≤ 0 then gon n t g d (k + 1) else upd g 3 (nI ((t + k) % n))
def G_goesOn (n t : Nat) (g : Nat → Int32) : Nat → Int32 := gon n t g n 1
theorem m_end_loop {m n : Nat} (hn : n ≤ 4) (f0 : Bool) : ∀ (d p f : Nat) (h : HH), h (m + 1) 0 = nI n → feeds (h (m + 1)) = f0 → p + d = n → fX6_goesOn_c54 m (d + f + 1) (nI p) h = hrow h (m + 1) (if h (m + 1) 2 = h (m + 1) 1 then upd (upd (pfrom (fun _ => P_end f0) p d (h (m + 1))) 2 (h (m + 1) 2 + 1)) 3 (-1) else G_start n (pfrom (fun _ => P_end f0) p d (h (m + 1)))) ∧ sX6_goesOn_c54 m (d + f + 1) (nI p) h := by
  intro d
  induction d with
  | zero =>
    intro p f h h0 hf e
    have c : h (m + 1) 0 ≤ nI p := by rw [h0]; exact nI_le (by omega) (by omega)
    have S := m_start (m := m) (h := h) hn h0
    rw [show 0 + f + 1 = f + 1 by omega]
    constructor
    · show (if h (m + 1) 0 ≤ nI p then (if h (m + 1) 2 = h (m + 1) 1 then hset (hset h (m + 1) 2 (h (m + 1) 2 + 1)) (m + 1) 3 (-1) else fX6_startsRound m h) else _) = _
      rw [if_pos c, S.1]
      split
      · rw [hset_row, hset_row, hrow_s, hrow_hrow]
        rfl
      · rfl
    · exact ⟨fun _ => ⟨fun _ => trivial, fun _ => S.2⟩, fun q => absurd c q⟩
  | succ d ih =>
    intro p f h h0 hf e
    have c : ¬ h (m + 1) 0 ≤ nI p := by rw [h0]; exact nI_ge (by omega) (by omega)
    have hp : p < 4 := by omega
    have E := m_ends (m := m) (p := p) (h := h) hp
    rw [hf] at E
    have I := ih (p + 1) f (hrow h (m + 1) (ps (h (m + 1)) p (P_end f0 (mp (h (m + 1)) p)))) (by rw [hrow_s, ps_lo (by decide), h0]) (by rw [hrow_s, ← hf]; unfold feeds; rw [ps_lo (by decide), ps_lo (by decide)]) (by omega)
    rw [hrow_s, hrow_hrow, ps_lo (by decide), ps_lo (by decide)] at I
    rw [show d + 1 + f + 1 = (d + f + 1) + 1 by omega]
    constructor
    · show (if h (m + 1) 0 ≤ nI p then _ else fX6_goesOn_c54 m (d + f + 1) (nI p + 1) (fX6_endsFor m (nI p) h)) = _
      rw [if_neg c, E.1, nI_1]
      exact I.1
    · refine ⟨fun q => absurd q c, fun _ => ⟨E.2, ?_⟩⟩
      rw [E.1, nI_1]
      exact I.2
theorem jrem_n {a b : Nat} (ha : a < 2147483648) (hb0 : 0 < b) (hb : b < 2147483648) : jrem (nI a) (nI b) = nI (a % b) := by
  unfold jrem
  have q : nI a / nI b = nI (a / b) := by
    refine ti_eq ?_
    rw [ti_div (by rw [ti_nI ha]; omega) (by rw [ti_nI hb]; omega), ti_nI ha, ti_nI hb, ti_nI (Nat.lt_of_le_of_lt (Nat.div_le_self a b) ha)]
    rfl
  have l1 : a / b * b ≤ a := Nat.div_mul_le_self a b
  have l2 : a % b < b := Nat.mod_lt a hb0
  have l3 : a / b * b + a % b = a := by rw [Nat.mul_comm]; exact Nat.div_add_mod a b
  have m1 : nI (a / b) * nI b = nI (a / b * b) := (Int32.ofNat_mul _ _).symm
  rw [q, m1]
  refine ti_eq ?_
  rw [ti_sub (by rw [ti_nI ha, ti_nI (by omega)]; omega) (by rw [ti_nI ha, ti_nI (by omega)]; omega), ti_nI ha, ti_nI (by omega), ti_nI (by omega)]
  omega
theorem m_on_loop {m n t : Nat} {h : HH} (hn0 : 2 ≤ n) (hn : n ≤ 4) (ht : t < n) (h0 : h (m + 1) 0 = nI n) (h3 : h (m + 1) 3 = nI t) : ∀ (d k f : Nat), k + d = n + 1 → fX6_goesOn_c2 m (d + f + 1) (nI k) h = hrow h (m + 1) (gon n t (h (m + 1)) d k) ∧ sX6_goesOn_c2 m (d + f + 1) (nI k) h := by
  intro d
  induction d with
  | zero =>
    intro k f e
    have c : h (m + 1) 0 < nI k := by rw [h0]; exact nI_lt (by omega) (by omega)
    have L := m_end_loop (m := m) hn (feeds (h (m + 1))) n 0 (4 - n) h h0 rfl (by omega)
    rw [show n + (4 - n) + 1 = 5 by omega] at L
    rw [show 0 + f + 1 = f + 1 by omega]
    exact ⟨(if_pos c).trans L.1, fun _ => L.2, fun q => absurd c q⟩
  | succ d ih =>
    intro k f e
    have c : ¬ h (m + 1) 0 < nI k := by rw [h0]; exact nI_nlt (by omega) (by omega)
    have hm : (t + k) % n < n := Nat.mod_lt _ (by omega)
    have hp : (t + k) % n < 4 := by omega
    have J : jrem (h (m + 1) 3 + nI k) (h (m + 1) 0) = nI ((t + k) % n) := by rw [h3, h0, nI_add, jrem_n (by omega) (by omega) (by omega)]
    have I := ih (k + 1) f (by omega)
    rw [show d + 1 + f + 1 = (d + f + 1) + 1 by omega]
    constructor
    · show (if h (m + 1) 0 < nI k then _ else (if fX6_get m (jrem (h (m + 1) 3 + nI k) (h (m + 1) 0)) 7 h ≤ 0 then fX6_goesOn_c2 m (d + f + 1) (nI k + 1) h else hset h (m + 1) 3 (jrem (h (m + 1) 3 + nI k) (h (m + 1) 0)))) = hrow h (m + 1) (if mp (h (m + 1)) ((t + k) % n) 7 ≤ 0 then gon n t (h (m + 1)) d (k + 1) else upd (h (m + 1)) 3 (nI ((t + k) % n)))
      rw [if_neg c, J, m_g7 hp, nI_1, I.1]
      split <;> rfl
    · refine ⟨fun q => absurd q c, fun _ => ?_⟩
      rw [J]
      refine ⟨?_, m_s7 hp, fun _ => ?_, fun _ => trivial⟩
      · rw [h0]
        exact nI_ne0 (by omega) (by omega)
      · rw [nI_1]
        exact I.2
theorem m_on {m n t : Nat} {h : HH} (hn0 : 2 ≤ n) (hn : n ≤ 4) (ht : t < n) (h0 : h (m + 1) 0 = nI n) (h3 : h (m + 1) 3 = nI t) : fX6_goesOn m h = hrow h (m + 1) (G_goesOn n t (h (m + 1))) ∧ sX6_goesOn m h := by
  have L := m_on_loop hn0 hn ht h0 h3 n 1 (5 - n) (by omega)
  rw [show n + (5 - n) + 1 = 6 by omega] at L
  exact L
