/-! the model's digest -/
def hs (m : Nat) (H : HH) : Int64 := LJ (H m 9) (H m 10)
def MK (m : Nat) (H H' : HH) : Prop := (∀ q, q ≠ m → H' q = H q) ∧ ∀ k, k ≠ 9 → k ≠ 10 → H' m k = H m k
theorem MK_tr {m : Nat} {H H1 H2 : HH} (x : MK m H H1) (y : MK m H1 H2) : MK m H H2 := ⟨fun q hq => (y.1 q hq).trans (x.1 q hq), fun k a b => (y.2 k a b).trans (x.2 k a b)⟩
theorem hsL {m : Nat} {y : Int64} {H : HH} : hs m (hsetL H m 9 10 y) = y ∧ MK m H (hsetL H m 9 10 y) := by
  unfold hs hsetL
  refine ⟨?_, fun q hq => by rw [hset_o _ _ _ _ hq, hset_o _ _ _ _ hq], fun k k9 k10 => by rw [hset_s, upd_o k10, hset_s, upd_o k9]⟩
  rw [hset_s, upd_o (by decide), upd_s, hset_s, upd_s]
  exact LJ_eq y
theorem mx {m : Nat} {v : Int32} {H : HH} : hs m (fX6_mix m v H) = fX5_mix (hs m H) v.toInt64 ∧ MK m H (fX6_mix m v H) := hsL
theorem m_44 {m n p : Nat} {B : Int} {g : Nat → Int32} (hB : B ≤ 100000000) (hn : n ≤ 4) (hp : p < n) (h0 : g 0 = nI n) (hI : ∀ p, p < n → PI B (mp g p)) : ∀ (d k f : Nat) (H : HH), H (m + 1) = g → k + d = 6 → ∃ H', fX6_mixPlayer_c44 m (d + f + 1) (nI p) (nI k) H = H' ∧ sX6_mixPlayer_c44 m (d + f + 1) (nI p) (nI k) H ∧ hs m H' = fX5_mix (fX5_mix (mixf (fun j => P_score (mp g p) (nI j)) k d (hs m H)) (P_all (mp g p)).toInt64) (grank g p n 0 1).toInt64 ∧ MK m H H' := by
  have hp4 : p < 4 := by omega
  intro d
  induction d with
  | zero =>
    intro k f H eg e
    have c : (6 : Int32) ≤ nI k := nI_le (a := 6) (by omega) (by omega)
    have A := m_all (m := m) (p := p) (h := H) hp4
    rw [eg] at A
    have X := mx (m := m) (v := P_all (mp g p)) (H := H)
    obtain ⟨H1, e1⟩ : ∃ H1, fX6_mix m (P_all (mp g p)) H = H1 := ⟨_, rfl⟩
    rw [e1] at X
    have r1 : H1 (m + 1) = g := by rw [X.2.1 _ (by omega), eg]
    have R := m_rank (m := m) (n := n) (p := p) (h := H1) hB hn hp (by rw [r1]; exact h0) (by rw [r1]; exact hI)
    rw [r1] at R
    have Y := mx (m := m) (v := grank g p n 0 1) (H := H1)
    rw [show 0 + f + 1 = f + 1 by omega]
    refine ⟨_, ?_, ⟨fun _ => ⟨A.2, ?_⟩, fun q => absurd c q⟩, ?_, MK_tr X.2 Y.2⟩
    · show (if (6 : Int32) ≤ nI k then fX6_mix m (fX6_rankOf m (nI p) (fX6_mix m (fX6_allOf m (nI p) H) H)) (fX6_mix m (fX6_allOf m (nI p) H) H) else _) = _
      rw [if_pos c, A.1, e1, R.1]
    · show sX6_rankOf m (nI p) (fX6_mix m (fX6_allOf m (nI p) H) H)
      rw [A.1, e1]
      exact R.2
    · rw [Y.1, X.1, mixf_0]
  | succ d ih =>
    intro k f H eg e
    have c : ¬ (6 : Int32) ≤ nI k := nI_ge (b := 6) (by omega) (by decide)
    have A := m_score (m := m) (p := p) (h := H) hp4 (nI k)
    rw [eg] at A
    have X := mx (m := m) (v := P_score (mp g p) (nI k)) (H := H)
    obtain ⟨H1, e1⟩ : ∃ H1, fX6_mix m (P_score (mp g p) (nI k)) H = H1 := ⟨_, rfl⟩
    rw [e1] at X
    have r1 : H1 (m + 1) = g := by rw [X.2.1 _ (by omega), eg]
    obtain ⟨H', i1, i2, i3, i4⟩ := ih (k + 1) f H1 r1 (by omega)
    rw [show d + 1 + f + 1 = (d + f + 1) + 1 by omega]
    refine ⟨H', ?_, ⟨fun q => absurd q c, fun _ => ⟨A.2, ?_⟩⟩, ?_, MK_tr X.2 i4⟩
    · show (if (6 : Int32) ≤ nI k then _ else fX6_mixPlayer_c44 m (d + f + 1) (nI p) (nI k + 1) (fX6_mix m (fX6_scoreOf m (nI p) (nI k) H) H)) = _
      rw [if_neg c, A.1, e1, nI_1]
      exact i1
    · rw [A.1, e1, nI_1]
      exact i2
    · rw [i3, X.1, mixf_s (d := d)]
theorem m_2 {m n p : Nat} {B : Int} {g : Nat → Int32} (hB : B ≤ 100000000) (hn : n ≤ 4) (hp : p < n) (h0 : g 0 = nI n) (hI : ∀ p, p < n → PI B (mp g p)) : ∀ (d k f : Nat) (H : HH), H (m + 1) = g → k + d = 11 → ∃ H', fX6_mixPlayer_c2 m (d + f + 1) (nI p) (nI k) H = H' ∧ sX6_mixPlayer_c2 m (d + f + 1) (nI p) (nI k) H ∧ hs m H' = fX5_mix (fX5_mix (mixf (fun j => P_score (mp g p) (nI j)) 0 6 (fX5_mix (fX5_mix (mixf (mp g p) k d (hs m H)) (P_need (mp g p)).toInt64) (P_miss (mp g p)).toInt64)) (P_all (mp g p)).toInt64) (grank g p n 0 1).toInt64 ∧ MK m H H' := by
  have hp4 : p < 4 := by omega
  intro d
  induction d with
  | zero =>
    intro k f H eg e
    have c : (11 : Int32) ≤ nI k := nI_le (a := 11) (by omega) (by omega)
    have A : fX6_needOf m (nI p) H = P_need (mp g p) := by rw [m_need hp4, eg]
    have X := mx (m := m) (v := P_need (mp g p)) (H := H)
    obtain ⟨H1, e1⟩ : ∃ H1, fX6_mix m (P_need (mp g p)) H = H1 := ⟨_, rfl⟩
    rw [e1] at X
    have r1 : H1 (m + 1) = g := by rw [X.2.1 _ (by omega), eg]
    have M : fX6_missingOf m (nI p) H1 = P_miss (mp g p) := by rw [m_miss hp4, r1]
    have Y := mx (m := m) (v := P_miss (mp g p)) (H := H1)
    obtain ⟨H2, e2⟩ : ∃ H2, fX6_mix m (P_miss (mp g p)) H1 = H2 := ⟨_, rfl⟩
    rw [e2] at Y
    have r2 : H2 (m + 1) = g := by rw [Y.2.1 _ (by omega), r1]
    obtain ⟨H', i1, i2, i3, i4⟩ := m_44 (m := m) hB hn hp h0 hI 6 0 0 H2 r2 (by decide)
    rw [show 6 + 0 + 1 = 7 from rfl, nI_0] at i1 i2
    rw [show 0 + f + 1 = f + 1 by omega]
    refine ⟨H', ?_, ⟨fun _ => ⟨m_sneed hp4, ?_⟩, fun q => absurd c q⟩, ?_, MK_tr X.2 (MK_tr Y.2 i4)⟩
    · show (if (11 : Int32) ≤ nI k then fX6_mixPlayer_c36 m (nI p) (nI p) (fX6_mix m (fX6_needOf m (nI p) H) H) else _) = _
      rw [if_pos c, A, e1]
      unfold fX6_mixPlayer_c36
      rw [M, e2]
      exact i1
    · rw [A, e1]
      unfold sX6_mixPlayer_c36
      rw [M, e2]
      exact ⟨m_smiss hp4, i2⟩
    · rw [i3, Y.1, X.1, mixf_0 (F := mp g p)]
  | succ d ih =>
    intro k f H eg e
    have c : ¬ (11 : Int32) ≤ nI k := nI_ge (b := 11) (by omega) (by decide)
    have A : fX6_get m (nI p) (nI k) H = mp g p k := by rw [m_get hp4 (by omega), eg]
    have X := mx (m := m) (v := mp g p k) (H := H)
    obtain ⟨H1, e1⟩ : ∃ H1, fX6_mix m (mp g p k) H = H1 := ⟨_, rfl⟩
    rw [e1] at X
    have r1 : H1 (m + 1) = g := by rw [X.2.1 _ (by omega), eg]
    obtain ⟨H', i1, i2, i3, i4⟩ := ih (k + 1) f H1 r1 (by omega)
    rw [show d + 1 + f + 1 = (d + f + 1) + 1 by omega]
    refine ⟨H', ?_, ⟨fun q => absurd q c, fun _ => ⟨m_sget hp4 (by omega), ?_⟩⟩, ?_, MK_tr X.2 i4⟩
    · show (if (11 : Int32) ≤ nI k then _ else fX6_mixPlayer_c2 m (d + f + 1) (nI p) (nI k + 1) (fX6_mix m (fX6_get m (nI p) (nI k) H) H)) = _
      rw [if_neg c, A, e1, nI_1]
      exact i1
    · rw [A, e1, nI_1]
      exact i2
    · rw [i3, X.1, mixf_s (F := mp g p) (k := k) (d := d)]
theorem m_dPl {m n p : Nat} {B : Int} {g : Nat → Int32} {H : HH} (hB : B ≤ 100000000) (hn : n ≤ 4) (hp : p < n) (h0 : g 0 = nI n) (hI : ∀ p, p < n → PI B (mp g p)) (eg : H (m + 1) = g) : ∃ H', fX6_mixPlayer m (nI p) H = H' ∧ sX6_mixPlayer m (nI p) H ∧ hs m H' = dPl n g p (hs m H) ∧ MK m H H' := by
  obtain ⟨H', i1, i2, i3, i4⟩ := m_2 (m := m) hB hn hp h0 hI 11 0 0 H eg (by decide)
  rw [show 11 + 0 + 1 = 12 from rfl, nI_0] at i1 i2
  exact ⟨H', i1, i2, i3, i4⟩
-- history
theorem m_161 {m qn : Nat} {g : Nat → Int32} (hq : qn ≤ 30) (e85 : g 85 = nI qn) : ∀ (d k f : Nat) (H : HH), H (m + 1) = g → k + d = 4 * qn → ∃ H', fX6_digest_c161 m (d + f + 1) (nI k) H = (hs m H', H') ∧ sX6_digest_c161 m (d + f + 1) (nI k) H ∧ hs m H' = mixf (fun j => g (86 + j)) k d (hs m H) ∧ MK m H H' := by
  have q4 : (4 : Int32) * nI qn = nI (4 * qn) := (Int32.ofNat_mul 4 qn).symm
  intro d
  induction d with
  | zero =>
    intro k f H eg e
    have c : 4 * H (m + 1) 85 ≤ nI k := by rw [eg, e85, q4]; exact nI_le (by omega) (by omega)
    rw [show 0 + f + 1 = f + 1 by omega]
    refine ⟨H, ?_, ⟨fun _ => trivial, fun q => absurd c q⟩, rfl, fun _ _ => rfl, fun _ _ _ => rfl⟩
    show (if 4 * H (m + 1) 85 ≤ nI k then (LJ (H m 9) (H m 10), H) else _) = _
    rw [if_pos c]
    rfl
  | succ d ih =>
    intro k f H eg e
    have c : ¬ 4 * H (m + 1) 85 ≤ nI k := by rw [eg, e85, q4]; exact nI_ge (by omega) (by omega)
    have i86 : (86 : Int32) + nI k = nI (86 + k) := nI_add 86 k
    have X := mx (m := m) (v := g (86 + k)) (H := H)
    obtain ⟨H1, e1⟩ : ∃ H1, fX6_mix m (g (86 + k)) H = H1 := ⟨_, rfl⟩
    rw [e1] at X
    have r1 : H1 (m + 1) = g := by rw [X.2.1 _ (by omega), eg]
    obtain ⟨H', i1, i2, i3, i4⟩ := ih (k + 1) f H1 r1 (by omega)
    rw [show d + 1 + f + 1 = (d + f + 1) + 1 by omega]
    refine ⟨H', ?_, ⟨fun q => absurd q c, fun _ => ⟨?_, ?_⟩⟩, ?_, MK_tr X.2 i4⟩
    · show (if 4 * H (m + 1) 85 ≤ nI k then _ else fX6_digest_c161 m (d + f + 1) (nI k + 1) (fX6_mix m (H (m + 1) ((86 + nI k).toNatClampNeg)) H)) = _
      rw [if_neg c, i86, nclamp (by omega), eg, e1, nI_1]
      exact i1
    · rw [i86]
      exact v_of (by omega) (by decide)
    · rw [i86, nclamp (by omega), eg, e1, nI_1]
      exact i2
    · rw [i3, X.1, mixf_s (d := d)]
def DK (m : Nat) (H H' : HH) : Prop := (∀ q, q ≠ m → q ≠ m + 3 → q ≠ m + 4 → q ≠ m + 5 → H' q = H q) ∧ H' m 3 = H m 3 ∧ H' m 4 = H m 4
theorem DK_tr {m : Nat} {H H1 H2 : HH} (x : DK m H H1) (y : DK m H1 H2) : DK m H H2 := ⟨fun q a b c d => (y.1 q a b c d).trans (x.1 q a b c d), y.2.1.trans x.2.1, y.2.2.trans x.2.2⟩
theorem DK_of {m : Nat} {H H1 : HH} (x : MK m H H1) : DK m H H1 := ⟨fun q a _ _ _ => x.1 q a, x.2 3 (by decide) (by decide), x.2 4 (by decide) (by decide)⟩
theorem m_tail {m n t qn : Nat} {B : Int} {g : Nat → Int32} {H : HH} (hB : B + 120 ≤ 70000000) (gi : GI B n g) (tk : TK n t g) (hq : qn ≤ 30) (e85 : g 85 = nI qn) (eg : H (m + 1) = g) : ∃ HF, fX6_digest_c132 m 1 H = (dTail n t g qn (hs m H), HF) ∧ sX6_digest_c132 m 1 H ∧ DK m H HF := by
  have sr (H : HH) (eg : H (m + 1) = g) : hs m (fX6_searches m 1 H) = hs m H ∧ DK m H (fX6_searches m 1 H) := by
    have S := (m_searches (m := m) (n := n) (t := t) (D := 1) (B := B) (h := H) (by decide) (by decide) hB (by rw [eg]; exact gi) (by rw [eg]; exact tk)).2.2
    have S : (∀ q, q ≠ m → q ≠ m + 3 → q ≠ m + 4 → q ≠ m + 5 → fX6_searches m 1 H q = H q) ∧ ∀ k, k ≠ 7 → k ≠ 8 → fX6_searches m 1 H m k = H m k := S
    refine ⟨?_, S.1, S.2 3 (by decide) (by decide), S.2 4 (by decide) (by decide)⟩
    unfold hs
    rw [S.2 9 (by decide) (by decide), S.2 10 (by decide) (by decide)]
  have B1 := m_bs (m := m) (n := n) (t := t) (D := 1) (B := B) (h := H) (by decide) (by decide) hB (by rw [eg]; exact gi) (by rw [eg]; exact tk)
  rw [eg] at B1
  have B1 : fX6_bestScoreOf m 1 H = (bR (Sroot n t 1 g), fX6_searches m 1 H) ∧ sX6_bestScoreOf m 1 H := B1
  have s1 := sr H eg
  obtain ⟨H1, e1⟩ : ∃ H1, fX6_searches m 1 H = H1 := ⟨_, rfl⟩
  rw [e1] at B1 s1
  have X := mx (m := m) (v := bR (Sroot n t 1 g)) (H := H1)
  obtain ⟨H2, e2⟩ : ∃ H2, fX6_mix m (bR (Sroot n t 1 g)) H1 = H2 := ⟨_, rfl⟩
  rw [e2] at X
  have r2 : H2 (m + 1) = g := by rw [X.2.1 _ (by omega), s1.2.1 _ (by omega) (by omega) (by omega) (by omega), eg]
  have B2 := m_bc (m := m) (n := n) (t := t) (D := 1) (i := 0) (B := B) (h := H2) (by decide) (by decide) (by decide) hB (by rw [r2]; exact gi) (by rw [r2]; exact tk)
  rw [r2] at B2
  have B2 : fX6_bestCodeOf m 1 0 H2 = (bS (Sroot n t 1 g) 0, fX6_searches m 1 H2) ∧ sX6_bestCodeOf m 1 0 H2 := B2
  have s2 := sr H2 r2
  obtain ⟨H3, e3⟩ : ∃ H3, fX6_searches m 1 H2 = H3 := ⟨_, rfl⟩
  rw [e3] at B2 s2
  have Y := mx (m := m) (v := bS (Sroot n t 1 g) 0) (H := H3)
  obtain ⟨H4, e4⟩ : ∃ H4, fX6_mix m (bS (Sroot n t 1 g) 0) H3 = H4 := ⟨_, rfl⟩
  rw [e4] at Y
  have r4 : H4 (m + 1) = g := by rw [Y.2.1 _ (by omega), s2.2.1 _ (by omega) (by omega) (by omega) (by omega), r2]
  have Z := mx (m := m) (v := nI qn) (H := H4)
  obtain ⟨H5, e5⟩ : ∃ H5, fX6_mix m (nI qn) H4 = H5 := ⟨_, rfl⟩
  rw [e5] at Z
  have r5 : H5 (m + 1) = g := by rw [Z.2.1 _ (by omega), r4]
  obtain ⟨H6, i1, i2, i3, i4⟩ := m_161 (m := m) hq e85 (4 * qn) 0 (120 - 4 * qn) H5 r5 (by omega)
  rw [show 4 * qn + (120 - 4 * qn) + 1 = 121 by omega, nI_0] at i1 i2
  have k85 : (85 : Int32).toNatClampNeg = 85 := by decide
  have v85 : vp_in (85 : Int32) 206 := vpd (by decide)
  have ge : H4 (m + 1) 85 = nI qn := by rw [r4, e85]
  refine ⟨H6, ?_, ?_, DK_tr s1.2 (DK_tr (DK_of X.2) (DK_tr s2.2 (DK_tr (DK_of Y.2) (DK_tr (DK_of Z.2) (DK_of i4)))))⟩
  · unfold fX6_digest_c132 fX6_digest_c135 fX6_digest_c142 fX6_digest_c145 fX6_digest_c155
    rw [B1.1]
    dsimp only
    rw [e2, B2.1]
    dsimp only
    rw [e4, k85, ge, e5, i1, i3, Z.1, Y.1, s2.1, X.1, s1.1]
    rfl
  · unfold sX6_digest_c132 sX6_digest_c135 sX6_digest_c142 sX6_digest_c145 sX6_digest_c155
    rw [B1.1]
    dsimp only
    rw [e2, B2.1]
    dsimp only
    rw [e4, k85, ge, e5]
    exact ⟨B1.2, B2.2, v85, i2⟩
theorem m_95 {m n t qn : Nat} {B : Int} {g : Nat → Int32} (hB : B + 120 ≤ 70000000) (gi : GI B n g) (tk : TK n t g) (hq : qn ≤ 30) (e85 : g 85 = nI qn) : ∀ (d k f : Nat) (H : HH), H (m + 1) = g → k + d = 48 → ∃ HF, fX6_digest_c95 m (d + f + 1) (nI k) H = (dTail n t g qn (fX5_mix (mixf (fun k => spv g (k / 4) (k % 4)) k d (hs m H)) (nI (okl n t g).length).toInt64), HF) ∧ sX6_digest_c95 m (d + f + 1) (nI k) H ∧ DK m H HF := by
  intro d
  induction d with
  | zero =>
    intro k f H eg e
    have c : (48 : Int32) ≤ nI k := nI_le (a := 48) (by omega) (by omega)
    have A := m_poss (m := m) (n := n) (t := t) (h := H) (by rw [eg]; exact tk.1)
    rw [eg] at A
    have X := mx (m := m) (v := nI (okl n t g).length) (H := H)
    obtain ⟨H1, e1⟩ : ∃ H1, fX6_mix m (nI (okl n t g).length) H = H1 := ⟨_, rfl⟩
    rw [e1] at X
    obtain ⟨HF, i1, i2, i3⟩ := m_tail (m := m) (H := H1) hB gi tk hq e85 (by rw [X.2.1 _ (by omega), eg])
    rw [show 0 + f + 1 = f + 1 by omega]
    refine ⟨HF, ?_, ⟨fun _ => ⟨A.2, ?_⟩, fun q => absurd c q⟩, DK_tr (DK_of X.2) i3⟩
    · show (if (48 : Int32) ≤ nI k then fX6_digest_c132 m 1 (fX6_mix m (fX6_possibles m H) H) else _) = _
      rw [if_pos c, A.1, e1, i1, X.1, mixf_0]
    · rw [A.1, e1]
      exact i2
  | succ d ih =>
    intro k f H eg e
    have c : ¬ (48 : Int32) ≤ nI k := nI_ge (b := 48) (by omega) (by decide)
    have d1 : nI k / 4 = nI (k / 4) := nI_div (b := 4) (by omega) (by decide) (by decide)
    have d2 : jrem (nI k) 4 = nI (k % 4) := jrem_n (b := 4) (by omega) (by decide) (by decide)
    have A := m_spv (m := m) (s := k / 4) (w := k % 4) (h := H) (by omega) (by omega)
    rw [eg] at A
    have X := mx (m := m) (v := spv g (k / 4) (k % 4)) (H := H)
    obtain ⟨H1, e1⟩ : ∃ H1, fX6_mix m (spv g (k / 4) (k % 4)) H = H1 := ⟨_, rfl⟩
    rw [e1] at X
    obtain ⟨HF, i1, i2, i3⟩ := ih (k + 1) f H1 (by rw [X.2.1 _ (by omega), eg]) (by omega)
    rw [show d + 1 + f + 1 = (d + f + 1) + 1 by omega]
    refine ⟨HF, ?_, ⟨fun q => absurd q c, fun _ => ?_⟩, DK_tr (DK_of X.2) i3⟩
    · show (if (48 : Int32) ≤ nI k then _ else fX6_digest_c95 m (d + f + 1) (nI k + 1) (fX6_mix m (fX6_tellSpace m (nI k / 4) (jrem (nI k) 4) H) H)) = _
      rw [if_neg c, d1, d2, A.1, e1, nI_1, i1, X.1, mixf_s (d := d)]
    · rw [d1, d2, A.1, e1, nI_1]
      exact ⟨A.2, i2⟩
theorem m_72 {m n t qn : Nat} {B : Int} {g : Nat → Int32} (hB : B + 120 ≤ 70000000) (gi : GI B n g) (tk : TK n t g) (hq : qn ≤ 30) (e85 : g 85 = nI qn) : ∀ (d p f : Nat) (H : HH), H (m + 1) = g → p + d = n → ∃ HF, fX6_digest_c72 m (d + f + 1) (nI p) H = (dMid n t g qn (dPs n g p d (hs m H)), HF) ∧ sX6_digest_c72 m (d + f + 1) (nI p) H ∧ DK m H HF := by
  have hn4 := gi.2.1
  have g0 := gi.2.2.1
  intro d
  induction d with
  | zero =>
    intro p f H eg e
    have c : H (m + 1) 0 ≤ nI p := by rw [eg, g0]; exact nI_le (by omega) (by omega)
    obtain ⟨HF, i1, i2, i3⟩ := m_95 (m := m) hB gi tk hq e85 48 0 0 H eg (by decide)
    rw [show 48 + 0 + 1 = 49 from rfl, nI_0] at i1 i2
    rw [show 0 + f + 1 = f + 1 by omega]
    refine ⟨HF, ?_, ⟨fun _ => i2, fun q => absurd c q⟩, i3⟩
    show (if H (m + 1) 0 ≤ nI p then fX6_digest_c95 m 49 0 H else _) = _
    rw [if_pos c, i1]
    rfl
  | succ d ih =>
    intro p f H eg e
    have c : ¬ H (m + 1) 0 ≤ nI p := by rw [eg, g0]; exact nI_ge (by omega) (by omega)
    obtain ⟨H1, j1, j2, j3, j4⟩ := m_dPl (m := m) (p := p) (B := B) (H := H) (by omega) hn4 (by omega) g0 gi.2.2.2.2.2.2.1 eg
    obtain ⟨HF, i1, i2, i3⟩ := ih (p + 1) f H1 (by rw [j4.1 _ (by omega), eg]) (by omega)
    rw [show d + 1 + f + 1 = (d + f + 1) + 1 by omega]
    refine ⟨HF, ?_, ⟨fun q => absurd q c, fun _ => ⟨j2, ?_⟩⟩, DK_tr (DK_of j4) i3⟩
    · show (if H (m + 1) 0 ≤ nI p then _ else fX6_digest_c72 m (d + f + 1) (nI p + 1) (fX6_mixPlayer m (nI p) H)) = _
      rw [if_neg c, j1, nI_1, i1, j3]
      rfl
    · rw [j1, nI_1]
      exact i2
def dIni (k : Nat) (g : Nat → Int32) : Int64 := fX5_mix (fX5_mix (fX5_mix (fX5_mix (fX5_mix (fX5_mix 18482 (nI k).toInt64) (g 0).toInt64) (g 2).toInt64) (g 1).toInt64) (g 3).toInt64) (g 4).toInt64
theorem m_dig {m n t qn k : Nat} {B : Int} {g : Nat → Int32} {h : HH} (hB : B + 120 ≤ 70000000) (gi : GI B n g) (tk : TK n t g) (hq : qn ≤ 30) (e85 : g 85 = nI qn) (eg : h (m + 1) = g) (e3 : h m 3 = nI k) : ∃ HF, fX6_digest m h = (dMid n t g qn (dPs n g 0 n (dIni k g)), HF) ∧ sX6_digest m h ∧ (∀ q, q ≠ m → q ≠ m + 3 → q ≠ m + 4 → q ≠ m + 5 → HF q = h q) ∧ HF m 3 = h m 3 := by
  have X0 := hsL (m := m) (y := 18482) (H := hset h m 4 0)
  obtain ⟨H0, e0⟩ : ∃ H0, hsetL (hset h m 4 0) m 9 10 18482 = H0 := ⟨_, rfl⟩
  rw [e0] at X0
  have r0 : H0 (m + 1) = g := by rw [X0.2.1 _ (by omega), hset_o _ _ _ _ (by omega), eg]
  have q3 : H0 m 3 = nI k := by rw [X0.2.2 3 (by decide) (by decide), hset_s, upd_o (by decide), e3]
  have X1 := mx (m := m) (v := nI k) (H := H0)
  obtain ⟨H1, e1⟩ : ∃ H1, fX6_mix m (nI k) H0 = H1 := ⟨_, rfl⟩
  rw [e1] at X1
  have r1 : H1 (m + 1) = g := by rw [X1.2.1 _ (by omega), r0]
  have X2 := mx (m := m) (v := g 0) (H := H1)
  obtain ⟨H2, e2⟩ : ∃ H2, fX6_mix m (g 0) H1 = H2 := ⟨_, rfl⟩
  rw [e2] at X2
  have r2 : H2 (m + 1) = g := by rw [X2.2.1 _ (by omega), r1]
  have X3 := mx (m := m) (v := g 2) (H := H2)
  obtain ⟨H3, e3'⟩ : ∃ H3, fX6_mix m (g 2) H2 = H3 := ⟨_, rfl⟩
  rw [e3'] at X3
  have r3 : H3 (m + 1) = g := by rw [X3.2.1 _ (by omega), r2]
  have X4 := mx (m := m) (v := g 1) (H := H3)
  obtain ⟨H4, e4⟩ : ∃ H4, fX6_mix m (g 1) H3 = H4 := ⟨_, rfl⟩
  rw [e4] at X4
  have r4 : H4 (m + 1) = g := by rw [X4.2.1 _ (by omega), r3]
  have X5 := mx (m := m) (v := g 3) (H := H4)
  obtain ⟨H5, e5⟩ : ∃ H5, fX6_mix m (g 3) H4 = H5 := ⟨_, rfl⟩
  rw [e5] at X5
  have r5 : H5 (m + 1) = g := by rw [X5.2.1 _ (by omega), r4]
  have X6 := mx (m := m) (v := g 4) (H := H5)
  obtain ⟨H6, e6⟩ : ∃ H6, fX6_mix m (g 4) H5 = H6 := ⟨_, rfl⟩
  rw [e6] at X6
  have r6 : H6 (m + 1) = g := by rw [X6.2.1 _ (by omega), r5]
  have hn4 := gi.2.1
  obtain ⟨HF, i1, i2, i3⟩ := m_72 (m := m) hB gi tk hq e85 n 0 (4 - n) H6 r6 (by omega)
  rw [show n + (4 - n) + 1 = 5 by omega, nI_0] at i1 i2
  have z0 : (0 : Int32).toNatClampNeg = 0 := by decide
  have z1 : (1 : Int32).toNatClampNeg = 1 := by decide
  have z2 : (2 : Int32).toNatClampNeg = 2 := by decide
  have z3 : (3 : Int32).toNatClampNeg = 3 := by decide
  have z4 : (4 : Int32).toNatClampNeg = 4 := by decide
  have K := MK_tr X0.2 (MK_tr X1.2 (MK_tr X2.2 (MK_tr X3.2 (MK_tr X4.2 (MK_tr X5.2 X6.2)))))
  refine ⟨HF, ?_, ?_, fun q q0 q3 q4 q5 => by rw [i3.1 q q0 q3 q4 q5, K.1 q q0, hset_o _ _ _ _ q0], by rw [i3.2.1, K.2 3 (by decide) (by decide), hset_s, upd_o (by decide)]⟩
  · unfold fX6_digest fX6_digest_c0 fX6_digest_c14 fX6_digest_c26 fX6_digest_c36 fX6_digest_c46 fX6_digest_c56 fX6_digest_c66
    rw [e0, q3, e1, z0, r1, e2, z2, r2, e3', z1, r3, e4, z3, r4, e5, z4, r5, e6, i1, X6.1, X5.1, X4.1, X3.1, X2.1, X1.1, X0.1]
    rfl
  · unfold sX6_digest sX6_digest_c0 sX6_digest_c14 sX6_digest_c26 sX6_digest_c36 sX6_digest_c46 sX6_digest_c56 sX6_digest_c66
    rw [e0, q3, e1, z0, r1, e2, z2, r2, e3', z1, r3, e4, z3, r4, e5, z4, r5, e6]
    exact ⟨vpd (by decide), vpd (by decide), vpd (by decide), vpd (by decide), vpd (by decide), i2⟩
theorem digest_ok {a m : Nat} {B : Int} {h : HH} (hB : B + 120 ≤ 70000000) (d : a + 110 ≤ m) (inv : INV B a m h) : sX5_digest a h ∧ sX6_digest m (fX5_digest a h).2 ∧ (fX6_digest m (fX5_digest a h).2).1 = (fX5_digest a h).1 ∧ INV B a m (fX6_digest m (fX5_digest a h).2).2 := by
  obtain ⟨⟨n, gi, cg, ch⟩, k, e3, uc⟩ := id inv
  obtain ⟨t, tk⟩ : ∃ t, TK n t (h (m + 1)) := gi_ok gi
  obtain ⟨qn, hqn, _, e85, _⟩ := c_hist ch
  have hn4 := gi.2.1
  have u2 : h (a + 16) 2 = nI k := by obtain ⟨_, _, _, _, x, _⟩ := uc; exact x
  obtain ⟨hF, c1, c2, c3⟩ := c_82 hB gi tk cg ch e85 hqn n 0 (4 - n) (dIni k (h (m + 1))) (by omega)
  rw [show n + (4 - n) + 1 = 5 by omega, nI_0] at c1 c2
  have C : fX5_digest a h = (dMid n t (h (m + 1)) qn (dPs n (h (m + 1)) 0 n (dIni k (h (m + 1)))), hF) ∧ sX5_digest a h := by
    unfold fX5_digest fX5_digest_c0 sX5_digest sX5_digest_c0
    rw [u2, cg.1 0 (by decide), cg.1 1 (by decide), cg.1 2 (by decide), cg.1 3 (by decide), cg.1 4 (by decide)]
    exact ⟨c1, c2⟩
  have kp : Keep a m h hF := keep_se d c3
  obtain ⟨HM, m1, m2, m3, m4⟩ := m_dig (m := m) (n := n) (t := t) (qn := qn) (k := k) (B := B) (g := h (m + 1)) (h := hF) hB gi tk hqn e85 kp.2.2.1 (kp.2.1.trans e3)
  rw [C.1]
  dsimp only
  rw [m1]
  refine ⟨C.2, m2, rfl, INV_keep (keep_tr kp ⟨fun q q1 q2 => m3 q (by omega) (by omega) (by omega) (by omega), m4, m3 _ (by omega) (by omega) (by omega) (by omega), m3 _ (by omega) (by omega) (by omega) (by omega)⟩) inv⟩
