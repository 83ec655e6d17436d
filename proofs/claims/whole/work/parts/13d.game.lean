/-! what the row always is: kept by the end of a turn; a new game -/
def SP2 (g : Nat → Int32) : Prop := ∀ s, s < 12 → (g (50 + 3 * s) = 0 ↔ g (51 + 3 * s) = -1) ∧ ∃ k, k ≤ plN s ∧ g (50 + 3 * s) = nI k
theorem gi_end {B : Int} {n : Nat} {g : Nat → Int32} (hB : B ≤ 80000000) (hB3 : 3 ≤ B) (hn0 : 2 ≤ n) (hn : n ≤ 4) (h0 : g 0 = nI n) (hr : 1 ≤ (g 2).toInt ∧ (g 2).toInt ≤ (g 1).toInt ∧ (g 1).toInt ≤ 12) (h4 : ∃ st, st < n ∧ g 4 = nI st) (hp : ∀ p, p < n → PI B (mp g p)) (hl : LI g) (hs2 : SP2 g) (hu : UO n g) (hq : ∃ q, q ≤ 30 ∧ g 85 = nI q) : GI (B + 11) n (G_end n g) := by
  obtain ⟨gp, eg⟩ : ∃ gp, pfrom (fun _ => P_end (feeds g)) 0 n g = gp := ⟨_, rfl⟩
  have gpo (k : Nat) (hk : k < 5 ∨ 49 ≤ k) : gp k = g k := by rw [← eg]; exact pfrom_out n 0 g k (by omega) hk
  have gpm (q : Nat) (hq : q < n) : mp gp q = P_end (feeds g) (mp g q) := by rw [← eg]; exact ge_mp (fun _ c => cut_end c) hq
  have pp (p : Nat) (hp' : p < n) : PI (B + 10) (mp gp p) := by rw [gpm p hp']; exact pi_end (by omega) hB3 (hp p hp')
  have uu : UO n gp := fun b hb p q hp' hq' h1 h2 => by
    rw [gpm p hp', P_has_ext (end_10 _ _)] at h1
    rw [gpm q hq', P_has_ext (end_10 _ _)] at h2
    exact hu b hb p q hp' hq' h1 h2
  obtain ⟨st, hst, est⟩ := h4
  obtain ⟨q, hq1, hq2⟩ := hq
  unfold G_end
  rw [eg]
  by_cases c : g 2 = g 1
  · rw [if_pos c]
    have e2 : (g 2 + 1).toInt = (g 2).toInt + 1 := by rw [ti_add (by rw [t1]; omega) (by rw [t1]; omega), t1]
    obtain ⟨g', e'⟩ : ∃ g', upd (upd gp 2 (g 2 + 1)) 3 (-1) = g' := ⟨_, rfl⟩
    have k2 : g' 2 = g 2 + 1 := by rw [← e', upd_o (by decide), upd_s]
    have k3 : g' 3 = -1 := by rw [← e', upd_s]
    have ko (k : Nat) (hk : k < 5 ∨ 49 ≤ k) (a2 : k ≠ 2) (a3 : k ≠ 3) : g' k = g k := by rw [← e', upd_o a3, upd_o a2, gpo k hk]
    have km (p : Nat) : mp g' p = mp gp p := by rw [← e', mp_lo (by decide), mp_lo (by decide)]
    rw [e']
    have cc : (g 2).toInt = (g 1).toInt := by rw [c]
    refine ⟨hn0, hn, by rw [ko 0 (by omega) (by omega) (by omega), h0], ?_, ⟨st, hst, by rw [ko 4 (by omega) (by omega) (by omega), est]⟩, Or.inr ⟨?_, k3⟩, fun p hp' => by rw [km]; exact pi_mono (by omega) (pp p hp'), fun s hs => ?_, fun s hs => ?_, fun b hb p q hp' hq' h1 h2 => ?_, q, hq1, by rw [ko 85 (by omega) (by omega) (by omega), hq2]⟩
    · rw [k2, e2, ko 1 (by omega) (by omega) (by omega)]; omega
    · rw [k2, e2, ko 1 (by omega) (by omega) (by omega)]; omega
    · have l := hl s hs
      rw [k2, e2, ko _ (by omega) (by omega) (by omega)]
      exact ⟨l.1, l.2.1, by omega⟩
    · rw [ko _ (by omega) (by omega) (by omega), ko _ (by omega) (by omega) (by omega)]
      exact hs2 s hs
    · rw [km] at h1 h2
      exact uu b hb p q hp' hq' h1 h2
  · rw [if_neg c]
    have ne := ti_ne c
    have S := gi_start (B := B + 10) (n := n) (g := gp) (by omega) hn0 hn (by rw [gpo 0 (by omega), h0]) (by rw [gpo 2 (by omega), gpo 1 (by omega)]; omega) ⟨st, hst, by rw [gpo 4 (by omega), est]⟩ pp (fun s hs => by rw [gpo _ (by omega), gpo 2 (by omega)]; exact hl s hs) uu ⟨q, hq1, by rw [gpo 85 (by omega), hq2]⟩
    rw [show B + 11 = B + 10 + 1 by omega]
    exact S
theorem gi_on {B : Int} {n t : Nat} {g : Nat → Int32} (hB : B ≤ 80000000) (hB3 : 3 ≤ B) (hn0 : 2 ≤ n) (hn : n ≤ 4) (h0 : g 0 = nI n) (hr : 1 ≤ (g 2).toInt ∧ (g 2).toInt ≤ (g 1).toInt ∧ (g 1).toInt ≤ 12) (h4 : ∃ st, st < n ∧ g 4 = nI st) (hp : ∀ p, p < n → PI B (mp g p)) (hl : LI g) (hs2 : SP2 g) (hu : UO n g) (hq : ∃ q, q ≤ 30 ∧ g 85 = nI q) : ∀ d k, GI (B + 11) n (gon n t g d k)
  | 0, _ => gi_end hB hB3 hn0 hn h0 hr h4 hp hl hs2 hu hq
  | d + 1, k => by
    show GI (B + 11) n (if mp g ((t + k) % n) 7 ≤ 0 then gon n t g d (k + 1) else upd g 3 (nI ((t + k) % n)))
    split
    · exact gi_on hB hB3 hn0 hn h0 hr h4 hp hl hs2 hu hq d (k + 1)
    · rename_i w
      have hm : (t + k) % n < n := Nat.mod_lt _ (by omega)
      have w' : ¬ (mp g ((t + k) % n) 7).toInt ≤ 0 := fun z => w (ti_le.mpr (by rw [t0]; exact z))
      obtain ⟨st, hst, est⟩ := h4
      obtain ⟨q, hq1, hq2⟩ := hq
      have km (p : Nat) : mp (upd g 3 (nI ((t + k) % n))) p = mp g p := mp_lo (by decide)
      refine ⟨hn0, hn, by rw [upd_o (by decide), h0], ?_, ⟨st, hst, by rw [upd_o (by decide), est]⟩, Or.inl ⟨?_, (t + k) % n, hm, upd_s, ?_⟩, fun p hp' => by rw [km]; exact pi_mono (by omega) (hp p hp'), fun s hs => ?_, fun s hs => ?_, fun b hb p q hp' hq' h1 h2 => ?_, q, hq1, by rw [upd_o (by decide), hq2]⟩
      · rw [upd_o (by decide), upd_o (by decide)]; omega
      · rw [upd_o (by decide), upd_o (by decide)]; omega
      · rw [km]; omega
      · rw [upd_o (by omega), upd_o (by decide)]; exact hl s hs
      · rw [upd_o (by omega), upd_o (by omega)]; exact hs2 s hs
      · rw [km] at h1 h2
        exact hu b hb p q hp' hq' h1 h2
theorem has_0 {r : Nat → Int32} (h : r 10 = 0) {b : Nat} (hb : b < 8) : P_has r (nI b) = false := by
  rw [has_v (k := 0) (by decide) hb h, Nat.zero_div]
  rfl
theorem gi_begin {n Rn : Nat} {g : Nat → Int32} (hn0 : 2 ≤ n) (hn : n ≤ 4) (hR0 : 1 ≤ Rn) (hR : Rn ≤ 12) : GI 4 n (G_begin n (nI Rn) g) := by
  obtain ⟨gi, eg⟩ : ∃ gi, pfrom P_ini 0 n (upd (upd (G_zero g) 0 (nI n)) 1 (nI Rn)) = gi := ⟨_, rfl⟩
  have gio (k : Nat) (hk : k < 5 ∨ 49 ≤ k) : gi k = upd (upd (G_zero g) 0 (nI n)) 1 (nI Rn) k := by rw [← eg]; exact pfrom_out n 0 _ k (by omega) hk
  have gz (k : Nat) (hk : k < 206) : G_zero g k = 0 := if_pos hk
  have gz' (k : Nat) (hk : k < 5 ∨ 49 ≤ k) (h2 : 2 ≤ k) (hk2 : k < 206) : gi k = 0 := by rw [gio k hk, upd_o (by omega), upd_o (by omega), gz k hk2]
  have gm (p : Nat) (hp : p < n) : mp gi p = P_ini p (fun _ => 0) := by
    rw [← eg, pfrom_mp cut_ini, if_pos (by omega)]
    have : mp (upd (upd (G_zero g) 0 (nI n)) 1 (nI Rn)) p = fun _ => 0 := by
      rw [mp_lo (by decide), mp_lo (by decide)]
      funext j
      unfold mp
      by_cases c : j < 11
      · rw [if_pos c, gz _ (by omega)]
      · rw [if_neg c]
    rw [this]
  have z10 (p : Nat) : P_ini p (fun _ => 0) 10 = 0 := rfl
  have pini (p : Nat) : PI 3 (P_ini p (fun _ => 0)) := by
    refine ⟨fun k hk => ?_, (by decide : 2 ≤ ((2 : Int32)).toInt ∧ ((2 : Int32)).toInt ≤ 5), (by decide : 0 ≤ ((0 : Int32)).toInt ∧ ((0 : Int32)).toInt ≤ ((2 : Int32)).toInt), (by decide : 0 ≤ ((0 : Int32)).toInt ∧ ((0 : Int32)).toInt ≤ 5), (by decide : 2 ≤ ((2 : Int32)).toInt ∧ ((2 : Int32)).toInt ≤ 5), (by decide : 0 ≤ ((0 : Int32)).toInt ∧ ((0 : Int32)).toInt ≤ 3), (by decide : 0 ≤ ((0 : Int32)).toInt ∧ ((0 : Int32)).toInt ≤ 255)⟩
    have : k = 0 ∨ k = 1 ∨ k = 2 ∨ k = 3 ∨ k = 4 := by omega
    rcases this with rfl | rfl | rfl | rfl | rfl
    · exact ⟨by show 0 ≤ (0 : Int32).toInt; decide, by show (0 : Int32).toInt ≤ 3; decide⟩
    · exact ⟨by show 0 ≤ (0 : Int32).toInt; decide, by show (0 : Int32).toInt ≤ 3; decide⟩
    · exact ⟨by show 0 ≤ (0 : Int32).toInt; decide, by show (0 : Int32).toInt ≤ 3; decide⟩
    · exact ⟨by show 0 ≤ (0 : Int32).toInt; decide, by show (0 : Int32).toInt ≤ 3; decide⟩
    · show 0 ≤ (if nI p = 0 then (2 : Int32) else 3).toInt ∧ (if nI p = 0 then (2 : Int32) else 3).toInt ≤ 3
      split <;> decide
  have e1 : gi 1 = nI Rn := by rw [gio 1 (by omega), upd_s]
  have S := gi_start (B := 3) (n := n) (g := gi) (by decide) hn0 hn (by rw [gio 0 (by omega), upd_o (by decide), upd_s]) (by rw [gz' 2 (by omega) (by omega) (by omega), e1, t0, ti_nI (by omega)]; omega) ⟨0, by omega, by rw [gz' 4 (by omega) (by omega) (by omega)]; rfl⟩ (fun p hp => by rw [gm p hp]; exact pini p) (fun s hs => by
      rw [gz' _ (by omega) (by omega) (by omega), gz' 2 (by omega) (by omega) (by omega)]
      exact ⟨fun _ => rfl, by decide, by decide⟩)
    (fun b hb p q hp hq h1 h2 => by
      rw [gm p hp, has_0 (z10 p) hb] at h1
      cases h1)
    ⟨0, by decide, by rw [gz' 85 (by omega) (by omega) (by omega)]; rfl⟩
  have eB : G_begin n (nI Rn) g = G_start n gi := by rw [← eg]; rfl
  rw [eB]
  exact S
