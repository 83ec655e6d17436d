/-! numbers: Int32 by its Int -/
theorem bmod_id {n : Int} (h1 : -2147483648 ≤ n) (h2 : n < 2147483648) : n.bmod 4294967296 = n := by
  rw [Int.bmod_def]
  split <;> omega
theorem ti_add {x y : Int32} (h1 : -2147483648 ≤ x.toInt + y.toInt) (h2 : x.toInt + y.toInt < 2147483648) : (x + y).toInt = x.toInt + y.toInt := by
  rw [Int32.toInt_add]; exact bmod_id h1 h2
theorem ti_sub {x y : Int32} (h1 : -2147483648 ≤ x.toInt - y.toInt) (h2 : x.toInt - y.toInt < 2147483648) : (x - y).toInt = x.toInt - y.toInt := by
  rw [Int32.toInt_sub]; exact bmod_id h1 h2
theorem ti_mul {x y : Int32} (h1 : -2147483648 ≤ x.toInt * y.toInt) (h2 : x.toInt * y.toInt < 2147483648) : (x * y).toInt = x.toInt * y.toInt := by
  rw [Int32.toInt_mul]; exact bmod_id h1 h2
theorem ti_neg {x : Int32} (h1 : -2147483648 < x.toInt) : (-x).toInt = -x.toInt := by
  rw [Int32.toInt_neg]; exact bmod_id (by have := x.toInt_lt; omega) (by omega)
theorem ti_div {x y : Int32} (h1 : 0 ≤ x.toInt) (h2 : 0 < y.toInt) : (x / y).toInt = x.toInt / y.toInt := by
  rw [Int32.toInt_div]
  have h3 := x.toInt_lt
  have h4 : x.toInt.tdiv y.toInt = x.toInt / y.toInt := Int.tdiv_eq_ediv_of_nonneg h1
  have h5 : 0 ≤ x.toInt / y.toInt := Int.ediv_nonneg h1 (Int.le_of_lt h2)
  have h6 : x.toInt / y.toInt ≤ x.toInt := Int.ediv_le_self _ h1
  rw [h4]
  exact bmod_id (by omega) (by omega)
theorem ti_eq {x y : Int32} (h : x.toInt = y.toInt) : x = y := Int32.toInt_inj.mp h
theorem ti_ne {x y : Int32} (h : ¬ x = y) : ¬ x.toInt = y.toInt := fun e => h (ti_eq e)
theorem ti_lt {x y : Int32} : x < y ↔ x.toInt < y.toInt := Int32.lt_iff_toInt_lt
theorem ti_le {x y : Int32} : x ≤ y ↔ x.toInt ≤ y.toInt := Int32.le_iff_toInt_le
theorem ti_cl {x : Int32} (h : 0 ≤ x.toInt) : (x.toNatClampNeg : Int) = x.toInt := by
  show ((x.toInt.toNat : Nat) : Int) = x.toInt
  omega
theorem ti_vp {x : Int32} {n : Nat} (h1 : 0 ≤ x.toInt) (h2 : x.toInt < n) : vp_in x n := vp_in_iff.mpr ⟨h1, h2⟩
theorem ti_nI {n : Nat} (h : n < 2147483648) : (nI n).toInt = n := nI_toInt h
theorem ti_of {x : Int32} (h : 0 ≤ x.toInt) : x = nI x.toInt.toNat := ti_eq (by rw [nI_toInt (by have := x.toInt_lt; omega)]; omega)
theorem ti_jmin (x y : Int32) : (jmin x y).toInt = if y.toInt < x.toInt then y.toInt else x.toInt := by
  unfold jmin
  by_cases h : y < x
  · rw [if_pos h, if_pos (ti_lt.mp h)]
  · rw [if_neg h, if_neg (fun q => h (ti_lt.mpr q))]
theorem ti_jmax (x y : Int32) : (jmax x y).toInt = if x.toInt < y.toInt then y.toInt else x.toInt := by
  unfold jmax
  by_cases h : x < y
  · rw [if_pos h, if_pos (ti_lt.mp h)]
  · rw [if_neg h, if_neg (fun q => h (ti_lt.mpr q))]
theorem and1 (x : Int32) : x &&& 1 = 0 ∨ x &&& 1 = 1 := by
  obtain ⟨j, hj, e⟩ := pk_andE x (m := 1) 1 (by decide)
  have : j = 0 ∨ j = 1 := by omega
  rcases this with rfl | rfl
  · exact Or.inl e
  · exact Or.inr e
theorem bI_t : bI true = 1 := rfl
theorem bI_f : bI false = 0 := rfl
theorem bI_0 {b : Bool} : bI b = 0 ↔ b = false := by cases b <;> decide
theorem upd_s {f : Nat → Int32} {k : Nat} {x : Int32} : upd f k x k = x := if_pos rfl
theorem upd_o {f : Nat → Int32} {k j : Nat} {x : Int32} (h : j ≠ k) : upd f k x j = f j := if_neg h
theorem upd_u {f : Nat → Int32} {k : Nat} {x y : Int32} : upd (upd f k x) k y = upd f k y := by
  funext j
  unfold upd
  split <;> rfl
theorem upd_c {f : Nat → Int32} {k m : Nat} {x y : Int32} (h : k ≠ m) : upd (upd f k x) m y = upd (upd f m y) k x := by
  funext j
  unfold upd
  by_cases h1 : j = m <;> by_cases h2 : j = k <;> simp [h1, h2] <;> omega
/-- a whole row put in -/
def hrow (h : HH) (q : Nat) (r : Nat → Int32) : HH := fun q' => if q' = q then r else h q'
theorem hrow_s {h : HH} {q : Nat} {r : Nat → Int32} : hrow h q r q = r := if_pos rfl
theorem hrow_o {h : HH} {q p : Nat} {r : Nat → Int32} (e : p ≠ q) : hrow h q r p = h p := if_neg e
theorem hset_row (h : HH) (a k : Nat) (v : Int32) : hset h a k v = hrow h a (upd (h a) k v) := rfl
theorem hrow_hrow {h : HH} {q : Nat} {r r' : Nat → Int32} : hrow (hrow h q r) q r' = hrow h q r' := by
  funext p
  unfold hrow
  split <;> rfl
theorem hrow_set {h : HH} {q k : Nat} {r : Nat → Int32} {v : Int32} : hset (hrow h q r) q k v = hrow h q (upd r k v) := by
  rw [hset_row, hrow_s, hrow_hrow]
theorem hrow_self {h : HH} {q : Nat} : hrow h q (h q) = h := by
  funext p
  unfold hrow
  split
  · rename_i e; rw [e]
  · rfl
