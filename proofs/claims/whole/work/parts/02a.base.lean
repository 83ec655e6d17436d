/-! MY LAYER. The object graph never changes behind the constructors, so a heap is a function of address and slot to Int32 ('HH'), under a fixed layout. -/
abbrev HH : Type := Nat → Nat → Int32
abbrev Sh : Type := (Nat → Int32) → va_E
abbrev Lay : Type := Nat → Option Sh
/-- what is fixed in a run: numbers of classes and slots, array classes, layout, first own address, addresses of the static arrays -/
abbrev Cx : Type := va_G × (Nat → ClassId) × Lay × Nat × (Nat → Nat)
abbrev xD (X : Cx) : va_G := X.1
abbrev xk (X : Cx) : Nat → ClassId := X.2.1
abbrev xL (X : Cx) : Lay := X.2.2.1
abbrev xz (X : Cx) : Nat := X.2.2.2.1
abbrev xt (X : Cx) : Nat → Nat := X.2.2.2.2
abbrev xA (X : Cx) : Nat → Prop := fun q => xz X ≤ q
abbrev xT (X : Cx) : List (ClassId × FieldType) := [(xk X 0, .int), (xk X 1, .object "VillageBoard$Player"), (xk X 2, .object "VillageBoard$Game"), (xk X 3, .array .int), (xk X 4, .long)]
def hset (h : HH) (a k : Nat) (v : Int32) : HH := fun q => if q = a then upd (h a) k v else h q
theorem hset_s (h : HH) (a k : Nat) (v : Int32) : hset h a k v a = upd (h a) k v := if_pos rfl
theorem hset_o (h : HH) (a k : Nat) (v : Int32) {q : Nat} (hq : q ≠ a) : hset h a k v q = h q := if_neg hq
/-- a row of a cell taken over from another: System.arraycopy -/
def hcpy (h : HH) (a0 a sp dp n : Nat) : HH := fun q => if q = a then va_cpy (h a0) (h a) sp dp n else h q
theorem hcpy_s (h : HH) (a0 a sp dp n : Nat) : hcpy h a0 a sp dp n a = va_cpy (h a0) (h a) sp dp n := if_pos rfl
theorem hcpy_o (h : HH) (a0 a sp dp n : Nat) {q : Nat} (hq : q ≠ a) : hcpy h a0 a sp dp n q = h q := if_neg hq
def bI (b : Bool) : Int32 := if b = true then 1 else 0
/-- a long in two slots -/
def LJ (x y : Int32) : Int64 := ⟨⟨x.toBitVec ++ y.toBitVec⟩⟩
def LHi (v : Int64) : Int32 := ⟨⟨v.toBitVec.extractLsb' 32 32⟩⟩
def LLo (v : Int64) : Int32 := ⟨⟨v.toBitVec.extractLsb' 0 32⟩⟩
theorem LJ_eq (v : Int64) : LJ (LHi v) (LLo v) = v := by
  obtain ⟨⟨b⟩⟩ := v
  show (⟨⟨b.extractLsb' 32 32 ++ b.extractLsb' 0 32⟩⟩ : Int64) = ⟨⟨b⟩⟩
  congr 2
  ext i hi
  simp only [BitVec.getElem_append, BitVec.getElem_extractLsb']
  split
  · simp [BitVec.getLsbD_eq_getElem (by omega : i < 64)]
  · rw [show 32 + (i - 32) = i by omega]
    exact BitVec.getLsbD_eq_getElem hi
def hsetL (h : HH) (a k j : Nat) (v : Int64) : HH := hset (hset h a k (LHi v)) a j (LLo v)
-- shapes of cells
def shI (X : Cx) (n : Nat) : Sh := fun r => .inl (xk X 0, n, .inl r)
def shR (X : Cx) (i n : Nat) (f : Nat → Nat) : Sh := fun _ => .inl (xk X i, n, .inr (.inr (.inr (.inr (fun k => some (f k))))))
def shJ (X : Cx) (n : Nat) : Sh := fun r => .inl (xk X 4, n, .inr (.inl (fun k => LJ (r (2 * k)) (r (2 * k + 1)))))
def shGm (a : Nat) : Sh := fun r => .inr (0, [.int (r 0), .int (r 1), .int (r 2), .int (r 3), .int (r 4), .ref (a + 1), .ref (a + 2), .ref (a + 3), .ref (a + 4), .ref (a + 5)])
def shHi (a : Nat) : Sh := fun r => .inr (1, [.ref (a + 1), .int (r 1), .int (r 2)])
def shPl (a : Nat) : Sh := fun r => .inr (2, [.ref (a + 1), .int (r 1), .int (r 2), .int (r 3), .int (r 4), .int (r 5), .int (r 6)])
def shSe (a : Nat) : Sh := fun r => .inr (3, [.ref (a + 1), .ref (a + 16), .ref (a + 17), .ref (a + 19), .ref (a + 23), .ref (a + 24), .int (r 6), .int (r 7), .int (r 8)])
def shUn (a : Nat) : Sh := fun r => .inr (4, [.ref (a + 1), .int (r 1), .int (r 2)])
def shBd (a : Nat) : Sh := fun _ => .inr (5, [.ref (a + 1), .ref (a + 16), .ref (a + 78), .ref (a + 109)])
def shMo (a : Nat) : Sh := fun r => .inr (6, [.ref (a + 1), .ref (a + 2), .ref (a + 3), .int (r 3), .int (r 4), .ref (a + 4), .ref (a + 5), .int (r 7), .int (r 8), .long (LJ (r 9) (r 10))])
-- where the objects lie
def IsPl (X : Cx) (a : Nat) : Prop := xL X a = some (shPl a) ∧ xL X (a + 1) = some (shI X 5)
def IsHi (X : Cx) (a : Nat) : Prop := xL X a = some (shHi a) ∧ xL X (a + 1) = some (shI X 120)
def IsGm (X : Cx) (a : Nat) : Prop := xL X a = some (shGm a) ∧ xL X (a + 1) = some (shR X 1 4 (fun k => a + 7 + 2 * k)) ∧ xL X (a + 2) = some (shI X 12) ∧ xL X (a + 3) = some (shI X 12) ∧ xL X (a + 4) = some (shI X 12) ∧ IsHi X (a + 5) ∧ ∀ k, k < 4 → IsPl X (a + 7 + 2 * k)
def IsUn (X : Cx) (a : Nat) : Prop := xL X a = some (shUn a) ∧ xL X (a + 1) = some (shR X 2 4 (fun k => a + 2 + 15 * k)) ∧ ∀ k, k < 4 → IsGm X (a + 2 + 15 * k)
def IsSe (X : Cx) (a : Nat) : Prop := xL X a = some (shSe a) ∧ IsGm X (a + 1) ∧ xL X (a + 16) = some (shR X 1 3 (fun k => a + 25 + 2 * k)) ∧ IsPl X (a + 17) ∧ xL X (a + 19) = some (shR X 3 3 (fun k => a + 20 + k)) ∧ (∀ k, k < 3 → xL X (a + 20 + k) = some (shI X 40)) ∧ xL X (a + 23) = some (shI X 3) ∧ xL X (a + 24) = some (shI X 3) ∧ ∀ k, k < 3 → IsPl X (a + 25 + 2 * k)
def IsBd (X : Cx) (a : Nat) : Prop := xL X a = some (shBd a) ∧ IsGm X (a + 1) ∧ IsUn X (a + 16) ∧ IsSe X (a + 78) ∧ xL X (a + 109) = some (shI X 40)
def IsMo (X : Cx) (a : Nat) : Prop := xL X a = some (shMo a) ∧ xL X (a + 1) = some (shI X 206) ∧ xL X (a + 2) = some (shI X 824) ∧ xL X (a + 3) = some (shI X 824) ∧ xL X (a + 4) = some (shI X 4) ∧ xL X (a + 5) = some (shI X 4)
def IsI (X : Cx) (n a : Nat) : Prop := xL X a = some (shI X n)
-- the world of a run
def WH (X : Cx) (h : HH) (H : Heap) : Prop := ∀ a f, xL X a = some f → xz X ≤ a ∧ va_at (xD X) vwCl (a, f (h a)) H
-- static arrays
def tbl (l : List Int32) : Nat → Int32 := fun j => l.getD j 0
abbrev tPLACES : Nat → Int32 := tbl [1, 1, 1, 1, 2, 1, 1, 1, 1, 2, 1, 2]
abbrev tSUPPLY : Nat → Int32 := tbl [3, 2, 0, 1, 0, 1, 0, 0, 0, 0, 0, 0]
abbrev tFIRST_CHOICE : Nat → Int32 := tbl [0, 0, 0, 0, 0, 0, 0, 0, 1, 0, 0, 0]
abbrev tLAST_CHOICE : Nat → Int32 := tbl [0, 0, 0, 0, 0, 0, 0, 0, 3, 7, 0, 24]
abbrev tWOOD_PRICE : Nat → Int32 := tbl [4, 0, 2, 2, 1, 3, 0, 1, 0]
abbrev tCLAY_PRICE : Nat → Int32 := tbl [1, 3, 1, 0, 1, 0, 2, 0, 1]
abbrev tBUILDING_POINTS : Nat → Int32 := tbl [2, 2, 1, 1, 1, 2, 1, 1]
def ST1 (own : String) (ix : Nat) (n : String) (N : Nat) (f : Nat → Int32) (t : Nat) (A : Nat → Prop) (U : State) : Prop :=
  va_Nw (.fieldLinkNest own ix "VillageBoard" n "[I" "VillageBoard") U ∧ va_Z "VillageBoard" n "[I" (.ref t) A U U.heap ∧ va_T .int t N (fun j => .int (f j)) A U U.heap
def ST (X : Cx) (U : State) : Prop :=
  ST1 "VillageBoard$Game" 74 "SUPPLY" 12 tSUPPLY (xt X 0) (xA X) U ∧ ST1 "VillageBoard$Game" 143 "PLACES" 12 tPLACES (xt X 1) (xA X) U ∧
  ST1 "VillageBoard$Game" 146 "FIRST_CHOICE" 12 tFIRST_CHOICE (xt X 2) (xA X) U ∧ ST1 "VillageBoard$Game" 149 "LAST_CHOICE" 12 tLAST_CHOICE (xt X 3) (xA X) U ∧
  ST1 "VillageBoard$Player" 40 "WOOD_PRICE" 9 tWOOD_PRICE (xt X 4) (xA X) U ∧ ST1 "VillageBoard$Player" 43 "CLAY_PRICE" 9 tCLAY_PRICE (xt X 5) (xA X) U ∧
  ST1 "VillageBoard$Player" 75 "BUILDING_POINTS" 8 tBUILDING_POINTS (xt X 6) (xA X) U
/-- what a throw and a catch rest on -/
def KX (A : Nat → Prop) (U : State) : Prop :=
  vx_Zq Bundle.tN "UNASSIGNED_STACK" Bundle.steD A U U.heap ∧ vx_Zq Bundle.tN "SUPPRESSED_SENTINEL" Bundle.listD A U U.heap ∧
  (∃ sa, vk_R "VillageBoard" 181 "an argument is out of range" sa U) ∧ (∃ sa, vk_R "VillageBoard" 174 "there is no such one" sa U) ∧ (∃ sa, vk_R "VillageBoard" 186 "this is impossible now" sa U) ∧
  (va_Nw (.declares ⟨"java/lang/RuntimeException", "<init>", "(Ljava/lang/String;)V"⟩) U ∧ va_Nw (.declares ⟨"java/lang/Exception", "<init>", "(Ljava/lang/String;)V"⟩) U ∧ va_Nw (.declares ⟨"java/lang/Throwable", "<init>", "(Ljava/lang/String;)V"⟩) U) ∧
  (va_Nw (.castable "java/lang/IllegalArgumentException" "java/lang/IllegalArgumentException") U ∧ va_Nw (.castable "java/lang/IndexOutOfBoundsException" "java/lang/IndexOutOfBoundsException") U ∧ va_Nw (.castable "java/lang/IllegalStateException" "java/lang/IllegalStateException") U) ∧
  va_Nc "java/lang/IllegalStateException" "java/lang/IndexOutOfBoundsException" U ∧ va_Nc "java/lang/IllegalArgumentException" "java/lang/IndexOutOfBoundsException" U
theorem KX.go {A : Nat → Prop} {s U : State} {locs : List Loc} (h : KX A s) (hW : s.WarmedH U.vm) (hS : va_S A s.heap U.heap locs) : KX A U := by
  obtain ⟨a0, a1, ⟨s1, b1⟩, ⟨s2, b2⟩, ⟨s3, b3⟩, ⟨d1, d2, d3⟩, ⟨e1, e2, e3⟩, n1, n2⟩ := h
  exact ⟨(a0.moved hW.alike).kept hS.2.1, (a1.moved hW.alike).kept hS.2.1, ⟨s1, b1.warm hW⟩, ⟨s2, b2.warm hW⟩, ⟨s3, b3.warm hW⟩, ⟨va_Nw.warmD hW d1, va_Nw.warmD hW d2, va_Nw.warmD hW d3⟩, ⟨va_Nw.warmC hW e1, va_Nw.warmC hW e2, va_Nw.warmC hW e3⟩, n1.moved hW.alike, n2.moved hW.alike⟩
theorem KX.calling {A : Nat → Prop} {U : State} {g : JFrame} {mk : MethodId} {a : Array Value} (h : KX A U) : KX A (U.calling g mk a) := by
  obtain ⟨a0, a1, ⟨s1, b1⟩, ⟨s2, b2⟩, ⟨s3, b3⟩, ⟨d1, d2, d3⟩, ⟨e1, e2, e3⟩, n1, n2⟩ := h
  exact ⟨a0.moved (Vm.Alike.refl U.vm), a1.moved (Vm.Alike.refl U.vm), ⟨s1, vk_R.same rfl b1⟩, ⟨s2, vk_R.same rfl b2⟩, ⟨s3, vk_R.same rfl b3⟩, ⟨va_Nw.same rfl rfl d1, va_Nw.same rfl rfl d2, va_Nw.same rfl rfl d3⟩, ⟨va_Nw.same rfl rfl e1, va_Nw.same rfl rfl e2, va_Nw.same rfl rfl e3⟩, n1.moved (Vm.Alike.refl U.vm), n2.moved (Vm.Alike.refl U.vm)⟩
def KS (X : Cx) (U : State) : Prop := va_K (xD X) vwCl (xT X) U ∧ ST X U ∧ xz X ≤ U.heap.size ∧ KX (xA X) U
def WS (X : Cx) (h : HH) (U : State) : Prop := WH X h U.heap ∧ KS X U
theorem ST1.go {own : String} {ix : Nat} {n : String} {N : Nat} {f : Nat → Int32} {t : Nat} {A : Nat → Prop} {s U : State} {locs : List Loc} (h : ST1 own ix n N f t A s) (hW : s.WarmedH U.vm) (hS : va_S A s.heap U.heap locs) : ST1 own ix n N f t A U :=
  ⟨va_Nw.warmF hW h.1, (va_Z.moved hW.alike h.2.1).kept hS.2.1, (va_T.moved hW.alike h.2.2).kept hS.2.1⟩
theorem KS.go {X : Cx} {s U : State} {locs : List Loc} (h : KS X s) (hW : s.WarmedH U.vm) (hS : va_S (xA X) s.heap U.heap locs) : KS X U := by
  obtain ⟨hK, ⟨a0, a1, a2, a3, a4, a5, a6⟩, hz, hX⟩ := h
  exact ⟨hK.moved hW.alike, ⟨a0.go hW hS, a1.go hW hS, a2.go hW hS, a3.go hW hS, a4.go hW hS, a5.go hW hS, a6.go hW hS⟩, Nat.le_trans hz hS.1, hX.go hW hS⟩
theorem ST1.calling {own : String} {ix : Nat} {n : String} {N : Nat} {f : Nat → Int32} {t : Nat} {A : Nat → Prop} {U : State} {g : JFrame} {mk : MethodId} {a : Array Value} (h : ST1 own ix n N f t A U) : ST1 own ix n N f t A (U.calling g mk a) :=
  ⟨va_Nw.same rfl rfl h.1, va_Z.moved (Vm.Alike.refl U.vm) h.2.1, va_T.moved (Vm.Alike.refl U.vm) h.2.2⟩
theorem KS.calling {X : Cx} {U : State} {g : JFrame} {mk : MethodId} {a : Array Value} (h : KS X U) : KS X (U.calling g mk a) := by
  obtain ⟨hK, ⟨a0, a1, a2, a3, a4, a5, a6⟩, hz, hX⟩ := h
  exact ⟨va_K.moved (Vm.Alike.refl U.vm) hK, ⟨a0.calling, a1.calling, a2.calling, a3.calling, a4.calling, a5.calling, a6.calling⟩, hz, hX.calling⟩
theorem WS.blind {X : Cx} {h : HH} {av : List Value} : FrameBlind (va_Pc av (fun U => WS X h U)) := fun _ _ _ _ q => ⟨q.1, q.2.1, q.2.2.calling⟩
theorem WH.one {X : Cx} {h : HH} {H : Heap} (hW : WH X h H) {a : Nat} {f : Sh} (hL : xL X a = some f) : va_P (xD X) vwCl [(a, f (h a))] H := by
  intro k q hq
  have hk : k < 1 := (List.getElem?_eq_some_iff.mp hq).1
  obtain rfl : k = 0 := by omega
  cases hq
  exact (hW a f hL).2
theorem WH.at {X : Cx} {h : HH} {H : Heap} (hW : WH X h H) {a : Nat} {f : Sh} (hL : xL X a = some f) {e : va_E} (he : f (h a) = e) : va_at (xD X) vwCl (a, e) H := by
  rw [← he]; exact (hW a f hL).2
/-- one cell is written, the others stay -/
theorem WH.upd {X : Cx} {h h' : HH} {H H1 : Heap} (hW : WH X h H) {a : Nat} {f : Sh} (hL : xL X a = some f) (he : va_at (xD X) vwCl (a, f (h' a)) H1) (ho : ∀ q, q ≠ a → h' q = h q) (oq : ∀ q : Nat, q ≠ a → H1[q]? = H[q]?) : WH X h' H1 := by
  intro b g hb
  by_cases hab : b = a
  · subst hab
    cases hL.symm.trans hb
    exact ⟨(hW b f hL).1, he⟩
  · refine ⟨(hW b g hb).1, ?_⟩
    rw [ho b hab]
    exact ((hW b g hb).2).kept (oq b hab)
-- what a method leaves behind
def QI (X : Cx) (v : Int32) (h : HH) : Array Value → State → Outcome → State → Prop := fun _ st oc t => oc = .returned (some (.int v)) ∧ WS X h t ∧ va_F (xA X) st t
def QJ (X : Cx) (v : Int64) (h : HH) : Array Value → State → Outcome → State → Prop := fun _ st oc t => oc = .returned (some (.long v)) ∧ WS X h t ∧ va_F (xA X) st t
def QV (X : Cx) (h : HH) : Array Value → State → Outcome → State → Prop := fun _ st oc t => oc = .returned none ∧ WS X h t ∧ va_F (xA X) st t
section KB
variable {p : Program} {l : Launch} {e : Env} {R : Room} {s : State} {m : MethodId} {args : Array Value} {below : List Frame} {meth : Method} {c : Code} {H : Heap} {locs : List Loc} {cells slots : Nat} {Q : State → Prop}
variable {cc : ByteArray} {pc : Nat} {ls : Array Slot} {rest : List Value} {X : Cx} {h : HH} {a : Nat}
theorem WS.pre (hK : KS X s) (hW : WH X h H) (hS : va_S (xA X) s.heap H locs) {As : List Value} : ∀ U : State, U.heap = H → s.WarmedH U.vm → va_Pc As (fun U => WS X h U) As.toArray U :=
  fun U hU hw => ⟨rfl, by rw [hU]; exact hW, hK.go hw (by rw [hU]; exact hS)⟩
theorem kr_i (hx : p.tables.exec = Jvm.exec) (hb : c.code = cc) (hr : meth.sig.returnType = some .int) (hl : meth.locks = false) (hK : KS X s) (hW : WH X h H) (hS : va_S (xA X) s.heap H locs) {v : Int32} (hd : decode cc pc = .ok (.ireturn, 1)) :
    W p l e R s m args below meth c H locs cells slots (MQ below (QI X v h) args s cells slots (xA X)) (F0 m pc ls [.int v]) :=
  W.iret hx hb hr (fun t ht hw => ⟨rfl, ⟨by rw [ht]; exact hW, hK.go hw (by rw [ht]; exact hS)⟩, hS.F ht⟩) hS.2.2 hd hl
theorem kr_z (hx : p.tables.exec = Jvm.exec) (hb : c.code = cc) (hr : meth.sig.returnType = some .boolean) (hl : meth.locks = false) (hK : KS X s) (hW : WH X h H) (hS : va_S (xA X) s.heap H locs) {v : Bool} (hd : decode cc pc = .ok (.ireturn, 1)) :
    W p l e R s m args below meth c H locs cells slots (MQ below (QI X (bI v) h) args s cells slots (xA X)) (F0 m pc ls [.int (bI v)]) :=
  W.zret hx hb hr (by cases v <;> rfl) (fun t ht hw => ⟨rfl, ⟨by rw [ht]; exact hW, hK.go hw (by rw [ht]; exact hS)⟩, hS.F ht⟩) hS.2.2 hd hl
theorem kr_v (hx : p.tables.exec = Jvm.exec) (hb : c.code = cc) (hr : meth.sig.returnType = none) (hl : meth.locks = false) (hK : KS X s) (hW : WH X h H) (hS : va_S (xA X) s.heap H locs) (hd : decode cc pc = .ok (.return_, 1)) :
    W p l e R s m args below meth c H locs cells slots (MQ below (QV X h) args s cells slots (xA X)) (F0 m pc ls []) :=
  W.vret hx hb hr (fun t ht hw => ⟨rfl, ⟨by rw [ht]; exact hW, hK.go hw (by rw [ht]; exact hS)⟩, hS.F ht⟩) hS.2.2 hd hl
theorem kr_l (hx : p.tables.exec = Jvm.exec) (hb : c.code = cc) (hr : meth.sig.returnType = some .long) (hl : meth.locks = false) (hK : KS X s) (hW : WH X h H) (hS : va_S (xA X) s.heap H locs) {v : Int64} (hd : decode cc pc = .ok (.lreturn, 1)) :
    W p l e R s m args below meth c H locs cells slots (MQ below (QJ X v h) args s cells slots (xA X)) (F0 m pc ls [.long v]) :=
  W.lret hx hb hr (fun t ht hw => ⟨rfl, ⟨by rw [ht]; exact hW, hK.go hw (by rw [ht]; exact hS)⟩, hS.F ht⟩) hS.2.2 hd
-- calls
theorem kc_i {st0 : List Value} {mc ms : Nat} {av : Array Value} {v : Int32} {h' : HH} (hr : va_Run p l e R s m args below meth c H locs cells slots mc ms (F0 m pc ls st0) rest (QI X v h' av) (xA X)) (hS : va_S (xA X) s.heap H locs)
    (kk : ∀ (H1 : Heap) (locs1 : List Loc), WH X h' H1 → va_S (xA X) s.heap H1 locs1 → W p l e R s m args below meth c H1 locs1 (cells + mc) (slots + ms) Q (F0 m (pc + 3) ls (.int v :: rest))) : W p l e R s m args below meth c H locs cells slots Q (F0 m pc ls st0) := by
  intro T hT Xs
  obtain ⟨v0, st₀, t, T', L, h0, X', hL, e1, e2, ⟨hv, hws, hz, hk⟩, st⟩ := hr T hT Xs
  cases hv
  rw [h0] at hz hk
  obtain ⟨t2, a1, b1⟩ := kk T'.heap (locs ++ L) (by rw [e1]; exact hws.1)
    ⟨Nat.le_trans hS.1 (by rw [e1]; exact hz), fun q h1 h2 => by rw [e1, hk q (Nat.lt_of_lt_of_le h1 hS.1) h2]; exact hS.2.1 q h1 h2, fun q hq => by
      rcases List.mem_append.mp hq with h | h
      · exact hS.2.2 q h
      · exact hL q h⟩ T' rfl X'
  exact ⟨t2, st t2 a1, b1⟩
theorem kc_l {st0 : List Value} {mc ms : Nat} {av : Array Value} {v : Int64} {h' : HH} (hr : va_Run p l e R s m args below meth c H locs cells slots mc ms (F0 m pc ls st0) rest (QJ X v h' av) (xA X)) (hS : va_S (xA X) s.heap H locs)
    (kk : ∀ (H1 : Heap) (locs1 : List Loc), WH X h' H1 → va_S (xA X) s.heap H1 locs1 → W p l e R s m args below meth c H1 locs1 (cells + mc) (slots + ms) Q (F0 m (pc + 3) ls (.long v :: rest))) : W p l e R s m args below meth c H locs cells slots Q (F0 m pc ls st0) := by
  intro T hT Xs
  obtain ⟨v0, st₀, t, T', L, h0, X', hL, e1, e2, ⟨hv, hws, hz, hk⟩, st⟩ := hr T hT Xs
  cases hv
  rw [h0] at hz hk
  obtain ⟨t2, a1, b1⟩ := kk T'.heap (locs ++ L) (by rw [e1]; exact hws.1)
    ⟨Nat.le_trans hS.1 (by rw [e1]; exact hz), fun q h1 h2 => by rw [e1, hk q (Nat.lt_of_lt_of_le h1 hS.1) h2]; exact hS.2.1 q h1 h2, fun q hq => by
      rcases List.mem_append.mp hq with h | h
      · exact hS.2.2 q h
      · exact hL q h⟩ T' rfl X'
  exact ⟨t2, st t2 a1, b1⟩
theorem kc_v {st0 : List Value} {mc ms : Nat} {av : Array Value} {h' : HH} (hr : va_Run p l e R s m args below meth c H locs cells slots mc ms (F0 m pc ls st0) rest (QV X h' av) (xA X)) (hS : va_S (xA X) s.heap H locs)
    (kk : ∀ (H1 : Heap) (locs1 : List Loc), WH X h' H1 → va_S (xA X) s.heap H1 locs1 → W p l e R s m args below meth c H1 locs1 (cells + mc) (slots + ms) Q (F0 m (pc + 3) ls rest)) : W p l e R s m args below meth c H locs cells slots Q (F0 m pc ls st0) := by
  intro T hT Xs
  obtain ⟨v0, st₀, t, T', L, h0, X', hL, e1, e2, ⟨hv, hws, hz, hk⟩, st⟩ := hr T hT Xs
  cases hv
  rw [h0] at hz hk
  obtain ⟨t2, a1, b1⟩ := kk T'.heap (locs ++ L) (by rw [e1]; exact hws.1)
    ⟨Nat.le_trans hS.1 (by rw [e1]; exact hz), fun q h1 h2 => by rw [e1, hk q (Nat.lt_of_lt_of_le h1 hS.1) h2]; exact hS.2.1 q h1 h2, fun q hq => by
      rcases List.mem_append.mp hq with h | h
      · exact hS.2.2 q h
      · exact hL q h⟩ T' rfl X'
  exact ⟨t2, st t2 a1, b1⟩
-- fields
theorem kb_get (hexec : p.tables.exec = Jvm.exec) (hb : c.code = cc) {own ref C : String} {T : u_T} {N ci index : Nat} {Ts : List Cond} (hts : ∀ w ∈ Ts, w.before args s = true) (hin : ∀ w ∈ u_ws C T N, w ∈ Ts) (hown : s.vm.findClass own = some m.cls) (hK : KS X s) (hW : WH X h H) {f : Sh} (hL : xL X a = some f) {fs : List Value} (hf : f (h a) = .inr (ci, fs)) (hc : vwCl[ci]? = some (C, T, N)) (k : Nat) (hk : k < N) (href : (T k).1 = ref)
    (hlink : (Cond.fieldLink own index ref (T k).2.1 (T k).2.2.1).before args s = true) {v : Value} (hv : fs[k]? = some v) (hdg : decode cc pc = .ok (.getfield index, 3))
    (kk : W p l e R s m args below meth c H locs cells slots Q (F0 m (pc + 3) ls (v :: rest))) : W p l e R s m args below meth c H locs cells slots Q (F0 m pc ls (.ref a :: rest)) :=
  va_get hexec hb hts hin hown hK.1 (hW.one hL) 0 (by rw [hf]; rfl) hc k hk hlink (fun x hx => by rw [← href]; exact hx) hv hdg kk
theorem kb_put (hexec : p.tables.exec = Jvm.exec) (hb : c.code = cc) {own ref C : String} {T : u_T} {N ci index : Nat} {Ts : List Cond} (hts : ∀ w ∈ Ts, w.before args s = true) (hin : ∀ w ∈ u_ws C T N, w ∈ Ts) (ty0 : Nat → FieldType) (hty : ∀ k, k < N → parseFieldDescriptor (T k).2.2.1 = some (ty0 k)) (hnm : ∀ a, a < N → ∀ b, b < N → a ≠ b → (T a).2.1 ≠ (T b).2.1) (hown : s.vm.findClass own = some m.cls) (hK : KS X s) (hW : WH X h H) (hS0 : va_S (xA X) s.heap H locs) {f : Sh} (hL : xL X a = some f) {fs : List Value} (hf : f (h a) = .inr (ci, fs)) (hc : vwCl[ci]? = some (C, T, N)) (k : Nat) (hk : k < N) (href : (T k).1 = ref)
    (hlink : (Cond.fieldLink own index ref (T k).2.1 (T k).2.2.1).before args s = true) (hfin : (T k).2.2.2 = false) {ty : FieldType} {v : Value} (hd : parseFieldDescriptor (T k).2.2.1 = some ty) (hn : narrow ty v = v) (hfit : fits ty v = true) (hl : k < fs.length) {h' : HH} (hf' : f (h' a) = .inr (ci, fs.set k v)) (ho : ∀ q, q ≠ a → h' q = h q)
    (hdg : decode cc pc = .ok (.putfield index, 3)) (kk : ∀ (H1 : Heap) (locs1 : List Loc), WH X h' H1 → va_S (xA X) s.heap H1 locs1 → W p l e R s m args below meth c H1 locs1 cells slots Q (F0 m (pc + 3) ls rest)) : W p l e R s m args below meth c H locs cells slots Q (F0 m pc ls (v :: .ref a :: rest)) := by
  have hap := va_apart (own := own) hts hin ty0 hty hnm hK.1 hc
  obtain ⟨r, h1, cell, q1, q2, q3, q4⟩ := hW.at hL hf
  have hr : r = (C, T, N) := Option.some.inj (h1.symm.trans hc)
  subst hr
  obtain ⟨hS, hfc, kC, hkC, hkind⟩ := hK.1.1 ci _ hc
  obtain ⟨cf, kf, fi, fd, hi, hsl⟩ := hS k hk
  have hlay := hts _ (hin _ (u_in_lay hk))
  unfold u_lay at hlay
  rw [if_neg (by rw [hfin]; decide)] at hlay
  have hst := (u_facts hfc hkC (u_lays hts hin hk) hi).1
  have h6 := u_store hfc hkC hkind hlay hi hd hn hfit
  refine W.putK hexec hb (f := fd) ⟨hown, hlink, ⟨_, _, _, by rw [← href]; exact hi⟩, hst⟩ (by rw [q2]; exact h6) q1 q3 (by rw [hsl]; exact k2_hasslot (q4 k hk)) rfl rfl hdg fun H' e1 e2 e3 => ?_
  rw [hsl] at e1 ⊢
  refine kk H' _ (hW.upd hL ?_ ho e3) (hS0.put e2 e3 (hW a f hL).1)
  rw [hf']
  exact ⟨_, hc, t_OB.to (V := updV (vp_V fs) k v) ⟨_, e1, q2, q3, t_set q4 hap hk v⟩ (fun j _ => vp_updV_set hl v j)⟩
-- arrays
theorem kb_iald (hexec : p.tables.exec = Jvm.exec) (hb : c.code = cc) (hK : KS X s) (hW : WH X h H) {n : Nat} (hL : xL X a = some (shI X n)) {i : Int32} {k : Nat} (hk : i.toNatClampNeg = k) (hin : vp_in i n) (hdg : decode cc pc = .ok (.iaload, 1))
    (kk : W p l e R s m args below meth c H locs cells slots Q (F0 m (pc + 1) ls (.int (h a k) :: rest))) : W p l e R s m args below meth c H locs cells slots Q (F0 m pc ls (.int i :: .ref a :: rest)) := by
  subst hk
  exact va_iald hexec hb hK.1 (hW.one hL) 0 0 (f := h a) rfl rfl hin hdg kk
theorem kb_iast (hexec : p.tables.exec = Jvm.exec) (hb : c.code = cc) (hK : KS X s) (hW : WH X h H) (hS : va_S (xA X) s.heap H locs) {n : Nat} (hL : xL X a = some (shI X n)) {i x : Int32} {k : Nat} (hk : i.toNatClampNeg = k) (hin : vp_in i n) (hdg : decode cc pc = .ok (.iastore, 1))
    (kk : ∀ (H1 : Heap) (locs1 : List Loc), WH X (hset h a k x) H1 → va_S (xA X) s.heap H1 locs1 → W p l e R s m args below meth c H1 locs1 cells slots Q (F0 m (pc + 1) ls rest)) : W p l e R s m args below meth c H locs cells slots Q (F0 m pc ls (.int x :: .int i :: .ref a :: rest)) := by
  subst hk
  have hc0 : H[a]? = some (vp_cell (xk X 0) (n, .inl (h a))) := (hW a _ hL).2
  refine W.iast hexec hb hc0 ((hK.1.2 0 _ rfl).1 n (fun j => .int (h a j))) (fun q => by cases q) (by show ¬ (i < 0 ∨ (arrV _ _ _).slots.size ≤ _); rw [arrV_size]; exact hin) rfl rfl hdg fun H1 e z oq => ?_
  refine kk H1 _ (hW.upd hL ?_ (fun q hq => hset_o _ _ _ _ hq) oq) (hS.put z oq (hW a _ hL).1)
  rw [hset_s]
  show H1[a]? = some (vp_cell _ (n, .inl _))
  rw [e]
  rw [vp_cell_i, vp_cell_i, arrV_store]
  congr 2
  funext q
  by_cases hq : q = i.toNatClampNeg
  · subst hq
    simp [updV, upd]
  · simp [updV, upd, hq]
theorem kb_aald (hexec : p.tables.exec = Jvm.exec) (hb : c.code = cc) (hK : KS X s) (hW : WH X h H) {j n : Nat} {f : Nat → Nat} (hL : xL X a = some (shR X j n f)) {ty : FieldType} (hj : (xT X)[j]? = some (xk X j, ty)) (hty : ty.isReference = true) {i : Int32} {k : Nat} (hk : i.toNatClampNeg = k) (hin : vp_in i n) {r : Nat} (hr : f k = r) (hdg : decode cc pc = .ok (.aaload, 1))
    (kk : W p l e R s m args below meth c H locs cells slots Q (F0 m (pc + 1) ls (.ref r :: rest))) : W p l e R s m args below meth c H locs cells slots Q (F0 m pc ls (.int i :: .ref a :: rest)) := by
  subst hk
  subst hr
  have hlt : i.toNatClampNeg < n := Nat.not_le.mp fun q => hin (Or.inr q)
  have hc0 : H[a]? = some (vp_cell (xk X j) (n, .inr (.inr (.inr (.inr (fun k => some (f k))))))) := (hW a _ hL).2
  exact W.aald (v := .ref (f i.toNatClampNeg)) (ty := ty) hexec hb hc0 ((hK.1.2 j _ hj).1 n (fun j => va_rf (some (f j)))) hty (fun q => by cases q) (by show ¬ (i < 0 ∨ (arrV _ _ _).slots.size ≤ _); rw [arrV_size]; exact hin) (by show (arrV _ _ _).slots[_]? = _; rw [arrV_read _ _ hlt]; rfl) rfl rfl hdg kk
theorem kb_alen (hexec : p.tables.exec = Jvm.exec) (hb : c.code = cc) (hK : KS X s) (hW : WH X h H) {n : Nat} (hL : xL X a = some (shI X n)) {v : Int32} (hv : Int32.ofNat n = v) (hdg : decode cc pc = .ok (.arraylength, 1))
    (kk : W p l e R s m args below meth c H locs cells slots Q (F0 m (pc + 1) ls (.int v :: rest))) : W p l e R s m args below meth c H locs cells slots Q (F0 m pc ls (.ref a :: rest)) :=
  va_alen hexec hb hK.1 (hW.one hL) 0 0 (x := (n, .inl (h a))) rfl rfl hv hdg kk
-- static arrays
theorem kb_gets (hexec : p.tables.exec = Jvm.exec) (hb : c.code = cc) {own n : String} {ix N t : Nat} {f : Nat → Int32} (hZ : ST1 own ix n N f t (xA X) s) (hS : va_S (xA X) s.heap H locs) (hown : s.vm.findClass own = some m.cls) (hdg : decode cc pc = .ok (.getstatic ix, 3))
    (kk : W p l e R s m args below meth c H locs cells slots Q (F0 m (pc + 3) ls (.ref t :: rest))) : W p l e R s m args below meth c H locs cells slots Q (F0 m pc ls rest) :=
  va_getsN hexec hb hZ.2.1 hS hown (va_Nw.use rfl hZ.1) (fun _ h => h) hdg kk
theorem kb_tald (hexec : p.tables.exec = Jvm.exec) (hb : c.code = cc) {own n : String} {ix N t : Nat} {f : Nat → Int32} (hZ : ST1 own ix n N f t (xA X) s) (hS : va_S (xA X) s.heap H locs) {i : Int32} {k : Nat} (hk : i.toNatClampNeg = k) (hin : vp_in i N) (hdg : decode cc pc = .ok (.iaload, 1))
    (kk : W p l e R s m args below meth c H locs cells slots Q (F0 m (pc + 1) ls (.int (f k) :: rest))) : W p l e R s m args below meth c H locs cells slots Q (F0 m pc ls (.int i :: .ref t :: rest)) := by
  subst hk
  exact va_ti hexec hb hZ.2.2 hS hin rfl hdg kk
-- switches
theorem ksw_in (hexec : p.tables.exec = Jvm.exec) (hb : c.code = cc) {dflt lo hi : Int} {offs : Array Int} {len : Nat} {x : Int32} (k : Int32) {off : Int} {tgt : Nat} (hx : x = k) (hdg : decode cc pc = .ok (.tableswitch dflt lo hi offs, len)) (h1 : ¬ k.toInt < lo) (h2 : ¬ hi < k.toInt) (ho : offs[(k.toInt - lo).toNat]? = some off) (ht : (pc : Int) + off = (tgt : Int))
    (kk : W p l e R s m args below meth c H locs cells slots Q (F0 m tgt ls rest)) : W p l e R s m args below meth c H locs cells slots Q (F0 m pc ls (.int x :: rest)) := by
  subst hx
  exact lv_tableIn hexec hb hdg h1 h2 ho ht kk
theorem ksw_lk (hexec : p.tables.exec = Jvm.exec) (hb : c.code = cc) {dflt : Int} {ps : Array (Int × Int)} {len : Nat} {x : Int32} (k : Int32) {off : Int} {tgt : Nat} (hx : x = k) (hdg : decode cc pc = .ok (.lookupswitch dflt ps, len)) (hp : (ps.toList.zip (ps.toList.drop 1)).all (fun (a, next) => a.1 < next.1) = true) (ho : Op.lookupswitch.offset ps.toList dflt k.toInt = off) (ht : (pc : Int) + off = (tgt : Int))
    (kk : W p l e R s m args below meth c H locs cells slots Q (F0 m tgt ls rest)) : W p l e R s m args below meth c H locs cells slots Q (F0 m pc ls (.int x :: rest)) := by
  subst hx
  exact lv_lookup hexec hb hdg hp ho ht kk
end KB
