section KC
variable {p : Program} {l : Launch} {e : Env} {R : Room} {s : State} {m : MethodId} {args : Array Value} {below : List Frame} {meth : Method} {c : Code} {H : Heap} {locs : List Loc} {cells slots : Nat} {Q : State → Prop}
variable {cc : ByteArray} {pc : Nat} {ls : Array Slot} {rest : List Value} {X : Cx} {h : HH} {a : Nat}
variable {y : MethodName} {bytes : ByteArray} {maxL nL n index : Nat} {ret : Option FieldType} {ws : List Cond} {rm : Room} {Ts : List Cond} {own C : String} {b : Addr} {As st : List Value} {h' : HH}
abbrev RecvAt (s : State) (H : Heap) (C : String) (b : Nat) : Prop := ∃ cell : Cell, H[b]? = some cell ∧ cell.vm.isStatics = false ∧ s.vm.findClass C = some cell.cls
theorem kV_i {v : Int32} (S : CallFix p m c cc nL s args Ts own) (hM : Met l y ws rm (va_Pc (.ref b :: As) (fun U => WS X h U)) (QI X v h') 0 0 (xA X)) (cw : CallW R s args own C index y bytes maxL ret ws rm 0 0 n) (hK : KS X s) (hW : WH X h H) (hS : va_S (xA X) s.heap H locs) (hrc : RecvAt s H C b) (hn : As.length = n) (hsz : ls.size = nL) (hst : st = As.reverse ++ .ref b :: rest) (hrm : (rest.map fun v => v.category).sum ≤ 8) (hdg : decode cc pc = .ok (.invokevirtual index, 3)) (hf : cells ≤ R.cells ∧ slots ≤ R.slots)
    (kk : ∀ (H1 : Heap) (locs1 : List Loc), WH X h' H1 → va_S (xA X) s.heap H1 locs1 → W p l e R s m args below meth c H1 locs1 cells slots Q (F0 m (pc + 3) ls (.int v :: rest))) : W p l e R s m args below meth c H locs cells slots Q (F0 m pc ls st) :=
  kc_i (va_runV (g := F0 m pc ls st) S hM cw ⟨WS.blind, hrc, WS.pre hK hW hS⟩ rfl hn hsz hst (lv_room hrm) hdg hf) hS kk
theorem kV_l {v : Int64} (S : CallFix p m c cc nL s args Ts own) (hM : Met l y ws rm (va_Pc (.ref b :: As) (fun U => WS X h U)) (QJ X v h') 0 0 (xA X)) (cw : CallW R s args own C index y bytes maxL ret ws rm 0 0 n) (hK : KS X s) (hW : WH X h H) (hS : va_S (xA X) s.heap H locs) (hrc : RecvAt s H C b) (hn : As.length = n) (hsz : ls.size = nL) (hst : st = As.reverse ++ .ref b :: rest) (hrm : (rest.map fun v => v.category).sum ≤ 8) (hdg : decode cc pc = .ok (.invokevirtual index, 3)) (hf : cells ≤ R.cells ∧ slots ≤ R.slots)
    (kk : ∀ (H1 : Heap) (locs1 : List Loc), WH X h' H1 → va_S (xA X) s.heap H1 locs1 → W p l e R s m args below meth c H1 locs1 cells slots Q (F0 m (pc + 3) ls (.long v :: rest))) : W p l e R s m args below meth c H locs cells slots Q (F0 m pc ls st) :=
  kc_l (va_runV (g := F0 m pc ls st) S hM cw ⟨WS.blind, hrc, WS.pre hK hW hS⟩ rfl hn hsz hst (lv_room hrm) hdg hf) hS kk
theorem kV_v (S : CallFix p m c cc nL s args Ts own) (hM : Met l y ws rm (va_Pc (.ref b :: As) (fun U => WS X h U)) (QV X h') 0 0 (xA X)) (cw : CallW R s args own C index y bytes maxL ret ws rm 0 0 n) (hK : KS X s) (hW : WH X h H) (hS : va_S (xA X) s.heap H locs) (hrc : RecvAt s H C b) (hn : As.length = n) (hsz : ls.size = nL) (hst : st = As.reverse ++ .ref b :: rest) (hrm : (rest.map fun v => v.category).sum ≤ 8) (hdg : decode cc pc = .ok (.invokevirtual index, 3)) (hf : cells ≤ R.cells ∧ slots ≤ R.slots)
    (kk : ∀ (H1 : Heap) (locs1 : List Loc), WH X h' H1 → va_S (xA X) s.heap H1 locs1 → W p l e R s m args below meth c H1 locs1 cells slots Q (F0 m (pc + 3) ls rest)) : W p l e R s m args below meth c H locs cells slots Q (F0 m pc ls st) :=
  kc_v (va_runV (g := F0 m pc ls st) S hM cw ⟨WS.blind, hrc, WS.pre hK hW hS⟩ rfl hn hsz hst (lv_room hrm) hdg hf) hS kk
theorem kS_i {v : Int32} (S : CallFix p m c cc nL s args Ts own) (hM : Met l y ws rm (va_Pc As (fun U => WS X h U)) (QI X v h') 0 0 (xA X)) (cw : CallB R s args own index y bytes maxL ret ws rm 0 0 n ∧ (Cond.static y).before args s = true) (hK : KS X s) (hW : WH X h H) (hS : va_S (xA X) s.heap H locs) (hn : As.length = n) (hsz : ls.size = nL) (hst : st = As.reverse ++ rest) (hrm : (rest.map fun v => v.category).sum ≤ 8) (hdg : decode cc pc = .ok (.invokestatic index, 3)) (hf : cells ≤ R.cells ∧ slots ≤ R.slots)
    (kk : ∀ (H1 : Heap) (locs1 : List Loc), WH X h' H1 → va_S (xA X) s.heap H1 locs1 → W p l e R s m args below meth c H1 locs1 cells slots Q (F0 m (pc + 3) ls (.int v :: rest))) : W p l e R s m args below meth c H locs cells slots Q (F0 m pc ls st) :=
  kc_i (va_runS (g := F0 m pc ls st) S hM cw ⟨WS.blind, WS.pre hK hW hS⟩ rfl hn hsz hst (lv_room hrm) hdg hf) hS kk
theorem kS_l {v : Int64} (S : CallFix p m c cc nL s args Ts own) (hM : Met l y ws rm (va_Pc As (fun U => WS X h U)) (QJ X v h') 0 0 (xA X)) (cw : CallB R s args own index y bytes maxL ret ws rm 0 0 n ∧ (Cond.static y).before args s = true) (hK : KS X s) (hW : WH X h H) (hS : va_S (xA X) s.heap H locs) (hn : As.length = n) (hsz : ls.size = nL) (hst : st = As.reverse ++ rest) (hrm : (rest.map fun v => v.category).sum ≤ 8) (hdg : decode cc pc = .ok (.invokestatic index, 3)) (hf : cells ≤ R.cells ∧ slots ≤ R.slots)
    (kk : ∀ (H1 : Heap) (locs1 : List Loc), WH X h' H1 → va_S (xA X) s.heap H1 locs1 → W p l e R s m args below meth c H1 locs1 cells slots Q (F0 m (pc + 3) ls (.long v :: rest))) : W p l e R s m args below meth c H locs cells slots Q (F0 m pc ls st) :=
  kc_l (va_runS (g := F0 m pc ls st) S hM cw ⟨WS.blind, WS.pre hK hW hS⟩ rfl hn hsz hst (lv_room hrm) hdg hf) hS kk
theorem kb_copy (hexec : p.tables.exec = Jvm.exec) (hb : c.code = cc) (hml : c.maxLocals = ls.size) {own : String} {index : Nat} (hown : s.vm.findClass own = some m.cls) (hlink : (Cond.methodLink own index arraycopyName).before args s = true) (hnat : (Cond.native arraycopyName).before args s = true) (hstat : (Cond.static arraycopyName).before args s = true) (hini : (Cond.initialized "java/lang/System").before args s = true)
    (hK : KS X s) (hW : WH X h H) (hS : va_S (xA X) s.heap H locs) {a0 n0 n1 : Nat} (hL0 : xL X a0 = some (shI X n0)) (hL1 : xL X a = some (shI X n1)) {sp dp n : Int32} {sp' dp' n' : Nat} (es : sp.toNatClampNeg = sp') (ed : dp.toNatClampNeg = dp') (en : n.toNatClampNeg = n') (h1 : ¬ sp < 0) (h2 : ¬ dp < 0) (h3 : ¬ n < 0) (h4 : sp' + n' ≤ n0) (h5 : dp' + n' ≤ n1)
    (hframes : 1 ≤ R.frames) (hlocals : (rest.map fun v => v.category).sum + (nativeFrameWords "java/lang/System" "arraycopy" 5 + 11) ≤ R.locals) (hdg : decode cc pc = .ok (.invokestatic index, 3))
    (kk : ∀ (H1 : Heap) (locs1 : List Loc), WH X (hcpy h a0 a sp' dp' n') H1 → va_S (xA X) s.heap H1 locs1 → W p l e R s m args below meth c H1 locs1 cells slots Q (F0 m (pc + 3) ls rest)) : W p l e R s m args below meth c H locs cells slots Q (F0 m pc ls (.int n :: .int dp :: .ref a :: .int sp :: .ref a0 :: rest)) := by
  subst es; subst ed; subst en
  have nn : ∀ z : Int32, ¬ z < 0 → z.toInt = (z.toNatClampNeg : Int) := by
    intro z hz
    have hz0 : (0 : Int) ≤ z.toInt := by
      have := Int32.not_lt.mp hz
      simpa using Int32.le_iff_toInt_le.mp this
    show z.toInt = ((z.toInt.toNat : Nat) : Int)
    omega
  intro T hT Xs
  generalize hf : h a0 = f at *
  generalize hg : h a = g at *
  have hc0 : H[a0]? = some (vp_cell (xk X 0) (n0, .inl f)) := by rw [← hf]; exact (hW a0 _ hL0).2
  have hc1 : H[a]? = some (vp_cell (xk X 0) (n1, .inl g)) := by rw [← hg]; exact (hW a _ hL1).2
  obtain ⟨-, k0, hk0, cm0, hkk0⟩ := (hK.1.2 0 _ rfl).1 n0 (fun j => .int (f j))
  obtain ⟨-, k1, hk1, cm1, hkk1⟩ := (hK.1.2 0 _ rfl).1 n1 (fun j => .int (g j))
  obtain ⟨vm', X', step⟩ := Xs.arraycopy hexec hown hlink hnat hstat hini (src := a0) (dst := a) (cs := vp_cell (xk X 0) (n0, .inl f)) (cd := vp_cell (xk X 0) (n1, .inl g)) (srcPos := sp) (destPos := dp) (n := n) (by rw [hT]; exact hc0) (by rw [hT]; exact hc1)
    (fun _ h => by cases h) (fun _ h => by cases h) (fun h => by cases h) (fun h => by cases h) hk0 hk1 hkk0 hkk1 (by simp [refKind]) h1 h2 h3
    (by rw [nn sp h1, nn n h3]; show ¬ _ > ((arrV (xk X 0) n0 (fun j => .int (f j))).slots.size : Int); rw [arrV_size]; omega)
    (by rw [nn dp h2, nn n h3]; show ¬ _ > ((arrV (xk X 0) n1 (fun j => .int (g j))).slots.size : Int); rw [arrV_size]; omega)
    (fun vm₁ _ i hi => by
      have e : (vp_cell (xk X 0) (n0, .inl f)).slots.getD (sp.toNatClampNeg + i) .null = .int (f (sp.toNatClampNeg + i)) := by
        show (arrV (xk X 0) n0 (fun j => .int (f j))).slots.getD _ _ = _
        rw [Array.getD_eq_getD_getElem?, arrV_read _ _ (by omega)]
        rfl
      refine ⟨?_, ?_⟩
      · rw [e]
        rfl
      · rw [e]
        exact trivial)
    (g := F0 m pc ls (.int n :: .int dp :: .ref a :: .int sp :: .ref a0 :: rest)) rfl (by rw [hml]) (rest := rest) rfl (by rw [hb]; exact hdg) hframes (by show 2 * 0 + _ + _ ≤ _; omega)
  have e1 : copied (vp_cell (xk X 0) (n0, .inl f)) (vp_cell (xk X 0) (n1, .inl g)) sp dp n = vp_cell (xk X 0) (n1, .inl (va_cpy f g sp.toNatClampNeg dp.toNatClampNeg n.toNatClampNeg)) := va_copied (fun z => .int z) (xk X 0) (xk X 0) f g h4
  rw [e1] at X' step
  have hl : a < H.size := (Array.getElem?_eq_some_iff.mp hc1).1
  have hheap : ((T.setVm vm').setCell a (vp_cell (xk X 0) (n1, .inl (va_cpy f g sp.toNatClampNeg dp.toNatClampNeg n.toNatClampNeg)))).heap = H.setIfInBounds a (vp_cell (xk X 0) (n1, .inl (va_cpy f g sp.toNatClampNeg dp.toNatClampNeg n.toNatClampNeg))) := by rw [← hT]; rfl
  have oq : ∀ q : Nat, q ≠ a → (H.setIfInBounds a (vp_cell (xk X 0) (n1, .inl (va_cpy f g sp.toNatClampNeg dp.toNatClampNeg n.toNatClampNeg))))[q]? = H[q]? := fun q hq => by simp [Array.getElem?_setIfInBounds, Ne.symm hq]
  obtain ⟨t, a1, b1⟩ := kk _ _ (hW.upd hL1 (show (H.setIfInBounds a _)[a]? = some (vp_cell _ (n1, .inl _)) by rw [hcpy_s, hf, hg]; simp [Array.getElem?_setIfInBounds, hl]) (fun q hq => hcpy_o _ _ _ _ _ _ hq) oq) ⟨by simp; exact hS.1, fun q g1 g2 => by
      rw [oq q (fun e => g2 (by rw [e]; exact (hW a _ hL1).1))]
      exact hS.2.1 q g1 g2, fun q hq => by
      rcases List.mem_append.mp hq with h | h
      · exact hS.2.2 q h
      · obtain ⟨z, -, hz⟩ := List.mem_map.mp h
        rw [← hz]
        exact (hW a _ hL1).1⟩ _ hheap X'
  exact ⟨t, step t a1, b1⟩
def jrem (x y : Int32) : Int32 := x - x / y * y
def jmax (x y : Int32) : Int32 := if x < y then y else x
def jmin (x y : Int32) : Int32 := if y < x then y else x
theorem kb_irem (hexec : p.tables.exec = Jvm.exec) (hb : c.code = cc) {x y : Int32} (hdg : decode cc pc = .ok (.irem, 1)) (hne : ¬ y = 0)
    (k : W p l e R s m args below meth c H locs cells slots Q (F0 m (pc + 1) ls (.int (jrem x y) :: rest))) : W p l e R s m args below meth c H locs cells slots Q (F0 m pc ls (.int y :: .int x :: rest)) := lv_irem hexec hb hdg hne k
theorem kb_max {cc : ByteArray} (hexec : p.tables.exec = Jvm.exec) (hb : c.code = cc) (hml : c.maxLocals = ls.size) {own : String} {index : Nat} (hown : s.vm.findClass own = some m.cls) (hlink : (Cond.methodLink own index Lib.Math.max.name).before args s = true) (hstat : (Cond.static Lib.Math.max.name).before args s = true) (hini : (Cond.initialized "java/lang/Math").before args s = true) (hcode : (Cond.code Lib.Math.max.name Lib.Math.max.code 2 (some .int)).before args s = true)
    (hframes : 1 ≤ R.frames) (hlocals : (rest.map fun v => v.category).sum + 13 ≤ R.locals) (hc : cells ≤ R.cells) (hs : slots ≤ R.slots) {x y : Int32} (hdg : decode cc pc = .ok (.invokestatic index, 3))
    (kk : W p l e R s m args below meth c H locs cells slots Q (F0 m (pc + 3) ls (.int (jmax x y) :: rest))) : W p l e R s m args below meth c H locs cells slots Q (F0 m pc ls (.int y :: .int x :: rest)) := va_mmax hexec hb hml hown hlink hstat hini hcode hframes hlocals hc hs hdg kk
theorem kb_min {cc : ByteArray} (hexec : p.tables.exec = Jvm.exec) (hb : c.code = cc) (hml : c.maxLocals = ls.size) {own : String} {index : Nat} (hown : s.vm.findClass own = some m.cls) (hlink : (Cond.methodLink own index Lib.Math.min.name).before args s = true) (hstat : (Cond.static Lib.Math.min.name).before args s = true) (hini : (Cond.initialized "java/lang/Math").before args s = true) (hcode : (Cond.code Lib.Math.min.name Lib.Math.min.code 2 (some .int)).before args s = true)
    (hframes : 1 ≤ R.frames) (hlocals : (rest.map fun v => v.category).sum + 13 ≤ R.locals) (hc : cells ≤ R.cells) (hs : slots ≤ R.slots) {x y : Int32} (hdg : decode cc pc = .ok (.invokestatic index, 3))
    (kk : W p l e R s m args below meth c H locs cells slots Q (F0 m (pc + 3) ls (.int (jmin x y) :: rest))) : W p l e R s m args below meth c H locs cells slots Q (F0 m pc ls (.int y :: .int x :: rest)) := va_mmin hexec hb hml hown hlink hstat hini hcode hframes hlocals hc hs hdg kk
theorem kin {i : Int32} {n : Nat} (h : vp_in i n) : i.toNatClampNeg < n := Nat.not_le.mp fun q => h (Or.inr q)
/-- what holds all through a method's walk -/
def CT (p : Program) (s : State) (m : MethodId) (args : Array Value) (meth : Method) (c : Code) (X : Cx) (cc : ByteArray) (nL : Nat) (rt : Option FieldType) (own : String) : Prop :=
  p.tables.exec = Jvm.exec ∧ c.code = cc ∧ meth.sig.returnType = rt ∧ meth.locks = false ∧ c.maxLocals = nL ∧ s.vm.findClass own = some m.cls ∧ (∀ w ∈ lwG, w.before args s = true) ∧ KS X s
end KC
theorem gV {own C : String} {idx : Nat} {y : MethodName} {bytes : ByteArray} {maxL : Nat} {ret : Option FieldType} (h1 : Cond.methodLink own idx y ∈ lwG) (h2 : Cond.instanceMethod y ∈ lwG) (h3 : Cond.selects C y y ∈ lwG) (h4 : Cond.initialized C ∈ lwG) (h5 : Cond.code y bytes maxL ret ∈ lwG) : GoodIn lwG (wsV own idx C y (Cond.code y bytes maxL ret :: lwG)) := by
  have key : ∀ w, w ∈ lwG → w ∈ lwG ∧ ((w.onTables && w.keeps) = true ∨ ∃ ty, w = .arrayClass ty) := fun w h => ⟨h, good_of_word (List.mem_filter.mp h).2⟩
  intro w hw
  refine key w ?_
  simp only [wsV, List.cons_append, List.nil_append, List.mem_cons] at hw
  rcases hw with h | h | h | h | h | h
  · exact h ▸ h1
  · exact h ▸ h2
  · exact h ▸ h3
  · exact h ▸ h4
  · exact h ▸ h5
  · exact h
theorem gS {own : String} {idx : Nat} {y : MethodName} {bytes : ByteArray} {maxL : Nat} {ret : Option FieldType} (h1 : Cond.methodLink own idx y ∈ lwG) (h2 : Cond.static y ∈ lwG) (h3 : Cond.initialized own ∈ lwG) (h5 : Cond.code y bytes maxL ret ∈ lwG) : GoodIn lwG (wsS own idx y (Cond.code y bytes maxL ret :: lwG)) := by
  have key : ∀ w, w ∈ lwG → w ∈ lwG ∧ ((w.onTables && w.keeps) = true ∨ ∃ ty, w = .arrayClass ty) := fun w h => ⟨h, good_of_word (List.mem_filter.mp h).2⟩
  intro w hw
  refine key w ?_
  simp only [wsS, List.cons_append, List.nil_append, List.mem_cons] at hw
  rcases hw with h | h | h | h | h
  · exact h ▸ h1
  · exact h ▸ h2
  · exact h ▸ h3
  · exact h ▸ h5
  · exact h
