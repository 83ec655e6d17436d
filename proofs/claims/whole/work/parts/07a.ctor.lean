/-! constructors: the cells from an object's own address on, in the order in which they were made -/
def WG (X : Cx) (a : Nat) (cs : List va_E) (H : Heap) : Prop := H.size = a + cs.length ∧ ∀ (i : Nat) (e : va_E), cs[i]? = some e → va_at (xD X) vwCl (a + i, e) H
abbrev yHi : MethodName := ⟨"VillageBoard$History", "<init>", "()V"⟩
abbrev yPl : MethodName := ⟨"VillageBoard$Player", "<init>", "()V"⟩
def KC (X : Cx) (U : State) : Prop := va_K (xD X) vwCl (xT X) U ∧ va_AO "VillageBoard$Player" U ∧ va_AO "VillageBoard$Game" U ∧ va_AOA .int U ∧
  va_Nw (.methodLinkNest "VillageBoard$Game" 29 yHi "VillageBoard") U ∧ va_Nw (.methodLinkNest "VillageBoard$Game" 34 yPl "VillageBoard") U ∧ va_Nw (.methodLinkNest "VillageBoard$Search" 24 yPl "VillageBoard") U
theorem KC.warm {X : Cx} {s U : State} (h : KC X s) (hW : s.WarmedH U.vm) : KC X U := by
  obtain ⟨h1, h2, h3, h4, h5, h6, h7⟩ := h
  exact ⟨h1.moved hW.alike, h2.moved hW.alike, h3.moved hW.alike, over_moved hW.alike h4, va_Nw.warmM hW h5, va_Nw.warmM hW h6, va_Nw.warmM hW h7⟩
theorem KC.calling {X : Cx} {U : State} {g : JFrame} {mk : MethodId} {a : Array Value} (h : KC X U) : KC X (U.calling g mk a) := by
  obtain ⟨h1, h2, h3, h4, h5, h6, h7⟩ := h
  exact ⟨va_K.moved (Vm.Alike.refl U.vm) h1, va_AO.moved (Vm.Alike.refl U.vm) h2, va_AO.moved (Vm.Alike.refl U.vm) h3, over_moved (Vm.Alike.refl U.vm) h4, va_Nw.same rfl rfl h5, va_Nw.same rfl rfl h6, va_Nw.same rfl rfl h7⟩
/-- the start of a constructor: the object is the heap's last cell -/
def PN (X : Cx) (a : Nat) (e : va_E) (U : State) : Prop := U.heap.size = a + 1 ∧ va_at (xD X) vwCl (a, e) U.heap ∧ KC X U
def QN (X : Cx) (a : Nat) (cs : List va_E) : Array Value → State → Outcome → State → Prop := fun _ st oc t => oc = .returned none ∧ WG X a cs t.heap ∧ va_F (fun q => a ≤ q) st t
theorem PN.blind {X : Cx} {a : Nat} {e : va_E} {av : List Value} : FrameBlind (va_Pc av (fun U => PN X a e U)) := fun _ _ _ _ q => ⟨q.1, q.2.1, q.2.2.1, q.2.2.2.calling⟩
theorem WG.snoc {X : Cx} {a : Nat} {cs : List va_E} {H H1 : Heap} (hG : WG X a cs H) {e : va_E} (z : H1.size = H.size + 1) (o : ∀ q : Nat, q < H.size → H1[q]? = H[q]?) (he : va_at (xD X) vwCl (H.size, e) H1) : WG X a (cs ++ [e]) H1 := by
  refine ⟨by rw [z, hG.1, List.length_append]; rfl, fun i x hi => ?_⟩
  by_cases hl : i < cs.length
  · rw [List.getElem?_append_left hl] at hi
    exact ((hG.2 i x hi)).kept (o _ (by rw [hG.1]; show a + i < _; omega))
  · rw [List.getElem?_append_right (by omega)] at hi
    have h1 : i - cs.length < 1 := (List.getElem?_eq_some_iff.mp hi).1
    have h2 : i = cs.length := by omega
    subst h2
    rw [Nat.sub_self] at hi
    cases hi
    rw [← hG.1]
    exact he
theorem WG.set {X : Cx} {a : Nat} {cs : List va_E} {H H1 : Heap} (hG : WG X a cs H) {i0 : Nat} {e0 e : va_E} (hi : cs[i0]? = some e0) (z : H1.size = H.size) (oq : ∀ q : Nat, q ≠ a + i0 → H1[q]? = H[q]?) (he : va_at (xD X) vwCl (a + i0, e) H1) : WG X a (cs.set i0 e) H1 := by
  have hl := (List.getElem?_eq_some_iff.mp hi).1
  refine ⟨by rw [z, hG.1, List.length_set], fun i x hx => ?_⟩
  by_cases h : i = i0
  · subst h
    rw [List.getElem?_set_self hl] at hx
    cases hx
    exact he
  · rw [List.getElem?_set_ne (Ne.symm h)] at hx
    exact (hG.2 i x hx).kept (oq _ (by show a + i ≠ a + i0; omega))
section KN
variable {p : Program} {l : Launch} {e : Env} {R : Room} {s : State} {m : MethodId} {args : Array Value} {below : List Frame} {meth : Method} {c : Code} {H : Heap} {locs : List Loc} {cells slots : Nat} {Q : State → Prop}
variable {cc : ByteArray} {pc : Nat} {ls : Array Slot} {rest : List Value} {X : Cx} {a : Nat} {cs : List va_E}
theorem kn_newa (hexec : p.tables.exec = Jvm.exec) (hb : c.code = cc) (hts : ∀ w ∈ lwG, w.before args s = true) (hK : va_K (xD X) vwCl (xT X) s) (hG : WG X a cs H) (hS : va_S (fun q => a ≤ q) s.heap H locs) {n : Int32} {N r : Nat} {cs' : List va_E} (hn : ¬ n < 0) (hN : n.toNatClampNeg = N) (hb1 : N * 4 ≤ 536870912) (hr : a + cs.length = r) (hcs : cs ++ [.inl (xk X 0, N, .inl (fun _ => 0))] = cs') (hcells : cells + 1 ≤ R.cells) (hslots : slots + N ≤ R.slots) (hdg : decode cc pc = .ok (.newarray .int, 2))
    (kk : ∀ (H1 : Heap), WG X a cs' H1 → va_S (fun q => a ≤ q) s.heap H1 locs → W p l e R s m args below meth c H1 locs (cells + 1) (slots + N) Q (F0 m (pc + 2) ls (.ref r :: rest))) : W p l e R s m args below meth c H locs cells slots Q (F0 m pc ls (.int n :: rest)) := by
  subst hcs
  refine va_newaK (atype := .int) hexec hb (hts (.arrayClass .int) (by decide +kernel)) rfl hdg rfl hn hN hb1 hcells hslots (hG.1.trans hr) fun H1 cA e1 z1 o1 hAr hNm => ?_
  have hc : cA = xk X 0 := Option.some.inj (hNm.symm.trans (hK.2 0 _ rfl).2)
  subst hc
  have hz : H.size = r := hG.1.trans hr
  exact kk H1 (hG.snoc (by rw [z1, hz]) (fun q hq => o1 q (by rw [← hz]; exact hq)) (by rw [hz]; exact e1)) ⟨by rw [z1, ← hz]; exact Nat.le_trans hS.1 (Nat.le_succ _), fun q h1 h2 => (o1 q (by rw [← hz]; exact Nat.lt_of_lt_of_le h1 hS.1)).trans (hS.2.1 q h1 h2), hS.2.2⟩
theorem kn_anew (hexec : p.tables.exec = Jvm.exec) (hb : c.code = cc) {own C : String} {index j : Nat} (hown : s.vm.findClass own = some m.cls) (hclink : (Cond.classLink own index C).before args s = true) (hover : va_AO C s) (hK : va_K (xD X) vwCl (xT X) s) (hj : (xT X)[j]? = some (xk X j, .object C)) (hG : WG X a cs H) (hS : va_S (fun q => a ≤ q) s.heap H locs) {n : Int32} {N r : Nat} {cs' : List va_E} (hn : ¬ n < 0) (hN : n.toNatClampNeg = N) (hb1 : N * 4 ≤ 536870912) (hr : a + cs.length = r) (hcs : cs ++ [.inl (xk X j, N, .inr (.inr (.inr (.inr (fun _ => none)))))] = cs') (hcells : cells + 1 ≤ R.cells) (hslots : slots + N ≤ R.slots) (hdg : decode cc pc = .ok (.anewarray index, 3))
    (kk : ∀ (H1 : Heap), WG X a cs' H1 → va_S (fun q => a ≤ q) s.heap H1 locs → W p l e R s m args below meth c H1 locs (cells + 1) (slots + N) Q (F0 m (pc + 3) ls (.ref r :: rest))) : W p l e R s m args below meth c H locs cells slots Q (F0 m pc ls (.int n :: rest)) := by
  subst hcs
  subst hN
  refine W.anew hexec hb hown hclink (va_AO.use hover) rfl hdg rfl hn hb1 hcells hslots fun cA kA comp f1 f2 f3 f4 => ?_
  obtain ⟨-, kA2, comp2, -, -, -, g4⟩ := hK.2 j _ hj
  have hc : cA = xk X j := Option.some.inj (f1.symm.trans g4)
  subst hc
  generalize hH1 : H.push ({ cls := xk X j, slots := Array.replicate n.toNatClampNeg .null, vm := .none } : Cell) = H1
  have z1 : H1.size = H.size + 1 := by rw [← hH1, Array.size_push]
  have e1 : H1[H.size]? = some (arrV (xk X j) n.toNatClampNeg (fun _ => .null)) := by rw [← hH1, Array.getElem?_push_size, ← arrV_new]
  have o1 : ∀ q : Nat, q < H.size → H1[q]? = H[q]? := fun q hq => by rw [← hH1, Array.getElem?_push, if_neg (Nat.ne_of_lt hq)]
  have hz : H.size = r := hG.1.trans hr
  have K := kk H1 (hG.snoc z1 o1 e1) ⟨by rw [z1]; exact Nat.le_trans hS.1 (Nat.le_succ _), fun q h1 h2 => (o1 q (Nat.lt_of_lt_of_le h1 hS.1)).trans (hS.2.1 q h1 h2), hS.2.2⟩
  rw [← hz] at K
  exact K
theorem kn_new (hexec : p.tables.exec = Jvm.exec) (hb : c.code = cc) {own C : String} {T : u_T} {N ci index : Nat} (hts : ∀ w ∈ lwG, w.before args s = true) (hin : ∀ w ∈ u_ws C T N, w ∈ lwG) (ty : Nat → FieldType) (hty : ∀ k, k < N → parseFieldDescriptor (T k).2.2.1 = some (ty k)) (hown : s.vm.findClass own = some m.cls) (hcl : (Cond.classLink own index C).before args s = true) (hinst : (Cond.instantiable C N).before args s = true) (hini : (Cond.initialized C).before args s = true)
    (hK : va_K (xD X) vwCl (xT X) s) (hG : WG X a cs H) (hS : va_S (fun q => a ≤ q) s.heap H locs) (hc : vwCl[ci]? = some (C, T, N)) {fs : List Value} (hfs : ∀ j, j < N → defaultValue (ty j) = vp_V fs j) {r : Nat} {cs' : List va_E} (hr : a + cs.length = r) (hcs : cs ++ [.inr (ci, fs)] = cs') (hcells : cells + 1 ≤ R.cells) (hslots : slots + N ≤ R.slots) (hdg : decode cc pc = .ok (.new index, 3))
    (kk : ∀ (H1 : Heap), WG X a cs' H1 → va_S (fun q => a ≤ q) s.heap H1 locs → W p l e R s m args below meth c H1 locs (cells + 1) (slots + N) Q (F0 m (pc + 3) ls (.ref r :: rest))) : W p l e R s m args below meth c H locs cells slots Q (F0 m pc ls rest) := by
  subst hcs
  have hKn := hK.1 ci _ hc
  have hz : H.size = r := hG.1.trans hr
  refine W.newcK hexec hb hown hcl hinst hini rfl hdg hcells hslots hKn.2.1 hz fun H1 kC hkC e1 z1 o1 => ?_
  refine kk H1 (hG.snoc (by rw [z1, hz]) (fun q hq => o1 q (by rw [← hz]; exact hq)) (by rw [hz]; exact ⟨_, hc, (u_born ty hts hin hKn hkC e1 hty).to hfs⟩)) ⟨by rw [z1, ← hz]; exact Nat.le_trans hS.1 (Nat.le_succ _), fun q h1 h2 => (o1 q (by rw [← hz]; exact Nat.lt_of_lt_of_le h1 hS.1)).trans (hS.2.1 q h1 h2), hS.2.2⟩
theorem kn_putF (hexec : p.tables.exec = Jvm.exec) (hb : c.code = cc) {own C : String} {T : u_T} {N ci index : Nat} (hts : ∀ w ∈ lwG, w.before args s = true) (hin : ∀ w ∈ u_ws C T N, w ∈ lwG) (ty0 : Nat → FieldType) (hty : ∀ k, k < N → parseFieldDescriptor (T k).2.2.1 = some (ty0 k)) (hnm : ∀ a, a < N → ∀ b, b < N → a ≠ b → (T a).2.1 ≠ (T b).2.1) (hown : s.vm.findClass own = some m.cls) (hK : va_K (xD X) vwCl (xT X) s) (hG : WG X a cs H) (hS0 : va_S (fun q => a ≤ q) s.heap H locs) (i0 : Nat) {b : Nat} (hb0 : a + i0 = b) {fs : List Value} (he : cs[i0]? = some (.inr (ci, fs))) (hc : vwCl[ci]? = some (C, T, N)) (k : Nat) (hk : k < N) (hlink : (Cond.fieldLink own index own (T k).2.1 (T k).2.2.1).before args s = true) (hfin : (T k).2.2.2 = true) (hin2 : meth.name = "<init>") (hdecl : (T k).1 = own) {ty : FieldType} {v : Value} (hd : parseFieldDescriptor (T k).2.2.1 = some ty) (hn : narrow ty v = v) (hfit : fits ty v = true) (hl : k < fs.length) {cs' : List va_E} (hcs : cs.set i0 (.inr (ci, fs.set k v)) = cs')
    (hdg : decode cc pc = .ok (.putfield index, 3)) (kk : ∀ (H1 : Heap) (locs1 : List Loc), WG X a cs' H1 → va_S (fun q => a ≤ q) s.heap H1 locs1 → W p l e R s m args below meth c H1 locs1 cells slots Q (F0 m (pc + 3) ls rest)) : W p l e R s m args below meth c H locs cells slots Q (F0 m pc ls (v :: .ref b :: rest)) := by
  subst hb0
  subst hcs
  have hap := va_apart (own := own) hts hin ty0 hty hnm hK hc
  obtain ⟨r, h1, cell, q1, q2, q3, q4⟩ := hG.2 i0 _ he
  have hr : r = (C, T, N) := Option.some.inj (h1.symm.trans hc)
  subst hr
  obtain ⟨hS, hfc, kC, hkC, hkind⟩ := hK.1 ci _ hc
  obtain ⟨cf, kf, fi, f, hi, hsl⟩ := hS k hk
  have hlay := hts _ (hin _ (u_in_lay hk))
  unfold u_lay at hlay
  rw [if_pos hfin] at hlay
  have hst := (u_facts hfc hkC (u_lays hts hin hk) hi).1
  have hcf : m.cls = cf := by
    obtain ⟨_, _, c', _, _, _, -, -, hf', -, -, -, hown2, -⟩ := Cond.laysFinal_spec hlay
    have e1 : c' = cf := by have := hi.symm.trans hf'; simp at this; exact this.1.symm
    rw [hdecl] at hown2
    rw [← e1]; exact Option.some.inj (hown.symm.trans hown2)
  have h6 := u_fits hfc hkC hkind (Or.inr hlay) hi hd hn hfit
  refine W.putFinK hexec hb hown hlink (by rw [← hdecl]; exact hi) hst hcf hin2 (by rw [q2]; exact h6) q1 q3 (by rw [hsl]; exact k2_hasslot (q4 k hk)) rfl rfl hdg fun H' e1 e2 e3 => ?_
  rw [hsl] at e1 ⊢
  exact kk H' _ (hG.set he e2 e3 ⟨_, hc, t_OB.to (V := updV (vp_V fs) k v) ⟨_, e1, q2, q3, t_set q4 hap hk v⟩ (fun j _ => vp_updV_set hl v j)⟩) (hS0.put e2 e3 (Nat.le_add_right _ _))
theorem WG.one {i0 : Nat} {x : va_E} (hG : WG X a cs H) (he : cs[i0]? = some x) : va_P (xD X) vwCl [(a + i0, x)] H := by
  intro k q hq
  have hk : k < 1 := (List.getElem?_eq_some_iff.mp hq).1
  obtain rfl : k = 0 := by omega
  cases hq
  exact hG.2 i0 x he
theorem kn_get (hexec : p.tables.exec = Jvm.exec) (hb : c.code = cc) {own C : String} {T : u_T} {N ci index : Nat} (hts : ∀ w ∈ lwG, w.before args s = true) (hin : ∀ w ∈ u_ws C T N, w ∈ lwG) (hown : s.vm.findClass own = some m.cls) (hK : va_K (xD X) vwCl (xT X) s) (hG : WG X a cs H) (i0 : Nat) {b : Nat} (hb0 : a + i0 = b) {fs : List Value} (he : cs[i0]? = some (.inr (ci, fs))) (hc : vwCl[ci]? = some (C, T, N)) (k : Nat) (hk : k < N) (hlink : (Cond.fieldLink own index own (T k).2.1 (T k).2.2.1).before args s = true) (hdecl : (T k).1 = own) {v : Value} (hv : fs[k]? = some v) (hdg : decode cc pc = .ok (.getfield index, 3))
    (kk : W p l e R s m args below meth c H locs cells slots Q (F0 m (pc + 3) ls (v :: rest))) : W p l e R s m args below meth c H locs cells slots Q (F0 m pc ls (.ref b :: rest)) := by
  subst hb0
  exact va_get hexec hb hts hin hown hK (hG.one he) 0 rfl hc k hk hlink (fun x hx => by rw [← hdecl]; exact hx) hv hdg kk
theorem kn_aast (hexec : p.tables.exec = Jvm.exec) (hb : c.code = cc) (hK : va_K (xD X) vwCl (xT X) s) (hG : WG X a cs H) (hS : va_S (fun q => a ≤ q) s.heap H locs) (i0 i1 ci j : Nat) {b v : Nat} (hb0 : a + i0 = b) (hb1 : a + i1 = v) {r : vw_C} {n : Nat} {vs : List Value} {f : Nat → Option Nat} (ha : cs[i0]? = some (.inl (xk X j, n, .inr (.inr (.inr (.inr f)))))) (ht : (xT X)[j]? = some (xk X j, .object r.1)) (hv : cs[i1]? = some (.inr (ci, vs))) (hc : vwCl[ci]? = some r) {i : Int32} (hin : vp_in i n) {cs' : List va_E} (hcs : cs.set i0 (.inl (xk X j, n, .inr (.inr (.inr (.inr (va_up f i.toNatClampNeg (some v))))))) = cs') (hdg : decode cc pc = .ok (.aastore, 1))
    (kk : ∀ (H1 : Heap) (locs1 : List Loc), WG X a cs' H1 → va_S (fun q => a ≤ q) s.heap H1 locs1 → W p l e R s m args below meth c H1 locs1 cells slots Q (F0 m (pc + 1) ls rest)) : W p l e R s m args below meth c H locs cells slots Q (F0 m pc ls (.ref v :: .int i :: .ref b :: rest)) := by
  subst hcs
  subst hb0
  subst hb1
  have hlt : i.toNatClampNeg < n := Nat.not_le.mp fun q => hin (Or.inr q)
  have h0 : ¬ i < 0 := fun q => hin (Or.inl q)
  obtain ⟨r', hr', cellV, g1, g2, g3, -⟩ := hG.2 i1 _ hv
  have hcls := (hK.1 ci r hc).2
  obtain ⟨kA, comp, k1, k2, k3, -⟩ := (hK.2 j _ ht).2
  have hcomp : comp = (xD X).1 ci := Option.some.inj (k3.symm.trans hcls.1)
  subst hcomp
  obtain ⟨kC, hkC, -⟩ := hcls.2
  refine W.aast hexec hb (hG.2 i0 _ ha) (fun q h => by cases h) (fun h => by cases h) k1 k2 rfl hkC ⟨h0, by show _ < (arrV _ _ _).slots.size; rw [arrV_size]; exact hlt⟩ g1 (fun q h => by rw [g3] at h; cases h) (by rw [g2]; exact hkC) (by rw [g2]; exact va_assign hcls) rfl rfl hdg fun H1 e z oq => ?_
  refine kk H1 _ (hG.set ha z oq ?_) (hS.put z oq (Nat.le_add_right _ _))
  show H1[a + i0]? = some (vp_cell _ _)
  rw [e]
  rw [vp_cell_q, vp_cell_q, arrV_store]
  congr 2
  funext q
  by_cases hq : q = i.toNatClampNeg
  · subst hq
    simp [updV, va_up, va_rf]
  · simp [updV, va_up, hq]
theorem kn_mna (hexec : p.tables.exec = Jvm.exec) (hb : c.code = cc) {own : String} {index : Nat} (hts : ∀ w ∈ lwG, w.before args s = true) (hown : s.vm.findClass own = some m.cls) (hclink : (Cond.classLink own index "[[I").before args s = true) (hover : va_AOA .int s) (hK : va_K (xD X) vwCl (xT X) s) (hG : WG X a cs H) (hS : va_S (fun q => a ≤ q) s.heap H locs) {r : Nat} {cs' : List va_E} (hr : a + cs.length = r) (hcs : cs ++ [.inl (xk X 3, 3, .inr (.inr (.inr (.inr (fun i => if i < 3 then some (r + 1 + i) else none))))), .inl (xk X 0, 40, .inl (fun _ => 0)), .inl (xk X 0, 40, .inl (fun _ => 0)), .inl (xk X 0, 40, .inl (fun _ => 0))] = cs') (hcells : cells + (1 + 3) ≤ R.cells) (hslots : slots + (3 + 3 * 40) ≤ R.slots) (hdg : decode cc pc = .ok (.multianewarray index 2, 4))
    (kk : ∀ (H1 : Heap), WG X a cs' H1 → va_S (fun q => a ≤ q) s.heap H1 locs → W p l e R s m args below meth c H1 locs (cells + 1 + 3) (slots + 3 + 3 * 40) Q (F0 m (pc + 4) ls (.ref r :: rest))) : W p l e R s m args below meth c H locs cells slots Q (F0 m pc ls (.int 40 :: .int 3 :: rest)) := by
  subst hcs
  have hz : H.size = r := hG.1.trans hr
  intro T hT Xs
  obtain ⟨vm₁, cA, comp, -, fA, fC, hO, -, X', step⟩ := Xs.multianewarray2F (ty := .int) hexec hown hclink (va_AOA.use hover) (hts (.arrayClass .int) (by decide +kernel)) (g := F0 m pc ls (.int 40 :: .int 3 :: rest)) rfl (by rw [hb]; exact hdg) rfl (by decide) (by decide) (by decide) (by decide) (by decide) rfl rfl hcells hslots
  have ec : comp = xk X 0 := Option.some.inj (fC.symm.trans (hK.2 0 _ rfl).2)
  have ea : cA = xk X 3 := Option.some.inj (fA.symm.trans (hK.2 3 _ rfl).2)
  subst ec; subst ea
  have hTh : (T.setVm vm₁).heap = H := hT
  generalize hF : Jvm.Free.Multi.fill (T.setVm vm₁) (xk X 3) (xk X 0) (3 : Int32).toNatClampNeg (40 : Int32).toNatClampNeg (defaultValue .int) (3 : Int32).toNatClampNeg = F at X' step
  obtain ⟨f1, f2, -, -⟩ := Jvm.Free.Multi.fill_facts (T.setVm vm₁) (xk X 3) (xk X 0) (3 : Int32).toNatClampNeg (40 : Int32).toNatClampNeg (defaultValue .int) (3 : Int32).toNatClampNeg
  rw [hF, hTh] at f1 f2
  have hold : ∀ x : Nat, x < H.size → F.heap[x]? = H[x]? := fun x hx => by
    have := Jvm.Free.Multi.fill_old (T.setVm vm₁) (xk X 3) (xk X 0) (3 : Int32).toNatClampNeg (40 : Int32).toNatClampNeg (defaultValue .int) (a := x) (by rw [hTh]; exact hx) (3 : Int32).toNatClampNeg
    rw [hF, hTh] at this
    exact this
  have hrow : ∀ j : Nat, j < 3 → F.heap[H.size + 1 + j]? = some (vp_cell (xk X 0) (40, .inl (fun _ => 0))) := fun j hj => by
    have := Jvm.Free.Multi.fill_inner (T.setVm vm₁) (xk X 3) (xk X 0) (3 : Int32).toNatClampNeg (40 : Int32).toNatClampNeg (defaultValue .int) (3 : Int32).toNatClampNeg j hj
    rw [hF, hTh] at this
    rw [this]
    congr 1
  have hout : Jvm.Free.Multi.outerC (xk X 3) 3 H.size 3 = vp_cell (xk X 3) (3, .inr (.inr (.inr (.inr (fun i => if i < 3 then some (H.size + 1 + i) else none))))) := by
    rw [vp_cell_q]
    exact vr_outer (xk X 3) 3 H.size 3
  have hcells' : WG X a (cs ++ [.inl (xk X 3, 3, .inr (.inr (.inr (.inr (fun i => if i < 3 then some (r + 1 + i) else none))))), .inl (xk X 0, 40, .inl (fun _ => 0)), .inl (xk X 0, 40, .inl (fun _ => 0)), .inl (xk X 0, 40, .inl (fun _ => 0))]) F.heap := by
    refine ⟨?_, fun i x hi => ?_⟩
    · rw [List.length_append]
      have : F.heap.size = H.size + 1 + 3 := f1
      rw [this, hG.1]
      rfl
    · by_cases hl : i < cs.length
      · rw [List.getElem?_append_left hl] at hi
        exact (hG.2 i x hi).kept (hold _ (by rw [hG.1]; show a + i < _; omega))
      · rw [List.getElem?_append_right (by omega)] at hi
        obtain ⟨d, hd⟩ : ∃ d, i = cs.length + d := ⟨i - cs.length, by omega⟩
        subst hd
        rw [Nat.add_sub_cancel_left] at hi
        have hq : a + (cs.length + d) = H.size + d := by rw [hG.1]; omega
        rw [hq]
        match d, hi with
        | 0, hi =>
          cases hi
          show F.heap[H.size + 0]? = some _
          rw [← hz]
          have f2' : F.heap[H.size]? = some (Jvm.Free.Multi.outerC (xk X 3) 3 H.size 3) := f2
          rw [hout] at f2'
          exact f2'
        | 1, hi => cases hi; exact hrow 0 (by decide)
        | 2, hi => cases hi; exact hrow 1 (by decide)
        | 3, hi => cases hi; exact hrow 2 (by decide)
        | d + 4, hi => exact absurd (List.getElem?_eq_some_iff.mp hi).1 (by simp)
  obtain ⟨t, a1, b1⟩ := kk F.heap hcells' ⟨by have : F.heap.size = H.size + 1 + 3 := f1; rw [this]; exact Nat.le_trans hS.1 (by omega), fun q h1 h2 => (hold q (Nat.lt_of_lt_of_le h1 hS.1)).trans (hS.2.1 q h1 h2), hS.2.2⟩ F rfl X'
  rw [hT, hz] at step
  exact ⟨t, step t a1, b1⟩
/-- behind an inner constructor -/
theorem kn_call {st0 : List Value} {mc ms : Nat} {av : Array Value} {b : Nat} {x : va_E} {cb cs' : List va_E} {cs0 : List va_E} (hr : va_Run p l e R s m args below meth c H locs cells slots mc ms (F0 m pc ls st0) rest (QN X b cb av) (fun q => b ≤ q)) (hG : WG X a cs H) (hS : va_S (fun q => a ≤ q) s.heap H locs) (hcs : cs = cs0 ++ [x]) (hb : a + cs0.length = b) (hcs' : cs0 ++ cb = cs')
    (kk : ∀ (H1 : Heap) (locs1 : List Loc), WG X a cs' H1 → va_S (fun q => a ≤ q) s.heap H1 locs1 → W p l e R s m args below meth c H1 locs1 (cells + mc) (slots + ms) Q (F0 m (pc + 3) ls rest)) : W p l e R s m args below meth c H locs cells slots Q (F0 m pc ls st0) := by
  subst hcs'
  subst hb
  intro T hT Xs
  obtain ⟨v0, st₀, t, T', L, h0, X', hL, e1, e2, ⟨hv, hws, hz, hk⟩, st⟩ := hr T hT Xs
  cases hv
  rw [h0] at hz hk
  rw [← e1] at hws hz hk
  obtain ⟨t2, a1, b1⟩ := kk T'.heap (locs ++ L) ⟨by rw [hws.1, List.length_append]; omega, fun i y hi => by
      by_cases hl : i < cs0.length
      · rw [List.getElem?_append_left hl] at hi
        have hi2 : cs[i]? = some y := by rw [hcs, List.getElem?_append_left hl]; exact hi
        have hlt := (hG.2 i y hi2).lt
        exact (hG.2 i y hi2).kept (hk _ hlt (by show ¬ a + cs0.length ≤ a + i; omega))
      · rw [List.getElem?_append_right (by omega)] at hi
        have := hws.2 _ _ hi
        rw [show a + cs0.length + (i - cs0.length) = a + i by omega] at this
        exact this⟩
    ⟨Nat.le_trans hS.1 hz, fun q h1 h2 => by rw [hk q (Nat.lt_of_lt_of_le h1 hS.1) (fun z => h2 (Nat.le_trans (Nat.le_add_right _ _) z))]; exact hS.2.1 q h1 h2, fun q hq => by
      rcases List.mem_append.mp hq with h | h
      · exact hS.2.2 q h
      · exact Nat.le_trans (Nat.le_add_right _ _) (hL q h)⟩ T' rfl X'
  exact ⟨t2, st t2 a1, b1⟩
/-- what an inner constructor wants -/
theorem kn_pre {b : Nat} {x : va_E} {cs0 : List va_E} (hK : KC X s) (hG : WG X a cs H) (hcs : cs = cs0 ++ [x]) (hb : a + cs0.length = b) : PreS s H (va_Pc [.ref b] (fun U => PN X b x U)) (.ref b :: []) := by
  subst hb
  subst hcs
  refine ⟨PN.blind, fun U hU hw => ⟨rfl, by rw [hU, hG.1, List.length_append]; rfl, ?_, hK.warm hw⟩⟩
  rw [hU]
  exact hG.2 cs0.length x (by rw [List.getElem?_append_right (Nat.le_refl _), Nat.sub_self]; rfl)
theorem kn_ret (hx : p.tables.exec = Jvm.exec) (hb : c.code = cc) (hr : meth.sig.returnType = none) (hl : meth.locks = false) (hG : WG X a cs H) (hS : va_S (fun q => a ≤ q) s.heap H locs) (hd : decode cc pc = .ok (.return_, 1)) :
    W p l e R s m args below meth c H locs cells slots (MQ below (QN X a cs) args s cells slots (fun q => a ≤ q)) (F0 m pc ls []) :=
  W.vret hx hb hr (fun t ht hw => ⟨rfl, by rw [ht]; exact hG, hS.F ht⟩) hS.2.2 hd hl
end KN
theorem WG.start {X : Cx} {a : Nat} {x : va_E} {H : Heap} (hz : H.size = a + 1) (h : va_at (xD X) vwCl (a, x) H) : WG X a [x] H := ⟨hz, fun i y hi => by
  have h1 : i < 1 := (List.getElem?_eq_some_iff.mp hi).1
  obtain rfl : i = 0 := by omega
  cases hi
  exact h⟩
theorem gI {y : MethodName} {bytes : ByteArray} {maxL : Nat} {ret : Option FieldType} (h5 : Cond.code y bytes maxL ret ∈ lwG) : GoodIn lwG (Cond.code y bytes maxL ret :: lwG) := by
  intro w hw
  have h : w ∈ lwG := by
    rcases List.mem_cons.mp hw with h | h
    · exact h ▸ h5
    · exact h
  exact ⟨h, good_of_word (List.mem_filter.mp h).2⟩
theorem arrV_ext {ca : ClassId} {n : Nat} {f g : Nat → Value} (h : ∀ k, k < n → f k = g k) : arrV ca n f = arrV ca n g := by
  unfold arrV
  have e : (fun j : Fin n => f j.val) = (fun j : Fin n => g j.val) := funext fun j => h j.val j.isLt
  rw [e]
/-- the places of a row of references alone count -/
theorem WG.re {X : Cx} {a : Nat} {cs : List va_E} {H : Heap} (hG : WG X a cs H) (i0 : Nat) {ca : ClassId} {n : Nat} {f : Nat → Option Nat} (g : Nat → Option Nat) (hi : cs[i0]? = some (.inl (ca, n, .inr (.inr (.inr (.inr f)))))) (hfg : ∀ k, k < n → f k = g k) {cs' : List va_E} (hcs : cs.set i0 (.inl (ca, n, .inr (.inr (.inr (.inr g))))) = cs') : WG X a cs' H := by
  subst hcs
  refine hG.set hi rfl (fun _ _ => rfl) ?_
  have h1 : H[a + i0]? = some (vp_cell ca (n, .inr (.inr (.inr (.inr f))))) := hG.2 i0 _ hi
  show H[a + i0]? = some (vp_cell ca (n, .inr (.inr (.inr (.inr g)))))
  rw [h1, vp_cell_q, vp_cell_q, arrV_ext (fun k hk => by rw [hfg k hk])]
