/-! methods with handlers, the law's row of one long, and the law's own end -/
theorem met_ofWH {l : Launch} {y : MethodName} {ws ws' : List Cond} {rm : Room} {Pc : Array Value → State → Prop} {Qc : Array Value → State → Outcome → State → Prop} {mc ms : Nat} {free : Addr → Prop} {cc : ByteArray} {maxL : Nat} {ret : Option FieldType} {hh : List (Nat × Nat × Nat × Nat)}
    (hy : plainName y.cls = true) (hw : ws = Cond.codeWith y cc maxL ret hh :: ws')
    (body : ∀ p e s m args below meth c s₁, BodyLoose p l y (headSpec ws rm) cc maxL ret e s m args below meth c s₁ → c.maxLocals = maxL → Pc args s →
      W p l e (headSpec ws rm).room s m args below meth c s.heap [] 0 0 (MQ below Qc args s mc ms free) (entryFrame m args maxL)) : Met l y ws rm Pc Qc mc ms free := by
  refine MetFree.of_bodyS (code := cc) (maxLocals := maxL) (ret := ret) hy ?_ ?_
  · intro args s m h hn
    obtain ⟨m9, meth, c, hn9, h1, h2, h3, h4, -, h5, h6, -⟩ := Cond.codeWith_spec (atoms_spec (ws := ws) h _ (by rw [hw]; exact List.mem_cons_self))
    cases hn.symm.trans hn9
    exact ⟨meth, c, h1, h2, h3, h4, h5, h6⟩
  · intro p e s m args below meth c s₁ B hml hP _
    have hh0 : s₁.heap = s.heap := by rw [B.state]; rfl
    obtain ⟨t, a1, o, b1, b2, b3⟩ := body p e s m args below meth c s₁ B hml hP s₁ hh0 (Stand.of_body B)
    exact ⟨t, o, a1, b1, b2, ⟨b3.1, b3.2⟩⟩
section KW
variable {p : Program} {l : Launch} {e : Env} {R : Room} {s : State} {m : MethodId} {args : Array Value} {below : List Frame} {meth : Method} {c : Code} {H : Heap} {locs : List Loc} {cells slots : Nat} {Q : State → Prop}
variable {cc : ByteArray} {pc : Nat} {ls : Array Slot} {rest : List Value} {X : Cx} {h : HH} {a : Nat}
theorem kw_call {r : Nat × Int32 × HH} {mc ms : Nat} {st0 : List Value} {av : Array Value} (hr : vx_Run p l e R s m args below meth c H locs cells slots mc ms (F0 m pc ls st0) rest (QXi X r av) (XXi X r) (xA X)) (hS : va_S (xA X) s.heap H locs)
    (k0 : r.1 = 0 → ∀ (H1 : Heap) (locs1 : List Loc), WH X r.2.2 H1 → va_S (xA X) s.heap H1 locs1 → W p l e R s m args below meth c H1 locs1 (cells + mc) (slots + ms) Q (F0 m (pc + 3) ls (.int r.2.1 :: rest)))
    (kx : r.1 ≠ 0 → ∀ (H1 : Heap) (locs1 : List Loc) (q : Addr) (ce : Cell), WH X r.2.2 H1 → va_S (xA X) s.heap H1 locs1 → H1[q]? = some ce → ce.vm = .none → s.vm.findClass (exN r.1) = some ce.cls → vx_W p l e R s m args below meth c H1 locs1 (cells + mc) (slots + ms) Q (F0 m pc ls rest) q) : W p l e R s m args below meth c H locs cells slots Q (F0 m pc ls st0) := by
  intro T hT Xs
  rcases hr T hT Xs with ⟨v, st₀, t, T', L, h0, X', hL, e1, e2, ⟨hz, hv, hws, hF⟩, st⟩ | ⟨q, st₀, t, T', L, E, ce, h0, X', hL, e1, e2, ⟨hz, hE, hws, hF⟩, hce, hcv, hcl, st⟩
  · cases hv
    obtain ⟨t2, a1, b1⟩ := k0 hz T'.heap (locs ++ L) (by rw [e1]; exact hws.1) (kx_S h0 e1 hS hL hF) T' rfl X'
    exact ⟨t2, st t2 a1, b1⟩
  · subst hE
    obtain ⟨t2, a1, b1⟩ := kx hz T'.heap (locs ++ L) q ce (by rw [e1]; exact hws) (kx_S h0 e1 hS hL hF) (by rw [e1]; exact hce) hcv hcl T' rfl X'
    exact ⟨t2, st.trans a1, b1⟩
theorem kb_last (hexec : p.tables.exec = Jvm.exec) (hb : c.code = cc) (hK : KS X s) (hW : WH X h H) (hS : va_S (xA X) s.heap H locs) (hL : xL X a = some (shJ X 1)) {x : Int64} (hdg : decode cc pc = .ok (.lastore, 1))
    (kk : ∀ (H1 : Heap) (locs1 : List Loc), WH X (hsetL h a 0 1 x) H1 → va_S (xA X) s.heap H1 locs1 → W p l e R s m args below meth c H1 locs1 cells slots Q (F0 m (pc + 1) ls rest)) : W p l e R s m args below meth c H locs cells slots Q (F0 m pc ls (.long x :: .int 0 :: .ref a :: rest)) := by
  have hc0 : H[a]? = some (vp_cell (xk X 4) (1, .inr (.inl (fun k => LJ (h a (2 * k)) (h a (2 * k + 1)))))) := (hW a _ hL).2
  refine W.last hexec hb hc0 ((hK.1.2 4 _ rfl).1 1 (fun j => .long (LJ (h a (2 * j)) (h a (2 * j + 1))))) (fun q => by cases q) (by show ¬ ((0 : Int32) < 0 ∨ (arrV _ _ _).slots.size ≤ _); rw [arrV_size]; show ¬ ((0 : Int32) < 0 ∨ 1 ≤ (0 : Int32).toNatClampNeg); decide) rfl rfl hdg fun H1 e z oq => ?_
  refine kk H1 _ (hW.upd hL ?_ (fun q hq => by rw [hsetL, hset_o _ _ _ _ hq, hset_o _ _ _ _ hq]) oq) (hS.put z oq (hW a _ hL).1)
  rw [hsetL, hset_s, hset_s]
  show H1[a]? = some (vp_cell (xk X 4) (1, .inr (.inl _)))
  rw [e, vp_cell_l, vp_cell_l, arrV_store]
  rw [arrV_ext]
  intro k hk
  obtain rfl : k = 0 := by omega
  show Value.long x = .long (LJ (LHi x) (LLo x))
  rw [LJ_eq]
theorem kb_lald (hexec : p.tables.exec = Jvm.exec) (hb : c.code = cc) (hK : KS X s) (hW : WH X h H) (hL : xL X a = some (shJ X 1)) (hdg : decode cc pc = .ok (.laload, 1))
    (kk : W p l e R s m args below meth c H locs cells slots Q (F0 m (pc + 1) ls (.long (LJ (h a 0) (h a 1)) :: rest))) : W p l e R s m args below meth c H locs cells slots Q (F0 m pc ls (.int 0 :: .ref a :: rest)) :=
  va_lald hexec hb hK.1 (hW.one hL) 0 4 (n := 1) (f := fun k => LJ (h a (2 * k)) (h a (2 * k + 1))) rfl rfl (vpd (by decide)) hdg kk
/-- a call of a method of the law -/
theorem kSW_i {y : MethodName} {bytes : ByteArray} {maxL nL n index mc ms : Nat} {ret : Option FieldType} {hh : List (Nat × Nat × Nat × Nat)} {ws : List Cond} {rm : Room} {Ts : List Cond} {own : String} {As st : List Value} {h' : HH} {v : Int32} (S : CallFix p m c cc nL s args Ts own) (hM : Met l y ws rm (va_Pc As (fun U => WS X h U)) (QI X v h') mc ms (xA X)) (cw : vx_CSW R s args own index y bytes maxL ret hh ws rm mc ms n) (hK : KS X s) (hW : WH X h H) (hS : va_S (xA X) s.heap H locs) (hn : As.length = n) (hsz : ls.size = nL) (hst : st = As.reverse ++ rest) (hrm : (rest.map fun v => v.category).sum ≤ 8) (hdg : decode cc pc = .ok (.invokestatic index, 3)) (hf : cells + mc ≤ R.cells ∧ slots + ms ≤ R.slots)
    (kk : ∀ (H1 : Heap) (locs1 : List Loc), WH X h' H1 → va_S (xA X) s.heap H1 locs1 → W p l e R s m args below meth c H1 locs1 (cells + mc) (slots + ms) Q (F0 m (pc + 3) ls (.int v :: rest))) : W p l e R s m args below meth c H locs cells slots Q (F0 m pc ls st) :=
  kc_i (vx_runSW (g := F0 m pc ls st) S hM cw ⟨WS.blind, WS.pre hK hW hS⟩ rfl hn hsz hst (lv_room hrm) hdg hf) hS kk
end KW
theorem gSW {own : String} {idx : Nat} {y : MethodName} {bytes : ByteArray} {maxL : Nat} {ret : Option FieldType} {hh : List (Nat × Nat × Nat × Nat)} (h1 : Cond.methodLink own idx y ∈ lwG) (h2 : Cond.static y ∈ lwG) (h3 : Cond.initialized y.cls ∈ lwG) (h5 : Cond.codeWith y bytes maxL ret hh ∈ lwG) : GoodIn lwG (va_wsS own idx y (Cond.codeWith y bytes maxL ret hh :: lwG)) := by
  have key : ∀ w, w ∈ lwG → w ∈ lwG ∧ ((w.onTables && w.keeps) = true ∨ ∃ ty, w = .arrayClass ty) := fun w h => ⟨h, good_of_word (List.mem_filter.mp h).2⟩
  intro w hw
  refine key w ?_
  simp only [va_wsS, List.cons_append, List.nil_append, List.mem_cons] at hw
  rcases hw with h | h | h | h | h
  · exact h ▸ h1
  · exact h ▸ h2
  · exact h ▸ h3
  · exact h ▸ h5
  · exact h
