/-! THE CLAIM OUT OF ONE WALK OF THE LAW'S BODY. Your part is whole_start (and what it stands on); all else here is the same for every law, but numbers. -/
def R_law : String := "VillageBoardLaw"
def lw_P (b : Addr) (xs : List Int32) (args : Array Value) (s : State) : Prop := args = #[.ref b] ∧ s.IntsAt b xs ∧ xs.length ≤ 2048 ∧ (Jvm.Cond.and given_1 narrow_1).before args s = true
def lw_Q (_ : Array Value) (s : State) (o : Outcome) (t : State) : Prop := o = .returned (some (.int 1)) ∧ Framed s o t [] 601024 7293034
def lw_Z (below : List Frame) (a : Array Value) (s : State) : State → Prop := fun t => ∃ o, t.status = .running ∧ Ended t below o ∧ lw_Q a s o t
/-- the law's own end, with 1 on the stack, nothing written that was there before, its room as the claim has it -/
theorem lw_ret {p : Program} {l : Launch} {e : Env} {s : State} {m : MethodId} {below : List Frame} {meth : Method} {c : Code} {b : Nat} (hx : p.tables.exec = Jvm.exec) (hb : c.code = code) (hr : meth.sig.returnType = ret) (hlocks : meth.locks = false) {pc : Nat} {H : Heap} {ls : Array Slot} (hdg : decode code pc = .ok (.ireturn, 1)) : W p l e room_1 s m #[Value.ref b] below meth c H [] 601024 7293034 (lw_Z below #[Value.ref b] s) (F0 m pc ls [.int 1]) := by
  intro T hT X
  obtain ⟨fs, hret, hrun, hended, hW, hframe⟩ := X.leave (v := some (.int 1)) (hlocks := hlocks) (fun h => by rw [hr] at h; cases h)
  have hmeth' : T.vm.method? m = some meth := X.method'
  refine ⟨T.setFrames fs, ?_, .returned (some (.int 1)), hrun, hended, rfl, ⟨_, rfl⟩, hW, hframe⟩
  jvm_step X.here [X.here.top, hx, hb, hdg, hmeth', hr, ret, narrow_b1]
  (try refine ⟨rfl, ?_⟩); (try refine ⟨rfl, ?_⟩)
  first | (intro acts; rw [hret _ acts rfl rfl rfl]) | rw [hret _ _ rfl rfl rfl]
  exact Steps.refl _
/-- what holds at the law's entry: the machine, the code, the tables' words (any of lw_tbl by 'hts w (by decide +kernel)'), the script of L ints xs at the cell b, what the Statement gives of the start (any of its parts by flat_of_before) -/
def lw_At (p : Program) (s : State) (m : MethodId) (meth : Method) (c : Code) (b L : Nat) (xs : Nat → Int32) : Prop :=
  p.tables.exec = Jvm.exec ∧ c.code = code ∧ meth.sig.returnType = ret ∧ c.maxLocals = 7 ∧ s.vm.findClass R_law = some m.cls ∧ (∀ w ∈ lw_tbl, w.before #[Value.ref b] s = true) ∧ va_X b L xs s s.heap ∧ b < s.heap.size ∧ meth.locks = false ∧ (Jvm.Cond.and given_1 narrow_1).before #[Value.ref b] s = true
/-- what holds all through the law's loop -/
def CL (p : Program) (s : State) (m : MethodId) (meth : Method) (c : Code) (X : Cx) (b L : Nat) (xs : Nat → Int32) (a r2 r3 : Nat) : Prop :=
  p.tables.exec = Jvm.exec ∧ c.code = code ∧ meth.sig.returnType = ret ∧ meth.locks = false ∧ c.maxLocals = 7 ∧ s.vm.findClass RL = some m.cls ∧ (∀ w ∈ lwG, w.before #[Value.ref b] s = true) ∧ KS X s ∧ va_X b L xs s s.heap ∧ b < s.heap.size ∧ xz X = s.heap.size ∧ IsBd X a ∧ IsMo X r2 ∧ xL X r3 = some (shJ X 1)
def sL_law_c1432 (a r2 r3 L : Nat) (xs : Nat → Int32) (K23 : Int32 → HH → Prop) (x4 : Int32) (h : HH) : Prop := K23 (x4 + 4) h
set_option maxRecDepth 100000 in
set_option maxHeartbeats 4000000 in
theorem xL_law_c1432 {p : Program} {l : Launch} {e : Env} {s : State} {m : MethodId} {below : List Frame} {meth : Method} {c : Code} {X : Cx} {a r2 r3 b L : Nat} {xs : Nat → Int32} (hst : l.stackTraces = false) (C0 : CL p s m meth c X b L xs a r2 r3) {K23 : Int32 → HH → Prop} {cells slots cB sB : Nat} (hcB : cells ≤ cB) (hsB : slots ≤ sB) (hcR : cB ≤ 601024) (hsR : sB ≤ 7293034) (hk23 : ∀ (x4 : Int32) (h : HH) (H : Heap) (locs : List Loc) (ls : Array Slot), lv_has ls 7 [(0, .ref b), (1, .ref a), (2, .ref r2), (3, .ref r3), (4, .int x4)] → WH X h H → va_S (xA X) s.heap H locs → K23 x4 h → W p l e room_1 s m #[Value.ref b] below meth c H locs cB sB (lw_Z below #[Value.ref b] s) (F0 m 23 ls [])) (x4 : Int32) (h : HH) (H : Heap) (locs : List Loc) (ls : Array Slot) (hl : lv_has ls 7 [(0, .ref b), (1, .ref a), (2, .ref r2), (3, .ref r3), (4, .int x4)]) (hW : WH X h H) (hS : va_S (xA X) s.heap H locs) (hs : sL_law_c1432 a r2 r3 L xs K23 x4 h) : W p l e room_1 s m #[Value.ref b] below meth c H locs cells slots (lw_Z below #[Value.ref b] s) (F0 m 1432 ls []) := by
  obtain ⟨hx, hb, hr, hlk, hml, hown, hts, hK, hX9, hbl, hz9, hO, hM, hJ⟩ := id C0
  have hbA : ¬ xA X b := by show ¬ xz X ≤ b; rw [hz9]; omega
  refine lv_iinc (v := x4 + 4) (lv' := [(4, .int (x4 + 4)), (0, .ref b), (1, .ref a), (2, .ref r2), (3, .ref r3)]) hx hb dL_law_1432 hl (k := 4) rfl rfl (by decide) rfl (fun ls hl => ?_)
  refine lv_goto (tgt := 23) hx hb dL_law_1435 (by decide) ?_
  exact W.widen (k := cB) (n := sB) (by omega) (by omega) (hk23 (x4 + 4) h _ _ _ (lv_sub hl [1, 2, 3, 4, 0] rfl) hW hS hs)
def sL_law_c191 (a r2 r3 L : Nat) (xs : Nat → Int32) (K23 : Int32 → HH → Prop) (x4 : Int32) (x5 : Int32) (xs0 : Int32) (h : HH) : Prop := ((fX6_thrown r2 h) = x5 → ((x5 = 0 → (((lg_cmp (LJ (h r3 0) (h r3 1)) xs0.toInt64) = 0 → (sL_law_c1432 a r2 r3 L xs K23 x4 h)) ∧ (¬ ((lg_cmp (LJ (h r3 0) (h r3 1)) xs0.toInt64) = 0) → False))) ∧ (¬ (x5 = 0) → (sL_law_c1432 a r2 r3 L xs K23 x4 h)))) ∧ (¬ ((fX6_thrown r2 h) = x5) → False)
set_option maxRecDepth 100000 in
set_option maxHeartbeats 4000000 in
theorem xL_law_c191 {p : Program} {l : Launch} {e : Env} {s : State} {m : MethodId} {below : List Frame} {meth : Method} {c : Code} {X : Cx} {a r2 r3 b L : Nat} {xs : Nat → Int32} (hst : l.stackTraces = false) (C0 : CL p s m meth c X b L xs a r2 r3) {K23 : Int32 → HH → Prop} {cells slots cB sB : Nat} (hcB : cells ≤ cB) (hsB : slots ≤ sB) (hcR : cB ≤ 601024) (hsR : sB ≤ 7293034) (hk23 : ∀ (x4 : Int32) (h : HH) (H : Heap) (locs : List Loc) (ls : Array Slot), lv_has ls 7 [(0, .ref b), (1, .ref a), (2, .ref r2), (3, .ref r3), (4, .int x4)] → WH X h H → va_S (xA X) s.heap H locs → K23 x4 h → W p l e room_1 s m #[Value.ref b] below meth c H locs cB sB (lw_Z below #[Value.ref b] s) (F0 m 23 ls [])) (x4 : Int32) (x5 : Int32) (xs0 : Int32) (h : HH) (H : Heap) (locs : List Loc) (ls : Array Slot) (hl : lv_has ls 7 [(0, .ref b), (1, .ref a), (2, .ref r2), (3, .ref r3), (4, .int x4), (5, .int x5)]) (hW : WH X h H) (hS : va_S (xA X) s.heap H locs) (hs : sL_law_c191 a r2 r3 L xs K23 x4 x5 xs0 h) : W p l e room_1 s m #[Value.ref b] below meth c H locs cells slots (lw_Z below #[Value.ref b] s) (F0 m 191 ls [.int xs0]) := by
  obtain ⟨hx, hb, hr, hlk, hml, hown, hts, hK, hX9, hbl, hz9, hO, hM, hJ⟩ := id C0
  have hbA : ¬ xA X b := by show ¬ xz X ≤ b; rw [hz9]; omega
  refine lv_istore (lv' := [(6, .int xs0), (0, .ref b), (1, .ref a), (2, .ref r2), (3, .ref r3), (4, .int x4), (5, .int x5)]) hx hb dL_law_191 hl (by decide) rfl (fun ls hl => ?_)
  refine lv_aload_n hx hb dL_law_193 rfl (lv_at hl 3 rfl) ?_
  refine kV_i (As := []) (rest := []) ⟨hx, hb, hml, hown, hts⟩ (kX6_thrown l X h r2 hM) (wX6_thrown hts q4_80 ⟨Nat.le_of_ble_eq_true rfl, Nat.le_of_ble_eq_true rfl⟩) hK hW hS (va_recv hK.1 (hW.one hM.1) (ci := 6) (q0 := 0) rfl rfl) rfl hl.1 rfl (Nat.le_of_ble_eq_true rfl) dL_law_194 ⟨by show _ ≤ 601024; omega, by show _ ≤ 7293034; omega⟩ (fun H locs hW hS => ?_)
  refine lv_iload hx hb dL_law_197 (lv_at hl 6 rfl) ?_
  refine lv_icmp_eq (tgt := 204) hx hb dL_law_199 (by decide) (fun c10 => ?_) (fun c10 => ?_)
  · have hs := And.left hs c10
    refine lv_iload hx hb dL_law_204 (lv_at hl 6 rfl) ?_
    refine lv_if_ne (tgt := 221) hx hb dL_law_206 (by decide) (fun c11 => ?_) (fun c11 => ?_)
    · have hs := And.right hs c11
      refine lv_goto (tgt := 1432) hx hb dL_law_221 (by decide) ?_
      exact xL_law_c1432 hst C0 (by omega) (by omega) hcR hsR hk23 x4 h _ _ _ (lv_sub hl [1, 2, 3, 4, 5] rfl) hW hS hs
    · have hs := And.left hs c11
      refine lv_aload_n hx hb dL_law_209 rfl (lv_at hl 4 rfl) ?_
      refine lv_iconst (v := 0) hx hb dL_law_210 (by decide) ?_
      refine kb_lald hx hb hK hW hJ dL_law_211 ?_
      refine lv_iload hx hb dL_law_212 (lv_at hl 0 rfl) ?_
      refine lv_i2l hx hb dL_law_214 rfl ?_
      refine W.lcmp hx hb dL_law_215 ?_
      refine lv_if_eq (tgt := 221) hx hb dL_law_216 (by decide) (fun c12 => ?_) (fun c12 => ?_)
      · have hs := And.left hs c12
        refine lv_goto (tgt := 1432) hx hb dL_law_221 (by decide) ?_
        exact xL_law_c1432 hst C0 (by omega) (by omega) hcR hsR hk23 x4 h _ _ _ (lv_sub hl [1, 2, 3, 4, 5] rfl) hW hS hs
      · have hs := And.right hs c12
        refine lv_iconst (v := 0) hx hb dL_law_219 (by decide) ?_
        exact hs.elim
  · have hs := And.right hs c10
    refine lv_iconst (v := 0) hx hb dL_law_202 (by decide) ?_
    exact hs.elim
def sL_law_c173 (a r2 r3 L : Nat) (xs : Nat → Int32) (K23 : Int32 → HH → Prop) (x4 : Int32) (xs0 : Int32) (h : HH) : Prop := (vp_in (x4 + 1) L) ∧ ((vp_in (x4 + 2) L) ∧ ((sX6_newGame r2 (xs (x4 + 1).toNatClampNeg) (xs (x4 + 2).toNatClampNeg) h) ∧ (sL_law_c191 a r2 r3 L xs K23 x4 xs0 ((fX6_newGame r2 (xs (x4 + 1).toNatClampNeg) (xs (x4 + 2).toNatClampNeg) h).1) ((fX6_newGame r2 (xs (x4 + 1).toNatClampNeg) (xs (x4 + 2).toNatClampNeg) h).2))))
set_option maxRecDepth 100000 in
set_option maxHeartbeats 4000000 in
theorem xL_law_c173 {p : Program} {l : Launch} {e : Env} {s : State} {m : MethodId} {below : List Frame} {meth : Method} {c : Code} {X : Cx} {a r2 r3 b L : Nat} {xs : Nat → Int32} (hst : l.stackTraces = false) (C0 : CL p s m meth c X b L xs a r2 r3) {K23 : Int32 → HH → Prop} {cells slots cB sB : Nat} (hcB : cells ≤ cB) (hsB : slots ≤ sB) (hcR : cB ≤ 601024) (hsR : sB ≤ 7293034) (hk23 : ∀ (x4 : Int32) (h : HH) (H : Heap) (locs : List Loc) (ls : Array Slot), lv_has ls 7 [(0, .ref b), (1, .ref a), (2, .ref r2), (3, .ref r3), (4, .int x4)] → WH X h H → va_S (xA X) s.heap H locs → K23 x4 h → W p l e room_1 s m #[Value.ref b] below meth c H locs cB sB (lw_Z below #[Value.ref b] s) (F0 m 23 ls [])) (x4 : Int32) (xs0 : Int32) (h : HH) (H : Heap) (locs : List Loc) (ls : Array Slot) (hl : lv_has ls 7 [(0, .ref b), (1, .ref a), (2, .ref r2), (3, .ref r3), (4, .int x4)]) (hW : WH X h H) (hS : va_S (xA X) s.heap H locs) (hs : sL_law_c173 a r2 r3 L xs K23 x4 xs0 h) : W p l e room_1 s m #[Value.ref b] below meth c H locs cells slots (lw_Z below #[Value.ref b] s) (F0 m 173 ls [.int xs0]) := by
  obtain ⟨hx, hb, hr, hlk, hml, hown, hts, hK, hX9, hbl, hz9, hO, hM, hJ⟩ := id C0
  have hbA : ¬ xA X b := by show ¬ xz X ≤ b; rw [hz9]; omega
  refine lv_istore (lv' := [(5, .int xs0), (0, .ref b), (1, .ref a), (2, .ref r2), (3, .ref r3), (4, .int x4)]) hx hb dL_law_173 hl (by decide) rfl (fun ls hl => ?_)
  refine lv_aload_n hx hb dL_law_175 rfl (lv_at hl 3 rfl) ?_
  refine lv_aload_n hx hb dL_law_176 rfl (lv_at hl 1 rfl) ?_
  refine lv_iload hx hb dL_law_177 (lv_at hl 5 rfl) ?_
  refine lv_iconst (v := 1) hx hb dL_law_179 (by decide) ?_
  refine lv_iadd hx hb dL_law_180 ?_
  obtain ⟨hi7, hs⟩ := hs
  refine va_sld hx hb hX9 hbl hbA hS hi7 dL_law_181 ?_
  refine lv_aload_n hx hb dL_law_182 rfl (lv_at hl 1 rfl) ?_
  refine lv_iload hx hb dL_law_183 (lv_at hl 5 rfl) ?_
  refine lv_iconst (v := 2) hx hb dL_law_185 (by decide) ?_
  refine lv_iadd hx hb dL_law_186 ?_
  obtain ⟨hi8, hs⟩ := hs
  refine va_sld hx hb hX9 hbl hbA hS hi8 dL_law_187 ?_
  obtain ⟨hc9, hs⟩ := hs
  refine kV_i (As := [.int (xs (x4 + 1).toNatClampNeg), .int (xs (x4 + 2).toNatClampNeg)]) (rest := []) ⟨hx, hb, hml, hown, hts⟩ (kX6_newGame l X h r2 (xs (x4 + 1).toNatClampNeg) (xs (x4 + 2).toNatClampNeg) hM hc9) (wX6_newGame hts q4_92 ⟨Nat.le_of_ble_eq_true rfl, Nat.le_of_ble_eq_true rfl⟩) hK hW hS (va_recv hK.1 (hW.one hM.1) (ci := 6) (q0 := 0) rfl rfl) rfl hl.1 rfl (Nat.le_of_ble_eq_true rfl) dL_law_188 ⟨by show _ ≤ 601024; omega, by show _ ≤ 7293034; omega⟩ (fun H locs hW hS => ?_)
  exact xL_law_c191 hst C0 (by omega) (by omega) hcR hsR hk23 x4 xs0 ((fX6_newGame r2 (xs (x4 + 1).toNatClampNeg) (xs (x4 + 2).toNatClampNeg) h).1) ((fX6_newGame r2 (xs (x4 + 1).toNatClampNeg) (xs (x4 + 2).toNatClampNeg) h).2) _ _ _ (lv_sub hl [1, 2, 3, 4, 5, 0] rfl) hW hS hs
def sL_law_c259 (a r2 r3 L : Nat) (xs : Nat → Int32) (K23 : Int32 → HH → Prop) (x4 : Int32) (x5 : Int32) (xs0 : Int32) (h : HH) : Prop := ((fX6_thrown r2 h) = x5 → ((x5 = 0 → (((lg_cmp (LJ (h r3 0) (h r3 1)) xs0.toInt64) = 0 → (sL_law_c1432 a r2 r3 L xs K23 x4 h)) ∧ (¬ ((lg_cmp (LJ (h r3 0) (h r3 1)) xs0.toInt64) = 0) → False))) ∧ (¬ (x5 = 0) → (sL_law_c1432 a r2 r3 L xs K23 x4 h)))) ∧ (¬ ((fX6_thrown r2 h) = x5) → False)
set_option maxRecDepth 100000 in
set_option maxHeartbeats 4000000 in
theorem xL_law_c259 {p : Program} {l : Launch} {e : Env} {s : State} {m : MethodId} {below : List Frame} {meth : Method} {c : Code} {X : Cx} {a r2 r3 b L : Nat} {xs : Nat → Int32} (hst : l.stackTraces = false) (C0 : CL p s m meth c X b L xs a r2 r3) {K23 : Int32 → HH → Prop} {cells slots cB sB : Nat} (hcB : cells ≤ cB) (hsB : slots ≤ sB) (hcR : cB ≤ 601024) (hsR : sB ≤ 7293034) (hk23 : ∀ (x4 : Int32) (h : HH) (H : Heap) (locs : List Loc) (ls : Array Slot), lv_has ls 7 [(0, .ref b), (1, .ref a), (2, .ref r2), (3, .ref r3), (4, .int x4)] → WH X h H → va_S (xA X) s.heap H locs → K23 x4 h → W p l e room_1 s m #[Value.ref b] below meth c H locs cB sB (lw_Z below #[Value.ref b] s) (F0 m 23 ls [])) (x4 : Int32) (x5 : Int32) (xs0 : Int32) (h : HH) (H : Heap) (locs : List Loc) (ls : Array Slot) (hl : lv_has ls 7 [(0, .ref b), (1, .ref a), (2, .ref r2), (3, .ref r3), (4, .int x4), (5, .int x5)]) (hW : WH X h H) (hS : va_S (xA X) s.heap H locs) (hs : sL_law_c259 a r2 r3 L xs K23 x4 x5 xs0 h) : W p l e room_1 s m #[Value.ref b] below meth c H locs cells slots (lw_Z below #[Value.ref b] s) (F0 m 259 ls [.int xs0]) := by
  obtain ⟨hx, hb, hr, hlk, hml, hown, hts, hK, hX9, hbl, hz9, hO, hM, hJ⟩ := id C0
  have hbA : ¬ xA X b := by show ¬ xz X ≤ b; rw [hz9]; omega
  refine lv_istore (lv' := [(6, .int xs0), (0, .ref b), (1, .ref a), (2, .ref r2), (3, .ref r3), (4, .int x4), (5, .int x5)]) hx hb dL_law_259 hl (by decide) rfl (fun ls hl => ?_)
  refine lv_aload_n hx hb dL_law_261 rfl (lv_at hl 3 rfl) ?_
  refine kV_i (As := []) (rest := []) ⟨hx, hb, hml, hown, hts⟩ (kX6_thrown l X h r2 hM) (wX6_thrown hts q4_80 ⟨Nat.le_of_ble_eq_true rfl, Nat.le_of_ble_eq_true rfl⟩) hK hW hS (va_recv hK.1 (hW.one hM.1) (ci := 6) (q0 := 0) rfl rfl) rfl hl.1 rfl (Nat.le_of_ble_eq_true rfl) dL_law_262 ⟨by show _ ≤ 601024; omega, by show _ ≤ 7293034; omega⟩ (fun H locs hW hS => ?_)
  refine lv_iload hx hb dL_law_265 (lv_at hl 6 rfl) ?_
  refine lv_icmp_eq (tgt := 272) hx hb dL_law_267 (by decide) (fun c20 => ?_) (fun c20 => ?_)
  · have hs := And.left hs c20
    refine lv_iload hx hb dL_law_272 (lv_at hl 6 rfl) ?_
    refine lv_if_ne (tgt := 289) hx hb dL_law_274 (by decide) (fun c21 => ?_) (fun c21 => ?_)
    · have hs := And.right hs c21
      refine lv_goto (tgt := 1432) hx hb dL_law_289 (by decide) ?_
      exact xL_law_c1432 hst C0 (by omega) (by omega) hcR hsR hk23 x4 h _ _ _ (lv_sub hl [1, 2, 3, 4, 5] rfl) hW hS hs
    · have hs := And.left hs c21
      refine lv_aload_n hx hb dL_law_277 rfl (lv_at hl 4 rfl) ?_
      refine lv_iconst (v := 0) hx hb dL_law_278 (by decide) ?_
      refine kb_lald hx hb hK hW hJ dL_law_279 ?_
      refine lv_iload hx hb dL_law_280 (lv_at hl 0 rfl) ?_
      refine lv_i2l hx hb dL_law_282 rfl ?_
      refine W.lcmp hx hb dL_law_283 ?_
      refine lv_if_eq (tgt := 289) hx hb dL_law_284 (by decide) (fun c22 => ?_) (fun c22 => ?_)
      · have hs := And.left hs c22
        refine lv_goto (tgt := 1432) hx hb dL_law_289 (by decide) ?_
        exact xL_law_c1432 hst C0 (by omega) (by omega) hcR hsR hk23 x4 h _ _ _ (lv_sub hl [1, 2, 3, 4, 5] rfl) hW hS hs
      · have hs := And.right hs c22
        refine lv_iconst (v := 0) hx hb dL_law_287 (by decide) ?_
        exact hs.elim
  · have hs := And.right hs c20
    refine lv_iconst (v := 0) hx hb dL_law_270 (by decide) ?_
    exact hs.elim
def sL_law_c241 (a r2 r3 L : Nat) (xs : Nat → Int32) (K23 : Int32 → HH → Prop) (x4 : Int32) (xs0 : Int32) (h : HH) : Prop := (vp_in (x4 + 1) L) ∧ ((vp_in (x4 + 2) L) ∧ ((sX6_reason r2 (xs (x4 + 1).toNatClampNeg) (xs (x4 + 2).toNatClampNeg) h) ∧ (sL_law_c259 a r2 r3 L xs K23 x4 xs0 ((fX6_reason r2 (xs (x4 + 1).toNatClampNeg) (xs (x4 + 2).toNatClampNeg) h).1) ((fX6_reason r2 (xs (x4 + 1).toNatClampNeg) (xs (x4 + 2).toNatClampNeg) h).2))))
set_option maxRecDepth 100000 in
set_option maxHeartbeats 4000000 in
theorem xL_law_c241 {p : Program} {l : Launch} {e : Env} {s : State} {m : MethodId} {below : List Frame} {meth : Method} {c : Code} {X : Cx} {a r2 r3 b L : Nat} {xs : Nat → Int32} (hst : l.stackTraces = false) (C0 : CL p s m meth c X b L xs a r2 r3) {K23 : Int32 → HH → Prop} {cells slots cB sB : Nat} (hcB : cells ≤ cB) (hsB : slots ≤ sB) (hcR : cB ≤ 601024) (hsR : sB ≤ 7293034) (hk23 : ∀ (x4 : Int32) (h : HH) (H : Heap) (locs : List Loc) (ls : Array Slot), lv_has ls 7 [(0, .ref b), (1, .ref a), (2, .ref r2), (3, .ref r3), (4, .int x4)] → WH X h H → va_S (xA X) s.heap H locs → K23 x4 h → W p l e room_1 s m #[Value.ref b] below meth c H locs cB sB (lw_Z below #[Value.ref b] s) (F0 m 23 ls [])) (x4 : Int32) (xs0 : Int32) (h : HH) (H : Heap) (locs : List Loc) (ls : Array Slot) (hl : lv_has ls 7 [(0, .ref b), (1, .ref a), (2, .ref r2), (3, .ref r3), (4, .int x4)]) (hW : WH X h H) (hS : va_S (xA X) s.heap H locs) (hs : sL_law_c241 a r2 r3 L xs K23 x4 xs0 h) : W p l e room_1 s m #[Value.ref b] below meth c H locs cells slots (lw_Z below #[Value.ref b] s) (F0 m 241 ls [.int xs0]) := by
  obtain ⟨hx, hb, hr, hlk, hml, hown, hts, hK, hX9, hbl, hz9, hO, hM, hJ⟩ := id C0
  have hbA : ¬ xA X b := by show ¬ xz X ≤ b; rw [hz9]; omega
  refine lv_istore (lv' := [(5, .int xs0), (0, .ref b), (1, .ref a), (2, .ref r2), (3, .ref r3), (4, .int x4)]) hx hb dL_law_241 hl (by decide) rfl (fun ls hl => ?_)
  refine lv_aload_n hx hb dL_law_243 rfl (lv_at hl 3 rfl) ?_
  refine lv_aload_n hx hb dL_law_244 rfl (lv_at hl 1 rfl) ?_
  refine lv_iload hx hb dL_law_245 (lv_at hl 5 rfl) ?_
  refine lv_iconst (v := 1) hx hb dL_law_247 (by decide) ?_
  refine lv_iadd hx hb dL_law_248 ?_
  obtain ⟨hi17, hs⟩ := hs
  refine va_sld hx hb hX9 hbl hbA hS hi17 dL_law_249 ?_
  refine lv_aload_n hx hb dL_law_250 rfl (lv_at hl 1 rfl) ?_
  refine lv_iload hx hb dL_law_251 (lv_at hl 5 rfl) ?_
  refine lv_iconst (v := 2) hx hb dL_law_253 (by decide) ?_
  refine lv_iadd hx hb dL_law_254 ?_
  obtain ⟨hi18, hs⟩ := hs
  refine va_sld hx hb hX9 hbl hbA hS hi18 dL_law_255 ?_
  obtain ⟨hc19, hs⟩ := hs
  refine kV_i (As := [.int (xs (x4 + 1).toNatClampNeg), .int (xs (x4 + 2).toNatClampNeg)]) (rest := []) ⟨hx, hb, hml, hown, hts⟩ (kX6_reason l X h r2 (xs (x4 + 1).toNatClampNeg) (xs (x4 + 2).toNatClampNeg) hM hc19) (wX6_reason hts q4_103 ⟨Nat.le_of_ble_eq_true rfl, Nat.le_of_ble_eq_true rfl⟩) hK hW hS (va_recv hK.1 (hW.one hM.1) (ci := 6) (q0 := 0) rfl rfl) rfl hl.1 rfl (Nat.le_of_ble_eq_true rfl) dL_law_256 ⟨by show _ ≤ 601024; omega, by show _ ≤ 7293034; omega⟩ (fun H locs hW hS => ?_)
  exact xL_law_c259 hst C0 (by omega) (by omega) hcR hsR hk23 x4 xs0 ((fX6_reason r2 (xs (x4 + 1).toNatClampNeg) (xs (x4 + 2).toNatClampNeg) h).1) ((fX6_reason r2 (xs (x4 + 1).toNatClampNeg) (xs (x4 + 2).toNatClampNeg) h).2) _ _ _ (lv_sub hl [1, 2, 3, 4, 5, 0] rfl) hW hS hs
def sL_law_c327 (a r2 r3 L : Nat) (xs : Nat → Int32) (K23 : Int32 → HH → Prop) (x4 : Int32) (x5 : Int32) (xs0 : Int32) (h : HH) : Prop := ((fX6_thrown r2 h) = x5 → ((x5 = 0 → (((lg_cmp (LJ (h r3 0) (h r3 1)) xs0.toInt64) = 0 → (sL_law_c1432 a r2 r3 L xs K23 x4 h)) ∧ (¬ ((lg_cmp (LJ (h r3 0) (h r3 1)) xs0.toInt64) = 0) → False))) ∧ (¬ (x5 = 0) → (sL_law_c1432 a r2 r3 L xs K23 x4 h)))) ∧ (¬ ((fX6_thrown r2 h) = x5) → False)
set_option maxRecDepth 100000 in
set_option maxHeartbeats 4000000 in
theorem xL_law_c327 {p : Program} {l : Launch} {e : Env} {s : State} {m : MethodId} {below : List Frame} {meth : Method} {c : Code} {X : Cx} {a r2 r3 b L : Nat} {xs : Nat → Int32} (hst : l.stackTraces = false) (C0 : CL p s m meth c X b L xs a r2 r3) {K23 : Int32 → HH → Prop} {cells slots cB sB : Nat} (hcB : cells ≤ cB) (hsB : slots ≤ sB) (hcR : cB ≤ 601024) (hsR : sB ≤ 7293034) (hk23 : ∀ (x4 : Int32) (h : HH) (H : Heap) (locs : List Loc) (ls : Array Slot), lv_has ls 7 [(0, .ref b), (1, .ref a), (2, .ref r2), (3, .ref r3), (4, .int x4)] → WH X h H → va_S (xA X) s.heap H locs → K23 x4 h → W p l e room_1 s m #[Value.ref b] below meth c H locs cB sB (lw_Z below #[Value.ref b] s) (F0 m 23 ls [])) (x4 : Int32) (x5 : Int32) (xs0 : Int32) (h : HH) (H : Heap) (locs : List Loc) (ls : Array Slot) (hl : lv_has ls 7 [(0, .ref b), (1, .ref a), (2, .ref r2), (3, .ref r3), (4, .int x4), (5, .int x5)]) (hW : WH X h H) (hS : va_S (xA X) s.heap H locs) (hs : sL_law_c327 a r2 r3 L xs K23 x4 x5 xs0 h) : W p l e room_1 s m #[Value.ref b] below meth c H locs cells slots (lw_Z below #[Value.ref b] s) (F0 m 327 ls [.int xs0]) := by
  obtain ⟨hx, hb, hr, hlk, hml, hown, hts, hK, hX9, hbl, hz9, hO, hM, hJ⟩ := id C0
  have hbA : ¬ xA X b := by show ¬ xz X ≤ b; rw [hz9]; omega
  refine lv_istore (lv' := [(6, .int xs0), (0, .ref b), (1, .ref a), (2, .ref r2), (3, .ref r3), (4, .int x4), (5, .int x5)]) hx hb dL_law_327 hl (by decide) rfl (fun ls hl => ?_)
  refine lv_aload_n hx hb dL_law_329 rfl (lv_at hl 3 rfl) ?_
  refine kV_i (As := []) (rest := []) ⟨hx, hb, hml, hown, hts⟩ (kX6_thrown l X h r2 hM) (wX6_thrown hts q4_80 ⟨Nat.le_of_ble_eq_true rfl, Nat.le_of_ble_eq_true rfl⟩) hK hW hS (va_recv hK.1 (hW.one hM.1) (ci := 6) (q0 := 0) rfl rfl) rfl hl.1 rfl (Nat.le_of_ble_eq_true rfl) dL_law_330 ⟨by show _ ≤ 601024; omega, by show _ ≤ 7293034; omega⟩ (fun H locs hW hS => ?_)
  refine lv_iload hx hb dL_law_333 (lv_at hl 6 rfl) ?_
  refine lv_icmp_eq (tgt := 340) hx hb dL_law_335 (by decide) (fun c30 => ?_) (fun c30 => ?_)
  · have hs := And.left hs c30
    refine lv_iload hx hb dL_law_340 (lv_at hl 6 rfl) ?_
    refine lv_if_ne (tgt := 357) hx hb dL_law_342 (by decide) (fun c31 => ?_) (fun c31 => ?_)
    · have hs := And.right hs c31
      refine lv_goto (tgt := 1432) hx hb dL_law_357 (by decide) ?_
      exact xL_law_c1432 hst C0 (by omega) (by omega) hcR hsR hk23 x4 h _ _ _ (lv_sub hl [1, 2, 3, 4, 5] rfl) hW hS hs
    · have hs := And.left hs c31
      refine lv_aload_n hx hb dL_law_345 rfl (lv_at hl 4 rfl) ?_
      refine lv_iconst (v := 0) hx hb dL_law_346 (by decide) ?_
      refine kb_lald hx hb hK hW hJ dL_law_347 ?_
      refine lv_iload hx hb dL_law_348 (lv_at hl 0 rfl) ?_
      refine lv_i2l hx hb dL_law_350 rfl ?_
      refine W.lcmp hx hb dL_law_351 ?_
      refine lv_if_eq (tgt := 357) hx hb dL_law_352 (by decide) (fun c32 => ?_) (fun c32 => ?_)
      · have hs := And.left hs c32
        refine lv_goto (tgt := 1432) hx hb dL_law_357 (by decide) ?_
        exact xL_law_c1432 hst C0 (by omega) (by omega) hcR hsR hk23 x4 h _ _ _ (lv_sub hl [1, 2, 3, 4, 5] rfl) hW hS hs
      · have hs := And.right hs c32
        refine lv_iconst (v := 0) hx hb dL_law_355 (by decide) ?_
        exact hs.elim
  · have hs := And.right hs c30
    refine lv_iconst (v := 0) hx hb dL_law_338 (by decide) ?_
    exact hs.elim
def sL_law_c309 (a r2 r3 L : Nat) (xs : Nat → Int32) (K23 : Int32 → HH → Prop) (x4 : Int32) (xs0 : Int32) (h : HH) : Prop := (vp_in (x4 + 1) L) ∧ ((vp_in (x4 + 2) L) ∧ ((sX6_place r2 (xs (x4 + 1).toNatClampNeg) (xs (x4 + 2).toNatClampNeg) h) ∧ (sL_law_c327 a r2 r3 L xs K23 x4 xs0 ((fX6_place r2 (xs (x4 + 1).toNatClampNeg) (xs (x4 + 2).toNatClampNeg) h).1) ((fX6_place r2 (xs (x4 + 1).toNatClampNeg) (xs (x4 + 2).toNatClampNeg) h).2))))
set_option maxRecDepth 100000 in
set_option maxHeartbeats 4000000 in
theorem xL_law_c309 {p : Program} {l : Launch} {e : Env} {s : State} {m : MethodId} {below : List Frame} {meth : Method} {c : Code} {X : Cx} {a r2 r3 b L : Nat} {xs : Nat → Int32} (hst : l.stackTraces = false) (C0 : CL p s m meth c X b L xs a r2 r3) {K23 : Int32 → HH → Prop} {cells slots cB sB : Nat} (hcB : cells ≤ cB) (hsB : slots ≤ sB) (hcR : cB ≤ 601024) (hsR : sB ≤ 7293034) (hk23 : ∀ (x4 : Int32) (h : HH) (H : Heap) (locs : List Loc) (ls : Array Slot), lv_has ls 7 [(0, .ref b), (1, .ref a), (2, .ref r2), (3, .ref r3), (4, .int x4)] → WH X h H → va_S (xA X) s.heap H locs → K23 x4 h → W p l e room_1 s m #[Value.ref b] below meth c H locs cB sB (lw_Z below #[Value.ref b] s) (F0 m 23 ls [])) (x4 : Int32) (xs0 : Int32) (h : HH) (H : Heap) (locs : List Loc) (ls : Array Slot) (hl : lv_has ls 7 [(0, .ref b), (1, .ref a), (2, .ref r2), (3, .ref r3), (4, .int x4)]) (hW : WH X h H) (hS : va_S (xA X) s.heap H locs) (hs : sL_law_c309 a r2 r3 L xs K23 x4 xs0 h) : W p l e room_1 s m #[Value.ref b] below meth c H locs cells slots (lw_Z below #[Value.ref b] s) (F0 m 309 ls [.int xs0]) := by
  obtain ⟨hx, hb, hr, hlk, hml, hown, hts, hK, hX9, hbl, hz9, hO, hM, hJ⟩ := id C0
  have hbA : ¬ xA X b := by show ¬ xz X ≤ b; rw [hz9]; omega
  refine lv_istore (lv' := [(5, .int xs0), (0, .ref b), (1, .ref a), (2, .ref r2), (3, .ref r3), (4, .int x4)]) hx hb dL_law_309 hl (by decide) rfl (fun ls hl => ?_)
  refine lv_aload_n hx hb dL_law_311 rfl (lv_at hl 3 rfl) ?_
  refine lv_aload_n hx hb dL_law_312 rfl (lv_at hl 1 rfl) ?_
  refine lv_iload hx hb dL_law_313 (lv_at hl 5 rfl) ?_
  refine lv_iconst (v := 1) hx hb dL_law_315 (by decide) ?_
  refine lv_iadd hx hb dL_law_316 ?_
  obtain ⟨hi27, hs⟩ := hs
  refine va_sld hx hb hX9 hbl hbA hS hi27 dL_law_317 ?_
  refine lv_aload_n hx hb dL_law_318 rfl (lv_at hl 1 rfl) ?_
  refine lv_iload hx hb dL_law_319 (lv_at hl 5 rfl) ?_
  refine lv_iconst (v := 2) hx hb dL_law_321 (by decide) ?_
  refine lv_iadd hx hb dL_law_322 ?_
  obtain ⟨hi28, hs⟩ := hs
  refine va_sld hx hb hX9 hbl hbA hS hi28 dL_law_323 ?_
  obtain ⟨hc29, hs⟩ := hs
  refine kV_i (As := [.int (xs (x4 + 1).toNatClampNeg), .int (xs (x4 + 2).toNatClampNeg)]) (rest := []) ⟨hx, hb, hml, hown, hts⟩ (kX6_place l X h r2 (xs (x4 + 1).toNatClampNeg) (xs (x4 + 2).toNatClampNeg) hM hc29) (wX6_place hts q4_146 ⟨Nat.le_of_ble_eq_true rfl, Nat.le_of_ble_eq_true rfl⟩) hK hW hS (va_recv hK.1 (hW.one hM.1) (ci := 6) (q0 := 0) rfl rfl) rfl hl.1 rfl (Nat.le_of_ble_eq_true rfl) dL_law_324 ⟨by show _ ≤ 601024; omega, by show _ ≤ 7293034; omega⟩ (fun H locs hW hS => ?_)
  exact xL_law_c327 hst C0 (by omega) (by omega) hcR hsR hk23 x4 xs0 ((fX6_place r2 (xs (x4 + 1).toNatClampNeg) (xs (x4 + 2).toNatClampNeg) h).1) ((fX6_place r2 (xs (x4 + 1).toNatClampNeg) (xs (x4 + 2).toNatClampNeg) h).2) _ _ _ (lv_sub hl [1, 2, 3, 4, 5, 0] rfl) hW hS hs
def sL_law_c371 (a r2 r3 L : Nat) (xs : Nat → Int32) (K23 : Int32 → HH → Prop) (x4 : Int32) (x5 : Int32) (xs0 : Int32) (h : HH) : Prop := ((fX6_thrown r2 h) = x5 → ((x5 = 0 → (((lg_cmp (LJ (h r3 0) (h r3 1)) xs0.toInt64) = 0 → (sL_law_c1432 a r2 r3 L xs K23 x4 h)) ∧ (¬ ((lg_cmp (LJ (h r3 0) (h r3 1)) xs0.toInt64) = 0) → False))) ∧ (¬ (x5 = 0) → (sL_law_c1432 a r2 r3 L xs K23 x4 h)))) ∧ (¬ ((fX6_thrown r2 h) = x5) → False)
set_option maxRecDepth 100000 in
set_option maxHeartbeats 4000000 in
theorem xL_law_c371 {p : Program} {l : Launch} {e : Env} {s : State} {m : MethodId} {below : List Frame} {meth : Method} {c : Code} {X : Cx} {a r2 r3 b L : Nat} {xs : Nat → Int32} (hst : l.stackTraces = false) (C0 : CL p s m meth c X b L xs a r2 r3) {K23 : Int32 → HH → Prop} {cells slots cB sB : Nat} (hcB : cells ≤ cB) (hsB : slots ≤ sB) (hcR : cB ≤ 601024) (hsR : sB ≤ 7293034) (hk23 : ∀ (x4 : Int32) (h : HH) (H : Heap) (locs : List Loc) (ls : Array Slot), lv_has ls 7 [(0, .ref b), (1, .ref a), (2, .ref r2), (3, .ref r3), (4, .int x4)] → WH X h H → va_S (xA X) s.heap H locs → K23 x4 h → W p l e room_1 s m #[Value.ref b] below meth c H locs cB sB (lw_Z below #[Value.ref b] s) (F0 m 23 ls [])) (x4 : Int32) (x5 : Int32) (xs0 : Int32) (h : HH) (H : Heap) (locs : List Loc) (ls : Array Slot) (hl : lv_has ls 7 [(0, .ref b), (1, .ref a), (2, .ref r2), (3, .ref r3), (4, .int x4), (5, .int x5)]) (hW : WH X h H) (hS : va_S (xA X) s.heap H locs) (hs : sL_law_c371 a r2 r3 L xs K23 x4 x5 xs0 h) : W p l e room_1 s m #[Value.ref b] below meth c H locs cells slots (lw_Z below #[Value.ref b] s) (F0 m 371 ls [.int xs0]) := by
  obtain ⟨hx, hb, hr, hlk, hml, hown, hts, hK, hX9, hbl, hz9, hO, hM, hJ⟩ := id C0
  have hbA : ¬ xA X b := by show ¬ xz X ≤ b; rw [hz9]; omega
  refine lv_istore (lv' := [(6, .int xs0), (0, .ref b), (1, .ref a), (2, .ref r2), (3, .ref r3), (4, .int x4), (5, .int x5)]) hx hb dL_law_371 hl (by decide) rfl (fun ls hl => ?_)
  refine lv_aload_n hx hb dL_law_373 rfl (lv_at hl 3 rfl) ?_
  refine kV_i (As := []) (rest := []) ⟨hx, hb, hml, hown, hts⟩ (kX6_thrown l X h r2 hM) (wX6_thrown hts q4_80 ⟨Nat.le_of_ble_eq_true rfl, Nat.le_of_ble_eq_true rfl⟩) hK hW hS (va_recv hK.1 (hW.one hM.1) (ci := 6) (q0 := 0) rfl rfl) rfl hl.1 rfl (Nat.le_of_ble_eq_true rfl) dL_law_374 ⟨by show _ ≤ 601024; omega, by show _ ≤ 7293034; omega⟩ (fun H locs hW hS => ?_)
  refine lv_iload hx hb dL_law_377 (lv_at hl 6 rfl) ?_
  refine lv_icmp_eq (tgt := 384) hx hb dL_law_379 (by decide) (fun c36 => ?_) (fun c36 => ?_)
  · have hs := And.left hs c36
    refine lv_iload hx hb dL_law_384 (lv_at hl 6 rfl) ?_
    refine lv_if_ne (tgt := 401) hx hb dL_law_386 (by decide) (fun c37 => ?_) (fun c37 => ?_)
    · have hs := And.right hs c37
      refine lv_goto (tgt := 1432) hx hb dL_law_401 (by decide) ?_
      exact xL_law_c1432 hst C0 (by omega) (by omega) hcR hsR hk23 x4 h _ _ _ (lv_sub hl [1, 2, 3, 4, 5] rfl) hW hS hs
    · have hs := And.left hs c37
      refine lv_aload_n hx hb dL_law_389 rfl (lv_at hl 4 rfl) ?_
      refine lv_iconst (v := 0) hx hb dL_law_390 (by decide) ?_
      refine kb_lald hx hb hK hW hJ dL_law_391 ?_
      refine lv_iload hx hb dL_law_392 (lv_at hl 0 rfl) ?_
      refine lv_i2l hx hb dL_law_394 rfl ?_
      refine W.lcmp hx hb dL_law_395 ?_
      refine lv_if_eq (tgt := 401) hx hb dL_law_396 (by decide) (fun c38 => ?_) (fun c38 => ?_)
      · have hs := And.left hs c38
        refine lv_goto (tgt := 1432) hx hb dL_law_401 (by decide) ?_
        exact xL_law_c1432 hst C0 (by omega) (by omega) hcR hsR hk23 x4 h _ _ _ (lv_sub hl [1, 2, 3, 4, 5] rfl) hW hS hs
      · have hs := And.right hs c38
        refine lv_iconst (v := 0) hx hb dL_law_399 (by decide) ?_
        exact hs.elim
  · have hs := And.right hs c36
    refine lv_iconst (v := 0) hx hb dL_law_382 (by decide) ?_
    exact hs.elim
def sL_law_c365 (a r2 r3 L : Nat) (xs : Nat → Int32) (K23 : Int32 → HH → Prop) (x4 : Int32) (xs0 : Int32) (h : HH) : Prop := (sX6_skip r2 h) ∧ (sL_law_c371 a r2 r3 L xs K23 x4 xs0 ((fX6_skip r2 h).1) ((fX6_skip r2 h).2))
set_option maxRecDepth 100000 in
set_option maxHeartbeats 4000000 in
theorem xL_law_c365 {p : Program} {l : Launch} {e : Env} {s : State} {m : MethodId} {below : List Frame} {meth : Method} {c : Code} {X : Cx} {a r2 r3 b L : Nat} {xs : Nat → Int32} (hst : l.stackTraces = false) (C0 : CL p s m meth c X b L xs a r2 r3) {K23 : Int32 → HH → Prop} {cells slots cB sB : Nat} (hcB : cells ≤ cB) (hsB : slots ≤ sB) (hcR : cB ≤ 601024) (hsR : sB ≤ 7293034) (hk23 : ∀ (x4 : Int32) (h : HH) (H : Heap) (locs : List Loc) (ls : Array Slot), lv_has ls 7 [(0, .ref b), (1, .ref a), (2, .ref r2), (3, .ref r3), (4, .int x4)] → WH X h H → va_S (xA X) s.heap H locs → K23 x4 h → W p l e room_1 s m #[Value.ref b] below meth c H locs cB sB (lw_Z below #[Value.ref b] s) (F0 m 23 ls [])) (x4 : Int32) (xs0 : Int32) (h : HH) (H : Heap) (locs : List Loc) (ls : Array Slot) (hl : lv_has ls 7 [(0, .ref b), (1, .ref a), (2, .ref r2), (3, .ref r3), (4, .int x4)]) (hW : WH X h H) (hS : va_S (xA X) s.heap H locs) (hs : sL_law_c365 a r2 r3 L xs K23 x4 xs0 h) : W p l e room_1 s m #[Value.ref b] below meth c H locs cells slots (lw_Z below #[Value.ref b] s) (F0 m 365 ls [.int xs0]) := by
  obtain ⟨hx, hb, hr, hlk, hml, hown, hts, hK, hX9, hbl, hz9, hO, hM, hJ⟩ := id C0
  have hbA : ¬ xA X b := by show ¬ xz X ≤ b; rw [hz9]; omega
  refine lv_istore (lv' := [(5, .int xs0), (0, .ref b), (1, .ref a), (2, .ref r2), (3, .ref r3), (4, .int x4)]) hx hb dL_law_365 hl (by decide) rfl (fun ls hl => ?_)
  refine lv_aload_n hx hb dL_law_367 rfl (lv_at hl 3 rfl) ?_
  obtain ⟨hc35, hs⟩ := hs
  refine kV_i (As := []) (rest := []) ⟨hx, hb, hml, hown, hts⟩ (kX6_skip l X h r2 hM hc35) (wX6_skip hts q4_206 ⟨Nat.le_of_ble_eq_true rfl, Nat.le_of_ble_eq_true rfl⟩) hK hW hS (va_recv hK.1 (hW.one hM.1) (ci := 6) (q0 := 0) rfl rfl) rfl hl.1 rfl (Nat.le_of_ble_eq_true rfl) dL_law_368 ⟨by show _ ≤ 601024; omega, by show _ ≤ 7293034; omega⟩ (fun H locs hW hS => ?_)
  exact xL_law_c371 hst C0 (by omega) (by omega) hcR hsR hk23 x4 xs0 ((fX6_skip r2 h).1) ((fX6_skip r2 h).2) _ _ _ (lv_sub hl [1, 2, 3, 4, 5, 0] rfl) hW hS hs
def sL_law_c439 (a r2 r3 L : Nat) (xs : Nat → Int32) (K23 : Int32 → HH → Prop) (x4 : Int32) (x5 : Int32) (xs0 : Int32) (h : HH) : Prop := ((fX6_thrown r2 h) = x5 → ((x5 = 0 → (((lg_cmp (LJ (h r3 0) (h r3 1)) xs0.toInt64) = 0 → (sL_law_c1432 a r2 r3 L xs K23 x4 h)) ∧ (¬ ((lg_cmp (LJ (h r3 0) (h r3 1)) xs0.toInt64) = 0) → False))) ∧ (¬ (x5 = 0) → (sL_law_c1432 a r2 r3 L xs K23 x4 h)))) ∧ (¬ ((fX6_thrown r2 h) = x5) → False)
set_option maxRecDepth 100000 in
set_option maxHeartbeats 4000000 in
theorem xL_law_c439 {p : Program} {l : Launch} {e : Env} {s : State} {m : MethodId} {below : List Frame} {meth : Method} {c : Code} {X : Cx} {a r2 r3 b L : Nat} {xs : Nat → Int32} (hst : l.stackTraces = false) (C0 : CL p s m meth c X b L xs a r2 r3) {K23 : Int32 → HH → Prop} {cells slots cB sB : Nat} (hcB : cells ≤ cB) (hsB : slots ≤ sB) (hcR : cB ≤ 601024) (hsR : sB ≤ 7293034) (hk23 : ∀ (x4 : Int32) (h : HH) (H : Heap) (locs : List Loc) (ls : Array Slot), lv_has ls 7 [(0, .ref b), (1, .ref a), (2, .ref r2), (3, .ref r3), (4, .int x4)] → WH X h H → va_S (xA X) s.heap H locs → K23 x4 h → W p l e room_1 s m #[Value.ref b] below meth c H locs cB sB (lw_Z below #[Value.ref b] s) (F0 m 23 ls [])) (x4 : Int32) (x5 : Int32) (xs0 : Int32) (h : HH) (H : Heap) (locs : List Loc) (ls : Array Slot) (hl : lv_has ls 7 [(0, .ref b), (1, .ref a), (2, .ref r2), (3, .ref r3), (4, .int x4), (5, .int x5)]) (hW : WH X h H) (hS : va_S (xA X) s.heap H locs) (hs : sL_law_c439 a r2 r3 L xs K23 x4 x5 xs0 h) : W p l e room_1 s m #[Value.ref b] below meth c H locs cells slots (lw_Z below #[Value.ref b] s) (F0 m 439 ls [.int xs0]) := by
  obtain ⟨hx, hb, hr, hlk, hml, hown, hts, hK, hX9, hbl, hz9, hO, hM, hJ⟩ := id C0
  have hbA : ¬ xA X b := by show ¬ xz X ≤ b; rw [hz9]; omega
  refine lv_istore (lv' := [(6, .int xs0), (0, .ref b), (1, .ref a), (2, .ref r2), (3, .ref r3), (4, .int x4), (5, .int x5)]) hx hb dL_law_439 hl (by decide) rfl (fun ls hl => ?_)
  refine lv_aload_n hx hb dL_law_441 rfl (lv_at hl 3 rfl) ?_
  refine kV_i (As := []) (rest := []) ⟨hx, hb, hml, hown, hts⟩ (kX6_thrown l X h r2 hM) (wX6_thrown hts q4_80 ⟨Nat.le_of_ble_eq_true rfl, Nat.le_of_ble_eq_true rfl⟩) hK hW hS (va_recv hK.1 (hW.one hM.1) (ci := 6) (q0 := 0) rfl rfl) rfl hl.1 rfl (Nat.le_of_ble_eq_true rfl) dL_law_442 ⟨by show _ ≤ 601024; omega, by show _ ≤ 7293034; omega⟩ (fun H locs hW hS => ?_)
  refine lv_iload hx hb dL_law_445 (lv_at hl 6 rfl) ?_
  refine lv_icmp_eq (tgt := 452) hx hb dL_law_447 (by decide) (fun c46 => ?_) (fun c46 => ?_)
  · have hs := And.left hs c46
    refine lv_iload hx hb dL_law_452 (lv_at hl 6 rfl) ?_
    refine lv_if_ne (tgt := 469) hx hb dL_law_454 (by decide) (fun c47 => ?_) (fun c47 => ?_)
    · have hs := And.right hs c47
      refine lv_goto (tgt := 1432) hx hb dL_law_469 (by decide) ?_
      exact xL_law_c1432 hst C0 (by omega) (by omega) hcR hsR hk23 x4 h _ _ _ (lv_sub hl [1, 2, 3, 4, 5] rfl) hW hS hs
    · have hs := And.left hs c47
      refine lv_aload_n hx hb dL_law_457 rfl (lv_at hl 4 rfl) ?_
      refine lv_iconst (v := 0) hx hb dL_law_458 (by decide) ?_
      refine kb_lald hx hb hK hW hJ dL_law_459 ?_
      refine lv_iload hx hb dL_law_460 (lv_at hl 0 rfl) ?_
      refine lv_i2l hx hb dL_law_462 rfl ?_
      refine W.lcmp hx hb dL_law_463 ?_
      refine lv_if_eq (tgt := 469) hx hb dL_law_464 (by decide) (fun c48 => ?_) (fun c48 => ?_)
      · have hs := And.left hs c48
        refine lv_goto (tgt := 1432) hx hb dL_law_469 (by decide) ?_
        exact xL_law_c1432 hst C0 (by omega) (by omega) hcR hsR hk23 x4 h _ _ _ (lv_sub hl [1, 2, 3, 4, 5] rfl) hW hS hs
      · have hs := And.right hs c48
        refine lv_iconst (v := 0) hx hb dL_law_467 (by decide) ?_
        exact hs.elim
  · have hs := And.right hs c46
    refine lv_iconst (v := 0) hx hb dL_law_450 (by decide) ?_
    exact hs.elim
def sL_law_c421 (a r2 r3 L : Nat) (xs : Nat → Int32) (K23 : Int32 → HH → Prop) (x4 : Int32) (xs0 : Int32) (h : HH) : Prop := (vp_in (x4 + 1) L) ∧ ((vp_in (x4 + 2) L) ∧ ((sX6_play r2 (xs (x4 + 1).toNatClampNeg) (xs (x4 + 2).toNatClampNeg) h) ∧ (sL_law_c439 a r2 r3 L xs K23 x4 xs0 ((fX6_play r2 (xs (x4 + 1).toNatClampNeg) (xs (x4 + 2).toNatClampNeg) h).1) ((fX6_play r2 (xs (x4 + 1).toNatClampNeg) (xs (x4 + 2).toNatClampNeg) h).2))))
set_option maxRecDepth 100000 in
set_option maxHeartbeats 4000000 in
theorem xL_law_c421 {p : Program} {l : Launch} {e : Env} {s : State} {m : MethodId} {below : List Frame} {meth : Method} {c : Code} {X : Cx} {a r2 r3 b L : Nat} {xs : Nat → Int32} (hst : l.stackTraces = false) (C0 : CL p s m meth c X b L xs a r2 r3) {K23 : Int32 → HH → Prop} {cells slots cB sB : Nat} (hcB : cells ≤ cB) (hsB : slots ≤ sB) (hcR : cB ≤ 601024) (hsR : sB ≤ 7293034) (hk23 : ∀ (x4 : Int32) (h : HH) (H : Heap) (locs : List Loc) (ls : Array Slot), lv_has ls 7 [(0, .ref b), (1, .ref a), (2, .ref r2), (3, .ref r3), (4, .int x4)] → WH X h H → va_S (xA X) s.heap H locs → K23 x4 h → W p l e room_1 s m #[Value.ref b] below meth c H locs cB sB (lw_Z below #[Value.ref b] s) (F0 m 23 ls [])) (x4 : Int32) (xs0 : Int32) (h : HH) (H : Heap) (locs : List Loc) (ls : Array Slot) (hl : lv_has ls 7 [(0, .ref b), (1, .ref a), (2, .ref r2), (3, .ref r3), (4, .int x4)]) (hW : WH X h H) (hS : va_S (xA X) s.heap H locs) (hs : sL_law_c421 a r2 r3 L xs K23 x4 xs0 h) : W p l e room_1 s m #[Value.ref b] below meth c H locs cells slots (lw_Z below #[Value.ref b] s) (F0 m 421 ls [.int xs0]) := by
  obtain ⟨hx, hb, hr, hlk, hml, hown, hts, hK, hX9, hbl, hz9, hO, hM, hJ⟩ := id C0
  have hbA : ¬ xA X b := by show ¬ xz X ≤ b; rw [hz9]; omega
  refine lv_istore (lv' := [(5, .int xs0), (0, .ref b), (1, .ref a), (2, .ref r2), (3, .ref r3), (4, .int x4)]) hx hb dL_law_421 hl (by decide) rfl (fun ls hl => ?_)
  refine lv_aload_n hx hb dL_law_423 rfl (lv_at hl 3 rfl) ?_
  refine lv_aload_n hx hb dL_law_424 rfl (lv_at hl 1 rfl) ?_
  refine lv_iload hx hb dL_law_425 (lv_at hl 5 rfl) ?_
  refine lv_iconst (v := 1) hx hb dL_law_427 (by decide) ?_
  refine lv_iadd hx hb dL_law_428 ?_
  obtain ⟨hi43, hs⟩ := hs
  refine va_sld hx hb hX9 hbl hbA hS hi43 dL_law_429 ?_
  refine lv_aload_n hx hb dL_law_430 rfl (lv_at hl 1 rfl) ?_
  refine lv_iload hx hb dL_law_431 (lv_at hl 5 rfl) ?_
  refine lv_iconst (v := 2) hx hb dL_law_433 (by decide) ?_
  refine lv_iadd hx hb dL_law_434 ?_
  obtain ⟨hi44, hs⟩ := hs
  refine va_sld hx hb hX9 hbl hbA hS hi44 dL_law_435 ?_
  obtain ⟨hc45, hs⟩ := hs
  refine kV_i (As := [.int (xs (x4 + 1).toNatClampNeg), .int (xs (x4 + 2).toNatClampNeg)]) (rest := []) ⟨hx, hb, hml, hown, hts⟩ (kX6_play l X h r2 (xs (x4 + 1).toNatClampNeg) (xs (x4 + 2).toNatClampNeg) hM hc45) (wX6_play hts q4_218 ⟨Nat.le_of_ble_eq_true rfl, Nat.le_of_ble_eq_true rfl⟩) hK hW hS (va_recv hK.1 (hW.one hM.1) (ci := 6) (q0 := 0) rfl rfl) rfl hl.1 rfl (Nat.le_of_ble_eq_true rfl) dL_law_436 ⟨by show _ ≤ 601024; omega, by show _ ≤ 7293034; omega⟩ (fun H locs hW hS => ?_)
  exact xL_law_c439 hst C0 (by omega) (by omega) hcR hsR hk23 x4 xs0 ((fX6_play r2 (xs (x4 + 1).toNatClampNeg) (xs (x4 + 2).toNatClampNeg) h).1) ((fX6_play r2 (xs (x4 + 1).toNatClampNeg) (xs (x4 + 2).toNatClampNeg) h).2) _ _ _ (lv_sub hl [1, 2, 3, 4, 5, 0] rfl) hW hS hs
def sL_law_c1432v1 (a r2 r3 L : Nat) (xs : Nat → Int32) (K23 : Int32 → HH → Prop) (x4 : Int32) (h : HH) : Prop := K23 (x4 + 4) h
set_option maxRecDepth 100000 in
set_option maxHeartbeats 4000000 in
theorem xL_law_c1432v1 {p : Program} {l : Launch} {e : Env} {s : State} {m : MethodId} {below : List Frame} {meth : Method} {c : Code} {X : Cx} {a r2 r3 b L : Nat} {xs : Nat → Int32} (hst : l.stackTraces = false) (C0 : CL p s m meth c X b L xs a r2 r3) {K23 : Int32 → HH → Prop} {cells slots cB sB : Nat} (hcB : cells + 3 ≤ cB) (hsB : slots + 18 ≤ sB) (hcR : cB ≤ 601024) (hsR : sB ≤ 7293034) (hk23 : ∀ (x4 : Int32) (h : HH) (H : Heap) (locs : List Loc) (ls : Array Slot), lv_has ls 7 [(0, .ref b), (1, .ref a), (2, .ref r2), (3, .ref r3), (4, .int x4)] → WH X h H → va_S (xA X) s.heap H locs → K23 x4 h → W p l e room_1 s m #[Value.ref b] below meth c H locs cB sB (lw_Z below #[Value.ref b] s) (F0 m 23 ls [])) (x4 : Int32) (h : HH) (H : Heap) (locs : List Loc) (ls : Array Slot) (hl : lv_has ls 7 [(0, .ref b), (1, .ref a), (2, .ref r2), (3, .ref r3), (4, .int x4)]) (hW : WH X h H) (hS : va_S (xA X) s.heap H locs) (hs : sL_law_c1432v1 a r2 r3 L xs K23 x4 h) : W p l e room_1 s m #[Value.ref b] below meth c H locs cells slots (lw_Z below #[Value.ref b] s) (F0 m 1432 ls []) := by
  obtain ⟨hx, hb, hr, hlk, hml, hown, hts, hK, hX9, hbl, hz9, hO, hM, hJ⟩ := id C0
  have hbA : ¬ xA X b := by show ¬ xz X ≤ b; rw [hz9]; omega
  refine lv_iinc (v := x4 + 4) (lv' := [(4, .int (x4 + 4)), (0, .ref b), (1, .ref a), (2, .ref r2), (3, .ref r3)]) hx hb dL_law_1432 hl (k := 4) rfl rfl (by decide) rfl (fun ls hl => ?_)
  refine lv_goto (tgt := 23) hx hb dL_law_1435 (by decide) ?_
  exact W.widen (k := cB) (n := sB) (by omega) (by omega) (hk23 (x4 + 4) h _ _ _ (lv_sub hl [1, 2, 3, 4, 0] rfl) hW hS hs)
def sL_law_c480 (a r2 r3 L : Nat) (xs : Nat → Int32) (K23 : Int32 → HH → Prop) (x4 : Int32) (xs0 : Int32) (xs1 : Int32) (h : HH) : Prop := (xs1 = xs0 → (sL_law_c1432v1 a r2 r3 L xs K23 x4 h)) ∧ (¬ (xs1 = xs0) → False)
set_option maxRecDepth 100000 in
set_option maxHeartbeats 4000000 in
theorem xL_law_c480 {p : Program} {l : Launch} {e : Env} {s : State} {m : MethodId} {below : List Frame} {meth : Method} {c : Code} {X : Cx} {a r2 r3 b L : Nat} {xs : Nat → Int32} (hst : l.stackTraces = false) (C0 : CL p s m meth c X b L xs a r2 r3) {K23 : Int32 → HH → Prop} {cells slots cB sB : Nat} (hcB : cells + 3 ≤ cB) (hsB : slots + 18 ≤ sB) (hcR : cB ≤ 601024) (hsR : sB ≤ 7293034) (hk23 : ∀ (x4 : Int32) (h : HH) (H : Heap) (locs : List Loc) (ls : Array Slot), lv_has ls 7 [(0, .ref b), (1, .ref a), (2, .ref r2), (3, .ref r3), (4, .int x4)] → WH X h H → va_S (xA X) s.heap H locs → K23 x4 h → W p l e room_1 s m #[Value.ref b] below meth c H locs cB sB (lw_Z below #[Value.ref b] s) (F0 m 23 ls [])) (x4 : Int32) (xs0 : Int32) (xs1 : Int32) (h : HH) (H : Heap) (locs : List Loc) (ls : Array Slot) (hl : lv_has ls 7 [(0, .ref b), (1, .ref a), (2, .ref r2), (3, .ref r3), (4, .int x4)]) (hW : WH X h H) (hS : va_S (xA X) s.heap H locs) (hs : sL_law_c480 a r2 r3 L xs K23 x4 xs0 xs1 h) : W p l e room_1 s m #[Value.ref b] below meth c H locs cells slots (lw_Z below #[Value.ref b] s) (F0 m 480 ls [.int xs0, .int xs1]) := by
  obtain ⟨hx, hb, hr, hlk, hml, hown, hts, hK, hX9, hbl, hz9, hO, hM, hJ⟩ := id C0
  have hbA : ¬ xA X b := by show ¬ xz X ≤ b; rw [hz9]; omega
  refine lv_icmp_eq (tgt := 1432) hx hb dL_law_480 (by decide) (fun c51 => ?_) (fun c51 => ?_)
  · have hs := And.left hs c51
    exact xL_law_c1432v1 hst C0 (by omega) (by omega) hcR hsR hk23 x4 h _ _ _ (lv_sub hl [0, 1, 2, 3, 4] rfl) hW hS hs
  · have hs := And.right hs c51
    refine lv_iconst (v := 0) hx hb dL_law_483 (by decide) ?_
    exact hs.elim
def sL_law_c493 (a r2 r3 L : Nat) (xs : Nat → Int32) (K23 : Int32 → HH → Prop) (x4 : Int32) (xs0 : Int32) (xs1 : Int32) (h : HH) : Prop := (xs1 = xs0 → (sL_law_c1432v1 a r2 r3 L xs K23 x4 h)) ∧ (¬ (xs1 = xs0) → False)
set_option maxRecDepth 100000 in
set_option maxHeartbeats 4000000 in
theorem xL_law_c493 {p : Program} {l : Launch} {e : Env} {s : State} {m : MethodId} {below : List Frame} {meth : Method} {c : Code} {X : Cx} {a r2 r3 b L : Nat} {xs : Nat → Int32} (hst : l.stackTraces = false) (C0 : CL p s m meth c X b L xs a r2 r3) {K23 : Int32 → HH → Prop} {cells slots cB sB : Nat} (hcB : cells + 3 ≤ cB) (hsB : slots + 18 ≤ sB) (hcR : cB ≤ 601024) (hsR : sB ≤ 7293034) (hk23 : ∀ (x4 : Int32) (h : HH) (H : Heap) (locs : List Loc) (ls : Array Slot), lv_has ls 7 [(0, .ref b), (1, .ref a), (2, .ref r2), (3, .ref r3), (4, .int x4)] → WH X h H → va_S (xA X) s.heap H locs → K23 x4 h → W p l e room_1 s m #[Value.ref b] below meth c H locs cB sB (lw_Z below #[Value.ref b] s) (F0 m 23 ls [])) (x4 : Int32) (xs0 : Int32) (xs1 : Int32) (h : HH) (H : Heap) (locs : List Loc) (ls : Array Slot) (hl : lv_has ls 7 [(0, .ref b), (1, .ref a), (2, .ref r2), (3, .ref r3), (4, .int x4)]) (hW : WH X h H) (hS : va_S (xA X) s.heap H locs) (hs : sL_law_c493 a r2 r3 L xs K23 x4 xs0 xs1 h) : W p l e room_1 s m #[Value.ref b] below meth c H locs cells slots (lw_Z below #[Value.ref b] s) (F0 m 493 ls [.int xs0, .int xs1]) := by
  obtain ⟨hx, hb, hr, hlk, hml, hown, hts, hK, hX9, hbl, hz9, hO, hM, hJ⟩ := id C0
  have hbA : ¬ xA X b := by show ¬ xz X ≤ b; rw [hz9]; omega
  refine lv_icmp_eq (tgt := 1432) hx hb dL_law_493 (by decide) (fun c54 => ?_) (fun c54 => ?_)
  · have hs := And.left hs c54
    exact xL_law_c1432v1 hst C0 (by omega) (by omega) hcR hsR hk23 x4 h _ _ _ (lv_sub hl [0, 1, 2, 3, 4] rfl) hW hS hs
  · have hs := And.right hs c54
    refine lv_iconst (v := 0) hx hb dL_law_496 (by decide) ?_
    exact hs.elim
def sL_law_c506 (a r2 r3 L : Nat) (xs : Nat → Int32) (K23 : Int32 → HH → Prop) (x4 : Int32) (xs0 : Int32) (xs1 : Int32) (h : HH) : Prop := (xs1 = xs0 → (sL_law_c1432v1 a r2 r3 L xs K23 x4 h)) ∧ (¬ (xs1 = xs0) → False)
set_option maxRecDepth 100000 in
set_option maxHeartbeats 4000000 in
theorem xL_law_c506 {p : Program} {l : Launch} {e : Env} {s : State} {m : MethodId} {below : List Frame} {meth : Method} {c : Code} {X : Cx} {a r2 r3 b L : Nat} {xs : Nat → Int32} (hst : l.stackTraces = false) (C0 : CL p s m meth c X b L xs a r2 r3) {K23 : Int32 → HH → Prop} {cells slots cB sB : Nat} (hcB : cells + 3 ≤ cB) (hsB : slots + 18 ≤ sB) (hcR : cB ≤ 601024) (hsR : sB ≤ 7293034) (hk23 : ∀ (x4 : Int32) (h : HH) (H : Heap) (locs : List Loc) (ls : Array Slot), lv_has ls 7 [(0, .ref b), (1, .ref a), (2, .ref r2), (3, .ref r3), (4, .int x4)] → WH X h H → va_S (xA X) s.heap H locs → K23 x4 h → W p l e room_1 s m #[Value.ref b] below meth c H locs cB sB (lw_Z below #[Value.ref b] s) (F0 m 23 ls [])) (x4 : Int32) (xs0 : Int32) (xs1 : Int32) (h : HH) (H : Heap) (locs : List Loc) (ls : Array Slot) (hl : lv_has ls 7 [(0, .ref b), (1, .ref a), (2, .ref r2), (3, .ref r3), (4, .int x4)]) (hW : WH X h H) (hS : va_S (xA X) s.heap H locs) (hs : sL_law_c506 a r2 r3 L xs K23 x4 xs0 xs1 h) : W p l e room_1 s m #[Value.ref b] below meth c H locs cells slots (lw_Z below #[Value.ref b] s) (F0 m 506 ls [.int xs0, .int xs1]) := by
  obtain ⟨hx, hb, hr, hlk, hml, hown, hts, hK, hX9, hbl, hz9, hO, hM, hJ⟩ := id C0
  have hbA : ¬ xA X b := by show ¬ xz X ≤ b; rw [hz9]; omega
  refine lv_icmp_eq (tgt := 1432) hx hb dL_law_506 (by decide) (fun c57 => ?_) (fun c57 => ?_)
  · have hs := And.left hs c57
    exact xL_law_c1432v1 hst C0 (by omega) (by omega) hcR hsR hk23 x4 h _ _ _ (lv_sub hl [0, 1, 2, 3, 4] rfl) hW hS hs
  · have hs := And.right hs c57
    refine lv_iconst (v := 0) hx hb dL_law_509 (by decide) ?_
    exact hs.elim
def sL_law_c519 (a r2 r3 L : Nat) (xs : Nat → Int32) (K23 : Int32 → HH → Prop) (x4 : Int32) (xs0 : Int32) (xs1 : Int32) (h : HH) : Prop := (xs1 = xs0 → (sL_law_c1432v1 a r2 r3 L xs K23 x4 h)) ∧ (¬ (xs1 = xs0) → False)
set_option maxRecDepth 100000 in
set_option maxHeartbeats 4000000 in
theorem xL_law_c519 {p : Program} {l : Launch} {e : Env} {s : State} {m : MethodId} {below : List Frame} {meth : Method} {c : Code} {X : Cx} {a r2 r3 b L : Nat} {xs : Nat → Int32} (hst : l.stackTraces = false) (C0 : CL p s m meth c X b L xs a r2 r3) {K23 : Int32 → HH → Prop} {cells slots cB sB : Nat} (hcB : cells + 3 ≤ cB) (hsB : slots + 18 ≤ sB) (hcR : cB ≤ 601024) (hsR : sB ≤ 7293034) (hk23 : ∀ (x4 : Int32) (h : HH) (H : Heap) (locs : List Loc) (ls : Array Slot), lv_has ls 7 [(0, .ref b), (1, .ref a), (2, .ref r2), (3, .ref r3), (4, .int x4)] → WH X h H → va_S (xA X) s.heap H locs → K23 x4 h → W p l e room_1 s m #[Value.ref b] below meth c H locs cB sB (lw_Z below #[Value.ref b] s) (F0 m 23 ls [])) (x4 : Int32) (xs0 : Int32) (xs1 : Int32) (h : HH) (H : Heap) (locs : List Loc) (ls : Array Slot) (hl : lv_has ls 7 [(0, .ref b), (1, .ref a), (2, .ref r2), (3, .ref r3), (4, .int x4)]) (hW : WH X h H) (hS : va_S (xA X) s.heap H locs) (hs : sL_law_c519 a r2 r3 L xs K23 x4 xs0 xs1 h) : W p l e room_1 s m #[Value.ref b] below meth c H locs cells slots (lw_Z below #[Value.ref b] s) (F0 m 519 ls [.int xs0, .int xs1]) := by
  obtain ⟨hx, hb, hr, hlk, hml, hown, hts, hK, hX9, hbl, hz9, hO, hM, hJ⟩ := id C0
  have hbA : ¬ xA X b := by show ¬ xz X ≤ b; rw [hz9]; omega
  refine lv_icmp_eq (tgt := 1432) hx hb dL_law_519 (by decide) (fun c60 => ?_) (fun c60 => ?_)
  · have hs := And.left hs c60
    exact xL_law_c1432v1 hst C0 (by omega) (by omega) hcR hsR hk23 x4 h _ _ _ (lv_sub hl [0, 1, 2, 3, 4] rfl) hW hS hs
  · have hs := And.right hs c60
    refine lv_iconst (v := 0) hx hb dL_law_522 (by decide) ?_
    exact hs.elim
def sL_law_c559 (a r2 r3 L : Nat) (xs : Nat → Int32) (K23 : Int32 → HH → Prop) (x4 : Int32) (x5 : Int32) (xs0 : Int32) (h : HH) : Prop := ((fX6_thrown r2 h) = x5 → ((x5 = 0 → (((lg_cmp (LJ (h r3 0) (h r3 1)) xs0.toInt64) = 0 → (sL_law_c1432 a r2 r3 L xs K23 x4 h)) ∧ (¬ ((lg_cmp (LJ (h r3 0) (h r3 1)) xs0.toInt64) = 0) → False))) ∧ (¬ (x5 = 0) → (sL_law_c1432 a r2 r3 L xs K23 x4 h)))) ∧ (¬ ((fX6_thrown r2 h) = x5) → False)
set_option maxRecDepth 100000 in
set_option maxHeartbeats 4000000 in
theorem xL_law_c559 {p : Program} {l : Launch} {e : Env} {s : State} {m : MethodId} {below : List Frame} {meth : Method} {c : Code} {X : Cx} {a r2 r3 b L : Nat} {xs : Nat → Int32} (hst : l.stackTraces = false) (C0 : CL p s m meth c X b L xs a r2 r3) {K23 : Int32 → HH → Prop} {cells slots cB sB : Nat} (hcB : cells ≤ cB) (hsB : slots ≤ sB) (hcR : cB ≤ 601024) (hsR : sB ≤ 7293034) (hk23 : ∀ (x4 : Int32) (h : HH) (H : Heap) (locs : List Loc) (ls : Array Slot), lv_has ls 7 [(0, .ref b), (1, .ref a), (2, .ref r2), (3, .ref r3), (4, .int x4)] → WH X h H → va_S (xA X) s.heap H locs → K23 x4 h → W p l e room_1 s m #[Value.ref b] below meth c H locs cB sB (lw_Z below #[Value.ref b] s) (F0 m 23 ls [])) (x4 : Int32) (x5 : Int32) (xs0 : Int32) (h : HH) (H : Heap) (locs : List Loc) (ls : Array Slot) (hl : lv_has ls 7 [(0, .ref b), (1, .ref a), (2, .ref r2), (3, .ref r3), (4, .int x4), (5, .int x5)]) (hW : WH X h H) (hS : va_S (xA X) s.heap H locs) (hs : sL_law_c559 a r2 r3 L xs K23 x4 x5 xs0 h) : W p l e room_1 s m #[Value.ref b] below meth c H locs cells slots (lw_Z below #[Value.ref b] s) (F0 m 559 ls [.int xs0]) := by
  obtain ⟨hx, hb, hr, hlk, hml, hown, hts, hK, hX9, hbl, hz9, hO, hM, hJ⟩ := id C0
  have hbA : ¬ xA X b := by show ¬ xz X ≤ b; rw [hz9]; omega
  refine lv_istore (lv' := [(6, .int xs0), (0, .ref b), (1, .ref a), (2, .ref r2), (3, .ref r3), (4, .int x4), (5, .int x5)]) hx hb dL_law_559 hl (by decide) rfl (fun ls hl => ?_)
  refine lv_aload_n hx hb dL_law_561 rfl (lv_at hl 3 rfl) ?_
  refine kV_i (As := []) (rest := []) ⟨hx, hb, hml, hown, hts⟩ (kX6_thrown l X h r2 hM) (wX6_thrown hts q4_80 ⟨Nat.le_of_ble_eq_true rfl, Nat.le_of_ble_eq_true rfl⟩) hK hW hS (va_recv hK.1 (hW.one hM.1) (ci := 6) (q0 := 0) rfl rfl) rfl hl.1 rfl (Nat.le_of_ble_eq_true rfl) dL_law_562 ⟨by show _ ≤ 601024; omega, by show _ ≤ 7293034; omega⟩ (fun H locs hW hS => ?_)
  refine lv_iload hx hb dL_law_565 (lv_at hl 6 rfl) ?_
  refine lv_icmp_eq (tgt := 572) hx hb dL_law_567 (by decide) (fun c68 => ?_) (fun c68 => ?_)
  · have hs := And.left hs c68
    refine lv_iload hx hb dL_law_572 (lv_at hl 6 rfl) ?_
    refine lv_if_ne (tgt := 589) hx hb dL_law_574 (by decide) (fun c69 => ?_) (fun c69 => ?_)
    · have hs := And.right hs c69
      refine lv_goto (tgt := 1432) hx hb dL_law_589 (by decide) ?_
      exact xL_law_c1432 hst C0 (by omega) (by omega) hcR hsR hk23 x4 h _ _ _ (lv_sub hl [1, 2, 3, 4, 5] rfl) hW hS hs
    · have hs := And.left hs c69
      refine lv_aload_n hx hb dL_law_577 rfl (lv_at hl 4 rfl) ?_
      refine lv_iconst (v := 0) hx hb dL_law_578 (by decide) ?_
      refine kb_lald hx hb hK hW hJ dL_law_579 ?_
      refine lv_iload hx hb dL_law_580 (lv_at hl 0 rfl) ?_
      refine lv_i2l hx hb dL_law_582 rfl ?_
      refine W.lcmp hx hb dL_law_583 ?_
      refine lv_if_eq (tgt := 589) hx hb dL_law_584 (by decide) (fun c70 => ?_) (fun c70 => ?_)
      · have hs := And.left hs c70
        refine lv_goto (tgt := 1432) hx hb dL_law_589 (by decide) ?_
        exact xL_law_c1432 hst C0 (by omega) (by omega) hcR hsR hk23 x4 h _ _ _ (lv_sub hl [1, 2, 3, 4, 5] rfl) hW hS hs
      · have hs := And.right hs c70
        refine lv_iconst (v := 0) hx hb dL_law_587 (by decide) ?_
        exact hs.elim
  · have hs := And.right hs c68
    refine lv_iconst (v := 0) hx hb dL_law_570 (by decide) ?_
    exact hs.elim
def sL_law_c541 (a r2 r3 L : Nat) (xs : Nat → Int32) (K23 : Int32 → HH → Prop) (x4 : Int32) (xs0 : Int32) (h : HH) : Prop := (vp_in (x4 + 1) L) ∧ ((vp_in (x4 + 2) L) ∧ ((sX6_goods r2 (xs (x4 + 1).toNatClampNeg) (xs (x4 + 2).toNatClampNeg) h) ∧ (sL_law_c559 a r2 r3 L xs K23 x4 xs0 ((fX6_goods r2 (xs (x4 + 1).toNatClampNeg) (xs (x4 + 2).toNatClampNeg) h).1) ((fX6_goods r2 (xs (x4 + 1).toNatClampNeg) (xs (x4 + 2).toNatClampNeg) h).2))))
set_option maxRecDepth 100000 in
set_option maxHeartbeats 4000000 in
theorem xL_law_c541 {p : Program} {l : Launch} {e : Env} {s : State} {m : MethodId} {below : List Frame} {meth : Method} {c : Code} {X : Cx} {a r2 r3 b L : Nat} {xs : Nat → Int32} (hst : l.stackTraces = false) (C0 : CL p s m meth c X b L xs a r2 r3) {K23 : Int32 → HH → Prop} {cells slots cB sB : Nat} (hcB : cells ≤ cB) (hsB : slots ≤ sB) (hcR : cB ≤ 601024) (hsR : sB ≤ 7293034) (hk23 : ∀ (x4 : Int32) (h : HH) (H : Heap) (locs : List Loc) (ls : Array Slot), lv_has ls 7 [(0, .ref b), (1, .ref a), (2, .ref r2), (3, .ref r3), (4, .int x4)] → WH X h H → va_S (xA X) s.heap H locs → K23 x4 h → W p l e room_1 s m #[Value.ref b] below meth c H locs cB sB (lw_Z below #[Value.ref b] s) (F0 m 23 ls [])) (x4 : Int32) (xs0 : Int32) (h : HH) (H : Heap) (locs : List Loc) (ls : Array Slot) (hl : lv_has ls 7 [(0, .ref b), (1, .ref a), (2, .ref r2), (3, .ref r3), (4, .int x4)]) (hW : WH X h H) (hS : va_S (xA X) s.heap H locs) (hs : sL_law_c541 a r2 r3 L xs K23 x4 xs0 h) : W p l e room_1 s m #[Value.ref b] below meth c H locs cells slots (lw_Z below #[Value.ref b] s) (F0 m 541 ls [.int xs0]) := by
  obtain ⟨hx, hb, hr, hlk, hml, hown, hts, hK, hX9, hbl, hz9, hO, hM, hJ⟩ := id C0
  have hbA : ¬ xA X b := by show ¬ xz X ≤ b; rw [hz9]; omega
  refine lv_istore (lv' := [(5, .int xs0), (0, .ref b), (1, .ref a), (2, .ref r2), (3, .ref r3), (4, .int x4)]) hx hb dL_law_541 hl (by decide) rfl (fun ls hl => ?_)
  refine lv_aload_n hx hb dL_law_543 rfl (lv_at hl 3 rfl) ?_
  refine lv_aload_n hx hb dL_law_544 rfl (lv_at hl 1 rfl) ?_
  refine lv_iload hx hb dL_law_545 (lv_at hl 5 rfl) ?_
  refine lv_iconst (v := 1) hx hb dL_law_547 (by decide) ?_
  refine lv_iadd hx hb dL_law_548 ?_
  obtain ⟨hi65, hs⟩ := hs
  refine va_sld hx hb hX9 hbl hbA hS hi65 dL_law_549 ?_
  refine lv_aload_n hx hb dL_law_550 rfl (lv_at hl 1 rfl) ?_
  refine lv_iload hx hb dL_law_551 (lv_at hl 5 rfl) ?_
  refine lv_iconst (v := 2) hx hb dL_law_553 (by decide) ?_
  refine lv_iadd hx hb dL_law_554 ?_
  obtain ⟨hi66, hs⟩ := hs
  refine va_sld hx hb hX9 hbl hbA hS hi66 dL_law_555 ?_
  obtain ⟨hc67, hs⟩ := hs
  refine kV_i (As := [.int (xs (x4 + 1).toNatClampNeg), .int (xs (x4 + 2).toNatClampNeg)]) (rest := []) ⟨hx, hb, hml, hown, hts⟩ (kX6_goods l X h r2 (xs (x4 + 1).toNatClampNeg) (xs (x4 + 2).toNatClampNeg) hM hc67) (wX6_goods hts q5_25 ⟨Nat.le_of_ble_eq_true rfl, Nat.le_of_ble_eq_true rfl⟩) hK hW hS (va_recv hK.1 (hW.one hM.1) (ci := 6) (q0 := 0) rfl rfl) rfl hl.1 rfl (Nat.le_of_ble_eq_true rfl) dL_law_556 ⟨by show _ ≤ 601024; omega, by show _ ≤ 7293034; omega⟩ (fun H locs hW hS => ?_)
  exact xL_law_c559 hst C0 (by omega) (by omega) hcR hsR hk23 x4 xs0 ((fX6_goods r2 (xs (x4 + 1).toNatClampNeg) (xs (x4 + 2).toNatClampNeg) h).1) ((fX6_goods r2 (xs (x4 + 1).toNatClampNeg) (xs (x4 + 2).toNatClampNeg) h).2) _ _ _ (lv_sub hl [1, 2, 3, 4, 5, 0] rfl) hW hS hs
def sL_law_c627 (a r2 r3 L : Nat) (xs : Nat → Int32) (K23 : Int32 → HH → Prop) (x4 : Int32) (x5 : Int32) (xs0 : Int32) (h : HH) : Prop := ((fX6_thrown r2 h) = x5 → ((x5 = 0 → (((lg_cmp (LJ (h r3 0) (h r3 1)) xs0.toInt64) = 0 → (sL_law_c1432 a r2 r3 L xs K23 x4 h)) ∧ (¬ ((lg_cmp (LJ (h r3 0) (h r3 1)) xs0.toInt64) = 0) → False))) ∧ (¬ (x5 = 0) → (sL_law_c1432 a r2 r3 L xs K23 x4 h)))) ∧ (¬ ((fX6_thrown r2 h) = x5) → False)
set_option maxRecDepth 100000 in
set_option maxHeartbeats 4000000 in
theorem xL_law_c627 {p : Program} {l : Launch} {e : Env} {s : State} {m : MethodId} {below : List Frame} {meth : Method} {c : Code} {X : Cx} {a r2 r3 b L : Nat} {xs : Nat → Int32} (hst : l.stackTraces = false) (C0 : CL p s m meth c X b L xs a r2 r3) {K23 : Int32 → HH → Prop} {cells slots cB sB : Nat} (hcB : cells ≤ cB) (hsB : slots ≤ sB) (hcR : cB ≤ 601024) (hsR : sB ≤ 7293034) (hk23 : ∀ (x4 : Int32) (h : HH) (H : Heap) (locs : List Loc) (ls : Array Slot), lv_has ls 7 [(0, .ref b), (1, .ref a), (2, .ref r2), (3, .ref r3), (4, .int x4)] → WH X h H → va_S (xA X) s.heap H locs → K23 x4 h → W p l e room_1 s m #[Value.ref b] below meth c H locs cB sB (lw_Z below #[Value.ref b] s) (F0 m 23 ls [])) (x4 : Int32) (x5 : Int32) (xs0 : Int32) (h : HH) (H : Heap) (locs : List Loc) (ls : Array Slot) (hl : lv_has ls 7 [(0, .ref b), (1, .ref a), (2, .ref r2), (3, .ref r3), (4, .int x4), (5, .int x5)]) (hW : WH X h H) (hS : va_S (xA X) s.heap H locs) (hs : sL_law_c627 a r2 r3 L xs K23 x4 x5 xs0 h) : W p l e room_1 s m #[Value.ref b] below meth c H locs cells slots (lw_Z below #[Value.ref b] s) (F0 m 627 ls [.int xs0]) := by
  obtain ⟨hx, hb, hr, hlk, hml, hown, hts, hK, hX9, hbl, hz9, hO, hM, hJ⟩ := id C0
  have hbA : ¬ xA X b := by show ¬ xz X ≤ b; rw [hz9]; omega
  refine lv_istore (lv' := [(6, .int xs0), (0, .ref b), (1, .ref a), (2, .ref r2), (3, .ref r3), (4, .int x4), (5, .int x5)]) hx hb dL_law_627 hl (by decide) rfl (fun ls hl => ?_)
  refine lv_aload_n hx hb dL_law_629 rfl (lv_at hl 3 rfl) ?_
  refine kV_i (As := []) (rest := []) ⟨hx, hb, hml, hown, hts⟩ (kX6_thrown l X h r2 hM) (wX6_thrown hts q4_80 ⟨Nat.le_of_ble_eq_true rfl, Nat.le_of_ble_eq_true rfl⟩) hK hW hS (va_recv hK.1 (hW.one hM.1) (ci := 6) (q0 := 0) rfl rfl) rfl hl.1 rfl (Nat.le_of_ble_eq_true rfl) dL_law_630 ⟨by show _ ≤ 601024; omega, by show _ ≤ 7293034; omega⟩ (fun H locs hW hS => ?_)
  refine lv_iload hx hb dL_law_633 (lv_at hl 6 rfl) ?_
  refine lv_icmp_eq (tgt := 640) hx hb dL_law_635 (by decide) (fun c78 => ?_) (fun c78 => ?_)
  · have hs := And.left hs c78
    refine lv_iload hx hb dL_law_640 (lv_at hl 6 rfl) ?_
    refine lv_if_ne (tgt := 657) hx hb dL_law_642 (by decide) (fun c79 => ?_) (fun c79 => ?_)
    · have hs := And.right hs c79
      refine lv_goto (tgt := 1432) hx hb dL_law_657 (by decide) ?_
      exact xL_law_c1432 hst C0 (by omega) (by omega) hcR hsR hk23 x4 h _ _ _ (lv_sub hl [1, 2, 3, 4, 5] rfl) hW hS hs
    · have hs := And.left hs c79
      refine lv_aload_n hx hb dL_law_645 rfl (lv_at hl 4 rfl) ?_
      refine lv_iconst (v := 0) hx hb dL_law_646 (by decide) ?_
      refine kb_lald hx hb hK hW hJ dL_law_647 ?_
      refine lv_iload hx hb dL_law_648 (lv_at hl 0 rfl) ?_
      refine lv_i2l hx hb dL_law_650 rfl ?_
      refine W.lcmp hx hb dL_law_651 ?_
      refine lv_if_eq (tgt := 657) hx hb dL_law_652 (by decide) (fun c80 => ?_) (fun c80 => ?_)
      · have hs := And.left hs c80
        refine lv_goto (tgt := 1432) hx hb dL_law_657 (by decide) ?_
        exact xL_law_c1432 hst C0 (by omega) (by omega) hcR hsR hk23 x4 h _ _ _ (lv_sub hl [1, 2, 3, 4, 5] rfl) hW hS hs
      · have hs := And.right hs c80
        refine lv_iconst (v := 0) hx hb dL_law_655 (by decide) ?_
        exact hs.elim
  · have hs := And.right hs c78
    refine lv_iconst (v := 0) hx hb dL_law_638 (by decide) ?_
    exact hs.elim
def sL_law_c609 (a r2 r3 L : Nat) (xs : Nat → Int32) (K23 : Int32 → HH → Prop) (x4 : Int32) (xs0 : Int32) (h : HH) : Prop := (vp_in (x4 + 1) L) ∧ ((vp_in (x4 + 2) L) ∧ ((sX6_player r2 (xs (x4 + 1).toNatClampNeg) (xs (x4 + 2).toNatClampNeg) h) ∧ (sL_law_c627 a r2 r3 L xs K23 x4 xs0 ((fX6_player r2 (xs (x4 + 1).toNatClampNeg) (xs (x4 + 2).toNatClampNeg) h).1) ((fX6_player r2 (xs (x4 + 1).toNatClampNeg) (xs (x4 + 2).toNatClampNeg) h).2))))
set_option maxRecDepth 100000 in
set_option maxHeartbeats 4000000 in
theorem xL_law_c609 {p : Program} {l : Launch} {e : Env} {s : State} {m : MethodId} {below : List Frame} {meth : Method} {c : Code} {X : Cx} {a r2 r3 b L : Nat} {xs : Nat → Int32} (hst : l.stackTraces = false) (C0 : CL p s m meth c X b L xs a r2 r3) {K23 : Int32 → HH → Prop} {cells slots cB sB : Nat} (hcB : cells ≤ cB) (hsB : slots ≤ sB) (hcR : cB ≤ 601024) (hsR : sB ≤ 7293034) (hk23 : ∀ (x4 : Int32) (h : HH) (H : Heap) (locs : List Loc) (ls : Array Slot), lv_has ls 7 [(0, .ref b), (1, .ref a), (2, .ref r2), (3, .ref r3), (4, .int x4)] → WH X h H → va_S (xA X) s.heap H locs → K23 x4 h → W p l e room_1 s m #[Value.ref b] below meth c H locs cB sB (lw_Z below #[Value.ref b] s) (F0 m 23 ls [])) (x4 : Int32) (xs0 : Int32) (h : HH) (H : Heap) (locs : List Loc) (ls : Array Slot) (hl : lv_has ls 7 [(0, .ref b), (1, .ref a), (2, .ref r2), (3, .ref r3), (4, .int x4)]) (hW : WH X h H) (hS : va_S (xA X) s.heap H locs) (hs : sL_law_c609 a r2 r3 L xs K23 x4 xs0 h) : W p l e room_1 s m #[Value.ref b] below meth c H locs cells slots (lw_Z below #[Value.ref b] s) (F0 m 609 ls [.int xs0]) := by
  obtain ⟨hx, hb, hr, hlk, hml, hown, hts, hK, hX9, hbl, hz9, hO, hM, hJ⟩ := id C0
  have hbA : ¬ xA X b := by show ¬ xz X ≤ b; rw [hz9]; omega
  refine lv_istore (lv' := [(5, .int xs0), (0, .ref b), (1, .ref a), (2, .ref r2), (3, .ref r3), (4, .int x4)]) hx hb dL_law_609 hl (by decide) rfl (fun ls hl => ?_)
  refine lv_aload_n hx hb dL_law_611 rfl (lv_at hl 3 rfl) ?_
  refine lv_aload_n hx hb dL_law_612 rfl (lv_at hl 1 rfl) ?_
  refine lv_iload hx hb dL_law_613 (lv_at hl 5 rfl) ?_
  refine lv_iconst (v := 1) hx hb dL_law_615 (by decide) ?_
  refine lv_iadd hx hb dL_law_616 ?_
  obtain ⟨hi75, hs⟩ := hs
  refine va_sld hx hb hX9 hbl hbA hS hi75 dL_law_617 ?_
  refine lv_aload_n hx hb dL_law_618 rfl (lv_at hl 1 rfl) ?_
  refine lv_iload hx hb dL_law_619 (lv_at hl 5 rfl) ?_
  refine lv_iconst (v := 2) hx hb dL_law_621 (by decide) ?_
  refine lv_iadd hx hb dL_law_622 ?_
  obtain ⟨hi76, hs⟩ := hs
  refine va_sld hx hb hX9 hbl hbA hS hi76 dL_law_623 ?_
  obtain ⟨hc77, hs⟩ := hs
  refine kV_i (As := [.int (xs (x4 + 1).toNatClampNeg), .int (xs (x4 + 2).toNatClampNeg)]) (rest := []) ⟨hx, hb, hml, hown, hts⟩ (kX6_player l X h r2 (xs (x4 + 1).toNatClampNeg) (xs (x4 + 2).toNatClampNeg) hM hc77) (wX6_player hts q5_33 ⟨Nat.le_of_ble_eq_true rfl, Nat.le_of_ble_eq_true rfl⟩) hK hW hS (va_recv hK.1 (hW.one hM.1) (ci := 6) (q0 := 0) rfl rfl) rfl hl.1 rfl (Nat.le_of_ble_eq_true rfl) dL_law_624 ⟨by show _ ≤ 601024; omega, by show _ ≤ 7293034; omega⟩ (fun H locs hW hS => ?_)
  exact xL_law_c627 hst C0 (by omega) (by omega) hcR hsR hk23 x4 xs0 ((fX6_player r2 (xs (x4 + 1).toNatClampNeg) (xs (x4 + 2).toNatClampNeg) h).1) ((fX6_player r2 (xs (x4 + 1).toNatClampNeg) (xs (x4 + 2).toNatClampNeg) h).2) _ _ _ (lv_sub hl [1, 2, 3, 4, 5, 0] rfl) hW hS hs
def sL_law_c683 (a r2 r3 L : Nat) (xs : Nat → Int32) (K23 : Int32 → HH → Prop) (x4 : Int32) (x5 : Int32) (xs0 : Int32) (h : HH) : Prop := ((fX6_thrown r2 h) = x5 → ((x5 = 0 → (((lg_cmp (LJ (h r3 0) (h r3 1)) xs0.toInt64) = 0 → (sL_law_c1432 a r2 r3 L xs K23 x4 h)) ∧ (¬ ((lg_cmp (LJ (h r3 0) (h r3 1)) xs0.toInt64) = 0) → False))) ∧ (¬ (x5 = 0) → (sL_law_c1432 a r2 r3 L xs K23 x4 h)))) ∧ (¬ ((fX6_thrown r2 h) = x5) → False)
set_option maxRecDepth 100000 in
set_option maxHeartbeats 4000000 in
theorem xL_law_c683 {p : Program} {l : Launch} {e : Env} {s : State} {m : MethodId} {below : List Frame} {meth : Method} {c : Code} {X : Cx} {a r2 r3 b L : Nat} {xs : Nat → Int32} (hst : l.stackTraces = false) (C0 : CL p s m meth c X b L xs a r2 r3) {K23 : Int32 → HH → Prop} {cells slots cB sB : Nat} (hcB : cells ≤ cB) (hsB : slots ≤ sB) (hcR : cB ≤ 601024) (hsR : sB ≤ 7293034) (hk23 : ∀ (x4 : Int32) (h : HH) (H : Heap) (locs : List Loc) (ls : Array Slot), lv_has ls 7 [(0, .ref b), (1, .ref a), (2, .ref r2), (3, .ref r3), (4, .int x4)] → WH X h H → va_S (xA X) s.heap H locs → K23 x4 h → W p l e room_1 s m #[Value.ref b] below meth c H locs cB sB (lw_Z below #[Value.ref b] s) (F0 m 23 ls [])) (x4 : Int32) (x5 : Int32) (xs0 : Int32) (h : HH) (H : Heap) (locs : List Loc) (ls : Array Slot) (hl : lv_has ls 7 [(0, .ref b), (1, .ref a), (2, .ref r2), (3, .ref r3), (4, .int x4), (5, .int x5)]) (hW : WH X h H) (hS : va_S (xA X) s.heap H locs) (hs : sL_law_c683 a r2 r3 L xs K23 x4 x5 xs0 h) : W p l e room_1 s m #[Value.ref b] below meth c H locs cells slots (lw_Z below #[Value.ref b] s) (F0 m 683 ls [.int xs0]) := by
  obtain ⟨hx, hb, hr, hlk, hml, hown, hts, hK, hX9, hbl, hz9, hO, hM, hJ⟩ := id C0
  have hbA : ¬ xA X b := by show ¬ xz X ≤ b; rw [hz9]; omega
  refine lv_istore (lv' := [(6, .int xs0), (0, .ref b), (1, .ref a), (2, .ref r2), (3, .ref r3), (4, .int x4), (5, .int x5)]) hx hb dL_law_683 hl (by decide) rfl (fun ls hl => ?_)
  refine lv_aload_n hx hb dL_law_685 rfl (lv_at hl 3 rfl) ?_
  refine kV_i (As := []) (rest := []) ⟨hx, hb, hml, hown, hts⟩ (kX6_thrown l X h r2 hM) (wX6_thrown hts q4_80 ⟨Nat.le_of_ble_eq_true rfl, Nat.le_of_ble_eq_true rfl⟩) hK hW hS (va_recv hK.1 (hW.one hM.1) (ci := 6) (q0 := 0) rfl rfl) rfl hl.1 rfl (Nat.le_of_ble_eq_true rfl) dL_law_686 ⟨by show _ ≤ 601024; omega, by show _ ≤ 7293034; omega⟩ (fun H locs hW hS => ?_)
  refine lv_iload hx hb dL_law_689 (lv_at hl 6 rfl) ?_
  refine lv_icmp_eq (tgt := 696) hx hb dL_law_691 (by decide) (fun c86 => ?_) (fun c86 => ?_)
  · have hs := And.left hs c86
    refine lv_iload hx hb dL_law_696 (lv_at hl 6 rfl) ?_
    refine lv_if_ne (tgt := 713) hx hb dL_law_698 (by decide) (fun c87 => ?_) (fun c87 => ?_)
    · have hs := And.right hs c87
      refine lv_goto (tgt := 1432) hx hb dL_law_713 (by decide) ?_
      exact xL_law_c1432 hst C0 (by omega) (by omega) hcR hsR hk23 x4 h _ _ _ (lv_sub hl [1, 2, 3, 4, 5] rfl) hW hS hs
    · have hs := And.left hs c87
      refine lv_aload_n hx hb dL_law_701 rfl (lv_at hl 4 rfl) ?_
      refine lv_iconst (v := 0) hx hb dL_law_702 (by decide) ?_
      refine kb_lald hx hb hK hW hJ dL_law_703 ?_
      refine lv_iload hx hb dL_law_704 (lv_at hl 0 rfl) ?_
      refine lv_i2l hx hb dL_law_706 rfl ?_
      refine W.lcmp hx hb dL_law_707 ?_
      refine lv_if_eq (tgt := 713) hx hb dL_law_708 (by decide) (fun c88 => ?_) (fun c88 => ?_)
      · have hs := And.left hs c88
        refine lv_goto (tgt := 1432) hx hb dL_law_713 (by decide) ?_
        exact xL_law_c1432 hst C0 (by omega) (by omega) hcR hsR hk23 x4 h _ _ _ (lv_sub hl [1, 2, 3, 4, 5] rfl) hW hS hs
      · have hs := And.right hs c88
        refine lv_iconst (v := 0) hx hb dL_law_711 (by decide) ?_
        exact hs.elim
  · have hs := And.right hs c86
    refine lv_iconst (v := 0) hx hb dL_law_694 (by decide) ?_
    exact hs.elim
def sL_law_c671 (a r2 r3 L : Nat) (xs : Nat → Int32) (K23 : Int32 → HH → Prop) (x4 : Int32) (xs0 : Int32) (h : HH) : Prop := (vp_in (x4 + 1) L) ∧ ((sX6_owner r2 (xs (x4 + 1).toNatClampNeg) h) ∧ (sL_law_c683 a r2 r3 L xs K23 x4 xs0 ((fX6_owner r2 (xs (x4 + 1).toNatClampNeg) h).1) ((fX6_owner r2 (xs (x4 + 1).toNatClampNeg) h).2)))
set_option maxRecDepth 100000 in
set_option maxHeartbeats 4000000 in
theorem xL_law_c671 {p : Program} {l : Launch} {e : Env} {s : State} {m : MethodId} {below : List Frame} {meth : Method} {c : Code} {X : Cx} {a r2 r3 b L : Nat} {xs : Nat → Int32} (hst : l.stackTraces = false) (C0 : CL p s m meth c X b L xs a r2 r3) {K23 : Int32 → HH → Prop} {cells slots cB sB : Nat} (hcB : cells ≤ cB) (hsB : slots ≤ sB) (hcR : cB ≤ 601024) (hsR : sB ≤ 7293034) (hk23 : ∀ (x4 : Int32) (h : HH) (H : Heap) (locs : List Loc) (ls : Array Slot), lv_has ls 7 [(0, .ref b), (1, .ref a), (2, .ref r2), (3, .ref r3), (4, .int x4)] → WH X h H → va_S (xA X) s.heap H locs → K23 x4 h → W p l e room_1 s m #[Value.ref b] below meth c H locs cB sB (lw_Z below #[Value.ref b] s) (F0 m 23 ls [])) (x4 : Int32) (xs0 : Int32) (h : HH) (H : Heap) (locs : List Loc) (ls : Array Slot) (hl : lv_has ls 7 [(0, .ref b), (1, .ref a), (2, .ref r2), (3, .ref r3), (4, .int x4)]) (hW : WH X h H) (hS : va_S (xA X) s.heap H locs) (hs : sL_law_c671 a r2 r3 L xs K23 x4 xs0 h) : W p l e room_1 s m #[Value.ref b] below meth c H locs cells slots (lw_Z below #[Value.ref b] s) (F0 m 671 ls [.int xs0]) := by
  obtain ⟨hx, hb, hr, hlk, hml, hown, hts, hK, hX9, hbl, hz9, hO, hM, hJ⟩ := id C0
  have hbA : ¬ xA X b := by show ¬ xz X ≤ b; rw [hz9]; omega
  refine lv_istore (lv' := [(5, .int xs0), (0, .ref b), (1, .ref a), (2, .ref r2), (3, .ref r3), (4, .int x4)]) hx hb dL_law_671 hl (by decide) rfl (fun ls hl => ?_)
  refine lv_aload_n hx hb dL_law_673 rfl (lv_at hl 3 rfl) ?_
  refine lv_aload_n hx hb dL_law_674 rfl (lv_at hl 1 rfl) ?_
  refine lv_iload hx hb dL_law_675 (lv_at hl 5 rfl) ?_
  refine lv_iconst (v := 1) hx hb dL_law_677 (by decide) ?_
  refine lv_iadd hx hb dL_law_678 ?_
  obtain ⟨hi84, hs⟩ := hs
  refine va_sld hx hb hX9 hbl hbA hS hi84 dL_law_679 ?_
  obtain ⟨hc85, hs⟩ := hs
  refine kV_i (As := [.int (xs (x4 + 1).toNatClampNeg)]) (rest := []) ⟨hx, hb, hml, hown, hts⟩ (kX6_owner l X h r2 (xs (x4 + 1).toNatClampNeg) hM hc85) (wX6_owner hts q5_37 ⟨Nat.le_of_ble_eq_true rfl, Nat.le_of_ble_eq_true rfl⟩) hK hW hS (va_recv hK.1 (hW.one hM.1) (ci := 6) (q0 := 0) rfl rfl) rfl hl.1 rfl (Nat.le_of_ble_eq_true rfl) dL_law_680 ⟨by show _ ≤ 601024; omega, by show _ ≤ 7293034; omega⟩ (fun H locs hW hS => ?_)
  exact xL_law_c683 hst C0 (by omega) (by omega) hcR hsR hk23 x4 xs0 ((fX6_owner r2 (xs (x4 + 1).toNatClampNeg) h).1) ((fX6_owner r2 (xs (x4 + 1).toNatClampNeg) h).2) _ _ _ (lv_sub hl [1, 2, 3, 4, 5, 0] rfl) hW hS hs
def sL_law_c751 (a r2 r3 L : Nat) (xs : Nat → Int32) (K23 : Int32 → HH → Prop) (x4 : Int32) (x5 : Int32) (xs0 : Int32) (h : HH) : Prop := ((fX6_thrown r2 h) = x5 → ((x5 = 0 → (((lg_cmp (LJ (h r3 0) (h r3 1)) xs0.toInt64) = 0 → (sL_law_c1432 a r2 r3 L xs K23 x4 h)) ∧ (¬ ((lg_cmp (LJ (h r3 0) (h r3 1)) xs0.toInt64) = 0) → False))) ∧ (¬ (x5 = 0) → (sL_law_c1432 a r2 r3 L xs K23 x4 h)))) ∧ (¬ ((fX6_thrown r2 h) = x5) → False)
set_option maxRecDepth 100000 in
set_option maxHeartbeats 4000000 in
theorem xL_law_c751 {p : Program} {l : Launch} {e : Env} {s : State} {m : MethodId} {below : List Frame} {meth : Method} {c : Code} {X : Cx} {a r2 r3 b L : Nat} {xs : Nat → Int32} (hst : l.stackTraces = false) (C0 : CL p s m meth c X b L xs a r2 r3) {K23 : Int32 → HH → Prop} {cells slots cB sB : Nat} (hcB : cells ≤ cB) (hsB : slots ≤ sB) (hcR : cB ≤ 601024) (hsR : sB ≤ 7293034) (hk23 : ∀ (x4 : Int32) (h : HH) (H : Heap) (locs : List Loc) (ls : Array Slot), lv_has ls 7 [(0, .ref b), (1, .ref a), (2, .ref r2), (3, .ref r3), (4, .int x4)] → WH X h H → va_S (xA X) s.heap H locs → K23 x4 h → W p l e room_1 s m #[Value.ref b] below meth c H locs cB sB (lw_Z below #[Value.ref b] s) (F0 m 23 ls [])) (x4 : Int32) (x5 : Int32) (xs0 : Int32) (h : HH) (H : Heap) (locs : List Loc) (ls : Array Slot) (hl : lv_has ls 7 [(0, .ref b), (1, .ref a), (2, .ref r2), (3, .ref r3), (4, .int x4), (5, .int x5)]) (hW : WH X h H) (hS : va_S (xA X) s.heap H locs) (hs : sL_law_c751 a r2 r3 L xs K23 x4 x5 xs0 h) : W p l e room_1 s m #[Value.ref b] below meth c H locs cells slots (lw_Z below #[Value.ref b] s) (F0 m 751 ls [.int xs0]) := by
  obtain ⟨hx, hb, hr, hlk, hml, hown, hts, hK, hX9, hbl, hz9, hO, hM, hJ⟩ := id C0
  have hbA : ¬ xA X b := by show ¬ xz X ≤ b; rw [hz9]; omega
  refine lv_istore (lv' := [(6, .int xs0), (0, .ref b), (1, .ref a), (2, .ref r2), (3, .ref r3), (4, .int x4), (5, .int x5)]) hx hb dL_law_751 hl (by decide) rfl (fun ls hl => ?_)
  refine lv_aload_n hx hb dL_law_753 rfl (lv_at hl 3 rfl) ?_
  refine kV_i (As := []) (rest := []) ⟨hx, hb, hml, hown, hts⟩ (kX6_thrown l X h r2 hM) (wX6_thrown hts q4_80 ⟨Nat.le_of_ble_eq_true rfl, Nat.le_of_ble_eq_true rfl⟩) hK hW hS (va_recv hK.1 (hW.one hM.1) (ci := 6) (q0 := 0) rfl rfl) rfl hl.1 rfl (Nat.le_of_ble_eq_true rfl) dL_law_754 ⟨by show _ ≤ 601024; omega, by show _ ≤ 7293034; omega⟩ (fun H locs hW hS => ?_)
  refine lv_iload hx hb dL_law_757 (lv_at hl 6 rfl) ?_
  refine lv_icmp_eq (tgt := 764) hx hb dL_law_759 (by decide) (fun c96 => ?_) (fun c96 => ?_)
  · have hs := And.left hs c96
    refine lv_iload hx hb dL_law_764 (lv_at hl 6 rfl) ?_
    refine lv_if_ne (tgt := 781) hx hb dL_law_766 (by decide) (fun c97 => ?_) (fun c97 => ?_)
    · have hs := And.right hs c97
      refine lv_goto (tgt := 1432) hx hb dL_law_781 (by decide) ?_
      exact xL_law_c1432 hst C0 (by omega) (by omega) hcR hsR hk23 x4 h _ _ _ (lv_sub hl [1, 2, 3, 4, 5] rfl) hW hS hs
    · have hs := And.left hs c97
      refine lv_aload_n hx hb dL_law_769 rfl (lv_at hl 4 rfl) ?_
      refine lv_iconst (v := 0) hx hb dL_law_770 (by decide) ?_
      refine kb_lald hx hb hK hW hJ dL_law_771 ?_
      refine lv_iload hx hb dL_law_772 (lv_at hl 0 rfl) ?_
      refine lv_i2l hx hb dL_law_774 rfl ?_
      refine W.lcmp hx hb dL_law_775 ?_
      refine lv_if_eq (tgt := 781) hx hb dL_law_776 (by decide) (fun c98 => ?_) (fun c98 => ?_)
      · have hs := And.left hs c98
        refine lv_goto (tgt := 1432) hx hb dL_law_781 (by decide) ?_
        exact xL_law_c1432 hst C0 (by omega) (by omega) hcR hsR hk23 x4 h _ _ _ (lv_sub hl [1, 2, 3, 4, 5] rfl) hW hS hs
      · have hs := And.right hs c98
        refine lv_iconst (v := 0) hx hb dL_law_779 (by decide) ?_
        exact hs.elim
  · have hs := And.right hs c96
    refine lv_iconst (v := 0) hx hb dL_law_762 (by decide) ?_
    exact hs.elim
def sL_law_c733 (a r2 r3 L : Nat) (xs : Nat → Int32) (K23 : Int32 → HH → Prop) (x4 : Int32) (xs0 : Int32) (h : HH) : Prop := (vp_in (x4 + 1) L) ∧ ((vp_in (x4 + 2) L) ∧ ((sX6_space r2 (xs (x4 + 1).toNatClampNeg) (xs (x4 + 2).toNatClampNeg) h) ∧ (sL_law_c751 a r2 r3 L xs K23 x4 xs0 ((fX6_space r2 (xs (x4 + 1).toNatClampNeg) (xs (x4 + 2).toNatClampNeg) h).1) ((fX6_space r2 (xs (x4 + 1).toNatClampNeg) (xs (x4 + 2).toNatClampNeg) h).2))))
set_option maxRecDepth 100000 in
set_option maxHeartbeats 4000000 in
theorem xL_law_c733 {p : Program} {l : Launch} {e : Env} {s : State} {m : MethodId} {below : List Frame} {meth : Method} {c : Code} {X : Cx} {a r2 r3 b L : Nat} {xs : Nat → Int32} (hst : l.stackTraces = false) (C0 : CL p s m meth c X b L xs a r2 r3) {K23 : Int32 → HH → Prop} {cells slots cB sB : Nat} (hcB : cells ≤ cB) (hsB : slots ≤ sB) (hcR : cB ≤ 601024) (hsR : sB ≤ 7293034) (hk23 : ∀ (x4 : Int32) (h : HH) (H : Heap) (locs : List Loc) (ls : Array Slot), lv_has ls 7 [(0, .ref b), (1, .ref a), (2, .ref r2), (3, .ref r3), (4, .int x4)] → WH X h H → va_S (xA X) s.heap H locs → K23 x4 h → W p l e room_1 s m #[Value.ref b] below meth c H locs cB sB (lw_Z below #[Value.ref b] s) (F0 m 23 ls [])) (x4 : Int32) (xs0 : Int32) (h : HH) (H : Heap) (locs : List Loc) (ls : Array Slot) (hl : lv_has ls 7 [(0, .ref b), (1, .ref a), (2, .ref r2), (3, .ref r3), (4, .int x4)]) (hW : WH X h H) (hS : va_S (xA X) s.heap H locs) (hs : sL_law_c733 a r2 r3 L xs K23 x4 xs0 h) : W p l e room_1 s m #[Value.ref b] below meth c H locs cells slots (lw_Z below #[Value.ref b] s) (F0 m 733 ls [.int xs0]) := by
  obtain ⟨hx, hb, hr, hlk, hml, hown, hts, hK, hX9, hbl, hz9, hO, hM, hJ⟩ := id C0
  have hbA : ¬ xA X b := by show ¬ xz X ≤ b; rw [hz9]; omega
  refine lv_istore (lv' := [(5, .int xs0), (0, .ref b), (1, .ref a), (2, .ref r2), (3, .ref r3), (4, .int x4)]) hx hb dL_law_733 hl (by decide) rfl (fun ls hl => ?_)
  refine lv_aload_n hx hb dL_law_735 rfl (lv_at hl 3 rfl) ?_
  refine lv_aload_n hx hb dL_law_736 rfl (lv_at hl 1 rfl) ?_
  refine lv_iload hx hb dL_law_737 (lv_at hl 5 rfl) ?_
  refine lv_iconst (v := 1) hx hb dL_law_739 (by decide) ?_
  refine lv_iadd hx hb dL_law_740 ?_
  obtain ⟨hi93, hs⟩ := hs
  refine va_sld hx hb hX9 hbl hbA hS hi93 dL_law_741 ?_
  refine lv_aload_n hx hb dL_law_742 rfl (lv_at hl 1 rfl) ?_
  refine lv_iload hx hb dL_law_743 (lv_at hl 5 rfl) ?_
  refine lv_iconst (v := 2) hx hb dL_law_745 (by decide) ?_
  refine lv_iadd hx hb dL_law_746 ?_
  obtain ⟨hi94, hs⟩ := hs
  refine va_sld hx hb hX9 hbl hbA hS hi94 dL_law_747 ?_
  obtain ⟨hc95, hs⟩ := hs
  refine kV_i (As := [.int (xs (x4 + 1).toNatClampNeg), .int (xs (x4 + 2).toNatClampNeg)]) (rest := []) ⟨hx, hb, hml, hown, hts⟩ (kX6_space l X h r2 (xs (x4 + 1).toNatClampNeg) (xs (x4 + 2).toNatClampNeg) hM hc95) (wX6_space hts q5_41 ⟨Nat.le_of_ble_eq_true rfl, Nat.le_of_ble_eq_true rfl⟩) hK hW hS (va_recv hK.1 (hW.one hM.1) (ci := 6) (q0 := 0) rfl rfl) rfl hl.1 rfl (Nat.le_of_ble_eq_true rfl) dL_law_748 ⟨by show _ ≤ 601024; omega, by show _ ≤ 7293034; omega⟩ (fun H locs hW hS => ?_)
  exact xL_law_c751 hst C0 (by omega) (by omega) hcR hsR hk23 x4 xs0 ((fX6_space r2 (xs (x4 + 1).toNatClampNeg) (xs (x4 + 2).toNatClampNeg) h).1) ((fX6_space r2 (xs (x4 + 1).toNatClampNeg) (xs (x4 + 2).toNatClampNeg) h).2) _ _ _ (lv_sub hl [1, 2, 3, 4, 5, 0] rfl) hW hS hs
def sL_law_c831 (a r2 r3 L : Nat) (xs : Nat → Int32) (K23 : Int32 → HH → Prop) (x4 : Int32) (x5 : Int32) (xs0 : Int32) (h : HH) : Prop := ((fX6_thrown r2 h) = x5 → ((x5 = 0 → (((lg_cmp (LJ (h r3 0) (h r3 1)) xs0.toInt64) = 0 → (sL_law_c1432 a r2 r3 L xs K23 x4 h)) ∧ (¬ ((lg_cmp (LJ (h r3 0) (h r3 1)) xs0.toInt64) = 0) → False))) ∧ (¬ (x5 = 0) → (sL_law_c1432 a r2 r3 L xs K23 x4 h)))) ∧ (¬ ((fX6_thrown r2 h) = x5) → False)
set_option maxRecDepth 100000 in
set_option maxHeartbeats 4000000 in
theorem xL_law_c831 {p : Program} {l : Launch} {e : Env} {s : State} {m : MethodId} {below : List Frame} {meth : Method} {c : Code} {X : Cx} {a r2 r3 b L : Nat} {xs : Nat → Int32} (hst : l.stackTraces = false) (C0 : CL p s m meth c X b L xs a r2 r3) {K23 : Int32 → HH → Prop} {cells slots cB sB : Nat} (hcB : cells ≤ cB) (hsB : slots ≤ sB) (hcR : cB ≤ 601024) (hsR : sB ≤ 7293034) (hk23 : ∀ (x4 : Int32) (h : HH) (H : Heap) (locs : List Loc) (ls : Array Slot), lv_has ls 7 [(0, .ref b), (1, .ref a), (2, .ref r2), (3, .ref r3), (4, .int x4)] → WH X h H → va_S (xA X) s.heap H locs → K23 x4 h → W p l e room_1 s m #[Value.ref b] below meth c H locs cB sB (lw_Z below #[Value.ref b] s) (F0 m 23 ls [])) (x4 : Int32) (x5 : Int32) (xs0 : Int32) (h : HH) (H : Heap) (locs : List Loc) (ls : Array Slot) (hl : lv_has ls 7 [(0, .ref b), (1, .ref a), (2, .ref r2), (3, .ref r3), (4, .int x4), (5, .int x5)]) (hW : WH X h H) (hS : va_S (xA X) s.heap H locs) (hs : sL_law_c831 a r2 r3 L xs K23 x4 x5 xs0 h) : W p l e room_1 s m #[Value.ref b] below meth c H locs cells slots (lw_Z below #[Value.ref b] s) (F0 m 831 ls [.int xs0]) := by
  obtain ⟨hx, hb, hr, hlk, hml, hown, hts, hK, hX9, hbl, hz9, hO, hM, hJ⟩ := id C0
  have hbA : ¬ xA X b := by show ¬ xz X ≤ b; rw [hz9]; omega
  refine lv_istore (lv' := [(6, .int xs0), (0, .ref b), (1, .ref a), (2, .ref r2), (3, .ref r3), (4, .int x4), (5, .int x5)]) hx hb dL_law_831 hl (by decide) rfl (fun ls hl => ?_)
  refine lv_aload_n hx hb dL_law_833 rfl (lv_at hl 3 rfl) ?_
  refine kV_i (As := []) (rest := []) ⟨hx, hb, hml, hown, hts⟩ (kX6_thrown l X h r2 hM) (wX6_thrown hts q4_80 ⟨Nat.le_of_ble_eq_true rfl, Nat.le_of_ble_eq_true rfl⟩) hK hW hS (va_recv hK.1 (hW.one hM.1) (ci := 6) (q0 := 0) rfl rfl) rfl hl.1 rfl (Nat.le_of_ble_eq_true rfl) dL_law_834 ⟨by show _ ≤ 601024; omega, by show _ ≤ 7293034; omega⟩ (fun H locs hW hS => ?_)
  refine lv_iload hx hb dL_law_837 (lv_at hl 6 rfl) ?_
  refine lv_icmp_eq (tgt := 844) hx hb dL_law_839 (by decide) (fun c108 => ?_) (fun c108 => ?_)
  · have hs := And.left hs c108
    refine lv_iload hx hb dL_law_844 (lv_at hl 6 rfl) ?_
    refine lv_if_ne (tgt := 861) hx hb dL_law_846 (by decide) (fun c109 => ?_) (fun c109 => ?_)
    · have hs := And.right hs c109
      refine lv_goto (tgt := 1432) hx hb dL_law_861 (by decide) ?_
      exact xL_law_c1432 hst C0 (by omega) (by omega) hcR hsR hk23 x4 h _ _ _ (lv_sub hl [1, 2, 3, 4, 5] rfl) hW hS hs
    · have hs := And.left hs c109
      refine lv_aload_n hx hb dL_law_849 rfl (lv_at hl 4 rfl) ?_
      refine lv_iconst (v := 0) hx hb dL_law_850 (by decide) ?_
      refine kb_lald hx hb hK hW hJ dL_law_851 ?_
      refine lv_iload hx hb dL_law_852 (lv_at hl 0 rfl) ?_
      refine lv_i2l hx hb dL_law_854 rfl ?_
      refine W.lcmp hx hb dL_law_855 ?_
      refine lv_if_eq (tgt := 861) hx hb dL_law_856 (by decide) (fun c110 => ?_) (fun c110 => ?_)
      · have hs := And.left hs c110
        refine lv_goto (tgt := 1432) hx hb dL_law_861 (by decide) ?_
        exact xL_law_c1432 hst C0 (by omega) (by omega) hcR hsR hk23 x4 h _ _ _ (lv_sub hl [1, 2, 3, 4, 5] rfl) hW hS hs
      · have hs := And.right hs c110
        refine lv_iconst (v := 0) hx hb dL_law_859 (by decide) ?_
        exact hs.elim
  · have hs := And.right hs c108
    refine lv_iconst (v := 0) hx hb dL_law_842 (by decide) ?_
    exact hs.elim
def sL_law_c807 (a r2 r3 L : Nat) (xs : Nat → Int32) (K23 : Int32 → HH → Prop) (x4 : Int32) (xs0 : Int32) (h : HH) : Prop := (vp_in (x4 + 1) L) ∧ ((vp_in (x4 + 2) L) ∧ ((vp_in (x4 + 3) L) ∧ ((sX6_cost r2 (xs (x4 + 1).toNatClampNeg) (xs (x4 + 2).toNatClampNeg) (xs (x4 + 3).toNatClampNeg) h) ∧ (sL_law_c831 a r2 r3 L xs K23 x4 xs0 ((fX6_cost r2 (xs (x4 + 1).toNatClampNeg) (xs (x4 + 2).toNatClampNeg) (xs (x4 + 3).toNatClampNeg) h).1) ((fX6_cost r2 (xs (x4 + 1).toNatClampNeg) (xs (x4 + 2).toNatClampNeg) (xs (x4 + 3).toNatClampNeg) h).2)))))
set_option maxRecDepth 100000 in
set_option maxHeartbeats 4000000 in
theorem xL_law_c807 {p : Program} {l : Launch} {e : Env} {s : State} {m : MethodId} {below : List Frame} {meth : Method} {c : Code} {X : Cx} {a r2 r3 b L : Nat} {xs : Nat → Int32} (hst : l.stackTraces = false) (C0 : CL p s m meth c X b L xs a r2 r3) {K23 : Int32 → HH → Prop} {cells slots cB sB : Nat} (hcB : cells ≤ cB) (hsB : slots ≤ sB) (hcR : cB ≤ 601024) (hsR : sB ≤ 7293034) (hk23 : ∀ (x4 : Int32) (h : HH) (H : Heap) (locs : List Loc) (ls : Array Slot), lv_has ls 7 [(0, .ref b), (1, .ref a), (2, .ref r2), (3, .ref r3), (4, .int x4)] → WH X h H → va_S (xA X) s.heap H locs → K23 x4 h → W p l e room_1 s m #[Value.ref b] below meth c H locs cB sB (lw_Z below #[Value.ref b] s) (F0 m 23 ls [])) (x4 : Int32) (xs0 : Int32) (h : HH) (H : Heap) (locs : List Loc) (ls : Array Slot) (hl : lv_has ls 7 [(0, .ref b), (1, .ref a), (2, .ref r2), (3, .ref r3), (4, .int x4)]) (hW : WH X h H) (hS : va_S (xA X) s.heap H locs) (hs : sL_law_c807 a r2 r3 L xs K23 x4 xs0 h) : W p l e room_1 s m #[Value.ref b] below meth c H locs cells slots (lw_Z below #[Value.ref b] s) (F0 m 807 ls [.int xs0]) := by
  obtain ⟨hx, hb, hr, hlk, hml, hown, hts, hK, hX9, hbl, hz9, hO, hM, hJ⟩ := id C0
  have hbA : ¬ xA X b := by show ¬ xz X ≤ b; rw [hz9]; omega
  refine lv_istore (lv' := [(5, .int xs0), (0, .ref b), (1, .ref a), (2, .ref r2), (3, .ref r3), (4, .int x4)]) hx hb dL_law_807 hl (by decide) rfl (fun ls hl => ?_)
  refine lv_aload_n hx hb dL_law_809 rfl (lv_at hl 3 rfl) ?_
  refine lv_aload_n hx hb dL_law_810 rfl (lv_at hl 1 rfl) ?_
  refine lv_iload hx hb dL_law_811 (lv_at hl 5 rfl) ?_
  refine lv_iconst (v := 1) hx hb dL_law_813 (by decide) ?_
  refine lv_iadd hx hb dL_law_814 ?_
  obtain ⟨hi104, hs⟩ := hs
  refine va_sld hx hb hX9 hbl hbA hS hi104 dL_law_815 ?_
  refine lv_aload_n hx hb dL_law_816 rfl (lv_at hl 1 rfl) ?_
  refine lv_iload hx hb dL_law_817 (lv_at hl 5 rfl) ?_
  refine lv_iconst (v := 2) hx hb dL_law_819 (by decide) ?_
  refine lv_iadd hx hb dL_law_820 ?_
  obtain ⟨hi105, hs⟩ := hs
  refine va_sld hx hb hX9 hbl hbA hS hi105 dL_law_821 ?_
  refine lv_aload_n hx hb dL_law_822 rfl (lv_at hl 1 rfl) ?_
  refine lv_iload hx hb dL_law_823 (lv_at hl 5 rfl) ?_
  refine lv_iconst (v := 3) hx hb dL_law_825 (by decide) ?_
  refine lv_iadd hx hb dL_law_826 ?_
  obtain ⟨hi106, hs⟩ := hs
  refine va_sld hx hb hX9 hbl hbA hS hi106 dL_law_827 ?_
  obtain ⟨hc107, hs⟩ := hs
  refine kV_i (As := [.int (xs (x4 + 1).toNatClampNeg), .int (xs (x4 + 2).toNatClampNeg), .int (xs (x4 + 3).toNatClampNeg)]) (rest := []) ⟨hx, hb, hml, hown, hts⟩ (kX6_cost l X h r2 (xs (x4 + 1).toNatClampNeg) (xs (x4 + 2).toNatClampNeg) (xs (x4 + 3).toNatClampNeg) hM hc107) (wX6_cost hts q5_49 ⟨Nat.le_of_ble_eq_true rfl, Nat.le_of_ble_eq_true rfl⟩) hK hW hS (va_recv hK.1 (hW.one hM.1) (ci := 6) (q0 := 0) rfl rfl) rfl hl.1 rfl (Nat.le_of_ble_eq_true rfl) dL_law_828 ⟨by show _ ≤ 601024; omega, by show _ ≤ 7293034; omega⟩ (fun H locs hW hS => ?_)
  exact xL_law_c831 hst C0 (by omega) (by omega) hcR hsR hk23 x4 xs0 ((fX6_cost r2 (xs (x4 + 1).toNatClampNeg) (xs (x4 + 2).toNatClampNeg) (xs (x4 + 3).toNatClampNeg) h).1) ((fX6_cost r2 (xs (x4 + 1).toNatClampNeg) (xs (x4 + 2).toNatClampNeg) (xs (x4 + 3).toNatClampNeg) h).2) _ _ _ (lv_sub hl [1, 2, 3, 4, 5, 0] rfl) hW hS hs
def sL_law_c887 (a r2 r3 L : Nat) (xs : Nat → Int32) (K23 : Int32 → HH → Prop) (x4 : Int32) (x5 : Int32) (xs0 : Int32) (h : HH) : Prop := ((fX6_thrown r2 h) = x5 → ((x5 = 0 → (((lg_cmp (LJ (h r3 0) (h r3 1)) xs0.toInt64) = 0 → (sL_law_c1432 a r2 r3 L xs K23 x4 h)) ∧ (¬ ((lg_cmp (LJ (h r3 0) (h r3 1)) xs0.toInt64) = 0) → False))) ∧ (¬ (x5 = 0) → (sL_law_c1432 a r2 r3 L xs K23 x4 h)))) ∧ (¬ ((fX6_thrown r2 h) = x5) → False)
set_option maxRecDepth 100000 in
set_option maxHeartbeats 4000000 in
theorem xL_law_c887 {p : Program} {l : Launch} {e : Env} {s : State} {m : MethodId} {below : List Frame} {meth : Method} {c : Code} {X : Cx} {a r2 r3 b L : Nat} {xs : Nat → Int32} (hst : l.stackTraces = false) (C0 : CL p s m meth c X b L xs a r2 r3) {K23 : Int32 → HH → Prop} {cells slots cB sB : Nat} (hcB : cells ≤ cB) (hsB : slots ≤ sB) (hcR : cB ≤ 601024) (hsR : sB ≤ 7293034) (hk23 : ∀ (x4 : Int32) (h : HH) (H : Heap) (locs : List Loc) (ls : Array Slot), lv_has ls 7 [(0, .ref b), (1, .ref a), (2, .ref r2), (3, .ref r3), (4, .int x4)] → WH X h H → va_S (xA X) s.heap H locs → K23 x4 h → W p l e room_1 s m #[Value.ref b] below meth c H locs cB sB (lw_Z below #[Value.ref b] s) (F0 m 23 ls [])) (x4 : Int32) (x5 : Int32) (xs0 : Int32) (h : HH) (H : Heap) (locs : List Loc) (ls : Array Slot) (hl : lv_has ls 7 [(0, .ref b), (1, .ref a), (2, .ref r2), (3, .ref r3), (4, .int x4), (5, .int x5)]) (hW : WH X h H) (hS : va_S (xA X) s.heap H locs) (hs : sL_law_c887 a r2 r3 L xs K23 x4 x5 xs0 h) : W p l e room_1 s m #[Value.ref b] below meth c H locs cells slots (lw_Z below #[Value.ref b] s) (F0 m 887 ls [.int xs0]) := by
  obtain ⟨hx, hb, hr, hlk, hml, hown, hts, hK, hX9, hbl, hz9, hO, hM, hJ⟩ := id C0
  have hbA : ¬ xA X b := by show ¬ xz X ≤ b; rw [hz9]; omega
  refine lv_istore (lv' := [(6, .int xs0), (0, .ref b), (1, .ref a), (2, .ref r2), (3, .ref r3), (4, .int x4), (5, .int x5)]) hx hb dL_law_887 hl (by decide) rfl (fun ls hl => ?_)
  refine lv_aload_n hx hb dL_law_889 rfl (lv_at hl 3 rfl) ?_
  refine kV_i (As := []) (rest := []) ⟨hx, hb, hml, hown, hts⟩ (kX6_thrown l X h r2 hM) (wX6_thrown hts q4_80 ⟨Nat.le_of_ble_eq_true rfl, Nat.le_of_ble_eq_true rfl⟩) hK hW hS (va_recv hK.1 (hW.one hM.1) (ci := 6) (q0 := 0) rfl rfl) rfl hl.1 rfl (Nat.le_of_ble_eq_true rfl) dL_law_890 ⟨by show _ ≤ 601024; omega, by show _ ≤ 7293034; omega⟩ (fun H locs hW hS => ?_)
  refine lv_iload hx hb dL_law_893 (lv_at hl 6 rfl) ?_
  refine lv_icmp_eq (tgt := 900) hx hb dL_law_895 (by decide) (fun c116 => ?_) (fun c116 => ?_)
  · have hs := And.left hs c116
    refine lv_iload hx hb dL_law_900 (lv_at hl 6 rfl) ?_
    refine lv_if_ne (tgt := 917) hx hb dL_law_902 (by decide) (fun c117 => ?_) (fun c117 => ?_)
    · have hs := And.right hs c117
      refine lv_goto (tgt := 1432) hx hb dL_law_917 (by decide) ?_
      exact xL_law_c1432 hst C0 (by omega) (by omega) hcR hsR hk23 x4 h _ _ _ (lv_sub hl [1, 2, 3, 4, 5] rfl) hW hS hs
    · have hs := And.left hs c117
      refine lv_aload_n hx hb dL_law_905 rfl (lv_at hl 4 rfl) ?_
      refine lv_iconst (v := 0) hx hb dL_law_906 (by decide) ?_
      refine kb_lald hx hb hK hW hJ dL_law_907 ?_
      refine lv_iload hx hb dL_law_908 (lv_at hl 0 rfl) ?_
      refine lv_i2l hx hb dL_law_910 rfl ?_
      refine W.lcmp hx hb dL_law_911 ?_
      refine lv_if_eq (tgt := 917) hx hb dL_law_912 (by decide) (fun c118 => ?_) (fun c118 => ?_)
      · have hs := And.left hs c118
        refine lv_goto (tgt := 1432) hx hb dL_law_917 (by decide) ?_
        exact xL_law_c1432 hst C0 (by omega) (by omega) hcR hsR hk23 x4 h _ _ _ (lv_sub hl [1, 2, 3, 4, 5] rfl) hW hS hs
      · have hs := And.right hs c118
        refine lv_iconst (v := 0) hx hb dL_law_915 (by decide) ?_
        exact hs.elim
  · have hs := And.right hs c116
    refine lv_iconst (v := 0) hx hb dL_law_898 (by decide) ?_
    exact hs.elim
def sL_law_c875 (a r2 r3 L : Nat) (xs : Nat → Int32) (K23 : Int32 → HH → Prop) (x4 : Int32) (xs0 : Int32) (h : HH) : Prop := (vp_in (x4 + 1) L) ∧ ((sX6_need r2 (xs (x4 + 1).toNatClampNeg) h) ∧ (sL_law_c887 a r2 r3 L xs K23 x4 xs0 ((fX6_need r2 (xs (x4 + 1).toNatClampNeg) h).1) ((fX6_need r2 (xs (x4 + 1).toNatClampNeg) h).2)))
set_option maxRecDepth 100000 in
set_option maxHeartbeats 4000000 in
theorem xL_law_c875 {p : Program} {l : Launch} {e : Env} {s : State} {m : MethodId} {below : List Frame} {meth : Method} {c : Code} {X : Cx} {a r2 r3 b L : Nat} {xs : Nat → Int32} (hst : l.stackTraces = false) (C0 : CL p s m meth c X b L xs a r2 r3) {K23 : Int32 → HH → Prop} {cells slots cB sB : Nat} (hcB : cells ≤ cB) (hsB : slots ≤ sB) (hcR : cB ≤ 601024) (hsR : sB ≤ 7293034) (hk23 : ∀ (x4 : Int32) (h : HH) (H : Heap) (locs : List Loc) (ls : Array Slot), lv_has ls 7 [(0, .ref b), (1, .ref a), (2, .ref r2), (3, .ref r3), (4, .int x4)] → WH X h H → va_S (xA X) s.heap H locs → K23 x4 h → W p l e room_1 s m #[Value.ref b] below meth c H locs cB sB (lw_Z below #[Value.ref b] s) (F0 m 23 ls [])) (x4 : Int32) (xs0 : Int32) (h : HH) (H : Heap) (locs : List Loc) (ls : Array Slot) (hl : lv_has ls 7 [(0, .ref b), (1, .ref a), (2, .ref r2), (3, .ref r3), (4, .int x4)]) (hW : WH X h H) (hS : va_S (xA X) s.heap H locs) (hs : sL_law_c875 a r2 r3 L xs K23 x4 xs0 h) : W p l e room_1 s m #[Value.ref b] below meth c H locs cells slots (lw_Z below #[Value.ref b] s) (F0 m 875 ls [.int xs0]) := by
  obtain ⟨hx, hb, hr, hlk, hml, hown, hts, hK, hX9, hbl, hz9, hO, hM, hJ⟩ := id C0
  have hbA : ¬ xA X b := by show ¬ xz X ≤ b; rw [hz9]; omega
  refine lv_istore (lv' := [(5, .int xs0), (0, .ref b), (1, .ref a), (2, .ref r2), (3, .ref r3), (4, .int x4)]) hx hb dL_law_875 hl (by decide) rfl (fun ls hl => ?_)
  refine lv_aload_n hx hb dL_law_877 rfl (lv_at hl 3 rfl) ?_
  refine lv_aload_n hx hb dL_law_878 rfl (lv_at hl 1 rfl) ?_
  refine lv_iload hx hb dL_law_879 (lv_at hl 5 rfl) ?_
  refine lv_iconst (v := 1) hx hb dL_law_881 (by decide) ?_
  refine lv_iadd hx hb dL_law_882 ?_
  obtain ⟨hi114, hs⟩ := hs
  refine va_sld hx hb hX9 hbl hbA hS hi114 dL_law_883 ?_
  obtain ⟨hc115, hs⟩ := hs
  refine kV_i (As := [.int (xs (x4 + 1).toNatClampNeg)]) (rest := []) ⟨hx, hb, hml, hown, hts⟩ (kX6_need l X h r2 (xs (x4 + 1).toNatClampNeg) hM hc115) (wX6_need hts q5_53 ⟨Nat.le_of_ble_eq_true rfl, Nat.le_of_ble_eq_true rfl⟩) hK hW hS (va_recv hK.1 (hW.one hM.1) (ci := 6) (q0 := 0) rfl rfl) rfl hl.1 rfl (Nat.le_of_ble_eq_true rfl) dL_law_884 ⟨by show _ ≤ 601024; omega, by show _ ≤ 7293034; omega⟩ (fun H locs hW hS => ?_)
  exact xL_law_c887 hst C0 (by omega) (by omega) hcR hsR hk23 x4 xs0 ((fX6_need r2 (xs (x4 + 1).toNatClampNeg) h).1) ((fX6_need r2 (xs (x4 + 1).toNatClampNeg) h).2) _ _ _ (lv_sub hl [1, 2, 3, 4, 5, 0] rfl) hW hS hs
def sL_law_c943 (a r2 r3 L : Nat) (xs : Nat → Int32) (K23 : Int32 → HH → Prop) (x4 : Int32) (x5 : Int32) (xs0 : Int32) (h : HH) : Prop := ((fX6_thrown r2 h) = x5 → ((x5 = 0 → (((lg_cmp (LJ (h r3 0) (h r3 1)) xs0.toInt64) = 0 → (sL_law_c1432 a r2 r3 L xs K23 x4 h)) ∧ (¬ ((lg_cmp (LJ (h r3 0) (h r3 1)) xs0.toInt64) = 0) → False))) ∧ (¬ (x5 = 0) → (sL_law_c1432 a r2 r3 L xs K23 x4 h)))) ∧ (¬ ((fX6_thrown r2 h) = x5) → False)
set_option maxRecDepth 100000 in
set_option maxHeartbeats 4000000 in
theorem xL_law_c943 {p : Program} {l : Launch} {e : Env} {s : State} {m : MethodId} {below : List Frame} {meth : Method} {c : Code} {X : Cx} {a r2 r3 b L : Nat} {xs : Nat → Int32} (hst : l.stackTraces = false) (C0 : CL p s m meth c X b L xs a r2 r3) {K23 : Int32 → HH → Prop} {cells slots cB sB : Nat} (hcB : cells ≤ cB) (hsB : slots ≤ sB) (hcR : cB ≤ 601024) (hsR : sB ≤ 7293034) (hk23 : ∀ (x4 : Int32) (h : HH) (H : Heap) (locs : List Loc) (ls : Array Slot), lv_has ls 7 [(0, .ref b), (1, .ref a), (2, .ref r2), (3, .ref r3), (4, .int x4)] → WH X h H → va_S (xA X) s.heap H locs → K23 x4 h → W p l e room_1 s m #[Value.ref b] below meth c H locs cB sB (lw_Z below #[Value.ref b] s) (F0 m 23 ls [])) (x4 : Int32) (x5 : Int32) (xs0 : Int32) (h : HH) (H : Heap) (locs : List Loc) (ls : Array Slot) (hl : lv_has ls 7 [(0, .ref b), (1, .ref a), (2, .ref r2), (3, .ref r3), (4, .int x4), (5, .int x5)]) (hW : WH X h H) (hS : va_S (xA X) s.heap H locs) (hs : sL_law_c943 a r2 r3 L xs K23 x4 x5 xs0 h) : W p l e room_1 s m #[Value.ref b] below meth c H locs cells slots (lw_Z below #[Value.ref b] s) (F0 m 943 ls [.int xs0]) := by
  obtain ⟨hx, hb, hr, hlk, hml, hown, hts, hK, hX9, hbl, hz9, hO, hM, hJ⟩ := id C0
  have hbA : ¬ xA X b := by show ¬ xz X ≤ b; rw [hz9]; omega
  refine lv_istore (lv' := [(6, .int xs0), (0, .ref b), (1, .ref a), (2, .ref r2), (3, .ref r3), (4, .int x4), (5, .int x5)]) hx hb dL_law_943 hl (by decide) rfl (fun ls hl => ?_)
  refine lv_aload_n hx hb dL_law_945 rfl (lv_at hl 3 rfl) ?_
  refine kV_i (As := []) (rest := []) ⟨hx, hb, hml, hown, hts⟩ (kX6_thrown l X h r2 hM) (wX6_thrown hts q4_80 ⟨Nat.le_of_ble_eq_true rfl, Nat.le_of_ble_eq_true rfl⟩) hK hW hS (va_recv hK.1 (hW.one hM.1) (ci := 6) (q0 := 0) rfl rfl) rfl hl.1 rfl (Nat.le_of_ble_eq_true rfl) dL_law_946 ⟨by show _ ≤ 601024; omega, by show _ ≤ 7293034; omega⟩ (fun H locs hW hS => ?_)
  refine lv_iload hx hb dL_law_949 (lv_at hl 6 rfl) ?_
  refine lv_icmp_eq (tgt := 956) hx hb dL_law_951 (by decide) (fun c124 => ?_) (fun c124 => ?_)
  · have hs := And.left hs c124
    refine lv_iload hx hb dL_law_956 (lv_at hl 6 rfl) ?_
    refine lv_if_ne (tgt := 973) hx hb dL_law_958 (by decide) (fun c125 => ?_) (fun c125 => ?_)
    · have hs := And.right hs c125
      refine lv_goto (tgt := 1432) hx hb dL_law_973 (by decide) ?_
      exact xL_law_c1432 hst C0 (by omega) (by omega) hcR hsR hk23 x4 h _ _ _ (lv_sub hl [1, 2, 3, 4, 5] rfl) hW hS hs
    · have hs := And.left hs c125
      refine lv_aload_n hx hb dL_law_961 rfl (lv_at hl 4 rfl) ?_
      refine lv_iconst (v := 0) hx hb dL_law_962 (by decide) ?_
      refine kb_lald hx hb hK hW hJ dL_law_963 ?_
      refine lv_iload hx hb dL_law_964 (lv_at hl 0 rfl) ?_
      refine lv_i2l hx hb dL_law_966 rfl ?_
      refine W.lcmp hx hb dL_law_967 ?_
      refine lv_if_eq (tgt := 973) hx hb dL_law_968 (by decide) (fun c126 => ?_) (fun c126 => ?_)
      · have hs := And.left hs c126
        refine lv_goto (tgt := 1432) hx hb dL_law_973 (by decide) ?_
        exact xL_law_c1432 hst C0 (by omega) (by omega) hcR hsR hk23 x4 h _ _ _ (lv_sub hl [1, 2, 3, 4, 5] rfl) hW hS hs
      · have hs := And.right hs c126
        refine lv_iconst (v := 0) hx hb dL_law_971 (by decide) ?_
        exact hs.elim
  · have hs := And.right hs c124
    refine lv_iconst (v := 0) hx hb dL_law_954 (by decide) ?_
    exact hs.elim
def sL_law_c931 (a r2 r3 L : Nat) (xs : Nat → Int32) (K23 : Int32 → HH → Prop) (x4 : Int32) (xs0 : Int32) (h : HH) : Prop := (vp_in (x4 + 1) L) ∧ ((sX6_missing r2 (xs (x4 + 1).toNatClampNeg) h) ∧ (sL_law_c943 a r2 r3 L xs K23 x4 xs0 ((fX6_missing r2 (xs (x4 + 1).toNatClampNeg) h).1) ((fX6_missing r2 (xs (x4 + 1).toNatClampNeg) h).2)))
set_option maxRecDepth 100000 in
set_option maxHeartbeats 4000000 in
theorem xL_law_c931 {p : Program} {l : Launch} {e : Env} {s : State} {m : MethodId} {below : List Frame} {meth : Method} {c : Code} {X : Cx} {a r2 r3 b L : Nat} {xs : Nat → Int32} (hst : l.stackTraces = false) (C0 : CL p s m meth c X b L xs a r2 r3) {K23 : Int32 → HH → Prop} {cells slots cB sB : Nat} (hcB : cells ≤ cB) (hsB : slots ≤ sB) (hcR : cB ≤ 601024) (hsR : sB ≤ 7293034) (hk23 : ∀ (x4 : Int32) (h : HH) (H : Heap) (locs : List Loc) (ls : Array Slot), lv_has ls 7 [(0, .ref b), (1, .ref a), (2, .ref r2), (3, .ref r3), (4, .int x4)] → WH X h H → va_S (xA X) s.heap H locs → K23 x4 h → W p l e room_1 s m #[Value.ref b] below meth c H locs cB sB (lw_Z below #[Value.ref b] s) (F0 m 23 ls [])) (x4 : Int32) (xs0 : Int32) (h : HH) (H : Heap) (locs : List Loc) (ls : Array Slot) (hl : lv_has ls 7 [(0, .ref b), (1, .ref a), (2, .ref r2), (3, .ref r3), (4, .int x4)]) (hW : WH X h H) (hS : va_S (xA X) s.heap H locs) (hs : sL_law_c931 a r2 r3 L xs K23 x4 xs0 h) : W p l e room_1 s m #[Value.ref b] below meth c H locs cells slots (lw_Z below #[Value.ref b] s) (F0 m 931 ls [.int xs0]) := by
  obtain ⟨hx, hb, hr, hlk, hml, hown, hts, hK, hX9, hbl, hz9, hO, hM, hJ⟩ := id C0
  have hbA : ¬ xA X b := by show ¬ xz X ≤ b; rw [hz9]; omega
  refine lv_istore (lv' := [(5, .int xs0), (0, .ref b), (1, .ref a), (2, .ref r2), (3, .ref r3), (4, .int x4)]) hx hb dL_law_931 hl (by decide) rfl (fun ls hl => ?_)
  refine lv_aload_n hx hb dL_law_933 rfl (lv_at hl 3 rfl) ?_
  refine lv_aload_n hx hb dL_law_934 rfl (lv_at hl 1 rfl) ?_
  refine lv_iload hx hb dL_law_935 (lv_at hl 5 rfl) ?_
  refine lv_iconst (v := 1) hx hb dL_law_937 (by decide) ?_
  refine lv_iadd hx hb dL_law_938 ?_
  obtain ⟨hi122, hs⟩ := hs
  refine va_sld hx hb hX9 hbl hbA hS hi122 dL_law_939 ?_
  obtain ⟨hc123, hs⟩ := hs
  refine kV_i (As := [.int (xs (x4 + 1).toNatClampNeg)]) (rest := []) ⟨hx, hb, hml, hown, hts⟩ (kX6_missing l X h r2 (xs (x4 + 1).toNatClampNeg) hM hc123) (wX6_missing hts q5_57 ⟨Nat.le_of_ble_eq_true rfl, Nat.le_of_ble_eq_true rfl⟩) hK hW hS (va_recv hK.1 (hW.one hM.1) (ci := 6) (q0 := 0) rfl rfl) rfl hl.1 rfl (Nat.le_of_ble_eq_true rfl) dL_law_940 ⟨by show _ ≤ 601024; omega, by show _ ≤ 7293034; omega⟩ (fun H locs hW hS => ?_)
  exact xL_law_c943 hst C0 (by omega) (by omega) hcR hsR hk23 x4 xs0 ((fX6_missing r2 (xs (x4 + 1).toNatClampNeg) h).1) ((fX6_missing r2 (xs (x4 + 1).toNatClampNeg) h).2) _ _ _ (lv_sub hl [1, 2, 3, 4, 5, 0] rfl) hW hS hs
def sL_law_c1011 (a r2 r3 L : Nat) (xs : Nat → Int32) (K23 : Int32 → HH → Prop) (x4 : Int32) (x5 : Int32) (xs0 : Int32) (h : HH) : Prop := ((fX6_thrown r2 h) = x5 → ((x5 = 0 → (((lg_cmp (LJ (h r3 0) (h r3 1)) xs0.toInt64) = 0 → (sL_law_c1432 a r2 r3 L xs K23 x4 h)) ∧ (¬ ((lg_cmp (LJ (h r3 0) (h r3 1)) xs0.toInt64) = 0) → False))) ∧ (¬ (x5 = 0) → (sL_law_c1432 a r2 r3 L xs K23 x4 h)))) ∧ (¬ ((fX6_thrown r2 h) = x5) → False)
set_option maxRecDepth 100000 in
set_option maxHeartbeats 4000000 in
theorem xL_law_c1011 {p : Program} {l : Launch} {e : Env} {s : State} {m : MethodId} {below : List Frame} {meth : Method} {c : Code} {X : Cx} {a r2 r3 b L : Nat} {xs : Nat → Int32} (hst : l.stackTraces = false) (C0 : CL p s m meth c X b L xs a r2 r3) {K23 : Int32 → HH → Prop} {cells slots cB sB : Nat} (hcB : cells ≤ cB) (hsB : slots ≤ sB) (hcR : cB ≤ 601024) (hsR : sB ≤ 7293034) (hk23 : ∀ (x4 : Int32) (h : HH) (H : Heap) (locs : List Loc) (ls : Array Slot), lv_has ls 7 [(0, .ref b), (1, .ref a), (2, .ref r2), (3, .ref r3), (4, .int x4)] → WH X h H → va_S (xA X) s.heap H locs → K23 x4 h → W p l e room_1 s m #[Value.ref b] below meth c H locs cB sB (lw_Z below #[Value.ref b] s) (F0 m 23 ls [])) (x4 : Int32) (x5 : Int32) (xs0 : Int32) (h : HH) (H : Heap) (locs : List Loc) (ls : Array Slot) (hl : lv_has ls 7 [(0, .ref b), (1, .ref a), (2, .ref r2), (3, .ref r3), (4, .int x4), (5, .int x5)]) (hW : WH X h H) (hS : va_S (xA X) s.heap H locs) (hs : sL_law_c1011 a r2 r3 L xs K23 x4 x5 xs0 h) : W p l e room_1 s m #[Value.ref b] below meth c H locs cells slots (lw_Z below #[Value.ref b] s) (F0 m 1011 ls [.int xs0]) := by
  obtain ⟨hx, hb, hr, hlk, hml, hown, hts, hK, hX9, hbl, hz9, hO, hM, hJ⟩ := id C0
  have hbA : ¬ xA X b := by show ¬ xz X ≤ b; rw [hz9]; omega
  refine lv_istore (lv' := [(6, .int xs0), (0, .ref b), (1, .ref a), (2, .ref r2), (3, .ref r3), (4, .int x4), (5, .int x5)]) hx hb dL_law_1011 hl (by decide) rfl (fun ls hl => ?_)
  refine lv_aload_n hx hb dL_law_1013 rfl (lv_at hl 3 rfl) ?_
  refine kV_i (As := []) (rest := []) ⟨hx, hb, hml, hown, hts⟩ (kX6_thrown l X h r2 hM) (wX6_thrown hts q4_80 ⟨Nat.le_of_ble_eq_true rfl, Nat.le_of_ble_eq_true rfl⟩) hK hW hS (va_recv hK.1 (hW.one hM.1) (ci := 6) (q0 := 0) rfl rfl) rfl hl.1 rfl (Nat.le_of_ble_eq_true rfl) dL_law_1014 ⟨by show _ ≤ 601024; omega, by show _ ≤ 7293034; omega⟩ (fun H locs hW hS => ?_)
  refine lv_iload hx hb dL_law_1017 (lv_at hl 6 rfl) ?_
  refine lv_icmp_eq (tgt := 1024) hx hb dL_law_1019 (by decide) (fun c134 => ?_) (fun c134 => ?_)
  · have hs := And.left hs c134
    refine lv_iload hx hb dL_law_1024 (lv_at hl 6 rfl) ?_
    refine lv_if_ne (tgt := 1041) hx hb dL_law_1026 (by decide) (fun c135 => ?_) (fun c135 => ?_)
    · have hs := And.right hs c135
      refine lv_goto (tgt := 1432) hx hb dL_law_1041 (by decide) ?_
      exact xL_law_c1432 hst C0 (by omega) (by omega) hcR hsR hk23 x4 h _ _ _ (lv_sub hl [1, 2, 3, 4, 5] rfl) hW hS hs
    · have hs := And.left hs c135
      refine lv_aload_n hx hb dL_law_1029 rfl (lv_at hl 4 rfl) ?_
      refine lv_iconst (v := 0) hx hb dL_law_1030 (by decide) ?_
      refine kb_lald hx hb hK hW hJ dL_law_1031 ?_
      refine lv_iload hx hb dL_law_1032 (lv_at hl 0 rfl) ?_
      refine lv_i2l hx hb dL_law_1034 rfl ?_
      refine W.lcmp hx hb dL_law_1035 ?_
      refine lv_if_eq (tgt := 1041) hx hb dL_law_1036 (by decide) (fun c136 => ?_) (fun c136 => ?_)
      · have hs := And.left hs c136
        refine lv_goto (tgt := 1432) hx hb dL_law_1041 (by decide) ?_
        exact xL_law_c1432 hst C0 (by omega) (by omega) hcR hsR hk23 x4 h _ _ _ (lv_sub hl [1, 2, 3, 4, 5] rfl) hW hS hs
      · have hs := And.right hs c136
        refine lv_iconst (v := 0) hx hb dL_law_1039 (by decide) ?_
        exact hs.elim
  · have hs := And.right hs c134
    refine lv_iconst (v := 0) hx hb dL_law_1022 (by decide) ?_
    exact hs.elim
def sL_law_c993 (a r2 r3 L : Nat) (xs : Nat → Int32) (K23 : Int32 → HH → Prop) (x4 : Int32) (xs0 : Int32) (h : HH) : Prop := (vp_in (x4 + 1) L) ∧ ((vp_in (x4 + 2) L) ∧ ((sX6_score r2 (xs (x4 + 1).toNatClampNeg) (xs (x4 + 2).toNatClampNeg) h) ∧ (sL_law_c1011 a r2 r3 L xs K23 x4 xs0 ((fX6_score r2 (xs (x4 + 1).toNatClampNeg) (xs (x4 + 2).toNatClampNeg) h).1) ((fX6_score r2 (xs (x4 + 1).toNatClampNeg) (xs (x4 + 2).toNatClampNeg) h).2))))
set_option maxRecDepth 100000 in
set_option maxHeartbeats 4000000 in
theorem xL_law_c993 {p : Program} {l : Launch} {e : Env} {s : State} {m : MethodId} {below : List Frame} {meth : Method} {c : Code} {X : Cx} {a r2 r3 b L : Nat} {xs : Nat → Int32} (hst : l.stackTraces = false) (C0 : CL p s m meth c X b L xs a r2 r3) {K23 : Int32 → HH → Prop} {cells slots cB sB : Nat} (hcB : cells ≤ cB) (hsB : slots ≤ sB) (hcR : cB ≤ 601024) (hsR : sB ≤ 7293034) (hk23 : ∀ (x4 : Int32) (h : HH) (H : Heap) (locs : List Loc) (ls : Array Slot), lv_has ls 7 [(0, .ref b), (1, .ref a), (2, .ref r2), (3, .ref r3), (4, .int x4)] → WH X h H → va_S (xA X) s.heap H locs → K23 x4 h → W p l e room_1 s m #[Value.ref b] below meth c H locs cB sB (lw_Z below #[Value.ref b] s) (F0 m 23 ls [])) (x4 : Int32) (xs0 : Int32) (h : HH) (H : Heap) (locs : List Loc) (ls : Array Slot) (hl : lv_has ls 7 [(0, .ref b), (1, .ref a), (2, .ref r2), (3, .ref r3), (4, .int x4)]) (hW : WH X h H) (hS : va_S (xA X) s.heap H locs) (hs : sL_law_c993 a r2 r3 L xs K23 x4 xs0 h) : W p l e room_1 s m #[Value.ref b] below meth c H locs cells slots (lw_Z below #[Value.ref b] s) (F0 m 993 ls [.int xs0]) := by
  obtain ⟨hx, hb, hr, hlk, hml, hown, hts, hK, hX9, hbl, hz9, hO, hM, hJ⟩ := id C0
  have hbA : ¬ xA X b := by show ¬ xz X ≤ b; rw [hz9]; omega
  refine lv_istore (lv' := [(5, .int xs0), (0, .ref b), (1, .ref a), (2, .ref r2), (3, .ref r3), (4, .int x4)]) hx hb dL_law_993 hl (by decide) rfl (fun ls hl => ?_)
  refine lv_aload_n hx hb dL_law_995 rfl (lv_at hl 3 rfl) ?_
  refine lv_aload_n hx hb dL_law_996 rfl (lv_at hl 1 rfl) ?_
  refine lv_iload hx hb dL_law_997 (lv_at hl 5 rfl) ?_
  refine lv_iconst (v := 1) hx hb dL_law_999 (by decide) ?_
  refine lv_iadd hx hb dL_law_1000 ?_
  obtain ⟨hi131, hs⟩ := hs
  refine va_sld hx hb hX9 hbl hbA hS hi131 dL_law_1001 ?_
  refine lv_aload_n hx hb dL_law_1002 rfl (lv_at hl 1 rfl) ?_
  refine lv_iload hx hb dL_law_1003 (lv_at hl 5 rfl) ?_
  refine lv_iconst (v := 2) hx hb dL_law_1005 (by decide) ?_
  refine lv_iadd hx hb dL_law_1006 ?_
  obtain ⟨hi132, hs⟩ := hs
  refine va_sld hx hb hX9 hbl hbA hS hi132 dL_law_1007 ?_
  obtain ⟨hc133, hs⟩ := hs
  refine kV_i (As := [.int (xs (x4 + 1).toNatClampNeg), .int (xs (x4 + 2).toNatClampNeg)]) (rest := []) ⟨hx, hb, hml, hown, hts⟩ (kX6_score l X h r2 (xs (x4 + 1).toNatClampNeg) (xs (x4 + 2).toNatClampNeg) hM hc133) (wX6_score hts q5_61 ⟨Nat.le_of_ble_eq_true rfl, Nat.le_of_ble_eq_true rfl⟩) hK hW hS (va_recv hK.1 (hW.one hM.1) (ci := 6) (q0 := 0) rfl rfl) rfl hl.1 rfl (Nat.le_of_ble_eq_true rfl) dL_law_1008 ⟨by show _ ≤ 601024; omega, by show _ ≤ 7293034; omega⟩ (fun H locs hW hS => ?_)
  exact xL_law_c1011 hst C0 (by omega) (by omega) hcR hsR hk23 x4 xs0 ((fX6_score r2 (xs (x4 + 1).toNatClampNeg) (xs (x4 + 2).toNatClampNeg) h).1) ((fX6_score r2 (xs (x4 + 1).toNatClampNeg) (xs (x4 + 2).toNatClampNeg) h).2) _ _ _ (lv_sub hl [1, 2, 3, 4, 5, 0] rfl) hW hS hs
def sL_law_c1067 (a r2 r3 L : Nat) (xs : Nat → Int32) (K23 : Int32 → HH → Prop) (x4 : Int32) (x5 : Int32) (xs0 : Int32) (h : HH) : Prop := ((fX6_thrown r2 h) = x5 → ((x5 = 0 → (((lg_cmp (LJ (h r3 0) (h r3 1)) xs0.toInt64) = 0 → (sL_law_c1432 a r2 r3 L xs K23 x4 h)) ∧ (¬ ((lg_cmp (LJ (h r3 0) (h r3 1)) xs0.toInt64) = 0) → False))) ∧ (¬ (x5 = 0) → (sL_law_c1432 a r2 r3 L xs K23 x4 h)))) ∧ (¬ ((fX6_thrown r2 h) = x5) → False)
set_option maxRecDepth 100000 in
set_option maxHeartbeats 4000000 in
theorem xL_law_c1067 {p : Program} {l : Launch} {e : Env} {s : State} {m : MethodId} {below : List Frame} {meth : Method} {c : Code} {X : Cx} {a r2 r3 b L : Nat} {xs : Nat → Int32} (hst : l.stackTraces = false) (C0 : CL p s m meth c X b L xs a r2 r3) {K23 : Int32 → HH → Prop} {cells slots cB sB : Nat} (hcB : cells ≤ cB) (hsB : slots ≤ sB) (hcR : cB ≤ 601024) (hsR : sB ≤ 7293034) (hk23 : ∀ (x4 : Int32) (h : HH) (H : Heap) (locs : List Loc) (ls : Array Slot), lv_has ls 7 [(0, .ref b), (1, .ref a), (2, .ref r2), (3, .ref r3), (4, .int x4)] → WH X h H → va_S (xA X) s.heap H locs → K23 x4 h → W p l e room_1 s m #[Value.ref b] below meth c H locs cB sB (lw_Z below #[Value.ref b] s) (F0 m 23 ls [])) (x4 : Int32) (x5 : Int32) (xs0 : Int32) (h : HH) (H : Heap) (locs : List Loc) (ls : Array Slot) (hl : lv_has ls 7 [(0, .ref b), (1, .ref a), (2, .ref r2), (3, .ref r3), (4, .int x4), (5, .int x5)]) (hW : WH X h H) (hS : va_S (xA X) s.heap H locs) (hs : sL_law_c1067 a r2 r3 L xs K23 x4 x5 xs0 h) : W p l e room_1 s m #[Value.ref b] below meth c H locs cells slots (lw_Z below #[Value.ref b] s) (F0 m 1067 ls [.int xs0]) := by
  obtain ⟨hx, hb, hr, hlk, hml, hown, hts, hK, hX9, hbl, hz9, hO, hM, hJ⟩ := id C0
  have hbA : ¬ xA X b := by show ¬ xz X ≤ b; rw [hz9]; omega
  refine lv_istore (lv' := [(6, .int xs0), (0, .ref b), (1, .ref a), (2, .ref r2), (3, .ref r3), (4, .int x4), (5, .int x5)]) hx hb dL_law_1067 hl (by decide) rfl (fun ls hl => ?_)
  refine lv_aload_n hx hb dL_law_1069 rfl (lv_at hl 3 rfl) ?_
  refine kV_i (As := []) (rest := []) ⟨hx, hb, hml, hown, hts⟩ (kX6_thrown l X h r2 hM) (wX6_thrown hts q4_80 ⟨Nat.le_of_ble_eq_true rfl, Nat.le_of_ble_eq_true rfl⟩) hK hW hS (va_recv hK.1 (hW.one hM.1) (ci := 6) (q0 := 0) rfl rfl) rfl hl.1 rfl (Nat.le_of_ble_eq_true rfl) dL_law_1070 ⟨by show _ ≤ 601024; omega, by show _ ≤ 7293034; omega⟩ (fun H locs hW hS => ?_)
  refine lv_iload hx hb dL_law_1073 (lv_at hl 6 rfl) ?_
  refine lv_icmp_eq (tgt := 1080) hx hb dL_law_1075 (by decide) (fun c142 => ?_) (fun c142 => ?_)
  · have hs := And.left hs c142
    refine lv_iload hx hb dL_law_1080 (lv_at hl 6 rfl) ?_
    refine lv_if_ne (tgt := 1097) hx hb dL_law_1082 (by decide) (fun c143 => ?_) (fun c143 => ?_)
    · have hs := And.right hs c143
      refine lv_goto (tgt := 1432) hx hb dL_law_1097 (by decide) ?_
      exact xL_law_c1432 hst C0 (by omega) (by omega) hcR hsR hk23 x4 h _ _ _ (lv_sub hl [1, 2, 3, 4, 5] rfl) hW hS hs
    · have hs := And.left hs c143
      refine lv_aload_n hx hb dL_law_1085 rfl (lv_at hl 4 rfl) ?_
      refine lv_iconst (v := 0) hx hb dL_law_1086 (by decide) ?_
      refine kb_lald hx hb hK hW hJ dL_law_1087 ?_
      refine lv_iload hx hb dL_law_1088 (lv_at hl 0 rfl) ?_
      refine lv_i2l hx hb dL_law_1090 rfl ?_
      refine W.lcmp hx hb dL_law_1091 ?_
      refine lv_if_eq (tgt := 1097) hx hb dL_law_1092 (by decide) (fun c144 => ?_) (fun c144 => ?_)
      · have hs := And.left hs c144
        refine lv_goto (tgt := 1432) hx hb dL_law_1097 (by decide) ?_
        exact xL_law_c1432 hst C0 (by omega) (by omega) hcR hsR hk23 x4 h _ _ _ (lv_sub hl [1, 2, 3, 4, 5] rfl) hW hS hs
      · have hs := And.right hs c144
        refine lv_iconst (v := 0) hx hb dL_law_1095 (by decide) ?_
        exact hs.elim
  · have hs := And.right hs c142
    refine lv_iconst (v := 0) hx hb dL_law_1078 (by decide) ?_
    exact hs.elim
def sL_law_c1055 (a r2 r3 L : Nat) (xs : Nat → Int32) (K23 : Int32 → HH → Prop) (x4 : Int32) (xs0 : Int32) (h : HH) : Prop := (vp_in (x4 + 1) L) ∧ ((sX6_rank r2 (xs (x4 + 1).toNatClampNeg) h) ∧ (sL_law_c1067 a r2 r3 L xs K23 x4 xs0 ((fX6_rank r2 (xs (x4 + 1).toNatClampNeg) h).1) ((fX6_rank r2 (xs (x4 + 1).toNatClampNeg) h).2)))
set_option maxRecDepth 100000 in
set_option maxHeartbeats 4000000 in
theorem xL_law_c1055 {p : Program} {l : Launch} {e : Env} {s : State} {m : MethodId} {below : List Frame} {meth : Method} {c : Code} {X : Cx} {a r2 r3 b L : Nat} {xs : Nat → Int32} (hst : l.stackTraces = false) (C0 : CL p s m meth c X b L xs a r2 r3) {K23 : Int32 → HH → Prop} {cells slots cB sB : Nat} (hcB : cells ≤ cB) (hsB : slots ≤ sB) (hcR : cB ≤ 601024) (hsR : sB ≤ 7293034) (hk23 : ∀ (x4 : Int32) (h : HH) (H : Heap) (locs : List Loc) (ls : Array Slot), lv_has ls 7 [(0, .ref b), (1, .ref a), (2, .ref r2), (3, .ref r3), (4, .int x4)] → WH X h H → va_S (xA X) s.heap H locs → K23 x4 h → W p l e room_1 s m #[Value.ref b] below meth c H locs cB sB (lw_Z below #[Value.ref b] s) (F0 m 23 ls [])) (x4 : Int32) (xs0 : Int32) (h : HH) (H : Heap) (locs : List Loc) (ls : Array Slot) (hl : lv_has ls 7 [(0, .ref b), (1, .ref a), (2, .ref r2), (3, .ref r3), (4, .int x4)]) (hW : WH X h H) (hS : va_S (xA X) s.heap H locs) (hs : sL_law_c1055 a r2 r3 L xs K23 x4 xs0 h) : W p l e room_1 s m #[Value.ref b] below meth c H locs cells slots (lw_Z below #[Value.ref b] s) (F0 m 1055 ls [.int xs0]) := by
  obtain ⟨hx, hb, hr, hlk, hml, hown, hts, hK, hX9, hbl, hz9, hO, hM, hJ⟩ := id C0
  have hbA : ¬ xA X b := by show ¬ xz X ≤ b; rw [hz9]; omega
  refine lv_istore (lv' := [(5, .int xs0), (0, .ref b), (1, .ref a), (2, .ref r2), (3, .ref r3), (4, .int x4)]) hx hb dL_law_1055 hl (by decide) rfl (fun ls hl => ?_)
  refine lv_aload_n hx hb dL_law_1057 rfl (lv_at hl 3 rfl) ?_
  refine lv_aload_n hx hb dL_law_1058 rfl (lv_at hl 1 rfl) ?_
  refine lv_iload hx hb dL_law_1059 (lv_at hl 5 rfl) ?_
  refine lv_iconst (v := 1) hx hb dL_law_1061 (by decide) ?_
  refine lv_iadd hx hb dL_law_1062 ?_
  obtain ⟨hi140, hs⟩ := hs
  refine va_sld hx hb hX9 hbl hbA hS hi140 dL_law_1063 ?_
  obtain ⟨hc141, hs⟩ := hs
  refine kV_i (As := [.int (xs (x4 + 1).toNatClampNeg)]) (rest := []) ⟨hx, hb, hml, hown, hts⟩ (kX6_rank l X h r2 (xs (x4 + 1).toNatClampNeg) hM hc141) (wX6_rank hts q5_65 ⟨Nat.le_of_ble_eq_true rfl, Nat.le_of_ble_eq_true rfl⟩) hK hW hS (va_recv hK.1 (hW.one hM.1) (ci := 6) (q0 := 0) rfl rfl) rfl hl.1 rfl (Nat.le_of_ble_eq_true rfl) dL_law_1064 ⟨by show _ ≤ 601024; omega, by show _ ≤ 7293034; omega⟩ (fun H locs hW hS => ?_)
  exact xL_law_c1067 hst C0 (by omega) (by omega) hcR hsR hk23 x4 xs0 ((fX6_rank r2 (xs (x4 + 1).toNatClampNeg) h).1) ((fX6_rank r2 (xs (x4 + 1).toNatClampNeg) h).2) _ _ _ (lv_sub hl [1, 2, 3, 4, 5, 0] rfl) hW hS hs
def sL_law_c1108 (a r2 r3 L : Nat) (xs : Nat → Int32) (K23 : Int32 → HH → Prop) (x4 : Int32) (xs0 : Int32) (xs1 : Int32) (h : HH) : Prop := (xs1 = xs0 → (sL_law_c1432v1 a r2 r3 L xs K23 x4 h)) ∧ (¬ (xs1 = xs0) → False)
set_option maxRecDepth 100000 in
set_option maxHeartbeats 4000000 in
theorem xL_law_c1108 {p : Program} {l : Launch} {e : Env} {s : State} {m : MethodId} {below : List Frame} {meth : Method} {c : Code} {X : Cx} {a r2 r3 b L : Nat} {xs : Nat → Int32} (hst : l.stackTraces = false) (C0 : CL p s m meth c X b L xs a r2 r3) {K23 : Int32 → HH → Prop} {cells slots cB sB : Nat} (hcB : cells + 3 ≤ cB) (hsB : slots + 18 ≤ sB) (hcR : cB ≤ 601024) (hsR : sB ≤ 7293034) (hk23 : ∀ (x4 : Int32) (h : HH) (H : Heap) (locs : List Loc) (ls : Array Slot), lv_has ls 7 [(0, .ref b), (1, .ref a), (2, .ref r2), (3, .ref r3), (4, .int x4)] → WH X h H → va_S (xA X) s.heap H locs → K23 x4 h → W p l e room_1 s m #[Value.ref b] below meth c H locs cB sB (lw_Z below #[Value.ref b] s) (F0 m 23 ls [])) (x4 : Int32) (xs0 : Int32) (xs1 : Int32) (h : HH) (H : Heap) (locs : List Loc) (ls : Array Slot) (hl : lv_has ls 7 [(0, .ref b), (1, .ref a), (2, .ref r2), (3, .ref r3), (4, .int x4)]) (hW : WH X h H) (hS : va_S (xA X) s.heap H locs) (hs : sL_law_c1108 a r2 r3 L xs K23 x4 xs0 xs1 h) : W p l e room_1 s m #[Value.ref b] below meth c H locs cells slots (lw_Z below #[Value.ref b] s) (F0 m 1108 ls [.int xs0, .int xs1]) := by
  obtain ⟨hx, hb, hr, hlk, hml, hown, hts, hK, hX9, hbl, hz9, hO, hM, hJ⟩ := id C0
  have hbA : ¬ xA X b := by show ¬ xz X ≤ b; rw [hz9]; omega
  refine lv_icmp_eq (tgt := 1432) hx hb dL_law_1108 (by decide) (fun c148 => ?_) (fun c148 => ?_)
  · have hs := And.left hs c148
    exact xL_law_c1432v1 hst C0 (by omega) (by omega) hcR hsR hk23 x4 h _ _ _ (lv_sub hl [0, 1, 2, 3, 4] rfl) hW hS hs
  · have hs := And.right hs c148
    refine lv_iconst (v := 0) hx hb dL_law_1111 (by decide) ?_
    exact hs.elim
def sL_law_c1104 (a r2 r3 L : Nat) (xs : Nat → Int32) (K23 : Int32 → HH → Prop) (x4 : Int32) (xs0 : Int32) (h : HH) : Prop := (sX6_possible r2 h) ∧ (sL_law_c1108 a r2 r3 L xs K23 x4 ((fX6_possible r2 h).1) xs0 ((fX6_possible r2 h).2))
set_option maxRecDepth 100000 in
set_option maxHeartbeats 4000000 in
theorem xL_law_c1104 {p : Program} {l : Launch} {e : Env} {s : State} {m : MethodId} {below : List Frame} {meth : Method} {c : Code} {X : Cx} {a r2 r3 b L : Nat} {xs : Nat → Int32} (hst : l.stackTraces = false) (C0 : CL p s m meth c X b L xs a r2 r3) {K23 : Int32 → HH → Prop} {cells slots cB sB : Nat} (hcB : cells + 3 ≤ cB) (hsB : slots + 18 ≤ sB) (hcR : cB ≤ 601024) (hsR : sB ≤ 7293034) (hk23 : ∀ (x4 : Int32) (h : HH) (H : Heap) (locs : List Loc) (ls : Array Slot), lv_has ls 7 [(0, .ref b), (1, .ref a), (2, .ref r2), (3, .ref r3), (4, .int x4)] → WH X h H → va_S (xA X) s.heap H locs → K23 x4 h → W p l e room_1 s m #[Value.ref b] below meth c H locs cB sB (lw_Z below #[Value.ref b] s) (F0 m 23 ls [])) (x4 : Int32) (xs0 : Int32) (h : HH) (H : Heap) (locs : List Loc) (ls : Array Slot) (hl : lv_has ls 7 [(0, .ref b), (1, .ref a), (2, .ref r2), (3, .ref r3), (4, .int x4)]) (hW : WH X h H) (hS : va_S (xA X) s.heap H locs) (hs : sL_law_c1104 a r2 r3 L xs K23 x4 xs0 h) : W p l e room_1 s m #[Value.ref b] below meth c H locs cells slots (lw_Z below #[Value.ref b] s) (F0 m 1104 ls [.int xs0]) := by
  obtain ⟨hx, hb, hr, hlk, hml, hown, hts, hK, hX9, hbl, hz9, hO, hM, hJ⟩ := id C0
  have hbA : ¬ xA X b := by show ¬ xz X ≤ b; rw [hz9]; omega
  refine lv_aload_n hx hb dL_law_1104 rfl (lv_at hl 2 rfl) ?_
  obtain ⟨hc147, hs⟩ := hs
  refine kV_i (As := []) (rest := [.int xs0]) ⟨hx, hb, hml, hown, hts⟩ (kX6_possible l X h r2 hM hc147) (wX6_possible hts q5_73 ⟨Nat.le_of_ble_eq_true rfl, Nat.le_of_ble_eq_true rfl⟩) hK hW hS (va_recv hK.1 (hW.one hM.1) (ci := 6) (q0 := 0) rfl rfl) rfl hl.1 rfl (Nat.le_of_ble_eq_true rfl) dL_law_1105 ⟨by show _ ≤ 601024; omega, by show _ ≤ 7293034; omega⟩ (fun H locs hW hS => ?_)
  exact xL_law_c1108 hst C0 (by omega) (by omega) hcR hsR hk23 x4 ((fX6_possible r2 h).1) xs0 ((fX6_possible r2 h).2) _ _ _ (lv_sub hl [0, 1, 2, 3, 4] rfl) hW hS hs
def sL_law_c1136 (a r2 r3 L : Nat) (xs : Nat → Int32) (K23 : Int32 → HH → Prop) (x4 : Int32) (x5 : Int32) (xs0 : Int32) (h : HH) : Prop := ((fX6_thrown r2 h) = x5 → ((x5 = 0 → (((lg_cmp (LJ (h r3 0) (h r3 1)) xs0.toInt64) = 0 → (sL_law_c1432 a r2 r3 L xs K23 x4 h)) ∧ (¬ ((lg_cmp (LJ (h r3 0) (h r3 1)) xs0.toInt64) = 0) → False))) ∧ (¬ (x5 = 0) → (sL_law_c1432 a r2 r3 L xs K23 x4 h)))) ∧ (¬ ((fX6_thrown r2 h) = x5) → False)
set_option maxRecDepth 100000 in
set_option maxHeartbeats 4000000 in
theorem xL_law_c1136 {p : Program} {l : Launch} {e : Env} {s : State} {m : MethodId} {below : List Frame} {meth : Method} {c : Code} {X : Cx} {a r2 r3 b L : Nat} {xs : Nat → Int32} (hst : l.stackTraces = false) (C0 : CL p s m meth c X b L xs a r2 r3) {K23 : Int32 → HH → Prop} {cells slots cB sB : Nat} (hcB : cells ≤ cB) (hsB : slots ≤ sB) (hcR : cB ≤ 601024) (hsR : sB ≤ 7293034) (hk23 : ∀ (x4 : Int32) (h : HH) (H : Heap) (locs : List Loc) (ls : Array Slot), lv_has ls 7 [(0, .ref b), (1, .ref a), (2, .ref r2), (3, .ref r3), (4, .int x4)] → WH X h H → va_S (xA X) s.heap H locs → K23 x4 h → W p l e room_1 s m #[Value.ref b] below meth c H locs cB sB (lw_Z below #[Value.ref b] s) (F0 m 23 ls [])) (x4 : Int32) (x5 : Int32) (xs0 : Int32) (h : HH) (H : Heap) (locs : List Loc) (ls : Array Slot) (hl : lv_has ls 7 [(0, .ref b), (1, .ref a), (2, .ref r2), (3, .ref r3), (4, .int x4), (5, .int x5)]) (hW : WH X h H) (hS : va_S (xA X) s.heap H locs) (hs : sL_law_c1136 a r2 r3 L xs K23 x4 x5 xs0 h) : W p l e room_1 s m #[Value.ref b] below meth c H locs cells slots (lw_Z below #[Value.ref b] s) (F0 m 1136 ls [.int xs0]) := by
  obtain ⟨hx, hb, hr, hlk, hml, hown, hts, hK, hX9, hbl, hz9, hO, hM, hJ⟩ := id C0
  have hbA : ¬ xA X b := by show ¬ xz X ≤ b; rw [hz9]; omega
  refine lv_istore (lv' := [(6, .int xs0), (0, .ref b), (1, .ref a), (2, .ref r2), (3, .ref r3), (4, .int x4), (5, .int x5)]) hx hb dL_law_1136 hl (by decide) rfl (fun ls hl => ?_)
  refine lv_aload_n hx hb dL_law_1138 rfl (lv_at hl 3 rfl) ?_
  refine kV_i (As := []) (rest := []) ⟨hx, hb, hml, hown, hts⟩ (kX6_thrown l X h r2 hM) (wX6_thrown hts q4_80 ⟨Nat.le_of_ble_eq_true rfl, Nat.le_of_ble_eq_true rfl⟩) hK hW hS (va_recv hK.1 (hW.one hM.1) (ci := 6) (q0 := 0) rfl rfl) rfl hl.1 rfl (Nat.le_of_ble_eq_true rfl) dL_law_1139 ⟨by show _ ≤ 601024; omega, by show _ ≤ 7293034; omega⟩ (fun H locs hW hS => ?_)
  refine lv_iload hx hb dL_law_1142 (lv_at hl 6 rfl) ?_
  refine lv_icmp_eq (tgt := 1149) hx hb dL_law_1144 (by decide) (fun c154 => ?_) (fun c154 => ?_)
  · have hs := And.left hs c154
    refine lv_iload hx hb dL_law_1149 (lv_at hl 6 rfl) ?_
    refine lv_if_ne (tgt := 1166) hx hb dL_law_1151 (by decide) (fun c155 => ?_) (fun c155 => ?_)
    · have hs := And.right hs c155
      refine lv_goto (tgt := 1432) hx hb dL_law_1166 (by decide) ?_
      exact xL_law_c1432 hst C0 (by omega) (by omega) hcR hsR hk23 x4 h _ _ _ (lv_sub hl [1, 2, 3, 4, 5] rfl) hW hS hs
    · have hs := And.left hs c155
      refine lv_aload_n hx hb dL_law_1154 rfl (lv_at hl 4 rfl) ?_
      refine lv_iconst (v := 0) hx hb dL_law_1155 (by decide) ?_
      refine kb_lald hx hb hK hW hJ dL_law_1156 ?_
      refine lv_iload hx hb dL_law_1157 (lv_at hl 0 rfl) ?_
      refine lv_i2l hx hb dL_law_1159 rfl ?_
      refine W.lcmp hx hb dL_law_1160 ?_
      refine lv_if_eq (tgt := 1166) hx hb dL_law_1161 (by decide) (fun c156 => ?_) (fun c156 => ?_)
      · have hs := And.left hs c156
        refine lv_goto (tgt := 1432) hx hb dL_law_1166 (by decide) ?_
        exact xL_law_c1432 hst C0 (by omega) (by omega) hcR hsR hk23 x4 h _ _ _ (lv_sub hl [1, 2, 3, 4, 5] rfl) hW hS hs
      · have hs := And.right hs c156
        refine lv_iconst (v := 0) hx hb dL_law_1164 (by decide) ?_
        exact hs.elim
  · have hs := And.right hs c154
    refine lv_iconst (v := 0) hx hb dL_law_1147 (by decide) ?_
    exact hs.elim
def sL_law_c1124 (a r2 r3 L : Nat) (xs : Nat → Int32) (K23 : Int32 → HH → Prop) (x4 : Int32) (xs0 : Int32) (h : HH) : Prop := (vp_in (x4 + 1) L) ∧ ((sX6_option r2 (xs (x4 + 1).toNatClampNeg) h) ∧ (sL_law_c1136 a r2 r3 L xs K23 x4 xs0 ((fX6_option r2 (xs (x4 + 1).toNatClampNeg) h).1) ((fX6_option r2 (xs (x4 + 1).toNatClampNeg) h).2)))
set_option maxRecDepth 100000 in
set_option maxHeartbeats 4000000 in
theorem xL_law_c1124 {p : Program} {l : Launch} {e : Env} {s : State} {m : MethodId} {below : List Frame} {meth : Method} {c : Code} {X : Cx} {a r2 r3 b L : Nat} {xs : Nat → Int32} (hst : l.stackTraces = false) (C0 : CL p s m meth c X b L xs a r2 r3) {K23 : Int32 → HH → Prop} {cells slots cB sB : Nat} (hcB : cells ≤ cB) (hsB : slots ≤ sB) (hcR : cB ≤ 601024) (hsR : sB ≤ 7293034) (hk23 : ∀ (x4 : Int32) (h : HH) (H : Heap) (locs : List Loc) (ls : Array Slot), lv_has ls 7 [(0, .ref b), (1, .ref a), (2, .ref r2), (3, .ref r3), (4, .int x4)] → WH X h H → va_S (xA X) s.heap H locs → K23 x4 h → W p l e room_1 s m #[Value.ref b] below meth c H locs cB sB (lw_Z below #[Value.ref b] s) (F0 m 23 ls [])) (x4 : Int32) (xs0 : Int32) (h : HH) (H : Heap) (locs : List Loc) (ls : Array Slot) (hl : lv_has ls 7 [(0, .ref b), (1, .ref a), (2, .ref r2), (3, .ref r3), (4, .int x4)]) (hW : WH X h H) (hS : va_S (xA X) s.heap H locs) (hs : sL_law_c1124 a r2 r3 L xs K23 x4 xs0 h) : W p l e room_1 s m #[Value.ref b] below meth c H locs cells slots (lw_Z below #[Value.ref b] s) (F0 m 1124 ls [.int xs0]) := by
  obtain ⟨hx, hb, hr, hlk, hml, hown, hts, hK, hX9, hbl, hz9, hO, hM, hJ⟩ := id C0
  have hbA : ¬ xA X b := by show ¬ xz X ≤ b; rw [hz9]; omega
  refine lv_istore (lv' := [(5, .int xs0), (0, .ref b), (1, .ref a), (2, .ref r2), (3, .ref r3), (4, .int x4)]) hx hb dL_law_1124 hl (by decide) rfl (fun ls hl => ?_)
  refine lv_aload_n hx hb dL_law_1126 rfl (lv_at hl 3 rfl) ?_
  refine lv_aload_n hx hb dL_law_1127 rfl (lv_at hl 1 rfl) ?_
  refine lv_iload hx hb dL_law_1128 (lv_at hl 5 rfl) ?_
  refine lv_iconst (v := 1) hx hb dL_law_1130 (by decide) ?_
  refine lv_iadd hx hb dL_law_1131 ?_
  obtain ⟨hi152, hs⟩ := hs
  refine va_sld hx hb hX9 hbl hbA hS hi152 dL_law_1132 ?_
  obtain ⟨hc153, hs⟩ := hs
  refine kV_i (As := [.int (xs (x4 + 1).toNatClampNeg)]) (rest := []) ⟨hx, hb, hml, hown, hts⟩ (kX6_option l X h r2 (xs (x4 + 1).toNatClampNeg) hM hc153) (wX6_option hts q5_81 ⟨Nat.le_of_ble_eq_true rfl, Nat.le_of_ble_eq_true rfl⟩) hK hW hS (va_recv hK.1 (hW.one hM.1) (ci := 6) (q0 := 0) rfl rfl) rfl hl.1 rfl (Nat.le_of_ble_eq_true rfl) dL_law_1133 ⟨by show _ ≤ 601024; omega, by show _ ≤ 7293034; omega⟩ (fun H locs hW hS => ?_)
  exact xL_law_c1136 hst C0 (by omega) (by omega) hcR hsR hk23 x4 xs0 ((fX6_option r2 (xs (x4 + 1).toNatClampNeg) h).1) ((fX6_option r2 (xs (x4 + 1).toNatClampNeg) h).2) _ _ _ (lv_sub hl [1, 2, 3, 4, 5, 0] rfl) hW hS hs
def sL_law_c1192 (a r2 r3 L : Nat) (xs : Nat → Int32) (K23 : Int32 → HH → Prop) (x4 : Int32) (x5 : Int32) (xs0 : Int32) (h : HH) : Prop := ((fX6_thrown r2 h) = x5 → ((x5 = 0 → (((lg_cmp (LJ (h r3 0) (h r3 1)) xs0.toInt64) = 0 → (sL_law_c1432 a r2 r3 L xs K23 x4 h)) ∧ (¬ ((lg_cmp (LJ (h r3 0) (h r3 1)) xs0.toInt64) = 0) → False))) ∧ (¬ (x5 = 0) → (sL_law_c1432 a r2 r3 L xs K23 x4 h)))) ∧ (¬ ((fX6_thrown r2 h) = x5) → False)
set_option maxRecDepth 100000 in
set_option maxHeartbeats 4000000 in
theorem xL_law_c1192 {p : Program} {l : Launch} {e : Env} {s : State} {m : MethodId} {below : List Frame} {meth : Method} {c : Code} {X : Cx} {a r2 r3 b L : Nat} {xs : Nat → Int32} (hst : l.stackTraces = false) (C0 : CL p s m meth c X b L xs a r2 r3) {K23 : Int32 → HH → Prop} {cells slots cB sB : Nat} (hcB : cells ≤ cB) (hsB : slots ≤ sB) (hcR : cB ≤ 601024) (hsR : sB ≤ 7293034) (hk23 : ∀ (x4 : Int32) (h : HH) (H : Heap) (locs : List Loc) (ls : Array Slot), lv_has ls 7 [(0, .ref b), (1, .ref a), (2, .ref r2), (3, .ref r3), (4, .int x4)] → WH X h H → va_S (xA X) s.heap H locs → K23 x4 h → W p l e room_1 s m #[Value.ref b] below meth c H locs cB sB (lw_Z below #[Value.ref b] s) (F0 m 23 ls [])) (x4 : Int32) (x5 : Int32) (xs0 : Int32) (h : HH) (H : Heap) (locs : List Loc) (ls : Array Slot) (hl : lv_has ls 7 [(0, .ref b), (1, .ref a), (2, .ref r2), (3, .ref r3), (4, .int x4), (5, .int x5)]) (hW : WH X h H) (hS : va_S (xA X) s.heap H locs) (hs : sL_law_c1192 a r2 r3 L xs K23 x4 x5 xs0 h) : W p l e room_1 s m #[Value.ref b] below meth c H locs cells slots (lw_Z below #[Value.ref b] s) (F0 m 1192 ls [.int xs0]) := by
  obtain ⟨hx, hb, hr, hlk, hml, hown, hts, hK, hX9, hbl, hz9, hO, hM, hJ⟩ := id C0
  have hbA : ¬ xA X b := by show ¬ xz X ≤ b; rw [hz9]; omega
  refine lv_istore (lv' := [(6, .int xs0), (0, .ref b), (1, .ref a), (2, .ref r2), (3, .ref r3), (4, .int x4), (5, .int x5)]) hx hb dL_law_1192 hl (by decide) rfl (fun ls hl => ?_)
  refine lv_aload_n hx hb dL_law_1194 rfl (lv_at hl 3 rfl) ?_
  refine kV_i (As := []) (rest := []) ⟨hx, hb, hml, hown, hts⟩ (kX6_thrown l X h r2 hM) (wX6_thrown hts q4_80 ⟨Nat.le_of_ble_eq_true rfl, Nat.le_of_ble_eq_true rfl⟩) hK hW hS (va_recv hK.1 (hW.one hM.1) (ci := 6) (q0 := 0) rfl rfl) rfl hl.1 rfl (Nat.le_of_ble_eq_true rfl) dL_law_1195 ⟨by show _ ≤ 601024; omega, by show _ ≤ 7293034; omega⟩ (fun H locs hW hS => ?_)
  refine lv_iload hx hb dL_law_1198 (lv_at hl 6 rfl) ?_
  refine lv_icmp_eq (tgt := 1205) hx hb dL_law_1200 (by decide) (fun c162 => ?_) (fun c162 => ?_)
  · have hs := And.left hs c162
    refine lv_iload hx hb dL_law_1205 (lv_at hl 6 rfl) ?_
    refine lv_if_ne (tgt := 1222) hx hb dL_law_1207 (by decide) (fun c163 => ?_) (fun c163 => ?_)
    · have hs := And.right hs c163
      refine lv_goto (tgt := 1432) hx hb dL_law_1222 (by decide) ?_
      exact xL_law_c1432 hst C0 (by omega) (by omega) hcR hsR hk23 x4 h _ _ _ (lv_sub hl [1, 2, 3, 4, 5] rfl) hW hS hs
    · have hs := And.left hs c163
      refine lv_aload_n hx hb dL_law_1210 rfl (lv_at hl 4 rfl) ?_
      refine lv_iconst (v := 0) hx hb dL_law_1211 (by decide) ?_
      refine kb_lald hx hb hK hW hJ dL_law_1212 ?_
      refine lv_iload hx hb dL_law_1213 (lv_at hl 0 rfl) ?_
      refine lv_i2l hx hb dL_law_1215 rfl ?_
      refine W.lcmp hx hb dL_law_1216 ?_
      refine lv_if_eq (tgt := 1222) hx hb dL_law_1217 (by decide) (fun c164 => ?_) (fun c164 => ?_)
      · have hs := And.left hs c164
        refine lv_goto (tgt := 1432) hx hb dL_law_1222 (by decide) ?_
        exact xL_law_c1432 hst C0 (by omega) (by omega) hcR hsR hk23 x4 h _ _ _ (lv_sub hl [1, 2, 3, 4, 5] rfl) hW hS hs
      · have hs := And.right hs c164
        refine lv_iconst (v := 0) hx hb dL_law_1220 (by decide) ?_
        exact hs.elim
  · have hs := And.right hs c162
    refine lv_iconst (v := 0) hx hb dL_law_1203 (by decide) ?_
    exact hs.elim
def sL_law_c1180 (a r2 r3 L : Nat) (xs : Nat → Int32) (K23 : Int32 → HH → Prop) (x4 : Int32) (xs0 : Int32) (h : HH) : Prop := (vp_in (x4 + 1) L) ∧ ((sX6_bestScore r2 (xs (x4 + 1).toNatClampNeg) h) ∧ (sL_law_c1192 a r2 r3 L xs K23 x4 xs0 ((fX6_bestScore r2 (xs (x4 + 1).toNatClampNeg) h).1) ((fX6_bestScore r2 (xs (x4 + 1).toNatClampNeg) h).2)))
set_option maxRecDepth 100000 in
set_option maxHeartbeats 4000000 in
theorem xL_law_c1180 {p : Program} {l : Launch} {e : Env} {s : State} {m : MethodId} {below : List Frame} {meth : Method} {c : Code} {X : Cx} {a r2 r3 b L : Nat} {xs : Nat → Int32} (hst : l.stackTraces = false) (C0 : CL p s m meth c X b L xs a r2 r3) {K23 : Int32 → HH → Prop} {cells slots cB sB : Nat} (hcB : cells ≤ cB) (hsB : slots ≤ sB) (hcR : cB ≤ 601024) (hsR : sB ≤ 7293034) (hk23 : ∀ (x4 : Int32) (h : HH) (H : Heap) (locs : List Loc) (ls : Array Slot), lv_has ls 7 [(0, .ref b), (1, .ref a), (2, .ref r2), (3, .ref r3), (4, .int x4)] → WH X h H → va_S (xA X) s.heap H locs → K23 x4 h → W p l e room_1 s m #[Value.ref b] below meth c H locs cB sB (lw_Z below #[Value.ref b] s) (F0 m 23 ls [])) (x4 : Int32) (xs0 : Int32) (h : HH) (H : Heap) (locs : List Loc) (ls : Array Slot) (hl : lv_has ls 7 [(0, .ref b), (1, .ref a), (2, .ref r2), (3, .ref r3), (4, .int x4)]) (hW : WH X h H) (hS : va_S (xA X) s.heap H locs) (hs : sL_law_c1180 a r2 r3 L xs K23 x4 xs0 h) : W p l e room_1 s m #[Value.ref b] below meth c H locs cells slots (lw_Z below #[Value.ref b] s) (F0 m 1180 ls [.int xs0]) := by
  obtain ⟨hx, hb, hr, hlk, hml, hown, hts, hK, hX9, hbl, hz9, hO, hM, hJ⟩ := id C0
  have hbA : ¬ xA X b := by show ¬ xz X ≤ b; rw [hz9]; omega
  refine lv_istore (lv' := [(5, .int xs0), (0, .ref b), (1, .ref a), (2, .ref r2), (3, .ref r3), (4, .int x4)]) hx hb dL_law_1180 hl (by decide) rfl (fun ls hl => ?_)
  refine lv_aload_n hx hb dL_law_1182 rfl (lv_at hl 3 rfl) ?_
  refine lv_aload_n hx hb dL_law_1183 rfl (lv_at hl 1 rfl) ?_
  refine lv_iload hx hb dL_law_1184 (lv_at hl 5 rfl) ?_
  refine lv_iconst (v := 1) hx hb dL_law_1186 (by decide) ?_
  refine lv_iadd hx hb dL_law_1187 ?_
  obtain ⟨hi160, hs⟩ := hs
  refine va_sld hx hb hX9 hbl hbA hS hi160 dL_law_1188 ?_
  obtain ⟨hc161, hs⟩ := hs
  refine kV_i (As := [.int (xs (x4 + 1).toNatClampNeg)]) (rest := []) ⟨hx, hb, hml, hown, hts⟩ (kX6_bestScore l X h r2 (xs (x4 + 1).toNatClampNeg) hM hc161) (wX6_bestScore hts q5_88 ⟨Nat.le_of_ble_eq_true rfl, Nat.le_of_ble_eq_true rfl⟩) hK hW hS (va_recv hK.1 (hW.one hM.1) (ci := 6) (q0 := 0) rfl rfl) rfl hl.1 rfl (Nat.le_of_ble_eq_true rfl) dL_law_1189 ⟨by show _ ≤ 601024; omega, by show _ ≤ 7293034; omega⟩ (fun H locs hW hS => ?_)
  exact xL_law_c1192 hst C0 (by omega) (by omega) hcR hsR hk23 x4 xs0 ((fX6_bestScore r2 (xs (x4 + 1).toNatClampNeg) h).1) ((fX6_bestScore r2 (xs (x4 + 1).toNatClampNeg) h).2) _ _ _ (lv_sub hl [1, 2, 3, 4, 5, 0] rfl) hW hS hs
def sL_law_c1260 (a r2 r3 L : Nat) (xs : Nat → Int32) (K23 : Int32 → HH → Prop) (x4 : Int32) (x5 : Int32) (xs0 : Int32) (h : HH) : Prop := ((fX6_thrown r2 h) = x5 → ((x5 = 0 → (((lg_cmp (LJ (h r3 0) (h r3 1)) xs0.toInt64) = 0 → (sL_law_c1432 a r2 r3 L xs K23 x4 h)) ∧ (¬ ((lg_cmp (LJ (h r3 0) (h r3 1)) xs0.toInt64) = 0) → False))) ∧ (¬ (x5 = 0) → (sL_law_c1432 a r2 r3 L xs K23 x4 h)))) ∧ (¬ ((fX6_thrown r2 h) = x5) → False)
set_option maxRecDepth 100000 in
set_option maxHeartbeats 4000000 in
theorem xL_law_c1260 {p : Program} {l : Launch} {e : Env} {s : State} {m : MethodId} {below : List Frame} {meth : Method} {c : Code} {X : Cx} {a r2 r3 b L : Nat} {xs : Nat → Int32} (hst : l.stackTraces = false) (C0 : CL p s m meth c X b L xs a r2 r3) {K23 : Int32 → HH → Prop} {cells slots cB sB : Nat} (hcB : cells ≤ cB) (hsB : slots ≤ sB) (hcR : cB ≤ 601024) (hsR : sB ≤ 7293034) (hk23 : ∀ (x4 : Int32) (h : HH) (H : Heap) (locs : List Loc) (ls : Array Slot), lv_has ls 7 [(0, .ref b), (1, .ref a), (2, .ref r2), (3, .ref r3), (4, .int x4)] → WH X h H → va_S (xA X) s.heap H locs → K23 x4 h → W p l e room_1 s m #[Value.ref b] below meth c H locs cB sB (lw_Z below #[Value.ref b] s) (F0 m 23 ls [])) (x4 : Int32) (x5 : Int32) (xs0 : Int32) (h : HH) (H : Heap) (locs : List Loc) (ls : Array Slot) (hl : lv_has ls 7 [(0, .ref b), (1, .ref a), (2, .ref r2), (3, .ref r3), (4, .int x4), (5, .int x5)]) (hW : WH X h H) (hS : va_S (xA X) s.heap H locs) (hs : sL_law_c1260 a r2 r3 L xs K23 x4 x5 xs0 h) : W p l e room_1 s m #[Value.ref b] below meth c H locs cells slots (lw_Z below #[Value.ref b] s) (F0 m 1260 ls [.int xs0]) := by
  obtain ⟨hx, hb, hr, hlk, hml, hown, hts, hK, hX9, hbl, hz9, hO, hM, hJ⟩ := id C0
  have hbA : ¬ xA X b := by show ¬ xz X ≤ b; rw [hz9]; omega
  refine lv_istore (lv' := [(6, .int xs0), (0, .ref b), (1, .ref a), (2, .ref r2), (3, .ref r3), (4, .int x4), (5, .int x5)]) hx hb dL_law_1260 hl (by decide) rfl (fun ls hl => ?_)
  refine lv_aload_n hx hb dL_law_1262 rfl (lv_at hl 3 rfl) ?_
  refine kV_i (As := []) (rest := []) ⟨hx, hb, hml, hown, hts⟩ (kX6_thrown l X h r2 hM) (wX6_thrown hts q4_80 ⟨Nat.le_of_ble_eq_true rfl, Nat.le_of_ble_eq_true rfl⟩) hK hW hS (va_recv hK.1 (hW.one hM.1) (ci := 6) (q0 := 0) rfl rfl) rfl hl.1 rfl (Nat.le_of_ble_eq_true rfl) dL_law_1263 ⟨by show _ ≤ 601024; omega, by show _ ≤ 7293034; omega⟩ (fun H locs hW hS => ?_)
  refine lv_iload hx hb dL_law_1266 (lv_at hl 6 rfl) ?_
  refine lv_icmp_eq (tgt := 1273) hx hb dL_law_1268 (by decide) (fun c172 => ?_) (fun c172 => ?_)
  · have hs := And.left hs c172
    refine lv_iload hx hb dL_law_1273 (lv_at hl 6 rfl) ?_
    refine lv_if_ne (tgt := 1290) hx hb dL_law_1275 (by decide) (fun c173 => ?_) (fun c173 => ?_)
    · have hs := And.right hs c173
      refine lv_goto (tgt := 1432) hx hb dL_law_1290 (by decide) ?_
      exact xL_law_c1432 hst C0 (by omega) (by omega) hcR hsR hk23 x4 h _ _ _ (lv_sub hl [1, 2, 3, 4, 5] rfl) hW hS hs
    · have hs := And.left hs c173
      refine lv_aload_n hx hb dL_law_1278 rfl (lv_at hl 4 rfl) ?_
      refine lv_iconst (v := 0) hx hb dL_law_1279 (by decide) ?_
      refine kb_lald hx hb hK hW hJ dL_law_1280 ?_
      refine lv_iload hx hb dL_law_1281 (lv_at hl 0 rfl) ?_
      refine lv_i2l hx hb dL_law_1283 rfl ?_
      refine W.lcmp hx hb dL_law_1284 ?_
      refine lv_if_eq (tgt := 1290) hx hb dL_law_1285 (by decide) (fun c174 => ?_) (fun c174 => ?_)
      · have hs := And.left hs c174
        refine lv_goto (tgt := 1432) hx hb dL_law_1290 (by decide) ?_
        exact xL_law_c1432 hst C0 (by omega) (by omega) hcR hsR hk23 x4 h _ _ _ (lv_sub hl [1, 2, 3, 4, 5] rfl) hW hS hs
      · have hs := And.right hs c174
        refine lv_iconst (v := 0) hx hb dL_law_1288 (by decide) ?_
        exact hs.elim
  · have hs := And.right hs c172
    refine lv_iconst (v := 0) hx hb dL_law_1271 (by decide) ?_
    exact hs.elim
def sL_law_c1242 (a r2 r3 L : Nat) (xs : Nat → Int32) (K23 : Int32 → HH → Prop) (x4 : Int32) (xs0 : Int32) (h : HH) : Prop := (vp_in (x4 + 1) L) ∧ ((vp_in (x4 + 2) L) ∧ ((sX6_bestPlacement r2 (xs (x4 + 1).toNatClampNeg) (xs (x4 + 2).toNatClampNeg) h) ∧ (sL_law_c1260 a r2 r3 L xs K23 x4 xs0 ((fX6_bestPlacement r2 (xs (x4 + 1).toNatClampNeg) (xs (x4 + 2).toNatClampNeg) h).1) ((fX6_bestPlacement r2 (xs (x4 + 1).toNatClampNeg) (xs (x4 + 2).toNatClampNeg) h).2))))
set_option maxRecDepth 100000 in
set_option maxHeartbeats 4000000 in
theorem xL_law_c1242 {p : Program} {l : Launch} {e : Env} {s : State} {m : MethodId} {below : List Frame} {meth : Method} {c : Code} {X : Cx} {a r2 r3 b L : Nat} {xs : Nat → Int32} (hst : l.stackTraces = false) (C0 : CL p s m meth c X b L xs a r2 r3) {K23 : Int32 → HH → Prop} {cells slots cB sB : Nat} (hcB : cells ≤ cB) (hsB : slots ≤ sB) (hcR : cB ≤ 601024) (hsR : sB ≤ 7293034) (hk23 : ∀ (x4 : Int32) (h : HH) (H : Heap) (locs : List Loc) (ls : Array Slot), lv_has ls 7 [(0, .ref b), (1, .ref a), (2, .ref r2), (3, .ref r3), (4, .int x4)] → WH X h H → va_S (xA X) s.heap H locs → K23 x4 h → W p l e room_1 s m #[Value.ref b] below meth c H locs cB sB (lw_Z below #[Value.ref b] s) (F0 m 23 ls [])) (x4 : Int32) (xs0 : Int32) (h : HH) (H : Heap) (locs : List Loc) (ls : Array Slot) (hl : lv_has ls 7 [(0, .ref b), (1, .ref a), (2, .ref r2), (3, .ref r3), (4, .int x4)]) (hW : WH X h H) (hS : va_S (xA X) s.heap H locs) (hs : sL_law_c1242 a r2 r3 L xs K23 x4 xs0 h) : W p l e room_1 s m #[Value.ref b] below meth c H locs cells slots (lw_Z below #[Value.ref b] s) (F0 m 1242 ls [.int xs0]) := by
  obtain ⟨hx, hb, hr, hlk, hml, hown, hts, hK, hX9, hbl, hz9, hO, hM, hJ⟩ := id C0
  have hbA : ¬ xA X b := by show ¬ xz X ≤ b; rw [hz9]; omega
  refine lv_istore (lv' := [(5, .int xs0), (0, .ref b), (1, .ref a), (2, .ref r2), (3, .ref r3), (4, .int x4)]) hx hb dL_law_1242 hl (by decide) rfl (fun ls hl => ?_)
  refine lv_aload_n hx hb dL_law_1244 rfl (lv_at hl 3 rfl) ?_
  refine lv_aload_n hx hb dL_law_1245 rfl (lv_at hl 1 rfl) ?_
  refine lv_iload hx hb dL_law_1246 (lv_at hl 5 rfl) ?_
  refine lv_iconst (v := 1) hx hb dL_law_1248 (by decide) ?_
  refine lv_iadd hx hb dL_law_1249 ?_
  obtain ⟨hi169, hs⟩ := hs
  refine va_sld hx hb hX9 hbl hbA hS hi169 dL_law_1250 ?_
  refine lv_aload_n hx hb dL_law_1251 rfl (lv_at hl 1 rfl) ?_
  refine lv_iload hx hb dL_law_1252 (lv_at hl 5 rfl) ?_
  refine lv_iconst (v := 2) hx hb dL_law_1254 (by decide) ?_
  refine lv_iadd hx hb dL_law_1255 ?_
  obtain ⟨hi170, hs⟩ := hs
  refine va_sld hx hb hX9 hbl hbA hS hi170 dL_law_1256 ?_
  obtain ⟨hc171, hs⟩ := hs
  refine kV_i (As := [.int (xs (x4 + 1).toNatClampNeg), .int (xs (x4 + 2).toNatClampNeg)]) (rest := []) ⟨hx, hb, hml, hown, hts⟩ (kX6_bestPlacement l X h r2 (xs (x4 + 1).toNatClampNeg) (xs (x4 + 2).toNatClampNeg) hM hc171) (wX6_bestPlacement hts q5_96 ⟨Nat.le_of_ble_eq_true rfl, Nat.le_of_ble_eq_true rfl⟩) hK hW hS (va_recv hK.1 (hW.one hM.1) (ci := 6) (q0 := 0) rfl rfl) rfl hl.1 rfl (Nat.le_of_ble_eq_true rfl) dL_law_1257 ⟨by show _ ≤ 601024; omega, by show _ ≤ 7293034; omega⟩ (fun H locs hW hS => ?_)
  exact xL_law_c1260 hst C0 (by omega) (by omega) hcR hsR hk23 x4 xs0 ((fX6_bestPlacement r2 (xs (x4 + 1).toNatClampNeg) (xs (x4 + 2).toNatClampNeg) h).1) ((fX6_bestPlacement r2 (xs (x4 + 1).toNatClampNeg) (xs (x4 + 2).toNatClampNeg) h).2) _ _ _ (lv_sub hl [1, 2, 3, 4, 5, 0] rfl) hW hS hs
def sL_law_c1301 (a r2 r3 L : Nat) (xs : Nat → Int32) (K23 : Int32 → HH → Prop) (x4 : Int32) (xs0 : Int32) (xs1 : Int32) (h : HH) : Prop := (xs1 = xs0 → (sL_law_c1432v1 a r2 r3 L xs K23 x4 h)) ∧ (¬ (xs1 = xs0) → False)
set_option maxRecDepth 100000 in
set_option maxHeartbeats 4000000 in
theorem xL_law_c1301 {p : Program} {l : Launch} {e : Env} {s : State} {m : MethodId} {below : List Frame} {meth : Method} {c : Code} {X : Cx} {a r2 r3 b L : Nat} {xs : Nat → Int32} (hst : l.stackTraces = false) (C0 : CL p s m meth c X b L xs a r2 r3) {K23 : Int32 → HH → Prop} {cells slots cB sB : Nat} (hcB : cells + 3 ≤ cB) (hsB : slots + 18 ≤ sB) (hcR : cB ≤ 601024) (hsR : sB ≤ 7293034) (hk23 : ∀ (x4 : Int32) (h : HH) (H : Heap) (locs : List Loc) (ls : Array Slot), lv_has ls 7 [(0, .ref b), (1, .ref a), (2, .ref r2), (3, .ref r3), (4, .int x4)] → WH X h H → va_S (xA X) s.heap H locs → K23 x4 h → W p l e room_1 s m #[Value.ref b] below meth c H locs cB sB (lw_Z below #[Value.ref b] s) (F0 m 23 ls [])) (x4 : Int32) (xs0 : Int32) (xs1 : Int32) (h : HH) (H : Heap) (locs : List Loc) (ls : Array Slot) (hl : lv_has ls 7 [(0, .ref b), (1, .ref a), (2, .ref r2), (3, .ref r3), (4, .int x4)]) (hW : WH X h H) (hS : va_S (xA X) s.heap H locs) (hs : sL_law_c1301 a r2 r3 L xs K23 x4 xs0 xs1 h) : W p l e room_1 s m #[Value.ref b] below meth c H locs cells slots (lw_Z below #[Value.ref b] s) (F0 m 1301 ls [.int xs0, .int xs1]) := by
  obtain ⟨hx, hb, hr, hlk, hml, hown, hts, hK, hX9, hbl, hz9, hO, hM, hJ⟩ := id C0
  have hbA : ¬ xA X b := by show ¬ xz X ≤ b; rw [hz9]; omega
  refine lv_icmp_eq (tgt := 1432) hx hb dL_law_1301 (by decide) (fun c177 => ?_) (fun c177 => ?_)
  · have hs := And.left hs c177
    exact xL_law_c1432v1 hst C0 (by omega) (by omega) hcR hsR hk23 x4 h _ _ _ (lv_sub hl [0, 1, 2, 3, 4] rfl) hW hS hs
  · have hs := And.right hs c177
    refine lv_iconst (v := 0) hx hb dL_law_1304 (by decide) ?_
    exact hs.elim
def sL_law_c1341 (a r2 r3 L : Nat) (xs : Nat → Int32) (K23 : Int32 → HH → Prop) (x4 : Int32) (x5 : Int32) (xs0 : Int32) (h : HH) : Prop := ((fX6_thrown r2 h) = x5 → ((x5 = 0 → (((lg_cmp (LJ (h r3 0) (h r3 1)) xs0.toInt64) = 0 → (sL_law_c1432 a r2 r3 L xs K23 x4 h)) ∧ (¬ ((lg_cmp (LJ (h r3 0) (h r3 1)) xs0.toInt64) = 0) → False))) ∧ (¬ (x5 = 0) → (sL_law_c1432 a r2 r3 L xs K23 x4 h)))) ∧ (¬ ((fX6_thrown r2 h) = x5) → False)
set_option maxRecDepth 100000 in
set_option maxHeartbeats 4000000 in
theorem xL_law_c1341 {p : Program} {l : Launch} {e : Env} {s : State} {m : MethodId} {below : List Frame} {meth : Method} {c : Code} {X : Cx} {a r2 r3 b L : Nat} {xs : Nat → Int32} (hst : l.stackTraces = false) (C0 : CL p s m meth c X b L xs a r2 r3) {K23 : Int32 → HH → Prop} {cells slots cB sB : Nat} (hcB : cells ≤ cB) (hsB : slots ≤ sB) (hcR : cB ≤ 601024) (hsR : sB ≤ 7293034) (hk23 : ∀ (x4 : Int32) (h : HH) (H : Heap) (locs : List Loc) (ls : Array Slot), lv_has ls 7 [(0, .ref b), (1, .ref a), (2, .ref r2), (3, .ref r3), (4, .int x4)] → WH X h H → va_S (xA X) s.heap H locs → K23 x4 h → W p l e room_1 s m #[Value.ref b] below meth c H locs cB sB (lw_Z below #[Value.ref b] s) (F0 m 23 ls [])) (x4 : Int32) (x5 : Int32) (xs0 : Int32) (h : HH) (H : Heap) (locs : List Loc) (ls : Array Slot) (hl : lv_has ls 7 [(0, .ref b), (1, .ref a), (2, .ref r2), (3, .ref r3), (4, .int x4), (5, .int x5)]) (hW : WH X h H) (hS : va_S (xA X) s.heap H locs) (hs : sL_law_c1341 a r2 r3 L xs K23 x4 x5 xs0 h) : W p l e room_1 s m #[Value.ref b] below meth c H locs cells slots (lw_Z below #[Value.ref b] s) (F0 m 1341 ls [.int xs0]) := by
  obtain ⟨hx, hb, hr, hlk, hml, hown, hts, hK, hX9, hbl, hz9, hO, hM, hJ⟩ := id C0
  have hbA : ¬ xA X b := by show ¬ xz X ≤ b; rw [hz9]; omega
  refine lv_istore (lv' := [(6, .int xs0), (0, .ref b), (1, .ref a), (2, .ref r2), (3, .ref r3), (4, .int x4), (5, .int x5)]) hx hb dL_law_1341 hl (by decide) rfl (fun ls hl => ?_)
  refine lv_aload_n hx hb dL_law_1343 rfl (lv_at hl 3 rfl) ?_
  refine kV_i (As := []) (rest := []) ⟨hx, hb, hml, hown, hts⟩ (kX6_thrown l X h r2 hM) (wX6_thrown hts q4_80 ⟨Nat.le_of_ble_eq_true rfl, Nat.le_of_ble_eq_true rfl⟩) hK hW hS (va_recv hK.1 (hW.one hM.1) (ci := 6) (q0 := 0) rfl rfl) rfl hl.1 rfl (Nat.le_of_ble_eq_true rfl) dL_law_1344 ⟨by show _ ≤ 601024; omega, by show _ ≤ 7293034; omega⟩ (fun H locs hW hS => ?_)
  refine lv_iload hx hb dL_law_1347 (lv_at hl 6 rfl) ?_
  refine lv_icmp_eq (tgt := 1354) hx hb dL_law_1349 (by decide) (fun c185 => ?_) (fun c185 => ?_)
  · have hs := And.left hs c185
    refine lv_iload hx hb dL_law_1354 (lv_at hl 6 rfl) ?_
    refine lv_if_ne (tgt := 1371) hx hb dL_law_1356 (by decide) (fun c186 => ?_) (fun c186 => ?_)
    · have hs := And.right hs c186
      refine lv_goto (tgt := 1432) hx hb dL_law_1371 (by decide) ?_
      exact xL_law_c1432 hst C0 (by omega) (by omega) hcR hsR hk23 x4 h _ _ _ (lv_sub hl [1, 2, 3, 4, 5] rfl) hW hS hs
    · have hs := And.left hs c186
      refine lv_aload_n hx hb dL_law_1359 rfl (lv_at hl 4 rfl) ?_
      refine lv_iconst (v := 0) hx hb dL_law_1360 (by decide) ?_
      refine kb_lald hx hb hK hW hJ dL_law_1361 ?_
      refine lv_iload hx hb dL_law_1362 (lv_at hl 0 rfl) ?_
      refine lv_i2l hx hb dL_law_1364 rfl ?_
      refine W.lcmp hx hb dL_law_1365 ?_
      refine lv_if_eq (tgt := 1371) hx hb dL_law_1366 (by decide) (fun c187 => ?_) (fun c187 => ?_)
      · have hs := And.left hs c187
        refine lv_goto (tgt := 1432) hx hb dL_law_1371 (by decide) ?_
        exact xL_law_c1432 hst C0 (by omega) (by omega) hcR hsR hk23 x4 h _ _ _ (lv_sub hl [1, 2, 3, 4, 5] rfl) hW hS hs
      · have hs := And.right hs c187
        refine lv_iconst (v := 0) hx hb dL_law_1369 (by decide) ?_
        exact hs.elim
  · have hs := And.right hs c185
    refine lv_iconst (v := 0) hx hb dL_law_1352 (by decide) ?_
    exact hs.elim
def sL_law_c1323 (a r2 r3 L : Nat) (xs : Nat → Int32) (K23 : Int32 → HH → Prop) (x4 : Int32) (xs0 : Int32) (h : HH) : Prop := (vp_in (x4 + 1) L) ∧ ((vp_in (x4 + 2) L) ∧ ((sX6_move r2 (xs (x4 + 1).toNatClampNeg) (xs (x4 + 2).toNatClampNeg) h) ∧ (sL_law_c1341 a r2 r3 L xs K23 x4 xs0 ((fX6_move r2 (xs (x4 + 1).toNatClampNeg) (xs (x4 + 2).toNatClampNeg) h).1) ((fX6_move r2 (xs (x4 + 1).toNatClampNeg) (xs (x4 + 2).toNatClampNeg) h).2))))
set_option maxRecDepth 100000 in
set_option maxHeartbeats 4000000 in
theorem xL_law_c1323 {p : Program} {l : Launch} {e : Env} {s : State} {m : MethodId} {below : List Frame} {meth : Method} {c : Code} {X : Cx} {a r2 r3 b L : Nat} {xs : Nat → Int32} (hst : l.stackTraces = false) (C0 : CL p s m meth c X b L xs a r2 r3) {K23 : Int32 → HH → Prop} {cells slots cB sB : Nat} (hcB : cells ≤ cB) (hsB : slots ≤ sB) (hcR : cB ≤ 601024) (hsR : sB ≤ 7293034) (hk23 : ∀ (x4 : Int32) (h : HH) (H : Heap) (locs : List Loc) (ls : Array Slot), lv_has ls 7 [(0, .ref b), (1, .ref a), (2, .ref r2), (3, .ref r3), (4, .int x4)] → WH X h H → va_S (xA X) s.heap H locs → K23 x4 h → W p l e room_1 s m #[Value.ref b] below meth c H locs cB sB (lw_Z below #[Value.ref b] s) (F0 m 23 ls [])) (x4 : Int32) (xs0 : Int32) (h : HH) (H : Heap) (locs : List Loc) (ls : Array Slot) (hl : lv_has ls 7 [(0, .ref b), (1, .ref a), (2, .ref r2), (3, .ref r3), (4, .int x4)]) (hW : WH X h H) (hS : va_S (xA X) s.heap H locs) (hs : sL_law_c1323 a r2 r3 L xs K23 x4 xs0 h) : W p l e room_1 s m #[Value.ref b] below meth c H locs cells slots (lw_Z below #[Value.ref b] s) (F0 m 1323 ls [.int xs0]) := by
  obtain ⟨hx, hb, hr, hlk, hml, hown, hts, hK, hX9, hbl, hz9, hO, hM, hJ⟩ := id C0
  have hbA : ¬ xA X b := by show ¬ xz X ≤ b; rw [hz9]; omega
  refine lv_istore (lv' := [(5, .int xs0), (0, .ref b), (1, .ref a), (2, .ref r2), (3, .ref r3), (4, .int x4)]) hx hb dL_law_1323 hl (by decide) rfl (fun ls hl => ?_)
  refine lv_aload_n hx hb dL_law_1325 rfl (lv_at hl 3 rfl) ?_
  refine lv_aload_n hx hb dL_law_1326 rfl (lv_at hl 1 rfl) ?_
  refine lv_iload hx hb dL_law_1327 (lv_at hl 5 rfl) ?_
  refine lv_iconst (v := 1) hx hb dL_law_1329 (by decide) ?_
  refine lv_iadd hx hb dL_law_1330 ?_
  obtain ⟨hi182, hs⟩ := hs
  refine va_sld hx hb hX9 hbl hbA hS hi182 dL_law_1331 ?_
  refine lv_aload_n hx hb dL_law_1332 rfl (lv_at hl 1 rfl) ?_
  refine lv_iload hx hb dL_law_1333 (lv_at hl 5 rfl) ?_
  refine lv_iconst (v := 2) hx hb dL_law_1335 (by decide) ?_
  refine lv_iadd hx hb dL_law_1336 ?_
  obtain ⟨hi183, hs⟩ := hs
  refine va_sld hx hb hX9 hbl hbA hS hi183 dL_law_1337 ?_
  obtain ⟨hc184, hs⟩ := hs
  refine kV_i (As := [.int (xs (x4 + 1).toNatClampNeg), .int (xs (x4 + 2).toNatClampNeg)]) (rest := []) ⟨hx, hb, hml, hown, hts⟩ (kX6_move l X h r2 (xs (x4 + 1).toNatClampNeg) (xs (x4 + 2).toNatClampNeg) hM hc184) (wX6_move hts q5_108 ⟨Nat.le_of_ble_eq_true rfl, Nat.le_of_ble_eq_true rfl⟩) hK hW hS (va_recv hK.1 (hW.one hM.1) (ci := 6) (q0 := 0) rfl rfl) rfl hl.1 rfl (Nat.le_of_ble_eq_true rfl) dL_law_1338 ⟨by show _ ≤ 601024; omega, by show _ ≤ 7293034; omega⟩ (fun H locs hW hS => ?_)
  exact xL_law_c1341 hst C0 (by omega) (by omega) hcR hsR hk23 x4 xs0 ((fX6_move r2 (xs (x4 + 1).toNatClampNeg) (xs (x4 + 2).toNatClampNeg) h).1) ((fX6_move r2 (xs (x4 + 1).toNatClampNeg) (xs (x4 + 2).toNatClampNeg) h).2) _ _ _ (lv_sub hl [1, 2, 3, 4, 5, 0] rfl) hW hS hs
def sL_law_c1385 (a r2 r3 L : Nat) (xs : Nat → Int32) (K23 : Int32 → HH → Prop) (x4 : Int32) (x5 : Int32) (xs0 : Int32) (h : HH) : Prop := ((fX6_thrown r2 h) = x5 → ((x5 = 0 → (((lg_cmp (LJ (h r3 0) (h r3 1)) xs0.toInt64) = 0 → (sL_law_c1432 a r2 r3 L xs K23 x4 h)) ∧ (¬ ((lg_cmp (LJ (h r3 0) (h r3 1)) xs0.toInt64) = 0) → False))) ∧ (¬ (x5 = 0) → (sL_law_c1432 a r2 r3 L xs K23 x4 h)))) ∧ (¬ ((fX6_thrown r2 h) = x5) → False)
set_option maxRecDepth 100000 in
set_option maxHeartbeats 4000000 in
theorem xL_law_c1385 {p : Program} {l : Launch} {e : Env} {s : State} {m : MethodId} {below : List Frame} {meth : Method} {c : Code} {X : Cx} {a r2 r3 b L : Nat} {xs : Nat → Int32} (hst : l.stackTraces = false) (C0 : CL p s m meth c X b L xs a r2 r3) {K23 : Int32 → HH → Prop} {cells slots cB sB : Nat} (hcB : cells ≤ cB) (hsB : slots ≤ sB) (hcR : cB ≤ 601024) (hsR : sB ≤ 7293034) (hk23 : ∀ (x4 : Int32) (h : HH) (H : Heap) (locs : List Loc) (ls : Array Slot), lv_has ls 7 [(0, .ref b), (1, .ref a), (2, .ref r2), (3, .ref r3), (4, .int x4)] → WH X h H → va_S (xA X) s.heap H locs → K23 x4 h → W p l e room_1 s m #[Value.ref b] below meth c H locs cB sB (lw_Z below #[Value.ref b] s) (F0 m 23 ls [])) (x4 : Int32) (x5 : Int32) (xs0 : Int32) (h : HH) (H : Heap) (locs : List Loc) (ls : Array Slot) (hl : lv_has ls 7 [(0, .ref b), (1, .ref a), (2, .ref r2), (3, .ref r3), (4, .int x4), (5, .int x5)]) (hW : WH X h H) (hS : va_S (xA X) s.heap H locs) (hs : sL_law_c1385 a r2 r3 L xs K23 x4 x5 xs0 h) : W p l e room_1 s m #[Value.ref b] below meth c H locs cells slots (lw_Z below #[Value.ref b] s) (F0 m 1385 ls [.int xs0]) := by
  obtain ⟨hx, hb, hr, hlk, hml, hown, hts, hK, hX9, hbl, hz9, hO, hM, hJ⟩ := id C0
  have hbA : ¬ xA X b := by show ¬ xz X ≤ b; rw [hz9]; omega
  refine lv_istore (lv' := [(6, .int xs0), (0, .ref b), (1, .ref a), (2, .ref r2), (3, .ref r3), (4, .int x4), (5, .int x5)]) hx hb dL_law_1385 hl (by decide) rfl (fun ls hl => ?_)
  refine lv_aload_n hx hb dL_law_1387 rfl (lv_at hl 3 rfl) ?_
  refine kV_i (As := []) (rest := []) ⟨hx, hb, hml, hown, hts⟩ (kX6_thrown l X h r2 hM) (wX6_thrown hts q4_80 ⟨Nat.le_of_ble_eq_true rfl, Nat.le_of_ble_eq_true rfl⟩) hK hW hS (va_recv hK.1 (hW.one hM.1) (ci := 6) (q0 := 0) rfl rfl) rfl hl.1 rfl (Nat.le_of_ble_eq_true rfl) dL_law_1388 ⟨by show _ ≤ 601024; omega, by show _ ≤ 7293034; omega⟩ (fun H locs hW hS => ?_)
  refine lv_iload hx hb dL_law_1391 (lv_at hl 6 rfl) ?_
  refine lv_icmp_eq (tgt := 1398) hx hb dL_law_1393 (by decide) (fun c191 => ?_) (fun c191 => ?_)
  · have hs := And.left hs c191
    refine lv_iload hx hb dL_law_1398 (lv_at hl 6 rfl) ?_
    refine lv_if_ne (tgt := 1415) hx hb dL_law_1400 (by decide) (fun c192 => ?_) (fun c192 => ?_)
    · have hs := And.right hs c192
      refine lv_goto (tgt := 1432) hx hb dL_law_1415 (by decide) ?_
      exact xL_law_c1432 hst C0 (by omega) (by omega) hcR hsR hk23 x4 h _ _ _ (lv_sub hl [1, 2, 3, 4, 5] rfl) hW hS hs
    · have hs := And.left hs c192
      refine lv_aload_n hx hb dL_law_1403 rfl (lv_at hl 4 rfl) ?_
      refine lv_iconst (v := 0) hx hb dL_law_1404 (by decide) ?_
      refine kb_lald hx hb hK hW hJ dL_law_1405 ?_
      refine lv_iload hx hb dL_law_1406 (lv_at hl 0 rfl) ?_
      refine lv_i2l hx hb dL_law_1408 rfl ?_
      refine W.lcmp hx hb dL_law_1409 ?_
      refine lv_if_eq (tgt := 1415) hx hb dL_law_1410 (by decide) (fun c193 => ?_) (fun c193 => ?_)
      · have hs := And.left hs c193
        refine lv_goto (tgt := 1432) hx hb dL_law_1415 (by decide) ?_
        exact xL_law_c1432 hst C0 (by omega) (by omega) hcR hsR hk23 x4 h _ _ _ (lv_sub hl [1, 2, 3, 4, 5] rfl) hW hS hs
      · have hs := And.right hs c193
        refine lv_iconst (v := 0) hx hb dL_law_1413 (by decide) ?_
        exact hs.elim
  · have hs := And.right hs c191
    refine lv_iconst (v := 0) hx hb dL_law_1396 (by decide) ?_
    exact hs.elim
def sL_law_c1379 (a r2 r3 L : Nat) (xs : Nat → Int32) (K23 : Int32 → HH → Prop) (x4 : Int32) (xs0 : Int32) (h : HH) : Prop := (sX6_undo r2 h) ∧ (sL_law_c1385 a r2 r3 L xs K23 x4 xs0 ((fX6_undo r2 h).1) ((fX6_undo r2 h).2))
set_option maxRecDepth 100000 in
set_option maxHeartbeats 4000000 in
theorem xL_law_c1379 {p : Program} {l : Launch} {e : Env} {s : State} {m : MethodId} {below : List Frame} {meth : Method} {c : Code} {X : Cx} {a r2 r3 b L : Nat} {xs : Nat → Int32} (hst : l.stackTraces = false) (C0 : CL p s m meth c X b L xs a r2 r3) {K23 : Int32 → HH → Prop} {cells slots cB sB : Nat} (hcB : cells ≤ cB) (hsB : slots ≤ sB) (hcR : cB ≤ 601024) (hsR : sB ≤ 7293034) (hk23 : ∀ (x4 : Int32) (h : HH) (H : Heap) (locs : List Loc) (ls : Array Slot), lv_has ls 7 [(0, .ref b), (1, .ref a), (2, .ref r2), (3, .ref r3), (4, .int x4)] → WH X h H → va_S (xA X) s.heap H locs → K23 x4 h → W p l e room_1 s m #[Value.ref b] below meth c H locs cB sB (lw_Z below #[Value.ref b] s) (F0 m 23 ls [])) (x4 : Int32) (xs0 : Int32) (h : HH) (H : Heap) (locs : List Loc) (ls : Array Slot) (hl : lv_has ls 7 [(0, .ref b), (1, .ref a), (2, .ref r2), (3, .ref r3), (4, .int x4)]) (hW : WH X h H) (hS : va_S (xA X) s.heap H locs) (hs : sL_law_c1379 a r2 r3 L xs K23 x4 xs0 h) : W p l e room_1 s m #[Value.ref b] below meth c H locs cells slots (lw_Z below #[Value.ref b] s) (F0 m 1379 ls [.int xs0]) := by
  obtain ⟨hx, hb, hr, hlk, hml, hown, hts, hK, hX9, hbl, hz9, hO, hM, hJ⟩ := id C0
  have hbA : ¬ xA X b := by show ¬ xz X ≤ b; rw [hz9]; omega
  refine lv_istore (lv' := [(5, .int xs0), (0, .ref b), (1, .ref a), (2, .ref r2), (3, .ref r3), (4, .int x4)]) hx hb dL_law_1379 hl (by decide) rfl (fun ls hl => ?_)
  refine lv_aload_n hx hb dL_law_1381 rfl (lv_at hl 3 rfl) ?_
  obtain ⟨hc190, hs⟩ := hs
  refine kV_i (As := []) (rest := []) ⟨hx, hb, hml, hown, hts⟩ (kX6_undo l X h r2 hM hc190) (wX6_undo hts q4_84 ⟨Nat.le_of_ble_eq_true rfl, Nat.le_of_ble_eq_true rfl⟩) hK hW hS (va_recv hK.1 (hW.one hM.1) (ci := 6) (q0 := 0) rfl rfl) rfl hl.1 rfl (Nat.le_of_ble_eq_true rfl) dL_law_1382 ⟨by show _ ≤ 601024; omega, by show _ ≤ 7293034; omega⟩ (fun H locs hW hS => ?_)
  exact xL_law_c1385 hst C0 (by omega) (by omega) hcR hsR hk23 x4 xs0 ((fX6_undo r2 h).1) ((fX6_undo r2 h).2) _ _ _ (lv_sub hl [1, 2, 3, 4, 5, 0] rfl) hW hS hs
def sL_law_c1426 (a r2 r3 L : Nat) (xs : Nat → Int32) (K23 : Int32 → HH → Prop) (x4 : Int32) (ys0 : Int64) (ys1 : Int64) (h : HH) : Prop := ((lg_cmp ys1 ys0) = 0 → (sL_law_c1432v1 a r2 r3 L xs K23 x4 h)) ∧ (¬ ((lg_cmp ys1 ys0) = 0) → False)
set_option maxRecDepth 100000 in
set_option maxHeartbeats 4000000 in
theorem xL_law_c1426 {p : Program} {l : Launch} {e : Env} {s : State} {m : MethodId} {below : List Frame} {meth : Method} {c : Code} {X : Cx} {a r2 r3 b L : Nat} {xs : Nat → Int32} (hst : l.stackTraces = false) (C0 : CL p s m meth c X b L xs a r2 r3) {K23 : Int32 → HH → Prop} {cells slots cB sB : Nat} (hcB : cells + 3 ≤ cB) (hsB : slots + 18 ≤ sB) (hcR : cB ≤ 601024) (hsR : sB ≤ 7293034) (hk23 : ∀ (x4 : Int32) (h : HH) (H : Heap) (locs : List Loc) (ls : Array Slot), lv_has ls 7 [(0, .ref b), (1, .ref a), (2, .ref r2), (3, .ref r3), (4, .int x4)] → WH X h H → va_S (xA X) s.heap H locs → K23 x4 h → W p l e room_1 s m #[Value.ref b] below meth c H locs cB sB (lw_Z below #[Value.ref b] s) (F0 m 23 ls [])) (x4 : Int32) (ys0 : Int64) (ys1 : Int64) (h : HH) (H : Heap) (locs : List Loc) (ls : Array Slot) (hl : lv_has ls 7 [(0, .ref b), (1, .ref a), (2, .ref r2), (3, .ref r3), (4, .int x4)]) (hW : WH X h H) (hS : va_S (xA X) s.heap H locs) (hs : sL_law_c1426 a r2 r3 L xs K23 x4 ys0 ys1 h) : W p l e room_1 s m #[Value.ref b] below meth c H locs cells slots (lw_Z below #[Value.ref b] s) (F0 m 1426 ls [.long ys0, .long ys1]) := by
  obtain ⟨hx, hb, hr, hlk, hml, hown, hts, hK, hX9, hbl, hz9, hO, hM, hJ⟩ := id C0
  have hbA : ¬ xA X b := by show ¬ xz X ≤ b; rw [hz9]; omega
  refine W.lcmp hx hb dL_law_1426 ?_
  refine lv_if_eq (tgt := 1432) hx hb dL_law_1427 (by decide) (fun c197 => ?_) (fun c197 => ?_)
  · have hs := And.left hs c197
    exact xL_law_c1432v1 hst C0 (by omega) (by omega) hcR hsR hk23 x4 h _ _ _ (lv_sub hl [0, 1, 2, 3, 4] rfl) hW hS hs
  · have hs := And.right hs c197
    refine lv_iconst (v := 0) hx hb dL_law_1430 (by decide) ?_
    exact hs.elim
def sL_law_c1422 (a r2 r3 L : Nat) (xs : Nat → Int32) (K23 : Int32 → HH → Prop) (x4 : Int32) (ys0 : Int64) (h : HH) : Prop := (sX6_digest r2 h) ∧ (sL_law_c1426 a r2 r3 L xs K23 x4 ((fX6_digest r2 h).1) ys0 ((fX6_digest r2 h).2))
set_option maxRecDepth 100000 in
set_option maxHeartbeats 4000000 in
theorem xL_law_c1422 {p : Program} {l : Launch} {e : Env} {s : State} {m : MethodId} {below : List Frame} {meth : Method} {c : Code} {X : Cx} {a r2 r3 b L : Nat} {xs : Nat → Int32} (hst : l.stackTraces = false) (C0 : CL p s m meth c X b L xs a r2 r3) {K23 : Int32 → HH → Prop} {cells slots cB sB : Nat} (hcB : cells + 3 ≤ cB) (hsB : slots + 18 ≤ sB) (hcR : cB ≤ 601024) (hsR : sB ≤ 7293034) (hk23 : ∀ (x4 : Int32) (h : HH) (H : Heap) (locs : List Loc) (ls : Array Slot), lv_has ls 7 [(0, .ref b), (1, .ref a), (2, .ref r2), (3, .ref r3), (4, .int x4)] → WH X h H → va_S (xA X) s.heap H locs → K23 x4 h → W p l e room_1 s m #[Value.ref b] below meth c H locs cB sB (lw_Z below #[Value.ref b] s) (F0 m 23 ls [])) (x4 : Int32) (ys0 : Int64) (h : HH) (H : Heap) (locs : List Loc) (ls : Array Slot) (hl : lv_has ls 7 [(0, .ref b), (1, .ref a), (2, .ref r2), (3, .ref r3), (4, .int x4)]) (hW : WH X h H) (hS : va_S (xA X) s.heap H locs) (hs : sL_law_c1422 a r2 r3 L xs K23 x4 ys0 h) : W p l e room_1 s m #[Value.ref b] below meth c H locs cells slots (lw_Z below #[Value.ref b] s) (F0 m 1422 ls [.long ys0]) := by
  obtain ⟨hx, hb, hr, hlk, hml, hown, hts, hK, hX9, hbl, hz9, hO, hM, hJ⟩ := id C0
  have hbA : ¬ xA X b := by show ¬ xz X ≤ b; rw [hz9]; omega
  refine lv_aload_n hx hb dL_law_1422 rfl (lv_at hl 2 rfl) ?_
  obtain ⟨hc196, hs⟩ := hs
  refine kV_l (As := []) (rest := [.long ys0]) ⟨hx, hb, hml, hown, hts⟩ (kX6_digest l X h r2 hM hc196) (wX6_digest hts q5_112 ⟨Nat.le_of_ble_eq_true rfl, Nat.le_of_ble_eq_true rfl⟩) hK hW hS (va_recv hK.1 (hW.one hM.1) (ci := 6) (q0 := 0) rfl rfl) rfl hl.1 rfl (Nat.le_of_ble_eq_true rfl) dL_law_1423 ⟨by show _ ≤ 601024; omega, by show _ ≤ 7293034; omega⟩ (fun H locs hW hS => ?_)
  exact xL_law_c1426 hst C0 (by omega) (by omega) hcR hsR hk23 x4 ((fX6_digest r2 h).1) ys0 ((fX6_digest r2 h).2) _ _ _ (lv_sub hl [0, 1, 2, 3, 4] rfl) hW hS hs
def sL_law_c23 (a r2 r3 L : Nat) (xs : Nat → Int32) : Nat → Int32 → HH → Prop
  | 0, _, _ => False
  | n + 1, x4, h => (((nI L) - 4) < x4 → True) ∧ (¬ (((nI L) - 4) < x4) → ((vp_in x4 L) ∧ ((((xs x4.toNatClampNeg) &&& 31) = 0 → ((vp_in (x4 + 1) L) ∧ ((vp_in (x4 + 2) L) ∧ ((sL_newGame a (xs (x4 + 1).toNatClampNeg) (xs (x4 + 2).toNatClampNeg) r3 h) ∧ (sL_law_c173 a r2 r3 L xs (sL_law_c23 a r2 r3 L xs n) x4 ((fL_newGame a (xs (x4 + 1).toNatClampNeg) (xs (x4 + 2).toNatClampNeg) r3 h).1) ((fL_newGame a (xs (x4 + 1).toNatClampNeg) (xs (x4 + 2).toNatClampNeg) r3 h).2)))))) ∧ (¬ (((xs x4.toNatClampNeg) &&& 31) = 0) → ((((xs x4.toNatClampNeg) &&& 31) = 1 → ((vp_in (x4 + 1) L) ∧ ((vp_in (x4 + 2) L) ∧ ((sL_reason a (xs (x4 + 1).toNatClampNeg) (xs (x4 + 2).toNatClampNeg) r3 h) ∧ (sL_law_c241 a r2 r3 L xs (sL_law_c23 a r2 r3 L xs n) x4 ((fL_reason a (xs (x4 + 1).toNatClampNeg) (xs (x4 + 2).toNatClampNeg) r3 h).1) ((fL_reason a (xs (x4 + 1).toNatClampNeg) (xs (x4 + 2).toNatClampNeg) r3 h).2)))))) ∧ (¬ (((xs x4.toNatClampNeg) &&& 31) = 1) → ((((xs x4.toNatClampNeg) &&& 31) = 2 → ((vp_in (x4 + 1) L) ∧ ((vp_in (x4 + 2) L) ∧ ((sL_place a (xs (x4 + 1).toNatClampNeg) (xs (x4 + 2).toNatClampNeg) r3 h) ∧ (sL_law_c309 a r2 r3 L xs (sL_law_c23 a r2 r3 L xs n) x4 ((fL_place a (xs (x4 + 1).toNatClampNeg) (xs (x4 + 2).toNatClampNeg) r3 h).1) ((fL_place a (xs (x4 + 1).toNatClampNeg) (xs (x4 + 2).toNatClampNeg) r3 h).2)))))) ∧ (¬ (((xs x4.toNatClampNeg) &&& 31) = 2) → ((((xs x4.toNatClampNeg) &&& 31) = 3 → ((sL_skip a r3 h) ∧ (sL_law_c365 a r2 r3 L xs (sL_law_c23 a r2 r3 L xs n) x4 ((fL_skip a r3 h).1) ((fL_skip a r3 h).2)))) ∧ (¬ (((xs x4.toNatClampNeg) &&& 31) = 3) → ((((xs x4.toNatClampNeg) &&& 31) = 4 → ((vp_in (x4 + 1) L) ∧ ((vp_in (x4 + 2) L) ∧ ((sL_play a (xs (x4 + 1).toNatClampNeg) (xs (x4 + 2).toNatClampNeg) r3 h) ∧ (sL_law_c421 a r2 r3 L xs (sL_law_c23 a r2 r3 L xs n) x4 ((fL_play a (xs (x4 + 1).toNatClampNeg) (xs (x4 + 2).toNatClampNeg) r3 h).1) ((fL_play a (xs (x4 + 1).toNatClampNeg) (xs (x4 + 2).toNatClampNeg) r3 h).2)))))) ∧ (¬ (((xs x4.toNatClampNeg) &&& 31) = 4) → ((((xs x4.toNatClampNeg) &&& 31) = 5 → ((sX6_players r2 h) ∧ (sL_law_c480 a r2 r3 L xs (sL_law_c23 a r2 r3 L xs n) x4 ((fX6_players r2 h).1) (fX5_players a h) ((fX6_players r2 h).2)))) ∧ (¬ (((xs x4.toNatClampNeg) &&& 31) = 5) → ((((xs x4.toNatClampNeg) &&& 31) = 6 → ((sX6_round r2 h) ∧ (sL_law_c493 a r2 r3 L xs (sL_law_c23 a r2 r3 L xs n) x4 ((fX6_round r2 h).1) (fX5_round a h) ((fX6_round r2 h).2)))) ∧ (¬ (((xs x4.toNatClampNeg) &&& 31) = 6) → ((((xs x4.toNatClampNeg) &&& 31) = 7 → ((sX6_inTurn r2 h) ∧ (sL_law_c506 a r2 r3 L xs (sL_law_c23 a r2 r3 L xs n) x4 ((fX6_inTurn r2 h).1) (fX5_inTurn a h) ((fX6_inTurn r2 h).2)))) ∧ (¬ (((xs x4.toNatClampNeg) &&& 31) = 7) → ((((xs x4.toNatClampNeg) &&& 31) = 8 → ((sX6_startPlayer r2 h) ∧ (sL_law_c519 a r2 r3 L xs (sL_law_c23 a r2 r3 L xs n) x4 ((fX6_startPlayer r2 h).1) (fX5_startPlayer a h) ((fX6_startPlayer r2 h).2)))) ∧ (¬ (((xs x4.toNatClampNeg) &&& 31) = 8) → ((((xs x4.toNatClampNeg) &&& 31) = 9 → ((vp_in (x4 + 1) L) ∧ ((vp_in (x4 + 2) L) ∧ ((sL_goods a (xs (x4 + 1).toNatClampNeg) (xs (x4 + 2).toNatClampNeg) r3 h) ∧ (sL_law_c541 a r2 r3 L xs (sL_law_c23 a r2 r3 L xs n) x4 ((fL_goods a (xs (x4 + 1).toNatClampNeg) (xs (x4 + 2).toNatClampNeg) r3 h).1) ((fL_goods a (xs (x4 + 1).toNatClampNeg) (xs (x4 + 2).toNatClampNeg) r3 h).2)))))) ∧ (¬ (((xs x4.toNatClampNeg) &&& 31) = 9) → ((((xs x4.toNatClampNeg) &&& 31) = 10 → ((vp_in (x4 + 1) L) ∧ ((vp_in (x4 + 2) L) ∧ ((sL_player a (xs (x4 + 1).toNatClampNeg) (xs (x4 + 2).toNatClampNeg) r3 h) ∧ (sL_law_c609 a r2 r3 L xs (sL_law_c23 a r2 r3 L xs n) x4 ((fL_player a (xs (x4 + 1).toNatClampNeg) (xs (x4 + 2).toNatClampNeg) r3 h).1) ((fL_player a (xs (x4 + 1).toNatClampNeg) (xs (x4 + 2).toNatClampNeg) r3 h).2)))))) ∧ (¬ (((xs x4.toNatClampNeg) &&& 31) = 10) → ((((xs x4.toNatClampNeg) &&& 31) = 11 → ((vp_in (x4 + 1) L) ∧ ((sL_owner a (xs (x4 + 1).toNatClampNeg) r3 h) ∧ (sL_law_c671 a r2 r3 L xs (sL_law_c23 a r2 r3 L xs n) x4 ((fL_owner a (xs (x4 + 1).toNatClampNeg) r3 h).1) ((fL_owner a (xs (x4 + 1).toNatClampNeg) r3 h).2))))) ∧ (¬ (((xs x4.toNatClampNeg) &&& 31) = 11) → ((((xs x4.toNatClampNeg) &&& 31) = 12 → ((vp_in (x4 + 1) L) ∧ ((vp_in (x4 + 2) L) ∧ ((sL_space a (xs (x4 + 1).toNatClampNeg) (xs (x4 + 2).toNatClampNeg) r3 h) ∧ (sL_law_c733 a r2 r3 L xs (sL_law_c23 a r2 r3 L xs n) x4 ((fL_space a (xs (x4 + 1).toNatClampNeg) (xs (x4 + 2).toNatClampNeg) r3 h).1) ((fL_space a (xs (x4 + 1).toNatClampNeg) (xs (x4 + 2).toNatClampNeg) r3 h).2)))))) ∧ (¬ (((xs x4.toNatClampNeg) &&& 31) = 12) → ((((xs x4.toNatClampNeg) &&& 31) = 13 → ((vp_in (x4 + 1) L) ∧ ((vp_in (x4 + 2) L) ∧ ((vp_in (x4 + 3) L) ∧ ((sL_cost a (xs (x4 + 1).toNatClampNeg) (xs (x4 + 2).toNatClampNeg) (xs (x4 + 3).toNatClampNeg) r3 h) ∧ (sL_law_c807 a r2 r3 L xs (sL_law_c23 a r2 r3 L xs n) x4 ((fL_cost a (xs (x4 + 1).toNatClampNeg) (xs (x4 + 2).toNatClampNeg) (xs (x4 + 3).toNatClampNeg) r3 h).1) ((fL_cost a (xs (x4 + 1).toNatClampNeg) (xs (x4 + 2).toNatClampNeg) (xs (x4 + 3).toNatClampNeg) r3 h).2))))))) ∧ (¬ (((xs x4.toNatClampNeg) &&& 31) = 13) → ((((xs x4.toNatClampNeg) &&& 31) = 14 → ((vp_in (x4 + 1) L) ∧ ((sL_need a (xs (x4 + 1).toNatClampNeg) r3 h) ∧ (sL_law_c875 a r2 r3 L xs (sL_law_c23 a r2 r3 L xs n) x4 ((fL_need a (xs (x4 + 1).toNatClampNeg) r3 h).1) ((fL_need a (xs (x4 + 1).toNatClampNeg) r3 h).2))))) ∧ (¬ (((xs x4.toNatClampNeg) &&& 31) = 14) → ((((xs x4.toNatClampNeg) &&& 31) = 15 → ((vp_in (x4 + 1) L) ∧ ((sL_missing a (xs (x4 + 1).toNatClampNeg) r3 h) ∧ (sL_law_c931 a r2 r3 L xs (sL_law_c23 a r2 r3 L xs n) x4 ((fL_missing a (xs (x4 + 1).toNatClampNeg) r3 h).1) ((fL_missing a (xs (x4 + 1).toNatClampNeg) r3 h).2))))) ∧ (¬ (((xs x4.toNatClampNeg) &&& 31) = 15) → ((((xs x4.toNatClampNeg) &&& 31) = 16 → ((vp_in (x4 + 1) L) ∧ ((vp_in (x4 + 2) L) ∧ ((sL_score a (xs (x4 + 1).toNatClampNeg) (xs (x4 + 2).toNatClampNeg) r3 h) ∧ (sL_law_c993 a r2 r3 L xs (sL_law_c23 a r2 r3 L xs n) x4 ((fL_score a (xs (x4 + 1).toNatClampNeg) (xs (x4 + 2).toNatClampNeg) r3 h).1) ((fL_score a (xs (x4 + 1).toNatClampNeg) (xs (x4 + 2).toNatClampNeg) r3 h).2)))))) ∧ (¬ (((xs x4.toNatClampNeg) &&& 31) = 16) → ((((xs x4.toNatClampNeg) &&& 31) = 17 → ((vp_in (x4 + 1) L) ∧ ((sL_rank a (xs (x4 + 1).toNatClampNeg) r3 h) ∧ (sL_law_c1055 a r2 r3 L xs (sL_law_c23 a r2 r3 L xs n) x4 ((fL_rank a (xs (x4 + 1).toNatClampNeg) r3 h).1) ((fL_rank a (xs (x4 + 1).toNatClampNeg) r3 h).2))))) ∧ (¬ (((xs x4.toNatClampNeg) &&& 31) = 17) → ((((xs x4.toNatClampNeg) &&& 31) = 18 → ((sX5_possible a h) ∧ (sL_law_c1104 a r2 r3 L xs (sL_law_c23 a r2 r3 L xs n) x4 ((fX5_possible a h).1) ((fX5_possible a h).2)))) ∧ (¬ (((xs x4.toNatClampNeg) &&& 31) = 18) → ((((xs x4.toNatClampNeg) &&& 31) = 19 → ((vp_in (x4 + 1) L) ∧ ((sL_option a (xs (x4 + 1).toNatClampNeg) r3 h) ∧ (sL_law_c1124 a r2 r3 L xs (sL_law_c23 a r2 r3 L xs n) x4 ((fL_option a (xs (x4 + 1).toNatClampNeg) r3 h).1) ((fL_option a (xs (x4 + 1).toNatClampNeg) r3 h).2))))) ∧ (¬ (((xs x4.toNatClampNeg) &&& 31) = 19) → ((((xs x4.toNatClampNeg) &&& 31) = 20 → ((vp_in (x4 + 1) L) ∧ ((sL_bestScore a (xs (x4 + 1).toNatClampNeg) r3 h) ∧ (sL_law_c1180 a r2 r3 L xs (sL_law_c23 a r2 r3 L xs n) x4 ((fL_bestScore a (xs (x4 + 1).toNatClampNeg) r3 h).1) ((fL_bestScore a (xs (x4 + 1).toNatClampNeg) r3 h).2))))) ∧ (¬ (((xs x4.toNatClampNeg) &&& 31) = 20) → ((((xs x4.toNatClampNeg) &&& 31) = 21 → ((vp_in (x4 + 1) L) ∧ ((vp_in (x4 + 2) L) ∧ ((sL_bestPlacement a (xs (x4 + 1).toNatClampNeg) (xs (x4 + 2).toNatClampNeg) r3 h) ∧ (sL_law_c1242 a r2 r3 L xs (sL_law_c23 a r2 r3 L xs n) x4 ((fL_bestPlacement a (xs (x4 + 1).toNatClampNeg) (xs (x4 + 2).toNatClampNeg) r3 h).1) ((fL_bestPlacement a (xs (x4 + 1).toNatClampNeg) (xs (x4 + 2).toNatClampNeg) r3 h).2)))))) ∧ (¬ (((xs x4.toNatClampNeg) &&& 31) = 21) → ((((xs x4.toNatClampNeg) &&& 31) = 22 → ((sX6_moves r2 h) ∧ (sL_law_c1301 a r2 r3 L xs (sL_law_c23 a r2 r3 L xs n) x4 ((fX6_moves r2 h).1) (fX5_moves a h) ((fX6_moves r2 h).2)))) ∧ (¬ (((xs x4.toNatClampNeg) &&& 31) = 22) → ((((xs x4.toNatClampNeg) &&& 31) = 23 → ((vp_in (x4 + 1) L) ∧ ((vp_in (x4 + 2) L) ∧ ((sL_move a (xs (x4 + 1).toNatClampNeg) (xs (x4 + 2).toNatClampNeg) r3 h) ∧ (sL_law_c1323 a r2 r3 L xs (sL_law_c23 a r2 r3 L xs n) x4 ((fL_move a (xs (x4 + 1).toNatClampNeg) (xs (x4 + 2).toNatClampNeg) r3 h).1) ((fL_move a (xs (x4 + 1).toNatClampNeg) (xs (x4 + 2).toNatClampNeg) r3 h).2)))))) ∧ (¬ (((xs x4.toNatClampNeg) &&& 31) = 23) → ((((xs x4.toNatClampNeg) &&& 31) = 24 → ((sL_undo a r3 h) ∧ (sL_law_c1379 a r2 r3 L xs (sL_law_c23 a r2 r3 L xs n) x4 ((fL_undo a r3 h).1) ((fL_undo a r3 h).2)))) ∧ (¬ (((xs x4.toNatClampNeg) &&& 31) = 24) → ((((xs x4.toNatClampNeg) &&& 31) = 25 → ((sX5_digest a h) ∧ (sL_law_c1422 a r2 r3 L xs (sL_law_c23 a r2 r3 L xs n) x4 ((fX5_digest a h).1) ((fX5_digest a h).2)))) ∧ (¬ (((xs x4.toNatClampNeg) &&& 31) = 25) → (sL_law_c1432v1 a r2 r3 L xs (sL_law_c23 a r2 r3 L xs n) x4 h)))))))))))))))))))))))))))))))))))))))))))))))))))))))
set_option maxRecDepth 100000 in
set_option maxHeartbeats 4000000 in
theorem xL_law_c23 {p : Program} {l : Launch} {e : Env} {s : State} {m : MethodId} {below : List Frame} {meth : Method} {c : Code} {X : Cx} {a r2 r3 b L : Nat} {xs : Nat → Int32} (hst : l.stackTraces = false) (C0 : CL p s m meth c X b L xs a r2 r3) : ∀ (n : Nat) (x4 : Int32) (h : HH) (H : Heap) (locs : List Loc) (ls : Array Slot) (cells slots : Nat) (hcN : cells + 3 * n ≤ 601024) (hsN : slots + 18 * n ≤ 7293034) (hl : lv_has ls 7 [(0, .ref b), (1, .ref a), (2, .ref r2), (3, .ref r3), (4, .int x4)]) (hW : WH X h H) (hS : va_S (xA X) s.heap H locs) (hs : sL_law_c23 a r2 r3 L xs n x4 h), W p l e room_1 s m #[Value.ref b] below meth c H locs cells slots (lw_Z below #[Value.ref b] s) (F0 m 23 ls []) := by
  obtain ⟨hx, hb, hr, hlk, hml, hown, hts, hK, hX9, hbl, hz9, hO, hM, hJ⟩ := id C0
  have hbA : ¬ xA X b := by show ¬ xz X ≤ b; rw [hz9]; omega
  intro n
  induction n with
  | zero =>
    intro _ _ _ _ _ _ _ _ _ _ _ _ hs
    exact hs.elim
  | succ n ih =>
    intro x4 h H locs ls cells slots hcN hsN hl hW hS hs
    refine lv_iload hx hb dL_law_23 (lv_at hl 4 rfl) ?_
    refine lv_aload_n hx hb dL_law_25 rfl (lv_at hl 0 rfl) ?_
    refine va_slen hx hb hX9 hbl hbA hS dL_law_26 ?_
    refine lv_iconst (v := 4) hx hb dL_law_27 (by decide) ?_
    refine lv_isub hx hb dL_law_28 ?_
    refine lv_icmp_gt (tgt := 1438) hx hb dL_law_29 (by decide) (fun c1 => ?_) (fun c1 => ?_)
    · have hs := And.left hs c1
      refine lv_iconst (v := 1) hx hb dL_law_1438 (by decide) ?_
      refine va_forget (fun q hq => by rw [← hz9]; exact hS.2.2 q hq) ?_
      refine W.widen (k := 601024) (n := 7293034) (by omega) (by omega) ?_
      exact lw_ret hx hb hr hlk dL_law_1439
    · have hs := And.right hs c1
      refine lv_aload_n hx hb dL_law_32 rfl (lv_at hl 0 rfl) ?_
      refine lv_iload hx hb dL_law_33 (lv_at hl 4 rfl) ?_
      obtain ⟨hi2, hs⟩ := hs
      refine va_sld hx hb hX9 hbl hbA hS hi2 dL_law_35 ?_
      refine lv_bipush (v := 31) hx hb dL_law_36 (by decide) ?_
      refine lv_iand hx hb dL_law_38 ?_
      by_cases c3 : ((xs x4.toNatClampNeg) &&& 31) = 0
      · have hs := And.left hs c3
        refine ksw_in (tgt := 156) hx hb 0 c3 dL_law_39 (by decide) (by decide) rfl (by decide) ?_
        refine lv_aload_n hx hb dL_law_156 rfl (lv_at hl 1 rfl) ?_
        refine lv_aload_n hx hb dL_law_157 rfl (lv_at hl 0 rfl) ?_
        refine lv_iload hx hb dL_law_158 (lv_at hl 4 rfl) ?_
        refine lv_iconst (v := 1) hx hb dL_law_160 (by decide) ?_
        refine lv_iadd hx hb dL_law_161 ?_
        obtain ⟨hi4, hs⟩ := hs
        refine va_sld hx hb hX9 hbl hbA hS hi4 dL_law_162 ?_
        refine lv_aload_n hx hb dL_law_163 rfl (lv_at hl 0 rfl) ?_
        refine lv_iload hx hb dL_law_164 (lv_at hl 4 rfl) ?_
        refine lv_iconst (v := 2) hx hb dL_law_166 (by decide) ?_
        refine lv_iadd hx hb dL_law_167 ?_
        obtain ⟨hi5, hs⟩ := hs
        refine va_sld hx hb hX9 hbl hbA hS hi5 dL_law_168 ?_
        refine lv_aload_n hx hb dL_law_169 rfl (lv_at hl 3 rfl) ?_
        obtain ⟨hc6, hs⟩ := hs
        refine kSW_i (As := [.ref a, .int (xs (x4 + 1).toNatClampNeg), .int (xs (x4 + 2).toNatClampNeg), .ref r3]) (rest := []) ⟨hx, hb, hml, hown, hts⟩ (kL_newGame l hst X h a (xs (x4 + 1).toNatClampNeg) (xs (x4 + 2).toNatClampNeg) r3 hO hJ hc6) (wL_newGame hts q2_204 ⟨Nat.le_of_ble_eq_true rfl, Nat.le_of_ble_eq_true rfl⟩) hK hW hS rfl hl.1 rfl (Nat.le_of_ble_eq_true rfl) dL_law_170 ⟨by show _ ≤ 601024; omega, by show _ ≤ 7293034; omega⟩ (fun H locs hW hS => ?_)
        exact xL_law_c173 hst C0 (cB := cells + 3) (sB := slots + 18) (Nat.le_refl _) (Nat.le_refl _) (by omega) (by omega) (fun x4 h H locs ls hl hW hS hk => ih x4 h H locs ls (cells + 3) (slots + 18) (by omega) (by omega) hl hW hS hk) x4 ((fL_newGame a (xs (x4 + 1).toNatClampNeg) (xs (x4 + 2).toNatClampNeg) r3 h).1) ((fL_newGame a (xs (x4 + 1).toNatClampNeg) (xs (x4 + 2).toNatClampNeg) r3 h).2) _ _ _ (lv_sub hl [0, 1, 2, 3, 4] rfl) hW hS hs
      · have hs := And.right hs c3
        by_cases c13 : ((xs x4.toNatClampNeg) &&& 31) = 1
        · have hs := And.left hs c13
          refine ksw_in (tgt := 224) hx hb 1 c13 dL_law_39 (by decide) (by decide) rfl (by decide) ?_
          refine lv_aload_n hx hb dL_law_224 rfl (lv_at hl 1 rfl) ?_
          refine lv_aload_n hx hb dL_law_225 rfl (lv_at hl 0 rfl) ?_
          refine lv_iload hx hb dL_law_226 (lv_at hl 4 rfl) ?_
          refine lv_iconst (v := 1) hx hb dL_law_228 (by decide) ?_
          refine lv_iadd hx hb dL_law_229 ?_
          obtain ⟨hi14, hs⟩ := hs
          refine va_sld hx hb hX9 hbl hbA hS hi14 dL_law_230 ?_
          refine lv_aload_n hx hb dL_law_231 rfl (lv_at hl 0 rfl) ?_
          refine lv_iload hx hb dL_law_232 (lv_at hl 4 rfl) ?_
          refine lv_iconst (v := 2) hx hb dL_law_234 (by decide) ?_
          refine lv_iadd hx hb dL_law_235 ?_
          obtain ⟨hi15, hs⟩ := hs
          refine va_sld hx hb hX9 hbl hbA hS hi15 dL_law_236 ?_
          refine lv_aload_n hx hb dL_law_237 rfl (lv_at hl 3 rfl) ?_
          obtain ⟨hc16, hs⟩ := hs
          refine kSW_i (As := [.ref a, .int (xs (x4 + 1).toNatClampNeg), .int (xs (x4 + 2).toNatClampNeg), .ref r3]) (rest := []) ⟨hx, hb, hml, hown, hts⟩ (kL_reason l hst X h a (xs (x4 + 1).toNatClampNeg) (xs (x4 + 2).toNatClampNeg) r3 hO hJ hc16) (wL_reason hts q3_49 ⟨Nat.le_of_ble_eq_true rfl, Nat.le_of_ble_eq_true rfl⟩) hK hW hS rfl hl.1 rfl (Nat.le_of_ble_eq_true rfl) dL_law_238 ⟨by show _ ≤ 601024; omega, by show _ ≤ 7293034; omega⟩ (fun H locs hW hS => ?_)
          exact xL_law_c241 hst C0 (cB := cells + 3) (sB := slots + 18) (Nat.le_refl _) (Nat.le_refl _) (by omega) (by omega) (fun x4 h H locs ls hl hW hS hk => ih x4 h H locs ls (cells + 3) (slots + 18) (by omega) (by omega) hl hW hS hk) x4 ((fL_reason a (xs (x4 + 1).toNatClampNeg) (xs (x4 + 2).toNatClampNeg) r3 h).1) ((fL_reason a (xs (x4 + 1).toNatClampNeg) (xs (x4 + 2).toNatClampNeg) r3 h).2) _ _ _ (lv_sub hl [0, 1, 2, 3, 4] rfl) hW hS hs
        · have hs := And.right hs c13
          by_cases c23 : ((xs x4.toNatClampNeg) &&& 31) = 2
          · have hs := And.left hs c23
            refine ksw_in (tgt := 292) hx hb 2 c23 dL_law_39 (by decide) (by decide) rfl (by decide) ?_
            refine lv_aload_n hx hb dL_law_292 rfl (lv_at hl 1 rfl) ?_
            refine lv_aload_n hx hb dL_law_293 rfl (lv_at hl 0 rfl) ?_
            refine lv_iload hx hb dL_law_294 (lv_at hl 4 rfl) ?_
            refine lv_iconst (v := 1) hx hb dL_law_296 (by decide) ?_
            refine lv_iadd hx hb dL_law_297 ?_
            obtain ⟨hi24, hs⟩ := hs
            refine va_sld hx hb hX9 hbl hbA hS hi24 dL_law_298 ?_
            refine lv_aload_n hx hb dL_law_299 rfl (lv_at hl 0 rfl) ?_
            refine lv_iload hx hb dL_law_300 (lv_at hl 4 rfl) ?_
            refine lv_iconst (v := 2) hx hb dL_law_302 (by decide) ?_
            refine lv_iadd hx hb dL_law_303 ?_
            obtain ⟨hi25, hs⟩ := hs
            refine va_sld hx hb hX9 hbl hbA hS hi25 dL_law_304 ?_
            refine lv_aload_n hx hb dL_law_305 rfl (lv_at hl 3 rfl) ?_
            obtain ⟨hc26, hs⟩ := hs
            refine kSW_i (As := [.ref a, .int (xs (x4 + 1).toNatClampNeg), .int (xs (x4 + 2).toNatClampNeg), .ref r3]) (rest := []) ⟨hx, hb, hml, hown, hts⟩ (kL_place l hst X h a (xs (x4 + 1).toNatClampNeg) (xs (x4 + 2).toNatClampNeg) r3 hO hJ hc26) (wL_place hts q3_80 ⟨Nat.le_of_ble_eq_true rfl, Nat.le_of_ble_eq_true rfl⟩) hK hW hS rfl hl.1 rfl (Nat.le_of_ble_eq_true rfl) dL_law_306 ⟨by show _ ≤ 601024; omega, by show _ ≤ 7293034; omega⟩ (fun H locs hW hS => ?_)
            exact xL_law_c309 hst C0 (cB := cells + 3) (sB := slots + 18) (Nat.le_refl _) (Nat.le_refl _) (by omega) (by omega) (fun x4 h H locs ls hl hW hS hk => ih x4 h H locs ls (cells + 3) (slots + 18) (by omega) (by omega) hl hW hS hk) x4 ((fL_place a (xs (x4 + 1).toNatClampNeg) (xs (x4 + 2).toNatClampNeg) r3 h).1) ((fL_place a (xs (x4 + 1).toNatClampNeg) (xs (x4 + 2).toNatClampNeg) r3 h).2) _ _ _ (lv_sub hl [0, 1, 2, 3, 4] rfl) hW hS hs
          · have hs := And.right hs c23
            by_cases c33 : ((xs x4.toNatClampNeg) &&& 31) = 3
            · have hs := And.left hs c33
              refine ksw_in (tgt := 360) hx hb 3 c33 dL_law_39 (by decide) (by decide) rfl (by decide) ?_
              refine lv_aload_n hx hb dL_law_360 rfl (lv_at hl 1 rfl) ?_
              refine lv_aload_n hx hb dL_law_361 rfl (lv_at hl 3 rfl) ?_
              obtain ⟨hc34, hs⟩ := hs
              refine kSW_i (As := [.ref a, .ref r3]) (rest := []) ⟨hx, hb, hml, hown, hts⟩ (kL_skip l hst X h a r3 hO hJ hc34) (wL_skip hts q3_130 ⟨Nat.le_of_ble_eq_true rfl, Nat.le_of_ble_eq_true rfl⟩) hK hW hS rfl hl.1 rfl (Nat.le_of_ble_eq_true rfl) dL_law_362 ⟨by show _ ≤ 601024; omega, by show _ ≤ 7293034; omega⟩ (fun H locs hW hS => ?_)
              exact xL_law_c365 hst C0 (cB := cells + 3) (sB := slots + 18) (Nat.le_refl _) (Nat.le_refl _) (by omega) (by omega) (fun x4 h H locs ls hl hW hS hk => ih x4 h H locs ls (cells + 3) (slots + 18) (by omega) (by omega) hl hW hS hk) x4 ((fL_skip a r3 h).1) ((fL_skip a r3 h).2) _ _ _ (lv_sub hl [0, 1, 2, 3, 4] rfl) hW hS hs
            · have hs := And.right hs c33
              by_cases c39 : ((xs x4.toNatClampNeg) &&& 31) = 4
              · have hs := And.left hs c39
                refine ksw_in (tgt := 404) hx hb 4 c39 dL_law_39 (by decide) (by decide) rfl (by decide) ?_
                refine lv_aload_n hx hb dL_law_404 rfl (lv_at hl 1 rfl) ?_
                refine lv_aload_n hx hb dL_law_405 rfl (lv_at hl 0 rfl) ?_
                refine lv_iload hx hb dL_law_406 (lv_at hl 4 rfl) ?_
                refine lv_iconst (v := 1) hx hb dL_law_408 (by decide) ?_
                refine lv_iadd hx hb dL_law_409 ?_
                obtain ⟨hi40, hs⟩ := hs
                refine va_sld hx hb hX9 hbl hbA hS hi40 dL_law_410 ?_
                refine lv_aload_n hx hb dL_law_411 rfl (lv_at hl 0 rfl) ?_
                refine lv_iload hx hb dL_law_412 (lv_at hl 4 rfl) ?_
                refine lv_iconst (v := 2) hx hb dL_law_414 (by decide) ?_
                refine lv_iadd hx hb dL_law_415 ?_
                obtain ⟨hi41, hs⟩ := hs
                refine va_sld hx hb hX9 hbl hbA hS hi41 dL_law_416 ?_
                refine lv_aload_n hx hb dL_law_417 rfl (lv_at hl 3 rfl) ?_
                obtain ⟨hc42, hs⟩ := hs
                refine kSW_i (As := [.ref a, .int (xs (x4 + 1).toNatClampNeg), .int (xs (x4 + 2).toNatClampNeg), .ref r3]) (rest := []) ⟨hx, hb, hml, hown, hts⟩ (kL_play l hst X h a (xs (x4 + 1).toNatClampNeg) (xs (x4 + 2).toNatClampNeg) r3 hO hJ hc42) (wL_play hts q3_142 ⟨Nat.le_of_ble_eq_true rfl, Nat.le_of_ble_eq_true rfl⟩) hK hW hS rfl hl.1 rfl (Nat.le_of_ble_eq_true rfl) dL_law_418 ⟨by show _ ≤ 601024; omega, by show _ ≤ 7293034; omega⟩ (fun H locs hW hS => ?_)
                exact xL_law_c421 hst C0 (cB := cells + 3) (sB := slots + 18) (Nat.le_refl _) (Nat.le_refl _) (by omega) (by omega) (fun x4 h H locs ls hl hW hS hk => ih x4 h H locs ls (cells + 3) (slots + 18) (by omega) (by omega) hl hW hS hk) x4 ((fL_play a (xs (x4 + 1).toNatClampNeg) (xs (x4 + 2).toNatClampNeg) r3 h).1) ((fL_play a (xs (x4 + 1).toNatClampNeg) (xs (x4 + 2).toNatClampNeg) r3 h).2) _ _ _ (lv_sub hl [0, 1, 2, 3, 4] rfl) hW hS hs
              · have hs := And.right hs c39
                by_cases c49 : ((xs x4.toNatClampNeg) &&& 31) = 5
                · have hs := And.left hs c49
                  refine ksw_in (tgt := 472) hx hb 5 c49 dL_law_39 (by decide) (by decide) rfl (by decide) ?_
                  refine lv_aload_n hx hb dL_law_472 rfl (lv_at hl 1 rfl) ?_
                  refine kV_i (As := []) (rest := []) ⟨hx, hb, hml, hown, hts⟩ (kX5_players l X h a hO) (wX5_players hts q1_223 ⟨Nat.le_of_ble_eq_true rfl, Nat.le_of_ble_eq_true rfl⟩) hK hW hS (va_recv hK.1 (hW.one hO.1) (ci := 5) (q0 := 0) rfl rfl) rfl hl.1 rfl (Nat.le_of_ble_eq_true rfl) dL_law_473 ⟨by show _ ≤ 601024; omega, by show _ ≤ 7293034; omega⟩ (fun H locs hW hS => ?_)
                  refine lv_aload_n hx hb dL_law_476 rfl (lv_at hl 2 rfl) ?_
                  obtain ⟨hc50, hs⟩ := hs
                  refine kV_i (As := []) (rest := [.int (fX5_players a h)]) ⟨hx, hb, hml, hown, hts⟩ (kX6_players l X h r2 hM hc50) (wX6_players hts q5_9 ⟨Nat.le_of_ble_eq_true rfl, Nat.le_of_ble_eq_true rfl⟩) hK hW hS (va_recv hK.1 (hW.one hM.1) (ci := 6) (q0 := 0) rfl rfl) rfl hl.1 rfl (Nat.le_of_ble_eq_true rfl) dL_law_477 ⟨by show _ ≤ 601024; omega, by show _ ≤ 7293034; omega⟩ (fun H locs hW hS => ?_)
                  exact xL_law_c480 hst C0 (cB := cells + 3) (sB := slots + 18) (Nat.le_refl _) (Nat.le_refl _) (by omega) (by omega) (fun x4 h H locs ls hl hW hS hk => ih x4 h H locs ls (cells + 3) (slots + 18) (by omega) (by omega) hl hW hS hk) x4 ((fX6_players r2 h).1) (fX5_players a h) ((fX6_players r2 h).2) _ _ _ (lv_sub hl [0, 1, 2, 3, 4] rfl) hW hS hs
                · have hs := And.right hs c49
                  by_cases c52 : ((xs x4.toNatClampNeg) &&& 31) = 6
                  · have hs := And.left hs c52
                    refine ksw_in (tgt := 485) hx hb 6 c52 dL_law_39 (by decide) (by decide) rfl (by decide) ?_
                    refine lv_aload_n hx hb dL_law_485 rfl (lv_at hl 1 rfl) ?_
                    refine kV_i (As := []) (rest := []) ⟨hx, hb, hml, hown, hts⟩ (kX5_round l X h a hO) (wX5_round hts q1_227 ⟨Nat.le_of_ble_eq_true rfl, Nat.le_of_ble_eq_true rfl⟩) hK hW hS (va_recv hK.1 (hW.one hO.1) (ci := 5) (q0 := 0) rfl rfl) rfl hl.1 rfl (Nat.le_of_ble_eq_true rfl) dL_law_486 ⟨by show _ ≤ 601024; omega, by show _ ≤ 7293034; omega⟩ (fun H locs hW hS => ?_)
                    refine lv_aload_n hx hb dL_law_489 rfl (lv_at hl 2 rfl) ?_
                    obtain ⟨hc53, hs⟩ := hs
                    refine kV_i (As := []) (rest := [.int (fX5_round a h)]) ⟨hx, hb, hml, hown, hts⟩ (kX6_round l X h r2 hM hc53) (wX6_round hts q5_13 ⟨Nat.le_of_ble_eq_true rfl, Nat.le_of_ble_eq_true rfl⟩) hK hW hS (va_recv hK.1 (hW.one hM.1) (ci := 6) (q0 := 0) rfl rfl) rfl hl.1 rfl (Nat.le_of_ble_eq_true rfl) dL_law_490 ⟨by show _ ≤ 601024; omega, by show _ ≤ 7293034; omega⟩ (fun H locs hW hS => ?_)
                    exact xL_law_c493 hst C0 (cB := cells + 3) (sB := slots + 18) (Nat.le_refl _) (Nat.le_refl _) (by omega) (by omega) (fun x4 h H locs ls hl hW hS hk => ih x4 h H locs ls (cells + 3) (slots + 18) (by omega) (by omega) hl hW hS hk) x4 ((fX6_round r2 h).1) (fX5_round a h) ((fX6_round r2 h).2) _ _ _ (lv_sub hl [0, 1, 2, 3, 4] rfl) hW hS hs
                  · have hs := And.right hs c52
                    by_cases c55 : ((xs x4.toNatClampNeg) &&& 31) = 7
                    · have hs := And.left hs c55
                      refine ksw_in (tgt := 498) hx hb 7 c55 dL_law_39 (by decide) (by decide) rfl (by decide) ?_
                      refine lv_aload_n hx hb dL_law_498 rfl (lv_at hl 1 rfl) ?_
                      refine kV_i (As := []) (rest := []) ⟨hx, hb, hml, hown, hts⟩ (kX5_inTurn l X h a hO) (wX5_inTurn hts q1_231 ⟨Nat.le_of_ble_eq_true rfl, Nat.le_of_ble_eq_true rfl⟩) hK hW hS (va_recv hK.1 (hW.one hO.1) (ci := 5) (q0 := 0) rfl rfl) rfl hl.1 rfl (Nat.le_of_ble_eq_true rfl) dL_law_499 ⟨by show _ ≤ 601024; omega, by show _ ≤ 7293034; omega⟩ (fun H locs hW hS => ?_)
                      refine lv_aload_n hx hb dL_law_502 rfl (lv_at hl 2 rfl) ?_
                      obtain ⟨hc56, hs⟩ := hs
                      refine kV_i (As := []) (rest := [.int (fX5_inTurn a h)]) ⟨hx, hb, hml, hown, hts⟩ (kX6_inTurn l X h r2 hM hc56) (wX6_inTurn hts q5_17 ⟨Nat.le_of_ble_eq_true rfl, Nat.le_of_ble_eq_true rfl⟩) hK hW hS (va_recv hK.1 (hW.one hM.1) (ci := 6) (q0 := 0) rfl rfl) rfl hl.1 rfl (Nat.le_of_ble_eq_true rfl) dL_law_503 ⟨by show _ ≤ 601024; omega, by show _ ≤ 7293034; omega⟩ (fun H locs hW hS => ?_)
                      exact xL_law_c506 hst C0 (cB := cells + 3) (sB := slots + 18) (Nat.le_refl _) (Nat.le_refl _) (by omega) (by omega) (fun x4 h H locs ls hl hW hS hk => ih x4 h H locs ls (cells + 3) (slots + 18) (by omega) (by omega) hl hW hS hk) x4 ((fX6_inTurn r2 h).1) (fX5_inTurn a h) ((fX6_inTurn r2 h).2) _ _ _ (lv_sub hl [0, 1, 2, 3, 4] rfl) hW hS hs
                    · have hs := And.right hs c55
                      by_cases c58 : ((xs x4.toNatClampNeg) &&& 31) = 8
                      · have hs := And.left hs c58
                        refine ksw_in (tgt := 511) hx hb 8 c58 dL_law_39 (by decide) (by decide) rfl (by decide) ?_
                        refine lv_aload_n hx hb dL_law_511 rfl (lv_at hl 1 rfl) ?_
                        refine kV_i (As := []) (rest := []) ⟨hx, hb, hml, hown, hts⟩ (kX5_startPlayer l X h a hO) (wX5_startPlayer hts q1_235 ⟨Nat.le_of_ble_eq_true rfl, Nat.le_of_ble_eq_true rfl⟩) hK hW hS (va_recv hK.1 (hW.one hO.1) (ci := 5) (q0 := 0) rfl rfl) rfl hl.1 rfl (Nat.le_of_ble_eq_true rfl) dL_law_512 ⟨by show _ ≤ 601024; omega, by show _ ≤ 7293034; omega⟩ (fun H locs hW hS => ?_)
                        refine lv_aload_n hx hb dL_law_515 rfl (lv_at hl 2 rfl) ?_
                        obtain ⟨hc59, hs⟩ := hs
                        refine kV_i (As := []) (rest := [.int (fX5_startPlayer a h)]) ⟨hx, hb, hml, hown, hts⟩ (kX6_startPlayer l X h r2 hM hc59) (wX6_startPlayer hts q5_21 ⟨Nat.le_of_ble_eq_true rfl, Nat.le_of_ble_eq_true rfl⟩) hK hW hS (va_recv hK.1 (hW.one hM.1) (ci := 6) (q0 := 0) rfl rfl) rfl hl.1 rfl (Nat.le_of_ble_eq_true rfl) dL_law_516 ⟨by show _ ≤ 601024; omega, by show _ ≤ 7293034; omega⟩ (fun H locs hW hS => ?_)
                        exact xL_law_c519 hst C0 (cB := cells + 3) (sB := slots + 18) (Nat.le_refl _) (Nat.le_refl _) (by omega) (by omega) (fun x4 h H locs ls hl hW hS hk => ih x4 h H locs ls (cells + 3) (slots + 18) (by omega) (by omega) hl hW hS hk) x4 ((fX6_startPlayer r2 h).1) (fX5_startPlayer a h) ((fX6_startPlayer r2 h).2) _ _ _ (lv_sub hl [0, 1, 2, 3, 4] rfl) hW hS hs
                      · have hs := And.right hs c58
                        by_cases c61 : ((xs x4.toNatClampNeg) &&& 31) = 9
                        · have hs := And.left hs c61
                          refine ksw_in (tgt := 524) hx hb 9 c61 dL_law_39 (by decide) (by decide) rfl (by decide) ?_
                          refine lv_aload_n hx hb dL_law_524 rfl (lv_at hl 1 rfl) ?_
                          refine lv_aload_n hx hb dL_law_525 rfl (lv_at hl 0 rfl) ?_
                          refine lv_iload hx hb dL_law_526 (lv_at hl 4 rfl) ?_
                          refine lv_iconst (v := 1) hx hb dL_law_528 (by decide) ?_
                          refine lv_iadd hx hb dL_law_529 ?_
                          obtain ⟨hi62, hs⟩ := hs
                          refine va_sld hx hb hX9 hbl hbA hS hi62 dL_law_530 ?_
                          refine lv_aload_n hx hb dL_law_531 rfl (lv_at hl 0 rfl) ?_
                          refine lv_iload hx hb dL_law_532 (lv_at hl 4 rfl) ?_
                          refine lv_iconst (v := 2) hx hb dL_law_534 (by decide) ?_
                          refine lv_iadd hx hb dL_law_535 ?_
                          obtain ⟨hi63, hs⟩ := hs
                          refine va_sld hx hb hX9 hbl hbA hS hi63 dL_law_536 ?_
                          refine lv_aload_n hx hb dL_law_537 rfl (lv_at hl 3 rfl) ?_
                          obtain ⟨hc64, hs⟩ := hs
                          refine kSW_i (As := [.ref a, .int (xs (x4 + 1).toNatClampNeg), .int (xs (x4 + 2).toNatClampNeg), .ref r3]) (rest := []) ⟨hx, hb, hml, hown, hts⟩ (kL_goods l hst X h a (xs (x4 + 1).toNatClampNeg) (xs (x4 + 2).toNatClampNeg) r3 hO hJ hc64) (wL_goods hts q3_149 ⟨Nat.le_of_ble_eq_true rfl, Nat.le_of_ble_eq_true rfl⟩) hK hW hS rfl hl.1 rfl (Nat.le_of_ble_eq_true rfl) dL_law_538 ⟨by show _ ≤ 601024; omega, by show _ ≤ 7293034; omega⟩ (fun H locs hW hS => ?_)
                          exact xL_law_c541 hst C0 (cB := cells + 3) (sB := slots + 18) (Nat.le_refl _) (Nat.le_refl _) (by omega) (by omega) (fun x4 h H locs ls hl hW hS hk => ih x4 h H locs ls (cells + 3) (slots + 18) (by omega) (by omega) hl hW hS hk) x4 ((fL_goods a (xs (x4 + 1).toNatClampNeg) (xs (x4 + 2).toNatClampNeg) r3 h).1) ((fL_goods a (xs (x4 + 1).toNatClampNeg) (xs (x4 + 2).toNatClampNeg) r3 h).2) _ _ _ (lv_sub hl [0, 1, 2, 3, 4] rfl) hW hS hs
                        · have hs := And.right hs c61
                          by_cases c71 : ((xs x4.toNatClampNeg) &&& 31) = 10
                          · have hs := And.left hs c71
                            refine ksw_in (tgt := 592) hx hb 10 c71 dL_law_39 (by decide) (by decide) rfl (by decide) ?_
                            refine lv_aload_n hx hb dL_law_592 rfl (lv_at hl 1 rfl) ?_
                            refine lv_aload_n hx hb dL_law_593 rfl (lv_at hl 0 rfl) ?_
                            refine lv_iload hx hb dL_law_594 (lv_at hl 4 rfl) ?_
                            refine lv_iconst (v := 1) hx hb dL_law_596 (by decide) ?_
                            refine lv_iadd hx hb dL_law_597 ?_
                            obtain ⟨hi72, hs⟩ := hs
                            refine va_sld hx hb hX9 hbl hbA hS hi72 dL_law_598 ?_
                            refine lv_aload_n hx hb dL_law_599 rfl (lv_at hl 0 rfl) ?_
                            refine lv_iload hx hb dL_law_600 (lv_at hl 4 rfl) ?_
                            refine lv_iconst (v := 2) hx hb dL_law_602 (by decide) ?_
                            refine lv_iadd hx hb dL_law_603 ?_
                            obtain ⟨hi73, hs⟩ := hs
                            refine va_sld hx hb hX9 hbl hbA hS hi73 dL_law_604 ?_
                            refine lv_aload_n hx hb dL_law_605 rfl (lv_at hl 3 rfl) ?_
                            obtain ⟨hc74, hs⟩ := hs
                            refine kSW_i (As := [.ref a, .int (xs (x4 + 1).toNatClampNeg), .int (xs (x4 + 2).toNatClampNeg), .ref r3]) (rest := []) ⟨hx, hb, hml, hown, hts⟩ (kL_player l hst X h a (xs (x4 + 1).toNatClampNeg) (xs (x4 + 2).toNatClampNeg) r3 hO hJ hc74) (wL_player hts q3_160 ⟨Nat.le_of_ble_eq_true rfl, Nat.le_of_ble_eq_true rfl⟩) hK hW hS rfl hl.1 rfl (Nat.le_of_ble_eq_true rfl) dL_law_606 ⟨by show _ ≤ 601024; omega, by show _ ≤ 7293034; omega⟩ (fun H locs hW hS => ?_)
                            exact xL_law_c609 hst C0 (cB := cells + 3) (sB := slots + 18) (Nat.le_refl _) (Nat.le_refl _) (by omega) (by omega) (fun x4 h H locs ls hl hW hS hk => ih x4 h H locs ls (cells + 3) (slots + 18) (by omega) (by omega) hl hW hS hk) x4 ((fL_player a (xs (x4 + 1).toNatClampNeg) (xs (x4 + 2).toNatClampNeg) r3 h).1) ((fL_player a (xs (x4 + 1).toNatClampNeg) (xs (x4 + 2).toNatClampNeg) r3 h).2) _ _ _ (lv_sub hl [0, 1, 2, 3, 4] rfl) hW hS hs
                          · have hs := And.right hs c71
                            by_cases c81 : ((xs x4.toNatClampNeg) &&& 31) = 11
                            · have hs := And.left hs c81
                              refine ksw_in (tgt := 660) hx hb 11 c81 dL_law_39 (by decide) (by decide) rfl (by decide) ?_
                              refine lv_aload_n hx hb dL_law_660 rfl (lv_at hl 1 rfl) ?_
                              refine lv_aload_n hx hb dL_law_661 rfl (lv_at hl 0 rfl) ?_
                              refine lv_iload hx hb dL_law_662 (lv_at hl 4 rfl) ?_
                              refine lv_iconst (v := 1) hx hb dL_law_664 (by decide) ?_
                              refine lv_iadd hx hb dL_law_665 ?_
                              obtain ⟨hi82, hs⟩ := hs
                              refine va_sld hx hb hX9 hbl hbA hS hi82 dL_law_666 ?_
                              refine lv_aload_n hx hb dL_law_667 rfl (lv_at hl 3 rfl) ?_
                              obtain ⟨hc83, hs⟩ := hs
                              refine kSW_i (As := [.ref a, .int (xs (x4 + 1).toNatClampNeg), .ref r3]) (rest := []) ⟨hx, hb, hml, hown, hts⟩ (kL_owner l hst X h a (xs (x4 + 1).toNatClampNeg) r3 hO hJ hc83) (wL_owner hts q3_167 ⟨Nat.le_of_ble_eq_true rfl, Nat.le_of_ble_eq_true rfl⟩) hK hW hS rfl hl.1 rfl (Nat.le_of_ble_eq_true rfl) dL_law_668 ⟨by show _ ≤ 601024; omega, by show _ ≤ 7293034; omega⟩ (fun H locs hW hS => ?_)
                              exact xL_law_c671 hst C0 (cB := cells + 3) (sB := slots + 18) (Nat.le_refl _) (Nat.le_refl _) (by omega) (by omega) (fun x4 h H locs ls hl hW hS hk => ih x4 h H locs ls (cells + 3) (slots + 18) (by omega) (by omega) hl hW hS hk) x4 ((fL_owner a (xs (x4 + 1).toNatClampNeg) r3 h).1) ((fL_owner a (xs (x4 + 1).toNatClampNeg) r3 h).2) _ _ _ (lv_sub hl [0, 1, 2, 3, 4] rfl) hW hS hs
                            · have hs := And.right hs c81
                              by_cases c89 : ((xs x4.toNatClampNeg) &&& 31) = 12
                              · have hs := And.left hs c89
                                refine ksw_in (tgt := 716) hx hb 12 c89 dL_law_39 (by decide) (by decide) rfl (by decide) ?_
                                refine lv_aload_n hx hb dL_law_716 rfl (lv_at hl 1 rfl) ?_
                                refine lv_aload_n hx hb dL_law_717 rfl (lv_at hl 0 rfl) ?_
                                refine lv_iload hx hb dL_law_718 (lv_at hl 4 rfl) ?_
                                refine lv_iconst (v := 1) hx hb dL_law_720 (by decide) ?_
                                refine lv_iadd hx hb dL_law_721 ?_
                                obtain ⟨hi90, hs⟩ := hs
                                refine va_sld hx hb hX9 hbl hbA hS hi90 dL_law_722 ?_
                                refine lv_aload_n hx hb dL_law_723 rfl (lv_at hl 0 rfl) ?_
                                refine lv_iload hx hb dL_law_724 (lv_at hl 4 rfl) ?_
                                refine lv_iconst (v := 2) hx hb dL_law_726 (by decide) ?_
                                refine lv_iadd hx hb dL_law_727 ?_
                                obtain ⟨hi91, hs⟩ := hs
                                refine va_sld hx hb hX9 hbl hbA hS hi91 dL_law_728 ?_
                                refine lv_aload_n hx hb dL_law_729 rfl (lv_at hl 3 rfl) ?_
                                obtain ⟨hc92, hs⟩ := hs
                                refine kSW_i (As := [.ref a, .int (xs (x4 + 1).toNatClampNeg), .int (xs (x4 + 2).toNatClampNeg), .ref r3]) (rest := []) ⟨hx, hb, hml, hown, hts⟩ (kL_space l hst X h a (xs (x4 + 1).toNatClampNeg) (xs (x4 + 2).toNatClampNeg) r3 hO hJ hc92) (wL_space hts q3_175 ⟨Nat.le_of_ble_eq_true rfl, Nat.le_of_ble_eq_true rfl⟩) hK hW hS rfl hl.1 rfl (Nat.le_of_ble_eq_true rfl) dL_law_730 ⟨by show _ ≤ 601024; omega, by show _ ≤ 7293034; omega⟩ (fun H locs hW hS => ?_)
                                exact xL_law_c733 hst C0 (cB := cells + 3) (sB := slots + 18) (Nat.le_refl _) (Nat.le_refl _) (by omega) (by omega) (fun x4 h H locs ls hl hW hS hk => ih x4 h H locs ls (cells + 3) (slots + 18) (by omega) (by omega) hl hW hS hk) x4 ((fL_space a (xs (x4 + 1).toNatClampNeg) (xs (x4 + 2).toNatClampNeg) r3 h).1) ((fL_space a (xs (x4 + 1).toNatClampNeg) (xs (x4 + 2).toNatClampNeg) r3 h).2) _ _ _ (lv_sub hl [0, 1, 2, 3, 4] rfl) hW hS hs
                              · have hs := And.right hs c89
                                by_cases c99 : ((xs x4.toNatClampNeg) &&& 31) = 13
                                · have hs := And.left hs c99
                                  refine ksw_in (tgt := 784) hx hb 13 c99 dL_law_39 (by decide) (by decide) rfl (by decide) ?_
                                  refine lv_aload_n hx hb dL_law_784 rfl (lv_at hl 1 rfl) ?_
                                  refine lv_aload_n hx hb dL_law_785 rfl (lv_at hl 0 rfl) ?_
                                  refine lv_iload hx hb dL_law_786 (lv_at hl 4 rfl) ?_
                                  refine lv_iconst (v := 1) hx hb dL_law_788 (by decide) ?_
                                  refine lv_iadd hx hb dL_law_789 ?_
                                  obtain ⟨hi100, hs⟩ := hs
                                  refine va_sld hx hb hX9 hbl hbA hS hi100 dL_law_790 ?_
                                  refine lv_aload_n hx hb dL_law_791 rfl (lv_at hl 0 rfl) ?_
                                  refine lv_iload hx hb dL_law_792 (lv_at hl 4 rfl) ?_
                                  refine lv_iconst (v := 2) hx hb dL_law_794 (by decide) ?_
                                  refine lv_iadd hx hb dL_law_795 ?_
                                  obtain ⟨hi101, hs⟩ := hs
                                  refine va_sld hx hb hX9 hbl hbA hS hi101 dL_law_796 ?_
                                  refine lv_aload_n hx hb dL_law_797 rfl (lv_at hl 0 rfl) ?_
                                  refine lv_iload hx hb dL_law_798 (lv_at hl 4 rfl) ?_
                                  refine lv_iconst (v := 3) hx hb dL_law_800 (by decide) ?_
                                  refine lv_iadd hx hb dL_law_801 ?_
                                  obtain ⟨hi102, hs⟩ := hs
                                  refine va_sld hx hb hX9 hbl hbA hS hi102 dL_law_802 ?_
                                  refine lv_aload_n hx hb dL_law_803 rfl (lv_at hl 3 rfl) ?_
                                  obtain ⟨hc103, hs⟩ := hs
                                  refine kSW_i (As := [.ref a, .int (xs (x4 + 1).toNatClampNeg), .int (xs (x4 + 2).toNatClampNeg), .int (xs (x4 + 3).toNatClampNeg), .ref r3]) (rest := []) ⟨hx, hb, hml, hown, hts⟩ (kL_cost l hst X h a (xs (x4 + 1).toNatClampNeg) (xs (x4 + 2).toNatClampNeg) (xs (x4 + 3).toNatClampNeg) r3 hO hJ hc103) (wL_cost hts q3_182 ⟨Nat.le_of_ble_eq_true rfl, Nat.le_of_ble_eq_true rfl⟩) hK hW hS rfl hl.1 rfl (Nat.le_of_ble_eq_true rfl) dL_law_804 ⟨by show _ ≤ 601024; omega, by show _ ≤ 7293034; omega⟩ (fun H locs hW hS => ?_)
                                  exact xL_law_c807 hst C0 (cB := cells + 3) (sB := slots + 18) (Nat.le_refl _) (Nat.le_refl _) (by omega) (by omega) (fun x4 h H locs ls hl hW hS hk => ih x4 h H locs ls (cells + 3) (slots + 18) (by omega) (by omega) hl hW hS hk) x4 ((fL_cost a (xs (x4 + 1).toNatClampNeg) (xs (x4 + 2).toNatClampNeg) (xs (x4 + 3).toNatClampNeg) r3 h).1) ((fL_cost a (xs (x4 + 1).toNatClampNeg) (xs (x4 + 2).toNatClampNeg) (xs (x4 + 3).toNatClampNeg) r3 h).2) _ _ _ (lv_sub hl [0, 1, 2, 3, 4] rfl) hW hS hs
                                · have hs := And.right hs c99
                                  by_cases c111 : ((xs x4.toNatClampNeg) &&& 31) = 14
                                  · have hs := And.left hs c111
                                    refine ksw_in (tgt := 864) hx hb 14 c111 dL_law_39 (by decide) (by decide) rfl (by decide) ?_
                                    refine lv_aload_n hx hb dL_law_864 rfl (lv_at hl 1 rfl) ?_
                                    refine lv_aload_n hx hb dL_law_865 rfl (lv_at hl 0 rfl) ?_
                                    refine lv_iload hx hb dL_law_866 (lv_at hl 4 rfl) ?_
                                    refine lv_iconst (v := 1) hx hb dL_law_868 (by decide) ?_
                                    refine lv_iadd hx hb dL_law_869 ?_
                                    obtain ⟨hi112, hs⟩ := hs
                                    refine va_sld hx hb hX9 hbl hbA hS hi112 dL_law_870 ?_
                                    refine lv_aload_n hx hb dL_law_871 rfl (lv_at hl 3 rfl) ?_
                                    obtain ⟨hc113, hs⟩ := hs
                                    refine kSW_i (As := [.ref a, .int (xs (x4 + 1).toNatClampNeg), .ref r3]) (rest := []) ⟨hx, hb, hml, hown, hts⟩ (kL_need l hst X h a (xs (x4 + 1).toNatClampNeg) r3 hO hJ hc113) (wL_need hts q3_190 ⟨Nat.le_of_ble_eq_true rfl, Nat.le_of_ble_eq_true rfl⟩) hK hW hS rfl hl.1 rfl (Nat.le_of_ble_eq_true rfl) dL_law_872 ⟨by show _ ≤ 601024; omega, by show _ ≤ 7293034; omega⟩ (fun H locs hW hS => ?_)
                                    exact xL_law_c875 hst C0 (cB := cells + 3) (sB := slots + 18) (Nat.le_refl _) (Nat.le_refl _) (by omega) (by omega) (fun x4 h H locs ls hl hW hS hk => ih x4 h H locs ls (cells + 3) (slots + 18) (by omega) (by omega) hl hW hS hk) x4 ((fL_need a (xs (x4 + 1).toNatClampNeg) r3 h).1) ((fL_need a (xs (x4 + 1).toNatClampNeg) r3 h).2) _ _ _ (lv_sub hl [0, 1, 2, 3, 4] rfl) hW hS hs
                                  · have hs := And.right hs c111
                                    by_cases c119 : ((xs x4.toNatClampNeg) &&& 31) = 15
                                    · have hs := And.left hs c119
                                      refine ksw_in (tgt := 920) hx hb 15 c119 dL_law_39 (by decide) (by decide) rfl (by decide) ?_
                                      refine lv_aload_n hx hb dL_law_920 rfl (lv_at hl 1 rfl) ?_
                                      refine lv_aload_n hx hb dL_law_921 rfl (lv_at hl 0 rfl) ?_
                                      refine lv_iload hx hb dL_law_922 (lv_at hl 4 rfl) ?_
                                      refine lv_iconst (v := 1) hx hb dL_law_924 (by decide) ?_
                                      refine lv_iadd hx hb dL_law_925 ?_
                                      obtain ⟨hi120, hs⟩ := hs
                                      refine va_sld hx hb hX9 hbl hbA hS hi120 dL_law_926 ?_
                                      refine lv_aload_n hx hb dL_law_927 rfl (lv_at hl 3 rfl) ?_
                                      obtain ⟨hc121, hs⟩ := hs
                                      refine kSW_i (As := [.ref a, .int (xs (x4 + 1).toNatClampNeg), .ref r3]) (rest := []) ⟨hx, hb, hml, hown, hts⟩ (kL_missing l hst X h a (xs (x4 + 1).toNatClampNeg) r3 hO hJ hc121) (wL_missing hts q3_197 ⟨Nat.le_of_ble_eq_true rfl, Nat.le_of_ble_eq_true rfl⟩) hK hW hS rfl hl.1 rfl (Nat.le_of_ble_eq_true rfl) dL_law_928 ⟨by show _ ≤ 601024; omega, by show _ ≤ 7293034; omega⟩ (fun H locs hW hS => ?_)
                                      exact xL_law_c931 hst C0 (cB := cells + 3) (sB := slots + 18) (Nat.le_refl _) (Nat.le_refl _) (by omega) (by omega) (fun x4 h H locs ls hl hW hS hk => ih x4 h H locs ls (cells + 3) (slots + 18) (by omega) (by omega) hl hW hS hk) x4 ((fL_missing a (xs (x4 + 1).toNatClampNeg) r3 h).1) ((fL_missing a (xs (x4 + 1).toNatClampNeg) r3 h).2) _ _ _ (lv_sub hl [0, 1, 2, 3, 4] rfl) hW hS hs
                                    · have hs := And.right hs c119
                                      by_cases c127 : ((xs x4.toNatClampNeg) &&& 31) = 16
                                      · have hs := And.left hs c127
                                        refine ksw_in (tgt := 976) hx hb 16 c127 dL_law_39 (by decide) (by decide) rfl (by decide) ?_
                                        refine lv_aload_n hx hb dL_law_976 rfl (lv_at hl 1 rfl) ?_
                                        refine lv_aload_n hx hb dL_law_977 rfl (lv_at hl 0 rfl) ?_
                                        refine lv_iload hx hb dL_law_978 (lv_at hl 4 rfl) ?_
                                        refine lv_iconst (v := 1) hx hb dL_law_980 (by decide) ?_
                                        refine lv_iadd hx hb dL_law_981 ?_
                                        obtain ⟨hi128, hs⟩ := hs
                                        refine va_sld hx hb hX9 hbl hbA hS hi128 dL_law_982 ?_
                                        refine lv_aload_n hx hb dL_law_983 rfl (lv_at hl 0 rfl) ?_
                                        refine lv_iload hx hb dL_law_984 (lv_at hl 4 rfl) ?_
                                        refine lv_iconst (v := 2) hx hb dL_law_986 (by decide) ?_
                                        refine lv_iadd hx hb dL_law_987 ?_
                                        obtain ⟨hi129, hs⟩ := hs
                                        refine va_sld hx hb hX9 hbl hbA hS hi129 dL_law_988 ?_
                                        refine lv_aload_n hx hb dL_law_989 rfl (lv_at hl 3 rfl) ?_
                                        obtain ⟨hc130, hs⟩ := hs
                                        refine kSW_i (As := [.ref a, .int (xs (x4 + 1).toNatClampNeg), .int (xs (x4 + 2).toNatClampNeg), .ref r3]) (rest := []) ⟨hx, hb, hml, hown, hts⟩ (kL_score l hst X h a (xs (x4 + 1).toNatClampNeg) (xs (x4 + 2).toNatClampNeg) r3 hO hJ hc130) (wL_score hts q3_204 ⟨Nat.le_of_ble_eq_true rfl, Nat.le_of_ble_eq_true rfl⟩) hK hW hS rfl hl.1 rfl (Nat.le_of_ble_eq_true rfl) dL_law_990 ⟨by show _ ≤ 601024; omega, by show _ ≤ 7293034; omega⟩ (fun H locs hW hS => ?_)
                                        exact xL_law_c993 hst C0 (cB := cells + 3) (sB := slots + 18) (Nat.le_refl _) (Nat.le_refl _) (by omega) (by omega) (fun x4 h H locs ls hl hW hS hk => ih x4 h H locs ls (cells + 3) (slots + 18) (by omega) (by omega) hl hW hS hk) x4 ((fL_score a (xs (x4 + 1).toNatClampNeg) (xs (x4 + 2).toNatClampNeg) r3 h).1) ((fL_score a (xs (x4 + 1).toNatClampNeg) (xs (x4 + 2).toNatClampNeg) r3 h).2) _ _ _ (lv_sub hl [0, 1, 2, 3, 4] rfl) hW hS hs
                                      · have hs := And.right hs c127
                                        by_cases c137 : ((xs x4.toNatClampNeg) &&& 31) = 17
                                        · have hs := And.left hs c137
                                          refine ksw_in (tgt := 1044) hx hb 17 c137 dL_law_39 (by decide) (by decide) rfl (by decide) ?_
                                          refine lv_aload_n hx hb dL_law_1044 rfl (lv_at hl 1 rfl) ?_
                                          refine lv_aload_n hx hb dL_law_1045 rfl (lv_at hl 0 rfl) ?_
                                          refine lv_iload hx hb dL_law_1046 (lv_at hl 4 rfl) ?_
                                          refine lv_iconst (v := 1) hx hb dL_law_1048 (by decide) ?_
                                          refine lv_iadd hx hb dL_law_1049 ?_
                                          obtain ⟨hi138, hs⟩ := hs
                                          refine va_sld hx hb hX9 hbl hbA hS hi138 dL_law_1050 ?_
                                          refine lv_aload_n hx hb dL_law_1051 rfl (lv_at hl 3 rfl) ?_
                                          obtain ⟨hc139, hs⟩ := hs
                                          refine kSW_i (As := [.ref a, .int (xs (x4 + 1).toNatClampNeg), .ref r3]) (rest := []) ⟨hx, hb, hml, hown, hts⟩ (kL_rank l hst X h a (xs (x4 + 1).toNatClampNeg) r3 hO hJ hc139) (wL_rank hts q3_211 ⟨Nat.le_of_ble_eq_true rfl, Nat.le_of_ble_eq_true rfl⟩) hK hW hS rfl hl.1 rfl (Nat.le_of_ble_eq_true rfl) dL_law_1052 ⟨by show _ ≤ 601024; omega, by show _ ≤ 7293034; omega⟩ (fun H locs hW hS => ?_)
                                          exact xL_law_c1055 hst C0 (cB := cells + 3) (sB := slots + 18) (Nat.le_refl _) (Nat.le_refl _) (by omega) (by omega) (fun x4 h H locs ls hl hW hS hk => ih x4 h H locs ls (cells + 3) (slots + 18) (by omega) (by omega) hl hW hS hk) x4 ((fL_rank a (xs (x4 + 1).toNatClampNeg) r3 h).1) ((fL_rank a (xs (x4 + 1).toNatClampNeg) r3 h).2) _ _ _ (lv_sub hl [0, 1, 2, 3, 4] rfl) hW hS hs
                                        · have hs := And.right hs c137
                                          by_cases c145 : ((xs x4.toNatClampNeg) &&& 31) = 18
                                          · have hs := And.left hs c145
                                            refine ksw_in (tgt := 1100) hx hb 18 c145 dL_law_39 (by decide) (by decide) rfl (by decide) ?_
                                            refine lv_aload_n hx hb dL_law_1100 rfl (lv_at hl 1 rfl) ?_
                                            obtain ⟨hc146, hs⟩ := hs
                                            refine kV_i (As := []) (rest := []) ⟨hx, hb, hml, hown, hts⟩ (kX5_possible l X h a hO hc146) (wX5_possible hts q1_239 ⟨Nat.le_of_ble_eq_true rfl, Nat.le_of_ble_eq_true rfl⟩) hK hW hS (va_recv hK.1 (hW.one hO.1) (ci := 5) (q0 := 0) rfl rfl) rfl hl.1 rfl (Nat.le_of_ble_eq_true rfl) dL_law_1101 ⟨by show _ ≤ 601024; omega, by show _ ≤ 7293034; omega⟩ (fun H locs hW hS => ?_)
                                            exact xL_law_c1104 hst C0 (cB := cells + 3) (sB := slots + 18) (Nat.le_refl _) (Nat.le_refl _) (by omega) (by omega) (fun x4 h H locs ls hl hW hS hk => ih x4 h H locs ls (cells + 3) (slots + 18) (by omega) (by omega) hl hW hS hk) x4 ((fX5_possible a h).1) ((fX5_possible a h).2) _ _ _ (lv_sub hl [0, 1, 2, 3, 4] rfl) hW hS hs
                                          · have hs := And.right hs c145
                                            by_cases c149 : ((xs x4.toNatClampNeg) &&& 31) = 19
                                            · have hs := And.left hs c149
                                              refine ksw_in (tgt := 1113) hx hb 19 c149 dL_law_39 (by decide) (by decide) rfl (by decide) ?_
                                              refine lv_aload_n hx hb dL_law_1113 rfl (lv_at hl 1 rfl) ?_
                                              refine lv_aload_n hx hb dL_law_1114 rfl (lv_at hl 0 rfl) ?_
                                              refine lv_iload hx hb dL_law_1115 (lv_at hl 4 rfl) ?_
                                              refine lv_iconst (v := 1) hx hb dL_law_1117 (by decide) ?_
                                              refine lv_iadd hx hb dL_law_1118 ?_
                                              obtain ⟨hi150, hs⟩ := hs
                                              refine va_sld hx hb hX9 hbl hbA hS hi150 dL_law_1119 ?_
                                              refine lv_aload_n hx hb dL_law_1120 rfl (lv_at hl 3 rfl) ?_
                                              obtain ⟨hc151, hs⟩ := hs
                                              refine kSW_i (As := [.ref a, .int (xs (x4 + 1).toNatClampNeg), .ref r3]) (rest := []) ⟨hx, hb, hml, hown, hts⟩ (kL_option l hst X h a (xs (x4 + 1).toNatClampNeg) r3 hO hJ hc151) (wL_option hts q3_218 ⟨Nat.le_of_ble_eq_true rfl, Nat.le_of_ble_eq_true rfl⟩) hK hW hS rfl hl.1 rfl (Nat.le_of_ble_eq_true rfl) dL_law_1121 ⟨by show _ ≤ 601024; omega, by show _ ≤ 7293034; omega⟩ (fun H locs hW hS => ?_)
                                              exact xL_law_c1124 hst C0 (cB := cells + 3) (sB := slots + 18) (Nat.le_refl _) (Nat.le_refl _) (by omega) (by omega) (fun x4 h H locs ls hl hW hS hk => ih x4 h H locs ls (cells + 3) (slots + 18) (by omega) (by omega) hl hW hS hk) x4 ((fL_option a (xs (x4 + 1).toNatClampNeg) r3 h).1) ((fL_option a (xs (x4 + 1).toNatClampNeg) r3 h).2) _ _ _ (lv_sub hl [0, 1, 2, 3, 4] rfl) hW hS hs
                                            · have hs := And.right hs c149
                                              by_cases c157 : ((xs x4.toNatClampNeg) &&& 31) = 20
                                              · have hs := And.left hs c157
                                                refine ksw_in (tgt := 1169) hx hb 20 c157 dL_law_39 (by decide) (by decide) rfl (by decide) ?_
                                                refine lv_aload_n hx hb dL_law_1169 rfl (lv_at hl 1 rfl) ?_
                                                refine lv_aload_n hx hb dL_law_1170 rfl (lv_at hl 0 rfl) ?_
                                                refine lv_iload hx hb dL_law_1171 (lv_at hl 4 rfl) ?_
                                                refine lv_iconst (v := 1) hx hb dL_law_1173 (by decide) ?_
                                                refine lv_iadd hx hb dL_law_1174 ?_
                                                obtain ⟨hi158, hs⟩ := hs
                                                refine va_sld hx hb hX9 hbl hbA hS hi158 dL_law_1175 ?_
                                                refine lv_aload_n hx hb dL_law_1176 rfl (lv_at hl 3 rfl) ?_
                                                obtain ⟨hc159, hs⟩ := hs
                                                refine kSW_i (As := [.ref a, .int (xs (x4 + 1).toNatClampNeg), .ref r3]) (rest := []) ⟨hx, hb, hml, hown, hts⟩ (kL_bestScore l hst X h a (xs (x4 + 1).toNatClampNeg) r3 hO hJ hc159) (wL_bestScore hts q3_225 ⟨Nat.le_of_ble_eq_true rfl, Nat.le_of_ble_eq_true rfl⟩) hK hW hS rfl hl.1 rfl (Nat.le_of_ble_eq_true rfl) dL_law_1177 ⟨by show _ ≤ 601024; omega, by show _ ≤ 7293034; omega⟩ (fun H locs hW hS => ?_)
                                                exact xL_law_c1180 hst C0 (cB := cells + 3) (sB := slots + 18) (Nat.le_refl _) (Nat.le_refl _) (by omega) (by omega) (fun x4 h H locs ls hl hW hS hk => ih x4 h H locs ls (cells + 3) (slots + 18) (by omega) (by omega) hl hW hS hk) x4 ((fL_bestScore a (xs (x4 + 1).toNatClampNeg) r3 h).1) ((fL_bestScore a (xs (x4 + 1).toNatClampNeg) r3 h).2) _ _ _ (lv_sub hl [0, 1, 2, 3, 4] rfl) hW hS hs
                                              · have hs := And.right hs c157
                                                by_cases c165 : ((xs x4.toNatClampNeg) &&& 31) = 21
                                                · have hs := And.left hs c165
                                                  refine ksw_in (tgt := 1225) hx hb 21 c165 dL_law_39 (by decide) (by decide) rfl (by decide) ?_
                                                  refine lv_aload_n hx hb dL_law_1225 rfl (lv_at hl 1 rfl) ?_
                                                  refine lv_aload_n hx hb dL_law_1226 rfl (lv_at hl 0 rfl) ?_
                                                  refine lv_iload hx hb dL_law_1227 (lv_at hl 4 rfl) ?_
                                                  refine lv_iconst (v := 1) hx hb dL_law_1229 (by decide) ?_
                                                  refine lv_iadd hx hb dL_law_1230 ?_
                                                  obtain ⟨hi166, hs⟩ := hs
                                                  refine va_sld hx hb hX9 hbl hbA hS hi166 dL_law_1231 ?_
                                                  refine lv_aload_n hx hb dL_law_1232 rfl (lv_at hl 0 rfl) ?_
                                                  refine lv_iload hx hb dL_law_1233 (lv_at hl 4 rfl) ?_
                                                  refine lv_iconst (v := 2) hx hb dL_law_1235 (by decide) ?_
                                                  refine lv_iadd hx hb dL_law_1236 ?_
                                                  obtain ⟨hi167, hs⟩ := hs
                                                  refine va_sld hx hb hX9 hbl hbA hS hi167 dL_law_1237 ?_
                                                  refine lv_aload_n hx hb dL_law_1238 rfl (lv_at hl 3 rfl) ?_
                                                  obtain ⟨hc168, hs⟩ := hs
                                                  refine kSW_i (As := [.ref a, .int (xs (x4 + 1).toNatClampNeg), .int (xs (x4 + 2).toNatClampNeg), .ref r3]) (rest := []) ⟨hx, hb, hml, hown, hts⟩ (kL_bestPlacement l hst X h a (xs (x4 + 1).toNatClampNeg) (xs (x4 + 2).toNatClampNeg) r3 hO hJ hc168) (wL_bestPlacement hts q3_232 ⟨Nat.le_of_ble_eq_true rfl, Nat.le_of_ble_eq_true rfl⟩) hK hW hS rfl hl.1 rfl (Nat.le_of_ble_eq_true rfl) dL_law_1239 ⟨by show _ ≤ 601024; omega, by show _ ≤ 7293034; omega⟩ (fun H locs hW hS => ?_)
                                                  exact xL_law_c1242 hst C0 (cB := cells + 3) (sB := slots + 18) (Nat.le_refl _) (Nat.le_refl _) (by omega) (by omega) (fun x4 h H locs ls hl hW hS hk => ih x4 h H locs ls (cells + 3) (slots + 18) (by omega) (by omega) hl hW hS hk) x4 ((fL_bestPlacement a (xs (x4 + 1).toNatClampNeg) (xs (x4 + 2).toNatClampNeg) r3 h).1) ((fL_bestPlacement a (xs (x4 + 1).toNatClampNeg) (xs (x4 + 2).toNatClampNeg) r3 h).2) _ _ _ (lv_sub hl [0, 1, 2, 3, 4] rfl) hW hS hs
                                                · have hs := And.right hs c165
                                                  by_cases c175 : ((xs x4.toNatClampNeg) &&& 31) = 22
                                                  · have hs := And.left hs c175
                                                    refine ksw_in (tgt := 1293) hx hb 22 c175 dL_law_39 (by decide) (by decide) rfl (by decide) ?_
                                                    refine lv_aload_n hx hb dL_law_1293 rfl (lv_at hl 1 rfl) ?_
                                                    refine kV_i (As := []) (rest := []) ⟨hx, hb, hml, hown, hts⟩ (kX5_moves l X h a hO) (wX5_moves hts q2_52 ⟨Nat.le_of_ble_eq_true rfl, Nat.le_of_ble_eq_true rfl⟩) hK hW hS (va_recv hK.1 (hW.one hO.1) (ci := 5) (q0 := 0) rfl rfl) rfl hl.1 rfl (Nat.le_of_ble_eq_true rfl) dL_law_1294 ⟨by show _ ≤ 601024; omega, by show _ ≤ 7293034; omega⟩ (fun H locs hW hS => ?_)
                                                    refine lv_aload_n hx hb dL_law_1297 rfl (lv_at hl 2 rfl) ?_
                                                    obtain ⟨hc176, hs⟩ := hs
                                                    refine kV_i (As := []) (rest := [.int (fX5_moves a h)]) ⟨hx, hb, hml, hown, hts⟩ (kX6_moves l X h r2 hM hc176) (wX6_moves hts q5_104 ⟨Nat.le_of_ble_eq_true rfl, Nat.le_of_ble_eq_true rfl⟩) hK hW hS (va_recv hK.1 (hW.one hM.1) (ci := 6) (q0 := 0) rfl rfl) rfl hl.1 rfl (Nat.le_of_ble_eq_true rfl) dL_law_1298 ⟨by show _ ≤ 601024; omega, by show _ ≤ 7293034; omega⟩ (fun H locs hW hS => ?_)
                                                    exact xL_law_c1301 hst C0 (cB := cells + 3) (sB := slots + 18) (Nat.le_refl _) (Nat.le_refl _) (by omega) (by omega) (fun x4 h H locs ls hl hW hS hk => ih x4 h H locs ls (cells + 3) (slots + 18) (by omega) (by omega) hl hW hS hk) x4 ((fX6_moves r2 h).1) (fX5_moves a h) ((fX6_moves r2 h).2) _ _ _ (lv_sub hl [0, 1, 2, 3, 4] rfl) hW hS hs
                                                  · have hs := And.right hs c175
                                                    by_cases c178 : ((xs x4.toNatClampNeg) &&& 31) = 23
                                                    · have hs := And.left hs c178
                                                      refine ksw_in (tgt := 1306) hx hb 23 c178 dL_law_39 (by decide) (by decide) rfl (by decide) ?_
                                                      refine lv_aload_n hx hb dL_law_1306 rfl (lv_at hl 1 rfl) ?_
                                                      refine lv_aload_n hx hb dL_law_1307 rfl (lv_at hl 0 rfl) ?_
                                                      refine lv_iload hx hb dL_law_1308 (lv_at hl 4 rfl) ?_
                                                      refine lv_iconst (v := 1) hx hb dL_law_1310 (by decide) ?_
                                                      refine lv_iadd hx hb dL_law_1311 ?_
                                                      obtain ⟨hi179, hs⟩ := hs
                                                      refine va_sld hx hb hX9 hbl hbA hS hi179 dL_law_1312 ?_
                                                      refine lv_aload_n hx hb dL_law_1313 rfl (lv_at hl 0 rfl) ?_
                                                      refine lv_iload hx hb dL_law_1314 (lv_at hl 4 rfl) ?_
                                                      refine lv_iconst (v := 2) hx hb dL_law_1316 (by decide) ?_
                                                      refine lv_iadd hx hb dL_law_1317 ?_
                                                      obtain ⟨hi180, hs⟩ := hs
                                                      refine va_sld hx hb hX9 hbl hbA hS hi180 dL_law_1318 ?_
                                                      refine lv_aload_n hx hb dL_law_1319 rfl (lv_at hl 3 rfl) ?_
                                                      obtain ⟨hc181, hs⟩ := hs
                                                      refine kSW_i (As := [.ref a, .int (xs (x4 + 1).toNatClampNeg), .int (xs (x4 + 2).toNatClampNeg), .ref r3]) (rest := []) ⟨hx, hb, hml, hown, hts⟩ (kL_move l hst X h a (xs (x4 + 1).toNatClampNeg) (xs (x4 + 2).toNatClampNeg) r3 hO hJ hc181) (wL_move hts q3_239 ⟨Nat.le_of_ble_eq_true rfl, Nat.le_of_ble_eq_true rfl⟩) hK hW hS rfl hl.1 rfl (Nat.le_of_ble_eq_true rfl) dL_law_1320 ⟨by show _ ≤ 601024; omega, by show _ ≤ 7293034; omega⟩ (fun H locs hW hS => ?_)
                                                      exact xL_law_c1323 hst C0 (cB := cells + 3) (sB := slots + 18) (Nat.le_refl _) (Nat.le_refl _) (by omega) (by omega) (fun x4 h H locs ls hl hW hS hk => ih x4 h H locs ls (cells + 3) (slots + 18) (by omega) (by omega) hl hW hS hk) x4 ((fL_move a (xs (x4 + 1).toNatClampNeg) (xs (x4 + 2).toNatClampNeg) r3 h).1) ((fL_move a (xs (x4 + 1).toNatClampNeg) (xs (x4 + 2).toNatClampNeg) r3 h).2) _ _ _ (lv_sub hl [0, 1, 2, 3, 4] rfl) hW hS hs
                                                    · have hs := And.right hs c178
                                                      by_cases c188 : ((xs x4.toNatClampNeg) &&& 31) = 24
                                                      · have hs := And.left hs c188
                                                        refine ksw_in (tgt := 1374) hx hb 24 c188 dL_law_39 (by decide) (by decide) rfl (by decide) ?_
                                                        refine lv_aload_n hx hb dL_law_1374 rfl (lv_at hl 1 rfl) ?_
                                                        refine lv_aload_n hx hb dL_law_1375 rfl (lv_at hl 3 rfl) ?_
                                                        obtain ⟨hc189, hs⟩ := hs
                                                        refine kSW_i (As := [.ref a, .ref r3]) (rest := []) ⟨hx, hb, hml, hown, hts⟩ (kL_undo l hst X h a r3 hO hJ hc189) (wL_undo hts q4_6 ⟨Nat.le_of_ble_eq_true rfl, Nat.le_of_ble_eq_true rfl⟩) hK hW hS rfl hl.1 rfl (Nat.le_of_ble_eq_true rfl) dL_law_1376 ⟨by show _ ≤ 601024; omega, by show _ ≤ 7293034; omega⟩ (fun H locs hW hS => ?_)
                                                        exact xL_law_c1379 hst C0 (cB := cells + 3) (sB := slots + 18) (Nat.le_refl _) (Nat.le_refl _) (by omega) (by omega) (fun x4 h H locs ls hl hW hS hk => ih x4 h H locs ls (cells + 3) (slots + 18) (by omega) (by omega) hl hW hS hk) x4 ((fL_undo a r3 h).1) ((fL_undo a r3 h).2) _ _ _ (lv_sub hl [0, 1, 2, 3, 4] rfl) hW hS hs
                                                      · have hs := And.right hs c188
                                                        by_cases c194 : ((xs x4.toNatClampNeg) &&& 31) = 25
                                                        · have hs := And.left hs c194
                                                          refine ksw_in (tgt := 1418) hx hb 25 c194 dL_law_39 (by decide) (by decide) rfl (by decide) ?_
                                                          refine lv_aload_n hx hb dL_law_1418 rfl (lv_at hl 1 rfl) ?_
                                                          obtain ⟨hc195, hs⟩ := hs
                                                          refine kV_l (As := []) (rest := []) ⟨hx, hb, hml, hown, hts⟩ (kX5_digest l X h a hO hc195) (wX5_digest hts q2_56 ⟨Nat.le_of_ble_eq_true rfl, Nat.le_of_ble_eq_true rfl⟩) hK hW hS (va_recv hK.1 (hW.one hO.1) (ci := 5) (q0 := 0) rfl rfl) rfl hl.1 rfl (Nat.le_of_ble_eq_true rfl) dL_law_1419 ⟨by show _ ≤ 601024; omega, by show _ ≤ 7293034; omega⟩ (fun H locs hW hS => ?_)
                                                          exact xL_law_c1422 hst C0 (cB := cells + 3) (sB := slots + 18) (Nat.le_refl _) (Nat.le_refl _) (by omega) (by omega) (fun x4 h H locs ls hl hW hS hk => ih x4 h H locs ls (cells + 3) (slots + 18) (by omega) (by omega) hl hW hS hk) x4 ((fX5_digest a h).1) ((fX5_digest a h).2) _ _ _ (lv_sub hl [0, 1, 2, 3, 4] rfl) hW hS hs
                                                        · have hs := And.right hs c194
                                                          refine lv_tableOut (tgt := 1432) hx hb dL_law_39 (by have := lv_neT (a := 0) c3 (by decide); have := lv_neT (a := 1) c13 (by decide); have := lv_neT (a := 2) c23 (by decide); have := lv_neT (a := 3) c33 (by decide); have := lv_neT (a := 4) c39 (by decide); have := lv_neT (a := 5) c49 (by decide); have := lv_neT (a := 6) c52 (by decide); have := lv_neT (a := 7) c55 (by decide); have := lv_neT (a := 8) c58 (by decide); have := lv_neT (a := 9) c61 (by decide); have := lv_neT (a := 10) c71 (by decide); have := lv_neT (a := 11) c81 (by decide); have := lv_neT (a := 12) c89 (by decide); have := lv_neT (a := 13) c99 (by decide); have := lv_neT (a := 14) c111 (by decide); have := lv_neT (a := 15) c119 (by decide); have := lv_neT (a := 16) c127 (by decide); have := lv_neT (a := 17) c137 (by decide); have := lv_neT (a := 18) c145 (by decide); have := lv_neT (a := 19) c149 (by decide); have := lv_neT (a := 20) c157 (by decide); have := lv_neT (a := 21) c165 (by decide); have := lv_neT (a := 22) c175 (by decide); have := lv_neT (a := 23) c178 (by decide); have := lv_neT (a := 24) c188 (by decide); have := lv_neT (a := 25) c194 (by decide); omega) (by decide) ?_
                                                          exact xL_law_c1432v1 hst C0 (cB := cells + 3) (sB := slots + 18) (Nat.le_refl _) (Nat.le_refl _) (by omega) (by omega) (fun x4 h H locs ls hl hW hS hk => ih x4 h H locs ls (cells + 3) (slots + 18) (by omega) (by omega) hl hW hS hk) x4 h _ _ _ (lv_sub hl [0, 1, 2, 3, 4] rfl) hW hS hs
