/-! methods that return or throw: what they answer is (0, value, heap) or (number of the exception, 0, heap) -/
def exN (k : Nat) : String := if k = 1 then "java/lang/IllegalArgumentException" else if k = 2 then "java/lang/IndexOutOfBoundsException" else "java/lang/IllegalStateException"
/-- int answers -/
def QXi (X : Cx) (r : Nat × Int32 × HH) : Array Value → State → Outcome → State → Prop := fun _ st oc t => r.1 = 0 ∧ oc = .returned (some (.int r.2.1)) ∧ WS X r.2.2 t ∧ va_F (xA X) st t
def XXi (X : Cx) (r : Nat × Int32 × HH) : String → State → State → Prop := fun E st t => r.1 ≠ 0 ∧ E = exN r.1 ∧ WH X r.2.2 t.heap ∧ va_F (xA X) st t
/-- no answer, the heap as it was -/
def QXv (X : Cx) (r : Nat) (h : HH) : Array Value → State → Outcome → State → Prop := fun _ st oc t => r = 0 ∧ oc = .returned none ∧ WS X h t ∧ va_F (xA X) st t
def XXv (X : Cx) (r : Nat) (h : HH) : String → State → State → Prop := fun E st t => r ≠ 0 ∧ E = exN r ∧ WH X h t.heap ∧ va_F (xA X) st t
section KX
variable {p : Program} {l : Launch} {e : Env} {R : Room} {s : State} {m : MethodId} {args : Array Value} {below : List Frame} {meth : Method} {c : Code} {H : Heap} {locs : List Loc} {cells slots : Nat} {Q : State → Prop}
variable {cc : ByteArray} {pc : Nat} {ls : Array Slot} {rest : List Value} {X : Cx} {h : HH} {a : Nat}
variable {y : MethodName} {bytes : ByteArray} {maxL nL n index : Nat} {ret : Option FieldType} {ws : List Cond} {rm : Room} {Ts : List Cond} {own C : String} {b : Addr} {As st : List Value} {h' : HH}
theorem kxr_i {mc ms : Nat} (hx : p.tables.exec = Jvm.exec) (hb : c.code = cc) (hr : meth.sig.returnType = some .int) (hl : meth.locks = false) (hK : KS X s) (hW : WH X h H) (hS : va_S (xA X) s.heap H locs) {v : Int32} (hd : decode cc pc = .ok (.ireturn, 1)) (h1 : cells ≤ mc) (h2 : slots ≤ ms) {XC : String → State → State → Prop} :
    W p l e R s m args below meth c H locs cells slots (vx_MQ below (QXi X (0, v, h)) XC args s mc ms (xA X)) (F0 m pc ls [.int v]) :=
  vx_ret (W.widen h1 h2 (W.iret hx hb hr (fun t ht hw => ⟨rfl, rfl, ⟨by rw [ht]; exact hW, hK.go hw (by rw [ht]; exact hS)⟩, hS.F ht⟩) hS.2.2 hd hl))
theorem kxr_v {mc ms : Nat} (hx : p.tables.exec = Jvm.exec) (hb : c.code = cc) (hr : meth.sig.returnType = none) (hl : meth.locks = false) (hK : KS X s) (hW : WH X h H) (hS : va_S (xA X) s.heap H locs) (hd : decode cc pc = .ok (.return_, 1)) (h1 : cells ≤ mc) (h2 : slots ≤ ms) {XC : String → State → State → Prop} :
    W p l e R s m args below meth c H locs cells slots (vx_MQ below (QXv X 0 h) XC args s mc ms (xA X)) (F0 m pc ls []) :=
  vx_ret (W.widen h1 h2 (W.vret hx hb hr (fun t ht hw => ⟨rfl, rfl, ⟨by rw [ht]; exact hW, hK.go hw (by rw [ht]; exact hS)⟩, hS.F ht⟩) hS.2.2 hd hl))
theorem kx_S {st₀ t T' : State} {L : List Loc} (h0 : st₀.heap = H) (e1 : T'.heap = t.heap) (hS : va_S (xA X) s.heap H locs) (hL : ∀ q ∈ L, xA X q.base) (hF : va_F (xA X) st₀ t) : va_S (xA X) s.heap T'.heap (locs ++ L) := by
  obtain ⟨hz, hk⟩ := hF
  rw [h0] at hz hk
  exact ⟨Nat.le_trans hS.1 (by rw [e1]; exact hz), fun q h1 h2 => by rw [e1, hk q (Nat.lt_of_lt_of_le h1 hS.1) h2]; exact hS.2.1 q h1 h2, fun q hq => by
      rcases List.mem_append.mp hq with h | h
      · exact hS.2.2 q h
      · exact hL q h⟩
/-- a call that may throw, out of a method that doesn't catch: no answer -/
theorem kx_call {cd mc ms mt mu : Nat} {st0 : List Value} {av : Array Value} {Qc : Array Value → State → Outcome → State → Prop} {XC : String → State → State → Prop} (hr : vx_Run p l e R s m args below meth c H locs cells slots mc ms (F0 m pc ls st0) rest (QXv X cd h av) (XXv X cd h) (xA X)) (hS : va_S (xA X) s.heap H locs) (hK : KS X s) (hlk : meth.locks = false) (hout : ∀ x ∈ c.exceptionTable.toList, False) (hmc : cells + mc ≤ mt) (hms : slots + ms ≤ mu)
    (hth : cd ≠ 0 → ∀ t : State, WH X h t.heap → va_F (xA X) s t → XC (exN cd) s t)
    (kk : cd = 0 → ∀ (H1 : Heap) (locs1 : List Loc), WH X h H1 → va_S (xA X) s.heap H1 locs1 → W p l e R s m args below meth c H1 locs1 (cells + mc) (slots + ms) (vx_MQ below Qc XC args s mt mu (xA X)) (F0 m (pc + 3) ls rest)) : W p l e R s m args below meth c H locs cells slots (vx_MQ below Qc XC args s mt mu (xA X)) (F0 m pc ls st0) := by
  intro T hT Xs
  rcases hr T hT Xs with ⟨v, st₀, t, T', L, h0, X', hL, e1, e2, ⟨hz, hv, hws, hF⟩, st⟩ | ⟨q, st₀, t, T', L, E, ce, h0, X', hL, e1, e2, ⟨hz, hE, hws, hF⟩, hce, hcv, hcl, st⟩
  · cases hv
    obtain ⟨t2, a1, b1⟩ := kk hz T'.heap (locs ++ L) (by rw [e1]; exact hws.1) (kx_S h0 e1 hS hL hF) T' rfl X'
    exact ⟨t2, st t2 a1, b1⟩
  · subst hE
    have hS1 : va_S (xA X) s.heap T'.heap (locs ++ L) := kx_S h0 e1 hS hL hF
    have K := vx_out (p := p) (l := l) (e := e) (R := R) (args := args) (below := below) (Qc := Qc) (XC := XC) (free := xA X) (rest := rest) (ls := ls) (pc := pc) (mc := mt) (ms := mu) (H := T'.heap) (locs := locs ++ L) (cells := cells + mc) (slots := slots + ms) (m := m) (fun x hx => (hout x hx).elim) hlk (by rw [e1]; exact hce) hcv hcl
      (fun t9 ht9 hal => hth hz t9 (by rw [ht9, e1]; exact hws) (hS1.F ht9)) hS1.2.2 hmc hms
    obtain ⟨t2, a1, b1⟩ := K T' rfl X'
    exact ⟨t2, st.trans a1, b1⟩
/-- static and own calls of such methods -/
theorem kxS {cd mt mu : Nat} {Qc : Array Value → State → Outcome → State → Prop} {XC : String → State → State → Prop} (S : CallFix p m c cc nL s args Ts own) (hM : vx_Met l y ws rm (va_Pc As (fun U => WS X h U)) (QXv X cd h) (XXv X cd h) 1 6 (xA X)) (cw : CallB R s args own index y bytes maxL ret ws rm 1 6 n ∧ (Cond.static y).before args s = true) (hK : KS X s) (hW : WH X h H) (hS : va_S (xA X) s.heap H locs) (hn : As.length = n) (hsz : ls.size = nL) (hst : st = As.reverse ++ rest) (hrm : (rest.map fun v => v.category).sum ≤ 8) (hdg : decode cc pc = .ok (.invokestatic index, 3)) (hf : cells + 1 ≤ R.cells ∧ slots + 6 ≤ R.slots)
    (hlk : meth.locks = false) (hout : ∀ x ∈ c.exceptionTable.toList, False) (hmc : cells + 1 ≤ mt) (hms : slots + 6 ≤ mu) (hth : cd ≠ 0 → ∀ t : State, WH X h t.heap → va_F (xA X) s t → XC (exN cd) s t)
    (kk : cd = 0 → ∀ (H1 : Heap) (locs1 : List Loc), WH X h H1 → va_S (xA X) s.heap H1 locs1 → W p l e R s m args below meth c H1 locs1 (cells + 1) (slots + 6) (vx_MQ below Qc XC args s mt mu (xA X)) (F0 m (pc + 3) ls rest)) : W p l e R s m args below meth c H locs cells slots (vx_MQ below Qc XC args s mt mu (xA X)) (F0 m pc ls st) :=
  kx_call (vx_runS (g := F0 m pc ls st) S hM cw ⟨WS.blind, WS.pre hK hW hS⟩ rfl hn hsz hst (lv_room hrm) hdg hf) hS hK hlk hout hmc hms hth kk
theorem kxV {cd mt mu : Nat} {Qc : Array Value → State → Outcome → State → Prop} {XC : String → State → State → Prop} (S : CallFix p m c cc nL s args Ts own) (hM : vx_Met l y ws rm (va_Pc (.ref b :: As) (fun U => WS X h U)) (QXv X cd h) (XXv X cd h) 1 6 (xA X)) (cw : CallW R s args own C index y bytes maxL ret ws rm 1 6 n) (hK : KS X s) (hW : WH X h H) (hS : va_S (xA X) s.heap H locs) (hrc : RecvAt s H C b) (hn : As.length = n) (hsz : ls.size = nL) (hst : st = As.reverse ++ .ref b :: rest) (hrm : (rest.map fun v => v.category).sum ≤ 8) (hdg : decode cc pc = .ok (.invokevirtual index, 3)) (hf : cells + 1 ≤ R.cells ∧ slots + 6 ≤ R.slots)
    (hlk : meth.locks = false) (hout : ∀ x ∈ c.exceptionTable.toList, False) (hmc : cells + 1 ≤ mt) (hms : slots + 6 ≤ mu) (hth : cd ≠ 0 → ∀ t : State, WH X h t.heap → va_F (xA X) s t → XC (exN cd) s t)
    (kk : cd = 0 → ∀ (H1 : Heap) (locs1 : List Loc), WH X h H1 → va_S (xA X) s.heap H1 locs1 → W p l e R s m args below meth c H1 locs1 (cells + 1) (slots + 6) (vx_MQ below Qc XC args s mt mu (xA X)) (F0 m (pc + 3) ls rest)) : W p l e R s m args below meth c H locs cells slots (vx_MQ below Qc XC args s mt mu (xA X)) (F0 m pc ls st) :=
  kx_call (vx_runV (g := F0 m pc ls st) S hM cw ⟨WS.blind, hrc, WS.pre hK hW hS⟩ rfl hn hsz hst (lv_room hrm) hdg hf) hS hK hlk hout hmc hms hth kk
end KX
theorem xh_i {X : Cx} {s : State} {r : Nat × Int32 × HH} {h : HH} {cd : Nat} (e : cd ≠ 0 → (cd, 0, h) = r) : cd ≠ 0 → ∀ t : State, WH X h t.heap → va_F (xA X) s t → XXi X r (exN cd) s t := fun hz t hw hF => by
  rw [← e hz]; exact ⟨hz, rfl, hw, hF⟩
theorem xh_v {X : Cx} {s : State} {r : Nat} {h : HH} {cd : Nat} (e : cd ≠ 0 → cd = r) : cd ≠ 0 → ∀ t : State, WH X h t.heap → va_F (xA X) s t → XXv X r h (exN cd) s t := fun hz t hw hF => by
  rw [← e hz]; exact ⟨hz, rfl, hw, hF⟩
/-- the words of the three throws -/
abbrev exCh : List String := ["java/lang/RuntimeException", "java/lang/Exception"]
def exB (E : String) : List Cond := [.castable E E, .declares ⟨"java/lang/RuntimeException", "<init>", "(Ljava/lang/String;)V"⟩, .declares ⟨"java/lang/Exception", "<init>", "(Ljava/lang/String;)V"⟩, .declares ⟨"java/lang/Throwable", "<init>", "(Ljava/lang/String;)V"⟩]
theorem exg1 : ∀ w ∈ (vx_atS RX5 183 "java/lang/IllegalArgumentException" exCh).filter goodWord, w ∈ lwG := by decide +kernel
theorem exg2 : ∀ w ∈ (vx_atS RX5 176 "java/lang/IndexOutOfBoundsException" exCh).filter goodWord, w ∈ lwG := by decide +kernel
theorem exg3 : ∀ w ∈ (vx_atS RX5 188 "java/lang/IllegalStateException" exCh).filter goodWord, w ∈ lwG := by decide +kernel
theorem exn1 : ∀ w ∈ (vx_atS RX5 183 "java/lang/IllegalArgumentException" exCh).filter (fun w => !goodWord w), w ∈ exB "java/lang/IllegalArgumentException" := by decide +kernel
theorem exn2 : ∀ w ∈ (vx_atS RX5 176 "java/lang/IndexOutOfBoundsException" exCh).filter (fun w => !goodWord w), w ∈ exB "java/lang/IndexOutOfBoundsException" := by decide +kernel
theorem exn3 : ∀ w ∈ (vx_atS RX5 188 "java/lang/IllegalStateException" exCh).filter (fun w => !goodWord w), w ∈ exB "java/lang/IllegalStateException" := by decide +kernel
theorem exb {A : Nat → Prop} {s : State} {args : Array Value} (hK : KX A s) {E : String} (hc : va_Nw (.castable E E) s) : ∀ w ∈ exB E, w.before args s = true :=
  vx_c (va_Nw.use rfl hc) (vx_c (va_Nw.use rfl hK.2.2.2.2.2.1.1) (vx_c (va_Nw.use rfl hK.2.2.2.2.2.1.2.1) (vx_c (va_Nw.use rfl hK.2.2.2.2.2.1.2.2) vx_n)))
theorem exat1 {A : Nat → Prop} {s : State} {args : Array Value} (hts : ∀ w ∈ lwG, w.before args s = true) (hK : KX A s) : ∀ w ∈ vx_atS RX5 183 "java/lang/IllegalArgumentException" exCh, w.before args s = true := vx_hat (fun w h => hts w (exg1 w h)) exn1 (exb hK hK.2.2.2.2.2.2.1.1)
theorem exat2 {A : Nat → Prop} {s : State} {args : Array Value} (hts : ∀ w ∈ lwG, w.before args s = true) (hK : KX A s) : ∀ w ∈ vx_atS RX5 176 "java/lang/IndexOutOfBoundsException" exCh, w.before args s = true := vx_hat (fun w h => hts w (exg2 w h)) exn2 (exb hK hK.2.2.2.2.2.2.1.2.1)
theorem exat3 {A : Nat → Prop} {s : State} {args : Array Value} (hts : ∀ w ∈ lwG, w.before args s = true) (hK : KX A s) : ∀ w ∈ vx_atS RX5 188 "java/lang/IllegalStateException" exCh, w.before args s = true := vx_hat (fun w h => hts w (exg3 w h)) exn3 (exb hK hK.2.2.2.2.2.2.1.2.2)
theorem exo1 : ∀ w ∈ Cond.classLink RX5 179 "java/lang/IllegalArgumentException" :: Cond.initialized "java/lang/IllegalArgumentException" :: vx_atS RX5 183 "java/lang/IllegalArgumentException" exCh, vx_ot w = true := by decide +kernel
theorem exo2 : ∀ w ∈ Cond.classLink RX5 172 "java/lang/IndexOutOfBoundsException" :: Cond.initialized "java/lang/IndexOutOfBoundsException" :: vx_atS RX5 176 "java/lang/IndexOutOfBoundsException" exCh, vx_ot w = true := by decide +kernel
theorem exo3 : ∀ w ∈ Cond.classLink RX5 184 "java/lang/IllegalStateException" :: Cond.initialized "java/lang/IllegalStateException" :: vx_atS RX5 188 "java/lang/IllegalStateException" exCh, vx_ot w = true := by decide +kernel
/-- the heap has grown at its end -/
theorem WH.grow {X : Cx} {h : HH} {H : Heap} (hW : WH X h H) {t : State} (hk : ∀ q : Nat, q < H.size → t.heap[q]? = H[q]?) : WH X h t.heap := fun a f hL => ⟨(hW a f hL).1, ((hW a f hL).2).kept (hk a ((hW a f hL).2).lt)⟩
