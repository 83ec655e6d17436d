abbrev rmX5_requireIndex : Room := { frames := 6, cells := 1, slots := 6, locals := 90 }
abbrev vX5_requireIndex : List Cond := Cond.code yX5_requireIndex cX5_requireIndex 1 none :: lwG
theorem wX5_requireIndex {R : Room} {s : State} {args : Array Value} {idx : Nat} (hg : ∀ w ∈ lwG, w.before args s = true) (hl : Cond.methodLink RX5 idx yX5_requireIndex ∈ lwG) (hR : rmX5_requireIndex.frames + 1 ≤ R.frames ∧ 8 + (1 + 11) + rmX5_requireIndex.locals ≤ R.locals) : CallB R s args RX5 idx yX5_requireIndex cX5_requireIndex 1 none vX5_requireIndex rmX5_requireIndex 1 6 1 ∧ (Cond.static yX5_requireIndex).before args s = true := cwS 1 hg (gS hl q3_58 q1_1 q3_59) rfl rfl rfl (by decide +kernel) hR
def fX5_requireIndex (x0 : Int32) : Nat := if x0 = 0 then 2 else 0
set_option maxRecDepth 100000 in
set_option maxHeartbeats 4000000 in
theorem kX5_requireIndex (l : Launch) (hst : l.stackTraces = false) (X : Cx) (h : HH) (x0 : Int32) : vx_Met l yX5_requireIndex vX5_requireIndex rmX5_requireIndex (va_Pc [.int x0] (fun U => WS X h U)) (QXv X (fX5_requireIndex x0) h) (XXv X (fX5_requireIndex x0) h) 1 6 (xA X) := by
  refine vx_ofW (cc := cX5_requireIndex) (maxL := 1) (ret := none) (by decide) rfl ?_
  intro p e s m args below meth c s₁ B hml hout hv
  obtain ⟨rfl, hW, hK⟩ := hv
  have hl := lv_entry ([.int x0]) (n := 1) (Nat.le_of_ble_eq_true rfl)
  rw [lg_entry_eq]
  generalize (lg_sl ([.int x0]) ++ List.replicate (1 - (lg_sl ([.int x0])).length) Slot.unset).toArray = ls at hl ⊢
  have hl : lv_has ls 1 [(0, .int x0)] := hl
  have hx := B.exec
  have hb := B.bytes
  have hr := B.returns
  have hlk := B.notSynchronized
  have hown : s.vm.findClass RX5 = some m.cls := findClass_of_methodNamed B.named
  have hts : ∀ w ∈ lwG, w.before _ s = true := fun w hw => atoms_spec (ws := vX5_requireIndex) B.pre w (List.mem_cons_of_mem _ hw)
  have hS : va_S (xA X) s.heap s.heap [] := va_S.rf
  refine lv_iload_n hx hb dX5_requireIndex_0 rfl (lv_at hl 0 rfl) ?_
  refine lv_if_ne (tgt := 14) hx hb dX5_requireIndex_1 (by decide) (fun c1 => ?_) (fun c1 => ?_)
  · have e9 : fX5_requireIndex x0 = 0 := if_neg c1
    rw [e9]
    exact kxr_v hx hb hr hlk hK hW hS dX5_requireIndex_14 (Nat.le_of_ble_eq_true rfl) (Nat.le_of_ble_eq_true rfl)
  · have e9 : fX5_requireIndex x0 = 2 := if_pos c1
    rw [e9]
    obtain ⟨sa, hsa⟩ := hK.2.2.2.2.2.2.1
    exact vx_throwS hx hb hst hown (by decide) (by decide) (hts _ q3_60) (hts _ q1_14) hsa (exat2 hts hK.2.2.2) exo2 hK.2.2.2.1 hK.2.2.2.2.1 hS (hl.1.trans hml.symm) dX5_requireIndex_4 dX5_requireIndex_7 dX5_requireIndex_8 dX5_requireIndex_10 dX5_requireIndex_13 (fun x hx => (hout x hx).elim) (Nat.le_of_ble_eq_true rfl) (Nat.le_of_ble_eq_true rfl) (Nat.le_of_ble_eq_true rfl) (Nat.le_of_ble_eq_true rfl) hlk (fun t hal hz hk => ⟨by decide, rfl, hW.grow hk, hz, fun q h1 _ => hk q h1⟩) hS.2.2 (Nat.le_of_ble_eq_true rfl) (Nat.le_of_ble_eq_true rfl)
abbrev rmX5_requireArgument : Room := { frames := 6, cells := 1, slots := 6, locals := 90 }
abbrev vX5_requireArgument : List Cond := Cond.code yX5_requireArgument cX5_requireArgument 1 none :: lwG
theorem wX5_requireArgument {R : Room} {s : State} {args : Array Value} {idx : Nat} (hg : ∀ w ∈ lwG, w.before args s = true) (hl : Cond.methodLink RX5 idx yX5_requireArgument ∈ lwG) (hR : rmX5_requireArgument.frames + 1 ≤ R.frames ∧ 8 + (1 + 11) + rmX5_requireArgument.locals ≤ R.locals) : CallB R s args RX5 idx yX5_requireArgument cX5_requireArgument 1 none vX5_requireArgument rmX5_requireArgument 1 6 1 ∧ (Cond.static yX5_requireArgument).before args s = true := cwS 1 hg (gS hl q2_213 q1_1 q2_214) rfl rfl rfl (by decide +kernel) hR
def fX5_requireArgument (x0 : Int32) : Nat := if x0 = 0 then 1 else 0
set_option maxRecDepth 100000 in
set_option maxHeartbeats 4000000 in
theorem kX5_requireArgument (l : Launch) (hst : l.stackTraces = false) (X : Cx) (h : HH) (x0 : Int32) : vx_Met l yX5_requireArgument vX5_requireArgument rmX5_requireArgument (va_Pc [.int x0] (fun U => WS X h U)) (QXv X (fX5_requireArgument x0) h) (XXv X (fX5_requireArgument x0) h) 1 6 (xA X) := by
  refine vx_ofW (cc := cX5_requireArgument) (maxL := 1) (ret := none) (by decide) rfl ?_
  intro p e s m args below meth c s₁ B hml hout hv
  obtain ⟨rfl, hW, hK⟩ := hv
  have hl := lv_entry ([.int x0]) (n := 1) (Nat.le_of_ble_eq_true rfl)
  rw [lg_entry_eq]
  generalize (lg_sl ([.int x0]) ++ List.replicate (1 - (lg_sl ([.int x0])).length) Slot.unset).toArray = ls at hl ⊢
  have hl : lv_has ls 1 [(0, .int x0)] := hl
  have hx := B.exec
  have hb := B.bytes
  have hr := B.returns
  have hlk := B.notSynchronized
  have hown : s.vm.findClass RX5 = some m.cls := findClass_of_methodNamed B.named
  have hts : ∀ w ∈ lwG, w.before _ s = true := fun w hw => atoms_spec (ws := vX5_requireArgument) B.pre w (List.mem_cons_of_mem _ hw)
  have hS : va_S (xA X) s.heap s.heap [] := va_S.rf
  refine lv_iload_n hx hb dX5_requireArgument_0 rfl (lv_at hl 0 rfl) ?_
  refine lv_if_ne (tgt := 14) hx hb dX5_requireArgument_1 (by decide) (fun c1 => ?_) (fun c1 => ?_)
  · have e9 : fX5_requireArgument x0 = 0 := if_neg c1
    rw [e9]
    exact kxr_v hx hb hr hlk hK hW hS dX5_requireArgument_14 (Nat.le_of_ble_eq_true rfl) (Nat.le_of_ble_eq_true rfl)
  · have e9 : fX5_requireArgument x0 = 1 := if_pos c1
    rw [e9]
    obtain ⟨sa, hsa⟩ := hK.2.2.2.2.2.1
    exact vx_throwS hx hb hst hown (by decide) (by decide) (hts _ q2_215) (hts _ q1_11) hsa (exat1 hts hK.2.2.2) exo1 hK.2.2.2.1 hK.2.2.2.2.1 hS (hl.1.trans hml.symm) dX5_requireArgument_4 dX5_requireArgument_7 dX5_requireArgument_8 dX5_requireArgument_10 dX5_requireArgument_13 (fun x hx => (hout x hx).elim) (Nat.le_of_ble_eq_true rfl) (Nat.le_of_ble_eq_true rfl) (Nat.le_of_ble_eq_true rfl) (Nat.le_of_ble_eq_true rfl) hlk (fun t hal hz hk => ⟨by decide, rfl, hW.grow hk, hz, fun q h1 _ => hk q h1⟩) hS.2.2 (Nat.le_of_ble_eq_true rfl) (Nat.le_of_ble_eq_true rfl)
abbrev rmX5_requireState : Room := { frames := 6, cells := 1, slots := 6, locals := 90 }
abbrev vX5_requireState : List Cond := Cond.code yX5_requireState cX5_requireState 1 none :: lwG
theorem wX5_requireState {R : Room} {s : State} {args : Array Value} {idx : Nat} (hg : ∀ w ∈ lwG, w.before args s = true) (hl : Cond.methodLink RX5 idx yX5_requireState ∈ lwG) (hR : rmX5_requireState.frames + 1 ≤ R.frames ∧ 8 + (1 + 11) + rmX5_requireState.locals ≤ R.locals) : CallB R s args RX5 idx yX5_requireState cX5_requireState 1 none vX5_requireState rmX5_requireState 1 6 1 ∧ (Cond.static yX5_requireState).before args s = true := cwS 1 hg (gS hl q3_89 q1_1 q3_90) rfl rfl rfl (by decide +kernel) hR
def fX5_requireState (x0 : Int32) : Nat := if x0 = 0 then 3 else 0
set_option maxRecDepth 100000 in
set_option maxHeartbeats 4000000 in
theorem kX5_requireState (l : Launch) (hst : l.stackTraces = false) (X : Cx) (h : HH) (x0 : Int32) : vx_Met l yX5_requireState vX5_requireState rmX5_requireState (va_Pc [.int x0] (fun U => WS X h U)) (QXv X (fX5_requireState x0) h) (XXv X (fX5_requireState x0) h) 1 6 (xA X) := by
  refine vx_ofW (cc := cX5_requireState) (maxL := 1) (ret := none) (by decide) rfl ?_
  intro p e s m args below meth c s₁ B hml hout hv
  obtain ⟨rfl, hW, hK⟩ := hv
  have hl := lv_entry ([.int x0]) (n := 1) (Nat.le_of_ble_eq_true rfl)
  rw [lg_entry_eq]
  generalize (lg_sl ([.int x0]) ++ List.replicate (1 - (lg_sl ([.int x0])).length) Slot.unset).toArray = ls at hl ⊢
  have hl : lv_has ls 1 [(0, .int x0)] := hl
  have hx := B.exec
  have hb := B.bytes
  have hr := B.returns
  have hlk := B.notSynchronized
  have hown : s.vm.findClass RX5 = some m.cls := findClass_of_methodNamed B.named
  have hts : ∀ w ∈ lwG, w.before _ s = true := fun w hw => atoms_spec (ws := vX5_requireState) B.pre w (List.mem_cons_of_mem _ hw)
  have hS : va_S (xA X) s.heap s.heap [] := va_S.rf
  refine lv_iload_n hx hb dX5_requireState_0 rfl (lv_at hl 0 rfl) ?_
  refine lv_if_ne (tgt := 14) hx hb dX5_requireState_1 (by decide) (fun c1 => ?_) (fun c1 => ?_)
  · have e9 : fX5_requireState x0 = 0 := if_neg c1
    rw [e9]
    exact kxr_v hx hb hr hlk hK hW hS dX5_requireState_14 (Nat.le_of_ble_eq_true rfl) (Nat.le_of_ble_eq_true rfl)
  · have e9 : fX5_requireState x0 = 3 := if_pos c1
    rw [e9]
    obtain ⟨sa, hsa⟩ := hK.2.2.2.2.2.2.2.1
    exact vx_throwS hx hb hst hown (by decide) (by decide) (hts _ q3_91) (hts _ q1_15) hsa (exat3 hts hK.2.2.2) exo3 hK.2.2.2.1 hK.2.2.2.2.1 hS (hl.1.trans hml.symm) dX5_requireState_4 dX5_requireState_7 dX5_requireState_8 dX5_requireState_10 dX5_requireState_13 (fun x hx => (hout x hx).elim) (Nat.le_of_ble_eq_true rfl) (Nat.le_of_ble_eq_true rfl) (Nat.le_of_ble_eq_true rfl) (Nat.le_of_ble_eq_true rfl) hlk (fun t hal hz hk => ⟨by decide, rfl, hW.grow hk, hz, fun q h1 _ => hk q h1⟩) hS.2.2 (Nat.le_of_ble_eq_true rfl) (Nat.le_of_ble_eq_true rfl)
