def fL_newGame (a : Nat) (x1 : Int32) (x2 : Int32) (r3 : Nat) (h : HH) : Int32 × HH := if (fX5_newGame a x1 x2 h).1 = 0 then (0, hsetL (fX5_newGame a x1 x2 h).2.2 r3 0 1 (fX5_newGame a x1 x2 h).2.1.toInt64) else (1, (fX5_newGame a x1 x2 h).2.2)
def sL_newGame (a : Nat) (x1 : Int32) (x2 : Int32) (r3 : Nat) (h : HH) : Prop := sX5_newGame a x1 x2 h ∧ ((fX5_newGame a x1 x2 h).1 = 0 ∨ (fX5_newGame a x1 x2 h).1 = 1)
abbrev rmL_newGame : Room := { frames := 8, cells := 3, slots := 18, locals := 147 }
abbrev vL_newGame : List Cond := Cond.codeWith yL_newGame cL_newGame 5 (some .int) [(0, 10, 13, 13)] :: lwG
theorem wL_newGame {R : Room} {s : State} {args : Array Value} {own : String} {idx : Nat} (hg : ∀ w ∈ lwG, w.before args s = true) (hl : Cond.methodLink own idx yL_newGame ∈ lwG) (hR : rmL_newGame.frames + 1 ≤ R.frames ∧ 8 + (5 + 11) + rmL_newGame.locals ≤ R.locals) : vx_CSW R s args own idx yL_newGame cL_newGame 5 (some .int) [(0, 10, 13, 13)] vL_newGame rmL_newGame 3 18 4 := vx_cwSW 4 hg (gSW hl q2_205 q1_0 q2_206) rfl rfl rfl (by decide +kernel) hR
set_option maxRecDepth 100000 in
set_option maxHeartbeats 4000000 in
theorem kL_newGame (l : Launch) (hst : l.stackTraces = false) (X : Cx) (h : HH) (a : Nat) (x1 : Int32) (x2 : Int32) (r3 : Nat) (hO : IsBd X a) (hJ : xL X r3 = some (shJ X 1)) (hs : sL_newGame a x1 x2 r3 h) : Met l yL_newGame vL_newGame rmL_newGame (va_Pc [.ref a, .int x1, .int x2, .ref r3] (fun U => WS X h U)) (QI X (fL_newGame a x1 x2 r3 h).1 (fL_newGame a x1 x2 r3 h).2) 3 18 (xA X) := by
  refine met_ofWH (cc := cL_newGame) (maxL := 5) (ret := some .int) (hh := [(0, 10, 13, 13)]) (by decide) rfl ?_
  intro p e s m args below meth c s₁ B hml hv
  obtain ⟨rfl, hW, hK⟩ := hv
  have hx := B.exec
  have hb := B.bytes
  have hr := B.returns
  have hlk := B.notSynchronized
  have hown : s.vm.findClass RL = some m.cls := findClass_of_methodNamed B.named
  have hws : ∀ w ∈ vL_newGame, w.before _ s = true := fun w hw => atoms_spec (ws := vL_newGame) B.pre w hw
  have htab : c.exceptionTable.toList = tableOf [(0, 10, 13, 13)] := vx_table (x := yL_newGame) B (hws _ List.mem_cons_self)
  have hts : ∀ w ∈ lwG, w.before _ s = true := fun w hw => hws w (List.mem_cons_of_mem _ hw)
  have hS : va_S (xA X) s.heap s.heap [] := va_S.rf
  have hl := lv_entry ([.ref a, .int x1, .int x2, .ref r3]) (n := 5) (Nat.le_of_ble_eq_true rfl)
  rw [lg_entry_eq]
  generalize (lg_sl ([.ref a, .int x1, .int x2, .ref r3]) ++ List.replicate (5 - (lg_sl ([.ref a, .int x1, .int x2, .ref r3])).length) Slot.unset).toArray = ls at hl ⊢
  have hl : lv_has ls 5 [(0, .ref a), (1, .int x1), (2, .int x2), (3, .ref r3)] := hl
  refine lv_aload_n hx hb dL_newGame_0 rfl (lv_at hl 3 rfl) ?_
  refine lv_iconst (v := 0) hx hb dL_newGame_1 (by decide) ?_
  refine lv_aload_n hx hb dL_newGame_2 rfl (lv_at hl 0 rfl) ?_
  refine lv_iload_n hx hb dL_newGame_3 rfl (lv_at hl 1 rfl) ?_
  refine lv_iload_n hx hb dL_newGame_4 rfl (lv_at hl 2 rfl) ?_
  obtain ⟨hc1, hs⟩ := hs
  refine kw_call (r := fX5_newGame a x1 x2 h) (vx_runV (g := F0 m 5 ls _) (As := [.int x1, .int x2]) (rest := [.int 0, .ref r3]) ⟨hx, hb, hml, hown, hts⟩ (kX5_newGame l hst X h a x1 x2 hO hc1) (wX5_newGame hts q2_208 ⟨Nat.le_of_ble_eq_true rfl, Nat.le_of_ble_eq_true rfl⟩) ⟨WS.blind, va_recv hK.1 (hW.one hO.1) (ci := 5) (q0 := 0) rfl rfl, WS.pre hK hW hS⟩ rfl rfl hl.1 rfl (lv_room (Nat.le_of_ble_eq_true rfl)) dL_newGame_5 ⟨Nat.le_of_ble_eq_true rfl, Nat.le_of_ble_eq_true rfl⟩) hS (fun c1 H locs hW hS => ?_) (fun c1 H locs q ce hW hS hq hv hcl => ?_)
  · have e9 : fL_newGame a x1 x2 r3 h = (0, hsetL (fX5_newGame a x1 x2 h).2.2 r3 0 1 (fX5_newGame a x1 x2 h).2.1.toInt64) := if_pos c1
    rw [e9]
    refine lv_i2l hx hb dL_newGame_8 rfl ?_
    refine kb_last hx hb hK hW hS hJ dL_newGame_9 (fun H locs hW hS => ?_)
    refine lv_goto (tgt := 17) hx hb dL_newGame_10 (by decide) ?_
    refine lv_iconst (v := 0) hx hb dL_newGame_17 (by decide) ?_
    exact kr_i hx hb hr hlk hK hW hS dL_newGame_18
  · have hs := hs.resolve_left c1
    rw [hs] at hcl
    have e9 : fL_newGame a x1 x2 r3 h = (1, (fX5_newGame a x1 x2 h).2.2) := if_neg c1
    rw [e9]
    refine vx_catch hown [] ⟨0, 10, 13, 13⟩ [] htab (fun z hz => by simp at hz) (by decide) (by decide) (hts _ q2_207) (va_Nw.use rfl hK.2.2.2.2.2.2.2.2.2.1.1) hq hv hcl ?_
    refine lv_astore (lv' := [(4, .ref q), (0, .ref a), (1, .int x1), (2, .int x2), (3, .ref r3)]) hx hb dL_newGame_13 hl (by decide) rfl (fun ls hl => ?_)
    refine lv_iconst (v := 1) hx hb dL_newGame_15 (by decide) ?_
    exact kr_i hx hb hr hlk hK hW hS dL_newGame_16
def fL_reason (a : Nat) (x1 : Int32) (x2 : Int32) (r3 : Nat) (h : HH) : Int32 × HH := if (fX5_reason a x1 x2 h).1 = 0 then (0, hsetL (fX5_reason a x1 x2 h).2.2 r3 0 1 (fX5_reason a x1 x2 h).2.1.toInt64) else (1, (fX5_reason a x1 x2 h).2.2)
def sL_reason (a : Nat) (x1 : Int32) (x2 : Int32) (r3 : Nat) (h : HH) : Prop := sX5_reason a x1 x2 h ∧ ((fX5_reason a x1 x2 h).1 = 0 ∨ (fX5_reason a x1 x2 h).1 = 2)
abbrev rmL_reason : Room := { frames := 8, cells := 3, slots := 18, locals := 136 }
abbrev vL_reason : List Cond := Cond.codeWith yL_reason cL_reason 5 (some .int) [(0, 10, 13, 18)] :: lwG
theorem wL_reason {R : Room} {s : State} {args : Array Value} {own : String} {idx : Nat} (hg : ∀ w ∈ lwG, w.before args s = true) (hl : Cond.methodLink own idx yL_reason ∈ lwG) (hR : rmL_reason.frames + 1 ≤ R.frames ∧ 8 + (5 + 11) + rmL_reason.locals ≤ R.locals) : vx_CSW R s args own idx yL_reason cL_reason 5 (some .int) [(0, 10, 13, 18)] vL_reason rmL_reason 3 18 4 := vx_cwSW 4 hg (gSW hl q3_50 q1_0 q3_51) rfl rfl rfl (by decide +kernel) hR
set_option maxRecDepth 100000 in
set_option maxHeartbeats 4000000 in
theorem kL_reason (l : Launch) (hst : l.stackTraces = false) (X : Cx) (h : HH) (a : Nat) (x1 : Int32) (x2 : Int32) (r3 : Nat) (hO : IsBd X a) (hJ : xL X r3 = some (shJ X 1)) (hs : sL_reason a x1 x2 r3 h) : Met l yL_reason vL_reason rmL_reason (va_Pc [.ref a, .int x1, .int x2, .ref r3] (fun U => WS X h U)) (QI X (fL_reason a x1 x2 r3 h).1 (fL_reason a x1 x2 r3 h).2) 3 18 (xA X) := by
  refine met_ofWH (cc := cL_reason) (maxL := 5) (ret := some .int) (hh := [(0, 10, 13, 18)]) (by decide) rfl ?_
  intro p e s m args below meth c s₁ B hml hv
  obtain ⟨rfl, hW, hK⟩ := hv
  have hx := B.exec
  have hb := B.bytes
  have hr := B.returns
  have hlk := B.notSynchronized
  have hown : s.vm.findClass RL = some m.cls := findClass_of_methodNamed B.named
  have hws : ∀ w ∈ vL_reason, w.before _ s = true := fun w hw => atoms_spec (ws := vL_reason) B.pre w hw
  have htab : c.exceptionTable.toList = tableOf [(0, 10, 13, 18)] := vx_table (x := yL_reason) B (hws _ List.mem_cons_self)
  have hts : ∀ w ∈ lwG, w.before _ s = true := fun w hw => hws w (List.mem_cons_of_mem _ hw)
  have hS : va_S (xA X) s.heap s.heap [] := va_S.rf
  have hl := lv_entry ([.ref a, .int x1, .int x2, .ref r3]) (n := 5) (Nat.le_of_ble_eq_true rfl)
  rw [lg_entry_eq]
  generalize (lg_sl ([.ref a, .int x1, .int x2, .ref r3]) ++ List.replicate (5 - (lg_sl ([.ref a, .int x1, .int x2, .ref r3])).length) Slot.unset).toArray = ls at hl ⊢
  have hl : lv_has ls 5 [(0, .ref a), (1, .int x1), (2, .int x2), (3, .ref r3)] := hl
  refine lv_aload_n hx hb dL_reason_0 rfl (lv_at hl 3 rfl) ?_
  refine lv_iconst (v := 0) hx hb dL_reason_1 (by decide) ?_
  refine lv_aload_n hx hb dL_reason_2 rfl (lv_at hl 0 rfl) ?_
  refine lv_iload_n hx hb dL_reason_3 rfl (lv_at hl 1 rfl) ?_
  refine lv_iload_n hx hb dL_reason_4 rfl (lv_at hl 2 rfl) ?_
  obtain ⟨hc1, hs⟩ := hs
  refine kw_call (r := fX5_reason a x1 x2 h) (vx_runV (g := F0 m 5 ls _) (As := [.int x1, .int x2]) (rest := [.int 0, .ref r3]) ⟨hx, hb, hml, hown, hts⟩ (kX5_reason l hst X h a x1 x2 hO hc1) (wX5_reason hts q3_53 ⟨Nat.le_of_ble_eq_true rfl, Nat.le_of_ble_eq_true rfl⟩) ⟨WS.blind, va_recv hK.1 (hW.one hO.1) (ci := 5) (q0 := 0) rfl rfl, WS.pre hK hW hS⟩ rfl rfl hl.1 rfl (lv_room (Nat.le_of_ble_eq_true rfl)) dL_reason_5 ⟨Nat.le_of_ble_eq_true rfl, Nat.le_of_ble_eq_true rfl⟩) hS (fun c1 H locs hW hS => ?_) (fun c1 H locs q ce hW hS hq hv hcl => ?_)
  · have e9 : fL_reason a x1 x2 r3 h = (0, hsetL (fX5_reason a x1 x2 h).2.2 r3 0 1 (fX5_reason a x1 x2 h).2.1.toInt64) := if_pos c1
    rw [e9]
    refine lv_i2l hx hb dL_reason_8 rfl ?_
    refine kb_last hx hb hK hW hS hJ dL_reason_9 (fun H locs hW hS => ?_)
    refine lv_goto (tgt := 17) hx hb dL_reason_10 (by decide) ?_
    refine lv_iconst (v := 0) hx hb dL_reason_17 (by decide) ?_
    exact kr_i hx hb hr hlk hK hW hS dL_reason_18
  · have hs := hs.resolve_left c1
    rw [hs] at hcl
    have e9 : fL_reason a x1 x2 r3 h = (1, (fX5_reason a x1 x2 h).2.2) := if_neg c1
    rw [e9]
    refine vx_catch hown [] ⟨0, 10, 13, 18⟩ [] htab (fun z hz => by simp at hz) (by decide) (by decide) (hts _ q3_52) (va_Nw.use rfl hK.2.2.2.2.2.2.2.2.2.1.2.1) hq hv hcl ?_
    refine lv_astore (lv' := [(4, .ref q), (0, .ref a), (1, .int x1), (2, .int x2), (3, .ref r3)]) hx hb dL_reason_13 hl (by decide) rfl (fun ls hl => ?_)
    refine lv_iconst (v := 1) hx hb dL_reason_15 (by decide) ?_
    exact kr_i hx hb hr hlk hK hW hS dL_reason_16
def fL_place (a : Nat) (x1 : Int32) (x2 : Int32) (r3 : Nat) (h : HH) : Int32 × HH := if (fX5_place a x1 x2 h).1 = 0 then (0, hsetL (fX5_place a x1 x2 h).2.2 r3 0 1 (fX5_place a x1 x2 h).2.1.toInt64) else if (fX5_place a x1 x2 h).1 = 2 then (1, (fX5_place a x1 x2 h).2.2) else (2, (fX5_place a x1 x2 h).2.2)
def sL_place (a : Nat) (x1 : Int32) (x2 : Int32) (r3 : Nat) (h : HH) : Prop := sX5_place a x1 x2 h ∧ ((fX5_place a x1 x2 h).1 = 0 ∨ (fX5_place a x1 x2 h).1 = 2 ∨ (fX5_place a x1 x2 h).1 = 3)
abbrev rmL_place : Room := { frames := 8, cells := 3, slots := 18, locals := 155 }
abbrev vL_place : List Cond := Cond.codeWith yL_place cL_place 5 (some .int) [(0, 10, 13, 18), (0, 10, 17, 23)] :: lwG
theorem wL_place {R : Room} {s : State} {args : Array Value} {own : String} {idx : Nat} (hg : ∀ w ∈ lwG, w.before args s = true) (hl : Cond.methodLink own idx yL_place ∈ lwG) (hR : rmL_place.frames + 1 ≤ R.frames ∧ 8 + (5 + 11) + rmL_place.locals ≤ R.locals) : vx_CSW R s args own idx yL_place cL_place 5 (some .int) [(0, 10, 13, 18), (0, 10, 17, 23)] vL_place rmL_place 3 18 4 := vx_cwSW 4 hg (gSW hl q3_81 q1_0 q3_82) rfl rfl rfl (by decide +kernel) hR
set_option maxRecDepth 100000 in
set_option maxHeartbeats 4000000 in
theorem kL_place (l : Launch) (hst : l.stackTraces = false) (X : Cx) (h : HH) (a : Nat) (x1 : Int32) (x2 : Int32) (r3 : Nat) (hO : IsBd X a) (hJ : xL X r3 = some (shJ X 1)) (hs : sL_place a x1 x2 r3 h) : Met l yL_place vL_place rmL_place (va_Pc [.ref a, .int x1, .int x2, .ref r3] (fun U => WS X h U)) (QI X (fL_place a x1 x2 r3 h).1 (fL_place a x1 x2 r3 h).2) 3 18 (xA X) := by
  refine met_ofWH (cc := cL_place) (maxL := 5) (ret := some .int) (hh := [(0, 10, 13, 18), (0, 10, 17, 23)]) (by decide) rfl ?_
  intro p e s m args below meth c s₁ B hml hv
  obtain ⟨rfl, hW, hK⟩ := hv
  have hx := B.exec
  have hb := B.bytes
  have hr := B.returns
  have hlk := B.notSynchronized
  have hown : s.vm.findClass RL = some m.cls := findClass_of_methodNamed B.named
  have hws : ∀ w ∈ vL_place, w.before _ s = true := fun w hw => atoms_spec (ws := vL_place) B.pre w hw
  have htab : c.exceptionTable.toList = tableOf [(0, 10, 13, 18), (0, 10, 17, 23)] := vx_table (x := yL_place) B (hws _ List.mem_cons_self)
  have hts : ∀ w ∈ lwG, w.before _ s = true := fun w hw => hws w (List.mem_cons_of_mem _ hw)
  have hS : va_S (xA X) s.heap s.heap [] := va_S.rf
  have hl := lv_entry ([.ref a, .int x1, .int x2, .ref r3]) (n := 5) (Nat.le_of_ble_eq_true rfl)
  rw [lg_entry_eq]
  generalize (lg_sl ([.ref a, .int x1, .int x2, .ref r3]) ++ List.replicate (5 - (lg_sl ([.ref a, .int x1, .int x2, .ref r3])).length) Slot.unset).toArray = ls at hl ⊢
  have hl : lv_has ls 5 [(0, .ref a), (1, .int x1), (2, .int x2), (3, .ref r3)] := hl
  refine lv_aload_n hx hb dL_place_0 rfl (lv_at hl 3 rfl) ?_
  refine lv_iconst (v := 0) hx hb dL_place_1 (by decide) ?_
  refine lv_aload_n hx hb dL_place_2 rfl (lv_at hl 0 rfl) ?_
  refine lv_iload_n hx hb dL_place_3 rfl (lv_at hl 1 rfl) ?_
  refine lv_iload_n hx hb dL_place_4 rfl (lv_at hl 2 rfl) ?_
  obtain ⟨hc1, hs⟩ := hs
  refine kw_call (r := fX5_place a x1 x2 h) (vx_runV (g := F0 m 5 ls _) (As := [.int x1, .int x2]) (rest := [.int 0, .ref r3]) ⟨hx, hb, hml, hown, hts⟩ (kX5_place l hst X h a x1 x2 hO hc1) (wX5_place hts q3_84 ⟨Nat.le_of_ble_eq_true rfl, Nat.le_of_ble_eq_true rfl⟩) ⟨WS.blind, va_recv hK.1 (hW.one hO.1) (ci := 5) (q0 := 0) rfl rfl, WS.pre hK hW hS⟩ rfl rfl hl.1 rfl (lv_room (Nat.le_of_ble_eq_true rfl)) dL_place_5 ⟨Nat.le_of_ble_eq_true rfl, Nat.le_of_ble_eq_true rfl⟩) hS (fun c1 H locs hW hS => ?_) (fun c1 H locs q ce hW hS hq hv hcl => ?_)
  · have e9 : fL_place a x1 x2 r3 h = (0, hsetL (fX5_place a x1 x2 h).2.2 r3 0 1 (fX5_place a x1 x2 h).2.1.toInt64) := if_pos c1
    rw [e9]
    refine lv_i2l hx hb dL_place_8 rfl ?_
    refine kb_last hx hb hK hW hS hJ dL_place_9 (fun H locs hW hS => ?_)
    refine lv_goto (tgt := 21) hx hb dL_place_10 (by decide) ?_
    refine lv_iconst (v := 0) hx hb dL_place_21 (by decide) ?_
    exact kr_i hx hb hr hlk hK hW hS dL_place_22
  · have hs := hs.resolve_left c1
    rcases hs with hs | hs
    · rw [hs] at hcl
      have e9 : fL_place a x1 x2 r3 h = (1, (fX5_place a x1 x2 h).2.2) := (if_neg c1).trans (if_pos hs)
      rw [e9]
      refine vx_catch hown [] ⟨0, 10, 13, 18⟩ [⟨0, 10, 17, 23⟩] htab (fun z hz => by simp at hz) (by decide) (by decide) (hts _ q3_52) (va_Nw.use rfl hK.2.2.2.2.2.2.2.2.2.1.2.1) hq hv hcl ?_
      refine lv_astore (lv' := [(4, .ref q), (0, .ref a), (1, .int x1), (2, .int x2), (3, .ref r3)]) hx hb dL_place_13 hl (by decide) rfl (fun ls hl => ?_)
      refine lv_iconst (v := 1) hx hb dL_place_15 (by decide) ?_
      exact kr_i hx hb hr hlk hK hW hS dL_place_16
    · rw [hs] at hcl
      have e9 : fL_place a x1 x2 r3 h = (2, (fX5_place a x1 x2 h).2.2) := (if_neg c1).trans (if_neg (by rw [hs]; decide))
      rw [e9]
      refine vx_catch hown [⟨0, 10, 13, 18⟩] ⟨0, 10, 17, 23⟩ [] htab (fun z hz => by obtain rfl := List.mem_singleton.mp hz; exact Or.inr ⟨by decide, "java/lang/IndexOutOfBoundsException", hts _ q3_52, hK.2.2.2.2.2.2.2.2.2.2.1⟩) (by decide) (by decide) (hts _ q3_83) (va_Nw.use rfl hK.2.2.2.2.2.2.2.2.2.1.2.2) hq hv hcl ?_
      refine lv_astore (lv' := [(4, .ref q), (0, .ref a), (1, .int x1), (2, .int x2), (3, .ref r3)]) hx hb dL_place_17 hl (by decide) rfl (fun ls hl => ?_)
      refine lv_iconst (v := 2) hx hb dL_place_19 (by decide) ?_
      exact kr_i hx hb hr hlk hK hW hS dL_place_20
def fL_skip (a : Nat) (r1 : Nat) (h : HH) : Int32 × HH := if (fX5_skip a h).1 = 0 then (0, hsetL (fX5_skip a h).2.2 r1 0 1 (fX5_skip a h).2.1.toInt64) else (1, (fX5_skip a h).2.2)
def sL_skip (a : Nat) (r1 : Nat) (h : HH) : Prop := sX5_skip a h ∧ ((fX5_skip a h).1 = 0 ∨ (fX5_skip a h).1 = 3)
abbrev rmL_skip : Room := { frames := 8, cells := 3, slots := 18, locals := 151 }
abbrev vL_skip : List Cond := Cond.codeWith yL_skip cL_skip 3 (some .int) [(0, 8, 11, 23)] :: lwG
theorem wL_skip {R : Room} {s : State} {args : Array Value} {own : String} {idx : Nat} (hg : ∀ w ∈ lwG, w.before args s = true) (hl : Cond.methodLink own idx yL_skip ∈ lwG) (hR : rmL_skip.frames + 1 ≤ R.frames ∧ 8 + (3 + 11) + rmL_skip.locals ≤ R.locals) : vx_CSW R s args own idx yL_skip cL_skip 3 (some .int) [(0, 8, 11, 23)] vL_skip rmL_skip 3 18 2 := vx_cwSW 2 hg (gSW hl q3_131 q1_0 q3_132) rfl rfl rfl (by decide +kernel) hR
set_option maxRecDepth 100000 in
set_option maxHeartbeats 4000000 in
theorem kL_skip (l : Launch) (hst : l.stackTraces = false) (X : Cx) (h : HH) (a : Nat) (r1 : Nat) (hO : IsBd X a) (hJ : xL X r1 = some (shJ X 1)) (hs : sL_skip a r1 h) : Met l yL_skip vL_skip rmL_skip (va_Pc [.ref a, .ref r1] (fun U => WS X h U)) (QI X (fL_skip a r1 h).1 (fL_skip a r1 h).2) 3 18 (xA X) := by
  refine met_ofWH (cc := cL_skip) (maxL := 3) (ret := some .int) (hh := [(0, 8, 11, 23)]) (by decide) rfl ?_
  intro p e s m args below meth c s₁ B hml hv
  obtain ⟨rfl, hW, hK⟩ := hv
  have hx := B.exec
  have hb := B.bytes
  have hr := B.returns
  have hlk := B.notSynchronized
  have hown : s.vm.findClass RL = some m.cls := findClass_of_methodNamed B.named
  have hws : ∀ w ∈ vL_skip, w.before _ s = true := fun w hw => atoms_spec (ws := vL_skip) B.pre w hw
  have htab : c.exceptionTable.toList = tableOf [(0, 8, 11, 23)] := vx_table (x := yL_skip) B (hws _ List.mem_cons_self)
  have hts : ∀ w ∈ lwG, w.before _ s = true := fun w hw => hws w (List.mem_cons_of_mem _ hw)
  have hS : va_S (xA X) s.heap s.heap [] := va_S.rf
  have hl := lv_entry ([.ref a, .ref r1]) (n := 3) (Nat.le_of_ble_eq_true rfl)
  rw [lg_entry_eq]
  generalize (lg_sl ([.ref a, .ref r1]) ++ List.replicate (3 - (lg_sl ([.ref a, .ref r1])).length) Slot.unset).toArray = ls at hl ⊢
  have hl : lv_has ls 3 [(0, .ref a), (1, .ref r1)] := hl
  refine lv_aload_n hx hb dL_skip_0 rfl (lv_at hl 1 rfl) ?_
  refine lv_iconst (v := 0) hx hb dL_skip_1 (by decide) ?_
  refine lv_aload_n hx hb dL_skip_2 rfl (lv_at hl 0 rfl) ?_
  obtain ⟨hc1, hs⟩ := hs
  refine kw_call (r := fX5_skip a h) (vx_runV (g := F0 m 3 ls _) (As := []) (rest := [.int 0, .ref r1]) ⟨hx, hb, hml, hown, hts⟩ (kX5_skip l hst X h a hO hc1) (wX5_skip hts q3_133 ⟨Nat.le_of_ble_eq_true rfl, Nat.le_of_ble_eq_true rfl⟩) ⟨WS.blind, va_recv hK.1 (hW.one hO.1) (ci := 5) (q0 := 0) rfl rfl, WS.pre hK hW hS⟩ rfl rfl hl.1 rfl (lv_room (Nat.le_of_ble_eq_true rfl)) dL_skip_3 ⟨Nat.le_of_ble_eq_true rfl, Nat.le_of_ble_eq_true rfl⟩) hS (fun c1 H locs hW hS => ?_) (fun c1 H locs q ce hW hS hq hv hcl => ?_)
  · have e9 : fL_skip a r1 h = (0, hsetL (fX5_skip a h).2.2 r1 0 1 (fX5_skip a h).2.1.toInt64) := if_pos c1
    rw [e9]
    refine lv_i2l hx hb dL_skip_6 rfl ?_
    refine kb_last hx hb hK hW hS hJ dL_skip_7 (fun H locs hW hS => ?_)
    refine lv_goto (tgt := 14) hx hb dL_skip_8 (by decide) ?_
    refine lv_iconst (v := 0) hx hb dL_skip_14 (by decide) ?_
    exact kr_i hx hb hr hlk hK hW hS dL_skip_15
  · have hs := hs.resolve_left c1
    rw [hs] at hcl
    have e9 : fL_skip a r1 h = (1, (fX5_skip a h).2.2) := if_neg c1
    rw [e9]
    refine vx_catch hown [] ⟨0, 8, 11, 23⟩ [] htab (fun z hz => by simp at hz) (by decide) (by decide) (hts _ q3_83) (va_Nw.use rfl hK.2.2.2.2.2.2.2.2.2.1.2.2) hq hv hcl ?_
    refine lv_astore_n (lv' := [(2, .ref q), (0, .ref a), (1, .ref r1)]) hx hb dL_skip_11 rfl hl (by decide) rfl (fun ls hl => ?_)
    refine lv_iconst (v := 1) hx hb dL_skip_12 (by decide) ?_
    exact kr_i hx hb hr hlk hK hW hS dL_skip_13
def fL_play (a : Nat) (x1 : Int32) (x2 : Int32) (r3 : Nat) (h : HH) : Int32 × HH := if (fX5_play a x1 x2 h).1 = 0 then (0, hsetL (fX5_play a x1 x2 h).2.2 r3 0 1 (fX5_play a x1 x2 h).2.1.toInt64) else (1, (fX5_play a x1 x2 h).2.2)
def sL_play (a : Nat) (x1 : Int32) (x2 : Int32) (r3 : Nat) (h : HH) : Prop := sX5_play a x1 x2 h ∧ ((fX5_play a x1 x2 h).1 = 0 ∨ (fX5_play a x1 x2 h).1 = 1)
abbrev rmL_play : Room := { frames := 13, cells := 3, slots := 18, locals := 318 }
abbrev vL_play : List Cond := Cond.codeWith yL_play cL_play 5 (some .int) [(0, 10, 13, 13)] :: lwG
theorem wL_play {R : Room} {s : State} {args : Array Value} {own : String} {idx : Nat} (hg : ∀ w ∈ lwG, w.before args s = true) (hl : Cond.methodLink own idx yL_play ∈ lwG) (hR : rmL_play.frames + 1 ≤ R.frames ∧ 8 + (5 + 11) + rmL_play.locals ≤ R.locals) : vx_CSW R s args own idx yL_play cL_play 5 (some .int) [(0, 10, 13, 13)] vL_play rmL_play 3 18 4 := vx_cwSW 4 hg (gSW hl q3_143 q1_0 q3_144) rfl rfl rfl (by decide +kernel) hR
set_option maxRecDepth 100000 in
set_option maxHeartbeats 4000000 in
theorem kL_play (l : Launch) (hst : l.stackTraces = false) (X : Cx) (h : HH) (a : Nat) (x1 : Int32) (x2 : Int32) (r3 : Nat) (hO : IsBd X a) (hJ : xL X r3 = some (shJ X 1)) (hs : sL_play a x1 x2 r3 h) : Met l yL_play vL_play rmL_play (va_Pc [.ref a, .int x1, .int x2, .ref r3] (fun U => WS X h U)) (QI X (fL_play a x1 x2 r3 h).1 (fL_play a x1 x2 r3 h).2) 3 18 (xA X) := by
  refine met_ofWH (cc := cL_play) (maxL := 5) (ret := some .int) (hh := [(0, 10, 13, 13)]) (by decide) rfl ?_
  intro p e s m args below meth c s₁ B hml hv
  obtain ⟨rfl, hW, hK⟩ := hv
  have hx := B.exec
  have hb := B.bytes
  have hr := B.returns
  have hlk := B.notSynchronized
  have hown : s.vm.findClass RL = some m.cls := findClass_of_methodNamed B.named
  have hws : ∀ w ∈ vL_play, w.before _ s = true := fun w hw => atoms_spec (ws := vL_play) B.pre w hw
  have htab : c.exceptionTable.toList = tableOf [(0, 10, 13, 13)] := vx_table (x := yL_play) B (hws _ List.mem_cons_self)
  have hts : ∀ w ∈ lwG, w.before _ s = true := fun w hw => hws w (List.mem_cons_of_mem _ hw)
  have hS : va_S (xA X) s.heap s.heap [] := va_S.rf
  have hl := lv_entry ([.ref a, .int x1, .int x2, .ref r3]) (n := 5) (Nat.le_of_ble_eq_true rfl)
  rw [lg_entry_eq]
  generalize (lg_sl ([.ref a, .int x1, .int x2, .ref r3]) ++ List.replicate (5 - (lg_sl ([.ref a, .int x1, .int x2, .ref r3])).length) Slot.unset).toArray = ls at hl ⊢
  have hl : lv_has ls 5 [(0, .ref a), (1, .int x1), (2, .int x2), (3, .ref r3)] := hl
  refine lv_aload_n hx hb dL_play_0 rfl (lv_at hl 3 rfl) ?_
  refine lv_iconst (v := 0) hx hb dL_play_1 (by decide) ?_
  refine lv_aload_n hx hb dL_play_2 rfl (lv_at hl 0 rfl) ?_
  refine lv_iload_n hx hb dL_play_3 rfl (lv_at hl 1 rfl) ?_
  refine lv_iload_n hx hb dL_play_4 rfl (lv_at hl 2 rfl) ?_
  obtain ⟨hc1, hs⟩ := hs
  refine kw_call (r := fX5_play a x1 x2 h) (vx_runV (g := F0 m 5 ls _) (As := [.int x1, .int x2]) (rest := [.int 0, .ref r3]) ⟨hx, hb, hml, hown, hts⟩ (kX5_play l hst X h a x1 x2 hO hc1) (wX5_play hts q3_145 ⟨Nat.le_of_ble_eq_true rfl, Nat.le_of_ble_eq_true rfl⟩) ⟨WS.blind, va_recv hK.1 (hW.one hO.1) (ci := 5) (q0 := 0) rfl rfl, WS.pre hK hW hS⟩ rfl rfl hl.1 rfl (lv_room (Nat.le_of_ble_eq_true rfl)) dL_play_5 ⟨Nat.le_of_ble_eq_true rfl, Nat.le_of_ble_eq_true rfl⟩) hS (fun c1 H locs hW hS => ?_) (fun c1 H locs q ce hW hS hq hv hcl => ?_)
  · have e9 : fL_play a x1 x2 r3 h = (0, hsetL (fX5_play a x1 x2 h).2.2 r3 0 1 (fX5_play a x1 x2 h).2.1.toInt64) := if_pos c1
    rw [e9]
    refine lv_i2l hx hb dL_play_8 rfl ?_
    refine kb_last hx hb hK hW hS hJ dL_play_9 (fun H locs hW hS => ?_)
    refine lv_goto (tgt := 17) hx hb dL_play_10 (by decide) ?_
    refine lv_iconst (v := 0) hx hb dL_play_17 (by decide) ?_
    exact kr_i hx hb hr hlk hK hW hS dL_play_18
  · have hs := hs.resolve_left c1
    rw [hs] at hcl
    have e9 : fL_play a x1 x2 r3 h = (1, (fX5_play a x1 x2 h).2.2) := if_neg c1
    rw [e9]
    refine vx_catch hown [] ⟨0, 10, 13, 13⟩ [] htab (fun z hz => by simp at hz) (by decide) (by decide) (hts _ q2_207) (va_Nw.use rfl hK.2.2.2.2.2.2.2.2.2.1.1) hq hv hcl ?_
    refine lv_astore (lv' := [(4, .ref q), (0, .ref a), (1, .int x1), (2, .int x2), (3, .ref r3)]) hx hb dL_play_13 hl (by decide) rfl (fun ls hl => ?_)
    refine lv_iconst (v := 1) hx hb dL_play_15 (by decide) ?_
    exact kr_i hx hb hr hlk hK hW hS dL_play_16
def fL_goods (a : Nat) (x1 : Int32) (x2 : Int32) (r3 : Nat) (h : HH) : Int32 × HH := if (fX5_goods a x1 x2 h).1 = 0 then (0, hsetL (fX5_goods a x1 x2 h).2.2 r3 0 1 (fX5_goods a x1 x2 h).2.1.toInt64) else if (fX5_goods a x1 x2 h).1 = 2 then (1, (fX5_goods a x1 x2 h).2.2) else (2, (fX5_goods a x1 x2 h).2.2)
def sL_goods (a : Nat) (x1 : Int32) (x2 : Int32) (r3 : Nat) (h : HH) : Prop := sX5_goods a x1 x2 h ∧ ((fX5_goods a x1 x2 h).1 = 0 ∨ (fX5_goods a x1 x2 h).1 = 2 ∨ (fX5_goods a x1 x2 h).1 = 1)
abbrev rmL_goods : Room := { frames := 9, cells := 3, slots := 18, locals := 153 }
abbrev vL_goods : List Cond := Cond.codeWith yL_goods cL_goods 5 (some .int) [(0, 10, 13, 18), (0, 10, 17, 13)] :: lwG
theorem wL_goods {R : Room} {s : State} {args : Array Value} {own : String} {idx : Nat} (hg : ∀ w ∈ lwG, w.before args s = true) (hl : Cond.methodLink own idx yL_goods ∈ lwG) (hR : rmL_goods.frames + 1 ≤ R.frames ∧ 8 + (5 + 11) + rmL_goods.locals ≤ R.locals) : vx_CSW R s args own idx yL_goods cL_goods 5 (some .int) [(0, 10, 13, 18), (0, 10, 17, 13)] vL_goods rmL_goods 3 18 4 := vx_cwSW 4 hg (gSW hl q3_150 q1_0 q3_151) rfl rfl rfl (by decide +kernel) hR
set_option maxRecDepth 100000 in
set_option maxHeartbeats 4000000 in
theorem kL_goods (l : Launch) (hst : l.stackTraces = false) (X : Cx) (h : HH) (a : Nat) (x1 : Int32) (x2 : Int32) (r3 : Nat) (hO : IsBd X a) (hJ : xL X r3 = some (shJ X 1)) (hs : sL_goods a x1 x2 r3 h) : Met l yL_goods vL_goods rmL_goods (va_Pc [.ref a, .int x1, .int x2, .ref r3] (fun U => WS X h U)) (QI X (fL_goods a x1 x2 r3 h).1 (fL_goods a x1 x2 r3 h).2) 3 18 (xA X) := by
  refine met_ofWH (cc := cL_goods) (maxL := 5) (ret := some .int) (hh := [(0, 10, 13, 18), (0, 10, 17, 13)]) (by decide) rfl ?_
  intro p e s m args below meth c s₁ B hml hv
  obtain ⟨rfl, hW, hK⟩ := hv
  have hx := B.exec
  have hb := B.bytes
  have hr := B.returns
  have hlk := B.notSynchronized
  have hown : s.vm.findClass RL = some m.cls := findClass_of_methodNamed B.named
  have hws : ∀ w ∈ vL_goods, w.before _ s = true := fun w hw => atoms_spec (ws := vL_goods) B.pre w hw
  have htab : c.exceptionTable.toList = tableOf [(0, 10, 13, 18), (0, 10, 17, 13)] := vx_table (x := yL_goods) B (hws _ List.mem_cons_self)
  have hts : ∀ w ∈ lwG, w.before _ s = true := fun w hw => hws w (List.mem_cons_of_mem _ hw)
  have hS : va_S (xA X) s.heap s.heap [] := va_S.rf
  have hl := lv_entry ([.ref a, .int x1, .int x2, .ref r3]) (n := 5) (Nat.le_of_ble_eq_true rfl)
  rw [lg_entry_eq]
  generalize (lg_sl ([.ref a, .int x1, .int x2, .ref r3]) ++ List.replicate (5 - (lg_sl ([.ref a, .int x1, .int x2, .ref r3])).length) Slot.unset).toArray = ls at hl ⊢
  have hl : lv_has ls 5 [(0, .ref a), (1, .int x1), (2, .int x2), (3, .ref r3)] := hl
  refine lv_aload_n hx hb dL_goods_0 rfl (lv_at hl 3 rfl) ?_
  refine lv_iconst (v := 0) hx hb dL_goods_1 (by decide) ?_
  refine lv_aload_n hx hb dL_goods_2 rfl (lv_at hl 0 rfl) ?_
  refine lv_iload_n hx hb dL_goods_3 rfl (lv_at hl 1 rfl) ?_
  refine lv_iload_n hx hb dL_goods_4 rfl (lv_at hl 2 rfl) ?_
  obtain ⟨hc1, hs⟩ := hs
  refine kw_call (r := fX5_goods a x1 x2 h) (vx_runV (g := F0 m 5 ls _) (As := [.int x1, .int x2]) (rest := [.int 0, .ref r3]) ⟨hx, hb, hml, hown, hts⟩ (kX5_goods l hst X h a x1 x2 hO hc1) (wX5_goods hts q3_152 ⟨Nat.le_of_ble_eq_true rfl, Nat.le_of_ble_eq_true rfl⟩) ⟨WS.blind, va_recv hK.1 (hW.one hO.1) (ci := 5) (q0 := 0) rfl rfl, WS.pre hK hW hS⟩ rfl rfl hl.1 rfl (lv_room (Nat.le_of_ble_eq_true rfl)) dL_goods_5 ⟨Nat.le_of_ble_eq_true rfl, Nat.le_of_ble_eq_true rfl⟩) hS (fun c1 H locs hW hS => ?_) (fun c1 H locs q ce hW hS hq hv hcl => ?_)
  · have e9 : fL_goods a x1 x2 r3 h = (0, hsetL (fX5_goods a x1 x2 h).2.2 r3 0 1 (fX5_goods a x1 x2 h).2.1.toInt64) := if_pos c1
    rw [e9]
    refine lv_i2l hx hb dL_goods_8 rfl ?_
    refine kb_last hx hb hK hW hS hJ dL_goods_9 (fun H locs hW hS => ?_)
    refine lv_goto (tgt := 21) hx hb dL_goods_10 (by decide) ?_
    refine lv_iconst (v := 0) hx hb dL_goods_21 (by decide) ?_
    exact kr_i hx hb hr hlk hK hW hS dL_goods_22
  · have hs := hs.resolve_left c1
    rcases hs with hs | hs
    · rw [hs] at hcl
      have e9 : fL_goods a x1 x2 r3 h = (1, (fX5_goods a x1 x2 h).2.2) := (if_neg c1).trans (if_pos hs)
      rw [e9]
      refine vx_catch hown [] ⟨0, 10, 13, 18⟩ [⟨0, 10, 17, 13⟩] htab (fun z hz => by simp at hz) (by decide) (by decide) (hts _ q3_52) (va_Nw.use rfl hK.2.2.2.2.2.2.2.2.2.1.2.1) hq hv hcl ?_
      refine lv_astore (lv' := [(4, .ref q), (0, .ref a), (1, .int x1), (2, .int x2), (3, .ref r3)]) hx hb dL_goods_13 hl (by decide) rfl (fun ls hl => ?_)
      refine lv_iconst (v := 1) hx hb dL_goods_15 (by decide) ?_
      exact kr_i hx hb hr hlk hK hW hS dL_goods_16
    · rw [hs] at hcl
      have e9 : fL_goods a x1 x2 r3 h = (2, (fX5_goods a x1 x2 h).2.2) := (if_neg c1).trans (if_neg (by rw [hs]; decide))
      rw [e9]
      refine vx_catch hown [⟨0, 10, 13, 18⟩] ⟨0, 10, 17, 13⟩ [] htab (fun z hz => by obtain rfl := List.mem_singleton.mp hz; exact Or.inr ⟨by decide, "java/lang/IndexOutOfBoundsException", hts _ q3_52, hK.2.2.2.2.2.2.2.2.2.2.2⟩) (by decide) (by decide) (hts _ q2_207) (va_Nw.use rfl hK.2.2.2.2.2.2.2.2.2.1.1) hq hv hcl ?_
      refine lv_astore (lv' := [(4, .ref q), (0, .ref a), (1, .int x1), (2, .int x2), (3, .ref r3)]) hx hb dL_goods_17 hl (by decide) rfl (fun ls hl => ?_)
      refine lv_iconst (v := 2) hx hb dL_goods_19 (by decide) ?_
      exact kr_i hx hb hr hlk hK hW hS dL_goods_20
def fL_player (a : Nat) (x1 : Int32) (x2 : Int32) (r3 : Nat) (h : HH) : Int32 × HH := if (fX5_player a x1 x2 h).1 = 0 then (0, hsetL (fX5_player a x1 x2 h).2.2 r3 0 1 (fX5_player a x1 x2 h).2.1.toInt64) else if (fX5_player a x1 x2 h).1 = 2 then (1, (fX5_player a x1 x2 h).2.2) else (2, (fX5_player a x1 x2 h).2.2)
def sL_player (a : Nat) (x1 : Int32) (x2 : Int32) (r3 : Nat) (h : HH) : Prop := sX5_player a x1 x2 h ∧ ((fX5_player a x1 x2 h).1 = 0 ∨ (fX5_player a x1 x2 h).1 = 2 ∨ (fX5_player a x1 x2 h).1 = 1)
abbrev rmL_player : Room := { frames := 9, cells := 3, slots := 18, locals := 153 }
abbrev vL_player : List Cond := Cond.codeWith yL_player cL_player 5 (some .int) [(0, 10, 13, 18), (0, 10, 17, 13)] :: lwG
theorem wL_player {R : Room} {s : State} {args : Array Value} {own : String} {idx : Nat} (hg : ∀ w ∈ lwG, w.before args s = true) (hl : Cond.methodLink own idx yL_player ∈ lwG) (hR : rmL_player.frames + 1 ≤ R.frames ∧ 8 + (5 + 11) + rmL_player.locals ≤ R.locals) : vx_CSW R s args own idx yL_player cL_player 5 (some .int) [(0, 10, 13, 18), (0, 10, 17, 13)] vL_player rmL_player 3 18 4 := vx_cwSW 4 hg (gSW hl q3_161 q1_0 q3_162) rfl rfl rfl (by decide +kernel) hR
set_option maxRecDepth 100000 in
set_option maxHeartbeats 4000000 in
theorem kL_player (l : Launch) (hst : l.stackTraces = false) (X : Cx) (h : HH) (a : Nat) (x1 : Int32) (x2 : Int32) (r3 : Nat) (hO : IsBd X a) (hJ : xL X r3 = some (shJ X 1)) (hs : sL_player a x1 x2 r3 h) : Met l yL_player vL_player rmL_player (va_Pc [.ref a, .int x1, .int x2, .ref r3] (fun U => WS X h U)) (QI X (fL_player a x1 x2 r3 h).1 (fL_player a x1 x2 r3 h).2) 3 18 (xA X) := by
  refine met_ofWH (cc := cL_player) (maxL := 5) (ret := some .int) (hh := [(0, 10, 13, 18), (0, 10, 17, 13)]) (by decide) rfl ?_
  intro p e s m args below meth c s₁ B hml hv
  obtain ⟨rfl, hW, hK⟩ := hv
  have hx := B.exec
  have hb := B.bytes
  have hr := B.returns
  have hlk := B.notSynchronized
  have hown : s.vm.findClass RL = some m.cls := findClass_of_methodNamed B.named
  have hws : ∀ w ∈ vL_player, w.before _ s = true := fun w hw => atoms_spec (ws := vL_player) B.pre w hw
  have htab : c.exceptionTable.toList = tableOf [(0, 10, 13, 18), (0, 10, 17, 13)] := vx_table (x := yL_player) B (hws _ List.mem_cons_self)
  have hts : ∀ w ∈ lwG, w.before _ s = true := fun w hw => hws w (List.mem_cons_of_mem _ hw)
  have hS : va_S (xA X) s.heap s.heap [] := va_S.rf
  have hl := lv_entry ([.ref a, .int x1, .int x2, .ref r3]) (n := 5) (Nat.le_of_ble_eq_true rfl)
  rw [lg_entry_eq]
  generalize (lg_sl ([.ref a, .int x1, .int x2, .ref r3]) ++ List.replicate (5 - (lg_sl ([.ref a, .int x1, .int x2, .ref r3])).length) Slot.unset).toArray = ls at hl ⊢
  have hl : lv_has ls 5 [(0, .ref a), (1, .int x1), (2, .int x2), (3, .ref r3)] := hl
  refine lv_aload_n hx hb dL_player_0 rfl (lv_at hl 3 rfl) ?_
  refine lv_iconst (v := 0) hx hb dL_player_1 (by decide) ?_
  refine lv_aload_n hx hb dL_player_2 rfl (lv_at hl 0 rfl) ?_
  refine lv_iload_n hx hb dL_player_3 rfl (lv_at hl 1 rfl) ?_
  refine lv_iload_n hx hb dL_player_4 rfl (lv_at hl 2 rfl) ?_
  obtain ⟨hc1, hs⟩ := hs
  refine kw_call (r := fX5_player a x1 x2 h) (vx_runV (g := F0 m 5 ls _) (As := [.int x1, .int x2]) (rest := [.int 0, .ref r3]) ⟨hx, hb, hml, hown, hts⟩ (kX5_player l hst X h a x1 x2 hO hc1) (wX5_player hts q3_163 ⟨Nat.le_of_ble_eq_true rfl, Nat.le_of_ble_eq_true rfl⟩) ⟨WS.blind, va_recv hK.1 (hW.one hO.1) (ci := 5) (q0 := 0) rfl rfl, WS.pre hK hW hS⟩ rfl rfl hl.1 rfl (lv_room (Nat.le_of_ble_eq_true rfl)) dL_player_5 ⟨Nat.le_of_ble_eq_true rfl, Nat.le_of_ble_eq_true rfl⟩) hS (fun c1 H locs hW hS => ?_) (fun c1 H locs q ce hW hS hq hv hcl => ?_)
  · have e9 : fL_player a x1 x2 r3 h = (0, hsetL (fX5_player a x1 x2 h).2.2 r3 0 1 (fX5_player a x1 x2 h).2.1.toInt64) := if_pos c1
    rw [e9]
    refine lv_i2l hx hb dL_player_8 rfl ?_
    refine kb_last hx hb hK hW hS hJ dL_player_9 (fun H locs hW hS => ?_)
    refine lv_goto (tgt := 21) hx hb dL_player_10 (by decide) ?_
    refine lv_iconst (v := 0) hx hb dL_player_21 (by decide) ?_
    exact kr_i hx hb hr hlk hK hW hS dL_player_22
  · have hs := hs.resolve_left c1
    rcases hs with hs | hs
    · rw [hs] at hcl
      have e9 : fL_player a x1 x2 r3 h = (1, (fX5_player a x1 x2 h).2.2) := (if_neg c1).trans (if_pos hs)
      rw [e9]
      refine vx_catch hown [] ⟨0, 10, 13, 18⟩ [⟨0, 10, 17, 13⟩] htab (fun z hz => by simp at hz) (by decide) (by decide) (hts _ q3_52) (va_Nw.use rfl hK.2.2.2.2.2.2.2.2.2.1.2.1) hq hv hcl ?_
      refine lv_astore (lv' := [(4, .ref q), (0, .ref a), (1, .int x1), (2, .int x2), (3, .ref r3)]) hx hb dL_player_13 hl (by decide) rfl (fun ls hl => ?_)
      refine lv_iconst (v := 1) hx hb dL_player_15 (by decide) ?_
      exact kr_i hx hb hr hlk hK hW hS dL_player_16
    · rw [hs] at hcl
      have e9 : fL_player a x1 x2 r3 h = (2, (fX5_player a x1 x2 h).2.2) := (if_neg c1).trans (if_neg (by rw [hs]; decide))
      rw [e9]
      refine vx_catch hown [⟨0, 10, 13, 18⟩] ⟨0, 10, 17, 13⟩ [] htab (fun z hz => by obtain rfl := List.mem_singleton.mp hz; exact Or.inr ⟨by decide, "java/lang/IndexOutOfBoundsException", hts _ q3_52, hK.2.2.2.2.2.2.2.2.2.2.2⟩) (by decide) (by decide) (hts _ q2_207) (va_Nw.use rfl hK.2.2.2.2.2.2.2.2.2.1.1) hq hv hcl ?_
      refine lv_astore (lv' := [(4, .ref q), (0, .ref a), (1, .int x1), (2, .int x2), (3, .ref r3)]) hx hb dL_player_17 hl (by decide) rfl (fun ls hl => ?_)
      refine lv_iconst (v := 2) hx hb dL_player_19 (by decide) ?_
      exact kr_i hx hb hr hlk hK hW hS dL_player_20
def fL_owner (a : Nat) (x1 : Int32) (r2 : Nat) (h : HH) : Int32 × HH := if (fX5_owner a x1 h).1 = 0 then (0, hsetL (fX5_owner a x1 h).2.2 r2 0 1 (fX5_owner a x1 h).2.1.toInt64) else (1, (fX5_owner a x1 h).2.2)
def sL_owner (a : Nat) (x1 : Int32) (r2 : Nat) (h : HH) : Prop := sX5_owner a x1 h ∧ ((fX5_owner a x1 h).1 = 0 ∨ (fX5_owner a x1 h).1 = 2)
abbrev rmL_owner : Room := { frames := 8, cells := 3, slots := 18, locals := 131 }
abbrev vL_owner : List Cond := Cond.codeWith yL_owner cL_owner 4 (some .int) [(0, 9, 12, 18)] :: lwG
theorem wL_owner {R : Room} {s : State} {args : Array Value} {own : String} {idx : Nat} (hg : ∀ w ∈ lwG, w.before args s = true) (hl : Cond.methodLink own idx yL_owner ∈ lwG) (hR : rmL_owner.frames + 1 ≤ R.frames ∧ 8 + (4 + 11) + rmL_owner.locals ≤ R.locals) : vx_CSW R s args own idx yL_owner cL_owner 4 (some .int) [(0, 9, 12, 18)] vL_owner rmL_owner 3 18 3 := vx_cwSW 3 hg (gSW hl q3_168 q1_0 q3_169) rfl rfl rfl (by decide +kernel) hR
set_option maxRecDepth 100000 in
set_option maxHeartbeats 4000000 in
theorem kL_owner (l : Launch) (hst : l.stackTraces = false) (X : Cx) (h : HH) (a : Nat) (x1 : Int32) (r2 : Nat) (hO : IsBd X a) (hJ : xL X r2 = some (shJ X 1)) (hs : sL_owner a x1 r2 h) : Met l yL_owner vL_owner rmL_owner (va_Pc [.ref a, .int x1, .ref r2] (fun U => WS X h U)) (QI X (fL_owner a x1 r2 h).1 (fL_owner a x1 r2 h).2) 3 18 (xA X) := by
  refine met_ofWH (cc := cL_owner) (maxL := 4) (ret := some .int) (hh := [(0, 9, 12, 18)]) (by decide) rfl ?_
  intro p e s m args below meth c s₁ B hml hv
  obtain ⟨rfl, hW, hK⟩ := hv
  have hx := B.exec
  have hb := B.bytes
  have hr := B.returns
  have hlk := B.notSynchronized
  have hown : s.vm.findClass RL = some m.cls := findClass_of_methodNamed B.named
  have hws : ∀ w ∈ vL_owner, w.before _ s = true := fun w hw => atoms_spec (ws := vL_owner) B.pre w hw
  have htab : c.exceptionTable.toList = tableOf [(0, 9, 12, 18)] := vx_table (x := yL_owner) B (hws _ List.mem_cons_self)
  have hts : ∀ w ∈ lwG, w.before _ s = true := fun w hw => hws w (List.mem_cons_of_mem _ hw)
  have hS : va_S (xA X) s.heap s.heap [] := va_S.rf
  have hl := lv_entry ([.ref a, .int x1, .ref r2]) (n := 4) (Nat.le_of_ble_eq_true rfl)
  rw [lg_entry_eq]
  generalize (lg_sl ([.ref a, .int x1, .ref r2]) ++ List.replicate (4 - (lg_sl ([.ref a, .int x1, .ref r2])).length) Slot.unset).toArray = ls at hl ⊢
  have hl : lv_has ls 4 [(0, .ref a), (1, .int x1), (2, .ref r2)] := hl
  refine lv_aload_n hx hb dL_owner_0 rfl (lv_at hl 2 rfl) ?_
  refine lv_iconst (v := 0) hx hb dL_owner_1 (by decide) ?_
  refine lv_aload_n hx hb dL_owner_2 rfl (lv_at hl 0 rfl) ?_
  refine lv_iload_n hx hb dL_owner_3 rfl (lv_at hl 1 rfl) ?_
  obtain ⟨hc1, hs⟩ := hs
  refine kw_call (r := fX5_owner a x1 h) (vx_runV (g := F0 m 4 ls _) (As := [.int x1]) (rest := [.int 0, .ref r2]) ⟨hx, hb, hml, hown, hts⟩ (kX5_owner l hst X h a x1 hO hc1) (wX5_owner hts q3_170 ⟨Nat.le_of_ble_eq_true rfl, Nat.le_of_ble_eq_true rfl⟩) ⟨WS.blind, va_recv hK.1 (hW.one hO.1) (ci := 5) (q0 := 0) rfl rfl, WS.pre hK hW hS⟩ rfl rfl hl.1 rfl (lv_room (Nat.le_of_ble_eq_true rfl)) dL_owner_4 ⟨Nat.le_of_ble_eq_true rfl, Nat.le_of_ble_eq_true rfl⟩) hS (fun c1 H locs hW hS => ?_) (fun c1 H locs q ce hW hS hq hv hcl => ?_)
  · have e9 : fL_owner a x1 r2 h = (0, hsetL (fX5_owner a x1 h).2.2 r2 0 1 (fX5_owner a x1 h).2.1.toInt64) := if_pos c1
    rw [e9]
    refine lv_i2l hx hb dL_owner_7 rfl ?_
    refine kb_last hx hb hK hW hS hJ dL_owner_8 (fun H locs hW hS => ?_)
    refine lv_goto (tgt := 15) hx hb dL_owner_9 (by decide) ?_
    refine lv_iconst (v := 0) hx hb dL_owner_15 (by decide) ?_
    exact kr_i hx hb hr hlk hK hW hS dL_owner_16
  · have hs := hs.resolve_left c1
    rw [hs] at hcl
    have e9 : fL_owner a x1 r2 h = (1, (fX5_owner a x1 h).2.2) := if_neg c1
    rw [e9]
    refine vx_catch hown [] ⟨0, 9, 12, 18⟩ [] htab (fun z hz => by simp at hz) (by decide) (by decide) (hts _ q3_52) (va_Nw.use rfl hK.2.2.2.2.2.2.2.2.2.1.2.1) hq hv hcl ?_
    refine lv_astore_n (lv' := [(3, .ref q), (0, .ref a), (1, .int x1), (2, .ref r2)]) hx hb dL_owner_12 rfl hl (by decide) rfl (fun ls hl => ?_)
    refine lv_iconst (v := 1) hx hb dL_owner_13 (by decide) ?_
    exact kr_i hx hb hr hlk hK hW hS dL_owner_14
def fL_space (a : Nat) (x1 : Int32) (x2 : Int32) (r3 : Nat) (h : HH) : Int32 × HH := if (fX5_space a x1 x2 h).1 = 0 then (0, hsetL (fX5_space a x1 x2 h).2.2 r3 0 1 (fX5_space a x1 x2 h).2.1.toInt64) else if (fX5_space a x1 x2 h).1 = 2 then (1, (fX5_space a x1 x2 h).2.2) else (2, (fX5_space a x1 x2 h).2.2)
def sL_space (a : Nat) (x1 : Int32) (x2 : Int32) (r3 : Nat) (h : HH) : Prop := sX5_space a x1 x2 h ∧ ((fX5_space a x1 x2 h).1 = 0 ∨ (fX5_space a x1 x2 h).1 = 2 ∨ (fX5_space a x1 x2 h).1 = 1)
abbrev rmL_space : Room := { frames := 8, cells := 3, slots := 18, locals := 132 }
abbrev vL_space : List Cond := Cond.codeWith yL_space cL_space 5 (some .int) [(0, 10, 13, 18), (0, 10, 17, 13)] :: lwG
theorem wL_space {R : Room} {s : State} {args : Array Value} {own : String} {idx : Nat} (hg : ∀ w ∈ lwG, w.before args s = true) (hl : Cond.methodLink own idx yL_space ∈ lwG) (hR : rmL_space.frames + 1 ≤ R.frames ∧ 8 + (5 + 11) + rmL_space.locals ≤ R.locals) : vx_CSW R s args own idx yL_space cL_space 5 (some .int) [(0, 10, 13, 18), (0, 10, 17, 13)] vL_space rmL_space 3 18 4 := vx_cwSW 4 hg (gSW hl q3_176 q1_0 q3_177) rfl rfl rfl (by decide +kernel) hR
set_option maxRecDepth 100000 in
set_option maxHeartbeats 4000000 in
theorem kL_space (l : Launch) (hst : l.stackTraces = false) (X : Cx) (h : HH) (a : Nat) (x1 : Int32) (x2 : Int32) (r3 : Nat) (hO : IsBd X a) (hJ : xL X r3 = some (shJ X 1)) (hs : sL_space a x1 x2 r3 h) : Met l yL_space vL_space rmL_space (va_Pc [.ref a, .int x1, .int x2, .ref r3] (fun U => WS X h U)) (QI X (fL_space a x1 x2 r3 h).1 (fL_space a x1 x2 r3 h).2) 3 18 (xA X) := by
  refine met_ofWH (cc := cL_space) (maxL := 5) (ret := some .int) (hh := [(0, 10, 13, 18), (0, 10, 17, 13)]) (by decide) rfl ?_
  intro p e s m args below meth c s₁ B hml hv
  obtain ⟨rfl, hW, hK⟩ := hv
  have hx := B.exec
  have hb := B.bytes
  have hr := B.returns
  have hlk := B.notSynchronized
  have hown : s.vm.findClass RL = some m.cls := findClass_of_methodNamed B.named
  have hws : ∀ w ∈ vL_space, w.before _ s = true := fun w hw => atoms_spec (ws := vL_space) B.pre w hw
  have htab : c.exceptionTable.toList = tableOf [(0, 10, 13, 18), (0, 10, 17, 13)] := vx_table (x := yL_space) B (hws _ List.mem_cons_self)
  have hts : ∀ w ∈ lwG, w.before _ s = true := fun w hw => hws w (List.mem_cons_of_mem _ hw)
  have hS : va_S (xA X) s.heap s.heap [] := va_S.rf
  have hl := lv_entry ([.ref a, .int x1, .int x2, .ref r3]) (n := 5) (Nat.le_of_ble_eq_true rfl)
  rw [lg_entry_eq]
  generalize (lg_sl ([.ref a, .int x1, .int x2, .ref r3]) ++ List.replicate (5 - (lg_sl ([.ref a, .int x1, .int x2, .ref r3])).length) Slot.unset).toArray = ls at hl ⊢
  have hl : lv_has ls 5 [(0, .ref a), (1, .int x1), (2, .int x2), (3, .ref r3)] := hl
  refine lv_aload_n hx hb dL_space_0 rfl (lv_at hl 3 rfl) ?_
  refine lv_iconst (v := 0) hx hb dL_space_1 (by decide) ?_
  refine lv_aload_n hx hb dL_space_2 rfl (lv_at hl 0 rfl) ?_
  refine lv_iload_n hx hb dL_space_3 rfl (lv_at hl 1 rfl) ?_
  refine lv_iload_n hx hb dL_space_4 rfl (lv_at hl 2 rfl) ?_
  obtain ⟨hc1, hs⟩ := hs
  refine kw_call (r := fX5_space a x1 x2 h) (vx_runV (g := F0 m 5 ls _) (As := [.int x1, .int x2]) (rest := [.int 0, .ref r3]) ⟨hx, hb, hml, hown, hts⟩ (kX5_space l hst X h a x1 x2 hO hc1) (wX5_space hts q3_178 ⟨Nat.le_of_ble_eq_true rfl, Nat.le_of_ble_eq_true rfl⟩) ⟨WS.blind, va_recv hK.1 (hW.one hO.1) (ci := 5) (q0 := 0) rfl rfl, WS.pre hK hW hS⟩ rfl rfl hl.1 rfl (lv_room (Nat.le_of_ble_eq_true rfl)) dL_space_5 ⟨Nat.le_of_ble_eq_true rfl, Nat.le_of_ble_eq_true rfl⟩) hS (fun c1 H locs hW hS => ?_) (fun c1 H locs q ce hW hS hq hv hcl => ?_)
  · have e9 : fL_space a x1 x2 r3 h = (0, hsetL (fX5_space a x1 x2 h).2.2 r3 0 1 (fX5_space a x1 x2 h).2.1.toInt64) := if_pos c1
    rw [e9]
    refine lv_i2l hx hb dL_space_8 rfl ?_
    refine kb_last hx hb hK hW hS hJ dL_space_9 (fun H locs hW hS => ?_)
    refine lv_goto (tgt := 21) hx hb dL_space_10 (by decide) ?_
    refine lv_iconst (v := 0) hx hb dL_space_21 (by decide) ?_
    exact kr_i hx hb hr hlk hK hW hS dL_space_22
  · have hs := hs.resolve_left c1
    rcases hs with hs | hs
    · rw [hs] at hcl
      have e9 : fL_space a x1 x2 r3 h = (1, (fX5_space a x1 x2 h).2.2) := (if_neg c1).trans (if_pos hs)
      rw [e9]
      refine vx_catch hown [] ⟨0, 10, 13, 18⟩ [⟨0, 10, 17, 13⟩] htab (fun z hz => by simp at hz) (by decide) (by decide) (hts _ q3_52) (va_Nw.use rfl hK.2.2.2.2.2.2.2.2.2.1.2.1) hq hv hcl ?_
      refine lv_astore (lv' := [(4, .ref q), (0, .ref a), (1, .int x1), (2, .int x2), (3, .ref r3)]) hx hb dL_space_13 hl (by decide) rfl (fun ls hl => ?_)
      refine lv_iconst (v := 1) hx hb dL_space_15 (by decide) ?_
      exact kr_i hx hb hr hlk hK hW hS dL_space_16
    · rw [hs] at hcl
      have e9 : fL_space a x1 x2 r3 h = (2, (fX5_space a x1 x2 h).2.2) := (if_neg c1).trans (if_neg (by rw [hs]; decide))
      rw [e9]
      refine vx_catch hown [⟨0, 10, 13, 18⟩] ⟨0, 10, 17, 13⟩ [] htab (fun z hz => by obtain rfl := List.mem_singleton.mp hz; exact Or.inr ⟨by decide, "java/lang/IndexOutOfBoundsException", hts _ q3_52, hK.2.2.2.2.2.2.2.2.2.2.2⟩) (by decide) (by decide) (hts _ q2_207) (va_Nw.use rfl hK.2.2.2.2.2.2.2.2.2.1.1) hq hv hcl ?_
      refine lv_astore (lv' := [(4, .ref q), (0, .ref a), (1, .int x1), (2, .int x2), (3, .ref r3)]) hx hb dL_space_17 hl (by decide) rfl (fun ls hl => ?_)
      refine lv_iconst (v := 2) hx hb dL_space_19 (by decide) ?_
      exact kr_i hx hb hr hlk hK hW hS dL_space_20
def fL_cost (a : Nat) (x1 : Int32) (x2 : Int32) (x3 : Int32) (r4 : Nat) (h : HH) : Int32 × HH := if (fX5_cost a x1 x2 x3 h).1 = 0 then (0, hsetL (fX5_cost a x1 x2 x3 h).2.2 r4 0 1 (fX5_cost a x1 x2 x3 h).2.1.toInt64) else if (fX5_cost a x1 x2 x3 h).1 = 2 then (1, (fX5_cost a x1 x2 x3 h).2.2) else (2, (fX5_cost a x1 x2 x3 h).2.2)
def sL_cost (a : Nat) (x1 : Int32) (x2 : Int32) (x3 : Int32) (r4 : Nat) (h : HH) : Prop := sX5_cost a x1 x2 x3 h ∧ ((fX5_cost a x1 x2 x3 h).1 = 0 ∨ (fX5_cost a x1 x2 x3 h).1 = 2 ∨ (fX5_cost a x1 x2 x3 h).1 = 1)
abbrev rmL_cost : Room := { frames := 9, cells := 3, slots := 18, locals := 154 }
abbrev vL_cost : List Cond := Cond.codeWith yL_cost cL_cost 6 (some .int) [(0, 12, 15, 18), (0, 12, 19, 13)] :: lwG
theorem wL_cost {R : Room} {s : State} {args : Array Value} {own : String} {idx : Nat} (hg : ∀ w ∈ lwG, w.before args s = true) (hl : Cond.methodLink own idx yL_cost ∈ lwG) (hR : rmL_cost.frames + 1 ≤ R.frames ∧ 8 + (6 + 11) + rmL_cost.locals ≤ R.locals) : vx_CSW R s args own idx yL_cost cL_cost 6 (some .int) [(0, 12, 15, 18), (0, 12, 19, 13)] vL_cost rmL_cost 3 18 5 := vx_cwSW 5 hg (gSW hl q3_183 q1_0 q3_184) rfl rfl rfl (by decide +kernel) hR
set_option maxRecDepth 100000 in
set_option maxHeartbeats 4000000 in
theorem kL_cost (l : Launch) (hst : l.stackTraces = false) (X : Cx) (h : HH) (a : Nat) (x1 : Int32) (x2 : Int32) (x3 : Int32) (r4 : Nat) (hO : IsBd X a) (hJ : xL X r4 = some (shJ X 1)) (hs : sL_cost a x1 x2 x3 r4 h) : Met l yL_cost vL_cost rmL_cost (va_Pc [.ref a, .int x1, .int x2, .int x3, .ref r4] (fun U => WS X h U)) (QI X (fL_cost a x1 x2 x3 r4 h).1 (fL_cost a x1 x2 x3 r4 h).2) 3 18 (xA X) := by
  refine met_ofWH (cc := cL_cost) (maxL := 6) (ret := some .int) (hh := [(0, 12, 15, 18), (0, 12, 19, 13)]) (by decide) rfl ?_
  intro p e s m args below meth c s₁ B hml hv
  obtain ⟨rfl, hW, hK⟩ := hv
  have hx := B.exec
  have hb := B.bytes
  have hr := B.returns
  have hlk := B.notSynchronized
  have hown : s.vm.findClass RL = some m.cls := findClass_of_methodNamed B.named
  have hws : ∀ w ∈ vL_cost, w.before _ s = true := fun w hw => atoms_spec (ws := vL_cost) B.pre w hw
  have htab : c.exceptionTable.toList = tableOf [(0, 12, 15, 18), (0, 12, 19, 13)] := vx_table (x := yL_cost) B (hws _ List.mem_cons_self)
  have hts : ∀ w ∈ lwG, w.before _ s = true := fun w hw => hws w (List.mem_cons_of_mem _ hw)
  have hS : va_S (xA X) s.heap s.heap [] := va_S.rf
  have hl := lv_entry ([.ref a, .int x1, .int x2, .int x3, .ref r4]) (n := 6) (Nat.le_of_ble_eq_true rfl)
  rw [lg_entry_eq]
  generalize (lg_sl ([.ref a, .int x1, .int x2, .int x3, .ref r4]) ++ List.replicate (6 - (lg_sl ([.ref a, .int x1, .int x2, .int x3, .ref r4])).length) Slot.unset).toArray = ls at hl ⊢
  have hl : lv_has ls 6 [(0, .ref a), (1, .int x1), (2, .int x2), (3, .int x3), (4, .ref r4)] := hl
  refine lv_aload hx hb dL_cost_0 (lv_at hl 4 rfl) ?_
  refine lv_iconst (v := 0) hx hb dL_cost_2 (by decide) ?_
  refine lv_aload_n hx hb dL_cost_3 rfl (lv_at hl 0 rfl) ?_
  refine lv_iload_n hx hb dL_cost_4 rfl (lv_at hl 1 rfl) ?_
  refine lv_iload_n hx hb dL_cost_5 rfl (lv_at hl 2 rfl) ?_
  refine lv_iload_n hx hb dL_cost_6 rfl (lv_at hl 3 rfl) ?_
  obtain ⟨hc1, hs⟩ := hs
  refine kw_call (r := fX5_cost a x1 x2 x3 h) (vx_runV (g := F0 m 7 ls _) (As := [.int x1, .int x2, .int x3]) (rest := [.int 0, .ref r4]) ⟨hx, hb, hml, hown, hts⟩ (kX5_cost l hst X h a x1 x2 x3 hO hc1) (wX5_cost hts q3_185 ⟨Nat.le_of_ble_eq_true rfl, Nat.le_of_ble_eq_true rfl⟩) ⟨WS.blind, va_recv hK.1 (hW.one hO.1) (ci := 5) (q0 := 0) rfl rfl, WS.pre hK hW hS⟩ rfl rfl hl.1 rfl (lv_room (Nat.le_of_ble_eq_true rfl)) dL_cost_7 ⟨Nat.le_of_ble_eq_true rfl, Nat.le_of_ble_eq_true rfl⟩) hS (fun c1 H locs hW hS => ?_) (fun c1 H locs q ce hW hS hq hv hcl => ?_)
  · have e9 : fL_cost a x1 x2 x3 r4 h = (0, hsetL (fX5_cost a x1 x2 x3 h).2.2 r4 0 1 (fX5_cost a x1 x2 x3 h).2.1.toInt64) := if_pos c1
    rw [e9]
    refine lv_i2l hx hb dL_cost_10 rfl ?_
    refine kb_last hx hb hK hW hS hJ dL_cost_11 (fun H locs hW hS => ?_)
    refine lv_goto (tgt := 23) hx hb dL_cost_12 (by decide) ?_
    refine lv_iconst (v := 0) hx hb dL_cost_23 (by decide) ?_
    exact kr_i hx hb hr hlk hK hW hS dL_cost_24
  · have hs := hs.resolve_left c1
    rcases hs with hs | hs
    · rw [hs] at hcl
      have e9 : fL_cost a x1 x2 x3 r4 h = (1, (fX5_cost a x1 x2 x3 h).2.2) := (if_neg c1).trans (if_pos hs)
      rw [e9]
      refine vx_catch hown [] ⟨0, 12, 15, 18⟩ [⟨0, 12, 19, 13⟩] htab (fun z hz => by simp at hz) (by decide) (by decide) (hts _ q3_52) (va_Nw.use rfl hK.2.2.2.2.2.2.2.2.2.1.2.1) hq hv hcl ?_
      refine lv_astore (lv' := [(5, .ref q), (0, .ref a), (1, .int x1), (2, .int x2), (3, .int x3), (4, .ref r4)]) hx hb dL_cost_15 hl (by decide) rfl (fun ls hl => ?_)
      refine lv_iconst (v := 1) hx hb dL_cost_17 (by decide) ?_
      exact kr_i hx hb hr hlk hK hW hS dL_cost_18
    · rw [hs] at hcl
      have e9 : fL_cost a x1 x2 x3 r4 h = (2, (fX5_cost a x1 x2 x3 h).2.2) := (if_neg c1).trans (if_neg (by rw [hs]; decide))
      rw [e9]
      refine vx_catch hown [⟨0, 12, 15, 18⟩] ⟨0, 12, 19, 13⟩ [] htab (fun z hz => by obtain rfl := List.mem_singleton.mp hz; exact Or.inr ⟨by decide, "java/lang/IndexOutOfBoundsException", hts _ q3_52, hK.2.2.2.2.2.2.2.2.2.2.2⟩) (by decide) (by decide) (hts _ q2_207) (va_Nw.use rfl hK.2.2.2.2.2.2.2.2.2.1.1) hq hv hcl ?_
      refine lv_astore (lv' := [(5, .ref q), (0, .ref a), (1, .int x1), (2, .int x2), (3, .int x3), (4, .ref r4)]) hx hb dL_cost_19 hl (by decide) rfl (fun ls hl => ?_)
      refine lv_iconst (v := 2) hx hb dL_cost_21 (by decide) ?_
      exact kr_i hx hb hr hlk hK hW hS dL_cost_22
def fL_need (a : Nat) (x1 : Int32) (r2 : Nat) (h : HH) : Int32 × HH := if (fX5_need a x1 h).1 = 0 then (0, hsetL (fX5_need a x1 h).2.2 r2 0 1 (fX5_need a x1 h).2.1.toInt64) else (1, (fX5_need a x1 h).2.2)
def sL_need (a : Nat) (x1 : Int32) (r2 : Nat) (h : HH) : Prop := sX5_need a x1 h ∧ ((fX5_need a x1 h).1 = 0 ∨ (fX5_need a x1 h).1 = 2)
abbrev rmL_need : Room := { frames := 9, cells := 3, slots := 18, locals := 152 }
abbrev vL_need : List Cond := Cond.codeWith yL_need cL_need 4 (some .int) [(0, 9, 12, 18)] :: lwG
theorem wL_need {R : Room} {s : State} {args : Array Value} {own : String} {idx : Nat} (hg : ∀ w ∈ lwG, w.before args s = true) (hl : Cond.methodLink own idx yL_need ∈ lwG) (hR : rmL_need.frames + 1 ≤ R.frames ∧ 8 + (4 + 11) + rmL_need.locals ≤ R.locals) : vx_CSW R s args own idx yL_need cL_need 4 (some .int) [(0, 9, 12, 18)] vL_need rmL_need 3 18 3 := vx_cwSW 3 hg (gSW hl q3_191 q1_0 q3_192) rfl rfl rfl (by decide +kernel) hR
set_option maxRecDepth 100000 in
set_option maxHeartbeats 4000000 in
theorem kL_need (l : Launch) (hst : l.stackTraces = false) (X : Cx) (h : HH) (a : Nat) (x1 : Int32) (r2 : Nat) (hO : IsBd X a) (hJ : xL X r2 = some (shJ X 1)) (hs : sL_need a x1 r2 h) : Met l yL_need vL_need rmL_need (va_Pc [.ref a, .int x1, .ref r2] (fun U => WS X h U)) (QI X (fL_need a x1 r2 h).1 (fL_need a x1 r2 h).2) 3 18 (xA X) := by
  refine met_ofWH (cc := cL_need) (maxL := 4) (ret := some .int) (hh := [(0, 9, 12, 18)]) (by decide) rfl ?_
  intro p e s m args below meth c s₁ B hml hv
  obtain ⟨rfl, hW, hK⟩ := hv
  have hx := B.exec
  have hb := B.bytes
  have hr := B.returns
  have hlk := B.notSynchronized
  have hown : s.vm.findClass RL = some m.cls := findClass_of_methodNamed B.named
  have hws : ∀ w ∈ vL_need, w.before _ s = true := fun w hw => atoms_spec (ws := vL_need) B.pre w hw
  have htab : c.exceptionTable.toList = tableOf [(0, 9, 12, 18)] := vx_table (x := yL_need) B (hws _ List.mem_cons_self)
  have hts : ∀ w ∈ lwG, w.before _ s = true := fun w hw => hws w (List.mem_cons_of_mem _ hw)
  have hS : va_S (xA X) s.heap s.heap [] := va_S.rf
  have hl := lv_entry ([.ref a, .int x1, .ref r2]) (n := 4) (Nat.le_of_ble_eq_true rfl)
  rw [lg_entry_eq]
  generalize (lg_sl ([.ref a, .int x1, .ref r2]) ++ List.replicate (4 - (lg_sl ([.ref a, .int x1, .ref r2])).length) Slot.unset).toArray = ls at hl ⊢
  have hl : lv_has ls 4 [(0, .ref a), (1, .int x1), (2, .ref r2)] := hl
  refine lv_aload_n hx hb dL_need_0 rfl (lv_at hl 2 rfl) ?_
  refine lv_iconst (v := 0) hx hb dL_need_1 (by decide) ?_
  refine lv_aload_n hx hb dL_need_2 rfl (lv_at hl 0 rfl) ?_
  refine lv_iload_n hx hb dL_need_3 rfl (lv_at hl 1 rfl) ?_
  obtain ⟨hc1, hs⟩ := hs
  refine kw_call (r := fX5_need a x1 h) (vx_runV (g := F0 m 4 ls _) (As := [.int x1]) (rest := [.int 0, .ref r2]) ⟨hx, hb, hml, hown, hts⟩ (kX5_need l hst X h a x1 hO hc1) (wX5_need hts q3_193 ⟨Nat.le_of_ble_eq_true rfl, Nat.le_of_ble_eq_true rfl⟩) ⟨WS.blind, va_recv hK.1 (hW.one hO.1) (ci := 5) (q0 := 0) rfl rfl, WS.pre hK hW hS⟩ rfl rfl hl.1 rfl (lv_room (Nat.le_of_ble_eq_true rfl)) dL_need_4 ⟨Nat.le_of_ble_eq_true rfl, Nat.le_of_ble_eq_true rfl⟩) hS (fun c1 H locs hW hS => ?_) (fun c1 H locs q ce hW hS hq hv hcl => ?_)
  · have e9 : fL_need a x1 r2 h = (0, hsetL (fX5_need a x1 h).2.2 r2 0 1 (fX5_need a x1 h).2.1.toInt64) := if_pos c1
    rw [e9]
    refine lv_i2l hx hb dL_need_7 rfl ?_
    refine kb_last hx hb hK hW hS hJ dL_need_8 (fun H locs hW hS => ?_)
    refine lv_goto (tgt := 15) hx hb dL_need_9 (by decide) ?_
    refine lv_iconst (v := 0) hx hb dL_need_15 (by decide) ?_
    exact kr_i hx hb hr hlk hK hW hS dL_need_16
  · have hs := hs.resolve_left c1
    rw [hs] at hcl
    have e9 : fL_need a x1 r2 h = (1, (fX5_need a x1 h).2.2) := if_neg c1
    rw [e9]
    refine vx_catch hown [] ⟨0, 9, 12, 18⟩ [] htab (fun z hz => by simp at hz) (by decide) (by decide) (hts _ q3_52) (va_Nw.use rfl hK.2.2.2.2.2.2.2.2.2.1.2.1) hq hv hcl ?_
    refine lv_astore_n (lv' := [(3, .ref q), (0, .ref a), (1, .int x1), (2, .ref r2)]) hx hb dL_need_12 rfl hl (by decide) rfl (fun ls hl => ?_)
    refine lv_iconst (v := 1) hx hb dL_need_13 (by decide) ?_
    exact kr_i hx hb hr hlk hK hW hS dL_need_14
def fL_missing (a : Nat) (x1 : Int32) (r2 : Nat) (h : HH) : Int32 × HH := if (fX5_missing a x1 h).1 = 0 then (0, hsetL (fX5_missing a x1 h).2.2 r2 0 1 (fX5_missing a x1 h).2.1.toInt64) else (1, (fX5_missing a x1 h).2.2)
def sL_missing (a : Nat) (x1 : Int32) (r2 : Nat) (h : HH) : Prop := sX5_missing a x1 h ∧ ((fX5_missing a x1 h).1 = 0 ∨ (fX5_missing a x1 h).1 = 2)
abbrev rmL_missing : Room := { frames := 9, cells := 3, slots := 18, locals := 152 }
abbrev vL_missing : List Cond := Cond.codeWith yL_missing cL_missing 4 (some .int) [(0, 9, 12, 18)] :: lwG
theorem wL_missing {R : Room} {s : State} {args : Array Value} {own : String} {idx : Nat} (hg : ∀ w ∈ lwG, w.before args s = true) (hl : Cond.methodLink own idx yL_missing ∈ lwG) (hR : rmL_missing.frames + 1 ≤ R.frames ∧ 8 + (4 + 11) + rmL_missing.locals ≤ R.locals) : vx_CSW R s args own idx yL_missing cL_missing 4 (some .int) [(0, 9, 12, 18)] vL_missing rmL_missing 3 18 3 := vx_cwSW 3 hg (gSW hl q3_198 q1_0 q3_199) rfl rfl rfl (by decide +kernel) hR
set_option maxRecDepth 100000 in
set_option maxHeartbeats 4000000 in
theorem kL_missing (l : Launch) (hst : l.stackTraces = false) (X : Cx) (h : HH) (a : Nat) (x1 : Int32) (r2 : Nat) (hO : IsBd X a) (hJ : xL X r2 = some (shJ X 1)) (hs : sL_missing a x1 r2 h) : Met l yL_missing vL_missing rmL_missing (va_Pc [.ref a, .int x1, .ref r2] (fun U => WS X h U)) (QI X (fL_missing a x1 r2 h).1 (fL_missing a x1 r2 h).2) 3 18 (xA X) := by
  refine met_ofWH (cc := cL_missing) (maxL := 4) (ret := some .int) (hh := [(0, 9, 12, 18)]) (by decide) rfl ?_
  intro p e s m args below meth c s₁ B hml hv
  obtain ⟨rfl, hW, hK⟩ := hv
  have hx := B.exec
  have hb := B.bytes
  have hr := B.returns
  have hlk := B.notSynchronized
  have hown : s.vm.findClass RL = some m.cls := findClass_of_methodNamed B.named
  have hws : ∀ w ∈ vL_missing, w.before _ s = true := fun w hw => atoms_spec (ws := vL_missing) B.pre w hw
  have htab : c.exceptionTable.toList = tableOf [(0, 9, 12, 18)] := vx_table (x := yL_missing) B (hws _ List.mem_cons_self)
  have hts : ∀ w ∈ lwG, w.before _ s = true := fun w hw => hws w (List.mem_cons_of_mem _ hw)
  have hS : va_S (xA X) s.heap s.heap [] := va_S.rf
  have hl := lv_entry ([.ref a, .int x1, .ref r2]) (n := 4) (Nat.le_of_ble_eq_true rfl)
  rw [lg_entry_eq]
  generalize (lg_sl ([.ref a, .int x1, .ref r2]) ++ List.replicate (4 - (lg_sl ([.ref a, .int x1, .ref r2])).length) Slot.unset).toArray = ls at hl ⊢
  have hl : lv_has ls 4 [(0, .ref a), (1, .int x1), (2, .ref r2)] := hl
  refine lv_aload_n hx hb dL_missing_0 rfl (lv_at hl 2 rfl) ?_
  refine lv_iconst (v := 0) hx hb dL_missing_1 (by decide) ?_
  refine lv_aload_n hx hb dL_missing_2 rfl (lv_at hl 0 rfl) ?_
  refine lv_iload_n hx hb dL_missing_3 rfl (lv_at hl 1 rfl) ?_
  obtain ⟨hc1, hs⟩ := hs
  refine kw_call (r := fX5_missing a x1 h) (vx_runV (g := F0 m 4 ls _) (As := [.int x1]) (rest := [.int 0, .ref r2]) ⟨hx, hb, hml, hown, hts⟩ (kX5_missing l hst X h a x1 hO hc1) (wX5_missing hts q3_200 ⟨Nat.le_of_ble_eq_true rfl, Nat.le_of_ble_eq_true rfl⟩) ⟨WS.blind, va_recv hK.1 (hW.one hO.1) (ci := 5) (q0 := 0) rfl rfl, WS.pre hK hW hS⟩ rfl rfl hl.1 rfl (lv_room (Nat.le_of_ble_eq_true rfl)) dL_missing_4 ⟨Nat.le_of_ble_eq_true rfl, Nat.le_of_ble_eq_true rfl⟩) hS (fun c1 H locs hW hS => ?_) (fun c1 H locs q ce hW hS hq hv hcl => ?_)
  · have e9 : fL_missing a x1 r2 h = (0, hsetL (fX5_missing a x1 h).2.2 r2 0 1 (fX5_missing a x1 h).2.1.toInt64) := if_pos c1
    rw [e9]
    refine lv_i2l hx hb dL_missing_7 rfl ?_
    refine kb_last hx hb hK hW hS hJ dL_missing_8 (fun H locs hW hS => ?_)
    refine lv_goto (tgt := 15) hx hb dL_missing_9 (by decide) ?_
    refine lv_iconst (v := 0) hx hb dL_missing_15 (by decide) ?_
    exact kr_i hx hb hr hlk hK hW hS dL_missing_16
  · have hs := hs.resolve_left c1
    rw [hs] at hcl
    have e9 : fL_missing a x1 r2 h = (1, (fX5_missing a x1 h).2.2) := if_neg c1
    rw [e9]
    refine vx_catch hown [] ⟨0, 9, 12, 18⟩ [] htab (fun z hz => by simp at hz) (by decide) (by decide) (hts _ q3_52) (va_Nw.use rfl hK.2.2.2.2.2.2.2.2.2.1.2.1) hq hv hcl ?_
    refine lv_astore_n (lv' := [(3, .ref q), (0, .ref a), (1, .int x1), (2, .ref r2)]) hx hb dL_missing_12 rfl hl (by decide) rfl (fun ls hl => ?_)
    refine lv_iconst (v := 1) hx hb dL_missing_13 (by decide) ?_
    exact kr_i hx hb hr hlk hK hW hS dL_missing_14
def fL_score (a : Nat) (x1 : Int32) (x2 : Int32) (r3 : Nat) (h : HH) : Int32 × HH := if (fX5_score a x1 x2 h).1 = 0 then (0, hsetL (fX5_score a x1 x2 h).2.2 r3 0 1 (fX5_score a x1 x2 h).2.1.toInt64) else if (fX5_score a x1 x2 h).1 = 2 then (1, (fX5_score a x1 x2 h).2.2) else (2, (fX5_score a x1 x2 h).2.2)
def sL_score (a : Nat) (x1 : Int32) (x2 : Int32) (r3 : Nat) (h : HH) : Prop := sX5_score a x1 x2 h ∧ ((fX5_score a x1 x2 h).1 = 0 ∨ (fX5_score a x1 x2 h).1 = 2 ∨ (fX5_score a x1 x2 h).1 = 1)
abbrev rmL_score : Room := { frames := 9, cells := 3, slots := 18, locals := 154 }
abbrev vL_score : List Cond := Cond.codeWith yL_score cL_score 5 (some .int) [(0, 10, 13, 18), (0, 10, 17, 13)] :: lwG
theorem wL_score {R : Room} {s : State} {args : Array Value} {own : String} {idx : Nat} (hg : ∀ w ∈ lwG, w.before args s = true) (hl : Cond.methodLink own idx yL_score ∈ lwG) (hR : rmL_score.frames + 1 ≤ R.frames ∧ 8 + (5 + 11) + rmL_score.locals ≤ R.locals) : vx_CSW R s args own idx yL_score cL_score 5 (some .int) [(0, 10, 13, 18), (0, 10, 17, 13)] vL_score rmL_score 3 18 4 := vx_cwSW 4 hg (gSW hl q3_205 q1_0 q3_206) rfl rfl rfl (by decide +kernel) hR
set_option maxRecDepth 100000 in
set_option maxHeartbeats 4000000 in
theorem kL_score (l : Launch) (hst : l.stackTraces = false) (X : Cx) (h : HH) (a : Nat) (x1 : Int32) (x2 : Int32) (r3 : Nat) (hO : IsBd X a) (hJ : xL X r3 = some (shJ X 1)) (hs : sL_score a x1 x2 r3 h) : Met l yL_score vL_score rmL_score (va_Pc [.ref a, .int x1, .int x2, .ref r3] (fun U => WS X h U)) (QI X (fL_score a x1 x2 r3 h).1 (fL_score a x1 x2 r3 h).2) 3 18 (xA X) := by
  refine met_ofWH (cc := cL_score) (maxL := 5) (ret := some .int) (hh := [(0, 10, 13, 18), (0, 10, 17, 13)]) (by decide) rfl ?_
  intro p e s m args below meth c s₁ B hml hv
  obtain ⟨rfl, hW, hK⟩ := hv
  have hx := B.exec
  have hb := B.bytes
  have hr := B.returns
  have hlk := B.notSynchronized
  have hown : s.vm.findClass RL = some m.cls := findClass_of_methodNamed B.named
  have hws : ∀ w ∈ vL_score, w.before _ s = true := fun w hw => atoms_spec (ws := vL_score) B.pre w hw
  have htab : c.exceptionTable.toList = tableOf [(0, 10, 13, 18), (0, 10, 17, 13)] := vx_table (x := yL_score) B (hws _ List.mem_cons_self)
  have hts : ∀ w ∈ lwG, w.before _ s = true := fun w hw => hws w (List.mem_cons_of_mem _ hw)
  have hS : va_S (xA X) s.heap s.heap [] := va_S.rf
  have hl := lv_entry ([.ref a, .int x1, .int x2, .ref r3]) (n := 5) (Nat.le_of_ble_eq_true rfl)
  rw [lg_entry_eq]
  generalize (lg_sl ([.ref a, .int x1, .int x2, .ref r3]) ++ List.replicate (5 - (lg_sl ([.ref a, .int x1, .int x2, .ref r3])).length) Slot.unset).toArray = ls at hl ⊢
  have hl : lv_has ls 5 [(0, .ref a), (1, .int x1), (2, .int x2), (3, .ref r3)] := hl
  refine lv_aload_n hx hb dL_score_0 rfl (lv_at hl 3 rfl) ?_
  refine lv_iconst (v := 0) hx hb dL_score_1 (by decide) ?_
  refine lv_aload_n hx hb dL_score_2 rfl (lv_at hl 0 rfl) ?_
  refine lv_iload_n hx hb dL_score_3 rfl (lv_at hl 1 rfl) ?_
  refine lv_iload_n hx hb dL_score_4 rfl (lv_at hl 2 rfl) ?_
  obtain ⟨hc1, hs⟩ := hs
  refine kw_call (r := fX5_score a x1 x2 h) (vx_runV (g := F0 m 5 ls _) (As := [.int x1, .int x2]) (rest := [.int 0, .ref r3]) ⟨hx, hb, hml, hown, hts⟩ (kX5_score l hst X h a x1 x2 hO hc1) (wX5_score hts q3_207 ⟨Nat.le_of_ble_eq_true rfl, Nat.le_of_ble_eq_true rfl⟩) ⟨WS.blind, va_recv hK.1 (hW.one hO.1) (ci := 5) (q0 := 0) rfl rfl, WS.pre hK hW hS⟩ rfl rfl hl.1 rfl (lv_room (Nat.le_of_ble_eq_true rfl)) dL_score_5 ⟨Nat.le_of_ble_eq_true rfl, Nat.le_of_ble_eq_true rfl⟩) hS (fun c1 H locs hW hS => ?_) (fun c1 H locs q ce hW hS hq hv hcl => ?_)
  · have e9 : fL_score a x1 x2 r3 h = (0, hsetL (fX5_score a x1 x2 h).2.2 r3 0 1 (fX5_score a x1 x2 h).2.1.toInt64) := if_pos c1
    rw [e9]
    refine lv_i2l hx hb dL_score_8 rfl ?_
    refine kb_last hx hb hK hW hS hJ dL_score_9 (fun H locs hW hS => ?_)
    refine lv_goto (tgt := 21) hx hb dL_score_10 (by decide) ?_
    refine lv_iconst (v := 0) hx hb dL_score_21 (by decide) ?_
    exact kr_i hx hb hr hlk hK hW hS dL_score_22
  · have hs := hs.resolve_left c1
    rcases hs with hs | hs
    · rw [hs] at hcl
      have e9 : fL_score a x1 x2 r3 h = (1, (fX5_score a x1 x2 h).2.2) := (if_neg c1).trans (if_pos hs)
      rw [e9]
      refine vx_catch hown [] ⟨0, 10, 13, 18⟩ [⟨0, 10, 17, 13⟩] htab (fun z hz => by simp at hz) (by decide) (by decide) (hts _ q3_52) (va_Nw.use rfl hK.2.2.2.2.2.2.2.2.2.1.2.1) hq hv hcl ?_
      refine lv_astore (lv' := [(4, .ref q), (0, .ref a), (1, .int x1), (2, .int x2), (3, .ref r3)]) hx hb dL_score_13 hl (by decide) rfl (fun ls hl => ?_)
      refine lv_iconst (v := 1) hx hb dL_score_15 (by decide) ?_
      exact kr_i hx hb hr hlk hK hW hS dL_score_16
    · rw [hs] at hcl
      have e9 : fL_score a x1 x2 r3 h = (2, (fX5_score a x1 x2 h).2.2) := (if_neg c1).trans (if_neg (by rw [hs]; decide))
      rw [e9]
      refine vx_catch hown [⟨0, 10, 13, 18⟩] ⟨0, 10, 17, 13⟩ [] htab (fun z hz => by obtain rfl := List.mem_singleton.mp hz; exact Or.inr ⟨by decide, "java/lang/IndexOutOfBoundsException", hts _ q3_52, hK.2.2.2.2.2.2.2.2.2.2.2⟩) (by decide) (by decide) (hts _ q2_207) (va_Nw.use rfl hK.2.2.2.2.2.2.2.2.2.1.1) hq hv hcl ?_
      refine lv_astore (lv' := [(4, .ref q), (0, .ref a), (1, .int x1), (2, .int x2), (3, .ref r3)]) hx hb dL_score_17 hl (by decide) rfl (fun ls hl => ?_)
      refine lv_iconst (v := 2) hx hb dL_score_19 (by decide) ?_
      exact kr_i hx hb hr hlk hK hW hS dL_score_20
def fL_rank (a : Nat) (x1 : Int32) (r2 : Nat) (h : HH) : Int32 × HH := if (fX5_rank a x1 h).1 = 0 then (0, hsetL (fX5_rank a x1 h).2.2 r2 0 1 (fX5_rank a x1 h).2.1.toInt64) else (1, (fX5_rank a x1 h).2.2)
def sL_rank (a : Nat) (x1 : Int32) (r2 : Nat) (h : HH) : Prop := sX5_rank a x1 h ∧ ((fX5_rank a x1 h).1 = 0 ∨ (fX5_rank a x1 h).1 = 2)
abbrev rmL_rank : Room := { frames := 9, cells := 3, slots := 18, locals := 152 }
abbrev vL_rank : List Cond := Cond.codeWith yL_rank cL_rank 4 (some .int) [(0, 9, 12, 18)] :: lwG
theorem wL_rank {R : Room} {s : State} {args : Array Value} {own : String} {idx : Nat} (hg : ∀ w ∈ lwG, w.before args s = true) (hl : Cond.methodLink own idx yL_rank ∈ lwG) (hR : rmL_rank.frames + 1 ≤ R.frames ∧ 8 + (4 + 11) + rmL_rank.locals ≤ R.locals) : vx_CSW R s args own idx yL_rank cL_rank 4 (some .int) [(0, 9, 12, 18)] vL_rank rmL_rank 3 18 3 := vx_cwSW 3 hg (gSW hl q3_212 q1_0 q3_213) rfl rfl rfl (by decide +kernel) hR
set_option maxRecDepth 100000 in
set_option maxHeartbeats 4000000 in
theorem kL_rank (l : Launch) (hst : l.stackTraces = false) (X : Cx) (h : HH) (a : Nat) (x1 : Int32) (r2 : Nat) (hO : IsBd X a) (hJ : xL X r2 = some (shJ X 1)) (hs : sL_rank a x1 r2 h) : Met l yL_rank vL_rank rmL_rank (va_Pc [.ref a, .int x1, .ref r2] (fun U => WS X h U)) (QI X (fL_rank a x1 r2 h).1 (fL_rank a x1 r2 h).2) 3 18 (xA X) := by
  refine met_ofWH (cc := cL_rank) (maxL := 4) (ret := some .int) (hh := [(0, 9, 12, 18)]) (by decide) rfl ?_
  intro p e s m args below meth c s₁ B hml hv
  obtain ⟨rfl, hW, hK⟩ := hv
  have hx := B.exec
  have hb := B.bytes
  have hr := B.returns
  have hlk := B.notSynchronized
  have hown : s.vm.findClass RL = some m.cls := findClass_of_methodNamed B.named
  have hws : ∀ w ∈ vL_rank, w.before _ s = true := fun w hw => atoms_spec (ws := vL_rank) B.pre w hw
  have htab : c.exceptionTable.toList = tableOf [(0, 9, 12, 18)] := vx_table (x := yL_rank) B (hws _ List.mem_cons_self)
  have hts : ∀ w ∈ lwG, w.before _ s = true := fun w hw => hws w (List.mem_cons_of_mem _ hw)
  have hS : va_S (xA X) s.heap s.heap [] := va_S.rf
  have hl := lv_entry ([.ref a, .int x1, .ref r2]) (n := 4) (Nat.le_of_ble_eq_true rfl)
  rw [lg_entry_eq]
  generalize (lg_sl ([.ref a, .int x1, .ref r2]) ++ List.replicate (4 - (lg_sl ([.ref a, .int x1, .ref r2])).length) Slot.unset).toArray = ls at hl ⊢
  have hl : lv_has ls 4 [(0, .ref a), (1, .int x1), (2, .ref r2)] := hl
  refine lv_aload_n hx hb dL_rank_0 rfl (lv_at hl 2 rfl) ?_
  refine lv_iconst (v := 0) hx hb dL_rank_1 (by decide) ?_
  refine lv_aload_n hx hb dL_rank_2 rfl (lv_at hl 0 rfl) ?_
  refine lv_iload_n hx hb dL_rank_3 rfl (lv_at hl 1 rfl) ?_
  obtain ⟨hc1, hs⟩ := hs
  refine kw_call (r := fX5_rank a x1 h) (vx_runV (g := F0 m 4 ls _) (As := [.int x1]) (rest := [.int 0, .ref r2]) ⟨hx, hb, hml, hown, hts⟩ (kX5_rank l hst X h a x1 hO hc1) (wX5_rank hts q3_214 ⟨Nat.le_of_ble_eq_true rfl, Nat.le_of_ble_eq_true rfl⟩) ⟨WS.blind, va_recv hK.1 (hW.one hO.1) (ci := 5) (q0 := 0) rfl rfl, WS.pre hK hW hS⟩ rfl rfl hl.1 rfl (lv_room (Nat.le_of_ble_eq_true rfl)) dL_rank_4 ⟨Nat.le_of_ble_eq_true rfl, Nat.le_of_ble_eq_true rfl⟩) hS (fun c1 H locs hW hS => ?_) (fun c1 H locs q ce hW hS hq hv hcl => ?_)
  · have e9 : fL_rank a x1 r2 h = (0, hsetL (fX5_rank a x1 h).2.2 r2 0 1 (fX5_rank a x1 h).2.1.toInt64) := if_pos c1
    rw [e9]
    refine lv_i2l hx hb dL_rank_7 rfl ?_
    refine kb_last hx hb hK hW hS hJ dL_rank_8 (fun H locs hW hS => ?_)
    refine lv_goto (tgt := 15) hx hb dL_rank_9 (by decide) ?_
    refine lv_iconst (v := 0) hx hb dL_rank_15 (by decide) ?_
    exact kr_i hx hb hr hlk hK hW hS dL_rank_16
  · have hs := hs.resolve_left c1
    rw [hs] at hcl
    have e9 : fL_rank a x1 r2 h = (1, (fX5_rank a x1 h).2.2) := if_neg c1
    rw [e9]
    refine vx_catch hown [] ⟨0, 9, 12, 18⟩ [] htab (fun z hz => by simp at hz) (by decide) (by decide) (hts _ q3_52) (va_Nw.use rfl hK.2.2.2.2.2.2.2.2.2.1.2.1) hq hv hcl ?_
    refine lv_astore_n (lv' := [(3, .ref q), (0, .ref a), (1, .int x1), (2, .ref r2)]) hx hb dL_rank_12 rfl hl (by decide) rfl (fun ls hl => ?_)
    refine lv_iconst (v := 1) hx hb dL_rank_13 (by decide) ?_
    exact kr_i hx hb hr hlk hK hW hS dL_rank_14
def fL_option (a : Nat) (x1 : Int32) (r2 : Nat) (h : HH) : Int32 × HH := if (fX5_option a x1 h).1 = 0 then (0, hsetL (fX5_option a x1 h).2.2 r2 0 1 (fX5_option a x1 h).2.1.toInt64) else (1, (fX5_option a x1 h).2.2)
def sL_option (a : Nat) (x1 : Int32) (r2 : Nat) (h : HH) : Prop := sX5_option a x1 h ∧ ((fX5_option a x1 h).1 = 0 ∨ (fX5_option a x1 h).1 = 2)
abbrev rmL_option : Room := { frames := 8, cells := 3, slots := 18, locals := 137 }
abbrev vL_option : List Cond := Cond.codeWith yL_option cL_option 4 (some .int) [(0, 9, 12, 18)] :: lwG
theorem wL_option {R : Room} {s : State} {args : Array Value} {own : String} {idx : Nat} (hg : ∀ w ∈ lwG, w.before args s = true) (hl : Cond.methodLink own idx yL_option ∈ lwG) (hR : rmL_option.frames + 1 ≤ R.frames ∧ 8 + (4 + 11) + rmL_option.locals ≤ R.locals) : vx_CSW R s args own idx yL_option cL_option 4 (some .int) [(0, 9, 12, 18)] vL_option rmL_option 3 18 3 := vx_cwSW 3 hg (gSW hl q3_219 q1_0 q3_220) rfl rfl rfl (by decide +kernel) hR
set_option maxRecDepth 100000 in
set_option maxHeartbeats 4000000 in
theorem kL_option (l : Launch) (hst : l.stackTraces = false) (X : Cx) (h : HH) (a : Nat) (x1 : Int32) (r2 : Nat) (hO : IsBd X a) (hJ : xL X r2 = some (shJ X 1)) (hs : sL_option a x1 r2 h) : Met l yL_option vL_option rmL_option (va_Pc [.ref a, .int x1, .ref r2] (fun U => WS X h U)) (QI X (fL_option a x1 r2 h).1 (fL_option a x1 r2 h).2) 3 18 (xA X) := by
  refine met_ofWH (cc := cL_option) (maxL := 4) (ret := some .int) (hh := [(0, 9, 12, 18)]) (by decide) rfl ?_
  intro p e s m args below meth c s₁ B hml hv
  obtain ⟨rfl, hW, hK⟩ := hv
  have hx := B.exec
  have hb := B.bytes
  have hr := B.returns
  have hlk := B.notSynchronized
  have hown : s.vm.findClass RL = some m.cls := findClass_of_methodNamed B.named
  have hws : ∀ w ∈ vL_option, w.before _ s = true := fun w hw => atoms_spec (ws := vL_option) B.pre w hw
  have htab : c.exceptionTable.toList = tableOf [(0, 9, 12, 18)] := vx_table (x := yL_option) B (hws _ List.mem_cons_self)
  have hts : ∀ w ∈ lwG, w.before _ s = true := fun w hw => hws w (List.mem_cons_of_mem _ hw)
  have hS : va_S (xA X) s.heap s.heap [] := va_S.rf
  have hl := lv_entry ([.ref a, .int x1, .ref r2]) (n := 4) (Nat.le_of_ble_eq_true rfl)
  rw [lg_entry_eq]
  generalize (lg_sl ([.ref a, .int x1, .ref r2]) ++ List.replicate (4 - (lg_sl ([.ref a, .int x1, .ref r2])).length) Slot.unset).toArray = ls at hl ⊢
  have hl : lv_has ls 4 [(0, .ref a), (1, .int x1), (2, .ref r2)] := hl
  refine lv_aload_n hx hb dL_option_0 rfl (lv_at hl 2 rfl) ?_
  refine lv_iconst (v := 0) hx hb dL_option_1 (by decide) ?_
  refine lv_aload_n hx hb dL_option_2 rfl (lv_at hl 0 rfl) ?_
  refine lv_iload_n hx hb dL_option_3 rfl (lv_at hl 1 rfl) ?_
  obtain ⟨hc1, hs⟩ := hs
  refine kw_call (r := fX5_option a x1 h) (vx_runV (g := F0 m 4 ls _) (As := [.int x1]) (rest := [.int 0, .ref r2]) ⟨hx, hb, hml, hown, hts⟩ (kX5_option l hst X h a x1 hO hc1) (wX5_option hts q3_221 ⟨Nat.le_of_ble_eq_true rfl, Nat.le_of_ble_eq_true rfl⟩) ⟨WS.blind, va_recv hK.1 (hW.one hO.1) (ci := 5) (q0 := 0) rfl rfl, WS.pre hK hW hS⟩ rfl rfl hl.1 rfl (lv_room (Nat.le_of_ble_eq_true rfl)) dL_option_4 ⟨Nat.le_of_ble_eq_true rfl, Nat.le_of_ble_eq_true rfl⟩) hS (fun c1 H locs hW hS => ?_) (fun c1 H locs q ce hW hS hq hv hcl => ?_)
  · have e9 : fL_option a x1 r2 h = (0, hsetL (fX5_option a x1 h).2.2 r2 0 1 (fX5_option a x1 h).2.1.toInt64) := if_pos c1
    rw [e9]
    refine lv_i2l hx hb dL_option_7 rfl ?_
    refine kb_last hx hb hK hW hS hJ dL_option_8 (fun H locs hW hS => ?_)
    refine lv_goto (tgt := 15) hx hb dL_option_9 (by decide) ?_
    refine lv_iconst (v := 0) hx hb dL_option_15 (by decide) ?_
    exact kr_i hx hb hr hlk hK hW hS dL_option_16
  · have hs := hs.resolve_left c1
    rw [hs] at hcl
    have e9 : fL_option a x1 r2 h = (1, (fX5_option a x1 h).2.2) := if_neg c1
    rw [e9]
    refine vx_catch hown [] ⟨0, 9, 12, 18⟩ [] htab (fun z hz => by simp at hz) (by decide) (by decide) (hts _ q3_52) (va_Nw.use rfl hK.2.2.2.2.2.2.2.2.2.1.2.1) hq hv hcl ?_
    refine lv_astore_n (lv' := [(3, .ref q), (0, .ref a), (1, .int x1), (2, .ref r2)]) hx hb dL_option_12 rfl hl (by decide) rfl (fun ls hl => ?_)
    refine lv_iconst (v := 1) hx hb dL_option_13 (by decide) ?_
    exact kr_i hx hb hr hlk hK hW hS dL_option_14
def fL_bestScore (a : Nat) (x1 : Int32) (r2 : Nat) (h : HH) : Int32 × HH := if (fX5_bestScore a x1 h).1 = 0 then (0, hsetL (fX5_bestScore a x1 h).2.2 r2 0 1 (fX5_bestScore a x1 h).2.1.toInt64) else (1, (fX5_bestScore a x1 h).2.2)
def sL_bestScore (a : Nat) (x1 : Int32) (r2 : Nat) (h : HH) : Prop := sX5_bestScore a x1 h ∧ ((fX5_bestScore a x1 h).1 = 0 ∨ (fX5_bestScore a x1 h).1 = 1)
abbrev rmL_bestScore : Room := { frames := 13, cells := 3, slots := 18, locals := 315 }
abbrev vL_bestScore : List Cond := Cond.codeWith yL_bestScore cL_bestScore 4 (some .int) [(0, 9, 12, 13)] :: lwG
theorem wL_bestScore {R : Room} {s : State} {args : Array Value} {own : String} {idx : Nat} (hg : ∀ w ∈ lwG, w.before args s = true) (hl : Cond.methodLink own idx yL_bestScore ∈ lwG) (hR : rmL_bestScore.frames + 1 ≤ R.frames ∧ 8 + (4 + 11) + rmL_bestScore.locals ≤ R.locals) : vx_CSW R s args own idx yL_bestScore cL_bestScore 4 (some .int) [(0, 9, 12, 13)] vL_bestScore rmL_bestScore 3 18 3 := vx_cwSW 3 hg (gSW hl q3_226 q1_0 q3_227) rfl rfl rfl (by decide +kernel) hR
set_option maxRecDepth 100000 in
set_option maxHeartbeats 4000000 in
theorem kL_bestScore (l : Launch) (hst : l.stackTraces = false) (X : Cx) (h : HH) (a : Nat) (x1 : Int32) (r2 : Nat) (hO : IsBd X a) (hJ : xL X r2 = some (shJ X 1)) (hs : sL_bestScore a x1 r2 h) : Met l yL_bestScore vL_bestScore rmL_bestScore (va_Pc [.ref a, .int x1, .ref r2] (fun U => WS X h U)) (QI X (fL_bestScore a x1 r2 h).1 (fL_bestScore a x1 r2 h).2) 3 18 (xA X) := by
  refine met_ofWH (cc := cL_bestScore) (maxL := 4) (ret := some .int) (hh := [(0, 9, 12, 13)]) (by decide) rfl ?_
  intro p e s m args below meth c s₁ B hml hv
  obtain ⟨rfl, hW, hK⟩ := hv
  have hx := B.exec
  have hb := B.bytes
  have hr := B.returns
  have hlk := B.notSynchronized
  have hown : s.vm.findClass RL = some m.cls := findClass_of_methodNamed B.named
  have hws : ∀ w ∈ vL_bestScore, w.before _ s = true := fun w hw => atoms_spec (ws := vL_bestScore) B.pre w hw
  have htab : c.exceptionTable.toList = tableOf [(0, 9, 12, 13)] := vx_table (x := yL_bestScore) B (hws _ List.mem_cons_self)
  have hts : ∀ w ∈ lwG, w.before _ s = true := fun w hw => hws w (List.mem_cons_of_mem _ hw)
  have hS : va_S (xA X) s.heap s.heap [] := va_S.rf
  have hl := lv_entry ([.ref a, .int x1, .ref r2]) (n := 4) (Nat.le_of_ble_eq_true rfl)
  rw [lg_entry_eq]
  generalize (lg_sl ([.ref a, .int x1, .ref r2]) ++ List.replicate (4 - (lg_sl ([.ref a, .int x1, .ref r2])).length) Slot.unset).toArray = ls at hl ⊢
  have hl : lv_has ls 4 [(0, .ref a), (1, .int x1), (2, .ref r2)] := hl
  refine lv_aload_n hx hb dL_bestScore_0 rfl (lv_at hl 2 rfl) ?_
  refine lv_iconst (v := 0) hx hb dL_bestScore_1 (by decide) ?_
  refine lv_aload_n hx hb dL_bestScore_2 rfl (lv_at hl 0 rfl) ?_
  refine lv_iload_n hx hb dL_bestScore_3 rfl (lv_at hl 1 rfl) ?_
  obtain ⟨hc1, hs⟩ := hs
  refine kw_call (r := fX5_bestScore a x1 h) (vx_runV (g := F0 m 4 ls _) (As := [.int x1]) (rest := [.int 0, .ref r2]) ⟨hx, hb, hml, hown, hts⟩ (kX5_bestScore l hst X h a x1 hO hc1) (wX5_bestScore hts q3_228 ⟨Nat.le_of_ble_eq_true rfl, Nat.le_of_ble_eq_true rfl⟩) ⟨WS.blind, va_recv hK.1 (hW.one hO.1) (ci := 5) (q0 := 0) rfl rfl, WS.pre hK hW hS⟩ rfl rfl hl.1 rfl (lv_room (Nat.le_of_ble_eq_true rfl)) dL_bestScore_4 ⟨Nat.le_of_ble_eq_true rfl, Nat.le_of_ble_eq_true rfl⟩) hS (fun c1 H locs hW hS => ?_) (fun c1 H locs q ce hW hS hq hv hcl => ?_)
  · have e9 : fL_bestScore a x1 r2 h = (0, hsetL (fX5_bestScore a x1 h).2.2 r2 0 1 (fX5_bestScore a x1 h).2.1.toInt64) := if_pos c1
    rw [e9]
    refine lv_i2l hx hb dL_bestScore_7 rfl ?_
    refine kb_last hx hb hK hW hS hJ dL_bestScore_8 (fun H locs hW hS => ?_)
    refine lv_goto (tgt := 15) hx hb dL_bestScore_9 (by decide) ?_
    refine lv_iconst (v := 0) hx hb dL_bestScore_15 (by decide) ?_
    exact kr_i hx hb hr hlk hK hW hS dL_bestScore_16
  · have hs := hs.resolve_left c1
    rw [hs] at hcl
    have e9 : fL_bestScore a x1 r2 h = (1, (fX5_bestScore a x1 h).2.2) := if_neg c1
    rw [e9]
    refine vx_catch hown [] ⟨0, 9, 12, 13⟩ [] htab (fun z hz => by simp at hz) (by decide) (by decide) (hts _ q2_207) (va_Nw.use rfl hK.2.2.2.2.2.2.2.2.2.1.1) hq hv hcl ?_
    refine lv_astore_n (lv' := [(3, .ref q), (0, .ref a), (1, .int x1), (2, .ref r2)]) hx hb dL_bestScore_12 rfl hl (by decide) rfl (fun ls hl => ?_)
    refine lv_iconst (v := 1) hx hb dL_bestScore_13 (by decide) ?_
    exact kr_i hx hb hr hlk hK hW hS dL_bestScore_14
def fL_bestPlacement (a : Nat) (x1 : Int32) (x2 : Int32) (r3 : Nat) (h : HH) : Int32 × HH := if (fX5_bestPlacement a x1 x2 h).1 = 0 then (0, hsetL (fX5_bestPlacement a x1 x2 h).2.2 r3 0 1 (fX5_bestPlacement a x1 x2 h).2.1.toInt64) else (1, (fX5_bestPlacement a x1 x2 h).2.2)
def sL_bestPlacement (a : Nat) (x1 : Int32) (x2 : Int32) (r3 : Nat) (h : HH) : Prop := sX5_bestPlacement a x1 x2 h ∧ ((fX5_bestPlacement a x1 x2 h).1 = 0 ∨ (fX5_bestPlacement a x1 x2 h).1 = 1)
abbrev rmL_bestPlacement : Room := { frames := 13, cells := 3, slots := 18, locals := 316 }
abbrev vL_bestPlacement : List Cond := Cond.codeWith yL_bestPlacement cL_bestPlacement 5 (some .int) [(0, 10, 13, 13)] :: lwG
theorem wL_bestPlacement {R : Room} {s : State} {args : Array Value} {own : String} {idx : Nat} (hg : ∀ w ∈ lwG, w.before args s = true) (hl : Cond.methodLink own idx yL_bestPlacement ∈ lwG) (hR : rmL_bestPlacement.frames + 1 ≤ R.frames ∧ 8 + (5 + 11) + rmL_bestPlacement.locals ≤ R.locals) : vx_CSW R s args own idx yL_bestPlacement cL_bestPlacement 5 (some .int) [(0, 10, 13, 13)] vL_bestPlacement rmL_bestPlacement 3 18 4 := vx_cwSW 4 hg (gSW hl q3_233 q1_0 q3_234) rfl rfl rfl (by decide +kernel) hR
set_option maxRecDepth 100000 in
set_option maxHeartbeats 4000000 in
theorem kL_bestPlacement (l : Launch) (hst : l.stackTraces = false) (X : Cx) (h : HH) (a : Nat) (x1 : Int32) (x2 : Int32) (r3 : Nat) (hO : IsBd X a) (hJ : xL X r3 = some (shJ X 1)) (hs : sL_bestPlacement a x1 x2 r3 h) : Met l yL_bestPlacement vL_bestPlacement rmL_bestPlacement (va_Pc [.ref a, .int x1, .int x2, .ref r3] (fun U => WS X h U)) (QI X (fL_bestPlacement a x1 x2 r3 h).1 (fL_bestPlacement a x1 x2 r3 h).2) 3 18 (xA X) := by
  refine met_ofWH (cc := cL_bestPlacement) (maxL := 5) (ret := some .int) (hh := [(0, 10, 13, 13)]) (by decide) rfl ?_
  intro p e s m args below meth c s₁ B hml hv
  obtain ⟨rfl, hW, hK⟩ := hv
  have hx := B.exec
  have hb := B.bytes
  have hr := B.returns
  have hlk := B.notSynchronized
  have hown : s.vm.findClass RL = some m.cls := findClass_of_methodNamed B.named
  have hws : ∀ w ∈ vL_bestPlacement, w.before _ s = true := fun w hw => atoms_spec (ws := vL_bestPlacement) B.pre w hw
  have htab : c.exceptionTable.toList = tableOf [(0, 10, 13, 13)] := vx_table (x := yL_bestPlacement) B (hws _ List.mem_cons_self)
  have hts : ∀ w ∈ lwG, w.before _ s = true := fun w hw => hws w (List.mem_cons_of_mem _ hw)
  have hS : va_S (xA X) s.heap s.heap [] := va_S.rf
  have hl := lv_entry ([.ref a, .int x1, .int x2, .ref r3]) (n := 5) (Nat.le_of_ble_eq_true rfl)
  rw [lg_entry_eq]
  generalize (lg_sl ([.ref a, .int x1, .int x2, .ref r3]) ++ List.replicate (5 - (lg_sl ([.ref a, .int x1, .int x2, .ref r3])).length) Slot.unset).toArray = ls at hl ⊢
  have hl : lv_has ls 5 [(0, .ref a), (1, .int x1), (2, .int x2), (3, .ref r3)] := hl
  refine lv_aload_n hx hb dL_bestPlacement_0 rfl (lv_at hl 3 rfl) ?_
  refine lv_iconst (v := 0) hx hb dL_bestPlacement_1 (by decide) ?_
  refine lv_aload_n hx hb dL_bestPlacement_2 rfl (lv_at hl 0 rfl) ?_
  refine lv_iload_n hx hb dL_bestPlacement_3 rfl (lv_at hl 1 rfl) ?_
  refine lv_iload_n hx hb dL_bestPlacement_4 rfl (lv_at hl 2 rfl) ?_
  obtain ⟨hc1, hs⟩ := hs
  refine kw_call (r := fX5_bestPlacement a x1 x2 h) (vx_runV (g := F0 m 5 ls _) (As := [.int x1, .int x2]) (rest := [.int 0, .ref r3]) ⟨hx, hb, hml, hown, hts⟩ (kX5_bestPlacement l hst X h a x1 x2 hO hc1) (wX5_bestPlacement hts q3_235 ⟨Nat.le_of_ble_eq_true rfl, Nat.le_of_ble_eq_true rfl⟩) ⟨WS.blind, va_recv hK.1 (hW.one hO.1) (ci := 5) (q0 := 0) rfl rfl, WS.pre hK hW hS⟩ rfl rfl hl.1 rfl (lv_room (Nat.le_of_ble_eq_true rfl)) dL_bestPlacement_5 ⟨Nat.le_of_ble_eq_true rfl, Nat.le_of_ble_eq_true rfl⟩) hS (fun c1 H locs hW hS => ?_) (fun c1 H locs q ce hW hS hq hv hcl => ?_)
  · have e9 : fL_bestPlacement a x1 x2 r3 h = (0, hsetL (fX5_bestPlacement a x1 x2 h).2.2 r3 0 1 (fX5_bestPlacement a x1 x2 h).2.1.toInt64) := if_pos c1
    rw [e9]
    refine lv_i2l hx hb dL_bestPlacement_8 rfl ?_
    refine kb_last hx hb hK hW hS hJ dL_bestPlacement_9 (fun H locs hW hS => ?_)
    refine lv_goto (tgt := 17) hx hb dL_bestPlacement_10 (by decide) ?_
    refine lv_iconst (v := 0) hx hb dL_bestPlacement_17 (by decide) ?_
    exact kr_i hx hb hr hlk hK hW hS dL_bestPlacement_18
  · have hs := hs.resolve_left c1
    rw [hs] at hcl
    have e9 : fL_bestPlacement a x1 x2 r3 h = (1, (fX5_bestPlacement a x1 x2 h).2.2) := if_neg c1
    rw [e9]
    refine vx_catch hown [] ⟨0, 10, 13, 13⟩ [] htab (fun z hz => by simp at hz) (by decide) (by decide) (hts _ q2_207) (va_Nw.use rfl hK.2.2.2.2.2.2.2.2.2.1.1) hq hv hcl ?_
    refine lv_astore (lv' := [(4, .ref q), (0, .ref a), (1, .int x1), (2, .int x2), (3, .ref r3)]) hx hb dL_bestPlacement_13 hl (by decide) rfl (fun ls hl => ?_)
    refine lv_iconst (v := 1) hx hb dL_bestPlacement_15 (by decide) ?_
    exact kr_i hx hb hr hlk hK hW hS dL_bestPlacement_16
def fL_move (a : Nat) (x1 : Int32) (x2 : Int32) (r3 : Nat) (h : HH) : Int32 × HH := if (fX5_move a x1 x2 h).1 = 0 then (0, hsetL (fX5_move a x1 x2 h).2.2 r3 0 1 (fX5_move a x1 x2 h).2.1.toInt64) else if (fX5_move a x1 x2 h).1 = 2 then (1, (fX5_move a x1 x2 h).2.2) else (2, (fX5_move a x1 x2 h).2.2)
def sL_move (a : Nat) (x1 : Int32) (x2 : Int32) (r3 : Nat) (h : HH) : Prop := sX5_move a x1 x2 h ∧ ((fX5_move a x1 x2 h).1 = 0 ∨ (fX5_move a x1 x2 h).1 = 2 ∨ (fX5_move a x1 x2 h).1 = 1)
abbrev rmL_move : Room := { frames := 8, cells := 3, slots := 18, locals := 132 }
abbrev vL_move : List Cond := Cond.codeWith yL_move cL_move 5 (some .int) [(0, 10, 13, 18), (0, 10, 17, 13)] :: lwG
theorem wL_move {R : Room} {s : State} {args : Array Value} {own : String} {idx : Nat} (hg : ∀ w ∈ lwG, w.before args s = true) (hl : Cond.methodLink own idx yL_move ∈ lwG) (hR : rmL_move.frames + 1 ≤ R.frames ∧ 8 + (5 + 11) + rmL_move.locals ≤ R.locals) : vx_CSW R s args own idx yL_move cL_move 5 (some .int) [(0, 10, 13, 18), (0, 10, 17, 13)] vL_move rmL_move 3 18 4 := vx_cwSW 4 hg (gSW hl q4_0 q1_0 q4_1) rfl rfl rfl (by decide +kernel) hR
set_option maxRecDepth 100000 in
set_option maxHeartbeats 4000000 in
theorem kL_move (l : Launch) (hst : l.stackTraces = false) (X : Cx) (h : HH) (a : Nat) (x1 : Int32) (x2 : Int32) (r3 : Nat) (hO : IsBd X a) (hJ : xL X r3 = some (shJ X 1)) (hs : sL_move a x1 x2 r3 h) : Met l yL_move vL_move rmL_move (va_Pc [.ref a, .int x1, .int x2, .ref r3] (fun U => WS X h U)) (QI X (fL_move a x1 x2 r3 h).1 (fL_move a x1 x2 r3 h).2) 3 18 (xA X) := by
  refine met_ofWH (cc := cL_move) (maxL := 5) (ret := some .int) (hh := [(0, 10, 13, 18), (0, 10, 17, 13)]) (by decide) rfl ?_
  intro p e s m args below meth c s₁ B hml hv
  obtain ⟨rfl, hW, hK⟩ := hv
  have hx := B.exec
  have hb := B.bytes
  have hr := B.returns
  have hlk := B.notSynchronized
  have hown : s.vm.findClass RL = some m.cls := findClass_of_methodNamed B.named
  have hws : ∀ w ∈ vL_move, w.before _ s = true := fun w hw => atoms_spec (ws := vL_move) B.pre w hw
  have htab : c.exceptionTable.toList = tableOf [(0, 10, 13, 18), (0, 10, 17, 13)] := vx_table (x := yL_move) B (hws _ List.mem_cons_self)
  have hts : ∀ w ∈ lwG, w.before _ s = true := fun w hw => hws w (List.mem_cons_of_mem _ hw)
  have hS : va_S (xA X) s.heap s.heap [] := va_S.rf
  have hl := lv_entry ([.ref a, .int x1, .int x2, .ref r3]) (n := 5) (Nat.le_of_ble_eq_true rfl)
  rw [lg_entry_eq]
  generalize (lg_sl ([.ref a, .int x1, .int x2, .ref r3]) ++ List.replicate (5 - (lg_sl ([.ref a, .int x1, .int x2, .ref r3])).length) Slot.unset).toArray = ls at hl ⊢
  have hl : lv_has ls 5 [(0, .ref a), (1, .int x1), (2, .int x2), (3, .ref r3)] := hl
  refine lv_aload_n hx hb dL_move_0 rfl (lv_at hl 3 rfl) ?_
  refine lv_iconst (v := 0) hx hb dL_move_1 (by decide) ?_
  refine lv_aload_n hx hb dL_move_2 rfl (lv_at hl 0 rfl) ?_
  refine lv_iload_n hx hb dL_move_3 rfl (lv_at hl 1 rfl) ?_
  refine lv_iload_n hx hb dL_move_4 rfl (lv_at hl 2 rfl) ?_
  obtain ⟨hc1, hs⟩ := hs
  refine kw_call (r := fX5_move a x1 x2 h) (vx_runV (g := F0 m 5 ls _) (As := [.int x1, .int x2]) (rest := [.int 0, .ref r3]) ⟨hx, hb, hml, hown, hts⟩ (kX5_move l hst X h a x1 x2 hO hc1) (wX5_move hts q4_2 ⟨Nat.le_of_ble_eq_true rfl, Nat.le_of_ble_eq_true rfl⟩) ⟨WS.blind, va_recv hK.1 (hW.one hO.1) (ci := 5) (q0 := 0) rfl rfl, WS.pre hK hW hS⟩ rfl rfl hl.1 rfl (lv_room (Nat.le_of_ble_eq_true rfl)) dL_move_5 ⟨Nat.le_of_ble_eq_true rfl, Nat.le_of_ble_eq_true rfl⟩) hS (fun c1 H locs hW hS => ?_) (fun c1 H locs q ce hW hS hq hv hcl => ?_)
  · have e9 : fL_move a x1 x2 r3 h = (0, hsetL (fX5_move a x1 x2 h).2.2 r3 0 1 (fX5_move a x1 x2 h).2.1.toInt64) := if_pos c1
    rw [e9]
    refine lv_i2l hx hb dL_move_8 rfl ?_
    refine kb_last hx hb hK hW hS hJ dL_move_9 (fun H locs hW hS => ?_)
    refine lv_goto (tgt := 21) hx hb dL_move_10 (by decide) ?_
    refine lv_iconst (v := 0) hx hb dL_move_21 (by decide) ?_
    exact kr_i hx hb hr hlk hK hW hS dL_move_22
  · have hs := hs.resolve_left c1
    rcases hs with hs | hs
    · rw [hs] at hcl
      have e9 : fL_move a x1 x2 r3 h = (1, (fX5_move a x1 x2 h).2.2) := (if_neg c1).trans (if_pos hs)
      rw [e9]
      refine vx_catch hown [] ⟨0, 10, 13, 18⟩ [⟨0, 10, 17, 13⟩] htab (fun z hz => by simp at hz) (by decide) (by decide) (hts _ q3_52) (va_Nw.use rfl hK.2.2.2.2.2.2.2.2.2.1.2.1) hq hv hcl ?_
      refine lv_astore (lv' := [(4, .ref q), (0, .ref a), (1, .int x1), (2, .int x2), (3, .ref r3)]) hx hb dL_move_13 hl (by decide) rfl (fun ls hl => ?_)
      refine lv_iconst (v := 1) hx hb dL_move_15 (by decide) ?_
      exact kr_i hx hb hr hlk hK hW hS dL_move_16
    · rw [hs] at hcl
      have e9 : fL_move a x1 x2 r3 h = (2, (fX5_move a x1 x2 h).2.2) := (if_neg c1).trans (if_neg (by rw [hs]; decide))
      rw [e9]
      refine vx_catch hown [⟨0, 10, 13, 18⟩] ⟨0, 10, 17, 13⟩ [] htab (fun z hz => by obtain rfl := List.mem_singleton.mp hz; exact Or.inr ⟨by decide, "java/lang/IndexOutOfBoundsException", hts _ q3_52, hK.2.2.2.2.2.2.2.2.2.2.2⟩) (by decide) (by decide) (hts _ q2_207) (va_Nw.use rfl hK.2.2.2.2.2.2.2.2.2.1.1) hq hv hcl ?_
      refine lv_astore (lv' := [(4, .ref q), (0, .ref a), (1, .int x1), (2, .int x2), (3, .ref r3)]) hx hb dL_move_17 hl (by decide) rfl (fun ls hl => ?_)
      refine lv_iconst (v := 2) hx hb dL_move_19 (by decide) ?_
      exact kr_i hx hb hr hlk hK hW hS dL_move_20
def fL_undo (a : Nat) (r1 : Nat) (h : HH) : Int32 × HH := if (fX5_undo a h).1 = 0 then (0, hsetL (fX5_undo a h).2.2 r1 0 1 (fX5_undo a h).2.1.toInt64) else (1, (fX5_undo a h).2.2)
def sL_undo (a : Nat) (r1 : Nat) (h : HH) : Prop := sX5_undo a h ∧ ((fX5_undo a h).1 = 0 ∨ (fX5_undo a h).1 = 3)
abbrev rmL_undo : Room := { frames := 8, cells := 3, slots := 18, locals := 144 }
abbrev vL_undo : List Cond := Cond.codeWith yL_undo cL_undo 3 (some .int) [(0, 8, 11, 23)] :: lwG
theorem wL_undo {R : Room} {s : State} {args : Array Value} {own : String} {idx : Nat} (hg : ∀ w ∈ lwG, w.before args s = true) (hl : Cond.methodLink own idx yL_undo ∈ lwG) (hR : rmL_undo.frames + 1 ≤ R.frames ∧ 8 + (3 + 11) + rmL_undo.locals ≤ R.locals) : vx_CSW R s args own idx yL_undo cL_undo 3 (some .int) [(0, 8, 11, 23)] vL_undo rmL_undo 3 18 2 := vx_cwSW 2 hg (gSW hl q4_7 q1_0 q4_8) rfl rfl rfl (by decide +kernel) hR
set_option maxRecDepth 100000 in
set_option maxHeartbeats 4000000 in
theorem kL_undo (l : Launch) (hst : l.stackTraces = false) (X : Cx) (h : HH) (a : Nat) (r1 : Nat) (hO : IsBd X a) (hJ : xL X r1 = some (shJ X 1)) (hs : sL_undo a r1 h) : Met l yL_undo vL_undo rmL_undo (va_Pc [.ref a, .ref r1] (fun U => WS X h U)) (QI X (fL_undo a r1 h).1 (fL_undo a r1 h).2) 3 18 (xA X) := by
  refine met_ofWH (cc := cL_undo) (maxL := 3) (ret := some .int) (hh := [(0, 8, 11, 23)]) (by decide) rfl ?_
  intro p e s m args below meth c s₁ B hml hv
  obtain ⟨rfl, hW, hK⟩ := hv
  have hx := B.exec
  have hb := B.bytes
  have hr := B.returns
  have hlk := B.notSynchronized
  have hown : s.vm.findClass RL = some m.cls := findClass_of_methodNamed B.named
  have hws : ∀ w ∈ vL_undo, w.before _ s = true := fun w hw => atoms_spec (ws := vL_undo) B.pre w hw
  have htab : c.exceptionTable.toList = tableOf [(0, 8, 11, 23)] := vx_table (x := yL_undo) B (hws _ List.mem_cons_self)
  have hts : ∀ w ∈ lwG, w.before _ s = true := fun w hw => hws w (List.mem_cons_of_mem _ hw)
  have hS : va_S (xA X) s.heap s.heap [] := va_S.rf
  have hl := lv_entry ([.ref a, .ref r1]) (n := 3) (Nat.le_of_ble_eq_true rfl)
  rw [lg_entry_eq]
  generalize (lg_sl ([.ref a, .ref r1]) ++ List.replicate (3 - (lg_sl ([.ref a, .ref r1])).length) Slot.unset).toArray = ls at hl ⊢
  have hl : lv_has ls 3 [(0, .ref a), (1, .ref r1)] := hl
  refine lv_aload_n hx hb dL_undo_0 rfl (lv_at hl 1 rfl) ?_
  refine lv_iconst (v := 0) hx hb dL_undo_1 (by decide) ?_
  refine lv_aload_n hx hb dL_undo_2 rfl (lv_at hl 0 rfl) ?_
  obtain ⟨hc1, hs⟩ := hs
  refine kw_call (r := fX5_undo a h) (vx_runV (g := F0 m 3 ls _) (As := []) (rest := [.int 0, .ref r1]) ⟨hx, hb, hml, hown, hts⟩ (kX5_undo l hst X h a hO hc1) (wX5_undo hts q4_9 ⟨Nat.le_of_ble_eq_true rfl, Nat.le_of_ble_eq_true rfl⟩) ⟨WS.blind, va_recv hK.1 (hW.one hO.1) (ci := 5) (q0 := 0) rfl rfl, WS.pre hK hW hS⟩ rfl rfl hl.1 rfl (lv_room (Nat.le_of_ble_eq_true rfl)) dL_undo_3 ⟨Nat.le_of_ble_eq_true rfl, Nat.le_of_ble_eq_true rfl⟩) hS (fun c1 H locs hW hS => ?_) (fun c1 H locs q ce hW hS hq hv hcl => ?_)
  · have e9 : fL_undo a r1 h = (0, hsetL (fX5_undo a h).2.2 r1 0 1 (fX5_undo a h).2.1.toInt64) := if_pos c1
    rw [e9]
    refine lv_i2l hx hb dL_undo_6 rfl ?_
    refine kb_last hx hb hK hW hS hJ dL_undo_7 (fun H locs hW hS => ?_)
    refine lv_goto (tgt := 14) hx hb dL_undo_8 (by decide) ?_
    refine lv_iconst (v := 0) hx hb dL_undo_14 (by decide) ?_
    exact kr_i hx hb hr hlk hK hW hS dL_undo_15
  · have hs := hs.resolve_left c1
    rw [hs] at hcl
    have e9 : fL_undo a r1 h = (1, (fX5_undo a h).2.2) := if_neg c1
    rw [e9]
    refine vx_catch hown [] ⟨0, 8, 11, 23⟩ [] htab (fun z hz => by simp at hz) (by decide) (by decide) (hts _ q3_83) (va_Nw.use rfl hK.2.2.2.2.2.2.2.2.2.1.2.2) hq hv hcl ?_
    refine lv_astore_n (lv' := [(2, .ref q), (0, .ref a), (1, .ref r1)]) hx hb dL_undo_11 rfl hl (by decide) rfl (fun ls hl => ?_)
    refine lv_iconst (v := 1) hx hb dL_undo_12 (by decide) ?_
    exact kr_i hx hb hr hlk hK hW hS dL_undo_13
