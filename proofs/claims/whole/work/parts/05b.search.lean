-- VillageBoard$Search.judge(I)V
abbrev rmX3_judge : Room := ({ frames := 3, cells := 0, slots := 0, locals := 81 } : Room)
abbrev vX3_judge : List Cond := Cond.code yX3_judge cX3_judge 3 none :: lwG
theorem wX3_judge {R : Room} {s : State} {args : Array Value} {own : String} {idx : Nat} (hg : ∀ w ∈ lwG, w.before args s = true) (hl : Cond.methodLink own idx yX3_judge ∈ lwG) (hR : rmX3_judge.frames + 1 ≤ R.frames ∧ 8 + (3 + 11) + rmX3_judge.locals ≤ R.locals) : CallW R s args own RX3 idx yX3_judge cX3_judge 3 none vX3_judge rmX3_judge 0 0 1 := cwV 1 hg (gV hl q2_147 q0_7 q1_6 q2_148) rfl rfl rfl (by decide +kernel) hR
def fX3_judge_c63 (a : Nat) (x1 : Int32) (x2 : Int32) (h : HH) : HH := hcpy (hset (hset h a 8 x2) a 7 x1) (a + 23) (a + 24) 0 0 x1.toNatClampNeg
def sX3_judge_c63 (a : Nat) (x1 : Int32) (x2 : Int32) (h : HH) : Prop := (¬ x1 < 0) ∧ ((0 + x1.toNatClampNeg ≤ 3) ∧ (0 + x1.toNatClampNeg ≤ 3))
set_option maxRecDepth 100000 in
set_option maxHeartbeats 4000000 in
theorem xX3_judge_c63 {p : Program} {l : Launch} {e : Env} {s : State} {m : MethodId} {args : Array Value} {below : List Frame} {meth : Method} {c : Code} {X : Cx} {a : Nat} (hO : IsSe X a) (C0 : CT p s m args meth c X cX3_judge 3 none RX3) (x1 : Int32) (x2 : Int32) (h : HH) (H : Heap) (locs : List Loc) (ls : Array Slot) (res : HH) (hl : lv_has ls 3 [(0, .ref a), (1, .int x1), (2, .int x2)]) (hW : WH X h H) (hS : va_S (xA X) s.heap H locs) (hs : sX3_judge_c63 a x1 x2 h) (hres : fX3_judge_c63 a x1 x2 h = res) : W p l e rmX3_judge s m args below meth c H locs 0 0 (MQ below (QV X res) args s 0 0 (xA X)) (F0 m 63 ls []) := by
  obtain ⟨hx, hb, hr, hlk, hml, hown, hts, hK⟩ := id C0
  refine lv_aload_n hx hb dX3_judge_63 rfl (lv_at hl 0 rfl) ?_
  refine lv_iload_n hx hb dX3_judge_64 rfl (lv_at hl 2 rfl) ?_
  refine p3_8 hx hb hts hown hK hW hS hO.1 (hts _ q1_164) dX3_judge_65 (fun H locs hW hS => ?_)
  refine lv_aload_n hx hb dX3_judge_68 rfl (lv_at hl 0 rfl) ?_
  refine lv_iload_n hx hb dX3_judge_69 rfl (lv_at hl 1 rfl) ?_
  refine p3_7 hx hb hts hown hK hW hS hO.1 (hts _ q1_163) dX3_judge_70 (fun H locs hW hS => ?_)
  refine lv_aload_n hx hb dX3_judge_73 rfl (lv_at hl 0 rfl) ?_
  refine g3_4 hx hb hts hown hK hW hO.1 (hts _ q1_160) dX3_judge_74 ?_
  refine lv_iconst (v := 0) hx hb dX3_judge_77 (by decide) ?_
  refine lv_aload_n hx hb dX3_judge_78 rfl (lv_at hl 0 rfl) ?_
  refine g3_5 hx hb hts hown hK hW hO.1 (hts _ q1_161) dX3_judge_79 ?_
  refine lv_iconst (v := 0) hx hb dX3_judge_82 (by decide) ?_
  refine lv_iload_n hx hb dX3_judge_83 rfl (lv_at hl 1 rfl) ?_
  obtain ⟨hi6, hs⟩ := hs
  obtain ⟨hi7, hs⟩ := hs
  have hi8 := hs
  refine kb_copy (sp' := 0) (dp' := 0) (n' := x1.toNatClampNeg) hx hb (hml.trans hl.1.symm) hown (hts _ q2_167) (hts _ q2_133) (hts _ q2_132) (hts _ q1_12) hK hW hS hO.2.2.2.2.2.2.1 hO.2.2.2.2.2.2.2.1 (by decide) (by decide) rfl (by decide) (by decide) hi6 hi7 hi8 (Nat.le_of_ble_eq_true rfl) (Nat.le_of_ble_eq_true rfl) dX3_judge_84 (fun H locs hW hS => ?_)
  subst hres
  exact kr_v hx hb hr hlk hK hW hS dX3_judge_87
def fX3_judge_c40 (a : Nat) (x1 : Int32) (h : HH) : HH := if x1 ≤ 0 then h else (if (h a 7) = 0 then (fX3_judge_c63 a x1 (fX2_wholeScore (a + 17) h) h) else (if (fX2_wholeScore (a + 17) h) ≤ (h a 8) then h else (fX3_judge_c63 a x1 (fX2_wholeScore (a + 17) h) h)))
def sX3_judge_c40 (a : Nat) (x1 : Int32) (h : HH) : Prop := (sX2_wholeScore (a + 17) h) ∧ ((x1 ≤ 0 → True) ∧ (¬ (x1 ≤ 0) → (((h a 7) = 0 → (sX3_judge_c63 a x1 (fX2_wholeScore (a + 17) h) h)) ∧ (¬ ((h a 7) = 0) → (((fX2_wholeScore (a + 17) h) ≤ (h a 8) → True) ∧ (¬ ((fX2_wholeScore (a + 17) h) ≤ (h a 8)) → (sX3_judge_c63 a x1 (fX2_wholeScore (a + 17) h) h)))))))
set_option maxRecDepth 100000 in
set_option maxHeartbeats 4000000 in
theorem xX3_judge_c40 {p : Program} {l : Launch} {e : Env} {s : State} {m : MethodId} {args : Array Value} {below : List Frame} {meth : Method} {c : Code} {X : Cx} {a : Nat} (hO : IsSe X a) (C0 : CT p s m args meth c X cX3_judge 3 none RX3) (x1 : Int32) (h : HH) (H : Heap) (locs : List Loc) (ls : Array Slot) (res : HH) (hl : lv_has ls 3 [(0, .ref a), (1, .int x1)]) (hW : WH X h H) (hS : va_S (xA X) s.heap H locs) (hs : sX3_judge_c40 a x1 h) (hres : fX3_judge_c40 a x1 h = res) : W p l e rmX3_judge s m args below meth c H locs 0 0 (MQ below (QV X res) args s 0 0 (xA X)) (F0 m 40 ls [.ref (a + 17)]) := by
  obtain ⟨hx, hb, hr, hlk, hml, hown, hts, hK⟩ := id C0
  obtain ⟨hc3, hs⟩ := hs
  refine kV_i (As := []) (rest := []) ⟨hx, hb, hml, hown, hts⟩ (kX2_wholeScore l X h (a + 17) hO.2.2.2.1 hc3) (wX2_wholeScore hts q2_166 ⟨Nat.le_of_ble_eq_true rfl, Nat.le_of_ble_eq_true rfl⟩) hK hW hS (va_recv hK.1 (hW.one hO.2.2.2.1.1) (ci := 2) (q0 := 0) rfl rfl) rfl hl.1 rfl (Nat.le_of_ble_eq_true rfl) dX3_judge_40 ⟨Nat.zero_le _, Nat.zero_le _⟩ (fun H locs hW hS => ?_)
  refine lv_istore_n (lv' := [(2, .int (fX2_wholeScore (a + 17) h)), (0, .ref a), (1, .int x1)]) hx hb dX3_judge_43 rfl hl (by decide) rfl (fun ls hl => ?_)
  refine lv_iload_n hx hb dX3_judge_44 rfl (lv_at hl 2 rfl) ?_
  refine lv_if_le (tgt := 87) hx hb dX3_judge_45 (by decide) (fun c4 => ?_) (fun c4 => ?_)
  · have hres := (if_pos c4).symm.trans hres
    have hs := And.left hs c4
    subst hres
    exact kr_v hx hb hr hlk hK hW hS dX3_judge_87
  · have hres := (if_neg c4).symm.trans hres
    have hs := And.right hs c4
    refine lv_aload_n hx hb dX3_judge_48 rfl (lv_at hl 1 rfl) ?_
    refine g3_7 hx hb hts hown hK hW hO.1 (hts _ q1_163) dX3_judge_49 ?_
    refine lv_if_eq (tgt := 63) hx hb dX3_judge_52 (by decide) (fun c5 => ?_) (fun c5 => ?_)
    · have hres := (if_pos c5).symm.trans hres
      have hs := And.left hs c5
      exact xX3_judge_c63 hO C0 x1 (fX2_wholeScore (a + 17) h) h _ _ _ _ (lv_sub hl [1, 2, 0] rfl) hW hS hs hres
    · have hres := (if_neg c5).symm.trans hres
      have hs := And.right hs c5
      refine lv_iload_n hx hb dX3_judge_55 rfl (lv_at hl 0 rfl) ?_
      refine lv_aload_n hx hb dX3_judge_56 rfl (lv_at hl 1 rfl) ?_
      refine g3_8 hx hb hts hown hK hW hO.1 (hts _ q1_164) dX3_judge_57 ?_
      refine lv_icmp_le (tgt := 87) hx hb dX3_judge_60 (by decide) (fun c9 => ?_) (fun c9 => ?_)
      · have hres := (if_pos c9).symm.trans hres
        have hs := And.left hs c9
        subst hres
        exact kr_v hx hb hr hlk hK hW hS dX3_judge_87
      · have hres := (if_neg c9).symm.trans hres
        have hs := And.right hs c9
        exact xX3_judge_c63 hO C0 x1 (fX2_wholeScore (a + 17) h) h _ _ _ _ (lv_sub hl [1, 2, 0] rfl) hW hS hs hres
def fX3_judge_c30 (a : Nat) (x1 : Int32) (h : HH) : HH := fX3_judge_c40 a x1 (fX2_endRound (a + 17) (bI (fX0_feedsAtEnd (a + 1) h)) h)
def sX3_judge_c30 (a : Nat) (x1 : Int32) (h : HH) : Prop := (sX2_endRound (a + 17) (bI (fX0_feedsAtEnd (a + 1) h)) h) ∧ (sX3_judge_c40 a x1 (fX2_endRound (a + 17) (bI (fX0_feedsAtEnd (a + 1) h)) h))
set_option maxRecDepth 100000 in
set_option maxHeartbeats 4000000 in
theorem xX3_judge_c30 {p : Program} {l : Launch} {e : Env} {s : State} {m : MethodId} {args : Array Value} {below : List Frame} {meth : Method} {c : Code} {X : Cx} {a : Nat} (hO : IsSe X a) (C0 : CT p s m args meth c X cX3_judge 3 none RX3) (x1 : Int32) (h : HH) (H : Heap) (locs : List Loc) (ls : Array Slot) (res : HH) (hl : lv_has ls 3 [(0, .ref a), (1, .int x1)]) (hW : WH X h H) (hS : va_S (xA X) s.heap H locs) (hs : sX3_judge_c30 a x1 h) (hres : fX3_judge_c30 a x1 h = res) : W p l e rmX3_judge s m args below meth c H locs 0 0 (MQ below (QV X res) args s 0 0 (xA X)) (F0 m 30 ls [.ref (a + 1), .ref (a + 17)]) := by
  obtain ⟨hx, hb, hr, hlk, hml, hown, hts, hK⟩ := id C0
  refine kV_i (As := []) (rest := [.ref (a + 17)]) ⟨hx, hb, hml, hown, hts⟩ (kX0_feedsAtEnd l X h (a + 1) hO.2.1) (wX0_feedsAtEnd hts q2_150 ⟨Nat.le_of_ble_eq_true rfl, Nat.le_of_ble_eq_true rfl⟩) hK hW hS (va_recv hK.1 (hW.one hO.2.1.1) (ci := 0) (q0 := 0) rfl rfl) rfl hl.1 rfl (Nat.le_of_ble_eq_true rfl) dX3_judge_30 ⟨Nat.zero_le _, Nat.zero_le _⟩ (fun H locs hW hS => ?_)
  obtain ⟨hc2, hs⟩ := hs
  refine kV_v (As := [.int (bI (fX0_feedsAtEnd (a + 1) h))]) (rest := []) ⟨hx, hb, hml, hown, hts⟩ (kX2_endRound l X h (a + 17) (bI (fX0_feedsAtEnd (a + 1) h)) hO.2.2.2.1 hc2) (wX2_endRound hts q2_154 ⟨Nat.le_of_ble_eq_true rfl, Nat.le_of_ble_eq_true rfl⟩) hK hW hS (va_recv hK.1 (hW.one hO.2.2.2.1.1) (ci := 2) (q0 := 0) rfl rfl) rfl hl.1 rfl (Nat.le_of_ble_eq_true rfl) dX3_judge_33 ⟨Nat.zero_le _, Nat.zero_le _⟩ (fun H locs hW hS => ?_)
  refine lv_aload_n hx hb dX3_judge_36 rfl (lv_at hl 0 rfl) ?_
  refine g3_2 hx hb hts hown hK hW hO.1 (hts _ q1_158) dX3_judge_37 ?_
  exact xX3_judge_c40 hO C0 x1 (fX2_endRound (a + 17) (bI (fX0_feedsAtEnd (a + 1) h)) h) _ _ _ _ (lv_sub hl [0, 1] rfl) hW hS hs hres
def fX3_judge_c0 (a : Nat) (x1 : Int32) (h : HH) : HH := fX3_judge_c30 a x1 (fX2_copyFrom (a + 17) (a + 1 + 7 + 2 * ((h (a + 1) 3).toNatClampNeg)) h)
def sX3_judge_c0 (a : Nat) (x1 : Int32) (h : HH) : Prop := (vp_in (h (a + 1) 3) 4) ∧ (sX3_judge_c30 a x1 (fX2_copyFrom (a + 17) (a + 1 + 7 + 2 * ((h (a + 1) 3).toNatClampNeg)) h))
set_option maxRecDepth 100000 in
set_option maxHeartbeats 4000000 in
theorem xX3_judge_c0 {p : Program} {l : Launch} {e : Env} {s : State} {m : MethodId} {args : Array Value} {below : List Frame} {meth : Method} {c : Code} {X : Cx} {a : Nat} (hO : IsSe X a) (C0 : CT p s m args meth c X cX3_judge 3 none RX3) (x1 : Int32) (h : HH) (H : Heap) (locs : List Loc) (ls : Array Slot) (res : HH) (hl : lv_has ls 3 [(0, .ref a), (1, .int x1)]) (hW : WH X h H) (hS : va_S (xA X) s.heap H locs) (hs : sX3_judge_c0 a x1 h) (hres : fX3_judge_c0 a x1 h = res) : W p l e rmX3_judge s m args below meth c H locs 0 0 (MQ below (QV X res) args s 0 0 (xA X)) (F0 m 0 ls []) := by
  obtain ⟨hx, hb, hr, hlk, hml, hown, hts, hK⟩ := id C0
  refine lv_aload_n hx hb dX3_judge_0 rfl (lv_at hl 0 rfl) ?_
  refine g3_2 hx hb hts hown hK hW hO.1 (hts _ q1_158) dX3_judge_1 ?_
  refine lv_aload_n hx hb dX3_judge_4 rfl (lv_at hl 0 rfl) ?_
  refine g3_0 hx hb hts hown hK hW hO.1 (hts _ q1_156) dX3_judge_5 ?_
  refine g0_5 hx hb hts hown hK hW hO.2.1.1 (hts _ q1_95) dX3_judge_8 ?_
  refine lv_aload_n hx hb dX3_judge_11 rfl (lv_at hl 0 rfl) ?_
  refine g3_0 hx hb hts hown hK hW hO.1 (hts _ q1_156) dX3_judge_12 ?_
  refine g0_3 hx hb hts hown hK hW hO.2.1.1 (hts _ q1_91) dX3_judge_15 ?_
  obtain ⟨hi1, hs⟩ := hs
  refine kb_aald (j := 1) hx hb hK hW hO.2.1.2.1 rfl rfl (k := (h (a + 1) 3).toNatClampNeg) rfl hi1 rfl dX3_judge_18 ?_
  refine kV_v (As := [.ref (a + 1 + 7 + 2 * ((h (a + 1) 3).toNatClampNeg))]) (rest := []) ⟨hx, hb, hml, hown, hts⟩ (kX2_copyFrom l X h (a + 17) (a + 1 + 7 + 2 * ((h (a + 1) 3).toNatClampNeg)) hO.2.2.2.1 (hO.2.1.2.2.2.2.2.2 ((h (a + 1) 3).toNatClampNeg) (kin hi1))) (wX2_copyFrom hts q2_149 ⟨Nat.le_of_ble_eq_true rfl, Nat.le_of_ble_eq_true rfl⟩) hK hW hS (va_recv hK.1 (hW.one hO.2.2.2.1.1) (ci := 2) (q0 := 0) rfl rfl) rfl hl.1 rfl (Nat.le_of_ble_eq_true rfl) dX3_judge_19 ⟨Nat.zero_le _, Nat.zero_le _⟩ (fun H locs hW hS => ?_)
  refine lv_aload_n hx hb dX3_judge_22 rfl (lv_at hl 0 rfl) ?_
  refine g3_2 hx hb hts hown hK hW hO.1 (hts _ q1_158) dX3_judge_23 ?_
  refine lv_aload_n hx hb dX3_judge_26 rfl (lv_at hl 0 rfl) ?_
  refine g3_0 hx hb hts hown hK hW hO.1 (hts _ q1_156) dX3_judge_27 ?_
  exact xX3_judge_c30 hO C0 x1 (fX2_copyFrom (a + 17) (a + 1 + 7 + 2 * ((h (a + 1) 3).toNatClampNeg)) h) _ _ _ _ (lv_sub hl [0, 1] rfl) hW hS hs hres
def fX3_judge (a : Nat) (x1 : Int32) (h : HH) : HH := fX3_judge_c0 a x1 h
def sX3_judge (a : Nat) (x1 : Int32) (h : HH) : Prop := sX3_judge_c0 a x1 h
set_option maxRecDepth 100000 in
set_option maxHeartbeats 4000000 in
theorem kX3_judge (l : Launch) (X : Cx) (h : HH) (a : Nat) (x1 : Int32) (hO : IsSe X a) (hs : sX3_judge a x1 h) : Met l yX3_judge vX3_judge rmX3_judge (va_Pc [.ref a, .int x1] (fun U => WS X h U)) (QV X (fX3_judge a x1 h)) 0 0 (xA X) := by
  refine Met.ofW (cc := cX3_judge) (maxL := 3) (ret := none) (by decide) rfl ?_
  intro p e s m args below meth c s₁ B hml hv
  obtain ⟨rfl, hW, hK⟩ := hv
  have hl := lv_entry ([.ref a, .int x1]) (n := 3) (Nat.le_of_ble_eq_true rfl)
  rw [lg_entry_eq]
  generalize (lg_sl ([.ref a, .int x1]) ++ List.replicate (3 - (lg_sl ([.ref a, .int x1])).length) Slot.unset).toArray = ls at hl ⊢
  have hl : lv_has ls 3 [(0, .ref a), (1, .int x1)] := hl
  exact xX3_judge_c0 hO ⟨B.exec, B.bytes, B.returns, B.notSynchronized, hml, findClass_of_methodNamed B.named, fun w hw => atoms_spec (ws := vX3_judge) B.pre w (List.mem_cons_of_mem _ hw), hK⟩ x1 h _ _ ls _ (lv_sub hl [0, 1] rfl) hW va_S.rf hs rfl
-- VillageBoard$Search.explore(I)V
abbrev rmX3_explore (d : Nat) : Room := { frames := 5 + d, cells := 0, slots := 0, locals := 116 + 26 * d }
abbrev vX3_explore : List Cond := Cond.code yX3_explore cX3_explore 7 none :: lwG
theorem wX3_explore {R rm : Room} {s : State} {args : Array Value} {own : String} {idx : Nat} (hc : rm.cells = 0) (hsl : rm.slots = 0) (hg : ∀ w ∈ lwG, w.before args s = true) (hl : Cond.methodLink own idx yX3_explore ∈ lwG) (hR : rm.frames + 1 ≤ R.frames ∧ 8 + (7 + 11) + rm.locals ≤ R.locals) : CallW R s args own RX3 idx yX3_explore cX3_explore 7 none vX3_explore rm 0 0 1 := cwV 1 hg (gV hl q2_142 q0_6 q1_6 q2_143) rfl hc hsl (by decide +kernel) hR
def fX3_explore_c159 (a : Nat) (kr : Int32 → HH → HH) (k70 : Int32 → Nat → Int32 → Int32 → HH → HH) (x1 : Int32) (r2 : Nat) (x3 : Int32) (x4 : Int32) (rs0 : Nat) (rs1 : Nat) (h : HH) : HH := k70 x1 r2 x3 (x4 + 1) (fX2_copyFrom rs1 rs0 h)
def sX3_explore_c159 (a : Nat) (kr : Int32 → HH → HH) (kR : Int32 → HH → Prop) (K70 : Int32 → Nat → Int32 → Int32 → HH → Prop) (x1 : Int32) (r2 : Nat) (x3 : Int32) (x4 : Int32) (rs0 : Nat) (rs1 : Nat) (h : HH) : Prop := K70 x1 r2 x3 (x4 + 1) (fX2_copyFrom rs1 rs0 h)
set_option maxRecDepth 100000 in
set_option maxHeartbeats 4000000 in
theorem xX3_explore_c159 {p : Program} {l : Launch} {e : Env} {s : State} {m : MethodId} {args : Array Value} {below : List Frame} {meth : Method} {c : Code} {X : Cx} {a : Nat} (hO : IsSe X a) {R rmr : Room} {kr : Int32 → HH → HH} {kR : Int32 → HH → Prop} (hR : 5 ≤ R.frames ∧ 116 ≤ R.locals) (hrm : rmr.cells = 0 ∧ rmr.slots = 0 ∧ rmr.frames + 1 ≤ R.frames ∧ 8 + (7 + 11) + rmr.locals ≤ R.locals) (hkr : ∀ (x : Int32) (h : HH), kR x h → Met l yX3_explore vX3_explore rmr (va_Pc [.ref a, .int x] (fun U => WS X h U)) (QV X (kr x h)) 0 0 (xA X)) (C0 : CT p s m args meth c X cX3_explore 7 none RX3) {k70 : Int32 → Nat → Int32 → Int32 → HH → HH} {K70 : Int32 → Nat → Int32 → Int32 → HH → Prop} (hk70 : ∀ (x1 : Int32) (r2 : Nat) (x3 : Int32) (x4 : Int32) (hr2 : IsPl X r2) (h : HH) (H : Heap) (locs : List Loc) (ls : Array Slot) (res : HH) (hl : lv_has ls 7 [(0, .ref a), (1, .int x1), (2, .ref r2), (3, .int x3), (4, .int x4)]) (hW : WH X h H) (hS : va_S (xA X) s.heap H locs) (_ : K70 x1 r2 x3 x4 h) (hres : k70 x1 r2 x3 x4 h = res), W p l e R s m args below meth c H locs 0 0 (MQ below (QV X res) args s 0 0 (xA X)) (F0 m 70 ls [])) (x1 : Int32) (r2 : Nat) (x3 : Int32) (x4 : Int32) (rs0 : Nat) (rs1 : Nat) (hr2 : IsPl X r2) (hrs0 : IsPl X rs0) (hrs1 : IsPl X rs1) (h : HH) (H : Heap) (locs : List Loc) (ls : Array Slot) (res : HH) (hl : lv_has ls 7 [(0, .ref a), (1, .int x1), (2, .ref r2), (3, .int x3), (4, .int x4)]) (hW : WH X h H) (hS : va_S (xA X) s.heap H locs) (hs : sX3_explore_c159 a kr kR K70 x1 r2 x3 x4 rs0 rs1 h) (hres : fX3_explore_c159 a kr k70 x1 r2 x3 x4 rs0 rs1 h = res) : W p l e R s m args below meth c H locs 0 0 (MQ below (QV X res) args s 0 0 (xA X)) (F0 m 159 ls [.ref rs0, .ref rs1]) := by
  obtain ⟨hx, hb, hr, hlk, hml, hown, hts, hK⟩ := id C0
  refine kV_v (As := [.ref rs0]) (rest := []) ⟨hx, hb, hml, hown, hts⟩ (kX2_copyFrom l X h rs1 rs0 hrs1 hrs0) (wX2_copyFrom hts q2_149 ⟨Nat.le_trans (Nat.le_of_ble_eq_true rfl) hR.1, Nat.le_trans (Nat.le_of_ble_eq_true rfl) hR.2⟩) hK hW hS (va_recv hK.1 (hW.one hrs1.1) (ci := 2) (q0 := 0) rfl rfl) rfl hl.1 rfl (Nat.le_of_ble_eq_true rfl) dX3_explore_159 ⟨Nat.zero_le _, Nat.zero_le _⟩ (fun H locs hW hS => ?_)
  refine lv_iinc (v := x4 + 1) (lv' := [(4, .int (x4 + 1)), (0, .ref a), (1, .int x1), (2, .ref r2), (3, .int x3)]) hx hb dX3_explore_162 hl (k := 4) rfl rfl (by decide) rfl (fun ls hl => ?_)
  refine lv_goto (tgt := 70) hx hb dX3_explore_165 (by decide) ?_
  exact hk70 x1 r2 x3 (x4 + 1) hr2 (fX2_copyFrom rs1 rs0 h) _ _ _ _ (lv_sub hl [1, 2, 3, 4, 0] rfl) hW hS hs hres
def fX3_explore_c148 (a : Nat) (kr : Int32 → HH → HH) (k70 : Int32 → Nat → Int32 → Int32 → HH → HH) (x1 : Int32) (r2 : Nat) (x3 : Int32) (x4 : Int32) (xs0 : Int32) (xs2 : Int32) (h : HH) : HH := fX3_explore_c159 a kr k70 x1 r2 x3 x4 (a + 25 + 2 * x1.toNatClampNeg) r2 (hset h (a + 1 + 3) xs2.toNatClampNeg ((h (a + 1 + 3) xs0.toNatClampNeg) - 1))
def sX3_explore_c148 (a : Nat) (kr : Int32 → HH → HH) (kR : Int32 → HH → Prop) (K70 : Int32 → Nat → Int32 → Int32 → HH → Prop) (x1 : Int32) (r2 : Nat) (x3 : Int32) (x4 : Int32) (xs0 : Int32) (xs2 : Int32) (h : HH) : Prop := (vp_in xs0 12) ∧ ((vp_in xs2 12) ∧ ((vp_in x1 3) ∧ (sX3_explore_c159 a kr kR K70 x1 r2 x3 x4 (a + 25 + 2 * x1.toNatClampNeg) r2 (hset h (a + 1 + 3) xs2.toNatClampNeg ((h (a + 1 + 3) xs0.toNatClampNeg) - 1)))))
set_option maxRecDepth 100000 in
set_option maxHeartbeats 4000000 in
theorem xX3_explore_c148 {p : Program} {l : Launch} {e : Env} {s : State} {m : MethodId} {args : Array Value} {below : List Frame} {meth : Method} {c : Code} {X : Cx} {a : Nat} (hO : IsSe X a) {R rmr : Room} {kr : Int32 → HH → HH} {kR : Int32 → HH → Prop} (hR : 5 ≤ R.frames ∧ 116 ≤ R.locals) (hrm : rmr.cells = 0 ∧ rmr.slots = 0 ∧ rmr.frames + 1 ≤ R.frames ∧ 8 + (7 + 11) + rmr.locals ≤ R.locals) (hkr : ∀ (x : Int32) (h : HH), kR x h → Met l yX3_explore vX3_explore rmr (va_Pc [.ref a, .int x] (fun U => WS X h U)) (QV X (kr x h)) 0 0 (xA X)) (C0 : CT p s m args meth c X cX3_explore 7 none RX3) {k70 : Int32 → Nat → Int32 → Int32 → HH → HH} {K70 : Int32 → Nat → Int32 → Int32 → HH → Prop} (hk70 : ∀ (x1 : Int32) (r2 : Nat) (x3 : Int32) (x4 : Int32) (hr2 : IsPl X r2) (h : HH) (H : Heap) (locs : List Loc) (ls : Array Slot) (res : HH) (hl : lv_has ls 7 [(0, .ref a), (1, .int x1), (2, .ref r2), (3, .int x3), (4, .int x4)]) (hW : WH X h H) (hS : va_S (xA X) s.heap H locs) (_ : K70 x1 r2 x3 x4 h) (hres : k70 x1 r2 x3 x4 h = res), W p l e R s m args below meth c H locs 0 0 (MQ below (QV X res) args s 0 0 (xA X)) (F0 m 70 ls [])) (x1 : Int32) (r2 : Nat) (x3 : Int32) (x4 : Int32) (xs0 : Int32) (xs2 : Int32) (hr2 : IsPl X r2) (h : HH) (H : Heap) (locs : List Loc) (ls : Array Slot) (res : HH) (hl : lv_has ls 7 [(0, .ref a), (1, .int x1), (2, .ref r2), (3, .int x3), (4, .int x4)]) (hW : WH X h H) (hS : va_S (xA X) s.heap H locs) (hs : sX3_explore_c148 a kr kR K70 x1 r2 x3 x4 xs0 xs2 h) (hres : fX3_explore_c148 a kr k70 x1 r2 x3 x4 xs0 xs2 h = res) : W p l e R s m args below meth c H locs 0 0 (MQ below (QV X res) args s 0 0 (xA X)) (F0 m 148 ls [.int xs0, .ref (a + 1 + 3), .int xs2, .ref (a + 1 + 3)]) := by
  obtain ⟨hx, hb, hr, hlk, hml, hown, hts, hK⟩ := id C0
  obtain ⟨hi13, hs⟩ := hs
  refine kb_iald hx hb hK hW hO.2.1.2.2.2.1 (k := xs0.toNatClampNeg) rfl hi13 dX3_explore_148 ?_
  refine lv_iconst (v := 1) hx hb dX3_explore_149 (by decide) ?_
  refine lv_isub hx hb dX3_explore_150 ?_
  obtain ⟨hi14, hs⟩ := hs
  refine kb_iast hx hb hK hW hS hO.2.1.2.2.2.1 (k := xs2.toNatClampNeg) rfl hi14 dX3_explore_151 (fun H locs hW hS => ?_)
  refine lv_aload_n hx hb dX3_explore_152 rfl (lv_at hl 2 rfl) ?_
  refine lv_aload_n hx hb dX3_explore_153 rfl (lv_at hl 0 rfl) ?_
  refine g3_1 hx hb hts hown hK hW hO.1 (hts _ q1_157) dX3_explore_154 ?_
  refine lv_iload_n hx hb dX3_explore_157 rfl (lv_at hl 1 rfl) ?_
  obtain ⟨hi15, hs⟩ := hs
  refine kb_aald (j := 1) hx hb hK hW hO.2.2.1 rfl rfl (k := x1.toNatClampNeg) rfl hi15 rfl dX3_explore_158 ?_
  exact xX3_explore_c159 hO hR hrm hkr C0 hk70 x1 r2 x3 x4 (a + 25 + 2 * x1.toNatClampNeg) r2 hr2 (hO.2.2.2.2.2.2.2.2 x1.toNatClampNeg (kin hi15)) hr2 (hset h (a + 1 + 3) xs2.toNatClampNeg ((h (a + 1 + 3) xs0.toNatClampNeg) - 1)) _ _ _ _ (lv_sub hl [0, 1, 2, 3, 4] rfl) hW hS hs hres
def fX3_explore_c135 (a : Nat) (kr : Int32 → HH → HH) (k70 : Int32 → Nat → Int32 → Int32 → HH → HH) (x1 : Int32) (r2 : Nat) (x3 : Int32) (x4 : Int32) (x6 : Int32) (xs0 : Int32) (h : HH) : HH := fX3_explore_c148 a kr k70 x1 r2 x3 x4 x6 x6 (kr xs0 h)
def sX3_explore_c135 (a : Nat) (kr : Int32 → HH → HH) (kR : Int32 → HH → Prop) (K70 : Int32 → Nat → Int32 → Int32 → HH → Prop) (x1 : Int32) (r2 : Nat) (x3 : Int32) (x4 : Int32) (x6 : Int32) (xs0 : Int32) (h : HH) : Prop := (kR xs0 h) ∧ (sX3_explore_c148 a kr kR K70 x1 r2 x3 x4 x6 x6 (kr xs0 h))
set_option maxRecDepth 100000 in
set_option maxHeartbeats 4000000 in
theorem xX3_explore_c135 {p : Program} {l : Launch} {e : Env} {s : State} {m : MethodId} {args : Array Value} {below : List Frame} {meth : Method} {c : Code} {X : Cx} {a : Nat} (hO : IsSe X a) {R rmr : Room} {kr : Int32 → HH → HH} {kR : Int32 → HH → Prop} (hR : 5 ≤ R.frames ∧ 116 ≤ R.locals) (hrm : rmr.cells = 0 ∧ rmr.slots = 0 ∧ rmr.frames + 1 ≤ R.frames ∧ 8 + (7 + 11) + rmr.locals ≤ R.locals) (hkr : ∀ (x : Int32) (h : HH), kR x h → Met l yX3_explore vX3_explore rmr (va_Pc [.ref a, .int x] (fun U => WS X h U)) (QV X (kr x h)) 0 0 (xA X)) (C0 : CT p s m args meth c X cX3_explore 7 none RX3) {k70 : Int32 → Nat → Int32 → Int32 → HH → HH} {K70 : Int32 → Nat → Int32 → Int32 → HH → Prop} (hk70 : ∀ (x1 : Int32) (r2 : Nat) (x3 : Int32) (x4 : Int32) (hr2 : IsPl X r2) (h : HH) (H : Heap) (locs : List Loc) (ls : Array Slot) (res : HH) (hl : lv_has ls 7 [(0, .ref a), (1, .int x1), (2, .ref r2), (3, .int x3), (4, .int x4)]) (hW : WH X h H) (hS : va_S (xA X) s.heap H locs) (_ : K70 x1 r2 x3 x4 h) (hres : k70 x1 r2 x3 x4 h = res), W p l e R s m args below meth c H locs 0 0 (MQ below (QV X res) args s 0 0 (xA X)) (F0 m 70 ls [])) (x1 : Int32) (r2 : Nat) (x3 : Int32) (x4 : Int32) (x6 : Int32) (xs0 : Int32) (hr2 : IsPl X r2) (h : HH) (H : Heap) (locs : List Loc) (ls : Array Slot) (res : HH) (hl : lv_has ls 7 [(0, .ref a), (1, .int x1), (2, .ref r2), (3, .int x3), (4, .int x4), (6, .int x6)]) (hW : WH X h H) (hS : va_S (xA X) s.heap H locs) (hs : sX3_explore_c135 a kr kR K70 x1 r2 x3 x4 x6 xs0 h) (hres : fX3_explore_c135 a kr k70 x1 r2 x3 x4 x6 xs0 h = res) : W p l e R s m args below meth c H locs 0 0 (MQ below (QV X res) args s 0 0 (xA X)) (F0 m 135 ls [.int xs0, .ref a]) := by
  obtain ⟨hx, hb, hr, hlk, hml, hown, hts, hK⟩ := id C0
  obtain ⟨hc12, hs⟩ := hs
  refine kV_v (As := [.int xs0]) (rest := []) ⟨hx, hb, hml, hown, hts⟩ (hkr xs0 h hc12) (wX3_explore hrm.1 hrm.2.1 hts q2_140 hrm.2.2) hK hW hS (va_recv hK.1 (hW.one hO.1) (ci := 3) (q0 := 0) rfl rfl) rfl hl.1 rfl (Nat.le_of_ble_eq_true rfl) dX3_explore_135 ⟨Nat.zero_le _, Nat.zero_le _⟩ (fun H locs hW hS => ?_)
  refine lv_aload_n hx hb dX3_explore_138 rfl (lv_at hl 0 rfl) ?_
  refine g3_0 hx hb hts hown hK hW hO.1 (hts _ q1_156) dX3_explore_139 ?_
  refine g0_7 hx hb hts hown hK hW hO.2.1.1 (hts _ q1_99) dX3_explore_142 ?_
  refine lv_iload hx hb dX3_explore_145 (lv_at hl 5 rfl) ?_
  refine lv_dup2_11 hx hb dX3_explore_147 rfl rfl ?_
  exact xX3_explore_c148 hO hR hrm hkr C0 hk70 x1 r2 x3 x4 x6 x6 hr2 (kr xs0 h) _ _ _ _ (lv_sub hl [0, 1, 2, 3, 4] rfl) hW hS hs hres
def fX3_explore_c127 (a : Nat) (kr : Int32 → HH → HH) (k70 : Int32 → Nat → Int32 → Int32 → HH → HH) (x1 : Int32) (r2 : Nat) (x3 : Int32) (x4 : Int32) (x6 : Int32) (xs0 : Int32) (xs2 : Int32) (h : HH) : HH := fX3_explore_c135 a kr k70 x1 r2 x3 x4 x6 (x1 + 1) (hset h (a + 1 + 3) xs2.toNatClampNeg ((h (a + 1 + 3) xs0.toNatClampNeg) + 1))
def sX3_explore_c127 (a : Nat) (kr : Int32 → HH → HH) (kR : Int32 → HH → Prop) (K70 : Int32 → Nat → Int32 → Int32 → HH → Prop) (x1 : Int32) (r2 : Nat) (x3 : Int32) (x4 : Int32) (x6 : Int32) (xs0 : Int32) (xs2 : Int32) (h : HH) : Prop := (vp_in xs0 12) ∧ ((vp_in xs2 12) ∧ (sX3_explore_c135 a kr kR K70 x1 r2 x3 x4 x6 (x1 + 1) (hset h (a + 1 + 3) xs2.toNatClampNeg ((h (a + 1 + 3) xs0.toNatClampNeg) + 1))))
set_option maxRecDepth 100000 in
set_option maxHeartbeats 4000000 in
theorem xX3_explore_c127 {p : Program} {l : Launch} {e : Env} {s : State} {m : MethodId} {args : Array Value} {below : List Frame} {meth : Method} {c : Code} {X : Cx} {a : Nat} (hO : IsSe X a) {R rmr : Room} {kr : Int32 → HH → HH} {kR : Int32 → HH → Prop} (hR : 5 ≤ R.frames ∧ 116 ≤ R.locals) (hrm : rmr.cells = 0 ∧ rmr.slots = 0 ∧ rmr.frames + 1 ≤ R.frames ∧ 8 + (7 + 11) + rmr.locals ≤ R.locals) (hkr : ∀ (x : Int32) (h : HH), kR x h → Met l yX3_explore vX3_explore rmr (va_Pc [.ref a, .int x] (fun U => WS X h U)) (QV X (kr x h)) 0 0 (xA X)) (C0 : CT p s m args meth c X cX3_explore 7 none RX3) {k70 : Int32 → Nat → Int32 → Int32 → HH → HH} {K70 : Int32 → Nat → Int32 → Int32 → HH → Prop} (hk70 : ∀ (x1 : Int32) (r2 : Nat) (x3 : Int32) (x4 : Int32) (hr2 : IsPl X r2) (h : HH) (H : Heap) (locs : List Loc) (ls : Array Slot) (res : HH) (hl : lv_has ls 7 [(0, .ref a), (1, .int x1), (2, .ref r2), (3, .int x3), (4, .int x4)]) (hW : WH X h H) (hS : va_S (xA X) s.heap H locs) (_ : K70 x1 r2 x3 x4 h) (hres : k70 x1 r2 x3 x4 h = res), W p l e R s m args below meth c H locs 0 0 (MQ below (QV X res) args s 0 0 (xA X)) (F0 m 70 ls [])) (x1 : Int32) (r2 : Nat) (x3 : Int32) (x4 : Int32) (x6 : Int32) (xs0 : Int32) (xs2 : Int32) (hr2 : IsPl X r2) (h : HH) (H : Heap) (locs : List Loc) (ls : Array Slot) (res : HH) (hl : lv_has ls 7 [(0, .ref a), (1, .int x1), (2, .ref r2), (3, .int x3), (4, .int x4), (6, .int x6)]) (hW : WH X h H) (hS : va_S (xA X) s.heap H locs) (hs : sX3_explore_c127 a kr kR K70 x1 r2 x3 x4 x6 xs0 xs2 h) (hres : fX3_explore_c127 a kr k70 x1 r2 x3 x4 x6 xs0 xs2 h = res) : W p l e R s m args below meth c H locs 0 0 (MQ below (QV X res) args s 0 0 (xA X)) (F0 m 127 ls [.int xs0, .ref (a + 1 + 3), .int xs2, .ref (a + 1 + 3)]) := by
  obtain ⟨hx, hb, hr, hlk, hml, hown, hts, hK⟩ := id C0
  obtain ⟨hi10, hs⟩ := hs
  refine kb_iald hx hb hK hW hO.2.1.2.2.2.1 (k := xs0.toNatClampNeg) rfl hi10 dX3_explore_127 ?_
  refine lv_iconst (v := 1) hx hb dX3_explore_128 (by decide) ?_
  refine lv_iadd hx hb dX3_explore_129 ?_
  obtain ⟨hi11, hs⟩ := hs
  refine kb_iast hx hb hK hW hS hO.2.1.2.2.2.1 (k := xs2.toNatClampNeg) rfl hi11 dX3_explore_130 (fun H locs hW hS => ?_)
  refine lv_aload_n hx hb dX3_explore_131 rfl (lv_at hl 0 rfl) ?_
  refine lv_iload_n hx hb dX3_explore_132 rfl (lv_at hl 1 rfl) ?_
  refine lv_iconst (v := 1) hx hb dX3_explore_133 (by decide) ?_
  refine lv_iadd hx hb dX3_explore_134 ?_
  exact xX3_explore_c135 hO hR hrm hkr C0 hk70 x1 r2 x3 x4 x6 (x1 + 1) hr2 (hset h (a + 1 + 3) xs2.toNatClampNeg ((h (a + 1 + 3) xs0.toNatClampNeg) + 1)) _ _ _ _ (lv_sub hl [0, 1, 2, 3, 4, 5] rfl) hW hS hs hres
def fX3_explore_c114 (a : Nat) (kr : Int32 → HH → HH) (k70 : Int32 → Nat → Int32 → Int32 → HH → HH) (x1 : Int32) (r2 : Nat) (x3 : Int32) (x4 : Int32) (x6 : Int32) (xs0 : Int32) (xs1 : Int32) (rs2 : Nat) (h : HH) : HH := fX3_explore_c127 a kr k70 x1 r2 x3 x4 x6 x6 x6 (fX0_carryOut (a + 1) rs2 xs1 xs0 h)
def sX3_explore_c114 (a : Nat) (kr : Int32 → HH → HH) (kR : Int32 → HH → Prop) (K70 : Int32 → Nat → Int32 → Int32 → HH → Prop) (x1 : Int32) (r2 : Nat) (x3 : Int32) (x4 : Int32) (x6 : Int32) (xs0 : Int32) (xs1 : Int32) (rs2 : Nat) (h : HH) : Prop := (sX0_carryOut (a + 1) rs2 xs1 xs0 h) ∧ (sX3_explore_c127 a kr kR K70 x1 r2 x3 x4 x6 x6 x6 (fX0_carryOut (a + 1) rs2 xs1 xs0 h))
set_option maxRecDepth 100000 in
set_option maxHeartbeats 4000000 in
theorem xX3_explore_c114 {p : Program} {l : Launch} {e : Env} {s : State} {m : MethodId} {args : Array Value} {below : List Frame} {meth : Method} {c : Code} {X : Cx} {a : Nat} (hO : IsSe X a) {R rmr : Room} {kr : Int32 → HH → HH} {kR : Int32 → HH → Prop} (hR : 5 ≤ R.frames ∧ 116 ≤ R.locals) (hrm : rmr.cells = 0 ∧ rmr.slots = 0 ∧ rmr.frames + 1 ≤ R.frames ∧ 8 + (7 + 11) + rmr.locals ≤ R.locals) (hkr : ∀ (x : Int32) (h : HH), kR x h → Met l yX3_explore vX3_explore rmr (va_Pc [.ref a, .int x] (fun U => WS X h U)) (QV X (kr x h)) 0 0 (xA X)) (C0 : CT p s m args meth c X cX3_explore 7 none RX3) {k70 : Int32 → Nat → Int32 → Int32 → HH → HH} {K70 : Int32 → Nat → Int32 → Int32 → HH → Prop} (hk70 : ∀ (x1 : Int32) (r2 : Nat) (x3 : Int32) (x4 : Int32) (hr2 : IsPl X r2) (h : HH) (H : Heap) (locs : List Loc) (ls : Array Slot) (res : HH) (hl : lv_has ls 7 [(0, .ref a), (1, .int x1), (2, .ref r2), (3, .int x3), (4, .int x4)]) (hW : WH X h H) (hS : va_S (xA X) s.heap H locs) (_ : K70 x1 r2 x3 x4 h) (hres : k70 x1 r2 x3 x4 h = res), W p l e R s m args below meth c H locs 0 0 (MQ below (QV X res) args s 0 0 (xA X)) (F0 m 70 ls [])) (x1 : Int32) (r2 : Nat) (x3 : Int32) (x4 : Int32) (x6 : Int32) (xs0 : Int32) (xs1 : Int32) (rs2 : Nat) (hr2 : IsPl X r2) (hrs2 : IsPl X rs2) (h : HH) (H : Heap) (locs : List Loc) (ls : Array Slot) (res : HH) (hl : lv_has ls 7 [(0, .ref a), (1, .int x1), (2, .ref r2), (3, .int x3), (4, .int x4), (6, .int x6)]) (hW : WH X h H) (hS : va_S (xA X) s.heap H locs) (hs : sX3_explore_c114 a kr kR K70 x1 r2 x3 x4 x6 xs0 xs1 rs2 h) (hres : fX3_explore_c114 a kr k70 x1 r2 x3 x4 x6 xs0 xs1 rs2 h = res) : W p l e R s m args below meth c H locs 0 0 (MQ below (QV X res) args s 0 0 (xA X)) (F0 m 114 ls [.int xs0, .int xs1, .ref rs2, .ref (a + 1)]) := by
  obtain ⟨hx, hb, hr, hlk, hml, hown, hts, hK⟩ := id C0
  obtain ⟨hc9, hs⟩ := hs
  refine kV_v (As := [.ref rs2, .int xs1, .int xs0]) (rest := []) ⟨hx, hb, hml, hown, hts⟩ (kX0_carryOut l X h (a + 1) rs2 xs1 xs0 hO.2.1 hrs2 hc9) (wX0_carryOut hts q2_168 ⟨Nat.le_trans (Nat.le_of_ble_eq_true rfl) hR.1, Nat.le_trans (Nat.le_of_ble_eq_true rfl) hR.2⟩) hK hW hS (va_recv hK.1 (hW.one hO.2.1.1) (ci := 0) (q0 := 0) rfl rfl) rfl hl.1 rfl (Nat.le_of_ble_eq_true rfl) dX3_explore_114 ⟨Nat.zero_le _, Nat.zero_le _⟩ (fun H locs hW hS => ?_)
  refine lv_aload_n hx hb dX3_explore_117 rfl (lv_at hl 0 rfl) ?_
  refine g3_0 hx hb hts hown hK hW hO.1 (hts _ q1_156) dX3_explore_118 ?_
  refine g0_7 hx hb hts hown hK hW hO.2.1.1 (hts _ q1_99) dX3_explore_121 ?_
  refine lv_iload hx hb dX3_explore_124 (lv_at hl 5 rfl) ?_
  refine lv_dup2_11 hx hb dX3_explore_126 rfl rfl ?_
  exact xX3_explore_c127 hO hR hrm hkr C0 hk70 x1 r2 x3 x4 x6 x6 x6 hr2 (fX0_carryOut (a + 1) rs2 xs1 xs0 h) _ _ _ _ (lv_sub hl [0, 1, 2, 3, 4, 5] rfl) hW hS hs hres
def fX3_explore_c70 (a : Nat) (kr : Int32 → HH → HH) : Nat → Int32 → Nat → Int32 → Int32 → HH → HH
  | 0, x1, r2, x3, x4, h => h
  | n + 1, x1, r2, x3, x4, h => if x3 ≤ x4 then h else (fX3_explore_c114 a kr (fX3_explore_c70 a kr n) x1 r2 x3 x4 ((h (a + 20 + x1.toNatClampNeg) x4.toNatClampNeg) / 100) (jrem (h (a + 20 + x1.toNatClampNeg) x4.toNatClampNeg) 100) ((h (a + 20 + x1.toNatClampNeg) x4.toNatClampNeg) / 100) r2 (hset h (a + 23) x1.toNatClampNeg (h (a + 20 + x1.toNatClampNeg) x4.toNatClampNeg)))
def sX3_explore_c70 (a : Nat) (kr : Int32 → HH → HH) (kR : Int32 → HH → Prop) : Nat → Int32 → Nat → Int32 → Int32 → HH → Prop
  | 0, _, _, _, _, _ => False
  | n + 1, x1, r2, x3, x4, h => (x3 ≤ x4 → True) ∧ (¬ (x3 ≤ x4) → ((vp_in x1 3) ∧ ((vp_in x4 40) ∧ ((vp_in x1 3) ∧ (sX3_explore_c114 a kr kR (sX3_explore_c70 a kr kR n) x1 r2 x3 x4 ((h (a + 20 + x1.toNatClampNeg) x4.toNatClampNeg) / 100) (jrem (h (a + 20 + x1.toNatClampNeg) x4.toNatClampNeg) 100) ((h (a + 20 + x1.toNatClampNeg) x4.toNatClampNeg) / 100) r2 (hset h (a + 23) x1.toNatClampNeg (h (a + 20 + x1.toNatClampNeg) x4.toNatClampNeg)))))))
set_option maxRecDepth 100000 in
set_option maxHeartbeats 4000000 in
theorem xX3_explore_c70 {p : Program} {l : Launch} {e : Env} {s : State} {m : MethodId} {args : Array Value} {below : List Frame} {meth : Method} {c : Code} {X : Cx} {a : Nat} (hO : IsSe X a) {R rmr : Room} {kr : Int32 → HH → HH} {kR : Int32 → HH → Prop} (hR : 5 ≤ R.frames ∧ 116 ≤ R.locals) (hrm : rmr.cells = 0 ∧ rmr.slots = 0 ∧ rmr.frames + 1 ≤ R.frames ∧ 8 + (7 + 11) + rmr.locals ≤ R.locals) (hkr : ∀ (x : Int32) (h : HH), kR x h → Met l yX3_explore vX3_explore rmr (va_Pc [.ref a, .int x] (fun U => WS X h U)) (QV X (kr x h)) 0 0 (xA X)) (C0 : CT p s m args meth c X cX3_explore 7 none RX3) : ∀ (n : Nat) (x1 : Int32) (r2 : Nat) (x3 : Int32) (x4 : Int32) (hr2 : IsPl X r2) (h : HH) (H : Heap) (locs : List Loc) (ls : Array Slot) (res : HH) (hl : lv_has ls 7 [(0, .ref a), (1, .int x1), (2, .ref r2), (3, .int x3), (4, .int x4)]) (hW : WH X h H) (hS : va_S (xA X) s.heap H locs) (hs : sX3_explore_c70 a kr kR n x1 r2 x3 x4 h) (hres : fX3_explore_c70 a kr n x1 r2 x3 x4 h = res), W p l e R s m args below meth c H locs 0 0 (MQ below (QV X res) args s 0 0 (xA X)) (F0 m 70 ls []) := by
  obtain ⟨hx, hb, hr, hlk, hml, hown, hts, hK⟩ := id C0
  intro n
  induction n with
  | zero =>
    intro _ _ _ _ _ _ _ _ _ _ _ _ _ hs _
    exact hs.elim
  | succ n ih =>
    intro x1 r2 x3 x4 hr2 h H locs ls res hl hW hS hs hres
    refine lv_iload hx hb dX3_explore_70 (lv_at hl 4 rfl) ?_
    refine lv_iload_n hx hb dX3_explore_72 rfl (lv_at hl 3 rfl) ?_
    refine lv_icmp_ge (tgt := 168) hx hb dX3_explore_73 (by decide) (fun c5 => ?_) (fun c5 => ?_)
    · have hres := (if_pos c5).symm.trans hres
      have hs := And.left hs c5
      subst hres
      exact kr_v hx hb hr hlk hK hW hS dX3_explore_168
    · have hres := (if_neg c5).symm.trans hres
      have hs := And.right hs c5
      refine lv_aload_n hx hb dX3_explore_76 rfl (lv_at hl 0 rfl) ?_
      refine g3_3 hx hb hts hown hK hW hO.1 (hts _ q1_159) dX3_explore_77 ?_
      refine lv_iload_n hx hb dX3_explore_80 rfl (lv_at hl 1 rfl) ?_
      obtain ⟨hi6, hs⟩ := hs
      refine kb_aald (j := 3) hx hb hK hW hO.2.2.2.2.1 rfl rfl (k := x1.toNatClampNeg) rfl hi6 rfl dX3_explore_81 ?_
      refine lv_iload hx hb dX3_explore_82 (lv_at hl 4 rfl) ?_
      obtain ⟨hi7, hs⟩ := hs
      refine kb_iald hx hb hK hW (hO.2.2.2.2.2.1 x1.toNatClampNeg (kin hi6)) (k := x4.toNatClampNeg) rfl hi7 dX3_explore_84 ?_
      refine lv_istore (lv' := [(5, .int (h (a + 20 + x1.toNatClampNeg) x4.toNatClampNeg)), (0, .ref a), (1, .int x1), (2, .ref r2), (3, .int x3), (4, .int x4)]) hx hb dX3_explore_85 hl (by decide) rfl (fun ls hl => ?_)
      refine lv_iload hx hb dX3_explore_87 (lv_at hl 0 rfl) ?_
      refine lv_bipush (v := 100) hx hb dX3_explore_89 (by decide) ?_
      refine lv_idiv hx hb dX3_explore_91 (by decide) ?_
      refine lv_istore (lv' := [(6, .int ((h (a + 20 + x1.toNatClampNeg) x4.toNatClampNeg) / 100)), (5, .int (h (a + 20 + x1.toNatClampNeg) x4.toNatClampNeg)), (0, .ref a), (1, .int x1), (2, .ref r2), (3, .int x3), (4, .int x4)]) hx hb dX3_explore_92 hl (by decide) rfl (fun ls hl => ?_)
      refine lv_aload_n hx hb dX3_explore_94 rfl (lv_at hl 2 rfl) ?_
      refine g3_4 hx hb hts hown hK hW hO.1 (hts _ q1_160) dX3_explore_95 ?_
      refine lv_iload_n hx hb dX3_explore_98 rfl (lv_at hl 3 rfl) ?_
      refine lv_iload hx hb dX3_explore_99 (lv_at hl 1 rfl) ?_
      obtain ⟨hi8, hs⟩ := hs
      refine kb_iast hx hb hK hW hS hO.2.2.2.2.2.2.1 (k := x1.toNatClampNeg) rfl hi8 dX3_explore_101 (fun H locs hW hS => ?_)
      refine lv_aload_n hx hb dX3_explore_102 rfl (lv_at hl 2 rfl) ?_
      refine g3_0 hx hb hts hown hK hW hO.1 (hts _ q1_156) dX3_explore_103 ?_
      refine lv_aload_n hx hb dX3_explore_106 rfl (lv_at hl 4 rfl) ?_
      refine lv_iload hx hb dX3_explore_107 (lv_at hl 0 rfl) ?_
      refine lv_iload hx hb dX3_explore_109 (lv_at hl 1 rfl) ?_
      refine lv_bipush (v := 100) hx hb dX3_explore_111 (by decide) ?_
      refine kb_irem hx hb dX3_explore_113 (by decide) ?_
      exact xX3_explore_c114 hO hR hrm hkr C0 ih x1 r2 x3 x4 ((h (a + 20 + x1.toNatClampNeg) x4.toNatClampNeg) / 100) (jrem (h (a + 20 + x1.toNatClampNeg) x4.toNatClampNeg) 100) ((h (a + 20 + x1.toNatClampNeg) x4.toNatClampNeg) / 100) r2 hr2 hr2 (hset h (a + 23) x1.toNatClampNeg (h (a + 20 + x1.toNatClampNeg) x4.toNatClampNeg)) _ _ _ _ (lv_sub hl [2, 3, 4, 5, 6, 0] rfl) hW hS hs hres
def fX3_explore_c47 (a : Nat) (kr : Int32 → HH → HH) (x1 : Int32) (r2 : Nat) (x3 : Int32) (h : HH) : HH := if x3 = 0 then (fX3_judge a x1 h) else (fX3_explore_c70 a kr 41 x1 r2 x3 0 (fX2_copyFrom (a + 25 + 2 * x1.toNatClampNeg) r2 h))
def sX3_explore_c47 (a : Nat) (kr : Int32 → HH → HH) (kR : Int32 → HH → Prop) (x1 : Int32) (r2 : Nat) (x3 : Int32) (h : HH) : Prop := (x3 = 0 → (sX3_judge a x1 h)) ∧ (¬ (x3 = 0) → ((vp_in x1 3) ∧ (sX3_explore_c70 a kr kR 41 x1 r2 x3 0 (fX2_copyFrom (a + 25 + 2 * x1.toNatClampNeg) r2 h))))
set_option maxRecDepth 100000 in
set_option maxHeartbeats 4000000 in
theorem xX3_explore_c47 {p : Program} {l : Launch} {e : Env} {s : State} {m : MethodId} {args : Array Value} {below : List Frame} {meth : Method} {c : Code} {X : Cx} {a : Nat} (hO : IsSe X a) {R rmr : Room} {kr : Int32 → HH → HH} {kR : Int32 → HH → Prop} (hR : 5 ≤ R.frames ∧ 116 ≤ R.locals) (hrm : rmr.cells = 0 ∧ rmr.slots = 0 ∧ rmr.frames + 1 ≤ R.frames ∧ 8 + (7 + 11) + rmr.locals ≤ R.locals) (hkr : ∀ (x : Int32) (h : HH), kR x h → Met l yX3_explore vX3_explore rmr (va_Pc [.ref a, .int x] (fun U => WS X h U)) (QV X (kr x h)) 0 0 (xA X)) (C0 : CT p s m args meth c X cX3_explore 7 none RX3) (x1 : Int32) (r2 : Nat) (x3 : Int32) (hr2 : IsPl X r2) (h : HH) (H : Heap) (locs : List Loc) (ls : Array Slot) (res : HH) (hl : lv_has ls 7 [(0, .ref a), (1, .int x1), (2, .ref r2), (3, .int x3)]) (hW : WH X h H) (hS : va_S (xA X) s.heap H locs) (hs : sX3_explore_c47 a kr kR x1 r2 x3 h) (hres : fX3_explore_c47 a kr x1 r2 x3 h = res) : W p l e R s m args below meth c H locs 0 0 (MQ below (QV X res) args s 0 0 (xA X)) (F0 m 47 ls []) := by
  obtain ⟨hx, hb, hr, hlk, hml, hown, hts, hK⟩ := id C0
  refine lv_iload_n hx hb dX3_explore_47 rfl (lv_at hl 3 rfl) ?_
  refine lv_if_ne (tgt := 57) hx hb dX3_explore_48 (by decide) (fun c3 => ?_) (fun c3 => ?_)
  · have hres := (if_neg c3).symm.trans hres
    have hs := And.right hs c3
    refine lv_aload_n hx hb dX3_explore_57 rfl (lv_at hl 0 rfl) ?_
    refine g3_1 hx hb hts hown hK hW hO.1 (hts _ q1_157) dX3_explore_58 ?_
    refine lv_iload_n hx hb dX3_explore_61 rfl (lv_at hl 1 rfl) ?_
    obtain ⟨hi4, hs⟩ := hs
    refine kb_aald (j := 1) hx hb hK hW hO.2.2.1 rfl rfl (k := x1.toNatClampNeg) rfl hi4 rfl dX3_explore_62 ?_
    refine lv_aload_n hx hb dX3_explore_63 rfl (lv_at hl 2 rfl) ?_
    refine kV_v (As := [.ref r2]) (rest := []) ⟨hx, hb, hml, hown, hts⟩ (kX2_copyFrom l X h (a + 25 + 2 * x1.toNatClampNeg) r2 (hO.2.2.2.2.2.2.2.2 x1.toNatClampNeg (kin hi4)) hr2) (wX2_copyFrom hts q2_149 ⟨Nat.le_trans (Nat.le_of_ble_eq_true rfl) hR.1, Nat.le_trans (Nat.le_of_ble_eq_true rfl) hR.2⟩) hK hW hS (va_recv hK.1 (hW.one (hO.2.2.2.2.2.2.2.2 x1.toNatClampNeg (kin hi4)).1) (ci := 2) (q0 := 0) rfl rfl) rfl hl.1 rfl (Nat.le_of_ble_eq_true rfl) dX3_explore_64 ⟨Nat.zero_le _, Nat.zero_le _⟩ (fun H locs hW hS => ?_)
    refine lv_iconst (v := 0) hx hb dX3_explore_67 (by decide) ?_
    refine lv_istore (lv' := [(4, .int 0), (0, .ref a), (1, .int x1), (2, .ref r2), (3, .int x3)]) hx hb dX3_explore_68 hl (by decide) rfl (fun ls hl => ?_)
    exact xX3_explore_c70 hO hR hrm hkr C0 41 x1 r2 x3 0 hr2 (fX2_copyFrom (a + 25 + 2 * x1.toNatClampNeg) r2 h) _ _ _ _ (lv_sub hl [1, 2, 3, 4, 0] rfl) hW hS hs hres
  · have hres := (if_pos c3).symm.trans hres
    have hs := And.left hs c3
    refine lv_aload_n hx hb dX3_explore_51 rfl (lv_at hl 0 rfl) ?_
    refine lv_iload_n hx hb dX3_explore_52 rfl (lv_at hl 1 rfl) ?_
    have hc16 := hs
    refine kV_v (As := [.int x1]) (rest := []) ⟨hx, hb, hml, hown, hts⟩ (kX3_judge l X h a x1 hO hc16) (wX3_judge hts q2_145 ⟨Nat.le_trans (Nat.le_of_ble_eq_true rfl) hR.1, Nat.le_trans (Nat.le_of_ble_eq_true rfl) hR.2⟩) hK hW hS (va_recv hK.1 (hW.one hO.1) (ci := 3) (q0 := 0) rfl rfl) rfl hl.1 rfl (Nat.le_of_ble_eq_true rfl) dX3_explore_53 ⟨Nat.zero_le _, Nat.zero_le _⟩ (fun H locs hW hS => ?_)
    subst hres
    exact kr_v hx hb hr hlk hK hW hS dX3_explore_56
def fX3_explore_c46 (a : Nat) (kr : Int32 → HH → HH) (x1 : Int32) (r2 : Nat) (xs0 : Int32) (h : HH) : HH := fX3_explore_c47 a kr x1 r2 xs0 h
def sX3_explore_c46 (a : Nat) (kr : Int32 → HH → HH) (kR : Int32 → HH → Prop) (x1 : Int32) (r2 : Nat) (xs0 : Int32) (h : HH) : Prop := sX3_explore_c47 a kr kR x1 r2 xs0 h
set_option maxRecDepth 100000 in
set_option maxHeartbeats 4000000 in
theorem xX3_explore_c46 {p : Program} {l : Launch} {e : Env} {s : State} {m : MethodId} {args : Array Value} {below : List Frame} {meth : Method} {c : Code} {X : Cx} {a : Nat} (hO : IsSe X a) {R rmr : Room} {kr : Int32 → HH → HH} {kR : Int32 → HH → Prop} (hR : 5 ≤ R.frames ∧ 116 ≤ R.locals) (hrm : rmr.cells = 0 ∧ rmr.slots = 0 ∧ rmr.frames + 1 ≤ R.frames ∧ 8 + (7 + 11) + rmr.locals ≤ R.locals) (hkr : ∀ (x : Int32) (h : HH), kR x h → Met l yX3_explore vX3_explore rmr (va_Pc [.ref a, .int x] (fun U => WS X h U)) (QV X (kr x h)) 0 0 (xA X)) (C0 : CT p s m args meth c X cX3_explore 7 none RX3) (x1 : Int32) (r2 : Nat) (xs0 : Int32) (hr2 : IsPl X r2) (h : HH) (H : Heap) (locs : List Loc) (ls : Array Slot) (res : HH) (hl : lv_has ls 7 [(0, .ref a), (1, .int x1), (2, .ref r2)]) (hW : WH X h H) (hS : va_S (xA X) s.heap H locs) (hs : sX3_explore_c46 a kr kR x1 r2 xs0 h) (hres : fX3_explore_c46 a kr x1 r2 xs0 h = res) : W p l e R s m args below meth c H locs 0 0 (MQ below (QV X res) args s 0 0 (xA X)) (F0 m 46 ls [.int xs0]) := by
  obtain ⟨hx, hb, hr, hlk, hml, hown, hts, hK⟩ := id C0
  refine lv_istore_n (lv' := [(3, .int xs0), (0, .ref a), (1, .int x1), (2, .ref r2)]) hx hb dX3_explore_46 rfl hl (by decide) rfl (fun ls hl => ?_)
  exact xX3_explore_c47 hO hR hrm hkr C0 x1 r2 xs0 hr2 h _ _ _ _ (lv_sub hl [1, 2, 3, 0] rfl) hW hS hs hres
def fX3_explore_c0 (a : Nat) (kr : Int32 → HH → HH) (x1 : Int32) (h : HH) : HH := if (h a 6) ≤ x1 then (fX3_explore_c47 a kr x1 (a + 1 + 7 + 2 * ((h (a + 1) 3).toNatClampNeg)) 0 h) else (if (h (a + 1 + 7 + 2 * ((h (a + 1) 3).toNatClampNeg)) 3) ≤ 0 then (fX3_explore_c47 a kr x1 (a + 1 + 7 + 2 * ((h (a + 1) 3).toNatClampNeg)) 0 h) else (fX3_explore_c46 a kr x1 (a + 1 + 7 + 2 * ((h (a + 1) 3).toNatClampNeg)) ((fX0_listPlacements (a + 1) (a + 20 + x1.toNatClampNeg) h).1) ((fX0_listPlacements (a + 1) (a + 20 + x1.toNatClampNeg) h).2)))
def sX3_explore_c0 (a : Nat) (kr : Int32 → HH → HH) (kR : Int32 → HH → Prop) (x1 : Int32) (h : HH) : Prop := (vp_in (h (a + 1) 3) 4) ∧ (((h a 6) ≤ x1 → (sX3_explore_c47 a kr kR x1 (a + 1 + 7 + 2 * ((h (a + 1) 3).toNatClampNeg)) 0 h)) ∧ (¬ ((h a 6) ≤ x1) → (((h (a + 1 + 7 + 2 * ((h (a + 1) 3).toNatClampNeg)) 3) ≤ 0 → (sX3_explore_c47 a kr kR x1 (a + 1 + 7 + 2 * ((h (a + 1) 3).toNatClampNeg)) 0 h)) ∧ (¬ ((h (a + 1 + 7 + 2 * ((h (a + 1) 3).toNatClampNeg)) 3) ≤ 0) → ((vp_in x1 3) ∧ ((sX0_listPlacements (a + 1) (a + 20 + x1.toNatClampNeg) h) ∧ (sX3_explore_c46 a kr kR x1 (a + 1 + 7 + 2 * ((h (a + 1) 3).toNatClampNeg)) ((fX0_listPlacements (a + 1) (a + 20 + x1.toNatClampNeg) h).1) ((fX0_listPlacements (a + 1) (a + 20 + x1.toNatClampNeg) h).2))))))))
set_option maxRecDepth 100000 in
set_option maxHeartbeats 4000000 in
theorem xX3_explore_c0 {p : Program} {l : Launch} {e : Env} {s : State} {m : MethodId} {args : Array Value} {below : List Frame} {meth : Method} {c : Code} {X : Cx} {a : Nat} (hO : IsSe X a) {R rmr : Room} {kr : Int32 → HH → HH} {kR : Int32 → HH → Prop} (hR : 5 ≤ R.frames ∧ 116 ≤ R.locals) (hrm : rmr.cells = 0 ∧ rmr.slots = 0 ∧ rmr.frames + 1 ≤ R.frames ∧ 8 + (7 + 11) + rmr.locals ≤ R.locals) (hkr : ∀ (x : Int32) (h : HH), kR x h → Met l yX3_explore vX3_explore rmr (va_Pc [.ref a, .int x] (fun U => WS X h U)) (QV X (kr x h)) 0 0 (xA X)) (C0 : CT p s m args meth c X cX3_explore 7 none RX3) (x1 : Int32) (h : HH) (H : Heap) (locs : List Loc) (ls : Array Slot) (res : HH) (hl : lv_has ls 7 [(0, .ref a), (1, .int x1)]) (hW : WH X h H) (hS : va_S (xA X) s.heap H locs) (hs : sX3_explore_c0 a kr kR x1 h) (hres : fX3_explore_c0 a kr x1 h = res) : W p l e R s m args below meth c H locs 0 0 (MQ below (QV X res) args s 0 0 (xA X)) (F0 m 0 ls []) := by
  obtain ⟨hx, hb, hr, hlk, hml, hown, hts, hK⟩ := id C0
  refine lv_aload_n hx hb dX3_explore_0 rfl (lv_at hl 0 rfl) ?_
  refine g3_0 hx hb hts hown hK hW hO.1 (hts _ q1_156) dX3_explore_1 ?_
  refine g0_5 hx hb hts hown hK hW hO.2.1.1 (hts _ q1_95) dX3_explore_4 ?_
  refine lv_aload_n hx hb dX3_explore_7 rfl (lv_at hl 0 rfl) ?_
  refine g3_0 hx hb hts hown hK hW hO.1 (hts _ q1_156) dX3_explore_8 ?_
  refine g0_3 hx hb hts hown hK hW hO.2.1.1 (hts _ q1_91) dX3_explore_11 ?_
  obtain ⟨hi1, hs⟩ := hs
  refine kb_aald (j := 1) hx hb hK hW hO.2.1.2.1 rfl rfl (k := (h (a + 1) 3).toNatClampNeg) rfl hi1 rfl dX3_explore_14 ?_
  refine lv_astore_n (lv' := [(2, .ref (a + 1 + 7 + 2 * ((h (a + 1) 3).toNatClampNeg))), (0, .ref a), (1, .int x1)]) hx hb dX3_explore_15 rfl hl (by decide) rfl (fun ls hl => ?_)
  refine lv_iconst (v := 0) hx hb dX3_explore_16 (by decide) ?_
  refine lv_istore_n (lv' := [(3, .int 0), (2, .ref (a + 1 + 7 + 2 * ((h (a + 1) 3).toNatClampNeg))), (0, .ref a), (1, .int x1)]) hx hb dX3_explore_17 rfl hl (by decide) rfl (fun ls hl => ?_)
  refine lv_iload_n hx hb dX3_explore_18 rfl (lv_at hl 3 rfl) ?_
  refine lv_aload_n hx hb dX3_explore_19 rfl (lv_at hl 2 rfl) ?_
  refine g3_6 hx hb hts hown hK hW hO.1 (hts _ q1_162) dX3_explore_20 ?_
  refine lv_icmp_ge (tgt := 47) hx hb dX3_explore_23 (by decide) (fun c2 => ?_) (fun c2 => ?_)
  · have hres := (if_pos c2).symm.trans hres
    have hs := And.left hs c2
    exact xX3_explore_c47 hO hR hrm hkr C0 x1 (a + 1 + 7 + 2 * ((h (a + 1) 3).toNatClampNeg)) 0 (hO.2.1.2.2.2.2.2.2 ((h (a + 1) 3).toNatClampNeg) (kin hi1)) h _ _ _ _ (lv_sub hl [2, 3, 1, 0] rfl) hW hS hs hres
  · have hres := (if_neg c2).symm.trans hres
    have hs := And.right hs c2
    refine lv_aload_n hx hb dX3_explore_26 rfl (lv_at hl 1 rfl) ?_
    refine g2_3 hx hb hts hown hK hW (hO.2.1.2.2.2.2.2.2 ((h (a + 1) 3).toNatClampNeg) (kin hi1)).1 (hts _ q1_61) dX3_explore_27 ?_
    refine lv_if_le (tgt := 47) hx hb dX3_explore_30 (by decide) (fun c17 => ?_) (fun c17 => ?_)
    · have hres := (if_pos c17).symm.trans hres
      have hs := And.left hs c17
      exact xX3_explore_c47 hO hR hrm hkr C0 x1 (a + 1 + 7 + 2 * ((h (a + 1) 3).toNatClampNeg)) 0 (hO.2.1.2.2.2.2.2.2 ((h (a + 1) 3).toNatClampNeg) (kin hi1)) h _ _ _ _ (lv_sub hl [2, 3, 1, 0] rfl) hW hS hs hres
    · have hres := (if_neg c17).symm.trans hres
      have hs := And.right hs c17
      refine lv_aload_n hx hb dX3_explore_33 rfl (lv_at hl 2 rfl) ?_
      refine g3_0 hx hb hts hown hK hW hO.1 (hts _ q1_156) dX3_explore_34 ?_
      refine lv_aload_n hx hb dX3_explore_37 rfl (lv_at hl 2 rfl) ?_
      refine g3_3 hx hb hts hown hK hW hO.1 (hts _ q1_159) dX3_explore_38 ?_
      refine lv_iload_n hx hb dX3_explore_41 rfl (lv_at hl 3 rfl) ?_
      obtain ⟨hi18, hs⟩ := hs
      refine kb_aald (j := 3) hx hb hK hW hO.2.2.2.2.1 rfl rfl (k := x1.toNatClampNeg) rfl hi18 rfl dX3_explore_42 ?_
      obtain ⟨hc19, hs⟩ := hs
      refine kV_i (As := [.ref (a + 20 + x1.toNatClampNeg)]) (rest := []) ⟨hx, hb, hml, hown, hts⟩ (kX0_listPlacements l X h (a + 1) (a + 20 + x1.toNatClampNeg) hO.2.1 (hO.2.2.2.2.2.1 x1.toNatClampNeg (kin hi18)) hc19) (wX0_listPlacements hts q2_144 ⟨Nat.le_trans (Nat.le_of_ble_eq_true rfl) hR.1, Nat.le_trans (Nat.le_of_ble_eq_true rfl) hR.2⟩) hK hW hS (va_recv hK.1 (hW.one hO.2.1.1) (ci := 0) (q0 := 0) rfl rfl) rfl hl.1 rfl (Nat.le_of_ble_eq_true rfl) dX3_explore_43 ⟨Nat.zero_le _, Nat.zero_le _⟩ (fun H locs hW hS => ?_)
      exact xX3_explore_c46 hO hR hrm hkr C0 x1 (a + 1 + 7 + 2 * ((h (a + 1) 3).toNatClampNeg)) ((fX0_listPlacements (a + 1) (a + 20 + x1.toNatClampNeg) h).1) (hO.2.1.2.2.2.2.2.2 ((h (a + 1) 3).toNatClampNeg) (kin hi1)) ((fX0_listPlacements (a + 1) (a + 20 + x1.toNatClampNeg) h).2) _ _ _ _ (lv_sub hl [2, 3, 1] rfl) hW hS hs hres
def fX3_explore : Nat → Nat → Int32 → HH → HH
  | 0, _, _, h => h
  | d + 1, a, x1, h => fX3_explore_c0 a (fX3_explore d a) x1 h
def sX3_explore : Nat → Nat → Int32 → HH → Prop
  | 0, _, _, _ => False
  | d + 1, a, x1, h => sX3_explore_c0 a (fX3_explore d a) (sX3_explore d a) x1 h
set_option maxRecDepth 100000 in
set_option maxHeartbeats 4000000 in
theorem kX3_explore (l : Launch) (X : Cx) : ∀ (d : Nat) (h : HH) (a : Nat) (x1 : Int32) (hO : IsSe X a) (hs : sX3_explore d a x1 h), Met l yX3_explore vX3_explore (rmX3_explore d) (va_Pc [.ref a, .int x1] (fun U => WS X h U)) (QV X (fX3_explore d a x1 h)) 0 0 (xA X) := by
  intro d
  induction d with
  | zero =>
    intro h a x1 hO hs
    exact hs.elim
  | succ d ih =>
    intro h a x1 hO hs
    refine Met.ofW (cc := cX3_explore) (maxL := 7) (ret := none) (by decide) rfl ?_
    intro p e s m args below meth c s₁ B hml hv
    obtain ⟨rfl, hW, hK⟩ := hv
    have hl := lv_entry ([.ref a, .int x1]) (n := 7) (Nat.le_of_ble_eq_true rfl)
    rw [lg_entry_eq]
    generalize (lg_sl ([.ref a, .int x1]) ++ List.replicate (7 - (lg_sl ([.ref a, .int x1])).length) Slot.unset).toArray = ls at hl ⊢
    have hl : lv_has ls 7 [(0, .ref a), (1, .int x1)] := hl
    exact xX3_explore_c0 hO (R := rmX3_explore (d + 1)) (rmr := rmX3_explore d) ⟨by show _ ≤ 5 + (d + 1); omega, by show _ ≤ 116 + 26 * (d + 1); omega⟩ ⟨rfl, rfl, by show 5 + d + 1 ≤ 5 + (d + 1); omega, by show 8 + (7 + 11) + (116 + 26 * d) ≤ 116 + 26 * (d + 1); omega⟩ (fun x h hs => ih h a x hO hs) ⟨B.exec, B.bytes, B.returns, B.notSynchronized, hml, findClass_of_methodNamed B.named, fun w hw => atoms_spec (ws := vX3_explore) B.pre w (List.mem_cons_of_mem _ hw), hK⟩ x1 h _ _ ls _ (lv_sub hl [0, 1] rfl) hW va_S.rf hs rfl
-- VillageBoard$Search.run(LVillageBoard$Game;I)V
abbrev rmX3_run : Room := ({ frames := 11, cells := 0, slots := 0, locals := 272 } : Room)
abbrev vX3_run : List Cond := Cond.code yX3_run cX3_run 3 none :: lwG
theorem wX3_run {R : Room} {s : State} {args : Array Value} {own : String} {idx : Nat} (hg : ∀ w ∈ lwG, w.before args s = true) (hl : Cond.methodLink own idx yX3_run ∈ lwG) (hR : rmX3_run.frames + 1 ≤ R.frames ∧ 8 + (3 + 11) + rmX3_run.locals ≤ R.locals) : CallW R s args own RX3 idx yX3_run cX3_run 3 none vX3_run rmX3_run 0 0 2 := cwV 2 hg (gV hl q2_118 q2_119 q1_6 q2_120) rfl rfl rfl (by decide +kernel) hR
def fX3_run_c31 (a : Nat) (r1 : Nat) (xs0 : Int32) (h : HH) : HH := fX3_explore 5 a xs0 h
def sX3_run_c31 (a : Nat) (r1 : Nat) (xs0 : Int32) (h : HH) : Prop := sX3_explore 5 a xs0 h
set_option maxRecDepth 100000 in
set_option maxHeartbeats 4000000 in
theorem xX3_run_c31 {p : Program} {l : Launch} {e : Env} {s : State} {m : MethodId} {args : Array Value} {below : List Frame} {meth : Method} {c : Code} {X : Cx} {a : Nat} {r1 : Nat} (hO : IsSe X a) (hr1 : IsGm X r1) (C0 : CT p s m args meth c X cX3_run 3 none RX3) (xs0 : Int32) (h : HH) (H : Heap) (locs : List Loc) (ls : Array Slot) (res : HH) (hl : lv_has ls 3 []) (hW : WH X h H) (hS : va_S (xA X) s.heap H locs) (hs : sX3_run_c31 a r1 xs0 h) (hres : fX3_run_c31 a r1 xs0 h = res) : W p l e rmX3_run s m args below meth c H locs 0 0 (MQ below (QV X res) args s 0 0 (xA X)) (F0 m 31 ls [.int xs0, .ref a]) := by
  obtain ⟨hx, hb, hr, hlk, hml, hown, hts, hK⟩ := id C0
  have hc3 := hs
  refine kV_v (As := [.int xs0]) (rest := []) ⟨hx, hb, hml, hown, hts⟩ (kX3_explore l X 5 h a xs0 hO hc3) (wX3_explore rfl rfl hts q2_140 ⟨Nat.le_of_ble_eq_true rfl, Nat.le_of_ble_eq_true rfl⟩) hK hW hS (va_recv hK.1 (hW.one hO.1) (ci := 3) (q0 := 0) rfl rfl) rfl hl.1 rfl (Nat.le_of_ble_eq_true rfl) dX3_run_31 ⟨Nat.zero_le _, Nat.zero_le _⟩ (fun H locs hW hS => ?_)
  subst hres
  exact kr_v hx hb hr hlk hK hW hS dX3_run_34
def fX3_run_c15 (a : Nat) (r1 : Nat) (h : HH) : HH := if (bI (fX0_isOver r1 h)) = 0 then (fX3_run_c31 a r1 0 (fX0_copyFrom (a + 1) r1 h)) else h
def sX3_run_c15 (a : Nat) (r1 : Nat) (h : HH) : Prop := ((bI (fX0_isOver r1 h)) = 0 → ((sX0_copyFrom (a + 1) r1 h) ∧ (sX3_run_c31 a r1 0 (fX0_copyFrom (a + 1) r1 h)))) ∧ (¬ ((bI (fX0_isOver r1 h)) = 0) → True)
set_option maxRecDepth 100000 in
set_option maxHeartbeats 4000000 in
theorem xX3_run_c15 {p : Program} {l : Launch} {e : Env} {s : State} {m : MethodId} {args : Array Value} {below : List Frame} {meth : Method} {c : Code} {X : Cx} {a : Nat} {r1 : Nat} (hO : IsSe X a) (hr1 : IsGm X r1) (C0 : CT p s m args meth c X cX3_run 3 none RX3) (h : HH) (H : Heap) (locs : List Loc) (ls : Array Slot) (res : HH) (hl : lv_has ls 3 [(0, .ref a), (1, .ref r1)]) (hW : WH X h H) (hS : va_S (xA X) s.heap H locs) (hs : sX3_run_c15 a r1 h) (hres : fX3_run_c15 a r1 h = res) : W p l e rmX3_run s m args below meth c H locs 0 0 (MQ below (QV X res) args s 0 0 (xA X)) (F0 m 15 ls [.ref r1]) := by
  obtain ⟨hx, hb, hr, hlk, hml, hown, hts, hK⟩ := id C0
  refine kV_i (As := []) (rest := []) ⟨hx, hb, hml, hown, hts⟩ (kX0_isOver l X h r1 hr1) (wX0_isOver hts q2_122 ⟨Nat.le_of_ble_eq_true rfl, Nat.le_of_ble_eq_true rfl⟩) hK hW hS (va_recv hK.1 (hW.one hr1.1) (ci := 0) (q0 := 0) rfl rfl) rfl hl.1 rfl (Nat.le_of_ble_eq_true rfl) dX3_run_15 ⟨Nat.zero_le _, Nat.zero_le _⟩ (fun H locs hW hS => ?_)
  refine lv_if_ne (tgt := 34) hx hb dX3_run_18 (by decide) (fun c1 => ?_) (fun c1 => ?_)
  · have hres := (if_neg c1).symm.trans hres
    have hs := And.right hs c1
    subst hres
    exact kr_v hx hb hr hlk hK hW hS dX3_run_34
  · have hres := (if_pos c1).symm.trans hres
    have hs := And.left hs c1
    refine lv_aload_n hx hb dX3_run_21 rfl (lv_at hl 0 rfl) ?_
    refine g3_0 hx hb hts hown hK hW hO.1 (hts _ q1_156) dX3_run_22 ?_
    refine lv_aload_n hx hb dX3_run_25 rfl (lv_at hl 1 rfl) ?_
    obtain ⟨hc2, hs⟩ := hs
    refine kV_v (As := [.ref r1]) (rest := []) ⟨hx, hb, hml, hown, hts⟩ (kX0_copyFrom l X h (a + 1) r1 hO.2.1 hr1 hc2) (wX0_copyFrom hts q2_123 ⟨Nat.le_of_ble_eq_true rfl, Nat.le_of_ble_eq_true rfl⟩) hK hW hS (va_recv hK.1 (hW.one hO.2.1.1) (ci := 0) (q0 := 0) rfl rfl) rfl hl.1 rfl (Nat.le_of_ble_eq_true rfl) dX3_run_26 ⟨Nat.zero_le _, Nat.zero_le _⟩ (fun H locs hW hS => ?_)
    refine lv_aload_n hx hb dX3_run_29 rfl (lv_at hl 0 rfl) ?_
    refine lv_iconst (v := 0) hx hb dX3_run_30 (by decide) ?_
    exact xX3_run_c31 hO hr1 C0 0 (fX0_copyFrom (a + 1) r1 h) _ _ _ _ (lv_sub hl [] rfl) hW hS hs hres
def fX3_run_c0 (a : Nat) (r1 : Nat) (x2 : Int32) (h : HH) : HH := fX3_run_c15 a r1 (hset (hset h a 6 (jmin x2 3)) a 7 0)
def sX3_run_c0 (a : Nat) (r1 : Nat) (x2 : Int32) (h : HH) : Prop := sX3_run_c15 a r1 (hset (hset h a 6 (jmin x2 3)) a 7 0)
set_option maxRecDepth 100000 in
set_option maxHeartbeats 4000000 in
theorem xX3_run_c0 {p : Program} {l : Launch} {e : Env} {s : State} {m : MethodId} {args : Array Value} {below : List Frame} {meth : Method} {c : Code} {X : Cx} {a : Nat} {r1 : Nat} (hO : IsSe X a) (hr1 : IsGm X r1) (C0 : CT p s m args meth c X cX3_run 3 none RX3) (x2 : Int32) (h : HH) (H : Heap) (locs : List Loc) (ls : Array Slot) (res : HH) (hl : lv_has ls 3 [(0, .ref a), (1, .ref r1), (2, .int x2)]) (hW : WH X h H) (hS : va_S (xA X) s.heap H locs) (hs : sX3_run_c0 a r1 x2 h) (hres : fX3_run_c0 a r1 x2 h = res) : W p l e rmX3_run s m args below meth c H locs 0 0 (MQ below (QV X res) args s 0 0 (xA X)) (F0 m 0 ls []) := by
  obtain ⟨hx, hb, hr, hlk, hml, hown, hts, hK⟩ := id C0
  refine lv_aload_n hx hb dX3_run_0 rfl (lv_at hl 0 rfl) ?_
  refine lv_iload_n hx hb dX3_run_1 rfl (lv_at hl 2 rfl) ?_
  refine lv_iconst (v := 3) hx hb dX3_run_2 (by decide) ?_
  refine kb_min hx hb (hml.trans hl.1.symm) hown (hts _ q2_121) (hts _ q2_87) (hts _ q1_13) (hts _ q2_88) (Nat.le_of_ble_eq_true rfl) (Nat.le_of_ble_eq_true rfl) (Nat.zero_le _) (Nat.zero_le _) dX3_run_3 ?_
  refine p3_6 hx hb hts hown hK hW hS hO.1 (hts _ q1_162) dX3_run_6 (fun H locs hW hS => ?_)
  refine lv_aload_n hx hb dX3_run_9 rfl (lv_at hl 0 rfl) ?_
  refine lv_iconst (v := 0) hx hb dX3_run_10 (by decide) ?_
  refine p3_7 hx hb hts hown hK hW hS hO.1 (hts _ q1_163) dX3_run_11 (fun H locs hW hS => ?_)
  refine lv_aload_n hx hb dX3_run_14 rfl (lv_at hl 1 rfl) ?_
  exact xX3_run_c15 hO hr1 C0 (hset (hset h a 6 (jmin x2 3)) a 7 0) _ _ _ _ (lv_sub hl [0, 1] rfl) hW hS hs hres
def fX3_run (a : Nat) (r1 : Nat) (x2 : Int32) (h : HH) : HH := fX3_run_c0 a r1 x2 h
def sX3_run (a : Nat) (r1 : Nat) (x2 : Int32) (h : HH) : Prop := sX3_run_c0 a r1 x2 h
set_option maxRecDepth 100000 in
set_option maxHeartbeats 4000000 in
theorem kX3_run (l : Launch) (X : Cx) (h : HH) (a : Nat) (r1 : Nat) (x2 : Int32) (hO : IsSe X a) (hr1 : IsGm X r1) (hs : sX3_run a r1 x2 h) : Met l yX3_run vX3_run rmX3_run (va_Pc [.ref a, .ref r1, .int x2] (fun U => WS X h U)) (QV X (fX3_run a r1 x2 h)) 0 0 (xA X) := by
  refine Met.ofW (cc := cX3_run) (maxL := 3) (ret := none) (by decide) rfl ?_
  intro p e s m args below meth c s₁ B hml hv
  obtain ⟨rfl, hW, hK⟩ := hv
  have hl := lv_entry ([.ref a, .ref r1, .int x2]) (n := 3) (Nat.le_of_ble_eq_true rfl)
  rw [lg_entry_eq]
  generalize (lg_sl ([.ref a, .ref r1, .int x2]) ++ List.replicate (3 - (lg_sl ([.ref a, .ref r1, .int x2])).length) Slot.unset).toArray = ls at hl ⊢
  have hl : lv_has ls 3 [(0, .ref a), (1, .ref r1), (2, .int x2)] := hl
  exact xX3_run_c0 hO hr1 ⟨B.exec, B.bytes, B.returns, B.notSynchronized, hml, findClass_of_methodNamed B.named, fun w hw => atoms_spec (ws := vX3_run) B.pre w (List.mem_cons_of_mem _ hw), hK⟩ x2 h _ _ ls _ (lv_sub hl [0, 1, 2] rfl) hW va_S.rf hs rfl
-- VillageBoard$Search.bestResult()I
abbrev rmX3_bestResult : Room := ({ frames := 0, cells := 0, slots := 0, locals := 0 } : Room)
abbrev vX3_bestResult : List Cond := Cond.code yX3_bestResult cX3_bestResult 1 (some .int) :: lwG
theorem wX3_bestResult {R : Room} {s : State} {args : Array Value} {own : String} {idx : Nat} (hg : ∀ w ∈ lwG, w.before args s = true) (hl : Cond.methodLink own idx yX3_bestResult ∈ lwG) (hR : rmX3_bestResult.frames + 1 ≤ R.frames ∧ 8 + (1 + 11) + rmX3_bestResult.locals ≤ R.locals) : CallW R s args own RX3 idx yX3_bestResult cX3_bestResult 1 (some .int) vX3_bestResult rmX3_bestResult 0 0 0 := cwV 0 hg (gV hl q2_185 q2_186 q1_6 q2_187) rfl rfl rfl (by decide +kernel) hR
def fX3_bestResult_c0 (a : Nat) (h : HH) : Int32 := if (h a 7) = 0 then (-1) else (h a 8)
set_option maxRecDepth 100000 in
set_option maxHeartbeats 4000000 in
theorem xX3_bestResult_c0 {p : Program} {l : Launch} {e : Env} {s : State} {m : MethodId} {args : Array Value} {below : List Frame} {meth : Method} {c : Code} {X : Cx} {a : Nat} (hO : IsSe X a) (C0 : CT p s m args meth c X cX3_bestResult 1 (some .int) RX3) (h : HH) (H : Heap) (locs : List Loc) (ls : Array Slot) (res : Int32) (hl : lv_has ls 1 [(0, .ref a)]) (hW : WH X h H) (hS : va_S (xA X) s.heap H locs) (hres : fX3_bestResult_c0 a h = res) : W p l e rmX3_bestResult s m args below meth c H locs 0 0 (MQ below (QI X res h) args s 0 0 (xA X)) (F0 m 0 ls []) := by
  obtain ⟨hx, hb, hr, hlk, hml, hown, hts, hK⟩ := id C0
  refine lv_aload_n hx hb dX3_bestResult_0 rfl (lv_at hl 0 rfl) ?_
  refine g3_7 hx hb hts hown hK hW hO.1 (hts _ q1_163) dX3_bestResult_1 ?_
  refine lv_if_ne (tgt := 11) hx hb dX3_bestResult_4 (by decide) (fun c1 => ?_) (fun c1 => ?_)
  · have hres := (if_neg c1).symm.trans hres
    refine lv_aload_n hx hb dX3_bestResult_11 rfl (lv_at hl 0 rfl) ?_
    refine g3_8 hx hb hts hown hK hW hO.1 (hts _ q1_164) dX3_bestResult_12 ?_
    subst hres
    exact kr_i hx hb hr hlk hK hW hS dX3_bestResult_15
  · have hres := (if_pos c1).symm.trans hres
    refine lv_iconst (v := (-1)) hx hb dX3_bestResult_7 (by decide) ?_
    refine lv_goto (tgt := 15) hx hb dX3_bestResult_8 (by decide) ?_
    subst hres
    exact kr_i hx hb hr hlk hK hW hS dX3_bestResult_15
def fX3_bestResult (a : Nat) (h : HH) : Int32 := fX3_bestResult_c0 a h
set_option maxRecDepth 100000 in
set_option maxHeartbeats 4000000 in
theorem kX3_bestResult (l : Launch) (X : Cx) (h : HH) (a : Nat) (hO : IsSe X a) : Met l yX3_bestResult vX3_bestResult rmX3_bestResult (va_Pc [.ref a] (fun U => WS X h U)) (QI X (fX3_bestResult a h) h) 0 0 (xA X) := by
  refine Met.ofW (cc := cX3_bestResult) (maxL := 1) (ret := some .int) (by decide) rfl ?_
  intro p e s m args below meth c s₁ B hml hv
  obtain ⟨rfl, hW, hK⟩ := hv
  have hl := lv_entry ([.ref a]) (n := 1) (Nat.le_of_ble_eq_true rfl)
  rw [lg_entry_eq]
  generalize (lg_sl ([.ref a]) ++ List.replicate (1 - (lg_sl ([.ref a])).length) Slot.unset).toArray = ls at hl ⊢
  have hl : lv_has ls 1 [(0, .ref a)] := hl
  exact xX3_bestResult_c0 hO ⟨B.exec, B.bytes, B.returns, B.notSynchronized, hml, findClass_of_methodNamed B.named, fun w hw => atoms_spec (ws := vX3_bestResult) B.pre w (List.mem_cons_of_mem _ hw), hK⟩ h _ _ ls _ (lv_sub hl [0] rfl) hW va_S.rf rfl
-- VillageBoard$Search.bestStep(I)I
abbrev rmX3_bestStep : Room := ({ frames := 0, cells := 0, slots := 0, locals := 0 } : Room)
abbrev vX3_bestStep : List Cond := Cond.code yX3_bestStep cX3_bestStep 2 (some .int) :: lwG
theorem wX3_bestStep {R : Room} {s : State} {args : Array Value} {own : String} {idx : Nat} (hg : ∀ w ∈ lwG, w.before args s = true) (hl : Cond.methodLink own idx yX3_bestStep ∈ lwG) (hR : rmX3_bestStep.frames + 1 ≤ R.frames ∧ 8 + (2 + 11) + rmX3_bestStep.locals ≤ R.locals) : CallW R s args own RX3 idx yX3_bestStep cX3_bestStep 2 (some .int) vX3_bestStep rmX3_bestStep 0 0 1 := cwV 1 hg (gV hl q2_189 q2_190 q1_6 q2_191) rfl rfl rfl (by decide +kernel) hR
def fX3_bestStep_c0 (a : Nat) (x1 : Int32) (h : HH) : Int32 := if x1 < 0 then (-1) else (if (h a 7) ≤ x1 then (-1) else (h (a + 24) x1.toNatClampNeg))
def sX3_bestStep_c0 (a : Nat) (x1 : Int32) (h : HH) : Prop := (x1 < 0 → True) ∧ (¬ (x1 < 0) → (((h a 7) ≤ x1 → True) ∧ (¬ ((h a 7) ≤ x1) → (vp_in x1 3))))
set_option maxRecDepth 100000 in
set_option maxHeartbeats 4000000 in
theorem xX3_bestStep_c0 {p : Program} {l : Launch} {e : Env} {s : State} {m : MethodId} {args : Array Value} {below : List Frame} {meth : Method} {c : Code} {X : Cx} {a : Nat} (hO : IsSe X a) (C0 : CT p s m args meth c X cX3_bestStep 2 (some .int) RX3) (x1 : Int32) (h : HH) (H : Heap) (locs : List Loc) (ls : Array Slot) (res : Int32) (hl : lv_has ls 2 [(0, .ref a), (1, .int x1)]) (hW : WH X h H) (hS : va_S (xA X) s.heap H locs) (hs : sX3_bestStep_c0 a x1 h) (hres : fX3_bestStep_c0 a x1 h = res) : W p l e rmX3_bestStep s m args below meth c H locs 0 0 (MQ below (QI X res h) args s 0 0 (xA X)) (F0 m 0 ls []) := by
  obtain ⟨hx, hb, hr, hlk, hml, hown, hts, hK⟩ := id C0
  refine lv_iload_n hx hb dX3_bestStep_0 rfl (lv_at hl 1 rfl) ?_
  refine lv_if_lt (tgt := 21) hx hb dX3_bestStep_1 (by decide) (fun c1 => ?_) (fun c1 => ?_)
  · have hres := (if_pos c1).symm.trans hres
    have hs := And.left hs c1
    refine lv_iconst (v := (-1)) hx hb dX3_bestStep_21 (by decide) ?_
    subst hres
    exact kr_i hx hb hr hlk hK hW hS dX3_bestStep_22
  · have hres := (if_neg c1).symm.trans hres
    have hs := And.right hs c1
    refine lv_iload_n hx hb dX3_bestStep_4 rfl (lv_at hl 1 rfl) ?_
    refine lv_aload_n hx hb dX3_bestStep_5 rfl (lv_at hl 0 rfl) ?_
    refine g3_7 hx hb hts hown hK hW hO.1 (hts _ q1_163) dX3_bestStep_6 ?_
    refine lv_icmp_ge (tgt := 21) hx hb dX3_bestStep_9 (by decide) (fun c2 => ?_) (fun c2 => ?_)
    · have hres := (if_pos c2).symm.trans hres
      have hs := And.left hs c2
      refine lv_iconst (v := (-1)) hx hb dX3_bestStep_21 (by decide) ?_
      subst hres
      exact kr_i hx hb hr hlk hK hW hS dX3_bestStep_22
    · have hres := (if_neg c2).symm.trans hres
      have hs := And.right hs c2
      refine lv_aload_n hx hb dX3_bestStep_12 rfl (lv_at hl 0 rfl) ?_
      refine g3_5 hx hb hts hown hK hW hO.1 (hts _ q1_161) dX3_bestStep_13 ?_
      refine lv_iload_n hx hb dX3_bestStep_16 rfl (lv_at hl 1 rfl) ?_
      have hi3 := hs
      refine kb_iald hx hb hK hW hO.2.2.2.2.2.2.2.1 (k := x1.toNatClampNeg) rfl hi3 dX3_bestStep_17 ?_
      refine lv_goto (tgt := 22) hx hb dX3_bestStep_18 (by decide) ?_
      subst hres
      exact kr_i hx hb hr hlk hK hW hS dX3_bestStep_22
def fX3_bestStep (a : Nat) (x1 : Int32) (h : HH) : Int32 := fX3_bestStep_c0 a x1 h
def sX3_bestStep (a : Nat) (x1 : Int32) (h : HH) : Prop := sX3_bestStep_c0 a x1 h
set_option maxRecDepth 100000 in
set_option maxHeartbeats 4000000 in
theorem kX3_bestStep (l : Launch) (X : Cx) (h : HH) (a : Nat) (x1 : Int32) (hO : IsSe X a) (hs : sX3_bestStep a x1 h) : Met l yX3_bestStep vX3_bestStep rmX3_bestStep (va_Pc [.ref a, .int x1] (fun U => WS X h U)) (QI X (fX3_bestStep a x1 h) h) 0 0 (xA X) := by
  refine Met.ofW (cc := cX3_bestStep) (maxL := 2) (ret := some .int) (by decide) rfl ?_
  intro p e s m args below meth c s₁ B hml hv
  obtain ⟨rfl, hW, hK⟩ := hv
  have hl := lv_entry ([.ref a, .int x1]) (n := 2) (Nat.le_of_ble_eq_true rfl)
  rw [lg_entry_eq]
  generalize (lg_sl ([.ref a, .int x1]) ++ List.replicate (2 - (lg_sl ([.ref a, .int x1])).length) Slot.unset).toArray = ls at hl ⊢
  have hl : lv_has ls 2 [(0, .ref a), (1, .int x1)] := hl
  exact xX3_bestStep_c0 hO ⟨B.exec, B.bytes, B.returns, B.notSynchronized, hml, findClass_of_methodNamed B.named, fun w hw => atoms_spec (ws := vX3_bestStep) B.pre w (List.mem_cons_of_mem _ hw), hK⟩ x1 h _ _ ls _ (lv_sub hl [0, 1] rfl) hW va_S.rf hs rfl
