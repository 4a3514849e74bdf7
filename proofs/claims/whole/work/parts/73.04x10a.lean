-- X10_setAt
theorem lX10_setAt_1 : (Cond.fieldLink RX10 271 "NoWhen" "SET_AT" "[I") ∈ wsX10_setAt := List.mem_of_getElem? (i := 1) (by rfl)
abbrev rm_X10_setAt : Room := ({ frames := 0, cells := 0, slots := 0, locals := 0 } : Room)
set_option maxHeartbeats 8000000 in
set_option maxRecDepth 100000 in
theorem k_X10_setAt {p : Program} {l : Launch} {e : Env} {s : State} {m : MethodId} {args : Array Value} {below : List Frame} {meth : Method} {c : Code} {dC : Nat → ClassId} {dI : Nat → Nat → Nat} {cyI cyJ cyZ cyH : ClassId} {A : Nat → Prop} {ZZ : State → Prop} {Q : Int32 → Prop} (hx : p.tables.exec = Jvm.exec) (hb : c.code = cX10_setAt) (hml : c.maxLocals = 1) (hown : s.vm.findClass RX10 = some m.cls) (hts : ∀ w ∈ wsX10_setAt, w.before args s = true) (hK : va_K (dC, dI) vwCl [(cyI, .int), (cyJ, .long), (cyZ, .boolean), (cyH, .object "NoWhen$History")] s) (hA : ∀ q : Nat, s.heap.size ≤ q → A q) (hTb : nw_tb A s s.heap) (kR : ∀ (pc : Nat) (r : Int32) (H : Heap) (locs : List Loc) (ls : Array Slot), decode cX10_setAt pc = .ok (.ireturn, 1) → va_P (dC, dI) vwCl [] H → va_D A [] → va_S A s.heap H locs → Q r → W p l e rm_X10_setAt s m args below meth c H locs 0 0 ZZ (F0 m pc ls [.int r])) (p0 : Int32) (H : Heap) (locs : List Loc) (ls : Array Slot) (hP : va_P (dC, dI) vwCl [] H) (hD : va_D A []) (hS : va_S A s.heap H locs) (hl : lv_has ls 1 [(0, .int p0)]) (hw : wp_X10_setAt p0 Q) : W p l e rm_X10_setAt s m args below meth c H locs 0 0 ZZ (F0 m 0 ls []) := by
  obtain ⟨⟨t_SETS, hZ_SETS, hT_SETS⟩, ⟨t_SET_AT, hZ_SET_AT, hT_SET_AT⟩, ⟨t_PLACE_OF, hZ_PLACE_OF, hT_PLACE_OF⟩, ⟨adK, adV, hStr⟩, hNw⟩ := id hTb
  unfold wp_X10_setAt at hw
  refine va_gets hx hb hZ_SET_AT hS hown (hts _ (lX10_setAt_1)) (fun _ h9 => h9) dX10_setAt_0 ?_
  refine lv_iload_n hx hb dX10_setAt_3 rfl (lv_at hl 0 rfl) ?_
  refine lv_bipush (v := 27) hx hb dX10_setAt_4 (by decide) ?_
  refine lv_irem hx hb dX10_setAt_6 (by decide) ?_
  obtain ⟨h_1, hw⟩ := hw
  refine va_ti hx hb hT_SET_AT hS h_1 rfl dX10_setAt_7 ?_
  refine va_gets hx hb hZ_SET_AT hS hown (hts _ (lX10_setAt_1)) (fun _ h9 => h9) dX10_setAt_8 ?_
  refine lv_iload_n hx hb dX10_setAt_11 rfl (lv_at hl 0 rfl) ?_
  refine lv_bipush (v := 27) hx hb dX10_setAt_12 (by decide) ?_
  refine lv_idiv hx hb dX10_setAt_14 (by decide) ?_
  obtain ⟨h_2, hw⟩ := hw
  refine va_ti hx hb hT_SET_AT hS h_2 rfl dX10_setAt_15 ?_
  refine lv_bipush (v := 6) hx hb dX10_setAt_16 (by decide) ?_
  refine lv_ishl hx hb dX10_setAt_18 ?_
  refine lv_ior hx hb dX10_setAt_19 ?_
  exact kR 20 ((nw_SET_AT (p0 - p0 / (27 : Int32) * (27 : Int32)).toNatClampNeg) ||| ((nw_SET_AT (p0 / (27 : Int32)).toNatClampNeg) <<< ((6 : Int32) &&& 31))) H locs ls dX10_setAt_20 hP hD hS hw
set_option maxHeartbeats 8000000 in
set_option maxRecDepth 100000 in
theorem c_X10_setAt (l : Launch) (dC : Nat → ClassId) (dI : Nat → Nat → Nat) (cyI cyJ cyZ cyH : ClassId) (sz : Nat) (p0 : Int32) (Q : Int32 → Prop) (hw : wp_X10_setAt p0 Q) : Met l yX10_setAt wsX10_setAt rm_X10_setAt (va_Pc [.int p0] (fun U => U.heap.size = sz ∧ va_P (dC, dI) vwCl [] U.heap ∧ va_K (dC, dI) vwCl [(cyI, .int), (cyJ, .long), (cyZ, .boolean), (cyH, .object "NoWhen$History")] U ∧ va_D (fun _ => True) [] ∧ nw_tb (va_A [] sz) U U.heap)) (va_Qi (fun (r : Int32) (u : Unit) => Q r) (fun (u : Unit) (t : State) => va_P (dC, dI) vwCl [] t.heap ∧ va_K (dC, dI) vwCl [(cyI, .int), (cyJ, .long), (cyZ, .boolean), (cyH, .object "NoWhen$History")] t ∧ va_D (va_A [] sz) []) (va_A [] sz)) 0 0 (va_A [] sz) := by
  refine Met.ofW (cc := cX10_setAt) (maxL := 1) (ret := (some .int)) (by decide) rfl ?_
  intro p e s m args below meth c s₁ B hml hv
  obtain ⟨rfl, hsz, hP, hK, hD0, hTb⟩ := hv
  have hx := B.exec
  have hb := B.bytes
  have hr := B.returns
  have hts := atoms_spec (ws := wsX10_setAt) B.pre
  have hown : s.vm.findClass RX10 = some m.cls := findClass_of_methodNamed B.named
  have hlocks := B.notSynchronized
  subst hsz
  have hD := hD0.self (sz := s.heap.size)
  generalize hAe : va_A [] s.heap.size = A at hD hTb ⊢
  have hA : ∀ q : Nat, s.heap.size ≤ q → A q := fun q h => by rw [← hAe]; exact Or.inr h
  have hS : va_S A s.heap s.heap [] := va_S.rf
  have hl := lv_entry ([.int p0]) (n := 1) (Nat.le_of_ble_eq_true rfl)
  rw [lg_entry_eq]
  generalize (lg_sl ([.int p0]) ++ List.replicate (1 - (lg_sl ([.int p0])).length) Slot.unset).toArray = ls at hl ⊢
  have hl : lv_has ls 1 [(0, .int p0)] := hl
  refine k_X10_setAt hx hb hml hown hts hK hA hTb (fun pc r H locs ls hd hP hD hS hq => ?_) p0 s.heap [] ls hP hD hS hl hw
  exact W.iret (v := r) hx hb hr (fun t ht hW => ⟨⟨r, (), rfl, hq, by rw [ht]; exact hP, va_K.moved hW.alike hK, hD⟩, hS.F ht⟩) hS.2.2 hd
-- X10_placeOf
theorem lX10_placeOf_1 : (Cond.fieldLink RX10 274 "NoWhen" "PLACE_OF" "[I") ∈ wsX10_placeOf := List.mem_of_getElem? (i := 1) (by rfl)
abbrev rm_X10_placeOf : Room := ({ frames := 0, cells := 0, slots := 0, locals := 0 } : Room)
set_option maxHeartbeats 8000000 in
set_option maxRecDepth 100000 in
theorem k_X10_placeOf {p : Program} {l : Launch} {e : Env} {s : State} {m : MethodId} {args : Array Value} {below : List Frame} {meth : Method} {c : Code} {dC : Nat → ClassId} {dI : Nat → Nat → Nat} {cyI cyJ cyZ cyH : ClassId} {A : Nat → Prop} {ZZ : State → Prop} {Q : Int32 → Prop} (hx : p.tables.exec = Jvm.exec) (hb : c.code = cX10_placeOf) (hml : c.maxLocals = 1) (hown : s.vm.findClass RX10 = some m.cls) (hts : ∀ w ∈ wsX10_placeOf, w.before args s = true) (hK : va_K (dC, dI) vwCl [(cyI, .int), (cyJ, .long), (cyZ, .boolean), (cyH, .object "NoWhen$History")] s) (hA : ∀ q : Nat, s.heap.size ≤ q → A q) (hTb : nw_tb A s s.heap) (kR : ∀ (pc : Nat) (r : Int32) (H : Heap) (locs : List Loc) (ls : Array Slot), decode cX10_placeOf pc = .ok (.ireturn, 1) → va_P (dC, dI) vwCl [] H → va_D A [] → va_S A s.heap H locs → Q r → W p l e rm_X10_placeOf s m args below meth c H locs 0 0 ZZ (F0 m pc ls [.int r])) (p0 : Int32) (H : Heap) (locs : List Loc) (ls : Array Slot) (hP : va_P (dC, dI) vwCl [] H) (hD : va_D A []) (hS : va_S A s.heap H locs) (hl : lv_has ls 1 [(0, .int p0)]) (hw : wp_X10_placeOf p0 Q) : W p l e rm_X10_placeOf s m args below meth c H locs 0 0 ZZ (F0 m 0 ls []) := by
  obtain ⟨⟨t_SETS, hZ_SETS, hT_SETS⟩, ⟨t_SET_AT, hZ_SET_AT, hT_SET_AT⟩, ⟨t_PLACE_OF, hZ_PLACE_OF, hT_PLACE_OF⟩, ⟨adK, adV, hStr⟩, hNw⟩ := id hTb
  unfold wp_X10_placeOf at hw
  refine va_gets hx hb hZ_PLACE_OF hS hown (hts _ (lX10_placeOf_1)) (fun _ h9 => h9) dX10_placeOf_0 ?_
  refine lv_iload_n hx hb dX10_placeOf_3 rfl (lv_at hl 0 rfl) ?_
  refine lv_bipush (v := 63) hx hb dX10_placeOf_4 (by decide) ?_
  refine lv_iand hx hb dX10_placeOf_6 ?_
  obtain ⟨h_1, hw⟩ := hw
  refine va_ti hx hb hT_PLACE_OF hS h_1 rfl dX10_placeOf_7 ?_
  refine lv_bipush (v := 27) hx hb dX10_placeOf_8 (by decide) ?_
  refine va_gets hx hb hZ_PLACE_OF hS hown (hts _ (lX10_placeOf_1)) (fun _ h9 => h9) dX10_placeOf_10 ?_
  refine lv_iload_n hx hb dX10_placeOf_13 rfl (lv_at hl 0 rfl) ?_
  refine lv_bipush (v := 6) hx hb dX10_placeOf_14 (by decide) ?_
  refine lv_ishr hx hb dX10_placeOf_16 ?_
  refine lv_bipush (v := 63) hx hb dX10_placeOf_17 (by decide) ?_
  refine lv_iand hx hb dX10_placeOf_19 ?_
  obtain ⟨h_2, hw⟩ := hw
  refine va_ti hx hb hT_PLACE_OF hS h_2 rfl dX10_placeOf_20 ?_
  refine lv_imul hx hb dX10_placeOf_21 ?_
  refine lv_iadd hx hb dX10_placeOf_22 ?_
  exact kR 23 ((nw_PLACE_OF (p0 &&& (63 : Int32)).toNatClampNeg) + ((27 : Int32) * (nw_PLACE_OF ((p0 >>> ((6 : Int32) &&& 31)) &&& (63 : Int32)).toNatClampNeg))) H locs ls dX10_placeOf_23 hP hD hS hw
set_option maxHeartbeats 8000000 in
set_option maxRecDepth 100000 in
theorem c_X10_placeOf (l : Launch) (dC : Nat → ClassId) (dI : Nat → Nat → Nat) (cyI cyJ cyZ cyH : ClassId) (sz : Nat) (p0 : Int32) (Q : Int32 → Prop) (hw : wp_X10_placeOf p0 Q) : Met l yX10_placeOf wsX10_placeOf rm_X10_placeOf (va_Pc [.int p0] (fun U => U.heap.size = sz ∧ va_P (dC, dI) vwCl [] U.heap ∧ va_K (dC, dI) vwCl [(cyI, .int), (cyJ, .long), (cyZ, .boolean), (cyH, .object "NoWhen$History")] U ∧ va_D (fun _ => True) [] ∧ nw_tb (va_A [] sz) U U.heap)) (va_Qi (fun (r : Int32) (u : Unit) => Q r) (fun (u : Unit) (t : State) => va_P (dC, dI) vwCl [] t.heap ∧ va_K (dC, dI) vwCl [(cyI, .int), (cyJ, .long), (cyZ, .boolean), (cyH, .object "NoWhen$History")] t ∧ va_D (va_A [] sz) []) (va_A [] sz)) 0 0 (va_A [] sz) := by
  refine Met.ofW (cc := cX10_placeOf) (maxL := 1) (ret := (some .int)) (by decide) rfl ?_
  intro p e s m args below meth c s₁ B hml hv
  obtain ⟨rfl, hsz, hP, hK, hD0, hTb⟩ := hv
  have hx := B.exec
  have hb := B.bytes
  have hr := B.returns
  have hts := atoms_spec (ws := wsX10_placeOf) B.pre
  have hown : s.vm.findClass RX10 = some m.cls := findClass_of_methodNamed B.named
  have hlocks := B.notSynchronized
  subst hsz
  have hD := hD0.self (sz := s.heap.size)
  generalize hAe : va_A [] s.heap.size = A at hD hTb ⊢
  have hA : ∀ q : Nat, s.heap.size ≤ q → A q := fun q h => by rw [← hAe]; exact Or.inr h
  have hS : va_S A s.heap s.heap [] := va_S.rf
  have hl := lv_entry ([.int p0]) (n := 1) (Nat.le_of_ble_eq_true rfl)
  rw [lg_entry_eq]
  generalize (lg_sl ([.int p0]) ++ List.replicate (1 - (lg_sl ([.int p0])).length) Slot.unset).toArray = ls at hl ⊢
  have hl : lv_has ls 1 [(0, .int p0)] := hl
  refine k_X10_placeOf hx hb hml hown hts hK hA hTb (fun pc r H locs ls hd hP hD hS hq => ?_) p0 s.heap [] ls hP hD hS hl hw
  exact W.iret (v := r) hx hb hr (fun t ht hW => ⟨⟨r, (), rfl, hq, by rw [ht]; exact hP, va_K.moved hW.alike hK, hD⟩, hS.F ht⟩) hS.2.2 hd
-- J6_bitCount_0f7a4
theorem lJ6_bitCount_0f7a4_1 : (Cond.constant RJ6 265 (1431655765)) ∈ wsJ6_bitCount_0f7a4 := List.mem_of_getElem? (i := 1) (by rfl)
theorem lJ6_bitCount_0f7a4_2 : (Cond.constant RJ6 266 (858993459)) ∈ wsJ6_bitCount_0f7a4 := List.mem_of_getElem? (i := 2) (by rfl)
theorem lJ6_bitCount_0f7a4_3 : (Cond.constant RJ6 267 (252645135)) ∈ wsJ6_bitCount_0f7a4 := List.mem_of_getElem? (i := 3) (by rfl)
abbrev rm_J6_bitCount_0f7a4 : Room := ({ frames := 0, cells := 0, slots := 0, locals := 0 } : Room)
set_option maxHeartbeats 8000000 in
set_option maxRecDepth 100000 in
theorem k_J6_bitCount_0f7a4 {p : Program} {l : Launch} {e : Env} {s : State} {m : MethodId} {args : Array Value} {below : List Frame} {meth : Method} {c : Code} {dC : Nat → ClassId} {dI : Nat → Nat → Nat} {cyI cyJ cyZ cyH : ClassId} {A : Nat → Prop} {ZZ : State → Prop} {Q : Int32 → Prop} (hx : p.tables.exec = Jvm.exec) (hb : c.code = cJ6_bitCount_0f7a4) (hml : c.maxLocals = 1) (hown : s.vm.findClass RJ6 = some m.cls) (hts : ∀ w ∈ wsJ6_bitCount_0f7a4, w.before args s = true) (hK : va_K (dC, dI) vwCl [(cyI, .int), (cyJ, .long), (cyZ, .boolean), (cyH, .object "NoWhen$History")] s) (hA : ∀ q : Nat, s.heap.size ≤ q → A q) (kR : ∀ (pc : Nat) (r : Int32) (H : Heap) (locs : List Loc) (ls : Array Slot), decode cJ6_bitCount_0f7a4 pc = .ok (.ireturn, 1) → va_P (dC, dI) vwCl [] H → va_D A [] → va_S A s.heap H locs → Q r → W p l e rm_J6_bitCount_0f7a4 s m args below meth c H locs 0 0 ZZ (F0 m pc ls [.int r])) (p0 : Int32) (H : Heap) (locs : List Loc) (ls : Array Slot) (hP : va_P (dC, dI) vwCl [] H) (hD : va_D A []) (hS : va_S A s.heap H locs) (hl : lv_has ls 1 [(0, .int p0)]) (hw : wp_J6_bitCount_0f7a4 p0 Q) : W p l e rm_J6_bitCount_0f7a4 s m args below meth c H locs 0 0 ZZ (F0 m 0 ls []) := by
  unfold wp_J6_bitCount_0f7a4 at hw
  refine lv_iload_n hx hb dJ6_bitCount_0f7a4_0 rfl (lv_at hl 0 rfl) ?_
  refine lv_iload_n hx hb dJ6_bitCount_0f7a4_1 rfl (lv_at hl 0 rfl) ?_
  refine lv_iconst (v := 1) hx hb dJ6_bitCount_0f7a4_2 (by decide) ?_
  refine lv_iushr hx hb dJ6_bitCount_0f7a4_3 rfl ?_
  refine lv_ldcw (v := 1431655765) hx hb hown (hts _ (lJ6_bitCount_0f7a4_1)) dJ6_bitCount_0f7a4_4 ?_
  refine lv_iand hx hb dJ6_bitCount_0f7a4_7 ?_
  refine lv_isub hx hb dJ6_bitCount_0f7a4_8 ?_
  refine lv_topi (fun y_1 ey_1 => ?_)
  replace hw := hw y_1 ey_1
  refine lv_istore_n (lv' := [(0, .int y_1)]) hx hb dJ6_bitCount_0f7a4_9 rfl hl (by decide) rfl (fun ls hl => ?_)
  refine lv_iload_n hx hb dJ6_bitCount_0f7a4_10 rfl (lv_at hl 0 rfl) ?_
  refine lv_ldcw (v := 858993459) hx hb hown (hts _ (lJ6_bitCount_0f7a4_2)) dJ6_bitCount_0f7a4_11 ?_
  refine lv_iand hx hb dJ6_bitCount_0f7a4_14 ?_
  refine lv_iload_n hx hb dJ6_bitCount_0f7a4_15 rfl (lv_at hl 0 rfl) ?_
  refine lv_iconst (v := 2) hx hb dJ6_bitCount_0f7a4_16 (by decide) ?_
  refine lv_iushr hx hb dJ6_bitCount_0f7a4_17 rfl ?_
  refine lv_ldcw (v := 858993459) hx hb hown (hts _ (lJ6_bitCount_0f7a4_2)) dJ6_bitCount_0f7a4_18 ?_
  refine lv_iand hx hb dJ6_bitCount_0f7a4_21 ?_
  refine lv_iadd hx hb dJ6_bitCount_0f7a4_22 ?_
  refine lv_topi (fun y_2 ey_2 => ?_)
  replace hw := hw y_2 ey_2
  refine lv_istore_n (lv' := [(0, .int y_2)]) hx hb dJ6_bitCount_0f7a4_23 rfl hl (by decide) rfl (fun ls hl => ?_)
  refine lv_iload_n hx hb dJ6_bitCount_0f7a4_24 rfl (lv_at hl 0 rfl) ?_
  refine lv_iload_n hx hb dJ6_bitCount_0f7a4_25 rfl (lv_at hl 0 rfl) ?_
  refine lv_iconst (v := 4) hx hb dJ6_bitCount_0f7a4_26 (by decide) ?_
  refine lv_iushr hx hb dJ6_bitCount_0f7a4_27 rfl ?_
  refine lv_iadd hx hb dJ6_bitCount_0f7a4_28 ?_
  refine lv_ldcw (v := 252645135) hx hb hown (hts _ (lJ6_bitCount_0f7a4_3)) dJ6_bitCount_0f7a4_29 ?_
  refine lv_iand hx hb dJ6_bitCount_0f7a4_32 ?_
  refine lv_topi (fun y_3 ey_3 => ?_)
  replace hw := hw y_3 ey_3
  refine lv_istore_n (lv' := [(0, .int y_3)]) hx hb dJ6_bitCount_0f7a4_33 rfl hl (by decide) rfl (fun ls hl => ?_)
  refine lv_iload_n hx hb dJ6_bitCount_0f7a4_34 rfl (lv_at hl 0 rfl) ?_
  refine lv_iload_n hx hb dJ6_bitCount_0f7a4_35 rfl (lv_at hl 0 rfl) ?_
  refine lv_bipush (v := 8) hx hb dJ6_bitCount_0f7a4_36 (by decide) ?_
  refine lv_iushr hx hb dJ6_bitCount_0f7a4_38 rfl ?_
  refine lv_iadd hx hb dJ6_bitCount_0f7a4_39 ?_
  refine lv_topi (fun y_4 ey_4 => ?_)
  replace hw := hw y_4 ey_4
  refine lv_istore_n (lv' := [(0, .int y_4)]) hx hb dJ6_bitCount_0f7a4_40 rfl hl (by decide) rfl (fun ls hl => ?_)
  refine lv_iload_n hx hb dJ6_bitCount_0f7a4_41 rfl (lv_at hl 0 rfl) ?_
  refine lv_iload_n hx hb dJ6_bitCount_0f7a4_42 rfl (lv_at hl 0 rfl) ?_
  refine lv_bipush (v := 16) hx hb dJ6_bitCount_0f7a4_43 (by decide) ?_
  refine lv_iushr hx hb dJ6_bitCount_0f7a4_45 rfl ?_
  refine lv_iadd hx hb dJ6_bitCount_0f7a4_46 ?_
  refine lv_topi (fun y_5 ey_5 => ?_)
  replace hw := hw y_5 ey_5
  refine lv_istore_n (lv' := [(0, .int y_5)]) hx hb dJ6_bitCount_0f7a4_47 rfl hl (by decide) rfl (fun ls hl => ?_)
  refine lv_iload_n hx hb dJ6_bitCount_0f7a4_48 rfl (lv_at hl 0 rfl) ?_
  refine lv_bipush (v := 63) hx hb dJ6_bitCount_0f7a4_49 (by decide) ?_
  refine lv_iand hx hb dJ6_bitCount_0f7a4_51 ?_
  exact kR 52 (y_5 &&& (63 : Int32)) H locs ls dJ6_bitCount_0f7a4_52 hP hD hS hw
set_option maxHeartbeats 8000000 in
set_option maxRecDepth 100000 in
theorem c_J6_bitCount_0f7a4 (l : Launch) (dC : Nat → ClassId) (dI : Nat → Nat → Nat) (cyI cyJ cyZ cyH : ClassId) (sz : Nat) (p0 : Int32) (Q : Int32 → Prop) (hw : wp_J6_bitCount_0f7a4 p0 Q) : Met l yJ6_bitCount_0f7a4 wsJ6_bitCount_0f7a4 rm_J6_bitCount_0f7a4 (va_Pc [.int p0] (fun U => U.heap.size = sz ∧ va_P (dC, dI) vwCl [] U.heap ∧ va_K (dC, dI) vwCl [(cyI, .int), (cyJ, .long), (cyZ, .boolean), (cyH, .object "NoWhen$History")] U ∧ va_D (fun _ => True) [])) (va_Qi (fun (r : Int32) (u : Unit) => Q r) (fun (u : Unit) (t : State) => va_P (dC, dI) vwCl [] t.heap ∧ va_K (dC, dI) vwCl [(cyI, .int), (cyJ, .long), (cyZ, .boolean), (cyH, .object "NoWhen$History")] t ∧ va_D (va_A [] sz) []) (va_A [] sz)) 0 0 (va_A [] sz) := by
  refine Met.ofW (cc := cJ6_bitCount_0f7a4) (maxL := 1) (ret := (some .int)) (by decide) rfl ?_
  intro p e s m args below meth c s₁ B hml hv
  obtain ⟨rfl, hsz, hP, hK, hD0⟩ := hv
  have hx := B.exec
  have hb := B.bytes
  have hr := B.returns
  have hts := atoms_spec (ws := wsJ6_bitCount_0f7a4) B.pre
  have hown : s.vm.findClass RJ6 = some m.cls := findClass_of_methodNamed B.named
  have hlocks := B.notSynchronized
  subst hsz
  have hD := hD0.self (sz := s.heap.size)
  generalize hAe : va_A [] s.heap.size = A at hD ⊢
  have hA : ∀ q : Nat, s.heap.size ≤ q → A q := fun q h => by rw [← hAe]; exact Or.inr h
  have hS : va_S A s.heap s.heap [] := va_S.rf
  have hl := lv_entry ([.int p0]) (n := 1) (Nat.le_of_ble_eq_true rfl)
  rw [lg_entry_eq]
  generalize (lg_sl ([.int p0]) ++ List.replicate (1 - (lg_sl ([.int p0])).length) Slot.unset).toArray = ls at hl ⊢
  have hl : lv_has ls 1 [(0, .int p0)] := hl
  refine k_J6_bitCount_0f7a4 hx hb hml hown hts hK hA (fun pc r H locs ls hd hP hD hS hq => ?_) p0 s.heap [] ls hP hD hS hl hw
  exact W.iret (v := r) hx hb hr (fun t ht hW => ⟨⟨r, (), rfl, hq, by rw [ht]; exact hP, va_K.moved hW.alike hK, hD⟩, hS.F ht⟩) hS.2.2 hd
