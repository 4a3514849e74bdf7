-- X4_empty
theorem lX4_empty_1 : (Cond.fieldLink RX4 33 "NoWhen$History" "things" "I") ∈ wsX4_empty := List.mem_of_getElem? (i := 1) (by rfl)
theorem lX4_empty_2 : (Cond.fieldLink RX4 37 "NoWhen$History" "sayings" "I") ∈ wsX4_empty := List.mem_of_getElem? (i := 2) (by rfl)
set_option maxRecDepth 20000 in
theorem iX4_empty_X4 : ∀ w ∈ wsX40, w ∈ wsX4_empty := by decide +kernel
abbrev rm_X4_empty : Room := ({ frames := 0, cells := 0, slots := 0, locals := 0 } : Room)
set_option maxHeartbeats 8000000 in
set_option maxRecDepth 100000 in
theorem k_X4_empty {p : Program} {l : Launch} {e : Env} {s : State} {m : MethodId} {args : Array Value} {below : List Frame} {meth : Method} {c : Code} {dC : Nat → ClassId} {dI : Nat → Nat → Nat} {cyI cyJ cyZ cyH : ClassId} {A : Nat → Prop} {ZZ : State → Prop} {q_this q_whose q_story q_watch q_kind q_a q_b q_by : Nat} {Q : Int32 → Int32 → Prop} (hx : p.tables.exec = Jvm.exec) (hb : c.code = cX4_empty) (hml : c.maxLocals = 1) (hown : s.vm.findClass RX4 = some m.cls) (hts : ∀ w ∈ wsX4_empty, w.before args s = true) (hK : va_K (dC, dI) vwCl [(cyI, .int), (cyJ, .long), (cyZ, .boolean), (cyH, .object "NoWhen$History")] s) (hA : ∀ q : Nat, s.heap.size ≤ q → A q) (kR : ∀ (pc : Nat) (c_things : Int32) (c_sayings : Int32) (H : Heap) (locs : List Loc) (ls : Array Slot), decode cX4_empty pc = .ok (.return_, 1) → va_P (dC, dI) vwCl [(q_this, .inr (4, [.int c_things, .ref q_whose, .ref q_story, .ref q_watch, .int c_sayings, .ref q_kind, .ref q_a, .ref q_b, .ref q_by]))] H → va_D A [(q_this, .inr (4, [.int c_things, .ref q_whose, .ref q_story, .ref q_watch, .int c_sayings, .ref q_kind, .ref q_a, .ref q_b, .ref q_by]))] → va_S A s.heap H locs → Q c_things c_sayings → W p l e rm_X4_empty s m args below meth c H locs 0 0 ZZ (F0 m pc ls [])) (c_things : Int32) (c_sayings : Int32) (H : Heap) (locs : List Loc) (ls : Array Slot) (hP : va_P (dC, dI) vwCl [(q_this, .inr (4, [.int c_things, .ref q_whose, .ref q_story, .ref q_watch, .int c_sayings, .ref q_kind, .ref q_a, .ref q_b, .ref q_by]))] H) (hD : va_D A [(q_this, .inr (4, [.int c_things, .ref q_whose, .ref q_story, .ref q_watch, .int c_sayings, .ref q_kind, .ref q_a, .ref q_b, .ref q_by]))]) (hS : va_S A s.heap H locs) (hl : lv_has ls 1 [(0, .ref q_this)]) (hw : wp_X4_empty c_things c_sayings Q) : W p l e rm_X4_empty s m args below meth c H locs 0 0 ZZ (F0 m 0 ls []) := by
  unfold wp_X4_empty at hw
  refine lv_aload_n hx hb dX4_empty_0 rfl (lv_at hl 0 rfl) ?_
  refine lv_iconst (v := 0) hx hb dX4_empty_1 (by decide) ?_
  refine va_put (D := (dC, dI)) (ci := 4) (v := .int (0 : Int32)) (ty := .int) (C := RX4) (T := TX4) (N := 9) hx hb hts iX4_empty_X4 tyX4 tyX4_ok nmX4 hown hK hP hD hS 0 rfl rfl 0 (by decide) (hts _ (lX4_empty_1)) (fun _ h9 => h9) rfl (by decide +kernel) rfl rfl (Nat.le_of_ble_eq_true rfl) dX4_empty_2 (fun H locs hP hD hS => ?_)
  have hP : va_P (dC, dI) vwCl [(q_this, .inr (4, [.int (0 : Int32), .ref q_whose, .ref q_story, .ref q_watch, .int c_sayings, .ref q_kind, .ref q_a, .ref q_b, .ref q_by]))] H := hP
  have hD : va_D A [(q_this, .inr (4, [.int (0 : Int32), .ref q_whose, .ref q_story, .ref q_watch, .int c_sayings, .ref q_kind, .ref q_a, .ref q_b, .ref q_by]))] := hD
  refine lv_aload_n hx hb dX4_empty_5 rfl (lv_at hl 0 rfl) ?_
  refine lv_iconst (v := 0) hx hb dX4_empty_6 (by decide) ?_
  refine va_put (D := (dC, dI)) (ci := 4) (v := .int (0 : Int32)) (ty := .int) (C := RX4) (T := TX4) (N := 9) hx hb hts iX4_empty_X4 tyX4 tyX4_ok nmX4 hown hK hP hD hS 0 rfl rfl 4 (by decide) (hts _ (lX4_empty_2)) (fun _ h9 => h9) rfl (by decide +kernel) rfl rfl (Nat.le_of_ble_eq_true rfl) dX4_empty_7 (fun H locs hP hD hS => ?_)
  have hP : va_P (dC, dI) vwCl [(q_this, .inr (4, [.int (0 : Int32), .ref q_whose, .ref q_story, .ref q_watch, .int (0 : Int32), .ref q_kind, .ref q_a, .ref q_b, .ref q_by]))] H := hP
  have hD : va_D A [(q_this, .inr (4, [.int (0 : Int32), .ref q_whose, .ref q_story, .ref q_watch, .int (0 : Int32), .ref q_kind, .ref q_a, .ref q_b, .ref q_by]))] := hD
  exact kR 10 (0 : Int32) (0 : Int32) H locs ls dX4_empty_10 hP hD hS hw
set_option maxHeartbeats 8000000 in
set_option maxRecDepth 100000 in
theorem c_X4_empty (l : Launch) (dC : Nat → ClassId) (dI : Nat → Nat → Nat) (cyI cyJ cyZ cyH : ClassId) (q_this q_whose q_story q_watch q_kind q_a q_b q_by : Nat) (sz : Nat) (c_things : Int32) (c_sayings : Int32) (Q : Int32 → Int32 → Prop) (hw : wp_X4_empty c_things c_sayings Q) : Met l yX4_empty wsX4_empty rm_X4_empty (va_Pc [.ref q_this] (fun U => U.heap.size = sz ∧ va_P (dC, dI) vwCl [(q_this, .inr (4, [.int c_things, .ref q_whose, .ref q_story, .ref q_watch, .int c_sayings, .ref q_kind, .ref q_a, .ref q_b, .ref q_by]))] U.heap ∧ va_K (dC, dI) vwCl [(cyI, .int), (cyJ, .long), (cyZ, .boolean), (cyH, .object "NoWhen$History")] U ∧ va_D (fun _ => True) [(q_this, .inr (4, [.int c_things, .ref q_whose, .ref q_story, .ref q_watch, .int c_sayings, .ref q_kind, .ref q_a, .ref q_b, .ref q_by]))])) (va_Qv (fun (u : Int32 × Int32) => Q u.1 u.2) (fun (u : Int32 × Int32) (t : State) => va_P (dC, dI) vwCl [(q_this, .inr (4, [.int u.1, .ref q_whose, .ref q_story, .ref q_watch, .int u.2, .ref q_kind, .ref q_a, .ref q_b, .ref q_by]))] t.heap ∧ va_K (dC, dI) vwCl [(cyI, .int), (cyJ, .long), (cyZ, .boolean), (cyH, .object "NoWhen$History")] t ∧ va_D (va_A [(q_this, .inr (4, [.int c_things, .ref q_whose, .ref q_story, .ref q_watch, .int c_sayings, .ref q_kind, .ref q_a, .ref q_b, .ref q_by]))] sz) [(q_this, .inr (4, [.int u.1, .ref q_whose, .ref q_story, .ref q_watch, .int u.2, .ref q_kind, .ref q_a, .ref q_b, .ref q_by]))]) (va_A [(q_this, .inr (4, [.int c_things, .ref q_whose, .ref q_story, .ref q_watch, .int c_sayings, .ref q_kind, .ref q_a, .ref q_b, .ref q_by]))] sz)) 0 0 (va_A [(q_this, .inr (4, [.int c_things, .ref q_whose, .ref q_story, .ref q_watch, .int c_sayings, .ref q_kind, .ref q_a, .ref q_b, .ref q_by]))] sz) := by
  refine Met.ofW (cc := cX4_empty) (maxL := 1) (ret := none) (by decide) rfl ?_
  intro p e s m args below meth c s₁ B hml hv
  obtain ⟨rfl, hsz, hP, hK, hD0⟩ := hv
  have hx := B.exec
  have hb := B.bytes
  have hr := B.returns
  have hts := atoms_spec (ws := wsX4_empty) B.pre
  have hown : s.vm.findClass RX4 = some m.cls := findClass_of_methodNamed B.named
  have hlocks := B.notSynchronized
  subst hsz
  have hD := hD0.self (sz := s.heap.size)
  generalize hAe : va_A [(q_this, .inr (4, [.int c_things, .ref q_whose, .ref q_story, .ref q_watch, .int c_sayings, .ref q_kind, .ref q_a, .ref q_b, .ref q_by]))] s.heap.size = A at hD ⊢
  have hA : ∀ q : Nat, s.heap.size ≤ q → A q := fun q h => by rw [← hAe]; exact Or.inr h
  have hS : va_S A s.heap s.heap [] := va_S.rf
  have hl := lv_entry ([.ref q_this]) (n := 1) (Nat.le_of_ble_eq_true rfl)
  rw [lg_entry_eq]
  generalize (lg_sl ([.ref q_this]) ++ List.replicate (1 - (lg_sl ([.ref q_this])).length) Slot.unset).toArray = ls at hl ⊢
  have hl : lv_has ls 1 [(0, .ref q_this)] := hl
  refine k_X4_empty hx hb hml hown hts hK hA (fun pc c_things c_sayings H locs ls hd hP hD hS hq => ?_) c_things c_sayings s.heap [] ls hP hD hS hl hw
  exact W.vret hx hb hr (fun t ht hW => ⟨⟨(c_things, c_sayings), rfl, hq, by rw [ht]; exact hP, va_K.moved hW.alike hK, hD⟩, hS.F ht⟩) hS.2.2 hd
-- X4_addThing
theorem lX4_addThing_1 : (Cond.fieldLink RX4 33 "NoWhen$History" "things" "I") ∈ wsX4_addThing := List.mem_of_getElem? (i := 1) (by rfl)
theorem lX4_addThing_2 : (Cond.fieldLink RX4 9 "NoWhen$History" "whose" "[I") ∈ wsX4_addThing := List.mem_of_getElem? (i := 2) (by rfl)
theorem lX4_addThing_3 : (Cond.fieldLink RX4 15 "NoWhen$History" "story" "[I") ∈ wsX4_addThing := List.mem_of_getElem? (i := 3) (by rfl)
theorem lX4_addThing_4 : (Cond.fieldLink RX4 18 "NoWhen$History" "watch" "[I") ∈ wsX4_addThing := List.mem_of_getElem? (i := 4) (by rfl)
set_option maxRecDepth 20000 in
theorem iX4_addThing_X4 : ∀ w ∈ wsX40, w ∈ wsX4_addThing := by decide +kernel
abbrev rm_X4_addThing : Room := ({ frames := 0, cells := 0, slots := 0, locals := 0 } : Room)
set_option maxHeartbeats 8000000 in
set_option maxRecDepth 100000 in
theorem k_X4_addThing {p : Program} {l : Launch} {e : Env} {s : State} {m : MethodId} {args : Array Value} {below : List Frame} {meth : Method} {c : Code} {dC : Nat → ClassId} {dI : Nat → Nat → Nat} {cyI cyJ cyZ cyH : ClassId} {A : Nat → Prop} {ZZ : State → Prop} {q_this q_whose q_story q_watch q_kind q_a q_b q_by : Nat} {c_sayings : Int32} {Q : Int32 → Int32 → (Nat → Int32) → (Nat → Int32) → (Nat → Int32) → Prop} (hx : p.tables.exec = Jvm.exec) (hb : c.code = cX4_addThing) (hml : c.maxLocals = 2) (hown : s.vm.findClass RX4 = some m.cls) (hts : ∀ w ∈ wsX4_addThing, w.before args s = true) (hK : va_K (dC, dI) vwCl [(cyI, .int), (cyJ, .long), (cyZ, .boolean), (cyH, .object "NoWhen$History")] s) (hA : ∀ q : Nat, s.heap.size ≤ q → A q) (kR : ∀ (pc : Nat) (r : Int32) (c_things : Int32) (c_whose : Nat → Int32) (c_story : Nat → Int32) (c_watch : Nat → Int32) (H : Heap) (locs : List Loc) (ls : Array Slot), decode cX4_addThing pc = .ok (.ireturn, 1) → va_P (dC, dI) vwCl [(q_this, .inr (4, [.int c_things, .ref q_whose, .ref q_story, .ref q_watch, .int c_sayings, .ref q_kind, .ref q_a, .ref q_b, .ref q_by])), (q_whose, .inl (cyI, (6, .inl c_whose))), (q_story, .inl (cyI, (6, .inl c_story))), (q_watch, .inl (cyI, (12, .inl c_watch)))] H → va_D A [(q_this, .inr (4, [.int c_things, .ref q_whose, .ref q_story, .ref q_watch, .int c_sayings, .ref q_kind, .ref q_a, .ref q_b, .ref q_by])), (q_whose, .inl (cyI, (6, .inl c_whose))), (q_story, .inl (cyI, (6, .inl c_story))), (q_watch, .inl (cyI, (12, .inl c_watch)))] → va_S A s.heap H locs → Q r c_things c_whose c_story c_watch → W p l e rm_X4_addThing s m args below meth c H locs 0 0 ZZ (F0 m pc ls [.int r])) (c_things : Int32) (c_whose : Nat → Int32) (c_story : Nat → Int32) (c_watch : Nat → Int32) (H : Heap) (locs : List Loc) (ls : Array Slot) (hP : va_P (dC, dI) vwCl [(q_this, .inr (4, [.int c_things, .ref q_whose, .ref q_story, .ref q_watch, .int c_sayings, .ref q_kind, .ref q_a, .ref q_b, .ref q_by])), (q_whose, .inl (cyI, (6, .inl c_whose))), (q_story, .inl (cyI, (6, .inl c_story))), (q_watch, .inl (cyI, (12, .inl c_watch)))] H) (hD : va_D A [(q_this, .inr (4, [.int c_things, .ref q_whose, .ref q_story, .ref q_watch, .int c_sayings, .ref q_kind, .ref q_a, .ref q_b, .ref q_by])), (q_whose, .inl (cyI, (6, .inl c_whose))), (q_story, .inl (cyI, (6, .inl c_story))), (q_watch, .inl (cyI, (12, .inl c_watch)))]) (hS : va_S A s.heap H locs) (hl : lv_has ls 2 [(0, .ref q_this)]) (hw : wp_X4_addThing c_things c_whose c_story c_watch Q) : W p l e rm_X4_addThing s m args below meth c H locs 0 0 ZZ (F0 m 0 ls []) := by
  unfold wp_X4_addThing at hw
  refine lv_aload_n hx hb dX4_addThing_0 rfl (lv_at hl 0 rfl) ?_
  refine va_get (D := (dC, dI)) (ci := 4) (v := .int c_things) (C := RX4) (T := TX4) (N := 9) hx hb hts iX4_addThing_X4 hown hK hP 0 rfl rfl 0 (by decide) (hts _ (lX4_addThing_1)) (fun _ h9 => h9) rfl dX4_addThing_1 ?_
  refine lv_istore_n (lv' := [(1, .int c_things), (0, .ref q_this)]) hx hb dX4_addThing_4 rfl hl (by decide) rfl (fun ls hl => ?_)
  refine lv_aload_n hx hb dX4_addThing_5 rfl (lv_at hl 1 rfl) ?_
  refine va_get (D := (dC, dI)) (ci := 4) (v := .ref q_whose) (C := RX4) (T := TX4) (N := 9) hx hb hts iX4_addThing_X4 hown hK hP 0 rfl rfl 1 (by decide) (hts _ (lX4_addThing_2)) (fun _ h9 => h9) rfl dX4_addThing_6 ?_
  refine lv_iload_n hx hb dX4_addThing_9 rfl (lv_at hl 0 rfl) ?_
  refine lv_iconst (v := -1) hx hb dX4_addThing_10 (by decide) ?_
  obtain ⟨h_1, hw⟩ := hw
  refine va_iast hx hb hK hP hD hS 1 0 rfl rfl h_1 dX4_addThing_11 (fun H locs hP hD hS => ?_)
  have hP : va_P (dC, dI) vwCl [(q_this, .inr (4, [.int c_things, .ref q_whose, .ref q_story, .ref q_watch, .int c_sayings, .ref q_kind, .ref q_a, .ref q_b, .ref q_by])), (q_whose, .inl (cyI, (6, .inl (upd c_whose c_things.toNatClampNeg (-1 : Int32))))), (q_story, .inl (cyI, (6, .inl c_story))), (q_watch, .inl (cyI, (12, .inl c_watch)))] H := hP
  have hD : va_D A [(q_this, .inr (4, [.int c_things, .ref q_whose, .ref q_story, .ref q_watch, .int c_sayings, .ref q_kind, .ref q_a, .ref q_b, .ref q_by])), (q_whose, .inl (cyI, (6, .inl (upd c_whose c_things.toNatClampNeg (-1 : Int32))))), (q_story, .inl (cyI, (6, .inl c_story))), (q_watch, .inl (cyI, (12, .inl c_watch)))] := hD
  refine lv_aload_n hx hb dX4_addThing_12 rfl (lv_at hl 1 rfl) ?_
  refine va_get (D := (dC, dI)) (ci := 4) (v := .ref q_story) (C := RX4) (T := TX4) (N := 9) hx hb hts iX4_addThing_X4 hown hK hP 0 rfl rfl 2 (by decide) (hts _ (lX4_addThing_3)) (fun _ h9 => h9) rfl dX4_addThing_13 ?_
  refine lv_iload_n hx hb dX4_addThing_16 rfl (lv_at hl 0 rfl) ?_
  refine lv_iconst (v := 0) hx hb dX4_addThing_17 (by decide) ?_
  obtain ⟨h_2, hw⟩ := hw
  refine va_iast hx hb hK hP hD hS 2 0 rfl rfl h_2 dX4_addThing_18 (fun H locs hP hD hS => ?_)
  have hP : va_P (dC, dI) vwCl [(q_this, .inr (4, [.int c_things, .ref q_whose, .ref q_story, .ref q_watch, .int c_sayings, .ref q_kind, .ref q_a, .ref q_b, .ref q_by])), (q_whose, .inl (cyI, (6, .inl (upd c_whose c_things.toNatClampNeg (-1 : Int32))))), (q_story, .inl (cyI, (6, .inl (upd c_story c_things.toNatClampNeg (0 : Int32))))), (q_watch, .inl (cyI, (12, .inl c_watch)))] H := hP
  have hD : va_D A [(q_this, .inr (4, [.int c_things, .ref q_whose, .ref q_story, .ref q_watch, .int c_sayings, .ref q_kind, .ref q_a, .ref q_b, .ref q_by])), (q_whose, .inl (cyI, (6, .inl (upd c_whose c_things.toNatClampNeg (-1 : Int32))))), (q_story, .inl (cyI, (6, .inl (upd c_story c_things.toNatClampNeg (0 : Int32))))), (q_watch, .inl (cyI, (12, .inl c_watch)))] := hD
  refine lv_aload_n hx hb dX4_addThing_19 rfl (lv_at hl 1 rfl) ?_
  refine va_get (D := (dC, dI)) (ci := 4) (v := .ref q_watch) (C := RX4) (T := TX4) (N := 9) hx hb hts iX4_addThing_X4 hown hK hP 0 rfl rfl 3 (by decide) (hts _ (lX4_addThing_4)) (fun _ h9 => h9) rfl dX4_addThing_20 ?_
  refine lv_iconst (v := 2) hx hb dX4_addThing_23 (by decide) ?_
  refine lv_iload_n hx hb dX4_addThing_24 rfl (lv_at hl 0 rfl) ?_
  refine lv_imul hx hb dX4_addThing_25 ?_
  refine lv_iconst (v := -1) hx hb dX4_addThing_26 (by decide) ?_
  obtain ⟨h_3, hw⟩ := hw
  refine va_iast hx hb hK hP hD hS 3 0 rfl rfl h_3 dX4_addThing_27 (fun H locs hP hD hS => ?_)
  have hP : va_P (dC, dI) vwCl [(q_this, .inr (4, [.int c_things, .ref q_whose, .ref q_story, .ref q_watch, .int c_sayings, .ref q_kind, .ref q_a, .ref q_b, .ref q_by])), (q_whose, .inl (cyI, (6, .inl (upd c_whose c_things.toNatClampNeg (-1 : Int32))))), (q_story, .inl (cyI, (6, .inl (upd c_story c_things.toNatClampNeg (0 : Int32))))), (q_watch, .inl (cyI, (12, .inl (upd c_watch ((2 : Int32) * c_things).toNatClampNeg (-1 : Int32)))))] H := hP
  have hD : va_D A [(q_this, .inr (4, [.int c_things, .ref q_whose, .ref q_story, .ref q_watch, .int c_sayings, .ref q_kind, .ref q_a, .ref q_b, .ref q_by])), (q_whose, .inl (cyI, (6, .inl (upd c_whose c_things.toNatClampNeg (-1 : Int32))))), (q_story, .inl (cyI, (6, .inl (upd c_story c_things.toNatClampNeg (0 : Int32))))), (q_watch, .inl (cyI, (12, .inl (upd c_watch ((2 : Int32) * c_things).toNatClampNeg (-1 : Int32)))))] := hD
  refine lv_aload_n hx hb dX4_addThing_28 rfl (lv_at hl 1 rfl) ?_
  refine va_get (D := (dC, dI)) (ci := 4) (v := .ref q_watch) (C := RX4) (T := TX4) (N := 9) hx hb hts iX4_addThing_X4 hown hK hP 0 rfl rfl 3 (by decide) (hts _ (lX4_addThing_4)) (fun _ h9 => h9) rfl dX4_addThing_29 ?_
  refine lv_iconst (v := 2) hx hb dX4_addThing_32 (by decide) ?_
  refine lv_iload_n hx hb dX4_addThing_33 rfl (lv_at hl 0 rfl) ?_
  refine lv_imul hx hb dX4_addThing_34 ?_
  refine lv_iconst (v := 1) hx hb dX4_addThing_35 (by decide) ?_
  refine lv_iadd hx hb dX4_addThing_36 ?_
  refine lv_iconst (v := -1) hx hb dX4_addThing_37 (by decide) ?_
  obtain ⟨h_4, hw⟩ := hw
  refine va_iast hx hb hK hP hD hS 3 0 rfl rfl h_4 dX4_addThing_38 (fun H locs hP hD hS => ?_)
  have hP : va_P (dC, dI) vwCl [(q_this, .inr (4, [.int c_things, .ref q_whose, .ref q_story, .ref q_watch, .int c_sayings, .ref q_kind, .ref q_a, .ref q_b, .ref q_by])), (q_whose, .inl (cyI, (6, .inl (upd c_whose c_things.toNatClampNeg (-1 : Int32))))), (q_story, .inl (cyI, (6, .inl (upd c_story c_things.toNatClampNeg (0 : Int32))))), (q_watch, .inl (cyI, (12, .inl (upd (upd c_watch ((2 : Int32) * c_things).toNatClampNeg (-1 : Int32)) (((2 : Int32) * c_things) + (1 : Int32)).toNatClampNeg (-1 : Int32)))))] H := hP
  have hD : va_D A [(q_this, .inr (4, [.int c_things, .ref q_whose, .ref q_story, .ref q_watch, .int c_sayings, .ref q_kind, .ref q_a, .ref q_b, .ref q_by])), (q_whose, .inl (cyI, (6, .inl (upd c_whose c_things.toNatClampNeg (-1 : Int32))))), (q_story, .inl (cyI, (6, .inl (upd c_story c_things.toNatClampNeg (0 : Int32))))), (q_watch, .inl (cyI, (12, .inl (upd (upd c_watch ((2 : Int32) * c_things).toNatClampNeg (-1 : Int32)) (((2 : Int32) * c_things) + (1 : Int32)).toNatClampNeg (-1 : Int32)))))] := hD
  refine lv_aload_n hx hb dX4_addThing_39 rfl (lv_at hl 1 rfl) ?_
  refine lv_iload_n hx hb dX4_addThing_40 rfl (lv_at hl 0 rfl) ?_
  refine lv_iconst (v := 1) hx hb dX4_addThing_41 (by decide) ?_
  refine lv_iadd hx hb dX4_addThing_42 ?_
  refine va_put (D := (dC, dI)) (ci := 4) (v := .int (c_things + (1 : Int32))) (ty := .int) (C := RX4) (T := TX4) (N := 9) hx hb hts iX4_addThing_X4 tyX4 tyX4_ok nmX4 hown hK hP hD hS 0 rfl rfl 0 (by decide) (hts _ (lX4_addThing_1)) (fun _ h9 => h9) rfl (by decide +kernel) rfl rfl (Nat.le_of_ble_eq_true rfl) dX4_addThing_43 (fun H locs hP hD hS => ?_)
  have hP : va_P (dC, dI) vwCl [(q_this, .inr (4, [.int (c_things + (1 : Int32)), .ref q_whose, .ref q_story, .ref q_watch, .int c_sayings, .ref q_kind, .ref q_a, .ref q_b, .ref q_by])), (q_whose, .inl (cyI, (6, .inl (upd c_whose c_things.toNatClampNeg (-1 : Int32))))), (q_story, .inl (cyI, (6, .inl (upd c_story c_things.toNatClampNeg (0 : Int32))))), (q_watch, .inl (cyI, (12, .inl (upd (upd c_watch ((2 : Int32) * c_things).toNatClampNeg (-1 : Int32)) (((2 : Int32) * c_things) + (1 : Int32)).toNatClampNeg (-1 : Int32)))))] H := hP
  have hD : va_D A [(q_this, .inr (4, [.int (c_things + (1 : Int32)), .ref q_whose, .ref q_story, .ref q_watch, .int c_sayings, .ref q_kind, .ref q_a, .ref q_b, .ref q_by])), (q_whose, .inl (cyI, (6, .inl (upd c_whose c_things.toNatClampNeg (-1 : Int32))))), (q_story, .inl (cyI, (6, .inl (upd c_story c_things.toNatClampNeg (0 : Int32))))), (q_watch, .inl (cyI, (12, .inl (upd (upd c_watch ((2 : Int32) * c_things).toNatClampNeg (-1 : Int32)) (((2 : Int32) * c_things) + (1 : Int32)).toNatClampNeg (-1 : Int32)))))] := hD
  refine lv_iload_n hx hb dX4_addThing_46 rfl (lv_at hl 0 rfl) ?_
  exact kR 47 c_things (c_things + (1 : Int32)) (upd c_whose c_things.toNatClampNeg (-1 : Int32)) (upd c_story c_things.toNatClampNeg (0 : Int32)) (upd (upd c_watch ((2 : Int32) * c_things).toNatClampNeg (-1 : Int32)) (((2 : Int32) * c_things) + (1 : Int32)).toNatClampNeg (-1 : Int32)) H locs ls dX4_addThing_47 hP hD hS hw
set_option maxHeartbeats 8000000 in
set_option maxRecDepth 100000 in
theorem c_X4_addThing (l : Launch) (dC : Nat → ClassId) (dI : Nat → Nat → Nat) (cyI cyJ cyZ cyH : ClassId) (q_this q_whose q_story q_watch q_kind q_a q_b q_by : Nat) (sz : Nat) (c_sayings : Int32) (c_things : Int32) (c_whose : Nat → Int32) (c_story : Nat → Int32) (c_watch : Nat → Int32) (Q : Int32 → Int32 → (Nat → Int32) → (Nat → Int32) → (Nat → Int32) → Prop) (hw : wp_X4_addThing c_things c_whose c_story c_watch Q) : Met l yX4_addThing wsX4_addThing rm_X4_addThing (va_Pc [.ref q_this] (fun U => U.heap.size = sz ∧ va_P (dC, dI) vwCl [(q_this, .inr (4, [.int c_things, .ref q_whose, .ref q_story, .ref q_watch, .int c_sayings, .ref q_kind, .ref q_a, .ref q_b, .ref q_by])), (q_whose, .inl (cyI, (6, .inl c_whose))), (q_story, .inl (cyI, (6, .inl c_story))), (q_watch, .inl (cyI, (12, .inl c_watch)))] U.heap ∧ va_K (dC, dI) vwCl [(cyI, .int), (cyJ, .long), (cyZ, .boolean), (cyH, .object "NoWhen$History")] U ∧ va_D (fun _ => True) [(q_this, .inr (4, [.int c_things, .ref q_whose, .ref q_story, .ref q_watch, .int c_sayings, .ref q_kind, .ref q_a, .ref q_b, .ref q_by])), (q_whose, .inl (cyI, (6, .inl c_whose))), (q_story, .inl (cyI, (6, .inl c_story))), (q_watch, .inl (cyI, (12, .inl c_watch)))])) (va_Qi (fun (r : Int32) (u : Int32 × (Nat → Int32) × (Nat → Int32) × (Nat → Int32)) => Q r u.1 u.2.1 u.2.2.1 u.2.2.2) (fun (u : Int32 × (Nat → Int32) × (Nat → Int32) × (Nat → Int32)) (t : State) => va_P (dC, dI) vwCl [(q_this, .inr (4, [.int u.1, .ref q_whose, .ref q_story, .ref q_watch, .int c_sayings, .ref q_kind, .ref q_a, .ref q_b, .ref q_by])), (q_whose, .inl (cyI, (6, .inl u.2.1))), (q_story, .inl (cyI, (6, .inl u.2.2.1))), (q_watch, .inl (cyI, (12, .inl u.2.2.2)))] t.heap ∧ va_K (dC, dI) vwCl [(cyI, .int), (cyJ, .long), (cyZ, .boolean), (cyH, .object "NoWhen$History")] t ∧ va_D (va_A [(q_this, .inr (4, [.int c_things, .ref q_whose, .ref q_story, .ref q_watch, .int c_sayings, .ref q_kind, .ref q_a, .ref q_b, .ref q_by])), (q_whose, .inl (cyI, (6, .inl c_whose))), (q_story, .inl (cyI, (6, .inl c_story))), (q_watch, .inl (cyI, (12, .inl c_watch)))] sz) [(q_this, .inr (4, [.int u.1, .ref q_whose, .ref q_story, .ref q_watch, .int c_sayings, .ref q_kind, .ref q_a, .ref q_b, .ref q_by])), (q_whose, .inl (cyI, (6, .inl u.2.1))), (q_story, .inl (cyI, (6, .inl u.2.2.1))), (q_watch, .inl (cyI, (12, .inl u.2.2.2)))]) (va_A [(q_this, .inr (4, [.int c_things, .ref q_whose, .ref q_story, .ref q_watch, .int c_sayings, .ref q_kind, .ref q_a, .ref q_b, .ref q_by])), (q_whose, .inl (cyI, (6, .inl c_whose))), (q_story, .inl (cyI, (6, .inl c_story))), (q_watch, .inl (cyI, (12, .inl c_watch)))] sz)) 0 0 (va_A [(q_this, .inr (4, [.int c_things, .ref q_whose, .ref q_story, .ref q_watch, .int c_sayings, .ref q_kind, .ref q_a, .ref q_b, .ref q_by])), (q_whose, .inl (cyI, (6, .inl c_whose))), (q_story, .inl (cyI, (6, .inl c_story))), (q_watch, .inl (cyI, (12, .inl c_watch)))] sz) := by
  refine Met.ofW (cc := cX4_addThing) (maxL := 2) (ret := (some .int)) (by decide) rfl ?_
  intro p e s m args below meth c s₁ B hml hv
  obtain ⟨rfl, hsz, hP, hK, hD0⟩ := hv
  have hx := B.exec
  have hb := B.bytes
  have hr := B.returns
  have hts := atoms_spec (ws := wsX4_addThing) B.pre
  have hown : s.vm.findClass RX4 = some m.cls := findClass_of_methodNamed B.named
  have hlocks := B.notSynchronized
  subst hsz
  have hD := hD0.self (sz := s.heap.size)
  generalize hAe : va_A [(q_this, .inr (4, [.int c_things, .ref q_whose, .ref q_story, .ref q_watch, .int c_sayings, .ref q_kind, .ref q_a, .ref q_b, .ref q_by])), (q_whose, .inl (cyI, (6, .inl c_whose))), (q_story, .inl (cyI, (6, .inl c_story))), (q_watch, .inl (cyI, (12, .inl c_watch)))] s.heap.size = A at hD ⊢
  have hA : ∀ q : Nat, s.heap.size ≤ q → A q := fun q h => by rw [← hAe]; exact Or.inr h
  have hS : va_S A s.heap s.heap [] := va_S.rf
  have hl := lv_entry ([.ref q_this]) (n := 2) (Nat.le_of_ble_eq_true rfl)
  rw [lg_entry_eq]
  generalize (lg_sl ([.ref q_this]) ++ List.replicate (2 - (lg_sl ([.ref q_this])).length) Slot.unset).toArray = ls at hl ⊢
  have hl : lv_has ls 2 [(0, .ref q_this)] := hl
  refine k_X4_addThing hx hb hml hown hts hK hA (fun pc r c_things c_whose c_story c_watch H locs ls hd hP hD hS hq => ?_) c_things c_whose c_story c_watch s.heap [] ls hP hD hS hl hw
  exact W.iret (v := r) hx hb hr (fun t ht hW => ⟨⟨r, (c_things, c_whose, c_story, c_watch), rfl, hq, by rw [ht]; exact hP, va_K.moved hW.alike hK, hD⟩, hS.F ht⟩) hS.2.2 hd
-- X4_addSaying
theorem lX4_addSaying_1 : (Cond.fieldLink RX4 37 "NoWhen$History" "sayings" "I") ∈ wsX4_addSaying := List.mem_of_getElem? (i := 1) (by rfl)
theorem lX4_addSaying_2 : (Cond.fieldLink RX4 24 "NoWhen$History" "a" "[I") ∈ wsX4_addSaying := List.mem_of_getElem? (i := 2) (by rfl)
theorem lX4_addSaying_3 : (Cond.fieldLink RX4 21 "NoWhen$History" "kind" "[I") ∈ wsX4_addSaying := List.mem_of_getElem? (i := 3) (by rfl)
theorem lX4_addSaying_4 : (Cond.fieldLink RX4 27 "NoWhen$History" "b" "[I") ∈ wsX4_addSaying := List.mem_of_getElem? (i := 4) (by rfl)
theorem lX4_addSaying_5 : (Cond.fieldLink RX4 30 "NoWhen$History" "by" "[I") ∈ wsX4_addSaying := List.mem_of_getElem? (i := 5) (by rfl)
set_option maxRecDepth 20000 in
theorem iX4_addSaying_X4 : ∀ w ∈ wsX40, w ∈ wsX4_addSaying := by decide +kernel
abbrev rm_X4_addSaying : Room := ({ frames := 0, cells := 0, slots := 0, locals := 0 } : Room)
set_option maxHeartbeats 8000000 in
set_option maxRecDepth 100000 in
theorem k_X4_addSaying {p : Program} {l : Launch} {e : Env} {s : State} {m : MethodId} {args : Array Value} {below : List Frame} {meth : Method} {c : Code} {dC : Nat → ClassId} {dI : Nat → Nat → Nat} {cyI cyJ cyZ cyH : ClassId} {A : Nat → Prop} {ZZ : State → Prop} {q_this q_whose q_story q_watch q_kind q_a q_b q_by : Nat} {c_things : Int32} {Q : Int32 → Int32 → (Nat → Int32) → (Nat → Int32) → (Nat → Int32) → (Nat → Int32) → Prop} (hx : p.tables.exec = Jvm.exec) (hb : c.code = cX4_addSaying) (hml : c.maxLocals = 6) (hown : s.vm.findClass RX4 = some m.cls) (hts : ∀ w ∈ wsX4_addSaying, w.before args s = true) (hK : va_K (dC, dI) vwCl [(cyI, .int), (cyJ, .long), (cyZ, .boolean), (cyH, .object "NoWhen$History")] s) (hA : ∀ q : Nat, s.heap.size ≤ q → A q) (kR : ∀ (pc : Nat) (r : Int32) (c_sayings : Int32) (c_kind : Nat → Int32) (c_a : Nat → Int32) (c_b : Nat → Int32) (c_by : Nat → Int32) (H : Heap) (locs : List Loc) (ls : Array Slot), decode cX4_addSaying pc = .ok (.ireturn, 1) → va_P (dC, dI) vwCl [(q_this, .inr (4, [.int c_things, .ref q_whose, .ref q_story, .ref q_watch, .int c_sayings, .ref q_kind, .ref q_a, .ref q_b, .ref q_by])), (q_kind, .inl (cyI, (8, .inl c_kind))), (q_a, .inl (cyI, (8, .inl c_a))), (q_b, .inl (cyI, (8, .inl c_b))), (q_by, .inl (cyI, (8, .inl c_by)))] H → va_D A [(q_this, .inr (4, [.int c_things, .ref q_whose, .ref q_story, .ref q_watch, .int c_sayings, .ref q_kind, .ref q_a, .ref q_b, .ref q_by])), (q_kind, .inl (cyI, (8, .inl c_kind))), (q_a, .inl (cyI, (8, .inl c_a))), (q_b, .inl (cyI, (8, .inl c_b))), (q_by, .inl (cyI, (8, .inl c_by)))] → va_S A s.heap H locs → Q r c_sayings c_kind c_a c_b c_by → W p l e rm_X4_addSaying s m args below meth c H locs 0 0 ZZ (F0 m pc ls [.int r])) (p1 : Int32) (p2 : Int32) (p3 : Int32) (p4 : Int32) (c_sayings : Int32) (c_kind : Nat → Int32) (c_a : Nat → Int32) (c_b : Nat → Int32) (c_by : Nat → Int32) (H : Heap) (locs : List Loc) (ls : Array Slot) (hP : va_P (dC, dI) vwCl [(q_this, .inr (4, [.int c_things, .ref q_whose, .ref q_story, .ref q_watch, .int c_sayings, .ref q_kind, .ref q_a, .ref q_b, .ref q_by])), (q_kind, .inl (cyI, (8, .inl c_kind))), (q_a, .inl (cyI, (8, .inl c_a))), (q_b, .inl (cyI, (8, .inl c_b))), (q_by, .inl (cyI, (8, .inl c_by)))] H) (hD : va_D A [(q_this, .inr (4, [.int c_things, .ref q_whose, .ref q_story, .ref q_watch, .int c_sayings, .ref q_kind, .ref q_a, .ref q_b, .ref q_by])), (q_kind, .inl (cyI, (8, .inl c_kind))), (q_a, .inl (cyI, (8, .inl c_a))), (q_b, .inl (cyI, (8, .inl c_b))), (q_by, .inl (cyI, (8, .inl c_by)))]) (hS : va_S A s.heap H locs) (hl : lv_has ls 6 [(0, .ref q_this), (1, .int p1), (2, .int p2), (3, .int p3), (4, .int p4)]) (hw : wp_X4_addSaying p1 p2 p3 p4 c_sayings c_kind c_a c_b c_by Q) : W p l e rm_X4_addSaying s m args below meth c H locs 0 0 ZZ (F0 m 0 ls []) := by
  unfold wp_X4_addSaying at hw
  refine lv_aload_n hx hb dX4_addSaying_0 rfl (lv_at hl 0 rfl) ?_
  refine va_get (D := (dC, dI)) (ci := 4) (v := .int c_sayings) (C := RX4) (T := TX4) (N := 9) hx hb hts iX4_addSaying_X4 hown hK hP 0 rfl rfl 4 (by decide) (hts _ (lX4_addSaying_1)) (fun _ h9 => h9) rfl dX4_addSaying_1 ?_
  refine lv_istore (lv' := [(5, .int c_sayings), (0, .ref q_this), (1, .int p1), (2, .int p2), (3, .int p3), (4, .int p4)]) hx hb dX4_addSaying_4 hl (by decide) rfl (fun ls hl => ?_)
  refine lv_aload_n hx hb dX4_addSaying_6 rfl (lv_at hl 1 rfl) ?_
  refine va_get (D := (dC, dI)) (ci := 4) (v := .ref q_a) (C := RX4) (T := TX4) (N := 9) hx hb hts iX4_addSaying_X4 hown hK hP 0 rfl rfl 6 (by decide) (hts _ (lX4_addSaying_2)) (fun _ h9 => h9) rfl dX4_addSaying_7 ?_
  refine lv_iload hx hb dX4_addSaying_10 (lv_at hl 0 rfl) ?_
  refine lv_iload_n hx hb dX4_addSaying_12 rfl (lv_at hl 2 rfl) ?_
  obtain ⟨h_1, hw⟩ := hw
  refine va_iast hx hb hK hP hD hS 2 0 rfl rfl h_1 dX4_addSaying_13 (fun H locs hP hD hS => ?_)
  have hP : va_P (dC, dI) vwCl [(q_this, .inr (4, [.int c_things, .ref q_whose, .ref q_story, .ref q_watch, .int c_sayings, .ref q_kind, .ref q_a, .ref q_b, .ref q_by])), (q_kind, .inl (cyI, (8, .inl c_kind))), (q_a, .inl (cyI, (8, .inl (upd c_a c_sayings.toNatClampNeg p1)))), (q_b, .inl (cyI, (8, .inl c_b))), (q_by, .inl (cyI, (8, .inl c_by)))] H := hP
  have hD : va_D A [(q_this, .inr (4, [.int c_things, .ref q_whose, .ref q_story, .ref q_watch, .int c_sayings, .ref q_kind, .ref q_a, .ref q_b, .ref q_by])), (q_kind, .inl (cyI, (8, .inl c_kind))), (q_a, .inl (cyI, (8, .inl (upd c_a c_sayings.toNatClampNeg p1)))), (q_b, .inl (cyI, (8, .inl c_b))), (q_by, .inl (cyI, (8, .inl c_by)))] := hD
  refine lv_aload_n hx hb dX4_addSaying_14 rfl (lv_at hl 1 rfl) ?_
  refine va_get (D := (dC, dI)) (ci := 4) (v := .ref q_kind) (C := RX4) (T := TX4) (N := 9) hx hb hts iX4_addSaying_X4 hown hK hP 0 rfl rfl 5 (by decide) (hts _ (lX4_addSaying_3)) (fun _ h9 => h9) rfl dX4_addSaying_15 ?_
  refine lv_iload hx hb dX4_addSaying_18 (lv_at hl 0 rfl) ?_
  refine lv_iload_n hx hb dX4_addSaying_20 rfl (lv_at hl 3 rfl) ?_
  obtain ⟨h_2, hw⟩ := hw
  refine va_iast hx hb hK hP hD hS 1 0 rfl rfl h_2 dX4_addSaying_21 (fun H locs hP hD hS => ?_)
  have hP : va_P (dC, dI) vwCl [(q_this, .inr (4, [.int c_things, .ref q_whose, .ref q_story, .ref q_watch, .int c_sayings, .ref q_kind, .ref q_a, .ref q_b, .ref q_by])), (q_kind, .inl (cyI, (8, .inl (upd c_kind c_sayings.toNatClampNeg p2)))), (q_a, .inl (cyI, (8, .inl (upd c_a c_sayings.toNatClampNeg p1)))), (q_b, .inl (cyI, (8, .inl c_b))), (q_by, .inl (cyI, (8, .inl c_by)))] H := hP
  have hD : va_D A [(q_this, .inr (4, [.int c_things, .ref q_whose, .ref q_story, .ref q_watch, .int c_sayings, .ref q_kind, .ref q_a, .ref q_b, .ref q_by])), (q_kind, .inl (cyI, (8, .inl (upd c_kind c_sayings.toNatClampNeg p2)))), (q_a, .inl (cyI, (8, .inl (upd c_a c_sayings.toNatClampNeg p1)))), (q_b, .inl (cyI, (8, .inl c_b))), (q_by, .inl (cyI, (8, .inl c_by)))] := hD
  refine lv_aload_n hx hb dX4_addSaying_22 rfl (lv_at hl 1 rfl) ?_
  refine va_get (D := (dC, dI)) (ci := 4) (v := .ref q_b) (C := RX4) (T := TX4) (N := 9) hx hb hts iX4_addSaying_X4 hown hK hP 0 rfl rfl 7 (by decide) (hts _ (lX4_addSaying_4)) (fun _ h9 => h9) rfl dX4_addSaying_23 ?_
  refine lv_iload hx hb dX4_addSaying_26 (lv_at hl 0 rfl) ?_
  refine lv_iload_n hx hb dX4_addSaying_28 rfl (lv_at hl 4 rfl) ?_
  obtain ⟨h_3, hw⟩ := hw
  refine va_iast hx hb hK hP hD hS 3 0 rfl rfl h_3 dX4_addSaying_29 (fun H locs hP hD hS => ?_)
  have hP : va_P (dC, dI) vwCl [(q_this, .inr (4, [.int c_things, .ref q_whose, .ref q_story, .ref q_watch, .int c_sayings, .ref q_kind, .ref q_a, .ref q_b, .ref q_by])), (q_kind, .inl (cyI, (8, .inl (upd c_kind c_sayings.toNatClampNeg p2)))), (q_a, .inl (cyI, (8, .inl (upd c_a c_sayings.toNatClampNeg p1)))), (q_b, .inl (cyI, (8, .inl (upd c_b c_sayings.toNatClampNeg p3)))), (q_by, .inl (cyI, (8, .inl c_by)))] H := hP
  have hD : va_D A [(q_this, .inr (4, [.int c_things, .ref q_whose, .ref q_story, .ref q_watch, .int c_sayings, .ref q_kind, .ref q_a, .ref q_b, .ref q_by])), (q_kind, .inl (cyI, (8, .inl (upd c_kind c_sayings.toNatClampNeg p2)))), (q_a, .inl (cyI, (8, .inl (upd c_a c_sayings.toNatClampNeg p1)))), (q_b, .inl (cyI, (8, .inl (upd c_b c_sayings.toNatClampNeg p3)))), (q_by, .inl (cyI, (8, .inl c_by)))] := hD
  refine lv_aload_n hx hb dX4_addSaying_30 rfl (lv_at hl 1 rfl) ?_
  refine va_get (D := (dC, dI)) (ci := 4) (v := .ref q_by) (C := RX4) (T := TX4) (N := 9) hx hb hts iX4_addSaying_X4 hown hK hP 0 rfl rfl 8 (by decide) (hts _ (lX4_addSaying_5)) (fun _ h9 => h9) rfl dX4_addSaying_31 ?_
  refine lv_iload hx hb dX4_addSaying_34 (lv_at hl 0 rfl) ?_
  refine lv_iload hx hb dX4_addSaying_36 (lv_at hl 5 rfl) ?_
  obtain ⟨h_4, hw⟩ := hw
  refine va_iast hx hb hK hP hD hS 4 0 rfl rfl h_4 dX4_addSaying_38 (fun H locs hP hD hS => ?_)
  have hP : va_P (dC, dI) vwCl [(q_this, .inr (4, [.int c_things, .ref q_whose, .ref q_story, .ref q_watch, .int c_sayings, .ref q_kind, .ref q_a, .ref q_b, .ref q_by])), (q_kind, .inl (cyI, (8, .inl (upd c_kind c_sayings.toNatClampNeg p2)))), (q_a, .inl (cyI, (8, .inl (upd c_a c_sayings.toNatClampNeg p1)))), (q_b, .inl (cyI, (8, .inl (upd c_b c_sayings.toNatClampNeg p3)))), (q_by, .inl (cyI, (8, .inl (upd c_by c_sayings.toNatClampNeg p4))))] H := hP
  have hD : va_D A [(q_this, .inr (4, [.int c_things, .ref q_whose, .ref q_story, .ref q_watch, .int c_sayings, .ref q_kind, .ref q_a, .ref q_b, .ref q_by])), (q_kind, .inl (cyI, (8, .inl (upd c_kind c_sayings.toNatClampNeg p2)))), (q_a, .inl (cyI, (8, .inl (upd c_a c_sayings.toNatClampNeg p1)))), (q_b, .inl (cyI, (8, .inl (upd c_b c_sayings.toNatClampNeg p3)))), (q_by, .inl (cyI, (8, .inl (upd c_by c_sayings.toNatClampNeg p4))))] := hD
  refine lv_aload_n hx hb dX4_addSaying_39 rfl (lv_at hl 1 rfl) ?_
  refine lv_iload hx hb dX4_addSaying_40 (lv_at hl 0 rfl) ?_
  refine lv_iconst (v := 1) hx hb dX4_addSaying_42 (by decide) ?_
  refine lv_iadd hx hb dX4_addSaying_43 ?_
  refine va_put (D := (dC, dI)) (ci := 4) (v := .int (c_sayings + (1 : Int32))) (ty := .int) (C := RX4) (T := TX4) (N := 9) hx hb hts iX4_addSaying_X4 tyX4 tyX4_ok nmX4 hown hK hP hD hS 0 rfl rfl 4 (by decide) (hts _ (lX4_addSaying_1)) (fun _ h9 => h9) rfl (by decide +kernel) rfl rfl (Nat.le_of_ble_eq_true rfl) dX4_addSaying_44 (fun H locs hP hD hS => ?_)
  have hP : va_P (dC, dI) vwCl [(q_this, .inr (4, [.int c_things, .ref q_whose, .ref q_story, .ref q_watch, .int (c_sayings + (1 : Int32)), .ref q_kind, .ref q_a, .ref q_b, .ref q_by])), (q_kind, .inl (cyI, (8, .inl (upd c_kind c_sayings.toNatClampNeg p2)))), (q_a, .inl (cyI, (8, .inl (upd c_a c_sayings.toNatClampNeg p1)))), (q_b, .inl (cyI, (8, .inl (upd c_b c_sayings.toNatClampNeg p3)))), (q_by, .inl (cyI, (8, .inl (upd c_by c_sayings.toNatClampNeg p4))))] H := hP
  have hD : va_D A [(q_this, .inr (4, [.int c_things, .ref q_whose, .ref q_story, .ref q_watch, .int (c_sayings + (1 : Int32)), .ref q_kind, .ref q_a, .ref q_b, .ref q_by])), (q_kind, .inl (cyI, (8, .inl (upd c_kind c_sayings.toNatClampNeg p2)))), (q_a, .inl (cyI, (8, .inl (upd c_a c_sayings.toNatClampNeg p1)))), (q_b, .inl (cyI, (8, .inl (upd c_b c_sayings.toNatClampNeg p3)))), (q_by, .inl (cyI, (8, .inl (upd c_by c_sayings.toNatClampNeg p4))))] := hD
  refine lv_iload hx hb dX4_addSaying_47 (lv_at hl 0 rfl) ?_
  exact kR 49 c_sayings (c_sayings + (1 : Int32)) (upd c_kind c_sayings.toNatClampNeg p2) (upd c_a c_sayings.toNatClampNeg p1) (upd c_b c_sayings.toNatClampNeg p3) (upd c_by c_sayings.toNatClampNeg p4) H locs ls dX4_addSaying_49 hP hD hS hw
set_option maxHeartbeats 8000000 in
set_option maxRecDepth 100000 in
theorem c_X4_addSaying (l : Launch) (dC : Nat → ClassId) (dI : Nat → Nat → Nat) (cyI cyJ cyZ cyH : ClassId) (q_this q_whose q_story q_watch q_kind q_a q_b q_by : Nat) (sz : Nat) (c_things : Int32) (c_sayings : Int32) (c_kind : Nat → Int32) (c_a : Nat → Int32) (c_b : Nat → Int32) (c_by : Nat → Int32) (p1 : Int32) (p2 : Int32) (p3 : Int32) (p4 : Int32) (Q : Int32 → Int32 → (Nat → Int32) → (Nat → Int32) → (Nat → Int32) → (Nat → Int32) → Prop) (hw : wp_X4_addSaying p1 p2 p3 p4 c_sayings c_kind c_a c_b c_by Q) : Met l yX4_addSaying wsX4_addSaying rm_X4_addSaying (va_Pc [.ref q_this, .int p1, .int p2, .int p3, .int p4] (fun U => U.heap.size = sz ∧ va_P (dC, dI) vwCl [(q_this, .inr (4, [.int c_things, .ref q_whose, .ref q_story, .ref q_watch, .int c_sayings, .ref q_kind, .ref q_a, .ref q_b, .ref q_by])), (q_kind, .inl (cyI, (8, .inl c_kind))), (q_a, .inl (cyI, (8, .inl c_a))), (q_b, .inl (cyI, (8, .inl c_b))), (q_by, .inl (cyI, (8, .inl c_by)))] U.heap ∧ va_K (dC, dI) vwCl [(cyI, .int), (cyJ, .long), (cyZ, .boolean), (cyH, .object "NoWhen$History")] U ∧ va_D (fun _ => True) [(q_this, .inr (4, [.int c_things, .ref q_whose, .ref q_story, .ref q_watch, .int c_sayings, .ref q_kind, .ref q_a, .ref q_b, .ref q_by])), (q_kind, .inl (cyI, (8, .inl c_kind))), (q_a, .inl (cyI, (8, .inl c_a))), (q_b, .inl (cyI, (8, .inl c_b))), (q_by, .inl (cyI, (8, .inl c_by)))])) (va_Qi (fun (r : Int32) (u : Int32 × (Nat → Int32) × (Nat → Int32) × (Nat → Int32) × (Nat → Int32)) => Q r u.1 u.2.1 u.2.2.1 u.2.2.2.1 u.2.2.2.2) (fun (u : Int32 × (Nat → Int32) × (Nat → Int32) × (Nat → Int32) × (Nat → Int32)) (t : State) => va_P (dC, dI) vwCl [(q_this, .inr (4, [.int c_things, .ref q_whose, .ref q_story, .ref q_watch, .int u.1, .ref q_kind, .ref q_a, .ref q_b, .ref q_by])), (q_kind, .inl (cyI, (8, .inl u.2.1))), (q_a, .inl (cyI, (8, .inl u.2.2.1))), (q_b, .inl (cyI, (8, .inl u.2.2.2.1))), (q_by, .inl (cyI, (8, .inl u.2.2.2.2)))] t.heap ∧ va_K (dC, dI) vwCl [(cyI, .int), (cyJ, .long), (cyZ, .boolean), (cyH, .object "NoWhen$History")] t ∧ va_D (va_A [(q_this, .inr (4, [.int c_things, .ref q_whose, .ref q_story, .ref q_watch, .int c_sayings, .ref q_kind, .ref q_a, .ref q_b, .ref q_by])), (q_kind, .inl (cyI, (8, .inl c_kind))), (q_a, .inl (cyI, (8, .inl c_a))), (q_b, .inl (cyI, (8, .inl c_b))), (q_by, .inl (cyI, (8, .inl c_by)))] sz) [(q_this, .inr (4, [.int c_things, .ref q_whose, .ref q_story, .ref q_watch, .int u.1, .ref q_kind, .ref q_a, .ref q_b, .ref q_by])), (q_kind, .inl (cyI, (8, .inl u.2.1))), (q_a, .inl (cyI, (8, .inl u.2.2.1))), (q_b, .inl (cyI, (8, .inl u.2.2.2.1))), (q_by, .inl (cyI, (8, .inl u.2.2.2.2)))]) (va_A [(q_this, .inr (4, [.int c_things, .ref q_whose, .ref q_story, .ref q_watch, .int c_sayings, .ref q_kind, .ref q_a, .ref q_b, .ref q_by])), (q_kind, .inl (cyI, (8, .inl c_kind))), (q_a, .inl (cyI, (8, .inl c_a))), (q_b, .inl (cyI, (8, .inl c_b))), (q_by, .inl (cyI, (8, .inl c_by)))] sz)) 0 0 (va_A [(q_this, .inr (4, [.int c_things, .ref q_whose, .ref q_story, .ref q_watch, .int c_sayings, .ref q_kind, .ref q_a, .ref q_b, .ref q_by])), (q_kind, .inl (cyI, (8, .inl c_kind))), (q_a, .inl (cyI, (8, .inl c_a))), (q_b, .inl (cyI, (8, .inl c_b))), (q_by, .inl (cyI, (8, .inl c_by)))] sz) := by
  refine Met.ofW (cc := cX4_addSaying) (maxL := 6) (ret := (some .int)) (by decide) rfl ?_
  intro p e s m args below meth c s₁ B hml hv
  obtain ⟨rfl, hsz, hP, hK, hD0⟩ := hv
  have hx := B.exec
  have hb := B.bytes
  have hr := B.returns
  have hts := atoms_spec (ws := wsX4_addSaying) B.pre
  have hown : s.vm.findClass RX4 = some m.cls := findClass_of_methodNamed B.named
  have hlocks := B.notSynchronized
  subst hsz
  have hD := hD0.self (sz := s.heap.size)
  generalize hAe : va_A [(q_this, .inr (4, [.int c_things, .ref q_whose, .ref q_story, .ref q_watch, .int c_sayings, .ref q_kind, .ref q_a, .ref q_b, .ref q_by])), (q_kind, .inl (cyI, (8, .inl c_kind))), (q_a, .inl (cyI, (8, .inl c_a))), (q_b, .inl (cyI, (8, .inl c_b))), (q_by, .inl (cyI, (8, .inl c_by)))] s.heap.size = A at hD ⊢
  have hA : ∀ q : Nat, s.heap.size ≤ q → A q := fun q h => by rw [← hAe]; exact Or.inr h
  have hS : va_S A s.heap s.heap [] := va_S.rf
  have hl := lv_entry ([.ref q_this, .int p1, .int p2, .int p3, .int p4]) (n := 6) (Nat.le_of_ble_eq_true rfl)
  rw [lg_entry_eq]
  generalize (lg_sl ([.ref q_this, .int p1, .int p2, .int p3, .int p4]) ++ List.replicate (6 - (lg_sl ([.ref q_this, .int p1, .int p2, .int p3, .int p4])).length) Slot.unset).toArray = ls at hl ⊢
  have hl : lv_has ls 6 [(0, .ref q_this), (1, .int p1), (2, .int p2), (3, .int p3), (4, .int p4)] := hl
  refine k_X4_addSaying hx hb hml hown hts hK hA (fun pc r c_sayings c_kind c_a c_b c_by H locs ls hd hP hD hS hq => ?_) p1 p2 p3 p4 c_sayings c_kind c_a c_b c_by s.heap [] ls hP hD hS hl hw
  exact W.iret (v := r) hx hb hr (fun t ht hW => ⟨⟨r, (c_sayings, c_kind, c_a, c_b, c_by), rfl, hq, by rw [ht]; exact hP, va_K.moved hW.alike hK, hD⟩, hS.F ht⟩) hS.2.2 hd
-- X4_copy
theorem lX4_copy_1 : (Cond.fieldLink RX4 33 "NoWhen$History" "things" "I") ∈ wsX4_copy := List.mem_of_getElem? (i := 1) (by rfl)
theorem lX4_copy_2 : (Cond.fieldLink RX4 37 "NoWhen$History" "sayings" "I") ∈ wsX4_copy := List.mem_of_getElem? (i := 2) (by rfl)
theorem lX4_copy_3 : (Cond.fieldLink RX4 9 "NoWhen$History" "whose" "[I") ∈ wsX4_copy := List.mem_of_getElem? (i := 3) (by rfl)
theorem lX4_copy_4 : (Cond.fieldLink RX4 15 "NoWhen$History" "story" "[I") ∈ wsX4_copy := List.mem_of_getElem? (i := 4) (by rfl)
theorem lX4_copy_5 : (Cond.fieldLink RX4 18 "NoWhen$History" "watch" "[I") ∈ wsX4_copy := List.mem_of_getElem? (i := 5) (by rfl)
theorem lX4_copy_6 : (Cond.fieldLink RX4 21 "NoWhen$History" "kind" "[I") ∈ wsX4_copy := List.mem_of_getElem? (i := 6) (by rfl)
theorem lX4_copy_7 : (Cond.fieldLink RX4 24 "NoWhen$History" "a" "[I") ∈ wsX4_copy := List.mem_of_getElem? (i := 7) (by rfl)
theorem lX4_copy_8 : (Cond.fieldLink RX4 27 "NoWhen$History" "b" "[I") ∈ wsX4_copy := List.mem_of_getElem? (i := 8) (by rfl)
theorem lX4_copy_9 : (Cond.fieldLink RX4 30 "NoWhen$History" "by" "[I") ∈ wsX4_copy := List.mem_of_getElem? (i := 9) (by rfl)
set_option maxRecDepth 20000 in
theorem iX4_copy_X4 : ∀ w ∈ wsX40, w ∈ wsX4_copy := by decide +kernel
abbrev rm_X4_copy : Room := ({ frames := 0, cells := 0, slots := 0, locals := 0 } : Room)
set_option maxHeartbeats 8000000 in
set_option maxRecDepth 100000 in
theorem k_X4_copy {p : Program} {l : Launch} {e : Env} {s : State} {m : MethodId} {args : Array Value} {below : List Frame} {meth : Method} {c : Code} {dC : Nat → ClassId} {dI : Nat → Nat → Nat} {cyI cyJ cyZ cyH : ClassId} {A : Nat → Prop} {ZZ : State → Prop} {q_this q_whose q_story q_watch q_kind q_a q_b q_by q_o1 q_o1_whose q_o1_story q_o1_watch q_o1_kind q_o1_a q_o1_b q_o1_by : Nat} {c_o1_things : Int32} {c_o1_sayings : Int32} {c_o1_whose : Nat → Int32} {c_o1_story : Nat → Int32} {c_o1_watch : Nat → Int32} {c_o1_kind : Nat → Int32} {c_o1_a : Nat → Int32} {c_o1_b : Nat → Int32} {c_o1_by : Nat → Int32} {Q : Int32 → Int32 → (Nat → Int32) → (Nat → Int32) → (Nat → Int32) → (Nat → Int32) → (Nat → Int32) → (Nat → Int32) → (Nat → Int32) → Prop} (hx : p.tables.exec = Jvm.exec) (hb : c.code = cX4_copy) (hml : c.maxLocals = 3) (hown : s.vm.findClass RX4 = some m.cls) (hts : ∀ w ∈ wsX4_copy, w.before args s = true) (hK : va_K (dC, dI) vwCl [(cyI, .int), (cyJ, .long), (cyZ, .boolean), (cyH, .object "NoWhen$History")] s) (hA : ∀ q : Nat, s.heap.size ≤ q → A q) (kR : ∀ (pc : Nat) (c_things : Int32) (c_sayings : Int32) (c_whose : Nat → Int32) (c_story : Nat → Int32) (c_watch : Nat → Int32) (c_kind : Nat → Int32) (c_a : Nat → Int32) (c_b : Nat → Int32) (c_by : Nat → Int32) (H : Heap) (locs : List Loc) (ls : Array Slot), decode cX4_copy pc = .ok (.return_, 1) → va_P (dC, dI) vwCl [(q_this, .inr (4, [.int c_things, .ref q_whose, .ref q_story, .ref q_watch, .int c_sayings, .ref q_kind, .ref q_a, .ref q_b, .ref q_by])), (q_whose, .inl (cyI, (6, .inl c_whose))), (q_story, .inl (cyI, (6, .inl c_story))), (q_watch, .inl (cyI, (12, .inl c_watch))), (q_kind, .inl (cyI, (8, .inl c_kind))), (q_a, .inl (cyI, (8, .inl c_a))), (q_b, .inl (cyI, (8, .inl c_b))), (q_by, .inl (cyI, (8, .inl c_by))), (q_o1, .inr (4, [.int c_o1_things, .ref q_o1_whose, .ref q_o1_story, .ref q_o1_watch, .int c_o1_sayings, .ref q_o1_kind, .ref q_o1_a, .ref q_o1_b, .ref q_o1_by])), (q_o1_whose, .inl (cyI, (6, .inl c_o1_whose))), (q_o1_story, .inl (cyI, (6, .inl c_o1_story))), (q_o1_watch, .inl (cyI, (12, .inl c_o1_watch))), (q_o1_kind, .inl (cyI, (8, .inl c_o1_kind))), (q_o1_a, .inl (cyI, (8, .inl c_o1_a))), (q_o1_b, .inl (cyI, (8, .inl c_o1_b))), (q_o1_by, .inl (cyI, (8, .inl c_o1_by)))] H → va_D A [(q_this, .inr (4, [.int c_things, .ref q_whose, .ref q_story, .ref q_watch, .int c_sayings, .ref q_kind, .ref q_a, .ref q_b, .ref q_by])), (q_whose, .inl (cyI, (6, .inl c_whose))), (q_story, .inl (cyI, (6, .inl c_story))), (q_watch, .inl (cyI, (12, .inl c_watch))), (q_kind, .inl (cyI, (8, .inl c_kind))), (q_a, .inl (cyI, (8, .inl c_a))), (q_b, .inl (cyI, (8, .inl c_b))), (q_by, .inl (cyI, (8, .inl c_by))), (q_o1, .inr (4, [.int c_o1_things, .ref q_o1_whose, .ref q_o1_story, .ref q_o1_watch, .int c_o1_sayings, .ref q_o1_kind, .ref q_o1_a, .ref q_o1_b, .ref q_o1_by])), (q_o1_whose, .inl (cyI, (6, .inl c_o1_whose))), (q_o1_story, .inl (cyI, (6, .inl c_o1_story))), (q_o1_watch, .inl (cyI, (12, .inl c_o1_watch))), (q_o1_kind, .inl (cyI, (8, .inl c_o1_kind))), (q_o1_a, .inl (cyI, (8, .inl c_o1_a))), (q_o1_b, .inl (cyI, (8, .inl c_o1_b))), (q_o1_by, .inl (cyI, (8, .inl c_o1_by)))] → va_S A s.heap H locs → Q c_things c_sayings c_whose c_story c_watch c_kind c_a c_b c_by → W p l e rm_X4_copy s m args below meth c H locs 0 0 ZZ (F0 m pc ls [])) (c_things : Int32) (c_sayings : Int32) (c_whose : Nat → Int32) (c_story : Nat → Int32) (c_watch : Nat → Int32) (c_kind : Nat → Int32) (c_a : Nat → Int32) (c_b : Nat → Int32) (c_by : Nat → Int32) (H : Heap) (locs : List Loc) (ls : Array Slot) (hP : va_P (dC, dI) vwCl [(q_this, .inr (4, [.int c_things, .ref q_whose, .ref q_story, .ref q_watch, .int c_sayings, .ref q_kind, .ref q_a, .ref q_b, .ref q_by])), (q_whose, .inl (cyI, (6, .inl c_whose))), (q_story, .inl (cyI, (6, .inl c_story))), (q_watch, .inl (cyI, (12, .inl c_watch))), (q_kind, .inl (cyI, (8, .inl c_kind))), (q_a, .inl (cyI, (8, .inl c_a))), (q_b, .inl (cyI, (8, .inl c_b))), (q_by, .inl (cyI, (8, .inl c_by))), (q_o1, .inr (4, [.int c_o1_things, .ref q_o1_whose, .ref q_o1_story, .ref q_o1_watch, .int c_o1_sayings, .ref q_o1_kind, .ref q_o1_a, .ref q_o1_b, .ref q_o1_by])), (q_o1_whose, .inl (cyI, (6, .inl c_o1_whose))), (q_o1_story, .inl (cyI, (6, .inl c_o1_story))), (q_o1_watch, .inl (cyI, (12, .inl c_o1_watch))), (q_o1_kind, .inl (cyI, (8, .inl c_o1_kind))), (q_o1_a, .inl (cyI, (8, .inl c_o1_a))), (q_o1_b, .inl (cyI, (8, .inl c_o1_b))), (q_o1_by, .inl (cyI, (8, .inl c_o1_by)))] H) (hD : va_D A [(q_this, .inr (4, [.int c_things, .ref q_whose, .ref q_story, .ref q_watch, .int c_sayings, .ref q_kind, .ref q_a, .ref q_b, .ref q_by])), (q_whose, .inl (cyI, (6, .inl c_whose))), (q_story, .inl (cyI, (6, .inl c_story))), (q_watch, .inl (cyI, (12, .inl c_watch))), (q_kind, .inl (cyI, (8, .inl c_kind))), (q_a, .inl (cyI, (8, .inl c_a))), (q_b, .inl (cyI, (8, .inl c_b))), (q_by, .inl (cyI, (8, .inl c_by))), (q_o1, .inr (4, [.int c_o1_things, .ref q_o1_whose, .ref q_o1_story, .ref q_o1_watch, .int c_o1_sayings, .ref q_o1_kind, .ref q_o1_a, .ref q_o1_b, .ref q_o1_by])), (q_o1_whose, .inl (cyI, (6, .inl c_o1_whose))), (q_o1_story, .inl (cyI, (6, .inl c_o1_story))), (q_o1_watch, .inl (cyI, (12, .inl c_o1_watch))), (q_o1_kind, .inl (cyI, (8, .inl c_o1_kind))), (q_o1_a, .inl (cyI, (8, .inl c_o1_a))), (q_o1_b, .inl (cyI, (8, .inl c_o1_b))), (q_o1_by, .inl (cyI, (8, .inl c_o1_by)))]) (hS : va_S A s.heap H locs) (hl : lv_has ls 3 [(0, .ref q_this), (1, .ref q_o1)]) (hw : wp_X4_copy c_things c_sayings c_whose c_story c_watch c_kind c_a c_b c_by c_o1_things c_o1_sayings c_o1_whose c_o1_story c_o1_watch c_o1_kind c_o1_a c_o1_b c_o1_by Q) : W p l e rm_X4_copy s m args below meth c H locs 0 0 ZZ (F0 m 0 ls []) := by
  have k82 : ∀ (n : Nat), ∀ (x2 : Int32) (c_things : Int32) (c_sayings : Int32) (c_whose : Nat → Int32) (c_story : Nat → Int32) (c_watch : Nat → Int32) (c_kind : Nat → Int32) (c_a : Nat → Int32) (c_b : Nat → Int32) (c_by : Nat → Int32) (H : Heap) (locs : List Loc) (ls : Array Slot), va_P (dC, dI) vwCl [(q_this, .inr (4, [.int c_things, .ref q_whose, .ref q_story, .ref q_watch, .int c_sayings, .ref q_kind, .ref q_a, .ref q_b, .ref q_by])), (q_whose, .inl (cyI, (6, .inl c_whose))), (q_story, .inl (cyI, (6, .inl c_story))), (q_watch, .inl (cyI, (12, .inl c_watch))), (q_kind, .inl (cyI, (8, .inl c_kind))), (q_a, .inl (cyI, (8, .inl c_a))), (q_b, .inl (cyI, (8, .inl c_b))), (q_by, .inl (cyI, (8, .inl c_by))), (q_o1, .inr (4, [.int c_o1_things, .ref q_o1_whose, .ref q_o1_story, .ref q_o1_watch, .int c_o1_sayings, .ref q_o1_kind, .ref q_o1_a, .ref q_o1_b, .ref q_o1_by])), (q_o1_whose, .inl (cyI, (6, .inl c_o1_whose))), (q_o1_story, .inl (cyI, (6, .inl c_o1_story))), (q_o1_watch, .inl (cyI, (12, .inl c_o1_watch))), (q_o1_kind, .inl (cyI, (8, .inl c_o1_kind))), (q_o1_a, .inl (cyI, (8, .inl c_o1_a))), (q_o1_b, .inl (cyI, (8, .inl c_o1_b))), (q_o1_by, .inl (cyI, (8, .inl c_o1_by)))] H → va_D A [(q_this, .inr (4, [.int c_things, .ref q_whose, .ref q_story, .ref q_watch, .int c_sayings, .ref q_kind, .ref q_a, .ref q_b, .ref q_by])), (q_whose, .inl (cyI, (6, .inl c_whose))), (q_story, .inl (cyI, (6, .inl c_story))), (q_watch, .inl (cyI, (12, .inl c_watch))), (q_kind, .inl (cyI, (8, .inl c_kind))), (q_a, .inl (cyI, (8, .inl c_a))), (q_b, .inl (cyI, (8, .inl c_b))), (q_by, .inl (cyI, (8, .inl c_by))), (q_o1, .inr (4, [.int c_o1_things, .ref q_o1_whose, .ref q_o1_story, .ref q_o1_watch, .int c_o1_sayings, .ref q_o1_kind, .ref q_o1_a, .ref q_o1_b, .ref q_o1_by])), (q_o1_whose, .inl (cyI, (6, .inl c_o1_whose))), (q_o1_story, .inl (cyI, (6, .inl c_o1_story))), (q_o1_watch, .inl (cyI, (12, .inl c_o1_watch))), (q_o1_kind, .inl (cyI, (8, .inl c_o1_kind))), (q_o1_a, .inl (cyI, (8, .inl c_o1_a))), (q_o1_b, .inl (cyI, (8, .inl c_o1_b))), (q_o1_by, .inl (cyI, (8, .inl c_o1_by)))] → va_S A s.heap H locs → lv_has ls 3 [(0, .ref q_this), (1, .ref q_o1), (2, .int x2)] → wp_X4_copy_b82 Q c_o1_kind c_o1_a c_o1_b c_o1_by n x2 c_things c_sayings c_whose c_story c_watch c_kind c_a c_b c_by → W p l e rm_X4_copy s m args below meth c H locs 0 0 ZZ (F0 m 82 ls []) := by
    intro n
    induction n with
    | zero =>
      intro x2 c_things c_sayings c_whose c_story c_watch c_kind c_a c_b c_by H locs ls hP hD hS hl hw
      exact False.elim hw
    | succ n ih =>
      intro x2 c_things c_sayings c_whose c_story c_watch c_kind c_a c_b c_by H locs ls hP hD hS hl hw
      unfold wp_X4_copy_b82 at hw
      refine lv_iload_n hx hb dX4_copy_82 rfl (lv_at hl 2 rfl) ?_
      refine lv_bipush (v := 8) hx hb dX4_copy_83 (by decide) ?_
      refine lv_icmp_ge (tgt := 142) hx hb dX4_copy_85 (by decide) (fun b_1 => ?_) (fun b_1 => ?_)
      · replace hw := hw.1 b_1
        exact kR 142 c_things c_sayings c_whose c_story c_watch c_kind c_a c_b c_by H locs ls dX4_copy_142 hP hD hS hw
      · replace hw := hw.2 b_1
        refine lv_aload_n hx hb dX4_copy_88 rfl (lv_at hl 0 rfl) ?_
        refine va_get (D := (dC, dI)) (ci := 4) (v := .ref q_kind) (C := RX4) (T := TX4) (N := 9) hx hb hts iX4_copy_X4 hown hK hP 0 rfl rfl 5 (by decide) (hts _ (lX4_copy_6)) (fun _ h9 => h9) rfl dX4_copy_89 ?_
        refine lv_iload_n hx hb dX4_copy_92 rfl (lv_at hl 2 rfl) ?_
        refine lv_aload_n hx hb dX4_copy_93 rfl (lv_at hl 1 rfl) ?_
        refine va_get (D := (dC, dI)) (ci := 4) (v := .ref q_o1_kind) (C := RX4) (T := TX4) (N := 9) hx hb hts iX4_copy_X4 hown hK hP 8 rfl rfl 5 (by decide) (hts _ (lX4_copy_6)) (fun _ h9 => h9) rfl dX4_copy_94 ?_
        refine lv_iload_n hx hb dX4_copy_97 rfl (lv_at hl 2 rfl) ?_
        obtain ⟨h_2, hw⟩ := hw
        refine va_iald hx hb hK hP 12 0 rfl rfl h_2 dX4_copy_98 ?_
        obtain ⟨h_3, hw⟩ := hw
        refine va_iast hx hb hK hP hD hS 4 0 rfl rfl h_3 dX4_copy_99 (fun H locs hP hD hS => ?_)
        have hP : va_P (dC, dI) vwCl [(q_this, .inr (4, [.int c_things, .ref q_whose, .ref q_story, .ref q_watch, .int c_sayings, .ref q_kind, .ref q_a, .ref q_b, .ref q_by])), (q_whose, .inl (cyI, (6, .inl c_whose))), (q_story, .inl (cyI, (6, .inl c_story))), (q_watch, .inl (cyI, (12, .inl c_watch))), (q_kind, .inl (cyI, (8, .inl (upd c_kind x2.toNatClampNeg (c_o1_kind x2.toNatClampNeg))))), (q_a, .inl (cyI, (8, .inl c_a))), (q_b, .inl (cyI, (8, .inl c_b))), (q_by, .inl (cyI, (8, .inl c_by))), (q_o1, .inr (4, [.int c_o1_things, .ref q_o1_whose, .ref q_o1_story, .ref q_o1_watch, .int c_o1_sayings, .ref q_o1_kind, .ref q_o1_a, .ref q_o1_b, .ref q_o1_by])), (q_o1_whose, .inl (cyI, (6, .inl c_o1_whose))), (q_o1_story, .inl (cyI, (6, .inl c_o1_story))), (q_o1_watch, .inl (cyI, (12, .inl c_o1_watch))), (q_o1_kind, .inl (cyI, (8, .inl c_o1_kind))), (q_o1_a, .inl (cyI, (8, .inl c_o1_a))), (q_o1_b, .inl (cyI, (8, .inl c_o1_b))), (q_o1_by, .inl (cyI, (8, .inl c_o1_by)))] H := hP
        have hD : va_D A [(q_this, .inr (4, [.int c_things, .ref q_whose, .ref q_story, .ref q_watch, .int c_sayings, .ref q_kind, .ref q_a, .ref q_b, .ref q_by])), (q_whose, .inl (cyI, (6, .inl c_whose))), (q_story, .inl (cyI, (6, .inl c_story))), (q_watch, .inl (cyI, (12, .inl c_watch))), (q_kind, .inl (cyI, (8, .inl (upd c_kind x2.toNatClampNeg (c_o1_kind x2.toNatClampNeg))))), (q_a, .inl (cyI, (8, .inl c_a))), (q_b, .inl (cyI, (8, .inl c_b))), (q_by, .inl (cyI, (8, .inl c_by))), (q_o1, .inr (4, [.int c_o1_things, .ref q_o1_whose, .ref q_o1_story, .ref q_o1_watch, .int c_o1_sayings, .ref q_o1_kind, .ref q_o1_a, .ref q_o1_b, .ref q_o1_by])), (q_o1_whose, .inl (cyI, (6, .inl c_o1_whose))), (q_o1_story, .inl (cyI, (6, .inl c_o1_story))), (q_o1_watch, .inl (cyI, (12, .inl c_o1_watch))), (q_o1_kind, .inl (cyI, (8, .inl c_o1_kind))), (q_o1_a, .inl (cyI, (8, .inl c_o1_a))), (q_o1_b, .inl (cyI, (8, .inl c_o1_b))), (q_o1_by, .inl (cyI, (8, .inl c_o1_by)))] := hD
        refine lv_aload_n hx hb dX4_copy_100 rfl (lv_at hl 0 rfl) ?_
        refine va_get (D := (dC, dI)) (ci := 4) (v := .ref q_a) (C := RX4) (T := TX4) (N := 9) hx hb hts iX4_copy_X4 hown hK hP 0 rfl rfl 6 (by decide) (hts _ (lX4_copy_7)) (fun _ h9 => h9) rfl dX4_copy_101 ?_
        refine lv_iload_n hx hb dX4_copy_104 rfl (lv_at hl 2 rfl) ?_
        refine lv_aload_n hx hb dX4_copy_105 rfl (lv_at hl 1 rfl) ?_
        refine va_get (D := (dC, dI)) (ci := 4) (v := .ref q_o1_a) (C := RX4) (T := TX4) (N := 9) hx hb hts iX4_copy_X4 hown hK hP 8 rfl rfl 6 (by decide) (hts _ (lX4_copy_7)) (fun _ h9 => h9) rfl dX4_copy_106 ?_
        refine lv_iload_n hx hb dX4_copy_109 rfl (lv_at hl 2 rfl) ?_
        obtain ⟨h_4, hw⟩ := hw
        refine va_iald hx hb hK hP 13 0 rfl rfl h_4 dX4_copy_110 ?_
        obtain ⟨h_5, hw⟩ := hw
        refine va_iast hx hb hK hP hD hS 5 0 rfl rfl h_5 dX4_copy_111 (fun H locs hP hD hS => ?_)
        have hP : va_P (dC, dI) vwCl [(q_this, .inr (4, [.int c_things, .ref q_whose, .ref q_story, .ref q_watch, .int c_sayings, .ref q_kind, .ref q_a, .ref q_b, .ref q_by])), (q_whose, .inl (cyI, (6, .inl c_whose))), (q_story, .inl (cyI, (6, .inl c_story))), (q_watch, .inl (cyI, (12, .inl c_watch))), (q_kind, .inl (cyI, (8, .inl (upd c_kind x2.toNatClampNeg (c_o1_kind x2.toNatClampNeg))))), (q_a, .inl (cyI, (8, .inl (upd c_a x2.toNatClampNeg (c_o1_a x2.toNatClampNeg))))), (q_b, .inl (cyI, (8, .inl c_b))), (q_by, .inl (cyI, (8, .inl c_by))), (q_o1, .inr (4, [.int c_o1_things, .ref q_o1_whose, .ref q_o1_story, .ref q_o1_watch, .int c_o1_sayings, .ref q_o1_kind, .ref q_o1_a, .ref q_o1_b, .ref q_o1_by])), (q_o1_whose, .inl (cyI, (6, .inl c_o1_whose))), (q_o1_story, .inl (cyI, (6, .inl c_o1_story))), (q_o1_watch, .inl (cyI, (12, .inl c_o1_watch))), (q_o1_kind, .inl (cyI, (8, .inl c_o1_kind))), (q_o1_a, .inl (cyI, (8, .inl c_o1_a))), (q_o1_b, .inl (cyI, (8, .inl c_o1_b))), (q_o1_by, .inl (cyI, (8, .inl c_o1_by)))] H := hP
        have hD : va_D A [(q_this, .inr (4, [.int c_things, .ref q_whose, .ref q_story, .ref q_watch, .int c_sayings, .ref q_kind, .ref q_a, .ref q_b, .ref q_by])), (q_whose, .inl (cyI, (6, .inl c_whose))), (q_story, .inl (cyI, (6, .inl c_story))), (q_watch, .inl (cyI, (12, .inl c_watch))), (q_kind, .inl (cyI, (8, .inl (upd c_kind x2.toNatClampNeg (c_o1_kind x2.toNatClampNeg))))), (q_a, .inl (cyI, (8, .inl (upd c_a x2.toNatClampNeg (c_o1_a x2.toNatClampNeg))))), (q_b, .inl (cyI, (8, .inl c_b))), (q_by, .inl (cyI, (8, .inl c_by))), (q_o1, .inr (4, [.int c_o1_things, .ref q_o1_whose, .ref q_o1_story, .ref q_o1_watch, .int c_o1_sayings, .ref q_o1_kind, .ref q_o1_a, .ref q_o1_b, .ref q_o1_by])), (q_o1_whose, .inl (cyI, (6, .inl c_o1_whose))), (q_o1_story, .inl (cyI, (6, .inl c_o1_story))), (q_o1_watch, .inl (cyI, (12, .inl c_o1_watch))), (q_o1_kind, .inl (cyI, (8, .inl c_o1_kind))), (q_o1_a, .inl (cyI, (8, .inl c_o1_a))), (q_o1_b, .inl (cyI, (8, .inl c_o1_b))), (q_o1_by, .inl (cyI, (8, .inl c_o1_by)))] := hD
        refine lv_aload_n hx hb dX4_copy_112 rfl (lv_at hl 0 rfl) ?_
        refine va_get (D := (dC, dI)) (ci := 4) (v := .ref q_b) (C := RX4) (T := TX4) (N := 9) hx hb hts iX4_copy_X4 hown hK hP 0 rfl rfl 7 (by decide) (hts _ (lX4_copy_8)) (fun _ h9 => h9) rfl dX4_copy_113 ?_
        refine lv_iload_n hx hb dX4_copy_116 rfl (lv_at hl 2 rfl) ?_
        refine lv_aload_n hx hb dX4_copy_117 rfl (lv_at hl 1 rfl) ?_
        refine va_get (D := (dC, dI)) (ci := 4) (v := .ref q_o1_b) (C := RX4) (T := TX4) (N := 9) hx hb hts iX4_copy_X4 hown hK hP 8 rfl rfl 7 (by decide) (hts _ (lX4_copy_8)) (fun _ h9 => h9) rfl dX4_copy_118 ?_
        refine lv_iload_n hx hb dX4_copy_121 rfl (lv_at hl 2 rfl) ?_
        obtain ⟨h_6, hw⟩ := hw
        refine va_iald hx hb hK hP 14 0 rfl rfl h_6 dX4_copy_122 ?_
        obtain ⟨h_7, hw⟩ := hw
        refine va_iast hx hb hK hP hD hS 6 0 rfl rfl h_7 dX4_copy_123 (fun H locs hP hD hS => ?_)
        have hP : va_P (dC, dI) vwCl [(q_this, .inr (4, [.int c_things, .ref q_whose, .ref q_story, .ref q_watch, .int c_sayings, .ref q_kind, .ref q_a, .ref q_b, .ref q_by])), (q_whose, .inl (cyI, (6, .inl c_whose))), (q_story, .inl (cyI, (6, .inl c_story))), (q_watch, .inl (cyI, (12, .inl c_watch))), (q_kind, .inl (cyI, (8, .inl (upd c_kind x2.toNatClampNeg (c_o1_kind x2.toNatClampNeg))))), (q_a, .inl (cyI, (8, .inl (upd c_a x2.toNatClampNeg (c_o1_a x2.toNatClampNeg))))), (q_b, .inl (cyI, (8, .inl (upd c_b x2.toNatClampNeg (c_o1_b x2.toNatClampNeg))))), (q_by, .inl (cyI, (8, .inl c_by))), (q_o1, .inr (4, [.int c_o1_things, .ref q_o1_whose, .ref q_o1_story, .ref q_o1_watch, .int c_o1_sayings, .ref q_o1_kind, .ref q_o1_a, .ref q_o1_b, .ref q_o1_by])), (q_o1_whose, .inl (cyI, (6, .inl c_o1_whose))), (q_o1_story, .inl (cyI, (6, .inl c_o1_story))), (q_o1_watch, .inl (cyI, (12, .inl c_o1_watch))), (q_o1_kind, .inl (cyI, (8, .inl c_o1_kind))), (q_o1_a, .inl (cyI, (8, .inl c_o1_a))), (q_o1_b, .inl (cyI, (8, .inl c_o1_b))), (q_o1_by, .inl (cyI, (8, .inl c_o1_by)))] H := hP
        have hD : va_D A [(q_this, .inr (4, [.int c_things, .ref q_whose, .ref q_story, .ref q_watch, .int c_sayings, .ref q_kind, .ref q_a, .ref q_b, .ref q_by])), (q_whose, .inl (cyI, (6, .inl c_whose))), (q_story, .inl (cyI, (6, .inl c_story))), (q_watch, .inl (cyI, (12, .inl c_watch))), (q_kind, .inl (cyI, (8, .inl (upd c_kind x2.toNatClampNeg (c_o1_kind x2.toNatClampNeg))))), (q_a, .inl (cyI, (8, .inl (upd c_a x2.toNatClampNeg (c_o1_a x2.toNatClampNeg))))), (q_b, .inl (cyI, (8, .inl (upd c_b x2.toNatClampNeg (c_o1_b x2.toNatClampNeg))))), (q_by, .inl (cyI, (8, .inl c_by))), (q_o1, .inr (4, [.int c_o1_things, .ref q_o1_whose, .ref q_o1_story, .ref q_o1_watch, .int c_o1_sayings, .ref q_o1_kind, .ref q_o1_a, .ref q_o1_b, .ref q_o1_by])), (q_o1_whose, .inl (cyI, (6, .inl c_o1_whose))), (q_o1_story, .inl (cyI, (6, .inl c_o1_story))), (q_o1_watch, .inl (cyI, (12, .inl c_o1_watch))), (q_o1_kind, .inl (cyI, (8, .inl c_o1_kind))), (q_o1_a, .inl (cyI, (8, .inl c_o1_a))), (q_o1_b, .inl (cyI, (8, .inl c_o1_b))), (q_o1_by, .inl (cyI, (8, .inl c_o1_by)))] := hD
        refine lv_aload_n hx hb dX4_copy_124 rfl (lv_at hl 0 rfl) ?_
        refine va_get (D := (dC, dI)) (ci := 4) (v := .ref q_by) (C := RX4) (T := TX4) (N := 9) hx hb hts iX4_copy_X4 hown hK hP 0 rfl rfl 8 (by decide) (hts _ (lX4_copy_9)) (fun _ h9 => h9) rfl dX4_copy_125 ?_
        refine lv_iload_n hx hb dX4_copy_128 rfl (lv_at hl 2 rfl) ?_
        refine lv_aload_n hx hb dX4_copy_129 rfl (lv_at hl 1 rfl) ?_
        refine va_get (D := (dC, dI)) (ci := 4) (v := .ref q_o1_by) (C := RX4) (T := TX4) (N := 9) hx hb hts iX4_copy_X4 hown hK hP 8 rfl rfl 8 (by decide) (hts _ (lX4_copy_9)) (fun _ h9 => h9) rfl dX4_copy_130 ?_
        refine lv_iload_n hx hb dX4_copy_133 rfl (lv_at hl 2 rfl) ?_
        obtain ⟨h_8, hw⟩ := hw
        refine va_iald hx hb hK hP 15 0 rfl rfl h_8 dX4_copy_134 ?_
        obtain ⟨h_9, hw⟩ := hw
        refine va_iast hx hb hK hP hD hS 7 0 rfl rfl h_9 dX4_copy_135 (fun H locs hP hD hS => ?_)
        have hP : va_P (dC, dI) vwCl [(q_this, .inr (4, [.int c_things, .ref q_whose, .ref q_story, .ref q_watch, .int c_sayings, .ref q_kind, .ref q_a, .ref q_b, .ref q_by])), (q_whose, .inl (cyI, (6, .inl c_whose))), (q_story, .inl (cyI, (6, .inl c_story))), (q_watch, .inl (cyI, (12, .inl c_watch))), (q_kind, .inl (cyI, (8, .inl (upd c_kind x2.toNatClampNeg (c_o1_kind x2.toNatClampNeg))))), (q_a, .inl (cyI, (8, .inl (upd c_a x2.toNatClampNeg (c_o1_a x2.toNatClampNeg))))), (q_b, .inl (cyI, (8, .inl (upd c_b x2.toNatClampNeg (c_o1_b x2.toNatClampNeg))))), (q_by, .inl (cyI, (8, .inl (upd c_by x2.toNatClampNeg (c_o1_by x2.toNatClampNeg))))), (q_o1, .inr (4, [.int c_o1_things, .ref q_o1_whose, .ref q_o1_story, .ref q_o1_watch, .int c_o1_sayings, .ref q_o1_kind, .ref q_o1_a, .ref q_o1_b, .ref q_o1_by])), (q_o1_whose, .inl (cyI, (6, .inl c_o1_whose))), (q_o1_story, .inl (cyI, (6, .inl c_o1_story))), (q_o1_watch, .inl (cyI, (12, .inl c_o1_watch))), (q_o1_kind, .inl (cyI, (8, .inl c_o1_kind))), (q_o1_a, .inl (cyI, (8, .inl c_o1_a))), (q_o1_b, .inl (cyI, (8, .inl c_o1_b))), (q_o1_by, .inl (cyI, (8, .inl c_o1_by)))] H := hP
        have hD : va_D A [(q_this, .inr (4, [.int c_things, .ref q_whose, .ref q_story, .ref q_watch, .int c_sayings, .ref q_kind, .ref q_a, .ref q_b, .ref q_by])), (q_whose, .inl (cyI, (6, .inl c_whose))), (q_story, .inl (cyI, (6, .inl c_story))), (q_watch, .inl (cyI, (12, .inl c_watch))), (q_kind, .inl (cyI, (8, .inl (upd c_kind x2.toNatClampNeg (c_o1_kind x2.toNatClampNeg))))), (q_a, .inl (cyI, (8, .inl (upd c_a x2.toNatClampNeg (c_o1_a x2.toNatClampNeg))))), (q_b, .inl (cyI, (8, .inl (upd c_b x2.toNatClampNeg (c_o1_b x2.toNatClampNeg))))), (q_by, .inl (cyI, (8, .inl (upd c_by x2.toNatClampNeg (c_o1_by x2.toNatClampNeg))))), (q_o1, .inr (4, [.int c_o1_things, .ref q_o1_whose, .ref q_o1_story, .ref q_o1_watch, .int c_o1_sayings, .ref q_o1_kind, .ref q_o1_a, .ref q_o1_b, .ref q_o1_by])), (q_o1_whose, .inl (cyI, (6, .inl c_o1_whose))), (q_o1_story, .inl (cyI, (6, .inl c_o1_story))), (q_o1_watch, .inl (cyI, (12, .inl c_o1_watch))), (q_o1_kind, .inl (cyI, (8, .inl c_o1_kind))), (q_o1_a, .inl (cyI, (8, .inl c_o1_a))), (q_o1_b, .inl (cyI, (8, .inl c_o1_b))), (q_o1_by, .inl (cyI, (8, .inl c_o1_by)))] := hD
        refine lv_iinc (v := (x2 + 1)) (lv' := [(2, .int (x2 + 1)), (0, .ref q_this), (1, .ref q_o1)]) hx hb dX4_copy_136 hl (k := 2) rfl rfl (by decide) rfl (fun ls hl => ?_)
        refine lv_goto (tgt := 82) hx hb dX4_copy_139 (by decide) ?_
        exact ih (x2 + 1) c_things c_sayings c_whose c_story c_watch (upd c_kind x2.toNatClampNeg (c_o1_kind x2.toNatClampNeg)) (upd c_a x2.toNatClampNeg (c_o1_a x2.toNatClampNeg)) (upd c_b x2.toNatClampNeg (c_o1_b x2.toNatClampNeg)) (upd c_by x2.toNatClampNeg (c_o1_by x2.toNatClampNeg)) H locs ls hP hD hS (lv_sub hl [1, 2, 0] rfl) hw
  have k80 : ∀ (c_things : Int32) (c_sayings : Int32) (c_whose : Nat → Int32) (c_story : Nat → Int32) (c_watch : Nat → Int32) (c_kind : Nat → Int32) (c_a : Nat → Int32) (c_b : Nat → Int32) (c_by : Nat → Int32) (H : Heap) (locs : List Loc) (ls : Array Slot), va_P (dC, dI) vwCl [(q_this, .inr (4, [.int c_things, .ref q_whose, .ref q_story, .ref q_watch, .int c_sayings, .ref q_kind, .ref q_a, .ref q_b, .ref q_by])), (q_whose, .inl (cyI, (6, .inl c_whose))), (q_story, .inl (cyI, (6, .inl c_story))), (q_watch, .inl (cyI, (12, .inl c_watch))), (q_kind, .inl (cyI, (8, .inl c_kind))), (q_a, .inl (cyI, (8, .inl c_a))), (q_b, .inl (cyI, (8, .inl c_b))), (q_by, .inl (cyI, (8, .inl c_by))), (q_o1, .inr (4, [.int c_o1_things, .ref q_o1_whose, .ref q_o1_story, .ref q_o1_watch, .int c_o1_sayings, .ref q_o1_kind, .ref q_o1_a, .ref q_o1_b, .ref q_o1_by])), (q_o1_whose, .inl (cyI, (6, .inl c_o1_whose))), (q_o1_story, .inl (cyI, (6, .inl c_o1_story))), (q_o1_watch, .inl (cyI, (12, .inl c_o1_watch))), (q_o1_kind, .inl (cyI, (8, .inl c_o1_kind))), (q_o1_a, .inl (cyI, (8, .inl c_o1_a))), (q_o1_b, .inl (cyI, (8, .inl c_o1_b))), (q_o1_by, .inl (cyI, (8, .inl c_o1_by)))] H → va_D A [(q_this, .inr (4, [.int c_things, .ref q_whose, .ref q_story, .ref q_watch, .int c_sayings, .ref q_kind, .ref q_a, .ref q_b, .ref q_by])), (q_whose, .inl (cyI, (6, .inl c_whose))), (q_story, .inl (cyI, (6, .inl c_story))), (q_watch, .inl (cyI, (12, .inl c_watch))), (q_kind, .inl (cyI, (8, .inl c_kind))), (q_a, .inl (cyI, (8, .inl c_a))), (q_b, .inl (cyI, (8, .inl c_b))), (q_by, .inl (cyI, (8, .inl c_by))), (q_o1, .inr (4, [.int c_o1_things, .ref q_o1_whose, .ref q_o1_story, .ref q_o1_watch, .int c_o1_sayings, .ref q_o1_kind, .ref q_o1_a, .ref q_o1_b, .ref q_o1_by])), (q_o1_whose, .inl (cyI, (6, .inl c_o1_whose))), (q_o1_story, .inl (cyI, (6, .inl c_o1_story))), (q_o1_watch, .inl (cyI, (12, .inl c_o1_watch))), (q_o1_kind, .inl (cyI, (8, .inl c_o1_kind))), (q_o1_a, .inl (cyI, (8, .inl c_o1_a))), (q_o1_b, .inl (cyI, (8, .inl c_o1_b))), (q_o1_by, .inl (cyI, (8, .inl c_o1_by)))] → va_S A s.heap H locs → lv_has ls 3 [(0, .ref q_this), (1, .ref q_o1)] → wp_X4_copy_b80 Q c_o1_kind c_o1_a c_o1_b c_o1_by c_things c_sayings c_whose c_story c_watch c_kind c_a c_b c_by → W p l e rm_X4_copy s m args below meth c H locs 0 0 ZZ (F0 m 80 ls []) := by
    intro c_things c_sayings c_whose c_story c_watch c_kind c_a c_b c_by H locs ls hP hD hS hl hw
    unfold wp_X4_copy_b80 at hw
    refine lv_iconst (v := 0) hx hb dX4_copy_80 (by decide) ?_
    refine lv_istore_n (lv' := [(2, .int (0 : Int32)), (0, .ref q_this), (1, .ref q_o1)]) hx hb dX4_copy_81 rfl hl (by decide) rfl (fun ls hl => ?_)
    obtain ⟨n_10, hw⟩ := hw
    exact k82 n_10 (0 : Int32) c_things c_sayings c_whose c_story c_watch c_kind c_a c_b c_by H locs ls hP hD hS (lv_sub hl [1, 2, 0] rfl) hw
  have k56 : ∀ (n : Nat), ∀ (x2 : Int32) (c_things : Int32) (c_sayings : Int32) (c_whose : Nat → Int32) (c_story : Nat → Int32) (c_watch : Nat → Int32) (c_kind : Nat → Int32) (c_a : Nat → Int32) (c_b : Nat → Int32) (c_by : Nat → Int32) (H : Heap) (locs : List Loc) (ls : Array Slot), va_P (dC, dI) vwCl [(q_this, .inr (4, [.int c_things, .ref q_whose, .ref q_story, .ref q_watch, .int c_sayings, .ref q_kind, .ref q_a, .ref q_b, .ref q_by])), (q_whose, .inl (cyI, (6, .inl c_whose))), (q_story, .inl (cyI, (6, .inl c_story))), (q_watch, .inl (cyI, (12, .inl c_watch))), (q_kind, .inl (cyI, (8, .inl c_kind))), (q_a, .inl (cyI, (8, .inl c_a))), (q_b, .inl (cyI, (8, .inl c_b))), (q_by, .inl (cyI, (8, .inl c_by))), (q_o1, .inr (4, [.int c_o1_things, .ref q_o1_whose, .ref q_o1_story, .ref q_o1_watch, .int c_o1_sayings, .ref q_o1_kind, .ref q_o1_a, .ref q_o1_b, .ref q_o1_by])), (q_o1_whose, .inl (cyI, (6, .inl c_o1_whose))), (q_o1_story, .inl (cyI, (6, .inl c_o1_story))), (q_o1_watch, .inl (cyI, (12, .inl c_o1_watch))), (q_o1_kind, .inl (cyI, (8, .inl c_o1_kind))), (q_o1_a, .inl (cyI, (8, .inl c_o1_a))), (q_o1_b, .inl (cyI, (8, .inl c_o1_b))), (q_o1_by, .inl (cyI, (8, .inl c_o1_by)))] H → va_D A [(q_this, .inr (4, [.int c_things, .ref q_whose, .ref q_story, .ref q_watch, .int c_sayings, .ref q_kind, .ref q_a, .ref q_b, .ref q_by])), (q_whose, .inl (cyI, (6, .inl c_whose))), (q_story, .inl (cyI, (6, .inl c_story))), (q_watch, .inl (cyI, (12, .inl c_watch))), (q_kind, .inl (cyI, (8, .inl c_kind))), (q_a, .inl (cyI, (8, .inl c_a))), (q_b, .inl (cyI, (8, .inl c_b))), (q_by, .inl (cyI, (8, .inl c_by))), (q_o1, .inr (4, [.int c_o1_things, .ref q_o1_whose, .ref q_o1_story, .ref q_o1_watch, .int c_o1_sayings, .ref q_o1_kind, .ref q_o1_a, .ref q_o1_b, .ref q_o1_by])), (q_o1_whose, .inl (cyI, (6, .inl c_o1_whose))), (q_o1_story, .inl (cyI, (6, .inl c_o1_story))), (q_o1_watch, .inl (cyI, (12, .inl c_o1_watch))), (q_o1_kind, .inl (cyI, (8, .inl c_o1_kind))), (q_o1_a, .inl (cyI, (8, .inl c_o1_a))), (q_o1_b, .inl (cyI, (8, .inl c_o1_b))), (q_o1_by, .inl (cyI, (8, .inl c_o1_by)))] → va_S A s.heap H locs → lv_has ls 3 [(0, .ref q_this), (1, .ref q_o1), (2, .int x2)] → wp_X4_copy_b56 Q c_o1_watch c_o1_kind c_o1_a c_o1_b c_o1_by n x2 c_things c_sayings c_whose c_story c_watch c_kind c_a c_b c_by → W p l e rm_X4_copy s m args below meth c H locs 0 0 ZZ (F0 m 56 ls []) := by
    intro n
    induction n with
    | zero =>
      intro x2 c_things c_sayings c_whose c_story c_watch c_kind c_a c_b c_by H locs ls hP hD hS hl hw
      exact False.elim hw
    | succ n ih =>
      intro x2 c_things c_sayings c_whose c_story c_watch c_kind c_a c_b c_by H locs ls hP hD hS hl hw
      unfold wp_X4_copy_b56 at hw
      refine lv_iload_n hx hb dX4_copy_56 rfl (lv_at hl 2 rfl) ?_
      refine lv_bipush (v := 12) hx hb dX4_copy_57 (by decide) ?_
      refine lv_icmp_ge (tgt := 80) hx hb dX4_copy_59 (by decide) (fun b_11 => ?_) (fun b_11 => ?_)
      · replace hw := hw.1 b_11
        exact k80 c_things c_sayings c_whose c_story c_watch c_kind c_a c_b c_by H locs ls hP hD hS (lv_sub hl [0, 1] rfl) hw
      · replace hw := hw.2 b_11
        refine lv_aload_n hx hb dX4_copy_62 rfl (lv_at hl 0 rfl) ?_
        refine va_get (D := (dC, dI)) (ci := 4) (v := .ref q_watch) (C := RX4) (T := TX4) (N := 9) hx hb hts iX4_copy_X4 hown hK hP 0 rfl rfl 3 (by decide) (hts _ (lX4_copy_5)) (fun _ h9 => h9) rfl dX4_copy_63 ?_
        refine lv_iload_n hx hb dX4_copy_66 rfl (lv_at hl 2 rfl) ?_
        refine lv_aload_n hx hb dX4_copy_67 rfl (lv_at hl 1 rfl) ?_
        refine va_get (D := (dC, dI)) (ci := 4) (v := .ref q_o1_watch) (C := RX4) (T := TX4) (N := 9) hx hb hts iX4_copy_X4 hown hK hP 8 rfl rfl 3 (by decide) (hts _ (lX4_copy_5)) (fun _ h9 => h9) rfl dX4_copy_68 ?_
        refine lv_iload_n hx hb dX4_copy_71 rfl (lv_at hl 2 rfl) ?_
        obtain ⟨h_12, hw⟩ := hw
        refine va_iald hx hb hK hP 11 0 rfl rfl h_12 dX4_copy_72 ?_
        obtain ⟨h_13, hw⟩ := hw
        refine va_iast hx hb hK hP hD hS 3 0 rfl rfl h_13 dX4_copy_73 (fun H locs hP hD hS => ?_)
        have hP : va_P (dC, dI) vwCl [(q_this, .inr (4, [.int c_things, .ref q_whose, .ref q_story, .ref q_watch, .int c_sayings, .ref q_kind, .ref q_a, .ref q_b, .ref q_by])), (q_whose, .inl (cyI, (6, .inl c_whose))), (q_story, .inl (cyI, (6, .inl c_story))), (q_watch, .inl (cyI, (12, .inl (upd c_watch x2.toNatClampNeg (c_o1_watch x2.toNatClampNeg))))), (q_kind, .inl (cyI, (8, .inl c_kind))), (q_a, .inl (cyI, (8, .inl c_a))), (q_b, .inl (cyI, (8, .inl c_b))), (q_by, .inl (cyI, (8, .inl c_by))), (q_o1, .inr (4, [.int c_o1_things, .ref q_o1_whose, .ref q_o1_story, .ref q_o1_watch, .int c_o1_sayings, .ref q_o1_kind, .ref q_o1_a, .ref q_o1_b, .ref q_o1_by])), (q_o1_whose, .inl (cyI, (6, .inl c_o1_whose))), (q_o1_story, .inl (cyI, (6, .inl c_o1_story))), (q_o1_watch, .inl (cyI, (12, .inl c_o1_watch))), (q_o1_kind, .inl (cyI, (8, .inl c_o1_kind))), (q_o1_a, .inl (cyI, (8, .inl c_o1_a))), (q_o1_b, .inl (cyI, (8, .inl c_o1_b))), (q_o1_by, .inl (cyI, (8, .inl c_o1_by)))] H := hP
        have hD : va_D A [(q_this, .inr (4, [.int c_things, .ref q_whose, .ref q_story, .ref q_watch, .int c_sayings, .ref q_kind, .ref q_a, .ref q_b, .ref q_by])), (q_whose, .inl (cyI, (6, .inl c_whose))), (q_story, .inl (cyI, (6, .inl c_story))), (q_watch, .inl (cyI, (12, .inl (upd c_watch x2.toNatClampNeg (c_o1_watch x2.toNatClampNeg))))), (q_kind, .inl (cyI, (8, .inl c_kind))), (q_a, .inl (cyI, (8, .inl c_a))), (q_b, .inl (cyI, (8, .inl c_b))), (q_by, .inl (cyI, (8, .inl c_by))), (q_o1, .inr (4, [.int c_o1_things, .ref q_o1_whose, .ref q_o1_story, .ref q_o1_watch, .int c_o1_sayings, .ref q_o1_kind, .ref q_o1_a, .ref q_o1_b, .ref q_o1_by])), (q_o1_whose, .inl (cyI, (6, .inl c_o1_whose))), (q_o1_story, .inl (cyI, (6, .inl c_o1_story))), (q_o1_watch, .inl (cyI, (12, .inl c_o1_watch))), (q_o1_kind, .inl (cyI, (8, .inl c_o1_kind))), (q_o1_a, .inl (cyI, (8, .inl c_o1_a))), (q_o1_b, .inl (cyI, (8, .inl c_o1_b))), (q_o1_by, .inl (cyI, (8, .inl c_o1_by)))] := hD
        refine lv_iinc (v := (x2 + 1)) (lv' := [(2, .int (x2 + 1)), (0, .ref q_this), (1, .ref q_o1)]) hx hb dX4_copy_74 hl (k := 2) rfl rfl (by decide) rfl (fun ls hl => ?_)
        refine lv_goto (tgt := 56) hx hb dX4_copy_77 (by decide) ?_
        exact ih (x2 + 1) c_things c_sayings c_whose c_story (upd c_watch x2.toNatClampNeg (c_o1_watch x2.toNatClampNeg)) c_kind c_a c_b c_by H locs ls hP hD hS (lv_sub hl [1, 2, 0] rfl) hw
  have k54 : ∀ (c_things : Int32) (c_sayings : Int32) (c_whose : Nat → Int32) (c_story : Nat → Int32) (c_watch : Nat → Int32) (c_kind : Nat → Int32) (c_a : Nat → Int32) (c_b : Nat → Int32) (c_by : Nat → Int32) (H : Heap) (locs : List Loc) (ls : Array Slot), va_P (dC, dI) vwCl [(q_this, .inr (4, [.int c_things, .ref q_whose, .ref q_story, .ref q_watch, .int c_sayings, .ref q_kind, .ref q_a, .ref q_b, .ref q_by])), (q_whose, .inl (cyI, (6, .inl c_whose))), (q_story, .inl (cyI, (6, .inl c_story))), (q_watch, .inl (cyI, (12, .inl c_watch))), (q_kind, .inl (cyI, (8, .inl c_kind))), (q_a, .inl (cyI, (8, .inl c_a))), (q_b, .inl (cyI, (8, .inl c_b))), (q_by, .inl (cyI, (8, .inl c_by))), (q_o1, .inr (4, [.int c_o1_things, .ref q_o1_whose, .ref q_o1_story, .ref q_o1_watch, .int c_o1_sayings, .ref q_o1_kind, .ref q_o1_a, .ref q_o1_b, .ref q_o1_by])), (q_o1_whose, .inl (cyI, (6, .inl c_o1_whose))), (q_o1_story, .inl (cyI, (6, .inl c_o1_story))), (q_o1_watch, .inl (cyI, (12, .inl c_o1_watch))), (q_o1_kind, .inl (cyI, (8, .inl c_o1_kind))), (q_o1_a, .inl (cyI, (8, .inl c_o1_a))), (q_o1_b, .inl (cyI, (8, .inl c_o1_b))), (q_o1_by, .inl (cyI, (8, .inl c_o1_by)))] H → va_D A [(q_this, .inr (4, [.int c_things, .ref q_whose, .ref q_story, .ref q_watch, .int c_sayings, .ref q_kind, .ref q_a, .ref q_b, .ref q_by])), (q_whose, .inl (cyI, (6, .inl c_whose))), (q_story, .inl (cyI, (6, .inl c_story))), (q_watch, .inl (cyI, (12, .inl c_watch))), (q_kind, .inl (cyI, (8, .inl c_kind))), (q_a, .inl (cyI, (8, .inl c_a))), (q_b, .inl (cyI, (8, .inl c_b))), (q_by, .inl (cyI, (8, .inl c_by))), (q_o1, .inr (4, [.int c_o1_things, .ref q_o1_whose, .ref q_o1_story, .ref q_o1_watch, .int c_o1_sayings, .ref q_o1_kind, .ref q_o1_a, .ref q_o1_b, .ref q_o1_by])), (q_o1_whose, .inl (cyI, (6, .inl c_o1_whose))), (q_o1_story, .inl (cyI, (6, .inl c_o1_story))), (q_o1_watch, .inl (cyI, (12, .inl c_o1_watch))), (q_o1_kind, .inl (cyI, (8, .inl c_o1_kind))), (q_o1_a, .inl (cyI, (8, .inl c_o1_a))), (q_o1_b, .inl (cyI, (8, .inl c_o1_b))), (q_o1_by, .inl (cyI, (8, .inl c_o1_by)))] → va_S A s.heap H locs → lv_has ls 3 [(0, .ref q_this), (1, .ref q_o1)] → wp_X4_copy_b54 Q c_o1_watch c_o1_kind c_o1_a c_o1_b c_o1_by c_things c_sayings c_whose c_story c_watch c_kind c_a c_b c_by → W p l e rm_X4_copy s m args below meth c H locs 0 0 ZZ (F0 m 54 ls []) := by
    intro c_things c_sayings c_whose c_story c_watch c_kind c_a c_b c_by H locs ls hP hD hS hl hw
    unfold wp_X4_copy_b54 at hw
    refine lv_iconst (v := 0) hx hb dX4_copy_54 (by decide) ?_
    refine lv_istore_n (lv' := [(2, .int (0 : Int32)), (0, .ref q_this), (1, .ref q_o1)]) hx hb dX4_copy_55 rfl hl (by decide) rfl (fun ls hl => ?_)
    obtain ⟨n_14, hw⟩ := hw
    exact k56 n_14 (0 : Int32) c_things c_sayings c_whose c_story c_watch c_kind c_a c_b c_by H locs ls hP hD hS (lv_sub hl [1, 2, 0] rfl) hw
  have k18 : ∀ (n : Nat), ∀ (x2 : Int32) (c_things : Int32) (c_sayings : Int32) (c_whose : Nat → Int32) (c_story : Nat → Int32) (c_watch : Nat → Int32) (c_kind : Nat → Int32) (c_a : Nat → Int32) (c_b : Nat → Int32) (c_by : Nat → Int32) (H : Heap) (locs : List Loc) (ls : Array Slot), va_P (dC, dI) vwCl [(q_this, .inr (4, [.int c_things, .ref q_whose, .ref q_story, .ref q_watch, .int c_sayings, .ref q_kind, .ref q_a, .ref q_b, .ref q_by])), (q_whose, .inl (cyI, (6, .inl c_whose))), (q_story, .inl (cyI, (6, .inl c_story))), (q_watch, .inl (cyI, (12, .inl c_watch))), (q_kind, .inl (cyI, (8, .inl c_kind))), (q_a, .inl (cyI, (8, .inl c_a))), (q_b, .inl (cyI, (8, .inl c_b))), (q_by, .inl (cyI, (8, .inl c_by))), (q_o1, .inr (4, [.int c_o1_things, .ref q_o1_whose, .ref q_o1_story, .ref q_o1_watch, .int c_o1_sayings, .ref q_o1_kind, .ref q_o1_a, .ref q_o1_b, .ref q_o1_by])), (q_o1_whose, .inl (cyI, (6, .inl c_o1_whose))), (q_o1_story, .inl (cyI, (6, .inl c_o1_story))), (q_o1_watch, .inl (cyI, (12, .inl c_o1_watch))), (q_o1_kind, .inl (cyI, (8, .inl c_o1_kind))), (q_o1_a, .inl (cyI, (8, .inl c_o1_a))), (q_o1_b, .inl (cyI, (8, .inl c_o1_b))), (q_o1_by, .inl (cyI, (8, .inl c_o1_by)))] H → va_D A [(q_this, .inr (4, [.int c_things, .ref q_whose, .ref q_story, .ref q_watch, .int c_sayings, .ref q_kind, .ref q_a, .ref q_b, .ref q_by])), (q_whose, .inl (cyI, (6, .inl c_whose))), (q_story, .inl (cyI, (6, .inl c_story))), (q_watch, .inl (cyI, (12, .inl c_watch))), (q_kind, .inl (cyI, (8, .inl c_kind))), (q_a, .inl (cyI, (8, .inl c_a))), (q_b, .inl (cyI, (8, .inl c_b))), (q_by, .inl (cyI, (8, .inl c_by))), (q_o1, .inr (4, [.int c_o1_things, .ref q_o1_whose, .ref q_o1_story, .ref q_o1_watch, .int c_o1_sayings, .ref q_o1_kind, .ref q_o1_a, .ref q_o1_b, .ref q_o1_by])), (q_o1_whose, .inl (cyI, (6, .inl c_o1_whose))), (q_o1_story, .inl (cyI, (6, .inl c_o1_story))), (q_o1_watch, .inl (cyI, (12, .inl c_o1_watch))), (q_o1_kind, .inl (cyI, (8, .inl c_o1_kind))), (q_o1_a, .inl (cyI, (8, .inl c_o1_a))), (q_o1_b, .inl (cyI, (8, .inl c_o1_b))), (q_o1_by, .inl (cyI, (8, .inl c_o1_by)))] → va_S A s.heap H locs → lv_has ls 3 [(0, .ref q_this), (1, .ref q_o1), (2, .int x2)] → wp_X4_copy_b18 Q c_o1_whose c_o1_story c_o1_watch c_o1_kind c_o1_a c_o1_b c_o1_by n x2 c_things c_sayings c_whose c_story c_watch c_kind c_a c_b c_by → W p l e rm_X4_copy s m args below meth c H locs 0 0 ZZ (F0 m 18 ls []) := by
    intro n
    induction n with
    | zero =>
      intro x2 c_things c_sayings c_whose c_story c_watch c_kind c_a c_b c_by H locs ls hP hD hS hl hw
      exact False.elim hw
    | succ n ih =>
      intro x2 c_things c_sayings c_whose c_story c_watch c_kind c_a c_b c_by H locs ls hP hD hS hl hw
      unfold wp_X4_copy_b18 at hw
      refine lv_iload_n hx hb dX4_copy_18 rfl (lv_at hl 2 rfl) ?_
      refine lv_bipush (v := 6) hx hb dX4_copy_19 (by decide) ?_
      refine lv_icmp_ge (tgt := 54) hx hb dX4_copy_21 (by decide) (fun b_15 => ?_) (fun b_15 => ?_)
      · replace hw := hw.1 b_15
        exact k54 c_things c_sayings c_whose c_story c_watch c_kind c_a c_b c_by H locs ls hP hD hS (lv_sub hl [0, 1] rfl) hw
      · replace hw := hw.2 b_15
        refine lv_aload_n hx hb dX4_copy_24 rfl (lv_at hl 0 rfl) ?_
        refine va_get (D := (dC, dI)) (ci := 4) (v := .ref q_whose) (C := RX4) (T := TX4) (N := 9) hx hb hts iX4_copy_X4 hown hK hP 0 rfl rfl 1 (by decide) (hts _ (lX4_copy_3)) (fun _ h9 => h9) rfl dX4_copy_25 ?_
        refine lv_iload_n hx hb dX4_copy_28 rfl (lv_at hl 2 rfl) ?_
        refine lv_aload_n hx hb dX4_copy_29 rfl (lv_at hl 1 rfl) ?_
        refine va_get (D := (dC, dI)) (ci := 4) (v := .ref q_o1_whose) (C := RX4) (T := TX4) (N := 9) hx hb hts iX4_copy_X4 hown hK hP 8 rfl rfl 1 (by decide) (hts _ (lX4_copy_3)) (fun _ h9 => h9) rfl dX4_copy_30 ?_
        refine lv_iload_n hx hb dX4_copy_33 rfl (lv_at hl 2 rfl) ?_
        obtain ⟨h_16, hw⟩ := hw
        refine va_iald hx hb hK hP 9 0 rfl rfl h_16 dX4_copy_34 ?_
        obtain ⟨h_17, hw⟩ := hw
        refine va_iast hx hb hK hP hD hS 1 0 rfl rfl h_17 dX4_copy_35 (fun H locs hP hD hS => ?_)
        have hP : va_P (dC, dI) vwCl [(q_this, .inr (4, [.int c_things, .ref q_whose, .ref q_story, .ref q_watch, .int c_sayings, .ref q_kind, .ref q_a, .ref q_b, .ref q_by])), (q_whose, .inl (cyI, (6, .inl (upd c_whose x2.toNatClampNeg (c_o1_whose x2.toNatClampNeg))))), (q_story, .inl (cyI, (6, .inl c_story))), (q_watch, .inl (cyI, (12, .inl c_watch))), (q_kind, .inl (cyI, (8, .inl c_kind))), (q_a, .inl (cyI, (8, .inl c_a))), (q_b, .inl (cyI, (8, .inl c_b))), (q_by, .inl (cyI, (8, .inl c_by))), (q_o1, .inr (4, [.int c_o1_things, .ref q_o1_whose, .ref q_o1_story, .ref q_o1_watch, .int c_o1_sayings, .ref q_o1_kind, .ref q_o1_a, .ref q_o1_b, .ref q_o1_by])), (q_o1_whose, .inl (cyI, (6, .inl c_o1_whose))), (q_o1_story, .inl (cyI, (6, .inl c_o1_story))), (q_o1_watch, .inl (cyI, (12, .inl c_o1_watch))), (q_o1_kind, .inl (cyI, (8, .inl c_o1_kind))), (q_o1_a, .inl (cyI, (8, .inl c_o1_a))), (q_o1_b, .inl (cyI, (8, .inl c_o1_b))), (q_o1_by, .inl (cyI, (8, .inl c_o1_by)))] H := hP
        have hD : va_D A [(q_this, .inr (4, [.int c_things, .ref q_whose, .ref q_story, .ref q_watch, .int c_sayings, .ref q_kind, .ref q_a, .ref q_b, .ref q_by])), (q_whose, .inl (cyI, (6, .inl (upd c_whose x2.toNatClampNeg (c_o1_whose x2.toNatClampNeg))))), (q_story, .inl (cyI, (6, .inl c_story))), (q_watch, .inl (cyI, (12, .inl c_watch))), (q_kind, .inl (cyI, (8, .inl c_kind))), (q_a, .inl (cyI, (8, .inl c_a))), (q_b, .inl (cyI, (8, .inl c_b))), (q_by, .inl (cyI, (8, .inl c_by))), (q_o1, .inr (4, [.int c_o1_things, .ref q_o1_whose, .ref q_o1_story, .ref q_o1_watch, .int c_o1_sayings, .ref q_o1_kind, .ref q_o1_a, .ref q_o1_b, .ref q_o1_by])), (q_o1_whose, .inl (cyI, (6, .inl c_o1_whose))), (q_o1_story, .inl (cyI, (6, .inl c_o1_story))), (q_o1_watch, .inl (cyI, (12, .inl c_o1_watch))), (q_o1_kind, .inl (cyI, (8, .inl c_o1_kind))), (q_o1_a, .inl (cyI, (8, .inl c_o1_a))), (q_o1_b, .inl (cyI, (8, .inl c_o1_b))), (q_o1_by, .inl (cyI, (8, .inl c_o1_by)))] := hD
        refine lv_aload_n hx hb dX4_copy_36 rfl (lv_at hl 0 rfl) ?_
        refine va_get (D := (dC, dI)) (ci := 4) (v := .ref q_story) (C := RX4) (T := TX4) (N := 9) hx hb hts iX4_copy_X4 hown hK hP 0 rfl rfl 2 (by decide) (hts _ (lX4_copy_4)) (fun _ h9 => h9) rfl dX4_copy_37 ?_
        refine lv_iload_n hx hb dX4_copy_40 rfl (lv_at hl 2 rfl) ?_
        refine lv_aload_n hx hb dX4_copy_41 rfl (lv_at hl 1 rfl) ?_
        refine va_get (D := (dC, dI)) (ci := 4) (v := .ref q_o1_story) (C := RX4) (T := TX4) (N := 9) hx hb hts iX4_copy_X4 hown hK hP 8 rfl rfl 2 (by decide) (hts _ (lX4_copy_4)) (fun _ h9 => h9) rfl dX4_copy_42 ?_
        refine lv_iload_n hx hb dX4_copy_45 rfl (lv_at hl 2 rfl) ?_
        obtain ⟨h_18, hw⟩ := hw
        refine va_iald hx hb hK hP 10 0 rfl rfl h_18 dX4_copy_46 ?_
        obtain ⟨h_19, hw⟩ := hw
        refine va_iast hx hb hK hP hD hS 2 0 rfl rfl h_19 dX4_copy_47 (fun H locs hP hD hS => ?_)
        have hP : va_P (dC, dI) vwCl [(q_this, .inr (4, [.int c_things, .ref q_whose, .ref q_story, .ref q_watch, .int c_sayings, .ref q_kind, .ref q_a, .ref q_b, .ref q_by])), (q_whose, .inl (cyI, (6, .inl (upd c_whose x2.toNatClampNeg (c_o1_whose x2.toNatClampNeg))))), (q_story, .inl (cyI, (6, .inl (upd c_story x2.toNatClampNeg (c_o1_story x2.toNatClampNeg))))), (q_watch, .inl (cyI, (12, .inl c_watch))), (q_kind, .inl (cyI, (8, .inl c_kind))), (q_a, .inl (cyI, (8, .inl c_a))), (q_b, .inl (cyI, (8, .inl c_b))), (q_by, .inl (cyI, (8, .inl c_by))), (q_o1, .inr (4, [.int c_o1_things, .ref q_o1_whose, .ref q_o1_story, .ref q_o1_watch, .int c_o1_sayings, .ref q_o1_kind, .ref q_o1_a, .ref q_o1_b, .ref q_o1_by])), (q_o1_whose, .inl (cyI, (6, .inl c_o1_whose))), (q_o1_story, .inl (cyI, (6, .inl c_o1_story))), (q_o1_watch, .inl (cyI, (12, .inl c_o1_watch))), (q_o1_kind, .inl (cyI, (8, .inl c_o1_kind))), (q_o1_a, .inl (cyI, (8, .inl c_o1_a))), (q_o1_b, .inl (cyI, (8, .inl c_o1_b))), (q_o1_by, .inl (cyI, (8, .inl c_o1_by)))] H := hP
        have hD : va_D A [(q_this, .inr (4, [.int c_things, .ref q_whose, .ref q_story, .ref q_watch, .int c_sayings, .ref q_kind, .ref q_a, .ref q_b, .ref q_by])), (q_whose, .inl (cyI, (6, .inl (upd c_whose x2.toNatClampNeg (c_o1_whose x2.toNatClampNeg))))), (q_story, .inl (cyI, (6, .inl (upd c_story x2.toNatClampNeg (c_o1_story x2.toNatClampNeg))))), (q_watch, .inl (cyI, (12, .inl c_watch))), (q_kind, .inl (cyI, (8, .inl c_kind))), (q_a, .inl (cyI, (8, .inl c_a))), (q_b, .inl (cyI, (8, .inl c_b))), (q_by, .inl (cyI, (8, .inl c_by))), (q_o1, .inr (4, [.int c_o1_things, .ref q_o1_whose, .ref q_o1_story, .ref q_o1_watch, .int c_o1_sayings, .ref q_o1_kind, .ref q_o1_a, .ref q_o1_b, .ref q_o1_by])), (q_o1_whose, .inl (cyI, (6, .inl c_o1_whose))), (q_o1_story, .inl (cyI, (6, .inl c_o1_story))), (q_o1_watch, .inl (cyI, (12, .inl c_o1_watch))), (q_o1_kind, .inl (cyI, (8, .inl c_o1_kind))), (q_o1_a, .inl (cyI, (8, .inl c_o1_a))), (q_o1_b, .inl (cyI, (8, .inl c_o1_b))), (q_o1_by, .inl (cyI, (8, .inl c_o1_by)))] := hD
        refine lv_iinc (v := (x2 + 1)) (lv' := [(2, .int (x2 + 1)), (0, .ref q_this), (1, .ref q_o1)]) hx hb dX4_copy_48 hl (k := 2) rfl rfl (by decide) rfl (fun ls hl => ?_)
        refine lv_goto (tgt := 18) hx hb dX4_copy_51 (by decide) ?_
        exact ih (x2 + 1) c_things c_sayings (upd c_whose x2.toNatClampNeg (c_o1_whose x2.toNatClampNeg)) (upd c_story x2.toNatClampNeg (c_o1_story x2.toNatClampNeg)) c_watch c_kind c_a c_b c_by H locs ls hP hD hS (lv_sub hl [1, 2, 0] rfl) hw
  unfold wp_X4_copy at hw
  refine lv_aload_n hx hb dX4_copy_0 rfl (lv_at hl 0 rfl) ?_
  refine lv_aload_n hx hb dX4_copy_1 rfl (lv_at hl 1 rfl) ?_
  refine va_get (D := (dC, dI)) (ci := 4) (v := .int c_o1_things) (C := RX4) (T := TX4) (N := 9) hx hb hts iX4_copy_X4 hown hK hP 8 rfl rfl 0 (by decide) (hts _ (lX4_copy_1)) (fun _ h9 => h9) rfl dX4_copy_2 ?_
  refine va_put (D := (dC, dI)) (ci := 4) (v := .int c_o1_things) (ty := .int) (C := RX4) (T := TX4) (N := 9) hx hb hts iX4_copy_X4 tyX4 tyX4_ok nmX4 hown hK hP hD hS 0 rfl rfl 0 (by decide) (hts _ (lX4_copy_1)) (fun _ h9 => h9) rfl (by decide +kernel) rfl rfl (Nat.le_of_ble_eq_true rfl) dX4_copy_5 (fun H locs hP hD hS => ?_)
  have hP : va_P (dC, dI) vwCl [(q_this, .inr (4, [.int c_o1_things, .ref q_whose, .ref q_story, .ref q_watch, .int c_sayings, .ref q_kind, .ref q_a, .ref q_b, .ref q_by])), (q_whose, .inl (cyI, (6, .inl c_whose))), (q_story, .inl (cyI, (6, .inl c_story))), (q_watch, .inl (cyI, (12, .inl c_watch))), (q_kind, .inl (cyI, (8, .inl c_kind))), (q_a, .inl (cyI, (8, .inl c_a))), (q_b, .inl (cyI, (8, .inl c_b))), (q_by, .inl (cyI, (8, .inl c_by))), (q_o1, .inr (4, [.int c_o1_things, .ref q_o1_whose, .ref q_o1_story, .ref q_o1_watch, .int c_o1_sayings, .ref q_o1_kind, .ref q_o1_a, .ref q_o1_b, .ref q_o1_by])), (q_o1_whose, .inl (cyI, (6, .inl c_o1_whose))), (q_o1_story, .inl (cyI, (6, .inl c_o1_story))), (q_o1_watch, .inl (cyI, (12, .inl c_o1_watch))), (q_o1_kind, .inl (cyI, (8, .inl c_o1_kind))), (q_o1_a, .inl (cyI, (8, .inl c_o1_a))), (q_o1_b, .inl (cyI, (8, .inl c_o1_b))), (q_o1_by, .inl (cyI, (8, .inl c_o1_by)))] H := hP
  have hD : va_D A [(q_this, .inr (4, [.int c_o1_things, .ref q_whose, .ref q_story, .ref q_watch, .int c_sayings, .ref q_kind, .ref q_a, .ref q_b, .ref q_by])), (q_whose, .inl (cyI, (6, .inl c_whose))), (q_story, .inl (cyI, (6, .inl c_story))), (q_watch, .inl (cyI, (12, .inl c_watch))), (q_kind, .inl (cyI, (8, .inl c_kind))), (q_a, .inl (cyI, (8, .inl c_a))), (q_b, .inl (cyI, (8, .inl c_b))), (q_by, .inl (cyI, (8, .inl c_by))), (q_o1, .inr (4, [.int c_o1_things, .ref q_o1_whose, .ref q_o1_story, .ref q_o1_watch, .int c_o1_sayings, .ref q_o1_kind, .ref q_o1_a, .ref q_o1_b, .ref q_o1_by])), (q_o1_whose, .inl (cyI, (6, .inl c_o1_whose))), (q_o1_story, .inl (cyI, (6, .inl c_o1_story))), (q_o1_watch, .inl (cyI, (12, .inl c_o1_watch))), (q_o1_kind, .inl (cyI, (8, .inl c_o1_kind))), (q_o1_a, .inl (cyI, (8, .inl c_o1_a))), (q_o1_b, .inl (cyI, (8, .inl c_o1_b))), (q_o1_by, .inl (cyI, (8, .inl c_o1_by)))] := hD
  refine lv_aload_n hx hb dX4_copy_8 rfl (lv_at hl 0 rfl) ?_
  refine lv_aload_n hx hb dX4_copy_9 rfl (lv_at hl 1 rfl) ?_
  refine va_get (D := (dC, dI)) (ci := 4) (v := .int c_o1_sayings) (C := RX4) (T := TX4) (N := 9) hx hb hts iX4_copy_X4 hown hK hP 8 rfl rfl 4 (by decide) (hts _ (lX4_copy_2)) (fun _ h9 => h9) rfl dX4_copy_10 ?_
  refine va_put (D := (dC, dI)) (ci := 4) (v := .int c_o1_sayings) (ty := .int) (C := RX4) (T := TX4) (N := 9) hx hb hts iX4_copy_X4 tyX4 tyX4_ok nmX4 hown hK hP hD hS 0 rfl rfl 4 (by decide) (hts _ (lX4_copy_2)) (fun _ h9 => h9) rfl (by decide +kernel) rfl rfl (Nat.le_of_ble_eq_true rfl) dX4_copy_13 (fun H locs hP hD hS => ?_)
  have hP : va_P (dC, dI) vwCl [(q_this, .inr (4, [.int c_o1_things, .ref q_whose, .ref q_story, .ref q_watch, .int c_o1_sayings, .ref q_kind, .ref q_a, .ref q_b, .ref q_by])), (q_whose, .inl (cyI, (6, .inl c_whose))), (q_story, .inl (cyI, (6, .inl c_story))), (q_watch, .inl (cyI, (12, .inl c_watch))), (q_kind, .inl (cyI, (8, .inl c_kind))), (q_a, .inl (cyI, (8, .inl c_a))), (q_b, .inl (cyI, (8, .inl c_b))), (q_by, .inl (cyI, (8, .inl c_by))), (q_o1, .inr (4, [.int c_o1_things, .ref q_o1_whose, .ref q_o1_story, .ref q_o1_watch, .int c_o1_sayings, .ref q_o1_kind, .ref q_o1_a, .ref q_o1_b, .ref q_o1_by])), (q_o1_whose, .inl (cyI, (6, .inl c_o1_whose))), (q_o1_story, .inl (cyI, (6, .inl c_o1_story))), (q_o1_watch, .inl (cyI, (12, .inl c_o1_watch))), (q_o1_kind, .inl (cyI, (8, .inl c_o1_kind))), (q_o1_a, .inl (cyI, (8, .inl c_o1_a))), (q_o1_b, .inl (cyI, (8, .inl c_o1_b))), (q_o1_by, .inl (cyI, (8, .inl c_o1_by)))] H := hP
  have hD : va_D A [(q_this, .inr (4, [.int c_o1_things, .ref q_whose, .ref q_story, .ref q_watch, .int c_o1_sayings, .ref q_kind, .ref q_a, .ref q_b, .ref q_by])), (q_whose, .inl (cyI, (6, .inl c_whose))), (q_story, .inl (cyI, (6, .inl c_story))), (q_watch, .inl (cyI, (12, .inl c_watch))), (q_kind, .inl (cyI, (8, .inl c_kind))), (q_a, .inl (cyI, (8, .inl c_a))), (q_b, .inl (cyI, (8, .inl c_b))), (q_by, .inl (cyI, (8, .inl c_by))), (q_o1, .inr (4, [.int c_o1_things, .ref q_o1_whose, .ref q_o1_story, .ref q_o1_watch, .int c_o1_sayings, .ref q_o1_kind, .ref q_o1_a, .ref q_o1_b, .ref q_o1_by])), (q_o1_whose, .inl (cyI, (6, .inl c_o1_whose))), (q_o1_story, .inl (cyI, (6, .inl c_o1_story))), (q_o1_watch, .inl (cyI, (12, .inl c_o1_watch))), (q_o1_kind, .inl (cyI, (8, .inl c_o1_kind))), (q_o1_a, .inl (cyI, (8, .inl c_o1_a))), (q_o1_b, .inl (cyI, (8, .inl c_o1_b))), (q_o1_by, .inl (cyI, (8, .inl c_o1_by)))] := hD
  refine lv_iconst (v := 0) hx hb dX4_copy_16 (by decide) ?_
  refine lv_istore_n (lv' := [(2, .int (0 : Int32)), (0, .ref q_this), (1, .ref q_o1)]) hx hb dX4_copy_17 rfl hl (by decide) rfl (fun ls hl => ?_)
  obtain ⟨n_20, hw⟩ := hw
  exact k18 n_20 (0 : Int32) c_o1_things c_o1_sayings c_whose c_story c_watch c_kind c_a c_b c_by H locs ls hP hD hS (lv_sub hl [1, 2, 0] rfl) hw
set_option maxHeartbeats 8000000 in
set_option maxRecDepth 100000 in
theorem c_X4_copy (l : Launch) (dC : Nat → ClassId) (dI : Nat → Nat → Nat) (cyI cyJ cyZ cyH : ClassId) (q_this q_whose q_story q_watch q_kind q_a q_b q_by q_o1 q_o1_whose q_o1_story q_o1_watch q_o1_kind q_o1_a q_o1_b q_o1_by : Nat) (sz : Nat) (c_things : Int32) (c_sayings : Int32) (c_whose : Nat → Int32) (c_story : Nat → Int32) (c_watch : Nat → Int32) (c_kind : Nat → Int32) (c_a : Nat → Int32) (c_b : Nat → Int32) (c_by : Nat → Int32) (c_o1_things : Int32) (c_o1_sayings : Int32) (c_o1_whose : Nat → Int32) (c_o1_story : Nat → Int32) (c_o1_watch : Nat → Int32) (c_o1_kind : Nat → Int32) (c_o1_a : Nat → Int32) (c_o1_b : Nat → Int32) (c_o1_by : Nat → Int32) (Q : Int32 → Int32 → (Nat → Int32) → (Nat → Int32) → (Nat → Int32) → (Nat → Int32) → (Nat → Int32) → (Nat → Int32) → (Nat → Int32) → Prop) (hw : wp_X4_copy c_things c_sayings c_whose c_story c_watch c_kind c_a c_b c_by c_o1_things c_o1_sayings c_o1_whose c_o1_story c_o1_watch c_o1_kind c_o1_a c_o1_b c_o1_by Q) : Met l yX4_copy wsX4_copy rm_X4_copy (va_Pc [.ref q_this, .ref q_o1] (fun U => U.heap.size = sz ∧ va_P (dC, dI) vwCl [(q_this, .inr (4, [.int c_things, .ref q_whose, .ref q_story, .ref q_watch, .int c_sayings, .ref q_kind, .ref q_a, .ref q_b, .ref q_by])), (q_whose, .inl (cyI, (6, .inl c_whose))), (q_story, .inl (cyI, (6, .inl c_story))), (q_watch, .inl (cyI, (12, .inl c_watch))), (q_kind, .inl (cyI, (8, .inl c_kind))), (q_a, .inl (cyI, (8, .inl c_a))), (q_b, .inl (cyI, (8, .inl c_b))), (q_by, .inl (cyI, (8, .inl c_by))), (q_o1, .inr (4, [.int c_o1_things, .ref q_o1_whose, .ref q_o1_story, .ref q_o1_watch, .int c_o1_sayings, .ref q_o1_kind, .ref q_o1_a, .ref q_o1_b, .ref q_o1_by])), (q_o1_whose, .inl (cyI, (6, .inl c_o1_whose))), (q_o1_story, .inl (cyI, (6, .inl c_o1_story))), (q_o1_watch, .inl (cyI, (12, .inl c_o1_watch))), (q_o1_kind, .inl (cyI, (8, .inl c_o1_kind))), (q_o1_a, .inl (cyI, (8, .inl c_o1_a))), (q_o1_b, .inl (cyI, (8, .inl c_o1_b))), (q_o1_by, .inl (cyI, (8, .inl c_o1_by)))] U.heap ∧ va_K (dC, dI) vwCl [(cyI, .int), (cyJ, .long), (cyZ, .boolean), (cyH, .object "NoWhen$History")] U ∧ va_D (fun _ => True) [(q_this, .inr (4, [.int c_things, .ref q_whose, .ref q_story, .ref q_watch, .int c_sayings, .ref q_kind, .ref q_a, .ref q_b, .ref q_by])), (q_whose, .inl (cyI, (6, .inl c_whose))), (q_story, .inl (cyI, (6, .inl c_story))), (q_watch, .inl (cyI, (12, .inl c_watch))), (q_kind, .inl (cyI, (8, .inl c_kind))), (q_a, .inl (cyI, (8, .inl c_a))), (q_b, .inl (cyI, (8, .inl c_b))), (q_by, .inl (cyI, (8, .inl c_by))), (q_o1, .inr (4, [.int c_o1_things, .ref q_o1_whose, .ref q_o1_story, .ref q_o1_watch, .int c_o1_sayings, .ref q_o1_kind, .ref q_o1_a, .ref q_o1_b, .ref q_o1_by])), (q_o1_whose, .inl (cyI, (6, .inl c_o1_whose))), (q_o1_story, .inl (cyI, (6, .inl c_o1_story))), (q_o1_watch, .inl (cyI, (12, .inl c_o1_watch))), (q_o1_kind, .inl (cyI, (8, .inl c_o1_kind))), (q_o1_a, .inl (cyI, (8, .inl c_o1_a))), (q_o1_b, .inl (cyI, (8, .inl c_o1_b))), (q_o1_by, .inl (cyI, (8, .inl c_o1_by)))])) (va_Qv (fun (u : Int32 × Int32 × (Nat → Int32) × (Nat → Int32) × (Nat → Int32) × (Nat → Int32) × (Nat → Int32) × (Nat → Int32) × (Nat → Int32)) => Q u.1 u.2.1 u.2.2.1 u.2.2.2.1 u.2.2.2.2.1 u.2.2.2.2.2.1 u.2.2.2.2.2.2.1 u.2.2.2.2.2.2.2.1 u.2.2.2.2.2.2.2.2) (fun (u : Int32 × Int32 × (Nat → Int32) × (Nat → Int32) × (Nat → Int32) × (Nat → Int32) × (Nat → Int32) × (Nat → Int32) × (Nat → Int32)) (t : State) => va_P (dC, dI) vwCl [(q_this, .inr (4, [.int u.1, .ref q_whose, .ref q_story, .ref q_watch, .int u.2.1, .ref q_kind, .ref q_a, .ref q_b, .ref q_by])), (q_whose, .inl (cyI, (6, .inl u.2.2.1))), (q_story, .inl (cyI, (6, .inl u.2.2.2.1))), (q_watch, .inl (cyI, (12, .inl u.2.2.2.2.1))), (q_kind, .inl (cyI, (8, .inl u.2.2.2.2.2.1))), (q_a, .inl (cyI, (8, .inl u.2.2.2.2.2.2.1))), (q_b, .inl (cyI, (8, .inl u.2.2.2.2.2.2.2.1))), (q_by, .inl (cyI, (8, .inl u.2.2.2.2.2.2.2.2))), (q_o1, .inr (4, [.int c_o1_things, .ref q_o1_whose, .ref q_o1_story, .ref q_o1_watch, .int c_o1_sayings, .ref q_o1_kind, .ref q_o1_a, .ref q_o1_b, .ref q_o1_by])), (q_o1_whose, .inl (cyI, (6, .inl c_o1_whose))), (q_o1_story, .inl (cyI, (6, .inl c_o1_story))), (q_o1_watch, .inl (cyI, (12, .inl c_o1_watch))), (q_o1_kind, .inl (cyI, (8, .inl c_o1_kind))), (q_o1_a, .inl (cyI, (8, .inl c_o1_a))), (q_o1_b, .inl (cyI, (8, .inl c_o1_b))), (q_o1_by, .inl (cyI, (8, .inl c_o1_by)))] t.heap ∧ va_K (dC, dI) vwCl [(cyI, .int), (cyJ, .long), (cyZ, .boolean), (cyH, .object "NoWhen$History")] t ∧ va_D (va_A [(q_this, .inr (4, [.int c_things, .ref q_whose, .ref q_story, .ref q_watch, .int c_sayings, .ref q_kind, .ref q_a, .ref q_b, .ref q_by])), (q_whose, .inl (cyI, (6, .inl c_whose))), (q_story, .inl (cyI, (6, .inl c_story))), (q_watch, .inl (cyI, (12, .inl c_watch))), (q_kind, .inl (cyI, (8, .inl c_kind))), (q_a, .inl (cyI, (8, .inl c_a))), (q_b, .inl (cyI, (8, .inl c_b))), (q_by, .inl (cyI, (8, .inl c_by))), (q_o1, .inr (4, [.int c_o1_things, .ref q_o1_whose, .ref q_o1_story, .ref q_o1_watch, .int c_o1_sayings, .ref q_o1_kind, .ref q_o1_a, .ref q_o1_b, .ref q_o1_by])), (q_o1_whose, .inl (cyI, (6, .inl c_o1_whose))), (q_o1_story, .inl (cyI, (6, .inl c_o1_story))), (q_o1_watch, .inl (cyI, (12, .inl c_o1_watch))), (q_o1_kind, .inl (cyI, (8, .inl c_o1_kind))), (q_o1_a, .inl (cyI, (8, .inl c_o1_a))), (q_o1_b, .inl (cyI, (8, .inl c_o1_b))), (q_o1_by, .inl (cyI, (8, .inl c_o1_by)))] sz) [(q_this, .inr (4, [.int u.1, .ref q_whose, .ref q_story, .ref q_watch, .int u.2.1, .ref q_kind, .ref q_a, .ref q_b, .ref q_by])), (q_whose, .inl (cyI, (6, .inl u.2.2.1))), (q_story, .inl (cyI, (6, .inl u.2.2.2.1))), (q_watch, .inl (cyI, (12, .inl u.2.2.2.2.1))), (q_kind, .inl (cyI, (8, .inl u.2.2.2.2.2.1))), (q_a, .inl (cyI, (8, .inl u.2.2.2.2.2.2.1))), (q_b, .inl (cyI, (8, .inl u.2.2.2.2.2.2.2.1))), (q_by, .inl (cyI, (8, .inl u.2.2.2.2.2.2.2.2))), (q_o1, .inr (4, [.int c_o1_things, .ref q_o1_whose, .ref q_o1_story, .ref q_o1_watch, .int c_o1_sayings, .ref q_o1_kind, .ref q_o1_a, .ref q_o1_b, .ref q_o1_by])), (q_o1_whose, .inl (cyI, (6, .inl c_o1_whose))), (q_o1_story, .inl (cyI, (6, .inl c_o1_story))), (q_o1_watch, .inl (cyI, (12, .inl c_o1_watch))), (q_o1_kind, .inl (cyI, (8, .inl c_o1_kind))), (q_o1_a, .inl (cyI, (8, .inl c_o1_a))), (q_o1_b, .inl (cyI, (8, .inl c_o1_b))), (q_o1_by, .inl (cyI, (8, .inl c_o1_by)))]) (va_A [(q_this, .inr (4, [.int c_things, .ref q_whose, .ref q_story, .ref q_watch, .int c_sayings, .ref q_kind, .ref q_a, .ref q_b, .ref q_by])), (q_whose, .inl (cyI, (6, .inl c_whose))), (q_story, .inl (cyI, (6, .inl c_story))), (q_watch, .inl (cyI, (12, .inl c_watch))), (q_kind, .inl (cyI, (8, .inl c_kind))), (q_a, .inl (cyI, (8, .inl c_a))), (q_b, .inl (cyI, (8, .inl c_b))), (q_by, .inl (cyI, (8, .inl c_by))), (q_o1, .inr (4, [.int c_o1_things, .ref q_o1_whose, .ref q_o1_story, .ref q_o1_watch, .int c_o1_sayings, .ref q_o1_kind, .ref q_o1_a, .ref q_o1_b, .ref q_o1_by])), (q_o1_whose, .inl (cyI, (6, .inl c_o1_whose))), (q_o1_story, .inl (cyI, (6, .inl c_o1_story))), (q_o1_watch, .inl (cyI, (12, .inl c_o1_watch))), (q_o1_kind, .inl (cyI, (8, .inl c_o1_kind))), (q_o1_a, .inl (cyI, (8, .inl c_o1_a))), (q_o1_b, .inl (cyI, (8, .inl c_o1_b))), (q_o1_by, .inl (cyI, (8, .inl c_o1_by)))] sz)) 0 0 (va_A [(q_this, .inr (4, [.int c_things, .ref q_whose, .ref q_story, .ref q_watch, .int c_sayings, .ref q_kind, .ref q_a, .ref q_b, .ref q_by])), (q_whose, .inl (cyI, (6, .inl c_whose))), (q_story, .inl (cyI, (6, .inl c_story))), (q_watch, .inl (cyI, (12, .inl c_watch))), (q_kind, .inl (cyI, (8, .inl c_kind))), (q_a, .inl (cyI, (8, .inl c_a))), (q_b, .inl (cyI, (8, .inl c_b))), (q_by, .inl (cyI, (8, .inl c_by))), (q_o1, .inr (4, [.int c_o1_things, .ref q_o1_whose, .ref q_o1_story, .ref q_o1_watch, .int c_o1_sayings, .ref q_o1_kind, .ref q_o1_a, .ref q_o1_b, .ref q_o1_by])), (q_o1_whose, .inl (cyI, (6, .inl c_o1_whose))), (q_o1_story, .inl (cyI, (6, .inl c_o1_story))), (q_o1_watch, .inl (cyI, (12, .inl c_o1_watch))), (q_o1_kind, .inl (cyI, (8, .inl c_o1_kind))), (q_o1_a, .inl (cyI, (8, .inl c_o1_a))), (q_o1_b, .inl (cyI, (8, .inl c_o1_b))), (q_o1_by, .inl (cyI, (8, .inl c_o1_by)))] sz) := by
  refine Met.ofW (cc := cX4_copy) (maxL := 3) (ret := none) (by decide) rfl ?_
  intro p e s m args below meth c s₁ B hml hv
  obtain ⟨rfl, hsz, hP, hK, hD0⟩ := hv
  have hx := B.exec
  have hb := B.bytes
  have hr := B.returns
  have hts := atoms_spec (ws := wsX4_copy) B.pre
  have hown : s.vm.findClass RX4 = some m.cls := findClass_of_methodNamed B.named
  have hlocks := B.notSynchronized
  subst hsz
  have hD := hD0.self (sz := s.heap.size)
  generalize hAe : va_A [(q_this, .inr (4, [.int c_things, .ref q_whose, .ref q_story, .ref q_watch, .int c_sayings, .ref q_kind, .ref q_a, .ref q_b, .ref q_by])), (q_whose, .inl (cyI, (6, .inl c_whose))), (q_story, .inl (cyI, (6, .inl c_story))), (q_watch, .inl (cyI, (12, .inl c_watch))), (q_kind, .inl (cyI, (8, .inl c_kind))), (q_a, .inl (cyI, (8, .inl c_a))), (q_b, .inl (cyI, (8, .inl c_b))), (q_by, .inl (cyI, (8, .inl c_by))), (q_o1, .inr (4, [.int c_o1_things, .ref q_o1_whose, .ref q_o1_story, .ref q_o1_watch, .int c_o1_sayings, .ref q_o1_kind, .ref q_o1_a, .ref q_o1_b, .ref q_o1_by])), (q_o1_whose, .inl (cyI, (6, .inl c_o1_whose))), (q_o1_story, .inl (cyI, (6, .inl c_o1_story))), (q_o1_watch, .inl (cyI, (12, .inl c_o1_watch))), (q_o1_kind, .inl (cyI, (8, .inl c_o1_kind))), (q_o1_a, .inl (cyI, (8, .inl c_o1_a))), (q_o1_b, .inl (cyI, (8, .inl c_o1_b))), (q_o1_by, .inl (cyI, (8, .inl c_o1_by)))] s.heap.size = A at hD ⊢
  have hA : ∀ q : Nat, s.heap.size ≤ q → A q := fun q h => by rw [← hAe]; exact Or.inr h
  have hS : va_S A s.heap s.heap [] := va_S.rf
  have hl := lv_entry ([.ref q_this, .ref q_o1]) (n := 3) (Nat.le_of_ble_eq_true rfl)
  rw [lg_entry_eq]
  generalize (lg_sl ([.ref q_this, .ref q_o1]) ++ List.replicate (3 - (lg_sl ([.ref q_this, .ref q_o1])).length) Slot.unset).toArray = ls at hl ⊢
  have hl : lv_has ls 3 [(0, .ref q_this), (1, .ref q_o1)] := hl
  refine k_X4_copy hx hb hml hown hts hK hA (fun pc c_things c_sayings c_whose c_story c_watch c_kind c_a c_b c_by H locs ls hd hP hD hS hq => ?_) c_things c_sayings c_whose c_story c_watch c_kind c_a c_b c_by s.heap [] ls hP hD hS hl hw
  exact W.vret hx hb hr (fun t ht hW => ⟨⟨(c_things, c_sayings, c_whose, c_story, c_watch, c_kind, c_a, c_b, c_by), rfl, hq, by rw [ht]; exact hP, va_K.moved hW.alike hK, hD⟩, hS.F ht⟩) hS.2.2 hd
-- X4_sayingsNotBy
theorem lX4_sayingsNotBy_1 : (Cond.fieldLink RX4 37 "NoWhen$History" "sayings" "I") ∈ wsX4_sayingsNotBy := List.mem_of_getElem? (i := 1) (by rfl)
theorem lX4_sayingsNotBy_2 : (Cond.fieldLink RX4 30 "NoWhen$History" "by" "[I") ∈ wsX4_sayingsNotBy := List.mem_of_getElem? (i := 2) (by rfl)
set_option maxRecDepth 20000 in
theorem iX4_sayingsNotBy_X4 : ∀ w ∈ wsX40, w ∈ wsX4_sayingsNotBy := by decide +kernel
abbrev rm_X4_sayingsNotBy : Room := ({ frames := 0, cells := 0, slots := 0, locals := 0 } : Room)
set_option maxHeartbeats 8000000 in
set_option maxRecDepth 100000 in
theorem k_X4_sayingsNotBy {p : Program} {l : Launch} {e : Env} {s : State} {m : MethodId} {args : Array Value} {below : List Frame} {meth : Method} {c : Code} {dC : Nat → ClassId} {dI : Nat → Nat → Nat} {cyI cyJ cyZ cyH : ClassId} {A : Nat → Prop} {ZZ : State → Prop} {q_this q_whose q_story q_watch q_kind q_a q_b q_by : Nat} {c_things : Int32} {c_sayings : Int32} {c_by : Nat → Int32} {Q : Int32 → Prop} (hx : p.tables.exec = Jvm.exec) (hb : c.code = cX4_sayingsNotBy) (hml : c.maxLocals = 4) (hown : s.vm.findClass RX4 = some m.cls) (hts : ∀ w ∈ wsX4_sayingsNotBy, w.before args s = true) (hK : va_K (dC, dI) vwCl [(cyI, .int), (cyJ, .long), (cyZ, .boolean), (cyH, .object "NoWhen$History")] s) (hA : ∀ q : Nat, s.heap.size ≤ q → A q) (kR : ∀ (pc : Nat) (r : Int32) (H : Heap) (locs : List Loc) (ls : Array Slot), decode cX4_sayingsNotBy pc = .ok (.ireturn, 1) → va_P (dC, dI) vwCl [(q_this, .inr (4, [.int c_things, .ref q_whose, .ref q_story, .ref q_watch, .int c_sayings, .ref q_kind, .ref q_a, .ref q_b, .ref q_by])), (q_by, .inl (cyI, (8, .inl c_by)))] H → va_D A [(q_this, .inr (4, [.int c_things, .ref q_whose, .ref q_story, .ref q_watch, .int c_sayings, .ref q_kind, .ref q_a, .ref q_b, .ref q_by])), (q_by, .inl (cyI, (8, .inl c_by)))] → va_S A s.heap H locs → Q r → W p l e rm_X4_sayingsNotBy s m args below meth c H locs 0 0 ZZ (F0 m pc ls [.int r])) (p1 : Int32) (H : Heap) (locs : List Loc) (ls : Array Slot) (hP : va_P (dC, dI) vwCl [(q_this, .inr (4, [.int c_things, .ref q_whose, .ref q_story, .ref q_watch, .int c_sayings, .ref q_kind, .ref q_a, .ref q_b, .ref q_by])), (q_by, .inl (cyI, (8, .inl c_by)))] H) (hD : va_D A [(q_this, .inr (4, [.int c_things, .ref q_whose, .ref q_story, .ref q_watch, .int c_sayings, .ref q_kind, .ref q_a, .ref q_b, .ref q_by])), (q_by, .inl (cyI, (8, .inl c_by)))]) (hS : va_S A s.heap H locs) (hl : lv_has ls 4 [(0, .ref q_this), (1, .int p1)]) (hw : wp_X4_sayingsNotBy p1 c_sayings c_by Q) : W p l e rm_X4_sayingsNotBy s m args below meth c H locs 0 0 ZZ (F0 m 0 ls []) := by
  have k28 : ∀ (K4 : Int32 → Int32 → Int32 → Prop) (hK4 : ∀ (x1 : Int32) (x2 : Int32) (x3 : Int32) (H : Heap) (locs : List Loc) (ls : Array Slot), va_P (dC, dI) vwCl [(q_this, .inr (4, [.int c_things, .ref q_whose, .ref q_story, .ref q_watch, .int c_sayings, .ref q_kind, .ref q_a, .ref q_b, .ref q_by])), (q_by, .inl (cyI, (8, .inl c_by)))] H → va_D A [(q_this, .inr (4, [.int c_things, .ref q_whose, .ref q_story, .ref q_watch, .int c_sayings, .ref q_kind, .ref q_a, .ref q_b, .ref q_by])), (q_by, .inl (cyI, (8, .inl c_by)))] → va_S A s.heap H locs → lv_has ls 4 [(0, .ref q_this), (1, .int x1), (2, .int x2), (3, .int x3)] → K4 x1 x2 x3 → W p l e rm_X4_sayingsNotBy s m args below meth c H locs 0 0 ZZ (F0 m 4 ls [])), ∀ (x1 : Int32) (x2 : Int32) (x3 : Int32) (H : Heap) (locs : List Loc) (ls : Array Slot), va_P (dC, dI) vwCl [(q_this, .inr (4, [.int c_things, .ref q_whose, .ref q_story, .ref q_watch, .int c_sayings, .ref q_kind, .ref q_a, .ref q_b, .ref q_by])), (q_by, .inl (cyI, (8, .inl c_by)))] H → va_D A [(q_this, .inr (4, [.int c_things, .ref q_whose, .ref q_story, .ref q_watch, .int c_sayings, .ref q_kind, .ref q_a, .ref q_b, .ref q_by])), (q_by, .inl (cyI, (8, .inl c_by)))] → va_S A s.heap H locs → lv_has ls 4 [(0, .ref q_this), (1, .int x1), (2, .int x2), (3, .int x3)] → wp_X4_sayingsNotBy_b28 Q K4 x1 x2 x3 → W p l e rm_X4_sayingsNotBy s m args below meth c H locs 0 0 ZZ (F0 m 28 ls []) := by
    intro K4 hK4 x1 x2 x3 H locs ls hP hD hS hl hw
    unfold wp_X4_sayingsNotBy_b28 at hw
    refine lv_iinc (v := (x3 + 1)) (lv' := [(3, .int (x3 + 1)), (0, .ref q_this), (1, .int x1), (2, .int x2)]) hx hb dX4_sayingsNotBy_28 hl (k := 3) rfl rfl (by decide) rfl (fun ls hl => ?_)
    refine lv_goto (tgt := 4) hx hb dX4_sayingsNotBy_31 (by decide) ?_
    exact hK4 x1 x2 (x3 + 1) H locs ls hP hD hS (lv_sub hl [1, 2, 3, 0] rfl) hw
  have k4 : ∀ (n : Nat), ∀ (x1 : Int32) (x2 : Int32) (x3 : Int32) (H : Heap) (locs : List Loc) (ls : Array Slot), va_P (dC, dI) vwCl [(q_this, .inr (4, [.int c_things, .ref q_whose, .ref q_story, .ref q_watch, .int c_sayings, .ref q_kind, .ref q_a, .ref q_b, .ref q_by])), (q_by, .inl (cyI, (8, .inl c_by)))] H → va_D A [(q_this, .inr (4, [.int c_things, .ref q_whose, .ref q_story, .ref q_watch, .int c_sayings, .ref q_kind, .ref q_a, .ref q_b, .ref q_by])), (q_by, .inl (cyI, (8, .inl c_by)))] → va_S A s.heap H locs → lv_has ls 4 [(0, .ref q_this), (1, .int x1), (2, .int x2), (3, .int x3)] → wp_X4_sayingsNotBy_b4 Q c_sayings c_by n x1 x2 x3 → W p l e rm_X4_sayingsNotBy s m args below meth c H locs 0 0 ZZ (F0 m 4 ls []) := by
    intro n
    induction n with
    | zero =>
      intro x1 x2 x3 H locs ls hP hD hS hl hw
      exact False.elim hw
    | succ n ih =>
      intro x1 x2 x3 H locs ls hP hD hS hl hw
      unfold wp_X4_sayingsNotBy_b4 at hw
      refine lv_iload_n hx hb dX4_sayingsNotBy_4 rfl (lv_at hl 3 rfl) ?_
      refine lv_aload_n hx hb dX4_sayingsNotBy_5 rfl (lv_at hl 0 rfl) ?_
      refine va_get (D := (dC, dI)) (ci := 4) (v := .int c_sayings) (C := RX4) (T := TX4) (N := 9) hx hb hts iX4_sayingsNotBy_X4 hown hK hP 0 rfl rfl 4 (by decide) (hts _ (lX4_sayingsNotBy_1)) (fun _ h9 => h9) rfl dX4_sayingsNotBy_6 ?_
      refine lv_icmp_ge (tgt := 34) hx hb dX4_sayingsNotBy_9 (by decide) (fun b_1 => ?_) (fun b_1 => ?_)
      · replace hw := hw.1 b_1
        refine lv_iload_n hx hb dX4_sayingsNotBy_34 rfl (lv_at hl 2 rfl) ?_
        exact kR 35 x2 H locs ls dX4_sayingsNotBy_35 hP hD hS hw
      · replace hw := hw.2 b_1
        refine lv_aload_n hx hb dX4_sayingsNotBy_12 rfl (lv_at hl 0 rfl) ?_
        refine va_get (D := (dC, dI)) (ci := 4) (v := .ref q_by) (C := RX4) (T := TX4) (N := 9) hx hb hts iX4_sayingsNotBy_X4 hown hK hP 0 rfl rfl 8 (by decide) (hts _ (lX4_sayingsNotBy_2)) (fun _ h9 => h9) rfl dX4_sayingsNotBy_13 ?_
        refine lv_iload_n hx hb dX4_sayingsNotBy_16 rfl (lv_at hl 3 rfl) ?_
        obtain ⟨h_2, hw⟩ := hw
        refine va_iald hx hb hK hP 1 0 rfl rfl h_2 dX4_sayingsNotBy_17 ?_
        refine lv_iload_n hx hb dX4_sayingsNotBy_18 rfl (lv_at hl 1 rfl) ?_
        refine lv_icmp_eq (tgt := 28) hx hb dX4_sayingsNotBy_19 (by decide) (fun b_3 => ?_) (fun b_3 => ?_)
        · replace hw := hw.1 b_3
          exact k28 (wp_X4_sayingsNotBy_b4 Q c_sayings c_by n) ih x1 x2 x3 H locs ls hP hD hS hl hw
        · replace hw := hw.2 b_3
          refine lv_iload_n hx hb dX4_sayingsNotBy_22 rfl (lv_at hl 2 rfl) ?_
          refine lv_iconst (v := 1) hx hb dX4_sayingsNotBy_23 (by decide) ?_
          refine lv_iload_n hx hb dX4_sayingsNotBy_24 rfl (lv_at hl 3 rfl) ?_
          refine lv_ishl hx hb dX4_sayingsNotBy_25 ?_
          refine lv_ior hx hb dX4_sayingsNotBy_26 ?_
          refine lv_topi (fun y_4 ey_4 => ?_)
          replace hw := hw y_4 ey_4
          refine lv_istore_n (lv' := [(2, .int y_4), (0, .ref q_this), (1, .int x1), (3, .int x3)]) hx hb dX4_sayingsNotBy_27 rfl hl (by decide) rfl (fun ls hl => ?_)
          exact k28 (wp_X4_sayingsNotBy_b4 Q c_sayings c_by n) ih x1 y_4 x3 H locs ls hP hD hS (lv_sub hl [1, 2, 0, 3] rfl) hw
  unfold wp_X4_sayingsNotBy at hw
  refine lv_iconst (v := 0) hx hb dX4_sayingsNotBy_0 (by decide) ?_
  refine lv_istore_n (lv' := [(2, .int (0 : Int32)), (0, .ref q_this), (1, .int p1)]) hx hb dX4_sayingsNotBy_1 rfl hl (by decide) rfl (fun ls hl => ?_)
  refine lv_iconst (v := 0) hx hb dX4_sayingsNotBy_2 (by decide) ?_
  refine lv_istore_n (lv' := [(3, .int (0 : Int32)), (2, .int (0 : Int32)), (0, .ref q_this), (1, .int p1)]) hx hb dX4_sayingsNotBy_3 rfl hl (by decide) rfl (fun ls hl => ?_)
  obtain ⟨n_5, hw⟩ := hw
  exact k4 n_5 p1 (0 : Int32) (0 : Int32) H locs ls hP hD hS (lv_sub hl [2, 3, 1, 0] rfl) hw
set_option maxHeartbeats 8000000 in
set_option maxRecDepth 100000 in
theorem c_X4_sayingsNotBy (l : Launch) (dC : Nat → ClassId) (dI : Nat → Nat → Nat) (cyI cyJ cyZ cyH : ClassId) (q_this q_whose q_story q_watch q_kind q_a q_b q_by : Nat) (sz : Nat) (c_things : Int32) (c_sayings : Int32) (c_by : Nat → Int32) (p1 : Int32) (Q : Int32 → Prop) (hw : wp_X4_sayingsNotBy p1 c_sayings c_by Q) : Met l yX4_sayingsNotBy wsX4_sayingsNotBy rm_X4_sayingsNotBy (va_Pc [.ref q_this, .int p1] (fun U => U.heap.size = sz ∧ va_P (dC, dI) vwCl [(q_this, .inr (4, [.int c_things, .ref q_whose, .ref q_story, .ref q_watch, .int c_sayings, .ref q_kind, .ref q_a, .ref q_b, .ref q_by])), (q_by, .inl (cyI, (8, .inl c_by)))] U.heap ∧ va_K (dC, dI) vwCl [(cyI, .int), (cyJ, .long), (cyZ, .boolean), (cyH, .object "NoWhen$History")] U ∧ va_D (fun _ => True) [(q_this, .inr (4, [.int c_things, .ref q_whose, .ref q_story, .ref q_watch, .int c_sayings, .ref q_kind, .ref q_a, .ref q_b, .ref q_by])), (q_by, .inl (cyI, (8, .inl c_by)))])) (va_Qi (fun (r : Int32) (u : Unit) => Q r) (fun (u : Unit) (t : State) => va_P (dC, dI) vwCl [(q_this, .inr (4, [.int c_things, .ref q_whose, .ref q_story, .ref q_watch, .int c_sayings, .ref q_kind, .ref q_a, .ref q_b, .ref q_by])), (q_by, .inl (cyI, (8, .inl c_by)))] t.heap ∧ va_K (dC, dI) vwCl [(cyI, .int), (cyJ, .long), (cyZ, .boolean), (cyH, .object "NoWhen$History")] t ∧ va_D (va_A [(q_this, .inr (4, [.int c_things, .ref q_whose, .ref q_story, .ref q_watch, .int c_sayings, .ref q_kind, .ref q_a, .ref q_b, .ref q_by])), (q_by, .inl (cyI, (8, .inl c_by)))] sz) [(q_this, .inr (4, [.int c_things, .ref q_whose, .ref q_story, .ref q_watch, .int c_sayings, .ref q_kind, .ref q_a, .ref q_b, .ref q_by])), (q_by, .inl (cyI, (8, .inl c_by)))]) (va_A [(q_this, .inr (4, [.int c_things, .ref q_whose, .ref q_story, .ref q_watch, .int c_sayings, .ref q_kind, .ref q_a, .ref q_b, .ref q_by])), (q_by, .inl (cyI, (8, .inl c_by)))] sz)) 0 0 (va_A [(q_this, .inr (4, [.int c_things, .ref q_whose, .ref q_story, .ref q_watch, .int c_sayings, .ref q_kind, .ref q_a, .ref q_b, .ref q_by])), (q_by, .inl (cyI, (8, .inl c_by)))] sz) := by
  refine Met.ofW (cc := cX4_sayingsNotBy) (maxL := 4) (ret := (some .int)) (by decide) rfl ?_
  intro p e s m args below meth c s₁ B hml hv
  obtain ⟨rfl, hsz, hP, hK, hD0⟩ := hv
  have hx := B.exec
  have hb := B.bytes
  have hr := B.returns
  have hts := atoms_spec (ws := wsX4_sayingsNotBy) B.pre
  have hown : s.vm.findClass RX4 = some m.cls := findClass_of_methodNamed B.named
  have hlocks := B.notSynchronized
  subst hsz
  have hD := hD0.self (sz := s.heap.size)
  generalize hAe : va_A [(q_this, .inr (4, [.int c_things, .ref q_whose, .ref q_story, .ref q_watch, .int c_sayings, .ref q_kind, .ref q_a, .ref q_b, .ref q_by])), (q_by, .inl (cyI, (8, .inl c_by)))] s.heap.size = A at hD ⊢
  have hA : ∀ q : Nat, s.heap.size ≤ q → A q := fun q h => by rw [← hAe]; exact Or.inr h
  have hS : va_S A s.heap s.heap [] := va_S.rf
  have hl := lv_entry ([.ref q_this, .int p1]) (n := 4) (Nat.le_of_ble_eq_true rfl)
  rw [lg_entry_eq]
  generalize (lg_sl ([.ref q_this, .int p1]) ++ List.replicate (4 - (lg_sl ([.ref q_this, .int p1])).length) Slot.unset).toArray = ls at hl ⊢
  have hl : lv_has ls 4 [(0, .ref q_this), (1, .int p1)] := hl
  refine k_X4_sayingsNotBy hx hb hml hown hts hK hA (fun pc r H locs ls hd hP hD hS hq => ?_) p1 s.heap [] ls hP hD hS hl hw
  exact W.iret (v := r) hx hb hr (fun t ht hW => ⟨⟨r, (), rfl, hq, by rw [ht]; exact hP, va_K.moved hW.alike hK, hD⟩, hS.F ht⟩) hS.2.2 hd
-- X4_watched
theorem lX4_watched_1 : (Cond.fieldLink RX4 33 "NoWhen$History" "things" "I") ∈ wsX4_watched := List.mem_of_getElem? (i := 1) (by rfl)
theorem lX4_watched_2 : (Cond.fieldLink RX4 18 "NoWhen$History" "watch" "[I") ∈ wsX4_watched := List.mem_of_getElem? (i := 2) (by rfl)
set_option maxRecDepth 20000 in
theorem iX4_watched_X4 : ∀ w ∈ wsX40, w ∈ wsX4_watched := by decide +kernel
abbrev rm_X4_watched : Room := ({ frames := 0, cells := 0, slots := 0, locals := 0 } : Room)
set_option maxHeartbeats 8000000 in
set_option maxRecDepth 100000 in
theorem k_X4_watched {p : Program} {l : Launch} {e : Env} {s : State} {m : MethodId} {args : Array Value} {below : List Frame} {meth : Method} {c : Code} {dC : Nat → ClassId} {dI : Nat → Nat → Nat} {cyI cyJ cyZ cyH : ClassId} {A : Nat → Prop} {ZZ : State → Prop} {q_this q_whose q_story q_watch q_kind q_a q_b q_by : Nat} {c_sayings : Int32} {c_things : Int32} {c_watch : Nat → Int32} {Q : Int32 → Prop} (hx : p.tables.exec = Jvm.exec) (hb : c.code = cX4_watched) (hml : c.maxLocals = 3) (hown : s.vm.findClass RX4 = some m.cls) (hts : ∀ w ∈ wsX4_watched, w.before args s = true) (hK : va_K (dC, dI) vwCl [(cyI, .int), (cyJ, .long), (cyZ, .boolean), (cyH, .object "NoWhen$History")] s) (hA : ∀ q : Nat, s.heap.size ≤ q → A q) (kR : ∀ (pc : Nat) (r : Int32) (H : Heap) (locs : List Loc) (ls : Array Slot), decode cX4_watched pc = .ok (.ireturn, 1) → va_P (dC, dI) vwCl [(q_this, .inr (4, [.int c_things, .ref q_whose, .ref q_story, .ref q_watch, .int c_sayings, .ref q_kind, .ref q_a, .ref q_b, .ref q_by])), (q_watch, .inl (cyI, (12, .inl c_watch)))] H → va_D A [(q_this, .inr (4, [.int c_things, .ref q_whose, .ref q_story, .ref q_watch, .int c_sayings, .ref q_kind, .ref q_a, .ref q_b, .ref q_by])), (q_watch, .inl (cyI, (12, .inl c_watch)))] → va_S A s.heap H locs → Q r → W p l e rm_X4_watched s m args below meth c H locs 0 0 ZZ (F0 m pc ls [.int r])) (H : Heap) (locs : List Loc) (ls : Array Slot) (hP : va_P (dC, dI) vwCl [(q_this, .inr (4, [.int c_things, .ref q_whose, .ref q_story, .ref q_watch, .int c_sayings, .ref q_kind, .ref q_a, .ref q_b, .ref q_by])), (q_watch, .inl (cyI, (12, .inl c_watch)))] H) (hD : va_D A [(q_this, .inr (4, [.int c_things, .ref q_whose, .ref q_story, .ref q_watch, .int c_sayings, .ref q_kind, .ref q_a, .ref q_b, .ref q_by])), (q_watch, .inl (cyI, (12, .inl c_watch)))]) (hS : va_S A s.heap H locs) (hl : lv_has ls 3 [(0, .ref q_this)]) (hw : wp_X4_watched c_things c_watch Q) : W p l e rm_X4_watched s m args below meth c H locs 0 0 ZZ (F0 m 0 ls []) := by
  have k27 : ∀ (K4 : Int32 → Int32 → Prop) (hK4 : ∀ (x1 : Int32) (x2 : Int32) (H : Heap) (locs : List Loc) (ls : Array Slot), va_P (dC, dI) vwCl [(q_this, .inr (4, [.int c_things, .ref q_whose, .ref q_story, .ref q_watch, .int c_sayings, .ref q_kind, .ref q_a, .ref q_b, .ref q_by])), (q_watch, .inl (cyI, (12, .inl c_watch)))] H → va_D A [(q_this, .inr (4, [.int c_things, .ref q_whose, .ref q_story, .ref q_watch, .int c_sayings, .ref q_kind, .ref q_a, .ref q_b, .ref q_by])), (q_watch, .inl (cyI, (12, .inl c_watch)))] → va_S A s.heap H locs → lv_has ls 3 [(0, .ref q_this), (1, .int x1), (2, .int x2)] → K4 x1 x2 → W p l e rm_X4_watched s m args below meth c H locs 0 0 ZZ (F0 m 4 ls [])), ∀ (x1 : Int32) (x2 : Int32) (H : Heap) (locs : List Loc) (ls : Array Slot), va_P (dC, dI) vwCl [(q_this, .inr (4, [.int c_things, .ref q_whose, .ref q_story, .ref q_watch, .int c_sayings, .ref q_kind, .ref q_a, .ref q_b, .ref q_by])), (q_watch, .inl (cyI, (12, .inl c_watch)))] H → va_D A [(q_this, .inr (4, [.int c_things, .ref q_whose, .ref q_story, .ref q_watch, .int c_sayings, .ref q_kind, .ref q_a, .ref q_b, .ref q_by])), (q_watch, .inl (cyI, (12, .inl c_watch)))] → va_S A s.heap H locs → lv_has ls 3 [(0, .ref q_this), (1, .int x1), (2, .int x2)] → wp_X4_watched_b27 Q K4 x1 x2 → W p l e rm_X4_watched s m args below meth c H locs 0 0 ZZ (F0 m 27 ls []) := by
    intro K4 hK4 x1 x2 H locs ls hP hD hS hl hw
    unfold wp_X4_watched_b27 at hw
    refine lv_iinc (v := (x2 + 1)) (lv' := [(2, .int (x2 + 1)), (0, .ref q_this), (1, .int x1)]) hx hb dX4_watched_27 hl (k := 2) rfl rfl (by decide) rfl (fun ls hl => ?_)
    refine lv_goto (tgt := 4) hx hb dX4_watched_30 (by decide) ?_
    exact hK4 x1 (x2 + 1) H locs ls hP hD hS (lv_sub hl [1, 2, 0] rfl) hw
  have k4 : ∀ (n : Nat), ∀ (x1 : Int32) (x2 : Int32) (H : Heap) (locs : List Loc) (ls : Array Slot), va_P (dC, dI) vwCl [(q_this, .inr (4, [.int c_things, .ref q_whose, .ref q_story, .ref q_watch, .int c_sayings, .ref q_kind, .ref q_a, .ref q_b, .ref q_by])), (q_watch, .inl (cyI, (12, .inl c_watch)))] H → va_D A [(q_this, .inr (4, [.int c_things, .ref q_whose, .ref q_story, .ref q_watch, .int c_sayings, .ref q_kind, .ref q_a, .ref q_b, .ref q_by])), (q_watch, .inl (cyI, (12, .inl c_watch)))] → va_S A s.heap H locs → lv_has ls 3 [(0, .ref q_this), (1, .int x1), (2, .int x2)] → wp_X4_watched_b4 Q c_things c_watch n x1 x2 → W p l e rm_X4_watched s m args below meth c H locs 0 0 ZZ (F0 m 4 ls []) := by
    intro n
    induction n with
    | zero =>
      intro x1 x2 H locs ls hP hD hS hl hw
      exact False.elim hw
    | succ n ih =>
      intro x1 x2 H locs ls hP hD hS hl hw
      unfold wp_X4_watched_b4 at hw
      refine lv_iload_n hx hb dX4_watched_4 rfl (lv_at hl 2 rfl) ?_
      refine lv_iconst (v := 2) hx hb dX4_watched_5 (by decide) ?_
      refine lv_aload_n hx hb dX4_watched_6 rfl (lv_at hl 0 rfl) ?_
      refine va_get (D := (dC, dI)) (ci := 4) (v := .int c_things) (C := RX4) (T := TX4) (N := 9) hx hb hts iX4_watched_X4 hown hK hP 0 rfl rfl 0 (by decide) (hts _ (lX4_watched_1)) (fun _ h9 => h9) rfl dX4_watched_7 ?_
      refine lv_imul hx hb dX4_watched_10 ?_
      refine lv_icmp_ge (tgt := 33) hx hb dX4_watched_11 (by decide) (fun b_1 => ?_) (fun b_1 => ?_)
      · replace hw := hw.1 b_1
        refine lv_iload_n hx hb dX4_watched_33 rfl (lv_at hl 1 rfl) ?_
        exact kR 34 x1 H locs ls dX4_watched_34 hP hD hS hw
      · replace hw := hw.2 b_1
        refine lv_aload_n hx hb dX4_watched_14 rfl (lv_at hl 0 rfl) ?_
        refine va_get (D := (dC, dI)) (ci := 4) (v := .ref q_watch) (C := RX4) (T := TX4) (N := 9) hx hb hts iX4_watched_X4 hown hK hP 0 rfl rfl 3 (by decide) (hts _ (lX4_watched_2)) (fun _ h9 => h9) rfl dX4_watched_15 ?_
        refine lv_iload_n hx hb dX4_watched_18 rfl (lv_at hl 2 rfl) ?_
        obtain ⟨h_2, hw⟩ := hw
        refine va_iald hx hb hK hP 1 0 rfl rfl h_2 dX4_watched_19 ?_
        refine lv_iconst (v := -1) hx hb dX4_watched_20 (by decide) ?_
        refine lv_icmp_eq (tgt := 27) hx hb dX4_watched_21 (by decide) (fun b_3 => ?_) (fun b_3 => ?_)
        · replace hw := hw.1 b_3
          exact k27 (wp_X4_watched_b4 Q c_things c_watch n) ih x1 x2 H locs ls hP hD hS hl hw
        · replace hw := hw.2 b_3
          refine lv_iinc (v := (x1 + 1)) (lv' := [(1, .int (x1 + 1)), (0, .ref q_this), (2, .int x2)]) hx hb dX4_watched_24 hl (k := 1) rfl rfl (by decide) rfl (fun ls hl => ?_)
          exact k27 (wp_X4_watched_b4 Q c_things c_watch n) ih (x1 + 1) x2 H locs ls hP hD hS (lv_sub hl [1, 0, 2] rfl) hw
  unfold wp_X4_watched at hw
  refine lv_iconst (v := 0) hx hb dX4_watched_0 (by decide) ?_
  refine lv_istore_n (lv' := [(1, .int (0 : Int32)), (0, .ref q_this)]) hx hb dX4_watched_1 rfl hl (by decide) rfl (fun ls hl => ?_)
  refine lv_iconst (v := 0) hx hb dX4_watched_2 (by decide) ?_
  refine lv_istore_n (lv' := [(2, .int (0 : Int32)), (1, .int (0 : Int32)), (0, .ref q_this)]) hx hb dX4_watched_3 rfl hl (by decide) rfl (fun ls hl => ?_)
  obtain ⟨n_4, hw⟩ := hw
  exact k4 n_4 (0 : Int32) (0 : Int32) H locs ls hP hD hS (lv_sub hl [2, 1, 0] rfl) hw
set_option maxHeartbeats 8000000 in
set_option maxRecDepth 100000 in
theorem c_X4_watched (l : Launch) (dC : Nat → ClassId) (dI : Nat → Nat → Nat) (cyI cyJ cyZ cyH : ClassId) (q_this q_whose q_story q_watch q_kind q_a q_b q_by : Nat) (sz : Nat) (c_sayings : Int32) (c_things : Int32) (c_watch : Nat → Int32) (Q : Int32 → Prop) (hw : wp_X4_watched c_things c_watch Q) : Met l yX4_watched wsX4_watched rm_X4_watched (va_Pc [.ref q_this] (fun U => U.heap.size = sz ∧ va_P (dC, dI) vwCl [(q_this, .inr (4, [.int c_things, .ref q_whose, .ref q_story, .ref q_watch, .int c_sayings, .ref q_kind, .ref q_a, .ref q_b, .ref q_by])), (q_watch, .inl (cyI, (12, .inl c_watch)))] U.heap ∧ va_K (dC, dI) vwCl [(cyI, .int), (cyJ, .long), (cyZ, .boolean), (cyH, .object "NoWhen$History")] U ∧ va_D (fun _ => True) [(q_this, .inr (4, [.int c_things, .ref q_whose, .ref q_story, .ref q_watch, .int c_sayings, .ref q_kind, .ref q_a, .ref q_b, .ref q_by])), (q_watch, .inl (cyI, (12, .inl c_watch)))])) (va_Qi (fun (r : Int32) (u : Unit) => Q r) (fun (u : Unit) (t : State) => va_P (dC, dI) vwCl [(q_this, .inr (4, [.int c_things, .ref q_whose, .ref q_story, .ref q_watch, .int c_sayings, .ref q_kind, .ref q_a, .ref q_b, .ref q_by])), (q_watch, .inl (cyI, (12, .inl c_watch)))] t.heap ∧ va_K (dC, dI) vwCl [(cyI, .int), (cyJ, .long), (cyZ, .boolean), (cyH, .object "NoWhen$History")] t ∧ va_D (va_A [(q_this, .inr (4, [.int c_things, .ref q_whose, .ref q_story, .ref q_watch, .int c_sayings, .ref q_kind, .ref q_a, .ref q_b, .ref q_by])), (q_watch, .inl (cyI, (12, .inl c_watch)))] sz) [(q_this, .inr (4, [.int c_things, .ref q_whose, .ref q_story, .ref q_watch, .int c_sayings, .ref q_kind, .ref q_a, .ref q_b, .ref q_by])), (q_watch, .inl (cyI, (12, .inl c_watch)))]) (va_A [(q_this, .inr (4, [.int c_things, .ref q_whose, .ref q_story, .ref q_watch, .int c_sayings, .ref q_kind, .ref q_a, .ref q_b, .ref q_by])), (q_watch, .inl (cyI, (12, .inl c_watch)))] sz)) 0 0 (va_A [(q_this, .inr (4, [.int c_things, .ref q_whose, .ref q_story, .ref q_watch, .int c_sayings, .ref q_kind, .ref q_a, .ref q_b, .ref q_by])), (q_watch, .inl (cyI, (12, .inl c_watch)))] sz) := by
  refine Met.ofW (cc := cX4_watched) (maxL := 3) (ret := (some .int)) (by decide) rfl ?_
  intro p e s m args below meth c s₁ B hml hv
  obtain ⟨rfl, hsz, hP, hK, hD0⟩ := hv
  have hx := B.exec
  have hb := B.bytes
  have hr := B.returns
  have hts := atoms_spec (ws := wsX4_watched) B.pre
  have hown : s.vm.findClass RX4 = some m.cls := findClass_of_methodNamed B.named
  have hlocks := B.notSynchronized
  subst hsz
  have hD := hD0.self (sz := s.heap.size)
  generalize hAe : va_A [(q_this, .inr (4, [.int c_things, .ref q_whose, .ref q_story, .ref q_watch, .int c_sayings, .ref q_kind, .ref q_a, .ref q_b, .ref q_by])), (q_watch, .inl (cyI, (12, .inl c_watch)))] s.heap.size = A at hD ⊢
  have hA : ∀ q : Nat, s.heap.size ≤ q → A q := fun q h => by rw [← hAe]; exact Or.inr h
  have hS : va_S A s.heap s.heap [] := va_S.rf
  have hl := lv_entry ([.ref q_this]) (n := 3) (Nat.le_of_ble_eq_true rfl)
  rw [lg_entry_eq]
  generalize (lg_sl ([.ref q_this]) ++ List.replicate (3 - (lg_sl ([.ref q_this])).length) Slot.unset).toArray = ls at hl ⊢
  have hl : lv_has ls 3 [(0, .ref q_this)] := hl
  refine k_X4_watched hx hb hml hown hts hK hA (fun pc r H locs ls hd hP hD hS hq => ?_)  s.heap [] ls hP hD hS hl hw
  exact W.iret (v := r) hx hb hr (fun t ht hW => ⟨⟨r, (), rfl, hq, by rw [ht]; exact hP, va_K.moved hW.alike hK, hD⟩, hS.F ht⟩) hS.2.2 hd
-- X4_digestWith
theorem lX4_digestWith_1 : (Cond.constantLong RX4 40 (709)) ∈ wsX4_digestWith := List.mem_of_getElem? (i := 1) (by rfl)
theorem lX4_digestWith_2 : (Cond.constantLong RX4 42 (31)) ∈ wsX4_digestWith := List.mem_of_getElem? (i := 2) (by rfl)
theorem lX4_digestWith_3 : (Cond.fieldLink RX4 33 "NoWhen$History" "things" "I") ∈ wsX4_digestWith := List.mem_of_getElem? (i := 3) (by rfl)
theorem lX4_digestWith_4 : (Cond.fieldLink RX4 37 "NoWhen$History" "sayings" "I") ∈ wsX4_digestWith := List.mem_of_getElem? (i := 4) (by rfl)
theorem lX4_digestWith_5 : (Cond.fieldLink RX4 9 "NoWhen$History" "whose" "[I") ∈ wsX4_digestWith := List.mem_of_getElem? (i := 5) (by rfl)
theorem lX4_digestWith_6 : (Cond.fieldLink RX4 15 "NoWhen$History" "story" "[I") ∈ wsX4_digestWith := List.mem_of_getElem? (i := 6) (by rfl)
theorem lX4_digestWith_7 : (Cond.fieldLink RX4 21 "NoWhen$History" "kind" "[I") ∈ wsX4_digestWith := List.mem_of_getElem? (i := 7) (by rfl)
theorem lX4_digestWith_8 : (Cond.fieldLink RX4 24 "NoWhen$History" "a" "[I") ∈ wsX4_digestWith := List.mem_of_getElem? (i := 8) (by rfl)
theorem lX4_digestWith_9 : (Cond.fieldLink RX4 27 "NoWhen$History" "b" "[I") ∈ wsX4_digestWith := List.mem_of_getElem? (i := 9) (by rfl)
theorem lX4_digestWith_10 : (Cond.fieldLink RX4 30 "NoWhen$History" "by" "[I") ∈ wsX4_digestWith := List.mem_of_getElem? (i := 10) (by rfl)
theorem lX4_digestWith_11 : (Cond.fieldLink RX4 18 "NoWhen$History" "watch" "[I") ∈ wsX4_digestWith := List.mem_of_getElem? (i := 11) (by rfl)
set_option maxRecDepth 20000 in
theorem iX4_digestWith_X4 : ∀ w ∈ wsX40, w ∈ wsX4_digestWith := by decide +kernel
abbrev rm_X4_digestWith : Room := ({ frames := 1, cells := 0, slots := 0, locals := 22 } : Room)
set_option maxHeartbeats 8000000 in
set_option maxRecDepth 100000 in
theorem k_X4_digestWith {p : Program} {l : Launch} {e : Env} {s : State} {m : MethodId} {args : Array Value} {below : List Frame} {meth : Method} {c : Code} {dC : Nat → ClassId} {dI : Nat → Nat → Nat} {cyI cyJ cyZ cyH : ClassId} {A : Nat → Prop} {ZZ : State → Prop} {q_this q_whose q_story q_watch q_kind q_a q_b q_by : Nat} {c_things : Int32} {c_sayings : Int32} {c_whose : Nat → Int32} {c_story : Nat → Int32} {c_watch : Nat → Int32} {c_kind : Nat → Int32} {c_a : Nat → Int32} {c_b : Nat → Int32} {c_by : Nat → Int32} {Q : Int64 → Prop} (hx : p.tables.exec = Jvm.exec) (hb : c.code = cX4_digestWith) (hml : c.maxLocals = 5) (hown : s.vm.findClass RX4 = some m.cls) (hts : ∀ w ∈ wsX4_digestWith, w.before args s = true) (hK : va_K (dC, dI) vwCl [(cyI, .int), (cyJ, .long), (cyZ, .boolean), (cyH, .object "NoWhen$History")] s) (hA : ∀ q : Nat, s.heap.size ≤ q → A q) (kR : ∀ (pc : Nat) (r : Int64) (H : Heap) (locs : List Loc) (ls : Array Slot), decode cX4_digestWith pc = .ok (.lreturn, 1) → va_P (dC, dI) vwCl [(q_this, .inr (4, [.int c_things, .ref q_whose, .ref q_story, .ref q_watch, .int c_sayings, .ref q_kind, .ref q_a, .ref q_b, .ref q_by])), (q_whose, .inl (cyI, (6, .inl c_whose))), (q_story, .inl (cyI, (6, .inl c_story))), (q_watch, .inl (cyI, (12, .inl c_watch))), (q_kind, .inl (cyI, (8, .inl c_kind))), (q_a, .inl (cyI, (8, .inl c_a))), (q_b, .inl (cyI, (8, .inl c_b))), (q_by, .inl (cyI, (8, .inl c_by)))] H → va_D A [(q_this, .inr (4, [.int c_things, .ref q_whose, .ref q_story, .ref q_watch, .int c_sayings, .ref q_kind, .ref q_a, .ref q_b, .ref q_by])), (q_whose, .inl (cyI, (6, .inl c_whose))), (q_story, .inl (cyI, (6, .inl c_story))), (q_watch, .inl (cyI, (12, .inl c_watch))), (q_kind, .inl (cyI, (8, .inl c_kind))), (q_a, .inl (cyI, (8, .inl c_a))), (q_b, .inl (cyI, (8, .inl c_b))), (q_by, .inl (cyI, (8, .inl c_by)))] → va_S A s.heap H locs → Q r → W p l e rm_X4_digestWith s m args below meth c H locs 0 0 ZZ (F0 m pc ls [.long r])) (p1 : Int32) (H : Heap) (locs : List Loc) (ls : Array Slot) (hP : va_P (dC, dI) vwCl [(q_this, .inr (4, [.int c_things, .ref q_whose, .ref q_story, .ref q_watch, .int c_sayings, .ref q_kind, .ref q_a, .ref q_b, .ref q_by])), (q_whose, .inl (cyI, (6, .inl c_whose))), (q_story, .inl (cyI, (6, .inl c_story))), (q_watch, .inl (cyI, (12, .inl c_watch))), (q_kind, .inl (cyI, (8, .inl c_kind))), (q_a, .inl (cyI, (8, .inl c_a))), (q_b, .inl (cyI, (8, .inl c_b))), (q_by, .inl (cyI, (8, .inl c_by)))] H) (hD : va_D A [(q_this, .inr (4, [.int c_things, .ref q_whose, .ref q_story, .ref q_watch, .int c_sayings, .ref q_kind, .ref q_a, .ref q_b, .ref q_by])), (q_whose, .inl (cyI, (6, .inl c_whose))), (q_story, .inl (cyI, (6, .inl c_story))), (q_watch, .inl (cyI, (12, .inl c_watch))), (q_kind, .inl (cyI, (8, .inl c_kind))), (q_a, .inl (cyI, (8, .inl c_a))), (q_b, .inl (cyI, (8, .inl c_b))), (q_by, .inl (cyI, (8, .inl c_by)))]) (hS : va_S A s.heap H locs) (hl : lv_has ls 5 [(0, .ref q_this), (1, .int p1)]) (hw : wp_X4_digestWith p1 c_things c_sayings c_whose c_story c_watch c_kind c_a c_b c_by Q) : W p l e rm_X4_digestWith s m args below meth c H locs 0 0 ZZ (F0 m 0 ls []) := by
  have k178 : ∀ (n : Nat), ∀ (x2 : Int64) (x4 : Int32) (H : Heap) (locs : List Loc) (ls : Array Slot), va_P (dC, dI) vwCl [(q_this, .inr (4, [.int c_things, .ref q_whose, .ref q_story, .ref q_watch, .int c_sayings, .ref q_kind, .ref q_a, .ref q_b, .ref q_by])), (q_whose, .inl (cyI, (6, .inl c_whose))), (q_story, .inl (cyI, (6, .inl c_story))), (q_watch, .inl (cyI, (12, .inl c_watch))), (q_kind, .inl (cyI, (8, .inl c_kind))), (q_a, .inl (cyI, (8, .inl c_a))), (q_b, .inl (cyI, (8, .inl c_b))), (q_by, .inl (cyI, (8, .inl c_by)))] H → va_D A [(q_this, .inr (4, [.int c_things, .ref q_whose, .ref q_story, .ref q_watch, .int c_sayings, .ref q_kind, .ref q_a, .ref q_b, .ref q_by])), (q_whose, .inl (cyI, (6, .inl c_whose))), (q_story, .inl (cyI, (6, .inl c_story))), (q_watch, .inl (cyI, (12, .inl c_watch))), (q_kind, .inl (cyI, (8, .inl c_kind))), (q_a, .inl (cyI, (8, .inl c_a))), (q_b, .inl (cyI, (8, .inl c_b))), (q_by, .inl (cyI, (8, .inl c_by)))] → va_S A s.heap H locs → lv_has ls 5 [(0, .ref q_this), (2, .long x2), (4, .int x4)] → wp_X4_digestWith_b178 Q c_things c_watch n x2 x4 → W p l e rm_X4_digestWith s m args below meth c H locs 0 0 ZZ (F0 m 178 ls []) := by
    intro n
    induction n with
    | zero =>
      intro x2 x4 H locs ls hP hD hS hl hw
      exact False.elim hw
    | succ n ih =>
      intro x2 x4 H locs ls hP hD hS hl hw
      unfold wp_X4_digestWith_b178 at hw
      refine lv_iload hx hb dX4_digestWith_178 (lv_at hl 2 rfl) ?_
      refine lv_iconst (v := 2) hx hb dX4_digestWith_180 (by decide) ?_
      refine lv_aload_n hx hb dX4_digestWith_181 rfl (lv_at hl 0 rfl) ?_
      refine va_get (D := (dC, dI)) (ci := 4) (v := .int c_things) (C := RX4) (T := TX4) (N := 9) hx hb hts iX4_digestWith_X4 hown hK hP 0 rfl rfl 0 (by decide) (hts _ (lX4_digestWith_3)) (fun _ h9 => h9) rfl dX4_digestWith_182 ?_
      refine lv_imul hx hb dX4_digestWith_185 ?_
      refine lv_icmp_ge (tgt := 210) hx hb dX4_digestWith_186 (by decide) (fun b_1 => ?_) (fun b_1 => ?_)
      · replace hw := hw.1 b_1
        refine lv_lload_n hx hb dX4_digestWith_210 rfl (lv_at hl 1 rfl) ?_
        exact kR 211 x2 H locs ls dX4_digestWith_211 hP hD hS hw
      · replace hw := hw.2 b_1
        refine lv_ldc2 (v := 31) hx hb hown (hts _ (lX4_digestWith_2)) dX4_digestWith_189 ?_
        refine lv_lload_n hx hb dX4_digestWith_192 rfl (lv_at hl 1 rfl) ?_
        refine lv_lmul hx hb dX4_digestWith_193 ?_
        refine lv_aload_n hx hb dX4_digestWith_194 rfl (lv_at hl 0 rfl) ?_
        refine va_get (D := (dC, dI)) (ci := 4) (v := .ref q_watch) (C := RX4) (T := TX4) (N := 9) hx hb hts iX4_digestWith_X4 hown hK hP 0 rfl rfl 3 (by decide) (hts _ (lX4_digestWith_11)) (fun _ h9 => h9) rfl dX4_digestWith_195 ?_
        refine lv_iload hx hb dX4_digestWith_198 (lv_at hl 2 rfl) ?_
        obtain ⟨h_2, hw⟩ := hw
        refine va_iald hx hb hK hP 3 0 rfl rfl h_2 dX4_digestWith_200 ?_
        refine lv_i2l hx hb dX4_digestWith_201 rfl ?_
        refine lv_ladd hx hb dX4_digestWith_202 ?_
        refine lv_topl (fun y_3 ey_3 => ?_)
        replace hw := hw y_3 ey_3
        refine lv_lstore_n (lv' := [(2, .long y_3), (0, .ref q_this), (4, .int x4)]) hx hb dX4_digestWith_203 rfl hl (by decide) rfl (fun ls hl => ?_)
        refine lv_iinc (v := (x4 + 1)) (lv' := [(4, .int (x4 + 1)), (2, .long y_3), (0, .ref q_this)]) hx hb dX4_digestWith_204 hl (k := 2) rfl rfl (by decide) rfl (fun ls hl => ?_)
        refine lv_goto (tgt := 178) hx hb dX4_digestWith_207 (by decide) ?_
        exact ih y_3 (x4 + 1) H locs ls hP hD hS (lv_sub hl [2, 1, 0] rfl) hw
  have k175 : ∀ (x2 : Int64) (H : Heap) (locs : List Loc) (ls : Array Slot), va_P (dC, dI) vwCl [(q_this, .inr (4, [.int c_things, .ref q_whose, .ref q_story, .ref q_watch, .int c_sayings, .ref q_kind, .ref q_a, .ref q_b, .ref q_by])), (q_whose, .inl (cyI, (6, .inl c_whose))), (q_story, .inl (cyI, (6, .inl c_story))), (q_watch, .inl (cyI, (12, .inl c_watch))), (q_kind, .inl (cyI, (8, .inl c_kind))), (q_a, .inl (cyI, (8, .inl c_a))), (q_b, .inl (cyI, (8, .inl c_b))), (q_by, .inl (cyI, (8, .inl c_by)))] H → va_D A [(q_this, .inr (4, [.int c_things, .ref q_whose, .ref q_story, .ref q_watch, .int c_sayings, .ref q_kind, .ref q_a, .ref q_b, .ref q_by])), (q_whose, .inl (cyI, (6, .inl c_whose))), (q_story, .inl (cyI, (6, .inl c_story))), (q_watch, .inl (cyI, (12, .inl c_watch))), (q_kind, .inl (cyI, (8, .inl c_kind))), (q_a, .inl (cyI, (8, .inl c_a))), (q_b, .inl (cyI, (8, .inl c_b))), (q_by, .inl (cyI, (8, .inl c_by)))] → va_S A s.heap H locs → lv_has ls 5 [(0, .ref q_this), (2, .long x2)] → wp_X4_digestWith_b175 Q c_things c_watch x2 → W p l e rm_X4_digestWith s m args below meth c H locs 0 0 ZZ (F0 m 175 ls []) := by
    intro x2 H locs ls hP hD hS hl hw
    unfold wp_X4_digestWith_b175 at hw
    refine lv_iconst (v := 0) hx hb dX4_digestWith_175 (by decide) ?_
    refine lv_istore (lv' := [(4, .int (0 : Int32)), (0, .ref q_this), (2, .long x2)]) hx hb dX4_digestWith_176 hl (by decide) rfl (fun ls hl => ?_)
    obtain ⟨n_4, hw⟩ := hw
    exact k178 n_4 x2 (0 : Int32) H locs ls hP hD hS (lv_sub hl [1, 2, 0] rfl) hw
  have k100 : ∀ (n : Nat), ∀ (x2 : Int64) (x4 : Int32) (H : Heap) (locs : List Loc) (ls : Array Slot), va_P (dC, dI) vwCl [(q_this, .inr (4, [.int c_things, .ref q_whose, .ref q_story, .ref q_watch, .int c_sayings, .ref q_kind, .ref q_a, .ref q_b, .ref q_by])), (q_whose, .inl (cyI, (6, .inl c_whose))), (q_story, .inl (cyI, (6, .inl c_story))), (q_watch, .inl (cyI, (12, .inl c_watch))), (q_kind, .inl (cyI, (8, .inl c_kind))), (q_a, .inl (cyI, (8, .inl c_a))), (q_b, .inl (cyI, (8, .inl c_b))), (q_by, .inl (cyI, (8, .inl c_by)))] H → va_D A [(q_this, .inr (4, [.int c_things, .ref q_whose, .ref q_story, .ref q_watch, .int c_sayings, .ref q_kind, .ref q_a, .ref q_b, .ref q_by])), (q_whose, .inl (cyI, (6, .inl c_whose))), (q_story, .inl (cyI, (6, .inl c_story))), (q_watch, .inl (cyI, (12, .inl c_watch))), (q_kind, .inl (cyI, (8, .inl c_kind))), (q_a, .inl (cyI, (8, .inl c_a))), (q_b, .inl (cyI, (8, .inl c_b))), (q_by, .inl (cyI, (8, .inl c_by)))] → va_S A s.heap H locs → lv_has ls 5 [(0, .ref q_this), (2, .long x2), (4, .int x4)] → wp_X4_digestWith_b100 Q c_things c_sayings c_watch c_kind c_a c_b c_by n x2 x4 → W p l e rm_X4_digestWith s m args below meth c H locs 0 0 ZZ (F0 m 100 ls []) := by
    intro n
    induction n with
    | zero =>
      intro x2 x4 H locs ls hP hD hS hl hw
      exact False.elim hw
    | succ n ih =>
      intro x2 x4 H locs ls hP hD hS hl hw
      unfold wp_X4_digestWith_b100 at hw
      refine lv_iload hx hb dX4_digestWith_100 (lv_at hl 2 rfl) ?_
      refine lv_aload_n hx hb dX4_digestWith_102 rfl (lv_at hl 0 rfl) ?_
      refine va_get (D := (dC, dI)) (ci := 4) (v := .int c_sayings) (C := RX4) (T := TX4) (N := 9) hx hb hts iX4_digestWith_X4 hown hK hP 0 rfl rfl 4 (by decide) (hts _ (lX4_digestWith_4)) (fun _ h9 => h9) rfl dX4_digestWith_103 ?_
      refine lv_icmp_ge (tgt := 175) hx hb dX4_digestWith_106 (by decide) (fun b_5 => ?_) (fun b_5 => ?_)
      · replace hw := hw.1 b_5
        exact k175 x2 H locs ls hP hD hS (lv_sub hl [0, 1] rfl) hw
      · replace hw := hw.2 b_5
        refine lv_ldc2 (v := 31) hx hb hown (hts _ (lX4_digestWith_2)) dX4_digestWith_109 ?_
        refine lv_lload_n hx hb dX4_digestWith_112 rfl (lv_at hl 1 rfl) ?_
        refine lv_lmul hx hb dX4_digestWith_113 ?_
        refine lv_aload_n hx hb dX4_digestWith_114 rfl (lv_at hl 0 rfl) ?_
        refine va_get (D := (dC, dI)) (ci := 4) (v := .ref q_kind) (C := RX4) (T := TX4) (N := 9) hx hb hts iX4_digestWith_X4 hown hK hP 0 rfl rfl 5 (by decide) (hts _ (lX4_digestWith_7)) (fun _ h9 => h9) rfl dX4_digestWith_115 ?_
        refine lv_iload hx hb dX4_digestWith_118 (lv_at hl 2 rfl) ?_
        obtain ⟨h_6, hw⟩ := hw
        refine va_iald hx hb hK hP 4 0 rfl rfl h_6 dX4_digestWith_120 ?_
        refine lv_i2l hx hb dX4_digestWith_121 rfl ?_
        refine lv_ladd hx hb dX4_digestWith_122 ?_
        refine lv_topl (fun y_7 ey_7 => ?_)
        replace hw := hw y_7 ey_7
        refine lv_lstore_n (lv' := [(2, .long y_7), (0, .ref q_this), (4, .int x4)]) hx hb dX4_digestWith_123 rfl hl (by decide) rfl (fun ls hl => ?_)
        refine lv_ldc2 (v := 31) hx hb hown (hts _ (lX4_digestWith_2)) dX4_digestWith_124 ?_
        refine lv_lload_n hx hb dX4_digestWith_127 rfl (lv_at hl 0 rfl) ?_
        refine lv_lmul hx hb dX4_digestWith_128 ?_
        refine lv_aload_n hx hb dX4_digestWith_129 rfl (lv_at hl 1 rfl) ?_
        refine va_get (D := (dC, dI)) (ci := 4) (v := .ref q_a) (C := RX4) (T := TX4) (N := 9) hx hb hts iX4_digestWith_X4 hown hK hP 0 rfl rfl 6 (by decide) (hts _ (lX4_digestWith_8)) (fun _ h9 => h9) rfl dX4_digestWith_130 ?_
        refine lv_iload hx hb dX4_digestWith_133 (lv_at hl 2 rfl) ?_
        obtain ⟨h_8, hw⟩ := hw
        refine va_iald hx hb hK hP 5 0 rfl rfl h_8 dX4_digestWith_135 ?_
        refine lv_i2l hx hb dX4_digestWith_136 rfl ?_
        refine lv_ladd hx hb dX4_digestWith_137 ?_
        refine lv_topl (fun y_9 ey_9 => ?_)
        replace hw := hw y_9 ey_9
        refine lv_lstore_n (lv' := [(2, .long y_9), (0, .ref q_this), (4, .int x4)]) hx hb dX4_digestWith_138 rfl hl (by decide) rfl (fun ls hl => ?_)
        refine lv_ldc2 (v := 31) hx hb hown (hts _ (lX4_digestWith_2)) dX4_digestWith_139 ?_
        refine lv_lload_n hx hb dX4_digestWith_142 rfl (lv_at hl 0 rfl) ?_
        refine lv_lmul hx hb dX4_digestWith_143 ?_
        refine lv_aload_n hx hb dX4_digestWith_144 rfl (lv_at hl 1 rfl) ?_
        refine va_get (D := (dC, dI)) (ci := 4) (v := .ref q_b) (C := RX4) (T := TX4) (N := 9) hx hb hts iX4_digestWith_X4 hown hK hP 0 rfl rfl 7 (by decide) (hts _ (lX4_digestWith_9)) (fun _ h9 => h9) rfl dX4_digestWith_145 ?_
        refine lv_iload hx hb dX4_digestWith_148 (lv_at hl 2 rfl) ?_
        obtain ⟨h_10, hw⟩ := hw
        refine va_iald hx hb hK hP 6 0 rfl rfl h_10 dX4_digestWith_150 ?_
        refine lv_i2l hx hb dX4_digestWith_151 rfl ?_
        refine lv_ladd hx hb dX4_digestWith_152 ?_
        refine lv_topl (fun y_11 ey_11 => ?_)
        replace hw := hw y_11 ey_11
        refine lv_lstore_n (lv' := [(2, .long y_11), (0, .ref q_this), (4, .int x4)]) hx hb dX4_digestWith_153 rfl hl (by decide) rfl (fun ls hl => ?_)
        refine lv_ldc2 (v := 31) hx hb hown (hts _ (lX4_digestWith_2)) dX4_digestWith_154 ?_
        refine lv_lload_n hx hb dX4_digestWith_157 rfl (lv_at hl 0 rfl) ?_
        refine lv_lmul hx hb dX4_digestWith_158 ?_
        refine lv_aload_n hx hb dX4_digestWith_159 rfl (lv_at hl 1 rfl) ?_
        refine va_get (D := (dC, dI)) (ci := 4) (v := .ref q_by) (C := RX4) (T := TX4) (N := 9) hx hb hts iX4_digestWith_X4 hown hK hP 0 rfl rfl 8 (by decide) (hts _ (lX4_digestWith_10)) (fun _ h9 => h9) rfl dX4_digestWith_160 ?_
        refine lv_iload hx hb dX4_digestWith_163 (lv_at hl 2 rfl) ?_
        obtain ⟨h_12, hw⟩ := hw
        refine va_iald hx hb hK hP 7 0 rfl rfl h_12 dX4_digestWith_165 ?_
        refine lv_i2l hx hb dX4_digestWith_166 rfl ?_
        refine lv_ladd hx hb dX4_digestWith_167 ?_
        refine lv_topl (fun y_13 ey_13 => ?_)
        replace hw := hw y_13 ey_13
        refine lv_lstore_n (lv' := [(2, .long y_13), (0, .ref q_this), (4, .int x4)]) hx hb dX4_digestWith_168 rfl hl (by decide) rfl (fun ls hl => ?_)
        refine lv_iinc (v := (x4 + 1)) (lv' := [(4, .int (x4 + 1)), (2, .long y_13), (0, .ref q_this)]) hx hb dX4_digestWith_169 hl (k := 2) rfl rfl (by decide) rfl (fun ls hl => ?_)
        refine lv_goto (tgt := 100) hx hb dX4_digestWith_172 (by decide) ?_
        exact ih y_13 (x4 + 1) H locs ls hP hD hS (lv_sub hl [2, 1, 0] rfl) hw
  have k97 : ∀ (x2 : Int64) (H : Heap) (locs : List Loc) (ls : Array Slot), va_P (dC, dI) vwCl [(q_this, .inr (4, [.int c_things, .ref q_whose, .ref q_story, .ref q_watch, .int c_sayings, .ref q_kind, .ref q_a, .ref q_b, .ref q_by])), (q_whose, .inl (cyI, (6, .inl c_whose))), (q_story, .inl (cyI, (6, .inl c_story))), (q_watch, .inl (cyI, (12, .inl c_watch))), (q_kind, .inl (cyI, (8, .inl c_kind))), (q_a, .inl (cyI, (8, .inl c_a))), (q_b, .inl (cyI, (8, .inl c_b))), (q_by, .inl (cyI, (8, .inl c_by)))] H → va_D A [(q_this, .inr (4, [.int c_things, .ref q_whose, .ref q_story, .ref q_watch, .int c_sayings, .ref q_kind, .ref q_a, .ref q_b, .ref q_by])), (q_whose, .inl (cyI, (6, .inl c_whose))), (q_story, .inl (cyI, (6, .inl c_story))), (q_watch, .inl (cyI, (12, .inl c_watch))), (q_kind, .inl (cyI, (8, .inl c_kind))), (q_a, .inl (cyI, (8, .inl c_a))), (q_b, .inl (cyI, (8, .inl c_b))), (q_by, .inl (cyI, (8, .inl c_by)))] → va_S A s.heap H locs → lv_has ls 5 [(0, .ref q_this), (2, .long x2)] → wp_X4_digestWith_b97 Q c_things c_sayings c_watch c_kind c_a c_b c_by x2 → W p l e rm_X4_digestWith s m args below meth c H locs 0 0 ZZ (F0 m 97 ls []) := by
    intro x2 H locs ls hP hD hS hl hw
    unfold wp_X4_digestWith_b97 at hw
    refine lv_iconst (v := 0) hx hb dX4_digestWith_97 (by decide) ?_
    refine lv_istore (lv' := [(4, .int (0 : Int32)), (0, .ref q_this), (2, .long x2)]) hx hb dX4_digestWith_98 hl (by decide) rfl (fun ls hl => ?_)
    obtain ⟨n_14, hw⟩ := hw
    exact k100 n_14 x2 (0 : Int32) H locs ls hP hD hS (lv_sub hl [1, 2, 0] rfl) hw
  have k52 : ∀ (n : Nat), ∀ (x2 : Int64) (x4 : Int32) (H : Heap) (locs : List Loc) (ls : Array Slot), va_P (dC, dI) vwCl [(q_this, .inr (4, [.int c_things, .ref q_whose, .ref q_story, .ref q_watch, .int c_sayings, .ref q_kind, .ref q_a, .ref q_b, .ref q_by])), (q_whose, .inl (cyI, (6, .inl c_whose))), (q_story, .inl (cyI, (6, .inl c_story))), (q_watch, .inl (cyI, (12, .inl c_watch))), (q_kind, .inl (cyI, (8, .inl c_kind))), (q_a, .inl (cyI, (8, .inl c_a))), (q_b, .inl (cyI, (8, .inl c_b))), (q_by, .inl (cyI, (8, .inl c_by)))] H → va_D A [(q_this, .inr (4, [.int c_things, .ref q_whose, .ref q_story, .ref q_watch, .int c_sayings, .ref q_kind, .ref q_a, .ref q_b, .ref q_by])), (q_whose, .inl (cyI, (6, .inl c_whose))), (q_story, .inl (cyI, (6, .inl c_story))), (q_watch, .inl (cyI, (12, .inl c_watch))), (q_kind, .inl (cyI, (8, .inl c_kind))), (q_a, .inl (cyI, (8, .inl c_a))), (q_b, .inl (cyI, (8, .inl c_b))), (q_by, .inl (cyI, (8, .inl c_by)))] → va_S A s.heap H locs → lv_has ls 5 [(0, .ref q_this), (2, .long x2), (4, .int x4)] → wp_X4_digestWith_b52 Q c_things c_sayings c_whose c_story c_watch c_kind c_a c_b c_by n x2 x4 → W p l e rm_X4_digestWith s m args below meth c H locs 0 0 ZZ (F0 m 52 ls []) := by
    intro n
    induction n with
    | zero =>
      intro x2 x4 H locs ls hP hD hS hl hw
      exact False.elim hw
    | succ n ih =>
      intro x2 x4 H locs ls hP hD hS hl hw
      unfold wp_X4_digestWith_b52 at hw
      refine lv_iload hx hb dX4_digestWith_52 (lv_at hl 2 rfl) ?_
      refine lv_aload_n hx hb dX4_digestWith_54 rfl (lv_at hl 0 rfl) ?_
      refine va_get (D := (dC, dI)) (ci := 4) (v := .int c_things) (C := RX4) (T := TX4) (N := 9) hx hb hts iX4_digestWith_X4 hown hK hP 0 rfl rfl 0 (by decide) (hts _ (lX4_digestWith_3)) (fun _ h9 => h9) rfl dX4_digestWith_55 ?_
      refine lv_icmp_ge (tgt := 97) hx hb dX4_digestWith_58 (by decide) (fun b_15 => ?_) (fun b_15 => ?_)
      · replace hw := hw.1 b_15
        exact k97 x2 H locs ls hP hD hS (lv_sub hl [0, 1] rfl) hw
      · replace hw := hw.2 b_15
        refine lv_ldc2 (v := 31) hx hb hown (hts _ (lX4_digestWith_2)) dX4_digestWith_61 ?_
        refine lv_lload_n hx hb dX4_digestWith_64 rfl (lv_at hl 1 rfl) ?_
        refine lv_lmul hx hb dX4_digestWith_65 ?_
        refine lv_aload_n hx hb dX4_digestWith_66 rfl (lv_at hl 0 rfl) ?_
        refine va_get (D := (dC, dI)) (ci := 4) (v := .ref q_whose) (C := RX4) (T := TX4) (N := 9) hx hb hts iX4_digestWith_X4 hown hK hP 0 rfl rfl 1 (by decide) (hts _ (lX4_digestWith_5)) (fun _ h9 => h9) rfl dX4_digestWith_67 ?_
        refine lv_iload hx hb dX4_digestWith_70 (lv_at hl 2 rfl) ?_
        obtain ⟨h_16, hw⟩ := hw
        refine va_iald hx hb hK hP 1 0 rfl rfl h_16 dX4_digestWith_72 ?_
        refine lv_i2l hx hb dX4_digestWith_73 rfl ?_
        refine lv_ladd hx hb dX4_digestWith_74 ?_
        refine lv_topl (fun y_17 ey_17 => ?_)
        replace hw := hw y_17 ey_17
        refine lv_lstore_n (lv' := [(2, .long y_17), (0, .ref q_this), (4, .int x4)]) hx hb dX4_digestWith_75 rfl hl (by decide) rfl (fun ls hl => ?_)
        refine lv_ldc2 (v := 31) hx hb hown (hts _ (lX4_digestWith_2)) dX4_digestWith_76 ?_
        refine lv_lload_n hx hb dX4_digestWith_79 rfl (lv_at hl 0 rfl) ?_
        refine lv_lmul hx hb dX4_digestWith_80 ?_
        refine lv_aload_n hx hb dX4_digestWith_81 rfl (lv_at hl 1 rfl) ?_
        refine va_get (D := (dC, dI)) (ci := 4) (v := .ref q_story) (C := RX4) (T := TX4) (N := 9) hx hb hts iX4_digestWith_X4 hown hK hP 0 rfl rfl 2 (by decide) (hts _ (lX4_digestWith_6)) (fun _ h9 => h9) rfl dX4_digestWith_82 ?_
        refine lv_iload hx hb dX4_digestWith_85 (lv_at hl 2 rfl) ?_
        obtain ⟨h_18, hw⟩ := hw
        refine va_iald hx hb hK hP 2 0 rfl rfl h_18 dX4_digestWith_87 ?_
        refine lv_i2l hx hb dX4_digestWith_88 rfl ?_
        refine lv_ladd hx hb dX4_digestWith_89 ?_
        refine lv_topl (fun y_19 ey_19 => ?_)
        replace hw := hw y_19 ey_19
        refine lv_lstore_n (lv' := [(2, .long y_19), (0, .ref q_this), (4, .int x4)]) hx hb dX4_digestWith_90 rfl hl (by decide) rfl (fun ls hl => ?_)
        refine lv_iinc (v := (x4 + 1)) (lv' := [(4, .int (x4 + 1)), (2, .long y_19), (0, .ref q_this)]) hx hb dX4_digestWith_91 hl (k := 2) rfl rfl (by decide) rfl (fun ls hl => ?_)
        refine lv_goto (tgt := 52) hx hb dX4_digestWith_94 (by decide) ?_
        exact ih y_19 (x4 + 1) H locs ls hP hD hS (lv_sub hl [2, 1, 0] rfl) hw
  unfold wp_X4_digestWith at hw
  refine lv_ldc2 (v := 709) hx hb hown (hts _ (lX4_digestWith_1)) dX4_digestWith_0 ?_
  refine lv_lstore_n (lv' := [(2, .long (709 : Int64)), (0, .ref q_this), (1, .int p1)]) hx hb dX4_digestWith_3 rfl hl (by decide) rfl (fun ls hl => ?_)
  refine lv_ldc2 (v := 31) hx hb hown (hts _ (lX4_digestWith_2)) dX4_digestWith_4 ?_
  refine lv_lload_n hx hb dX4_digestWith_7 rfl (lv_at hl 0 rfl) ?_
  refine lv_lmul hx hb dX4_digestWith_8 ?_
  refine lv_aload_n hx hb dX4_digestWith_9 rfl (lv_at hl 1 rfl) ?_
  refine va_get (D := (dC, dI)) (ci := 4) (v := .int c_things) (C := RX4) (T := TX4) (N := 9) hx hb hts iX4_digestWith_X4 hown hK hP 0 rfl rfl 0 (by decide) (hts _ (lX4_digestWith_3)) (fun _ h9 => h9) rfl dX4_digestWith_10 ?_
  refine lv_i2l hx hb dX4_digestWith_13 rfl ?_
  refine lv_ladd hx hb dX4_digestWith_14 ?_
  refine lv_topl (fun y_20 ey_20 => ?_)
  replace hw := hw y_20 ey_20
  refine lv_lstore_n (lv' := [(2, .long y_20), (0, .ref q_this), (1, .int p1)]) hx hb dX4_digestWith_15 rfl hl (by decide) rfl (fun ls hl => ?_)
  refine lv_ldc2 (v := 31) hx hb hown (hts _ (lX4_digestWith_2)) dX4_digestWith_16 ?_
  refine lv_lload_n hx hb dX4_digestWith_19 rfl (lv_at hl 0 rfl) ?_
  refine lv_lmul hx hb dX4_digestWith_20 ?_
  refine lv_aload_n hx hb dX4_digestWith_21 rfl (lv_at hl 1 rfl) ?_
  refine va_get (D := (dC, dI)) (ci := 4) (v := .int c_sayings) (C := RX4) (T := TX4) (N := 9) hx hb hts iX4_digestWith_X4 hown hK hP 0 rfl rfl 4 (by decide) (hts _ (lX4_digestWith_4)) (fun _ h9 => h9) rfl dX4_digestWith_22 ?_
  refine lv_i2l hx hb dX4_digestWith_25 rfl ?_
  refine lv_ladd hx hb dX4_digestWith_26 ?_
  refine lv_topl (fun y_21 ey_21 => ?_)
  replace hw := hw y_21 ey_21
  refine lv_lstore_n (lv' := [(2, .long y_21), (0, .ref q_this), (1, .int p1)]) hx hb dX4_digestWith_27 rfl hl (by decide) rfl (fun ls hl => ?_)
  refine lv_ldc2 (v := 31) hx hb hown (hts _ (lX4_digestWith_2)) dX4_digestWith_28 ?_
  refine lv_lload_n hx hb dX4_digestWith_31 rfl (lv_at hl 0 rfl) ?_
  refine lv_lmul hx hb dX4_digestWith_32 ?_
  refine lv_aload_n hx hb dX4_digestWith_33 rfl (lv_at hl 1 rfl) ?_
  have hPc := hP.sub (ws' := [(q_this, .inr (4, [.int c_things, .ref q_whose, .ref q_story, .ref q_watch, .int c_sayings, .ref q_kind, .ref q_a, .ref q_b, .ref q_by])), (q_watch, .inl (cyI, (12, .inl c_watch)))]) [0, 3] rfl
  have hDc := hD.sub (ws' := [(q_this, .inr (4, [.int c_things, .ref q_whose, .ref q_story, .ref q_watch, .int c_sayings, .ref q_kind, .ref q_a, .ref q_b, .ref q_by])), (q_watch, .inl (cyI, (12, .inl c_watch)))]) [0, 3] (by decide) rfl
  have hFc := va_free (wc := [(q_this, .inr (4, [.int c_things, .ref q_whose, .ref q_story, .ref q_watch, .int c_sayings, .ref q_kind, .ref q_a, .ref q_b, .ref q_by])), (q_watch, .inl (cyI, (12, .inl c_watch)))]) hD hS hA [0, 3] rfl
  refine va_calli (va_runV (As := []) (rest := [.long ((31 : Int64) * y_21)]) ⟨hx, hb, hml, hown, hts⟩ (c_X4_watched l dC dI cyI cyJ cyZ cyH q_this q_whose q_story q_watch q_kind q_a q_b q_by H.size c_sayings c_things c_watch _ hw) (cwV 0 hts gX4_digestWith_X4_watched rfl rfl rfl (by decide +kernel) ⟨Nat.le_of_ble_eq_true rfl, Nat.le_of_ble_eq_true rfl⟩) ⟨nw_fb, va_recv hK hPc (ci := 4) (q0 := 0) rfl rfl, fun U hU hW => ⟨rfl, by rw [hU], by rw [hU]; exact hPc, va_K.moved hW.alike hK, hDc.weaken (fun _ _ _ _ => trivial)⟩⟩ rfl rfl hl.1 rfl (lv_room (Nat.le_of_ble_eq_true rfl)) dX4_digestWith_34 ⟨Nat.le_of_ble_eq_true rfl, Nat.le_of_ble_eq_true rfl⟩) hS (fun q _ h => hFc q h) hFc (fun r_22 u t H1 locs ht hvm hw hB hz1 hk1 hS => ?_)
  obtain ⟨hP1, hK1, hD1⟩ := hB
  rw [ht] at hP1
  obtain ⟨hP, hD⟩ := va_join (wr := [(q_whose, .inl (cyI, (6, .inl c_whose))), (q_story, .inl (cyI, (6, .inl c_story))), (q_kind, .inl (cyI, (8, .inl c_kind))), (q_a, .inl (cyI, (8, .inl c_a))), (q_b, .inl (cyI, (8, .inl c_b))), (q_by, .inl (cyI, (8, .inl c_by)))]) (w1 := [(q_this, .inr (4, [.int c_things, .ref q_whose, .ref q_story, .ref q_watch, .int c_sayings, .ref q_kind, .ref q_a, .ref q_b, .ref q_by])), (q_watch, .inl (cyI, (12, .inl c_watch)))]) hP hD [0, 3] [1, 2, 4, 5, 6, 7] rfl rfl (by decide) (by decide) hk1 hFc hP1 hD1
  generalize H1 = H at hP hS ⊢
  have hP := hP.sub (ws' := [(q_this, .inr (4, [.int c_things, .ref q_whose, .ref q_story, .ref q_watch, .int c_sayings, .ref q_kind, .ref q_a, .ref q_b, .ref q_by])), (q_whose, .inl (cyI, (6, .inl c_whose))), (q_story, .inl (cyI, (6, .inl c_story))), (q_watch, .inl (cyI, (12, .inl c_watch))), (q_kind, .inl (cyI, (8, .inl c_kind))), (q_a, .inl (cyI, (8, .inl c_a))), (q_b, .inl (cyI, (8, .inl c_b))), (q_by, .inl (cyI, (8, .inl c_by)))]) [6, 0, 1, 7, 2, 3, 4, 5] rfl
  have hD := hD.sub (ws' := [(q_this, .inr (4, [.int c_things, .ref q_whose, .ref q_story, .ref q_watch, .int c_sayings, .ref q_kind, .ref q_a, .ref q_b, .ref q_by])), (q_whose, .inl (cyI, (6, .inl c_whose))), (q_story, .inl (cyI, (6, .inl c_story))), (q_watch, .inl (cyI, (12, .inl c_watch))), (q_kind, .inl (cyI, (8, .inl c_kind))), (q_a, .inl (cyI, (8, .inl c_a))), (q_b, .inl (cyI, (8, .inl c_b))), (q_by, .inl (cyI, (8, .inl c_by)))]) [6, 0, 1, 7, 2, 3, 4, 5] (by decide) rfl
  try dsimp only at hw
  refine lv_i2l hx hb dX4_digestWith_37 rfl ?_
  refine lv_ladd hx hb dX4_digestWith_38 ?_
  refine lv_topl (fun y_23 ey_23 => ?_)
  replace hw := hw y_23 ey_23
  refine lv_lstore_n (lv' := [(2, .long y_23), (0, .ref q_this), (1, .int p1)]) hx hb dX4_digestWith_39 rfl hl (by decide) rfl (fun ls hl => ?_)
  refine lv_ldc2 (v := 31) hx hb hown (hts _ (lX4_digestWith_2)) dX4_digestWith_40 ?_
  refine lv_lload_n hx hb dX4_digestWith_43 rfl (lv_at hl 0 rfl) ?_
  refine lv_lmul hx hb dX4_digestWith_44 ?_
  refine lv_iload_n hx hb dX4_digestWith_45 rfl (lv_at hl 2 rfl) ?_
  refine lv_i2l hx hb dX4_digestWith_46 rfl ?_
  refine lv_ladd hx hb dX4_digestWith_47 ?_
  refine lv_topl (fun y_24 ey_24 => ?_)
  replace hw := hw y_24 ey_24
  refine lv_lstore_n (lv' := [(2, .long y_24), (0, .ref q_this), (1, .int p1)]) hx hb dX4_digestWith_48 rfl hl (by decide) rfl (fun ls hl => ?_)
  refine lv_iconst (v := 0) hx hb dX4_digestWith_49 (by decide) ?_
  refine lv_istore (lv' := [(4, .int (0 : Int32)), (2, .long y_24), (0, .ref q_this), (1, .int p1)]) hx hb dX4_digestWith_50 hl (by decide) rfl (fun ls hl => ?_)
  obtain ⟨n_25, hw⟩ := hw
  exact k52 n_25 y_24 (0 : Int32) H locs ls hP hD hS (lv_sub hl [2, 1, 0] rfl) hw
set_option maxHeartbeats 8000000 in
set_option maxRecDepth 100000 in
theorem c_X4_digestWith (l : Launch) (dC : Nat → ClassId) (dI : Nat → Nat → Nat) (cyI cyJ cyZ cyH : ClassId) (q_this q_whose q_story q_watch q_kind q_a q_b q_by : Nat) (sz : Nat) (c_things : Int32) (c_sayings : Int32) (c_whose : Nat → Int32) (c_story : Nat → Int32) (c_watch : Nat → Int32) (c_kind : Nat → Int32) (c_a : Nat → Int32) (c_b : Nat → Int32) (c_by : Nat → Int32) (p1 : Int32) (Q : Int64 → Prop) (hw : wp_X4_digestWith p1 c_things c_sayings c_whose c_story c_watch c_kind c_a c_b c_by Q) : Met l yX4_digestWith wsX4_digestWith rm_X4_digestWith (va_Pc [.ref q_this, .int p1] (fun U => U.heap.size = sz ∧ va_P (dC, dI) vwCl [(q_this, .inr (4, [.int c_things, .ref q_whose, .ref q_story, .ref q_watch, .int c_sayings, .ref q_kind, .ref q_a, .ref q_b, .ref q_by])), (q_whose, .inl (cyI, (6, .inl c_whose))), (q_story, .inl (cyI, (6, .inl c_story))), (q_watch, .inl (cyI, (12, .inl c_watch))), (q_kind, .inl (cyI, (8, .inl c_kind))), (q_a, .inl (cyI, (8, .inl c_a))), (q_b, .inl (cyI, (8, .inl c_b))), (q_by, .inl (cyI, (8, .inl c_by)))] U.heap ∧ va_K (dC, dI) vwCl [(cyI, .int), (cyJ, .long), (cyZ, .boolean), (cyH, .object "NoWhen$History")] U ∧ va_D (fun _ => True) [(q_this, .inr (4, [.int c_things, .ref q_whose, .ref q_story, .ref q_watch, .int c_sayings, .ref q_kind, .ref q_a, .ref q_b, .ref q_by])), (q_whose, .inl (cyI, (6, .inl c_whose))), (q_story, .inl (cyI, (6, .inl c_story))), (q_watch, .inl (cyI, (12, .inl c_watch))), (q_kind, .inl (cyI, (8, .inl c_kind))), (q_a, .inl (cyI, (8, .inl c_a))), (q_b, .inl (cyI, (8, .inl c_b))), (q_by, .inl (cyI, (8, .inl c_by)))])) (va_Ql (fun (r : Int64) (u : Unit) => Q r) (fun (u : Unit) (t : State) => va_P (dC, dI) vwCl [(q_this, .inr (4, [.int c_things, .ref q_whose, .ref q_story, .ref q_watch, .int c_sayings, .ref q_kind, .ref q_a, .ref q_b, .ref q_by])), (q_whose, .inl (cyI, (6, .inl c_whose))), (q_story, .inl (cyI, (6, .inl c_story))), (q_watch, .inl (cyI, (12, .inl c_watch))), (q_kind, .inl (cyI, (8, .inl c_kind))), (q_a, .inl (cyI, (8, .inl c_a))), (q_b, .inl (cyI, (8, .inl c_b))), (q_by, .inl (cyI, (8, .inl c_by)))] t.heap ∧ va_K (dC, dI) vwCl [(cyI, .int), (cyJ, .long), (cyZ, .boolean), (cyH, .object "NoWhen$History")] t ∧ va_D (va_A [(q_this, .inr (4, [.int c_things, .ref q_whose, .ref q_story, .ref q_watch, .int c_sayings, .ref q_kind, .ref q_a, .ref q_b, .ref q_by])), (q_whose, .inl (cyI, (6, .inl c_whose))), (q_story, .inl (cyI, (6, .inl c_story))), (q_watch, .inl (cyI, (12, .inl c_watch))), (q_kind, .inl (cyI, (8, .inl c_kind))), (q_a, .inl (cyI, (8, .inl c_a))), (q_b, .inl (cyI, (8, .inl c_b))), (q_by, .inl (cyI, (8, .inl c_by)))] sz) [(q_this, .inr (4, [.int c_things, .ref q_whose, .ref q_story, .ref q_watch, .int c_sayings, .ref q_kind, .ref q_a, .ref q_b, .ref q_by])), (q_whose, .inl (cyI, (6, .inl c_whose))), (q_story, .inl (cyI, (6, .inl c_story))), (q_watch, .inl (cyI, (12, .inl c_watch))), (q_kind, .inl (cyI, (8, .inl c_kind))), (q_a, .inl (cyI, (8, .inl c_a))), (q_b, .inl (cyI, (8, .inl c_b))), (q_by, .inl (cyI, (8, .inl c_by)))]) (va_A [(q_this, .inr (4, [.int c_things, .ref q_whose, .ref q_story, .ref q_watch, .int c_sayings, .ref q_kind, .ref q_a, .ref q_b, .ref q_by])), (q_whose, .inl (cyI, (6, .inl c_whose))), (q_story, .inl (cyI, (6, .inl c_story))), (q_watch, .inl (cyI, (12, .inl c_watch))), (q_kind, .inl (cyI, (8, .inl c_kind))), (q_a, .inl (cyI, (8, .inl c_a))), (q_b, .inl (cyI, (8, .inl c_b))), (q_by, .inl (cyI, (8, .inl c_by)))] sz)) 0 0 (va_A [(q_this, .inr (4, [.int c_things, .ref q_whose, .ref q_story, .ref q_watch, .int c_sayings, .ref q_kind, .ref q_a, .ref q_b, .ref q_by])), (q_whose, .inl (cyI, (6, .inl c_whose))), (q_story, .inl (cyI, (6, .inl c_story))), (q_watch, .inl (cyI, (12, .inl c_watch))), (q_kind, .inl (cyI, (8, .inl c_kind))), (q_a, .inl (cyI, (8, .inl c_a))), (q_b, .inl (cyI, (8, .inl c_b))), (q_by, .inl (cyI, (8, .inl c_by)))] sz) := by
  refine Met.ofW (cc := cX4_digestWith) (maxL := 5) (ret := (some .long)) (by decide) rfl ?_
  intro p e s m args below meth c s₁ B hml hv
  obtain ⟨rfl, hsz, hP, hK, hD0⟩ := hv
  have hx := B.exec
  have hb := B.bytes
  have hr := B.returns
  have hts := atoms_spec (ws := wsX4_digestWith) B.pre
  have hown : s.vm.findClass RX4 = some m.cls := findClass_of_methodNamed B.named
  have hlocks := B.notSynchronized
  subst hsz
  have hD := hD0.self (sz := s.heap.size)
  generalize hAe : va_A [(q_this, .inr (4, [.int c_things, .ref q_whose, .ref q_story, .ref q_watch, .int c_sayings, .ref q_kind, .ref q_a, .ref q_b, .ref q_by])), (q_whose, .inl (cyI, (6, .inl c_whose))), (q_story, .inl (cyI, (6, .inl c_story))), (q_watch, .inl (cyI, (12, .inl c_watch))), (q_kind, .inl (cyI, (8, .inl c_kind))), (q_a, .inl (cyI, (8, .inl c_a))), (q_b, .inl (cyI, (8, .inl c_b))), (q_by, .inl (cyI, (8, .inl c_by)))] s.heap.size = A at hD ⊢
  have hA : ∀ q : Nat, s.heap.size ≤ q → A q := fun q h => by rw [← hAe]; exact Or.inr h
  have hS : va_S A s.heap s.heap [] := va_S.rf
  have hl := lv_entry ([.ref q_this, .int p1]) (n := 5) (Nat.le_of_ble_eq_true rfl)
  rw [lg_entry_eq]
  generalize (lg_sl ([.ref q_this, .int p1]) ++ List.replicate (5 - (lg_sl ([.ref q_this, .int p1])).length) Slot.unset).toArray = ls at hl ⊢
  have hl : lv_has ls 5 [(0, .ref q_this), (1, .int p1)] := hl
  refine k_X4_digestWith hx hb hml hown hts hK hA (fun pc r H locs ls hd hP hD hS hq => ?_) p1 s.heap [] ls hP hD hS hl hw
  exact W.lret (v := r) hx hb hr (fun t ht hW => ⟨⟨r, (), rfl, hq, by rw [ht]; exact hP, va_K.moved hW.alike hK, hD⟩, hS.F ht⟩) hS.2.2 hd
