-- X6_add
theorem lX6_add_1 : (Cond.fieldLink RX6 9 "NoWhen$Paper" "bytes" "[I") ∈ wsX6_add := List.mem_of_getElem? (i := 1) (by rfl)
theorem lX6_add_2 : (Cond.fieldLink RX6 15 "NoWhen$Paper" "length" "I") ∈ wsX6_add := List.mem_of_getElem? (i := 2) (by rfl)
set_option maxRecDepth 20000 in
theorem iX6_add_X6 : ∀ w ∈ wsX60, w ∈ wsX6_add := by decide +kernel
abbrev rm_X6_add : Room := ({ frames := 0, cells := 0, slots := 0, locals := 0 } : Room)
set_option maxHeartbeats 8000000 in
set_option maxRecDepth 100000 in
theorem k_X6_add {p : Program} {l : Launch} {e : Env} {s : State} {m : MethodId} {args : Array Value} {below : List Frame} {meth : Method} {c : Code} {dC : Nat → ClassId} {dI : Nat → Nat → Nat} {cyI cyJ cyZ cyH : ClassId} {A : Nat → Prop} {ZZ : State → Prop} {q_this q_bytes : Nat} {Q : Int32 → (Nat → Int32) → Prop} (hx : p.tables.exec = Jvm.exec) (hb : c.code = cX6_add) (hml : c.maxLocals = 5) (hown : s.vm.findClass RX6 = some m.cls) (hts : ∀ w ∈ wsX6_add, w.before args s = true) (hK : va_K (dC, dI) vwCl [(cyI, .int), (cyJ, .long), (cyZ, .boolean), (cyH, .object "NoWhen$History")] s) (hA : ∀ q : Nat, s.heap.size ≤ q → A q) (kR : ∀ (pc : Nat) (c_length : Int32) (c_bytes : Nat → Int32) (H : Heap) (locs : List Loc) (ls : Array Slot), decode cX6_add pc = .ok (.return_, 1) → va_P (dC, dI) vwCl [(q_this, .inr (6, [.ref q_bytes, .int c_length])), (q_bytes, .inl (cyI, (200, .inl c_bytes)))] H → va_D A [(q_this, .inr (6, [.ref q_bytes, .int c_length])), (q_bytes, .inl (cyI, (200, .inl c_bytes)))] → va_S A s.heap H locs → Q c_length c_bytes → W p l e rm_X6_add s m args below meth c H locs 0 0 ZZ (F0 m pc ls [])) (p1 : Int64) (p3 : Int32) (c_length : Int32) (c_bytes : Nat → Int32) (H : Heap) (locs : List Loc) (ls : Array Slot) (hP : va_P (dC, dI) vwCl [(q_this, .inr (6, [.ref q_bytes, .int c_length])), (q_bytes, .inl (cyI, (200, .inl c_bytes)))] H) (hD : va_D A [(q_this, .inr (6, [.ref q_bytes, .int c_length])), (q_bytes, .inl (cyI, (200, .inl c_bytes)))]) (hS : va_S A s.heap H locs) (hl : lv_has ls 5 [(0, .ref q_this), (1, .long p1), (3, .int p3)]) (hw : wp_X6_add p1 p3 c_length c_bytes Q) : W p l e rm_X6_add s m args below meth c H locs 0 0 ZZ (F0 m 0 ls []) := by
  have k5 : ∀ (n : Nat), ∀ (x1 : Int64) (x4 : Int32) (c_length : Int32) (c_bytes : Nat → Int32) (H : Heap) (locs : List Loc) (ls : Array Slot), va_P (dC, dI) vwCl [(q_this, .inr (6, [.ref q_bytes, .int c_length])), (q_bytes, .inl (cyI, (200, .inl c_bytes)))] H → va_D A [(q_this, .inr (6, [.ref q_bytes, .int c_length])), (q_bytes, .inl (cyI, (200, .inl c_bytes)))] → va_S A s.heap H locs → lv_has ls 5 [(0, .ref q_this), (1, .long x1), (4, .int x4)] → wp_X6_add_b5 Q n x1 x4 c_length c_bytes → W p l e rm_X6_add s m args below meth c H locs 0 0 ZZ (F0 m 5 ls []) := by
    intro n
    induction n with
    | zero =>
      intro x1 x4 c_length c_bytes H locs ls hP hD hS hl hw
      exact False.elim hw
    | succ n ih =>
      intro x1 x4 c_length c_bytes H locs ls hP hD hS hl hw
      unfold wp_X6_add_b5 at hw
      refine lv_iload hx hb dX6_add_5 (lv_at hl 2 rfl) ?_
      refine lv_if_lt (tgt := 47) hx hb dX6_add_7 (by decide) (fun b_1 => ?_) (fun b_1 => ?_)
      · replace hw := hw.1 b_1
        exact kR 47 c_length c_bytes H locs ls dX6_add_47 hP hD hS hw
      · replace hw := hw.2 b_1
        refine lv_aload_n hx hb dX6_add_10 rfl (lv_at hl 0 rfl) ?_
        refine va_get (D := (dC, dI)) (ci := 6) (v := .ref q_bytes) (C := RX6) (T := TX6) (N := 2) hx hb hts iX6_add_X6 hown hK hP 0 rfl rfl 0 (by decide) (hts _ (lX6_add_1)) (fun _ h9 => h9) rfl dX6_add_11 ?_
        refine lv_aload_n hx hb dX6_add_14 rfl (lv_at hl 0 rfl) ?_
        refine va_get (D := (dC, dI)) (ci := 6) (v := .int c_length) (C := RX6) (T := TX6) (N := 2) hx hb hts iX6_add_X6 hown hK hP 0 rfl rfl 1 (by decide) (hts _ (lX6_add_2)) (fun _ h9 => h9) rfl dX6_add_15 ?_
        refine lv_lload_n hx hb dX6_add_18 rfl (lv_at hl 1 rfl) ?_
        refine lv_bipush (v := 8) hx hb dX6_add_19 (by decide) ?_
        refine lv_iload hx hb dX6_add_21 (lv_at hl 2 rfl) ?_
        refine lv_imul hx hb dX6_add_23 ?_
        refine lv_lshr hx hb dX6_add_24 rfl ?_
        refine lv_l2i hx hb dX6_add_25 rfl ?_
        refine lv_sipush (v := 255) hx hb dX6_add_26 (by decide) ?_
        refine lv_iand hx hb dX6_add_29 ?_
        refine lv_topi (fun y_2 ey_2 => ?_)
        replace hw := hw y_2 ey_2
        obtain ⟨h_3, hw⟩ := hw
        refine va_iast hx hb hK hP hD hS 1 0 rfl rfl h_3 dX6_add_30 (fun H locs hP hD hS => ?_)
        have hP : va_P (dC, dI) vwCl [(q_this, .inr (6, [.ref q_bytes, .int c_length])), (q_bytes, .inl (cyI, (200, .inl (upd c_bytes c_length.toNatClampNeg y_2))))] H := hP
        have hD : va_D A [(q_this, .inr (6, [.ref q_bytes, .int c_length])), (q_bytes, .inl (cyI, (200, .inl (upd c_bytes c_length.toNatClampNeg y_2))))] := hD
        refine lv_aload_n hx hb dX6_add_31 rfl (lv_at hl 0 rfl) ?_
        refine lv_dup hx hb dX6_add_32 rfl ?_
        refine va_get (D := (dC, dI)) (ci := 6) (v := .int c_length) (C := RX6) (T := TX6) (N := 2) hx hb hts iX6_add_X6 hown hK hP 0 rfl rfl 1 (by decide) (hts _ (lX6_add_2)) (fun _ h9 => h9) rfl dX6_add_33 ?_
        refine lv_iconst (v := 1) hx hb dX6_add_36 (by decide) ?_
        refine lv_iadd hx hb dX6_add_37 ?_
        refine va_put (D := (dC, dI)) (ci := 6) (v := .int (c_length + (1 : Int32))) (ty := .int) (C := RX6) (T := TX6) (N := 2) hx hb hts iX6_add_X6 tyX6 tyX6_ok nmX6 hown hK hP hD hS 0 rfl rfl 1 (by decide) (hts _ (lX6_add_2)) (fun _ h9 => h9) rfl (by decide +kernel) rfl rfl (Nat.le_of_ble_eq_true rfl) dX6_add_38 (fun H locs hP hD hS => ?_)
        have hP : va_P (dC, dI) vwCl [(q_this, .inr (6, [.ref q_bytes, .int (c_length + (1 : Int32))])), (q_bytes, .inl (cyI, (200, .inl (upd c_bytes c_length.toNatClampNeg y_2))))] H := hP
        have hD : va_D A [(q_this, .inr (6, [.ref q_bytes, .int (c_length + (1 : Int32))])), (q_bytes, .inl (cyI, (200, .inl (upd c_bytes c_length.toNatClampNeg y_2))))] := hD
        refine lv_iinc (v := (x4 + (-1))) (lv' := [(4, .int (x4 + (-1))), (0, .ref q_this), (1, .long x1)]) hx hb dX6_add_41 hl (k := 2) rfl rfl (by decide) rfl (fun ls hl => ?_)
        refine lv_goto (tgt := 5) hx hb dX6_add_44 (by decide) ?_
        exact ih x1 (x4 + (-1)) (c_length + (1 : Int32)) (upd c_bytes c_length.toNatClampNeg y_2) H locs ls hP hD hS (lv_sub hl [1, 2, 0] rfl) hw
  unfold wp_X6_add at hw
  refine lv_iload_n hx hb dX6_add_0 rfl (lv_at hl 2 rfl) ?_
  refine lv_iconst (v := 1) hx hb dX6_add_1 (by decide) ?_
  refine lv_isub hx hb dX6_add_2 ?_
  refine lv_istore (lv' := [(4, .int (p3 - (1 : Int32))), (0, .ref q_this), (1, .long p1), (3, .int p3)]) hx hb dX6_add_3 hl (by decide) rfl (fun ls hl => ?_)
  obtain ⟨n_4, hw⟩ := hw
  exact k5 n_4 p1 (p3 - (1 : Int32)) c_length c_bytes H locs ls hP hD hS (lv_sub hl [1, 2, 0] rfl) hw
set_option maxHeartbeats 8000000 in
set_option maxRecDepth 100000 in
theorem c_X6_add (l : Launch) (dC : Nat → ClassId) (dI : Nat → Nat → Nat) (cyI cyJ cyZ cyH : ClassId) (q_this q_bytes : Nat) (sz : Nat) (c_length : Int32) (c_bytes : Nat → Int32) (p1 : Int64) (p3 : Int32) (Q : Int32 → (Nat → Int32) → Prop) (hw : wp_X6_add p1 p3 c_length c_bytes Q) : Met l yX6_add wsX6_add rm_X6_add (va_Pc [.ref q_this, .long p1, .int p3] (fun U => U.heap.size = sz ∧ va_P (dC, dI) vwCl [(q_this, .inr (6, [.ref q_bytes, .int c_length])), (q_bytes, .inl (cyI, (200, .inl c_bytes)))] U.heap ∧ va_K (dC, dI) vwCl [(cyI, .int), (cyJ, .long), (cyZ, .boolean), (cyH, .object "NoWhen$History")] U ∧ va_D (fun _ => True) [(q_this, .inr (6, [.ref q_bytes, .int c_length])), (q_bytes, .inl (cyI, (200, .inl c_bytes)))])) (va_Qv (fun (u : Int32 × (Nat → Int32)) => Q u.1 u.2) (fun (u : Int32 × (Nat → Int32)) (t : State) => va_P (dC, dI) vwCl [(q_this, .inr (6, [.ref q_bytes, .int u.1])), (q_bytes, .inl (cyI, (200, .inl u.2)))] t.heap ∧ va_K (dC, dI) vwCl [(cyI, .int), (cyJ, .long), (cyZ, .boolean), (cyH, .object "NoWhen$History")] t ∧ va_D (va_A [(q_this, .inr (6, [.ref q_bytes, .int c_length])), (q_bytes, .inl (cyI, (200, .inl c_bytes)))] sz) [(q_this, .inr (6, [.ref q_bytes, .int u.1])), (q_bytes, .inl (cyI, (200, .inl u.2)))]) (va_A [(q_this, .inr (6, [.ref q_bytes, .int c_length])), (q_bytes, .inl (cyI, (200, .inl c_bytes)))] sz)) 0 0 (va_A [(q_this, .inr (6, [.ref q_bytes, .int c_length])), (q_bytes, .inl (cyI, (200, .inl c_bytes)))] sz) := by
  refine Met.ofW (cc := cX6_add) (maxL := 5) (ret := none) (by decide) rfl ?_
  intro p e s m args below meth c s₁ B hml hv
  obtain ⟨rfl, hsz, hP, hK, hD0⟩ := hv
  have hx := B.exec
  have hb := B.bytes
  have hr := B.returns
  have hts := atoms_spec (ws := wsX6_add) B.pre
  have hown : s.vm.findClass RX6 = some m.cls := findClass_of_methodNamed B.named
  have hlocks := B.notSynchronized
  subst hsz
  have hD := hD0.self (sz := s.heap.size)
  generalize hAe : va_A [(q_this, .inr (6, [.ref q_bytes, .int c_length])), (q_bytes, .inl (cyI, (200, .inl c_bytes)))] s.heap.size = A at hD ⊢
  have hA : ∀ q : Nat, s.heap.size ≤ q → A q := fun q h => by rw [← hAe]; exact Or.inr h
  have hS : va_S A s.heap s.heap [] := va_S.rf
  have hl := lv_entry ([.ref q_this, .long p1, .int p3]) (n := 5) (Nat.le_of_ble_eq_true rfl)
  rw [lg_entry_eq]
  generalize (lg_sl ([.ref q_this, .long p1, .int p3]) ++ List.replicate (5 - (lg_sl ([.ref q_this, .long p1, .int p3])).length) Slot.unset).toArray = ls at hl ⊢
  have hl : lv_has ls 5 [(0, .ref q_this), (1, .long p1), (3, .int p3)] := hl
  refine k_X6_add hx hb hml hown hts hK hA (fun pc c_length c_bytes H locs ls hd hP hD hS hq => ?_) p1 p3 c_length c_bytes s.heap [] ls hP hD hS hl hw
  exact W.vret hx hb hr (fun t ht hW => ⟨⟨(c_length, c_bytes), rfl, hq, by rw [ht]; exact hP, va_K.moved hW.alike hK, hD⟩, hS.F ht⟩) hS.2.2 hd
