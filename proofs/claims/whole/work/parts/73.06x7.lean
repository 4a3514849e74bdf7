-- X7_take
theorem lX7_take_1 : (Cond.fieldLink RX7 18 "NoWhen$Parts" "members" "I") ∈ wsX7_take := List.mem_of_getElem? (i := 1) (by rfl)
theorem lX7_take_2 : (Cond.fieldLink RX7 22 "NoWhen$Parts" "count" "I") ∈ wsX7_take := List.mem_of_getElem? (i := 2) (by rfl)
theorem lX7_take_3 : (Cond.fieldLink RX7 15 "NoWhen$Parts" "part" "[I") ∈ wsX7_take := List.mem_of_getElem? (i := 3) (by rfl)
theorem lX7_take_4 : (Cond.fieldLink RX7 9 "NoWhen$Parts" "member" "[I") ∈ wsX7_take := List.mem_of_getElem? (i := 4) (by rfl)
set_option maxRecDepth 20000 in
theorem iX7_take_X7 : ∀ w ∈ wsX70, w ∈ wsX7_take := by decide +kernel
abbrev rm_X7_take : Room := ({ frames := 0, cells := 0, slots := 0, locals := 0 } : Room)
set_option maxHeartbeats 8000000 in
set_option maxRecDepth 100000 in
theorem k_X7_take {p : Program} {l : Launch} {e : Env} {s : State} {m : MethodId} {args : Array Value} {below : List Frame} {meth : Method} {c : Code} {dC : Nat → ClassId} {dI : Nat → Nat → Nat} {cyI cyJ cyZ cyH : ClassId} {A : Nat → Prop} {ZZ : State → Prop} {q_this q_member q_part : Nat} {Q : Int32 → Int32 → (Nat → Int32) → (Nat → Int32) → Prop} (hx : p.tables.exec = Jvm.exec) (hb : c.code = cX7_take) (hml : c.maxLocals = 4) (hown : s.vm.findClass RX7 = some m.cls) (hts : ∀ w ∈ wsX7_take, w.before args s = true) (hK : va_K (dC, dI) vwCl [(cyI, .int), (cyJ, .long), (cyZ, .boolean), (cyH, .object "NoWhen$History")] s) (hA : ∀ q : Nat, s.heap.size ≤ q → A q) (kR : ∀ (pc : Nat) (c_members : Int32) (c_count : Int32) (c_member : Nat → Int32) (c_part : Nat → Int32) (H : Heap) (locs : List Loc) (ls : Array Slot), decode cX7_take pc = .ok (.return_, 1) → va_P (dC, dI) vwCl [(q_this, .inr (7, [.int c_members, .ref q_member, .int c_count, .ref q_part])), (q_member, .inl (cyI, (6, .inl c_member))), (q_part, .inl (cyI, (64, .inl c_part)))] H → va_D A [(q_this, .inr (7, [.int c_members, .ref q_member, .int c_count, .ref q_part])), (q_member, .inl (cyI, (6, .inl c_member))), (q_part, .inl (cyI, (64, .inl c_part)))] → va_S A s.heap H locs → Q c_members c_count c_member c_part → W p l e rm_X7_take s m args below meth c H locs 0 0 ZZ (F0 m pc ls [])) (p1 : Int32) (c_members : Int32) (c_count : Int32) (c_member : Nat → Int32) (c_part : Nat → Int32) (H : Heap) (locs : List Loc) (ls : Array Slot) (hP : va_P (dC, dI) vwCl [(q_this, .inr (7, [.int c_members, .ref q_member, .int c_count, .ref q_part])), (q_member, .inl (cyI, (6, .inl c_member))), (q_part, .inl (cyI, (64, .inl c_part)))] H) (hD : va_D A [(q_this, .inr (7, [.int c_members, .ref q_member, .int c_count, .ref q_part])), (q_member, .inl (cyI, (6, .inl c_member))), (q_part, .inl (cyI, (64, .inl c_part)))]) (hS : va_S A s.heap H locs) (hl : lv_has ls 4 [(0, .ref q_this), (1, .int p1)]) (hw : wp_X7_take p1 c_members c_count c_member c_part Q) : W p l e rm_X7_take s m args below meth c H locs 0 0 ZZ (F0 m 0 ls []) := by
  have k112 : ∀ (K19 : Int32 → Int32 → Int32 → Int32 → (Nat → Int32) → (Nat → Int32) → Prop) (hK19 : ∀ (x1 : Int32) (x2 : Int32) (c_members : Int32) (c_count : Int32) (c_member : Nat → Int32) (c_part : Nat → Int32) (H : Heap) (locs : List Loc) (ls : Array Slot), va_P (dC, dI) vwCl [(q_this, .inr (7, [.int c_members, .ref q_member, .int c_count, .ref q_part])), (q_member, .inl (cyI, (6, .inl c_member))), (q_part, .inl (cyI, (64, .inl c_part)))] H → va_D A [(q_this, .inr (7, [.int c_members, .ref q_member, .int c_count, .ref q_part])), (q_member, .inl (cyI, (6, .inl c_member))), (q_part, .inl (cyI, (64, .inl c_part)))] → va_S A s.heap H locs → lv_has ls 4 [(0, .ref q_this), (1, .int x1), (2, .int x2)] → K19 x1 x2 c_members c_count c_member c_part → W p l e rm_X7_take s m args below meth c H locs 0 0 ZZ (F0 m 19 ls [])), ∀ (x1 : Int32) (x2 : Int32) (c_members : Int32) (c_count : Int32) (c_member : Nat → Int32) (c_part : Nat → Int32) (H : Heap) (locs : List Loc) (ls : Array Slot), va_P (dC, dI) vwCl [(q_this, .inr (7, [.int c_members, .ref q_member, .int c_count, .ref q_part])), (q_member, .inl (cyI, (6, .inl c_member))), (q_part, .inl (cyI, (64, .inl c_part)))] H → va_D A [(q_this, .inr (7, [.int c_members, .ref q_member, .int c_count, .ref q_part])), (q_member, .inl (cyI, (6, .inl c_member))), (q_part, .inl (cyI, (64, .inl c_part)))] → va_S A s.heap H locs → lv_has ls 4 [(0, .ref q_this), (1, .int x1), (2, .int x2)] → wp_X7_take_b112 Q K19 x1 x2 c_members c_count c_member c_part → W p l e rm_X7_take s m args below meth c H locs 0 0 ZZ (F0 m 112 ls []) := by
    intro K19 hK19 x1 x2 c_members c_count c_member c_part H locs ls hP hD hS hl hw
    unfold wp_X7_take_b112 at hw
    refine lv_iinc (v := (x2 + 1)) (lv' := [(2, .int (x2 + 1)), (0, .ref q_this), (1, .int x1)]) hx hb dX7_take_112 hl (k := 2) rfl rfl (by decide) rfl (fun ls hl => ?_)
    refine lv_goto (tgt := 19) hx hb dX7_take_115 (by decide) ?_
    exact hK19 x1 (x2 + 1) c_members c_count c_member c_part H locs ls hP hD hS (lv_sub hl [1, 2, 0] rfl) hw
  have k82 : ∀ (K19 : Int32 → Int32 → Int32 → Int32 → (Nat → Int32) → (Nat → Int32) → Prop) (hK19 : ∀ (x1 : Int32) (x2 : Int32) (c_members : Int32) (c_count : Int32) (c_member : Nat → Int32) (c_part : Nat → Int32) (H : Heap) (locs : List Loc) (ls : Array Slot), va_P (dC, dI) vwCl [(q_this, .inr (7, [.int c_members, .ref q_member, .int c_count, .ref q_part])), (q_member, .inl (cyI, (6, .inl c_member))), (q_part, .inl (cyI, (64, .inl c_part)))] H → va_D A [(q_this, .inr (7, [.int c_members, .ref q_member, .int c_count, .ref q_part])), (q_member, .inl (cyI, (6, .inl c_member))), (q_part, .inl (cyI, (64, .inl c_part)))] → va_S A s.heap H locs → lv_has ls 4 [(0, .ref q_this), (1, .int x1), (2, .int x2)] → K19 x1 x2 c_members c_count c_member c_part → W p l e rm_X7_take s m args below meth c H locs 0 0 ZZ (F0 m 19 ls [])), ∀ (x1 : Int32) (x2 : Int32) (c_members : Int32) (c_count : Int32) (c_member : Nat → Int32) (c_part : Nat → Int32) (H : Heap) (locs : List Loc) (ls : Array Slot), va_P (dC, dI) vwCl [(q_this, .inr (7, [.int c_members, .ref q_member, .int c_count, .ref q_part])), (q_member, .inl (cyI, (6, .inl c_member))), (q_part, .inl (cyI, (64, .inl c_part)))] H → va_D A [(q_this, .inr (7, [.int c_members, .ref q_member, .int c_count, .ref q_part])), (q_member, .inl (cyI, (6, .inl c_member))), (q_part, .inl (cyI, (64, .inl c_part)))] → va_S A s.heap H locs → lv_has ls 4 [(0, .ref q_this), (1, .int x1), (2, .int x2)] → wp_X7_take_b82 Q K19 x1 x2 c_members c_count c_member c_part → W p l e rm_X7_take s m args below meth c H locs 0 0 ZZ (F0 m 82 ls []) := by
    intro K19 hK19 x1 x2 c_members c_count c_member c_part H locs ls hP hD hS hl hw
    unfold wp_X7_take_b82 at hw
    refine lv_aload_n hx hb dX7_take_82 rfl (lv_at hl 0 rfl) ?_
    refine va_get (D := (dC, dI)) (ci := 7) (v := .ref q_member) (C := RX7) (T := TX7) (N := 4) hx hb hts iX7_take_X7 hown hK hP 0 rfl rfl 1 (by decide) (hts _ (lX7_take_4)) (fun _ h9 => h9) rfl dX7_take_83 ?_
    refine lv_aload_n hx hb dX7_take_86 rfl (lv_at hl 0 rfl) ?_
    refine va_get (D := (dC, dI)) (ci := 7) (v := .int c_members) (C := RX7) (T := TX7) (N := 4) hx hb hts iX7_take_X7 hown hK hP 0 rfl rfl 0 (by decide) (hts _ (lX7_take_1)) (fun _ h9 => h9) rfl dX7_take_87 ?_
    refine lv_iload_n hx hb dX7_take_90 rfl (lv_at hl 2 rfl) ?_
    obtain ⟨h_1, hw⟩ := hw
    refine va_iast hx hb hK hP hD hS 1 0 rfl rfl h_1 dX7_take_91 (fun H locs hP hD hS => ?_)
    have hP : va_P (dC, dI) vwCl [(q_this, .inr (7, [.int c_members, .ref q_member, .int c_count, .ref q_part])), (q_member, .inl (cyI, (6, .inl (upd c_member c_members.toNatClampNeg x2)))), (q_part, .inl (cyI, (64, .inl c_part)))] H := hP
    have hD : va_D A [(q_this, .inr (7, [.int c_members, .ref q_member, .int c_count, .ref q_part])), (q_member, .inl (cyI, (6, .inl (upd c_member c_members.toNatClampNeg x2)))), (q_part, .inl (cyI, (64, .inl c_part)))] := hD
    refine lv_aload_n hx hb dX7_take_92 rfl (lv_at hl 0 rfl) ?_
    refine lv_dup hx hb dX7_take_93 rfl ?_
    refine va_get (D := (dC, dI)) (ci := 7) (v := .int c_members) (C := RX7) (T := TX7) (N := 4) hx hb hts iX7_take_X7 hown hK hP 0 rfl rfl 0 (by decide) (hts _ (lX7_take_1)) (fun _ h9 => h9) rfl dX7_take_94 ?_
    refine lv_iconst (v := 1) hx hb dX7_take_97 (by decide) ?_
    refine lv_iadd hx hb dX7_take_98 ?_
    refine va_put (D := (dC, dI)) (ci := 7) (v := .int (c_members + (1 : Int32))) (ty := .int) (C := RX7) (T := TX7) (N := 4) hx hb hts iX7_take_X7 tyX7 tyX7_ok nmX7 hown hK hP hD hS 0 rfl rfl 0 (by decide) (hts _ (lX7_take_1)) (fun _ h9 => h9) rfl (by decide +kernel) rfl rfl (Nat.le_of_ble_eq_true rfl) dX7_take_99 (fun H locs hP hD hS => ?_)
    have hP : va_P (dC, dI) vwCl [(q_this, .inr (7, [.int (c_members + (1 : Int32)), .ref q_member, .int c_count, .ref q_part])), (q_member, .inl (cyI, (6, .inl (upd c_member c_members.toNatClampNeg x2)))), (q_part, .inl (cyI, (64, .inl c_part)))] H := hP
    have hD : va_D A [(q_this, .inr (7, [.int (c_members + (1 : Int32)), .ref q_member, .int c_count, .ref q_part])), (q_member, .inl (cyI, (6, .inl (upd c_member c_members.toNatClampNeg x2)))), (q_part, .inl (cyI, (64, .inl c_part)))] := hD
    refine lv_aload_n hx hb dX7_take_102 rfl (lv_at hl 0 rfl) ?_
    refine lv_dup hx hb dX7_take_103 rfl ?_
    refine va_get (D := (dC, dI)) (ci := 7) (v := .int c_count) (C := RX7) (T := TX7) (N := 4) hx hb hts iX7_take_X7 hown hK hP 0 rfl rfl 2 (by decide) (hts _ (lX7_take_2)) (fun _ h9 => h9) rfl dX7_take_104 ?_
    refine lv_iconst (v := 2) hx hb dX7_take_107 (by decide) ?_
    refine lv_imul hx hb dX7_take_108 ?_
    refine va_put (D := (dC, dI)) (ci := 7) (v := .int (c_count * (2 : Int32))) (ty := .int) (C := RX7) (T := TX7) (N := 4) hx hb hts iX7_take_X7 tyX7 tyX7_ok nmX7 hown hK hP hD hS 0 rfl rfl 2 (by decide) (hts _ (lX7_take_2)) (fun _ h9 => h9) rfl (by decide +kernel) rfl rfl (Nat.le_of_ble_eq_true rfl) dX7_take_109 (fun H locs hP hD hS => ?_)
    have hP : va_P (dC, dI) vwCl [(q_this, .inr (7, [.int (c_members + (1 : Int32)), .ref q_member, .int (c_count * (2 : Int32)), .ref q_part])), (q_member, .inl (cyI, (6, .inl (upd c_member c_members.toNatClampNeg x2)))), (q_part, .inl (cyI, (64, .inl c_part)))] H := hP
    have hD : va_D A [(q_this, .inr (7, [.int (c_members + (1 : Int32)), .ref q_member, .int (c_count * (2 : Int32)), .ref q_part])), (q_member, .inl (cyI, (6, .inl (upd c_member c_members.toNatClampNeg x2)))), (q_part, .inl (cyI, (64, .inl c_part)))] := hD
    exact k112 K19 hK19 x1 x2 (c_members + (1 : Int32)) (c_count * (2 : Int32)) (upd c_member c_members.toNatClampNeg x2) c_part H locs ls hP hD hS hl hw
  have k47 : ∀ (K19 : Int32 → Int32 → Int32 → Int32 → (Nat → Int32) → (Nat → Int32) → Prop) (hK19 : ∀ (x1 : Int32) (x2 : Int32) (c_members : Int32) (c_count : Int32) (c_member : Nat → Int32) (c_part : Nat → Int32) (H : Heap) (locs : List Loc) (ls : Array Slot), va_P (dC, dI) vwCl [(q_this, .inr (7, [.int c_members, .ref q_member, .int c_count, .ref q_part])), (q_member, .inl (cyI, (6, .inl c_member))), (q_part, .inl (cyI, (64, .inl c_part)))] H → va_D A [(q_this, .inr (7, [.int c_members, .ref q_member, .int c_count, .ref q_part])), (q_member, .inl (cyI, (6, .inl c_member))), (q_part, .inl (cyI, (64, .inl c_part)))] → va_S A s.heap H locs → lv_has ls 4 [(0, .ref q_this), (1, .int x1), (2, .int x2)] → K19 x1 x2 c_members c_count c_member c_part → W p l e rm_X7_take s m args below meth c H locs 0 0 ZZ (F0 m 19 ls [])) (n : Nat), ∀ (x1 : Int32) (x2 : Int32) (x3 : Int32) (c_members : Int32) (c_count : Int32) (c_member : Nat → Int32) (c_part : Nat → Int32) (H : Heap) (locs : List Loc) (ls : Array Slot), va_P (dC, dI) vwCl [(q_this, .inr (7, [.int c_members, .ref q_member, .int c_count, .ref q_part])), (q_member, .inl (cyI, (6, .inl c_member))), (q_part, .inl (cyI, (64, .inl c_part)))] H → va_D A [(q_this, .inr (7, [.int c_members, .ref q_member, .int c_count, .ref q_part])), (q_member, .inl (cyI, (6, .inl c_member))), (q_part, .inl (cyI, (64, .inl c_part)))] → va_S A s.heap H locs → lv_has ls 4 [(0, .ref q_this), (1, .int x1), (2, .int x2), (3, .int x3)] → wp_X7_take_b47 Q K19 n x1 x2 x3 c_members c_count c_member c_part → W p l e rm_X7_take s m args below meth c H locs 0 0 ZZ (F0 m 47 ls []) := by
    intro K19 hK19 n
    induction n with
    | zero =>
      intro x1 x2 x3 c_members c_count c_member c_part H locs ls hP hD hS hl hw
      exact False.elim hw
    | succ n ih =>
      intro x1 x2 x3 c_members c_count c_member c_part H locs ls hP hD hS hl hw
      unfold wp_X7_take_b47 at hw
      refine lv_iload_n hx hb dX7_take_47 rfl (lv_at hl 3 rfl) ?_
      refine lv_aload_n hx hb dX7_take_48 rfl (lv_at hl 0 rfl) ?_
      refine va_get (D := (dC, dI)) (ci := 7) (v := .int c_count) (C := RX7) (T := TX7) (N := 4) hx hb hts iX7_take_X7 hown hK hP 0 rfl rfl 2 (by decide) (hts _ (lX7_take_2)) (fun _ h9 => h9) rfl dX7_take_49 ?_
      refine lv_icmp_ge (tgt := 82) hx hb dX7_take_52 (by decide) (fun b_2 => ?_) (fun b_2 => ?_)
      · replace hw := hw.1 b_2
        exact k82 K19 hK19 x1 x2 c_members c_count c_member c_part H locs ls hP hD hS (lv_sub hl [0, 1, 2] rfl) hw
      · replace hw := hw.2 b_2
        refine lv_aload_n hx hb dX7_take_55 rfl (lv_at hl 0 rfl) ?_
        refine va_get (D := (dC, dI)) (ci := 7) (v := .ref q_part) (C := RX7) (T := TX7) (N := 4) hx hb hts iX7_take_X7 hown hK hP 0 rfl rfl 3 (by decide) (hts _ (lX7_take_3)) (fun _ h9 => h9) rfl dX7_take_56 ?_
        refine lv_aload_n hx hb dX7_take_59 rfl (lv_at hl 0 rfl) ?_
        refine va_get (D := (dC, dI)) (ci := 7) (v := .int c_count) (C := RX7) (T := TX7) (N := 4) hx hb hts iX7_take_X7 hown hK hP 0 rfl rfl 2 (by decide) (hts _ (lX7_take_2)) (fun _ h9 => h9) rfl dX7_take_60 ?_
        refine lv_iload_n hx hb dX7_take_63 rfl (lv_at hl 3 rfl) ?_
        refine lv_iadd hx hb dX7_take_64 ?_
        refine lv_aload_n hx hb dX7_take_65 rfl (lv_at hl 0 rfl) ?_
        refine va_get (D := (dC, dI)) (ci := 7) (v := .ref q_part) (C := RX7) (T := TX7) (N := 4) hx hb hts iX7_take_X7 hown hK hP 0 rfl rfl 3 (by decide) (hts _ (lX7_take_3)) (fun _ h9 => h9) rfl dX7_take_66 ?_
        refine lv_iload_n hx hb dX7_take_69 rfl (lv_at hl 3 rfl) ?_
        obtain ⟨h_3, hw⟩ := hw
        refine va_iald hx hb hK hP 2 0 rfl rfl h_3 dX7_take_70 ?_
        refine lv_iconst (v := 1) hx hb dX7_take_71 (by decide) ?_
        refine lv_iload_n hx hb dX7_take_72 rfl (lv_at hl 2 rfl) ?_
        refine lv_ishl hx hb dX7_take_73 ?_
        refine lv_ior hx hb dX7_take_74 ?_
        refine lv_topi (fun y_4 ey_4 => ?_)
        replace hw := hw y_4 ey_4
        obtain ⟨h_5, hw⟩ := hw
        refine va_iast hx hb hK hP hD hS 2 0 rfl rfl h_5 dX7_take_75 (fun H locs hP hD hS => ?_)
        have hP : va_P (dC, dI) vwCl [(q_this, .inr (7, [.int c_members, .ref q_member, .int c_count, .ref q_part])), (q_member, .inl (cyI, (6, .inl c_member))), (q_part, .inl (cyI, (64, .inl (upd c_part (c_count + x3).toNatClampNeg y_4))))] H := hP
        have hD : va_D A [(q_this, .inr (7, [.int c_members, .ref q_member, .int c_count, .ref q_part])), (q_member, .inl (cyI, (6, .inl c_member))), (q_part, .inl (cyI, (64, .inl (upd c_part (c_count + x3).toNatClampNeg y_4))))] := hD
        refine lv_iinc (v := (x3 + 1)) (lv' := [(3, .int (x3 + 1)), (0, .ref q_this), (1, .int x1), (2, .int x2)]) hx hb dX7_take_76 hl (k := 3) rfl rfl (by decide) rfl (fun ls hl => ?_)
        refine lv_goto (tgt := 47) hx hb dX7_take_79 (by decide) ?_
        exact ih x1 x2 (x3 + 1) c_members c_count c_member (upd c_part (c_count + x3).toNatClampNeg y_4) H locs ls hP hD hS (lv_sub hl [1, 2, 3, 0] rfl) hw
  have k19 : ∀ (n : Nat), ∀ (x1 : Int32) (x2 : Int32) (c_members : Int32) (c_count : Int32) (c_member : Nat → Int32) (c_part : Nat → Int32) (H : Heap) (locs : List Loc) (ls : Array Slot), va_P (dC, dI) vwCl [(q_this, .inr (7, [.int c_members, .ref q_member, .int c_count, .ref q_part])), (q_member, .inl (cyI, (6, .inl c_member))), (q_part, .inl (cyI, (64, .inl c_part)))] H → va_D A [(q_this, .inr (7, [.int c_members, .ref q_member, .int c_count, .ref q_part])), (q_member, .inl (cyI, (6, .inl c_member))), (q_part, .inl (cyI, (64, .inl c_part)))] → va_S A s.heap H locs → lv_has ls 4 [(0, .ref q_this), (1, .int x1), (2, .int x2)] → wp_X7_take_b19 Q n x1 x2 c_members c_count c_member c_part → W p l e rm_X7_take s m args below meth c H locs 0 0 ZZ (F0 m 19 ls []) := by
    intro n
    induction n with
    | zero =>
      intro x1 x2 c_members c_count c_member c_part H locs ls hP hD hS hl hw
      exact False.elim hw
    | succ n ih =>
      intro x1 x2 c_members c_count c_member c_part H locs ls hP hD hS hl hw
      unfold wp_X7_take_b19 at hw
      refine lv_iload_n hx hb dX7_take_19 rfl (lv_at hl 2 rfl) ?_
      refine lv_bipush (v := 12) hx hb dX7_take_20 (by decide) ?_
      refine lv_icmp_ge (tgt := 118) hx hb dX7_take_22 (by decide) (fun b_6 => ?_) (fun b_6 => ?_)
      · replace hw := hw.1 b_6
        exact kR 118 c_members c_count c_member c_part H locs ls dX7_take_118 hP hD hS hw
      · replace hw := hw.2 b_6
        refine lv_aload_n hx hb dX7_take_25 rfl (lv_at hl 0 rfl) ?_
        refine va_get (D := (dC, dI)) (ci := 7) (v := .int c_members) (C := RX7) (T := TX7) (N := 4) hx hb hts iX7_take_X7 hown hK hP 0 rfl rfl 0 (by decide) (hts _ (lX7_take_1)) (fun _ h9 => h9) rfl dX7_take_26 ?_
        refine lv_bipush (v := 6) hx hb dX7_take_29 (by decide) ?_
        refine lv_icmp_ge (tgt := 118) hx hb dX7_take_31 (by decide) (fun b_7 => ?_) (fun b_7 => ?_)
        · replace hw := hw.1 b_7
          exact kR 118 c_members c_count c_member c_part H locs ls dX7_take_118 hP hD hS hw
        · replace hw := hw.2 b_7
          refine lv_iload_n hx hb dX7_take_34 rfl (lv_at hl 1 rfl) ?_
          refine lv_iload_n hx hb dX7_take_35 rfl (lv_at hl 2 rfl) ?_
          refine lv_ishr hx hb dX7_take_36 ?_
          refine lv_iconst (v := 1) hx hb dX7_take_37 (by decide) ?_
          refine lv_iand hx hb dX7_take_38 ?_
          refine lv_if_ne (tgt := 45) hx hb dX7_take_39 (by decide) (fun b_8 => ?_) (fun b_8 => ?_)
          · replace hw := hw.2 b_8
            refine lv_iconst (v := 0) hx hb dX7_take_45 (by decide) ?_
            refine lv_istore_n (lv' := [(3, .int (0 : Int32)), (0, .ref q_this), (1, .int x1), (2, .int x2)]) hx hb dX7_take_46 rfl hl (by decide) rfl (fun ls hl => ?_)
            obtain ⟨n_9, hw⟩ := hw
            exact k47 (wp_X7_take_b19 Q n) ih n_9 x1 x2 (0 : Int32) c_members c_count c_member c_part H locs ls hP hD hS (lv_sub hl [1, 2, 3, 0] rfl) hw
          · replace hw := hw.1 b_8
            refine lv_goto (tgt := 112) hx hb dX7_take_42 (by decide) ?_
            exact k112 (wp_X7_take_b19 Q n) ih x1 x2 c_members c_count c_member c_part H locs ls hP hD hS hl hw
  unfold wp_X7_take at hw
  refine lv_aload_n hx hb dX7_take_0 rfl (lv_at hl 0 rfl) ?_
  refine lv_iconst (v := 0) hx hb dX7_take_1 (by decide) ?_
  refine va_put (D := (dC, dI)) (ci := 7) (v := .int (0 : Int32)) (ty := .int) (C := RX7) (T := TX7) (N := 4) hx hb hts iX7_take_X7 tyX7 tyX7_ok nmX7 hown hK hP hD hS 0 rfl rfl 0 (by decide) (hts _ (lX7_take_1)) (fun _ h9 => h9) rfl (by decide +kernel) rfl rfl (Nat.le_of_ble_eq_true rfl) dX7_take_2 (fun H locs hP hD hS => ?_)
  have hP : va_P (dC, dI) vwCl [(q_this, .inr (7, [.int (0 : Int32), .ref q_member, .int c_count, .ref q_part])), (q_member, .inl (cyI, (6, .inl c_member))), (q_part, .inl (cyI, (64, .inl c_part)))] H := hP
  have hD : va_D A [(q_this, .inr (7, [.int (0 : Int32), .ref q_member, .int c_count, .ref q_part])), (q_member, .inl (cyI, (6, .inl c_member))), (q_part, .inl (cyI, (64, .inl c_part)))] := hD
  refine lv_aload_n hx hb dX7_take_5 rfl (lv_at hl 0 rfl) ?_
  refine lv_iconst (v := 1) hx hb dX7_take_6 (by decide) ?_
  refine va_put (D := (dC, dI)) (ci := 7) (v := .int (1 : Int32)) (ty := .int) (C := RX7) (T := TX7) (N := 4) hx hb hts iX7_take_X7 tyX7 tyX7_ok nmX7 hown hK hP hD hS 0 rfl rfl 2 (by decide) (hts _ (lX7_take_2)) (fun _ h9 => h9) rfl (by decide +kernel) rfl rfl (Nat.le_of_ble_eq_true rfl) dX7_take_7 (fun H locs hP hD hS => ?_)
  have hP : va_P (dC, dI) vwCl [(q_this, .inr (7, [.int (0 : Int32), .ref q_member, .int (1 : Int32), .ref q_part])), (q_member, .inl (cyI, (6, .inl c_member))), (q_part, .inl (cyI, (64, .inl c_part)))] H := hP
  have hD : va_D A [(q_this, .inr (7, [.int (0 : Int32), .ref q_member, .int (1 : Int32), .ref q_part])), (q_member, .inl (cyI, (6, .inl c_member))), (q_part, .inl (cyI, (64, .inl c_part)))] := hD
  refine lv_aload_n hx hb dX7_take_10 rfl (lv_at hl 0 rfl) ?_
  refine va_get (D := (dC, dI)) (ci := 7) (v := .ref q_part) (C := RX7) (T := TX7) (N := 4) hx hb hts iX7_take_X7 hown hK hP 0 rfl rfl 3 (by decide) (hts _ (lX7_take_3)) (fun _ h9 => h9) rfl dX7_take_11 ?_
  refine lv_iconst (v := 0) hx hb dX7_take_14 (by decide) ?_
  refine lv_iconst (v := 0) hx hb dX7_take_15 (by decide) ?_
  obtain ⟨h_10, hw⟩ := hw
  refine va_iast hx hb hK hP hD hS 2 0 rfl rfl h_10 dX7_take_16 (fun H locs hP hD hS => ?_)
  have hP : va_P (dC, dI) vwCl [(q_this, .inr (7, [.int (0 : Int32), .ref q_member, .int (1 : Int32), .ref q_part])), (q_member, .inl (cyI, (6, .inl c_member))), (q_part, .inl (cyI, (64, .inl (upd c_part (0 : Int32).toNatClampNeg (0 : Int32)))))] H := hP
  have hD : va_D A [(q_this, .inr (7, [.int (0 : Int32), .ref q_member, .int (1 : Int32), .ref q_part])), (q_member, .inl (cyI, (6, .inl c_member))), (q_part, .inl (cyI, (64, .inl (upd c_part (0 : Int32).toNatClampNeg (0 : Int32)))))] := hD
  refine lv_iconst (v := 0) hx hb dX7_take_17 (by decide) ?_
  refine lv_istore_n (lv' := [(2, .int (0 : Int32)), (0, .ref q_this), (1, .int p1)]) hx hb dX7_take_18 rfl hl (by decide) rfl (fun ls hl => ?_)
  obtain ⟨n_11, hw⟩ := hw
  exact k19 n_11 p1 (0 : Int32) (0 : Int32) (1 : Int32) c_member (upd c_part (0 : Int32).toNatClampNeg (0 : Int32)) H locs ls hP hD hS (lv_sub hl [1, 2, 0] rfl) hw
set_option maxHeartbeats 8000000 in
set_option maxRecDepth 100000 in
theorem c_X7_take (l : Launch) (dC : Nat → ClassId) (dI : Nat → Nat → Nat) (cyI cyJ cyZ cyH : ClassId) (q_this q_member q_part : Nat) (sz : Nat) (c_members : Int32) (c_count : Int32) (c_member : Nat → Int32) (c_part : Nat → Int32) (p1 : Int32) (Q : Int32 → Int32 → (Nat → Int32) → (Nat → Int32) → Prop) (hw : wp_X7_take p1 c_members c_count c_member c_part Q) : Met l yX7_take wsX7_take rm_X7_take (va_Pc [.ref q_this, .int p1] (fun U => U.heap.size = sz ∧ va_P (dC, dI) vwCl [(q_this, .inr (7, [.int c_members, .ref q_member, .int c_count, .ref q_part])), (q_member, .inl (cyI, (6, .inl c_member))), (q_part, .inl (cyI, (64, .inl c_part)))] U.heap ∧ va_K (dC, dI) vwCl [(cyI, .int), (cyJ, .long), (cyZ, .boolean), (cyH, .object "NoWhen$History")] U ∧ va_D (fun _ => True) [(q_this, .inr (7, [.int c_members, .ref q_member, .int c_count, .ref q_part])), (q_member, .inl (cyI, (6, .inl c_member))), (q_part, .inl (cyI, (64, .inl c_part)))])) (va_Qv (fun (u : Int32 × Int32 × (Nat → Int32) × (Nat → Int32)) => Q u.1 u.2.1 u.2.2.1 u.2.2.2) (fun (u : Int32 × Int32 × (Nat → Int32) × (Nat → Int32)) (t : State) => va_P (dC, dI) vwCl [(q_this, .inr (7, [.int u.1, .ref q_member, .int u.2.1, .ref q_part])), (q_member, .inl (cyI, (6, .inl u.2.2.1))), (q_part, .inl (cyI, (64, .inl u.2.2.2)))] t.heap ∧ va_K (dC, dI) vwCl [(cyI, .int), (cyJ, .long), (cyZ, .boolean), (cyH, .object "NoWhen$History")] t ∧ va_D (va_A [(q_this, .inr (7, [.int c_members, .ref q_member, .int c_count, .ref q_part])), (q_member, .inl (cyI, (6, .inl c_member))), (q_part, .inl (cyI, (64, .inl c_part)))] sz) [(q_this, .inr (7, [.int u.1, .ref q_member, .int u.2.1, .ref q_part])), (q_member, .inl (cyI, (6, .inl u.2.2.1))), (q_part, .inl (cyI, (64, .inl u.2.2.2)))]) (va_A [(q_this, .inr (7, [.int c_members, .ref q_member, .int c_count, .ref q_part])), (q_member, .inl (cyI, (6, .inl c_member))), (q_part, .inl (cyI, (64, .inl c_part)))] sz)) 0 0 (va_A [(q_this, .inr (7, [.int c_members, .ref q_member, .int c_count, .ref q_part])), (q_member, .inl (cyI, (6, .inl c_member))), (q_part, .inl (cyI, (64, .inl c_part)))] sz) := by
  refine Met.ofW (cc := cX7_take) (maxL := 4) (ret := none) (by decide) rfl ?_
  intro p e s m args below meth c s₁ B hml hv
  obtain ⟨rfl, hsz, hP, hK, hD0⟩ := hv
  have hx := B.exec
  have hb := B.bytes
  have hr := B.returns
  have hts := atoms_spec (ws := wsX7_take) B.pre
  have hown : s.vm.findClass RX7 = some m.cls := findClass_of_methodNamed B.named
  have hlocks := B.notSynchronized
  subst hsz
  have hD := hD0.self (sz := s.heap.size)
  generalize hAe : va_A [(q_this, .inr (7, [.int c_members, .ref q_member, .int c_count, .ref q_part])), (q_member, .inl (cyI, (6, .inl c_member))), (q_part, .inl (cyI, (64, .inl c_part)))] s.heap.size = A at hD ⊢
  have hA : ∀ q : Nat, s.heap.size ≤ q → A q := fun q h => by rw [← hAe]; exact Or.inr h
  have hS : va_S A s.heap s.heap [] := va_S.rf
  have hl := lv_entry ([.ref q_this, .int p1]) (n := 4) (Nat.le_of_ble_eq_true rfl)
  rw [lg_entry_eq]
  generalize (lg_sl ([.ref q_this, .int p1]) ++ List.replicate (4 - (lg_sl ([.ref q_this, .int p1])).length) Slot.unset).toArray = ls at hl ⊢
  have hl : lv_has ls 4 [(0, .ref q_this), (1, .int p1)] := hl
  refine k_X7_take hx hb hml hown hts hK hA (fun pc c_members c_count c_member c_part H locs ls hd hP hD hS hq => ?_) p1 c_members c_count c_member c_part s.heap [] ls hP hD hS hl hw
  exact W.vret hx hb hr (fun t ht hW => ⟨⟨(c_members, c_count, c_member, c_part), rfl, hq, by rw [ht]; exact hP, va_K.moved hW.alike hK, hD⟩, hS.F ht⟩) hS.2.2 hd
