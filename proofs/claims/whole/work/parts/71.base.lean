def nw_sidx : List Nat := [277, 279, 281, 283, 285, 287, 289, 291, 293, 294, 296, 297]
def nw_stx : List String := ["ahead", "meets", "while", "inside", "begins", "ends", "apart", "cross", "things", "of", "story", "by"]
/-- the nest words -/
def nw_nw (U : State) : Prop := va_Nw (.methodLinkNest RX10 11 yX4_init "NoWhen") U ∧ va_Nw (.methodLinkNest RX10 26 yX6_init "NoWhen") U ∧ va_Nw (.methodLinkNest RX10 33 yX8_init "NoWhen") U ∧ va_Nw (.methodLinkNest RX8 11 yX4_init "NoWhen") U ∧ va_Nw (.methodLinkNest RX8 20 yX6_init "NoWhen") U ∧ va_Nw (.methodLinkNest RX10 44 yX2_init "NoWhen") U ∧ va_Nw (.methodLinkNest RX10 51 yX7_init "NoWhen") U ∧ va_Nw (.methodLinkNest RX10 58 yX9_init "NoWhen") U ∧ va_Nw (.methodLinkNest RX10 65 yX3_init "NoWhen") U ∧ va_Nw (.methodLinkNest RX10 72 yX0_init "NoWhen") U ∧ va_Nw (.methodLinkNest RX10 79 yX1_init "NoWhen") U ∧ va_Nw (.methodLinkNest RX10 86 yX5_init "NoWhen") U ∧ va_Nw (.methodLinkNest RX5 17 yX9_init "NoWhen") U ∧ va_Nw (.methodLinkNest RX8 110 yX10_wordOf "NoWhen") U ∧ va_Nw (.methodLinkNest RX9 26 yX10_setAt "NoWhen") U ∧ va_Nw (.methodLinkNest RX9 58 yX10_placeOf "NoWhen") U ∧ va_Nw (.methodLinkNest RX3 49 yX10_setAt "NoWhen") U ∧ va_Nw (.methodLinkNest RX3 73 yX10_placeOf "NoWhen") U ∧ va_Nw (.methodLinkNest RX0 24 yX10_setAt "NoWhen") U ∧ va_Nw (.methodLinkNest RX0 63 yX10_placeOf "NoWhen") U ∧ va_Nw (.methodLinkNest RX1 43 yX10_setAt "NoWhen") U ∧ va_Nw (.methodLinkNest RX1 63 yX10_placeOf "NoWhen") U ∧ va_Nw (.fieldLinkNest RX9 19 "NoWhen" "SETS" "[I" "NoWhen") U ∧ va_Nw (.fieldLinkNest RX0 19 "NoWhen" "SETS" "[I" "NoWhen") U ∧ va_AO "NoWhen$History" U
theorem nwM_X10_11 {U : State} (h : nw_nw U) : va_Nw (.methodLinkNest RX10 11 yX4_init "NoWhen") U := h.1
theorem nwM_X10_26 {U : State} (h : nw_nw U) : va_Nw (.methodLinkNest RX10 26 yX6_init "NoWhen") U := h.2.1
theorem nwM_X10_33 {U : State} (h : nw_nw U) : va_Nw (.methodLinkNest RX10 33 yX8_init "NoWhen") U := h.2.2.1
theorem nwM_X8_11 {U : State} (h : nw_nw U) : va_Nw (.methodLinkNest RX8 11 yX4_init "NoWhen") U := h.2.2.2.1
theorem nwM_X8_20 {U : State} (h : nw_nw U) : va_Nw (.methodLinkNest RX8 20 yX6_init "NoWhen") U := h.2.2.2.2.1
theorem nwM_X10_44 {U : State} (h : nw_nw U) : va_Nw (.methodLinkNest RX10 44 yX2_init "NoWhen") U := h.2.2.2.2.2.1
theorem nwM_X10_51 {U : State} (h : nw_nw U) : va_Nw (.methodLinkNest RX10 51 yX7_init "NoWhen") U := h.2.2.2.2.2.2.1
theorem nwM_X10_58 {U : State} (h : nw_nw U) : va_Nw (.methodLinkNest RX10 58 yX9_init "NoWhen") U := h.2.2.2.2.2.2.2.1
theorem nwM_X10_65 {U : State} (h : nw_nw U) : va_Nw (.methodLinkNest RX10 65 yX3_init "NoWhen") U := h.2.2.2.2.2.2.2.2.1
theorem nwM_X10_72 {U : State} (h : nw_nw U) : va_Nw (.methodLinkNest RX10 72 yX0_init "NoWhen") U := h.2.2.2.2.2.2.2.2.2.1
theorem nwM_X10_79 {U : State} (h : nw_nw U) : va_Nw (.methodLinkNest RX10 79 yX1_init "NoWhen") U := h.2.2.2.2.2.2.2.2.2.2.1
theorem nwM_X10_86 {U : State} (h : nw_nw U) : va_Nw (.methodLinkNest RX10 86 yX5_init "NoWhen") U := h.2.2.2.2.2.2.2.2.2.2.2.1
theorem nwM_X5_17 {U : State} (h : nw_nw U) : va_Nw (.methodLinkNest RX5 17 yX9_init "NoWhen") U := h.2.2.2.2.2.2.2.2.2.2.2.2.1
theorem nwM_X8_110 {U : State} (h : nw_nw U) : va_Nw (.methodLinkNest RX8 110 yX10_wordOf "NoWhen") U := h.2.2.2.2.2.2.2.2.2.2.2.2.2.1
theorem nwM_X9_26 {U : State} (h : nw_nw U) : va_Nw (.methodLinkNest RX9 26 yX10_setAt "NoWhen") U := h.2.2.2.2.2.2.2.2.2.2.2.2.2.2.1
theorem nwM_X9_58 {U : State} (h : nw_nw U) : va_Nw (.methodLinkNest RX9 58 yX10_placeOf "NoWhen") U := h.2.2.2.2.2.2.2.2.2.2.2.2.2.2.2.1
theorem nwM_X3_49 {U : State} (h : nw_nw U) : va_Nw (.methodLinkNest RX3 49 yX10_setAt "NoWhen") U := h.2.2.2.2.2.2.2.2.2.2.2.2.2.2.2.2.1
theorem nwM_X3_73 {U : State} (h : nw_nw U) : va_Nw (.methodLinkNest RX3 73 yX10_placeOf "NoWhen") U := h.2.2.2.2.2.2.2.2.2.2.2.2.2.2.2.2.2.1
theorem nwM_X0_24 {U : State} (h : nw_nw U) : va_Nw (.methodLinkNest RX0 24 yX10_setAt "NoWhen") U := h.2.2.2.2.2.2.2.2.2.2.2.2.2.2.2.2.2.2.1
theorem nwM_X0_63 {U : State} (h : nw_nw U) : va_Nw (.methodLinkNest RX0 63 yX10_placeOf "NoWhen") U := h.2.2.2.2.2.2.2.2.2.2.2.2.2.2.2.2.2.2.2.1
theorem nwM_X1_43 {U : State} (h : nw_nw U) : va_Nw (.methodLinkNest RX1 43 yX10_setAt "NoWhen") U := h.2.2.2.2.2.2.2.2.2.2.2.2.2.2.2.2.2.2.2.2.1
theorem nwM_X1_63 {U : State} (h : nw_nw U) : va_Nw (.methodLinkNest RX1 63 yX10_placeOf "NoWhen") U := h.2.2.2.2.2.2.2.2.2.2.2.2.2.2.2.2.2.2.2.2.2.1
theorem nwF_X9_19 {U : State} (h : nw_nw U) : va_Nw (.fieldLinkNest RX9 19 "NoWhen" "SETS" "[I" "NoWhen") U := h.2.2.2.2.2.2.2.2.2.2.2.2.2.2.2.2.2.2.2.2.2.2.1
theorem nwF_X0_19 {U : State} (h : nw_nw U) : va_Nw (.fieldLinkNest RX0 19 "NoWhen" "SETS" "[I" "NoWhen") U := h.2.2.2.2.2.2.2.2.2.2.2.2.2.2.2.2.2.2.2.2.2.2.2.1
theorem nw_nw_warm {s U : State} (hW : s.WarmedH U.vm) (h : nw_nw s) : nw_nw U := ⟨va_Nw.warmM hW h.1, va_Nw.warmM hW h.2.1, va_Nw.warmM hW h.2.2.1, va_Nw.warmM hW h.2.2.2.1, va_Nw.warmM hW h.2.2.2.2.1, va_Nw.warmM hW h.2.2.2.2.2.1, va_Nw.warmM hW h.2.2.2.2.2.2.1, va_Nw.warmM hW h.2.2.2.2.2.2.2.1, va_Nw.warmM hW h.2.2.2.2.2.2.2.2.1, va_Nw.warmM hW h.2.2.2.2.2.2.2.2.2.1, va_Nw.warmM hW h.2.2.2.2.2.2.2.2.2.2.1, va_Nw.warmM hW h.2.2.2.2.2.2.2.2.2.2.2.1, va_Nw.warmM hW h.2.2.2.2.2.2.2.2.2.2.2.2.1, va_Nw.warmM hW h.2.2.2.2.2.2.2.2.2.2.2.2.2.1, va_Nw.warmM hW h.2.2.2.2.2.2.2.2.2.2.2.2.2.2.1, va_Nw.warmM hW h.2.2.2.2.2.2.2.2.2.2.2.2.2.2.2.1, va_Nw.warmM hW h.2.2.2.2.2.2.2.2.2.2.2.2.2.2.2.2.1, va_Nw.warmM hW h.2.2.2.2.2.2.2.2.2.2.2.2.2.2.2.2.2.1, va_Nw.warmM hW h.2.2.2.2.2.2.2.2.2.2.2.2.2.2.2.2.2.2.1, va_Nw.warmM hW h.2.2.2.2.2.2.2.2.2.2.2.2.2.2.2.2.2.2.2.1, va_Nw.warmM hW h.2.2.2.2.2.2.2.2.2.2.2.2.2.2.2.2.2.2.2.2.1, va_Nw.warmM hW h.2.2.2.2.2.2.2.2.2.2.2.2.2.2.2.2.2.2.2.2.2.1, va_Nw.warmF hW h.2.2.2.2.2.2.2.2.2.2.2.2.2.2.2.2.2.2.2.2.2.2.1, va_Nw.warmF hW h.2.2.2.2.2.2.2.2.2.2.2.2.2.2.2.2.2.2.2.2.2.2.2.1, va_AO.moved hW.alike h.2.2.2.2.2.2.2.2.2.2.2.2.2.2.2.2.2.2.2.2.2.2.2.2⟩
theorem nw_AO {U : State} (h : nw_nw U) : va_AO "NoWhen$History" U := h.2.2.2.2.2.2.2.2.2.2.2.2.2.2.2.2.2.2.2.2.2.2.2.2
theorem nw_nw_same {s U : State} (e : s.vm = U.vm) (h : nw_nw s) : nw_nw U := ⟨va_Nw.same rfl e h.1, va_Nw.same rfl e h.2.1, va_Nw.same rfl e h.2.2.1, va_Nw.same rfl e h.2.2.2.1, va_Nw.same rfl e h.2.2.2.2.1, va_Nw.same rfl e h.2.2.2.2.2.1, va_Nw.same rfl e h.2.2.2.2.2.2.1, va_Nw.same rfl e h.2.2.2.2.2.2.2.1, va_Nw.same rfl e h.2.2.2.2.2.2.2.2.1, va_Nw.same rfl e h.2.2.2.2.2.2.2.2.2.1, va_Nw.same rfl e h.2.2.2.2.2.2.2.2.2.2.1, va_Nw.same rfl e h.2.2.2.2.2.2.2.2.2.2.2.1, va_Nw.same rfl e h.2.2.2.2.2.2.2.2.2.2.2.2.1, va_Nw.same rfl e h.2.2.2.2.2.2.2.2.2.2.2.2.2.1, va_Nw.same rfl e h.2.2.2.2.2.2.2.2.2.2.2.2.2.2.1, va_Nw.same rfl e h.2.2.2.2.2.2.2.2.2.2.2.2.2.2.2.1, va_Nw.same rfl e h.2.2.2.2.2.2.2.2.2.2.2.2.2.2.2.2.1, va_Nw.same rfl e h.2.2.2.2.2.2.2.2.2.2.2.2.2.2.2.2.2.1, va_Nw.same rfl e h.2.2.2.2.2.2.2.2.2.2.2.2.2.2.2.2.2.2.1, va_Nw.same rfl e h.2.2.2.2.2.2.2.2.2.2.2.2.2.2.2.2.2.2.2.1, va_Nw.same rfl e h.2.2.2.2.2.2.2.2.2.2.2.2.2.2.2.2.2.2.2.2.1, va_Nw.same rfl e h.2.2.2.2.2.2.2.2.2.2.2.2.2.2.2.2.2.2.2.2.2.1, va_Nw.same rfl e h.2.2.2.2.2.2.2.2.2.2.2.2.2.2.2.2.2.2.2.2.2.2.1, va_Nw.same rfl e h.2.2.2.2.2.2.2.2.2.2.2.2.2.2.2.2.2.2.2.2.2.2.2.1, va_AO.moved (by rw [e]; exact Vm.Alike.refl _) h.2.2.2.2.2.2.2.2.2.2.2.2.2.2.2.2.2.2.2.2.2.2.2.2⟩
/-- the String constants, and what the JDK's methods over them read -/
def nw_str (adK adV : Nat → Nat) (A : Nat → Prop) (U : State) (H : Heap) : Prop := vk_S 12 nw_len nw_byt adK adV A U H ∧ (∀ i : Nat, i < 12 → vk_R "NoWhen" (nw_sidx.getD i 0) (nw_stx.getD i "") (adK i) U) ∧ va_Z "java/lang/String" "COMPACT_STRINGS" "Z" (.int 1) A U H ∧ va_Zq "jdk/internal/util/Preconditions" "SIOOBE_FORMATTER" "Ljava/util/function/BiFunction;" A U H
/-- a static table -/
def nw_t1 (n : String) (N : Nat) (f : Nat → Int32) (A : Nat → Prop) (U : State) (H : Heap) : Prop := ∃ t : Nat, va_Z "NoWhen" n "[I" (.ref t) A U H ∧ va_T .int t N (fun j => .int (f j)) A U H
def nw_tb (A : Nat → Prop) (U : State) (H : Heap) : Prop := nw_t1 "SETS" 7 nw_SETS A U H ∧ nw_t1 "SET_AT" 27 nw_SET_AT A U H ∧ nw_t1 "PLACE_OF" 64 nw_PLACE_OF A U H ∧ (∃ adK adV : Nat → Nat, nw_str adK adV A U H) ∧ nw_nw U
theorem nw_t1_go {n : String} {N : Nat} {f : Nat → Int32} {A A1 : Nat → Prop} {s U : State} {H H1 : Heap} (h : nw_t1 n N f A s H) (hv : s.vm.Alike U.vm) (hk : ∀ a : Nat, a < H.size → ¬ A a → H1[a]? = H[a]?) (hF : ∀ q, A1 q → A q) : nw_t1 n N f A1 U H1 := by
  obtain ⟨t, h1, h2⟩ := h
  exact ⟨t, ((h1.moved hv).kept hk).narrow hF, ((h2.moved hv).kept hk).narrow hF⟩
theorem nw_str_go {adK adV : Nat → Nat} {A A1 : Nat → Prop} {s U : State} {H H1 : Heap} (h : nw_str adK adV A s H) (hv : s.vm.Alike U.vm) (hr : ∀ (own : String) (k : Nat) (tx : String) (a : Nat), vk_R own k tx a s → vk_R own k tx a U) (hk : ∀ a : Nat, a < H.size → ¬ A a → H1[a]? = H[a]?) (hF : ∀ q, A1 q → A q) : nw_str adK adV A1 U H1 :=
  ⟨((h.1.moved hv).kept hk).narrow hF, fun i hi => hr _ _ _ _ (h.2.1 i hi), ((h.2.2.1.moved hv).kept hk).narrow hF, ((h.2.2.2.moved hv).kept hk).narrow hF⟩
theorem nw_tb_go {A A1 : Nat → Prop} {s U : State} {H : Heap} {locs : List Loc} (h : nw_tb A s s.heap) (hS : va_S A s.heap H locs) (hF : ∀ q, A1 q → A q) (hU : U.heap = H) (hW : s.WarmedH U.vm) : nw_tb A1 U U.heap := by
  obtain ⟨h1, h2, h3, ⟨adK, adV, h4⟩, h5⟩ := h
  rw [hU]
  exact ⟨nw_t1_go h1 hW.alike hS.2.1 hF, nw_t1_go h2 hW.alike hS.2.1 hF, nw_t1_go h3 hW.alike hS.2.1 hF, ⟨adK, adV, nw_str_go h4 hW.alike (fun _ _ _ _ h => vk_R.warm hW h) hS.2.1 hF⟩, nw_nw_warm hW h5⟩
theorem nw_strGo {adK adV : Nat → Nat} {A A1 : Nat → Prop} {s U : State} {H : Heap} {locs : List Loc} (h : nw_str adK adV A s s.heap) (hS : va_S A s.heap H locs) (hF : ∀ q, A1 q → A q) (hU : U.heap = H) (hW : s.WarmedH U.vm) : nw_str adK adV A1 U U.heap := by
  rw [hU]
  exact nw_str_go h hW.alike (fun _ _ _ _ h => vk_R.warm hW h) hS.2.1 hF
theorem nw_tb_same {A : Nat → Prop} {U V : State} (h : nw_tb A U U.heap) (hv : U.vm = V.vm) (hh : U.heap = V.heap) : nw_tb A V V.heap := by
  have ha : U.vm.Alike V.vm := by rw [hv]; exact Vm.Alike.refl V.vm
  obtain ⟨h1, h2, h3, ⟨adK, adV, h4⟩, h5⟩ := h
  rw [← hh]
  exact ⟨nw_t1_go h1 ha (fun _ _ _ => rfl) (fun _ h => h), nw_t1_go h2 ha (fun _ _ _ => rfl) (fun _ h => h), nw_t1_go h3 ha (fun _ _ _ => rfl) (fun _ h => h), ⟨adK, adV, nw_str_go h4 ha (fun _ _ _ _ h => vk_R.same hv.symm h) (fun _ _ _ => rfl) (fun _ h => h)⟩, nw_nw_same hv h5⟩
theorem nw_str_same {adK adV : Nat → Nat} {A : Nat → Prop} {U V : State} (h : nw_str adK adV A U U.heap) (hv : U.vm = V.vm) (hh : U.heap = V.heap) : nw_str adK adV A V V.heap := by
  have ha : U.vm.Alike V.vm := by rw [hv]; exact Vm.Alike.refl V.vm
  rw [← hh]
  exact nw_str_go h ha (fun _ _ _ _ h => vk_R.same hv.symm h) (fun _ _ _ => rfl) (fun _ h => h)
theorem nw_fb {av : List Value} {sz : Nat} {D : va_G} {cl : List vw_C} {ws : va_W} {tys : List (ClassId × FieldType)} {X : Nat → Prop} : FrameBlind (va_Pc av (fun U => U.heap.size = sz ∧ va_P D cl ws U.heap ∧ va_K D cl tys U ∧ va_D X ws)) := fun a U g mk q => by
  obtain ⟨q0, q1, qP, qK, qD⟩ := q
  exact ⟨q0, q1, qP, va_K.moved (u := U) (U := U.calling g mk a) (Vm.Alike.refl U.vm) qK, qD⟩
theorem nw_fbT {av : List Value} {sz : Nat} {D : va_G} {cl : List vw_C} {ws : va_W} {tys : List (ClassId × FieldType)} {X A : Nat → Prop} : FrameBlind (va_Pc av (fun U => U.heap.size = sz ∧ va_P D cl ws U.heap ∧ va_K D cl tys U ∧ va_D X ws ∧ nw_tb A U U.heap)) := fun a U g mk q => by
  obtain ⟨q0, q1, qP, qK, qD, qT⟩ := q
  exact ⟨q0, q1, qP, va_K.moved (u := U) (U := U.calling g mk a) (Vm.Alike.refl U.vm) qK, qD, nw_tb_same (V := U.calling g mk a) qT rfl rfl⟩
theorem nw_fbN {av : List Value} {sz : Nat} {D : va_G} {cl : List vw_C} {ws : va_W} {tys : List (ClassId × FieldType)} {X : Nat → Prop} : FrameBlind (va_Pc av (fun U => U.heap.size = sz ∧ va_P D cl ws U.heap ∧ va_K D cl tys U ∧ va_D X ws ∧ nw_nw U)) := fun a U g mk q => by
  obtain ⟨q0, q1, qP, qK, qD, qT⟩ := q
  exact ⟨q0, q1, qP, va_K.moved (u := U) (U := U.calling g mk a) (Vm.Alike.refl U.vm) qK, qD, nw_nw_same (U := U.calling g mk a) rfl qT⟩
/-- the row of the two images -/
def nw_im (a b : Nat) : Nat → Option Nat := fun j => if j = 1 then some b else if j = 0 then some a else none
theorem nw_sameT {D : va_G} {cl : List vw_C} {tys : List (ClassId × FieldType)} {s : State} (h : va_K D cl tys s) {i j : Nat} {c1 c2 : ClassId} {ty : FieldType} (hi : tys[i]? = some (c1, ty)) (hj : tys[j]? = some (c2, ty)) : c1 = c2 := by
  have h1 := (h.2 i _ hi).2
  have h2 := (h.2 j _ hj).2
  cases ty with
  | object C =>
    obtain ⟨-, -, -, -, -, e1⟩ := h1
    obtain ⟨-, -, -, -, -, e2⟩ := h2
    exact Option.some.inj (e1.symm.trans e2)
  | _ => exact Option.some.inj (Eq.trans (Eq.symm h1) h2)
theorem nw_ldcw1 {p : Program} {l : Launch} {e : Env} {R : Room} {s : State} {m : MethodId} {args : Array Value} {below : List Frame} {meth : Method} {c : Code} {T : State} {locs : List Loc} {cells slots : Nat} (X : Stand p l e R s m args below meth c T locs cells slots) (hexec : p.tables.exec = Jvm.exec) {own text : String} {index : Nat} {a : Addr} (hown : s.vm.findClass own = some m.cls)
    (hconst : (Cond.stringRef own index text).before args s = true) (hev : (Term.string own index).eval args s none [] s = some (.ref a)) {g : JFrame} (hg : g.method = m) (hdg : decode c.code g.pc = .ok (.ldc_w index, 3)) :
    ∀ target, Steps p.tables e below (T.setTop { g with pc := g.pc + 3, stack := .ref a :: g.stack }) target → Steps p.tables e below (T.setTop g) target := by
  obtain ⟨k, cf, i, a', hk, hcf, hcp, -, hr, hev'⟩ := Cond.stringRef_spec hown hconst
  cases hev.symm.trans hev'
  obtain ⟨k', hk', he⟩ := X.warmed.alike.2.2 _ _ hk
  have hr' : k'.resolved[index]? = some (some (.string a)) := by
    rcases X.warmed.entry hk hk' index with h | ⟨h, -⟩
    · rw [h]; exact hr
    · rw [hr] at h; cases h
  intro target hrest
  subst hg
  jvm_step X.here [hexec, hdg, ldc_w.wp_string (e := e) (s := T) (f := g) X.here.top hk' (by rw [he]; exact hcf) hcp hr']
  exact hrest
theorem nw_ldcwS {p : Program} {l : Launch} {e : Env} {R : Room} {s : State} {m : MethodId} {args : Array Value} {below : List Frame} {meth : Method} {c : Code} {H : Heap} {locs : List Loc} {cells slots : Nat} {Q : State → Prop} {cc : ByteArray} {pc : Nat} {ls : Array Slot} {rest : List Value} (hexec : p.tables.exec = Jvm.exec) (hb : c.code = cc) {own tx : String} {index q : Nat} (hown : s.vm.findClass own = some m.cls) (hZ : vk_R own index tx q s) (hdg : decode cc pc = .ok (.ldc_w index, 3))
    (k : W p l e R s m args below meth c H locs cells slots Q (F0 m (pc + 3) ls (.ref q :: rest))) : W p l e R s m args below meth c H locs cells slots Q (F0 m pc ls rest) := by
  intro T hT X
  obtain ⟨t, a1, b1⟩ := k T hT X
  exact ⟨t, nw_ldcw1 X hexec hown (text := tx) (a := q) hZ.1 hZ.2 (g := F0 m pc ls rest) rfl (by rw [hb]; exact hdg) t a1, b1⟩
theorem nw_fbS {av : List Value} {sz : Nat} {D : va_G} {cl : List vw_C} {ws : va_W} {tys : List (ClassId × FieldType)} {X A : Nat → Prop} {adK adV : Nat → Nat} : FrameBlind (va_Pc av (fun U => U.heap.size = sz ∧ va_P D cl ws U.heap ∧ va_K D cl tys U ∧ va_D X ws ∧ nw_str adK adV A U U.heap)) := fun a U g mk q => by
  obtain ⟨q0, q1, qP, qK, qD, qT⟩ := q
  exact ⟨q0, q1, qP, va_K.moved (u := U) (U := U.calling g mk a) (Vm.Alike.refl U.vm) qK, qD, nw_str_same (V := U.calling g mk a) qT rfl rfl⟩
