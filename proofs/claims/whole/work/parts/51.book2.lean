/-! SAY -/
def okSay (a k b y : Int32) (n : Nat) : Bool := iN a n && (iN b n && (!decide (a = b) && (iN k 8 && iN y 4)))
theorem d_say {f1 f2 f3 f4 a k b y : Int32} {n m : Nat} {ck ca cb cy rf : Nat → Int32} {Q : Int32 → Int32 → Int32 → Int32 → Int32 → Int32 → (Nat → Int32) → (Nat → Int32) → (Nat → Int32) → (Nat → Int32) → (Nat → Int32) → Prop} (hn : n < 7) (hm : m < 9)
    (hQ0 : okSay a k b y n = false → Q (-2) f1 f2 f3 f4 (nI m) ck ca cb cy (ri rf 0)) (hQ1 : okSay a k b y n = true → m = 8 → Q (-4) f1 f2 f3 f4 (nI m) ck ca cb cy (ri rf 2))
    (hQ2 : okSay a k b y n = true → m < 8 → Q (nI m) 0 0 0 0 (nI (m + 1)) (upd ck m k) (upd ca m a) (upd cb m b) (upd cy m y) rf) : wp_X10_say a k b y f1 f2 f3 f4 (nI n) (nI m) ck ca cb cy rf Q := by
  unfold wp_X10_say wp_X10_say_b27 wp_X10_changed wp_X10_areTwoThings wp_X4_addSaying
  unfold okSay at hQ0 hQ1 hQ2
  refine t_isThing hn ?_
  rw [zbR]
  by_cases h1 : iN a n = true
  case neg => rw [if_neg h1]; exact br_t rfl (t_refB (hQ0 (by rw [Bool.eq_false_iff.mpr h1]; rfl)))
  rw [if_pos h1]
  rw [h1, Bool.true_and] at hQ0 hQ1 hQ2
  refine t_isThing hn ?_
  rw [zbR]
  by_cases h2 : iN b n = true
  case neg => rw [if_neg h2]; exact br_t rfl (t_refB (hQ0 (by rw [Bool.eq_false_iff.mpr h2]; rfl)))
  rw [if_pos h2]
  rw [h2, Bool.true_and] at hQ0 hQ1 hQ2
  refine br_c (fun z => br_t rfl (t_refB (hQ0 (by rw [decide_eq_true z]; rfl)))) (fun z => br_f (by decide) ?_)
  rw [decide_eq_false z, Bool.not_false, Bool.true_and] at hQ0 hQ1 hQ2
  refine br_c (fun z => t_refB (hQ0 (by rw [iN_lo (by omega) z]; rfl))) (fun z1 => ?_)
  refine br_c (fun z => t_refB (hQ0 (by rw [iN_hi (by omega) ((lt_le1 (N := 8) (by omega) (by omega)).mp z)]; rfl))) (fun z2 => ?_)
  rw [iN_in (N := 8) (by omega) z1 (fun q => z2 ((lt_le1 (N := 8) (by omega) (by omega)).mpr q)), Bool.true_and] at hQ0 hQ1 hQ2
  refine t_isPerson ?_
  rw [zbR]
  by_cases h3 : iN y 4 = true
  case neg => rw [if_neg h3]; exact t_refB (hQ0 (Bool.eq_false_iff.mpr h3))
  rw [if_pos h3, zl 8, nI_ltI (by omega) (by omega), nI_clamp (by omega), show (nI m + 1 : Int32) = nI (m + 1) from nI_add m 1]
  exact br_c (fun z => ⟨vi (by omega) (by omega), vi (by omega) (by omega), vi (by omega) (by omega), vi (by omega) (by omega), hQ2 h3 z⟩) (fun z => t_refF (hQ1 h3 (by omega)))
def gSay (g : Nat → Int32) (m : Nat) (a k b y : Int32) : Nat → Int32 := upd (upd (upd (upd (upd g (14 + m) k) (22 + m) a) (30 + m) b) (38 + m) y) 1 (nI (m + 1))
theorem r_say {a k b y : Int32} {n m : Nat} {g rf : Nat → Int32} {Q : Int32 → (Nat → Int32) → (Nat → Int32) → Prop} (hn : n < 7) (hm : m < 9) (h0 : g 0 = nI n) (hg1 : g 1 = nI m)
    (hQ0 : okSay a k b y n = false → Q (-2) g (ri rf 0)) (hQ1 : okSay a k b y n = true → m = 8 → Q (-4) g (ri rf 2))
    (hQ2 : okSay a k b y n = true → m < 8 → Q (nI m) (gSay g m a k b y) rf) : wp_X11_say a k b y g rf Q := by
  have i1 : vp_in (1 : Int32) 58 := vi (k := 1) (by omega) (by omega)
  unfold wp_X11_say wp_X11_say_b41
  unfold okSay at hQ0 hQ1 hQ2
  refine t_rThing hn h0 ?_
  rw [zbR]
  by_cases h1 : iN a n = true
  case neg => rw [if_neg h1]; exact t_bad (hQ0 (by rw [Bool.eq_false_iff.mpr h1]; rfl))
  rw [if_pos h1]
  rw [h1, Bool.true_and] at hQ0 hQ1 hQ2
  refine t_rThing hn h0 ?_
  rw [zbR]
  by_cases h2 : iN b n = true
  case neg => rw [if_neg h2]; exact t_bad (hQ0 (by rw [Bool.eq_false_iff.mpr h2]; rfl))
  rw [if_pos h2]
  rw [h2, Bool.true_and] at hQ0 hQ1 hQ2
  refine br_c (fun z => t_bad (hQ0 (by rw [decide_eq_true z]; rfl))) (fun z => ?_)
  rw [decide_eq_false z, Bool.not_false, Bool.true_and] at hQ0 hQ1 hQ2
  refine t_in (N := 8) (by omega) rfl ?_
  rw [zbR]
  by_cases h4 : iN k 8 = true
  case neg => rw [if_neg h4]; exact t_bad (hQ0 (by rw [Bool.eq_false_iff.mpr h4]; rfl))
  rw [if_pos h4]
  rw [h4, Bool.true_and] at hQ0 hQ1 hQ2
  refine t_in (N := 4) (by omega) rfl ?_
  rw [zbR]
  by_cases h3 : iN y 4 = true
  case neg => rw [if_neg h3]; exact t_bad (hQ0 (Bool.eq_false_iff.mpr h3))
  rw [if_pos h3, show (1 : Int32).toNatClampNeg = 1 from rfl, hg1, zl 8, nI_eq (by omega) (by omega)]
  refine ⟨i1, br_c (fun z => t_refuses (i := 2) (by omega) rfl (hQ1 h3 z)) (fun z => ⟨i1, nm_e ?_⟩)⟩
  rw [zl 14, zl 22, zl 30, zl 38, nI_add, nI_add, nI_add, nI_add, nI_clamp (by omega), nI_clamp (by omega), nI_clamp (by omega), nI_clamp (by omega)]
  refine ⟨vi (by omega) (by omega), vi (by omega) (by omega), vi (by omega) (by omega), vi (by omega) (by omega), i1, nm_r (e' := nI (m + 1)) ?_ ⟨i1, hQ2 h3 (by omega)⟩⟩
  rw [pk_un (by omega), pk_un (by omega), pk_un (by omega), pk_un (by omega), hg1]
  exact nI_add m 1
def up (f : Nat → Nat) (i v : Nat) : Nat → Nat := fun k => if k = i then v else f k
theorem HX_say {g : Nat → Int32} {n m : Nat} {a k b y th sy : Int32} {wh sr wa ck ca cb cy : Nat → Int32} (hm : m < 8) (hn : n < 7) (h : HX g n m th sy wh sr wa ck ca cb cy) : HX (gSay g m a k b y) n (m + 1) th (nI (m + 1)) wh sr wa (upd ck m k) (upd ca m a) (upd cb m b) (upd cy m y) := by
  obtain ⟨h1, h2, h3, h4, h5⟩ := h
  unfold gSay
  refine ⟨h1, rfl, fun t ht => ?_, fun x hx => ?_, fun j hj => ?_⟩
  · iterate 10 rw [pk_un (by omega)]
    exact h3 t ht
  · iterate 5 rw [pk_un (by omega)]
    exact h4 x hx
  · by_cases z : j = m
    · subst z
      rw [pk_us, pk_us, pk_us, pk_us]
      refine ⟨?_, ?_, ?_, ?_⟩
      · iterate 4 rw [pk_un (by omega)]
        rw [pk_us]
      · iterate 3 rw [pk_un (by omega)]
        rw [pk_us]
      · iterate 2 rw [pk_un (by omega)]
        rw [pk_us]
      · rw [pk_un (by omega), pk_us]
    · rw [pk_un z, pk_un z, pk_un z, pk_un z]
      iterate 20 rw [pk_un (by omega)]
      exact h5 j (by omega)
theorem BK_say {g : Nat → Int32} {n m : Nat} {a k b y : Int32} {kd oa ob : Nat → Nat} (hm : m < 8) (hb : BK g n m kd oa ob) (ok : okSay a k b y n = true) : BK (gSay g m a k b y) n (m + 1) (up kd m k.toNatClampNeg) (up oa m a.toNatClampNeg) (up ob m b.toNatClampNeg) := by
  obtain ⟨⟨c0, c1, c2, c3, c4⟩, b1, b2, b3, b4⟩ := hb
  unfold okSay at ok
  simp only [Bool.and_eq_true] at ok
  obtain ⟨o1, o2, -, o3, -⟩ := ok
  obtain ⟨p1, q1⟩ := iN_c (by omega) o1
  obtain ⟨p2, q2⟩ := iN_c (by omega) o2
  obtain ⟨p3, q3⟩ := iN_c (by omega) o3
  unfold gSay
  refine ⟨⟨?_, pk_us, c2, by omega, fun j hj => ?_⟩, fun t ht h6 => ?_, fun e he h12 => ?_, fun t ht => ?_, fun e he => ?_⟩
  · iterate 5 rw [pk_un (by omega)]
    exact c0
  · by_cases z : j = m
    · subst z
      refine ⟨?_, ?_, ?_, ?_, ?_, ?_⟩
      · iterate 4 rw [pk_un (by omega)]
        rw [pk_us]; unfold up; rw [if_pos rfl]; exact q3
      · unfold up; rw [if_pos rfl]; exact p3
      · iterate 3 rw [pk_un (by omega)]
        rw [pk_us]; unfold up; rw [if_pos rfl]; exact q1
      · unfold up; rw [if_pos rfl]; exact p1
      · iterate 2 rw [pk_un (by omega)]
        rw [pk_us]; unfold up; rw [if_pos rfl]; exact q2
      · unfold up; rw [if_pos rfl]; exact p2
    · iterate 15 rw [pk_un (by omega)]
      unfold up
      rw [if_neg z, if_neg z, if_neg z]
      exact c4 j (by omega)
  · iterate 10 rw [pk_un (by omega)]
    exact b1 t ht h6
  · iterate 5 rw [pk_un (by omega)]
    exact b2 e he h12
  · iterate 5 rw [pk_un (by omega)]
    exact b3 t ht
  · iterate 5 rw [pk_un (by omega)]
    exact b4 e he
/-! copies -/
theorem d_copy {th sy t0 s0 : Int32} {wh sr wa ck ca cb cy wh0 sr0 wa0 ck0 ca0 cb0 cy0 : Nat → Int32} {Q : Int32 → Int32 → (Nat → Int32) → (Nat → Int32) → (Nat → Int32) → (Nat → Int32) → (Nat → Int32) → (Nat → Int32) → (Nat → Int32) → Prop}
    (hQ : ∀ wh' sr' wa' ck' ca' cb' cy' : Nat → Int32, (∀ t, t < 6 → wh' t = wh t ∧ sr' t = sr t) → (∀ e, e < 12 → wa' e = wa e) → (∀ k, k < 8 → ck' k = ck k ∧ ca' k = ca k ∧ cb' k = cb k ∧ cy' k = cy k) → Q th sy wh' sr' wa' ck' ca' cb' cy') : wp_X4_copy t0 s0 wh0 sr0 wa0 ck0 ca0 cb0 cy0 th sy wh sr wa ck ca cb cy Q := by
  have C : ∀ (wh' sr' wa' : Nat → Int32), (∀ t, t < 6 → wh' t = wh t ∧ sr' t = sr t) → (∀ e, e < 12 → wa' e = wa e) → ∀ (d k : Nat) (ck' ca' cb' cy' : Nat → Int32), k + d = 8 → (∀ j, j < k → ck' j = ck j ∧ ca' j = ca j ∧ cb' j = cb j ∧ cy' j = cy j) → wp_X4_copy_b82 Q ck ca cb cy (d + 1) (nI k) th sy wh' sr' wa' ck' ca' cb' cy' := by
    intro wh' sr' wa' h1 h2 d
    induction d with
    | zero =>
      intro k ck' ca' cb' cy' hk h3
      obtain rfl : k = 8 := by omega
      unfold wp_X4_copy_b82
      exact br_t (nI_le (a := 8) (by omega) (by omega)) (hQ _ _ _ _ _ _ _ h1 h2 h3)
    | succ d ih =>
      intro k ck' ca' cb' cy' hk h3
      have i : vp_in (nI k) 8 := vi (by omega) (by omega)
      unfold wp_X4_copy_b82
      refine br_f (nI_ge (b := 8) (by omega) (by omega)) ⟨i, i, i, i, i, i, i, i, ?_⟩
      rw [nI_clamp (by omega), nI_1]
      refine ih (k + 1) _ _ _ _ (by omega) (fun j hj => ?_)
      by_cases z : j = k
      · rw [z, pk_us, pk_us, pk_us, pk_us]; exact ⟨rfl, rfl, rfl, rfl⟩
      · rw [pk_un z, pk_un z, pk_un z, pk_un z]; exact h3 j (by omega)
  have B : ∀ (wh' sr' : Nat → Int32), (∀ t, t < 6 → wh' t = wh t ∧ sr' t = sr t) → ∀ (d k : Nat) (wa' : Nat → Int32), k + d = 12 → (∀ e, e < k → wa' e = wa e) → wp_X4_copy_b56 Q wa ck ca cb cy (d + 1) (nI k) th sy wh' sr' wa' ck0 ca0 cb0 cy0 := by
    intro wh' sr' h1 d
    induction d with
    | zero =>
      intro k wa' hk h3
      obtain rfl : k = 12 := by omega
      unfold wp_X4_copy_b56 wp_X4_copy_b80
      exact br_t (nI_le (a := 12) (by omega) (by omega)) ⟨9, C wh' sr' wa' h1 h3 8 0 _ _ _ _ rfl (fun j hj => absurd hj (Nat.not_lt_zero j))⟩
    | succ d ih =>
      intro k wa' hk h3
      have i : vp_in (nI k) 12 := vi (by omega) (by omega)
      unfold wp_X4_copy_b56
      refine br_f (nI_ge (b := 12) (by omega) (by omega)) ⟨i, i, ?_⟩
      rw [nI_clamp (by omega), nI_1]
      refine ih (k + 1) _ (by omega) (fun j hj => ?_)
      by_cases z : j = k
      · rw [z, pk_us]
      · rw [pk_un z]; exact h3 j (by omega)
  have A : ∀ (d k : Nat) (wh' sr' : Nat → Int32), k + d = 6 → (∀ t, t < k → wh' t = wh t ∧ sr' t = sr t) → wp_X4_copy_b18 Q wh sr wa ck ca cb cy (d + 1) (nI k) th sy wh' sr' wa0 ck0 ca0 cb0 cy0 := by
    intro d
    induction d with
    | zero =>
      intro k wh' sr' hk h3
      obtain rfl : k = 6 := by omega
      unfold wp_X4_copy_b18 wp_X4_copy_b54
      exact br_t (nI_le (a := 6) (by omega) (by omega)) ⟨13, B wh' sr' h3 12 0 _ rfl (fun j hj => absurd hj (Nat.not_lt_zero j))⟩
    | succ d ih =>
      intro k wh' sr' hk h3
      have i : vp_in (nI k) 6 := vi (by omega) (by omega)
      unfold wp_X4_copy_b18
      refine br_f (nI_ge (b := 6) (by omega) (by omega)) ⟨i, i, i, i, ?_⟩
      rw [nI_clamp (by omega), nI_1]
      refine ih (k + 1) _ _ (by omega) (fun j hj => ?_)
      by_cases z : j = k
      · rw [z, pk_us, pk_us]; exact ⟨rfl, rfl⟩
      · rw [pk_un z, pk_un z]; exact h3 j (by omega)
  unfold wp_X4_copy
  exact ⟨7, A 6 0 _ _ rfl (fun j hj => absurd hj (Nat.not_lt_zero j))⟩
theorem HX_copy {g g' : Nat → Int32} {n m : Nat} {th sy : Int32} {wh sr wa ck ca cb cy wh' sr' wa' ck' ca' cb' cy' : Nat → Int32} (hn : n < 7) (hm : m < 9) (h : HX g n m th sy wh sr wa ck ca cb cy) (hg : ∀ i, i < 58 → g' i = g i) (h1 : ∀ t, t < 6 → wh' t = wh t ∧ sr' t = sr t) (h2 : ∀ e, e < 12 → wa' e = wa e) (h3 : ∀ k, k < 8 → ck' k = ck k ∧ ca' k = ca k ∧ cb' k = cb k ∧ cy' k = cy k) : HX g' n m th sy wh' sr' wa' ck' ca' cb' cy' := by
  obtain ⟨c1, c2, c3, c4, c5⟩ := h
  refine ⟨c1, c2, fun t ht => ?_, fun x hx => ?_, fun k hk => ?_⟩
  · rw [(h1 t (by omega)).1, (h1 t (by omega)).2, hg _ (by omega), hg _ (by omega)]; exact c3 t ht
  · rw [h2 x (by omega), hg _ (by omega)]; exact c4 x hx
  · obtain ⟨q1, q2, q3, q4⟩ := h3 k (by omega)
    rw [q1, q2, q3, q4, hg _ (by omega), hg _ (by omega), hg _ (by omega), hg _ (by omega)]; exact c5 k hk
theorem BK_copy {g g' : Nat → Int32} {n m : Nat} {kd oa ob : Nat → Nat} (hb : BK g n m kd oa ob) (hg : ∀ i, i < 58 → g' i = g i) : BK g' n m kd oa ob := by
  obtain ⟨⟨c0, c1, c2, c3, c4⟩, b1, b2, b3, b4⟩ := hb
  refine ⟨⟨by rw [hg _ (by omega)]; exact c0, by rw [hg _ (by omega)]; exact c1, c2, c3, fun k hk => ?_⟩, fun t ht h6 => ?_, fun e he h12 => ?_, fun t ht => ?_, fun e he => ?_⟩
  · rw [hg _ (by omega), hg _ (by omega), hg _ (by omega)]; exact c4 k hk
  · rw [hg _ (by omega), hg _ (by omega)]; exact b1 t ht h6
  · rw [hg _ (by omega)]; exact b2 e he h12
  · rw [hg _ (by omega)]; exact b3 t ht
  · rw [hg _ (by omega)]; exact b4 e he
theorem r_image {p : Int32} {g im kp rf : Nat → Int32} {Q : Int32 → (Nat → Int32) → (Nat → Int32) → (Nat → Int32) → Prop}
    (hQ0 : iN p 2 = false → Q (-2) im kp (ri rf 0)) (hQ1 : iN p 2 = true → ∀ im' : Nat → Int32, (∀ i, i < 58 → im' (58 * p.toNatClampNeg + i) = g i) → (∀ i, i < 58 → im' (58 * (1 - p.toNatClampNeg) + i) = im (58 * (1 - p.toNatClampNeg) + i)) → Q 1 im' (upd kp p.toNatClampNeg 1) rf) : wp_X11_image p g im kp rf Q := by
  unfold wp_X11_image
  refine t_in (N := 2) (by omega) rfl ?_
  rw [zbR]
  split
  · rename_i h
    replace hQ1 := hQ1 h
    obtain ⟨h1, h2⟩ := iN_c (by omega) h
    generalize p.toNatClampNeg = e at h1 h2 hQ1
    subst h2
    have main : ∀ (d k : Nat) (im' : Nat → Int32), k + d = 58 → (∀ i, i < k → im' (58 * e + i) = g i) → (∀ i, i < 58 → im' (58 * (1 - e) + i) = im (58 * (1 - e) + i)) → wp_X11_image_b16 Q g (d + 1) (nI e) (nI k) im' kp rf := by
      intro d
      induction d with
      | zero =>
        intro k im' hk h3 h4
        obtain rfl : k = 58 := by omega
        unfold wp_X11_image_b16 wp_X11_image_b45
        rw [nI_clamp (by omega)]
        exact br_t (nI_le (a := 58) (by omega) (by omega)) ⟨vi (by omega) (by omega), hQ1 _ h3 h4⟩
      | succ d ih =>
        intro k im' hk h3 h4
        unfold wp_X11_image_b16
        rw [zl 58, pk_mul, nI_add]
        refine br_f (nI_ge (by omega) (by omega)) ⟨vi (by omega) (by omega), vi (by omega) (by omega), ?_⟩
        rw [nI_clamp (by omega), nI_clamp (by omega), nI_1]
        refine ih (k + 1) _ (by omega) (fun i hi => ?_) (fun i hi => ?_)
        · by_cases z : i = k
          · rw [z, pk_us]
          · rw [pk_un (by omega)]; exact h3 i (by omega)
        · rw [pk_un (by omega)]; exact h4 i hi
    exact ⟨59, main 58 0 im rfl (fun j hj => absurd hj (Nat.not_lt_zero j)) (fun i _ => rfl)⟩
  · rename_i h
    exact t_bad (hQ0 (Bool.eq_false_iff.mpr h))
theorem r_from {p : Int32} {g im kp rf : Nat → Int32} {Q : Int32 → (Nat → Int32) → (Nat → Int32) → Prop}
    (hQ0 : iN p 2 = false → Q (-2) g (ri rf 0)) (hQ1 : iN p 2 = true → kp p.toNatClampNeg = 0 → Q (-3) g (ri rf 1)) (hQ2 : iN p 2 = true → ¬ kp p.toNatClampNeg = 0 → ∀ g' : Nat → Int32, (∀ i, i < 58 → g' i = im (58 * p.toNatClampNeg + i)) → Q 1 g' rf) : wp_X11_from p g im kp rf Q := by
  unfold wp_X11_from
  refine t_in (N := 2) (by omega) rfl ?_
  rw [zbR]
  split
  · rename_i h
    replace hQ1 := hQ1 h
    replace hQ2 := hQ2 h
    obtain ⟨h1, h2⟩ := iN_c (by omega) h
    generalize p.toNatClampNeg = e at h1 h2 hQ1 hQ2 ⊢
    subst h2
    have main : ¬ kp e = 0 → ∀ (d k : Nat) (g' : Nat → Int32), k + d = 58 → (∀ i, i < k → g' i = im (58 * e + i)) → wp_X11_from_b33 Q im (d + 1) (nI e) (nI k) g' rf := by
      intro hk0 d
      induction d with
      | zero =>
        intro k g' hk h3
        obtain rfl : k = 58 := by omega
        unfold wp_X11_from_b33
        exact br_t (nI_le (a := 58) (by omega) (by omega)) (hQ2 hk0 _ h3)
      | succ d ih =>
        intro k g' hk h3
        unfold wp_X11_from_b33
        rw [zl 58, pk_mul, nI_add]
        refine br_f (nI_ge (by omega) (by omega)) ⟨vi (by omega) (by omega), nm_e ⟨vi (by omega) (by omega), ?_⟩⟩
        rw [nI_clamp (by omega), nI_clamp (by omega), nI_1]
        refine ih (k + 1) _ (by omega) (fun i hi => ?_)
        by_cases z : i = k
        · rw [z, pk_us]
        · rw [pk_un (by omega)]; exact h3 i (by omega)
    refine ⟨vi (by omega) (by omega), br_c (fun z => t_refuses (i := 1) (by omega) rfl (hQ1 z)) (fun z => ⟨59, main z 58 0 g rfl (fun j hj => absurd hj (Nat.not_lt_zero j))⟩)⟩
  · rename_i h
    exact t_bad (hQ0 (Bool.eq_false_iff.mpr h))
