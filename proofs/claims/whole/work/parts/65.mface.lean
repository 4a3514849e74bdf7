/-! MINUTE: the face -/
def TD (g : Nat → Int32) (n m : Nat) (kd oa ob : Nat → Nat) (isT : Int32) (so la : Nat → Int32) : Prop := isT = 0 ∨ CLK (KB g n m kd oa ob) (wv g) n so la
theorem CLK_at {K : Nat → Nat → Bool} {w : Nat → Nat} {n x w0 : Nat} {so la : Nat → Int32} (h : CLK K w n so la) (hx : x < 12) : ∃ a, (if w0 = 0 then so x else la x) = mI a ∧ MN K w n w0 x a := by
  obtain ⟨⟨a, a1, a2, a3⟩, b, b1, b2, b3⟩ := h x hx
  unfold MN
  by_cases z : w0 = 0
  · rw [if_pos z]
    exact ⟨a, a1, by rw [if_pos z]; exact a3⟩
  · rw [if_neg z]
    exact ⟨b, b1, by rw [if_neg z]; exact b3⟩
theorem MN_u {K : Nat → Nat → Bool} {w : Nat → Nat} {n x w0 a b : Nat} (h : MN K w n w0 x a) (h' : MN K w n w0 x b) : a = b := by
  unfold MN at h h'
  by_cases z : w0 = 0
  · rw [if_pos z] at h h'; exact IZ_u h h'
  · rw [if_neg z] at h h'; exact IX_u h h' (fun _ _ q => q) (fun _ _ q => q)
theorem d_time {g : Nat → Int32} {n m : Nat} {kd oa ob : Nat → Nat} {isFound isTimed h_things h_sayings d_count d_countOfHistory d_aparts d_broken q_members q_count s_sets f_moments : Int32} {h_whose h_watch h_kind h_a h_b d_sooner d_later d_strict d_maker d_one d_other d_parter d_missed q_member q_part s_loose f_moment cl_soonest cl_latest cl_least cl_most cl_told : Nat → Int32} {s_ways f_ahead f_alike f_rest f_share : Nat → Int64} {f_fits : Int64} {Q : Int32 → Int32 → Int32 → Int32 → Int32 → Int32 → (Nat → Int32) → (Nat → Int32) → (Nat → Int32) → (Nat → Int32) → (Nat → Int32) → (Nat → Int32) → (Nat → Int32) → (Nat → Int32) → Int32 → Int32 → (Nat → Int32) → (Nat → Int32) → Int32 → (Nat → Int32) → (Nat → Int64) → Int64 → Int32 → (Nat → Int32) → (Nat → Int64) → (Nat → Int64) → (Nat → Int64) → (Nat → Int64) → (Nat → Int32) → (Nat → Int32) → (Nat → Int32) → (Nat → Int32) → (Nat → Int32) → Prop}
    (hbk : BK g n m kd oa ob)
    (hh : HC g n m h_things h_sayings h_whose h_kind h_a h_b)
    (hf : FD g n m kd oa ob isFound s_sets s_loose s_ways f_fits f_moments f_moment f_ahead f_alike)
    (ht : TD g n m kd oa ob isTimed cl_soonest cl_latest)
    (hw : ∀ e, e < 2 * n → h_watch e = g (46 + e))
    (hQ : ∀ (o_isFound o_isTimed o_d_count o_d_countOfHistory o_d_aparts o_d_broken o_q_members o_q_count o_s_sets o_f_moments : Int32) (o_d_sooner o_d_later o_d_strict o_d_maker o_d_one o_d_other o_d_parter o_d_missed o_q_member o_q_part o_s_loose o_f_moment o_cl_soonest o_cl_latest o_cl_least o_cl_most o_cl_told : (Nat → Int32)) (o_s_ways o_f_ahead o_f_alike o_f_rest o_f_share : (Nat → Int64)) (o_f_fits : Int64), FD g n m kd oa ob o_isFound o_s_sets o_s_loose o_s_ways o_f_fits o_f_moments o_f_moment o_f_ahead o_f_alike → CLK (KB g n m kd oa ob) (wv g) n o_cl_soonest o_cl_latest → Q o_isFound o_isTimed o_d_count o_d_countOfHistory o_d_aparts o_d_broken o_d_sooner o_d_later o_d_strict o_d_maker o_d_one o_d_other o_d_parter o_d_missed o_q_members o_q_count o_q_member o_q_part o_s_sets o_s_loose o_s_ways o_f_fits o_f_moments o_f_moment o_f_ahead o_f_alike o_f_rest o_f_share o_cl_soonest o_cl_latest o_cl_least o_cl_most o_cl_told) : wp_X10_time isFound isTimed h_things h_sayings h_whose h_watch h_kind h_a h_b d_count d_countOfHistory d_aparts d_broken d_sooner d_later d_strict d_maker d_one d_other d_parter d_missed q_members q_count q_member q_part s_sets s_loose s_ways f_fits f_moments f_moment f_ahead f_alike f_rest f_share cl_soonest cl_latest cl_least cl_most cl_told Q := by
  have hb := hbk.1
  have hn := hb.2.2.1
  unfold wp_X10_time
  refine br_c (fun z => ?_) (fun z => ?_)
  · refine d_find hb hh hf (fun o_isFound o_d_count o_d_countOfHistory o_d_aparts o_d_broken o_q_members o_q_count o_s_sets o_f_moments o_d_sooner o_d_later o_d_strict o_d_maker o_d_one o_d_other o_d_parter o_d_missed o_q_member o_q_part o_s_loose o_f_moment o_s_ways o_f_ahead o_f_alike o_f_rest o_f_share o_f_fits ft => ?_)
    have ft1 := ft.1
    subst ft1
    refine s_tell (w := wv g) (CG_hist hb) ft.2.1 (fun e he => (wv_ok hbk he).2) (fun e he => by rw [hw e he]; exact (wv_ok hbk (by omega)).1) (fun so la le mo told c1 c2 me pa hc => ?_)
    apply hQ
    · exact Or.inr ft
    · exact hc
  · rcases ht with ht | ht
    · exact absurd ht z
    · apply hQ
      · exact hf
      · exact ht
theorem d_minute {g : Nat → Int32} {n m : Nat} {kd oa ob : Nat → Nat} {p1 p2 isFound isTimed h_things h_sayings d_count d_countOfHistory d_aparts d_broken q_members q_count s_sets f_moments : Int32} {h_whose h_watch h_kind h_a h_b refused d_sooner d_later d_strict d_maker d_one d_other d_parter d_missed q_member q_part s_loose f_moment cl_soonest cl_latest cl_least cl_most cl_told : Nat → Int32} {s_ways f_ahead f_alike f_rest f_share : Nat → Int64} {f_fits : Int64} {Q : Int32 → Int32 → Int32 → (Nat → Int32) → Int32 → Int32 → Int32 → Int32 → (Nat → Int32) → (Nat → Int32) → (Nat → Int32) → (Nat → Int32) → (Nat → Int32) → (Nat → Int32) → (Nat → Int32) → (Nat → Int32) → Int32 → Int32 → (Nat → Int32) → (Nat → Int32) → Int32 → (Nat → Int32) → (Nat → Int64) → Int64 → Int32 → (Nat → Int32) → (Nat → Int64) → (Nat → Int64) → (Nat → Int64) → (Nat → Int64) → (Nat → Int32) → (Nat → Int32) → (Nat → Int32) → (Nat → Int32) → (Nat → Int32) → Prop}
    (hbk : BK g n m kd oa ob)
    (hh : HC g n m h_things h_sayings h_whose h_kind h_a h_b)
    (hf : FD g n m kd oa ob isFound s_sets s_loose s_ways f_fits f_moments f_moment f_ahead f_alike)
    (ht : TD g n m kd oa ob isTimed cl_soonest cl_latest)
    (hw : ∀ e, e < 2 * n → h_watch e = g (46 + e))
    (hQ0 : (iN p1 (2 * n) && iN p2 2) = false → ∀ (o_isFound o_isTimed o_d_count o_d_countOfHistory o_d_aparts o_d_broken o_q_members o_q_count o_s_sets o_f_moments : Int32) (o_d_sooner o_d_later o_d_strict o_d_maker o_d_one o_d_other o_d_parter o_d_missed o_q_member o_q_part o_s_loose o_f_moment o_cl_soonest o_cl_latest o_cl_least o_cl_most o_cl_told : (Nat → Int32)) (o_s_ways o_f_ahead o_f_alike o_f_rest o_f_share : (Nat → Int64)) (o_f_fits : Int64), FD g n m kd oa ob o_isFound o_s_sets o_s_loose o_s_ways o_f_fits o_f_moments o_f_moment o_f_ahead o_f_alike → TD g n m kd oa ob o_isTimed o_cl_soonest o_cl_latest → Q (-2) o_isFound o_isTimed (ri refused 0) o_d_count o_d_countOfHistory o_d_aparts o_d_broken o_d_sooner o_d_later o_d_strict o_d_maker o_d_one o_d_other o_d_parter o_d_missed o_q_members o_q_count o_q_member o_q_part o_s_sets o_s_loose o_s_ways o_f_fits o_f_moments o_f_moment o_f_ahead o_f_alike o_f_rest o_f_share o_cl_soonest o_cl_latest o_cl_least o_cl_most o_cl_told)
    (hQ1 : (iN p1 (2 * n) && iN p2 2) = true → ∀ a : Nat, MN (KB g n m kd oa ob) (wv g) n p2.toNatClampNeg p1.toNatClampNeg a → ∀ (o_isFound o_isTimed o_d_count o_d_countOfHistory o_d_aparts o_d_broken o_q_members o_q_count o_s_sets o_f_moments : Int32) (o_d_sooner o_d_later o_d_strict o_d_maker o_d_one o_d_other o_d_parter o_d_missed o_q_member o_q_part o_s_loose o_f_moment o_cl_soonest o_cl_latest o_cl_least o_cl_most o_cl_told : (Nat → Int32)) (o_s_ways o_f_ahead o_f_alike o_f_rest o_f_share : (Nat → Int64)) (o_f_fits : Int64), FD g n m kd oa ob o_isFound o_s_sets o_s_loose o_s_ways o_f_fits o_f_moments o_f_moment o_f_ahead o_f_alike → TD g n m kd oa ob o_isTimed o_cl_soonest o_cl_latest → Q (mI a) o_isFound o_isTimed refused o_d_count o_d_countOfHistory o_d_aparts o_d_broken o_d_sooner o_d_later o_d_strict o_d_maker o_d_one o_d_other o_d_parter o_d_missed o_q_members o_q_count o_q_member o_q_part o_s_sets o_s_loose o_s_ways o_f_fits o_f_moments o_f_moment o_f_ahead o_f_alike o_f_rest o_f_share o_cl_soonest o_cl_latest o_cl_least o_cl_most o_cl_told) : wp_X10_minute p1 p2 isFound isTimed h_things h_sayings h_whose h_watch h_kind h_a h_b refused d_count d_countOfHistory d_aparts d_broken d_sooner d_later d_strict d_maker d_one d_other d_parter d_missed q_members q_count q_member q_part s_sets s_loose s_ways f_fits f_moments f_moment f_ahead f_alike f_rest f_share cl_soonest cl_latest cl_least cl_most cl_told Q := by
  have hb := hbk.1
  have hn := hb.2.2.1
  have et := hh.1
  unfold wp_X10_minute wp_X10_minute_b15
  rw [et]
  refine t_isEnd hn ?_
  rw [zbR]
  by_cases h : iN p1 (2 * n) = true
  case neg =>
    rw [if_neg h]
    rw [Bool.eq_false_iff.mpr h] at hQ0
    refine t_refB ?_
    apply hQ0
    · rfl
    · exact hf
    · exact ht
  rw [if_pos h]
  refine t_isEither ?_
  rw [zbR]
  by_cases h' : iN p2 2 = true
  case neg =>
    rw [if_neg h']
    rw [h, Bool.eq_false_iff.mpr h'] at hQ0
    refine t_refB ?_
    apply hQ0
    · rfl
    · exact hf
    · exact ht
  rw [if_pos h']
  rw [h, h'] at hQ1
  replace hQ1 := hQ1 rfl
  rw [← et]
  refine d_time hbk hh hf ht hw (fun o_isFound o_isTimed o_d_count o_d_countOfHistory o_d_aparts o_d_broken o_q_members o_q_count o_s_sets o_f_moments o_d_sooner o_d_later o_d_strict o_d_maker o_d_one o_d_other o_d_parter o_d_missed o_q_member o_q_part o_s_loose o_f_moment o_cl_soonest o_cl_latest o_cl_least o_cl_most o_cl_told o_s_ways o_f_ahead o_f_alike o_f_rest o_f_share o_f_fits hfd hcl => ?_)
  obtain ⟨h1, h2⟩ := iN_c (by omega) h
  obtain ⟨h3, h4⟩ := iN_c (by omega) h'
  obtain ⟨a, ha, hm⟩ := CLK_at (w0 := p2.toNatClampNeg) (x := p1.toNatClampNeg) hcl (by omega)
  replace hQ1 := hQ1 a hm
  rw [← ha] at hQ1
  have i12 : vp_in p1 12 := by rw [h2]; exact vi (by omega) (by omega)
  have e2 : (p2 = 0) ↔ p2.toNatClampNeg = 0 := by
    generalize p2.toNatClampNeg = y at h3 h4
    rw [h4]
    exact nI_eq (b := 0) (by omega) (by omega)
  refine br_c (fun z => ⟨i12, ?_⟩) (fun z => ⟨i12, ?_⟩)
  · rw [if_pos (e2.mp z)] at hQ1
    apply hQ1
    · exact hfd
    · exact Or.inr hcl
  · rw [if_neg (fun q => z (e2.mpr q))] at hQ1
    apply hQ1
    · exact hfd
    · exact Or.inr hcl
theorem r_minute {g : Nat → Int32} {n m : Nat} {kd oa ob : Nat → Nat} {p1 p2 ahead moment counted parted partedToo : Int32} {refused mate soon late : Nat → Int32} {Q : Int32 → Int32 → Int32 → Int32 → Int32 → (Nat → Int32) → (Nat → Int32) → (Nat → Int32) → (Nat → Int32) → Prop}
    (hbk : BK g n m kd oa ob)
    (hQ0 : (iN p1 (2 * n) && iN p2 2) = false → ∀ (o_ahead o_moment o_counted o_parted : Int32) (o_mate o_soon o_late : (Nat → Int32)), Q (-2) o_ahead o_moment o_counted o_parted (ri refused 0) o_mate o_soon o_late)
    (hQ1 : (iN p1 (2 * n) && iN p2 2) = true → ∀ a : Nat, MN (KB g n m kd oa ob) (wv g) n p2.toNatClampNeg p1.toNatClampNeg a → ∀ (o_ahead o_moment o_counted o_parted : Int32) (o_mate o_soon o_late : (Nat → Int32)), Q (mI a) o_ahead o_moment o_counted o_parted refused o_mate o_soon o_late) : wp_X11_minute p1 p2 ahead moment counted parted partedToo g refused mate soon late Q := by
  have hb := hbk.1
  have hn := hb.2.2.1
  have hBD := BD_ok hn
  unfold wp_X11_minute wp_X11_minute_b17
  refine t_rEnd hn hb.1 ?_
  rw [zbR]
  by_cases h : iN p1 (2 * n) = true
  case neg =>
    rw [if_neg h]
    rw [Bool.eq_false_iff.mpr h] at hQ0
    refine t_bad ?_
    apply hQ0
    rfl
  rw [if_pos h]
  refine t_in (N := 2) (by omega) rfl ?_
  rw [zbR]
  by_cases h' : iN p2 2 = true
  case neg =>
    rw [if_neg h']
    rw [h, Bool.eq_false_iff.mpr h'] at hQ0
    refine t_bad ?_
    apply hQ0
    rfl
  rw [if_pos h']
  rw [h, h'] at hQ1
  replace hQ1 := hQ1 rfl
  obtain ⟨h1, h2⟩ := iN_c (by omega) h
  obtain ⟨h3, h4⟩ := iN_c (by omega) h'
  generalize p1.toNatClampNeg = x at h1 h2 hQ1
  generalize p2.toNatClampNeg = y at h3 h4 hQ1
  subst h2 h4
  unfold wp_X11_minutes
  refine s_plain (fun mate hm => ?_)
  have hMV := MV_of (mt := nmt) (pa := none) (cp := -nI 1) (cq := partedToo) (mate := mate) hb (by omega : (255 : Nat) < 2 ^ 31) (fun a ha => ⟨hm a (by omega), fun b hb => by cases hb⟩) rfl
  have hgw : ∀ e, e < 12 → g (46 + e) = mI (wv g e) ∧ wv g e ≤ 100 := fun e he => wv_ok hbk he
  refine s_minutesIn (w := wv g) hn hb.1 hMV hgw (fun ca cm so la k1 k2 => ?_)
  refine s_minuteIn (w := wv g) hn hb.1 hMV hgw h3 (by omega) k1 k2 (fun ca cm a ha => ?_)
  exact hQ1 a ha _ _ _ _ _ _ _
