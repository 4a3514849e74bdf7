/-! the face: what FITS asks -/
def FT (g : Nat → Int32) (n m : Nat) (kd oa ob : Nat → Nat) (st : Int32) (lo : Nat → Int32) (wa : Nat → Int64) (f : Int64) (mo : Int32) (mt : Nat → Int32) (ah al : Nat → Int64) : Prop :=
  st = nI (3 ^ n) ∧ LW (bkn g n m kd oa ob 255 nmt) (lsS n m kd oa ob 255) (wF (ed (KB g n m kd oa ob) n) (2 ^ (2 * n))) (3 ^ n) lo wa ∧ FND n (KB g n m kd oa ob) f mo mt ah al
def fitN (g : Nat → Int32) (n m : Nat) (kd oa ob : Nat → Nat) : Nat := wB (ed (KB g n m kd oa ob) n) (2 ^ (2 * n)) 0
def sp_first (g : Nat → Int32) (n m : Nat) (kd oa ob : Nat → Nat) (p : Int32) (rf : Nat → Int32) : Int32 × (Nat → Int32) := if iN p (2 * n) = true then (if fitN g n m kd oa ob = 0 then (-3, ri rf 1) else (nI (mo n (KB g n m kd oa ob) p.toNatClampNeg), rf)) else (-2, ri rf 0)
def sp_moments (g : Nat → Int32) (n m : Nat) (kd oa ob : Nat → Nat) (rf : Nat → Int32) : Int32 × (Nat → Int32) := if fitN g n m kd oa ob = 0 then (-3, ri rf 1) else (nI (mos n (KB g n m kd oa ob)), rf)
/-- how many last behind a moment -/
def lsN (n : Nat) (K : Nat → Nat → Bool) (p : Nat) : Nat → Nat := fb_ct (fun t => lst (pth n K (p + 1)) t)
def sp_last (g : Nat → Int32) (n m : Nat) (kd oa ob : Nat → Nat) (p : Int32) (rf : Nat → Int32) : Int32 × (Nat → Int32) := if fitN g n m kd oa ob = 0 then (-3, ri rf 1) else (if iN p (mos n (KB g n m kd oa ob)) = true then (nI (lsN n (KB g n m kd oa ob) p.toNatClampNeg n), rf) else (-2, ri rf 0))
def sp_between (g : Nat → Int32) (n m : Nat) (kd oa ob : Nat → Nat) (p q : Int32) (rf : Nat → Int32) : Int32 × (Nat → Int32) := if (iN p (2 * n) && (iN q (2 * n) && !decide (p = q))) = true then (if fitN g n m kd oa ob = 0 then (-3, ri rf 1) else (nI (rel n (KB g n m kd oa ob) p.toNatClampNeg q.toNatClampNeg), rf)) else (-2, ri rf 0)
def sp_sure (g : Nat → Int32) (n m : Nat) (kd oa ob : Nat → Nat) (rf : Nat → Int32) : Int32 × (Nat → Int32) := if fitN g n m kd oa ob = 0 then (-3, ri rf 1) else (nI (sNo n (KB g n m kd oa ob) (2 * n)), rf)
def sp_together (g : Nat → Int32) (n m : Nat) (kd oa ob : Nat → Nat) (p q : Int32) (rf : Nat → Int32) : Int64 × (Nat → Int32) := if (iN p n && (iN q n && !decide (p = q))) = true then (lN (fitN g n m kd oa ob) - lN (wB (ed (fun s M => ap p.toNatClampNeg q.toNatClampNeg s M && KB g n m kd oa ob s M) n) (2 ^ (2 * n)) 0), rf) else (-2, ri rf 0)
def sp_ask (g : Nat → Int32) (n m : Nat) (kd oa ob : Nat → Nat) (p : Int32) (rf : Nat → Int32) : Int64 × (Nat → Int32) := if iN p 2 = true then (if fitN g n m kd oa ob = 0 then (-3, ri rf 1) else ((if p.toNatClampNeg = 0 then qC (qAl n (KB g n m kd oa ob) (2 * n)) else qL (qAl n (KB g n m kd oa ob) (2 * n))), rf)) else (-2, ri rf 0)
def sp_word (g : Nat → Int32) (n m : Nat) (kd oa ob : Nat → Nat) (p : Int32) (rf : Nat → Int32) : Int32 × (Nat → Int32) := if iN p 4 = true then (bI (fit g n m kd oa ob (lo (fun k => !decide (g (38 + k) = p)) m)), rf) else (-2, ri rf 0)
theorem d_lasting {n p : Nat} {K : Nat → Nat → Bool} {mt : Nat → Int32} {Q : Int32 → Prop} (hn : n < 7) (h0 : wB (ed K n) (2 ^ (2 * n)) 0 ≠ 0) (hp : p < mos n K) (hm : ∀ e, e < 2 * n → mt e = nI (mo n K e)) (hQ : Q (nI (lsN n K p n))) : wp_X3_lastingBehind (nI p) (nI n) mt Q := by
  have h12 := (mos_ok hn h0).1
  have main : ∀ (d t : Nat), t + d = n → wp_X3_lastingBehind_b5 Q mt (d + 1) (nI p) (nI n) (nI (lsN n K p t)) (nI t) := by
    intro d
    induction d with
    | zero =>
      intro t ht
      obtain rfl : t = n := by omega
      unfold wp_X3_lastingBehind_b5
      exact br_t (nI_le (by omega) (by omega)) hQ
    | succ d ih =>
      intro t ht
      have ih := ih (t + 1) (by omega)
      obtain ⟨a1, a2⟩ := mo_ok hn h0 (e := 2 * t) (by omega)
      obtain ⟨b1, b2⟩ := mo_ok hn h0 (e := 2 * t + 1) (by omega)
      have a2 := a2 (p + 1) (by omega)
      have b2 := b2 (p + 1) (by omega)
      unfold wp_X3_lastingBehind_b5 wp_X3_lastingBehind_b42
      rw [show (2 : Int32) = nI 2 from rfl, pk_mul, show (1 : Int32) = nI 1 from rfl, nI_add (2 * t) 1, nI_clamp (by omega), nI_clamp (by omega), hm _ (by omega), hm _ (by omega), nI_ltI (a := p) (by omega) (by omega), nI_leI (a := mo n K (2 * t + 1)) (by omega) (by omega), nI_add, nI_add]
      unfold lsN at ih ⊢
      rw [fb_ct] at ih
      unfold lst at ih
      refine br_f (nI_ge (by omega) (by omega)) ⟨vi (by omega) (by omega), br_c (fun z => ?_) (fun z => ⟨vi (by omega) (by omega), br_c (fun z2 => ?_) (fun z2 => ?_)⟩)⟩
      · have : (pth n K (p + 1)).testBit (2 * t) = false := by
          cases q : (pth n K (p + 1)).testBit (2 * t) with
          | false => rfl
          | true => have := a2.mp q; omega
        rw [this] at ih
        exact ih
      · rw [b2.mpr (by omega), Bool.not_true, Bool.and_false] at ih
        exact ih
      · have : (pth n K (p + 1)).testBit (2 * t + 1) = false := by
          cases q : (pth n K (p + 1)).testBit (2 * t + 1) with
          | false => rfl
          | true => have := b2.mp q; omega
        rw [this, a2.mpr (by omega)] at ih
        exact ih
  unfold wp_X3_lastingBehind
  exact ⟨n + 1, main n 0 (by omega)⟩
theorem d_find {g : Nat → Int32} {n m : Nat} {kd oa ob : Nat → Nat} {isFound h_things h_sayings d_count d_countOfHistory d_aparts d_broken q_members q_count s_sets f_moments : Int32} {h_whose h_kind h_a h_b d_sooner d_later d_strict d_maker d_one d_other d_parter d_missed q_member q_part s_loose f_moment : Nat → Int32} {s_ways f_ahead f_alike f_rest f_share : Nat → Int64} {f_fits : Int64} {Q : Int32 → Int32 → Int32 → Int32 → Int32 → (Nat → Int32) → (Nat → Int32) → (Nat → Int32) → (Nat → Int32) → (Nat → Int32) → (Nat → Int32) → (Nat → Int32) → (Nat → Int32) → Int32 → Int32 → (Nat → Int32) → (Nat → Int32) → Int32 → (Nat → Int32) → (Nat → Int64) → Int64 → Int32 → (Nat → Int32) → (Nat → Int64) → (Nat → Int64) → (Nat → Int64) → (Nat → Int64) → Prop}
    (hb : HB g n m kd oa ob)
    (hh : HC g n m h_things h_sayings h_whose h_kind h_a h_b)
    (hf : FD g n m kd oa ob isFound s_sets s_loose s_ways f_fits f_moments f_moment f_ahead f_alike)
    (hQ : ∀ (o_isFound o_d_count o_d_countOfHistory o_d_aparts o_d_broken o_q_members o_q_count o_s_sets o_f_moments : Int32) (o_d_sooner o_d_later o_d_strict o_d_maker o_d_one o_d_other o_d_parter o_d_missed o_q_member o_q_part o_s_loose o_f_moment : (Nat → Int32)) (o_s_ways o_f_ahead o_f_alike o_f_rest o_f_share : (Nat → Int64)) (o_f_fits : Int64), FT g n m kd oa ob o_s_sets o_s_loose o_s_ways o_f_fits o_f_moments o_f_moment o_f_ahead o_f_alike → Q o_isFound o_d_count o_d_countOfHistory o_d_aparts o_d_broken o_d_sooner o_d_later o_d_strict o_d_maker o_d_one o_d_other o_d_parter o_d_missed o_q_members o_q_count o_q_member o_q_part o_s_sets o_s_loose o_s_ways o_f_fits o_f_moments o_f_moment o_f_ahead o_f_alike o_f_rest o_f_share) : wp_X10_find isFound h_things h_sayings h_whose h_kind h_a h_b d_count d_countOfHistory d_aparts d_broken d_sooner d_later d_strict d_maker d_one d_other d_parter d_missed q_members q_count q_member q_part s_sets s_loose s_ways f_fits f_moments f_moment f_ahead f_alike f_rest f_share Q := by
  have hn := hb.2.2.1
  unfold wp_X10_find
  refine br_c (fun z => ?_) (fun z => ?_)
  · refine s_takeD hb hh (fun so la st ma on ot pa r1 r2 => ?_)
    obtain ⟨rfl, rfl, -, -⟩ := hh
    refine s_lay (CG_hist hb) (DG_hist hb) r1 r2 (fun lo wa cb mi c1 c2 me pa hl => ?_)
    refine s_weighF (CG_hist hb) hl (BD_ok hn) (fun f m mt ah al rest share c1 c2 me pa hf => ?_)
    apply hQ
    exact ⟨rfl, hl, hf⟩
  · rcases hf with hf | hf
    · exact absurd hf z
    · apply hQ
      exact hf
theorem d_choose {g : Nat → Int32} {n m : Nat} {kd oa ob : Nat → Nat} {isChosen h_things h_sayings d_count d_countOfHistory d_aparts d_broken q_members q_count ch_end : Int32} {h_whose h_kind h_a h_b d_sooner d_later d_strict d_maker d_one d_other d_parter d_missed q_member q_part ch_broken : Nat → Int32} {ch_open : Nat → Int64} {Q : Int32 → Int32 → Int32 → Int32 → Int32 → (Nat → Int32) → (Nat → Int32) → (Nat → Int32) → (Nat → Int32) → (Nat → Int32) → (Nat → Int32) → (Nat → Int32) → (Nat → Int32) → Int32 → Int32 → (Nat → Int32) → (Nat → Int32) → Int32 → (Nat → Int64) → (Nat → Int32) → Prop}
    (hb : HB g n m kd oa ob)
    (hh : HC g n m h_things h_sayings h_whose h_kind h_a h_b)
    (hf : CD g n m kd oa ob isChosen ch_end ch_open)
    (hQ : ∀ (o_isChosen o_d_count o_d_countOfHistory o_d_aparts o_d_broken o_q_members o_q_count o_ch_end : Int32) (o_d_sooner o_d_later o_d_strict o_d_maker o_d_one o_d_other o_d_parter o_d_missed o_q_member o_q_part o_ch_broken : (Nat → Int32)) (o_ch_open : (Nat → Int64)), CHS g n m kd oa ob o_ch_end o_ch_open → Q o_isChosen o_d_count o_d_countOfHistory o_d_aparts o_d_broken o_d_sooner o_d_later o_d_strict o_d_maker o_d_one o_d_other o_d_parter o_d_missed o_q_members o_q_count o_q_member o_q_part o_ch_end o_ch_open o_ch_broken) : wp_X10_choose isChosen h_things h_sayings h_whose h_kind h_a h_b d_count d_countOfHistory d_aparts d_broken d_sooner d_later d_strict d_maker d_one d_other d_parter d_missed q_members q_count q_member q_part ch_end ch_open ch_broken Q := by
  have hn := hb.2.2.1
  unfold wp_X10_choose
  refine br_c (fun z => ?_) (fun z => ?_)
  · refine s_takeD hb hh (fun so la st ma on ot pa r1 r2 => ?_)
    obtain ⟨rfl, rfl, -, -⟩ := hh
    refine s_cWeigh hn hb.2.2.2.1 (fun k q => ⟨(hb.2.2.2.2 k q).2.1, (hb.2.2.2.2 k q).2.2.2.1, (hb.2.2.2.2 k q).2.2.2.2.2⟩) r1 r2 (fun en cb c1 c2 op bk mi me pa hc => ?_)
    apply hQ
    exact hc
  · rcases hf with hf | hf
    · exact absurd hf z
    · apply hQ
      exact hf
theorem d_hasFit {g : Nat → Int32} {n m : Nat} {kd oa ob : Nat → Nat} {isFound h_things h_sayings d_count d_countOfHistory d_aparts d_broken q_members q_count s_sets f_moments : Int32} {h_whose h_kind h_a h_b d_sooner d_later d_strict d_maker d_one d_other d_parter d_missed q_member q_part s_loose f_moment : Nat → Int32} {s_ways f_ahead f_alike f_rest f_share : Nat → Int64} {f_fits : Int64} {Q : Int32 → Int32 → Int32 → Int32 → Int32 → Int32 → (Nat → Int32) → (Nat → Int32) → (Nat → Int32) → (Nat → Int32) → (Nat → Int32) → (Nat → Int32) → (Nat → Int32) → (Nat → Int32) → Int32 → Int32 → (Nat → Int32) → (Nat → Int32) → Int32 → (Nat → Int32) → (Nat → Int64) → Int64 → Int32 → (Nat → Int32) → (Nat → Int64) → (Nat → Int64) → (Nat → Int64) → (Nat → Int64) → Prop}
    (hb : HB g n m kd oa ob)
    (hh : HC g n m h_things h_sayings h_whose h_kind h_a h_b)
    (hf : FD g n m kd oa ob isFound s_sets s_loose s_ways f_fits f_moments f_moment f_ahead f_alike)
    (hQ : ∀ (o_isFound o_d_count o_d_countOfHistory o_d_aparts o_d_broken o_q_members o_q_count o_s_sets o_f_moments : Int32) (o_d_sooner o_d_later o_d_strict o_d_maker o_d_one o_d_other o_d_parter o_d_missed o_q_member o_q_part o_s_loose o_f_moment : (Nat → Int32)) (o_s_ways o_f_ahead o_f_alike o_f_rest o_f_share : (Nat → Int64)) (o_f_fits : Int64), FT g n m kd oa ob o_s_sets o_s_loose o_s_ways o_f_fits o_f_moments o_f_moment o_f_ahead o_f_alike → Q (bI (decide (fitN g n m kd oa ob ≠ 0))) o_isFound o_d_count o_d_countOfHistory o_d_aparts o_d_broken o_d_sooner o_d_later o_d_strict o_d_maker o_d_one o_d_other o_d_parter o_d_missed o_q_members o_q_count o_q_member o_q_part o_s_sets o_s_loose o_s_ways o_f_fits o_f_moments o_f_moment o_f_ahead o_f_alike o_f_rest o_f_share) : wp_X10_hasFit isFound h_things h_sayings h_whose h_kind h_a h_b d_count d_countOfHistory d_aparts d_broken d_sooner d_later d_strict d_maker d_one d_other d_parter d_missed q_members q_count q_member q_part s_sets s_loose s_ways f_fits f_moments f_moment f_ahead f_alike f_rest f_share Q := by
  have hn := hb.2.2.1
  unfold wp_X10_hasFit
  refine d_find hb hh hf (fun o_isFound o_d_count o_d_countOfHistory o_d_aparts o_d_broken o_q_members o_q_count o_s_sets o_f_moments o_d_sooner o_d_later o_d_strict o_d_maker o_d_one o_d_other o_d_parter o_d_missed o_q_member o_q_part o_s_loose o_f_moment o_s_ways o_f_ahead o_f_alike o_f_rest o_f_share o_f_fits ft => ?_)
  have e := ft.2.2.1
  have h0 := BD_ok hn (KB g n m kd oa ob) 0 (Nat.two_pow_pos _)
  rw [e, show (0 : Int64) = lN 0 from rfl, show (0 : Int32) = nI 0 from rfl, z_cmp (by omega)]
  refine br_c (fun z => ?_) (fun z => ?_)
  · have := hQ o_isFound o_d_count o_d_countOfHistory o_d_aparts o_d_broken o_q_members o_q_count o_s_sets o_f_moments o_d_sooner o_d_later o_d_strict o_d_maker o_d_one o_d_other o_d_parter o_d_missed o_q_member o_q_part o_s_loose o_f_moment o_s_ways o_f_ahead o_f_alike o_f_rest o_f_share o_f_fits ft
    rw [decide_eq_false (show ¬ fitN g n m kd oa ob ≠ 0 from fun q => q z), e] at this
    exact this
  · have := hQ o_isFound o_d_count o_d_countOfHistory o_d_aparts o_d_broken o_q_members o_q_count o_s_sets o_f_moments o_d_sooner o_d_later o_d_strict o_d_maker o_d_one o_d_other o_d_parter o_d_missed o_q_member o_q_part o_s_loose o_f_moment o_s_ways o_f_ahead o_f_alike o_f_rest o_f_share o_f_fits ft
    rw [decide_eq_true (show fitN g n m kd oa ob ≠ 0 from z), e] at this
    exact this
theorem d_fits {g : Nat → Int32} {n m : Nat} {kd oa ob : Nat → Nat} {isFound h_things h_sayings d_count d_countOfHistory d_aparts d_broken q_members q_count s_sets f_moments : Int32} {h_whose h_kind h_a h_b d_sooner d_later d_strict d_maker d_one d_other d_parter d_missed q_member q_part s_loose f_moment : Nat → Int32} {s_ways f_ahead f_alike f_rest f_share : Nat → Int64} {f_fits : Int64} {Q : Int64 → Int32 → Int32 → Int32 → Int32 → Int32 → (Nat → Int32) → (Nat → Int32) → (Nat → Int32) → (Nat → Int32) → (Nat → Int32) → (Nat → Int32) → (Nat → Int32) → (Nat → Int32) → Int32 → Int32 → (Nat → Int32) → (Nat → Int32) → Int32 → (Nat → Int32) → (Nat → Int64) → Int64 → Int32 → (Nat → Int32) → (Nat → Int64) → (Nat → Int64) → (Nat → Int64) → (Nat → Int64) → Prop}
    (hb : HB g n m kd oa ob)
    (hh : HC g n m h_things h_sayings h_whose h_kind h_a h_b)
    (hf : FD g n m kd oa ob isFound s_sets s_loose s_ways f_fits f_moments f_moment f_ahead f_alike)
    (hQ : ∀ (o_isFound o_d_count o_d_countOfHistory o_d_aparts o_d_broken o_q_members o_q_count o_s_sets o_f_moments : Int32) (o_d_sooner o_d_later o_d_strict o_d_maker o_d_one o_d_other o_d_parter o_d_missed o_q_member o_q_part o_s_loose o_f_moment : (Nat → Int32)) (o_s_ways o_f_ahead o_f_alike o_f_rest o_f_share : (Nat → Int64)) (o_f_fits : Int64), FD g n m kd oa ob o_isFound o_s_sets o_s_loose o_s_ways o_f_fits o_f_moments o_f_moment o_f_ahead o_f_alike → Q (lN (fitN g n m kd oa ob)) o_isFound o_d_count o_d_countOfHistory o_d_aparts o_d_broken o_d_sooner o_d_later o_d_strict o_d_maker o_d_one o_d_other o_d_parter o_d_missed o_q_members o_q_count o_q_member o_q_part o_s_sets o_s_loose o_s_ways o_f_fits o_f_moments o_f_moment o_f_ahead o_f_alike o_f_rest o_f_share) : wp_X10_fits isFound h_things h_sayings h_whose h_kind h_a h_b d_count d_countOfHistory d_aparts d_broken d_sooner d_later d_strict d_maker d_one d_other d_parter d_missed q_members q_count q_member q_part s_sets s_loose s_ways f_fits f_moments f_moment f_ahead f_alike f_rest f_share Q := by
  have hn := hb.2.2.1
  have et := hh.1
  unfold wp_X10_fits
  refine d_find hb hh hf (fun o_isFound o_d_count o_d_countOfHistory o_d_aparts o_d_broken o_q_members o_q_count o_s_sets o_f_moments o_d_sooner o_d_later o_d_strict o_d_maker o_d_one o_d_other o_d_parter o_d_missed o_q_member o_q_part o_s_loose o_f_moment o_s_ways o_f_ahead o_f_alike o_f_rest o_f_share o_f_fits ft => ?_)
  have := hQ o_isFound o_d_count o_d_countOfHistory o_d_aparts o_d_broken o_q_members o_q_count o_s_sets o_f_moments o_d_sooner o_d_later o_d_strict o_d_maker o_d_one o_d_other o_d_parter o_d_missed o_q_member o_q_part o_s_loose o_f_moment o_s_ways o_f_ahead o_f_alike o_f_rest o_f_share o_f_fits (Or.inr ft)
  rw [← show o_f_fits = lN (fitN g n m kd oa ob) from ft.2.2.1] at this
  exact this
theorem d_first {g : Nat → Int32} {n m : Nat} {kd oa ob : Nat → Nat} {p1 isFound h_things h_sayings d_count d_countOfHistory d_aparts d_broken q_members q_count s_sets f_moments : Int32} {h_whose h_kind h_a h_b refused d_sooner d_later d_strict d_maker d_one d_other d_parter d_missed q_member q_part s_loose f_moment : Nat → Int32} {s_ways f_ahead f_alike f_rest f_share : Nat → Int64} {f_fits : Int64} {Q : Int32 → Int32 → (Nat → Int32) → Int32 → Int32 → Int32 → Int32 → (Nat → Int32) → (Nat → Int32) → (Nat → Int32) → (Nat → Int32) → (Nat → Int32) → (Nat → Int32) → (Nat → Int32) → (Nat → Int32) → Int32 → Int32 → (Nat → Int32) → (Nat → Int32) → Int32 → (Nat → Int32) → (Nat → Int64) → Int64 → Int32 → (Nat → Int32) → (Nat → Int64) → (Nat → Int64) → (Nat → Int64) → (Nat → Int64) → Prop}
    (hb : HB g n m kd oa ob)
    (hh : HC g n m h_things h_sayings h_whose h_kind h_a h_b)
    (hf : FD g n m kd oa ob isFound s_sets s_loose s_ways f_fits f_moments f_moment f_ahead f_alike)
    (hQ : ∀ (o_isFound o_d_count o_d_countOfHistory o_d_aparts o_d_broken o_q_members o_q_count o_s_sets o_f_moments : Int32) (o_d_sooner o_d_later o_d_strict o_d_maker o_d_one o_d_other o_d_parter o_d_missed o_q_member o_q_part o_s_loose o_f_moment : (Nat → Int32)) (o_s_ways o_f_ahead o_f_alike o_f_rest o_f_share : (Nat → Int64)) (o_f_fits : Int64), FD g n m kd oa ob o_isFound o_s_sets o_s_loose o_s_ways o_f_fits o_f_moments o_f_moment o_f_ahead o_f_alike → Q (sp_first g n m kd oa ob p1 refused).1 o_isFound ((sp_first g n m kd oa ob p1 refused).2) o_d_count o_d_countOfHistory o_d_aparts o_d_broken o_d_sooner o_d_later o_d_strict o_d_maker o_d_one o_d_other o_d_parter o_d_missed o_q_members o_q_count o_q_member o_q_part o_s_sets o_s_loose o_s_ways o_f_fits o_f_moments o_f_moment o_f_ahead o_f_alike o_f_rest o_f_share) : wp_X10_first p1 isFound h_things h_sayings h_whose h_kind h_a h_b refused d_count d_countOfHistory d_aparts d_broken d_sooner d_later d_strict d_maker d_one d_other d_parter d_missed q_members q_count q_member q_part s_sets s_loose s_ways f_fits f_moments f_moment f_ahead f_alike f_rest f_share Q := by
  have hn := hb.2.2.1
  have et := hh.1
  unfold wp_X10_first
  rw [et]
  refine t_isEnd hn ?_
  rw [zbR]
  unfold sp_first at hQ
  by_cases h : iN p1 (2 * n) = true
  · rw [if_pos h]
    rw [if_pos h] at hQ
    rw [← et]
    refine d_hasFit hb hh hf (fun o_isFound o_d_count o_d_countOfHistory o_d_aparts o_d_broken o_q_members o_q_count o_s_sets o_f_moments o_d_sooner o_d_later o_d_strict o_d_maker o_d_one o_d_other o_d_parter o_d_missed o_q_member o_q_part o_s_loose o_f_moment o_s_ways o_f_ahead o_f_alike o_f_rest o_f_share o_f_fits ft => ?_)
    rw [zbR]
    obtain ⟨h1, h2⟩ := iN_c (by omega) h
    by_cases z : fitN g n m kd oa ob = 0
    · rw [if_neg (by simpa using z)]
      rw [if_pos z] at hQ
      refine t_refN ?_
      apply hQ
      exact Or.inr ft
    · rw [if_pos (by simpa using z)]
      rw [if_neg z] at hQ
      refine ⟨by rw [h2]; exact vi (by omega) (by omega), ?_⟩
      rw [(ft.2.2.2.1 z).2 _ h1]
      apply hQ
      exact Or.inr ft
  · rw [if_neg h]
    rw [if_neg h] at hQ
    refine t_refB ?_
    apply hQ
    exact hf
theorem d_moments {g : Nat → Int32} {n m : Nat} {kd oa ob : Nat → Nat} {isFound h_things h_sayings d_count d_countOfHistory d_aparts d_broken q_members q_count s_sets f_moments : Int32} {h_whose h_kind h_a h_b refused d_sooner d_later d_strict d_maker d_one d_other d_parter d_missed q_member q_part s_loose f_moment : Nat → Int32} {s_ways f_ahead f_alike f_rest f_share : Nat → Int64} {f_fits : Int64} {Q : Int32 → Int32 → (Nat → Int32) → Int32 → Int32 → Int32 → Int32 → (Nat → Int32) → (Nat → Int32) → (Nat → Int32) → (Nat → Int32) → (Nat → Int32) → (Nat → Int32) → (Nat → Int32) → (Nat → Int32) → Int32 → Int32 → (Nat → Int32) → (Nat → Int32) → Int32 → (Nat → Int32) → (Nat → Int64) → Int64 → Int32 → (Nat → Int32) → (Nat → Int64) → (Nat → Int64) → (Nat → Int64) → (Nat → Int64) → Prop}
    (hb : HB g n m kd oa ob)
    (hh : HC g n m h_things h_sayings h_whose h_kind h_a h_b)
    (hf : FD g n m kd oa ob isFound s_sets s_loose s_ways f_fits f_moments f_moment f_ahead f_alike)
    (hQ : ∀ (o_isFound o_d_count o_d_countOfHistory o_d_aparts o_d_broken o_q_members o_q_count o_s_sets o_f_moments : Int32) (o_d_sooner o_d_later o_d_strict o_d_maker o_d_one o_d_other o_d_parter o_d_missed o_q_member o_q_part o_s_loose o_f_moment : (Nat → Int32)) (o_s_ways o_f_ahead o_f_alike o_f_rest o_f_share : (Nat → Int64)) (o_f_fits : Int64), FD g n m kd oa ob o_isFound o_s_sets o_s_loose o_s_ways o_f_fits o_f_moments o_f_moment o_f_ahead o_f_alike → Q (sp_moments g n m kd oa ob refused).1 o_isFound ((sp_moments g n m kd oa ob refused).2) o_d_count o_d_countOfHistory o_d_aparts o_d_broken o_d_sooner o_d_later o_d_strict o_d_maker o_d_one o_d_other o_d_parter o_d_missed o_q_members o_q_count o_q_member o_q_part o_s_sets o_s_loose o_s_ways o_f_fits o_f_moments o_f_moment o_f_ahead o_f_alike o_f_rest o_f_share) : wp_X10_moments isFound h_things h_sayings h_whose h_kind h_a h_b refused d_count d_countOfHistory d_aparts d_broken d_sooner d_later d_strict d_maker d_one d_other d_parter d_missed q_members q_count q_member q_part s_sets s_loose s_ways f_fits f_moments f_moment f_ahead f_alike f_rest f_share Q := by
  have hn := hb.2.2.1
  have et := hh.1
  unfold wp_X10_moments
  unfold sp_moments at hQ
  refine d_hasFit hb hh hf (fun o_isFound o_d_count o_d_countOfHistory o_d_aparts o_d_broken o_q_members o_q_count o_s_sets o_f_moments o_d_sooner o_d_later o_d_strict o_d_maker o_d_one o_d_other o_d_parter o_d_missed o_q_member o_q_part o_s_loose o_f_moment o_s_ways o_f_ahead o_f_alike o_f_rest o_f_share o_f_fits ft => ?_)
  rw [zbR]
  by_cases z : fitN g n m kd oa ob = 0
  · rw [if_neg (by simpa using z)]
    rw [if_pos z] at hQ
    refine t_refN ?_
    apply hQ
    exact Or.inr ft
  · rw [if_pos (by simpa using z)]
    rw [if_neg z, ← (ft.2.2.2.1 z).1] at hQ
    apply hQ
    exact Or.inr ft
theorem d_last {g : Nat → Int32} {n m : Nat} {kd oa ob : Nat → Nat} {p1 isFound h_things h_sayings d_count d_countOfHistory d_aparts d_broken q_members q_count s_sets f_moments : Int32} {h_whose h_kind h_a h_b refused d_sooner d_later d_strict d_maker d_one d_other d_parter d_missed q_member q_part s_loose f_moment : Nat → Int32} {s_ways f_ahead f_alike f_rest f_share : Nat → Int64} {f_fits : Int64} {Q : Int32 → Int32 → (Nat → Int32) → Int32 → Int32 → Int32 → Int32 → (Nat → Int32) → (Nat → Int32) → (Nat → Int32) → (Nat → Int32) → (Nat → Int32) → (Nat → Int32) → (Nat → Int32) → (Nat → Int32) → Int32 → Int32 → (Nat → Int32) → (Nat → Int32) → Int32 → (Nat → Int32) → (Nat → Int64) → Int64 → Int32 → (Nat → Int32) → (Nat → Int64) → (Nat → Int64) → (Nat → Int64) → (Nat → Int64) → Prop}
    (hb : HB g n m kd oa ob)
    (hh : HC g n m h_things h_sayings h_whose h_kind h_a h_b)
    (hf : FD g n m kd oa ob isFound s_sets s_loose s_ways f_fits f_moments f_moment f_ahead f_alike)
    (hQ : ∀ (o_isFound o_d_count o_d_countOfHistory o_d_aparts o_d_broken o_q_members o_q_count o_s_sets o_f_moments : Int32) (o_d_sooner o_d_later o_d_strict o_d_maker o_d_one o_d_other o_d_parter o_d_missed o_q_member o_q_part o_s_loose o_f_moment : (Nat → Int32)) (o_s_ways o_f_ahead o_f_alike o_f_rest o_f_share : (Nat → Int64)) (o_f_fits : Int64), FD g n m kd oa ob o_isFound o_s_sets o_s_loose o_s_ways o_f_fits o_f_moments o_f_moment o_f_ahead o_f_alike → Q (sp_last g n m kd oa ob p1 refused).1 o_isFound ((sp_last g n m kd oa ob p1 refused).2) o_d_count o_d_countOfHistory o_d_aparts o_d_broken o_d_sooner o_d_later o_d_strict o_d_maker o_d_one o_d_other o_d_parter o_d_missed o_q_members o_q_count o_q_member o_q_part o_s_sets o_s_loose o_s_ways o_f_fits o_f_moments o_f_moment o_f_ahead o_f_alike o_f_rest o_f_share) : wp_X10_last p1 isFound h_things h_sayings h_whose h_kind h_a h_b refused d_count d_countOfHistory d_aparts d_broken d_sooner d_later d_strict d_maker d_one d_other d_parter d_missed q_members q_count q_member q_part s_sets s_loose s_ways f_fits f_moments f_moment f_ahead f_alike f_rest f_share Q := by
  have hn := hb.2.2.1
  have et := hh.1
  unfold wp_X10_last
  unfold sp_last at hQ
  refine d_hasFit hb hh hf (fun o_isFound o_d_count o_d_countOfHistory o_d_aparts o_d_broken o_q_members o_q_count o_s_sets o_f_moments o_d_sooner o_d_later o_d_strict o_d_maker o_d_one o_d_other o_d_parter o_d_missed o_q_member o_q_part o_s_loose o_f_moment o_s_ways o_f_ahead o_f_alike o_f_rest o_f_share o_f_fits ft => ?_)
  rw [zbR]
  by_cases z : fitN g n m kd oa ob = 0
  · rw [if_neg (by simpa using z)]
    rw [if_pos z] at hQ
    refine t_refN ?_
    apply hQ
    exact Or.inr ft
  · rw [if_pos (by simpa using z)]
    rw [if_neg z] at hQ
    have z' : wB (ed (KB g n m kd oa ob) n) (2 ^ (2 * n)) 0 ≠ 0 := z
    have em : o_f_moments = nI (mos n (KB g n m kd oa ob)) := (ft.2.2.2.1 z').1
    have h12 : mos n (KB g n m kd oa ob) ≤ 12 := (mos_ok hn z').1
    have h31 : mos n (KB g n m kd oa ob) < 2 ^ 31 := Nat.lt_of_le_of_lt h12 (by decide)
    unfold wp_X10_last_b31
    refine br_c (fun z1 => ?_) (fun z1 => br_c (fun z2 => ?_) (fun z2 => ?_))
    · rw [iN_lo h31 z1] at hQ
      refine t_refB ?_
      apply hQ
      exact Or.inr ft
    · have z3 : ¬ nI (mos n (KB g n m kd oa ob)) ≤ p1 := em ▸ (Int32.not_le.mpr z2)
      have h : iN p1 (mos n (KB g n m kd oa ob)) = true := iN_in h31 z1 z3
      rw [h] at hQ
      obtain ⟨h1, h2⟩ := iN_c h31 h
      generalize p1.toNatClampNeg = p at h1 h2 hQ
      subst h2
      rw [et]
      refine d_lasting hn z' h1 (ft.2.2.2.1 z').2 ?_
      apply hQ
      exact Or.inr ft
    · have q2 : iN p1 (mos n (KB g n m kd oa ob)) = false := iN_hi h31 (em ▸ (Int32.not_lt.mp z2))
      rw [q2] at hQ
      refine t_refB ?_
      apply hQ
      exact Or.inr ft
theorem d_between {g : Nat → Int32} {n m : Nat} {kd oa ob : Nat → Nat} {p1 p2 isFound h_things h_sayings d_count d_countOfHistory d_aparts d_broken q_members q_count s_sets f_moments : Int32} {h_whose h_kind h_a h_b refused d_sooner d_later d_strict d_maker d_one d_other d_parter d_missed q_member q_part s_loose f_moment : Nat → Int32} {s_ways f_ahead f_alike f_rest f_share : Nat → Int64} {f_fits : Int64} {Q : Int32 → Int32 → (Nat → Int32) → Int32 → Int32 → Int32 → Int32 → (Nat → Int32) → (Nat → Int32) → (Nat → Int32) → (Nat → Int32) → (Nat → Int32) → (Nat → Int32) → (Nat → Int32) → (Nat → Int32) → Int32 → Int32 → (Nat → Int32) → (Nat → Int32) → Int32 → (Nat → Int32) → (Nat → Int64) → Int64 → Int32 → (Nat → Int32) → (Nat → Int64) → (Nat → Int64) → (Nat → Int64) → (Nat → Int64) → Prop}
    (hb : HB g n m kd oa ob)
    (hh : HC g n m h_things h_sayings h_whose h_kind h_a h_b)
    (hf : FD g n m kd oa ob isFound s_sets s_loose s_ways f_fits f_moments f_moment f_ahead f_alike)
    (hQ : ∀ (o_isFound o_d_count o_d_countOfHistory o_d_aparts o_d_broken o_q_members o_q_count o_s_sets o_f_moments : Int32) (o_d_sooner o_d_later o_d_strict o_d_maker o_d_one o_d_other o_d_parter o_d_missed o_q_member o_q_part o_s_loose o_f_moment : (Nat → Int32)) (o_s_ways o_f_ahead o_f_alike o_f_rest o_f_share : (Nat → Int64)) (o_f_fits : Int64), FD g n m kd oa ob o_isFound o_s_sets o_s_loose o_s_ways o_f_fits o_f_moments o_f_moment o_f_ahead o_f_alike → Q (sp_between g n m kd oa ob p1 p2 refused).1 o_isFound ((sp_between g n m kd oa ob p1 p2 refused).2) o_d_count o_d_countOfHistory o_d_aparts o_d_broken o_d_sooner o_d_later o_d_strict o_d_maker o_d_one o_d_other o_d_parter o_d_missed o_q_members o_q_count o_q_member o_q_part o_s_sets o_s_loose o_s_ways o_f_fits o_f_moments o_f_moment o_f_ahead o_f_alike o_f_rest o_f_share) : wp_X10_between p1 p2 isFound h_things h_sayings h_whose h_kind h_a h_b refused d_count d_countOfHistory d_aparts d_broken d_sooner d_later d_strict d_maker d_one d_other d_parter d_missed q_members q_count q_member q_part s_sets s_loose s_ways f_fits f_moments f_moment f_ahead f_alike f_rest f_share Q := by
  have hn := hb.2.2.1
  have et := hh.1
  unfold wp_X10_between
  unfold wp_X10_between_b21
  unfold sp_between at hQ
  rw [et]
  refine t_isEnd hn ?_
  rw [zbR]
  by_cases h : iN p1 (2 * n) = true
  case neg =>
    rw [if_neg h]
    rw [Bool.eq_false_iff.mpr h] at hQ
    refine t_refB ?_
    apply hQ
    exact hf
  rw [if_pos h]
  refine t_isEnd hn ?_
  rw [zbR]
  by_cases h' : iN p2 (2 * n) = true
  case neg =>
    rw [if_neg h']
    rw [h, Bool.eq_false_iff.mpr h'] at hQ
    refine t_refB ?_
    apply hQ
    exact hf
  rw [if_pos h']
  rw [h, h'] at hQ
  refine br_c (fun z0 => ?_) (fun z0 => ?_)
  · rw [decide_eq_true z0] at hQ
    refine t_refB ?_
    apply hQ
    exact hf
  · rw [decide_eq_false z0] at hQ
    rw [← et]
    refine d_hasFit hb hh hf (fun o_isFound o_d_count o_d_countOfHistory o_d_aparts o_d_broken o_q_members o_q_count o_s_sets o_f_moments o_d_sooner o_d_later o_d_strict o_d_maker o_d_one o_d_other o_d_parter o_d_missed o_q_member o_q_part o_s_loose o_f_moment o_s_ways o_f_ahead o_f_alike o_f_rest o_f_share o_f_fits ft => ?_)
    rw [zbR]
    obtain ⟨h1, h2⟩ := iN_c (by omega) h
    obtain ⟨h3, h4⟩ := iN_c (by omega) h'
    have hPA : PA n (KB g n m kd oa ob) o_f_ahead o_f_alike := fun x y hx hy => ⟨ft.2.2.2.2.1 x y (by omega) hy, fun hxy => ft.2.2.2.2.2 x y hxy (by omega)⟩
    by_cases z : fitN g n m kd oa ob = 0
    · rw [if_neg (by simpa using z)]
      rw [if_pos z] at hQ
      refine t_refN ?_
      apply hQ
      exact Or.inr ft
    · rw [if_pos (by simpa using z)]
      rw [if_neg z] at hQ
      generalize p1.toNatClampNeg = x at h1 h2 hQ
      generalize p2.toNatClampNeg = y at h3 h4 hQ
      subst h2 h4
      refine s_relation hn (BD_ok hn) hPA h1 h3 (fun q => z0 (by rw [q])) ?_
      apply hQ
      exact Or.inr ft
theorem d_sure {g : Nat → Int32} {n m : Nat} {kd oa ob : Nat → Nat} {isFound h_things h_sayings d_count d_countOfHistory d_aparts d_broken q_members q_count s_sets f_moments : Int32} {h_whose h_kind h_a h_b refused d_sooner d_later d_strict d_maker d_one d_other d_parter d_missed q_member q_part s_loose f_moment : Nat → Int32} {s_ways f_ahead f_alike f_rest f_share : Nat → Int64} {f_fits : Int64} {Q : Int32 → Int32 → (Nat → Int32) → Int32 → Int32 → Int32 → Int32 → (Nat → Int32) → (Nat → Int32) → (Nat → Int32) → (Nat → Int32) → (Nat → Int32) → (Nat → Int32) → (Nat → Int32) → (Nat → Int32) → Int32 → Int32 → (Nat → Int32) → (Nat → Int32) → Int32 → (Nat → Int32) → (Nat → Int64) → Int64 → Int32 → (Nat → Int32) → (Nat → Int64) → (Nat → Int64) → (Nat → Int64) → (Nat → Int64) → Prop}
    (hb : HB g n m kd oa ob)
    (hh : HC g n m h_things h_sayings h_whose h_kind h_a h_b)
    (hf : FD g n m kd oa ob isFound s_sets s_loose s_ways f_fits f_moments f_moment f_ahead f_alike)
    (hQ : ∀ (o_isFound o_d_count o_d_countOfHistory o_d_aparts o_d_broken o_q_members o_q_count o_s_sets o_f_moments : Int32) (o_d_sooner o_d_later o_d_strict o_d_maker o_d_one o_d_other o_d_parter o_d_missed o_q_member o_q_part o_s_loose o_f_moment : (Nat → Int32)) (o_s_ways o_f_ahead o_f_alike o_f_rest o_f_share : (Nat → Int64)) (o_f_fits : Int64), FD g n m kd oa ob o_isFound o_s_sets o_s_loose o_s_ways o_f_fits o_f_moments o_f_moment o_f_ahead o_f_alike → Q (sp_sure g n m kd oa ob refused).1 o_isFound ((sp_sure g n m kd oa ob refused).2) o_d_count o_d_countOfHistory o_d_aparts o_d_broken o_d_sooner o_d_later o_d_strict o_d_maker o_d_one o_d_other o_d_parter o_d_missed o_q_members o_q_count o_q_member o_q_part o_s_sets o_s_loose o_s_ways o_f_fits o_f_moments o_f_moment o_f_ahead o_f_alike o_f_rest o_f_share) : wp_X10_sure isFound h_things h_sayings h_whose h_kind h_a h_b refused d_count d_countOfHistory d_aparts d_broken d_sooner d_later d_strict d_maker d_one d_other d_parter d_missed q_members q_count q_member q_part s_sets s_loose s_ways f_fits f_moments f_moment f_ahead f_alike f_rest f_share Q := by
  have hn := hb.2.2.1
  have et := hh.1
  unfold wp_X10_sure
  unfold sp_sure at hQ
  refine d_hasFit hb hh hf (fun o_isFound o_d_count o_d_countOfHistory o_d_aparts o_d_broken o_q_members o_q_count o_s_sets o_f_moments o_d_sooner o_d_later o_d_strict o_d_maker o_d_one o_d_other o_d_parter o_d_missed o_q_member o_q_part o_s_loose o_f_moment o_s_ways o_f_ahead o_f_alike o_f_rest o_f_share o_f_fits ft => ?_)
  rw [zbR]
  have hPA : PA n (KB g n m kd oa ob) o_f_ahead o_f_alike := fun x y hx hy => ⟨ft.2.2.2.2.1 x y (by omega) hy, fun hxy => ft.2.2.2.2.2 x y hxy (by omega)⟩
  by_cases z : fitN g n m kd oa ob = 0
  · rw [if_neg (by simpa using z)]
    rw [if_pos z] at hQ
    refine t_refN ?_
    apply hQ
    exact Or.inr ft
  · rw [if_pos (by simpa using z)]
    rw [if_neg z] at hQ
    rw [et, show (2 : Int32) = nI 2 from rfl, pk_mul]
    refine s_surePairs hn (BD_ok hn) hPA ?_
    apply hQ
    exact Or.inr ft
theorem d_together {g : Nat → Int32} {n m : Nat} {kd oa ob : Nat → Nat} {p1 p2 isFound h_things h_sayings d_count d_countOfHistory d_aparts d_broken q_members q_count s_sets f_moments : Int32} {h_whose h_kind h_a h_b refused d_sooner d_later d_strict d_maker d_one d_other d_parter d_missed q_member q_part s_loose f_moment : Nat → Int32} {s_ways f_ahead f_alike f_rest f_share : Nat → Int64} {f_fits : Int64} {Q : Int64 → Int32 → (Nat → Int32) → Int32 → Int32 → Int32 → Int32 → (Nat → Int32) → (Nat → Int32) → (Nat → Int32) → (Nat → Int32) → (Nat → Int32) → (Nat → Int32) → (Nat → Int32) → (Nat → Int32) → Int32 → Int32 → (Nat → Int32) → (Nat → Int32) → Int32 → (Nat → Int32) → (Nat → Int64) → Int64 → Int32 → (Nat → Int32) → (Nat → Int64) → (Nat → Int64) → (Nat → Int64) → (Nat → Int64) → Prop}
    (hb : HB g n m kd oa ob)
    (hh : HC g n m h_things h_sayings h_whose h_kind h_a h_b)
    (hf : FD g n m kd oa ob isFound s_sets s_loose s_ways f_fits f_moments f_moment f_ahead f_alike)
    (hQ : ∀ (o_isFound o_d_count o_d_countOfHistory o_d_aparts o_d_broken o_q_members o_q_count o_s_sets o_f_moments : Int32) (o_d_sooner o_d_later o_d_strict o_d_maker o_d_one o_d_other o_d_parter o_d_missed o_q_member o_q_part o_s_loose o_f_moment : (Nat → Int32)) (o_s_ways o_f_ahead o_f_alike o_f_rest o_f_share : (Nat → Int64)) (o_f_fits : Int64), FD g n m kd oa ob o_isFound o_s_sets o_s_loose o_s_ways o_f_fits o_f_moments o_f_moment o_f_ahead o_f_alike → Q (sp_together g n m kd oa ob p1 p2 refused).1 o_isFound ((sp_together g n m kd oa ob p1 p2 refused).2) o_d_count o_d_countOfHistory o_d_aparts o_d_broken o_d_sooner o_d_later o_d_strict o_d_maker o_d_one o_d_other o_d_parter o_d_missed o_q_members o_q_count o_q_member o_q_part o_s_sets o_s_loose o_s_ways o_f_fits o_f_moments o_f_moment o_f_ahead o_f_alike o_f_rest o_f_share) : wp_X10_together p1 p2 isFound h_things h_sayings h_whose h_kind h_a h_b refused d_count d_countOfHistory d_aparts d_broken d_sooner d_later d_strict d_maker d_one d_other d_parter d_missed q_members q_count q_member q_part s_sets s_loose s_ways f_fits f_moments f_moment f_ahead f_alike f_rest f_share Q := by
  have hn := hb.2.2.1
  have et := hh.1
  unfold wp_X10_together
  unfold wp_X10_areTwoThings
  unfold sp_together at hQ
  rw [et]
  refine t_isThing hn ?_
  rw [zbR]
  by_cases h : iN p1 n = true
  case neg =>
    rw [if_neg h]
    rw [Bool.eq_false_iff.mpr h] at hQ
    refine br_t rfl (t_refB ?_)
    apply hQ
    exact hf
  rw [if_pos h]
  refine t_isThing hn ?_
  rw [zbR]
  by_cases h' : iN p2 n = true
  case neg =>
    rw [if_neg h']
    rw [h, Bool.eq_false_iff.mpr h'] at hQ
    refine br_t rfl (t_refB ?_)
    apply hQ
    exact hf
  rw [if_pos h']
  rw [h, h'] at hQ
  refine br_c (fun z0 => ?_) (fun z0 => ?_)
  · rw [decide_eq_true z0] at hQ
    refine br_t rfl (t_refB ?_)
    apply hQ
    exact hf
  · rw [decide_eq_false z0] at hQ
    rw [← et]
    refine br_f (by decide) (d_find hb hh hf (fun o_isFound o_d_count o_d_countOfHistory o_d_aparts o_d_broken o_q_members o_q_count o_s_sets o_f_moments o_d_sooner o_d_later o_d_strict o_d_maker o_d_one o_d_other o_d_parter o_d_missed o_q_member o_q_part o_s_loose o_f_moment o_s_ways o_f_ahead o_f_alike o_f_rest o_f_share o_f_fits ft => ?_))
    obtain ⟨h1, h2⟩ := iN_c (by omega) h
    obtain ⟨h3, h4⟩ := iN_c (by omega) h'
    have hPA : PA n (KB g n m kd oa ob) o_f_ahead o_f_alike := fun x y hx hy => ⟨ft.2.2.2.2.1 x y (by omega) hy, fun hxy => ft.2.2.2.2.2 x y hxy (by omega)⟩
    generalize p1.toNatClampNeg = x at h1 h2 hQ
    generalize p2.toNatClampNeg = y at h3 h4 hQ
    subst h2 h4
    refine s_overlaps hn hPA h1 h3 (fun q => z0 (by rw [q])) ?_
    rw [show o_f_fits = lN (fitN g n m kd oa ob) from ft.2.2.1]
    have := hQ o_isFound o_d_count o_d_countOfHistory o_d_aparts o_d_broken o_q_members o_q_count o_s_sets o_f_moments o_d_sooner o_d_later o_d_strict o_d_maker o_d_one o_d_other o_d_parter o_d_missed o_q_member o_q_part o_s_loose o_f_moment o_s_ways o_f_ahead o_f_alike o_f_rest o_f_share o_f_fits (Or.inr ft)
    rw [show o_f_fits = lN (fitN g n m kd oa ob) from ft.2.2.1] at this
    exact this
theorem d_ask {g : Nat → Int32} {n m : Nat} {kd oa ob : Nat → Nat} {p1 isFound h_things h_sayings d_count d_countOfHistory d_aparts d_broken q_members q_count s_sets f_moments : Int32} {h_whose h_kind h_a h_b refused d_sooner d_later d_strict d_maker d_one d_other d_parter d_missed q_member q_part s_loose f_moment : Nat → Int32} {s_ways f_ahead f_alike f_rest f_share : Nat → Int64} {f_fits : Int64} {Q : Int64 → Int32 → (Nat → Int32) → Int32 → Int32 → Int32 → Int32 → (Nat → Int32) → (Nat → Int32) → (Nat → Int32) → (Nat → Int32) → (Nat → Int32) → (Nat → Int32) → (Nat → Int32) → (Nat → Int32) → Int32 → Int32 → (Nat → Int32) → (Nat → Int32) → Int32 → (Nat → Int32) → (Nat → Int64) → Int64 → Int32 → (Nat → Int32) → (Nat → Int64) → (Nat → Int64) → (Nat → Int64) → (Nat → Int64) → Prop}
    (hb : HB g n m kd oa ob)
    (hh : HC g n m h_things h_sayings h_whose h_kind h_a h_b)
    (hf : FD g n m kd oa ob isFound s_sets s_loose s_ways f_fits f_moments f_moment f_ahead f_alike)
    (hQ : ∀ (o_isFound o_d_count o_d_countOfHistory o_d_aparts o_d_broken o_q_members o_q_count o_s_sets o_f_moments : Int32) (o_d_sooner o_d_later o_d_strict o_d_maker o_d_one o_d_other o_d_parter o_d_missed o_q_member o_q_part o_s_loose o_f_moment : (Nat → Int32)) (o_s_ways o_f_ahead o_f_alike o_f_rest o_f_share : (Nat → Int64)) (o_f_fits : Int64), FD g n m kd oa ob o_isFound o_s_sets o_s_loose o_s_ways o_f_fits o_f_moments o_f_moment o_f_ahead o_f_alike → Q (sp_ask g n m kd oa ob p1 refused).1 o_isFound ((sp_ask g n m kd oa ob p1 refused).2) o_d_count o_d_countOfHistory o_d_aparts o_d_broken o_d_sooner o_d_later o_d_strict o_d_maker o_d_one o_d_other o_d_parter o_d_missed o_q_members o_q_count o_q_member o_q_part o_s_sets o_s_loose o_s_ways o_f_fits o_f_moments o_f_moment o_f_ahead o_f_alike o_f_rest o_f_share) : wp_X10_ask p1 isFound h_things h_sayings h_whose h_kind h_a h_b refused d_count d_countOfHistory d_aparts d_broken d_sooner d_later d_strict d_maker d_one d_other d_parter d_missed q_members q_count q_member q_part s_sets s_loose s_ways f_fits f_moments f_moment f_ahead f_alike f_rest f_share Q := by
  have hn := hb.2.2.1
  have et := hh.1
  unfold wp_X10_ask
  unfold sp_ask at hQ
  refine t_isEither ?_
  rw [zbR]
  by_cases h : iN p1 2 = true
  case neg =>
    rw [if_neg h]
    rw [if_neg h] at hQ
    refine t_refB ?_
    apply hQ
    exact hf
  rw [if_pos h]
  rw [if_pos h] at hQ
  refine d_hasFit hb hh hf (fun o_isFound o_d_count o_d_countOfHistory o_d_aparts o_d_broken o_q_members o_q_count o_s_sets o_f_moments o_d_sooner o_d_later o_d_strict o_d_maker o_d_one o_d_other o_d_parter o_d_missed o_q_member o_q_part o_s_loose o_f_moment o_s_ways o_f_ahead o_f_alike o_f_rest o_f_share o_f_fits ft => ?_)
  rw [zbR]
  have hPA : PA n (KB g n m kd oa ob) o_f_ahead o_f_alike := fun x y hx hy => ⟨ft.2.2.2.2.1 x y (by omega) hy, fun hxy => ft.2.2.2.2.2 x y hxy (by omega)⟩
  by_cases z : fitN g n m kd oa ob = 0
  · rw [if_neg (by simpa using z)]
    rw [if_pos z] at hQ
    refine t_refN ?_
    apply hQ
    exact Or.inr ft
  · rw [if_pos (by simpa using z)]
    rw [if_neg z] at hQ
    obtain ⟨h1, h2⟩ := iN_c (by omega) h
    generalize p1.toNatClampNeg = x at h1 h2 hQ
    subst h2
    rw [et, show (2 : Int32) = nI 2 from rfl, pk_mul]
    refine s_question hn (BD_ok hn) hPA h1 ?_
    apply hQ
    exact Or.inr ft
theorem d_clash {g : Nat → Int32} {n m : Nat} {kd oa ob : Nat → Nat} {isChosen h_things h_sayings d_count d_countOfHistory d_aparts d_broken q_members q_count ch_end : Int32} {h_whose h_kind h_a h_b d_sooner d_later d_strict d_maker d_one d_other d_parter d_missed q_member q_part ch_broken : Nat → Int32} {ch_open : Nat → Int64} {Q : Int32 → Int32 → Int32 → Int32 → Int32 → Int32 → (Nat → Int32) → (Nat → Int32) → (Nat → Int32) → (Nat → Int32) → (Nat → Int32) → (Nat → Int32) → (Nat → Int32) → (Nat → Int32) → Int32 → Int32 → (Nat → Int32) → (Nat → Int32) → Int32 → (Nat → Int64) → (Nat → Int32) → Prop}
    (hb : HB g n m kd oa ob)
    (hh : HC g n m h_things h_sayings h_whose h_kind h_a h_b)
    (hf : CD g n m kd oa ob isChosen ch_end ch_open)
    (hQ : ∀ (o_isChosen o_d_count o_d_countOfHistory o_d_aparts o_d_broken o_q_members o_q_count o_ch_end : Int32) (o_d_sooner o_d_later o_d_strict o_d_maker o_d_one o_d_other o_d_parter o_d_missed o_q_member o_q_part o_ch_broken : (Nat → Int32)) (o_ch_open : (Nat → Int64)), CD g n m kd oa ob o_isChosen o_ch_end o_ch_open → Q (clI (clA (fit g n m kd oa ob) (2 ^ m))) o_isChosen o_d_count o_d_countOfHistory o_d_aparts o_d_broken o_d_sooner o_d_later o_d_strict o_d_maker o_d_one o_d_other o_d_parter o_d_missed o_q_members o_q_count o_q_member o_q_part o_ch_end o_ch_open o_ch_broken) : wp_X10_clash isChosen h_things h_sayings h_whose h_kind h_a h_b d_count d_countOfHistory d_aparts d_broken d_sooner d_later d_strict d_maker d_one d_other d_parter d_missed q_members q_count q_member q_part ch_end ch_open ch_broken Q := by
  have hn := hb.2.2.1
  have et := hh.1
  unfold wp_X10_clash
  refine d_choose hb hh hf (fun o_isChosen o_d_count o_d_countOfHistory o_d_aparts o_d_broken o_q_members o_q_count o_ch_end o_d_sooner o_d_later o_d_strict o_d_maker o_d_one o_d_other o_d_parter o_d_missed o_q_member o_q_part o_ch_broken o_ch_open ft => ?_)
  rw [hh.2.1]
  refine s_fewest hn hb.2.2.2.1 ft ?_
  apply hQ
  exact Or.inr ft
theorem d_drop {g : Nat → Int32} {n m : Nat} {kd oa ob : Nat → Nat} {isChosen h_things h_sayings d_count d_countOfHistory d_aparts d_broken q_members q_count ch_end : Int32} {h_whose h_kind h_a h_b d_sooner d_later d_strict d_maker d_one d_other d_parter d_missed q_member q_part ch_broken : Nat → Int32} {ch_open : Nat → Int64} {Q : Int32 → Int32 → Int32 → Int32 → Int32 → Int32 → (Nat → Int32) → (Nat → Int32) → (Nat → Int32) → (Nat → Int32) → (Nat → Int32) → (Nat → Int32) → (Nat → Int32) → (Nat → Int32) → Int32 → Int32 → (Nat → Int32) → (Nat → Int32) → Int32 → (Nat → Int64) → (Nat → Int32) → Prop}
    (hb : HB g n m kd oa ob)
    (hh : HC g n m h_things h_sayings h_whose h_kind h_a h_b)
    (hf : CD g n m kd oa ob isChosen ch_end ch_open)
    (hQ : ∀ (o_isChosen o_d_count o_d_countOfHistory o_d_aparts o_d_broken o_q_members o_q_count o_ch_end : Int32) (o_d_sooner o_d_later o_d_strict o_d_maker o_d_one o_d_other o_d_parter o_d_missed o_q_member o_q_part o_ch_broken : (Nat → Int32)) (o_ch_open : (Nat → Int64)), CD g n m kd oa ob o_isChosen o_ch_end o_ch_open → Q (nI (drA (fit g n m kd oa ob) (2 ^ m - 1) (2 ^ m - 1))) o_isChosen o_d_count o_d_countOfHistory o_d_aparts o_d_broken o_d_sooner o_d_later o_d_strict o_d_maker o_d_one o_d_other o_d_parter o_d_missed o_q_members o_q_count o_q_member o_q_part o_ch_end o_ch_open o_ch_broken) : wp_X10_drop isChosen h_things h_sayings h_whose h_kind h_a h_b d_count d_countOfHistory d_aparts d_broken d_sooner d_later d_strict d_maker d_one d_other d_parter d_missed q_members q_count q_member q_part ch_end ch_open ch_broken Q := by
  have hn := hb.2.2.1
  have et := hh.1
  unfold wp_X10_drop
  refine d_choose hb hh hf (fun o_isChosen o_d_count o_d_countOfHistory o_d_aparts o_d_broken o_q_members o_q_count o_ch_end o_d_sooner o_d_later o_d_strict o_d_maker o_d_one o_d_other o_d_parter o_d_missed o_q_member o_q_part o_ch_broken o_ch_open ft => ?_)
  rw [hh.2.1]
  refine s_toDrop hn hb.2.2.2.1 ft ?_
  apply hQ
  exact Or.inr ft
theorem d_word {g : Nat → Int32} {n m : Nat} {kd oa ob : Nat → Nat} {p1 isChosen h_things h_sayings d_count d_countOfHistory d_aparts d_broken q_members q_count ch_end : Int32} {h_whose h_kind h_a h_b h_by refused d_sooner d_later d_strict d_maker d_one d_other d_parter d_missed q_member q_part ch_broken : Nat → Int32} {ch_open : Nat → Int64} {Q : Int32 → Int32 → (Nat → Int32) → Int32 → Int32 → Int32 → Int32 → (Nat → Int32) → (Nat → Int32) → (Nat → Int32) → (Nat → Int32) → (Nat → Int32) → (Nat → Int32) → (Nat → Int32) → (Nat → Int32) → Int32 → Int32 → (Nat → Int32) → (Nat → Int32) → Int32 → (Nat → Int64) → (Nat → Int32) → Prop}
    (hb : HB g n m kd oa ob)
    (hh : HC g n m h_things h_sayings h_whose h_kind h_a h_b)
    (hf : CD g n m kd oa ob isChosen ch_end ch_open)
    (hy : ∀ k, k < m → h_by k = g (38 + k))
    (hQ : ∀ (o_isChosen o_d_count o_d_countOfHistory o_d_aparts o_d_broken o_q_members o_q_count o_ch_end : Int32) (o_d_sooner o_d_later o_d_strict o_d_maker o_d_one o_d_other o_d_parter o_d_missed o_q_member o_q_part o_ch_broken : (Nat → Int32)) (o_ch_open : (Nat → Int64)), CD g n m kd oa ob o_isChosen o_ch_end o_ch_open → Q (sp_word g n m kd oa ob p1 refused).1 o_isChosen ((sp_word g n m kd oa ob p1 refused).2) o_d_count o_d_countOfHistory o_d_aparts o_d_broken o_d_sooner o_d_later o_d_strict o_d_maker o_d_one o_d_other o_d_parter o_d_missed o_q_members o_q_count o_q_member o_q_part o_ch_end o_ch_open o_ch_broken) : wp_X10_word p1 isChosen h_things h_sayings h_whose h_kind h_a h_b h_by refused d_count d_countOfHistory d_aparts d_broken d_sooner d_later d_strict d_maker d_one d_other d_parter d_missed q_members q_count q_member q_part ch_end ch_open ch_broken Q := by
  have hn := hb.2.2.1
  have et := hh.1
  unfold wp_X10_word
  unfold sp_word at hQ
  refine t_isPerson ?_
  rw [zbR]
  by_cases h : iN p1 4 = true
  case neg =>
    rw [if_neg h]
    rw [if_neg h] at hQ
    refine t_refB ?_
    apply hQ
    exact hf
  rw [if_pos h]
  rw [if_pos h] at hQ
  refine d_choose hb hh hf (fun o_isChosen o_d_count o_d_countOfHistory o_d_aparts o_d_broken o_q_members o_q_count o_ch_end o_d_sooner o_d_later o_d_strict o_d_maker o_d_one o_d_other o_d_parter o_d_missed o_q_member o_q_part o_ch_broken o_ch_open ft => ?_)
  have hm := hb.2.2.2.1
  have hl : lo (fun k => !decide (g (38 + k) = p1)) m < 256 := Nat.lt_of_lt_of_le (lo_lt _ m) (show 2 ^ m ≤ 2 ^ 8 from Nat.pow_le_pow_right (by decide) (by omega))
  rw [hh.2.1]
  refine d_notBy hm hy (s_can hn ft hl ?_)
  rw [zbR]
  split
  · rename_i q
    rw [q] at hQ
    apply hQ
    exact Or.inr ft
  · rename_i q
    rw [Bool.eq_false_iff.mpr q] at hQ
    apply hQ
    exact Or.inr ft
theorem d_against {g : Nat → Int32} {n m : Nat} {kd oa ob : Nat → Nat} {isChosen h_things h_sayings d_count d_countOfHistory d_aparts d_broken q_members q_count ch_end : Int32} {h_whose h_kind h_a h_b h_by d_sooner d_later d_strict d_maker d_one d_other d_parter d_missed q_member q_part ch_broken : Nat → Int32} {ch_open : Nat → Int64} {Q : Int32 → Int32 → Int32 → Int32 → Int32 → Int32 → (Nat → Int32) → (Nat → Int32) → (Nat → Int32) → (Nat → Int32) → (Nat → Int32) → (Nat → Int32) → (Nat → Int32) → (Nat → Int32) → Int32 → Int32 → (Nat → Int32) → (Nat → Int32) → Int32 → (Nat → Int64) → (Nat → Int32) → Prop}
    (hb : HB g n m kd oa ob)
    (hh : HC g n m h_things h_sayings h_whose h_kind h_a h_b)
    (hf : CD g n m kd oa ob isChosen ch_end ch_open)
    (hy : ∀ k, k < m → h_by k = g (38 + k))
    (hQ : ∀ (o_isChosen o_d_count o_d_countOfHistory o_d_aparts o_d_broken o_q_members o_q_count o_ch_end : Int32) (o_d_sooner o_d_later o_d_strict o_d_maker o_d_one o_d_other o_d_parter o_d_missed o_q_member o_q_part o_ch_broken : (Nat → Int32)) (o_ch_open : (Nat → Int64)), CD g n m kd oa ob o_isChosen o_ch_end o_ch_open → Q (nI (agn g n m kd oa ob 4)) o_isChosen o_d_count o_d_countOfHistory o_d_aparts o_d_broken o_d_sooner o_d_later o_d_strict o_d_maker o_d_one o_d_other o_d_parter o_d_missed o_q_members o_q_count o_q_member o_q_part o_ch_end o_ch_open o_ch_broken) : wp_X10_against isChosen h_things h_sayings h_whose h_kind h_a h_b h_by d_count d_countOfHistory d_aparts d_broken d_sooner d_later d_strict d_maker d_one d_other d_parter d_missed q_members q_count q_member q_part ch_end ch_open ch_broken Q := by
  have hn := hb.2.2.1
  have et := hh.1
  unfold wp_X10_against
  refine d_choose hb hh hf (fun o_isChosen o_d_count o_d_countOfHistory o_d_aparts o_d_broken o_q_members o_q_count o_ch_end o_d_sooner o_d_later o_d_strict o_d_maker o_d_one o_d_other o_d_parter o_d_missed o_q_member o_q_part o_ch_broken o_ch_open ft => ?_)
  have hm := hb.2.2.2.1
  have main : ∀ (d p : Nat), p + d = 4 → wp_X10_against_b8 Q h_sayings h_by (d + 1) (nI (agn g n m kd oa ob p)) (nI p) o_isChosen o_d_count o_d_countOfHistory o_d_aparts o_d_broken o_d_sooner o_d_later o_d_strict o_d_maker o_d_one o_d_other o_d_parter o_d_missed o_q_members o_q_count o_q_member o_q_part o_ch_end o_ch_open o_ch_broken := by
    intro d
    induction d with
    | zero =>
      intro p hp
      obtain rfl : p = 4 := by omega
      unfold wp_X10_against_b8
      refine br_t (nI_le (a := 4) (by omega) (by omega)) ?_
      apply hQ
      exact Or.inr ft
    | succ d ih =>
      intro p hp
      have ih := ih (p + 1) (by omega)
      have hl : lo (fun k => !decide (g (38 + k) = nI p)) m < 256 := Nat.lt_of_lt_of_le (lo_lt _ m) (show 2 ^ m ≤ 2 ^ 8 from Nat.pow_le_pow_right (by decide) (by omega))
      unfold wp_X10_against_b8 wp_X10_against_b37
      rw [hh.2.1] at ih ⊢
      refine br_f (nI_ge (b := 4) (by omega) (by omega)) (d_notBy hm hy (s_can hn ft hl ?_))
      rw [zbR, nI_1, show (31 : Int32) = nI 31 from rfl, show (1 : Int32) = nI 1 from rfl, z_one (by omega), fa_or]
      rw [agn, lo_or] at ih
      split
      · rename_i q
        rw [if_pos q] at ih
        exact nm_e ih
      · rename_i q
        rw [if_neg q, Nat.or_zero] at ih
        exact ih
  exact ⟨5, main 4 0 rfl⟩
