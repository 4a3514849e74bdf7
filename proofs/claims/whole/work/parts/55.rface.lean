/-! the reference: what FITS asks -/
theorem r_fits {g : Nat → Int32} {n m : Nat} {kd oa ob : Nat → Nat} {ahead moment counted parted partedToo : Int32} {mate : Nat → Int32} {on : Nat → Int64} {Q : Int64 → Int32 → Int32 → Int32 → Int32 → (Nat → Int32) → (Nat → Int64) → Prop}
    (hb : HB g n m kd oa ob)
    (hQ : ∀ (o_ahead o_moment o_counted o_parted : Int32) (o_mate : (Nat → Int32)) (o_on : (Nat → Int64)), Q (lN (fitN g n m kd oa ob)) o_ahead o_moment o_counted o_parted o_mate o_on) : wp_X11_fits ahead moment counted parted partedToo g mate on Q := by
  have hn := hb.2.2.1
  have hBD := BD_ok hn
  unfold wp_X11_fits
  exact s_all hb hBD (fun ca cm mate on _ _ => hQ _ _ _ _ _ _)
theorem r_first {g : Nat → Int32} {n m : Nat} {kd oa ob : Nat → Nat} {p1 ahead moment counted parted partedToo moments : Int32} {refused mate momentOf behind : Nat → Int32} {on : Nat → Int64} {Q : Int32 → Int32 → Int32 → Int32 → Int32 → Int32 → (Nat → Int32) → (Nat → Int32) → (Nat → Int64) → (Nat → Int32) → (Nat → Int32) → Prop}
    (hb : HB g n m kd oa ob)
    (hQ : ∀ (o_ahead o_moment o_counted o_parted o_moments : Int32) (o_mate o_momentOf o_behind : (Nat → Int32)) (o_on : (Nat → Int64)), Q ((sp_first g n m kd oa ob p1 refused).1) o_ahead o_moment o_counted o_parted o_moments ((sp_first g n m kd oa ob p1 refused).2) o_mate o_on o_momentOf o_behind) : wp_X11_first p1 ahead moment counted parted partedToo moments g refused mate on momentOf behind Q := by
  have hn := hb.2.2.1
  have hBD := BD_ok hn
  unfold wp_X11_first
  unfold sp_first at hQ
  refine t_rEnd hn hb.1 ?_
  rw [zbR]
  by_cases h : iN p1 (2 * n) = true
  case neg =>
    rw [if_neg h]
    rw [if_neg h] at hQ
    refine t_bad ?_
    apply hQ
  rw [if_pos h]
  rw [if_pos h] at hQ
  obtain ⟨h1, h2⟩ := iN_c (by omega) h
  refine s_lays hb hBD (fun z ca cm cc cp cs mate on mf bh => ?_) (fun z ca cm cc cp mate on mf bh k1 k2 => ?_)
  · refine br_t rfl (t_refuses (i := 1) (by omega) rfl ?_)
    rw [if_pos (show fitN g n m kd oa ob = 0 from z)] at hQ
    apply hQ
  · refine br_f (by decide) ⟨by rw [h2]; exact vi (by omega) (by omega), ?_⟩
    rw [if_neg (show ¬ fitN g n m kd oa ob = 0 from z)] at hQ
    rw [k1 _ h1]
    apply hQ
theorem r_moments {g : Nat → Int32} {n m : Nat} {kd oa ob : Nat → Nat} {ahead moment counted parted partedToo moments : Int32} {refused mate momentOf behind : Nat → Int32} {on : Nat → Int64} {Q : Int32 → Int32 → Int32 → Int32 → Int32 → Int32 → (Nat → Int32) → (Nat → Int32) → (Nat → Int64) → (Nat → Int32) → (Nat → Int32) → Prop}
    (hb : HB g n m kd oa ob)
    (hQ : ∀ (o_ahead o_moment o_counted o_parted o_moments : Int32) (o_mate o_momentOf o_behind : (Nat → Int32)) (o_on : (Nat → Int64)), Q ((sp_moments g n m kd oa ob refused).1) o_ahead o_moment o_counted o_parted o_moments ((sp_moments g n m kd oa ob refused).2) o_mate o_on o_momentOf o_behind) : wp_X11_moments ahead moment counted parted partedToo moments g refused mate on momentOf behind Q := by
  have hn := hb.2.2.1
  have hBD := BD_ok hn
  unfold wp_X11_moments
  unfold sp_moments at hQ
  refine s_lays hb hBD (fun z ca cm cc cp cs mate on mf bh => ?_) (fun z ca cm cc cp mate on mf bh k1 k2 => ?_)
  · refine br_t rfl (t_refuses (i := 1) (by omega) rfl ?_)
    rw [if_pos (show fitN g n m kd oa ob = 0 from z)] at hQ
    apply hQ
  · refine br_f (by decide) ?_
    rw [if_neg (show ¬ fitN g n m kd oa ob = 0 from z)] at hQ
    apply hQ
theorem r_lastLoop {n p : Nat} {K : Nat → Nat → Bool} {g bh mt rf mf : Nat → Int32} {on : Nat → Int64} {ca cm cc cp cs : Int32} {Q : Int32 → Int32 → Int32 → Int32 → Int32 → Int32 → (Nat → Int32) → (Nat → Int32) → (Nat → Int64) → (Nat → Int32) → (Nat → Int32) → Prop} (hn : n < 7) (h0 : g 0 = nI n) (hp : p < 12) (hN : pth n K (p + 1) < 2 ^ (2 * n)) (hb : bh p = nI (pth n K (p + 1)))
    (hQ : Q (nI (lsN n K p n)) ca cm cc cp cs rf mt on mf bh) : ∃ k, wp_X11_last_b38 Q g k (nI p) (0 : Int32) (0 : Int32) ca cm cc cp cs rf mt on mf bh := by
  have i0 : vp_in (0 : Int32) 58 := vi (k := 0) (by omega) (by omega)
  have h4 := p4_le hn
  have main : ∀ (d t : Nat), t + d = n → wp_X11_last_b38 Q g (d + 1) (nI p) (nI (lsN n K p t)) (nI t) ca cm cc cp cs rf mt on mf bh := by
    intro d
    induction d with
    | zero =>
      intro t ht
      obtain rfl : t = n := by omega
      unfold wp_X11_last_b38
      rw [show (0 : Int32).toNatClampNeg = 0 from rfl, h0]
      exact ⟨i0, br_t (nI_le (by omega) (by omega)) hQ⟩
    | succ d ih =>
      intro t ht
      have ih := ih (t + 1) (by omega)
      unfold lsN at ih ⊢
      rw [fb_ct] at ih
      unfold wp_X11_last_b38 wp_X11_last_b70
      rw [show (0 : Int32).toNatClampNeg = 0 from rfl, h0, nI_clamp (n := p) (by omega), hb, show (2 : Int32) = nI 2 from rfl, pk_mul, show (31 : Int32) = nI 31 from rfl, z_shr (by omega) (by omega), show (3 : Int32) = nI (2 ^ 2 - 1) from rfl, fa_mask, show (1 : Int32) = nI 1 from rfl, nI_add, nI_add, show (0 : Int32) = nI 0 from rfl, nI_add, nI_eq (by omega) (by omega)]
      have e : (pth n K (p + 1) / 2 ^ (2 * t) % 2 ^ 2 = 1) ↔ lst (pth n K (p + 1)) t = true := by
        unfold lst
        have b0 : (pth n K (p + 1) / 2 ^ (2 * t)).testBit 0 = (pth n K (p + 1)).testBit (2 * t) := by rw [Nat.testBit_div_two_pow, Nat.zero_add]
        have b1 : (pth n K (p + 1) / 2 ^ (2 * t)).testBit 1 = (pth n K (p + 1)).testBit (2 * t + 1) := by rw [Nat.testBit_div_two_pow, Nat.add_comm 1 (2 * t)]
        rw [← b0, ← b1]
        generalize pth n K (p + 1) / 2 ^ (2 * t) = w
        rw [Nat.testBit_eq_decide_div_mod_eq, Nat.testBit_eq_decide_div_mod_eq]
        simp only [Nat.pow_zero, Nat.div_one, Nat.pow_one, Bool.and_eq_true, decide_eq_true_eq, Bool.not_eq_true', decide_eq_false_iff_not]
        omega
      refine ⟨i0, br_f (nI_ge (by omega) (by omega)) ⟨vi (by omega) (by omega), br_c (fun z => ?_) (fun z => ?_)⟩⟩
      · rw [e.mp z] at ih; exact ih
      · rw [Bool.eq_false_iff.mpr (fun q => z (e.mpr q))] at ih; exact ih
  exact ⟨n + 1, main n 0 (by omega)⟩
def lsR (n : Nat) (K : Nat → Nat → Bool) (p : Int32) (rf : Nat → Int32) : Int32 × (Nat → Int32) := if iN p (mos n K) = true then (nI (lsN n K p.toNatClampNeg n), rf) else (-2, ri rf 0)
theorem r_lastE {n : Nat} {K : Nat → Nat → Bool} {g bh mt rf mf : Nat → Int32} {on : Nat → Int64} {p1 ca cm cc cp : Int32} {Q : Int32 → Int32 → Int32 → Int32 → Int32 → Int32 → (Nat → Int32) → (Nat → Int32) → (Nat → Int64) → (Nat → Int32) → (Nat → Int32) → Prop} (hn : n < 7) (h0 : g 0 = nI n) (h12 : mos n K ≤ 12) (hp : ∀ k, pth n K k < 2 ^ (2 * n)) (k2 : ∀ k, k < mos n K → bh k = nI (pth n K (k + 1)))
    (hQ : Q (lsR n K p1 rf).1 ca cm cc cp (nI (mos n K)) (lsR n K p1 rf).2 mt on mf bh) : wp_X11_in p1 (0 : Int32) (nI (mos n K) - (1 : Int32)) (fun r => ((r = 0 → (wp_X11_bad rf (fun r c => Q r ca cm cc cp (nI (mos n K)) c mt on mf bh))) ∧ (¬ r = 0 → ∃ k, wp_X11_last_b38 Q g k p1 (0 : Int32) (0 : Int32) ca cm cc cp (nI (mos n K)) rf mt on mf bh))) := by
  unfold lsR at hQ
  refine t_in (N := mos n K) (by omega) rfl ?_
  rw [zbR]
  cases h : iN p1 (mos n K) with
  | false =>
    rw [if_neg (by decide)]
    rw [h, if_neg (by decide)] at hQ
    exact t_bad hQ
  | true =>
    rw [if_pos rfl]
    rw [h, if_pos rfl] at hQ
    obtain ⟨h1, h2⟩ := iN_c (by omega) h
    generalize p1.toNatClampNeg = p at h1 h2 hQ
    subst h2
    exact r_lastLoop (K := K) hn h0 (by omega) (hp _) (k2 p h1) hQ
theorem r_last {g : Nat → Int32} {n m : Nat} {kd oa ob : Nat → Nat} {p1 ahead moment counted parted partedToo moments : Int32} {refused mate momentOf behind : Nat → Int32} {on : Nat → Int64} {Q : Int32 → Int32 → Int32 → Int32 → Int32 → Int32 → (Nat → Int32) → (Nat → Int32) → (Nat → Int64) → (Nat → Int32) → (Nat → Int32) → Prop}
    (hb : HB g n m kd oa ob)
    (hQ : ∀ (o_ahead o_moment o_counted o_parted o_moments : Int32) (o_mate o_momentOf o_behind : (Nat → Int32)) (o_on : (Nat → Int64)), Q ((sp_last g n m kd oa ob p1 refused).1) o_ahead o_moment o_counted o_parted o_moments ((sp_last g n m kd oa ob p1 refused).2) o_mate o_on o_momentOf o_behind) : wp_X11_last p1 ahead moment counted parted partedToo moments g refused mate on momentOf behind Q := by
  have hn := hb.2.2.1
  have hBD := BD_ok hn
  unfold wp_X11_last
  unfold sp_last at hQ
  refine s_lays hb hBD (fun z ca cm cc cp cs mate on mf bh => ?_) (fun z ca cm cc cp mate on mf bh k1 k2 => ?_)
  · refine br_t rfl (t_refuses (i := 1) (by omega) rfl ?_)
    rw [if_pos (show fitN g n m kd oa ob = 0 from z)] at hQ
    apply hQ
  · refine br_f (by decide) ?_
    rw [if_neg (show ¬ fitN g n m kd oa ob = 0 from z)] at hQ
    exact r_lastE hn hb.1 (mos_ok hn z).1 (fun k => (pth_ok hn z k).1) k2 (hQ _ _ _ _ _ _ _ _ _)
theorem r_between {g : Nat → Int32} {n m : Nat} {kd oa ob : Nat → Nat} {p1 p2 ahead moment counted parted partedToo : Int32} {refused mate : Nat → Int32} {on to before alike : Nat → Int64} {Q : Int32 → Int32 → Int32 → Int32 → Int32 → (Nat → Int32) → (Nat → Int32) → (Nat → Int64) → (Nat → Int64) → (Nat → Int64) → (Nat → Int64) → Prop}
    (hb : HB g n m kd oa ob)
    (hQ : ∀ (o_ahead o_moment o_counted o_parted : Int32) (o_mate : (Nat → Int32)) (o_on o_to o_before o_alike : (Nat → Int64)), Q ((sp_between g n m kd oa ob p1 p2 refused).1) o_ahead o_moment o_counted o_parted ((sp_between g n m kd oa ob p1 p2 refused).2) o_mate o_on o_to o_before o_alike) : wp_X11_between p1 p2 ahead moment counted parted partedToo g refused mate on to before alike Q := by
  have hn := hb.2.2.1
  have hBD := BD_ok hn
  unfold wp_X11_between
  unfold wp_X11_between_b21
  unfold sp_between at hQ
  refine t_rEnd hn hb.1 ?_
  rw [zbR]
  by_cases h : iN p1 (2 * n) = true
  case neg =>
    rw [if_neg h]
    rw [Bool.eq_false_iff.mpr h] at hQ
    refine t_bad ?_
    apply hQ
  rw [if_pos h]
  refine t_rEnd hn hb.1 ?_
  rw [zbR]
  by_cases h' : iN p2 (2 * n) = true
  case neg =>
    rw [if_neg h']
    rw [h, Bool.eq_false_iff.mpr h'] at hQ
    refine t_bad ?_
    apply hQ
  rw [if_pos h']
  rw [h, h'] at hQ
  refine br_c (fun z0 => ?_) (fun z0 => ?_)
  · rw [decide_eq_true z0] at hQ
    refine t_bad ?_
    apply hQ
  · rw [decide_eq_false z0] at hQ
    obtain ⟨h1, h2⟩ := iN_c (by omega) h
    obtain ⟨h3, h4⟩ := iN_c (by omega) h'
    have hB0 := hBD (KB g n m kd oa ob) 0 (Nat.two_pow_pos _)
    refine s_pairs hb hBD (fun ca cm mate on to bf al hP => ?_)
    change ((lg_cmp (lN (fitN g n m kd oa ob)) (lN 0) = nI 0 → _) ∧ (¬ lg_cmp (lN (fitN g n m kd oa ob)) (lN 0) = nI 0 → _))
    rw [z_cmpE (show fitN g n m kd oa ob < 2 ^ 63 by unfold fitN; omega)]
    refine br_c (fun z => ?_) (fun z => ?_)
    · rw [if_pos z] at hQ
      refine t_refuses (i := 1) (by omega) rfl ?_
      apply hQ
    · rw [if_neg z] at hQ
      generalize p1.toNatClampNeg = x at h1 h2 hQ
      generalize p2.toNatClampNeg = y at h3 h4 hQ
      subst h2 h4
      refine s_bits (K := KB g n m kd oa ob) hn hBD hP h1 h3 ?_
      apply hQ
theorem r_sure {g : Nat → Int32} {n m : Nat} {kd oa ob : Nat → Nat} {ahead moment counted parted partedToo : Int32} {refused mate : Nat → Int32} {on to before alike : Nat → Int64} {Q : Int32 → Int32 → Int32 → Int32 → Int32 → (Nat → Int32) → (Nat → Int32) → (Nat → Int64) → (Nat → Int64) → (Nat → Int64) → (Nat → Int64) → Prop}
    (hb : HB g n m kd oa ob)
    (hQ : ∀ (o_ahead o_moment o_counted o_parted : Int32) (o_mate : (Nat → Int32)) (o_on o_to o_before o_alike : (Nat → Int64)), Q ((sp_sure g n m kd oa ob refused).1) o_ahead o_moment o_counted o_parted ((sp_sure g n m kd oa ob refused).2) o_mate o_on o_to o_before o_alike) : wp_X11_sure ahead moment counted parted partedToo g refused mate on to before alike Q := by
  have hn := hb.2.2.1
  have hBD := BD_ok hn
  unfold wp_X11_sure
  unfold sp_sure at hQ
  have hB0 := hBD (KB g n m kd oa ob) 0 (Nat.two_pow_pos _)
  refine s_pairs hb hBD (fun ca cm mate on to bf al hP => ?_)
  change ((lg_cmp (lN (fitN g n m kd oa ob)) (lN 0) = nI 0 → _) ∧ (¬ lg_cmp (lN (fitN g n m kd oa ob)) (lN 0) = nI 0 → _))
  rw [z_cmpE (show fitN g n m kd oa ob < 2 ^ 63 by unfold fitN; omega)]
  refine br_c (fun z => ?_) (fun z => ?_)
  · rw [if_pos z] at hQ
    refine t_refuses (i := 1) (by omega) rfl ?_
    apply hQ
  · rw [if_neg z] at hQ
    refine s_rsureLoop (K := KB g n m kd oa ob) hb.1 hn hBD hP ?_
    apply hQ
theorem r_ask {g : Nat → Int32} {n m : Nat} {kd oa ob : Nat → Nat} {p1 ahead moment counted parted partedToo : Int32} {refused mate : Nat → Int32} {on to before alike : Nat → Int64} {Q : Int64 → Int32 → Int32 → Int32 → Int32 → (Nat → Int32) → (Nat → Int32) → (Nat → Int64) → (Nat → Int64) → (Nat → Int64) → (Nat → Int64) → Prop}
    (hb : HB g n m kd oa ob)
    (hQ : ∀ (o_ahead o_moment o_counted o_parted : Int32) (o_mate : (Nat → Int32)) (o_on o_to o_before o_alike : (Nat → Int64)), Q ((sp_ask g n m kd oa ob p1 refused).1) o_ahead o_moment o_counted o_parted ((sp_ask g n m kd oa ob p1 refused).2) o_mate o_on o_to o_before o_alike) : wp_X11_ask p1 ahead moment counted parted partedToo g refused mate on to before alike Q := by
  have hn := hb.2.2.1
  have hBD := BD_ok hn
  unfold wp_X11_ask
  unfold sp_ask at hQ
  refine t_in (N := 2) (by omega) rfl ?_
  rw [zbR]
  by_cases h : iN p1 2 = true
  case neg =>
    rw [if_neg h]
    rw [if_neg h] at hQ
    refine t_bad ?_
    apply hQ
  rw [if_pos h]
  rw [if_pos h] at hQ
  obtain ⟨h1, h2⟩ := iN_c (by omega) h
  have hB0 := hBD (KB g n m kd oa ob) 0 (Nat.two_pow_pos _)
  refine s_pairs hb hBD (fun ca cm mate on to bf al hP => ?_)
  change ((lg_cmp (lN (fitN g n m kd oa ob)) (lN 0) = nI 0 → _) ∧ (¬ lg_cmp (lN (fitN g n m kd oa ob)) (lN 0) = nI 0 → _))
  rw [z_cmpE (show fitN g n m kd oa ob < 2 ^ 63 by unfold fitN; omega)]
  refine br_c (fun z => ?_) (fun z => ?_)
  · rw [if_pos z] at hQ
    refine t_refuses (i := 1) (by omega) rfl ?_
    apply hQ
  · rw [if_neg z] at hQ
    generalize p1.toNatClampNeg = x at h1 h2 hQ
    subst h2
    refine s_raskLoop (K := KB g n m kd oa ob) hb.1 hn hBD hP h1 ?_
    apply hQ
theorem r_together {g : Nat → Int32} {n m : Nat} {kd oa ob : Nat → Nat} {p1 p2 ahead moment counted parted partedToo : Int32} {refused mate : Nat → Int32} {on : Nat → Int64} {Q : Int64 → Int32 → Int32 → Int32 → Int32 → Int32 → (Nat → Int32) → (Nat → Int32) → (Nat → Int64) → Prop}
    (hb : HB g n m kd oa ob)
    (hQ : ∀ (o_ahead o_moment o_counted o_p1 o_p2 : Int32) (o_mate : (Nat → Int32)) (o_on : (Nat → Int64)), Q ((sp_together g n m kd oa ob p1 p2 refused).1) o_ahead o_moment o_counted o_p1 o_p2 ((sp_together g n m kd oa ob p1 p2 refused).2) o_mate o_on) : wp_X11_together p1 p2 ahead moment counted parted partedToo g refused mate on Q := by
  have hn := hb.2.2.1
  have hBD := BD_ok hn
  unfold wp_X11_together
  unfold wp_X11_together_b21
  unfold sp_together at hQ
  refine t_rThing hn hb.1 ?_
  rw [zbR]
  by_cases h : iN p1 n = true
  case neg =>
    rw [if_neg h]
    rw [Bool.eq_false_iff.mpr h] at hQ
    refine t_bad ?_
    apply hQ
  rw [if_pos h]
  refine t_rThing hn hb.1 ?_
  rw [zbR]
  by_cases h' : iN p2 n = true
  case neg =>
    rw [if_neg h']
    rw [h, Bool.eq_false_iff.mpr h'] at hQ
    refine t_bad ?_
    apply hQ
  rw [if_pos h']
  rw [h, h'] at hQ
  refine br_c (fun z0 => ?_) (fun z0 => ?_)
  · rw [decide_eq_true z0] at hQ
    refine t_bad ?_
    apply hQ
  · rw [decide_eq_false z0] at hQ
    obtain ⟨h1, h2⟩ := iN_c (by omega) h
    obtain ⟨h3, h4⟩ := iN_c (by omega) h'
    generalize p1.toNatClampNeg = x at h1 h2 hQ
    generalize p2.toNatClampNeg = y at h3 h4 hQ
    subst h2 h4
    refine s_all hb hBD (fun ca cm mate on hm hon => ?_)
    refine s_counts hb.1 hn (MV_of (mt := nmt) (pa := some (x, y)) hb (by omega) (fun a ha => ⟨hm a (by omega), fun b hb => by cases hb⟩) ⟨rfl, rfl, by omega, by omega⟩) (fun s hs => by have := hBD (KA g n m kd oa ob 255 nmt (some (x, y))) s hs; omega) (fun ca cm on hon => ?_)
    have e : (fun s M => ap x y s M && KB g n m kd oa ob s M) = KA g n m kd oa ob 255 nmt (some (x, y)) := by
      funext s M
      unfold KB KA kAll paOk
      rw [Bool.true_and, Bool.and_assoc]
    rw [e] at hQ
    apply hQ
theorem r_word {g : Nat → Int32} {n m : Nat} {kd oa ob : Nat → Nat} {p1 ahead moment counted parted partedToo : Int32} {refused mate : Nat → Int32} {on : Nat → Int64} {Q : Int32 → Int32 → Int32 → Int32 → Int32 → (Nat → Int32) → (Nat → Int32) → (Nat → Int64) → Prop}
    (hb : HB g n m kd oa ob)
    (hQ : ∀ (o_ahead o_moment o_counted o_parted : Int32) (o_mate : (Nat → Int32)) (o_on : (Nat → Int64)), Q ((sp_word g n m kd oa ob p1 refused).1) o_ahead o_moment o_counted o_parted ((sp_word g n m kd oa ob p1 refused).2) o_mate o_on) : wp_X11_word p1 ahead moment counted parted partedToo g refused mate on Q := by
  have hn := hb.2.2.1
  have hBD := BD_ok hn
  unfold wp_X11_word
  unfold sp_word at hQ
  have hm := hb.2.2.2.1
  have hl : lo (fun k => !decide (g (38 + k) = p1)) m < 256 := Nat.lt_of_lt_of_le (lo_lt _ m) (show 2 ^ m ≤ 2 ^ 8 from Nat.pow_le_pow_right (by decide) (by omega))
  refine t_in (N := 4) (by omega) rfl ?_
  rw [zbR]
  by_cases h : iN p1 4 = true
  case neg =>
    rw [if_neg h]
    rw [if_neg h] at hQ
    refine t_bad ?_
    apply hQ
  rw [if_pos h]
  rw [if_pos h] at hQ
  refine s_withoutR hb.2.1 hm (s_fitsBy hb hBD (by omega) (fun ca cm mate on => ?_))
  change ((bI (fit g n m kd oa ob (lo (fun k => !decide (g (38 + k) = p1)) m)) = 0 → _) ∧ (¬ bI (fit g n m kd oa ob (lo (fun k => !decide (g (38 + k) = p1)) m)) = 0 → _))
  rw [zbR]
  split
  · rename_i q
    rw [q] at hQ
    apply hQ
  · rename_i q
    rw [Bool.eq_false_iff.mpr q] at hQ
    apply hQ
