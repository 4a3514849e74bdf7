/-! ONE: the class -/
theorem d_one {g : Nat → Int32} {n m : Nat} {kd oa ob : Nat → Nat} {p1 isPaired h_things h_sayings d_count d_countOfHistory d_aparts d_broken q_members q_count pa_isFair pa_pairs pa_ways pa_steps_sets : Int32} {h_whose h_story h_kind h_a h_b refused d_sooner d_later d_strict d_maker d_one d_other d_parter d_missed q_member q_part pa_mate pa_steps_loose pa_here pa_there pa_pick : Nat → Int32} {pa_steps_ways : Nat → Int64} {Q : Int32 → Int32 → (Nat → Int32) → Int32 → Int32 → Int32 → Int32 → (Nat → Int32) → (Nat → Int32) → (Nat → Int32) → (Nat → Int32) → (Nat → Int32) → (Nat → Int32) → (Nat → Int32) → (Nat → Int32) → Int32 → Int32 → (Nat → Int32) → (Nat → Int32) → Int32 → Int32 → Int32 → (Nat → Int32) → Int32 → (Nat → Int32) → (Nat → Int64) → (Nat → Int32) → (Nat → Int32) → (Nat → Int32) → Prop}
    (hb : HB g n m kd oa ob)
    (hh : HC g n m h_things h_sayings h_whose h_kind h_a h_b)
    (hs : ∀ t, t < n → h_story t = g (8 + t))
    (hf : PD g n m kd oa ob isPaired pa_isFair pa_pairs pa_ways pa_mate)
    (hQ : ∀ (o_isPaired o_d_count o_d_countOfHistory o_d_aparts o_d_broken o_q_members o_q_count o_pa_isFair o_pa_pairs o_pa_ways o_pa_steps_sets : Int32) (o_d_sooner o_d_later o_d_strict o_d_maker o_d_one o_d_other o_d_parter o_d_missed o_q_member o_q_part o_pa_mate o_pa_steps_loose o_pa_here o_pa_there o_pa_pick : (Nat → Int32)) (o_pa_steps_ways : (Nat → Int64)), PD g n m kd oa ob o_isPaired o_pa_isFair o_pa_pairs o_pa_ways o_pa_mate → Q (sp_one g n m kd oa ob p1 refused).1 o_isPaired ((sp_one g n m kd oa ob p1 refused).2) o_d_count o_d_countOfHistory o_d_aparts o_d_broken o_d_sooner o_d_later o_d_strict o_d_maker o_d_one o_d_other o_d_parter o_d_missed o_q_members o_q_count o_q_member o_q_part o_pa_isFair o_pa_pairs o_pa_ways o_pa_mate o_pa_steps_sets o_pa_steps_loose o_pa_steps_ways o_pa_here o_pa_there o_pa_pick) : wp_X10_one p1 isPaired h_things h_sayings h_whose h_story h_kind h_a h_b refused d_count d_countOfHistory d_aparts d_broken d_sooner d_later d_strict d_maker d_one d_other d_parter d_missed q_members q_count q_member q_part pa_isFair pa_pairs pa_ways pa_mate pa_steps_sets pa_steps_loose pa_steps_ways pa_here pa_there pa_pick Q := by
  have hn := hb.2.2.1
  have hle := ht_len g n
  unfold wp_X10_one
  unfold sp_one at hQ
  refine br_c (fun hp1 => ?_) (fun hp1 => ?_)
  · refine d_pair hb hh hs hf ?_
    intro o_isPaired o_d_count o_d_countOfHistory o_d_aparts o_d_broken o_q_members o_q_count o_pa_isFair o_pa_pairs o_pa_ways o_pa_steps_sets o_d_sooner o_d_later o_d_strict o_d_maker o_d_one o_d_other o_d_parter o_d_missed o_q_member o_q_part o_pa_mate o_pa_steps_loose o_pa_here o_pa_there o_pa_pick o_pa_steps_ways hpd
    have hpd2 : PD g n m kd oa ob o_isPaired o_pa_isFair o_pa_pairs o_pa_ways o_pa_mate := Or.inr hpd
    obtain ⟨rfl, hpf⟩ := hpd
    rw [zbR]
    by_cases hf : fair g n = true
    case neg =>
      rw [if_neg hf]
      rw [if_neg hf] at hQ
      refine t_refB ?_
      apply hQ
      exact hpd2
    rw [if_pos hf]
    rw [if_pos hf, if_pos hp1] at hQ
    obtain ⟨rfl, rfl, hma⟩ := hpf hf
    obtain ⟨k0, k4, kt⟩ := fair_t hn hf
    refine br_c (fun z => ?_) (fun z => ?_)
    · rw [if_pos z] at hQ
      apply hQ
      exact hpd2
    rw [if_neg z] at hQ
    refine br_c (fun z2 => ?_) (fun z2 => ?_)
    · rw [if_pos z2] at hQ
      apply hQ
      exact hpd2
    rw [if_neg z2] at hQ
    obtain ⟨j, hj, rfl⟩ := m1_of (by omega) hp1 z z2
    have hcl : cnt (fO g n m kd oa ob) (PRM (hL g n).length) ≤ (PRM (hL g n).length).length := List.countP_le_length
    have hpl : (PRM (hL g n).length).length ≤ 6 := (by decide : ∀ k, k < 4 → (PRM k).length ≤ 6) _ k4
    rw [show ((nI (cnt (fO g n m kd oa ob) (PRM (hL g n).length)) ≤ (0 : Int32)) = (cnt (fO g n m kd oa ob) (PRM (hL g n).length) ≤ 0)) from propext (nI_leI (b := 0) (by omega) (by omega))]
    cases hfi : (PRM (hL g n).length).find? (fO g n m kd oa ob) with
    | none =>
      rw [hfi] at hQ
      refine br_t ?_ ?_
      · rw [cnt_0.mpr hfi]; exact Nat.le_refl 0
      · apply hQ
        exact hpd2
    | some l =>
      rw [hfi] at hQ
      refine br_f ?_ ⟨vi (by omega) (by omega), ?_⟩
      · intro q
        have := cnt_0.mp (Nat.le_zero.mp q)
        rw [hfi] at this
        cases this
      · rw [nI_clamp (by omega), hma l hfi j hj]
        have e : oneA g n (nI j) (some l) = nI ((tL g n).getD (l.getD j 0) 0) := by
          show nI ((tL g n).getD (l.getD (nI j).toNatClampNeg 0) 0) = _
          rw [nI_clamp (by omega)]
        rw [e] at hQ
        apply hQ
        exact hpd2
  · have e : (if fair g n = true then (if (-1 : Int32) ≤ p1 then ((if p1 = (-1 : Int32) then nI (cnt (fO g n m kd oa ob) (PRM (hL g n).length)) else if nI (hL g n).length ≤ p1 then -5 else oneA g n p1 ((PRM (hL g n).length).find? (fO g n m kd oa ob))), refused) else (-10, ri refused 0)) else (-10, ri refused 0)) = ((-10 : Int32), ri refused 0) := by
      by_cases hf : fair g n = true
      · rw [if_pos hf, if_neg hp1]
      · rw [if_neg hf]
    rw [e] at hQ
    refine t_refB ?_
    apply hQ
    exact hf
