/-! ONE: the face -/
def PD (g : Nat → Int32) (n m : Nat) (kd oa ob : Nat → Nat) (isP isF pr wy : Int32) (mate : Nat → Int32) : Prop := isP = 0 ∨ PDT g n m kd oa ob isF pr wy mate
theorem d_pair {g : Nat → Int32} {n m : Nat} {kd oa ob : Nat → Nat} {isPaired h_things h_sayings d_count d_countOfHistory d_aparts d_broken q_members q_count pa_isFair pa_pairs pa_ways pa_steps_sets : Int32} {h_whose h_story h_kind h_a h_b d_sooner d_later d_strict d_maker d_one d_other d_parter d_missed q_member q_part pa_mate pa_steps_loose pa_here pa_there pa_pick : Nat → Int32} {pa_steps_ways : Nat → Int64} {Q : Int32 → Int32 → Int32 → Int32 → Int32 → (Nat → Int32) → (Nat → Int32) → (Nat → Int32) → (Nat → Int32) → (Nat → Int32) → (Nat → Int32) → (Nat → Int32) → (Nat → Int32) → Int32 → Int32 → (Nat → Int32) → (Nat → Int32) → Int32 → Int32 → Int32 → (Nat → Int32) → Int32 → (Nat → Int32) → (Nat → Int64) → (Nat → Int32) → (Nat → Int32) → (Nat → Int32) → Prop}
    (hb : HB g n m kd oa ob)
    (hh : HC g n m h_things h_sayings h_whose h_kind h_a h_b)
    (hs : ∀ t, t < n → h_story t = g (8 + t))
    (hf : PD g n m kd oa ob isPaired pa_isFair pa_pairs pa_ways pa_mate)
    (hQ : ∀ (o_isPaired o_d_count o_d_countOfHistory o_d_aparts o_d_broken o_q_members o_q_count o_pa_isFair o_pa_pairs o_pa_ways o_pa_steps_sets : Int32) (o_d_sooner o_d_later o_d_strict o_d_maker o_d_one o_d_other o_d_parter o_d_missed o_q_member o_q_part o_pa_mate o_pa_steps_loose o_pa_here o_pa_there o_pa_pick : (Nat → Int32)) (o_pa_steps_ways : (Nat → Int64)), PDT g n m kd oa ob o_pa_isFair o_pa_pairs o_pa_ways o_pa_mate → Q o_isPaired o_d_count o_d_countOfHistory o_d_aparts o_d_broken o_d_sooner o_d_later o_d_strict o_d_maker o_d_one o_d_other o_d_parter o_d_missed o_q_members o_q_count o_q_member o_q_part o_pa_isFair o_pa_pairs o_pa_ways o_pa_mate o_pa_steps_sets o_pa_steps_loose o_pa_steps_ways o_pa_here o_pa_there o_pa_pick) : wp_X10_pair isPaired h_things h_sayings h_whose h_story h_kind h_a h_b d_count d_countOfHistory d_aparts d_broken d_sooner d_later d_strict d_maker d_one d_other d_parter d_missed q_members q_count q_member q_part pa_isFair pa_pairs pa_ways pa_mate pa_steps_sets pa_steps_loose pa_steps_ways pa_here pa_there pa_pick Q := by
  have hn := hb.2.2.1
  unfold wp_X10_pair
  refine br_c (fun z => ?_) (fun z => ?_)
  · refine s_takeD hb hh (fun so la st ma on ot pa r1 r2 => ?_)
    obtain ⟨rfl, rfl, -, -⟩ := hh
    refine s_seek hb hs r1 r2 (fun isF pr wy cs dc cb c1 c2 mate lo here there pick so la st ma mi me pa wa hc => ?_)
    apply hQ
    exact hc
  · rcases hf with hf | hf
    · exact absurd hf z
    · apply hQ
      exact hf
