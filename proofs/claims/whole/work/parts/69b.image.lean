/-! IMAGE and FROM, of the class -/
def CPY (wh sr wa ck ca cb cy wh' sr' wa' ck' ca' cb' cy' : Nat → Int32) : Prop := (∀ t, t < 6 → wh' t = wh t ∧ sr' t = sr t) ∧ (∀ e, e < 12 → wa' e = wa e) ∧ ∀ k, k < 8 → ck' k = ck k ∧ ca' k = ca k ∧ cb' k = cb k ∧ cy' k = cy k
theorem d_image  {p1 h_things h_sayings i0_things i0_sayings i1_things i1_sayings : Int32} {h_whose h_story h_watch h_kind h_a h_b h_by i0_whose i0_story i0_watch i0_kind i0_a i0_b i0_by i1_whose i1_story i1_watch i1_kind i1_a i1_b i1_by imageKept refused : Nat → Int32} {Q : Int32 → Int32 → Int32 → (Nat → Int32) → (Nat → Int32) → (Nat → Int32) → (Nat → Int32) → (Nat → Int32) → (Nat → Int32) → (Nat → Int32) → Int32 → Int32 → (Nat → Int32) → (Nat → Int32) → (Nat → Int32) → (Nat → Int32) → (Nat → Int32) → (Nat → Int32) → (Nat → Int32) → (Nat → Int32) → (Nat → Int32) → Prop}
    (hQ0 : iN p1 2 = false → Q (-2) i0_things i0_sayings i0_whose i0_story i0_watch i0_kind i0_a i0_b i0_by i1_things i1_sayings i1_whose i1_story i1_watch i1_kind i1_a i1_b i1_by imageKept (ri refused 0))
    (hQ1 : p1 = 0 → ∀ (o_i0_whose o_i0_story o_i0_watch o_i0_kind o_i0_a o_i0_b o_i0_by : (Nat → Int32)), CPY h_whose h_story h_watch h_kind h_a h_b h_by o_i0_whose o_i0_story o_i0_watch o_i0_kind o_i0_a o_i0_b o_i0_by → Q 1 h_things h_sayings o_i0_whose o_i0_story o_i0_watch o_i0_kind o_i0_a o_i0_b o_i0_by i1_things i1_sayings i1_whose i1_story i1_watch i1_kind i1_a i1_b i1_by (upd imageKept 0 1) refused)
    (hQ2 : p1 = 1 → ∀ (o_i1_whose o_i1_story o_i1_watch o_i1_kind o_i1_a o_i1_b o_i1_by : (Nat → Int32)), CPY h_whose h_story h_watch h_kind h_a h_b h_by o_i1_whose o_i1_story o_i1_watch o_i1_kind o_i1_a o_i1_b o_i1_by → Q 1 i0_things i0_sayings i0_whose i0_story i0_watch i0_kind i0_a i0_b i0_by h_things h_sayings o_i1_whose o_i1_story o_i1_watch o_i1_kind o_i1_a o_i1_b o_i1_by (upd imageKept 1 1) refused) : wp_X10_image p1 h_things h_sayings h_whose h_story h_watch h_kind h_a h_b h_by i0_things i0_sayings i0_whose i0_story i0_watch i0_kind i0_a i0_b i0_by i1_things i1_sayings i1_whose i1_story i1_watch i1_kind i1_a i1_b i1_by imageKept refused Q := by
  unfold wp_X10_image
  refine t_isEither ?_
  rw [zbR]
  by_cases h : iN p1 2 = true
  case neg =>
    rw [if_neg h]
    refine t_refB ?_
    apply hQ0
    exact Bool.eq_false_iff.mpr h
  rw [if_pos h]
  obtain ⟨h1, h2⟩ := iN_c (by omega) h
  generalize p1.toNatClampNeg = e at h1 h2
  subst h2
  have ie : vp_in (nI e) 2 := vi h1 (by omega)
  refine ⟨ie, br_c (fun z => ?_) (fun z => ?_)⟩
  · have e0 : e = 0 := (nI_eq (b := 0) (by omega) (by omega)).mp z
    subst e0
    refine d_copy (fun wh sr wa ck ca cb cy k1 k2 k3 => ⟨ie, ?_⟩)
    exact hQ1 rfl _ _ _ _ _ _ _ ⟨k1, k2, k3⟩
  · have e1 : e = 1 := by
      rcases Nat.lt_or_ge e 1 with q | q
      · exact absurd (show nI e = 0 by rw [show e = 0 by omega]; rfl) z
      · omega
    subst e1
    refine ⟨rfl, d_copy (fun wh sr wa ck ca cb cy k1 k2 k3 => ⟨ie, ?_⟩)⟩
    exact hQ2 rfl _ _ _ _ _ _ _ ⟨k1, k2, k3⟩
theorem d_from  {p1 isFound isChosen isTimed isPaired h_things h_sayings i0_things i0_sayings i1_things i1_sayings : Int32} {h_whose h_story h_watch h_kind h_a h_b h_by i0_whose i0_story i0_watch i0_kind i0_a i0_b i0_by i1_whose i1_story i1_watch i1_kind i1_a i1_b i1_by imageKept refused : Nat → Int32} {Q : Int32 → Int32 → Int32 → Int32 → Int32 → Int32 → Int32 → (Nat → Int32) → (Nat → Int32) → (Nat → Int32) → (Nat → Int32) → (Nat → Int32) → (Nat → Int32) → (Nat → Int32) → (Nat → Int32) → Prop}
    (hQ0 : iN p1 2 = false → Q (-2) isFound isChosen isTimed isPaired h_things h_sayings h_whose h_story h_watch h_kind h_a h_b h_by (ri refused 0))
    (hQ1 : iN p1 2 = true → imageKept p1.toNatClampNeg = 0 → Q (-3) isFound isChosen isTimed isPaired h_things h_sayings h_whose h_story h_watch h_kind h_a h_b h_by (ri refused 1))
    (hQ2 : p1 = 0 → ¬ imageKept 0 = 0 → ∀ (o_h_whose o_h_story o_h_watch o_h_kind o_h_a o_h_b o_h_by : (Nat → Int32)), CPY i0_whose i0_story i0_watch i0_kind i0_a i0_b i0_by o_h_whose o_h_story o_h_watch o_h_kind o_h_a o_h_b o_h_by → Q 1 0 0 0 0 i0_things i0_sayings o_h_whose o_h_story o_h_watch o_h_kind o_h_a o_h_b o_h_by refused)
    (hQ3 : p1 = 1 → ¬ imageKept 1 = 0 → ∀ (o_h_whose o_h_story o_h_watch o_h_kind o_h_a o_h_b o_h_by : (Nat → Int32)), CPY i1_whose i1_story i1_watch i1_kind i1_a i1_b i1_by o_h_whose o_h_story o_h_watch o_h_kind o_h_a o_h_b o_h_by → Q 1 0 0 0 0 i1_things i1_sayings o_h_whose o_h_story o_h_watch o_h_kind o_h_a o_h_b o_h_by refused) : wp_X10_from p1 isFound isChosen isTimed isPaired h_things h_sayings h_whose h_story h_watch h_kind h_a h_b h_by i0_things i0_sayings i0_whose i0_story i0_watch i0_kind i0_a i0_b i0_by i1_things i1_sayings i1_whose i1_story i1_watch i1_kind i1_a i1_b i1_by imageKept refused Q := by
  unfold wp_X10_from wp_X10_changed
  refine t_isEither ?_
  rw [zbR]
  by_cases h : iN p1 2 = true
  case neg =>
    rw [if_neg h]
    refine t_refB ?_
    apply hQ0
    exact Bool.eq_false_iff.mpr h
  rw [if_pos h]
  obtain ⟨h1, h2⟩ := iN_c (by omega) h
  replace hQ1 := hQ1 h
  generalize p1.toNatClampNeg = e at h1 h2 hQ1 ⊢
  subst h2
  have ie : vp_in (nI e) 2 := vi h1 (by omega)
  refine ⟨ie, br_c (fun z => t_refN (hQ1 z)) (fun z => ⟨ie, br_c (fun z1 => ?_) (fun z1 => ?_)⟩)⟩
  · have e0 : e = 0 := (nI_eq (b := 0) (by omega) (by omega)).mp z1
    subst e0
    refine d_copy (fun wh sr wa ck ca cb cy k1 k2 k3 => ?_)
    exact hQ2 rfl z _ _ _ _ _ _ _ ⟨k1, k2, k3⟩
  · have e1 : e = 1 := by
      rcases Nat.lt_or_ge e 1 with q | q
      · exact absurd (show nI e = 0 by rw [show e = 0 by omega]; rfl) z1
      · omega
    subst e1
    refine ⟨rfl, d_copy (fun wh sr wa ck ca cb cy k1 k2 k3 => ?_)⟩
    exact hQ3 rfl z _ _ _ _ _ _ _ ⟨k1, k2, k3⟩
