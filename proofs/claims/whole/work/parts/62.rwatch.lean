/-! the reference's minutes -/
def rI (t : Nat) : Int32 := if t = 101 then -2 else mI t
def lI (b : Nat) : Int32 := nI b - 2
theorem lI_t {b : Nat} (h : b < 2 ^ 31) : (lI b).toInt = (b : Int) - 2 := by
  unfold lI
  rcases Nat.lt_or_ge b 2 with q | q
  · rcases Nat.lt_or_ge b 1 with z | z
    · rw [show b = 0 by omega]; rfl
    · rw [show b = 1 by omega]; rfl
  · rw [show (2 : Int32) = nI 2 from rfl, pk_sub q, nI_toInt (by omega)]; omega
theorem lI_mI (b : Nat) : lI (b + 1) = mI b := by
  unfold lI mI
  rw [show (2 : Int32) = 1 + 1 from rfl, show nI (b + 1) = nI b + 1 from (nI_1 b).symm, Int32.sub_eq_add_neg, Int32.sub_eq_add_neg, Int32.neg_add, Int32.add_assoc]
  congr 1
theorem tl_st {w : Nat → Nat} {M k : Nat} (h : M < 2 ^ k) : ∀ d, tl w M (k + d) = tl w M k
  | 0 => rfl
  | d + 1 => by
    rw [show k + (d + 1) = (k + d) + 1 from rfl, tl, if_neg, tl_st h d]
    rw [Nat.testBit_lt_two_pow (Nat.lt_of_lt_of_le h (Nat.pow_le_pow_right (by decide) (by omega)))]
    exact fun z => by cases z
theorem s_told {g : Nat → Int32} {w : Nat → Nat} {n M : Nat} {Q : Int32 → Prop} (hn : n < 7) (h0 : g 0 = nI n) (hg : ∀ e, e < 12 → g (46 + e) = mI (w e) ∧ w e ≤ 100) (hM : M < 2 ^ (2 * n)) (hQ : Q (rI (tl w M 12))) : wp_X11_told (nI M) g Q := by
  have h4 := p4_le hn
  have i0 : vp_in (0 : Int32) 58 := vi (k := 0) (by omega) (by omega)
  have e12 : tl w M 12 = tl w M (2 * n) := by
    have := tl_st (w := w) hM (12 - 2 * n)
    rw [show 2 * n + (12 - 2 * n) = 12 by omega] at this
    exact this
  rw [e12] at hQ
  have main : ∀ (d e : Nat), e + d = 2 * n → wp_X11_told_b4 Q g (d + 1) (nI M) (rI (tl w M e)) (nI e) := by
    intro d
    induction d with
    | zero =>
      intro e he
      obtain rfl : e = 2 * n := by omega
      unfold wp_X11_told_b4
      rw [show (0 : Int32).toNatClampNeg = 0 from rfl, h0, show (2 : Int32) = nI 2 from rfl, pk_mul]
      exact ⟨i0, br_t (nI_le (by omega) (by omega)) hQ⟩
    | succ d ih =>
      intro e he
      have ih := ih (e + 1) (by omega)
      obtain ⟨g1, g2⟩ := hg e (by omega)
      have ht := tl_le (w := w) (M := M) (k := e) (fun x hx => (hg x (by omega)).2)
      rw [tl] at ih
      unfold wp_X11_told_b4 wp_X11_told_b38 wp_X11_told_b52 wp_X11_told_b67 wp_X11_told_b74
      rw [show (0 : Int32).toNatClampNeg = 0 from rfl, h0, show (2 : Int32) = nI 2 from rfl, pk_mul, show (46 : Int32) = nI 46 from rfl, nI_add, nI_clamp (by omega), g1, show (31 : Int32) = nI 31 from rfl, show (1 : Int32) = nI 1 from rfl, z_bit (by omega) (by omega), bI_1, nI_add]
      refine ⟨i0, br_f (nI_ge (by omega) (by omega)) (br_c (fun z => ⟨vi (by omega) (by omega), ?_⟩) (fun z => br_t rfl ?_))⟩
      · rw [if_pos z] at ih
        generalize tl w M e = t at *
        generalize w e = b at *
        unfold joinN at ih
        rw [show (-nI 1 : Int32) = -1 from rfl, show (-nI 2 : Int32) = -2 from rfl, mI_z (by omega)]
        refine br_c (fun b0 => ?_) (fun b0 => br_c (fun z2 => ?_) (fun z2 => br_c (fun z3 => ?_) (fun z3 => br_c (fun z4 => ?_) (fun z4 => ?_))))
        · by_cases q : t = 0 ∨ t = b
          · rw [if_pos q] at ih
            rw [show t = b by omega]; exact ih
          · rw [if_neg q, if_pos b0] at ih; exact ih
        · have : t = 101 := by
            by_cases q : t = 101
            · exact q
            · unfold rI at z2; rw [if_neg q] at z2
              have := congrArg Int32.toInt z2
              rw [mI_t (by omega), show (-2 : Int32).toInt = -2 from rfl] at this
              omega
          rw [if_neg (by omega), if_neg b0] at ih
          rw [this]; exact ih
        · have : t = 0 := by
            unfold rI at z3
            split at z3
            · exact absurd z3 (by decide)
            · exact (mI_z (by omega)).mp z3
          rw [if_pos (Or.inl this)] at ih
          unfold rI at ih
          rw [if_neg (by omega)] at ih
          exact ih
        · have : t = b := by
            unfold rI at z4
            split at z4
            · rename_i q
              have := congrArg Int32.toInt z4
              rw [mI_t (by omega), show (-2 : Int32).toInt = -2 from rfl] at this
              omega
            · exact (mI_eq (by omega) (by omega)).mp z4
          rw [if_pos (Or.inr this)] at ih
          unfold rI at ih
          rw [if_neg (by omega)] at ih
          exact ih
        · have q0 : t ≠ 0 := fun q => z3 (by rw [q]; rfl)
          have qb : t ≠ b := fun q => z4 (by unfold rI; rw [if_neg (by omega), q])
          rw [if_neg (by omega), if_neg b0] at ih
          exact ih
      · rw [if_neg z] at ih; exact ih
  unfold wp_X11_told
  exact ⟨2 * n + 1, main (2 * n) 0 (by omega)⟩
theorem rI_1 {t : Nat} (h : t ≤ 101) : rI t = -1 ↔ t = 0 := by
  unfold rI
  split
  · rename_i q
    exact ⟨fun z => absurd z (by decide), fun z => by omega⟩
  · exact mI_z (by omega)
theorem rI_2 {t : Nat} (h : t ≤ 101) : rI t = -2 ↔ t = 101 := by
  unfold rI
  split
  · rename_i q
    exact ⟨fun _ => q, fun _ => rfl⟩
  · rename_i q
    refine ⟨fun z => ?_, fun z => absurd z q⟩
    have := congrArg Int32.toInt z
    rw [mI_t (by omega), show (-2 : Int32).toInt = -2 from rfl] at this
    omega
theorem s_earliest {g so : Nat → Int32} {w : Nat → Nat} {n M s a : Nat} {Q : Int32 → Prop} (hn : n < 7) (h0 : g 0 = nI n) (hg : ∀ e, e < 12 → g (46 + e) = mI (w e) ∧ w e ≤ 100) (hM : M < 2 ^ (2 * n)) (hs : s < 4096) (hso : so s = mI a) (ha : a < 101) (hQ : Q (mI (min 101 (ee a (tl w M 12))))) : wp_X11_earliest (nI s) (nI M) g so Q := by
  have ht := tl_le (w := w) (M := M) (k := 12) (fun x hx => (hg x hx).2)
  have is : vp_in (nI s) 4096 := vi (by omega) (by omega)
  unfold wp_X11_earliest wp_X11_earliest_b23 wp_X11_earliest_b49
  refine s_told hn h0 hg hM ?_
  generalize tl w M 12 = t at *
  unfold ee at hQ
  rw [rI_1 ht, rI_2 ht, nI_clamp (by omega), hso]
  refine br_c (fun z => ⟨is, ?_⟩) (fun z => br_c (fun z2 => ?_) (fun z2 => ⟨is, ?_⟩))
  · rw [if_pos z] at hQ
    rw [mI_1]
    refine br_f (by omega) ⟨is, br_f (fun q => ?_) (br_c (fun q => ?_) (fun q => ?_))⟩
    · rw [mI_le (by omega) (by omega)] at q; omega
    · rw [show (99 : Int32) = mI 100 from rfl, mI_le (by omega) (by omega)] at q
      rw [Nat.min_eq_right (by omega)] at hQ; exact hQ
    · rw [show (99 : Int32) = mI 100 from rfl, mI_le (by omega) (by omega)] at q
      rw [Nat.min_eq_left (by omega)] at hQ; exact hQ
  · rw [if_neg z, if_pos (by omega), z2] at hQ; exact hQ
  · have e : rI t = mI t := by unfold rI; rw [if_neg z2]
    rw [if_neg z] at hQ
    rw [e]
    refine br_c (fun q => ?_) (fun q => br_t ?_ ?_)
    · rw [mI_le (by omega) (by omega)] at q
      rw [if_neg (by omega)] at hQ; exact hQ
    · rw [show (99 : Int32) = mI 100 from rfl, mI_le (by omega) (by omega)]; omega
    · rw [mI_le (by omega) (by omega)] at q
      rw [if_pos (by omega), Nat.min_eq_right (by omega)] at hQ; exact hQ
theorem s_latest {g la : Nat → Int32} {w : Nat → Nat} {n M v b : Nat} {Q : Int32 → Prop} (hn : n < 7) (h0 : g 0 = nI n) (hg : ∀ e, e < 12 → g (46 + e) = mI (w e) ∧ w e ≤ 100) (hM : M < 2 ^ (2 * n)) (hv : v < 4096) (hla : la v = lI b) (hb : b ≤ 101) (hQ : Q (lI (lt_ b (tl w M 12)))) : wp_X11_latest (nI v) (nI M) g la Q := by
  have ht := tl_le (w := w) (M := M) (k := 12) (fun x hx => (hg x hx).2)
  have is : vp_in (nI v) 4096 := vi (by omega) (by omega)
  unfold wp_X11_latest
  refine s_told hn h0 hg hM ?_
  generalize tl w M 12 = t at *
  unfold lt_ at hQ
  rw [rI_1 ht, nI_clamp (by omega), hla]
  refine br_c (fun z => ⟨is, ?_⟩) (fun z => ⟨is, ?_⟩)
  · rw [if_pos z] at hQ; exact hQ
  · rw [if_neg z] at hQ
    by_cases q : t = 101
    · rw [if_neg (by omega)] at hQ
      refine br_t ?_ ?_
      · unfold rI; rw [if_pos q, Int32.le_iff_toInt_le, lI_t (by omega), show (-2 : Int32).toInt = -2 from rfl]; omega
      · unfold rI; rw [if_pos q]; exact hQ
    · have e : rI t = mI t := by unfold rI; rw [if_neg q]
      rw [e, Int32.le_iff_toInt_le, lI_t (by omega), mI_t (by omega)]
      refine br_c (fun r => ?_) (fun r => ?_)
      · rw [if_pos (by omega), lI_mI] at hQ; exact hQ
      · rw [if_neg (by omega)] at hQ; exact hQ
