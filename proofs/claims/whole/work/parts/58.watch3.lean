/-! the class's clock: what is told of the parts, a note, going on -/
def TQ (E : Nat → Nat) (q M e : Nat) : Prop := ∃ j, j < M ∧ q.testBit j = true ∧ e = E j
theorem s_joined {a b : Nat} {Q : Int32 → Prop} (ha : a ≤ 101) (hb : b ≤ 101) (hQ : Q (mI (joinN a b))) : wp_X1_joined (mI a) (mI b) Q := by
  unfold wp_X1_joined
  unfold joinN at hQ
  rw [mI_z (by omega), mI_eq (by omega) (by omega), mI_z (by omega)]
  refine br_c (fun z => ?_) (fun z => br_c (fun z2 => ?_) (fun z2 => br_c (fun z3 => ?_) (fun z3 => ?_)))
  · rw [if_pos (Or.inl z)] at hQ; exact hQ
  · rw [if_pos (Or.inr z2)] at hQ; exact hQ
  · rw [if_neg (fun q => by omega), if_pos z3] at hQ; exact hQ
  · rw [if_neg (fun q => by omega), if_neg z3] at hQ; exact hQ
theorem or_add {k m : Nat} (h : k < 2 ^ m) : k ||| 2 ^ m = 2 ^ m + k := by
  have := Nat.two_pow_add_eq_or_of_lt h 1
  rw [Nat.mul_one] at this
  rw [this, Nat.or_comm]
theorem s_findTold {w E : Nat → Nat} {L : Nat} {told me wa : Nat → Int32} {Q : (Nat → Int32) → Prop} (hL : L ≤ 6) (hme : ∀ j, j < L → me j = nI (E j) ∧ E j < 12 ∧ wa (E j) = mI (w (E j)) ∧ w (E j) ≤ 100)
    (hQ : ∀ told, (∀ q, q < 2 ^ L → ∃ t, told q = mI t ∧ TL w (TQ E q L) t) → Q told) : wp_X1_findTold told (nI L) me wa Q := by
  have main : ∀ (d m : Nat) (told : Nat → Int32), m + d = L → (∀ q, q < 2 ^ m → ∃ t, told q = mI t ∧ TL w (TQ E q m) t) → wp_X1_findTold_b9 Q (nI L) me wa (d + 1) (nI m) told := by
    intro d
    induction d with
    | zero =>
      intro m told hm h
      obtain rfl : m = L := by omega
      unfold wp_X1_findTold_b9
      exact br_t (nI_le (by omega) (by omega)) (hQ told h)
    | succ d ih =>
      intro m told hm h
      obtain ⟨e1, e2, e3, e4⟩ := hme m (by omega)
      have p64 : 2 ^ (m + 1) ≤ 64 := (Nat.pow_le_pow_right (by decide) (by omega : m + 1 ≤ 6))
      have p2 : 2 ^ (m + 1) = 2 ^ m + 2 ^ m := by rw [Nat.pow_succ]; omega
      have inner : ∀ (f k : Nat) (told : Nat → Int32), k + f = 2 ^ m → (∀ q, q < 2 ^ m + k → ∃ t, told q = mI t ∧ TL w (TQ E q (m + 1)) t) → wp_X1_findTold_b33 Q (wp_X1_findTold_b9 Q (nI L) me wa (d + 1)) (f + 1) (nI m) (mI (w (E m))) (nI k) told := by
        intro f
        induction f with
        | zero =>
          intro k told hk h
          obtain rfl : k = 2 ^ m := by omega
          unfold wp_X1_findTold_b33 wp_X1_findTold_b70
          rw [show (31 : Int32) = nI 31 from rfl, show (1 : Int32) = nI 1 from rfl, z_one (by omega), nI_add]
          exact br_t (nI_le (by omega) (by omega)) (ih (m + 1) told (by omega) (fun q hq => h q (by omega)))
        | succ f ihf =>
          intro k told hk h
          obtain ⟨t, ht, hT⟩ := h k (by omega)
          have t101 := TL_le hT
          unfold wp_X1_findTold_b33
          rw [show (31 : Int32) = nI 31 from rfl, show (1 : Int32) = nI 1 from rfl, z_one (by omega), fa_or, or_add (by omega), nI_clamp (by omega), nI_clamp (by omega), nI_add, ht]
          refine br_f (nI_ge (by omega) (by omega)) ⟨vi (by omega) (by omega), s_joined t101 (by omega) ⟨vi (by omega) (by omega), ?_⟩⟩
          refine ihf (k + 1) _ (by omega) (fun q hq => ?_)
          by_cases z : q = 2 ^ m + k
          · subst z
            rw [pk_us]
            refine ⟨_, rfl, TL_join e4 hT (fun e => ?_)⟩
            have bt : ∀ j, j < m + 1 → (2 ^ m + k).testBit j = (k.testBit j || decide (j = m)) := fun j hj => by
              rw [← or_add (by omega), Nat.testBit_or, Nat.testBit_two_pow]
              congr 1
              exact decide_eq_decide.mpr eq_comm
            constructor
            · rintro ⟨j, hj, hb, he⟩
              rw [bt j hj] at hb
              by_cases z : j = m
              · subst z; exact Or.inr he
              · rw [decide_eq_false z, Bool.or_false] at hb
                exact Or.inl ⟨j, hj, hb, he⟩
            · rintro (⟨j, hj, hb, he⟩ | he)
              · exact ⟨j, hj, by rw [bt j hj, hb]; rfl, he⟩
              · exact ⟨m, by omega, by rw [bt m (by omega), decide_eq_true rfl, Bool.or_true], he⟩
          · rw [pk_un z]
            exact h q (by omega)
      unfold wp_X1_findTold_b9
      rw [nI_clamp (by omega), e1, nI_clamp (by omega), e3]
      refine br_f (nI_ge (by omega) (by omega)) ⟨vi (by omega) (by omega), vi (by omega) (by omega), nm_e ⟨2 ^ m + 1, inner (2 ^ m) 0 told (by omega) (fun q hq => ?_)⟩⟩
      obtain ⟨t, ht, hT⟩ := h q hq
      refine ⟨t, ht, TL_c (fun e => ?_) hT⟩
      constructor
      · rintro ⟨j, hj, hb, he⟩; exact ⟨j, by omega, hb, he⟩
      · rintro ⟨j, hj, hb, he⟩
        by_cases z : j = m
        · subst z
          rw [Nat.testBit_lt_two_pow hq] at hb; cases hb
        · exact ⟨j, by omega, hb, he⟩
  unfold wp_X1_findTold
  refine ⟨vi (k := 0) (by omega) (by omega), L + 1, main L 0 _ (by omega) (fun q hq => ⟨0, ?_, TL_0 (fun e ⟨j, hj, _⟩ => absurd hj (Nat.not_lt_zero j))⟩)⟩
  obtain rfl : q = 0 := by omega
  rw [show (0 : Int32).toNatClampNeg = 0 from rfl, pk_us]; rfl
theorem ite_c {p q : Prop} [Decidable p] [Decidable q] {α : Type} {a b : α} (h : p ↔ q) : (if p then a else b) = if q then a else b := by
  by_cases hp : p
  · rw [if_pos hp, if_pos (h.mp hp)]
  · rw [if_neg hp, if_neg (fun z => hp (h.mpr z))]
/-- of a part: told is what the moment is told -/
theorem told_part {w : Nat → Nat} {lwv q t : Nat} {E : Nat → Nat} (hE : ∀ j, j < (pE lwv 12).length → E j = (pE lwv 12).getD j 0) (hw : ∀ e, e < 12 → w e ≤ 100) (hq : q < (pL lwv 12).length) (h : TL w (TQ E q (pE lwv 12).length) t) : t = tl w ((pL lwv 12).getD q 0) 12 := by
  refine TL_u h (TL_c (fun e => ?_) (tl_TL 12 hw))
  have hsb := pL_sb hq
  constructor
  · rintro ⟨h12, hb⟩
    have hm : e ∈ pE lwv 12 := (pE_mem lwv 12 e).mpr ⟨h12, (sb_iff.mp hsb) e hb⟩
    obtain ⟨j, hj, he⟩ := List.mem_iff_getElem.mp hm
    have hg : (pE lwv 12).getD j 0 = e := by rw [List.getD_eq_getElem?_getD, List.getElem?_eq_getElem hj]; exact he
    refine ⟨j, hj, ?_, by rw [hE j hj, hg]⟩
    have := pL_bit lwv 12 q j hq hj
    rw [hg, hb] at this
    exact this.symm
  · rintro ⟨j, hj, hb, he⟩
    rw [hE j hj] at he
    have h1 := pE_get lwv 12 j hj
    have := pL_bit lwv 12 q j hq hj
    rw [← he] at h1 this
    exact ⟨h1.1, by rw [this, hb]⟩
theorem s_note {c lo hi : Nat} {so la : Nat → Int32} {S T : Nat → Nat} {Q : (Nat → Int32) → (Nat → Int32) → Prop} (hc : c < 4096) (hlo : lo ≤ 101) (hhi : hi ≤ 101) (hS : ∀ x, x < 12 → so x = mI (S x) ∧ S x ≤ 101) (hT : ∀ x, x < 12 → la x = mI (T x) ∧ T x ≤ 101)
    (hQ : ∀ so' la' : Nat → Int32, (∀ x, x < 12 → so' x = mI (if c.testBit x = true then (if S x = 0 then lo else min (S x) lo) else S x)) → (∀ x, x < 12 → la' x = mI (if c.testBit x = true then max (T x) hi else T x)) → Q so' la') : wp_X1_note (nI c) (mI lo) (mI hi) so la Q := by
  have main : ∀ (d x : Nat) (so' la' : Nat → Int32), x + d = 12 → (∀ y, y < 12 → so' y = mI (if y < x ∧ c.testBit y = true then (if S y = 0 then lo else min (S y) lo) else S y)) → (∀ y, y < 12 → la' y = mI (if y < x ∧ c.testBit y = true then max (T y) hi else T y)) → wp_X1_note_b3 Q (d + 1) (nI c) (mI lo) (mI hi) (nI x) so' la' := by
    intro d
    induction d with
    | zero =>
      intro x so' la' hx h1 h2
      obtain rfl : x = 12 := by omega
      unfold wp_X1_note_b3
      refine br_t (nI_le (a := 12) (by omega) (by omega)) (hQ so' la' (fun y hy => ?_) (fun y hy => ?_))
      · rw [h1 y hy]; simp only [hy, true_and]
      · rw [h2 y hy]; simp only [hy, true_and]
    | succ d ih =>
      intro x so' la' hx h1 h2
      have a1 := h1 x (by omega)
      have a2 := h2 x (by omega)
      rw [if_neg (fun q => by omega)] at a1 a2
      obtain ⟨s1, s2⟩ := hS x (by omega)
      obtain ⟨t1, t2⟩ := hT x (by omega)
      have ix : vp_in (nI x) 12 := vi (by omega) (by omega)
      have go : ∀ (u v : Nat), u = (if c.testBit x = true then (if S x = 0 then lo else min (S x) lo) else S x) → v = (if c.testBit x = true then max (T x) hi else T x) → wp_X1_note_b3 Q (d + 1) (nI c) (mI lo) (mI hi) (nI (x + 1)) (upd so' x (mI u)) (upd la' x (mI v)) := by
        intro u v hu hv
        refine ih (x + 1) _ _ (by omega) (fun y hy => ?_) (fun y hy => ?_)
        · by_cases z : y = x
          · subst z; rw [pk_us, hu]; simp only [Nat.lt_succ_self, true_and]
          · rw [pk_un z, h1 y hy]; exact congrArg mI (ite_c ⟨fun q => ⟨by omega, q.2⟩, fun q => ⟨by omega, q.2⟩⟩)
        · by_cases z : y = x
          · subst z; rw [pk_us, hv]; simp only [Nat.lt_succ_self, true_and]
          · rw [pk_un z, h2 y hy]; exact congrArg mI (ite_c ⟨fun q => ⟨by omega, q.2⟩, fun q => ⟨by omega, q.2⟩⟩)
      unfold wp_X1_note_b3 wp_X1_note_b52 wp_X1_note_b71
      rw [show (31 : Int32) = nI 31 from rfl, show (1 : Int32) = nI 1 from rfl, z_bit (by omega) (by omega), bI_1, nI_clamp (by omega), a1, a2, show (-nI 1 : Int32) = -1 from rfl, mI_z (by omega), nI_add]
      refine br_f (nI_ge (b := 12) (by omega) (by omega)) (br_c (fun z => ⟨ix, br_c (fun z2 => ⟨ix, ix, nm_e ⟨ix, ?_⟩⟩) (fun z2 => ⟨ix, ix, ix, nm_e ⟨ix, ?_⟩⟩)⟩) (fun z => ?_))
      · have := go lo (max (T x) hi) (by rw [if_pos z, if_pos z2]) (by rw [if_pos z])
        by_cases q : T x < hi
        · rw [Nat.max_eq_right (by omega)] at this; rw [if_pos ((mI_lt (by omega) (by omega)).mpr q)]; exact this
        · rw [Nat.max_eq_left (by omega)] at this; rw [if_neg (fun z => q ((mI_lt (by omega) (by omega)).mp z))]; exact this
      · have := go (min (S x) lo) (max (T x) hi) (by rw [if_pos z, if_neg z2]) (by rw [if_pos z])
        by_cases q : T x < hi
        · rw [Nat.max_eq_right (by omega)] at this; rw [if_pos ((mI_lt (by omega) (by omega)).mpr q)]
          by_cases r : lo < S x
          · rw [Nat.min_eq_right (by omega)] at this; rw [if_pos ((mI_lt (by omega) (by omega)).mpr r)]; exact this
          · rw [Nat.min_eq_left (by omega)] at this; rw [if_neg (fun z => r ((mI_lt (by omega) (by omega)).mp z))]; exact this
        · rw [Nat.max_eq_left (by omega)] at this; rw [if_neg (fun z => q ((mI_lt (by omega) (by omega)).mp z))]
          by_cases r : lo < S x
          · rw [Nat.min_eq_right (by omega)] at this; rw [if_pos ((mI_lt (by omega) (by omega)).mpr r)]; exact this
          · rw [Nat.min_eq_left (by omega)] at this; rw [if_neg (fun z => r ((mI_lt (by omega) (by omega)).mp z))]; exact this
      · have := go (S x) (T x) (by rw [if_neg z]) (by rw [if_neg z])
        rw [← a1, ← a2] at this
        have u1 : ∀ f : Nat → Int32, upd f x (f x) = f := fun f => by
          funext y
          by_cases r : y = x
          · rw [r, pk_us]
          · rw [pk_un r]
        rw [u1, u1] at this
        exact this
  unfold wp_X1_note
  refine ⟨13, main 12 0 so la rfl (fun y hy => ?_) (fun y hy => ?_)⟩
  · rw [if_neg (fun q => Nat.not_lt_zero y q.1)]; exact (hS y hy).1
  · rw [if_neg (fun q => Nat.not_lt_zero y q.1)]; exact (hT y hy).1
