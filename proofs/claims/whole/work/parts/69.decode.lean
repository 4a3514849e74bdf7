/-! the codes of the picks -/
def dgt (k c d : Nat) : Nat := c / k ^ d % k
def sD (k c : Nat) : Nat → Nat
  | 0 => 0
  | d + 1 => sD k c d ||| 2 ^ dgt k c d
theorem sD_lt {k c : Nat} (hk : 0 < k) : ∀ d, sD k c d < 2 ^ k
  | 0 => Nat.two_pow_pos k
  | d + 1 => Nat.or_lt_two_pow (sD_lt hk d) (Nat.pow_lt_pow_right (by decide) (Nat.mod_lt _ hk))
theorem s_decode {k c : Nat} {pick : Nat → Int32} {Q : Int32 → (Nat → Int32) → Prop} (hk0 : 0 < k) (hk : k < 4) (hc : c < 2 ^ 31)
    (hQ : ∀ pick : Nat → Int32, (∀ j, j < k → pick j = nI (dgt k c (k - 1 - j))) → Q (bI (sD k c k == 2 ^ k - 1)) pick) : wp_X5_decode (nI c) (nI k) pick Q := by
  have k0 : ¬ nI k = 0 := nI_ne0 hk0 (by omega)
  have main : ∀ (i d : Nat) (pick : Nat → Int32), i + d = k → (∀ j, i ≤ j → j < k → pick j = nI (dgt k c (k - 1 - j))) → wp_X5_decode_b12 Q (nI k) (i + 1) (nI (c / k ^ d)) (nI (sD k c d)) (nI i + (-1)) pick := by
    intro i
    induction i with
    | zero =>
      intro d pick hd h
      obtain rfl : d = k := by omega
      have h8 : 2 ^ d ≤ 8 := Nat.pow_le_pow_right (n := 2) (by decide) (by omega : d ≤ 3)
      have hs := sD_lt (c := c) hk0 d
      unfold wp_X5_decode_b12 wp_X5_decode_b55
      refine br_t (by decide) ?_
      rw [show (31 : Int32) = nI 31 from rfl, show (1 : Int32) = nI 1 from rfl, z_one (by omega), pk_sub (Nat.two_pow_pos d), nI_eq (by omega) (by omega)]
      have := hQ pick (fun j hj => h j (Nat.zero_le j) hj)
      refine br_c (fun z => ?_) (fun z => ?_)
      · rw [show (sD d c d == 2 ^ d - 1) = true from beq_iff_eq.mpr z] at this; exact this
      · rw [show (sD d c d == 2 ^ d - 1) = false from beq_eq_false_iff_ne.mpr z] at this; exact this
    | succ i ih =>
      intro d pick hd h
      have hdiv : c / k ^ d ≤ c := Nat.div_le_self _ _
      have hmod : c / k ^ d % k < k := Nat.mod_lt _ hk0
      have e1 : c / k ^ d / k = c / k ^ (d + 1) := by rw [Nat.div_div_eq_div_mul, Nat.pow_succ]
      unfold wp_X5_decode_b12
      rw [pk_m1]
      refine br_f (nI_pos (by omega)) ⟨k0, vi (by omega) (by omega), k0, vi (by omega) (by omega), ?_⟩
      rw [pk_rem (by omega) hk0 (by omega), pk_div (by omega) hk0 (by omega), nI_clamp (n := i) (by omega), pk_us, e1, show (31 : Int32) = nI 31 from rfl, show (1 : Int32) = nI 1 from rfl, z_one (by omega), fa_or]
      refine nm_e ?_
      refine ih (d + 1) _ (by omega) (fun j h1 h2 => ?_)
      by_cases z : j = i
      · subst z
        rw [pk_us, show k - 1 - j = d by omega]; rfl
      · rw [pk_un z]; exact h j (by omega) h2
  unfold wp_X5_decode
  have := main k 0 pick (by omega) (fun j h1 h2 => by omega)
  rw [Nat.pow_zero, Nat.div_one] at this
  refine ⟨k + 1, ?_⟩
  rw [Int32.sub_eq_add_neg]
  exact this
theorem s_keep {k : Nat} {pk t : Nat → Nat} {mate there pick : Nat → Int32} {Q : (Nat → Int32) → Prop} (hk : k < 7) (hpk : ∀ j, j < k → pick j = nI (pk j) ∧ pk j < 6 ∧ there (pk j) = nI (t j))
    (hQ : ∀ mate : Nat → Int32, (∀ j, j < k → mate j = nI (t j)) → Q mate) : wp_X5_keepPicked (nI k) mate there pick Q := by
  have main : ∀ (d j : Nat) (mate : Nat → Int32), j + d = k → (∀ i, i < j → mate i = nI (t i)) → wp_X5_keepPicked_b2 Q (nI k) there pick (d + 1) (nI j) mate := by
    intro d
    induction d with
    | zero =>
      intro j mate hj h
      obtain rfl : j = k := by omega
      unfold wp_X5_keepPicked_b2
      exact br_t (nI_le (by omega) (by omega)) (hQ mate h)
    | succ d ih =>
      intro j mate hj h
      obtain ⟨p1, p2, p3⟩ := hpk j (by omega)
      unfold wp_X5_keepPicked_b2
      rw [nI_clamp (n := j) (by omega), p1, nI_clamp (n := pk j) (by omega), p3, nI_1]
      refine br_f (nI_ge (by omega) (by omega)) ⟨vi (by omega) (by omega), vi (by omega) (by omega), nm_e ⟨vi (by omega) (by omega), ih (j + 1) _ (by omega) (fun i hi => ?_)⟩⟩
      by_cases z : i = j
      · rw [z, pk_us]
      · rw [pk_un z]; exact h i (by omega)
  unfold wp_X5_keepPicked
  exact ⟨k + 1, main k 0 mate (by omega) (fun i hi => absurd hi (Nat.not_lt_zero i))⟩
