/-! states: sets of ends; their places; what may come next -/
def vl (s : Nat) : Bool := sb (s / 2 &&& 1365) s
def tA : List Nat := [0, 1, 3, 4, 5, 7, 12, 13, 15, 16, 17, 19, 20, 21, 23, 28, 29, 31, 48, 49, 51, 52, 53, 55, 60, 61, 63]
def tP : List Nat := [0, 1, 0, 2, 3, 4, 3, 5, 0, 1, 0, 2, 6, 7, 6, 8, 9, 10, 9, 11, 12, 13, 12, 14, 9, 10, 9, 11, 15, 16, 15, 17, 0, 1, 0, 2, 3, 4, 3, 5, 0, 1, 0, 2, 6, 7, 6, 8, 18, 19, 18, 20, 21, 22, 21, 23, 18, 19, 18, 20, 24, 25, 24, 26]
def sAt (i : Nat) : Nat := tA.getD (i % 27) 0 + 64 * tA.getD (i / 27) 0
def pOf (s : Nat) : Nat := tP.getD (s % 64) 0 + 27 * tP.getD (s / 64 % 64) 0
theorem tA_lt : ∀ j, j < 27 → tA.getD j 0 < 64 ∧ nw_SET_AT j = nI (tA.getD j 0) := by decide +kernel
theorem tP_lt : ∀ j, j < 64 → tP.getD j 0 < 27 ∧ nw_PLACE_OF j = nI (tP.getD j 0) := by decide +kernel
theorem nw_SETS_at : ∀ n, n < 7 → nw_SETS n = nI (3 ^ n) := by decide +kernel
theorem sAt_all : ∀ i, i < 729 → pOf (sAt i) = i ∧ sAt i < 4096 ∧ vl (sAt i) = true := by decide +kernel
set_option maxRecDepth 100000 in
theorem pOf_all : ∀ s, s < 4096 → vl s = true → sAt (pOf s) = s ∧ pOf s < 729 := by decide +kernel
theorem sAt_step : ∀ i, i < 728 → sAt i < sAt (i + 1) := by decide +kernel
theorem sAt_full : ∀ n, n < 7 → sAt (3 ^ n - 1) = 2 ^ (2 * n) - 1 := by decide +kernel
theorem sAt_0 : sAt 0 = 0 := by decide +kernel
theorem sAt_mono : ∀ {i j : Nat}, i < j → j < 729 → sAt i < sAt j := by
  intro i j hij hj
  induction j with
  | zero => omega
  | succ j ih =>
    have h := sAt_step j (by omega)
    rcases Nat.lt_or_ge i j with q | q
    · exact Nat.lt_trans (ih q (by omega)) h
    · rw [show i = j by omega]; exact h
theorem sAt_lt_iff {i j : Nat} (hi : i < 729) (hj : j < 729) : sAt i < sAt j ↔ i < j := by
  constructor
  · intro h
    rcases Nat.lt_trichotomy i j with q | q | q
    · exact q
    · subst q; omega
    · have := sAt_mono q hi; omega
  · intro h; exact sAt_mono h hj
theorem p3_le {n : Nat} (hn : n < 7) : 3 ^ n ≤ 729 := by
  have : 3 ^ n ≤ 3 ^ 6 := Nat.pow_le_pow_right (by decide) (by omega)
  exact this
theorem p4_le {n : Nat} (hn : n < 7) : 2 ^ (2 * n) ≤ 4096 := by
  have : 2 ^ (2 * n) ≤ 2 ^ 12 := Nat.pow_le_pow_right (by decide) (by omega)
  exact this
theorem sAt_lt_N {n i : Nat} (hn : n < 7) (hi : i < 729) : sAt i < 2 ^ (2 * n) ↔ i < 3 ^ n := by
  have h3 := p3_le hn
  have h0 : 0 < 3 ^ n := Nat.pow_pos (by decide)
  have h1 : 0 < 2 ^ (2 * n) := Nat.two_pow_pos _
  have e := sAt_full n hn
  constructor
  · intro h
    rcases Nat.lt_or_ge i (3 ^ n) with q | q
    · exact q
    · have := sAt_mono (i := 3 ^ n - 1) (j := i) (by omega) hi
      omega
  · intro h
    rcases Nat.lt_or_ge i (3 ^ n - 1) with q | q
    · have := sAt_mono q (by omega)
      omega
    · rw [show i = 3 ^ n - 1 by omega, e]; omega
theorem pOf_lt_N {n s : Nat} (hn : n < 7) (hs : s < 2 ^ (2 * n)) (hv : vl s = true) : pOf s < 3 ^ n ∧ sAt (pOf s) = s := by
  have h := p4_le hn
  obtain ⟨h1, h2⟩ := pOf_all s (by omega) hv
  exact ⟨(sAt_lt_N hn h2).mp (by rw [h1]; exact hs), h1⟩
theorem tb_1365 : ∀ e, e < 16 → Nat.testBit 1365 e = (decide (e < 12) && decide (e % 2 = 0)) := by decide +kernel
theorem vl_iff {s : Nat} (hs : s < 4096) : vl s = true ↔ ∀ t, s.testBit (2 * t + 1) = true → s.testBit (2 * t) = true := by
  unfold vl
  rw [sb_iff]
  have hb : ∀ e, 12 ≤ e → s.testBit e = false := fun e he => Nat.testBit_lt_two_pow (Nat.lt_of_lt_of_le hs (Nat.pow_le_pow_right (by decide : 2 > 0) he))
  constructor
  · intro h t ht
    refine h (2 * t) ?_
    have h12 : 2 * t + 1 < 12 := by
      rcases Nat.lt_or_ge (2 * t + 1) 12 with q | q
      · exact q
      · rw [hb _ q] at ht; cases ht
    rw [Nat.testBit_and, tb_1365 (2 * t) (by omega), ← Nat.testBit_succ, ht]
    simp; omega
  · intro h e he
    rw [Nat.testBit_and, ← Nat.testBit_succ, Bool.and_eq_true] at he
    have h12 : e + 1 < 12 := by
      rcases Nat.lt_or_ge (e + 1) 12 with q | q
      · exact q
      · rw [hb _ q] at he; exact absurd he.1 (by decide)
    have h3 := he.2
    rw [tb_1365 e (by omega)] at h3
    simp at h3
    have e2 : e = 2 * (e / 2) := by omega
    rw [e2] at he ⊢
    exact h (e / 2) he.1
/-- the next ends -/
def nx (s : Nat) : Nat → Nat
  | 0 => 0
  | t + 1 => nx s t + (if s.testBit (2 * t + 1) = true then 0 else if s.testBit (2 * t) = true then 2 ^ (2 * t + 1) else 2 ^ (2 * t))
theorem nx_lt (s : Nat) : ∀ n, nx s n < 2 ^ (2 * n)
  | 0 => by simp [nx]
  | n + 1 => by
    have := nx_lt s n
    have e1 : 2 ^ (2 * (n + 1)) = 2 ^ (2 * n) * 4 := by rw [show 2 * (n + 1) = 2 * n + 2 by omega, Nat.pow_add]
    have e2 : 2 ^ (2 * n + 1) = 2 ^ (2 * n) * 2 := by rw [Nat.pow_add]
    rw [nx]
    split
    · omega
    · split <;> omega
theorem tb_small {c x e : Nat} (h : c < 2 ^ x) (he : x ≤ e) : c.testBit e = false :=
  Nat.testBit_lt_two_pow (Nat.lt_of_lt_of_le h (Nat.pow_le_pow_right (by decide) he))
theorem tb_add1 {c x e : Nat} (h : c < 2 ^ x) : (c + 2 ^ (x + 1)).testBit e = (c.testBit e || decide (e = x + 1)) :=
  tb_add (Nat.lt_of_lt_of_le h (Nat.pow_le_pow_right (by decide) (by omega)))
theorem nx_bit (s : Nat) : ∀ n t, t < n → (nx s n).testBit (2 * t) = (!s.testBit (2 * t) && !s.testBit (2 * t + 1)) ∧ (nx s n).testBit (2 * t + 1) = (s.testBit (2 * t) && !s.testBit (2 * t + 1))
  | 0, t, h => absurd h (Nat.not_lt_zero t)
  | n + 1, t, h => by
    have hl := nx_lt s n
    rw [nx]
    by_cases q : t < n
    · obtain ⟨h1, h2⟩ := nx_bit s n t q
      split
      · exact ⟨h1, h2⟩
      · split
        · rw [tb_add1 hl, tb_add1 hl, h1, h2, decide_eq_false (by omega), decide_eq_false (by omega), Bool.or_false, Bool.or_false]; exact ⟨rfl, rfl⟩
        · rw [tb_add hl, tb_add hl, h1, h2, decide_eq_false (by omega), decide_eq_false (by omega), Bool.or_false, Bool.or_false]; exact ⟨rfl, rfl⟩
    · obtain rfl : t = n := by omega
      have z1 := tb_small hl (Nat.le_refl (2 * t))
      have z2 := tb_small hl (Nat.le_succ (2 * t))
      split
      · rename_i a
        rw [Nat.add_zero, z1, z2, a]; simp
      · rename_i a
        have a : s.testBit (2 * t + 1) = false := by simpa using a
        split
        · rename_i b
          rw [tb_add1 hl, tb_add1 hl, z1, z2, a, b, decide_eq_false (by omega), decide_eq_true rfl]; exact ⟨rfl, rfl⟩
        · rename_i b
          have b : s.testBit (2 * t) = false := by simpa using b
          rw [tb_add hl, tb_add hl, z1, z2, a, b, decide_eq_true rfl, decide_eq_false (by omega)]; exact ⟨rfl, rfl⟩
theorem nx_hi {s n e : Nat} (h : 2 * n ≤ e) : (nx s n).testBit e = false := tb_small (nx_lt s n) h
/-- a moment M behind s: its bits -/
theorem mo_bits {s n M : Nat} (h : sb M (nx s n) = true) : ∀ t, (M.testBit (2 * t) = true → t < n ∧ s.testBit (2 * t) = false ∧ s.testBit (2 * t + 1) = false) ∧ (M.testBit (2 * t + 1) = true → t < n ∧ s.testBit (2 * t) = true ∧ s.testBit (2 * t + 1) = false) := by
  intro t
  constructor
  · intro hm
    have := sb_iff.mp h _ hm
    by_cases q : t < n
    · rw [(nx_bit s n t q).1] at this; simp at this; exact ⟨q, this⟩
    · rw [nx_hi (by omega)] at this; cases this
  · intro hm
    have := sb_iff.mp h _ hm
    by_cases q : t < n
    · rw [(nx_bit s n t q).2] at this; simp at this; exact ⟨q, this⟩
    · rw [nx_hi (by omega)] at this; cases this
theorem mo_lt {s n M : Nat} (h : sb M (nx s n) = true) : M < 2 ^ (2 * n) := Nat.lt_of_le_of_lt (sb_le h) (nx_lt s n)
theorem mo_apart {s n M : Nat} (h : sb M (nx s n) = true) : s &&& M = 0 := by
  apply Nat.eq_of_testBit_eq
  intro e
  rw [Nat.testBit_and, Nat.zero_testBit]
  have hm := mo_bits h (e / 2)
  cases q : M.testBit e with
  | false => simp
  | true =>
    rcases Nat.mod_two_eq_zero_or_one e with z | z
    · have e1 : 2 * (e / 2) = e := by omega
      rw [e1] at hm
      rw [(hm.1 q).2.1]; rfl
    · have e1 : 2 * (e / 2) + 1 = e := by omega
      rw [e1] at hm
      rw [(hm.2 q).2.2]; rfl
theorem mo_add {s n M : Nat} (h : sb M (nx s n) = true) : s + M = s ||| M := (z_add_or (mo_apart h)).symm
theorem mo_bit {s n M : Nat} (h : sb M (nx s n) = true) (e : Nat) : (s + M).testBit e = (s.testBit e || M.testBit e) := by
  rw [mo_add h, Nat.testBit_or]
theorem mo_N {s n M : Nat} (hs : s < 2 ^ (2 * n)) (h : sb M (nx s n) = true) : s + M < 2 ^ (2 * n) := by
  rw [mo_add h]; exact Nat.or_lt_two_pow hs (mo_lt h)
theorem mo_vl {s n M : Nat} (hn : n < 7) (hs : s < 2 ^ (2 * n)) (hv : vl s = true) (h : sb M (nx s n) = true) : vl (s + M) = true := by
  have h4 := p4_le hn
  have hN := mo_N hs h
  rw [vl_iff (by omega)] at hv ⊢
  intro t ht
  rw [mo_bit h, Bool.or_eq_true] at ht ⊢
  rcases ht with ht | ht
  · exact Or.inl (hv t ht)
  · exact Or.inl ((mo_bits h t).2 ht).2.1
/-- at most one end of each thing is next -/
theorem nx_6 {s n M : Nat} (hn : n < 7) (h : sb M (nx s n) = true) : (pE M 12).length ≤ 6 :=
  pE_half (fun t ht => by
    have h1 := ((mo_bits h t).1 ht.1).2.1
    have h2 := ((mo_bits h t).2 ht.2).2.1
    rw [h1] at h2; cases h2) 6
/-! the class's words for them -/
theorem e_setAt {i : Nat} {Q : Int32 → Prop} (h : i < 729) : wp_X10_setAt (nI i) Q ↔ Q (nI (sAt i)) := by
  have h1 := tA_lt (i % 27) (by omega)
  have h2 := tA_lt (i / 27) (by omega)
  unfold wp_X10_setAt
  rw [zl 27, pk_rem (by omega) (by omega) (by omega), pk_div (by omega) (by omega) (by omega), nI_clamp (by omega), nI_clamp (by omega), z_in (by omega), z_in (by omega), h1.2, h2.2, zl 6, zl 31]
  rw [z_shl (by omega) (by omega), fa_or]
  have e : tA.getD (i % 27) 0 ||| tA.getD (i / 27) 0 * 2 ^ 6 = sAt i := by
    have := Nat.two_pow_add_eq_or_of_lt (i := 6) h1.1 (tA.getD (i / 27) 0)
    unfold sAt
    rw [Nat.or_comm, Nat.mul_comm, ← this]; omega
  rw [e]
  exact ⟨fun h => h.2.2, fun h => ⟨by omega, by omega, h⟩⟩
theorem e_placeOf {s : Nat} {Q : Int32 → Prop} (h : s < 4096) : wp_X10_placeOf (nI s) Q ↔ Q (nI (pOf s)) := by
  have h1 := tP_lt (s % 64) (by omega)
  have h2 := tP_lt (s / 64 % 64) (by omega)
  have e63 : (63 : Nat) = 2 ^ 6 - 1 := rfl
  unfold wp_X10_placeOf
  rw [zl 63, zl 27, zl 6, zl 31, z_shr (by omega) (by omega)]
  have m1 : nI s &&& nI 63 = nI (s % 64) := fa_mask s 6
  have m2 : nI (s / 2 ^ 6) &&& nI 63 = nI (s / 64 % 64) := fa_mask (s / 64) 6
  rw [m1, m2, nI_clamp (by omega), nI_clamp (by omega), h1.2, h2.2, pk_mul, nI_add]
  exact ⟨fun h => h.2.2, fun h => ⟨(z_in (by omega)).mpr (by omega), (z_in (by omega)).mpr (by omega), h⟩⟩
