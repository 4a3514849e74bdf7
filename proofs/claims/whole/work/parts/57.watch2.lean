theorem ee_lt {a t : Nat} (h : ee a t < 101) : a < 101 := by
  unfold ee at h
  split at h
  · omega
  · split at h <;> omega
theorem hh_le {a t : Nat} : hh a t ≤ a := by
  unfold hh
  split
  · omega
  · split <;> omega
theorem hh_mono {a b t : Nat} (h : a ≤ b) : hh a t ≤ hh b t := by
  unfold hh
  split
  · omega
  · split
    · rw [if_pos (by omega)]; omega
    · omega
/-- sets that break a demand are not come to -/
theorem sn_br {n : Nat} {K : Nat → Nat → Bool} {br : Nat → Bool} {lw : Nat → Nat} {w : Nat → Nat} (h : CG n K br lw) : ∀ v, v < 2 ^ (2 * n) → sn K w n v < 101 → vl v = true ∧ br v = false := by
  intro v
  induction v using Nat.strongRecOn with
  | ind v ih =>
    intro hv hs
    by_cases z : v = 0
    · subst z; exact ⟨by decide, h.2.1⟩
    · obtain ⟨s, h1, h2, h3⟩ := (sn_IM z).2.2 hs
      have h4 := ih s h1 (by omega) (ee_lt (by rw [← h3]; exact hs))
      obtain ⟨e1, e2, e3, e4, -⟩ := ed_1 h2
      have h5 := (h.2.2.2 s (v - s) (by omega) h4.1 h4.2 e3).mp e4
      have h6 := mo_vl h.1 (by omega : s < 2 ^ (2 * n)) h4.1 e3
      rw [show s + (v - s) = v by omega] at h5 h6
      exact ⟨h6, h5.1⟩
theorem ed_of {n : Nat} {K : Nat → Nat → Bool} {br : Nat → Bool} {lw : Nat → Nat} (h : CG n K br lw) {v c : Nat} (hv : v < 2 ^ (2 * n)) (hvl : vl v = true) (hb : br v = false) (hc : sb c (lw v) = true) (h0 : c ≠ 0) (hs : br (v - c) = false) : ed K n (v - c) c ≠ 0 := by
  obtain ⟨c1, c2, c3⟩ := h.2.2.1 v hv hvl c hc
  have hle := sb_le c1
  have := (h.2.2.2 (v - c) c (by omega) c2 hs c3).mpr (by rw [show v - c + c = v by omega]; exact ⟨hb, hc⟩)
  rw [ed_eq ⟨c2, h0, c3⟩, if_pos this]; omega
theorem of_ed {n : Nat} {K : Nat → Nat → Bool} {br : Nat → Bool} {lw : Nat → Nat} (h : CG n K br lw) {s c : Nat} (hs : s < 2 ^ (2 * n)) (hb : br s = false) (he : ed K n s c ≠ 0) : br (s + c) = false ∧ sb c (lw (s + c)) = true ∧ c ≠ 0 ∧ s + c < 2 ^ (2 * n) ∧ vl (s + c) = true := by
  obtain ⟨e1, e2, e3, e4, -⟩ := ed_1 he
  have h5 := (h.2.2.2 s c hs e1 hb e3).mp e4
  exact ⟨h5.1, h5.2, e2, ed_E s c hs he, mo_vl h.1 hs e1 e3⟩
theorem sn_edge {K : Nat → Nat → Bool} {w : Nat → Nat} {n s c : Nat} (he : ed K n s c ≠ 0) : sn K w n (s + c) ≤ ee (sn K w n s) (tl w c 12) := by
  have h0 : c ≠ 0 := (ed_1 he).2.1
  exact (sn_IM (K := K) (w := w) (n := n) (v := s + c) (by omega)).2.1 _ ⟨s, by omega, by rw [show s + c - s = c by omega]; exact he, by rw [show s + c - s = c by omega]⟩
theorem mo_101 {K : Nat → Nat → Bool} {w : Nat → Nat} {n : Nat} {a : Bool} : ∀ d s, s + d = 2 ^ (2 * n) - 1 → mo1 K w n a s ≤ 101 := by
  intro d
  induction d using Nat.strongRecOn with
  | ind d ih =>
    intro s hs
    have hN : 0 < 2 ^ (2 * n) := Nat.two_pow_pos _
    by_cases z : s = 2 ^ (2 * n) - 1
    · rw [z, mo1_full]; omega
    · by_cases q : (a || decide (sn K w n s < 101)) = true
      · have h1 := mo1_IX (K := K) (w := w) (by omega : s < 2 ^ (2 * n)) z q
        rcases Nat.eq_zero_or_pos (mo1 K w n a s) with h2 | h2
        · omega
        · obtain ⟨c, hc, -, he, hx⟩ := h1.2 h2
          have h3 := ed_E s c (by omega) he
          have := ih (2 ^ (2 * n) - 1 - (s + c)) (by omega) (s + c) (by omega)
          have := hh_le (a := mo1 K w n a (s + c)) (t := tl w c 12)
          omega
      · cases a with
        | true => exact absurd rfl q
        | false => rw [mo1_un z (by simpa using q)]; omega
theorem mo_le {K : Nat → Nat → Bool} {w : Nat → Nat} {n : Nat} : ∀ d s, s + d = 2 ^ (2 * n) - 1 → mo1 K w n false s ≤ mo1 K w n true s ∧ (sn K w n s < mo1 K w n true s → mo1 K w n false s = mo1 K w n true s) := by
  intro d
  induction d using Nat.strongRecOn with
  | ind d ih =>
    intro s hs
    have hN : 0 < 2 ^ (2 * n) := Nat.two_pow_pos _
    by_cases z : s = 2 ^ (2 * n) - 1
    · rw [z, mo1_full, mo1_full]; exact ⟨by omega, fun _ => rfl⟩
    · have hA := mo1_IX (K := K) (w := w) (a := true) (by omega : s < 2 ^ (2 * n)) z rfl
      have h101 := mo_101 (K := K) (w := w) (n := n) (a := true) d s hs
      have hle : mo1 K w n false s ≤ mo1 K w n true s := by
        by_cases q : sn K w n s < 101
        · have hB := mo1_IX (K := K) (w := w) (a := false) (by omega : s < 2 ^ (2 * n)) z (by rw [decide_eq_true q]; rfl)
          rcases Nat.eq_zero_or_pos (mo1 K w n false s) with h2 | h2
          · omega
          · obtain ⟨c, hc, hc2, he, hx⟩ := hB.2 h2
            have h3 := ed_E s c (by omega) he
            have h4 := (ih (2 ^ (2 * n) - 1 - (s + c)) (by omega) (s + c) (by omega)).1
            have h5 := hh_mono (t := tl w c 12) h4
            have h6 := hA.1 _ ⟨c, hc, hc2, he, rfl⟩
            omega
        · rw [mo1_un z q]; omega
      refine ⟨hle, fun hsn => ?_⟩
      have q : sn K w n s < 101 := by omega
      have hB := mo1_IX (K := K) (w := w) (a := false) (by omega : s < 2 ^ (2 * n)) z (by rw [decide_eq_true q]; rfl)
      obtain ⟨c, hc, hc2, he, hx⟩ := hA.2 (by omega)
      have h3 := ed_E s c (by omega) he
      have hed := sn_edge (w := w) he
      have h4 := (ih (2 ^ (2 * n) - 1 - (s + c)) (by omega) (s + c) (by omega)).2
      have h6 := hB.1 _ ⟨c, hc, hc2, he, rfl⟩
      have h7 : sn K w n (s + c) < mo1 K w n true (s + c) := by
        unfold hh at hx
        unfold ee at hed
        split at hx
        · rename_i t0; rw [if_pos t0] at hed; omega
        · rename_i t0
          rw [if_neg t0] at hed
          split at hx
          · rw [if_pos (by omega)] at hed; omega
          · omega
      rw [h4 h7, ← hx] at h6
      omega
/-- what is noted of a moment -/
def lo_ (a t : Nat) : Nat := if t = 0 then a + 1 else t
def hi_ (b t : Nat) : Nat := if t = 0 then b - 1 else t
def nOk (a b t : Nat) : Prop := if t = 0 then a + 1 < b else a < t ∧ t < b
def NP (K : Nat → Nat → Bool) (w : Nat → Nat) (n x s c : Nat) : Prop := s < 2 ^ (2 * n) ∧ ed K n s c ≠ 0 ∧ c.testBit x = true ∧ nOk (sn K w n s) (mo1 K w n true (s + c)) (tl w c 12)
/-- the least of some (0: there is none) -/
def IZ (P : Nat → Prop) (m : Nat) : Prop := (m = 0 ∧ ∀ x, ¬ P x) ∨ (P m ∧ ∀ x, P x → m ≤ x)
theorem IZ_u {P : Nat → Prop} {m m' : Nat} (h : IZ P m) (h' : IZ P m') : m = m' := by
  rcases h with ⟨h1, h2⟩ | ⟨h1, h2⟩ <;> rcases h' with ⟨k1, k2⟩ | ⟨k1, k2⟩
  · omega
  · exact absurd k1 (h2 m')
  · exact absurd h1 (k2 m)
  · have := h2 m' k1; have := k2 m h1; omega
theorem IZ_c {P P' : Nat → Prop} {m : Nat} (hP : ∀ y, P' y ↔ P y) (h : IZ P m) : IZ P' m := by
  have : P' = P := funext fun e => propext (hP e)
  rw [this]; exact h
theorem IX_c {P P' : Nat → Prop} {m : Nat} (hP : ∀ y, P' y ↔ P y) (h : IX P m) : IX P' m := by
  have : P' = P := funext fun e => propext (hP e)
  rw [this]; exact h
theorem IM_c {P P' : Nat → Prop} {m : Nat} (hP : ∀ y, P' y ↔ P y) (h : IM P m) : IM P' m := by
  have : P' = P := funext fun e => propext (hP e)
  rw [this]; exact h
theorem IZ_min {P P' : Nat → Prop} {m x : Nat} (hp : ∀ y, P y → 0 < y) (h : IZ P m) (hP : ∀ y, P' y ↔ P y ∨ y = x) : IZ P' (if m = 0 then x else min m x) := by
  rcases h with ⟨h1, h2⟩ | ⟨h1, h2⟩
  · rw [if_pos h1]
    refine Or.inr ⟨(hP x).mpr (Or.inr rfl), fun y hy => ?_⟩
    rcases (hP y).mp hy with q | q
    · exact absurd q (h2 y)
    · omega
  · have := hp m h1
    rw [if_neg (by omega)]
    refine Or.inr ⟨?_, fun y hy => ?_⟩
    · rw [hP]
      rcases Nat.le_total m x with q | q
      · rw [Nat.min_eq_left q]; exact Or.inl h1
      · rw [Nat.min_eq_right q]; exact Or.inr rfl
    · rcases (hP y).mp hy with q | q
      · have := h2 y q; omega
      · omega
def SO (K : Nat → Nat → Bool) (w : Nat → Nat) (n x : Nat) : Nat → Prop := IZ fun y => ∃ s c, NP K w n x s c ∧ y = lo_ (sn K w n s) (tl w c 12)
def LO (K : Nat → Nat → Bool) (w : Nat → Nat) (n x : Nat) : Nat → Prop := IX fun y => ∃ s c, NP K w n x s c ∧ y = hi_ (mo1 K w n true (s + c)) (tl w c 12)
/-- the latest minute of a moment, counted from two on -/
def lt_ (b t : Nat) : Nat := if t = 0 then b else if t < b then t + 1 else 0
theorem ref_nt {K : Nat → Nat → Bool} {w : Nat → Nat} {n s c : Nat} (hs : s < 2 ^ (2 * n)) (he : ed K n s c ≠ 0) (hsn : sn K w n s < 101) :
    (min 101 (ee (sn K w n s) (tl w c 12)) + 1 ≤ lt_ (mo1 K w n false (s + c)) (tl w c 12) ↔ nOk (sn K w n s) (mo1 K w n true (s + c)) (tl w c 12)) ∧ (nOk (sn K w n s) (mo1 K w n true (s + c)) (tl w c 12) → min 101 (ee (sn K w n s) (tl w c 12)) = lo_ (sn K w n s) (tl w c 12) ∧ lt_ (mo1 K w n false (s + c)) (tl w c 12) = hi_ (mo1 K w n true (s + c)) (tl w c 12) + 1) := by
  have h3 := ed_E s c hs he
  obtain ⟨m1, m2⟩ := mo_le (K := K) (w := w) (n := n) (2 ^ (2 * n) - 1 - (s + c)) (s + c) (by omega)
  have m3 := mo_101 (K := K) (w := w) (n := n) (a := true) (2 ^ (2 * n) - 1 - (s + c)) (s + c) (by omega)
  have hed := sn_edge (w := w) he
  generalize mo1 K w n true (s + c) = A at *
  generalize mo1 K w n false (s + c) = B at *
  generalize sn K w n (s + c) = v at *
  generalize sn K w n s = a at *
  generalize tl w c 12 = t at *
  unfold nOk lt_ lo_ hi_
  unfold ee at hed ⊢
  by_cases t0 : t = 0
  · simp only [if_pos t0] at hed ⊢
    constructor
    · constructor
      · intro q; omega
      · intro q; have := m2 (by omega); omega
    · intro q; have := m2 (by omega); omega
  · simp only [if_neg t0] at hed ⊢
    by_cases q : a < t
    · simp only [if_pos q] at hed ⊢
      constructor
      · constructor
        · intro r
          split at r
          · exact ⟨q, by omega⟩
          · omega
        · intro r; have := m2 (by omega); rw [if_pos (by omega)]; omega
      · intro r; have := m2 (by omega); rw [if_pos (by omega)]; omega
    · simp only [if_neg q]
      constructor
      · constructor
        · intro r
          split at r <;> omega
        · intro r; omega
      · intro r; omega
