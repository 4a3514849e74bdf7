/-! minutes: what they mean. All are counted from one on: 0 is none, 101 too late. -/
def mI (a : Nat) : Int32 := nI a - 1
theorem mI_s (a : Nat) : mI (a + 1) = nI a := by unfold mI; rw [show (1 : Int32) = nI 1 from rfl, pk_sub (by omega)]; rfl
theorem mI_0 : mI 0 = -1 := rfl
theorem mI_t {a : Nat} (h : a < 2 ^ 31) : (mI a).toInt = (a : Int) - 1 := by
  cases a with
  | zero => rfl
  | succ a => rw [mI_s, nI_toInt (by omega)]; omega
theorem mI_1 (a : Nat) : mI a + 1 = mI (a + 1) := by
  rw [mI_s]; unfold mI
  rw [Int32.sub_eq_add_neg, Int32.add_assoc]
  exact Int32.add_zero _
theorem mI_m (a : Nat) : mI (a + 1) - 1 = mI a := by rw [mI_s]; rfl
theorem mI_le {a b : Nat} (ha : a < 2 ^ 31) (hb : b < 2 ^ 31) : mI a ≤ mI b ↔ a ≤ b := by
  rw [Int32.le_iff_toInt_le, mI_t ha, mI_t hb]; omega
theorem mI_lt {a b : Nat} (ha : a < 2 ^ 31) (hb : b < 2 ^ 31) : mI a < mI b ↔ a < b := by
  rw [Int32.lt_iff_toInt_lt, mI_t ha, mI_t hb]; omega
theorem mI_eq {a b : Nat} (ha : a < 2 ^ 31) (hb : b < 2 ^ 31) : mI a = mI b ↔ a = b := by
  rw [← Int32.toInt_inj, mI_t ha, mI_t hb]; omega
theorem mI_z {a : Nat} (ha : a < 2 ^ 31) : mI a = -1 ↔ a = 0 := mI_eq (b := 0) ha (by omega)
def wv (g : Nat → Int32) (e : Nat) : Nat := if g (46 + e) = -1 then 0 else (g (46 + e)).toNatClampNeg + 1
theorem wv_ok {g : Nat → Int32} {n m : Nat} {kd oa ob : Nat → Nat} (h : BK g n m kd oa ob) {e : Nat} (he : e < 12) : g (46 + e) = mI (wv g e) ∧ wv g e ≤ 100 := by
  unfold wv
  rcases h.2.2.2.2 e he with q | ⟨k, hk, q⟩
  · rw [if_pos q, q]; exact ⟨rfl, by omega⟩
  · rw [if_neg (by rw [q]; exact fun z => absurd ((z_ne (k := 1) (by omega) (by omega) (by omega)).mp z) (fun f => f)), q, nI_clamp (by omega), mI_s]; exact ⟨rfl, by omega⟩
def joinN (a b : Nat) : Nat := if a = 0 ∨ a = b then b else if b = 0 then a else 101
def TL (w : Nat → Nat) (S : Nat → Prop) (t : Nat) : Prop := (t = 0 ∧ ∀ e, S e → w e = 0) ∨ (0 < t ∧ t < 101 ∧ (∃ e, S e ∧ w e = t) ∧ ∀ e, S e → w e = 0 ∨ w e = t) ∨ (t = 101 ∧ ∃ e e', S e ∧ S e' ∧ w e ≠ 0 ∧ w e' ≠ 0 ∧ w e ≠ w e')
theorem TL_u {w : Nat → Nat} {S : Nat → Prop} {t t' : Nat} (h : TL w S t) (h' : TL w S t') : t = t' := by
  rcases h with ⟨h1, h2⟩ | ⟨h1, h2, ⟨e, he, he2⟩, h4⟩ | ⟨h1, e, e', he, he', h2, h3, h4⟩ <;> rcases h' with ⟨k1, k2⟩ | ⟨k1, k2, ⟨f, hf, hf2⟩, k4⟩ | ⟨k1, f, f', hf, hf', k2, k3, k4⟩
  · omega
  · have := h2 f hf; omega
  · exact absurd (h2 f hf) k2
  · have := k2 e he; omega
  · rcases h4 f hf with q | q <;> omega
  · rcases h4 f hf with q | q <;> rcases h4 f' hf' with r | r <;> omega
  · exact absurd (k2 e he) h2
  · rcases k4 e he with q | q <;> rcases k4 e' he' with r | r <;> omega
  · omega
theorem TL_c {w : Nat → Nat} {S S' : Nat → Prop} {t : Nat} (h : ∀ e, S e ↔ S' e) (ht : TL w S t) : TL w S' t := by
  have : S = S' := funext fun e => propext (h e)
  rw [← this]; exact ht
theorem TL_0 {w : Nat → Nat} {S : Nat → Prop} (h : ∀ e, ¬ S e) : TL w S 0 := Or.inl ⟨rfl, fun e q => absurd q (h e)⟩
theorem TL_join {w : Nat → Nat} {S S' : Nat → Prop} {t x : Nat} (hw : w x ≤ 100) (h : TL w S t) (hS : ∀ e, S' e ↔ S e ∨ e = x) : TL w S' (joinN t (w x)) := by
  unfold joinN
  have hx : S' x := (hS x).mpr (Or.inr rfl)
  rcases h with ⟨h1, h2⟩ | ⟨h1, h2, ⟨e, he, he2⟩, h4⟩ | ⟨h1, e, e', he, he', h2, h3, h4⟩
  · rw [if_pos (Or.inl h1)]
    by_cases z : w x = 0
    · exact Or.inl ⟨z, fun e q => by rcases (hS e).mp q with q | q; exact h2 e q; rw [q]; exact z⟩
    · exact Or.inr (Or.inl ⟨by omega, by omega, ⟨x, hx, rfl⟩, fun e q => by rcases (hS e).mp q with q | q; exact Or.inl (h2 e q); rw [q]; exact Or.inr rfl⟩)
  · by_cases z : t = w x
    · rw [if_pos (Or.inr z)]
      exact Or.inr (Or.inl ⟨by omega, by omega, ⟨x, hx, rfl⟩, fun e q => by
        rcases (hS e).mp q with q | q
        · rcases h4 e q with r | r
          · exact Or.inl r
          · exact Or.inr (by omega)
        · rw [q]; exact Or.inr rfl⟩)
    · rw [if_neg (fun q => by omega)]
      by_cases z2 : w x = 0
      · rw [if_pos z2]
        exact Or.inr (Or.inl ⟨h1, h2, ⟨e, (hS e).mpr (Or.inl he), he2⟩, fun e q => by
          rcases (hS e).mp q with q | q
          · exact h4 e q
          · rw [q]; exact Or.inl z2⟩)
      · rw [if_neg z2]
        exact Or.inr (Or.inr ⟨rfl, e, x, (hS e).mpr (Or.inl he), hx, by omega, z2, by omega⟩)
  · rw [if_neg (fun q => by omega)]
    by_cases z2 : w x = 0
    · rw [if_pos z2]
      exact Or.inr (Or.inr ⟨h1, e, e', (hS e).mpr (Or.inl he), (hS e').mpr (Or.inl he'), h2, h3, h4⟩)
    · rw [if_neg z2]
      exact Or.inr (Or.inr ⟨rfl, e, e', (hS e).mpr (Or.inl he), (hS e').mpr (Or.inl he'), h2, h3, h4⟩)
/-- the minute told of a moment -/
def tl (w : Nat → Nat) (M : Nat) : Nat → Nat
  | 0 => 0
  | k + 1 => if M.testBit k = true then joinN (tl w M k) (w k) else tl w M k
theorem tl_TL {w : Nat → Nat} {M : Nat} : ∀ k, (∀ e, e < k → w e ≤ 100) → TL w (fun e => e < k ∧ M.testBit e = true) (tl w M k)
  | 0, _ => TL_0 fun e q => Nat.not_lt_zero e q.1
  | k + 1, h => by
    have ih := tl_TL (w := w) (M := M) k (fun e he => h e (by omega))
    rw [tl]
    split
    · rename_i q
      refine TL_join (h k (by omega)) ih (fun e => ?_)
      constructor
      · rintro ⟨a, b⟩
        by_cases z : e = k
        · exact Or.inr z
        · exact Or.inl ⟨by omega, b⟩
      · rintro (⟨a, b⟩ | rfl)
        · exact ⟨by omega, b⟩
        · exact ⟨by omega, q⟩
    · rename_i q
      refine TL_c (fun e => ?_) ih
      constructor
      · rintro ⟨a, b⟩; exact ⟨by omega, b⟩
      · rintro ⟨a, b⟩
        by_cases z : e = k
        · subst z; exact absurd b q
        · exact ⟨by omega, b⟩
theorem TL_le {w : Nat → Nat} {S : Nat → Prop} {t : Nat} (h : TL w S t) : t ≤ 101 := by
  rcases h with ⟨h1, -⟩ | ⟨h1, h2, -⟩ | ⟨h1, -⟩ <;> omega
theorem tl_le {w : Nat → Nat} {M k : Nat} (h : ∀ e, e < k → w e ≤ 100) : tl w M k ≤ 101 := TL_le (tl_TL k h)
def mn (f : Nat → Nat) : Nat → Nat
  | 0 => 101
  | k + 1 => min (mn f k) (f k)
def mx (f : Nat → Nat) : Nat → Nat
  | 0 => 0
  | k + 1 => max (mx f k) (f k)
/-- the least of some, 101 if there is none below it -/
def IM (P : Nat → Prop) (m : Nat) : Prop := m ≤ 101 ∧ (∀ x, P x → m ≤ x) ∧ (m < 101 → P m)
/-- the greatest of some, or 0 -/
def IX (P : Nat → Prop) (m : Nat) : Prop := (∀ x, P x → x ≤ m) ∧ (0 < m → P m)
theorem IM_u {P P' : Nat → Prop} {m m' : Nat} (h : IM P m) (h' : IM P' m') (e1 : ∀ x, x < 101 → P x → P' x) (e2 : ∀ x, x < 101 → P' x → P x) : m = m' := by
  obtain ⟨a1, a2, a3⟩ := h
  obtain ⟨b1, b2, b3⟩ := h'
  rcases Nat.lt_trichotomy m m' with q | q | q
  · have := b2 m (e1 m (by omega) (a3 (by omega))); omega
  · exact q
  · have := a2 m' (e2 m' (by omega) (b3 (by omega))); omega
theorem IX_u {P P' : Nat → Prop} {m m' : Nat} (h : IX P m) (h' : IX P' m') (e1 : ∀ x, 0 < x → P x → P' x) (e2 : ∀ x, 0 < x → P' x → P x) : m = m' := by
  obtain ⟨a2, a3⟩ := h
  obtain ⟨b2, b3⟩ := h'
  rcases Nat.lt_trichotomy m m' with q | q | q
  · have := a2 m' (e2 m' (by omega) (b3 (by omega))); omega
  · exact q
  · have := b2 m (e1 m (by omega) (a3 (by omega))); omega
theorem IM_min {P P' : Nat → Prop} {m x : Nat} (h : IM P m) (hP : ∀ y, P' y ↔ P y ∨ y = x) : IM P' (min m x) := by
  obtain ⟨a1, a2, a3⟩ := h
  refine ⟨by omega, fun y hy => ?_, fun hy => ?_⟩
  · rcases (hP y).mp hy with q | q
    · have := a2 y q; omega
    · omega
  · rw [hP]
    rcases Nat.le_total m x with q | q
    · rw [Nat.min_eq_left q] at hy ⊢; exact Or.inl (a3 hy)
    · rw [Nat.min_eq_right q]; exact Or.inr rfl
theorem IX_max {P P' : Nat → Prop} {m x : Nat} (h : IX P m) (hP : ∀ y, P' y ↔ P y ∨ y = x) : IX P' (max m x) := by
  obtain ⟨a2, a3⟩ := h
  refine ⟨fun y hy => ?_, fun hy => ?_⟩
  · rcases (hP y).mp hy with q | q
    · have := a2 y q; omega
    · omega
  · rw [hP]
    rcases Nat.le_total m x with q | q
    · rw [Nat.max_eq_right q]; exact Or.inr rfl
    · rw [Nat.max_eq_left q] at hy ⊢; exact Or.inl (a3 hy)
theorem mn_IM (f : Nat → Nat) : ∀ k, IM (fun x => ∃ i, i < k ∧ x = f i) (mn f k)
  | 0 => ⟨by unfold mn; omega, fun x ⟨i, h, _⟩ => absurd h (Nat.not_lt_zero i), fun h => absurd h (by unfold mn; omega)⟩
  | k + 1 => by
    rw [mn]
    refine IM_min (mn_IM f k) (fun y => ?_)
    constructor
    · rintro ⟨i, hi, rfl⟩
      by_cases z : i = k
      · subst z; exact Or.inr rfl
      · exact Or.inl ⟨i, by omega, rfl⟩
    · rintro (⟨i, hi, rfl⟩ | rfl)
      · exact ⟨i, by omega, rfl⟩
      · exact ⟨k, by omega, rfl⟩
theorem mx_IX (f : Nat → Nat) : ∀ k, IX (fun x => ∃ i, i < k ∧ x = f i) (mx f k)
  | 0 => ⟨fun x ⟨i, h, _⟩ => absurd h (Nat.not_lt_zero i), fun h => absurd h (by unfold mx; omega)⟩
  | k + 1 => by
    rw [mx]
    refine IX_max (mx_IX f k) (fun y => ?_)
    constructor
    · rintro ⟨i, hi, rfl⟩
      by_cases z : i = k
      · subst z; exact Or.inr rfl
      · exact Or.inl ⟨i, by omega, rfl⟩
    · rintro (⟨i, hi, rfl⟩ | rfl)
      · exact ⟨i, by omega, rfl⟩
      · exact ⟨k, by omega, rfl⟩
theorem mn_c {f f' : Nat → Nat} : ∀ k, (∀ i, i < k → f i = f' i) → mn f k = mn f' k
  | 0, _ => rfl
  | k + 1, h => by rw [mn, mn, mn_c k (fun i hi => h i (by omega)), h k (by omega)]
theorem mx_c {f f' : Nat → Nat} : ∀ k, (∀ i, i < k → f i = f' i) → mx f k = mx f' k
  | 0, _ => rfl
  | k + 1, h => by rw [mx, mx, mx_c k (fun i hi => h i (by omega)), h k (by omega)]
def ee (a t : Nat) : Nat := if t = 0 then a + 1 else if a < t then t else 101
def hh (a t : Nat) : Nat := if t = 0 then a - 1 else if t < a then t else 0
/-- the least minute of the moment behind which a set has come -/
def snf (K : Nat → Nat → Bool) (w : Nat → Nat) (n : Nat) : Nat → Nat → Nat
  | 0, _ => 101
  | f + 1, v => if v = 0 then 0 else mn (fun s => if ed K n s (v - s) ≠ 0 then ee (snf K w n f s) (tl w (v - s) 12) else 101) v
theorem snf_st {K : Nat → Nat → Bool} {w : Nat → Nat} {n : Nat} : ∀ v f, v < f → snf K w n f v = snf K w n (v + 1) v := by
  intro v
  induction v using Nat.strongRecOn with
  | ind v ih =>
    intro f hf
    obtain ⟨f, rfl⟩ : ∃ q, f = q + 1 := ⟨f - 1, by omega⟩
    rw [snf, snf]
    by_cases z : v = 0
    · rw [if_pos z, if_pos z]
    · rw [if_neg z, if_neg z]
      refine mn_c v (fun s hs => ?_)
      rw [ih s hs f (by omega), ih s hs v (by omega)]
def sn (K : Nat → Nat → Bool) (w : Nat → Nat) (n v : Nat) : Nat := snf K w n (v + 1) v
theorem sn_0 {K : Nat → Nat → Bool} {w : Nat → Nat} {n : Nat} : sn K w n 0 = 0 := rfl
theorem sn_IM {K : Nat → Nat → Bool} {w : Nat → Nat} {n v : Nat} (h : v ≠ 0) : IM (fun x => ∃ s, s < v ∧ ed K n s (v - s) ≠ 0 ∧ x = ee (sn K w n s) (tl w (v - s) 12)) (sn K w n v) := by
  have h1 := mn_IM (fun s => if ed K n s (v - s) ≠ 0 then ee (snf K w n v s) (tl w (v - s) 12) else 101) v
  have e : sn K w n v = mn (fun s => if ed K n s (v - s) ≠ 0 then ee (snf K w n v s) (tl w (v - s) 12) else 101) v := by
    unfold sn; rw [snf, if_neg h]
  rw [e]
  obtain ⟨a1, a2, a3⟩ := h1
  refine ⟨a1, fun x ⟨s, hs, he, hx⟩ => ?_, fun hx => ?_⟩
  · refine a2 x ⟨s, hs, ?_⟩
    rw [if_pos he, snf_st s v hs]; exact hx
  · obtain ⟨s, hs, q⟩ := a3 hx
    by_cases z : ed K n s (v - s) ≠ 0
    · rw [if_pos z, snf_st s v hs] at q
      exact ⟨s, hs, z, q⟩
    · rw [if_neg z] at q; omega
theorem sn_le {K : Nat → Nat → Bool} {w : Nat → Nat} {n v : Nat} : sn K w n v ≤ 101 := by
  by_cases z : v = 0
  · rw [z, sn_0]; omega
  · exact (sn_IM z).1
/-- the greatest minute of the moment that comes next, of sets that need not be come to (a: true), or must -/
def mof (K : Nat → Nat → Bool) (w : Nat → Nat) (n : Nat) (a : Bool) : Nat → Nat → Nat
  | 0, _ => 101
  | f + 1, s => if s = 2 ^ (2 * n) - 1 then 101 else if a || decide (sn K w n s < 101) then mx (fun i => if ed K n s (i + 1) ≠ 0 then hh (mof K w n a f (s + (i + 1))) (tl w (i + 1) 12) else 0) (2 ^ (2 * n)) else 0
theorem mof_st {K : Nat → Nat → Bool} {w : Nat → Nat} {n : Nat} {a : Bool} : ∀ d s f, s + d = 2 ^ (2 * n) - 1 → d < f → mof K w n a f s = mof K w n a (d + 1) s := by
  intro d
  induction d using Nat.strongRecOn with
  | ind d ih =>
    intro s f hs hf
    obtain ⟨f, rfl⟩ : ∃ q, f = q + 1 := ⟨f - 1, by omega⟩
    rw [mof, mof]
    by_cases z : s = 2 ^ (2 * n) - 1
    · rw [if_pos z, if_pos z]
    · rw [if_neg z, if_neg z]
      congr 1
      refine mx_c _ (fun i hi => ?_)
      by_cases q : ed K n s (i + 1) ≠ 0
      · rw [if_pos q, if_pos q]
        have h1 : s + (i + 1) < 2 ^ (2 * n) := ed_E s (i + 1) (by omega) q
        rw [ih (d - (i + 1)) (by omega) (s + (i + 1)) f (by omega) (by omega), ih (d - (i + 1)) (by omega) (s + (i + 1)) d (by omega) (by omega)]
      · rw [if_neg q, if_neg q]
def mo1 (K : Nat → Nat → Bool) (w : Nat → Nat) (n : Nat) (a : Bool) (s : Nat) : Nat := mof K w n a (2 ^ (2 * n) - 1 - s + 1) s
theorem mo1_full {K : Nat → Nat → Bool} {w : Nat → Nat} {n : Nat} {a : Bool} : mo1 K w n a (2 ^ (2 * n) - 1) = 101 := by
  unfold mo1; rw [mof, if_pos rfl]
theorem mo1_IX {K : Nat → Nat → Bool} {w : Nat → Nat} {n s : Nat} {a : Bool} (hs : s < 2 ^ (2 * n)) (h : s ≠ 2 ^ (2 * n) - 1) (ha : (a || decide (sn K w n s < 101)) = true) : IX (fun x => ∃ c, 0 < c ∧ c ≤ 2 ^ (2 * n) ∧ ed K n s c ≠ 0 ∧ x = hh (mo1 K w n a (s + c)) (tl w c 12)) (mo1 K w n a s) := by
  have h1 := mx_IX (fun i => if ed K n s (i + 1) ≠ 0 then hh (mof K w n a (2 ^ (2 * n) - 1 - s) (s + (i + 1))) (tl w (i + 1) 12) else 0) (2 ^ (2 * n))
  have e : mo1 K w n a s = mx (fun i => if ed K n s (i + 1) ≠ 0 then hh (mof K w n a (2 ^ (2 * n) - 1 - s) (s + (i + 1))) (tl w (i + 1) 12) else 0) (2 ^ (2 * n)) := by
    unfold mo1; rw [mof, if_neg h, if_pos ha]
  have st : ∀ i, ed K n s (i + 1) ≠ 0 → mof K w n a (2 ^ (2 * n) - 1 - s) (s + (i + 1)) = mo1 K w n a (s + (i + 1)) := fun i q => by
    have h2 : s + (i + 1) < 2 ^ (2 * n) := ed_E s (i + 1) hs q
    unfold mo1
    exact mof_st (2 ^ (2 * n) - 1 - (s + (i + 1))) _ _ (by omega) (by omega)
  rw [e]
  obtain ⟨a2, a3⟩ := h1
  refine ⟨fun x ⟨c, hc, hc2, he, hx⟩ => ?_, fun hx => ?_⟩
  · obtain ⟨i, rfl⟩ : ∃ i, c = i + 1 := ⟨c - 1, by omega⟩
    refine a2 x ⟨i, by omega, ?_⟩
    rw [if_pos he, st i he]; exact hx
  · obtain ⟨i, hi, q⟩ := a3 hx
    by_cases z : ed K n s (i + 1) ≠ 0
    · rw [if_pos z, st i z] at q
      exact ⟨i + 1, by omega, by omega, z, q⟩
    · rw [if_neg z] at q; omega
theorem mo1_un {K : Nat → Nat → Bool} {w : Nat → Nat} {n s : Nat} (h : s ≠ 2 ^ (2 * n) - 1) (ha : ¬ sn K w n s < 101) : mo1 K w n false s = 0 := by
  unfold mo1; rw [mof, if_neg h, decide_eq_false ha]; rfl
