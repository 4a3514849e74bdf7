/-! a word as a number -/
def nmf (f : Nat → Nat) : Nat → Nat
  | 0 => 0
  | k + 1 => 256 * nmf f k + f k
theorem nmf_lt {f : Nat → Nat} : ∀ {k : Nat}, (∀ j, j < k → f j < 256) → nmf f k < 256 ^ k
  | 0, _ => Nat.one_pos
  | k + 1, h => by
    have h1 := nmf_lt (f := f) (k := k) (fun j hj => h j (by omega))
    have h2 := h k (by omega)
    rw [nmf, Nat.pow_succ]
    omega
theorem nmf_inj {f f' : Nat → Nat} : ∀ {k k' : Nat}, (∀ j, j < k → 0 < f j ∧ f j < 256) → (∀ j, j < k' → 0 < f' j ∧ f' j < 256) → nmf f k = nmf f' k' → k = k' ∧ ∀ j, j < k → f j = f' j
  | 0, 0, _, _, _ => ⟨rfl, fun j hj => absurd hj (Nat.not_lt_zero j)⟩
  | 0, k' + 1, _, h2, h => by
    have := h2 k' (by omega)
    rw [nmf, nmf] at h
    omega
  | k + 1, 0, h1, _, h => by
    have := h1 k (by omega)
    rw [nmf, nmf] at h
    omega
  | k + 1, k' + 1, h1, h2, h => by
    have a1 := h1 k (by omega)
    have a2 := h2 k' (by omega)
    rw [nmf, nmf] at h
    obtain ⟨e1, e2⟩ := nmf_inj (f := f) (f' := f') (k := k) (k' := k') (fun j hj => h1 j (by omega)) (fun j hj => h2 j (by omega)) (by omega)
    subst e1
    refine ⟨rfl, fun j hj => ?_⟩
    by_cases z : j = k
    · rw [z]; omega
    · exact e2 j (by omega)
def wCd (w : Nat) : Nat := nmf (wc w) (wl w)
theorem wCd_inj : ∀ w, w < 12 → ∀ v, v < 12 → wCd w = wCd v → w = v := by decide +kernel
theorem wCd_b : ∀ w, w < 12 → 0 < wCd w ∧ wCd w < 2 ^ 63 := by decide +kernel
/-- what the reference makes of the letters -/
def tL8 (y : Nat → Nat) (L i : Nat) : Nat := if tT y L i = 1 ∧ tE y L i - tS y L i < 8 then nmf (fun j => y (tS y L i + j)) (tE y L i - tS y L i) else 0
theorem spl_iff {y : Nat → Nat} {s e w : Nat} : spl y s e w = true ↔ e - s = wl w ∧ ∀ j, j < wl w → y (s + j) = wc w j := by
  unfold spl
  rw [Bool.and_eq_true, decide_eq_true_iff, aB_iff]
  constructor
  · intro h
    exact ⟨h.1, fun j hj => of_decide_eq_true (h.2 j hj)⟩
  · intro h
    exact ⟨h.1, fun j hj => decide_eq_true (h.2 j hj)⟩
theorem nmf_c {f f' : Nat → Nat} : ∀ {k : Nat}, (∀ j, j < k → f j = f' j) → nmf f k = nmf f' k
  | 0, _ => rfl
  | k + 1, h => by rw [nmf, nmf, nmf_c (fun j hj => h j (by omega)), h k (by omega)]
theorem spl_wCd {y : Nat → Nat} {s e w : Nat} (h : spl y s e w = true) : nmf (fun j => y (s + j)) (e - s) = wCd w := by
  obtain ⟨h1, h2⟩ := spl_iff.mp h
  rw [h1]
  exact nmf_c h2
theorem spl_u {y : Nat → Nat} {s e w v : Nat} (hw : w < 12) (hv : v < 12) (h1 : spl y s e w = true) (h2 : spl y s e v = true) : w = v :=
  wCd_inj w hw v hv ((spl_wCd h1).symm.trans (spl_wCd h2))
theorem fwd_p {p : Nat → Bool} {w : Nat} (hw : w < 2 ^ 31) : ∀ (d k : Nat), k + d < 2 ^ 31 → fwd p d k = nI w → p w = true
  | 0, k, _, h => by
    have h1 : ¬ nI w < 0 := nI_pos hw
    rw [fwd] at h
    rw [← h] at h1
    exact absurd (by decide) h1
  | d + 1, k, hk, h => by
    rw [fwd] at h
    by_cases z : p k = true
    · rw [if_pos z, nI_eq (by omega) hw] at h
      rw [← h]; exact z
    · rw [if_neg z] at h
      exact fwd_p hw d (k + 1) (by omega) h
theorem fwd_t {p : Nat → Bool} {w : Nat} (hu : ∀ v, v < 12 → p v = true → v = w) (hp : p w = true) : ∀ (d k : Nat), k + d = 12 → k ≤ w → w < 12 → fwd p d k = nI w
  | 0, k, h1, h2, h3 => by omega
  | d + 1, k, h1, h2, h3 => by
    rw [fwd]
    by_cases z : p k = true
    · rw [if_pos z, hu k (by omega) z]
    · rw [if_neg z]
      have : k ≠ w := fun q => z (by rw [q]; exact hp)
      exact fwd_t hu hp d (k + 1) (by omega) (by omega) h3
theorem wd_spl {y : Nat → Nat} {L i w : Nat} (hw : w < 12) : wd y L i w = true ↔ tT y L i = 1 ∧ spl y (tS y L i) (tE y L i) w = true := by
  unfold wd
  rw [Bool.and_eq_true, beq_iff_eq, decide_eq_true_iff]
  constructor
  · rintro ⟨h1, h2⟩
    unfold tV at h2
    rw [if_pos h1] at h2
    exact ⟨h1, fwd_p (by omega) 12 0 (by omega) h2⟩
  · rintro ⟨h1, h2⟩
    refine ⟨h1, ?_⟩
    unfold tV
    rw [if_pos h1]
    exact fwd_t (fun v hv h => spl_u hv hw h h2) h2 12 0 rfl (Nat.zero_le _) hw
theorem tL8_iff {y : Nat → Nat} {L i w : Nat} (hi : i ≤ L) (hw : w < 12) : tL8 y L i = wCd w ↔ wd y L i w = true := by
  obtain ⟨e1, e2, e3, e4⟩ := tE_ok (y := y) hi
  rw [wd_spl hw]
  unfold tL8
  constructor
  · intro h
    by_cases z : tT y L i = 1 ∧ tE y L i - tS y L i < 8
    · rw [if_pos z] at h
      refine ⟨z.1, spl_iff.mpr ?_⟩
      have hy : ∀ j, j < tE y L i - tS y L i → 0 < y (tS y L i + j) ∧ y (tS y L i + j) < 256 := fun j hj => by
        have h1 := e4 (Or.inl z.1) (tS y L i + j) (by omega) (by omega)
        rw [z.1] at h1
        unfold srt at h1
        revert h1
        repeat' split
        all_goals omega
      obtain ⟨q1, q2⟩ := nmf_inj hy (fun j hj => by have := wc_b w hw j hj; omega) h
      exact ⟨q1, fun j hj => q2 j (by omega)⟩
    · rw [if_neg z] at h
      have := wCd_b w hw
      omega
  · rintro ⟨h1, h2⟩
    have h3 := (spl_iff.mp h2).1
    have h4 := wl_6 w hw
    rw [if_pos ⟨h1, by omega⟩]
    exact spl_wCd h2
theorem tL8_b {y : Nat → Nat} {L i : Nat} (hi : i ≤ L) : tL8 y L i < 2 ^ 63 := by
  obtain ⟨e1, e2, e3, e4⟩ := tE_ok (y := y) hi
  unfold tL8
  by_cases z : tT y L i = 1 ∧ tE y L i - tS y L i < 8
  · rw [if_pos z]
    have h1 := nmf_lt (f := fun j => y (tS y L i + j)) (k := tE y L i - tS y L i) (fun j hj => by
      have h1 := e4 (Or.inl z.1) (tS y L i + j) (by omega) (by omega)
      rw [z.1] at h1
      unfold srt at h1
      revert h1
      repeat' split
      all_goals omega)
    have h2 : 256 ^ (tE y L i - tS y L i) ≤ 256 ^ 7 := Nat.pow_le_pow_right (by decide) (by omega)
    have h3 : (256 : Nat) ^ 7 = 2 ^ 56 := by decide
    have h4 : (2 : Nat) ^ 56 < 2 ^ 63 := by decide
    omega
  · rw [if_neg z]; decide
theorem z_cmpQ {a b : Nat} (ha : a < 2 ^ 63) (hb : b < 2 ^ 63) : (lg_cmp (lN a) (lN b) = (0 : Int32)) ↔ a = b := by
  rcases Nat.lt_trichotomy a b with q | q | q
  · rw [lg_m ((pk_lLT ha hb).mpr q)]
    simp only [show ¬ a = b by omega, iff_false]
    decide
  · subst q; rw [lg_0]; simp only [iff_true]
  · rw [lg_1 ((pk_lLT hb ha).mpr q)]
    simp only [show ¬ a = b by omega, iff_false]
    decide
theorem s_letters {y : Nat → Nat} {L i : Nat} {tx : Nat → Int32} {Q : Int64 → Prop} (hL : L ≤ 200) (hT : TX y L tx) (hi : i ≤ L) (hQ : Q (lN (tL8 y L i))) : wp_X11_letters (nI L) (nI (tT y L i)) (nI (tS y L i)) (nI (tE y L i - tS y L i)) tx Q := by
  obtain ⟨e1, e2, e3, e4⟩ := tE_ok (y := y) hi
  have h5 : tT y L i < 5 := srt_5 y L (tS y L i)
  have main : ∀ (d k : Nat), k + d = tE y L i - tS y L i → wp_X11_letters_b4 Q (nI L) (nI (tT y L i)) (nI (tS y L i)) (nI (tE y L i - tS y L i)) tx (d + 1) (lN (if k ≤ 7 then nmf (fun j => y (tS y L i + j)) k else 0)) (nI k) := by
    intro d
    induction d with
    | zero =>
      intro k hk
      obtain rfl : k = tE y L i - tS y L i := by omega
      unfold wp_X11_letters_b4 wp_X11_letters_b46
      unfold tL8 at hQ
      refine br_t (nI_le (by omega) (by omega)) ?_
      rw [show ((nI (tT y L i) = (1 : Int32)) = (tT y L i = 1)) from propext (nI_eq (b := 1) (by omega) (by omega)), show (((8 : Int32) ≤ nI (tE y L i - tS y L i)) = (8 ≤ tE y L i - tS y L i)) from propext (nI_leI (a := 8) (by omega) (by omega))]
      refine br_c (fun z => br_c (fun z2 => ?_) (fun z2 => ?_)) (fun z => ?_)
      · rw [if_neg (by omega)] at hQ; exact hQ
      · rw [if_pos ⟨z, by omega⟩] at hQ
        rw [if_pos (by omega)]
        exact hQ
      · rw [if_neg (fun h => z h.1)] at hQ; exact hQ
    | succ d ih =>
      intro k hk
      have ih := ih (k + 1) (by omega)
      unfold wp_X11_letters_b4 wp_X11_letters_b39
      refine br_f (nI_ge (by omega) (by omega)) ?_
      rw [show (((7 : Int32) ≤ nI k) = (7 ≤ k)) from propext (nI_leI (a := 7) (by omega) (by omega)), nI_1, nI_add]
      refine br_c (fun z => ?_) (fun z => s_byte hL hT (by omega) ?_)
      · rw [if_neg (by omega)] at ih
        exact ih
      · rw [if_pos (by omega), nmf] at ih
        have hb := (hT (tS y L i + k) (by omega)).2
        rw [if_pos (by omega), nI_l (by omega), show (256 : Int64) = lN 256 from rfl, lN_mul, lN_add]
        exact ih
  have := main (tE y L i - tS y L i) 0 (by omega)
  exact ⟨_, this⟩
theorem wd_kd {y : Nat → Nat} {L i : Nat} : kdB y L i = true ↔ ∃ w, w < 8 ∧ wd y L i w = true := by
  unfold kdB wd
  rw [Bool.and_eq_true, iN_t]
  constructor
  · rintro ⟨h1, w, hw, e⟩
    exact ⟨w, hw, by rw [h1, decide_eq_true e]; rfl⟩
  · rintro ⟨w, hw, h⟩
    rw [Bool.and_eq_true] at h
    exact ⟨h.1, w, hw, of_decide_eq_true h.2⟩
theorem wd_v {y : Nat → Nat} {L i w : Nat} (h : wd y L i w = true) : tT y L i = 1 ∧ tV y L i = nI w := by
  unfold wd at h
  rw [Bool.and_eq_true, beq_iff_eq, decide_eq_true_iff] at h
  exact h
theorem s_kind {y : Nat → Nat} {L i : Nat} {tx : Nat → Int32} {Q : Int32 → Prop} (hL : L ≤ 200) (hT : TX y L tx) (hi : i ≤ L) (hQ : Q (kdV y L i)) : wp_X11_kind (nI L) (nI (tT y L i)) (nI (tS y L i)) (nI (tE y L i - tS y L i)) tx Q := by
  have hb := tL8_b (y := y) hi
  have hk : ∀ w, w < 8 → wd y L i w = true → Q (nI w) := fun w hw h => by
    unfold kdV at hQ
    rw [if_pos (wd_kd.mpr ⟨w, hw, h⟩), (wd_v h).2] at hQ
    exact hQ
  have hn : (∀ w, w < 8 → ¬ wd y L i w = true) → Q (-1) := fun h => by
    unfold kdV at hQ
    rw [if_neg (fun q => by obtain ⟨w, hw, q2⟩ := wd_kd.mp q; exact h w hw q2)] at hQ
    exact hQ
  have he : ∀ w, w < 12 → ∀ c : Int64, c = lN (wCd w) → ((lg_cmp (lN (tL8 y L i)) c = (0 : Int32)) = (wd y L i w = true)) := fun w hw c e => by
    rw [e]
    exact propext ((z_cmpQ hb (wCd_b w hw).2).trans (tL8_iff hi hw))
  unfold wp_X11_kind
  refine s_letters hL hT hi ?_
  rw [he 0 (by omega) _ (by decide +kernel), he 1 (by omega) _ (by decide +kernel), he 2 (by omega) _ (by decide +kernel), he 3 (by omega) _ (by decide +kernel)]
  unfold wp_X11_kind_b54
  refine br_c (fun z => br_f (by decide) (hk 0 (by omega) z)) (fun z0 => br_c (fun z => br_f (by decide) (hk 1 (by omega) z)) (fun z1 => br_c (fun z => br_f (by decide) (hk 2 (by omega) z)) (fun z2 => br_c (fun z => br_f (by decide) (hk 3 (by omega) z)) (fun z3 => br_t rfl ?_))))
  rw [he 4 (by omega) _ (by decide +kernel), he 5 (by omega) _ (by decide +kernel), he 6 (by omega) _ (by decide +kernel), he 7 (by omega) _ (by decide +kernel)]
  refine br_c (fun z => hk 4 (by omega) z) (fun z4 => br_c (fun z => hk 5 (by omega) z) (fun z5 => br_c (fun z => hk 6 (by omega) z) (fun z6 => br_c (fun z => hk 7 (by omega) z) (fun z7 => hn (fun w hw h => ?_)))))
  obtain rfl | rfl | rfl | rfl | rfl | rfl | rfl | rfl : w = 0 ∨ w = 1 ∨ w = 2 ∨ w = 3 ∨ w = 4 ∨ w = 5 ∨ w = 6 ∨ w = 7 := by omega
  · exact z0 h
  · exact z1 h
  · exact z2 h
  · exact z3 h
  · exact z4 h
  · exact z5 h
  · exact z6 h
  · exact z7 h
theorem s_word {y : Nat → Nat} {L i w : Nat} {c : Int64} (hi : i ≤ L) (hw : w < 12) (e : c = lN (wCd w)) : ((lg_cmp (lN (tL8 y L i)) c = (0 : Int32)) = (wd y L i w = true)) := by
  rw [e]
  exact propext ((z_cmpQ (tL8_b (y := y) hi) (wCd_b w hw).2).trans (tL8_iff hi hw))
