/-! tokens: what the class takes, what the reference reads -/
def wd (y : Nat → Nat) (L i w : Nat) : Bool := tT y L i == 1 && decide (tV y L i = nI w)
/-- a figure below N; its worth, or none -/
def fgB (y : Nat → Nat) (L i N : Nat) : Bool := tT y L i == 2 && iN (tV y L i) N
def fgV (y : Nat → Nat) (L i N : Nat) : Int32 := if fgB y L i N = true then tV y L i else -1
/-- a kind; its worth, or none -/
def kdB (y : Nat → Nat) (L i : Nat) : Bool := tT y L i == 1 && iN (tV y L i) 8
def kdV (y : Nat → Nat) (L i : Nat) : Int32 := if kdB y L i = true then tV y L i else -1
theorem fgB_c {y : Nat → Nat} {L i N : Nat} (hN : N < 2 ^ 31) (h : fgB y L i N = true) : ∃ v, v < N ∧ tV y L i = nI v := by
  unfold fgB at h
  rw [Bool.and_eq_true] at h
  obtain ⟨v, h1, h2⟩ := iN_t.mp h.2
  exact ⟨v, h1, h2⟩
theorem kdB_c {y : Nat → Nat} {L i : Nat} (h : kdB y L i = true) : ∃ v, v < 8 ∧ tV y L i = nI v := by
  unfold kdB at h
  rw [Bool.and_eq_true] at h
  obtain ⟨v, h1, h2⟩ := iN_t.mp h.2
  exact ⟨v, h1, h2⟩
theorem c_word {y : Nat → Nat} {L i w : Nat} {p : Int32} {tx : Nat → Int32} {Q : Int32 → Int32 → Int32 → Int32 → Int32 → Prop} (hL : L ≤ 200) (hT : TX y L tx) (hi : i ≤ L) (hp : p = nI w)
    (hQ1 : wd y L i w = true → Q 1 (nI (tE y L (tE y L i))) (nI (tS y L (tE y L i))) (nI (tT y L (tE y L i))) (tV y L (tE y L i)))
    (hQ0 : wd y L i w = false → Q 0 (nI (tE y L i)) (nI (tS y L i)) (nI (tT y L i)) (tV y L i)) : wp_X8_takeWord p (nI (tE y L i)) (nI (tS y L i)) (nI (tT y L i)) (tV y L i) (nI L) tx Q := by
  subst hp
  have h5 : tT y L i < 5 := srt_5 y L (tS y L i)
  unfold wp_X8_takeWord
  unfold wd at hQ1 hQ0
  rw [show ((nI (tT y L i) = (1 : Int32)) = (tT y L i = 1)) from propext (nI_eq (b := 1) (by omega) (by omega))]
  refine br_c (fun z => br_c (fun z2 => ?_) (fun z2 => ?_)) (fun z => ?_)
  · exact c_adv hL hT (tE_ok hi).2.1 (hQ1 (by rw [z, decide_eq_true z2]; rfl))
  · exact hQ0 (by rw [decide_eq_false z2, Bool.and_false])
  · exact hQ0 (by rw [show (tT y L i == 1) = false from beq_eq_false_iff_ne.mpr z, Bool.false_and])
theorem c_number {y : Nat → Nat} {L i N : Nat} {p q : Int32} {tx : Nat → Int32} {Q : Int32 → Int32 → Int32 → Int32 → Int32 → Prop} (hL : L ≤ 200) (hT : TX y L tx) (hi : i ≤ L) (hp : p = 0) (hN : 0 < N) (hN2 : N < 2 ^ 31) (hq : q = nI (N - 1))
    (hQ1 : fgB y L i N = true → Q (tV y L i) (nI (tE y L (tE y L i))) (nI (tS y L (tE y L i))) (nI (tT y L (tE y L i))) (tV y L (tE y L i)))
    (hQ0 : fgB y L i N = false → Q (-1) (nI (tE y L i)) (nI (tS y L i)) (nI (tT y L i)) (tV y L i)) : wp_X8_takeNumber p q (nI (tE y L i)) (nI (tS y L i)) (nI (tT y L i)) (tV y L i) (nI L) tx Q := by
  subst hp hq
  have h5 : tT y L i < 5 := srt_5 y L (tS y L i)
  unfold wp_X8_takeNumber
  unfold fgB at hQ1 hQ0
  rw [show ((nI (tT y L i) = (2 : Int32)) = (tT y L i = 2)) from propext (nI_eq (b := 2) (by omega) (by omega))]
  refine br_c (fun z => br_c (fun z2 => ?_) (fun z2 => br_c (fun z3 => ?_) (fun z3 => ?_))) (fun z => ?_)
  · exact hQ0 (by rw [iN_lo hN2 z2, Bool.and_false])
  · refine c_adv hL hT (tE_ok hi).2.1 (hQ1 ?_)
    rw [z, iN_in hN2 z2 (fun z4 => Int32.not_lt.mpr z3 ((lt_le1 hN hN2).mpr z4))]
    rfl
  · exact hQ0 (by rw [iN_hi hN2 ((lt_le1 hN hN2).mp (Int32.not_le.mp z3)), Bool.and_false])
  · exact hQ0 (by rw [show (tT y L i == 2) = false from beq_eq_false_iff_ne.mpr z, Bool.false_and])
theorem c_number1 {y : Nat → Nat} {L i : Nat} {tx : Nat → Int32} {Q : Int32 → Int32 → Int32 → Int32 → Int32 → Prop} (hL : L ≤ 200) (hT : TX y L tx) (hi : i ≤ L)
    (hQ1 : fgB y L i 7 = true → tV y L i ≠ 0 → Q (tV y L i) (nI (tE y L (tE y L i))) (nI (tS y L (tE y L i))) (nI (tT y L (tE y L i))) (tV y L (tE y L i)))
    (hQ0 : (fgB y L i 7 = false ∨ tV y L i = 0) → Q (-1) (nI (tE y L i)) (nI (tS y L i)) (nI (tT y L i)) (tV y L i)) : wp_X8_takeNumber 1 6 (nI (tE y L i)) (nI (tS y L i)) (nI (tT y L i)) (tV y L i) (nI L) tx Q := by
  have h5 : tT y L i < 5 := srt_5 y L (tS y L i)
  unfold wp_X8_takeNumber
  unfold fgB at hQ1 hQ0
  rw [show ((nI (tT y L i) = (2 : Int32)) = (tT y L i = 2)) from propext (nI_eq (b := 2) (by omega) (by omega))]
  refine br_c (fun z => ?_) (fun z => ?_)
  case refine_2 => exact hQ0 (Or.inl (by rw [show (tT y L i == 2) = false from beq_eq_false_iff_ne.mpr z, Bool.false_and]))
  rw [z] at hQ1 hQ0 ⊢
  by_cases h : iN (tV y L i) 7 = true
  · obtain ⟨v, hv, e⟩ := iN_t.mp h
    rw [e]
    rw [e] at hQ1 hQ0 h
    rw [show ((nI v < (1 : Int32)) = (v < 1)) from propext (nI_ltI (b := 1) (by omega) (by omega)), show ((nI v ≤ (6 : Int32)) = (v ≤ 6)) from propext (nI_leI (b := 6) (by omega) (by omega))]
    refine br_c (fun z2 => ?_) (fun z2 => br_t (by omega) ?_)
    · refine hQ0 (Or.inr ?_)
      rw [show v = 0 by omega]; rfl
    · refine c_adv hL hT (tE_ok hi).2.1 (hQ1 (by rw [h]; rfl) (nI_ne0 (by omega) (by omega)))
  · have h0 : iN (tV y L i) 7 = false := by rw [Bool.eq_false_iff]; exact h
    have hq := hQ0 (Or.inl (by rw [h0, Bool.and_false]))
    refine br_c (fun z2 => hq) (fun z2 => br_f (fun z3 => ?_) hq)
    refine h (iN_in (by omega) (fun z4 => z2 ?_) (fun z4 => ?_))
    · rw [Int32.lt_iff_toInt_lt] at z4 ⊢
      have e1 : (0 : Int32).toInt = 0 := by decide
      have e2 : (1 : Int32).toInt = 1 := by decide
      omega
    · rw [Int32.le_iff_toInt_le] at z3 z4
      have e1 : (6 : Int32).toInt = 6 := by decide
      have e2 : (nI 7).toInt = 7 := by decide
      omega
theorem c_stop {y : Nat → Nat} {L i : Nat} {tx : Nat → Int32} {Q : Int32 → Int32 → Int32 → Int32 → Int32 → Prop} (hL : L ≤ 200) (hT : TX y L tx) (hi : i ≤ L)
    (hQ1 : tT y L i = 3 → Q 1 (nI (tE y L (tE y L i))) (nI (tS y L (tE y L i))) (nI (tT y L (tE y L i))) (tV y L (tE y L i)))
    (hQ0 : tT y L i ≠ 3 → Q 0 (nI (tE y L i)) (nI (tS y L i)) (nI (tT y L i)) (tV y L i)) : wp_X8_takeStop (nI (tE y L i)) (nI (tS y L i)) (nI (tT y L i)) (tV y L i) (nI L) tx Q := by
  have h5 : tT y L i < 5 := srt_5 y L (tS y L i)
  unfold wp_X8_takeStop
  rw [show ((nI (tT y L i) = (3 : Int32)) = (tT y L i = 3)) from propext (nI_eq (b := 3) (by omega) (by omega))]
  exact br_c (fun z => c_adv hL hT (tE_ok hi).2.1 (hQ1 z)) (fun z => hQ0 z)
theorem c_kind {y : Nat → Nat} {L i : Nat} {tx : Nat → Int32} {Q : Int32 → Int32 → Int32 → Int32 → Int32 → Prop} (hL : L ≤ 200) (hT : TX y L tx) (hi : i ≤ L)
    (hQ1 : kdB y L i = true → Q (tV y L i) (nI (tE y L (tE y L i))) (nI (tS y L (tE y L i))) (nI (tT y L (tE y L i))) (tV y L (tE y L i)))
    (hQ0 : kdB y L i = false → Q (-1) (nI (tE y L i)) (nI (tS y L i)) (nI (tT y L i)) (tV y L i)) : wp_X8_takeKind (nI (tE y L i)) (nI (tS y L i)) (nI (tT y L i)) (tV y L i) (nI L) tx Q := by
  have h5 : tT y L i < 5 := srt_5 y L (tS y L i)
  unfold wp_X8_takeKind
  unfold kdB at hQ1 hQ0
  rw [show ((nI (tT y L i) = (1 : Int32)) = (tT y L i = 1)) from propext (nI_eq (b := 1) (by omega) (by omega)), show ((tV y L i ≤ (7 : Int32)) = ¬ nI 8 ≤ tV y L i) from propext (le_lt (N := 7) (by omega))]
  refine br_c (fun z => br_c (fun z2 => ?_) (fun z2 => br_c (fun z3 => ?_) (fun z3 => ?_))) (fun z => ?_)
  · exact hQ0 (by rw [iN_lo (by omega) z2, Bool.and_false])
  · refine c_adv hL hT (tE_ok hi).2.1 (hQ1 ?_)
    rw [z, iN_in (by omega) z2 z3]
    rfl
  · exact hQ0 (by rw [iN_hi (by omega) (Classical.not_not.mp z3), Bool.and_false])
  · exact hQ0 (by rw [show (tT y L i == 1) = false from beq_eq_false_iff_ne.mpr z, Bool.false_and])
/-! the reference -/
theorem s_byte {y : Nat → Nat} {L k : Nat} {tx : Nat → Int32} {Q : Int32 → Prop} (hL : L ≤ 200) (hT : TX y L tx) (hk : k < L) (hQ : Q (nI (y k))) : wp_X11_byteAt (nI k) (nI L) tx Q := by
  unfold wp_X11_byteAt
  refine br_f (nI_ge hk (by omega)) ⟨vi (by omega) (by omega), ?_⟩
  rw [nI_clamp (by omega), (hT k hk).1]
  exact hQ
theorem s_byteE {L k : Nat} {tx : Nat → Int32} {Q : Int32 → Prop} (hk : L ≤ k) (hk2 : k < 2 ^ 31) (hQ : Q (-1)) : wp_X11_byteAt (nI k) (nI L) tx Q := by
  unfold wp_X11_byteAt
  exact br_t (nI_le hk hk2) hQ
theorem s_in {b lo hi : Nat} {Q : Int32 → Prop} (hb : b < 2 ^ 31) (h1 : lo < 2 ^ 31) (h2 : hi < 2 ^ 31) (hQ : Q (bI (decide (lo ≤ b ∧ b ≤ hi)))) : wp_X11_in (nI b) (nI lo) (nI hi) Q := by
  unfold wp_X11_in
  rw [nI_ltI hb h1, nI_ltI h2 hb]
  refine br_c (fun z => ?_) (fun z => br_c (fun z2 => ?_) (fun z2 => ?_))
  · rw [decide_eq_false (by omega)] at hQ; exact hQ
  · rw [decide_eq_false (by omega)] at hQ; exact hQ
  · rw [decide_eq_true (by omega)] at hQ; exact hQ
theorem s_sort {b : Nat} {Q : Int32 → Prop} (hb : b < 256) (hQ : Q (nI (if 97 ≤ b ∧ b ≤ 122 then 1 else if 48 ≤ b ∧ b ≤ 57 then 2 else if b = 59 then 3 else 4))) : wp_X11_sortOf (nI b) Q := by
  unfold wp_X11_sortOf
  refine br_t (nI_pos' (by omega)) (s_in (lo := 97) (hi := 122) (by omega) (by omega) (by omega) ?_)
  rw [zbR]
  by_cases z : 97 ≤ b ∧ b ≤ 122
  · rw [if_pos (decide_eq_true z)]
    rw [if_pos z] at hQ
    exact hQ
  rw [if_neg (fun h => z (of_decide_eq_true h))]
  rw [if_neg z] at hQ
  refine s_in (lo := 48) (hi := 57) (by omega) (by omega) (by omega) ?_
  rw [zbR]
  by_cases z2 : 48 ≤ b ∧ b ≤ 57
  · rw [if_pos (decide_eq_true z2)]
    rw [if_pos z2] at hQ
    exact hQ
  rw [if_neg (fun h => z2 (of_decide_eq_true h))]
  rw [if_neg z2] at hQ
  rw [show ((nI b = (59 : Int32)) = (b = 59)) from propext (nI_eq (b := 59) (by omega) (by omega))]
  refine br_c (fun z3 => ?_) (fun z3 => ?_)
  · rw [if_pos z3] at hQ; exact hQ
  · rw [if_neg z3] at hQ; exact hQ
theorem s_sb {y : Nat → Nat} {L k : Nat} {tx : Nat → Int32} {Q : Int32 → Prop} (hL : L ≤ 200) (hT : TX y L tx) (hk : k ≤ L) (hQ : Q (nI (srt y L k))) : wp_X11_byteAt (nI k) (nI L) tx (fun r => wp_X11_sortOf r Q) := by
  by_cases z : k < L
  · refine s_byte hL hT z (s_sort (hT k z).2 ?_)
    unfold srt at hQ
    rw [if_pos z] at hQ
    exact hQ
  · refine s_byteE (by omega) (by omega) ?_
    unfold wp_X11_sortOf
    unfold srt at hQ
    rw [if_neg z] at hQ
    exact br_f (by decide) hQ
theorem s_token {y : Nat → Nat} {L i : Nat} {tx : Nat → Int32} {a b c : Int32} {Q : Int32 → Int32 → Int32 → Int32 → Prop} (hL : L ≤ 200) (hT : TX y L tx) (hi : i ≤ L) (hQ : Q (nI (tE y L i)) (nI (tT y L i)) (nI (tS y L i)) (nI (tE y L i - tS y L i))) : wp_X11_token (nI L) (nI i) a b c tx Q := by
  have hS := tS_ok (y := y) hi
  have hE := tE_ok (y := y) hi
  have h5 : tT y L i < 5 := srt_5 y L (tS y L i)
  have body : ∀ a b c : Int32, wp_X11_token_b26 Q (nI L) tx (nI (tS y L i)) a b c := by
    intro a b c
    unfold wp_X11_token_b26
    refine s_sb hL hT hS.2 ?_
    change ∃ k : Nat, wp_X11_token_b54 Q (nI L) tx k (nI (tS y L i)) (nI (tT y L i)) (nI (tS y L i)) 0
    by_cases t0 : tT y L i = 0
    · refine ⟨1, ?_⟩
      unfold wp_X11_token_b54 wp_X11_token_b68
      unfold tE at hQ
      rw [if_pos t0, t0, Nat.sub_self] at hQ
      rw [t0]
      exact br_t rfl (br_t rfl (br_f (by decide) (br_f (by decide) hQ)))
    · have hlt := hE.2.2.1 t0
      have t0' : ¬ nI (tT y L i) = (0 : Int32) := nI_ne0 (by omega) (by omega)
      by_cases t12 : tT y L i = 1 ∨ tT y L i = 2
      · have hE1 : tE y L i = rn y L (tT y L i) (tS y L i + 1) := by
          unfold tE
          rw [if_neg t0, if_pos t12]
        have main : ∀ (d j : Nat), j + d = L → tS y L i < j → rn y L (tT y L i) j = tE y L i → wp_X11_token_b54 Q (nI L) tx (d + 1) (nI j) (nI (tT y L i)) (nI (tS y L i)) (nI (j - tS y L i)) := by
          intro d
          induction d with
          | zero =>
            intro j hj h1 hr
            have q : srt y L j ≠ tT y L i := fun q => by have := srt_lt (y := y) (L := L) (k := j) (by omega); omega
            rw [rn_f q] at hr
            unfold wp_X11_token_b54 wp_X11_token_b68 wp_X11_token_b84
            refine br_f (nI_ne0 (by omega) (by omega)) ?_
            have hx : wp_X11_byteAt (nI j) (nI L) tx (fun r_1 => (wp_X11_sortOf r_1 (fun r_2 => ((r_2 = nI (tT y L i) → (wp_X11_token_b102 Q (wp_X11_token_b54 Q (nI L) tx 0) (nI j) (nI (tT y L i)) (nI (tS y L i)) (nI (j - tS y L i)))) ∧ (¬ r_2 = nI (tT y L i) → (Q (nI j) (nI (tT y L i)) (nI (tS y L i)) (nI (j - tS y L i)))))))) := by
              refine s_sb hL hT (by omega) ?_
              refine br_f (fun z => q ((nI_eq (by have := srt_5 y L j; omega) (by omega)).mp z)) ?_
              rw [hr]
              exact hQ
            rw [show ((nI (tT y L i) = (1 : Int32)) = (tT y L i = 1)) from propext (nI_eq (b := 1) (by omega) (by omega)), show ((nI (tT y L i) = (2 : Int32)) = (tT y L i = 2)) from propext (nI_eq (b := 2) (by omega) (by omega))]
            exact br_c (fun _ => hx) (fun z => br_t (by omega) hx)
          | succ d ih =>
            intro j hj h1 hr
            unfold wp_X11_token_b54 wp_X11_token_b68 wp_X11_token_b84
            refine br_f (nI_ne0 (by omega) (by omega)) ?_
            have hx : wp_X11_byteAt (nI j) (nI L) tx (fun r_1 => (wp_X11_sortOf r_1 (fun r_2 => ((r_2 = nI (tT y L i) → (wp_X11_token_b102 Q (wp_X11_token_b54 Q (nI L) tx (d + 1)) (nI j) (nI (tT y L i)) (nI (tS y L i)) (nI (j - tS y L i)))) ∧ (¬ r_2 = nI (tT y L i) → (Q (nI j) (nI (tT y L i)) (nI (tS y L i)) (nI (j - tS y L i)))))))) := by
              refine s_sb hL hT (by omega) ?_
              rw [nI_eq (by have := srt_5 y L j; omega) (by omega)]
              refine br_c (fun q => ?_) (fun q => ?_)
              · have := ih (j + 1) (by omega) (by omega) (by rw [← rn_t t0 q]; exact hr)
                unfold wp_X11_token_b102
                rw [nI_1, nI_1, show j - tS y L i + 1 = j + 1 - tS y L i by omega]
                exact this
              · rw [rn_f q] at hr
                rw [hr]
                exact hQ
            rw [show ((nI (tT y L i) = (1 : Int32)) = (tT y L i = 1)) from propext (nI_eq (b := 1) (by omega) (by omega)), show ((nI (tT y L i) = (2 : Int32)) = (tT y L i = 2)) from propext (nI_eq (b := 2) (by omega) (by omega))]
            exact br_c (fun _ => hx) (fun z => br_t (by omega) hx)
        refine ⟨L - (tS y L i + 1) + 1 + 1, ?_⟩
        have := main (L - (tS y L i + 1)) (tS y L i + 1) (by omega) (by omega) hE1.symm
        rw [show tS y L i + 1 - tS y L i = 1 by omega] at this
        unfold wp_X11_token_b54 wp_X11_token_b102
        refine br_t rfl (br_f t0' ?_)
        rw [nI_1]
        exact this
      · have hE1 : tE y L i = tS y L i + 1 := by
          unfold tE
          rw [if_neg t0, if_neg t12]
        refine ⟨2, ?_⟩
        rw [hE1, show tS y L i + 1 - tS y L i = 1 by omega] at hQ
        unfold wp_X11_token_b54 wp_X11_token_b102
        refine br_t rfl (br_f t0' ?_)
        unfold wp_X11_token_b54 wp_X11_token_b68
        rw [show ((nI (tT y L i) = (1 : Int32)) = (tT y L i = 1)) from propext (nI_eq (b := 1) (by omega) (by omega)), show ((nI (tT y L i) = (2 : Int32)) = (tT y L i = 2)) from propext (nI_eq (b := 2) (by omega) (by omega)), nI_1]
        exact br_f (by decide) (br_f (fun z => t12 (Or.inl z)) (br_f (fun z => t12 (Or.inr z)) hQ))
  have main : ∀ (d j : Nat) (a b c : Int32), j + d = L → tS y L j = tS y L i → wp_X11_token_b0 Q (nI L) tx (d + 1) (nI j) a b c := by
    intro d
    induction d with
    | zero =>
      intro j a b c hj hr
      rw [sk_f (fun q => by omega)] at hr
      unfold wp_X11_token_b0
      refine s_byteE (by omega) (by omega) (br_f (by decide) ?_)
      rw [hr]
      exact body a b c
    | succ d ih =>
      intro j a b c hj hr
      obtain ⟨e1, e2⟩ := hT j (by omega)
      unfold wp_X11_token_b0
      refine s_byte hL hT (by omega) ?_
      rw [nI_1, show ((nI (y j) = (32 : Int32)) = (y j = 32)) from propext (nI_eq (b := 32) (by omega) (by omega))]
      refine br_c (fun q => ?_) (fun q => ?_)
      · exact ih (j + 1) a b c (by omega) (by rw [← sk_t (by omega) q]; exact hr)
      · rw [sk_f (fun _ => q)] at hr
        rw [hr]
        exact body a b c
  exact ⟨_, main (L - i) i a b c (by omega) rfl⟩
