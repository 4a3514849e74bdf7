/-! figures, and an item of the text -/
theorem s_figure {y : Nat → Nat} {L i N : Nat} {p q : Int32} {tx : Nat → Int32} {Q : Int32 → Prop} (hL : L ≤ 200) (hT : TX y L tx) (hi : i ≤ L) (hp : p = 0) (hN2 : N < 2 ^ 31) (hq : q = nI N - 1) (hQ : Q (fgV y L i N)) : wp_X11_figure p q (nI L) (nI (tT y L i)) (nI (tS y L i)) (nI (tE y L i - tS y L i)) tx Q := by
  subst hp
  obtain ⟨e1, e2, e3, e4⟩ := tE_ok (y := y) hi
  have h5 : tT y L i < 5 := srt_5 y L (tS y L i)
  have hS := tS_ok (y := y) hi
  unfold wp_X11_figure
  have hne : tT y L i ≠ 2 → Q (-1) := fun z => by
    unfold fgV fgB at hQ
    rw [show (tT y L i == 2) = false from beq_eq_false_iff_ne.mpr z, Bool.false_and] at hQ
    exact hQ
  by_cases z : tS y L i < L
  · refine s_byte hL hT z ?_
    rw [show ((nI (tT y L i) = (2 : Int32)) = (tT y L i = 2)) from propext (nI_eq (b := 2) (by omega) (by omega)), show ((nI (tE y L i - tS y L i) = (1 : Int32)) = (tE y L i - tS y L i = 1)) from propext (nI_eq (b := 1) (by omega) (by omega))]
    refine br_c (fun z2 => br_c (fun z3 => ?_) (fun z3 => ?_)) hne
    · have h48 : 48 ≤ y (tS y L i) := by
        have z2 := z2
        unfold tT srt at z2
        rw [if_pos z] at z2
        revert z2
        repeat' split
        all_goals omega
      rw [show (48 : Int32) = nI 48 from rfl, pk_sub h48]
      have hv : tV y L i = nI (y (tS y L i) - 48) := by
        unfold tV
        rw [if_neg (by omega), if_pos ⟨z2, z3⟩]
      refine t_in (N := N) hN2 hq ?_
      rw [zbR]
      unfold fgV fgB at hQ
      rw [z2, hv] at hQ
      change Q (if iN (nI (y (tS y L i) - 48)) N = true then _ else _) at hQ
      cases hin : iN (nI (y (tS y L i) - 48)) N with
      | false => rw [hin, if_neg (by decide)] at hQ; rw [if_neg (by decide)]; exact hQ
      | true => rw [hin, if_pos rfl] at hQ; rw [if_pos rfl]; exact hQ
    · have hv : tV y L i = -1 := by
        unfold tV
        rw [if_neg (by omega), if_neg (fun h => z3 h.2)]
      unfold fgV fgB at hQ
      rw [hv, iN_lo hN2 (by decide), Bool.and_false] at hQ
      exact hQ
  · refine s_byteE (by omega) (by omega) ?_
    have t0 : tT y L i = 0 := by unfold tT srt; rw [if_neg z]
    have hq := hne (by omega)
    rw [t0]
    exact br_f (by decide) hq
theorem s_nextF {y : Nat → Nat} {L i N : Nat} {p q a b c : Int32} {tx : Nat → Int32} {Q : Int32 → Int32 → Int32 → Int32 → Int32 → Prop} (hL : L ≤ 200) (hT : TX y L tx) (hi : i ≤ L) (hp : p = 0) (hN2 : N < 2 ^ 31) (hq : q = nI N - 1) (hQ : Q (fgV y L i N) (nI (tE y L i)) (nI (tT y L i)) (nI (tS y L i)) (nI (tE y L i - tS y L i))) : wp_X11_nextFigure p q (nI L) (nI i) a b c tx Q := by
  unfold wp_X11_nextFigure
  exact s_token hL hT hi (s_figure hL hT hi hp hN2 hq hQ)
theorem s_nextF1 {y : Nat → Nat} {L i : Nat} {a b c : Int32} {tx : Nat → Int32} {Q : Int32 → Int32 → Int32 → Int32 → Int32 → Prop} (hL : L ≤ 200) (hT : TX y L tx) (hi : i ≤ L) (hQ : Q (if tV y L i = 0 then -1 else fgV y L i 7) (nI (tE y L i)) (nI (tT y L i)) (nI (tS y L i)) (nI (tE y L i - tS y L i))) : wp_X11_nextFigure 1 6 (nI L) (nI i) a b c tx Q := by
  obtain ⟨e1, e2, e3, e4⟩ := tE_ok (y := y) hi
  have h5 : tT y L i < 5 := srt_5 y L (tS y L i)
  have hS := tS_ok (y := y) hi
  unfold wp_X11_nextFigure
  refine s_token hL hT hi ?_
  unfold wp_X11_figure
  have hne : tT y L i ≠ 2 → Q (-1) (nI (tE y L i)) (nI (tT y L i)) (nI (tS y L i)) (nI (tE y L i - tS y L i)) := fun z => by
    unfold fgV fgB at hQ
    rw [show (tT y L i == 2) = false from beq_eq_false_iff_ne.mpr z, Bool.false_and, if_neg (c := (false = true)) (by decide)] at hQ
    revert hQ
    split
    · exact fun h => h
    · exact fun h => h
  by_cases z : tS y L i < L
  · refine s_byte hL hT z ?_
    rw [show ((nI (tT y L i) = (2 : Int32)) = (tT y L i = 2)) from propext (nI_eq (b := 2) (by omega) (by omega)), show ((nI (tE y L i - tS y L i) = (1 : Int32)) = (tE y L i - tS y L i = 1)) from propext (nI_eq (b := 1) (by omega) (by omega))]
    refine br_c (fun z2 => br_c (fun z3 => ?_) (fun z3 => ?_)) hne
    · have h48 : 48 ≤ y (tS y L i) := by
        have z2 := z2
        unfold tT srt at z2
        rw [if_pos z] at z2
        revert z2
        repeat' split
        all_goals omega
      have hb := (hT _ z).2
      rw [show (48 : Int32) = nI 48 from rfl, pk_sub h48]
      have hv : tV y L i = nI (y (tS y L i) - 48) := by
        unfold tV
        rw [if_neg (by omega), if_pos ⟨z2, z3⟩]
      refine s_in (lo := 1) (hi := 6) (by omega) (by omega) (by omega) ?_
      rw [zbR]
      unfold fgV fgB at hQ
      rw [z2, hv] at hQ
      change Q (if nI (y (tS y L i) - 48) = 0 then -1 else if iN (nI (y (tS y L i) - 48)) 7 = true then _ else _) _ _ _ _ at hQ
      rw [z2]
      by_cases q0 : y (tS y L i) - 48 = 0
      · rw [if_pos (show nI (y (tS y L i) - 48) = 0 by rw [q0]; rfl)] at hQ
        rw [if_neg (fun h => by have := of_decide_eq_true h; omega)]
        exact hQ
      · rw [if_neg (nI_ne0 (by omega) (by omega))] at hQ
        by_cases q1 : y (tS y L i) - 48 < 7
        · rw [iN_n q1, if_pos rfl] at hQ
          rw [if_pos (decide_eq_true (by omega))]
          exact hQ
        · rw [iN_hi (by omega) (nI_le (by omega) (by omega)), if_neg (by decide)] at hQ
          rw [if_neg (fun h => by have := of_decide_eq_true h; omega)]
          exact hQ
    · have hv : tV y L i = -1 := by
        unfold tV
        rw [if_neg (by omega), if_neg (fun h => z3 h.2)]
      unfold fgV fgB at hQ
      rw [hv, iN_lo (by omega) (by decide), Bool.and_false, if_neg (by decide), if_neg (by decide)] at hQ
      exact hQ
  · refine s_byteE (by omega) (by omega) ?_
    have t0 : tT y L i = 0 := by unfold tT srt; rw [if_neg z]
    have hq := hne (by omega)
    rw [t0] at hq ⊢
    exact br_f (by decide) hq
/-- what stands behind an item: whether it is one, the token that is looked at, the book, how many sayings -/
def pSay (y : Nat → Nat) (L n : Nat) (g : Nat → Int32) (m i : Nat) : Bool × Nat × (Nat → Int32) × Nat :=
  if m = 8 then (false, i, g, m) else
  if fgB y L i n = true then (
    if kdB y L (tE y L i) = true then (
      if fgB y L (tE y L (tE y L i)) n = true ∧ tV y L (tE y L (tE y L i)) ≠ tV y L i then (
        if wd y L (tE y L (tE y L (tE y L i))) 11 = true then (
          if fgB y L (tE y L (tE y L (tE y L (tE y L i)))) 4 = true then (true, tE y L (tE y L (tE y L (tE y L (tE y L i)))), gSay g m (tV y L i) (tV y L (tE y L i)) (tV y L (tE y L (tE y L i))) (tV y L (tE y L (tE y L (tE y L (tE y L i))))), m + 1)
          else (false, tE y L (tE y L (tE y L (tE y L i))), g, m))
        else (true, tE y L (tE y L (tE y L i)), gSay g m (tV y L i) (tV y L (tE y L i)) (tV y L (tE y L (tE y L i))) 0, m + 1))
      else (false, tE y L (tE y L i), g, m))
    else (false, tE y L i, g, m))
  else (false, i, g, m)
def pItem (y : Nat → Nat) (L n : Nat) (g : Nat → Int32) (m i : Nat) : Bool × Nat × (Nat → Int32) × Nat :=
  if tT y L i = 2 then pSay y L n g m i else
  if wd y L i 9 = true then (
    if fgB y L (tE y L i) n = true then (
      if fgB y L (tE y L (tE y L i)) 4 = true then (true, tE y L (tE y L (tE y L i)), upd g (2 + (tV y L (tE y L i)).toNatClampNeg) (tV y L (tE y L (tE y L i))), m)
      else (false, tE y L (tE y L i), g, m))
    else (false, tE y L i, g, m)) else
  if wd y L i 10 = true then (
    if fgB y L (tE y L i) n = true then (true, tE y L (tE y L i), upd g (8 + (tV y L (tE y L i)).toNatClampNeg) 1, m)
    else (false, tE y L i, g, m))
  else (false, i, g, m)
