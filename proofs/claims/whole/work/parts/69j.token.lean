/-! tokens of a text, purely -/
def TX (y : Nat → Nat) (L : Nat) (tx : Nat → Int32) : Prop := ∀ k, k < L → tx k = nI (y k) ∧ y k < 256
/-- 0 over, 1 letter, 2 figure, 3 stop, 4 strange -/
def srt (y : Nat → Nat) (L k : Nat) : Nat := if k < L then (if 97 ≤ y k ∧ y k ≤ 122 then 1 else if 48 ≤ y k ∧ y k ≤ 57 then 2 else if y k = 59 then 3 else 4) else 0
theorem srt_lt {y : Nat → Nat} {L k : Nat} (h : srt y L k ≠ 0) : k < L := by
  rcases Nat.lt_or_ge k L with q | q
  · exact q
  · exact absurd (if_neg (by omega)) h
theorem srt_5 (y : Nat → Nat) (L k : Nat) : srt y L k < 5 := by
  unfold srt
  repeat' split
  all_goals omega
def skF (y : Nat → Nat) : Nat → Nat → Nat
  | 0, i => i
  | f + 1, i => if y i = 32 then skF y f (i + 1) else i
def tS (y : Nat → Nat) (L i : Nat) : Nat := skF y (L - i) i
theorem sk_t {y : Nat → Nat} {L i : Nat} (h : i < L) (h2 : y i = 32) : tS y L i = tS y L (i + 1) := by
  unfold tS
  rw [show L - i = (L - (i + 1)) + 1 by omega, skF, if_pos h2]
theorem sk_f {y : Nat → Nat} {L i : Nat} (h : i < L → y i ≠ 32) : tS y L i = i := by
  unfold tS
  rcases Nat.lt_or_ge i L with q | q
  · rw [show L - i = (L - (i + 1)) + 1 by omega, skF, if_neg (h q)]
  · rw [show L - i = 0 by omega, skF]
theorem tS_le {y : Nat → Nat} {L : Nat} : ∀ (d i : Nat), i + d = L → i ≤ tS y L i ∧ tS y L i ≤ L
  | 0, i, h => by
    rw [sk_f (fun q => by omega)]; omega
  | d + 1, i, h => by
    by_cases q : y i = 32
    · rw [sk_t (by omega) q]
      have := tS_le (y := y) (L := L) d (i + 1) (by omega)
      omega
    · rw [sk_f (fun _ => q)]; omega
theorem tS_ok {y : Nat → Nat} {L i : Nat} (h : i ≤ L) : i ≤ tS y L i ∧ tS y L i ≤ L := tS_le (L - i) i (by omega)
def rnF (y : Nat → Nat) (L s : Nat) : Nat → Nat → Nat
  | 0, i => i
  | f + 1, i => if srt y L i = s then rnF y L s f (i + 1) else i
def rn (y : Nat → Nat) (L s i : Nat) : Nat := rnF y L s (L - i) i
theorem rn_t {y : Nat → Nat} {L s i : Nat} (hs : s ≠ 0) (h : srt y L i = s) : rn y L s i = rn y L s (i + 1) := by
  have q : i < L := srt_lt (by rw [h]; exact hs)
  unfold rn
  rw [show L - i = (L - (i + 1)) + 1 by omega, rnF, if_pos h]
theorem rn_f {y : Nat → Nat} {L s i : Nat} (h : srt y L i ≠ s) : rn y L s i = i := by
  unfold rn
  rcases Nat.lt_or_ge i L with q | q
  · rw [show L - i = (L - (i + 1)) + 1 by omega, rnF, if_neg h]
  · rw [show L - i = 0 by omega, rnF]
theorem rn_le {y : Nat → Nat} {L s : Nat} (hs : s ≠ 0) : ∀ (d i : Nat), i + d = L → i ≤ rn y L s i ∧ rn y L s i ≤ L ∧ ∀ k, i ≤ k → k < rn y L s i → srt y L k = s
  | 0, i, h => by
    have q : srt y L i ≠ s := fun z => by have := srt_lt (y := y) (L := L) (k := i) (by rw [z]; exact hs); omega
    rw [rn_f q]
    exact ⟨by omega, by omega, fun k h1 h2 => by omega⟩
  | d + 1, i, h => by
    by_cases q : srt y L i = s
    · rw [rn_t hs q]
      obtain ⟨h1, h2, h3⟩ := rn_le (y := y) (L := L) hs d (i + 1) (by omega)
      refine ⟨by omega, h2, fun k k1 k2 => ?_⟩
      by_cases z : k = i
      · rw [z]; exact q
      · exact h3 k (by omega) k2
    · rw [rn_f q]
      exact ⟨by omega, by omega, fun k h1 h2 => by omega⟩
theorem rn_ok {y : Nat → Nat} {L s i : Nat} (hs : s ≠ 0) (h : i ≤ L) : i ≤ rn y L s i ∧ rn y L s i ≤ L ∧ ∀ k, i ≤ k → k < rn y L s i → srt y L k = s := rn_le hs (L - i) i (by omega)
/-- sort and end of the token read from i -/
def tT (y : Nat → Nat) (L i : Nat) : Nat := srt y L (tS y L i)
def tE (y : Nat → Nat) (L i : Nat) : Nat := if tT y L i = 0 then tS y L i else if tT y L i = 1 ∨ tT y L i = 2 then rn y L (tT y L i) (tS y L i + 1) else tS y L i + 1
theorem tE_ok {y : Nat → Nat} {L i : Nat} (h : i ≤ L) : tS y L i ≤ tE y L i ∧ tE y L i ≤ L ∧ (tT y L i ≠ 0 → tS y L i < tE y L i) ∧ ((tT y L i = 1 ∨ tT y L i = 2) → ∀ k, tS y L i ≤ k → k < tE y L i → srt y L k = tT y L i) := by
  have h1 := tS_ok (y := y) h
  unfold tE
  by_cases z : tT y L i = 0
  · rw [if_pos z]
    exact ⟨Nat.le_refl _, h1.2, fun q => absurd z q, fun q => by omega⟩
  · have h2 : tS y L i < L := srt_lt z
    rw [if_neg z]
    by_cases z2 : tT y L i = 1 ∨ tT y L i = 2
    · rw [if_pos z2]
      obtain ⟨q1, q2, q3⟩ := rn_ok (y := y) (L := L) (s := tT y L i) (i := tS y L i + 1) z (by omega)
      refine ⟨by omega, q2, fun _ => by omega, fun _ k k1 k2 => ?_⟩
      by_cases z3 : k = tS y L i
      · rw [z3]; rfl
      · exact q3 k (by omega) k2
    · rw [if_neg z2]
      exact ⟨by omega, by omega, fun _ => by omega, fun q => absurd q z2⟩
/-! words -/
def wl (w : Nat) : Nat := nw_len.getD w 0
def wc (w j : Nat) : Nat := ((nw_byt.getD w []).getD j 0).toNatClampNeg
theorem wl_6 : ∀ w, w < 12 → wl w < 7 ∧ 0 < wl w := by decide
theorem wc_b : ∀ w, w < 12 → ∀ j, j < wl w → 97 ≤ wc w j ∧ wc w j ≤ 122 := by decide +kernel
theorem wc_c : ∀ w, w < 12 → ∀ j, j < wl w → ((((nw_byt.getD w []).getD j 0) &&& 255).toUInt32 % 65536).toInt32 = nI (wc w j) := by decide +kernel
def spl (y : Nat → Nat) (s e w : Nat) : Bool := decide (e - s = wl w) && aB (fun j => decide (y (s + j) = wc w j)) (wl w)
def fwd (p : Nat → Bool) : Nat → Nat → Int32
  | 0, _ => -1
  | d + 1, k => if p k = true then nI k else fwd p d (k + 1)
/-- what the token is worth -/
def tV (y : Nat → Nat) (L i : Nat) : Int32 := if tT y L i = 1 then fwd (spl y (tS y L i) (tE y L i)) 12 0 else if tT y L i = 2 ∧ tE y L i - tS y L i = 1 then nI (y (tS y L i) - 48) else -1
/-! the class -/
theorem c_letter {y : Nat → Nat} {L k : Nat} {tx : Nat → Int32} {Q : Int32 → Prop} (hL : L ≤ 200) (hT : TX y L tx) (hk : k < L) (hQ : Q (bI (srt y L k == 1))) : wp_X8_isLetter (nI k) tx Q := by
  obtain ⟨e, hb⟩ := hT k hk
  unfold wp_X8_isLetter
  rw [nI_clamp (by omega), e, zl 97, zl 122, nI_ltI (by omega) (by omega), nI_ltI (by omega) (by omega)]
  unfold srt at hQ
  rw [if_pos hk] at hQ
  refine ⟨vi (by omega) (by omega), br_c (fun z => ?_) (fun z => ⟨vi (by omega) (by omega), br_c (fun z2 => ?_) (fun z2 => ?_)⟩)⟩
  · rw [if_neg (by omega)] at hQ
    revert hQ
    repeat' split
    all_goals exact fun h => h
  · rw [if_neg (by omega)] at hQ
    revert hQ
    repeat' split
    all_goals exact fun h => h
  · rw [if_pos (by omega)] at hQ
    exact hQ
theorem c_figure {y : Nat → Nat} {L k : Nat} {tx : Nat → Int32} {Q : Int32 → Prop} (hL : L ≤ 200) (hT : TX y L tx) (hk : k < L) (hQ : Q (bI (srt y L k == 2))) : wp_X8_isFigure (nI k) tx Q := by
  obtain ⟨e, hb⟩ := hT k hk
  unfold wp_X8_isFigure
  rw [nI_clamp (by omega), e, zl 48, zl 57, nI_ltI (by omega) (by omega), nI_ltI (by omega) (by omega)]
  unfold srt at hQ
  rw [if_pos hk] at hQ
  refine ⟨vi (by omega) (by omega), br_c (fun z => ?_) (fun z => ⟨vi (by omega) (by omega), br_c (fun z2 => ?_) (fun z2 => ?_)⟩)⟩
  · rw [if_neg (c := 97 ≤ y k ∧ y k ≤ 122) (by omega), if_neg (by omega)] at hQ
    revert hQ
    repeat' split
    all_goals exact fun h => h
  · rw [if_neg (c := 48 ≤ y k ∧ y k ≤ 57) (by omega)] at hQ
    revert hQ
    repeat' split
    all_goals exact fun h => h
  · rw [if_neg (c := 97 ≤ y k ∧ y k ≤ 122) (by omega), if_pos (by omega)] at hQ
    exact hQ
theorem c_spells {y : Nat → Nat} {L s e w : Nat} {tx : Nat → Int32} {Q : Int32 → Prop} (hL : L ≤ 200) (hT : TX y L tx) (hs : s ≤ e) (he : e ≤ L) (hw : w < 12) (hQ : Q (bI (spl y s e w))) : wp_X8_spells (nI s) (nI e) w tx Q := by
  have hl := wl_6 w hw
  unfold wp_X8_spells wp_J0_length_8abf5
  refine ⟨hw, ?_⟩
  change ((nI e - nI s = nI (wl w) → _) ∧ (¬ nI e - nI s = nI (wl w) → _))
  rw [pk_sub hs, nI_eq (by omega) (by omega)]
  unfold spl at hQ
  refine br_c (fun z => ?_) (fun z => ?_)
  · rw [decide_eq_true z, Bool.true_and] at hQ
    have main : ∀ (d j : Nat), j + d = wl w → aB (fun j => decide (y (s + j) = wc w j)) j = true → wp_X8_spells_b15 Q tx (d + 1) (nI s) w (nI j) := by
      intro d
      induction d with
      | zero =>
        intro j hj ha
        obtain rfl : j = wl w := by omega
        rw [ha] at hQ
        unfold wp_X8_spells_b15 wp_J0_length_8abf5
        exact ⟨hw, br_t (nI_le (Nat.le_refl _) (by omega)) hQ⟩
      | succ d ih =>
        intro j hj ha
        obtain ⟨e1, e2⟩ := hT (s + j) (by omega)
        have hc := wc_b w hw j (by omega)
        unfold wp_X8_spells_b15 wp_J0_length_8abf5 wp_J0_charAt_5068e
        refine ⟨hw, br_f (nI_ge (b := wl w) (by omega) (by omega)) ?_⟩
        rw [nI_add, nI_clamp (n := s + j) (by omega), nI_clamp (n := j) (by omega), wc_c w hw j (by omega), e1]
        refine ⟨vi (by omega) (by omega), hw, vi (show j < wl w by omega) (by omega), ?_⟩
        change ((nI (y (s + j)) = nI (wc w j) → wp_X8_spells_b15 Q tx (d + 1) (nI s) w (nI j + 1)) ∧ (¬ nI (y (s + j)) = nI (wc w j) → Q 0))
        rw [nI_eq (by omega) (by omega), nI_1]
        refine br_c (fun z2 => ih (j + 1) (by omega) ?_) (fun z2 => ?_)
        · rw [aB, ha, Bool.true_and, decide_eq_true_iff]; exact z2
        · have : aB (fun j => decide (y (s + j) = wc w j)) (wl w) = false := by
            rw [Bool.eq_false_iff]
            intro q
            have := aB_iff.mp q j (by omega)
            rw [decide_eq_true_iff] at this
            exact z2 this
          rw [this] at hQ
          exact hQ
    exact ⟨_, main (wl w) 0 (by omega) rfl⟩
  · rw [decide_eq_false z, Bool.false_and] at hQ
    exact hQ
theorem c_wordOf {w : Nat} {Q : Nat → Prop} (hw : w < 12) (hQ : Q w) : wp_X10_wordOf (nI w) Q := by
  unfold wp_X10_wordOf
  obtain rfl | rfl | rfl | rfl | rfl | rfl | rfl | rfl | rfl | rfl | rfl | rfl : w = 0 ∨ w = 1 ∨ w = 2 ∨ w = 3 ∨ w = 4 ∨ w = 5 ∨ w = 6 ∨ w = 7 ∨ w = 8 ∨ w = 9 ∨ w = 10 ∨ w = 11 := by omega
  all_goals repeat (first | exact hQ | exact br_t (by decide) hQ | refine br_f (by decide) ?_)
theorem c_wordFrom {y : Nat → Nat} {L s e : Nat} {tx : Nat → Int32} {Q : Int32 → Prop} (hL : L ≤ 200) (hT : TX y L tx) (hs : s ≤ e) (he : e ≤ L) (hQ : Q (fwd (spl y s e) 12 0)) : wp_X8_wordFrom (nI s) (nI e) tx Q := by
  have main : ∀ (d w : Nat), w + d = 12 → Q (fwd (spl y s e) d w) → wp_X8_wordFrom_b2 Q tx (d + 1) (nI s) (nI e) (nI w) := by
    intro d
    induction d with
    | zero =>
      intro w hw hQ
      unfold wp_X8_wordFrom_b2
      exact br_t (nI_le (a := 12) (by omega) (by omega)) hQ
    | succ d ih =>
      intro w hw hQ
      rw [fwd] at hQ
      unfold wp_X8_wordFrom_b2
      refine br_f (nI_ge (b := 12) (by omega) (by omega)) (c_wordOf (by omega) (c_spells hL hT hs he (by omega) ?_))
      rw [zbR, nI_1]
      cases hp : spl y s e w with
      | false => rw [hp, if_neg (by decide)] at hQ; rw [if_neg (by decide)]; exact ih (w + 1) (by omega) hQ
      | true => rw [hp, if_pos rfl] at hQ; rw [if_pos rfl]; exact hQ
  exact ⟨13, main 12 0 rfl hQ⟩
theorem c_adv {y : Nat → Nat} {L i : Nat} {tx : Nat → Int32} {a b c : Int32} {Q : Int32 → Int32 → Int32 → Int32 → Prop} (hL : L ≤ 200) (hT : TX y L tx) (hi : i ≤ L) (hQ : Q (nI (tE y L i)) (nI (tS y L i)) (nI (tT y L i)) (tV y L i)) : wp_X8_advance (nI i) a b c (nI L) tx Q := by
  have hS := tS_ok (y := y) hi
  have hE := tE_ok (y := y) hi
  have body : ∀ a b c : Int32, wp_X8_advance_b44 Q (nI L) tx (nI (tS y L i)) a b c := by
    intro a b c
    unfold wp_X8_advance_b44
    rw [nI_ltI (by omega) (by omega)]
    refine br_c (fun z => ?_) (fun z => ?_)
    case refine_2 =>
      have t0 : tT y L i = 0 := by unfold tT srt; rw [if_neg z]
      unfold tV tE at hQ
      rw [t0] at hQ
      exact hQ
    obtain ⟨e1, e2⟩ := hT _ z
    have t0 : tT y L i ≠ 0 := by
      unfold tT srt
      rw [if_pos z]
      repeat' split
      all_goals omega
    refine c_letter hL hT z ?_
    change ((bI (tT y L i == 1) = 0 → _) ∧ (¬ bI (tT y L i == 1) = 0 → _))
    rw [zbR]
    by_cases t1 : tT y L i = 1
    · rw [if_pos (beq_iff_eq.mpr t1)]
      have hE1 : tE y L i = rn y L 1 (tS y L i) := by
        unfold tE
        rw [t1, if_neg (by decide), if_pos (Or.inl rfl), ← rn_t (by decide) t1]
      have main : ∀ (d j : Nat), j + d = L → rn y L 1 j = tE y L i → wp_X8_advance_b90 Q (nI L) tx (d + 1) (nI j) (nI (tS y L i)) b (-1 : Int32) := by
        have fin : wp_X8_advance_b128 Q tx (nI (tE y L i)) (nI (tS y L i)) b (-1 : Int32) := by
          unfold wp_X8_advance_b128
          refine c_wordFrom hL hT hE.1 hE.2.1 ?_
          unfold tV at hQ
          rw [t1, if_pos rfl] at hQ
          exact hQ
        intro d
        induction d with
        | zero =>
          intro j hj hr
          have q : srt y L j ≠ 1 := fun q => by have := srt_lt (y := y) (L := L) (k := j) (by omega); omega
          rw [rn_f q] at hr
          subst hr
          unfold wp_X8_advance_b90
          exact br_t (nI_le (by omega) (by omega)) fin
        | succ d ih =>
          intro j hj hr
          unfold wp_X8_advance_b90
          refine br_f (nI_ge (by omega) (by omega)) (c_letter hL hT (by omega) ?_)
          rw [zbR, nI_1]
          by_cases q : srt y L j = 1
          · rw [if_pos (beq_iff_eq.mpr q)]
            exact ih (j + 1) (by omega) (by rw [← rn_t (by decide) q]; exact hr)
          · rw [if_neg (fun h => q (beq_iff_eq.mp h))]
            rw [rn_f q] at hr
            subst hr
            exact fin
      exact ⟨_, main (L - tS y L i) (tS y L i) (by omega) hE1.symm⟩
    · rw [if_neg (fun h => t1 (beq_iff_eq.mp h))]
      refine c_figure hL hT z ?_
      change ((bI (tT y L i == 2) = 0 → _) ∧ (¬ bI (tT y L i == 2) = 0 → _))
      rw [zbR]
      by_cases t2 : tT y L i = 2
      · rw [if_pos (beq_iff_eq.mpr t2)]
        have hE1 : tE y L i = rn y L 2 (tS y L i) := by
          unfold tE
          rw [t2, if_neg (by decide), if_pos (Or.inr rfl), ← rn_t (by decide) t2]
        have main : ∀ (d j : Nat), j + d = L → rn y L 2 j = tE y L i → wp_X8_advance_b163 Q (nI L) tx (d + 1) (nI j) (nI (tS y L i)) b (-1 : Int32) := by
          have fin : wp_X8_advance_b201 Q tx (nI (tE y L i)) (nI (tS y L i)) b (-1 : Int32) := by
            have h48 : 48 ≤ y (tS y L i) := by
              unfold tT srt at t2
              rw [if_pos z] at t2
              revert t2
              repeat' split
              all_goals omega
            unfold wp_X8_advance_b201 wp_X8_advance_b239
            unfold tV at hQ
            rw [t2, if_neg (by decide)] at hQ
            rw [pk_sub hE.1, show ((nI (tE y L i - tS y L i) = (1 : Int32)) = (tE y L i - tS y L i = 1)) from propext (nI_eq (b := 1) (by omega) (by omega))]
            refine br_c (fun q => ⟨vi (by omega) (by omega), ?_⟩) (fun q => ?_)
            · rw [if_pos ⟨rfl, q⟩] at hQ
              rw [nI_clamp (by omega), e1, zl 48, pk_sub h48]
              exact hQ
            · rw [if_neg (fun h => q h.2)] at hQ
              exact hQ
          intro d
          induction d with
          | zero =>
            intro j hj hr
            have q : srt y L j ≠ 2 := fun q => by have := srt_lt (y := y) (L := L) (k := j) (by omega); omega
            rw [rn_f q] at hr
            subst hr
            unfold wp_X8_advance_b163
            exact br_t (nI_le (by omega) (by omega)) fin
          | succ d ih =>
            intro j hj hr
            unfold wp_X8_advance_b163
            refine br_f (nI_ge (by omega) (by omega)) (c_figure hL hT (by omega) ?_)
            rw [zbR, nI_1]
            by_cases q : srt y L j = 2
            · rw [if_pos (beq_iff_eq.mpr q)]
              exact ih (j + 1) (by omega) (by rw [← rn_t (by decide) q]; exact hr)
            · rw [if_neg (fun h => q (beq_iff_eq.mp h))]
              rw [rn_f q] at hr
              subst hr
              exact fin
        exact ⟨_, main (L - tS y L i) (tS y L i) (by omega) hE1.symm⟩
      · rw [if_neg (fun h => t2 (beq_iff_eq.mp h))]
        have hE1 : tE y L i = tS y L i + 1 := by
          unfold tE
          rw [if_neg t0, if_neg (by omega)]
        unfold tV at hQ
        rw [if_neg t1, if_neg (fun h => t2 h.1), hE1] at hQ
        unfold wp_X8_advance_b268
        rw [nI_clamp (by omega), e1, nI_1, show ((nI (y (tS y L i)) = (59 : Int32)) = (y (tS y L i) = 59)) from propext (nI_eq (b := 59) (by omega) (by omega))]
        refine ⟨vi (by omega) (by omega), br_c (fun q => ?_) (fun q => ?_)⟩
        · rw [show tT y L i = 3 by
            unfold tT srt
            rw [if_pos z, if_neg (by omega), if_neg (by omega), if_pos q]] at hQ
          exact hQ
        · rw [show tT y L i = 4 by
            unfold tT srt at t1 t2 ⊢
            rw [if_pos z] at t1 t2 ⊢
            revert t1 t2
            repeat' split
            all_goals omega] at hQ
          exact hQ
  have main : ∀ (d j : Nat) (a b c : Int32), j + d = L → tS y L j = tS y L i → wp_X8_advance_b0 Q (nI L) tx (d + 1) (nI j) a b c := by
    intro d
    induction d with
    | zero =>
      intro j a b c hj hr
      rw [sk_f (fun q => by omega)] at hr
      unfold wp_X8_advance_b0
      refine br_t (nI_le (by omega) (by omega)) ?_
      rw [hr]
      exact body a b c
    | succ d ih =>
      intro j a b c hj hr
      obtain ⟨e1, e2⟩ := hT j (by omega)
      unfold wp_X8_advance_b0
      rw [nI_clamp (by omega), e1, nI_1, show ((nI (y j) = (32 : Int32)) = (y j = 32)) from propext (nI_eq (b := 32) (by omega) (by omega))]
      refine br_f (nI_ge (by omega) (by omega)) ⟨vi (by omega) (by omega), br_c (fun q => ?_) (fun q => ?_)⟩
      · exact ih (j + 1) a b c (by omega) (by rw [← sk_t (by omega) q]; exact hr)
      · rw [sk_f (fun _ => q)] at hr
        rw [hr]
        exact body a b c
  exact ⟨_, main (L - i) i a b c (by omega) rfl⟩
