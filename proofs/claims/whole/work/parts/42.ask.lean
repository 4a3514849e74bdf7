/-! ASK -/
def mxl (n : Nat) (K : Nat → Nat → Bool) (x y : Nat) : Nat := max (AL n K x y) (max (AH n K x y) (AH n K y x))
def qst (n : Nat) (K : Nat → Nat → Bool) (x y : Nat) (s : Option (Nat × Nat)) : Option (Nat × Nat) :=
  if x < y ∧ sur n K x y = false then (match s with
    | none => some (100 * x + y, mxl n K x y)
    | some q => if mxl n K x y < q.2 then some (100 * x + y, mxl n K x y) else some q) else s
def qIn (n : Nat) (K : Nat → Nat → Bool) (x : Nat) (s : Option (Nat × Nat)) : Nat → Option (Nat × Nat)
  | 0 => s
  | y + 1 => qst n K x y (qIn n K x s y)
def qAl (n : Nat) (K : Nat → Nat → Bool) : Nat → Option (Nat × Nat)
  | 0 => none
  | x + 1 => qIn n K x (qAl n K x) (2 * n)
theorem qIn_0 {n : Nat} {K : Nat → Nat → Bool} {x : Nat} {s : Option (Nat × Nat)} : ∀ y, y ≤ x + 1 → qIn n K x s y = s
  | 0, _ => rfl
  | y + 1, h => by
    rw [qIn, qIn_0 y (by omega)]
    unfold qst
    rw [if_neg (fun z => by omega)]
def qC (s : Option (Nat × Nat)) : Int64 := match s with | none => -lN 1 | some q => lN q.1
def qL (s : Option (Nat × Nat)) : Int64 := match s with | none => -lN 1 | some q => lN q.2
def qL0 (s : Option (Nat × Nat)) : Int64 := match s with | none => lN 0 | some q => lN q.2
def qOk (s : Option (Nat × Nat)) : Prop := ∀ q, s = some q → q.1 < 2 ^ 31 ∧ q.2 < 2 ^ 63
theorem qst_ok {n : Nat} {K : Nat → Nat → Bool} (hBD : BD n) {x y : Nat} {s : Option (Nat × Nat)} (hn : n < 7) (hx : x < 2 * n) (hy : y < 2 * n) (h : qOk s) : qOk (qst n K x y s) := by
  have b1 := AH_lt (K := K) (y := y) hBD hx
  have b2 := AH_lt (K := K) (y := x) hBD hy
  have b3 := AL_lt (K := K) (y := y) hBD hx
  have hm : mxl n K x y < 2 ^ 63 := by unfold mxl; omega
  unfold qst
  split
  · cases s with
    | none => intro q hq; cases hq; exact ⟨by simp only; omega, hm⟩
    | some q0 =>
      simp only
      split
      · intro q hq; cases hq; exact ⟨by simp only; omega, hm⟩
      · intro q hq; exact h q hq
  · exact h
theorem lg_m1 {c : Nat} (hc : c < 2 ^ 63) : lg_cmp (lN c) (-lN 1) = 1 := lg_1 (by
  rw [fa_lt64, pk_lT hc, show (-lN 1 : Int64).toInt = -1 from by decide]; omega)
theorem s_mostLeft {n : Nat} {K : Nat → Nat → Bool} {ah al : Nat → Int64} {x y : Nat} {Q : Int64 → Prop} (hn : n < 7) (hBD : BD n) (h : PA n K ah al) (hx : x < 2 * n) (hy : y < 2 * n) (hxy : x < y) (hQ : Q (lN (mxl n K x y))) : wp_X3_mostLeft (nI x) (nI y) ah al Q := by
  have b1 := AH_lt (K := K) (y := y) hBD hx
  have b2 := AH_lt (K := K) (y := x) hBD hy
  have b3 := AL_lt (K := K) (y := y) hBD hx
  have d1 : ¬ (nI y < nI x) := by rw [nI_ltI (by omega) (by omega)]; omega
  have d2 : (nI x < nI y) := by rw [nI_ltI (by omega) (by omega)]; omega
  have i1 : vp_in (nI (12 * x + y)) 144 := (z_in (by omega)).mpr (by omega)
  have i2 : vp_in (nI (12 * y + x)) 144 := (z_in (by omega)).mpr (by omega)
  unfold wp_X3_mostLeft wp_X3_aheadOf wp_X3_alikeWith
  rw [if_neg d1, if_pos d2, zl 12, pk_mul, pk_mul, nI_add, nI_add, nI_clamp (by omega), nI_clamp (by omega), (h x y hx hy).1, (h x y hx hy).2 hxy, (h y x hy hx).1]
  refine ⟨i1, i1, i2, ?_⟩
  have mx : ∀ a b : Nat, a < 2 ^ 63 → b < 2 ^ 63 → (if lN b < lN a then lN a else lN b) = lN (max a b) := fun a b ha hb => by
    by_cases z : b < a
    · rw [if_pos ((pk_lLT hb ha).mpr z), Nat.max_eq_left (by omega)]
    · rw [if_neg (fun q => z ((pk_lLT hb ha).mp q)), Nat.max_eq_right (by omega)]
  dsimp only
  rw [mx _ _ (by omega) (by omega), mx _ _ (by omega) (by omega)]
  exact hQ
theorem toL {a : Nat} (h : a < 2 ^ 31) : (nI a).toInt64 = lN a := nI_l h
theorem s_question {n : Nat} {K : Nat → Nat → Bool} {ah al : Nat → Int64} {w : Nat} {Q : Int64 → Prop} (hn : n < 7) (hBD : BD n) (h : PA n K ah al) (hw : w < 2) (hQ : Q (if w = 0 then qC (qAl n K (2 * n)) else qL (qAl n K (2 * n)))) : wp_X3_question (nI w) (nI (2 * n)) ah al Q := by
  have okA : ∀ x, x ≤ 2 * n → qOk (qAl n K x) := by
    intro x
    induction x with
    | zero => intro _ q hq; cases hq
    | succ x ih =>
      intro hx
      have : ∀ y, y ≤ 2 * n → qOk (qIn n K x (qAl n K x) y) := by
        intro y
        induction y with
        | zero => intro _; exact ih (by omega)
        | succ y ihy => intro hy; exact qst_ok hBD hn (by omega) (by omega) (ihy (by omega))
      exact this _ (Nat.le_refl _)
  have okI : ∀ x y, x < 2 * n → y ≤ 2 * n → qOk (qIn n K x (qAl n K x) y) := by
    intro x y hx
    induction y with
    | zero => intro _; exact okA x (by omega)
    | succ y ihy => intro hy; exact qst_ok hBD hn (by omega) (by omega) (ihy (by omega))
  have main : ∀ (d x : Nat), x + d = 2 * n → wp_X3_question_b12 Q ah al (d + 1) (nI w) (nI (2 * n)) (qC (qAl n K x)) (qL (qAl n K x)) (nI x) := by
    intro d
    induction d with
    | zero =>
      intro x hx
      obtain rfl : x = 2 * n := by omega
      unfold wp_X3_question_b12 wp_X3_question_b93
      refine br_t (nI_le (by omega) (by omega)) ?_
      rw [zl 0, nI_eq (by omega) (by omega)]
      refine br_c (fun z => ?_) (fun z => ?_)
      · rw [if_pos z] at hQ; exact hQ
      · rw [if_neg z] at hQ; exact hQ
    | succ d ih =>
      intro x hx
      have inner : ∀ (f y : Nat), y + f = 2 * n → x < y → wp_X3_question_b24 Q ah al (wp_X3_question_b12 Q ah al (d + 1)) (f + 1) (nI w) (nI (2 * n)) (qC (qIn n K x (qAl n K x) y)) (qL (qIn n K x (qAl n K x) y)) (nI x) (nI y) := by
        intro f
        induction f with
        | zero =>
          intro y hy hxy
          obtain rfl : y = 2 * n := by omega
          unfold wp_X3_question_b24 wp_X3_question_b87
          refine br_t (nI_le (by omega) (by omega)) ?_
          rw [nI_1]
          exact ih (x + 1) (by omega)
        | succ f ihf =>
          intro y hy hxy
          have ihf := ihf (y + 1) (by omega) (by omega)
          have hok := okI x y (by omega) (by omega)
          have b1 := AH_lt (K := K) (x := x) (y := y) hBD (by omega)
          have b2 := AH_lt (K := K) (x := y) (y := x) hBD (by omega)
          have b3 := AL_lt (K := K) (x := x) (y := y) hBD (by omega)
          have hm : mxl n K x y < 2 ^ 63 := by unfold mxl; omega
          unfold wp_X3_question_b24
          refine br_f (nI_ge (by omega) (by omega)) (s_mostLeft hn hBD h (by omega) (by omega) hxy (s_isSure hn hBD h (by omega) (by omega) (by omega) ?_))
          unfold wp_X3_question_b67 wp_X3_question_b81
          rw [zl 0, bI_z, nI_1, zl 100, pk_mul, nI_add, toL (by omega)]
          rw [qIn] at ihf
          unfold qst at ihf
          refine br_c (fun z => ?_) (fun z => ?_)
          · rw [if_pos ⟨hxy, z⟩] at ihf
            cases hs : qIn n K x (qAl n K x) y with
            | none =>
              rw [hs] at ihf
              refine br_t (by rw [show (qC none) = (-1 : Int64) from rfl, lg_0]; rfl) ?_
              intro yy hyy; subst hyy
              exact ihf
            | some q =>
              rw [hs] at ihf
              obtain ⟨k1, k2⟩ := hok q hs
              refine br_f (by rw [show qC (some q) = lN q.1 from rfl, show (-1 : Int64) = -lN 1 from rfl, lg_m1 (by omega)]; decide) ?_
              rw [show qL (some q) = lN q.2 from rfl, z_cmp3 hm k2]
              refine br_c (fun z2 => ?_) (fun z2 => ?_)
              · simp only [if_neg (show ¬ mxl n K x y < q.2 by omega)] at ihf
                exact ihf
              · simp only [if_pos (show mxl n K x y < q.2 by omega)] at ihf
                intro yy hyy; subst hyy
                exact ihf
          · rw [if_neg (fun t => z t.2)] at ihf
            exact ihf
      unfold wp_X3_question_b12
      refine br_f (nI_ge (by omega) (by omega)) ⟨2 * n - (x + 1) + 1, ?_⟩
      have := inner (2 * n - (x + 1)) (x + 1) (by omega) (by omega)
      rw [qIn_0 (x + 1) (Nat.le_refl _)] at this
      rw [nI_1]
      exact this
  unfold wp_X3_question
  exact ⟨_, main (2 * n) 0 (by omega)⟩
/-! the reference's pairs, whole, and what is asked of them -/
theorem s_pairs {g mate : Nat → Int32} {n m : Nat} {kd oa ob : Nat → Nat} {ca cm cc cp cq : Int32} {on to bf al : Nat → Int64} {Q : Int64 → Int32 → Int32 → Int32 → Int32 → (Nat → Int32) → (Nat → Int64) → (Nat → Int64) → (Nat → Int64) → (Nat → Int64) → Prop} (hg : HB g n m kd oa ob) (hBD : BD n)
    (hQ : ∀ (ca cm : Int32) (mate : Nat → Int32) (on to bf al : Nat → Int64), PB n (KA g n m kd oa ob 255 nmt none) bf al → Q (lN (wB (ed (KA g n m kd oa ob 255 nmt none) n) (2 ^ (2 * n)) 0)) ca cm (nI 255) (-nI 1) mate on to bf al) : wp_X11_pairs ca cm cc cp cq g mate on to bf al Q := by
  have hn := hg.2.2.1
  have h4 := p4_le hn
  have h1N : 1 ≤ 2 ^ (2 * n) := Nat.two_pow_pos _
  unfold wp_X11_pairs
  refine s_all hg hBD (fun ca cm mate on hm hon => ?_)
  have MVh := MV_of (mt := nmt) (pa := none) (cq := cq) (cp := -nI 1) (mate := mate) hg (by omega : (255 : Nat) < 2 ^ 31) (fun a ha => ⟨hm a (by omega), fun b hb => by cases hb⟩) rfl
  have L36 : ∀ (d s : Nat) (to bf al : Nat → Int64), s + d = 2 ^ (2 * n) → (∀ v, v < s → to v = lN (if v = 0 then 1 else 0)) → (∀ p, p < 144 → bf p = lN 0) → (∀ p, p < 144 → al p = lN 0) → wp_X11_pairs_b36 Q cq g (d + 1) (lN (wB (ed (KA g n m kd oa ob 255 nmt none) n) (2 ^ (2 * n)) 0)) (nI s) ca cm (nI 255) (-nI 1) mate on to bf al := by
    intro d
    induction d with
    | zero =>
      intro s to bf al hs h1 h2 h3
      obtain rfl : s = 2 ^ (2 * n) := by omega
      unfold wp_X11_pairs_b36 wp_X11_pairs_b65
      rw [e_full hg.1 hn]
      refine br_t (nI_lt (by omega) (by omega)) ⟨2 ^ (2 * n) - 1 + 1, ?_⟩
      refine s_pairsLoop hg.1 hn MVh hBD hon (fun ca cm to bf al k1 k2 => hQ ca cm mate on to bf al (PB_of hn k1 k2)) (2 ^ (2 * n) - 1) 0 ca cm to bf al (by omega) (fun v hv => ?_) (fun p hp => ?_) (fun p hp => ?_)
      · rw [h1 v hv, toP, sm_z (fun M _ => if_neg (fun t => by omega))]; rfl
      · rw [h2 p hp]; rfl
      · rw [h3 p hp]; rfl
    | succ d ih =>
      intro s to bf al hs h1 h2 h3
      unfold wp_X11_pairs_b36 wp_X11_pairs_b58
      rw [e_full hg.1 hn]
      refine br_f (nI_nlt (by omega) (by omega)) ?_
      rw [zl 0, nI_eq (by omega) (by omega), nI_clamp (by omega), nI_1]
      have hv : vp_in (nI s) 4096 := (z_in (by omega)).mpr (by omega)
      refine br_c (fun z => ⟨hv, ?_⟩) (fun z => ⟨hv, ?_⟩)
      · refine ih (s + 1) _ bf al (by omega) (fun v hv => ?_) h2 h3
        by_cases e : v = s
        · rw [e, pk_uLs, if_pos z]; rfl
        · rw [pk_uLn e]; exact h1 v (by omega)
      · refine ih (s + 1) _ bf al (by omega) (fun v hv => ?_) h2 h3
        by_cases e : v = s
        · rw [e, pk_uLs, if_neg z]; rfl
        · rw [pk_uLn e]; exact h1 v (by omega)
  have L7 : ∀ (d p : Nat) (bf al : Nat → Int64), p + d = 144 → (∀ q, q < p → bf q = lN 0) → (∀ q, q < p → al q = lN 0) → wp_X11_pairs_b7 Q cq g (d + 1) (lN (wB (ed (KA g n m kd oa ob 255 nmt none) n) (2 ^ (2 * n)) 0)) (nI p) ca cm (nI 255) (-nI 1) mate on to bf al := by
    intro d
    induction d with
    | zero =>
      intro p bf al hp h1 h2
      obtain rfl : p = 144 := by omega
      unfold wp_X11_pairs_b7 wp_X11_pairs_b34
      exact br_t (nI_le (a := 144) (by omega) (by omega)) ⟨_, L36 (2 ^ (2 * n)) 0 to bf al (by omega) (fun v hv => absurd hv (Nat.not_lt_zero v)) h1 h2⟩
    | succ d ih =>
      intro p bf al hp h1 h2
      unfold wp_X11_pairs_b7
      refine br_f (nI_ge (b := 144) (by omega) (by omega)) ⟨(z_in (by omega)).mpr (by omega), (z_in (by omega)).mpr (by omega), ?_⟩
      rw [nI_clamp (by omega), nI_1]
      refine ih (p + 1) _ _ (by omega) (fun q hq => ?_) (fun q hq => ?_)
      · by_cases z : q = p
        · rw [z, pk_uLs]; rfl
        · rw [pk_uLn z]; exact h1 q (by omega)
      · by_cases z : q = p
        · rw [z, pk_uLs]; rfl
        · rw [pk_uLn z]; exact h2 q (by omega)
  exact ⟨145, L7 144 0 bf al rfl (fun q hq => absurd hq (Nat.not_lt_zero q)) (fun q hq => absurd hq (Nat.not_lt_zero q))⟩
