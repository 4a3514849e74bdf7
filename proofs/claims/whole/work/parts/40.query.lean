/-! what is asked of pairs: class and reference alike -/
def rel (n : Nat) (K : Nat → Nat → Bool) (x y : Nat) : Nat := ((if AH n K x y = 0 then 0 else 1) ||| (if AL n K x y = 0 then 0 else 2)) ||| (if AH n K y x = 0 then 0 else 4)
theorem rel_lt (n : Nat) (K : Nat → Nat → Bool) (x y : Nat) : rel n K x y < 8 := by
  unfold rel; split <;> split <;> split <;> decide
/-- arrays that tell the pairs -/
def PA (n : Nat) (K : Nat → Nat → Bool) (ah al : Nat → Int64) : Prop := ∀ x y, x < 2 * n → y < 2 * n → ah (12 * x + y) = lN (AH n K x y) ∧ (x < y → al (12 * x + y) = lN (AL n K x y))
theorem s_relation {n : Nat} {K : Nat → Nat → Bool} {ah al : Nat → Int64} {x y : Nat} {Q : Int32 → Prop} (hn : n < 7) (hBD : BD n) (h : PA n K ah al) (hx : x < 2 * n) (hy : y < 2 * n) (hxy : x ≠ y) (hQ : Q (nI (rel n K x y))) : wp_X3_relation (nI x) (nI y) ah al Q := by
  have i1 : vp_in (nI (12 * x + y)) 144 := (z_in (by omega)).mpr (by omega)
  have i2 : vp_in (nI (12 * y + x)) 144 := (z_in (by omega)).mpr (by omega)
  have b1 := AH_lt (K := K) (y := y) hBD hx
  have b2 := AH_lt (K := K) (y := x) hBD hy
  have b3 := AL_lt (K := K) (y := y) hBD hx
  have emin : (12 : Int32) * (if nI y < nI x then nI y else nI x) + (if nI x < nI y then nI y else nI x) = nI (12 * (if y < x then y else x) + (if x < y then y else x)) := by
    have d1 : (nI y < nI x) = (y < x) := by rw [nI_ltI (by omega) (by omega)]
    have d2 : (nI x < nI y) = (x < y) := by rw [nI_ltI (by omega) (by omega)]
    simp only [d1, d2]
    rw [zl 12]
    by_cases z : y < x
    · rw [if_pos z, if_neg (by omega), if_pos z, if_neg (by omega), pk_mul, nI_add]
    · rw [if_neg z, if_pos (by omega), if_neg z, if_pos (by omega), pk_mul, nI_add]
  have i3 : vp_in (nI (12 * (if y < x then y else x) + (if x < y then y else x))) 144 := (z_in (by split <;> split <;> omega)).mpr (by split <;> split <;> omega)
  have eal : al (nI (12 * (if y < x then y else x) + (if x < y then y else x))).toNatClampNeg = lN (AL n K x y) := by
    rw [nI_clamp (by split <;> split <;> omega)]
    by_cases z : y < x
    · rw [if_pos z, if_neg (by omega), (h y x hy hx).2 z, AL_comm]
    · rw [if_neg z, if_pos (by omega), (h x y hx hy).2 (by omega)]
  have eah : ah (nI (12 * x + y)).toNatClampNeg = lN (AH n K x y) := by rw [nI_clamp (by omega)]; exact (h x y hx hy).1
  have eah2 : ah (nI (12 * y + x)).toNatClampNeg = lN (AH n K y x) := by rw [nI_clamp (by omega)]; exact (h y x hy hx).1
  have m1 : (12 : Int32) * nI x + nI y = nI (12 * x + y) := by rw [zl 12, pk_mul, nI_add]
  have m2 : (12 : Int32) * nI y + nI x = nI (12 * y + x) := by rw [zl 12, pk_mul, nI_add]
  unfold rel at hQ
  unfold wp_X3_relation wp_X3_relation_b16 wp_X3_relation_b32 wp_X3_aheadOf wp_X3_alikeWith
  rw [emin, m1, m2, eal, eah, eah2, zL 0, zl 0]
  have last : ∀ s0 s1 : Nat, Q (nI ((s0 ||| s1) ||| (if AH n K y x = 0 then 0 else 4))) → vp_in (nI (12 * y + x)) 144 ∧ ((lg_cmp (lN (AH n K y x)) (lN 0) ≤ nI 0 → Q (nI s0 ||| nI s1 ||| nI 0)) ∧ (¬ lg_cmp (lN (AH n K y x)) (lN 0) ≤ nI 0 → Q (nI s0 ||| nI s1 ||| (4 : Int32)))) := by
    intro s0 s1 hq
    refine ⟨i2, ?_⟩
    rw [z_cmp (by omega), zl 4, fa_or, fa_or, fa_or]
    refine br_c (fun z => ?_) (fun z => ?_)
    · rw [if_pos z] at hq; exact hq
    · rw [if_neg z] at hq; exact hq
  have mid : ∀ s0 : Nat, Q (nI ((s0 ||| (if AL n K x y = 0 then 0 else 2)) ||| (if AH n K y x = 0 then 0 else 4))) → vp_in (nI (12 * (if y < x then y else x) + (if x < y then y else x))) 144 ∧ ((lg_cmp (lN (AL n K x y)) (lN 0) ≤ nI 0 → vp_in (nI (12 * y + x)) 144 ∧ ((lg_cmp (lN (AH n K y x)) (lN 0) ≤ nI 0 → Q (nI s0 ||| nI 0 ||| nI 0)) ∧ (¬ lg_cmp (lN (AH n K y x)) (lN 0) ≤ nI 0 → Q (nI s0 ||| nI 0 ||| (4 : Int32))))) ∧ (¬ lg_cmp (lN (AL n K x y)) (lN 0) ≤ nI 0 → vp_in (nI (12 * y + x)) 144 ∧ ((lg_cmp (lN (AH n K y x)) (lN 0) ≤ nI 0 → Q (nI s0 ||| (2 : Int32) ||| nI 0)) ∧ (¬ lg_cmp (lN (AH n K y x)) (lN 0) ≤ nI 0 → Q (nI s0 ||| (2 : Int32) ||| (4 : Int32)))))) := by
    intro s0 hq
    refine ⟨i3, br_c (fun z => ?_) (fun z => ?_)⟩
    · rw [z_cmp (by omega)] at z
      rw [if_pos z] at hq; exact last s0 0 hq
    · rw [z_cmp (by omega)] at z
      rw [if_neg z] at hq; exact last s0 2 hq
  refine ⟨i1, br_c (fun z => ?_) (fun z => ?_)⟩
  · rw [z_cmp (by omega)] at z
    rw [if_pos z] at hQ
    exact mid 0 hQ
  · rw [z_cmp (by omega)] at z
    rw [if_neg z] at hQ
    exact mid 1 hQ
/-- the reference's arrays -/
def PB (n : Nat) (K : Nat → Nat → Bool) (bf al : Nat → Int64) : Prop := ∀ x y, x < 2 * n → y < 2 * n → bf (12 * x + y) = lN (AH n K x y) ∧ al (12 * x + y) = lN (AL n K x y)
theorem PB_of {n : Nat} {K : Nat → Nat → Bool} {bf al : Nat → Int64} (hn : n < 7) (h1 : ∀ p, p < 144 → bf p = lN (PG n K qB (2 ^ (2 * n) - 1) p)) (h2 : ∀ p, p < 144 → al p = lN (PG n K qA (2 ^ (2 * n) - 1) p)) : PB n K bf al := by
  intro x y hx hy
  rw [h1 _ (by omega), h2 _ (by omega), PG_ev hn hx hy, PG_ev hn hx hy, tele_1 hy]
  exact ⟨rfl, rfl⟩
theorem s_bits {n : Nat} {K : Nat → Nat → Bool} {bf al : Nat → Int64} {x y : Nat} {Q : Int32 → Prop} (hn : n < 7) (hBD : BD n) (h : PB n K bf al) (hx : x < 2 * n) (hy : y < 2 * n) (hQ : Q (nI (rel n K x y))) : wp_X11_bits (nI x) (nI y) bf al Q := by
  have i1 : vp_in (nI (12 * x + y)) 144 := (z_in (by omega)).mpr (by omega)
  have i2 : vp_in (nI (12 * y + x)) 144 := (z_in (by omega)).mpr (by omega)
  have b1 := AH_lt (K := K) (y := y) hBD hx
  have b2 := AH_lt (K := K) (y := x) hBD hy
  have b3 := AL_lt (K := K) (y := y) hBD hx
  have eal : al (nI (12 * x + y)).toNatClampNeg = lN (AL n K x y) := by rw [nI_clamp (by omega)]; exact (h x y hx hy).2
  have eah : bf (nI (12 * x + y)).toNatClampNeg = lN (AH n K x y) := by rw [nI_clamp (by omega)]; exact (h x y hx hy).1
  have eah2 : bf (nI (12 * y + x)).toNatClampNeg = lN (AH n K y x) := by rw [nI_clamp (by omega)]; exact (h y x hy hx).1
  have m1 : (12 : Int32) * nI x + nI y = nI (12 * x + y) := by rw [zl 12, pk_mul, nI_add]
  have m2 : (12 : Int32) * nI y + nI x = nI (12 * y + x) := by rw [zl 12, pk_mul, nI_add]
  unfold rel at hQ
  unfold wp_X11_bits wp_X11_bits_b21 wp_X11_bits_b42
  rw [m1, m2, eal, eah, eah2, zL 0, zl 0]
  have last : ∀ s0 s1 : Nat, Q (nI ((s0 ||| s1) ||| (if AH n K y x = 0 then 0 else 4))) → vp_in (nI (12 * y + x)) 144 ∧ ((lg_cmp (lN (AH n K y x)) (lN 0) ≤ nI 0 → Q (nI s0 ||| nI s1 ||| nI 0)) ∧ (¬ lg_cmp (lN (AH n K y x)) (lN 0) ≤ nI 0 → Q (nI s0 ||| nI s1 ||| (4 : Int32)))) := by
    intro s0 s1 hq
    refine ⟨i2, ?_⟩
    rw [z_cmp (by omega), zl 4, fa_or, fa_or, fa_or]
    refine br_c (fun z => ?_) (fun z => ?_)
    · rw [if_pos z] at hq; exact hq
    · rw [if_neg z] at hq; exact hq
  have mid : ∀ s0 : Nat, Q (nI ((s0 ||| (if AL n K x y = 0 then 0 else 2)) ||| (if AH n K y x = 0 then 0 else 4))) → vp_in (nI (12 * x + y)) 144 ∧ ((lg_cmp (lN (AL n K x y)) (lN 0) ≤ nI 0 → vp_in (nI (12 * y + x)) 144 ∧ ((lg_cmp (lN (AH n K y x)) (lN 0) ≤ nI 0 → Q (nI s0 ||| nI 0 ||| nI 0)) ∧ (¬ lg_cmp (lN (AH n K y x)) (lN 0) ≤ nI 0 → Q (nI s0 ||| nI 0 ||| (4 : Int32))))) ∧ (¬ lg_cmp (lN (AL n K x y)) (lN 0) ≤ nI 0 → vp_in (nI (12 * y + x)) 144 ∧ ((lg_cmp (lN (AH n K y x)) (lN 0) ≤ nI 0 → Q (nI s0 ||| (2 : Int32) ||| nI 0)) ∧ (¬ lg_cmp (lN (AH n K y x)) (lN 0) ≤ nI 0 → Q (nI s0 ||| (2 : Int32) ||| (4 : Int32)))))) := by
    intro s0 hq
    refine ⟨i1, br_c (fun z => ?_) (fun z => ?_)⟩
    · rw [z_cmp (by omega)] at z
      rw [if_pos z] at hq; exact last s0 0 hq
    · rw [z_cmp (by omega)] at z
      rw [if_neg z] at hq; exact last s0 2 hq
  refine ⟨i1, br_c (fun z => ?_) (fun z => ?_)⟩
  · rw [z_cmp (by omega)] at z
    rw [if_pos z] at hQ
    exact mid 0 hQ
  · rw [z_cmp (by omega)] at z
    rw [if_neg z] at hQ
    exact mid 1 hQ
/-! one bit alone -/
def pcn (v : Nat) : Nat := fb_ct (fun k => v.testBit k) 12
def bcI (p0 : Int32) : Int32 :=
  let y1 := p0 - ((p0.toUInt32 >>> ((1 : Int32).toUInt32 &&& Int32.toUInt32 31)).toInt32 &&& (1431655765 : Int32))
  let y2 := (y1 &&& (858993459 : Int32)) + ((y1.toUInt32 >>> ((2 : Int32).toUInt32 &&& Int32.toUInt32 31)).toInt32 &&& (858993459 : Int32))
  let y3 := (y2 + (y2.toUInt32 >>> ((4 : Int32).toUInt32 &&& Int32.toUInt32 31)).toInt32) &&& (252645135 : Int32)
  let y4 := y3 + (y3.toUInt32 >>> ((8 : Int32).toUInt32 &&& Int32.toUInt32 31)).toInt32
  let y5 := y4 + (y4.toUInt32 >>> ((16 : Int32).toUInt32 &&& Int32.toUInt32 31)).toInt32
  y5 &&& (63 : Int32)
theorem bc_all : ∀ v, v < 256 → bcI (nI v) = nI (pcn v) := by decide +kernel
theorem s_bitCount {v : Nat} {Q : Int32 → Prop} (hv : v < 256) (hQ : Q (nI (pcn v))) : wp_J6_bitCount_0f7a4 (nI v) Q := by
  rw [← bc_all v hv] at hQ
  unfold wp_J6_bitCount_0f7a4
  intro y1 h1 y2 h2 y3 h3 y4 h4 y5 h5
  subst h1; subst h2; subst h3; subst h4; subst h5
  exact hQ
def sur (n : Nat) (K : Nat → Nat → Bool) (x y : Nat) : Bool := rel n K x y == 1 || rel n K x y == 2 || rel n K x y == 4
theorem pcn_1 : ∀ v, v < 8 → (pcn v = 1 ↔ (v == 1 || v == 2 || v == 4) = true) := by decide +kernel
theorem pcn_lt : ∀ v, v < 256 → pcn v < 2 ^ 31 := fun v _ => Nat.lt_of_le_of_lt (fb_ct_le _ 12) (by decide)
theorem s_isSure {n : Nat} {K : Nat → Nat → Bool} {ah al : Nat → Int64} {x y : Nat} {Q : Int32 → Prop} (hn : n < 7) (hBD : BD n) (h : PA n K ah al) (hx : x < 2 * n) (hy : y < 2 * n) (hxy : x ≠ y) (hQ : Q (bI (sur n K x y))) : wp_X3_isSure (nI x) (nI y) ah al Q := by
  have hr := rel_lt n K x y
  unfold wp_X3_isSure
  refine s_relation hn hBD h hx hy hxy (s_bitCount (by omega) ?_)
  rw [zl 1, nI_eq (pcn_lt _ (by omega)) (by omega), pcn_1 _ hr]
  unfold sur at hQ
  refine br_c (fun z => ?_) (fun z => ?_)
  · rw [z] at hQ; exact hQ
  · have z : (rel n K x y == 1 || rel n K x y == 2 || rel n K x y == 4) = false := by simpa using z
    rw [z] at hQ; exact hQ
theorem s_rSure {n : Nat} {K : Nat → Nat → Bool} {bf al : Nat → Int64} {x y : Nat} {Q : Int32 → Prop} (hn : n < 7) (hBD : BD n) (h : PB n K bf al) (hx : x < 2 * n) (hy : y < 2 * n) (hQ : Q (bI (sur n K x y))) : wp_X11_isSure (nI x) (nI y) bf al Q := by
  have hr := rel_lt n K x y
  unfold wp_X11_isSure wp_X11_isSure_b22
  refine s_bits hn hBD h hx hy ?_
  unfold sur at hQ
  rw [zl 1, zl 2, zl 4, nI_eq (by omega) (by omega), nI_eq (by omega) (by omega), nI_eq (by omega) (by omega)]
  revert hQ
  generalize rel n K x y = r at *
  intro hQ
  refine br_c (fun z => ?_) (fun z => br_c (fun z2 => ?_) (fun z2 => br_c (fun z3 => ?_) (fun z3 => ?_)))
  · subst z; exact hQ
  · subst z2; exact hQ
  · subst z3; exact hQ
  · have : (r == 1 || r == 2 || r == 4) = false := by simp [z, z2, z3]
    rw [this] at hQ; exact hQ
/-- how many pairs are sure -/
def sIn (n : Nat) (K : Nat → Nat → Bool) (x y : Nat) : Nat := sm (fun y => if x < y ∧ sur n K x y = true then 1 else 0) y
def sNo (n : Nat) (K : Nat → Nat → Bool) (x : Nat) : Nat := sm (fun x => sIn n K x (2 * n)) x
theorem sIn_0 {n : Nat} {K : Nat → Nat → Bool} {x : Nat} : sIn n K x (x + 1) = 0 := sm_z fun y hy => if_neg fun h => by omega
theorem s_surePairs {n : Nat} {K : Nat → Nat → Bool} {ah al : Nat → Int64} {Q : Int32 → Prop} (hn : n < 7) (hBD : BD n) (h : PA n K ah al) (hQ : Q (nI (sNo n K (2 * n)))) : wp_X3_surePairs (nI (2 * n)) ah al Q := by
  have main : ∀ (d x : Nat), x + d = 2 * n → wp_X3_surePairs_b4 Q ah al (d + 1) (nI (2 * n)) (nI (sNo n K x)) (nI x) := by
    intro d
    induction d with
    | zero =>
      intro x hx
      obtain rfl : x = 2 * n := by omega
      unfold wp_X3_surePairs_b4
      exact br_t (nI_le (by omega) (by omega)) hQ
    | succ d ih =>
      intro x hx
      have inner : ∀ (f y : Nat), y + f = 2 * n → x < y → wp_X3_surePairs_b14 Q ah al (wp_X3_surePairs_b4 Q ah al (d + 1)) (f + 1) (nI (2 * n)) (nI (sNo n K x + sIn n K x y)) (nI x) (nI y) := by
        intro f
        induction f with
        | zero =>
          intro y hy hxy
          obtain rfl : y = 2 * n := by omega
          unfold wp_X3_surePairs_b14 wp_X3_surePairs_b39
          refine br_t (nI_le (by omega) (by omega)) ?_
          rw [nI_1]
          exact ih (x + 1) (by omega)
        | succ f ihf =>
          intro y hy hxy
          have ihf := ihf (y + 1) (by omega) (by omega)
          unfold wp_X3_surePairs_b14 wp_X3_surePairs_b33
          refine br_f (nI_ge (by omega) (by omega)) (s_isSure hn hBD h (by omega) (by omega) (by omega) ?_)
          rw [nI_1, zl 0, bI_z, nI_1]
          rw [sIn, sm] at ihf
          refine br_c (fun z => ?_) (fun z => ?_)
          · rw [if_neg (by rw [z]; simp)] at ihf; exact ihf
          · rw [if_pos ⟨hxy, by simpa using z⟩] at ihf; exact ihf
      unfold wp_X3_surePairs_b4
      refine br_f (nI_ge (by omega) (by omega)) ⟨2 * n - (x + 1) + 1, ?_⟩
      have := inner (2 * n - (x + 1)) (x + 1) (by omega) (by omega)
      rw [sIn_0, Nat.add_zero] at this
      rw [nI_1]
      exact this
  unfold wp_X3_surePairs
  exact ⟨_, main (2 * n) 0 (by omega)⟩
/-- two that are apart, in Int64 -/
theorem s_overlaps {n : Nat} {K : Nat → Nat → Bool} {ah al : Nat → Int64} {a b : Nat} {fits : Int64} {Q : Int64 → Prop} (hn : n < 7) (h : PA n K ah al) (ha : a < n) (hb : b < n) (hab : a ≠ b) (hQ : Q (fits - lN (wB (ed (fun s M => ap a b s M && K s M) n) (2 ^ (2 * n)) 0))) : wp_X3_overlaps (nI a) (nI b) fits ah al Q := by
  have nl : ∀ (x y : Nat) (Q : Int64 → Prop), x < 2 * n → y < 2 * n → x ≠ y → Q (lN (AH n K x y + AL n K x y)) → wp_X3_noLater (nI x) (nI y) ah al Q := by
    intro x y Q hx hy hxy hq
    have i1 : vp_in (nI (12 * x + y)) 144 := (z_in (by omega)).mpr (by omega)
    have emin : (12 : Int32) * (if nI y < nI x then nI y else nI x) + (if nI x < nI y then nI y else nI x) = nI (12 * (if y < x then y else x) + (if x < y then y else x)) := by
      have d1 : (nI y < nI x) = (y < x) := by rw [nI_ltI (by omega) (by omega)]
      have d2 : (nI x < nI y) = (x < y) := by rw [nI_ltI (by omega) (by omega)]
      simp only [d1, d2]
      rw [zl 12]
      by_cases z : y < x
      · rw [if_pos z, if_neg (by omega), if_pos z, if_neg (by omega), pk_mul, nI_add]
      · rw [if_neg z, if_pos (by omega), if_neg z, if_pos (by omega), pk_mul, nI_add]
    have i3 : vp_in (nI (12 * (if y < x then y else x) + (if x < y then y else x))) 144 := (z_in (by split <;> split <;> omega)).mpr (by split <;> split <;> omega)
    have eal : al (nI (12 * (if y < x then y else x) + (if x < y then y else x))).toNatClampNeg = lN (AL n K x y) := by
      rw [nI_clamp (by split <;> split <;> omega)]
      by_cases z : y < x
      · rw [if_pos z, if_neg (by omega), (h y x hy hx).2 z, AL_comm]
      · rw [if_neg z, if_pos (by omega), (h x y hx hy).2 (by omega)]
    have eah : ah (nI (12 * x + y)).toNatClampNeg = lN (AH n K x y) := by rw [nI_clamp (by omega)]; exact (h x y hx hy).1
    unfold wp_X3_noLater wp_X3_aheadOf wp_X3_alikeWith
    rw [emin, eal, zl 12, pk_mul, nI_add, eah]
    rw [← lN_add] at hq
    exact ⟨i1, i3, hq⟩
  unfold wp_X3_overlaps
  rw [zl 2, zl 1, pk_mul, pk_mul, nI_add, nI_add]
  refine nl _ _ _ (by omega) (by omega) (by omega) (nl _ _ _ (by omega) (by omega) (by omega) ?_)
  rw [parted_sum hn ha hb hab, ← lN_add] at hQ
  have e : ∀ x y z : Int64, x - y - z = x - (y + z) := fun x y z => by
    rw [Int64.sub_eq_add_neg, Int64.sub_eq_add_neg, Int64.sub_eq_add_neg, Int64.neg_add, Int64.add_assoc, ← Int64.sub_eq_add_neg (-y)]
  rw [e]; exact hQ
