/-! the pairs, evaluated at a pair -/
theorem ev_ah {E : Nat → Nat} {r n v x y : Nat} {w1 : Nat → Nat} {W : Nat → Nat} (hn : n < 7) (hE : ∀ j, j < r → E j < 12) (hinj : ∀ i j, i < r → j < r → E i = E j → i = j) (hx : x < 12) (hy : y < 12) (hw : ∀ j, j < r → w1 j = W (E j)) (hno : (∀ j, j < r → E j ≠ x) → W x = 0) : sm (fun m => sm (fun y' => if 12 * x + y = 12 * E m + y' ∧ v.testBit y' = false then w1 m else 0) (2 * n)) r = if y < 2 * n ∧ v.testBit y = false then W x else 0 := by
  have h1 : ∀ m, m < r → sm (fun y' => if 12 * x + y = 12 * E m + y' ∧ v.testBit y' = false then w1 m else 0) (2 * n) = if E m = x then (if y < 2 * n ∧ v.testBit y = false then W x else 0) else 0 := by
    intro m hm
    have hEm := hE m hm
    by_cases q : E m = x
    · rw [if_pos q]
      by_cases z : y < 2 * n
      · rw [sm_c (g := fun y' => if y' = y then (if v.testBit y' = false then w1 m else 0) else 0) (fun y' hy' => ?_), sm_1 (fun y' => if v.testBit y' = false then w1 m else 0) z, hw m hm, q]
        · by_cases u : v.testBit y = false
          · rw [if_pos u, if_pos ⟨z, u⟩]
          · rw [if_neg u, if_neg (fun t => u t.2)]
        · by_cases u : y' = y
          · subst u
            rw [if_pos rfl, q]
            by_cases t : v.testBit y' = false
            · rw [if_pos t, if_pos ⟨rfl, t⟩]
            · rw [if_neg t, if_neg (fun s => t s.2)]
          · rw [if_neg u, if_neg (fun s => u (by omega))]
      · rw [if_neg (fun t => z t.1)]
        exact sm_z fun y' hy' => if_neg (fun s => by omega)
    · rw [if_neg q]
      exact sm_z fun y' hy' => if_neg (fun s => by omega)
  rw [sm_c h1]
  by_cases q : ∃ j, j < r ∧ E j = x
  · obtain ⟨j, hj, ej⟩ := q
    rw [sm_c (g := fun m => if m = j then (fun _ => if y < 2 * n ∧ v.testBit y = false then W x else 0) m else 0) (fun m hm => ?_), sm_1 (fun _ => if y < 2 * n ∧ v.testBit y = false then W x else 0) hj]
    by_cases u : m = j
    · rw [if_pos u, if_pos (by rw [u]; exact ej)]
    · rw [if_neg u, if_neg (fun s => u (hinj m j hm hj (by rw [s, ej])))]
  · rw [sm_z (fun m hm => if_neg (fun s => q ⟨m, hm, s⟩)), hno (fun j hj s => q ⟨j, hj, s⟩)]
    split <;> rfl
theorem ev_al {E : Nat → Nat} {r x y : Nat} {w2 : Nat → Nat → Nat} {W : Nat → Nat → Nat} (hE : ∀ j, j < r → E j < 12) (hmono : ∀ i j, i < j → j < r → E i < E j) (hxy : x < y) (hy : y < 12) (hw : ∀ i j, i < j → j < r → w2 i j = W (E i) (E j)) (hno : (∀ j, j < r → E j ≠ x) ∨ (∀ j, j < r → E j ≠ y) → W x y = 0) : sm (fun m => sm (fun q => if m < q ∧ 12 * x + y = 12 * E m + E q then w2 m q else 0) r) r = W x y := by
  have hinj : ∀ i j, i < r → j < r → E i = E j → i = j := by
    intro i j hi hj e
    rcases Nat.lt_trichotomy i j with z | z | z
    · have := hmono i j z hj; omega
    · exact z
    · have := hmono j i z hi; omega
  by_cases q : (∃ i, i < r ∧ E i = x) ∧ (∃ j, j < r ∧ E j = y)
  · obtain ⟨⟨i, hi, ei⟩, ⟨j, hj, ej⟩⟩ := q
    have hij : i < j := by
      rcases Nat.lt_trichotomy i j with z | z | z
      · exact z
      · subst z; omega
      · have := hmono j i z hi; omega
    have h1 : ∀ m, m < r → sm (fun q => if m < q ∧ 12 * x + y = 12 * E m + E q then w2 m q else 0) r = if m = i then (fun _ => W x y) m else 0 := by
      intro m hm
      have hEm := hE m hm
      by_cases u : m = i
      · subst u
        rw [if_pos rfl, sm_c (g := fun q => if q = j then (fun _ => W x y) q else 0) (fun q hq => ?_), sm_1 (fun _ => W x y) hj]
        have hEq := hE q hq
        by_cases t : q = j
        · subst t
          rw [if_pos rfl, if_pos ⟨hij, by omega⟩, hw m q hij hj, ei, ej]
        · rw [if_neg t, if_neg (fun s => t (hinj q j hq hj (by omega)))]
      · rw [if_neg u]
        refine sm_z fun q hq => if_neg (fun s => u (hinj m i hm hi ?_))
        have hEq := hE q hq
        omega
    rw [sm_c h1, sm_1 (fun _ => W x y) hi]
  · rw [hno]
    · refine sm_z fun m hm => sm_z fun q2 hq => if_neg (fun s => q ?_)
      have hEm := hE m hm
      have hEq := hE q2 hq
      exact ⟨⟨m, hm, by omega⟩, ⟨q2, hq, by omega⟩⟩
    · by_cases u : ∃ i, i < r ∧ E i = x
      · exact Or.inr (fun j hj s => q ⟨u, ⟨j, hj, s⟩⟩)
      · exact Or.inl (fun j hj s => u ⟨j, hj, s⟩)
theorem wI_z {F B lw : Nat → Nat} {p : Nat → Bool} {N v : Nat} (h : ∀ c, sb c (lw v) = true → p c = false) : wI F B lw p N v = 0 :=
  sm_z fun c _ => by
    by_cases q : c ≠ 0 ∧ sb c (lw v) = true
    · rw [if_pos q, h c q.2]; rfl
    · rw [if_neg q]
/-- what the class's tallies are: of ends one of which comes before another has; of ends that come together -/
def AH (n : Nat) (K : Nat → Nat → Bool) (x y : Nat) : Nat := gX (2 ^ (2 * n)) (ed K n) (wF (ed K n) (2 ^ (2 * n))) (wB (ed K n) (2 ^ (2 * n))) (fun u M => if (M.testBit x && !(u + M).testBit y) = true then 1 else 0)
def AL (n : Nat) (K : Nat → Nat → Bool) (x y : Nat) : Nat := gX (2 ^ (2 * n)) (ed K n) (wF (ed K n) (2 ^ (2 * n))) (wB (ed K n) (2 ^ (2 * n))) (fun u M => if (M.testBit x && M.testBit y) = true then 1 else 0)
def RE (n : Nat) (K : Nat → Nat → Bool) (br : Nat → Bool) (i : Nat) (rest : Nat → Int64) : Prop := ∀ j, j < 3 ^ n → br (sAt j) = false → rest j = lN ((if sAt j = 2 ^ (2 * n) - 1 then 1 else 0) + sm (fun M => if sAt i < sAt j + M then ed K n (sAt j) M * wB (ed K n) (2 ^ (2 * n)) (sAt j + M) else 0) (2 ^ (2 * n)))
theorem re_at {n : Nat} {K : Nat → Nat → Bool} {br : Nat → Bool} {i j : Nat} {rest : Nat → Int64} (hn : n < 7) (h : RE n K br i rest) (hj : j < 3 ^ n) (hij : i ≤ j) (hb : br (sAt j) = false) : rest j = lN (wB (ed K n) (2 ^ (2 * n)) (sAt j)) := by
  have h3 := p3_le hn
  have hN := (sAt_lt_N hn (by omega)).mpr hj
  rw [h j hj hb, wB_rec ed_E ed_pos _ hN]
  congr 2
  refine sm_c fun M _ => ?_
  by_cases z : ed K n (sAt j) M = 0
  · rw [z]; simp
  · have h1 := (ed_1 z).2.1
    rw [if_pos]
    rcases Nat.lt_or_ge i j with q | q
    · have := sAt_mono q (by omega); omega
    · rw [show i = j by omega]; omega
theorem s_weighLoop {n : Nat} {K : Nat → Nat → Bool} {br : Nat → Bool} {lw : Nat → Nat} (h : CG n K br lw) {lo : Nat → Int32} {wa : Nat → Int64} {fits : Int64} {mo : Int32} {mt : Nat → Int32} {Q : Int64 → Int32 → (Nat → Int32) → (Nat → Int64) → (Nat → Int64) → (Nat → Int64) → (Nat → Int64) → Int32 → Int32 → (Nat → Int32) → (Nat → Int32) → Prop} (hLW : LW br lw (wF (ed K n) (2 ^ (2 * n))) (3 ^ n) lo wa) (hB : ∀ s, s < 2 ^ (2 * n) → wB (ed K n) (2 ^ (2 * n)) s < 2 ^ 63)
    (hQ : ∀ (ah al rest share : Nat → Int64) (c1 c2 : Int32) (me pa : Nat → Int32), (∀ x y, x < 12 → y < 2 * n → ah (12 * x + y) = lN (AH n K x y)) → (∀ x y, x < y → y < 12 → al (12 * x + y) = lN (AL n K x y)) → (∀ j, j < 3 ^ n → br (sAt j) = false → rest j = lN (wB (ed K n) (2 ^ (2 * n)) (sAt j))) → wp_X3_weigh_b142 Q lo (nI n) fits mo mt ah al rest share c1 c2 me pa) :
    ∀ (i : Nat), i < 3 ^ n → ∀ (ah al rest share : Nat → Int64) (c1 c2 : Int32) (me pa : Nat → Int32), RE n K br i rest →
      (∀ x y, x < 12 → y < 2 * n → ah (12 * x + y) = lN (sm (fun j => if i < j then (if br (sAt j) = true then 0 else wI (wF (ed K n) (2 ^ (2 * n))) (wB (ed K n) (2 ^ (2 * n))) lw (fun c => c.testBit x && !(sAt j).testBit y) (2 ^ (2 * n)) (sAt j)) else 0) (3 ^ n))) →
      (∀ x y, x < y → y < 12 → al (12 * x + y) = lN (sm (fun j => if i < j then (if br (sAt j) = true then 0 else wI (wF (ed K n) (2 ^ (2 * n))) (wB (ed K n) (2 ^ (2 * n))) lw (fun c => c.testBit x && c.testBit y) (2 ^ (2 * n)) (sAt j)) else 0) (3 ^ n))) →
      wp_X3_weigh_b87 Q lo wa (i + 1) (nI n) (nI i) fits mo mt ah al rest share c1 c2 me pa := by
  have hn := h.1
  have h3 := p3_le hn
  have h4 := p4_le hn
  have h30 : 0 < 3 ^ n := Nat.pow_pos (by decide)
  intro i
  induction i with
  | zero =>
    intro hi ah al rest share c1 c2 me pa hR hA hL
    have z0 : ∀ p : Nat → Bool, (if br (sAt 0) = true then 0 else wI (wF (ed K n) (2 ^ (2 * n))) (wB (ed K n) (2 ^ (2 * n))) lw p (2 ^ (2 * n)) (sAt 0)) = 0 := fun p => by
      split
      · rfl
      · refine sm_z fun c _ => if_neg (fun q => q.1 ?_)
        have := sb_le (h.2.2.1 (sAt 0) (by rw [sAt_0]; exact Nat.two_pow_pos _) (by rw [sAt_0]; decide) c q.2).1
        rw [sAt_0] at this; omega
    unfold wp_X3_weigh_b87
    refine br_t (by decide) (hQ ah al rest share c1 c2 me pa (fun x y hx hy => ?_) (fun x y hx hy => ?_) (fun j hj hb => re_at hn hR hj (Nat.zero_le j) hb))
    · rw [hA x y hx hy, AH, cg_gX h _ (fun u M => M.testBit x && !(u + M).testBit y) (fun v c => c.testBit x && !v.testBit y) (fun v c hc => by rw [show v - c + c = v by omega])]
      congr 1
      refine sm_c fun j hj => ?_
      by_cases q : 0 < j
      · rw [if_pos q]
      · rw [if_neg q, show j = 0 by omega, z0]
    · rw [hL x y hx hy, AL, cg_gX h _ (fun u M => M.testBit x && M.testBit y) (fun v c => c.testBit x && c.testBit y) (fun v c hc => rfl)]
      congr 1
      refine sm_c fun j hj => ?_
      by_cases q : 0 < j
      · rw [if_pos q]
      · rw [if_neg q, show j = 0 by omega, z0]
  | succ i ih =>
    intro hi ah al rest share c1 c2 me pa hR hA hL
    have hs := sAt_all (i + 1) (by omega)
    have hN := (sAt_lt_N hn (by omega)).mpr hi
    have hstep := sAt_step i (by omega)
    -- one step of a sum
    have stp : ∀ T : Nat → Nat, sm (fun j => if i < j then T j else 0) (3 ^ n) = sm (fun j => if i + 1 < j then T j else 0) (3 ^ n) + T (i + 1) := fun T => by
      rw [← sm_1 T hi, ← sm_add]
      refine sm_c fun j hj => ?_
      by_cases q : j = i + 1
      · subst q; rw [if_pos (by omega), if_neg (by omega), if_pos rfl, Nat.zero_add]
      · rw [if_neg q, Nat.add_zero]
        by_cases z : i + 1 < j
        · rw [if_pos z, if_pos (by omega)]
        · rw [if_neg z, if_neg (by omega)]
    have stR : ∀ j, j < 3 ^ n → br (sAt j) = false → sm (fun M => if sAt i < sAt j + M then ed K n (sAt j) M * wB (ed K n) (2 ^ (2 * n)) (sAt j + M) else 0) (2 ^ (2 * n)) = sm (fun M => if sAt (i + 1) < sAt j + M then ed K n (sAt j) M * wB (ed K n) (2 ^ (2 * n)) (sAt j + M) else 0) (2 ^ (2 * n)) + (if sAt j ≤ sAt (i + 1) then ed K n (sAt j) (sAt (i + 1) - sAt j) * wB (ed K n) (2 ^ (2 * n)) (sAt (i + 1)) else 0) := by
      intro j hj hb
      have hNj := (sAt_lt_N hn (by omega)).mpr hj
      have hvj := (sAt_all j (by omega)).2.2
      by_cases z : sAt j ≤ sAt (i + 1)
      · rw [if_pos z]
        have hlt : sAt (i + 1) - sAt j < 2 ^ (2 * n) := by omega
        have e := sm_1 (fun M => ed K n (sAt j) M * wB (ed K n) (2 ^ (2 * n)) (sAt j + M)) hlt
        rw [show sAt j + (sAt (i + 1) - sAt j) = sAt (i + 1) by omega] at e
        rw [← e, ← sm_add]
        refine sm_c fun M hM => ?_
        by_cases q : M = sAt (i + 1) - sAt j
        · rw [if_pos (by omega), if_neg (by omega), if_pos q, Nat.zero_add]
        · rw [if_neg q, Nat.add_zero]
          by_cases w : sAt (i + 1) < sAt j + M
          · rw [if_pos w, if_pos (by omega)]
          · rw [if_neg w]
            by_cases y : sAt i < sAt j + M
            · rw [if_pos y]
              rcases Nat.eq_zero_or_pos (ed K n (sAt j) M) with u | u
              · rw [u, Nat.zero_mul]
              · exfalso
                obtain ⟨q1, q2, q3, q4, -⟩ := ed_1 (by omega : ed K n (sAt j) M ≠ 0)
                have hv2 := mo_vl hn hNj q1 q3
                have hN2 := mo_N hNj q3
                have hp := pOf_lt_N hn hN2 hv2
                have a1 : sAt i < sAt (pOf (sAt j + M)) := by rw [hp.2]; exact y
                have a2 : sAt (pOf (sAt j + M)) < sAt (i + 1) := by rw [hp.2]; omega
                rw [sAt_lt_iff (by omega) (by omega)] at a1 a2
                omega
            · rw [if_neg y]
      · rw [if_neg z, Nat.add_zero]
        refine sm_c fun M hM => ?_
        rw [if_pos (by omega), if_pos (by omega)]
    -- a set that gives nothing is passed over
    have skip : (br (sAt (i + 1)) = true ∨ wB (ed K n) (2 ^ (2 * n)) (sAt (i + 1)) = 0) → wp_X3_weigh_b136 Q (wp_X3_weigh_b87 Q lo wa (i + 1)) (nI n) (nI (i + 1)) fits mo mt ah al rest share c1 c2 me pa := by
      intro hz
      have zT : ∀ p : Nat → Bool, (if br (sAt (i + 1)) = true then 0 else wI (wF (ed K n) (2 ^ (2 * n))) (wB (ed K n) (2 ^ (2 * n))) lw p (2 ^ (2 * n)) (sAt (i + 1))) = 0 := fun p => by
        rcases hz with hz | hz
        · rw [if_pos hz]
        · split
          · rfl
          · unfold wI
            rw [hz]
            exact sm_z fun c _ => by simp
      unfold wp_X3_weigh_b136
      rw [pk_m1]
      refine ih (by omega) ah al rest share c1 c2 me pa (fun j hj hb => ?_) (fun x y hx hy => ?_) (fun x y hx hy => ?_)
      · rw [hR j hj hb, stR j hj hb]
        have e : (if sAt j ≤ sAt (i + 1) then ed K n (sAt j) (sAt (i + 1) - sAt j) * wB (ed K n) (2 ^ (2 * n)) (sAt (i + 1)) else 0) = 0 := by
          by_cases z : sAt j ≤ sAt (i + 1)
          · rw [if_pos z]
            rcases hz with hz | hz
            · rcases Nat.eq_zero_or_pos (ed K n (sAt j) (sAt (i + 1) - sAt j)) with u | u
              · rw [u, Nat.zero_mul]
              · obtain ⟨q1, q2, q3, q4, -⟩ := ed_1 (by omega : ed K n (sAt j) (sAt (i + 1) - sAt j) ≠ 0)
                have := (h.2.2.2 (sAt j) _ ((sAt_lt_N hn (by omega)).mpr hj) q1 hb q3).mp q4
                rw [show sAt j + (sAt (i + 1) - sAt j) = sAt (i + 1) by omega, hz] at this
                cases this.1
            · rw [hz, Nat.mul_zero]
          · rw [if_neg z]
        rw [e]; rfl
      · rw [hA x y hx hy, stp (fun j => if br (sAt j) = true then 0 else wI (wF (ed K n) (2 ^ (2 * n))) (wB (ed K n) (2 ^ (2 * n))) lw (fun c => c.testBit x && !(sAt j).testBit y) (2 ^ (2 * n)) (sAt j)), zT]; rfl
      · rw [hL x y hx hy, stp (fun j => if br (sAt j) = true then 0 else wI (wF (ed K n) (2 ^ (2 * n))) (wB (ed K n) (2 ^ (2 * n))) lw (fun c => c.testBit x && c.testBit y) (2 ^ (2 * n)) (sAt j)), zT]; rfl
    unfold wp_X3_weigh_b87
    refine br_f (nI_nle (by omega) (by omega)) ⟨(z_in (by omega)).mpr (by omega), ?_⟩
    have hlo := (hLW (i + 1) hi).1
    have hlw := cg_lw h hN hs.2.2
    rw [nI_clamp (by omega), hlo]
    cases hb : br (sAt (i + 1)) with
    | true =>
      refine br_t rfl (skip (Or.inl hb))
    | false =>
      rw [if_neg (by decide), show (-1 : Int32) = -nI 1 from rfl, z_ne (by omega) (by omega) (by omega)]
      refine br_f (fun z => z) ⟨(z_in (by omega)).mpr (by omega), ?_⟩
      have hri := re_at hn hR hi (Nat.le_refl _) hb
      rw [hri, zL 0, zl 0, z_cmp (hB _ hN)]
      refine br_c (fun q => skip (Or.inr q)) (fun q => ?_)
      refine s_weighSteps h (F := wF (ed K n) (2 ^ (2 * n))) (B := wB (ed K n) (2 ^ (2 * n))) hi hb hLW hri (fun rest' share' me pa hr' hsh' hme' => ?_)
      rw [e_setAt (by omega), zl 2, pk_mul]
      have hE : ∀ j, j < (pE (lw (sAt (i + 1))) 12).length → (pE (lw (sAt (i + 1))) 12).getD j 0 < 12 := fun j hj => (pE_get _ _ _ hj).1
      have hmono : ∀ a b, a < b → b < (pE (lw (sAt (i + 1))) 12).length → (pE (lw (sAt (i + 1))) 12).getD a 0 < (pE (lw (sAt (i + 1))) 12).getD b 0 := fun a b h1 h2 => pE_mono _ _ _ _ h1 h2
      have hinj : ∀ a b, a < (pE (lw (sAt (i + 1))) 12).length → b < (pE (lw (sAt (i + 1))) 12).length → (pE (lw (sAt (i + 1))) 12).getD a 0 = (pE (lw (sAt (i + 1))) 12).getD b 0 → a = b := fun a b h1 h2 e => by
        rcases Nat.lt_trichotomy a b with z | z | z
        · have := hmono a b z h2; omega
        · exact z
        · have := hmono b a z h1; omega
      have hpw : ∀ m, m < (pE (lw (sAt (i + 1))) 12).length → 2 ^ m < 2 ^ (pE (lw (sAt (i + 1))) 12).length := fun m hm => Nat.pow_lt_pow_right (by decide) hm
      have sb1 : ∀ m q, sb (2 ^ m) q = q.testBit m := fun m q => by
        rw [Bool.eq_iff_iff, sb_iff]
        constructor
        · intro z; exact z m (Nat.testBit_two_pow_self)
        · intro z e he
          rw [Nat.testBit_two_pow, decide_eq_true_eq] at he
          rw [← he]; exact z
      have sb2 : ∀ m k q, sb (2 ^ m ||| 2 ^ k) q = (q.testBit m && q.testBit k) := fun m k q => by
        rw [← sb1, ← sb1, Bool.eq_iff_iff, Bool.and_eq_true, sb_iff, sb_iff, sb_iff]
        constructor
        · intro z
          exact ⟨fun e he => z e (by rw [Nat.testBit_or, he]; rfl), fun e he => z e (by rw [Nat.testBit_or, he, Bool.or_true])⟩
        · rintro ⟨z1, z2⟩ e he
          rw [Nat.testBit_or, Bool.or_eq_true] at he
          exact he.elim (z1 e) (z2 e)
      refine s_notePairs (E := fun j => (pE (lw (sAt (i + 1))) 12).getD j 0) (w1 := fun m => wI (wF (ed K n) (2 ^ (2 * n))) (wB (ed K n) (2 ^ (2 * n))) lw (fun c => c.testBit ((pE (lw (sAt (i + 1))) 12).getD m 0)) (2 ^ (2 * n)) (sAt (i + 1))) (w2 := fun m k => wI (wF (ed K n) (2 ^ (2 * n))) (wB (ed K n) (2 ^ (2 * n))) lw (fun c => c.testBit ((pE (lw (sAt (i + 1))) 12).getD m 0) && c.testBit ((pE (lw (sAt (i + 1))) 12).getD k 0)) (2 ^ (2 * n)) (sAt (i + 1))) (by omega) hlw.2 hn (fun j hj => ⟨hme' j hj, hE j hj⟩) (fun m hm => ?_) (fun m k hmk hk => ?_) (fun ah' al' ha' hl' => ?_)
      · rw [hsh' _ (hpw m hm), sh_wI h hN hs.2.2 (p := fun c => c.testBit ((pE (lw (sAt (i + 1))) 12).getD m 0)) (hpw m hm) (fun q hq => ?_)]
        rw [sb1]
        exact (pL_bit _ 12 q m (by rw [pL_len]; exact hq) hm).symm
      · have hor := Nat.or_lt_two_pow (hpw m (by omega)) (hpw k hk)
        rw [hsh' _ hor, sh_wI h hN hs.2.2 (p := fun c => c.testBit ((pE (lw (sAt (i + 1))) 12).getD m 0) && c.testBit ((pE (lw (sAt (i + 1))) 12).getD k 0)) hor (fun q hq => ?_)]
        rw [sb2]
        rw [pL_bit _ 12 q m (by rw [pL_len]; exact hq) (by omega), pL_bit _ 12 q k (by rw [pL_len]; exact hq) hk]
      · unfold wp_X3_weigh_b136
        rw [pk_m1]
        refine ih (by omega) ah' al' rest' share' _ _ me pa (fun j hj hbj => ?_) (fun x y hx hy => ?_) (fun x y hxy hy => ?_)
        · rw [hr' j (by omega), hR j hj hbj, lN_add, stR j hj hbj, ← Nat.add_assoc]
          congr 2
          by_cases z : sAt j ≤ sAt (i + 1)
          · rw [if_pos z]
            have hNj := (sAt_lt_N hn (by omega)).mpr hj
            have hvj := (sAt_all j (by omega)).2.2
            by_cases w : sAt (i + 1) - sAt j ≠ 0 ∧ sb (sAt (i + 1) - sAt j) (lw (sAt (i + 1))) = true
            · rw [if_pos ⟨z, w⟩]
              have k1 := h.2.2.1 (sAt (i + 1)) hN hs.2.2 _ w.2
              rw [show sAt (i + 1) - (sAt (i + 1) - sAt j) = sAt j by omega] at k1
              have k2 := (h.2.2.2 (sAt j) _ hNj hvj hbj k1.2.2).mpr (by rw [show sAt j + (sAt (i + 1) - sAt j) = sAt (i + 1) by omega]; exact ⟨hb, w.2⟩)
              rw [ed_eq ⟨hvj, w.1, k1.2.2⟩, if_pos k2, Nat.one_mul]
            · rw [if_neg (fun t => w t.2)]
              rcases Nat.eq_zero_or_pos (ed K n (sAt j) (sAt (i + 1) - sAt j)) with u | u
              · rw [u, Nat.zero_mul]
              · obtain ⟨q1, q2, q3, q4, -⟩ := ed_1 (by omega : ed K n (sAt j) (sAt (i + 1) - sAt j) ≠ 0)
                have := (h.2.2.2 (sAt j) _ hNj q1 hbj q3).mp q4
                rw [show sAt j + (sAt (i + 1) - sAt j) = sAt (i + 1) by omega] at this
                exact absurd ⟨q2, this.2⟩ w
          · rw [if_neg z, if_neg (fun t => z t.1)]
        · rw [ha', hA x y hx hy, lN_add, stp (fun j => if br (sAt j) = true then 0 else wI (wF (ed K n) (2 ^ (2 * n))) (wB (ed K n) (2 ^ (2 * n))) lw (fun c => c.testBit x && !(sAt j).testBit y) (2 ^ (2 * n)) (sAt j))]
          congr 2
          rw [ev_ah (W := fun x => wI (wF (ed K n) (2 ^ (2 * n))) (wB (ed K n) (2 ^ (2 * n))) lw (fun c => c.testBit x) (2 ^ (2 * n)) (sAt (i + 1))) hn hE hinj hx (by omega) (fun j hj => rfl) (fun hno => wI_z (fun c hc => ?_)), if_neg (c := br (sAt (i + 1)) = true) (by rw [hb]; decide)]
          · cases q : (sAt (i + 1)).testBit y with
            | false => rw [if_pos ⟨hy, rfl⟩]; simp only [Bool.not_false, Bool.and_true]
            | true => rw [if_neg (fun t => by cases t.2)]; exact (wI_z (fun c _ => by simp)).symm
          · cases q : c.testBit x with
            | false => rfl
            | true =>
              exfalso
              have : x ∈ pE (lw (sAt (i + 1))) 12 := (pE_mem _ _ _).mpr ⟨hx, sb_iff.mp hc x q⟩
              obtain ⟨j, hj1, hj2⟩ := List.getElem_of_mem this
              refine hno j hj1 ?_
              rw [List.getD_eq_getElem?_getD, List.getElem?_eq_getElem hj1]; exact hj2
        · rw [hl', hL x y hxy hy, lN_add, stp (fun j => if br (sAt j) = true then 0 else wI (wF (ed K n) (2 ^ (2 * n))) (wB (ed K n) (2 ^ (2 * n))) lw (fun c => c.testBit x && c.testBit y) (2 ^ (2 * n)) (sAt j))]
          congr 2
          have mem : ∀ z c, z < 12 → sb c (lw (sAt (i + 1))) = true → (∀ j, j < (pE (lw (sAt (i + 1))) 12).length → (pE (lw (sAt (i + 1))) 12).getD j 0 ≠ z) → c.testBit z = false := by
            intro z c hz hc hno
            cases q : c.testBit z with
            | false => rfl
            | true =>
              exfalso
              have : z ∈ pE (lw (sAt (i + 1))) 12 := (pE_mem _ _ _).mpr ⟨hz, sb_iff.mp hc z q⟩
              obtain ⟨j, hj1, hj2⟩ := List.getElem_of_mem this
              refine hno j hj1 ?_
              rw [List.getD_eq_getElem?_getD, List.getElem?_eq_getElem hj1]; exact hj2
          rw [ev_al (W := fun x y => wI (wF (ed K n) (2 ^ (2 * n))) (wB (ed K n) (2 ^ (2 * n))) lw (fun c => c.testBit x && c.testBit y) (2 ^ (2 * n)) (sAt (i + 1))) hE hmono hxy hy (fun a b _ _ => rfl) (fun hno => wI_z (fun c hc => ?_)), if_neg (c := br (sAt (i + 1)) = true) (by rw [hb]; decide)]
          rcases hno with hno | hno
          · rw [mem x c (by omega) hc hno]; rfl
          · rw [mem y c hy hc hno, Bool.and_false]
