/-! what it means that just these ends have come, for rows D, P -/
def oR {α : Type} (f : α → Nat) : List α → Nat
  | [] => 0
  | a :: l => f a ||| oR f l
theorem oR_snoc {α : Type} (f : α → Nat) (a : α) : ∀ l : List α, oR f (l ++ [a]) = oR f l ||| f a
  | [] => by simp [oR]
  | b :: l => by simp only [List.cons_append, oR, oR_snoc f a l, Nat.or_assoc]
theorem oR_bit {α : Type} (f : α → Nat) (j : Nat) : ∀ l : List α, (oR f l).testBit j = l.any (fun a => (f a).testBit j)
  | [] => by simp [oR]
  | b :: l => by simp only [oR, Nat.testBit_or, List.any_cons, oR_bit f j l]
theorem oR_app {α : Type} (f : α → Nat) : ∀ l m : List α, oR f (l ++ m) = oR f l ||| oR f m
  | [], m => by simp [oR]
  | b :: l, m => by simp only [List.cons_append, oR, oR_app f l m, Nat.or_assoc]
def lst (v t : Nat) : Bool := v.testBit (2 * t) && !v.testBit (2 * t + 1)
def brD (v : Nat) (d : DR) : Nat := if v.testBit d.2.1 = true then (if v.testBit d.1 = true then 0 else d.2.2.2) else 0
def brP (v : Nat) (p : PR) : Nat := if lst v p.1 = true then (if lst v p.2.1 = true then p.2.2 else 0) else 0
def miD (v x : Nat) (d : DR) : Nat := if v.testBit d.2.1 = true ∧ v.testBit d.1 = true ∧ d.2.2.1 = true ∧ x = d.1 then d.2.2.2 else 0
def brM (D : List DR) (P : List PR) (v : Nat) : Nat := oR (brD v) D ||| oR (brP v) P
def miM (D : List DR) (v x : Nat) : Nat := oR (miD v x) D
def wfD (D : List DR) : Prop := ∀ d, d ∈ D → d.1 < 12 ∧ d.2.1 < 12
def wfP (P : List PR) : Prop := ∀ d, d ∈ P → d.1 < 6 ∧ d.2.1 < 6
theorem e_lasts {v t : Nat} {Q : Int32 → Prop} (hv : v < 2 ^ 31) (ht : t < 6) : wp_X2_lasts (nI v) (nI t) Q ↔ Q (bI (lst v t)) := by
  have h3 : nI (v / 2 ^ (2 * t)) &&& nI 3 = nI (v / 2 ^ (2 * t) % 4) := fa_mask _ 2
  unfold wp_X2_lasts
  simp (disch := omega) only [zs, pk_mul, z_shr, h3]
  rw [dig4, lst]
  cases v.testBit (2 * t) <;> cases v.testBit (2 * t + 1) <;> simp (disch := decide) [bI_t, bI_f, nI_eq]
theorem s_weigh {D : List DR} {P : List PR} {v : Nat} {cb : Int32} {so la st ma on ot pa mi : Nat → Int32} {Q : Int32 → (Nat → Int32) → Prop} (hv : v < 2 ^ 31) (hl : D.length ≤ 48) (hl2 : P.length ≤ 48) (h : dR D so la st ma) (hp : pR P on ot pa) (wD : wfD D) (wP : wfP P)
    (hQ : ∀ mi : Nat → Int32, (∀ x, x < 12 → mi x = nI (miM D v x)) → Q (nI (brM D P v)) mi) : wp_X2_weigh (nI v) (nI D.length) (nI P.length) cb so la st ma on ot pa mi Q := by
  have A : ∀ (mi : Nat → Int32), (∀ x, x < 12 → mi x = nI (miM D v x)) → ∀ (d i : Nat), i + d = P.length → wp_X2_weigh_b120 Q (nI P.length) on ot pa (d + 1) (nI v) (nI i) (nI (oR (brD v) D ||| oR (brP v) (P.take i))) mi := by
    intro mi hmi d
    induction d with
    | zero =>
      intro i hi
      obtain rfl : i = P.length := by omega
      unfold wp_X2_weigh_b120
      refine br_t (nI_le (by omega) (by omega)) ?_
      rw [List.take_length]
      exact hQ mi hmi
    | succ d ih =>
      intro i hi
      have ih := ih (i + 1) (by omega)
      have hd : P[i]? = some P[i] := List.getElem?_eq_getElem (by omega)
      obtain ⟨a1, a2, a3⟩ := hp i _ hd
      obtain ⟨w1, w2⟩ := wP _ (List.getElem_mem (by omega : i < P.length))
      rw [List.take_succ, hd, Option.toList_some, oR_snoc, ← Nat.or_assoc, brP] at ih
      have hi48 : vp_in (nI i) 48 := (z_in (by omega)).mpr (by omega)
      unfold wp_X2_weigh_b120 wp_X2_weigh_b169
      refine br_f (nI_ge (by omega) (by omega)) ⟨hi48, ?_⟩
      rw [nI_clamp (by omega), a1, a2, a3]
      simp (disch := omega) only [zs, e_lasts, bI_z, zb, zbf, nI_add, fa_or, hi48, true_and]
      by_cases q1 : lst v P[i].1 = true
      · rw [if_pos q1] at ih ⊢
        by_cases q2 : lst v P[i].2.1 = true
        · rw [if_pos q2] at ih ⊢
          intro y hy; subst hy; exact ih
        · rw [if_neg q2] at ih ⊢
          rw [Nat.or_zero] at ih; exact ih
      · rw [if_neg q1] at ih ⊢
        rw [Nat.or_zero] at ih; exact ih
  have B : ∀ (d i : Nat) (mi : Nat → Int32), i + d = D.length → (∀ x, x < 12 → mi x = nI (oR (miD v x) (D.take i))) → wp_X2_weigh_b28 Q (nI D.length) (nI P.length) so la st ma on ot pa (d + 1) (nI v) (nI i) (nI (oR (brD v) (D.take i))) mi := by
    intro d
    induction d with
    | zero =>
      intro i mi hi hmi
      obtain rfl : i = D.length := by omega
      unfold wp_X2_weigh_b28
      refine br_t (nI_le (by omega) (by omega)) ?_
      unfold wp_X2_weigh_b118
      rw [List.take_length] at hmi ⊢
      have := A mi hmi P.length 0 (by omega)
      rw [List.take_zero, oR, Nat.or_zero] at this
      exact ⟨_, this⟩
    | succ d ih =>
      intro i mi hi hmi
      have ih := ih (i + 1)
      have hd : D[i]? = some D[i] := List.getElem?_eq_getElem (by omega)
      obtain ⟨a1, a2, a3, a4⟩ := h i _ hd
      obtain ⟨w1, w2⟩ := wD _ (List.getElem_mem (by omega : i < D.length))
      have e1 : ∀ x, oR (miD v x) (D.take (i + 1)) = oR (miD v x) (D.take i) ||| miD v x D[i] := fun x => by rw [List.take_succ, hd, Option.toList_some, oR_snoc]
      have e2 : oR (brD v) (D.take (i + 1)) = oR (brD v) (D.take i) ||| brD v D[i] := by rw [List.take_succ, hd, Option.toList_some, oR_snoc]
      rw [e2] at ih
      have hi48 : vp_in (nI i) 48 := (z_in (by omega)).mpr (by omega)
      unfold wp_X2_weigh_b28 wp_X2_weigh_b112
      refine br_f (nI_ge (by omega) (by omega)) ⟨hi48, ?_⟩
      rw [nI_clamp (by omega), a1, a2, a3, a4]
      simp (disch := omega) only [zs, z_bit, bI_z, zb, zbf, nI_add, fa_or, hi48, true_and, nI_clamp, z_in]
      have hsame : (∀ x, x < 12 → miD v x D[i] = 0) → ∀ x, x < 12 → mi x = nI (oR (miD v x) (D.take (i + 1))) := fun hz x hx => by rw [e1, hz x hx, Nat.or_zero]; exact hmi x hx
      by_cases q1 : v.testBit D[i].2.1 = true
      · rw [if_pos q1]
        by_cases q2 : v.testBit D[i].1 = true
        · rw [if_pos q2]
          have hb : brD v D[i] = 0 := by unfold brD; rw [if_pos q1, if_pos q2]
          rw [hb, Nat.or_zero] at ih
          by_cases q3 : D[i].2.2.1 = true
          · rw [if_pos q3]
            refine ⟨w1, fun y hy => ⟨w1, ?_⟩⟩
            subst hy
            refine ih _ (by omega) (fun x hx => ?_)
            rw [e1]
            unfold miD
            by_cases q4 : x = D[i].1
            · rw [if_pos ⟨q1, q2, q3, q4⟩, q4, pk_us, hmi _ w1, fa_or]; rfl
            · rw [if_neg (fun z => q4 z.2.2.2), pk_un q4, Nat.or_zero]; exact hmi x hx
          · rw [if_neg q3]
            exact ih mi (by omega) (hsame (fun x _ => by unfold miD; rw [if_neg (fun z => q3 z.2.2.1)]))
        · rw [if_neg q2]
          have hb : brD v D[i] = D[i].2.2.2 := by unfold brD; rw [if_pos q1, if_neg q2]
          rw [hb] at ih
          intro y hy; subst hy
          exact ih mi (by omega) (hsame (fun x _ => by unfold miD; rw [if_neg (fun z => q2 z.2.1)]))
      · rw [if_neg q1]
        have hb : brD v D[i] = 0 := by unfold brD; rw [if_neg q1]
        rw [hb, Nat.or_zero] at ih
        exact ih mi (by omega) (hsame (fun x _ => by unfold miD; rw [if_neg (fun z => q1 z.1)]))
  have C : ∀ (d x : Nat) (mi : Nat → Int32), x + d = 12 → (∀ y, y < x → mi y = nI 0) → wp_X2_weigh_b7 Q (nI D.length) (nI P.length) so la st ma on ot pa (d + 1) (nI v) (nI x) (nI 0) mi := by
    intro d
    induction d with
    | zero =>
      intro x mi hx hmi
      obtain rfl : x = 12 := by omega
      unfold wp_X2_weigh_b7
      refine br_t (nI_le (a := 12) (by omega) (by omega)) ?_
      unfold wp_X2_weigh_b26
      exact ⟨_, B D.length 0 mi (by omega) (fun x hx => by rw [hmi x hx]; rfl)⟩
    | succ d ih =>
      intro x mi hx hmi
      unfold wp_X2_weigh_b7
      refine br_f (nI_ge (b := 12) (by omega) (by omega)) ⟨(z_in (by omega)).mpr (by omega), ?_⟩
      rw [nI_clamp (by omega), zl 1, nI_add]
      refine ih (x + 1) _ (by omega) (fun y hy => ?_)
      by_cases q : y = x
      · rw [q, pk_us]; rfl
      · rw [pk_un q]; exact hmi y (by omega)
  unfold wp_X2_weigh
  exact ⟨13, C 12 0 mi rfl (fun y hy => absurd hy (Nat.not_lt_zero y))⟩
/-- the set of those below n with p -/
def lo (p : Nat → Bool) : Nat → Nat
  | 0 => 0
  | x + 1 => lo p x + if p x = true then 2 ^ x else 0
theorem lo_lt (p : Nat → Bool) : ∀ n, lo p n < 2 ^ n
  | 0 => by simp [lo]
  | n + 1 => by
    have := lo_lt p n
    rw [lo, Nat.pow_succ]
    split <;> omega
theorem lo_bit (p : Nat → Bool) : ∀ n e, (lo p n).testBit e = (decide (e < n) && p e)
  | 0, e => by simp [lo]
  | n + 1, e => by
    have hl := lo_lt p n
    rw [lo]
    split
    · rename_i h
      rw [tb_add hl, lo_bit p n e]
      by_cases q : e = n
      · subst q; simp [h]
      · have : (e < n) = (e < n + 1) := by rw [eq_iff_iff]; omega
        simp [q, this]
    · rename_i h
      rw [Nat.add_zero, lo_bit p n e]
      by_cases q : e = n
      · subst q; simp at h; simp [h]
      · have : (e < n) = (e < n + 1) := by rw [eq_iff_iff]; omega
        simp [this]
theorem s_looseIn {v : Nat} {mk : Int32} {mi : Nat → Int32} {M : Nat → Nat} {z : Nat → Bool} {Q : Int32 → Prop} (hv : v < 2 ^ 31) (hm : ∀ x, x < 12 → mi x = nI (M x)) (hz : ∀ x, x < 12 → (nI (M x) &&& mk = nI 0 ↔ z (M x) = true)) (hQ : Q (nI (lo (fun x => v.testBit x && z (M x)) 12))) : wp_X2_looseIn (nI v) mk mi Q := by
  have main : ∀ (d x : Nat), x + d = 12 → wp_X2_looseIn_b5 Q mi (d + 1) (nI v) mk (nI (lo (fun x => v.testBit x && z (M x)) x)) (nI x) := by
    intro d
    induction d with
    | zero =>
      intro x hx
      obtain rfl : x = 12 := by omega
      unfold wp_X2_looseIn_b5
      exact br_t (nI_le (a := 12) (by omega) (by omega)) hQ
    | succ d ih =>
      intro x hx
      have ih := ih (x + 1) (by omega)
      have hl := lo_lt (fun x => v.testBit x && z (M x)) x
      have o1 : lo (fun x => v.testBit x && z (M x)) x ||| 2 ^ x = lo (fun x => v.testBit x && z (M x)) x + 2 ^ x := by
        have := Nat.two_pow_add_eq_or_of_lt hl 1
        rw [Nat.mul_one] at this
        rw [Nat.or_comm, ← this, Nat.add_comm]
      unfold wp_X2_looseIn_b5 wp_X2_looseIn_b41
      refine br_f (nI_ge (b := 12) (by omega) (by omega)) ?_
      rw [nI_clamp (by omega), hm x (by omega)]
      simp (disch := omega) only [zs, z_bit, bI_1, z_one, fa_or, o1, nI_add, z_in]
      rw [hz x (by omega)]
      rw [lo] at ih
      refine br_c (fun q1 => ⟨by omega, br_c (fun q2 => ?_) (fun q2 => ?_)⟩) (fun q1 => ?_)
      · rw [q1, q2] at ih
        intro y hy; subst hy
        exact ih
      · rw [q1] at ih
        simp only [Bool.true_and, if_neg q2, Nat.add_zero] at ih
        exact ih
      · simp only [Bool.and_eq_true, q1, false_and, if_false, Nat.add_zero] at ih
        exact ih
  unfold wp_X2_looseIn
  exact ⟨13, main 12 0 rfl⟩
