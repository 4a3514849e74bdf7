/-! two THINGS that never last on together: the ways of that are those with one over no later than the other begins -/
theorem flow_H {N : Nat} {e : Nat → Nat → Nat} {F H : Nat → Nat} {out : Nat → Nat → Nat} (h0 : 0 < N) (he : gE N e) (hF : gF N 0 e F) (hH : ∀ u, u < N → F u ≠ 0 → H u = sm (fun M => e u M * (H (u + M) + out u M)) N) : H 0 = sm (fun u => sm (fun M => F u * e u M * out u M) N) N := by
  have h1 := gX_in (B := H) h0 he hF (fun _ => 1)
  have h2 : sm (fun v => 1 * (F v * H v)) N = gX N e F H (fun _ _ => 1) + sm (fun u => sm (fun M => F u * e u M * out u M) N) N := by
    rw [gX, ← sm_add]
    refine sm_c fun u hu => ?_
    rw [← sm_add, Nat.one_mul]
    rcases Nat.eq_zero_or_pos (F u) with z | z
    · rw [z, Nat.zero_mul]
      exact (sm_z fun M _ => by simp).symm
    · rw [hH u hu (by omega), ← sm_mul]
      refine sm_c fun M _ => ?_
      rw [Nat.mul_one, ← Nat.mul_assoc, Nat.mul_add]
  omega
def dD (a b v : Nat) : Bool := lst v a && lst v b
def zZ (a b v : Nat) : Bool := !v.testBit (2 * a + 1) && !v.testBit (2 * b + 1) && !dD a b v
theorem parted_B {n : Nat} {K : Nat → Nat → Bool} {a b : Nat} (hn : n < 7) (hab : a < n ∧ b < n) : ∀ (d v : Nat), v + d = 2 ^ (2 * n) → 0 < d → (v.testBit (2 * a + 1) = true ∨ v.testBit (2 * b + 1) = true) → wB (ed (fun s M => ap a b s M && K s M) n) (2 ^ (2 * n)) v = wB (ed K n) (2 ^ (2 * n)) v := by
  intro d
  induction d using Nat.strongRecOn with
  | _ d ih =>
    intro v hv hd hb
    have hvN : v < 2 ^ (2 * n) := by omega
    rw [wB_rec ed_E ed_pos v hvN, wB_rec ed_E ed_pos v hvN]
    congr 1
    refine sm_c fun M hM => ?_
    by_cases hz : vl v = true ∧ M ≠ 0 ∧ sb M (nx v n) = true
    · have hap : ap a b v M = true := by
        have fa1 : M.testBit (2 * a) = true → v.testBit (2 * a) = false ∧ v.testBit (2 * a + 1) = false := fun q => ((mo_bits hz.2.2 a).1 q).2
        have fb1 : M.testBit (2 * b) = true → v.testBit (2 * b) = false ∧ v.testBit (2 * b + 1) = false := fun q => ((mo_bits hz.2.2 b).1 q).2
        unfold ap bn
        revert hb fa1 fb1
        cases v.testBit (2 * a) <;> cases v.testBit (2 * a + 1) <;> cases v.testBit (2 * b) <;> cases v.testBit (2 * b + 1) <;> cases M.testBit (2 * a) <;> cases M.testBit (2 * a + 1) <;> cases M.testBit (2 * b) <;> cases M.testBit (2 * b + 1) <;> simp
      rw [ed_eq hz, ed_eq hz]
      simp only [hap, Bool.true_and]
      by_cases hk : K v M = true
      · rw [if_pos hk, Nat.one_mul, Nat.one_mul]
        have hN := mo_N hvN hz.2.2
        refine ih (2 ^ (2 * n) - (v + M)) (by omega) (v + M) (by omega) (by omega) ?_
        rw [mo_bit hz.2.2, mo_bit hz.2.2]
        rcases hb with hb | hb
        · rw [hb]; exact Or.inl rfl
        · rw [hb]; exact Or.inr rfl
      · rw [if_neg hk, Nat.zero_mul, Nat.zero_mul]
    · have e1 : ∀ K' : Nat → Nat → Bool, ed K' n v M = 0 := fun K' => by
        rcases Nat.eq_zero_or_pos (ed K' n v M) with w | w
        · exact w
        · have := ed_1 (by omega : ed K' n v M ≠ 0)
          exact absurd ⟨this.1, this.2.1, this.2.2.1⟩ hz
      rw [e1, e1, Nat.zero_mul, Nat.zero_mul]
theorem parted_sum {n : Nat} {K : Nat → Nat → Bool} {a b : Nat} (hn : n < 7) (ha : a < n) (hb : b < n) (hab : a ≠ b) : wB (ed (fun s M => ap a b s M && K s M) n) (2 ^ (2 * n)) 0 = (AH n K (2 * a + 1) (2 * b) + AL n K (2 * a + 1) (2 * b)) + (AH n K (2 * b + 1) (2 * a) + AL n K (2 * b + 1) (2 * a)) := by
  have h4 := p4_le hn
  have h0 : 0 < 2 ^ (2 * n) := Nat.two_pow_pos _
  have hH := flow_H (N := 2 ^ (2 * n)) (e := ed K n) (F := wF (ed K n) (2 ^ (2 * n))) (H := fun v => if zZ a b v = true then wB (ed (fun s M => ap a b s M && K s M) n) (2 ^ (2 * n)) v else 0) (out := fun u M => if (zZ a b u && ((u + M).testBit (2 * a + 1) || (u + M).testBit (2 * b + 1))) = true then wB (ed K n) (2 ^ (2 * n)) (u + M) else 0) h0 ed_E (wF_rec ed_pos) (fun u hu hF => ?_)
  · have hz0 : zZ a b 0 = true := by simp [zZ, dD, lst]
    rw [if_pos hz0] at hH
    rw [hH]
    have e : ∀ x y, AH n K x y + AL n K x y = gX (2 ^ (2 * n)) (ed K n) (wF (ed K n) (2 ^ (2 * n))) (wB (ed K n) (2 ^ (2 * n))) (fun u M => if (M.testBit x && !u.testBit y) = true then 1 else 0) := fun x y => by
      rw [AH, AL, ← gX_add]
      refine gX_c fun u M hu hM hz => ?_
      have hsb := (ed_1 hz).2.2.1
      have hap := congrArg (fun z => z.testBit y) (mo_apart hsb)
      simp only [Nat.testBit_and, Nat.zero_testBit] at hap
      rw [mo_bit hsb y]
      revert hap
      cases M.testBit x <;> cases u.testBit y <;> cases M.testBit y <;> simp
    rw [e, e, ← gX_add, gX]
    refine sm_c fun u hu => sm_c fun M hM => ?_
    rcases Nat.eq_zero_or_pos (ed K n u M) with z | z
    · rw [z]; simp
    · obtain ⟨q1, q2, q3, q4, -⟩ := ed_1 (by omega : ed K n u M ≠ 0)
      have va := (vl_iff (by omega)).mp q1 a
      have vb := (vl_iff (by omega)).mp q1 b
      have fa1 : M.testBit (2 * a) = true → u.testBit (2 * a) = false ∧ u.testBit (2 * a + 1) = false := fun q => ((mo_bits q3 a).1 q).2
      have fa2 : M.testBit (2 * a + 1) = true → u.testBit (2 * a) = true ∧ u.testBit (2 * a + 1) = false := fun q => ((mo_bits q3 a).2 q).2
      have fb1 : M.testBit (2 * b) = true → u.testBit (2 * b) = false ∧ u.testBit (2 * b + 1) = false := fun q => ((mo_bits q3 b).1 q).2
      have fb2 : M.testBit (2 * b + 1) = true → u.testBit (2 * b) = true ∧ u.testBit (2 * b + 1) = false := fun q => ((mo_bits q3 b).2 q).2
      have key : (if (zZ a b u && ((u + M).testBit (2 * a + 1) || (u + M).testBit (2 * b + 1))) = true then 1 else 0) = (if (M.testBit (2 * a + 1) && !u.testBit (2 * b)) = true then 1 else 0) + (if (M.testBit (2 * b + 1) && !u.testBit (2 * a)) = true then 1 else 0) := by
        rw [mo_bit q3, mo_bit q3]
        unfold zZ dD lst
        revert va vb fa1 fa2 fb1 fb2
        generalize u.testBit (2 * a) = sa; generalize u.testBit (2 * a + 1) = sa'; generalize u.testBit (2 * b) = sb; generalize u.testBit (2 * b + 1) = sb'
        generalize M.testBit (2 * a) = ma; generalize M.testBit (2 * a + 1) = ma'; generalize M.testBit (2 * b) = mb; generalize M.testBit (2 * b + 1) = mb'
        revert sa sa' sb sb' ma ma' mb mb'; decide
      rw [← key, Nat.mul_assoc (wF (ed K n) (2 ^ (2 * n)) u * ed K n u M)]
      congr 1
      split
      · rw [Nat.mul_one]
      · rw [Nat.mul_zero]
  · have hvu := F_vl hn u hu hF
    have hv0 := (vl_iff (by omega)).mp hvu
    have hterm : ∀ M, (if zZ a b u = true then ed (fun s M => ap a b s M && K s M) n u M * wB (ed (fun s M => ap a b s M && K s M) n) (2 ^ (2 * n)) (u + M) else 0) = ed K n u M * ((if zZ a b (u + M) = true then wB (ed (fun s M => ap a b s M && K s M) n) (2 ^ (2 * n)) (u + M) else 0) + (if (zZ a b u && ((u + M).testBit (2 * a + 1) || (u + M).testBit (2 * b + 1))) = true then wB (ed K n) (2 ^ (2 * n)) (u + M) else 0)) := by
      intro M
      by_cases hz : vl u = true ∧ M ≠ 0 ∧ sb M (nx u n) = true
      · have hN := mo_N hu hz.2.2
        have hM0 := mo_lt hz.2.2
        have pB := parted_B (K := K) hn ⟨ha, hb⟩ (2 ^ (2 * n) - (u + M)) (u + M) (by omega) (by omega)
        rw [ed_eq hz, ed_eq hz]
        by_cases hk : K u M = true
        · rw [if_pos hk, Nat.one_mul]
          simp only [hk, Bool.and_true]
          have va := hv0 a
          have vb := hv0 b
          have fa1 : M.testBit (2 * a) = true → u.testBit (2 * a) = false ∧ u.testBit (2 * a + 1) = false := fun q => ((mo_bits hz.2.2 a).1 q).2
          have fa2 : M.testBit (2 * a + 1) = true → u.testBit (2 * a) = true ∧ u.testBit (2 * a + 1) = false := fun q => ((mo_bits hz.2.2 a).2 q).2
          have fb1 : M.testBit (2 * b) = true → u.testBit (2 * b) = false ∧ u.testBit (2 * b + 1) = false := fun q => ((mo_bits hz.2.2 b).1 q).2
          have fb2 : M.testBit (2 * b + 1) = true → u.testBit (2 * b) = true ∧ u.testBit (2 * b + 1) = false := fun q => ((mo_bits hz.2.2 b).2 q).2
          -- from a set of Z: all or nothing
          have c1 : zZ a b u = true → ap a b u M = (zZ a b (u + M) || ((u + M).testBit (2 * a + 1) || (u + M).testBit (2 * b + 1))) := by
            intro hzu
            have hu3 : u.testBit (2 * a + 1) = false ∧ u.testBit (2 * b + 1) = false ∧ (u.testBit (2 * a) && u.testBit (2 * b)) = false := by
              unfold zZ dD lst at hzu
              revert hzu
              cases u.testBit (2 * a + 1) <;> cases u.testBit (2 * b + 1) <;> cases u.testBit (2 * a) <;> cases u.testBit (2 * b) <;> simp
            obtain ⟨z1, z2, z3⟩ := hu3
            have g1 := fun q => (fa1 q).1
            have g2 := fun q => (fa2 q).1
            have g3 := fun q => (fb1 q).1
            have g4 := fun q => (fb2 q).1
            unfold zZ dD lst ap bn
            rw [mo_bit hz.2.2, mo_bit hz.2.2, mo_bit hz.2.2, mo_bit hz.2.2, z1, z2]
            revert z3 g1 g2 g3 g4
            generalize u.testBit (2 * a) = sa; generalize u.testBit (2 * b) = sb
            generalize M.testBit (2 * a) = ma; generalize M.testBit (2 * a + 1) = ma'; generalize M.testBit (2 * b) = mb; generalize M.testBit (2 * b + 1) = mb'
            clear hzu z1 z2 va vb fa1 fa2 fb1 fb2 pB hz hk hN hM0; revert sa sb ma ma' mb mb'; decide
          have c2 : zZ a b u = false → zZ a b (u + M) = false := by
            unfold zZ dD lst
            rw [mo_bit hz.2.2, mo_bit hz.2.2, mo_bit hz.2.2, mo_bit hz.2.2]
            clear va vb fa1 fa2 fb1 fb2
            generalize u.testBit (2 * a) = sa; generalize u.testBit (2 * a + 1) = sa'; generalize u.testBit (2 * b) = sb; generalize u.testBit (2 * b + 1) = sb'
            generalize M.testBit (2 * a) = ma; generalize M.testBit (2 * a + 1) = ma'; generalize M.testBit (2 * b) = mb; generalize M.testBit (2 * b + 1) = mb'
            clear pB hz hk hN hM0 c1; revert sa sa' sb sb' ma ma' mb mb'; decide
          have c3 : zZ a b (u + M) = true → (u + M).testBit (2 * a + 1) = false ∧ (u + M).testBit (2 * b + 1) = false := by
            unfold zZ
            cases (u + M).testBit (2 * a + 1) <;> cases (u + M).testBit (2 * b + 1) <;> simp
          cases hzu : zZ a b u with
          | false => rw [c2 hzu]; simp
          | true =>
            rw [c1 hzu]
            cases hzv : zZ a b (u + M) with
            | true =>
              have := c3 hzv
              rw [this.1, this.2]; simp
            | false =>
              by_cases hq : ((u + M).testBit (2 * a + 1) || (u + M).testBit (2 * b + 1)) = true
              · rw [hq, pB (by simpa using hq)]; simp
              · have hq : ((u + M).testBit (2 * a + 1) || (u + M).testBit (2 * b + 1)) = false := by simpa using hq
                rw [hq]; simp
        · rw [if_neg hk, Nat.zero_mul]
          have : (ap a b u M && K u M) = false := by
            have : K u M = false := by simpa using hk
            rw [this, Bool.and_false]
          rw [this]; simp
      · have e1 : ∀ K' : Nat → Nat → Bool, ed K' n u M = 0 := fun K' => by
          rcases Nat.eq_zero_or_pos (ed K' n u M) with w | w
          · exact w
          · have := ed_1 (by omega : ed K' n u M ≠ 0)
            exact absurd ⟨this.1, this.2.1, this.2.2.1⟩ hz
        rw [e1, e1, Nat.zero_mul, Nat.zero_mul]; simp
    rw [sm_c (fun M _ => (hterm M).symm)]
    cases hzu : zZ a b u with
    | false => simp only [Bool.false_eq_true, if_false]; exact (sm_z fun _ _ => rfl).symm
    | true =>
      simp only [if_true]
      rw [wB_rec ed_E ed_pos u hu, if_neg, Nat.zero_add]
      intro hf
      rw [hf] at hzu
      unfold zZ at hzu
      rw [full_bit (by omega : 2 * a + 1 < 2 * n)] at hzu
      simp at hzu
