/-! Choices: bits of four longs -/
def lb (x : Int64) (j : Nat) : Bool := x.toBitVec.getLsbD j
theorem lb_and (x y : Int64) (j : Nat) : lb (x &&& y) j = (lb x j && lb y j) := by
  unfold lb; rw [Int64.toBitVec_and, BitVec.getLsbD_and]
theorem lb_or (x y : Int64) (j : Nat) : lb (x ||| y) j = (lb x j || lb y j) := by
  unfold lb; rw [Int64.toBitVec_or, BitVec.getLsbD_or]
theorem lb_m1 : ∀ j, j < 64 → lb (-1) j = true := by decide +kernel
theorem lb_0 : ∀ j, j < 64 → lb 0 j = false := by decide +kernel
theorem lb_c0 : ∀ j, j < 64 → lb 6148914691236517205 j = !Nat.testBit j 0 := by decide +kernel
theorem lb_c1 : ∀ j, j < 64 → lb 3689348814741910323 j = !Nat.testBit j 1 := by decide +kernel
theorem lb_c2 : ∀ j, j < 64 → lb 1085102592571150095 j = !Nat.testBit j 2 := by decide +kernel
theorem lb_c3 : ∀ j, j < 64 → lb 71777214294589695 j = !Nat.testBit j 3 := by decide +kernel
theorem lb_c4 : ∀ j, j < 64 → lb 281470681808895 j = !Nat.testBit j 4 := by decide +kernel
theorem lb_c5 : ∀ j, j < 64 → lb 4294967295 j = !Nat.testBit j 5 := by decide +kernel
theorem lb_sh : ∀ j, j < 64 → ((nI j).toInt64 &&& 63).toBitVec.smod 64 = BitVec.ofNat 64 j := by decide +kernel
theorem lb_at {x : Int64} {j : Nat} (hj : j < 64) : (x >>> ((nI j).toInt64 &&& 63)) &&& 1 = if lb x j = true then 1 else 0 := by
  have e : ∀ i, i < 64 → (x >>> ((nI j).toInt64 &&& 63)).toBitVec.getLsbD i = if j + i < 64 then x.toBitVec.getLsbD (j + i) else x.toBitVec.msb := by
    intro i hi
    rw [Int64.toBitVec_shiftRight]
    show (x.toBitVec.sshiftRight (((nI j).toInt64 &&& 63).toBitVec.smod 64).toNat).getLsbD i = _
    rw [lb_sh j hj, BitVec.getLsbD_sshiftRight]
    have : (BitVec.ofNat 64 j).toNat = j := by rw [BitVec.toNat_ofNat]; exact Nat.mod_eq_of_lt (by omega)
    rw [this]
    simp [hi]
  apply Int64.toBitVec_inj.1
  apply BitVec.eq_of_getLsbD_eq
  intro i hi
  rw [Int64.toBitVec_and, BitVec.getLsbD_and, e i hi]
  have h1 : ∀ i, i < 64 → (1 : Int64).toBitVec.getLsbD i = decide (i = 0) := by decide +kernel
  have h0 : ∀ i, i < 64 → (0 : Int64).toBitVec.getLsbD i = false := by decide +kernel
  rw [h1 i hi]
  by_cases z : i = 0
  · subst z
    rw [if_pos (by omega), decide_eq_true rfl, Bool.and_true, Nat.add_zero]
    show lb x j = _
    cases lb x j
    · rw [if_neg (by decide), h0 0 (by omega)]
    · rw [if_pos rfl, h1 0 (by omega)]; rfl
  · rw [decide_eq_false z, Bool.and_false]
    cases lb x j
    · rw [if_neg (by decide), h0 i hi]
    · rw [if_pos rfl, h1 i hi, decide_eq_false z]
theorem s_without {b : Nat} {Q : Int64 → Prop} (hQ : ∀ y : Int64, (∀ j, j < 64 → lb y j = aB (fun s => !b.testBit s || !j.testBit s) 6) → Q y) : wp_X0_without (nI b) Q := by
  have c : ∀ (s M : Nat) (A B : Prop), s < 31 → 2 ^ s = M → (b.testBit s = false → A) → (b.testBit s = true → B) → ((nI b &&& nI M = nI 0 → A) ∧ (¬ nI b &&& nI M = nI 0 → B)) := by
    intro s M A B hs hM ha hb
    subst hM
    rw [show nI 0 = (0 : Int32) from rfl, fa_bit hs]
    exact br_c ha (fun z => hb (by simpa using z))
  have st : ∀ j k : Nat, aB (fun s => !b.testBit s || !j.testBit s) (k + 1) = (aB (fun s => !b.testBit s || !j.testBit s) k && (!b.testBit k || !j.testBit k)) := fun _ _ => rfl
  -- the masks, one after the other
  have L5 : ∀ x y : Int64, (∀ j, j < 64 → (lb x j && lb y j) = aB (fun s => !b.testBit s || !j.testBit s) 5) → wp_X0_without_b94 Q (nI b) x y := by
    intro x y h
    unfold wp_X0_without_b94
    refine c 5 32 _ _ (by decide) rfl (fun z => hQ _ (fun j hj => ?_)) (fun z => ?_)
    · rw [lb_and, lb_and, lb_m1 j hj, Bool.and_true, h j hj, st j 5, z]; simp
    · intro w hw; subst hw
      refine hQ _ (fun j hj => ?_)
      rw [lb_and, lb_and, lb_c5 j hj, h j hj, st j 5, z]; rfl
  have L4 : ∀ x y : Int64, (∀ j, j < 64 → (lb x j && lb y j) = aB (fun s => !b.testBit s || !j.testBit s) 4) → wp_X0_without_b75 Q (nI b) x y := by
    intro x y h
    unfold wp_X0_without_b75
    refine c 4 16 _ _ (by decide) rfl (fun z => L5 _ _ (fun j hj => ?_)) (fun z => L5 _ _ (fun j hj => ?_))
    · rw [lb_and, lb_m1 j hj, Bool.and_true, h j hj, st j 4, z]; simp
    · rw [lb_and, lb_c4 j hj, h j hj, st j 4, z]; rfl
  have L3 : ∀ x y : Int64, (∀ j, j < 64 → (lb x j && lb y j) = aB (fun s => !b.testBit s || !j.testBit s) 3) → wp_X0_without_b56 Q (nI b) x y := by
    intro x y h
    unfold wp_X0_without_b56
    refine c 3 8 _ _ (by decide) rfl (fun z => L4 _ _ (fun j hj => ?_)) (fun z => L4 _ _ (fun j hj => ?_))
    · rw [lb_and, lb_m1 j hj, Bool.and_true, h j hj, st j 3, z]; simp
    · rw [lb_and, lb_c3 j hj, h j hj, st j 3, z]; rfl
  have L2 : ∀ x y : Int64, (∀ j, j < 64 → (lb x j && lb y j) = aB (fun s => !b.testBit s || !j.testBit s) 2) → wp_X0_without_b38 Q (nI b) x y := by
    intro x y h
    unfold wp_X0_without_b38
    refine c 2 4 _ _ (by decide) rfl (fun z => L3 _ _ (fun j hj => ?_)) (fun z => L3 _ _ (fun j hj => ?_))
    · rw [lb_and, lb_m1 j hj, Bool.and_true, h j hj, st j 2, z]; simp
    · rw [lb_and, lb_c2 j hj, h j hj, st j 2, z]; rfl
  have L1 : ∀ x y : Int64, (∀ j, j < 64 → (lb x j && lb y j) = aB (fun s => !b.testBit s || !j.testBit s) 1) → wp_X0_without_b20 Q (nI b) x y := by
    intro x y h
    unfold wp_X0_without_b20
    refine c 1 2 _ _ (by decide) rfl (fun z => L2 _ _ (fun j hj => ?_)) (fun z => L2 _ _ (fun j hj => ?_))
    · rw [lb_and, lb_m1 j hj, Bool.and_true, h j hj, st j 1, z]; simp
    · rw [lb_and, lb_c1 j hj, h j hj, st j 1, z]; rfl
  unfold wp_X0_without
  refine c 0 1 _ _ (by decide) rfl (fun z => L1 _ _ (fun j hj => ?_)) (fun z => L1 _ _ (fun j hj => ?_))
  · rw [lb_m1 j hj, st j 0, z]; simp [aB]
  · rw [lb_m1 j hj, lb_c0 j hj, st j 0, z]; simp [aB]
/-- who is broken, if a part of the loose ends came last -/
def bkF (b0 : Nat) (mi : Nat → Nat) (k : Nat) : Nat → Nat
  | 0 => b0
  | m + 1 => if k.testBit m = true then bkF b0 mi k m ||| mi m else bkF b0 mi k m
theorem bkF_lt {b0 : Nat} {mi : Nat → Nat} {k : Nat} (h0 : b0 < 512) : ∀ m, (∀ j, j < m → mi j < 512) → bkF b0 mi k m < 512
  | 0, _ => h0
  | m + 1, h => by
    have ih := bkF_lt (k := k) h0 m (fun j hj => h j (by omega))
    rw [bkF]
    split
    · exact Nat.or_lt_two_pow (n := 9) ih (h m (by omega))
    · exact ih
theorem bkF_bit {b0 : Nat} {mi : Nat → Nat} {k s : Nat} : ∀ m, (bkF b0 mi k m).testBit s = (b0.testBit s || oB (fun j => k.testBit j && (mi j).testBit s) m)
  | 0 => by rw [bkF, oB, Bool.or_false]
  | m + 1 => by
    rw [bkF, oB]
    split
    · rename_i h
      rw [Nat.testBit_or, bkF_bit m, h, Bool.true_and, Bool.or_assoc]
    · rename_i h
      have h : k.testBit m = false := by simpa using h
      rw [bkF_bit m, h, Bool.false_and, Bool.or_false]
theorem bkF_c {b0 : Nat} {mi : Nat → Nat} {k q : Nat} : ∀ m, (∀ j, j < m → k.testBit j = q.testBit j) → bkF b0 mi k m = bkF b0 mi q m
  | 0, _ => rfl
  | m + 1, h => by rw [bkF, bkF, bkF_c m (fun j hj => h j (by omega)), h m (by omega)]
theorem s_findBroken {bk mi me : Nat → Int32} {b0 r : Nat} {M E : Nat → Nat} {Q : (Nat → Int32) → Prop} (hr : r ≤ 6) (hE : ∀ j, j < r → me j = nI (E j) ∧ E j < 12) (hm : ∀ x, x < 12 → mi x = nI (M x))
    (hQ : ∀ bk : Nat → Int32, (∀ k, k < 2 ^ r → bk k = nI (bkF b0 (fun j => M (E j)) k r)) → Q bk) : wp_X0_findBroken bk (nI b0) mi (nI r) me Q := by
  have hC : 2 ^ r ≤ 64 := Nat.pow_le_pow_right (by decide : 2 > 0) hr
  have main : ∀ (d m : Nat) (bk : Nat → Int32), m + d = r → (∀ k, k < 2 ^ m → bk k = nI (bkF b0 (fun j => M (E j)) k m)) → wp_X0_findBroken_b12 Q mi (nI r) me (d + 1) (nI m) bk := by
    intro d
    induction d with
    | zero =>
      intro m bk hm1 h
      obtain rfl : m = r := by omega
      unfold wp_X0_findBroken_b12
      exact br_t (nI_le (by omega) (by omega)) (hQ bk h)
    | succ d ih =>
      intro m bk hm1 h
      have hp : 2 ^ m < 2 ^ r := Nat.pow_lt_pow_right (by decide) (by omega)
      have hp2 : 2 ^ (m + 1) = 2 ^ m + 2 ^ m := by rw [Nat.pow_succ]; omega
      have hp3 : 2 ^ (m + 1) ≤ 2 ^ r := Nat.pow_le_pow_right (by decide) (by omega)
      obtain ⟨e1, e2⟩ := hE m (by omega)
      have inner : ∀ (f k : Nat) (bk : Nat → Int32), k + f = 2 ^ m → (∀ q, q < 2 ^ m → bk q = nI (bkF b0 (fun j => M (E j)) q m)) → (∀ q, q < k → bk (q + 2 ^ m) = nI (bkF b0 (fun j => M (E j)) q m ||| M (E m))) → wp_X0_findBroken_b23 Q mi me (wp_X0_findBroken_b12 Q mi (nI r) me (d + 1)) (f + 1) (nI m) (nI k) bk := by
        intro f
        induction f with
        | zero =>
          intro k bk hk h1 h2
          unfold wp_X0_findBroken_b23 wp_X0_findBroken_b67
          rw [zl 1, zl 31, z_one (by omega), nI_add]
          refine br_t (nI_le (by omega) (by omega)) (ih (m + 1) bk (by omega) (fun q hq => ?_))
          rw [bkF]
          rcases Nat.lt_or_ge q (2 ^ m) with z | z
          · rw [if_neg (by rw [Nat.testBit_lt_two_pow z]; decide)]; exact h1 q z
          · have := h2 (q - 2 ^ m) (by omega)
            rw [show q - 2 ^ m + 2 ^ m = q by omega] at this
            have tb := fun j => tb_add (c := q - 2 ^ m) (x := m) (e := j) (by omega)
            rw [show q - 2 ^ m + 2 ^ m = q by omega] at tb
            rw [if_pos (by rw [tb m]; simp), this, bkF_c m (fun j hj => by rw [tb j, decide_eq_false (by omega), Bool.or_false])]
        | succ f ihf =>
          intro k bk hk h1 h2
          have hor : k ||| 2 ^ m = k + 2 ^ m := by
            have := Nat.two_pow_add_eq_or_of_lt (by omega : k < 2 ^ m) 1
            rw [Nat.mul_one] at this
            rw [Nat.or_comm, ← this, Nat.add_comm]
          unfold wp_X0_findBroken_b23
          rw [zl 1, zl 31, z_one (by omega), fa_or, hor, nI_add]
          refine br_f (nI_ge (by omega) (by omega)) ⟨(z_in (by omega)).mpr (by omega), (z_in (by omega)).mpr (by omega), ?_⟩
          rw [nI_clamp (by omega), nI_clamp (by omega), nI_clamp (by omega), e1, nI_clamp (by omega), hm _ e2, h1 k (by omega), fa_or]
          refine ⟨(z_in (by omega)).mpr (by omega), nm_e ⟨(z_in (by omega)).mpr (by omega), ?_⟩⟩
          refine ihf (k + 1) _ (by omega) (fun q hq => ?_) (fun q hq => ?_)
          · rw [pk_un (by omega)]; exact h1 q hq
          · by_cases z : q = k
            · rw [z, pk_us]
            · rw [pk_un (by omega)]; exact h2 q (by omega)
      unfold wp_X0_findBroken_b12
      refine br_f (nI_ge (by omega) (by omega)) ⟨2 ^ m + 1, ?_⟩
      exact inner (2 ^ m) 0 bk (by omega) h (fun q hq => absurd hq (Nat.not_lt_zero q))
  unfold wp_X0_findBroken
  refine ⟨(z_in (n := 0) (by omega)).mpr (by omega), r + 1, ?_⟩
  refine main r 0 _ (by omega) (fun k hk => ?_)
  obtain rfl : k = 0 := by omega
  show upd bk 0 (nI b0) 0 = _
  rw [pk_us]; rfl
