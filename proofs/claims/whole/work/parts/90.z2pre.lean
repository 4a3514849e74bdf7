theorem pLp_ok {y : Nat → Nat} {L n : Nat} : ∀ (f : Nat) (g : Nat → Int32) (m i : Nat), i ≤ L → m < 9 → g 0 = nI n → g 1 = nI m → (pLp y L n f g m i).2.1 ≤ L
  | 0, g, m, i, hi, _, _, _ => by rw [pLp]; exact hi
  | f + 1, g, m, i, hi, hm, h0, h1 => by
    obtain ⟨a1, a2, a3, a4, -⟩ := pItem_g (y := y) hi hm h0 h1
    rw [pLp]
    by_cases z : tT y L i = 0
    · rw [if_pos z]; exact hi
    rw [if_neg z]
    by_cases q : (pItem y L n g m i).1 = true ∧ tT y L (pItem y L n g m i).2.1 = 3
    · rw [if_pos q]; exact pLp_ok f _ _ _ (tE_ok (y := y) a4).2.1 a3 a1 a2
    · rw [if_neg q]; exact a4
theorem pRd_ok {y : Nat → Nat} {L : Nat} (hL : L ≤ 200) : (pRd y L).2.1 ≤ L ∧ True := by
  have l0 : 0 ≤ L := Nat.zero_le _
  have l1 := (tE_ok (y := y) l0).2.1
  have l2 := (tE_ok (y := y) l1).2.1
  have l3 := (tE_ok (y := y) l2).2.1
  refine ⟨?_, trivial⟩
  unfold pRd
  by_cases w1 : wd y L 0 8 = true
  case neg => rw [if_neg w1]; exact l0
  rw [if_pos w1]
  by_cases f1 : fgB y L (tE y L 0) 7 = true ∧ tV y L (tE y L 0) ≠ 0
  case neg => rw [if_neg f1]; exact l1
  rw [if_pos f1]
  by_cases s3 : tT y L (tE y L (tE y L 0)) = 3
  case neg => rw [if_neg s3]; exact l2
  rw [if_pos s3]
  exact pLp_ok 200 _ 0 _ l3 (by omega) pk_us (by rw [pk_un (by omega)]; rfl)
