theorem dR_pre {D E : List DR} {so la st ma : Nat → Int32} (h : dR (D ++ E) so la st ma) : dR D so la st ma := by
  intro i d hi
  have hl : i < D.length := by
    rcases Nat.lt_or_ge i D.length with q | q
    · exact q
    · rw [List.getElem?_eq_none q] at hi; cases hi
  exact h i d (by rw [List.getElem?_append_left hl]; exact hi)
theorem dR_DP {D : List DR} {h t : Nat → Nat} {so la st ma : Nat → Int32} : ∀ k, dR (DP D h t k) so la st ma → dR D so la st ma
  | 0, hd => hd
  | k + 1, hd => dR_DP k (dR_pre hd)
/-- whether one order keeps all, with these mates -/
def fitP (g : Nat → Int32) (n m : Nat) (kd oa ob : Nat → Nat) (h t : Nat → Nat) (k : Nat) : Bool := wB (ed (KA g n m kd oa ob 255 (mtP h t k) none) n) (2 ^ (2 * n)) 0 != 0
theorem s_fitsPicked {g : Nat → Int32} {n m k : Nat} {kd oa ob h t pk : Nat → Nat} (hg : HB g n m kd oa ob) (hk : k < 4) (hh : ∀ j, j < k → h j < n ∧ t j < n) (hi : ∀ i j, i < j → j < k → h i ≠ h j) {cs dc cb c1 c2 : Int32} {lo here there pick so la st ma on ot pt mi me pa : Nat → Int32} {wa : Nat → Int64} {Q : Int32 → Int32 → (Nat → Int32) → (Nat → Int64) → Int32 → Int32 → (Nat → Int32) → (Nat → Int32) → (Nat → Int32) → (Nat → Int32) → (Nat → Int32) → Int32 → Int32 → (Nat → Int32) → (Nat → Int32) → Prop}
    (hd : dR (DS kd oa ob n m) so la st ma) (hp : pR (PS g kd oa ob n m) on ot pt) (hhe : ∀ j, j < k → here j = nI (h j)) (hpk : ∀ j, j < k → pick j = nI (pk j) ∧ pk j < 6 ∧ there (pk j) = nI (t j))
    (hQ : ∀ (cs dc cb c1 c2 : Int32) (lo so la st ma mi me pa : Nat → Int32) (wa : Nat → Int64), dR (DS kd oa ob n m) so la st ma → Q (bI (fitP g n m kd oa ob h t k)) cs lo wa dc cb so la st ma mi c1 c2 me pa) : wp_X5_fitsPicked (nI n) (nI k) cs lo wa here there pick dc (nI (DS kd oa ob n m).length) (nI (PS g kd oa ob n m).length) cb so la st ma on ot pt mi c1 c2 me pa Q := by
  have hn := hg.2.2.1
  have hm := hg.2.2.2.1
  have l1 := DS_len kd oa ob n m
  have main : ∀ (d j : Nat) (so la st ma : Nat → Int32), j + d = k → dR (DP (DS kd oa ob n m) h t j) so la st ma → wp_X5_fitsPicked_b7 Q (nI k) here there pick (nI (PS g kd oa ob n m).length) on ot pt (d + 1) (nI n) (nI j) cs lo wa (nI (DP (DS kd oa ob n m) h t j).length) cb so la st ma mi c1 c2 me pa := by
    intro d
    induction d with
    | zero =>
      intro j so la st ma hj hd
      obtain rfl : j = k := by omega
      have hcg := cg_mk (g := g) (oa := oa) (ob := ob) (c := 255) (mt := mtP h t j) hn (fun q r => (hg.2.2.2.2 q r).2.1)
      have hB0 := BD_ok hn (KA g n m kd oa ob 255 (mtP h t j) none) 0 (Nat.two_pow_pos _)
      unfold wp_X5_fitsPicked_b7 wp_X5_fitsPicked_b45
      refine br_t (nI_le (by omega) (by omega)) ?_
      refine s_lay hcg (DG_pairs hg hk hh hi) hd hp (fun lo wa cb mi c1 c2 me pa hl => ?_)
      refine s_allWays hn hl ?_
      have e := BF_all (n := n) (K := KA g n m kd oa ob 255 (mtP h t j) none)
      change ((lg_cmp (lN (wF (ed (KA g n m kd oa ob 255 (mtP h t j) none) n) (2 ^ (2 * n)) (2 ^ (2 * n) - 1))) (lN 0) ≤ nI 0 → _) ∧ (¬ lg_cmp (lN (wF (ed (KA g n m kd oa ob 255 (mtP h t j) none) n) (2 ^ (2 * n)) (2 ^ (2 * n) - 1))) (lN 0) ≤ nI 0 → _))
      rw [← e, z_cmp (by omega)]
      refine br_c (fun z => ?_) (fun z => ?_)
      · have := hQ (nI (3 ^ n)) (nI (DP (DS kd oa ob n m) h t j).length) cb c1 c2 lo so la st ma mi me pa wa (dR_DP j hd)
        unfold fitP at this
        rw [show (wB (ed (KA g n m kd oa ob 255 (mtP h t j) none) n) (2 ^ (2 * n)) 0 != 0) = false from bne_eq_false_iff_eq.mpr z] at this
        exact this
      · have := hQ (nI (3 ^ n)) (nI (DP (DS kd oa ob n m) h t j).length) cb c1 c2 lo so la st ma mi me pa wa (dR_DP j hd)
        unfold fitP at this
        rw [show (wB (ed (KA g n m kd oa ob 255 (mtP h t j) none) n) (2 ^ (2 * n)) 0 != 0) = true from bne_iff_ne.mpr z] at this
        exact this
    | succ d ih =>
      intro j so la st ma hj hd
      obtain ⟨p1, p2, p3⟩ := hpk j (by omega)
      have hlen := DP_len (D := DS kd oa ob n m) (h := h) (t := t) j
      unfold wp_X5_fitsPicked_b7
      rw [nI_clamp (n := j) (by omega), p1, nI_clamp (n := pk j) (by omega), hhe j (by omega), p3, nI_1]
      refine br_f (nI_ge (by omega) (by omega)) ⟨vi (by omega) (by omega), vi (by omega) (by omega), vi (by omega) (by omega), s_takePair (by omega) hd (fun so la st ma hd => ?_)⟩
      exact ih (j + 1) so la st ma (by omega) hd
  unfold wp_X5_fitsPicked wp_X2_dropPairs
  exact ⟨k + 1, main k 0 so la st ma (by omega) hd⟩
