/-! the class's clock: on, and back -/
theorem pL_idx {s c : Nat} (h : sb c s = true) (h12 : c < 4096) (h0 : c ≠ 0) : ∃ q, 0 < q ∧ q < (pL s 12).length ∧ (pL s 12).getD q 0 = c := by
  obtain ⟨q, hq, he⟩ := List.mem_iff_getElem.mp ((pL_mem s 12 c).mpr ⟨h12, h⟩)
  have hg : (pL s 12).getD q 0 = c := by rw [List.getD_eq_getElem?_getD, List.getElem?_eq_getElem hq]; exact he
  refine ⟨q, ?_, hq, hg⟩
  rcases Nat.eq_zero_or_pos q with z | z
  · rw [z, pL_0] at hg; exact absurd hg.symm h0
  · exact z
theorem bit_lt {s N e : Nat} (h : s < 2 ^ N) (hb : s.testBit e = true) : e < N := by
  rcases Nat.lt_or_ge e N with q | q
  · exact q
  · rw [Nat.testBit_lt_two_pow (Nat.lt_of_lt_of_le h (Nat.pow_le_pow_right (by decide) q))] at hb; cases hb
/-- take and findTold, at a place -/
theorem s_takeTold {n : Nat} {K : Nat → Nat → Bool} {br : Nat → Bool} {lw : Nat → Nat} (h : CG n K br lw) {w : Nat → Nat} {i : Nat} {told wa me pa : Nat → Int32} {c1 c2 : Int32} {Q : Int32 → Int32 → (Nat → Int32) → (Nat → Int32) → (Nat → Int32) → Prop} (hi : i < 3 ^ n) (hw : ∀ e, e < 12 → w e ≤ 100) (hwa : ∀ e, e < 2 * n → wa e = mI (w e))
    (hQ : ∀ (me pa told : Nat → Int32), (∀ q, q < (pL (lw (sAt i)) 12).length → pa q = nI ((pL (lw (sAt i)) 12).getD q 0) ∧ told q = mI (tl w ((pL (lw (sAt i)) 12).getD q 0) 12)) → Q (nI (pE (lw (sAt i)) 12).length) (nI (pL (lw (sAt i)) 12).length) me pa told) : wp_X7_take (nI (lw (sAt i))) c1 c2 me pa (fun c1 c2 me pa => wp_X1_findTold told c1 me wa (fun told => Q c1 c2 me pa told)) := by
  have h3 := p3_le h.1
  have h4 := p4_le h.1
  have hn := h.1
  have hs := sAt_all i (by omega)
  have hN := (sAt_lt_N h.1 (by omega)).mpr hi
  have hl := cg_lw h hN hs.2.2
  refine t_take (by omega) hl.2 (fun me pa h5 h6 => ?_)
  refine s_findTold (w := w) (E := fun j => (pE (lw (sAt i)) 12).getD j 0) hl.2 (fun j hj => ?_) (fun told ht => hQ me pa told (fun q hq => ⟨h6 q hq, ?_⟩))
  · have g := pE_get (lw (sAt i)) 12 j hj
    have g2 := bit_lt hl.1 g.2
    exact ⟨h5 j hj, g.1, hwa _ g2, hw _ g.1⟩
  · obtain ⟨t, e1, e2⟩ := ht q (by rw [← pL_len]; exact hq)
    rw [e1, told_part (fun j _ => rfl) hw hq e2]
theorem s_goOnTo {n : Nat} {K : Nat → Nat → Bool} {br : Nat → Bool} {lw : Nat → Nat} (h : CG n K br lw) {w : Nat → Nat} {i : Nat} {le told lo wa me pa : Nat → Int32} {c1 c2 : Int32} {Q : (Nat → Int32) → (Nat → Int32) → Int32 → Int32 → (Nat → Int32) → (Nat → Int32) → Prop} (hi : i < 3 ^ n) (hi0 : 0 < i) (hb : br (sAt i) = false) (hlo : lo i = nI (lw (sAt i))) (hw : ∀ e, e < 12 → w e ≤ 100) (hwa : ∀ e, e < 2 * n → wa e = mI (w e)) (hle : ∀ j, j < i → le j = mI (sn K w n (sAt j))) (hli : le i = mI 101)
    (hQ : ∀ (le' told : Nat → Int32) (c1 c2 : Int32) (me pa : Nat → Int32), (∀ j, j ≠ i → le' j = le j) → le' i = mI (sn K w n (sAt i)) → Q le' told c1 c2 me pa) : wp_X1_goOnTo (nI i) le told lo c1 c2 me pa wa Q := by
  have h3 := p3_le h.1
  have h4 := p4_le h.1
  have hs := sAt_all i (by omega)
  have hN := (sAt_lt_N h.1 (by omega)).mpr hi
  have hl := cg_lw h hN hs.2.2
  have hlen := cg_len h hN hs.2.2
  have hv0 : sAt i ≠ 0 := fun z => by have := sAt_mono hi0 (by omega : i < 729); rw [sAt_0] at this; omega
  unfold wp_X1_goOnTo
  rw [e_setAt (by omega)]
  refine ⟨vi (by omega) (by omega), ?_⟩
  rw [nI_clamp (by omega), hlo]
  refine s_takeTold h hi hw hwa (fun me pa told hq => ?_)
  have main : ∀ (d k : Nat) (le' : Nat → Int32) (m : Nat), k + d = (pL (lw (sAt i)) 12).length → 1 ≤ k → (∀ j, j ≠ i → le' j = le j) → le' i = mI m → IM (fun x => ∃ q, 0 < q ∧ q < k ∧ x = ee (sn K w n (sAt i - (pL (lw (sAt i)) 12).getD q 0)) (tl w ((pL (lw (sAt i)) 12).getD q 0) 12)) m → wp_X1_goOnTo_b26 Q (d + 1) (nI i) (nI (sAt i)) (nI k) le' told (nI (pE (lw (sAt i)) 12).length) (nI (pL (lw (sAt i)) 12).length) me pa := by
    intro d
    induction d with
    | zero =>
      intro k le' m hk h1 g1 g2 g3
      unfold wp_X1_goOnTo_b26
      refine br_t (nI_le (by omega) (by omega)) (hQ _ _ _ _ _ _ g1 ?_)
      have hIM := sn_IM (K := K) (w := w) (n := n) hv0
      rw [g2, IM_u g3 hIM (fun x hx hx' => ?_) (fun x hx hx' => ?_)]
      · obtain ⟨q, q0, ql, e⟩ := hx'
        obtain ⟨p1, p2, p3, p4, p5, p6, p7⟩ := cg_part h hi (by omega : q < (pL (lw (sAt i)) 12).length) q0
        have hbr := sn_br h (sAt i - (pL (lw (sAt i)) 12).getD q 0) (by omega) (ee_lt (by rw [← e]; exact hx))
        refine ⟨sAt i - (pL (lw (sAt i)) 12).getD q 0, by omega, ?_, ?_⟩
        · rw [show sAt i - (sAt i - (pL (lw (sAt i)) 12).getD q 0) = (pL (lw (sAt i)) 12).getD q 0 by omega]
          exact ed_of h hN hs.2.2 hb p7 p6 hbr.2
        · rw [show sAt i - (sAt i - (pL (lw (sAt i)) 12).getD q 0) = (pL (lw (sAt i)) 12).getD q 0 by omega]; exact e
      · obtain ⟨s, s1, s2, e⟩ := hx'
        have hbr := sn_br h s (by omega) (ee_lt (by rw [← e]; exact hx))
        obtain ⟨o1, o2, o3, o4, o5⟩ := of_ed h (by omega) hbr.2 s2
        rw [show s + (sAt i - s) = sAt i by omega] at o2
        obtain ⟨q, q0, ql, qe⟩ := pL_idx o2 (by omega) o3
        refine ⟨q, q0, by omega, ?_⟩
        rw [qe, show sAt i - (sAt i - s) = s by omega]; exact e
    | succ d ih =>
      intro k le' m hk h1 g1 g2 g3
      obtain ⟨p1, p2, p3, p4, p5, p6, p7⟩ := cg_part h hi (by omega : k < (pL (lw (sAt i)) 12).length) (by omega)
      obtain ⟨u1, u2⟩ := hq k (by omega)
      have ht := tl_le (w := w) (M := (pL (lw (sAt i)) 12).getD k 0) hw
      have hP : ∀ x0 : Nat, x0 = ee (sn K w n (sAt i - (pL (lw (sAt i)) 12).getD k 0)) (tl w ((pL (lw (sAt i)) 12).getD k 0) 12) → IM (fun x => ∃ q, 0 < q ∧ q < k + 1 ∧ x = ee (sn K w n (sAt i - (pL (lw (sAt i)) 12).getD q 0)) (tl w ((pL (lw (sAt i)) 12).getD q 0) 12)) (min m x0) := by
        intro x0 hx0
        refine IM_min g3 (fun y => ?_)
        constructor
        · rintro ⟨q, q0, ql, e⟩
          by_cases z : q = k
          · subst z; exact Or.inr (by rw [hx0]; exact e)
          · exact Or.inl ⟨q, q0, by omega, e⟩
        · rintro (⟨q, q0, ql, e⟩ | e)
          · exact ⟨q, q0, by omega, e⟩
          · exact ⟨k, by omega, by omega, by rw [e, hx0]⟩
      have hm := g3.1
      unfold wp_X1_goOnTo_b26 wp_X1_goOnTo_b122
      rw [nI_clamp (n := k) (by omega), u1, u2, p1, e_placeOf p2, nI_clamp (n := i) (by omega), g2, nI_clamp (n := pOf _) (by omega), g1 _ (by omega), hle _ p3, p4]
      have ix : vp_in (nI i) 729 := vi (by omega) (by omega)
      have ik : vp_in (nI k) 64 := vi (by omega) (by omega)
      refine br_f (nI_ge (by omega) (by omega)) ⟨ik, vi (by omega) (by omega), nm_e ⟨ik, ?_⟩⟩
      have hsn := sn_le (K := K) (w := w) (n := n) (v := sAt i - (pL (lw (sAt i)) 12).getD k 0)
      generalize tl w ((pL (lw (sAt i)) 12).getD k 0) 12 = t at *
      generalize sn K w n (sAt i - (pL (lw (sAt i)) 12).getD k 0) = a at *
      have go : ∀ (x0 : Nat), min m x0 = min m (ee a t) → wp_X1_goOnTo_b26 Q (d + 1) (nI i) (nI (sAt i)) (nI (k + 1)) (upd le' i (mI (min m x0))) told (nI (pE (lw (sAt i)) 12).length) (nI (pL (lw (sAt i)) 12).length) me pa := by
        intro x0 hx0
        refine ih (k + 1) _ (min m x0) (by omega) (by omega) (fun j hj => ?_) pk_us ?_
        · rw [pk_un hj]; exact g1 j hj
        · rw [hx0]; exact hP _ rfl
      have mm : ∀ u v : Nat, u ≤ 102 → v ≤ 101 → (if mI u < mI v then mI u else mI v) = mI (min v u) := fun u v hu hv => by
        by_cases q : u < v
        · rw [if_pos ((mI_lt (by omega) (by omega)).mpr q), Nat.min_eq_right (by omega)]
        · rw [if_neg (fun z => q ((mI_lt (by omega) (by omega)).mp z)), Nat.min_eq_left (by omega)]
      rw [mI_1, mI_z (by omega), mm _ _ (by omega) hm, mm _ _ (by omega) hm, mI_lt (by omega) (by omega), nI_1]
      refine br_c (fun z => ⟨ix, nm_e ⟨ix, ?_⟩⟩) (fun z => ⟨ik, br_c (fun z2 => ?_) (fun z2 => ⟨ix, ik, nm_e ⟨ix, ?_⟩⟩)⟩)
      · exact go (a + 1) (by unfold ee; rw [if_pos z])
      · have := ih (k + 1) le' m (by omega) (by omega) g1 g2
        refine this ?_
        have e := hP _ rfl
        unfold ee at e
        rw [if_neg z, if_neg (by omega), Nat.min_eq_left hm] at e
        exact e
      · exact go t (by unfold ee; rw [if_neg z, if_pos (by omega)])
  refine ⟨_, main ((pL (lw (sAt i)) 12).length - 1) 1 le 101 (by omega) (by omega) (fun _ _ => rfl) hli ⟨by omega, fun x ⟨q, q0, ql, _⟩ => by omega, fun z => by omega⟩⟩
