/-! reading: the class -/
theorem d_items {y : Nat → Nat} {L n : Nat} {tx : Nat → Int32} {Q : Int32 → Int32 → Int32 → Int32 → Int32 → Int32 → Int32 → (Nat → Int32) → (Nat → Int32) → (Nat → Int32) → (Nat → Int32) → (Nat → Int32) → (Nat → Int32) → (Nat → Int32) → Prop} (hL : L ≤ 200) (hT : TX y L tx) (hn0 : 0 < n) : ∀ (f i m : Nat) (th sy : Int32) (wh sr wa ck ca cb cy g : Nat → Int32), i ≤ L → 201 ≤ f + tS y L i → f ≤ 200 → (∃ kd oa ob, BK g n m kd oa ob) → HX g n m th sy wh sr wa ck ca cb cy →
    ((pLp y L n f g m i).1 = true → ∀ a b c v th' sy' wh' sr' wa' ck' ca' cb' cy', (∃ kd oa ob, BK (pLp y L n f g m i).2.2.1 n (pLp y L n f g m i).2.2.2 kd oa ob) → HX (pLp y L n f g m i).2.2.1 n (pLp y L n f g m i).2.2.2 th' sy' wh' sr' wa' ck' ca' cb' cy' → Q (-1) a b c v th' sy' wh' sr' wa' ck' ca' cb' cy') →
    ((pLp y L n f g m i).1 = false → ∀ a b c v th' sy' wh' sr' wa' ck' ca' cb' cy', Q (nI (tS y L (pLp y L n f g m i).2.1)) a b c v th' sy' wh' sr' wa' ck' ca' cb' cy') →
    wp_X8_faultIn_b28 Q (nI L) tx (f + 2) 1 (nI (200 - f)) (nI (tE y L i)) (nI (tS y L i)) (nI (tT y L i)) (tV y L i) th sy wh sr wa ck ca cb cy := by
  intro f
  induction f with
  | zero =>
    intro i m th sy wh sr wa ck ca cb cy g hi hf
    have := (tS_ok (y := y) hi).2
    omega
  | succ f ih =>
    intro i m th sy wh sr wa ck ca cb cy g hi hf hf2 hb hx hQ1 hQ0
    obtain ⟨kd, oa, ob, hb⟩ := hb
    rw [pLp] at hQ1 hQ0
    have h5 : tT y L i < 5 := srt_5 y L _
    unfold wp_X8_faultIn_b28
    rw [show ((nI (tT y L i) = (0 : Int32)) = (tT y L i = 0)) from propext (nI_eq (b := 0) (by omega) (by omega)), nI_1]
    refine br_f (nI_ge (b := 200) (by omega) (by omega)) (br_f (by decide) (br_c (fun z => ?_) (fun z => ?_)))
    · rw [if_pos z] at hQ1
      unfold wp_X8_faultIn_b57
      exact br_f (by decide) (hQ1 rfl _ _ _ _ _ _ _ _ _ _ _ _ _ ⟨_, _, _, hb⟩ hx)
    rw [if_neg z] at hQ1 hQ0
    obtain ⟨a1, a2, a3, a4, a5⟩ := pItem_g (y := y) hi hb.1.2.2.2.1 hb.1.1 hb.1.2.1
    have hlt := (tE_ok (y := y) hi).2.2.1 z
    refine c_item hL hT hi hn0 hb hx (fun ok s3 sy' wh' sr' ck' ca' cb' cy' hb' hx' => ?_) (fun bad sy' wh' sr' ck' ca' cb' cy' => ?_)
    · rw [if_pos ⟨ok, s3⟩] at hQ1 hQ0
      have a5 := a5 ok
      have b1 := (tE_ok (y := y) a4).2.2.1 (by omega)
      have b2 := (tE_ok (y := y) a4).2.1
      have b3 := (tS_ok (y := y) b2).1
      have b4 := (tS_ok (y := y) a4).1
      rw [show 200 - (f + 1) + 1 = 200 - f by omega]
      exact ih _ _ _ _ _ _ _ _ _ _ _ _ b2 (by omega) (by omega) hb' hx' hQ1 hQ0
    · rw [if_neg (fun h => bad h.1 h.2)] at hQ0
      have h5 : tT y L (pItem y L n g m i).2.1 < 5 := srt_5 y L _
      have hq : wp_X8_faultIn_b57 Q 0 (nI (tE y L (pItem y L n g m i).2.1)) (nI (tS y L (pItem y L n g m i).2.1)) (nI (tT y L (pItem y L n g m i).2.1)) (tV y L (pItem y L n g m i).2.1) th sy' wh' sr' wa ck' ca' cb' cy' := br_t rfl (hQ0 rfl _ _ _ _ _ _ _ _ _ _ _ _ _)
      unfold wp_X8_faultIn_b28
      exact br_c (fun _ => hq) (fun _ => br_t rfl hq)
theorem upd_upd {g : Nat → Int32} {k : Nat} {a b : Int32} : upd (upd g k a) k b = upd g k b := by
  funext i
  by_cases z : i = k
  · rw [z, pk_us, pk_us]
  · rw [pk_un z, pk_un z, pk_un z]
theorem BK_gcl : BK (upd gcl 0 (nI 0)) 0 0 (fun _ => 0) (fun _ => 0) (fun _ => 0) := by
  have e : ∀ i, i ≠ 0 → upd gcl 0 (nI 0) i = gcl i := fun i hi => pk_un hi
  refine ⟨⟨pk_us, by rw [e _ (by omega)]; rfl, by omega, by omega, fun k hk => absurd hk (Nat.not_lt_zero k)⟩, fun t h1 h2 => ?_, fun x h1 h2 => ?_, fun t ht => absurd ht (Nat.not_lt_zero t), fun x hx => Or.inl ?_⟩
  · rw [e _ (by omega), e _ (by omega)]
    unfold gcl
    rw [if_pos (by omega), if_neg (by omega)]
    exact ⟨rfl, rfl⟩
  · rw [e _ (by omega)]
    unfold gcl
    rw [if_pos (by omega)]
  · rw [e _ (by omega)]
    unfold gcl
    rw [if_pos (by omega)]
theorem d_heading {y : Nat → Nat} {L : Nat} {tx wh sr wa ck ca cb cy : Nat → Int32} {Q : Int32 → Int32 → Int32 → Int32 → Int32 → Int32 → (Nat → Int32) → (Nat → Int32) → (Nat → Int32) → Prop} (hL : L ≤ 200) (hT : TX y L tx)
    (hQ1 : wd y L 0 8 = true → fgB y L (tE y L 0) 7 = true → tV y L (tE y L 0) ≠ 0 → tT y L (tE y L (tE y L 0)) = 3 → ∀ th' wh' sr' wa', BK (upd gcl 0 (nI (pN y L))) (pN y L) 0 (fun _ => 0) (fun _ => 0) (fun _ => 0) → HX (upd gcl 0 (nI (pN y L))) (pN y L) 0 th' 0 wh' sr' wa' ck ca cb cy → Q 1 (nI (tE y L (tE y L (tE y L (tE y L 0))))) (nI (tS y L (tE y L (tE y L (tE y L 0))))) (nI (tT y L (tE y L (tE y L (tE y L 0))))) (tV y L (tE y L (tE y L (tE y L 0)))) th' wh' sr' wa')
    (hQ0 : ∀ j, (wd y L 0 8 = false → j = 0) → (wd y L 0 8 = true → (fgB y L (tE y L 0) 7 = false ∨ tV y L (tE y L 0) = 0) → j = tE y L 0) → (wd y L 0 8 = true → fgB y L (tE y L 0) 7 = true → tV y L (tE y L 0) ≠ 0 → j = tE y L (tE y L 0) ∧ tT y L (tE y L (tE y L 0)) ≠ 3) → ∀ th' wh' sr' wa', Q 0 (nI (tE y L j)) (nI (tS y L j)) (nI (tT y L j)) (tV y L j) th' wh' sr' wa') : wp_X8_heading (nI (tE y L 0)) (nI (tS y L 0)) (nI (tT y L 0)) (tV y L 0) 0 wh sr wa (nI L) tx Q := by
  have l0 : 0 ≤ L := Nat.zero_le _
  have l1 := (tE_ok (y := y) l0).2.1
  have l2 := (tE_ok (y := y) l1).2.1
  unfold wp_X8_heading
  refine c_word (w := 8) hL hT l0 rfl (fun w1 => br_f (by decide) ?_) (fun w1 => br_t rfl (hQ0 0 (fun _ => rfl) (fun h => by rw [w1] at h; cases h) (fun h => by rw [w1] at h; cases h) _ _ _ _))
  refine c_number1 hL hT l1 (fun f1 f2 => ?_) (fun f1 => ?_)
  case refine_2 =>
    refine ⟨1, ?_⟩
    unfold wp_X8_heading_b21 wp_X8_heading_b40
    exact br_t (by decide) (br_t (by decide) (hQ0 _ (fun h => by rw [w1] at h; cases h) (fun _ _ => rfl) (fun _ h1 h2 => False.elim (f1.elim (fun q => by rw [q] at h1; cases h1) (fun q => h2 q))) _ _ _ _))
  obtain ⟨n, hn, en⟩ := fgB_c (by omega) f1
  have eP : pN y L = n := by unfold pN; rw [en, nI_clamp (by omega)]
  have n0 : 0 < n := by
    rcases Nat.eq_zero_or_pos n with q | q
    · rw [q] at en; exact absurd en f2
    · exact q
  rw [eP] at hQ1
  have main : ∀ (d k : Nat) (wh sr wa : Nat → Int32), k + d = n → BK (upd gcl 0 (nI k)) k 0 (fun _ => 0) (fun _ => 0) (fun _ => 0) → HX (upd gcl 0 (nI k)) k 0 (nI k) 0 wh sr wa ck ca cb cy → wp_X8_heading_b21 Q (nI L) tx (d + 1) (nI n) (nI k) (nI (tE y L (tE y L (tE y L 0)))) (nI (tS y L (tE y L (tE y L 0)))) (nI (tT y L (tE y L (tE y L 0)))) (tV y L (tE y L (tE y L 0))) (nI k) wh sr wa := by
    intro d
    induction d with
    | zero =>
      intro k wh sr wa hk hb hx
      obtain rfl : k = n := by omega
      unfold wp_X8_heading_b21 wp_X8_heading_b40
      refine br_t (nI_le (by omega) (by omega)) (br_f (nI_nle (by omega) (by omega)) (c_stop hL hT l2 (fun s3 => br_f (by decide) ?_) (fun s3 => br_t rfl ?_)))
      · exact hQ1 w1 f1 f2 s3 _ _ _ _ hb hx
      · exact hQ0 _ (fun h => by rw [w1] at h; cases h) (fun _ h => by
          rcases h with q | q
          · rw [q] at f1; cases f1
          · exact absurd q f2) (fun _ _ _ => ⟨rfl, s3⟩) _ _ _ _
    | succ d ih =>
      intro k wh sr wa hk hb hx
      have hx2 := HX_thing hb hx (by omega)
      have hb2 := BK_thing hb (show k < 6 by omega)
      rw [upd_upd] at hx2 hb2
      unfold wp_X8_heading_b21 wp_X4_addThing
      rw [show (2 : Int32) = nI 2 from rfl, pk_mul, nI_1, nI_1, nI_clamp (n := k) (by omega), nI_clamp (n := 2 * k) (by omega), nI_clamp (n := 2 * k + 1) (by omega)]
      exact br_f (nI_ge (by omega) (by omega)) ⟨vi (by omega) (by omega), vi (by omega) (by omega), vi (by omega) (by omega), vi (by omega) (by omega), ih (k + 1) _ _ _ (by omega) hb2 hx2⟩
  rw [en]
  exact ⟨_, main n 0 wh sr wa (by omega) BK_gcl ⟨rfl, rfl, fun t ht => absurd ht (Nat.not_lt_zero t), fun x hx => absurd hx (by omega), fun k hk => absurd hk (Nat.not_lt_zero k)⟩⟩
theorem d_fault {y : Nat → Nat} {L : Nat} {a1 a2 a3 a4 th sy : Int32} {tx wh sr wa ck ca cb cy : Nat → Int32} {Q : Int32 → Int32 → Int32 → Int32 → Int32 → Int32 → Int32 → (Nat → Int32) → (Nat → Int32) → (Nat → Int32) → (Nat → Int32) → (Nat → Int32) → (Nat → Int32) → (Nat → Int32) → Prop} (hL : L ≤ 200) (hT : TX y L tx)
    (hQ1 : (pRd y L).1 = true → ∀ a b c v th' sy' wh' sr' wa' ck' ca' cb' cy', (∃ kd oa ob, BK (pRd y L).2.2.1 (pN y L) (pRd y L).2.2.2 kd oa ob) → HX (pRd y L).2.2.1 (pN y L) (pRd y L).2.2.2 th' sy' wh' sr' wa' ck' ca' cb' cy' → Q (-1) a b c v th' sy' wh' sr' wa' ck' ca' cb' cy')
    (hQ0 : (pRd y L).1 = false → ∀ a b c v th' sy' wh' sr' wa' ck' ca' cb' cy', Q (nI (tS y L (pRd y L).2.1)) a b c v th' sy' wh' sr' wa' ck' ca' cb' cy') : wp_X8_faultIn a1 a2 a3 a4 th sy wh sr wa ck ca cb cy (nI L) tx Q := by
  have l0 : 0 ≤ L := Nat.zero_le _
  have l1 := (tE_ok (y := y) l0).2.1
  have l2 := (tE_ok (y := y) l1).2.1
  have l3 := (tE_ok (y := y) l2).2.1
  unfold wp_X8_faultIn wp_X4_empty
  refine c_adv (i := 0) hL hT l0 (d_heading (ck := ck) (ca := ca) (cb := cb) (cy := cy) hL hT (fun w1 f1 f2 s3 th' wh' sr' wa' hb hx => ?_) (fun j j1 j2 j3 th' wh' sr' wa' => ?_))
  · unfold pRd at hQ1 hQ0
    rw [if_pos w1, if_pos ⟨f1, f2⟩, if_pos s3] at hQ1 hQ0
    have b1 := (tE_ok (y := y) l2).2.2.1 (by omega)
    have b3 := (tS_ok (y := y) l3).1
    have n0 : 0 < pN y L := by
      obtain ⟨n, hn, en⟩ := fgB_c (by omega) f1
      have eP : pN y L = n := by unfold pN; rw [en, nI_clamp (by omega)]
      rw [eP]
      rcases Nat.eq_zero_or_pos n with q | q
      · rw [q] at en; exact absurd en f2
      · exact q
    exact ⟨202, d_items hL hT n0 200 _ 0 _ _ _ _ _ _ _ _ _ _ l3 (by omega) (by omega) ⟨_, _, _, hb⟩ hx hQ1 hQ0⟩
  · have ej : (pRd y L).1 = false ∧ (pRd y L).2.1 = j := by
      unfold pRd
      by_cases w1 : wd y L 0 8 = true
      case neg => rw [if_neg w1]; exact ⟨rfl, (j1 (Bool.eq_false_iff.mpr w1)).symm⟩
      rw [if_pos w1]
      by_cases f1 : fgB y L (tE y L 0) 7 = true ∧ tV y L (tE y L 0) ≠ 0
      case neg =>
        rw [if_neg f1]
        refine ⟨rfl, (j2 w1 ?_).symm⟩
        by_cases q : fgB y L (tE y L 0) 7 = true
        · exact Or.inr (Classical.not_not.mp (fun h => f1 ⟨q, h⟩))
        · exact Or.inl (Bool.eq_false_iff.mpr q)
      rw [if_pos f1]
      obtain ⟨e1, e2⟩ := j3 w1 f1.1 f1.2
      rw [if_neg e2]
      exact ⟨rfl, e1.symm⟩
    have h5 : tT y L j < 5 := srt_5 y L _
    have hq0 := hQ0 ej.1
    rw [ej.2] at hq0
    refine ⟨1, ?_⟩
    unfold wp_X8_faultIn_b28 wp_X8_faultIn_b57
    exact br_f (by decide) (br_t rfl (br_t rfl (hq0 _ _ _ _ _ _ _ _ _ _ _ _ _)))
theorem d_read {y : Nat → Nat} {L : Nat} {q1 q2 q3 q4 h0 h1 a1 a2 a3 a4 th sy : Int32} {tx b1 b2 b3 b4 b5 b6 b7 wh sr wa ck ca cb cy : Nat → Int32} {Q : Int32 → Int32 → Int32 → Int32 → Int32 → Int32 → Int32 → (Nat → Int32) → (Nat → Int32) → (Nat → Int32) → (Nat → Int32) → (Nat → Int32) → (Nat → Int32) → (Nat → Int32) → Int32 → Int32 → Int32 → Int32 → Int32 → Int32 → (Nat → Int32) → (Nat → Int32) → (Nat → Int32) → (Nat → Int32) → (Nat → Int32) → (Nat → Int32) → (Nat → Int32) → Prop} (hL : L ≤ 200) (hT : TX y L tx)
    (hQ1 : (pRd y L).1 = true → ∀ th0 sy0 wh0 sr0 wa0 ck0 ca0 cb0 cy0 a b c v th' sy' wh' sr' wa' ck' ca' cb' cy', (∃ kd oa ob, BK (pRd y L).2.2.1 (pN y L) (pRd y L).2.2.2 kd oa ob) → HX (pRd y L).2.2.1 (pN y L) (pRd y L).2.2.2 th0 sy0 wh0 sr0 wa0 ck0 ca0 cb0 cy0 → Q (nI (pRd y L).2.2.2) 0 0 0 0 th0 sy0 wh0 sr0 wa0 ck0 ca0 cb0 cy0 a b c v th' sy' wh' sr' wa' ck' ca' cb' cy')
    (hQ0 : (pRd y L).1 = false → ∀ a b c v th' sy' wh' sr' wa' ck' ca' cb' cy', Q ((-10 : Int32) - nI (tS y L (pRd y L).2.1)) q1 q2 q3 q4 h0 h1 b1 b2 b3 b4 b5 b6 b7 a b c v th' sy' wh' sr' wa' ck' ca' cb' cy') (hj : (pRd y L).2.1 ≤ L) : wp_X10_read q1 q2 q3 q4 h0 h1 b1 b2 b3 b4 b5 b6 b7 (nI L) tx a1 a2 a3 a4 th sy wh sr wa ck ca cb cy Q := by
  unfold wp_X10_read
  refine d_fault hL hT (fun ok a b c v th' sy' wh' sr' wa' ck' ca' cb' cy' hb hx => ?_) (fun bad a b c v th' sy' wh' sr' wa' ck' ca' cb' cy' => ?_)
  · have e : sy' = nI (pRd y L).2.2.2 := hx.2.1
    obtain ⟨kd, oa, ob, hb⟩ := hb
    refine br_t rfl (d_copy (fun wh0 sr0 wa0 ck0 ca0 cb0 cy0 c1 c2 c3 => ?_))
    unfold wp_X10_changed
    have hx0 := HX_copy hb.1.2.2.1 hb.1.2.2.2.1 hx (fun _ _ => rfl) c1 c2 c3
    have := hQ1 ok th' sy' wh0 sr0 wa0 ck0 ca0 cb0 cy0 a b c v th' sy' wh' sr' wa' ck' ca' cb' cy' ⟨_, _, _, hb⟩ hx0
    rw [← e] at this
    exact this
  · have h2 := (tS_ok (y := y) hj).2
    exact br_f (nm1 (by omega)) (hQ0 bad _ _ _ _ _ _ _ _ _ _ _ _ _)
