/-! an item: the class -/
theorem c_put {y : Nat → Nat} {L n m j : Nat} {a k b v th sy : Int32} {tx wh sr wa ck ca cb cy g : Nat → Int32} {kd oa ob : Nat → Nat} {Q : Int32 → Int32 → Int32 → Int32 → Int32 → Int32 → (Nat → Int32) → (Nat → Int32) → (Nat → Int32) → (Nat → Int32) → Prop} (hL : L ≤ 200) (hT : TX y L tx) (hj : j ≤ L) (hn : n < 7) (hm : m < 8) (hv : ¬ v < 0) (hb : BK g n m kd oa ob) (hx : HX g n m th sy wh sr wa ck ca cb cy) (ok : okSay a k b v n = true)
    (hQ1 : tT y L j = 3 → ∀ sy' ck' ca' cb' cy', (∃ kd oa ob, BK (gSay g m a k b v) n (m + 1) kd oa ob) → HX (gSay g m a k b v) n (m + 1) th sy' wh sr wa ck' ca' cb' cy' → Q 1 (nI (tE y L (tE y L j))) (nI (tS y L (tE y L j))) (nI (tT y L (tE y L j))) (tV y L (tE y L j)) sy' ck' ca' cb' cy')
    (hQ0 : tT y L j ≠ 3 → ∀ sy' ck' ca' cb' cy', Q 0 (nI (tE y L j)) (nI (tS y L j)) (nI (tT y L j)) (tV y L j) sy' ck' ca' cb' cy') : wp_X8_saying_b97 Q (nI L) tx a k b v (nI (tE y L j)) (nI (tS y L j)) (nI (tT y L j)) (tV y L j) sy ck ca cb cy := by
  unfold wp_X8_saying_b97
  refine br_f hv (c_stop hL hT hj (fun z => br_f (by decide) ?_) (fun z => br_t rfl (hQ0 z _ _ _ _ _)))
  unfold wp_X4_addSaying
  have e : sy = nI m := hx.2.1
  have hx2 := HX_say (a := a) (k := k) (b := b) (y := v) hm hn hx
  have hb2 := BK_say hm hb ok
  rw [e, nI_clamp (by omega), nI_1]
  exact ⟨vi (by omega) (by omega), vi (by omega) (by omega), vi (by omega) (by omega), vi (by omega) (by omega), hQ1 z _ _ _ _ _ ⟨_, _, _, hb2⟩ hx2⟩
theorem c_saying {y : Nat → Nat} {L n m i : Nat} {th sy : Int32} {tx wh sr wa ck ca cb cy g : Nat → Int32} {kd oa ob : Nat → Nat} {Q : Int32 → Int32 → Int32 → Int32 → Int32 → Int32 → (Nat → Int32) → (Nat → Int32) → (Nat → Int32) → (Nat → Int32) → Prop} (hL : L ≤ 200) (hT : TX y L tx) (hi : i ≤ L) (hn0 : 0 < n) (hb : BK g n m kd oa ob) (hx : HX g n m th sy wh sr wa ck ca cb cy)
    (hQ1 : (pSay y L n g m i).1 = true → tT y L (pSay y L n g m i).2.1 = 3 → ∀ sy' ck' ca' cb' cy', (∃ kd oa ob, BK (pSay y L n g m i).2.2.1 n (pSay y L n g m i).2.2.2 kd oa ob) → HX (pSay y L n g m i).2.2.1 n (pSay y L n g m i).2.2.2 th sy' wh sr wa ck' ca' cb' cy' → Q 1 (nI (tE y L (tE y L (pSay y L n g m i).2.1))) (nI (tS y L (tE y L (pSay y L n g m i).2.1))) (nI (tT y L (tE y L (pSay y L n g m i).2.1))) (tV y L (tE y L (pSay y L n g m i).2.1)) sy' ck' ca' cb' cy')
    (hQ0 : ((pSay y L n g m i).1 = true → tT y L (pSay y L n g m i).2.1 ≠ 3) → ∀ sy' ck' ca' cb' cy', Q 0 (nI (tE y L (pSay y L n g m i).2.1)) (nI (tS y L (pSay y L n g m i).2.1)) (nI (tT y L (pSay y L n g m i).2.1)) (tV y L (pSay y L n g m i).2.1) sy' ck' ca' cb' cy') : wp_X8_saying (nI (tE y L i)) (nI (tS y L i)) (nI (tT y L i)) (tV y L i) th sy ck ca cb cy (nI L) tx Q := by
  have l1 := (tE_ok (y := y) hi).2.1
  have l2 := (tE_ok (y := y) l1).2.1
  have l3 := (tE_ok (y := y) l2).2.1
  have l4 := (tE_ok (y := y) l3).2.1
  have l5 := (tE_ok (y := y) l4).2.1
  have hn := hb.1.2.2.1
  have hm := hb.1.2.2.2.1
  have e1 : th = nI n := hx.1
  have e2 : sy = nI m := hx.2.1
  have eN : th - 1 = nI (n - 1) := by rw [e1]; exact pk_sub (b := 1) (by omega)
  have no : (false = true) → False := by decide
  unfold wp_X8_saying
  unfold pSay at hQ1 hQ0
  rw [show ((sy < (8 : Int32)) = (m < 8)) from by rw [e2]; exact propext (nI_ltI (b := 8) (by omega) (by omega))]
  refine br_c (fun z => ?_) (fun z => ?_)
  case refine_2 =>
    rw [if_pos (by omega)] at hQ0
    exact hQ0 (fun q => (no q).elim) _ _ _ _ _
  rw [if_neg (by omega)] at hQ1 hQ0
  refine c_number hL hT hi rfl hn0 (by omega) eN (fun f1 => ?_) (fun f1 => ?_)
  case refine_2 =>
    rw [if_neg (by rw [f1]; decide)] at hQ0
    unfold wp_X8_saying_b41
    exact br_f (by decide) (br_t (by decide) (hQ0 (fun q => (no q).elim) _ _ _ _ _))
  rw [if_pos f1] at hQ1 hQ0
  obtain ⟨a, ha, ea⟩ := fgB_c (by omega) f1
  refine br_t (by rw [ea]; exact nI_pos' (by omega)) (c_kind hL hT l1 (fun k1 => ?_) (fun k1 => ?_))
  case refine_2 =>
    rw [if_neg (by rw [k1]; decide)] at hQ0
    unfold wp_X8_saying_b41
    exact br_t (by decide) (hQ0 (fun q => (no q).elim) _ _ _ _ _)
  rw [if_pos k1] at hQ1 hQ0
  obtain ⟨k, hk, ek⟩ := kdB_c k1
  unfold wp_X8_saying_b41
  refine br_f (by rw [ek]; exact nI_pos (by omega)) (br_c (fun z2 => ?_) (fun z2 => ?_))
  · rw [if_neg (fun h => h.2 z2)] at hQ0
    exact hQ0 (fun q => (no q).elim) _ _ _ _ _
  refine c_number hL hT l2 rfl hn0 (by omega) eN (fun f2 => ?_) (fun f2 => ?_)
  case refine_2 =>
    rw [if_neg (fun h => no (f2 ▸ h.1))] at hQ0
    exact br_f (by decide) (hQ0 (fun q => (no q).elim) _ _ _ _ _)
  rw [if_pos ⟨f2, z2⟩] at hQ1 hQ0
  obtain ⟨b, hb2, eb⟩ := fgB_c (by omega) f2
  have hne : a ≠ b := fun q => z2 (by rw [eb, ea, q])
  refine br_t (by rw [eb]; exact nI_pos' (by omega)) (c_word (w := 11) hL hT l3 rfl (fun w1 => br_f (by decide) ?_) (fun w1 => br_t rfl ?_))
  case refine_2 =>
    rw [if_neg (by rw [w1]; decide)] at hQ1 hQ0
    refine c_put hL hT l3 hn z (by decide) hb hx ?_ (fun s3 => hQ1 rfl s3) (fun s3 => hQ0 (fun _ => s3))
    unfold okSay
    rw [ea, eb, ek, iN_n ha, iN_n hb2, iN_n hk, show iN (0 : Int32) 4 = true from iN_n (e := 0) (by omega), decide_eq_false (fun q => hne ((nI_eq (by omega) (by omega)).mp q))]
    rfl
  rw [if_pos w1] at hQ1 hQ0
  refine c_number (N := 4) hL hT l4 rfl (by omega) (by omega) rfl (fun f3 => ?_) (fun f3 => ?_)
  case refine_2 =>
    rw [if_neg (by rw [f3]; decide)] at hQ0
    unfold wp_X8_saying_b97
    exact br_t (by decide) (hQ0 (fun q => (no q).elim) _ _ _ _ _)
  rw [if_pos f3] at hQ1 hQ0
  obtain ⟨v, hv, ev⟩ := fgB_c (by omega) f3
  refine c_put hL hT l5 hn z (by rw [ev]; exact nI_pos (by omega)) hb hx ?_ (fun s3 => hQ1 rfl s3) (fun s3 => hQ0 (fun _ => s3))
  unfold okSay
  rw [ea, eb, ek, ev, iN_n ha, iN_n hb2, iN_n hk, iN_n hv, decide_eq_false (fun q => hne ((nI_eq (by omega) (by omega)).mp q))]
  rfl
theorem c_item {y : Nat → Nat} {L n m i : Nat} {th sy : Int32} {tx wh sr wa ck ca cb cy g : Nat → Int32} {kd oa ob : Nat → Nat} {Q : Int32 → Int32 → Int32 → Int32 → Int32 → Int32 → (Nat → Int32) → (Nat → Int32) → (Nat → Int32) → (Nat → Int32) → (Nat → Int32) → (Nat → Int32) → Prop} (hL : L ≤ 200) (hT : TX y L tx) (hi : i ≤ L) (hn0 : 0 < n) (hb : BK g n m kd oa ob) (hx : HX g n m th sy wh sr wa ck ca cb cy)
    (hQ1 : (pItem y L n g m i).1 = true → tT y L (pItem y L n g m i).2.1 = 3 → ∀ sy' wh' sr' ck' ca' cb' cy', (∃ kd oa ob, BK (pItem y L n g m i).2.2.1 n (pItem y L n g m i).2.2.2 kd oa ob) → HX (pItem y L n g m i).2.2.1 n (pItem y L n g m i).2.2.2 th sy' wh' sr' wa ck' ca' cb' cy' → Q 1 (nI (tE y L (tE y L (pItem y L n g m i).2.1))) (nI (tS y L (tE y L (pItem y L n g m i).2.1))) (nI (tT y L (tE y L (pItem y L n g m i).2.1))) (tV y L (tE y L (pItem y L n g m i).2.1)) sy' wh' sr' ck' ca' cb' cy')
    (hQ0 : ((pItem y L n g m i).1 = true → tT y L (pItem y L n g m i).2.1 ≠ 3) → ∀ sy' wh' sr' ck' ca' cb' cy', Q 0 (nI (tE y L (pItem y L n g m i).2.1)) (nI (tS y L (pItem y L n g m i).2.1)) (nI (tT y L (pItem y L n g m i).2.1)) (tV y L (pItem y L n g m i).2.1) sy' wh' sr' ck' ca' cb' cy') : wp_X8_item (nI (tE y L i)) (nI (tS y L i)) (nI (tT y L i)) (tV y L i) th sy wh sr ck ca cb cy (nI L) tx Q := by
  have l1 := (tE_ok (y := y) hi).2.1
  have l2 := (tE_ok (y := y) l1).2.1
  have l3 := (tE_ok (y := y) l2).2.1
  have h5 : tT y L i < 5 := srt_5 y L (tS y L i)
  have hn := hb.1.2.2.1
  have hm := hb.1.2.2.2.1
  have e1 : th = nI n := hx.1
  have eN : th - 1 = nI (n - 1) := by rw [e1]; exact pk_sub (b := 1) (by omega)
  have no : (false = true) → False := by decide
  unfold wp_X8_item
  unfold pItem at hQ1 hQ0
  rw [show ((nI (tT y L i) = (2 : Int32)) = (tT y L i = 2)) from propext (nI_eq (b := 2) (by omega) (by omega))]
  refine br_c (fun z => ?_) (fun z => ?_)
  · rw [if_pos z] at hQ1 hQ0
    exact c_saying hL hT hi hn0 hb hx (fun s1 s2 sy' ck' ca' cb' cy' b1 x1 => ⟨rfl, hQ1 s1 s2 _ _ _ _ _ _ _ b1 x1⟩) (fun s1 sy' ck' ca' cb' cy' => ⟨rfl, hQ0 s1 _ _ _ _ _ _ _⟩)
  rw [if_neg z] at hQ1 hQ0
  refine c_word (w := 9) hL hT hi rfl (fun w1 => br_f (by decide) ?_) (fun w1 => br_t rfl ?_)
  · rw [if_pos w1] at hQ1 hQ0
    unfold wp_X8_owner
    refine c_number hL hT l1 rfl hn0 (by omega) eN (fun f1 => ?_) (fun f1 => ?_)
    case refine_2 =>
      rw [if_neg (by rw [f1]; decide)] at hQ0
      unfold wp_X8_owner_b29
      exact br_f (by decide) (br_f (by decide) ⟨rfl, hQ0 (fun q => (no q).elim) _ _ _ _ _ _ _⟩)
    rw [if_pos f1] at hQ1 hQ0
    obtain ⟨a, ha, ea⟩ := fgB_c (by omega) f1
    refine br_t (by rw [ea]; exact nI_pos' (by omega)) (c_number (N := 4) hL hT l2 rfl (by omega) (by omega) rfl (fun f2 => ?_) (fun f2 => ?_))
    case refine_2 =>
      rw [if_neg (by rw [f2]; decide)] at hQ0
      unfold wp_X8_owner_b29
      exact br_f (by decide) ⟨rfl, hQ0 (fun q => (no q).elim) _ _ _ _ _ _ _⟩
    rw [if_pos f2] at hQ1 hQ0
    obtain ⟨v, hv, ev⟩ := fgB_c (by omega) f2
    unfold wp_X8_owner_b29
    have hx2 := HX_of (v := tV y L (tE y L (tE y L i))) hn hx ha
    have hb2 : BK (upd g (2 + a) (tV y L (tE y L (tE y L i)))) n m kd oa ob := BK_upd hb (by omega) (fun t ht h6 => by omega) (fun t ht h6 => by omega) (fun x hx h => by omega)
    rw [ea, nI_clamp (by omega)] at hQ1 hQ0
    rw [ea, nI_clamp (by omega)]
    refine br_t (by rw [ev]; exact nI_pos' (by omega)) ⟨vi (by omega) (by omega), c_stop hL hT l3 (fun s3 => ⟨rfl, rfl, hQ1 rfl s3 _ _ _ _ _ _ _ ⟨_, _, _, hb2⟩ hx2⟩) (fun s3 => ⟨rfl, rfl, hQ0 (fun _ => s3) _ _ _ _ _ _ _⟩)⟩
  · rw [if_neg (by rw [w1]; decide)] at hQ1 hQ0
    refine c_word (w := 10) hL hT hi rfl (fun w2 => br_f (by decide) ?_) (fun w2 => br_t rfl ?_)
    · rw [if_pos w2] at hQ1 hQ0
      unfold wp_X8_second
      refine c_number hL hT l1 rfl hn0 (by omega) eN (fun f1 => ?_) (fun f1 => ?_)
      case refine_2 =>
        rw [if_neg (by rw [f1]; decide)] at hQ0
        exact br_f (by decide) (br_t rfl (hQ0 (fun q => (no q).elim) _ _ _ _ _ _ _))
      rw [if_pos f1] at hQ1 hQ0
      obtain ⟨a, ha, ea⟩ := fgB_c (by omega) f1
      have hx2 := HX_story (v := 1) hn hx ha
      have hb2 : BK (upd g (8 + a) 1) n m kd oa ob := BK_upd hb (by omega) (fun t ht h6 => by omega) (fun t ht h6 => ⟨by omega, Or.inr rfl⟩) (fun x hx h => by omega)
      rw [ea, nI_clamp (by omega)] at hQ1 hQ0
      rw [ea, nI_clamp (by omega)]
      refine br_t (nI_pos' (by omega)) ⟨vi (by omega) (by omega), c_stop hL hT l2 (fun s3 => ⟨rfl, br_f (by decide) (hQ1 rfl s3 _ _ _ _ _ _ _ ⟨_, _, _, hb2⟩ hx2)⟩) (fun s3 => ⟨rfl, br_t rfl (hQ0 (fun _ => s3) _ _ _ _ _ _ _)⟩)⟩
    · rw [if_neg (by rw [w2]; decide)] at hQ0
      exact hQ0 (fun q => (no q).elim) _ _ _ _ _ _ _
