/-! an item: the reference -/
def E58 (d g : Nat → Int32) : Prop := ∀ i, i < 58 → d i = g i
theorem E58_upd {d g : Nat → Int32} {k : Nat} {v : Int32} (h : E58 d g) : E58 (upd d k v) (upd g k v) := by
  intro i hi
  by_cases z : i = k
  · rw [z, pk_us, pk_us]
  · rw [pk_un z, pk_un z]; exact h i hi
theorem nm1 {v : Nat} (h : v < 2 ^ 31) : ¬ nI v = (-1 : Int32) := fun q => by
  have h1 : ¬ nI v < 0 := nI_pos h
  rw [q] at h1
  exact h1 (by decide)
def tR (y : Nat → Nat) (L : Nat) (Q : Int32 → Int32 → Int32 → Int32 → Int32 → (Nat → Int32) → Prop) (r : Int32) (j : Nat) (d : Nat → Int32) : Prop := Q r (nI (tE y L j)) (nI (tT y L j)) (nI (tS y L j)) (nI (tE y L j - tS y L j)) d
theorem r_put {d g : Nat → Int32} {m : Nat} {a k b v x1 x2 x3 x4 : Int32} {Q : Int32 → Int32 → Int32 → Int32 → Int32 → (Nat → Int32) → Prop} (hm : m < 8) (hd : E58 d g) (d1 : d 1 = nI m) (hQ : ∀ d', E58 d' (gSay g m a k b v) → Q 1 x1 x2 x3 x4 d') : wp_X11_readsSaying_b117 Q (nI m) a k b v x1 x2 x3 x4 d := by
  have i1 : vp_in (1 : Int32) 58 := vi (k := 1) (by omega) (by omega)
  unfold wp_X11_readsSaying_b117
  rw [zl 14, zl 22, zl 30, zl 38, nI_add, nI_add, nI_add, nI_add, nI_clamp (by omega), nI_clamp (by omega), nI_clamp (by omega), nI_clamp (by omega), show (1 : Int32).toNatClampNeg = 1 from rfl]
  refine ⟨vi (by omega) (by omega), vi (by omega) (by omega), vi (by omega) (by omega), vi (by omega) (by omega), i1, nm_r (e' := nI (m + 1)) ?_ ⟨i1, hQ _ ?_⟩⟩
  · rw [pk_un (by omega), pk_un (by omega), pk_un (by omega), pk_un (by omega), d1]
    exact nI_add m 1
  · unfold gSay
    exact E58_upd (E58_upd (E58_upd (E58_upd (E58_upd hd))))
theorem r_saying {y : Nat → Nat} {L n m i : Nat} {tx d g : Nat → Int32} {Q : Int32 → Int32 → Int32 → Int32 → Int32 → (Nat → Int32) → Prop} (hL : L ≤ 200) (hT : TX y L tx) (hi : i ≤ L) (hn : n < 7) (hm : m < 9) (h0 : g 0 = nI n) (h1 : g 1 = nI m) (hd : E58 d g)
    (hQ : ∀ d', E58 d' (pSay y L n g m i).2.2.1 → tR y L Q (bI (pSay y L n g m i).1) (pSay y L n g m i).2.1 d') : wp_X11_readsSaying (nI L) (nI (tE y L i)) (nI (tT y L i)) (nI (tS y L i)) (nI (tE y L i - tS y L i)) d tx Q := by
  have i0 : vp_in (0 : Int32) 58 := vi (k := 0) (by omega) (by omega)
  have i1 : vp_in (1 : Int32) 58 := vi (k := 1) (by omega) (by omega)
  have d0 : d 0 = nI n := (hd 0 (by omega)).trans h0
  have d1 : d 1 = nI m := (hd 1 (by omega)).trans h1
  have l1 := (tE_ok (y := y) hi).2.1
  have l2 := (tE_ok (y := y) l1).2.1
  have l3 := (tE_ok (y := y) l2).2.1
  have l4 := (tE_ok (y := y) l3).2.1
  have l5 := (tE_ok (y := y) l4).2.1
  unfold wp_X11_readsSaying
  unfold pSay at hQ
  rw [show (1 : Int32).toNatClampNeg = 1 from rfl, show (0 : Int32).toNatClampNeg = 0 from rfl, d0, d1]
  refine ⟨i1, nm_e ⟨i0, s_figure hL hT hi rfl (by omega) rfl ?_⟩⟩
  rw [show ((nI m = (8 : Int32)) = (m = 8)) from propext (nI_eq (b := 8) (by omega) (by omega))]
  refine br_c (fun z => ?_) (fun z => ?_)
  · rw [if_pos z] at hQ; exact hQ d hd
  rw [if_neg z] at hQ
  unfold fgV
  by_cases f1 : fgB y L i n = true
  case neg =>
    rw [if_neg f1] at hQ ⊢
    exact br_t rfl (hQ d hd)
  rw [if_pos f1] at hQ ⊢
  obtain ⟨a, ha, ea⟩ := fgB_c (by omega) f1
  refine br_f (by rw [ea]; exact nm1 (by omega)) (s_token hL hT l1 (s_kind hL hT l1 ?_))
  unfold kdV
  by_cases k1 : kdB y L (tE y L i) = true
  case neg =>
    rw [if_neg k1] at hQ ⊢
    exact br_t rfl (hQ d hd)
  rw [if_pos k1] at hQ ⊢
  obtain ⟨k, hk, ek⟩ := kdB_c k1
  refine br_f (by rw [ek]; exact nm1 (by omega)) ⟨i0, s_nextF hL hT l2 rfl (by omega) rfl ?_⟩
  unfold fgV
  by_cases f2 : fgB y L (tE y L (tE y L i)) n = true
  case neg =>
    rw [if_neg f2]
    rw [if_neg (fun h => f2 h.1)] at hQ
    exact br_t rfl (hQ d hd)
  rw [if_pos f2]
  obtain ⟨b, hb, eb⟩ := fgB_c (by omega) f2
  refine br_f (by rw [eb]; exact nm1 (by omega)) (br_c (fun z2 => ?_) (fun z2 => ?_))
  · rw [if_neg (fun h => h.2 z2.symm)] at hQ
    exact hQ d hd
  rw [if_pos ⟨f2, fun q => z2 q.symm⟩] at hQ
  refine s_token hL hT l3 (s_letters hL hT l3 ?_)
  rw [s_word l3 (w := 11) (by omega) (by decide +kernel)]
  refine br_c (fun w1 => ?_) (fun w1 => ?_)
  case refine_2 =>
    rw [if_neg w1] at hQ
    exact r_put (by omega) hd d1 hQ
  rw [if_pos w1] at hQ
  refine s_nextF (N := 4) hL hT l4 rfl (by omega) rfl ?_
  unfold fgV
  by_cases f3 : fgB y L (tE y L (tE y L (tE y L (tE y L i)))) 4 = true
  case neg =>
    rw [if_neg f3] at hQ ⊢
    exact br_t rfl (hQ d hd)
  rw [if_pos f3] at hQ ⊢
  obtain ⟨v, hv, ev⟩ := fgB_c (by omega) f3
  exact br_f (by rw [ev]; exact nm1 (by omega)) (s_token hL hT l5 (r_put (by omega) hd d1 hQ))
theorem r_item {y : Nat → Nat} {L n m i : Nat} {tx d g : Nat → Int32} {Q : Int32 → Int32 → Int32 → Int32 → Int32 → (Nat → Int32) → Prop} (hL : L ≤ 200) (hT : TX y L tx) (hi : i ≤ L) (hn : n < 7) (hm : m < 9) (h0 : g 0 = nI n) (h1 : g 1 = nI m) (hd : E58 d g)
    (hQ : ∀ d', E58 d' (pItem y L n g m i).2.2.1 → tR y L Q (bI (pItem y L n g m i).1) (pItem y L n g m i).2.1 d') : wp_X11_readsItem (nI L) (nI (tE y L i)) (nI (tT y L i)) (nI (tS y L i)) (nI (tE y L i - tS y L i)) d tx Q := by
  have i0 : vp_in (0 : Int32) 58 := vi (k := 0) (by omega) (by omega)
  have d0 : d 0 = nI n := (hd 0 (by omega)).trans h0
  have l1 := (tE_ok (y := y) hi).2.1
  have l2 := (tE_ok (y := y) l1).2.1
  have l3 := (tE_ok (y := y) l2).2.1
  have h5 : tT y L i < 5 := srt_5 y L (tS y L i)
  unfold wp_X11_readsItem
  unfold pItem at hQ
  rw [show ((nI (tT y L i) = (2 : Int32)) = (tT y L i = 2)) from propext (nI_eq (b := 2) (by omega) (by omega))]
  refine br_c (fun z => ?_) (fun z => ?_)
  · rw [if_pos z] at hQ
    exact r_saying hL hT hi hn hm h0 h1 hd (fun d' hd' => ⟨bI_n _, hQ d' hd'⟩)
  rw [if_neg z] at hQ
  refine s_letters hL hT hi ?_
  unfold wp_X11_readsItem_b36 wp_X11_readsItem_b104
  rw [s_word hi (w := 9) (c := 28518) (by omega) (by decide +kernel), s_word hi (w := 10) (c := 495874699897) (by omega) (by decide +kernel), show (0 : Int32).toNatClampNeg = 0 from rfl, d0]
  by_cases w1 : wd y L i 9 = true
  · rw [if_pos w1] at hQ
    refine br_t w1 ⟨i0, s_nextF hL hT l1 rfl (by omega) rfl ?_⟩
    unfold fgV
    by_cases f1 : fgB y L (tE y L i) n = true
    case neg =>
      rw [if_neg f1] at hQ ⊢
      exact br_t rfl (hQ d hd)
    rw [if_pos f1] at hQ ⊢
    obtain ⟨a, ha, ea⟩ := fgB_c (by omega) f1
    refine br_f (by rw [ea]; exact nm1 (by omega)) (br_t w1 (s_nextF (N := 4) hL hT l2 rfl (by omega) rfl ?_))
    unfold fgV
    by_cases f2 : fgB y L (tE y L (tE y L i)) 4 = true
    case neg =>
      rw [if_neg f2] at hQ ⊢
      exact br_t rfl (hQ d hd)
    rw [if_pos f2] at hQ ⊢
    obtain ⟨v, hv, ev⟩ := fgB_c (by omega) f2
    rw [ea, show (2 : Int32) = nI 2 from rfl, nI_add, nI_clamp (n := 2 + a) (by omega)]
    rw [ea, nI_clamp (n := a) (by omega)] at hQ
    exact br_f (by rw [ev]; exact nm1 (by omega)) ⟨vi (by omega) (by omega), s_token hL hT l3 (hQ _ (E58_upd hd))⟩
  · rw [if_neg w1] at hQ
    refine br_f w1 ?_
    by_cases w2 : wd y L i 10 = true
    · rw [if_pos w2] at hQ
      refine br_t w2 ⟨i0, s_nextF hL hT l1 rfl (by omega) rfl ?_⟩
      unfold fgV
      by_cases f1 : fgB y L (tE y L i) n = true
      case neg =>
        rw [if_neg f1] at hQ ⊢
        exact br_t rfl (hQ d hd)
      rw [if_pos f1] at hQ ⊢
      obtain ⟨a, ha, ea⟩ := fgB_c (by omega) f1
      rw [ea, nI_clamp (n := a) (by omega)] at hQ
      rw [ea, show (8 : Int32) = nI 8 from rfl, nI_add, nI_clamp (n := 8 + a) (by omega)]
      exact br_f (nm1 (by omega)) (br_f w1 ⟨vi (by omega) (by omega), s_token hL hT l2 (hQ _ (E58_upd hd))⟩)
    · rw [if_neg w2] at hQ
      exact br_f w2 (hQ d hd)
