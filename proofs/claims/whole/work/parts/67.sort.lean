/-! who is of story 0, who of story 1 -/
def hL (g : Nat → Int32) : Nat → List Nat
  | 0 => []
  | k + 1 => if g (8 + k) = 0 then hL g k ++ [k] else hL g k
def tL (g : Nat → Int32) : Nat → List Nat
  | 0 => []
  | k + 1 => if g (8 + k) = 0 then tL g k else tL g k ++ [k]
def lR (l : List Nat) (f : Nat → Int32) : Prop := ∀ j, j < l.length → f j = nI (l.getD j 0)
theorem lR_snoc {l : List Nat} {f : Nat → Int32} {a : Nat} (h : lR l f) : lR (l ++ [a]) (upd f l.length (nI a)) := by
  intro j hj
  rw [List.length_append] at hj
  have hj : j < l.length + 1 := hj
  by_cases z : j = l.length
  · rw [z, pk_us, List.getD_eq_getElem?_getD, List.getElem?_append_right (Nat.le_refl _), Nat.sub_self]; rfl
  · rw [pk_un z, h j (by omega), List.getD_eq_getElem?_getD, List.getD_eq_getElem?_getD, List.getElem?_append_left (by omega)]
theorem ht_len (g : Nat → Int32) : ∀ k, (hL g k).length + (tL g k).length = k
  | 0 => rfl
  | k + 1 => by
    have ih := ht_len g k
    rw [hL, tL]
    by_cases z : g (8 + k) = 0
    · rw [if_pos z, if_pos z, List.length_append]; show (hL g k).length + 1 + _ = _; omega
    · rw [if_neg z, if_neg z, List.length_append]; show _ + ((tL g k).length + 1) = _; omega
theorem hL_ok (g : Nat → Int32) : ∀ k, (∀ j, j < (hL g k).length → (hL g k).getD j 0 < k) ∧ ∀ i j, i < j → j < (hL g k).length → (hL g k).getD i 0 < (hL g k).getD j 0
  | 0 => ⟨fun j hj => absurd hj (Nat.not_lt_zero j), fun i j _ hj => absurd hj (Nat.not_lt_zero j)⟩
  | k + 1 => by
    obtain ⟨h1, h2⟩ := hL_ok g k
    rw [hL]
    by_cases z : g (8 + k) = 0
    · rw [if_pos z]
      have e1 : ∀ j, j < (hL g k).length → (hL g k ++ [k]).getD j 0 = (hL g k).getD j 0 := fun j hj => by
        rw [List.getD_eq_getElem?_getD, List.getD_eq_getElem?_getD, List.getElem?_append_left hj]
      have e2 : (hL g k ++ [k]).getD (hL g k).length 0 = k := by
        rw [List.getD_eq_getElem?_getD, List.getElem?_append_right (Nat.le_refl _), Nat.sub_self]; rfl
      have el : (hL g k ++ [k]).length = (hL g k).length + 1 := List.length_append
      refine ⟨fun j hj => ?_, fun i j hij hj => ?_⟩
      · by_cases q : j = (hL g k).length
        · rw [q, e2]; omega
        · rw [e1 j (by omega)]; have := h1 j (by omega); omega
      · by_cases q : j = (hL g k).length
        · rw [q, e2, e1 i (by omega)]; exact h1 i (by omega)
        · rw [e1 j (by omega), e1 i (by omega)]; exact h2 i j hij (by omega)
    · rw [if_neg z]
      exact ⟨fun j hj => by have := h1 j hj; omega, h2⟩
theorem tL_ok (g : Nat → Int32) : ∀ k, (∀ j, j < (tL g k).length → (tL g k).getD j 0 < k) ∧ ∀ i j, i < j → j < (tL g k).length → (tL g k).getD i 0 < (tL g k).getD j 0
  | 0 => ⟨fun j hj => absurd hj (Nat.not_lt_zero j), fun i j _ hj => absurd hj (Nat.not_lt_zero j)⟩
  | k + 1 => by
    obtain ⟨h1, h2⟩ := tL_ok g k
    rw [tL]
    by_cases z : g (8 + k) = 0
    · rw [if_pos z]
      exact ⟨fun j hj => by have := h1 j hj; omega, h2⟩
    · rw [if_neg z]
      have e1 : ∀ j, j < (tL g k).length → (tL g k ++ [k]).getD j 0 = (tL g k).getD j 0 := fun j hj => by
        rw [List.getD_eq_getElem?_getD, List.getD_eq_getElem?_getD, List.getElem?_append_left hj]
      have e2 : (tL g k ++ [k]).getD (tL g k).length 0 = k := by
        rw [List.getD_eq_getElem?_getD, List.getElem?_append_right (Nat.le_refl _), Nat.sub_self]; rfl
      have el : (tL g k ++ [k]).length = (tL g k).length + 1 := List.length_append
      refine ⟨fun j hj => ?_, fun i j hij hj => ?_⟩
      · by_cases q : j = (tL g k).length
        · rw [q, e2]; omega
        · rw [e1 j (by omega)]; have := h1 j (by omega); omega
      · by_cases q : j = (tL g k).length
        · rw [q, e2, e1 i (by omega)]; exact h1 i (by omega)
        · rw [e1 j (by omega), e1 i (by omega)]; exact h2 i j hij (by omega)
def fair (g : Nat → Int32) (n : Nat) : Bool := !((hL g n).length == 0) && (hL g n).length == (tL g n).length
theorem d_sort {g here there sr : Nat → Int32} {n : Nat} {isF pr : Int32} {Q : Int32 → Int32 → (Nat → Int32) → (Nat → Int32) → Prop} (hn : n < 7) (hs : ∀ t, t < n → sr t = g (8 + t))
    (hQ : ∀ here there : Nat → Int32, lR (hL g n) here → lR (tL g n) there → Q (bI (fair g n)) (nI (hL g n).length) here there) : wp_X5_sort isF pr here there (nI n) sr Q := by
  have main : ∀ (d t : Nat) (here there : Nat → Int32), t + d = n → lR (hL g t) here → lR (tL g t) there → wp_X5_sort_b9 Q (nI n) sr (d + 1) (nI (tL g t).length) (nI t) isF (nI (hL g t).length) here there := by
    intro d
    induction d with
    | zero =>
      intro t here there ht h1 h2
      obtain rfl : t = n := by omega
      have hl := ht_len g t
      have hQ := hQ here there h1 h2
      unfold fair at hQ
      unfold wp_X5_sort_b9 wp_X5_sort_b65
      refine br_t (nI_le (by omega) (by omega)) ?_
      rw [show (0 : Int32) = nI 0 from rfl, nI_leI (by omega) (by omega), nI_eq (by omega) (by omega)]
      refine br_c (fun z => ?_) (fun z => br_c (fun z2 => ?_) (fun z2 => ?_))
      · rw [show ((hL g t).length == 0) = true from beq_iff_eq.mpr (by omega)] at hQ; exact hQ
      · rw [show ((hL g t).length == 0) = false from beq_eq_false_iff_ne.mpr (by omega), show ((hL g t).length == (tL g t).length) = true from beq_iff_eq.mpr z2] at hQ; exact hQ
      · rw [show ((hL g t).length == (tL g t).length) = false from beq_eq_false_iff_ne.mpr z2, Bool.and_false] at hQ; exact hQ
    | succ d ih =>
      intro t here there ht h1 h2
      have hl := ht_len g t
      have ih := ih (t + 1)
      rw [hL, tL] at ih
      unfold wp_X5_sort_b9 wp_X5_sort_b59
      rw [nI_clamp (n := t) (by omega), hs t (by omega), nI_clamp (by omega), nI_clamp (by omega), nI_1]
      refine br_f (nI_ge (by omega) (by omega)) ⟨vi (by omega) (by omega), br_c (fun z => ⟨vi (by omega) (by omega), ?_⟩) (fun z => ⟨vi (by omega) (by omega), ?_⟩)⟩
      · rw [if_pos z, if_pos z] at ih
        have := ih (upd here (hL g t).length (nI t)) there (by omega) (lR_snoc h1) h2
        rw [List.length_append] at this
        rw [nI_1]
        exact this
      · rw [if_neg z, if_neg z] at ih
        have := ih here (upd there (tL g t).length (nI t)) (by omega) h1 (lR_snoc h2)
        rw [List.length_append] at this
        rw [nI_1]
        exact this
  unfold wp_X5_sort
  exact ⟨n + 1, main n 0 here there (by omega) (fun j hj => absurd hj (Nat.not_lt_zero j)) (fun j hj => absurd hj (Nat.not_lt_zero j))⟩
theorem r_sort {g ours theirs rf mate : Nat → Int32} {n : Nat} {on : Nat → Int64} {x1 ca cm cc cp cq : Int32} {Q : Int32 → Int32 → Int32 → Int32 → Int32 → (Nat → Int32) → (Nat → Int32) → (Nat → Int64) → (Nat → Int32) → (Nat → Int32) → Prop} (hn : n < 7) (h0 : g 0 = nI n)
    (hQ : ∀ ours theirs : Nat → Int32, lR (hL g n) ours → lR (tL g n) theirs → wp_X11_one_b62 Q cq g x1 (nI (hL g n).length) (nI (tL g n).length) ca cm cc cp rf mate on ours theirs) : wp_X11_one x1 ca cm cc cp cq g rf mate on ours theirs Q := by
  have i0 : vp_in (0 : Int32) 58 := vi (k := 0) (by omega) (by omega)
  have main : ∀ (d t : Nat) (ours theirs : Nat → Int32), t + d = n → lR (hL g t) ours → lR (tL g t) theirs → wp_X11_one_b7 Q cq g (d + 1) x1 (nI (hL g t).length) (nI (tL g t).length) (nI t) ca cm cc cp rf mate on ours theirs := by
    intro d
    induction d with
    | zero =>
      intro t ours theirs ht h1 h2
      obtain rfl : t = n := by omega
      unfold wp_X11_one_b7
      rw [show (0 : Int32).toNatClampNeg = 0 from rfl, h0]
      exact ⟨i0, br_t (nI_le (by omega) (by omega)) (hQ ours theirs h1 h2)⟩
    | succ d ih =>
      intro t ours theirs ht h1 h2
      have hl := ht_len g t
      have ih := ih (t + 1)
      rw [hL, tL] at ih
      unfold wp_X11_one_b7 wp_X11_one_b56
      rw [show (0 : Int32).toNatClampNeg = 0 from rfl, h0, show (8 : Int32) = nI 8 from rfl, nI_add, nI_clamp (by omega), nI_clamp (by omega), nI_clamp (by omega), nI_1]
      refine ⟨i0, br_f (nI_ge (by omega) (by omega)) ⟨vi (by omega) (by omega), br_c (fun z => ⟨vi (by omega) (by omega), ?_⟩) (fun z => ⟨vi (by omega) (by omega), ?_⟩)⟩⟩
      · rw [if_pos z, if_pos z] at ih
        have := ih (upd ours (hL g t).length (nI t)) theirs (by omega) (lR_snoc h1) h2
        rw [List.length_append] at this
        rw [nI_1]
        exact this
      · rw [if_neg z, if_neg z] at ih
        have := ih ours (upd theirs (tL g t).length (nI t)) (by omega) h1 (lR_snoc h2)
        rw [List.length_append] at this
        rw [nI_1, nI_1]
        exact this
  unfold wp_X11_one
  exact ⟨n + 1, main n 0 ours theirs (by omega) (fun j hj => absurd hj (Nat.not_lt_zero j)) (fun j hj => absurd hj (Nat.not_lt_zero j))⟩
