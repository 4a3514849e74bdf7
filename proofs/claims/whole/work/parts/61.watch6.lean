theorem s_goBack {n : Nat} {K : Nat → Nat → Bool} {br : Nat → Bool} {lw : Nat → Nat} (h : CG n K br lw) {w : Nat → Nat} {i : Nat} {so la le mo told lo wa me pa : Nat → Int32} {c1 c2 : Int32} {Q : (Nat → Int32) → (Nat → Int32) → (Nat → Int32) → (Nat → Int32) → Int32 → Int32 → (Nat → Int32) → (Nat → Int32) → Prop} (hi : i < 3 ^ n) (hb : br (sAt i) = false) (hlo : lo i = nI (lw (sAt i))) (hw : ∀ e, e < 12 → w e ≤ 100) (hwa : ∀ e, e < 2 * n → wa e = mI (w e)) (hle : ∀ j, j < 3 ^ n → le j = mI (sn K w n (sAt j)))
    (hck : CK K w n br lw (sAt i) 1 so la mo) (hA2 : 1 < mo1 K w n true (sAt i))
    (hQ : ∀ (so la mo told : Nat → Int32) (c1 c2 : Int32) (me pa : Nat → Int32), CK K w n br lw (sAt i) (pL (lw (sAt i)) 12).length so la mo → Q so la mo told c1 c2 me pa) : wp_X1_goBackFrom (nI i) so la le mo told lo c1 c2 me pa wa Q := by
  have h3 := p3_le h.1
  have h4 := p4_le h.1
  have hs := sAt_all i (by omega)
  have hN := (sAt_lt_N h.1 (by omega)).mpr hi
  have hl := cg_lw h hN hs.2.2
  have hlen := cg_len h hN hs.2.2
  have hA := mo_101 (K := K) (w := w) (n := n) (a := true) (2 ^ (2 * n) - 1 - sAt i) (sAt i) (by omega)
  have hmi := CK_most h hi hb hck
  unfold wp_X1_goBackFrom
  rw [e_setAt (by omega)]
  refine ⟨vi (by omega) (by omega), ?_⟩
  rw [nI_clamp (by omega), hlo]
  refine s_takeTold h hi hw hwa (fun me pa told hq => ?_)
  have main : ∀ (d k : Nat) (so la mo : Nat → Int32), k + d = (pL (lw (sAt i)) 12).length → 1 ≤ k → mo i = mI (mo1 K w n true (sAt i)) → CK K w n br lw (sAt i) k so la mo → wp_X1_goBackFrom_b26 Q le (d + 1) (nI i) (nI (sAt i)) (nI k) so la mo told (nI (pE (lw (sAt i)) 12).length) (nI (pL (lw (sAt i)) 12).length) me pa := by
    intro d
    induction d with
    | zero =>
      intro k so la mo hk h1 hm hck
      unfold wp_X1_goBackFrom_b26
      refine br_t (nI_le (by omega) (by omega)) (hQ _ _ _ _ _ _ _ _ ?_)
      rw [← show k = (pL (lw (sAt i)) 12).length by omega]
      exact hck
    | succ d ih =>
      intro k so la mo hk h1 hm hck
      obtain ⟨p1, p2, p3, p4, p5, p6, p7⟩ := cg_part h hi (by omega : k < (pL (lw (sAt i)) 12).length) (by omega)
      obtain ⟨u1, u2⟩ := hq k (by omega)
      have ht := tl_le (w := w) (M := (pL (lw (sAt i)) 12).getD k 0) hw
      have hsn := sn_le (K := K) (w := w) (n := n) (v := sAt i - (pL (lw (sAt i)) 12).getD k 0)
      have hfrom : ∃ m, mo (pOf (sAt i - (pL (lw (sAt i)) 12).getD k 0)) = mI m ∧ m ≤ 101 := by
        obtain ⟨m, a, b, -⟩ := hck.2.2.1 (pOf (sAt i - (pL (lw (sAt i)) 12).getD k 0)) (by omega)
        exact ⟨m, a, b⟩
      obtain ⟨m, hm1, hm2⟩ := hfrom
      obtain ⟨⟨S, hS⟩, ⟨T, hT⟩, h5, h6⟩ := hck
      have step := fun (so' la' mo' : Nat → Int32) => CK_step (S := S) (T := T) (so := so) (la := la) (mo := mo) (so' := so') (la' := la') (mo' := mo') h hi hb h1 (by omega : k < (pL (lw (sAt i)) 12).length) rfl hS hT h5 h6
      have hlef := hle (pOf (sAt i - (pL (lw (sAt i)) 12).getD k 0)) (by omega)
      rw [p4] at hlef
      unfold wp_X1_goBackFrom_b26 wp_X1_goBackFrom_b120 wp_X1_goBackFrom_b161
      rw [nI_clamp (n := k) (by omega), u1, u2, p1, nI_clamp (n := i) (by omega), hm]
      have ix : vp_in (nI i) 729 := vi (by omega) (by omega)
      have ik : vp_in (nI k) 64 := vi (by omega) (by omega)
      have ip : vp_in (nI (pOf (sAt i - (pL (lw (sAt i)) 12).getD k 0))) 729 := vi (by omega) (by omega)
      have hcl : (pL (lw (sAt i)) 12).getD k 0 < 4096 := by omega
      generalize (pL (lw (sAt i)) 12).getD k 0 = c at *
      have hne : i ≠ pOf (sAt i - c) := by omega
      generalize hAd : mo1 K w n true (sAt i) = A at *
      generalize tl w c 12 = t at *
      generalize sn K w n (sAt i - c) = a at *
      obtain ⟨A, rfl⟩ : ∃ B, A = B + 1 := ⟨A - 1, by omega⟩
      have mm : ∀ u v : Nat, u ≤ 102 → v ≤ 102 → (if mI v < mI u then mI u else mI v) = mI (max v u) := fun u v hu hv => by
        by_cases q : v < u
        · rw [if_pos ((mI_lt (by omega) (by omega)).mpr q), Nat.max_eq_right (by omega)]
        · rw [if_neg (fun z => q ((mI_lt (by omega) (by omega)).mp z)), Nat.max_eq_left (by omega)]
      refine br_f (nI_ge (by omega) (by omega)) ⟨ix, nm_r (mI_m A) ⟨ik, ?_⟩⟩
      have hf7 : pOf (sAt i - c) < 2 ^ 31 := by omega
      rw [e_placeOf p2, nI_clamp hf7, hlef, hm1, mI_le (by omega) (by omega), nI_1]
      generalize pOf (sAt i - c) = f at *
      have up1 : ∀ x : Int32, ∀ j, j ≠ f → upd mo f x j = mo j := fun x j hj => pk_un hj
      refine br_c (fun z => ⟨ik, ip, nm_r (mI_1 a) ⟨ik, ?_⟩⟩) (fun z => ?_)
      · rw [mI_z (by omega)]
        refine br_c (fun t0 => ⟨ip, nm_r (mm A m (by omega) (by omega)) ⟨ip, ?_⟩⟩) (fun t0 => ⟨ik, ik, nm_r (mm t (a + 1) (by omega) (by omega)) ⟨ip, nm_r (mm t m (by omega) (by omega)) ⟨ip, ?_⟩⟩⟩)
        · subst t0
          rw [mI_lt (by omega) (by omega)]
          have hm1' : ∀ m', m' ≤ 101 → mo f = mI m' → upd mo f (mI (max m A)) f = mI (max m' (hh (A + 1) 0)) := fun m' q1 q2 => by
            rw [hm1] at q2; rw [pk_us, (mI_eq (by omega) (by omega)).mp q2]; rfl
          refine br_c (fun q => ?_) (fun q => ⟨ik, s_note (S := S) (T := T) hcl (by omega) (by omega) (fun x hx => ⟨(hS x hx).1, (hS x hx).2.1⟩) (fun x hx => ⟨(hT x hx).1, (hT x hx).2.1⟩) (fun so' la' w1 w2 => ?_)⟩)
          · refine ih (k + 1) _ _ _ (by omega) (by omega) (by rw [pk_un hne]; exact hm) (step _ _ _ (Or.inr ⟨?_, rfl, rfl⟩) (up1 _) hm1')
            unfold nOk; rw [if_pos rfl]; omega
          · refine ih (k + 1) _ _ _ (by omega) (by omega) (by rw [pk_un hne]; exact hm) (step _ _ _ (Or.inl ⟨?_, w1, w2⟩) (up1 _) hm1')
            unfold nOk; rw [if_pos rfl]; omega
        · have hm1' : ∀ m', m' ≤ 101 → mo f = mI m' → upd mo f (mI (max m t)) f = mI (max m' (hh (A + 1) t)) := fun m' q1 q2 => by
            rw [hm1] at q2; rw [pk_us, (mI_eq (by omega) (by omega)).mp q2]
            unfold hh
            rw [if_neg t0, if_pos (by omega)]
          rw [mI_lt (by omega) (by omega)]
          refine br_c (fun q => ?_) (fun q => ⟨ik, ?_⟩)
          · refine ih (k + 1) _ _ _ (by omega) (by omega) (by rw [pk_un hne]; exact hm) (step _ _ _ (Or.inr ⟨?_, rfl, rfl⟩) (up1 _) hm1')
            unfold nOk; rw [if_neg t0]; omega
          · rw [Nat.max_eq_right (by omega : a + 1 ≤ t)]
            refine s_note (S := S) (T := T) hcl (by omega) (by omega) (fun x hx => ⟨(hS x hx).1, (hS x hx).2.1⟩) (fun x hx => ⟨(hT x hx).1, (hT x hx).2.1⟩) (fun so' la' w1 w2 => ?_)
            refine ih (k + 1) _ _ _ (by omega) (by omega) (by rw [pk_un hne]; exact hm) (step _ _ _ (Or.inl ⟨?_, fun x hx => ?_, fun x hx => ?_⟩) (up1 _) hm1')
            · unfold nOk; rw [if_neg t0]; omega
            · rw [w1 x hx]; unfold lo_; rw [if_neg t0]
            · rw [w2 x hx]; unfold hi_; rw [if_neg t0]
      · refine ih (k + 1) so la mo (by omega) (by omega) hm (step so la mo (Or.inr ⟨?_, rfl, rfl⟩) (fun _ _ => rfl) (fun m' q1 q2 => ?_))
        · unfold nOk; rw [if_neg (by omega)]; omega
        · have e : hh (A + 1) t = 0 := by unfold hh; rw [if_neg (by omega), if_neg (by omega)]
          rw [e, Nat.max_eq_left (Nat.zero_le _)]; exact q2
  exact ⟨_, main ((pL (lw (sAt i)) 12).length - 1) 1 so la mo (by omega) (by omega) hmi hck⟩
/-- what the class's clock holds -/
def CLK (K : Nat → Nat → Bool) (w : Nat → Nat) (n : Nat) (so la : Nat → Int32) : Prop := ∀ x, x < 12 → (∃ a, so x = mI a ∧ a ≤ 101 ∧ SO K w n x a) ∧ ∃ b, la x = mI b ∧ b ≤ 101 ∧ LO K w n x b
theorem CK_end {n : Nat} {K : Nat → Nat → Bool} {br : Nat → Bool} {lw : Nat → Nat} (h : CG n K br lw) {w : Nat → Nat} {so la mo : Nat → Int32} (hck : CK K w n br lw (sAt 0) 1 so la mo) : CLK K w n so la := by
  obtain ⟨⟨S, hS⟩, ⟨T, hT⟩, -, -⟩ := hck
  have hN : ∀ x s c, NP K w n x s c ↔ NZ K w n br lw (sAt 0) 1 x s c := by
    intro x s c
    unfold NP NZ
    constructor
    · rintro ⟨a, b, d, e⟩
      have h3 := ed_E s c a b
      have hA := mo_101 (K := K) (w := w) (n := n) (a := true) (2 ^ (2 * n) - 1 - (s + c)) (s + c) (by omega)
      have hs : sn K w n s < 101 := by
        unfold nOk at e
        split at e <;> omega
      have hb := sn_br h s a hs
      have hce := ed_ce h a hb.2 b
      exact ⟨hce, Or.inl (by rw [sAt_0]; have := hce.1; omega), d, e⟩
    · rintro ⟨a, b, d, e⟩
      have hsN : s < 2 ^ (2 * n) := by have := a.2.1; omega
      have hA := mo_101 (K := K) (w := w) (n := n) (a := true) (2 ^ (2 * n) - 1 - (s + c)) (s + c) (by have := a.2.1; omega)
      have hs : sn K w n s < 101 := by
        unfold nOk at e
        split at e <;> omega
      have hb := sn_br h s hsN hs
      exact ⟨hsN, ce_ed h hb.2 a, d, e⟩
  intro x hx
  refine ⟨⟨S x, (hS x hx).1, (hS x hx).2.1, IZ_c (fun y => ?_) (hS x hx).2.2⟩, ⟨T x, (hT x hx).1, (hT x hx).2.1, IX_c (fun y => ?_) (hT x hx).2.2⟩⟩
  · exact ⟨fun ⟨s, c, q, e⟩ => ⟨s, c, (hN x s c).mp q, e⟩, fun ⟨s, c, q, e⟩ => ⟨s, c, (hN x s c).mpr q, e⟩⟩
  · exact ⟨fun ⟨s, c, q, e⟩ => ⟨s, c, (hN x s c).mp q, e⟩, fun ⟨s, c, q, e⟩ => ⟨s, c, (hN x s c).mpr q, e⟩⟩
/-- a place that breaks a demand, or whose minutes are none, is passed over -/
theorem CK_skip {n : Nat} {K : Nat → Nat → Bool} {br : Nat → Bool} {lw : Nat → Nat} (hn : n < 7) {w : Nat → Nat} {i : Nat} {so la mo : Nat → Int32} (hi : i + 1 < 3 ^ n) (hck : CK K w n br lw (sAt (i + 1)) 1 so la mo) (hs : br (sAt (i + 1)) = true ∨ mo1 K w n true (sAt (i + 1)) ≤ 1) : CK K w n br lw (sAt i) 1 so la mo := by
  have h3 := p3_le hn
  have h4 := p4_le hn
  have hi2 := sAt_mono (i := i) (j := i + 1) (by omega) (by omega)
  have hP : ∀ s c, CE n br lw s c → (PC lw (sAt i) 1 s c ↔ PC lw (sAt (i + 1)) 1 s c ∨ s + c = sAt (i + 1)) := by
    intro s c hce
    rw [← PC_down hn hi hce]
    unfold PC
    constructor
    · rintro (a | ⟨a, -⟩)
      · exact Or.inl (Or.inl a)
      · exact Or.inr a
    · rintro ((a | ⟨-, q, q0, ql, -⟩) | a)
      · exact Or.inl a
      · omega
      · obtain ⟨c1, c2, c3, c4, c5⟩ := hce
        obtain ⟨q, q0, ql, e⟩ := pL_idx c5 (by omega) c1
        rw [a] at ql e
        exact Or.inr ⟨a, q, q0, ql, e.symm⟩
  rcases hs with hb | hA
  · refine CK_iff hck (fun s c hce => ?_)
    rw [hP s c hce]
    constructor
    · exact Or.inl
    · rintro (a | a)
      · exact a
      · obtain ⟨c1, c2, c3, c4, c5⟩ := hce
        rw [a, hb] at c4; cases c4
  · have hno : ∀ s c t, s + c = sAt (i + 1) → ¬ nOk (sn K w n s) (mo1 K w n true (s + c)) t := by
      intro s c t e q
      rw [e] at q
      unfold nOk at q
      split at q <;> omega
    have hN : ∀ x s c, NZ K w n br lw (sAt i) 1 x s c ↔ NZ K w n br lw (sAt (i + 1)) 1 x s c := by
      intro x s c
      unfold NZ
      constructor
      · rintro ⟨a, b, d, e⟩
        rcases (hP s c a).mp b with b | b
        · exact ⟨a, b, d, e⟩
        · exact absurd e (hno s c _ b)
      · rintro ⟨a, b, d, e⟩
        exact ⟨a, (hP s c a).mpr (Or.inl b), d, e⟩
    obtain ⟨⟨S, hS⟩, ⟨T, hT⟩, h5, h6⟩ := hck
    refine ⟨⟨S, fun x hx => ⟨(hS x hx).1, (hS x hx).2.1, IZ_c (fun y => ?_) (hS x hx).2.2⟩⟩, ⟨T, fun x hx => ⟨(hT x hx).1, (hT x hx).2.1, IX_c (fun y => ?_) (hT x hx).2.2⟩⟩, fun j hj => ?_, h6⟩
    · exact ⟨fun ⟨s, c, q, e⟩ => ⟨s, c, (hN x s c).mp q, e⟩, fun ⟨s, c, q, e⟩ => ⟨s, c, (hN x s c).mpr q, e⟩⟩
    · exact ⟨fun ⟨s, c, q, e⟩ => ⟨s, c, (hN x s c).mp q, e⟩, fun ⟨s, c, q, e⟩ => ⟨s, c, (hN x s c).mpr q, e⟩⟩
    · obtain ⟨m, a, b, d⟩ := h5 j hj
      refine ⟨m, a, b, IX_zero d (fun y ⟨c, q, r, e⟩ => ⟨c, q, (hP _ c q).mpr (Or.inl r), e⟩) (fun y hy => ?_)⟩
      obtain ⟨c, q, r, e⟩ := hy
      rcases (hP _ c q).mp r with r | r
      · exact Or.inl ⟨c, q, r, e⟩
      · refine Or.inr ?_
        rw [e, r]
        unfold hh
        split
        · omega
        · rw [if_neg (by omega)]
theorem s_tell {n : Nat} {K : Nat → Nat → Bool} {br : Nat → Bool} {lw F : Nat → Nat} (h : CG n K br lw) {w : Nat → Nat} {so la le mo told lo wa me pa : Nat → Int32} {wy : Nat → Int64} {c1 c2 : Int32} {Q : (Nat → Int32) → (Nat → Int32) → (Nat → Int32) → (Nat → Int32) → (Nat → Int32) → Int32 → Int32 → (Nat → Int32) → (Nat → Int32) → Prop} (hLW : LW br lw F (3 ^ n) lo wy) (hw : ∀ e, e < 12 → w e ≤ 100) (hwa : ∀ e, e < 2 * n → wa e = mI (w e))
    (hQ : ∀ (so la le mo told : Nat → Int32) (c1 c2 : Int32) (me pa : Nat → Int32), CLK K w n so la → Q so la le mo told c1 c2 me pa) : wp_X1_tell so la le mo told (nI (3 ^ n)) lo c1 c2 me pa wa Q := by
  have hn := h.1
  have h3 := p3_le hn
  have h4 := p4_le hn
  have h30 : 0 < 3 ^ n := Nat.pow_pos (by decide)
  have hloB : ∀ i, i < 3 ^ n → br (sAt i) = true → lo i = -1 := fun i hi hb => by rw [(hLW i hi).1, if_pos hb]; rfl
  have hloN : ∀ i, i < 3 ^ n → br (sAt i) = false → lo i = nI (lw (sAt i)) ∧ ¬ lo i = -1 := fun i hi hb => by
    have e : lo i = nI (lw (sAt i)) := by rw [(hLW i hi).1, if_neg (by rw [hb]; exact fun z => by cases z)]
    have hN := (sAt_lt_N hn (by omega)).mpr hi
    have hl := cg_lw h hN (sAt_all i (by omega)).2.2
    refine ⟨e, ?_⟩
    rw [e]
    exact fun z => absurd ((z_ne (k := 1) (by omega) (by omega) (by omega)).mp z) (fun f => f)
  -- back
  have B : ∀ (le : Nat → Int32), (∀ j, j < 3 ^ n → le j = mI (sn K w n (sAt j))) → ∀ (i : Nat), i < 3 ^ n → ∀ (so la mo told : Nat → Int32) (c1 c2 : Int32) (me pa : Nat → Int32), CK K w n br lw (sAt i) 1 so la mo → wp_X1_tell_b133 Q lo wa (i + 1) (nI i) so la le mo told c1 c2 me pa := by
    intro le hle i
    induction i with
    | zero =>
      intro _ so la mo told c1 c2 me pa hck
      unfold wp_X1_tell_b133
      exact br_t (by decide) (hQ _ _ _ _ _ _ _ _ _ (CK_end h hck))
    | succ i ih =>
      intro hi so la mo told c1 c2 me pa hck
      have ih := ih (by omega)
      have i7 : vp_in (nI (i + 1)) 729 := vi (by omega) (by omega)
      unfold wp_X1_tell_b133 wp_X1_tell_b168
      rw [pk_m1, nI_clamp (by omega)]
      refine br_f (nI_nle (by omega) (by omega)) ⟨i7, ?_⟩
      cases hb : br (sAt (i + 1)) with
      | true =>
        exact br_t (hloB _ hi hb) (ih _ _ _ _ _ _ _ _ (CK_skip hn hi hck (Or.inl hb)))
      | false =>
        obtain ⟨l1, l2⟩ := hloN _ hi hb
        have hA := mo_101 (K := K) (w := w) (n := n) (a := true) (2 ^ (2 * n) - 1 - sAt (i + 1)) (sAt (i + 1)) (by have := (sAt_lt_N hn (by omega : i + 1 < 729)).mpr hi; omega)
        refine br_f l2 ⟨i7, ?_⟩
        rw [CK_most h hi hb hck]
        refine br_c (fun z => ?_) (fun z => ?_)
        · rw [show (0 : Int32) = mI 1 from rfl, mI_le (by omega) (by omega)] at z
          exact ih _ _ _ _ _ _ _ _ (CK_skip hn hi hck (Or.inr z))
        · rw [show (0 : Int32) = mI 1 from rfl, mI_le (by omega) (by omega)] at z
          refine s_goBack h hi hb l1 hw hwa hle hck (by omega) (fun so la mo told c1 c2 me pa hck' => ih _ _ _ _ _ _ _ _ (CK_iff hck' (fun s c hce => PC_down hn hi hce)))
  -- the greatest minutes, emptied
  have M : ∀ (le so la : Nat → Int32), (∀ j, j < 3 ^ n → le j = mI (sn K w n (sAt j))) → (∀ x, x < 12 → so x = mI 0) → (∀ x, x < 12 → la x = mI 0) → ∀ (d i : Nat) (mo told : Nat → Int32) (c1 c2 : Int32) (me pa : Nat → Int32), i + d = 3 ^ n → (∀ j, j < i → mo j = mI 0) → wp_X1_tell_b89 Q (nI (3 ^ n)) lo wa (d + 1) (nI i) so la le mo told c1 c2 me pa := by
    intro le so la hle hso hla d
    induction d with
    | zero =>
      intro i mo told c1 c2 me pa hi hmo
      obtain rfl : i = 3 ^ n := by omega
      unfold wp_X1_tell_b89 wp_X1_tell_b112
      rw [show (1 : Int32) = nI 1 from rfl, pk_sub h30, nI_clamp (by omega)]
      refine br_t (nI_le (by omega) (by omega)) ⟨vi (by omega) (by omega), ?_⟩
      have hnone : ∀ s c, CE n br lw s c → ¬ PC lw (sAt (3 ^ n - 1)) 1 s c := by
        rintro s c ⟨c1, c2, -⟩ (a | ⟨-, q, q0, ql, -⟩)
        · rw [sAt_full n hn] at a; omega
        · omega
      refine ⟨_, B le hle (3 ^ n - 1) (by omega) so la _ told c1 c2 me pa ⟨⟨fun _ => 0, fun x hx => ⟨hso x hx, Nat.zero_le _, Or.inl ⟨rfl, fun y ⟨s, c, q, _⟩ => hnone s c q.1 q.2.1⟩⟩⟩, ⟨fun _ => 0, fun x hx => ⟨hla x hx, Nat.zero_le _, fun y ⟨s, c, q, _⟩ => absurd q.2.1 (hnone s c q.1), fun z => absurd z (Nat.lt_irrefl 0)⟩⟩, fun j hj => ⟨0, ?_, Nat.zero_le _, fun y ⟨c, q, r, _⟩ => absurd r (hnone _ c q), fun z => absurd z (Nat.lt_irrefl 0)⟩, ?_⟩⟩
      · rw [pk_un (by omega)]; exact hmo j (by omega)
      · rw [pk_us]; rfl
    | succ d ih =>
      intro i mo told c1 c2 me pa hi hmo
      unfold wp_X1_tell_b89
      refine br_f (nI_ge (by omega) (by omega)) ⟨vi (by omega) (by omega), ?_⟩
      rw [nI_clamp (by omega), nI_1]
      refine ih (i + 1) _ _ _ _ _ _ (by omega) (fun j hj => ?_)
      by_cases z : j = i
      · rw [z, pk_us]; rfl
      · rw [pk_un z]; exact hmo j (by omega)
  -- on
  have O : ∀ (so la : Nat → Int32), (∀ x, x < 12 → so x = mI 0) → (∀ x, x < 12 → la x = mI 0) → ∀ (d i : Nat) (le mo told : Nat → Int32) (c1 c2 : Int32) (me pa : Nat → Int32), i + d = 3 ^ n → 1 ≤ i → (∀ j, j < i → le j = mI (sn K w n (sAt j))) → wp_X1_tell_b42 Q (nI (3 ^ n)) lo wa (d + 1) (nI i) so la le mo told c1 c2 me pa := by
    intro so la hso hla d
    induction d with
    | zero =>
      intro i le mo told c1 c2 me pa hi h1 hle
      obtain rfl : i = 3 ^ n := by omega
      unfold wp_X1_tell_b42 wp_X1_tell_b86
      exact br_t (nI_le (by omega) (by omega)) ⟨_, M le so la hle hso hla (3 ^ n) 0 mo told c1 c2 me pa (by omega) (fun j hj => absurd hj (Nat.not_lt_zero j))⟩
    | succ d ih =>
      intro i le mo told c1 c2 me pa hi h1 hle
      have i7 : vp_in (nI i) 729 := vi (by omega) (by omega)
      have hiN := (sAt_lt_N hn (by omega : i < 729)).mpr (by omega)
      unfold wp_X1_tell_b42 wp_X1_tell_b80
      rw [nI_clamp (by omega), nI_1]
      refine br_f (nI_ge (by omega) (by omega)) ⟨i7, i7, ?_⟩
      have hle' : ∀ j, j < i → upd le i (100 : Int32) j = mI (sn K w n (sAt j)) := fun j hj => by rw [pk_un (by omega)]; exact hle j hj
      cases hb : br (sAt i) with
      | true =>
        refine br_t (hloB _ (by omega) hb) (ih (i + 1) _ _ _ _ _ _ _ (by omega) (by omega) (fun j hj => ?_))
        by_cases z : j = i
        · subst z
          have h101 : sn K w n (sAt j) = 101 := by
            have := sn_le (K := K) (w := w) (n := n) (v := sAt j)
            rcases Nat.lt_or_ge (sn K w n (sAt j)) 101 with q | q
            · have := (sn_br h (sAt j) hiN q).2; rw [hb] at this; cases this
            · omega
          rw [pk_us, h101]; rfl
        · exact hle' j (by omega)
      | false =>
        obtain ⟨l1, l2⟩ := hloN _ (by omega : i < 3 ^ n) hb
        refine br_f l2 (s_goOnTo h (by omega) h1 hb l1 hw hwa hle' (by rw [pk_us]; rfl) (fun le' told c1 c2 me pa g1 g2 => ih (i + 1) _ _ _ _ _ _ _ (by omega) (by omega) (fun j hj => ?_)))
        by_cases z : j = i
        · subst z; exact g2
        · rw [g1 j z]; exact hle' j (by omega)
  -- the first
  have A : ∀ (d x : Nat) (so la le mo told : Nat → Int32) (c1 c2 : Int32) (me pa : Nat → Int32), x + d = 12 → (∀ y, y < x → so y = mI 0 ∧ la y = mI 0) → wp_X1_tell_b3 Q (nI (3 ^ n)) lo wa (d + 1) (nI x) so la le mo told c1 c2 me pa := by
    intro d
    induction d with
    | zero =>
      intro x so la le mo told c1 c2 me pa hx hz
      obtain rfl : x = 12 := by omega
      unfold wp_X1_tell_b3 wp_X1_tell_b32
      refine br_t (nI_le (a := 12) (by omega) (by omega)) ⟨vi (k := 0) (by omega) (by omega), _, O so la (fun y hy => (hz y hy).1) (fun y hy => (hz y hy).2) (3 ^ n - 1) 1 _ _ _ _ _ _ _ (by omega) (Nat.le_refl 1) (fun j hj => ?_)⟩
      obtain rfl : j = 0 := by omega
      rw [show (0 : Int32).toNatClampNeg = 0 from rfl, pk_us, sAt_0, sn_0]; rfl
    | succ d ih =>
      intro x so la le mo told c1 c2 me pa hx hz
      have ix : vp_in (nI x) 12 := vi (by omega) (by omega)
      unfold wp_X1_tell_b3
      refine br_f (nI_ge (b := 12) (by omega) (by omega)) ⟨ix, ix, ?_⟩
      rw [nI_clamp (by omega), nI_1]
      refine ih (x + 1) _ _ _ _ _ _ _ _ _ (by omega) (fun y hy => ?_)
      by_cases z : y = x
      · rw [z, pk_us, pk_us]; exact ⟨rfl, rfl⟩
      · rw [pk_un z, pk_un z]; exact hz y (by omega)
  unfold wp_X1_tell
  exact ⟨13, A 12 0 _ _ _ _ _ _ _ _ _ rfl (fun y hy => absurd hy (Nat.not_lt_zero y))⟩
