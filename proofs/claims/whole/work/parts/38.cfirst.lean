/-! the class's FIRST -/
theorem nx_mask {n s : Nat} (hn : n < 7) (hs : s < 2 ^ (2 * n)) (hv : vl s = true) : ((1365 &&& (2 ^ (2 * n) - 1)) &&& (s ^^^ 4294967295)) ||| (((1365 &&& s) * 2) &&& (s ^^^ 4294967295)) = nx s n := by
  have h4 := p4_le hn
  have hv := (vl_iff (by omega)).mp hv
  apply Nat.eq_of_testBit_eq
  intro e
  have hb : ∀ x, x < 32 → (s ^^^ 4294967295).testBit x = !s.testBit x := fun x hx => by rw [Nat.testBit_xor, tb_mask x hx, Bool.xor_true]
  have h2 : ∀ x, ((1365 &&& s) * 2).testBit (x + 1) = (1365 &&& s).testBit x := fun x => by
    rw [Nat.testBit_succ, show (1365 &&& s) * 2 / 2 = 1365 &&& s by omega]
  have h20 : ((1365 &&& s) * 2).testBit 0 = false := by rw [Nat.testBit_zero]; simp
  have hhi : ∀ x, 16 ≤ x → Nat.testBit 1365 x = false := fun x hx => tb_small (x := 16) (by decide) hx
  rw [Nat.testBit_or, Nat.testBit_and, Nat.testBit_and, Nat.testBit_and, Nat.testBit_two_pow_sub_one]
  by_cases he : e < 16
  · rw [hb e (by omega), tb_1365 e he]
    rcases Nat.mod_two_eq_zero_or_one e with q | q
    · obtain ⟨t, rfl⟩ : ∃ t, e = 2 * t := ⟨e / 2, by omega⟩
      have z2 : ((1365 &&& s) * 2).testBit (2 * t) = false := by
        rcases Nat.eq_zero_or_pos t with z | z
        · rw [z]; exact h20
        · obtain ⟨u, hu⟩ : ∃ u, 2 * t = (2 * u + 1) + 1 := ⟨t - 1, by omega⟩
          rw [hu, h2, Nat.testBit_and, tb_1365 (2 * u + 1) (by omega), decide_eq_false (p := (2 * u + 1) % 2 = 0) (by omega)]; simp
      rw [z2, Bool.false_and, Bool.or_false, decide_eq_true (p := 2 * t % 2 = 0) (by omega), Bool.and_true]
      by_cases ht : t < n
      · rw [(nx_bit s n t ht).1, decide_eq_true (p := 2 * t < 12) (by omega), decide_eq_true (p := 2 * t < 2 * n) (by omega)]
        have := hv t
        cases a : s.testBit (2 * t + 1)
        · simp
        · rw [this a]; rfl
      · rw [nx_hi (by omega), decide_eq_false (p := 2 * t < 2 * n) (by omega)]; simp
    · obtain ⟨t, rfl⟩ : ∃ t, e = 2 * t + 1 := ⟨e / 2, by omega⟩
      rw [decide_eq_false (p := (2 * t + 1) % 2 = 0) (by omega), h2, Nat.testBit_and, tb_1365 (2 * t) (by omega), decide_eq_true (p := 2 * t % 2 = 0) (by omega)]
      by_cases ht : t < n
      · rw [(nx_bit s n t ht).2, decide_eq_true (p := 2 * t < 12) (by omega)]; simp
      · rw [nx_hi (by omega), tb_small hs (by omega : 2 * n ≤ 2 * t)]; simp
  · have z1 := hhi e (by omega)
    have z2 : ((1365 &&& s) * 2).testBit e = false := by
      have : (1365 &&& s) * 2 < 2 ^ 12 := by
        have : 1365 &&& s ≤ 1365 := Nat.and_le_left
        omega
      exact tb_small this (by omega)
    rw [z1, z2, nx_hi (by omega)]; simp
theorem s_leastBehind {n : Nat} {K : Nat → Nat → Bool} {br : Nat → Bool} {lw : Nat → Nat} (h : CG n K br lw) {s : Nat} {lo : Nat → Int32} {wa rest : Nat → Int64} {c1 c2 : Int32} {me pa : Nat → Int32} {Q : Int32 → Int32 → Int32 → (Nat → Int32) → (Nat → Int32) → Prop} (hLW : LW br lw (wF (ed K n) (2 ^ (2 * n))) (3 ^ n) lo wa) (hrest : ∀ j, j < 3 ^ n → br (sAt j) = false → rest j = lN (wB (ed K n) (2 ^ (2 * n)) (sAt j))) (hBD : BD n)
    (hs : s < 2 ^ (2 * n)) (hv : vl s = true) (hb : br s = false) (hB : wB (ed K n) (2 ^ (2 * n)) s ≠ 0) (hf : s ≠ 2 ^ (2 * n) - 1) (hQ : ∀ c1 c2 me pa, Q (nI (lst1 n K s)) c1 c2 me pa) : wp_X3_leastBehind (nI s) (nI (2 ^ (2 * n) - 1)) rest lo c1 c2 me pa Q := by
  have hn := h.1
  have h3 := p3_le hn
  have h4 := p4_le hn
  have hm1 : (-1 : Int32) = nI 4294967295 := by decide
  obtain ⟨g1, g2⟩ := lst1_ok hs hB hf
  have gno := fun d (hd : d < lst1 n K s) => fa_first_no (okm n K s) (2 ^ (2 * n)) d hd
  generalize lst1 n K s = c at *
  obtain ⟨o1, o2⟩ := okm_iff.mp g2
  have o3 := ed_1 o1
  have hl6 : (pE (nx s n) 12).length ≤ 6 := nx_6 (s := s) hn (sb_self _)
  have hnx := nx_lt s n
  have e15 : 1365 &&& s ≤ 1365 := Nat.and_le_left
  have hlen : (pL (nx s n) 12).length ≤ 64 := by
    rw [pL_len]
    calc 2 ^ (pE (nx s n) 12).length ≤ 2 ^ 6 := Nat.pow_le_pow_right (by decide) hl6
      _ = 64 := rfl
  -- the place of c
  obtain ⟨kc, k1, k2⟩ := List.getElem_of_mem ((pL_mem (nx s n) 12 c).mpr ⟨by omega, o3.2.2.1⟩)
  have k3 : (pL (nx s n) 12).getD kc 0 = c := by rw [List.getD_eq_getElem?_getD, List.getElem?_eq_getElem k1]; exact k2
  have k0 : 1 ≤ kc := by
    rcases Nat.eq_zero_or_pos kc with z | z
    · rw [z, pL_0] at k3; exact absurd k3.symm o3.2.1
    · exact z
  have hk : ∀ me pa : Nat → Int32, (∀ k, k < (pL (nx s n) 12).length → pa k = nI ((pL (nx s n) 12).getD k 0)) → ∀ (d k : Nat), k + d = kc → 1 ≤ k → wp_X3_leastBehind_b37 Q rest lo (d + 1) (nI s) (nI k) (nI (pE (nx s n) 12).length) (nI (pL (nx s n) 12).length) me pa := by
    intro me pa hpa d
    induction d with
    | zero =>
      intro k hk h1
      obtain rfl : k = kc := by omega
      have hN := mo_N hs o3.2.2.1
      have hv2 := mo_vl hn hs hv o3.2.2.1
      have hp := pOf_lt_N hn hN hv2
      have hc := (h.2.2.2 s c hs hv hb o3.2.2.1).mp o3.2.2.2.1
      have v1 : vp_in (nI (pOf (s + c))) 729 := (z_in (by omega)).mpr (by omega)
      have hlw := cg_lw h hN hv2
      have hB3 := hBD K (s + c) hN
      unfold wp_X3_leastBehind_b37
      refine br_f (nI_ge (by omega) (by omega)) ⟨(z_in (by omega)).mpr (by omega), ?_⟩
      rw [nI_clamp (by omega), hpa k k1, k3, fa_or, ← mo_add o3.2.2.1, e_placeOf (by omega)]
      refine ⟨v1, ?_⟩
      rw [nI_clamp (by omega), (hLW _ hp.1).1, hp.2, hc.1, if_neg (by decide)]
      refine br_f (by rw [show (-1 : Int32) = -nI 1 from rfl, z_ne (by omega) (by omega) (by omega)]; exact fun z => z) ⟨v1, br_t ?_ ⟨v1, br_f ?_ (hQ _ _ _ _)⟩⟩
      · rw [zl 0, z_msk (by omega)]; exact hc.2
      · rw [hrest _ hp.1 (by rw [hp.2]; exact hc.1), hp.2, zL 0, zl 0, z_cmp (by omega)]; exact o2
    | succ d ih =>
      intro k hk h1
      have ih := ih (k + 1) (by omega) (by omega)
      have hklen : k < (pL (nx s n) 12).length := by omega
      have hsb := pL_sb hklen
      have hlt := pL_mono (nx s n) 12 k kc (by omega) k1
      rw [k3] at hlt
      have hpos := pL_mono (nx s n) 12 0 k h1 hklen
      rw [pL_0] at hpos
      have hno := gno _ hlt
      have hpk := hpa k hklen
      generalize (pL (nx s n) 12).getD k 0 = b at *
      have hN := mo_N hs hsb
      have hv2 := mo_vl hn hs hv hsb
      have hp := pOf_lt_N hn hN hv2
      have v1 : vp_in (nI (pOf (s + b))) 729 := (z_in (by omega)).mpr (by omega)
      have hlw := cg_lw h hN hv2
      have hB3 := hBD K (s + b) hN
      have hKb := h.2.2.2 s b hs hv hb hsb
      unfold wp_X3_leastBehind_b37 wp_X3_leastBehind_b107
      rw [nI_1]
      refine br_f (nI_ge (by omega) (by omega)) ⟨(z_in (by omega)).mpr (by omega), ?_⟩
      rw [nI_clamp (by omega), hpk, fa_or, ← mo_add hsb, e_placeOf (by omega)]
      refine ⟨v1, ?_⟩
      rw [nI_clamp (by omega), (hLW _ hp.1).1, hp.2]
      cases hbb : br (s + b) with
      | true => exact br_t rfl ih
      | false =>
        rw [if_neg (by decide)]
        refine br_f (by rw [show (-1 : Int32) = -nI 1 from rfl, z_ne (by omega) (by omega) (by omega)]; exact fun z => z) ⟨v1, br_c (fun q => ⟨v1, br_c (fun _ => ih) (fun q2 => ?_)⟩) (fun _ => ih)⟩
        exfalso
        rw [zl 0, z_msk (by omega)] at q
        rw [hrest _ hp.1 (by rw [hp.2]; exact hbb), hp.2, zL 0, zl 0, z_cmp (by omega)] at q2
        have hK := hKb.mpr ⟨hbb, q⟩
        have : okm n K s b = true := okm_iff.mpr ⟨by rw [ed_eq ⟨hv, by omega, hsb⟩, if_pos hK]; decide, q2⟩
        rw [hno] at this; cases this
  unfold wp_X3_leastBehind
  rw [hm1, zl 1365, zl 1, zl 31, z_xor, fa_and, fa_and, fa_and, z_shl (by omega) (by omega), fa_and]
  intro y1 hy1 y2 hy2
  subst hy1; subst hy2
  rw [fa_or, Nat.pow_one, nx_mask hn hs hv]
  refine t_take (by omega) hl6 (fun me pa _ hpa => ⟨_, hk me pa hpa (kc - 1) 1 (by omega) (Nat.le_refl 1)⟩)
def FST (n : Nat) (K : Nat → Nat → Bool) (m : Int32) (mt : Nat → Int32) : Prop := wB (ed K n) (2 ^ (2 * n)) 0 ≠ 0 → m = nI (mos n K) ∧ ∀ e, e < 2 * n → mt e = nI (mo n K e)
theorem s_findFirst {n : Nat} {K : Nat → Nat → Bool} {br : Nat → Bool} {lw : Nat → Nat} (h : CG n K br lw) {lo : Nat → Int32} {wa rest : Nat → Int64} {m0 c1 c2 : Int32} {mt me pa : Nat → Int32} {Q : Int32 → (Nat → Int32) → Int32 → Int32 → (Nat → Int32) → (Nat → Int32) → Prop} (hLW : LW br lw (wF (ed K n) (2 ^ (2 * n))) (3 ^ n) lo wa) (hrest : ∀ j, j < 3 ^ n → br (sAt j) = false → rest j = lN (wB (ed K n) (2 ^ (2 * n)) (sAt j))) (hBD : BD n)
    (hQ : ∀ m mt c1 c2 me pa, FST n K m mt → Q m mt c1 c2 me pa) : wp_X3_findFirst (nI n) (lN (wB (ed K n) (2 ^ (2 * n)) 0)) m0 mt rest lo c1 c2 me pa Q := by
  have hn := h.1
  have h4 := p4_le hn
  have h1N : 1 ≤ 2 ^ (2 * n) := Nat.two_pow_pos _
  have hB0 := hBD K 0 (Nat.two_pow_pos _)
  unfold wp_X3_findFirst
  rw [zl 1, zl 2, zl 31, pk_mul, z_one (by omega), pk_sub h1N]
  intro y hy
  subst hy
  by_cases hz : wB (ed K n) (2 ^ (2 * n)) 0 = 0
  · refine ⟨1, ?_⟩
    have fin : ∀ mt c1 c2 me pa, Q (nI 0) mt c1 c2 me pa := fun mt c1 c2 me pa => hQ _ _ _ _ _ _ (fun z => absurd hz z)
    unfold wp_X3_findFirst_b20
    refine br_f (by decide) (br_c (fun _ => fin _ _ _ _ _) (fun _ => br_t ?_ (fin _ _ _ _ _)))
    rw [zL 0, zl 0, z_cmp (by omega)]; exact hz
  · obtain ⟨m1, m2, m3⟩ := mos_ok hn hz
    have fin0 : ∀ mt c1 c2 me pa, (∀ e, e < 2 * n → mt e = nI (mo n K e)) → Q (nI (mos n K)) mt c1 c2 me pa := fun mt c1 c2 me pa he => hQ _ _ _ _ _ _ (fun _ => ⟨rfl, he⟩)
    generalize hmos : mos n K = mm at *
    have main : ∀ (d k : Nat) (mt : Nat → Int32) (c1 c2 : Int32) (me pa : Nat → Int32), k + d = mm → (∀ e, e < 2 * n → (pth n K k).testBit e = true → mt e = nI (mo n K e)) → wp_X3_findFirst_b20 Q (lN (wB (ed K n) (2 ^ (2 * n)) 0)) rest lo (d + 1) (nI (2 ^ (2 * n) - 1)) (nI (pth n K k)) (nI k) (nI k) mt c1 c2 me pa := by
      intro d
      induction d with
      | zero =>
        intro k mt c1 c2 me pa hk h1
        obtain rfl : k = mm := by omega
        have fin : ∀ c1 c2 me pa, Q (nI k) mt c1 c2 me pa := fun c1 c2 me pa => fin0 _ _ _ _ _ (fun e he => h1 e he (by rw [m2]; exact full_bit he))
        unfold wp_X3_findFirst_b20
        rw [m2]
        exact br_c (fun _ => fin _ _ _ _) (fun _ => br_t rfl (fin _ _ _ _))
      | succ d ih =>
        intro k mt c1 c2 me pa hk h1
        have hf := m3 k (by omega)
        obtain ⟨q1, q2, q3⟩ := pth_ok hn hz k
        obtain ⟨p1, p2, p3, p4⟩ := pth_step hn hz hf
        have hnew := fun e (he : e < 2 * n) hb => mo_new hn hz (e := e) (k := k) he (by rw [hmos]; omega) hb
        have hsnd : br (pth n K k) = false := by
          -- each set of the path is sound: it comes from sound ones by moves
          have : ∀ j, br (pth n K j) = false := by
            intro j
            induction j with
            | zero => rw [pth]; exact h.2.1
            | succ j ihj =>
              by_cases hfj : pth n K j = 2 ^ (2 * n) - 1
              · rw [pth, if_pos hfj]; exact ihj
              · obtain ⟨r1, r2, r3⟩ := pth_ok hn hz j
                obtain ⟨t1, t2, t3, t4⟩ := pth_step hn hz hfj
                have t5 := (ed_1 (okm_iff.mp (lst1_ok r1 r2 hfj).2).1).2.2.2.1
                rw [t1]
                exact ((h.2.2.2 _ _ r1 r3 ihj t3).mp t5).1
          exact this k
        unfold wp_X3_findFirst_b20
        refine br_f (nI_ge (b := 12) (by omega) (by omega)) (br_f ?_ (br_f ?_ ?_))
        · rw [nI_eq (by omega) (by omega)]; exact hf
        · rw [zL 0, zl 0, z_cmp (by omega)]; exact hz
        refine s_leastBehind h hLW hrest hBD q1 q3 hsnd q2 hf (fun c1 c2 me pa => ?_)
        generalize hs : pth n K k = s at *
        generalize hc : lst1 n K s = c at *
        have T : ∀ (f x : Nat) (mt : Nat → Int32), x + f = 12 → (∀ e, e < 2 * n → s.testBit e = true → mt e = nI (mo n K e)) → (∀ e, e < x → c.testBit e = true → mt e = nI (mo n K e)) → wp_X3_findFirst_b58 Q (wp_X3_findFirst_b20 Q (lN (wB (ed K n) (2 ^ (2 * n)) 0)) rest lo (d + 1)) (f + 1) (nI (2 ^ (2 * n) - 1)) (nI s) (nI k) (nI c) (nI x) (nI k) mt c1 c2 me pa := by
          intro f
          induction f with
          | zero =>
            intro x mt hx g1 g2
            obtain rfl : x = 12 := by omega
            unfold wp_X3_findFirst_b58 wp_X3_findFirst_b91
            refine br_t (nI_le (a := 12) (by omega) (by omega)) ?_
            rw [fa_or, ← mo_add p3, ← p1, nI_1]
            refine ih (k + 1) mt c1 c2 me pa (by omega) (fun e he hb => ?_)
            rw [p1, mo_bit p3, Bool.or_eq_true] at hb
            exact hb.elim (g1 e he) (g2 e (by omega))
          | succ f ihf =>
            intro x mt hx g1 g2
            unfold wp_X3_findFirst_b58 wp_X3_findFirst_b85
            refine br_f (nI_ge (b := 12) (by omega) (by omega)) ?_
            rw [zl 1, zl 31, z_bit (by omega) (by omega), bI_1, nI_clamp (by omega), nI_add]
            refine br_c (fun hb => ⟨(z_in (by omega)).mpr (by omega), ?_⟩) (fun hb => ?_)
            · have hx2 : x < 2 * n := by
                rcases Nat.lt_or_ge x (2 * n) with z | z
                · exact z
                · rw [tb_small p4 z] at hb; cases hb
              have hmo := hnew x hx2 hb
              have hsx : s.testBit x = false := by
                have hz := congrArg (fun z => z.testBit x) (mo_apart p3)
                simp only [Nat.testBit_and, hb, Bool.and_true, Nat.zero_testBit] at hz
                exact hz
              refine ihf (x + 1) _ (by omega) (fun e he hb2 => ?_) (fun e he hb2 => ?_)
              · rw [pk_un (fun z => by rw [z, hsx] at hb2; cases hb2)]; exact g1 e he hb2
              · by_cases z : e = x
                · rw [z, pk_us, hmo]
                · rw [pk_un z]; exact g2 e (by omega) hb2
            · refine ihf (x + 1) mt (by omega) g1 (fun e he hb2 => ?_)
              by_cases z : e = x
              · rw [z] at hb2; exact absurd hb2 hb
              · exact g2 e (by omega) hb2
        exact ⟨13, T 12 0 mt rfl h1 (fun e he => absurd he (Nat.not_lt_zero e))⟩
    exact ⟨_, main mm 0 mt c1 c2 me pa (by omega) (fun e he hb => by rw [pth, Nat.zero_testBit] at hb; cases hb)⟩
/-- what the class holds when it has found -/
def FND (n : Nat) (K : Nat → Nat → Bool) (fits : Int64) (m : Int32) (mt : Nat → Int32) (ah al : Nat → Int64) : Prop := fits = lN (wB (ed K n) (2 ^ (2 * n)) 0) ∧ FST n K m mt ∧ (∀ x y, x < 12 → y < 2 * n → ah (12 * x + y) = lN (AH n K x y)) ∧ ∀ x y, x < y → y < 12 → al (12 * x + y) = lN (AL n K x y)
theorem s_weighF {n : Nat} {K : Nat → Nat → Bool} {br : Nat → Bool} {lw : Nat → Nat} (h : CG n K br lw) {lo : Nat → Int32} {wa : Nat → Int64} {f0 : Int64} {m0 c1 c2 : Int32} {mt me pa : Nat → Int32} {ah al rest share : Nat → Int64} {Q : Int64 → Int32 → (Nat → Int32) → (Nat → Int64) → (Nat → Int64) → (Nat → Int64) → (Nat → Int64) → Int32 → Int32 → (Nat → Int32) → (Nat → Int32) → Prop} (hLW : LW br lw (wF (ed K n) (2 ^ (2 * n))) (3 ^ n) lo wa) (hBD : BD n)
    (hQ : ∀ f m mt ah al rest share c1 c2 me pa, FND n K f m mt ah al → Q f m mt ah al rest share c1 c2 me pa) : wp_X3_weigh (nI n) f0 m0 mt ah al rest share (nI (3 ^ n)) lo wa c1 c2 me pa Q := by
  have hn := h.1
  have h3 := p3_le hn
  have h4 := p4_le hn
  have h30 : 0 < 3 ^ n := Nat.pow_pos (by decide)
  have h1N : 1 ≤ 2 ^ (2 * n) := Nat.two_pow_pos _
  have hfull := sAt_full n hn
  unfold wp_X3_weigh
  refine s_allWays hn hLW ?_
  rw [← BF_all]
  -- the loop over the sets
  have L87 : ∀ (ah al rest share : Nat → Int64), (∀ p, p < 144 → ah p = lN 0) → (∀ p, p < 144 → al p = lN 0) → (∀ j, j < 3 ^ n → rest j = lN (if j = 3 ^ n - 1 then 1 else 0)) → wp_X3_weigh_b87 Q lo wa (3 ^ n - 1 + 1) (nI n) (nI (3 ^ n - 1)) (lN (wB (ed K n) (2 ^ (2 * n)) 0)) m0 mt ah al rest share c1 c2 me pa := by
    intro ah al rest share g1 g2 g3
    refine s_weighLoop h hLW (fun s hs => by have := hBD K s hs; omega) (fun ah al rest share c1 c2 me pa k1 k2 k3 => ?_) (3 ^ n - 1) (by omega) ah al rest share c1 c2 me pa (fun j hj hb => ?_) (fun x y hx hy => ?_) (fun x y hx hy => ?_)
    · unfold wp_X3_weigh_b142
      exact s_findFirst h hLW k3 hBD (fun m mt c1 c2 me pa hm => hQ _ _ _ _ _ _ _ _ _ _ _ ⟨rfl, hm, k1, k2⟩)
    · have hNj := (sAt_lt_N hn (by omega)).mpr hj
      rw [g3 j hj, sm_z (fun M hM => ?_), Nat.add_zero]
      · by_cases z : j = 3 ^ n - 1
        · rw [if_pos z, if_pos (by rw [z, hfull])]
        · have := sAt_mono (i := j) (j := 3 ^ n - 1) (by omega) (by omega)
          rw [if_neg z, if_neg (by omega)]
      · by_cases z : sAt (3 ^ n - 1) < sAt j + M
        · rw [if_pos z]
          rcases Nat.eq_zero_or_pos (ed K n (sAt j) M) with u | u
          · rw [u, Nat.zero_mul]
          · have := ed_E (sAt j) M hNj (by omega : ed K n (sAt j) M ≠ 0)
            omega
        · rw [if_neg z]
    · rw [g1 _ (by omega), sm_z (fun j hj => if_neg (by omega))]
    · rw [g2 _ (by omega), sm_z (fun j hj => if_neg (by omega))]
  have L44 : ∀ (d i : Nat) (ah al rest share : Nat → Int64), i + d = 3 ^ n → (∀ p, p < 144 → ah p = lN 0) → (∀ p, p < 144 → al p = lN 0) → (∀ j, j < i → rest j = lN 0) → wp_X3_weigh_b44 Q (nI (3 ^ n)) lo wa (d + 1) (nI n) (nI i) (lN (wB (ed K n) (2 ^ (2 * n)) 0)) m0 mt ah al rest share c1 c2 me pa := by
    intro d
    induction d with
    | zero =>
      intro i ah al rest share hi g1 g2 g3
      obtain rfl : i = 3 ^ n := by omega
      unfold wp_X3_weigh_b44 wp_X3_weigh_b67
      refine br_t (nI_le (by omega) (by omega)) ?_
      rw [zl 1, pk_sub h30, nI_clamp (by omega)]
      refine ⟨(z_in (by omega)).mpr (by omega), 3 ^ n - 1 + 1, L87 ah al _ share g1 g2 (fun j hj => ?_)⟩
      by_cases z : j = 3 ^ n - 1
      · rw [if_pos z, z, pk_uLs]; rfl
      · rw [if_neg z, pk_uLn z]; exact g3 j hj
    | succ d ih =>
      intro i ah al rest share hi g1 g2 g3
      unfold wp_X3_weigh_b44
      refine br_f (nI_ge (by omega) (by omega)) ⟨(z_in (by omega)).mpr (by omega), ?_⟩
      rw [nI_clamp (by omega), nI_1]
      refine ih (i + 1) ah al _ share (by omega) g1 g2 (fun j hj => ?_)
      by_cases z : j = i
      · rw [z, pk_uLs]; rfl
      · rw [pk_uLn z]; exact g3 j (by omega)
  have L11 : ∀ (d p : Nat) (ah al : Nat → Int64), p + d = 144 → (∀ q, q < p → ah q = lN 0) → (∀ q, q < p → al q = lN 0) → wp_X3_weigh_b11 Q (nI (3 ^ n)) lo wa (d + 1) (nI n) (nI p) (lN (wB (ed K n) (2 ^ (2 * n)) 0)) m0 mt ah al rest share c1 c2 me pa := by
    intro d
    induction d with
    | zero =>
      intro p ah al hp g1 g2
      obtain rfl : p = 144 := by omega
      unfold wp_X3_weigh_b11 wp_X3_weigh_b41
      refine br_t (nI_le (a := 144) (by omega) (by omega)) ⟨3 ^ n + 1, L44 (3 ^ n) 0 ah al rest share (by omega) g1 g2 (fun j hj => absurd hj (Nat.not_lt_zero j))⟩
    | succ d ih =>
      intro p ah al hp g1 g2
      unfold wp_X3_weigh_b11
      refine br_f (nI_ge (b := 144) (by omega) (by omega)) ⟨(z_in (by omega)).mpr (by omega), (z_in (by omega)).mpr (by omega), ?_⟩
      rw [nI_clamp (by omega), nI_1]
      refine ih (p + 1) _ _ (by omega) (fun q hq => ?_) (fun q hq => ?_)
      · by_cases z : q = p
        · rw [z, pk_uLs]; rfl
        · rw [pk_uLn z]; exact g1 q (by omega)
      · by_cases z : q = p
        · rw [z, pk_uLs]; rfl
        · rw [pk_uLn z]; exact g2 q (by omega)
  exact ⟨145, L11 144 0 ah al rfl (fun q hq => absurd hq (Nat.not_lt_zero q)) (fun q hq => absurd hq (Nat.not_lt_zero q))⟩
