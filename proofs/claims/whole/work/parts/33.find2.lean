/-! Findings.weighStepsTo -/
def shF (F B : Nat → Nat) (lw : Nat → Nat) (v q : Nat) : Nat := if q = 0 then 0 else F (v - (pL (lw v) 12).getD q 0) * B v
theorem cg_len {n : Nat} {K : Nat → Nat → Bool} {br : Nat → Bool} {lw : Nat → Nat} (h : CG n K br lw) {v : Nat} (hv : v < 2 ^ (2 * n)) (hvl : vl v = true) : (pL (lw v) 12).length ≤ 64 ∧ 0 < (pL (lw v) 12).length := by
  have hl := cg_lw h hv hvl
  rw [pL_len]
  refine ⟨?_, Nat.two_pow_pos _⟩
  calc 2 ^ (pE (lw v) 12).length ≤ 2 ^ 6 := Nat.pow_le_pow_right (by decide) hl.2
    _ = 64 := rfl
theorem s_zeta {Q : (Nat → Int64) → (Nat → Int64) → Int32 → Int32 → (Nat → Int32) → (Nat → Int32) → Prop} {rest : Nat → Int64} {r : Nat} {sh : Nat → Nat} {me pa : Nat → Int32} (hr : r ≤ 6)
    (hQ : ∀ share : Nat → Int64, (∀ k, k < 2 ^ r → share k = lN (zS sh (2 ^ r) r k)) → Q rest share (nI r) (nI (2 ^ r)) me pa) (share : Nat → Int64) (hs : ∀ k, k < 2 ^ r → share k = lN (sh k)) : wp_X3_weighStepsTo_b93 Q rest share (nI r) (nI (2 ^ r)) me pa := by
  have hC : 2 ^ r ≤ 64 := Nat.pow_le_pow_right (by decide : 2 > 0) hr
  have main : ∀ (d m : Nat) (share : Nat → Int64), m + d = r → (∀ k, k < 2 ^ r → share k = lN (zS sh (2 ^ r) m k)) → wp_X3_weighStepsTo_b96 Q (d + 1) (nI m) rest share (nI r) (nI (2 ^ r)) me pa := by
    intro d
    induction d with
    | zero =>
      intro m share hm h
      obtain rfl : m = r := by omega
      unfold wp_X3_weighStepsTo_b96
      exact br_t (nI_le (by omega) (by omega)) (hQ share h)
    | succ d ih =>
      intro m share hm h
      have inner : ∀ (f k : Nat) (share : Nat → Int64), k + f = 2 ^ r → (∀ q, q < k → share q = lN (zS sh (2 ^ r) (m + 1) q)) → (∀ q, k ≤ q → q < 2 ^ r → share q = lN (zS sh (2 ^ r) m q)) → wp_X3_weighStepsTo_b108 Q (wp_X3_weighStepsTo_b96 Q (d + 1)) (f + 1) (nI m) (nI k) rest share (nI r) (nI (2 ^ r)) me pa := by
        intro f
        induction f with
        | zero =>
          intro k share hk h1 h2
          unfold wp_X3_weighStepsTo_b108 wp_X3_weighStepsTo_b155
          refine br_t (nI_le (by omega) (by omega)) ?_
          rw [nI_1]
          exact ih (m + 1) share (by omega) (fun q hq => h1 q (by omega))
        | succ f ihf =>
          intro k share hk h1 h2
          have hp : 2 ^ m < 2 ^ r := Nat.pow_lt_pow_right (by decide) (by omega)
          unfold wp_X3_weighStepsTo_b108 wp_X3_weighStepsTo_b149
          refine br_f (nI_ge (by omega) (by omega)) ?_
          simp (disch := omega) only [zs, z_bit, bI_z, z_one, fa_or]
          refine br_c (fun q => ?_) (fun q => ?_)
          · have hor : k ||| 2 ^ m < 2 ^ r := Nat.or_lt_two_pow (by omega) hp
            have hne : k ||| 2 ^ m ≠ k := fun e => by
              have := congrArg (fun x => x.testBit m) e
              simp only [Nat.testBit_or, Nat.testBit_two_pow_self, Bool.or_true] at this
              rw [q] at this; cases this
            have hge : k ≤ k ||| 2 ^ m := Nat.left_le_or
            refine ⟨(z_in (by omega)).mpr (by omega), (z_in (by omega)).mpr (by omega), nm_e ⟨(z_in (by omega)).mpr (by omega), ?_⟩⟩
            rw [nI_clamp (by omega), nI_clamp (by omega), nI_add, h2 k (by omega) (by omega), h2 _ (by omega) hor, lN_add, ← zS_lo q (by omega)]
            refine ihf (k + 1) _ (by omega) (fun j hj => ?_) (fun j hj1 hj2 => ?_)
            · by_cases e : j = k
              · rw [e, pk_uLs]
              · rw [pk_uLn e]; exact h1 j (by omega)
            · rw [pk_uLn (by omega)]; exact h2 j (by omega) hj2
          · rw [nI_add]
            have q : k.testBit m = true := by simpa using q
            refine ihf (k + 1) _ (by omega) (fun j hj => ?_) (fun j hj1 hj2 => h2 j (by omega) hj2)
            by_cases e : j = k
            · rw [e, h2 k (by omega) (by omega), zS_hi q (by omega)]
            · exact h1 j (by omega)
      unfold wp_X3_weighStepsTo_b96
      refine br_f (nI_ge (by omega) (by omega)) ⟨2 ^ r + 1, ?_⟩
      exact inner (2 ^ r) 0 share (by omega) (fun q hq => absurd hq (Nat.not_lt_zero q)) (fun q _ hq => h q hq)
  unfold wp_X3_weighStepsTo_b93
  exact ⟨r + 1, main r 0 share (by omega) (fun k hk => by rw [zS_0 hC hk]; exact hs k hk)⟩
def hit (lw : Nat → Nat) (i j k : Nat) : Bool := oB (fun q => decide (1 ≤ q ∧ sAt j = sAt i - (pL (lw (sAt i)) 12).getD q 0)) k
theorem hit_iff {lw : Nat → Nat} {i j k : Nat} : hit lw i j k = true ↔ ∃ q, 1 ≤ q ∧ q < k ∧ sAt j = sAt i - (pL (lw (sAt i)) 12).getD q 0 := by
  unfold hit
  rw [oB_iff]
  constructor
  · rintro ⟨q, h1, h2⟩
    have := of_decide_eq_true h2
    exact ⟨q, this.1, h1, this.2⟩
  · rintro ⟨q, h1, h2, h3⟩
    exact ⟨q, h2, decide_eq_true ⟨h1, h3⟩⟩
theorem s_weighSteps {n : Nat} {K : Nat → Nat → Bool} {br : Nat → Bool} {lw : Nat → Nat} (h : CG n K br lw) {F B : Nat → Nat} {i : Nat} {lo : Nat → Int32} {wa rest share : Nat → Int64} {c1 c2 : Int32} {me pa : Nat → Int32} {Q : (Nat → Int64) → (Nat → Int64) → Int32 → Int32 → (Nat → Int32) → (Nat → Int32) → Prop} (hi : i < 3 ^ n) (hb : br (sAt i) = false) (hLW : LW br lw F (3 ^ n) lo wa) (hrest : rest i = lN (B (sAt i)))
    (hQ : ∀ (rest' share' : Nat → Int64) (me pa : Nat → Int32), (∀ j, j < 729 → rest' j = rest j + lN (if sAt j ≤ sAt i ∧ sAt i - sAt j ≠ 0 ∧ sb (sAt i - sAt j) (lw (sAt i)) = true then B (sAt i) else 0)) → (∀ k, k < 2 ^ (pE (lw (sAt i)) 12).length → share' k = lN (zS (shF F B lw (sAt i)) (2 ^ (pE (lw (sAt i)) 12).length) (pE (lw (sAt i)) 12).length k)) → (∀ j, j < (pE (lw (sAt i)) 12).length → me j = nI ((pE (lw (sAt i)) 12).getD j 0)) → Q rest' share' (nI (pE (lw (sAt i)) 12).length) (nI (2 ^ (pE (lw (sAt i)) 12).length)) me pa) : wp_X3_weighStepsTo (nI i) rest share lo wa c1 c2 me pa Q := by
  have h3 := p3_le h.1
  have h4 := p4_le h.1
  have hs := sAt_all i (by omega)
  have hN := (sAt_lt_N h.1 (by omega)).mpr hi
  have hl := cg_lw h hN hs.2.2
  have hlen := cg_len h hN hs.2.2
  have hlo : lo i = nI (lw (sAt i)) := by rw [(hLW i hi).1, hb]; rfl
  unfold wp_X3_weighStepsTo
  rw [e_setAt (by omega)]
  refine ⟨(z_in (by omega)).mpr (by omega), ?_⟩
  rw [nI_clamp (by omega), hlo]
  refine t_take (by omega) hl.2 (fun me pa h5 h6 => ⟨(z_in (n := 0) (by omega)).mpr (by omega), ?_⟩)
  have main : ∀ (d k : Nat) (rs sh : Nat → Int64), k + d = (pL (lw (sAt i)) 12).length → 1 ≤ k → (∀ j, j < 729 → rs j = rest j + lN (if hit lw i j k = true then B (sAt i) else 0)) → (∀ q, q < k → sh q = lN (shF F B lw (sAt i) q)) → wp_X3_weighStepsTo_b26 Q wa (d + 1) (nI i) (nI (sAt i)) (nI k) rs sh (nI (pE (lw (sAt i)) 12).length) (nI (pL (lw (sAt i)) 12).length) me pa := by
    intro d
    induction d with
    | zero =>
      intro k rs sh hk h1 hr hsh
      unfold wp_X3_weighStepsTo_b26
      refine br_t (nI_le (by omega) (by omega)) ?_
      rw [pL_len]
      refine s_zeta hl.2 (fun sh' hsh' => hQ rs sh' me pa (fun j hj => ?_) hsh' h5) sh (fun q hq => hsh q (by rw [← pL_len] at hq; omega))
      rw [hr j hj]
      have hjs := sAt_all j hj
      congr 2
      have e : hit lw i j k = true ↔ (sAt j ≤ sAt i ∧ sAt i - sAt j ≠ 0 ∧ sb (sAt i - sAt j) (lw (sAt i)) = true) := by
        rw [hit_iff]
        constructor
        · rintro ⟨q, q1, q2, q3⟩
          obtain ⟨-, -, -, -, p5, p6, p7⟩ := cg_part h hi (by omega : q < (pL (lw (sAt i)) 12).length) q1
          have e2 : sAt i - sAt j = (pL (lw (sAt i)) 12).getD q 0 := by omega
          rw [e2]
          exact ⟨by omega, p6, p7⟩
        · rintro ⟨g1, g2, g3⟩
          have hm : sAt i - sAt j ∈ pL (lw (sAt i)) 12 := (pL_mem _ _ _).mpr ⟨by omega, g3⟩
          obtain ⟨q, q1, q2⟩ := List.getElem_of_mem hm
          have q3 : (pL (lw (sAt i)) 12).getD q 0 = sAt i - sAt j := by rw [List.getD_eq_getElem?_getD, List.getElem?_eq_getElem q1]; exact q2
          refine ⟨q, ?_, by omega, by omega⟩
          rcases Nat.eq_zero_or_pos q with z | z
          · rw [z, pL_0] at q3; omega
          · exact z
      by_cases z : hit lw i j k = true
      · rw [if_pos z, if_pos (e.mp z)]
      · rw [if_neg z, if_neg (fun y => z (e.mpr y))]
    | succ d ih =>
      intro k rs sh hk h1 hr hsh
      obtain ⟨p1, p2, p3, p4, p5, p6, p7⟩ := cg_part h hi (by omega : k < (pL (lw (sAt i)) 12).length) (by omega)
      have hri : rs i = lN (B (sAt i)) := by
        rw [hr i (by omega), hrest, lN_add, if_neg]
        · rfl
        · rw [hit_iff]
          rintro ⟨q, q1, q2, q3⟩
          obtain ⟨-, -, -, -, g5, g6, -⟩ := cg_part h hi (by omega : q < (pL (lw (sAt i)) 12).length) q1
          omega
      unfold wp_X3_weighStepsTo_b26
      refine br_f (nI_ge (by omega) (by omega)) ⟨(z_in (by omega)).mpr (by omega), ?_⟩
      rw [nI_clamp (by omega), h6 k (by omega), p1, e_placeOf p2]
      generalize hg : pOf (sAt i - (pL (lw (sAt i)) 12).getD k 0) = t at *
      have v1 : vp_in (nI t) 729 := (z_in (by omega)).mpr (by omega)
      have v2 : vp_in (nI i) 729 := (z_in (by omega)).mpr (by omega)
      refine ⟨v1, v2, nm_e ⟨v1, v1, v2, nm_e ⟨(z_in (by omega)).mpr (by omega), ?_⟩⟩⟩
      rw [nI_clamp (by omega), nI_clamp (by omega), pk_uLn (by omega), hri, nI_1]
      refine ih (k + 1) _ _ (by omega) (by omega) (fun j hj => ?_) (fun q hq => ?_)
      · by_cases e : j = t
        · subst e
          rw [pk_uLs, hr j (by omega), Int64.add_assoc, lN_add]
          congr 2
          rw [if_neg, if_pos, Nat.zero_add]
          · exact hit_iff.mpr ⟨k, h1, by omega, p4⟩
          · rw [hit_iff]
            rintro ⟨q, q1, q2, q3⟩
            have hm := pL_mono (lw (sAt i)) 12 q k q2 (by omega)
            obtain ⟨-, -, -, -, g5, g6, -⟩ := cg_part h hi (by omega : q < (pL (lw (sAt i)) 12).length) q1
            omega
        · rw [pk_uLn e, hr j hj]
          congr 2
          have e2 : hit lw i j k = true ↔ hit lw i j (k + 1) = true := by
            rw [hit_iff, hit_iff]
            constructor
            · rintro ⟨q, q1, q2, q3⟩; exact ⟨q, q1, by omega, q3⟩
            · rintro ⟨q, q1, q2, q3⟩
              refine ⟨q, q1, ?_, q3⟩
              rcases Nat.lt_or_ge q k with z | z
              · exact z
              · exfalso
                apply e
                rw [show q = k by omega, ← p4] at q3
                have := congrArg pOf q3
                rw [(sAt_all j hj).1, (sAt_all t (by omega)).1] at this
                exact this
          by_cases z : hit lw i j k = true
          · rw [if_pos z, if_pos (e2.mp z)]
          · rw [if_neg z, if_neg (fun y => z (e2.mpr y))]
      · by_cases e : q = k
        · rw [e, pk_uLs, (hLW t (by omega)).2, p4, lN_mul, shF, if_neg (by omega)]
        · rw [pk_uLn e]; exact hsh q (by omega)
  refine ⟨_, main ((pL (lw (sAt i)) 12).length - 1) 1 _ _ (by omega) (by omega) (fun j hj => ?_) (fun q hq => ?_)⟩
  · rw [if_neg]
    · show rest j = rest j + 0
      rw [Int64.add_zero]
    · rw [hit_iff]
      rintro ⟨q, q1, q2, -⟩; omega
  · obtain rfl : q = 0 := by omega
    show vp_updL share 0 (0 : Int64) 0 = _
    rw [pk_uLs, shF, if_pos rfl]; rfl
/-- the share of the parts that have the members of k: what flows in with those ends -/
theorem sh_wI {n : Nat} {K : Nat → Nat → Bool} {br : Nat → Bool} {lw : Nat → Nat} (h : CG n K br lw) {F B : Nat → Nat} {v k : Nat} (hv : v < 2 ^ (2 * n)) (hvl : vl v = true) {p : Nat → Bool} (hk : k < 2 ^ (pE (lw v) 12).length) (hp : ∀ q, q < 2 ^ (pE (lw v) 12).length → sb k q = p ((pL (lw v) 12).getD q 0)) : zS (shF F B lw v) (2 ^ (pE (lw v) 12).length) (pE (lw v) 12).length k = wI F B lw p (2 ^ (2 * n)) v := by
  have h4 := p4_le h.1
  have hl := cg_lw h hv hvl
  have hlen := cg_len h hv hvl
  rw [zS_end hl.2 hk, wI, parts_sum hl.1 h4 (fun c => if p c = true then F (v - c) * B v else 0), ← pL_len]
  obtain ⟨d, hd⟩ : ∃ d, (pL (lw v) 12).length = 1 + d := ⟨(pL (lw v) 12).length - 1, by omega⟩
  rw [hd, sm_split, Nat.add_sub_cancel_left]
  have e0 : sm (fun q => if sb k q = true then shF F B lw v q else 0) 1 = 0 := by
    simp only [sm, shF, if_pos rfl, Nat.zero_add]; split <;> rfl
  rw [e0, Nat.zero_add]
  refine sm_c fun i hi => ?_
  rw [Nat.add_comm 1 i, hp (i + 1) (by rw [← pL_len]; omega), shF, if_neg (Nat.succ_ne_zero i)]
/-! Findings.notePairs -/
theorem s_notePairs {Q : (Nat → Int64) → (Nat → Int64) → Prop} {ah al share : Nat → Int64} {v r n : Nat} {E : Nat → Nat} {me : Nat → Int32} {w1 : Nat → Nat} {w2 : Nat → Nat → Nat} (hv : v < 2 ^ 31) (hr : r ≤ 6) (hn : n < 7) (hme : ∀ j, j < r → me j = nI (E j) ∧ E j < 12) (h1 : ∀ m, m < r → share (2 ^ m) = lN (w1 m)) (h2 : ∀ m q, m < q → q < r → share (2 ^ m ||| 2 ^ q) = lN (w2 m q))
    (hQ : ∀ ah' al' : Nat → Int64, (∀ p, ah' p = ah p + lN (sm (fun m => sm (fun y => if p = 12 * E m + y ∧ v.testBit y = false then w1 m else 0) (2 * n)) r)) → (∀ p, al' p = al p + lN (sm (fun m => sm (fun q => if m < q ∧ p = 12 * E m + E q then w2 m q else 0) r) r)) → Q ah' al') : wp_X3_notePairs (nI v) (nI (2 * n)) ah al share (nI r) me Q := by
  have hpw : ∀ m, m < r → 2 ^ m < 64 := fun m hm => Nat.pow_lt_pow_right (a := 2) (n := 6) (by decide) (by omega)
  -- the later members
  have L2 : ∀ (K : Int32 → Int32 → Int32 → (Nat → Int64) → (Nat → Int64) → Prop) (m : Nat) (ah0 al0 : Nat → Int64), m < r → (∀ al' : Nat → Int64, (∀ p, al' p = al0 p + lN (sm (fun q => if m < q ∧ p = 12 * E m + E q then w2 m q else 0) r)) → wp_X3_notePairs_b123 Q K (nI v) (nI (2 * n)) (nI m) ah0 al') →
      ∀ (d q : Nat) (al' : Nat → Int64), q + d = r → m < q → (∀ p, al' p = al0 p + lN (sm (fun q => if m < q ∧ p = 12 * E m + E q then w2 m q else 0) q)) → wp_X3_notePairs_b76 Q share (nI r) me K (d + 1) (nI v) (nI (2 * n)) (nI m) (nI (12 * E m)) (nI q) ah0 al' := by
    intro K m ah0 al0 hm hK d
    induction d with
    | zero =>
      intro q al' hq hmq hal
      obtain rfl : q = r := by omega
      unfold wp_X3_notePairs_b76
      exact br_t (nI_le (by omega) (by omega)) (hK al' hal)
    | succ d ih =>
      intro q al' hq hmq hal
      obtain ⟨e1, e2⟩ := hme q (by omega)
      have e3 := (hme m hm).2
      have p1 := hpw m hm
      have p2 := hpw q (by omega)
      have hor : 2 ^ m ||| 2 ^ q < 64 := Nat.or_lt_two_pow (n := 6) p1 p2
      unfold wp_X3_notePairs_b76
      refine br_f (nI_ge (by omega) (by omega)) ⟨(z_in (by omega)).mpr (by omega), ?_⟩
      rw [nI_clamp (by omega), e1, zl 1, zl 31, z_one (by omega), z_one (by omega), fa_or, nI_add, nI_add]
      refine ⟨(z_in (by omega)).mpr (by omega), (z_in (by omega)).mpr (by omega), nm_e ⟨(z_in (by omega)).mpr (by omega), ?_⟩⟩
      rw [nI_clamp (by omega), nI_clamp (by omega), h2 m q hmq (by omega)]
      refine ih (q + 1) _ (by omega) (by omega) (fun p => ?_)
      rw [sm]
      by_cases z : p = 12 * E m + E q
      · rw [z, pk_uLs, hal, if_pos ⟨hmq, rfl⟩, Int64.add_assoc, lN_add]
      · rw [pk_uLn z, hal, if_neg (fun y => z y.2), Nat.add_zero]
  -- the ends that have not come
  have L1 : ∀ (K : Int32 → Int32 → Int32 → (Nat → Int64) → (Nat → Int64) → Prop) (m : Nat) (ah0 al0 : Nat → Int64), m < r → (∀ ah' : Nat → Int64, (∀ p, ah' p = ah0 p + lN (sm (fun y => if p = 12 * E m + y ∧ v.testBit y = false then w1 m else 0) (2 * n))) → wp_X3_notePairs_b70 Q share (nI r) me K (nI v) (nI (2 * n)) (nI m) (nI (12 * E m)) ah' al0) →
      ∀ (d y : Nat) (ah' : Nat → Int64), y + d = 2 * n → (∀ p, ah' p = ah0 p + lN (sm (fun y => if p = 12 * E m + y ∧ v.testBit y = false then w1 m else 0) y)) → wp_X3_notePairs_b27 Q share (nI r) me K (d + 1) (nI v) (nI (2 * n)) (nI m) (nI (12 * E m)) (nI y) ah' al0 := by
    intro K m ah0 al0 hm hK d
    induction d with
    | zero =>
      intro y ah' hy hah
      obtain rfl : y = 2 * n := by omega
      unfold wp_X3_notePairs_b27
      exact br_t (nI_le (by omega) (by omega)) (hK ah' hah)
    | succ d ih =>
      intro y ah' hy hah
      have e3 := (hme m hm).2
      have p1 := hpw m hm
      unfold wp_X3_notePairs_b27 wp_X3_notePairs_b64
      refine br_f (nI_ge (by omega) (by omega)) ?_
      rw [zl 1, zl 31, z_bit hv (by omega), zl 0, bI_z, z_one (by omega), nI_add, nI_add]
      refine br_c (fun q => ?_) (fun q => ?_)
      · refine ⟨(z_in (by omega)).mpr (by omega), (z_in (by omega)).mpr (by omega), nm_e ⟨(z_in (by omega)).mpr (by omega), ?_⟩⟩
        rw [nI_clamp (by omega), nI_clamp (by omega), h1 m hm]
        refine ih (y + 1) _ (by omega) (fun p => ?_)
        rw [sm]
        by_cases z : p = 12 * E m + y
        · rw [z, pk_uLs, hah, if_pos ⟨rfl, q⟩, Int64.add_assoc, lN_add]
        · rw [pk_uLn z, hah, if_neg (fun y => z y.1), Nat.add_zero]
      · refine ih (y + 1) _ (by omega) (fun p => ?_)
        rw [sm, hah, if_neg (fun y => q y.2), Nat.add_zero]
  have main : ∀ (d m : Nat) (ah' al' : Nat → Int64), m + d = r → (∀ p, ah' p = ah p + lN (sm (fun m => sm (fun y => if p = 12 * E m + y ∧ v.testBit y = false then w1 m else 0) (2 * n)) m)) → (∀ p, al' p = al p + lN (sm (fun m => sm (fun q => if m < q ∧ p = 12 * E m + E q then w2 m q else 0) r) m)) → wp_X3_notePairs_b3 Q share (nI r) me (d + 1) (nI v) (nI (2 * n)) (nI m) ah' al' := by
    intro d
    induction d with
    | zero =>
      intro m ah' al' hm h3 h4
      obtain rfl : m = r := by omega
      unfold wp_X3_notePairs_b3
      exact br_t (nI_le (by omega) (by omega)) (hQ ah' al' h3 h4)
    | succ d ih =>
      intro m ah' al' hm h3 h4
      obtain ⟨e1, e2⟩ := hme m (by omega)
      unfold wp_X3_notePairs_b3
      refine br_f (nI_ge (by omega) (by omega)) ⟨(z_in (by omega)).mpr (by omega), ?_⟩
      rw [nI_clamp (by omega), e1, zl 12, pk_mul]
      refine nm_e ⟨2 * n + 1, L1 _ m ah' al' (by omega) (fun ah2 g1 => ?_) (2 * n) 0 ah' (by omega) (fun p => ?_)⟩
      · unfold wp_X3_notePairs_b70
        rw [nI_1]
        refine ⟨(r - (m + 1)) + 1, L2 _ m ah2 al' (by omega) (fun al2 g2 => ?_) (r - (m + 1)) (m + 1) al' (by omega) (by omega) (fun p => ?_)⟩
        · unfold wp_X3_notePairs_b123
          rw [nI_1]
          refine ih (m + 1) ah2 al2 (by omega) (fun p => ?_) (fun p => ?_)
          · rw [g1, h3, Int64.add_assoc, lN_add]; rfl
          · rw [g2, h4, Int64.add_assoc, lN_add]; rfl
        · rw [sm_z (fun q hq => if_neg (fun y => by omega))]
          show al' p = al' p + 0
          rw [Int64.add_zero]
      · show ah' p = ah' p + 0
        rw [Int64.add_zero]
  unfold wp_X3_notePairs
  refine ⟨r + 1, main r 0 ah al (by omega) (fun p => ?_) (fun p => ?_)⟩
  · show ah p = ah p + 0
    rw [Int64.add_zero]
  · show al p = al p + 0
    rw [Int64.add_zero]
