/-! Steps.lay: which sets there can be, and the ways to them -/
def DG (n : Nat) (D : List DR) (P : List PR) (br : Nat → Bool) (lw : Nat → Nat) : Prop := D.length ≤ 48 ∧ P.length ≤ 48 ∧ wfD D ∧ wfP P ∧ ∀ v, v < 2 ^ (2 * n) → vl v = true → brM D P v < 2 ^ 31 ∧ (brM D P v = 0 ↔ br v = false) ∧ (∀ x, x < 12 → miM D v x < 2 ^ 31) ∧ lo (fun x => v.testBit x && (miM D v x == 0)) 12 = lw v
def LW (br : Nat → Bool) (lw F : Nat → Nat) (k : Nat) (lo : Nat → Int32) (wa : Nat → Int64) : Prop := ∀ i, i < k → lo i = (if br (sAt i) = true then -nI 1 else nI (lw (sAt i))) ∧ wa i = lN (F (sAt i))
theorem sm_ext {f : Nat → Nat} {N M : Nat} (h : N ≤ M) (hz : ∀ i, N ≤ i → i < M → f i = 0) : sm f M = sm f N := by
  obtain ⟨d, rfl⟩ : ∃ d, M = N + d := ⟨M - N, by omega⟩
  rw [sm_split, sm_z (f := fun i => f (N + i)) (fun i hi => hz _ (by omega) (by omega)), Nat.add_zero]
theorem parts_sum {s N : Nat} (hs : s < N) (hN : N ≤ 4096) (f : Nat → Nat) : sm (fun c => if c ≠ 0 ∧ sb c s = true then f c else 0) N = sm (fun i => f ((pL s 12).getD (i + 1) 0)) ((pL s 12).length - 1) := by
  have h1 := pL_sum (fun c => if c ≠ 0 then f c else 0) s 12
  have hl : 0 < (pL s 12).length := by rw [pL_len]; exact Nat.two_pow_pos _
  have h2 : sm (fun c => if c ≠ 0 ∧ sb c s = true then f c else 0) N = sm (fun c => if sb c s = true then (if c ≠ 0 then f c else 0) else 0) (2 ^ 12) := by
    rw [sm_ext (f := fun c => if sb c s = true then (if c ≠ 0 then f c else 0) else 0) (N := N) (M := 2 ^ 12) hN (fun i h3 _ => by
      rw [if_neg]; intro q; have := sb_le q; omega)]
    refine sm_c fun c _ => ?_
    by_cases q : c = 0 <;> by_cases w : sb c s = true <;> simp [q, w]
  rw [h2, ← h1, ls_ix]
  obtain ⟨d, hd⟩ : ∃ d, (pL s 12).length = 1 + d := ⟨(pL s 12).length - 1, by omega⟩
  rw [hd, sm_split, Nat.add_sub_cancel_left]
  have e0 : sm (fun i => (fun c => if c ≠ 0 then f c else 0) ((pL s 12).getD i 0)) 1 = 0 := by
    simp only [sm, pL_0]; rfl
  rw [e0, Nat.zero_add]
  refine sm_c fun i hi => ?_
  have h3 := pL_mono s 12 0 (i + 1) (by omega) (by omega)
  rw [pL_0] at h3
  rw [Nat.add_comm 1 i, if_pos (by omega)]
theorem pL_sb {s x k : Nat} (hk : k < (pL s x).length) : sb ((pL s x).getD k 0) s = true := by
  rw [List.getD_eq_getElem?_getD, List.getElem?_eq_getElem hk]
  exact ((pL_mem s x _).mp (List.getElem_mem hk)).2
theorem cg_lw {n : Nat} {K : Nat → Nat → Bool} {br : Nat → Bool} {lw : Nat → Nat} (h : CG n K br lw) {v : Nat} (hv : v < 2 ^ (2 * n)) (hvl : vl v = true) : lw v < 2 ^ (2 * n) ∧ (pE (lw v) 12).length ≤ 6 := by
  have := h.2.2.1 v hv hvl (lw v) (sb_self _)
  exact ⟨Nat.lt_of_le_of_lt (sb_le this.1) hv, nx_6 h.1 this.2.2⟩
/-- a part of the loose ends of a set: what it leads from -/
theorem cg_part {n : Nat} {K : Nat → Nat → Bool} {br : Nat → Bool} {lw : Nat → Nat} (h : CG n K br lw) {i k : Nat} (hi : i < 3 ^ n) (hk : k < (pL (lw (sAt i)) 12).length) (h0 : 0 < k) :
    (nI (sAt i) ^^^ nI ((pL (lw (sAt i)) 12).getD k 0)) = nI (sAt i - (pL (lw (sAt i)) 12).getD k 0) ∧ sAt i - (pL (lw (sAt i)) 12).getD k 0 < 4096 ∧ pOf (sAt i - (pL (lw (sAt i)) 12).getD k 0) < i ∧ sAt (pOf (sAt i - (pL (lw (sAt i)) 12).getD k 0)) = sAt i - (pL (lw (sAt i)) 12).getD k 0 ∧ (pL (lw (sAt i)) 12).getD k 0 ≤ sAt i ∧ (pL (lw (sAt i)) 12).getD k 0 ≠ 0 ∧ sb ((pL (lw (sAt i)) 12).getD k 0) (lw (sAt i)) = true := by
  have h3 := p3_le h.1
  have hs := sAt_all i (by omega)
  have hN := (sAt_lt_N h.1 (by omega)).mpr hi
  have hb := pL_sb hk
  have hm := pL_mono (lw (sAt i)) 12 0 k h0 hk
  rw [pL_0] at hm
  generalize (pL (lw (sAt i)) 12).getD k 0 = c at *
  obtain ⟨g1, g2, g3⟩ := h.2.2.1 _ hN hs.2.2 c hb
  have hle := sb_le g1
  have hp := pOf_lt_N h.1 (s := sAt i - c) (by omega) g2
  have hp2 := p3_le h.1
  refine ⟨by rw [z_xor, sub_xor g1], by omega, ?_, hp.2, hle, by omega, hb⟩
  rw [← sAt_lt_iff (by omega) (by omega), hp.2]
  omega
theorem s_waysTo {n : Nat} {K : Nat → Nat → Bool} {br : Nat → Bool} {lw : Nat → Nat} (h : CG n K br lw) {i : Nat} {lo : Nat → Int32} {wa : Nat → Int64} {c1 c2 : Int32} {me pa : Nat → Int32} {Q : Int64 → Int32 → Int32 → (Nat → Int32) → (Nat → Int32) → Prop} (hi : i < 3 ^ n) (hb : br (sAt i) = false) (hlo : lo i = nI (lw (sAt i))) (hwa : ∀ j, j < i → wa j = lN (wF (ed K n) (2 ^ (2 * n)) (sAt j)))
    (hQ : ∀ c1 c2 me pa, Q (lN (wF (ed K n) (2 ^ (2 * n)) (sAt i))) c1 c2 me pa) : wp_X9_waysTo (nI i) lo wa c1 c2 me pa Q := by
  have h3 := p3_le h.1
  have h4 := p4_le h.1
  have hs := sAt_all i (by omega)
  have hN := (sAt_lt_N h.1 (by omega)).mpr hi
  have hl := cg_lw h hN hs.2.2
  unfold wp_X9_waysTo
  refine br_c (fun q => ?_) (fun q => ?_)
  · rw [zl 0, nI_eq (by omega) (by omega)] at q
    have q : i = 0 := q
    subst q
    have := hQ c1 c2 me pa
    rw [sAt_0, cg_F0] at this
    exact this
  · rw [zl 0, nI_eq (by omega) (by omega)] at q
    have q : i ≠ 0 := q
    rw [e_setAt (by omega)]
    refine ⟨(z_in (by omega)).mpr (by omega), ?_⟩
    rw [nI_clamp (by omega), hlo]
    refine t_take (by omega) hl.2 (fun me pa h5 h6 => ?_)
    have hlen : (pL (lw (sAt i)) 12).length ≤ 64 := by
      rw [pL_len]
      calc 2 ^ (pE (lw (sAt i)) 12).length ≤ 2 ^ 6 := Nat.pow_le_pow_right (by decide) hl.2
        _ = 64 := rfl
    have hl1 : 0 < (pL (lw (sAt i)) 12).length := by rw [pL_len]; exact Nat.two_pow_pos _
    have main : ∀ (d k : Nat), k + d = (pL (lw (sAt i)) 12).length → 1 ≤ k → wp_X9_waysTo_b27 Q wa (d + 1) (nI (sAt i)) (lN (sm (fun j => wF (ed K n) (2 ^ (2 * n)) (sAt i - (pL (lw (sAt i)) 12).getD (j + 1) 0)) (k - 1))) (nI k) (nI (pE (lw (sAt i)) 12).length) (nI (pL (lw (sAt i)) 12).length) me pa := by
      intro d
      induction d with
      | zero =>
        intro k hk h1
        unfold wp_X9_waysTo_b27
        refine br_t (nI_le (by omega) (by omega)) ?_
        have e : sm (fun j => wF (ed K n) (2 ^ (2 * n)) (sAt i - (pL (lw (sAt i)) 12).getD (j + 1) 0)) (k - 1) = wF (ed K n) (2 ^ (2 * n)) (sAt i) := by
          rw [cg_F h hN hs.2.2 hb (fun z => q (by have := hs.1; rw [z] at this; rw [← this]; decide)), parts_sum hl.1 h4, show k = (pL (lw (sAt i)) 12).length by omega]
        rw [e]
        exact hQ _ _ _ _
      | succ d ih =>
        intro k hk h1
        have ih := ih (k + 1) (by omega) (by omega)
        obtain ⟨p1, p2, p3, p4, -⟩ := cg_part h hi (by omega : k < (pL (lw (sAt i)) 12).length) (by omega)
        unfold wp_X9_waysTo_b27
        refine br_f (nI_ge (by omega) (by omega)) ⟨(z_in (by omega)).mpr (by omega), ?_⟩
        rw [nI_clamp (by omega), h6 k (by omega), p1, e_placeOf p2]
        refine ⟨(z_in (by omega)).mpr (by omega), ?_⟩
        rw [nI_clamp (by omega), hwa _ p3, p4, lN_add, zl 1, nI_add]
        have e : k + 1 - 1 = (k - 1) + 1 := by omega
        rw [e, sm, show k - 1 + 1 = k by omega] at ih
        exact ih
    exact ⟨_, main ((pL (lw (sAt i)) 12).length - 1) 1 (by omega) (by omega)⟩
theorem s_lay {n : Nat} {K : Nat → Nat → Bool} {br : Nat → Bool} {lw : Nat → Nat} (h : CG n K br lw) {D : List DR} {P : List PR} (hD : DG n D P br lw) {so la st ma on ot pt : Nat → Int32} (hd : dR D so la st ma) (hp : pR P on ot pt) {cs cb c1 c2 : Int32} {lo0 mi me pa : Nat → Int32} {wa0 : Nat → Int64} {Q : Int32 → (Nat → Int32) → (Nat → Int64) → Int32 → (Nat → Int32) → Int32 → Int32 → (Nat → Int32) → (Nat → Int32) → Prop}
    (hQ : ∀ lo wa cb mi c1 c2 me pa, LW br lw (wF (ed K n) (2 ^ (2 * n))) (3 ^ n) lo wa → Q (nI (3 ^ n)) lo wa cb mi c1 c2 me pa) : wp_X9_lay (nI n) cs lo0 wa0 (nI D.length) (nI P.length) cb so la st ma on ot pt mi c1 c2 me pa Q := by
  have hn := h.1
  have h3 := p3_le hn
  have h4 := p4_le hn
  obtain ⟨hl1, hl2, wD, wP, hv⟩ := hD
  have main : ∀ (d i : Nat) (lo : Nat → Int32) (wa : Nat → Int64) (cb : Int32) (mi : Nat → Int32) (c1 c2 : Int32) (me pa : Nat → Int32), i + d = 3 ^ n → LW br lw (wF (ed K n) (2 ^ (2 * n))) i lo wa → wp_X9_lay_b12 Q (nI D.length) (nI P.length) so la st ma on ot pt (d + 1) (nI i) (nI (3 ^ n)) lo wa cb mi c1 c2 me pa := by
    intro d
    induction d with
    | zero =>
      intro i lo wa cb mi c1 c2 me pa hi hI
      obtain rfl : i = 3 ^ n := by omega
      unfold wp_X9_lay_b12
      exact br_t (nI_le (by omega) (by omega)) (hQ lo wa cb mi c1 c2 me pa hI)
    | succ d ih =>
      intro i lo wa cb mi c1 c2 me pa hi hI
      have hs := sAt_all i (by omega)
      have hN := (sAt_lt_N hn (by omega)).mpr (by omega : i < 3 ^ n)
      obtain ⟨v1, v2, v3, v4⟩ := hv _ hN hs.2.2
      have hlw := cg_lw h hN hs.2.2
      have next : ∀ (lo' : Nat → Int32) (wa' : Nat → Int64) cb mi c1 c2 me pa, (∀ j, j < i → lo' j = lo j ∧ wa' j = wa j) → lo' i = (if br (sAt i) = true then -nI 1 else nI (lw (sAt i))) → wa' i = lN (wF (ed K n) (2 ^ (2 * n)) (sAt i)) → wp_X9_lay_b12 Q (nI D.length) (nI P.length) so la st ma on ot pt (d + 1) (nI i + 1) (nI (3 ^ n)) lo' wa' cb mi c1 c2 me pa := by
        intro lo' wa' cb mi c1 c2 me pa g1 g2 g3
        rw [nI_1]
        refine ih (i + 1) lo' wa' cb mi c1 c2 me pa (by omega) (fun j hj => ?_)
        rcases Nat.lt_or_ge j i with q | q
        · rw [(g1 j q).1, (g1 j q).2]; exact hI j q
        · rw [show j = i by omega]; exact ⟨g2, g3⟩
      unfold wp_X9_lay_b12
      refine br_f (nI_ge (by omega) (by omega)) ?_
      rw [e_setAt (by omega)]
      refine s_weigh (by omega) hl1 hl2 hd hp wD wP (fun mi hmi => ?_)
      rw [zl 0, nI_eq v1 (by omega)]
      unfold wp_X9_lay_b58 wp_X9_lay_b87
      refine br_c (fun q => ?_) (fun q => ?_)
      · have hbf := v2.mp q
        refine s_looseIn (z := fun m => m == 0) (by omega) hmi (fun x hx => ?_) ?_
        · have e1 : nI (miM D (sAt i) x) &&& (-1) = nI (miM D (sAt i) x) := by
            apply Int32.toBitVec_inj.1
            show (nI (miM D (sAt i) x)).toBitVec &&& (-1 : Int32).toBitVec = (nI (miM D (sAt i) x)).toBitVec
            rw [show (-1 : Int32).toBitVec = BitVec.allOnes 32 from by decide, BitVec.and_allOnes]
          rw [e1, nI_eq (v3 x hx) (by omega), beq_iff_eq]
        · rw [v4]
          refine ⟨(z_in (by omega)).mpr (by omega), (z_in (by omega)).mpr (by omega), ?_⟩
          rw [nI_clamp (by omega), pk_us, show (-1 : Int32) = -nI 1 from rfl, z_ne (by omega) (by omega) (by omega)]
          refine br_f (fun z => z) ?_
          refine s_waysTo h (by omega : i < 3 ^ n) hbf pk_us (fun j hj => (hI j hj).2) (fun c1 c2 me pa => ?_)
          refine ⟨(z_in (by omega)).mpr (by omega), next _ _ _ _ _ _ _ _ (fun j hj => ⟨pk_un (by omega), pk_uLn (by omega)⟩) (by rw [pk_us, hbf]; rfl) pk_uLs⟩
      · have hbt : br (sAt i) = true := by
          cases z : br (sAt i) with
          | true => rfl
          | false => exact absurd (v2.mpr z) q
        have hF : wF (ed K n) (2 ^ (2 * n)) (sAt i) = 0 := by
          rcases Nat.eq_zero_or_pos (wF (ed K n) (2 ^ (2 * n)) (sAt i)) with z | z
          · exact z
          · have := (cg_snd h _ hN (by omega)).2
            rw [hbt] at this; cases this
        refine ⟨(z_in (by omega)).mpr (by omega), (z_in (by omega)).mpr (by omega), ?_⟩
        rw [nI_clamp (by omega), pk_us]
        refine br_t rfl ⟨(z_in (by omega)).mpr (by omega), next _ _ _ _ _ _ _ _ (fun j hj => ⟨pk_un (by omega), pk_uLn (by omega)⟩) (by rw [pk_us, hbt]; rfl) (by rw [pk_uLs, hF]; rfl)⟩
  unfold wp_X9_lay
  refine ⟨(z_in (by omega)).mpr hn, 3 ^ n + 1, ?_⟩
  rw [nI_clamp (by omega), nw_SETS_at n hn]
  exact main (3 ^ n) 0 _ _ _ _ _ _ _ _ (by omega) (fun j hj => absurd hj (Nat.not_lt_zero j))
theorem s_allWays {n : Nat} {wa : Nat → Int64} {F : Nat → Nat} {br : Nat → Bool} {lw : Nat → Nat} {lo : Nat → Int32} {Q : Int64 → Prop} (hn : n < 7) (h : LW br lw F (3 ^ n) lo wa) (hQ : Q (lN (F (2 ^ (2 * n) - 1)))) : wp_X9_allWays (nI (3 ^ n)) wa Q := by
  have h3 := p3_le hn
  have h0 : 0 < 3 ^ n := Nat.pow_pos (by decide)
  unfold wp_X9_allWays
  rw [zl 1, pk_sub h0]
  refine ⟨(z_in (by omega)).mpr (by omega), ?_⟩
  rw [nI_clamp (by omega), (h (3 ^ n - 1) (by omega)).2, sAt_full n hn]
  exact hQ
