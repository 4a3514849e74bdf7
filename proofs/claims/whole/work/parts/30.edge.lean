/-! the class's graph is the reference's, over the sets that break nothing -/
def mtS (mt : Nat → Option Nat) (v a : Nat) : Bool := match mt a with
  | none => true
  | some b => v.testBit (2 * a) == v.testBit (2 * b) && v.testBit (2 * a + 1) == v.testBit (2 * b + 1)
def bkn (g : Nat → Int32) (n m : Nat) (kd oa ob : Nat → Nat) (c : Nat) (mt : Nat → Option Nat) (v : Nat) : Bool := gvB g n v || oB (fun k => c.testBit k && bS (kd k) (oa k) (ob k) v) m || !aB (mtS mt v) n
def lsd (n m : Nat) (kd oa ob : Nat → Nat) (c v x : Nat) : Bool := v.testBit x && (!gvM n v x && !oB (fun k => c.testBit k && mS (kd k) (oa k) (ob k) v x) m)
def lsS (n m : Nat) (kd oa ob : Nat → Nat) (c v : Nat) : Nat := lo (lsd n m kd oa ob c v) 12
def CG (n : Nat) (K : Nat → Nat → Bool) (br : Nat → Bool) (lw : Nat → Nat) : Prop :=
  n < 7 ∧ br 0 = false ∧ (∀ v, v < 2 ^ (2 * n) → vl v = true → ∀ c, sb c (lw v) = true → sb c v = true ∧ vl (v - c) = true ∧ sb c (nx (v - c) n) = true) ∧ (∀ s M, s < 2 ^ (2 * n) → vl s = true → br s = false → sb M (nx s n) = true → (K s M = true ↔ br (s + M) = false ∧ sb M (lw (s + M)) = true))
theorem sub_xor {c v : Nat} (h : sb c v = true) : v ^^^ c = v - c := by
  have h1 : (v ^^^ c) &&& c = 0 := by
    apply Nat.eq_of_testBit_eq
    intro e
    rw [Nat.testBit_and, Nat.testBit_xor, Nat.zero_testBit]
    cases q : c.testBit e with
    | false => simp
    | true => rw [sb_iff.mp h e q]; rfl
  have h2 : (v ^^^ c) ||| c = v := by
    apply Nat.eq_of_testBit_eq
    intro e
    rw [Nat.testBit_or, Nat.testBit_xor]
    cases q : c.testBit e with
    | false => simp
    | true => rw [sb_iff.mp h e q]; rfl
  have h3 := z_add_or h1
  omega
theorem sub_bit {c v : Nat} (h : sb c v = true) (e : Nat) : (v - c).testBit e = (v.testBit e && !c.testBit e) := by
  rw [← sub_xor h, Nat.testBit_xor]
  cases q : c.testBit e with
  | false => simp
  | true => rw [sb_iff.mp h e q]; rfl
theorem gvB_iff {g : Nat → Int32} {n v : Nat} (hn : n < 7) (hv : v < 2 ^ (2 * n)) (hvl : vl v = true) : gvB g n v = false ↔ ∀ a, a < n → ∀ b, b < a → sme g a b = true → (lst v a && lst v b) = false := by
  have h4 := p4_le hn
  rw [vl_iff (by omega)] at hvl
  unfold gvB
  rw [Bool.or_eq_false_iff, ← Bool.not_eq_true, ← Bool.not_eq_true, oB_iff, oB_iff]
  constructor
  · rintro ⟨-, h⟩ a ha b hb hs
    cases q : (lst v a && lst v b) with
    | false => rfl
    | true => exact absurd ⟨a, ha, oB_iff.mpr ⟨b, hb, by rw [hs, q]; rfl⟩⟩ h
  · intro h
    refine ⟨?_, ?_⟩
    · rintro ⟨t, ht, hz⟩
      rw [Bool.and_eq_true] at hz
      rw [hvl t hz.1] at hz
      exact absurd hz.2 (by decide)
    · rintro ⟨a, ha, hz⟩
      obtain ⟨b, hb, hz⟩ := oB_iff.mp hz
      rw [Bool.and_eq_true] at hz
      rw [h a ha b hb hz.1] at hz
      exact absurd hz.2 (by decide)
theorem mt_eq {mt : Nat → Option Nat} {s M n a : Nat} (h : sb M (nx s n) = true) (hs : mtS mt s a = true) : mtOk mt M a = mtS mt (s + M) a := by
  unfold mtS mtOk at *
  cases q : mt a with
  | none => rfl
  | some b =>
    rw [q] at hs
    simp only [mo_bit h]
    have fa1 : M.testBit (2 * a) = true → s.testBit (2 * a) = false := fun q => ((mo_bits h a).1 q).2.1
    have fa2 : M.testBit (2 * a + 1) = true → s.testBit (2 * a + 1) = false := fun q => ((mo_bits h a).2 q).2.2
    have fb1 : M.testBit (2 * b) = true → s.testBit (2 * b) = false := fun q => ((mo_bits h b).1 q).2.1
    have fb2 : M.testBit (2 * b + 1) = true → s.testBit (2 * b + 1) = false := fun q => ((mo_bits h b).2 q).2.2
    revert hs fa1 fa2 fb1 fb2
    simp only
    generalize s.testBit (2 * a) = sa; generalize s.testBit (2 * a + 1) = sa'; generalize s.testBit (2 * b) = sb; generalize s.testBit (2 * b + 1) = sb'
    generalize M.testBit (2 * a) = ma; generalize M.testBit (2 * a + 1) = ma'; generalize M.testBit (2 * b) = mb; generalize M.testBit (2 * b + 1) = mb'
    clear h; revert sa sa' sb sb' ma ma' mb mb'; decide
theorem bkn_iff {g : Nat → Int32} {n m : Nat} {kd oa ob : Nat → Nat} {c : Nat} {mt : Nat → Option Nat} {v : Nat} : bkn g n m kd oa ob c mt v = false ↔ gvB g n v = false ∧ (∀ k, k < m → c.testBit k = true → bS (kd k) (oa k) (ob k) v = false) ∧ ∀ a, a < n → mtS mt v a = true := by
  unfold bkn
  rw [Bool.or_eq_false_iff, Bool.or_eq_false_iff, ← Bool.not_eq_true (oB _ _), oB_iff, Bool.not_eq_false', aB_iff]
  constructor
  · rintro ⟨⟨h1, h2⟩, h3⟩
    refine ⟨h1, fun k hk hc => ?_, h3⟩
    cases q : bS (kd k) (oa k) (ob k) v with
    | false => rfl
    | true => exact absurd ⟨k, hk, by rw [hc, q]; rfl⟩ h2
  · rintro ⟨h1, h2, h3⟩
    refine ⟨⟨h1, ?_⟩, h3⟩
    rintro ⟨k, hk, hz⟩
    rw [Bool.and_eq_true] at hz
    rw [h2 k hk hz.1] at hz
    exact absurd hz.2 (by decide)
theorem lsd_iff {n m : Nat} {kd oa ob : Nat → Nat} {c v x : Nat} : lsd n m kd oa ob c v x = true ↔ v.testBit x = true ∧ gvM n v x = false ∧ ∀ k, k < m → c.testBit k = true → mS (kd k) (oa k) (ob k) v x = false := by
  unfold lsd
  rw [Bool.and_eq_true, Bool.and_eq_true, Bool.not_eq_true', Bool.not_eq_true', ← Bool.not_eq_true (oB _ _), oB_iff]
  constructor
  · rintro ⟨h1, h2, h3⟩
    refine ⟨h1, h2, fun k hk hc => ?_⟩
    cases q : mS (kd k) (oa k) (ob k) v x with
    | false => rfl
    | true => exact absurd ⟨k, hk, by rw [hc, q]; rfl⟩ h3
  · rintro ⟨h1, h2, h3⟩
    refine ⟨h1, h2, ?_⟩
    rintro ⟨k, hk, hz⟩
    rw [Bool.and_eq_true] at hz
    rw [h3 k hk hz.1] at hz
    exact absurd hz.2 (by decide)
theorem lsS_bit {n m : Nat} {kd oa ob : Nat → Nat} {c v e : Nat} (hv : v < 4096) : (lsS n m kd oa ob c v).testBit e = lsd n m kd oa ob c v e := by
  unfold lsS
  rw [lo_bit]
  rcases Nat.lt_or_ge e 12 with q | q
  · rw [decide_eq_true q]; rfl
  · rw [decide_eq_false (by omega)]
    unfold lsd
    rw [tb_small (x := 12) hv q]; rfl
theorem gvM_iff {n v x : Nat} : gvM n v x = false ↔ ∀ t, t < n → x = 2 * t → ¬ (v.testBit (2 * t + 1) = true ∧ v.testBit (2 * t) = true) := by
  unfold gvM
  rw [← Bool.not_eq_true, oB_iff]
  constructor
  · intro h t ht hx hz
    exact h ⟨t, ht, by rw [hz.1, hz.2, hx]; simp⟩
  · rintro h ⟨t, ht, hz⟩
    rw [Bool.and_eq_true, Bool.and_eq_true, beq_iff_eq] at hz
    exact h t ht hz.1 hz.2
theorem cg_mk {g : Nat → Int32} {n m : Nat} {kd oa ob : Nat → Nat} {c : Nat} {mt : Nat → Option Nat} (hn : n < 7) (hkd : ∀ k, k < m → kd k < 8) : CG n (kAll g n m kd oa ob c mt none) (bkn g n m kd oa ob c mt) (lsS n m kd oa ob c) := by
  have h4 := p4_le hn
  refine ⟨hn, ?_, ?_, ?_⟩
  · rw [bkn_iff]
    refine ⟨?_, fun k hk _ => ?_, fun a ha => ?_⟩
    · rw [gvB_iff hn (Nat.two_pow_pos _) (by decide)]
      intro a _ b _ _
      simp [lst]
    · unfold bS; simp [lst]
    · unfold mtS; split <;> simp
  · intro v hv hvl d hd
    rw [vl_iff (by omega)] at hvl
    have hx : ∀ e, d.testBit e = true → v.testBit e = true ∧ gvM n v e = false := fun e he => by
      have := sb_iff.mp hd e he
      rw [lsS_bit (by omega), lsd_iff] at this
      exact ⟨this.1, this.2.1⟩
    have hsb : sb d v = true := sb_iff.mpr fun e he => (hx e he).1
    have hdv := sb_le hsb
    have htn : ∀ t, v.testBit (2 * t) = true → t < n := fun t ht => by
      rcases Nat.lt_or_ge t n with q | q
      · exact q
      · rw [tb_small hv (by omega)] at ht; cases ht
    have hno : ∀ t, d.testBit (2 * t) = true → v.testBit (2 * t + 1) = false := fun t ht => by
      have h1 := hx _ ht
      have := gvM_iff.mp h1.2 t (htn t h1.1) rfl
      cases q : v.testBit (2 * t + 1) with
      | false => rfl
      | true => exact absurd ⟨q, h1.1⟩ this
    refine ⟨hsb, ?_, ?_⟩
    · rw [vl_iff (by omega)]
      intro t ht
      rw [sub_bit hsb, Bool.and_eq_true] at ht ⊢
      refine ⟨hvl t ht.1, ?_⟩
      cases q : d.testBit (2 * t) with
      | false => rfl
      | true => rw [hno t q] at ht; exact absurd ht.1 (by decide)
    · rw [sb_iff]
      intro e he
      have hve := (hx e he).1
      rcases Nat.mod_two_eq_zero_or_one e with q | q
      · have e1 : e = 2 * (e / 2) := by omega
        generalize e / 2 = t at e1
        subst e1
        rw [(nx_bit _ n t (htn t hve)).1, sub_bit hsb, sub_bit hsb, he, hno t he]; simp
      · have e1 : e = 2 * (e / 2) + 1 := by omega
        generalize e / 2 = t at e1
        subst e1
        have hv2 := hvl t hve
        have hd2 : d.testBit (2 * t) = false := by
          cases q : d.testBit (2 * t) with
          | false => rfl
          | true => rw [hno t q] at hve; cases hve
        rw [(nx_bit _ n t (htn t hv2)).2, sub_bit hsb, sub_bit hsb, he, hv2, hd2]; simp
  · intro s M hs hvl hbr hM
    have hN := mo_N hs hM
    have hvl2 := mo_vl hn hs hvl hM
    have hv0 := (vl_iff (by omega)).mp hvl
    obtain ⟨b1, b2, b3⟩ := bkn_iff.mp hbr
    rw [bkn_iff, gvB_iff hn hN hvl2, sb_iff]
    rw [gvB_iff hn hs hvl] at b1
    unfold kAll paOk
    rw [Bool.true_and, Bool.and_eq_true, aB_iff, aB_iff]
    constructor
    · rintro ⟨h1, h2⟩
      have k1 : ∀ k, k < m → c.testBit k = true → bS (kd k) (oa k) (ob k) (s + M) = false ∧ mM (kd k) (oa k) (ob k) (s + M) M = false := fun k hk hc => by
        have := h1 k hk
        rw [hc, kp_eq (hkd k hk) hM (hv0 _) (hv0 _) (b2 k hk hc)] at this
        simpa using this
      refine ⟨⟨fun a ha b hb hs2 => ?_, fun k hk hc => (k1 k hk hc).1, fun a ha => ?_⟩, fun e he => ?_⟩
      · have := h2 a ha
        rw [Bool.and_eq_true, aB_iff] at this
        have := this.1 b hb
        have e6 := kp_eq (k := 6) (by decide) hM (hv0 a) (hv0 b) (b1 a ha b hb hs2)
        rw [show kp 6 a b s M = ap a b s M from rfl] at e6
        rw [hs2, e6] at this
        rw [Bool.and_eq_false_iff]
        simpa [bS, mM] using this
      · have := h2 a ha
        rw [Bool.and_eq_true] at this
        rw [← mt_eq hM (b3 a ha)]; exact this.2
      · rw [lsS_bit (by omega), lsd_iff, mo_bit hM, he, Bool.or_true]
        refine ⟨rfl, gvM_iff.mpr fun t ht hx hz => ?_, fun k hk hc => ?_⟩
        · subst hx
          have := ((mo_bits hM t).1 he).2
          rw [mo_bit hM, this.2, Bool.false_or] at hz
          have := ((mo_bits hM t).2 hz.1).2.1
          rw [((mo_bits hM t).1 he).2.1] at this
          cases this
        · have := (k1 k hk hc).2
          cases q : mS (kd k) (oa k) (ob k) (s + M) e with
          | false => rfl
          | true => rw [(mM_iff _ _ _ _ _).mpr ⟨e, he, q⟩] at this; cases this
    · rintro ⟨⟨h1, h2, h3⟩, h4⟩
      refine ⟨fun k hk => ?_, fun a ha => ?_⟩
      · cases hc : c.testBit k with
        | false => rfl
        | true =>
          rw [kp_eq (hkd k hk) hM (hv0 _) (hv0 _) (b2 k hk hc), h2 k hk hc]
          have : mM (kd k) (oa k) (ob k) (s + M) M = false := by
            rw [← Bool.not_eq_true, mM_iff]
            rintro ⟨x, hx, hz⟩
            have := h4 x hx
            rw [lsS_bit (by omega), lsd_iff] at this
            rw [this.2.2 k hk hc] at hz
            cases hz
          rw [this]; rfl
      · rw [Bool.and_eq_true, aB_iff]
        refine ⟨fun b hb => ?_, by rw [mt_eq hM (b3 a ha)]; exact h3 a ha⟩
        cases hs2 : sme g a b with
        | false => rfl
        | true =>
          have e6 := kp_eq (k := 6) (by decide) hM (hv0 a) (hv0 b) (b1 a ha b hb hs2)
          rw [show kp 6 a b s M = ap a b s M from rfl] at e6
          rw [e6]
          have := h1 a ha b hb hs2
          simp [bS, mM, this]
/-! F over the class's graph -/
theorem cg_snd {n : Nat} {K : Nat → Nat → Bool} {br : Nat → Bool} {lw : Nat → Nat} (h : CG n K br lw) : ∀ v, v < 2 ^ (2 * n) → wF (ed K n) (2 ^ (2 * n)) v ≠ 0 → vl v = true ∧ br v = false := by
  obtain ⟨hn, h0, h1, h2⟩ := h
  intro v
  induction v using Nat.strongRecOn with
  | _ v ih =>
    intro hv hz
    rw [wF_rec ed_pos v hv] at hz
    by_cases q : v = 0
    · rw [q]; exact ⟨by decide, h0⟩
    · rw [if_neg q, Nat.zero_add] at hz
      obtain ⟨M, hM, hp⟩ := sm_pos (Nat.pos_of_ne_zero hz)
      by_cases z : M ≤ v
      · rw [if_pos z] at hp
        have p1 : ed K n (v - M) M ≠ 0 := fun e => by rw [e] at hp; simp at hp
        have p2 : wF (ed K n) (2 ^ (2 * n)) (v - M) ≠ 0 := fun e => by rw [e] at hp; simp at hp
        obtain ⟨q1, q2, q3, q4, -⟩ := ed_1 p1
        have hs := ih (v - M) (by omega) (by omega) p2
        have := (h2 (v - M) M (by omega) q1 hs.2 q3).mp q4
        have hv2 := mo_vl hn (by omega : v - M < 2 ^ (2 * n)) q1 q3
        rw [show v - M + M = v by omega] at this hv2
        exact ⟨hv2, this.1⟩
      · rw [if_neg z] at hp; omega
/-- what leads into a set that breaks nothing -/
theorem cg_in {n : Nat} {K : Nat → Nat → Bool} {br : Nat → Bool} {lw : Nat → Nat} (h : CG n K br lw) {v c : Nat} (hv : v < 2 ^ (2 * n)) (hvl : vl v = true) (hb : br v = false) : (if c ≤ v then ed K n (v - c) c * wF (ed K n) (2 ^ (2 * n)) (v - c) else 0) = if c ≠ 0 ∧ sb c (lw v) = true then wF (ed K n) (2 ^ (2 * n)) (v - c) else 0 := by
  have hs := cg_snd h
  obtain ⟨hn, h0, h1, h2⟩ := h
  by_cases z : c ≤ v
  · rw [if_pos z]
    rcases Nat.eq_zero_or_pos (wF (ed K n) (2 ^ (2 * n)) (v - c)) with q | q
    · rw [q, Nat.mul_zero]; split <;> rfl
    · obtain ⟨g1, g2⟩ := hs (v - c) (by omega) (by omega)
      by_cases w : c ≠ 0 ∧ sb c (lw v) = true
      · rw [if_pos w]
        have k1 := h1 v hv hvl c w.2
        have k2 := (h2 (v - c) c (by omega) g1 g2 k1.2.2).mpr (by rw [show v - c + c = v by omega]; exact ⟨hb, w.2⟩)
        rw [ed_eq ⟨g1, w.1, k1.2.2⟩, if_pos k2, Nat.one_mul]
      · rw [if_neg w]
        rcases Nat.eq_zero_or_pos (ed K n (v - c) c) with y | y
        · rw [y, Nat.zero_mul]
        · obtain ⟨q1, q2, q3, q4, -⟩ := ed_1 (by omega : ed K n (v - c) c ≠ 0)
          have := (h2 (v - c) c (by omega) q1 g2 q3).mp q4
          rw [show v - c + c = v by omega] at this
          exact absurd ⟨q2, this.2⟩ w
  · rw [if_neg z, if_neg]
    intro w
    exact z (sb_le (h1 v hv hvl c w.2).1)
theorem cg_F {n : Nat} {K : Nat → Nat → Bool} {br : Nat → Bool} {lw : Nat → Nat} (h : CG n K br lw) {v : Nat} (hv : v < 2 ^ (2 * n)) (hvl : vl v = true) (hb : br v = false) (h0 : v ≠ 0) : wF (ed K n) (2 ^ (2 * n)) v = sm (fun c => if c ≠ 0 ∧ sb c (lw v) = true then wF (ed K n) (2 ^ (2 * n)) (v - c) else 0) (2 ^ (2 * n)) := by
  rw [wF_rec ed_pos v hv, if_neg h0, Nat.zero_add]
  exact sm_c fun c _ => cg_in h hv hvl hb
theorem cg_F0 {n : Nat} {K : Nat → Nat → Bool} : wF (ed K n) (2 ^ (2 * n)) 0 = 1 := by
  rw [wF_rec ed_pos 0 (Nat.two_pow_pos _), if_pos rfl, sm_z]
  intro M _
  by_cases z : M ≤ 0
  · rw [if_pos z]
    rcases Nat.eq_zero_or_pos (ed K n (0 - M) M) with y | y
    · rw [y, Nat.zero_mul]
    · have := (ed_1 (by omega : ed K n (0 - M) M ≠ 0)).2.1
      omega
  · rw [if_neg z]
