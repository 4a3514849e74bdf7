/-! Findings: what the ways tell of pairs of ends -/
theorem gX_v {N : Nat} {e : Nat → Nat → Nat} {F B : Nat → Nat} (he : gE N e) (p : Nat → Nat → Nat) : gX N e F B p = sm (fun v => sm (fun M => if M ≤ v then e (v - M) M * F (v - M) * B v * p (v - M) M else 0) N) N := by
  rw [gX, sm_swap, sm_swap (fun v M => if M ≤ v then e (v - M) M * F (v - M) * B v * p (v - M) M else 0)]
  refine sm_c (fun M _ => ?_)
  rw [← sm_shift (g := fun u => F u * e u M * B (u + M) * p u M) (M := M) (N := N) (fun u hu hz => ?_)]
  · refine sm_c (fun v _ => ?_)
    by_cases q : M ≤ v
    · rw [if_pos q, if_pos q, show v - M + M = v by omega, Nat.mul_comm (F (v - M))]
    · rw [if_neg q, if_neg q]
  · refine he u M hu (fun z => hz ?_)
    simp [z]
/-- what flows into v in moments with the mark p -/
def wI (F B lw : Nat → Nat) (p : Nat → Bool) (N v : Nat) : Nat := sm (fun c => if c ≠ 0 ∧ sb c (lw v) = true then (if p c = true then F (v - c) * B v else 0) else 0) N
/-- a sum over all states is one over their places -/
theorem sm_places {n : Nat} (hn : n < 7) {T : Nat → Nat} (hT : ∀ v, v < 2 ^ (2 * n) → vl v = false → T v = 0) : sm T (2 ^ (2 * n)) = sm (fun i => T (sAt i)) (3 ^ n) := by
  have h3 := p3_le hn
  have h4 := p4_le hn
  have h30 : 0 < 3 ^ n := Nat.pow_pos (by decide)
  have hf := sAt_full n hn
  have h1 : 1 ≤ 2 ^ (2 * n) := Nat.two_pow_pos _
  have key : ∀ i, i < 3 ^ n → sm T (sAt i) = sm (fun j => T (sAt j)) i := by
    intro i
    induction i with
    | zero => intro _; rw [sAt_0]; rfl
    | succ i ih =>
      intro hi
      have hm := sAt_step i (by omega)
      have hN := (sAt_lt_N hn (by omega)).mpr hi
      rw [sm, ← ih (by omega)]
      obtain ⟨d, hd⟩ : ∃ d, sAt (i + 1) = sAt i + 1 + d := ⟨sAt (i + 1) - sAt i - 1, by omega⟩
      rw [hd, sm_split, sm, sm_z (f := fun k => T (sAt i + 1 + k)) (fun k hk => ?_), Nat.add_zero]
      refine hT _ (by omega) ?_
      cases q : vl (sAt i + 1 + k) with
      | false => rfl
      | true =>
        exfalso
        have hp := pOf_lt_N hn (s := sAt i + 1 + k) (by omega) q
        have a1 : sAt i < sAt (pOf (sAt i + 1 + k)) := by rw [hp.2]; omega
        have a2 : sAt (pOf (sAt i + 1 + k)) < sAt (i + 1) := by rw [hp.2]; omega
        rw [sAt_lt_iff (by omega) (by omega)] at a1 a2
        omega
  have e1 : 2 ^ (2 * n) = sAt (3 ^ n - 1) + 1 := by rw [hf]; omega
  have e2 : 3 ^ n = (3 ^ n - 1) + 1 := by omega
  rw [e1, sm, key _ (by omega)]
  conv => rhs; rw [e2, sm]
/-- what flows, place by place -/
theorem cg_gX {n : Nat} {K : Nat → Nat → Bool} {br : Nat → Bool} {lw : Nat → Nat} (h : CG n K br lw) (B : Nat → Nat) (p : Nat → Nat → Bool) (q : Nat → Nat → Bool) (hq : ∀ v c, c ≤ v → p (v - c) c = q v c) : gX (2 ^ (2 * n)) (ed K n) (wF (ed K n) (2 ^ (2 * n))) B (fun u M => if p u M = true then 1 else 0) = sm (fun i => if br (sAt i) = true then 0 else wI (wF (ed K n) (2 ^ (2 * n))) B lw (q (sAt i)) (2 ^ (2 * n)) (sAt i)) (3 ^ n) := by
  have hn := h.1
  rw [gX_v ed_E, sm_places hn]
  · refine sm_c fun i hi => ?_
    have h3 := p3_le hn
    have hs := sAt_all i (by omega)
    have hN := (sAt_lt_N hn (by omega)).mpr hi
    generalize sAt i = v at *
    by_cases hb : br v = true
    · rw [if_pos hb]
      refine sm_z fun c hc => ?_
      by_cases z : c ≤ v
      · rw [if_pos z]
        rcases Nat.eq_zero_or_pos (wF (ed K n) (2 ^ (2 * n)) (v - c)) with y | y
        · rw [y]; simp
        · rcases Nat.eq_zero_or_pos (ed K n (v - c) c) with w | w
          · rw [w]; simp
          · obtain ⟨q1, q2, q3, q4, -⟩ := ed_1 (by omega : ed K n (v - c) c ≠ 0)
            have := (h.2.2.2 (v - c) c (by omega) q1 (cg_snd h _ (by omega) (by omega)).2 q3).mp q4
            rw [show v - c + c = v by omega, hb] at this
            cases this.1
      · rw [if_neg z]
    · rw [if_neg hb, wI]
      have hb : br v = false := by simpa using hb
      refine sm_c fun c hc => ?_
      have := cg_in h hN hs.2.2 hb (c := c)
      by_cases z : c ≤ v
      · rw [if_pos z] at this ⊢
        rw [this, hq v c z]
        by_cases w : c ≠ 0 ∧ sb c (lw v) = true
        · rw [if_pos w, if_pos w]; split <;> simp
        · rw [if_neg w, if_neg w]; simp
      · rw [if_neg z, if_neg]
        intro w
        exact z (sb_le (h.2.2.1 v hN hs.2.2 c w.2).1)
  · intro v hv hvl
    refine sm_z fun c hc => ?_
    by_cases z : c ≤ v
    · rw [if_pos z]
      rcases Nat.eq_zero_or_pos (ed K n (v - c) c) with w | w
      · rw [w]; simp
      · obtain ⟨q1, q2, q3, q4, -⟩ := ed_1 (by omega : ed K n (v - c) c ≠ 0)
        have := mo_vl hn (by omega : v - c < 2 ^ (2 * n)) q1 q3
        rw [show v - c + c = v by omega, hvl] at this
        cases this
    · rw [if_neg z]
/-- the sum over the parts that have what part k has -/
def zP (m k q : Nat) : Bool := aB (fun j => if j < m then !k.testBit j || q.testBit j else k.testBit j == q.testBit j) 6
theorem zP_iff {m k q : Nat} : zP m k q = true ↔ ∀ j, j < 6 → if j < m then (k.testBit j = true → q.testBit j = true) else k.testBit j = q.testBit j := by
  unfold zP
  rw [aB_iff]
  constructor
  · intro h j hj
    have := h j hj
    by_cases z : j < m
    · rw [if_pos z] at this ⊢
      revert this
      cases k.testBit j <;> cases q.testBit j <;> simp
    · rw [if_neg z] at this ⊢
      simpa using this
  · intro h j hj
    have := h j hj
    by_cases z : j < m
    · rw [if_pos z] at this ⊢
      revert this
      cases k.testBit j <;> cases q.testBit j <;> simp
    · rw [if_neg z] at this ⊢
      simpa using this
def zS (sh : Nat → Nat) (C : Nat) (m k : Nat) : Nat := sm (fun q => if zP m k q = true then sh q else 0) C
theorem zS_0 {sh : Nat → Nat} {C k : Nat} (hC : C ≤ 64) (hk : k < C) : zS sh C 0 k = sh k := by
  unfold zS
  rw [← sm_1 sh hk]
  refine sm_c fun q hq => ?_
  by_cases e : q = k
  · rw [if_pos e, if_pos]
    refine zP_iff.mpr fun j _ => ?_
    rw [if_neg (Nat.not_lt_zero j), e]
  · rw [if_neg e, if_neg]
    intro h
    have h := zP_iff.mp h
    apply e
    apply Nat.eq_of_testBit_eq
    intro j
    rcases Nat.lt_or_ge j 6 with z | z
    · have := h j z
      rw [if_neg (Nat.not_lt_zero j)] at this
      exact this.symm
    · rw [tb_small (x := 6) (by omega) z, tb_small (x := 6) (by omega) z]
theorem zS_hi {sh : Nat → Nat} {C k m : Nat} (hb : k.testBit m = true) (hm : m < 6) : zS sh C (m + 1) k = zS sh C m k := by
  unfold zS
  refine sm_c fun q hq => ?_
  have : (∀ j, j < 6 → if j < m + 1 then (k.testBit j = true → q.testBit j = true) else k.testBit j = q.testBit j) ↔ (∀ j, j < 6 → if j < m then (k.testBit j = true → q.testBit j = true) else k.testBit j = q.testBit j) := by
    constructor
    · intro h j hj
      have := h j hj
      by_cases z : j < m
      · rw [if_pos (by omega)] at this; rw [if_pos z]; exact this
      · rw [if_neg z]
        by_cases w : j = m
        · subst w; rw [if_pos (by omega)] at this; rw [hb, this hb]
        · rw [if_neg (by omega)] at this; exact this
    · intro h j hj
      have := h j hj
      by_cases z : j < m
      · rw [if_pos z] at this; rw [if_pos (by omega)]; exact this
      · rw [if_neg z] at this
        by_cases w : j = m
        · subst w; rw [if_pos (by omega)]; intro _; rw [← this]; exact hb
        · rw [if_neg (by omega)]; exact this
  by_cases z : (∀ j, j < 6 → if j < m then (k.testBit j = true → q.testBit j = true) else k.testBit j = q.testBit j)
  · rw [if_pos (zP_iff.mpr z), if_pos (zP_iff.mpr (this.mpr z))]
  · rw [if_neg (fun y => z (zP_iff.mp y)), if_neg (fun y => z (this.mp (zP_iff.mp y)))]
theorem zS_lo {sh : Nat → Nat} {C k m : Nat} (hb : k.testBit m = false) (hm : m < 6) : zS sh C (m + 1) k = zS sh C m k + zS sh C m (k ||| 2 ^ m) := by
  unfold zS
  rw [← sm_add]
  refine sm_c fun q hq => ?_
  have tb : ∀ j, (k ||| 2 ^ m).testBit j = (k.testBit j || decide (j = m)) := fun j => by
    rw [Nat.testBit_or, Nat.testBit_two_pow]; congr 1; exact decide_eq_decide.mpr ⟨fun h => h.symm, fun h => h.symm⟩
  by_cases hqm : q.testBit m = true
  · have n1 : ¬ (∀ j, j < 6 → if j < m then (k.testBit j = true → q.testBit j = true) else k.testBit j = q.testBit j) := fun h => by
      have := h m hm
      rw [if_neg (Nat.lt_irrefl m), hb, hqm] at this; cases this
    have e : (∀ j, j < 6 → if j < m + 1 then (k.testBit j = true → q.testBit j = true) else k.testBit j = q.testBit j) ↔ (∀ j, j < 6 → if j < m then ((k ||| 2 ^ m).testBit j = true → q.testBit j = true) else (k ||| 2 ^ m).testBit j = q.testBit j) := by
      constructor
      · intro h j hj
        have := h j hj
        rw [tb]
        by_cases z : j < m
        · rw [if_pos (by omega)] at this
          rw [if_pos z, decide_eq_false (by omega), Bool.or_false]; exact this
        · rw [if_neg z]
          by_cases w : j = m
          · subst w; rw [decide_eq_true rfl, Bool.or_true, hqm]
          · rw [if_neg (by omega)] at this; rw [decide_eq_false w, Bool.or_false]; exact this
      · intro h j hj
        have := h j hj
        rw [tb] at this
        by_cases z : j < m
        · rw [if_pos z, decide_eq_false (by omega), Bool.or_false] at this
          rw [if_pos (by omega)]; exact this
        · rw [if_neg z] at this
          by_cases w : j = m
          · subst w; rw [if_pos (by omega)]; intro _; exact hqm
          · rw [decide_eq_false w, Bool.or_false] at this; rw [if_neg (by omega)]; exact this
    rw [if_neg (fun y => n1 (zP_iff.mp y)), Nat.zero_add]
    by_cases z : (∀ j, j < 6 → if j < m + 1 then (k.testBit j = true → q.testBit j = true) else k.testBit j = q.testBit j)
    · rw [if_pos (zP_iff.mpr z), if_pos (zP_iff.mpr (e.mp z))]
    · rw [if_neg (fun y => z (zP_iff.mp y)), if_neg (fun y => z (e.mpr (zP_iff.mp y)))]
  · have hqm : q.testBit m = false := by simpa using hqm
    have n1 : ¬ (∀ j, j < 6 → if j < m then ((k ||| 2 ^ m).testBit j = true → q.testBit j = true) else (k ||| 2 ^ m).testBit j = q.testBit j) := fun h => by
      have := h m hm
      rw [if_neg (Nat.lt_irrefl m), tb, hb, hqm, decide_eq_true rfl] at this; cases this
    have e : (∀ j, j < 6 → if j < m + 1 then (k.testBit j = true → q.testBit j = true) else k.testBit j = q.testBit j) ↔ (∀ j, j < 6 → if j < m then (k.testBit j = true → q.testBit j = true) else k.testBit j = q.testBit j) := by
      constructor
      · intro h j hj
        have := h j hj
        by_cases z : j < m
        · rw [if_pos (by omega)] at this; rw [if_pos z]; exact this
        · rw [if_neg z]
          by_cases w : j = m
          · subst w; rw [hb, hqm]
          · rw [if_neg (by omega)] at this; exact this
      · intro h j hj
        have := h j hj
        by_cases z : j < m
        · rw [if_pos z] at this; rw [if_pos (by omega)]; exact this
        · rw [if_neg z] at this
          by_cases w : j = m
          · subst w; rw [if_pos (by omega), hb]; intro y; cases y
          · rw [if_neg (by omega)]; exact this
    rw [if_neg (c := zP m (k ||| 2 ^ m) q = true) (fun y => n1 (zP_iff.mp y))]
    by_cases z : (∀ j, j < 6 → if j < m + 1 then (k.testBit j = true → q.testBit j = true) else k.testBit j = q.testBit j)
    · rw [if_pos (zP_iff.mpr z), if_pos (zP_iff.mpr (e.mp z)), Nat.add_zero]
    · rw [if_neg (fun y => z (zP_iff.mp y)), if_neg (fun y => z (e.mpr (zP_iff.mp y)))]
/-- at the end: of the parts that have the members a and b -/
theorem zS_end {sh : Nat → Nat} {r k : Nat} (hr : r ≤ 6) (hk : k < 2 ^ r) : zS sh (2 ^ r) r k = sm (fun q => if sb k q = true then sh q else 0) (2 ^ r) := by
  unfold zS
  refine sm_c fun q hq => ?_
  have e : (∀ j, j < 6 → if j < r then (k.testBit j = true → q.testBit j = true) else k.testBit j = q.testBit j) ↔ sb k q = true := by
    rw [sb_iff]
    constructor
    · intro h j hj
      rcases Nat.lt_or_ge j r with z | z
      · have := h j (by omega)
        rw [if_pos z] at this; exact this hj
      · rw [tb_small hk z] at hj; cases hj
    · intro h j _
      by_cases z : j < r
      · rw [if_pos z]; exact h j
      · rw [if_neg z, tb_small hk (by omega), tb_small hq (by omega)]
  by_cases z : sb k q = true
  · rw [if_pos z, if_pos (zP_iff.mpr (e.mpr z))]
  · rw [if_neg z, if_neg (fun y => z (e.mp (zP_iff.mp y)))]
