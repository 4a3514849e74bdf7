theorem lo_c {p q : Nat → Bool} : ∀ n, (∀ x, x < n → p x = q x) → lo p n = lo q n
  | 0, _ => rfl
  | n + 1, h => by rw [lo, lo, lo_c n (fun x hx => h x (by omega)), h n (by omega)]
/-- which choices come to v -/
def rch (g : Nat → Int32) (n m : Nat) (kd oa ob : Nat → Nat) (c v : Nat) : Bool := wF (ed (KA g n m kd oa ob c nmt none) n) (2 ^ (2 * n)) v != 0
theorem nmt_ok {n v : Nat} : ∀ a, a < n → mtS nmt v a = true := fun a _ => rfl
theorem b0_bits {g : Nat → Int32} {kd oa ob : Nat → Nat} {n m v : Nat} (hm : m < 9) (hkd : ∀ k, k < m → kd k < 8) : brM (DS kd oa ob n m) (PS g kd oa ob n m) v < 512 ∧ (∀ s, s < 8 → (brM (DS kd oa ob n m) (PS g kd oa ob n m) v).testBit s = (decide (s < m) && bS (kd s) (oa s) (ob s) v)) ∧ (brM (DS kd oa ob n m) (PS g kd oa ob n m) v).testBit 8 = gvB g n v := by
  have e := br_all g kd oa ob n v m hkd
  have hl : lo (fun k => bS (kd k) (oa k) (ob k) v) m < 2 ^ 8 := Nat.lt_of_lt_of_le (lo_lt _ m) (Nat.pow_le_pow_right (by decide) (by omega))
  have b256 : ∀ (b : Bool) s, s < 9 → (if b = true then 256 else 0).testBit s = (b && decide (s = 8)) := by decide
  have l256 : ∀ b : Bool, (if b = true then 256 else 0) < 512 := by decide
  unfold brM
  rw [e]
  refine ⟨Nat.or_lt_two_pow (n := 9) (l256 _) (by omega), fun s hs => ?_, ?_⟩
  · rw [Nat.testBit_or, b256 _ s (by omega), lo_bit, decide_eq_false (p := s = 8) (by omega), Bool.and_false, Bool.false_or]
  · rw [Nat.testBit_or, b256 _ 8 (by omega), tb_small hl (Nat.le_refl 8), decide_eq_true rfl, Bool.and_true, Bool.or_false]
theorem mi_bits {kd oa ob : Nat → Nat} {n m v x : Nat} (hm : m < 9) (hkd : ∀ k, k < m → kd k < 8) : miM (DS kd oa ob n m) v x < 512 ∧ (∀ s, s < 8 → (miM (DS kd oa ob n m) v x).testBit s = (decide (s < m) && mS (kd s) (oa s) (ob s) v x)) ∧ (miM (DS kd oa ob n m) v x).testBit 8 = gvM n v x := by
  have e := mi_all kd oa ob n v x m hkd
  have hl : lo (fun k => mS (kd k) (oa k) (ob k) v x) m < 2 ^ 8 := Nat.lt_of_lt_of_le (lo_lt _ m) (Nat.pow_le_pow_right (by decide) (by omega))
  have b256 : ∀ (b : Bool) s, s < 9 → (if b = true then 256 else 0).testBit s = (b && decide (s = 8)) := by decide
  have l256 : ∀ b : Bool, (if b = true then 256 else 0) < 512 := by decide
  unfold miM
  rw [e]
  refine ⟨Nat.or_lt_two_pow (n := 9) (l256 _) (by omega), fun s hs => ?_, ?_⟩
  · rw [Nat.testBit_or, b256 _ s (by omega), lo_bit, decide_eq_false (p := s = 8) (by omega), Bool.and_false, Bool.false_or]
  · rw [Nat.testBit_or, b256 _ 8 (by omega), tb_small hl (Nat.le_refl 8), decide_eq_true rfl, Bool.and_true, Bool.or_false]
/-- whether a choice keeps what part q would break -/
def okc (c : Nat) (bk : Nat → Nat) (q : Nat) : Bool := aB (fun s => !(bk q).testBit s || !c.testBit s) 8
def bkQ (g : Nat → Int32) (n m : Nat) (kd oa ob : Nat → Nat) (v q : Nat) : Nat := bkF (brM (DS kd oa ob n m) (PS g kd oa ob n m) v) (fun j => miM (DS kd oa ob n m) v ((pE (lsS n m kd oa ob 0 v) 12).getD j 0)) q (pE (lsS n m kd oa ob 0 v) 12).length
def rcP (g : Nat → Int32) (n m : Nat) (kd oa ob : Nat → Nat) (c v k : Nat) : Bool := oB (fun q => decide (1 ≤ q) && (okc c (bkQ g n m kd oa ob v) q && rch g n m kd oa ob c (v - (pL (lsS n m kd oa ob 0 v) 12).getD q 0))) k
theorem rch_step {g : Nat → Int32} {kd oa ob : Nat → Nat} {n m c v : Nat} (hn : n < 7) (hm : m < 9) (hkd : ∀ k, k < m → kd k < 8) (hv : v < 2 ^ (2 * n)) (hvl : vl v = true) (h0 : v ≠ 0) : rch g n m kd oa ob c v = (!gvB g n v && rcP g n m kd oa ob c v (pL (lsS n m kd oa ob 0 v) 12).length) := by
  have h4 := p4_le hn
  have hcg := cg_mk (g := g) (oa := oa) (ob := ob) (c := c) (mt := nmt) hn hkd
  have hcg0 := cg_mk (g := g) (oa := oa) (ob := ob) (c := 0) (mt := nmt) hn hkd
  have hl := cg_lw hcg0 hv hvl
  obtain ⟨-, hb0, hb8⟩ := b0_bits (g := g) (oa := oa) (ob := ob) (n := n) (v := v) hm hkd
  have hbk : ∀ s, s < 8 → ∀ q, (bkQ g n m kd oa ob v q).testBit s = ((decide (s < m) && bS (kd s) (oa s) (ob s) v) || oB (fun j => q.testBit j && (decide (s < m) && mS (kd s) (oa s) (ob s) v ((pE (lsS n m kd oa ob 0 v) 12).getD j 0))) (pE (lsS n m kd oa ob 0 v) 12).length) := by
    intro s hs q
    unfold bkQ
    rw [bkF_bit, hb0 s hs]
    congr 1
    refine oB_c fun j _ => ?_
    rw [(mi_bits hm hkd).2.1 s hs]
  have hokc : ∀ q, okc c (bkQ g n m kd oa ob v) q = true ↔ (∀ s, s < m → c.testBit s = true → bS (kd s) (oa s) (ob s) v = false) ∧ ∀ j, j < (pE (lsS n m kd oa ob 0 v) 12).length → q.testBit j = true → ∀ s, s < m → c.testBit s = true → mS (kd s) (oa s) (ob s) v ((pE (lsS n m kd oa ob 0 v) 12).getD j 0) = false := by
    intro q
    unfold okc
    rw [aB_iff]
    constructor
    · intro h
      refine ⟨fun s hs hc => ?_, fun j hj hq s hs hc => ?_⟩
      · have := h s (by omega)
        rw [hbk s (by omega), hc, decide_eq_true hs] at this
        cases z : bS (kd s) (oa s) (ob s) v with
        | false => rfl
        | true => rw [z] at this; simp at this
      · have := h s (by omega)
        rw [hbk s (by omega), hc] at this
        cases z : mS (kd s) (oa s) (ob s) v ((pE (lsS n m kd oa ob 0 v) 12).getD j 0) with
        | false => rfl
        | true =>
          have ho : oB (fun j => q.testBit j && (decide (s < m) && mS (kd s) (oa s) (ob s) v ((pE (lsS n m kd oa ob 0 v) 12).getD j 0))) (pE (lsS n m kd oa ob 0 v) 12).length = true := oB_iff.mpr ⟨j, hj, by rw [hq, decide_eq_true hs, z]; rfl⟩
          rw [ho] at this; simp at this
    · rintro ⟨h1, h2⟩ s hs
      cases hc : c.testBit s with
      | false => simp
      | true =>
        rw [hbk s hs]
        by_cases hsm : s < m
        · rw [h1 s hsm hc, Bool.and_false, Bool.false_or]
          cases z : oB (fun j => q.testBit j && (decide (s < m) && mS (kd s) (oa s) (ob s) v ((pE (lsS n m kd oa ob 0 v) 12).getD j 0))) (pE (lsS n m kd oa ob 0 v) 12).length with
          | false => rfl
          | true =>
            obtain ⟨j, hj, hz⟩ := oB_iff.mp z
            rw [Bool.and_eq_true, Bool.and_eq_true] at hz
            rw [h2 j hj hz.1 s hsm hc] at hz
            exact absurd hz.2.2 (by decide)
        · rw [decide_eq_false hsm]
          have : oB (fun j => q.testBit j && (false && mS (kd s) (oa s) (ob s) v ((pE (lsS n m kd oa ob 0 v) 12).getD j 0))) (pE (lsS n m kd oa ob 0 v) 12).length = false := by
            rw [← Bool.not_eq_true, oB_iff]
            rintro ⟨j, -, hz⟩
            simp at hz
          rw [this]; rfl
  cases hgv : gvB g n v with
  | true =>
    rw [Bool.not_true, Bool.false_and]
    unfold rch
    rw [bne_eq_false_iff_eq]
    rcases Nat.eq_zero_or_pos (wF (ed (KA g n m kd oa ob c nmt none) n) (2 ^ (2 * n)) v) with z | z
    · exact z
    · have := (cg_snd hcg v hv (by unfold KA at z; omega)).2
      rw [bkn_iff, hgv] at this
      cases this.1
  | false =>
    rw [Bool.not_false, Bool.true_and, Bool.eq_iff_iff]
    unfold rch rcP
    rw [bne_iff_ne, oB_iff]
    constructor
    · intro hF
      have hb := (cg_snd hcg v hv hF).2
      have hF2 : wF (ed (kAll g n m kd oa ob c nmt none) n) (2 ^ (2 * n)) v ≠ 0 := hF
      rw [cg_F hcg hv hvl hb h0] at hF2
      obtain ⟨d, hd, hp⟩ := sm_pos (Nat.pos_of_ne_zero hF2)
      by_cases z : d ≠ 0 ∧ sb d (lsS n m kd oa ob c v) = true
      · rw [if_pos z] at hp
        have hsub : sb d (lsS n m kd oa ob 0 v) = true := sb_iff.mpr fun e he => by
          have := sb_iff.mp z.2 e he
          rw [lsS_bit (by omega), lsd_iff] at this ⊢
          exact ⟨this.1, this.2.1, fun k _ hc => by rw [Nat.zero_testBit] at hc; cases hc⟩
        obtain ⟨q, q1, q2⟩ := List.getElem_of_mem ((pL_mem _ 12 d).mpr ⟨by omega, hsub⟩)
        have q3 : (pL (lsS n m kd oa ob 0 v) 12).getD q 0 = d := by rw [List.getD_eq_getElem?_getD, List.getElem?_eq_getElem q1]; exact q2
        refine ⟨q, q1, ?_⟩
        rw [Bool.and_eq_true, Bool.and_eq_true, q3, decide_eq_true_eq]
        refine ⟨?_, (hokc q).mpr ⟨(bkn_iff.mp hb).2.1, fun j hj hq s hs hc => ?_⟩, by unfold rch KA; rw [bne_iff_ne]; omega⟩
        · rcases Nat.eq_zero_or_pos q with w | w
          · rw [w, pL_0] at q3; exact absurd q3.symm z.1
          · exact w
        · have hx : d.testBit ((pE (lsS n m kd oa ob 0 v) 12).getD j 0) = true := by rw [← q3, pL_bit _ 12 q j q1 hj]; exact hq
          have := sb_iff.mp z.2 _ hx
          rw [lsS_bit (by omega), lsd_iff] at this
          exact this.2.2 s hs hc
      · rw [if_neg z] at hp; omega
    · rintro ⟨q, q1, hz⟩
      rw [Bool.and_eq_true, Bool.and_eq_true, decide_eq_true_eq] at hz
      obtain ⟨z1, z2, z3⟩ := hz
      obtain ⟨k1, k2⟩ := (hokc q).mp z2
      have hb : bkn g n m kd oa ob c nmt v = false := bkn_iff.mpr ⟨hgv, k1, nmt_ok⟩
      have hsb := pL_sb q1
      have hpos := pL_mono (lsS n m kd oa ob 0 v) 12 0 q z1 q1
      rw [pL_0] at hpos
      have hbit := fun j hj => pL_bit (lsS n m kd oa ob 0 v) 12 q j q1 hj
      generalize (pL (lsS n m kd oa ob 0 v) 12).getD q 0 = d at *
      have hsc : sb d (lsS n m kd oa ob c v) = true := sb_iff.mpr fun e he => by
        have h1 := sb_iff.mp hsb e he
        have hlt : e < 12 := by
          rcases Nat.lt_or_ge e 12 with w | w
          · exact w
          · have hd : d < 2 ^ 12 := Nat.lt_of_le_of_lt (sb_le hsb) (lo_lt _ 12)
            rw [tb_small hd w] at he; cases he
        have he12 : e ∈ pE (lsS n m kd oa ob 0 v) 12 := (pE_mem _ _ _).mpr ⟨hlt, h1⟩
        obtain ⟨j, j1, j2⟩ := List.getElem_of_mem he12
        have j3 : (pE (lsS n m kd oa ob 0 v) 12).getD j 0 = e := by rw [List.getD_eq_getElem?_getD, List.getElem?_eq_getElem j1]; exact j2
        rw [lsS_bit (by omega), lsd_iff] at h1 ⊢
        refine ⟨h1.1, h1.2.1, fun k hk hc => ?_⟩
        have := k2 j j1 (by rw [← hbit j j1, j3]; exact he) k hk hc
        rw [j3] at this; exact this
      intro hF
      have hF2 : wF (ed (kAll g n m kd oa ob c nmt none) n) (2 ^ (2 * n)) v = 0 := hF
      rw [cg_F hcg hv hvl hb h0] at hF2
      have ht := sm_term (f := fun c' => if c' ≠ 0 ∧ sb c' (lsS n m kd oa ob c v) = true then wF (ed (kAll g n m kd oa ob c nmt none) n) (2 ^ (2 * n)) (v - c') else 0) (n := 2 ^ (2 * n)) (k := d) (by have := sb_le (hcg0.2.2.1 v hv hvl d hsb).1; omega)
      rw [hF2] at ht
      rw [if_pos ⟨by omega, hsc⟩] at ht
      unfold rch at z3
      rw [bne_iff_ne] at z3
      exact z3 (by unfold KA; omega)
