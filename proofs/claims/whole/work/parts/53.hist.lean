/-! the demands of the history are those of the book's graph -/
theorem b255 : ∀ k, k < 8 → (255 : Nat).testBit k = true := by decide
theorem z9 {x : Nat} (h : x < 512) : x = 0 ↔ (∀ s, s < 8 → x.testBit s = false) ∧ x.testBit 8 = false := by
  constructor
  · rintro rfl
    exact ⟨fun s _ => Nat.zero_testBit s, Nat.zero_testBit 8⟩
  · rintro ⟨h1, h2⟩
    apply Nat.eq_of_testBit_eq
    intro e
    rw [Nat.zero_testBit]
    rcases Nat.lt_trichotomy e 8 with q | q | q
    · exact h1 e q
    · rw [q]; exact h2
    · exact Nat.testBit_lt_two_pow (Nat.lt_of_lt_of_le h (show 2 ^ 9 ≤ 2 ^ e from Nat.pow_le_pow_right (by decide) (by omega)))
theorem DG_hist {g : Nat → Int32} {n m : Nat} {kd oa ob : Nat → Nat} (hg : HB g n m kd oa ob) : DG n (DS kd oa ob n m) (PS g kd oa ob n m) (bkn g n m kd oa ob 255 nmt) (lsS n m kd oa ob 255) := by
  obtain ⟨h0, h1, hn, hm, hk⟩ := hg
  have hkd : ∀ k, k < m → kd k < 8 := fun k q => (hk k q).2.1
  have l1 := DS_len kd oa ob n m
  have l2 := PS_len g kd oa ob hn m
  refine ⟨by omega, by omega, wfD_DS hn (fun k q => ⟨(hk k q).2.2.2.1, (hk k q).2.2.2.2.2⟩), wfP_PS hn (fun k q => ⟨(hk k q).2.2.2.1, (hk k q).2.2.2.2.2⟩), fun v hv hvl => ?_⟩
  obtain ⟨a1, a2, a3⟩ := b0_bits (g := g) (oa := oa) (ob := ob) (n := n) (v := v) hm hkd
  refine ⟨by omega, ?_, fun x hx => ?_, ?_⟩
  · rw [z9 a1, bkn_iff, a3]
    constructor
    · rintro ⟨q1, q2⟩
      refine ⟨q2, fun k hk' _ => ?_, nmt_ok⟩
      have := q1 k (by omega)
      rw [a2 k (by omega), decide_eq_true hk', Bool.true_and] at this
      exact this
    · rintro ⟨q1, q2, -⟩
      refine ⟨fun s hs => ?_, q1⟩
      rw [a2 s hs]
      by_cases z : s < m
      · rw [q2 s z (b255 s hs), Bool.and_false]
      · rw [decide_eq_false z, Bool.false_and]
  · have := (mi_bits (oa := oa) (ob := ob) (n := n) (v := v) (x := x) hm hkd).1
    omega
  · unfold lsS
    refine lo_c 12 (fun x hx => ?_)
    obtain ⟨c1, c2, c3⟩ := mi_bits (oa := oa) (ob := ob) (n := n) (v := v) (x := x) hm hkd
    unfold lsd
    congr 1
    rw [Bool.eq_iff_iff, beq_iff_eq, z9 c1, c3, Bool.and_eq_true, Bool.not_eq_true', Bool.not_eq_true', ← Bool.not_eq_true (oB _ _), oB_iff]
    constructor
    · rintro ⟨q1, q2⟩
      refine ⟨q2, ?_⟩
      rintro ⟨k, hk', q⟩
      have := q1 k (by omega)
      rw [c2 k (by omega), decide_eq_true hk', Bool.true_and] at this
      rw [this, Bool.and_false] at q; cases q
    · rintro ⟨q1, q2⟩
      refine ⟨fun s hs => ?_, q1⟩
      rw [c2 s hs]
      by_cases z : s < m
      · cases q : mS (kd s) (oa s) (ob s) v x with
        | false => rw [Bool.and_false]
        | true => exact absurd ⟨s, z, by rw [b255 s hs, q]; rfl⟩ q2
      · rw [decide_eq_false z, Bool.false_and]
/-- the graph of the book -/
def KB (g : Nat → Int32) (n m : Nat) (kd oa ob : Nat → Nat) : Nat → Nat → Bool := KA g n m kd oa ob 255 nmt none
theorem CG_hist {g : Nat → Int32} {n m : Nat} {kd oa ob : Nat → Nat} (hg : HB g n m kd oa ob) : CG n (KB g n m kd oa ob) (bkn g n m kd oa ob 255 nmt) (lsS n m kd oa ob 255) := cg_mk hg.2.2.1 (fun k q => (hg.2.2.2.2 k q).2.1)
/-- what FIND leaves, when it goes for the book -/
def FD (g : Nat → Int32) (n m : Nat) (kd oa ob : Nat → Nat) (isF st : Int32) (lo : Nat → Int32) (wa : Nat → Int64) (f : Int64) (mo : Int32) (mt : Nat → Int32) (ah al : Nat → Int64) : Prop :=
  isF = 0 ∨ (st = nI (3 ^ n) ∧ LW (bkn g n m kd oa ob 255 nmt) (lsS n m kd oa ob 255) (wF (ed (KB g n m kd oa ob) n) (2 ^ (2 * n))) (3 ^ n) lo wa ∧ FND n (KB g n m kd oa ob) f mo mt ah al)
def CD (g : Nat → Int32) (n m : Nat) (kd oa ob : Nat → Nat) (isC en : Int32) (op : Nat → Int64) : Prop := isC = 0 ∨ CHS g n m kd oa ob en op
