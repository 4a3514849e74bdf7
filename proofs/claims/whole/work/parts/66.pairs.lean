/-! the graph looks at OF, not at the watch -/
theorem sme_c {g g' : Nat → Int32} {n a b : Nat} (hn : n < 7) (h : ∀ t, t < 6 → g' (2 + t) = g (2 + t)) (ha : a < n) (hb : b < n) : sme g' a b = sme g a b := by
  unfold sme
  rw [h a (by omega), h b (by omega)]
theorem KA_c {g g' : Nat → Int32} {n m c : Nat} {kd oa ob : Nat → Nat} {mt : Nat → Option Nat} {pa : Option (Nat × Nat)} (hn : n < 7) (h : ∀ t, t < 6 → g' (2 + t) = g (2 + t)) : KA g' n m kd oa ob c mt pa = KA g n m kd oa ob c mt pa := by
  funext s M
  unfold KA kAll
  congr 1
  refine aB_c (fun a ha => ?_)
  congr 1
  refine aB_c (fun b hb => ?_)
  rw [sme_c hn h ha (by omega)]
theorem gvB_c {g g' : Nat → Int32} {n v : Nat} (hn : n < 7) (h : ∀ t, t < 6 → g' (2 + t) = g (2 + t)) : gvB g' n v = gvB g n v := by
  unfold gvB
  congr 1
  refine oB_c (fun a ha => oB_c (fun b hb => ?_))
  rw [sme_c hn h ha (by omega)]
theorem bkn_c {g g' : Nat → Int32} {n m c : Nat} {kd oa ob : Nat → Nat} {mt : Nat → Option Nat} (hn : n < 7) (h : ∀ t, t < 6 → g' (2 + t) = g (2 + t)) : bkn g' n m kd oa ob c mt = bkn g n m kd oa ob c mt := by
  funext v
  unfold bkn
  rw [gvB_c hn h]
theorem FD_c {g g' : Nat → Int32} {n m : Nat} {kd oa ob : Nat → Nat} {isF st : Int32} {lo : Nat → Int32} {wa : Nat → Int64} {f : Int64} {mo : Int32} {mt : Nat → Int32} {ah al : Nat → Int64} (hn : n < 7) (h : ∀ t, t < 6 → g' (2 + t) = g (2 + t)) (hf : FD g n m kd oa ob isF st lo wa f mo mt ah al) : FD g' n m kd oa ob isF st lo wa f mo mt ah al := by
  unfold FD KB at *
  rw [KA_c hn h, bkn_c hn h]
  exact hf
theorem CD_c {g g' : Nat → Int32} {n m : Nat} {kd oa ob : Nat → Nat} {isC en : Int32} {op : Nat → Int64} (hn : n < 7) (h : ∀ t, t < 6 → g' (2 + t) = g (2 + t)) (hf : CD g n m kd oa ob isC en op) : CD g' n m kd oa ob isC en op := by
  unfold CD CHS at *
  rcases hf with hf | ⟨h1, h2⟩
  · exact Or.inl hf
  · refine Or.inr ⟨h1, fun w b hw hb => ?_⟩
    rw [KA_c hn h]; exact h2 w b hw hb
/-! pairs -/
def AR (a b : Nat) : List DR := [(2 * a, 2 * b, false, 256), (2 * b, 2 * a, false, 256)] ++ [(2 * a + 1, 2 * b + 1, false, 256), (2 * b + 1, 2 * a + 1, false, 256)]
def alk (v a b : Nat) : Bool := v.testBit (2 * a) == v.testBit (2 * b) && v.testBit (2 * a + 1) == v.testBit (2 * b + 1)
def DP (D : List DR) (h t : Nat → Nat) : Nat → List DR
  | 0 => D
  | k + 1 => DP D h t k ++ AR (h k) (t k)
theorem DP_len {D : List DR} {h t : Nat → Nat} : ∀ k, (DP D h t k).length = D.length + 4 * k
  | 0 => rfl
  | k + 1 => by rw [DP, List.length_append, DP_len k]; show D.length + 4 * k + 4 = _; omega
theorem AR_br (v a b : Nat) : oR (brD v) (AR a b) = if alk v a b = true then 0 else 256 := by
  unfold AR alk
  simp only [List.cons_append, List.nil_append, oR, brD]
  cases v.testBit (2 * a) <;> cases v.testBit (2 * b) <;> cases v.testBit (2 * a + 1) <;> cases v.testBit (2 * b + 1) <;> rfl
theorem AR_mi (v x a b : Nat) : oR (miD v x) (AR a b) = 0 := by
  unfold AR
  simp only [List.cons_append, List.nil_append, oR, miD, Bool.false_eq_true, false_and, and_false, if_false]
  rfl
theorem DP_br {D : List DR} {h t : Nat → Nat} {v : Nat} : ∀ k, oR (brD v) (DP D h t k) = oR (brD v) D ||| (if aB (fun j => alk v (h j) (t j)) k = true then 0 else 256)
  | 0 => by rw [DP]; exact (Nat.or_zero _).symm
  | k + 1 => by
    rw [DP, oR_app, DP_br k, AR_br, Nat.or_assoc]
    congr 1
    rw [aB]
    cases aB (fun j => alk v (h j) (t j)) k <;> cases alk v (h k) (t k) <;> rfl
theorem DP_mi {D : List DR} {h t : Nat → Nat} {v x : Nat} : ∀ k, miM (DP D h t k) v x = miM D v x
  | 0 => rfl
  | k + 1 => by
    have := DP_mi (D := D) (h := h) (t := t) (v := v) (x := x) k
    unfold miM at this ⊢
    rw [DP, oR_app, this, AR_mi, Nat.or_zero]
theorem wfD_DP {D : List DR} {h t : Nat → Nat} (hD : wfD D) : ∀ k, (∀ j, j < k → h j < 6 ∧ t j < 6) → wfD (DP D h t k)
  | 0, _ => hD
  | k + 1, hk => by
    have ih := wfD_DP hD k (fun j hj => hk j (by omega))
    obtain ⟨h1, h2⟩ := hk k (by omega)
    intro d hd
    rw [DP, List.mem_append] at hd
    rcases hd with hd | hd
    · exact ih d hd
    · unfold AR at hd
      simp only [List.cons_append, List.nil_append, List.mem_cons, List.not_mem_nil, or_false] at hd
      rcases hd with rfl | rfl | rfl | rfl <;> simp only <;> omega
/-- the mates by the pairs -/
def mtP (h t : Nat → Nat) : Nat → Nat → Option Nat
  | 0 => nmt
  | k + 1 => fun a => if a = h k then some (t k) else mtP h t k a
theorem mtP_e (h t : Nat → Nat) (k a : Nat) : mtP h t (k + 1) a = if a = h k then some (t k) else mtP h t k a := rfl
theorem mtP_S {h t : Nat → Nat} {v n : Nat} : ∀ k, (∀ j, j < k → h j < n) → (∀ i j, i < j → j < k → h i ≠ h j) → ((∀ a, a < n → mtS (mtP h t k) v a = true) ↔ ∀ j, j < k → alk v (h j) (t j) = true)
  | 0, _, _ => ⟨fun _ j hj => absurd hj (Nat.not_lt_zero j), fun _ => nmt_ok⟩
  | k + 1, hk, hi => by
    have ih := mtP_S (v := v) (t := t) (n := n) k (fun j hj => hk j (by omega)) (fun i j h1 h2 => hi i j h1 (by omega))
    have hne : ∀ j, j < k → mtP h t (k + 1) (h j) = mtP h t k (h j) := fun j hj => by rw [mtP_e, if_neg (hi j k hj (by omega))]
    constructor
    · intro q j hj
      by_cases z : j = k
      · subst z
        have := q (h j) (hk j (by omega))
        unfold mtS at this
        rw [mtP_e, if_pos rfl] at this
        exact this
      · refine ih.mp (fun a ha => ?_) j (by omega)
        by_cases e : a = h k
        · -- not among the first: none
          have none_ : ∀ i, i ≤ k → mtP h t i (h k) = none := by
            intro i
            induction i with
            | zero => intro _; rfl
            | succ i ihh =>
              intro hi2
              rw [mtP_e, if_neg (fun z : h k = h i => hi i k (by omega) (by omega) z.symm)]
              exact ihh (by omega)
          unfold mtS
          rw [e, none_ k (Nat.le_refl k)]
        · have := q a ha
          unfold mtS at this ⊢
          rw [mtP_e, if_neg e] at this
          exact this
    · intro q a ha
      by_cases e : a = h k
      · unfold mtS
        rw [mtP_e, if_pos e, e]
        exact q k (by omega)
      · have := ih.mpr (fun j hj => q j (by omega)) a ha
        unfold mtS at this ⊢
        rw [mtP_e, if_neg e]
        exact this
theorem DG_pairs {g : Nat → Int32} {n m : Nat} {kd oa ob h t : Nat → Nat} {k : Nat} (hg : HB g n m kd oa ob) (hk : k < 4) (hh : ∀ j, j < k → h j < n ∧ t j < n) (hi : ∀ i j, i < j → j < k → h i ≠ h j) : DG n (DP (DS kd oa ob n m) h t k) (PS g kd oa ob n m) (bkn g n m kd oa ob 255 (mtP h t k)) (lsS n m kd oa ob 255) := by
  obtain ⟨d1, d2, d3, d4, d5⟩ := DG_hist hg
  have hn := hg.2.2.1
  have hm := hg.2.2.2.1
  have l1 := DS_len kd oa ob n m
  refine ⟨by rw [DP_len]; omega, d2, wfD_DP d3 k (fun j hj => ⟨by have := (hh j hj).1; omega, by have := (hh j hj).2; omega⟩), d4, fun v hv hvl => ?_⟩
  obtain ⟨e1, e2, e3, e4⟩ := d5 v hv hvl
  have hb : brM (DP (DS kd oa ob n m) h t k) (PS g kd oa ob n m) v = brM (DS kd oa ob n m) (PS g kd oa ob n m) v ||| (if aB (fun j => alk v (h j) (t j)) k = true then 0 else 256) := by
    unfold brM
    rw [DP_br, Nat.or_assoc, Nat.or_assoc, Nat.or_comm (oR (brP v) _)]
  have hmts := mtP_S (h := h) (t := t) (v := v) (n := n) k (fun j hj => (hh j hj).1) hi
  have hbk : bkn g n m kd oa ob 255 (mtP h t k) v = false ↔ bkn g n m kd oa ob 255 nmt v = false ∧ ∀ j, j < k → alk v (h j) (t j) = true := by
    rw [bkn_iff, bkn_iff, ← hmts]
    exact ⟨fun ⟨a, b, c⟩ => ⟨⟨a, b, nmt_ok⟩, c⟩, fun ⟨⟨a, b, _⟩, c⟩ => ⟨a, b, c⟩⟩
  refine ⟨?_, ?_, fun x hx => by rw [DP_mi]; exact e3 x hx, ?_⟩
  · rw [hb]
    exact Nat.or_lt_two_pow e1 (by split <;> decide)
  · rw [hb, hbk, ← e2]
    by_cases z : aB (fun j => alk v (h j) (t j)) k = true
    · rw [if_pos z, Nat.or_zero]
      exact ⟨fun q => ⟨q, aB_iff.mp z⟩, fun q => q.1⟩
    · rw [if_neg z]
      constructor
      · intro q
        have := Nat.right_le_or (m := 256) (n := brM (DS kd oa ob n m) (PS g kd oa ob n m) v)
        omega
      · rintro ⟨-, q⟩
        exact absurd (aB_iff.mpr q) z
  · rw [← e4]
    exact lo_c 12 (fun x hx => by rw [DP_mi])
theorem s_takePair {D : List DR} {a b : Nat} {so la st ma : Nat → Int32} {Q : Int32 → (Nat → Int32) → (Nat → Int32) → (Nat → Int32) → (Nat → Int32) → Prop} (hl : D.length < 45) (h : dR D so la st ma)
    (hQ : ∀ so la st ma, dR (D ++ AR a b) so la st ma → Q (nI (D ++ AR a b).length) so la st ma) : wp_X2_takePair (nI a) (nI b) (nI D.length) so la st ma Q := by
  unfold wp_X2_takePair
  rw [show (2 : Int32) = nI 2 from rfl, pk_mul, pk_mul, show (1 : Int32) = nI 1 from rfl, nI_add, nI_add]
  refine s_alike (mk := 256) (by omega) h (fun so la st ma h => s_alike (mk := 256) (by simp; omega) h (fun so la st ma h => ?_))
  unfold AR at hQ
  rw [List.append_assoc] at h ⊢
  exact hQ so la st ma h
