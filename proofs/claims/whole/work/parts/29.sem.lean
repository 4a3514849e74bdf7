/-! what is broken, what is missed: of a saying, of a history -/
def bS (k a b v : Nat) : Bool :=
  if k = 0 then v.testBit (2 * b) && !v.testBit (2 * a + 1)
  else if k = 1 then (v.testBit (2 * b) && !v.testBit (2 * a + 1)) || (v.testBit (2 * a + 1) && !v.testBit (2 * b))
  else if k = 2 ∨ k = 3 then (v.testBit (2 * a) && !v.testBit (2 * b)) || (v.testBit (2 * b + 1) && !v.testBit (2 * a + 1))
  else if k = 4 then (v.testBit (2 * b) && !v.testBit (2 * a)) || (v.testBit (2 * a) && !v.testBit (2 * b)) || (v.testBit (2 * b + 1) && !v.testBit (2 * a + 1))
  else if k = 5 then (v.testBit (2 * b + 1) && !v.testBit (2 * a + 1)) || (v.testBit (2 * a + 1) && !v.testBit (2 * b + 1)) || (v.testBit (2 * a) && !v.testBit (2 * b))
  else if k = 6 then lst v a && lst v b
  else (v.testBit (2 * b) && !v.testBit (2 * a)) || (v.testBit (2 * a + 1) && !v.testBit (2 * b)) || (v.testBit (2 * b + 1) && !v.testBit (2 * a + 1))
def mS (k a b v x : Nat) : Bool :=
  if k = 0 then x == 2 * a + 1 && (v.testBit (2 * a + 1) && v.testBit (2 * b))
  else if k = 3 then (x == 2 * b && (v.testBit (2 * b) && v.testBit (2 * a))) || (x == 2 * a + 1 && (v.testBit (2 * a + 1) && v.testBit (2 * b + 1)))
  else if k = 7 then (x == 2 * a && (v.testBit (2 * a) && v.testBit (2 * b))) || (x == 2 * b && (v.testBit (2 * b) && v.testBit (2 * a + 1))) || (x == 2 * a + 1 && (v.testBit (2 * a + 1) && v.testBit (2 * b + 1)))
  else false
def mM (k a b v M : Nat) : Bool :=
  if k = 0 then M.testBit (2 * a + 1) && (v.testBit (2 * a + 1) && v.testBit (2 * b))
  else if k = 3 then (M.testBit (2 * b) && (v.testBit (2 * b) && v.testBit (2 * a))) || (M.testBit (2 * a + 1) && (v.testBit (2 * a + 1) && v.testBit (2 * b + 1)))
  else if k = 7 then (M.testBit (2 * a) && (v.testBit (2 * a) && v.testBit (2 * b))) || (M.testBit (2 * b) && (v.testBit (2 * b) && v.testBit (2 * a + 1))) || (M.testBit (2 * a + 1) && (v.testBit (2 * a + 1) && v.testBit (2 * b + 1)))
  else false
theorem mM_iff (k a b v M : Nat) : mM k a b v M = true ↔ ∃ x, M.testBit x = true ∧ mS k a b v x = true := by
  unfold mM mS
  by_cases h0 : k = 0
  · simp only [if_pos h0, Bool.and_eq_true, beq_iff_eq]
    constructor
    · rintro ⟨h1, h2⟩; exact ⟨_, h1, rfl, h2⟩
    · rintro ⟨x, h1, rfl, h2⟩; exact ⟨h1, h2⟩
  by_cases h3 : k = 3
  · simp only [if_neg h0, if_pos h3, Bool.and_eq_true, Bool.or_eq_true, beq_iff_eq]
    constructor
    · rintro (⟨h1, h2⟩ | ⟨h1, h2⟩)
      · exact ⟨_, h1, Or.inl ⟨rfl, h2⟩⟩
      · exact ⟨_, h1, Or.inr ⟨rfl, h2⟩⟩
    · rintro ⟨x, h1, (⟨rfl, h2⟩ | ⟨rfl, h2⟩)⟩
      · exact Or.inl ⟨h1, h2⟩
      · exact Or.inr ⟨h1, h2⟩
  by_cases h7 : k = 7
  · simp only [if_neg h0, if_neg h3, if_pos h7, Bool.and_eq_true, Bool.or_eq_true, beq_iff_eq]
    constructor
    · rintro ((⟨h1, h2⟩ | ⟨h1, h2⟩) | ⟨h1, h2⟩)
      · exact ⟨_, h1, Or.inl (Or.inl ⟨rfl, h2⟩)⟩
      · exact ⟨_, h1, Or.inl (Or.inr ⟨rfl, h2⟩)⟩
      · exact ⟨_, h1, Or.inr ⟨rfl, h2⟩⟩
    · rintro ⟨x, h1, ((⟨rfl, h2⟩ | ⟨rfl, h2⟩) | ⟨rfl, h2⟩)⟩
      · exact Or.inl (Or.inl ⟨h1, h2⟩)
      · exact Or.inl (Or.inr ⟨h1, h2⟩)
      · exact Or.inr ⟨h1, h2⟩
  simp [h0, h3, h7]
theorem DK_br (k a b v i : Nat) (hk : k < 8) : (oR (brD v) (DK k a b (2 ^ i)) ||| oR (brP v) (PK k a b (2 ^ i))) = if bS k a b v = true then 2 ^ i else 0 := by
  match k, hk with
  | 0, _ => cases h1 : v.testBit (2 * b) <;> cases h2 : v.testBit (2 * a + 1) <;> cases h3 : v.testBit (2 * a) <;> cases h4 : v.testBit (2 * b + 1) <;> simp [DK, PK, bS, oR, brD, brP, lst, h1, h2, h3, h4]
  | 1, _ => cases h1 : v.testBit (2 * b) <;> cases h2 : v.testBit (2 * a + 1) <;> cases h3 : v.testBit (2 * a) <;> cases h4 : v.testBit (2 * b + 1) <;> simp [DK, PK, bS, oR, brD, brP, lst, h1, h2, h3, h4]
  | 2, _ => cases h1 : v.testBit (2 * b) <;> cases h2 : v.testBit (2 * a + 1) <;> cases h3 : v.testBit (2 * a) <;> cases h4 : v.testBit (2 * b + 1) <;> simp [DK, PK, bS, oR, brD, brP, lst, h1, h2, h3, h4]
  | 3, _ => cases h1 : v.testBit (2 * b) <;> cases h2 : v.testBit (2 * a + 1) <;> cases h3 : v.testBit (2 * a) <;> cases h4 : v.testBit (2 * b + 1) <;> simp [DK, PK, bS, oR, brD, brP, lst, h1, h2, h3, h4]
  | 4, _ => cases h1 : v.testBit (2 * b) <;> cases h2 : v.testBit (2 * a + 1) <;> cases h3 : v.testBit (2 * a) <;> cases h4 : v.testBit (2 * b + 1) <;> simp [DK, PK, bS, oR, brD, brP, lst, h1, h2, h3, h4]
  | 5, _ => cases h1 : v.testBit (2 * b) <;> cases h2 : v.testBit (2 * a + 1) <;> cases h3 : v.testBit (2 * a) <;> cases h4 : v.testBit (2 * b + 1) <;> simp [DK, PK, bS, oR, brD, brP, lst, h1, h2, h3, h4]
  | 6, _ => cases h1 : v.testBit (2 * b) <;> cases h2 : v.testBit (2 * a + 1) <;> cases h3 : v.testBit (2 * a) <;> cases h4 : v.testBit (2 * b + 1) <;> simp [DK, PK, bS, oR, brD, brP, lst, h1, h2, h3, h4]
  | 7, _ => cases h1 : v.testBit (2 * b) <;> cases h2 : v.testBit (2 * a + 1) <;> cases h3 : v.testBit (2 * a) <;> cases h4 : v.testBit (2 * b + 1) <;> simp [DK, PK, bS, oR, brD, brP, lst, h1, h2, h3, h4]
theorem DK_mi (k a b v x i : Nat) (hk : k < 8) : oR (miD v x) (DK k a b (2 ^ i)) = if mS k a b v x = true then 2 ^ i else 0 := by
  match k, hk with
  | 0, _ => by_cases q : x = 2 * a + 1 <;> by_cases q2 : x = 2 * b <;> by_cases q3 : x = 2 * a <;> cases h1 : v.testBit (2 * b) <;> cases h2 : v.testBit (2 * a + 1) <;> cases h3 : v.testBit (2 * a) <;> cases h4 : v.testBit (2 * b + 1) <;> simp [DK, mS, oR, miD, q, q2, q3, h1, h2, h3, h4] <;> (repeat' split) <;> simp
  | 1, _ => simp [DK, mS, oR, miD]
  | 2, _ => simp [DK, mS, oR, miD]
  | 3, _ => by_cases q : x = 2 * a + 1 <;> by_cases q2 : x = 2 * b <;> by_cases q3 : x = 2 * a <;> cases h1 : v.testBit (2 * b) <;> cases h2 : v.testBit (2 * a + 1) <;> cases h3 : v.testBit (2 * a) <;> cases h4 : v.testBit (2 * b + 1) <;> simp [DK, mS, oR, miD, q, q2, q3, h1, h2, h3, h4] <;> (repeat' split) <;> simp
  | 4, _ => simp [DK, mS, oR, miD]
  | 5, _ => simp [DK, mS, oR, miD]
  | 6, _ => simp [DK, mS, oR, miD]
  | 7, _ => by_cases q : x = 2 * a + 1 <;> by_cases q2 : x = 2 * b <;> by_cases q3 : x = 2 * a <;> cases h1 : v.testBit (2 * b) <;> cases h2 : v.testBit (2 * a + 1) <;> cases h3 : v.testBit (2 * a) <;> cases h4 : v.testBit (2 * b + 1) <;> simp [DK, mS, oR, miD, q, q2, q3, h1, h2, h3, h4] <;> (repeat' split) <;> simp
theorem i256 (a b : Bool) : ((if a = true then 256 else 0) ||| (if b = true then 256 else 0)) = (if (a || b) = true then 256 else 0) := by cases a <;> cases b <;> rfl
/-- what is given is broken: an end ahead of its beginning; two of one that both last -/
def gvB (g : Nat → Int32) (n v : Nat) : Bool := oB (fun t => v.testBit (2 * t + 1) && !v.testBit (2 * t)) n || oB (fun a => oB (fun b => sme g a b && (lst v a && lst v b)) a) n
def gvM (n v x : Nat) : Bool := oB (fun t => x == 2 * t && (v.testBit (2 * t + 1) && v.testBit (2 * t))) n
theorem DT_br (v : Nat) : ∀ n, oR (brD v) (DT n) = if oB (fun t => v.testBit (2 * t + 1) && !v.testBit (2 * t)) n = true then 256 else 0
  | 0 => rfl
  | n + 1 => by
    rw [DT, oR_snoc, DT_br v n, oB, ← i256]
    congr 1
    unfold brD
    cases v.testBit (2 * n + 1) <;> cases v.testBit (2 * n) <;> simp
theorem DT_mi (v x : Nat) : ∀ n, oR (miD v x) (DT n) = if gvM n v x = true then 256 else 0
  | 0 => rfl
  | n + 1 => by
    rw [DT, oR_snoc, DT_mi v x n, gvM, gvM, oB, ← i256]
    congr 1
    unfold miD
    by_cases q : x = 2 * n <;> cases v.testBit (2 * n + 1) <;> cases v.testBit (2 * n) <;> simp [q]
theorem PW_br (g : Nat → Int32) (a v : Nat) : ∀ b, oR (brP v) (PW g a b) = if oB (fun b => sme g a b && (lst v a && lst v b)) b = true then 256 else 0
  | 0 => rfl
  | b + 1 => by
    rw [PW, oR_app, PW_br g a v b, oB, ← i256]
    congr 1
    cases q : sme g a b
    · simp [oR]
    · simp only [if_true, oR, brP]
      cases lst v a <;> cases lst v b <;> simp
theorem PT_br (g : Nat → Int32) (v : Nat) : ∀ n, oR (brP v) (PT g n) = if oB (fun a => oB (fun b => sme g a b && (lst v a && lst v b)) a) n = true then 256 else 0
  | 0 => rfl
  | n + 1 => by rw [PT, oR_app, PT_br g v n, oB, ← i256, PW_br]
theorem lo_or (p : Nat → Bool) (k : Nat) : lo p (k + 1) = lo p k ||| (if p k = true then 2 ^ k else 0) := by
  rw [lo]
  split
  · have := Nat.two_pow_add_eq_or_of_lt (lo_lt p k) 1
    rw [Nat.mul_one] at this
    rw [Nat.or_comm, ← this, Nat.add_comm]
  · simp
theorem br_all (g : Nat → Int32) (kd oa ob : Nat → Nat) (n v : Nat) : ∀ m, (∀ k, k < m → kd k < 8) → (oR (brD v) (DS kd oa ob n m) ||| oR (brP v) (PS g kd oa ob n m)) = (if gvB g n v = true then 256 else 0) ||| lo (fun k => bS (kd k) (oa k) (ob k) v) m
  | 0, _ => by rw [DS, PS, DT_br, PT_br, i256, lo, Nat.or_zero]; rfl
  | m + 1, h => by
    have ih := br_all g kd oa ob n v m (fun k hk => h k (by omega))
    have hk := DK_br (kd m) (oa m) (ob m) v m (h m (by omega))
    rw [DS, PS, oR_app, oR_app, lo_or, ← hk]
    generalize lo (fun k => bS (kd k) (oa k) (ob k) v) m = L at *
    generalize (if gvB g n v = true then 256 else 0) = G at *
    rw [← Nat.or_assoc G, ← ih]
    apply Nat.eq_of_testBit_eq
    intro i
    simp only [Nat.testBit_or]
    cases (oR (brD v) (DS kd oa ob n m)).testBit i <;> cases (oR (brP v) (PS g kd oa ob n m)).testBit i <;> simp
theorem mi_all (kd oa ob : Nat → Nat) (n v x : Nat) : ∀ m, (∀ k, k < m → kd k < 8) → oR (miD v x) (DS kd oa ob n m) = (if gvM n v x = true then 256 else 0) ||| lo (fun k => mS (kd k) (oa k) (ob k) v x) m
  | 0, _ => by rw [DS, DT_mi, lo, Nat.or_zero]
  | m + 1, h => by rw [DS, oR_app, lo_or, DK_mi _ _ _ _ _ _ (h m (by omega)), ← Nat.or_assoc, ← mi_all kd oa ob n v x m (fun k hk => h k (by omega))]
/-- the saying's own equivalence: behind a set that does not break it -/
theorem kp_eq {k a b s M n : Nat} (hk : k < 8) (h : sb M (nx s n) = true) (va : s.testBit (2 * a + 1) = true → s.testBit (2 * a) = true) (vb : s.testBit (2 * b + 1) = true → s.testBit (2 * b) = true) (hb : bS k a b s = false) : kp k a b s M = (!bS k a b (s + M) && !mM k a b (s + M) M) := by
  have fa1 : M.testBit (2 * a) = true → s.testBit (2 * a) = false ∧ s.testBit (2 * a + 1) = false := fun q => ((mo_bits h a).1 q).2
  have fa2 : M.testBit (2 * a + 1) = true → s.testBit (2 * a) = true ∧ s.testBit (2 * a + 1) = false := fun q => ((mo_bits h a).2 q).2
  have fb1 : M.testBit (2 * b) = true → s.testBit (2 * b) = false ∧ s.testBit (2 * b + 1) = false := fun q => ((mo_bits h b).1 q).2
  have fb2 : M.testBit (2 * b + 1) = true → s.testBit (2 * b) = true ∧ s.testBit (2 * b + 1) = false := fun q => ((mo_bits h b).2 q).2
  revert va vb hb fa1 fa2 fb1 fb2
  match k, hk with
  | 0, _ =>
    simp (config := {decide := true}) only [kp, bS, mM, mo_bit h, lst, ap, bn, if_true, if_false, reduceIte]
    generalize s.testBit (2 * a) = sa; generalize s.testBit (2 * a + 1) = sa'; generalize s.testBit (2 * b) = sb; generalize s.testBit (2 * b + 1) = sb'
    generalize M.testBit (2 * a) = ma; generalize M.testBit (2 * a + 1) = ma'; generalize M.testBit (2 * b) = mb; generalize M.testBit (2 * b + 1) = mb'
    clear h; revert sa sa' sb sb' ma ma' mb mb'; decide
  | 1, _ =>
    simp (config := {decide := true}) only [kp, bS, mM, mo_bit h, lst, ap, bn, if_true, if_false, reduceIte]
    generalize s.testBit (2 * a) = sa; generalize s.testBit (2 * a + 1) = sa'; generalize s.testBit (2 * b) = sb; generalize s.testBit (2 * b + 1) = sb'
    generalize M.testBit (2 * a) = ma; generalize M.testBit (2 * a + 1) = ma'; generalize M.testBit (2 * b) = mb; generalize M.testBit (2 * b + 1) = mb'
    clear h; revert sa sa' sb sb' ma ma' mb mb'; decide
  | 2, _ =>
    simp (config := {decide := true}) only [kp, bS, mM, mo_bit h, lst, ap, bn, if_true, if_false, reduceIte]
    generalize s.testBit (2 * a) = sa; generalize s.testBit (2 * a + 1) = sa'; generalize s.testBit (2 * b) = sb; generalize s.testBit (2 * b + 1) = sb'
    generalize M.testBit (2 * a) = ma; generalize M.testBit (2 * a + 1) = ma'; generalize M.testBit (2 * b) = mb; generalize M.testBit (2 * b + 1) = mb'
    clear h; revert sa sa' sb sb' ma ma' mb mb'; decide
  | 3, _ =>
    simp (config := {decide := true}) only [kp, bS, mM, mo_bit h, lst, ap, bn, if_true, if_false, reduceIte]
    generalize s.testBit (2 * a) = sa; generalize s.testBit (2 * a + 1) = sa'; generalize s.testBit (2 * b) = sb; generalize s.testBit (2 * b + 1) = sb'
    generalize M.testBit (2 * a) = ma; generalize M.testBit (2 * a + 1) = ma'; generalize M.testBit (2 * b) = mb; generalize M.testBit (2 * b + 1) = mb'
    clear h; revert sa sa' sb sb' ma ma' mb mb'; decide
  | 4, _ =>
    simp (config := {decide := true}) only [kp, bS, mM, mo_bit h, lst, ap, bn, if_true, if_false, reduceIte]
    generalize s.testBit (2 * a) = sa; generalize s.testBit (2 * a + 1) = sa'; generalize s.testBit (2 * b) = sb; generalize s.testBit (2 * b + 1) = sb'
    generalize M.testBit (2 * a) = ma; generalize M.testBit (2 * a + 1) = ma'; generalize M.testBit (2 * b) = mb; generalize M.testBit (2 * b + 1) = mb'
    clear h; revert sa sa' sb sb' ma ma' mb mb'; decide
  | 5, _ =>
    simp (config := {decide := true}) only [kp, bS, mM, mo_bit h, lst, ap, bn, if_true, if_false, reduceIte]
    generalize s.testBit (2 * a) = sa; generalize s.testBit (2 * a + 1) = sa'; generalize s.testBit (2 * b) = sb; generalize s.testBit (2 * b + 1) = sb'
    generalize M.testBit (2 * a) = ma; generalize M.testBit (2 * a + 1) = ma'; generalize M.testBit (2 * b) = mb; generalize M.testBit (2 * b + 1) = mb'
    clear h; revert sa sa' sb sb' ma ma' mb mb'; decide
  | 6, _ =>
    simp (config := {decide := true}) only [kp, bS, mM, mo_bit h, lst, ap, bn, if_true, if_false, reduceIte]
    generalize s.testBit (2 * a) = sa; generalize s.testBit (2 * a + 1) = sa'; generalize s.testBit (2 * b) = sb; generalize s.testBit (2 * b + 1) = sb'
    generalize M.testBit (2 * a) = ma; generalize M.testBit (2 * a + 1) = ma'; generalize M.testBit (2 * b) = mb; generalize M.testBit (2 * b + 1) = mb'
    clear h; revert sa sa' sb sb' ma ma' mb mb'; decide
  | 7, _ =>
    simp (config := {decide := true}) only [kp, bS, mM, mo_bit h, lst, ap, bn, if_true, if_false, reduceIte]
    generalize s.testBit (2 * a) = sa; generalize s.testBit (2 * a + 1) = sa'; generalize s.testBit (2 * b) = sb; generalize s.testBit (2 * b + 1) = sb'
    generalize M.testBit (2 * a) = ma; generalize M.testBit (2 * a + 1) = ma'; generalize M.testBit (2 * b) = mb; generalize M.testBit (2 * b + 1) = mb'
    clear h; revert sa sa' sb sb' ma ma' mb mb'; decide
