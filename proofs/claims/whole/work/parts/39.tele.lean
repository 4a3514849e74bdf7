/-! the two tellings of a pair are one: what enters 'x has come, y has not' leaves it -/
theorem tele_1 {n : Nat} {K : Nat → Nat → Bool} {x y : Nat} (hy : y < 2 * n) : AH n K x y = BF n K x y := by
  have h1 : 0 < 2 ^ (2 * n) := Nat.two_pow_pos _
  have ht := gX_tele (s := 0) (t := 2 ^ (2 * n) - 1) (N := 2 ^ (2 * n)) (e := ed K n) (F := wF (ed K n) (2 ^ (2 * n))) (B := wB (ed K n) (2 ^ (2 * n))) h1 (by omega) ed_E (wB_rec ed_E ed_pos) (wF_rec ed_pos) (fun v => if (v.testBit x && !v.testBit y) = true then 1 else 0)
  rw [if_neg (by rw [Nat.zero_testBit]; simp), if_neg (by rw [full_bit hy]; simp), Nat.zero_mul, Nat.zero_mul, Nat.zero_add, Nat.zero_add] at ht
  have e1 : gX (2 ^ (2 * n)) (ed K n) (wF (ed K n) (2 ^ (2 * n))) (wB (ed K n) (2 ^ (2 * n))) (fun u M => if ((u + M).testBit x && !(u + M).testBit y) = true then 1 else 0) = AH n K x y + gX (2 ^ (2 * n)) (ed K n) (wF (ed K n) (2 ^ (2 * n))) (wB (ed K n) (2 ^ (2 * n))) (fun u M => if (u.testBit x && !(u + M).testBit y) = true then 1 else 0) := by
    rw [AH, ← gX_add]
    refine gX_c fun u M hu hM hz => ?_
    have hsb := (ed_1 hz).2.2.1
    have hap := congrArg (fun z => z.testBit x) (mo_apart hsb)
    simp only [Nat.testBit_and, Nat.zero_testBit] at hap
    rw [mo_bit hsb x]
    revert hap
    cases u.testBit x <;> cases M.testBit x <;> cases (u + M).testBit y <;> simp
  have e2 : gX (2 ^ (2 * n)) (ed K n) (wF (ed K n) (2 ^ (2 * n))) (wB (ed K n) (2 ^ (2 * n))) (fun u _ => if (u.testBit x && !u.testBit y) = true then 1 else 0) = BF n K x y + gX (2 ^ (2 * n)) (ed K n) (wF (ed K n) (2 ^ (2 * n))) (wB (ed K n) (2 ^ (2 * n))) (fun u M => if (u.testBit x && !(u + M).testBit y) = true then 1 else 0) := by
    rw [BF, ← gX_add]
    refine gX_c fun u M hu hM hz => ?_
    have hsb := (ed_1 hz).2.2.1
    have hap := congrArg (fun z => z.testBit y) (mo_apart hsb)
    simp only [Nat.testBit_and, Nat.zero_testBit] at hap
    rw [mo_bit hsb y]
    revert hap
    cases u.testBit x <;> cases u.testBit y <;> cases M.testBit y <;> simp
  omega
theorem AL_comm {n : Nat} {K : Nat → Nat → Bool} {x y : Nat} : AL n K x y = AL n K y x := by
  unfold AL
  refine gX_c fun u M _ _ _ => ?_
  rw [Bool.and_comm]
/-- no more than there are ways -/
theorem mark_le {n : Nat} {K : Nat → Nat → Bool} {x : Nat} (hx : x < 2 * n) (p : Nat → Nat → Bool) (hp : ∀ u M, p u M = true → M.testBit x = true) : gX (2 ^ (2 * n)) (ed K n) (wF (ed K n) (2 ^ (2 * n))) (wB (ed K n) (2 ^ (2 * n))) (fun u M => if p u M = true then 1 else 0) ≤ wB (ed K n) (2 ^ (2 * n)) 0 := by
  have h1 : 0 < 2 ^ (2 * n) := Nat.two_pow_pos _
  have hc := g_cut (s := 0) (t := 2 ^ (2 * n) - 1) (N := 2 ^ (2 * n)) (e := ed K n) (F := wF (ed K n) (2 ^ (2 * n))) (B := wB (ed K n) (2 ^ (2 * n))) h1 (by omega) ed_E (wB_rec ed_E ed_pos) (wF_rec ed_pos) (fun v => v.testBit x) (Nat.zero_testBit x) (full_bit hx) (fun u M _ hz hb => by
    have hsb := (ed_1 hz).2.2.1
    rw [mo_bit hsb, hb]; rfl)
  rw [BF_all, ← hc]
  refine sm_le fun u hu => sm_le fun M hM => ?_
  rcases Nat.eq_zero_or_pos (ed K n u M) with z | z
  · rw [z]; simp
  · have hsb := (ed_1 (by omega : ed K n u M ≠ 0)).2.2.1
    refine Nat.mul_le_mul_left _ ?_
    show (if p u M = true then 1 else 0) ≤ (if u.testBit x = false ∧ (u + M).testBit x = true then 1 else 0)
    by_cases q : p u M = true
    · have hm := hp u M q
      have hap := congrArg (fun z => z.testBit x) (mo_apart hsb)
      simp only [Nat.testBit_and, hm, Bool.and_true, Nat.zero_testBit] at hap
      rw [if_pos q, if_pos]
      · exact Nat.le_refl _
      · rw [mo_bit hsb, hap, hm]; exact ⟨rfl, rfl⟩
    · rw [if_neg q]; exact Nat.zero_le _
theorem AH_lt {n : Nat} {K : Nat → Nat → Bool} {x y : Nat} (hBD : BD n) (hx : x < 2 * n) : AH n K x y < 2 ^ 62 := by
  have h1 := mark_le (K := K) hx (fun u M => M.testBit x && !(u + M).testBit y) (fun u M h => by rw [Bool.and_eq_true] at h; exact h.1)
  have h2 := hBD K 0 (Nat.two_pow_pos _)
  unfold AH
  omega
theorem AL_lt {n : Nat} {K : Nat → Nat → Bool} {x y : Nat} (hBD : BD n) (hx : x < 2 * n) : AL n K x y < 2 ^ 62 := by
  have h1 := mark_le (K := K) hx (fun u M => M.testBit x && M.testBit y) (fun u M h => by rw [Bool.and_eq_true] at h; exact h.1)
  have h2 := hBD K 0 (Nat.two_pow_pos _)
  unfold AL
  omega
/-- what the reference's walk over all pairs has told -/
theorem PG_ev {n : Nat} {K : Nat → Nat → Bool} {q : Nat → Nat → Nat → Bool} {x e : Nat} (hn : n < 7) (hx : x < 2 * n) (he : e < 2 * n) : PG n K q (2 ^ (2 * n) - 1) (12 * x + e) = gX (2 ^ (2 * n)) (ed K n) (wF (ed K n) (2 ^ (2 * n))) (wB (ed K n) (2 ^ (2 * n))) (fun u M => if (q u M x && M.testBit e) = true then 1 else 0) := by
  have h1 : 1 ≤ 2 ^ (2 * n) := Nat.two_pow_pos _
  have e1 : PG n K q (2 ^ (2 * n) - 1) (12 * x + e) = PG n K q (2 ^ (2 * n) - 1 + 1) (12 * x + e) := by
    conv => rhs; rw [PG, sm]
    rw [sm_z (f := fun M => ed K n (2 ^ (2 * n) - 1) M * TB n K q (2 ^ (2 * n) - 1) M (12 * x + e)) (fun M hM => ?_), Nat.add_zero, PG]
    rcases Nat.eq_zero_or_pos (ed K n (2 ^ (2 * n) - 1) M) with z | z
    · rw [z, Nat.zero_mul]
    · have h2 := ed_E (2 ^ (2 * n) - 1) M (by omega) (by omega : ed K n (2 ^ (2 * n) - 1) M ≠ 0)
      have h3 := ed_pos (2 ^ (2 * n) - 1) M (by omega) (by omega : ed K n (2 ^ (2 * n) - 1) M ≠ 0)
      omega
  rw [e1, show 2 ^ (2 * n) - 1 + 1 = 2 ^ (2 * n) by omega, PG, gX]
  refine sm_c fun u hu => sm_c fun M hM => ?_
  rw [TB_ev hn hx he]
  by_cases z : (q u M x && M.testBit e) = true
  · rw [if_pos z, if_pos z, Nat.mul_one]
    rcases Nat.eq_zero_or_pos (ed K n u M) with w | w
    · rw [w]; simp
    · rcases Nat.eq_zero_or_pos (wB (ed K n) (2 ^ (2 * n)) (u + M)) with y | y
      · rw [y]; simp
      · have := B_back hu (by omega : ed K n u M ≠ 0) (by omega)
        unfold tF
        rw [if_neg this]
        simp only [Nat.mul_comm, Nat.mul_left_comm, Nat.mul_assoc]
  · rw [if_neg z, if_neg z]; simp
/-! every count is small -/
/-- a weight of a state: 9 for each end to come -/
def wt (s : Nat) : Nat → Nat
  | 0 => 1
  | t + 1 => wt s t * (if s.testBit (2 * t + 1) = true then 1 else if s.testBit (2 * t) = true then 9 else 81)
theorem wt_c {s r : Nat} : ∀ n, (∀ e, e < 2 * n → s.testBit e = r.testBit e) → wt s n = wt r n
  | 0, _ => rfl
  | n + 1, h => by rw [wt, wt, wt_c n (fun e he => h e (by omega)), h (2 * n) (by omega), h (2 * n + 1) (by omega)]
theorem wt_pos (s : Nat) : ∀ n, 0 < wt s n
  | 0 => Nat.one_pos
  | n + 1 => by
    rw [wt]
    refine Nat.mul_pos (wt_pos s n) ?_
    split
    · decide
    · split <;> decide
theorem wt_le (s : Nat) : ∀ n, wt s n ≤ 81 ^ n
  | 0 => Nat.le_refl 1
  | n + 1 => by
    rw [wt, Nat.pow_succ]
    refine Nat.mul_le_mul (wt_le s n) ?_
    split
    · decide
    · split <;> decide
theorem pL_c {s r : Nat} : ∀ x, (∀ e, e < x → s.testBit e = r.testBit e) → pL s x = pL r x
  | 0, _ => rfl
  | x + 1, h => by rw [pL, pL, pL_c x (fun e he => h e (by omega)), h x (by omega)]
def wS (s n : Nat) : Nat := ls (fun c => wt (s ||| c) n) (pL (nx s n) (2 * n))
theorem ls_mul (k : Nat) (f : Nat → Nat) : ∀ l : List Nat, ls (fun c => k * f c) l = k * ls f l
  | [] => rfl
  | a :: l => by rw [ls, ls, ls_mul k f l, Nat.mul_add]
/-- over all moments, none too: for each thing at most ten ninths -/
theorem wt_sum (s : Nat) : ∀ n, 9 ^ n * wS s n ≤ 10 ^ n * wt s n
  | 0 => by simp [wS, ls, pL, wt]
  | n + 1 => by
    have ih := wt_sum s n
    have hb := nx_bit s (n + 1) n (by omega)
    have e0 : pL (nx s (n + 1)) (2 * n) = pL (nx s n) (2 * n) := pL_c _ (fun e he => by
      rcases Nat.mod_two_eq_zero_or_one e with q | q
      · obtain ⟨t, rfl⟩ : ∃ t, e = 2 * t := ⟨e / 2, by omega⟩
        rw [(nx_bit s (n + 1) t (by omega)).1, (nx_bit s n t (by omega)).1]
      · obtain ⟨t, rfl⟩ : ∃ t, e = 2 * t + 1 := ⟨e / 2, by omega⟩
        rw [(nx_bit s (n + 1) t (by omega)).2, (nx_bit s n t (by omega)).2])
    have hc : ∀ c, c ∈ pL (nx s n) (2 * n) → ∀ e, 2 * n ≤ e → (s ||| c).testBit e = s.testBit e := fun c hc e he => by
      rw [Nat.testBit_or, tb_small (pL_lt _ _ _ hc) he, Bool.or_false]
    have hlow : ∀ c x, c ∈ pL (nx s n) (2 * n) → 2 * n ≤ x → wt (s ||| (c + 2 ^ x)) n = wt (s ||| c) n := fun c x hc hx => wt_c n (fun e he => by
      have := Nat.lt_of_lt_of_le (pL_lt _ _ _ hc) (Nat.pow_le_pow_right (by decide : 2 > 0) hx)
      rw [Nat.testBit_or, Nat.testBit_or, tb_add this, decide_eq_false (by omega), Bool.or_false])
    have key : ∀ k : Nat, ls (fun c => k * wt (s ||| c) n) (pL (nx s n) (2 * n)) = k * wS s n := fun k => ls_mul k _ _
    unfold wS
    rw [show 2 * (n + 1) = (2 * n + 1) + 1 by omega, pL, pL, e0, hb.1, hb.2, wt, show 9 ^ (n + 1) = 9 ^ n * 9 from rfl, show 10 ^ (n + 1) = 10 ^ n * 10 from rfl]
    cases a : s.testBit (2 * n + 1)
    · cases b : s.testBit (2 * n)
      · simp only [Bool.not_false, Bool.and_true, Bool.and_self, Bool.false_and, if_true, if_false, Bool.false_eq_true]
        rw [ls_app, ls_map, ls_c (g := fun c => 81 * wt (s ||| c) n) (fun c hcm => ?_), ls_c (f := fun c => wt (s ||| (c + 2 ^ (2 * n))) (n + 1)) (g := fun c => 9 * wt (s ||| c) n) (fun c hcm => ?_), key, key]
        · have e1 : 9 ^ n * 9 * (81 * wS s n + 9 * wS s n) = 810 * (9 ^ n * wS s n) := by
            rw [← Nat.add_mul, Nat.mul_assoc, ← Nat.mul_assoc 9, Nat.mul_left_comm]
          have e2 : 10 ^ n * 10 * (wt s n * 81) = 810 * (10 ^ n * wt s n) := by
            rw [Nat.mul_comm (wt s n), Nat.mul_assoc, ← Nat.mul_assoc 10, Nat.mul_left_comm]
          rw [e1, e2]
          exact Nat.mul_le_mul_left _ ih
        · have hlt := pL_lt _ _ _ hcm
          rw [wt, hlow c _ hcm (Nat.le_refl _), Nat.testBit_or, Nat.testBit_or, tb_add hlt, tb_add hlt, a, b, decide_eq_false (by omega), decide_eq_true rfl, tb_small hlt (by omega), Nat.mul_comm]
          simp
        · rw [wt, hc c hcm _ (by omega), hc c hcm _ (by omega), a, b, Nat.mul_comm]; rfl
      · simp only [Bool.not_true, Bool.not_false, Bool.and_true, Bool.false_and, Bool.and_self, if_true, if_false, Bool.false_eq_true]
        rw [ls_app, ls_map, ls_c (g := fun c => 9 * wt (s ||| c) n) (fun c hcm => ?_), ls_c (f := fun c => wt (s ||| (c + 2 ^ (2 * n + 1))) (n + 1)) (g := fun c => 1 * wt (s ||| c) n) (fun c hcm => ?_), key, key]
        · have e1 : 9 ^ n * 9 * (9 * wS s n + 1 * wS s n) = 90 * (9 ^ n * wS s n) := by
            rw [← Nat.add_mul, Nat.mul_assoc, ← Nat.mul_assoc 9, Nat.mul_left_comm]
          have e2 : 10 ^ n * 10 * (wt s n * 9) = 90 * (10 ^ n * wt s n) := by
            rw [Nat.mul_comm (wt s n), Nat.mul_assoc, ← Nat.mul_assoc 10, Nat.mul_left_comm]
          rw [e1, e2]
          exact Nat.mul_le_mul_left _ ih
        · have hlt := pL_lt _ _ _ hcm
          rw [wt, hlow c _ hcm (by omega), Nat.testBit_or, Nat.testBit_or, tb_add1 hlt, tb_add1 hlt, a, decide_eq_true rfl, Nat.mul_comm]
          simp
        · rw [wt, hc c hcm _ (by omega), hc c hcm _ (by omega), a, b, Nat.mul_comm]; rfl
    · simp only [Bool.not_true, Bool.and_false, if_true, if_false, Bool.false_eq_true]
      rw [ls_c (g := fun c => 1 * wt (s ||| c) n) (fun c hcm => ?_), key]
      · have e1 : 9 ^ n * 9 * (1 * wS s n) = 9 * (9 ^ n * wS s n) := by
          rw [Nat.one_mul, Nat.mul_assoc, Nat.mul_left_comm]
        have e2 : 10 ^ n * 10 * (wt s n * 1) = 10 * (10 ^ n * wt s n) := by
          rw [Nat.mul_one, Nat.mul_assoc, Nat.mul_left_comm]
        rw [e1, e2]
        omega
      · rw [wt, hc c hcm _ (by omega), a, Nat.mul_comm]; rfl
theorem B_le {n : Nat} {K : Nat → Nat → Bool} (hn : n < 7) : ∀ (d s : Nat), s + d = 2 ^ (2 * n) → 0 < d → wB (ed K n) (2 ^ (2 * n)) s ≤ wt s n := by
  intro d
  induction d using Nat.strongRecOn with
  | _ d ih =>
    intro s hs hd
    have hsN : s < 2 ^ (2 * n) := by omega
    have hpos := wt_pos s n
    rw [wB_rec ed_E ed_pos s hsN]
    by_cases hf : s = 2 ^ (2 * n) - 1
    · rw [if_pos hf, sm_z (fun M hM => ?_)]
      · omega
      · rcases Nat.eq_zero_or_pos (ed K n s M) with z | z
        · rw [z, Nat.zero_mul]
        · have h2 := ed_E s M hsN (by omega : ed K n s M ≠ 0)
          have h3 := ed_pos s M hsN (by omega : ed K n s M ≠ 0)
          omega
    · rw [if_neg hf, Nat.zero_add]
      have h1 : sm (fun M => ed K n s M * wB (ed K n) (2 ^ (2 * n)) (s + M)) (2 ^ (2 * n)) ≤ sm (fun M => if M ≠ 0 ∧ sb M (nx s n) = true then wt (s ||| M) n else 0) (2 ^ (2 * n)) := by
        refine sm_le fun M hM => ?_
        rcases Nat.eq_zero_or_pos (ed K n s M) with z | z
        · rw [z, Nat.zero_mul]; exact Nat.zero_le _
        · have hz : ed K n s M ≠ 0 := by omega
          obtain ⟨q1, q2, q3, q4, q5⟩ := ed_1 hz
          have h2 := ed_E s M hsN hz
          rw [if_pos ⟨q2, q3⟩, q5, Nat.one_mul, ← mo_add q3]
          exact ih (2 ^ (2 * n) - (s + M)) (by omega) (s + M) (by omega) (by omega)
      have h2 : sm (fun M => if sb M (nx s n) = true then wt (s ||| M) n else 0) (2 ^ (2 * n)) = wt s n + sm (fun M => if M ≠ 0 ∧ sb M (nx s n) = true then wt (s ||| M) n else 0) (2 ^ (2 * n)) := by
        have e := sm_1 (fun _ => wt s n) (Nat.two_pow_pos (2 * n))
        rw [← e, ← sm_add]
        refine sm_c fun M hM => ?_
        by_cases z : M = 0
        · subst z
          rw [if_pos (sb_0 _), if_pos rfl, if_neg (c := (0 : Nat) ≠ 0 ∧ sb 0 (nx s n) = true) (fun t => t.1 rfl), Nat.or_zero]; rfl
        · rw [if_neg z, Nat.zero_add]
          by_cases w : sb M (nx s n) = true
          · rw [if_pos w, if_pos ⟨z, w⟩]
          · rw [if_neg w, if_neg (fun t => w t.2)]
      have h3 := wt_sum s n
      rw [wS, pL_sum, h2] at h3
      have h4 : 10 ^ n ≤ 2 * 9 ^ n := (by decide : ∀ n, n < 7 → 10 ^ n ≤ 2 * 9 ^ n) n hn
      have h5 : 10 ^ n * wt s n ≤ 2 * 9 ^ n * wt s n := Nat.mul_le_mul_right _ h4
      have h6 : 9 ^ n * (wt s n + sm (fun M => if M ≠ 0 ∧ sb M (nx s n) = true then wt (s ||| M) n else 0) (2 ^ (2 * n))) ≤ 9 ^ n * (2 * wt s n) := by
        refine Nat.le_trans h3 (Nat.le_trans h5 ?_)
        rw [Nat.mul_comm 2, Nat.mul_assoc]; exact Nat.le_refl _
      have h7 := Nat.le_of_mul_le_mul_left h6 (Nat.pow_pos (by decide : 0 < 9))
      omega
theorem BD_ok {n : Nat} (hn : n < 7) : BD n := by
  intro K s hs
  have h1 := B_le (K := K) hn (2 ^ (2 * n) - s) s (by omega) (by omega)
  have h2 := wt_le s n
  have h3 : 81 ^ n < 2 ^ 62 := (by decide : ∀ n, n < 7 → 81 ^ n < 2 ^ 62) n hn
  omega
