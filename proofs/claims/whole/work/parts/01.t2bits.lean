/-! numbers as nI, lN; truth values as bI; sets as Nat, by testBit -/
theorem zl (n : Nat) : (OfNat.ofNat n : Int32) = nI n := rfl
theorem zL (n : Nat) : (OfNat.ofNat n : Int64) = lN n := rfl
theorem zs (n : Nat) : (OfNat.ofNat n : Int32) = nI (OfNat.ofNat n) := rfl
def bI (b : Bool) : Int32 := nI b.toNat
theorem bI_t : bI true = nI 1 := rfl
theorem bI_f : bI false = nI 0 := rfl
theorem bI_z (b : Bool) : (bI b = nI 0) ↔ (b = false) := by cases b <;> simp [bI_t, bI_f] <;> decide
theorem bI_1 (b : Bool) : (bI b = nI 1) ↔ (b = true) := by cases b <;> simp [bI_t, bI_f] <;> decide
theorem bI_e (a b : Bool) : (bI a = bI b) ↔ (a = b) := by cases a <;> cases b <;> simp [bI_t, bI_f] <;> decide
theorem bI_n (b : Bool) : (narrow .boolean (.int (bI b)) = .int (bI b)) := by cases b <;> rfl
theorem bI_n1 : (narrow .boolean (.int (nI 1)) = .int (nI 1)) := rfl
theorem bI_n0 : (narrow .boolean (.int (nI 0)) = .int (nI 0)) := rfl
theorem zb (c A B : Prop) [Decidable c] : ((c → A) ∧ (¬ c → B)) ↔ (if c then A else B) := by
  by_cases h : c <;> simp [h]
theorem zbf (b : Bool) (A B : Prop) : (if b = false then A else B) ↔ (if b = true then B else A) := by cases b <;> simp
theorem z_in {n N : Nat} (h : n < 2 ^ 31) : vp_in (nI n) N ↔ n < N := by
  rw [vp_in_iff, nI_toInt h]
  omega
theorem z_xor (a b : Nat) : nI a ^^^ nI b = nI (a ^^^ b) := fb_xorI a b
theorem z_neg (k : Nat) (h : 0 < k) (h2 : k < 2 ^ 31) : (-nI k).toInt = -(k : Int) := sb_negT h2
theorem z_ne {a k : Nat} (ha : a < 2 ^ 31) (h : 0 < k) (h2 : k < 2 ^ 31) : (nI a = -nI k) ↔ False := by
  rw [fa_eq, nI_toInt ha, sb_negT h2]; simp; omega
theorem z_en {a k : Nat} (ha : a < 2 ^ 31) (h : 0 < k) (h2 : k < 2 ^ 31) : (-nI k = nI a) ↔ False := by
  rw [fa_eq, nI_toInt ha, sb_negT h2]; simp; omega
theorem z_nn {a k : Nat} (ha : a < 2 ^ 31) (h2 : k < 2 ^ 31) : (-nI k = -nI a) ↔ k = a := by
  rw [fa_eq, sb_negT ha, sb_negT h2]; omega
theorem z_nle {a k : Nat} (ha : a < 2 ^ 31) (h2 : k < 2 ^ 31) : (-nI k ≤ nI a) ↔ True := by
  rw [fa_le, nI_toInt ha, sb_negT h2]; simp only [iff_true]; omega
theorem z_len {a k : Nat} (ha : a < 2 ^ 31) (h : 0 < k) (h2 : k < 2 ^ 31) : (nI a ≤ -nI k) ↔ False := by
  rw [fa_le, nI_toInt ha, sb_negT h2]; simp; omega
theorem z_nlt {a k : Nat} (ha : a < 2 ^ 31) (h : 0 < k) (h2 : k < 2 ^ 31) : (-nI k < nI a) ↔ True := by
  rw [fa_lt, nI_toInt ha, sb_negT h2]; simp; omega
theorem z_ltn {a k : Nat} (ha : a < 2 ^ 31) (h2 : k < 2 ^ 31) : (nI a < -nI k) ↔ False := by
  rw [fa_lt, nI_toInt ha, sb_negT h2]; simp only [iff_false]; omega
theorem z_sm : ∀ n, n < 32 → ((nI n &&& nI 31).toBitVec.smod 32).toNat = n := by decide +kernel
theorem z_shr {u e : Nat} (hu : u < 2 ^ 31) (he : e < 32) : nI u >>> (nI e &&& nI 31) = nI (u / 2 ^ e) := pk_shrN hu (nI e &&& nI 31) e (z_sm e he)
theorem z_shl {u e : Nat} (he : e < 32) (h : u * 2 ^ e < 2 ^ 32) : nI u <<< (nI e &&& nI 31) = nI (u * 2 ^ e) := pk_shlN (nI e &&& nI 31) e (z_sm e he) h
theorem z_one {e : Nat} (he : e < 31) : nI 1 <<< (nI e &&& nI 31) = nI (2 ^ e) := by
  have h : 2 ^ e < 2 ^ 31 := Nat.pow_lt_pow_right (by decide) he
  rw [z_shl (by omega) (by omega), Nat.one_mul]
theorem z_two {e : Nat} (he : e < 30) : nI 2 <<< (nI e &&& nI 31) = nI (2 ^ (e + 1)) := by
  have h : 2 ^ e < 2 ^ 30 := Nat.pow_lt_pow_right (by decide) he
  rw [z_shl (by omega) (by omega), Nat.pow_succ, Nat.mul_comm]
/-- the bit of a set, as javac asks for it -/
theorem z_bit {u e : Nat} (hu : u < 2 ^ 31) (he : e < 32) : (nI u >>> (nI e &&& nI 31)) &&& nI 1 = bI (u.testBit e) := by
  rw [z_shr hu he, fa_and, bI]
  congr 1
  rw [Nat.testBit_eq_decide_div_mod_eq, Nat.and_one_is_mod]
  rcases Nat.mod_two_eq_zero_or_one (u / 2 ^ e) with h | h <;> simp [h]
theorem z_inj {a b : Nat} (ha : a < 2 ^ 31) (hb : b < 2 ^ 31) (h : nI a = nI b) : a = b := (nI_eq ha hb).mp h
/-- apart sets: adding is joining -/
theorem z_add_or {a b : Nat} (h : a &&& b = 0) : a ||| b = a + b := by
  induction a using Nat.strongRecOn generalizing b with
  | _ a ih =>
    by_cases h0 : a = 0
    · subst h0; simp
    · have h1 : a / 2 &&& b / 2 = 0 := by rw [← Nat.and_div_two, h]
      have h2 := ih (a / 2) (by omega) h1
      rw [← Nat.or_div_two] at h2
      have h3 := Nat.or_mod_two_eq_one (a := a) (b := b)
      have h4 := Nat.and_mod_two_eq_one (a := a) (b := b)
      rw [h] at h4
      omega
theorem lg_1 {x y : Int64} (h : y < x) : lg_cmp x y = 1 := if_pos h
theorem lg_0 (x : Int64) : lg_cmp x x = 0 := by unfold lg_cmp; rw [if_neg (Int64.lt_irrefl), if_pos rfl]
theorem lg_m {x y : Int64} (h : x < y) : lg_cmp x y = -1 := by
  unfold lg_cmp
  rw [if_neg (fun q => Int64.lt_asymm h q), if_neg (fun q => by subst q; exact Int64.lt_irrefl h)]
/-- two longs, as javac compares them -/
theorem z_cmp2 {a b : Nat} (ha : a < 2 ^ 63) (hb : b < 2 ^ 63) : (lg_cmp (lN a) (lN b) ≤ nI 0) ↔ a ≤ b := by
  rcases Nat.lt_trichotomy a b with q | q | q
  · rw [lg_m ((pk_lLT ha hb).mpr q)]
    simp only [Nat.le_of_lt q, iff_true]
    decide
  · subst q; rw [lg_0]; simp only [Nat.le_refl, iff_true]; decide
  · rw [lg_1 ((pk_lLT hb ha).mpr q)]
    simp only [show ¬ a ≤ b by omega, iff_false]
    decide
theorem z_cmp3 {a b : Nat} (ha : a < 2 ^ 63) (hb : b < 2 ^ 63) : (nI 0 ≤ lg_cmp (lN a) (lN b)) ↔ b ≤ a := by
  rcases Nat.lt_trichotomy a b with q | q | q
  · rw [lg_m ((pk_lLT ha hb).mpr q)]
    simp only [show ¬ b ≤ a by omega, iff_false]
    decide
  · subst q; rw [lg_0]; simp only [Nat.le_refl, iff_true]; decide
  · rw [lg_1 ((pk_lLT hb ha).mpr q)]
    simp only [Nat.le_of_lt q, iff_true]
    decide
theorem z_cmp {a : Nat} (h : a < 2 ^ 63) : (lg_cmp (lN a) (lN 0) ≤ nI 0) ↔ a = 0 := by
  rw [z_cmp2 h (by decide)]; omega
theorem z_cmpE {a : Nat} (h : a < 2 ^ 63) : (lg_cmp (lN a) (lN 0) = nI 0) ↔ a = 0 := by
  by_cases q : a = 0
  · subst q; rw [lg_0]; simp; decide
  · rw [lg_1 ((pk_lLT (by decide) h).mpr (by omega))]
    simp only [q, iff_false]
    decide
/-! all of 0 .. n - 1, some of them -/
def aB (p : Nat → Bool) : Nat → Bool
  | 0 => true
  | n + 1 => aB p n && p n
theorem aB_iff {p : Nat → Bool} : ∀ {n : Nat}, aB p n = true ↔ ∀ k, k < n → p k = true
  | 0 => ⟨fun _ k h => absurd h (Nat.not_lt_zero k), fun _ => rfl⟩
  | n + 1 => by
    rw [aB, Bool.and_eq_true, aB_iff]
    exact ⟨fun h k hk => by
      rcases Nat.lt_or_ge k n with q | q
      · exact h.1 k q
      · rw [show k = n by omega]; exact h.2, fun h => ⟨fun k hk => h k (by omega), h n (by omega)⟩⟩
theorem aB_c {p q : Nat → Bool} {n : Nat} (h : ∀ k, k < n → p k = q k) : aB p n = aB q n := by
  rw [Bool.eq_iff_iff, aB_iff, aB_iff]
  exact ⟨fun z k hk => by rw [← h k hk]; exact z k hk, fun z k hk => by rw [h k hk]; exact z k hk⟩
def oB (p : Nat → Bool) : Nat → Bool
  | 0 => false
  | n + 1 => oB p n || p n
theorem oB_iff {p : Nat → Bool} : ∀ {n : Nat}, oB p n = true ↔ ∃ k, k < n ∧ p k = true
  | 0 => ⟨fun h => (by simp [oB] at h), fun ⟨k, h, _⟩ => absurd h (Nat.not_lt_zero k)⟩
  | n + 1 => by
    rw [oB, Bool.or_eq_true, oB_iff]
    constructor
    · rintro (⟨k, h, z⟩ | h)
      · exact ⟨k, by omega, z⟩
      · exact ⟨n, by omega, h⟩
    · rintro ⟨k, h, z⟩
      rcases Nat.lt_or_ge k n with q | q
      · exact Or.inl ⟨k, q, z⟩
      · rw [show k = n by omega] at z; exact Or.inr z
theorem oB_c {p q : Nat → Bool} {n : Nat} (h : ∀ k, k < n → p k = q k) : oB p n = oB q n := by
  rw [Bool.eq_iff_iff, oB_iff, oB_iff]
  exact ⟨fun ⟨k, hk, z⟩ => ⟨k, hk, by rw [← h k hk]; exact z⟩, fun ⟨k, hk, z⟩ => ⟨k, hk, by rw [h k hk]; exact z⟩⟩
/-! c is a part of s -/
def sb (c s : Nat) : Bool := c &&& s == c
theorem sb_iff {c s : Nat} : sb c s = true ↔ ∀ e, c.testBit e = true → s.testBit e = true := by
  unfold sb
  rw [beq_iff_eq]
  constructor
  · intro h e he
    have := congrArg (fun x => x.testBit e) h
    simp only [Nat.testBit_and, he, Bool.true_and] at this
    exact this
  · intro h
    apply Nat.eq_of_testBit_eq
    intro e
    rw [Nat.testBit_and]
    cases q : c.testBit e with
    | false => rfl
    | true => rw [h e q]; rfl
theorem sb_le {c s : Nat} (h : sb c s = true) : c ≤ s := by
  have e : c &&& s = c := by simpa [sb] using h
  rw [← e]; exact Nat.and_le_right
theorem sb_0 (s : Nat) : sb 0 s = true := by simp [sb]
theorem sb_self (s : Nat) : sb s s = true := by simp [sb]
theorem sb_trans {a b c : Nat} (h : sb a b = true) (h2 : sb b c = true) : sb a c = true :=
  sb_iff.mpr fun e he => sb_iff.mp h2 e (sb_iff.mp h e he)
theorem sb_and (a b : Nat) : sb (a &&& b) b = true := sb_iff.mpr fun e he => by
  rw [Nat.testBit_and, Bool.and_eq_true] at he; exact he.2
/-- the next lesser part: no part lies between -/
theorem sb_next : ∀ (b c m : Nat), sb c m = true → sb b m = true → c < b → c ≤ ((b - 1) &&& m) := by
  intro b
  induction b using Nat.strongRecOn with
  | _ b ih =>
    intro c m hc hb hl
    have tb : ∀ x e : Nat, (x / 2).testBit e = x.testBit (e + 1) := fun x e => by rw [Nat.testBit_succ]
    have hc2 : sb (c / 2) (m / 2) = true := sb_iff.mpr fun e he => by rw [tb] at he ⊢; exact sb_iff.mp hc _ he
    have hb2 : sb (b / 2) (m / 2) = true := sb_iff.mpr fun e he => by rw [tb] at he ⊢; exact sb_iff.mp hb _ he
    have c0 : c % 2 = 1 → m % 2 = 1 := fun h => by
      have := sb_iff.mp hc 0
      simp only [Nat.testBit_zero, decide_eq_true_eq] at this
      exact this h
    have b0 : b % 2 = 1 → m % 2 = 1 := fun h => by
      have := sb_iff.mp hb 0
      simp only [Nat.testBit_zero, decide_eq_true_eq] at this
      exact this h
    have hd : ((b - 1) &&& m) = 2 * ((b - 1) / 2 &&& m / 2) + (if (b - 1) % 2 = 1 ∧ m % 2 = 1 then 1 else 0) := by
      have h1 : ((b - 1) &&& m) / 2 = ((b - 1) / 2 &&& m / 2) := Nat.and_div_two
      have h2 : ((b - 1) &&& m) % 2 = (if (b - 1) % 2 = 1 ∧ m % 2 = 1 then 1 else 0) := by
        have h3 := Nat.and_mod_two_eq_one (a := b - 1) (b := m)
        split
        · rename_i z; exact h3.mpr z
        · rename_i z; have := fun w => z (h3.mp w); omega
      omega
    rw [hd]
    rcases Nat.mod_two_eq_zero_or_one b with q | q
    · have e1 : (b - 1) / 2 = b / 2 - 1 := by omega
      have e2 : (b - 1) % 2 = 1 := by omega
      have := ih (b / 2) (by omega) (c / 2) (m / 2) hc2 hb2 (by omega)
      rw [e1]
      rcases Nat.mod_two_eq_zero_or_one c with z | z
      · omega
      · have := c0 z
        rw [if_pos ⟨e2, this⟩]
        omega
    · have e1 : (b - 1) / 2 = b / 2 := by omega
      have e3 : b / 2 &&& m / 2 = b / 2 := by simpa [sb] using hb2
      rw [e1, e3]
      omega
theorem sb_ind {m : Nat} {P : Nat → Prop} (h0 : P 0) (hs : ∀ b, b ≠ 0 → sb b m = true → P ((b - 1) &&& m) → P b) : ∀ b, sb b m = true → P b := by
  intro b
  induction b using Nat.strongRecOn with
  | _ b ih =>
    intro hb
    by_cases q : b = 0
    · rw [q]; exact h0
    · refine hs b q hb (ih _ ?_ (sb_and _ _))
      have : ((b - 1) &&& m) ≤ b - 1 := Nat.and_le_left
      omega
/-- the parts behind b, and b itself: the parts behind the next lesser one -/
theorem sb_step {N m b : Nat} (f : Nat → Nat) (hb0 : b ≠ 0) (hb : sb b m = true) (hN : b < N) :
    sm (fun c => if ((b - 1) &&& m) < c ∧ sb c m = true then f c else 0) N = sm (fun c => if b < c ∧ sb c m = true then f c else 0) N + f b := by
  rw [← sm_1 f hN, ← sm_add]
  refine sm_c fun c _ => ?_
  have hle : ((b - 1) &&& m) ≤ b - 1 := Nat.and_le_left
  by_cases e : c = b
  · subst e
    rw [if_pos ⟨by omega, hb⟩, if_neg (fun h => Nat.lt_irrefl _ h.1), if_pos rfl, Nat.zero_add]
  · rw [if_neg e, Nat.add_zero]
    by_cases hs : sb c m = true
    · by_cases hl : b < c
      · rw [if_pos ⟨by omega, hs⟩, if_pos ⟨hl, hs⟩]
      · rw [if_neg (fun (h : b < c ∧ sb c m = true) => hl h.1), if_neg]
        intro h
        have := sb_next b c m hs hb (by omega)
        omega
    · rw [if_neg (fun h => hs h.2), if_neg (fun h => hs h.2)]
theorem sb_done {N m : Nat} (f : Nat → Nat) (h : m < N) : sm (fun c => if m < c ∧ sb c m = true then f c else 0) N = 0 :=
  sm_z fun c _ => by
    rw [if_neg]
    intro h
    have := sb_le h.2
    omega
