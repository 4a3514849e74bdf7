/-! the parts of a set, as the class lays them: lesser ones first -/
def pL (s : Nat) : Nat → List Nat
  | 0 => [0]
  | x + 1 => if s.testBit x = true then pL s x ++ (pL s x).map (fun c => c + 2 ^ x) else pL s x
def pE (s : Nat) : Nat → List Nat
  | 0 => []
  | x + 1 => if s.testBit x = true then pE s x ++ [x] else pE s x
def ls (f : Nat → Nat) : List Nat → Nat
  | [] => 0
  | a :: l => f a + ls f l
theorem ls_app (f : Nat → Nat) : ∀ (l m : List Nat), ls f (l ++ m) = ls f l + ls f m
  | [], m => by simp [ls]
  | a :: l, m => by simp only [List.cons_append, ls, ls_app f l m]; omega
theorem ls_map (f g : Nat → Nat) : ∀ l : List Nat, ls f (l.map g) = ls (fun c => f (g c)) l
  | [] => rfl
  | a :: l => by simp only [List.map_cons, ls, ls_map f g l]
theorem ls_c {f g : Nat → Nat} : ∀ {l : List Nat}, (∀ c, c ∈ l → f c = g c) → ls f l = ls g l
  | [], _ => rfl
  | a :: l, h => by rw [ls, ls, h a List.mem_cons_self, ls_c (fun c hc => h c (List.mem_cons_of_mem _ hc))]
theorem ls_ix (f : Nat → Nat) : ∀ l : List Nat, ls f l = sm (fun i => f (l.getD i 0)) l.length
  | [] => rfl
  | a :: l => by
    rw [ls, ls_ix f l, List.length_cons, Nat.add_comm l.length 1, sm_split]
    have e : sm (fun i => f ((a :: l).getD i 0)) 1 = f a := by simp [sm]
    rw [e]
    congr 1
    exact sm_c fun i _ => by rw [Nat.add_comm 1 i]; simp
theorem pL_len (s : Nat) : ∀ x, (pL s x).length = 2 ^ (pE s x).length
  | 0 => rfl
  | x + 1 => by
    rw [pL, pE]
    split
    · rw [List.length_append, List.length_map, List.length_append, pL_len s x, List.length_singleton, Nat.pow_succ]; omega
    · exact pL_len s x
theorem pL_lt (s : Nat) : ∀ x c, c ∈ pL s x → c < 2 ^ x
  | 0, c, h => by simp [pL] at h; subst h; decide
  | x + 1, c, h => by
    have h2 : 2 ^ (x + 1) = 2 ^ x + 2 ^ x := by rw [Nat.pow_succ]; omega
    rw [pL] at h
    split at h
    · rw [List.mem_append, List.mem_map] at h
      rcases h with h | ⟨d, hd, rfl⟩
      · have := pL_lt s x c h; omega
      · have := pL_lt s x d hd; omega
    · have := pL_lt s x c h; omega
theorem pL_get_lt (s x k : Nat) (hk : k < (pL s x).length) : (pL s x).getD k 0 < 2 ^ x := by
  rw [List.getD_eq_getElem?_getD, List.getElem?_eq_getElem hk]
  exact pL_lt s x _ (List.getElem_mem hk)
theorem tb_add {c x e : Nat} (h : c < 2 ^ x) : (c + 2 ^ x).testBit e = (c.testBit e || decide (e = x)) := by
  have h1 := Nat.two_pow_add_eq_or_of_lt h 1
  rw [Nat.mul_one] at h1
  rw [Nat.add_comm, h1, Nat.testBit_or, Nat.testBit_two_pow, Bool.or_comm]
  congr 1
  exact decide_eq_decide.mpr ⟨fun h => h.symm, fun h => h.symm⟩
theorem pL_mem (s : Nat) : ∀ x c, c ∈ pL s x ↔ c < 2 ^ x ∧ sb c s = true
  | 0, c => by
    rw [pL, List.mem_singleton]
    constructor
    · rintro rfl; exact ⟨by decide, sb_0 s⟩
    · rintro ⟨h, _⟩; omega
  | x + 1, c => by
    have h2 : 2 ^ (x + 1) = 2 ^ x + 2 ^ x := by rw [Nat.pow_succ]; omega
    rw [pL]
    split
    · rename_i hb
      rw [List.mem_append, List.mem_map, pL_mem s x c]
      constructor
      · rintro (⟨h, z⟩ | ⟨d, hd, rfl⟩)
        · exact ⟨by omega, z⟩
        · obtain ⟨hd1, hd2⟩ := (pL_mem s x d).mp hd
          refine ⟨by omega, sb_iff.mpr fun e he => ?_⟩
          rw [tb_add hd1, Bool.or_eq_true, decide_eq_true_eq] at he
          rcases he with he | rfl
          · exact sb_iff.mp hd2 e he
          · exact hb
      · rintro ⟨h, z⟩
        by_cases q : c < 2 ^ x
        · exact Or.inl ⟨q, z⟩
        · refine Or.inr ⟨c - 2 ^ x, (pL_mem s x _).mpr ⟨by omega, sb_iff.mpr fun e he => sb_iff.mp z e ?_⟩, by omega⟩
          have := tb_add (c := c - 2 ^ x) (x := x) (e := e) (by omega)
          rw [show c - 2 ^ x + 2 ^ x = c by omega] at this
          rw [this, he]; rfl
    · rename_i hb
      rw [pL_mem s x c]
      constructor
      · rintro ⟨h, z⟩; exact ⟨by omega, z⟩
      · rintro ⟨h, z⟩
        refine ⟨?_, z⟩
        rcases Nat.lt_or_ge c (2 ^ x) with q | q
        · exact q
        · exfalso
          apply hb
          refine sb_iff.mp z x ?_
          have := tb_add (c := c - 2 ^ x) (x := x) (e := x) (by omega)
          rw [show c - 2 ^ x + 2 ^ x = c by omega] at this
          rw [this]; simp
theorem pL_sum (f : Nat → Nat) (s : Nat) : ∀ x, ls f (pL s x) = sm (fun c => if sb c s = true then f c else 0) (2 ^ x)
  | 0 => by
    rw [pL, ls, ls, Nat.pow_zero, sm, sm, if_pos (sb_0 s)]; omega
  | x + 1 => by
    have h2 : 2 ^ (x + 1) = 2 ^ x + 2 ^ x := by rw [Nat.pow_succ]; omega
    rw [pL, h2, sm_split, ← pL_sum f s x]
    have key : ∀ c, c < 2 ^ x → (sb (2 ^ x + c) s = true ↔ s.testBit x = true ∧ sb c s = true) := by
      intro c hc
      rw [sb_iff, sb_iff]
      constructor
      · intro h
        refine ⟨h x ?_, fun e he => h e ?_⟩
        · rw [Nat.add_comm, tb_add hc]; simp
        · rw [Nat.add_comm, tb_add hc, he]; rfl
      · rintro ⟨h1, h3⟩ e he
        rw [Nat.add_comm, tb_add hc, Bool.or_eq_true, decide_eq_true_eq] at he
        rcases he with he | rfl
        · exact h3 e he
        · exact h1
    split
    · rename_i hb
      rw [ls_app, ls_map, pL_sum (fun c => f (c + 2 ^ x)) s x]
      congr 1
      refine sm_c fun c hc => ?_
      rw [Nat.add_comm c]
      by_cases q : sb c s = true
      · rw [if_pos q, if_pos ((key c hc).mpr ⟨hb, q⟩)]
      · rw [if_neg q, if_neg (fun z => q ((key c hc).mp z).2)]
    · rename_i hb
      rw [sm_z (f := fun i => if sb (2 ^ x + i) s = true then f (2 ^ x + i) else 0) (fun c hc => by rw [if_neg (fun z => hb ((key c hc).mp z).1)])]
      omega
theorem pE_mem (s : Nat) : ∀ x e, e ∈ pE s x ↔ e < x ∧ s.testBit e = true
  | 0, e => by simp [pE]
  | x + 1, e => by
    rw [pE]
    split
    · rename_i hb
      rw [List.mem_append, List.mem_singleton, pE_mem s x e]
      constructor
      · rintro (⟨h, z⟩ | rfl)
        · exact ⟨by omega, z⟩
        · exact ⟨by omega, hb⟩
      · rintro ⟨h, z⟩
        by_cases q : e < x
        · exact Or.inl ⟨q, z⟩
        · exact Or.inr (by omega)
    · rename_i hb
      rw [pE_mem s x e]
      constructor
      · rintro ⟨h, z⟩; exact ⟨by omega, z⟩
      · rintro ⟨h, z⟩
        refine ⟨?_, z⟩
        rcases Nat.lt_or_ge e x with q | q
        · exact q
        · rw [show e = x by omega] at z; exact absurd z hb
theorem pE_get (s x j : Nat) (hj : j < (pE s x).length) : (pE s x).getD j 0 < x ∧ s.testBit ((pE s x).getD j 0) = true := by
  rw [List.getD_eq_getElem?_getD, List.getElem?_eq_getElem hj]
  exact (pE_mem s x _).mp (List.getElem_mem hj)
theorem pE_mono (s : Nat) : ∀ x i j, i < j → j < (pE s x).length → (pE s x).getD i 0 < (pE s x).getD j 0
  | 0, i, j, _, h2 => by simp [pE] at h2
  | x + 1, i, j, h1, h2 => by
    rw [pE] at h2 ⊢
    split at h2
    · rename_i hb
      rw [if_pos hb]
      rw [List.length_append, List.length_singleton] at h2
      by_cases q : j < (pE s x).length
      · have := pE_mono s x i j h1 q
        simp only [List.getD_eq_getElem?_getD] at this ⊢
        rw [List.getElem?_append_left (by omega), List.getElem?_append_left q]
        exact this
      · have e : j = (pE s x).length := by omega
        have := (pE_get s x i (by omega)).1
        simp only [List.getD_eq_getElem?_getD] at this ⊢
        rw [List.getElem?_append_left (by omega), List.getElem?_append_right (by omega), e]
        simpa using this
    · rename_i hb
      rw [if_neg hb]
      exact pE_mono s x i j h1 h2
theorem pL_mono (s : Nat) : ∀ x i j, i < j → j < (pL s x).length → (pL s x).getD i 0 < (pL s x).getD j 0
  | 0, i, j, h1, h2 => by simp [pL] at h2; omega
  | x + 1, i, j, h1, h2 => by
    rw [pL] at h2 ⊢
    split at h2
    · rename_i hb
      rw [if_pos hb]
      rw [List.length_append, List.length_map] at h2
      by_cases q : j < (pL s x).length
      · have := pL_mono s x i j h1 q
        simp only [List.getD_eq_getElem?_getD] at this ⊢
        rw [List.getElem?_append_left (by omega), List.getElem?_append_left q]
        exact this
      · simp only [List.getD_eq_getElem?_getD]
        rw [List.getElem?_append_right (l₁ := pL s x) (i := j) (by omega), List.getElem?_map, List.getElem?_eq_getElem (l := pL s x) (i := j - (pL s x).length) (by omega)]
        by_cases z : i < (pL s x).length
        · have := pL_get_lt s x i z
          rw [List.getD_eq_getElem?_getD] at this
          rw [List.getElem?_append_left z]
          simp only [Option.map_some, Option.getD_some]
          omega
        · have := pL_mono s x (i - (pL s x).length) (j - (pL s x).length) (by omega) (by omega)
          simp only [List.getD_eq_getElem?_getD] at this
          rw [List.getElem?_append_right (by omega), List.getElem?_map, List.getElem?_eq_getElem (i := i - (pL s x).length) (by omega)]
          rw [List.getElem?_eq_getElem (i := j - (pL s x).length) (by omega), List.getElem?_eq_getElem (i := i - (pL s x).length) (by omega)] at this
          simp only [Option.map_some, Option.getD_some] at this ⊢
          omega
    · rename_i hb
      rw [if_neg hb]
      exact pL_mono s x i j h1 h2
theorem pL_0 (s : Nat) : ∀ x, (pL s x).getD 0 0 = 0
  | 0 => rfl
  | x + 1 => by
    rw [pL]
    have hl : 0 < (pL s x).length := by rw [pL_len]; exact Nat.two_pow_pos _
    split
    · have := pL_0 s x
      simp only [List.getD_eq_getElem?_getD] at this ⊢
      rw [List.getElem?_append_left hl]; exact this
    · exact pL_0 s x
/-- part k has the members of k's bits -/
theorem pL_bit (s : Nat) : ∀ x k m, k < (pL s x).length → m < (pE s x).length → ((pL s x).getD k 0).testBit ((pE s x).getD m 0) = k.testBit m
  | 0, k, m, _, h2 => by simp [pE] at h2
  | x + 1, k, m, h1, h2 => by
    have hlen := pL_len s x
    rw [pL, pE] at *
    split at h1
    · rename_i hb
      rw [if_pos hb] at h2 ⊢
      rw [if_pos hb]
      rw [List.length_append, List.length_map] at h1
      rw [List.length_append, List.length_singleton] at h2
      simp only [List.getD_eq_getElem?_getD]
      by_cases q : k < (pL s x).length
      · rw [List.getElem?_append_left q]
        by_cases z : m < (pE s x).length
        · have := pL_bit s x k m q z
          simp only [List.getD_eq_getElem?_getD] at this
          rw [List.getElem?_append_left z]; exact this
        · have e : m = (pE s x).length := by omega
          have h3 := pL_get_lt s x k q
          simp only [List.getD_eq_getElem?_getD] at h3
          rw [List.getElem?_append_right (by omega), e]
          simp only [Nat.sub_self, List.getElem?_cons_zero, Option.getD_some]
          rw [Nat.testBit_lt_two_pow h3, Nat.testBit_lt_two_pow (by omega)]
      · have h3 := pL_get_lt s x (k - (pL s x).length) (by omega)
        rw [List.getElem?_append_right (by omega), List.getElem?_map]
        simp only [List.getD_eq_getElem?_getD] at h3
        rw [List.getElem?_eq_getElem (i := k - (pL s x).length) (by omega)] at h3 ⊢
        simp only [Option.map_some, Option.getD_some] at h3 ⊢
        rw [tb_add h3]
        have hk : k = (k - (pL s x).length) + 2 ^ (pE s x).length := by omega
        have hk2 : k - (pL s x).length < 2 ^ (pE s x).length := by omega
        by_cases z : m < (pE s x).length
        · have := pL_bit s x (k - (pL s x).length) m (by omega) z
          simp only [List.getD_eq_getElem?_getD] at this
          rw [List.getElem?_eq_getElem (i := k - (pL s x).length) (by omega)] at this
          simp only [Option.getD_some] at this
          have h4 := (pE_get s x m z).1
          simp only [List.getD_eq_getElem?_getD] at h4
          rw [List.getElem?_append_left z, this]
          conv => rhs; rw [hk, tb_add hk2]
          congr 1
          rw [decide_eq_false (by omega), decide_eq_false (by omega)]
        · have e : m = (pE s x).length := by omega
          rw [List.getElem?_append_right (by omega), e]
          simp only [Nat.sub_self, List.getElem?_cons_zero, Option.getD_some]
          conv => rhs; rw [hk, tb_add hk2]
          simp
    · rename_i hb
      rw [if_neg hb] at h2 ⊢
      rw [if_neg hb]
      exact pL_bit s x k m h1 h2
theorem pE_half {s : Nat} (h : ∀ t, ¬ (s.testBit (2 * t) = true ∧ s.testBit (2 * t + 1) = true)) : ∀ t, (pE s (2 * t)).length ≤ t
  | 0 => by simp [pE]
  | t + 1 => by
    have ih := pE_half h t
    have h2 := h t
    rw [show 2 * (t + 1) = (2 * t + 1) + 1 by omega, pE, pE]
    by_cases a : s.testBit (2 * t) = true <;> by_cases b : s.testBit (2 * t + 1) = true
    · exact absurd ⟨a, b⟩ h2
    · rw [if_pos a, if_neg b, List.length_append, List.length_singleton]; omega
    · rw [if_neg a, if_pos b, List.length_append, List.length_singleton]; omega
    · rw [if_neg a, if_neg b]; omega
theorem pE_stay {s : Nat} : ∀ {d x : Nat}, (pE s (x + d)).length ≤ (pE s x).length → pE s (x + d) = pE s x ∧ pL s (x + d) = pL s x
  | 0, x, _ => ⟨rfl, rfl⟩
  | d + 1, x, h => by
    have hm : ∀ y, (pE s x).length ≤ (pE s (x + y)).length := by
      intro y
      induction y with
      | zero => exact Nat.le_refl _
      | succ y ih =>
        rw [← Nat.add_assoc, pE]
        split
        · rw [List.length_append]; omega
        · exact ih
    rw [← Nat.add_assoc, pE] at h
    rw [← Nat.add_assoc, pE, pL]
    split at h
    · rw [List.length_append, List.length_singleton] at h
      have := hm d
      omega
    · rename_i hb
      rw [if_neg hb, if_neg hb]
      exact pE_stay h
theorem pE_le6 {s x : Nat} (h : (pE s 12).length ≤ 6) (hx : x ≤ 12) : (pE s x).length ≤ 6 := by
  have hm : ∀ y, (pE s x).length ≤ (pE s (x + y)).length := by
    intro y
    induction y with
    | zero => exact Nat.le_refl _
    | succ y ih =>
      rw [← Nat.add_assoc, pE]
      split
      · rw [List.length_append]; omega
      · exact ih
  have := hm (12 - x)
  rw [show x + (12 - x) = 12 by omega] at this
  omega
/-! Parts.take -/
theorem t_take_in {Q : Int32 → Int32 → (Nat → Int32) → (Nat → Int32) → Prop} {K : Int32 → Int32 → Int32 → Int32 → (Nat → Int32) → (Nat → Int32) → Prop} {x1 : Int32} {x C : Nat} {cm : Int32} {me : Nat → Int32} {L : Nat → Nat} (hx : x < 12) (hC : 2 * C ≤ 64) (hL : ∀ i, i < C → L i < 2 ^ x)
    (hK : ∀ pa : Nat → Int32, (∀ i, i < C → pa i = nI (L i)) → (∀ i, i < C → pa (C + i) = nI (L i + 2 ^ x)) → wp_X7_take_b82 Q K x1 (nI x) cm (nI C) me pa) :
    ∀ (d k : Nat) (pa : Nat → Int32), k + d = C → (∀ i, i < C → pa i = nI (L i)) → (∀ i, i < k → pa (C + i) = nI (L i + 2 ^ x)) → wp_X7_take_b47 Q K (d + 1) x1 (nI x) (nI k) cm (nI C) me pa := by
  intro d
  induction d with
  | zero =>
    intro k pa hk h1 h2
    unfold wp_X7_take_b47
    refine br_t (nI_le (by omega) (by omega)) (hK pa h1 (fun i hi => h2 i (by omega)))
  | succ d ih =>
    intro k pa hk h1 h2
    unfold wp_X7_take_b47
    refine br_f (nI_ge (by omega) (by omega)) ⟨(z_in (by omega)).mpr (by omega), nm_r (e' := nI (L k + 2 ^ x)) ?_ ⟨?_, ?_⟩⟩
    · have h3 := hL k (by omega)
      have h4 := Nat.two_pow_add_eq_or_of_lt h3 1
      rw [Nat.mul_one] at h4
      rw [nI_clamp (by omega), h1 k (by omega)]
      simp (disch := omega) only [zs, z_one, fa_or]
      rw [Nat.or_comm, ← h4, Nat.add_comm]
    · rw [nI_add]; exact (z_in (by omega)).mpr (by omega)
    · rw [nI_add, nI_clamp (by omega), zl 1, nI_add]
      refine ih (k + 1) _ (by omega) (fun i hi => ?_) (fun i hi => ?_)
      · rw [pk_un (by omega)]; exact h1 i hi
      · by_cases q : i = k
        · rw [q, pk_us]
        · rw [pk_un (by omega)]; exact h2 i (by omega)
theorem t_take {s : Nat} {Q : Int32 → Int32 → (Nat → Int32) → (Nat → Int32) → Prop} {c1 c2 : Int32} {me pa : Nat → Int32} (hs : s < 4096) (h6 : (pE s 12).length ≤ 6)
    (hQ : ∀ (me pa : Nat → Int32), (∀ j, j < (pE s 12).length → me j = nI ((pE s 12).getD j 0)) → (∀ k, k < (pL s 12).length → pa k = nI ((pL s 12).getD k 0)) → Q (nI (pE s 12).length) (nI (pL s 12).length) me pa) : wp_X7_take (nI s) c1 c2 me pa Q := by
  have main : ∀ (d x : Nat) (me pa : Nat → Int32), x + d = 12 → (∀ j, j < (pE s x).length → me j = nI ((pE s x).getD j 0)) → (∀ k, k < (pL s x).length → pa k = nI ((pL s x).getD k 0)) → wp_X7_take_b19 Q (d + 1) (nI s) (nI x) (nI (pE s x).length) (nI (pL s x).length) me pa := by
    intro d
    induction d with
    | zero =>
      intro x me pa hx h1 h2
      obtain rfl : x = 12 := by omega
      unfold wp_X7_take_b19
      exact br_t (nI_le (a := 12) (by omega) (by omega)) (hQ me pa h1 h2)
    | succ d ih =>
      intro x me pa hx h1 h2
      have hl6 := pE_le6 h6 (x := x) (by omega)
      have hlen := pL_len s x
      unfold wp_X7_take_b19
      refine br_f (nI_ge (b := 12) (by omega) (by omega)) (br_c (fun h => ?_) (fun h => ?_))
      · rw [zl 6, nI_leI (by omega) (by omega)] at h
        have e := pE_stay (s := s) (d := d + 1) (x := x) (by rw [hx]; omega)
        rw [hx] at e
        have := hQ me pa (by rw [e.1]; exact h1) (by rw [e.2]; exact h2)
        rw [e.1, e.2] at this
        exact this
      · rw [zl 6, nI_leI (by omega) (by omega)] at h
        have hl5 : (pL s x).length ≤ 32 := by
          rw [hlen]
          calc 2 ^ (pE s x).length ≤ 2 ^ 5 := Nat.pow_le_pow_right (by decide) (by omega)
            _ = 32 := rfl
        simp (disch := omega) only [zs, z_bit, bI_z]
        refine br_c (fun hb => ?_) (fun hb => ?_)
        · unfold wp_X7_take_b112
          rw [zl 1, nI_add]
          have e1 : pE s (x + 1) = pE s x := by rw [pE, if_neg (by rw [hb]; decide)]
          have e2 : pL s (x + 1) = pL s x := by rw [pL, if_neg (by rw [hb]; decide)]
          rw [← e1, ← e2]
          exact ih (x + 1) me pa (by omega) (by rw [e1]; exact h1) (by rw [e2]; exact h2)
        · have hb : s.testBit x = true := by simpa using hb
          have e1 : pE s (x + 1) = pE s x ++ [x] := by rw [pE, if_pos hb]
          have e2 : pL s (x + 1) = pL s x ++ (pL s x).map (fun c => c + 2 ^ x) := by rw [pL, if_pos hb]
          refine ⟨(pL s x).length + 1, t_take_in (L := fun i => (pL s x).getD i 0) (by omega) (by omega) (fun i hi => pL_get_lt s x i hi) (fun pa' g1 g2 => ?_) (pL s x).length 0 pa (by omega) h2 (fun i hi => absurd hi (Nat.not_lt_zero i))⟩
          unfold wp_X7_take_b82 wp_X7_take_b112
          refine ⟨(z_in (by omega)).mpr (by omega), ?_⟩
          rw [nI_clamp (by omega), zl 1, nI_add, nI_add, zl 2, pk_mul]
          have e3 : (pE s x).length + 1 = (pE s (x + 1)).length := by rw [e1, List.length_append, List.length_singleton]
          have e4 : (pL s x).length * 2 = (pL s (x + 1)).length := by rw [e2, List.length_append, List.length_map]; omega
          have key := ih (x + 1) (upd me (pE s x).length (nI x)) pa' (by omega) (fun j hj => ?_) (fun k hk => ?_)
          · rw [← e3, ← e4] at key; exact key
          · rw [e1] at hj ⊢
            rw [List.length_append, List.length_singleton] at hj
            rw [List.getD_eq_getElem?_getD]
            by_cases q : j < (pE s x).length
            · rw [pk_un (by omega), h1 j q, List.getElem?_append_left q, List.getD_eq_getElem?_getD]
            · rw [show j = (pE s x).length by omega, pk_us, List.getElem?_append_right (by omega)]; simp
          · rw [e2] at hk ⊢
            rw [List.length_append, List.length_map] at hk
            rw [List.getD_eq_getElem?_getD]
            by_cases q : k < (pL s x).length
            · rw [g1 k q, List.getElem?_append_left q, List.getD_eq_getElem?_getD]
            · have e5 := g2 (k - (pL s x).length) (by omega)
              rw [show (pL s x).length + (k - (pL s x).length) = k by omega] at e5
              rw [e5, List.getElem?_append_right (by omega), List.getElem?_map, List.getD_eq_getElem?_getD, List.getElem?_eq_getElem (i := k - (pL s x).length) (by omega)]
              rfl
  unfold wp_X7_take
  refine ⟨(z_in (n := 0) (by omega)).mpr (by omega), 13, ?_⟩
  have := main 12 0 me (upd pa (0 : Int32).toNatClampNeg (0 : Int32)) rfl (fun j hj => by simp [pE] at hj) (fun k hk => ?_)
  · exact this
  · have : k = 0 := by simp [pL] at hk; exact hk
    subst this
    rfl
