theorem pcn_m : ∀ m, m < 9 → ∀ c, c < 2 ^ m → pcn c ≤ m ∧ (pcn c = m → c = 2 ^ m - 1) := by decide +kernel
theorem pcn_all : ∀ m, m < 9 → pcn (2 ^ m - 1) = m := by decide +kernel
theorem drA_ok {p : Nat → Bool} {m : Nat} (hm : m < 9) : ∀ k, k ≤ 2 ^ m - 1 → (drA p (2 ^ m - 1) k = 2 ^ m - 1 ∧ ∀ c, c < k → p ((2 ^ m - 1) ^^^ c) = false) ∨ (drA p (2 ^ m - 1) k < k ∧ p ((2 ^ m - 1) ^^^ drA p (2 ^ m - 1) k) = true ∧ ∀ c, c < k → p ((2 ^ m - 1) ^^^ c) = true → pcn (drA p (2 ^ m - 1) k) ≤ pcn c ∧ (pcn c = pcn (drA p (2 ^ m - 1) k) → drA p (2 ^ m - 1) k ≤ c))
  | 0, _ => Or.inl ⟨rfl, fun c hc => absurd hc (Nat.not_lt_zero c)⟩
  | k + 1, h => by
    have ih := drA_ok (p := p) hm k (by omega)
    have lt : ∀ c, c < k + 1 → c < k ∨ c = k := fun c hc => by omega
    have hk := pcn_m m hm k (by omega)
    rw [drA]
    generalize drA p (2 ^ m - 1) k = r at *
    by_cases z : p ((2 ^ m - 1) ^^^ k) = true ∧ pcn k < pcn r
    · rw [if_pos z]
      refine Or.inr ⟨by omega, z.1, fun c hc hp => ?_⟩
      rcases lt c hc with w | w
      · rcases ih with ⟨i1, i2⟩ | ⟨i1, i2, i3⟩
        · rw [i2 c w] at hp; cases hp
        · have := i3 c w hp
          exact ⟨by omega, fun _ => by omega⟩
      · rw [w]; exact ⟨Nat.le_refl _, fun _ => Nat.le_refl _⟩
    · rw [if_neg z]
      rcases ih with ⟨i1, i2⟩ | ⟨i1, i2, i3⟩
      · refine Or.inl ⟨i1, fun c hc => ?_⟩
        rcases lt c hc with w | w
        · exact i2 c w
        · rw [w]
          cases q : p ((2 ^ m - 1) ^^^ k) with
          | false => rfl
          | true =>
            exfalso
            refine z ⟨q, ?_⟩
            rw [i1, pcn_all m hm]
            rcases Nat.lt_or_ge (pcn k) m with y | y
            · exact y
            · have := hk.2 (by omega); omega
      · refine Or.inr ⟨by omega, i2, fun c hc hp => ?_⟩
        rcases lt c hc with w | w
        · exact i3 c w hp
        · subst w
          have : ¬ pcn c < pcn r := fun y => z ⟨hp, y⟩
          exact ⟨by omega, fun _ => by omega⟩
theorem not_in {m s : Nat} (hm : m < 9) (hs : s < 2 ^ m) : (2 ^ m - 1) &&& (s ^^^ 4294967295) = (2 ^ m - 1) ^^^ s := by
  apply Nat.eq_of_testBit_eq
  intro e
  rw [Nat.testBit_and, Nat.testBit_xor, Nat.testBit_xor, Nat.testBit_two_pow_sub_one]
  rcases Nat.lt_or_ge e m with z | z
  · rw [decide_eq_true z, tb_mask e (by omega)]; cases s.testBit e <;> rfl
  · rw [decide_eq_false (by omega), tb_small hs z]; rfl
theorem s_rdrop {g mate : Nat → Int32} {n m : Nat} {kd oa ob : Nat → Nat} {ca cm cc cp cq : Int32} {on : Nat → Int64} {Q : Int32 → Int32 → Int32 → Int32 → Int32 → (Nat → Int32) → (Nat → Int64) → Prop} (hg : HB g n m kd oa ob) (hBD : BD n)
    (hQ : ∀ (ca cm cc cp : Int32) (mate : Nat → Int32) (on : Nat → Int64), Q (nI (drA (fit g n m kd oa ob) (2 ^ m - 1) (2 ^ m - 1))) ca cm cc cp mate on) : wp_X11_drop ca cm cc cp cq g mate on Q := by
  have hm := hg.2.2.2.1
  have h8 : 2 ^ m ≤ 256 := Nat.pow_le_pow_right (n := 2) (by decide) (by omega : m ≤ 8)
  have h1 : 1 ≤ 2 ^ m := Nat.two_pow_pos _
  have c1 : (1 : Int32).toNatClampNeg = 1 := rfl
  have hm1 : (-1 : Int32) = nI 4294967295 := by decide
  have hok := drA_ok (p := fit g n m kd oa ob) hm (2 ^ m - 1) (Nat.le_refl _)
  have hpall := pcn_all m hm
  generalize drA (fit g n m kd oa ob) (2 ^ m - 1) (2 ^ m - 1) = b at *
  have hpb : pcn b ≤ m := by
    rcases hok with ⟨e, -⟩ | ⟨e, -, -⟩
    · rw [e, hpall]; exact Nat.le_refl _
    · exact (pcn_m m hm b (by omega)).1
  have hb2 : b < 2 ^ m := by rcases hok with ⟨e, -⟩ | ⟨e, -, -⟩ <;> omega
  -- what the search does at a set: it stops at b alone
  have hstop : ∀ s, s < 2 ^ m → pcn s < m → (pcn s < pcn b ∨ (pcn s = pcn b ∧ s ≤ b)) → fit g n m kd oa ob ((2 ^ m - 1) ^^^ s) = true → s = b := by
    intro s hs hsm hle hf
    rcases hok with ⟨e, h2⟩ | ⟨e, h2, h3⟩
    · have hlt : s < 2 ^ m - 1 := by
        rcases Nat.lt_or_ge s (2 ^ m - 1) with z | z
        · exact z
        · have : s = 2 ^ m - 1 := by omega
          rw [this, hpall] at hsm; omega
      rw [h2 s hlt] at hf; cases hf
    · have hlt : s < 2 ^ m - 1 := by
        rcases Nat.lt_or_ge s (2 ^ m - 1) with z | z
        · exact z
        · have : s = 2 ^ m - 1 := by omega
          rw [this, hpall] at hsm; omega
      have := h3 s hlt hf
      rcases hle with w | w
      · omega
      · have := this.2 w.1; omega
  have hgo : pcn b < m → fit g n m kd oa ob ((2 ^ m - 1) ^^^ b) = true := fun z => by
    rcases hok with ⟨e, -⟩ | ⟨-, e, -⟩
    · rw [e, hpall] at z; omega
    · exact e
  have hend : pcn b = m → b = 2 ^ m - 1 := fun z => (pcn_m m hm b hb2).2 z
  have S : ∀ (many : Nat), many < m → many ≤ pcn b → (many < pcn b → ∀ (ca cm cc cp : Int32) (mate : Nat → Int32) (on : Nat → Int64) (f : Nat), m - many < f + 1 → wp_X11_drop_b13 Q cq g f (nI (2 ^ m - 1)) (nI many + 1) ca cm cc cp mate on) → ∀ (d s : Nat) (ca cm cc cp : Int32) (mate : Nat → Int32) (on : Nat → Int64) (f : Nat), s + d = 2 ^ m → (many = pcn b → s ≤ b) → m - many < f + 1 → wp_X11_drop_b25 Q cq g (wp_X11_drop_b13 Q cq g f) (d + 1) (nI (2 ^ m - 1)) (nI many) (nI s) ca cm cc cp mate on := by
    intro many hmm hmany hK d
    induction d with
    | zero =>
      intro s ca cm cc cp mate on f hs hsb hf
      unfold wp_X11_drop_b25 wp_X11_drop_b58
      refine br_t (nI_lt (by omega) (by omega)) (hK ?_ _ _ _ _ _ _ f hf)
      rcases Nat.lt_or_ge many (pcn b) with z | z
      · exact z
      · have := hsb (by omega); omega
    | succ d ih =>
      intro s ca cm cc cp mate on f hs hsb hf
      unfold wp_X11_drop_b25 wp_X11_drop_b52
      refine br_f (nI_nlt (by omega) (by omega)) (s_ones (by omega) ?_)
      have hps := pcn_lt s (by omega)
      have hx : (2 ^ m - 1) ^^^ s < 2 ^ m := Nat.xor_lt_two_pow (by omega) (by omega)
      rw [nI_eq hps (by omega), nI_1, hm1, z_xor, fa_and, not_in hm (by omega)]
      have next : ¬ s = b ∨ many ≠ pcn b → (many = pcn b → s + 1 ≤ b) := fun h e => by
        have := hsb e
        rcases h with h | h
        · omega
        · exact absurd e h
      refine br_c (fun q => ?_) (fun q => ?_)
      · refine s_fitsBy hg hBD (by omega) (fun ca cm mate on => ?_)
        rw [zl 0, show (wB (ed (KA g n m kd oa ob ((2 ^ m - 1) ^^^ s) nmt none) n) (2 ^ (2 * n)) 0 != 0) = fit g n m kd oa ob ((2 ^ m - 1) ^^^ s) from rfl, bI_z]
        refine br_c (fun z => ?_) (fun z => ?_)
        · refine ih (s + 1) _ _ _ _ _ _ f (by omega) (next ?_) hf
          by_cases w : s = b
          · exact Or.inr fun e => by
              rw [w, hgo (by omega)] at z; cases z
          · exact Or.inl w
        · have : s = b := by
            refine hstop s (by omega) (by omega) ?_ (by simpa using z)
            rcases Nat.lt_or_ge (pcn s) (pcn b) with w | w
            · exact Or.inl w
            · exact Or.inr ⟨by omega, hsb (by omega)⟩
          subst this
          exact hQ _ _ _ _ _ _
      · refine ih (s + 1) _ _ _ _ _ _ f (by omega) (next ?_) hf
        by_cases w : s = b
        · exact Or.inr fun e => q (by rw [w]; exact e.symm)
        · exact Or.inl w
  have M : ∀ (d many : Nat), many + d = pcn b → ∀ (ca cm cc cp : Int32) (mate : Nat → Int32) (on : Nat → Int64) (f : Nat), m - many < f → wp_X11_drop_b13 Q cq g f (nI (2 ^ m - 1)) (nI many) ca cm cc cp mate on := by
    intro d
    induction d with
    | zero =>
      intro many hmany ca cm cc cp mate on f hf
      obtain ⟨f, rfl⟩ : ∃ q, f = q + 1 := ⟨f - 1, by omega⟩
      unfold wp_X11_drop_b13
      refine ⟨(z_in (n := 1) (by omega)).mpr (by omega), ?_⟩
      rw [c1, hg.2.1, nI_leI (by omega) (by omega)]
      refine br_c (fun z => ?_) (fun z => ⟨_, S many (by omega) (by omega) (fun z => by omega) (2 ^ m) 0 _ _ _ _ _ _ f (by omega) (fun _ => Nat.zero_le b) hf⟩)
      have := hend (by omega)
      rw [← this]
      exact hQ _ _ _ _ _ _
    | succ d ih =>
      intro many hmany ca cm cc cp mate on f hf
      obtain ⟨f, rfl⟩ : ∃ q, f = q + 1 := ⟨f - 1, by omega⟩
      unfold wp_X11_drop_b13
      refine ⟨(z_in (n := 1) (by omega)).mpr (by omega), ?_⟩
      rw [c1, hg.2.1]
      refine br_f (nI_ge (by omega) (by omega)) ⟨_, S many (by omega) (by omega) (fun z ca cm cc cp mate on f' hf' => ?_) (2 ^ m) 0 _ _ _ _ _ _ f (by omega) (fun _ => Nat.zero_le b) hf⟩
      rw [nI_1]
      exact ih (many + 1) (by omega) _ _ _ _ _ _ f' (by omega)
  unfold wp_X11_drop
  refine ⟨(z_in (n := 1) (by omega)).mpr (by omega), ?_⟩
  rw [c1, hg.2.1, zl 1, zl 31, z_one (by omega), pk_sub h1]
  intro y hy
  subst hy
  exact ⟨m + 1, M (pcn b) 0 (by omega) _ _ _ _ _ _ (m + 1) (by omega)⟩
/-- whose word stands against all -/
def agn (g : Nat → Int32) (n m : Nat) (kd oa ob : Nat → Nat) (p : Nat) : Nat := lo (fun p => fit g n m kd oa ob (lo (fun k => !decide (g (38 + k) = nI p)) m)) p
theorem s_ragainst {g mate : Nat → Int32} {n m : Nat} {kd oa ob : Nat → Nat} {ca cm cc cp cq : Int32} {on : Nat → Int64} {Q : Int32 → Int32 → Int32 → Int32 → Int32 → (Nat → Int32) → (Nat → Int64) → Prop} (hg : HB g n m kd oa ob) (hBD : BD n)
    (hQ : ∀ (ca cm cc cp : Int32) (mate : Nat → Int32) (on : Nat → Int64), Q (nI (agn g n m kd oa ob 4)) ca cm cc cp mate on) : wp_X11_against ca cm cc cp cq g mate on Q := by
  have hm := hg.2.2.2.1
  have main : ∀ (d p : Nat) (ca cm cc cp : Int32) (mate : Nat → Int32) (on : Nat → Int64), p + d = 4 → wp_X11_against_b4 Q cq g (d + 1) (nI (agn g n m kd oa ob p)) (nI p) ca cm cc cp mate on := by
    intro d
    induction d with
    | zero =>
      intro p ca cm cc cp mate on hp
      obtain rfl : p = 4 := by omega
      unfold wp_X11_against_b4
      exact br_t (nI_le (a := 4) (by omega) (by omega)) (hQ _ _ _ _ _ _)
    | succ d ih =>
      intro p ca cm cc cp mate on hp
      have ih := ih (p + 1)
      have hl : lo (fun k => !decide (g (38 + k) = nI p)) m < 2 ^ 31 := Nat.lt_of_lt_of_le (lo_lt _ m) (Nat.pow_le_pow_right (by decide) (by omega))
      unfold wp_X11_against_b4 wp_X11_against_b29
      refine br_f (nI_ge (b := 4) (by omega) (by omega)) (s_withoutR hg.2.1 hm (s_fitsBy hg hBD hl (fun ca cm mate on => ?_)))
      rw [show (wB (ed (KA g n m kd oa ob (lo (fun k => !decide (g (38 + k) = nI p)) m) nmt none) n) (2 ^ (2 * n)) 0 != 0) = fit g n m kd oa ob (lo (fun k => !decide (g (38 + k) = nI p)) m) from rfl, zl 0, zl 1, zl 31, bI_z, z_one (by omega), fa_or, fa_or, nI_add]
      rw [agn, lo_or] at ih
      refine br_c (fun z => ?_) (fun z => ?_)
      · rw [if_neg (by rw [z]; decide)] at ih; exact ih _ _ _ _ _ _ (by omega)
      · rw [if_pos (by simpa using z)] at ih; exact ih _ _ _ _ _ _ (by omega)
  unfold wp_X11_against
  exact ⟨5, main 4 0 _ _ _ _ _ _ rfl⟩
