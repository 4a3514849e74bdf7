/-! the reference: choices of sayings -/
theorem wB_mono {n : Nat} {K K' : Nat → Nat → Bool} (h : ∀ s M, K s M = true → K' s M = true) : ∀ (d s : Nat), s + d = 2 ^ (2 * n) → 0 < d → wB (ed K n) (2 ^ (2 * n)) s ≤ wB (ed K' n) (2 ^ (2 * n)) s := by
  intro d
  induction d using Nat.strongRecOn with
  | _ d ih =>
    intro s hs hd
    have hsN : s < 2 ^ (2 * n) := by omega
    rw [wB_rec ed_E ed_pos s hsN, wB_rec ed_E ed_pos s hsN]
    refine Nat.add_le_add_left (sm_le fun M hM => ?_) _
    rcases Nat.eq_zero_or_pos (ed K n s M) with z | z
    · rw [z, Nat.zero_mul]; exact Nat.zero_le _
    · have hz : ed K n s M ≠ 0 := by omega
      obtain ⟨q1, q2, q3, q4, q5⟩ := ed_1 hz
      have h2 := ed_E s M hsN hz
      rw [q5, ed_eq ⟨q1, q2, q3⟩, if_pos (h s M q4), Nat.one_mul, Nat.one_mul]
      exact ih (2 ^ (2 * n) - (s + M)) (by omega) (s + M) (by omega) (by omega)
theorem fit_mono {g : Nat → Int32} {n m : Nat} {kd oa ob : Nat → Nat} {c c' : Nat} (h : sb c' c = true) (hf : fit g n m kd oa ob c = true) : fit g n m kd oa ob c' = true := by
  unfold fit at *
  rw [bne_iff_ne] at *
  have h1 : 0 < 2 ^ (2 * n) := Nat.two_pow_pos _
  have := wB_mono (n := n) (K := KA g n m kd oa ob c nmt none) (K' := KA g n m kd oa ob c' nmt none) (fun s M hk => by
    unfold KA kAll at *
    rw [Bool.and_eq_true, Bool.and_eq_true] at *
    refine ⟨⟨hk.1.1, ?_⟩, hk.2⟩
    rw [aB_iff]
    intro k hkm
    have := aB_iff.mp hk.1.2 k hkm
    cases q : c'.testBit k with
    | false => rfl
    | true => rw [sb_iff.mp h k q] at this; exact this) (2 ^ (2 * n)) 0 (by omega) h1
  omega
theorem s_ones {v : Nat} {Q : Int32 → Prop} (hv : v < 2 ^ 31) (hQ : Q (nI (pcn v))) : wp_X11_ones (nI v) Q := by
  have main : ∀ (d k : Nat), k + d = 12 → wp_X11_ones_b4 Q (d + 1) (nI v) (nI (fb_ct (fun k => v.testBit k) k)) (nI k) := by
    intro d
    induction d with
    | zero =>
      intro k hk
      obtain rfl : k = 12 := by omega
      unfold wp_X11_ones_b4
      exact br_t (nI_le (a := 12) (by omega) (by omega)) hQ
    | succ d ih =>
      intro k hk
      have ih := ih (k + 1) (by omega)
      unfold wp_X11_ones_b4
      refine br_f (nI_ge (b := 12) (by omega) (by omega)) ?_
      rw [zl 1, zl 31, z_bit hv (by omega), nI_add]
      intro y hy
      subst hy
      rw [fb_ct] at ih
      cases q : v.testBit k
      · rw [q] at ih
        rw [bI_f, nI_add]; exact ih
      · rw [q] at ih
        rw [bI_t, nI_add]; exact ih
  unfold wp_X11_ones
  exact ⟨13, main 12 0 rfl⟩
theorem s_withoutR {g : Nat → Int32} {m : Nat} {p : Int32} {Q : Int32 → Prop} (h1 : g 1 = nI m) (hm : m < 9) (hQ : Q (nI (lo (fun k => !decide (g (38 + k) = p)) m))) : wp_X11_without p g Q := by
  have c1 : (1 : Int32).toNatClampNeg = 1 := rfl
  have main : ∀ (d k : Nat), k + d = m → wp_X11_without_b4 Q g (d + 1) p (nI (lo (fun k => !decide (g (38 + k) = p)) k)) (nI k) := by
    intro d
    induction d with
    | zero =>
      intro k hk
      obtain rfl : k = m := by omega
      unfold wp_X11_without_b4
      refine ⟨(z_in (n := 1) (by omega)).mpr (by omega), ?_⟩
      rw [c1, h1]
      exact br_t (nI_le (by omega) (by omega)) hQ
    | succ d ih =>
      intro k hk
      have ih := ih (k + 1) (by omega)
      unfold wp_X11_without_b4 wp_X11_without_b35
      refine ⟨(z_in (n := 1) (by omega)).mpr (by omega), ?_⟩
      rw [c1, h1]
      refine br_f (nI_ge (by omega) (by omega)) ?_
      rw [zl 38, nI_add, nI_clamp (by omega), zl 0, zl 1, zl 31, z_one (by omega), fa_or, fa_or, nI_add]
      rw [lo_or] at ih
      refine ⟨(z_in (by omega)).mpr (by omega), br_c (fun q => ?_) (fun q => ?_)⟩
      · rw [if_neg (by simp [q])] at ih; exact ih
      · rw [if_pos (by simp [q])] at ih; exact ih
  unfold wp_X11_without
  exact ⟨m + 1, main m 0 (by omega)⟩
theorem s_rclash {g mate : Nat → Int32} {n m : Nat} {kd oa ob : Nat → Nat} {ca cm cc cp cq : Int32} {on : Nat → Int64} {Q : Int32 → Int32 → Int32 → Int32 → Int32 → (Nat → Int32) → (Nat → Int64) → Prop} (hg : HB g n m kd oa ob) (hBD : BD n)
    (hQ : ∀ (ca cm cc cp : Int32) (mate : Nat → Int32) (on : Nat → Int64), Q (clI (clA (fit g n m kd oa ob) (2 ^ m))) ca cm cc cp mate on) : wp_X11_clash ca cm cc cp cq g mate on Q := by
  have hm := hg.2.2.2.1
  have h8 : 2 ^ m ≤ 256 := Nat.pow_le_pow_right (n := 2) (by decide) (by omega : m ≤ 8)
  have h1 : 1 ≤ 2 ^ m := Nat.two_pow_pos _
  have c1 : (1 : Int32).toNatClampNeg = 1 := rfl
  have hok := clA_ok (p := fit g n m kd oa ob) (2 ^ m)
  have hfit : ∀ c, c < 2 ^ m → fit g n m kd oa ob (2 ^ m - 1) = true → fit g n m kd oa ob c = true := fun c hc => fit_mono (sb_iff.mpr fun e he => by
    rw [Nat.testBit_two_pow_sub_one, decide_eq_true_eq]
    rcases Nat.lt_or_ge e m with z | z
    · exact z
    · rw [tb_small hc z] at he; cases he)
  unfold wp_X11_clash
  refine ⟨(z_in (n := 1) (by omega)).mpr (by omega), ?_⟩
  rw [c1, hg.2.1, zl 1, zl 31, z_one (by omega), pk_sub h1]
  intro y hy
  subst hy
  refine s_fitsBy hg hBD (by omega) (fun ca cm mate on => ?_)
  rw [zl 0, show (wB (ed (KA g n m kd oa ob (2 ^ m - 1) nmt none) n) (2 ^ (2 * n)) 0 != 0) = fit g n m kd oa ob (2 ^ m - 1) from rfl, bI_z]
  cases hcl : clA (fit g n m kd oa ob) (2 ^ m) with
  | none =>
    rw [hcl] at hQ
    have := hok.1 hcl (2 ^ m - 1) (by omega)
    exact br_f (by rw [this]; decide) (hQ _ _ _ _ _ _)
  | some b =>
    rw [hcl] at hQ
    obtain ⟨b1, b2, b3⟩ := hok.2 b hcl
    have hnf : fit g n m kd oa ob (2 ^ m - 1) = false := by
      cases q : fit g n m kd oa ob (2 ^ m - 1) with
      | false => rfl
      | true => rw [hfit b b1 q] at b2; cases b2
    have hpm : pcn b ≤ m := by
      have e : pcn b = fb_ct (fun k => b.testBit k) m := by
        unfold pcn
        have e2 := fb_ct_split (fun k => b.testBit k) m (12 - m)
        have e3 : fb_ct (fun k => b.testBit (m + k)) (12 - m) = 0 := fb_ct_zero.mpr (fun k _ => tb_small b1 (by omega))
        rw [show m + (12 - m) = 12 by omega] at e2
        omega
      rw [e]; exact fb_ct_le _ m
    -- the search of one size
    have S : ∀ (many : Nat), many ≤ pcn b → (many < pcn b → ∀ (ca cm cc cp : Int32) (mate : Nat → Int32) (on : Nat → Int64) (f : Nat), m - many < f + 1 → wp_X11_clash_b23 Q cq g f (nI (2 ^ m - 1)) (nI many + 1) ca cm cc cp mate on) → ∀ (d s : Nat) (ca cm cc cp : Int32) (mate : Nat → Int32) (on : Nat → Int64) (f : Nat), s + d = 2 ^ m → (many = pcn b → s ≤ b) → m - many < f + 1 → wp_X11_clash_b35 Q cq g (wp_X11_clash_b23 Q cq g f) (d + 1) (nI (2 ^ m - 1)) (nI many) (nI s) ca cm cc cp mate on := by
      intro many hmany hK d
      induction d with
      | zero =>
        intro s ca cm cc cp mate on f hs hsb hf
        unfold wp_X11_clash_b35 wp_X11_clash_b64
        refine br_t (nI_lt (by omega) (by omega)) (hK ?_ _ _ _ _ _ _ f hf)
        rcases Nat.lt_or_ge many (pcn b) with z | z
        · exact z
        · have := hsb (by omega); omega
      | succ d ih =>
        intro s ca cm cc cp mate on f hs hsb hf
        unfold wp_X11_clash_b35 wp_X11_clash_b58
        refine br_f (nI_nlt (by omega) (by omega)) (s_ones (by omega) ?_)
        have hps := pcn_lt s (by omega)
        rw [nI_eq hps (by omega), nI_1]
        refine br_c (fun q => ?_) (fun q => ?_)
        · refine s_fitsBy hg hBD (by omega) (fun ca cm mate on => ?_)
          rw [zl 0, show (wB (ed (KA g n m kd oa ob s nmt none) n) (2 ^ (2 * n)) 0 != 0) = fit g n m kd oa ob s from rfl, bI_z]
          refine br_c (fun z => ?_) (fun z => ?_)
          · have hb := b3 s (by omega) z
            have e1 : many = pcn b := by omega
            have e2 : s = b := by
              have := hb.2 (by omega)
              have := hsb e1
              omega
            subst e2
            exact hQ _ _ _ _ _ _
          · refine ih (s + 1) _ _ _ _ _ _ f (by omega) (fun e => ?_) hf
            rcases Nat.lt_or_ge s b with w | w
            · omega
            · exfalso
              have : s = b := by have := hsb e; omega
              subst this
              exact z b2
        · refine ih (s + 1) _ _ _ _ _ _ f (by omega) (fun e => ?_) hf
          rcases Nat.lt_or_ge s b with w | w
          · omega
          · exfalso
            have : s = b := by have := hsb e; omega
            subst this
            exact q e.symm
    have M : ∀ (d many : Nat), many + d = pcn b → ∀ (ca cm cc cp : Int32) (mate : Nat → Int32) (on : Nat → Int64) (f : Nat), m - many < f → wp_X11_clash_b23 Q cq g f (nI (2 ^ m - 1)) (nI many) ca cm cc cp mate on := by
      intro d
      induction d with
      | zero =>
        intro many hmany ca cm cc cp mate on f hf
        obtain ⟨f, rfl⟩ : ∃ q, f = q + 1 := ⟨f - 1, by omega⟩
        unfold wp_X11_clash_b23
        refine ⟨(z_in (n := 1) (by omega)).mpr (by omega), ?_⟩
        rw [c1, hg.2.1]
        refine br_f (nI_nlt (by omega) (by omega)) ⟨_, S many (by omega) (fun z => by omega) (2 ^ m) 0 _ _ _ _ _ _ f (by omega) (fun _ => Nat.zero_le b) hf⟩
      | succ d ih =>
        intro many hmany ca cm cc cp mate on f hf
        obtain ⟨f, rfl⟩ : ∃ q, f = q + 1 := ⟨f - 1, by omega⟩
        unfold wp_X11_clash_b23
        refine ⟨(z_in (n := 1) (by omega)).mpr (by omega), ?_⟩
        rw [c1, hg.2.1]
        refine br_f (nI_nlt (by omega) (by omega)) ⟨_, S many (by omega) (fun z ca cm cc cp mate on f' hf' => ?_) (2 ^ m) 0 _ _ _ _ _ _ f (by omega) (fun _ => Nat.zero_le b) hf⟩
        rw [nI_1]
        exact ih (many + 1) (by omega) _ _ _ _ _ _ f' (by omega)
    refine br_t hnf ⟨m + 1, M (pcn b) 0 (by omega) _ _ _ _ _ _ (m + 1) (by omega)⟩
