/-! MINUTE, of the reference -/
theorem lI_lt {p q : Nat} (hp : p ≤ 102) (hq : q ≤ 102) : (lI q < mI p) ↔ ¬ p + 1 ≤ q := by
  rw [Int32.lt_iff_toInt_lt, lI_t (by omega), mI_t (by omega)]; omega
theorem lI_p {q : Nat} (h : 1 ≤ q) : lI q = mI (q - 1) := by
  obtain ⟨r, rfl⟩ : ∃ r, q = r + 1 := ⟨q - 1, by omega⟩
  rw [lI_mI, Nat.add_sub_cancel]
theorem s_pick {Q : Int32 → Int32 → Int32 → Int32 → Int32 → (Nat → Int32) → (Nat → Int32) → (Nat → Int32) → (Nat → Int32) → Prop} {K68 : Int32 → Int32 → Int32 → Int32 → Int32 → Int32 → Int32 → Int32 → Int32 → Int32 → (Nat → Int32) → (Nat → Int32) → (Nat → Int32) → (Nat → Int32) → Prop} {x1 x4 x5 x6 ca cm cc cp : Int32} {rf mate so la : Nat → Int32} {w0 m p q : Nat} (hw : w0 < 2) (hp : p ≤ 101) (hp1 : 1 ≤ p) (hm : m ≤ 101) (hq : q ≤ 102)
    (h : wp_X11_minute_b190 Q K68 x1 (nI w0) (mI (if p + 1 ≤ q then (if w0 = 0 then (if m = 0 then p else min m p) else max m (q - 1)) else m)) x4 x5 x6 ca cm cc cp rf mate so la) : wp_X11_minute_b128 Q K68 x1 (nI w0) (mI m) x4 x5 x6 (mI p) (lI q) (if w0 = 0 then mI p else lI q) ca cm cc cp rf mate so la := by
  unfold wp_X11_minute_b128 wp_X11_minute_b151 wp_X11_minute_b162 wp_X11_minute_b171 wp_X11_minute_b175 wp_X11_minute_b176 wp_X11_minute_b189
  rw [lI_lt (by omega) hq, mI_z (by omega), show ((nI w0 = 0) = (w0 = 0)) from propext (nI_eq (b := 0) (by omega) (by omega))]
  refine br_c (fun z => br_t rfl ?_) (fun z => ?_)
  · rw [if_neg z] at h; exact h
  · have z := Decidable.not_not.mp z
    rw [if_pos z] at h
    rw [lI_p (by omega)]
    by_cases w1 : w0 = 0
    · rw [if_pos w1] at h ⊢
      refine br_c (fun z2 => br_f (by decide) ?_) (fun z2 => br_t w1 ?_)
      · rw [if_pos z2] at h; exact h
      · rw [if_neg z2] at h
        rw [mI_le (by omega) (by omega), mI_eq (by omega) (by omega)]
        refine br_c (fun z3 => br_f (by decide) (br_t rfl ?_)) (fun z3 => br_t rfl (br_f (by omega) (br_f (by decide) ?_)))
        · rw [Nat.min_eq_left (by omega)] at h; exact h
        · rw [Nat.min_eq_right (by omega)] at h; exact h
    · rw [if_neg w1] at h ⊢
      refine br_c (fun z2 => br_f (by decide) ?_) (fun z2 => br_f w1 ?_)
      · rw [z2, Nat.max_eq_right (Nat.zero_le _)] at h; exact h
      · rw [mI_le (by omega) (by omega), mI_eq (by omega) (by omega)]
        refine br_c (fun z3 => br_t rfl (br_c (fun z4 => br_t rfl ?_) (fun z4 => br_f (by decide) ?_))) (fun z3 => br_f (by decide) (br_t rfl ?_))
        · rw [Nat.max_eq_left (by omega)] at h; exact h
        · rw [Nat.max_eq_right (by omega)] at h; exact h
        · rw [Nat.max_eq_left (by omega)] at h; exact h
/-- the best so far -/
def BV (K : Nat → Nat → Bool) (w : Nat → Nat) (n w0 x s b m : Nat) : Prop := m ≤ 101 ∧ if w0 = 0 then IZ (fun y => ∃ s' c, PS1 s b s' c ∧ NP K w n x s' c ∧ y = lo_ (sn K w n s') (tl w c 12)) m else IX (fun y => ∃ s' c, PS1 s b s' c ∧ NP K w n x s' c ∧ y = hi_ (mo1 K w n true (s' + c)) (tl w c 12)) m
theorem BV_c {K : Nat → Nat → Bool} {w : Nat → Nat} {n w0 x s b s1 b1 m : Nat} (h : BV K w n w0 x s b m) (hp : ∀ s' c, NP K w n x s' c → (PS1 s1 b1 s' c ↔ PS1 s b s' c)) : BV K w n w0 x s1 b1 m := by
  refine ⟨h.1, ?_⟩
  have h2 := h.2
  by_cases w1 : w0 = 0
  · rw [if_pos w1] at h2 ⊢
    refine IZ_c (fun y => ?_) h2
    exact ⟨fun ⟨s', c, q, r, t⟩ => ⟨s', c, (hp s' c r).mp q, r, t⟩, fun ⟨s', c, q, r, t⟩ => ⟨s', c, (hp s' c r).mpr q, r, t⟩⟩
  · rw [if_neg w1] at h2 ⊢
    refine IX_c (fun y => ?_) h2
    exact ⟨fun ⟨s', c, q, r, t⟩ => ⟨s', c, (hp s' c r).mp q, r, t⟩, fun ⟨s', c, q, r, t⟩ => ⟨s', c, (hp s' c r).mpr q, r, t⟩⟩
theorem NP_ok {K : Nat → Nat → Bool} {w : Nat → Nat} {n x s c : Nat} (h : NP K w n x s c) : sn K w n s < 101 ∧ s + c < 2 ^ (2 * n) ∧ lo_ (sn K w n s) (tl w c 12) ≤ 101 ∧ hi_ (mo1 K w n true (s + c)) (tl w c 12) ≤ 101 ∧ 0 < lo_ (sn K w n s) (tl w c 12) := by
  obtain ⟨a, b, d, e⟩ := h
  have h3 := ed_E s c a b
  have hA := mo_101 (K := K) (w := w) (n := n) (a := true) (2 ^ (2 * n) - 1 - (s + c)) (s + c) (by omega)
  obtain ⟨l1, l2, l3⟩ := lo_le e hA
  refine ⟨?_, h3, l1, l2, l3⟩
  unfold nOk at e
  split at e <;> omega
/-- what MINUTE answers, counted from one on -/
def MN (K : Nat → Nat → Bool) (w : Nat → Nat) (n w0 x m : Nat) : Prop := if w0 = 0 then SO K w n x m else LO K w n x m
theorem BV_end {K : Nat → Nat → Bool} {w : Nat → Nat} {n w0 x b m : Nat} (h : BV K w n w0 x (2 ^ (2 * n) - 1) b m) : MN K w n w0 x m := by
  have hN : 1 ≤ 2 ^ (2 * n) := Nat.two_pow_pos _
  have h2 := h.2
  have hp : ∀ s' c, NP K w n x s' c → PS1 (2 ^ (2 * n) - 1) b s' c := by
    intro s' c q
    have := (NP_ok q).2.1
    have := (ed_1 q.2.1).2.1
    unfold PS1
    omega
  unfold MN
  by_cases w1 : w0 = 0
  · rw [if_pos w1] at h2 ⊢
    refine IZ_c (fun y => ?_) h2
    exact ⟨fun ⟨s', c, r, t⟩ => ⟨s', c, hp s' c r, r, t⟩, fun ⟨s', c, _, r, t⟩ => ⟨s', c, r, t⟩⟩
  · rw [if_neg w1] at h2 ⊢
    refine IX_c (fun y => ?_) h2
    exact ⟨fun ⟨s', c, r, t⟩ => ⟨s', c, hp s' c r, r, t⟩, fun ⟨s', c, _, r, t⟩ => ⟨s', c, r, t⟩⟩
theorem s_minuteIn {g mate : Nat → Int32} {w : Nat → Nat} {n w0 x : Nat} {K : Nat → Nat → Bool} {ca cm cc cp cq : Int32} {so la rf : Nat → Int32} {Q : Int32 → Int32 → Int32 → Int32 → Int32 → (Nat → Int32) → (Nat → Int32) → (Nat → Int32) → (Nat → Int32) → Prop} (hn : n < 7) (h0 : g 0 = nI n) (hK : MV (2 ^ (2 * n)) K cc cp cq g mate) (hg : ∀ e, e < 12 → g (46 + e) = mI (w e) ∧ w e ≤ 100) (hw0 : w0 < 2) (hx : x < 12)
    (hso : ∀ v, v < 2 ^ (2 * n) → so v = mI (sn K w n v)) (hla : ∀ v, v < 2 ^ (2 * n) → la v = lI (mo1 K w n false v))
    (hQ : ∀ (ca cm : Int32) (a : Nat), MN K w n w0 x a → Q (mI a) ca cm cc cp rf mate so la) : ∃ k, wp_X11_minute_b31 Q cq g k (nI x) (nI w0) (-1 : Int32) (0 : Int32) ca cm cc cp rf mate so la := by
  have h4 := p4_le hn
  have hN1 : 1 ≤ 2 ^ (2 * n) := Nat.two_pow_pos _
  have hand : ∀ b m : Nat, b ≠ 0 → b < 2 ^ 31 → ((nI b - 1) &&& nI m) = nI ((b - 1) &&& m) := fun b m hb hb2 => by rw [show (1 : Int32) = nI 1 from rfl, pk_sub (by omega), fa_and]
  have main : ∀ (d s : Nat), s + d = 2 ^ (2 * n) - 1 → ∀ (ca cm : Int32) (m : Nat), BV K w n w0 x s (2 ^ (2 * n)) m → wp_X11_minute_b31 Q cq g (d + 1) (nI x) (nI w0) (mI m) (nI s) ca cm cc cp rf mate so la := by
    intro d
    induction d with
    | zero =>
      intro s hs ca cm m hbv
      obtain rfl : s = 2 ^ (2 * n) - 1 := by omega
      unfold wp_X11_minute_b31
      rw [e_full h0 hn]
      exact br_t (nI_le (by omega) (by omega)) (hQ ca cm m (BV_end hbv))
    | succ d ih =>
      intro s hs ca cm m hbv
      have hsN : s < 2 ^ (2 * n) := by omega
      have hsl := sn_le (K := K) (w := w) (n := n) (v := s)
      have inner : sn K w n s < 101 → ∀ by_, sb by_ (nx s n) = true → ∀ (f : Nat), by_ < f → ∀ (ca cm : Int32) (m : Nat), BV K w n w0 x s by_ m → wp_X11_minute_b68 Q cq g (wp_X11_minute_b31 Q cq g (d + 1)) f (nI x) (nI w0) (mI m) (nI s) (nI (nx s n)) (nI by_) ca cm cc cp rf mate so la := by
        intro hsn
        have hvk : vl s = true := sn_vl hn hsN hsn
        refine sb_ind (m := nx s n) (P := fun by_ => ∀ (f : Nat), by_ < f → ∀ (ca cm : Int32) (m : Nat), BV K w n w0 x s by_ m → wp_X11_minute_b68 Q cq g (wp_X11_minute_b31 Q cq g (d + 1)) f (nI x) (nI w0) (mI m) (nI s) (nI (nx s n)) (nI by_) ca cm cc cp rf mate so la) ?_ ?_
        · intro f hf ca cm m hl
          obtain ⟨f, rfl⟩ : ∃ q, f = q + 1 := ⟨f - 1, by omega⟩
          unfold wp_X11_minute_b68 wp_X11_minute_b202
          rw [nI_1]
          refine br_t (by decide) (ih (s + 1) (by omega) ca cm m (BV_c hl (fun s' c he => ?_)))
          have h1 := (ed_1 he.2.1).2.1
          have h2 := sb_le (ed_1 he.2.1).2.2.1
          have h3 := nx_lt s' n
          unfold PS1
          constructor
          · rintro (q | ⟨q, r⟩)
            · rcases Nat.lt_or_ge s' s with z | z
              · exact Or.inl z
              · exact Or.inr ⟨by omega, by omega⟩
            · omega
          · rintro (q | ⟨q, r⟩)
            · exact Or.inl (by omega)
            · exact Or.inl (by omega)
        · intro b hb0 hbs hP f hf ca cm m hl
          obtain ⟨f, rfl⟩ : ∃ q, f = q + 1 := ⟨f - 1, by omega⟩
          have hbN := mo_lt hbs
          have hkb := mo_N hsN hbs
          have hand1 : ((b - 1) &&& nx s n) ≤ b - 1 := Nat.and_le_left
          have hpr : ∀ s' c, ed K n s' c ≠ 0 → (PS1 s ((b - 1) &&& nx s n) s' c ↔ PS1 s b s' c ∨ (s' = s ∧ c = b)) := by
            intro v c he
            unfold PS1
            constructor
            · rintro (q | ⟨rfl, q⟩)
              · exact Or.inl (Or.inl q)
              · rcases (sb_more hb0 hbs (ed_1 he).2.2.1).mp q with r | r
                · exact Or.inl (Or.inr ⟨rfl, r⟩)
                · exact Or.inr ⟨rfl, r⟩
            · rintro ((q | ⟨rfl, q⟩) | ⟨rfl, q⟩)
              · exact Or.inl q
              · exact Or.inr ⟨rfl, (sb_more hb0 hbs (ed_1 he).2.2.1).mpr (Or.inl q)⟩
              · exact Or.inr ⟨rfl, (sb_more hb0 hbs (ed_1 he).2.2.1).mpr (Or.inr q)⟩
          have hskip : ¬ NP K w n x s b → BV K w n w0 x s ((b - 1) &&& nx s n) m := fun hno => BV_c hl (fun s' c he => by
            rw [hpr s' c he.2.1]
            refine ⟨fun q => ?_, Or.inl⟩
            rcases q with q | ⟨rfl, rfl⟩
            · exact q
            · exact absurd he hno)
          have hnext : ∀ (m : Nat), BV K w n w0 x s ((b - 1) &&& nx s n) m → ∀ ca cm, wp_X11_minute_b190 Q (wp_X11_minute_b68 Q cq g (wp_X11_minute_b31 Q cq g (d + 1)) f) (nI x) (nI w0) (mI m) (nI s) (nI (nx s n)) (nI b) ca cm cc cp rf mate so la := fun m h ca cm => by
            unfold wp_X11_minute_b190
            rw [hand b _ hb0 (by omega)]
            exact hP f (by omega) ca cm m h
          unfold wp_X11_minute_b68
          rw [show (31 : Int32) = nI 31 from rfl, show (1 : Int32) = nI 1 from rfl, z_bit (by omega) (by omega), bI_1]
          refine br_f (nI_nle (by omega) (by omega)) (br_c (fun zb => hK s b hsN hbN _ _ _ ?_) (fun zb => hnext m (hskip (fun q => zb q.2.2.1)) _ _))
          rw [zbR]
          by_cases hk1 : K s b = true
          case neg =>
            rw [if_neg hk1]
            exact hnext m (hskip (fun q => hk1 (ed_1 q.2.1).2.2.2.1)) _ _
          rw [if_pos hk1, fa_or, ← mo_add hbs]
          have hedk : ed K n s b ≠ 0 := by rw [ed_eq ⟨hvk, hb0, hbs⟩, if_pos hk1]; omega
          have h101 := mo_101 (K := K) (w := w) (n := n) (a := false) (2 ^ (2 * n) - 1 - (s + b)) (s + b) (by omega)
          obtain ⟨r1, r2⟩ := ref_nt (w := w) hsN hedk hsn
          have hl102 : lt_ (mo1 K w n false (s + b)) (tl w b 12) ≤ 102 := by
            unfold lt_
            split
            · omega
            · split <;> omega
          have he1 : 1 ≤ min 101 (ee (sn K w n s) (tl w b 12)) := by
            unfold ee
            split
            · omega
            · split <;> omega
          have hNP : NP K w n x s b ↔ nOk (sn K w n s) (mo1 K w n true (s + b)) (tl w b 12) := ⟨fun q => q.2.2.2, fun q => ⟨hsN, hedk, zb, q⟩⟩
          refine s_earliest hn h0 hg hbN (by omega) (hso s hsN) hsn (s_latest hn h0 hg hbN (by omega) (hla _ hkb) h101 ?_)
          have hpick := s_pick (Q := Q) (K68 := wp_X11_minute_b68 Q cq g (wp_X11_minute_b31 Q cq g (d + 1)) f) (x1 := nI x) (x4 := nI s) (x5 := nI (nx s n)) (x6 := nI b) (ca := nI s) (cm := nI b) (cc := cc) (cp := cp) (rf := rf) (mate := mate) (so := so) (la := la) (m := m) hw0 (Nat.min_le_left 101 _) he1 hl.1 hl102 (hnext _ ?_ _ _)
          · rw [show ((nI w0 = 0) = (w0 = 0)) from propext (nI_eq (b := 0) (by omega) (by omega))]
            by_cases w1 : w0 = 0
            · rw [if_pos w1] at hpick; exact br_t w1 hpick
            · rw [if_neg w1] at hpick; exact br_f w1 hpick
          · by_cases hok : nOk (sn K w n s) (mo1 K w n true (s + b)) (tl w b 12)
            · obtain ⟨e1, e2⟩ := r2 hok
              have hnp := hNP.mpr hok
              obtain ⟨-, -, k1, k2, k3⟩ := NP_ok hnp
              rw [if_pos (r1.mpr hok), e1, e2, Nat.add_sub_cancel]
              have hl2 := hl.2
              have hl1 := hl.1
              have hmem : ∀ s' c, (PS1 s ((b - 1) &&& nx s n) s' c ∧ NP K w n x s' c) ↔ (PS1 s b s' c ∧ NP K w n x s' c) ∨ (s' = s ∧ c = b) := by
                intro s' c
                constructor
                · rintro ⟨q, r⟩
                  rcases (hpr s' c r.2.1).mp q with q | q
                  · exact Or.inl ⟨q, r⟩
                  · exact Or.inr q
                · rintro (⟨q, r⟩ | ⟨rfl, rfl⟩)
                  · exact ⟨(hpr s' c r.2.1).mpr (Or.inl q), r⟩
                  · exact ⟨(hpr _ _ hedk).mpr (Or.inr ⟨rfl, rfl⟩), hnp⟩
              by_cases w1 : w0 = 0
              · rw [if_pos w1] at hl2 ⊢
                refine ⟨by split <;> omega, ?_⟩
                rw [if_pos w1]
                refine IZ_min (fun y ⟨s', c, q, r, t⟩ => by rw [t]; exact (NP_ok r).2.2.2.2) hl2 (fun y => ?_)
                constructor
                · rintro ⟨s', c, q, r, t⟩
                  rcases (hmem s' c).mp ⟨q, r⟩ with ⟨q, r⟩ | ⟨rfl, rfl⟩
                  · exact Or.inl ⟨s', c, q, r, t⟩
                  · exact Or.inr t
                · rintro (⟨s', c, q, r, t⟩ | t)
                  · obtain ⟨q, r⟩ := (hmem s' c).mpr (Or.inl ⟨q, r⟩)
                    exact ⟨s', c, q, r, t⟩
                  · obtain ⟨q, r⟩ := (hmem s b).mpr (Or.inr ⟨rfl, rfl⟩)
                    exact ⟨s, b, q, r, t⟩
              · rw [if_neg w1] at hl2 ⊢
                refine ⟨by omega, ?_⟩
                rw [if_neg w1]
                refine IX_max hl2 (fun y => ?_)
                constructor
                · rintro ⟨s', c, q, r, t⟩
                  rcases (hmem s' c).mp ⟨q, r⟩ with ⟨q, r⟩ | ⟨rfl, rfl⟩
                  · exact Or.inl ⟨s', c, q, r, t⟩
                  · exact Or.inr t
                · rintro (⟨s', c, q, r, t⟩ | t)
                  · obtain ⟨q, r⟩ := (hmem s' c).mpr (Or.inl ⟨q, r⟩)
                    exact ⟨s', c, q, r, t⟩
                  · obtain ⟨q, r⟩ := (hmem s b).mpr (Or.inr ⟨rfl, rfl⟩)
                    exact ⟨s, b, q, r, t⟩
            · rw [if_neg (fun q => hok (r1.mp q))]
              exact hskip (fun q => hok (hNP.mp q))
      unfold wp_X11_minute_b31 wp_X11_minute_b62
      rw [e_full h0 hn]
      refine br_f (nI_ge (by omega) (by omega)) ⟨vi (by omega) (by omega), ?_⟩
      rw [nI_clamp (by omega), hso s hsN, show (100 : Int32) = mI 101 from rfl, mI_le (by omega) (by omega)]
      refine br_c (fun z => ⟨1, ?_⟩) (fun z => ?_)
      · unfold wp_X11_minute_b68 wp_X11_minute_b202
        rw [nI_1]
        refine br_t (by decide) (ih (s + 1) (by omega) ca cm m (BV_c hbv (fun s' c he => ?_)))
        have h2 := sb_le (ed_1 he.2.1).2.2.1
        have h3 := nx_lt s' n
        have h5 := (NP_ok he).1
        unfold PS1
        constructor
        · rintro (q | ⟨q, r⟩)
          · by_cases e : s' = s
            · rw [e] at h5; omega
            · exact Or.inl (by omega)
          · omega
        · rintro (q | ⟨q, r⟩)
          · exact Or.inl (by omega)
          · omega
      · refine s_next h0 hn (by omega) ⟨nx s n + 1, inner (by omega) (nx s n) (sb_self _) _ (by omega) ca cm m (BV_c hbv (fun s' c he => ?_))⟩
        have h2 := sb_le (ed_1 he.2.1).2.2.1
        have h3 := nx_lt s' n
        unfold PS1
        constructor
        · rintro (q | ⟨rfl, q⟩)
          · exact Or.inl q
          · omega
        · rintro (q | ⟨rfl, q⟩)
          · exact Or.inl q
          · omega
  refine ⟨_, main (2 ^ (2 * n) - 1) 0 (by omega) ca cm 0 ⟨Nat.zero_le _, ?_⟩⟩
  have hno : ∀ s' c, PS1 0 (2 ^ (2 * n)) s' c → ¬ NP K w n x s' c := by
    intro s' c q r
    have h2 := sb_le (ed_1 r.2.1).2.2.1
    have h3 := nx_lt s' n
    unfold PS1 at q
    omega
  by_cases w1 : w0 = 0
  · rw [if_pos w1]
    exact Or.inl ⟨rfl, fun y ⟨s', c, q, r, _⟩ => hno s' c q r⟩
  · rw [if_neg w1]
    exact ⟨fun y ⟨s', c, q, r, _⟩ => absurd r (hno s' c q), fun z => absurd z (Nat.lt_irrefl 0)⟩
