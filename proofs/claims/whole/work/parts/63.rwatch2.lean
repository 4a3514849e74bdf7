/-! the reference's minutes: on, and back -/
theorem sb_more {b c m : Nat} (hb0 : b ≠ 0) (hb : sb b m = true) (hc : sb c m = true) : ((b - 1) &&& m) < c ↔ b < c ∨ c = b := by
  have hle : ((b - 1) &&& m) ≤ b - 1 := Nat.and_le_left
  constructor
  · intro h
    rcases Nat.lt_trichotomy b c with q | q | q
    · exact Or.inl q
    · exact Or.inr q.symm
    · have := sb_next b c m hc hb q; omega
  · rintro (h | h) <;> omega
theorem IM_big {P P' : Nat → Prop} {m : Nat} (h : IM P m) (h1 : ∀ y, P y → P' y) (h2 : ∀ y, P' y → P y ∨ 101 ≤ y) : IM P' m := by
  refine ⟨h.1, fun x hx => ?_, fun hm => h1 _ (h.2.2 hm)⟩
  rcases h2 x hx with q | q
  · exact h.2.1 x q
  · have := h.1; omega
/-- steps from sets below s, and from s by parts above b -/
def PS1 (s b s' c : Nat) : Prop := s' < s ∨ (s' = s ∧ b < c)
def SV (K : Nat → Nat → Bool) (w : Nat → Nat) (n s b : Nat) (so : Nat → Int32) : Prop := ∀ v, v < 2 ^ (2 * n) → ∃ m, so v = mI m ∧ m ≤ 101 ∧ IM (fun x => (v = 0 ∧ x = 0) ∨ ∃ s' c, PS1 s b s' c ∧ s' + c = v ∧ ed K n s' c ≠ 0 ∧ x = ee (sn K w n s') (tl w c 12)) m
theorem SV_c {K : Nat → Nat → Bool} {w : Nat → Nat} {n s b s1 b1 : Nat} {so : Nat → Int32} (h : SV K w n s b so) (hp : ∀ s' c, ed K n s' c ≠ 0 → (PS1 s1 b1 s' c ↔ PS1 s b s' c)) : SV K w n s1 b1 so := by
  intro v hv
  obtain ⟨m, a, b', d⟩ := h v hv
  refine ⟨m, a, b', IM_c (fun y => ?_) d⟩
  constructor
  · rintro (q | ⟨s', c, q, r, t, u⟩)
    · exact Or.inl q
    · exact Or.inr ⟨s', c, (hp s' c t).mp q, r, t, u⟩
  · rintro (q | ⟨s', c, q, r, t, u⟩)
    · exact Or.inl q
    · exact Or.inr ⟨s', c, (hp s' c t).mpr q, r, t, u⟩
theorem SV_at {K : Nat → Nat → Bool} {w : Nat → Nat} {n s b : Nat} {so : Nat → Int32} (h : SV K w n s b so) {v : Nat} (hv : v < 2 ^ (2 * n)) (hs : v ≤ s) : so v = mI (sn K w n v) := by
  obtain ⟨m, a, b', d⟩ := h v hv
  rw [a]
  congr 1
  by_cases z : v = 0
  · subst z
    have := d.2.1 0 (Or.inl ⟨rfl, rfl⟩)
    rw [sn_0]; omega
  · refine IM_u d (sn_IM z) (fun x hx hx' => ?_) (fun x hx hx' => ?_)
    · rcases hx' with ⟨q, -⟩ | ⟨s', c, q, r, t, u⟩
      · exact absurd q z
      · have := (ed_1 t).2.1
        exact ⟨s', by omega, by rw [show v - s' = c by omega]; exact t, by rw [show v - s' = c by omega]; exact u⟩
    · obtain ⟨s', q, t, u⟩ := hx'
      exact Or.inr ⟨s', v - s', Or.inl (by omega), by omega, t, u⟩
/-- steps from sets above s, and from s by parts above b -/
def PL1 (s b v c : Nat) : Prop := s < v ∨ (v = s ∧ b < c)
def LV (K : Nat → Nat → Bool) (w : Nat → Nat) (n s b : Nat) (la : Nat → Int32) : Prop := la (2 ^ (2 * n) - 1) = lI 101 ∧ ∀ v, v < 2 ^ (2 * n) - 1 → ∃ m, la v = lI m ∧ m ≤ 101 ∧ IX (fun x => sn K w n v < 101 ∧ ∃ c, PL1 s b v c ∧ ed K n v c ≠ 0 ∧ x = hh (mo1 K w n false (v + c)) (tl w c 12)) m
theorem LV_c {K : Nat → Nat → Bool} {w : Nat → Nat} {n s b s1 b1 : Nat} {la : Nat → Int32} (h : LV K w n s b la) (hp : ∀ v c, sn K w n v < 101 → ed K n v c ≠ 0 → (PL1 s1 b1 v c ↔ PL1 s b v c)) : LV K w n s1 b1 la := by
  refine ⟨h.1, fun v hv => ?_⟩
  obtain ⟨m, a, b', d⟩ := h.2 v hv
  refine ⟨m, a, b', IX_c (fun y => ?_) d⟩
  constructor
  · rintro ⟨z, c, q, r, t⟩; exact ⟨z, c, (hp v c z r).mp q, r, t⟩
  · rintro ⟨z, c, q, r, t⟩; exact ⟨z, c, (hp v c z r).mpr q, r, t⟩
theorem LV_at {K : Nat → Nat → Bool} {w : Nat → Nat} {n s b : Nat} {la : Nat → Int32} (h : LV K w n s b la) {v : Nat} (hv : v < 2 ^ (2 * n)) (hs : s < v) : la v = lI (mo1 K w n false v) := by
  by_cases z : v = 2 ^ (2 * n) - 1
  · rw [z, mo1_full]; exact h.1
  · obtain ⟨m, a, b', d⟩ := h.2 v (by omega)
    rw [a]
    congr 1
    by_cases q : sn K w n v < 101
    · refine IX_u d (mo1_IX (a := false) hv z (by rw [decide_eq_true q]; rfl)) (fun x hx hx' => ?_) (fun x hx hx' => ?_)
      · obtain ⟨-, c, r, t, u⟩ := hx'
        exact ⟨c, Nat.pos_of_ne_zero (ed_1 t).2.1, by have := ed_E v c hv t; omega, t, u⟩
      · obtain ⟨c, -, -, t, u⟩ := hx'
        exact ⟨q, c, Or.inl hs, t, u⟩
    · rw [mo1_un z q]
      rcases Nat.eq_zero_or_pos m with r | r
      · exact r
      · exact absurd (d.2 r).1 q
theorem sn_vl {K : Nat → Nat → Bool} {w : Nat → Nat} {n v : Nat} (hn : n < 7) (hv : v < 2 ^ (2 * n)) (h : sn K w n v < 101) : vl v = true := by
  by_cases z : v = 0
  · subst z; decide
  · obtain ⟨s, h1, h2, -⟩ := (sn_IM z).2.2 h
    obtain ⟨e1, e2, e3, e4, -⟩ := ed_1 h2
    have := mo_vl hn (by omega : s < 2 ^ (2 * n)) e1 e3
    rw [show s + (v - s) = v by omega] at this
    exact this
theorem s_minutesIn {g mate : Nat → Int32} {w : Nat → Nat} {n : Nat} {K : Nat → Nat → Bool} {ca cm cc cp cq : Int32} {so la : Nat → Int32} {Q : Int32 → Int32 → Int32 → Int32 → (Nat → Int32) → (Nat → Int32) → (Nat → Int32) → Prop} (hn : n < 7) (h0 : g 0 = nI n) (hK : MV (2 ^ (2 * n)) K cc cp cq g mate) (hg : ∀ e, e < 12 → g (46 + e) = mI (w e) ∧ w e ≤ 100)
    (hQ : ∀ (ca cm : Int32) (so la : Nat → Int32), (∀ v, v < 2 ^ (2 * n) → so v = mI (sn K w n v)) → (∀ v, v < 2 ^ (2 * n) → la v = lI (mo1 K w n false v)) → Q ca cm cc cp mate so la) : ∃ k, wp_X11_minutes_b6 Q cq g k (0 : Int32) ca cm cc cp mate so la := by
  have h4 := p4_le hn
  have hN1 : 1 ≤ 2 ^ (2 * n) := Nat.two_pow_pos _
  have hw : ∀ e, e < 12 → w e ≤ 100 := fun e he => (hg e he).2
  have hand : ∀ b m : Nat, b ≠ 0 → b < 2 ^ 31 → ((nI b - 1) &&& nI m) = nI ((b - 1) &&& m) := fun b m hb hb2 => by rw [show (1 : Int32) = nI 1 from rfl, pk_sub (by omega), fa_and]
  -- back
  have B : ∀ (so : Nat → Int32), (∀ v, v < 2 ^ (2 * n) → so v = mI (sn K w n v)) → ∀ (k : Nat), k < 2 ^ (2 * n) → ∀ (ca cm : Int32) (la : Nat → Int32), LV K w n k 0 la → wp_X11_minutes_b167 Q cq g (k + 1) (nI k + (-1)) ca cm cc cp mate so la := by
    intro so hso k
    induction k with
    | zero =>
      intro hk ca cm la hl
      unfold wp_X11_minutes_b167
      refine br_t (by decide) (hQ ca cm so la hso (fun v hv => ?_))
      by_cases z : v = 0
      · subst z
        have hl' : LV K w n 0 0 la := hl
        by_cases zf : 0 = 2 ^ (2 * n) - 1
        · rw [show mo1 K w n false 0 = 101 by rw [zf]; exact mo1_full]
          have := hl.1
          rw [← zf] at this; exact this
        · obtain ⟨m, a, b', d⟩ := hl.2 0 (by omega)
          rw [a]
          congr 1
          have q : sn K w n 0 < 101 := by rw [sn_0]; omega
          refine IX_u d (mo1_IX (a := false) hv zf (by rw [decide_eq_true q]; rfl)) (fun x hx hx' => ?_) (fun x hx hx' => ?_)
          · obtain ⟨-, c, r, t, u⟩ := hx'
            exact ⟨c, Nat.pos_of_ne_zero (ed_1 t).2.1, by have := ed_E 0 c hv t; omega, t, u⟩
          · obtain ⟨c, c0, -, t, u⟩ := hx'
            exact ⟨q, c, Or.inr ⟨rfl, c0⟩, t, u⟩
      · exact LV_at hl hv (by omega)
    | succ k ih =>
      intro hk ca cm la hl
      have hkf : k ≠ 2 ^ (2 * n) - 1 := by omega
      -- to the next set
      have inner : sn K w n k < 101 → ∀ by_, sb by_ (nx k n) = true → ∀ (f : Nat), by_ < f → ∀ (ca cm : Int32) (la : Nat → Int32), LV K w n k by_ la → wp_X11_minutes_b194 Q cq g (wp_X11_minutes_b167 Q cq g (k + 1)) f (nI k) (nI (nx k n)) (nI by_) ca cm cc cp mate so la := by
        intro hsn
        refine sb_ind (m := nx k n) (P := fun by_ => ∀ (f : Nat), by_ < f → ∀ (ca cm : Int32) (la : Nat → Int32), LV K w n k by_ la → wp_X11_minutes_b194 Q cq g (wp_X11_minutes_b167 Q cq g (k + 1)) f (nI k) (nI (nx k n)) (nI by_) ca cm cc cp mate so la) ?_ ?_
        · intro f hf ca cm la hl
          obtain ⟨f, rfl⟩ : ∃ q, f = q + 1 := ⟨f - 1, by omega⟩
          unfold wp_X11_minutes_b194 wp_X11_minutes_b256
          exact br_t (by decide) (ih (by omega) ca cm la hl)
        · intro b hb0 hbs hP f hf ca cm la hl
          obtain ⟨f, rfl⟩ : ∃ q, f = q + 1 := ⟨f - 1, by omega⟩
          have hbN := mo_lt hbs
          have hkb := mo_N (by omega : k < 2 ^ (2 * n)) hbs
          have hand1 : ((b - 1) &&& nx k n) ≤ b - 1 := Nat.and_le_left
          unfold wp_X11_minutes_b194 wp_X11_minutes_b246 wp_X11_minutes_b247
          rw [hand b _ hb0 (by omega)]
          refine br_f (nI_nle (by omega) (by omega)) (hK k b (by omega) hbN _ _ _ ?_)
          rw [zbR]
          have hnext : ∀ la' : Nat → Int32, LV K w n k ((b - 1) &&& nx k n) la' → ∀ ca cm, wp_X11_minutes_b194 Q cq g (wp_X11_minutes_b167 Q cq g (k + 1)) f (nI k) (nI (nx k n)) (nI ((b - 1) &&& nx k n)) ca cm cc cp mate so la' := fun la' h ca cm => hP f (by omega) ca cm la' h
          have hpr : ∀ v c, ed K n v c ≠ 0 → (PL1 k ((b - 1) &&& nx k n) v c ↔ PL1 k b v c ∨ (v = k ∧ c = b)) := by
            intro v c he
            unfold PL1
            constructor
            · rintro (q | ⟨rfl, q⟩)
              · exact Or.inl (Or.inl q)
              · rcases (sb_more hb0 hbs (ed_1 he).2.2.1).mp q with r | r
                · exact Or.inl (Or.inr ⟨rfl, r⟩)
                · exact Or.inr ⟨rfl, r⟩
            · rintro ((q | ⟨rfl, q⟩) | ⟨rfl, q⟩)
              · exact Or.inl q
              · exact Or.inr ⟨rfl, (sb_more hb0 hbs (ed_1 he).2.2.1).mpr (Or.inl q)⟩
              · exact Or.inr ⟨rfl, (sb_more hb0 hbs (ed_1 he).2.2.1).mpr (Or.inr q)⟩
          by_cases hk1 : K k b = true
          case neg =>
            rw [if_neg hk1]
            refine hnext la (LV_c hl (fun v c _ he => ?_)) _ _
            rw [hpr v c he]
            refine ⟨fun q => ?_, Or.inl⟩
            rcases q with q | ⟨rfl, rfl⟩
            · exact q
            · exact absurd (ed_1 he).2.2.2.1 hk1
          rw [if_pos hk1, fa_or, ← mo_add hbs]
          have hlat := LV_at hl hkb (by omega)
          have h101 := mo_101 (K := K) (w := w) (n := n) (a := false) (2 ^ (2 * n) - 1 - (k + b)) (k + b) (by omega)
          refine s_latest hn h0 hg hbN (by omega) hlat h101 ⟨vi (by omega) (by omega), ?_⟩
          obtain ⟨m, ma, mb, md⟩ := hl.2 k (by omega)
          have hvk : vl k = true := sn_vl hn (by omega) hsn
          have hedk : ed K n k b ≠ 0 := by rw [ed_eq ⟨hvk, hb0, hbs⟩, if_pos hk1]; omega
          have hhl := hh_le (a := mo1 K w n false (k + b)) (t := tl w b 12)
          have hh1 : hh (mo1 K w n false (k + b)) (tl w b 12) = lt_ (mo1 K w n false (k + b)) (tl w b 12) - 1 := by
            unfold hh lt_
            split
            · rfl
            · split <;> rfl
          have hnew : ∀ la' : Nat → Int32, (∀ v, v ≠ k → la' v = la v) → la' k = lI (max m (hh (mo1 K w n false (k + b)) (tl w b 12))) → LV K w n k ((b - 1) &&& nx k n) la' := by
            intro la' e1 e2
            refine ⟨by rw [e1 _ (fun q => hkf q.symm)]; exact hl.1, fun v hv => ?_⟩
            by_cases z : v = k
            · subst z
              refine ⟨_, e2, by omega, IX_max md (fun y => ?_)⟩
              constructor
              · rintro ⟨q, c, r, t, u⟩
                rcases (hpr v c t).mp r with r | ⟨-, rfl⟩
                · exact Or.inl ⟨q, c, r, t, u⟩
                · exact Or.inr u
              · rintro (⟨q, c, r, t, u⟩ | u)
                · exact ⟨q, c, (hpr v c t).mpr (Or.inl r), t, u⟩
                · exact ⟨hsn, b, (hpr v b hedk).mpr (Or.inr ⟨rfl, rfl⟩), hedk, u⟩
            · obtain ⟨m', a, b', d⟩ := hl.2 v hv
              refine ⟨m', by rw [e1 v z]; exact a, b', IX_c (fun y => ?_) d⟩
              constructor
              · rintro ⟨q, c, r, t, u⟩
                rcases (hpr v c t).mp r with r | ⟨rfl, -⟩
                · exact ⟨q, c, r, t, u⟩
                · exact absurd rfl z
              · rintro ⟨q, c, r, t, u⟩
                exact ⟨q, c, (hpr v c t).mpr (Or.inl r), t, u⟩
          have h102 : lt_ (mo1 K w n false (k + b)) (tl w b 12) ≤ 102 := by
            unfold lt_
            split
            · omega
            · split <;> omega
          rw [nI_clamp (by omega), ma]
          rw [hh1] at hnew
          generalize lt_ (mo1 K w n false (k + b)) (tl w b 12) = l at *
          have hsub : (lI l - 1).toInt = (l : Int) - 3 := by
            cases l with
            | zero => rfl
            | succ l =>
              rw [lI_mI]
              cases l with
              | zero => rfl
              | succ l => rw [mI_m, mI_t (by omega)]; omega
          have hle : (lI l - 1 ≤ lI m) ↔ l ≤ m + 1 := by
            rw [Int32.le_iff_toInt_le, hsub, lI_t (by omega)]; omega
          rw [hle]
          refine br_c (fun z => ⟨vi (by omega) (by omega), vi (by omega) (by omega), hnext (upd la k (lI m)) (hnew _ (fun v hv => pk_un hv) ?_) _ _⟩) (fun z => ⟨vi (by omega) (by omega), hnext (upd la k (lI l - 1)) (hnew _ (fun v hv => pk_un hv) ?_) _ _⟩)
          · rw [pk_us, Nat.max_eq_left (by omega)]
          · rw [pk_us, Nat.max_eq_right (by omega)]
            obtain ⟨l, rfl⟩ : ∃ q, l = q + 2 := ⟨l - 2, by omega⟩
            rw [lI_mI, mI_m, show l + 2 - 1 = l + 1 from rfl, lI_mI]
      unfold wp_X11_minutes_b167 wp_X11_minutes_b191
      rw [pk_m1, nI_clamp (by omega), hso k (by omega), show (100 : Int32) = mI 101 from rfl, mI_le (by omega) (by have := sn_le (K := K) (w := w) (n := n) (v := k); omega)]
      refine br_f (nI_pos (by omega)) ⟨vi (by omega) (by omega), br_c (fun z => ?_) (fun z => ?_)⟩
      · refine ⟨1, ?_⟩
        unfold wp_X11_minutes_b194 wp_X11_minutes_b256
        refine br_t (by decide) (ih (by omega) ca cm la (LV_c hl (fun v c hv he => ?_)))
        unfold PL1
        have := (ed_1 he).2.1
        constructor
        · rintro (q | ⟨q, -⟩)
          · rcases Nat.lt_or_ge (k + 1) v with r | r
            · exact Or.inl r
            · exact Or.inr ⟨by omega, by omega⟩
          · rw [q] at hv; omega
        · rintro (q | ⟨q, -⟩)
          · exact Or.inl (by omega)
          · exact Or.inl (by omega)
      · refine s_next h0 hn (by omega) ⟨nx k n + 1, inner (by omega) (nx k n) (sb_self _) _ (by omega) ca cm la (LV_c hl (fun v c hv he => ?_))⟩
        unfold PL1
        have := (ed_1 he).2.1
        constructor
        · rintro (q | ⟨q, r⟩)
          · rcases Nat.lt_or_ge (k + 1) v with r | r
            · exact Or.inl r
            · exact Or.inr ⟨by omega, by omega⟩
          · rw [q] at he
            have := sb_le (ed_1 he).2.2.1
            omega
        · rintro (q | ⟨q, -⟩)
          · exact Or.inl (by omega)
          · exact Or.inl (by omega)
  -- on
  have O : ∀ (la : Nat → Int32), (la (2 ^ (2 * n) - 1) = lI 101 ∧ ∀ v, v < 2 ^ (2 * n) - 1 → la v = lI 0) → ∀ (d s : Nat), s + d = 2 ^ (2 * n) - 1 → ∀ (ca cm : Int32) (so : Nat → Int32), (∀ b, 2 ^ (2 * n) ≤ b → SV K w n s b so) → wp_X11_minutes_b59 Q cq g (d + 1) (nI s) ca cm cc cp mate so la := by
    intro la hla d
    induction d with
    | zero =>
      intro s hs ca cm so hsv
      obtain rfl : s = 2 ^ (2 * n) - 1 := by omega
      unfold wp_X11_minutes_b59 wp_X11_minutes_b160
      rw [e_full h0 hn]
      refine br_t (nI_le (by omega) (by omega)) ?_
      rw [e_full h0 hn]
      refine ⟨2 ^ (2 * n) - 1 + 1, ?_⟩
      rw [Int32.sub_eq_add_neg]
      refine B so (fun v hv => SV_at (hsv _ (Nat.le_refl _)) hv (by omega)) (2 ^ (2 * n) - 1) (by omega) ca cm la ⟨hla.1, fun v hv => ⟨0, hla.2 v hv, Nat.zero_le _, fun x hx => ?_, fun z => absurd z (Nat.lt_irrefl 0)⟩⟩
      obtain ⟨-, c, q, -⟩ := hx
      unfold PL1 at q
      omega
    | succ d ih =>
      intro s hs ca cm so hsv
      have hsN : s < 2 ^ (2 * n) := by omega
      have hsv0 := hsv _ (Nat.le_refl _)
      have hss := SV_at hsv0 hsN (Nat.le_refl s)
      have hsl := sn_le (K := K) (w := w) (n := n) (v := s)
      have inner : sn K w n s < 101 → ∀ by_, sb by_ (nx s n) = true → ∀ (f : Nat), by_ < f → ∀ (ca cm : Int32) (so : Nat → Int32), SV K w n s by_ so → wp_X11_minutes_b90 Q cq g (wp_X11_minutes_b59 Q cq g (d + 1)) f (nI s) (nI (nx s n)) (nI by_) ca cm cc cp mate so la := by
        intro hsn
        have hvk : vl s = true := sn_vl hn hsN hsn
        refine sb_ind (m := nx s n) (P := fun by_ => ∀ (f : Nat), by_ < f → ∀ (ca cm : Int32) (so : Nat → Int32), SV K w n s by_ so → wp_X11_minutes_b90 Q cq g (wp_X11_minutes_b59 Q cq g (d + 1)) f (nI s) (nI (nx s n)) (nI by_) ca cm cc cp mate so la) ?_ ?_
        · intro f hf ca cm so hl
          obtain ⟨f, rfl⟩ : ∃ q, f = q + 1 := ⟨f - 1, by omega⟩
          unfold wp_X11_minutes_b90 wp_X11_minutes_b154
          rw [nI_1]
          refine br_t (by decide) (ih (s + 1) (by omega) ca cm so (fun b hb => SV_c hl (fun s' c he => ?_)))
          have h1 := (ed_1 he).2.1
          have h2 := sb_le (ed_1 he).2.2.1
          have h3 := nx_lt s' n
          unfold PS1
          constructor
          · rintro (q | ⟨q, r⟩)
            · rcases Nat.lt_or_ge s' s with z | z
              · exact Or.inl z
              · exact Or.inr ⟨by omega, by omega⟩
            · omega
          · rintro (q | ⟨q, r⟩)
            · exact Or.inl (by omega)
            · exact Or.inl (by omega)
        · intro b hb0 hbs hP f hf ca cm so hl
          obtain ⟨f, rfl⟩ : ∃ q, f = q + 1 := ⟨f - 1, by omega⟩
          have hbN := mo_lt hbs
          have hkb := mo_N hsN hbs
          have hand1 : ((b - 1) &&& nx s n) ≤ b - 1 := Nat.and_le_left
          unfold wp_X11_minutes_b90 wp_X11_minutes_b144 wp_X11_minutes_b145
          rw [hand b _ hb0 (by omega)]
          refine br_f (nI_nle (by omega) (by omega)) (hK s b hsN hbN _ _ _ ?_)
          rw [zbR]
          have hnext : ∀ so' : Nat → Int32, SV K w n s ((b - 1) &&& nx s n) so' → ∀ ca cm, wp_X11_minutes_b90 Q cq g (wp_X11_minutes_b59 Q cq g (d + 1)) f (nI s) (nI (nx s n)) (nI ((b - 1) &&& nx s n)) ca cm cc cp mate so' la := fun so' h ca cm => hP f (by omega) ca cm so' h
          have hpr : ∀ s' c, ed K n s' c ≠ 0 → (PS1 s ((b - 1) &&& nx s n) s' c ↔ PS1 s b s' c ∨ (s' = s ∧ c = b)) := by
            intro v c he
            unfold PS1
            constructor
            · rintro (q | ⟨rfl, q⟩)
              · exact Or.inl (Or.inl q)
              · rcases (sb_more hb0 hbs (ed_1 he).2.2.1).mp q with r | r
                · exact Or.inl (Or.inr ⟨rfl, r⟩)
                · exact Or.inr ⟨rfl, r⟩
            · rintro ((q | ⟨rfl, q⟩) | ⟨rfl, q⟩)
              · exact Or.inl q
              · exact Or.inr ⟨rfl, (sb_more hb0 hbs (ed_1 he).2.2.1).mpr (Or.inl q)⟩
              · exact Or.inr ⟨rfl, (sb_more hb0 hbs (ed_1 he).2.2.1).mpr (Or.inr q)⟩
          by_cases hk1 : K s b = true
          case neg =>
            rw [if_neg hk1]
            refine hnext so (SV_c hl (fun v c he => ?_)) _ _
            rw [hpr v c he]
            refine ⟨fun q => ?_, Or.inl⟩
            rcases q with q | ⟨rfl, rfl⟩
            · exact q
            · exact absurd (ed_1 he).2.2.2.1 hk1
          rw [if_pos hk1, fa_or, ← mo_add hbs]
          have hedk : ed K n s b ≠ 0 := by rw [ed_eq ⟨hvk, hb0, hbs⟩, if_pos hk1]; omega
          refine s_earliest hn h0 hg hbN (by omega) (SV_at hl hsN (Nat.le_refl s)) hsn ⟨vi (by omega) (by omega), ?_⟩
          obtain ⟨m, ma, mb, md⟩ := hl (s + b) hkb
          have hnew : ∀ so' : Nat → Int32, (∀ v, v ≠ s + b → so' v = so v) → so' (s + b) = mI (min m (ee (sn K w n s) (tl w b 12))) → SV K w n s ((b - 1) &&& nx s n) so' := by
            intro so' e1 e2 v hv
            by_cases z : v = s + b
            · subst z
              refine ⟨_, e2, by omega, IM_min md (fun y => ?_)⟩
              constructor
              · rintro (q | ⟨s', c, q, r, t, u⟩)
                · exact Or.inl (Or.inl q)
                · rcases (hpr s' c t).mp q with q | ⟨rfl, rfl⟩
                  · exact Or.inl (Or.inr ⟨s', c, q, r, t, u⟩)
                  · exact Or.inr u
              · rintro ((q | ⟨s', c, q, r, t, u⟩) | u)
                · exact Or.inl q
                · exact Or.inr ⟨s', c, (hpr s' c t).mpr (Or.inl q), r, t, u⟩
                · exact Or.inr ⟨s, b, (hpr s b hedk).mpr (Or.inr ⟨rfl, rfl⟩), rfl, hedk, u⟩
            · obtain ⟨m', a, b', d'⟩ := hl v hv
              refine ⟨m', by rw [e1 v z]; exact a, b', IM_c (fun y => ?_) d'⟩
              constructor
              · rintro (q | ⟨s', c, q, r, t, u⟩)
                · exact Or.inl q
                · rcases (hpr s' c t).mp q with q | ⟨rfl, rfl⟩
                  · exact Or.inr ⟨s', c, q, r, t, u⟩
                  · exact absurd r.symm z
              · rintro (q | ⟨s', c, q, r, t, u⟩)
                · exact Or.inl q
                · exact Or.inr ⟨s', c, (hpr s' c t).mpr (Or.inl q), r, t, u⟩
          rw [nI_clamp (by omega), ma]
          have ikb : vp_in (nI (s + b)) 4096 := vi (by omega) (by omega)
          generalize ee (sn K w n s) (tl w b 12) = x at *
          rw [mI_le (by omega) (by omega)]
          refine br_c (fun z => ⟨ikb, ikb, hnext (upd so (s + b) (mI m)) (hnew _ (fun v hv => pk_un hv) ?_) _ _⟩) (fun z => ⟨ikb, hnext (upd so (s + b) (mI (min 101 x))) (hnew _ (fun v hv => pk_un hv) ?_) _ _⟩)
          · rw [pk_us, Nat.min_eq_left (by omega)]
          · rw [pk_us]; congr 1; omega
      unfold wp_X11_minutes_b59 wp_X11_minutes_b87
      rw [e_full h0 hn]
      refine br_f (nI_ge (by omega) (by omega)) ⟨vi (by omega) (by omega), ?_⟩
      rw [nI_clamp (by omega), hss, show (100 : Int32) = mI 101 from rfl, mI_le (by omega) (by omega)]
      refine br_c (fun z => ⟨1, ?_⟩) (fun z => ?_)
      · unfold wp_X11_minutes_b90 wp_X11_minutes_b154
        rw [nI_1]
        refine br_t (by decide) (ih (s + 1) (by omega) ca cm so (fun b hb v hv => ?_))
        obtain ⟨m, a, b', d'⟩ := hsv0 v hv
        refine ⟨m, a, b', IM_big d' (fun y hy => ?_) (fun y hy => ?_)⟩
        · rcases hy with q | ⟨s', c, q, r, t, u⟩
          · exact Or.inl q
          · refine Or.inr ⟨s', c, ?_, r, t, u⟩
            unfold PS1 at q ⊢
            omega
        · rcases hy with q | ⟨s', c, q, r, t, u⟩
          · exact Or.inl (Or.inl q)
          · have h2 := sb_le (ed_1 t).2.2.1
            have h3 := nx_lt s' n
            unfold PS1 at q
            by_cases zz : s' < s
            · exact Or.inl (Or.inr ⟨s', c, Or.inl zz, r, t, u⟩)
            · obtain rfl : s' = s := by omega
              refine Or.inr ?_
              rw [u]
              rcases Nat.lt_or_ge (ee (sn K w n s') (tl w c 12)) 101 with q | q
              · have := ee_lt q; omega
              · exact q
      · refine s_next h0 hn (by omega) ⟨nx s n + 1, inner (by omega) (nx s n) (sb_self _) _ (by omega) ca cm so (SV_c hsv0 (fun s' c he => ?_))⟩
        have h2 := sb_le (ed_1 he).2.2.1
        have h3 := nx_lt s' n
        unfold PS1
        constructor
        · rintro (q | ⟨rfl, q⟩)
          · exact Or.inl q
          · omega
        · rintro (q | ⟨rfl, q⟩)
          · exact Or.inl q
          · omega
  -- laid
  have I : ∀ (d x : Nat) (so la : Nat → Int32), x + d = 2 ^ (2 * n) → (∀ v, v < x → so v = (if v = 0 then mI 0 else mI 101) ∧ la v = (if v = 2 ^ (2 * n) - 1 then lI 101 else lI 0)) → wp_X11_minutes_b6 Q cq g (d + 1) (nI x) ca cm cc cp mate so la := by
    intro d
    induction d with
    | zero =>
      intro x so la hx hz
      obtain rfl : x = 2 ^ (2 * n) := by omega
      unfold wp_X11_minutes_b6 wp_X11_minutes_b57
      rw [e_full h0 hn]
      refine br_t (nI_lt (by omega) (by omega)) ⟨2 ^ (2 * n) - 1 + 1, O la ⟨?_, fun v hv => ?_⟩ (2 ^ (2 * n) - 1) 0 (by omega) ca cm so (fun b hb v hv => ?_)⟩
      · rw [(hz _ (by omega)).2, if_pos rfl]
      · rw [(hz v (by omega)).2, if_neg (by omega)]
      · have hno : ∀ s' c, ed K n s' c ≠ 0 → ¬ PS1 0 b s' c := by
          intro s' c he q
          have h2 := sb_le (ed_1 he).2.2.1
          have h3 := nx_lt s' n
          unfold PS1 at q
          omega
        by_cases z : v = 0
        · refine ⟨0, by rw [(hz v hv).1, if_pos z], Nat.zero_le _, Nat.zero_le _, fun x _ => Nat.zero_le x, fun _ => Or.inl ⟨z, rfl⟩⟩
        · refine ⟨101, by rw [(hz v hv).1, if_neg z], Nat.le_refl _, Nat.le_refl _, fun x hx => ?_, fun q => absurd q (Nat.lt_irrefl 101)⟩
          rcases hx with ⟨q, -⟩ | ⟨s', c, q, r, t, u⟩
          · exact absurd q z
          · exact absurd q (hno s' c t)
    | succ d ih =>
      intro x so la hx hz
      have ix : vp_in (nI x) 4096 := vi (by omega) (by omega)
      have go : ∀ so' la' : Nat → Int32, so' = upd so x (if x = 0 then mI 0 else mI 101) → la' = upd la x (if x = 2 ^ (2 * n) - 1 then lI 101 else lI 0) → wp_X11_minutes_b6 Q cq g (d + 1) (nI (x + 1)) ca cm cc cp mate so' la' := by
        intro so' la' e1 e2
        refine ih (x + 1) so' la' (by omega) (fun v hv => ?_)
        rw [e1, e2]
        by_cases z : v = x
        · rw [z, pk_us, pk_us]; exact ⟨rfl, rfl⟩
        · rw [pk_un z, pk_un z]; exact hz v (by omega)
      unfold wp_X11_minutes_b6 wp_X11_minutes_b29 wp_X11_minutes_b50
      rw [e_full h0 hn]
      refine br_f (nI_nlt (by omega) (by omega)) ?_
      simp only [e_full h0 hn]
      rw [show (0 : Int32) = nI 0 from rfl, nI_eq (by omega) (by omega), nI_eq (by omega) (by omega), nI_clamp (by omega), nI_1]
      refine br_c (fun z => ⟨ix, br_c (fun z2 => ⟨ix, go _ _ ?_ ?_⟩) (fun z2 => ⟨ix, go _ _ ?_ ?_⟩)⟩) (fun z => ⟨ix, br_c (fun z2 => ⟨ix, go _ _ ?_ ?_⟩) (fun z2 => ⟨ix, go _ _ ?_ ?_⟩)⟩)
      · rw [if_pos z]; rfl
      · rw [if_pos z2]; rfl
      · rw [if_pos z]; rfl
      · rw [if_neg z2]; rfl
      · rw [if_neg z]; rfl
      · rw [if_pos z2]; rfl
      · rw [if_neg z]; rfl
      · rw [if_neg z2]; rfl
  exact ⟨_, I (2 ^ (2 * n)) 0 so la (by omega) (fun v hv => absurd hv (Nat.not_lt_zero v))⟩
