/-! what is asked of the reference's pairs -/
theorem s_rsureLoop {n : Nat} {K : Nat → Nat → Bool} {g : Nat → Int32} {bf al to on : Nat → Int64} {mate rf : Nat → Int32} {ca cm cc cp : Int32} {Q : Int32 → Int32 → Int32 → Int32 → Int32 → (Nat → Int32) → (Nat → Int32) → (Nat → Int64) → (Nat → Int64) → (Nat → Int64) → (Nat → Int64) → Prop} (h0 : g 0 = nI n) (hn : n < 7) (hBD : BD n) (h : PB n K bf al) (hQ : Q (nI (sNo n K (2 * n))) ca cm cc cp rf mate on to bf al) : ∃ k, wp_X11_sure_b21 Q g k (0 : Int32) (0 : Int32) ca cm cc cp rf mate on to bf al := by
  have e0 : ((2 : Int32) * g (0 : Int32).toNatClampNeg) = nI (2 * n) := by
    rw [show (0 : Int32).toNatClampNeg = 0 from rfl, h0, zl 2, pk_mul]
  have i0 : vp_in (0 : Int32) 58 := (z_in (n := 0) (by omega)).mpr (by omega)
  have main : ∀ (d x : Nat), x + d = 2 * n → wp_X11_sure_b21 Q g (d + 1) (nI (sNo n K x)) (nI x) ca cm cc cp rf mate on to bf al := by
    intro d
    induction d with
    | zero =>
      intro x hx
      obtain rfl : x = 2 * n := by omega
      unfold wp_X11_sure_b21
      rw [e0]
      exact ⟨i0, br_t (nI_le (by omega) (by omega)) hQ⟩
    | succ d ih =>
      intro x hx
      have inner : ∀ (f y : Nat), y + f = 2 * n → x < y → wp_X11_sure_b37 Q g (wp_X11_sure_b21 Q g (d + 1)) (f + 1) (nI (sNo n K x + sIn n K x y)) (nI x) (nI y) ca cm cc cp rf mate on to bf al := by
        intro f
        induction f with
        | zero =>
          intro y hy hxy
          obtain rfl : y = 2 * n := by omega
          unfold wp_X11_sure_b37 wp_X11_sure_b72
          rw [e0]
          refine ⟨i0, br_t (nI_le (by omega) (by omega)) ?_⟩
          rw [nI_1]
          exact ih (x + 1) (by omega)
        | succ f ihf =>
          intro y hy hxy
          have ihf := ihf (y + 1) (by omega) (by omega)
          unfold wp_X11_sure_b37 wp_X11_sure_b64
          rw [e0]
          refine ⟨i0, br_f (nI_ge (by omega) (by omega)) (s_rSure hn hBD h (by omega) (by omega) ?_)⟩
          rw [nI_1, zl 0, bI_z, show (1 : Int32) = nI 1 from rfl, nI_add, nI_add]
          rw [sIn, sm] at ihf
          refine br_c (fun z => ?_) (fun z => ?_)
          · rw [if_neg (by rw [z]; simp)] at ihf; exact ihf
          · rw [if_pos ⟨hxy, by simpa using z⟩] at ihf; exact ihf
      unfold wp_X11_sure_b21
      rw [e0]
      refine ⟨i0, br_f (nI_ge (by omega) (by omega)) ⟨2 * n - (x + 1) + 1, ?_⟩⟩
      have := inner (2 * n - (x + 1)) (x + 1) (by omega) (by omega)
      rw [sIn_0] at this
      rw [show (nI x + (1 : Int32)) = nI (x + 1) from nI_add x 1]
      exact this
  exact ⟨_, main (2 * n) 0 (by omega)⟩
theorem s_raskLoop {n w : Nat} {K : Nat → Nat → Bool} {g : Nat → Int32} {bf al to on : Nat → Int64} {mate rf : Nat → Int32} {ca cm cc cp : Int32} {Q : Int64 → Int32 → Int32 → Int32 → Int32 → (Nat → Int32) → (Nat → Int32) → (Nat → Int64) → (Nat → Int64) → (Nat → Int64) → (Nat → Int64) → Prop} (h0 : g 0 = nI n) (hn : n < 7) (hBD : BD n) (h : PB n K bf al) (hw : w < 2) (hQ : Q (if w = 0 then qC (qAl n K (2 * n)) else qL (qAl n K (2 * n))) ca cm cc cp rf mate on to bf al) : ∃ k, wp_X11_ask_b43 Q g k (nI w) (0 : Int64) (-1 : Int64) (0 : Int32) ca cm cc cp rf mate on to bf al := by
  have e0 : ((2 : Int32) * g (0 : Int32).toNatClampNeg) = nI (2 * n) := by
    rw [show (0 : Int32).toNatClampNeg = 0 from rfl, h0, zl 2, pk_mul]
  have i0 : vp_in (0 : Int32) 58 := (z_in (n := 0) (by omega)).mpr (by omega)
  have okA : ∀ x, x ≤ 2 * n → qOk (qAl n K x) := by
    intro x
    induction x with
    | zero => intro _ q hq; cases hq
    | succ x ih =>
      intro hx
      have : ∀ y, y ≤ 2 * n → qOk (qIn n K x (qAl n K x) y) := by
        intro y
        induction y with
        | zero => intro _; exact ih (by omega)
        | succ y ihy => intro hy; exact qst_ok hBD hn (by omega) (by omega) (ihy (by omega))
      exact this _ (Nat.le_refl _)
  have okI : ∀ x y, x < 2 * n → y ≤ 2 * n → qOk (qIn n K x (qAl n K x) y) := by
    intro x y hx
    induction y with
    | zero => intro _; exact okA x (by omega)
    | succ y ihy => intro hy; exact qst_ok hBD hn (by omega) (by omega) (ihy (by omega))
  have gr : ∀ (a b : Nat) (P : Int64 → Prop), a < 2 ^ 63 → b < 2 ^ 63 → P (lN (max a b)) → wp_X11_greater (lN a) (lN b) P := by
    intro a b P ha hb hP
    unfold wp_X11_greater
    rw [zl 0, z_cmp2 ha hb]
    refine br_c (fun z => ?_) (fun z => ?_)
    · rw [Nat.max_eq_right z] at hP; exact hP
    · rw [Nat.max_eq_left (by omega)] at hP; exact hP
  have main : ∀ (d x : Nat), x + d = 2 * n → wp_X11_ask_b43 Q g (d + 1) (nI w) (qL0 (qAl n K x)) (qC (qAl n K x)) (nI x) ca cm cc cp rf mate on to bf al := by
    intro d
    induction d with
    | zero =>
      intro x hx
      obtain rfl : x = 2 * n := by omega
      unfold wp_X11_ask_b43 wp_X11_ask_b203 wp_X11_ask_b216
      rw [e0]
      refine ⟨i0, br_t (nI_le (by omega) (by omega)) ?_⟩
      have hok := okA (2 * n) (Nat.le_refl _)
      cases hs : qAl n K (2 * n) with
      | none =>
        rw [hs] at hQ
        refine br_t (by rw [show (qC none) = (-1 : Int64) from rfl, lg_0]) ?_
        by_cases z : w = 0
        · rw [if_pos z] at hQ; exact hQ
        · rw [if_neg z] at hQ; exact hQ
      | some q =>
        rw [hs] at hQ hok
        obtain ⟨k1, k2⟩ := hok q rfl
        refine br_f (by rw [show qC (some q) = lN q.1 from rfl, show (-1 : Int64) = -lN 1 from rfl, lg_m1 (by omega)]; decide) ?_
        rw [zl 0, nI_eq (by omega) (by omega)]
        refine br_c (fun z => ?_) (fun z => ?_)
        · rw [if_pos z] at hQ; exact hQ
        · rw [if_neg z] at hQ; exact hQ
    | succ d ih =>
      intro x hx
      have inner : ∀ (f y : Nat), y + f = 2 * n → x < y → wp_X11_ask_b62 Q g (wp_X11_ask_b43 Q g (d + 1)) (f + 1) (nI w) (qL0 (qIn n K x (qAl n K x) y)) (qC (qIn n K x (qAl n K x) y)) (nI x) (nI y) ca cm cc cp rf mate on to bf al := by
        intro f
        induction f with
        | zero =>
          intro y hy hxy
          obtain rfl : y = 2 * n := by omega
          unfold wp_X11_ask_b62 wp_X11_ask_b197
          rw [e0]
          refine ⟨i0, br_t (nI_le (by omega) (by omega)) ?_⟩
          rw [nI_1]
          exact ih (x + 1) (by omega)
        | succ f ihf =>
          intro y hy hxy
          have ihf := ihf (y + 1) (by omega) (by omega)
          have hok := okI x y (by omega) (by omega)
          have b1 := AH_lt (K := K) (x := x) (y := y) hBD (by omega)
          have b2 := AH_lt (K := K) (x := y) (y := x) hBD (by omega)
          have b3 := AL_lt (K := K) (x := x) (y := y) hBD (by omega)
          have hm : mxl n K x y < 2 ^ 63 := by unfold mxl; omega
          have i1 : vp_in (nI (12 * x + y)) 144 := (z_in (by omega)).mpr (by omega)
          have i2 : vp_in (nI (12 * y + x)) 144 := (z_in (by omega)).mpr (by omega)
          unfold wp_X11_ask_b62
          rw [e0]
          refine ⟨i0, br_f (nI_ge (by omega) (by omega)) ?_⟩
          rw [zl 12, pk_mul, pk_mul, nI_add, nI_add, nI_clamp (by omega), nI_clamp (by omega), (h x y (by omega) (by omega)).1, (h x y (by omega) (by omega)).2, (h y x (by omega) (by omega)).1]
          refine ⟨i1, i1, i2, gr _ _ _ (by omega) (by omega) (gr _ _ _ (by omega) (by omega) (s_rSure hn hBD h (by omega) (by omega) ?_))⟩
          unfold wp_X11_ask_b149 wp_X11_ask_b153 wp_X11_ask_b154 wp_X11_ask_b177 wp_X11_ask_b190
          change ((bI (sur n K x y) = 0 → _) ∧ (¬ bI (sur n K x y) = 0 → _))
          rw [qIn] at ihf
          unfold qst at ihf
          have e1 : ((lN 100 * (nI x).toInt64) + (nI y).toInt64) = lN (100 * x + y) := by rw [toL (by omega), toL (by omega), show lN 100 * lN x = lN (100 * x) from (Int64.ofNat_mul 100 x).symm, lN_add]
          have ef : ¬ ((1 : Int32) = 0) := by decide
          have sel : ∀ P : Prop, wp_X11_ask_b62 Q g (wp_X11_ask_b43 Q g (d + 1)) (f + 1) (nI w) (lN (mxl n K x y)) (lN (100 * x + y)) (nI x) (nI (y + 1)) ca cm cc cp rf mate on to bf al → True := fun _ _ => trivial
          rw [zl 0, bI_z, nI_1, zL 100, e1]
          refine br_c (fun z => ?_) (fun z => ?_)
          · rw [if_pos ⟨hxy, z⟩] at ihf
            cases hs : qIn n K x (qAl n K x) y with
            | none =>
              rw [hs] at ihf
              refine br_t (by rw [show (qC none) = (-1 : Int64) from rfl, lg_0]; rfl) ?_
              exact br_f (by decide) (br_f (by decide) ihf)
            | some q =>
              rw [hs] at ihf
              obtain ⟨k1, k2⟩ := hok q hs
              refine br_f (by rw [show qC (some q) = lN q.1 from rfl, show (-1 : Int64) = -lN 1 from rfl, lg_m1 (by omega)]; decide) ?_
              rw [show qL0 (some q) = lN q.2 from rfl]
              have := z_cmp3 hm k2
              change ((nI 0 ≤ lg_cmp (lN (mxl n K x y)) (lN q.2) → _) ∧ (¬ nI 0 ≤ lg_cmp (lN (mxl n K x y)) (lN q.2) → _))
              rw [show (nI 0 ≤ lg_cmp (lN (mxl n K x y)) (lN q.2)) = (q.2 ≤ mxl n K x y) from propext this]
              refine br_c (fun z2 => ?_) (fun z2 => ?_)
              · simp only [if_neg (show ¬ mxl n K x y < q.2 by omega)] at ihf
                exact br_t rfl (br_t rfl ihf)
              · simp only [if_pos (show mxl n K x y < q.2 by omega)] at ihf
                exact br_f (by decide) (br_f (by decide) ihf)
          · rw [if_neg (fun t => z t.2)] at ihf
            exact br_t rfl (br_t rfl ihf)
      unfold wp_X11_ask_b43
      rw [e0]
      refine ⟨i0, br_f (nI_ge (by omega) (by omega)) ⟨2 * n - (x + 1) + 1, ?_⟩⟩
      have := inner (2 * n - (x + 1)) (x + 1) (by omega) (by omega)
      rw [qIn_0 (x + 1) (Nat.le_refl _)] at this
      rw [show (nI x + (1 : Int32)) = nI (x + 1) from nI_add x 1]
      exact this
  exact ⟨_, main (2 * n) 0 (by omega)⟩
