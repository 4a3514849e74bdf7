/-! FIRST: moment by moment the least set of ends from which there is a way on -/
def okm (n : Nat) (K : Nat → Nat → Bool) (s c : Nat) : Bool := ed K n s c != 0 && wB (ed K n) (2 ^ (2 * n)) (s + c) != 0
def lst1 (n : Nat) (K : Nat → Nat → Bool) (s : Nat) : Nat := fa_first (okm n K s) (2 ^ (2 * n))
def pth (n : Nat) (K : Nat → Nat → Bool) : Nat → Nat
  | 0 => 0
  | k + 1 => if pth n K k = 2 ^ (2 * n) - 1 then pth n K k else pth n K k + lst1 n K (pth n K k)
def mos (n : Nat) (K : Nat → Nat → Bool) : Nat := fa_first (fun k => pth n K k == 2 ^ (2 * n) - 1) 13
def mo (n : Nat) (K : Nat → Nat → Bool) (e : Nat) : Nat := fa_first (fun k => (pth n K (k + 1)).testBit e) 13
theorem okm_iff {n : Nat} {K : Nat → Nat → Bool} {s c : Nat} : okm n K s c = true ↔ ed K n s c ≠ 0 ∧ wB (ed K n) (2 ^ (2 * n)) (s + c) ≠ 0 := by
  unfold okm
  rw [Bool.and_eq_true, bne_iff_ne, bne_iff_ne]
theorem fa_first_is {p : Nat → Bool} {N c : Nat} (hc : c < N) (h : p c = true) (hl : ∀ d, d < c → p d = false) : fa_first p N = c := by
  have h1 := fa_first_le p N
  rcases Nat.lt_trichotomy (fa_first p N) c with q | q | q
  · have := fa_first_yes p N (by omega)
    rw [hl _ q] at this; cases this
  · exact q
  · have := fa_first_no p N c q
    rw [h] at this; cases this
theorem lst1_ok {n : Nat} {K : Nat → Nat → Bool} {s : Nat} (hs : s < 2 ^ (2 * n)) (hB : wB (ed K n) (2 ^ (2 * n)) s ≠ 0) (hf : s ≠ 2 ^ (2 * n) - 1) : lst1 n K s < 2 ^ (2 * n) ∧ okm n K s (lst1 n K s) = true := by
  rw [wB_rec ed_E ed_pos s hs, if_neg hf, Nat.zero_add] at hB
  obtain ⟨M, hM, hp⟩ := sm_pos (Nat.pos_of_ne_zero hB)
  have hok : okm n K s M = true := okm_iff.mpr ⟨fun e => by rw [e] at hp; simp at hp, fun e => by rw [e] at hp; simp at hp⟩
  have hlt : lst1 n K s < 2 ^ (2 * n) := by
    rcases Nat.lt_or_ge (lst1 n K s) (2 ^ (2 * n)) with q | q
    · exact q
    · have := fa_first_no (okm n K s) (2 ^ (2 * n)) M (by unfold lst1 at q; omega)
      rw [hok] at this; cases this
  exact ⟨hlt, fa_first_yes _ _ hlt⟩
theorem pth_ok {n : Nat} {K : Nat → Nat → Bool} (hn : n < 7) (h0 : wB (ed K n) (2 ^ (2 * n)) 0 ≠ 0) : ∀ k, pth n K k < 2 ^ (2 * n) ∧ wB (ed K n) (2 ^ (2 * n)) (pth n K k) ≠ 0 ∧ vl (pth n K k) = true
  | 0 => ⟨Nat.two_pow_pos _, h0, by rw [pth]; decide⟩
  | k + 1 => by
    obtain ⟨h1, h2, h3⟩ := pth_ok hn h0 k
    rw [pth]
    split
    · exact ⟨h1, h2, h3⟩
    · rename_i hf
      obtain ⟨g1, g2⟩ := lst1_ok h1 h2 hf
      obtain ⟨g3, g4⟩ := okm_iff.mp g2
      have g5 := ed_1 g3
      exact ⟨mo_N h1 g5.2.2.1, g4, mo_vl hn h1 h3 g5.2.2.1⟩
/-- a step of the path that is not at its end -/
theorem pth_step {n : Nat} {K : Nat → Nat → Bool} (hn : n < 7) (h0 : wB (ed K n) (2 ^ (2 * n)) 0 ≠ 0) {k : Nat} (hf : pth n K k ≠ 2 ^ (2 * n) - 1) : pth n K (k + 1) = pth n K k + lst1 n K (pth n K k) ∧ lst1 n K (pth n K k) ≠ 0 ∧ sb (lst1 n K (pth n K k)) (nx (pth n K k) n) = true ∧ lst1 n K (pth n K k) < 2 ^ (2 * n) := by
  obtain ⟨h1, h2, h3⟩ := pth_ok hn h0 k
  obtain ⟨g1, g2⟩ := lst1_ok h1 h2 hf
  obtain ⟨g3, g4⟩ := okm_iff.mp g2
  have g5 := ed_1 g3
  exact ⟨by rw [pth, if_neg hf], g5.2.1, g5.2.2.1, g1⟩
theorem pth_sub {n : Nat} {K : Nat → Nat → Bool} (hn : n < 7) (h0 : wB (ed K n) (2 ^ (2 * n)) 0 ≠ 0) (k : Nat) : sb (pth n K k) (pth n K (k + 1)) = true := by
  by_cases hf : pth n K k = 2 ^ (2 * n) - 1
  · rw [pth, if_pos hf]; exact sb_self _
  · obtain ⟨e, -, g, -⟩ := pth_step hn h0 hf
    rw [e, sb_iff]
    intro x hx
    rw [mo_bit g, hx]; rfl
theorem pth_mono {n : Nat} {K : Nat → Nat → Bool} (hn : n < 7) (h0 : wB (ed K n) (2 ^ (2 * n)) 0 ≠ 0) {i : Nat} : ∀ {j : Nat}, i ≤ j → sb (pth n K i) (pth n K j) = true := by
  intro j hij
  induction j with
  | zero => rw [show i = 0 by omega]; exact sb_self _
  | succ j ih =>
    rcases Nat.lt_or_ge i (j + 1) with q | q
    · exact sb_trans (ih (by omega)) (pth_sub hn h0 j)
    · rw [show i = j + 1 by omega]; exact sb_self _
/-- each step has an end more -/
theorem pth_cnt {n : Nat} {K : Nat → Nat → Bool} (hn : n < 7) (h0 : wB (ed K n) (2 ^ (2 * n)) 0 ≠ 0) : ∀ k, (∀ j, j < k → pth n K j ≠ 2 ^ (2 * n) - 1) → k ≤ fb_ct (fun e => (pth n K k).testBit e) 12
  | 0, _ => Nat.zero_le _
  | k + 1, h => by
    have ih := pth_cnt hn h0 k (fun j hj => h j (by omega))
    obtain ⟨e, g1, g2, g3⟩ := pth_step hn h0 (h k (by omega))
    have h4 := p4_le hn
    obtain ⟨x, hx⟩ : ∃ x, (lst1 n K (pth n K k)).testBit x = true := by
      rcases Classical.em (∃ x, (lst1 n K (pth n K k)).testBit x = true) with q | q
      · exact q
      · exfalso
        apply g1
        apply Nat.eq_of_testBit_eq
        intro i
        rw [Nat.zero_testBit]
        cases z : (lst1 n K (pth n K k)).testBit i with
        | false => rfl
        | true => exact absurd ⟨i, z⟩ q
    have hx12 : x < 12 := by
      rcases Nat.lt_or_ge x 12 with q | q
      · exact q
      · rw [tb_small (x := 12) (by omega) q] at hx; cases hx
    have hox : (pth n K k).testBit x = false := by
      have := mo_apart g2
      have := congrArg (fun z => z.testBit x) this
      simp only [Nat.testBit_and, hx, Bool.and_true, Nat.zero_testBit] at this
      exact this
    have hu := fb_ct_upd (fun e => (pth n K k).testBit e) true hx12
    rw [hox, if_neg (by decide), if_pos rfl] at hu
    have hs := fb_ct_sub (p := fun k' => if k' = x then true else (pth n K k).testBit k') (q := fun e => (pth n K (k + 1)).testBit e) (n := 12) (fun i hi hp => by
      rw [e, mo_bit g2]
      by_cases z : i = x
      · rw [z, hx, Bool.or_true]
      · rw [if_neg z] at hp; rw [hp]; rfl)
    omega
theorem mos_ok {n : Nat} {K : Nat → Nat → Bool} (hn : n < 7) (h0 : wB (ed K n) (2 ^ (2 * n)) 0 ≠ 0) : mos n K ≤ 12 ∧ pth n K (mos n K) = 2 ^ (2 * n) - 1 ∧ ∀ j, j < mos n K → pth n K j ≠ 2 ^ (2 * n) - 1 := by
  have hno : ∀ j, j < mos n K → pth n K j ≠ 2 ^ (2 * n) - 1 := fun j hj e => by
    have := fa_first_no (fun k => pth n K k == 2 ^ (2 * n) - 1) 13 j hj
    rw [e] at this; simp at this
  have hle : mos n K ≤ 12 := by
    have h1 := pth_cnt hn h0 (mos n K) hno
    have h2 := fb_ct_le (fun e => (pth n K (mos n K)).testBit e) 12
    omega
  refine ⟨hle, ?_, hno⟩
  have := fa_first_yes (fun k => pth n K k == 2 ^ (2 * n) - 1) 13 (by unfold mos at hle; omega)
  exact beq_iff_eq.mp this
theorem full_bit {n e : Nat} (he : e < 2 * n) : (2 ^ (2 * n) - 1).testBit e = true := by
  rw [Nat.testBit_two_pow_sub_one]; simpa using he
/-- an end's moment: it is in no set of the path ahead of it, in all behind it -/
theorem mo_ok {n : Nat} {K : Nat → Nat → Bool} (hn : n < 7) (h0 : wB (ed K n) (2 ^ (2 * n)) 0 ≠ 0) {e : Nat} (he : e < 2 * n) : mo n K e < mos n K ∧ ∀ k, k ≤ mos n K → ((pth n K k).testBit e = true ↔ mo n K e < k) := by
  obtain ⟨h1, h2, h3⟩ := mos_ok hn h0
  have hz : (pth n K 0).testBit e = false := by rw [pth]; exact Nat.zero_testBit e
  have hfull : (pth n K (mos n K)).testBit e = true := by rw [h2]; exact full_bit he
  have hpos : 0 < mos n K := by
    rcases Nat.eq_zero_or_pos (mos n K) with q | q
    · rw [q, hz] at hfull; cases hfull
    · exact q
  have hlt : mo n K e < mos n K := by
    rcases Nat.lt_or_ge (mo n K e) (mos n K) with q | q
    · exact q
    · have := fa_first_no (fun k => (pth n K (k + 1)).testBit e) 13 (mos n K - 1) (by unfold mo at q; omega)
      rw [show mos n K - 1 + 1 = mos n K by omega, hfull] at this; cases this
  refine ⟨hlt, fun k hk => ⟨fun hb => ?_, fun hb => ?_⟩⟩
  · rcases Nat.lt_or_ge (mo n K e) k with q | q
    · exact q
    · rcases Nat.eq_zero_or_pos k with z | z
      · rw [z, hz] at hb; cases hb
      · have := fa_first_no (fun k => (pth n K (k + 1)).testBit e) 13 (k - 1) (by unfold mo at q; omega)
        rw [show k - 1 + 1 = k by omega, hb] at this; cases this
  · have hy := fa_first_yes (fun k => (pth n K (k + 1)).testBit e) 13 (by unfold mo at hlt; omega)
    exact sb_iff.mp (pth_mono hn h0 (i := mo n K e + 1) hb) e hy
/-- the moment of an end that the k-th step brings -/
theorem mo_new {n : Nat} {K : Nat → Nat → Bool} (hn : n < 7) (h0 : wB (ed K n) (2 ^ (2 * n)) 0 ≠ 0) {e k : Nat} (he : e < 2 * n) (hk : k < mos n K) (hb : (lst1 n K (pth n K k)).testBit e = true) : mo n K e = k := by
  obtain ⟨h1, h2, h3⟩ := mos_ok hn h0
  obtain ⟨g0, g1, g2, g3⟩ := pth_step hn h0 (h3 k hk)
  have hm := (mo_ok hn h0 he).2
  have a := (hm (k + 1) (by omega)).mp (by rw [g0, mo_bit g2, hb, Bool.or_true])
  have b : ¬ mo n K e < k := fun q => by
    have := (hm k (by omega)).mpr q
    have hz := congrArg (fun z => z.testBit e) (mo_apart g2)
    simp only [Nat.testBit_and, hb, this, Nat.zero_testBit] at hz
    cases hz
  omega
/-! the reference's lays -/
theorem z_msk {a m : Nat} (ha : a < 2 ^ 31) : nI a &&& (nI m ^^^ (-1)) = nI 0 ↔ sb a m = true := by
  have hm1 : (-1 : Int32) = nI 4294967295 := by decide
  rw [hm1, z_xor, fa_and, nI_eq (Nat.lt_of_le_of_lt Nat.and_le_left ha) (by omega), sb_iff]
  constructor
  · intro h e he
    have h32 : e < 32 := by
      rcases Nat.lt_or_ge e 32 with q | q
      · exact q
      · rw [tb_small (x := 31) ha (by omega)] at he; cases he
    have := congrArg (fun z => z.testBit e) h
    simp only [Nat.testBit_and, Nat.testBit_xor, tb_mask e h32, he, Nat.zero_testBit, Bool.true_and] at this
    simpa using this
  · intro h
    apply Nat.eq_of_testBit_eq
    intro e
    rw [Nat.testBit_and, Nat.testBit_xor, Nat.zero_testBit]
    cases q : a.testBit e with
    | false => rfl
    | true =>
      have h32 : e < 32 := by
        rcases Nat.lt_or_ge e 32 with z | z
        · exact z
        · rw [tb_small (x := 31) ha (by omega)] at q; cases q
      rw [h e q, tb_mask e h32]; rfl
theorem s_laysLoop {g mate : Nat → Int32} {n : Nat} {cc cp cq : Int32} {on : Nat → Int64} {K : Nat → Nat → Bool} {Q : Int32 → Int32 → Int32 → Int32 → Int32 → Int32 → (Nat → Int32) → (Nat → Int64) → (Nat → Int32) → (Nat → Int32) → Prop} (h0 : g 0 = nI n) (hn : n < 7) (hK : MV (2 ^ (2 * n)) K cc cp cq g mate) (hB : ∀ s, s < 2 ^ (2 * n) → wB (ed K n) (2 ^ (2 * n)) s < 2 ^ 63) (hB0 : wB (ed K n) (2 ^ (2 * n)) 0 ≠ 0) (hon : ∀ s, s < 2 ^ (2 * n) → on s = lN (wB (ed K n) (2 ^ (2 * n)) s))
    (hQ : ∀ (ca cm : Int32) (mf bh : Nat → Int32), (∀ e, e < 2 * n → mf e = nI (mo n K e)) → (∀ k, k < mos n K → bh k = nI (pth n K (k + 1))) → Q (1 : Int32) ca cm cc cp (nI (mos n K)) mate on mf bh) :
    ∀ (d k : Nat) (ca cm : Int32) (mf bh : Nat → Int32), k + d = mos n K → (∀ e, e < 2 * n → (pth n K k).testBit e = true → mf e = nI (mo n K e)) → (∀ j, j < k → bh j = nI (pth n K (j + 1))) → wp_X11_lays_b18 Q cq g (d + 1) (nI (pth n K k)) ca cm cc cp (nI k) mate on mf bh := by
  have h4 := p4_le hn
  obtain ⟨m1, m2, m3⟩ := mos_ok hn hB0
  have eg : g (0 : Int32).toNatClampNeg = nI n := h0
  generalize hmos : mos n K = mm at *
  intro d
  induction d with
  | zero =>
    intro k ca cm mf bh hk h1 h2
    obtain rfl : k = mm := by omega
    unfold wp_X11_lays_b18
    rw [e_full h0 hn, m2]
    exact br_t rfl (hQ ca cm mf bh (fun e he => h1 e he (by rw [m2]; exact full_bit he)) h2)
  | succ d ih =>
    intro k ca cm mf bh hk h1 h2
    have hf := m3 k (by omega)
    obtain ⟨q1, q2, q3⟩ := pth_ok hn hB0 k
    obtain ⟨p1, p2, p3, p4⟩ := pth_step hn hB0 hf
    have hnew := fun e (he : e < 2 * n) hb => mo_new hn hB0 (e := e) (k := k) he (by rw [hmos]; omega) hb
    have hlo := lst1_ok q1 q2 hf
    generalize hs : pth n K k = s at *
    generalize hc : lst1 n K s = c at *
    have hN1 := mo_N q1 p3
    -- the moments of the ends that come
    have T : ∀ (f x : Nat) (ca cm : Int32) (mf : Nat → Int32), x + f = 2 * n → (∀ e, e < 2 * n → s.testBit e = true → mf e = nI (mo n K e)) → (∀ e, e < x → c.testBit e = true → mf e = nI (mo n K e)) → wp_X11_lays_b73 Q g (wp_X11_lays_b18 Q cq g (d + 1)) (f + 1) (nI s) (nI c) (nI x) ca cm cc cp (nI k) mate on mf bh := by
      intro f
      induction f with
      | zero =>
        intro x ca cm mf hx g1 g2
        obtain rfl : x = 2 * n := by omega
        unfold wp_X11_lays_b73 wp_X11_lays_b123
        refine ⟨(z_in (n := 0) (by omega)).mpr (by omega), ?_⟩
        rw [eg, zl 2, pk_mul]
        refine br_t (nI_le (by omega) (by omega)) ⟨(z_in (by omega)).mpr (by omega), ?_⟩
        rw [nI_clamp (by omega), fa_or, ← mo_add p3, ← p1, nI_1]
        refine ih (k + 1) ca cm mf _ (by omega) (fun e he hb => ?_) (fun j hj => ?_)
        · rw [p1, mo_bit p3, Bool.or_eq_true] at hb
          exact hb.elim (g1 e he) (g2 e (by omega))
        · by_cases z : j = k
          · rw [z, pk_us]
          · rw [pk_un z]; exact h2 j (by omega)
      | succ f ihf =>
        intro x ca cm mf hx g1 g2
        unfold wp_X11_lays_b73 wp_X11_lays_b116
        refine ⟨(z_in (n := 0) (by omega)).mpr (by omega), ?_⟩
        have hx12 : vp_in (nI x) 12 := (z_in (by omega)).mpr (by omega)
        rw [eg, zl 2, pk_mul]
        refine br_f (nI_ge (by omega) (by omega)) ?_
        rw [zl 1, zl 31, z_bit (by omega) (by omega), bI_1, nI_clamp (by omega), nI_add]
        refine br_c (fun hb => ⟨hx12, ?_⟩) (fun hb => ⟨hx12, hx12, ?_⟩)
        · have hmo := hnew x (by omega) hb
          have hsx : s.testBit x = false := by
            have hz := congrArg (fun z => z.testBit x) (mo_apart p3)
            simp only [Nat.testBit_and, hb, Bool.and_true, Nat.zero_testBit] at hz
            exact hz
          refine ihf (x + 1) ca cm _ (by omega) (fun e he hb2 => ?_) (fun e he hb2 => ?_)
          · rw [pk_un (fun z => by rw [z, hsx] at hb2; cases hb2)]; exact g1 e he hb2
          · by_cases z : e = x
            · rw [z, pk_us, hmo]
            · rw [pk_un z]; exact g2 e (by omega) hb2
        · have e1 : upd mf x (mf x) = mf := by
            funext j
            by_cases z : j = x
            · rw [z, pk_us]
            · rw [pk_un z]
          rw [e1]
          refine ihf (x + 1) ca cm mf (by omega) g1 (fun e he hb2 => ?_)
          by_cases z : e = x
          · rw [z] at hb2; exact absurd hb2 hb
          · exact g2 e (by omega) hb2
    -- the search
    have S : ∀ (f b : Nat) (ca cm : Int32), b + f = c → 1 ≤ b → wp_X11_lays_b34 Q cq g (wp_X11_lays_b18 Q cq g (d + 1)) (f + 1) (nI s) (nI (nx s n)) (nI b) ca cm cc cp (nI k) mate on mf bh := by
      intro f
      induction f with
      | zero =>
        intro b ca cm hb h1b
        obtain rfl : b = c := by omega
        unfold wp_X11_lays_b34
        rw [zl 0, z_msk (by omega)]
        refine br_t p3 ?_
        rw [fa_or, ← mo_add p3]
        refine ⟨(z_in (by omega)).mpr (by omega), ?_⟩
        obtain ⟨o1, o2⟩ := okm_iff.mp hlo.2
        rw [nI_clamp (by omega), hon _ hN1, zL 0, z_cmpE (hB _ hN1)]
        refine br_f o2 (hK s b q1 (by omega) _ _ _ ?_)
        rw [bI_z]
        refine br_f (by rw [(ed_1 o1).2.2.2.1]; decide) ?_
        unfold wp_X11_lays_b70
        exact ⟨2 * n + 1, T (2 * n) 0 _ _ mf (by omega) h1 (fun e he => absurd he (Nat.not_lt_zero e))⟩
      | succ f ihf =>
        intro b ca cm hb h1b
        have hno : okm n K s b = false := fa_first_no (okm n K s) (2 ^ (2 * n)) b (by unfold lst1 at hc; omega)
        unfold wp_X11_lays_b34 wp_X11_lays_b64
        rw [zl 0, z_msk (by omega), zl 1, nI_add]
        refine br_c (fun hsb => ?_) (fun _ => ihf (b + 1) _ _ (by omega) (by omega))
        have hNb := mo_N q1 hsb
        have hbN := mo_lt hsb
        rw [fa_or, ← mo_add hsb]
        refine ⟨(z_in (by omega)).mpr (by omega), ?_⟩
        rw [nI_clamp (by omega), hon _ hNb, zL 0, z_cmpE (hB _ hNb)]
        refine br_c (fun _ => ihf (b + 1) _ _ (by omega) (by omega)) (fun hz => hK s b q1 hbN _ _ _ ?_)
        rw [bI_z]
        refine br_t ?_ (ihf (b + 1) _ _ (by omega) (by omega))
        cases hk : K s b with
        | false => rfl
        | true =>
          exfalso
          have : okm n K s b = true := okm_iff.mpr ⟨by rw [ed_eq ⟨q3, by omega, hsb⟩, if_pos hk]; decide, hz⟩
          rw [hno] at this; cases this
    unfold wp_X11_lays_b18
    rw [e_full h0 hn, nI_eq (by omega) (by omega)]
    refine br_f hf (s_next h0 hn (by omega) ⟨c - 1 + 1, ?_⟩)
    exact S (c - 1) 1 ca cm (by omega) (Nat.le_refl 1)
