theorem F_vl {n : Nat} {K : Nat → Nat → Bool} (hn : n < 7) : ∀ v, v < 2 ^ (2 * n) → wF (ed K n) (2 ^ (2 * n)) v ≠ 0 → vl v = true := by
  intro v hv hz
  rw [wF_rec ed_pos v hv] at hz
  by_cases q : v = 0
  · rw [q]; decide
  · rw [if_neg q, Nat.zero_add] at hz
    obtain ⟨M, hM, hp⟩ := sm_pos (Nat.pos_of_ne_zero hz)
    by_cases z : M ≤ v
    · rw [if_pos z] at hp
      have p1 : ed K n (v - M) M ≠ 0 := fun e => by rw [e] at hp; simp at hp
      obtain ⟨q1, q2, q3, q4, -⟩ := ed_1 p1
      have := mo_vl hn (by omega : v - M < 2 ^ (2 * n)) q1 q3
      rw [show v - M + M = v by omega] at this
      exact this
    · rw [if_neg z] at hp; omega
theorem BF_all {n : Nat} {K : Nat → Nat → Bool} : wB (ed K n) (2 ^ (2 * n)) 0 = wF (ed K n) (2 ^ (2 * n)) (2 ^ (2 * n) - 1) := by
  have h1 : 0 < 2 ^ (2 * n) := Nat.two_pow_pos _
  exact g_all h1 (by omega) ed_E (wB_rec ed_E ed_pos) (wF_rec ed_pos)
theorem FB_le {n : Nat} {K : Nat → Nat → Bool} {v : Nat} (hv : v < 2 ^ (2 * n)) : wF (ed K n) (2 ^ (2 * n)) v * wB (ed K n) (2 ^ (2 * n)) v ≤ wB (ed K n) (2 ^ (2 * n)) 0 := by
  have h1 : 0 < 2 ^ (2 * n) := Nat.two_pow_pos _
  rw [BF_all]
  rcases Nat.eq_zero_or_pos v with z | z
  · rw [z, cg_F0, Nat.one_mul, BF_all]; exact Nat.le_refl _
  · exact g_through h1 (by omega) ed_E (wB_rec ed_E ed_pos) (wF_rec ed_pos) (by omega) ed_pos hv z (by omega)
theorem tF_lt {n : Nat} {K : Nat → Nat → Bool} (hBD : BD n) {v : Nat} (hv : v < 2 ^ (2 * n)) : tF n K v < 2 ^ 63 := by
  unfold tF
  split
  · split <;> omega
  · rename_i h
    have h1 := FB_le (K := K) hv
    have h2 := hBD K 0 (Nat.two_pow_pos _)
    have h3 : wF (ed K n) (2 ^ (2 * n)) v ≤ wF (ed K n) (2 ^ (2 * n)) v * wB (ed K n) (2 ^ (2 * n)) v := Nat.le_mul_of_pos_right _ (Nat.pos_of_ne_zero h)
    omega
/-- a step to a set with a way on starts from one -/
theorem B_back {n : Nat} {K : Nat → Nat → Bool} {u M : Nat} (hu : u < 2 ^ (2 * n)) (he : ed K n u M ≠ 0) (hB : wB (ed K n) (2 ^ (2 * n)) (u + M) ≠ 0) : wB (ed K n) (2 ^ (2 * n)) u ≠ 0 := by
  rw [wB_rec ed_E ed_pos u hu]
  have hM : M < 2 ^ (2 * n) := mo_lt (ed_1 he).2.2.1
  have := sm_term (f := fun M => ed K n u M * wB (ed K n) (2 ^ (2 * n)) (u + M)) hM
  have h2 : 0 < ed K n u M * wB (ed K n) (2 ^ (2 * n)) (u + M) := Nat.mul_pos (Nat.pos_of_ne_zero he) (Nat.pos_of_ne_zero hB)
  omega
theorem tF_rec {n : Nat} {K : Nat → Nat → Bool} {v : Nat} (hv : v < 2 ^ (2 * n)) : tF n K v = (if v = 0 then 1 else 0) + sm (fun M => if M ≤ v then (if wB (ed K n) (2 ^ (2 * n)) v = 0 then 0 else ed K n (v - M) M * tF n K (v - M)) else 0) (2 ^ (2 * n)) := by
  by_cases h : wB (ed K n) (2 ^ (2 * n)) v = 0
  · rw [sm_z (fun M _ => by rw [if_pos h]; split <;> rfl), Nat.add_zero]
    unfold tF; rw [if_pos h]
  · have e : tF n K v = wF (ed K n) (2 ^ (2 * n)) v := by unfold tF; rw [if_neg h]
    rw [e, wF_rec ed_pos v hv]
    congr 1
    refine sm_c fun M _ => ?_
    by_cases z : M ≤ v
    · rw [if_pos z, if_pos z, if_neg h]
      rcases Nat.eq_zero_or_pos (ed K n (v - M) M) with w | w
      · rw [w, Nat.zero_mul, Nat.zero_mul]
      · have := B_back (K := K) (u := v - M) (M := M) (by omega : v - M < 2 ^ (2 * n)) (by omega) (by rw [show v - M + M = v by omega]; exact h)
        unfold tF; rw [if_neg this]
    · rw [if_neg z, if_neg z]
def TB (n : Nat) (K : Nat → Nat → Bool) (q : Nat → Nat → Nat → Bool) (u M p : Nat) : Nat := sm (fun e => if M.testBit e = true then sm (fun x => if p = 12 * x + e ∧ q u M x = true then tF n K u * wB (ed K n) (2 ^ (2 * n)) (u + M) else 0) (2 * n) else 0) (2 * n)
theorem TB_ev {n : Nat} {K : Nat → Nat → Bool} {q : Nat → Nat → Nat → Bool} {u M x e : Nat} (hn : n < 7) (hx : x < 2 * n) (he : e < 2 * n) : TB n K q u M (12 * x + e) = if (q u M x && M.testBit e) = true then tF n K u * wB (ed K n) (2 ^ (2 * n)) (u + M) else 0 := by
  unfold TB
  rw [sm_c (g := fun e' => if e' = e then (fun _ => if (q u M x && M.testBit e) = true then tF n K u * wB (ed K n) (2 ^ (2 * n)) (u + M) else 0) e' else 0) (fun e' he' => ?_), sm_1 (fun _ => if (q u M x && M.testBit e) = true then tF n K u * wB (ed K n) (2 ^ (2 * n)) (u + M) else 0) he]
  by_cases z : e' = e
  · subst z
    rw [if_pos rfl]
    by_cases w : M.testBit e' = true
    · rw [if_pos w, sm_c (g := fun x' => if x' = x then (fun x' => if q u M x' = true then tF n K u * wB (ed K n) (2 ^ (2 * n)) (u + M) else 0) x' else 0) (fun x' hx' => ?_), sm_1 (fun x' => if q u M x' = true then tF n K u * wB (ed K n) (2 ^ (2 * n)) (u + M) else 0) hx, w, Bool.and_true]
      by_cases y : x' = x
      · subst y
        rw [if_pos rfl]
        by_cases t : q u M x' = true
        · rw [if_pos ⟨rfl, t⟩]; exact (if_pos t).symm
        · rw [if_neg (fun s => t s.2)]; exact (if_neg t).symm
      · rw [if_neg y, if_neg (fun s => y (by omega))]
    · rw [if_neg w]
      have : M.testBit e' = false := by simpa using w
      rw [this, Bool.and_false]; rfl
  · rw [if_neg z]
    split
    · exact sm_z fun x' hx' => if_neg (fun s => z (by omega))
    · rfl
def qB : Nat → Nat → Nat → Bool := fun u _ x => u.testBit x
def qA : Nat → Nat → Nat → Bool := fun _ M x => M.testBit x
/-- one move of the walk over all pairs -/
theorem s_pairsE {g : Nat → Int32} {n s b : Nat} {K : Nat → Nat → Bool} {Q : Int64 → Int32 → Int32 → Int32 → Int32 → (Nat → Int32) → (Nat → Int64) → (Nat → Int64) → (Nat → Int64) → (Nat → Int64) → Prop} {K101 : Int64 → Int32 → Int32 → Int32 → Int32 → Int32 → Int32 → Int32 → (Nat → Int32) → (Nat → Int64) → (Nat → Int64) → (Nat → Int64) → (Nat → Int64) → Prop} {x1 : Int64} {may : Int32} {cc cp : Int32} {mate : Nat → Int32} {on to bf0 al0 : Nat → Int64} (h0 : g 0 = nI n) (hn : n < 7) (hs : s < 2 ^ (2 * n)) (hsb : sb b (nx s n) = true) (hto : to s = lN (tF n K s)) (hon : on (s + b) = lN (wB (ed K n) (2 ^ (2 * n)) (s + b)))
    (hK : ∀ bf al : Nat → Int64, (∀ p, bf p = bf0 p + lN (TB n K qB s b p)) → (∀ p, al p = al0 p + lN (TB n K qA s b p)) → wp_X11_pairs_b201 Q K101 x1 (nI s) may (nI b) (nI s) (nI b) cc cp mate on to bf al) :
    ∀ (d e : Nat) (bf al : Nat → Int64), e + d = 2 * n → (∀ p, bf p = bf0 p + lN (sm (fun e => if b.testBit e = true then sm (fun x => if p = 12 * x + e ∧ qB s b x = true then tF n K s * wB (ed K n) (2 ^ (2 * n)) (s + b) else 0) (2 * n) else 0) e)) → (∀ p, al p = al0 p + lN (sm (fun e => if b.testBit e = true then sm (fun x => if p = 12 * x + e ∧ qA s b x = true then tF n K s * wB (ed K n) (2 ^ (2 * n)) (s + b) else 0) (2 * n) else 0) e)) → wp_X11_pairs_b151 Q g K101 (d + 1) x1 (nI s) may (nI b) (nI e) (nI s) (nI b) cc cp mate on to bf al := by
  have eg : g (0 : Int32).toNatClampNeg = nI n := h0
  have h4 := p4_le hn
  have hN := mo_N hs hsb
  have hbN := mo_lt hsb
  intro d
  induction d with
  | zero =>
    intro e bf al he h1 h2
    obtain rfl : e = 2 * n := by omega
    unfold wp_X11_pairs_b151
    refine ⟨(z_in (n := 0) (by omega)).mpr (by omega), ?_⟩
    rw [eg, zl 2, pk_mul]
    exact br_t (nI_le (by omega) (by omega)) (hK bf al h1 h2)
  | succ d ih =>
    intro e bf al he h1 h2
    unfold wp_X11_pairs_b151 wp_X11_pairs_b195
    refine ⟨(z_in (n := 0) (by omega)).mpr (by omega), ?_⟩
    rw [eg, zl 2, pk_mul]
    refine br_f (nI_ge (by omega) (by omega)) ?_
    rw [e_is (by omega) (by omega), zl 0, bI_z, nI_1]
    refine br_c (fun q => ?_) (fun q => ?_)
    · refine ih (e + 1) bf al (by omega) (fun p => ?_) (fun p => ?_)
      · rw [h1, sm, if_neg (by rw [q]; decide), Nat.add_zero]
      · rw [h2, sm, if_neg (by rw [q]; decide), Nat.add_zero]
    · have q : b.testBit e = true := by simpa using q
      refine ⟨(z_in (by omega)).mpr (by omega), ?_⟩
      rw [fa_or, ← mo_add hsb]
      refine ⟨(z_in (by omega)).mpr (by omega), ?_⟩
      rw [nI_clamp (by omega), nI_clamp (by omega), hto, hon, lN_mul]
      refine s_tallies h0 hn (by omega) (by omega) (by omega) (fun bf' al' g1 g2 => ?_)
      refine ih (e + 1) bf' al' (by omega) (fun p => ?_) (fun p => ?_)
      · rw [g1, h1, sm, if_pos q, Int64.add_assoc, lN_add]; rfl
      · rw [g2, h2, sm, if_pos q, Int64.add_assoc, lN_add]; rfl
/-- the ways to v that the sets below s gave -/
def toP (n : Nat) (K : Nat → Nat → Bool) (s v : Nat) : Nat := (if v = 0 then 1 else 0) + sm (fun M => if M ≤ v ∧ v - M < s then (if wB (ed K n) (2 ^ (2 * n)) v = 0 then 0 else ed K n (v - M) M * tF n K (v - M)) else 0) (2 ^ (2 * n))
theorem toP_end {n : Nat} {K : Nat → Nat → Bool} {s v : Nat} (hv : v < 2 ^ (2 * n)) (hs : v ≤ s) : toP n K s v = tF n K v := by
  rw [tF_rec hv, toP]
  congr 1
  refine sm_c fun M _ => ?_
  by_cases z : M ≤ v
  · rw [if_pos z]
    by_cases w : v - M < s
    · rw [if_pos ⟨z, w⟩]
    · rw [if_neg (fun t => w t.2)]
      by_cases y : wB (ed K n) (2 ^ (2 * n)) v = 0
      · rw [if_pos y]
      · rw [if_neg y]
        rcases Nat.eq_zero_or_pos (ed K n (v - M) M) with u | u
        · rw [u, Nat.zero_mul]
        · have := (ed_1 (by omega : ed K n (v - M) M ≠ 0)).2.1
          omega
  · rw [if_neg z, if_neg (fun t => z t.1)]
theorem toP_step {n : Nat} {K : Nat → Nat → Bool} {s v : Nat} (hv : v < 2 ^ (2 * n)) : toP n K (s + 1) v = toP n K s v + (if s ≤ v then (if wB (ed K n) (2 ^ (2 * n)) v = 0 then 0 else ed K n s (v - s) * tF n K s) else 0) := by
  rw [toP, toP, Nat.add_assoc]
  congr 1
  by_cases z : s ≤ v
  · rw [if_pos z]
    have hM : v - s < 2 ^ (2 * n) := by omega
    rw [← sm_1 (fun _ => if wB (ed K n) (2 ^ (2 * n)) v = 0 then 0 else ed K n s (v - s) * tF n K s) hM, ← sm_add]
    refine sm_c fun M _ => ?_
    by_cases w : M = v - s
    · rw [if_pos w, if_pos (c := M ≤ v ∧ v - M < s + 1) ⟨by omega, by omega⟩, if_neg (c := M ≤ v ∧ v - M < s) (fun t => by omega), Nat.zero_add, w, show v - (v - s) = s by omega]
    · rw [if_neg w]
      refine Eq.trans ?_ (Nat.add_zero _).symm
      by_cases y : M ≤ v ∧ v - M < s
      · rw [if_pos y, if_pos ⟨y.1, by omega⟩]
      · rw [if_neg y, if_neg (fun t => y ⟨t.1, by omega⟩)]
  · rw [if_neg z, Nat.add_zero]
    refine sm_c fun M _ => ?_
    by_cases y : M ≤ v ∧ v - M < s
    · rw [if_pos y, if_pos ⟨y.1, by omega⟩]
    · rw [if_neg y, if_neg (fun t => y ⟨t.1, by omega⟩)]
def PG (n : Nat) (K : Nat → Nat → Bool) (q : Nat → Nat → Nat → Bool) (s p : Nat) : Nat := sm (fun u => sm (fun M => ed K n u M * TB n K q u M p) (2 ^ (2 * n))) s
theorem tF_vl {n : Nat} {K : Nat → Nat → Bool} {s : Nat} (hn : n < 7) (hs : s < 2 ^ (2 * n)) (h : tF n K s ≠ 0) : vl s = true := by
  unfold tF at h
  split at h
  · split at h
    · rename_i e; rw [e]; decide
    · exact absurd rfl h
  · exact F_vl hn s hs h
theorem s_pairsLoop {g mate : Nat → Int32} {n : Nat} {cc cp cq : Int32} {x1 : Int64} {on : Nat → Int64} {K : Nat → Nat → Bool} {Q : Int64 → Int32 → Int32 → Int32 → Int32 → (Nat → Int32) → (Nat → Int64) → (Nat → Int64) → (Nat → Int64) → (Nat → Int64) → Prop} (h0 : g 0 = nI n) (hn : n < 7) (hK : MV (2 ^ (2 * n)) K cc cp cq g mate) (hBD : BD n) (hon : ∀ s, s < 2 ^ (2 * n) → on s = lN (wB (ed K n) (2 ^ (2 * n)) s))
    (hQ : ∀ (ca cm : Int32) (to bf al : Nat → Int64), (∀ p, p < 144 → bf p = lN (PG n K qB (2 ^ (2 * n) - 1) p)) → (∀ p, p < 144 → al p = lN (PG n K qA (2 ^ (2 * n) - 1) p)) → Q x1 ca cm cc cp mate on to bf al) :
    ∀ (d s : Nat) (ca cm : Int32) (to bf al : Nat → Int64), s + d = 2 ^ (2 * n) - 1 → (∀ v, v < 2 ^ (2 * n) → to v = lN (toP n K s v)) → (∀ p, p < 144 → bf p = lN (PG n K qB s p)) → (∀ p, p < 144 → al p = lN (PG n K qA s p)) → wp_X11_pairs_b67 Q cq g (d + 1) x1 (nI s) ca cm cc cp mate on to bf al := by
  have h4 := p4_le hn
  have h1N : 1 ≤ 2 ^ (2 * n) := Nat.two_pow_pos _
  intro d
  induction d with
  | zero =>
    intro s ca cm to bf al hs h1 h2 h3
    obtain rfl : s = 2 ^ (2 * n) - 1 := by omega
    unfold wp_X11_pairs_b67
    rw [e_full h0 hn]
    exact br_t (nI_le (by omega) (by omega)) (hQ ca cm to bf al h2 h3)
  | succ d ih =>
    intro s ca cm to bf al hs h1 h2 h3
    have hsN : s < 2 ^ (2 * n) := by omega
    have hts : to s = lN (tF n K s) := by rw [h1 s hsN, toP_end hsN (Nat.le_refl s)]
    -- the moves that are left
    have inner : ∀ may, (tF n K s ≠ 0 → may = nx s n) → (tF n K s = 0 → may = 0) → ∀ b, sb b may = true → ∀ (f : Nat), b < f → ∀ (ca cm : Int32) (to' bf' al' : Nat → Int64), (∀ v, v < 2 ^ (2 * n) → to' v = lN (toP n K s v + (if s ≤ v ∧ b < v - s ∧ sb (v - s) may = true then (if wB (ed K n) (2 ^ (2 * n)) v = 0 then 0 else ed K n s (v - s) * tF n K s) else 0))) → (∀ p, p < 144 → bf' p = lN (PG n K qB s p + sm (fun c => if b < c ∧ sb c may = true then ed K n s c * TB n K qB s c p else 0) (2 ^ (2 * n)))) → (∀ p, p < 144 → al' p = lN (PG n K qA s p + sm (fun c => if b < c ∧ sb c may = true then ed K n s c * TB n K qA s c p else 0) (2 ^ (2 * n)))) → wp_X11_pairs_b101 Q cq g (wp_X11_pairs_b67 Q cq g (d + 1)) f x1 (nI s) (nI may) (nI b) ca cm cc cp mate on to' bf' al' := by
      intro may hm1 hm2
      have zT : ∀ q c p, tF n K s = 0 → TB n K q s c p = 0 := fun q c p hz => by
        unfold TB
        refine sm_z fun e _ => ?_
        split
        · exact sm_z fun x _ => by rw [hz, Nat.zero_mul]; split <;> rfl
        · rfl
      have cov : ∀ c, ed K n s c ≠ 0 → tF n K s ≠ 0 → 0 < c ∧ sb c may = true := fun c he ht => by
        have := ed_1 he
        exact ⟨Nat.pos_of_ne_zero this.2.1, by rw [hm1 ht]; exact this.2.2.1⟩
      have stepP : ∀ q p, PG n K q s p + sm (fun c => if 0 < c ∧ sb c may = true then ed K n s c * TB n K q s c p else 0) (2 ^ (2 * n)) = PG n K q (s + 1) p := fun q p => by
        rw [PG, PG, sm]
        congr 1
        refine sm_c fun c _ => ?_
        by_cases z : 0 < c ∧ sb c may = true
        · rw [if_pos z]
        · rw [if_neg z]
          rcases Nat.eq_zero_or_pos (ed K n s c) with w | w
          · rw [w, Nat.zero_mul]
          · rcases Nat.eq_zero_or_pos (tF n K s) with y | y
            · rw [zT q c p y, Nat.mul_zero]
            · exact absurd (cov c (by omega) (by omega)) z
      refine sb_ind (m := may) (P := fun b => ∀ (f : Nat), b < f → ∀ (ca cm : Int32) (to' bf' al' : Nat → Int64), (∀ v, v < 2 ^ (2 * n) → to' v = lN (toP n K s v + (if s ≤ v ∧ b < v - s ∧ sb (v - s) may = true then (if wB (ed K n) (2 ^ (2 * n)) v = 0 then 0 else ed K n s (v - s) * tF n K s) else 0))) → (∀ p, p < 144 → bf' p = lN (PG n K qB s p + sm (fun c => if b < c ∧ sb c may = true then ed K n s c * TB n K qB s c p else 0) (2 ^ (2 * n)))) → (∀ p, p < 144 → al' p = lN (PG n K qA s p + sm (fun c => if b < c ∧ sb c may = true then ed K n s c * TB n K qA s c p else 0) (2 ^ (2 * n)))) → wp_X11_pairs_b101 Q cq g (wp_X11_pairs_b67 Q cq g (d + 1)) f x1 (nI s) (nI may) (nI b) ca cm cc cp mate on to' bf' al') ?_ ?_
      · intro f hf ca cm to' bf' al' g1 g2 g3
        obtain ⟨f, rfl⟩ : ∃ q, f = q + 1 := ⟨f - 1, by omega⟩
        unfold wp_X11_pairs_b101 wp_X11_pairs_b213
        refine br_t (by decide) ?_
        rw [nI_1]
        refine ih (s + 1) ca cm to' bf' al' (by omega) (fun v hv => ?_) (fun p hp => ?_) (fun p hp => ?_)
        · rw [g1 v hv, toP_step hv]
          congr 2
          by_cases z : s ≤ v
          · rw [if_pos z]
            by_cases w : 0 < v - s ∧ sb (v - s) may = true
            · rw [if_pos ⟨z, w⟩]
            · rw [if_neg (fun t => w t.2)]
              by_cases y : wB (ed K n) (2 ^ (2 * n)) v = 0
              · rw [if_pos y]
              · rw [if_neg y]
                rcases Nat.eq_zero_or_pos (ed K n s (v - s)) with u | u
                · rw [u, Nat.zero_mul]
                · rcases Nat.eq_zero_or_pos (tF n K s) with t | t
                  · rw [t, Nat.mul_zero]
                  · exact absurd (cov _ (by omega) (by omega)) w
          · rw [if_neg z, if_neg (fun t => z t.1)]
        · rw [g2 p hp, stepP]
        · rw [g3 p hp, stepP]
      · intro b hb0 hbs hP f hf ca cm to' bf' al' g1 g2 g3
        obtain ⟨f, rfl⟩ : ∃ q, f = q + 1 := ⟨f - 1, by omega⟩
        have ht : tF n K s ≠ 0 := fun z => by rw [hm2 z] at hbs; have := sb_le hbs; omega
        have hm := hm1 ht
        subst hm
        have hv := tF_vl hn hsN ht
        have hbN := mo_lt hbs
        have hkb := mo_N hsN hbs
        have hand : ((b - 1) &&& nx s n) ≤ b - 1 := Nat.and_le_left
        have hand2 : ((nI b - 1) &&& nI (nx s n)) = nI ((b - 1) &&& nx s n) := by rw [zl 1, pk_sub (by omega), fa_and]
        have hed := ed_eq (K := K) ⟨hv, hb0, hbs⟩
        have hst := fun q p => sb_step (N := 2 ^ (2 * n)) (fun c => ed K n s c * TB n K q s c p) hb0 hbs hbN
        -- the marks of the ways behind b, and of b
        have hto : ∀ v, (if s ≤ v ∧ ((b - 1) &&& nx s n) < v - s ∧ sb (v - s) (nx s n) = true then (if wB (ed K n) (2 ^ (2 * n)) v = 0 then 0 else ed K n s (v - s) * tF n K s) else 0) = (if s ≤ v ∧ b < v - s ∧ sb (v - s) (nx s n) = true then (if wB (ed K n) (2 ^ (2 * n)) v = 0 then 0 else ed K n s (v - s) * tF n K s) else 0) + (if v = s + b then (if wB (ed K n) (2 ^ (2 * n)) v = 0 then 0 else ed K n s b * tF n K s) else 0) := by
          intro v
          by_cases e : v = s + b
          · rw [if_pos e, if_neg (c := s ≤ v ∧ b < v - s ∧ sb (v - s) (nx s n) = true) (fun t => by omega), Nat.zero_add, if_pos (c := s ≤ v ∧ ((b - 1) &&& nx s n) < v - s ∧ sb (v - s) (nx s n) = true) ⟨by omega, by omega, by rw [show v - s = b by omega]; exact hbs⟩, show v - s = b by omega]
          · rw [if_neg e]
            refine Eq.trans ?_ (Nat.add_zero _).symm
            by_cases w : s ≤ v ∧ b < v - s ∧ sb (v - s) (nx s n) = true
            · rw [if_pos w, if_pos ⟨w.1, by omega, w.2.2⟩]
            · rw [if_neg w, if_neg]
              rintro ⟨t1, t2, t3⟩
              refine w ⟨t1, ?_, t3⟩
              rcases Nat.lt_or_ge b (v - s) with u | u
              · exact u
              · have := sb_next b (v - s) (nx s n) t3 hbs (by omega)
                omega
        have pass : ed K n s b * tF n K s = 0 ∨ wB (ed K n) (2 ^ (2 * n)) (s + b) = 0 → ∀ ca cm : Int32, wp_X11_pairs_b101 Q cq g (wp_X11_pairs_b67 Q cq g (d + 1)) f x1 (nI s) (nI (nx s n)) (nI ((b - 1) &&& nx s n)) ca cm cc cp mate on to' bf' al' := by
          intro hz ca cm
          have zq : ∀ q p, ed K n s b * TB n K q s b p = 0 := fun q p => by
            rcases hz with hz | hz
            · rcases Nat.mul_eq_zero.mp hz with w | w
              · rw [w, Nat.zero_mul]
              · exact absurd w ht
            · have : TB n K q s b p = 0 := by
                unfold TB
                refine sm_z fun e _ => ?_
                split
                · exact sm_z fun x _ => by rw [hz, Nat.mul_zero]; split <;> rfl
                · rfl
              rw [this, Nat.mul_zero]
          refine hP f (by omega) ca cm to' bf' al' (fun v hv => ?_) (fun p hp => ?_) (fun p hp => ?_)
          · rw [g1 v hv, hto]
            have : (if v = s + b then (if wB (ed K n) (2 ^ (2 * n)) v = 0 then 0 else ed K n s b * tF n K s) else 0) = 0 := by
              by_cases e : v = s + b
              · rw [if_pos e]
                rcases hz with hz | hz
                · rw [hz]; split <;> rfl
                · rw [e, if_pos hz]
              · rw [if_neg e]
            rw [this, Nat.add_zero]
          · rw [g2 p hp, hst qB p, zq, Nat.add_zero]
          · rw [g3 p hp, hst qA p, zq, Nat.add_zero]
        unfold wp_X11_pairs_b101 wp_X11_pairs_b201
        refine br_f (nI_nle (by omega) (by omega)) ?_
        rw [fa_or, ← mo_add hbs]
        have hvk : vp_in (nI (s + b)) 4096 := (z_in (by omega)).mpr (by omega)
        refine ⟨hvk, ?_⟩
        have hB3 := hBD K (s + b) hkb
        rw [nI_clamp (by omega), hon _ hkb, zL 0, zl 0, z_cmp (by omega), hand2]
        refine br_c (fun hz => pass (Or.inr hz) ca cm) (fun hz => hK s b hsN hbN _ _ _ ?_)
        rw [bI_z]
        refine br_c (fun hk0 => pass (Or.inl ?_) _ _) (fun hk1 => ?_)
        · rw [hed, hk0, if_neg (by decide), Nat.zero_mul]
        · have hk1 : K s b = true := by simpa using hk1
          refine ⟨hvk, (z_in (by omega)).mpr (by omega), nm_e ⟨hvk, ?_⟩⟩
          have hto' : to' s = lN (tF n K s) := by
            rw [g1 s hsN, if_neg (fun t => by omega), Nat.add_zero, toP_end hsN (Nat.le_refl s)]
          rw [nI_clamp (by omega), hto', g1 _ hkb, lN_add]
          refine ⟨2 * n + 1, s_pairsE (bf0 := bf') (al0 := al') h0 hn hsN hbs ?_ (hon _ hkb) (fun bf2 al2 k1 k2 => ?_) (2 * n) 0 bf' al' (by omega) (fun p => ?_) (fun p => ?_)⟩
          · rw [pk_uLn (by omega), hto']
          · unfold wp_X11_pairs_b201
            rw [hand2]
            refine hP f (by omega) _ _ _ bf2 al2 (fun v hv => ?_) (fun p hp => ?_) (fun p hp => ?_)
            · rw [hto]
              by_cases e : v = s + b
              · subst e
                rw [pk_uLs, if_pos rfl, if_neg hz, if_neg hz, hed, hk1, if_pos rfl, Nat.one_mul, Nat.add_assoc]
              · rw [pk_uLn e, if_neg e, Nat.add_zero, g1 v hv]
            · rw [k1, g2 p hp, hst qB p, lN_add, hed, hk1, if_pos rfl, Nat.one_mul, Nat.add_assoc]
            · rw [k2, g3 p hp, hst qA p, lN_add, hed, hk1, if_pos rfl, Nat.one_mul, Nat.add_assoc]
          · show bf' p = bf' p + 0
            rw [Int64.add_zero]
          · show al' p = al' p + 0
            rw [Int64.add_zero]
    have start : ∀ may, (tF n K s ≠ 0 → may = nx s n) → (tF n K s = 0 → may = 0) → wp_X11_pairs_b95 Q cq g (wp_X11_pairs_b67 Q cq g (d + 1)) x1 (nI s) (nI may) ca cm cc cp mate on to bf al := by
      intro may hm1 hm2
      have hmN : may < 2 ^ (2 * n) := by
        rcases Nat.eq_zero_or_pos (tF n K s) with z | z
        · rw [hm2 z]; omega
        · rw [hm1 (by omega)]; exact nx_lt s n
      unfold wp_X11_pairs_b95
      refine ⟨may + 1, inner may hm1 hm2 may (sb_self _) _ (by omega) ca cm to bf al (fun v hv => ?_) (fun p hp => ?_) (fun p hp => ?_)⟩
      · rw [h1 v hv, if_neg, Nat.add_zero]
        rintro ⟨t1, t2, t3⟩
        have := sb_le t3; omega
      · rw [h2 p hp, sb_done _ hmN, Nat.add_zero]
      · rw [h3 p hp, sb_done _ hmN, Nat.add_zero]
    unfold wp_X11_pairs_b67
    rw [e_full h0 hn]
    refine br_f (nI_ge (by omega) (by omega)) ⟨(z_in (by omega)).mpr (by omega), ?_⟩
    rw [nI_clamp (by omega), hts, zL 0, zl 0, z_cmp (tF_lt hBD hsN)]
    refine br_c (fun q => start 0 (fun z => absurd q z) (fun _ => rfl)) (fun q => s_next h0 hn (by omega) (start (nx s n) (fun _ => rfl) (fun z => absurd z q)))
