/-! ways through a graph of sets: B on to the last one, F from the first one -/
def ed (K : Nat → Nat → Bool) (n s M : Nat) : Nat := if vl s = true ∧ M ≠ 0 ∧ sb M (nx s n) = true ∧ K s M = true then 1 else 0
theorem ed_1 {K : Nat → Nat → Bool} {n s M : Nat} (h : ed K n s M ≠ 0) : vl s = true ∧ M ≠ 0 ∧ sb M (nx s n) = true ∧ K s M = true ∧ ed K n s M = 1 := by
  unfold ed at *
  split at h
  · rename_i q; rw [if_pos q]; exact ⟨q.1, q.2.1, q.2.2.1, q.2.2.2, rfl⟩
  · exact absurd rfl h
theorem ed_eq {K : Nat → Nat → Bool} {n s M : Nat} (h : vl s = true ∧ M ≠ 0 ∧ sb M (nx s n) = true) : ed K n s M = if K s M = true then 1 else 0 := by
  unfold ed
  by_cases q : K s M = true
  · rw [if_pos ⟨h.1, h.2.1, h.2.2, q⟩, if_pos q]
  · rw [if_neg (fun z => q z.2.2.2), if_neg q]
theorem ed_E {K : Nat → Nat → Bool} {n : Nat} : gE (2 ^ (2 * n)) (ed K n) := fun _ _ hu h => mo_N hu (ed_1 h).2.2.1
theorem ed_pos {K : Nat → Nat → Bool} {n : Nat} : ∀ u M, u < 2 ^ (2 * n) → ed K n u M ≠ 0 → 0 < M := fun _ _ _ h => Nat.pos_of_ne_zero (ed_1 h).2.1
def gBf (e : Nat → Nat → Nat) (N : Nat) : Nat → Nat → Nat
  | 0, _ => 0
  | k + 1, u => (if u = N - 1 then 1 else 0) + sm (fun M => e u M * gBf e N k (u + M)) N
def wB (e : Nat → Nat → Nat) (N u : Nat) : Nat := gBf e N (N - u) u
theorem gBf_st {e : Nat → Nat → Nat} {N : Nat} (he : gE N e) (hp : ∀ u M, u < N → e u M ≠ 0 → 0 < M) : ∀ (k j u : Nat), u < N → N - u ≤ k → N - u ≤ j → gBf e N k u = gBf e N j u
  | 0, j, u, hu, hk, _ => by omega
  | k + 1, 0, u, hu, _, hj => by omega
  | k + 1, j + 1, u, hu, hk, hj => by
    rw [gBf, gBf]
    congr 1
    refine sm_c fun M _ => ?_
    rcases Nat.eq_zero_or_pos (e u M) with z | z
    · rw [z, Nat.zero_mul, Nat.zero_mul]
    · have h1 := he u M hu (by omega)
      have h2 := hp u M hu (by omega)
      rw [gBf_st he hp k j (u + M) h1 (by omega) (by omega)]
theorem wB_rec {e : Nat → Nat → Nat} {N : Nat} (he : gE N e) (hp : ∀ u M, u < N → e u M ≠ 0 → 0 < M) : gB N (N - 1) e (wB e N) := by
  intro u hu
  have h : wB e N u = gBf e N (N - u - 1 + 1) u := by rw [wB]; congr 1; omega
  rw [h, gBf]
  congr 1
  refine sm_c fun M _ => ?_
  rcases Nat.eq_zero_or_pos (e u M) with z | z
  · rw [z, Nat.zero_mul, Nat.zero_mul]
  · have h1 := he u M hu (by omega)
    have h2 := hp u M hu (by omega)
    rw [wB, gBf_st he hp (N - u - 1) (N - (u + M)) (u + M) h1 (by omega) (by omega)]
def gFf (e : Nat → Nat → Nat) (N : Nat) : Nat → Nat → Nat
  | 0, _ => 0
  | k + 1, v => (if v = 0 then 1 else 0) + sm (fun M => if M ≤ v then e (v - M) M * gFf e N k (v - M) else 0) N
def wF (e : Nat → Nat → Nat) (N v : Nat) : Nat := gFf e N (v + 1) v
theorem gFf_st {e : Nat → Nat → Nat} {N : Nat} (hp : ∀ u M, u < N → e u M ≠ 0 → 0 < M) : ∀ (k j v : Nat), v < N → v < k → v < j → gFf e N k v = gFf e N j v
  | 0, j, v, _, hk, _ => by omega
  | k + 1, 0, v, _, _, hj => by omega
  | k + 1, j + 1, v, hv, hk, hj => by
    rw [gFf, gFf]
    congr 1
    refine sm_c fun M _ => ?_
    by_cases q : M ≤ v
    · rw [if_pos q, if_pos q]
      rcases Nat.eq_zero_or_pos (e (v - M) M) with z | z
      · rw [z, Nat.zero_mul, Nat.zero_mul]
      · have h2 := hp (v - M) M (by omega) (by omega)
        rw [gFf_st hp k j (v - M) (by omega) (by omega) (by omega)]
    · rw [if_neg q, if_neg q]
theorem wF_rec {e : Nat → Nat → Nat} {N : Nat} (hp : ∀ u M, u < N → e u M ≠ 0 → 0 < M) : gF N 0 e (wF e N) := by
  intro v hv
  rw [wF, gFf]
  congr 1
  refine sm_c fun M _ => ?_
  by_cases q : M ≤ v
  · rw [if_pos q, if_pos q]
    rcases Nat.eq_zero_or_pos (e (v - M) M) with z | z
    · rw [z, Nat.zero_mul, Nat.zero_mul]
    · have h2 := hp (v - M) M (by omega) (by omega)
      rw [wF, gFf_st hp v (v - M + 1) (v - M) (by omega) (by omega) (by omega)]
  · rw [if_neg q, if_neg q]
/-! the reference counts B -/
theorem e_full {g : Nat → Int32} {n : Nat} {Q : Int32 → Prop} (h0 : g 0 = nI n) (hn : n < 7) : wp_X11_full g Q ↔ Q (nI (2 ^ (2 * n) - 1)) := by
  have h1 : 1 ≤ 2 ^ (2 * n) := Nat.two_pow_pos _
  unfold wp_X11_full
  rw [zl 0, nI_clamp (by omega), h0, zl 2, zl 1, zl 31, pk_mul, z_one (by omega), pk_sub h1]
  exact ⟨fun h => h.2, fun h => ⟨(z_in (by omega)).mpr (by omega), h⟩⟩
theorem tb_mask : ∀ e, e < 32 → Nat.testBit 4294967295 e = true := by decide +kernel
theorem e_isState {s : Nat} {Q : Int32 → Prop} (hs : s < 4096) : wp_X11_isState (nI s) Q ↔ Q (bI (vl s)) := by
  have hm : (-1 : Int32) = nI 4294967295 := by decide
  have hz : ((s / 2 &&& 1365) &&& (s ^^^ 4294967295)) = 0 ↔ vl s = true := by
    unfold vl
    rw [sb_iff]
    have hb : ∀ e, e < 32 → ((s / 2 &&& 1365) &&& (s ^^^ 4294967295)).testBit e = ((s / 2 &&& 1365).testBit e && !s.testBit e) := fun e he => by
      rw [Nat.testBit_and, Nat.testBit_xor, tb_mask e he]; simp
    constructor
    · intro h e he
      have h32 : e < 32 := by
        rcases Nat.lt_or_ge e 32 with q | q
        · exact q
        · have : s / 2 &&& 1365 < 2 ^ 12 := Nat.lt_of_le_of_lt Nat.and_le_right (by decide)
          rw [tb_small this (by omega)] at he; cases he
      have := hb e h32
      rw [h, he, Nat.zero_testBit] at this
      simpa using this
    · intro h
      apply Nat.eq_of_testBit_eq
      intro e
      rw [Nat.zero_testBit]
      rcases Nat.lt_or_ge e 32 with q | q
      · rw [hb e q]
        cases z : (s / 2 &&& 1365).testBit e with
        | false => rfl
        | true => rw [h e z]; rfl
      · have : s / 2 &&& 1365 < 2 ^ 12 := Nat.lt_of_le_of_lt Nat.and_le_right (by decide)
        rw [Nat.testBit_and, tb_small this (by omega)]; rfl
  have hlt : ((s / 2 &&& 1365) &&& (s ^^^ 4294967295)) < 2 ^ 31 := Nat.lt_of_le_of_lt Nat.and_le_left (Nat.lt_of_le_of_lt Nat.and_le_right (by decide))
  unfold wp_X11_isState
  rw [hm]
  rw [zl 1, zl 31, z_shr (by omega) (by omega), Nat.pow_one, zl 1365, fa_and, z_xor, fa_and, zl 0, nI_eq hlt (by omega), hz, zb]
  cases q : vl s <;> simp [bI_t, bI_f]
theorem dig4 (s t : Nat) : s / 2 ^ (2 * t) % 4 = (s.testBit (2 * t)).toNat + 2 * (s.testBit (2 * t + 1)).toNat := by
  have e1 : (s.testBit (2 * t)).toNat = s / 2 ^ (2 * t) % 2 := by
    rw [Nat.testBit_eq_decide_div_mod_eq]; rcases Nat.mod_two_eq_zero_or_one (s / 2 ^ (2 * t)) with h | h <;> simp [h]
  have e2 : (s.testBit (2 * t + 1)).toNat = s / 2 ^ (2 * t) / 2 % 2 := by
    rw [Nat.testBit_eq_decide_div_mod_eq, Nat.pow_succ, ← Nat.div_div_eq_div_mul]; rcases Nat.mod_two_eq_zero_or_one (s / 2 ^ (2 * t) / 2) with h | h <;> simp [h]
  rw [e1, e2]; omega
theorem s_next {g : Nat → Int32} {n s : Nat} {Q : Int32 → Prop} (h0 : g 0 = nI n) (hn : n < 7) (hs : s < 2 ^ 31) (hQ : Q (nI (nx s n))) : wp_X11_next (nI s) g Q := by
  have main : ∀ (d t : Nat), t + d = n → wp_X11_next_b4 Q g (d + 1) (nI s) (nI (nx s t)) (nI t) := by
    intro d
    induction d with
    | zero =>
      intro t ht
      obtain rfl : t = n := by omega
      unfold wp_X11_next_b4
      refine ⟨(z_in (n := 0) (by omega)).mpr (by omega), ?_⟩
      rw [show g (0 : Int32).toNatClampNeg = nI t from h0]
      exact br_t (nI_le (by omega) (by omega)) hQ
    | succ d ih =>
      intro t ht
      have ih := ih (t + 1) (by omega)
      have hl := nx_lt s t
      have h3 : nI (s / 2 ^ (2 * t)) &&& nI 3 = nI (s / 2 ^ (2 * t) % 4) := fa_mask _ 2
      unfold wp_X11_next_b4
      refine ⟨(z_in (n := 0) (by omega)).mpr (by omega), ?_⟩
      rw [show g (0 : Int32).toNatClampNeg = nI n from h0]
      refine br_f (nI_ge (by omega) (by omega)) ?_
      unfold wp_X11_next_b52
      simp (disch := omega) only [zs, pk_mul, z_shr, z_one, z_two, nI_add, h3]
      rw [dig4]
      have o1 : nx s t ||| 2 ^ (2 * t) = nx s t + 2 ^ (2 * t) := by
        have := Nat.two_pow_add_eq_or_of_lt hl 1
        rw [Nat.mul_one] at this
        rw [Nat.or_comm, ← this, Nat.add_comm]
      have o2 : nx s t ||| 2 ^ (2 * t + 1) = nx s t + 2 ^ (2 * t + 1) := by
        have := Nat.two_pow_add_eq_or_of_lt (i := 2 * t + 1) (Nat.lt_of_lt_of_le hl (Nat.pow_le_pow_right (by decide : 2 > 0) (by omega))) 1
        rw [Nat.mul_one] at this
        rw [Nat.or_comm, ← this, Nat.add_comm]
      rw [nx] at ih
      intro y hy
      subst hy
      simp only [fa_or, o1, o2, Nat.or_zero]
      cases a : s.testBit (2 * t) <;> cases b : s.testBit (2 * t + 1) <;> simp only [a, b, if_true, if_false, Bool.false_eq_true, Nat.add_zero] at ih
      · exact br_t rfl ih
      · exact br_f (by decide) (br_f (by decide) ih)
      · exact br_f (by decide) (br_t rfl ih)
      · exact br_f (by decide) (br_f (by decide) ih)
  unfold wp_X11_next
  exact ⟨n + 1, main n 0 (by omega)⟩
/-- what a run of moves is told by: K, wherever moves is called -/
def MV (N : Nat) (K : Nat → Nat → Bool) (cc cp cq : Int32) (g mate : Nat → Int32) : Prop := ∀ s M, s < N → M < N → ∀ (ca cm : Int32) (Q : Int32 → Int32 → Int32 → Prop), Q (bI (K s M)) (nI s) (nI M) → wp_X11_moves (nI s) (nI M) ca cm cc cp cq g mate Q
theorem s_counts {g mate : Nat → Int32} {n : Nat} {cc cp cq ca cm : Int32} {on : Nat → Int64} {K : Nat → Nat → Bool} {Q : Int64 → Int32 → Int32 → (Nat → Int64) → Prop} (h0 : g 0 = nI n) (hn : n < 7) (hK : MV (2 ^ (2 * n)) K cc cp cq g mate) (hB : ∀ s, s < 2 ^ (2 * n) → wB (ed K n) (2 ^ (2 * n)) s < 2 ^ 63)
    (hQ : ∀ (ca cm : Int32) (on : Nat → Int64), (∀ s, s < 2 ^ (2 * n) → on s = lN (wB (ed K n) (2 ^ (2 * n)) s)) → Q (lN (wB (ed K n) (2 ^ (2 * n)) 0)) ca cm on) : wp_X11_counts ca cm cc cp cq g mate on Q := by
  have h4 := p4_le hn
  have hN1 : 1 ≤ 2 ^ (2 * n) := Nat.two_pow_pos _
  have hrec := wB_rec (ed_E (K := K) (n := n)) ed_pos
  generalize hBd : wB (ed K n) (2 ^ (2 * n)) = B at *
  have main : ∀ (k : Nat), k ≤ 2 ^ (2 * n) → ∀ (ca cm : Int32) (on : Nat → Int64), (∀ s, k ≤ s → s < 2 ^ (2 * n) → on s = lN (B s)) → wp_X11_counts_b5 Q cc cp cq g mate (k + 1) (nI k + (-1)) ca cm on := by
    intro k
    induction k with
    | zero =>
      intro _ ca cm on h
      unfold wp_X11_counts_b5
      refine br_t (by decide) ?_
      unfold wp_X11_counts_b106
      refine ⟨(z_in (n := 0) (by omega)).mpr (by omega), ?_⟩
      rw [show on (0 : Int32).toNatClampNeg = on 0 from rfl, h 0 (by omega) (by omega)]
      exact hQ ca cm on (fun s hs => h s (by omega) hs)
    | succ k ih =>
      intro hk ca cm on h
      have hrk := hrec k (by omega)
      have inner : ∀ may, (vl k = true → may = nx k n) → (vl k = false → may = 0) → ∀ by_, sb by_ may = true → ∀ (f : Nat), by_ < f → ∀ (ca cm : Int32) (on : Nat → Int64), (∀ s, k < s → s < 2 ^ (2 * n) → on s = lN (B s)) → on k = lN ((if k = 2 ^ (2 * n) - 1 then 1 else 0) + sm (fun c => if by_ < c ∧ sb c may = true then ed K n k c * B (k + c) else 0) (2 ^ (2 * n))) → wp_X11_counts_b48 Q cc cp cq g mate (wp_X11_counts_b5 Q cc cp cq g mate (k + 1)) f (nI k) (nI may) (nI by_) ca cm on := by
        intro may hm1 hm2
        refine sb_ind (m := may) (P := fun by_ => ∀ (f : Nat), by_ < f → ∀ (ca cm : Int32) (on : Nat → Int64), (∀ s, k < s → s < 2 ^ (2 * n) → on s = lN (B s)) → on k = lN ((if k = 2 ^ (2 * n) - 1 then 1 else 0) + sm (fun c => if by_ < c ∧ sb c may = true then ed K n k c * B (k + c) else 0) (2 ^ (2 * n))) → wp_X11_counts_b48 Q cc cp cq g mate (wp_X11_counts_b5 Q cc cp cq g mate (k + 1)) f (nI k) (nI may) (nI by_) ca cm on) ?_ ?_
        · intro f hf ca cm on h1 h2
          obtain ⟨f, rfl⟩ : ∃ q, f = q + 1 := ⟨f - 1, by omega⟩
          unfold wp_X11_counts_b48
          refine br_t (by decide) ?_
          unfold wp_X11_counts_b100
          refine ih (by omega) ca cm on (fun s hs1 hs2 => ?_)
          rcases Nat.lt_or_ge k s with q | q
          · exact h1 s q hs2
          · rw [show s = k by omega, h2, hrk]
            congr 2
            refine sm_c fun c _ => ?_
            by_cases q : 0 < c ∧ sb c may = true
            · rw [if_pos q]
            · rw [if_neg q]
              rcases Nat.eq_zero_or_pos (ed K n k c) with z | z
              · rw [z, Nat.zero_mul]
              · have z2 := ed_1 (by omega : ed K n k c ≠ 0)
                exact absurd ⟨Nat.pos_of_ne_zero z2.2.1, by rw [hm1 z2.1]; exact z2.2.2.1⟩ q
        · intro b hb0 hbs hP f hf ca cm on h1 h2
          obtain ⟨f, rfl⟩ : ∃ q, f = q + 1 := ⟨f - 1, by omega⟩
          have hv : vl k = true := by
            cases q : vl k with
            | true => rfl
            | false => rw [hm2 q] at hbs; have := sb_le hbs; omega
          have hm := hm1 hv
          subst hm
          have hbN := mo_lt hbs
          have hkb := mo_N (by omega : k < 2 ^ (2 * n)) hbs
          have hand : ((b - 1) &&& nx k n) ≤ b - 1 := Nat.and_le_left
          have hand2 : ((nI b - 1) &&& nI (nx k n)) = nI ((b - 1) &&& nx k n) := by rw [zl 1, pk_sub (by omega), fa_and]
          have hed := ed_eq (K := K) ⟨hv, hb0, hbs⟩
          have hst := sb_step (N := 2 ^ (2 * n)) (fun c => ed K n k c * B (k + c)) hb0 hbs hbN
          unfold wp_X11_counts_b48
          refine br_f (nI_nle (by omega) (by omega)) ?_
          rw [fa_or, ← mo_add hbs]
          refine ⟨(z_in (by omega)).mpr (by omega), ?_⟩
          rw [nI_clamp (by omega), h1 (k + b) (by omega) hkb, zL 0, zl 0, z_cmp (hB _ hkb)]
          unfold wp_X11_counts_b91
          rw [hand2]
          refine br_c (fun hz => ?_) (fun hz => ?_)
          · refine hP f (by omega) ca cm on h1 ?_
            rw [h2, hst, hz, Nat.mul_zero, Nat.add_zero]
          · refine hK k b (by omega) hbN _ _ _ ?_
            rw [bI_z]
            refine br_c (fun hk0 => ?_) (fun hk1 => ?_)
            · refine hP f (by omega) _ _ on h1 ?_
              rw [h2, hst, hed, hk0]; simp only [Bool.false_eq_true, if_false, Nat.zero_mul, Nat.add_zero]
            · have hk1 : K k b = true := by simpa using hk1
              refine ⟨(z_in (by omega)).mpr (by omega), (z_in (by omega)).mpr (by omega), nm_e ⟨(z_in (by omega)).mpr (by omega), ?_⟩⟩
              rw [nI_clamp (by omega)]
              refine hP f (by omega) _ _ _ (fun s hs1 hs2 => ?_) ?_
              · rw [pk_uLn (by omega)]; exact h1 s hs1 hs2
              · rw [pk_uLs, h2, hst, hed, hk1, lN_add, Nat.add_assoc]; simp only [if_true, Nat.one_mul]
      have entry : ∀ (v : Nat), v = (if k = 2 ^ (2 * n) - 1 then 1 else 0) → wp_X11_counts_b27 Q cc cp cq g mate (wp_X11_counts_b5 Q cc cp cq g mate (k + 1)) (nI k) (nI k) (lN v) ca cm on := by
        intro v hv
        have hon : ∀ s, k < s → s < 2 ^ (2 * n) → vp_updL on k (lN v) s = lN (B s) := fun s h1 h2 => by rw [pk_uLn (by omega)]; exact h s (by omega) h2
        unfold wp_X11_counts_b27
        refine ⟨(z_in (by omega)).mpr (by omega), ?_⟩
        rw [nI_clamp (by omega), e_isState (by omega), zl 0, bI_z]
        unfold wp_X11_counts_b45
        refine br_c (fun hz => ?_) (fun hz => ?_)
        · refine ⟨1, inner 0 (fun h => ?_) (fun _ => rfl) 0 (sb_0 0) 1 (by omega) ca cm _ hon ?_⟩
          · rw [hz] at h; cases h
          · rw [pk_uLs, hv, sm_z (fun c _ => if_neg (fun h => by have := sb_le h.2; omega)), Nat.add_zero]
        · have hz : vl k = true := by simpa using hz
          refine s_next h0 hn (by omega) ⟨nx k n + 1, inner (nx k n) (fun _ => rfl) (fun h => ?_) (nx k n) (sb_self _) _ (by omega) ca cm _ hon ?_⟩
          · rw [hz] at h; cases h
          · rw [pk_uLs, hv, sb_done _ (nx_lt k n), Nat.add_zero]
      unfold wp_X11_counts_b5
      rw [pk_m1]
      refine br_f (nI_pos (by omega)) ?_
      rw [e_full h0 hn, nI_eq (by omega) (by omega)]
      refine br_c (fun q => ?_) (fun q => ?_)
      · exact entry 1 (by rw [if_pos q])
      · exact entry 0 (by rw [if_neg q])
  unfold wp_X11_counts
  rw [e_full h0 hn]
  refine ⟨2 ^ (2 * n) + 1, ?_⟩
  have := main (2 ^ (2 * n)) (Nat.le_refl _) ca cm on (fun s h1 h2 => by omega)
  have e : nI (2 ^ (2 * n)) + (-1) = nI (2 ^ (2 * n) - 1) := by
    obtain ⟨k, hk⟩ : ∃ k, 2 ^ (2 * n) = k + 1 := ⟨2 ^ (2 * n) - 1, by omega⟩
    rw [hk, pk_m1, Nat.add_sub_cancel]
  rw [e] at this
  exact this
