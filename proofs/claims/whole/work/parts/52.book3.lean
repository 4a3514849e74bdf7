/-! STATUS, COUNT, DIGEST, TYPE, CLEAR -/
theorem d_status {p : Int32} {rf : Nat → Int32} {Q : Int32 → (Nat → Int32) → Prop} (hQ0 : iN p 3 = false → Q (-1) (ri rf 0)) (hQ1 : iN p 3 = true → Q (rf p.toNatClampNeg) rf) : wp_X10_status p rf Q := by
  unfold wp_X10_status wp_X10_status_b9
  rw [show (2 : Int32) = nI 2 from rfl, le_lt (by omega)]
  refine br_c (fun z => t_refB (hQ0 (iN_lo (by omega) z))) (fun z => br_c (fun z2 => ?_) (fun z2 => t_refB (hQ0 (iN_hi (by omega) (Decidable.not_not.mp z2)))))
  have h := iN_in (N := 3) (by omega) z z2
  obtain ⟨h1, h2⟩ := iN_c (by omega) h
  exact ⟨by rw [h2]; exact vi h1 (by omega), hQ1 h⟩
theorem r_status {p : Int32} {rf : Nat → Int32} {Q : Int32 → (Nat → Int32) → Prop} (hQ0 : iN p 3 = false → Q (-1) (ri rf 0)) (hQ1 : iN p 3 = true → Q (rf p.toNatClampNeg) rf) : wp_X11_status p rf Q := by
  unfold wp_X11_status
  refine t_in (N := 3) (by omega) rfl ?_
  rw [zbR]
  split
  · rename_i h
    obtain ⟨h1, h2⟩ := iN_c (by omega) h
    exact ⟨by rw [h2]; exact vi h1 (by omega), hQ1 h⟩
  · rename_i h
    exact t_refuses (i := 0) (by omega) rfl (hQ0 (Bool.eq_false_iff.mpr h))
/-- how many ends of the first k the watch tells of -/
def wcn (g : Nat → Int32) : Nat → Nat := fb_ct (fun e => !decide (g (46 + e) = -1))
theorem wcn_all {g : Nat → Int32} {n m : Nat} {kd oa ob : Nat → Nat} (h : BK g n m kd oa ob) : wcn g 12 = wcn g (2 * n) := by
  have hn := h.1.2.2.1
  have : ∀ d, 2 * n + d ≤ 12 → wcn g (2 * n + d) = wcn g (2 * n) := by
    intro d
    induction d with
    | zero => intro _; rfl
    | succ d ih =>
      intro hd
      have e := ih (by omega)
      unfold wcn at e ⊢
      rw [show 2 * n + (d + 1) = (2 * n + d) + 1 from rfl, fb_ct, e, h.2.2.1 (2 * n + d) (by omega) (by omega)]
      rfl
  have h2 := this (12 - 2 * n) (by omega)
  rw [show 2 * n + (12 - 2 * n) = 12 by omega] at h2
  exact h2
theorem d_watched {g wa : Nat → Int32} {n : Nat} {Q : Int32 → Prop} (hn : n < 7) (h : ∀ e, e < 2 * n → wa e = g (46 + e)) (hQ : Q (nI (wcn g (2 * n)))) : wp_X4_watched (nI n) wa Q := by
  have main : ∀ (d k : Nat), k + d = 2 * n → wp_X4_watched_b4 Q (nI n) wa (d + 1) (nI (wcn g k)) (nI k) := by
    intro d
    induction d with
    | zero =>
      intro k hk
      obtain rfl : k = 2 * n := by omega
      unfold wp_X4_watched_b4
      rw [zl 2, pk_mul]
      exact br_t (nI_le (by omega) (by omega)) hQ
    | succ d ih =>
      intro k hk
      have ih := ih (k + 1) (by omega)
      unfold wp_X4_watched_b4 wp_X4_watched_b27
      rw [show (2 : Int32) = nI 2 from rfl, pk_mul, nI_clamp (by omega), h k (by omega), nI_1]
      refine br_f (nI_ge (by omega) (by omega)) ⟨vi (by omega) (by omega), br_c (fun z => ?_) (fun z => ?_)⟩
      · unfold wcn at ih ⊢; rw [fb_ct, decide_eq_true z] at ih; exact ih
      · unfold wcn at ih ⊢; rw [fb_ct, decide_eq_false z] at ih; rw [nI_1]; exact ih
  unfold wp_X4_watched
  exact ⟨_, main (2 * n) 0 (by omega)⟩
theorem r_counted {g : Nat → Int32} {n m L k : Nat} {Q : Int32 → Prop} (hk : k < 4) (h0 : g 0 = nI n) (h1 : g 1 = nI m) (hQ : Q (if k = 0 then nI n else if k = 1 then nI m else if k = 2 then nI (wcn g 12) else nI L)) : wp_X11_counted (nI k) (nI L) g Q := by
  have main : ∀ (d e : Nat), e + d = 12 → wp_X11_counted_b4 Q (nI L) g (d + 1) (nI k) (nI (wcn g e)) (nI e) := by
    intro d
    induction d with
    | zero =>
      intro e he
      obtain rfl : e = 12 := by omega
      unfold wp_X11_counted_b4 wp_X11_counted_b37
      rw [show (0 : Int32).toNatClampNeg = 0 from rfl, show (1 : Int32).toNatClampNeg = 1 from rfl, h0, h1, show (0 : Int32) = nI 0 from rfl, show (1 : Int32) = nI 1 from rfl, show (2 : Int32) = nI 2 from rfl, nI_eq (by omega) (by omega), nI_eq (by omega) (by omega), nI_eq (by omega) (by omega)]
      refine br_t (nI_le (a := 12) (by omega) (by omega)) (br_c (fun z => ?_) (fun z => br_c (fun z1 => ?_) (fun z1 => br_c (fun z2 => ?_) (fun z2 => ?_))))
      · rw [if_pos z] at hQ; exact ⟨vi (by omega) (by omega), hQ⟩
      · rw [if_neg z, if_pos z1] at hQ; exact ⟨vi (by omega) (by omega), hQ⟩
      · rw [if_neg z, if_neg z1, if_pos z2] at hQ; exact hQ
      · rw [if_neg z, if_neg z1, if_neg z2] at hQ; exact hQ
    | succ d ih =>
      intro e he
      have ih := ih (e + 1) (by omega)
      unfold wp_X11_counted_b4 wp_X11_counted_b29
      rw [show (46 : Int32) = nI 46 from rfl, nI_add, nI_clamp (by omega), nI_1]
      refine br_f (nI_ge (b := 12) (by omega) (by omega)) ⟨vi (by omega) (by omega), br_c (fun z => ?_) (fun z => ?_)⟩
      · unfold wcn at ih ⊢; rw [fb_ct, decide_eq_true z] at ih; rw [show (0 : Int32) = nI 0 from rfl, nI_add]; exact ih
      · unfold wcn at ih ⊢; rw [fb_ct, decide_eq_false z] at ih; rw [show (1 : Int32) = nI 1 from rfl, nI_add]; exact ih
  unfold wp_X11_counted
  exact ⟨13, main 12 0 rfl⟩
def cntS (g : Nat → Int32) (n m L k : Nat) : Int32 := if k = 0 then nI n else if k = 1 then nI m else if k = 2 then nI (wcn g 12) else nI L
theorem r_count {g rf : Nat → Int32} {n m L : Nat} {p : Int32} {Q : Int32 → (Nat → Int32) → Prop} (h0 : g 0 = nI n) (h1 : g 1 = nI m) (hQ0 : iN p 4 = false → Q (-2) (ri rf 0)) (hQ1 : iN p 4 = true → Q (cntS g n m L p.toNatClampNeg) rf) : wp_X11_count p (nI L) g rf Q := by
  unfold wp_X11_count
  refine t_in (N := 4) (by omega) rfl ?_
  rw [zbR]
  split
  · rename_i h
    replace hQ1 := hQ1 h
    obtain ⟨i1, i2⟩ := iN_c (by omega) h
    generalize p.toNatClampNeg = k at i1 i2 hQ1
    subst i2
    exact r_counted i1 h0 h1 hQ1
  · rename_i h
    exact t_bad (hQ0 (Bool.eq_false_iff.mpr h))
theorem d_count {g wa rf : Nat → Int32} {n m L : Nat} {kd oa ob : Nat → Nat} {p : Int32} {Q : Int32 → (Nat → Int32) → Prop} (hb : BK g n m kd oa ob) (h : ∀ e, e < 2 * n → wa e = g (46 + e)) (hQ0 : iN p 4 = false → Q (-2) (ri rf 0)) (hQ1 : iN p 4 = true → Q (cntS g n m L p.toNatClampNeg) rf) : wp_X10_count p (nI n) (nI m) wa (nI L) rf Q := by
  have hn := hb.1.2.2.1
  unfold wp_X10_count
  unfold cntS at hQ1
  rw [wcn_all hb] at hQ1
  refine br_c (fun z => ?_) (fun z => br_c (fun z1 => ?_) (fun z1 => br_c (fun z2 => ?_) (fun z2 => br_c (fun z3 => ?_) (fun z3 => ?_))))
  · subst z; exact hQ1 (iN_n (e := 0) (by omega))
  · subst z1; exact hQ1 (iN_n (e := 1) (by omega))
  · subst z2; exact d_watched hn h (hQ1 (iN_n (e := 2) (by omega)))
  · subst z3; exact hQ1 (iN_n (e := 3) (by omega))
  · refine t_refB (hQ0 ?_)
    cases q : iN p 4 with
    | false => rfl
    | true =>
      obtain ⟨e, he, rfl⟩ := iN_t.mp q
      have e0 : e ≠ 0 := fun t => z (by rw [t]; rfl)
      have e1 : e ≠ 1 := fun t => z1 (by rw [t]; rfl)
      have e2 : e ≠ 2 := fun t => z2 (by rw [t]; rfl)
      have e3 : e ≠ 3 := fun t => z3 (by rw [t]; rfl)
      omega
/-! DIGEST -/
def dg1 (h : Int64) (x : Int32) : Int64 := 31 * h + x.toInt64
def dgT (g : Nat → Int32) (h : Int64) : Nat → Int64
  | 0 => h
  | t + 1 => dg1 (dg1 (dgT g h t) (g (2 + t))) (g (8 + t))
def dgS (g : Nat → Int32) (h : Int64) : Nat → Int64
  | 0 => h
  | t + 1 => dg1 (dg1 (dg1 (dg1 (dgS g h t) (g (14 + t))) (g (22 + t))) (g (30 + t))) (g (38 + t))
def dgW (g : Nat → Int32) (h : Int64) : Nat → Int64
  | 0 => h
  | t + 1 => dg1 (dgW g h t) (g (46 + t))
def dgst (g : Nat → Int32) (n m L : Nat) : Int64 := dgW g (dgS g (dgT g (dg1 (dg1 (dg1 (dg1 709 (nI n)) (nI m)) (nI (wcn g 12))) (nI L)) n) m) (2 * n)
theorem d_digest {g wh sr wa ck ca cb cy : Nat → Int32} {n m L : Nat} {th sy : Int32} {kd oa ob : Nat → Nat} {Q : Int64 → Prop} (hb : BK g n m kd oa ob) (h : HX g n m th sy wh sr wa ck ca cb cy) (hQ : Q (dgst g n m L)) : wp_X4_digestWith (nI L) th sy wh sr wa ck ca cb cy Q := by
  have hn := hb.1.2.2.1
  have hm := hb.1.2.2.2.1
  obtain ⟨rfl, rfl, h3, h4, h5⟩ := h
  unfold dgst at hQ
  rw [wcn_all hb] at hQ
  have W : ∀ x0 : Int64, Q (dgW g x0 (2 * n)) → ∀ (d k : Nat), k + d = 2 * n → wp_X4_digestWith_b178 Q (nI n) wa (d + 1) (dgW g x0 k) (nI k) := by
    intro x0 hq d
    induction d with
    | zero =>
      intro k hk
      obtain rfl : k = 2 * n := by omega
      unfold wp_X4_digestWith_b178
      rw [show (2 : Int32) = nI 2 from rfl, pk_mul]
      exact br_t (nI_le (by omega) (by omega)) hq
    | succ d ih =>
      intro k hk
      unfold wp_X4_digestWith_b178
      rw [show (2 : Int32) = nI 2 from rfl, pk_mul, nI_clamp (by omega), h4 k (by omega), nI_1]
      exact br_f (nI_ge (by omega) (by omega)) ⟨vi (by omega) (by omega), nm_e (ih (k + 1) (by omega))⟩
  have S : ∀ x0 : Int64, Q (dgW g (dgS g x0 m) (2 * n)) → ∀ (d k : Nat), k + d = m → wp_X4_digestWith_b100 Q (nI n) (nI m) wa ck ca cb cy (d + 1) (dgS g x0 k) (nI k) := by
    intro x0 hq d
    induction d with
    | zero =>
      intro k hk
      obtain rfl : k = m := by omega
      unfold wp_X4_digestWith_b100 wp_X4_digestWith_b175
      exact br_t (nI_le (by omega) (by omega)) ⟨_, W _ hq (2 * n) 0 (by omega)⟩
    | succ d ih =>
      intro k hk
      obtain ⟨q1, q2, q3, q4⟩ := h5 k (by omega)
      unfold wp_X4_digestWith_b100
      rw [nI_clamp (by omega), q1, q2, q3, q4, nI_1]
      have i : vp_in (nI k) 8 := vi (by omega) (by omega)
      exact br_f (nI_ge (by omega) (by omega)) ⟨i, nm_e ⟨i, nm_e ⟨i, nm_e ⟨i, nm_e (ih (k + 1) (by omega))⟩⟩⟩⟩
  have T : ∀ x0 : Int64, Q (dgW g (dgS g (dgT g x0 n) m) (2 * n)) → ∀ (d k : Nat), k + d = n → wp_X4_digestWith_b52 Q (nI n) (nI m) wh sr wa ck ca cb cy (d + 1) (dgT g x0 k) (nI k) := by
    intro x0 hq d
    induction d with
    | zero =>
      intro k hk
      obtain rfl : k = n := by omega
      unfold wp_X4_digestWith_b52 wp_X4_digestWith_b97
      exact br_t (nI_le (by omega) (by omega)) ⟨_, S _ hq m 0 (by omega)⟩
    | succ d ih =>
      intro k hk
      obtain ⟨q1, q2⟩ := h3 k (by omega)
      unfold wp_X4_digestWith_b52
      rw [nI_clamp (by omega), q1, q2, nI_1]
      have i : vp_in (nI k) 6 := vi (by omega) (by omega)
      exact br_f (nI_ge (by omega) (by omega)) ⟨i, nm_e ⟨i, nm_e (ih (k + 1) (by omega))⟩⟩
  unfold wp_X4_digestWith
  refine nm_e (nm_e (d_watched hn h4 (nm_e (nm_e ⟨n + 1, T _ hQ n 0 (by omega)⟩))))
theorem r_digest {g : Nat → Int32} {n m L : Nat} {Q : Int64 → Prop} (h0 : g 0 = nI n) (h1 : g 1 = nI m) (hn : n < 7) (hm : m < 9) (hQ : Q (dgst g n m L)) : wp_X11_digest (nI L) g Q := by
  have i0 : vp_in (0 : Int32) 58 := vi (k := 0) (by omega) (by omega)
  have i1 : vp_in (1 : Int32) 58 := vi (k := 1) (by omega) (by omega)
  have c0 : (0 : Int32).toNatClampNeg = 0 := rfl
  have c1 : (1 : Int32).toNatClampNeg = 1 := rfl
  unfold dgst at hQ
  have W : ∀ x0 : Int64, Q (dgW g x0 (2 * n)) → ∀ (d k : Nat), k + d = 2 * n → wp_X11_digest_b163 Q g (d + 1) (dgW g x0 k) (nI k) := by
    intro x0 hq d
    induction d with
    | zero =>
      intro k hk
      obtain rfl : k = 2 * n := by omega
      unfold wp_X11_digest_b163
      rw [c0, h0, show (2 : Int32) = nI 2 from rfl, pk_mul]
      exact ⟨i0, br_t (nI_le (by omega) (by omega)) hq⟩
    | succ d ih =>
      intro k hk
      unfold wp_X11_digest_b163
      rw [c0, h0, show (2 : Int32) = nI 2 from rfl, pk_mul, show (46 : Int32) = nI 46 from rfl, nI_add, nI_clamp (by omega), nI_1]
      exact ⟨i0, br_f (nI_ge (by omega) (by omega)) ⟨vi (by omega) (by omega), nm_e (ih (k + 1) (by omega))⟩⟩
  have S : ∀ x0 : Int64, Q (dgW g (dgS g x0 m) (2 * n)) → ∀ (d k : Nat), k + d = m → wp_X11_digest_b81 Q g (d + 1) (dgS g x0 k) (nI k) := by
    intro x0 hq d
    induction d with
    | zero =>
      intro k hk
      obtain rfl : k = m := by omega
      unfold wp_X11_digest_b81 wp_X11_digest_b161
      rw [c1, h1]
      exact ⟨i1, br_t (nI_le (by omega) (by omega)) ⟨_, W _ hq (2 * n) 0 (by omega)⟩⟩
    | succ d ih =>
      intro k hk
      unfold wp_X11_digest_b81
      rw [c1, h1, zl 14, zl 22, zl 30, zl 38, nI_add, nI_add, nI_add, nI_add, nI_clamp (by omega), nI_clamp (by omega), nI_clamp (by omega), nI_clamp (by omega), nI_1]
      exact ⟨i1, br_f (nI_ge (by omega) (by omega)) ⟨vi (by omega) (by omega), vi (by omega) (by omega), nm_e ⟨vi (by omega) (by omega), vi (by omega) (by omega), nm_e (ih (k + 1) (by omega))⟩⟩⟩
  have T : ∀ x0 : Int64, Q (dgW g (dgS g (dgT g x0 n) m) (2 * n)) → ∀ (d k : Nat), k + d = n → wp_X11_digest_b32 Q g (d + 1) (dgT g x0 k) (nI k) := by
    intro x0 hq d
    induction d with
    | zero =>
      intro k hk
      obtain rfl : k = n := by omega
      unfold wp_X11_digest_b32 wp_X11_digest_b79
      rw [c0, h0]
      exact ⟨i0, br_t (nI_le (by omega) (by omega)) ⟨_, S _ hq m 0 (by omega)⟩⟩
    | succ d ih =>
      intro k hk
      unfold wp_X11_digest_b32
      rw [c0, h0, zl 2, zl 8, nI_add, nI_add, nI_clamp (by omega), nI_clamp (by omega), nI_1]
      exact ⟨i0, br_f (nI_ge (by omega) (by omega)) ⟨vi (by omega) (by omega), vi (by omega) (by omega), nm_e (ih (k + 1) (by omega))⟩⟩
  have st : ∀ (f k : Nat) (x : Int64) (P : Prop), k < 4 → (wp_X11_digest_b6 Q (nI L) g f (dg1 x (if k = 0 then nI n else if k = 1 then nI m else if k = 2 then nI (wcn g 12) else nI L)) (nI (k + 1))) → wp_X11_digest_b6 Q (nI L) g (f + 1) x (nI k) := by
    intro f k x P hk h
    rw [wp_X11_digest_b6]
    refine br_f (nI_ge (b := 4) (by omega) (by omega)) (r_counted hk h0 h1 (nm_e ?_))
    rw [nI_1]
    exact h
  unfold wp_X11_digest
  refine ⟨5, st 4 0 _ True (by omega) (st 3 1 _ True (by omega) (st 2 2 _ True (by omega) (st 1 3 _ True (by omega) ?_)))⟩
  unfold wp_X11_digest_b6 wp_X11_digest_b30
  exact br_t (nI_le (a := 4) (by omega) (by omega)) ⟨n + 1, T _ hQ n 0 (by omega)⟩
/-! TYPE -/
def byV (v : Int64) (k : Nat) : Int32 := (v >>> (((8 : Int32) * nI k).toInt64 &&& 63)).toInt32 &&& 255
theorem byV_lt (v : Int64) (k : Nat) : ∃ b, b < 256 ∧ byV v k = nI b := pk_andE _ 8 rfl
theorem byV_r (v : Int64) (k : Nat) : ((v >>> (((8 : Int32) * nI k).toInt64 &&& 63)) &&& (255 : Int64)).toInt32 = byV v k := by
  unfold byV
  rw [Int64.toInt32_and]
  rfl
def okTy (p : Int32) : Bool := !decide (p = 0) && iN p 9
def tyd (v : Int64) (L n : Nat) (tx tx' : Nat → Int32) : Prop := (∀ i, i < L → tx' i = tx i) ∧ ∀ j, j < n → tx' (L + j) = byV v (n - 1 - j)
theorem okTy_c {p : Int32} (h : okTy p = true) : ∃ n, 0 < n ∧ n < 9 ∧ p = nI n := by
  unfold okTy at h
  simp only [Bool.and_eq_true, Bool.not_eq_true', decide_eq_false_iff_not] at h
  obtain ⟨e, he, rfl⟩ := iN_t.mp h.2
  exact ⟨e, by rcases Nat.eq_zero_or_pos e with z | z; exact absurd (by rw [z]; rfl) h.1; exact z, he, rfl⟩
theorem okTy_lo {p : Int32} (h : p < 1) : okTy p = false := by
  unfold okTy
  rcases pk_ix p (n := 9) (by omega) with z | z | ⟨j, hj, rfl⟩
  · rw [iN_lo (by omega) z, Bool.and_false]
  · rw [iN_hi (by omega) z, Bool.and_false]
  · have : j < 1 := (nI_ltI (b := 1) (by omega) (by omega)).mp h
    obtain rfl : j = 0 := by omega
    rfl
theorem okTy_t {p : Int32} (h1 : ¬ p < 1) (h2 : p ≤ 8) : okTy p = true := by
  rw [show (8 : Int32) = nI 8 from rfl, le_lt (by omega)] at h2
  have h0 : ¬ p < 0 := fun z => h1 (by
    rw [Int32.lt_iff_toInt_lt] at z ⊢
    have a1 : (0 : Int32).toInt = 0 := rfl
    have a2 : (1 : Int32).toInt = 1 := rfl
    omega)
  unfold okTy
  rw [iN_in (N := 9) (by omega) h0 h2, decide_eq_false (fun z => h1 (by rw [z]; decide))]; rfl
theorem okTy_hi {p : Int32} (h2 : ¬ p ≤ 8) : okTy p = false := by
  rw [show (8 : Int32) = nI 8 from rfl, le_lt (by omega), Decidable.not_not] at h2
  unfold okTy
  rw [iN_hi (by omega) h2, Bool.and_false]
theorem d_add {v : Int64} {n L : Nat} {tx : Nat → Int32} {Q : Int32 → (Nat → Int32) → Prop} (hn : 0 < n) (hn9 : n < 9) (hL : L + n ≤ 200) (hQ : ∀ tx', tyd v L n tx tx' → Q (nI (L + n)) tx') : wp_X6_add v (nI n) (nI L) tx Q := by
  have main : ∀ (k : Nat) (tx' : Nat → Int32), k ≤ n → (∀ i, i < L → tx' i = tx i) → (∀ j, j < n - k → tx' (L + j) = byV v (n - 1 - j)) → wp_X6_add_b5 Q (k + 1) v (nI k + (-1)) (nI (L + (n - k))) tx' := by
    intro k
    induction k with
    | zero =>
      intro tx' hk h1 h2
      unfold wp_X6_add_b5
      exact br_t (by decide) (hQ tx' ⟨h1, h2⟩)
    | succ k ih =>
      intro tx' hk h1 h2
      unfold wp_X6_add_b5
      rw [pk_m1]
      refine br_f (nI_pos (by omega)) (nm_e ⟨vi (by omega) (by omega), ?_⟩)
      rw [nI_clamp (by omega), show (nI (L + (n - (k + 1))) + 1 : Int32) = nI (L + (n - k)) by rw [nI_1]; congr 1; omega]
      refine ih _ (by omega) (fun i hi => ?_) (fun j hj => ?_)
      · rw [pk_un (by omega)]; exact h1 i hi
      · by_cases z : j = n - (k + 1)
        · subst z
          rw [pk_us, show n - 1 - (n - (k + 1)) = k by omega]; rfl
        · rw [pk_un (by omega)]; exact h2 j (by omega)
  unfold wp_X6_add
  have := main n tx (Nat.le_refl _) (fun i _ => rfl) (fun j hj => by omega)
  rw [Nat.sub_self] at this
  refine ⟨n + 1, ?_⟩
  rw [Int32.sub_eq_add_neg]
  exact this
theorem d_type {v : Int64} {p : Int32} {L : Nat} {tx rf : Nat → Int32} {Q : Int32 → Int32 → (Nat → Int32) → (Nat → Int32) → Prop} (hL : L ≤ 200)
    (hQ0 : okTy p = false → Q (-2) (nI L) tx (ri rf 0)) (hQ1 : okTy p = true → 200 < L + p.toNatClampNeg → Q (-4) (nI L) tx (ri rf 2)) (hQ2 : okTy p = true → L + p.toNatClampNeg ≤ 200 → ∀ tx', tyd v L p.toNatClampNeg tx tx' → Q (nI (L + p.toNatClampNeg)) (nI (L + p.toNatClampNeg)) tx' rf) : wp_X10_type v p (nI L) tx rf Q := by
  unfold wp_X10_type wp_X10_type_b11
  refine br_c (fun z => t_refB (hQ0 (okTy_lo z))) (fun z => br_c (fun z2 => ?_) (fun z2 => t_refB (hQ0 (okTy_hi z2))))
  have hk := okTy_t z z2
  obtain ⟨n, h0, h9, rfl⟩ := okTy_c hk
  replace hQ1 := hQ1 hk
  replace hQ2 := hQ2 hk
  rw [nI_clamp (by omega)] at hQ1 hQ2
  rw [nI_add, show (200 : Int32) = nI 200 from rfl, nI_leI (by omega) (by omega)]
  exact br_c (fun z3 => d_add h0 h9 z3 (fun tx' h => hQ2 z3 tx' h)) (fun z3 => t_refF (hQ1 (by omega)))
theorem r_type {v : Int64} {p : Int32} {L : Nat} {tx rf : Nat → Int32} {Q : Int32 → Int32 → (Nat → Int32) → (Nat → Int32) → Prop} (hL : L ≤ 200)
    (hQ0 : okTy p = false → Q (-2) (nI L) tx (ri rf 0)) (hQ1 : okTy p = true → 200 < L + p.toNatClampNeg → Q (-4) (nI L) tx (ri rf 2)) (hQ2 : okTy p = true → L + p.toNatClampNeg ≤ 200 → ∀ tx', tyd v L p.toNatClampNeg tx tx' → Q (nI (L + p.toNatClampNeg)) (nI (L + p.toNatClampNeg)) tx' rf) : wp_X11_type v p (nI L) tx rf Q := by
  unfold wp_X11_type wp_X11_in
  rw [show (8 : Int32) = nI (9 - 1) from rfl, lt_le1 (by omega) (by omega)]
  have e : (nI 9 ≤ p) = ¬ p ≤ 8 := by rw [show (8 : Int32) = nI 8 from rfl, le_lt (by omega), Decidable.not_not]
  rw [e]
  refine br_c (fun z => br_t rfl (t_bad (hQ0 (okTy_lo z)))) (fun z => br_c (fun z2 => br_t rfl (t_bad (hQ0 (okTy_hi z2)))) (fun z2 => br_f (by decide) ?_))
  have z2 : p ≤ 8 := Decidable.not_not.mp z2
  have hk := okTy_t z z2
  obtain ⟨n, h0, h9, rfl⟩ := okTy_c hk
  replace hQ1 := hQ1 hk
  replace hQ2 := hQ2 hk
  rw [nI_clamp (by omega)] at hQ1 hQ2
  rw [nI_add, show (200 : Int32) = nI 200 from rfl, nI_leI (by omega) (by omega)]
  refine br_c (fun z3 => ?_) (fun z3 => t_refuses (i := 2) (by omega) rfl (hQ1 (by omega)))
  have main : ∀ (k : Nat) (tx' : Nat → Int32), k ≤ n → (∀ i, i < L → tx' i = tx i) → (∀ j, j < n - k → tx' (L + j) = byV v (n - 1 - j)) → wp_X11_type_b40 Q (k + 1) v (nI k + (-1)) (nI (L + (n - k))) tx' rf := by
    intro k
    induction k with
    | zero =>
      intro tx' hk h1 h2
      unfold wp_X11_type_b40
      exact br_t (by decide) (hQ2 z3 tx' ⟨h1, h2⟩)
    | succ k ih =>
      intro tx' hk h1 h2
      unfold wp_X11_type_b40
      rw [pk_m1, byV_r]
      refine br_f (nI_pos (by omega)) (nm_e ⟨vi (by omega) (by omega), ?_⟩)
      rw [nI_clamp (by omega), show (nI (L + (n - (k + 1))) + 1 : Int32) = nI (L + (n - k)) by rw [nI_1]; congr 1; omega]
      refine ih _ (by omega) (fun i hi => ?_) (fun j hj => ?_)
      · rw [pk_un (by omega)]; exact h1 i hi
      · by_cases z : j = n - (k + 1)
        · subst z
          rw [pk_us, show n - 1 - (n - (k + 1)) = k by omega]
        · rw [pk_un (by omega)]; exact h2 j (by omega)
  have := main n tx (Nat.le_refl _) (fun i _ => rfl) (fun j hj => by omega)
  rw [Nat.sub_self] at this
  refine ⟨n + 1, ?_⟩
  rw [Int32.sub_eq_add_neg]
  exact this
theorem d_notBy {g cy : Nat → Int32} {m : Nat} {p : Int32} {Q : Int32 → Prop} (hm : m < 9) (h : ∀ k, k < m → cy k = g (38 + k)) (hQ : Q (nI (lo (fun k => !decide (g (38 + k) = p)) m))) : wp_X4_sayingsNotBy p (nI m) cy Q := by
  have main : ∀ (d k : Nat), k + d = m → wp_X4_sayingsNotBy_b4 Q (nI m) cy (d + 1) p (nI (lo (fun k => !decide (g (38 + k) = p)) k)) (nI k) := by
    intro d
    induction d with
    | zero =>
      intro k hk
      obtain rfl : k = m := by omega
      unfold wp_X4_sayingsNotBy_b4
      exact br_t (nI_le (by omega) (by omega)) hQ
    | succ d ih =>
      intro k hk
      have ih := ih (k + 1) (by omega)
      unfold wp_X4_sayingsNotBy_b4 wp_X4_sayingsNotBy_b28
      rw [nI_clamp (by omega), h k (by omega), nI_1, show (31 : Int32) = nI 31 from rfl, show (1 : Int32) = nI 1 from rfl, z_one (by omega), fa_or]
      rw [lo_or] at ih
      refine br_f (nI_ge (by omega) (by omega)) ⟨vi (by omega) (by omega), br_c (fun q => ?_) (fun q => nm_e ?_)⟩
      · rw [if_neg (by simp [q]), Nat.or_zero] at ih; exact ih
      · rw [if_pos (by simp [q])] at ih; exact ih
  unfold wp_X4_sayingsNotBy
  exact ⟨m + 1, main m 0 (by omega)⟩
