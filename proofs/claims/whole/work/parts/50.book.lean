/-! the book and the class's history -/
def iN (p : Int32) (N : Nat) : Bool := oB (fun e => decide (p = nI e)) N
theorem iN_t {p : Int32} {N : Nat} : iN p N = true ↔ ∃ e, e < N ∧ p = nI e := by
  unfold iN
  rw [oB_iff]
  exact ⟨fun ⟨k, h, q⟩ => ⟨k, h, of_decide_eq_true q⟩, fun ⟨k, h, q⟩ => ⟨k, h, decide_eq_true q⟩⟩
theorem iN_c {p : Int32} {N : Nat} (hN : N < 2 ^ 31) (h : iN p N = true) : p.toNatClampNeg < N ∧ p = nI p.toNatClampNeg := by
  obtain ⟨e, he, rfl⟩ := iN_t.mp h
  rw [nI_clamp (by omega)]
  exact ⟨he, rfl⟩
theorem iN_n {e N : Nat} (h : e < N) : iN (nI e) N = true := iN_t.mpr ⟨e, h, rfl⟩
theorem iN_lo {p : Int32} {N : Nat} (hN : N < 2 ^ 31) (h : p < 0) : iN p N = false := by
  cases q : iN p N with
  | false => rfl
  | true => obtain ⟨e, he, rfl⟩ := iN_t.mp q; exact absurd h (nI_pos (by omega))
theorem iN_hi {p : Int32} {N : Nat} (hN : N < 2 ^ 31) (h : nI N ≤ p) : iN p N = false := by
  cases q : iN p N with
  | false => rfl
  | true => obtain ⟨e, he, rfl⟩ := iN_t.mp q; exact absurd ((nI_leI hN (by omega)).mp h) (by omega)
theorem iN_in {p : Int32} {N : Nat} (hN : N < 2 ^ 31) (h1 : ¬ p < 0) (h2 : ¬ nI N ≤ p) : iN p N = true := by
  rcases pk_ix p hN with h | h | ⟨j, hj, rfl⟩
  · exact absurd h h1
  · exact absurd h h2
  · exact iN_n hj
theorem pr_t {b : Int32} {N : Nat} {Q : Int32 → Prop} {p : Int32} (hN : N < 2 ^ 31) (hb : b = nI N) (hQ : Q (bI (iN p N))) : ((p < 0 → Q (0 : Int32)) ∧ (¬ p < 0 → ((b ≤ p → Q (0 : Int32)) ∧ (¬ b ≤ p → Q (1 : Int32))))) := by
  subst hb
  refine br_c (fun z => ?_) (fun z => br_c (fun z2 => ?_) (fun z2 => ?_))
  · rw [iN_lo hN z] at hQ; exact hQ
  · rw [iN_hi hN z2] at hQ; exact hQ
  · rw [iN_in hN z z2] at hQ; exact hQ
theorem t_isThing {n : Nat} {p : Int32} {Q : Int32 → Prop} (hn : n < 7) (hQ : Q (bI (iN p n))) : wp_X10_isThing p (nI n) Q := pr_t (by omega) rfl hQ
theorem t_isEnd {n : Nat} {p : Int32} {Q : Int32 → Prop} (hn : n < 7) (hQ : Q (bI (iN p (2 * n)))) : wp_X10_isEnd p (nI n) Q := pr_t (by omega) (pk_mul 2 n) hQ
theorem t_isPerson {p : Int32} {Q : Int32 → Prop} (hQ : Q (bI (iN p 4))) : wp_X10_isPerson p Q := pr_t (N := 4) (by omega) rfl hQ
theorem t_isEither {p : Int32} {Q : Int32 → Prop} (hQ : Q (bI (iN p 2))) : wp_X10_isEither p Q := by
  unfold wp_X10_isEither wp_X10_isEither_b9
  refine br_c (fun z => ?_) (fun z => br_c (fun z2 => ?_) (fun z2 => ?_))
  · rw [z, show iN (0 : Int32) 2 = true from iN_n (e := 0) (by omega)] at hQ; exact hQ
  · rw [z2, show iN (1 : Int32) 2 = true from iN_n (e := 1) (by omega)] at hQ; exact hQ
  · have : iN p 2 = false := by
      cases q : iN p 2 with
      | false => rfl
      | true =>
        obtain ⟨e, he, rfl⟩ := iN_t.mp q
        rcases Nat.lt_or_ge e 1 with h | h
        · exact absurd (by rw [show e = 0 by omega]; rfl) z
        · exact absurd (by rw [show e = 1 by omega]; rfl) z2
    rw [this] at hQ; exact hQ
/-- in, from 0 on -/
theorem lt_le1 {p : Int32} {N : Nat} (hN : 0 < N) (hN2 : N < 2 ^ 31) : (nI (N - 1) < p) ↔ nI N ≤ p := by
  rcases pk_ix p hN2 with h | h | ⟨j, hj, rfl⟩
  · constructor
    · intro q
      rw [Int32.lt_iff_toInt_lt] at q h
      rw [nI_toInt (by omega)] at q
      have : (0 : Int32).toInt = 0 := rfl
      omega
    · intro q
      rw [Int32.le_iff_toInt_le, nI_toInt hN2] at q
      rw [Int32.lt_iff_toInt_lt] at h
      have : (0 : Int32).toInt = 0 := rfl
      omega
  · refine ⟨fun _ => h, fun _ => ?_⟩
    rw [Int32.le_iff_toInt_le, nI_toInt hN2] at h
    rw [Int32.lt_iff_toInt_lt, nI_toInt (by omega)]
    omega
  · rw [nI_ltI (by omega) (by omega), nI_leI hN2 (by omega)]; omega
theorem t_in {p : Int32} {hi : Int32} {N : Nat} {Q : Int32 → Prop} (hN : N < 2 ^ 31) (hh : hi = nI N - 1) (hQ : Q (bI (iN p N))) : wp_X11_in p (0 : Int32) hi Q := by
  unfold wp_X11_in
  rcases Nat.eq_zero_or_pos N with rfl | h0
  · have e : iN p 0 = false := rfl
    rw [e] at hQ
    refine br_c (fun z => hQ) (fun z => br_t ?_ hQ)
    rw [hh, show (nI 0 - 1 : Int32) = (-1 : Int32) from rfl, Int32.lt_iff_toInt_lt, show (-1 : Int32).toInt = -1 from rfl]
    rw [Int32.lt_iff_toInt_lt, show (0 : Int32).toInt = 0 from rfl] at z
    omega
  · have e : hi = nI (N - 1) := by rw [hh, show (1 : Int32) = nI 1 from rfl, pk_sub h0]
    subst e
    rw [lt_le1 h0 hN]
    exact pr_t hN rfl hQ
/-- in, from -1 on -/
theorem t_inM {p : Int32} {hi : Int32} {N : Nat} {Q : Int32 → Prop} (h0 : 0 < N) (hN : N < 2 ^ 31) (hh : hi = nI (N - 1)) (hQ : Q (bI (decide (p = -1) || iN p N))) : wp_X11_in p (-1 : Int32) hi Q := by
  unfold wp_X11_in
  subst hh
  rw [lt_le1 h0 hN]
  by_cases e : p = -1
  · subst e
    refine br_f (by decide) (br_f ?_ hQ)
    rw [Int32.le_iff_toInt_le, nI_toInt hN, show (-1 : Int32).toInt = -1 from rfl]; omega
  · rw [decide_eq_false e, Bool.false_or] at hQ
    have em : (p < -1) ↔ p < 0 := by
      have e2 : p.toInt ≠ -1 := fun q => e (Int32.toInt_inj.mp (by rw [q]; rfl))
      rw [Int32.lt_iff_toInt_lt, Int32.lt_iff_toInt_lt, show (-1 : Int32).toInt = -1 from rfl, show (0 : Int32).toInt = 0 from rfl]; omega
    rw [em]
    exact pr_t hN rfl hQ
def ri (rf : Nat → Int32) (i : Nat) : Nat → Int32 := upd rf i (rf i + 1)
theorem t_refuse {i : Nat} {rf : Nat → Int32} {a r : Int32} {Q : Int32 → (Nat → Int32) → Prop} (hi : i < 3) (hr : (-2 : Int32) - r = nI i) (hQ : Q a (ri rf i)) : wp_X10_refuse r a rf Q := by
  unfold wp_X10_refuse
  rw [hr, nI_clamp (by omega)]
  exact ⟨(z_in (by omega)).mpr hi, nm_e ⟨(z_in (by omega)).mpr hi, hQ⟩⟩
theorem t_refB {rf : Nat → Int32} {a : Int32} {Q : Int32 → (Nat → Int32) → Prop} (hQ : Q a (ri rf 0)) : wp_X10_refuse (-2 : Int32) a rf Q := t_refuse (i := 0) (by omega) rfl hQ
theorem t_refN {rf : Nat → Int32} {a : Int32} {Q : Int32 → (Nat → Int32) → Prop} (hQ : Q a (ri rf 1)) : wp_X10_refuse (-3 : Int32) a rf Q := t_refuse (i := 1) (by omega) rfl hQ
theorem t_refF {rf : Nat → Int32} {a : Int32} {Q : Int32 → (Nat → Int32) → Prop} (hQ : Q a (ri rf 2)) : wp_X10_refuse (-4 : Int32) a rf Q := t_refuse (i := 2) (by omega) rfl hQ
theorem t_refuses {i : Nat} {rf : Nat → Int32} {a r : Int32} {Q : Int32 → (Nat → Int32) → Prop} (hi : i < 3) (hr : r = nI i) (hQ : Q a (ri rf i)) : wp_X11_refuses r a rf Q := by
  unfold wp_X11_refuses
  rw [hr, nI_clamp (by omega)]
  exact ⟨(z_in (by omega)).mpr hi, nm_e ⟨(z_in (by omega)).mpr hi, hQ⟩⟩
theorem t_bad {rf : Nat → Int32} {Q : Int32 → (Nat → Int32) → Prop} (hQ : Q (-2) (ri rf 0)) : wp_X11_bad rf Q := t_refuses (i := 0) (by omega) rfl hQ
theorem vi {k N : Nat} (h : k < N) (h2 : k < 2 ^ 31) : vp_in (nI k) N := (z_in h2).mpr h
theorem t_rThing {n : Nat} {p : Int32} {g : Nat → Int32} {Q : Int32 → Prop} (hn : n < 7) (h0 : g 0 = nI n) (hQ : Q (bI (iN p n))) : wp_X11_isThing p g Q := by
  unfold wp_X11_isThing
  refine ⟨vi (k := 0) (by omega) (by omega), t_in (N := n) (by omega) ?_ ⟨bI_n _, hQ⟩⟩
  rw [show (0 : Int32).toNatClampNeg = 0 from rfl, h0]
theorem t_rEnd {n : Nat} {p : Int32} {g : Nat → Int32} {Q : Int32 → Prop} (hn : n < 7) (h0 : g 0 = nI n) (hQ : Q (bI (iN p (2 * n)))) : wp_X11_isEnd p g Q := by
  unfold wp_X11_isEnd
  refine ⟨vi (k := 0) (by omega) (by omega), t_in (N := 2 * n) (by omega) ?_ ⟨bI_n _, hQ⟩⟩
  rw [show (0 : Int32).toNatClampNeg = 0 from rfl, h0, show (2 : Int32) = nI 2 from rfl, pk_mul]
/-- what the book holds beside -/
def BK (g : Nat → Int32) (n m : Nat) (kd oa ob : Nat → Nat) : Prop := HB g n m kd oa ob ∧ (∀ t, n ≤ t → t < 6 → g (2 + t) = -1 ∧ g (8 + t) = 0) ∧ (∀ e, 2 * n ≤ e → e < 12 → g (46 + e) = -1) ∧ (∀ t, t < n → g (8 + t) = 0 ∨ g (8 + t) = 1) ∧ (∀ e, e < 12 → g (46 + e) = -1 ∨ ∃ k, k < 100 ∧ g (46 + e) = nI k)
/-- the class's history is the book's -/
def HX (g : Nat → Int32) (n m : Nat) (th sy : Int32) (wh sr wa ck ca cb cy : Nat → Int32) : Prop := th = nI n ∧ sy = nI m ∧ (∀ t, t < n → wh t = g (2 + t) ∧ sr t = g (8 + t)) ∧ (∀ e, e < 2 * n → wa e = g (46 + e)) ∧ ∀ k, k < m → ck k = g (14 + k) ∧ ca k = g (22 + k) ∧ cb k = g (30 + k) ∧ cy k = g (38 + k)
theorem HC_of {g : Nat → Int32} {n m : Nat} {th sy : Int32} {wh sr wa ck ca cb cy : Nat → Int32} (h : HX g n m th sy wh sr wa ck ca cb cy) : HC g n m th sy wh ck ca cb :=
  ⟨h.1, h.2.1, fun t ht => (h.2.2.1 t ht).1, fun k hk => ⟨(h.2.2.2.2 k hk).1, (h.2.2.2.2 k hk).2.1, (h.2.2.2.2 k hk).2.2.1⟩⟩
/-! THING -/
theorem d_thing {f1 f2 f3 f4 : Int32} {n : Nat} {wh sr wa rf : Nat → Int32} {Q : Int32 → Int32 → Int32 → Int32 → Int32 → Int32 → (Nat → Int32) → (Nat → Int32) → (Nat → Int32) → (Nat → Int32) → Prop} (hn : n < 7)
    (hQ0 : n = 6 → Q (-4) f1 f2 f3 f4 (nI n) wh sr wa (ri rf 2)) (hQ1 : n < 6 → Q (nI n) 0 0 0 0 (nI (n + 1)) (upd wh n (-1)) (upd sr n 0) (upd (upd wa (2 * n) (-1)) (2 * n + 1) (-1)) rf) : wp_X10_thing f1 f2 f3 f4 (nI n) wh sr wa rf Q := by
  unfold wp_X10_thing wp_X10_changed wp_X4_addThing
  rw [zl 6, nI_ltI (by omega) (by omega), zl 2, pk_mul, show (1 : Int32) = nI 1 from rfl, nI_add, nI_add]
  refine br_c (fun z => ?_) (fun z => t_refF (hQ0 (by omega)))
  rw [nI_clamp (by omega), nI_clamp (by omega), nI_clamp (by omega)]
  exact ⟨vi (by omega) (by omega), vi (by omega) (by omega), vi (by omega) (by omega), vi (by omega) (by omega), hQ1 z⟩
theorem r_thing {n : Nat} {g rf : Nat → Int32} {Q : Int32 → (Nat → Int32) → (Nat → Int32) → Prop} (hn : n < 7) (h0 : g 0 = nI n)
    (hQ0 : n = 6 → Q (-4) g (ri rf 2)) (hQ1 : n < 6 → Q (nI n) (upd g 0 (nI (n + 1))) rf) : wp_X11_thing g rf Q := by
  have i0 : vp_in (0 : Int32) 58 := vi (k := 0) (by omega) (by omega)
  unfold wp_X11_thing
  rw [show (0 : Int32).toNatClampNeg = 0 from rfl, h0, zl 6, nI_eq (by omega) (by omega), show (1 : Int32) = nI 1 from rfl, nI_add]
  refine ⟨i0, br_c (fun z => t_refuses (i := 2) (by omega) rfl (hQ0 z)) (fun z => ⟨i0, nm_e ⟨i0, i0, ?_⟩⟩)⟩
  rw [pk_us, pk_sub (by omega)]
  exact hQ1 (by omega)
theorem HX_thing {g : Nat → Int32} {n m : Nat} {kd oa ob : Nat → Nat} {th sy : Int32} {wh sr wa ck ca cb cy : Nat → Int32} (hb : BK g n m kd oa ob) (h : HX g n m th sy wh sr wa ck ca cb cy) (hn : n < 6) : HX (upd g 0 (nI (n + 1))) (n + 1) m (nI (n + 1)) sy (upd wh n (-1)) (upd sr n 0) (upd (upd wa (2 * n) (-1)) (2 * n + 1) (-1)) ck ca cb cy := by
  obtain ⟨h1, h2, h3, h4, h5⟩ := h
  obtain ⟨-, b1, b2, -, -⟩ := hb
  refine ⟨rfl, h2, fun t ht => ?_, fun e he => ?_, fun k hk => ?_⟩
  · rw [pk_un (f := g) (by omega), pk_un (f := g) (by omega)]
    by_cases z : t = n
    · rw [z, pk_us, pk_us]; exact ⟨(b1 n (by omega) hn).1.symm, (b1 n (by omega) hn).2.symm⟩
    · rw [pk_un z, pk_un z]; exact h3 t (by omega)
  · rw [pk_un (f := g) (by omega)]
    by_cases z : e = 2 * n + 1
    · rw [z, pk_us]; exact (b2 _ (by omega) (by omega)).symm
    · rw [pk_un z]
      by_cases z2 : e = 2 * n
      · rw [z2, pk_us]; exact (b2 _ (by omega) (by omega)).symm
      · rw [pk_un z2]; exact h4 e (by omega)
  · rw [pk_un (by omega), pk_un (by omega), pk_un (by omega), pk_un (by omega)]; exact h5 k hk
theorem BK_thing {g : Nat → Int32} {n m : Nat} {kd oa ob : Nat → Nat} (hb : BK g n m kd oa ob) (hn : n < 6) : BK (upd g 0 (nI (n + 1))) (n + 1) m kd oa ob := by
  obtain ⟨⟨h0, h1, h2, h3, h4⟩, b1, b2, b3, b4⟩ := hb
  refine ⟨⟨pk_us, by rw [pk_un (by omega)]; exact h1, by omega, h3, fun k hk => ?_⟩, fun t ht h6 => ?_, fun e he h12 => ?_, fun t ht => ?_, fun e he => ?_⟩
  · rw [pk_un (by omega), pk_un (by omega), pk_un (by omega)]
    obtain ⟨a1, a2, a3, a4, a5, a6⟩ := h4 k hk
    exact ⟨a1, a2, a3, by omega, a5, by omega⟩
  · rw [pk_un (by omega), pk_un (by omega)]; exact b1 t (by omega) h6
  · rw [pk_un (by omega)]; exact b2 e (by omega) h12
  · rw [pk_un (by omega)]
    rcases Nat.lt_or_ge t n with z | z
    · exact b3 t z
    · exact Or.inl (b1 t z (by omega)).2
  · rw [pk_un (by omega)]; exact b4 e he
/-! OF -/
def okOf (p v : Int32) (n : Nat) : Bool := iN p n && (decide (v = -1) || iN v 4)
theorem d_of {f1 f2 f3 f4 p v : Int32} {n : Nat} {wh rf : Nat → Int32} {Q : Int32 → Int32 → Int32 → Int32 → Int32 → (Nat → Int32) → (Nat → Int32) → Prop} (hn : n < 7)
    (hQ0 : okOf p v n = false → Q (-10) f1 f2 f3 f4 wh (ri rf 0)) (hQ1 : okOf p v n = true → Q (wh p.toNatClampNeg) 0 0 0 0 (upd wh p.toNatClampNeg v) rf) : wp_X10_of p v f1 f2 f3 f4 (nI n) wh rf Q := by
  unfold wp_X10_of wp_X10_of_b20 wp_X10_of_b29 wp_X10_changed
  unfold okOf at hQ0 hQ1
  refine t_isThing hn ?_
  rw [zbR]
  split
  · rename_i h
    obtain ⟨h1, h2⟩ := iN_c (by omega) h
    have iv : vp_in p 6 := by rw [h2]; exact vi (by omega) (by omega)
    rw [h, Bool.true_and] at hQ0 hQ1
    refine br_c (fun z => ?_) (fun z => t_isPerson ?_)
    · rw [decide_eq_true z, Bool.true_or] at hQ1
      exact ⟨iv, nm_e ⟨iv, hQ1 rfl⟩⟩
    · rw [decide_eq_false z, Bool.false_or] at hQ0 hQ1
      rw [zbR]
      split
      · rename_i h3
        exact ⟨iv, nm_e ⟨iv, hQ1 h3⟩⟩
      · rename_i h3
        exact t_refB (hQ0 (by simpa using h3))
  · rename_i h
    exact t_refB (hQ0 (by rw [Bool.eq_false_iff.mpr h]; rfl))
theorem r_of {p v : Int32} {n : Nat} {g rf : Nat → Int32} {Q : Int32 → (Nat → Int32) → (Nat → Int32) → Prop} (hn : n < 7) (h0 : g 0 = nI n)
    (hQ0 : okOf p v n = false → Q (-10) g (ri rf 0)) (hQ1 : okOf p v n = true → Q (g (2 + p.toNatClampNeg)) (upd g (2 + p.toNatClampNeg) v) rf) : wp_X11_of p v g rf Q := by
  unfold wp_X11_of wp_X11_of_b17
  unfold okOf at hQ0 hQ1
  refine t_rThing hn h0 ?_
  rw [zbR]
  split
  · rename_i h
    obtain ⟨h1, h2⟩ := iN_c (by omega) h
    have iv : vp_in ((2 : Int32) + p) 58 := by rw [h2, show (2 : Int32) = nI 2 from rfl, nI_add]; exact vi (by omega) (by omega)
    have ie : ((2 : Int32) + p).toNatClampNeg = 2 + p.toNatClampNeg := by
      generalize p.toNatClampNeg = e at h1 h2
      rw [h2, show (2 : Int32) = nI 2 from rfl, nI_add, nI_clamp (by omega)]
    rw [h, Bool.true_and] at hQ0 hQ1
    refine t_inM (N := 4) (by omega) (by omega) rfl ?_
    rw [zbR, ie]
    split
    · rename_i h3
      exact ⟨iv, nm_e ⟨iv, hQ1 h3⟩⟩
    · rename_i h3
      exact t_refuses (i := 0) (by omega) rfl (hQ0 (Bool.eq_false_iff.mpr h3))
  · rename_i h
    exact t_refuses (i := 0) (by omega) rfl (hQ0 (by rw [Bool.eq_false_iff.mpr h]; rfl))
theorem HX_of {g : Nat → Int32} {n m e : Nat} {v : Int32} {th sy : Int32} {wh sr wa ck ca cb cy : Nat → Int32} (hn : n < 7) (h : HX g n m th sy wh sr wa ck ca cb cy) (he : e < n) : HX (upd g (2 + e) v) n m th sy (upd wh e v) sr wa ck ca cb cy := by
  obtain ⟨h1, h2, h3, h4, h5⟩ := h
  refine ⟨h1, h2, fun t ht => ?_, fun e he => ?_, fun k hk => ?_⟩
  · rw [pk_un (j := 8 + t) (by omega)]
    by_cases z : t = e
    · rw [z, pk_us, pk_us]; exact ⟨rfl, (h3 e he).2⟩
    · rw [pk_un z, pk_un (by omega)]; exact h3 t ht
  · rw [pk_un (by omega)]; exact h4 e he
  · rw [pk_un (by omega), pk_un (by omega), pk_un (by omega), pk_un (by omega)]; exact h5 k hk
theorem BK_upd {g : Nat → Int32} {n m i : Nat} {v : Int32} {kd oa ob : Nat → Nat} (hb : BK g n m kd oa ob) (hi : 2 ≤ i ∧ i < 14 ∨ 46 ≤ i) (h1 : ∀ t, i = 2 + t → t < 6 → t < n) (h2 : ∀ t, i = 8 + t → t < 6 → t < n ∧ (v = 0 ∨ v = 1)) (h3 : ∀ e, i = 46 + e → e < 12 → e < 2 * n ∧ (v = -1 ∨ ∃ k, k < 100 ∧ v = nI k)) : BK (upd g i v) n m kd oa ob := by
  obtain ⟨⟨c0, c1, c2, c3, c4⟩, b1, b2, b3, b4⟩ := hb
  refine ⟨⟨by rw [pk_un (by omega)]; exact c0, by rw [pk_un (by omega)]; exact c1, c2, c3, fun k hk => ?_⟩, fun t ht h6 => ?_, fun e he h12 => ?_, fun t ht => ?_, fun e he => ?_⟩
  · rw [pk_un (by omega), pk_un (by omega), pk_un (by omega)]; exact c4 k hk
  · rw [pk_un (fun z => by have := h1 t z.symm h6; omega), pk_un (fun z => by have := (h2 t z.symm h6).1; omega)]; exact b1 t ht h6
  · rw [pk_un (fun z => by have := (h3 e z.symm h12).1; omega)]; exact b2 e he h12
  · by_cases z : i = 8 + t
    · subst z; rw [pk_us]; exact (h2 t rfl (by omega)).2
    · rw [pk_un (fun q => z q.symm)]; exact b3 t ht
  · by_cases z : i = 46 + e
    · subst z; rw [pk_us]; exact (h3 e rfl he).2
    · rw [pk_un (fun q => z q.symm)]; exact b4 e he
/-! STORY -/
def okSt (p v : Int32) (n : Nat) : Bool := iN p n && iN v 2
theorem d_story {f1 f2 f3 f4 p v : Int32} {n : Nat} {sr rf : Nat → Int32} {Q : Int32 → Int32 → Int32 → Int32 → Int32 → (Nat → Int32) → (Nat → Int32) → Prop} (hn : n < 7)
    (hQ0 : okSt p v n = false → Q (-2) f1 f2 f3 f4 sr (ri rf 0)) (hQ1 : okSt p v n = true → Q (sr p.toNatClampNeg) 0 0 0 0 (upd sr p.toNatClampNeg v) rf) : wp_X10_story p v f1 f2 f3 f4 (nI n) sr rf Q := by
  unfold wp_X10_story wp_X10_story_b15 wp_X10_changed
  unfold okSt at hQ0 hQ1
  refine t_isThing hn ?_
  rw [zbR]
  split
  · rename_i h
    obtain ⟨h1, h2⟩ := iN_c (by omega) h
    have iv : vp_in p 6 := by rw [h2]; exact vi (by omega) (by omega)
    rw [h, Bool.true_and] at hQ0 hQ1
    refine t_isEither ?_
    rw [zbR]
    split
    · rename_i h3
      exact ⟨iv, nm_e ⟨iv, hQ1 h3⟩⟩
    · rename_i h3
      exact t_refB (hQ0 (Bool.eq_false_iff.mpr h3))
  · rename_i h
    exact t_refB (hQ0 (by rw [Bool.eq_false_iff.mpr h]; rfl))
theorem r_story {p v : Int32} {n : Nat} {g rf : Nat → Int32} {Q : Int32 → (Nat → Int32) → (Nat → Int32) → Prop} (hn : n < 7) (h0 : g 0 = nI n)
    (hQ0 : okSt p v n = false → Q (-2) g (ri rf 0)) (hQ1 : okSt p v n = true → Q (g (8 + p.toNatClampNeg)) (upd g (8 + p.toNatClampNeg) v) rf) : wp_X11_story p v g rf Q := by
  unfold wp_X11_story wp_X11_story_b17
  unfold okSt at hQ0 hQ1
  refine t_rThing hn h0 ?_
  rw [zbR]
  split
  · rename_i h
    obtain ⟨h1, h2⟩ := iN_c (by omega) h
    have iv : vp_in ((8 : Int32) + p) 58 := by rw [h2, show (8 : Int32) = nI 8 from rfl, nI_add]; exact vi (by omega) (by omega)
    have ie : ((8 : Int32) + p).toNatClampNeg = 8 + p.toNatClampNeg := by
      generalize p.toNatClampNeg = e at h1 h2
      rw [h2, show (8 : Int32) = nI 8 from rfl, nI_add, nI_clamp (by omega)]
    rw [h, Bool.true_and] at hQ0 hQ1
    refine t_in (N := 2) (by omega) rfl ?_
    rw [zbR, ie]
    split
    · rename_i h3
      exact ⟨iv, nm_e ⟨iv, hQ1 h3⟩⟩
    · rename_i h3
      exact t_bad (hQ0 (Bool.eq_false_iff.mpr h3))
  · rename_i h
    exact t_bad (hQ0 (by rw [Bool.eq_false_iff.mpr h]; rfl))
theorem HX_story {g : Nat → Int32} {n m e : Nat} {v : Int32} {th sy : Int32} {wh sr wa ck ca cb cy : Nat → Int32} (hn : n < 7) (h : HX g n m th sy wh sr wa ck ca cb cy) (he : e < n) : HX (upd g (8 + e) v) n m th sy wh (upd sr e v) wa ck ca cb cy := by
  obtain ⟨h1, h2, h3, h4, h5⟩ := h
  refine ⟨h1, h2, fun t ht => ?_, fun e he => ?_, fun k hk => ?_⟩
  · rw [pk_un (j := 2 + t) (by omega)]
    by_cases z : t = e
    · rw [z, pk_us, pk_us]; exact ⟨(h3 e he).1, rfl⟩
    · rw [pk_un z, pk_un (by omega)]; exact h3 t ht
  · rw [pk_un (by omega)]; exact h4 e he
  · rw [pk_un (by omega), pk_un (by omega), pk_un (by omega), pk_un (by omega)]; exact h5 k hk
/-! WATCH -/
def okWa (p v : Int32) (n : Nat) : Bool := iN p (2 * n) && (decide (v = -1) || iN v 100)
theorem lt_m1 {p : Int32} (e : p ≠ -1) : (p < -1) ↔ p < 0 := by
  have e2 : p.toInt ≠ -1 := fun q => e (Int32.toInt_inj.mp (by rw [q]; rfl))
  rw [Int32.lt_iff_toInt_lt, Int32.lt_iff_toInt_lt, show (-1 : Int32).toInt = -1 from rfl, show (0 : Int32).toInt = 0 from rfl]; omega
theorem le_lt {p : Int32} {N : Nat} (h : N < 2 ^ 31 - 1) : (p ≤ nI N) ↔ ¬ nI (N + 1) ≤ p := by
  rw [Int32.le_iff_toInt_le, Int32.le_iff_toInt_le, nI_toInt (by omega), nI_toInt (by omega)]; omega
theorem d_watch {f3 p v : Int32} {n : Nat} {wa rf : Nat → Int32} {Q : Int32 → Int32 → (Nat → Int32) → (Nat → Int32) → Prop} (hn : n < 7)
    (hQ0 : okWa p v n = false → Q (-10) f3 wa (ri rf 0)) (hQ1 : okWa p v n = true → Q (wa p.toNatClampNeg) 0 (upd wa p.toNatClampNeg v) rf) : wp_X10_watch p v f3 (nI n) wa rf Q := by
  unfold wp_X10_watch wp_X10_watch_b19
  unfold okWa at hQ0 hQ1
  refine t_isEnd hn ?_
  rw [zbR]
  split
  · rename_i h
    obtain ⟨h1, h2⟩ := iN_c (by omega) h
    have iv : vp_in p 12 := by rw [h2]; exact vi (by omega) (by omega)
    rw [h, Bool.true_and] at hQ0 hQ1
    rw [zl 99, le_lt (by omega)]
    by_cases z : v = -1
    · subst z
      exact br_f (by decide) (br_t (by decide) ⟨iv, nm_e ⟨iv, hQ1 (by simp)⟩⟩)
    · rw [decide_eq_false z, Bool.false_or] at hQ0 hQ1
      rw [lt_m1 z]
      refine br_c (fun z2 => t_refB (hQ0 (iN_lo (by omega) z2))) (fun z2 => br_c (fun z3 => ?_) (fun z3 => ?_))
      · exact ⟨iv, nm_e ⟨iv, hQ1 (iN_in (by omega) z2 z3)⟩⟩
      · exact t_refB (hQ0 (iN_hi (by omega) (Decidable.not_not.mp z3)))
  · rename_i h
    exact t_refB (hQ0 (by rw [Bool.eq_false_iff.mpr h]; rfl))
theorem r_watch {p v : Int32} {n : Nat} {g rf : Nat → Int32} {Q : Int32 → (Nat → Int32) → (Nat → Int32) → Prop} (hn : n < 7) (h0 : g 0 = nI n)
    (hQ0 : okWa p v n = false → Q (-10) g (ri rf 0)) (hQ1 : okWa p v n = true → Q (g (46 + p.toNatClampNeg)) (upd g (46 + p.toNatClampNeg) v) rf) : wp_X11_watch p v g rf Q := by
  unfold wp_X11_watch wp_X11_watch_b18
  unfold okWa at hQ0 hQ1
  refine t_rEnd hn h0 ?_
  rw [zbR]
  split
  · rename_i h
    obtain ⟨h1, h2⟩ := iN_c (by omega) h
    have iv : vp_in ((46 : Int32) + p) 58 := by rw [h2, show (46 : Int32) = nI 46 from rfl, nI_add]; exact vi (by omega) (by omega)
    have ie : ((46 : Int32) + p).toNatClampNeg = 46 + p.toNatClampNeg := by
      generalize p.toNatClampNeg = e at h1 h2
      rw [h2, show (46 : Int32) = nI 46 from rfl, nI_add, nI_clamp (by omega)]
    rw [h, Bool.true_and] at hQ0 hQ1
    refine t_inM (N := 100) (by omega) (by omega) rfl ?_
    rw [zbR, ie]
    split
    · rename_i h3
      exact ⟨iv, nm_e ⟨iv, hQ1 h3⟩⟩
    · rename_i h3
      exact t_refuses (i := 0) (by omega) rfl (hQ0 (Bool.eq_false_iff.mpr h3))
  · rename_i h
    exact t_refuses (i := 0) (by omega) rfl (hQ0 (by rw [Bool.eq_false_iff.mpr h]; rfl))
theorem HX_watch {g : Nat → Int32} {n m e : Nat} {v : Int32} {th sy : Int32} {wh sr wa ck ca cb cy : Nat → Int32} (hn : n < 7) (hm : m < 9) (h : HX g n m th sy wh sr wa ck ca cb cy) : HX (upd g (46 + e) v) n m th sy wh sr (upd wa e v) ck ca cb cy := by
  obtain ⟨h1, h2, h3, h4, h5⟩ := h
  refine ⟨h1, h2, fun t ht => ?_, fun x hx => ?_, fun k hk => ?_⟩
  · rw [pk_un (by omega), pk_un (by omega)]; exact h3 t ht
  · by_cases z : x = e
    · rw [z, pk_us, pk_us]
    · rw [pk_un z, pk_un (by omega)]; exact h4 x hx
  · rw [pk_un (by omega), pk_un (by omega), pk_un (by omega), pk_un (by omega)]; exact h5 k hk
/-! UNSAY -/
theorem d_unsay {f1 f2 f3 f4 : Int32} {m : Nat} {rf : Nat → Int32} {Q : Int32 → Int32 → Int32 → Int32 → Int32 → Int32 → (Nat → Int32) → Prop} (hm : m < 9)
    (hQ0 : m = 0 → Q (-3) f1 f2 f3 f4 (nI m) (ri rf 1)) (hQ1 : 0 < m → Q (nI (m - 1)) 0 0 0 0 (nI (m - 1)) rf) : wp_X10_unsay f1 f2 f3 f4 (nI m) rf Q := by
  unfold wp_X10_unsay wp_X10_changed
  rw [show (1 : Int32) = nI 1 from rfl, show ((nI m = 0) = (m = 0)) from propext (nI_eq (b := 0) (by omega) (by omega))]
  refine br_c (fun z => t_refN (hQ0 z)) (fun z => ?_)
  rw [pk_sub (by omega)]
  exact hQ1 (by omega)
theorem r_unsay {m : Nat} {g rf : Nat → Int32} {Q : Int32 → (Nat → Int32) → (Nat → Int32) → Prop} (hm : m < 9) (h1 : g 1 = nI m)
    (hQ0 : m = 0 → Q (-3) g (ri rf 1)) (hQ1 : 0 < m → Q (nI (m - 1)) (upd g 1 (nI (m - 1))) rf) : wp_X11_unsay g rf Q := by
  have i1 : vp_in (1 : Int32) 58 := vi (k := 1) (by omega) (by omega)
  unfold wp_X11_unsay
  rw [show (1 : Int32).toNatClampNeg = 1 from rfl, h1, show ((nI m = 0) = (m = 0)) from propext (nI_eq (b := 0) (by omega) (by omega))]
  refine ⟨i1, br_c (fun z => t_refuses (i := 1) (by omega) rfl (hQ0 z)) (fun z => ⟨i1, nm_e ⟨i1, i1, ?_⟩⟩)⟩
  rw [pk_us, show (nI m - 1 : Int32) = nI (m - 1) from pk_sub (b := 1) (by omega)]
  exact hQ1 (by omega)
theorem HX_unsay {g : Nat → Int32} {n m : Nat} {th sy : Int32} {wh sr wa ck ca cb cy : Nat → Int32} (h : HX g n m th sy wh sr wa ck ca cb cy) : HX (upd g 1 (nI (m - 1))) n (m - 1) th (nI (m - 1)) wh sr wa ck ca cb cy := by
  obtain ⟨h1, h2, h3, h4, h5⟩ := h
  refine ⟨h1, rfl, fun t ht => ?_, fun x hx => ?_, fun k hk => ?_⟩
  · rw [pk_un (by omega), pk_un (by omega)]; exact h3 t ht
  · rw [pk_un (by omega)]; exact h4 x hx
  · rw [pk_un (by omega), pk_un (by omega), pk_un (by omega), pk_un (by omega)]; exact h5 k (by omega)
theorem BK_unsay {g : Nat → Int32} {n m : Nat} {kd oa ob : Nat → Nat} (hb : BK g n m kd oa ob) : BK (upd g 1 (nI (m - 1))) n (m - 1) kd oa ob := by
  obtain ⟨⟨c0, c1, c2, c3, c4⟩, b1, b2, b3, b4⟩ := hb
  refine ⟨⟨by rw [pk_un (by omega)]; exact c0, pk_us, c2, by omega, fun k hk => ?_⟩, fun t ht h6 => ?_, fun e he h12 => ?_, fun t ht => ?_, fun e he => ?_⟩
  · rw [pk_un (by omega), pk_un (by omega), pk_un (by omega)]; exact c4 k (by omega)
  · rw [pk_un (by omega), pk_un (by omega)]; exact b1 t ht h6
  · rw [pk_un (by omega)]; exact b2 e he h12
  · rw [pk_un (by omega)]; exact b3 t ht
  · rw [pk_un (by omega)]; exact b4 e he
