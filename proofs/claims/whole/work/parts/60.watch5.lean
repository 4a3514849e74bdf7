/-- steps that the class knows -/
def CE (n : Nat) (br : Nat → Bool) (lw : Nat → Nat) (s c : Nat) : Prop := c ≠ 0 ∧ s + c < 2 ^ (2 * n) ∧ vl (s + c) = true ∧ br (s + c) = false ∧ sb c (lw (s + c)) = true
/-- those that are weighed: to sets above v, and to v by its first parts -/
def PC (lw : Nat → Nat) (v k s c : Nat) : Prop := v < s + c ∨ (s + c = v ∧ ∃ q, 0 < q ∧ q < k ∧ c = (pL (lw v) 12).getD q 0)
def NZ (K : Nat → Nat → Bool) (w : Nat → Nat) (n : Nat) (br : Nat → Bool) (lw : Nat → Nat) (v k x s c : Nat) : Prop := CE n br lw s c ∧ PC lw v k s c ∧ c.testBit x = true ∧ nOk (sn K w n s) (mo1 K w n true (s + c)) (tl w c 12)
/-- how the clock stands -/
def CK (K : Nat → Nat → Bool) (w : Nat → Nat) (n : Nat) (br : Nat → Bool) (lw : Nat → Nat) (v k : Nat) (so la mo : Nat → Int32) : Prop :=
  (∃ S : Nat → Nat, ∀ x, x < 12 → so x = mI (S x) ∧ S x ≤ 101 ∧ IZ (fun y => ∃ s c, NZ K w n br lw v k x s c ∧ y = lo_ (sn K w n s) (tl w c 12)) (S x)) ∧
  (∃ T : Nat → Nat, ∀ x, x < 12 → la x = mI (T x) ∧ T x ≤ 101 ∧ IX (fun y => ∃ s c, NZ K w n br lw v k x s c ∧ y = hi_ (mo1 K w n true (s + c)) (tl w c 12)) (T x)) ∧
  (∀ j, j < 3 ^ n - 1 → ∃ m, mo j = mI m ∧ m ≤ 101 ∧ IX (fun y => ∃ c, CE n br lw (sAt j) c ∧ PC lw v k (sAt j) c ∧ y = hh (mo1 K w n true (sAt j + c)) (tl w c 12)) m) ∧ mo (3 ^ n - 1) = mI 101
theorem ce_ed {n : Nat} {K : Nat → Nat → Bool} {br : Nat → Bool} {lw : Nat → Nat} (h : CG n K br lw) {s c : Nat} (hb : br s = false) (hc : CE n br lw s c) : ed K n s c ≠ 0 := by
  obtain ⟨c1, c2, c3, c4, c5⟩ := hc
  have := ed_of h c2 c3 c4 c5 c1 (by rw [show s + c - c = s by omega]; exact hb)
  rw [show s + c - c = s by omega] at this
  exact this
theorem ed_ce {n : Nat} {K : Nat → Nat → Bool} {br : Nat → Bool} {lw : Nat → Nat} (h : CG n K br lw) {s c : Nat} (hs : s < 2 ^ (2 * n)) (hb : br s = false) (he : ed K n s c ≠ 0) : CE n br lw s c := by
  obtain ⟨a1, a2, a3, a4, a5⟩ := of_ed h hs hb he
  exact ⟨a3, a4, a5, a1, a2⟩
theorem lo_le {a b t : Nat} (h : nOk a b t) (hb : b ≤ 101) : lo_ a t ≤ 101 ∧ hi_ b t ≤ 101 ∧ 0 < lo_ a t := by
  unfold nOk at h
  unfold lo_ hi_
  by_cases z : t = 0
  · rw [if_pos z] at h; rw [if_pos z, if_pos z]; omega
  · rw [if_neg z] at h; rw [if_neg z, if_neg z]; omega
theorem IX_zero {P P' : Nat → Prop} {m : Nat} (h : IX P m) (h1 : ∀ y, P y → P' y) (h2 : ∀ y, P' y → P y ∨ y = 0) : IX P' m := by
  refine ⟨fun x hx => ?_, fun hm => h1 _ (h.2 hm)⟩
  rcases h2 x hx with q | q
  · exact h.1 x q
  · omega
theorem PC_next {lw : Nat → Nat} {v k s c : Nat} (hk : 0 < k) : PC lw v (k + 1) s c ↔ PC lw v k s c ∨ (s + c = v ∧ c = (pL (lw v) 12).getD k 0) := by
  unfold PC
  constructor
  · rintro (h | ⟨h, q, q0, ql, e⟩)
    · exact Or.inl (Or.inl h)
    · by_cases z : q = k
      · subst z; exact Or.inr ⟨h, e⟩
      · exact Or.inl (Or.inr ⟨h, q, q0, by omega, e⟩)
  · rintro ((h | ⟨h, q, q0, ql, e⟩) | ⟨h, e⟩)
    · exact Or.inl h
    · exact Or.inr ⟨h, q, q0, by omega, e⟩
    · exact Or.inr ⟨h, k, hk, by omega, e⟩
/-- after all parts of a place the next place begins -/
theorem PC_down {n : Nat} {br : Nat → Bool} {lw : Nat → Nat} {i s c : Nat} (hn : n < 7) (hi : i + 1 < 3 ^ n) (hce : CE n br lw s c) : PC lw (sAt (i + 1)) (pL (lw (sAt (i + 1))) 12).length s c ↔ PC lw (sAt i) 1 s c := by
  have h3 := p3_le hn
  have h4 := p4_le hn
  obtain ⟨c1, c2, c3, c4, c5⟩ := hce
  obtain ⟨p1, p2⟩ := pOf_lt_N hn c2 c3
  unfold PC
  constructor
  · intro hh
    refine Or.inl ?_
    have := sAt_mono (i := i) (j := i + 1) (by omega) (by omega)
    rcases hh with hh | ⟨hh, -⟩ <;> omega
  · rintro (hh | ⟨-, q, q0, ql, -⟩)
    · rw [← p2, sAt_lt_iff (by omega) (by omega)] at hh
      by_cases z : pOf (s + c) = i + 1
      · rw [z] at p2
        have hc : c < 4096 := by omega
        obtain ⟨q, q0, ql, e⟩ := pL_idx c5 hc c1
        exact Or.inr ⟨p2.symm, q, q0, by rw [p2]; exact ql, by rw [p2]; exact e.symm⟩
      · refine Or.inl ?_
        have := sAt_mono (i := i + 1) (j := pOf (s + c)) (by omega) (by omega)
        rw [p2] at this; exact this
    · omega
theorem CK_iff {K : Nat → Nat → Bool} {w : Nat → Nat} {n : Nat} {br : Nat → Bool} {lw : Nat → Nat} {v k v' k' : Nat} {so la mo : Nat → Int32} (h : CK K w n br lw v k so la mo) (hP : ∀ s c, CE n br lw s c → (PC lw v k s c ↔ PC lw v' k' s c)) : CK K w n br lw v' k' so la mo := by
  obtain ⟨⟨S, h1⟩, ⟨T, h2⟩, h3, h4⟩ := h
  have hN : ∀ x s c, NZ K w n br lw v' k' x s c ↔ NZ K w n br lw v k x s c := fun x s c => by
    unfold NZ
    exact ⟨fun ⟨a, b, d⟩ => ⟨a, (hP s c a).mpr b, d⟩, fun ⟨a, b, d⟩ => ⟨a, (hP s c a).mp b, d⟩⟩
  refine ⟨⟨S, fun x hx => ?_⟩, ⟨T, fun x hx => ?_⟩, fun j hj => ?_, h4⟩
  · obtain ⟨a, b, d⟩ := h1 x hx
    refine ⟨a, b, IZ_c (fun y => ?_) d⟩
    exact ⟨fun ⟨s, c, q, e⟩ => ⟨s, c, (hN x s c).mp q, e⟩, fun ⟨s, c, q, e⟩ => ⟨s, c, (hN x s c).mpr q, e⟩⟩
  · obtain ⟨a, b, d⟩ := h2 x hx
    refine ⟨a, b, IX_c (fun y => ?_) d⟩
    exact ⟨fun ⟨s, c, q, e⟩ => ⟨s, c, (hN x s c).mp q, e⟩, fun ⟨s, c, q, e⟩ => ⟨s, c, (hN x s c).mpr q, e⟩⟩
  · obtain ⟨m, a, b, d⟩ := h3 j hj
    refine ⟨m, a, b, IX_c (fun y => ?_) d⟩
    exact ⟨fun ⟨c, q, r, e⟩ => ⟨c, q, (hP _ c q).mpr r, e⟩, fun ⟨c, q, r, e⟩ => ⟨c, q, (hP _ c q).mp r, e⟩⟩
/-- the greatest minute at a place, when all above are weighed -/
theorem CK_most {n : Nat} {K : Nat → Nat → Bool} {br : Nat → Bool} {lw : Nat → Nat} (h : CG n K br lw) {w : Nat → Nat} {i : Nat} {so la mo : Nat → Int32} (hi : i < 3 ^ n) (hb : br (sAt i) = false) (hck : CK K w n br lw (sAt i) 1 so la mo) : mo i = mI (mo1 K w n true (sAt i)) := by
  have hn := h.1
  have h3 := p3_le hn
  have hN := (sAt_lt_N h.1 (by omega)).mpr hi
  by_cases z : i = 3 ^ n - 1
  · rw [z, sAt_full n hn, mo1_full]; exact hck.2.2.2
  · obtain ⟨m, a, b, d⟩ := hck.2.2.1 i (by omega)
    have hf : sAt i ≠ 2 ^ (2 * n) - 1 := by
      rw [← sAt_full n hn]
      intro q
      have := sAt_mono (i := i) (j := 3 ^ n - 1) (by omega) (by omega)
      omega
    rw [a, IX_u d (mo1_IX (a := true) hN hf rfl) (fun x hx hx' => ?_) (fun x hx hx' => ?_)]
    · obtain ⟨c, q, r, e⟩ := hx'
      exact ⟨c, Nat.pos_of_ne_zero q.1, by have := q.2.1; omega, ce_ed h hb q, e⟩
    · obtain ⟨c, c0, cN, he, e⟩ := hx'
      exact ⟨c, ed_ce h hN hb he, Or.inl (by omega), e⟩
/-- a part is weighed -/
theorem CK_step {S T : Nat → Nat} {n : Nat} {K : Nat → Nat → Bool} {br : Nat → Bool} {lw : Nat → Nat} (h : CG n K br lw) {w : Nat → Nat} {i k c : Nat} {so la mo so' la' mo' : Nat → Int32} (hi : i < 3 ^ n) (hb : br (sAt i) = false) (hk0 : 0 < k) (hk : k < (pL (lw (sAt i)) 12).length) (hc : c = (pL (lw (sAt i)) 12).getD k 0)
    (h1 : ∀ x, x < 12 → so x = mI (S x) ∧ S x ≤ 101 ∧ IZ (fun y => ∃ s c, NZ K w n br lw (sAt i) k x s c ∧ y = lo_ (sn K w n s) (tl w c 12)) (S x))
    (h2 : ∀ x, x < 12 → la x = mI (T x) ∧ T x ≤ 101 ∧ IX (fun y => ∃ s c, NZ K w n br lw (sAt i) k x s c ∧ y = hi_ (mo1 K w n true (s + c)) (tl w c 12)) (T x))
    (h5 : ∀ j, j < 3 ^ n - 1 → ∃ m, mo j = mI m ∧ m ≤ 101 ∧ IX (fun y => ∃ c, CE n br lw (sAt j) c ∧ PC lw (sAt i) k (sAt j) c ∧ y = hh (mo1 K w n true (sAt j + c)) (tl w c 12)) m) (h6 : mo (3 ^ n - 1) = mI 101)
    (hso : (nOk (sn K w n (sAt i - c)) (mo1 K w n true (sAt i)) (tl w c 12) ∧ (∀ x, x < 12 → so' x = mI (if c.testBit x = true then (if S x = 0 then lo_ (sn K w n (sAt i - c)) (tl w c 12) else min (S x) (lo_ (sn K w n (sAt i - c)) (tl w c 12))) else S x)) ∧ ∀ x, x < 12 → la' x = mI (if c.testBit x = true then max (T x) (hi_ (mo1 K w n true (sAt i)) (tl w c 12)) else T x)) ∨ (¬ nOk (sn K w n (sAt i - c)) (mo1 K w n true (sAt i)) (tl w c 12) ∧ so' = so ∧ la' = la))
    (hmo : ∀ j, j ≠ pOf (sAt i - c) → mo' j = mo j) (hm1 : ∀ m, m ≤ 101 → mo (pOf (sAt i - c)) = mI m → mo' (pOf (sAt i - c)) = mI (max m (hh (mo1 K w n true (sAt i)) (tl w c 12)))) : CK K w n br lw (sAt i) (k + 1) so' la' mo' := by
  have hn := h.1
  have h3 := p3_le hn
  have h4 := p4_le hn
  have hs := sAt_all i (by omega)
  have hN := (sAt_lt_N h.1 (by omega)).mpr hi
  obtain ⟨p1, p2, p3, p4, p5, p6, p7⟩ := cg_part h hi hk hk0
  rw [← hc] at p1 p2 p3 p4 p5 p6 p7
  have hA := mo_101 (K := K) (w := w) (n := n) (a := true) (2 ^ (2 * n) - 1 - sAt i) (sAt i) (by omega)
  have hce : CE n br lw (sAt i - c) c := ⟨p6, by omega, by rw [show sAt i - c + c = sAt i by omega]; exact hs.2.2, by rw [show sAt i - c + c = sAt i by omega]; exact hb, by rw [show sAt i - c + c = sAt i by omega]; exact p7⟩
  have hNZ : ∀ x s d, NZ K w n br lw (sAt i) (k + 1) x s d ↔ NZ K w n br lw (sAt i) k x s d ∨ (s = sAt i - c ∧ d = c ∧ c.testBit x = true ∧ nOk (sn K w n (sAt i - c)) (mo1 K w n true (sAt i)) (tl w c 12)) := by
    intro x s d
    unfold NZ
    rw [PC_next hk0, ← hc]
    constructor
    · rintro ⟨a, b | ⟨b, rfl⟩, e, f⟩
      · exact Or.inl ⟨a, b, e, f⟩
      · have : s = sAt i - d := by omega
        subst this
        rw [show sAt i - d + d = sAt i by omega] at f
        exact Or.inr ⟨rfl, rfl, e, f⟩
    · rintro (⟨a, b, e, f⟩ | ⟨rfl, rfl, e, f⟩)
      · exact ⟨a, Or.inl b, e, f⟩
      · exact ⟨hce, Or.inr ⟨by omega, rfl⟩, e, by rw [show sAt i - d + d = sAt i by omega]; exact f⟩
  refine ⟨?_, ?_, fun j hj => ?_, ?_⟩
  · rcases hso with ⟨ok, hu⟩ | ⟨nok, rfl, rfl⟩
    · have hl := lo_le ok hA
      refine ⟨fun x => if c.testBit x = true then (if S x = 0 then lo_ (sn K w n (sAt i - c)) (tl w c 12) else min (S x) (lo_ (sn K w n (sAt i - c)) (tl w c 12))) else S x, fun x hx => ⟨hu.1 x hx, ?_, ?_⟩⟩
      · have := (h1 x hx).2.1
        show (if c.testBit x = true then (if S x = 0 then lo_ (sn K w n (sAt i - c)) (tl w c 12) else min (S x) (lo_ (sn K w n (sAt i - c)) (tl w c 12))) else S x) ≤ 101
        split
        · split <;> omega
        · exact this
      · obtain ⟨-, -, d⟩ := h1 x hx
        show IZ _ (if c.testBit x = true then (if S x = 0 then lo_ (sn K w n (sAt i - c)) (tl w c 12) else min (S x) (lo_ (sn K w n (sAt i - c)) (tl w c 12))) else S x)
        by_cases z : c.testBit x = true
        · rw [if_pos z]
          refine IZ_min (fun y hy => ?_) d (fun y => ?_)
          · obtain ⟨s, d, q, e⟩ := hy
            have hA' := mo_101 (K := K) (w := w) (n := n) (a := true) (2 ^ (2 * n) - 1 - (s + d)) (s + d) (by have := q.1.2.1; omega)
            rw [e]; exact (lo_le q.2.2.2 hA').2.2
          · constructor
            · rintro ⟨s, d, q, e⟩
              rcases (hNZ x s d).mp q with r | ⟨rfl, rfl, -, -⟩
              · exact Or.inl ⟨s, d, r, e⟩
              · exact Or.inr e
            · rintro (⟨s, d, q, e⟩ | e)
              · exact ⟨s, d, (hNZ x s d).mpr (Or.inl q), e⟩
              · exact ⟨_, _, (hNZ x _ _).mpr (Or.inr ⟨rfl, rfl, z, ok⟩), e⟩
        · rw [if_neg z]
          refine IZ_c (fun y => ?_) d
          constructor
          · rintro ⟨s, d, q, e⟩
            rcases (hNZ x s d).mp q with r | ⟨-, -, r, -⟩
            · exact ⟨s, d, r, e⟩
            · exact absurd r z
          · rintro ⟨s, d, q, e⟩; exact ⟨s, d, (hNZ x s d).mpr (Or.inl q), e⟩
    · refine ⟨S, fun x hx => ⟨(h1 x hx).1, (h1 x hx).2.1, IZ_c (fun y => ?_) (h1 x hx).2.2⟩⟩
      constructor
      · rintro ⟨s, d, q, e⟩
        rcases (hNZ x s d).mp q with r | ⟨-, -, -, r⟩
        · exact ⟨s, d, r, e⟩
        · exact absurd r nok
      · rintro ⟨s, d, q, e⟩; exact ⟨s, d, (hNZ x s d).mpr (Or.inl q), e⟩
  · rcases hso with ⟨ok, hu⟩ | ⟨nok, rfl, rfl⟩
    · have hl := lo_le ok hA
      refine ⟨fun x => if c.testBit x = true then max (T x) (hi_ (mo1 K w n true (sAt i)) (tl w c 12)) else T x, fun x hx => ⟨hu.2 x hx, ?_, ?_⟩⟩
      · have := (h2 x hx).2.1
        show (if c.testBit x = true then max (T x) (hi_ (mo1 K w n true (sAt i)) (tl w c 12)) else T x) ≤ 101
        split <;> omega
      · obtain ⟨-, -, d⟩ := h2 x hx
        show IX _ (if c.testBit x = true then max (T x) (hi_ (mo1 K w n true (sAt i)) (tl w c 12)) else T x)
        by_cases z : c.testBit x = true
        · rw [if_pos z]
          refine IX_max d (fun y => ?_)
          constructor
          · rintro ⟨s, d, q, e⟩
            rcases (hNZ x s d).mp q with r | ⟨rfl, rfl, -, -⟩
            · exact Or.inl ⟨s, d, r, e⟩
            · rw [show sAt i - d + d = sAt i by omega] at e; exact Or.inr e
          · rintro (⟨s, d, q, e⟩ | e)
            · exact ⟨s, d, (hNZ x s d).mpr (Or.inl q), e⟩
            · exact ⟨_, _, (hNZ x _ _).mpr (Or.inr ⟨rfl, rfl, z, ok⟩), by rw [show sAt i - c + c = sAt i by omega]; exact e⟩
        · rw [if_neg z]
          refine IX_c (fun y => ?_) d
          constructor
          · rintro ⟨s, d, q, e⟩
            rcases (hNZ x s d).mp q with r | ⟨-, -, r, -⟩
            · exact ⟨s, d, r, e⟩
            · exact absurd r z
          · rintro ⟨s, d, q, e⟩; exact ⟨s, d, (hNZ x s d).mpr (Or.inl q), e⟩
    · refine ⟨T, fun x hx => ⟨(h2 x hx).1, (h2 x hx).2.1, IX_c (fun y => ?_) (h2 x hx).2.2⟩⟩
      constructor
      · rintro ⟨s, d, q, e⟩
        rcases (hNZ x s d).mp q with r | ⟨-, -, -, r⟩
        · exact ⟨s, d, r, e⟩
        · exact absurd r nok
      · rintro ⟨s, d, q, e⟩; exact ⟨s, d, (hNZ x s d).mpr (Or.inl q), e⟩
  · obtain ⟨m, a, b, d⟩ := h5 j hj
    by_cases z : j = pOf (sAt i - c)
    · subst z
      have hhl := hh_le (a := mo1 K w n true (sAt i)) (t := tl w c 12)
      refine ⟨_, hm1 m b a, by omega, IX_max d (fun y => ?_)⟩
      rw [p4]
      constructor
      · rintro ⟨e, q, r, f⟩
        rcases (PC_next hk0).mp r with r | ⟨r1, r2⟩
        · exact Or.inl ⟨e, q, r, f⟩
        · rw [← hc] at r2
          subst r2
          rw [show sAt i - e + e = sAt i by omega] at f
          exact Or.inr f
      · rintro (⟨e, q, r, f⟩ | f)
        · exact ⟨e, q, (PC_next hk0).mpr (Or.inl r), f⟩
        · exact ⟨c, hce, (PC_next hk0).mpr (Or.inr ⟨by omega, hc⟩), by rw [show sAt i - c + c = sAt i by omega]; exact f⟩
    · refine ⟨m, by rw [hmo j z]; exact a, b, IX_c (fun y => ?_) d⟩
      constructor
      · rintro ⟨e, q, r, f⟩
        rcases (PC_next hk0).mp r with r | ⟨r1, r2⟩
        · exact ⟨e, q, r, f⟩
        · rw [← hc] at r2
          subst r2
          refine absurd ?_ z
          rw [← r1, show sAt j + e - e = sAt j by omega]
          exact (sAt_all j (by omega)).1.symm
      · rintro ⟨e, q, r, f⟩
        exact ⟨e, q, (PC_next hk0).mpr (Or.inl r), f⟩
  · rw [hmo _ (fun z => by rw [← z] at p3; omega)]
    exact h6
