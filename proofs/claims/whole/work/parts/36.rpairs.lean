/-! the reference: plain, all, fitsBy, lays -/
theorem s_plain {c1 c2 : Int32} {mate : Nat → Int32} {Q : Int32 → Int32 → (Nat → Int32) → Prop} (hQ : ∀ mate : Nat → Int32, (∀ t, t < 6 → mate t = -nI 1) → Q (nI 255) (-nI 1) mate) : wp_X11_plain c1 c2 mate Q := by
  have main : ∀ (d t : Nat) (mate : Nat → Int32), t + d = 6 → (∀ j, j < t → mate j = -nI 1) → wp_X11_plain_b14 Q (d + 1) (nI t) (nI 255) (-nI 1) mate := by
    intro d
    induction d with
    | zero =>
      intro t mate ht h
      obtain rfl : t = 6 := by omega
      unfold wp_X11_plain_b14
      exact br_t (nI_le (a := 6) (by omega) (by omega)) (hQ mate h)
    | succ d ih =>
      intro t mate ht h
      unfold wp_X11_plain_b14
      refine br_f (nI_ge (b := 6) (by omega) (by omega)) ⟨(z_in (by omega)).mpr (by omega), ?_⟩
      rw [nI_clamp (by omega), nI_1]
      refine ih (t + 1) _ (by omega) (fun j hj => ?_)
      by_cases z : j = t
      · rw [z, pk_us]; rfl
      · rw [pk_un z]; exact h j (by omega)
  unfold wp_X11_plain
  exact ⟨7, main 6 0 mate rfl (fun j hj => absurd hj (Nat.not_lt_zero j))⟩
def nmt : Nat → Option Nat := fun _ => none
/-- what is kept: choices c of the sayings, mates mt, two parted -/
def KA (g : Nat → Int32) (n m : Nat) (kd oa ob : Nat → Nat) (c : Nat) (mt : Nat → Option Nat) (pa : Option (Nat × Nat)) : Nat → Nat → Bool := kAll g n m kd oa ob c mt pa
/-- every count of the reference is small -/
def BD (n : Nat) : Prop := ∀ (K : Nat → Nat → Bool) (s : Nat), s < 2 ^ (2 * n) → wB (ed K n) (2 ^ (2 * n)) s < 2 ^ 62
theorem MV_of {g mate : Nat → Int32} {n m : Nat} {kd oa ob : Nat → Nat} {c : Nat} {mt : Nat → Option Nat} {pa : Option (Nat × Nat)} {cp cq : Int32} (hg : HB g n m kd oa ob) (hc : c < 2 ^ 31) (hmt : ∀ a, a < n → mate a = mtI (mt a) ∧ ∀ b, mt a = some b → b < 6)
    (hpa : match pa with | none => cp = -nI 1 | some q => cp = nI q.1 ∧ cq = nI q.2 ∧ q.1 < 6 ∧ q.2 < 6) : MV (2 ^ (2 * n)) (KA g n m kd oa ob c mt pa) (nI c) cp cq g mate := by
  intro s M hs hM ca cm Q hQ
  have h4 := p4_le hg.2.2.1
  exact s_moves hg hc hmt hpa (by omega) (by omega) hQ
theorem s_all {g mate : Nat → Int32} {n m : Nat} {kd oa ob : Nat → Nat} {ca cm cc cp cq : Int32} {on : Nat → Int64} {Q : Int64 → Int32 → Int32 → Int32 → Int32 → (Nat → Int32) → (Nat → Int64) → Prop} (hg : HB g n m kd oa ob) (hBD : BD n)
    (hQ : ∀ (ca cm : Int32) (mate : Nat → Int32) (on : Nat → Int64), (∀ t, t < 6 → mate t = -nI 1) → (∀ s, s < 2 ^ (2 * n) → on s = lN (wB (ed (KA g n m kd oa ob 255 nmt none) n) (2 ^ (2 * n)) s)) → Q (lN (wB (ed (KA g n m kd oa ob 255 nmt none) n) (2 ^ (2 * n)) 0)) ca cm (nI 255) (-nI 1) mate on) : wp_X11_all ca cm cc cp cq g mate on Q := by
  unfold wp_X11_all
  refine s_plain (fun mate hm => ?_)
  refine s_counts hg.1 hg.2.2.1 (MV_of (mt := nmt) (pa := none) hg (by omega) (fun a ha => ⟨hm a (by have := hg.2.2.1; omega), fun b hb => by cases hb⟩) rfl) (fun s hs => by have := hBD (KA g n m kd oa ob 255 nmt none) s hs; omega) (fun ca cm on hon => hQ ca cm mate on hm hon)
theorem s_fitsBy {g mate : Nat → Int32} {n m : Nat} {kd oa ob : Nat → Nat} {c : Nat} {ca cm cc cp cq : Int32} {on : Nat → Int64} {Q : Int32 → Int32 → Int32 → Int32 → Int32 → (Nat → Int32) → (Nat → Int64) → Prop} (hg : HB g n m kd oa ob) (hBD : BD n) (hc : c < 2 ^ 31)
    (hQ : ∀ (ca cm : Int32) (mate : Nat → Int32) (on : Nat → Int64), Q (bI (wB (ed (KA g n m kd oa ob c nmt none) n) (2 ^ (2 * n)) 0 != 0)) ca cm (nI c) (-nI 1) mate on) : wp_X11_fitsBy (nI c) ca cm cc cp cq g mate on Q := by
  unfold wp_X11_fitsBy
  refine s_plain (fun mate hm => ?_)
  refine s_counts hg.1 hg.2.2.1 (MV_of (mt := nmt) (pa := none) hg hc (fun a ha => ⟨hm a (by have := hg.2.2.1; omega), fun b hb => by cases hb⟩) rfl) (fun s hs => by have := hBD (KA g n m kd oa ob c nmt none) s hs; omega) (fun ca cm on hon => ?_)
  have h0 := hBD (KA g n m kd oa ob c nmt none) 0 (Nat.two_pow_pos _)
  rw [zL 0, zl 0, z_cmp (by omega)]
  have := hQ ca cm mate on
  refine br_c (fun q => ?_) (fun q => ?_)
  · have q : wB (ed (KA g n m kd oa ob c nmt none) n) (2 ^ (2 * n)) 0 = 0 := q
    rw [q] at this; exact this
  · have q : wB (ed (KA g n m kd oa ob c nmt none) n) (2 ^ (2 * n)) 0 ≠ 0 := q
    rw [show (wB (ed (KA g n m kd oa ob c nmt none) n) (2 ^ (2 * n)) 0 != 0) = true from bne_iff_ne.mpr q] at this
    exact this
theorem s_lays {g mate : Nat → Int32} {n m : Nat} {kd oa ob : Nat → Nat} {ca cm cc cp cq cs : Int32} {on : Nat → Int64} {mf bh : Nat → Int32} {Q : Int32 → Int32 → Int32 → Int32 → Int32 → Int32 → (Nat → Int32) → (Nat → Int64) → (Nat → Int32) → (Nat → Int32) → Prop} (hg : HB g n m kd oa ob) (hBD : BD n)
    (hQ0 : wB (ed (KA g n m kd oa ob 255 nmt none) n) (2 ^ (2 * n)) 0 = 0 → ∀ (ca cm cc cp cs : Int32) (mate : Nat → Int32) (on : Nat → Int64) (mf bh : Nat → Int32), Q (nI 0) ca cm cc cp cs mate on mf bh)
    (hQ1 : wB (ed (KA g n m kd oa ob 255 nmt none) n) (2 ^ (2 * n)) 0 ≠ 0 → ∀ (ca cm cc cp : Int32) (mate : Nat → Int32) (on : Nat → Int64) (mf bh : Nat → Int32), (∀ e, e < 2 * n → mf e = nI (mo n (KA g n m kd oa ob 255 nmt none) e)) → (∀ k, k < mos n (KA g n m kd oa ob 255 nmt none) → bh k = nI (pth n (KA g n m kd oa ob 255 nmt none) (k + 1))) → Q (nI 1) ca cm cc cp (nI (mos n (KA g n m kd oa ob 255 nmt none))) mate on mf bh) : wp_X11_lays ca cm cc cp cq cs g mate on mf bh Q := by
  have h0 := hBD (KA g n m kd oa ob 255 nmt none) 0 (Nat.two_pow_pos _)
  unfold wp_X11_lays
  refine s_all hg hBD (fun ca cm mate on hm hon => ?_)
  rw [zL 0, zl 0, z_cmpE (by omega)]
  refine br_c (fun q => hQ0 q _ _ _ _ _ _ _ _ _) (fun q => ?_)
  have := s_laysLoop (K := KA g n m kd oa ob 255 nmt none) (cq := cq) hg.1 hg.2.2.1 (MV_of (mt := nmt) (pa := none) hg (by omega) (fun a ha => ⟨hm a (by have := hg.2.2.1; omega), fun b hb => by cases hb⟩) rfl) (fun s hs => by have := hBD (KA g n m kd oa ob 255 nmt none) s hs; omega) q hon (fun ca cm mf bh h1 h2 => hQ1 q ca cm _ _ mate on mf bh h1 h2) (mos n (KA g n m kd oa ob 255 nmt none)) 0 ca cm mf bh (by omega) (fun e he hb => by rw [pth, Nat.zero_testBit] at hb; cases hb) (fun j hj => absurd hj (Nat.not_lt_zero j))
  exact ⟨_, this⟩
/-! the reference's pairs -/
def BF (n : Nat) (K : Nat → Nat → Bool) (x e : Nat) : Nat := gX (2 ^ (2 * n)) (ed K n) (wF (ed K n) (2 ^ (2 * n))) (wB (ed K n) (2 ^ (2 * n))) (fun u M => if (u.testBit x && M.testBit e) = true then 1 else 0)
theorem s_tallies {g : Nat → Int32} {n s M e : Nat} {w : Nat} {bf al : Nat → Int64} {Q : (Nat → Int64) → (Nat → Int64) → Prop} (h0 : g 0 = nI n) (hn : n < 7) (hs : s < 4096) (hM : M < 4096) (he : e < 12)
    (hQ : ∀ bf' al' : Nat → Int64, (∀ p, bf' p = bf p + lN (sm (fun x => if p = 12 * x + e ∧ s.testBit x = true then w else 0) (2 * n))) → (∀ p, al' p = al p + lN (sm (fun x => if p = 12 * x + e ∧ M.testBit x = true then w else 0) (2 * n))) → Q bf' al') : wp_X11_tallies (lN w) (nI e) (nI s) (nI M) g bf al Q := by
  have eg : g (0 : Int32).toNatClampNeg = nI n := h0
  have main : ∀ (d x : Nat) (bf' al' : Nat → Int64), x + d = 2 * n → (∀ p, bf' p = bf p + lN (sm (fun x => if p = 12 * x + e ∧ s.testBit x = true then w else 0) x)) → (∀ p, al' p = al p + lN (sm (fun x => if p = 12 * x + e ∧ M.testBit x = true then w else 0) x)) → wp_X11_tallies_b3 Q (nI s) (nI M) g (d + 1) (lN w) (nI e) (nI x) bf' al' := by
    intro d
    induction d with
    | zero =>
      intro x bf' al' hx h1 h2
      obtain rfl : x = 2 * n := by omega
      unfold wp_X11_tallies_b3
      refine ⟨(z_in (n := 0) (by omega)).mpr (by omega), ?_⟩
      rw [eg, zl 2, pk_mul]
      exact br_t (nI_le (by omega) (by omega)) (hQ bf' al' h1 h2)
    | succ d ih =>
      intro x bf' al' hx h1 h2
      have ih := ih (x + 1)
      have hv : vp_in (nI (12 * x + e)) 144 := (z_in (by omega)).mpr (by omega)
      have h3 : ∀ (b : Bool) (p : Nat) (f : Nat → Int64), vp_updL f (12 * x + e) (f (12 * x + e) + (if b = true then lN w else lN 0)) p = f p + lN (if p = 12 * x + e ∧ b = true then w else 0) := fun b p f => by
        by_cases z : p = 12 * x + e
        · rw [z, pk_uLs]
          cases b
          · rw [if_neg (by decide), if_neg (fun t => by cases t.2)]
          · rw [if_pos rfl, if_pos ⟨rfl, rfl⟩]
        · rw [pk_uLn z, if_neg (fun t => z t.1)]
          show f p = f p + 0
          rw [Int64.add_zero]
      have fin : wp_X11_tallies_b3 Q (nI s) (nI M) g (d + 1) (lN w) (nI e) (nI (x + 1)) (vp_updL bf' (12 * x + e) (bf' (12 * x + e) + (if s.testBit x = true then lN w else lN 0))) (vp_updL al' (12 * x + e) (al' (12 * x + e) + (if M.testBit x = true then lN w else lN 0))) := by
        refine ih _ _ (by omega) (fun p => ?_) (fun p => ?_)
        · rw [h3, h1, sm, Int64.add_assoc, lN_add]
        · rw [h3, h2, sm, Int64.add_assoc, lN_add]
      unfold wp_X11_tallies_b3 wp_X11_tallies_b43 wp_X11_tallies_b72
      refine ⟨(z_in (n := 0) (by omega)).mpr (by omega), ?_⟩
      rw [eg, zl 2, pk_mul, zl 12, pk_mul, nI_add]
      refine br_f (nI_ge (by omega) (by omega)) ⟨hv, ?_⟩
      rw [e_was (by omega) (by omega), zl 0, bI_z, nI_clamp (by omega), nI_1]
      simp only [hv, true_and, e_is (by omega : x < 32) (by omega : M < 2 ^ 31), bI_z]
      cases a : s.testBit x <;> cases b : M.testBit x <;> simp only [a, b, if_true, if_false, Bool.false_eq_true, Bool.true_eq_false, not_true_eq_false, not_false_eq_true, false_implies, true_implies, true_and, and_true, reduceCtorEq] at fin ⊢ <;> exact fin
  unfold wp_X11_tallies
  refine ⟨_, main (2 * n) 0 bf al (by omega) (fun p => ?_) (fun p => ?_)⟩
  · show bf p = bf p + 0
    rw [Int64.add_zero]
  · show al p = al p + 0
    rw [Int64.add_zero]
/-- the ways to each set that has a way on -/
def tF (n : Nat) (K : Nat → Nat → Bool) (s : Nat) : Nat := if wB (ed K n) (2 ^ (2 * n)) s = 0 then (if s = 0 then 1 else 0) else wF (ed K n) (2 ^ (2 * n)) s
