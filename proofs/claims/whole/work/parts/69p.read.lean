/-! the text, from its first token -/
def pLp (y : Nat → Nat) (L n : Nat) : Nat → (Nat → Int32) → Nat → Nat → Bool × Nat × (Nat → Int32) × Nat
  | 0, g, m, i => (false, i, g, m)
  | f + 1, g, m, i => if tT y L i = 0 then (true, i, g, m) else if (pItem y L n g m i).1 = true ∧ tT y L (pItem y L n g m i).2.1 = 3 then pLp y L n f (pItem y L n g m i).2.2.1 (pItem y L n g m i).2.2.2 (tE y L (pItem y L n g m i).2.1) else (false, (pItem y L n g m i).2.1, (pItem y L n g m i).2.2.1, (pItem y L n g m i).2.2.2)
def gcl (i : Nat) : Int32 := if 2 ≤ i ∧ i < 8 ∨ 46 ≤ i then -1 else 0
def pN (y : Nat → Nat) (L : Nat) : Nat := (tV y L (tE y L 0)).toNatClampNeg
def pRd (y : Nat → Nat) (L : Nat) : Bool × Nat × (Nat → Int32) × Nat :=
  if wd y L 0 8 = true then (
    if fgB y L (tE y L 0) 7 = true ∧ tV y L (tE y L 0) ≠ 0 then (
      if tT y L (tE y L (tE y L 0)) = 3 then pLp y L (pN y L) 200 (upd gcl 0 (nI (pN y L))) 0 (tE y L (tE y L (tE y L 0)))
      else (false, tE y L (tE y L 0), gcl, 0))
    else (false, tE y L 0, gcl, 0))
  else (false, 0, gcl, 0)
theorem pSay_g {y : Nat → Nat} {L n m i : Nat} {g : Nat → Int32} (hi : i ≤ L) (hm : m < 9) (h0 : g 0 = nI n) (h1 : g 1 = nI m) : (pSay y L n g m i).2.2.1 0 = nI n ∧ (pSay y L n g m i).2.2.1 1 = nI (pSay y L n g m i).2.2.2 ∧ (pSay y L n g m i).2.2.2 < 9 ∧ (pSay y L n g m i).2.1 ≤ L ∧ ((pSay y L n g m i).1 = true → tE y L i ≤ (pSay y L n g m i).2.1) := by
  have l1 := (tE_ok (y := y) hi).2.1
  have l2 := (tE_ok (y := y) l1).2.1
  have l3 := (tE_ok (y := y) l2).2.1
  have l4 := (tE_ok (y := y) l3).2.1
  have l5 := (tE_ok (y := y) l4).2.1
  have p : ∀ i, i ≤ L → i ≤ tE y L i := fun i hi => Nat.le_trans (tS_ok (y := y) hi).1 (tE_ok (y := y) hi).1
  have q1 := p _ l1
  have q2 := p _ l2
  have q3 := p _ l3
  have q4 := p _ l4
  have no : ∀ P : Prop, (false = true) → P := fun P h => by cases h
  have hs : ∀ a k b v : Int32, m < 8 → gSay g m a k b v 0 = nI n ∧ gSay g m a k b v 1 = nI (m + 1) := fun a k b v hm => by
    unfold gSay
    refine ⟨?_, pk_us⟩
    iterate 5 rw [pk_un (by omega)]
    exact h0
  unfold pSay
  by_cases z : m = 8
  · rw [if_pos z]; exact ⟨h0, h1, hm, hi, no _⟩
  rw [if_neg z]
  by_cases f1 : fgB y L i n = true
  case neg => rw [if_neg f1]; exact ⟨h0, h1, hm, hi, no _⟩
  rw [if_pos f1]
  by_cases k1 : kdB y L (tE y L i) = true
  case neg => rw [if_neg k1]; exact ⟨h0, h1, hm, l1, no _⟩
  rw [if_pos k1]
  by_cases f2 : fgB y L (tE y L (tE y L i)) n = true ∧ tV y L (tE y L (tE y L i)) ≠ tV y L i
  case neg => rw [if_neg f2]; exact ⟨h0, h1, hm, l2, no _⟩
  rw [if_pos f2]
  by_cases w1 : wd y L (tE y L (tE y L (tE y L i))) 11 = true
  case neg =>
    rw [if_neg w1]
    exact ⟨(hs _ _ _ _ (by omega)).1, (by dsimp only; unfold gSay; exact pk_us), (show m + 1 < 9 by omega), l3, fun _ => Nat.le_trans q1 q2⟩
  rw [if_pos w1]
  by_cases f3 : fgB y L (tE y L (tE y L (tE y L (tE y L i)))) 4 = true
  case neg => rw [if_neg f3]; exact ⟨h0, h1, hm, l4, no _⟩
  rw [if_pos f3]
  exact ⟨(hs _ _ _ _ (by omega)).1, (by dsimp only; unfold gSay; exact pk_us), (show m + 1 < 9 by omega), l5, fun _ => Nat.le_trans q1 (Nat.le_trans q2 (Nat.le_trans q3 q4))⟩
theorem pItem_g {y : Nat → Nat} {L n m i : Nat} {g : Nat → Int32} (hi : i ≤ L) (hm : m < 9) (h0 : g 0 = nI n) (h1 : g 1 = nI m) : (pItem y L n g m i).2.2.1 0 = nI n ∧ (pItem y L n g m i).2.2.1 1 = nI (pItem y L n g m i).2.2.2 ∧ (pItem y L n g m i).2.2.2 < 9 ∧ (pItem y L n g m i).2.1 ≤ L ∧ ((pItem y L n g m i).1 = true → tE y L i ≤ (pItem y L n g m i).2.1) := by
  have l1 := (tE_ok (y := y) hi).2.1
  have l2 := (tE_ok (y := y) l1).2.1
  have l3 := (tE_ok (y := y) l2).2.1
  have p : ∀ i, i ≤ L → i ≤ tE y L i := fun i hi => Nat.le_trans (tS_ok (y := y) hi).1 (tE_ok (y := y) hi).1
  have q1 := p _ l1
  have q2 := p _ l2
  have no : ∀ P : Prop, (false = true) → P := fun P h => by cases h
  unfold pItem
  by_cases z : tT y L i = 2
  · rw [if_pos z]; exact pSay_g hi hm h0 h1
  rw [if_neg z]
  by_cases w1 : wd y L i 9 = true
  · rw [if_pos w1]
    by_cases f1 : fgB y L (tE y L i) n = true
    case neg => rw [if_neg f1]; exact ⟨h0, h1, hm, l1, no _⟩
    rw [if_pos f1]
    by_cases f2 : fgB y L (tE y L (tE y L i)) 4 = true
    case neg => rw [if_neg f2]; exact ⟨h0, h1, hm, l2, no _⟩
    rw [if_pos f2]
    refine ⟨?_, ?_, hm, l3, fun _ => Nat.le_trans q1 q2⟩
    · show upd g _ _ 0 = _
      rw [pk_un (by omega)]; exact h0
    · show upd g _ _ 1 = _
      rw [pk_un (by omega)]; exact h1
  rw [if_neg w1]
  by_cases w2 : wd y L i 10 = true
  case neg => rw [if_neg w2]; exact ⟨h0, h1, hm, hi, no _⟩
  rw [if_pos w2]
  by_cases f1 : fgB y L (tE y L i) n = true
  case neg => rw [if_neg f1]; exact ⟨h0, h1, hm, l1, no _⟩
  rw [if_pos f1]
  refine ⟨?_, ?_, hm, l2, fun _ => q1⟩
  · show upd g _ _ 0 = _
    rw [pk_un (by omega)]; exact h0
  · show upd g _ _ 1 = _
    rw [pk_un (by omega)]; exact h1
theorem r_loop {y : Nat → Nat} {L n : Nat} {tx : Nat → Int32} {Q : Int32 → Int32 → Int32 → Int32 → Int32 → (Nat → Int32) → Prop} (hL : L ≤ 200) (hT : TX y L tx) (hn : n < 7) : ∀ (f j m : Nat) (d g : Nat → Int32), j ≤ L → tT y L j = 3 → 201 ≤ f + tS y L (tE y L j) → g 0 = nI n → g 1 = nI m → m < 9 → E58 d g →
    (∀ d', E58 d' (pLp y L n f g m (tE y L j)).2.2.1 → tR y L Q (bI (pLp y L n f g m (tE y L j)).1) (pLp y L n f g m (tE y L j)).2.1 d') → wp_X11_reads_b52 Q (nI L) tx (f + 2) (nI (tE y L j)) (nI (tT y L j)) (nI (tS y L j)) (nI (tE y L j - tS y L j)) d := by
  intro f
  induction f with
  | zero =>
    intro j m d g hj ht hf
    have l1 := (tE_ok (y := y) hj).2.1
    have := (tS_ok (y := y) l1).2
    omega
  | succ f ih =>
    intro j m d g hj ht hf h0 h1 hm hd hQ
    have l1 := (tE_ok (y := y) hj).2.1
    rw [pLp] at hQ
    unfold wp_X11_reads_b52
    rw [ht]
    refine br_t rfl (s_token hL hT l1 ?_)
    have h5 : tT y L (tE y L j) < 5 := srt_5 y L _
    rw [show ((nI (tT y L (tE y L j)) = (0 : Int32)) = (tT y L (tE y L j) = 0)) from propext (nI_eq (b := 0) (by omega) (by omega))]
    refine br_c (fun z => ?_) (fun z => ?_)
    · rw [if_pos z] at hQ
      exact hQ d hd
    rw [if_neg z] at hQ
    obtain ⟨a1, a2, a3, a4, a5⟩ := pItem_g (y := y) l1 hm h0 h1
    refine r_item hL hT l1 hn hm h0 h1 hd (fun d' hd' => ?_)
    change ((bI (pItem y L n g m (tE y L j)).1 = (0 : Int32) → _) ∧ (¬ bI (pItem y L n g m (tE y L j)).1 = (0 : Int32) → _))
    rw [zbR]
    by_cases ok : (pItem y L n g m (tE y L j)).1 = true
    case neg =>
      rw [if_neg ok]
      rw [if_neg (fun h => ok h.1)] at hQ
      exact hQ d' hd'
    rw [if_pos ok]
    have hlt := (tE_ok (y := y) l1).2.2.1 z
    have a5 := a5 ok
    by_cases s3 : tT y L (pItem y L n g m (tE y L j)).2.1 = 3
    · rw [if_pos ⟨ok, s3⟩] at hQ
      have b1 := (tE_ok (y := y) a4).2.2.1 (by omega)
      have b2 := (tE_ok (y := y) a4).2.1
      have b3 := (tS_ok (y := y) b2).1
      have b4 := (tS_ok (y := y) a4).1
      exact ih _ _ d' _ a4 s3 (by omega) a1 a2 a3 hd' hQ
    · rw [if_neg (fun h => s3 h.2)] at hQ
      unfold wp_X11_reads_b52
      have h5 : tT y L (pItem y L n g m (tE y L j)).2.1 < 5 := srt_5 y L _
      refine br_f (fun q => s3 ((nI_eq (b := 3) (by omega) (by omega)).mp q)) (hQ d' hd')
theorem s_clean {d : Nat → Int32} {Q : (Nat → Int32) → Prop} (hQ : ∀ d, E58 d gcl → Q d) : wp_X11_clean d Q := by
  have main : ∀ (f k : Nat) (d : Nat → Int32), k + f = 58 → (∀ i, i < k → d i = gcl i) → wp_X11_clean_b2 Q (f + 1) (nI k) d := by
    intro f
    induction f with
    | zero =>
      intro k d hk hd
      obtain rfl : k = 58 := by omega
      unfold wp_X11_clean_b2
      exact br_t (nI_le (a := 58) (by omega) (by omega)) (hQ d hd)
    | succ f ih =>
      intro k d hk hd
      have hst : ∀ v, v = gcl k → ∀ i, i < k + 1 → upd d k v i = gcl i := fun v hv i hi => by
        by_cases z : i = k
        · rw [z, pk_us]; exact hv
        · rw [pk_un z]; exact hd i (by omega)
      unfold wp_X11_clean_b2 wp_X11_clean_b29 wp_X11_clean_b34
      refine br_f (nI_ge (b := 58) (by omega) (by omega)) (s_in (lo := 2) (hi := 7) (by omega) (by omega) (by omega) ?_)
      rw [zbR, nI_1, nI_clamp (by omega), show ((nI k < (46 : Int32)) = (k < 46)) from propext (nI_ltI (b := 46) (by omega) (by omega))]
      have iv : vp_in (nI k) 58 := vi (by omega) (by omega)
      by_cases z : 2 ≤ k ∧ k ≤ 7
      · rw [if_pos (decide_eq_true z)]
        exact ⟨iv, ih (k + 1) _ (by omega) (hst _ (by unfold gcl; rw [if_pos (by omega)]))⟩
      · rw [if_neg (fun h => z (of_decide_eq_true h))]
        refine br_c (fun z2 => ?_) (fun z2 => ?_)
        · exact ⟨iv, ih (k + 1) _ (by omega) (hst _ (by unfold gcl; rw [if_neg (by omega)]))⟩
        · exact ⟨iv, ih (k + 1) _ (by omega) (hst _ (by unfold gcl; rw [if_pos (by omega)]))⟩
  exact ⟨59, main 58 0 d rfl (fun i hi => absurd hi (Nat.not_lt_zero i))⟩
theorem r_reads {y : Nat → Nat} {L : Nat} {tx d : Nat → Int32} {a b c e : Int32} {Q : Int32 → Int32 → Int32 → Int32 → Int32 → (Nat → Int32) → Prop} (hL : L ≤ 200) (hT : TX y L tx)
    (hQ : ∀ d', ((pRd y L).1 = true → E58 d' (pRd y L).2.2.1) → tR y L Q (bI (pRd y L).1) (pRd y L).2.1 d') : wp_X11_reads (nI L) a b c e d tx Q := by
  have l0 : 0 ≤ L := Nat.zero_le _
  have l1 := (tE_ok (y := y) l0).2.1
  have l2 := (tE_ok (y := y) l1).2.1
  have l3 := (tE_ok (y := y) l2).2.1
  have i0 : vp_in (0 : Int32) 58 := vi (k := 0) (by omega) (by omega)
  have no : ∀ P : Prop, (false = true) → P := fun P h => by cases h
  unfold wp_X11_reads
  unfold pRd at hQ
  refine s_clean (fun d hd => s_token (i := 0) hL hT l0 (s_letters hL hT l0 ?_))
  rw [s_word l0 (w := 8) (by omega) (by decide +kernel)]
  refine br_c (fun w1 => ?_) (fun w1 => ?_)
  case refine_2 =>
    rw [if_neg w1] at hQ
    exact hQ d (no _)
  rw [if_pos w1] at hQ
  refine s_nextF1 hL hT l1 ?_
  by_cases f1 : fgB y L (tE y L 0) 7 = true ∧ tV y L (tE y L 0) ≠ 0
  case neg =>
    rw [if_neg f1] at hQ
    refine br_t ?_ (hQ d (no _))
    by_cases q : tV y L (tE y L 0) = 0
    · rw [if_pos q]
    · rw [if_neg q]
      unfold fgV
      rw [if_neg (fun h => f1 ⟨h, q⟩)]
  rw [if_pos f1] at hQ
  unfold fgV
  rw [if_neg f1.2, if_pos f1.1]
  obtain ⟨n, hn, en⟩ := fgB_c (by omega) f1.1
  have eP : pN y L = n := by unfold pN; rw [en, nI_clamp (by omega)]
  rw [eP] at hQ
  rw [en]
  refine br_f (nm1 (by omega)) ⟨i0, s_token hL hT l2 ?_⟩
  rw [show (0 : Int32).toNatClampNeg = 0 from rfl]
  have hd2 : E58 (upd d 0 (nI n)) (upd gcl 0 (nI n)) := E58_upd hd
  have h5 : tT y L (tE y L (tE y L 0)) < 5 := srt_5 y L _
  by_cases s3 : tT y L (tE y L (tE y L 0)) = 3
  · rw [if_pos s3] at hQ
    have b1 := (tE_ok (y := y) l2).2.2.1 (by omega)
    have b3 := (tS_ok (y := y) l3).1
    exact ⟨202, r_loop hL hT hn 200 _ 0 _ _ l2 s3 (by omega) pk_us (by rw [pk_un (by omega)]; rfl) (by omega) hd2 (fun d' hd' => hQ d' (fun _ => hd'))⟩
  · rw [if_neg s3] at hQ
    refine ⟨1, ?_⟩
    unfold wp_X11_reads_b52
    exact br_f (fun q => s3 ((nI_eq (b := 3) (by omega) (by omega)).mp q)) (hQ _ (no _))
theorem r_read {y : Nat → Nat} {L : Nat} {tx bk d : Nat → Int32} {a b c e : Int32} {Q : Int32 → Int32 → Int32 → Int32 → Int32 → (Nat → Int32) → (Nat → Int32) → Prop} (hL : L ≤ 200) (hT : TX y L tx) (hg : (pRd y L).1 = true → (pRd y L).2.2.1 1 = nI (pRd y L).2.2.2)
    (hQ1 : (pRd y L).1 = true → ∀ a b c e bk' d', E58 bk' (pRd y L).2.2.1 → Q (nI (pRd y L).2.2.2) a b c e bk' d')
    (hQ0 : (pRd y L).1 = false → ∀ a b c e d', Q ((-10 : Int32) - nI (tS y L (pRd y L).2.1)) a b c e bk d') : wp_X11_read (nI L) a b c e bk d tx Q := by
  unfold wp_X11_read
  refine r_reads hL hT (fun d' hd' => ?_)
  change ((bI (pRd y L).1 = (0 : Int32) → _) ∧ (¬ bI (pRd y L).1 = (0 : Int32) → _))
  rw [zbR]
  cases ok : (pRd y L).1 with
  | false => rw [if_neg (by decide)]; exact hQ0 ok _ _ _ _ _
  | true =>
    rw [if_pos rfl]
    have hd' := hd' ok
    have main : ∀ (f k : Nat) (bk : Nat → Int32), k + f = 58 → (∀ i, i < k → bk i = d' i) → wp_X11_read_b17 Q (f + 1) (nI k) (nI (tE y L (pRd y L).2.1)) (nI (tT y L (pRd y L).2.1)) (nI (tS y L (pRd y L).2.1)) (nI (tE y L (pRd y L).2.1 - tS y L (pRd y L).2.1)) bk d' := by
      intro f
      induction f with
      | zero =>
        intro k bk hk hb
        obtain rfl : k = 58 := by omega
        unfold wp_X11_read_b17 wp_X11_read_b41
        refine br_t (nI_le (a := 58) (by omega) (by omega)) ⟨vi (k := 1) (by omega) (by omega), ?_⟩
        have hE : E58 bk (pRd y L).2.2.1 := fun i hi => (hb i hi).trans (hd' i hi)
        rw [show (1 : Int32).toNatClampNeg = 1 from rfl, hE 1 (by omega), hg ok]
        exact hQ1 ok _ _ _ _ bk d' hE
      | succ f ih =>
        intro k bk hk hb
        have iv : vp_in (nI k) 58 := vi (by omega) (by omega)
        unfold wp_X11_read_b17
        refine br_f (nI_ge (b := 58) (by omega) (by omega)) ⟨iv, iv, ?_⟩
        rw [nI_1, nI_clamp (by omega)]
        refine ih (k + 1) _ (by omega) (fun i hi => ?_)
        by_cases z : i = k
        · rw [z, pk_us]
        · rw [pk_un z]; exact hb i (by omega)
    exact ⟨_, main 58 0 bk rfl (fun i hi => absurd hi (Nat.not_lt_zero i))⟩
