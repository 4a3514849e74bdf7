theorem okc_word {bk : Nat → Nat} {q w j : Nat} (hb : bk q < 512) (hw : w < 4) (hj : j < 64) : okc (64 * w + j) bk q = (aB (fun s => !(bk q).testBit s || !j.testBit s) 6 && decide ((bk q / 64) &&& w = 0)) := by
  have tb : ∀ s, (64 * w + j).testBit s = if s < 6 then j.testBit s else w.testBit (s - 6) := fun s => Nat.testBit_two_pow_mul_add (i := 6) w hj s
  have hi : ∀ h, h < 8 → ∀ w, w < 4 → decide (h &&& w = 0) = ((!Nat.testBit h 0 || !Nat.testBit w 0) && (!Nat.testBit h 1 || !Nat.testBit w 1)) := by decide
  have b6 : ∀ t, (bk q / 64).testBit t = (bk q).testBit (t + 6) := fun t => Nat.testBit_div_two_pow (n := 6) (bk q) t
  rw [hi _ (by omega) w hw, b6, b6]
  unfold okc
  have e8 : aB (fun s => !(bk q).testBit s || !(64 * w + j).testBit s) 8 = ((aB (fun s => !(bk q).testBit s || !(64 * w + j).testBit s) 6 && (!(bk q).testBit 6 || !(64 * w + j).testBit 6)) && (!(bk q).testBit 7 || !(64 * w + j).testBit 7)) := rfl
  rw [e8, tb 6, tb 7, if_neg (by decide), if_neg (by decide), aB_c (p := fun s => !(bk q).testBit s || !(64 * w + j).testBit s) (q := fun s => !(bk q).testBit s || !j.testBit s) (fun s hs => by rw [tb s, if_pos hs]), Bool.and_assoc]
def OPI (g : Nat → Int32) (n m : Nat) (kd oa ob : Nat → Nat) (i : Nat) (op : Nat → Int64) : Prop := ∀ j, j < i → ∀ w b, w < 4 → b < 64 → lb (op (4 * j + w)) b = rch g n m kd oa ob (64 * w + b) (sAt j)
theorem rcP_s {g : Nat → Int32} {n m : Nat} {kd oa ob : Nat → Nat} {c v k : Nat} : rcP g n m kd oa ob c v (k + 1) = (rcP g n m kd oa ob c v k || (decide (1 ≤ k) && (okc c (bkQ g n m kd oa ob v) k && rch g n m kd oa ob c (v - (pL (lsS n m kd oa ob 0 v) 12).getD k 0)))) := rfl
theorem s_cSteps {g : Nat → Int32} {n m : Nat} {kd oa ob : Nat → Nat} {i : Nat} {op : Nat → Int64} {bk mi me pa : Nat → Int32} {c1 c2 : Int32} {Q : (Nat → Int64) → (Nat → Int32) → Int32 → Int32 → (Nat → Int32) → (Nat → Int32) → Prop} (hn : n < 7) (hm : m < 9) (hkd : ∀ k, k < m → kd k < 8) (hi : i < 3 ^ n) (hop : OPI g n m kd oa ob i op) (hz : ∀ w b, w < 4 → b < 64 → lb (op (4 * i + w)) b = false) (hmi : ∀ x, x < 12 → mi x = nI (miM (DS kd oa ob n m) (sAt i) x))
    (hQ : ∀ (op' : Nat → Int64) (bk : Nat → Int32) (c1 c2 : Int32) (me pa : Nat → Int32), (∀ p, p < 4 * i → op' p = op p) → (∀ w b, w < 4 → b < 64 → lb (op' (4 * i + w)) b = rcP g n m kd oa ob (64 * w + b) (sAt i) (pL (lsS n m kd oa ob 0 (sAt i)) 12).length) → Q op' bk c1 c2 me pa) : wp_X0_weighStepsTo (nI i) op bk (nI (brM (DS kd oa ob n m) (PS g kd oa ob n m) (sAt i))) mi c1 c2 me pa Q := by
  have h3 := p3_le hn
  have h4 := p4_le hn
  have hs := sAt_all i (by omega)
  have hN := (sAt_lt_N hn (by omega)).mpr hi
  have hcg0 := cg_mk (g := g) (oa := oa) (ob := ob) (c := 0) (mt := nmt) hn hkd
  have hl := cg_lw hcg0 hN hs.2.2
  have hlen := cg_len hcg0 hN hs.2.2
  obtain ⟨hb5, hb0, hb8⟩ := b0_bits (g := g) (oa := oa) (ob := ob) (n := n) (v := sAt i) hm hkd
  have hls : lo (fun x => (sAt i).testBit x && (fun m => !Nat.testBit m 8) (miM (DS kd oa ob n m) (sAt i) x)) 12 = lsS n m kd oa ob 0 (sAt i) := by
    unfold lsS
    refine lo_c 12 (fun x _ => ?_)
    show ((sAt i).testBit x && !(miM (DS kd oa ob n m) (sAt i) x).testBit 8) = _
    rw [(mi_bits hm hkd).2.2, Bool.eq_iff_iff, lsd_iff, Bool.and_eq_true, Bool.not_eq_true']
    exact ⟨fun z => ⟨z.1, z.2, fun k _ hc => by rw [Nat.zero_testBit] at hc; cases hc⟩, fun z => ⟨z.1, z.2.1⟩⟩
  unfold wp_X0_weighStepsTo
  rw [e_setAt (by omega), zl 256]
  refine s_looseIn (z := fun m => !Nat.testBit m 8) (by omega) hmi (fun x _ => ?_) ?_
  · rw [show (256 : Nat) = 2 ^ 8 from rfl, show nI 0 = (0 : Int32) from rfl, fa_bit (by decide)]; simp
  rw [hls]
  refine t_take (by omega) hl.2 (fun me pa h5 h6 => ?_)
  have hE : ∀ j, j < (pE (lsS n m kd oa ob 0 (sAt i)) 12).length → me j = nI ((pE (lsS n m kd oa ob 0 (sAt i)) 12).getD j 0) ∧ (pE (lsS n m kd oa ob 0 (sAt i)) 12).getD j 0 < 12 := fun j hj => ⟨h5 j hj, (pE_get _ _ _ hj).1⟩
  refine s_findBroken (M := fun x => miM (DS kd oa ob n m) (sAt i) x) hl.2 hE hmi (fun bk hbk => ?_)
  have hbkq : ∀ k, k < (pL (lsS n m kd oa ob 0 (sAt i)) 12).length → bk k = nI (bkQ g n m kd oa ob (sAt i) k) ∧ bkQ g n m kd oa ob (sAt i) k < 512 := fun k hk => ⟨hbk k (by rw [← pL_len]; exact hk), bkF_lt hb5 _ (fun j _ => (mi_bits hm hkd).1)⟩
  have main : ∀ (d k : Nat) (op' : Nat → Int64), k + d = (pL (lsS n m kd oa ob 0 (sAt i)) 12).length → 1 ≤ k → (∀ p, p < 4 * i → op' p = op p) → (∀ w b, w < 4 → b < 64 → lb (op' (4 * i + w)) b = rcP g n m kd oa ob (64 * w + b) (sAt i) k) → wp_X0_weighStepsTo_b28 Q (d + 1) (nI i) (nI (sAt i)) (nI k) op' bk (nI (pE (lsS n m kd oa ob 0 (sAt i)) 12).length) (nI (pL (lsS n m kd oa ob 0 (sAt i)) 12).length) me pa := by
    intro d
    induction d with
    | zero =>
      intro k op' hk h1 g1 g2
      unfold wp_X0_weighStepsTo_b28
      refine br_t (nI_le (by omega) (by omega)) (hQ op' bk _ _ me pa g1 (fun w b hw hb => ?_))
      rw [g2 w b hw hb, show k = (pL (lsS n m kd oa ob 0 (sAt i)) 12).length by omega]
    | succ d ih =>
      intro k op' hk h1 g1 g2
      have hklen : k < (pL (lsS n m kd oa ob 0 (sAt i)) 12).length := by omega
      obtain ⟨p1, p2, p3, p4, p5, p6, p7⟩ := cg_part hcg0 hi hklen h1
      obtain ⟨e1, e2⟩ := hbkq k hklen
      have hv64 : vp_in (nI k) 64 := (z_in (by omega)).mpr (by omega)
      unfold wp_X0_weighStepsTo_b28
      refine br_f (nI_ge (by omega) (by omega)) ⟨hv64, ?_⟩
      rw [nI_clamp (by omega), h6 k hklen, p1, e_placeOf p2, e1]
      refine ⟨hv64, s_without (fun y hy => ⟨hv64, ?_⟩)⟩
      rw [zl 6, zl 31, z_shr (by omega) (by omega), zl 4, pk_mul]
      intro hi6 hhi6
      subst hhi6
      have hstep : ∀ w b, rcP g n m kd oa ob (64 * w + b) (sAt i) (k + 1) = (rcP g n m kd oa ob (64 * w + b) (sAt i) k || (okc (64 * w + b) (bkQ g n m kd oa ob (sAt i)) k && rch g n m kd oa ob (64 * w + b) (sAt i - (pL (lsS n m kd oa ob 0 (sAt i)) 12).getD k 0))) := fun w b => by rw [rcP_s, decide_eq_true h1, Bool.true_and]
      generalize hgf : pOf (sAt i - (pL (lsS n m kd oa ob 0 (sAt i)) 12).getD k 0) = fr at *
      have inner : ∀ (f w : Nat) (op2 : Nat → Int64), w + f = 4 → (∀ p, p < 4 * i → op2 p = op p) → (∀ w' b, w' < w → b < 64 → lb (op2 (4 * i + w')) b = rcP g n m kd oa ob (64 * w' + b) (sAt i) (k + 1)) → (∀ w' b, w ≤ w' → w' < 4 → b < 64 → lb (op2 (4 * i + w')) b = rcP g n m kd oa ob (64 * w' + b) (sAt i) k) → wp_X0_weighStepsTo_b81 Q (wp_X0_weighStepsTo_b28 Q (d + 1)) (f + 1) (nI i) (nI (sAt i)) (nI k) (nI (4 * fr)) y (nI (bkQ g n m kd oa ob (sAt i) k / 2 ^ 6)) (nI w) op2 bk (nI (pE (lsS n m kd oa ob 0 (sAt i)) 12).length) (nI (pL (lsS n m kd oa ob 0 (sAt i)) 12).length) me pa := by
        intro f
        induction f with
        | zero =>
          intro w op2 hw k1 k2 k3
          obtain rfl : w = 4 := by omega
          unfold wp_X0_weighStepsTo_b81 wp_X0_weighStepsTo_b128
          refine br_t (nI_le (a := 4) (by omega) (by omega)) ?_
          rw [nI_1]
          exact ih (k + 1) op2 (by omega) (by omega) k1 (fun w b hw hb => k2 w b hw hb)
        | succ f ihf =>
          intro w op2 hw k1 k2 k3
          unfold wp_X0_weighStepsTo_b81 wp_X0_weighStepsTo_b122
          rw [zl 4, pk_mul, nI_add, nI_add, nI_1, fa_and]
          refine br_f (nI_ge (b := 4) (by omega) (by omega)) ?_
          have hand : (bkQ g n m kd oa ob (sAt i) k / 2 ^ 6 &&& w) ≤ w := Nat.and_le_right
          rw [zl 0, nI_eq (by omega) (by omega)]
          refine br_c (fun q => ?_) (fun q => ?_)
          · refine ⟨(z_in (by omega)).mpr (by omega), (z_in (by omega)).mpr (by omega), nm_e ⟨(z_in (by omega)).mpr (by omega), ?_⟩⟩
            rw [nI_clamp (by omega), nI_clamp (by omega)]
            refine ihf (w + 1) _ (by omega) (fun p hp => ?_) (fun w' b hw' hb => ?_) (fun w' b h1w h2w hb => ?_)
            · rw [pk_uLn (by omega)]; exact k1 p hp
            · by_cases z : w' = w
              · subst z
                rw [pk_uLs, lb_or, lb_and, hy b hb, k3 w' b (Nat.le_refl _) (by omega) hb, k1 _ (by omega), hop fr (by omega) w' b (by omega) hb, p4, hstep, okc_word e2 (by omega) hb, decide_eq_true (p := bkQ g n m kd oa ob (sAt i) k / 64 &&& w' = 0) q, Bool.and_true]
                congr 1
                rw [Bool.and_comm]
              · rw [pk_uLn (by omega)]; exact k2 w' b (by omega) hb
            · rw [pk_uLn (by omega)]; exact k3 w' b (by omega) h2w hb
          · refine ihf (w + 1) op2 (by omega) k1 (fun w' b hw' hb => ?_) (fun w' b h1w h2w hb => k3 w' b (by omega) h2w hb)
            by_cases z : w' = w
            · subst z
              rw [k3 w' b (Nat.le_refl _) (by omega) hb, hstep, okc_word e2 (by omega) hb, decide_eq_false (p := bkQ g n m kd oa ob (sAt i) k / 64 &&& w' = 0) q, Bool.and_false, Bool.false_and, Bool.or_false]
            · exact k2 w' b (by omega) hb
      exact ⟨5, inner 4 0 op' rfl g1 (fun w' b hw' => absurd hw' (Nat.not_lt_zero _)) (fun w' b _ h2w hb => g2 w' b h2w hb)⟩
  refine ⟨_, main ((pL (lsS n m kd oa ob 0 (sAt i)) 12).length - 1) 1 op (by omega) (Nat.le_refl 1) (fun _ _ => rfl) (fun w b hw hb => ?_)⟩
  rw [hz w b hw hb, rcP, oB, oB]
  simp
/-- what the class holds when it has chosen -/
def CHS (g : Nat → Int32) (n m : Nat) (kd oa ob : Nat → Nat) (en : Int32) (op : Nat → Int64) : Prop := en = nI (4 * (3 ^ n - 1)) ∧ ∀ w b, w < 4 → b < 64 → lb (op (4 * (3 ^ n - 1) + w)) b = (wB (ed (KA g n m kd oa ob (64 * w + b) nmt none) n) (2 ^ (2 * n)) 0 != 0)
theorem wfD_DS {kd oa ob : Nat → Nat} {n m : Nat} (hn : n < 7) (h : ∀ k, k < m → oa k < n ∧ ob k < n) : wfD (DS kd oa ob n m) := by
  have hT : ∀ t, t < 7 → wfD (DT t) := by
    intro t
    induction t with
    | zero => intro _ d hd; simp [DT] at hd
    | succ t ih =>
      intro ht d hd
      rw [DT, List.mem_append, List.mem_singleton] at hd
      rcases hd with hd | rfl
      · exact ih (by omega) d hd
      · exact ⟨by simp only; omega, by simp only; omega⟩
  induction m with
  | zero => exact hT n hn
  | succ m ih =>
    intro d hd
    rw [DS, List.mem_append] at hd
    rcases hd with hd | hd
    · exact ih (fun k hk => h k (by omega)) d hd
    · obtain ⟨h1, h2⟩ := h m (by omega)
      unfold DK at hd
      repeat' split at hd
      all_goals simp only [List.mem_cons, List.not_mem_nil, or_false] at hd
      all_goals first
        | (rcases hd with rfl | rfl | rfl <;> exact ⟨by simp only; omega, by simp only; omega⟩)
        | (rcases hd with rfl | rfl <;> exact ⟨by simp only; omega, by simp only; omega⟩)
        | (subst hd; exact ⟨by simp only; omega, by simp only; omega⟩)
theorem wfP_PS {g : Nat → Int32} {kd oa ob : Nat → Nat} {n m : Nat} (hn : n < 7) (h : ∀ k, k < m → oa k < n ∧ ob k < n) : wfP (PS g kd oa ob n m) := by
  have hW : ∀ a b, a < 6 → b ≤ a → wfP (PW g a b) := by
    intro a b ha
    induction b with
    | zero => intro _ d hd; simp [PW] at hd
    | succ b ih =>
      intro hb d hd
      rw [PW, List.mem_append] at hd
      rcases hd with hd | hd
      · exact ih (by omega) d hd
      · split at hd
        · rw [List.mem_singleton] at hd; subst hd; exact ⟨by simp only; omega, by simp only; omega⟩
        · cases hd
  have hT : ∀ t, t < 7 → wfP (PT g t) := by
    intro t
    induction t with
    | zero => intro _ d hd; simp [PT] at hd
    | succ t ih =>
      intro ht d hd
      rw [PT, List.mem_append] at hd
      rcases hd with hd | hd
      · exact ih (by omega) d hd
      · exact hW t t (by omega) (Nat.le_refl t) d hd
  induction m with
  | zero => exact hT n hn
  | succ m ih =>
    intro d hd
    rw [PS, List.mem_append] at hd
    rcases hd with hd | hd
    · exact ih (fun k hk => h k (by omega)) d hd
    · obtain ⟨h1, h2⟩ := h m (by omega)
      unfold PK at hd
      split at hd
      · rw [List.mem_singleton] at hd; subst hd; exact ⟨by simp only; omega, by simp only; omega⟩
      · cases hd
