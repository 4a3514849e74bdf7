theorem s_cWeigh {g : Nat → Int32} {n m : Nat} {kd oa ob : Nat → Nat} {en cb c1 c2 : Int32} {op : Nat → Int64} {bk so la st ma on ot pt mi me pa : Nat → Int32} {Q : Int32 → (Nat → Int64) → (Nat → Int32) → Int32 → (Nat → Int32) → Int32 → Int32 → (Nat → Int32) → (Nat → Int32) → Prop} (hn : n < 7) (hm : m < 9) (hk : ∀ k, k < m → kd k < 8 ∧ oa k < n ∧ ob k < n) (hd : dR (DS kd oa ob n m) so la st ma) (hp : pR (PS g kd oa ob n m) on ot pt)
    (hQ : ∀ (en cb c1 c2 : Int32) (op : Nat → Int64) (bk mi me pa : Nat → Int32), CHS g n m kd oa ob en op → Q en op bk cb mi c1 c2 me pa) : wp_X0_weigh (nI n) en op bk (nI (DS kd oa ob n m).length) (nI (PS g kd oa ob n m).length) cb so la st ma on ot pt mi c1 c2 me pa Q := by
  have h3 := p3_le hn
  have h4 := p4_le hn
  have h30 : 0 < 3 ^ n := Nat.pow_pos (by decide)
  have hkd : ∀ k, k < m → kd k < 8 := fun k hk' => (hk k hk').1
  have wD := wfD_DS (kd := kd) (oa := oa) (ob := ob) hn (fun k hk' => (hk k hk').2)
  have wP := wfP_PS (g := g) (kd := kd) (oa := oa) (ob := ob) hn (fun k hk' => (hk k hk').2)
  have lD := DS_len kd oa ob n m
  have lP := PS_len g kd oa ob hn m
  have main : ∀ (d i : Nat) (op : Nat → Int64) (bk mi me pa : Nat → Int32) (cb c1 c2 : Int32), i + d = 3 ^ n → 1 ≤ i → OPI g n m kd oa ob i op → wp_X0_weigh_b35 Q (nI (DS kd oa ob n m).length) (nI (PS g kd oa ob n m).length) so la st ma on ot pt (d + 1) (nI (3 ^ n)) (nI i) en op bk cb mi c1 c2 me pa := by
    intro d
    induction d with
    | zero =>
      intro i op bk mi me pa cb c1 c2 hi h1 hop
      obtain rfl : i = 3 ^ n := by omega
      unfold wp_X0_weigh_b35 wp_X0_weigh_b104
      refine br_t (nI_le (by omega) (by omega)) ?_
      rw [zl 4, zl 1, pk_sub h30, pk_mul]
      intro y hy
      subst hy
      refine hQ _ _ _ _ _ _ _ _ _ ⟨rfl, fun w b hw hb => ?_⟩
      rw [hop (3 ^ n - 1) (by omega) w b hw hb, sAt_full n hn, BF_all]; rfl
    | succ d ih =>
      intro i op bk mi me pa cb c1 c2 hi h1 hop
      have hs := sAt_all i (by omega)
      have hN := (sAt_lt_N hn (by omega)).mpr (by omega : i < 3 ^ n)
      have hv0 : sAt i ≠ 0 := fun z => by have := sAt_mono (i := 0) (j := i) (by omega) (by omega); rw [sAt_0] at this; omega
      obtain ⟨hb5, hb0, hb8⟩ := b0_bits (g := g) (oa := oa) (ob := ob) (n := n) (v := sAt i) hm hkd
      have step := fun c => rch_step (g := g) (oa := oa) (ob := ob) (c := c) hn hm hkd hN hs.2.2 hv0
      -- the set itself, its words empty
      have body : ∀ (op : Nat → Int64) (bk mi me pa : Nat → Int32) (cb c1 c2 : Int32), OPI g n m kd oa ob i op → (∀ w b, w < 4 → b < 64 → lb (op (4 * i + w)) b = false) → wp_X0_weigh_b70 Q (nI (DS kd oa ob n m).length) (nI (PS g kd oa ob n m).length) so la st ma on ot pt (wp_X0_weigh_b35 Q (nI (DS kd oa ob n m).length) (nI (PS g kd oa ob n m).length) so la st ma on ot pt (d + 1)) (nI (3 ^ n)) (nI i) en op bk cb mi c1 c2 me pa := by
        intro op bk mi me pa cb c1 c2 hop hz
        unfold wp_X0_weigh_b70 wp_X0_weigh_b98
        rw [e_setAt (by omega)]
        refine s_weigh (by omega) (by omega) (by omega) hd hp wD wP (fun mi hmi => ?_)
        rw [zl 256, nI_1, show (256 : Nat) = 2 ^ 8 from rfl, fa_bit (by decide), hb8]
        refine br_c (fun q => ?_) (fun q => ?_)
        · refine s_cSteps hn hm hkd (by omega) hop hz hmi (fun op' bk c1 c2 me pa g1 g2 => ?_)
          refine ih (i + 1) op' bk mi me pa _ _ _ (by omega) (by omega) (fun j hj w b hw hb => ?_)
          by_cases e : j = i
          · rw [e, g2 w b hw hb, step, q]; rfl
          · rw [g1 _ (by omega)]; exact hop j (by omega) w b hw hb
        · refine ih (i + 1) op bk mi me pa _ _ _ (by omega) (by omega) (fun j hj w b hw hb => ?_)
          by_cases e : j = i
          · rw [e, hz w b hw hb, step]
            have : gvB g n (sAt i) = true := by simpa using q
            rw [this]; rfl
          · exact hop j (by omega) w b hw hb
      have zero : ∀ (f w : Nat) (op : Nat → Int64), w + f = 4 → OPI g n m kd oa ob i op → (∀ w' b, w' < w → b < 64 → lb (op (4 * i + w')) b = false) → wp_X0_weigh_b45 Q (nI (DS kd oa ob n m).length) (nI (PS g kd oa ob n m).length) so la st ma on ot pt (wp_X0_weigh_b35 Q (nI (DS kd oa ob n m).length) (nI (PS g kd oa ob n m).length) so la st ma on ot pt (d + 1)) (f + 1) (nI (3 ^ n)) (nI i) (nI w) en op bk cb mi c1 c2 me pa := by
        intro f
        induction f with
        | zero =>
          intro w op hw hop hz
          obtain rfl : w = 4 := by omega
          unfold wp_X0_weigh_b45
          exact br_t (nI_le (a := 4) (by omega) (by omega)) (body op bk mi me pa cb c1 c2 hop hz)
        | succ f ihf =>
          intro w op hw hop hz
          unfold wp_X0_weigh_b45
          rw [zl 4, pk_mul, nI_add, nI_1]
          refine br_f (nI_ge (b := 4) (by omega) (by omega)) ⟨(z_in (by omega)).mpr (by omega), ?_⟩
          rw [nI_clamp (by omega)]
          refine ihf (w + 1) _ (by omega) (fun j hj w' b hw' hb => ?_) (fun w' b hw' hb => ?_)
          · rw [pk_uLn (by omega)]; exact hop j hj w' b hw' hb
          · by_cases e : w' = w
            · rw [e, pk_uLs]; exact lb_0 b hb
            · rw [pk_uLn (by omega)]; exact hz w' b (by omega) hb
      unfold wp_X0_weigh_b35
      refine br_f (nI_ge (by omega) (by omega)) ⟨5, zero 4 0 op rfl hop (fun w' b hw' => absurd hw' (Nat.not_lt_zero _))⟩
  have init : ∀ (d w : Nat) (op : Nat → Int64), w + d = 4 → (∀ w' b, w' < w → b < 64 → lb (op w') b = true) → wp_X0_weigh_b10 Q (nI (DS kd oa ob n m).length) (nI (PS g kd oa ob n m).length) so la st ma on ot pt (d + 1) (nI (3 ^ n)) (nI w) en op bk cb mi c1 c2 me pa := by
    intro d
    induction d with
    | zero =>
      intro w op hw h
      obtain rfl : w = 4 := by omega
      unfold wp_X0_weigh_b10 wp_X0_weigh_b32
      refine br_t (nI_le (a := 4) (by omega) (by omega)) ⟨3 ^ n - 1 + 1, main (3 ^ n - 1) 1 op bk mi me pa cb c1 c2 (by omega) (Nat.le_refl 1) (fun j hj w b hw hb => ?_)⟩
      obtain rfl : j = 0 := by omega
      rw [Nat.mul_zero, Nat.zero_add, h w b hw hb, sAt_0, rch, cg_F0]; rfl
    | succ d ih =>
      intro w op hw h
      unfold wp_X0_weigh_b10
      refine br_f (nI_ge (b := 4) (by omega) (by omega)) ⟨(z_in (by omega)).mpr (by omega), ?_⟩
      rw [nI_clamp (by omega), nI_1]
      refine ih (w + 1) _ (by omega) (fun w' b hw' hb => ?_)
      by_cases e : w' = w
      · rw [e, pk_uLs]; exact lb_m1 b hb
      · rw [pk_uLn e]; exact h w' b (by omega) hb
  unfold wp_X0_weigh
  refine ⟨(z_in (by omega)).mpr hn, 5, ?_⟩
  rw [nI_clamp (by omega), nw_SETS_at n hn]
  exact init 4 0 op rfl (fun w' b hw' => absurd hw' (Nat.not_lt_zero _))
/-- whether a choice of sayings can be kept -/
def fit (g : Nat → Int32) (n m : Nat) (kd oa ob : Nat → Nat) (c : Nat) : Bool := wB (ed (KA g n m kd oa ob c nmt none) n) (2 ^ (2 * n)) 0 != 0
theorem s_can {g : Nat → Int32} {n m : Nat} {kd oa ob : Nat → Nat} {en : Int32} {op : Nat → Int64} {c : Nat} {Q : Int32 → Prop} (hn : n < 7) (h : CHS g n m kd oa ob en op) (hc : c < 256) (hQ : Q (bI (fit g n m kd oa ob c))) : wp_X0_can (nI c) en op Q := by
  obtain ⟨rfl, h⟩ := h
  have h3 := p3_le hn
  have h63 : nI c &&& nI 63 = nI (c % 64) := fa_mask c 6
  unfold wp_X0_can
  rw [zl 6, zl 31, z_shr (by omega) (by omega), nI_add, zl 63, h63, nI_clamp (by omega)]
  refine ⟨(z_in (by omega)).mpr (by omega), ?_⟩
  rw [lb_at (by omega), h (c / 2 ^ 6) (c % 64) (by omega) (by omega), show 64 * (c / 2 ^ 6) + c % 64 = c by omega]
  unfold fit at hQ
  cases z : (wB (ed (KA g n m kd oa ob c nmt none) n) (2 ^ (2 * n)) 0 != 0)
  · rw [z] at hQ
    exact br_f (by decide) hQ
  · rw [z] at hQ
    exact br_t (by decide) hQ
/-- the fewest that can not all be kept, of like ones the least: of the choices below k -/
def clA (p : Nat → Bool) : Nat → Option Nat
  | 0 => none
  | k + 1 => if p k = true then clA p k else (match clA p k with
    | none => some k
    | some b => if pcn k < pcn b then some k else some b)
theorem clA_ok {p : Nat → Bool} : ∀ k, (clA p k = none → ∀ c, c < k → p c = true) ∧ ∀ b, clA p k = some b → b < k ∧ p b = false ∧ ∀ c, c < k → p c = false → pcn b ≤ pcn c ∧ (pcn c = pcn b → b ≤ c)
  | 0 => ⟨fun _ c hc => absurd hc (Nat.not_lt_zero c), fun b hb => (by cases hb)⟩
  | k + 1 => by
    obtain ⟨i1, i2⟩ := clA_ok (p := p) k
    have lt : ∀ c, c < k + 1 → c < k ∨ c = k := fun c hc => by omega
    rw [clA]
    by_cases z : p k = true
    · rw [if_pos z]
      refine ⟨fun h c hc => ?_, fun b hb => ?_⟩
      · rcases lt c hc with w | w
        · exact i1 h c w
        · rw [w]; exact z
      · obtain ⟨j1, j2, j3⟩ := i2 b hb
        refine ⟨by omega, j2, fun c hc hp => ?_⟩
        rcases lt c hc with w | w
        · exact j3 c w hp
        · rw [w, z] at hp; cases hp
    · rw [if_neg z]
      have z : p k = false := by simpa using z
      cases h : clA p k with
      | none =>
        refine ⟨fun h => (by cases h), fun b hb => ?_⟩
        cases hb
        refine ⟨by omega, z, fun c hc hp => ?_⟩
        rcases lt c hc with w | w
        · rw [i1 h c w] at hp; cases hp
        · rw [w]; exact ⟨Nat.le_refl _, fun _ => Nat.le_refl _⟩
      | some b0 =>
        obtain ⟨j1, j2, j3⟩ := i2 b0 h
        simp only
        by_cases y : pcn k < pcn b0
        · rw [if_pos y]
          refine ⟨fun h => (by cases h), fun b hb => ?_⟩
          cases hb
          refine ⟨by omega, z, fun c hc hp => ?_⟩
          rcases lt c hc with w | w
          · have := j3 c w hp
            exact ⟨by omega, fun _ => by omega⟩
          · rw [w]; exact ⟨Nat.le_refl _, fun _ => Nat.le_refl _⟩
        · rw [if_neg y]
          refine ⟨fun h => (by cases h), fun b hb => ?_⟩
          cases hb
          refine ⟨by omega, j2, fun c hc hp => ?_⟩
          rcases lt c hc with w | w
          · exact j3 c w hp
          · rw [w]; exact ⟨by omega, fun _ => by omega⟩
def clI (s : Option Nat) : Int32 := match s with | none => -nI 1 | some b => nI b
theorem s_fewest {g : Nat → Int32} {n m : Nat} {kd oa ob : Nat → Nat} {en : Int32} {op : Nat → Int64} {Q : Int32 → Prop} (hn : n < 7) (hm : m < 9) (h : CHS g n m kd oa ob en op) (hQ : Q (clI (clA (fit g n m kd oa ob) (2 ^ m)))) : wp_X0_fewestThatCanNot (nI m) en op Q := by
  have h8 : 2 ^ m ≤ 256 := Nat.pow_le_pow_right (n := 2) (by decide) (by omega : m ≤ 8)
  have main : ∀ (d k : Nat), k + d = 2 ^ m → wp_X0_fewestThatCanNot_b4 Q en op (d + 1) (nI m) (clI (clA (fit g n m kd oa ob) k)) (nI k) := by
    intro d
    induction d with
    | zero =>
      intro k hk
      obtain rfl : k = 2 ^ m := by omega
      unfold wp_X0_fewestThatCanNot_b4
      rw [zl 1, zl 31, z_one (by omega)]
      exact br_t (nI_le (by omega) (by omega)) hQ
    | succ d ih =>
      intro k hk
      have ih := ih (k + 1) (by omega)
      have hok := (clA_ok (p := fit g n m kd oa ob) k).2
      unfold wp_X0_fewestThatCanNot_b4 wp_X0_fewestThatCanNot_b35 wp_X0_fewestThatCanNot_b37
      rw [zl 1, zl 31, z_one (by omega)]
      refine br_f (nI_ge (by omega) (by omega)) (s_can hn h (by omega) ?_)
      rw [zl 0, bI_z, nI_add]
      rw [clA] at ih
      refine br_c (fun z => ?_) (fun z => ?_)
      · rw [if_neg (by rw [z]; decide)] at ih
        cases hs : clA (fit g n m kd oa ob) k with
        | none => rw [hs] at ih; exact br_t rfl ih
        | some b =>
          rw [hs] at ih
          have hb := (hok b hs).1
          refine br_f (by rw [show clI (some b) = nI b from rfl, z_ne (by omega) (by omega) (by omega)]; exact fun t => t) ?_
          refine s_bitCount (by omega) (s_bitCount (by omega) ?_)
          rw [nI_leI (pcn_lt b (by omega)) (pcn_lt k (by omega))]
          refine br_c (fun y => ?_) (fun y => ?_)
          · simp only [if_neg (show ¬ pcn k < pcn b by omega)] at ih; exact ih
          · simp only [if_pos (show pcn k < pcn b by omega)] at ih; exact ih
      · rw [if_pos (by simpa using z)] at ih
        exact ih
  unfold wp_X0_fewestThatCanNot
  exact ⟨_, main (2 ^ m) 0 (by omega)⟩
/-- the fewest to be dropped: of those below k -/
def drA (p : Nat → Bool) (all : Nat) : Nat → Nat
  | 0 => all
  | k + 1 => if p (all ^^^ k) = true ∧ pcn k < pcn (drA p all k) then k else drA p all k
theorem drA_le {p : Nat → Bool} {all : Nat} : ∀ k, k ≤ all → drA p all k ≤ all
  | 0, _ => Nat.le_refl _
  | k + 1, h => by
    rw [drA]
    split
    · omega
    · exact drA_le k (by omega)
theorem s_toDrop {g : Nat → Int32} {n m : Nat} {kd oa ob : Nat → Nat} {en : Int32} {op : Nat → Int64} {Q : Int32 → Prop} (hn : n < 7) (hm : m < 9) (h : CHS g n m kd oa ob en op) (hQ : Q (nI (drA (fit g n m kd oa ob) (2 ^ m - 1) (2 ^ m - 1)))) : wp_X0_fewestToDrop (nI m) en op Q := by
  have h8 : 2 ^ m ≤ 256 := Nat.pow_le_pow_right (n := 2) (by decide) (by omega : m ≤ 8)
  have h1 : 1 ≤ 2 ^ m := Nat.two_pow_pos _
  have main : ∀ (d k : Nat), k + d = 2 ^ m - 1 → wp_X0_fewestToDrop_b11 Q en op (d + 1) (nI (2 ^ m - 1)) (nI (drA (fit g n m kd oa ob) (2 ^ m - 1) k)) (nI k) := by
    intro d
    induction d with
    | zero =>
      intro k hk
      obtain rfl : k = 2 ^ m - 1 := by omega
      unfold wp_X0_fewestToDrop_b11
      exact br_t (nI_le (by omega) (by omega)) hQ
    | succ d ih =>
      intro k hk
      have ih := ih (k + 1) (by omega)
      have hle := drA_le (p := fit g n m kd oa ob) (all := 2 ^ m - 1) k (by omega)
      have hx : (2 ^ m - 1) ^^^ k < 2 ^ m := Nat.xor_lt_two_pow (by omega) (by omega)
      unfold wp_X0_fewestToDrop_b11 wp_X0_fewestToDrop_b43
      rw [z_xor, nI_1]
      refine br_f (nI_ge (by omega) (by omega)) (s_can hn h (by omega) ?_)
      rw [zl 0, bI_z]
      rw [drA] at ih
      refine br_c (fun z => ?_) (fun z => ?_)
      · rw [if_neg (fun t => by rw [z] at t; cases t.1)] at ih; exact ih
      · refine s_bitCount (by omega) (s_bitCount (by omega) ?_)
        rw [nI_leI (pcn_lt _ (by omega)) (pcn_lt k (by omega))]
        refine br_c (fun y => ?_) (fun y => ?_)
        · rw [if_neg (fun t => by omega)] at ih; exact ih
        · rw [if_pos ⟨by simpa using z, by omega⟩] at ih; exact ih
  unfold wp_X0_fewestToDrop
  rw [zl 1, zl 31, z_one (by omega), pk_sub h1]
  intro y hy
  subst hy
  exact ⟨_, main (2 ^ m - 1) 0 (by omega)⟩
