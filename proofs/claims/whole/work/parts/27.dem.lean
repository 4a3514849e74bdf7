/-! the class's demands: a row is (sooner, later, strict, maker); a parting is (one, other, maker) -/
abbrev DR : Type := Nat × Nat × Bool × Nat
abbrev PR : Type := Nat × Nat × Nat
def dR (D : List DR) (so la st ma : Nat → Int32) : Prop := ∀ i d, D[i]? = some d → so i = nI d.1 ∧ la i = nI d.2.1 ∧ st i = bI d.2.2.1 ∧ ma i = nI d.2.2.2
def pR (P : List PR) (on ot pa : Nat → Int32) : Prop := ∀ i d, P[i]? = some d → on i = nI d.1 ∧ ot i = nI d.2.1 ∧ pa i = nI d.2.2
theorem get_app1 {α : Type} {l : List α} {a d : α} {i : Nat} (h : (l ++ [a])[i]? = some d) : (i < l.length ∧ l[i]? = some d) ∨ (i = l.length ∧ d = a) := by
  rcases Nat.lt_or_ge i l.length with q | q
  · rw [List.getElem?_append_left q] at h; exact Or.inl ⟨q, h⟩
  · rw [List.getElem?_append_right q] at h
    rcases Nat.eq_zero_or_pos (i - l.length) with z | z
    · rw [z] at h; simp at h; exact Or.inr ⟨by omega, h.symm⟩
    · rw [List.getElem?_eq_none (by simp; omega)] at h; cases h
theorem vp_bI (b : Bool) : vp_nar .boolean (bI b) = bI b := by cases b <;> rfl
theorem s_add {D : List DR} {x y mk : Nat} {b : Bool} {so la st ma : Nat → Int32} {Q : Int32 → (Nat → Int32) → (Nat → Int32) → (Nat → Int32) → (Nat → Int32) → Prop} (hl : D.length < 48) (h : dR D so la st ma)
    (hQ : ∀ so la st ma, dR (D ++ [(x, y, b, mk)]) so la st ma → Q (nI (D ++ [(x, y, b, mk)]).length) so la st ma) : wp_X2_add (nI x) (nI y) (bI b) (nI mk) (nI D.length) so la st ma Q := by
  have hv : vp_in (nI D.length) 48 := (z_in (by omega)).mpr hl
  unfold wp_X2_add
  refine br_t (nI_lt (b := 48) (by omega) (by omega)) ⟨hv, hv, hv, hv, ?_⟩
  rw [nI_clamp (by omega), vp_bI, zl 1, nI_add]
  have e : D.length + 1 = (D ++ [(x, y, b, mk)]).length := by simp
  rw [e]
  refine hQ _ _ _ _ (fun i d hi => ?_)
  rcases get_app1 hi with ⟨q, z⟩ | ⟨rfl, rfl⟩
  · rw [pk_un (by omega), pk_un (by omega), pk_un (by omega), pk_un (by omega)]; exact h i d z
  · rw [pk_us, pk_us, pk_us, pk_us]; exact ⟨rfl, rfl, rfl, rfl⟩
theorem s_ahead {D : List DR} {x y mk : Nat} {so la st ma : Nat → Int32} {Q : Int32 → (Nat → Int32) → (Nat → Int32) → (Nat → Int32) → (Nat → Int32) → Prop} (hl : D.length < 48) (h : dR D so la st ma)
    (hQ : ∀ so la st ma, dR (D ++ [(x, y, true, mk)]) so la st ma → Q (nI (D ++ [(x, y, true, mk)]).length) so la st ma) : wp_X2_ahead (nI x) (nI y) (nI mk) (nI D.length) so la st ma Q := by
  unfold wp_X2_ahead
  exact s_add (b := true) hl h hQ
theorem s_noLater {D : List DR} {x y mk : Nat} {so la st ma : Nat → Int32} {Q : Int32 → (Nat → Int32) → (Nat → Int32) → (Nat → Int32) → (Nat → Int32) → Prop} (hl : D.length < 48) (h : dR D so la st ma)
    (hQ : ∀ so la st ma, dR (D ++ [(x, y, false, mk)]) so la st ma → Q (nI (D ++ [(x, y, false, mk)]).length) so la st ma) : wp_X2_noLater (nI x) (nI y) (nI mk) (nI D.length) so la st ma Q := by
  unfold wp_X2_noLater
  exact s_add (b := false) hl h hQ
theorem s_alike {D : List DR} {x y mk : Nat} {so la st ma : Nat → Int32} {Q : Int32 → (Nat → Int32) → (Nat → Int32) → (Nat → Int32) → (Nat → Int32) → Prop} (hl : D.length < 47) (h : dR D so la st ma)
    (hQ : ∀ so la st ma, dR (D ++ [(x, y, false, mk), (y, x, false, mk)]) so la st ma → Q (nI (D ++ [(x, y, false, mk), (y, x, false, mk)]).length) so la st ma) : wp_X2_alike (nI x) (nI y) (nI mk) (nI D.length) so la st ma Q := by
  unfold wp_X2_alike
  refine s_add (b := false) (by omega) h (fun so la st ma h => s_add (b := false) (by simp; omega) h (fun so la st ma h => ?_))
  rw [List.append_assoc] at h ⊢
  exact hQ so la st ma h
theorem s_apartD {P : List PR} {x y mk : Nat} {on ot pa : Nat → Int32} {Q : Int32 → (Nat → Int32) → (Nat → Int32) → (Nat → Int32) → Prop} (hl : P.length < 48) (h : pR P on ot pa)
    (hQ : ∀ on ot pa, pR (P ++ [(x, y, mk)]) on ot pa → Q (nI (P ++ [(x, y, mk)]).length) on ot pa) : wp_X2_apart (nI x) (nI y) (nI mk) (nI P.length) on ot pa Q := by
  have hv : vp_in (nI P.length) 48 := (z_in (by omega)).mpr hl
  unfold wp_X2_apart
  refine br_t (nI_lt (b := 48) (by omega) (by omega)) ⟨hv, hv, hv, ?_⟩
  rw [nI_clamp (by omega), zl 1, nI_add]
  have e : P.length + 1 = (P ++ [(x, y, mk)]).length := by simp
  rw [e]
  refine hQ _ _ _ (fun i d hi => ?_)
  rcases get_app1 hi with ⟨q, z⟩ | ⟨rfl, rfl⟩
  · rw [pk_un (by omega), pk_un (by omega), pk_un (by omega)]; exact h i d z
  · rw [pk_us, pk_us, pk_us]; exact ⟨rfl, rfl, rfl⟩
/-- the rows of a saying -/
def DK (k a b mk : Nat) : List DR :=
  if k = 0 then [(2 * a + 1, 2 * b, true, mk)]
  else if k = 1 then [(2 * a + 1, 2 * b, false, mk), (2 * b, 2 * a + 1, false, mk)]
  else if k = 2 then [(2 * b, 2 * a, false, mk), (2 * a + 1, 2 * b + 1, false, mk)]
  else if k = 3 then [(2 * b, 2 * a, true, mk), (2 * a + 1, 2 * b + 1, true, mk)]
  else if k = 4 then [(2 * a, 2 * b, false, mk), (2 * b, 2 * a, false, mk), (2 * a + 1, 2 * b + 1, false, mk)]
  else if k = 5 then [(2 * a + 1, 2 * b + 1, false, mk), (2 * b + 1, 2 * a + 1, false, mk), (2 * b, 2 * a, false, mk)]
  else if k = 6 then []
  else [(2 * a, 2 * b, true, mk), (2 * b, 2 * a + 1, true, mk), (2 * a + 1, 2 * b + 1, true, mk)]
def PK (k a b mk : Nat) : List PR := if k = 6 then [(a, b, mk)] else []
theorem DK_len (k a b mk : Nat) : (DK k a b mk).length ≤ 3 := by
  unfold DK; repeat' split
  all_goals simp
theorem PK_len (k a b mk : Nat) : (PK k a b mk).length ≤ 1 := by
  unfold PK; repeat' split
  all_goals simp
theorem s_takeSaying {D : List DR} {P : List PR} {k a b mk : Nat} {so la st ma on ot pa : Nat → Int32} {Q : Int32 → Int32 → (Nat → Int32) → (Nat → Int32) → (Nat → Int32) → (Nat → Int32) → (Nat → Int32) → (Nat → Int32) → (Nat → Int32) → Prop} (hk : k < 8) (hl : D.length ≤ 45) (hl2 : P.length < 48) (h : dR D so la st ma) (hp : pR P on ot pa)
    (hQ : ∀ so la st ma on ot pa, dR (D ++ DK k a b mk) so la st ma → pR (P ++ PK k a b mk) on ot pa → Q (nI (D ++ DK k a b mk).length) (nI (P ++ PK k a b mk).length) so la st ma on ot pa) : wp_X2_takeSaying (nI k) (nI a) (nI b) (nI mk) (nI D.length) (nI P.length) so la st ma on ot pa Q := by
  have e1 : ((2 : Int32) * nI a) = nI (2 * a) := by rw [zl 2, pk_mul]
  have e2 : ((2 : Int32) * nI b) = nI (2 * b) := by rw [zl 2, pk_mul]
  have e3 : nI (2 * a) + (1 : Int32) = nI (2 * a + 1) := nI_1 _
  have e4 : nI (2 * b) + (1 : Int32) = nI (2 * b + 1) := nI_1 _
  unfold wp_X2_takeSaying
  rw [e1, e2, e3, e4]
  intro y1 h1 y2 h2
  subst h1; subst h2
  match k, hk with
  | 0, _ =>
    refine br_t rfl ?_
    refine s_ahead (by omega) h (fun so la st ma h => ?_)
    have := hQ so la st ma on ot pa h (by simpa [PK] using hp)
    simpa [DK, PK] using this
  | 1, _ =>
    refine br_f (by decide) (br_t rfl ?_)
    refine s_alike (by omega) h (fun so la st ma h => ?_)
    have := hQ so la st ma on ot pa h (by simpa [PK] using hp)
    simpa [DK, PK] using this
  | 2, _ =>
    refine br_f (by decide) (br_f (by decide) (br_t rfl ?_))
    refine s_noLater (by omega) h (fun so la st ma h => s_noLater (by simp; omega) h (fun so la st ma h => ?_))
    rw [List.append_assoc] at h
    have := hQ so la st ma on ot pa h (by simpa [PK] using hp)
    simpa [DK, PK] using this
  | 3, _ =>
    refine br_f (by decide) (br_f (by decide) (br_f (by decide) (br_t rfl ?_)))
    refine s_ahead (by omega) h (fun so la st ma h => s_ahead (by simp; omega) h (fun so la st ma h => ?_))
    rw [List.append_assoc] at h
    have := hQ so la st ma on ot pa h (by simpa [PK] using hp)
    simpa [DK, PK] using this
  | 4, _ =>
    refine br_f (by decide) (br_f (by decide) (br_f (by decide) (br_f (by decide) (br_t rfl ?_))))
    refine s_alike (by omega) h (fun so la st ma h => s_noLater (by simp; omega) h (fun so la st ma h => ?_))
    rw [List.append_assoc] at h
    have := hQ so la st ma on ot pa h (by simpa [PK] using hp)
    simpa [DK, PK] using this
  | 5, _ =>
    refine br_f (by decide) (br_f (by decide) (br_f (by decide) (br_f (by decide) (br_f (by decide) (br_t rfl ?_)))))
    refine s_alike (by omega) h (fun so la st ma h => s_noLater (by simp; omega) h (fun so la st ma h => ?_))
    rw [List.append_assoc] at h
    have := hQ so la st ma on ot pa h (by simpa [PK] using hp)
    simpa [DK, PK] using this
  | 6, _ =>
    refine br_f (by decide) (br_f (by decide) (br_f (by decide) (br_f (by decide) (br_f (by decide) (br_f (by decide) (br_t rfl ?_))))))
    refine s_apartD (by omega) hp (fun on ot pa hp => ?_)
    have := hQ so la st ma on ot pa (by simpa [DK] using h) hp
    simpa [DK, PK] using this
  | 7, _ =>
    refine br_f (by decide) (br_f (by decide) (br_f (by decide) (br_f (by decide) (br_f (by decide) (br_f (by decide) (br_f (by decide) ?_))))))
    refine s_ahead (by omega) h (fun so la st ma h => s_ahead (by simp; omega) h (fun so la st ma h => s_ahead (by simp; omega) h (fun so la st ma h => ?_)))
    rw [List.append_assoc, List.append_assoc] at h
    have := hQ so la st ma on ot pa h (by simpa [PK] using hp)
    simpa [DK, PK] using this
/-- the rows of a history: its things, who is parted of the same one, its sayings -/
def PW (g : Nat → Int32) (a : Nat) : Nat → List PR
  | 0 => []
  | b + 1 => PW g a b ++ (if sme g a b = true then [(a, b, 256)] else [])
def DT : Nat → List DR
  | 0 => []
  | t + 1 => DT t ++ [(2 * t, 2 * t + 1, true, 256)]
def PT (g : Nat → Int32) : Nat → List PR
  | 0 => []
  | t + 1 => PT g t ++ PW g t t
def DS (kd oa ob : Nat → Nat) (n : Nat) : Nat → List DR
  | 0 => DT n
  | k + 1 => DS kd oa ob n k ++ DK (kd k) (oa k) (ob k) (2 ^ k)
def PS (g : Nat → Int32) (kd oa ob : Nat → Nat) (n : Nat) : Nat → List PR
  | 0 => PT g n
  | k + 1 => PS g kd oa ob n k ++ PK (kd k) (oa k) (ob k) (2 ^ k)
theorem DT_len : ∀ n, (DT n).length = n
  | 0 => rfl
  | n + 1 => by rw [DT, List.length_append, DT_len n]; rfl
theorem PW_len (g : Nat → Int32) (a : Nat) : ∀ b, (PW g a b).length ≤ b
  | 0 => Nat.le_refl 0
  | b + 1 => by
    have := PW_len g a b
    rw [PW, List.length_append]
    split <;> simp <;> omega
theorem PT_len (g : Nat → Int32) : ∀ n, (PT g n).length * 2 ≤ n * (n - 1)
  | 0 => by simp [PT]
  | n + 1 => by
    have h1 := PT_len g n
    have h2 := PW_len g n n
    rw [PT, List.length_append, Nat.add_sub_cancel]
    cases n with
    | zero => simp [PT, PW]
    | succ n =>
      rw [Nat.add_sub_cancel] at h1
      have e : (n + 1 + 1) * (n + 1) = (n + 1) * n + (n + 1) * 2 := by rw [← Nat.mul_add, Nat.mul_comm]
      rw [e]; omega
theorem DS_len (kd oa ob : Nat → Nat) (n : Nat) : ∀ k, (DS kd oa ob n k).length ≤ n + 3 * k
  | 0 => by rw [DS, DT_len]; omega
  | k + 1 => by
    have h1 := DS_len kd oa ob n k
    have h2 := DK_len (kd k) (oa k) (ob k) (2 ^ k)
    rw [DS, List.length_append]; omega
theorem PS_len (g : Nat → Int32) (kd oa ob : Nat → Nat) {n : Nat} (hn : n < 7) : ∀ k, (PS g kd oa ob n k).length ≤ 15 + k
  | 0 => by
    have := PT_len g n
    rw [PS]
    have : n * (n - 1) ≤ 6 * 5 := Nat.mul_le_mul (by omega) (by omega)
    omega
  | k + 1 => by
    have h1 := PS_len g kd oa ob hn k
    have h2 := PK_len (kd k) (oa k) (ob k) (2 ^ k)
    rw [PS, List.length_append]; omega
/-- the class's history is that of the book -/
def HC (g : Nat → Int32) (n m : Nat) (th sy : Int32) (wh kd a b : Nat → Int32) : Prop := th = nI n ∧ sy = nI m ∧ (∀ t, t < n → wh t = g (2 + t)) ∧ ∀ k, k < m → kd k = g (14 + k) ∧ a k = g (22 + k) ∧ b k = g (30 + k)
theorem s_takeD {g : Nat → Int32} {n m : Nat} {kd oa ob : Nat → Nat} {th sy c1 c2 c3 : Int32} {wh ck ca cb so la st ma on ot pa : Nat → Int32} {Q : Int32 → Int32 → Int32 → (Nat → Int32) → (Nat → Int32) → (Nat → Int32) → (Nat → Int32) → (Nat → Int32) → (Nat → Int32) → (Nat → Int32) → Prop} (hg : HB g n m kd oa ob) (hc : HC g n m th sy wh ck ca cb)
    (hQ : ∀ so la st ma on ot pa, dR (DS kd oa ob n m) so la st ma → pR (PS g kd oa ob n m) on ot pa → Q (nI (DS kd oa ob n m).length) (nI (DS kd oa ob n m).length) (nI (PS g kd oa ob n m).length) so la st ma on ot pa) : wp_X2_take c1 c2 c3 so la st ma on ot pa th sy wh ck ca cb Q := by
  obtain ⟨h0, h1, hn, hm, hk⟩ := hg
  obtain ⟨rfl, rfl, hw, hs⟩ := hc
  -- the sayings
  have S : ∀ (d k : Nat) (so la st ma on ot pa : Nat → Int32), k + d = m → dR (DS kd oa ob n k) so la st ma → pR (PS g kd oa ob n k) on ot pa → wp_X2_take_b90 Q (nI m) ck ca cb (d + 1) (nI k) (nI (DS kd oa ob n k).length) c2 (nI (PS g kd oa ob n k).length) so la st ma on ot pa := by
    intro d
    induction d with
    | zero =>
      intro k so la st ma on ot pa hkm h hp
      obtain rfl : k = m := by omega
      unfold wp_X2_take_b90
      refine br_t (nI_le (by omega) (by omega)) ?_
      unfold wp_X2_take_b129
      exact hQ so la st ma on ot pa h hp
    | succ d ih =>
      intro k so la st ma on ot pa hkm h hp
      have l1 := DS_len kd oa ob n k
      have l2 := PS_len g kd oa ob hn k
      obtain ⟨g1, g2, g3, g4, g5, g6⟩ := hk k (by omega)
      obtain ⟨s1, s2, s3⟩ := hs k (by omega)
      have hv : vp_in (nI k) 8 := (z_in (by omega)).mpr (by omega)
      unfold wp_X2_take_b90
      refine br_f (nI_ge (by omega) (by omega)) ⟨hv, hv, hv, ?_⟩
      rw [nI_clamp (by omega), s1, s2, s3, g1, g3, g5, zl 1, zl 31, z_one (by omega), nI_add]
      exact s_takeSaying g2 (by omega) (by omega) h hp (fun so la st ma on ot pa h hp => ih (k + 1) so la st ma on ot pa (by omega) h hp)
  -- who is parted of the same one
  have W : ∀ (K : Int32 → Int32 → Int32 → Int32 → (Nat → Int32) → (Nat → Int32) → (Nat → Int32) → (Nat → Int32) → (Nat → Int32) → (Nat → Int32) → (Nat → Int32) → Prop) (t : Nat) (cn : Int32) (so la st ma : Nat → Int32), t < n → (∀ on ot pa, pR (PT g (t + 1)) on ot pa → wp_X2_take_b82 Q K (nI t) cn c2 (nI (PT g (t + 1)).length) so la st ma on ot pa) →
      ∀ (d u : Nat) (on ot pa : Nat → Int32), u + d = t → pR (PT g t ++ PW g t u) on ot pa → wp_X2_take_b37 Q wh K (d + 1) (nI t) (nI u) cn c2 (nI (PT g t ++ PW g t u).length) so la st ma on ot pa := by
    intro K t cn so la st ma ht hK d
    induction d with
    | zero =>
      intro u on ot pa hu hp
      obtain rfl : u = t := by omega
      unfold wp_X2_take_b37
      exact br_t (nI_le (by omega) (by omega)) (hK on ot pa hp)
    | succ d ih =>
      intro u on ot pa hu hp
      have hv : vp_in (nI t) 6 := (z_in (by omega)).mpr (by omega)
      have hv2 : vp_in (nI u) 6 := (z_in (by omega)).mpr (by omega)
      have l1 := PT_len g t
      have l2 := PW_len g t u
      have l3 : t * (t - 1) ≤ 6 * 5 := Nat.mul_le_mul (by omega) (by omega)
      unfold wp_X2_take_b37
      refine br_f (nI_ge (by omega) (by omega)) ⟨hv, ?_⟩
      rw [nI_clamp (by omega), nI_clamp (by omega), hw t (by omega), hw u (by omega)]
      have skip : sme g t u = false → wp_X2_take_b76 Q (wp_X2_take_b37 Q wh K (d + 1)) (nI t) (nI u) cn c2 (nI (PT g t ++ PW g t u).length) so la st ma on ot pa := by
        intro hz
        unfold wp_X2_take_b76
        rw [zl 1, nI_add]
        have e : PW g t (u + 1) = PW g t u := by rw [PW, hz]; simp
        have := ih (u + 1) on ot pa (by omega) (by rw [e]; exact hp)
        rw [e] at this
        exact this
      have em : (-1 : Int32) = -nI 1 := rfl
      rw [em]
      refine br_c (fun q1 => skip (by unfold sme; rw [q1]; simp)) (fun q1 => ⟨hv, hv2, br_c (fun q2 => ?_) (fun q2 => skip (by unfold sme; simp [q2]))⟩)
      have hz : sme g t u = true := by unfold sme; rw [decide_eq_true q2, decide_eq_false q1]; rfl
      refine s_apartD (mk := 256) (by rw [List.length_append]; omega) hp (fun on ot pa hp => ?_)
      unfold wp_X2_take_b76
      rw [zl 1, nI_add]
      have e : PT g t ++ PW g t (u + 1) = PT g t ++ PW g t u ++ [(t, u, 256)] := by rw [PW, hz, List.append_assoc]; rfl
      have := ih (u + 1) on ot pa (by omega) (by rw [e]; exact hp)
      rw [e] at this
      exact this
  have T : ∀ (d t : Nat) (so la st ma on ot pa : Nat → Int32), t + d = n → dR (DT t) so la st ma → pR (PT g t) on ot pa → wp_X2_take_b12 Q (nI n) (nI m) wh ck ca cb (d + 1) (nI t) (nI (DT t).length) c2 (nI (PT g t).length) so la st ma on ot pa := by
    intro d
    induction d with
    | zero =>
      intro t so la st ma on ot pa ht h hp
      obtain rfl : t = n := by omega
      unfold wp_X2_take_b12
      refine br_t (nI_le (by omega) (by omega)) ?_
      unfold wp_X2_take_b88
      exact ⟨m + 1, S m 0 so la st ma on ot pa (by omega) h hp⟩
    | succ d ih =>
      intro t so la st ma on ot pa ht h hp
      have l1 := DT_len t
      unfold wp_X2_take_b12
      refine br_f (nI_ge (by omega) (by omega)) ?_
      rw [zl 2, zl 1, zl 256, pk_mul, nI_add]
      refine s_ahead (by omega) h (fun so la st ma h => ?_)
      refine ⟨t + 1, ?_⟩
      have := W (wp_X2_take_b12 Q (nI n) (nI m) wh ck ca cb (d + 1)) t (nI (DT (t + 1)).length) so la st ma (by omega) (fun on ot pa hp => ?_) t 0 on ot pa (by omega) (by rw [PW, List.append_nil]; exact hp)
      · rw [PW, List.append_nil] at this; exact this
      · unfold wp_X2_take_b82
        rw [zl 1, nI_add]
        exact ih (t + 1) so la st ma on ot pa (by omega) h hp
  unfold wp_X2_take
  exact ⟨n + 1, T n 0 so la st ma on ot pa (by omega) (fun i d h => by simp [DT] at h) (fun i d h => by simp [PT] at h)⟩
