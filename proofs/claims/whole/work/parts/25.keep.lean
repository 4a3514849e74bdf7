/-! the reference: what a moment keeps -/
def bn (s m e : Nat) : Bool := s.testBit e || m.testBit e
def ap (a b s m : Nat) : Bool := !(m.testBit (2 * b) && bn s m (2 * a) && !bn s m (2 * a + 1)) && !(m.testBit (2 * a) && bn s m (2 * b) && !bn s m (2 * b + 1))
def kp (k a b s m : Nat) : Bool :=
  if k = 0 then !m.testBit (2 * b) || s.testBit (2 * a + 1)
  else if k = 1 then m.testBit (2 * b) == m.testBit (2 * a + 1)
  else if k = 6 then ap a b s m
  else if k = 3 then (!m.testBit (2 * a) || s.testBit (2 * b)) && (!m.testBit (2 * b + 1) || s.testBit (2 * a + 1))
  else if k ≤ 6 then ((!m.testBit (2 * a) || bn s m (2 * b)) && (!m.testBit (2 * b + 1) || bn s m (2 * a + 1))) && (!(k == 4) || m.testBit (2 * a) == m.testBit (2 * b)) && (!(k == 5) || m.testBit (2 * a + 1) == m.testBit (2 * b + 1))
  else (!m.testBit (2 * b) || s.testBit (2 * a)) && (!m.testBit (2 * a + 1) || s.testBit (2 * b)) && (!m.testBit (2 * b + 1) || s.testBit (2 * a + 1))
theorem e_is {e m : Nat} {Q : Int32 → Prop} (he : e < 32) (hm : m < 2 ^ 31) : wp_X11_is (nI e) (nI m) Q ↔ Q (bI (m.testBit e)) := by
  unfold wp_X11_is
  simp (disch := omega) only [zs, z_bit, bI_1, zb]
  cases m.testBit e <;> simp [bI_t, bI_f]
theorem e_was {e m : Nat} {Q : Int32 → Prop} (he : e < 32) (hm : m < 2 ^ 31) : wp_X11_was (nI e) (nI m) Q ↔ Q (bI (m.testBit e)) := by
  unfold wp_X11_was
  simp (disch := omega) only [zs, z_bit, bI_1, zb]
  cases m.testBit e <;> simp [bI_t, bI_f]
theorem e_been {e s m : Nat} {Q : Int32 → Prop} (he : e < 32) (hs : s < 2 ^ 31) (hm : m < 2 ^ 31) : wp_X11_been (nI e) (nI s) (nI m) Q ↔ Q (bI (bn s m e)) := by
  unfold wp_X11_been wp_X11_been_b16
  simp (disch := omega) only [zs, e_is, e_was, bI_z, zb, bn]
  cases s.testBit e <;> cases m.testBit e <;> simp [bI_t, bI_f]
theorem zbR (b : Bool) (A B : Prop) : ((bI b = (0 : Int32) → A) ∧ (¬ bI b = (0 : Int32) → B)) ↔ (if b = true then B else A) := by
  cases b
  · exact ⟨fun h => h.1 rfl, fun h => ⟨fun _ => h, fun q => absurd rfl q⟩⟩
  · exact ⟨fun h => h.2 (by decide), fun h => ⟨fun q => absurd q (by decide), fun _ => h⟩⟩
theorem zeR (a b : Bool) (A B : Prop) : ((bI a = bI b → A) ∧ (¬ bI a = bI b → B)) ↔ (if (a == b) = true then A else B) := by
  cases a <;> cases b
  · exact ⟨fun h => h.1 rfl, fun h => ⟨fun _ => h, fun q => absurd rfl q⟩⟩
  · exact ⟨fun h => h.2 (by decide), fun h => ⟨fun q => absurd q (by decide), fun _ => h⟩⟩
  · exact ⟨fun h => h.2 (by decide), fun h => ⟨fun q => absurd q (by decide), fun _ => h⟩⟩
  · exact ⟨fun h => h.1 rfl, fun h => ⟨fun _ => h, fun q => absurd rfl q⟩⟩
theorem e_ap75 {x z : Bool} {Q : Int32 → Prop} : wp_X11_apart_b75 Q (bI x) (bI z) ↔ Q (bI (!x && !z)) := by
  unfold wp_X11_apart_b75
  rw [zbR, zbR]
  cases x <;> cases z <;> exact Iff.rfl
theorem e_ap37 {a b s m : Nat} {x : Bool} {Q : Int32 → Prop} (ha : a < 15) (hb : b < 15) (hs : s < 2 ^ 31) (hm : m < 2 ^ 31) : wp_X11_apart_b37 Q (nI s) (nI m) (nI a) (nI b) (bI x) ↔ Q (bI (!x && !(m.testBit (2 * a) && bn s m (2 * b) && !bn s m (2 * b + 1)))) := by
  unfold wp_X11_apart_b37 wp_X11_apart_b74
  rw [zl 2, pk_mul, pk_mul, zl 1, nI_add, e_is (by omega) hm, e_been (by omega) hs hm, e_been (by omega) hs hm, zbR, zbR, zbR, show (0 : Int32) = bI false from rfl, show nI 1 = bI true from rfl, e_ap75, e_ap75]
  cases m.testBit (2 * a) <;> cases bn s m (2 * b) <;> cases bn s m (2 * b + 1) <;> cases x <;> exact Iff.rfl
theorem e_apart {a b s m : Nat} {Q : Int32 → Prop} (ha : a < 15) (hb : b < 15) (hs : s < 2 ^ 31) (hm : m < 2 ^ 31) : wp_X11_apart (nI a) (nI b) (nI s) (nI m) Q ↔ Q (bI (ap a b s m)) := by
  unfold wp_X11_apart wp_X11_apart_b36
  rw [zl 2, pk_mul, pk_mul, zl 1, nI_add, e_is (by omega) hm, e_been (by omega) hs hm, e_been (by omega) hs hm, zbR, zbR, zbR, show (0 : Int32) = bI false from rfl, show nI 1 = bI true from rfl, e_ap37 ha hb hs hm, e_ap37 ha hb hs hm, ap]
  cases m.testBit (2 * b) <;> cases bn s m (2 * a) <;> cases bn s m (2 * a + 1) <;> exact Iff.rfl
theorem e_k112 {x y s m : Nat} {Q : Int32 → Prop} (hx : x < 32) (hy : y < 32) (hs : s < 2 ^ 31) (hm : m < 2 ^ 31) : wp_X11_keeps_b112 Q (nI s) (nI m) (nI x) (nI y) ↔ Q (bI (!m.testBit y || s.testBit x)) := by
  unfold wp_X11_keeps_b112 wp_X11_keeps_b130
  rw [e_is hy hm, e_was hx hs, zbR, zbR]
  cases m.testBit y <;> cases s.testBit x <;> exact Iff.rfl
theorem e_k178 {x y s m : Nat} {Q : Int32 → Prop} (hx : x < 32) (hy : y < 32) (hs : s < 2 ^ 31) (hm : m < 2 ^ 31) : wp_X11_keeps_b178 Q (nI s) (nI m) (nI x) (nI y) ↔ Q (bI (!m.testBit y || s.testBit x)) := by
  unfold wp_X11_keeps_b178 wp_X11_keeps_b196
  rw [e_is hy hm, e_was hx hs, zbR, zbR]
  cases m.testBit y <;> cases s.testBit x <;> exact Iff.rfl
theorem e_k160 {x y w s m : Nat} {Q : Int32 → Prop} (hx : x < 32) (hy : y < 32) (hw : w < 32) (hs : s < 2 ^ 31) (hm : m < 2 ^ 31) : wp_X11_keeps_b160 Q (nI s) (nI m) (nI x) (nI w) (nI y) ↔ Q (bI ((!m.testBit x || s.testBit w) && (!m.testBit y || s.testBit x))) := by
  unfold wp_X11_keeps_b160
  rw [e_is hx hm, e_was hw hs, e_k178 hx hy hs hm, zbR, zbR]
  generalize (!m.testBit y || s.testBit x) = z
  cases m.testBit x <;> cases s.testBit w <;> cases z <;> exact Iff.rfl
theorem e_k270 {k x y m : Nat} {Q : Int32 → Prop} (hk : k < 8) (hx : x < 32) (hy : y < 32) (hm : m < 2 ^ 31) : wp_X11_keeps_b270 Q (nI m) (nI k) (nI x) (nI y) ↔ Q (bI (!(k == 5) || m.testBit x == m.testBit y)) := by
  unfold wp_X11_keeps_b270 wp_X11_keeps_b290
  rw [e_is hx hm, e_is hy hm, zeR, zl 5, nI_eq (by omega) (by omega), zb]
  by_cases q : k = 5
  · subst q; rw [if_pos rfl]; cases m.testBit x <;> cases m.testBit y <;> exact Iff.rfl
  · rw [if_neg q, show (k == 5) = false from beq_false_of_ne q]; exact Iff.rfl
theorem e_k243 {k a b c d m : Nat} {z : Bool} {Q : Int32 → Prop} (hk : k < 8) (ha : a < 32) (hb : b < 32) (hc : c < 32) (hd : d < 32) (hm : m < 2 ^ 31) : wp_X11_keeps_b243 Q (nI m) (nI k) (nI a) (nI b) (nI c) (nI d) (bI z) ↔ Q (bI (z && (!(k == 4) || m.testBit a == m.testBit c) && (!(k == 5) || m.testBit b == m.testBit d))) := by
  unfold wp_X11_keeps_b243
  rw [zbR, e_is ha hm, e_is hc hm, zeR, e_k270 hk hb hd hm, zl 4, nI_eq (by omega) (by omega), zb]
  generalize (!(k == 5) || m.testBit b == m.testBit d) = w
  by_cases q : k = 4
  · subst q; rw [if_pos rfl]; cases z <;> cases m.testBit a <;> cases m.testBit c <;> cases w <;> exact Iff.rfl
  · rw [if_neg q, show (k == 4) = false from beq_false_of_ne q]; cases z <;> cases w <;> exact Iff.rfl
theorem e_k220 {k a b c d s m : Nat} {Q : Int32 → Prop} (hk : k < 8) (ha : a < 32) (hb : b < 32) (hc : c < 32) (hd : d < 32) (hs : s < 2 ^ 31) (hm : m < 2 ^ 31) : wp_X11_keeps_b220 Q (nI s) (nI m) (nI k) (nI a) (nI b) (nI c) (nI d) ↔ Q (bI ((!m.testBit d || bn s m b) && (!(k == 4) || m.testBit a == m.testBit c) && (!(k == 5) || m.testBit b == m.testBit d))) := by
  unfold wp_X11_keeps_b220 wp_X11_keeps_b238 wp_X11_keeps_b242
  rw [e_is hd hm, e_been hb hs hm, zbR, zbR, show (0 : Int32) = bI false from rfl, show (1 : Int32) = bI true from rfl, e_k243 hk ha hb hc hd hm, e_k243 hk ha hb hc hd hm]
  generalize (!(k == 5) || m.testBit b == m.testBit d) = w
  generalize (!(k == 4) || m.testBit a == m.testBit c) = v
  cases m.testBit d <;> cases bn s m b <;> cases v <;> cases w <;> exact Iff.rfl
theorem s_keeps {k a b s m : Nat} {Q : Int32 → Prop} (hk : k < 8) (ha : a < 15) (hb : b < 15) (hs : s < 2 ^ 31) (hm : m < 2 ^ 31) (h : Q (bI (kp k a b s m))) : wp_X11_keeps (nI k) (nI a) (nI b) (nI s) (nI m) Q := by
  have r1 : ∀ (P : Int32 → Prop) (e : Int32), (∀ y, y = e → P y) ↔ P e := fun P e => ⟨fun h => h e rfl, fun h y hy => hy ▸ h⟩
  have q2 : ((2 : Int32) * nI a) = nI (2 * a) := by rw [zl 2, pk_mul]
  have q3 : ((2 : Int32) * nI b) = nI (2 * b) := by rw [zl 2, pk_mul]
  have q4 : nI (2 * a) + (1 : Int32) = nI (2 * a + 1) := nI_1 _
  have q5 : nI (2 * b) + (1 : Int32) = nI (2 * b + 1) := nI_1 _
  unfold wp_X11_keeps
  rw [q2, q3, q4, q5]
  intro y26 h26 y27 h27
  subst h26; subst h27
  match k, hk with
  | 0, _ =>
    refine br_t rfl ?_
    unfold wp_X11_keeps_b44
    rw [e_is (by omega) hm, e_was (by omega) hs, zbR, zbR]
    unfold kp at h
    revert h
    cases m.testBit (2 * b) <;> cases s.testBit (2 * a + 1) <;> exact id
  | 1, _ =>
    refine br_f (by decide) (br_t rfl ?_)
    rw [e_is (by omega) hm, e_is (by omega) hm, zeR]
    unfold kp at h
    revert h
    cases m.testBit (2 * b) <;> cases m.testBit (2 * a + 1) <;> exact id
  | 6, _ =>
    refine br_f (by decide) (br_f (by decide) (br_t rfl ?_))
    rw [e_apart ha hb hs hm]
    exact ⟨bI_n _, h⟩
  | 3, _ =>
    refine br_f (by decide) (br_f (by decide) (br_f (by decide) (br_t rfl ?_)))
    rw [e_is (by omega) hm, e_was (by omega) hs, e_k112 (by omega) (by omega) hs hm, zbR, zbR]
    have h : Q (bI ((!m.testBit (2 * a) || s.testBit (2 * b)) && (!m.testBit (2 * b + 1) || s.testBit (2 * a + 1)))) := h
    revert h
    generalize (!m.testBit (2 * b + 1) || s.testBit (2 * a + 1)) = z
    cases m.testBit (2 * a) <;> cases s.testBit (2 * b) <;> cases z <;> exact id
  | 2, _ =>
    refine br_f (by decide) (br_f (by decide) (br_f (by decide) (br_f (by decide) (br_t (by decide) ?_))))
    unfold wp_X11_keeps_b242
    rw [e_is (by omega) hm, e_been (by omega) hs hm, show (0 : Int32) = bI false from rfl, e_k243 (by decide) (by omega) (by omega) (by omega) (by omega) hm, e_k220 (by decide) (by omega) (by omega) (by omega) (by omega) hs hm, show (bI false : Int32) = 0 from rfl, zbR, zbR]
    have h : Q (bI (((!m.testBit (2 * a) || bn s m (2 * b)) && (!m.testBit (2 * b + 1) || bn s m (2 * a + 1))) && (!((2 : Nat) == 4) || m.testBit (2 * a) == m.testBit (2 * b)) && (!((2 : Nat) == 5) || m.testBit (2 * a + 1) == m.testBit (2 * b + 1)))) := h
    rw [Bool.and_assoc, Bool.and_assoc, ← Bool.and_assoc (!m.testBit (2 * b + 1) || bn s m (2 * a + 1))] at h
    revert h
    generalize ((!m.testBit (2 * b + 1) || bn s m (2 * a + 1)) && (!((2 : Nat) == 4) || m.testBit (2 * a) == m.testBit (2 * b)) && (!((2 : Nat) == 5) || m.testBit (2 * a + 1) == m.testBit (2 * b + 1))) = z
    cases m.testBit (2 * a) <;> cases bn s m (2 * b) <;> cases z <;> exact id
  | 4, _ =>
    refine br_f (by decide) (br_f (by decide) (br_f (by decide) (br_f (by decide) (br_t (by decide) ?_))))
    unfold wp_X11_keeps_b242
    rw [e_is (by omega) hm, e_been (by omega) hs hm, show (0 : Int32) = bI false from rfl, e_k243 (by decide) (by omega) (by omega) (by omega) (by omega) hm, e_k220 (by decide) (by omega) (by omega) (by omega) (by omega) hs hm, show (bI false : Int32) = 0 from rfl, zbR, zbR]
    have h : Q (bI (((!m.testBit (2 * a) || bn s m (2 * b)) && (!m.testBit (2 * b + 1) || bn s m (2 * a + 1))) && (!((4 : Nat) == 4) || m.testBit (2 * a) == m.testBit (2 * b)) && (!((4 : Nat) == 5) || m.testBit (2 * a + 1) == m.testBit (2 * b + 1)))) := h
    rw [Bool.and_assoc, Bool.and_assoc, ← Bool.and_assoc (!m.testBit (2 * b + 1) || bn s m (2 * a + 1))] at h
    revert h
    generalize ((!m.testBit (2 * b + 1) || bn s m (2 * a + 1)) && (!((4 : Nat) == 4) || m.testBit (2 * a) == m.testBit (2 * b)) && (!((4 : Nat) == 5) || m.testBit (2 * a + 1) == m.testBit (2 * b + 1))) = z
    cases m.testBit (2 * a) <;> cases bn s m (2 * b) <;> cases z <;> exact id
  | 5, _ =>
    refine br_f (by decide) (br_f (by decide) (br_f (by decide) (br_f (by decide) (br_t (by decide) ?_))))
    unfold wp_X11_keeps_b242
    rw [e_is (by omega) hm, e_been (by omega) hs hm, show (0 : Int32) = bI false from rfl, e_k243 (by decide) (by omega) (by omega) (by omega) (by omega) hm, e_k220 (by decide) (by omega) (by omega) (by omega) (by omega) hs hm, show (bI false : Int32) = 0 from rfl, zbR, zbR]
    have h : Q (bI (((!m.testBit (2 * a) || bn s m (2 * b)) && (!m.testBit (2 * b + 1) || bn s m (2 * a + 1))) && (!((5 : Nat) == 4) || m.testBit (2 * a) == m.testBit (2 * b)) && (!((5 : Nat) == 5) || m.testBit (2 * a + 1) == m.testBit (2 * b + 1)))) := h
    rw [Bool.and_assoc, Bool.and_assoc, ← Bool.and_assoc (!m.testBit (2 * b + 1) || bn s m (2 * a + 1))] at h
    revert h
    generalize ((!m.testBit (2 * b + 1) || bn s m (2 * a + 1)) && (!((5 : Nat) == 4) || m.testBit (2 * a) == m.testBit (2 * b)) && (!((5 : Nat) == 5) || m.testBit (2 * a + 1) == m.testBit (2 * b + 1))) = z
    cases m.testBit (2 * a) <;> cases bn s m (2 * b) <;> cases z <;> exact id
  | 7, _ =>
    refine br_f (by decide) (br_f (by decide) (br_f (by decide) (br_f (by decide) (br_f (by decide) ?_))))
    rw [e_is (by omega) hm, e_was (by omega) hs, e_k160 (by omega) (by omega) (by omega) hs hm, zbR, zbR]
    have h : Q (bI ((!m.testBit (2 * b) || s.testBit (2 * a)) && (!m.testBit (2 * a + 1) || s.testBit (2 * b)) && (!m.testBit (2 * b + 1) || s.testBit (2 * a + 1)))) := h
    rw [Bool.and_assoc] at h
    revert h
    generalize ((!m.testBit (2 * a + 1) || s.testBit (2 * b)) && (!m.testBit (2 * b + 1) || s.testBit (2 * a + 1))) = z
    cases m.testBit (2 * b) <;> cases s.testBit (2 * a) <;> cases z <;> exact id
/-- the book of a history: n things, m sayings, their kinds, who of whom -/
def HB (g : Nat → Int32) (n m : Nat) (kd oa ob : Nat → Nat) : Prop := g 0 = nI n ∧ g 1 = nI m ∧ n < 7 ∧ m < 9 ∧ ∀ k, k < m → g (14 + k) = nI (kd k) ∧ kd k < 8 ∧ g (22 + k) = nI (oa k) ∧ oa k < n ∧ g (30 + k) = nI (ob k) ∧ ob k < n
def sme (g : Nat → Int32) (a b : Nat) : Bool := !decide (g (2 + a) = -nI 1) && decide (g (2 + a) = g (2 + b))
def mtOk (mt : Nat → Option Nat) (m a : Nat) : Bool := match mt a with
  | none => true
  | some b => m.testBit (2 * a) == m.testBit (2 * b) && m.testBit (2 * a + 1) == m.testBit (2 * b + 1)
def mtI : Option Nat → Int32
  | none => -nI 1
  | some b => nI b
def paOk (pa : Option (Nat × Nat)) (s m : Nat) : Bool := match pa with
  | none => true
  | some q => ap q.1 q.2 s m
def kAll (g : Nat → Int32) (n m : Nat) (kd oa ob : Nat → Nat) (c : Nat) (mt : Nat → Option Nat) (pa : Option (Nat × Nat)) (s M : Nat) : Bool :=
  paOk pa s M && aB (fun k => !c.testBit k || kp (kd k) (oa k) (ob k) s M) m && aB (fun a => aB (fun b => !sme g a b || ap a b s M) a && mtOk mt M a) n
theorem k_all_in {Q : Int32 → Prop} {s M n a : Nat} {g : Nat → Int32} {mate : Nat → Int32} {K : Int32 → Int32 → Int32 → Prop} {mt : Nat → Option Nat} (hs : s < 4096) (hM : M < 4096) (hn : n < 7) (ha : a < n) (hm : mate a = mtI (mt a)) (hb : ∀ b, mt a = some b → b < 6)
    (good : Bool) (hK : K (nI n) (bI (good && (aB (fun b => !sme g a b || ap a b s M) a && mtOk mt M a))) (nI (a + 1))) :
    ∀ (d b : Nat), b + d = a → wp_X11_allKept_b145 Q (nI s) (nI M) g mate K (d + 1) (nI n) (bI (good && aB (fun b => !sme g a b || ap a b s M) b)) (nI a) (nI b) := by
  intro d
  induction d with
  | zero =>
    intro b hba
    obtain rfl : b = a := by omega
    unfold wp_X11_allKept_b145
    refine br_t (nI_le (by omega) (by omega)) ?_
    unfold wp_X11_allKept_b209
    refine ⟨(z_in (by omega)).mpr (by omega), ?_⟩
    rw [nI_clamp (by omega), hm]
    rw [← Bool.and_assoc] at hK
    generalize (good && aB (fun b' => !sme g b b' || ap b b' s M) b) = z at hK ⊢
    unfold wp_X11_allKept_b247 wp_X11_allKept_b276 wp_X11_allKept_b289 wp_X11_allKept_b285 wp_X11_allKept_b290
    unfold mtOk at hK
    cases hmt : mt b with
    | none =>
      rw [hmt] at hK
      simp (disch := omega) only [zs, mtI, bI_z, zb, nI_add]
      cases z <;> simpa [bI_t, bI_f] using hK
    | some c =>
      have hc := hb c hmt
      rw [hmt] at hK
      simp (disch := omega) only [zs, mtI, bI_z, bI_e, zb, nI_add, pk_mul, z_ne, e_is, nI_leI]
      have hK : K (nI n) (bI (z && (M.testBit (2 * b) == M.testBit (2 * c) && M.testBit (2 * b + 1) == M.testBit (2 * c + 1)))) (nI (b + 1)) := hK
      revert hK
      cases z <;> cases (M.testBit (2 * b)) <;> cases (M.testBit (2 * b + 1)) <;> cases (M.testBit (2 * c)) <;> cases (M.testBit (2 * c + 1)) <;> simp [bI_t, bI_f]
  | succ d ih =>
    intro b hba
    have ih := ih (b + 1) (by omega)
    unfold wp_X11_allKept_b145
    refine br_f (nI_ge (by omega) (by omega)) ?_
    unfold wp_X11_allKept_b201 wp_X11_allKept_b197 wp_X11_allKept_b202
    rw [aB, ← Bool.and_assoc] at ih
    generalize (good && aB (fun b' => !sme g a b' || ap a b' s M) b) = z at ih ⊢
    have e1 : (nI (2 + a)).toNatClampNeg = 2 + a := nI_clamp (by omega)
    have e2 : (nI (2 + b)).toNatClampNeg = 2 + b := nI_clamp (by omega)
    simp (disch := omega) only [zs, bI_z, zb, nI_add, e1, e2, e_apart, z_in]
    cases z with
    | false => simpa [bI_f] using ih
    | true =>
      have i1 : 2 + a < 58 := by omega
      have i2 : 2 + b < 58 := by omega
      simp only [i1, i2, true_and]
      unfold sme at ih
      by_cases q1 : g (2 + a) = -nI 1
      · rw [if_pos q1]; simpa [q1, bI_t] using ih
      · rw [if_neg q1]
        by_cases q2 : g (2 + a) = g (2 + b)
        · rw [if_pos q2]
          have q3 : ¬ g (2 + b) = -nI 1 := by rw [← q2]; exact q1
          cases q : ap a b s M <;> simpa [q1, q2, q3, q, bI_t, bI_f] using ih
        · rw [if_neg q2]; simpa [q1, q2, bI_t] using ih
theorem s_allKept {Q : Int32 → Prop} {g mate : Nat → Int32} {n m : Nat} {kd oa ob : Nat → Nat} {c : Nat} {mt : Nat → Option Nat} {pa : Option (Nat × Nat)} {cp cq : Int32} {s M : Nat} (hg : HB g n m kd oa ob) (hc : c < 2 ^ 31) (hmt : ∀ a, a < n → mate a = mtI (mt a) ∧ ∀ b, mt a = some b → b < 6)
    (hpa : match pa with | none => cp = -nI 1 | some q => cp = nI q.1 ∧ cq = nI q.2 ∧ q.1 < 6 ∧ q.2 < 6) (hs : s < 4096) (hM : M < 4096) (hQ : Q (bI (kAll g n m kd oa ob c mt pa s M))) : wp_X11_allKept (nI s) (nI M) (nI c) cp cq g mate Q := by
  obtain ⟨h0, h1, hn, hm, hk⟩ := hg
  have c0 : (0 : Int32).toNatClampNeg = 0 := rfl
  have c1 : (1 : Int32).toNatClampNeg = 1 := rfl
  -- the things
  have L3 : ∀ (z : Bool) (d a : Nat), a + d = n → Q (bI (z && aB (fun a => aB (fun b => !sme g a b || ap a b s M) a && mtOk mt M a) n)) → wp_X11_allKept_b133 Q (nI s) (nI M) g mate (d + 1) (nI n) (bI (z && aB (fun a => aB (fun b => !sme g a b || ap a b s M) a && mtOk mt M a) a)) (nI a) := by
    intro z d
    induction d with
    | zero =>
      intro a ha hq
      obtain rfl : a = n := by omega
      unfold wp_X11_allKept_b133
      exact br_t (nI_le (by omega) (by omega)) ⟨bI_n _, hq⟩
    | succ d ih =>
      intro a ha hq
      have ih := ih (a + 1) (by omega) hq
      unfold wp_X11_allKept_b133
      refine br_f (nI_ge (by omega) (by omega)) ?_
      rw [zl 0, bI_z]
      refine br_c (fun hz => ⟨bI_n _, ?_⟩) (fun hz => ?_)
      · have e : (z && aB (fun a => aB (fun b => !sme g a b || ap a b s M) a && mtOk mt M a) n) = false := by
          cases z with
          | false => rfl
          | true =>
            rw [Bool.true_and] at hz ⊢
            rw [Bool.eq_false_iff, Ne, aB_iff] at hz ⊢
            exact fun h => hz (fun k hk => h k (by omega))
        rw [hz, ← e]; exact hq
      · rw [aB, ← Bool.and_assoc] at ih
        have := k_all_in (Q := Q) hs hM hn (by omega : a < n) (hmt a (by omega)).1 (hmt a (by omega)).2 _ ih a 0 (by omega)
        rw [aB, Bool.and_true] at this
        exact ⟨a + 1, this⟩
  -- the sayings
  have L6 : ∀ (z : Bool) (d k : Nat), k + d = m → Q (bI ((z && aB (fun k => !c.testBit k || kp (kd k) (oa k) (ob k) s M) m) && aB (fun a => aB (fun b => !sme g a b || ap a b s M) a && mtOk mt M a) n)) → wp_X11_allKept_b60 Q (nI s) (nI M) (nI c) g mate (d + 1) (nI n) (bI (z && aB (fun k => !c.testBit k || kp (kd k) (oa k) (ob k) s M) k)) (nI k) := by
    intro z d
    have exit : ∀ w : Bool, Q (bI (w && aB (fun a => aB (fun b => !sme g a b || ap a b s M) a && mtOk mt M a) n)) → wp_X11_allKept_b131 Q (nI s) (nI M) g mate (nI n) (bI w) := by
      intro w hq
      unfold wp_X11_allKept_b131
      have h := L3 w n 0 (by omega) hq
      rw [aB, Bool.and_true] at h
      exact ⟨n + 1, h⟩
    induction d with
    | zero =>
      intro k hkm hq
      obtain rfl : k = m := by omega
      unfold wp_X11_allKept_b60
      refine ⟨(z_in (n := 1) (by omega)).mpr (by omega), ?_⟩
      rw [c1, h1]
      exact br_t (nI_le (by omega) (by omega)) (exit _ hq)
    | succ d ih =>
      intro k hkm hq
      have ih := ih (k + 1) (by omega) hq
      obtain ⟨g1, g2, g3, g4, g5, g6⟩ := hk k (by omega)
      unfold wp_X11_allKept_b60
      refine ⟨(z_in (n := 1) (by omega)).mpr (by omega), ?_⟩
      rw [c1, h1]
      refine br_f (nI_ge (by omega) (by omega)) ?_
      rw [zl 0, bI_z]
      refine br_c (fun hz => exit _ ?_) (fun hz => ?_)
      · have e : (z && aB (fun k => !c.testBit k || kp (kd k) (oa k) (ob k) s M) m) = false := by
          cases z with
          | false => rfl
          | true =>
            rw [Bool.true_and] at hz ⊢
            rw [Bool.eq_false_iff, Ne, aB_iff] at hz ⊢
            exact fun h => hz (fun k hk => h k (by omega))
        rw [hz, ← e]; exact hq
      · have hz : (z && aB (fun k => !c.testBit k || kp (kd k) (oa k) (ob k) s M) k) = true := by simpa using hz
        rw [aB, ← Bool.and_assoc, hz, Bool.true_and] at ih
        unfold wp_X11_allKept_b119 wp_X11_allKept_b124
        rw [hz] at *
        have e1 : (nI (14 + k)).toNatClampNeg = 14 + k := nI_clamp (by omega)
        have e2 : (nI (22 + k)).toNatClampNeg = 22 + k := nI_clamp (by omega)
        have e3 : (nI (30 + k)).toNatClampNeg = 30 + k := nI_clamp (by omega)
        have i1 : 14 + k < 58 := by omega
        have i2 : 22 + k < 58 := by omega
        have i3 : 30 + k < 58 := by omega
        simp (disch := omega) only [zs, z_bit, bI_z, zb, nI_add, e1, e2, e3, g1, g3, g5, z_in, i1, i2, i3, true_and]
        cases q : c.testBit k with
        | false => simpa [q, bI_t] using ih
        | true =>
          simp only [if_neg (show ¬ (true = false) by decide)]
          refine s_keeps g2 (by omega) (by omega) (by omega) (by omega) ?_
          simp only [bI_z]
          cases q2 : kp (kd k) (oa k) (ob k) s M <;> simpa [q, q2, bI_t, bI_f] using ih
  have L57 : ∀ z : Bool, z = paOk pa s M → wp_X11_allKept_b57 Q (nI s) (nI M) (nI c) g mate (nI n) (bI z) := by
    intro z hz
    unfold wp_X11_allKept_b57
    refine ⟨m + 1, ?_⟩
    have := L6 z m 0 (by omega) (by rw [hz]; exact hQ)
    rw [aB, Bool.and_true] at this
    exact this
  unfold wp_X11_allKept
  refine ⟨(z_in (n := 0) (by omega)).mpr (by omega), ?_⟩
  rw [c0, h0]
  intro y hy
  subst hy
  unfold wp_X11_allKept_b31 wp_X11_allKept_b46 wp_X11_allKept_b52
  cases pa with
  | none =>
    simp only at hpa
    subst hpa
    refine br_t rfl ?_
    exact L57 true rfl
  | some q =>
    simp only at hpa
    obtain ⟨rfl, rfl, g1, g2⟩ := hpa
    simp (disch := omega) only [zs, zb, z_ne, nI_leI, e_apart, bI_z]
    have := L57 (ap q.1 q.2 s M) rfl
    cases z : ap q.1 q.2 s M <;> simpa [z, bI_t, bI_f] using this
theorem s_moves {Q : Int32 → Int32 → Int32 → Prop} {g mate : Nat → Int32} {n m : Nat} {kd oa ob : Nat → Nat} {c : Nat} {mt : Nat → Option Nat} {pa : Option (Nat × Nat)} {cp cq ca cm : Int32} {s M : Nat} (hg : HB g n m kd oa ob) (hc : c < 2 ^ 31) (hmt : ∀ a, a < n → mate a = mtI (mt a) ∧ ∀ b, mt a = some b → b < 6)
    (hpa : match pa with | none => cp = -nI 1 | some q => cp = nI q.1 ∧ cq = nI q.2 ∧ q.1 < 6 ∧ q.2 < 6) (hs : s < 4096) (hM : M < 4096) (hQ : Q (bI (kAll g n m kd oa ob c mt pa s M)) (nI s) (nI M)) : wp_X11_moves (nI s) (nI M) ca cm (nI c) cp cq g mate Q := by
  unfold wp_X11_moves
  exact s_allKept hg hc hmt hpa hs hM ⟨bI_n _, hQ⟩
