/-! sums over 0 .. n - 1, and the flow of ways through a graph whose steps add bits -/
def sm (f : Nat → Nat) : Nat → Nat
  | 0 => 0
  | n + 1 => sm f n + f n
theorem sm_c {f g : Nat → Nat} : ∀ {n : Nat}, (∀ i, i < n → f i = g i) → sm f n = sm g n
  | 0, _ => rfl
  | n + 1, h => by rw [sm, sm, sm_c (fun i hi => h i (Nat.lt_succ_of_lt hi)), h n (Nat.lt_succ_self n)]
theorem sm_z {f : Nat → Nat} {n : Nat} (h : ∀ i, i < n → f i = 0) : sm f n = 0 := by
  rw [sm_c (g := fun _ => 0) h]
  induction n with
  | zero => rfl
  | succ n ih => rw [sm, ih (fun i hi => h i (Nat.lt_succ_of_lt hi))]
theorem sm_add (f g : Nat → Nat) : ∀ n : Nat, sm (fun i => f i + g i) n = sm f n + sm g n
  | 0 => rfl
  | n + 1 => by rw [sm, sm, sm, sm_add f g n]; omega
theorem sm_mul (c : Nat) (f : Nat → Nat) : ∀ n : Nat, sm (fun i => c * f i) n = c * sm f n
  | 0 => rfl
  | n + 1 => by rw [sm, sm, sm_mul c f n, Nat.mul_add]
theorem sm_le {f g : Nat → Nat} : ∀ {n : Nat}, (∀ i, i < n → f i ≤ g i) → sm f n ≤ sm g n
  | 0, _ => Nat.le_refl _
  | n + 1, h => by
    rw [sm, sm]
    exact Nat.add_le_add (sm_le (fun i hi => h i (Nat.lt_succ_of_lt hi))) (h n (Nat.lt_succ_self n))
theorem sm_term {f : Nat → Nat} : ∀ {n k : Nat}, k < n → f k ≤ sm f n
  | n + 1, k, h => by
    rw [sm]
    rcases Nat.lt_or_ge k n with q | q
    · exact Nat.le_trans (sm_term q) (Nat.le_add_right _ _)
    · have e : k = n := by omega
      rw [e]; exact Nat.le_add_left _ _
theorem sm_pos {f : Nat → Nat} {n : Nat} (h : 0 < sm f n) : ∃ k, k < n ∧ 0 < f k := by
  induction n with
  | zero => exact absurd h (Nat.lt_irrefl 0)
  | succ n ih =>
    rw [sm] at h
    rcases Nat.eq_zero_or_pos (f n) with q | q
    · obtain ⟨k, h1, h2⟩ := ih (by omega)
      exact ⟨k, Nat.lt_succ_of_lt h1, h2⟩
    · exact ⟨n, Nat.lt_succ_self n, q⟩
theorem sm_swap (f : Nat → Nat → Nat) (m : Nat) : ∀ n : Nat, sm (fun i => sm (f i) m) n = sm (fun j => sm (fun i => f i j) n) m
  | 0 => by rw [sm]; exact (sm_z (fun _ _ => rfl)).symm
  | n + 1 => by
    rw [sm, sm_swap f m n, ← sm_add]
    exact sm_c (fun j _ => rfl)
theorem sm_1 (f : Nat → Nat) {k : Nat} : ∀ {n : Nat}, k < n → sm (fun i => if i = k then f i else 0) n = f k
  | n + 1, h => by
    rw [sm]
    rcases Nat.lt_or_ge k n with q | q
    · rw [sm_1 f q, if_neg (by omega)]; omega
    · have e : k = n := by omega
      rw [sm_z (fun i hi => if_neg (by omega)), if_pos e.symm, e]; omega
theorem sm_split (f : Nat → Nat) (m : Nat) : ∀ n : Nat, sm f (m + n) = sm f m + sm (fun i => f (m + i)) n
  | 0 => rfl
  | n + 1 => by rw [← Nat.add_assoc, sm, sm_split f m n, sm, Nat.add_assoc]
theorem sm_sh0 (g : Nat → Nat) (M : Nat) : ∀ n : Nat, sm (fun v => if M ≤ v then g (v - M) else 0) (n + M) = sm g n
  | 0 => by rw [sm]; exact sm_z (fun i hi => if_neg (by omega))
  | n + 1 => by
    rw [show n + 1 + M = (n + M) + 1 by omega, sm, sm_sh0 g M n, sm, if_pos (by omega), show n + M - M = n by omega]
theorem sm_shift {g : Nat → Nat} {M N : Nat} (h : ∀ u, u < N → g u ≠ 0 → u + M < N) : sm (fun v => if M ≤ v then g (v - M) else 0) N = sm g N := by
  rcases Nat.lt_or_ge N M with q | q
  · rw [sm_z (fun i hi => if_neg (by omega)), sm_z (fun i hi => ?_)]
    rcases Nat.eq_zero_or_pos (g i) with z | z
    · exact z
    · exact absurd (h i hi (by omega)) (by omega)
  · have e : sm (fun v => if M ≤ v then g (v - M) else 0) N = sm (fun v => if M ≤ v then g (v - M) else 0) ((N - M) + M) := by rw [Nat.sub_add_cancel q]
    rw [e, sm_sh0]
    have e2 : sm g N = sm g ((N - M) + M) := by rw [Nat.sub_add_cancel q]
    rw [e2, sm_split, sm_z (f := fun i => g (N - M + i)) (fun i hi => ?_)]
    · rfl
    · rcases Nat.eq_zero_or_pos (g (N - M + i)) with z | z
      · exact z
      · exact absurd (h (N - M + i) (by omega) (by omega)) (by omega)
/-! a graph: from u by M to u + M; e u M = 1: it is a step. B: ways to t; F: ways from s. -/
def gB (N t : Nat) (e : Nat → Nat → Nat) (B : Nat → Nat) : Prop := ∀ u, u < N → B u = (if u = t then 1 else 0) + sm (fun M => e u M * B (u + M)) N
def gF (N s : Nat) (e : Nat → Nat → Nat) (F : Nat → Nat) : Prop := ∀ v, v < N → F v = (if v = s then 1 else 0) + sm (fun M => if M ≤ v then e (v - M) M * F (v - M) else 0) N
def gE (N : Nat) (e : Nat → Nat → Nat) : Prop := ∀ u M, u < N → e u M ≠ 0 → u + M < N
/-- what flows along the steps, each weighed by p -/
def gX (N : Nat) (e : Nat → Nat → Nat) (F B : Nat → Nat) (p : Nat → Nat → Nat) : Nat := sm (fun u => sm (fun M => F u * e u M * B (u + M) * p u M) N) N
theorem gX_c {N : Nat} {e : Nat → Nat → Nat} {F B : Nat → Nat} {p q : Nat → Nat → Nat} (h : ∀ u M, u < N → M < N → e u M ≠ 0 → p u M = q u M) : gX N e F B p = gX N e F B q :=
  sm_c (fun u hu => sm_c (fun M hM => by
    rcases Nat.eq_zero_or_pos (e u M) with z | z
    · rw [z]; simp
    · rw [h u M hu hM (by omega)]))
theorem gX_add {N : Nat} {e : Nat → Nat → Nat} {F B : Nat → Nat} (p q : Nat → Nat → Nat) : gX N e F B (fun u M => p u M + q u M) = gX N e F B p + gX N e F B q := by
  rw [gX, gX, gX, ← sm_add]
  exact sm_c (fun u _ => by rw [← sm_add]; exact sm_c (fun M _ => Nat.mul_add _ _ _))
theorem gX_out {N t : Nat} {e : Nat → Nat → Nat} {F B : Nat → Nat} (ht : t < N) (hB : gB N t e B) (p : Nat → Nat) : sm (fun u => p u * (F u * B u)) N = p t * F t + gX N e F B (fun u _ => p u) := by
  rw [gX, sm_c (g := fun u => (if u = t then p u * F u else 0) + sm (fun M => F u * e u M * B (u + M) * p u) N) (fun u hu => ?_), sm_add, sm_1 (fun u => p u * F u) ht]
  rw [hB u hu, Nat.mul_add, Nat.mul_add, ← sm_mul, ← sm_mul]
  congr 1
  · split <;> simp
  · exact sm_c (fun M _ => by simp only [Nat.mul_comm, Nat.mul_left_comm, Nat.mul_assoc])
theorem gX_in {N s : Nat} {e : Nat → Nat → Nat} {F B : Nat → Nat} (hs : s < N) (he : gE N e) (hF : gF N s e F) (p : Nat → Nat) : sm (fun v => p v * (F v * B v)) N = p s * B s + gX N e F B (fun u M => p (u + M)) := by
  have e1 : gX N e F B (fun u M => p (u + M)) = sm (fun v => sm (fun M => if M ≤ v then F (v - M) * e (v - M) M * B v * p v else 0) N) N := by
    rw [gX, sm_swap, sm_swap (fun v M => if M ≤ v then F (v - M) * e (v - M) M * B v * p v else 0)]
    refine sm_c (fun M _ => ?_)
    rw [← sm_shift (g := fun u => F u * e u M * B (u + M) * p (u + M)) (M := M) (N := N) (fun u hu hz => ?_)]
    · refine sm_c (fun v _ => ?_)
      by_cases q : M ≤ v
      · rw [if_pos q, if_pos q, show v - M + M = v by omega]
      · rw [if_neg q, if_neg q]
    · refine he u M hu (fun z => hz ?_)
      simp [z]
  rw [e1, sm_c (g := fun v => (if v = s then p v * B v else 0) + sm (fun M => if M ≤ v then F (v - M) * e (v - M) M * B v * p v else 0) N) (fun v hv => ?_), sm_add, sm_1 (fun v => p v * B v) hs]
  rw [hF v hv, Nat.add_mul, Nat.mul_add, Nat.mul_comm (sm _ N), ← sm_mul, ← sm_mul]
  congr 1
  · split <;> simp
  · refine sm_c (fun M _ => ?_)
    by_cases q : M ≤ v
    · rw [if_pos q, if_pos q]
      simp [Nat.mul_comm, Nat.mul_left_comm, Nat.mul_assoc]
    · rw [if_neg q, if_neg q]; simp
/-- what p gains along the steps, weighed by the flow -/
theorem gX_tele {N s t : Nat} {e : Nat → Nat → Nat} {F B : Nat → Nat} (hs : s < N) (ht : t < N) (he : gE N e) (hB : gB N t e B) (hF : gF N s e F) (p : Nat → Nat) : p s * B s + gX N e F B (fun u M => p (u + M)) = p t * F t + gX N e F B (fun u _ => p u) := by
  rw [← gX_in hs he hF p, ← gX_out ht hB p]
theorem g_all {N s t : Nat} {e : Nat → Nat → Nat} {F B : Nat → Nat} (hs : s < N) (ht : t < N) (he : gE N e) (hB : gB N t e B) (hF : gF N s e F) : B s = F t := by
  have h := gX_tele (F := F) hs ht he hB hF (fun _ => 1)
  omega
/-- every way crosses a cut just once -/
theorem g_cut {N s t : Nat} {e : Nat → Nat → Nat} {F B : Nat → Nat} (hs : s < N) (ht : t < N) (he : gE N e) (hB : gB N t e B) (hF : gF N s e F) (c : Nat → Bool) (h0 : c s = false) (h1 : c t = true) (hm : ∀ u M, u < N → e u M ≠ 0 → c u = true → c (u + M) = true) : gX N e F B (fun u M => if c u = false ∧ c (u + M) = true then 1 else 0) = F t := by
  have h := gX_tele (F := F) hs ht he hB hF (fun u => if c u = true then 1 else 0)
  rw [if_neg (by rw [h0]; decide), if_pos h1] at h
  have h2 : gX N e F B (fun u M => if c (u + M) = true then 1 else 0) = gX N e F B (fun u M => (if c u = false ∧ c (u + M) = true then 1 else 0) + (if c u = true then 1 else 0)) := by
    refine gX_c (fun u M hu _ hz => ?_)
    cases hc : c u with
    | false => simp
    | true => rw [hm u M hu hz hc]; simp
  rw [h2, gX_add] at h
  omega
/-- no more ways through a place than there are -/
theorem g_through {N s t : Nat} {e : Nat → Nat → Nat} {F B : Nat → Nat} (hs : s < N) (ht : t < N) (he : gE N e) (hB : gB N t e B) (hF : gF N s e F) (hst : s ≤ t) (hpos : ∀ u M, u < N → e u M ≠ 0 → 0 < M) {v : Nat} (hv : v < N) (hvs : s < v) (hvt : v ≤ t) : F v * B v ≤ F t := by
  rw [← g_cut (F := F) hs ht he hB hF (fun u => decide (v ≤ u)) (by simp; omega) (by simpa using hvt) (fun u M _ _ h => by simp at h ⊢; omega)]
  have h1 : F v * B v = sm (fun M => if M ≤ v then F (v - M) * e (v - M) M * B v else 0) N := by
    conv => lhs; rw [hF v hv, if_neg (by omega), Nat.zero_add, Nat.mul_comm, ← sm_mul]
    refine sm_c (fun M _ => ?_)
    by_cases q : M ≤ v
    · rw [if_pos q, if_pos q]; simp [Nat.mul_comm, Nat.mul_left_comm, Nat.mul_assoc]
    · rw [if_neg q, if_neg q]; simp
  rw [h1, gX, sm_swap]
  refine sm_le (fun M hM => ?_)
  by_cases q : M ≤ v
  · rw [if_pos q]
    refine Nat.le_trans ?_ (sm_term (k := v - M) (by omega))
    rcases Nat.eq_zero_or_pos (e (v - M) M) with z | z
    · rw [z]; simp
    · have := hpos (v - M) M (by omega) (by omega)
      rw [show v - M + M = v by omega, if_pos ⟨by simp; omega, by simp⟩, Nat.mul_one]
      exact Nat.le_refl _
  · rw [if_neg q]; exact Nat.zero_le _
