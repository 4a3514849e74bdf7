theorem iL_start {bk d : Nat → Int32} (h : E58 bk gcl) : INV (0 : Int32) (0 : Int32) (0 : Int32) (0 : Int32) (0 : Int32) (0 : Int32) (fun _ => 0) (fun _ => 0) (fun _ => 0) (fun _ => 0) (fun _ => 0) (fun _ => 0) (fun _ => 0) (0 : Int32) (0 : Int32) (fun _ => 0) (fun _ => 0) (fun _ => 0) (fun _ => 0) (fun _ => 0) (fun _ => 0) (fun _ => 0) (0 : Int32) (0 : Int32) (fun _ => 0) (fun _ => 0) (fun _ => 0) (fun _ => 0) (fun _ => 0) (fun _ => 0) (fun _ => 0) (fun _ => 0) (0 : Int32) (fun _ => 0) (0 : Int32) (0 : Int32) (0 : Int32) (0 : Int32) (0 : Int32) (0 : Int32) (fun _ => 0) (fun _ => 0) (fun _ => 0) (fun _ => 0) (fun _ => 0) (fun _ => 0) (fun _ => 0) (fun _ => 0) (0 : Int32) (0 : Int32) (0 : Int32) (0 : Int32) (fun _ => 0) (fun _ => 0) (fun _ => 0) (fun _ => 0) (fun _ => 0) (fun _ => 0) (fun _ => 0) (fun _ => 0) (0 : Int32) (0 : Int32) (fun _ => 0) (fun _ => 0) (0 : Int32) (fun _ => 0) (fun _ => 0) (0 : Int64) (0 : Int32) (fun _ => 0) (fun _ => 0) (fun _ => 0) (fun _ => 0) (fun _ => 0) (0 : Int32) (fun _ => 0) (fun _ => 0) (fun _ => 0) (fun _ => 0) (fun _ => 0) (fun _ => 0) (fun _ => 0) (0 : Int32) (0 : Int32) (0 : Int32) (fun _ => 0) (0 : Int32) (fun _ => 0) (fun _ => 0) (fun _ => 0) (fun _ => 0) (fun _ => 0) (0 : Int32) (0 : Int32) (0 : Int32) (0 : Int32) (0 : Int32) (0 : Int32) (0 : Int32) (0 : Int32) (0 : Int32) (0 : Int32) (0 : Int32) bk d (fun _ => 0) (fun _ => 0) (fun _ => 0) (fun _ => 0) (fun _ => 0) (fun _ => 0) (fun _ => 0) (fun _ => 0) (fun _ => 0) (fun _ => 0) (fun _ => 0) (fun _ => 0) (fun _ => 0) (fun _ => 0) (fun _ => 0) := by
  have hb : BK bk 0 0 (fun _ => 0) (fun _ => 0) (fun _ => 0) := BK_copy BK_gcl (fun i hi => by
    rw [h i hi]
    by_cases z : i = 0
    · rw [z, pk_us]; rfl
    · rw [pk_un z])
  exact ⟨0, 0, 0, fun _ => 0, fun _ => 0, fun _ => 0, fun _ => 0, hb, ⟨rfl, rfl, fun t ht => absurd ht (Nat.not_lt_zero t), fun x hx => absurd hx (by omega), fun k hk => absurd hk (Nat.not_lt_zero k)⟩, Or.inl rfl, Or.inl rfl, Or.inl rfl, Or.inl rfl, ⟨rfl, fun z => absurd rfl z⟩, ⟨rfl, fun z => absurd rfl z⟩, rfl, rfl, Nat.zero_le _, fun i hi => absurd hi (Nat.not_lt_zero i), fun i hi => absurd hi (Nat.not_lt_zero i), rfl⟩
theorem r_init {bk d : Nat → Int32} {Q : (Nat → Int32) → (Nat → Int32) → Prop} (hQ : ∀ bk d, E58 bk gcl → Q bk d) : wp_X11_init bk d Q := by
  unfold wp_X11_init
  refine s_clean (fun d hd => ?_)
  have main : ∀ (f k : Nat) (bk : Nat → Int32), k + f = 58 → (∀ i, i < k → bk i = gcl i) → wp_X11_init_b151 Q (f + 1) (nI k) bk d := by
    intro f
    induction f with
    | zero =>
      intro k bk hk hb
      obtain rfl : k = 58 := by omega
      unfold wp_X11_init_b151
      exact br_t (nI_le (a := 58) (by omega) (by omega)) (hQ bk d hb)
    | succ f ih =>
      intro k bk hk hb
      have iv : vp_in (nI k) 58 := vi (by omega) (by omega)
      unfold wp_X11_init_b151
      refine br_f (nI_ge (b := 58) (by omega) (by omega)) ⟨iv, iv, ?_⟩
      rw [nI_1, nI_clamp (by omega)]
      refine ih (k + 1) _ (by omega) (fun i hi => ?_)
      by_cases z : i = k
      · rw [z, pk_us]; exact hd k (by omega)
      · rw [pk_un z]; exact hb i (by omega)
  exact ⟨_, main 58 0 bk rfl (fun i hi => absurd hi (Nat.not_lt_zero i))⟩
