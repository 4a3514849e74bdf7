def mvF (p j f : Int32) : Int32 :=
  if (if j = 1 then (1 : Int32) else 0) = (if p - p / 2 * 2 = 0 then (1 : Int32) else 0) then f else (3 - p / 2) - f
def mvI (p j : Int32) : Int32 := if j = 0 then p / 2 else (if p / 2 = 0 then mvF p j 1 else mvF p j 0)
theorem mv_all : ∀ p, p < 6 → ∀ j, j < 3 → mvI (nI p) (nI j) = nI (mtO p j) := by decide +kernel
theorem s_mateF {p j f : Int32} {Q : Int32 → Prop} (hQ : Q (mvF p j f)) : wp_X11_mateOf_b19 Q p j (p / 2) f := by
  unfold mvF at hQ
  unfold wp_X11_mateOf_b19 wp_X11_mateOf_b37 wp_X11_mateOf_b48
  by_cases z : j = 1
  · rw [if_pos z] at hQ
    refine br_t z ?_
    by_cases z2 : p - p / 2 * 2 = 0
    · rw [if_pos z2, if_pos rfl] at hQ
      exact br_t z2 (br_t rfl hQ)
    · rw [if_neg z2, if_neg (by decide)] at hQ
      exact br_f z2 (br_f (by decide) hQ)
  · rw [if_neg z] at hQ
    refine br_f z ?_
    by_cases z2 : p - p / 2 * 2 = 0
    · rw [if_pos z2, if_neg (by decide)] at hQ
      exact br_t z2 (br_f (by decide) hQ)
    · rw [if_neg z2, if_pos rfl] at hQ
      exact br_f z2 (br_t rfl hQ)
theorem s_mateOf {p j : Nat} {Q : Int32 → Prop} (hp : p < 6) (hj : j < 3) (hQ : Q (nI (mtO p j))) : wp_X11_mateOf (nI p) (nI j) Q := by
  rw [← mv_all p hp j hj] at hQ
  unfold mvI at hQ
  unfold wp_X11_mateOf
  by_cases z : nI j = 0
  · rw [if_pos z] at hQ; exact br_t z hQ
  · rw [if_neg z] at hQ
    refine br_f z ?_
    by_cases z2 : nI p / 2 = 0
    · rw [if_pos z2] at hQ; exact br_t z2 (s_mateF hQ)
    · rw [if_neg z2] at hQ; exact br_f z2 (s_mateF hQ)
