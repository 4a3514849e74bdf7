theorem mtP_c {h t t' : Nat → Nat} : ∀ k, (∀ j, j < k → t j = t' j) → mtP h t k = mtP h t' k
  | 0, _ => rfl
  | k + 1, hk => by
    funext a
    rw [mtP_e, mtP_e, hk k (by omega), mtP_c k (fun j hj => hk j (by omega))]
theorem fitP_c {g : Nat → Int32} {n m k : Nat} {kd oa ob h t t' : Nat → Nat} (hk : ∀ j, j < k → t j = t' j) : fitP g n m kd oa ob h t k = fitP g n m kd oa ob h t' k := by
  unfold fitP
  rw [mtP_c k hk]
theorem cPk_get {k c j : Nat} (hj : j < k) : (cPk k c).getD j 0 = dgt k c (k - 1 - j) := by
  unfold cPk
  rw [List.getD_eq_getElem?_getD, List.getElem?_map, List.getElem?_range hj]; rfl
theorem rPk_get {k p j : Nat} (hj : j < k) : (rPk k p).getD j 0 = mtO p j := by
  unfold rPk
  rw [List.getD_eq_getElem?_getD, List.getElem?_map, List.getElem?_range hj]; rfl
def fO (g : Nat → Int32) (n m : Nat) (kd oa ob : Nat → Nat) (l : List Nat) : Bool := fitP g n m kd oa ob (fun j => (hL g n).getD j 0) (fun j => (tL g n).getD (l.getD j 0) 0) (hL g n).length
theorem fair_t {g : Nat → Int32} {n : Nat} (hn : n < 7) (h : fair g n = true) : 0 < (hL g n).length ∧ (hL g n).length < 4 ∧ (hL g n).length = (tL g n).length := by
  unfold fair at h
  rw [Bool.and_eq_true, Bool.not_eq_true', beq_eq_false_iff_ne, beq_iff_eq] at h
  have := ht_len g n
  omega
/-- what ONE holds -/
def PDT (g : Nat → Int32) (n m : Nat) (kd oa ob : Nat → Nat) (isF pr wy : Int32) (mate : Nat → Int32) : Prop :=
  isF = bI (fair g n) ∧ (fair g n = true → pr = nI (hL g n).length ∧ wy = nI (cnt (fO g n m kd oa ob) (PRM (hL g n).length)) ∧ ∀ l, (PRM (hL g n).length).find? (fO g n m kd oa ob) = some l → ∀ j, j < (hL g n).length → mate j = nI ((tL g n).getD (l.getD j 0) 0))
