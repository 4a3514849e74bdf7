/-! codes of both sides against one list of permutations -/
def PRM (k : Nat) : List (List Nat) := if k = 1 then [[0]] else if k = 2 then [[0, 1], [1, 0]] else if k = 3 then [[0, 1, 2], [0, 2, 1], [1, 0, 2], [1, 2, 0], [2, 0, 1], [2, 1, 0]] else []
/-- the codes below n that are valid -/
def vld (v : Nat → Bool) (n : Nat) : List Nat := (List.range n).filter v
theorem vld_s (v : Nat → Bool) (n : Nat) : vld v (n + 1) = if v n = true then vld v n ++ [n] else vld v n := by
  unfold vld
  rw [List.range_succ, List.filter_append]
  cases q : v n
  · rw [if_neg (by decide), List.filter_cons_of_neg (by rw [q]; decide), List.filter_nil, List.append_nil]
  · rw [if_pos rfl, List.filter_cons_of_pos q, List.filter_nil]
/-- how many of a list, and the first -/
def cnt {α : Type} (f : α → Bool) (l : List α) : Nat := l.countP f
theorem cnt_s {α : Type} (f : α → Bool) (l : List α) (a : α) : cnt f (l ++ [a]) = cnt f l + (if f a = true then 1 else 0) := by
  unfold cnt
  rw [List.countP_append, List.countP_cons, List.countP_nil, Nat.zero_add]
theorem fnd_s {α : Type} (f : α → Bool) (l : List α) (a : α) : (l ++ [a]).find? f = match l.find? f with | some x => some x | none => if f a = true then some a else none := by
  rw [List.find?_append]
  cases l.find? f with
  | some x => rfl
  | none =>
    rw [Option.none_or]
    cases q : f a
    · rw [List.find?_cons_of_neg (by rw [q]; decide), List.find?_nil, if_neg (by decide)]
    · rw [List.find?_cons_of_pos q, if_pos rfl]
theorem cnt_0 {α : Type} {f : α → Bool} {l : List α} : cnt f l = 0 ↔ l.find? f = none := by
  unfold cnt
  rw [List.countP_eq_zero, List.find?_eq_none]
theorem cnt_map {α β : Type} (f : β → Bool) (h : α → β) (l : List α) : cnt f (l.map h) = cnt (fun x => f (h x)) l := by
  unfold cnt
  rw [List.countP_map]; rfl
theorem fnd_map {α β : Type} (f : β → Bool) (h : α → β) (l : List α) : (l.map h).find? f = (l.find? (fun x => f (h x))).map h := by
  rw [List.find?_map]; rfl
/-- the class's codes -/
def cOk (k c : Nat) : Bool := sD k c k == 2 ^ k - 1
def cPk (k c : Nat) : List Nat := (List.range k).map (fun j => dgt k c (k - 1 - j))
theorem c_prm : ∀ k, k < 4 → 0 < k → (vld (cOk k) (k ^ k)).map (cPk k) = PRM k := by decide +kernel
/-- the reference's codes -/
def mtO (p j : Nat) : Nat := if j = 0 then p / 2 else (if ((if p / 2 = 0 then 1 else 0) : Nat) = 0 then (if (j == 1) == (p % 2 == 0) then 0 else 3 - p / 2 - 0) else (if (j == 1) == (p % 2 == 0) then 1 else 3 - p / 2 - 1))
def rOk (k p : Nat) : Bool := aB (fun j => if j < k then decide (mtO p j < k) else decide (mtO p j = j)) 3
def rPk (k p : Nat) : List Nat := (List.range k).map (fun j => mtO p j)
theorem r_prm : ∀ k, k < 4 → 0 < k → (vld (rOk k) 6).map (rPk k) = PRM k := by decide +kernel
