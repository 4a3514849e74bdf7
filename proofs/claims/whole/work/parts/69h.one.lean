/-! ONE: the answer, on both sides -/
def oneA (g : Nat → Int32) (n : Nat) (p : Int32) : Option (List Nat) → Int32
  | none => -5
  | some l => nI ((tL g n).getD (l.getD p.toNatClampNeg 0) 0)
def sp_one (g : Nat → Int32) (n m : Nat) (kd oa ob : Nat → Nat) (p : Int32) (rf : Nat → Int32) : Int32 × (Nat → Int32) := if fair g n = true then (if (-1 : Int32) ≤ p then ((if p = (-1 : Int32) then nI (cnt (fO g n m kd oa ob) (PRM (hL g n).length)) else if nI (hL g n).length ≤ p then -5 else oneA g n p ((PRM (hL g n).length).find? (fO g n m kd oa ob))), rf) else (-10, ri rf 0)) else (-10, ri rf 0)
theorem vld_m {v : Nat → Bool} {n c : Nat} (h : c ∈ vld v n) : c < n ∧ v c = true := by
  unfold vld at h
  rw [List.mem_filter, List.mem_range] at h
  exact h
theorem m1_of {p : Int32} {k : Nat} (hk : k < 2 ^ 31) (h1 : (-1 : Int32) ≤ p) (h2 : ¬ p = (-1 : Int32)) (h3 : ¬ nI k ≤ p) : ∃ j, j < k ∧ p = nI j := by
  have h0 : ¬ p < 0 := by
    intro q
    rw [Int32.le_iff_toInt_le] at h1
    rw [Int32.lt_iff_toInt_lt] at q
    have e1 : (-1 : Int32).toInt = -1 := by decide
    have e2 : (0 : Int32).toInt = 0 := by decide
    exact h2 (Int32.toInt_inj.mp (by omega))
  obtain ⟨j, hj, rfl⟩ := nI_of h0
  rw [nI_leI hk hj] at h3
  exact ⟨j, by omega, rfl⟩
def oI : Option Nat → Int32
  | none => -nI 1
  | some c => nI c
/-- whether the code p is one, looked up place by place -/
theorem r_perm {g mate ours theirs rf : Nat → Int32} {k p : Nat} {on : Nat → Int64} {x1 x4 x5 ca cm cc cp cq : Int32} {Q : Int32 → Int32 → Int32 → Int32 → Int32 → (Nat → Int32) → (Nat → Int32) → (Nat → Int64) → (Nat → Int32) → (Nat → Int32) → Prop} {K93 : Int32 → Int32 → Int32 → Int32 → Int32 → Int32 → Int32 → Int32 → Int32 → (Nat → Int32) → (Nat → Int32) → (Nat → Int64) → (Nat → Int32) → (Nat → Int32) → Prop} (hk : k < 4) (hp : p < 6)
    (hQ : wp_X11_one_b182 Q cq g K93 x1 (nI k) x4 x5 (nI p) (bI (rOk k p)) ca cm cc cp rf mate on ours theirs) : ∃ f : Nat, wp_X11_one_b110 Q cq g K93 f x1 (nI k) x4 x5 (nI p) 1 0 ca cm cc cp rf mate on ours theirs := by
  have hm : ∀ j, mtO p j < 2 ^ 31 := fun j => by
    unfold mtO
    repeat' split
    all_goals omega
  have main : ∀ (d j : Nat), j + d = 3 → wp_X11_one_b110 Q cq g K93 (d + 1) x1 (nI k) x4 x5 (nI p) (bI (aB (fun j => if j < k then decide (mtO p j < k) else decide (mtO p j = j)) j)) (nI j) ca cm cc cp rf mate on ours theirs := by
    intro d
    induction d with
    | zero =>
      intro j hj
      obtain rfl : j = 3 := by omega
      unfold wp_X11_one_b110
      exact br_t (nI_le (a := 3) (b := 3) (by omega) (by omega)) hQ
    | succ d ih =>
      intro j hj
      have ih := ih (j + 1) (by omega)
      rw [aB] at ih
      have hj3 : j < 3 := by omega
      unfold wp_X11_one_b110
      refine br_f (nI_ge (b := 3) (by omega) (by omega)) ?_
      rw [zbR]
      cases ha : aB (fun j => if j < k then decide (mtO p j < k) else decide (mtO p j = j)) j with
      | false =>
        rw [if_neg (by decide)]
        rw [ha, Bool.false_and] at ih
        unfold wp_X11_one_b173 wp_X11_one_b174
        rw [nI_1]
        exact ih
      | true =>
        rw [if_pos rfl]
        rw [ha, Bool.true_and] at ih
        unfold wp_X11_one_b132 wp_X11_one_b148 wp_X11_one_b169 wp_X11_one_b173 wp_X11_one_b174
        simp only [nI_1, nI_leI (show k < 2 ^ 31 by omega) (show j < 2 ^ 31 by omega), nI_ltI (show j < 2 ^ 31 by omega) (show k < 2 ^ 31 by omega)]
        have hfin : ∀ b : Bool, (if j < k then decide (mtO p j < k) else decide (mtO p j = j)) = b → wp_X11_one_b110 Q cq g K93 (d + 1) x1 (nI k) x4 x5 (nI p) (bI b) (nI (j + 1)) ca cm cc cp rf mate on ours theirs := fun b hb => by rw [← hb]; exact ih
        refine br_c (fun z => ?_) (fun z => ?_)
        · refine s_mateOf hp hj3 ?_
          simp only [nI_leI (show k < 2 ^ 31 by omega) (hm j)]
          refine br_c (fun z2 => br_t (by decide) ?_) (fun z2 => br_f (by decide) ?_)
          · refine br_f (by omega) (s_mateOf hp hj3 ?_)
            rw [nI_eq (hm j) (by omega)]
            refine br_c (fun z3 => hfin true ?_) (fun z3 => hfin false ?_)
            · rw [if_neg (by omega), decide_eq_true_iff]; exact z3
            · rw [if_neg (by omega), decide_eq_false_iff_not]; exact z3
          · refine hfin false ?_
            rw [if_neg (by omega), decide_eq_false_iff_not]
            omega
        · refine s_mateOf hp hj3 ?_
          simp only [nI_leI (show k < 2 ^ 31 by omega) (hm j)]
          refine br_c (fun z2 => br_f (by decide) ?_) (fun z2 => br_t (by decide) ?_)
          · refine hfin false ?_
            rw [if_pos (by omega), decide_eq_false_iff_not]
            omega
          · refine br_t (by omega) (hfin true ?_)
            rw [if_pos (by omega), decide_eq_true_iff]
            omega
  exact ⟨4, main 3 0 rfl⟩
/-- the mates of code p are laid -/
theorem r_lay {g mate ours theirs rf : Nat → Int32} {n p : Nat} {on : Nat → Int64} {x1 x4 x5 ca cm cc cp cq : Int32} {Q : Int32 → Int32 → Int32 → Int32 → Int32 → (Nat → Int32) → (Nat → Int32) → (Nat → Int64) → (Nat → Int32) → (Nat → Int32) → Prop} {K93 : Int32 → Int32 → Int32 → Int32 → Int32 → Int32 → Int32 → Int32 → Int32 → (Nat → Int32) → (Nat → Int32) → (Nat → Int64) → (Nat → Int32) → (Nat → Int32) → Prop} (hn : n < 7) (hk : (hL g n).length < 4) (hkt : (hL g n).length = (tL g n).length) (hp : p < 6) (lh : lR (hL g n) ours) (lt : lR (tL g n) theirs) (hm : ∀ t, t < 6 → mate t = -nI 1)
    (hQ0 : rOk (hL g n).length p = false → wp_X11_one_b226 Q cq g K93 x1 (nI (hL g n).length) x4 x5 (nI p) 0 ca cm cc cp rf mate on ours theirs)
    (hQ1 : rOk (hL g n).length p = true → ∀ mate, (∀ a, a < 6 → mate a = mtI (mtP (fun j => (hL g n).getD j 0) (fun j => (tL g n).getD (mtO p j) 0) (hL g n).length a)) → wp_X11_one_b226 Q cq g K93 x1 (nI (hL g n).length) x4 x5 (nI p) 1 ca cm cc cp rf mate on ours theirs) : wp_X11_one_b182 Q cq g K93 x1 (nI (hL g n).length) x4 x5 (nI p) (bI (rOk (hL g n).length p)) ca cm cc cp rf mate on ours theirs := by
  obtain ⟨ho1, ho2⟩ := hL_ok g n
  obtain ⟨to1, to2⟩ := tL_ok g n
  unfold wp_X11_one_b182
  cases hr : rOk (hL g n).length p with
  | false =>
    refine ⟨1, ?_⟩
    unfold wp_X11_one_b185
    exact br_c (fun _ => hQ0 hr) (fun _ => br_t rfl (hQ0 hr))
  | true =>
    have hQ1 := hQ1 hr
    have hl : ∀ j, j < (hL g n).length → mtO p j < (hL g n).length := fun j hj => by
      unfold rOk at hr
      have := aB_iff.mp hr j (by omega)
      rw [if_pos hj, decide_eq_true_iff] at this
      exact this
    have main : ∀ (d j : Nat) (mate : Nat → Int32), j + d = (hL g n).length → (∀ a, a < 6 → mate a = mtI (mtP (fun j => (hL g n).getD j 0) (fun j => (tL g n).getD (mtO p j) 0) j a)) → wp_X11_one_b185 Q cq g K93 (d + 1) x1 (nI (hL g n).length) x4 x5 (nI p) (bI true) (nI j) ca cm cc cp rf mate on ours theirs := by
      intro d
      induction d with
      | zero =>
        intro j mate hj hma
        obtain rfl : j = (hL g n).length := by omega
        unfold wp_X11_one_b185
        exact br_t (nI_le (by omega) (by omega)) (hQ1 mate hma)
      | succ d ih =>
        intro j mate hj hma
        have h1 := ho1 j (by omega)
        have h2 := hl j (by omega)
        unfold wp_X11_one_b185
        rw [nI_clamp (n := j) (by omega), lh j (by omega), nI_1]
        refine br_f (nI_ge (by omega) (by omega)) (br_f (by decide) ⟨vi (by omega) (by omega), s_mateOf hp (by omega) ⟨vi (by omega) (by omega), vi (by omega) (by omega), ?_⟩⟩)
        rw [nI_clamp (n := mtO p j) (by omega), lt _ (by rw [← hkt]; exact h2), nI_clamp (by omega)]
        refine ih (j + 1) _ (by omega) (fun a ha => ?_)
        rw [mtP_e]
        by_cases z : a = (hL g n).getD j 0
        · rw [if_pos z, z, pk_us]; rfl
        · rw [if_neg z, pk_un z, hma a ha]
    exact ⟨_, main (hL g n).length 0 mate (by omega) (fun a ha => hm a ha)⟩
theorem r_one {g : Nat → Int32} {n m : Nat} {kd oa ob : Nat → Nat} {p1 ahead moment counted parted partedToo : Int32} {refused mate ours theirs : Nat → Int32} {on : Nat → Int64} {Q : Int32 → Int32 → Int32 → Int32 → Int32 → (Nat → Int32) → (Nat → Int32) → (Nat → Int64) → (Nat → Int32) → (Nat → Int32) → Prop}
    (hb : HB g n m kd oa ob)
    (hQ : ∀ (o_ahead o_moment o_counted o_parted : Int32) (o_mate o_ours o_theirs : (Nat → Int32)) (o_on : (Nat → Int64)), Q ((sp_one g n m kd oa ob p1 refused).1) o_ahead o_moment o_counted o_parted ((sp_one g n m kd oa ob p1 refused).2) o_mate o_on o_ours o_theirs) : wp_X11_one p1 ahead moment counted parted partedToo g refused mate on ours theirs Q := by
  have hn := hb.2.2.1
  have hBD := BD_ok hn
  refine r_sort hn hb.1 (fun ours theirs lh lt => ?_)
  have hle := ht_len g n
  unfold sp_one at hQ
  unfold wp_X11_one_b62 wp_X11_one_b76
  have hz : (nI (hL g n).length = (0 : Int32)) = ((hL g n).length = 0) := propext (nI_eq (b := 0) (by omega) (by omega))
  rw [nI_eq (by omega) (by omega), hz]
  by_cases hf : fair g n = true
  case neg =>
    rw [if_neg hf] at hQ
    have hR : wp_X11_refuses 0 (-10 : Int32) refused (fun r_1 c_refused_2 => (Q r_1 ahead moment counted parted c_refused_2 mate on ours theirs)) := t_refuses (i := 0) (by omega) rfl (by apply hQ)
    refine br_c (fun z => br_c (fun _ => hR) (fun z2 => absurd ?_ hf)) (fun _ => hR)
    unfold fair
    rw [Bool.and_eq_true, Bool.not_eq_true', beq_eq_false_iff_ne, beq_iff_eq]
    exact ⟨z2, z⟩
  rw [if_pos hf] at hQ
  obtain ⟨k0, k4, kt⟩ := fair_t hn hf
  refine br_t kt (br_f (by omega) (br_c (fun hp1 => ?_) (fun hp1 => ?_)))
  case refine_2 =>
    rw [if_neg hp1] at hQ
    exact t_refuses (i := 0) (by omega) rfl (by apply hQ)
  rw [if_pos hp1, ← r_prm _ k4 k0, cnt_map, fnd_map] at hQ
  obtain ⟨ho1, ho2⟩ := hL_ok g n
  obtain ⟨to1, to2⟩ := tL_ok g n
  have S : ∀ (d p : Nat) (ahead moment counted parted : Int32) (mate : Nat → Int32) (on : Nat → Int64), p + d = 6 → wp_X11_one_b93 Q partedToo g (d + 1) p1 (nI (hL g n).length) (nI (cnt (fun x => fO g n m kd oa ob (rPk (hL g n).length x)) (vld (rOk (hL g n).length) p))) (oI ((vld (rOk (hL g n).length) p).find? (fun x => fO g n m kd oa ob (rPk (hL g n).length x)))) (nI p) ahead moment counted parted refused mate on ours theirs := by
    intro d
    induction d with
    | zero =>
      intro p ahead moment counted parted mate on hp
      obtain rfl : p = 6 := by omega
      have hQ := hQ ahead moment counted parted mate ours theirs on
      unfold wp_X11_one_b93 wp_X11_one_b264 wp_X11_one_b285
      refine br_t (nI_le (a := 6) (b := 6) (by omega) (by omega)) ?_
      refine br_c (fun z => ?_) (fun z => ?_)
      · rw [if_pos z] at hQ; exact hQ
      rw [if_neg z] at hQ
      refine br_c (fun z2 => ?_) (fun z2 => ?_)
      · rw [if_pos z2] at hQ; exact hQ
      rw [if_neg z2] at hQ
      obtain ⟨j, hj, rfl⟩ := m1_of (by omega) hp1 z z2
      cases hfi : (vld (rOk (hL g n).length) 6).find? (fun x => fO g n m kd oa ob (rPk (hL g n).length x)) with
      | none =>
        rw [hfi] at hQ
        exact br_t rfl hQ
      | some c =>
        rw [hfi] at hQ
        obtain ⟨hc, hcr⟩ := vld_m (List.mem_of_find?_eq_some hfi)
        have hl : mtO c j < (hL g n).length := by
          unfold rOk at hcr
          have := aB_iff.mp hcr j (by omega)
          rw [if_pos hj, decide_eq_true_iff] at this
          exact this
        unfold wp_X11_one_b305
        refine br_f (fun q => ?_) (br_t (nI_le (a := 0) (by omega) (by omega)) (s_mateOf hc (by omega) ⟨vi (by omega) (by omega), ?_⟩))
        · have h1 : ¬ nI c < 0 := nI_pos (by omega)
          rw [show nI c = (-1 : Int32) from q] at h1
          exact h1 (by decide)
        · rw [nI_clamp (by omega), lt _ (by rw [← kt]; exact hl)]
          have e : oneA g n (nI j) (Option.map (rPk (hL g n).length) (some c)) = nI ((tL g n).getD (mtO c j) 0) := by
            show nI ((tL g n).getD ((rPk (hL g n).length c).getD (nI j).toNatClampNeg 0) 0) = _
            rw [nI_clamp (by omega), rPk_get hj]
          rw [e] at hQ
          exact hQ
    | succ d ih =>
      intro p ahead moment counted parted mate on hp
      have ih := fun a b c e f o => ih (p + 1) a b c e f o (by omega)
      rw [vld_s] at ih
      unfold wp_X11_one_b93
      refine br_f (nI_ge (b := 6) (by omega) (by omega)) (s_plain (fun mate hm => ?_))
      refine r_perm k4 (by omega) (r_lay hn k4 kt (by omega) lh lt hm (fun hr => ?_) (fun hr mate hma => ?_))
      · rw [hr, if_neg (by decide)] at ih
        unfold wp_X11_one_b226 wp_X11_one_b258
        rw [nI_1]
        exact br_t rfl (ih _ _ _ _ _ _)
      · rw [hr, if_pos rfl, cnt_s, fnd_s] at ih
        have hl : ∀ j, j < (hL g n).length → mtO p j < (hL g n).length := fun j hj => by
          unfold rOk at hr
          have := aB_iff.mp hr j (by omega)
          rw [if_pos hj, decide_eq_true_iff] at this
          exact this
        have hfo : fO g n m kd oa ob (rPk (hL g n).length p) = (wB (ed (KA g n m kd oa ob 255 (mtP (fun j => (hL g n).getD j 0) (fun j => (tL g n).getD (mtO p j) 0) (hL g n).length) none) n) (2 ^ (2 * n)) 0 != 0) := by
          unfold fO
          rw [fitP_c (t' := fun j => (tL g n).getD (mtO p j) 0) (fun j hj => by rw [rPk_get hj])]
          rfl
        have hsome : ∀ j a b, j ≤ (hL g n).length → mtP (fun j => (hL g n).getD j 0) (fun j => (tL g n).getD (mtO p j) 0) j a = some b → b < 6 := by
          intro j
          induction j with
          | zero => intro a b _ h; cases h
          | succ j ihj =>
            intro a b hj h
            rw [mtP_e] at h
            by_cases z : a = (hL g n).getD j 0
            · rw [if_pos z] at h
              cases h
              have := to1 (mtO p j) (by rw [← kt]; exact hl j (by omega))
              omega
            · rw [if_neg z] at h
              exact ihj a b (by omega) h
        have hlen : (vld (rOk (hL g n).length) p).length ≤ p := by
          have := List.length_filter_le (rOk (hL g n).length) (List.range p)
          rw [List.length_range] at this
          exact this
        have hcl : cnt (fun x => fO g n m kd oa ob (rPk (hL g n).length x)) (vld (rOk (hL g n).length) p) ≤ (vld (rOk (hL g n).length) p).length := List.countP_le_length
        have hfl : ∀ c, (vld (rOk (hL g n).length) p).find? (fun x => fO g n m kd oa ob (rPk (hL g n).length x)) = some c → ¬ (nI c = (-1 : Int32)) := fun c h q => by
          obtain ⟨hc, -⟩ := vld_m (List.mem_of_find?_eq_some h)
          have h1 : ¬ nI c < 0 := nI_pos (by omega)
          rw [q] at h1
          exact h1 (by decide)
        rw [hfo] at ih
        clear hfo hle hz hQ
        have hMV := MV_of (cq := partedToo) (mate := mate) (c := 255) (mt := mtP (fun j => (hL g n).getD j 0) (fun j => (tL g n).getD (mtO p j) 0) (hL g n).length) (pa := none) (cp := -nI 1) hb (by omega) (fun a ha => ⟨hma a (by omega), fun b hb => hsome _ a b (Nat.le_refl _) hb⟩) rfl
        have hwB := hBD (KA g n m kd oa ob 255 (mtP (fun j => (hL g n).getD j 0) (fun j => (tL g n).getD (mtO p j) 0) (hL g n).length) none)
        generalize KA g n m kd oa ob 255 (mtP (fun j => (hL g n).getD j 0) (fun j => (tL g n).getD (mtO p j) 0) (hL g n).length) none = K at ih hMV hwB
        have h00 := hwB 0 (Nat.two_pow_pos _)
        unfold wp_X11_one_b226
        refine br_f (by decide) (s_counts hb.1 hn hMV (fun s hs => by have := hwB s hs; omega) (fun ca cm on hon => ?_))
        unfold wp_X11_one_b256 wp_X11_one_b258
        rw [zL 0, show ∀ x : Int64, ((lg_cmp x (lN 0) ≤ (0 : Int32)) = (lg_cmp x (lN 0) ≤ nI 0)) from fun _ => rfl, z_cmp (by omega)]
        rw [nI_1, nI_1]
        refine br_c (fun z => ?_) (fun z => ?_)
        · rw [show (wB (ed K n) (2 ^ (2 * n)) 0 != 0) = false from bne_eq_false_iff_eq.mpr z, if_neg (by decide), if_neg (by decide), Nat.add_zero] at ih
          have ih := ih ca cm (nI 255) (-nI 1) mate on
          cases hfi : (vld (rOk (hL g n).length) p).find? (fun x => fO g n m kd oa ob (rPk (hL g n).length x)) with
          | none => rw [hfi] at ih; exact ih
          | some c => rw [hfi] at ih; exact ih
        · rw [show (wB (ed K n) (2 ^ (2 * n)) 0 != 0) = true from bne_iff_ne.mpr z, if_pos rfl, if_pos rfl] at ih
          have ih := ih ca cm (nI 255) (-nI 1) mate on
          cases hfi : (vld (rOk (hL g n).length) p).find? (fun x => fO g n m kd oa ob (rPk (hL g n).length x)) with
          | none => rw [hfi] at ih; exact br_t rfl ih
          | some c => rw [hfi] at ih; exact br_f (hfl c hfi) ih
  exact ⟨7, S 6 0 ahead moment counted parted mate on rfl⟩
