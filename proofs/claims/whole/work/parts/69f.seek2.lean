theorem s_seek {g : Nat → Int32} {n m : Nat} {kd oa ob : Nat → Nat} (hg : HB g n m kd oa ob) {isF pr wy cs dc cb c1 c2 : Int32} {mate lo here there pick sr so la st ma on ot pt mi me pa : Nat → Int32} {wa : Nat → Int64} {Q : Int32 → Int32 → Int32 → (Nat → Int32) → Int32 → (Nat → Int32) → (Nat → Int64) → (Nat → Int32) → (Nat → Int32) → (Nat → Int32) → Int32 → Int32 → (Nat → Int32) → (Nat → Int32) → (Nat → Int32) → (Nat → Int32) → (Nat → Int32) → Int32 → Int32 → (Nat → Int32) → (Nat → Int32) → Prop}
    (hs : ∀ t, t < n → sr t = g (8 + t)) (hd : dR (DS kd oa ob n m) so la st ma) (hp : pR (PS g kd oa ob n m) on ot pt)
    (hQ : ∀ (isF pr wy cs dc cb c1 c2 : Int32) (mate lo here there pick so la st ma mi me pa : Nat → Int32) (wa : Nat → Int64), PDT g n m kd oa ob isF pr wy mate → Q isF pr wy mate cs lo wa here there pick dc cb so la st ma mi c1 c2 me pa) : wp_X5_seek isF pr wy mate cs lo wa here there pick (nI n) sr dc (nI (DS kd oa ob n m).length) (nI (PS g kd oa ob n m).length) cb so la st ma on ot pt mi c1 c2 me pa Q := by
  have hn := hg.2.2.1
  unfold wp_X5_seek
  refine d_sort hn hs (fun here there lh lt => ?_)
  rw [zbR]
  cases hf : fair g n with
  | false =>
    rw [if_neg (by decide)]
    exact hQ _ _ _ _ _ _ _ _ _ _ _ _ _ _ _ _ _ _ _ _ _ ⟨by rw [hf], fun q => by rw [hf] at q; cases q⟩
  | true =>
    rw [if_pos rfl]
    obtain ⟨k0, k4, kt⟩ := fair_t hn hf
    obtain ⟨ho1, ho2⟩ := hL_ok g n
    obtain ⟨to1, to2⟩ := tL_ok g n
    have hkk : (hL g n).length ^ (hL g n).length ≤ 27 := (by decide : ∀ k, k < 4 → k ^ k ≤ 27) _ k4
    have hkp : ∀ i, i ≤ (hL g n).length → (hL g n).length ^ i ≤ 27 := fun i hi => Nat.le_trans (Nat.pow_le_pow_right k0 hi) hkk
    have S : ∀ (d c : Nat) (cs dc cb c1 c2 : Int32) (mate lo pick so la st ma mi me pa : Nat → Int32) (wa : Nat → Int64), c + d = (hL g n).length ^ (hL g n).length → dR (DS kd oa ob n m) so la st ma →
        (∀ l, (((vld (cOk (hL g n).length) c).map (cPk (hL g n).length)).find? (fO g n m kd oa ob)) = some l → ∀ j, j < (hL g n).length → mate j = nI ((tL g n).getD (l.getD j 0) 0)) →
        wp_X5_seek_b51 Q (nI n) (nI (DS kd oa ob n m).length) (nI (PS g kd oa ob n m).length) on ot pt (d + 1) (nI ((hL g n).length ^ (hL g n).length)) (nI c) (bI true) (nI (hL g n).length) (nI (cnt (fO g n m kd oa ob) ((vld (cOk (hL g n).length) c).map (cPk (hL g n).length)))) mate cs lo wa here there pick dc cb so la st ma mi c1 c2 me pa := by
      intro d
      induction d with
      | zero =>
        intro c cs dc cb c1 c2 mate lo pick so la st ma mi me pa wa hc hd hm
        obtain rfl : c = (hL g n).length ^ (hL g n).length := by omega
        rw [c_prm _ k4 k0] at hm ⊢
        unfold wp_X5_seek_b51
        exact br_t (nI_le (by omega) (by omega)) (hQ _ _ _ _ _ _ _ _ _ _ _ _ _ _ _ _ _ _ _ _ _ ⟨by rw [hf], fun _ => ⟨rfl, rfl, hm⟩⟩)
      | succ d ih =>
        intro c cs dc cb c1 c2 mate lo pick so la st ma mi me pa wa hc hd hm
        have ih := fun cs dc cb c1 c2 mate lo pick so la st ma mi me pa wa => ih (c + 1) cs dc cb c1 c2 mate lo pick so la st ma mi me pa wa (by omega)
        rw [vld_s] at ih
        unfold wp_X5_seek_b51 wp_X5_seek_b91 wp_X5_seek_b101
        refine br_f (nI_ge (by omega) (by omega)) (s_decode k0 k4 (by omega) (fun pick hpick => ?_))
        change ((bI (cOk (hL g n).length c) = 0 → _) ∧ (¬ bI (cOk (hL g n).length c) = 0 → _))
        rw [zbR, nI_1]
        cases hv : cOk (hL g n).length c with
        | false =>
          rw [if_neg (by decide)]
          rw [hv] at ih
          exact ih _ _ _ _ _ _ _ _ _ _ _ _ _ _ _ _ hd hm
        | true =>
          rw [if_pos rfl]
          rw [hv, if_pos rfl, List.map_append, List.map_cons, List.map_nil, cnt_s, fnd_s] at ih
          have hmod : ∀ x, dgt (hL g n).length c x < (hL g n).length := fun x => Nat.mod_lt _ k0
          have hfo : fO g n m kd oa ob (cPk (hL g n).length c) = fitP g n m kd oa ob (fun j => (hL g n).getD j 0) (fun j => (tL g n).getD (dgt (hL g n).length c ((hL g n).length - 1 - j)) 0) (hL g n).length := by
            unfold fO
            exact fitP_c (fun j hj => by rw [cPk_get hj])
          have hpk : ∀ j, j < (hL g n).length → pick j = nI (dgt (hL g n).length c ((hL g n).length - 1 - j)) ∧ dgt (hL g n).length c ((hL g n).length - 1 - j) < 6 ∧ there (dgt (hL g n).length c ((hL g n).length - 1 - j)) = nI ((tL g n).getD (dgt (hL g n).length c ((hL g n).length - 1 - j)) 0) := fun j hj => ⟨hpick j hj, by have := hmod ((hL g n).length - 1 - j); omega, lt _ (by rw [← kt]; exact hmod _)⟩
          refine s_fitsPicked hg k4 (h := fun j => (hL g n).getD j 0) (t := fun j => (tL g n).getD (dgt (hL g n).length c ((hL g n).length - 1 - j)) 0) (fun j hj => ⟨ho1 j hj, to1 _ (by rw [← kt]; exact hmod _)⟩) (fun i j h1 h2 => by have := ho2 i j h1 h2; show (hL g n).getD i 0 ≠ (hL g n).getD j 0; omega) hd hp (fun j hj => lh j hj) hpk (fun cs dc cb c1 c2 lo so la st ma mi me pa wa hd => ?_)
          rw [← hfo, zbR]
          cases hfx : fO g n m kd oa ob (cPk (hL g n).length c) with
          | false =>
            rw [if_neg (by decide)]
            rw [hfx, if_neg (by decide), if_neg (by decide), Nat.add_zero] at ih
            refine ih _ _ _ _ _ _ _ _ _ _ _ _ _ _ _ _ hd (fun l hl => hm l ?_)
            revert hl
            cases List.find? (fO g n m kd oa ob) (List.map (cPk (hL g n).length) (vld (cOk (hL g n).length) c)) with
            | none => intro hl; cases hl
            | some x => exact fun hl => hl
          | true =>
            rw [if_pos rfl]
            rw [hfx, if_pos rfl, if_pos rfl] at ih
            have hlen : cnt (fO g n m kd oa ob) ((vld (cOk (hL g n).length) c).map (cPk (hL g n).length)) < 2 ^ 31 := by
              have h1 : cnt (fO g n m kd oa ob) ((vld (cOk (hL g n).length) c).map (cPk (hL g n).length)) ≤ ((vld (cOk (hL g n).length) c).map (cPk (hL g n).length)).length := List.countP_le_length
              rw [List.length_map] at h1
              have h2 : (vld (cOk (hL g n).length) c).length ≤ c := by
                have := List.length_filter_le (cOk (hL g n).length) (List.range c)
                rw [List.length_range] at this
                exact this
              omega
            rw [show ((nI (cnt (fO g n m kd oa ob) ((vld (cOk (hL g n).length) c).map (cPk (hL g n).length))) = 0) = (cnt (fO g n m kd oa ob) ((vld (cOk (hL g n).length) c).map (cPk (hL g n).length)) = 0)) from propext (nI_eq (b := 0) hlen (by omega)), cnt_0]
            refine br_c (fun z => ?_) (fun z => ?_)
            · refine s_keep (by omega) hpk (fun mate hma => ?_)
              rw [show ∀ x : Nat, (nI x + (1 : Int32)) = nI (x + 1) from fun x => nI_add x 1]
              refine ih _ _ _ _ _ _ _ _ _ _ _ _ _ _ _ _ hd (fun l hl => ?_)
              rw [z] at hl
              cases hl
              intro j hj
              rw [hma j hj, cPk_get hj]
            · rw [show ∀ x : Nat, (nI x + (1 : Int32)) = nI (x + 1) from fun x => nI_add x 1]
              refine ih _ _ _ _ _ _ _ _ _ _ _ _ _ _ _ _ hd (fun l hl => hm l ?_)
              revert hl z
              cases List.find? (fO g n m kd oa ob) (List.map (cPk (hL g n).length) (vld (cOk (hL g n).length) c)) with
              | none => intro z; exact absurd rfl z
              | some x => exact fun _ hl => hl
    have C : ∀ (d i : Nat), i + d = (hL g n).length → wp_X5_seek_b24 Q (nI n) (nI (DS kd oa ob n m).length) (nI (PS g kd oa ob n m).length) on ot pt (d + 1) (nI ((hL g n).length ^ i)) (nI i) (bI true) (nI (hL g n).length) (0 : Int32) mate cs lo wa here there pick dc cb so la st ma mi c1 c2 me pa := by
      intro d
      induction d with
      | zero =>
        intro i hi
        obtain rfl : i = (hL g n).length := by omega
        unfold wp_X5_seek_b24 wp_X5_seek_b48
        exact br_t (nI_le (by omega) (by omega)) ⟨_, S ((hL g n).length ^ (hL g n).length) 0 cs dc cb c1 c2 mate lo pick so la st ma mi me pa wa (by omega) hd (fun l hl => by cases hl)⟩
      | succ d ih =>
        intro i hi
        unfold wp_X5_seek_b24
        rw [pk_mul, nI_1, ← Nat.pow_succ]
        exact br_f (nI_ge (by omega) (by omega)) (ih (i + 1) (by omega))
    exact ⟨_, C (hL g n).length 0 (by omega)⟩
