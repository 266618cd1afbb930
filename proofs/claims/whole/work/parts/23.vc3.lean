/-! some, every, pieces, points, holds, at, same, implies -/
theorem i_vc_some {k : Nat} {u : SX} {v : SY} (I : i_Rel k u v) (hk : k + 5 ≤ 2560) : wpX_some (fun r u' => wpY_some (fun r' v' => r' = r ∧ i_Rel (k + 5) u' v') v) u := by
  have I' : i_Rel (k + 5) u v := i_up I
  obtain ⟨m, M, dp, sx, sq, li, co, mw, ms, mu, mb, mz, sk, sp, st, hc, so, on, tw, stk, tr, fm, ps, ss, ro, qs, rfl, rfl, C, hst⟩ := I
  have hM16 := C.2.1
  have hm := C.1
  have hD := (st_lt C.2.2.2.2 M (Nat.le_refl M)).1
  unfold wpX_some wpY_some
  dsimp only
  by_cases h1 : 1 ≤ dp M
  rotate_left
  · have n1 : ¬ (1 : Int32) ≤ nI (dp M) := nI_ge (b := 1) (by omega) (by decide)
    exact br_f n1 (br_f n1 ⟨rfl, I'⟩)
  have n1 : (1 : Int32) ≤ nI (dp M) := nI_le (a := 1) h1 (by omega)
  have eD : nI (dp M) - 1 = nI (dp M - 1) := pk_sub (b := 1) (by omega)
  have hin : vp_in (nI (dp M - 1)) 16 := vp_in_nI (by omega) (by decide)
  have cl : (nI (dp M - 1)).toNatClampNeg = dp M - 1 := nI_clamp (by omega)
  refine br_t n1 (rl_take C ?_)
  intro hc' hW
  dsimp only
  have W := hW 0 (by omega)
  rw [Nat.sub_zero] at W
  have yy : ∀ x : Int32, (x = if ct_n (rl_U m M dp sx sq li co mw ms mu mb sk sp st 0) (2 * m + 1) = 0 then 0 else 1) →
      wpY_countCells (fun r_2 u => match u with | (f_marks_3, f_made_4, f_depth_5, a_as_6, a_bs_7, a_cs_8, a_ps_9, a_ss_10, a_roots_11, a_qs_12, a_sorts_13, a_ones_14, a_twos_15, a_stack_16, a_truth_17) => (((r_2 ≤ 0 → ((0 : Int32) = x ∧ i_Rel (k + 5) (nI m, nI M, nI (dp M), sq, li, co, mw, ms, mu, mb, mz, sk, sp, st, hc') (f_marks_3, f_made_4, f_depth_5, a_as_6, a_bs_7, a_cs_8, a_ps_9, a_ss_10, a_roots_11, a_qs_12, a_sorts_13, a_ones_14, a_twos_15, a_stack_16, a_truth_17))) ∧ (¬ r_2 ≤ 0 → ((1 : Int32) = x ∧ i_Rel (k + 5) (nI m, nI M, nI (dp M), sq, li, co, mw, ms, mu, mb, mz, sk, sp, st, hc') (f_marks_3, f_made_4, f_depth_5, a_as_6, a_bs_7, a_cs_8, a_ps_9, a_ss_10, a_roots_11, a_qs_12, a_sorts_13, a_ones_14, a_twos_15, a_stack_16, a_truth_17)))))) (fm, nI M, nI (dp M), sq, li, co, ps, ss, ro, qs, so, on, tw, stk, tr) := by
    intro x hx
    unfold wpY_countCells
    dsimp only
    refine rl_find C ?_
    intro ps' ss' ro' qs' hV hκ
    dsimp only
    refine cq_cells m C.1 _ (rl_I C hst hV hκ 0 (by omega)) ?_ tr
    intro tr'
    have cb := ct_le (rl_U m M dp sx sq li co mw ms mu mb sk sp st 0) (2 * m + 1)
    refine ar_c (nI_leI (b := 0) (by omega) (by decide)) (fun h => ⟨?_, rl_mk C hst _ _ _ _ _ _ _⟩) (fun h => ⟨?_, rl_mk C hst _ _ _ _ _ _ _⟩)
    · rw [hx, if_pos (by omega)]
    · rw [hx, if_neg (by omega)]
  rw [eD, cl]
  refine ⟨hin, ar_c (wd_some C.1 W) (fun h => ?_) (fun h => ?_)⟩
  · exact br_t n1 (yy 0 (by rw [if_pos h]))
  · exact br_t n1 (yy 1 (by rw [if_neg h]))
theorem i_vc_every {k : Nat} {u : SX} {v : SY} (I : i_Rel k u v) (hk : k + 5 ≤ 2560) : wpX_every (fun r u' => wpY_every (fun r' v' => r' = r ∧ i_Rel (k + 5) u' v') v) u := by
  have I' : i_Rel (k + 5) u v := i_up I
  obtain ⟨m, M, dp, sx, sq, li, co, mw, ms, mu, mb, mz, sk, sp, st, hc, so, on, tw, stk, tr, fm, ps, ss, ro, qs, rfl, rfl, C, hst⟩ := I
  have hM16 := C.2.1
  have hm := C.1
  have hD := (st_lt C.2.2.2.2 M (Nat.le_refl M)).1
  unfold wpX_every wpY_every
  dsimp only
  by_cases h1 : 1 ≤ dp M
  rotate_left
  · have n1 : ¬ (1 : Int32) ≤ nI (dp M) := nI_ge (b := 1) (by omega) (by decide)
    exact br_f n1 (br_f n1 ⟨rfl, I'⟩)
  have n1 : (1 : Int32) ≤ nI (dp M) := nI_le (a := 1) h1 (by omega)
  have eD : nI (dp M) - 1 = nI (dp M - 1) := pk_sub (b := 1) (by omega)
  have hin : vp_in (nI (dp M - 1)) 16 := vp_in_nI (by omega) (by decide)
  have cl : (nI (dp M - 1)).toNatClampNeg = dp M - 1 := nI_clamp (by omega)
  refine br_t n1 (rl_take C ?_)
  intro hc' hW
  unfold wpX_allCells
  dsimp only
  have W := hW 0 (by omega)
  rw [Nat.sub_zero] at W
  have e2 : ((2 : Int32) * nI m) + 1 = nI (2 * m + 1) := by rw [show (2 : Int32) * nI m = nI (2 * m) from pk_mul 2 m, nI_1]
  have yy : ∀ x : Int32, (x = if ct_n (rl_U m M dp sx sq li co mw ms mu mb sk sp st 0) (2 * m + 1) = 2 * m + 1 then 1 else 0) →
      wpY_countCells (fun r_2 u => match u with | (f_marks_3, f_made_4, f_depth_5, a_as_6, a_bs_7, a_cs_8, a_ps_9, a_ss_10, a_roots_11, a_qs_12, a_sorts_13, a_ones_14, a_twos_15, a_stack_16, a_truth_17) => (((r_2 = ((2 * f_marks_3) + 1) → ((1 : Int32) = x ∧ i_Rel (k + 5) (nI m, nI M, nI (dp M), sq, li, co, mw, ms, mu, mb, mz, sk, sp, st, hc') (f_marks_3, f_made_4, f_depth_5, a_as_6, a_bs_7, a_cs_8, a_ps_9, a_ss_10, a_roots_11, a_qs_12, a_sorts_13, a_ones_14, a_twos_15, a_stack_16, a_truth_17))) ∧ (¬ r_2 = ((2 * f_marks_3) + 1) → ((0 : Int32) = x ∧ i_Rel (k + 5) (nI m, nI M, nI (dp M), sq, li, co, mw, ms, mu, mb, mz, sk, sp, st, hc') (f_marks_3, f_made_4, f_depth_5, a_as_6, a_bs_7, a_cs_8, a_ps_9, a_ss_10, a_roots_11, a_qs_12, a_sorts_13, a_ones_14, a_twos_15, a_stack_16, a_truth_17)))))) (fm, nI M, nI (dp M), sq, li, co, ps, ss, ro, qs, so, on, tw, stk, tr) := by
    intro x hx
    unfold wpY_countCells
    dsimp only
    refine rl_find C ?_
    intro ps' ss' ro' qs' hV hκ
    dsimp only
    refine cq_cells m C.1 _ (rl_I C hst hV hκ 0 (by omega)) ?_ tr
    intro tr'
    have cb := ct_le (rl_U m M dp sx sq li co mw ms mu mb sk sp st 0) (2 * m + 1)
    dsimp only
    rw [e2]
    refine ar_c (nI_eq (by omega) (by omega)) (fun h => ⟨?_, rl_mk C hst _ _ _ _ _ _ _⟩) (fun h => ⟨?_, rl_mk C hst _ _ _ _ _ _ _⟩)
    · rw [hx, if_pos h]
    · rw [hx, if_neg h]
  rw [eD, cl]
  refine ⟨hin, ar_c (wd_every C.1 W) (fun h => ?_) (fun h => ?_)⟩
  · exact br_t n1 (yy 1 (by rw [if_pos h]))
  · exact br_t n1 (yy 0 (by rw [if_neg h]))
theorem i_vc_pieces {k : Nat} {u : SX} {v : SY} (I : i_Rel k u v) (hk : k + 5 ≤ 2560) : wpX_pieces (fun r u' => wpY_pieces (fun r' v' => r' = r ∧ i_Rel (k + 5) u' v') v) u := by
  have I' : i_Rel (k + 5) u v := i_up I
  obtain ⟨m, M, dp, sx, sq, li, co, mw, ms, mu, mb, mz, sk, sp, st, hc, so, on, tw, stk, tr, fm, ps, ss, ro, qs, rfl, rfl, C, hst⟩ := I
  have hM16 := C.2.1
  have hD := (st_lt C.2.2.2.2 M (Nat.le_refl M)).1
  unfold wpX_pieces wpY_pieces
  dsimp only
  by_cases h1 : 1 ≤ dp M
  rotate_left
  · have n1 : ¬ (1 : Int32) ≤ nI (dp M) := nI_ge (b := 1) (by omega) (by decide)
    exact br_f n1 (br_f n1 ⟨rfl, I'⟩)
  have n1 : (1 : Int32) ≤ nI (dp M) := nI_le (a := 1) h1 (by omega)
  have eD : nI (dp M) - 1 = nI (dp M - 1) := pk_sub (b := 1) (by omega)
  have hin : vp_in (nI (dp M - 1)) 16 := vp_in_nI (by omega) (by decide)
  have cl : (nI (dp M - 1)).toNatClampNeg = dp M - 1 := nI_clamp (by omega)
  refine br_t n1 (rl_take C ?_)
  intro hc' hW
  dsimp only
  have W := hW 0 (by omega)
  rw [Nat.sub_zero] at W
  rw [eD, cl]
  refine ⟨hin, nm_e (nm_e (cq_x _ ?_))⟩
  rw [wd_pieces C.1 W]
  refine br_t n1 ?_
  unfold wpY_countPieces
  dsimp only
  refine rl_find C ?_
  intro ps' ss' ro' qs' hV hκ
  exact cq_pieces m C.1 _ (rl_I C hst hV hκ 0 (by omega)) false (fun tr' => ⟨rfl, rl_mk C hst _ _ _ _ _ _ _⟩) tr
theorem i_vc_points {k : Nat} {u : SX} {v : SY} (I : i_Rel k u v) (hk : k + 5 ≤ 2560) : wpX_points (fun r u' => wpY_points (fun r' v' => r' = r ∧ i_Rel (k + 5) u' v') v) u := by
  have I' : i_Rel (k + 5) u v := i_up I
  obtain ⟨m, M, dp, sx, sq, li, co, mw, ms, mu, mb, mz, sk, sp, st, hc, so, on, tw, stk, tr, fm, ps, ss, ro, qs, rfl, rfl, C, hst⟩ := I
  have hM16 := C.2.1
  have hD := (st_lt C.2.2.2.2 M (Nat.le_refl M)).1
  unfold wpX_points wpY_points
  dsimp only
  by_cases h1 : 1 ≤ dp M
  rotate_left
  · have n1 : ¬ (1 : Int32) ≤ nI (dp M) := nI_ge (b := 1) (by omega) (by decide)
    exact br_f n1 (br_f n1 ⟨rfl, I'⟩)
  have n1 : (1 : Int32) ≤ nI (dp M) := nI_le (a := 1) h1 (by omega)
  have eD : nI (dp M) - 1 = nI (dp M - 1) := pk_sub (b := 1) (by omega)
  have hin : vp_in (nI (dp M - 1)) 16 := vp_in_nI (by omega) (by decide)
  have cl : (nI (dp M - 1)).toNatClampNeg = dp M - 1 := nI_clamp (by omega)
  refine br_t n1 (rl_take C ?_)
  intro hc' hW
  dsimp only
  have W := hW 0 (by omega)
  rw [Nat.sub_zero] at W
  rw [eD, cl]
  refine ⟨hin, nm_e (nm_e (cq_x _ ?_))⟩
  rw [wd_points C.1 W]
  refine br_t n1 ?_
  unfold wpY_countPieces
  dsimp only
  refine rl_find C ?_
  intro ps' ss' ro' qs' hV hκ
  exact cq_pieces m C.1 _ (rl_I C hst hV hκ 0 (by omega)) true (fun tr' => ⟨rfl, rl_mk C hst _ _ _ _ _ _ _⟩) tr
theorem i_vc_holds {k : Nat} {u : SX} {v : SY} (I : i_Rel k u v) (hk : k + 5 ≤ 2560) (v1 : Int32) : wpX_holds (fun r u' => wpY_holds (fun r' v' => r' = r ∧ i_Rel (k + 5) u' v') v v1) u v1 := by
  have I' : i_Rel (k + 5) u v := i_up I
  obtain ⟨m, M, dp, sx, sq, li, co, mw, ms, mu, mb, mz, sk, sp, st, hc, so, on, tw, stk, tr, fm, ps, ss, ro, qs, rfl, rfl, C, hst⟩ := I
  have hM16 := C.2.1
  have hD := (st_lt C.2.2.2.2 M (Nat.le_refl M)).1
  unfold wpX_holds wpY_holds
  dsimp only
  by_cases h1 : 1 ≤ dp M
  rotate_left
  · have n1 : ¬ (1 : Int32) ≤ nI (dp M) := nI_ge (b := 1) (by omega) (by decide)
    exact br_f n1 (br_f n1 ⟨rfl, I'⟩)
  have n1 : (1 : Int32) ≤ nI (dp M) := nI_le (a := 1) h1 (by omega)
  have eD : nI (dp M) - 1 = nI (dp M - 1) := pk_sub (b := 1) (by omega)
  have hin : vp_in (nI (dp M - 1)) 16 := vp_in_nI (by omega) (by decide)
  have cl : (nI (dp M - 1)).toNatClampNeg = dp M - 1 := nI_clamp (by omega)
  rcases rg_cell C.1 v1 with ⟨c, hc', rfl, xb, yb⟩ | ⟨xb, yb⟩
  rotate_left
  · refine br_t n1 (xb _ (br_t rfl (br_t n1 (rl_find C ?_))))
    intro ps' ss' ro' qs' hV hκ
    exact yb _ _ _ _ _ _ _ _ _ _ _ _ _ _ _ (br_f (by decide) ⟨rfl, rl_mk C hst _ _ _ _ _ _ _⟩)
  refine br_t n1 (xb _ (br_f (by decide) (rl_take C ?_)))
  intro hc'' hW
  dsimp only
  have W := hW 0 (by omega)
  rw [Nat.sub_zero] at W
  rw [eD, cl, wd_bit C.1 W hc']
  refine ⟨hin, br_t n1 (rl_find C ?_)⟩
  intro ps' ss' ro' qs' hV hκ
  refine yb _ _ _ _ _ _ _ _ _ _ _ _ _ _ _ (br_t rfl ?_)
  refine rl_I C hst hV hκ 0 (by omega) _ c tr hc' ?_
  intro tr'
  refine ar_c (bi_eq0 _) (fun h => ⟨?_, rl_mk C hst _ _ _ _ _ _ _⟩) (fun h => ⟨?_, rl_mk C hst _ _ _ _ _ _ _⟩)
  · rw [h]; rfl
  · rw [show rl_U m M dp sx sq li co mw ms mu mb sk sp st 0 c = true by simpa using h]; rfl
theorem i_vc_at {k : Nat} {u : SX} {v : SY} (I : i_Rel k u v) (hk : k + 5 ≤ 2560) (v1 : Int32) (v2 : Int32) : wpX_at (fun r u' => wpY_at (fun r' v' => r' = r ∧ i_Rel (k + 5) u' v') v v1 v2) u v1 v2 := by
  have I' : i_Rel (k + 5) u v := i_up I
  obtain ⟨m, M, dp, sx, sq, li, co, mw, ms, mu, mb, mz, sk, sp, st, hc, so, on, tw, stk, tr, fm, ps, ss, ro, qs, rfl, rfl, C, hst⟩ := I
  have hM16 := C.2.1
  have hD := (st_lt C.2.2.2.2 M (Nat.le_refl M)).1
  unfold wpX_at wpY_at
  dsimp only
  by_cases h1 : 1 ≤ dp M
  rotate_left
  · have n1 : ¬ (1 : Int32) ≤ nI (dp M) := nI_ge (b := 1) (by omega) (by decide)
    exact br_f n1 (br_f n1 ⟨rfl, I'⟩)
  have n1 : (1 : Int32) ≤ nI (dp M) := nI_le (a := 1) h1 (by omega)
  have eD : nI (dp M) - 1 = nI (dp M - 1) := pk_sub (b := 1) (by omega)
  have hin : vp_in (nI (dp M - 1)) 16 := vp_in_nI (by omega) (by decide)
  have cl : (nI (dp M - 1)).toNatClampNeg = dp M - 1 := nI_clamp (by omega)
  rcases rg_frac v1 v2 with ⟨V, xa, ya⟩ | ⟨xa, ya⟩
  rotate_left
  · exact br_t n1 (xa _ (br_t rfl (br_t n1 (ya _ _ (br_f (by decide) ⟨rfl, I'⟩)))))
  refine br_t n1 (xa _ (br_f (by decide) (rl_take C ?_)))
  intro hc'' hW
  dsimp only
  have W := hW 0 (by omega)
  rw [Nat.sub_zero] at W
  rw [ar_i_t v1, ar_i_t v2]
  refine xm_cell (S := 0) (D := 0) m C.1 C.2.2.2.1.1 C.2.2.2.1.2.1 v1.toInt v2.toInt V ?_
  intro c hc' hat
  rw [← ar_i_t v1, ← ar_i_t v2]
  rw [eD, cl, wd_bit C.1 W hc']
  refine ⟨hin, br_t n1 (ya _ _ (br_t rfl (rl_find C ?_)))⟩
  intro ps' ss' ro' qs' hV hκ
  dsimp only
  rw [ar_i_t v1, ar_i_t v2]
  refine yo_cell m C.1 (xm_k mw ms mu mb) C.2.2.2.1.2.1 hV hκ v1.toInt v2.toInt V ?_
  intro c' hat'
  have ec := mk_at_u C.2.2.2.1.2.1 hat hat'
  subst ec
  refine rl_I C hst hV hκ 0 (by omega) _ c tr hc' ?_
  intro tr'
  refine ar_c (bi_eq0 _) (fun h => ⟨?_, rl_mk C hst _ _ _ _ _ _ _⟩) (fun h => ⟨?_, rl_mk C hst _ _ _ _ _ _ _⟩)
  · rw [h]; rfl
  · rw [show rl_U m M dp sx sq li co mw ms mu mb sk sp st 0 c = true by simpa using h]; rfl
theorem i_vc_same {k : Nat} {u : SX} {v : SY} (I : i_Rel k u v) (hk : k + 5 ≤ 2560) : wpX_same (fun r u' => wpY_same (fun r' v' => r' = r ∧ i_Rel (k + 5) u' v') v) u := by
  have I' : i_Rel (k + 5) u v := i_up I
  obtain ⟨m, M, dp, sx, sq, li, co, mw, ms, mu, mb, mz, sk, sp, st, hc, so, on, tw, stk, tr, fm, ps, ss, ro, qs, rfl, rfl, C, hst⟩ := I
  have hM16 := C.2.1
  have hD := (st_lt C.2.2.2.2 M (Nat.le_refl M)).1
  unfold wpX_same wpY_same
  dsimp only
  by_cases h1 : 2 ≤ dp M
  rotate_left
  · have n1 : ¬ (2 : Int32) ≤ nI (dp M) := nI_ge (b := 2) (by omega) (by decide)
    exact br_f n1 (br_f n1 ⟨rfl, I'⟩)
  have n1 : (2 : Int32) ≤ nI (dp M) := nI_le (a := 2) h1 (by omega)
  have eD : nI (dp M) - 1 = nI (dp M - 1) := pk_sub (b := 1) (by omega)
  have hin : vp_in (nI (dp M - 1)) 16 := vp_in_nI (by omega) (by decide)
  have cl : (nI (dp M - 1)).toNatClampNeg = dp M - 1 := nI_clamp (by omega)
  have eD2 : nI (dp M) - 2 = nI (dp M - 2) := pk_sub (b := 2) (by omega)
  have hin2 : vp_in (nI (dp M - 2)) 16 := vp_in_nI (by omega) (by decide)
  have cl2 : (nI (dp M - 2)).toNatClampNeg = dp M - 2 := nI_clamp (by omega)
  refine br_t n1 (rl_take C ?_)
  intro hc' hW
  dsimp only
  have W := hW 0 (by omega)
  have W' := hW 1 (by omega)
  rw [Nat.sub_zero] at W
  rw [show dp M - 1 - 1 = dp M - 2 by omega] at W'
  rw [eD, eD2, cl, cl2]
  refine ⟨hin2, hin, ar_c (wd_same C.1 W W') (fun h => ?_) (fun h => ?_)⟩
  · refine br_t n1 (rl_find C ?_)
    intro ps' ss' ro' qs' hV hκ
    exact cq_same m C.1 _ _ (rl_I C hst hV hκ 0 (by omega)) (rl_I C hst hV hκ 1 (by omega)) (fun _ tr' => ⟨rfl, rl_mk C hst _ _ _ _ _ _ _⟩) (fun ⟨j, hj, hn⟩ => absurd (h j hj) hn) tr
  · refine br_t n1 (rl_find C ?_)
    intro ps' ss' ro' qs' hV hκ
    exact cq_same m C.1 _ _ (rl_I C hst hV hκ 0 (by omega)) (rl_I C hst hV hκ 1 (by omega)) (fun h' => absurd h' h) (fun _ tr' => ⟨rfl, rl_mk C hst _ _ _ _ _ _ _⟩) tr
theorem i_vc_implies {k : Nat} {u : SX} {v : SY} (I : i_Rel k u v) (hk : k + 5 ≤ 2560) : wpX_implies (fun r u' => wpY_implies (fun r' v' => r' = r ∧ i_Rel (k + 5) u' v') v) u := by
  have I' : i_Rel (k + 5) u v := i_up I
  obtain ⟨m, M, dp, sx, sq, li, co, mw, ms, mu, mb, mz, sk, sp, st, hc, so, on, tw, stk, tr, fm, ps, ss, ro, qs, rfl, rfl, C, hst⟩ := I
  have hM16 := C.2.1
  have hD := (st_lt C.2.2.2.2 M (Nat.le_refl M)).1
  unfold wpX_implies wpY_implies
  dsimp only
  by_cases h1 : 2 ≤ dp M
  rotate_left
  · have n1 : ¬ (2 : Int32) ≤ nI (dp M) := nI_ge (b := 2) (by omega) (by decide)
    exact br_f n1 (br_f n1 ⟨rfl, I'⟩)
  have n1 : (2 : Int32) ≤ nI (dp M) := nI_le (a := 2) h1 (by omega)
  have eD : nI (dp M) - 1 = nI (dp M - 1) := pk_sub (b := 1) (by omega)
  have hin : vp_in (nI (dp M - 1)) 16 := vp_in_nI (by omega) (by decide)
  have cl : (nI (dp M - 1)).toNatClampNeg = dp M - 1 := nI_clamp (by omega)
  have eD2 : nI (dp M) - 2 = nI (dp M - 2) := pk_sub (b := 2) (by omega)
  have hin2 : vp_in (nI (dp M - 2)) 16 := vp_in_nI (by omega) (by decide)
  have cl2 : (nI (dp M - 2)).toNatClampNeg = dp M - 2 := nI_clamp (by omega)
  refine br_t n1 (rl_take C ?_)
  intro hc' hW
  dsimp only
  have W := hW 0 (by omega)
  have W' := hW 1 (by omega)
  rw [Nat.sub_zero] at W
  rw [show dp M - 1 - 1 = dp M - 2 by omega] at W'
  rw [eD, eD2, cl, cl2]
  refine ⟨hin2, hin, ar_c (wd_impl C.1 W W') (fun h => ?_) (fun h => ?_)⟩
  · refine br_t n1 (rl_find C ?_)
    intro ps' ss' ro' qs' hV hκ
    refine cq_impl m C.1 _ _ (rl_I C hst hV hκ 0 (by omega)) (rl_I C hst hV hκ 1 (by omega)) (fun _ tr' => ⟨rfl, rl_mk C hst _ _ _ _ _ _ _⟩) (fun ⟨j, hj, ha, hb⟩ => ?_) tr
    rw [h j hj ha] at hb
    cases hb
  · refine br_t n1 (rl_find C ?_)
    intro ps' ss' ro' qs' hV hκ
    exact cq_impl m C.1 _ _ (rl_I C hst hV hκ 0 (by omega)) (rl_I C hst hV hκ 1 (by omega)) (fun h' => absurd h' h) (fun _ tr' => ⟨rfl, rl_mk C hst _ _ _ _ _ _ _⟩) tr
