/-! condition, not, join, discard -/
theorem rl_push {k m M : Nat} {dp : Nat → Nat} {sx : Nat → Nat → Nat} {sq li co mw ms mu mb mz sk sp st so on tw stk sk' sp' st' so' on' tw' stk' : Nat → Int32} (C : rl_C m M dp sx sq li co mw ms mu mb mz sk sp st so on tw)
    (hst : ∀ p, p < dp M → stk p = nI (sx M p)) (hM : M < 16)
    (e1 : ∀ i, i < M → sk' i = sk i) (e2 : ∀ i, i < M → sp' i = sp i) (e3 : ∀ i, i < M → st' i = st i) (e4 : ∀ i, i < M → so' i = so i) (e5 : ∀ i, i < M → on' i = on i) (e6 : ∀ i, i < M → tw' i = tw i)
    (n' : Nat) (hn : 1 ≤ n') (e7 : ∀ p, p < n' - 1 → stk' p = stk p) (e8 : stk' (n' - 1) = nI M)
    (hs : (sk' M = 0 ∧ so' M = 0 ∧ n' = dp M + 1 ∧ (∃ k, k < 4 ∧ sp' M = nI k ∧ on' M = nI k) ∧ tw' M = st' M) ∨
      (sk' M = 1 ∧ so' M = 1 ∧ 1 ≤ dp M ∧ n' = dp M ∧ on' M = nI (sx M (dp M - 1))) ∨
      ((sk' M = 2 ∨ sk' M = 3) ∧ so' M = sk' M ∧ 2 ≤ dp M ∧ n' = dp M - 1 ∧ on' M = nI (sx M (dp M - 2)) ∧ tw' M = nI (sx M (dp M - 1))))
    (hc tr : Nat → Int32) (fm : Int32) (ps ss ro qs : Nat → Int64) :
    i_Rel k (nI m, nI (M + 1), nI n', sq, li, co, mw, ms, mu, mb, mz, sk', sp', st', hc) (fm, nI (M + 1), nI n', sq, li, co, ps, ss, ro, qs, so', on', tw', stk', tr) := by
  obtain ⟨c1, c2, c3, c4, c5⟩ := C
  let dp' : Nat → Nat := fun i => if i = M + 1 then n' else dp i
  let sx' : Nat → Nat → Nat := fun i => if i = M + 1 then (fun p => if p = n' - 1 then M else sx M p) else sx i
  have d1 : ∀ i, i ≤ M → dp' i = dp i := fun i hi => if_neg (by omega)
  have d2 : dp' (M + 1) = n' := if_pos rfl
  have x1 : ∀ i, i ≤ M → sx' i = sx i := fun i hi => if_neg (by omega)
  have x2 : ∀ p, p < n' - 1 → sx' (M + 1) p = sx M p := by
    intro p hp
    have : sx' (M + 1) = fun p => if p = n' - 1 then M else sx M p := if_pos rfl
    rw [this]
    exact if_neg (by omega)
  have x3 : sx' (M + 1) (n' - 1) = M := by
    have : sx' (M + 1) = fun p => if p = n' - 1 then M else sx M p := if_pos rfl
    rw [this]
    exact if_pos rfl
  have R' : st_R (M + 1) dp' sx' sk' sp' st' so' on' tw' := by
    refine ⟨by rw [d1 0 (by omega)]; exact c5.1, ?_⟩
    intro i hi
    unfold st_1
    by_cases e : i = M
    · subst e
      rw [d1 i (by omega), d2, x1 i (by omega)]
      rcases hs with ⟨a, b, c, d, f⟩ | ⟨a, b, c, d, f⟩ | ⟨a, b, c, d, f, g⟩
      · left
        refine ⟨a, b, c, fun p hp => x2 p (by omega), ?_, d, f⟩
        rw [show dp i = n' - 1 by omega]; exact x3
      · right; left
        refine ⟨a, b, c, d, fun p hp => x2 p (by omega), ?_, f⟩
        rw [show dp i - 1 = n' - 1 by omega]; exact x3
      · right; right
        refine ⟨a, b, c, d, fun p hp => x2 p (by omega), ?_, f, g⟩
        rw [show dp i - 2 = n' - 1 by omega]; exact x3
    · have iM : i < M := by omega
      have := c5.2 i iM
      unfold st_1 at this
      rw [d1 i (by omega), d1 (i + 1) (by omega), x1 i (by omega), x1 (i + 1) (by omega), e1 i iM, e2 i iM, e3 i iM, e4 i iM, e5 i iM, e6 i iM]
      exact this
  have := rl_mk (k := k) (m := m) (M := M + 1) (stk := stk') ⟨c1, by omega, c3, c4, R'⟩ ?_ hc tr fm ps ss ro qs
  · rw [d2] at this
    exact this
  · intro p hp
    rw [d2] at hp
    rcases Nat.lt_or_ge p (n' - 1) with t | t
    · rw [e7 p t, x2 p t]
      refine hst p ?_
      rcases hs with ⟨_, _, c, _⟩ | ⟨_, _, _, d, _⟩ | ⟨_, _, _, d, _⟩ <;> omega
    · rw [show p = n' - 1 by omega, e8, x3]
theorem i_vc_condition {k : Nat} {u : SX} {v : SY} (I : i_Rel k u v) (hk : k + 5 ≤ 2560) (v1 : Int32) (v2 : Int32) : wpX_condition (fun r u' => wpY_condition (fun r' v' => r' = r ∧ i_Rel (k + 5) u' v') v v1 v2) u v1 v2 := by
  have I' : i_Rel (k + 5) u v := i_up I
  obtain ⟨m, M, dp, sx, sq, li, co, mw, ms, mu, mb, mz, sk, sp, st, hc, so, on, tw, stk, tr, fm, ps, ss, ro, qs, rfl, rfl, C, hst⟩ := I
  have hM16 := C.2.1
  have hD := (st_lt C.2.2.2.2 M (Nat.le_refl M)).1
  unfold wpX_condition wpY_condition
  dsimp only
  rcases rg_poly v1 with ⟨j, hj, rfl, xa, ya⟩ | ⟨xa, ya⟩
  rotate_left
  · exact xa _ (br_t rfl (ya _ _ (br_f (by decide) ⟨rfl, I'⟩)))
  refine xa _ (br_f (by decide) ?_)
  by_cases h0 : v2 < 0
  · exact br_t h0 (ya _ _ (br_t rfl (br_t h0 ⟨rfl, I'⟩)))
  refine br_f h0 ?_
  by_cases h7 : v2 ≤ 7
  rotate_left
  · exact br_f h7 (ya _ _ (br_t rfl (br_f h0 (br_f h7 ⟨rfl, I'⟩))))
  refine br_t h7 ?_
  by_cases h16 : M < 16
  rotate_left
  · have e : M = 16 := by omega
    refine br_f (nI_nlt (b := 16) (by omega) (by omega)) ?_
    exact ya _ _ (br_t rfl (br_f h0 (br_t h7 (br_t (by rw [e]; rfl) ⟨rfl, I'⟩))))
  refine br_t (nI_lt (b := 16) h16 (by decide)) ?_
  have hin : vp_in (nI M) 16 := vp_in_nI h16 (by decide)
  have cl : (nI M).toNatClampNeg = M := nI_clamp (by omega)
  have hin2 : vp_in (nI (dp M)) 16 := vp_in_nI (by omega) (by decide)
  have cl2 : (nI (dp M)).toNatClampNeg = dp M := nI_clamp (by omega)
  rw [cl]
  refine ⟨hin, nm_e ⟨hin, nm_e ⟨hin, nm_e (nm_r (nI_1 M) (nm_r (nI_1 (dp M)) ?_))⟩⟩⟩
  refine ya _ _ (br_t rfl (br_f h0 (br_t h7 (br_f (fun z => by have := (nI_eq (b := 16) (by omega) (by decide)).mp z; omega) ?_))))
  unfold wpY_make
  dsimp only
  rw [cl, cl2]
  refine ⟨hin, nm_e ⟨hin, nm_e ⟨hin, nm_e ⟨hin2, nm_e (nm_r (nI_1 (dp M)) (nm_r (nI_1 M) ⟨rfl, ?_⟩))⟩⟩⟩⟩
  refine rl_push C hst h16 (fun i hi => pk_un (by omega)) (fun i hi => pk_un (by omega)) (fun i hi => pk_un (by omega)) (fun i hi => pk_un (by omega)) (fun i hi => pk_un (by omega)) (fun i hi => pk_un (by omega)) (dp M + 1) (by omega) (fun p hp => pk_un (by omega)) pk_us ?_ _ _ _ _ _ _ _
  left
  refine ⟨pk_us, pk_us, rfl, ⟨j, hj, pk_us, pk_us⟩, ?_⟩
  rw [pk_us, pk_us]
theorem i_vc_not {k : Nat} {u : SX} {v : SY} (I : i_Rel k u v) (hk : k + 5 ≤ 2560) : wpX_not (fun r u' => wpY_not (fun r' v' => r' = r ∧ i_Rel (k + 5) u' v') v) u := by
  have I' : i_Rel (k + 5) u v := i_up I
  obtain ⟨m, M, dp, sx, sq, li, co, mw, ms, mu, mb, mz, sk, sp, st, hc, so, on, tw, stk, tr, fm, ps, ss, ro, qs, rfl, rfl, C, hst⟩ := I
  have hM16 := C.2.1
  have hD := (st_lt C.2.2.2.2 M (Nat.le_refl M)).1
  unfold wpX_not wpY_not
  dsimp only
  by_cases h16 : M < 16
  rotate_left
  · have e : M = 16 := by omega
    exact br_f (nI_nlt (b := 16) (by omega) (by omega)) (br_t (by rw [e]; rfl) ⟨rfl, I'⟩)
  have nM : ¬ nI M = 16 := fun z => by have := (nI_eq (b := 16) (by omega) (by decide)).mp z; omega
  refine br_t (nI_lt (b := 16) h16 (by decide)) ?_
  by_cases h1 : 1 ≤ dp M
  rotate_left
  · have n1 : ¬ (1 : Int32) ≤ nI (dp M) := nI_ge (b := 1) (by omega) (by decide)
    exact br_f n1 (br_f nM (br_f n1 ⟨rfl, I'⟩))
  have n1 : (1 : Int32) ≤ nI (dp M) := nI_le (a := 1) h1 (by omega)
  have hin : vp_in (nI M) 16 := vp_in_nI h16 (by decide)
  have cl : (nI M).toNatClampNeg = M := nI_clamp (by omega)
  have hin2 : vp_in (nI (dp M - 1)) 16 := vp_in_nI (by omega) (by decide)
  have cl2 : (nI (dp M - 1)).toNatClampNeg = dp M - 1 := nI_clamp (by omega)
  have eD : nI (dp M) - 1 = nI (dp M - 1) := pk_sub (b := 1) (by omega)
  rw [cl]
  refine br_t n1 ⟨hin, nm_e (nm_r (nI_1 M) ?_)⟩
  refine br_f nM (br_t n1 (nm_r eD ⟨hin2, ?_⟩))
  unfold wpY_make
  dsimp only
  rw [cl, cl2]
  have eU : nI (dp M - 1) + 1 = nI (dp M) := by rw [nI_1, Nat.sub_add_cancel h1]
  refine ⟨hin, nm_e ⟨hin, nm_e ⟨hin, nm_e ⟨hin2, nm_e (nm_r eU (nm_r (nI_1 M) ⟨rfl, ?_⟩))⟩⟩⟩⟩
  refine rl_push C hst h16 (fun i hi => pk_un (by omega)) (fun i hi => rfl) (fun i hi => rfl) (fun i hi => pk_un (by omega)) (fun i hi => pk_un (by omega)) (fun i hi => pk_un (by omega)) (dp M) h1 (fun p hp => pk_un (by omega)) pk_us ?_ _ _ _ _ _ _ _
  right; left
  refine ⟨pk_us, pk_us, h1, rfl, ?_⟩
  rw [pk_us]
  exact hst _ (by omega)
theorem i_vc_join {k : Nat} {u : SX} {v : SY} (I : i_Rel k u v) (hk : k + 5 ≤ 2560) (v1 : Int32) : wpX_join (fun r u' => wpY_join (fun r' v' => r' = r ∧ i_Rel (k + 5) u' v') v v1) u v1 := by
  have I' : i_Rel (k + 5) u v := i_up I
  obtain ⟨m, M, dp, sx, sq, li, co, mw, ms, mu, mb, mz, sk, sp, st, hc, so, on, tw, stk, tr, fm, ps, ss, ro, qs, rfl, rfl, C, hst⟩ := I
  have hM16 := C.2.1
  have hD := (st_lt C.2.2.2.2 M (Nat.le_refl M)).1
  have main : ∀ (w z : Int32), (w = 2 ∨ w = 3) → (2 : Int32) + v1 = w → ¬ v1 < 0 → v1 ≤ 1 → (z = w) → 
      ((nI M < 16 → ((2 ≤ nI (dp M) → wX_join_55 (fun r u' => wpY_join (fun r' v' => r' = r ∧ i_Rel (k + 5) u' v') (fm, nI M, nI (dp M), sq, li, co, ps, ss, ro, qs, so, on, tw, stk, tr) v1) z (nI M) (nI m) (nI M) (nI (dp M)) sq li co mw ms mu mb mz sk sp st hc))) ) := by
    intro w z hw e2 h0 h1 ez hlt h2
    subst ez
    have h16 : M < 16 := (nI_ltI (b := 16) (by omega) (by decide)).mp hlt
    have h2' : 2 ≤ dp M := (nI_leI (a := 2) (by decide) (by omega)).mp h2
    have nM : ¬ nI M = 16 := fun z => by have := (nI_eq (b := 16) (by omega) (by decide)).mp z; omega
    have hin : vp_in (nI M) 16 := vp_in_nI h16 (by decide)
    have cl : (nI M).toNatClampNeg = M := nI_clamp (by omega)
    have hin2 : vp_in (nI (dp M - 2)) 16 := vp_in_nI (by omega) (by decide)
    have cl2 : (nI (dp M - 2)).toNatClampNeg = dp M - 2 := nI_clamp (by omega)
    have hin3 : vp_in (nI (dp M - 1)) 16 := vp_in_nI (by omega) (by decide)
    have cl3 : (nI (dp M - 1)).toNatClampNeg = dp M - 1 := nI_clamp (by omega)
    have eD : nI (dp M) - 1 = nI (dp M - 1) := pk_sub (b := 1) (by omega)
    have eD2 : nI (dp M) - 2 = nI (dp M - 2) := pk_sub (b := 2) (by omega)
    have eU : nI (dp M - 2) + 1 = nI (dp M - 1) := by rw [nI_1, show dp M - 2 + 1 = dp M - 1 by omega]
    unfold wX_join_55
    rw [cl]
    refine ⟨hin, nm_e (nm_r (nI_1 M) (nm_r eD ?_))⟩
    unfold wpY_join
    dsimp only
    refine br_f h0 (br_t h1 (br_f nM (br_t h2 (nm_r eD2 ⟨hin2, ?_⟩))))
    unfold wpY_make
    dsimp only
    rw [eU, cl, cl2, cl3, e2]
    refine ⟨hin3, hin, nm_e ⟨hin, nm_e ⟨hin, nm_e ⟨hin2, nm_e (nm_e (nm_r (nI_1 M) ⟨rfl, ?_⟩))⟩⟩⟩⟩
    refine rl_push C hst h16 (fun i hi => pk_un (by omega)) (fun i hi => rfl) (fun i hi => rfl) (fun i hi => pk_un (by omega)) (fun i hi => pk_un (by omega)) (fun i hi => pk_un (by omega)) (dp M - 1) (by omega) (fun p hp => pk_un (by omega)) ?_ ?_ _ _ _ _ _ _ _
    · rw [show dp M - 1 - 1 = dp M - 2 by omega]; exact pk_us
    · right; right
      rw [pk_us, pk_us, pk_us, pk_us]
      exact ⟨hw, rfl, h2', rfl, hst _ (by omega), hst _ (by omega)⟩
  have full : ¬ nI M < 16 → ¬ v1 < 0 → v1 ≤ 1 → wpY_join (fun r' v' => r' = (-1001) ∧ i_Rel (k + 5) (nI m, nI M, nI (dp M), sq, li, co, mw, ms, mu, mb, mz, sk, sp, st, hc) v') (fm, nI M, nI (dp M), sq, li, co, ps, ss, ro, qs, so, on, tw, stk, tr) v1 := by
    intro h h0 h1
    have e : M = 16 := by
      apply Classical.byContradiction
      intro z
      exact h (nI_lt (b := 16) (by omega) (by decide))
    unfold wpY_join
    dsimp only
    exact br_f h0 (br_t h1 (br_t (by rw [e]; rfl) ⟨rfl, I'⟩))
  have few : nI M < 16 → ¬ (2 : Int32) ≤ nI (dp M) → ¬ v1 < 0 → v1 ≤ 1 → wpY_join (fun r' v' => r' = (-1002) ∧ i_Rel (k + 5) (nI m, nI M, nI (dp M), sq, li, co, mw, ms, mu, mb, mz, sk, sp, st, hc) v') (fm, nI M, nI (dp M), sq, li, co, ps, ss, ro, qs, so, on, tw, stk, tr) v1 := by
    intro h h2 h0 h1
    have h16 : M < 16 := (nI_ltI (b := 16) (by omega) (by decide)).mp h
    have nM : ¬ nI M = 16 := fun z => by have := (nI_eq (b := 16) (by omega) (by decide)).mp z; omega
    unfold wpY_join
    dsimp only
    exact br_f h0 (br_t h1 (br_f nM (br_f h2 ⟨rfl, I'⟩)))
  unfold wpX_join
  dsimp only
  refine br_c (fun e => ?_) (fun e => br_c (fun e' => ?_) (fun e' => ?_))
  · have h0 : ¬ v1 < 0 := by rw [e]; decide
    have h1 : v1 ≤ 1 := by rw [e]; decide
    unfold wX_join_13
    refine br_c (fun h => br_c (fun h2 => br_t e (main 2 2 (Or.inl rfl) (by rw [e]; rfl) h0 h1 rfl h h2)) (fun h2 => few h h2 h0 h1)) (fun h => full h h0 h1)
  · have h0 : ¬ v1 < 0 := by rw [e']; decide
    have h1 : v1 ≤ 1 := by rw [e']; decide
    unfold wX_join_13
    refine br_c (fun h => br_c (fun h2 => br_f e (main 3 3 (Or.inr rfl) (by rw [e']; rfl) h0 h1 rfl h h2)) (fun h2 => few h h2 h0 h1)) (fun h => full h h0 h1)
  · unfold wpY_join
    dsimp only
    refine br_c (fun _ => ⟨rfl, I'⟩) (fun h0 => br_c (fun h1 => ?_) (fun _ => ⟨rfl, I'⟩))
    obtain ⟨j, hj, rfl⟩ := nI_of h0
    have : j ≤ 1 := (nI_leI (b := 1) hj (by decide)).mp h1
    have : j = 0 ∨ j = 1 := by omega
    rcases this with z | z
    · exact absurd (by rw [z]; rfl) e
    · exact absurd (by rw [z]; rfl) e'
theorem i_vc_discard {k : Nat} {u : SX} {v : SY} (I : i_Rel k u v) (hk : k + 5 ≤ 2560) : wpX_discard (fun r u' => wpY_discard (fun r' v' => r' = r ∧ i_Rel (k + 5) u' v') v) u := by
  obtain ⟨m, M, dp, sx, sq, li, co, mw, ms, mu, mb, mz, sk, sp, st, hc, so, on, tw, stk, tr, fm, ps, ss, ro, qs, rfl, rfl, C, hst⟩ := I
  unfold wpX_discard wpY_discard
  dsimp only
  obtain ⟨c1, c2, c3, c4, c5⟩ := C
  refine ⟨rfl, ?_⟩
  have := rl_mk (k := k + 5) (m := m) (M := 0) (dp := fun _ => 0) (sx := fun _ _ => 0) (sk := sk) (sp := sp) (st := st) (so := so) (on := on) (tw := tw) (stk := stk) ⟨c1, by omega, c3, c4, rfl, fun i hi => by omega⟩ (fun p hp => absurd hp (Nat.not_lt_zero p)) hc tr fm ps ss ro qs
  exact this
