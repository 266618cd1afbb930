/-! the reference judges the formulas on a cell -/
theorem yj_n0 : vp_nar .boolean 0 = bi_n false := by decide
theorem yj_n1 : vp_nar .boolean 1 = bi_n true := by decide
theorem yj_nn (b : Bool) : narrow .boolean (.int (bi_n b)) = .int (bi_n b) := by cases b <;> rfl
theorem yj_judge {post : SY → Prop} {f_depth : Int32} {a_as a_bs a_cs : Nat → Int32} {a_ps a_ss a_roots a_qs : Nat → Int64} {a_sorts a_ones a_twos a_stack a_truth sk sp st : Nat → Int32}
    (m : Nat) (hm : m ≤ 8) (κ : Nat → Int) (hS : mk_S κ m) (hz : ∀ k, k < 4 → ∀ z, xz_P a_as a_bs a_cs k z → ∃ i, i < m ∧ κ i = z)
    (hV : ym_V a_ps a_ss a_roots a_qs m) (hκ : ∀ i, i < m → ym_k a_ps a_ss a_roots a_qs i = κ i) (hB : xz_B a_as a_bs a_cs)
    (M : Nat) (hM16 : M ≤ 16) (dp : Nat → Nat) (sx : Nat → Nat → Nat) (R : st_R M dp sx sk sp st a_sorts a_ones a_twos) (T : Nat → Nat → Bool)
    (hT : ∀ c i, T c i = st_T sk dp sx (st_W κ m a_as a_bs a_cs sp st c) i)
    (c : Nat) (hc : c ≤ 2 * m)
    (hp : ∀ tr, (∀ f, f < M → tr f = bi_n (T c f)) → post (nI m, nI M, f_depth, a_as, a_bs, a_cs, a_ps, a_ss, a_roots, a_qs, a_sorts, a_ones, a_twos, a_stack, tr)) :
    wpY_judge post (nI m, nI M, f_depth, a_as, a_bs, a_cs, a_ps, a_ss, a_roots, a_qs, a_sorts, a_ones, a_twos, a_stack, a_truth) (nI c) := by
  have lt := st_lt R
  have main : ∀ d i, i + d = M → ∀ tr, (∀ f, f < i → tr f = bi_n (T c f)) →
      wY_judge_2 post (nI c) (nI m) (nI M) f_depth (d + 1) (nI i) a_as a_bs a_cs a_ps a_ss a_roots a_qs a_sorts a_ones a_twos a_stack tr := by
    intro d
    induction d with
    | zero =>
      intro i hi tr htr
      have : i = M := by omega
      subst this
      exact br_t (nI_le (Nat.le_refl i) (by omega)) (hp tr htr)
    | succ d ih =>
      intro i hi tr htr
      have iM : i < M := by omega
      obtain ⟨l1, l2⟩ := lt i (by omega)
      have hin : vp_in (nI i) 16 := vp_in_nI (by omega) (by decide)
      have cl : (nI i).toNatClampNeg = i := nI_clamp (by omega)
      have put : ∀ b : Bool, T c i = b → ∀ tr', tr' = upd tr i (bi_n b) → wY_judge_2 post (nI c) (nI m) (nI M) f_depth (d + 1) (nI (i + 1)) a_as a_bs a_cs a_ps a_ss a_roots a_qs a_sorts a_ones a_twos a_stack tr' := by
        intro b hb tr' e
        subst e
        refine ih (i + 1) (by omega) _ ?_
        intro f hf
        by_cases z : f = i
        · subst z
          rw [pk_us, hb]
        · rw [pk_un z]; exact htr f (by omega)
      have w1 : T c i = true → ∀ tr', tr' = upd tr i (vp_nar .boolean 1) → ∀ x, x = nI i + 1 → wY_judge_2 post (nI c) (nI m) (nI M) f_depth (d + 1) x a_as a_bs a_cs a_ps a_ss a_roots a_qs a_sorts a_ones a_twos a_stack tr' := by
        intro h tr' e x ex
        rw [ex, nI_1]
        exact put true h tr' (by rw [e, yj_n1])
      have w0 : T c i = false → ∀ tr', tr' = upd tr i (vp_nar .boolean 0) → ∀ x, x = nI i + 1 → wY_judge_2 post (nI c) (nI m) (nI M) f_depth (d + 1) x a_as a_bs a_cs a_ps a_ss a_roots a_qs a_sorts a_ones a_twos a_stack tr' := by
        intro h tr' e x ex
        rw [ex, nI_1]
        exact put false h tr' (by rw [e, yj_n0])
      refine br_f (nI_ge iM (by omega)) ⟨hin, ?_⟩
      rw [cl]
      rcases R.2 i iM with ⟨k0, s0, d', lo, tp, ⟨k, hk, ek, eo⟩, et⟩ | ⟨k1, s1, g, d', lo, tp, eo⟩ | ⟨k2, s2, g, d', lo, tp, eo, et⟩
      · refine br_t s0 ⟨hin, ?_⟩
        rw [eo]
        refine yo_on m hm κ hS hz hV hκ hB k hk c hc ?_
        have sb := mk_sig_b κ m (a_as k).toInt (a_bs k).toInt (a_cs k).toInt c
        obtain ⟨b1, b2⟩ := st_b1 sb
        have ht := hT c i
        rw [st_T0 k0] at ht
        unfold st_W at ht
        rw [ek, nI_clamp (by omega)] at ht
        rw [b1, bi_one _ _ (by omega), et, ← ht]
        refine ⟨hin, ar_c (bi_eq1 _) (fun h => ⟨hin, w1 h⟩) (fun h => ⟨hin, w0 (by simpa using h)⟩)⟩
      · have n1 := l2 (dp i - 1) (by omega)
        have ht := hT c i
        rw [st_T1 k1 n1, ← hT] at ht
        have hi1 : vp_in (nI (sx i (dp i - 1))) 16 := vp_in_nI (by omega) (by decide)
        have cl1 : (nI (sx i (dp i - 1))).toNatClampNeg = sx i (dp i - 1) := nI_clamp (by omega)
        refine br_f (by rw [s1]; decide) ⟨hin, br_t s1 ⟨hin, ?_⟩⟩
        rw [eo, cl1, htr _ n1]
        refine ⟨hi1, ar_c (bi_eq0 _) (fun h => ⟨hin, w1 (by rw [ht, h]; rfl)⟩) (fun h => ⟨hin, w0 ?_⟩)⟩
        rw [ht]
        simpa using h
      · have n1 := l2 (dp i - 1) (by omega)
        have n2 := l2 (dp i - 2) (by omega)
        have hi1 : vp_in (nI (sx i (dp i - 1))) 16 := vp_in_nI (by omega) (by decide)
        have cl1 : (nI (sx i (dp i - 1))).toNatClampNeg = sx i (dp i - 1) := nI_clamp (by omega)
        have hi2 : vp_in (nI (sx i (dp i - 2))) 16 := vp_in_nI (by omega) (by decide)
        have cl2 : (nI (sx i (dp i - 2))).toNatClampNeg = sx i (dp i - 2) := nI_clamp (by omega)
        have ht := hT c i
        rw [eo, et, cl1, cl2, htr _ n1, htr _ n2, s2]
        rcases k2 with k2 | k2
        · rw [st_T2 k2 n1 n2, ← hT, ← hT] at ht
          refine br_f (by rw [k2]; decide) ⟨hin, br_f (by rw [k2]; decide) ⟨hin, br_t k2 ⟨hin, hi2, ?_⟩⟩⟩
          refine ar_c (bi_eq0 _) (fun h => ⟨hin, w0 (by rw [ht, h]; rfl)⟩) (fun h => ⟨hin, hi1, ?_⟩)
          refine ar_c (bi_eq0 _) (fun h' => ⟨hin, w0 (by rw [ht, h']; simp)⟩) (fun h' => ⟨hin, w1 ?_⟩)
          rw [ht]
          simp at h h' ⊢
          exact ⟨h, h'⟩
        · rw [st_T3 k2 n1 n2, ← hT, ← hT] at ht
          refine br_f (by rw [k2]; decide) ⟨hin, br_f (by rw [k2]; decide) ⟨hin, br_f (by rw [k2]; decide) ⟨hin, hi2, ?_⟩⟩⟩
          refine ar_c (bi_eq0 _) (fun h => ⟨hin, hi1, ?_⟩) (fun h => ⟨hin, w1 ?_⟩)
          · refine ar_c (bi_eq0 _) (fun h' => ⟨hin, w0 (by rw [ht, h, h']; rfl)⟩) (fun h' => ⟨hin, w1 ?_⟩)
            rw [ht]
            simp at h' ⊢
            exact Or.inr h'
          · rw [ht]
            simp at h ⊢
            exact Or.inl h
  exact ⟨_, main M 0 (by omega) a_truth (fun f hf => by omega)⟩
theorem yj_true {post : Int32 → SY → Prop} {a_as a_bs a_cs : Nat → Int32} {a_ps a_ss a_roots a_qs : Nat → Int64} {a_sorts a_ones a_twos a_stack a_truth sk sp st : Nat → Int32}
    (m : Nat) (hm : m ≤ 8) (κ : Nat → Int) (hS : mk_S κ m) (hz : ∀ k, k < 4 → ∀ z, xz_P a_as a_bs a_cs k z → ∃ i, i < m ∧ κ i = z)
    (hV : ym_V a_ps a_ss a_roots a_qs m) (hκ : ∀ i, i < m → ym_k a_ps a_ss a_roots a_qs i = κ i) (hB : xz_B a_as a_bs a_cs)
    (M : Nat) (hM16 : M ≤ 16) (dp : Nat → Nat) (sx : Nat → Nat → Nat) (R : st_R M dp sx sk sp st a_sorts a_ones a_twos) (T : Nat → Nat → Bool)
    (hT : ∀ c i, T c i = st_T sk dp sx (st_W κ m a_as a_bs a_cs sp st c) i) (hst : ∀ p, p < dp M → a_stack p = nI (sx M p))
    (b : Nat) (hb : b < dp M) (c : Nat) (hc : c ≤ 2 * m)
    (hp : ∀ tr, post (bi_n (T c (sx M (dp M - 1 - b)))) (nI m, nI M, nI (dp M), a_as, a_bs, a_cs, a_ps, a_ss, a_roots, a_qs, a_sorts, a_ones, a_twos, a_stack, tr)) :
    wpY_isTrue post (nI m, nI M, nI (dp M), a_as, a_bs, a_cs, a_ps, a_ss, a_roots, a_qs, a_sorts, a_ones, a_twos, a_stack, a_truth) (nI b) (nI c) := by
  obtain ⟨l1, l2⟩ := st_lt R M (Nat.le_refl M)
  unfold wpY_isTrue
  dsimp only
  refine yj_judge m hm κ hS hz hV hκ hB M hM16 dp sx R T hT c hc ?_
  intro tr htr
  have e : (nI (dp M) - 1) - nI b = nI (dp M - 1 - b) := by
    rw [show (nI (dp M) - 1) = nI (dp M - 1) from pk_sub (b := 1) (by omega), pk_sub (by omega)]
  have i1 : vp_in (nI (dp M - 1 - b)) 16 := vp_in_nI (by omega) (by decide)
  have c1 : (nI (dp M - 1 - b)).toNatClampNeg = dp M - 1 - b := nI_clamp (by omega)
  have n1 := l2 (dp M - 1 - b) (by omega)
  have i2 : vp_in (nI (sx M (dp M - 1 - b))) 16 := vp_in_nI (by omega) (by decide)
  have c2 : (nI (sx M (dp M - 1 - b))).toNatClampNeg = sx M (dp M - 1 - b) := nI_clamp (by omega)
  dsimp only
  rw [e, c1, hst _ (by omega), c2, htr _ n1]
  exact ⟨i1, i2, yj_nn _, hp tr⟩
