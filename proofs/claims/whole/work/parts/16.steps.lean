/-! the formulas as steps, and what they say -/
def st_1 (dp : Nat → Nat) (sx : Nat → Nat → Nat) (sk sp st so on tw : Nat → Int32) (i : Nat) : Prop :=
  (sk i = 0 ∧ so i = 0 ∧ dp (i + 1) = dp i + 1 ∧ (∀ p, p < dp i → sx (i + 1) p = sx i p) ∧ sx (i + 1) (dp i) = i ∧ (∃ k, k < 4 ∧ sp i = nI k ∧ on i = nI k) ∧ tw i = st i) ∨
  (sk i = 1 ∧ so i = 1 ∧ 1 ≤ dp i ∧ dp (i + 1) = dp i ∧ (∀ p, p < dp i - 1 → sx (i + 1) p = sx i p) ∧ sx (i + 1) (dp i - 1) = i ∧ on i = nI (sx i (dp i - 1))) ∨
  ((sk i = 2 ∨ sk i = 3) ∧ so i = sk i ∧ 2 ≤ dp i ∧ dp (i + 1) = dp i - 1 ∧ (∀ p, p < dp i - 2 → sx (i + 1) p = sx i p) ∧ sx (i + 1) (dp i - 2) = i ∧ on i = nI (sx i (dp i - 2)) ∧ tw i = nI (sx i (dp i - 1)))
def st_R (M : Nat) (dp : Nat → Nat) (sx : Nat → Nat → Nat) (sk sp st so on tw : Nat → Int32) : Prop :=
  dp 0 = 0 ∧ ∀ i, i < M → st_1 dp sx sk sp st so on tw i
theorem st_lt {M : Nat} {dp : Nat → Nat} {sx : Nat → Nat → Nat} {sk sp st so on tw : Nat → Int32} (R : st_R M dp sx sk sp st so on tw) :
    ∀ i, i ≤ M → dp i ≤ i ∧ ∀ p, p < dp i → sx i p < i := by
  intro i
  induction i with
  | zero =>
    intro _
    have := R.1
    exact ⟨by omega, fun p hp => by omega⟩
  | succ i ih =>
    intro hi
    obtain ⟨h1, h2⟩ := ih (by omega)
    rcases R.2 i (by omega) with ⟨_, _, d, lo, tp, _⟩ | ⟨_, _, g, d, lo, tp, _⟩ | ⟨_, _, g, d, lo, tp, _⟩
    · refine ⟨by omega, fun p hp => ?_⟩
      rcases Nat.lt_or_ge p (dp i) with t | t
      · rw [lo p t]; have := h2 p t; omega
      · rw [show p = dp i by omega, tp]; omega
    · refine ⟨by omega, fun p hp => ?_⟩
      rcases Nat.lt_or_ge p (dp i - 1) with t | t
      · rw [lo p t]; have := h2 p (by omega); omega
      · rw [show p = dp i - 1 by omega, tp]; omega
    · refine ⟨by omega, fun p hp => ?_⟩
      rcases Nat.lt_or_ge p (dp i - 2) with t | t
      · rw [lo p t]; have := h2 p (by omega); omega
      · rw [show p = dp i - 2 by omega, tp]; omega
def st_v (sk : Nat → Int32) (dp : Nat → Nat) (sx : Nat → Nat → Nat) (W : Nat → Bool) (t : Nat → Bool) (i : Nat) : Bool :=
  if sk i = 0 then W i else if sk i = 1 then !(t (sx i (dp i - 1))) else if sk i = 2 then (t (sx i (dp i - 2)) && t (sx i (dp i - 1))) else (t (sx i (dp i - 2)) || t (sx i (dp i - 1)))
def st_tt (sk : Nat → Int32) (dp : Nat → Nat) (sx : Nat → Nat → Nat) (W : Nat → Bool) : Nat → Nat → Bool
  | 0 => fun _ => false
  | n + 1 => fun j => if j = n then st_v sk dp sx W (st_tt sk dp sx W n) n else st_tt sk dp sx W n j
def st_T (sk : Nat → Int32) (dp : Nat → Nat) (sx : Nat → Nat → Nat) (W : Nat → Bool) (j : Nat) : Bool := st_tt sk dp sx W (j + 1) j
theorem st_T_st {sk : Nat → Int32} {dp : Nat → Nat} {sx : Nat → Nat → Nat} {W : Nat → Bool} {j : Nat} : ∀ n, j < n → st_tt sk dp sx W n j = st_T sk dp sx W j := by
  intro n
  induction n with
  | zero => intro h; omega
  | succ n ih =>
    intro h
    by_cases e : j = n
    · subst e; rfl
    · show (if j = n then _ else st_tt sk dp sx W n j) = _
      rw [if_neg e]
      exact ih (by omega)
theorem st_T_v {sk : Nat → Int32} {dp : Nat → Nat} {sx : Nat → Nat → Nat} {W : Nat → Bool} {i : Nat} : st_T sk dp sx W i = st_v sk dp sx W (st_tt sk dp sx W i) i := if_pos rfl
theorem st_T0 {sk : Nat → Int32} {dp : Nat → Nat} {sx : Nat → Nat → Nat} {W : Nat → Bool} {i : Nat} (h : sk i = 0) : st_T sk dp sx W i = W i := by
  rw [st_T_v]
  unfold st_v
  rw [if_pos h]
theorem st_T1 {sk : Nat → Int32} {dp : Nat → Nat} {sx : Nat → Nat → Nat} {W : Nat → Bool} {i : Nat} (h : sk i = 1) (h1 : sx i (dp i - 1) < i) :
    st_T sk dp sx W i = !(st_T sk dp sx W (sx i (dp i - 1))) := by
  rw [st_T_v]
  unfold st_v
  rw [if_neg (by rw [h]; decide), if_pos h, st_T_st i h1]
theorem st_T2 {sk : Nat → Int32} {dp : Nat → Nat} {sx : Nat → Nat → Nat} {W : Nat → Bool} {i : Nat} (h : sk i = 2) (h1 : sx i (dp i - 1) < i) (h2 : sx i (dp i - 2) < i) :
    st_T sk dp sx W i = (st_T sk dp sx W (sx i (dp i - 2)) && st_T sk dp sx W (sx i (dp i - 1))) := by
  rw [st_T_v]
  unfold st_v
  rw [if_neg (by rw [h]; decide), if_neg (by rw [h]; decide), if_pos h, st_T_st i h1, st_T_st i h2]
theorem st_T3 {sk : Nat → Int32} {dp : Nat → Nat} {sx : Nat → Nat → Nat} {W : Nat → Bool} {i : Nat} (h : sk i = 3) (h1 : sx i (dp i - 1) < i) (h2 : sx i (dp i - 2) < i) :
    st_T sk dp sx W i = (st_T sk dp sx W (sx i (dp i - 2)) || st_T sk dp sx W (sx i (dp i - 1))) := by
  rw [st_T_v]
  unfold st_v
  rw [if_neg (by rw [h]; decide), if_neg (by rw [h]; decide), if_neg (by rw [h]; decide), st_T_st i h1, st_T_st i h2]
theorem mk_cs_b (k : Nat → Int) (m c : Nat) (z : Int) : (mk_cs k m c z).natAbs ≤ 1 := by
  unfold mk_cs
  split
  · exact ar_sg _
  · split <;> decide
theorem mk_sig_b (k : Nat → Int) (m : Nat) (a b c : Int) (x : Nat) : (mk_sig k m a b c x).natAbs ≤ 1 := by
  unfold mk_sig
  split
  · split
    · exact ar_b (A := 1) (B := 1) (ar_sg a) (ar_b (A := 1) (B := 1) (mk_cs_b _ _ _ _) (mk_cs_b _ _ _ _))
    · exact ar_sg a
  · split
    · exact ar_b (A := 1) (B := 1) (ar_sg b) (mk_cs_b _ _ _ _)
    · exact ar_sg c
/-- the bit of the sign s + 1 -/
def st_b (s : Int) : Nat := (s + 1).toNat
theorem st_b1 {s : Int} (h : s.natAbs ≤ 1) : ar_i s + 1 = nI (st_b s) ∧ st_b s < 3 := by
  unfold st_b
  refine ⟨?_, by omega⟩
  rw [ar_n]
  have : ((s + 1).toNat : Int) = s + 1 := by omega
  rw [this]
  exact ar_i_add s 1
/-- is the condition of step i true on cell c -/
noncomputable def st_W (κ : Nat → Int) (m : Nat) (sq li co sp st : Nat → Int32) (c i : Nat) : Bool :=
  bt (st i) (st_b (mk_sig κ m (sq (sp i).toNatClampNeg).toInt (li (sp i).toNatClampNeg).toInt (co (sp i).toNatClampNeg).toInt c))
theorem bi_sh (b : Bool) (k : Nat) (hk : k < 32) (i : Nat) (hi : i < 32) : bt (bi_n b <<< (nI k &&& 31)) i = (decide (i = k) && b) := by
  cases b
  · have : bi_n false = 0 := rfl
    rw [this, b_shl k hk 0 hi, b_0]
    simp
  · have : bi_n true = 1 := rfl
    rw [this, bi_pow k hk i hi]
    simp
theorem sx_cells {post : Int32 → Prop} {f_made f_depth : Int32} {a_squareTerm a_linearTerm a_constantTerm a_markWhole a_markSide a_markUnder a_markBelow a_markZeros a_stepKind a_stepPolynomial a_stepSet a_heldCells : Nat → Int32}
    (m : Nat) (hm : m ≤ 8) (hM : xm_M (xz_P a_squareTerm a_linearTerm a_constantTerm) m a_markWhole a_markSide a_markUnder a_markBelow a_markZeros) (hB : xz_B a_squareTerm a_linearTerm a_constantTerm)
    (k : Nat) (hk : k < 4) (s : Int32)
    (hp : ∀ w, (∀ j, j < 32 → bt w j = (decide (j < 2 * m + 1) && bt s (st_b (mk_sig (xm_k a_markWhole a_markSide a_markUnder a_markBelow) m (a_squareTerm k).toInt (a_linearTerm k).toInt (a_constantTerm k).toInt j)))) → post w) :
    wpX_cellsWith post (nI m, f_made, f_depth, a_squareTerm, a_linearTerm, a_constantTerm, a_markWhole, a_markSide, a_markUnder, a_markBelow, a_markZeros, a_stepKind, a_stepPolynomial, a_stepSet, a_heldCells) (nI k) s := by
  have main : ∀ d i, i + d = 2 * m + 1 → ∀ w, (∀ j, j < 32 → bt w j = (decide (j < i) && bt s (st_b (mk_sig (xm_k a_markWhole a_markSide a_markUnder a_markBelow) m (a_squareTerm k).toInt (a_linearTerm k).toInt (a_constantTerm k).toInt j)))) →
      wX_cellsWith_5 post (nI k) s (nI m) f_made f_depth a_squareTerm a_linearTerm a_constantTerm a_markWhole a_markSide a_markUnder a_markBelow a_markZeros a_stepKind a_stepPolynomial a_stepSet a_heldCells (d + 1) w (nI i) := by
    have e2 : (2 : Int32) * nI m = nI (2 * m) := pk_mul 2 m
    intro d
    induction d with
    | zero =>
      intro i hi w hw
      have : i = 2 * m + 1 := by omega
      subst this
      refine br_t ?_ (hp w hw)
      rw [e2]; exact nI_lt (by omega) (by omega)
    | succ d ih =>
      intro i hi w hw
      refine br_f (by rw [e2]; exact nI_nlt (by omega) (by omega)) ?_
      refine xs_on m hm hM hB k hk i (by omega) ?_
      have sb := mk_sig_b (xm_k a_markWhole a_markSide a_markUnder a_markBelow) m (a_squareTerm k).toInt (a_linearTerm k).toInt (a_constantTerm k).toInt i
      obtain ⟨b1, b2⟩ := st_b1 sb
      refine nm_r b1 ?_
      rw [bi_one s _ (by omega)]
      refine nm_e (nm_r (nI_1 i) (ih (i + 1) (by omega) _ ?_))
      intro j hj
      rw [b_or, hw j hj, bi_sh _ i (by omega) j hj]
      by_cases e : j = i
      · subst e
        simp
      · by_cases l : j < i
        · simp [l, e, show j < i + 1 by omega]
        · simp [l, e, show ¬ j < i + 1 by omega]
  refine ⟨_, main (2 * m + 1) 0 (by omega) 0 ?_⟩
  intro j hj
  rw [b_0]
  simp
theorem sx_all : ∀ m, m < 9 → ∀ j, j < 32 → bt (((1 : Int32) <<< (((2 * nI m) + 1) &&& 31)) - 1) j = decide (j < 2 * m + 1) := by decide +kernel
/-- the cells of the formulas on the stack after i steps -/
def sx_H (m : Nat) (T : Nat → Nat → Bool) (n : Nat) (g : Nat → Nat) (hc : Nat → Int32) : Prop :=
  ∀ p, p < n → ∀ j, j < 32 → bt (hc p) j = (decide (j < 2 * m + 1) && T j (g p))
theorem sx_steps {post : SX → Prop} {f_depth : Int32} {a_squareTerm a_linearTerm a_constantTerm a_markWhole a_markSide a_markUnder a_markBelow a_markZeros a_stepKind a_stepPolynomial a_stepSet a_heldCells so on tw : Nat → Int32}
    (m : Nat) (hm : m ≤ 8) (hM : xm_M (xz_P a_squareTerm a_linearTerm a_constantTerm) m a_markWhole a_markSide a_markUnder a_markBelow a_markZeros) (hB : xz_B a_squareTerm a_linearTerm a_constantTerm)
    (M : Nat) (hM16 : M ≤ 16) (dp : Nat → Nat) (sx : Nat → Nat → Nat) (R : st_R M dp sx a_stepKind a_stepPolynomial a_stepSet so on tw) (T : Nat → Nat → Bool)
    (hT : ∀ c i, T c i = st_T a_stepKind dp sx (st_W (xm_k a_markWhole a_markSide a_markUnder a_markBelow) m a_squareTerm a_linearTerm a_constantTerm a_stepPolynomial a_stepSet c) i)
    (hp : ∀ hc, sx_H m T (dp M) (sx M) hc → post (nI m, nI M, f_depth, a_squareTerm, a_linearTerm, a_constantTerm, a_markWhole, a_markSide, a_markUnder, a_markBelow, a_markZeros, a_stepKind, a_stepPolynomial, a_stepSet, hc)) :
    wpX_takeSteps post (nI m, nI M, f_depth, a_squareTerm, a_linearTerm, a_constantTerm, a_markWhole, a_markSide, a_markUnder, a_markBelow, a_markZeros, a_stepKind, a_stepPolynomial, a_stepSet, a_heldCells) := by
  have lt := st_lt R
  have main : ∀ d i, i + d = M → ∀ hc, sx_H m T (dp i) (sx i) hc →
      wX_takeSteps_4 post (nI m) (nI M) f_depth (d + 1) (nI (dp i)) (nI i) a_squareTerm a_linearTerm a_constantTerm a_markWhole a_markSide a_markUnder a_markBelow a_markZeros a_stepKind a_stepPolynomial a_stepSet hc := by
    intro d
    induction d with
    | zero =>
      intro i hi hc hH
      have : i = M := by omega
      subst this
      exact br_t (nI_le (Nat.le_refl i) (by omega)) (hp hc hH)
    | succ d ih =>
      intro i hi hc hH
      have iM : i < M := by omega
      obtain ⟨l1, l2⟩ := lt i (by omega)
      have hin : vp_in (nI i) 16 := vp_in_nI (by omega) (by decide)
      have cl : (nI i).toNatClampNeg = i := nI_clamp (by omega)
      refine br_f (nI_ge iM (by omega)) ⟨hin, nm_e ?_⟩
      rw [cl]
      rcases R.2 i iM with ⟨k0, _, d', lo, tp, ⟨k, hk, ek, _⟩, _⟩ | ⟨k1, _, g, d', lo, tp, _⟩ | ⟨k2, _, g, d', lo, tp, _⟩
      · refine br_t k0 ⟨hin, hin, ?_⟩
        rw [ek]
        refine sx_cells m hm hM hB k hk (a_stepSet i) ?_
        intro w hw
        have hi1 : vp_in (nI (dp i)) 16 := vp_in_nI (by omega) (by decide)
        have cl1 : (nI (dp i)).toNatClampNeg = dp i := nI_clamp (by omega)
        rw [cl1]
        refine ⟨hi1, nm_e (nm_r (e' := nI (dp (i + 1))) (by rw [d', nI_1]) (nm_r (nI_1 i) (ih (i + 1) (by omega) _ ?_)))⟩
        intro p hp' j hj
        rcases Nat.lt_or_ge p (dp i) with t | t
        · rw [pk_un (by omega), lo p t]; exact hH p t j hj
        · have : p = dp i := by omega
          subst this
          rw [pk_us, tp, hw j hj, hT j i, st_T0 k0]
          unfold st_W
          rw [ek, nI_clamp (by omega)]
      · refine br_f (by rw [k1]; decide) (br_t k1 ?_)
        have pr : nI (dp i) - 1 = nI (dp i - 1) := by
          obtain ⟨q, hq⟩ : ∃ q, dp i = q + 1 := ⟨dp i - 1, by omega⟩
          rw [hq, nI_pred]; rfl
        have hi1 : vp_in (nI (dp i - 1)) 16 := vp_in_nI (by omega) (by decide)
        have cl1 : (nI (dp i - 1)).toNatClampNeg = dp i - 1 := nI_clamp (by omega)
        have nx : ∀ hc', sx_H m T (dp (i + 1)) (sx (i + 1)) hc' → wX_takeSteps_4 post (nI m) (nI M) f_depth (d + 1) (nI (dp i)) (nI (i + 1)) a_squareTerm a_linearTerm a_constantTerm a_markWhole a_markSide a_markUnder a_markBelow a_markZeros a_stepKind a_stepPolynomial a_stepSet hc' := by
          intro hc' h
          have := ih (i + 1) (by omega) hc' h
          rw [d'] at this
          exact this
        unfold wpX_allCells
        dsimp only
        rw [pr, cl1]
        refine ⟨hi1, hi1, nm_e (nm_r (nI_1 i) (nx _ ?_))⟩
        intro p hp' j hj
        rcases Nat.lt_or_ge p (dp i - 1) with t | t
        · rw [pk_un (by omega), lo p t]; exact hH p (by omega) j hj
        · have : p = dp i - 1 := by omega
          subst this
          rw [pk_us, tp, b_and, b_xor, b_m1 j hj, sx_all m (by omega) j hj, hH _ (by omega) j hj, hT j i, st_T1 k1 (l2 _ (by omega)), ← hT]
          by_cases z : j < 2 * m + 1 <;> simp [z]
      · have pr : nI (dp i) + (-1) = nI (dp i - 1) := by
          obtain ⟨q, hq⟩ : ∃ q, dp i = q + 1 := ⟨dp i - 1, by omega⟩
          rw [hq, pk_m1]; rfl
        have pr2 : nI (dp i - 1) - 1 = nI (dp i - 2) := by
          obtain ⟨q, hq⟩ : ∃ q, dp i = q + 2 := ⟨dp i - 2, by omega⟩
          rw [hq, show q + 2 - 1 = q + 1 by omega, nI_pred]; rfl
        have hi1 : vp_in (nI (dp i - 1)) 16 := vp_in_nI (by omega) (by decide)
        have cl1 : (nI (dp i - 1)).toNatClampNeg = dp i - 1 := nI_clamp (by omega)
        have hi2 : vp_in (nI (dp i - 2)) 16 := vp_in_nI (by omega) (by decide)
        have cl2 : (nI (dp i - 2)).toNatClampNeg = dp i - 2 := nI_clamp (by omega)
        have n1 := l2 (dp i - 1) (by omega)
        have n2 := l2 (dp i - 2) (by omega)
        have nx : ∀ hc', sx_H m T (dp (i + 1)) (sx (i + 1)) hc' → wX_takeSteps_4 post (nI m) (nI M) f_depth (d + 1) (nI (dp i - 1)) (nI (i + 1)) a_squareTerm a_linearTerm a_constantTerm a_markWhole a_markSide a_markUnder a_markBelow a_markZeros a_stepKind a_stepPolynomial a_stepSet hc' := by
          intro hc' h
          have := ih (i + 1) (by omega) hc' h
          rw [d'] at this
          exact this
        rcases k2 with k2 | k2
        · refine br_f (by rw [k2]; decide) (br_f (by rw [k2]; decide) (br_t k2 (nm_r pr ?_)))
          rw [pr2, cl1, cl2]
          refine ⟨hi2, hi1, hi2, nm_e (nm_r (nI_1 i) (nx _ ?_))⟩
          intro p hp' j hj
          rcases Nat.lt_or_ge p (dp i - 2) with t | t
          · rw [pk_un (by omega), lo p t]; exact hH p (by omega) j hj
          · have : p = dp i - 2 := by omega
            subst this
            rw [pk_us, tp, b_and, hH _ (by omega) j hj, hH _ (by omega) j hj, hT j i, st_T2 k2 n1 n2, ← hT, ← hT]
            by_cases z : j < 2 * m + 1 <;> simp [z]
        · refine br_f (by rw [k2]; decide) (br_f (by rw [k2]; decide) (br_f (by rw [k2]; decide) (nm_r pr ?_)))
          rw [pr2, cl1, cl2]
          refine ⟨hi2, hi1, hi2, nm_e (nm_r (nI_1 i) (nx _ ?_))⟩
          intro p hp' j hj
          rcases Nat.lt_or_ge p (dp i - 2) with t | t
          · rw [pk_un (by omega), lo p t]; exact hH p (by omega) j hj
          · have : p = dp i - 2 := by omega
            subst this
            rw [pk_us, tp, b_or, hH _ (by omega) j hj, hH _ (by omega) j hj, hT j i, st_T3 k2 n1 n2, ← hT, ← hT]
            by_cases z : j < 2 * m + 1 <;> simp [z]
  have z := R.1
  have := main M 0 (by omega) a_heldCells (fun p hp' => by omega)
  rw [z] at this
  exact ⟨_, this⟩
