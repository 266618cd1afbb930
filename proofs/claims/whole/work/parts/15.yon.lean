/-! the reference's sign between marks, its cells, and the counts of zeros -/
theorem yo_108z {post : Int32 → Prop} {f_made f_depth : Int32} {a_as a_bs a_cs : Nat → Int32} {a_ps a_ss a_roots a_qs : Nat → Int64} {a_sorts a_ones a_twos a_stack a_truth : Nat → Int32}
    (m : Nat) (hm : m ≤ 8) (κ : Nat → Int) (hV : ym_V a_ps a_ss a_roots a_qs m) (hκ : ∀ i, i < m → ym_k a_ps a_ss a_roots a_qs i = κ i) (hB : xz_B a_as a_bs a_cs)
    (k : Nat) (hk : k < 4) (hg : ∀ x, mk_sig κ m (a_as k).toInt (a_bs k).toInt (a_cs k).toInt x = 0) (hp : post (ar_i 0)) :
    ∀ d j, j + d = m →
      wY_signBetween_108 post (nI k) 0 (nI m) f_made f_depth a_as a_bs a_cs a_ps a_ss a_roots a_qs a_sorts a_ones a_twos a_stack a_truth (d + 1) (ar_i 0) (nI j) := by
  intro d
  induction d with
  | zero =>
    intro j hj
    have : j = m := by omega
    subst this
    exact br_t (nI_le (Nat.le_refl j) (by omega)) hp
  | succ d ih =>
    intro j hj
    refine br_f (nI_ge (by omega) (by omega)) ?_
    refine ys_at m hm κ hV hκ hB k hk j (by omega) ?_
    rw [hg]
    exact br_t rfl (br_t rfl (nm_r (ar_i_neg 0) (nm_r (nI_1 j) (ih (j + 1) (by omega)))))
theorem yo_between {post : Int32 → Prop} {f_made f_depth : Int32} {a_as a_bs a_cs : Nat → Int32} {a_ps a_ss a_roots a_qs : Nat → Int64} {a_sorts a_ones a_twos a_stack a_truth : Nat → Int32}
    (m : Nat) (hm : m ≤ 8) (κ : Nat → Int) (hS : mk_S κ m) (hz : ∀ k, k < 4 → ∀ z, xz_P a_as a_bs a_cs k z → ∃ i, i < m ∧ κ i = z)
    (hV : ym_V a_ps a_ss a_roots a_qs m) (hκ : ∀ i, i < m → ym_k a_ps a_ss a_roots a_qs i = κ i) (hB : xz_B a_as a_bs a_cs)
    (k : Nat) (hk : k < 4) (i : Nat) (hi : i ≤ m)
    (hp : post (ar_i (mk_sig κ m (a_as k).toInt (a_bs k).toInt (a_cs k).toInt (2 * i)))) :
    wpY_signBetween post (nI m, f_made, f_depth, a_as, a_bs, a_cs, a_ps, a_ss, a_roots, a_qs, a_sorts, a_ones, a_twos, a_stack, a_truth) (nI k) (nI i) := by
  have hin : vp_in (nI k) 4 := vp_in_nI hk (by decide)
  have cl : (nI k).toNatClampNeg = k := nI_clamp (by omega)
  have hBk := hB k hk
  obtain ⟨F0, F1, F2, F3, F4⟩ := mk_F (k := κ) (m := m) hS hBk (fun z hz' => hz k hk z hz')
  have hB' := hBk
  unfold mk_B at hB'
  have bb := ar_b (a := (a_bs k).toInt) (b := (a_bs k).toInt) hB'.2.1 hB'.2.1
  have bac := ar_b (a := 4 * (a_as k).toInt) (b := (a_cs k).toInt) (A := 120) (by omega) hB'.2.2
  have za : (a_as k = 0) ↔ (a_as k).toInt = 0 := by
    have := (ar_i0 (a := (a_as k).toInt) (by omega)).2.2.1
    rw [← ar_i_t] at this
    exact this
  have zb : (a_bs k = 0) ↔ (a_bs k).toInt = 0 := by
    have := (ar_i0 (a := (a_bs k).toInt) (by omega)).2.2.1
    rw [← ar_i_t] at this
    exact this
  have zD : ((a_bs k * a_bs k) = ((4 * a_as k) * a_cs k)) ↔ (a_bs k).toInt * (a_bs k).toInt - 4 * (a_as k).toInt * (a_cs k).toInt = 0 := by
    have e1 : a_bs k * a_bs k = ar_i ((a_bs k).toInt * (a_bs k).toInt) := by rw [← ar_i_mul, ← ar_i_t]
    have e2 : (4 * a_as k) * a_cs k = ar_i (4 * (a_as k).toInt * (a_cs k).toInt) := by rw [← ar_i_mul, ← ar_i_mul, ← ar_i_t, ← ar_i_t]; rfl
    rw [e1, e2, ar_ieq (by omega) (by omega)]
    omega
  have step : ∀ far : Int, far = mk_sig κ m (a_as k).toInt (a_bs k).toInt (a_cs k).toInt (2 * m) →
      wY_signBetween_57 post (nI k) (nI i) (ar_i far) (nI m) f_made f_depth a_as a_bs a_cs a_ps a_ss a_roots a_qs a_sorts a_ones a_twos a_stack a_truth := by
    intro far hfar
    unfold wY_signBetween_57
    rw [cl]
    refine ⟨hin, ?_⟩
    by_cases all0 : (a_as k).toInt = 0 ∧ (a_bs k).toInt = 0 ∧ (a_cs k).toInt = 0
    · have g0 : ∀ x, mk_sig κ m (a_as k).toInt (a_bs k).toInt (a_cs k).toInt x = 0 := by
        intro x
        unfold mk_sig
        rw [if_neg (by omega), if_neg (by omega), all0.2.2]; rfl
      refine br_t (za.mpr all0.1) ⟨m - i + 1, ?_⟩
      rw [hfar, g0]
      rw [g0] at hp
      exact yo_108z m hm κ hV hκ hB k hk g0 hp (m - i) i (by omega)
    · have f4 : ∀ j, j ≤ m → (mk_sig κ m (a_as k).toInt (a_bs k).toInt (a_cs k).toInt (2 * j)).natAbs = 1 := by
        intro j hj
        rcases F4 j hj with h | h
        · exact h
        · exact absurd h all0
      have main := fun (tn : Prop) (x4 : Int32) (ht : x4 = 0 ↔ tn) f2 =>
        ys_108 (post := post) (f_made := f_made) (f_depth := f_depth) (a_sorts := a_sorts) (a_ones := a_ones) (a_twos := a_twos) (a_stack := a_stack) (a_truth := a_truth) m hm κ hV hκ hB k hk _ rfl (fun i => mk_Z (a_as k).toInt (a_bs k).toInt (a_cs k).toInt (κ i)) tn x4 ht F2 f2 f4 i hi hp (m - i) i (by omega) far (by rw [hfar])
      refine ar_c za (fun h => ⟨_, main True 0 (by decide) ?_⟩) (fun h => ⟨hin, hin, hin, hin, ar_c zD (fun hD => ⟨_, main False 1 (by decide) ?_⟩) (fun hD => ⟨_, main True 0 (by decide) ?_⟩)⟩)
      · intro i hi z
        obtain ⟨z1, z2, z3⟩ := F3 i hi z
        exact ⟨z1, fun n => absurd trivial n, fun _ => z3 (fun n => n.1 h)⟩
      · intro i hi z
        obtain ⟨z1, z2, z3⟩ := F3 i hi z
        exact ⟨z1, fun _ => z2 h hD, fun n => n.elim⟩
      · intro i hi z
        obtain ⟨z1, z2, z3⟩ := F3 i hi z
        exact ⟨z1, fun n => absurd trivial n, fun _ => z3 (fun n => hD n.2)⟩
  unfold wpY_signBetween
  dsimp only
  rw [cl]
  refine ⟨hin, ar_c za (fun h => ⟨hin, ar_c zb (fun h2 => ⟨hin, ?_⟩) (fun h2 => ⟨hin, ?_⟩)⟩) (fun h => ⟨hin, ?_⟩)⟩
  · rw [ar_64]
    refine py_sgn _ (by omega) (step _ ?_)
    rw [F1, if_neg (by omega), if_neg (by omega)]
  · rw [ar_64]
    refine py_sgn _ (by omega) (step _ ?_)
    rw [F1, if_neg (by omega), if_pos h2]
  · rw [ar_64]
    refine py_sgn _ (by omega) (step _ ?_)
    rw [F1, if_pos h]
theorem yo_on {post : Int32 → Prop} {f_made f_depth : Int32} {a_as a_bs a_cs : Nat → Int32} {a_ps a_ss a_roots a_qs : Nat → Int64} {a_sorts a_ones a_twos a_stack a_truth : Nat → Int32}
    (m : Nat) (hm : m ≤ 8) (κ : Nat → Int) (hS : mk_S κ m) (hz : ∀ k, k < 4 → ∀ z, xz_P a_as a_bs a_cs k z → ∃ i, i < m ∧ κ i = z)
    (hV : ym_V a_ps a_ss a_roots a_qs m) (hκ : ∀ i, i < m → ym_k a_ps a_ss a_roots a_qs i = κ i) (hB : xz_B a_as a_bs a_cs)
    (k : Nat) (hk : k < 4) (c : Nat) (hc : c ≤ 2 * m)
    (hp : post (ar_i (mk_sig κ m (a_as k).toInt (a_bs k).toInt (a_cs k).toInt c))) :
    wpY_signOn post (nI m, f_made, f_depth, a_as, a_bs, a_cs, a_ps, a_ss, a_roots, a_qs, a_sorts, a_ones, a_twos, a_stack, a_truth) (nI k) (nI c) := by
  have e1 : nI c / 2 = nI (c / 2) := pk_div (d := 2) (by omega) (by decide) (by decide)
  have e2 : nI c - nI c / 2 * 2 = nI (c % 2) := pk_rem (d := 2) (by omega) (by decide) (by decide)
  unfold wpY_signOn
  dsimp only
  rw [e2, e1]
  refine ⟨by decide, ?_⟩
  by_cases h : c % 2 = 1
  · refine br_t (by rw [h]; decide) ⟨by decide, ?_⟩
    refine ys_at m hm κ hV hκ hB k hk (c / 2) (by omega) ?_
    rw [show 2 * (c / 2) + 1 = c by omega]; exact hp
  · refine br_f (by rw [show c % 2 = 0 by omega]; decide) ⟨by decide, ?_⟩
    refine yo_between m hm κ hS hz hV hκ hB k hk (c / 2) (by omega) ?_
    rw [show 2 * (c / 2) = c by omega]; exact hp
theorem yo_cell {post : Int32 → Prop} {f_made f_depth : Int32} {a_as a_bs a_cs : Nat → Int32} {a_ps a_ss a_roots a_qs : Nat → Int64} {a_sorts a_ones a_twos a_stack a_truth : Nat → Int32}
    (m : Nat) (hm : m ≤ 8) (κ : Nat → Int) (hS : mk_S κ m)
    (hV : ym_V a_ps a_ss a_roots a_qs m) (hκ : ∀ i, i < m → ym_k a_ps a_ss a_roots a_qs i = κ i)
    (P Q : Int) (v : sf_V P 0 0 Q) (hp : ∀ c, mk_at κ m (sg_ky P 0 0 Q) c → post (nI c)) :
    wpY_cellWith post (nI m, f_made, f_depth, a_as, a_bs, a_cs, a_ps, a_ss, a_roots, a_qs, a_sorts, a_ones, a_twos, a_stack, a_truth) (ar_i P) (ar_i Q) := by
  have vb := sf_V_b v
  have x1 : (ar_i P).toInt64 = ar_l P := ar_il (by omega)
  have x2 : (ar_i Q).toInt64 = ar_l Q := ar_il (by omega)
  have last : ∀ i, i ≤ m → (∀ l, l < i → κ l < sg_ky P 0 0 Q) → (i < m → sg_ky P 0 0 Q ≤ κ i) →
      wY_cellWith_30 post (ar_i P) (ar_i Q) (nI i) (nI m) f_made f_depth a_as a_bs a_cs a_ps a_ss a_roots a_qs a_sorts a_ones a_twos a_stack a_truth := by
    intro i hi lo up
    have e2 : (2 : Int32) * nI i = nI (2 * i) := pk_mul 2 i
    unfold wY_cellWith_30
    rw [e2, x1, x2, nI_1]
    rcases Nat.lt_or_ge i m with t | t
    · refine br_f (nI_ge t (by omega)) ?_
      refine py_cmp (S := 0) (D := 0) i (by omega) P Q v (hV i t) ?_
      rw [kk_cy v (hV i t)]
      have hk : sg_ky (a_ps i).toInt (a_ss i).toInt (a_roots i).toInt (a_qs i).toInt = κ i := hκ i t
      rw [hk]
      have s3 := sf_sg3 (sg_ky P 0 0 Q - κ i)
      have u := up t
      refine ar_c (ar_i0 (a := Int.sign (sg_ky P 0 0 Q - κ i)) (by omega)).2.2.1 (fun h => ?_) (fun h => ?_)
      · exact hp _ (Or.inl ⟨i, t, by omega, rfl⟩)
      · refine hp _ (Or.inr ⟨i, hi, rfl, lo, ?_⟩)
        intro l hl hl2
        rcases Nat.lt_or_ge i l with t2 | t2
        · have := hS i l t2 hl2
          omega
        · have : l = i := by omega
          subst this
          omega
    · refine br_t (nI_le t (by omega)) (hp _ (Or.inr ⟨i, hi, rfl, lo, ?_⟩))
      intro l hl hl2; omega
  have main : ∀ d i, i + d = m → (∀ l, l < i → κ l < sg_ky P 0 0 Q) →
      wY_cellWith_2 post (ar_i P) (ar_i Q) (nI m) f_made f_depth a_as a_bs a_cs a_ps a_ss a_roots a_qs a_sorts a_ones a_twos a_stack a_truth (d + 1) (nI i) := by
    intro d
    induction d with
    | zero =>
      intro i hi lo
      exact br_t (nI_le (by omega) (by omega)) (last i (by omega) lo (fun h => by omega))
    | succ d ih =>
      intro i hi lo
      have t : i < m := by omega
      refine br_f (nI_ge t (by omega)) ?_
      rw [x1, x2]
      refine py_cmp (S := 0) (D := 0) i (by omega) P Q v (hV i t) ?_
      rw [kk_cy v (hV i t)]
      have hk : sg_ky (a_ps i).toInt (a_ss i).toInt (a_roots i).toInt (a_qs i).toInt = κ i := hκ i t
      rw [hk]
      have s3 := sf_sg3 (sg_ky P 0 0 Q - κ i)
      refine ar_c (ar_i0 (a := Int.sign (sg_ky P 0 0 Q - κ i)) (by omega)).2.1 (fun h => last i (by omega) lo (fun _ => by omega)) (fun h => nm_r (nI_1 i) (ih (i + 1) (by omega) ?_))
      intro l hl
      rcases Nat.lt_or_ge l i with t2 | t2
      · exact lo l t2
      · have : l = i := by omega
        subst this
        omega
  exact ⟨_, main m 0 (by omega) (by intro l hl; omega)⟩
/-! counts -/
def ct_n (f : Nat → Bool) : Nat → Nat
  | 0 => 0
  | n + 1 => ct_n f n + (if f n = true then 1 else 0)
theorem ct_c {f g : Nat → Bool} : ∀ n, (∀ i, i < n → f i = g i) → ct_n f n = ct_n g n := by
  intro n
  induction n with
  | zero => intro _; rfl
  | succ n ih =>
    intro h
    show ct_n f n + _ = ct_n g n + _
    rw [ih (fun i hi => h i (by omega)), h n (by omega)]
theorem ct_le (f : Nat → Bool) : ∀ n, ct_n f n ≤ n := by
  intro n
  induction n with
  | zero => exact Nat.le_refl _
  | succ n ih =>
    show ct_n f n + _ ≤ n + 1
    split <;> omega
theorem ct_0 {f : Nat → Bool} : ∀ n, (∀ i, i < n → f i = false) → ct_n f n = 0 := by
  intro n
  induction n with
  | zero => intro _; rfl
  | succ n ih =>
    intro h
    show ct_n f n + _ = 0
    rw [ih (fun i hi => h i (by omega)), h n (by omega)]
    rfl
theorem ct_t {f : Nat → Bool} {n : Nat} (h : f n = true) : nI (ct_n f n) + 1 = nI (ct_n f (n + 1)) := by
  show _ = nI (ct_n f n + _)
  rw [if_pos h, nI_1]
theorem ct_f {f : Nat → Bool} {n : Nat} (h : f n = false) : ct_n f n = ct_n f (n + 1) := by
  show _ = ct_n f n + _
  rw [if_neg (by rw [h]; decide)]; rfl
theorem xo_zeros {post : Int32 → Prop} {f_made f_depth : Int32} {a_squareTerm a_linearTerm a_constantTerm a_markWhole a_markSide a_markUnder a_markBelow a_markZeros a_stepKind a_stepPolynomial a_stepSet a_heldCells : Nat → Int32}
    (m : Nat) (hm : m ≤ 8) (k : Nat) (hk : k < 4) (f : Nat → Bool) (hf : ∀ i, i < m → bt (a_markZeros i) k = f i) (hp : post (nI (ct_n f m))) :
    ∃ n, wX_zeros_15 post (nI k) (nI m) f_made f_depth a_squareTerm a_linearTerm a_constantTerm a_markWhole a_markSide a_markUnder a_markBelow a_markZeros a_stepKind a_stepPolynomial a_stepSet a_heldCells n 0 0 := by
  have main : ∀ d i, i + d = m → wX_zeros_15 post (nI k) (nI m) f_made f_depth a_squareTerm a_linearTerm a_constantTerm a_markWhole a_markSide a_markUnder a_markBelow a_markZeros a_stepKind a_stepPolynomial a_stepSet a_heldCells (d + 1) (nI (ct_n f i)) (nI i) := by
    intro d
    induction d with
    | zero =>
      intro i hi
      have : i = m := by omega
      subst this
      exact br_t (nI_le (Nat.le_refl i) (by omega)) hp
    | succ d ih =>
      intro i hi
      refine br_f (nI_ge (by omega) (by omega)) ?_
      refine xs_isz k i hk (by omega) (fun hb => ?_) (fun hb => ?_)
      · rw [hf i (by omega)] at hb
        exact br_f (by decide) (nm_r (ct_t hb) (nm_r (nI_1 i) (ih (i + 1) (by omega))))
      · rw [hf i (by omega)] at hb
        refine br_t rfl (nm_r (nI_1 i) ?_)
        rw [ct_f hb]
        exact ih (i + 1) (by omega)
  exact ⟨_, main m 0 (by omega)⟩
theorem yo_zeros {post : Int32 → SY → Prop} {f_made f_depth : Int32} {a_as a_bs a_cs : Nat → Int32} {a_ps a_ss a_roots a_qs : Nat → Int64} {a_sorts a_ones a_twos a_stack a_truth : Nat → Int32}
    (m : Nat) (hm : m ≤ 8) (κ : Nat → Int) (hV : ym_V a_ps a_ss a_roots a_qs m) (hκ : ∀ i, i < m → ym_k a_ps a_ss a_roots a_qs i = κ i) (hB : xz_B a_as a_bs a_cs)
    (k : Nat) (hk : k < 4) (f : Nat → Bool)
    (hb : ∀ i, i < m → (mk_sig κ m (a_as k).toInt (a_bs k).toInt (a_cs k).toInt (2 * i + 1)).natAbs ≤ 1)
    (hf : ∀ i, i < m → (mk_sig κ m (a_as k).toInt (a_bs k).toInt (a_cs k).toInt (2 * i + 1) = 0 ↔ f i = true))
    (hp : post (nI (ct_n f m)) (nI m, f_made, f_depth, a_as, a_bs, a_cs, a_ps, a_ss, a_roots, a_qs, a_sorts, a_ones, a_twos, a_stack, a_truth)) :
    ∃ n, wY_zeros_40 post (nI k) (nI m) f_made f_depth a_as a_bs a_cs a_ps a_ss a_roots a_qs a_sorts a_ones a_twos a_stack a_truth n 0 0 := by
  have main : ∀ d i, i + d = m → wY_zeros_40 post (nI k) (nI m) f_made f_depth a_as a_bs a_cs a_ps a_ss a_roots a_qs a_sorts a_ones a_twos a_stack a_truth (d + 1) (nI (ct_n f i)) (nI i) := by
    intro d
    induction d with
    | zero =>
      intro i hi
      have : i = m := by omega
      subst this
      exact br_t (nI_le (Nat.le_refl i) (by omega)) hp
    | succ d ih =>
      intro i hi
      refine br_f (nI_ge (by omega) (by omega)) ?_
      refine ys_at m hm κ hV hκ hB k hk i (by omega) ?_
      have b := hb i (by omega)
      refine ar_c (ar_i0 (by omega)).2.2.1 (fun h => ?_) (fun h => ?_)
      · exact nm_r (ct_t ((hf i (by omega)).mp h)) (nm_r (nI_1 i) (ih (i + 1) (by omega)))
      · have : f i = false := by
          rw [hf i (by omega)] at h
          simpa using h
        refine nm_r (nI_1 i) ?_
        rw [ct_f this]
        exact ih (i + 1) (by omega)
  exact ⟨_, main m 0 (by omega)⟩
