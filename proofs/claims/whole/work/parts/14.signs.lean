/-! the sign of a polynomial on a cell, by both -/
theorem xs_isz {post : Int32 → Prop} {f_markCount f_made f_depth : Int32} {a_squareTerm a_linearTerm a_constantTerm a_markWhole a_markSide a_markUnder a_markBelow a_markZeros a_stepKind a_stepPolynomial a_stepSet a_heldCells : Nat → Int32}
    (k i : Nat) (hk : k < 4) (hi : i < 8) (h1 : bt (a_markZeros i) k = true → post 1) (h0 : bt (a_markZeros i) k = false → post 0) :
    wpX_isZeroAt post (f_markCount, f_made, f_depth, a_squareTerm, a_linearTerm, a_constantTerm, a_markWhole, a_markSide, a_markUnder, a_markBelow, a_markZeros, a_stepKind, a_stepPolynomial, a_stepSet, a_heldCells) (nI k) (nI i) := by
  have hin : vp_in (nI i) 8 := vp_in_nI hi (by decide)
  have cl : (nI i).toNatClampNeg = i := nI_clamp (by omega)
  unfold wpX_isZeroAt
  dsimp only
  rw [cl, bi_one _ k (by omega)]
  refine ⟨hin, ar_c (bi_eq1 _) h1 (fun h => h0 (by simpa using h))⟩
theorem xs_43 {post : Int32 → Prop} {f_markCount f_made f_depth : Int32} {a_squareTerm a_linearTerm a_constantTerm a_markWhole a_markSide a_markUnder a_markBelow a_markZeros a_stepKind a_stepPolynomial a_stepSet a_heldCells : Nat → Int32}
    (x : Int) (hx : x.natAbs < 2 ^ 31) (hp : post (ar_i (Int.sign x))) :
    wX_signFarLeft_43 post (ar_i x) f_markCount f_made f_depth a_squareTerm a_linearTerm a_constantTerm a_markWhole a_markSide a_markUnder a_markBelow a_markZeros a_stepKind a_stepPolynomial a_stepSet a_heldCells := by
  have s3 := sf_sg3 x
  have k := ar_i0 (a := x) hx
  refine ar_c k.1 (fun p => ar_c k.2.1 (fun q => ?_) (fun q => ?_)) (fun p => ?_)
  · have : Int.sign x = 0 := by omega
    rw [this] at hp; exact hp
  · have : Int.sign x = 1 := by omega
    rw [this] at hp; exact hp
  · have : Int.sign x = -1 := by omega
    rw [this, ← ar_m1] at hp; exact hp
theorem xs_far {post : Int32 → Prop} {f_markCount f_made f_depth : Int32} {a_squareTerm a_linearTerm a_constantTerm a_markWhole a_markSide a_markUnder a_markBelow a_markZeros a_stepKind a_stepPolynomial a_stepSet a_heldCells : Nat → Int32}
    (k : Nat) (hk : k < 4) (hB : mk_B (a_squareTerm k).toInt (a_linearTerm k).toInt (a_constantTerm k).toInt)
    (hp : post (ar_i (if (a_squareTerm k).toInt ≠ 0 then Int.sign (a_squareTerm k).toInt else if (a_linearTerm k).toInt ≠ 0 then -Int.sign (a_linearTerm k).toInt else Int.sign (a_constantTerm k).toInt))) :
    wpX_signFarLeft post (f_markCount, f_made, f_depth, a_squareTerm, a_linearTerm, a_constantTerm, a_markWhole, a_markSide, a_markUnder, a_markBelow, a_markZeros, a_stepKind, a_stepPolynomial, a_stepSet, a_heldCells) (nI k) := by
  have hin : vp_in (nI k) 4 := vp_in_nI hk (by decide)
  have cl : (nI k).toNatClampNeg = k := nI_clamp (by omega)
  unfold mk_B at hB
  unfold wpX_signFarLeft
  dsimp only
  rw [cl, ar_i_t (a_squareTerm k), ar_i_t (a_linearTerm k), ar_i_t (a_constantTerm k)]
  generalize (a_squareTerm k).toInt = a at *
  generalize (a_linearTerm k).toInt = b at *
  generalize (a_constantTerm k).toInt = c at *
  refine ⟨hin, nm_e ⟨hin, ?_⟩⟩
  refine ar_c (ar_i0 (a := a) (by omega)).2.2.1 (fun h => ⟨hin, ?_⟩) (fun h => ⟨hin, nm_e ?_⟩)
  · rw [if_neg (by omega)] at hp
    refine ar_c (ar_i0 (a := b) (by omega)).2.2.1 (fun h => ?_) (fun h => ⟨hin, nm_r (ar_i_neg b) ?_⟩)
    · rw [if_neg (by omega)] at hp
      exact xs_43 c (by omega) hp
    · rw [if_pos h] at hp
      refine xs_43 (-b) (by omega) ?_
      rw [Int.sign_neg]; exact hp
  · rw [if_pos h] at hp
    exact xs_43 a (by omega) hp
theorem xs_loop {post : Int32 → Prop} {f_made f_depth : Int32} {a_squareTerm a_linearTerm a_constantTerm a_markWhole a_markSide a_markUnder a_markBelow a_markZeros a_stepKind a_stepPolynomial a_stepSet a_heldCells : Nat → Int32}
    (m : Nat) (hm : m ≤ 8) (k : Nat) (hk : k < 4) (c : Nat) (hc : c ≤ 2 * m) (g : Nat → Int) (Z : Nat → Prop) (tn : Prop) (x4 : Int32) (ht : x4 = 0 ↔ ¬ tn)
    (hZ : ∀ i, i < m → (bt (a_markZeros i) k = true ↔ Z i))
    (f1 : ∀ i, i < m → ¬ Z i → g (2 * i + 1) = g (2 * i) ∧ g (2 * i + 2) = g (2 * i))
    (f2 : ∀ i, i < m → Z i → g (2 * i + 1) = 0 ∧ (¬ tn → g (2 * i + 2) = g (2 * i)) ∧ (tn → g (2 * i + 2) = -g (2 * i)))
    (hp : post (ar_i (g c))) :
    ∀ d i, i + d = m → 2 * i ≤ c + 1 → (c + 1 = 2 * i → g c = g (2 * i)) →
      wX_signOn_33 post (nI k) (nI c) x4 (nI m) f_made f_depth a_squareTerm a_linearTerm a_constantTerm a_markWhole a_markSide a_markUnder a_markBelow a_markZeros a_stepKind a_stepPolynomial a_stepSet a_heldCells (d + 1) (ar_i (g (2 * i))) (nI i) := by
  intro d
  induction d with
  | zero =>
    intro i hi h1 h2
    have : i = m := by omega
    subst this
    refine br_t (nI_le (Nat.le_refl i) (by omega)) ?_
    by_cases e : c = 2 * i
    · rw [← e]; exact hp
    · rw [← h2 (by omega)]; exact hp
  | succ d ih =>
    intro i hi h1 h2
    refine br_f (nI_ge (by omega) (by omega)) ?_
    have e2 : (2 : Int32) * nI i = nI (2 * i) := pk_mul 2 i
    rw [e2]
    by_cases hci : c ≤ 2 * i
    · refine br_t (nI_le hci (by omega)) ?_
      by_cases e : c = 2 * i
      · rw [← e]; exact hp
      · rw [← h2 (by omega)]; exact hp
    · refine br_f (nI_ge (by omega) (by omega)) ?_
      refine xs_isz k i hk (by omega) (fun hb => ?_) (fun hb => ?_)
      · have z := (hZ i (by omega)).mp hb
        obtain ⟨z1, z2, z3⟩ := f2 i (by omega) z
        refine br_f (by decide) ?_
        have e3 : nI (2 * i) + 1 = nI (2 * i + 1) := nI_1 _
        rw [e3]
        refine ar_c (nI_eq (a := c) (b := 2 * i + 1) (by omega) (by omega)) (fun e => ?_) (fun e => ?_)
        · subst e
          rw [z1] at hp
          exact hp
        · refine ar_c ht (fun t => nm_r (nI_1 i) ?_) (fun t => nm_r (ar_i_neg _) (nm_r (nI_1 i) ?_))
          · rw [← z2 t]
            exact ih (i + 1) (by omega) (by omega) (fun h => by omega)
          · have t' : tn := Classical.byContradiction t
            rw [← z3 t']
            exact ih (i + 1) (by omega) (by omega) (fun h => by omega)
      · have z : ¬ Z i := fun z => by
          rw [(hZ i (by omega)).mpr z] at hb
          cases hb
        obtain ⟨z1, z2⟩ := f1 i (by omega) z
        refine br_t rfl (nm_r (nI_1 i) ?_)
        rw [← z2]
        refine ih (i + 1) (by omega) (by omega) (fun h => ?_)
        have : c = 2 * i + 1 := by omega
        rw [this, z1]
        exact z2.symm
theorem xs_on {post : Int32 → Prop} {f_made f_depth : Int32} {a_squareTerm a_linearTerm a_constantTerm a_markWhole a_markSide a_markUnder a_markBelow a_markZeros a_stepKind a_stepPolynomial a_stepSet a_heldCells : Nat → Int32}
    (m : Nat) (hm : m ≤ 8) (hM : xm_M (xz_P a_squareTerm a_linearTerm a_constantTerm) m a_markWhole a_markSide a_markUnder a_markBelow a_markZeros) (hB : xz_B a_squareTerm a_linearTerm a_constantTerm)
    (k : Nat) (hk : k < 4) (c : Nat) (hc : c ≤ 2 * m)
    (hp : post (ar_i (mk_sig (xm_k a_markWhole a_markSide a_markUnder a_markBelow) m (a_squareTerm k).toInt (a_linearTerm k).toInt (a_constantTerm k).toInt c))) :
    wpX_signOn post (nI m, f_made, f_depth, a_squareTerm, a_linearTerm, a_constantTerm, a_markWhole, a_markSide, a_markUnder, a_markBelow, a_markZeros, a_stepKind, a_stepPolynomial, a_stepSet, a_heldCells) (nI k) (nI c) := by
  have hin : vp_in (nI k) 4 := vp_in_nI hk (by decide)
  have cl : (nI k).toNatClampNeg = k := nI_clamp (by omega)
  obtain ⟨m1, m2, m3, m4⟩ := hM
  have hBk := hB k hk
  have F := mk_F (k := xm_k a_markWhole a_markSide a_markUnder a_markBelow) (m := m) m2 hBk (fun z hz => m3.2 z ⟨k, hk, hz⟩)
  obtain ⟨F0, F1, F2, F3, F4⟩ := F
  have hB' := hBk
  unfold mk_B at hB'
  have main := fun (tn : Prop) (x4 : Int32) (ht : x4 = 0 ↔ ¬ tn)
    (f2 : ∀ i, i < m → mk_Z (a_squareTerm k).toInt (a_linearTerm k).toInt (a_constantTerm k).toInt (xm_k a_markWhole a_markSide a_markUnder a_markBelow i) → _) =>
    xs_loop (post := post) (f_made := f_made) (f_depth := f_depth) (a_squareTerm := a_squareTerm) (a_linearTerm := a_linearTerm) (a_constantTerm := a_constantTerm) (a_markWhole := a_markWhole) (a_markSide := a_markSide) (a_markUnder := a_markUnder) (a_markBelow := a_markBelow) (a_markZeros := a_markZeros) (a_stepKind := a_stepKind) (a_stepPolynomial := a_stepPolynomial) (a_stepSet := a_stepSet) (a_heldCells := a_heldCells)
      m hm k hk c hc (mk_sig (xm_k a_markWhole a_markSide a_markUnder a_markBelow) m (a_squareTerm k).toInt (a_linearTerm k).toInt (a_constantTerm k).toInt)
      (fun i => mk_Z (a_squareTerm k).toInt (a_linearTerm k).toInt (a_constantTerm k).toInt (xm_k a_markWhole a_markSide a_markUnder a_markBelow i)) tn x4 ht
      (fun i hi => m4 i hi k hk) F2 f2 hp m 0 (by omega) (by omega) (fun h => by omega)
  unfold wpX_signOn
  dsimp only
  refine xs_far k hk hBk ?_
  rw [← F0]
  refine ⟨hin, ?_⟩
  rw [cl]
  have za : (a_squareTerm k = 0) ↔ (a_squareTerm k).toInt = 0 := by
    have := (ar_i0 (a := (a_squareTerm k).toInt) (by omega)).2.2.1
    rw [← ar_i_t] at this
    exact this
  refine ar_c za (fun h => ?_) (fun h => ?_)
  · refine ⟨_, main True 1 (by decide) ?_⟩
    intro i hi z
    obtain ⟨z1, z2, z3⟩ := F3 i hi z
    exact ⟨z1, fun n => absurd trivial n, fun _ => z3 (fun n => n.1 h)⟩
  · unfold wpX_discriminant
    dsimp only
    rw [cl]
    refine ⟨hin, hin, hin, hin, ?_⟩
    have bb := ar_b (a := (a_linearTerm k).toInt) (b := (a_linearTerm k).toInt) hB'.2.1 hB'.2.1
    have bac := ar_b (a := 4 * (a_squareTerm k).toInt) (b := (a_constantTerm k).toInt) (A := 120) (by omega) hB'.2.2
    have eD : (a_linearTerm k * a_linearTerm k) - ((4 * a_squareTerm k) * a_constantTerm k) = ar_i ((a_linearTerm k).toInt * (a_linearTerm k).toInt - 4 * (a_squareTerm k).toInt * (a_constantTerm k).toInt) := by
      rw [← ar_i_sub, ← ar_i_mul, ← ar_i_mul, ← ar_i_mul, ← ar_i_t, ← ar_i_t, ← ar_i_t]; rfl
    rw [eD]
    refine ar_c (ar_i0 (a := (a_linearTerm k).toInt * (a_linearTerm k).toInt - 4 * (a_squareTerm k).toInt * (a_constantTerm k).toInt) (by omega)).2.2.1 (fun hD => ?_) (fun hD => ?_)
    · refine ⟨_, main False 0 (by decide) ?_⟩
      intro i hi z
      obtain ⟨z1, z2, z3⟩ := F3 i hi z
      exact ⟨z1, fun _ => z2 h hD, fun n => n.elim⟩
    · refine ⟨_, main True 1 (by decide) ?_⟩
      intro i hi z
      obtain ⟨z1, z2, z3⟩ := F3 i hi z
      exact ⟨z1, fun n => absurd trivial n, fun _ => z3 (fun n => hD n.2)⟩
/-! the reference -/
theorem ys_at {post : Int32 → Prop} {f_made f_depth : Int32} {a_as a_bs a_cs : Nat → Int32} {a_ps a_ss a_roots a_qs : Nat → Int64} {a_sorts a_ones a_twos a_stack a_truth : Nat → Int32}
    (m : Nat) (hm : m ≤ 8) (κ : Nat → Int) (hV : ym_V a_ps a_ss a_roots a_qs m) (hκ : ∀ i, i < m → ym_k a_ps a_ss a_roots a_qs i = κ i) (hB : xz_B a_as a_bs a_cs)
    (k : Nat) (hk : k < 4) (i : Nat) (hi : i < m)
    (hp : post (ar_i (mk_sig κ m (a_as k).toInt (a_bs k).toInt (a_cs k).toInt (2 * i + 1)))) :
    wpY_signAt post (nI m, f_made, f_depth, a_as, a_bs, a_cs, a_ps, a_ss, a_roots, a_qs, a_sorts, a_ones, a_twos, a_stack, a_truth) (nI k) (nI i) := by
  have hBk := hB k hk
  have hB' := hBk
  unfold mk_B at hB'
  refine py_sa k i hk (by omega) (hV i hi) hB'.1 hB'.2.1 hB'.2.2 ?_
  rw [mk_sa (k := κ) (m := m) (i := i) hBk (hV i hi) (hκ i hi)]
  exact hp
theorem ys_108 {post : Int32 → Prop} {f_made f_depth : Int32} {a_as a_bs a_cs : Nat → Int32} {a_ps a_ss a_roots a_qs : Nat → Int64} {a_sorts a_ones a_twos a_stack a_truth : Nat → Int32}
    (m : Nat) (hm : m ≤ 8) (κ : Nat → Int) (hV : ym_V a_ps a_ss a_roots a_qs m) (hκ : ∀ i, i < m → ym_k a_ps a_ss a_roots a_qs i = κ i) (hB : xz_B a_as a_bs a_cs)
    (k : Nat) (hk : k < 4) (g : Nat → Int) (hg : g = mk_sig κ m (a_as k).toInt (a_bs k).toInt (a_cs k).toInt) (Z : Nat → Prop) (tn : Prop) (x4 : Int32) (ht : x4 = 0 ↔ tn)
    (f1 : ∀ i, i < m → ¬ Z i → g (2 * i + 1) = g (2 * i) ∧ g (2 * i + 2) = g (2 * i))
    (f2 : ∀ i, i < m → Z i → g (2 * i + 1) = 0 ∧ (¬ tn → g (2 * i + 2) = g (2 * i)) ∧ (tn → g (2 * i + 2) = -g (2 * i)))
    (f4 : ∀ i, i ≤ m → (g (2 * i)).natAbs = 1)
    (i : Nat) (hi : i ≤ m) (hp : post (ar_i (g (2 * i)))) :
    ∀ d j, j + d = m → ∀ S : Int, S * g (2 * i) = g (2 * m) * g (2 * j) →
      wY_signBetween_108 post (nI k) x4 (nI m) f_made f_depth a_as a_bs a_cs a_ps a_ss a_roots a_qs a_sorts a_ones a_twos a_stack a_truth (d + 1) (ar_i S) (nI j) := by
  intro d
  induction d with
  | zero =>
    intro j hj S hS
    have : j = m := by omega
    subst this
    refine br_t (nI_le (Nat.le_refl j) (by omega)) ?_
    have a1 := f4 i hi
    have a2 := f4 j (by omega)
    have : S = g (2 * i) := by
      have c1 : g (2 * i) = 1 ∨ g (2 * i) = -1 := by omega
      have c2 : g (2 * j) = 1 ∨ g (2 * j) = -1 := by omega
      rcases c1 with c1 | c1 <;> rcases c2 with c2 | c2 <;> rw [c1, c2] at hS <;> rw [c1] <;> omega
    rw [this]; exact hp
  | succ d ih =>
    intro j hj S hS
    refine br_f (nI_ge (by omega) (by omega)) ?_
    refine ys_at m hm κ hV hκ hB k hk j (by omega) ?_
    rw [← hg]
    have a2 := f4 j (by omega)
    have b1 : (g (2 * j + 1)).natAbs < 2 ^ 31 := by
      by_cases z : Z j
      · have := (f2 j (by omega) z).1
        omega
      · have := (f1 j (by omega) z).1
        omega
    refine ar_c (ar_i0 (a := g (2 * j + 1)) b1).2.2.1 (fun h => ?_) (fun h => ?_)
    · have z : Z j := Classical.byContradiction (fun z => by
        have := (f1 j (by omega) z).1
        omega)
      obtain ⟨z1, z2, z3⟩ := f2 j (by omega) z
      refine ar_c ht (fun t => nm_r (ar_i_neg S) (nm_r (nI_1 j) ?_)) (fun t => nm_r (nI_1 j) ?_)
      · refine ih (j + 1) (by omega) (-S) ?_
        rw [show 2 * (j + 1) = 2 * j + 2 by omega, z3 t, Int.neg_mul, Int.mul_neg, hS]
      · refine ih (j + 1) (by omega) S ?_
        rw [show 2 * (j + 1) = 2 * j + 2 by omega, z2 t, hS]
    · have z : ¬ Z j := fun z => h (f2 j (by omega) z).1
      refine nm_r (nI_1 j) (ih (j + 1) (by omega) S ?_)
      rw [show 2 * (j + 1) = 2 * j + 2 by omega, (f1 j (by omega) z).2, hS]
