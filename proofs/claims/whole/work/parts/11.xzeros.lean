/-! the component's zeros of a polynomial, and set -/
theorem xz_45 {post : SX → Prop} {f_made f_depth : Int32} {a_squareTerm a_linearTerm a_constantTerm a_markWhole a_markSide a_markUnder a_markBelow a_markZeros a_stepKind a_stepPolynomial a_stepSet a_heldCells : Nat → Int32}
    {P : Nat → Int → Prop} (m : Nat) (hm : m ≤ 6) (hM : xm_M P m a_markWhole a_markSide a_markUnder a_markBelow a_markZeros) (k : Nat) (hk : k < 4)
    (hB : mk_B (a_squareTerm k).toInt (a_linearTerm k).toInt (a_constantTerm k).toInt) (a' b' c' : Int)
    (r1 : (a_squareTerm k).toInt ≠ 0 → a' = (a_squareTerm k).toInt * Int.sign (a_squareTerm k).toInt ∧ b' = (a_linearTerm k).toInt * Int.sign (a_squareTerm k).toInt)
    (r2 : (a_squareTerm k).toInt = 0 → a' = 0) (r3 : (a_squareTerm k).toInt = 0 → (a_linearTerm k).toInt = 0 → b' = 0)
    (r4 : (a_squareTerm k).toInt = 0 → (a_linearTerm k).toInt ≠ 0 → b' = (a_linearTerm k).toInt * Int.sign (a_linearTerm k).toInt ∧ c' = (a_constantTerm k).toInt * Int.sign (a_linearTerm k).toInt)
    (hp : ∀ m' mw ms mu mb mz, m' ≤ m + 2 → xm_M (fun k' z => P k' z ∨ (k' = k ∧ mk_Z (a_squareTerm k).toInt (a_linearTerm k).toInt (a_constantTerm k).toInt z)) m' mw ms mu mb mz → post (nI m', f_made, f_depth, a_squareTerm, a_linearTerm, a_constantTerm, mw, ms, mu, mb, mz, a_stepKind, a_stepPolynomial, a_stepSet, a_heldCells)) :
    wX_addZerosOf_45 post (nI k) (ar_i a') (ar_i b') (ar_i c') (nI m) f_made f_depth a_squareTerm a_linearTerm a_constantTerm a_markWhole a_markSide a_markUnder a_markBelow a_markZeros a_stepKind a_stepPolynomial a_stepSet a_heldCells := by
  have hin : vp_in (nI k) 4 := vp_in_nI hk (by decide)
  have cl : (nI k).toNatClampNeg = k := nI_clamp (by omega)
  have hB' := hB
  unfold mk_B at hB'
  have eD : (a_linearTerm k * a_linearTerm k) - ((4 * a_squareTerm k) * a_constantTerm k) = ar_i ((a_linearTerm k).toInt * (a_linearTerm k).toInt - 4 * (a_squareTerm k).toInt * (a_constantTerm k).toInt) := by
    rw [← ar_i_sub, ← ar_i_mul, ← ar_i_mul, ← ar_i_mul, ← ar_i_t, ← ar_i_t, ← ar_i_t]; rfl
  unfold wX_addZerosOf_45 wpX_discriminant
  dsimp only
  rw [cl, eD]
  refine ⟨hin, hin, hin, hin, ?_⟩
  generalize (a_squareTerm k).toInt = a at *
  generalize (a_linearTerm k).toInt = b at *
  generalize (a_constantTerm k).toInt = c at *
  have bb := ar_b (a := b) (b := b) hB'.2.1 hB'.2.1
  have bac := ar_b (a := 4 * a) (b := c) (A := 120) (by omega) hB'.2.2
  by_cases ha : a = 0
  · have ea := r2 ha
    subst ea
    subst ha
    refine br_t rfl ?_
    by_cases hb : b = 0
    · have eb := r3 rfl hb
      subst eb
      refine br_t rfl ?_
      unfold wX_addZerosOf_74 wX_addZerosOf_98
      refine br_t rfl (br_t rfl ?_)
      refine hp m _ _ _ _ _ (by omega) (xm_M_c ?_ hM)
      intro k' z _
      constructor
      · intro h; exact Or.inl h
      · rintro (h | ⟨_, h⟩)
        · exact h
        · unfold mk_Z at h
          omega
    · obtain ⟨eb, ec⟩ := r4 rfl hb
      have v := mk_Vl hB hb
      have v' := v
      unfold sf_V at v'
      have e1 : b' ≠ 0 := by rw [eb]; omega
      refine br_f (fun h => e1 ((ar_i0 (a := b') (by rw [eb]; omega)).2.2.1.mp h)) ?_
      have e2 : -c' = -c * Int.sign b := by rw [ec, Int.neg_mul]
      rw [ar_i_neg, e2, eb]
      refine xm_add m (by omega) hM k hk (-c * Int.sign b) 0 0 (b * Int.sign b) v ?_
      intro m' mw ms mu mb mz hm' hM'
      refine hp m' mw ms mu mb mz (by omega) (xm_M_c ?_ hM')
      intro k' z _
      have : mk_Z 0 b c z ↔ z = sg_ky (-c * Int.sign b) 0 0 (b * Int.sign b) := by
        unfold mk_Z mk_z0
        constructor
        · rintro (⟨h, _⟩ | ⟨_, _, h⟩)
          · exact absurd rfl h
          · exact h
        · intro h; exact Or.inr ⟨rfl, hb, h⟩
      rw [this]
  · obtain ⟨ea, eb⟩ := r1 ha
    have vd := mk_Vd hB ha
    have vd' := vd
    unfold sf_V at vd'
    have e0 : 2 * a' = 2 * a * Int.sign a := by rw [ea, Int.mul_assoc]
    have e1 : a' ≠ 0 := by omega
    have n1 : ¬ ar_i a' = 0 := fun h => e1 ((ar_i0 (a := a') (by omega)).2.2.1.mp h)
    have e2 : -b' = -b * Int.sign a := by rw [eb, Int.neg_mul]
    have e3 : (2 : Int32) * ar_i a' = ar_i (2 * a * Int.sign a) := by rw [← e0]; exact ar_i_mul 2 a'
    have e4 : -ar_i b' = ar_i (-b * Int.sign a) := by rw [ar_i_neg, e2]
    refine br_f n1 ?_
    unfold wX_addZerosOf_74
    refine br_f n1 ?_
    have kD := ar_i0 (a := b * b - 4 * a * c) (by omega)
    have nZ : ∀ z, mk_Z a b c z ↔ (0 ≤ b * b - 4 * a * c ∧ (z = mk_z1 a b c ∨ z = mk_z2 a b c)) := by
      intro z
      unfold mk_Z
      constructor
      · rintro (⟨_, h⟩ | ⟨h, _⟩)
        · exact h
        · exact absurd h ha
      · intro h; exact Or.inl ⟨ha, h⟩
    refine ar_c kD.2.2.1 (fun hD => ?_) (fun hD => ?_)
    · rw [e3, e4]
      refine xm_add m (by omega) hM k hk (-b * Int.sign a) 0 0 (2 * a * Int.sign a) vd ?_
      intro m' mw ms mu mb mz hm' hM'
      refine hp m' mw ms mu mb mz (by omega) (xm_M_c ?_ hM')
      intro k' z _
      have zz := mk_zz hB ha (by omega)
      have : mk_Z a b c z ↔ z = sg_ky (-b * Int.sign a) 0 0 (2 * a * Int.sign a) := by
        rw [nZ]
        omega
      rw [this]
    · unfold wX_addZerosOf_98
      refine br_f n1 ?_
      refine ar_c kD.2.1 (fun hD2 => ?_) (fun hD2 => ?_)
      · refine hp m _ _ _ _ _ (by omega) (xm_M_c ?_ hM)
        intro k' z _
        rw [nZ]
        constructor
        · intro h; exact Or.inl h
        · rintro (h | ⟨_, h, _⟩)
          · exact h
          · omega
      · rw [e3, e4]
        have v1 := mk_Vq hB ha (by omega) (-1) (by decide)
        have v2 := mk_Vq hB ha (by omega) 1 (by decide)
        refine xm_add m (by omega) hM k hk (-b * Int.sign a) (-1) (b * b - 4 * a * c) (2 * a * Int.sign a) v1 ?_
        intro m' mw ms mu mb mz hm' hM'
        dsimp only
        refine xm_add m' (by omega) hM' k hk (-b * Int.sign a) 1 (b * b - 4 * a * c) (2 * a * Int.sign a) v2 ?_
        intro m'' mw' ms' mu' mb' mz' hm'' hM''
        refine hp m'' mw' ms' mu' mb' mz' (by omega) (xm_M_c ?_ hM'')
        intro k' z _
        rw [nZ]
        constructor
        · rintro ((h | ⟨h, h2⟩) | ⟨h, h2⟩)
          · exact Or.inl h
          · exact Or.inr ⟨h, by omega, Or.inl h2⟩
          · exact Or.inr ⟨h, by omega, Or.inr h2⟩
        · rintro (h | ⟨h, _, h2 | h2⟩)
          · exact Or.inl (Or.inl h)
          · exact Or.inl (Or.inr ⟨h, h2⟩)
          · exact Or.inr ⟨h, h2⟩
theorem xz_zeros {post : SX → Prop} {f_made f_depth : Int32} {a_squareTerm a_linearTerm a_constantTerm a_markWhole a_markSide a_markUnder a_markBelow a_markZeros a_stepKind a_stepPolynomial a_stepSet a_heldCells : Nat → Int32}
    {P : Nat → Int → Prop} (m : Nat) (hm : m ≤ 6) (hM : xm_M P m a_markWhole a_markSide a_markUnder a_markBelow a_markZeros) (k : Nat) (hk : k < 4)
    (hB : mk_B (a_squareTerm k).toInt (a_linearTerm k).toInt (a_constantTerm k).toInt)
    (hp : ∀ m' mw ms mu mb mz, m' ≤ m + 2 → xm_M (fun k' z => P k' z ∨ (k' = k ∧ mk_Z (a_squareTerm k).toInt (a_linearTerm k).toInt (a_constantTerm k).toInt z)) m' mw ms mu mb mz → post (nI m', f_made, f_depth, a_squareTerm, a_linearTerm, a_constantTerm, mw, ms, mu, mb, mz, a_stepKind, a_stepPolynomial, a_stepSet, a_heldCells)) :
    wpX_addZerosOf post (nI m, f_made, f_depth, a_squareTerm, a_linearTerm, a_constantTerm, a_markWhole, a_markSide, a_markUnder, a_markBelow, a_markZeros, a_stepKind, a_stepPolynomial, a_stepSet, a_heldCells) (nI k) := by
  have hin : vp_in (nI k) 4 := vp_in_nI hk (by decide)
  have cl : (nI k).toNatClampNeg = k := nI_clamp (by omega)
  have hB' := hB
  unfold mk_B at hB'
  have f := fun a' b' c' r1 r2 r3 r4 => xz_45 (post := post) (f_made := f_made) (f_depth := f_depth) (a_stepKind := a_stepKind) (a_stepPolynomial := a_stepPolynomial) (a_stepSet := a_stepSet) (a_heldCells := a_heldCells) m hm hM k hk hB a' b' c' r1 r2 r3 r4 hp
  unfold wpX_addZerosOf
  dsimp only
  rw [cl, ar_i_t (a_squareTerm k), ar_i_t (a_linearTerm k), ar_i_t (a_constantTerm k)]
  have s1 := sf_sg3 (a_squareTerm k).toInt
  have s2 := sf_sg3 (a_linearTerm k).toInt
  generalize (a_squareTerm k).toInt = a at *
  generalize (a_linearTerm k).toInt = b at *
  generalize (a_constantTerm k).toInt = c at *
  refine ⟨hin, nm_e ⟨hin, nm_e ⟨hin, nm_e ?_⟩⟩⟩
  refine ar_c (ar_i0 (a := a) (by omega)).2.2.2 (fun h => ?_) (fun h => ?_)
  · have : Int.sign a = -1 := by omega
    refine nm_r (ar_i_neg a) (nm_r (ar_i_neg b) (nm_r (ar_i_neg c) ?_))
    refine f _ _ _ ?_ ?_ ?_ ?_
    · intro _; rw [this]; omega
    · intro h; omega
    · intro h; omega
    · intro h; omega
  · refine ar_c (ar_i0 (a := a) (by omega)).2.2.1 (fun h2 => ?_) (fun h2 => ?_)
    · refine ar_c (ar_i0 (a := b) (by omega)).1 (fun h3 => ?_) (fun h3 => ?_)
      · refine f _ _ _ ?_ ?_ ?_ ?_
        · intro h; omega
        · intro h; exact h
        · intro _ h; exact h
        · intro _ h
          have : Int.sign b = 1 := by omega
          rw [this]; omega
      · have : Int.sign b = -1 := by omega
        refine nm_r (ar_i_neg a) (nm_r (ar_i_neg b) (nm_r (ar_i_neg c) ?_))
        refine f _ _ _ ?_ ?_ ?_ ?_
        · intro h; omega
        · intro h; omega
        · intro _ h; omega
        · intro _ h
          rw [this]; omega
    · have : Int.sign a = 1 := by omega
      refine f _ _ _ ?_ ?_ ?_ ?_
      · intro _; rw [this]; omega
      · intro h; omega
      · intro h; omega
      · intro h; omega
/-- the zeros of all four -/
def xz_P (sq li co : Nat → Int32) (k : Nat) (z : Int) : Prop := mk_Z (sq k).toInt (li k).toInt (co k).toInt z
def xz_B (sq li co : Nat → Int32) : Prop := ∀ k, k < 4 → mk_B (sq k).toInt (li k).toInt (co k).toInt
theorem xz_loop {post : Int32 → SX → Prop} {f_made f_depth : Int32} {a_squareTerm a_linearTerm a_constantTerm a_stepKind a_stepPolynomial a_stepSet a_heldCells : Nat → Int32}
    (hB : xz_B a_squareTerm a_linearTerm a_constantTerm)
    (hp : ∀ m' mw ms mu mb mz, m' ≤ 8 → xm_M (xz_P a_squareTerm a_linearTerm a_constantTerm) m' mw ms mu mb mz → post 0 (nI m', f_made, f_depth, a_squareTerm, a_linearTerm, a_constantTerm, mw, ms, mu, mb, mz, a_stepKind, a_stepPolynomial, a_stepSet, a_heldCells)) :
    ∀ d i, i + d = 4 → ∀ m mw ms mu mb mz, m ≤ 2 * i → xm_M (fun k z => k < i ∧ xz_P a_squareTerm a_linearTerm a_constantTerm k z) m mw ms mu mb mz →
      wX_set_63 post (d + 1) (nI i) (nI m) f_made f_depth a_squareTerm a_linearTerm a_constantTerm mw ms mu mb mz a_stepKind a_stepPolynomial a_stepSet a_heldCells := by
  intro d
  induction d with
  | zero =>
    intro i hi m mw ms mu mb mz hm hM
    have : i = 4 := by omega
    subst this
    refine br_t (by decide) ?_
    refine hp m mw ms mu mb mz (by omega) (xm_M_c ?_ hM)
    intro k z hk
    constructor
    · intro h; exact h.2
    · intro h; exact ⟨hk, h⟩
  | succ d ih =>
    intro i hi m mw ms mu mb mz hm hM
    refine br_f (nI_ge (b := 4) (by omega) (by decide)) ?_
    refine xz_zeros m (by omega) hM i (by omega) (hB i (by omega)) ?_
    intro m' mw' ms' mu' mb' mz' hm' hM'
    dsimp only
    refine nm_r (nI_1 i) ?_
    refine ih (i + 1) (by omega) m' mw' ms' mu' mb' mz' (by omega) (xm_M_c ?_ hM')
    intro k z hk
    constructor
    · rintro (⟨h, h2⟩ | ⟨h, h2⟩)
      · exact ⟨by omega, h2⟩
      · subst h
        exact ⟨by omega, h2⟩
    · rintro ⟨h, h2⟩
      by_cases e : k = i
      · subst e
        exact Or.inr ⟨rfl, h2⟩
      · exact Or.inl ⟨by omega, h2⟩
