/-! the component's set -/
def xm_M (P : Nat → Int → Prop) (m : Nat) (mw ms mu mb mz : Nat → Int32) : Prop :=
  xm_V mw ms mu mb m ∧ mk_S (xm_k mw ms mu mb) m ∧ mk_E (xm_k mw ms mu mb) m (fun z => ∃ k, k < 4 ∧ P k z) ∧
  ∀ i, i < m → ∀ k, k < 4 → (bt (mz i) k = true ↔ P k (xm_k mw ms mu mb i))
theorem mk_E_c {k : Nat → Int} {m : Nat} {Q Q' : Int → Prop} (h : ∀ z, Q z ↔ Q' z) (e : mk_E k m Q) : mk_E k m Q' :=
  ⟨fun i hi => (h _).mp (e.1 i hi), fun w hw => e.2 w ((h w).mpr hw)⟩
theorem xm_M_c {P P' : Nat → Int → Prop} {m : Nat} {mw ms mu mb mz : Nat → Int32} (h : ∀ k z, k < 4 → (P k z ↔ P' k z)) (hM : xm_M P m mw ms mu mb mz) : xm_M P' m mw ms mu mb mz := by
  obtain ⟨h1, h2, h3, h4⟩ := hM
  refine ⟨h1, h2, mk_E_c ?_ h3, ?_⟩
  · intro z
    constructor
    · rintro ⟨k, hk, hz⟩; exact ⟨k, hk, (h k z hk).mp hz⟩
    · rintro ⟨k, hk, hz⟩; exact ⟨k, hk, (h k z hk).mpr hz⟩
  · intro i hi k hk
    rw [h4 i hi k hk]; exact h k _ hk
def xm_ins (a : Nat → Int32) (j m : Nat) (x : Int32) : Nat → Int32 := upd (xm_sh a j m) j x
theorem xm_i1 {a : Nat → Int32} {j m i : Nat} {x : Int32} (h : i < j) : xm_ins a j m x i = a i := by
  unfold xm_ins upd xm_sh
  rw [if_neg (by omega), if_neg (by omega)]
theorem xm_i2 {a : Nat → Int32} {j m : Nat} {x : Int32} : xm_ins a j m x j = x := if_pos rfl
theorem xm_i3 {a : Nat → Int32} {j m i : Nat} {x : Int32} (h : j < i) (h2 : i < m + 1) : xm_ins a j m x i = a (i - 1) := by
  unfold xm_ins upd xm_sh
  rw [if_neg (by omega), if_pos (by omega)]
theorem xm_M_ins {P : Nat → Int → Prop} {m : Nat} {mw ms mu mb mz : Nat → Int32} (hM : xm_M P m mw ms mu mb mz) (p s d q : Int) (v : sf_V p s d q) (k j : Nat) (hk : k < 4) (hj : j ≤ m) (w : Int32)
    (hw : ∀ k', k' < 4 → (bt w k' = true ↔ k' = k))
    (lo : ∀ l, l < j → xm_k mw ms mu mb l < sg_ky p s d q) (hi : ∀ l, j ≤ l → l < m → sg_ky p s d q < xm_k mw ms mu mb l) :
    xm_M (fun k' z => P k' z ∨ (k' = k ∧ z = sg_ky p s d q)) (m + 1) (xm_ins mw j m (ar_i p)) (xm_ins ms j m (ar_i s)) (xm_ins mu j m (ar_i d)) (xm_ins mb j m (ar_i q)) (xm_ins mz j m w) := by
  obtain ⟨h1, h2, h3, h4⟩ := hM
  obtain ⟨b1, b2, b3, b4⟩ := sf_V_b v
  have t1 : (ar_i p).toInt = p := ar_ti (by omega)
  have t2 : (ar_i s).toInt = s := ar_ti (by omega)
  have t3 : (ar_i d).toInt = d := ar_ti (by omega)
  have t4 : (ar_i q).toInt = q := ar_ti (by omega)
  have k1 : ∀ i, i < j → xm_k (xm_ins mw j m (ar_i p)) (xm_ins ms j m (ar_i s)) (xm_ins mu j m (ar_i d)) (xm_ins mb j m (ar_i q)) i = xm_k mw ms mu mb i := by
    intro i hi
    unfold xm_k
    rw [xm_i1 hi, xm_i1 hi, xm_i1 hi, xm_i1 hi]
  have k2 : xm_k (xm_ins mw j m (ar_i p)) (xm_ins ms j m (ar_i s)) (xm_ins mu j m (ar_i d)) (xm_ins mb j m (ar_i q)) j = sg_ky p s d q := by
    unfold xm_k
    rw [xm_i2, xm_i2, xm_i2, xm_i2, t1, t2, t3, t4]
  have k3 : ∀ i, j < i → i < m + 1 → xm_k (xm_ins mw j m (ar_i p)) (xm_ins ms j m (ar_i s)) (xm_ins mu j m (ar_i d)) (xm_ins mb j m (ar_i q)) i = xm_k mw ms mu mb (i - 1) := by
    intro i hi hi2
    unfold xm_k
    rw [xm_i3 hi hi2, xm_i3 hi hi2, xm_i3 hi hi2, xm_i3 hi hi2]
  obtain ⟨g1, g2⟩ := mk_ins h2 h3 hj lo hi k1 k2 k3
  have nz : ∀ k', k' < 4 → ¬ P k' (sg_ky p s d q) := by
    intro k' hk' hP
    obtain ⟨l, hl, el⟩ := h3.2 _ ⟨k', hk', hP⟩
    rcases Nat.lt_or_ge l j with t | t
    · have := lo l t; omega
    · have := hi l t hl; omega
  refine ⟨?_, g1, ?_, ?_⟩
  · intro i hi'
    rcases Nat.lt_trichotomy i j with t | t | t
    · rw [xm_i1 t, xm_i1 t, xm_i1 t, xm_i1 t]; exact h1 i (by omega)
    · subst t
      rw [xm_i2, xm_i2, xm_i2, xm_i2, t1, t2, t3, t4]; exact v
    · rw [xm_i3 t hi', xm_i3 t hi', xm_i3 t hi', xm_i3 t hi']; exact h1 (i - 1) (by omega)
  · refine mk_E_c ?_ g2
    intro z
    constructor
    · rintro (⟨k', a, b⟩ | rfl)
      · exact ⟨k', a, Or.inl b⟩
      · exact ⟨k, hk, Or.inr ⟨rfl, rfl⟩⟩
    · rintro ⟨k', a, b | ⟨_, b⟩⟩
      · exact Or.inl ⟨k', a, b⟩
      · exact Or.inr b
  · intro i hi' k' hk'
    rcases Nat.lt_trichotomy i j with t | t | t
    · rw [xm_i1 t, k1 i t, h4 i (by omega) k' hk']
      have := lo i t
      constructor
      · intro h; exact Or.inl h
      · rintro (h | ⟨_, h⟩)
        · exact h
        · omega
    · subst t
      rw [xm_i2, k2, hw k' hk']
      constructor
      · intro h; exact Or.inr ⟨h, rfl⟩
      · rintro (h | ⟨h, _⟩)
        · exact absurd h (nz k' hk')
        · exact h
    · rw [xm_i3 t hi', k3 i t hi', h4 (i - 1) (by omega) k' hk']
      have := hi (i - 1) (by omega) (by omega)
      constructor
      · intro h; exact Or.inl h
      · rintro (h | ⟨_, h⟩)
        · exact h
        · omega
theorem xm_M_bit {P : Nat → Int → Prop} {m : Nat} {mw ms mu mb mz : Nat → Int32} (hM : xm_M P m mw ms mu mb mz) (z : Int) (k j : Nat) (hk : k < 4) (hj : j < m) (w : Int32)
    (hw : ∀ k', k' < 4 → (bt w k' = true ↔ (bt (mz j) k' = true ∨ k' = k))) (hz : xm_k mw ms mu mb j = z) :
    xm_M (fun k' z' => P k' z' ∨ (k' = k ∧ z' = z)) m mw ms mu mb (upd mz j w) := by
  obtain ⟨h1, h2, h3, h4⟩ := hM
  refine ⟨h1, h2, ⟨?_, ?_⟩, ?_⟩
  · intro i hi
    obtain ⟨k', a, b⟩ := h3.1 i hi
    exact ⟨k', a, Or.inl b⟩
  · rintro w ⟨k', a, b | ⟨_, b⟩⟩
    · exact h3.2 w ⟨k', a, b⟩
    · exact ⟨j, hj, by rw [hz, b]⟩
  · intro i hi k' hk'
    by_cases e : i = j
    · subst e
      rw [pk_us, hw k' hk', h4 i hi k' hk', hz]
      constructor
      · rintro (h | h)
        · exact Or.inl h
        · exact Or.inr ⟨h, rfl⟩
      · rintro (h | ⟨h, _⟩)
        · exact Or.inl h
        · exact Or.inr h
    · rw [pk_un e, h4 i hi k' hk']
      have mm := mk_mono h2 hi hj
      constructor
      · intro h; exact Or.inl h
      · rintro (h | ⟨_, h⟩)
        · exact h
        · rw [← hz] at h
          exact absurd (mm.2.mp h) e
theorem xm_add {post : SX → Prop} {f_made f_depth : Int32} {a_squareTerm a_linearTerm a_constantTerm a_markWhole a_markSide a_markUnder a_markBelow a_markZeros a_stepKind a_stepPolynomial a_stepSet a_heldCells : Nat → Int32}
    {P : Nat → Int → Prop} (m : Nat) (hm : m < 8) (hM : xm_M P m a_markWhole a_markSide a_markUnder a_markBelow a_markZeros) (k : Nat) (hk : k < 4) (p s d q : Int) (v : sf_V p s d q)
    (hp : ∀ m' mw ms mu mb mz, m' ≤ m + 1 → xm_M (fun k' z => P k' z ∨ (k' = k ∧ z = sg_ky p s d q)) m' mw ms mu mb mz → post (nI m', f_made, f_depth, a_squareTerm, a_linearTerm, a_constantTerm, mw, ms, mu, mb, mz, a_stepKind, a_stepPolynomial, a_stepSet, a_heldCells)) :
    wpX_addMark post (nI m, f_made, f_depth, a_squareTerm, a_linearTerm, a_constantTerm, a_markWhole, a_markSide, a_markUnder, a_markBelow, a_markZeros, a_stepKind, a_stepPolynomial, a_stepSet, a_heldCells) (nI k) (ar_i p) (ar_i s) (ar_i d) (ar_i q) := by
  unfold wpX_addMark
  dsimp only
  refine xm_cell m (by omega) hM.1 hM.2.1 p s d q v ?_
  intro c hc hat
  have e1 : nI c / 2 = nI (c / 2) := pk_div (d := 2) (by omega) (by decide) (by decide)
  have e2 : nI c - nI c / 2 * 2 = nI (c % 2) := pk_rem (d := 2) (by omega) (by decide) (by decide)
  rw [e2]
  refine ⟨by decide, nm_r e1 ⟨by decide, ?_⟩⟩
  rcases hat with ⟨j, h1, h2, h3⟩ | ⟨j, h1, h2, h3, h4⟩
  · have ec : c / 2 = j := by omega
    rw [ec]
    refine br_f (nI_ne0 (by omega) (by omega)) ?_
    have hin : vp_in (nI j) 8 := vp_in_nI (by omega) (by decide)
    have cl : (nI j).toNatClampNeg = j := nI_clamp (by omega)
    unfold wX_addMark_73
    rw [cl]
    refine ⟨hin, hin, nm_e ?_⟩
    refine hp m _ _ _ _ _ (by omega) (xm_M_bit hM _ k j hk h1 _ ?_ h2)
    intro k' hk'
    rw [b_or, bi_pow k (by omega) k' (by omega), Bool.or_eq_true, decide_eq_true_eq]
  · have ec : c / 2 = j := by omega
    have ec2 : c % 2 = 0 := by omega
    rw [ec, ec2]
    refine br_t rfl ?_
    have hin : vp_in (nI j) 8 := vp_in_nI (by omega) (by decide)
    have cl : (nI j).toNatClampNeg = j := nI_clamp (by omega)
    refine xm_room m j hm h1 ?_
    dsimp only
    unfold wX_addMark_73
    rw [cl]
    refine ⟨hin, nm_e ⟨hin, nm_e ⟨hin, nm_e ⟨hin, nm_e ⟨hin, nm_e ⟨hin, hin, nm_e ?_⟩⟩⟩⟩⟩⟩
    have uu : ∀ (a : Nat → Int32) (x y : Int32), upd (upd a j x) j y = upd a j y := by
      intro a x y
      funext i
      unfold upd
      by_cases z : i = j
      · rw [if_pos z, if_pos z]
      · rw [if_neg z, if_neg z, if_neg z]
    rw [pk_us, uu]
    refine hp (m + 1) _ _ _ _ _ (by omega) (xm_M_ins hM p s d q v k j hk h1 _ ?_ h3 h4)
    intro k' hk'
    rw [b_or, b_0, bi_pow k (by omega) k' (by omega), Bool.false_or, decide_eq_true_eq]
