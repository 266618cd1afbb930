/-! bits -/
def bt (x : Int32) (i : Nat) : Bool := x.toBitVec.getLsbD i
theorem b_ext {x y : Int32} (h : ∀ i, i < 32 → bt x i = bt y i) : x = y := Int32.toBitVec_inj.mp (BitVec.eq_of_getLsbD_eq (fun i hi => h i hi))
theorem b_or (x y : Int32) (i : Nat) : bt (x ||| y) i = (bt x i || bt y i) := by unfold bt; rw [Int32.toBitVec_or, BitVec.getLsbD_or]
theorem b_and (x y : Int32) (i : Nat) : bt (x &&& y) i = (bt x i && bt y i) := by unfold bt; rw [Int32.toBitVec_and, BitVec.getLsbD_and]
theorem b_xor (x y : Int32) (i : Nat) : bt (x ^^^ y) i = (bt x i ^^ bt y i) := by unfold bt; rw [Int32.toBitVec_xor, BitVec.getLsbD_xor]
theorem b_big {x : Int32} {i : Nat} (h : 32 ≤ i) : bt x i = false := BitVec.getLsbD_of_ge _ _ h
theorem b_m1 : ∀ i, i < 32 → bt (-1) i = true := by decide +kernel
theorem b_0 (i : Nat) : bt 0 i = false := BitVec.getLsbD_zero
theorem b_1 : ∀ i, i < 32 → bt 1 i = decide (i = 0) := by decide +kernel
theorem s_l : ∀ n, n < 32 → ((nI n &&& 31).toBitVec.smod 32).toNat = n := by decide +kernel
theorem b_shl (n : Nat) (hn : n < 32) (x : Int32) {i : Nat} (hi : i < 32) : bt (x <<< (nI n &&& 31)) i = (decide (n ≤ i) && bt x (i - n)) := by
  unfold bt
  rw [Int32.toBitVec_shiftLeft]
  show (x.toBitVec <<< ((nI n &&& 31).toBitVec.smod 32).toNat).getLsbD i = _
  rw [s_l n hn, BitVec.getLsbD_shiftLeft]
  rcases Nat.lt_or_ge i n with h | h
  · simp [h, Nat.not_le.mpr h]
  · simp [hi, h, Nat.not_lt.mpr h]
theorem b_sshr (n : Nat) (hn : n < 32) (x : Int32) {i : Nat} (hi : i < 32) : bt (x >>> (nI n &&& 31)) i = if n + i < 32 then bt x (n + i) else bt x 31 := by
  unfold bt
  rw [Int32.toBitVec_shiftRight]
  show (x.toBitVec.sshiftRight ((nI n &&& 31).toBitVec.smod 32).toNat).getLsbD i = _
  rw [s_l n hn, BitVec.getLsbD_sshiftRight, BitVec.msb_eq_getLsbD_last]
  simp [hi]
def bi_n (b : Bool) : Int32 := if b then 1 else 0
theorem bi_one (x : Int32) (k : Nat) (hk : k < 32) : (x >>> (nI k &&& 31)) &&& 1 = bi_n (bt x k) := by
  apply b_ext
  intro i hi
  rw [b_and, b_sshr k hk x hi, b_1 i hi]
  unfold bi_n
  by_cases z : i = 0
  · subst z
    rw [if_pos (by omega)]
    cases bt x (k + 0) <;> simp_all [b_0, b_1]
  · simp only [z, decide_false, Bool.and_false]
    split
    · rw [b_1 i hi, decide_eq_false z]
    · rw [b_0]
theorem bi_eq1 (b : Bool) : bi_n b = 1 ↔ b = true := by cases b <;> decide
theorem bi_eq0 (b : Bool) : bi_n b = 0 ↔ b = false := by cases b <;> decide
theorem bi_pow (k : Nat) (hk : k < 32) (i : Nat) (hi : i < 32) : bt ((1 : Int32) <<< (nI k &&& 31)) i = decide (i = k) := by
  rw [b_shl k hk 1 hi, b_1 (i - k) (by omega)]
  by_cases h : k ≤ i
  · by_cases h2 : i = k
    · subst h2; simp
    · have : ¬ i - k = 0 := by omega
      simp [h2, this]
  · have : ¬ i = k := by omega
    simp [h, this]
/-! the component's marks -/
noncomputable def xm_k (mw ms mu mb : Nat → Int32) (i : Nat) : Int := sg_ky (mw i).toInt (ms i).toInt (mu i).toInt (mb i).toInt
def xm_V (mw ms mu mb : Nat → Int32) (m : Nat) : Prop := ∀ i, i < m → sf_V (mw i).toInt (ms i).toInt (mu i).toInt (mb i).toInt
theorem ar_1n (n : Nat) : ar_i (n : Int) = nI n := (ar_n n).symm
theorem xm_cell {post : Int32 → Prop} {f_made f_depth : Int32} {a_squareTerm a_linearTerm a_constantTerm a_markWhole a_markSide a_markUnder a_markBelow a_markZeros a_stepKind a_stepPolynomial a_stepSet a_heldCells : Nat → Int32}
    (m : Nat) (hm : m ≤ 8) (hV : xm_V a_markWhole a_markSide a_markUnder a_markBelow m) (hS : mk_S (xm_k a_markWhole a_markSide a_markUnder a_markBelow) m)
    (P S D Q : Int) (v1 : sf_V P S D Q) (hp : ∀ c, c ≤ 2 * m → mk_at (xm_k a_markWhole a_markSide a_markUnder a_markBelow) m (sg_ky P S D Q) c → post (nI c)) :
    wpX_cellWith post (nI m, f_made, f_depth, a_squareTerm, a_linearTerm, a_constantTerm, a_markWhole, a_markSide, a_markUnder, a_markBelow, a_markZeros, a_stepKind, a_stepPolynomial, a_stepSet, a_heldCells) (ar_i P) (ar_i S) (ar_i D) (ar_i Q) := by
  refine loop_0 (fun n i s => wX_cellWith_6 post (ar_i P) (ar_i S) (ar_i D) (ar_i Q) (nI m) f_made f_depth a_squareTerm a_linearTerm a_constantTerm a_markWhole a_markSide a_markUnder a_markBelow a_markZeros a_stepKind a_stepPolynomial a_stepSet a_heldCells n s (nI i))
    (fun i s => ∃ c, c ≤ 2 * i ∧ s = nI c ∧ mk_at (xm_k a_markWhole a_markSide a_markUnder a_markBelow) i (sg_ky P S D Q) c) m 0 ?_ ?_ ?_
  · refine ⟨0, by omega, rfl, Or.inr ⟨0, by omega, by omega, ?_, ?_⟩⟩
    · intro l hl; omega
    · intro l hl hl2; omega
  · rintro n s ⟨c, hc, rfl, h⟩
    exact br_t (nI_le (Nat.le_refl m) (by omega)) (hp c hc h)
  · rintro n i s hi ⟨c, hc, rfl, h⟩ k
    refine br_f (nI_ge hi (by omega)) ?_
    refine px_cmp i (by omega) P S D Q v1 (hV i hi) ?_
    rw [kk_cx v1 (hV i hi)]
    have hk : sg_ky (a_markWhole i).toInt (a_markSide i).toInt (a_markUnder i).toInt (a_markBelow i).toInt = xm_k a_markWhole a_markSide a_markUnder a_markBelow i := rfl
    rw [hk]
    generalize sg_ky P S D Q = z at *
    have s3 := sf_sg3 (z - xm_k a_markWhole a_markSide a_markUnder a_markBelow i)
    have hb := ar_i0 (a := Int.sign (z - xm_k a_markWhole a_markSide a_markUnder a_markBelow i)) (by omega)
    have e1 : nI i + 1 = nI (i + 1) := nI_1 i
    have e2 : (2 : Int32) * nI i = nI (2 * i) := pk_mul 2 i
    refine ar_c hb.2.1 (fun p => ar_c hb.2.2.1 (fun q => ?_) (fun q => ?_)) (fun p => ?_)
    · refine nm_r (e' := nI (2 * i + 1)) (by rw [e2, nI_1]) (nm_r e1 (k _ ⟨2 * i + 1, by omega, rfl, Or.inl ⟨i, by omega, by omega, rfl⟩⟩))
    · refine nm_r e1 (k _ ⟨c, by omega, rfl, ?_⟩)
      rcases h with ⟨j, h1, h2, h3⟩ | ⟨j, h1, h2, h3, h4⟩
      · exact Or.inl ⟨j, by omega, h2, h3⟩
      · refine Or.inr ⟨j, by omega, h2, h3, ?_⟩
        intro l hl hl2
        rcases Nat.lt_or_ge l i with t | t
        · exact h4 l hl t
        · have : l = i := by omega
          subst this
          omega
    · refine nm_r (e' := nI (2 * i + 2)) (by rw [e2]; exact nI_add (2 * i) 2) (nm_r e1 (k _ ⟨2 * i + 2, by omega, rfl, Or.inr ⟨i + 1, by omega, by omega, ?_, ?_⟩⟩))
      · intro l hl
        rcases Nat.lt_or_ge l i with t | t
        · have := hS l i t (by omega)
          omega
        · have : l = i := by omega
          subst this
          omega
      · intro l hl hl2; omega
/-- an array with a gap made at t -/
def xm_sh {α : Type} (a : Nat → α) (t m : Nat) : Nat → α := fun i => if t < i ∧ i ≤ m then a (i - 1) else a i
theorem xm_sh0 {α : Type} (a : Nat → α) (m : Nat) : xm_sh a m m = a := by
  funext i
  unfold xm_sh
  rw [if_neg (by omega)]
theorem xm_sh1 (a : Nat → Int32) (t m : Nat) (h : t + 1 ≤ m) : upd (xm_sh a (t + 1) m) (t + 1) (xm_sh a (t + 1) m t) = xm_sh a t m := by
  funext i
  unfold upd xm_sh
  by_cases z : i = t + 1
  · subst z
    rw [if_pos rfl, if_neg (by omega), if_pos (by omega)]
    rfl
  · rw [if_neg z]
    by_cases w : t + 1 < i ∧ i ≤ m
    · rw [if_pos w, if_pos (by omega)]
    · rw [if_neg w, if_neg (by omega)]
theorem xm_room {post : SX → Prop} {f_made f_depth : Int32} {a_squareTerm a_linearTerm a_constantTerm a_markWhole a_markSide a_markUnder a_markBelow a_markZeros a_stepKind a_stepPolynomial a_stepSet a_heldCells : Nat → Int32}
    (m j : Nat) (hm : m < 8) (hj : j ≤ m)
    (hp : post (nI (m + 1), f_made, f_depth, a_squareTerm, a_linearTerm, a_constantTerm, xm_sh a_markWhole j m, xm_sh a_markSide j m, xm_sh a_markUnder j m, xm_sh a_markBelow j m, xm_sh a_markZeros j m, a_stepKind, a_stepPolynomial, a_stepSet, a_heldCells)) :
    wpX_makeRoomAt post (nI m, f_made, f_depth, a_squareTerm, a_linearTerm, a_constantTerm, a_markWhole, a_markSide, a_markUnder, a_markBelow, a_markZeros, a_stepKind, a_stepPolynomial, a_stepSet, a_heldCells) (nI j) := by
  have main : ∀ d t, t = j + d → t ≤ m → wX_makeRoomAt_5 post (nI j) (nI m) f_made f_depth (d + 1) (nI t) a_squareTerm a_linearTerm a_constantTerm (xm_sh a_markWhole t m) (xm_sh a_markSide t m) (xm_sh a_markUnder t m) (xm_sh a_markBelow t m) (xm_sh a_markZeros t m) a_stepKind a_stepPolynomial a_stepSet a_heldCells := by
    intro d
    induction d with
    | zero =>
      intro t ht hm'
      have : t = j := by omega
      subst this
      refine br_t (nI_le (Nat.le_refl t) (by omega)) (nm_r (nI_1 m) hp)
    | succ d ih =>
      intro t ht hm'
      obtain ⟨s, rfl⟩ : ∃ s, t = s + 1 := ⟨t - 1, by omega⟩
      have g := ih s (by omega) (by omega)
      have i1 : vp_in (nI (s + 1) - 1) 8 := by rw [nI_pred]; exact vp_in_nI (by omega) (by decide)
      have i2 : vp_in (nI (s + 1)) 8 := vp_in_nI (by omega) (by decide)
      have c1 : (nI (s + 1) - 1).toNatClampNeg = s := by rw [nI_pred]; exact nI_clamp (by omega)
      have c2 : (nI (s + 1)).toNatClampNeg = s + 1 := nI_clamp (by omega)
      refine br_f (nI_ge (by omega) (by omega)) ?_
      rw [c1, c2]
      refine ⟨i1, i2, nm_r (xm_sh1 _ s m hm') ⟨i1, i2, nm_r (xm_sh1 _ s m hm') ⟨i1, i2, nm_r (xm_sh1 _ s m hm') ⟨i1, i2, nm_r (xm_sh1 _ s m hm') ⟨i1, i2, nm_r (xm_sh1 _ s m hm') (nm_r (pk_m1 s) g)⟩⟩⟩⟩⟩
  have := main (m - j) m (by omega) (Nat.le_refl m)
  rw [xm_sh0, xm_sh0, xm_sh0, xm_sh0, xm_sh0] at this
  exact ⟨_, this⟩
