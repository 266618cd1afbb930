/-! machine numbers as integers -/
theorem pk_us {f : Nat → Int32} {k : Nat} {x : Int32} : upd f k x k = x := if_pos rfl
theorem pk_un {f : Nat → Int32} {k j : Nat} {x : Int32} (h : j ≠ k) : upd f k x j = f j := if_neg h
theorem pk_uLs {f : Nat → Int64} {k : Nat} {x : Int64} : vp_updL f k x k = x := if_pos rfl
theorem pk_uLn {f : Nat → Int64} {k j : Nat} {x : Int64} (h : j ≠ k) : vp_updL f k x j = f j := if_neg h
theorem pk_sub {a b : Nat} (h : b ≤ a) : nI a - nI b = nI (a - b) := by
  obtain ⟨c, rfl⟩ : ∃ c, a = c + b := ⟨a - b, by omega⟩
  rw [← nI_add, Int32.add_sub_cancel, Nat.add_sub_cancel]
theorem pk_m1 (n : Nat) : nI (n + 1) + (-1) = nI n := by
  rw [← nI_1, Int32.add_assoc, show (1 : Int32) + (-1) = 0 from rfl, Int32.add_zero]
theorem pk_mul (a b : Nat) : nI a * nI b = nI (a * b) := (Int32.ofNat_mul a b).symm
theorem pk_div {a d : Nat} (ha : a < 2 ^ 31) (h0 : 0 < d) (hd : d < 2 ^ 31) : nI a / nI d = nI (a / d) := by
  apply Int32.toInt_inj.mp
  rw [lg_idiv_nonneg (by rw [nI_toInt ha]; omega) (by rw [nI_toInt hd]; omega), nI_toInt ha, nI_toInt hd, nI_toInt (Nat.lt_of_le_of_lt (Nat.div_le_self a d) ha)]
  first | rfl | exact (Int.natCast_ediv _ _).symm
theorem pk_rem {a d : Nat} (ha : a < 2 ^ 31) (h0 : 0 < d) (hd : d < 2 ^ 31) : nI a - nI a / nI d * nI d = nI (a % d) := by
  rw [pk_div ha h0 hd, pk_mul, pk_sub (Nat.div_mul_le_self a d)]
  exact congrArg nI (by have := Nat.div_add_mod' a d; omega)
theorem pk_le {x y : Int32} {A B : Prop} (a b : Nat) (f : a ≤ b → A) (g : b < a → B) (hx : x = nI a := by rfl) (hy : y = nI b := by rfl) (ha : a < 2 ^ 31 := by omega) (hb : b < 2 ^ 31 := by omega) : (x ≤ y → A) ∧ (¬ x ≤ y → B) := by
  subst hx hy
  rw [nI_leI ha hb]
  exact ⟨f, fun z => g (by omega)⟩
theorem pk_lt {x y : Int32} {A B : Prop} (a b : Nat) (f : a < b → A) (g : b ≤ a → B) (hx : x = nI a := by rfl) (hy : y = nI b := by rfl) (ha : a < 2 ^ 31 := by omega) (hb : b < 2 ^ 31 := by omega) : (x < y → A) ∧ (¬ x < y → B) := by
  subst hx hy
  rw [nI_ltI ha hb]
  exact ⟨f, fun z => g (by omega)⟩
theorem pk_eq {x y : Int32} {A B : Prop} (a b : Nat) (f : a = b → A) (g : a ≠ b → B) (hx : x = nI a := by rfl) (hy : y = nI b := by rfl) (ha : a < 2 ^ 31 := by omega) (hb : b < 2 ^ 31 := by omega) : (x = y → A) ∧ (¬ x = y → B) := by
  subst hx hy
  rw [nI_eq ha hb]
  exact ⟨f, g⟩
theorem pk_in {x : Int32} (n N : Nat) (h : n < N) (hx : x = nI n := by rfl) (hN : N < 2 ^ 31 := by omega) : vp_in x N := by
  subst hx
  exact vp_in_nI h hN
theorem pk_cl {x : Int32} (n : Nat) (hx : x = nI n := by rfl) (h : n < 2 ^ 31 := by omega) : x.toNatClampNeg = n := by
  subst hx
  exact nI_clamp h
def ar_i (z : Int) : Int32 := Int32.ofInt z
def ar_l (z : Int) : Int64 := Int64.ofInt z
theorem ar_l_add (a b : Int) : ar_l a + ar_l b = ar_l (a + b) := (Int64.ofInt_add a b).symm
theorem ar_l_sub (a b : Int) : ar_l a - ar_l b = ar_l (a - b) := (Int64.ofInt_sub a b).symm
theorem ar_l_mul (a b : Int) : ar_l a * ar_l b = ar_l (a * b) := (Int64.ofInt_mul a b).symm
theorem ar_l_neg (a : Int) : -ar_l a = ar_l (-a) := (Int64.ofInt_neg a).symm
theorem ar_i_add (a b : Int) : ar_i a + ar_i b = ar_i (a + b) := (Int32.ofInt_add a b).symm
theorem ar_i_sub (a b : Int) : ar_i a - ar_i b = ar_i (a - b) := (Int32.ofInt_sub a b).symm
theorem ar_i_mul (a b : Int) : ar_i a * ar_i b = ar_i (a * b) := (Int32.ofInt_mul a b).symm
theorem ar_i_neg (a : Int) : -ar_i a = ar_i (-a) := (Int32.ofInt_neg a).symm
theorem ar_i_t (x : Int32) : x = ar_i x.toInt := (Int32.ofInt_toInt x).symm
theorem ar_l_t (x : Int64) : x = ar_l x.toInt := (Int64.ofInt_toInt x).symm
theorem ar_64 (x : Int32) : x.toInt64 = ar_l x.toInt := rfl
theorem ar_ti {a : Int} (h : a.natAbs < 2 ^ 31) : (ar_i a).toInt = a := Int32.toInt_ofInt_of_le (by omega) (by omega)
theorem ar_tl {a : Int} (h : a.natAbs < 2 ^ 63) : (ar_l a).toInt = a := Int64.toInt_ofInt_of_le (by omega) (by omega)
theorem ar_il {a : Int} (h : a.natAbs < 2 ^ 31) : (ar_i a).toInt64 = ar_l a := by rw [ar_64, ar_ti h]
theorem ar_n (n : Nat) : nI n = ar_i (n : Int) := (Int32.ofInt_eq_ofNat).symm
theorem ar_lle {a b : Int} (ha : a.natAbs < 2 ^ 63) (hb : b.natAbs < 2 ^ 63) : ar_l a ≤ ar_l b ↔ a ≤ b := by
  rw [Int64.le_iff_toInt_le, ar_tl ha, ar_tl hb]
theorem ar_llt {a b : Int} (ha : a.natAbs < 2 ^ 63) (hb : b.natAbs < 2 ^ 63) : ar_l a < ar_l b ↔ a < b := by
  rw [Int64.lt_iff_toInt_lt, ar_tl ha, ar_tl hb]
theorem ar_leq {a b : Int} (ha : a.natAbs < 2 ^ 63) (hb : b.natAbs < 2 ^ 63) : ar_l a = ar_l b ↔ a = b := by
  rw [← Int64.toInt_inj, ar_tl ha, ar_tl hb]
theorem ar_ile {a b : Int} (ha : a.natAbs < 2 ^ 31) (hb : b.natAbs < 2 ^ 31) : ar_i a ≤ ar_i b ↔ a ≤ b := by
  rw [Int32.le_iff_toInt_le, ar_ti ha, ar_ti hb]
theorem ar_ilt {a b : Int} (ha : a.natAbs < 2 ^ 31) (hb : b.natAbs < 2 ^ 31) : ar_i a < ar_i b ↔ a < b := by
  rw [Int32.lt_iff_toInt_lt, ar_ti ha, ar_ti hb]
theorem ar_ieq {a b : Int} (ha : a.natAbs < 2 ^ 31) (hb : b.natAbs < 2 ^ 31) : ar_i a = ar_i b ↔ a = b := by
  rw [← Int32.toInt_inj, ar_ti ha, ar_ti hb]
theorem ar_l0 {a : Int} (ha : a.natAbs < 2 ^ 63) : ((0 : Int64) ≤ ar_l a ↔ 0 ≤ a) ∧ (ar_l a ≤ (0 : Int64) ↔ a ≤ 0) ∧ (ar_l a = (0 : Int64) ↔ a = 0) ∧ (ar_l a < (0 : Int64) ↔ a < 0) :=
  ⟨ar_lle (a := 0) (by decide) ha, ar_lle (b := 0) ha (by decide), ar_leq (b := 0) ha (by decide), ar_llt (b := 0) ha (by decide)⟩
theorem ar_i0 {a : Int} (ha : a.natAbs < 2 ^ 31) : ((0 : Int32) ≤ ar_i a ↔ 0 ≤ a) ∧ (ar_i a ≤ (0 : Int32) ↔ a ≤ 0) ∧ (ar_i a = (0 : Int32) ↔ a = 0) ∧ (ar_i a < (0 : Int32) ↔ a < 0) :=
  ⟨ar_ile (a := 0) (by decide) ha, ar_ile (b := 0) ha (by decide), ar_ieq (b := 0) ha (by decide), ar_ilt (b := 0) ha (by decide)⟩
theorem ar_b {a b : Int} {A B : Nat} (ha : a.natAbs ≤ A) (hb : b.natAbs ≤ B) : (a * b).natAbs ≤ A * B := by
  rw [Int.natAbs_mul]
  exact Nat.mul_le_mul ha hb
/-- branches by integers -/
theorem ar_c {c d A B : Prop} (e : c ↔ d) (f : d → A) (g : ¬ d → B) : (c → A) ∧ (¬ c → B) := ⟨fun h => f (e.mp h), fun h => g (fun z => h (e.mpr z))⟩
theorem ar_sg (x : Int) : (Int.sign x).natAbs ≤ 1 := by
  have := sf_sg3 x
  omega
theorem sf_sor_b (x u y v : Int) : (sf_sor x u y v).natAbs ≤ 1 := ar_sg _
theorem px_sor {post : Int32 → Prop} (x u y v : Int) (hx : x.natAbs < 2 ^ 62) (hy : y.natAbs < 2 ^ 62) (h1 : (x * x * u).natAbs < 2 ^ 61) (h2 : (y * y * v).natAbs < 2 ^ 61)
    (hp : post (ar_i (sf_sor x u y v))) : wpX_signOfRoots post (ar_l x) (ar_l u) (ar_l y) (ar_l v) := by
  have e1 : -x * x * u = -(x * x * u) := by rw [Int.neg_mul, Int.neg_mul]
  have e2 : -y * y * v = -(y * y * v) := by rw [Int.neg_mul, Int.neg_mul]
  have last : ∀ a b : Int, a.natAbs < 2 ^ 61 → b.natAbs < 2 ^ 61 → post (ar_i (Int.sign (a + b))) → wX_signOfRoots_49 post (ar_l a) (ar_l b) := by
    intro a b ha hb hp
    have s3 := sf_sg3 (a + b)
    refine nm_r (ar_l_add a b) ?_
    have k := ar_l0 (a := a + b) (by omega)
    refine ar_c k.1 (fun p => ar_c k.2.1 (fun q => ?_) (fun q => ?_)) (fun p => ?_)
    · have : Int.sign (a + b) = 0 := by omega
      rw [this] at hp; exact hp
    · have : Int.sign (a + b) = 1 := by omega
      rw [this] at hp; exact hp
    · have : Int.sign (a + b) = -1 := by omega
      rw [this] at hp; exact hp
  have mid : ∀ a : Int, a.natAbs < 2 ^ 61 → post (ar_i (Int.sign (a + (if 0 ≤ y then y * y * v else -y * y * v)))) → wX_signOfRoots_20 post (ar_l y) (ar_l v) (ar_l a) := by
    intro a ha hp
    refine ar_c (ar_l0 (a := y) (by omega)).1 (fun p => ?_) (fun p => ?_)
    · rw [if_pos p] at hp
      rw [ar_l_mul, ar_l_mul]
      exact last _ _ ha h2 hp
    · rw [if_neg p] at hp
      rw [ar_l_neg, ar_l_mul, ar_l_mul]
      exact last _ _ ha (by rw [e2]; omega) hp
  refine ar_c (ar_l0 (a := x) (by omega)).1 (fun p => ?_) (fun p => ?_)
  · unfold sf_sor at hp
    rw [if_pos p] at hp
    rw [ar_l_mul, ar_l_mul]
    exact mid _ h1 hp
  · unfold sf_sor at hp
    rw [if_neg p] at hp
    rw [ar_l_neg, ar_l_mul, ar_l_mul]
    exact mid _ (by rw [e1]; omega) hp
theorem sf_V_b {p s d q : Int} (h : sf_V p s d q) : p.natAbs ≤ 100 ∧ s.natAbs ≤ 1 ∧ d.natAbs ≤ 4500 ∧ q.natAbs ≤ 100 := by
  unfold sf_V at h
  omega
theorem px_cmp {post : Int32 → Prop} {f_markCount f_made f_depth : Int32} {a_squareTerm a_linearTerm a_constantTerm a_markWhole a_markSide a_markUnder a_markBelow a_markZeros a_stepKind a_stepPolynomial a_stepSet a_heldCells : Nat → Int32}
    (i : Nat) (hi : i < 8) (P S D Q : Int) (v1 : sf_V P S D Q) (v2 : sf_V (a_markWhole i).toInt (a_markSide i).toInt (a_markUnder i).toInt (a_markBelow i).toInt)
    (hp : post (ar_i (sf_cx P S D Q (a_markWhole i).toInt (a_markSide i).toInt (a_markUnder i).toInt (a_markBelow i).toInt))) :
    wpX_compareWithMark post (f_markCount, f_made, f_depth, a_squareTerm, a_linearTerm, a_constantTerm, a_markWhole, a_markSide, a_markUnder, a_markBelow, a_markZeros, a_stepKind, a_stepPolynomial, a_stepSet, a_heldCells) (nI i) (ar_i P) (ar_i S) (ar_i D) (ar_i Q) := by
  have hin : vp_in (nI i) 8 := vp_in_nI hi (by decide)
  have hc : (nI i).toNatClampNeg = i := nI_clamp (by omega)
  obtain ⟨b1, b2, b3, b4⟩ := sf_V_b v1
  obtain ⟨c1, c2, c3, c4⟩ := sf_V_b v2
  unfold wpX_compareWithMark
  dsimp only
  rw [hc, ar_64 (a_markWhole i), ar_64 (a_markSide i), ar_64 (a_markUnder i), ar_64 (a_markBelow i), ar_il (a := P) (by omega), ar_il (a := S) (by omega), ar_il (a := D) (by omega), ar_il (a := Q) (by omega)]
  generalize (a_markWhole i).toInt = p2 at *
  generalize (a_markSide i).toInt = s2 at *
  generalize (a_markUnder i).toInt = d2 at *
  generalize (a_markBelow i).toInt = q2 at *
  rw [ar_l_mul, ar_l_mul, ar_l_sub, ar_l_mul, ar_l_neg, ar_l_mul]
  unfold sf_cx at hp
  dsimp only at hp
  have bw : (P * q2 - p2 * Q).natAbs ≤ 20000 := by
    have := ar_b b1 c4
    have := ar_b c1 b4
    omega
  have bx : (S * q2).natAbs ≤ 100 := ar_b b2 c4
  have by' : (-s2 * Q).natAbs ≤ 100 := ar_b (a := -s2) (A := 1) (by omega) b4
  generalize P * q2 - p2 * Q = w at *
  generalize S * q2 = x at *
  generalize -s2 * Q = y at *
  have bxx : (x * x * D).natAbs ≤ 45000000 := ar_b (A := 10000) (ar_b bx bx) b3
  have byy : (y * y * d2).natAbs ≤ 45000000 := ar_b (A := 10000) (ar_b by' by') c3
  have bww : (w * w).natAbs ≤ 400000000 := ar_b bw bw
  refine ⟨hin, hin, nm_e ⟨hin, nm_e ⟨hin, nm_e ⟨hin, nm_e ?_⟩⟩⟩⟩
  refine px_sor x D y d2 (by omega) (by omega) (by omega) (by omega) ?_
  have br := sf_sor_b x D y d2
  generalize sf_sor x D y d2 = r at *
  have last : ∀ ws : Int, ws.natAbs ≤ 400000000 → post (ar_i (sf_sor (ws + r * (x * x * D + y * y * d2)) 1 (2 * r * x * y) (D * d2))) →
      wX_compareWithMark_98 post (ar_l x) (ar_l y) (ar_l D) (ar_l d2) (ar_i r) (ar_l ws) f_markCount f_made f_depth a_squareTerm a_linearTerm a_constantTerm a_markWhole a_markSide a_markUnder a_markBelow a_markZeros a_stepKind a_stepPolynomial a_stepSet a_heldCells := by
    intro ws bs hp
    unfold wX_compareWithMark_98
    rw [show (2 : Int32) * ar_i r = ar_i (2 * r) from ar_i_mul 2 r, ar_il (a := r) (by omega), ar_il (a := 2 * r) (by omega)]
    simp only [ar_l_mul, ar_l_add]
    refine nm_e (nm_e ?_)
    have bS : (r * (x * x * D + y * y * d2)).natAbs ≤ 90000000 := by
      have := ar_b (a := r) (b := x * x * D + y * y * d2) (A := 1) (B := 90000000) br (by omega)
      omega
    have bP : (ws + r * (x * x * D + y * y * d2)).natAbs ≤ 490000000 := by omega
    have bQ : (2 * r * x * y).natAbs ≤ 20000 := ar_b (A := 200) (ar_b (A := 2) (by omega) bx) by'
    generalize ws + r * (x * x * D + y * y * d2) = p at *
    generalize 2 * r * x * y = q at *
    have bDD : (D * d2).natAbs ≤ 20250000 := ar_b b3 c3
    have t1 : (p * p * 1).natAbs ≤ 240100000000000000 := by
      rw [Int.mul_one]
      exact ar_b bP bP
    have t2 : (q * q * (D * d2)).natAbs ≤ 8100000000000000 := ar_b (A := 400000000) (ar_b bQ bQ) bDD
    exact px_sor p 1 q (D * d2) (by omega) (by omega) (by omega) (by omega) hp
  refine ar_c (ar_l0 (a := w) (by omega)).1 (fun z => ?_) (fun z => ?_)
  · rw [if_pos z] at hp
    rw [ar_l_mul]
    exact last _ bww hp
  · rw [if_neg z] at hp
    rw [ar_l_neg, ar_l_mul]
    exact last _ (by rw [Int.neg_mul]; omega) hp
