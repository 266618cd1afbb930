/-! the polynomial at a number, the order, the keys -/
section
variable {R : Type}
theorem sg_sa [Lean.Grind.CommRing R] {sg : R → Int} {e : Int → R} (h : rs_Ok R sg) (e1 : ∀ x y, e (x + y) = e x + e y) (e2 : ∀ x y, e (x * y) = e x * e y) (e3 : ∀ x, e (-x) = -e x) (e5 : e 1 = 1)
    (e6 : ∀ x, sg (e x) = Int.sign x) (a b c p s d q : Int) (hd : 0 ≤ d) (r : R) (hr : 0 ≤ sg r) (k : r * r = e d) :
    sf_sa a b c p s d q = sg (e a * ((e p + e s * r) * (e p + e s * r)) + e b * e q * (e p + e s * r) + e c * e q * e q) := by
  unfold sf_sa
  have eE : e 2 = 1 + 1 := by
    have : (2 : Int) = 1 + 1 := rfl
    rw [this, e1, e5]
  rw [sf_ssR h e1 e2 e3 e6 _ _ d hd r hr k]
  congr 1
  rw [e1, e1, e1, e2, e1, e2, e2, e2, e2, e2, e2, e2, e2, e2, e2, e2, e2, eE, ← k]
  grind
/-- the comparison with the two zeros -/
theorem sg_two [Lean.Grind.CommRing R] {sg : R → Int} {e : Int → R} (h : rs_Ok R sg) (e1 : ∀ x y, e (x + y) = e x + e y) (e2 : ∀ x y, e (x * y) = e x * e y) (e3 : ∀ x, e (-x) = -e x) (e5 : e 1 = 1)
    (e6 : ∀ x, sg (e x) = Int.sign x) (a b c q t D : Int) (X rD : R) (ha : a ≠ 0) (ht : t = Int.sign a) (hD : D = b * b - 4 * a * c) (k : rD * rD = e D) :
    sg (e a * (X * X) + e b * e q * X + e c * e q * e q) =
      Int.sign a * (sg (e (2 * a * t) * X - e q * (e (-b * t) + e (-1) * rD)) * sg (e (2 * a * t) * X - e q * (e (-b * t) + e 1 * rD))) := by
  have eE : e 2 = 1 + 1 := by
    have : (2 : Int) = 1 + 1 := rfl
    rw [this, e1, e5]
  have e4' : e 4 = 1 + 1 + 1 + 1 := by
    have : (4 : Int) = 1 + 1 + 1 + 1 := rfl
    rw [this, e1, e1, e1, e5]
  have es : ∀ x y, e (x - y) = e x - e y := by
    intro x y
    rw [Int.sub_eq_add_neg, e1, e3]; grind
  have tt : e t * e t = 1 := by
    rw [← e2, ht, ← Int.sign_mul]
    have s3 := sf_sg3 (a * a)
    have : 0 < a * a := by
      rcases Int.lt_or_gt_of_ne ha with z | z
      · exact Int.mul_pos_of_neg_of_neg z z
      · exact Int.mul_pos z z
    have : Int.sign (a * a) = 1 := by omega
    rw [this, e5]
  have kk : rD * rD = e b * e b - e 4 * e a * e c := by rw [k, hD, es, e2, e2, e2]
  rw [← rs_m h]
  have prod : (e (2 * a * t) * X - e q * (e (-b * t) + e (-1) * rD)) * (e (2 * a * t) * X - e q * (e (-b * t) + e 1 * rD)) =
      e (4 * a) * (e a * (X * X) + e b * e q * X + e c * e q * e q) := by
    rw [e2, e2, e2, e2, e3, e3, e5, eE, e4']
    rw [e4'] at kk
    grind
  rw [prod, rs_m h, e6, Int.sign_mul]
  have : Int.sign 4 = 1 := rfl
  rw [this]
  have s3 := sf_sg3 a
  have : Int.sign a = 1 ∨ Int.sign a = -1 := by omega
  rcases this with z | z <;> rw [z] <;> omega
theorem sg_none [Lean.Grind.CommRing R] {sg : R → Int} {e : Int → R} (h : rs_Ok R sg) (e1 : ∀ x y, e (x + y) = e x + e y) (e2 : ∀ x y, e (x * y) = e x * e y) (e3 : ∀ x, e (-x) = -e x) (e5 : e 1 = 1)
    (e6 : ∀ x, sg (e x) = Int.sign x) (a b c q : Int) (X : R) (ha : a ≠ 0) (hq : 0 < q) (hD : b * b - 4 * a * c < 0) :
    sg (e a * (X * X) + e b * e q * X + e c * e q * e q) = Int.sign a := by
  have eE : e 2 = 1 + 1 := by
    have : (2 : Int) = 1 + 1 := rfl
    rw [this, e1, e5]
  have e4' : e 4 = 1 + 1 + 1 + 1 := by
    have : (4 : Int) = 1 + 1 + 1 + 1 := rfl
    rw [this, e1, e1, e1, e5]
  have es : ∀ x y, e (x - y) = e x - e y := by
    intro x y
    rw [Int.sub_eq_add_neg, e1, e3]; grind
  have id1 : e (4 * a) * (e a * (X * X) + e b * e q * X + e c * e q * e q) = e (-(b * b - 4 * a * c)) * (e q * e q) + (e (2 * a) * X + e b * e q) * (e (2 * a) * X + e b * e q) := by
    rw [e3, es, e2, e2, e2, e2, e2, e4', eE]; grind
  have p1 : sg (e (-(b * b - 4 * a * c)) * (e q * e q)) = 1 := by
    rw [rs_m h, rs_m h, e6, e6, Int.sign_eq_one_of_pos hq, Int.sign_eq_one_of_pos (show 0 < -(b * b - 4 * a * c) by omega)]; rfl
  have sq := rs_sq h (e (2 * a) * X + e b * e q)
  have pp := rs_pp h (e (-(b * b - 4 * a * c)) * (e q * e q)) ((e (2 * a) * X + e b * e q) * (e (2 * a) * X + e b * e q)) (by omega) (by omega)
  rw [← id1] at pp
  have m := rs_m h (e (4 * a)) (e a * (X * X) + e b * e q * X + e c * e q * e q)
  rw [e6, Int.sign_mul, show Int.sign 4 = 1 from rfl] at m
  have s3 := sf_sg3 a
  have : Int.sign a = 1 ∨ Int.sign a = -1 := by omega
  rcases this with z | z <;> rw [z] at m ⊢ <;> omega
/-- one comparison: (Y - X) through a third number -/
theorem sg_tr [Lean.Grind.CommRing R] {sg : R → Int} {e : Int → R} (h : rs_Ok R sg) (e6 : ∀ x, sg (e x) = Int.sign x)
    (qx qy qz : Int) (X Y Z : R) (hx : 0 < qx) (hy : 0 < qy) (hz : 0 < qz)
    (h1 : 0 ≤ sg (e qy * X - e qx * Y)) (h2 : 0 ≤ sg (e qz * Y - e qy * Z)) :
    (sg (e qy * X - e qx * Y) = 0 ∧ sg (e qz * Y - e qy * Z) = 0 ∧ sg (e qz * X - e qx * Z) = 0) ∨
    ((sg (e qy * X - e qx * Y) = 1 ∨ sg (e qz * Y - e qy * Z) = 1) ∧ sg (e qz * X - e qx * Z) = 1) := by
  have s : ∀ (q : Int) (w : R), 0 < q → sg (e q * w) = sg w := by
    intro q w hq
    rw [rs_m h, e6, Int.sign_eq_one_of_pos hq]; omega
  have id1 : e qz * (e qy * X - e qx * Y) + e qx * (e qz * Y - e qy * Z) = e qy * (e qz * X - e qx * Z) := by grind
  have m1 := s qz (e qy * X - e qx * Y) hz
  have m2 := s qx (e qz * Y - e qy * Z) hx
  have m3 := s qy (e qz * X - e qx * Z) hy
  have pp := rs_pp h (e qz * (e qy * X - e qx * Y)) (e qx * (e qz * Y - e qy * Z)) (by omega) (by omega)
  rw [id1] at pp
  omega
end
/-- counting with one more -/
theorem sg_cnt_le {α : Type} (P Q : α → Bool) (l : List α) (h : ∀ a, a ∈ l → P a = true → Q a = true) : l.countP P ≤ l.countP Q :=
  List.countP_mono_left h
theorem sg_cnt_lt {α : Type} (P Q : α → Bool) (l : List α) (h : ∀ a, a ∈ l → P a = true → Q a = true) (x : α) (hx : x ∈ l) (h1 : Q x = true) (h2 : ¬ P x = true) :
    l.countP P < l.countP Q := by
  induction l with
  | nil => cases hx
  | cons b l ih =>
    have h' : ∀ a, a ∈ l → P a = true → Q a = true := fun a ha => h a (List.mem_cons_of_mem _ ha)
    have le := sg_cnt_le P Q l h'
    rw [List.countP_cons, List.countP_cons]
    rcases List.mem_cons.mp hx with z | z
    · subst z
      rw [if_neg h2, if_pos h1]; omega
    · have := ih h' z
      by_cases pb : P b = true
      · rw [if_pos pb, if_pos (h b (List.mem_cons_self ..) pb)]; omega
      · rw [if_neg pb]; split <;> omega
/-- a finite preorder has keys -/
theorem sg_rank (T : Type) (V : T → Prop) (C : T → T → Int) (dec : Nat → T) (B : Nat) (cov : ∀ x, V x → ∃ n, n < B ∧ dec n = x)
    (refl : ∀ x, V x → C x x = 0) (anti : ∀ x y, V x → V y → C y x = -C x y) (rng : ∀ x y, C x y = -1 ∨ C x y = 0 ∨ C x y = 1)
    (tr : ∀ x y z, V x → V y → V z → 0 ≤ C x y → 0 ≤ C y z → (C x y = 0 ∧ C y z = 0 ∧ C x z = 0) ∨ ((C x y = 1 ∨ C y z = 1) ∧ C x z = 1)) :
    ∃ ky : T → Int, ∀ x y, V x → V y → C x y = Int.sign (ky x - ky y) := by
  classical
  let P : T → Nat → Bool := fun x n => decide (V (dec n) ∧ C x (dec n) = 1)
  have lt : ∀ x y, V x → V y → C x y = 1 → (List.range B).countP (P y) < (List.range B).countP (P x) := by
    intro x y hx hy hc
    obtain ⟨n, hn, en⟩ := cov y hy
    refine sg_cnt_lt _ _ _ ?_ n (List.mem_range.mpr hn) ?_ ?_
    · intro a _ ha
      simp only [P, decide_eq_true_eq] at ha ⊢
      have := tr x y (dec a) hx hy ha.1 (by omega) (by omega)
      exact ⟨ha.1, by omega⟩
    · simp only [P, decide_eq_true_eq, en]
      exact ⟨hy, hc⟩
    · simp only [P, decide_eq_true_eq, en, refl y hy]
      omega
  have le : ∀ x y, V x → V y → C x y = 0 → (List.range B).countP (P y) ≤ (List.range B).countP (P x) := by
    intro x y hx hy hc
    refine sg_cnt_le _ _ _ ?_
    intro a _ ha
    simp only [P, decide_eq_true_eq] at ha ⊢
    have := tr x y (dec a) hx hy ha.1 (by omega) (by omega)
    exact ⟨ha.1, by omega⟩
  refine ⟨fun x => ((List.range B).countP (P x) : Int), ?_⟩
  intro x y hx hy
  dsimp only
  have an := anti x y hx hy
  have s3 := sf_sg3 (((List.range B).countP (P x) : Int) - ((List.range B).countP (P y) : Int))
  rcases rng x y with z | z | z
  · have := lt y x hy hx (by omega)
    omega
  · have a1 := le x y hx hy z
    have a2 := le y x hy hx (by omega)
    omega
  · have := lt x y hx hy z
    omega
def sg_dec (n : Nat) : Int × Int × Int × Int := ((n % 201 : Int) - 100, (n / 201 % 3 : Int) - 1, (n / 603 % 4501 : Int), (n / 2714103 : Int))
theorem sg_cov (p s d q : Int) (h : sf_V p s d q) : ∃ n, n < 274124403 ∧ sg_dec n = (p, s, d, q) := by
  obtain ⟨h1, h2, h3, h4, h5, h6, h7, h8⟩ := h
  refine ⟨((p + 100) + 201 * ((s + 1) + 3 * (d + 4501 * q))).toNat, by omega, ?_⟩
  unfold sg_dec
  have e : ((((p + 100) + 201 * ((s + 1) + 3 * (d + 4501 * q))).toNat : Nat) : Int) = (p + 100) + 201 * ((s + 1) + 3 * (d + 4501 * q)) := by omega
  rw [e]
  refine Prod.ext ?_ (Prod.ext ?_ (Prod.ext ?_ ?_))
  · show _ % 201 - 100 = p
    omega
  · show _ / 201 % 3 - 1 = s
    omega
  · show _ / 603 % 4501 = d
    omega
  · show _ / 2714103 = q
    omega
/-- the keys -/
theorem sg_key : ∃ ky : Int → Int → Int → Int → Int,
    (∀ p1 s1 d1 q1 p2 s2 d2 q2, sf_V p1 s1 d1 q1 → sf_V p2 s2 d2 q2 → sf_cx p1 s1 d1 q1 p2 s2 d2 q2 = Int.sign (ky p1 s1 d1 q1 - ky p2 s2 d2 q2)) ∧
    (∀ p1 s1 d1 q1 p2 s2 d2 q2, sf_V p1 s1 d1 q1 → sf_V p2 s2 d2 q2 → sf_cy p1 s1 d1 q1 p2 s2 d2 q2 = Int.sign (ky p1 s1 d1 q1 - ky p2 s2 d2 q2)) ∧
    (∀ a b c p s d q, sf_V p s d q → -30 ≤ a → a ≤ 30 → -30 ≤ b → b ≤ 30 → a ≠ 0 → 0 ≤ b * b - 4 * a * c → b * b - 4 * a * c ≤ 4500 →
      sf_sa a b c p s d q = Int.sign a * (Int.sign (ky p s d q - ky (-b * Int.sign a) (-1) (b * b - 4 * a * c) (2 * a * Int.sign a)) * Int.sign (ky p s d q - ky (-b * Int.sign a) 1 (b * b - 4 * a * c) (2 * a * Int.sign a)))) ∧
    (∀ a b c p s d q, sf_V p s d q → a ≠ 0 → b * b - 4 * a * c < 0 → sf_sa a b c p s d q = Int.sign a) ∧
    (∀ b c p s d q, sf_V p s d q → -30 ≤ b → b ≤ 30 → -30 ≤ c → c ≤ 30 → b ≠ 0 → sf_sa 0 b c p s d q = Int.sign b * Int.sign (ky p s d q - ky (-c * Int.sign b) 0 0 (b * Int.sign b))) ∧
    (∀ c p s d q, sf_V p s d q → sf_sa 0 0 c p s d q = Int.sign c) ∧
    (∀ p d q, sf_V p (-1) d q → sf_V p 1 d q → 0 < d → ky p (-1) d q < ky p 1 d q) ∧
    (∀ p q, sf_V p (-1) 0 q → sf_V p 0 0 q → sf_V p 1 0 q → ky p (-1) 0 q = ky p 0 0 q ∧ ky p 1 0 q = ky p 0 0 q) := by
  obtain ⟨R, I, sg, e, rt, h, e1, e2, e3, e4, e5, e6, hr⟩ := rs_tower 4501
  have rtp : ∀ d : Int, 0 ≤ d → d ≤ 4500 → 0 ≤ sg (rt d.toNat) ∧ rt d.toNat * rt d.toNat = e d := by
    intro d h0 h1
    have := hr d.toNat (by omega)
    rw [show ((d.toNat : Nat) : Int) = d by omega] at this
    exact this
  let X : Int × Int × Int × Int → R := fun x => e x.1 + e x.2.1 * rt x.2.2.1.toNat
  let C : Int × Int × Int × Int → Int × Int × Int × Int → Int := fun x y => sg (e y.2.2.2 * X x - e x.2.2.2 * X y)
  let V : Int × Int × Int × Int → Prop := fun x => sf_V x.1 x.2.1 x.2.2.1 x.2.2.2
  obtain ⟨ky, hk⟩ := sg_rank (Int × Int × Int × Int) V C sg_dec 274124403
    (fun x hx => sg_cov x.1 x.2.1 x.2.2.1 x.2.2.2 hx)
    (by
      intro x _
      show sg (e x.2.2.2 * X x - e x.2.2.2 * X x) = 0
      have : e x.2.2.2 * X x - e x.2.2.2 * X x = 0 := by grind
      rw [this, rs_0 h])
    (by
      intro x y _ _
      show sg (e x.2.2.2 * X y - e y.2.2.2 * X x) = - sg (e y.2.2.2 * X x - e x.2.2.2 * X y)
      rw [← rs_n h]
      congr 1; grind)
    (by intro x y; exact rs_t h _)
    (by
      intro x y z hx hy hz h1 h2
      obtain ⟨_, _, _, _, _, _, hx, _⟩ := hx
      obtain ⟨_, _, _, _, _, _, hy, _⟩ := hy
      obtain ⟨_, _, _, _, _, _, hz, _⟩ := hz
      exact sg_tr h e6 x.2.2.2 y.2.2.2 z.2.2.2 (X x) (X y) (X z) (by omega) (by omega) (by omega) h1 h2)
  have hC : ∀ p1 s1 d1 q1 p2 s2 d2 q2, sf_V p1 s1 d1 q1 → sf_V p2 s2 d2 q2 →
      sg (e q2 * (e p1 + e s1 * rt d1.toNat) - e q1 * (e p2 + e s2 * rt d2.toNat)) = Int.sign (ky (p1, s1, d1, q1) - ky (p2, s2, d2, q2)) := by
    intro p1 s1 d1 q1 p2 s2 d2 q2 v1 v2
    exact hk (p1, s1, d1, q1) (p2, s2, d2, q2) v1 v2
  have sga : ∀ a : Int, -30 ≤ a → a ≤ 30 → a ≠ 0 → (Int.sign a = 1 ∧ 0 < a) ∨ (Int.sign a = -1 ∧ a < 0) := by
    intro a _ _ _
    have := sf_sg3 a
    omega
  refine ⟨fun p s d q => ky (p, s, d, q), ?_, ?_, ?_, ?_, ?_, ?_, ?_, ?_⟩
  · intro p1 s1 d1 q1 p2 s2 d2 q2 v1 v2
    have w1 := v1
    have w2 := v2
    unfold sf_V at w1 w2
    have r1 := rtp d1 (by omega) (by omega)
    have r2 := rtp d2 (by omega) (by omega)
    rw [sf_cxR h e1 e2 e3 e4 e5 e6 p1 s1 d1 q1 p2 s2 d2 q2 _ _ r1.1 r1.2 r2.1 r2.2]
    exact hC _ _ _ _ _ _ _ _ v1 v2
  · intro p1 s1 d1 q1 p2 s2 d2 q2 v1 v2
    have w1 := v1
    have w2 := v2
    unfold sf_V at w1 w2
    have r1 := rtp d1 (by omega) (by omega)
    have r2 := rtp d2 (by omega) (by omega)
    rw [sf_cyR h e1 e2 e3 e5 e6 p1 s1 d1 q1 p2 s2 d2 q2 _ _ (by omega) (by omega) r1.1 r1.2 r2.1 r2.2]
    exact hC _ _ _ _ _ _ _ _ v1 v2
  · intro a b c p s d q v a1 a2 b1 b2 ha hD0 hD1
    have w := v
    unfold sf_V at w
    have r1 := rtp d (by omega) (by omega)
    have r2 := rtp (b * b - 4 * a * c) (by omega) (by omega)
    rw [sg_sa h e1 e2 e3 e5 e6 a b c p s d q (by omega) _ r1.1 r1.2]
    rw [sg_two h e1 e2 e3 e5 e6 a b c q (Int.sign a) (b * b - 4 * a * c) _ _ ha rfl rfl r2.2]
    have t := sga a a1 a2 ha
    have v1 : sf_V (-b * Int.sign a) (-1) (b * b - 4 * a * c) (2 * a * Int.sign a) := by
      unfold sf_V
      rcases t with ⟨t, _⟩ | ⟨t, _⟩ <;> rw [t] <;> omega
    have v2 : sf_V (-b * Int.sign a) 1 (b * b - 4 * a * c) (2 * a * Int.sign a) := by
      unfold sf_V
      rcases t with ⟨t, _⟩ | ⟨t, _⟩ <;> rw [t] <;> omega
    rw [hC _ _ _ _ _ _ _ _ v v1, hC _ _ _ _ _ _ _ _ v v2]
  · intro a b c p s d q v ha hD
    have w := v
    unfold sf_V at w
    have r1 := rtp d (by omega) (by omega)
    rw [sg_sa h e1 e2 e3 e5 e6 a b c p s d q (by omega) _ r1.1 r1.2]
    exact sg_none h e1 e2 e3 e5 e6 a b c q _ ha (by omega) hD
  · intro b c p s d q v b1 b2 c1 c2 hb
    have w := v
    unfold sf_V at w
    have r1 := rtp d (by omega) (by omega)
    rw [sg_sa h e1 e2 e3 e5 e6 0 b c p s d q (by omega) _ r1.1 r1.2]
    have t := sga b b1 b2 hb
    have v1 : sf_V (-c * Int.sign b) 0 0 (b * Int.sign b) := by
      unfold sf_V
      rcases t with ⟨t, _⟩ | ⟨t, _⟩ <;> rw [t] <;> omega
    have := hC _ _ _ _ _ _ _ _ v v1
    show _ = Int.sign b * Int.sign (ky (p, s, d, q) - ky (-c * Int.sign b, 0, 0, b * Int.sign b))
    rw [← this]
    generalize e p + e s * rt d.toNat = Y
    have id1 : e (b * Int.sign b) * Y - e q * (e (-c * Int.sign b) + e 0 * rt (0 : Int).toNat) = e (Int.sign b) * (e b * Y + e c * e q) := by
      rw [e2, e2, e3, e4]; grind
    have id2 : e 0 * (Y * Y) + e b * e q * Y + e c * e q * e q = e q * (e b * Y + e c * e q) := by
      rw [e4]; grind
    rw [id1, id2, rs_m h, rs_m h, e6, e6, Int.sign_eq_one_of_pos (show 0 < q by omega)]
    rcases t with ⟨t, _⟩ | ⟨t, _⟩ <;> rw [t]
    · show 1 * _ = 1 * (Int.sign 1 * _)
      rw [show Int.sign 1 = 1 from rfl]; omega
    · rw [show Int.sign (-1) = -1 from rfl]; omega
  · intro c p s d q v
    have w := v
    unfold sf_V at w
    have r1 := rtp d (by omega) (by omega)
    rw [sg_sa h e1 e2 e3 e5 e6 0 0 c p s d q (by omega) _ r1.1 r1.2]
    generalize e p + e s * rt d.toNat = Y
    have id2 : e 0 * (Y * Y) + e 0 * e q * Y + e c * e q * e q = e c * (e q * e q) := by
      rw [e4]; grind
    rw [id2, rs_m h, rs_m h, e6, e6, Int.sign_eq_one_of_pos (show 0 < q by omega)]
    omega
  · intro p d q v1 v2 hd
    have w := v1
    unfold sf_V at w
    have r1 := rtp d (by omega) (by omega)
    have := hC _ _ _ _ _ _ _ _ v2 v1
    have id1 : e q * (e p + e 1 * rt d.toNat) - e q * (e p + e (-1) * rt d.toNat) = e q * (rt d.toNat + rt d.toNat) := by
      rw [e3, e5]; grind
    have sq := rs_sq h (rt d.toNat)
    rw [r1.2, e6, Int.sign_eq_one_of_pos hd] at sq
    have tr := rs_t h (rt d.toNat)
    have pp := rs_pp h (rt d.toNat) (rt d.toNat) r1.1 r1.1
    rw [id1, rs_m h, e6, Int.sign_eq_one_of_pos (show 0 < q by omega)] at this
    have s3 := sf_sg3 (ky (p, 1, d, q) - ky (p, -1, d, q))
    show ky (p, -1, d, q) < ky (p, 1, d, q)
    omega
  · intro p q v1 v2 v3
    have w := v1
    unfold sf_V at w
    have r1 := rtp 0 (by omega) (by omega)
    have k1 := hC _ _ _ _ _ _ _ _ v1 v2
    have k2 := hC _ _ _ _ _ _ _ _ v3 v2
    have z : sg (rt (0 : Int).toNat) = 0 := by
      have sq := rs_sq h (rt (0 : Int).toNat)
      rw [r1.2, e6] at sq
      have : Int.sign 0 = 0 := rfl
      omega
    have id1 : e q * (e p + e (-1) * rt (0 : Int).toNat) - e q * (e p + e 0 * rt (0 : Int).toNat) = rt (0 : Int).toNat * (-(e q)) := by
      rw [e3, e4, e5]; grind
    have id2 : e q * (e p + e 1 * rt (0 : Int).toNat) - e q * (e p + e 0 * rt (0 : Int).toNat) = rt (0 : Int).toNat * e q := by
      rw [e4, e5]; grind
    rw [id1, rs_m h, z] at k1
    rw [id2, rs_m h, z] at k2
    have s1 := sf_sg3 (ky (p, -1, 0, q) - ky (p, 0, 0, q))
    have s2 := sf_sg3 (ky (p, 1, 0, q) - ky (p, 0, 0, q))
    show ky (p, -1, 0, q) = ky (p, 0, 0, q) ∧ ky (p, 1, 0, q) = ky (p, 0, 0, q)
    omega
noncomputable def sg_ky : Int → Int → Int → Int → Int := sg_key.choose
