/-! the comparisons of both sides over the integers, and a key for every number that they compare -/
def sf_sor (x u y v : Int) : Int := Int.sign ((if 0 ≤ x then x * x * u else -x * x * u) + (if 0 ≤ y then y * y * v else -y * y * v))
def sf_cx (p1 s1 d1 q1 p2 s2 d2 q2 : Int) : Int :=
  let w := p1 * q2 - p2 * q1
  let x := s1 * q2
  let y := -s2 * q1
  let r := sf_sor x d1 y d2
  sf_sor ((if 0 ≤ w then w * w else -w * w) + r * (x * x * d1 + y * y * d2)) 1 (2 * r * x * y) (d1 * d2)
def sf_ss (u v d : Int) : Int :=
  let one := Int.sign u
  let two := if d = 0 then 0 else Int.sign v
  if two = 0 then one else if one = two then one else if one = 0 then two else one * Int.sign (u * u - v * v * d)
def sf_cy (p1 s1 d1 q1 p2 s2 d2 q2 : Int) : Int :=
  let a := q2 * p1 - q1 * p2
  let b := q2 * s1
  let c := q1 * s2
  let one := sf_ss a b d1
  let two := if d2 = 0 then 0 else Int.sign c
  if one = two then (if one = 0 then 0 else one * sf_ss (a * a + b * b * d1 - c * c * d2) (2 * a * b) d1) else if one ≤ two then -1 else 1
def sf_sa (a b c p s d q : Int) : Int := sf_ss (a * (p * p + s * s * d) + b * q * p + c * q * q) (2 * a * p * s + b * q * s) d
def sf_V (p s d q : Int) : Prop := -100 ≤ p ∧ p ≤ 100 ∧ -1 ≤ s ∧ s ≤ 1 ∧ 0 ≤ d ∧ d ≤ 4500 ∧ 1 ≤ q ∧ q ≤ 100

theorem sf_sg3 (x : Int) : (x < 0 ∧ Int.sign x = -1) ∨ (x = 0 ∧ Int.sign x = 0) ∨ (0 < x ∧ Int.sign x = 1) := by
  rcases Int.lt_trichotomy x 0 with z | z | z
  · left; exact ⟨z, Int.sign_eq_neg_one_of_neg z⟩
  · right; left; exact ⟨z, by rw [z]; rfl⟩
  · right; right; exact ⟨z, Int.sign_eq_one_of_pos z⟩
section
variable {R : Type}
theorem sf_sorR [Lean.Grind.CommRing R] {sg : R → Int} {e : Int → R} (h : rs_Ok R sg) (e1 : ∀ x y, e (x + y) = e x + e y) (e2 : ∀ x y, e (x * y) = e x * e y) (e3 : ∀ x, e (-x) = -e x)
    (e6 : ∀ x, sg (e x) = Int.sign x) (x u y v : Int) (r1 r2 : R) (h1 : 0 ≤ sg r1) (q1 : r1 * r1 = e u) (h2 : 0 ≤ sg r2) (q2 : r2 * r2 = e v) :
    sf_sor x u y v = sg (e x * r1 + e y * r2) := by
  have key : ∀ (x u : Int) (r : R), 0 ≤ sg r → r * r = e u →
      (e (if 0 ≤ x then x * x * u else -x * x * u) = (e x * r) * (e x * r) ∧ 0 ≤ sg (e x * r)) ∨
      (e (if 0 ≤ x then x * x * u else -x * x * u) = -((e x * r) * (e x * r)) ∧ sg (e x * r) ≤ 0) := by
    intro x u r hr q
    have s3 := sf_sg3 x
    have tr := rs_t h r
    have m : sg (e x * r) = Int.sign x * sg r := by rw [rs_m h, e6]
    by_cases hx : 0 ≤ x
    · left
      rw [if_pos hx, e2, e2, ← q]
      refine ⟨by grind, ?_⟩
      rw [m]; exact Int.mul_nonneg (by omega) hr
    · right
      rw [if_neg hx, e2, e2, e3, ← q]
      refine ⟨by grind, ?_⟩
      rw [m]
      have : Int.sign x = -1 := by omega
      rw [this]; omega
  rw [rs_L h _ _ _ _ (key x u r1 h1 q1) (key y v r2 h2 q2), ← e1, e6]
  rfl
theorem sf_cxR [Lean.Grind.CommRing R] {sg : R → Int} {e : Int → R} (h : rs_Ok R sg) (e1 : ∀ x y, e (x + y) = e x + e y) (e2 : ∀ x y, e (x * y) = e x * e y) (e3 : ∀ x, e (-x) = -e x) (e4 : e 0 = 0) (e5 : e 1 = 1)
    (e6 : ∀ x, sg (e x) = Int.sign x) (p1 s1 d1 q1 p2 s2 d2 q2 : Int) (r1 r2 : R) (h1 : 0 ≤ sg r1) (k1 : r1 * r1 = e d1) (h2 : 0 ≤ sg r2) (k2 : r2 * r2 = e d2) :
    sf_cx p1 s1 d1 q1 p2 s2 d2 q2 = sg (e q2 * (e p1 + e s1 * r1) - e q1 * (e p2 + e s2 * r2)) := by
  have es : ∀ x y, e (x - y) = e x - e y := by
    intro x y
    rw [Int.sub_eq_add_neg, e1, e3]; grind
  have hA : e q2 * (e p1 + e s1 * r1) - e q1 * (e p2 + e s2 * r2) = (e (s1 * q2) * r1 + e (-s2 * q1) * r2) + e (p1 * q2 - p2 * q1) := by
    rw [es, e2, e2, e2, e2, e3]; grind
  rw [hA]
  unfold sf_cx
  dsimp only
  generalize p1 * q2 - p2 * q1 = w
  generalize s1 * q2 = x
  generalize -s2 * q1 = y
  have hr := sf_sorR h e1 e2 e3 e6 x d1 y d2 r1 r2 h1 k1 h2 k2
  rw [hr]
  have hm : 0 ≤ sg (r1 * r2) := by rw [rs_m h]; exact Int.mul_nonneg h1 h2
  have km : (r1 * r2) * (r1 * r2) = e (d1 * d2) := by rw [e2, ← k1, ← k2]; grind
  have ho : sg (1 : R) = 1 := h.2.2.2.2.2
  have ko : (1 : R) * 1 = e 1 := by rw [e5]; grind
  rw [sf_sorR h e1 e2 e3 e6 _ 1 _ (d1 * d2) 1 (r1 * r2) (by omega) ko hm km]
  have tw := rs_t h (e x * r1 + e y * r2)
  have hw : (e (if 0 ≤ w then w * w else -w * w) = e w * e w ∧ 0 ≤ sg (e w)) ∨ (e (if 0 ≤ w then w * w else -w * w) = -(e w * e w) ∧ sg (e w) ≤ 0) := by
    have s3 := sf_sg3 w
    have s6 := e6 w
    by_cases z : 0 ≤ w
    · left; rw [if_pos z, e2]; exact ⟨rfl, by omega⟩
    · right; rw [if_neg z, e2, e3]; exact ⟨by grind, by omega⟩
  have eE : e 2 = 1 + 1 := by
    have : (2 : Int) = 1 + 1 := rfl
    rw [this, e1, e5]
  rcases tw with t | t | t
  · have := rs_L h (e x * r1 + e y * r2) (e w) (-((e x * r1 + e y * r2) * (e x * r1 + e y * r2))) _ (Or.inr ⟨rfl, by omega⟩) hw
    rw [this, t]
    congr 1
    rw [e1, e2, e1, e2, e2, e2, e2, e2, e2, e2, eE, e3, e5]
    grind
  · rw [rs_null h _ _ t, t]
    have z1 : e ((if 0 ≤ w then w * w else -w * w) + 0 * (x * x * d1 + y * y * d2)) * 1 + e (2 * 0 * x * y) * (r1 * r2) = e (if 0 ≤ w then w * w else -w * w) := by
      have a1 : (if 0 ≤ w then w * w else -w * w) + 0 * (x * x * d1 + y * y * d2) = (if 0 ≤ w then w * w else -w * w) := by omega
      have a2 : 2 * 0 * x * y = 0 := by simp
      rw [a1, a2, e4]; grind
    rw [z1]
    have sq := rs_sq h (e w)
    have n := rs_n h (e w * e w)
    have tt := rs_t h (e w)
    rcases hw with ⟨hw, s⟩ | ⟨hw, s⟩ <;> rw [hw] <;> omega
  · have := rs_L h (e x * r1 + e y * r2) (e w) (((e x * r1 + e y * r2) * (e x * r1 + e y * r2))) _ (Or.inl ⟨rfl, by omega⟩) hw
    rw [this, t]
    congr 1
    rw [e1, e2, e1, e2, e2, e2, e2, e2, e2, e2, eE, e5]
    grind
theorem sf_rt0 [Lean.Grind.CommRing R] {sg : R → Int} {e : Int → R} (h : rs_Ok R sg) (e6 : ∀ x, sg (e x) = Int.sign x) (v d : Int) (hd : 0 ≤ d) (r : R) (hr : 0 ≤ sg r) (q : r * r = e d) :
    (if d = 0 then 0 else Int.sign v) = sg (e v * r) := by
  have s3 := sf_sg3 d
  have sq := rs_sq h r
  have tr := rs_t h r
  have s6 := e6 d
  rw [q] at sq
  rw [rs_m h, e6]
  split
  · have : sg r = 0 := by omega
    rw [this]; omega
  · have : sg r = 1 := by omega
    rw [this]; omega
theorem sf_opp [Lean.Grind.CommRing R] {sg : R → Int} (h : rs_Ok R sg) (A B : R) (hne : sg A ≠ 0) (ho : sg (A + B) = sg A) :
    sg (A - B) = sg A * sg (A * A - B * B) := by
  have e : A * A - B * B = (A + B) * (A - B) := by grind
  rw [e, rs_m h, ho]
  rcases rs_t h A with t | t | t <;> rw [t] <;> omega
theorem sf_ssR [Lean.Grind.CommRing R] {sg : R → Int} {e : Int → R} (h : rs_Ok R sg) (e1 : ∀ x y, e (x + y) = e x + e y) (e2 : ∀ x y, e (x * y) = e x * e y) (e3 : ∀ x, e (-x) = -e x)
    (e6 : ∀ x, sg (e x) = Int.sign x) (u v d : Int) (hd : 0 ≤ d) (r : R) (hr : 0 ≤ sg r) (q : r * r = e d) :
    sf_ss u v d = sg (e u + e v * r) := by
  have es : ∀ x y, e (x - y) = e x - e y := by
    intro x y
    rw [Int.sub_eq_add_neg, e1, e3]; grind
  unfold sf_ss
  dsimp only
  rw [sf_rt0 h e6 v d hd r hr q, ← e6 u, ← e6 (u * u - v * v * d)]
  have hE : e (u * u - v * v * d) = e u * e u - (-(e v * r)) * (-(e v * r)) := by
    rw [es, e2, e2, e2, ← q]; grind
  rw [hE]
  have eA : e u + e v * r = e u - -(e v * r) := by grind
  have eB : e u + e v * r = e v * r + e u := by grind
  generalize e v * r = B at *
  generalize e u = A at *
  have tA := rs_t h A
  have tB := rs_t h B
  have nB := rs_n h B
  have nA := rs_n h A
  split
  · rename_i z; rw [eB, rs_null h _ _ z]
  split
  · rename_i z1 z2
    by_cases p : 0 ≤ sg A
    · have := rs_pp h A B p (by omega)
      omega
    · have := rs_pp h (-A) (-B) (by omega) (by omega)
      have e' : -A + -B = -(A + B) := by grind
      rw [e', rs_n h (A + B)] at this
      omega
  split
  · rename_i z; rw [rs_null h _ _ z]
  · rename_i z1 z2 z3
    rw [eA]
    refine (sf_opp h A (-B) z3 ?_).symm
    by_cases p : 0 ≤ sg A
    · have := rs_pp h A (-B) p (by omega)
      omega
    · have := rs_pp h (-A) B (by omega) (by omega)
      have e' : -A + B = -(A + -B) := by grind
      rw [e', rs_n h (A + -B)] at this
      omega
theorem sf_cyR [Lean.Grind.CommRing R] {sg : R → Int} {e : Int → R} (h : rs_Ok R sg) (e1 : ∀ x y, e (x + y) = e x + e y) (e2 : ∀ x y, e (x * y) = e x * e y) (e3 : ∀ x, e (-x) = -e x) (e5 : e 1 = 1)
    (e6 : ∀ x, sg (e x) = Int.sign x) (p1 s1 d1 q1 p2 s2 d2 q2 : Int) (r1 r2 : R) (hd1 : 0 ≤ d1) (hd2 : 0 ≤ d2) (h1 : 0 ≤ sg r1) (k1 : r1 * r1 = e d1) (h2 : 0 ≤ sg r2) (k2 : r2 * r2 = e d2) :
    sf_cy p1 s1 d1 q1 p2 s2 d2 q2 = sg (e q2 * (e p1 + e s1 * r1) - e q1 * (e p2 + e s2 * r2)) := by
  have es : ∀ x y, e (x - y) = e x - e y := by
    intro x y
    rw [Int.sub_eq_add_neg, e1, e3]; grind
  have hA : e q2 * (e p1 + e s1 * r1) - e q1 * (e p2 + e s2 * r2) = (e (q2 * p1 - q1 * p2) + e (q2 * s1) * r1) - e (q1 * s2) * r2 := by
    rw [es, e2, e2, e2, e2]; grind
  rw [hA]
  unfold sf_cy
  dsimp only
  generalize q2 * p1 - q1 * p2 = a
  generalize q2 * s1 = b
  generalize q1 * s2 = c
  have eE : e 2 = 1 + 1 := by
    have : (2 : Int) = 1 + 1 := rfl
    rw [this, e1, e5]
  rw [sf_rt0 h e6 c d2 hd2 r2 h2 k2, sf_ssR h e1 e2 e3 e6 a b d1 hd1 r1 h1 k1, sf_ssR h e1 e2 e3 e6 _ _ d1 hd1 r1 h1 k1]
  have hE : e (a * a + b * b * d1 - c * c * d2) + e (2 * a * b) * r1 = (e a + e b * r1) * (e a + e b * r1) - (e c * r2) * (e c * r2) := by
    rw [es, e1, e2, e2, e2, e2, e2, e2, e2, eE, ← k1, ← k2]; grind
  rw [hE]
  generalize e a + e b * r1 = A
  generalize e c * r2 = B
  have tA := rs_t h A
  have tB := rs_t h B
  have nA := rs_n h A
  have nB := rs_n h B
  have eA : A - B = A + -B := by grind
  have nC := rs_n h (A - B)
  split
  · rename_i z
    split
    · rename_i z2
      rw [eA, rs_null h _ _ z2]; omega
    · rename_i z2
      refine (sf_opp h A B z2 ?_).symm
      by_cases p : 0 ≤ sg A
      · have := rs_pp h A B p (by omega)
        omega
      · have := rs_pp h (-A) (-B) (by omega) (by omega)
        have e' : -A + -B = -(A + B) := by grind
        rw [e', rs_n h (A + B)] at this
        omega
  · rename_i z
    rw [eA]
    have e' : -A + B = -(A + -B) := by grind
    have e'' : -B + A = A + -B := by grind
    have nD := rs_n h (A + -B)
    have c1 := rs_null h A (-B)
    have c2 := rs_null h (-B) A
    have c3 := rs_pp h A (-B)
    have c4 := rs_pp h (-A) B
    rw [e'] at c4
    rw [e''] at c2
    split <;> omega
end
