/-! the tower: a commutative ring with a sign, and a root put to it -/
def rs_Ok (R : Type) [Lean.Grind.CommRing R] (sg : R → Int) : Prop :=
  (∀ x, sg x = -1 ∨ sg x = 0 ∨ sg x = 1) ∧
  (∀ x y, sg (x * y) = sg x * sg y) ∧
  (∀ x y, 0 ≤ sg x → 0 ≤ sg y → 0 ≤ sg (x + y)) ∧
  (∀ x y, 0 < sg x → 0 ≤ sg y → 0 < sg (x + y)) ∧
  (∀ x, sg (-x) = - sg x) ∧ sg 1 = 1

theorem rs_t {R : Type} [Lean.Grind.CommRing R] {sg : R → Int} (h : rs_Ok R sg) (x : R) : sg x = -1 ∨ sg x = 0 ∨ sg x = 1 := h.1 x
theorem rs_m {R : Type} [Lean.Grind.CommRing R] {sg : R → Int} (h : rs_Ok R sg) (x y : R) : sg (x * y) = sg x * sg y := h.2.1 x y
theorem rs_n {R : Type} [Lean.Grind.CommRing R] {sg : R → Int} (h : rs_Ok R sg) (x : R) : sg (-x) = - sg x := h.2.2.2.2.1 x
theorem rs_0 {R : Type} [Lean.Grind.CommRing R] {sg : R → Int} (h : rs_Ok R sg) : sg 0 = 0 := by
  have h1 := rs_n h 0
  have e : (-0 : R) = 0 := by grind
  rw [e] at h1
  omega
theorem rs_sq {R : Type} [Lean.Grind.CommRing R] {sg : R → Int} (h : rs_Ok R sg) (x : R) :
    (sg x = 0 ∧ sg (x * x) = 0) ∨ (sg x ≠ 0 ∧ sg (x * x) = 1) := by
  rw [rs_m h]
  rcases rs_t h x with e | e | e <;> rw [e] <;> simp
/-- two that are not below 0 -/
theorem rs_pp {R : Type} [Lean.Grind.CommRing R] {sg : R → Int} (h : rs_Ok R sg) (x y : R) (hx : 0 ≤ sg x) (hy : 0 ≤ sg y) :
    (sg x = 0 ∧ sg y = 0 ∧ sg (x + y) = 0) ∨ ((sg x = 1 ∨ sg y = 1) ∧ sg (x + y) = 1) := by
  have tx := rs_t h x
  have ty := rs_t h y
  have tz := rs_t h (x + y)
  have a1 := h.2.2.1 x y hx hy
  have a2 := h.2.2.2.1 x y
  have a3 := h.2.2.2.1 y x
  have e : y + x = x + y := by grind
  rw [e] at a3
  have n1 := rs_n h x
  have n2 := rs_n h y
  have n3 := rs_n h (x + y)
  have b1 := h.2.2.1 (-x) (-y)
  have e2 : -x + -y = -(x + y) := by grind
  rw [e2] at b1
  omega
theorem rs_null {R : Type} [Lean.Grind.CommRing R] {sg : R → Int} (h : rs_Ok R sg) (x y : R) (hx : sg x = 0) : sg (x + y) = sg y := by
  have n1 := rs_n h x
  have n2 := rs_n h y
  have n3 := rs_n h (x + y)
  have e2 : -x + -y = -(x + y) := by grind
  rcases rs_t h y with e | e | e
  · have := rs_pp h (-x) (-y) (by omega) (by omega)
    rw [e2] at this
    omega
  · have := rs_pp h x y (by omega) (by omega)
    omega
  · have := rs_pp h x y (by omega) (by omega)
    omega
/-- the sign of a sum, by the squares with their signs -/
theorem rs_L {R : Type} [Lean.Grind.CommRing R] {sg : R → Int} (h : rs_Ok R sg) (a b a' b' : R)
    (ha : (a' = a * a ∧ 0 ≤ sg a) ∨ (a' = -(a * a) ∧ sg a ≤ 0))
    (hb : (b' = b * b ∧ 0 ≤ sg b) ∨ (b' = -(b * b) ∧ sg b ≤ 0)) : sg (a + b) = sg (a' + b') := by
  have na := rs_n h a
  have nb := rs_n h b
  have ta := rs_t h a
  have tb := rs_t h b
  have qa := rs_sq h a
  have qb := rs_sq h b
  rcases ha with ⟨rfl, ha⟩ | ⟨rfl, ha⟩ <;> rcases hb with ⟨rfl, hb⟩ | ⟨rfl, hb⟩
  · have h1 := rs_pp h a b ha hb
    have h2 := rs_pp h (a * a) (b * b) (by omega) (by omega)
    omega
  · have e : a * a + -(b * b) = (a + -b) * (a + b) := by grind
    rw [e, rs_m h]
    have h1 := rs_pp h a (-b) ha (by omega)
    rcases h1 with ⟨h1, h2, h3⟩ | ⟨h1, h3⟩
    · rw [h3, rs_null h a b h1]
      omega
    · rw [h3]; omega
  · have e : -(a * a) + b * b = (b + -a) * (a + b) := by grind
    rw [e, rs_m h]
    have h1 := rs_pp h b (-a) hb (by omega)
    rcases h1 with ⟨h1, h2, h3⟩ | ⟨h1, h3⟩
    · rw [h3, rs_null h a b (by omega)]
      omega
    · rw [h3]; omega
  · have h1 := rs_pp h (-a) (-b) (by omega) (by omega)
    have h2 := rs_pp h (a * a) (b * b) (by omega) (by omega)
    have e1 : -a + -b = -(a + b) := by grind
    have e2 : -(a * a) + -(b * b) = -(a * a + b * b) := by grind
    rw [e1, rs_n h (a + b)] at h1
    rw [e2, rs_n h (a * a + b * b)]
    omega
def rs_f {R : Type} [Lean.Grind.CommRing R] (sg : R → Int) (u : R) : R := if sg u < 0 then -(u * u) else u * u
def rs_S {R : Type} [Lean.Grind.CommRing R] (sg : R → Int) (d u v : R) : Int := sg (rs_f sg u + d * rs_f sg v)
theorem rs_f_c {R : Type} [Lean.Grind.CommRing R] (sg : R → Int) (u : R) :
    (rs_f sg u = u * u ∧ 0 ≤ sg u) ∨ (rs_f sg u = -(u * u) ∧ sg u ≤ 0) := by
  unfold rs_f
  split
  · right; exact ⟨rfl, by omega⟩
  · left; exact ⟨rfl, by omega⟩
theorem rs_f_s {R : Type} [Lean.Grind.CommRing R] {sg : R → Int} (h : rs_Ok R sg) (u : R) : sg (rs_f sg u) = sg u := by
  have t := rs_t h u
  have q := rs_sq h u
  have n := rs_n h (u * u)
  rcases rs_f_c sg u with ⟨e, s⟩ | ⟨e, s⟩ <;> rw [e] <;> omega
/-- either square serves where the sign is 0 -/
theorem rs_S_eq {R : Type} [Lean.Grind.CommRing R] {sg : R → Int} (h : rs_Ok R sg) (d u v a' b' : R)
    (ha : (a' = u * u ∧ 0 ≤ sg u) ∨ (a' = -(u * u) ∧ sg u ≤ 0))
    (hb : (b' = v * v ∧ 0 ≤ sg v) ∨ (b' = -(v * v) ∧ sg v ≤ 0)) : rs_S sg d u v = sg (a' + d * b') := by
  have h1 : sg (rs_f sg u + d * rs_f sg v) = sg (a' + d * rs_f sg v) := by
    by_cases z : sg u = 0
    · have qa := rs_sq h u
      have na := rs_n h (u * u)
      have z1 : sg (rs_f sg u) = 0 := by rw [rs_f_s h]; exact z
      have z2 : sg a' = 0 := by
        rcases ha with ⟨e, s⟩ | ⟨e, s⟩ <;> rw [e] <;> omega
      rw [rs_null h _ _ z1, rs_null h _ _ z2]
    · have : rs_f sg u = a' := by
        rcases rs_f_c sg u with ⟨e, s⟩ | ⟨e, s⟩ <;> rcases ha with ⟨e', s'⟩ | ⟨e', s'⟩ <;> first | omega | (rw [e, e'])
      rw [this]
  have h2 : sg (d * rs_f sg v + a') = sg (d * b' + a') := by
    by_cases z : sg v = 0
    · have qa := rs_sq h v
      have na := rs_n h (v * v)
      have z1 : sg (d * rs_f sg v) = 0 := by rw [rs_m h, rs_f_s h, z]; simp
      have z2 : sg (d * b') = 0 := by
        rw [rs_m h]
        have : sg b' = 0 := by
          rcases hb with ⟨e, s⟩ | ⟨e, s⟩ <;> rw [e] <;> omega
        rw [this]; simp
      rw [rs_null h _ _ z1, rs_null h _ _ z2]
    · have : rs_f sg v = b' := by
        rcases rs_f_c sg v with ⟨e, s⟩ | ⟨e, s⟩ <;> rcases hb with ⟨e', s'⟩ | ⟨e', s'⟩ <;> first | omega | (rw [e, e'])
      rw [this]
  have e1 : a' + d * rs_f sg v = d * rs_f sg v + a' := by grind
  have e2 : a' + d * b' = d * b' + a' := by grind
  unfold rs_S
  rw [h1, e1, h2, e2]
theorem rs_S_n {R : Type} [Lean.Grind.CommRing R] {sg : R → Int} (h : rs_Ok R sg) (d u v : R) : rs_S sg d (-u) (-v) = - rs_S sg d u v := by
  have nu := rs_n h u
  have nv := rs_n h v
  have e1 : (-u) * (-u) = u * u := by grind
  have e2 : (-v) * (-v) = v * v := by grind
  rw [rs_S_eq h d (-u) (-v) (-(rs_f sg u)) (-(rs_f sg v))]
  · have e : -(rs_f sg u) + d * -(rs_f sg v) = -(rs_f sg u + d * rs_f sg v) := by grind
    rw [e, rs_n h]; rfl
  · rw [e1]
    rcases rs_f_c sg u with ⟨e, s⟩ | ⟨e, s⟩
    · right; rw [e]; exact ⟨rfl, by omega⟩
    · left; rw [e]; exact ⟨by grind, by omega⟩
  · rw [e2]
    rcases rs_f_c sg v with ⟨e, s⟩ | ⟨e, s⟩
    · right; rw [e]; exact ⟨rfl, by omega⟩
    · left; rw [e]; exact ⟨by grind, by omega⟩
