section
/-! the tower: a commutative ring with a sign, and a root put to it -/
def rs_Ok (R : Type) [Lean.Grind.CommRing R] (sg : R → Int) : Prop :=
  (∀ x, sg x = -1 ∨ sg x = 0 ∨ sg x = 1) ∧
  (∀ x y, sg (x * y) = sg x * sg y) ∧
  (∀ x y, 0 ≤ sg x → 0 ≤ sg y → 0 ≤ sg (x + y)) ∧
  (∀ x y, 0 < sg x → 0 ≤ sg y → 0 < sg (x + y)) ∧
  (∀ x, sg (-x) = - sg x) ∧ sg 1 = 1

theorem rs_t {R : Type} [Lean.Grind.CommRing R] {sg : R → Int} (h : rs_Ok R sg) (x : R) : sg x = -1 ∨ sg x = 0 ∨ sg x = 1 := h.1 x
theorem rs_m {R : Type} [Lean.Grind.CommRing R] {sg : R → Int} (h : rs_Ok R sg) (x y : R) : sg (x * y) = sg x * sg y := h.2.1 x y
theorem rs_n {R : Type} [Lean.Grind.CommRing R] {sg : R → Int} (h : rs_Ok R sg) (x : R) : sg (-x) = - sg x := h.2.2.2.2.1 x
theorem rs_0 {R : Type} [Lean.Grind.CommRing R] {sg : R → Int} (h : rs_Ok R sg) : sg 0 = 0 := by
  have h1 := rs_n h 0
  have e : (-0 : R) = 0 := by grind
  rw [e] at h1
  omega
theorem rs_sq {R : Type} [Lean.Grind.CommRing R] {sg : R → Int} (h : rs_Ok R sg) (x : R) :
    (sg x = 0 ∧ sg (x * x) = 0) ∨ (sg x ≠ 0 ∧ sg (x * x) = 1) := by
  rw [rs_m h]
  rcases rs_t h x with e | e | e <;> rw [e] <;> simp
/-- two that are not below 0 -/
theorem rs_pp {R : Type} [Lean.Grind.CommRing R] {sg : R → Int} (h : rs_Ok R sg) (x y : R) (hx : 0 ≤ sg x) (hy : 0 ≤ sg y) :
    (sg x = 0 ∧ sg y = 0 ∧ sg (x + y) = 0) ∨ ((sg x = 1 ∨ sg y = 1) ∧ sg (x + y) = 1) := by
  have tx := rs_t h x
  have ty := rs_t h y
  have tz := rs_t h (x + y)
  have a1 := h.2.2.1 x y hx hy
  have a2 := h.2.2.2.1 x y
  have a3 := h.2.2.2.1 y x
  have e : y + x = x + y := by grind
  rw [e] at a3
  have n1 := rs_n h x
  have n2 := rs_n h y
  have n3 := rs_n h (x + y)
  have b1 := h.2.2.1 (-x) (-y)
  have e2 : -x + -y = -(x + y) := by grind
  rw [e2] at b1
  omega
theorem rs_null {R : Type} [Lean.Grind.CommRing R] {sg : R → Int} (h : rs_Ok R sg) (x y : R) (hx : sg x = 0) : sg (x + y) = sg y := by
  have n1 := rs_n h x
  have n2 := rs_n h y
  have n3 := rs_n h (x + y)
  have e2 : -x + -y = -(x + y) := by grind
  rcases rs_t h y with e | e | e
  · have := rs_pp h (-x) (-y) (by omega) (by omega)
    rw [e2] at this
    omega
  · have := rs_pp h x y (by omega) (by omega)
    omega
  · have := rs_pp h x y (by omega) (by omega)
    omega
/-- the sign of a sum, by the squares with their signs -/
theorem rs_L {R : Type} [Lean.Grind.CommRing R] {sg : R → Int} (h : rs_Ok R sg) (a b a' b' : R)
    (ha : (a' = a * a ∧ 0 ≤ sg a) ∨ (a' = -(a * a) ∧ sg a ≤ 0))
    (hb : (b' = b * b ∧ 0 ≤ sg b) ∨ (b' = -(b * b) ∧ sg b ≤ 0)) : sg (a + b) = sg (a' + b') := by
  have na := rs_n h a
  have nb := rs_n h b
  have ta := rs_t h a
  have tb := rs_t h b
  have qa := rs_sq h a
  have qb := rs_sq h b
  rcases ha with ⟨rfl, ha⟩ | ⟨rfl, ha⟩ <;> rcases hb with ⟨rfl, hb⟩ | ⟨rfl, hb⟩
  · have h1 := rs_pp h a b ha hb
    have h2 := rs_pp h (a * a) (b * b) (by omega) (by omega)
    omega
  · have e : a * a + -(b * b) = (a + -b) * (a + b) := by grind
    rw [e, rs_m h]
    have h1 := rs_pp h a (-b) ha (by omega)
    rcases h1 with ⟨h1, h2, h3⟩ | ⟨h1, h3⟩
    · rw [h3, rs_null h a b h1]
      omega
    · rw [h3]; omega
  · have e : -(a * a) + b * b = (b + -a) * (a + b) := by grind
    rw [e, rs_m h]
    have h1 := rs_pp h b (-a) hb (by omega)
    rcases h1 with ⟨h1, h2, h3⟩ | ⟨h1, h3⟩
    · rw [h3, rs_null h a b (by omega)]
      omega
    · rw [h3]; omega
  · have h1 := rs_pp h (-a) (-b) (by omega) (by omega)
    have h2 := rs_pp h (a * a) (b * b) (by omega) (by omega)
    have e1 : -a + -b = -(a + b) := by grind
    have e2 : -(a * a) + -(b * b) = -(a * a + b * b) := by grind
    rw [e1, rs_n h (a + b)] at h1
    rw [e2, rs_n h (a * a + b * b)]
    omega
def rs_f {R : Type} [Lean.Grind.CommRing R] (sg : R → Int) (u : R) : R := if sg u < 0 then -(u * u) else u * u
def rs_S {R : Type} [Lean.Grind.CommRing R] (sg : R → Int) (d u v : R) : Int := sg (rs_f sg u + d * rs_f sg v)
theorem rs_f_c {R : Type} [Lean.Grind.CommRing R] (sg : R → Int) (u : R) :
    (rs_f sg u = u * u ∧ 0 ≤ sg u) ∨ (rs_f sg u = -(u * u) ∧ sg u ≤ 0) := by
  unfold rs_f
  split
  · right; exact ⟨rfl, by omega⟩
  · left; exact ⟨rfl, by omega⟩
theorem rs_f_s {R : Type} [Lean.Grind.CommRing R] {sg : R → Int} (h : rs_Ok R sg) (u : R) : sg (rs_f sg u) = sg u := by
  have t := rs_t h u
  have q := rs_sq h u
  have n := rs_n h (u * u)
  rcases rs_f_c sg u with ⟨e, s⟩ | ⟨e, s⟩ <;> rw [e] <;> omega
/-- either square serves where the sign is 0 -/
theorem rs_S_eq {R : Type} [Lean.Grind.CommRing R] {sg : R → Int} (h : rs_Ok R sg) (d u v a' b' : R)
    (ha : (a' = u * u ∧ 0 ≤ sg u) ∨ (a' = -(u * u) ∧ sg u ≤ 0))
    (hb : (b' = v * v ∧ 0 ≤ sg v) ∨ (b' = -(v * v) ∧ sg v ≤ 0)) : rs_S sg d u v = sg (a' + d * b') := by
  have h1 : sg (rs_f sg u + d * rs_f sg v) = sg (a' + d * rs_f sg v) := by
    by_cases z : sg u = 0
    · have qa := rs_sq h u
      have na := rs_n h (u * u)
      have z1 : sg (rs_f sg u) = 0 := by rw [rs_f_s h]; exact z
      have z2 : sg a' = 0 := by
        rcases ha with ⟨e, s⟩ | ⟨e, s⟩ <;> rw [e] <;> omega
      rw [rs_null h _ _ z1, rs_null h _ _ z2]
    · have : rs_f sg u = a' := by
        rcases rs_f_c sg u with ⟨e, s⟩ | ⟨e, s⟩ <;> rcases ha with ⟨e', s'⟩ | ⟨e', s'⟩ <;> first | omega | (rw [e, e'])
      rw [this]
  have h2 : sg (d * rs_f sg v + a') = sg (d * b' + a') := by
    by_cases z : sg v = 0
    · have qa := rs_sq h v
      have na := rs_n h (v * v)
      have z1 : sg (d * rs_f sg v) = 0 := by rw [rs_m h, rs_f_s h, z]; simp
      have z2 : sg (d * b') = 0 := by
        rw [rs_m h]
        have : sg b' = 0 := by
          rcases hb with ⟨e, s⟩ | ⟨e, s⟩ <;> rw [e] <;> omega
        rw [this]; simp
      rw [rs_null h _ _ z1, rs_null h _ _ z2]
    · have : rs_f sg v = b' := by
        rcases rs_f_c sg v with ⟨e, s⟩ | ⟨e, s⟩ <;> rcases hb with ⟨e', s'⟩ | ⟨e', s'⟩ <;> first | omega | (rw [e, e'])
      rw [this]
  have e1 : a' + d * rs_f sg v = d * rs_f sg v + a' := by grind
  have e2 : a' + d * b' = d * b' + a' := by grind
  unfold rs_S
  rw [h1, e1, h2, e2]
theorem rs_S_n {R : Type} [Lean.Grind.CommRing R] {sg : R → Int} (h : rs_Ok R sg) (d u v : R) : rs_S sg d (-u) (-v) = - rs_S sg d u v := by
  have nu := rs_n h u
  have nv := rs_n h v
  have e1 : (-u) * (-u) = u * u := by grind
  have e2 : (-v) * (-v) = v * v := by grind
  rw [rs_S_eq h d (-u) (-v) (-(rs_f sg u)) (-(rs_f sg v))]
  · have e : -(rs_f sg u) + d * -(rs_f sg v) = -(rs_f sg u + d * rs_f sg v) := by grind
    rw [e, rs_n h]; rfl
  · rw [e1]
    rcases rs_f_c sg u with ⟨e, s⟩ | ⟨e, s⟩
    · right; rw [e]; exact ⟨rfl, by omega⟩
    · left; rw [e]; exact ⟨by grind, by omega⟩
  · rw [e2]
    rcases rs_f_c sg v with ⟨e, s⟩ | ⟨e, s⟩
    · right; rw [e]; exact ⟨rfl, by omega⟩
    · left; rw [e]; exact ⟨by grind, by omega⟩
end
section
/-! sums in the ring with a root of d put to it -/
def rs_G {R : Type} [Lean.Grind.CommRing R] (sg : R → Int) (d u1 v1 u2 v2 : R) : Prop :=
  0 ≤ rs_S sg d u1 v1 → 0 ≤ rs_S sg d u2 v2 →
  (rs_S sg d u1 v1 = 0 ∧ rs_S sg d u2 v2 = 0 ∧ rs_S sg d (u1 + u2) (v1 + v2) = 0) ∨
  ((rs_S sg d u1 v1 = 1 ∨ rs_S sg d u2 v2 = 1) ∧ rs_S sg d (u1 + u2) (v1 + v2) = 1)
theorem rs_G_c {R : Type} [Lean.Grind.CommRing R] {sg : R → Int} {d u1 v1 u2 v2 : R} (g : rs_G sg d u2 v2 u1 v1) : rs_G sg d u1 v1 u2 v2 := by
  intro h1 h2
  have := g h2 h1
  have e1 : u2 + u1 = u1 + u2 := by grind
  have e2 : v2 + v1 = v1 + v2 := by grind
  rw [e1, e2] at this
  omega
theorem rs_mul01 {a b : Int} (ha : a = -1 ∨ a = 0 ∨ a = 1) (hb : b = 0 ∨ b = 1) : (b = 0 ∧ a * b = 0) ∨ (b = 1 ∧ a * b = a) := by
  rcases hb with e | e <;> rw [e] <;> simp
/-- both comps not below 0: their sign -/
theorem rs_S_A {R : Type} [Lean.Grind.CommRing R] {sg : R → Int} (h : rs_Ok R sg) {d u v : R} (hd : 0 ≤ sg d) (hu : 0 ≤ sg u) (hv : 0 ≤ sg v) :
    (sg u = 0 ∧ sg (d * v) = 0 ∧ rs_S sg d u v = 0) ∨ ((sg u = 1 ∨ sg (d * v) = 1) ∧ rs_S sg d u v = 1) := by
  have e1 := rs_f_s h u
  have e2 : sg (d * rs_f sg v) = sg (d * v) := by rw [rs_m h, rs_m h, rs_f_s h]
  have e3 : 0 ≤ sg (d * v) := by
    rw [rs_m h]
    exact Int.mul_nonneg hd hv
  have := rs_pp h (rs_f sg u) (d * rs_f sg v) (by omega) (by omega)
  unfold rs_S
  omega
theorem rs_G_A {R : Type} [Lean.Grind.CommRing R] {sg : R → Int} (h : rs_Ok R sg) {d u1 v1 : R} (hd : 0 ≤ sg d) (hu : 0 ≤ sg u1) (hv : 0 ≤ sg v1) (u2 v2 : R) :
    rs_G sg d u1 v1 u2 v2 := by
  intro h1 h2
  have k1 := rs_S_A h hd hu hv
  have nf : ∀ w : R, (-(rs_f sg w) = (-w) * (-w) ∧ 0 ≤ sg (-w)) ∨ (-(rs_f sg w) = -((-w) * (-w)) ∧ sg (-w) ≤ 0) := by
    intro w
    have nw := rs_n h w
    rcases rs_f_c sg w with ⟨e, s⟩ | ⟨e, s⟩
    · right; exact ⟨by rw [e]; grind, by omega⟩
    · left; exact ⟨by rw [e]; grind, by omega⟩
  have al : sg (rs_f sg (u1 + u2) + -(rs_f sg u2)) = sg u1 := by
    have := rs_L h (u1 + u2) (-u2) _ _ (rs_f_c sg (u1 + u2)) (nf u2)
    rw [← this]
    congr 1; grind
  have be : sg (rs_f sg (v1 + v2) + -(rs_f sg v2)) = sg v1 := by
    have := rs_L h (v1 + v2) (-v2) _ _ (rs_f_c sg (v1 + v2)) (nf v2)
    rw [← this]
    congr 1; grind
  have e3 : 0 ≤ sg (d * v1) := by
    rw [rs_m h]
    exact Int.mul_nonneg hd hv
  have be2 : sg (d * (rs_f sg (v1 + v2) + -(rs_f sg v2))) = sg (d * v1) := by rw [rs_m h, rs_m h, be]
  have p1 := rs_pp h (rs_f sg (u1 + u2) + -(rs_f sg u2)) (d * (rs_f sg (v1 + v2) + -(rs_f sg v2))) (by omega) (by omega)
  have p2 := rs_pp h ((rs_f sg (u1 + u2) + -(rs_f sg u2)) + (d * (rs_f sg (v1 + v2) + -(rs_f sg v2)))) (rs_f sg u2 + d * rs_f sg v2) (by omega) h2
  have e4 : ((rs_f sg (u1 + u2) + -(rs_f sg u2)) + (d * (rs_f sg (v1 + v2) + -(rs_f sg v2)))) + (rs_f sg u2 + d * rs_f sg v2) = rs_f sg (u1 + u2) + d * rs_f sg (v1 + v2) := by grind
  rw [e4] at p2
  have f1 : rs_S sg d u2 v2 = sg (rs_f sg u2 + d * rs_f sg v2) := rfl
  have f2 : rs_S sg d (u1 + u2) (v1 + v2) = sg (rs_f sg (u1 + u2) + d * rs_f sg (v1 + v2)) := rfl
  rw [← f1, ← f2] at p2
  omega
theorem rs_G_N {R : Type} [Lean.Grind.CommRing R] {sg : R → Int} (h : rs_Ok R sg) (n1 n2 t w n q1 q2 : R)
    (e1 : n = (n1 + n2) + (t + t)) (e2 : sg t = sg w) (e3 : w = n1 * q1 + q2 * n2) (hq1 : 0 ≤ sg q1) (hq2 : 0 ≤ sg q2)
    (h1 : 0 ≤ sg n1) (h2 : 0 ≤ sg n2) :
    (sg n1 = 0 ∧ sg n2 = 0 ∧ sg n = 0) ∨ ((sg n1 = 1 ∨ sg n2 = 1) ∧ sg n = 1) := by
  have m1 : sg (n1 * q1) = sg n1 * sg q1 := rs_m h _ _
  have m2 : sg (q2 * n2) = sg q2 * sg n2 := rs_m h _ _
  have p1 : 0 ≤ sg (n1 * q1) := by rw [m1]; exact Int.mul_nonneg h1 hq1
  have p2 : 0 ≤ sg (q2 * n2) := by rw [m2]; exact Int.mul_nonneg hq2 h2
  have z1 : sg n1 = 0 → sg (n1 * q1) = 0 := by intro z; rw [m1, z]; simp
  have z2 : sg n2 = 0 → sg (q2 * n2) = 0 := by intro z; rw [m2, z]; simp
  have r1 := rs_pp h _ _ p1 p2
  have r2 := rs_pp h _ _ h1 h2
  rw [← e3] at r1
  have r3 := rs_pp h t t (by omega) (by omega)
  have r4 := rs_pp h (n1 + n2) (t + t) (by omega) (by omega)
  rw [← e1] at r4
  omega
theorem rs_G_B {R : Type} [Lean.Grind.CommRing R] {sg : R → Int} (h : rs_Ok R sg) {d u1 v1 u2 v2 : R} (hd : 0 ≤ sg d)
    (a1 : 0 ≤ sg u1) (b1 : sg v1 ≤ 0) (a2 : 0 ≤ sg u2) (b2 : sg v2 ≤ 0) : rs_G sg d u1 v1 u2 v2 := by
  intro h1 h2
  have na := rs_n h v1
  have nb := rs_n h v2
  have k1 := rs_S_eq h d u1 v1 (u1 * u1) (-(v1 * v1)) (Or.inl ⟨rfl, a1⟩) (Or.inr ⟨rfl, b1⟩)
  have k2 := rs_S_eq h d u2 v2 (u2 * u2) (-(v2 * v2)) (Or.inl ⟨rfl, a2⟩) (Or.inr ⟨rfl, b2⟩)
  have su := rs_pp h u1 u2 a1 a2
  have sv := rs_pp h (-v1) (-v2) (by omega) (by omega)
  have e0 : -v1 + -v2 = -(v1 + v2) := by grind
  rw [e0] at sv
  have nc := rs_n h (v1 + v2)
  have k3 := rs_S_eq h d (u1 + u2) (v1 + v2) ((u1 + u2) * (u1 + u2)) (-((v1 + v2) * (v1 + v2))) (Or.inl ⟨rfl, by omega⟩) (Or.inr ⟨rfl, by omega⟩)
  have m1 : 0 ≤ sg (u1 * u2) := by rw [rs_m h]; exact Int.mul_nonneg a1 a2
  have m2 : 0 ≤ sg (d * (v1 * v2)) := by
    have : v1 * v2 = (-v1) * (-v2) := by grind
    rw [this, rs_m h, rs_m h]
    exact Int.mul_nonneg hd (Int.mul_nonneg (by omega) (by omega))
  have nd := rs_n h (d * (v1 * v2))
  have kt := rs_L h (u1 * u2) (-(d * (v1 * v2))) ((u1 * u2) * (u1 * u2)) (-((d * (v1 * v2)) * (d * (v1 * v2))))
    (Or.inl ⟨rfl, m1⟩) (Or.inr ⟨by grind, by omega⟩)
  have sq1 := rs_sq h u2
  have sq2 := rs_sq h v1
  have q2 : 0 ≤ sg (d * (v1 * v1)) := by rw [rs_m h]; exact Int.mul_nonneg hd (by omega)
  have := rs_G_N h (u1 * u1 + d * -(v1 * v1)) (u2 * u2 + d * -(v2 * v2)) (u1 * u2 + -(d * (v1 * v2)))
    ((u1 * u2) * (u1 * u2) + -((d * (v1 * v2)) * (d * (v1 * v2)))) ((u1 + u2) * (u1 + u2) + d * -((v1 + v2) * (v1 + v2))) (u2 * u2) (d * (v1 * v1))
    (by grind) kt (by grind) (by omega) q2 (by omega) (by omega)
  omega
theorem rs_G_C {R : Type} [Lean.Grind.CommRing R] {sg : R → Int} (h : rs_Ok R sg) {d u1 v1 u2 v2 : R} (hd : 0 ≤ sg d)
    (a1 : sg u1 ≤ 0) (b1 : 0 ≤ sg v1) (a2 : sg u2 ≤ 0) (b2 : 0 ≤ sg v2) : rs_G sg d u1 v1 u2 v2 := by
  intro h1 h2
  have na := rs_n h u1
  have nb := rs_n h u2
  have k1 := rs_S_eq h d u1 v1 (-(u1 * u1)) (v1 * v1) (Or.inr ⟨rfl, a1⟩) (Or.inl ⟨rfl, b1⟩)
  have k2 := rs_S_eq h d u2 v2 (-(u2 * u2)) (v2 * v2) (Or.inr ⟨rfl, a2⟩) (Or.inl ⟨rfl, b2⟩)
  have sv := rs_pp h v1 v2 b1 b2
  have su := rs_pp h (-u1) (-u2) (by omega) (by omega)
  have e0 : -u1 + -u2 = -(u1 + u2) := by grind
  rw [e0] at su
  have nc := rs_n h (u1 + u2)
  have k3 := rs_S_eq h d (u1 + u2) (v1 + v2) (-((u1 + u2) * (u1 + u2))) ((v1 + v2) * (v1 + v2)) (Or.inr ⟨rfl, by omega⟩) (Or.inl ⟨rfl, by omega⟩)
  have m2 : 0 ≤ sg (d * (v1 * v2)) := by rw [rs_m h, rs_m h]; exact Int.mul_nonneg hd (Int.mul_nonneg b1 b2)
  have m1 : 0 ≤ sg (u1 * u2) := by
    have : u1 * u2 = (-u1) * (-u2) := by grind
    rw [this, rs_m h]
    exact Int.mul_nonneg (by omega) (by omega)
  have nd := rs_n h (u1 * u2)
  have kt := rs_L h (d * (v1 * v2)) (-(u1 * u2)) ((d * (v1 * v2)) * (d * (v1 * v2))) (-((u1 * u2) * (u1 * u2)))
    (Or.inl ⟨rfl, m2⟩) (Or.inr ⟨by grind, by omega⟩)
  have sq1 := rs_sq h u2
  have sq2 := rs_sq h v1
  have q2 : 0 ≤ sg (d * (v1 * v1)) := by rw [rs_m h]; exact Int.mul_nonneg hd (by omega)
  have := rs_G_N h (-(u1 * u1) + d * (v1 * v1)) (-(u2 * u2) + d * (v2 * v2)) (d * (v1 * v2) + -(u1 * u2))
    ((d * (v1 * v2)) * (d * (v1 * v2)) + -((u1 * u2) * (u1 * u2))) (-((u1 + u2) * (u1 + u2)) + d * ((v1 + v2) * (v1 + v2))) (u2 * u2) (d * (v1 * v1))
    (by grind) kt (by grind) (by omega) q2 (by omega) (by omega)
  omega
/-- both comps not above 0, and yet not below: then both are 0 -/
theorem rs_S_D {R : Type} [Lean.Grind.CommRing R] {sg : R → Int} (h : rs_Ok R sg) {d u v : R} (hd : sg d = 1) (hu : sg u ≤ 0) (hv : sg v ≤ 0)
    (hS : 0 ≤ rs_S sg d u v) : sg u = 0 ∧ sg v = 0 := by
  have nu := rs_n h u
  have nv := rs_n h v
  have k := rs_S_A h (u := -u) (v := -v) (d := d) (by omega) (by omega) (by omega)
  have e : sg (d * -v) = - sg v := by rw [rs_m h, hd, nv]; omega
  rw [rs_S_n h] at k
  omega
theorem rs_Q {R : Type} [Lean.Grind.CommRing R] {sg : R → Int} (h : rs_Ok R sg) {d u1 v1 u2 v2 : R} (hd : sg d = 1)
    (a1 : 0 ≤ sg u1) (b1 : sg v1 ≤ 0) (a2 : sg u2 ≤ 0) (b2 : 0 ≤ sg v2)
    (h1 : 0 ≤ rs_S sg d u1 v1) (h2 : 0 ≤ rs_S sg d u2 v2) (h3 : rs_S sg d (u1 + u2) (v1 + v2) ≤ 0) :
    rs_S sg d u1 v1 = 0 ∧ rs_S sg d u2 v2 = 0 ∧ rs_S sg d (u1 + u2) (v1 + v2) = 0 := by
  have n1 := rs_S_n h d u1 v1
  have n2 := rs_S_n h d u2 v2
  have n3 := rs_S_n h d (u1 + u2) (v1 + v2)
  have e1 : -(u1 + u2) + u1 = -u2 := by grind
  have e2 : -(v1 + v2) + v1 = -v2 := by grind
  have e3 : -(u1 + u2) + u2 = -u1 := by grind
  have e4 : -(v1 + v2) + v2 = -v1 := by grind
  have A : 0 ≤ sg (-(u1 + u2)) → 0 ≤ sg (-(v1 + v2)) → _ := fun p q => rs_G_A h (d := d) (by omega) p q u1 v1
  have B : 0 ≤ sg (-(u1 + u2)) → sg (-(v1 + v2)) ≤ 0 → _ := fun p q => rs_G_B h (d := d) (by omega) p q a1 b1
  have C : sg (-(u1 + u2)) ≤ 0 → 0 ≤ sg (-(v1 + v2)) → _ := fun p q => rs_G_C h (d := d) (by omega) p q a2 b2
  have D : sg (-(u1 + u2)) ≤ 0 → sg (-(v1 + v2)) ≤ 0 → _ := fun p q => rs_S_D h (d := d) hd p q (by omega)
  unfold rs_G at A B C
  rw [e1, e2] at A B
  rw [e3, e4] at C
  omega
theorem rs_S_t {R : Type} [Lean.Grind.CommRing R] {sg : R → Int} (h : rs_Ok R sg) (d u v : R) : rs_S sg d u v = -1 ∨ rs_S sg d u v = 0 ∨ rs_S sg d u v = 1 := rs_t h _
theorem rs_G_all {R : Type} [Lean.Grind.CommRing R] {sg : R → Int} (h : rs_Ok R sg) {d : R} (hd : 0 ≤ sg d) (u1 v1 u2 v2 : R) : rs_G sg d u1 v1 u2 v2 := by
  have td := rs_t h d
  by_cases z : sg d = 0
  · have k : ∀ u v, rs_S sg d u v = sg u := by
      intro u v
      have : sg (d * rs_f sg v) = 0 := by rw [rs_m h, z]; simp
      have e : rs_S sg d u v = sg (d * rs_f sg v + rs_f sg u) := by unfold rs_S; congr 1; grind
      rw [e, rs_null h _ _ this, rs_f_s h]
    unfold rs_G
    rw [k, k, k]
    exact rs_pp h u1 u2
  · have hd1 : sg d = 1 := by omega
    have t1 := rs_S_t h d (u1 + u2) (v1 + v2)
    have t2 := rs_S_t h d u1 v1
    have t3 := rs_S_t h d u2 v2
    have n1 := rs_S_n h d u1 v1
    have n2 := rs_S_n h d u2 v2
    have n3 := rs_S_n h d (u1 + u2) (v1 + v2)
    have m1 := rs_n h u1
    have m2 := rs_n h v1
    have m3 := rs_n h u2
    have m4 := rs_n h v2
    have e1 : -u2 + -u1 = -(u1 + u2) := by grind
    have e2 : -v2 + -v1 = -(v1 + v2) := by grind
    have e3 : u2 + u1 = u1 + u2 := by grind
    have e4 : v2 + v1 = v1 + v2 := by grind
    have e5 : -u1 + -u2 = -(u1 + u2) := by grind
    have e6 : -v1 + -v2 = -(v1 + v2) := by grind
    by_cases A1 : 0 ≤ sg u1 ∧ 0 ≤ sg v1
    · exact rs_G_A h hd A1.1 A1.2 _ _
    by_cases A2 : 0 ≤ sg u2 ∧ 0 ≤ sg v2
    · exact rs_G_c (rs_G_A h hd A2.1 A2.2 _ _)
    by_cases D1 : sg u1 ≤ 0 ∧ sg v1 ≤ 0
    · intro h1 h2
      have := rs_S_D h hd1 D1.1 D1.2 h1
      omega
    by_cases D2 : sg u2 ≤ 0 ∧ sg v2 ≤ 0
    · intro h1 h2
      have := rs_S_D h hd1 D2.1 D2.2 h2
      omega
    by_cases B1 : 0 ≤ sg u1
    · by_cases B2 : 0 ≤ sg u2
      · exact rs_G_B h hd B1 (by omega) B2 (by omega)
      · intro h1 h2
        have q1 := rs_Q h hd1 B1 (v1 := v1) (u2 := u2) (v2 := v2) (by omega) (by omega) (by omega) h1 h2
        have q2 := rs_Q h hd1 (u1 := -u2) (v1 := -v2) (u2 := -u1) (v2 := -v1) (by omega) (by omega) (by omega) (by omega)
        rw [e1, e2] at q2
        omega
    · by_cases B2 : 0 ≤ sg u2
      · apply rs_G_c
        intro h1 h2
        have q1 := rs_Q h hd1 B2 (v1 := v2) (u2 := u1) (v2 := v1) (by omega) (by omega) (by omega) h1 h2
        have q2 := rs_Q h hd1 (u1 := -u1) (v1 := -v1) (u2 := -u2) (v2 := -v2) (by omega) (by omega) (by omega) (by omega)
        rw [e5, e6] at q2
        rw [e3, e4] at q1 ⊢
        omega
      · exact rs_G_C h hd (by omega) (by omega) (by omega) (by omega)
end
section
/-! products, the ring of pairs, the tower -/
theorem rs_S_r {R : Type} [Lean.Grind.CommRing R] {sg : R → Int} (h : rs_Ok R sg) (d r u v : R) : rs_S sg d (r * u) (r * v) = sg r * rs_S sg d u v := by
  have pos : ∀ r : R, 0 ≤ sg r → rs_S sg d (r * u) (r * v) = sg r * rs_S sg d u v := by
    intro r hr
    have key : ∀ w : R, (r * r * rs_f sg w = (r * w) * (r * w) ∧ 0 ≤ sg (r * w)) ∨ (r * r * rs_f sg w = -((r * w) * (r * w)) ∧ sg (r * w) ≤ 0) := by
      intro w
      have m := rs_m h r w
      have tr := rs_t h r
      rcases rs_f_c sg w with ⟨e, s⟩ | ⟨e, s⟩
      · left; refine ⟨by rw [e]; grind, ?_⟩
        rw [m]; exact Int.mul_nonneg hr s
      · right; refine ⟨by rw [e]; grind, ?_⟩
        rw [m]
        have : sg r = 0 ∨ sg r = 1 := by omega
        rcases this with z | z <;> rw [z] <;> omega
    rw [rs_S_eq h d (r * u) (r * v) _ _ (key u) (key v)]
    have e : r * r * rs_f sg u + d * (r * r * rs_f sg v) = (r * r) * (rs_f sg u + d * rs_f sg v) := by grind
    rw [e, rs_m h]
    have q := rs_sq h r
    have tr := rs_t h r
    have : sg (r * r) = sg r := by omega
    rw [this]; rfl
  by_cases hr : 0 ≤ sg r
  · exact pos r hr
  · have nr := rs_n h r
    have p := pos (-r) (by omega)
    have e1 : -r * u = -(r * u) := by grind
    have e2 : -r * v = -(r * v) := by grind
    rw [e1, e2, rs_S_n h, nr, Int.neg_mul] at p
    omega
theorem rs_S_d {R : Type} [Lean.Grind.CommRing R] {sg : R → Int} (h : rs_Ok R sg) {d : R} (hd : 0 ≤ sg d) (u v : R) : rs_S sg d (d * v) u = sg d * rs_S sg d u v := by
  have key : (d * d * rs_f sg v = (d * v) * (d * v) ∧ 0 ≤ sg (d * v)) ∨ (d * d * rs_f sg v = -((d * v) * (d * v)) ∧ sg (d * v) ≤ 0) := by
    have m := rs_m h d v
    have tr := rs_t h d
    rcases rs_f_c sg v with ⟨e, s⟩ | ⟨e, s⟩
    · left; refine ⟨by rw [e]; grind, ?_⟩
      rw [m]; exact Int.mul_nonneg hd s
    · right; refine ⟨by rw [e]; grind, ?_⟩
      rw [m]
      have : sg d = 0 ∨ sg d = 1 := by omega
      rcases this with z | z <;> rw [z] <;> omega
  rw [rs_S_eq h d (d * v) u _ _ key (rs_f_c sg u)]
  have e : d * d * rs_f sg v + d * rs_f sg u = d * (rs_f sg u + d * rs_f sg v) := by grind
  rw [e, rs_m h]; rfl
theorem rs_M_A {R : Type} [Lean.Grind.CommRing R] {sg : R → Int} (h : rs_Ok R sg) {d u1 v1 : R} (hd : 0 ≤ sg d) (hu : 0 ≤ sg u1) (hv : 0 ≤ sg v1) (u2 v2 : R) :
    rs_S sg d (u1 * u2 + d * (v1 * v2)) (u1 * v2 + v1 * u2) = rs_S sg d u1 v1 * rs_S sg d u2 v2 := by
  have pos : ∀ u2 v2 : R, 0 ≤ rs_S sg d u2 v2 → rs_S sg d (u1 * u2 + d * (v1 * v2)) (u1 * v2 + v1 * u2) = rs_S sg d u1 v1 * rs_S sg d u2 v2 := by
    intro u2 v2 hy
    have ty := rs_S_t h d u2 v2
    have p := rs_S_r h d u1 u2 v2
    have q := rs_S_r h d v1 (d * v2) u2
    rw [rs_S_d h hd] at q
    have g := rs_G_all h hd (u1 * u2) (u1 * v2) (v1 * (d * v2)) (v1 * u2)
    have e : u1 * u2 + v1 * (d * v2) = u1 * u2 + d * (v1 * v2) := by grind
    unfold rs_G at g
    rw [e, p, q] at g
    have k := rs_S_A h hd hu hv
    have m := rs_m h d v1
    have tu := rs_t h u1
    have tv := rs_t h v1
    have td := rs_t h d
    have : rs_S sg d u2 v2 = 0 ∨ rs_S sg d u2 v2 = 1 := by omega
    rcases this with z | z
    · rw [z] at g ⊢
      simp at g ⊢
      exact g
    · rw [z] at g ⊢
      have c : sg v1 * (sg d * 1) = sg (d * v1) := by rw [m, Int.mul_one, Int.mul_comm]
      rw [c] at g
      have nn : 0 ≤ sg (d * v1) := by rw [m]; exact Int.mul_nonneg hd hv
      omega
  by_cases hy : 0 ≤ rs_S sg d u2 v2
  · exact pos u2 v2 hy
  · have n := rs_S_n h d u2 v2
    have p := pos (-u2) (-v2) (by omega)
    have e1 : u1 * -u2 + d * (v1 * -v2) = -(u1 * u2 + d * (v1 * v2)) := by grind
    have e2 : u1 * -v2 + v1 * -u2 = -(u1 * v2 + v1 * u2) := by grind
    rw [e1, e2, rs_S_n h, n, Int.mul_neg] at p
    omega
theorem rs_M_B {R : Type} [Lean.Grind.CommRing R] {sg : R → Int} (h : rs_Ok R sg) {d u1 v1 u2 v2 : R} (hd : 0 ≤ sg d)
    (a1 : 0 ≤ sg u1) (b1 : sg v1 ≤ 0) (a2 : 0 ≤ sg u2) (b2 : sg v2 ≤ 0) :
    rs_S sg d (u1 * u2 + d * (v1 * v2)) (u1 * v2 + v1 * u2) = rs_S sg d u1 v1 * rs_S sg d u2 v2 := by
  have na := rs_n h v1
  have nb := rs_n h v2
  have k1 := rs_S_eq h d u1 v1 (u1 * u1) (-(v1 * v1)) (Or.inl ⟨rfl, a1⟩) (Or.inr ⟨rfl, b1⟩)
  have k2 := rs_S_eq h d u2 v2 (u2 * u2) (-(v2 * v2)) (Or.inl ⟨rfl, a2⟩) (Or.inr ⟨rfl, b2⟩)
  have m1 : 0 ≤ sg (u1 * u2) := by rw [rs_m h]; exact Int.mul_nonneg a1 a2
  have m2 : 0 ≤ sg (d * (v1 * v2)) := by
    have : v1 * v2 = (-v1) * (-v2) := by grind
    rw [this, rs_m h, rs_m h]
    exact Int.mul_nonneg hd (Int.mul_nonneg (by omega) (by omega))
  have m3 : 0 ≤ sg (u1 * -v2) := by rw [rs_m h]; exact Int.mul_nonneg a1 (by omega)
  have m4 : 0 ≤ sg (-v1 * u2) := by rw [rs_m h]; exact Int.mul_nonneg (by omega) a2
  have p1 := rs_pp h _ _ m1 m2
  have p2 := rs_pp h _ _ m3 m4
  have e : u1 * -v2 + -v1 * u2 = -(u1 * v2 + v1 * u2) := by grind
  rw [e, rs_n h (u1 * v2 + v1 * u2)] at p2
  have k3 := rs_S_eq h d (u1 * u2 + d * (v1 * v2)) (u1 * v2 + v1 * u2) _ _ (Or.inl ⟨rfl, by omega⟩) (Or.inr ⟨rfl, by omega⟩)
  rw [k1, k2, k3, ← rs_m h]
  congr 1
  grind
theorem rs_M {R : Type} [Lean.Grind.CommRing R] {sg : R → Int} (h : rs_Ok R sg) {d : R} (hd : 0 ≤ sg d) (u1 v1 u2 v2 : R) :
    rs_S sg d (u1 * u2 + d * (v1 * v2)) (u1 * v2 + v1 * u2) = rs_S sg d u1 v1 * rs_S sg d u2 v2 := by
  have pos : ∀ u1 v1 u2 v2 : R, 0 ≤ sg u1 → 0 ≤ sg u2 → rs_S sg d (u1 * u2 + d * (v1 * v2)) (u1 * v2 + v1 * u2) = rs_S sg d u1 v1 * rs_S sg d u2 v2 := by
    intro u1 v1 u2 v2 h1 h2
    by_cases A1 : 0 ≤ sg v1
    · exact rs_M_A h hd h1 A1 _ _
    by_cases A2 : 0 ≤ sg v2
    · have := rs_M_A h hd h2 A2 u1 v1
      rw [Int.mul_comm, ← this]
      congr 1 <;> grind
    exact rs_M_B h hd h1 (by omega) h2 (by omega)
  have half : ∀ u1 v1 u2 v2 : R, 0 ≤ sg u1 → rs_S sg d (u1 * u2 + d * (v1 * v2)) (u1 * v2 + v1 * u2) = rs_S sg d u1 v1 * rs_S sg d u2 v2 := by
    intro u1 v1 u2 v2 h1
    by_cases h2 : 0 ≤ sg u2
    · exact pos _ _ _ _ h1 h2
    · have n := rs_S_n h d u2 v2
      have n2 := rs_n h u2
      have p := pos u1 v1 (-u2) (-v2) h1 (by omega)
      have e1 : u1 * -u2 + d * (v1 * -v2) = -(u1 * u2 + d * (v1 * v2)) := by grind
      have e2 : u1 * -v2 + v1 * -u2 = -(u1 * v2 + v1 * u2) := by grind
      rw [e1, e2, rs_S_n h, n, Int.mul_neg] at p
      omega
  by_cases h1 : 0 ≤ sg u1
  · exact half _ _ _ _ h1
  · have n := rs_S_n h d u1 v1
    have n2 := rs_n h u1
    have p := half (-u1) (-v1) u2 v2 (by omega)
    have e1 : -u1 * u2 + d * (-v1 * v2) = -(u1 * u2 + d * (v1 * v2)) := by grind
    have e2 : -u1 * v2 + -v1 * u2 = -(u1 * v2 + v1 * u2) := by grind
    rw [e1, e2, rs_S_n h, n, Int.neg_mul] at p
    omega
def rs_pn (R : Type) [Lean.Grind.CommRing R] (n : Nat) : R × R := (OfNat.ofNat n, 0)
def rs_pmul {R : Type} [Lean.Grind.CommRing R] (d : R) (x y : R × R) : R × R := (x.1 * y.1 + d * (x.2 * y.2), x.1 * y.2 + x.2 * y.1)
def rs_pi (R : Type) [Lean.Grind.CommRing R] (i : Int) : R × R := if 0 ≤ i then rs_pn R i.toNat else (-(rs_pn R (-i).toNat).1, 0)
theorem rs_of_s (R : Type) [Lean.Grind.CommRing R] (n : Nat) : (OfNat.ofNat (n + 1) : R) = OfNat.ofNat n + 1 := Lean.Grind.Semiring.ofNat_succ n
theorem rs_pi_2 (R : Type) [Lean.Grind.CommRing R] (i : Int) : (rs_pi R i).2 = 0 := by
  unfold rs_pi
  split <;> rfl
theorem rs_pi_n (R : Type) [Lean.Grind.CommRing R] (i : Int) : (rs_pi R (-i)).1 = -(rs_pi R i).1 := by
  unfold rs_pi
  rcases Int.lt_trichotomy i 0 with z | z | z
  · rw [if_pos (by omega), if_neg (by omega)]
    grind
  · subst z
    rw [if_pos (by omega), if_pos (by omega)]
    show (0 : R) = -(0 : R)
    grind
  · rw [if_neg (by omega), if_pos (by omega), Int.neg_neg]
theorem rs_pi_p (R : Type) [Lean.Grind.CommRing R] (n : Nat) : rs_pi R (n : Int) = rs_pn R n := by
  unfold rs_pi
  rw [if_pos (by omega), Int.toNat_natCast]
def rs_ring {R : Type} [Lean.Grind.CommRing R] (d : R) : Lean.Grind.CommRing (R × R) where
  add x y := (x.1 + y.1, x.2 + y.2)
  mul := rs_pmul d
  natCast := ⟨rs_pn R⟩
  ofNat n := ⟨rs_pn R n⟩
  nsmul := ⟨fun n x => rs_pmul d (rs_pn R n) x⟩
  npow := ⟨fun x n => Nat.rec (rs_pn R 1) (fun _ y => rs_pmul d y x) n⟩
  neg x := (-x.1, -x.2)
  sub x y := (x.1 - y.1, x.2 - y.2)
  intCast := ⟨rs_pi R⟩
  zsmul := ⟨fun i x => rs_pmul d (rs_pi R i) x⟩
  add_zero := by
    intro a; show (a.1 + 0, a.2 + 0) = a
    apply Prod.ext <;> grind
  add_comm := by
    intro a b; show (a.1 + b.1, a.2 + b.2) = (b.1 + a.1, b.2 + a.2)
    apply Prod.ext <;> grind
  add_assoc := by
    intro a b c; show (a.1 + b.1 + c.1, a.2 + b.2 + c.2) = (a.1 + (b.1 + c.1), a.2 + (b.2 + c.2))
    apply Prod.ext <;> grind
  mul_assoc := by
    intro a b c; show rs_pmul d (rs_pmul d a b) c = rs_pmul d a (rs_pmul d b c)
    unfold rs_pmul
    apply Prod.ext <;> grind
  mul_one := by
    intro a; show rs_pmul d a (1, 0) = a
    unfold rs_pmul
    apply Prod.ext <;> grind
  one_mul := by
    intro a; show rs_pmul d (1, 0) a = a
    unfold rs_pmul
    apply Prod.ext <;> grind
  left_distrib := by
    intro a b c; show rs_pmul d a (b.1 + c.1, b.2 + c.2) = ((rs_pmul d a b).1 + (rs_pmul d a c).1, (rs_pmul d a b).2 + (rs_pmul d a c).2)
    unfold rs_pmul
    apply Prod.ext <;> grind
  right_distrib := by
    intro a b c; show rs_pmul d (a.1 + b.1, a.2 + b.2) c = ((rs_pmul d a c).1 + (rs_pmul d b c).1, (rs_pmul d a c).2 + (rs_pmul d b c).2)
    unfold rs_pmul
    apply Prod.ext <;> grind
  zero_mul := by
    intro a; show rs_pmul d (0, 0) a = (0, 0)
    unfold rs_pmul
    apply Prod.ext <;> grind
  mul_zero := by
    intro a; show rs_pmul d a (0, 0) = (0, 0)
    unfold rs_pmul
    apply Prod.ext <;> grind
  pow_zero := by intro a; rfl
  pow_succ := by intro a n; rfl
  ofNat_succ := by
    intro n; show rs_pn R (n + 1) = ((rs_pn R n).1 + 1, (rs_pn R n).2 + 0)
    unfold rs_pn
    apply Prod.ext
    · exact rs_of_s R n
    · grind
  mul_comm := by
    intro a b; show rs_pmul d a b = rs_pmul d b a
    unfold rs_pmul
    apply Prod.ext <;> grind
  neg_add_cancel := by
    intro a; show (-a.1 + a.1, -a.2 + a.2) = (0, 0)
    apply Prod.ext <;> grind
  sub_eq_add_neg := by
    intro a b; show (a.1 - b.1, a.2 - b.2) = (a.1 + -b.1, a.2 + -b.2)
    apply Prod.ext <;> grind
  neg_zsmul := by
    intro i a; show rs_pmul d (rs_pi R (-i)) a = (-(rs_pmul d (rs_pi R i) a).1, -(rs_pmul d (rs_pi R i) a).2)
    have e1 := rs_pi_n R i
    have e2 := rs_pi_2 R i
    have e3 := rs_pi_2 R (-i)
    unfold rs_pmul
    apply Prod.ext
    · show (rs_pi R (-i)).1 * a.1 + d * ((rs_pi R (-i)).2 * a.2) = -((rs_pi R i).1 * a.1 + d * ((rs_pi R i).2 * a.2))
      rw [e1, e2, e3]; grind
    · show (rs_pi R (-i)).1 * a.2 + (rs_pi R (-i)).2 * a.1 = -((rs_pi R i).1 * a.2 + (rs_pi R i).2 * a.1)
      rw [e1, e2, e3]; grind
  zsmul_natCast_eq_nsmul := by
    intro n a; show rs_pmul d (rs_pi R (n : Int)) a = rs_pmul d (rs_pn R n) a
    rw [rs_pi_p]
  intCast_ofNat := by
    intro n; exact rs_pi_p R n
  intCast_neg := by
    intro i; show rs_pi R (-i) = (-(rs_pi R i).1, -(rs_pi R i).2)
    apply Prod.ext
    · exact rs_pi_n R i
    · show (rs_pi R (-i)).2 = -(rs_pi R i).2
      rw [rs_pi_2, rs_pi_2]; grind
def rs_psg {R : Type} [Lean.Grind.CommRing R] (sg : R → Int) (d : R) (x : R × R) : Int := rs_S sg d x.1 x.2
theorem rs_adj {R : Type} [Lean.Grind.CommRing R] {sg : R → Int} (h : rs_Ok R sg) {d : R} (hd : 0 ≤ sg d) :
    @rs_Ok (R × R) (rs_ring d) (rs_psg sg d) := by
  refine ⟨?_, ?_, ?_, ?_, ?_, ?_⟩
  · intro x; exact rs_S_t h d x.1 x.2
  · intro x y; exact rs_M h hd x.1 x.2 y.1 y.2
  · intro x y hx hy
    have := rs_G_all h hd x.1 x.2 y.1 y.2 hx hy
    show 0 ≤ rs_S sg d (x.1 + y.1) (x.2 + y.2)
    omega
  · intro x y hx hy
    have hx' : 0 < rs_S sg d x.1 x.2 := hx
    have := rs_G_all h hd x.1 x.2 y.1 y.2 (by omega) hy
    show 0 < rs_S sg d (x.1 + y.1) (x.2 + y.2)
    omega
  · intro x; exact rs_S_n h d x.1 x.2
  · show rs_S sg d 1 0 = 1
    have o : sg (1 : R) = 1 := h.2.2.2.2.2
    have z := rs_0 h
    have := rs_S_A h hd (u := (1 : R)) (v := (0 : R)) (by omega) (by omega)
    omega
theorem rs_adj_e {R : Type} [Lean.Grind.CommRing R] {sg : R → Int} (h : rs_Ok R sg) (d x : R) : rs_psg sg d (x, 0) = sg x := by
  show rs_S sg d x 0 = sg x
  have z := rs_0 h
  rw [rs_S_eq h d x 0 (rs_f sg x) (0 * 0) (rs_f_c sg x) (Or.inl ⟨rfl, by omega⟩)]
  have e : rs_f sg x + d * (0 * 0) = rs_f sg x := by grind
  rw [e, rs_f_s h]
/-- a ring with a sign that holds the integers and the roots of all numbers below N -/
theorem rs_tower (N : Nat) : ∃ (R : Type) (_ : Lean.Grind.CommRing R) (sg : R → Int) (e : Int → R) (rt : Nat → R),
    rs_Ok R sg ∧ (∀ x y, e (x + y) = e x + e y) ∧ (∀ x y, e (x * y) = e x * e y) ∧ (∀ x, e (-x) = -e x) ∧ e 0 = 0 ∧ e 1 = 1 ∧
    (∀ x, sg (e x) = Int.sign x) ∧ ∀ d, d < N → 0 ≤ sg (rt d) ∧ rt d * rt d = e (d : Int) := by
  induction N with
  | zero =>
    refine ⟨Int, inferInstance, Int.sign, id, fun _ => 0, ⟨?_, ?_, ?_, ?_, ?_, ?_⟩, fun _ _ => rfl, fun _ _ => rfl, fun _ => rfl, rfl, rfl, fun _ => rfl, fun d hd => absurd hd (by omega)⟩
    · intro x
      rcases Int.lt_trichotomy x 0 with z | z | z
      · left; exact Int.sign_eq_neg_one_of_neg z
      · right; left; rw [z]; rfl
      · right; right; exact Int.sign_eq_one_of_pos z
    · intro x y; exact Int.sign_mul x y
    · intro x y hx hy
      rw [Int.sign_nonneg_iff] at *
      omega
    · intro x y hx hy
      rw [Int.sign_nonneg_iff] at *
      rw [Int.sign_pos_iff] at *
      omega
    · intro x; exact Int.sign_neg x
    · rfl
  | succ N ih =>
    obtain ⟨R, I, sg, e, rt, h, e1, e2, e3, e4, e5, e6, hr⟩ := ih
    have hd : 0 ≤ sg (e (N : Int)) := by
      rw [e6, Int.sign_nonneg_iff]; omega
    refine ⟨R × R, rs_ring (e (N : Int)), rs_psg sg (e (N : Int)), fun x => (e x, 0), fun d => if d = N then (0, 1) else (rt d, 0), rs_adj h hd, ?_, ?_, ?_, ?_, ?_, ?_, ?_⟩
    · intro x y
      show (e (x + y), (0 : R)) = (e x + e y, 0 + 0)
      rw [e1]; apply Prod.ext <;> grind
    · intro x y
      show (e (x * y), (0 : R)) = (e x * e y + e N * (0 * 0), e x * 0 + 0 * e y)
      rw [e2]; apply Prod.ext <;> grind
    · intro x
      show (e (-x), (0 : R)) = (-e x, -0)
      rw [e3]; apply Prod.ext <;> grind
    · show (e 0, (0 : R)) = (0, 0)
      rw [e4]
    · show (e 1, (0 : R)) = (1, 0)
      rw [e5]
    · intro x; rw [rs_adj_e h, e6]
    · intro d hdN
      by_cases z : d = N
      · subst z
        simp only [if_pos]
        constructor
        · show 0 ≤ rs_S sg (e (d : Int)) 0 1
          have o : sg (1 : R) = 1 := h.2.2.2.2.2
          have z := rs_0 h
          have := rs_S_A h hd (u := (0 : R)) (v := (1 : R)) (by omega) (by omega)
          omega
        · show ((0 : R) * 0 + e d * (1 * 1), (0 : R) * 1 + 1 * 0) = (e d, 0)
          apply Prod.ext <;> grind
      · simp only [if_neg z]
        have := hr d (by omega)
        constructor
        · rw [rs_adj_e h]; exact this.1
        · show (rt d * rt d + e N * (0 * 0), rt d * 0 + 0 * rt d) = (e d, 0)
          rw [this.2]
          apply Prod.ext <;> grind
end
section
/-! the comparisons of both sides over the integers, and a key for every number that they compare -/
def sf_sor (x u y v : Int) : Int := Int.sign ((if 0 ≤ x then x * x * u else -x * x * u) + (if 0 ≤ y then y * y * v else -y * y * v))
def sf_cx (p1 s1 d1 q1 p2 s2 d2 q2 : Int) : Int :=
  let w := p1 * q2 - p2 * q1
  let x := s1 * q2
  let y := -s2 * q1
  let r := sf_sor x d1 y d2
  sf_sor ((if 0 ≤ w then w * w else -w * w) + r * (x * x * d1 + y * y * d2)) 1 (2 * r * x * y) (d1 * d2)
def sf_ss (u v d : Int) : Int :=
  let one := Int.sign u
  let two := if d = 0 then 0 else Int.sign v
  if two = 0 then one else if one = two then one else if one = 0 then two else one * Int.sign (u * u - v * v * d)
def sf_cy (p1 s1 d1 q1 p2 s2 d2 q2 : Int) : Int :=
  let a := q2 * p1 - q1 * p2
  let b := q2 * s1
  let c := q1 * s2
  let one := sf_ss a b d1
  let two := if d2 = 0 then 0 else Int.sign c
  if one = two then (if one = 0 then 0 else one * sf_ss (a * a + b * b * d1 - c * c * d2) (2 * a * b) d1) else if one ≤ two then -1 else 1
def sf_sa (a b c p s d q : Int) : Int := sf_ss (a * (p * p + s * s * d) + b * q * p + c * q * q) (2 * a * p * s + b * q * s) d
def sf_V (p s d q : Int) : Prop := -100 ≤ p ∧ p ≤ 100 ∧ -1 ≤ s ∧ s ≤ 1 ∧ 0 ≤ d ∧ d ≤ 4500 ∧ 1 ≤ q ∧ q ≤ 100

theorem sf_sg3 (x : Int) : (x < 0 ∧ Int.sign x = -1) ∨ (x = 0 ∧ Int.sign x = 0) ∨ (0 < x ∧ Int.sign x = 1) := by
  rcases Int.lt_trichotomy x 0 with z | z | z
  · left; exact ⟨z, Int.sign_eq_neg_one_of_neg z⟩
  · right; left; exact ⟨z, by rw [z]; rfl⟩
  · right; right; exact ⟨z, Int.sign_eq_one_of_pos z⟩
section
variable {R : Type}
theorem sf_sorR [Lean.Grind.CommRing R] {sg : R → Int} {e : Int → R} (h : rs_Ok R sg) (e1 : ∀ x y, e (x + y) = e x + e y) (e2 : ∀ x y, e (x * y) = e x * e y) (e3 : ∀ x, e (-x) = -e x)
    (e6 : ∀ x, sg (e x) = Int.sign x) (x u y v : Int) (r1 r2 : R) (h1 : 0 ≤ sg r1) (q1 : r1 * r1 = e u) (h2 : 0 ≤ sg r2) (q2 : r2 * r2 = e v) :
    sf_sor x u y v = sg (e x * r1 + e y * r2) := by
  have key : ∀ (x u : Int) (r : R), 0 ≤ sg r → r * r = e u →
      (e (if 0 ≤ x then x * x * u else -x * x * u) = (e x * r) * (e x * r) ∧ 0 ≤ sg (e x * r)) ∨
      (e (if 0 ≤ x then x * x * u else -x * x * u) = -((e x * r) * (e x * r)) ∧ sg (e x * r) ≤ 0) := by
    intro x u r hr q
    have s3 := sf_sg3 x
    have tr := rs_t h r
    have m : sg (e x * r) = Int.sign x * sg r := by rw [rs_m h, e6]
    by_cases hx : 0 ≤ x
    · left
      rw [if_pos hx, e2, e2, ← q]
      refine ⟨by grind, ?_⟩
      rw [m]; exact Int.mul_nonneg (by omega) hr
    · right
      rw [if_neg hx, e2, e2, e3, ← q]
      refine ⟨by grind, ?_⟩
      rw [m]
      have : Int.sign x = -1 := by omega
      rw [this]; omega
  rw [rs_L h _ _ _ _ (key x u r1 h1 q1) (key y v r2 h2 q2), ← e1, e6]
  rfl
theorem sf_cxR [Lean.Grind.CommRing R] {sg : R → Int} {e : Int → R} (h : rs_Ok R sg) (e1 : ∀ x y, e (x + y) = e x + e y) (e2 : ∀ x y, e (x * y) = e x * e y) (e3 : ∀ x, e (-x) = -e x) (e4 : e 0 = 0) (e5 : e 1 = 1)
    (e6 : ∀ x, sg (e x) = Int.sign x) (p1 s1 d1 q1 p2 s2 d2 q2 : Int) (r1 r2 : R) (h1 : 0 ≤ sg r1) (k1 : r1 * r1 = e d1) (h2 : 0 ≤ sg r2) (k2 : r2 * r2 = e d2) :
    sf_cx p1 s1 d1 q1 p2 s2 d2 q2 = sg (e q2 * (e p1 + e s1 * r1) - e q1 * (e p2 + e s2 * r2)) := by
  have es : ∀ x y, e (x - y) = e x - e y := by
    intro x y
    rw [Int.sub_eq_add_neg, e1, e3]; grind
  have hA : e q2 * (e p1 + e s1 * r1) - e q1 * (e p2 + e s2 * r2) = (e (s1 * q2) * r1 + e (-s2 * q1) * r2) + e (p1 * q2 - p2 * q1) := by
    rw [es, e2, e2, e2, e2, e3]; grind
  rw [hA]
  unfold sf_cx
  dsimp only
  generalize p1 * q2 - p2 * q1 = w
  generalize s1 * q2 = x
  generalize -s2 * q1 = y
  have hr := sf_sorR h e1 e2 e3 e6 x d1 y d2 r1 r2 h1 k1 h2 k2
  rw [hr]
  have hm : 0 ≤ sg (r1 * r2) := by rw [rs_m h]; exact Int.mul_nonneg h1 h2
  have km : (r1 * r2) * (r1 * r2) = e (d1 * d2) := by rw [e2, ← k1, ← k2]; grind
  have ho : sg (1 : R) = 1 := h.2.2.2.2.2
  have ko : (1 : R) * 1 = e 1 := by rw [e5]; grind
  rw [sf_sorR h e1 e2 e3 e6 _ 1 _ (d1 * d2) 1 (r1 * r2) (by omega) ko hm km]
  have tw := rs_t h (e x * r1 + e y * r2)
  have hw : (e (if 0 ≤ w then w * w else -w * w) = e w * e w ∧ 0 ≤ sg (e w)) ∨ (e (if 0 ≤ w then w * w else -w * w) = -(e w * e w) ∧ sg (e w) ≤ 0) := by
    have s3 := sf_sg3 w
    have s6 := e6 w
    by_cases z : 0 ≤ w
    · left; rw [if_pos z, e2]; exact ⟨rfl, by omega⟩
    · right; rw [if_neg z, e2, e3]; exact ⟨by grind, by omega⟩
  have eE : e 2 = 1 + 1 := by
    have : (2 : Int) = 1 + 1 := rfl
    rw [this, e1, e5]
  rcases tw with t | t | t
  · have := rs_L h (e x * r1 + e y * r2) (e w) (-((e x * r1 + e y * r2) * (e x * r1 + e y * r2))) _ (Or.inr ⟨rfl, by omega⟩) hw
    rw [this, t]
    congr 1
    rw [e1, e2, e1, e2, e2, e2, e2, e2, e2, e2, eE, e3, e5]
    grind
  · rw [rs_null h _ _ t, t]
    have z1 : e ((if 0 ≤ w then w * w else -w * w) + 0 * (x * x * d1 + y * y * d2)) * 1 + e (2 * 0 * x * y) * (r1 * r2) = e (if 0 ≤ w then w * w else -w * w) := by
      have a1 : (if 0 ≤ w then w * w else -w * w) + 0 * (x * x * d1 + y * y * d2) = (if 0 ≤ w then w * w else -w * w) := by omega
      have a2 : 2 * 0 * x * y = 0 := by simp
      rw [a1, a2, e4]; grind
    rw [z1]
    have sq := rs_sq h (e w)
    have n := rs_n h (e w * e w)
    have tt := rs_t h (e w)
    rcases hw with ⟨hw, s⟩ | ⟨hw, s⟩ <;> rw [hw] <;> omega
  · have := rs_L h (e x * r1 + e y * r2) (e w) (((e x * r1 + e y * r2) * (e x * r1 + e y * r2))) _ (Or.inl ⟨rfl, by omega⟩) hw
    rw [this, t]
    congr 1
    rw [e1, e2, e1, e2, e2, e2, e2, e2, e2, e2, eE, e5]
    grind
theorem sf_rt0 [Lean.Grind.CommRing R] {sg : R → Int} {e : Int → R} (h : rs_Ok R sg) (e6 : ∀ x, sg (e x) = Int.sign x) (v d : Int) (hd : 0 ≤ d) (r : R) (hr : 0 ≤ sg r) (q : r * r = e d) :
    (if d = 0 then 0 else Int.sign v) = sg (e v * r) := by
  have s3 := sf_sg3 d
  have sq := rs_sq h r
  have tr := rs_t h r
  have s6 := e6 d
  rw [q] at sq
  rw [rs_m h, e6]
  split
  · have : sg r = 0 := by omega
    rw [this]; omega
  · have : sg r = 1 := by omega
    rw [this]; omega
theorem sf_opp [Lean.Grind.CommRing R] {sg : R → Int} (h : rs_Ok R sg) (A B : R) (hne : sg A ≠ 0) (ho : sg (A + B) = sg A) :
    sg (A - B) = sg A * sg (A * A - B * B) := by
  have e : A * A - B * B = (A + B) * (A - B) := by grind
  rw [e, rs_m h, ho]
  rcases rs_t h A with t | t | t <;> rw [t] <;> omega
theorem sf_ssR [Lean.Grind.CommRing R] {sg : R → Int} {e : Int → R} (h : rs_Ok R sg) (e1 : ∀ x y, e (x + y) = e x + e y) (e2 : ∀ x y, e (x * y) = e x * e y) (e3 : ∀ x, e (-x) = -e x)
    (e6 : ∀ x, sg (e x) = Int.sign x) (u v d : Int) (hd : 0 ≤ d) (r : R) (hr : 0 ≤ sg r) (q : r * r = e d) :
    sf_ss u v d = sg (e u + e v * r) := by
  have es : ∀ x y, e (x - y) = e x - e y := by
    intro x y
    rw [Int.sub_eq_add_neg, e1, e3]; grind
  unfold sf_ss
  dsimp only
  rw [sf_rt0 h e6 v d hd r hr q, ← e6 u, ← e6 (u * u - v * v * d)]
  have hE : e (u * u - v * v * d) = e u * e u - (-(e v * r)) * (-(e v * r)) := by
    rw [es, e2, e2, e2, ← q]; grind
  rw [hE]
  have eA : e u + e v * r = e u - -(e v * r) := by grind
  have eB : e u + e v * r = e v * r + e u := by grind
  generalize e v * r = B at *
  generalize e u = A at *
  have tA := rs_t h A
  have tB := rs_t h B
  have nB := rs_n h B
  have nA := rs_n h A
  split
  · rename_i z; rw [eB, rs_null h _ _ z]
  split
  · rename_i z1 z2
    by_cases p : 0 ≤ sg A
    · have := rs_pp h A B p (by omega)
      omega
    · have := rs_pp h (-A) (-B) (by omega) (by omega)
      have e' : -A + -B = -(A + B) := by grind
      rw [e', rs_n h (A + B)] at this
      omega
  split
  · rename_i z; rw [rs_null h _ _ z]
  · rename_i z1 z2 z3
    rw [eA]
    refine (sf_opp h A (-B) z3 ?_).symm
    by_cases p : 0 ≤ sg A
    · have := rs_pp h A (-B) p (by omega)
      omega
    · have := rs_pp h (-A) B (by omega) (by omega)
      have e' : -A + B = -(A + -B) := by grind
      rw [e', rs_n h (A + -B)] at this
      omega
theorem sf_cyR [Lean.Grind.CommRing R] {sg : R → Int} {e : Int → R} (h : rs_Ok R sg) (e1 : ∀ x y, e (x + y) = e x + e y) (e2 : ∀ x y, e (x * y) = e x * e y) (e3 : ∀ x, e (-x) = -e x) (e5 : e 1 = 1)
    (e6 : ∀ x, sg (e x) = Int.sign x) (p1 s1 d1 q1 p2 s2 d2 q2 : Int) (r1 r2 : R) (hd1 : 0 ≤ d1) (hd2 : 0 ≤ d2) (h1 : 0 ≤ sg r1) (k1 : r1 * r1 = e d1) (h2 : 0 ≤ sg r2) (k2 : r2 * r2 = e d2) :
    sf_cy p1 s1 d1 q1 p2 s2 d2 q2 = sg (e q2 * (e p1 + e s1 * r1) - e q1 * (e p2 + e s2 * r2)) := by
  have es : ∀ x y, e (x - y) = e x - e y := by
    intro x y
    rw [Int.sub_eq_add_neg, e1, e3]; grind
  have hA : e q2 * (e p1 + e s1 * r1) - e q1 * (e p2 + e s2 * r2) = (e (q2 * p1 - q1 * p2) + e (q2 * s1) * r1) - e (q1 * s2) * r2 := by
    rw [es, e2, e2, e2, e2]; grind
  rw [hA]
  unfold sf_cy
  dsimp only
  generalize q2 * p1 - q1 * p2 = a
  generalize q2 * s1 = b
  generalize q1 * s2 = c
  have eE : e 2 = 1 + 1 := by
    have : (2 : Int) = 1 + 1 := rfl
    rw [this, e1, e5]
  rw [sf_rt0 h e6 c d2 hd2 r2 h2 k2, sf_ssR h e1 e2 e3 e6 a b d1 hd1 r1 h1 k1, sf_ssR h e1 e2 e3 e6 _ _ d1 hd1 r1 h1 k1]
  have hE : e (a * a + b * b * d1 - c * c * d2) + e (2 * a * b) * r1 = (e a + e b * r1) * (e a + e b * r1) - (e c * r2) * (e c * r2) := by
    rw [es, e1, e2, e2, e2, e2, e2, e2, e2, eE, ← k1, ← k2]; grind
  rw [hE]
  generalize e a + e b * r1 = A
  generalize e c * r2 = B
  have tA := rs_t h A
  have tB := rs_t h B
  have nA := rs_n h A
  have nB := rs_n h B
  have eA : A - B = A + -B := by grind
  have nC := rs_n h (A - B)
  split
  · rename_i z
    split
    · rename_i z2
      rw [eA, rs_null h _ _ z2]; omega
    · rename_i z2
      refine (sf_opp h A B z2 ?_).symm
      by_cases p : 0 ≤ sg A
      · have := rs_pp h A B p (by omega)
        omega
      · have := rs_pp h (-A) (-B) (by omega) (by omega)
        have e' : -A + -B = -(A + B) := by grind
        rw [e', rs_n h (A + B)] at this
        omega
  · rename_i z
    rw [eA]
    have e' : -A + B = -(A + -B) := by grind
    have e'' : -B + A = A + -B := by grind
    have nD := rs_n h (A + -B)
    have c1 := rs_null h A (-B)
    have c2 := rs_null h (-B) A
    have c3 := rs_pp h A (-B)
    have c4 := rs_pp h (-A) B
    rw [e'] at c4
    rw [e''] at c2
    split <;> omega
end
end
section
/-! the polynomial at a number, the order, the keys -/
section
variable {R : Type}
theorem sg_sa [Lean.Grind.CommRing R] {sg : R → Int} {e : Int → R} (h : rs_Ok R sg) (e1 : ∀ x y, e (x + y) = e x + e y) (e2 : ∀ x y, e (x * y) = e x * e y) (e3 : ∀ x, e (-x) = -e x) (e5 : e 1 = 1)
    (e6 : ∀ x, sg (e x) = Int.sign x) (a b c p s d q : Int) (hd : 0 ≤ d) (r : R) (hr : 0 ≤ sg r) (k : r * r = e d) :
    sf_sa a b c p s d q = sg (e a * ((e p + e s * r) * (e p + e s * r)) + e b * e q * (e p + e s * r) + e c * e q * e q) := by
  unfold sf_sa
  have eE : e 2 = 1 + 1 := by
    have : (2 : Int) = 1 + 1 := rfl
    rw [this, e1, e5]
  rw [sf_ssR h e1 e2 e3 e6 _ _ d hd r hr k]
  congr 1
  rw [e1, e1, e1, e2, e1, e2, e2, e2, e2, e2, e2, e2, e2, e2, e2, e2, e2, eE, ← k]
  grind
/-- the comparison with the two zeros -/
theorem sg_two [Lean.Grind.CommRing R] {sg : R → Int} {e : Int → R} (h : rs_Ok R sg) (e1 : ∀ x y, e (x + y) = e x + e y) (e2 : ∀ x y, e (x * y) = e x * e y) (e3 : ∀ x, e (-x) = -e x) (e5 : e 1 = 1)
    (e6 : ∀ x, sg (e x) = Int.sign x) (a b c q t D : Int) (X rD : R) (ha : a ≠ 0) (ht : t = Int.sign a) (hD : D = b * b - 4 * a * c) (k : rD * rD = e D) :
    sg (e a * (X * X) + e b * e q * X + e c * e q * e q) =
      Int.sign a * (sg (e (2 * a * t) * X - e q * (e (-b * t) + e (-1) * rD)) * sg (e (2 * a * t) * X - e q * (e (-b * t) + e 1 * rD))) := by
  have eE : e 2 = 1 + 1 := by
    have : (2 : Int) = 1 + 1 := rfl
    rw [this, e1, e5]
  have e4' : e 4 = 1 + 1 + 1 + 1 := by
    have : (4 : Int) = 1 + 1 + 1 + 1 := rfl
    rw [this, e1, e1, e1, e5]
  have es : ∀ x y, e (x - y) = e x - e y := by
    intro x y
    rw [Int.sub_eq_add_neg, e1, e3]; grind
  have tt : e t * e t = 1 := by
    rw [← e2, ht, ← Int.sign_mul]
    have s3 := sf_sg3 (a * a)
    have : 0 < a * a := by
      rcases Int.lt_or_gt_of_ne ha with z | z
      · exact Int.mul_pos_of_neg_of_neg z z
      · exact Int.mul_pos z z
    have : Int.sign (a * a) = 1 := by omega
    rw [this, e5]
  have kk : rD * rD = e b * e b - e 4 * e a * e c := by rw [k, hD, es, e2, e2, e2]
  rw [← rs_m h]
  have prod : (e (2 * a * t) * X - e q * (e (-b * t) + e (-1) * rD)) * (e (2 * a * t) * X - e q * (e (-b * t) + e 1 * rD)) =
      e (4 * a) * (e a * (X * X) + e b * e q * X + e c * e q * e q) := by
    rw [e2, e2, e2, e2, e3, e3, e5, eE, e4']
    rw [e4'] at kk
    grind
  rw [prod, rs_m h, e6, Int.sign_mul]
  have : Int.sign 4 = 1 := rfl
  rw [this]
  have s3 := sf_sg3 a
  have : Int.sign a = 1 ∨ Int.sign a = -1 := by omega
  rcases this with z | z <;> rw [z] <;> omega
theorem sg_none [Lean.Grind.CommRing R] {sg : R → Int} {e : Int → R} (h : rs_Ok R sg) (e1 : ∀ x y, e (x + y) = e x + e y) (e2 : ∀ x y, e (x * y) = e x * e y) (e3 : ∀ x, e (-x) = -e x) (e5 : e 1 = 1)
    (e6 : ∀ x, sg (e x) = Int.sign x) (a b c q : Int) (X : R) (ha : a ≠ 0) (hq : 0 < q) (hD : b * b - 4 * a * c < 0) :
    sg (e a * (X * X) + e b * e q * X + e c * e q * e q) = Int.sign a := by
  have eE : e 2 = 1 + 1 := by
    have : (2 : Int) = 1 + 1 := rfl
    rw [this, e1, e5]
  have e4' : e 4 = 1 + 1 + 1 + 1 := by
    have : (4 : Int) = 1 + 1 + 1 + 1 := rfl
    rw [this, e1, e1, e1, e5]
  have es : ∀ x y, e (x - y) = e x - e y := by
    intro x y
    rw [Int.sub_eq_add_neg, e1, e3]; grind
  have id1 : e (4 * a) * (e a * (X * X) + e b * e q * X + e c * e q * e q) = e (-(b * b - 4 * a * c)) * (e q * e q) + (e (2 * a) * X + e b * e q) * (e (2 * a) * X + e b * e q) := by
    rw [e3, es, e2, e2, e2, e2, e2, e4', eE]; grind
  have p1 : sg (e (-(b * b - 4 * a * c)) * (e q * e q)) = 1 := by
    rw [rs_m h, rs_m h, e6, e6, Int.sign_eq_one_of_pos hq, Int.sign_eq_one_of_pos (show 0 < -(b * b - 4 * a * c) by omega)]; rfl
  have sq := rs_sq h (e (2 * a) * X + e b * e q)
  have pp := rs_pp h (e (-(b * b - 4 * a * c)) * (e q * e q)) ((e (2 * a) * X + e b * e q) * (e (2 * a) * X + e b * e q)) (by omega) (by omega)
  rw [← id1] at pp
  have m := rs_m h (e (4 * a)) (e a * (X * X) + e b * e q * X + e c * e q * e q)
  rw [e6, Int.sign_mul, show Int.sign 4 = 1 from rfl] at m
  have s3 := sf_sg3 a
  have : Int.sign a = 1 ∨ Int.sign a = -1 := by omega
  rcases this with z | z <;> rw [z] at m ⊢ <;> omega
/-- one comparison: (Y - X) through a third number -/
theorem sg_tr [Lean.Grind.CommRing R] {sg : R → Int} {e : Int → R} (h : rs_Ok R sg) (e6 : ∀ x, sg (e x) = Int.sign x)
    (qx qy qz : Int) (X Y Z : R) (hx : 0 < qx) (hy : 0 < qy) (hz : 0 < qz)
    (h1 : 0 ≤ sg (e qy * X - e qx * Y)) (h2 : 0 ≤ sg (e qz * Y - e qy * Z)) :
    (sg (e qy * X - e qx * Y) = 0 ∧ sg (e qz * Y - e qy * Z) = 0 ∧ sg (e qz * X - e qx * Z) = 0) ∨
    ((sg (e qy * X - e qx * Y) = 1 ∨ sg (e qz * Y - e qy * Z) = 1) ∧ sg (e qz * X - e qx * Z) = 1) := by
  have s : ∀ (q : Int) (w : R), 0 < q → sg (e q * w) = sg w := by
    intro q w hq
    rw [rs_m h, e6, Int.sign_eq_one_of_pos hq]; omega
  have id1 : e qz * (e qy * X - e qx * Y) + e qx * (e qz * Y - e qy * Z) = e qy * (e qz * X - e qx * Z) := by grind
  have m1 := s qz (e qy * X - e qx * Y) hz
  have m2 := s qx (e qz * Y - e qy * Z) hx
  have m3 := s qy (e qz * X - e qx * Z) hy
  have pp := rs_pp h (e qz * (e qy * X - e qx * Y)) (e qx * (e qz * Y - e qy * Z)) (by omega) (by omega)
  rw [id1] at pp
  omega
end
/-- counting with one more -/
theorem sg_cnt_le {α : Type} (P Q : α → Bool) (l : List α) (h : ∀ a, a ∈ l → P a = true → Q a = true) : l.countP P ≤ l.countP Q :=
  List.countP_mono_left h
theorem sg_cnt_lt {α : Type} (P Q : α → Bool) (l : List α) (h : ∀ a, a ∈ l → P a = true → Q a = true) (x : α) (hx : x ∈ l) (h1 : Q x = true) (h2 : ¬ P x = true) :
    l.countP P < l.countP Q := by
  induction l with
  | nil => cases hx
  | cons b l ih =>
    have h' : ∀ a, a ∈ l → P a = true → Q a = true := fun a ha => h a (List.mem_cons_of_mem _ ha)
    have le := sg_cnt_le P Q l h'
    rw [List.countP_cons, List.countP_cons]
    rcases List.mem_cons.mp hx with z | z
    · subst z
      rw [if_neg h2, if_pos h1]; omega
    · have := ih h' z
      by_cases pb : P b = true
      · rw [if_pos pb, if_pos (h b (List.mem_cons_self ..) pb)]; omega
      · rw [if_neg pb]; split <;> omega
/-- a finite preorder has keys -/
theorem sg_rank (T : Type) (V : T → Prop) (C : T → T → Int) (dec : Nat → T) (B : Nat) (cov : ∀ x, V x → ∃ n, n < B ∧ dec n = x)
    (refl : ∀ x, V x → C x x = 0) (anti : ∀ x y, V x → V y → C y x = -C x y) (rng : ∀ x y, C x y = -1 ∨ C x y = 0 ∨ C x y = 1)
    (tr : ∀ x y z, V x → V y → V z → 0 ≤ C x y → 0 ≤ C y z → (C x y = 0 ∧ C y z = 0 ∧ C x z = 0) ∨ ((C x y = 1 ∨ C y z = 1) ∧ C x z = 1)) :
    ∃ ky : T → Int, ∀ x y, V x → V y → C x y = Int.sign (ky x - ky y) := by
  classical
  let P : T → Nat → Bool := fun x n => decide (V (dec n) ∧ C x (dec n) = 1)
  have lt : ∀ x y, V x → V y → C x y = 1 → (List.range B).countP (P y) < (List.range B).countP (P x) := by
    intro x y hx hy hc
    obtain ⟨n, hn, en⟩ := cov y hy
    refine sg_cnt_lt _ _ _ ?_ n (List.mem_range.mpr hn) ?_ ?_
    · intro a _ ha
      simp only [P, decide_eq_true_eq] at ha ⊢
      have := tr x y (dec a) hx hy ha.1 (by omega) (by omega)
      exact ⟨ha.1, by omega⟩
    · simp only [P, decide_eq_true_eq, en]
      exact ⟨hy, hc⟩
    · simp only [P, decide_eq_true_eq, en, refl y hy]
      omega
  have le : ∀ x y, V x → V y → C x y = 0 → (List.range B).countP (P y) ≤ (List.range B).countP (P x) := by
    intro x y hx hy hc
    refine sg_cnt_le _ _ _ ?_
    intro a _ ha
    simp only [P, decide_eq_true_eq] at ha ⊢
    have := tr x y (dec a) hx hy ha.1 (by omega) (by omega)
    exact ⟨ha.1, by omega⟩
  refine ⟨fun x => ((List.range B).countP (P x) : Int), ?_⟩
  intro x y hx hy
  dsimp only
  have an := anti x y hx hy
  have s3 := sf_sg3 (((List.range B).countP (P x) : Int) - ((List.range B).countP (P y) : Int))
  rcases rng x y with z | z | z
  · have := lt y x hy hx (by omega)
    omega
  · have a1 := le x y hx hy z
    have a2 := le y x hy hx (by omega)
    omega
  · have := lt x y hx hy z
    omega
def sg_dec (n : Nat) : Int × Int × Int × Int := ((n % 201 : Int) - 100, (n / 201 % 3 : Int) - 1, (n / 603 % 4501 : Int), (n / 2714103 : Int))
theorem sg_cov (p s d q : Int) (h : sf_V p s d q) : ∃ n, n < 274124403 ∧ sg_dec n = (p, s, d, q) := by
  obtain ⟨h1, h2, h3, h4, h5, h6, h7, h8⟩ := h
  refine ⟨((p + 100) + 201 * ((s + 1) + 3 * (d + 4501 * q))).toNat, by omega, ?_⟩
  unfold sg_dec
  have e : ((((p + 100) + 201 * ((s + 1) + 3 * (d + 4501 * q))).toNat : Nat) : Int) = (p + 100) + 201 * ((s + 1) + 3 * (d + 4501 * q)) := by omega
  rw [e]
  refine Prod.ext ?_ (Prod.ext ?_ (Prod.ext ?_ ?_))
  · show _ % 201 - 100 = p
    omega
  · show _ / 201 % 3 - 1 = s
    omega
  · show _ / 603 % 4501 = d
    omega
  · show _ / 2714103 = q
    omega
/-- the keys -/
theorem sg_key : ∃ ky : Int → Int → Int → Int → Int,
    (∀ p1 s1 d1 q1 p2 s2 d2 q2, sf_V p1 s1 d1 q1 → sf_V p2 s2 d2 q2 → sf_cx p1 s1 d1 q1 p2 s2 d2 q2 = Int.sign (ky p1 s1 d1 q1 - ky p2 s2 d2 q2)) ∧
    (∀ p1 s1 d1 q1 p2 s2 d2 q2, sf_V p1 s1 d1 q1 → sf_V p2 s2 d2 q2 → sf_cy p1 s1 d1 q1 p2 s2 d2 q2 = Int.sign (ky p1 s1 d1 q1 - ky p2 s2 d2 q2)) ∧
    (∀ a b c p s d q, sf_V p s d q → -30 ≤ a → a ≤ 30 → -30 ≤ b → b ≤ 30 → a ≠ 0 → 0 ≤ b * b - 4 * a * c → b * b - 4 * a * c ≤ 4500 →
      sf_sa a b c p s d q = Int.sign a * (Int.sign (ky p s d q - ky (-b * Int.sign a) (-1) (b * b - 4 * a * c) (2 * a * Int.sign a)) * Int.sign (ky p s d q - ky (-b * Int.sign a) 1 (b * b - 4 * a * c) (2 * a * Int.sign a)))) ∧
    (∀ a b c p s d q, sf_V p s d q → a ≠ 0 → b * b - 4 * a * c < 0 → sf_sa a b c p s d q = Int.sign a) ∧
    (∀ b c p s d q, sf_V p s d q → -30 ≤ b → b ≤ 30 → -30 ≤ c → c ≤ 30 → b ≠ 0 → sf_sa 0 b c p s d q = Int.sign b * Int.sign (ky p s d q - ky (-c * Int.sign b) 0 0 (b * Int.sign b))) ∧
    (∀ c p s d q, sf_V p s d q → sf_sa 0 0 c p s d q = Int.sign c) ∧
    (∀ p d q, sf_V p (-1) d q → sf_V p 1 d q → 0 < d → ky p (-1) d q < ky p 1 d q) ∧
    (∀ p q, sf_V p (-1) 0 q → sf_V p 0 0 q → sf_V p 1 0 q → ky p (-1) 0 q = ky p 0 0 q ∧ ky p 1 0 q = ky p 0 0 q) := by
  obtain ⟨R, I, sg, e, rt, h, e1, e2, e3, e4, e5, e6, hr⟩ := rs_tower 4501
  have rtp : ∀ d : Int, 0 ≤ d → d ≤ 4500 → 0 ≤ sg (rt d.toNat) ∧ rt d.toNat * rt d.toNat = e d := by
    intro d h0 h1
    have := hr d.toNat (by omega)
    rw [show ((d.toNat : Nat) : Int) = d by omega] at this
    exact this
  let X : Int × Int × Int × Int → R := fun x => e x.1 + e x.2.1 * rt x.2.2.1.toNat
  let C : Int × Int × Int × Int → Int × Int × Int × Int → Int := fun x y => sg (e y.2.2.2 * X x - e x.2.2.2 * X y)
  let V : Int × Int × Int × Int → Prop := fun x => sf_V x.1 x.2.1 x.2.2.1 x.2.2.2
  obtain ⟨ky, hk⟩ := sg_rank (Int × Int × Int × Int) V C sg_dec 274124403
    (fun x hx => sg_cov x.1 x.2.1 x.2.2.1 x.2.2.2 hx)
    (by
      intro x _
      show sg (e x.2.2.2 * X x - e x.2.2.2 * X x) = 0
      have : e x.2.2.2 * X x - e x.2.2.2 * X x = 0 := by grind
      rw [this, rs_0 h])
    (by
      intro x y _ _
      show sg (e x.2.2.2 * X y - e y.2.2.2 * X x) = - sg (e y.2.2.2 * X x - e x.2.2.2 * X y)
      rw [← rs_n h]
      congr 1; grind)
    (by intro x y; exact rs_t h _)
    (by
      intro x y z hx hy hz h1 h2
      obtain ⟨_, _, _, _, _, _, hx, _⟩ := hx
      obtain ⟨_, _, _, _, _, _, hy, _⟩ := hy
      obtain ⟨_, _, _, _, _, _, hz, _⟩ := hz
      exact sg_tr h e6 x.2.2.2 y.2.2.2 z.2.2.2 (X x) (X y) (X z) (by omega) (by omega) (by omega) h1 h2)
  have hC : ∀ p1 s1 d1 q1 p2 s2 d2 q2, sf_V p1 s1 d1 q1 → sf_V p2 s2 d2 q2 →
      sg (e q2 * (e p1 + e s1 * rt d1.toNat) - e q1 * (e p2 + e s2 * rt d2.toNat)) = Int.sign (ky (p1, s1, d1, q1) - ky (p2, s2, d2, q2)) := by
    intro p1 s1 d1 q1 p2 s2 d2 q2 v1 v2
    exact hk (p1, s1, d1, q1) (p2, s2, d2, q2) v1 v2
  have sga : ∀ a : Int, -30 ≤ a → a ≤ 30 → a ≠ 0 → (Int.sign a = 1 ∧ 0 < a) ∨ (Int.sign a = -1 ∧ a < 0) := by
    intro a _ _ _
    have := sf_sg3 a
    omega
  refine ⟨fun p s d q => ky (p, s, d, q), ?_, ?_, ?_, ?_, ?_, ?_, ?_, ?_⟩
  · intro p1 s1 d1 q1 p2 s2 d2 q2 v1 v2
    have w1 := v1
    have w2 := v2
    unfold sf_V at w1 w2
    have r1 := rtp d1 (by omega) (by omega)
    have r2 := rtp d2 (by omega) (by omega)
    rw [sf_cxR h e1 e2 e3 e4 e5 e6 p1 s1 d1 q1 p2 s2 d2 q2 _ _ r1.1 r1.2 r2.1 r2.2]
    exact hC _ _ _ _ _ _ _ _ v1 v2
  · intro p1 s1 d1 q1 p2 s2 d2 q2 v1 v2
    have w1 := v1
    have w2 := v2
    unfold sf_V at w1 w2
    have r1 := rtp d1 (by omega) (by omega)
    have r2 := rtp d2 (by omega) (by omega)
    rw [sf_cyR h e1 e2 e3 e5 e6 p1 s1 d1 q1 p2 s2 d2 q2 _ _ (by omega) (by omega) r1.1 r1.2 r2.1 r2.2]
    exact hC _ _ _ _ _ _ _ _ v1 v2
  · intro a b c p s d q v a1 a2 b1 b2 ha hD0 hD1
    have w := v
    unfold sf_V at w
    have r1 := rtp d (by omega) (by omega)
    have r2 := rtp (b * b - 4 * a * c) (by omega) (by omega)
    rw [sg_sa h e1 e2 e3 e5 e6 a b c p s d q (by omega) _ r1.1 r1.2]
    rw [sg_two h e1 e2 e3 e5 e6 a b c q (Int.sign a) (b * b - 4 * a * c) _ _ ha rfl rfl r2.2]
    have t := sga a a1 a2 ha
    have v1 : sf_V (-b * Int.sign a) (-1) (b * b - 4 * a * c) (2 * a * Int.sign a) := by
      unfold sf_V
      rcases t with ⟨t, _⟩ | ⟨t, _⟩ <;> rw [t] <;> omega
    have v2 : sf_V (-b * Int.sign a) 1 (b * b - 4 * a * c) (2 * a * Int.sign a) := by
      unfold sf_V
      rcases t with ⟨t, _⟩ | ⟨t, _⟩ <;> rw [t] <;> omega
    rw [hC _ _ _ _ _ _ _ _ v v1, hC _ _ _ _ _ _ _ _ v v2]
  · intro a b c p s d q v ha hD
    have w := v
    unfold sf_V at w
    have r1 := rtp d (by omega) (by omega)
    rw [sg_sa h e1 e2 e3 e5 e6 a b c p s d q (by omega) _ r1.1 r1.2]
    exact sg_none h e1 e2 e3 e5 e6 a b c q _ ha (by omega) hD
  · intro b c p s d q v b1 b2 c1 c2 hb
    have w := v
    unfold sf_V at w
    have r1 := rtp d (by omega) (by omega)
    rw [sg_sa h e1 e2 e3 e5 e6 0 b c p s d q (by omega) _ r1.1 r1.2]
    have t := sga b b1 b2 hb
    have v1 : sf_V (-c * Int.sign b) 0 0 (b * Int.sign b) := by
      unfold sf_V
      rcases t with ⟨t, _⟩ | ⟨t, _⟩ <;> rw [t] <;> omega
    have := hC _ _ _ _ _ _ _ _ v v1
    show _ = Int.sign b * Int.sign (ky (p, s, d, q) - ky (-c * Int.sign b, 0, 0, b * Int.sign b))
    rw [← this]
    generalize e p + e s * rt d.toNat = Y
    have id1 : e (b * Int.sign b) * Y - e q * (e (-c * Int.sign b) + e 0 * rt (0 : Int).toNat) = e (Int.sign b) * (e b * Y + e c * e q) := by
      rw [e2, e2, e3, e4]; grind
    have id2 : e 0 * (Y * Y) + e b * e q * Y + e c * e q * e q = e q * (e b * Y + e c * e q) := by
      rw [e4]; grind
    rw [id1, id2, rs_m h, rs_m h, e6, e6, Int.sign_eq_one_of_pos (show 0 < q by omega)]
    rcases t with ⟨t, _⟩ | ⟨t, _⟩ <;> rw [t]
    · show 1 * _ = 1 * (Int.sign 1 * _)
      rw [show Int.sign 1 = 1 from rfl]; omega
    · rw [show Int.sign (-1) = -1 from rfl]; omega
  · intro c p s d q v
    have w := v
    unfold sf_V at w
    have r1 := rtp d (by omega) (by omega)
    rw [sg_sa h e1 e2 e3 e5 e6 0 0 c p s d q (by omega) _ r1.1 r1.2]
    generalize e p + e s * rt d.toNat = Y
    have id2 : e 0 * (Y * Y) + e 0 * e q * Y + e c * e q * e q = e c * (e q * e q) := by
      rw [e4]; grind
    rw [id2, rs_m h, rs_m h, e6, e6, Int.sign_eq_one_of_pos (show 0 < q by omega)]
    omega
  · intro p d q v1 v2 hd
    have w := v1
    unfold sf_V at w
    have r1 := rtp d (by omega) (by omega)
    have := hC _ _ _ _ _ _ _ _ v2 v1
    have id1 : e q * (e p + e 1 * rt d.toNat) - e q * (e p + e (-1) * rt d.toNat) = e q * (rt d.toNat + rt d.toNat) := by
      rw [e3, e5]; grind
    have sq := rs_sq h (rt d.toNat)
    rw [r1.2, e6, Int.sign_eq_one_of_pos hd] at sq
    have tr := rs_t h (rt d.toNat)
    have pp := rs_pp h (rt d.toNat) (rt d.toNat) r1.1 r1.1
    rw [id1, rs_m h, e6, Int.sign_eq_one_of_pos (show 0 < q by omega)] at this
    have s3 := sf_sg3 (ky (p, 1, d, q) - ky (p, -1, d, q))
    show ky (p, -1, d, q) < ky (p, 1, d, q)
    omega
  · intro p q v1 v2 v3
    have w := v1
    unfold sf_V at w
    have r1 := rtp 0 (by omega) (by omega)
    have k1 := hC _ _ _ _ _ _ _ _ v1 v2
    have k2 := hC _ _ _ _ _ _ _ _ v3 v2
    have z : sg (rt (0 : Int).toNat) = 0 := by
      have sq := rs_sq h (rt (0 : Int).toNat)
      rw [r1.2, e6] at sq
      have : Int.sign 0 = 0 := rfl
      omega
    have id1 : e q * (e p + e (-1) * rt (0 : Int).toNat) - e q * (e p + e 0 * rt (0 : Int).toNat) = rt (0 : Int).toNat * (-(e q)) := by
      rw [e3, e4, e5]; grind
    have id2 : e q * (e p + e 1 * rt (0 : Int).toNat) - e q * (e p + e 0 * rt (0 : Int).toNat) = rt (0 : Int).toNat * e q := by
      rw [e4, e5]; grind
    rw [id1, rs_m h, z] at k1
    rw [id2, rs_m h, z] at k2
    have s1 := sf_sg3 (ky (p, -1, 0, q) - ky (p, 0, 0, q))
    have s2 := sf_sg3 (ky (p, 1, 0, q) - ky (p, 0, 0, q))
    show ky (p, -1, 0, q) = ky (p, 0, 0, q) ∧ ky (p, 1, 0, q) = ky (p, 0, 0, q)
    omega
noncomputable def sg_ky : Int → Int → Int → Int → Int := sg_key.choose
end
section
/-! machine numbers as integers -/
theorem pk_us {f : Nat → Int32} {k : Nat} {x : Int32} : upd f k x k = x := if_pos rfl
theorem pk_un {f : Nat → Int32} {k j : Nat} {x : Int32} (h : j ≠ k) : upd f k x j = f j := if_neg h
theorem pk_uLs {f : Nat → Int64} {k : Nat} {x : Int64} : vp_updL f k x k = x := if_pos rfl
theorem pk_uLn {f : Nat → Int64} {k j : Nat} {x : Int64} (h : j ≠ k) : vp_updL f k x j = f j := if_neg h
theorem pk_sub {a b : Nat} (h : b ≤ a) : nI a - nI b = nI (a - b) := by
  obtain ⟨c, rfl⟩ : ∃ c, a = c + b := ⟨a - b, by omega⟩
  rw [← nI_add, Int32.add_sub_cancel, Nat.add_sub_cancel]
theorem pk_m1 (n : Nat) : nI (n + 1) + (-1) = nI n := by
  rw [← nI_1, Int32.add_assoc, show (1 : Int32) + (-1) = 0 from rfl, Int32.add_zero]
theorem pk_mul (a b : Nat) : nI a * nI b = nI (a * b) := (Int32.ofNat_mul a b).symm
theorem pk_div {a d : Nat} (ha : a < 2 ^ 31) (h0 : 0 < d) (hd : d < 2 ^ 31) : nI a / nI d = nI (a / d) := by
  apply Int32.toInt_inj.mp
  rw [lg_idiv_nonneg (by rw [nI_toInt ha]; omega) (by rw [nI_toInt hd]; omega), nI_toInt ha, nI_toInt hd, nI_toInt (Nat.lt_of_le_of_lt (Nat.div_le_self a d) ha)]
  first | rfl | exact (Int.natCast_ediv _ _).symm
theorem pk_rem {a d : Nat} (ha : a < 2 ^ 31) (h0 : 0 < d) (hd : d < 2 ^ 31) : nI a - nI a / nI d * nI d = nI (a % d) := by
  rw [pk_div ha h0 hd, pk_mul, pk_sub (Nat.div_mul_le_self a d)]
  exact congrArg nI (by have := Nat.div_add_mod' a d; omega)
theorem pk_le {x y : Int32} {A B : Prop} (a b : Nat) (f : a ≤ b → A) (g : b < a → B) (hx : x = nI a := by rfl) (hy : y = nI b := by rfl) (ha : a < 2 ^ 31 := by omega) (hb : b < 2 ^ 31 := by omega) : (x ≤ y → A) ∧ (¬ x ≤ y → B) := by
  subst hx hy
  rw [nI_leI ha hb]
  exact ⟨f, fun z => g (by omega)⟩
theorem pk_lt {x y : Int32} {A B : Prop} (a b : Nat) (f : a < b → A) (g : b ≤ a → B) (hx : x = nI a := by rfl) (hy : y = nI b := by rfl) (ha : a < 2 ^ 31 := by omega) (hb : b < 2 ^ 31 := by omega) : (x < y → A) ∧ (¬ x < y → B) := by
  subst hx hy
  rw [nI_ltI ha hb]
  exact ⟨f, fun z => g (by omega)⟩
theorem pk_eq {x y : Int32} {A B : Prop} (a b : Nat) (f : a = b → A) (g : a ≠ b → B) (hx : x = nI a := by rfl) (hy : y = nI b := by rfl) (ha : a < 2 ^ 31 := by omega) (hb : b < 2 ^ 31 := by omega) : (x = y → A) ∧ (¬ x = y → B) := by
  subst hx hy
  rw [nI_eq ha hb]
  exact ⟨f, g⟩
theorem pk_in {x : Int32} (n N : Nat) (h : n < N) (hx : x = nI n := by rfl) (hN : N < 2 ^ 31 := by omega) : vp_in x N := by
  subst hx
  exact vp_in_nI h hN
theorem pk_cl {x : Int32} (n : Nat) (hx : x = nI n := by rfl) (h : n < 2 ^ 31 := by omega) : x.toNatClampNeg = n := by
  subst hx
  exact nI_clamp h
def ar_i (z : Int) : Int32 := Int32.ofInt z
def ar_l (z : Int) : Int64 := Int64.ofInt z
theorem ar_l_add (a b : Int) : ar_l a + ar_l b = ar_l (a + b) := (Int64.ofInt_add a b).symm
theorem ar_l_sub (a b : Int) : ar_l a - ar_l b = ar_l (a - b) := (Int64.ofInt_sub a b).symm
theorem ar_l_mul (a b : Int) : ar_l a * ar_l b = ar_l (a * b) := (Int64.ofInt_mul a b).symm
theorem ar_l_neg (a : Int) : -ar_l a = ar_l (-a) := (Int64.ofInt_neg a).symm
theorem ar_i_add (a b : Int) : ar_i a + ar_i b = ar_i (a + b) := (Int32.ofInt_add a b).symm
theorem ar_i_sub (a b : Int) : ar_i a - ar_i b = ar_i (a - b) := (Int32.ofInt_sub a b).symm
theorem ar_i_mul (a b : Int) : ar_i a * ar_i b = ar_i (a * b) := (Int32.ofInt_mul a b).symm
theorem ar_i_neg (a : Int) : -ar_i a = ar_i (-a) := (Int32.ofInt_neg a).symm
theorem ar_i_t (x : Int32) : x = ar_i x.toInt := (Int32.ofInt_toInt x).symm
theorem ar_l_t (x : Int64) : x = ar_l x.toInt := (Int64.ofInt_toInt x).symm
theorem ar_64 (x : Int32) : x.toInt64 = ar_l x.toInt := rfl
theorem ar_ti {a : Int} (h : a.natAbs < 2 ^ 31) : (ar_i a).toInt = a := Int32.toInt_ofInt_of_le (by omega) (by omega)
theorem ar_tl {a : Int} (h : a.natAbs < 2 ^ 63) : (ar_l a).toInt = a := Int64.toInt_ofInt_of_le (by omega) (by omega)
theorem ar_il {a : Int} (h : a.natAbs < 2 ^ 31) : (ar_i a).toInt64 = ar_l a := by rw [ar_64, ar_ti h]
theorem ar_n (n : Nat) : nI n = ar_i (n : Int) := (Int32.ofInt_eq_ofNat).symm
theorem ar_lle {a b : Int} (ha : a.natAbs < 2 ^ 63) (hb : b.natAbs < 2 ^ 63) : ar_l a ≤ ar_l b ↔ a ≤ b := by
  rw [Int64.le_iff_toInt_le, ar_tl ha, ar_tl hb]
theorem ar_llt {a b : Int} (ha : a.natAbs < 2 ^ 63) (hb : b.natAbs < 2 ^ 63) : ar_l a < ar_l b ↔ a < b := by
  rw [Int64.lt_iff_toInt_lt, ar_tl ha, ar_tl hb]
theorem ar_leq {a b : Int} (ha : a.natAbs < 2 ^ 63) (hb : b.natAbs < 2 ^ 63) : ar_l a = ar_l b ↔ a = b := by
  rw [← Int64.toInt_inj, ar_tl ha, ar_tl hb]
theorem ar_ile {a b : Int} (ha : a.natAbs < 2 ^ 31) (hb : b.natAbs < 2 ^ 31) : ar_i a ≤ ar_i b ↔ a ≤ b := by
  rw [Int32.le_iff_toInt_le, ar_ti ha, ar_ti hb]
theorem ar_ilt {a b : Int} (ha : a.natAbs < 2 ^ 31) (hb : b.natAbs < 2 ^ 31) : ar_i a < ar_i b ↔ a < b := by
  rw [Int32.lt_iff_toInt_lt, ar_ti ha, ar_ti hb]
theorem ar_ieq {a b : Int} (ha : a.natAbs < 2 ^ 31) (hb : b.natAbs < 2 ^ 31) : ar_i a = ar_i b ↔ a = b := by
  rw [← Int32.toInt_inj, ar_ti ha, ar_ti hb]
theorem ar_l0 {a : Int} (ha : a.natAbs < 2 ^ 63) : ((0 : Int64) ≤ ar_l a ↔ 0 ≤ a) ∧ (ar_l a ≤ (0 : Int64) ↔ a ≤ 0) ∧ (ar_l a = (0 : Int64) ↔ a = 0) ∧ (ar_l a < (0 : Int64) ↔ a < 0) :=
  ⟨ar_lle (a := 0) (by decide) ha, ar_lle (b := 0) ha (by decide), ar_leq (b := 0) ha (by decide), ar_llt (b := 0) ha (by decide)⟩
theorem ar_i0 {a : Int} (ha : a.natAbs < 2 ^ 31) : ((0 : Int32) ≤ ar_i a ↔ 0 ≤ a) ∧ (ar_i a ≤ (0 : Int32) ↔ a ≤ 0) ∧ (ar_i a = (0 : Int32) ↔ a = 0) ∧ (ar_i a < (0 : Int32) ↔ a < 0) :=
  ⟨ar_ile (a := 0) (by decide) ha, ar_ile (b := 0) ha (by decide), ar_ieq (b := 0) ha (by decide), ar_ilt (b := 0) ha (by decide)⟩
theorem ar_b {a b : Int} {A B : Nat} (ha : a.natAbs ≤ A) (hb : b.natAbs ≤ B) : (a * b).natAbs ≤ A * B := by
  rw [Int.natAbs_mul]
  exact Nat.mul_le_mul ha hb
/-- branches by integers -/
theorem ar_c {c d A B : Prop} (e : c ↔ d) (f : d → A) (g : ¬ d → B) : (c → A) ∧ (¬ c → B) := ⟨fun h => f (e.mp h), fun h => g (fun z => h (e.mpr z))⟩
theorem ar_sg (x : Int) : (Int.sign x).natAbs ≤ 1 := by
  have := sf_sg3 x
  omega
theorem sf_sor_b (x u y v : Int) : (sf_sor x u y v).natAbs ≤ 1 := ar_sg _
theorem px_sor {post : Int32 → Prop} (x u y v : Int) (hx : x.natAbs < 2 ^ 62) (hy : y.natAbs < 2 ^ 62) (h1 : (x * x * u).natAbs < 2 ^ 61) (h2 : (y * y * v).natAbs < 2 ^ 61)
    (hp : post (ar_i (sf_sor x u y v))) : wpX_signOfRoots post (ar_l x) (ar_l u) (ar_l y) (ar_l v) := by
  have e1 : -x * x * u = -(x * x * u) := by rw [Int.neg_mul, Int.neg_mul]
  have e2 : -y * y * v = -(y * y * v) := by rw [Int.neg_mul, Int.neg_mul]
  have last : ∀ a b : Int, a.natAbs < 2 ^ 61 → b.natAbs < 2 ^ 61 → post (ar_i (Int.sign (a + b))) → wX_signOfRoots_49 post (ar_l a) (ar_l b) := by
    intro a b ha hb hp
    have s3 := sf_sg3 (a + b)
    refine nm_r (ar_l_add a b) ?_
    have k := ar_l0 (a := a + b) (by omega)
    refine ar_c k.1 (fun p => ar_c k.2.1 (fun q => ?_) (fun q => ?_)) (fun p => ?_)
    · have : Int.sign (a + b) = 0 := by omega
      rw [this] at hp; exact hp
    · have : Int.sign (a + b) = 1 := by omega
      rw [this] at hp; exact hp
    · have : Int.sign (a + b) = -1 := by omega
      rw [this] at hp; exact hp
  have mid : ∀ a : Int, a.natAbs < 2 ^ 61 → post (ar_i (Int.sign (a + (if 0 ≤ y then y * y * v else -y * y * v)))) → wX_signOfRoots_20 post (ar_l y) (ar_l v) (ar_l a) := by
    intro a ha hp
    refine ar_c (ar_l0 (a := y) (by omega)).1 (fun p => ?_) (fun p => ?_)
    · rw [if_pos p] at hp
      rw [ar_l_mul, ar_l_mul]
      exact last _ _ ha h2 hp
    · rw [if_neg p] at hp
      rw [ar_l_neg, ar_l_mul, ar_l_mul]
      exact last _ _ ha (by rw [e2]; omega) hp
  refine ar_c (ar_l0 (a := x) (by omega)).1 (fun p => ?_) (fun p => ?_)
  · unfold sf_sor at hp
    rw [if_pos p] at hp
    rw [ar_l_mul, ar_l_mul]
    exact mid _ h1 hp
  · unfold sf_sor at hp
    rw [if_neg p] at hp
    rw [ar_l_neg, ar_l_mul, ar_l_mul]
    exact mid _ (by rw [e1]; omega) hp
theorem sf_V_b {p s d q : Int} (h : sf_V p s d q) : p.natAbs ≤ 100 ∧ s.natAbs ≤ 1 ∧ d.natAbs ≤ 4500 ∧ q.natAbs ≤ 100 := by
  unfold sf_V at h
  omega
theorem px_cmp {post : Int32 → Prop} {f_markCount f_made f_depth : Int32} {a_squareTerm a_linearTerm a_constantTerm a_markWhole a_markSide a_markUnder a_markBelow a_markZeros a_stepKind a_stepPolynomial a_stepSet a_heldCells : Nat → Int32}
    (i : Nat) (hi : i < 8) (P S D Q : Int) (v1 : sf_V P S D Q) (v2 : sf_V (a_markWhole i).toInt (a_markSide i).toInt (a_markUnder i).toInt (a_markBelow i).toInt)
    (hp : post (ar_i (sf_cx P S D Q (a_markWhole i).toInt (a_markSide i).toInt (a_markUnder i).toInt (a_markBelow i).toInt))) :
    wpX_compareWithMark post (f_markCount, f_made, f_depth, a_squareTerm, a_linearTerm, a_constantTerm, a_markWhole, a_markSide, a_markUnder, a_markBelow, a_markZeros, a_stepKind, a_stepPolynomial, a_stepSet, a_heldCells) (nI i) (ar_i P) (ar_i S) (ar_i D) (ar_i Q) := by
  have hin : vp_in (nI i) 8 := vp_in_nI hi (by decide)
  have hc : (nI i).toNatClampNeg = i := nI_clamp (by omega)
  obtain ⟨b1, b2, b3, b4⟩ := sf_V_b v1
  obtain ⟨c1, c2, c3, c4⟩ := sf_V_b v2
  unfold wpX_compareWithMark
  dsimp only
  rw [hc, ar_64 (a_markWhole i), ar_64 (a_markSide i), ar_64 (a_markUnder i), ar_64 (a_markBelow i), ar_il (a := P) (by omega), ar_il (a := S) (by omega), ar_il (a := D) (by omega), ar_il (a := Q) (by omega)]
  generalize (a_markWhole i).toInt = p2 at *
  generalize (a_markSide i).toInt = s2 at *
  generalize (a_markUnder i).toInt = d2 at *
  generalize (a_markBelow i).toInt = q2 at *
  rw [ar_l_mul, ar_l_mul, ar_l_sub, ar_l_mul, ar_l_neg, ar_l_mul]
  unfold sf_cx at hp
  dsimp only at hp
  have bw : (P * q2 - p2 * Q).natAbs ≤ 20000 := by
    have := ar_b b1 c4
    have := ar_b c1 b4
    omega
  have bx : (S * q2).natAbs ≤ 100 := ar_b b2 c4
  have by' : (-s2 * Q).natAbs ≤ 100 := ar_b (a := -s2) (A := 1) (by omega) b4
  generalize P * q2 - p2 * Q = w at *
  generalize S * q2 = x at *
  generalize -s2 * Q = y at *
  have bxx : (x * x * D).natAbs ≤ 45000000 := ar_b (A := 10000) (ar_b bx bx) b3
  have byy : (y * y * d2).natAbs ≤ 45000000 := ar_b (A := 10000) (ar_b by' by') c3
  have bww : (w * w).natAbs ≤ 400000000 := ar_b bw bw
  refine ⟨hin, hin, nm_e ⟨hin, nm_e ⟨hin, nm_e ⟨hin, nm_e ?_⟩⟩⟩⟩
  refine px_sor x D y d2 (by omega) (by omega) (by omega) (by omega) ?_
  have br := sf_sor_b x D y d2
  generalize sf_sor x D y d2 = r at *
  have last : ∀ ws : Int, ws.natAbs ≤ 400000000 → post (ar_i (sf_sor (ws + r * (x * x * D + y * y * d2)) 1 (2 * r * x * y) (D * d2))) →
      wX_compareWithMark_98 post (ar_l x) (ar_l y) (ar_l D) (ar_l d2) (ar_i r) (ar_l ws) f_markCount f_made f_depth a_squareTerm a_linearTerm a_constantTerm a_markWhole a_markSide a_markUnder a_markBelow a_markZeros a_stepKind a_stepPolynomial a_stepSet a_heldCells := by
    intro ws bs hp
    unfold wX_compareWithMark_98
    rw [show (2 : Int32) * ar_i r = ar_i (2 * r) from ar_i_mul 2 r, ar_il (a := r) (by omega), ar_il (a := 2 * r) (by omega)]
    simp only [ar_l_mul, ar_l_add]
    refine nm_e (nm_e ?_)
    have bS : (r * (x * x * D + y * y * d2)).natAbs ≤ 90000000 := by
      have := ar_b (a := r) (b := x * x * D + y * y * d2) (A := 1) (B := 90000000) br (by omega)
      omega
    have bP : (ws + r * (x * x * D + y * y * d2)).natAbs ≤ 490000000 := by omega
    have bQ : (2 * r * x * y).natAbs ≤ 20000 := ar_b (A := 200) (ar_b (A := 2) (by omega) bx) by'
    generalize ws + r * (x * x * D + y * y * d2) = p at *
    generalize 2 * r * x * y = q at *
    have bDD : (D * d2).natAbs ≤ 20250000 := ar_b b3 c3
    have t1 : (p * p * 1).natAbs ≤ 240100000000000000 := by
      rw [Int.mul_one]
      exact ar_b bP bP
    have t2 : (q * q * (D * d2)).natAbs ≤ 8100000000000000 := ar_b (A := 400000000) (ar_b bQ bQ) bDD
    exact px_sor p 1 q (D * d2) (by omega) (by omega) (by omega) (by omega) hp
  refine ar_c (ar_l0 (a := w) (by omega)).1 (fun z => ?_) (fun z => ?_)
  · rw [if_pos z] at hp
    rw [ar_l_mul]
    exact last _ bww hp
  · rw [if_neg z] at hp
    rw [ar_l_neg, ar_l_mul]
    exact last _ (by rw [Int.neg_mul]; omega) hp
end
section
/-! the reference's numbers -/
theorem py_sgn {post : Int32 → Prop} {u : SY} (x : Int) (hx : x.natAbs < 2 ^ 63) (hp : post (ar_i (Int.sign x))) : wpY_signOf post u (ar_l x) := by
  obtain ⟨f_marks, f_made, f_depth, a_as, a_bs, a_cs, a_ps, a_ss, a_roots, a_qs, a_sorts, a_ones, a_twos, a_stack, a_truth⟩ := u
  have s3 := sf_sg3 x
  have k := ar_l0 (a := x) hx
  refine ar_c k.2.1 (fun p => ar_c k.1 (fun q => ?_) (fun q => ?_)) (fun p => ?_)
  · have : Int.sign x = 0 := by omega
    rw [this] at hp; exact hp
  · have : Int.sign x = -1 := by omega
    rw [this] at hp; exact hp
  · have : Int.sign x = 1 := by omega
    rw [this] at hp; exact hp
theorem sf_ss_b (u v d : Int) : (sf_ss u v d).natAbs ≤ 1 := by
  unfold sf_ss
  dsimp only
  have a := ar_sg u
  have b := ar_sg v
  have c := ar_sg (u * u - v * v * d)
  have m := ar_b (a := Int.sign u) (b := Int.sign (u * u - v * v * d)) (A := 1) (B := 1) a c
  repeat' split
  all_goals omega
theorem py_ss {post : Int32 → Prop} {u : SY} (x y d : Int) (hx : x.natAbs < 2 ^ 62) (hy : y.natAbs < 2 ^ 62) (hd : d.natAbs < 2 ^ 62)
    (h1 : (x * x).natAbs < 2 ^ 61) (h2 : (y * y * d).natAbs < 2 ^ 61) (hp : post (ar_i (sf_ss x y d))) : wpY_signOfSum post u (ar_l x) (ar_l y) (ar_l d) := by
  obtain ⟨f_marks, f_made, f_depth, a_as, a_bs, a_cs, a_ps, a_ss, a_roots, a_qs, a_sorts, a_ones, a_twos, a_stack, a_truth⟩ := u
  unfold wpY_signOfSum
  dsimp only
  refine py_sgn x (by omega) ?_
  have last : ∀ two : Int, two.natAbs ≤ 1 → two = (if d = 0 then 0 else Int.sign y) → wY_signOfSum_23 post (ar_l x) (ar_l y) (ar_l d) (ar_i (Int.sign x)) (ar_i two) f_marks f_made f_depth a_as a_bs a_cs a_ps a_ss a_roots a_qs a_sorts a_ones a_twos a_stack a_truth := by
    intro two b2 h2'
    have b1 := ar_sg x
    unfold sf_ss at hp
    dsimp only at hp
    rw [← h2'] at hp
    refine ar_c (ar_i0 (a := two) (by omega)).2.2.1 (fun z => ?_) (fun z => ?_)
    · rw [if_pos z] at hp; exact hp
    rw [if_neg z] at hp
    refine ar_c (ar_ieq (a := Int.sign x) (b := two) (by omega) (by omega)) (fun z => ?_) (fun z => ?_)
    · rw [if_pos z] at hp; exact hp
    rw [if_neg z] at hp
    refine ar_c (ar_i0 (a := Int.sign x) (by omega)).2.2.1 (fun z => ?_) (fun z => ?_)
    · rw [if_pos z] at hp; exact hp
    rw [if_neg z] at hp
    rw [ar_l_mul, ar_l_mul, ar_l_mul, ar_l_sub]
    refine py_sgn _ (by omega) ?_
    rw [ar_i_mul]; exact hp
  refine ar_c (ar_l0 (a := d) (by omega)).2.2.1 (fun z => ?_) (fun z => ?_)
  · exact last 0 (by decide) (by rw [if_pos z])
  · refine py_sgn y (by omega) ?_
    exact last _ (ar_sg y) (by rw [if_neg z])
theorem py_cmp {post : Int32 → Prop} {f_marks f_made f_depth : Int32} {a_as a_bs a_cs : Nat → Int32} {a_ps a_ss a_roots a_qs : Nat → Int64} {a_sorts a_ones a_twos a_stack a_truth : Nat → Int32}
    (i : Nat) (hi : i < 9) (P S D Q : Int) (v1 : sf_V P S D Q) (v2 : sf_V (a_ps i).toInt (a_ss i).toInt (a_roots i).toInt (a_qs i).toInt)
    (hp : post (ar_i (sf_cy P S D Q (a_ps i).toInt (a_ss i).toInt (a_roots i).toInt (a_qs i).toInt))) :
    wpY_compare post (f_marks, f_made, f_depth, a_as, a_bs, a_cs, a_ps, a_ss, a_roots, a_qs, a_sorts, a_ones, a_twos, a_stack, a_truth) (ar_l P) (ar_l S) (ar_l D) (ar_l Q) (nI i) := by
  have hin : vp_in (nI i) 9 := vp_in_nI hi (by decide)
  have hc : (nI i).toNatClampNeg = i := nI_clamp (by omega)
  obtain ⟨b1, b2, b3, b4⟩ := sf_V_b v1
  obtain ⟨c1, c2, c3, c4⟩ := sf_V_b v2
  unfold wpY_compare
  dsimp only
  have er : a_roots (nI i).toNatClampNeg = ar_l (a_roots i).toInt := by rw [hc]; exact ar_l_t _
  unfold sf_cy at hp
  dsimp only at hp
  rw [hc, ar_l_t (a_ps i), ar_l_t (a_ss i), ar_l_t (a_qs i)]
  generalize (a_ps i).toInt = p2 at *
  generalize (a_ss i).toInt = s2 at *
  generalize (a_qs i).toInt = q2 at *
  rw [ar_l_mul, ar_l_mul, ar_l_sub, ar_l_mul, ar_l_mul]
  have ba : (q2 * P - Q * p2).natAbs ≤ 20000 := by
    have := ar_b c4 b1
    have := ar_b b4 c1
    omega
  have bb : (q2 * S).natAbs ≤ 100 := ar_b c4 b2
  have bc : (Q * s2).natAbs ≤ 100 := ar_b b4 c2
  generalize q2 * P - Q * p2 = a at *
  generalize q2 * S = b at *
  generalize Q * s2 = c at *
  have baa : (a * a).natAbs ≤ 400000000 := ar_b ba ba
  have bbb : (b * b * D).natAbs ≤ 45000000 := ar_b (A := 10000) (ar_b bb bb) b3
  have bcc : (c * c * (a_roots i).toInt).natAbs ≤ 45000000 := ar_b (A := 10000) (ar_b bc bc) c3
  refine ⟨hin, hin, nm_e ⟨hin, nm_e ⟨hin, nm_e ?_⟩⟩⟩
  refine py_ss a b D (by omega) (by omega) (by omega) (by omega) (by omega) ?_
  have bo := sf_ss_b a b D
  have last : ∀ two : Int, two.natAbs ≤ 1 → two = (if (a_roots i).toInt = 0 then 0 else Int.sign c) →
      wY_compare_79 post (ar_l D) (nI i) (ar_l a) (ar_l b) (ar_l c) (ar_i (sf_ss a b D)) (ar_i two) f_marks f_made f_depth a_as a_bs a_cs a_ps a_ss a_roots a_qs a_sorts a_ones a_twos a_stack a_truth := by
    intro two b2 h2'
    rw [← h2'] at hp
    unfold wY_compare_79
    rw [er]
    refine ar_c (ar_ieq (a := sf_ss a b D) (b := two) (by omega) (by omega)) (fun z => ?_) (fun z => ?_)
    · rw [if_pos z] at hp
      refine ar_c (ar_i0 (a := sf_ss a b D) (by omega)).2.2.1 (fun z => ?_) (fun z => ⟨hin, ?_⟩)
      · rw [if_pos z] at hp; exact hp
      · rw [if_neg z] at hp
        have e2 : (2 : Int64) * ar_l a = ar_l (2 * a) := ar_l_mul 2 a
        rw [e2]
        simp only [ar_l_mul, ar_l_add, ar_l_sub]
        have b2ab : (2 * a * b).natAbs ≤ 4000000 := ar_b (A := 40000) (by omega) bb
        have bA : (a * a + b * b * D - c * c * (a_roots i).toInt).natAbs ≤ 490000000 := by omega
        generalize 2 * a * b = y at *
        generalize a * a + b * b * D - c * c * (a_roots i).toInt = x at *
        have t1 : (x * x).natAbs ≤ 240100000000000000 := ar_b bA bA
        have t2 : (y * y * D).natAbs ≤ 72000000000000000 := ar_b (A := 16000000000000) (ar_b b2ab b2ab) b3
        refine py_ss x y D (by omega) (by omega) (by omega) (by omega) (by omega) ?_
        rw [ar_i_mul]; exact hp
    · rw [if_neg z] at hp
      refine ar_c (ar_ile (a := sf_ss a b D) (b := two) (by omega) (by omega)) (fun z => ?_) (fun z => ?_)
      · rw [if_pos z] at hp; exact hp
      · rw [if_neg z] at hp; exact hp
  refine ⟨hin, ?_⟩
  rw [show a_roots i = ar_l (a_roots i).toInt from ar_l_t _]
  refine ar_c (ar_l0 (a := (a_roots i).toInt) (by omega)).2.2.1 (fun z => ?_) (fun z => ?_)
  · exact last 0 (by decide) (by rw [if_pos z])
  · refine py_sgn c (by omega) ?_
    exact last _ (ar_sg c) (by rw [if_neg z])
theorem py_sa {post : Int32 → Prop} {f_marks f_made f_depth : Int32} {a_as a_bs a_cs : Nat → Int32} {a_ps a_ss a_roots a_qs : Nat → Int64} {a_sorts a_ones a_twos a_stack a_truth : Nat → Int32}
    (k i : Nat) (hk : k < 4) (hi : i < 9) (v2 : sf_V (a_ps i).toInt (a_ss i).toInt (a_roots i).toInt (a_qs i).toInt)
    (ha : (a_as k).toInt.natAbs ≤ 30) (hb : (a_bs k).toInt.natAbs ≤ 30) (hcc : (a_cs k).toInt.natAbs ≤ 30)
    (hp : post (ar_i (sf_sa (a_as k).toInt (a_bs k).toInt (a_cs k).toInt (a_ps i).toInt (a_ss i).toInt (a_roots i).toInt (a_qs i).toInt))) :
    wpY_signAt post (f_marks, f_made, f_depth, a_as, a_bs, a_cs, a_ps, a_ss, a_roots, a_qs, a_sorts, a_ones, a_twos, a_stack, a_truth) (nI k) (nI i) := by
  have hin : vp_in (nI i) 9 := vp_in_nI hi (by decide)
  have hkn : vp_in (nI k) 4 := vp_in_nI hk (by decide)
  have hc : (nI i).toNatClampNeg = i := nI_clamp (by omega)
  have hc2 : (nI k).toNatClampNeg = k := nI_clamp (by omega)
  obtain ⟨c1, c2, c3, c4⟩ := sf_V_b v2
  unfold wpY_signAt
  dsimp only
  rw [hc, hc2]
  have e2 : (2 : Int32) * a_as k = ar_i (2 * (a_as k).toInt) := by
    have := ar_i_mul 2 (a_as k).toInt
    rw [← ar_i_t] at this
    exact this
  rw [e2, ar_il (a := 2 * (a_as k).toInt) (by omega), ar_64, ar_64, ar_64]
  rw [ar_l_t (a_ps i), ar_l_t (a_ss i), ar_l_t (a_qs i), ar_l_t (a_roots i)]
  unfold sf_sa at hp
  generalize (a_ps i).toInt = p at *
  generalize (a_ss i).toInt = s at *
  generalize (a_qs i).toInt = q at *
  generalize (a_roots i).toInt = d at *
  generalize (a_as k).toInt = a at *
  generalize (a_bs k).toInt = b at *
  generalize (a_cs k).toInt = c at *
  refine ⟨hin, nm_e ⟨hin, nm_e ⟨hin, nm_e ⟨hin, nm_e ⟨hkn, hkn, hkn, ?_⟩⟩⟩⟩⟩
  simp only [ar_l_mul, ar_l_add]
  refine nm_e ⟨hkn, hkn, nm_e ?_⟩
  have t1 : (p * p).natAbs ≤ 10000 := ar_b c1 c1
  have t2 : (s * s * d).natAbs ≤ 4500 := ar_b (A := 1) (ar_b c2 c2) c3
  have t3 : (a * (p * p + s * s * d)).natAbs ≤ 435000 := by
    have := ar_b (a := a) (b := p * p + s * s * d) (A := 30) (B := 14500) ha (by omega)
    omega
  have t4 : (b * q * p).natAbs ≤ 300000 := ar_b (A := 3000) (ar_b hb c4) c1
  have t5 : (c * q * q).natAbs ≤ 300000 := ar_b (A := 3000) (ar_b hcc c4) c4
  have t6 : (2 * a * p * s).natAbs ≤ 6000 := ar_b (A := 6000) (ar_b (A := 60) (by omega) c1) c2
  have t7 : (b * q * s).natAbs ≤ 3000 := ar_b (A := 3000) (ar_b hb c4) c2
  have t8 : (a * (p * p + s * s * d) + b * q * p + c * q * q).natAbs ≤ 1035000 := by omega
  have t9 : (2 * a * p * s + b * q * s).natAbs ≤ 9000 := by omega
  generalize a * (p * p + s * s * d) + b * q * p + c * q * q = x at *
  generalize 2 * a * p * s + b * q * s = y at *
  have u1 : (x * x).natAbs ≤ 1071225000000 := ar_b t8 t8
  have u2 : (y * y * d).natAbs ≤ 364500000000 := ar_b (A := 81000000) (ar_b t9 t9) c3
  exact py_ss x y d (by omega) (by omega) (by omega) (by omega) (by omega) hp
end
section
/-! the marks as a row of keys; the sign of a polynomial on a cell -/
theorem kk_cx {p1 s1 d1 q1 p2 s2 d2 q2 : Int} (h1 : sf_V p1 s1 d1 q1) (h2 : sf_V p2 s2 d2 q2) : sf_cx p1 s1 d1 q1 p2 s2 d2 q2 = Int.sign (sg_ky p1 s1 d1 q1 - sg_ky p2 s2 d2 q2) :=
  sg_key.choose_spec.1 _ _ _ _ _ _ _ _ h1 h2
theorem kk_cy {p1 s1 d1 q1 p2 s2 d2 q2 : Int} (h1 : sf_V p1 s1 d1 q1) (h2 : sf_V p2 s2 d2 q2) : sf_cy p1 s1 d1 q1 p2 s2 d2 q2 = Int.sign (sg_ky p1 s1 d1 q1 - sg_ky p2 s2 d2 q2) :=
  sg_key.choose_spec.2.1 _ _ _ _ _ _ _ _ h1 h2
theorem kk_lt {p d q : Int} (h1 : sf_V p (-1) d q) (h2 : sf_V p 1 d q) (hd : 0 < d) : sg_ky p (-1) d q < sg_ky p 1 d q :=
  sg_key.choose_spec.2.2.2.2.2.2.1 _ _ _ h1 h2 hd
theorem kk_eq {p q : Int} (h1 : sf_V p (-1) 0 q) (h2 : sf_V p 0 0 q) (h3 : sf_V p 1 0 q) : sg_ky p (-1) 0 q = sg_ky p 0 0 q ∧ sg_ky p 1 0 q = sg_ky p 0 0 q :=
  sg_key.choose_spec.2.2.2.2.2.2.2 _ _ h1 h2 h3
noncomputable def mk_z1 (a b c : Int) : Int := sg_ky (-b * Int.sign a) (-1) (b * b - 4 * a * c) (2 * a * Int.sign a)
noncomputable def mk_z2 (a b c : Int) : Int := sg_ky (-b * Int.sign a) 1 (b * b - 4 * a * c) (2 * a * Int.sign a)
noncomputable def mk_z0 (b c : Int) : Int := sg_ky (-c * Int.sign b) 0 0 (b * Int.sign b)
def mk_Z (a b c z : Int) : Prop :=
  (a ≠ 0 ∧ 0 ≤ b * b - 4 * a * c ∧ (z = mk_z1 a b c ∨ z = mk_z2 a b c)) ∨ (a = 0 ∧ b ≠ 0 ∧ z = mk_z0 b c)
def mk_B (a b c : Int) : Prop := a.natAbs ≤ 30 ∧ b.natAbs ≤ 30 ∧ c.natAbs ≤ 30
def mk_S (k : Nat → Int) (m : Nat) : Prop := ∀ i j, i < j → j < m → k i < k j
def mk_at (k : Nat → Int) (m : Nat) (z : Int) (c : Nat) : Prop :=
  (∃ j, j < m ∧ k j = z ∧ c = 2 * j + 1) ∨ (∃ j, j ≤ m ∧ c = 2 * j ∧ (∀ l, l < j → k l < z) ∧ (∀ l, j ≤ l → l < m → z < k l))
theorem mk_at_u {k : Nat → Int} {m : Nat} {z : Int} {c c' : Nat} (hS : mk_S k m) (h : mk_at k m z c) (h' : mk_at k m z c') : c = c' := by
  rcases h with ⟨j, h1, h2, h3⟩ | ⟨j, h1, h2, h3, h4⟩ <;> rcases h' with ⟨j', g1, g2, g3⟩ | ⟨j', g1, g2, g3, g4⟩
  · rcases Nat.lt_trichotomy j j' with t | t | t
    · have := hS j j' t g1; omega
    · omega
    · have := hS j' j t h1; omega
  · rcases Nat.lt_or_ge j j' with t | t
    · have := g3 j t; omega
    · have := g4 j t h1; omega
  · rcases Nat.lt_or_ge j' j with t | t
    · have := h3 j' t; omega
    · have := h4 j' t g1; omega
  · rcases Nat.lt_trichotomy j j' with t | t | t
    · have := g3 j t
      have := h4 j (by omega) (by omega)
      omega
    · omega
    · have := h3 j' t
      have := g4 j' (by omega) (by omega)
      omega
def mk_E (k : Nat → Int) (m : Nat) (Q : Int → Prop) : Prop := (∀ i, i < m → Q (k i)) ∧ ∀ w, Q w → ∃ i, i < m ∧ k i = w
theorem mk_half {f g : Nat → Int} {m n : Nat} {Q : Int → Prop} (hf : mk_S f m) (hg : mk_S g n) (ef : mk_E f m Q) (eg : mk_E g n Q) :
    ∀ i, i < m → i < n ∧ f i = g i := by
  intro i
  induction i using Nat.strongRecOn with
  | ind i ih =>
    intro hi
    obtain ⟨j, hj, ej⟩ := eg.2 _ (ef.1 i hi)
    have hij : i ≤ j := by
      rcases Nat.lt_or_ge j i with t | t
      · have a := (ih j t (by omega)).2
        have b := hf j i t hi
        omega
      · exact t
    refine ⟨by omega, ?_⟩
    obtain ⟨l, hl, el⟩ := ef.2 _ (eg.1 i (by omega))
    have hil : i ≤ l := by
      rcases Nat.lt_or_ge l i with t | t
      · have a := (ih l t hl).2
        have b := hg l i t (by omega)
        omega
      · exact t
    have a1 : g i ≤ g j := by
      rcases Nat.lt_or_ge i j with t | t
      · have := hg i j t hj; omega
      · have : i = j := by omega
        rw [this]; omega
    have a2 : f i ≤ f l := by
      rcases Nat.lt_or_ge i l with t | t
      · have := hf i l t hl; omega
      · have : i = l := by omega
        rw [this]; omega
    omega
theorem mk_uniq {f g : Nat → Int} {m n : Nat} {Q : Int → Prop} (hf : mk_S f m) (hg : mk_S g n) (ef : mk_E f m Q) (eg : mk_E g n Q) :
    n = m ∧ ∀ i, i < m → g i = f i := by
  have a := mk_half hf hg ef eg
  have b := mk_half hg hf eg ef
  refine ⟨?_, fun i hi => (a i hi).2.symm⟩
  rcases Nat.lt_trichotomy n m with t | t | t
  · have := a n t; omega
  · exact t
  · have := b m t; omega
/-- a new number put between -/
theorem mk_ins {k k' : Nat → Int} {m j : Nat} {z : Int} {Q : Int → Prop} (hS : mk_S k m) (hE : mk_E k m Q) (hj : j ≤ m)
    (lo : ∀ l, l < j → k l < z) (hi : ∀ l, j ≤ l → l < m → z < k l)
    (e1 : ∀ i, i < j → k' i = k i) (e2 : k' j = z) (e3 : ∀ i, j < i → i < m + 1 → k' i = k (i - 1)) :
    mk_S k' (m + 1) ∧ mk_E k' (m + 1) (fun w => Q w ∨ w = z) := by
  refine ⟨?_, ?_, ?_⟩
  · intro a b hab hb
    rcases Nat.lt_trichotomy a j with ta | ta | ta
    · rw [e1 a ta]
      rcases Nat.lt_trichotomy b j with tb | tb | tb
      · rw [e1 b tb]; exact hS a b hab (by omega)
      · rw [tb, e2]; exact lo a ta
      · rw [e3 b tb hb]
        rcases Nat.lt_or_ge a (b - 1) with t | t
        · exact hS a (b - 1) t (by omega)
        · omega
    · rw [ta, e2, e3 b (by omega) hb]
      exact hi (b - 1) (by omega) (by omega)
    · rw [e3 a ta (by omega), e3 b (by omega) hb]
      exact hS (a - 1) (b - 1) (by omega) (by omega)
  · intro i hi'
    rcases Nat.lt_trichotomy i j with t | t | t
    · left; rw [e1 i t]; exact hE.1 i (by omega)
    · right; rw [t, e2]
    · left; rw [e3 i t hi']; exact hE.1 (i - 1) (by omega)
  · intro w hw
    rcases hw with hw | hw
    · obtain ⟨i, h1, h2⟩ := hE.2 w hw
      rcases Nat.lt_or_ge i j with t | t
      · exact ⟨i, by omega, by rw [e1 i t]; exact h2⟩
      · exact ⟨i + 1, by omega, by rw [e3 (i + 1) (by omega) (by omega)]; exact h2⟩
    · exact ⟨j, by omega, by rw [e2, hw]⟩
theorem mk_mono {k : Nat → Int} {m : Nat} (hS : mk_S k m) {i j : Nat} (hi : i < m) (hj : j < m) : (k i < k j ↔ i < j) ∧ (k i = k j ↔ i = j) := by
  rcases Nat.lt_trichotomy i j with t | t | t
  · have := hS i j t hj; omega
  · subst t; omega
  · have := hS j i t hi; omega
def mk_cs (k : Nat → Int) (m c : Nat) (z : Int) : Int := if c % 2 = 1 then Int.sign (k (c / 2) - z) else if c / 2 < m ∧ k (c / 2) ≤ z then -1 else 1
noncomputable def mk_sig (k : Nat → Int) (m : Nat) (a b c : Int) (x : Nat) : Int :=
  if a ≠ 0 then (if 0 ≤ b * b - 4 * a * c then Int.sign a * (mk_cs k m x (mk_z1 a b c) * mk_cs k m x (mk_z2 a b c)) else Int.sign a)
  else if b ≠ 0 then Int.sign b * mk_cs k m x (mk_z0 b c) else Int.sign c
theorem mk_cs_p {k : Nat → Int} {m : Nat} (hS : mk_S k m) {t c : Nat} (ht : t < m) (hc : c ≤ 2 * m) :
    (c < 2 * t + 1 ∧ mk_cs k m c (k t) = -1) ∨ (c = 2 * t + 1 ∧ mk_cs k m c (k t) = 0) ∨ (2 * t + 1 < c ∧ mk_cs k m c (k t) = 1) := by
  unfold mk_cs
  by_cases h : c % 2 = 1
  · rw [if_pos h]
    have s3 := sf_sg3 (k (c / 2) - k t)
    have m1 := mk_mono hS (i := c / 2) (j := t) (by omega) ht
    omega
  · rw [if_neg h]
    by_cases h2 : c / 2 < m
    · have m1 := mk_mono hS (i := c / 2) (j := t) h2 ht
      by_cases h3 : k (c / 2) ≤ k t
      · rw [if_pos ⟨h2, h3⟩]; omega
      · rw [if_neg (fun z => h3 z.2)]; omega
    · rw [if_neg (fun z => h2 z.1)]; omega
theorem mk_Vq {a b c : Int} (h : mk_B a b c) (ha : a ≠ 0) (hD : 0 ≤ b * b - 4 * a * c) (s : Int) (hs : s.natAbs ≤ 1) :
    sf_V (-b * Int.sign a) s (b * b - 4 * a * c) (2 * a * Int.sign a) := by
  unfold mk_B at h
  have s3 := sf_sg3 a
  have t : Int.sign a = 1 ∨ Int.sign a = -1 := by omega
  have b1 := ar_b (a := b) (b := b) h.2.1 h.2.1
  have b2 := ar_b (a := 4 * a) (b := c) (A := 120) (by omega) h.2.2
  unfold sf_V
  rcases t with t | t <;> rw [t] at s3 ⊢ <;> omega
theorem mk_Vd {a b c : Int} (h : mk_B a b c) (ha : a ≠ 0) : sf_V (-b * Int.sign a) 0 0 (2 * a * Int.sign a) := by
  unfold mk_B at h
  have s3 := sf_sg3 a
  have t : Int.sign a = 1 ∨ Int.sign a = -1 := by omega
  unfold sf_V
  rcases t with t | t <;> rw [t] at s3 ⊢ <;> omega
theorem mk_Vl {b c : Int} (h : mk_B 0 b c) (hb : b ≠ 0) : sf_V (-c * Int.sign b) 0 0 (b * Int.sign b) := by
  unfold mk_B at h
  have s3 := sf_sg3 b
  have t : Int.sign b = 1 ∨ Int.sign b = -1 := by omega
  unfold sf_V
  rcases t with t | t <;> rw [t] at s3 ⊢ <;> omega
theorem mk_zz {a b c : Int} (h : mk_B a b c) (ha : a ≠ 0) (hD : 0 ≤ b * b - 4 * a * c) :
    (b * b - 4 * a * c = 0 ∧ mk_z1 a b c = mk_z2 a b c ∧ mk_z1 a b c = sg_ky (-b * Int.sign a) 0 0 (2 * a * Int.sign a)) ∨ (0 < b * b - 4 * a * c ∧ mk_z1 a b c < mk_z2 a b c) := by
  have v1 := mk_Vq h ha hD (-1) (by decide)
  have v2 := mk_Vq h ha hD 1 (by decide)
  have v0 := mk_Vd h ha
  unfold mk_z1 mk_z2
  by_cases z : b * b - 4 * a * c = 0
  · left
    rw [z] at v1 v2 ⊢
    have := kk_eq v1 v0 v2
    omega
  · right
    have := kk_lt v1 v2 (by omega)
    omega
/-- what the sign does from cell to cell -/
theorem mk_F {k : Nat → Int} {m : Nat} {a b c : Int} (hS : mk_S k m) (hB : mk_B a b c) (hz : ∀ z, mk_Z a b c z → ∃ i, i < m ∧ k i = z) :
    (mk_sig k m a b c 0 = if a ≠ 0 then Int.sign a else if b ≠ 0 then -Int.sign b else Int.sign c) ∧
    (mk_sig k m a b c (2 * m) = if a ≠ 0 then Int.sign a else if b ≠ 0 then Int.sign b else Int.sign c) ∧
    (∀ i, i < m → ¬ mk_Z a b c (k i) → mk_sig k m a b c (2 * i + 1) = mk_sig k m a b c (2 * i) ∧ mk_sig k m a b c (2 * i + 2) = mk_sig k m a b c (2 * i)) ∧
    (∀ i, i < m → mk_Z a b c (k i) → mk_sig k m a b c (2 * i + 1) = 0 ∧ (a ≠ 0 → b * b - 4 * a * c = 0 → mk_sig k m a b c (2 * i + 2) = mk_sig k m a b c (2 * i)) ∧
      (¬ (a ≠ 0 ∧ b * b - 4 * a * c = 0) → mk_sig k m a b c (2 * i + 2) = -mk_sig k m a b c (2 * i))) ∧
    (∀ i, i ≤ m → (mk_sig k m a b c (2 * i)).natAbs = 1 ∨ (a = 0 ∧ b = 0 ∧ c = 0)) := by
  by_cases ha : a = 0
  · by_cases hb : b = 0
    · have nz : ∀ z, ¬ mk_Z a b c z := by
        intro z hz
        unfold mk_Z at hz
        omega
      have e : ∀ x, mk_sig k m a b c x = Int.sign c := by
        intro x
        unfold mk_sig
        rw [if_neg (by omega), if_neg (by omega)]
      simp only [e]
      rw [if_neg (by omega), if_neg (by omega), if_neg (by omega), if_neg (by omega)]
      have s3 := sf_sg3 c
      refine ⟨rfl, rfl, fun _ _ _ => ⟨by trivial, by trivial⟩, fun i _ h => absurd h (nz _), fun i _ => by omega⟩
    · subst ha
      obtain ⟨t, ht, et⟩ := hz (mk_z0 b c) (Or.inr ⟨rfl, hb, rfl⟩)
      have e : ∀ x, mk_sig k m 0 b c x = Int.sign b * mk_cs k m x (k t) := by
        intro x
        unfold mk_sig
        rw [if_neg (by omega), if_pos hb, et]
      have zi : ∀ i, i < m → (mk_Z 0 b c (k i) ↔ i = t) := by
        intro i hi
        have mm := mk_mono hS hi ht
        unfold mk_Z
        rw [← et, mm.2]
        omega
      have p := fun c hc => mk_cs_p hS (t := t) (c := c) ht hc
      simp only [e]
      rw [if_neg (by omega), if_pos hb, if_neg (by omega), if_pos hb]
      have s3 := sf_sg3 b
      have sb : Int.sign b = 1 ∨ Int.sign b = -1 := by omega
      refine ⟨?_, ?_, ?_, ?_, ?_⟩
      · have := p 0 (by omega)
        rcases sb with sb | sb <;> rw [sb] <;> omega
      · have := p (2 * m) (by omega)
        rcases sb with sb | sb <;> rw [sb] <;> omega
      · intro i hi hn
        rw [zi i hi] at hn
        have p0 := p (2 * i) (by omega)
        have p1 := p (2 * i + 1) (by omega)
        have p2 := p (2 * i + 2) (by omega)
        rcases sb with sb | sb <;> rw [sb] <;> omega
      · intro i hi hn
        rw [zi i hi] at hn
        have p0 := p (2 * i) (by omega)
        have p1 := p (2 * i + 1) (by omega)
        have p2 := p (2 * i + 2) (by omega)
        rcases sb with sb | sb <;> rw [sb] <;> omega
      · intro i hi
        have p0 := p (2 * i) (by omega)
        rcases sb with sb | sb <;> rw [sb] <;> omega
  · have s3 := sf_sg3 a
    have sb : Int.sign a = 1 ∨ Int.sign a = -1 := by omega
    by_cases hD : 0 ≤ b * b - 4 * a * c
    · obtain ⟨t, ht, et⟩ := hz (mk_z1 a b c) (Or.inl ⟨ha, hD, Or.inl rfl⟩)
      obtain ⟨t', ht', et'⟩ := hz (mk_z2 a b c) (Or.inl ⟨ha, hD, Or.inr rfl⟩)
      have e : ∀ x, mk_sig k m a b c x = Int.sign a * (mk_cs k m x (k t) * mk_cs k m x (k t')) := by
        intro x
        unfold mk_sig
        rw [if_pos ha, if_pos hD, et, et']
      have zi : ∀ i, i < m → (mk_Z a b c (k i) ↔ (i = t ∨ i = t')) := by
        intro i hi
        have mm := mk_mono hS hi ht
        have mm' := mk_mono hS hi ht'
        unfold mk_Z
        rw [← et, ← et', mm.2, mm'.2]
        omega
      have zz := mk_zz hB ha hD
      have mt := mk_mono hS ht ht'
      rw [← et, ← et'] at zz
      have tt : (b * b - 4 * a * c = 0 ∧ t = t') ∨ (b * b - 4 * a * c ≠ 0 ∧ t < t') := by omega
      have p := fun c hc => mk_cs_p hS (t := t) (c := c) ht hc
      have p' := fun c hc => mk_cs_p hS (t := t') (c := c) ht' hc
      simp only [e]
      rw [if_pos ha, if_pos ha]
      clear zz mt et et' e hz
      refine ⟨?_, ?_, ?_, ?_, ?_⟩
      · have q := p 0 (by omega)
        have q' := p' 0 (by omega)
        have a1 : mk_cs k m 0 (k t) = -1 := by omega
        have a2 : mk_cs k m 0 (k t') = -1 := by omega
        rw [a1, a2]; omega
      · have q := p (2 * m) (by omega)
        have q' := p' (2 * m) (by omega)
        have a1 : mk_cs k m (2 * m) (k t) = 1 := by omega
        have a2 : mk_cs k m (2 * m) (k t') = 1 := by omega
        rw [a1, a2]; omega
      · intro i hi hn
        rw [zi i hi] at hn
        have p0 := p (2 * i) (by omega)
        have p1 := p (2 * i + 1) (by omega)
        have p2 := p (2 * i + 2) (by omega)
        have q0 := p' (2 * i) (by omega)
        have q1 := p' (2 * i + 1) (by omega)
        have q2 := p' (2 * i + 2) (by omega)
        have a1 : mk_cs k m (2 * i + 1) (k t) = mk_cs k m (2 * i) (k t) := by omega
        have a2 : mk_cs k m (2 * i + 1) (k t') = mk_cs k m (2 * i) (k t') := by omega
        have a3 : mk_cs k m (2 * i + 2) (k t) = mk_cs k m (2 * i) (k t) := by omega
        have a4 : mk_cs k m (2 * i + 2) (k t') = mk_cs k m (2 * i) (k t') := by omega
        rw [a1, a2, a3, a4]
        exact ⟨rfl, rfl⟩
      · intro i hi hn
        rw [zi i hi] at hn
        have p0 := p (2 * i) (by omega)
        have p1 := p (2 * i + 1) (by omega)
        have p2 := p (2 * i + 2) (by omega)
        have q0 := p' (2 * i) (by omega)
        have q1 := p' (2 * i + 1) (by omega)
        have q2 := p' (2 * i + 2) (by omega)
        refine ⟨?_, ?_, ?_⟩
        · have : mk_cs k m (2 * i + 1) (k t) = 0 ∨ mk_cs k m (2 * i + 1) (k t') = 0 := by omega
          rcases this with z | z <;> rw [z] <;> simp
        · intro _ h0
          have a1 : mk_cs k m (2 * i) (k t) = -1 := by omega
          have a2 : mk_cs k m (2 * i) (k t') = -1 := by omega
          have a3 : mk_cs k m (2 * i + 2) (k t) = 1 := by omega
          have a4 : mk_cs k m (2 * i + 2) (k t') = 1 := by omega
          rw [a1, a2, a3, a4]; rfl
        · intro h0
          have ne : t < t' := by omega
          have : (mk_cs k m (2 * i) (k t) = -1 ∧ mk_cs k m (2 * i) (k t') = -1 ∧ mk_cs k m (2 * i + 2) (k t) = 1 ∧ mk_cs k m (2 * i + 2) (k t') = -1) ∨
            (mk_cs k m (2 * i) (k t) = 1 ∧ mk_cs k m (2 * i) (k t') = -1 ∧ mk_cs k m (2 * i + 2) (k t) = 1 ∧ mk_cs k m (2 * i + 2) (k t') = 1) := by omega
          rcases this with ⟨a1, a2, a3, a4⟩ | ⟨a1, a2, a3, a4⟩ <;> rw [a1, a2, a3, a4] <;> omega
      · intro i hi
        have p0 := p (2 * i) (by omega)
        have q0 := p' (2 * i) (by omega)
        left
        have : (mk_cs k m (2 * i) (k t) = 1 ∨ mk_cs k m (2 * i) (k t) = -1) ∧ (mk_cs k m (2 * i) (k t') = 1 ∨ mk_cs k m (2 * i) (k t') = -1) := by omega
        rcases this with ⟨u | u, w | w⟩ <;> rcases sb with sb | sb <;> rw [u, w, sb] <;> rfl
    · have nz : ∀ z, ¬ mk_Z a b c z := by
        intro z hz
        unfold mk_Z at hz
        omega
      have e : ∀ x, mk_sig k m a b c x = Int.sign a := by
        intro x
        unfold mk_sig
        rw [if_pos ha, if_neg hD]
      simp only [e]
      rw [if_pos ha, if_pos ha]
      refine ⟨rfl, rfl, fun _ _ _ => ⟨by trivial, by trivial⟩, fun i _ h => absurd h (nz _), fun i _ => by omega⟩
/-- the polynomial at a mark -/
theorem mk_sa {k : Nat → Int} {m i : Nat} {a b c p s d q : Int} (hB : mk_B a b c) (hv : sf_V p s d q) (hk : sg_ky p s d q = k i) :
    sf_sa a b c p s d q = mk_sig k m a b c (2 * i + 1) := by
  have o : ∀ z, mk_cs k m (2 * i + 1) z = Int.sign (k i - z) := by
    intro z
    unfold mk_cs
    rw [if_pos (by omega)]
    congr 3; omega
  have hB' := hB
  unfold mk_B at hB'
  unfold mk_sig
  rw [o, o, o]
  by_cases ha : a = 0
  · subst ha
    rw [if_neg (by omega)]
    by_cases hb : b = 0
    · subst hb
      rw [if_neg (by omega)]
      exact sg_key.choose_spec.2.2.2.2.2.1 _ _ _ _ _ hv
    · rw [if_pos hb, ← hk]
      exact sg_key.choose_spec.2.2.2.2.1 _ _ _ _ _ _ hv (by omega) (by omega) (by omega) (by omega) hb
  · rw [if_pos ha]
    by_cases hD : 0 ≤ b * b - 4 * a * c
    · rw [if_pos hD, ← hk]
      have v := mk_Vq hB ha hD 1 (by decide)
      unfold sf_V at v
      exact sg_key.choose_spec.2.2.1 _ _ _ _ _ _ _ hv (by omega) (by omega) (by omega) (by omega) ha hD (by omega)
    · rw [if_neg hD]
      exact sg_key.choose_spec.2.2.2.1 _ _ _ _ _ _ _ hv ha (by omega)
end
section
/-! bits -/
def bt (x : Int32) (i : Nat) : Bool := x.toBitVec.getLsbD i
theorem b_ext {x y : Int32} (h : ∀ i, i < 32 → bt x i = bt y i) : x = y := Int32.toBitVec_inj.mp (BitVec.eq_of_getLsbD_eq (fun i hi => h i hi))
theorem b_or (x y : Int32) (i : Nat) : bt (x ||| y) i = (bt x i || bt y i) := by unfold bt; rw [Int32.toBitVec_or, BitVec.getLsbD_or]
theorem b_and (x y : Int32) (i : Nat) : bt (x &&& y) i = (bt x i && bt y i) := by unfold bt; rw [Int32.toBitVec_and, BitVec.getLsbD_and]
theorem b_xor (x y : Int32) (i : Nat) : bt (x ^^^ y) i = (bt x i ^^ bt y i) := by unfold bt; rw [Int32.toBitVec_xor, BitVec.getLsbD_xor]
theorem b_big {x : Int32} {i : Nat} (h : 32 ≤ i) : bt x i = false := BitVec.getLsbD_of_ge _ _ h
theorem b_m1 : ∀ i, i < 32 → bt (-1) i = true := by decide +kernel
theorem b_0 (i : Nat) : bt 0 i = false := BitVec.getLsbD_zero
theorem b_1 : ∀ i, i < 32 → bt 1 i = decide (i = 0) := by decide +kernel
theorem s_l : ∀ n, n < 32 → ((nI n &&& 31).toBitVec.smod 32).toNat = n := by decide +kernel
theorem b_shl (n : Nat) (hn : n < 32) (x : Int32) {i : Nat} (hi : i < 32) : bt (x <<< (nI n &&& 31)) i = (decide (n ≤ i) && bt x (i - n)) := by
  unfold bt
  rw [Int32.toBitVec_shiftLeft]
  show (x.toBitVec <<< ((nI n &&& 31).toBitVec.smod 32).toNat).getLsbD i = _
  rw [s_l n hn, BitVec.getLsbD_shiftLeft]
  rcases Nat.lt_or_ge i n with h | h
  · simp [h, Nat.not_le.mpr h]
  · simp [hi, h, Nat.not_lt.mpr h]
theorem b_sshr (n : Nat) (hn : n < 32) (x : Int32) {i : Nat} (hi : i < 32) : bt (x >>> (nI n &&& 31)) i = if n + i < 32 then bt x (n + i) else bt x 31 := by
  unfold bt
  rw [Int32.toBitVec_shiftRight]
  show (x.toBitVec.sshiftRight ((nI n &&& 31).toBitVec.smod 32).toNat).getLsbD i = _
  rw [s_l n hn, BitVec.getLsbD_sshiftRight, BitVec.msb_eq_getLsbD_last]
  simp [hi]
def bi_n (b : Bool) : Int32 := if b then 1 else 0
theorem bi_one (x : Int32) (k : Nat) (hk : k < 32) : (x >>> (nI k &&& 31)) &&& 1 = bi_n (bt x k) := by
  apply b_ext
  intro i hi
  rw [b_and, b_sshr k hk x hi, b_1 i hi]
  unfold bi_n
  by_cases z : i = 0
  · subst z
    rw [if_pos (by omega)]
    cases bt x (k + 0) <;> simp_all [b_0, b_1]
  · simp only [z, decide_false, Bool.and_false]
    split
    · rw [b_1 i hi, decide_eq_false z]
    · rw [b_0]
theorem bi_eq1 (b : Bool) : bi_n b = 1 ↔ b = true := by cases b <;> decide
theorem bi_eq0 (b : Bool) : bi_n b = 0 ↔ b = false := by cases b <;> decide
theorem bi_pow (k : Nat) (hk : k < 32) (i : Nat) (hi : i < 32) : bt ((1 : Int32) <<< (nI k &&& 31)) i = decide (i = k) := by
  rw [b_shl k hk 1 hi, b_1 (i - k) (by omega)]
  by_cases h : k ≤ i
  · by_cases h2 : i = k
    · subst h2; simp
    · have : ¬ i - k = 0 := by omega
      simp [h2, this]
  · have : ¬ i = k := by omega
    simp [h, this]
/-! the component's marks -/
noncomputable def xm_k (mw ms mu mb : Nat → Int32) (i : Nat) : Int := sg_ky (mw i).toInt (ms i).toInt (mu i).toInt (mb i).toInt
def xm_V (mw ms mu mb : Nat → Int32) (m : Nat) : Prop := ∀ i, i < m → sf_V (mw i).toInt (ms i).toInt (mu i).toInt (mb i).toInt
theorem ar_1n (n : Nat) : ar_i (n : Int) = nI n := (ar_n n).symm
theorem xm_cell {post : Int32 → Prop} {f_made f_depth : Int32} {a_squareTerm a_linearTerm a_constantTerm a_markWhole a_markSide a_markUnder a_markBelow a_markZeros a_stepKind a_stepPolynomial a_stepSet a_heldCells : Nat → Int32}
    (m : Nat) (hm : m ≤ 8) (hV : xm_V a_markWhole a_markSide a_markUnder a_markBelow m) (hS : mk_S (xm_k a_markWhole a_markSide a_markUnder a_markBelow) m)
    (P S D Q : Int) (v1 : sf_V P S D Q) (hp : ∀ c, c ≤ 2 * m → mk_at (xm_k a_markWhole a_markSide a_markUnder a_markBelow) m (sg_ky P S D Q) c → post (nI c)) :
    wpX_cellWith post (nI m, f_made, f_depth, a_squareTerm, a_linearTerm, a_constantTerm, a_markWhole, a_markSide, a_markUnder, a_markBelow, a_markZeros, a_stepKind, a_stepPolynomial, a_stepSet, a_heldCells) (ar_i P) (ar_i S) (ar_i D) (ar_i Q) := by
  refine loop_0 (fun n i s => wX_cellWith_6 post (ar_i P) (ar_i S) (ar_i D) (ar_i Q) (nI m) f_made f_depth a_squareTerm a_linearTerm a_constantTerm a_markWhole a_markSide a_markUnder a_markBelow a_markZeros a_stepKind a_stepPolynomial a_stepSet a_heldCells n s (nI i))
    (fun i s => ∃ c, c ≤ 2 * i ∧ s = nI c ∧ mk_at (xm_k a_markWhole a_markSide a_markUnder a_markBelow) i (sg_ky P S D Q) c) m 0 ?_ ?_ ?_
  · refine ⟨0, by omega, rfl, Or.inr ⟨0, by omega, by omega, ?_, ?_⟩⟩
    · intro l hl; omega
    · intro l hl hl2; omega
  · rintro n s ⟨c, hc, rfl, h⟩
    exact br_t (nI_le (Nat.le_refl m) (by omega)) (hp c hc h)
  · rintro n i s hi ⟨c, hc, rfl, h⟩ k
    refine br_f (nI_ge hi (by omega)) ?_
    refine px_cmp i (by omega) P S D Q v1 (hV i hi) ?_
    rw [kk_cx v1 (hV i hi)]
    have hk : sg_ky (a_markWhole i).toInt (a_markSide i).toInt (a_markUnder i).toInt (a_markBelow i).toInt = xm_k a_markWhole a_markSide a_markUnder a_markBelow i := rfl
    rw [hk]
    generalize sg_ky P S D Q = z at *
    have s3 := sf_sg3 (z - xm_k a_markWhole a_markSide a_markUnder a_markBelow i)
    have hb := ar_i0 (a := Int.sign (z - xm_k a_markWhole a_markSide a_markUnder a_markBelow i)) (by omega)
    have e1 : nI i + 1 = nI (i + 1) := nI_1 i
    have e2 : (2 : Int32) * nI i = nI (2 * i) := pk_mul 2 i
    refine ar_c hb.2.1 (fun p => ar_c hb.2.2.1 (fun q => ?_) (fun q => ?_)) (fun p => ?_)
    · refine nm_r (e' := nI (2 * i + 1)) (by rw [e2, nI_1]) (nm_r e1 (k _ ⟨2 * i + 1, by omega, rfl, Or.inl ⟨i, by omega, by omega, rfl⟩⟩))
    · refine nm_r e1 (k _ ⟨c, by omega, rfl, ?_⟩)
      rcases h with ⟨j, h1, h2, h3⟩ | ⟨j, h1, h2, h3, h4⟩
      · exact Or.inl ⟨j, by omega, h2, h3⟩
      · refine Or.inr ⟨j, by omega, h2, h3, ?_⟩
        intro l hl hl2
        rcases Nat.lt_or_ge l i with t | t
        · exact h4 l hl t
        · have : l = i := by omega
          subst this
          omega
    · refine nm_r (e' := nI (2 * i + 2)) (by rw [e2]; exact nI_add (2 * i) 2) (nm_r e1 (k _ ⟨2 * i + 2, by omega, rfl, Or.inr ⟨i + 1, by omega, by omega, ?_, ?_⟩⟩))
      · intro l hl
        rcases Nat.lt_or_ge l i with t | t
        · have := hS l i t (by omega)
          omega
        · have : l = i := by omega
          subst this
          omega
      · intro l hl hl2; omega
/-- an array with a gap made at t -/
def xm_sh {α : Type} (a : Nat → α) (t m : Nat) : Nat → α := fun i => if t < i ∧ i ≤ m then a (i - 1) else a i
theorem xm_sh0 {α : Type} (a : Nat → α) (m : Nat) : xm_sh a m m = a := by
  funext i
  unfold xm_sh
  rw [if_neg (by omega)]
theorem xm_sh1 (a : Nat → Int32) (t m : Nat) (h : t + 1 ≤ m) : upd (xm_sh a (t + 1) m) (t + 1) (xm_sh a (t + 1) m t) = xm_sh a t m := by
  funext i
  unfold upd xm_sh
  by_cases z : i = t + 1
  · subst z
    rw [if_pos rfl, if_neg (by omega), if_pos (by omega)]
    rfl
  · rw [if_neg z]
    by_cases w : t + 1 < i ∧ i ≤ m
    · rw [if_pos w, if_pos (by omega)]
    · rw [if_neg w, if_neg (by omega)]
theorem xm_room {post : SX → Prop} {f_made f_depth : Int32} {a_squareTerm a_linearTerm a_constantTerm a_markWhole a_markSide a_markUnder a_markBelow a_markZeros a_stepKind a_stepPolynomial a_stepSet a_heldCells : Nat → Int32}
    (m j : Nat) (hm : m < 8) (hj : j ≤ m)
    (hp : post (nI (m + 1), f_made, f_depth, a_squareTerm, a_linearTerm, a_constantTerm, xm_sh a_markWhole j m, xm_sh a_markSide j m, xm_sh a_markUnder j m, xm_sh a_markBelow j m, xm_sh a_markZeros j m, a_stepKind, a_stepPolynomial, a_stepSet, a_heldCells)) :
    wpX_makeRoomAt post (nI m, f_made, f_depth, a_squareTerm, a_linearTerm, a_constantTerm, a_markWhole, a_markSide, a_markUnder, a_markBelow, a_markZeros, a_stepKind, a_stepPolynomial, a_stepSet, a_heldCells) (nI j) := by
  have main : ∀ d t, t = j + d → t ≤ m → wX_makeRoomAt_5 post (nI j) (nI m) f_made f_depth (d + 1) (nI t) a_squareTerm a_linearTerm a_constantTerm (xm_sh a_markWhole t m) (xm_sh a_markSide t m) (xm_sh a_markUnder t m) (xm_sh a_markBelow t m) (xm_sh a_markZeros t m) a_stepKind a_stepPolynomial a_stepSet a_heldCells := by
    intro d
    induction d with
    | zero =>
      intro t ht hm'
      have : t = j := by omega
      subst this
      refine br_t (nI_le (Nat.le_refl t) (by omega)) (nm_r (nI_1 m) hp)
    | succ d ih =>
      intro t ht hm'
      obtain ⟨s, rfl⟩ : ∃ s, t = s + 1 := ⟨t - 1, by omega⟩
      have g := ih s (by omega) (by omega)
      have i1 : vp_in (nI (s + 1) - 1) 8 := by rw [nI_pred]; exact vp_in_nI (by omega) (by decide)
      have i2 : vp_in (nI (s + 1)) 8 := vp_in_nI (by omega) (by decide)
      have c1 : (nI (s + 1) - 1).toNatClampNeg = s := by rw [nI_pred]; exact nI_clamp (by omega)
      have c2 : (nI (s + 1)).toNatClampNeg = s + 1 := nI_clamp (by omega)
      refine br_f (nI_ge (by omega) (by omega)) ?_
      rw [c1, c2]
      refine ⟨i1, i2, nm_r (xm_sh1 _ s m hm') ⟨i1, i2, nm_r (xm_sh1 _ s m hm') ⟨i1, i2, nm_r (xm_sh1 _ s m hm') ⟨i1, i2, nm_r (xm_sh1 _ s m hm') ⟨i1, i2, nm_r (xm_sh1 _ s m hm') (nm_r (pk_m1 s) g)⟩⟩⟩⟩⟩
  have := main (m - j) m (by omega) (Nat.le_refl m)
  rw [xm_sh0, xm_sh0, xm_sh0, xm_sh0, xm_sh0] at this
  exact ⟨_, this⟩
end
section
/-! the component's set -/
def xm_M (P : Nat → Int → Prop) (m : Nat) (mw ms mu mb mz : Nat → Int32) : Prop :=
  xm_V mw ms mu mb m ∧ mk_S (xm_k mw ms mu mb) m ∧ mk_E (xm_k mw ms mu mb) m (fun z => ∃ k, k < 4 ∧ P k z) ∧
  ∀ i, i < m → ∀ k, k < 4 → (bt (mz i) k = true ↔ P k (xm_k mw ms mu mb i))
theorem mk_E_c {k : Nat → Int} {m : Nat} {Q Q' : Int → Prop} (h : ∀ z, Q z ↔ Q' z) (e : mk_E k m Q) : mk_E k m Q' :=
  ⟨fun i hi => (h _).mp (e.1 i hi), fun w hw => e.2 w ((h w).mpr hw)⟩
theorem xm_M_c {P P' : Nat → Int → Prop} {m : Nat} {mw ms mu mb mz : Nat → Int32} (h : ∀ k z, k < 4 → (P k z ↔ P' k z)) (hM : xm_M P m mw ms mu mb mz) : xm_M P' m mw ms mu mb mz := by
  obtain ⟨h1, h2, h3, h4⟩ := hM
  refine ⟨h1, h2, mk_E_c ?_ h3, ?_⟩
  · intro z
    constructor
    · rintro ⟨k, hk, hz⟩; exact ⟨k, hk, (h k z hk).mp hz⟩
    · rintro ⟨k, hk, hz⟩; exact ⟨k, hk, (h k z hk).mpr hz⟩
  · intro i hi k hk
    rw [h4 i hi k hk]; exact h k _ hk
def xm_ins (a : Nat → Int32) (j m : Nat) (x : Int32) : Nat → Int32 := upd (xm_sh a j m) j x
theorem xm_i1 {a : Nat → Int32} {j m i : Nat} {x : Int32} (h : i < j) : xm_ins a j m x i = a i := by
  unfold xm_ins upd xm_sh
  rw [if_neg (by omega), if_neg (by omega)]
theorem xm_i2 {a : Nat → Int32} {j m : Nat} {x : Int32} : xm_ins a j m x j = x := if_pos rfl
theorem xm_i3 {a : Nat → Int32} {j m i : Nat} {x : Int32} (h : j < i) (h2 : i < m + 1) : xm_ins a j m x i = a (i - 1) := by
  unfold xm_ins upd xm_sh
  rw [if_neg (by omega), if_pos (by omega)]
theorem xm_M_ins {P : Nat → Int → Prop} {m : Nat} {mw ms mu mb mz : Nat → Int32} (hM : xm_M P m mw ms mu mb mz) (p s d q : Int) (v : sf_V p s d q) (k j : Nat) (hk : k < 4) (hj : j ≤ m) (w : Int32)
    (hw : ∀ k', k' < 4 → (bt w k' = true ↔ k' = k))
    (lo : ∀ l, l < j → xm_k mw ms mu mb l < sg_ky p s d q) (hi : ∀ l, j ≤ l → l < m → sg_ky p s d q < xm_k mw ms mu mb l) :
    xm_M (fun k' z => P k' z ∨ (k' = k ∧ z = sg_ky p s d q)) (m + 1) (xm_ins mw j m (ar_i p)) (xm_ins ms j m (ar_i s)) (xm_ins mu j m (ar_i d)) (xm_ins mb j m (ar_i q)) (xm_ins mz j m w) := by
  obtain ⟨h1, h2, h3, h4⟩ := hM
  obtain ⟨b1, b2, b3, b4⟩ := sf_V_b v
  have t1 : (ar_i p).toInt = p := ar_ti (by omega)
  have t2 : (ar_i s).toInt = s := ar_ti (by omega)
  have t3 : (ar_i d).toInt = d := ar_ti (by omega)
  have t4 : (ar_i q).toInt = q := ar_ti (by omega)
  have k1 : ∀ i, i < j → xm_k (xm_ins mw j m (ar_i p)) (xm_ins ms j m (ar_i s)) (xm_ins mu j m (ar_i d)) (xm_ins mb j m (ar_i q)) i = xm_k mw ms mu mb i := by
    intro i hi
    unfold xm_k
    rw [xm_i1 hi, xm_i1 hi, xm_i1 hi, xm_i1 hi]
  have k2 : xm_k (xm_ins mw j m (ar_i p)) (xm_ins ms j m (ar_i s)) (xm_ins mu j m (ar_i d)) (xm_ins mb j m (ar_i q)) j = sg_ky p s d q := by
    unfold xm_k
    rw [xm_i2, xm_i2, xm_i2, xm_i2, t1, t2, t3, t4]
  have k3 : ∀ i, j < i → i < m + 1 → xm_k (xm_ins mw j m (ar_i p)) (xm_ins ms j m (ar_i s)) (xm_ins mu j m (ar_i d)) (xm_ins mb j m (ar_i q)) i = xm_k mw ms mu mb (i - 1) := by
    intro i hi hi2
    unfold xm_k
    rw [xm_i3 hi hi2, xm_i3 hi hi2, xm_i3 hi hi2, xm_i3 hi hi2]
  obtain ⟨g1, g2⟩ := mk_ins h2 h3 hj lo hi k1 k2 k3
  have nz : ∀ k', k' < 4 → ¬ P k' (sg_ky p s d q) := by
    intro k' hk' hP
    obtain ⟨l, hl, el⟩ := h3.2 _ ⟨k', hk', hP⟩
    rcases Nat.lt_or_ge l j with t | t
    · have := lo l t; omega
    · have := hi l t hl; omega
  refine ⟨?_, g1, ?_, ?_⟩
  · intro i hi'
    rcases Nat.lt_trichotomy i j with t | t | t
    · rw [xm_i1 t, xm_i1 t, xm_i1 t, xm_i1 t]; exact h1 i (by omega)
    · subst t
      rw [xm_i2, xm_i2, xm_i2, xm_i2, t1, t2, t3, t4]; exact v
    · rw [xm_i3 t hi', xm_i3 t hi', xm_i3 t hi', xm_i3 t hi']; exact h1 (i - 1) (by omega)
  · refine mk_E_c ?_ g2
    intro z
    constructor
    · rintro (⟨k', a, b⟩ | rfl)
      · exact ⟨k', a, Or.inl b⟩
      · exact ⟨k, hk, Or.inr ⟨rfl, rfl⟩⟩
    · rintro ⟨k', a, b | ⟨_, b⟩⟩
      · exact Or.inl ⟨k', a, b⟩
      · exact Or.inr b
  · intro i hi' k' hk'
    rcases Nat.lt_trichotomy i j with t | t | t
    · rw [xm_i1 t, k1 i t, h4 i (by omega) k' hk']
      have := lo i t
      constructor
      · intro h; exact Or.inl h
      · rintro (h | ⟨_, h⟩)
        · exact h
        · omega
    · subst t
      rw [xm_i2, k2, hw k' hk']
      constructor
      · intro h; exact Or.inr ⟨h, rfl⟩
      · rintro (h | ⟨h, _⟩)
        · exact absurd h (nz k' hk')
        · exact h
    · rw [xm_i3 t hi', k3 i t hi', h4 (i - 1) (by omega) k' hk']
      have := hi (i - 1) (by omega) (by omega)
      constructor
      · intro h; exact Or.inl h
      · rintro (h | ⟨_, h⟩)
        · exact h
        · omega
theorem xm_M_bit {P : Nat → Int → Prop} {m : Nat} {mw ms mu mb mz : Nat → Int32} (hM : xm_M P m mw ms mu mb mz) (z : Int) (k j : Nat) (hk : k < 4) (hj : j < m) (w : Int32)
    (hw : ∀ k', k' < 4 → (bt w k' = true ↔ (bt (mz j) k' = true ∨ k' = k))) (hz : xm_k mw ms mu mb j = z) :
    xm_M (fun k' z' => P k' z' ∨ (k' = k ∧ z' = z)) m mw ms mu mb (upd mz j w) := by
  obtain ⟨h1, h2, h3, h4⟩ := hM
  refine ⟨h1, h2, ⟨?_, ?_⟩, ?_⟩
  · intro i hi
    obtain ⟨k', a, b⟩ := h3.1 i hi
    exact ⟨k', a, Or.inl b⟩
  · rintro w ⟨k', a, b | ⟨_, b⟩⟩
    · exact h3.2 w ⟨k', a, b⟩
    · exact ⟨j, hj, by rw [hz, b]⟩
  · intro i hi k' hk'
    by_cases e : i = j
    · subst e
      rw [pk_us, hw k' hk', h4 i hi k' hk', hz]
      constructor
      · rintro (h | h)
        · exact Or.inl h
        · exact Or.inr ⟨h, rfl⟩
      · rintro (h | ⟨h, _⟩)
        · exact Or.inl h
        · exact Or.inr h
    · rw [pk_un e, h4 i hi k' hk']
      have mm := mk_mono h2 hi hj
      constructor
      · intro h; exact Or.inl h
      · rintro (h | ⟨_, h⟩)
        · exact h
        · rw [← hz] at h
          exact absurd (mm.2.mp h) e
theorem xm_add {post : SX → Prop} {f_made f_depth : Int32} {a_squareTerm a_linearTerm a_constantTerm a_markWhole a_markSide a_markUnder a_markBelow a_markZeros a_stepKind a_stepPolynomial a_stepSet a_heldCells : Nat → Int32}
    {P : Nat → Int → Prop} (m : Nat) (hm : m < 8) (hM : xm_M P m a_markWhole a_markSide a_markUnder a_markBelow a_markZeros) (k : Nat) (hk : k < 4) (p s d q : Int) (v : sf_V p s d q)
    (hp : ∀ m' mw ms mu mb mz, m' ≤ m + 1 → xm_M (fun k' z => P k' z ∨ (k' = k ∧ z = sg_ky p s d q)) m' mw ms mu mb mz → post (nI m', f_made, f_depth, a_squareTerm, a_linearTerm, a_constantTerm, mw, ms, mu, mb, mz, a_stepKind, a_stepPolynomial, a_stepSet, a_heldCells)) :
    wpX_addMark post (nI m, f_made, f_depth, a_squareTerm, a_linearTerm, a_constantTerm, a_markWhole, a_markSide, a_markUnder, a_markBelow, a_markZeros, a_stepKind, a_stepPolynomial, a_stepSet, a_heldCells) (nI k) (ar_i p) (ar_i s) (ar_i d) (ar_i q) := by
  unfold wpX_addMark
  dsimp only
  refine xm_cell m (by omega) hM.1 hM.2.1 p s d q v ?_
  intro c hc hat
  have e1 : nI c / 2 = nI (c / 2) := pk_div (d := 2) (by omega) (by decide) (by decide)
  have e2 : nI c - nI c / 2 * 2 = nI (c % 2) := pk_rem (d := 2) (by omega) (by decide) (by decide)
  rw [e2]
  refine ⟨by decide, nm_r e1 ⟨by decide, ?_⟩⟩
  rcases hat with ⟨j, h1, h2, h3⟩ | ⟨j, h1, h2, h3, h4⟩
  · have ec : c / 2 = j := by omega
    rw [ec]
    refine br_f (nI_ne0 (by omega) (by omega)) ?_
    have hin : vp_in (nI j) 8 := vp_in_nI (by omega) (by decide)
    have cl : (nI j).toNatClampNeg = j := nI_clamp (by omega)
    unfold wX_addMark_73
    rw [cl]
    refine ⟨hin, hin, nm_e ?_⟩
    refine hp m _ _ _ _ _ (by omega) (xm_M_bit hM _ k j hk h1 _ ?_ h2)
    intro k' hk'
    rw [b_or, bi_pow k (by omega) k' (by omega), Bool.or_eq_true, decide_eq_true_eq]
  · have ec : c / 2 = j := by omega
    have ec2 : c % 2 = 0 := by omega
    rw [ec, ec2]
    refine br_t rfl ?_
    have hin : vp_in (nI j) 8 := vp_in_nI (by omega) (by decide)
    have cl : (nI j).toNatClampNeg = j := nI_clamp (by omega)
    refine xm_room m j hm h1 ?_
    dsimp only
    unfold wX_addMark_73
    rw [cl]
    refine ⟨hin, nm_e ⟨hin, nm_e ⟨hin, nm_e ⟨hin, nm_e ⟨hin, nm_e ⟨hin, hin, nm_e ?_⟩⟩⟩⟩⟩⟩
    have uu : ∀ (a : Nat → Int32) (x y : Int32), upd (upd a j x) j y = upd a j y := by
      intro a x y
      funext i
      unfold upd
      by_cases z : i = j
      · rw [if_pos z, if_pos z]
      · rw [if_neg z, if_neg z, if_neg z]
    rw [pk_us, uu]
    refine hp (m + 1) _ _ _ _ _ (by omega) (xm_M_ins hM p s d q v k j hk h1 _ ?_ h3 h4)
    intro k' hk'
    rw [b_or, b_0, bi_pow k (by omega) k' (by omega), Bool.false_or, decide_eq_true_eq]
end
section
/-! the component's zeros of a polynomial, and set -/
theorem xz_45 {post : SX → Prop} {f_made f_depth : Int32} {a_squareTerm a_linearTerm a_constantTerm a_markWhole a_markSide a_markUnder a_markBelow a_markZeros a_stepKind a_stepPolynomial a_stepSet a_heldCells : Nat → Int32}
    {P : Nat → Int → Prop} (m : Nat) (hm : m ≤ 6) (hM : xm_M P m a_markWhole a_markSide a_markUnder a_markBelow a_markZeros) (k : Nat) (hk : k < 4)
    (hB : mk_B (a_squareTerm k).toInt (a_linearTerm k).toInt (a_constantTerm k).toInt) (a' b' c' : Int)
    (r1 : (a_squareTerm k).toInt ≠ 0 → a' = (a_squareTerm k).toInt * Int.sign (a_squareTerm k).toInt ∧ b' = (a_linearTerm k).toInt * Int.sign (a_squareTerm k).toInt)
    (r2 : (a_squareTerm k).toInt = 0 → a' = 0) (r3 : (a_squareTerm k).toInt = 0 → (a_linearTerm k).toInt = 0 → b' = 0)
    (r4 : (a_squareTerm k).toInt = 0 → (a_linearTerm k).toInt ≠ 0 → b' = (a_linearTerm k).toInt * Int.sign (a_linearTerm k).toInt ∧ c' = (a_constantTerm k).toInt * Int.sign (a_linearTerm k).toInt)
    (hp : ∀ m' mw ms mu mb mz, m' ≤ m + 2 → xm_M (fun k' z => P k' z ∨ (k' = k ∧ mk_Z (a_squareTerm k).toInt (a_linearTerm k).toInt (a_constantTerm k).toInt z)) m' mw ms mu mb mz → post (nI m', f_made, f_depth, a_squareTerm, a_linearTerm, a_constantTerm, mw, ms, mu, mb, mz, a_stepKind, a_stepPolynomial, a_stepSet, a_heldCells)) :
    wX_addZerosOf_45 post (nI k) (ar_i a') (ar_i b') (ar_i c') (nI m) f_made f_depth a_squareTerm a_linearTerm a_constantTerm a_markWhole a_markSide a_markUnder a_markBelow a_markZeros a_stepKind a_stepPolynomial a_stepSet a_heldCells := by
  have hin : vp_in (nI k) 4 := vp_in_nI hk (by decide)
  have cl : (nI k).toNatClampNeg = k := nI_clamp (by omega)
  have hB' := hB
  unfold mk_B at hB'
  have eD : (a_linearTerm k * a_linearTerm k) - ((4 * a_squareTerm k) * a_constantTerm k) = ar_i ((a_linearTerm k).toInt * (a_linearTerm k).toInt - 4 * (a_squareTerm k).toInt * (a_constantTerm k).toInt) := by
    rw [← ar_i_sub, ← ar_i_mul, ← ar_i_mul, ← ar_i_mul, ← ar_i_t, ← ar_i_t, ← ar_i_t]; rfl
  unfold wX_addZerosOf_45 wpX_discriminant
  dsimp only
  rw [cl, eD]
  refine ⟨hin, hin, hin, hin, ?_⟩
  generalize (a_squareTerm k).toInt = a at *
  generalize (a_linearTerm k).toInt = b at *
  generalize (a_constantTerm k).toInt = c at *
  have bb := ar_b (a := b) (b := b) hB'.2.1 hB'.2.1
  have bac := ar_b (a := 4 * a) (b := c) (A := 120) (by omega) hB'.2.2
  by_cases ha : a = 0
  · have ea := r2 ha
    subst ea
    subst ha
    refine br_t rfl ?_
    by_cases hb : b = 0
    · have eb := r3 rfl hb
      subst eb
      refine br_t rfl ?_
      unfold wX_addZerosOf_74 wX_addZerosOf_98
      refine br_t rfl (br_t rfl ?_)
      refine hp m _ _ _ _ _ (by omega) (xm_M_c ?_ hM)
      intro k' z _
      constructor
      · intro h; exact Or.inl h
      · rintro (h | ⟨_, h⟩)
        · exact h
        · unfold mk_Z at h
          omega
    · obtain ⟨eb, ec⟩ := r4 rfl hb
      have v := mk_Vl hB hb
      have v' := v
      unfold sf_V at v'
      have e1 : b' ≠ 0 := by rw [eb]; omega
      refine br_f (fun h => e1 ((ar_i0 (a := b') (by rw [eb]; omega)).2.2.1.mp h)) ?_
      have e2 : -c' = -c * Int.sign b := by rw [ec, Int.neg_mul]
      rw [ar_i_neg, e2, eb]
      refine xm_add m (by omega) hM k hk (-c * Int.sign b) 0 0 (b * Int.sign b) v ?_
      intro m' mw ms mu mb mz hm' hM'
      refine hp m' mw ms mu mb mz (by omega) (xm_M_c ?_ hM')
      intro k' z _
      have : mk_Z 0 b c z ↔ z = sg_ky (-c * Int.sign b) 0 0 (b * Int.sign b) := by
        unfold mk_Z mk_z0
        constructor
        · rintro (⟨h, _⟩ | ⟨_, _, h⟩)
          · exact absurd rfl h
          · exact h
        · intro h; exact Or.inr ⟨rfl, hb, h⟩
      rw [this]
  · obtain ⟨ea, eb⟩ := r1 ha
    have vd := mk_Vd hB ha
    have vd' := vd
    unfold sf_V at vd'
    have e0 : 2 * a' = 2 * a * Int.sign a := by rw [ea, Int.mul_assoc]
    have e1 : a' ≠ 0 := by omega
    have n1 : ¬ ar_i a' = 0 := fun h => e1 ((ar_i0 (a := a') (by omega)).2.2.1.mp h)
    have e2 : -b' = -b * Int.sign a := by rw [eb, Int.neg_mul]
    have e3 : (2 : Int32) * ar_i a' = ar_i (2 * a * Int.sign a) := by rw [← e0]; exact ar_i_mul 2 a'
    have e4 : -ar_i b' = ar_i (-b * Int.sign a) := by rw [ar_i_neg, e2]
    refine br_f n1 ?_
    unfold wX_addZerosOf_74
    refine br_f n1 ?_
    have kD := ar_i0 (a := b * b - 4 * a * c) (by omega)
    have nZ : ∀ z, mk_Z a b c z ↔ (0 ≤ b * b - 4 * a * c ∧ (z = mk_z1 a b c ∨ z = mk_z2 a b c)) := by
      intro z
      unfold mk_Z
      constructor
      · rintro (⟨_, h⟩ | ⟨h, _⟩)
        · exact h
        · exact absurd h ha
      · intro h; exact Or.inl ⟨ha, h⟩
    refine ar_c kD.2.2.1 (fun hD => ?_) (fun hD => ?_)
    · rw [e3, e4]
      refine xm_add m (by omega) hM k hk (-b * Int.sign a) 0 0 (2 * a * Int.sign a) vd ?_
      intro m' mw ms mu mb mz hm' hM'
      refine hp m' mw ms mu mb mz (by omega) (xm_M_c ?_ hM')
      intro k' z _
      have zz := mk_zz hB ha (by omega)
      have : mk_Z a b c z ↔ z = sg_ky (-b * Int.sign a) 0 0 (2 * a * Int.sign a) := by
        rw [nZ]
        omega
      rw [this]
    · unfold wX_addZerosOf_98
      refine br_f n1 ?_
      refine ar_c kD.2.1 (fun hD2 => ?_) (fun hD2 => ?_)
      · refine hp m _ _ _ _ _ (by omega) (xm_M_c ?_ hM)
        intro k' z _
        rw [nZ]
        constructor
        · intro h; exact Or.inl h
        · rintro (h | ⟨_, h, _⟩)
          · exact h
          · omega
      · rw [e3, e4]
        have v1 := mk_Vq hB ha (by omega) (-1) (by decide)
        have v2 := mk_Vq hB ha (by omega) 1 (by decide)
        refine xm_add m (by omega) hM k hk (-b * Int.sign a) (-1) (b * b - 4 * a * c) (2 * a * Int.sign a) v1 ?_
        intro m' mw ms mu mb mz hm' hM'
        dsimp only
        refine xm_add m' (by omega) hM' k hk (-b * Int.sign a) 1 (b * b - 4 * a * c) (2 * a * Int.sign a) v2 ?_
        intro m'' mw' ms' mu' mb' mz' hm'' hM''
        refine hp m'' mw' ms' mu' mb' mz' (by omega) (xm_M_c ?_ hM'')
        intro k' z _
        rw [nZ]
        constructor
        · rintro ((h | ⟨h, h2⟩) | ⟨h, h2⟩)
          · exact Or.inl h
          · exact Or.inr ⟨h, by omega, Or.inl h2⟩
          · exact Or.inr ⟨h, by omega, Or.inr h2⟩
        · rintro (h | ⟨h, _, h2 | h2⟩)
          · exact Or.inl (Or.inl h)
          · exact Or.inl (Or.inr ⟨h, h2⟩)
          · exact Or.inr ⟨h, h2⟩
theorem xz_zeros {post : SX → Prop} {f_made f_depth : Int32} {a_squareTerm a_linearTerm a_constantTerm a_markWhole a_markSide a_markUnder a_markBelow a_markZeros a_stepKind a_stepPolynomial a_stepSet a_heldCells : Nat → Int32}
    {P : Nat → Int → Prop} (m : Nat) (hm : m ≤ 6) (hM : xm_M P m a_markWhole a_markSide a_markUnder a_markBelow a_markZeros) (k : Nat) (hk : k < 4)
    (hB : mk_B (a_squareTerm k).toInt (a_linearTerm k).toInt (a_constantTerm k).toInt)
    (hp : ∀ m' mw ms mu mb mz, m' ≤ m + 2 → xm_M (fun k' z => P k' z ∨ (k' = k ∧ mk_Z (a_squareTerm k).toInt (a_linearTerm k).toInt (a_constantTerm k).toInt z)) m' mw ms mu mb mz → post (nI m', f_made, f_depth, a_squareTerm, a_linearTerm, a_constantTerm, mw, ms, mu, mb, mz, a_stepKind, a_stepPolynomial, a_stepSet, a_heldCells)) :
    wpX_addZerosOf post (nI m, f_made, f_depth, a_squareTerm, a_linearTerm, a_constantTerm, a_markWhole, a_markSide, a_markUnder, a_markBelow, a_markZeros, a_stepKind, a_stepPolynomial, a_stepSet, a_heldCells) (nI k) := by
  have hin : vp_in (nI k) 4 := vp_in_nI hk (by decide)
  have cl : (nI k).toNatClampNeg = k := nI_clamp (by omega)
  have hB' := hB
  unfold mk_B at hB'
  have f := fun a' b' c' r1 r2 r3 r4 => xz_45 (post := post) (f_made := f_made) (f_depth := f_depth) (a_stepKind := a_stepKind) (a_stepPolynomial := a_stepPolynomial) (a_stepSet := a_stepSet) (a_heldCells := a_heldCells) m hm hM k hk hB a' b' c' r1 r2 r3 r4 hp
  unfold wpX_addZerosOf
  dsimp only
  rw [cl, ar_i_t (a_squareTerm k), ar_i_t (a_linearTerm k), ar_i_t (a_constantTerm k)]
  have s1 := sf_sg3 (a_squareTerm k).toInt
  have s2 := sf_sg3 (a_linearTerm k).toInt
  generalize (a_squareTerm k).toInt = a at *
  generalize (a_linearTerm k).toInt = b at *
  generalize (a_constantTerm k).toInt = c at *
  refine ⟨hin, nm_e ⟨hin, nm_e ⟨hin, nm_e ?_⟩⟩⟩
  refine ar_c (ar_i0 (a := a) (by omega)).2.2.2 (fun h => ?_) (fun h => ?_)
  · have : Int.sign a = -1 := by omega
    refine nm_r (ar_i_neg a) (nm_r (ar_i_neg b) (nm_r (ar_i_neg c) ?_))
    refine f _ _ _ ?_ ?_ ?_ ?_
    · intro _; rw [this]; omega
    · intro h; omega
    · intro h; omega
    · intro h; omega
  · refine ar_c (ar_i0 (a := a) (by omega)).2.2.1 (fun h2 => ?_) (fun h2 => ?_)
    · refine ar_c (ar_i0 (a := b) (by omega)).1 (fun h3 => ?_) (fun h3 => ?_)
      · refine f _ _ _ ?_ ?_ ?_ ?_
        · intro h; omega
        · intro h; exact h
        · intro _ h; exact h
        · intro _ h
          have : Int.sign b = 1 := by omega
          rw [this]; omega
      · have : Int.sign b = -1 := by omega
        refine nm_r (ar_i_neg a) (nm_r (ar_i_neg b) (nm_r (ar_i_neg c) ?_))
        refine f _ _ _ ?_ ?_ ?_ ?_
        · intro h; omega
        · intro h; omega
        · intro _ h; omega
        · intro _ h
          rw [this]; omega
    · have : Int.sign a = 1 := by omega
      refine f _ _ _ ?_ ?_ ?_ ?_
      · intro _; rw [this]; omega
      · intro h; omega
      · intro h; omega
      · intro h; omega
/-- the zeros of all four -/
def xz_P (sq li co : Nat → Int32) (k : Nat) (z : Int) : Prop := mk_Z (sq k).toInt (li k).toInt (co k).toInt z
def xz_B (sq li co : Nat → Int32) : Prop := ∀ k, k < 4 → mk_B (sq k).toInt (li k).toInt (co k).toInt
theorem xz_loop {post : Int32 → SX → Prop} {f_made f_depth : Int32} {a_squareTerm a_linearTerm a_constantTerm a_stepKind a_stepPolynomial a_stepSet a_heldCells : Nat → Int32}
    (hB : xz_B a_squareTerm a_linearTerm a_constantTerm)
    (hp : ∀ m' mw ms mu mb mz, m' ≤ 8 → xm_M (xz_P a_squareTerm a_linearTerm a_constantTerm) m' mw ms mu mb mz → post 0 (nI m', f_made, f_depth, a_squareTerm, a_linearTerm, a_constantTerm, mw, ms, mu, mb, mz, a_stepKind, a_stepPolynomial, a_stepSet, a_heldCells)) :
    ∀ d i, i + d = 4 → ∀ m mw ms mu mb mz, m ≤ 2 * i → xm_M (fun k z => k < i ∧ xz_P a_squareTerm a_linearTerm a_constantTerm k z) m mw ms mu mb mz →
      wX_set_63 post (d + 1) (nI i) (nI m) f_made f_depth a_squareTerm a_linearTerm a_constantTerm mw ms mu mb mz a_stepKind a_stepPolynomial a_stepSet a_heldCells := by
  intro d
  induction d with
  | zero =>
    intro i hi m mw ms mu mb mz hm hM
    have : i = 4 := by omega
    subst this
    refine br_t (by decide) ?_
    refine hp m mw ms mu mb mz (by omega) (xm_M_c ?_ hM)
    intro k z hk
    constructor
    · intro h; exact h.2
    · intro h; exact ⟨hk, h⟩
  | succ d ih =>
    intro i hi m mw ms mu mb mz hm hM
    refine br_f (nI_ge (b := 4) (by omega) (by decide)) ?_
    refine xz_zeros m (by omega) hM i (by omega) (hB i (by omega)) ?_
    intro m' mw' ms' mu' mb' mz' hm' hM'
    dsimp only
    refine nm_r (nI_1 i) ?_
    refine ih (i + 1) (by omega) m' mw' ms' mu' mb' mz' (by omega) (xm_M_c ?_ hM')
    intro k z hk
    constructor
    · rintro (⟨h, h2⟩ | ⟨h, h2⟩)
      · exact ⟨by omega, h2⟩
      · subst h
        exact ⟨by omega, h2⟩
    · rintro ⟨h, h2⟩
      by_cases e : k = i
      · subst e
        exact Or.inr ⟨rfl, h2⟩
      · exact Or.inl ⟨by omega, h2⟩
end
section
/-! the reference's marks -/
noncomputable def ym_k (ps ss ro qs : Nat → Int64) (i : Nat) : Int := sg_ky (ps i).toInt (ss i).toInt (ro i).toInt (qs i).toInt
def ym_V (ps ss ro qs : Nat → Int64) (m : Nat) : Prop := ∀ i, i < m → sf_V (ps i).toInt (ss i).toInt (ro i).toInt (qs i).toInt
def ym_M (Q : Int → Prop) (m : Nat) (ps ss ro qs : Nat → Int64) : Prop := ym_V ps ss ro qs m ∧ mk_S (ym_k ps ss ro qs) m ∧ mk_E (ym_k ps ss ro qs) m Q
def ym_ins (a : Nat → Int64) (j m : Nat) (x : Int64) : Nat → Int64 := vp_updL (xm_sh a j m) j x
theorem ym_i1 {a : Nat → Int64} {j m i : Nat} {x : Int64} (h : i < j) : ym_ins a j m x i = a i := by
  unfold ym_ins vp_updL xm_sh
  rw [if_neg (by omega), if_neg (by omega)]
theorem ym_i2 {a : Nat → Int64} {j m : Nat} {x : Int64} : ym_ins a j m x j = x := if_pos rfl
theorem ym_i3 {a : Nat → Int64} {j m i : Nat} {x : Int64} (h : j < i) (h2 : i < m + 1) : ym_ins a j m x i = a (i - 1) := by
  unfold ym_ins vp_updL xm_sh
  rw [if_neg (by omega), if_pos (by omega)]
theorem ym_sh1 (a : Nat → Int64) (t m : Nat) (h : t + 1 ≤ m) : vp_updL (xm_sh a (t + 1) m) (t + 1) (xm_sh a (t + 1) m t) = xm_sh a t m := by
  funext i
  unfold vp_updL xm_sh
  by_cases z : i = t + 1
  · subst z
    rw [if_pos rfl, if_neg (by omega), if_pos (by omega)]
    rfl
  · rw [if_neg z]
    by_cases w : t + 1 < i ∧ i ≤ m
    · rw [if_pos w, if_pos (by omega)]
    · rw [if_neg w, if_neg (by omega)]
theorem ym_M_ins {Q : Int → Prop} {m : Nat} {ps ss ro qs : Nat → Int64} (hM : ym_M Q m ps ss ro qs) (p s d q : Int) (v : sf_V p s d q) (j : Nat) (hj : j ≤ m)
    (lo : ∀ l, l < j → ym_k ps ss ro qs l < sg_ky p s d q) (hi : ∀ l, j ≤ l → l < m → sg_ky p s d q < ym_k ps ss ro qs l) :
    ym_M (fun z => Q z ∨ z = sg_ky p s d q) (m + 1) (ym_ins ps j m (ar_l p)) (ym_ins ss j m (ar_l s)) (ym_ins ro j m (ar_l d)) (ym_ins qs j m (ar_l q)) := by
  obtain ⟨h1, h2, h3⟩ := hM
  obtain ⟨b1, b2, b3, b4⟩ := sf_V_b v
  have t1 : (ar_l p).toInt = p := ar_tl (by omega)
  have t2 : (ar_l s).toInt = s := ar_tl (by omega)
  have t3 : (ar_l d).toInt = d := ar_tl (by omega)
  have t4 : (ar_l q).toInt = q := ar_tl (by omega)
  have k1 : ∀ i, i < j → ym_k (ym_ins ps j m (ar_l p)) (ym_ins ss j m (ar_l s)) (ym_ins ro j m (ar_l d)) (ym_ins qs j m (ar_l q)) i = ym_k ps ss ro qs i := by
    intro i hi
    unfold ym_k
    rw [ym_i1 hi, ym_i1 hi, ym_i1 hi, ym_i1 hi]
  have k2 : ym_k (ym_ins ps j m (ar_l p)) (ym_ins ss j m (ar_l s)) (ym_ins ro j m (ar_l d)) (ym_ins qs j m (ar_l q)) j = sg_ky p s d q := by
    unfold ym_k
    rw [ym_i2, ym_i2, ym_i2, ym_i2, t1, t2, t3, t4]
  have k3 : ∀ i, j < i → i < m + 1 → ym_k (ym_ins ps j m (ar_l p)) (ym_ins ss j m (ar_l s)) (ym_ins ro j m (ar_l d)) (ym_ins qs j m (ar_l q)) i = ym_k ps ss ro qs (i - 1) := by
    intro i hi hi2
    unfold ym_k
    rw [ym_i3 hi hi2, ym_i3 hi hi2, ym_i3 hi hi2, ym_i3 hi hi2]
  obtain ⟨g1, g2⟩ := mk_ins h2 h3 hj lo hi k1 k2 k3
  refine ⟨?_, g1, g2⟩
  intro i hi'
  rcases Nat.lt_trichotomy i j with t | t | t
  · rw [ym_i1 t, ym_i1 t, ym_i1 t, ym_i1 t]; exact h1 i (by omega)
  · subst t
    rw [ym_i2, ym_i2, ym_i2, ym_i2, t1, t2, t3, t4]; exact v
  · rw [ym_i3 t hi', ym_i3 t hi', ym_i3 t hi', ym_i3 t hi']; exact h1 (i - 1) (by omega)
theorem ym_room {post : SY → Prop} {f_made f_depth : Int32} {a_as a_bs a_cs : Nat → Int32} {a_ps a_ss a_roots a_qs : Nat → Int64} {a_sorts a_ones a_twos a_stack a_truth : Nat → Int32}
    (m j : Nat) (hm : m < 9) (hj : j ≤ m) (p s d q : Int64)
    (hp : post (nI (m + 1), f_made, f_depth, a_as, a_bs, a_cs, ym_ins a_ps j m p, ym_ins a_ss j m s, ym_ins a_roots j m d, ym_ins a_qs j m q, a_sorts, a_ones, a_twos, a_stack, a_truth)) :
    ∃ n, wY_mark_89 post p s d q (nI j) (nI m) f_made f_depth n (nI m) a_as a_bs a_cs a_ps a_ss a_roots a_qs a_sorts a_ones a_twos a_stack a_truth := by
  have main : ∀ e t, t = j + e → t ≤ m → wY_mark_89 post p s d q (nI j) (nI m) f_made f_depth (e + 1) (nI t) a_as a_bs a_cs (xm_sh a_ps t m) (xm_sh a_ss t m) (xm_sh a_roots t m) (xm_sh a_qs t m) a_sorts a_ones a_twos a_stack a_truth := by
    intro e
    induction e with
    | zero =>
      intro t ht hm'
      have : t = j := by omega
      subst this
      have i2 : vp_in (nI t) 9 := vp_in_nI (by omega) (by decide)
      have c2 : (nI t).toNatClampNeg = t := nI_clamp (by omega)
      refine br_t (nI_le (Nat.le_refl t) (by omega)) ?_
      rw [c2]
      refine ⟨i2, nm_e ⟨i2, nm_e ⟨i2, nm_e ⟨i2, nm_e (nm_r (nI_1 m) hp)⟩⟩⟩⟩
    | succ e ih =>
      intro t ht hm'
      obtain ⟨s, rfl⟩ : ∃ s, t = s + 1 := ⟨t - 1, by omega⟩
      have g := ih s (by omega) (by omega)
      have i1 : vp_in (nI (s + 1) - 1) 9 := by rw [nI_pred]; exact vp_in_nI (by omega) (by decide)
      have i2 : vp_in (nI (s + 1)) 9 := vp_in_nI (by omega) (by decide)
      have c1 : (nI (s + 1) - 1).toNatClampNeg = s := by rw [nI_pred]; exact nI_clamp (by omega)
      have c2 : (nI (s + 1)).toNatClampNeg = s + 1 := nI_clamp (by omega)
      refine br_f (nI_ge (by omega) (by omega)) ?_
      rw [c1, c2]
      refine ⟨i1, i2, nm_r (ym_sh1 _ s m hm') ⟨i1, i2, nm_r (ym_sh1 _ s m hm') ⟨i1, i2, nm_r (ym_sh1 _ s m hm') ⟨i1, i2, nm_r (ym_sh1 _ s m hm') (nm_r (pk_m1 s) g)⟩⟩⟩⟩
  have := main (m - j) m (by omega) (Nat.le_refl m)
  rw [xm_sh0, xm_sh0, xm_sh0, xm_sh0] at this
  exact ⟨_, this⟩
theorem ym_30 {post : SY → Prop} {f_made f_depth : Int32} {a_as a_bs a_cs : Nat → Int32} {a_ps a_ss a_roots a_qs : Nat → Int64} {a_sorts a_ones a_twos a_stack a_truth : Nat → Int32}
    {Q : Int → Prop} (m : Nat) (hm : m < 9) (hM : ym_M Q m a_ps a_ss a_roots a_qs) (p s d q : Int) (v : sf_V p s d q)
    (hp : ∀ m' ps ss ro qs, m' ≤ m + 1 → ym_M (fun z => Q z ∨ z = sg_ky p s d q) m' ps ss ro qs → post (nI m', f_made, f_depth, a_as, a_bs, a_cs, ps, ss, ro, qs, a_sorts, a_ones, a_twos, a_stack, a_truth)) :
    ∀ e i, i + e = m → (∀ l, l < i → ym_k a_ps a_ss a_roots a_qs l < sg_ky p s d q) →
      ∀ here : Int32, (i < m → here = ar_i (Int.sign (sg_ky p s d q - ym_k a_ps a_ss a_roots a_qs i))) → (i = m → here = -1) →
      wY_mark_30 post (ar_l p) (ar_l s) (ar_l d) (ar_l q) (nI m) f_made f_depth a_as a_bs a_cs a_ps a_ss a_roots a_qs a_sorts a_ones a_twos a_stack a_truth (e + 1) (nI i) here := by
  intro e
  induction e with
  | zero =>
    intro i hi lo here h1 h2
    have : i = m := by omega
    subst this
    rw [h2 rfl]
    refine br_t (by decide) (br_t (nI_le (Nat.le_refl i) (by omega)) ?_)
    refine ym_room i i hm (Nat.le_refl i) _ _ _ _ ?_
    exact hp _ _ _ _ _ (by omega) (ym_M_ins hM p s d q v i (Nat.le_refl i) lo (by intro l a b; omega))
  | succ e ih =>
    intro i hi lo here h1 h2
    have him : i < m := by omega
    rw [h1 him]
    have s3 := sf_sg3 (sg_ky p s d q - ym_k a_ps a_ss a_roots a_qs i)
    have hb := ar_i0 (a := Int.sign (sg_ky p s d q - ym_k a_ps a_ss a_roots a_qs i)) (by omega)
    refine ar_c hb.2.1 (fun c => ?_) (fun c => ?_)
    · refine br_f (nI_ge him (by omega)) ?_
      refine ar_c hb.2.2.1 (fun c2 => ?_) (fun c2 => ?_)
      · refine hp m _ _ _ _ (by omega) ⟨hM.1, hM.2.1, ?_, ?_⟩
        · intro j hj; exact Or.inl (hM.2.2.1 j hj)
        · rintro w (h | h)
          · exact hM.2.2.2 w h
          · exact ⟨i, him, by omega⟩
      · refine ym_room m i hm (by omega) _ _ _ _ ?_
        refine hp _ _ _ _ _ (by omega) (ym_M_ins hM p s d q v i (by omega) lo ?_)
        intro l hl hl2
        rcases Nat.lt_or_ge i l with t | t
        · have := hM.2.1 i l t hl2
          omega
        · have : l = i := by omega
          subst this
          omega
    · refine nm_r (nI_1 i) ?_
      have lo' : ∀ l, l < i + 1 → ym_k a_ps a_ss a_roots a_qs l < sg_ky p s d q := by
        intro l hl
        rcases Nat.lt_or_ge l i with t | t
        · exact lo l t
        · have : l = i := by omega
          subst this
          omega
      rcases Nat.lt_or_ge (i + 1) m with t | t
      · refine br_f (nI_ge t (by omega)) ?_
        refine py_cmp (i + 1) (by omega) p s d q v (hM.1 _ t) ?_
        rw [kk_cy v (hM.1 _ t)]
        exact ih (i + 1) (by omega) lo' _ (fun _ => rfl) (fun h => by omega)
      · have e1 : i + 1 = m := by omega
        refine br_t (nI_le t (by omega)) ?_
        exact ih (i + 1) (by omega) lo' _ (fun h => by omega) (fun _ => rfl)
theorem ym_mark {post : SY → Prop} {f_made f_depth : Int32} {a_as a_bs a_cs : Nat → Int32} {a_ps a_ss a_roots a_qs : Nat → Int64} {a_sorts a_ones a_twos a_stack a_truth : Nat → Int32}
    {Q : Int → Prop} (m : Nat) (hm : m < 9) (hM : ym_M Q m a_ps a_ss a_roots a_qs) (p s d q : Int) (v : sf_V p s d q)
    (hp : ∀ m' ps ss ro qs, m' ≤ m + 1 → ym_M (fun z => Q z ∨ z = sg_ky p s d q) m' ps ss ro qs → post (nI m', f_made, f_depth, a_as, a_bs, a_cs, ps, ss, ro, qs, a_sorts, a_ones, a_twos, a_stack, a_truth)) :
    wpY_mark post (nI m, f_made, f_depth, a_as, a_bs, a_cs, a_ps, a_ss, a_roots, a_qs, a_sorts, a_ones, a_twos, a_stack, a_truth) (ar_l p) (ar_l s) (ar_l d) (ar_l q) := by
  have main := ym_30 (post := post) (f_made := f_made) (f_depth := f_depth) (a_as := a_as) (a_bs := a_bs) (a_cs := a_cs) (a_sorts := a_sorts) (a_ones := a_ones) (a_twos := a_twos) (a_stack := a_stack) (a_truth := a_truth) m hm hM p s d q v hp m 0 (by omega) (by intro l hl; omega)
  unfold wpY_mark
  dsimp only
  rcases Nat.eq_zero_or_pos m with z | z
  · refine br_t (by rw [z]; decide) ⟨_, main _ (fun h => by omega) (fun _ => rfl)⟩
  · refine br_f (nI_nle z (by omega)) ?_
    refine py_cmp (post := fun r => ∃ n30 : Nat, wY_mark_30 post (ar_l p) (ar_l s) (ar_l d) (ar_l q) (nI m) f_made f_depth a_as a_bs a_cs a_ps a_ss a_roots a_qs a_sorts a_ones a_twos a_stack a_truth n30 0 r) 0 (by omega) p s d q v (hM.1 _ z) ?_
    rw [kk_cy v (hM.1 _ z)]
    exact ⟨_, main _ (fun _ => rfl) (fun h => by omega)⟩
end
section
/-! the reference finds its marks -/
theorem ym_M_c {Q Q' : Int → Prop} {m : Nat} {ps ss ro qs : Nat → Int64} (h : ∀ z, Q z ↔ Q' z) (hM : ym_M Q m ps ss ro qs) : ym_M Q' m ps ss ro qs :=
  ⟨hM.1, hM.2.1, mk_E_c h hM.2.2⟩
theorem ar_m1 : (-1 : Int32) = ar_i (-1) := by decide
theorem ar_lm1 : (-1 : Int64) = ar_l (-1) := by decide
theorem yf_57 {post : SY → Prop} {J7 : Int32 → Int32 → Int32 → Int32 → (Nat → Int32) → (Nat → Int32) → (Nat → Int32) → (Nat → Int64) → (Nat → Int64) → (Nat → Int64) → (Nat → Int64) → (Nat → Int32) → (Nat → Int32) → (Nat → Int32) → (Nat → Int32) → (Nat → Int32) → Prop}
    {f_made f_depth : Int32} {a_as a_bs a_cs : Nat → Int32} {a_ps a_ss a_roots a_qs : Nat → Int64} {a_sorts a_ones a_twos a_stack a_truth : Nat → Int32}
    {Q : Int → Prop} (m : Nat) (hm : m ≤ 6) (hM : ym_M Q m a_ps a_ss a_roots a_qs) (k : Nat) (hk : k < 4)
    (hB : mk_B (a_as k).toInt (a_bs k).toInt (a_cs k).toInt) (t : Int) (ht : (a_as k).toInt ≠ 0 → t = Int.sign (a_as k).toInt)
    (hp : ∀ m' ps ss ro qs, m' ≤ m + 2 → ym_M (fun z => Q z ∨ mk_Z (a_as k).toInt (a_bs k).toInt (a_cs k).toInt z) m' ps ss ro qs → J7 (nI (k + 1)) (nI m') f_made f_depth a_as a_bs a_cs ps ss ro qs a_sorts a_ones a_twos a_stack a_truth) :
    wY_findMarks_57 post J7 (nI k) (ar_l ((a_bs k).toInt * (a_bs k).toInt - 4 * (a_as k).toInt * (a_cs k).toInt)) (ar_i t) (nI m) f_made f_depth a_as a_bs a_cs a_ps a_ss a_roots a_qs a_sorts a_ones a_twos a_stack a_truth := by
  have hin : vp_in (nI k) 4 := vp_in_nI hk (by decide)
  have cl : (nI k).toNatClampNeg = k := nI_clamp (by omega)
  have hB' := hB
  unfold mk_B at hB'
  have bb := ar_b (a := (a_bs k).toInt) (b := (a_bs k).toInt) hB'.2.1 hB'.2.1
  have bac := ar_b (a := 4 * (a_as k).toInt) (b := (a_cs k).toInt) (A := 120) (by omega) hB'.2.2
  have ea : a_as k = ar_i (a_as k).toInt := ar_i_t _
  have eb : a_bs k = ar_i (a_bs k).toInt := ar_i_t _
  have ec : a_cs k = ar_i (a_cs k).toInt := ar_i_t _
  have s1 := sf_sg3 (a_as k).toInt
  have s2 := sf_sg3 (a_bs k).toInt
  by_cases ha : (a_as k).toInt = 0
  · have za : a_as k = 0 := by rw [ea, ha]; rfl
    have lin : ∀ other : Int, ((a_bs k).toInt ≠ 0 → other = Int.sign (a_bs k).toInt) → wY_findMarks_148 post J7 (nI k) (ar_i other) (nI m) f_made f_depth a_as a_bs a_cs a_ps a_ss a_roots a_qs a_sorts a_ones a_twos a_stack a_truth := by
      intro other ho
      unfold wY_findMarks_148
      rw [cl]
      refine ⟨hin, br_t za ⟨hin, ?_⟩⟩
      by_cases hb : (a_bs k).toInt = 0
      · refine br_t (by rw [eb, hb]; rfl) (nm_r (nI_1 k) ?_)
        refine hp m _ _ _ _ (by omega) (ym_M_c ?_ hM)
        intro z
        constructor
        · intro h; exact Or.inl h
        · rintro (h | h)
          · exact h
          · unfold mk_Z at h
            omega
      · have v := mk_Vl (b := (a_bs k).toInt) (c := (a_cs k).toInt) (by rw [ha] at hB; exact hB) hb
        have v' := sf_V_b v
        have nb : ¬ a_bs k = 0 := by
          rw [eb]
          exact fun h => hb ((ar_i0 (a := (a_bs k).toInt) (by omega)).2.2.1.mp h)
        refine br_f nb ⟨hin, hin, ?_⟩
        have x1 : ((-(a_cs k)) * ar_i other).toInt64 = ar_l (-(a_cs k).toInt * Int.sign (a_bs k).toInt) := by
          rw [ho hb, ← ar_il (a := -(a_cs k).toInt * Int.sign (a_bs k).toInt) (by omega), ← ar_i_mul, ← ar_i_neg, ← ar_i_t]
        have x2 : ((a_bs k) * ar_i other).toInt64 = ar_l ((a_bs k).toInt * Int.sign (a_bs k).toInt) := by
          rw [ho hb, ← ar_il (a := (a_bs k).toInt * Int.sign (a_bs k).toInt) (by omega), ← ar_i_mul, ← ar_i_t]
        rw [x1, x2]
        refine ym_mark (p := -(a_cs k).toInt * Int.sign (a_bs k).toInt) (s := 0) (d := 0) (q := (a_bs k).toInt * Int.sign (a_bs k).toInt) m (by omega) hM v ?_
        intro m' ps ss ro qs hm' hM'
        dsimp only
        refine nm_r (nI_1 k) (hp m' ps ss ro qs (by omega) (ym_M_c ?_ hM'))
        intro z
        have : mk_Z (a_as k).toInt (a_bs k).toInt (a_cs k).toInt z ↔ z = sg_ky (-(a_cs k).toInt * Int.sign (a_bs k).toInt) 0 0 ((a_bs k).toInt * Int.sign (a_bs k).toInt) := by
          unfold mk_Z mk_z0
          constructor
          · rintro (⟨h, _⟩ | ⟨_, _, h⟩)
            · exact absurd ha h
            · exact h
          · intro h; exact Or.inr ⟨ha, hb, h⟩
        rw [this]
    unfold wY_findMarks_57
    rw [cl]
    refine ⟨hin, br_t za ?_⟩
    unfold wY_findMarks_134
    rw [cl]
    refine ⟨hin, ?_⟩
    have hb0 : (0 ≤ a_bs k) ↔ 0 ≤ (a_bs k).toInt := by
      rw [eb]
      have := (ar_i0 (a := (a_bs k).toInt) (by omega)).1
      rw [← eb] at this ⊢
      exact this
    refine ar_c hb0 (fun h => ?_) (fun h => ?_)
    · exact lin 1 (fun hn => by omega)
    · rw [ar_m1]; exact lin (-1) (fun hn => by omega)
  · have na : ¬ a_as k = 0 := by
      rw [ea]
      exact fun h => ha ((ar_i0 (a := (a_as k).toInt) (by omega)).2.2.1.mp h)
    have skip : ∀ m' ps ss ro qs, m' ≤ m + 2 → ym_M (fun z => Q z ∨ mk_Z (a_as k).toInt (a_bs k).toInt (a_cs k).toInt z) m' ps ss ro qs →
        wY_findMarks_134 post J7 (nI k) (nI m') f_made f_depth a_as a_bs a_cs ps ss ro qs a_sorts a_ones a_twos a_stack a_truth := by
      intro m' ps ss ro qs hm' hM'
      unfold wY_findMarks_134 wY_findMarks_148
      rw [cl]
      exact ⟨hin, br_c (fun _ => ⟨hin, br_f na (nm_r (nI_1 k) (hp m' ps ss ro qs hm' hM'))⟩) (fun _ => ⟨hin, br_f na (nm_r (nI_1 k) (hp m' ps ss ro qs hm' hM'))⟩)⟩
    have nZ : ∀ z, mk_Z (a_as k).toInt (a_bs k).toInt (a_cs k).toInt z ↔ (0 ≤ (a_bs k).toInt * (a_bs k).toInt - 4 * (a_as k).toInt * (a_cs k).toInt ∧ (z = mk_z1 (a_as k).toInt (a_bs k).toInt (a_cs k).toInt ∨ z = mk_z2 (a_as k).toInt (a_bs k).toInt (a_cs k).toInt)) := by
      intro z
      unfold mk_Z
      constructor
      · rintro (⟨_, h⟩ | ⟨h, _⟩)
        · exact h
        · exact absurd h ha
      · intro h; exact Or.inl ⟨ha, h⟩
    unfold wY_findMarks_57
    rw [cl]
    refine ⟨hin, br_f na ?_⟩
    refine ar_c (ar_l0 (a := (a_bs k).toInt * (a_bs k).toInt - 4 * (a_as k).toInt * (a_cs k).toInt) (by omega)).2.2.2 (fun hD => ?_) (fun hD => ⟨hin, hin, ?_⟩)
    · refine skip m _ _ _ _ (by omega) (ym_M_c ?_ hM)
      intro z
      rw [nZ]
      constructor
      · intro h; exact Or.inl h
      · rintro (h | ⟨h, _⟩)
        · exact h
        · omega
    · have v1 := mk_Vq hB ha (by omega) (-1) (by decide)
      have v2 := mk_Vq hB ha (by omega) 1 (by decide)
      have v' := sf_V_b v1
      have x1 : ((-(a_bs k)) * ar_i t).toInt64 = ar_l (-(a_bs k).toInt * Int.sign (a_as k).toInt) := by
        rw [ht ha, ← ar_il (a := -(a_bs k).toInt * Int.sign (a_as k).toInt) (by omega), ← ar_i_mul, ← ar_i_neg, ← ar_i_t]
      have x2 : ((2 * (a_as k)) * ar_i t).toInt64 = ar_l (2 * (a_as k).toInt * Int.sign (a_as k).toInt) := by
        rw [ht ha, ← ar_il (a := 2 * (a_as k).toInt * Int.sign (a_as k).toInt) (by omega), ← ar_i_mul, ← ar_i_mul, ← ar_i_t]; rfl
      rw [x1, x2]
      refine ym_mark (p := -(a_bs k).toInt * Int.sign (a_as k).toInt) (s := 1) (d := (a_bs k).toInt * (a_bs k).toInt - 4 * (a_as k).toInt * (a_cs k).toInt) (q := 2 * (a_as k).toInt * Int.sign (a_as k).toInt) m (by omega) hM v2 ?_
      intro m' ps ss ro qs hm' hM'
      dsimp only
      rw [x1, x2, ar_lm1]
      refine ⟨hin, hin, ?_⟩
      refine ym_mark (p := -(a_bs k).toInt * Int.sign (a_as k).toInt) (s := -1) (d := (a_bs k).toInt * (a_bs k).toInt - 4 * (a_as k).toInt * (a_cs k).toInt) (q := 2 * (a_as k).toInt * Int.sign (a_as k).toInt) m' (by omega) hM' v1 ?_
      intro m'' ps' ss' ro' qs' hm'' hM''
      dsimp only
      refine skip m'' _ _ _ _ (by omega) (ym_M_c ?_ hM'')
      intro z
      rw [nZ]
      constructor
      · rintro ((h | h) | h)
        · exact Or.inl h
        · exact Or.inr ⟨by omega, Or.inr h⟩
        · exact Or.inr ⟨by omega, Or.inl h⟩
      · rintro (h | ⟨_, h | h⟩)
        · exact Or.inl (Or.inl h)
        · exact Or.inr h
        · exact Or.inl (Or.inr h)
theorem yf_loop {post : SY → Prop} {f_made f_depth : Int32} {a_as a_bs a_cs : Nat → Int32} {a_sorts a_ones a_twos a_stack a_truth : Nat → Int32}
    (hB : xz_B a_as a_bs a_cs)
    (hp : ∀ m' ps ss ro qs, m' ≤ 8 → ym_M (fun z => ∃ k, k < 4 ∧ xz_P a_as a_bs a_cs k z) m' ps ss ro qs → post (nI m', f_made, f_depth, a_as, a_bs, a_cs, ps, ss, ro, qs, a_sorts, a_ones, a_twos, a_stack, a_truth)) :
    ∀ d i, i + d = 4 → ∀ m ps ss ro qs, m ≤ 2 * i → ym_M (fun z => ∃ k, k < i ∧ xz_P a_as a_bs a_cs k z) m ps ss ro qs →
      wY_findMarks_7 post (d + 1) (nI i) (nI m) f_made f_depth a_as a_bs a_cs ps ss ro qs a_sorts a_ones a_twos a_stack a_truth := by
  intro d
  induction d with
  | zero =>
    intro i hi m ps ss ro qs hm hM
    have : i = 4 := by omega
    subst this
    exact br_t (by decide) (hp m ps ss ro qs (by omega) hM)
  | succ d ih =>
    intro i hi m ps ss ro qs hm hM
    have hin : vp_in (nI i) 4 := vp_in_nI (by omega) (by decide)
    have cl : (nI i).toNatClampNeg = i := nI_clamp (by omega)
    have hBi := hB i (by omega)
    have hB' := hBi
    unfold mk_B at hB'
    have bb := ar_b (a := (a_bs i).toInt) (b := (a_bs i).toInt) hB'.2.1 hB'.2.1
    have bac := ar_b (a := 4 * (a_as i).toInt) (b := (a_cs i).toInt) (A := 120) (by omega) hB'.2.2
    have eD : ((a_bs i * a_bs i) - ((4 * a_as i) * a_cs i)).toInt64 = ar_l ((a_bs i).toInt * (a_bs i).toInt - 4 * (a_as i).toInt * (a_cs i).toInt) := by
      rw [← ar_il (a := (a_bs i).toInt * (a_bs i).toInt - 4 * (a_as i).toInt * (a_cs i).toInt) (by omega), ← ar_i_sub, ← ar_i_mul, ← ar_i_mul, ← ar_i_mul, ← ar_i_t, ← ar_i_t, ← ar_i_t]; rfl
    have ea : a_as i = ar_i (a_as i).toInt := ar_i_t _
    have s1 := sf_sg3 (a_as i).toInt
    have nxt : ∀ m' ps' ss' ro' qs', m' ≤ m + 2 → ym_M (fun z => (∃ k, k < i ∧ xz_P a_as a_bs a_cs k z) ∨ mk_Z (a_as i).toInt (a_bs i).toInt (a_cs i).toInt z) m' ps' ss' ro' qs' →
        wY_findMarks_7 post (d + 1) (nI (i + 1)) (nI m') f_made f_depth a_as a_bs a_cs ps' ss' ro' qs' a_sorts a_ones a_twos a_stack a_truth := by
      intro m' ps' ss' ro' qs' hm' hM'
      refine ih (i + 1) (by omega) m' ps' ss' ro' qs' (by omega) (ym_M_c ?_ hM')
      intro z
      constructor
      · rintro (⟨k, h, h2⟩ | h)
        · exact ⟨k, by omega, h2⟩
        · exact ⟨i, by omega, h⟩
      · rintro ⟨k, h, h2⟩
        by_cases e : k = i
        · subst e
          exact Or.inr h2
        · exact Or.inl ⟨k, by omega, h2⟩
    refine br_f (nI_ge (b := 4) (by omega) (by decide)) ?_
    rw [cl]
    refine ⟨hin, hin, hin, hin, nm_r eD ⟨hin, ?_⟩⟩
    have ha0 : (0 ≤ a_as i) ↔ 0 ≤ (a_as i).toInt := by
      have := (ar_i0 (a := (a_as i).toInt) (by omega)).1
      rw [← ea] at this
      exact this
    refine ar_c ha0 (fun h => ?_) (fun h => ?_)
    · exact yf_57 (t := 1) m (by omega) hM i (by omega) hBi (fun hn => by omega) nxt
    · rw [ar_m1]; exact yf_57 (t := -1) m (by omega) hM i (by omega) hBi (fun hn => by omega) nxt
theorem yf_find {post : SY → Prop} {f_marks f_made f_depth : Int32} {a_as a_bs a_cs : Nat → Int32} {a_ps a_ss a_roots a_qs : Nat → Int64} {a_sorts a_ones a_twos a_stack a_truth : Nat → Int32}
    (hB : xz_B a_as a_bs a_cs)
    (hp : ∀ m' ps ss ro qs, m' ≤ 8 → ym_M (fun z => ∃ k, k < 4 ∧ xz_P a_as a_bs a_cs k z) m' ps ss ro qs → post (nI m', f_made, f_depth, a_as, a_bs, a_cs, ps, ss, ro, qs, a_sorts, a_ones, a_twos, a_stack, a_truth)) :
    wpY_findMarks post (f_marks, f_made, f_depth, a_as, a_bs, a_cs, a_ps, a_ss, a_roots, a_qs, a_sorts, a_ones, a_twos, a_stack, a_truth) := by
  refine ⟨_, yf_loop hB hp 4 0 rfl 0 a_ps a_ss a_roots a_qs (by omega) ⟨?_, ?_, ?_, ?_⟩⟩
  · intro i hi; omega
  · intro i j h hj; omega
  · intro i hi; omega
  · rintro w ⟨k, h, _⟩; omega
end
section
/-! the sign of a polynomial on a cell, by both -/
theorem xs_isz {post : Int32 → Prop} {f_markCount f_made f_depth : Int32} {a_squareTerm a_linearTerm a_constantTerm a_markWhole a_markSide a_markUnder a_markBelow a_markZeros a_stepKind a_stepPolynomial a_stepSet a_heldCells : Nat → Int32}
    (k i : Nat) (hk : k < 4) (hi : i < 8) (h1 : bt (a_markZeros i) k = true → post 1) (h0 : bt (a_markZeros i) k = false → post 0) :
    wpX_isZeroAt post (f_markCount, f_made, f_depth, a_squareTerm, a_linearTerm, a_constantTerm, a_markWhole, a_markSide, a_markUnder, a_markBelow, a_markZeros, a_stepKind, a_stepPolynomial, a_stepSet, a_heldCells) (nI k) (nI i) := by
  have hin : vp_in (nI i) 8 := vp_in_nI hi (by decide)
  have cl : (nI i).toNatClampNeg = i := nI_clamp (by omega)
  unfold wpX_isZeroAt
  dsimp only
  rw [cl, bi_one _ k (by omega)]
  refine ⟨hin, ar_c (bi_eq1 _) h1 (fun h => h0 (by simpa using h))⟩
theorem xs_43 {post : Int32 → Prop} {f_markCount f_made f_depth : Int32} {a_squareTerm a_linearTerm a_constantTerm a_markWhole a_markSide a_markUnder a_markBelow a_markZeros a_stepKind a_stepPolynomial a_stepSet a_heldCells : Nat → Int32}
    (x : Int) (hx : x.natAbs < 2 ^ 31) (hp : post (ar_i (Int.sign x))) :
    wX_signFarLeft_43 post (ar_i x) f_markCount f_made f_depth a_squareTerm a_linearTerm a_constantTerm a_markWhole a_markSide a_markUnder a_markBelow a_markZeros a_stepKind a_stepPolynomial a_stepSet a_heldCells := by
  have s3 := sf_sg3 x
  have k := ar_i0 (a := x) hx
  refine ar_c k.1 (fun p => ar_c k.2.1 (fun q => ?_) (fun q => ?_)) (fun p => ?_)
  · have : Int.sign x = 0 := by omega
    rw [this] at hp; exact hp
  · have : Int.sign x = 1 := by omega
    rw [this] at hp; exact hp
  · have : Int.sign x = -1 := by omega
    rw [this, ← ar_m1] at hp; exact hp
theorem xs_far {post : Int32 → Prop} {f_markCount f_made f_depth : Int32} {a_squareTerm a_linearTerm a_constantTerm a_markWhole a_markSide a_markUnder a_markBelow a_markZeros a_stepKind a_stepPolynomial a_stepSet a_heldCells : Nat → Int32}
    (k : Nat) (hk : k < 4) (hB : mk_B (a_squareTerm k).toInt (a_linearTerm k).toInt (a_constantTerm k).toInt)
    (hp : post (ar_i (if (a_squareTerm k).toInt ≠ 0 then Int.sign (a_squareTerm k).toInt else if (a_linearTerm k).toInt ≠ 0 then -Int.sign (a_linearTerm k).toInt else Int.sign (a_constantTerm k).toInt))) :
    wpX_signFarLeft post (f_markCount, f_made, f_depth, a_squareTerm, a_linearTerm, a_constantTerm, a_markWhole, a_markSide, a_markUnder, a_markBelow, a_markZeros, a_stepKind, a_stepPolynomial, a_stepSet, a_heldCells) (nI k) := by
  have hin : vp_in (nI k) 4 := vp_in_nI hk (by decide)
  have cl : (nI k).toNatClampNeg = k := nI_clamp (by omega)
  unfold mk_B at hB
  unfold wpX_signFarLeft
  dsimp only
  rw [cl, ar_i_t (a_squareTerm k), ar_i_t (a_linearTerm k), ar_i_t (a_constantTerm k)]
  generalize (a_squareTerm k).toInt = a at *
  generalize (a_linearTerm k).toInt = b at *
  generalize (a_constantTerm k).toInt = c at *
  refine ⟨hin, nm_e ⟨hin, ?_⟩⟩
  refine ar_c (ar_i0 (a := a) (by omega)).2.2.1 (fun h => ⟨hin, ?_⟩) (fun h => ⟨hin, nm_e ?_⟩)
  · rw [if_neg (by omega)] at hp
    refine ar_c (ar_i0 (a := b) (by omega)).2.2.1 (fun h => ?_) (fun h => ⟨hin, nm_r (ar_i_neg b) ?_⟩)
    · rw [if_neg (by omega)] at hp
      exact xs_43 c (by omega) hp
    · rw [if_pos h] at hp
      refine xs_43 (-b) (by omega) ?_
      rw [Int.sign_neg]; exact hp
  · rw [if_pos h] at hp
    exact xs_43 a (by omega) hp
theorem xs_loop {post : Int32 → Prop} {f_made f_depth : Int32} {a_squareTerm a_linearTerm a_constantTerm a_markWhole a_markSide a_markUnder a_markBelow a_markZeros a_stepKind a_stepPolynomial a_stepSet a_heldCells : Nat → Int32}
    (m : Nat) (hm : m ≤ 8) (k : Nat) (hk : k < 4) (c : Nat) (hc : c ≤ 2 * m) (g : Nat → Int) (Z : Nat → Prop) (tn : Prop) (x4 : Int32) (ht : x4 = 0 ↔ ¬ tn)
    (hZ : ∀ i, i < m → (bt (a_markZeros i) k = true ↔ Z i))
    (f1 : ∀ i, i < m → ¬ Z i → g (2 * i + 1) = g (2 * i) ∧ g (2 * i + 2) = g (2 * i))
    (f2 : ∀ i, i < m → Z i → g (2 * i + 1) = 0 ∧ (¬ tn → g (2 * i + 2) = g (2 * i)) ∧ (tn → g (2 * i + 2) = -g (2 * i)))
    (hp : post (ar_i (g c))) :
    ∀ d i, i + d = m → 2 * i ≤ c + 1 → (c + 1 = 2 * i → g c = g (2 * i)) →
      wX_signOn_33 post (nI k) (nI c) x4 (nI m) f_made f_depth a_squareTerm a_linearTerm a_constantTerm a_markWhole a_markSide a_markUnder a_markBelow a_markZeros a_stepKind a_stepPolynomial a_stepSet a_heldCells (d + 1) (ar_i (g (2 * i))) (nI i) := by
  intro d
  induction d with
  | zero =>
    intro i hi h1 h2
    have : i = m := by omega
    subst this
    refine br_t (nI_le (Nat.le_refl i) (by omega)) ?_
    by_cases e : c = 2 * i
    · rw [← e]; exact hp
    · rw [← h2 (by omega)]; exact hp
  | succ d ih =>
    intro i hi h1 h2
    refine br_f (nI_ge (by omega) (by omega)) ?_
    have e2 : (2 : Int32) * nI i = nI (2 * i) := pk_mul 2 i
    rw [e2]
    by_cases hci : c ≤ 2 * i
    · refine br_t (nI_le hci (by omega)) ?_
      by_cases e : c = 2 * i
      · rw [← e]; exact hp
      · rw [← h2 (by omega)]; exact hp
    · refine br_f (nI_ge (by omega) (by omega)) ?_
      refine xs_isz k i hk (by omega) (fun hb => ?_) (fun hb => ?_)
      · have z := (hZ i (by omega)).mp hb
        obtain ⟨z1, z2, z3⟩ := f2 i (by omega) z
        refine br_f (by decide) ?_
        have e3 : nI (2 * i) + 1 = nI (2 * i + 1) := nI_1 _
        rw [e3]
        refine ar_c (nI_eq (a := c) (b := 2 * i + 1) (by omega) (by omega)) (fun e => ?_) (fun e => ?_)
        · subst e
          rw [z1] at hp
          exact hp
        · refine ar_c ht (fun t => nm_r (nI_1 i) ?_) (fun t => nm_r (ar_i_neg _) (nm_r (nI_1 i) ?_))
          · rw [← z2 t]
            exact ih (i + 1) (by omega) (by omega) (fun h => by omega)
          · have t' : tn := Classical.byContradiction t
            rw [← z3 t']
            exact ih (i + 1) (by omega) (by omega) (fun h => by omega)
      · have z : ¬ Z i := fun z => by
          rw [(hZ i (by omega)).mpr z] at hb
          cases hb
        obtain ⟨z1, z2⟩ := f1 i (by omega) z
        refine br_t rfl (nm_r (nI_1 i) ?_)
        rw [← z2]
        refine ih (i + 1) (by omega) (by omega) (fun h => ?_)
        have : c = 2 * i + 1 := by omega
        rw [this, z1]
        exact z2.symm
theorem xs_on {post : Int32 → Prop} {f_made f_depth : Int32} {a_squareTerm a_linearTerm a_constantTerm a_markWhole a_markSide a_markUnder a_markBelow a_markZeros a_stepKind a_stepPolynomial a_stepSet a_heldCells : Nat → Int32}
    (m : Nat) (hm : m ≤ 8) (hM : xm_M (xz_P a_squareTerm a_linearTerm a_constantTerm) m a_markWhole a_markSide a_markUnder a_markBelow a_markZeros) (hB : xz_B a_squareTerm a_linearTerm a_constantTerm)
    (k : Nat) (hk : k < 4) (c : Nat) (hc : c ≤ 2 * m)
    (hp : post (ar_i (mk_sig (xm_k a_markWhole a_markSide a_markUnder a_markBelow) m (a_squareTerm k).toInt (a_linearTerm k).toInt (a_constantTerm k).toInt c))) :
    wpX_signOn post (nI m, f_made, f_depth, a_squareTerm, a_linearTerm, a_constantTerm, a_markWhole, a_markSide, a_markUnder, a_markBelow, a_markZeros, a_stepKind, a_stepPolynomial, a_stepSet, a_heldCells) (nI k) (nI c) := by
  have hin : vp_in (nI k) 4 := vp_in_nI hk (by decide)
  have cl : (nI k).toNatClampNeg = k := nI_clamp (by omega)
  obtain ⟨m1, m2, m3, m4⟩ := hM
  have hBk := hB k hk
  have F := mk_F (k := xm_k a_markWhole a_markSide a_markUnder a_markBelow) (m := m) m2 hBk (fun z hz => m3.2 z ⟨k, hk, hz⟩)
  obtain ⟨F0, F1, F2, F3, F4⟩ := F
  have hB' := hBk
  unfold mk_B at hB'
  have main := fun (tn : Prop) (x4 : Int32) (ht : x4 = 0 ↔ ¬ tn)
    (f2 : ∀ i, i < m → mk_Z (a_squareTerm k).toInt (a_linearTerm k).toInt (a_constantTerm k).toInt (xm_k a_markWhole a_markSide a_markUnder a_markBelow i) → _) =>
    xs_loop (post := post) (f_made := f_made) (f_depth := f_depth) (a_squareTerm := a_squareTerm) (a_linearTerm := a_linearTerm) (a_constantTerm := a_constantTerm) (a_markWhole := a_markWhole) (a_markSide := a_markSide) (a_markUnder := a_markUnder) (a_markBelow := a_markBelow) (a_markZeros := a_markZeros) (a_stepKind := a_stepKind) (a_stepPolynomial := a_stepPolynomial) (a_stepSet := a_stepSet) (a_heldCells := a_heldCells)
      m hm k hk c hc (mk_sig (xm_k a_markWhole a_markSide a_markUnder a_markBelow) m (a_squareTerm k).toInt (a_linearTerm k).toInt (a_constantTerm k).toInt)
      (fun i => mk_Z (a_squareTerm k).toInt (a_linearTerm k).toInt (a_constantTerm k).toInt (xm_k a_markWhole a_markSide a_markUnder a_markBelow i)) tn x4 ht
      (fun i hi => m4 i hi k hk) F2 f2 hp m 0 (by omega) (by omega) (fun h => by omega)
  unfold wpX_signOn
  dsimp only
  refine xs_far k hk hBk ?_
  rw [← F0]
  refine ⟨hin, ?_⟩
  rw [cl]
  have za : (a_squareTerm k = 0) ↔ (a_squareTerm k).toInt = 0 := by
    have := (ar_i0 (a := (a_squareTerm k).toInt) (by omega)).2.2.1
    rw [← ar_i_t] at this
    exact this
  refine ar_c za (fun h => ?_) (fun h => ?_)
  · refine ⟨_, main True 1 (by decide) ?_⟩
    intro i hi z
    obtain ⟨z1, z2, z3⟩ := F3 i hi z
    exact ⟨z1, fun n => absurd trivial n, fun _ => z3 (fun n => n.1 h)⟩
  · unfold wpX_discriminant
    dsimp only
    rw [cl]
    refine ⟨hin, hin, hin, hin, ?_⟩
    have bb := ar_b (a := (a_linearTerm k).toInt) (b := (a_linearTerm k).toInt) hB'.2.1 hB'.2.1
    have bac := ar_b (a := 4 * (a_squareTerm k).toInt) (b := (a_constantTerm k).toInt) (A := 120) (by omega) hB'.2.2
    have eD : (a_linearTerm k * a_linearTerm k) - ((4 * a_squareTerm k) * a_constantTerm k) = ar_i ((a_linearTerm k).toInt * (a_linearTerm k).toInt - 4 * (a_squareTerm k).toInt * (a_constantTerm k).toInt) := by
      rw [← ar_i_sub, ← ar_i_mul, ← ar_i_mul, ← ar_i_mul, ← ar_i_t, ← ar_i_t, ← ar_i_t]; rfl
    rw [eD]
    refine ar_c (ar_i0 (a := (a_linearTerm k).toInt * (a_linearTerm k).toInt - 4 * (a_squareTerm k).toInt * (a_constantTerm k).toInt) (by omega)).2.2.1 (fun hD => ?_) (fun hD => ?_)
    · refine ⟨_, main False 0 (by decide) ?_⟩
      intro i hi z
      obtain ⟨z1, z2, z3⟩ := F3 i hi z
      exact ⟨z1, fun _ => z2 h hD, fun n => n.elim⟩
    · refine ⟨_, main True 1 (by decide) ?_⟩
      intro i hi z
      obtain ⟨z1, z2, z3⟩ := F3 i hi z
      exact ⟨z1, fun n => absurd trivial n, fun _ => z3 (fun n => hD n.2)⟩
/-! the reference -/
theorem ys_at {post : Int32 → Prop} {f_made f_depth : Int32} {a_as a_bs a_cs : Nat → Int32} {a_ps a_ss a_roots a_qs : Nat → Int64} {a_sorts a_ones a_twos a_stack a_truth : Nat → Int32}
    (m : Nat) (hm : m ≤ 8) (κ : Nat → Int) (hV : ym_V a_ps a_ss a_roots a_qs m) (hκ : ∀ i, i < m → ym_k a_ps a_ss a_roots a_qs i = κ i) (hB : xz_B a_as a_bs a_cs)
    (k : Nat) (hk : k < 4) (i : Nat) (hi : i < m)
    (hp : post (ar_i (mk_sig κ m (a_as k).toInt (a_bs k).toInt (a_cs k).toInt (2 * i + 1)))) :
    wpY_signAt post (nI m, f_made, f_depth, a_as, a_bs, a_cs, a_ps, a_ss, a_roots, a_qs, a_sorts, a_ones, a_twos, a_stack, a_truth) (nI k) (nI i) := by
  have hBk := hB k hk
  have hB' := hBk
  unfold mk_B at hB'
  refine py_sa k i hk (by omega) (hV i hi) hB'.1 hB'.2.1 hB'.2.2 ?_
  rw [mk_sa (k := κ) (m := m) (i := i) hBk (hV i hi) (hκ i hi)]
  exact hp
theorem ys_108 {post : Int32 → Prop} {f_made f_depth : Int32} {a_as a_bs a_cs : Nat → Int32} {a_ps a_ss a_roots a_qs : Nat → Int64} {a_sorts a_ones a_twos a_stack a_truth : Nat → Int32}
    (m : Nat) (hm : m ≤ 8) (κ : Nat → Int) (hV : ym_V a_ps a_ss a_roots a_qs m) (hκ : ∀ i, i < m → ym_k a_ps a_ss a_roots a_qs i = κ i) (hB : xz_B a_as a_bs a_cs)
    (k : Nat) (hk : k < 4) (g : Nat → Int) (hg : g = mk_sig κ m (a_as k).toInt (a_bs k).toInt (a_cs k).toInt) (Z : Nat → Prop) (tn : Prop) (x4 : Int32) (ht : x4 = 0 ↔ tn)
    (f1 : ∀ i, i < m → ¬ Z i → g (2 * i + 1) = g (2 * i) ∧ g (2 * i + 2) = g (2 * i))
    (f2 : ∀ i, i < m → Z i → g (2 * i + 1) = 0 ∧ (¬ tn → g (2 * i + 2) = g (2 * i)) ∧ (tn → g (2 * i + 2) = -g (2 * i)))
    (f4 : ∀ i, i ≤ m → (g (2 * i)).natAbs = 1)
    (i : Nat) (hi : i ≤ m) (hp : post (ar_i (g (2 * i)))) :
    ∀ d j, j + d = m → ∀ S : Int, S * g (2 * i) = g (2 * m) * g (2 * j) →
      wY_signBetween_108 post (nI k) x4 (nI m) f_made f_depth a_as a_bs a_cs a_ps a_ss a_roots a_qs a_sorts a_ones a_twos a_stack a_truth (d + 1) (ar_i S) (nI j) := by
  intro d
  induction d with
  | zero =>
    intro j hj S hS
    have : j = m := by omega
    subst this
    refine br_t (nI_le (Nat.le_refl j) (by omega)) ?_
    have a1 := f4 i hi
    have a2 := f4 j (by omega)
    have : S = g (2 * i) := by
      have c1 : g (2 * i) = 1 ∨ g (2 * i) = -1 := by omega
      have c2 : g (2 * j) = 1 ∨ g (2 * j) = -1 := by omega
      rcases c1 with c1 | c1 <;> rcases c2 with c2 | c2 <;> rw [c1, c2] at hS <;> rw [c1] <;> omega
    rw [this]; exact hp
  | succ d ih =>
    intro j hj S hS
    refine br_f (nI_ge (by omega) (by omega)) ?_
    refine ys_at m hm κ hV hκ hB k hk j (by omega) ?_
    rw [← hg]
    have a2 := f4 j (by omega)
    have b1 : (g (2 * j + 1)).natAbs < 2 ^ 31 := by
      by_cases z : Z j
      · have := (f2 j (by omega) z).1
        omega
      · have := (f1 j (by omega) z).1
        omega
    refine ar_c (ar_i0 (a := g (2 * j + 1)) b1).2.2.1 (fun h => ?_) (fun h => ?_)
    · have z : Z j := Classical.byContradiction (fun z => by
        have := (f1 j (by omega) z).1
        omega)
      obtain ⟨z1, z2, z3⟩ := f2 j (by omega) z
      refine ar_c ht (fun t => nm_r (ar_i_neg S) (nm_r (nI_1 j) ?_)) (fun t => nm_r (nI_1 j) ?_)
      · refine ih (j + 1) (by omega) (-S) ?_
        rw [show 2 * (j + 1) = 2 * j + 2 by omega, z3 t, Int.neg_mul, Int.mul_neg, hS]
      · refine ih (j + 1) (by omega) S ?_
        rw [show 2 * (j + 1) = 2 * j + 2 by omega, z2 t, hS]
    · have z : ¬ Z j := fun z => h (f2 j (by omega) z).1
      refine nm_r (nI_1 j) (ih (j + 1) (by omega) S ?_)
      rw [show 2 * (j + 1) = 2 * j + 2 by omega, (f1 j (by omega) z).2, hS]
end
section
/-! the reference's sign between marks, its cells, and the counts of zeros -/
theorem yo_108z {post : Int32 → Prop} {f_made f_depth : Int32} {a_as a_bs a_cs : Nat → Int32} {a_ps a_ss a_roots a_qs : Nat → Int64} {a_sorts a_ones a_twos a_stack a_truth : Nat → Int32}
    (m : Nat) (hm : m ≤ 8) (κ : Nat → Int) (hV : ym_V a_ps a_ss a_roots a_qs m) (hκ : ∀ i, i < m → ym_k a_ps a_ss a_roots a_qs i = κ i) (hB : xz_B a_as a_bs a_cs)
    (k : Nat) (hk : k < 4) (hg : ∀ x, mk_sig κ m (a_as k).toInt (a_bs k).toInt (a_cs k).toInt x = 0) (hp : post (ar_i 0)) :
    ∀ d j, j + d = m →
      wY_signBetween_108 post (nI k) 0 (nI m) f_made f_depth a_as a_bs a_cs a_ps a_ss a_roots a_qs a_sorts a_ones a_twos a_stack a_truth (d + 1) (ar_i 0) (nI j) := by
  intro d
  induction d with
  | zero =>
    intro j hj
    have : j = m := by omega
    subst this
    exact br_t (nI_le (Nat.le_refl j) (by omega)) hp
  | succ d ih =>
    intro j hj
    refine br_f (nI_ge (by omega) (by omega)) ?_
    refine ys_at m hm κ hV hκ hB k hk j (by omega) ?_
    rw [hg]
    exact br_t rfl (br_t rfl (nm_r (ar_i_neg 0) (nm_r (nI_1 j) (ih (j + 1) (by omega)))))
theorem yo_between {post : Int32 → Prop} {f_made f_depth : Int32} {a_as a_bs a_cs : Nat → Int32} {a_ps a_ss a_roots a_qs : Nat → Int64} {a_sorts a_ones a_twos a_stack a_truth : Nat → Int32}
    (m : Nat) (hm : m ≤ 8) (κ : Nat → Int) (hS : mk_S κ m) (hz : ∀ k, k < 4 → ∀ z, xz_P a_as a_bs a_cs k z → ∃ i, i < m ∧ κ i = z)
    (hV : ym_V a_ps a_ss a_roots a_qs m) (hκ : ∀ i, i < m → ym_k a_ps a_ss a_roots a_qs i = κ i) (hB : xz_B a_as a_bs a_cs)
    (k : Nat) (hk : k < 4) (i : Nat) (hi : i ≤ m)
    (hp : post (ar_i (mk_sig κ m (a_as k).toInt (a_bs k).toInt (a_cs k).toInt (2 * i)))) :
    wpY_signBetween post (nI m, f_made, f_depth, a_as, a_bs, a_cs, a_ps, a_ss, a_roots, a_qs, a_sorts, a_ones, a_twos, a_stack, a_truth) (nI k) (nI i) := by
  have hin : vp_in (nI k) 4 := vp_in_nI hk (by decide)
  have cl : (nI k).toNatClampNeg = k := nI_clamp (by omega)
  have hBk := hB k hk
  obtain ⟨F0, F1, F2, F3, F4⟩ := mk_F (k := κ) (m := m) hS hBk (fun z hz' => hz k hk z hz')
  have hB' := hBk
  unfold mk_B at hB'
  have bb := ar_b (a := (a_bs k).toInt) (b := (a_bs k).toInt) hB'.2.1 hB'.2.1
  have bac := ar_b (a := 4 * (a_as k).toInt) (b := (a_cs k).toInt) (A := 120) (by omega) hB'.2.2
  have za : (a_as k = 0) ↔ (a_as k).toInt = 0 := by
    have := (ar_i0 (a := (a_as k).toInt) (by omega)).2.2.1
    rw [← ar_i_t] at this
    exact this
  have zb : (a_bs k = 0) ↔ (a_bs k).toInt = 0 := by
    have := (ar_i0 (a := (a_bs k).toInt) (by omega)).2.2.1
    rw [← ar_i_t] at this
    exact this
  have zD : ((a_bs k * a_bs k) = ((4 * a_as k) * a_cs k)) ↔ (a_bs k).toInt * (a_bs k).toInt - 4 * (a_as k).toInt * (a_cs k).toInt = 0 := by
    have e1 : a_bs k * a_bs k = ar_i ((a_bs k).toInt * (a_bs k).toInt) := by rw [← ar_i_mul, ← ar_i_t]
    have e2 : (4 * a_as k) * a_cs k = ar_i (4 * (a_as k).toInt * (a_cs k).toInt) := by rw [← ar_i_mul, ← ar_i_mul, ← ar_i_t, ← ar_i_t]; rfl
    rw [e1, e2, ar_ieq (by omega) (by omega)]
    omega
  have step : ∀ far : Int, far = mk_sig κ m (a_as k).toInt (a_bs k).toInt (a_cs k).toInt (2 * m) →
      wY_signBetween_57 post (nI k) (nI i) (ar_i far) (nI m) f_made f_depth a_as a_bs a_cs a_ps a_ss a_roots a_qs a_sorts a_ones a_twos a_stack a_truth := by
    intro far hfar
    unfold wY_signBetween_57
    rw [cl]
    refine ⟨hin, ?_⟩
    by_cases all0 : (a_as k).toInt = 0 ∧ (a_bs k).toInt = 0 ∧ (a_cs k).toInt = 0
    · have g0 : ∀ x, mk_sig κ m (a_as k).toInt (a_bs k).toInt (a_cs k).toInt x = 0 := by
        intro x
        unfold mk_sig
        rw [if_neg (by omega), if_neg (by omega), all0.2.2]; rfl
      refine br_t (za.mpr all0.1) ⟨m - i + 1, ?_⟩
      rw [hfar, g0]
      rw [g0] at hp
      exact yo_108z m hm κ hV hκ hB k hk g0 hp (m - i) i (by omega)
    · have f4 : ∀ j, j ≤ m → (mk_sig κ m (a_as k).toInt (a_bs k).toInt (a_cs k).toInt (2 * j)).natAbs = 1 := by
        intro j hj
        rcases F4 j hj with h | h
        · exact h
        · exact absurd h all0
      have main := fun (tn : Prop) (x4 : Int32) (ht : x4 = 0 ↔ tn) f2 =>
        ys_108 (post := post) (f_made := f_made) (f_depth := f_depth) (a_sorts := a_sorts) (a_ones := a_ones) (a_twos := a_twos) (a_stack := a_stack) (a_truth := a_truth) m hm κ hV hκ hB k hk _ rfl (fun i => mk_Z (a_as k).toInt (a_bs k).toInt (a_cs k).toInt (κ i)) tn x4 ht F2 f2 f4 i hi hp (m - i) i (by omega) far (by rw [hfar])
      refine ar_c za (fun h => ⟨_, main True 0 (by decide) ?_⟩) (fun h => ⟨hin, hin, hin, hin, ar_c zD (fun hD => ⟨_, main False 1 (by decide) ?_⟩) (fun hD => ⟨_, main True 0 (by decide) ?_⟩)⟩)
      · intro i hi z
        obtain ⟨z1, z2, z3⟩ := F3 i hi z
        exact ⟨z1, fun n => absurd trivial n, fun _ => z3 (fun n => n.1 h)⟩
      · intro i hi z
        obtain ⟨z1, z2, z3⟩ := F3 i hi z
        exact ⟨z1, fun _ => z2 h hD, fun n => n.elim⟩
      · intro i hi z
        obtain ⟨z1, z2, z3⟩ := F3 i hi z
        exact ⟨z1, fun n => absurd trivial n, fun _ => z3 (fun n => hD n.2)⟩
  unfold wpY_signBetween
  dsimp only
  rw [cl]
  refine ⟨hin, ar_c za (fun h => ⟨hin, ar_c zb (fun h2 => ⟨hin, ?_⟩) (fun h2 => ⟨hin, ?_⟩)⟩) (fun h => ⟨hin, ?_⟩)⟩
  · rw [ar_64]
    refine py_sgn _ (by omega) (step _ ?_)
    rw [F1, if_neg (by omega), if_neg (by omega)]
  · rw [ar_64]
    refine py_sgn _ (by omega) (step _ ?_)
    rw [F1, if_neg (by omega), if_pos h2]
  · rw [ar_64]
    refine py_sgn _ (by omega) (step _ ?_)
    rw [F1, if_pos h]
theorem yo_on {post : Int32 → Prop} {f_made f_depth : Int32} {a_as a_bs a_cs : Nat → Int32} {a_ps a_ss a_roots a_qs : Nat → Int64} {a_sorts a_ones a_twos a_stack a_truth : Nat → Int32}
    (m : Nat) (hm : m ≤ 8) (κ : Nat → Int) (hS : mk_S κ m) (hz : ∀ k, k < 4 → ∀ z, xz_P a_as a_bs a_cs k z → ∃ i, i < m ∧ κ i = z)
    (hV : ym_V a_ps a_ss a_roots a_qs m) (hκ : ∀ i, i < m → ym_k a_ps a_ss a_roots a_qs i = κ i) (hB : xz_B a_as a_bs a_cs)
    (k : Nat) (hk : k < 4) (c : Nat) (hc : c ≤ 2 * m)
    (hp : post (ar_i (mk_sig κ m (a_as k).toInt (a_bs k).toInt (a_cs k).toInt c))) :
    wpY_signOn post (nI m, f_made, f_depth, a_as, a_bs, a_cs, a_ps, a_ss, a_roots, a_qs, a_sorts, a_ones, a_twos, a_stack, a_truth) (nI k) (nI c) := by
  have e1 : nI c / 2 = nI (c / 2) := pk_div (d := 2) (by omega) (by decide) (by decide)
  have e2 : nI c - nI c / 2 * 2 = nI (c % 2) := pk_rem (d := 2) (by omega) (by decide) (by decide)
  unfold wpY_signOn
  dsimp only
  rw [e2, e1]
  refine ⟨by decide, ?_⟩
  by_cases h : c % 2 = 1
  · refine br_t (by rw [h]; decide) ⟨by decide, ?_⟩
    refine ys_at m hm κ hV hκ hB k hk (c / 2) (by omega) ?_
    rw [show 2 * (c / 2) + 1 = c by omega]; exact hp
  · refine br_f (by rw [show c % 2 = 0 by omega]; decide) ⟨by decide, ?_⟩
    refine yo_between m hm κ hS hz hV hκ hB k hk (c / 2) (by omega) ?_
    rw [show 2 * (c / 2) = c by omega]; exact hp
theorem yo_cell {post : Int32 → Prop} {f_made f_depth : Int32} {a_as a_bs a_cs : Nat → Int32} {a_ps a_ss a_roots a_qs : Nat → Int64} {a_sorts a_ones a_twos a_stack a_truth : Nat → Int32}
    (m : Nat) (hm : m ≤ 8) (κ : Nat → Int) (hS : mk_S κ m)
    (hV : ym_V a_ps a_ss a_roots a_qs m) (hκ : ∀ i, i < m → ym_k a_ps a_ss a_roots a_qs i = κ i)
    (P Q : Int) (v : sf_V P 0 0 Q) (hp : ∀ c, mk_at κ m (sg_ky P 0 0 Q) c → post (nI c)) :
    wpY_cellWith post (nI m, f_made, f_depth, a_as, a_bs, a_cs, a_ps, a_ss, a_roots, a_qs, a_sorts, a_ones, a_twos, a_stack, a_truth) (ar_i P) (ar_i Q) := by
  have vb := sf_V_b v
  have x1 : (ar_i P).toInt64 = ar_l P := ar_il (by omega)
  have x2 : (ar_i Q).toInt64 = ar_l Q := ar_il (by omega)
  have last : ∀ i, i ≤ m → (∀ l, l < i → κ l < sg_ky P 0 0 Q) → (i < m → sg_ky P 0 0 Q ≤ κ i) →
      wY_cellWith_30 post (ar_i P) (ar_i Q) (nI i) (nI m) f_made f_depth a_as a_bs a_cs a_ps a_ss a_roots a_qs a_sorts a_ones a_twos a_stack a_truth := by
    intro i hi lo up
    have e2 : (2 : Int32) * nI i = nI (2 * i) := pk_mul 2 i
    unfold wY_cellWith_30
    rw [e2, x1, x2, nI_1]
    rcases Nat.lt_or_ge i m with t | t
    · refine br_f (nI_ge t (by omega)) ?_
      refine py_cmp (S := 0) (D := 0) i (by omega) P Q v (hV i t) ?_
      rw [kk_cy v (hV i t)]
      have hk : sg_ky (a_ps i).toInt (a_ss i).toInt (a_roots i).toInt (a_qs i).toInt = κ i := hκ i t
      rw [hk]
      have s3 := sf_sg3 (sg_ky P 0 0 Q - κ i)
      have u := up t
      refine ar_c (ar_i0 (a := Int.sign (sg_ky P 0 0 Q - κ i)) (by omega)).2.2.1 (fun h => ?_) (fun h => ?_)
      · exact hp _ (Or.inl ⟨i, t, by omega, rfl⟩)
      · refine hp _ (Or.inr ⟨i, hi, rfl, lo, ?_⟩)
        intro l hl hl2
        rcases Nat.lt_or_ge i l with t2 | t2
        · have := hS i l t2 hl2
          omega
        · have : l = i := by omega
          subst this
          omega
    · refine br_t (nI_le t (by omega)) (hp _ (Or.inr ⟨i, hi, rfl, lo, ?_⟩))
      intro l hl hl2; omega
  have main : ∀ d i, i + d = m → (∀ l, l < i → κ l < sg_ky P 0 0 Q) →
      wY_cellWith_2 post (ar_i P) (ar_i Q) (nI m) f_made f_depth a_as a_bs a_cs a_ps a_ss a_roots a_qs a_sorts a_ones a_twos a_stack a_truth (d + 1) (nI i) := by
    intro d
    induction d with
    | zero =>
      intro i hi lo
      exact br_t (nI_le (by omega) (by omega)) (last i (by omega) lo (fun h => by omega))
    | succ d ih =>
      intro i hi lo
      have t : i < m := by omega
      refine br_f (nI_ge t (by omega)) ?_
      rw [x1, x2]
      refine py_cmp (S := 0) (D := 0) i (by omega) P Q v (hV i t) ?_
      rw [kk_cy v (hV i t)]
      have hk : sg_ky (a_ps i).toInt (a_ss i).toInt (a_roots i).toInt (a_qs i).toInt = κ i := hκ i t
      rw [hk]
      have s3 := sf_sg3 (sg_ky P 0 0 Q - κ i)
      refine ar_c (ar_i0 (a := Int.sign (sg_ky P 0 0 Q - κ i)) (by omega)).2.1 (fun h => last i (by omega) lo (fun _ => by omega)) (fun h => nm_r (nI_1 i) (ih (i + 1) (by omega) ?_))
      intro l hl
      rcases Nat.lt_or_ge l i with t2 | t2
      · exact lo l t2
      · have : l = i := by omega
        subst this
        omega
  exact ⟨_, main m 0 (by omega) (by intro l hl; omega)⟩
/-! counts -/
def ct_n (f : Nat → Bool) : Nat → Nat
  | 0 => 0
  | n + 1 => ct_n f n + (if f n = true then 1 else 0)
theorem ct_c {f g : Nat → Bool} : ∀ n, (∀ i, i < n → f i = g i) → ct_n f n = ct_n g n := by
  intro n
  induction n with
  | zero => intro _; rfl
  | succ n ih =>
    intro h
    show ct_n f n + _ = ct_n g n + _
    rw [ih (fun i hi => h i (by omega)), h n (by omega)]
theorem ct_le (f : Nat → Bool) : ∀ n, ct_n f n ≤ n := by
  intro n
  induction n with
  | zero => exact Nat.le_refl _
  | succ n ih =>
    show ct_n f n + _ ≤ n + 1
    split <;> omega
theorem ct_0 {f : Nat → Bool} : ∀ n, (∀ i, i < n → f i = false) → ct_n f n = 0 := by
  intro n
  induction n with
  | zero => intro _; rfl
  | succ n ih =>
    intro h
    show ct_n f n + _ = 0
    rw [ih (fun i hi => h i (by omega)), h n (by omega)]
    rfl
theorem ct_t {f : Nat → Bool} {n : Nat} (h : f n = true) : nI (ct_n f n) + 1 = nI (ct_n f (n + 1)) := by
  show _ = nI (ct_n f n + _)
  rw [if_pos h, nI_1]
theorem ct_f {f : Nat → Bool} {n : Nat} (h : f n = false) : ct_n f n = ct_n f (n + 1) := by
  show _ = ct_n f n + _
  rw [if_neg (by rw [h]; decide)]; rfl
theorem xo_zeros {post : Int32 → Prop} {f_made f_depth : Int32} {a_squareTerm a_linearTerm a_constantTerm a_markWhole a_markSide a_markUnder a_markBelow a_markZeros a_stepKind a_stepPolynomial a_stepSet a_heldCells : Nat → Int32}
    (m : Nat) (hm : m ≤ 8) (k : Nat) (hk : k < 4) (f : Nat → Bool) (hf : ∀ i, i < m → bt (a_markZeros i) k = f i) (hp : post (nI (ct_n f m))) :
    ∃ n, wX_zeros_15 post (nI k) (nI m) f_made f_depth a_squareTerm a_linearTerm a_constantTerm a_markWhole a_markSide a_markUnder a_markBelow a_markZeros a_stepKind a_stepPolynomial a_stepSet a_heldCells n 0 0 := by
  have main : ∀ d i, i + d = m → wX_zeros_15 post (nI k) (nI m) f_made f_depth a_squareTerm a_linearTerm a_constantTerm a_markWhole a_markSide a_markUnder a_markBelow a_markZeros a_stepKind a_stepPolynomial a_stepSet a_heldCells (d + 1) (nI (ct_n f i)) (nI i) := by
    intro d
    induction d with
    | zero =>
      intro i hi
      have : i = m := by omega
      subst this
      exact br_t (nI_le (Nat.le_refl i) (by omega)) hp
    | succ d ih =>
      intro i hi
      refine br_f (nI_ge (by omega) (by omega)) ?_
      refine xs_isz k i hk (by omega) (fun hb => ?_) (fun hb => ?_)
      · rw [hf i (by omega)] at hb
        exact br_f (by decide) (nm_r (ct_t hb) (nm_r (nI_1 i) (ih (i + 1) (by omega))))
      · rw [hf i (by omega)] at hb
        refine br_t rfl (nm_r (nI_1 i) ?_)
        rw [ct_f hb]
        exact ih (i + 1) (by omega)
  exact ⟨_, main m 0 (by omega)⟩
theorem yo_zeros {post : Int32 → SY → Prop} {f_made f_depth : Int32} {a_as a_bs a_cs : Nat → Int32} {a_ps a_ss a_roots a_qs : Nat → Int64} {a_sorts a_ones a_twos a_stack a_truth : Nat → Int32}
    (m : Nat) (hm : m ≤ 8) (κ : Nat → Int) (hV : ym_V a_ps a_ss a_roots a_qs m) (hκ : ∀ i, i < m → ym_k a_ps a_ss a_roots a_qs i = κ i) (hB : xz_B a_as a_bs a_cs)
    (k : Nat) (hk : k < 4) (f : Nat → Bool)
    (hb : ∀ i, i < m → (mk_sig κ m (a_as k).toInt (a_bs k).toInt (a_cs k).toInt (2 * i + 1)).natAbs ≤ 1)
    (hf : ∀ i, i < m → (mk_sig κ m (a_as k).toInt (a_bs k).toInt (a_cs k).toInt (2 * i + 1) = 0 ↔ f i = true))
    (hp : post (nI (ct_n f m)) (nI m, f_made, f_depth, a_as, a_bs, a_cs, a_ps, a_ss, a_roots, a_qs, a_sorts, a_ones, a_twos, a_stack, a_truth)) :
    ∃ n, wY_zeros_40 post (nI k) (nI m) f_made f_depth a_as a_bs a_cs a_ps a_ss a_roots a_qs a_sorts a_ones a_twos a_stack a_truth n 0 0 := by
  have main : ∀ d i, i + d = m → wY_zeros_40 post (nI k) (nI m) f_made f_depth a_as a_bs a_cs a_ps a_ss a_roots a_qs a_sorts a_ones a_twos a_stack a_truth (d + 1) (nI (ct_n f i)) (nI i) := by
    intro d
    induction d with
    | zero =>
      intro i hi
      have : i = m := by omega
      subst this
      exact br_t (nI_le (Nat.le_refl i) (by omega)) hp
    | succ d ih =>
      intro i hi
      refine br_f (nI_ge (by omega) (by omega)) ?_
      refine ys_at m hm κ hV hκ hB k hk i (by omega) ?_
      have b := hb i (by omega)
      refine ar_c (ar_i0 (by omega)).2.2.1 (fun h => ?_) (fun h => ?_)
      · exact nm_r (ct_t ((hf i (by omega)).mp h)) (nm_r (nI_1 i) (ih (i + 1) (by omega)))
      · have : f i = false := by
          rw [hf i (by omega)] at h
          simpa using h
        refine nm_r (nI_1 i) ?_
        rw [ct_f this]
        exact ih (i + 1) (by omega)
  exact ⟨_, main m 0 (by omega)⟩
end
section
/-! the formulas as steps, and what they say -/
def st_1 (dp : Nat → Nat) (sx : Nat → Nat → Nat) (sk sp st so on tw : Nat → Int32) (i : Nat) : Prop :=
  (sk i = 0 ∧ so i = 0 ∧ dp (i + 1) = dp i + 1 ∧ (∀ p, p < dp i → sx (i + 1) p = sx i p) ∧ sx (i + 1) (dp i) = i ∧ (∃ k, k < 4 ∧ sp i = nI k ∧ on i = nI k) ∧ tw i = st i) ∨
  (sk i = 1 ∧ so i = 1 ∧ 1 ≤ dp i ∧ dp (i + 1) = dp i ∧ (∀ p, p < dp i - 1 → sx (i + 1) p = sx i p) ∧ sx (i + 1) (dp i - 1) = i ∧ on i = nI (sx i (dp i - 1))) ∨
  ((sk i = 2 ∨ sk i = 3) ∧ so i = sk i ∧ 2 ≤ dp i ∧ dp (i + 1) = dp i - 1 ∧ (∀ p, p < dp i - 2 → sx (i + 1) p = sx i p) ∧ sx (i + 1) (dp i - 2) = i ∧ on i = nI (sx i (dp i - 2)) ∧ tw i = nI (sx i (dp i - 1)))
def st_R (M : Nat) (dp : Nat → Nat) (sx : Nat → Nat → Nat) (sk sp st so on tw : Nat → Int32) : Prop :=
  dp 0 = 0 ∧ ∀ i, i < M → st_1 dp sx sk sp st so on tw i
theorem st_lt {M : Nat} {dp : Nat → Nat} {sx : Nat → Nat → Nat} {sk sp st so on tw : Nat → Int32} (R : st_R M dp sx sk sp st so on tw) :
    ∀ i, i ≤ M → dp i ≤ i ∧ ∀ p, p < dp i → sx i p < i := by
  intro i
  induction i with
  | zero =>
    intro _
    have := R.1
    exact ⟨by omega, fun p hp => by omega⟩
  | succ i ih =>
    intro hi
    obtain ⟨h1, h2⟩ := ih (by omega)
    rcases R.2 i (by omega) with ⟨_, _, d, lo, tp, _⟩ | ⟨_, _, g, d, lo, tp, _⟩ | ⟨_, _, g, d, lo, tp, _⟩
    · refine ⟨by omega, fun p hp => ?_⟩
      rcases Nat.lt_or_ge p (dp i) with t | t
      · rw [lo p t]; have := h2 p t; omega
      · rw [show p = dp i by omega, tp]; omega
    · refine ⟨by omega, fun p hp => ?_⟩
      rcases Nat.lt_or_ge p (dp i - 1) with t | t
      · rw [lo p t]; have := h2 p (by omega); omega
      · rw [show p = dp i - 1 by omega, tp]; omega
    · refine ⟨by omega, fun p hp => ?_⟩
      rcases Nat.lt_or_ge p (dp i - 2) with t | t
      · rw [lo p t]; have := h2 p (by omega); omega
      · rw [show p = dp i - 2 by omega, tp]; omega
def st_v (sk : Nat → Int32) (dp : Nat → Nat) (sx : Nat → Nat → Nat) (W : Nat → Bool) (t : Nat → Bool) (i : Nat) : Bool :=
  if sk i = 0 then W i else if sk i = 1 then !(t (sx i (dp i - 1))) else if sk i = 2 then (t (sx i (dp i - 2)) && t (sx i (dp i - 1))) else (t (sx i (dp i - 2)) || t (sx i (dp i - 1)))
def st_tt (sk : Nat → Int32) (dp : Nat → Nat) (sx : Nat → Nat → Nat) (W : Nat → Bool) : Nat → Nat → Bool
  | 0 => fun _ => false
  | n + 1 => fun j => if j = n then st_v sk dp sx W (st_tt sk dp sx W n) n else st_tt sk dp sx W n j
def st_T (sk : Nat → Int32) (dp : Nat → Nat) (sx : Nat → Nat → Nat) (W : Nat → Bool) (j : Nat) : Bool := st_tt sk dp sx W (j + 1) j
theorem st_T_st {sk : Nat → Int32} {dp : Nat → Nat} {sx : Nat → Nat → Nat} {W : Nat → Bool} {j : Nat} : ∀ n, j < n → st_tt sk dp sx W n j = st_T sk dp sx W j := by
  intro n
  induction n with
  | zero => intro h; omega
  | succ n ih =>
    intro h
    by_cases e : j = n
    · subst e; rfl
    · show (if j = n then _ else st_tt sk dp sx W n j) = _
      rw [if_neg e]
      exact ih (by omega)
theorem st_T_v {sk : Nat → Int32} {dp : Nat → Nat} {sx : Nat → Nat → Nat} {W : Nat → Bool} {i : Nat} : st_T sk dp sx W i = st_v sk dp sx W (st_tt sk dp sx W i) i := if_pos rfl
theorem st_T0 {sk : Nat → Int32} {dp : Nat → Nat} {sx : Nat → Nat → Nat} {W : Nat → Bool} {i : Nat} (h : sk i = 0) : st_T sk dp sx W i = W i := by
  rw [st_T_v]
  unfold st_v
  rw [if_pos h]
theorem st_T1 {sk : Nat → Int32} {dp : Nat → Nat} {sx : Nat → Nat → Nat} {W : Nat → Bool} {i : Nat} (h : sk i = 1) (h1 : sx i (dp i - 1) < i) :
    st_T sk dp sx W i = !(st_T sk dp sx W (sx i (dp i - 1))) := by
  rw [st_T_v]
  unfold st_v
  rw [if_neg (by rw [h]; decide), if_pos h, st_T_st i h1]
theorem st_T2 {sk : Nat → Int32} {dp : Nat → Nat} {sx : Nat → Nat → Nat} {W : Nat → Bool} {i : Nat} (h : sk i = 2) (h1 : sx i (dp i - 1) < i) (h2 : sx i (dp i - 2) < i) :
    st_T sk dp sx W i = (st_T sk dp sx W (sx i (dp i - 2)) && st_T sk dp sx W (sx i (dp i - 1))) := by
  rw [st_T_v]
  unfold st_v
  rw [if_neg (by rw [h]; decide), if_neg (by rw [h]; decide), if_pos h, st_T_st i h1, st_T_st i h2]
theorem st_T3 {sk : Nat → Int32} {dp : Nat → Nat} {sx : Nat → Nat → Nat} {W : Nat → Bool} {i : Nat} (h : sk i = 3) (h1 : sx i (dp i - 1) < i) (h2 : sx i (dp i - 2) < i) :
    st_T sk dp sx W i = (st_T sk dp sx W (sx i (dp i - 2)) || st_T sk dp sx W (sx i (dp i - 1))) := by
  rw [st_T_v]
  unfold st_v
  rw [if_neg (by rw [h]; decide), if_neg (by rw [h]; decide), if_neg (by rw [h]; decide), st_T_st i h1, st_T_st i h2]
theorem mk_cs_b (k : Nat → Int) (m c : Nat) (z : Int) : (mk_cs k m c z).natAbs ≤ 1 := by
  unfold mk_cs
  split
  · exact ar_sg _
  · split <;> decide
theorem mk_sig_b (k : Nat → Int) (m : Nat) (a b c : Int) (x : Nat) : (mk_sig k m a b c x).natAbs ≤ 1 := by
  unfold mk_sig
  split
  · split
    · exact ar_b (A := 1) (B := 1) (ar_sg a) (ar_b (A := 1) (B := 1) (mk_cs_b _ _ _ _) (mk_cs_b _ _ _ _))
    · exact ar_sg a
  · split
    · exact ar_b (A := 1) (B := 1) (ar_sg b) (mk_cs_b _ _ _ _)
    · exact ar_sg c
/-- the bit of the sign s + 1 -/
def st_b (s : Int) : Nat := (s + 1).toNat
theorem st_b1 {s : Int} (h : s.natAbs ≤ 1) : ar_i s + 1 = nI (st_b s) ∧ st_b s < 3 := by
  unfold st_b
  refine ⟨?_, by omega⟩
  rw [ar_n]
  have : ((s + 1).toNat : Int) = s + 1 := by omega
  rw [this]
  exact ar_i_add s 1
/-- is the condition of step i true on cell c -/
noncomputable def st_W (κ : Nat → Int) (m : Nat) (sq li co sp st : Nat → Int32) (c i : Nat) : Bool :=
  bt (st i) (st_b (mk_sig κ m (sq (sp i).toNatClampNeg).toInt (li (sp i).toNatClampNeg).toInt (co (sp i).toNatClampNeg).toInt c))
theorem bi_sh (b : Bool) (k : Nat) (hk : k < 32) (i : Nat) (hi : i < 32) : bt (bi_n b <<< (nI k &&& 31)) i = (decide (i = k) && b) := by
  cases b
  · have : bi_n false = 0 := rfl
    rw [this, b_shl k hk 0 hi, b_0]
    simp
  · have : bi_n true = 1 := rfl
    rw [this, bi_pow k hk i hi]
    simp
theorem sx_cells {post : Int32 → Prop} {f_made f_depth : Int32} {a_squareTerm a_linearTerm a_constantTerm a_markWhole a_markSide a_markUnder a_markBelow a_markZeros a_stepKind a_stepPolynomial a_stepSet a_heldCells : Nat → Int32}
    (m : Nat) (hm : m ≤ 8) (hM : xm_M (xz_P a_squareTerm a_linearTerm a_constantTerm) m a_markWhole a_markSide a_markUnder a_markBelow a_markZeros) (hB : xz_B a_squareTerm a_linearTerm a_constantTerm)
    (k : Nat) (hk : k < 4) (s : Int32)
    (hp : ∀ w, (∀ j, j < 32 → bt w j = (decide (j < 2 * m + 1) && bt s (st_b (mk_sig (xm_k a_markWhole a_markSide a_markUnder a_markBelow) m (a_squareTerm k).toInt (a_linearTerm k).toInt (a_constantTerm k).toInt j)))) → post w) :
    wpX_cellsWith post (nI m, f_made, f_depth, a_squareTerm, a_linearTerm, a_constantTerm, a_markWhole, a_markSide, a_markUnder, a_markBelow, a_markZeros, a_stepKind, a_stepPolynomial, a_stepSet, a_heldCells) (nI k) s := by
  have main : ∀ d i, i + d = 2 * m + 1 → ∀ w, (∀ j, j < 32 → bt w j = (decide (j < i) && bt s (st_b (mk_sig (xm_k a_markWhole a_markSide a_markUnder a_markBelow) m (a_squareTerm k).toInt (a_linearTerm k).toInt (a_constantTerm k).toInt j)))) →
      wX_cellsWith_5 post (nI k) s (nI m) f_made f_depth a_squareTerm a_linearTerm a_constantTerm a_markWhole a_markSide a_markUnder a_markBelow a_markZeros a_stepKind a_stepPolynomial a_stepSet a_heldCells (d + 1) w (nI i) := by
    have e2 : (2 : Int32) * nI m = nI (2 * m) := pk_mul 2 m
    intro d
    induction d with
    | zero =>
      intro i hi w hw
      have : i = 2 * m + 1 := by omega
      subst this
      refine br_t ?_ (hp w hw)
      rw [e2]; exact nI_lt (by omega) (by omega)
    | succ d ih =>
      intro i hi w hw
      refine br_f (by rw [e2]; exact nI_nlt (by omega) (by omega)) ?_
      refine xs_on m hm hM hB k hk i (by omega) ?_
      have sb := mk_sig_b (xm_k a_markWhole a_markSide a_markUnder a_markBelow) m (a_squareTerm k).toInt (a_linearTerm k).toInt (a_constantTerm k).toInt i
      obtain ⟨b1, b2⟩ := st_b1 sb
      refine nm_r b1 ?_
      rw [bi_one s _ (by omega)]
      refine nm_e (nm_r (nI_1 i) (ih (i + 1) (by omega) _ ?_))
      intro j hj
      rw [b_or, hw j hj, bi_sh _ i (by omega) j hj]
      by_cases e : j = i
      · subst e
        simp
      · by_cases l : j < i
        · simp [l, e, show j < i + 1 by omega]
        · simp [l, e, show ¬ j < i + 1 by omega]
  refine ⟨_, main (2 * m + 1) 0 (by omega) 0 ?_⟩
  intro j hj
  rw [b_0]
  simp
theorem sx_all : ∀ m, m < 9 → ∀ j, j < 32 → bt (((1 : Int32) <<< (((2 * nI m) + 1) &&& 31)) - 1) j = decide (j < 2 * m + 1) := by decide +kernel
/-- the cells of the formulas on the stack after i steps -/
def sx_H (m : Nat) (T : Nat → Nat → Bool) (n : Nat) (g : Nat → Nat) (hc : Nat → Int32) : Prop :=
  ∀ p, p < n → ∀ j, j < 32 → bt (hc p) j = (decide (j < 2 * m + 1) && T j (g p))
theorem sx_steps {post : SX → Prop} {f_depth : Int32} {a_squareTerm a_linearTerm a_constantTerm a_markWhole a_markSide a_markUnder a_markBelow a_markZeros a_stepKind a_stepPolynomial a_stepSet a_heldCells so on tw : Nat → Int32}
    (m : Nat) (hm : m ≤ 8) (hM : xm_M (xz_P a_squareTerm a_linearTerm a_constantTerm) m a_markWhole a_markSide a_markUnder a_markBelow a_markZeros) (hB : xz_B a_squareTerm a_linearTerm a_constantTerm)
    (M : Nat) (hM16 : M ≤ 16) (dp : Nat → Nat) (sx : Nat → Nat → Nat) (R : st_R M dp sx a_stepKind a_stepPolynomial a_stepSet so on tw) (T : Nat → Nat → Bool)
    (hT : ∀ c i, T c i = st_T a_stepKind dp sx (st_W (xm_k a_markWhole a_markSide a_markUnder a_markBelow) m a_squareTerm a_linearTerm a_constantTerm a_stepPolynomial a_stepSet c) i)
    (hp : ∀ hc, sx_H m T (dp M) (sx M) hc → post (nI m, nI M, f_depth, a_squareTerm, a_linearTerm, a_constantTerm, a_markWhole, a_markSide, a_markUnder, a_markBelow, a_markZeros, a_stepKind, a_stepPolynomial, a_stepSet, hc)) :
    wpX_takeSteps post (nI m, nI M, f_depth, a_squareTerm, a_linearTerm, a_constantTerm, a_markWhole, a_markSide, a_markUnder, a_markBelow, a_markZeros, a_stepKind, a_stepPolynomial, a_stepSet, a_heldCells) := by
  have lt := st_lt R
  have main : ∀ d i, i + d = M → ∀ hc, sx_H m T (dp i) (sx i) hc →
      wX_takeSteps_4 post (nI m) (nI M) f_depth (d + 1) (nI (dp i)) (nI i) a_squareTerm a_linearTerm a_constantTerm a_markWhole a_markSide a_markUnder a_markBelow a_markZeros a_stepKind a_stepPolynomial a_stepSet hc := by
    intro d
    induction d with
    | zero =>
      intro i hi hc hH
      have : i = M := by omega
      subst this
      exact br_t (nI_le (Nat.le_refl i) (by omega)) (hp hc hH)
    | succ d ih =>
      intro i hi hc hH
      have iM : i < M := by omega
      obtain ⟨l1, l2⟩ := lt i (by omega)
      have hin : vp_in (nI i) 16 := vp_in_nI (by omega) (by decide)
      have cl : (nI i).toNatClampNeg = i := nI_clamp (by omega)
      refine br_f (nI_ge iM (by omega)) ⟨hin, nm_e ?_⟩
      rw [cl]
      rcases R.2 i iM with ⟨k0, _, d', lo, tp, ⟨k, hk, ek, _⟩, _⟩ | ⟨k1, _, g, d', lo, tp, _⟩ | ⟨k2, _, g, d', lo, tp, _⟩
      · refine br_t k0 ⟨hin, hin, ?_⟩
        rw [ek]
        refine sx_cells m hm hM hB k hk (a_stepSet i) ?_
        intro w hw
        have hi1 : vp_in (nI (dp i)) 16 := vp_in_nI (by omega) (by decide)
        have cl1 : (nI (dp i)).toNatClampNeg = dp i := nI_clamp (by omega)
        rw [cl1]
        refine ⟨hi1, nm_e (nm_r (e' := nI (dp (i + 1))) (by rw [d', nI_1]) (nm_r (nI_1 i) (ih (i + 1) (by omega) _ ?_)))⟩
        intro p hp' j hj
        rcases Nat.lt_or_ge p (dp i) with t | t
        · rw [pk_un (by omega), lo p t]; exact hH p t j hj
        · have : p = dp i := by omega
          subst this
          rw [pk_us, tp, hw j hj, hT j i, st_T0 k0]
          unfold st_W
          rw [ek, nI_clamp (by omega)]
      · refine br_f (by rw [k1]; decide) (br_t k1 ?_)
        have pr : nI (dp i) - 1 = nI (dp i - 1) := by
          obtain ⟨q, hq⟩ : ∃ q, dp i = q + 1 := ⟨dp i - 1, by omega⟩
          rw [hq, nI_pred]; rfl
        have hi1 : vp_in (nI (dp i - 1)) 16 := vp_in_nI (by omega) (by decide)
        have cl1 : (nI (dp i - 1)).toNatClampNeg = dp i - 1 := nI_clamp (by omega)
        have nx : ∀ hc', sx_H m T (dp (i + 1)) (sx (i + 1)) hc' → wX_takeSteps_4 post (nI m) (nI M) f_depth (d + 1) (nI (dp i)) (nI (i + 1)) a_squareTerm a_linearTerm a_constantTerm a_markWhole a_markSide a_markUnder a_markBelow a_markZeros a_stepKind a_stepPolynomial a_stepSet hc' := by
          intro hc' h
          have := ih (i + 1) (by omega) hc' h
          rw [d'] at this
          exact this
        unfold wpX_allCells
        dsimp only
        rw [pr, cl1]
        refine ⟨hi1, hi1, nm_e (nm_r (nI_1 i) (nx _ ?_))⟩
        intro p hp' j hj
        rcases Nat.lt_or_ge p (dp i - 1) with t | t
        · rw [pk_un (by omega), lo p t]; exact hH p (by omega) j hj
        · have : p = dp i - 1 := by omega
          subst this
          rw [pk_us, tp, b_and, b_xor, b_m1 j hj, sx_all m (by omega) j hj, hH _ (by omega) j hj, hT j i, st_T1 k1 (l2 _ (by omega)), ← hT]
          by_cases z : j < 2 * m + 1 <;> simp [z]
      · have pr : nI (dp i) + (-1) = nI (dp i - 1) := by
          obtain ⟨q, hq⟩ : ∃ q, dp i = q + 1 := ⟨dp i - 1, by omega⟩
          rw [hq, pk_m1]; rfl
        have pr2 : nI (dp i - 1) - 1 = nI (dp i - 2) := by
          obtain ⟨q, hq⟩ : ∃ q, dp i = q + 2 := ⟨dp i - 2, by omega⟩
          rw [hq, show q + 2 - 1 = q + 1 by omega, nI_pred]; rfl
        have hi1 : vp_in (nI (dp i - 1)) 16 := vp_in_nI (by omega) (by decide)
        have cl1 : (nI (dp i - 1)).toNatClampNeg = dp i - 1 := nI_clamp (by omega)
        have hi2 : vp_in (nI (dp i - 2)) 16 := vp_in_nI (by omega) (by decide)
        have cl2 : (nI (dp i - 2)).toNatClampNeg = dp i - 2 := nI_clamp (by omega)
        have n1 := l2 (dp i - 1) (by omega)
        have n2 := l2 (dp i - 2) (by omega)
        have nx : ∀ hc', sx_H m T (dp (i + 1)) (sx (i + 1)) hc' → wX_takeSteps_4 post (nI m) (nI M) f_depth (d + 1) (nI (dp i - 1)) (nI (i + 1)) a_squareTerm a_linearTerm a_constantTerm a_markWhole a_markSide a_markUnder a_markBelow a_markZeros a_stepKind a_stepPolynomial a_stepSet hc' := by
          intro hc' h
          have := ih (i + 1) (by omega) hc' h
          rw [d'] at this
          exact this
        rcases k2 with k2 | k2
        · refine br_f (by rw [k2]; decide) (br_f (by rw [k2]; decide) (br_t k2 (nm_r pr ?_)))
          rw [pr2, cl1, cl2]
          refine ⟨hi2, hi1, hi2, nm_e (nm_r (nI_1 i) (nx _ ?_))⟩
          intro p hp' j hj
          rcases Nat.lt_or_ge p (dp i - 2) with t | t
          · rw [pk_un (by omega), lo p t]; exact hH p (by omega) j hj
          · have : p = dp i - 2 := by omega
            subst this
            rw [pk_us, tp, b_and, hH _ (by omega) j hj, hH _ (by omega) j hj, hT j i, st_T2 k2 n1 n2, ← hT, ← hT]
            by_cases z : j < 2 * m + 1 <;> simp [z]
        · refine br_f (by rw [k2]; decide) (br_f (by rw [k2]; decide) (br_f (by rw [k2]; decide) (nm_r pr ?_)))
          rw [pr2, cl1, cl2]
          refine ⟨hi2, hi1, hi2, nm_e (nm_r (nI_1 i) (nx _ ?_))⟩
          intro p hp' j hj
          rcases Nat.lt_or_ge p (dp i - 2) with t | t
          · rw [pk_un (by omega), lo p t]; exact hH p (by omega) j hj
          · have : p = dp i - 2 := by omega
            subst this
            rw [pk_us, tp, b_or, hH _ (by omega) j hj, hH _ (by omega) j hj, hT j i, st_T3 k2 n1 n2, ← hT, ← hT]
            by_cases z : j < 2 * m + 1 <;> simp [z]
  have z := R.1
  have := main M 0 (by omega) a_heldCells (fun p hp' => by omega)
  rw [z] at this
  exact ⟨_, this⟩
end
section
/-! the reference judges the formulas on a cell -/
theorem yj_n0 : vp_nar .boolean 0 = bi_n false := by decide
theorem yj_n1 : vp_nar .boolean 1 = bi_n true := by decide
theorem yj_nn (b : Bool) : narrow .boolean (.int (bi_n b)) = .int (bi_n b) := by cases b <;> rfl
theorem yj_judge {post : SY → Prop} {f_depth : Int32} {a_as a_bs a_cs : Nat → Int32} {a_ps a_ss a_roots a_qs : Nat → Int64} {a_sorts a_ones a_twos a_stack a_truth sk sp st : Nat → Int32}
    (m : Nat) (hm : m ≤ 8) (κ : Nat → Int) (hS : mk_S κ m) (hz : ∀ k, k < 4 → ∀ z, xz_P a_as a_bs a_cs k z → ∃ i, i < m ∧ κ i = z)
    (hV : ym_V a_ps a_ss a_roots a_qs m) (hκ : ∀ i, i < m → ym_k a_ps a_ss a_roots a_qs i = κ i) (hB : xz_B a_as a_bs a_cs)
    (M : Nat) (hM16 : M ≤ 16) (dp : Nat → Nat) (sx : Nat → Nat → Nat) (R : st_R M dp sx sk sp st a_sorts a_ones a_twos) (T : Nat → Nat → Bool)
    (hT : ∀ c i, T c i = st_T sk dp sx (st_W κ m a_as a_bs a_cs sp st c) i)
    (c : Nat) (hc : c ≤ 2 * m)
    (hp : ∀ tr, (∀ f, f < M → tr f = bi_n (T c f)) → post (nI m, nI M, f_depth, a_as, a_bs, a_cs, a_ps, a_ss, a_roots, a_qs, a_sorts, a_ones, a_twos, a_stack, tr)) :
    wpY_judge post (nI m, nI M, f_depth, a_as, a_bs, a_cs, a_ps, a_ss, a_roots, a_qs, a_sorts, a_ones, a_twos, a_stack, a_truth) (nI c) := by
  have lt := st_lt R
  have main : ∀ d i, i + d = M → ∀ tr, (∀ f, f < i → tr f = bi_n (T c f)) →
      wY_judge_2 post (nI c) (nI m) (nI M) f_depth (d + 1) (nI i) a_as a_bs a_cs a_ps a_ss a_roots a_qs a_sorts a_ones a_twos a_stack tr := by
    intro d
    induction d with
    | zero =>
      intro i hi tr htr
      have : i = M := by omega
      subst this
      exact br_t (nI_le (Nat.le_refl i) (by omega)) (hp tr htr)
    | succ d ih =>
      intro i hi tr htr
      have iM : i < M := by omega
      obtain ⟨l1, l2⟩ := lt i (by omega)
      have hin : vp_in (nI i) 16 := vp_in_nI (by omega) (by decide)
      have cl : (nI i).toNatClampNeg = i := nI_clamp (by omega)
      have put : ∀ b : Bool, T c i = b → ∀ tr', tr' = upd tr i (bi_n b) → wY_judge_2 post (nI c) (nI m) (nI M) f_depth (d + 1) (nI (i + 1)) a_as a_bs a_cs a_ps a_ss a_roots a_qs a_sorts a_ones a_twos a_stack tr' := by
        intro b hb tr' e
        subst e
        refine ih (i + 1) (by omega) _ ?_
        intro f hf
        by_cases z : f = i
        · subst z
          rw [pk_us, hb]
        · rw [pk_un z]; exact htr f (by omega)
      have w1 : T c i = true → ∀ tr', tr' = upd tr i (vp_nar .boolean 1) → ∀ x, x = nI i + 1 → wY_judge_2 post (nI c) (nI m) (nI M) f_depth (d + 1) x a_as a_bs a_cs a_ps a_ss a_roots a_qs a_sorts a_ones a_twos a_stack tr' := by
        intro h tr' e x ex
        rw [ex, nI_1]
        exact put true h tr' (by rw [e, yj_n1])
      have w0 : T c i = false → ∀ tr', tr' = upd tr i (vp_nar .boolean 0) → ∀ x, x = nI i + 1 → wY_judge_2 post (nI c) (nI m) (nI M) f_depth (d + 1) x a_as a_bs a_cs a_ps a_ss a_roots a_qs a_sorts a_ones a_twos a_stack tr' := by
        intro h tr' e x ex
        rw [ex, nI_1]
        exact put false h tr' (by rw [e, yj_n0])
      refine br_f (nI_ge iM (by omega)) ⟨hin, ?_⟩
      rw [cl]
      rcases R.2 i iM with ⟨k0, s0, d', lo, tp, ⟨k, hk, ek, eo⟩, et⟩ | ⟨k1, s1, g, d', lo, tp, eo⟩ | ⟨k2, s2, g, d', lo, tp, eo, et⟩
      · refine br_t s0 ⟨hin, ?_⟩
        rw [eo]
        refine yo_on m hm κ hS hz hV hκ hB k hk c hc ?_
        have sb := mk_sig_b κ m (a_as k).toInt (a_bs k).toInt (a_cs k).toInt c
        obtain ⟨b1, b2⟩ := st_b1 sb
        have ht := hT c i
        rw [st_T0 k0] at ht
        unfold st_W at ht
        rw [ek, nI_clamp (by omega)] at ht
        rw [b1, bi_one _ _ (by omega), et, ← ht]
        refine ⟨hin, ar_c (bi_eq1 _) (fun h => ⟨hin, w1 h⟩) (fun h => ⟨hin, w0 (by simpa using h)⟩)⟩
      · have n1 := l2 (dp i - 1) (by omega)
        have ht := hT c i
        rw [st_T1 k1 n1, ← hT] at ht
        have hi1 : vp_in (nI (sx i (dp i - 1))) 16 := vp_in_nI (by omega) (by decide)
        have cl1 : (nI (sx i (dp i - 1))).toNatClampNeg = sx i (dp i - 1) := nI_clamp (by omega)
        refine br_f (by rw [s1]; decide) ⟨hin, br_t s1 ⟨hin, ?_⟩⟩
        rw [eo, cl1, htr _ n1]
        refine ⟨hi1, ar_c (bi_eq0 _) (fun h => ⟨hin, w1 (by rw [ht, h]; rfl)⟩) (fun h => ⟨hin, w0 ?_⟩)⟩
        rw [ht]
        simpa using h
      · have n1 := l2 (dp i - 1) (by omega)
        have n2 := l2 (dp i - 2) (by omega)
        have hi1 : vp_in (nI (sx i (dp i - 1))) 16 := vp_in_nI (by omega) (by decide)
        have cl1 : (nI (sx i (dp i - 1))).toNatClampNeg = sx i (dp i - 1) := nI_clamp (by omega)
        have hi2 : vp_in (nI (sx i (dp i - 2))) 16 := vp_in_nI (by omega) (by decide)
        have cl2 : (nI (sx i (dp i - 2))).toNatClampNeg = sx i (dp i - 2) := nI_clamp (by omega)
        have ht := hT c i
        rw [eo, et, cl1, cl2, htr _ n1, htr _ n2, s2]
        rcases k2 with k2 | k2
        · rw [st_T2 k2 n1 n2, ← hT, ← hT] at ht
          refine br_f (by rw [k2]; decide) ⟨hin, br_f (by rw [k2]; decide) ⟨hin, br_t k2 ⟨hin, hi2, ?_⟩⟩⟩
          refine ar_c (bi_eq0 _) (fun h => ⟨hin, w0 (by rw [ht, h]; rfl)⟩) (fun h => ⟨hin, hi1, ?_⟩)
          refine ar_c (bi_eq0 _) (fun h' => ⟨hin, w0 (by rw [ht, h']; simp)⟩) (fun h' => ⟨hin, w1 ?_⟩)
          rw [ht]
          simp at h h' ⊢
          exact ⟨h, h'⟩
        · rw [st_T3 k2 n1 n2, ← hT, ← hT] at ht
          refine br_f (by rw [k2]; decide) ⟨hin, br_f (by rw [k2]; decide) ⟨hin, br_f (by rw [k2]; decide) ⟨hin, hi2, ?_⟩⟩⟩
          refine ar_c (bi_eq0 _) (fun h => ⟨hin, hi1, ?_⟩) (fun h => ⟨hin, w1 ?_⟩)
          · refine ar_c (bi_eq0 _) (fun h' => ⟨hin, w0 (by rw [ht, h, h']; rfl)⟩) (fun h' => ⟨hin, w1 ?_⟩)
            rw [ht]
            simp at h' ⊢
            exact Or.inr h'
          · rw [ht]
            simp at h ⊢
            exact Or.inl h
  exact ⟨_, main M 0 (by omega) a_truth (fun f hf => by omega)⟩
theorem yj_true {post : Int32 → SY → Prop} {a_as a_bs a_cs : Nat → Int32} {a_ps a_ss a_roots a_qs : Nat → Int64} {a_sorts a_ones a_twos a_stack a_truth sk sp st : Nat → Int32}
    (m : Nat) (hm : m ≤ 8) (κ : Nat → Int) (hS : mk_S κ m) (hz : ∀ k, k < 4 → ∀ z, xz_P a_as a_bs a_cs k z → ∃ i, i < m ∧ κ i = z)
    (hV : ym_V a_ps a_ss a_roots a_qs m) (hκ : ∀ i, i < m → ym_k a_ps a_ss a_roots a_qs i = κ i) (hB : xz_B a_as a_bs a_cs)
    (M : Nat) (hM16 : M ≤ 16) (dp : Nat → Nat) (sx : Nat → Nat → Nat) (R : st_R M dp sx sk sp st a_sorts a_ones a_twos) (T : Nat → Nat → Bool)
    (hT : ∀ c i, T c i = st_T sk dp sx (st_W κ m a_as a_bs a_cs sp st c) i) (hst : ∀ p, p < dp M → a_stack p = nI (sx M p))
    (b : Nat) (hb : b < dp M) (c : Nat) (hc : c ≤ 2 * m)
    (hp : ∀ tr, post (bi_n (T c (sx M (dp M - 1 - b)))) (nI m, nI M, nI (dp M), a_as, a_bs, a_cs, a_ps, a_ss, a_roots, a_qs, a_sorts, a_ones, a_twos, a_stack, tr)) :
    wpY_isTrue post (nI m, nI M, nI (dp M), a_as, a_bs, a_cs, a_ps, a_ss, a_roots, a_qs, a_sorts, a_ones, a_twos, a_stack, a_truth) (nI b) (nI c) := by
  obtain ⟨l1, l2⟩ := st_lt R M (Nat.le_refl M)
  unfold wpY_isTrue
  dsimp only
  refine yj_judge m hm κ hS hz hV hκ hB M hM16 dp sx R T hT c hc ?_
  intro tr htr
  have e : (nI (dp M) - 1) - nI b = nI (dp M - 1 - b) := by
    rw [show (nI (dp M) - 1) = nI (dp M - 1) from pk_sub (b := 1) (by omega), pk_sub (by omega)]
  have i1 : vp_in (nI (dp M - 1 - b)) 16 := vp_in_nI (by omega) (by decide)
  have c1 : (nI (dp M - 1 - b)).toNatClampNeg = dp M - 1 - b := nI_clamp (by omega)
  have n1 := l2 (dp M - 1 - b) (by omega)
  have i2 : vp_in (nI (sx M (dp M - 1 - b))) 16 := vp_in_nI (by omega) (by decide)
  have c2 : (nI (sx M (dp M - 1 - b))).toNatClampNeg = sx M (dp M - 1 - b) := nI_clamp (by omega)
  dsimp only
  rw [e, c1, hst _ (by omega), c2, htr _ n1]
  exact ⟨i1, i2, yj_nn _, hp tr⟩
end
section
/-! the questions' loops -/
theorem cq_x {post : Int32 → Prop} (w : Int32) (hp : post (nI (ct_n (bt w) 17))) : wpX_countCells post w := by
  have main : ∀ d i, i + d = 17 → wX_countCells_4 post w (d + 1) (nI (ct_n (bt w) i)) (nI i) := by
    intro d
    induction d with
    | zero =>
      intro i hi
      have : i = 17 := by omega
      subst this
      exact br_t (by decide) hp
    | succ d ih =>
      intro i hi
      refine br_f (nI_ge (b := 17) (by omega) (by decide)) ?_
      rw [bi_one w i (by omega)]
      refine nm_r (e' := nI (ct_n (bt w) (i + 1))) ?_ (nm_r (nI_1 i) (ih (i + 1) (by omega)))
      cases h : bt w i
      · rw [← ct_f h]
        exact nI_add (ct_n (bt w) i) 0
      · rw [← ct_t h]; rfl
  exact ⟨_, main 17 0 (by omega)⟩
section
variable {f_made f_depth : Int32} {a_as a_bs a_cs : Nat → Int32} {a_ps a_ss a_roots a_qs : Nat → Int64} {a_sorts a_ones a_twos a_stack : Nat → Int32}
/-- what isTrue answers, and what it leaves -/
def cq_I (m : Nat) (f_made f_depth : Int32) (a_as a_bs a_cs : Nat → Int32) (a_ps a_ss a_roots a_qs : Nat → Int64) (a_sorts a_ones a_twos a_stack : Nat → Int32) (b : Nat) (U : Nat → Bool) : Prop :=
  ∀ (post : Int32 → SY → Prop) (c : Nat) (tr : Nat → Int32), c ≤ 2 * m →
    (∀ tr', post (bi_n (U c)) (nI m, f_made, f_depth, a_as, a_bs, a_cs, a_ps, a_ss, a_roots, a_qs, a_sorts, a_ones, a_twos, a_stack, tr')) →
    wpY_isTrue post (nI m, f_made, f_depth, a_as, a_bs, a_cs, a_ps, a_ss, a_roots, a_qs, a_sorts, a_ones, a_twos, a_stack, tr) (nI b) (nI c)
theorem cq_cells {post : Int32 → SY → Prop} (m : Nat) (hm : m ≤ 8) (U : Nat → Bool) (hI : cq_I m f_made f_depth a_as a_bs a_cs a_ps a_ss a_roots a_qs a_sorts a_ones a_twos a_stack 0 U)
    (hp : ∀ tr, post (nI (ct_n U (2 * m + 1))) (nI m, f_made, f_depth, a_as, a_bs, a_cs, a_ps, a_ss, a_roots, a_qs, a_sorts, a_ones, a_twos, a_stack, tr)) (tr : Nat → Int32) :
    ∃ n, wY_countCells_8 post n 0 0 (nI m) f_made f_depth a_as a_bs a_cs a_ps a_ss a_roots a_qs a_sorts a_ones a_twos a_stack tr := by
  have e2 : (2 : Int32) * nI m = nI (2 * m) := pk_mul 2 m
  have main : ∀ d i, i + d = 2 * m + 1 → ∀ tr, wY_countCells_8 post (d + 1) (nI (ct_n U i)) (nI i) (nI m) f_made f_depth a_as a_bs a_cs a_ps a_ss a_roots a_qs a_sorts a_ones a_twos a_stack tr := by
    intro d
    induction d with
    | zero =>
      intro i hi tr
      have : i = 2 * m + 1 := by omega
      subst this
      refine br_t ?_ (hp tr)
      rw [e2]; exact nI_lt (by omega) (by omega)
    | succ d ih =>
      intro i hi tr
      refine br_f (by rw [e2]; exact nI_nlt (by omega) (by omega)) ?_
      refine hI _ i tr (by omega) ?_
      intro tr'
      refine ar_c (bi_eq0 _) (fun h => nm_r (nI_1 i) ?_) (fun h => ?_)
      · rw [ct_f h]
        exact ih (i + 1) (by omega) tr'
      · have h' : U i = true := by simpa using h
        exact nm_r (ct_t h') (nm_r (nI_1 i) (ih (i + 1) (by omega) tr'))
  exact ⟨_, main (2 * m + 1) 0 (by omega) tr⟩
def cq_p (U : Nat → Bool) (m : Nat) (pts : Bool) (i : Nat) : Bool :=
  (U i && (decide (i = 0) || !(U (i - 1)))) && (!pts || (decide (i % 2 = 1) && (decide (i = 2 * m) || !(U (i + 1)))))
theorem cq_pieces {post : Int32 → SY → Prop} (m : Nat) (hm : m ≤ 8) (U : Nat → Bool) (hI : cq_I m f_made f_depth a_as a_bs a_cs a_ps a_ss a_roots a_qs a_sorts a_ones a_twos a_stack 0 U) (pts : Bool)
    (hp : ∀ tr, post (nI (ct_n (cq_p U m pts) (2 * m + 1))) (nI m, f_made, f_depth, a_as, a_bs, a_cs, a_ps, a_ss, a_roots, a_qs, a_sorts, a_ones, a_twos, a_stack, tr)) (tr : Nat → Int32) :
    ∃ n, wY_countPieces_8 post (bi_n pts) n 0 0 (nI m) f_made f_depth a_as a_bs a_cs a_ps a_ss a_roots a_qs a_sorts a_ones a_twos a_stack tr := by
  have e2 : (2 : Int32) * nI m = nI (2 * m) := pk_mul 2 m
  have main : ∀ d i, i + d = 2 * m + 1 → ∀ tr, wY_countPieces_8 post (bi_n pts) (d + 1) (nI (ct_n (cq_p U m pts) i)) (nI i) (nI m) f_made f_depth a_as a_bs a_cs a_ps a_ss a_roots a_qs a_sorts a_ones a_twos a_stack tr := by
    intro d
    induction d with
    | zero =>
      intro i hi tr
      have : i = 2 * m + 1 := by omega
      subst this
      refine br_t ?_ (hp tr)
      rw [e2]; exact nI_lt (by omega) (by omega)
    | succ d ih =>
      intro i hi tr
      have nx0 : cq_p U m pts i = false → ∀ tr x, x = nI i + 1 → wY_countPieces_8 post (bi_n pts) (d + 1) (nI (ct_n (cq_p U m pts) i)) x (nI m) f_made f_depth a_as a_bs a_cs a_ps a_ss a_roots a_qs a_sorts a_ones a_twos a_stack tr := by
        intro h tr x ex
        rw [ex, nI_1, ct_f h]
        exact ih (i + 1) (by omega) tr
      have nx1 : cq_p U m pts i = true → ∀ tr y, y = nI (ct_n (cq_p U m pts) i) + 1 → ∀ x, x = nI i + 1 → wY_countPieces_8 post (bi_n pts) (d + 1) y x (nI m) f_made f_depth a_as a_bs a_cs a_ps a_ss a_roots a_qs a_sorts a_ones a_twos a_stack tr := by
        intro h tr y ey x ex
        rw [ex, nI_1, ey, ct_t h]
        exact ih (i + 1) (by omega) tr
      have s75 : ∀ (begins ends : Bool) tr, begins = (U i && (decide (i = 0) || !(U (i - 1)))) → ends = (decide (i = 2 * m) || !(U (i + 1))) →
          wY_countPieces_75 post (wY_countPieces_8 post (bi_n pts) (d + 1)) (bi_n pts) (nI (ct_n (cq_p U m pts) i)) (nI i) (bi_n begins) (bi_n ends) (nI m) f_made f_depth a_as a_bs a_cs a_ps a_ss a_roots a_qs a_sorts a_ones a_twos a_stack tr := by
        intro begins ends tr hb he
        have ep : cq_p U m pts i = (begins && (!pts || (decide (i % 2 = 1) && ends))) := by
          unfold cq_p
          rw [hb, he]
        have er : nI i - nI i / 2 * 2 = nI (i % 2) := pk_rem (d := 2) (by omega) (by decide) (by decide)
        unfold wY_countPieces_75
        rw [er]
        refine ar_c (bi_eq0 _) (fun h => nx0 (by rw [ep, h]; rfl) tr) (fun h => ?_)
        have h : begins = true := by simpa using h
        refine ar_c (bi_eq0 _) (fun h2 => nx1 (by rw [ep, h, h2]; rfl) tr) (fun h2 => ⟨by decide, ?_⟩)
        have h2 : pts = true := by simpa using h2
        by_cases o : i % 2 = 1
        · refine br_t (by rw [o]; decide) ?_
          refine ar_c (bi_eq0 _) (fun h3 => nx0 (by rw [ep, h, h2, h3]; simp) tr) (fun h3 => ?_)
          have h3 : ends = true := by simpa using h3
          exact nx1 (by rw [ep, h, h2, h3]; simp [o]) tr
        · exact br_f (by rw [show i % 2 = 0 by omega]; decide) (nx0 (by rw [ep, h, h2]; simp [o]) tr)
      have s47 : ∀ (begins : Bool) tr, begins = (U i && (decide (i = 0) || !(U (i - 1)))) →
          wY_countPieces_47 post (wY_countPieces_8 post (bi_n pts) (d + 1)) (bi_n pts) (nI (ct_n (cq_p U m pts) i)) (nI i) (bi_n begins) (nI m) f_made f_depth a_as a_bs a_cs a_ps a_ss a_roots a_qs a_sorts a_ones a_twos a_stack tr := by
        intro begins tr hb
        unfold wY_countPieces_47 wY_countPieces_70
        rw [e2, nI_1]
        refine ar_c (nI_eq (by omega) (by omega)) (fun h => s75 begins true tr hb (by simp [h])) (fun h => ?_)
        refine hI _ (i + 1) tr (by omega) ?_
        intro tr'
        refine ar_c (bi_eq0 _) (fun h2 => s75 begins true tr' hb (by simp [h2])) (fun h2 => ?_)
        have h2 : U (i + 1) = true := by simpa using h2
        exact s75 begins false tr' hb (by simp [h, h2])
      refine br_f (by rw [e2]; exact nI_nlt (by omega) (by omega)) ?_
      refine hI _ i tr (by omega) ?_
      intro tr'
      refine ar_c (bi_eq0 _) (fun h => s47 false tr' (by simp [h])) (fun h => ?_)
      have h : U i = true := by simpa using h
      refine ar_c (nI_eq (b := 0) (by omega) (by decide)) (fun h2 => s47 true tr' (by rw [h]; simp [h2])) (fun h2 => ?_)
      have e1 : nI i - 1 = nI (i - 1) := pk_sub (b := 1) (by omega)
      rw [e1]
      refine hI _ (i - 1) tr' (by omega) ?_
      intro tr''
      refine ar_c (bi_eq0 _) (fun h3 => s47 true tr'' (by simp [h, h3])) (fun h3 => ?_)
      have h3 : U (i - 1) = true := by simpa using h3
      exact s47 false tr'' (by simp [h2, h3])
  exact ⟨_, main (2 * m + 1) 0 (by omega) tr⟩
theorem cq_same {post : Int32 → SY → Prop} (m : Nat) (hm : m ≤ 8) (U U' : Nat → Bool) (hI : cq_I m f_made f_depth a_as a_bs a_cs a_ps a_ss a_roots a_qs a_sorts a_ones a_twos a_stack 0 U)
    (hI' : cq_I m f_made f_depth a_as a_bs a_cs a_ps a_ss a_roots a_qs a_sorts a_ones a_twos a_stack 1 U')
    (h1 : (∀ j, j < 2 * m + 1 → U j = U' j) → ∀ tr, post 1 (nI m, f_made, f_depth, a_as, a_bs, a_cs, a_ps, a_ss, a_roots, a_qs, a_sorts, a_ones, a_twos, a_stack, tr))
    (h0 : (∃ j, j < 2 * m + 1 ∧ ¬ U j = U' j) → ∀ tr, post 0 (nI m, f_made, f_depth, a_as, a_bs, a_cs, a_ps, a_ss, a_roots, a_qs, a_sorts, a_ones, a_twos, a_stack, tr)) (tr : Nat → Int32) :
    ∃ n, wY_same_18 post n 0 (nI m) f_made f_depth a_as a_bs a_cs a_ps a_ss a_roots a_qs a_sorts a_ones a_twos a_stack tr := by
  have e2 : (2 : Int32) * nI m = nI (2 * m) := pk_mul 2 m
  have bi : ∀ a b : Bool, bi_n a = bi_n b ↔ a = b := by decide
  have main : ∀ d i, i + d = 2 * m + 1 → (∀ j, j < i → U j = U' j) → ∀ tr, wY_same_18 post (d + 1) (nI i) (nI m) f_made f_depth a_as a_bs a_cs a_ps a_ss a_roots a_qs a_sorts a_ones a_twos a_stack tr := by
    intro d
    induction d with
    | zero =>
      intro i hi hU tr
      have : i = 2 * m + 1 := by omega
      subst this
      refine br_t ?_ (h1 hU tr)
      rw [e2]; exact nI_lt (by omega) (by omega)
    | succ d ih =>
      intro i hi hU tr
      refine br_f (by rw [e2]; exact nI_nlt (by omega) (by omega)) ?_
      refine hI _ i tr (by omega) ?_
      intro tr'
      refine hI' _ i tr' (by omega) ?_
      intro tr''
      refine ar_c (bi _ _) (fun h => nm_r (nI_1 i) (ih (i + 1) (by omega) ?_ tr'')) (fun h => h0 ⟨i, by omega, h⟩ tr'')
      intro j hj
      by_cases e : j = i
      · rw [e]; exact h
      · exact hU j (by omega)
  exact ⟨_, main (2 * m + 1) 0 (by omega) (fun j hj => by omega) tr⟩
theorem cq_impl {post : Int32 → SY → Prop} (m : Nat) (hm : m ≤ 8) (U U' : Nat → Bool) (hI : cq_I m f_made f_depth a_as a_bs a_cs a_ps a_ss a_roots a_qs a_sorts a_ones a_twos a_stack 0 U)
    (hI' : cq_I m f_made f_depth a_as a_bs a_cs a_ps a_ss a_roots a_qs a_sorts a_ones a_twos a_stack 1 U')
    (h1 : (∀ j, j < 2 * m + 1 → U' j = true → U j = true) → ∀ tr, post 1 (nI m, f_made, f_depth, a_as, a_bs, a_cs, a_ps, a_ss, a_roots, a_qs, a_sorts, a_ones, a_twos, a_stack, tr))
    (h0 : (∃ j, j < 2 * m + 1 ∧ U' j = true ∧ U j = false) → ∀ tr, post 0 (nI m, f_made, f_depth, a_as, a_bs, a_cs, a_ps, a_ss, a_roots, a_qs, a_sorts, a_ones, a_twos, a_stack, tr)) (tr : Nat → Int32) :
    ∃ n, wY_implies_18 post n 0 (nI m) f_made f_depth a_as a_bs a_cs a_ps a_ss a_roots a_qs a_sorts a_ones a_twos a_stack tr := by
  have e2 : (2 : Int32) * nI m = nI (2 * m) := pk_mul 2 m
  have main : ∀ d i, i + d = 2 * m + 1 → (∀ j, j < i → U' j = true → U j = true) → ∀ tr, wY_implies_18 post (d + 1) (nI i) (nI m) f_made f_depth a_as a_bs a_cs a_ps a_ss a_roots a_qs a_sorts a_ones a_twos a_stack tr := by
    intro d
    induction d with
    | zero =>
      intro i hi hU tr
      have : i = 2 * m + 1 := by omega
      subst this
      refine br_t ?_ (h1 hU tr)
      rw [e2]; exact nI_lt (by omega) (by omega)
    | succ d ih =>
      intro i hi hU tr
      refine br_f (by rw [e2]; exact nI_nlt (by omega) (by omega)) ?_
      refine hI' _ i tr (by omega) ?_
      intro tr'
      refine ar_c (bi_eq0 _) (fun h => nm_r (nI_1 i) (ih (i + 1) (by omega) ?_ tr')) (fun h => ?_)
      · intro j hj hj'
        by_cases e : j = i
        · subst e
          rw [h] at hj'
          cases hj'
        · exact hU j (by omega) hj'
      · have h : U' i = true := by simpa using h
        refine hI _ i tr' (by omega) ?_
        intro tr''
        refine ar_c (bi_eq0 _) (fun h2 => h0 ⟨i, by omega, h, h2⟩ tr'') (fun h2 => nm_r (nI_1 i) (ih (i + 1) (by omega) ?_ tr''))
        intro j hj hj'
        by_cases e : j = i
        · subst e
          simpa using h2
        · exact hU j (by omega) hj'
  exact ⟨_, main (2 * m + 1) 0 (by omega) (fun j hj => by omega) tr⟩
end
end
section
/-! words of cells -/
theorem wd_ext {f : Nat → Bool} : ∀ n d, (∀ j, n ≤ j → j < n + d → f j = false) → ct_n f (n + d) = ct_n f n := by
  intro n d
  induction d with
  | zero => intro _; rfl
  | succ d ih =>
    intro h
    rw [← ih (fun j a b => h j a (by omega))]
    exact (ct_f (h (n + d) (by omega) (by omega))).symm
theorem wd_0 {f : Nat → Bool} : ∀ n, ct_n f n = 0 ↔ ∀ j, j < n → f j = false := by
  intro n
  induction n with
  | zero => exact ⟨fun _ j hj => by omega, fun _ => rfl⟩
  | succ n ih =>
    constructor
    · intro h j hj
      have h' : ct_n f n + (if f n = true then 1 else 0) = 0 := h
      have a : ct_n f n = 0 := by omega
      by_cases e : j = n
      · subst e
        cases z : f j
        · rfl
        · rw [if_pos z] at h'; omega
      · exact ih.mp a j (by omega)
    · intro h
      exact ct_0 _ h
theorem wd_1 {f : Nat → Bool} : ∀ n, ct_n f n = n ↔ ∀ j, j < n → f j = true := by
  intro n
  induction n with
  | zero => exact ⟨fun _ j hj => by omega, fun _ => rfl⟩
  | succ n ih =>
    have l := ct_le f n
    have e1 : ct_n f (n + 1) = ct_n f n + (if f n = true then 1 else 0) := rfl
    constructor
    · intro h j hj
      rw [e1] at h
      by_cases z : f n = true
      · rw [if_pos z] at h
        by_cases e : j = n
        · rw [e]; exact z
        · exact ih.mp (by omega) j (by omega)
      · rw [if_neg z] at h; omega
    · intro h
      rw [e1, if_pos (h n (by omega)), ih.mpr (fun j hj => h j (by omega))]
def wd_W (m : Nat) (U : Nat → Bool) (w : Int32) : Prop := ∀ j, j < 32 → bt w j = (decide (j < 2 * m + 1) && U j)
theorem wd_lo {m : Nat} {U : Nat → Bool} {w : Int32} (hm : m ≤ 8) (h : wd_W m U w) {j : Nat} (hj : j < 2 * m + 1) : bt w j = U j := by
  rw [h j (by omega)]; simp [hj]
theorem wd_hi {m : Nat} {U : Nat → Bool} {w : Int32} (h : wd_W m U w) {j : Nat} (hj : 2 * m + 1 ≤ j) (h32 : j < 32) : bt w j = false := by
  rw [h j h32]; simp [show ¬ j < 2 * m + 1 by omega]
theorem wd_some {m : Nat} {U : Nat → Bool} {w : Int32} (hm : m ≤ 8) (h : wd_W m U w) : w = 0 ↔ ct_n U (2 * m + 1) = 0 := by
  rw [wd_0]
  constructor
  · intro e j hj
    rw [← wd_lo hm h hj, e, b_0]
  · intro e
    apply b_ext
    intro j hj
    rw [b_0]
    rcases Nat.lt_or_ge j (2 * m + 1) with t | t
    · rw [wd_lo hm h t]; exact e j t
    · exact wd_hi h t hj
theorem wd_every {m : Nat} {U : Nat → Bool} {w : Int32} (hm : m ≤ 8) (h : wd_W m U w) : w = (((1 : Int32) <<< (((2 * nI m) + 1) &&& 31)) - 1) ↔ ct_n U (2 * m + 1) = 2 * m + 1 := by
  rw [wd_1]
  constructor
  · intro e j hj
    rw [← wd_lo hm h hj, e, sx_all m (by omega) j (by omega)]
    simp [hj]
  · intro e
    apply b_ext
    intro j hj
    rw [sx_all m (by omega) j hj]
    rcases Nat.lt_or_ge j (2 * m + 1) with t | t
    · rw [wd_lo hm h t, e j t]; simp [t]
    · rw [wd_hi h t hj]; simp [show ¬ j < 2 * m + 1 by omega]
theorem wd_same {m : Nat} {U U' : Nat → Bool} {w w' : Int32} (hm : m ≤ 8) (h : wd_W m U w) (h' : wd_W m U' w') : w' = w ↔ ∀ j, j < 2 * m + 1 → U j = U' j := by
  constructor
  · intro e j hj
    rw [← wd_lo hm h hj, ← wd_lo hm h' hj, e]
  · intro e
    apply b_ext
    intro j hj
    rcases Nat.lt_or_ge j (2 * m + 1) with t | t
    · rw [wd_lo hm h t, wd_lo hm h' t, e j t]
    · rw [wd_hi h t hj, wd_hi h' t hj]
theorem wd_impl {m : Nat} {U U' : Nat → Bool} {w w' : Int32} (hm : m ≤ 8) (h : wd_W m U w) (h' : wd_W m U' w') : (w' &&& (w ^^^ (-1))) = 0 ↔ ∀ j, j < 2 * m + 1 → U' j = true → U j = true := by
  constructor
  · intro e j hj u
    have : bt (w' &&& (w ^^^ (-1))) j = false := by rw [e, b_0]
    rw [b_and, b_xor, b_m1 j (by omega), wd_lo hm h hj, wd_lo hm h' hj, u] at this
    simpa using this
  · intro e
    apply b_ext
    intro j hj
    rw [b_0, b_and, b_xor, b_m1 j hj]
    rcases Nat.lt_or_ge j (2 * m + 1) with t | t
    · rw [wd_lo hm h t, wd_lo hm h' t]
      cases u : U' j
      · rfl
      · rw [e j t u]; rfl
    · rw [wd_hi h' t hj]; rfl
theorem wd_bit {m : Nat} {U : Nat → Bool} {w : Int32} (hm : m ≤ 8) (h : wd_W m U w) {c : Nat} (hc : c ≤ 2 * m) : (w >>> (nI c &&& 31)) &&& 1 = bi_n (U c) := by
  rw [bi_one w c (by omega), wd_lo hm h (by omega)]
theorem wd_s1 (w : Int32) {j : Nat} (hj : j < 32) : bt (w <<< ((1 : Int32) &&& 31)) j = (decide (1 ≤ j) && bt w (j - 1)) := b_shl 1 (by omega) w hj
theorem wd_r1 (w : Int32) {j : Nat} (hj : j < 32) : bt (w >>> ((1 : Int32) &&& 31)) j = if 1 + j < 32 then bt w (1 + j) else bt w 31 := b_sshr 1 (by omega) w hj
theorem wd_pieces {m : Nat} {U : Nat → Bool} {w : Int32} (hm : m ≤ 8) (h : wd_W m U w) :
    ct_n (bt (w &&& ((w <<< ((1 : Int32) &&& 31)) ^^^ (-1)))) 17 = ct_n (cq_p U m false) (2 * m + 1) := by
  have b : ∀ j, j < 32 → bt (w &&& ((w <<< ((1 : Int32) &&& 31)) ^^^ (-1))) j = (bt w j && !(decide (1 ≤ j) && bt w (j - 1))) := by
    intro j hj
    rw [b_and, b_xor, b_m1 j hj, wd_s1 w hj]
    simp
  have e : 17 = (2 * m + 1) + (16 - 2 * m) := by omega
  rw [e, wd_ext]
  · apply ct_c
    intro i hi
    rw [b i (by omega), wd_lo hm h hi]
    unfold cq_p
    rcases Nat.eq_zero_or_pos i with z | z
    · subst z; simp
    · rw [wd_lo hm h (show i - 1 < 2 * m + 1 by omega)]
      simp [show 1 ≤ i by omega, show ¬ i = 0 by omega]
  · intro j a c
    rw [b j (by omega), wd_hi h a (by omega)]; rfl
theorem wd_aaaa : ∀ j, j < 17 → bt 43690 j = decide (j % 2 = 1) := by decide +kernel
theorem wd_points {m : Nat} {U : Nat → Bool} {w : Int32} (hm : m ≤ 8) (h : wd_W m U w) :
    ct_n (bt (((w &&& ((w <<< ((1 : Int32) &&& 31)) ^^^ (-1))) &&& ((w >>> ((1 : Int32) &&& 31)) ^^^ (-1))) &&& 43690)) 17 = ct_n (cq_p U m true) (2 * m + 1) := by
  have b : ∀ j, j < 17 → bt (((w &&& ((w <<< ((1 : Int32) &&& 31)) ^^^ (-1))) &&& ((w >>> ((1 : Int32) &&& 31)) ^^^ (-1))) &&& 43690) j =
      (((bt w j && !(decide (1 ≤ j) && bt w (j - 1))) && !(bt w (1 + j))) && decide (j % 2 = 1)) := by
    intro j hj
    rw [b_and, b_and, b_and, b_xor, b_xor, b_m1 j (by omega), wd_s1 w (by omega), wd_r1 w (by omega), wd_aaaa j hj, if_pos (by omega)]
    simp
  have e : 17 = (2 * m + 1) + (16 - 2 * m) := by omega
  rw [e, wd_ext]
  · apply ct_c
    intro i hi
    rw [b i (by omega), wd_lo hm h hi]
    unfold cq_p
    have k1 : bt w (1 + i) = (!decide (i = 2 * m) && U (i + 1)) := by
      rcases Nat.lt_or_ge i (2 * m) with t | t
      · rw [Nat.add_comm, wd_lo hm h (show i + 1 < 2 * m + 1 by omega)]
        simp [show ¬ i = 2 * m by omega]
      · rw [wd_hi h (by omega) (by omega)]
        simp [show i = 2 * m by omega]
    rw [k1]
    rcases Nat.eq_zero_or_pos i with z | z
    · subst z; simp
    · rw [wd_lo hm h (show i - 1 < 2 * m + 1 by omega)]
      simp only [show 1 ≤ i by omega, show ¬ i = 0 by omega, decide_true, decide_false, Bool.true_and, Bool.false_or, Bool.not_true]
      cases U i <;> cases U (i - 1) <;> cases U (i + 1) <;> cases decide (i % 2 = 1) <;> cases decide (i = 2 * m) <;> rfl
  · intro j a c
    rw [b j (by omega), wd_hi h a (by omega)]; rfl
end
section
/-! the relation, and what both sides do with it -/
def rl_C (m M : Nat) (dp : Nat → Nat) (sx : Nat → Nat → Nat) (sq li co mw ms mu mb mz sk sp st so on tw : Nat → Int32) : Prop :=
  m ≤ 8 ∧ M ≤ 16 ∧ xz_B sq li co ∧ xm_M (xz_P sq li co) m mw ms mu mb mz ∧ st_R M dp sx sk sp st so on tw
noncomputable def rl_T (m : Nat) (dp : Nat → Nat) (sx : Nat → Nat → Nat) (sq li co mw ms mu mb sk sp st : Nat → Int32) (c i : Nat) : Bool :=
  st_T sk dp sx (st_W (xm_k mw ms mu mb) m sq li co sp st c) i
noncomputable def rl_U (m M : Nat) (dp : Nat → Nat) (sx : Nat → Nat → Nat) (sq li co mw ms mu mb sk sp st : Nat → Int32) (b c : Nat) : Bool :=
  rl_T m dp sx sq li co mw ms mu mb sk sp st c (sx M (dp M - 1 - b))
def i_Rel (_k : Nat) (u : SX) (v : SY) : Prop :=
  ∃ (m M : Nat) (dp : Nat → Nat) (sx : Nat → Nat → Nat) (sq li co mw ms mu mb mz sk sp st hc so on tw stk tr : Nat → Int32) (fm : Int32) (ps ss ro qs : Nat → Int64),
    u = (nI m, nI M, nI (dp M), sq, li, co, mw, ms, mu, mb, mz, sk, sp, st, hc) ∧ v = (fm, nI M, nI (dp M), sq, li, co, ps, ss, ro, qs, so, on, tw, stk, tr) ∧
    rl_C m M dp sx sq li co mw ms mu mb mz sk sp st so on tw ∧ ∀ p, p < dp M → stk p = nI (sx M p)
theorem i_up {k : Nat} {u : SX} {v : SY} (h : i_Rel k u v) : i_Rel (k + 5) u v := h
theorem rl_mk {k m M : Nat} {dp : Nat → Nat} {sx : Nat → Nat → Nat} {sq li co mw ms mu mb mz sk sp st so on tw stk : Nat → Int32} (C : rl_C m M dp sx sq li co mw ms mu mb mz sk sp st so on tw)
    (hst : ∀ p, p < dp M → stk p = nI (sx M p)) (hc tr : Nat → Int32) (fm : Int32) (ps ss ro qs : Nat → Int64) :
    i_Rel k (nI m, nI M, nI (dp M), sq, li, co, mw, ms, mu, mb, mz, sk, sp, st, hc) (fm, nI M, nI (dp M), sq, li, co, ps, ss, ro, qs, so, on, tw, stk, tr) :=
  ⟨m, M, dp, sx, sq, li, co, mw, ms, mu, mb, mz, sk, sp, st, hc, so, on, tw, stk, tr, fm, ps, ss, ro, qs, rfl, rfl, C, hst⟩
theorem i_vc0 : wpX_init (fun u => wpY_init (fun v => i_Rel 0 u v)) := by
  have z : ((fun _ => 0 : Nat → Int32) 0).toInt = 0 := by decide
  refine rl_mk (k := 0) (m := 0) (M := 0) (dp := fun _ => 0) (sx := fun _ _ => 0) ⟨by omega, by omega, ?_, ⟨?_, ?_, ⟨?_, ?_⟩, ?_⟩, rfl, ?_⟩ ?_ _ _ _ _ _ _ _
  · intro k hk
    show mk_B (0 : Int32).toInt (0 : Int32).toInt (0 : Int32).toInt
    unfold mk_B
    decide
  · intro i hi; omega
  · intro i j h hj; omega
  · intro i hi; omega
  · rintro w ⟨k, _, h⟩
    have h' : mk_Z (0 : Int32).toInt (0 : Int32).toInt (0 : Int32).toInt w := h
    have e : (0 : Int32).toInt = 0 := by decide
    rw [e] at h'
    unfold mk_Z at h'
    omega
  · intro i hi; omega
  · intro i hi; omega
  · intro p hp
    have : p < 0 := hp
    omega
/-- the reference's marks are the component's -/
theorem rl_find {post : SY → Prop} {m M : Nat} {dp : Nat → Nat} {sx : Nat → Nat → Nat} {sq li co mw ms mu mb mz sk sp st so on tw stk tr : Nat → Int32} {fm f_made f_depth : Int32} {ps ss ro qs : Nat → Int64}
    (C : rl_C m M dp sx sq li co mw ms mu mb mz sk sp st so on tw)
    (hp : ∀ ps ss ro qs, ym_V ps ss ro qs m → (∀ i, i < m → ym_k ps ss ro qs i = xm_k mw ms mu mb i) → post (nI m, f_made, f_depth, sq, li, co, ps, ss, ro, qs, so, on, tw, stk, tr)) :
    wpY_findMarks post (fm, f_made, f_depth, sq, li, co, ps, ss, ro, qs, so, on, tw, stk, tr) := by
  obtain ⟨h1, h2, h3, h4, h5⟩ := C
  refine yf_find h3 ?_
  intro m' ps ss ro qs hm' hM
  obtain ⟨e, ek⟩ := mk_uniq h4.2.1 hM.2.1 h4.2.2.1 hM.2.2
  subst e
  exact hp ps ss ro qs hM.1 ek
theorem rl_z {m M : Nat} {dp : Nat → Nat} {sx : Nat → Nat → Nat} {sq li co mw ms mu mb mz sk sp st so on tw : Nat → Int32} (C : rl_C m M dp sx sq li co mw ms mu mb mz sk sp st so on tw) :
    ∀ k, k < 4 → ∀ z, xz_P sq li co k z → ∃ i, i < m ∧ xm_k mw ms mu mb i = z :=
  fun k hk z hz => C.2.2.2.1.2.2.1.2 z ⟨k, hk, hz⟩
theorem rl_I {m M : Nat} {dp : Nat → Nat} {sx : Nat → Nat → Nat} {sq li co mw ms mu mb mz sk sp st so on tw stk : Nat → Int32} {ps ss ro qs : Nat → Int64}
    (C : rl_C m M dp sx sq li co mw ms mu mb mz sk sp st so on tw) (hst : ∀ p, p < dp M → stk p = nI (sx M p))
    (hV : ym_V ps ss ro qs m) (hκ : ∀ i, i < m → ym_k ps ss ro qs i = xm_k mw ms mu mb i) (b : Nat) (hb : b < dp M) :
    cq_I m (nI M) (nI (dp M)) sq li co ps ss ro qs so on tw stk b (rl_U m M dp sx sq li co mw ms mu mb sk sp st b) := by
  intro post c tr hc hp
  exact yj_true m C.1 (xm_k mw ms mu mb) C.2.2.2.1.2.1 (rl_z C) hV hκ C.2.2.1 M C.2.1 dp sx C.2.2.2.2 (rl_T m dp sx sq li co mw ms mu mb sk sp st) (fun _ _ => rfl) hst b hb c hc hp
theorem rl_take {post : SX → Prop} {m M : Nat} {dp : Nat → Nat} {sx : Nat → Nat → Nat} {sq li co mw ms mu mb mz sk sp st hc so on tw : Nat → Int32}
    (C : rl_C m M dp sx sq li co mw ms mu mb mz sk sp st so on tw) {f_depth : Int32}
    (hp : ∀ hc, (∀ b, b < dp M → wd_W m (rl_U m M dp sx sq li co mw ms mu mb sk sp st b) (hc (dp M - 1 - b))) → post (nI m, nI M, f_depth, sq, li, co, mw, ms, mu, mb, mz, sk, sp, st, hc)) :
    wpX_takeSteps post (nI m, nI M, f_depth, sq, li, co, mw, ms, mu, mb, mz, sk, sp, st, hc) := by
  refine sx_steps m C.1 C.2.2.2.1 C.2.2.1 M C.2.1 dp sx C.2.2.2.2 (rl_T m dp sx sq li co mw ms mu mb sk sp st) (fun _ _ => rfl) ?_
  intro hc hH
  refine hp hc ?_
  intro b hb j hj
  exact hH (dp M - 1 - b) (by omega) j hj
/-! arguments -/
theorem rg_poly (p : Int32) : (∃ j, j < 4 ∧ p = nI j ∧ (∀ post : Int32 → Prop, post 1 → wpX_isPolynomial post p) ∧ (∀ (post : Int32 → Prop) (v : SY), post 0 → wpY_noPolynomial post v p)) ∨
    ((∀ post : Int32 → Prop, post 0 → wpX_isPolynomial post p) ∧ (∀ (post : Int32 → Prop) (v : SY), post 1 → wpY_noPolynomial post v p)) := by
  by_cases h : p < 0
  · right
    refine ⟨fun post hp => br_t h hp, fun post v hp => ?_⟩
    obtain ⟨f_marks, f_made, f_depth, a_as, a_bs, a_cs, a_ps, a_ss, a_roots, a_qs, a_sorts, a_ones, a_twos, a_stack, a_truth⟩ := v
    exact br_t h hp
  · obtain ⟨j, hj, rfl⟩ := nI_of h
    by_cases h4 : j < 4
    · left
      refine ⟨j, h4, rfl, fun post hp => br_f h (br_f (nI_ge (b := 4) h4 (by decide)) hp), fun post v hp => ?_⟩
      obtain ⟨f_marks, f_made, f_depth, a_as, a_bs, a_cs, a_ps, a_ss, a_roots, a_qs, a_sorts, a_ones, a_twos, a_stack, a_truth⟩ := v
      exact br_f h (br_t (nI_le (b := 3) (by omega) (by decide)) hp)
    · right
      refine ⟨fun post hp => br_f h (br_t (nI_le (a := 4) (by omega) (by omega)) hp), fun post v hp => ?_⟩
      obtain ⟨f_marks, f_made, f_depth, a_as, a_bs, a_cs, a_ps, a_ss, a_roots, a_qs, a_sorts, a_ones, a_twos, a_stack, a_truth⟩ := v
      exact br_f h (br_f (nI_ge (a := 3) (by omega) (by omega)) hp)
theorem rg_i32 (p : Int32) : -2 ^ 31 ≤ p.toInt ∧ p.toInt < 2 ^ 31 := ⟨Int32.le_toInt p, Int32.toInt_lt p⟩
theorem rg_lt (p : Int32) (c : Int) (hc : c.natAbs < 2 ^ 31) : (p < ar_i c ↔ p.toInt < c) ∧ (ar_i c < p ↔ c < p.toInt) ∧ (p ≤ ar_i c ↔ p.toInt ≤ c) := by
  rw [Int32.lt_iff_toInt_lt, Int32.lt_iff_toInt_lt, Int32.le_iff_toInt_le, ar_ti hc]
  exact ⟨Iff.rfl, Iff.rfl, Iff.rfl⟩
theorem rg_m30 : (-30 : Int32) = ar_i (-30) := by decide
theorem rg_30 : (30 : Int32) = ar_i 30 := by decide
theorem rg_m100 : (-100 : Int32) = ar_i (-100) := by decide
theorem rg_100 : (100 : Int32) = ar_i 100 := by decide
theorem rg_1 : (1 : Int32) = ar_i 1 := by decide
theorem rg_coef (p : Int32) : (p.toInt.natAbs ≤ 30 ∧ (∀ post : Int32 → Prop, post 1 → wpX_isCoefficient post p) ∧ (∀ (post : Int32 → Prop) (v : SY), post 0 → wpY_far post v p)) ∨
    ((∀ post : Int32 → Prop, post 0 → wpX_isCoefficient post p) ∧ (∀ (post : Int32 → Prop) (v : SY), post 1 → wpY_far post v p)) := by
  have a := (rg_lt p (-30) (by decide)).1
  have b := (rg_lt p 30 (by decide)).2.1
  have c := (rg_lt p 30 (by decide)).2.2
  rw [← rg_m30] at a
  rw [← rg_30] at b c
  by_cases h : p.toInt < -30
  · right
    refine ⟨fun post hp => br_t (a.mpr h) hp, fun post v hp => ?_⟩
    obtain ⟨f_marks, f_made, f_depth, a_as, a_bs, a_cs, a_ps, a_ss, a_roots, a_qs, a_sorts, a_ones, a_twos, a_stack, a_truth⟩ := v
    exact br_t (a.mpr h) hp
  · have h' : ¬ p < -30 := fun z => h (a.mp z)
    by_cases h2 : 30 < p.toInt
    · right
      refine ⟨fun post hp => br_f h' (br_t (b.mpr h2) hp), fun post v hp => ?_⟩
      obtain ⟨f_marks, f_made, f_depth, a_as, a_bs, a_cs, a_ps, a_ss, a_roots, a_qs, a_sorts, a_ones, a_twos, a_stack, a_truth⟩ := v
      exact br_f h' (br_f (fun z => by have := c.mp z; omega) hp)
    · left
      refine ⟨by omega, fun post hp => br_f h' (br_f (fun z => h2 (b.mp z)) hp), fun post v hp => ?_⟩
      obtain ⟨f_marks, f_made, f_depth, a_as, a_bs, a_cs, a_ps, a_ss, a_roots, a_qs, a_sorts, a_ones, a_twos, a_stack, a_truth⟩ := v
      exact br_f h' (br_t (c.mpr (by omega)) hp)
theorem rg_frac (p q : Int32) : (sf_V p.toInt 0 0 q.toInt ∧ (∀ post : Int32 → Prop, post 1 → wpX_isFraction post p q) ∧ (∀ (post : Int32 → Prop) (v : SY), post 0 → wpY_noNumber post v p q)) ∨
    ((∀ post : Int32 → Prop, post 0 → wpX_isFraction post p q) ∧ (∀ (post : Int32 → Prop) (v : SY), post 1 → wpY_noNumber post v p q)) := by
  have a := (rg_lt p (-100) (by decide)).1
  have b := (rg_lt p 100 (by decide)).2.1
  have c := (rg_lt q 1 (by decide)).1
  have d := (rg_lt q 100 (by decide)).2.1
  have e := (rg_lt q 100 (by decide)).2.2
  rw [← rg_m100] at a
  rw [← rg_100] at b d e
  rw [← rg_1] at c
  by_cases h : p.toInt < -100
  · right
    refine ⟨fun post hp => br_t (a.mpr h) hp, fun post v hp => ?_⟩
    obtain ⟨f_marks, f_made, f_depth, a_as, a_bs, a_cs, a_ps, a_ss, a_roots, a_qs, a_sorts, a_ones, a_twos, a_stack, a_truth⟩ := v
    exact br_t (a.mpr h) hp
  have h' : ¬ p < -100 := fun z => h (a.mp z)
  by_cases h2 : 100 < p.toInt
  · right
    refine ⟨fun post hp => br_f h' (br_t (b.mpr h2) hp), fun post v hp => ?_⟩
    obtain ⟨f_marks, f_made, f_depth, a_as, a_bs, a_cs, a_ps, a_ss, a_roots, a_qs, a_sorts, a_ones, a_twos, a_stack, a_truth⟩ := v
    exact br_f h' (br_t (b.mpr h2) hp)
  have h2' : ¬ 100 < p := fun z => h2 (b.mp z)
  by_cases h3 : q.toInt < 1
  · right
    refine ⟨fun post hp => br_f h' (br_f h2' (br_t (c.mpr h3) hp)), fun post v hp => ?_⟩
    obtain ⟨f_marks, f_made, f_depth, a_as, a_bs, a_cs, a_ps, a_ss, a_roots, a_qs, a_sorts, a_ones, a_twos, a_stack, a_truth⟩ := v
    exact br_f h' (br_f h2' (br_t (c.mpr h3) hp))
  have h3' : ¬ q < 1 := fun z => h3 (c.mp z)
  by_cases h4 : 100 < q.toInt
  · right
    refine ⟨fun post hp => br_f h' (br_f h2' (br_f h3' (br_t (d.mpr h4) hp))), fun post v hp => ?_⟩
    obtain ⟨f_marks, f_made, f_depth, a_as, a_bs, a_cs, a_ps, a_ss, a_roots, a_qs, a_sorts, a_ones, a_twos, a_stack, a_truth⟩ := v
    exact br_f h' (br_f h2' (br_f h3' (br_f (fun z => by have := e.mp z; omega) hp)))
  · left
    refine ⟨by unfold sf_V; omega, fun post hp => br_f h' (br_f h2' (br_f h3' (br_f (fun z => h4 (d.mp z)) hp))), fun post v hp => ?_⟩
    obtain ⟨f_marks, f_made, f_depth, a_as, a_bs, a_cs, a_ps, a_ss, a_roots, a_qs, a_sorts, a_ones, a_twos, a_stack, a_truth⟩ := v
    exact br_f h' (br_f h2' (br_f h3' (br_t (e.mpr (by omega)) hp)))
theorem rg_cell {m : Nat} (hm : m ≤ 8) (p : Int32) {f_made f_depth : Int32} {sq li co mw ms mu mb mz sk sp st hc : Nat → Int32} :
    (∃ c, c ≤ 2 * m ∧ p = nI c ∧ (∀ post : Int32 → Prop, post 1 → wpX_isCell post (nI m, f_made, f_depth, sq, li, co, mw, ms, mu, mb, mz, sk, sp, st, hc) p) ∧
      (∀ (post : Int32 → Prop) (f_made f_depth : Int32) (as bs cs : Nat → Int32) (ps ss ro qs : Nat → Int64) (so on tw stk tr : Nat → Int32), post 0 → wpY_noCell post (nI m, f_made, f_depth, as, bs, cs, ps, ss, ro, qs, so, on, tw, stk, tr) p)) ∨
    ((∀ post : Int32 → Prop, post 0 → wpX_isCell post (nI m, f_made, f_depth, sq, li, co, mw, ms, mu, mb, mz, sk, sp, st, hc) p) ∧
      (∀ (post : Int32 → Prop) (f_made f_depth : Int32) (as bs cs : Nat → Int32) (ps ss ro qs : Nat → Int64) (so on tw stk tr : Nat → Int32), post 1 → wpY_noCell post (nI m, f_made, f_depth, as, bs, cs, ps, ss, ro, qs, so, on, tw, stk, tr) p)) := by
  have e2 : (2 : Int32) * nI m = nI (2 * m) := pk_mul 2 m
  by_cases h : p < 0
  · right
    exact ⟨fun post hp => br_t h hp, fun post f_made f_depth as bs cs ps ss ro qs so on tw stk tr hp => br_t h hp⟩
  · obtain ⟨j, hj, rfl⟩ := nI_of h
    by_cases h4 : j ≤ 2 * m
    · left
      refine ⟨j, h4, rfl, fun post hp => br_f h (br_f ?_ hp), fun post f_made f_depth as bs cs ps ss ro qs so on tw stk tr hp => br_f h (br_t ?_ hp)⟩
      · rw [e2]; exact nI_nlt h4 (by omega)
      · rw [e2]; exact nI_le h4 (by omega)
    · right
      refine ⟨fun post hp => br_f h (br_t ?_ hp), fun post f_made f_depth as bs cs ps ss ro qs so on tw stk tr hp => br_f h (br_f ?_ hp)⟩
      · rw [e2]; exact nI_lt (by omega) hj
      · rw [e2]; exact nI_ge (by omega) hj
end
section
/-! set, marks, sign, cellOf, zeros -/
theorem i_vc_set {k : Nat} {u : SX} {v : SY} (I : i_Rel k u v) (hk : k + 5 ≤ 2560) (v1 : Int32) (v2 : Int32) (v3 : Int32) (v4 : Int32) : wpX_set (fun r u' => wpY_set (fun r' v' => r' = r ∧ i_Rel (k + 5) u' v') v v1 v2 v3 v4) u v1 v2 v3 v4 := by
  have I' : i_Rel (k + 5) u v := i_up I
  obtain ⟨m, M, dp, sx, sq, li, co, mw, ms, mu, mb, mz, sk, sp, st, hc, so, on, tw, stk, tr, fm, ps, ss, ro, qs, rfl, rfl, C, hst⟩ := I
  unfold wpX_set
  dsimp only
  rcases rg_poly v1 with ⟨j, hj, rfl, xa, ya⟩ | ⟨xa, ya⟩
  rotate_left
  · refine xa _ (br_t rfl ?_)
    unfold wpY_set
    dsimp only
    exact ya _ _ (br_f (by decide) ⟨rfl, I'⟩)
  refine xa _ (br_f (by decide) ?_)
  rcases rg_coef v2 with ⟨b2, xb, yb⟩ | ⟨xb, yb⟩
  rotate_left
  · refine xb _ (br_t rfl ?_)
    unfold wpY_set
    dsimp only
    exact ya _ _ (br_t rfl (yb _ _ (br_f (by decide) ⟨rfl, I'⟩)))
  refine xb _ (br_f (by decide) ?_)
  rcases rg_coef v3 with ⟨b3, xc, yc⟩ | ⟨xc, yc⟩
  rotate_left
  · refine xc _ (br_t rfl ?_)
    unfold wpY_set
    dsimp only
    exact ya _ _ (br_t rfl (yb _ _ (br_t rfl (yc _ _ (br_f (by decide) ⟨rfl, I'⟩)))))
  refine xc _ (br_f (by decide) ?_)
  rcases rg_coef v4 with ⟨b4, xd, yd⟩ | ⟨xd, yd⟩
  rotate_left
  · refine xd _ (br_t rfl ?_)
    unfold wpY_set
    dsimp only
    exact ya _ _ (br_t rfl (yb _ _ (br_t rfl (yc _ _ (br_t rfl (yd _ _ (br_f (by decide) ⟨rfl, I'⟩)))))))
  refine xd _ (br_f (by decide) ?_)
  have hin : vp_in (nI j) 4 := vp_in_nI hj (by decide)
  have cl : (nI j).toNatClampNeg = j := nI_clamp (by omega)
  rw [cl]
  obtain ⟨c1, c2, c3, c4, c5⟩ := C
  have hB : xz_B (upd sq j v2) (upd li j v3) (upd co j v4) := by
    intro i hi
    by_cases e : i = j
    · subst e
      rw [pk_us, pk_us, pk_us]
      exact ⟨b2, b3, b4⟩
    · rw [pk_un e, pk_un e, pk_un e]
      exact c3 i hi
  refine ⟨hin, nm_e ⟨hin, nm_e ⟨hin, nm_e ?_⟩⟩⟩
  refine ⟨_, xz_loop hB ?_ 4 0 rfl 0 mw ms mu mb mz (by omega) ⟨?_, ?_, ⟨?_, ?_⟩, ?_⟩⟩
  · intro m' mw' ms' mu' mb' mz' hm' hM'
    unfold wpY_set
    dsimp only
    refine ya _ _ (br_t rfl (yb _ _ (br_t rfl (yc _ _ (br_t rfl (yd _ _ (br_t rfl ?_)))))))
    rw [cl]
    refine ⟨hin, nm_e ⟨hin, nm_e ⟨hin, nm_e ⟨rfl, ?_⟩⟩⟩⟩
    exact rl_mk ⟨hm', c2, hB, hM', c5⟩ hst _ _ _ _ _ _ _
  · intro i hi; omega
  · intro i j h hj; omega
  · intro i hi; omega
  · rintro w ⟨k, _, h, _⟩; omega
  · intro i hi; omega
theorem i_vc_marks {k : Nat} {u : SX} {v : SY} (I : i_Rel k u v) (hk : k + 5 ≤ 2560) : wpX_marks (fun r => wpY_marks (fun r' v' => r' = r ∧ i_Rel (k + 5) u v') v) u := by
  obtain ⟨m, M, dp, sx, sq, li, co, mw, ms, mu, mb, mz, sk, sp, st, hc, so, on, tw, stk, tr, fm, ps, ss, ro, qs, rfl, rfl, C, hst⟩ := I
  unfold wpX_marks wpY_marks
  dsimp only
  refine rl_find C ?_
  intro ps' ss' ro' qs' hV hκ
  exact ⟨rfl, rl_mk C hst _ _ _ _ _ _ _⟩
theorem i_vc_sign {k : Nat} {u : SX} {v : SY} (I : i_Rel k u v) (hk : k + 5 ≤ 2560) (v1 : Int32) (v2 : Int32) : wpX_sign (fun r => wpY_sign (fun r' v' => r' = r ∧ i_Rel (k + 5) u v') v v1 v2) u v1 v2 := by
  have I' : i_Rel (k + 5) u v := i_up I
  obtain ⟨m, M, dp, sx, sq, li, co, mw, ms, mu, mb, mz, sk, sp, st, hc, so, on, tw, stk, tr, fm, ps, ss, ro, qs, rfl, rfl, C, hst⟩ := I
  unfold wpX_sign wpY_sign
  dsimp only
  rcases rg_poly v1 with ⟨j, hj, rfl, xa, ya⟩ | ⟨xa, ya⟩
  rotate_left
  · exact xa _ (br_t rfl (ya _ _ (br_f (by decide) ⟨rfl, I'⟩)))
  refine xa _ (br_f (by decide) ?_)
  rcases rg_cell C.1 v2 with ⟨c, hc', rfl, xb, yb⟩ | ⟨xb, yb⟩
  rotate_left
  · refine xb _ (br_t rfl (ya _ _ (br_t rfl (rl_find C ?_))))
    intro ps' ss' ro' qs' hV hκ
    exact yb _ _ _ _ _ _ _ _ _ _ _ _ _ _ _ (br_f (by decide) ⟨rfl, rl_mk C hst _ _ _ _ _ _ _⟩)
  refine xb _ (br_f (by decide) ?_)
  refine xs_on m C.1 C.2.2.2.1 C.2.2.1 j hj c hc' ?_
  refine ya _ _ (br_t rfl (rl_find C ?_))
  intro ps' ss' ro' qs' hV hκ
  refine yb _ _ _ _ _ _ _ _ _ _ _ _ _ _ _ (br_t rfl ?_)
  refine yo_on m C.1 (xm_k mw ms mu mb) C.2.2.2.1.2.1 (rl_z C) hV hκ C.2.2.1 j hj c hc' ?_
  exact ⟨rfl, rl_mk C hst _ _ _ _ _ _ _⟩
theorem i_vc_cellOf {k : Nat} {u : SX} {v : SY} (I : i_Rel k u v) (hk : k + 5 ≤ 2560) (v1 : Int32) (v2 : Int32) : wpX_cellOf (fun r => wpY_cellOf (fun r' v' => r' = r ∧ i_Rel (k + 5) u v') v v1 v2) u v1 v2 := by
  have I' : i_Rel (k + 5) u v := i_up I
  obtain ⟨m, M, dp, sx, sq, li, co, mw, ms, mu, mb, mz, sk, sp, st, hc, so, on, tw, stk, tr, fm, ps, ss, ro, qs, rfl, rfl, C, hst⟩ := I
  unfold wpX_cellOf wpY_cellOf
  dsimp only
  rcases rg_frac v1 v2 with ⟨V, xa, ya⟩ | ⟨xa, ya⟩
  rotate_left
  · exact xa _ (br_t rfl (ya _ _ (br_f (by decide) ⟨rfl, I'⟩)))
  refine xa _ (br_f (by decide) ?_)
  rw [ar_i_t v1, ar_i_t v2]
  refine xm_cell (S := 0) (D := 0) m C.1 C.2.2.2.1.1 C.2.2.2.1.2.1 v1.toInt v2.toInt V ?_
  intro c hc' hat
  rw [← ar_i_t v1, ← ar_i_t v2]
  refine ya _ _ (br_t rfl (rl_find C ?_))
  intro ps' ss' ro' qs' hV hκ
  dsimp only
  rw [ar_i_t v1, ar_i_t v2]
  refine yo_cell m C.1 (xm_k mw ms mu mb) C.2.2.2.1.2.1 hV hκ v1.toInt v2.toInt V ?_
  intro c' hat'
  rw [mk_at_u C.2.2.2.1.2.1 hat hat']
  exact ⟨rfl, rl_mk C hst _ _ _ _ _ _ _⟩
theorem i_vc_zeros {k : Nat} {u : SX} {v : SY} (I : i_Rel k u v) (hk : k + 5 ≤ 2560) (v1 : Int32) : wpX_zeros (fun r => wpY_zeros (fun r' v' => r' = r ∧ i_Rel (k + 5) u v') v v1) u v1 := by
  have I' : i_Rel (k + 5) u v := i_up I
  obtain ⟨m, M, dp, sx, sq, li, co, mw, ms, mu, mb, mz, sk, sp, st, hc, so, on, tw, stk, tr, fm, ps, ss, ro, qs, rfl, rfl, C, hst⟩ := I
  unfold wpX_zeros wpY_zeros
  dsimp only
  rcases rg_poly v1 with ⟨j, hj, rfl, xa, ya⟩ | ⟨xa, ya⟩
  rotate_left
  · exact xa _ (br_t rfl (ya _ _ (br_f (by decide) ⟨rfl, I'⟩)))
  refine xa _ (br_f (by decide) ?_)
  have hin : vp_in (nI j) 4 := vp_in_nI hj (by decide)
  have cl : (nI j).toNatClampNeg = j := nI_clamp (by omega)
  have hBk := C.2.2.1 j hj
  obtain ⟨F0, F1, F2, F3, F4⟩ := mk_F (k := xm_k mw ms mu mb) (m := m) C.2.2.2.1.2.1 hBk (fun z hz' => rl_z C j hj z hz')
  have hB' := hBk
  unfold mk_B at hB'
  have za : (sq j = 0) ↔ (sq j).toInt = 0 := by
    have := (ar_i0 (a := (sq j).toInt) (by omega)).2.2.1
    rw [← ar_i_t] at this
    exact this
  have zb : (li j = 0) ↔ (li j).toInt = 0 := by
    have := (ar_i0 (a := (li j).toInt) (by omega)).2.2.1
    rw [← ar_i_t] at this
    exact this
  have hbit := C.2.2.2.1.2.2.2
  refine xo_zeros m C.1 j hj (fun i => bt (mz i) j) (fun _ _ => rfl) ?_
  refine ya _ _ (br_t rfl ⟨hin, ?_⟩)
  rw [cl]
  have go : ¬ ((sq j).toInt = 0 ∧ (li j).toInt = 0) → wY_zeros_32 (fun r' v' => r' = nI (ct_n (fun i => bt (mz i) j) m) ∧ i_Rel (k + 5) (nI m, nI M, nI (dp M), sq, li, co, mw, ms, mu, mb, mz, sk, sp, st, hc) v') (nI j) fm (nI M) (nI (dp M)) sq li co ps ss ro qs so on tw stk tr := by
    intro hne
    unfold wY_zeros_32
    refine rl_find C ?_
    intro ps' ss' ro' qs' hV hκ
    refine yo_zeros m C.1 (xm_k mw ms mu mb) hV hκ C.2.2.1 j hj (fun i => bt (mz i) j) (fun i _ => mk_sig_b _ _ _ _ _ _) ?_ ⟨rfl, rl_mk C hst _ _ _ _ _ _ _⟩
    intro i hi
    rw [hbit i hi j hj]
    constructor
    · intro h
      apply Classical.byContradiction
      intro z
      have a := (F2 i hi z).1
      rcases F4 i (by omega) with b | b
      · rw [← a, h] at b
        cases b
      · exact hne ⟨b.1, b.2.1⟩
    · intro h
      exact (F3 i hi h).1
  refine ar_c za (fun h => ⟨hin, ar_c zb (fun h2 => ?_) (fun h2 => go (fun z => h2 z.2))⟩) (fun h => go (fun z => h z.1))
  have : ct_n (fun i => bt (mz i) j) m = 0 := by
    apply ct_0
    intro i hi
    cases e : bt (mz i) j
    · rfl
    · have z := (hbit i hi j hj).mp e
      unfold xz_P mk_Z at z
      omega
  rw [this]
  exact ⟨rfl, I'⟩
end
section
/-! condition, not, join, discard -/
theorem rl_push {k m M : Nat} {dp : Nat → Nat} {sx : Nat → Nat → Nat} {sq li co mw ms mu mb mz sk sp st so on tw stk sk' sp' st' so' on' tw' stk' : Nat → Int32} (C : rl_C m M dp sx sq li co mw ms mu mb mz sk sp st so on tw)
    (hst : ∀ p, p < dp M → stk p = nI (sx M p)) (hM : M < 16)
    (e1 : ∀ i, i < M → sk' i = sk i) (e2 : ∀ i, i < M → sp' i = sp i) (e3 : ∀ i, i < M → st' i = st i) (e4 : ∀ i, i < M → so' i = so i) (e5 : ∀ i, i < M → on' i = on i) (e6 : ∀ i, i < M → tw' i = tw i)
    (n' : Nat) (hn : 1 ≤ n') (e7 : ∀ p, p < n' - 1 → stk' p = stk p) (e8 : stk' (n' - 1) = nI M)
    (hs : (sk' M = 0 ∧ so' M = 0 ∧ n' = dp M + 1 ∧ (∃ k, k < 4 ∧ sp' M = nI k ∧ on' M = nI k) ∧ tw' M = st' M) ∨
      (sk' M = 1 ∧ so' M = 1 ∧ 1 ≤ dp M ∧ n' = dp M ∧ on' M = nI (sx M (dp M - 1))) ∨
      ((sk' M = 2 ∨ sk' M = 3) ∧ so' M = sk' M ∧ 2 ≤ dp M ∧ n' = dp M - 1 ∧ on' M = nI (sx M (dp M - 2)) ∧ tw' M = nI (sx M (dp M - 1))))
    (hc tr : Nat → Int32) (fm : Int32) (ps ss ro qs : Nat → Int64) :
    i_Rel k (nI m, nI (M + 1), nI n', sq, li, co, mw, ms, mu, mb, mz, sk', sp', st', hc) (fm, nI (M + 1), nI n', sq, li, co, ps, ss, ro, qs, so', on', tw', stk', tr) := by
  obtain ⟨c1, c2, c3, c4, c5⟩ := C
  let dp' : Nat → Nat := fun i => if i = M + 1 then n' else dp i
  let sx' : Nat → Nat → Nat := fun i => if i = M + 1 then (fun p => if p = n' - 1 then M else sx M p) else sx i
  have d1 : ∀ i, i ≤ M → dp' i = dp i := fun i hi => if_neg (by omega)
  have d2 : dp' (M + 1) = n' := if_pos rfl
  have x1 : ∀ i, i ≤ M → sx' i = sx i := fun i hi => if_neg (by omega)
  have x2 : ∀ p, p < n' - 1 → sx' (M + 1) p = sx M p := by
    intro p hp
    have : sx' (M + 1) = fun p => if p = n' - 1 then M else sx M p := if_pos rfl
    rw [this]
    exact if_neg (by omega)
  have x3 : sx' (M + 1) (n' - 1) = M := by
    have : sx' (M + 1) = fun p => if p = n' - 1 then M else sx M p := if_pos rfl
    rw [this]
    exact if_pos rfl
  have R' : st_R (M + 1) dp' sx' sk' sp' st' so' on' tw' := by
    refine ⟨by rw [d1 0 (by omega)]; exact c5.1, ?_⟩
    intro i hi
    unfold st_1
    by_cases e : i = M
    · subst e
      rw [d1 i (by omega), d2, x1 i (by omega)]
      rcases hs with ⟨a, b, c, d, f⟩ | ⟨a, b, c, d, f⟩ | ⟨a, b, c, d, f, g⟩
      · left
        refine ⟨a, b, c, fun p hp => x2 p (by omega), ?_, d, f⟩
        rw [show dp i = n' - 1 by omega]; exact x3
      · right; left
        refine ⟨a, b, c, d, fun p hp => x2 p (by omega), ?_, f⟩
        rw [show dp i - 1 = n' - 1 by omega]; exact x3
      · right; right
        refine ⟨a, b, c, d, fun p hp => x2 p (by omega), ?_, f, g⟩
        rw [show dp i - 2 = n' - 1 by omega]; exact x3
    · have iM : i < M := by omega
      have := c5.2 i iM
      unfold st_1 at this
      rw [d1 i (by omega), d1 (i + 1) (by omega), x1 i (by omega), x1 (i + 1) (by omega), e1 i iM, e2 i iM, e3 i iM, e4 i iM, e5 i iM, e6 i iM]
      exact this
  have := rl_mk (k := k) (m := m) (M := M + 1) (stk := stk') ⟨c1, by omega, c3, c4, R'⟩ ?_ hc tr fm ps ss ro qs
  · rw [d2] at this
    exact this
  · intro p hp
    rw [d2] at hp
    rcases Nat.lt_or_ge p (n' - 1) with t | t
    · rw [e7 p t, x2 p t]
      refine hst p ?_
      rcases hs with ⟨_, _, c, _⟩ | ⟨_, _, _, d, _⟩ | ⟨_, _, _, d, _⟩ <;> omega
    · rw [show p = n' - 1 by omega, e8, x3]
theorem i_vc_condition {k : Nat} {u : SX} {v : SY} (I : i_Rel k u v) (hk : k + 5 ≤ 2560) (v1 : Int32) (v2 : Int32) : wpX_condition (fun r u' => wpY_condition (fun r' v' => r' = r ∧ i_Rel (k + 5) u' v') v v1 v2) u v1 v2 := by
  have I' : i_Rel (k + 5) u v := i_up I
  obtain ⟨m, M, dp, sx, sq, li, co, mw, ms, mu, mb, mz, sk, sp, st, hc, so, on, tw, stk, tr, fm, ps, ss, ro, qs, rfl, rfl, C, hst⟩ := I
  have hM16 := C.2.1
  have hD := (st_lt C.2.2.2.2 M (Nat.le_refl M)).1
  unfold wpX_condition wpY_condition
  dsimp only
  rcases rg_poly v1 with ⟨j, hj, rfl, xa, ya⟩ | ⟨xa, ya⟩
  rotate_left
  · exact xa _ (br_t rfl (ya _ _ (br_f (by decide) ⟨rfl, I'⟩)))
  refine xa _ (br_f (by decide) ?_)
  by_cases h0 : v2 < 0
  · exact br_t h0 (ya _ _ (br_t rfl (br_t h0 ⟨rfl, I'⟩)))
  refine br_f h0 ?_
  by_cases h7 : v2 ≤ 7
  rotate_left
  · exact br_f h7 (ya _ _ (br_t rfl (br_f h0 (br_f h7 ⟨rfl, I'⟩))))
  refine br_t h7 ?_
  by_cases h16 : M < 16
  rotate_left
  · have e : M = 16 := by omega
    refine br_f (nI_nlt (b := 16) (by omega) (by omega)) ?_
    exact ya _ _ (br_t rfl (br_f h0 (br_t h7 (br_t (by rw [e]; rfl) ⟨rfl, I'⟩))))
  refine br_t (nI_lt (b := 16) h16 (by decide)) ?_
  have hin : vp_in (nI M) 16 := vp_in_nI h16 (by decide)
  have cl : (nI M).toNatClampNeg = M := nI_clamp (by omega)
  have hin2 : vp_in (nI (dp M)) 16 := vp_in_nI (by omega) (by decide)
  have cl2 : (nI (dp M)).toNatClampNeg = dp M := nI_clamp (by omega)
  rw [cl]
  refine ⟨hin, nm_e ⟨hin, nm_e ⟨hin, nm_e (nm_r (nI_1 M) (nm_r (nI_1 (dp M)) ?_))⟩⟩⟩
  refine ya _ _ (br_t rfl (br_f h0 (br_t h7 (br_f (fun z => by have := (nI_eq (b := 16) (by omega) (by decide)).mp z; omega) ?_))))
  unfold wpY_make
  dsimp only
  rw [cl, cl2]
  refine ⟨hin, nm_e ⟨hin, nm_e ⟨hin, nm_e ⟨hin2, nm_e (nm_r (nI_1 (dp M)) (nm_r (nI_1 M) ⟨rfl, ?_⟩))⟩⟩⟩⟩
  refine rl_push C hst h16 (fun i hi => pk_un (by omega)) (fun i hi => pk_un (by omega)) (fun i hi => pk_un (by omega)) (fun i hi => pk_un (by omega)) (fun i hi => pk_un (by omega)) (fun i hi => pk_un (by omega)) (dp M + 1) (by omega) (fun p hp => pk_un (by omega)) pk_us ?_ _ _ _ _ _ _ _
  left
  refine ⟨pk_us, pk_us, rfl, ⟨j, hj, pk_us, pk_us⟩, ?_⟩
  rw [pk_us, pk_us]
theorem i_vc_not {k : Nat} {u : SX} {v : SY} (I : i_Rel k u v) (hk : k + 5 ≤ 2560) : wpX_not (fun r u' => wpY_not (fun r' v' => r' = r ∧ i_Rel (k + 5) u' v') v) u := by
  have I' : i_Rel (k + 5) u v := i_up I
  obtain ⟨m, M, dp, sx, sq, li, co, mw, ms, mu, mb, mz, sk, sp, st, hc, so, on, tw, stk, tr, fm, ps, ss, ro, qs, rfl, rfl, C, hst⟩ := I
  have hM16 := C.2.1
  have hD := (st_lt C.2.2.2.2 M (Nat.le_refl M)).1
  unfold wpX_not wpY_not
  dsimp only
  by_cases h16 : M < 16
  rotate_left
  · have e : M = 16 := by omega
    exact br_f (nI_nlt (b := 16) (by omega) (by omega)) (br_t (by rw [e]; rfl) ⟨rfl, I'⟩)
  have nM : ¬ nI M = 16 := fun z => by have := (nI_eq (b := 16) (by omega) (by decide)).mp z; omega
  refine br_t (nI_lt (b := 16) h16 (by decide)) ?_
  by_cases h1 : 1 ≤ dp M
  rotate_left
  · have n1 : ¬ (1 : Int32) ≤ nI (dp M) := nI_ge (b := 1) (by omega) (by decide)
    exact br_f n1 (br_f nM (br_f n1 ⟨rfl, I'⟩))
  have n1 : (1 : Int32) ≤ nI (dp M) := nI_le (a := 1) h1 (by omega)
  have hin : vp_in (nI M) 16 := vp_in_nI h16 (by decide)
  have cl : (nI M).toNatClampNeg = M := nI_clamp (by omega)
  have hin2 : vp_in (nI (dp M - 1)) 16 := vp_in_nI (by omega) (by decide)
  have cl2 : (nI (dp M - 1)).toNatClampNeg = dp M - 1 := nI_clamp (by omega)
  have eD : nI (dp M) - 1 = nI (dp M - 1) := pk_sub (b := 1) (by omega)
  rw [cl]
  refine br_t n1 ⟨hin, nm_e (nm_r (nI_1 M) ?_)⟩
  refine br_f nM (br_t n1 (nm_r eD ⟨hin2, ?_⟩))
  unfold wpY_make
  dsimp only
  rw [cl, cl2]
  have eU : nI (dp M - 1) + 1 = nI (dp M) := by rw [nI_1, Nat.sub_add_cancel h1]
  refine ⟨hin, nm_e ⟨hin, nm_e ⟨hin, nm_e ⟨hin2, nm_e (nm_r eU (nm_r (nI_1 M) ⟨rfl, ?_⟩))⟩⟩⟩⟩
  refine rl_push C hst h16 (fun i hi => pk_un (by omega)) (fun i hi => rfl) (fun i hi => rfl) (fun i hi => pk_un (by omega)) (fun i hi => pk_un (by omega)) (fun i hi => pk_un (by omega)) (dp M) h1 (fun p hp => pk_un (by omega)) pk_us ?_ _ _ _ _ _ _ _
  right; left
  refine ⟨pk_us, pk_us, h1, rfl, ?_⟩
  rw [pk_us]
  exact hst _ (by omega)
theorem i_vc_join {k : Nat} {u : SX} {v : SY} (I : i_Rel k u v) (hk : k + 5 ≤ 2560) (v1 : Int32) : wpX_join (fun r u' => wpY_join (fun r' v' => r' = r ∧ i_Rel (k + 5) u' v') v v1) u v1 := by
  have I' : i_Rel (k + 5) u v := i_up I
  obtain ⟨m, M, dp, sx, sq, li, co, mw, ms, mu, mb, mz, sk, sp, st, hc, so, on, tw, stk, tr, fm, ps, ss, ro, qs, rfl, rfl, C, hst⟩ := I
  have hM16 := C.2.1
  have hD := (st_lt C.2.2.2.2 M (Nat.le_refl M)).1
  have main : ∀ (w z : Int32), (w = 2 ∨ w = 3) → (2 : Int32) + v1 = w → ¬ v1 < 0 → v1 ≤ 1 → (z = w) → 
      ((nI M < 16 → ((2 ≤ nI (dp M) → wX_join_55 (fun r u' => wpY_join (fun r' v' => r' = r ∧ i_Rel (k + 5) u' v') (fm, nI M, nI (dp M), sq, li, co, ps, ss, ro, qs, so, on, tw, stk, tr) v1) z (nI M) (nI m) (nI M) (nI (dp M)) sq li co mw ms mu mb mz sk sp st hc))) ) := by
    intro w z hw e2 h0 h1 ez hlt h2
    subst ez
    have h16 : M < 16 := (nI_ltI (b := 16) (by omega) (by decide)).mp hlt
    have h2' : 2 ≤ dp M := (nI_leI (a := 2) (by decide) (by omega)).mp h2
    have nM : ¬ nI M = 16 := fun z => by have := (nI_eq (b := 16) (by omega) (by decide)).mp z; omega
    have hin : vp_in (nI M) 16 := vp_in_nI h16 (by decide)
    have cl : (nI M).toNatClampNeg = M := nI_clamp (by omega)
    have hin2 : vp_in (nI (dp M - 2)) 16 := vp_in_nI (by omega) (by decide)
    have cl2 : (nI (dp M - 2)).toNatClampNeg = dp M - 2 := nI_clamp (by omega)
    have hin3 : vp_in (nI (dp M - 1)) 16 := vp_in_nI (by omega) (by decide)
    have cl3 : (nI (dp M - 1)).toNatClampNeg = dp M - 1 := nI_clamp (by omega)
    have eD : nI (dp M) - 1 = nI (dp M - 1) := pk_sub (b := 1) (by omega)
    have eD2 : nI (dp M) - 2 = nI (dp M - 2) := pk_sub (b := 2) (by omega)
    have eU : nI (dp M - 2) + 1 = nI (dp M - 1) := by rw [nI_1, show dp M - 2 + 1 = dp M - 1 by omega]
    unfold wX_join_55
    rw [cl]
    refine ⟨hin, nm_e (nm_r (nI_1 M) (nm_r eD ?_))⟩
    unfold wpY_join
    dsimp only
    refine br_f h0 (br_t h1 (br_f nM (br_t h2 (nm_r eD2 ⟨hin2, ?_⟩))))
    unfold wpY_make
    dsimp only
    rw [eU, cl, cl2, cl3, e2]
    refine ⟨hin3, hin, nm_e ⟨hin, nm_e ⟨hin, nm_e ⟨hin2, nm_e (nm_e (nm_r (nI_1 M) ⟨rfl, ?_⟩))⟩⟩⟩⟩
    refine rl_push C hst h16 (fun i hi => pk_un (by omega)) (fun i hi => rfl) (fun i hi => rfl) (fun i hi => pk_un (by omega)) (fun i hi => pk_un (by omega)) (fun i hi => pk_un (by omega)) (dp M - 1) (by omega) (fun p hp => pk_un (by omega)) ?_ ?_ _ _ _ _ _ _ _
    · rw [show dp M - 1 - 1 = dp M - 2 by omega]; exact pk_us
    · right; right
      rw [pk_us, pk_us, pk_us, pk_us]
      exact ⟨hw, rfl, h2', rfl, hst _ (by omega), hst _ (by omega)⟩
  have full : ¬ nI M < 16 → ¬ v1 < 0 → v1 ≤ 1 → wpY_join (fun r' v' => r' = (-1001) ∧ i_Rel (k + 5) (nI m, nI M, nI (dp M), sq, li, co, mw, ms, mu, mb, mz, sk, sp, st, hc) v') (fm, nI M, nI (dp M), sq, li, co, ps, ss, ro, qs, so, on, tw, stk, tr) v1 := by
    intro h h0 h1
    have e : M = 16 := by
      apply Classical.byContradiction
      intro z
      exact h (nI_lt (b := 16) (by omega) (by decide))
    unfold wpY_join
    dsimp only
    exact br_f h0 (br_t h1 (br_t (by rw [e]; rfl) ⟨rfl, I'⟩))
  have few : nI M < 16 → ¬ (2 : Int32) ≤ nI (dp M) → ¬ v1 < 0 → v1 ≤ 1 → wpY_join (fun r' v' => r' = (-1002) ∧ i_Rel (k + 5) (nI m, nI M, nI (dp M), sq, li, co, mw, ms, mu, mb, mz, sk, sp, st, hc) v') (fm, nI M, nI (dp M), sq, li, co, ps, ss, ro, qs, so, on, tw, stk, tr) v1 := by
    intro h h2 h0 h1
    have h16 : M < 16 := (nI_ltI (b := 16) (by omega) (by decide)).mp h
    have nM : ¬ nI M = 16 := fun z => by have := (nI_eq (b := 16) (by omega) (by decide)).mp z; omega
    unfold wpY_join
    dsimp only
    exact br_f h0 (br_t h1 (br_f nM (br_f h2 ⟨rfl, I'⟩)))
  unfold wpX_join
  dsimp only
  refine br_c (fun e => ?_) (fun e => br_c (fun e' => ?_) (fun e' => ?_))
  · have h0 : ¬ v1 < 0 := by rw [e]; decide
    have h1 : v1 ≤ 1 := by rw [e]; decide
    unfold wX_join_13
    refine br_c (fun h => br_c (fun h2 => br_t e (main 2 2 (Or.inl rfl) (by rw [e]; rfl) h0 h1 rfl h h2)) (fun h2 => few h h2 h0 h1)) (fun h => full h h0 h1)
  · have h0 : ¬ v1 < 0 := by rw [e']; decide
    have h1 : v1 ≤ 1 := by rw [e']; decide
    unfold wX_join_13
    refine br_c (fun h => br_c (fun h2 => br_f e (main 3 3 (Or.inr rfl) (by rw [e']; rfl) h0 h1 rfl h h2)) (fun h2 => few h h2 h0 h1)) (fun h => full h h0 h1)
  · unfold wpY_join
    dsimp only
    refine br_c (fun _ => ⟨rfl, I'⟩) (fun h0 => br_c (fun h1 => ?_) (fun _ => ⟨rfl, I'⟩))
    obtain ⟨j, hj, rfl⟩ := nI_of h0
    have : j ≤ 1 := (nI_leI (b := 1) hj (by decide)).mp h1
    have : j = 0 ∨ j = 1 := by omega
    rcases this with z | z
    · exact absurd (by rw [z]; rfl) e
    · exact absurd (by rw [z]; rfl) e'
theorem i_vc_discard {k : Nat} {u : SX} {v : SY} (I : i_Rel k u v) (hk : k + 5 ≤ 2560) : wpX_discard (fun r u' => wpY_discard (fun r' v' => r' = r ∧ i_Rel (k + 5) u' v') v) u := by
  obtain ⟨m, M, dp, sx, sq, li, co, mw, ms, mu, mb, mz, sk, sp, st, hc, so, on, tw, stk, tr, fm, ps, ss, ro, qs, rfl, rfl, C, hst⟩ := I
  unfold wpX_discard wpY_discard
  dsimp only
  obtain ⟨c1, c2, c3, c4, c5⟩ := C
  refine ⟨rfl, ?_⟩
  have := rl_mk (k := k + 5) (m := m) (M := 0) (dp := fun _ => 0) (sx := fun _ _ => 0) (sk := sk) (sp := sp) (st := st) (so := so) (on := on) (tw := tw) (stk := stk) ⟨c1, by omega, c3, c4, rfl, fun i hi => by omega⟩ (fun p hp => absurd hp (Nat.not_lt_zero p)) hc tr fm ps ss ro qs
  exact this
end
section
/-! some, every, pieces, points, holds, at, same, implies -/
theorem i_vc_some {k : Nat} {u : SX} {v : SY} (I : i_Rel k u v) (hk : k + 5 ≤ 2560) : wpX_some (fun r u' => wpY_some (fun r' v' => r' = r ∧ i_Rel (k + 5) u' v') v) u := by
  have I' : i_Rel (k + 5) u v := i_up I
  obtain ⟨m, M, dp, sx, sq, li, co, mw, ms, mu, mb, mz, sk, sp, st, hc, so, on, tw, stk, tr, fm, ps, ss, ro, qs, rfl, rfl, C, hst⟩ := I
  have hM16 := C.2.1
  have hm := C.1
  have hD := (st_lt C.2.2.2.2 M (Nat.le_refl M)).1
  unfold wpX_some wpY_some
  dsimp only
  by_cases h1 : 1 ≤ dp M
  rotate_left
  · have n1 : ¬ (1 : Int32) ≤ nI (dp M) := nI_ge (b := 1) (by omega) (by decide)
    exact br_f n1 (br_f n1 ⟨rfl, I'⟩)
  have n1 : (1 : Int32) ≤ nI (dp M) := nI_le (a := 1) h1 (by omega)
  have eD : nI (dp M) - 1 = nI (dp M - 1) := pk_sub (b := 1) (by omega)
  have hin : vp_in (nI (dp M - 1)) 16 := vp_in_nI (by omega) (by decide)
  have cl : (nI (dp M - 1)).toNatClampNeg = dp M - 1 := nI_clamp (by omega)
  refine br_t n1 (rl_take C ?_)
  intro hc' hW
  dsimp only
  have W := hW 0 (by omega)
  rw [Nat.sub_zero] at W
  have yy : ∀ x : Int32, (x = if ct_n (rl_U m M dp sx sq li co mw ms mu mb sk sp st 0) (2 * m + 1) = 0 then 0 else 1) →
      wpY_countCells (fun r_2 u => match u with | (f_marks_3, f_made_4, f_depth_5, a_as_6, a_bs_7, a_cs_8, a_ps_9, a_ss_10, a_roots_11, a_qs_12, a_sorts_13, a_ones_14, a_twos_15, a_stack_16, a_truth_17) => (((r_2 ≤ 0 → ((0 : Int32) = x ∧ i_Rel (k + 5) (nI m, nI M, nI (dp M), sq, li, co, mw, ms, mu, mb, mz, sk, sp, st, hc') (f_marks_3, f_made_4, f_depth_5, a_as_6, a_bs_7, a_cs_8, a_ps_9, a_ss_10, a_roots_11, a_qs_12, a_sorts_13, a_ones_14, a_twos_15, a_stack_16, a_truth_17))) ∧ (¬ r_2 ≤ 0 → ((1 : Int32) = x ∧ i_Rel (k + 5) (nI m, nI M, nI (dp M), sq, li, co, mw, ms, mu, mb, mz, sk, sp, st, hc') (f_marks_3, f_made_4, f_depth_5, a_as_6, a_bs_7, a_cs_8, a_ps_9, a_ss_10, a_roots_11, a_qs_12, a_sorts_13, a_ones_14, a_twos_15, a_stack_16, a_truth_17)))))) (fm, nI M, nI (dp M), sq, li, co, ps, ss, ro, qs, so, on, tw, stk, tr) := by
    intro x hx
    unfold wpY_countCells
    dsimp only
    refine rl_find C ?_
    intro ps' ss' ro' qs' hV hκ
    dsimp only
    refine cq_cells m C.1 _ (rl_I C hst hV hκ 0 (by omega)) ?_ tr
    intro tr'
    have cb := ct_le (rl_U m M dp sx sq li co mw ms mu mb sk sp st 0) (2 * m + 1)
    refine ar_c (nI_leI (b := 0) (by omega) (by decide)) (fun h => ⟨?_, rl_mk C hst _ _ _ _ _ _ _⟩) (fun h => ⟨?_, rl_mk C hst _ _ _ _ _ _ _⟩)
    · rw [hx, if_pos (by omega)]
    · rw [hx, if_neg (by omega)]
  rw [eD, cl]
  refine ⟨hin, ar_c (wd_some C.1 W) (fun h => ?_) (fun h => ?_)⟩
  · exact br_t n1 (yy 0 (by rw [if_pos h]))
  · exact br_t n1 (yy 1 (by rw [if_neg h]))
theorem i_vc_every {k : Nat} {u : SX} {v : SY} (I : i_Rel k u v) (hk : k + 5 ≤ 2560) : wpX_every (fun r u' => wpY_every (fun r' v' => r' = r ∧ i_Rel (k + 5) u' v') v) u := by
  have I' : i_Rel (k + 5) u v := i_up I
  obtain ⟨m, M, dp, sx, sq, li, co, mw, ms, mu, mb, mz, sk, sp, st, hc, so, on, tw, stk, tr, fm, ps, ss, ro, qs, rfl, rfl, C, hst⟩ := I
  have hM16 := C.2.1
  have hm := C.1
  have hD := (st_lt C.2.2.2.2 M (Nat.le_refl M)).1
  unfold wpX_every wpY_every
  dsimp only
  by_cases h1 : 1 ≤ dp M
  rotate_left
  · have n1 : ¬ (1 : Int32) ≤ nI (dp M) := nI_ge (b := 1) (by omega) (by decide)
    exact br_f n1 (br_f n1 ⟨rfl, I'⟩)
  have n1 : (1 : Int32) ≤ nI (dp M) := nI_le (a := 1) h1 (by omega)
  have eD : nI (dp M) - 1 = nI (dp M - 1) := pk_sub (b := 1) (by omega)
  have hin : vp_in (nI (dp M - 1)) 16 := vp_in_nI (by omega) (by decide)
  have cl : (nI (dp M - 1)).toNatClampNeg = dp M - 1 := nI_clamp (by omega)
  refine br_t n1 (rl_take C ?_)
  intro hc' hW
  unfold wpX_allCells
  dsimp only
  have W := hW 0 (by omega)
  rw [Nat.sub_zero] at W
  have e2 : ((2 : Int32) * nI m) + 1 = nI (2 * m + 1) := by rw [show (2 : Int32) * nI m = nI (2 * m) from pk_mul 2 m, nI_1]
  have yy : ∀ x : Int32, (x = if ct_n (rl_U m M dp sx sq li co mw ms mu mb sk sp st 0) (2 * m + 1) = 2 * m + 1 then 1 else 0) →
      wpY_countCells (fun r_2 u => match u with | (f_marks_3, f_made_4, f_depth_5, a_as_6, a_bs_7, a_cs_8, a_ps_9, a_ss_10, a_roots_11, a_qs_12, a_sorts_13, a_ones_14, a_twos_15, a_stack_16, a_truth_17) => (((r_2 = ((2 * f_marks_3) + 1) → ((1 : Int32) = x ∧ i_Rel (k + 5) (nI m, nI M, nI (dp M), sq, li, co, mw, ms, mu, mb, mz, sk, sp, st, hc') (f_marks_3, f_made_4, f_depth_5, a_as_6, a_bs_7, a_cs_8, a_ps_9, a_ss_10, a_roots_11, a_qs_12, a_sorts_13, a_ones_14, a_twos_15, a_stack_16, a_truth_17))) ∧ (¬ r_2 = ((2 * f_marks_3) + 1) → ((0 : Int32) = x ∧ i_Rel (k + 5) (nI m, nI M, nI (dp M), sq, li, co, mw, ms, mu, mb, mz, sk, sp, st, hc') (f_marks_3, f_made_4, f_depth_5, a_as_6, a_bs_7, a_cs_8, a_ps_9, a_ss_10, a_roots_11, a_qs_12, a_sorts_13, a_ones_14, a_twos_15, a_stack_16, a_truth_17)))))) (fm, nI M, nI (dp M), sq, li, co, ps, ss, ro, qs, so, on, tw, stk, tr) := by
    intro x hx
    unfold wpY_countCells
    dsimp only
    refine rl_find C ?_
    intro ps' ss' ro' qs' hV hκ
    dsimp only
    refine cq_cells m C.1 _ (rl_I C hst hV hκ 0 (by omega)) ?_ tr
    intro tr'
    have cb := ct_le (rl_U m M dp sx sq li co mw ms mu mb sk sp st 0) (2 * m + 1)
    dsimp only
    rw [e2]
    refine ar_c (nI_eq (by omega) (by omega)) (fun h => ⟨?_, rl_mk C hst _ _ _ _ _ _ _⟩) (fun h => ⟨?_, rl_mk C hst _ _ _ _ _ _ _⟩)
    · rw [hx, if_pos h]
    · rw [hx, if_neg h]
  rw [eD, cl]
  refine ⟨hin, ar_c (wd_every C.1 W) (fun h => ?_) (fun h => ?_)⟩
  · exact br_t n1 (yy 1 (by rw [if_pos h]))
  · exact br_t n1 (yy 0 (by rw [if_neg h]))
theorem i_vc_pieces {k : Nat} {u : SX} {v : SY} (I : i_Rel k u v) (hk : k + 5 ≤ 2560) : wpX_pieces (fun r u' => wpY_pieces (fun r' v' => r' = r ∧ i_Rel (k + 5) u' v') v) u := by
  have I' : i_Rel (k + 5) u v := i_up I
  obtain ⟨m, M, dp, sx, sq, li, co, mw, ms, mu, mb, mz, sk, sp, st, hc, so, on, tw, stk, tr, fm, ps, ss, ro, qs, rfl, rfl, C, hst⟩ := I
  have hM16 := C.2.1
  have hD := (st_lt C.2.2.2.2 M (Nat.le_refl M)).1
  unfold wpX_pieces wpY_pieces
  dsimp only
  by_cases h1 : 1 ≤ dp M
  rotate_left
  · have n1 : ¬ (1 : Int32) ≤ nI (dp M) := nI_ge (b := 1) (by omega) (by decide)
    exact br_f n1 (br_f n1 ⟨rfl, I'⟩)
  have n1 : (1 : Int32) ≤ nI (dp M) := nI_le (a := 1) h1 (by omega)
  have eD : nI (dp M) - 1 = nI (dp M - 1) := pk_sub (b := 1) (by omega)
  have hin : vp_in (nI (dp M - 1)) 16 := vp_in_nI (by omega) (by decide)
  have cl : (nI (dp M - 1)).toNatClampNeg = dp M - 1 := nI_clamp (by omega)
  refine br_t n1 (rl_take C ?_)
  intro hc' hW
  dsimp only
  have W := hW 0 (by omega)
  rw [Nat.sub_zero] at W
  rw [eD, cl]
  refine ⟨hin, nm_e (nm_e (cq_x _ ?_))⟩
  rw [wd_pieces C.1 W]
  refine br_t n1 ?_
  unfold wpY_countPieces
  dsimp only
  refine rl_find C ?_
  intro ps' ss' ro' qs' hV hκ
  exact cq_pieces m C.1 _ (rl_I C hst hV hκ 0 (by omega)) false (fun tr' => ⟨rfl, rl_mk C hst _ _ _ _ _ _ _⟩) tr
theorem i_vc_points {k : Nat} {u : SX} {v : SY} (I : i_Rel k u v) (hk : k + 5 ≤ 2560) : wpX_points (fun r u' => wpY_points (fun r' v' => r' = r ∧ i_Rel (k + 5) u' v') v) u := by
  have I' : i_Rel (k + 5) u v := i_up I
  obtain ⟨m, M, dp, sx, sq, li, co, mw, ms, mu, mb, mz, sk, sp, st, hc, so, on, tw, stk, tr, fm, ps, ss, ro, qs, rfl, rfl, C, hst⟩ := I
  have hM16 := C.2.1
  have hD := (st_lt C.2.2.2.2 M (Nat.le_refl M)).1
  unfold wpX_points wpY_points
  dsimp only
  by_cases h1 : 1 ≤ dp M
  rotate_left
  · have n1 : ¬ (1 : Int32) ≤ nI (dp M) := nI_ge (b := 1) (by omega) (by decide)
    exact br_f n1 (br_f n1 ⟨rfl, I'⟩)
  have n1 : (1 : Int32) ≤ nI (dp M) := nI_le (a := 1) h1 (by omega)
  have eD : nI (dp M) - 1 = nI (dp M - 1) := pk_sub (b := 1) (by omega)
  have hin : vp_in (nI (dp M - 1)) 16 := vp_in_nI (by omega) (by decide)
  have cl : (nI (dp M - 1)).toNatClampNeg = dp M - 1 := nI_clamp (by omega)
  refine br_t n1 (rl_take C ?_)
  intro hc' hW
  dsimp only
  have W := hW 0 (by omega)
  rw [Nat.sub_zero] at W
  rw [eD, cl]
  refine ⟨hin, nm_e (nm_e (cq_x _ ?_))⟩
  rw [wd_points C.1 W]
  refine br_t n1 ?_
  unfold wpY_countPieces
  dsimp only
  refine rl_find C ?_
  intro ps' ss' ro' qs' hV hκ
  exact cq_pieces m C.1 _ (rl_I C hst hV hκ 0 (by omega)) true (fun tr' => ⟨rfl, rl_mk C hst _ _ _ _ _ _ _⟩) tr
theorem i_vc_holds {k : Nat} {u : SX} {v : SY} (I : i_Rel k u v) (hk : k + 5 ≤ 2560) (v1 : Int32) : wpX_holds (fun r u' => wpY_holds (fun r' v' => r' = r ∧ i_Rel (k + 5) u' v') v v1) u v1 := by
  have I' : i_Rel (k + 5) u v := i_up I
  obtain ⟨m, M, dp, sx, sq, li, co, mw, ms, mu, mb, mz, sk, sp, st, hc, so, on, tw, stk, tr, fm, ps, ss, ro, qs, rfl, rfl, C, hst⟩ := I
  have hM16 := C.2.1
  have hD := (st_lt C.2.2.2.2 M (Nat.le_refl M)).1
  unfold wpX_holds wpY_holds
  dsimp only
  by_cases h1 : 1 ≤ dp M
  rotate_left
  · have n1 : ¬ (1 : Int32) ≤ nI (dp M) := nI_ge (b := 1) (by omega) (by decide)
    exact br_f n1 (br_f n1 ⟨rfl, I'⟩)
  have n1 : (1 : Int32) ≤ nI (dp M) := nI_le (a := 1) h1 (by omega)
  have eD : nI (dp M) - 1 = nI (dp M - 1) := pk_sub (b := 1) (by omega)
  have hin : vp_in (nI (dp M - 1)) 16 := vp_in_nI (by omega) (by decide)
  have cl : (nI (dp M - 1)).toNatClampNeg = dp M - 1 := nI_clamp (by omega)
  rcases rg_cell C.1 v1 with ⟨c, hc', rfl, xb, yb⟩ | ⟨xb, yb⟩
  rotate_left
  · refine br_t n1 (xb _ (br_t rfl (br_t n1 (rl_find C ?_))))
    intro ps' ss' ro' qs' hV hκ
    exact yb _ _ _ _ _ _ _ _ _ _ _ _ _ _ _ (br_f (by decide) ⟨rfl, rl_mk C hst _ _ _ _ _ _ _⟩)
  refine br_t n1 (xb _ (br_f (by decide) (rl_take C ?_)))
  intro hc'' hW
  dsimp only
  have W := hW 0 (by omega)
  rw [Nat.sub_zero] at W
  rw [eD, cl, wd_bit C.1 W hc']
  refine ⟨hin, br_t n1 (rl_find C ?_)⟩
  intro ps' ss' ro' qs' hV hκ
  refine yb _ _ _ _ _ _ _ _ _ _ _ _ _ _ _ (br_t rfl ?_)
  refine rl_I C hst hV hκ 0 (by omega) _ c tr hc' ?_
  intro tr'
  refine ar_c (bi_eq0 _) (fun h => ⟨?_, rl_mk C hst _ _ _ _ _ _ _⟩) (fun h => ⟨?_, rl_mk C hst _ _ _ _ _ _ _⟩)
  · rw [h]; rfl
  · rw [show rl_U m M dp sx sq li co mw ms mu mb sk sp st 0 c = true by simpa using h]; rfl
theorem i_vc_at {k : Nat} {u : SX} {v : SY} (I : i_Rel k u v) (hk : k + 5 ≤ 2560) (v1 : Int32) (v2 : Int32) : wpX_at (fun r u' => wpY_at (fun r' v' => r' = r ∧ i_Rel (k + 5) u' v') v v1 v2) u v1 v2 := by
  have I' : i_Rel (k + 5) u v := i_up I
  obtain ⟨m, M, dp, sx, sq, li, co, mw, ms, mu, mb, mz, sk, sp, st, hc, so, on, tw, stk, tr, fm, ps, ss, ro, qs, rfl, rfl, C, hst⟩ := I
  have hM16 := C.2.1
  have hD := (st_lt C.2.2.2.2 M (Nat.le_refl M)).1
  unfold wpX_at wpY_at
  dsimp only
  by_cases h1 : 1 ≤ dp M
  rotate_left
  · have n1 : ¬ (1 : Int32) ≤ nI (dp M) := nI_ge (b := 1) (by omega) (by decide)
    exact br_f n1 (br_f n1 ⟨rfl, I'⟩)
  have n1 : (1 : Int32) ≤ nI (dp M) := nI_le (a := 1) h1 (by omega)
  have eD : nI (dp M) - 1 = nI (dp M - 1) := pk_sub (b := 1) (by omega)
  have hin : vp_in (nI (dp M - 1)) 16 := vp_in_nI (by omega) (by decide)
  have cl : (nI (dp M - 1)).toNatClampNeg = dp M - 1 := nI_clamp (by omega)
  rcases rg_frac v1 v2 with ⟨V, xa, ya⟩ | ⟨xa, ya⟩
  rotate_left
  · exact br_t n1 (xa _ (br_t rfl (br_t n1 (ya _ _ (br_f (by decide) ⟨rfl, I'⟩)))))
  refine br_t n1 (xa _ (br_f (by decide) (rl_take C ?_)))
  intro hc'' hW
  dsimp only
  have W := hW 0 (by omega)
  rw [Nat.sub_zero] at W
  rw [ar_i_t v1, ar_i_t v2]
  refine xm_cell (S := 0) (D := 0) m C.1 C.2.2.2.1.1 C.2.2.2.1.2.1 v1.toInt v2.toInt V ?_
  intro c hc' hat
  rw [← ar_i_t v1, ← ar_i_t v2]
  rw [eD, cl, wd_bit C.1 W hc']
  refine ⟨hin, br_t n1 (ya _ _ (br_t rfl (rl_find C ?_)))⟩
  intro ps' ss' ro' qs' hV hκ
  dsimp only
  rw [ar_i_t v1, ar_i_t v2]
  refine yo_cell m C.1 (xm_k mw ms mu mb) C.2.2.2.1.2.1 hV hκ v1.toInt v2.toInt V ?_
  intro c' hat'
  have ec := mk_at_u C.2.2.2.1.2.1 hat hat'
  subst ec
  refine rl_I C hst hV hκ 0 (by omega) _ c tr hc' ?_
  intro tr'
  refine ar_c (bi_eq0 _) (fun h => ⟨?_, rl_mk C hst _ _ _ _ _ _ _⟩) (fun h => ⟨?_, rl_mk C hst _ _ _ _ _ _ _⟩)
  · rw [h]; rfl
  · rw [show rl_U m M dp sx sq li co mw ms mu mb sk sp st 0 c = true by simpa using h]; rfl
theorem i_vc_same {k : Nat} {u : SX} {v : SY} (I : i_Rel k u v) (hk : k + 5 ≤ 2560) : wpX_same (fun r u' => wpY_same (fun r' v' => r' = r ∧ i_Rel (k + 5) u' v') v) u := by
  have I' : i_Rel (k + 5) u v := i_up I
  obtain ⟨m, M, dp, sx, sq, li, co, mw, ms, mu, mb, mz, sk, sp, st, hc, so, on, tw, stk, tr, fm, ps, ss, ro, qs, rfl, rfl, C, hst⟩ := I
  have hM16 := C.2.1
  have hD := (st_lt C.2.2.2.2 M (Nat.le_refl M)).1
  unfold wpX_same wpY_same
  dsimp only
  by_cases h1 : 2 ≤ dp M
  rotate_left
  · have n1 : ¬ (2 : Int32) ≤ nI (dp M) := nI_ge (b := 2) (by omega) (by decide)
    exact br_f n1 (br_f n1 ⟨rfl, I'⟩)
  have n1 : (2 : Int32) ≤ nI (dp M) := nI_le (a := 2) h1 (by omega)
  have eD : nI (dp M) - 1 = nI (dp M - 1) := pk_sub (b := 1) (by omega)
  have hin : vp_in (nI (dp M - 1)) 16 := vp_in_nI (by omega) (by decide)
  have cl : (nI (dp M - 1)).toNatClampNeg = dp M - 1 := nI_clamp (by omega)
  have eD2 : nI (dp M) - 2 = nI (dp M - 2) := pk_sub (b := 2) (by omega)
  have hin2 : vp_in (nI (dp M - 2)) 16 := vp_in_nI (by omega) (by decide)
  have cl2 : (nI (dp M - 2)).toNatClampNeg = dp M - 2 := nI_clamp (by omega)
  refine br_t n1 (rl_take C ?_)
  intro hc' hW
  dsimp only
  have W := hW 0 (by omega)
  have W' := hW 1 (by omega)
  rw [Nat.sub_zero] at W
  rw [show dp M - 1 - 1 = dp M - 2 by omega] at W'
  rw [eD, eD2, cl, cl2]
  refine ⟨hin2, hin, ar_c (wd_same C.1 W W') (fun h => ?_) (fun h => ?_)⟩
  · refine br_t n1 (rl_find C ?_)
    intro ps' ss' ro' qs' hV hκ
    exact cq_same m C.1 _ _ (rl_I C hst hV hκ 0 (by omega)) (rl_I C hst hV hκ 1 (by omega)) (fun _ tr' => ⟨rfl, rl_mk C hst _ _ _ _ _ _ _⟩) (fun ⟨j, hj, hn⟩ => absurd (h j hj) hn) tr
  · refine br_t n1 (rl_find C ?_)
    intro ps' ss' ro' qs' hV hκ
    exact cq_same m C.1 _ _ (rl_I C hst hV hκ 0 (by omega)) (rl_I C hst hV hκ 1 (by omega)) (fun h' => absurd h' h) (fun _ tr' => ⟨rfl, rl_mk C hst _ _ _ _ _ _ _⟩) tr
theorem i_vc_implies {k : Nat} {u : SX} {v : SY} (I : i_Rel k u v) (hk : k + 5 ≤ 2560) : wpX_implies (fun r u' => wpY_implies (fun r' v' => r' = r ∧ i_Rel (k + 5) u' v') v) u := by
  have I' : i_Rel (k + 5) u v := i_up I
  obtain ⟨m, M, dp, sx, sq, li, co, mw, ms, mu, mb, mz, sk, sp, st, hc, so, on, tw, stk, tr, fm, ps, ss, ro, qs, rfl, rfl, C, hst⟩ := I
  have hM16 := C.2.1
  have hD := (st_lt C.2.2.2.2 M (Nat.le_refl M)).1
  unfold wpX_implies wpY_implies
  dsimp only
  by_cases h1 : 2 ≤ dp M
  rotate_left
  · have n1 : ¬ (2 : Int32) ≤ nI (dp M) := nI_ge (b := 2) (by omega) (by decide)
    exact br_f n1 (br_f n1 ⟨rfl, I'⟩)
  have n1 : (2 : Int32) ≤ nI (dp M) := nI_le (a := 2) h1 (by omega)
  have eD : nI (dp M) - 1 = nI (dp M - 1) := pk_sub (b := 1) (by omega)
  have hin : vp_in (nI (dp M - 1)) 16 := vp_in_nI (by omega) (by decide)
  have cl : (nI (dp M - 1)).toNatClampNeg = dp M - 1 := nI_clamp (by omega)
  have eD2 : nI (dp M) - 2 = nI (dp M - 2) := pk_sub (b := 2) (by omega)
  have hin2 : vp_in (nI (dp M - 2)) 16 := vp_in_nI (by omega) (by decide)
  have cl2 : (nI (dp M - 2)).toNatClampNeg = dp M - 2 := nI_clamp (by omega)
  refine br_t n1 (rl_take C ?_)
  intro hc' hW
  dsimp only
  have W := hW 0 (by omega)
  have W' := hW 1 (by omega)
  rw [Nat.sub_zero] at W
  rw [show dp M - 1 - 1 = dp M - 2 by omega] at W'
  rw [eD, eD2, cl, cl2]
  refine ⟨hin2, hin, ar_c (wd_impl C.1 W W') (fun h => ?_) (fun h => ?_)⟩
  · refine br_t n1 (rl_find C ?_)
    intro ps' ss' ro' qs' hV hκ
    refine cq_impl m C.1 _ _ (rl_I C hst hV hκ 0 (by omega)) (rl_I C hst hV hκ 1 (by omega)) (fun _ tr' => ⟨rfl, rl_mk C hst _ _ _ _ _ _ _⟩) (fun ⟨j, hj, ha, hb⟩ => ?_) tr
    rw [h j hj ha] at hb
    cases hb
  · refine br_t n1 (rl_find C ?_)
    intro ps' ss' ro' qs' hV hκ
    exact cq_impl m C.1 _ _ (rl_I C hst hV hκ 0 (by omega)) (rl_I C hst hV hκ 1 (by omega)) (fun h' => absurd h' h) (fun _ tr' => ⟨rfl, rl_mk C hst _ _ _ _ _ _ _⟩) tr
end
