/-! sums in the ring with a root of d put to it -/
def rs_G {R : Type} [Lean.Grind.CommRing R] (sg : R → Int) (d u1 v1 u2 v2 : R) : Prop :=
  0 ≤ rs_S sg d u1 v1 → 0 ≤ rs_S sg d u2 v2 →
  (rs_S sg d u1 v1 = 0 ∧ rs_S sg d u2 v2 = 0 ∧ rs_S sg d (u1 + u2) (v1 + v2) = 0) ∨
  ((rs_S sg d u1 v1 = 1 ∨ rs_S sg d u2 v2 = 1) ∧ rs_S sg d (u1 + u2) (v1 + v2) = 1)
theorem rs_G_c {R : Type} [Lean.Grind.CommRing R] {sg : R → Int} {d u1 v1 u2 v2 : R} (g : rs_G sg d u2 v2 u1 v1) : rs_G sg d u1 v1 u2 v2 := by
  intro h1 h2
  have := g h2 h1
  have e1 : u2 + u1 = u1 + u2 := by grind
  have e2 : v2 + v1 = v1 + v2 := by grind
  rw [e1, e2] at this
  omega
theorem rs_mul01 {a b : Int} (ha : a = -1 ∨ a = 0 ∨ a = 1) (hb : b = 0 ∨ b = 1) : (b = 0 ∧ a * b = 0) ∨ (b = 1 ∧ a * b = a) := by
  rcases hb with e | e <;> rw [e] <;> simp
/-- both comps not below 0: their sign -/
theorem rs_S_A {R : Type} [Lean.Grind.CommRing R] {sg : R → Int} (h : rs_Ok R sg) {d u v : R} (hd : 0 ≤ sg d) (hu : 0 ≤ sg u) (hv : 0 ≤ sg v) :
    (sg u = 0 ∧ sg (d * v) = 0 ∧ rs_S sg d u v = 0) ∨ ((sg u = 1 ∨ sg (d * v) = 1) ∧ rs_S sg d u v = 1) := by
  have e1 := rs_f_s h u
  have e2 : sg (d * rs_f sg v) = sg (d * v) := by rw [rs_m h, rs_m h, rs_f_s h]
  have e3 : 0 ≤ sg (d * v) := by
    rw [rs_m h]
    exact Int.mul_nonneg hd hv
  have := rs_pp h (rs_f sg u) (d * rs_f sg v) (by omega) (by omega)
  unfold rs_S
  omega
theorem rs_G_A {R : Type} [Lean.Grind.CommRing R] {sg : R → Int} (h : rs_Ok R sg) {d u1 v1 : R} (hd : 0 ≤ sg d) (hu : 0 ≤ sg u1) (hv : 0 ≤ sg v1) (u2 v2 : R) :
    rs_G sg d u1 v1 u2 v2 := by
  intro h1 h2
  have k1 := rs_S_A h hd hu hv
  have nf : ∀ w : R, (-(rs_f sg w) = (-w) * (-w) ∧ 0 ≤ sg (-w)) ∨ (-(rs_f sg w) = -((-w) * (-w)) ∧ sg (-w) ≤ 0) := by
    intro w
    have nw := rs_n h w
    rcases rs_f_c sg w with ⟨e, s⟩ | ⟨e, s⟩
    · right; exact ⟨by rw [e]; grind, by omega⟩
    · left; exact ⟨by rw [e]; grind, by omega⟩
  have al : sg (rs_f sg (u1 + u2) + -(rs_f sg u2)) = sg u1 := by
    have := rs_L h (u1 + u2) (-u2) _ _ (rs_f_c sg (u1 + u2)) (nf u2)
    rw [← this]
    congr 1; grind
  have be : sg (rs_f sg (v1 + v2) + -(rs_f sg v2)) = sg v1 := by
    have := rs_L h (v1 + v2) (-v2) _ _ (rs_f_c sg (v1 + v2)) (nf v2)
    rw [← this]
    congr 1; grind
  have e3 : 0 ≤ sg (d * v1) := by
    rw [rs_m h]
    exact Int.mul_nonneg hd hv
  have be2 : sg (d * (rs_f sg (v1 + v2) + -(rs_f sg v2))) = sg (d * v1) := by rw [rs_m h, rs_m h, be]
  have p1 := rs_pp h (rs_f sg (u1 + u2) + -(rs_f sg u2)) (d * (rs_f sg (v1 + v2) + -(rs_f sg v2))) (by omega) (by omega)
  have p2 := rs_pp h ((rs_f sg (u1 + u2) + -(rs_f sg u2)) + (d * (rs_f sg (v1 + v2) + -(rs_f sg v2)))) (rs_f sg u2 + d * rs_f sg v2) (by omega) h2
  have e4 : ((rs_f sg (u1 + u2) + -(rs_f sg u2)) + (d * (rs_f sg (v1 + v2) + -(rs_f sg v2)))) + (rs_f sg u2 + d * rs_f sg v2) = rs_f sg (u1 + u2) + d * rs_f sg (v1 + v2) := by grind
  rw [e4] at p2
  have f1 : rs_S sg d u2 v2 = sg (rs_f sg u2 + d * rs_f sg v2) := rfl
  have f2 : rs_S sg d (u1 + u2) (v1 + v2) = sg (rs_f sg (u1 + u2) + d * rs_f sg (v1 + v2)) := rfl
  rw [← f1, ← f2] at p2
  omega
theorem rs_G_N {R : Type} [Lean.Grind.CommRing R] {sg : R → Int} (h : rs_Ok R sg) (n1 n2 t w n q1 q2 : R)
    (e1 : n = (n1 + n2) + (t + t)) (e2 : sg t = sg w) (e3 : w = n1 * q1 + q2 * n2) (hq1 : 0 ≤ sg q1) (hq2 : 0 ≤ sg q2)
    (h1 : 0 ≤ sg n1) (h2 : 0 ≤ sg n2) :
    (sg n1 = 0 ∧ sg n2 = 0 ∧ sg n = 0) ∨ ((sg n1 = 1 ∨ sg n2 = 1) ∧ sg n = 1) := by
  have m1 : sg (n1 * q1) = sg n1 * sg q1 := rs_m h _ _
  have m2 : sg (q2 * n2) = sg q2 * sg n2 := rs_m h _ _
  have p1 : 0 ≤ sg (n1 * q1) := by rw [m1]; exact Int.mul_nonneg h1 hq1
  have p2 : 0 ≤ sg (q2 * n2) := by rw [m2]; exact Int.mul_nonneg hq2 h2
  have z1 : sg n1 = 0 → sg (n1 * q1) = 0 := by intro z; rw [m1, z]; simp
  have z2 : sg n2 = 0 → sg (q2 * n2) = 0 := by intro z; rw [m2, z]; simp
  have r1 := rs_pp h _ _ p1 p2
  have r2 := rs_pp h _ _ h1 h2
  rw [← e3] at r1
  have r3 := rs_pp h t t (by omega) (by omega)
  have r4 := rs_pp h (n1 + n2) (t + t) (by omega) (by omega)
  rw [← e1] at r4
  omega
theorem rs_G_B {R : Type} [Lean.Grind.CommRing R] {sg : R → Int} (h : rs_Ok R sg) {d u1 v1 u2 v2 : R} (hd : 0 ≤ sg d)
    (a1 : 0 ≤ sg u1) (b1 : sg v1 ≤ 0) (a2 : 0 ≤ sg u2) (b2 : sg v2 ≤ 0) : rs_G sg d u1 v1 u2 v2 := by
  intro h1 h2
  have na := rs_n h v1
  have nb := rs_n h v2
  have k1 := rs_S_eq h d u1 v1 (u1 * u1) (-(v1 * v1)) (Or.inl ⟨rfl, a1⟩) (Or.inr ⟨rfl, b1⟩)
  have k2 := rs_S_eq h d u2 v2 (u2 * u2) (-(v2 * v2)) (Or.inl ⟨rfl, a2⟩) (Or.inr ⟨rfl, b2⟩)
  have su := rs_pp h u1 u2 a1 a2
  have sv := rs_pp h (-v1) (-v2) (by omega) (by omega)
  have e0 : -v1 + -v2 = -(v1 + v2) := by grind
  rw [e0] at sv
  have nc := rs_n h (v1 + v2)
  have k3 := rs_S_eq h d (u1 + u2) (v1 + v2) ((u1 + u2) * (u1 + u2)) (-((v1 + v2) * (v1 + v2))) (Or.inl ⟨rfl, by omega⟩) (Or.inr ⟨rfl, by omega⟩)
  have m1 : 0 ≤ sg (u1 * u2) := by rw [rs_m h]; exact Int.mul_nonneg a1 a2
  have m2 : 0 ≤ sg (d * (v1 * v2)) := by
    have : v1 * v2 = (-v1) * (-v2) := by grind
    rw [this, rs_m h, rs_m h]
    exact Int.mul_nonneg hd (Int.mul_nonneg (by omega) (by omega))
  have nd := rs_n h (d * (v1 * v2))
  have kt := rs_L h (u1 * u2) (-(d * (v1 * v2))) ((u1 * u2) * (u1 * u2)) (-((d * (v1 * v2)) * (d * (v1 * v2))))
    (Or.inl ⟨rfl, m1⟩) (Or.inr ⟨by grind, by omega⟩)
  have sq1 := rs_sq h u2
  have sq2 := rs_sq h v1
  have q2 : 0 ≤ sg (d * (v1 * v1)) := by rw [rs_m h]; exact Int.mul_nonneg hd (by omega)
  have := rs_G_N h (u1 * u1 + d * -(v1 * v1)) (u2 * u2 + d * -(v2 * v2)) (u1 * u2 + -(d * (v1 * v2)))
    ((u1 * u2) * (u1 * u2) + -((d * (v1 * v2)) * (d * (v1 * v2)))) ((u1 + u2) * (u1 + u2) + d * -((v1 + v2) * (v1 + v2))) (u2 * u2) (d * (v1 * v1))
    (by grind) kt (by grind) (by omega) q2 (by omega) (by omega)
  omega
theorem rs_G_C {R : Type} [Lean.Grind.CommRing R] {sg : R → Int} (h : rs_Ok R sg) {d u1 v1 u2 v2 : R} (hd : 0 ≤ sg d)
    (a1 : sg u1 ≤ 0) (b1 : 0 ≤ sg v1) (a2 : sg u2 ≤ 0) (b2 : 0 ≤ sg v2) : rs_G sg d u1 v1 u2 v2 := by
  intro h1 h2
  have na := rs_n h u1
  have nb := rs_n h u2
  have k1 := rs_S_eq h d u1 v1 (-(u1 * u1)) (v1 * v1) (Or.inr ⟨rfl, a1⟩) (Or.inl ⟨rfl, b1⟩)
  have k2 := rs_S_eq h d u2 v2 (-(u2 * u2)) (v2 * v2) (Or.inr ⟨rfl, a2⟩) (Or.inl ⟨rfl, b2⟩)
  have sv := rs_pp h v1 v2 b1 b2
  have su := rs_pp h (-u1) (-u2) (by omega) (by omega)
  have e0 : -u1 + -u2 = -(u1 + u2) := by grind
  rw [e0] at su
  have nc := rs_n h (u1 + u2)
  have k3 := rs_S_eq h d (u1 + u2) (v1 + v2) (-((u1 + u2) * (u1 + u2))) ((v1 + v2) * (v1 + v2)) (Or.inr ⟨rfl, by omega⟩) (Or.inl ⟨rfl, by omega⟩)
  have m2 : 0 ≤ sg (d * (v1 * v2)) := by rw [rs_m h, rs_m h]; exact Int.mul_nonneg hd (Int.mul_nonneg b1 b2)
  have m1 : 0 ≤ sg (u1 * u2) := by
    have : u1 * u2 = (-u1) * (-u2) := by grind
    rw [this, rs_m h]
    exact Int.mul_nonneg (by omega) (by omega)
  have nd := rs_n h (u1 * u2)
  have kt := rs_L h (d * (v1 * v2)) (-(u1 * u2)) ((d * (v1 * v2)) * (d * (v1 * v2))) (-((u1 * u2) * (u1 * u2)))
    (Or.inl ⟨rfl, m2⟩) (Or.inr ⟨by grind, by omega⟩)
  have sq1 := rs_sq h u2
  have sq2 := rs_sq h v1
  have q2 : 0 ≤ sg (d * (v1 * v1)) := by rw [rs_m h]; exact Int.mul_nonneg hd (by omega)
  have := rs_G_N h (-(u1 * u1) + d * (v1 * v1)) (-(u2 * u2) + d * (v2 * v2)) (d * (v1 * v2) + -(u1 * u2))
    ((d * (v1 * v2)) * (d * (v1 * v2)) + -((u1 * u2) * (u1 * u2))) (-((u1 + u2) * (u1 + u2)) + d * ((v1 + v2) * (v1 + v2))) (u2 * u2) (d * (v1 * v1))
    (by grind) kt (by grind) (by omega) q2 (by omega) (by omega)
  omega
/-- both comps not above 0, and yet not below: then both are 0 -/
theorem rs_S_D {R : Type} [Lean.Grind.CommRing R] {sg : R → Int} (h : rs_Ok R sg) {d u v : R} (hd : sg d = 1) (hu : sg u ≤ 0) (hv : sg v ≤ 0)
    (hS : 0 ≤ rs_S sg d u v) : sg u = 0 ∧ sg v = 0 := by
  have nu := rs_n h u
  have nv := rs_n h v
  have k := rs_S_A h (u := -u) (v := -v) (d := d) (by omega) (by omega) (by omega)
  have e : sg (d * -v) = - sg v := by rw [rs_m h, hd, nv]; omega
  rw [rs_S_n h] at k
  omega
theorem rs_Q {R : Type} [Lean.Grind.CommRing R] {sg : R → Int} (h : rs_Ok R sg) {d u1 v1 u2 v2 : R} (hd : sg d = 1)
    (a1 : 0 ≤ sg u1) (b1 : sg v1 ≤ 0) (a2 : sg u2 ≤ 0) (b2 : 0 ≤ sg v2)
    (h1 : 0 ≤ rs_S sg d u1 v1) (h2 : 0 ≤ rs_S sg d u2 v2) (h3 : rs_S sg d (u1 + u2) (v1 + v2) ≤ 0) :
    rs_S sg d u1 v1 = 0 ∧ rs_S sg d u2 v2 = 0 ∧ rs_S sg d (u1 + u2) (v1 + v2) = 0 := by
  have n1 := rs_S_n h d u1 v1
  have n2 := rs_S_n h d u2 v2
  have n3 := rs_S_n h d (u1 + u2) (v1 + v2)
  have e1 : -(u1 + u2) + u1 = -u2 := by grind
  have e2 : -(v1 + v2) + v1 = -v2 := by grind
  have e3 : -(u1 + u2) + u2 = -u1 := by grind
  have e4 : -(v1 + v2) + v2 = -v1 := by grind
  have A : 0 ≤ sg (-(u1 + u2)) → 0 ≤ sg (-(v1 + v2)) → _ := fun p q => rs_G_A h (d := d) (by omega) p q u1 v1
  have B : 0 ≤ sg (-(u1 + u2)) → sg (-(v1 + v2)) ≤ 0 → _ := fun p q => rs_G_B h (d := d) (by omega) p q a1 b1
  have C : sg (-(u1 + u2)) ≤ 0 → 0 ≤ sg (-(v1 + v2)) → _ := fun p q => rs_G_C h (d := d) (by omega) p q a2 b2
  have D : sg (-(u1 + u2)) ≤ 0 → sg (-(v1 + v2)) ≤ 0 → _ := fun p q => rs_S_D h (d := d) hd p q (by omega)
  unfold rs_G at A B C
  rw [e1, e2] at A B
  rw [e3, e4] at C
  omega
theorem rs_S_t {R : Type} [Lean.Grind.CommRing R] {sg : R → Int} (h : rs_Ok R sg) (d u v : R) : rs_S sg d u v = -1 ∨ rs_S sg d u v = 0 ∨ rs_S sg d u v = 1 := rs_t h _
theorem rs_G_all {R : Type} [Lean.Grind.CommRing R] {sg : R → Int} (h : rs_Ok R sg) {d : R} (hd : 0 ≤ sg d) (u1 v1 u2 v2 : R) : rs_G sg d u1 v1 u2 v2 := by
  have td := rs_t h d
  by_cases z : sg d = 0
  · have k : ∀ u v, rs_S sg d u v = sg u := by
      intro u v
      have : sg (d * rs_f sg v) = 0 := by rw [rs_m h, z]; simp
      have e : rs_S sg d u v = sg (d * rs_f sg v + rs_f sg u) := by unfold rs_S; congr 1; grind
      rw [e, rs_null h _ _ this, rs_f_s h]
    unfold rs_G
    rw [k, k, k]
    exact rs_pp h u1 u2
  · have hd1 : sg d = 1 := by omega
    have t1 := rs_S_t h d (u1 + u2) (v1 + v2)
    have t2 := rs_S_t h d u1 v1
    have t3 := rs_S_t h d u2 v2
    have n1 := rs_S_n h d u1 v1
    have n2 := rs_S_n h d u2 v2
    have n3 := rs_S_n h d (u1 + u2) (v1 + v2)
    have m1 := rs_n h u1
    have m2 := rs_n h v1
    have m3 := rs_n h u2
    have m4 := rs_n h v2
    have e1 : -u2 + -u1 = -(u1 + u2) := by grind
    have e2 : -v2 + -v1 = -(v1 + v2) := by grind
    have e3 : u2 + u1 = u1 + u2 := by grind
    have e4 : v2 + v1 = v1 + v2 := by grind
    have e5 : -u1 + -u2 = -(u1 + u2) := by grind
    have e6 : -v1 + -v2 = -(v1 + v2) := by grind
    by_cases A1 : 0 ≤ sg u1 ∧ 0 ≤ sg v1
    · exact rs_G_A h hd A1.1 A1.2 _ _
    by_cases A2 : 0 ≤ sg u2 ∧ 0 ≤ sg v2
    · exact rs_G_c (rs_G_A h hd A2.1 A2.2 _ _)
    by_cases D1 : sg u1 ≤ 0 ∧ sg v1 ≤ 0
    · intro h1 h2
      have := rs_S_D h hd1 D1.1 D1.2 h1
      omega
    by_cases D2 : sg u2 ≤ 0 ∧ sg v2 ≤ 0
    · intro h1 h2
      have := rs_S_D h hd1 D2.1 D2.2 h2
      omega
    by_cases B1 : 0 ≤ sg u1
    · by_cases B2 : 0 ≤ sg u2
      · exact rs_G_B h hd B1 (by omega) B2 (by omega)
      · intro h1 h2
        have q1 := rs_Q h hd1 B1 (v1 := v1) (u2 := u2) (v2 := v2) (by omega) (by omega) (by omega) h1 h2
        have q2 := rs_Q h hd1 (u1 := -u2) (v1 := -v2) (u2 := -u1) (v2 := -v1) (by omega) (by omega) (by omega) (by omega)
        rw [e1, e2] at q2
        omega
    · by_cases B2 : 0 ≤ sg u2
      · apply rs_G_c
        intro h1 h2
        have q1 := rs_Q h hd1 B2 (v1 := v2) (u2 := u1) (v2 := v1) (by omega) (by omega) (by omega) h1 h2
        have q2 := rs_Q h hd1 (u1 := -u1) (v1 := -v1) (u2 := -u2) (v2 := -v2) (by omega) (by omega) (by omega) (by omega)
        rw [e5, e6] at q2
        rw [e3, e4] at q1 ⊢
        omega
      · exact rs_G_C h hd (by omega) (by omega) (by omega) (by omega)
