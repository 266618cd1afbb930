/-! products, the ring of pairs, the tower -/
theorem rs_S_r {R : Type} [Lean.Grind.CommRing R] {sg : R → Int} (h : rs_Ok R sg) (d r u v : R) : rs_S sg d (r * u) (r * v) = sg r * rs_S sg d u v := by
  have pos : ∀ r : R, 0 ≤ sg r → rs_S sg d (r * u) (r * v) = sg r * rs_S sg d u v := by
    intro r hr
    have key : ∀ w : R, (r * r * rs_f sg w = (r * w) * (r * w) ∧ 0 ≤ sg (r * w)) ∨ (r * r * rs_f sg w = -((r * w) * (r * w)) ∧ sg (r * w) ≤ 0) := by
      intro w
      have m := rs_m h r w
      have tr := rs_t h r
      rcases rs_f_c sg w with ⟨e, s⟩ | ⟨e, s⟩
      · left; refine ⟨by rw [e]; grind, ?_⟩
        rw [m]; exact Int.mul_nonneg hr s
      · right; refine ⟨by rw [e]; grind, ?_⟩
        rw [m]
        have : sg r = 0 ∨ sg r = 1 := by omega
        rcases this with z | z <;> rw [z] <;> omega
    rw [rs_S_eq h d (r * u) (r * v) _ _ (key u) (key v)]
    have e : r * r * rs_f sg u + d * (r * r * rs_f sg v) = (r * r) * (rs_f sg u + d * rs_f sg v) := by grind
    rw [e, rs_m h]
    have q := rs_sq h r
    have tr := rs_t h r
    have : sg (r * r) = sg r := by omega
    rw [this]; rfl
  by_cases hr : 0 ≤ sg r
  · exact pos r hr
  · have nr := rs_n h r
    have p := pos (-r) (by omega)
    have e1 : -r * u = -(r * u) := by grind
    have e2 : -r * v = -(r * v) := by grind
    rw [e1, e2, rs_S_n h, nr, Int.neg_mul] at p
    omega
theorem rs_S_d {R : Type} [Lean.Grind.CommRing R] {sg : R → Int} (h : rs_Ok R sg) {d : R} (hd : 0 ≤ sg d) (u v : R) : rs_S sg d (d * v) u = sg d * rs_S sg d u v := by
  have key : (d * d * rs_f sg v = (d * v) * (d * v) ∧ 0 ≤ sg (d * v)) ∨ (d * d * rs_f sg v = -((d * v) * (d * v)) ∧ sg (d * v) ≤ 0) := by
    have m := rs_m h d v
    have tr := rs_t h d
    rcases rs_f_c sg v with ⟨e, s⟩ | ⟨e, s⟩
    · left; refine ⟨by rw [e]; grind, ?_⟩
      rw [m]; exact Int.mul_nonneg hd s
    · right; refine ⟨by rw [e]; grind, ?_⟩
      rw [m]
      have : sg d = 0 ∨ sg d = 1 := by omega
      rcases this with z | z <;> rw [z] <;> omega
  rw [rs_S_eq h d (d * v) u _ _ key (rs_f_c sg u)]
  have e : d * d * rs_f sg v + d * rs_f sg u = d * (rs_f sg u + d * rs_f sg v) := by grind
  rw [e, rs_m h]; rfl
theorem rs_M_A {R : Type} [Lean.Grind.CommRing R] {sg : R → Int} (h : rs_Ok R sg) {d u1 v1 : R} (hd : 0 ≤ sg d) (hu : 0 ≤ sg u1) (hv : 0 ≤ sg v1) (u2 v2 : R) :
    rs_S sg d (u1 * u2 + d * (v1 * v2)) (u1 * v2 + v1 * u2) = rs_S sg d u1 v1 * rs_S sg d u2 v2 := by
  have pos : ∀ u2 v2 : R, 0 ≤ rs_S sg d u2 v2 → rs_S sg d (u1 * u2 + d * (v1 * v2)) (u1 * v2 + v1 * u2) = rs_S sg d u1 v1 * rs_S sg d u2 v2 := by
    intro u2 v2 hy
    have ty := rs_S_t h d u2 v2
    have p := rs_S_r h d u1 u2 v2
    have q := rs_S_r h d v1 (d * v2) u2
    rw [rs_S_d h hd] at q
    have g := rs_G_all h hd (u1 * u2) (u1 * v2) (v1 * (d * v2)) (v1 * u2)
    have e : u1 * u2 + v1 * (d * v2) = u1 * u2 + d * (v1 * v2) := by grind
    unfold rs_G at g
    rw [e, p, q] at g
    have k := rs_S_A h hd hu hv
    have m := rs_m h d v1
    have tu := rs_t h u1
    have tv := rs_t h v1
    have td := rs_t h d
    have : rs_S sg d u2 v2 = 0 ∨ rs_S sg d u2 v2 = 1 := by omega
    rcases this with z | z
    · rw [z] at g ⊢
      simp at g ⊢
      exact g
    · rw [z] at g ⊢
      have c : sg v1 * (sg d * 1) = sg (d * v1) := by rw [m, Int.mul_one, Int.mul_comm]
      rw [c] at g
      have nn : 0 ≤ sg (d * v1) := by rw [m]; exact Int.mul_nonneg hd hv
      omega
  by_cases hy : 0 ≤ rs_S sg d u2 v2
  · exact pos u2 v2 hy
  · have n := rs_S_n h d u2 v2
    have p := pos (-u2) (-v2) (by omega)
    have e1 : u1 * -u2 + d * (v1 * -v2) = -(u1 * u2 + d * (v1 * v2)) := by grind
    have e2 : u1 * -v2 + v1 * -u2 = -(u1 * v2 + v1 * u2) := by grind
    rw [e1, e2, rs_S_n h, n, Int.mul_neg] at p
    omega
theorem rs_M_B {R : Type} [Lean.Grind.CommRing R] {sg : R → Int} (h : rs_Ok R sg) {d u1 v1 u2 v2 : R} (hd : 0 ≤ sg d)
    (a1 : 0 ≤ sg u1) (b1 : sg v1 ≤ 0) (a2 : 0 ≤ sg u2) (b2 : sg v2 ≤ 0) :
    rs_S sg d (u1 * u2 + d * (v1 * v2)) (u1 * v2 + v1 * u2) = rs_S sg d u1 v1 * rs_S sg d u2 v2 := by
  have na := rs_n h v1
  have nb := rs_n h v2
  have k1 := rs_S_eq h d u1 v1 (u1 * u1) (-(v1 * v1)) (Or.inl ⟨rfl, a1⟩) (Or.inr ⟨rfl, b1⟩)
  have k2 := rs_S_eq h d u2 v2 (u2 * u2) (-(v2 * v2)) (Or.inl ⟨rfl, a2⟩) (Or.inr ⟨rfl, b2⟩)
  have m1 : 0 ≤ sg (u1 * u2) := by rw [rs_m h]; exact Int.mul_nonneg a1 a2
  have m2 : 0 ≤ sg (d * (v1 * v2)) := by
    have : v1 * v2 = (-v1) * (-v2) := by grind
    rw [this, rs_m h, rs_m h]
    exact Int.mul_nonneg hd (Int.mul_nonneg (by omega) (by omega))
  have m3 : 0 ≤ sg (u1 * -v2) := by rw [rs_m h]; exact Int.mul_nonneg a1 (by omega)
  have m4 : 0 ≤ sg (-v1 * u2) := by rw [rs_m h]; exact Int.mul_nonneg (by omega) a2
  have p1 := rs_pp h _ _ m1 m2
  have p2 := rs_pp h _ _ m3 m4
  have e : u1 * -v2 + -v1 * u2 = -(u1 * v2 + v1 * u2) := by grind
  rw [e, rs_n h (u1 * v2 + v1 * u2)] at p2
  have k3 := rs_S_eq h d (u1 * u2 + d * (v1 * v2)) (u1 * v2 + v1 * u2) _ _ (Or.inl ⟨rfl, by omega⟩) (Or.inr ⟨rfl, by omega⟩)
  rw [k1, k2, k3, ← rs_m h]
  congr 1
  grind
theorem rs_M {R : Type} [Lean.Grind.CommRing R] {sg : R → Int} (h : rs_Ok R sg) {d : R} (hd : 0 ≤ sg d) (u1 v1 u2 v2 : R) :
    rs_S sg d (u1 * u2 + d * (v1 * v2)) (u1 * v2 + v1 * u2) = rs_S sg d u1 v1 * rs_S sg d u2 v2 := by
  have pos : ∀ u1 v1 u2 v2 : R, 0 ≤ sg u1 → 0 ≤ sg u2 → rs_S sg d (u1 * u2 + d * (v1 * v2)) (u1 * v2 + v1 * u2) = rs_S sg d u1 v1 * rs_S sg d u2 v2 := by
    intro u1 v1 u2 v2 h1 h2
    by_cases A1 : 0 ≤ sg v1
    · exact rs_M_A h hd h1 A1 _ _
    by_cases A2 : 0 ≤ sg v2
    · have := rs_M_A h hd h2 A2 u1 v1
      rw [Int.mul_comm, ← this]
      congr 1 <;> grind
    exact rs_M_B h hd h1 (by omega) h2 (by omega)
  have half : ∀ u1 v1 u2 v2 : R, 0 ≤ sg u1 → rs_S sg d (u1 * u2 + d * (v1 * v2)) (u1 * v2 + v1 * u2) = rs_S sg d u1 v1 * rs_S sg d u2 v2 := by
    intro u1 v1 u2 v2 h1
    by_cases h2 : 0 ≤ sg u2
    · exact pos _ _ _ _ h1 h2
    · have n := rs_S_n h d u2 v2
      have n2 := rs_n h u2
      have p := pos u1 v1 (-u2) (-v2) h1 (by omega)
      have e1 : u1 * -u2 + d * (v1 * -v2) = -(u1 * u2 + d * (v1 * v2)) := by grind
      have e2 : u1 * -v2 + v1 * -u2 = -(u1 * v2 + v1 * u2) := by grind
      rw [e1, e2, rs_S_n h, n, Int.mul_neg] at p
      omega
  by_cases h1 : 0 ≤ sg u1
  · exact half _ _ _ _ h1
  · have n := rs_S_n h d u1 v1
    have n2 := rs_n h u1
    have p := half (-u1) (-v1) u2 v2 (by omega)
    have e1 : -u1 * u2 + d * (-v1 * v2) = -(u1 * u2 + d * (v1 * v2)) := by grind
    have e2 : -u1 * v2 + -v1 * u2 = -(u1 * v2 + v1 * u2) := by grind
    rw [e1, e2, rs_S_n h, n, Int.neg_mul] at p
    omega
def rs_pn (R : Type) [Lean.Grind.CommRing R] (n : Nat) : R × R := (OfNat.ofNat n, 0)
def rs_pmul {R : Type} [Lean.Grind.CommRing R] (d : R) (x y : R × R) : R × R := (x.1 * y.1 + d * (x.2 * y.2), x.1 * y.2 + x.2 * y.1)
def rs_pi (R : Type) [Lean.Grind.CommRing R] (i : Int) : R × R := if 0 ≤ i then rs_pn R i.toNat else (-(rs_pn R (-i).toNat).1, 0)
theorem rs_of_s (R : Type) [Lean.Grind.CommRing R] (n : Nat) : (OfNat.ofNat (n + 1) : R) = OfNat.ofNat n + 1 := Lean.Grind.Semiring.ofNat_succ n
theorem rs_pi_2 (R : Type) [Lean.Grind.CommRing R] (i : Int) : (rs_pi R i).2 = 0 := by
  unfold rs_pi
  split <;> rfl
theorem rs_pi_n (R : Type) [Lean.Grind.CommRing R] (i : Int) : (rs_pi R (-i)).1 = -(rs_pi R i).1 := by
  unfold rs_pi
  rcases Int.lt_trichotomy i 0 with z | z | z
  · rw [if_pos (by omega), if_neg (by omega)]
    grind
  · subst z
    rw [if_pos (by omega), if_pos (by omega)]
    show (0 : R) = -(0 : R)
    grind
  · rw [if_neg (by omega), if_pos (by omega), Int.neg_neg]
theorem rs_pi_p (R : Type) [Lean.Grind.CommRing R] (n : Nat) : rs_pi R (n : Int) = rs_pn R n := by
  unfold rs_pi
  rw [if_pos (by omega), Int.toNat_natCast]
def rs_ring {R : Type} [Lean.Grind.CommRing R] (d : R) : Lean.Grind.CommRing (R × R) where
  add x y := (x.1 + y.1, x.2 + y.2)
  mul := rs_pmul d
  natCast := ⟨rs_pn R⟩
  ofNat n := ⟨rs_pn R n⟩
  nsmul := ⟨fun n x => rs_pmul d (rs_pn R n) x⟩
  npow := ⟨fun x n => Nat.rec (rs_pn R 1) (fun _ y => rs_pmul d y x) n⟩
  neg x := (-x.1, -x.2)
  sub x y := (x.1 - y.1, x.2 - y.2)
  intCast := ⟨rs_pi R⟩
  zsmul := ⟨fun i x => rs_pmul d (rs_pi R i) x⟩
  add_zero := by
    intro a; show (a.1 + 0, a.2 + 0) = a
    apply Prod.ext <;> grind
  add_comm := by
    intro a b; show (a.1 + b.1, a.2 + b.2) = (b.1 + a.1, b.2 + a.2)
    apply Prod.ext <;> grind
  add_assoc := by
    intro a b c; show (a.1 + b.1 + c.1, a.2 + b.2 + c.2) = (a.1 + (b.1 + c.1), a.2 + (b.2 + c.2))
    apply Prod.ext <;> grind
  mul_assoc := by
    intro a b c; show rs_pmul d (rs_pmul d a b) c = rs_pmul d a (rs_pmul d b c)
    unfold rs_pmul
    apply Prod.ext <;> grind
  mul_one := by
    intro a; show rs_pmul d a (1, 0) = a
    unfold rs_pmul
    apply Prod.ext <;> grind
  one_mul := by
    intro a; show rs_pmul d (1, 0) a = a
    unfold rs_pmul
    apply Prod.ext <;> grind
  left_distrib := by
    intro a b c; show rs_pmul d a (b.1 + c.1, b.2 + c.2) = ((rs_pmul d a b).1 + (rs_pmul d a c).1, (rs_pmul d a b).2 + (rs_pmul d a c).2)
    unfold rs_pmul
    apply Prod.ext <;> grind
  right_distrib := by
    intro a b c; show rs_pmul d (a.1 + b.1, a.2 + b.2) c = ((rs_pmul d a c).1 + (rs_pmul d b c).1, (rs_pmul d a c).2 + (rs_pmul d b c).2)
    unfold rs_pmul
    apply Prod.ext <;> grind
  zero_mul := by
    intro a; show rs_pmul d (0, 0) a = (0, 0)
    unfold rs_pmul
    apply Prod.ext <;> grind
  mul_zero := by
    intro a; show rs_pmul d a (0, 0) = (0, 0)
    unfold rs_pmul
    apply Prod.ext <;> grind
  pow_zero := by intro a; rfl
  pow_succ := by intro a n; rfl
  ofNat_succ := by
    intro n; show rs_pn R (n + 1) = ((rs_pn R n).1 + 1, (rs_pn R n).2 + 0)
    unfold rs_pn
    apply Prod.ext
    · exact rs_of_s R n
    · grind
  mul_comm := by
    intro a b; show rs_pmul d a b = rs_pmul d b a
    unfold rs_pmul
    apply Prod.ext <;> grind
  neg_add_cancel := by
    intro a; show (-a.1 + a.1, -a.2 + a.2) = (0, 0)
    apply Prod.ext <;> grind
  sub_eq_add_neg := by
    intro a b; show (a.1 - b.1, a.2 - b.2) = (a.1 + -b.1, a.2 + -b.2)
    apply Prod.ext <;> grind
  neg_zsmul := by
    intro i a; show rs_pmul d (rs_pi R (-i)) a = (-(rs_pmul d (rs_pi R i) a).1, -(rs_pmul d (rs_pi R i) a).2)
    have e1 := rs_pi_n R i
    have e2 := rs_pi_2 R i
    have e3 := rs_pi_2 R (-i)
    unfold rs_pmul
    apply Prod.ext
    · show (rs_pi R (-i)).1 * a.1 + d * ((rs_pi R (-i)).2 * a.2) = -((rs_pi R i).1 * a.1 + d * ((rs_pi R i).2 * a.2))
      rw [e1, e2, e3]; grind
    · show (rs_pi R (-i)).1 * a.2 + (rs_pi R (-i)).2 * a.1 = -((rs_pi R i).1 * a.2 + (rs_pi R i).2 * a.1)
      rw [e1, e2, e3]; grind
  zsmul_natCast_eq_nsmul := by
    intro n a; show rs_pmul d (rs_pi R (n : Int)) a = rs_pmul d (rs_pn R n) a
    rw [rs_pi_p]
  intCast_ofNat := by
    intro n; exact rs_pi_p R n
  intCast_neg := by
    intro i; show rs_pi R (-i) = (-(rs_pi R i).1, -(rs_pi R i).2)
    apply Prod.ext
    · exact rs_pi_n R i
    · show (rs_pi R (-i)).2 = -(rs_pi R i).2
      rw [rs_pi_2, rs_pi_2]; grind
def rs_psg {R : Type} [Lean.Grind.CommRing R] (sg : R → Int) (d : R) (x : R × R) : Int := rs_S sg d x.1 x.2
theorem rs_adj {R : Type} [Lean.Grind.CommRing R] {sg : R → Int} (h : rs_Ok R sg) {d : R} (hd : 0 ≤ sg d) :
    @rs_Ok (R × R) (rs_ring d) (rs_psg sg d) := by
  refine ⟨?_, ?_, ?_, ?_, ?_, ?_⟩
  · intro x; exact rs_S_t h d x.1 x.2
  · intro x y; exact rs_M h hd x.1 x.2 y.1 y.2
  · intro x y hx hy
    have := rs_G_all h hd x.1 x.2 y.1 y.2 hx hy
    show 0 ≤ rs_S sg d (x.1 + y.1) (x.2 + y.2)
    omega
  · intro x y hx hy
    have hx' : 0 < rs_S sg d x.1 x.2 := hx
    have := rs_G_all h hd x.1 x.2 y.1 y.2 (by omega) hy
    show 0 < rs_S sg d (x.1 + y.1) (x.2 + y.2)
    omega
  · intro x; exact rs_S_n h d x.1 x.2
  · show rs_S sg d 1 0 = 1
    have o : sg (1 : R) = 1 := h.2.2.2.2.2
    have z := rs_0 h
    have := rs_S_A h hd (u := (1 : R)) (v := (0 : R)) (by omega) (by omega)
    omega
theorem rs_adj_e {R : Type} [Lean.Grind.CommRing R] {sg : R → Int} (h : rs_Ok R sg) (d x : R) : rs_psg sg d (x, 0) = sg x := by
  show rs_S sg d x 0 = sg x
  have z := rs_0 h
  rw [rs_S_eq h d x 0 (rs_f sg x) (0 * 0) (rs_f_c sg x) (Or.inl ⟨rfl, by omega⟩)]
  have e : rs_f sg x + d * (0 * 0) = rs_f sg x := by grind
  rw [e, rs_f_s h]
/-- a ring with a sign that holds the integers and the roots of all numbers below N -/
theorem rs_tower (N : Nat) : ∃ (R : Type) (_ : Lean.Grind.CommRing R) (sg : R → Int) (e : Int → R) (rt : Nat → R),
    rs_Ok R sg ∧ (∀ x y, e (x + y) = e x + e y) ∧ (∀ x y, e (x * y) = e x * e y) ∧ (∀ x, e (-x) = -e x) ∧ e 0 = 0 ∧ e 1 = 1 ∧
    (∀ x, sg (e x) = Int.sign x) ∧ ∀ d, d < N → 0 ≤ sg (rt d) ∧ rt d * rt d = e (d : Int) := by
  induction N with
  | zero =>
    refine ⟨Int, inferInstance, Int.sign, id, fun _ => 0, ⟨?_, ?_, ?_, ?_, ?_, ?_⟩, fun _ _ => rfl, fun _ _ => rfl, fun _ => rfl, rfl, rfl, fun _ => rfl, fun d hd => absurd hd (by omega)⟩
    · intro x
      rcases Int.lt_trichotomy x 0 with z | z | z
      · left; exact Int.sign_eq_neg_one_of_neg z
      · right; left; rw [z]; rfl
      · right; right; exact Int.sign_eq_one_of_pos z
    · intro x y; exact Int.sign_mul x y
    · intro x y hx hy
      rw [Int.sign_nonneg_iff] at *
      omega
    · intro x y hx hy
      rw [Int.sign_nonneg_iff] at *
      rw [Int.sign_pos_iff] at *
      omega
    · intro x; exact Int.sign_neg x
    · rfl
  | succ N ih =>
    obtain ⟨R, I, sg, e, rt, h, e1, e2, e3, e4, e5, e6, hr⟩ := ih
    have hd : 0 ≤ sg (e (N : Int)) := by
      rw [e6, Int.sign_nonneg_iff]; omega
    refine ⟨R × R, rs_ring (e (N : Int)), rs_psg sg (e (N : Int)), fun x => (e x, 0), fun d => if d = N then (0, 1) else (rt d, 0), rs_adj h hd, ?_, ?_, ?_, ?_, ?_, ?_, ?_⟩
    · intro x y
      show (e (x + y), (0 : R)) = (e x + e y, 0 + 0)
      rw [e1]; apply Prod.ext <;> grind
    · intro x y
      show (e (x * y), (0 : R)) = (e x * e y + e N * (0 * 0), e x * 0 + 0 * e y)
      rw [e2]; apply Prod.ext <;> grind
    · intro x
      show (e (-x), (0 : R)) = (-e x, -0)
      rw [e3]; apply Prod.ext <;> grind
    · show (e 0, (0 : R)) = (0, 0)
      rw [e4]
    · show (e 1, (0 : R)) = (1, 0)
      rw [e5]
    · intro x; rw [rs_adj_e h, e6]
    · intro d hdN
      by_cases z : d = N
      · subst z
        simp only [if_pos]
        constructor
        · show 0 ≤ rs_S sg (e (d : Int)) 0 1
          have o : sg (1 : R) = 1 := h.2.2.2.2.2
          have z := rs_0 h
          have := rs_S_A h hd (u := (0 : R)) (v := (1 : R)) (by omega) (by omega)
          omega
        · show ((0 : R) * 0 + e d * (1 * 1), (0 : R) * 1 + 1 * 0) = (e d, 0)
          apply Prod.ext <;> grind
      · simp only [if_neg z]
        have := hr d (by omega)
        constructor
        · rw [rs_adj_e h]; exact this.1
        · show (rt d * rt d + e N * (0 * 0), rt d * 0 + 0 * rt d) = (e d, 0)
          rw [this.2]
          apply Prod.ext <;> grind
