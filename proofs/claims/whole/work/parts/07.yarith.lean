/-! the reference's numbers -/
theorem py_sgn {post : Int32 → Prop} {u : SY} (x : Int) (hx : x.natAbs < 2 ^ 63) (hp : post (ar_i (Int.sign x))) : wpY_signOf post u (ar_l x) := by
  obtain ⟨f_marks, f_made, f_depth, a_as, a_bs, a_cs, a_ps, a_ss, a_roots, a_qs, a_sorts, a_ones, a_twos, a_stack, a_truth⟩ := u
  have s3 := sf_sg3 x
  have k := ar_l0 (a := x) hx
  refine ar_c k.2.1 (fun p => ar_c k.1 (fun q => ?_) (fun q => ?_)) (fun p => ?_)
  · have : Int.sign x = 0 := by omega
    rw [this] at hp; exact hp
  · have : Int.sign x = -1 := by omega
    rw [this] at hp; exact hp
  · have : Int.sign x = 1 := by omega
    rw [this] at hp; exact hp
theorem sf_ss_b (u v d : Int) : (sf_ss u v d).natAbs ≤ 1 := by
  unfold sf_ss
  dsimp only
  have a := ar_sg u
  have b := ar_sg v
  have c := ar_sg (u * u - v * v * d)
  have m := ar_b (a := Int.sign u) (b := Int.sign (u * u - v * v * d)) (A := 1) (B := 1) a c
  repeat' split
  all_goals omega
theorem py_ss {post : Int32 → Prop} {u : SY} (x y d : Int) (hx : x.natAbs < 2 ^ 62) (hy : y.natAbs < 2 ^ 62) (hd : d.natAbs < 2 ^ 62)
    (h1 : (x * x).natAbs < 2 ^ 61) (h2 : (y * y * d).natAbs < 2 ^ 61) (hp : post (ar_i (sf_ss x y d))) : wpY_signOfSum post u (ar_l x) (ar_l y) (ar_l d) := by
  obtain ⟨f_marks, f_made, f_depth, a_as, a_bs, a_cs, a_ps, a_ss, a_roots, a_qs, a_sorts, a_ones, a_twos, a_stack, a_truth⟩ := u
  unfold wpY_signOfSum
  dsimp only
  refine py_sgn x (by omega) ?_
  have last : ∀ two : Int, two.natAbs ≤ 1 → two = (if d = 0 then 0 else Int.sign y) → wY_signOfSum_23 post (ar_l x) (ar_l y) (ar_l d) (ar_i (Int.sign x)) (ar_i two) f_marks f_made f_depth a_as a_bs a_cs a_ps a_ss a_roots a_qs a_sorts a_ones a_twos a_stack a_truth := by
    intro two b2 h2'
    have b1 := ar_sg x
    unfold sf_ss at hp
    dsimp only at hp
    rw [← h2'] at hp
    refine ar_c (ar_i0 (a := two) (by omega)).2.2.1 (fun z => ?_) (fun z => ?_)
    · rw [if_pos z] at hp; exact hp
    rw [if_neg z] at hp
    refine ar_c (ar_ieq (a := Int.sign x) (b := two) (by omega) (by omega)) (fun z => ?_) (fun z => ?_)
    · rw [if_pos z] at hp; exact hp
    rw [if_neg z] at hp
    refine ar_c (ar_i0 (a := Int.sign x) (by omega)).2.2.1 (fun z => ?_) (fun z => ?_)
    · rw [if_pos z] at hp; exact hp
    rw [if_neg z] at hp
    rw [ar_l_mul, ar_l_mul, ar_l_mul, ar_l_sub]
    refine py_sgn _ (by omega) ?_
    rw [ar_i_mul]; exact hp
  refine ar_c (ar_l0 (a := d) (by omega)).2.2.1 (fun z => ?_) (fun z => ?_)
  · exact last 0 (by decide) (by rw [if_pos z])
  · refine py_sgn y (by omega) ?_
    exact last _ (ar_sg y) (by rw [if_neg z])
theorem py_cmp {post : Int32 → Prop} {f_marks f_made f_depth : Int32} {a_as a_bs a_cs : Nat → Int32} {a_ps a_ss a_roots a_qs : Nat → Int64} {a_sorts a_ones a_twos a_stack a_truth : Nat → Int32}
    (i : Nat) (hi : i < 9) (P S D Q : Int) (v1 : sf_V P S D Q) (v2 : sf_V (a_ps i).toInt (a_ss i).toInt (a_roots i).toInt (a_qs i).toInt)
    (hp : post (ar_i (sf_cy P S D Q (a_ps i).toInt (a_ss i).toInt (a_roots i).toInt (a_qs i).toInt))) :
    wpY_compare post (f_marks, f_made, f_depth, a_as, a_bs, a_cs, a_ps, a_ss, a_roots, a_qs, a_sorts, a_ones, a_twos, a_stack, a_truth) (ar_l P) (ar_l S) (ar_l D) (ar_l Q) (nI i) := by
  have hin : vp_in (nI i) 9 := vp_in_nI hi (by decide)
  have hc : (nI i).toNatClampNeg = i := nI_clamp (by omega)
  obtain ⟨b1, b2, b3, b4⟩ := sf_V_b v1
  obtain ⟨c1, c2, c3, c4⟩ := sf_V_b v2
  unfold wpY_compare
  dsimp only
  have er : a_roots (nI i).toNatClampNeg = ar_l (a_roots i).toInt := by rw [hc]; exact ar_l_t _
  unfold sf_cy at hp
  dsimp only at hp
  rw [hc, ar_l_t (a_ps i), ar_l_t (a_ss i), ar_l_t (a_qs i)]
  generalize (a_ps i).toInt = p2 at *
  generalize (a_ss i).toInt = s2 at *
  generalize (a_qs i).toInt = q2 at *
  rw [ar_l_mul, ar_l_mul, ar_l_sub, ar_l_mul, ar_l_mul]
  have ba : (q2 * P - Q * p2).natAbs ≤ 20000 := by
    have := ar_b c4 b1
    have := ar_b b4 c1
    omega
  have bb : (q2 * S).natAbs ≤ 100 := ar_b c4 b2
  have bc : (Q * s2).natAbs ≤ 100 := ar_b b4 c2
  generalize q2 * P - Q * p2 = a at *
  generalize q2 * S = b at *
  generalize Q * s2 = c at *
  have baa : (a * a).natAbs ≤ 400000000 := ar_b ba ba
  have bbb : (b * b * D).natAbs ≤ 45000000 := ar_b (A := 10000) (ar_b bb bb) b3
  have bcc : (c * c * (a_roots i).toInt).natAbs ≤ 45000000 := ar_b (A := 10000) (ar_b bc bc) c3
  refine ⟨hin, hin, nm_e ⟨hin, nm_e ⟨hin, nm_e ?_⟩⟩⟩
  refine py_ss a b D (by omega) (by omega) (by omega) (by omega) (by omega) ?_
  have bo := sf_ss_b a b D
  have last : ∀ two : Int, two.natAbs ≤ 1 → two = (if (a_roots i).toInt = 0 then 0 else Int.sign c) →
      wY_compare_79 post (ar_l D) (nI i) (ar_l a) (ar_l b) (ar_l c) (ar_i (sf_ss a b D)) (ar_i two) f_marks f_made f_depth a_as a_bs a_cs a_ps a_ss a_roots a_qs a_sorts a_ones a_twos a_stack a_truth := by
    intro two b2 h2'
    rw [← h2'] at hp
    unfold wY_compare_79
    rw [er]
    refine ar_c (ar_ieq (a := sf_ss a b D) (b := two) (by omega) (by omega)) (fun z => ?_) (fun z => ?_)
    · rw [if_pos z] at hp
      refine ar_c (ar_i0 (a := sf_ss a b D) (by omega)).2.2.1 (fun z => ?_) (fun z => ⟨hin, ?_⟩)
      · rw [if_pos z] at hp; exact hp
      · rw [if_neg z] at hp
        have e2 : (2 : Int64) * ar_l a = ar_l (2 * a) := ar_l_mul 2 a
        rw [e2]
        simp only [ar_l_mul, ar_l_add, ar_l_sub]
        have b2ab : (2 * a * b).natAbs ≤ 4000000 := ar_b (A := 40000) (by omega) bb
        have bA : (a * a + b * b * D - c * c * (a_roots i).toInt).natAbs ≤ 490000000 := by omega
        generalize 2 * a * b = y at *
        generalize a * a + b * b * D - c * c * (a_roots i).toInt = x at *
        have t1 : (x * x).natAbs ≤ 240100000000000000 := ar_b bA bA
        have t2 : (y * y * D).natAbs ≤ 72000000000000000 := ar_b (A := 16000000000000) (ar_b b2ab b2ab) b3
        refine py_ss x y D (by omega) (by omega) (by omega) (by omega) (by omega) ?_
        rw [ar_i_mul]; exact hp
    · rw [if_neg z] at hp
      refine ar_c (ar_ile (a := sf_ss a b D) (b := two) (by omega) (by omega)) (fun z => ?_) (fun z => ?_)
      · rw [if_pos z] at hp; exact hp
      · rw [if_neg z] at hp; exact hp
  refine ⟨hin, ?_⟩
  rw [show a_roots i = ar_l (a_roots i).toInt from ar_l_t _]
  refine ar_c (ar_l0 (a := (a_roots i).toInt) (by omega)).2.2.1 (fun z => ?_) (fun z => ?_)
  · exact last 0 (by decide) (by rw [if_pos z])
  · refine py_sgn c (by omega) ?_
    exact last _ (ar_sg c) (by rw [if_neg z])
theorem py_sa {post : Int32 → Prop} {f_marks f_made f_depth : Int32} {a_as a_bs a_cs : Nat → Int32} {a_ps a_ss a_roots a_qs : Nat → Int64} {a_sorts a_ones a_twos a_stack a_truth : Nat → Int32}
    (k i : Nat) (hk : k < 4) (hi : i < 9) (v2 : sf_V (a_ps i).toInt (a_ss i).toInt (a_roots i).toInt (a_qs i).toInt)
    (ha : (a_as k).toInt.natAbs ≤ 30) (hb : (a_bs k).toInt.natAbs ≤ 30) (hcc : (a_cs k).toInt.natAbs ≤ 30)
    (hp : post (ar_i (sf_sa (a_as k).toInt (a_bs k).toInt (a_cs k).toInt (a_ps i).toInt (a_ss i).toInt (a_roots i).toInt (a_qs i).toInt))) :
    wpY_signAt post (f_marks, f_made, f_depth, a_as, a_bs, a_cs, a_ps, a_ss, a_roots, a_qs, a_sorts, a_ones, a_twos, a_stack, a_truth) (nI k) (nI i) := by
  have hin : vp_in (nI i) 9 := vp_in_nI hi (by decide)
  have hkn : vp_in (nI k) 4 := vp_in_nI hk (by decide)
  have hc : (nI i).toNatClampNeg = i := nI_clamp (by omega)
  have hc2 : (nI k).toNatClampNeg = k := nI_clamp (by omega)
  obtain ⟨c1, c2, c3, c4⟩ := sf_V_b v2
  unfold wpY_signAt
  dsimp only
  rw [hc, hc2]
  have e2 : (2 : Int32) * a_as k = ar_i (2 * (a_as k).toInt) := by
    have := ar_i_mul 2 (a_as k).toInt
    rw [← ar_i_t] at this
    exact this
  rw [e2, ar_il (a := 2 * (a_as k).toInt) (by omega), ar_64, ar_64, ar_64]
  rw [ar_l_t (a_ps i), ar_l_t (a_ss i), ar_l_t (a_qs i), ar_l_t (a_roots i)]
  unfold sf_sa at hp
  generalize (a_ps i).toInt = p at *
  generalize (a_ss i).toInt = s at *
  generalize (a_qs i).toInt = q at *
  generalize (a_roots i).toInt = d at *
  generalize (a_as k).toInt = a at *
  generalize (a_bs k).toInt = b at *
  generalize (a_cs k).toInt = c at *
  refine ⟨hin, nm_e ⟨hin, nm_e ⟨hin, nm_e ⟨hin, nm_e ⟨hkn, hkn, hkn, ?_⟩⟩⟩⟩⟩
  simp only [ar_l_mul, ar_l_add]
  refine nm_e ⟨hkn, hkn, nm_e ?_⟩
  have t1 : (p * p).natAbs ≤ 10000 := ar_b c1 c1
  have t2 : (s * s * d).natAbs ≤ 4500 := ar_b (A := 1) (ar_b c2 c2) c3
  have t3 : (a * (p * p + s * s * d)).natAbs ≤ 435000 := by
    have := ar_b (a := a) (b := p * p + s * s * d) (A := 30) (B := 14500) ha (by omega)
    omega
  have t4 : (b * q * p).natAbs ≤ 300000 := ar_b (A := 3000) (ar_b hb c4) c1
  have t5 : (c * q * q).natAbs ≤ 300000 := ar_b (A := 3000) (ar_b hcc c4) c4
  have t6 : (2 * a * p * s).natAbs ≤ 6000 := ar_b (A := 6000) (ar_b (A := 60) (by omega) c1) c2
  have t7 : (b * q * s).natAbs ≤ 3000 := ar_b (A := 3000) (ar_b hb c4) c2
  have t8 : (a * (p * p + s * s * d) + b * q * p + c * q * q).natAbs ≤ 1035000 := by omega
  have t9 : (2 * a * p * s + b * q * s).natAbs ≤ 9000 := by omega
  generalize a * (p * p + s * s * d) + b * q * p + c * q * q = x at *
  generalize 2 * a * p * s + b * q * s = y at *
  have u1 : (x * x).natAbs ≤ 1071225000000 := ar_b t8 t8
  have u2 : (y * y * d).natAbs ≤ 364500000000 := ar_b (A := 81000000) (ar_b t9 t9) c3
  exact py_ss x y d (by omega) (by omega) (by omega) (by omega) (by omega) hp
