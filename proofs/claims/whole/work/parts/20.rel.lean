/-! the relation, and what both sides do with it -/
def rl_C (m M : Nat) (dp : Nat → Nat) (sx : Nat → Nat → Nat) (sq li co mw ms mu mb mz sk sp st so on tw : Nat → Int32) : Prop :=
  m ≤ 8 ∧ M ≤ 16 ∧ xz_B sq li co ∧ xm_M (xz_P sq li co) m mw ms mu mb mz ∧ st_R M dp sx sk sp st so on tw
noncomputable def rl_T (m : Nat) (dp : Nat → Nat) (sx : Nat → Nat → Nat) (sq li co mw ms mu mb sk sp st : Nat → Int32) (c i : Nat) : Bool :=
  st_T sk dp sx (st_W (xm_k mw ms mu mb) m sq li co sp st c) i
noncomputable def rl_U (m M : Nat) (dp : Nat → Nat) (sx : Nat → Nat → Nat) (sq li co mw ms mu mb sk sp st : Nat → Int32) (b c : Nat) : Bool :=
  rl_T m dp sx sq li co mw ms mu mb sk sp st c (sx M (dp M - 1 - b))
def i_Rel (_k : Nat) (u : SX) (v : SY) : Prop :=
  ∃ (m M : Nat) (dp : Nat → Nat) (sx : Nat → Nat → Nat) (sq li co mw ms mu mb mz sk sp st hc so on tw stk tr : Nat → Int32) (fm : Int32) (ps ss ro qs : Nat → Int64),
    u = (nI m, nI M, nI (dp M), sq, li, co, mw, ms, mu, mb, mz, sk, sp, st, hc) ∧ v = (fm, nI M, nI (dp M), sq, li, co, ps, ss, ro, qs, so, on, tw, stk, tr) ∧
    rl_C m M dp sx sq li co mw ms mu mb mz sk sp st so on tw ∧ ∀ p, p < dp M → stk p = nI (sx M p)
theorem i_up {k : Nat} {u : SX} {v : SY} (h : i_Rel k u v) : i_Rel (k + 5) u v := h
theorem rl_mk {k m M : Nat} {dp : Nat → Nat} {sx : Nat → Nat → Nat} {sq li co mw ms mu mb mz sk sp st so on tw stk : Nat → Int32} (C : rl_C m M dp sx sq li co mw ms mu mb mz sk sp st so on tw)
    (hst : ∀ p, p < dp M → stk p = nI (sx M p)) (hc tr : Nat → Int32) (fm : Int32) (ps ss ro qs : Nat → Int64) :
    i_Rel k (nI m, nI M, nI (dp M), sq, li, co, mw, ms, mu, mb, mz, sk, sp, st, hc) (fm, nI M, nI (dp M), sq, li, co, ps, ss, ro, qs, so, on, tw, stk, tr) :=
  ⟨m, M, dp, sx, sq, li, co, mw, ms, mu, mb, mz, sk, sp, st, hc, so, on, tw, stk, tr, fm, ps, ss, ro, qs, rfl, rfl, C, hst⟩
theorem i_vc0 : wpX_init (fun u => wpY_init (fun v => i_Rel 0 u v)) := by
  have z : ((fun _ => 0 : Nat → Int32) 0).toInt = 0 := by decide
  refine rl_mk (k := 0) (m := 0) (M := 0) (dp := fun _ => 0) (sx := fun _ _ => 0) ⟨by omega, by omega, ?_, ⟨?_, ?_, ⟨?_, ?_⟩, ?_⟩, rfl, ?_⟩ ?_ _ _ _ _ _ _ _
  · intro k hk
    show mk_B (0 : Int32).toInt (0 : Int32).toInt (0 : Int32).toInt
    unfold mk_B
    decide
  · intro i hi; omega
  · intro i j h hj; omega
  · intro i hi; omega
  · rintro w ⟨k, _, h⟩
    have h' : mk_Z (0 : Int32).toInt (0 : Int32).toInt (0 : Int32).toInt w := h
    have e : (0 : Int32).toInt = 0 := by decide
    rw [e] at h'
    unfold mk_Z at h'
    omega
  · intro i hi; omega
  · intro i hi; omega
  · intro p hp
    have : p < 0 := hp
    omega
/-- the reference's marks are the component's -/
theorem rl_find {post : SY → Prop} {m M : Nat} {dp : Nat → Nat} {sx : Nat → Nat → Nat} {sq li co mw ms mu mb mz sk sp st so on tw stk tr : Nat → Int32} {fm f_made f_depth : Int32} {ps ss ro qs : Nat → Int64}
    (C : rl_C m M dp sx sq li co mw ms mu mb mz sk sp st so on tw)
    (hp : ∀ ps ss ro qs, ym_V ps ss ro qs m → (∀ i, i < m → ym_k ps ss ro qs i = xm_k mw ms mu mb i) → post (nI m, f_made, f_depth, sq, li, co, ps, ss, ro, qs, so, on, tw, stk, tr)) :
    wpY_findMarks post (fm, f_made, f_depth, sq, li, co, ps, ss, ro, qs, so, on, tw, stk, tr) := by
  obtain ⟨h1, h2, h3, h4, h5⟩ := C
  refine yf_find h3 ?_
  intro m' ps ss ro qs hm' hM
  obtain ⟨e, ek⟩ := mk_uniq h4.2.1 hM.2.1 h4.2.2.1 hM.2.2
  subst e
  exact hp ps ss ro qs hM.1 ek
theorem rl_z {m M : Nat} {dp : Nat → Nat} {sx : Nat → Nat → Nat} {sq li co mw ms mu mb mz sk sp st so on tw : Nat → Int32} (C : rl_C m M dp sx sq li co mw ms mu mb mz sk sp st so on tw) :
    ∀ k, k < 4 → ∀ z, xz_P sq li co k z → ∃ i, i < m ∧ xm_k mw ms mu mb i = z :=
  fun k hk z hz => C.2.2.2.1.2.2.1.2 z ⟨k, hk, hz⟩
theorem rl_I {m M : Nat} {dp : Nat → Nat} {sx : Nat → Nat → Nat} {sq li co mw ms mu mb mz sk sp st so on tw stk : Nat → Int32} {ps ss ro qs : Nat → Int64}
    (C : rl_C m M dp sx sq li co mw ms mu mb mz sk sp st so on tw) (hst : ∀ p, p < dp M → stk p = nI (sx M p))
    (hV : ym_V ps ss ro qs m) (hκ : ∀ i, i < m → ym_k ps ss ro qs i = xm_k mw ms mu mb i) (b : Nat) (hb : b < dp M) :
    cq_I m (nI M) (nI (dp M)) sq li co ps ss ro qs so on tw stk b (rl_U m M dp sx sq li co mw ms mu mb sk sp st b) := by
  intro post c tr hc hp
  exact yj_true m C.1 (xm_k mw ms mu mb) C.2.2.2.1.2.1 (rl_z C) hV hκ C.2.2.1 M C.2.1 dp sx C.2.2.2.2 (rl_T m dp sx sq li co mw ms mu mb sk sp st) (fun _ _ => rfl) hst b hb c hc hp
theorem rl_take {post : SX → Prop} {m M : Nat} {dp : Nat → Nat} {sx : Nat → Nat → Nat} {sq li co mw ms mu mb mz sk sp st hc so on tw : Nat → Int32}
    (C : rl_C m M dp sx sq li co mw ms mu mb mz sk sp st so on tw) {f_depth : Int32}
    (hp : ∀ hc, (∀ b, b < dp M → wd_W m (rl_U m M dp sx sq li co mw ms mu mb sk sp st b) (hc (dp M - 1 - b))) → post (nI m, nI M, f_depth, sq, li, co, mw, ms, mu, mb, mz, sk, sp, st, hc)) :
    wpX_takeSteps post (nI m, nI M, f_depth, sq, li, co, mw, ms, mu, mb, mz, sk, sp, st, hc) := by
  refine sx_steps m C.1 C.2.2.2.1 C.2.2.1 M C.2.1 dp sx C.2.2.2.2 (rl_T m dp sx sq li co mw ms mu mb sk sp st) (fun _ _ => rfl) ?_
  intro hc hH
  refine hp hc ?_
  intro b hb j hj
  exact hH (dp M - 1 - b) (by omega) j hj
/-! arguments -/
theorem rg_poly (p : Int32) : (∃ j, j < 4 ∧ p = nI j ∧ (∀ post : Int32 → Prop, post 1 → wpX_isPolynomial post p) ∧ (∀ (post : Int32 → Prop) (v : SY), post 0 → wpY_noPolynomial post v p)) ∨
    ((∀ post : Int32 → Prop, post 0 → wpX_isPolynomial post p) ∧ (∀ (post : Int32 → Prop) (v : SY), post 1 → wpY_noPolynomial post v p)) := by
  by_cases h : p < 0
  · right
    refine ⟨fun post hp => br_t h hp, fun post v hp => ?_⟩
    obtain ⟨f_marks, f_made, f_depth, a_as, a_bs, a_cs, a_ps, a_ss, a_roots, a_qs, a_sorts, a_ones, a_twos, a_stack, a_truth⟩ := v
    exact br_t h hp
  · obtain ⟨j, hj, rfl⟩ := nI_of h
    by_cases h4 : j < 4
    · left
      refine ⟨j, h4, rfl, fun post hp => br_f h (br_f (nI_ge (b := 4) h4 (by decide)) hp), fun post v hp => ?_⟩
      obtain ⟨f_marks, f_made, f_depth, a_as, a_bs, a_cs, a_ps, a_ss, a_roots, a_qs, a_sorts, a_ones, a_twos, a_stack, a_truth⟩ := v
      exact br_f h (br_t (nI_le (b := 3) (by omega) (by decide)) hp)
    · right
      refine ⟨fun post hp => br_f h (br_t (nI_le (a := 4) (by omega) (by omega)) hp), fun post v hp => ?_⟩
      obtain ⟨f_marks, f_made, f_depth, a_as, a_bs, a_cs, a_ps, a_ss, a_roots, a_qs, a_sorts, a_ones, a_twos, a_stack, a_truth⟩ := v
      exact br_f h (br_f (nI_ge (a := 3) (by omega) (by omega)) hp)
theorem rg_i32 (p : Int32) : -2 ^ 31 ≤ p.toInt ∧ p.toInt < 2 ^ 31 := ⟨Int32.le_toInt p, Int32.toInt_lt p⟩
theorem rg_lt (p : Int32) (c : Int) (hc : c.natAbs < 2 ^ 31) : (p < ar_i c ↔ p.toInt < c) ∧ (ar_i c < p ↔ c < p.toInt) ∧ (p ≤ ar_i c ↔ p.toInt ≤ c) := by
  rw [Int32.lt_iff_toInt_lt, Int32.lt_iff_toInt_lt, Int32.le_iff_toInt_le, ar_ti hc]
  exact ⟨Iff.rfl, Iff.rfl, Iff.rfl⟩
theorem rg_m30 : (-30 : Int32) = ar_i (-30) := by decide
theorem rg_30 : (30 : Int32) = ar_i 30 := by decide
theorem rg_m100 : (-100 : Int32) = ar_i (-100) := by decide
theorem rg_100 : (100 : Int32) = ar_i 100 := by decide
theorem rg_1 : (1 : Int32) = ar_i 1 := by decide
theorem rg_coef (p : Int32) : (p.toInt.natAbs ≤ 30 ∧ (∀ post : Int32 → Prop, post 1 → wpX_isCoefficient post p) ∧ (∀ (post : Int32 → Prop) (v : SY), post 0 → wpY_far post v p)) ∨
    ((∀ post : Int32 → Prop, post 0 → wpX_isCoefficient post p) ∧ (∀ (post : Int32 → Prop) (v : SY), post 1 → wpY_far post v p)) := by
  have a := (rg_lt p (-30) (by decide)).1
  have b := (rg_lt p 30 (by decide)).2.1
  have c := (rg_lt p 30 (by decide)).2.2
  rw [← rg_m30] at a
  rw [← rg_30] at b c
  by_cases h : p.toInt < -30
  · right
    refine ⟨fun post hp => br_t (a.mpr h) hp, fun post v hp => ?_⟩
    obtain ⟨f_marks, f_made, f_depth, a_as, a_bs, a_cs, a_ps, a_ss, a_roots, a_qs, a_sorts, a_ones, a_twos, a_stack, a_truth⟩ := v
    exact br_t (a.mpr h) hp
  · have h' : ¬ p < -30 := fun z => h (a.mp z)
    by_cases h2 : 30 < p.toInt
    · right
      refine ⟨fun post hp => br_f h' (br_t (b.mpr h2) hp), fun post v hp => ?_⟩
      obtain ⟨f_marks, f_made, f_depth, a_as, a_bs, a_cs, a_ps, a_ss, a_roots, a_qs, a_sorts, a_ones, a_twos, a_stack, a_truth⟩ := v
      exact br_f h' (br_f (fun z => by have := c.mp z; omega) hp)
    · left
      refine ⟨by omega, fun post hp => br_f h' (br_f (fun z => h2 (b.mp z)) hp), fun post v hp => ?_⟩
      obtain ⟨f_marks, f_made, f_depth, a_as, a_bs, a_cs, a_ps, a_ss, a_roots, a_qs, a_sorts, a_ones, a_twos, a_stack, a_truth⟩ := v
      exact br_f h' (br_t (c.mpr (by omega)) hp)
theorem rg_frac (p q : Int32) : (sf_V p.toInt 0 0 q.toInt ∧ (∀ post : Int32 → Prop, post 1 → wpX_isFraction post p q) ∧ (∀ (post : Int32 → Prop) (v : SY), post 0 → wpY_noNumber post v p q)) ∨
    ((∀ post : Int32 → Prop, post 0 → wpX_isFraction post p q) ∧ (∀ (post : Int32 → Prop) (v : SY), post 1 → wpY_noNumber post v p q)) := by
  have a := (rg_lt p (-100) (by decide)).1
  have b := (rg_lt p 100 (by decide)).2.1
  have c := (rg_lt q 1 (by decide)).1
  have d := (rg_lt q 100 (by decide)).2.1
  have e := (rg_lt q 100 (by decide)).2.2
  rw [← rg_m100] at a
  rw [← rg_100] at b d e
  rw [← rg_1] at c
  by_cases h : p.toInt < -100
  · right
    refine ⟨fun post hp => br_t (a.mpr h) hp, fun post v hp => ?_⟩
    obtain ⟨f_marks, f_made, f_depth, a_as, a_bs, a_cs, a_ps, a_ss, a_roots, a_qs, a_sorts, a_ones, a_twos, a_stack, a_truth⟩ := v
    exact br_t (a.mpr h) hp
  have h' : ¬ p < -100 := fun z => h (a.mp z)
  by_cases h2 : 100 < p.toInt
  · right
    refine ⟨fun post hp => br_f h' (br_t (b.mpr h2) hp), fun post v hp => ?_⟩
    obtain ⟨f_marks, f_made, f_depth, a_as, a_bs, a_cs, a_ps, a_ss, a_roots, a_qs, a_sorts, a_ones, a_twos, a_stack, a_truth⟩ := v
    exact br_f h' (br_t (b.mpr h2) hp)
  have h2' : ¬ 100 < p := fun z => h2 (b.mp z)
  by_cases h3 : q.toInt < 1
  · right
    refine ⟨fun post hp => br_f h' (br_f h2' (br_t (c.mpr h3) hp)), fun post v hp => ?_⟩
    obtain ⟨f_marks, f_made, f_depth, a_as, a_bs, a_cs, a_ps, a_ss, a_roots, a_qs, a_sorts, a_ones, a_twos, a_stack, a_truth⟩ := v
    exact br_f h' (br_f h2' (br_t (c.mpr h3) hp))
  have h3' : ¬ q < 1 := fun z => h3 (c.mp z)
  by_cases h4 : 100 < q.toInt
  · right
    refine ⟨fun post hp => br_f h' (br_f h2' (br_f h3' (br_t (d.mpr h4) hp))), fun post v hp => ?_⟩
    obtain ⟨f_marks, f_made, f_depth, a_as, a_bs, a_cs, a_ps, a_ss, a_roots, a_qs, a_sorts, a_ones, a_twos, a_stack, a_truth⟩ := v
    exact br_f h' (br_f h2' (br_f h3' (br_f (fun z => by have := e.mp z; omega) hp)))
  · left
    refine ⟨by unfold sf_V; omega, fun post hp => br_f h' (br_f h2' (br_f h3' (br_f (fun z => h4 (d.mp z)) hp))), fun post v hp => ?_⟩
    obtain ⟨f_marks, f_made, f_depth, a_as, a_bs, a_cs, a_ps, a_ss, a_roots, a_qs, a_sorts, a_ones, a_twos, a_stack, a_truth⟩ := v
    exact br_f h' (br_f h2' (br_f h3' (br_t (e.mpr (by omega)) hp)))
theorem rg_cell {m : Nat} (hm : m ≤ 8) (p : Int32) {f_made f_depth : Int32} {sq li co mw ms mu mb mz sk sp st hc : Nat → Int32} :
    (∃ c, c ≤ 2 * m ∧ p = nI c ∧ (∀ post : Int32 → Prop, post 1 → wpX_isCell post (nI m, f_made, f_depth, sq, li, co, mw, ms, mu, mb, mz, sk, sp, st, hc) p) ∧
      (∀ (post : Int32 → Prop) (f_made f_depth : Int32) (as bs cs : Nat → Int32) (ps ss ro qs : Nat → Int64) (so on tw stk tr : Nat → Int32), post 0 → wpY_noCell post (nI m, f_made, f_depth, as, bs, cs, ps, ss, ro, qs, so, on, tw, stk, tr) p)) ∨
    ((∀ post : Int32 → Prop, post 0 → wpX_isCell post (nI m, f_made, f_depth, sq, li, co, mw, ms, mu, mb, mz, sk, sp, st, hc) p) ∧
      (∀ (post : Int32 → Prop) (f_made f_depth : Int32) (as bs cs : Nat → Int32) (ps ss ro qs : Nat → Int64) (so on tw stk tr : Nat → Int32), post 1 → wpY_noCell post (nI m, f_made, f_depth, as, bs, cs, ps, ss, ro, qs, so, on, tw, stk, tr) p)) := by
  have e2 : (2 : Int32) * nI m = nI (2 * m) := pk_mul 2 m
  by_cases h : p < 0
  · right
    exact ⟨fun post hp => br_t h hp, fun post f_made f_depth as bs cs ps ss ro qs so on tw stk tr hp => br_t h hp⟩
  · obtain ⟨j, hj, rfl⟩ := nI_of h
    by_cases h4 : j ≤ 2 * m
    · left
      refine ⟨j, h4, rfl, fun post hp => br_f h (br_f ?_ hp), fun post f_made f_depth as bs cs ps ss ro qs so on tw stk tr hp => br_f h (br_t ?_ hp)⟩
      · rw [e2]; exact nI_nlt h4 (by omega)
      · rw [e2]; exact nI_le h4 (by omega)
    · right
      refine ⟨fun post hp => br_f h (br_t ?_ hp), fun post f_made f_depth as bs cs ps ss ro qs so on tw stk tr hp => br_f h (br_f ?_ hp)⟩
      · rw [e2]; exact nI_lt (by omega) hj
      · rw [e2]; exact nI_ge (by omega) hj
