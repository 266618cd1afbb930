/-! the questions' loops -/
theorem cq_x {post : Int32 → Prop} (w : Int32) (hp : post (nI (ct_n (bt w) 17))) : wpX_countCells post w := by
  have main : ∀ d i, i + d = 17 → wX_countCells_4 post w (d + 1) (nI (ct_n (bt w) i)) (nI i) := by
    intro d
    induction d with
    | zero =>
      intro i hi
      have : i = 17 := by omega
      subst this
      exact br_t (by decide) hp
    | succ d ih =>
      intro i hi
      refine br_f (nI_ge (b := 17) (by omega) (by decide)) ?_
      rw [bi_one w i (by omega)]
      refine nm_r (e' := nI (ct_n (bt w) (i + 1))) ?_ (nm_r (nI_1 i) (ih (i + 1) (by omega)))
      cases h : bt w i
      · rw [← ct_f h]
        exact nI_add (ct_n (bt w) i) 0
      · rw [← ct_t h]; rfl
  exact ⟨_, main 17 0 (by omega)⟩
section
variable {f_made f_depth : Int32} {a_as a_bs a_cs : Nat → Int32} {a_ps a_ss a_roots a_qs : Nat → Int64} {a_sorts a_ones a_twos a_stack : Nat → Int32}
/-- what isTrue answers, and what it leaves -/
def cq_I (m : Nat) (f_made f_depth : Int32) (a_as a_bs a_cs : Nat → Int32) (a_ps a_ss a_roots a_qs : Nat → Int64) (a_sorts a_ones a_twos a_stack : Nat → Int32) (b : Nat) (U : Nat → Bool) : Prop :=
  ∀ (post : Int32 → SY → Prop) (c : Nat) (tr : Nat → Int32), c ≤ 2 * m →
    (∀ tr', post (bi_n (U c)) (nI m, f_made, f_depth, a_as, a_bs, a_cs, a_ps, a_ss, a_roots, a_qs, a_sorts, a_ones, a_twos, a_stack, tr')) →
    wpY_isTrue post (nI m, f_made, f_depth, a_as, a_bs, a_cs, a_ps, a_ss, a_roots, a_qs, a_sorts, a_ones, a_twos, a_stack, tr) (nI b) (nI c)
theorem cq_cells {post : Int32 → SY → Prop} (m : Nat) (hm : m ≤ 8) (U : Nat → Bool) (hI : cq_I m f_made f_depth a_as a_bs a_cs a_ps a_ss a_roots a_qs a_sorts a_ones a_twos a_stack 0 U)
    (hp : ∀ tr, post (nI (ct_n U (2 * m + 1))) (nI m, f_made, f_depth, a_as, a_bs, a_cs, a_ps, a_ss, a_roots, a_qs, a_sorts, a_ones, a_twos, a_stack, tr)) (tr : Nat → Int32) :
    ∃ n, wY_countCells_8 post n 0 0 (nI m) f_made f_depth a_as a_bs a_cs a_ps a_ss a_roots a_qs a_sorts a_ones a_twos a_stack tr := by
  have e2 : (2 : Int32) * nI m = nI (2 * m) := pk_mul 2 m
  have main : ∀ d i, i + d = 2 * m + 1 → ∀ tr, wY_countCells_8 post (d + 1) (nI (ct_n U i)) (nI i) (nI m) f_made f_depth a_as a_bs a_cs a_ps a_ss a_roots a_qs a_sorts a_ones a_twos a_stack tr := by
    intro d
    induction d with
    | zero =>
      intro i hi tr
      have : i = 2 * m + 1 := by omega
      subst this
      refine br_t ?_ (hp tr)
      rw [e2]; exact nI_lt (by omega) (by omega)
    | succ d ih =>
      intro i hi tr
      refine br_f (by rw [e2]; exact nI_nlt (by omega) (by omega)) ?_
      refine hI _ i tr (by omega) ?_
      intro tr'
      refine ar_c (bi_eq0 _) (fun h => nm_r (nI_1 i) ?_) (fun h => ?_)
      · rw [ct_f h]
        exact ih (i + 1) (by omega) tr'
      · have h' : U i = true := by simpa using h
        exact nm_r (ct_t h') (nm_r (nI_1 i) (ih (i + 1) (by omega) tr'))
  exact ⟨_, main (2 * m + 1) 0 (by omega) tr⟩
def cq_p (U : Nat → Bool) (m : Nat) (pts : Bool) (i : Nat) : Bool :=
  (U i && (decide (i = 0) || !(U (i - 1)))) && (!pts || (decide (i % 2 = 1) && (decide (i = 2 * m) || !(U (i + 1)))))
theorem cq_pieces {post : Int32 → SY → Prop} (m : Nat) (hm : m ≤ 8) (U : Nat → Bool) (hI : cq_I m f_made f_depth a_as a_bs a_cs a_ps a_ss a_roots a_qs a_sorts a_ones a_twos a_stack 0 U) (pts : Bool)
    (hp : ∀ tr, post (nI (ct_n (cq_p U m pts) (2 * m + 1))) (nI m, f_made, f_depth, a_as, a_bs, a_cs, a_ps, a_ss, a_roots, a_qs, a_sorts, a_ones, a_twos, a_stack, tr)) (tr : Nat → Int32) :
    ∃ n, wY_countPieces_8 post (bi_n pts) n 0 0 (nI m) f_made f_depth a_as a_bs a_cs a_ps a_ss a_roots a_qs a_sorts a_ones a_twos a_stack tr := by
  have e2 : (2 : Int32) * nI m = nI (2 * m) := pk_mul 2 m
  have main : ∀ d i, i + d = 2 * m + 1 → ∀ tr, wY_countPieces_8 post (bi_n pts) (d + 1) (nI (ct_n (cq_p U m pts) i)) (nI i) (nI m) f_made f_depth a_as a_bs a_cs a_ps a_ss a_roots a_qs a_sorts a_ones a_twos a_stack tr := by
    intro d
    induction d with
    | zero =>
      intro i hi tr
      have : i = 2 * m + 1 := by omega
      subst this
      refine br_t ?_ (hp tr)
      rw [e2]; exact nI_lt (by omega) (by omega)
    | succ d ih =>
      intro i hi tr
      have nx0 : cq_p U m pts i = false → ∀ tr x, x = nI i + 1 → wY_countPieces_8 post (bi_n pts) (d + 1) (nI (ct_n (cq_p U m pts) i)) x (nI m) f_made f_depth a_as a_bs a_cs a_ps a_ss a_roots a_qs a_sorts a_ones a_twos a_stack tr := by
        intro h tr x ex
        rw [ex, nI_1, ct_f h]
        exact ih (i + 1) (by omega) tr
      have nx1 : cq_p U m pts i = true → ∀ tr y, y = nI (ct_n (cq_p U m pts) i) + 1 → ∀ x, x = nI i + 1 → wY_countPieces_8 post (bi_n pts) (d + 1) y x (nI m) f_made f_depth a_as a_bs a_cs a_ps a_ss a_roots a_qs a_sorts a_ones a_twos a_stack tr := by
        intro h tr y ey x ex
        rw [ex, nI_1, ey, ct_t h]
        exact ih (i + 1) (by omega) tr
      have s75 : ∀ (begins ends : Bool) tr, begins = (U i && (decide (i = 0) || !(U (i - 1)))) → ends = (decide (i = 2 * m) || !(U (i + 1))) →
          wY_countPieces_75 post (wY_countPieces_8 post (bi_n pts) (d + 1)) (bi_n pts) (nI (ct_n (cq_p U m pts) i)) (nI i) (bi_n begins) (bi_n ends) (nI m) f_made f_depth a_as a_bs a_cs a_ps a_ss a_roots a_qs a_sorts a_ones a_twos a_stack tr := by
        intro begins ends tr hb he
        have ep : cq_p U m pts i = (begins && (!pts || (decide (i % 2 = 1) && ends))) := by
          unfold cq_p
          rw [hb, he]
        have er : nI i - nI i / 2 * 2 = nI (i % 2) := pk_rem (d := 2) (by omega) (by decide) (by decide)
        unfold wY_countPieces_75
        rw [er]
        refine ar_c (bi_eq0 _) (fun h => nx0 (by rw [ep, h]; rfl) tr) (fun h => ?_)
        have h : begins = true := by simpa using h
        refine ar_c (bi_eq0 _) (fun h2 => nx1 (by rw [ep, h, h2]; rfl) tr) (fun h2 => ⟨by decide, ?_⟩)
        have h2 : pts = true := by simpa using h2
        by_cases o : i % 2 = 1
        · refine br_t (by rw [o]; decide) ?_
          refine ar_c (bi_eq0 _) (fun h3 => nx0 (by rw [ep, h, h2, h3]; simp) tr) (fun h3 => ?_)
          have h3 : ends = true := by simpa using h3
          exact nx1 (by rw [ep, h, h2, h3]; simp [o]) tr
        · exact br_f (by rw [show i % 2 = 0 by omega]; decide) (nx0 (by rw [ep, h, h2]; simp [o]) tr)
      have s47 : ∀ (begins : Bool) tr, begins = (U i && (decide (i = 0) || !(U (i - 1)))) →
          wY_countPieces_47 post (wY_countPieces_8 post (bi_n pts) (d + 1)) (bi_n pts) (nI (ct_n (cq_p U m pts) i)) (nI i) (bi_n begins) (nI m) f_made f_depth a_as a_bs a_cs a_ps a_ss a_roots a_qs a_sorts a_ones a_twos a_stack tr := by
        intro begins tr hb
        unfold wY_countPieces_47 wY_countPieces_70
        rw [e2, nI_1]
        refine ar_c (nI_eq (by omega) (by omega)) (fun h => s75 begins true tr hb (by simp [h])) (fun h => ?_)
        refine hI _ (i + 1) tr (by omega) ?_
        intro tr'
        refine ar_c (bi_eq0 _) (fun h2 => s75 begins true tr' hb (by simp [h2])) (fun h2 => ?_)
        have h2 : U (i + 1) = true := by simpa using h2
        exact s75 begins false tr' hb (by simp [h, h2])
      refine br_f (by rw [e2]; exact nI_nlt (by omega) (by omega)) ?_
      refine hI _ i tr (by omega) ?_
      intro tr'
      refine ar_c (bi_eq0 _) (fun h => s47 false tr' (by simp [h])) (fun h => ?_)
      have h : U i = true := by simpa using h
      refine ar_c (nI_eq (b := 0) (by omega) (by decide)) (fun h2 => s47 true tr' (by rw [h]; simp [h2])) (fun h2 => ?_)
      have e1 : nI i - 1 = nI (i - 1) := pk_sub (b := 1) (by omega)
      rw [e1]
      refine hI _ (i - 1) tr' (by omega) ?_
      intro tr''
      refine ar_c (bi_eq0 _) (fun h3 => s47 true tr'' (by simp [h, h3])) (fun h3 => ?_)
      have h3 : U (i - 1) = true := by simpa using h3
      exact s47 false tr'' (by simp [h2, h3])
  exact ⟨_, main (2 * m + 1) 0 (by omega) tr⟩
theorem cq_same {post : Int32 → SY → Prop} (m : Nat) (hm : m ≤ 8) (U U' : Nat → Bool) (hI : cq_I m f_made f_depth a_as a_bs a_cs a_ps a_ss a_roots a_qs a_sorts a_ones a_twos a_stack 0 U)
    (hI' : cq_I m f_made f_depth a_as a_bs a_cs a_ps a_ss a_roots a_qs a_sorts a_ones a_twos a_stack 1 U')
    (h1 : (∀ j, j < 2 * m + 1 → U j = U' j) → ∀ tr, post 1 (nI m, f_made, f_depth, a_as, a_bs, a_cs, a_ps, a_ss, a_roots, a_qs, a_sorts, a_ones, a_twos, a_stack, tr))
    (h0 : (∃ j, j < 2 * m + 1 ∧ ¬ U j = U' j) → ∀ tr, post 0 (nI m, f_made, f_depth, a_as, a_bs, a_cs, a_ps, a_ss, a_roots, a_qs, a_sorts, a_ones, a_twos, a_stack, tr)) (tr : Nat → Int32) :
    ∃ n, wY_same_18 post n 0 (nI m) f_made f_depth a_as a_bs a_cs a_ps a_ss a_roots a_qs a_sorts a_ones a_twos a_stack tr := by
  have e2 : (2 : Int32) * nI m = nI (2 * m) := pk_mul 2 m
  have bi : ∀ a b : Bool, bi_n a = bi_n b ↔ a = b := by decide
  have main : ∀ d i, i + d = 2 * m + 1 → (∀ j, j < i → U j = U' j) → ∀ tr, wY_same_18 post (d + 1) (nI i) (nI m) f_made f_depth a_as a_bs a_cs a_ps a_ss a_roots a_qs a_sorts a_ones a_twos a_stack tr := by
    intro d
    induction d with
    | zero =>
      intro i hi hU tr
      have : i = 2 * m + 1 := by omega
      subst this
      refine br_t ?_ (h1 hU tr)
      rw [e2]; exact nI_lt (by omega) (by omega)
    | succ d ih =>
      intro i hi hU tr
      refine br_f (by rw [e2]; exact nI_nlt (by omega) (by omega)) ?_
      refine hI _ i tr (by omega) ?_
      intro tr'
      refine hI' _ i tr' (by omega) ?_
      intro tr''
      refine ar_c (bi _ _) (fun h => nm_r (nI_1 i) (ih (i + 1) (by omega) ?_ tr'')) (fun h => h0 ⟨i, by omega, h⟩ tr'')
      intro j hj
      by_cases e : j = i
      · rw [e]; exact h
      · exact hU j (by omega)
  exact ⟨_, main (2 * m + 1) 0 (by omega) (fun j hj => by omega) tr⟩
theorem cq_impl {post : Int32 → SY → Prop} (m : Nat) (hm : m ≤ 8) (U U' : Nat → Bool) (hI : cq_I m f_made f_depth a_as a_bs a_cs a_ps a_ss a_roots a_qs a_sorts a_ones a_twos a_stack 0 U)
    (hI' : cq_I m f_made f_depth a_as a_bs a_cs a_ps a_ss a_roots a_qs a_sorts a_ones a_twos a_stack 1 U')
    (h1 : (∀ j, j < 2 * m + 1 → U' j = true → U j = true) → ∀ tr, post 1 (nI m, f_made, f_depth, a_as, a_bs, a_cs, a_ps, a_ss, a_roots, a_qs, a_sorts, a_ones, a_twos, a_stack, tr))
    (h0 : (∃ j, j < 2 * m + 1 ∧ U' j = true ∧ U j = false) → ∀ tr, post 0 (nI m, f_made, f_depth, a_as, a_bs, a_cs, a_ps, a_ss, a_roots, a_qs, a_sorts, a_ones, a_twos, a_stack, tr)) (tr : Nat → Int32) :
    ∃ n, wY_implies_18 post n 0 (nI m) f_made f_depth a_as a_bs a_cs a_ps a_ss a_roots a_qs a_sorts a_ones a_twos a_stack tr := by
  have e2 : (2 : Int32) * nI m = nI (2 * m) := pk_mul 2 m
  have main : ∀ d i, i + d = 2 * m + 1 → (∀ j, j < i → U' j = true → U j = true) → ∀ tr, wY_implies_18 post (d + 1) (nI i) (nI m) f_made f_depth a_as a_bs a_cs a_ps a_ss a_roots a_qs a_sorts a_ones a_twos a_stack tr := by
    intro d
    induction d with
    | zero =>
      intro i hi hU tr
      have : i = 2 * m + 1 := by omega
      subst this
      refine br_t ?_ (h1 hU tr)
      rw [e2]; exact nI_lt (by omega) (by omega)
    | succ d ih =>
      intro i hi hU tr
      refine br_f (by rw [e2]; exact nI_nlt (by omega) (by omega)) ?_
      refine hI' _ i tr (by omega) ?_
      intro tr'
      refine ar_c (bi_eq0 _) (fun h => nm_r (nI_1 i) (ih (i + 1) (by omega) ?_ tr')) (fun h => ?_)
      · intro j hj hj'
        by_cases e : j = i
        · subst e
          rw [h] at hj'
          cases hj'
        · exact hU j (by omega) hj'
      · have h : U' i = true := by simpa using h
        refine hI _ i tr' (by omega) ?_
        intro tr''
        refine ar_c (bi_eq0 _) (fun h2 => h0 ⟨i, by omega, h, h2⟩ tr'') (fun h2 => nm_r (nI_1 i) (ih (i + 1) (by omega) ?_ tr''))
        intro j hj hj'
        by_cases e : j = i
        · subst e
          simpa using h2
        · exact hU j (by omega) hj'
  exact ⟨_, main (2 * m + 1) 0 (by omega) (fun j hj => by omega) tr⟩
end
