/-! the reference's marks -/
noncomputable def ym_k (ps ss ro qs : Nat → Int64) (i : Nat) : Int := sg_ky (ps i).toInt (ss i).toInt (ro i).toInt (qs i).toInt
def ym_V (ps ss ro qs : Nat → Int64) (m : Nat) : Prop := ∀ i, i < m → sf_V (ps i).toInt (ss i).toInt (ro i).toInt (qs i).toInt
def ym_M (Q : Int → Prop) (m : Nat) (ps ss ro qs : Nat → Int64) : Prop := ym_V ps ss ro qs m ∧ mk_S (ym_k ps ss ro qs) m ∧ mk_E (ym_k ps ss ro qs) m Q
def ym_ins (a : Nat → Int64) (j m : Nat) (x : Int64) : Nat → Int64 := vp_updL (xm_sh a j m) j x
theorem ym_i1 {a : Nat → Int64} {j m i : Nat} {x : Int64} (h : i < j) : ym_ins a j m x i = a i := by
  unfold ym_ins vp_updL xm_sh
  rw [if_neg (by omega), if_neg (by omega)]
theorem ym_i2 {a : Nat → Int64} {j m : Nat} {x : Int64} : ym_ins a j m x j = x := if_pos rfl
theorem ym_i3 {a : Nat → Int64} {j m i : Nat} {x : Int64} (h : j < i) (h2 : i < m + 1) : ym_ins a j m x i = a (i - 1) := by
  unfold ym_ins vp_updL xm_sh
  rw [if_neg (by omega), if_pos (by omega)]
theorem ym_sh1 (a : Nat → Int64) (t m : Nat) (h : t + 1 ≤ m) : vp_updL (xm_sh a (t + 1) m) (t + 1) (xm_sh a (t + 1) m t) = xm_sh a t m := by
  funext i
  unfold vp_updL xm_sh
  by_cases z : i = t + 1
  · subst z
    rw [if_pos rfl, if_neg (by omega), if_pos (by omega)]
    rfl
  · rw [if_neg z]
    by_cases w : t + 1 < i ∧ i ≤ m
    · rw [if_pos w, if_pos (by omega)]
    · rw [if_neg w, if_neg (by omega)]
theorem ym_M_ins {Q : Int → Prop} {m : Nat} {ps ss ro qs : Nat → Int64} (hM : ym_M Q m ps ss ro qs) (p s d q : Int) (v : sf_V p s d q) (j : Nat) (hj : j ≤ m)
    (lo : ∀ l, l < j → ym_k ps ss ro qs l < sg_ky p s d q) (hi : ∀ l, j ≤ l → l < m → sg_ky p s d q < ym_k ps ss ro qs l) :
    ym_M (fun z => Q z ∨ z = sg_ky p s d q) (m + 1) (ym_ins ps j m (ar_l p)) (ym_ins ss j m (ar_l s)) (ym_ins ro j m (ar_l d)) (ym_ins qs j m (ar_l q)) := by
  obtain ⟨h1, h2, h3⟩ := hM
  obtain ⟨b1, b2, b3, b4⟩ := sf_V_b v
  have t1 : (ar_l p).toInt = p := ar_tl (by omega)
  have t2 : (ar_l s).toInt = s := ar_tl (by omega)
  have t3 : (ar_l d).toInt = d := ar_tl (by omega)
  have t4 : (ar_l q).toInt = q := ar_tl (by omega)
  have k1 : ∀ i, i < j → ym_k (ym_ins ps j m (ar_l p)) (ym_ins ss j m (ar_l s)) (ym_ins ro j m (ar_l d)) (ym_ins qs j m (ar_l q)) i = ym_k ps ss ro qs i := by
    intro i hi
    unfold ym_k
    rw [ym_i1 hi, ym_i1 hi, ym_i1 hi, ym_i1 hi]
  have k2 : ym_k (ym_ins ps j m (ar_l p)) (ym_ins ss j m (ar_l s)) (ym_ins ro j m (ar_l d)) (ym_ins qs j m (ar_l q)) j = sg_ky p s d q := by
    unfold ym_k
    rw [ym_i2, ym_i2, ym_i2, ym_i2, t1, t2, t3, t4]
  have k3 : ∀ i, j < i → i < m + 1 → ym_k (ym_ins ps j m (ar_l p)) (ym_ins ss j m (ar_l s)) (ym_ins ro j m (ar_l d)) (ym_ins qs j m (ar_l q)) i = ym_k ps ss ro qs (i - 1) := by
    intro i hi hi2
    unfold ym_k
    rw [ym_i3 hi hi2, ym_i3 hi hi2, ym_i3 hi hi2, ym_i3 hi hi2]
  obtain ⟨g1, g2⟩ := mk_ins h2 h3 hj lo hi k1 k2 k3
  refine ⟨?_, g1, g2⟩
  intro i hi'
  rcases Nat.lt_trichotomy i j with t | t | t
  · rw [ym_i1 t, ym_i1 t, ym_i1 t, ym_i1 t]; exact h1 i (by omega)
  · subst t
    rw [ym_i2, ym_i2, ym_i2, ym_i2, t1, t2, t3, t4]; exact v
  · rw [ym_i3 t hi', ym_i3 t hi', ym_i3 t hi', ym_i3 t hi']; exact h1 (i - 1) (by omega)
theorem ym_room {post : SY → Prop} {f_made f_depth : Int32} {a_as a_bs a_cs : Nat → Int32} {a_ps a_ss a_roots a_qs : Nat → Int64} {a_sorts a_ones a_twos a_stack a_truth : Nat → Int32}
    (m j : Nat) (hm : m < 9) (hj : j ≤ m) (p s d q : Int64)
    (hp : post (nI (m + 1), f_made, f_depth, a_as, a_bs, a_cs, ym_ins a_ps j m p, ym_ins a_ss j m s, ym_ins a_roots j m d, ym_ins a_qs j m q, a_sorts, a_ones, a_twos, a_stack, a_truth)) :
    ∃ n, wY_mark_89 post p s d q (nI j) (nI m) f_made f_depth n (nI m) a_as a_bs a_cs a_ps a_ss a_roots a_qs a_sorts a_ones a_twos a_stack a_truth := by
  have main : ∀ e t, t = j + e → t ≤ m → wY_mark_89 post p s d q (nI j) (nI m) f_made f_depth (e + 1) (nI t) a_as a_bs a_cs (xm_sh a_ps t m) (xm_sh a_ss t m) (xm_sh a_roots t m) (xm_sh a_qs t m) a_sorts a_ones a_twos a_stack a_truth := by
    intro e
    induction e with
    | zero =>
      intro t ht hm'
      have : t = j := by omega
      subst this
      have i2 : vp_in (nI t) 9 := vp_in_nI (by omega) (by decide)
      have c2 : (nI t).toNatClampNeg = t := nI_clamp (by omega)
      refine br_t (nI_le (Nat.le_refl t) (by omega)) ?_
      rw [c2]
      refine ⟨i2, nm_e ⟨i2, nm_e ⟨i2, nm_e ⟨i2, nm_e (nm_r (nI_1 m) hp)⟩⟩⟩⟩
    | succ e ih =>
      intro t ht hm'
      obtain ⟨s, rfl⟩ : ∃ s, t = s + 1 := ⟨t - 1, by omega⟩
      have g := ih s (by omega) (by omega)
      have i1 : vp_in (nI (s + 1) - 1) 9 := by rw [nI_pred]; exact vp_in_nI (by omega) (by decide)
      have i2 : vp_in (nI (s + 1)) 9 := vp_in_nI (by omega) (by decide)
      have c1 : (nI (s + 1) - 1).toNatClampNeg = s := by rw [nI_pred]; exact nI_clamp (by omega)
      have c2 : (nI (s + 1)).toNatClampNeg = s + 1 := nI_clamp (by omega)
      refine br_f (nI_ge (by omega) (by omega)) ?_
      rw [c1, c2]
      refine ⟨i1, i2, nm_r (ym_sh1 _ s m hm') ⟨i1, i2, nm_r (ym_sh1 _ s m hm') ⟨i1, i2, nm_r (ym_sh1 _ s m hm') ⟨i1, i2, nm_r (ym_sh1 _ s m hm') (nm_r (pk_m1 s) g)⟩⟩⟩⟩
  have := main (m - j) m (by omega) (Nat.le_refl m)
  rw [xm_sh0, xm_sh0, xm_sh0, xm_sh0] at this
  exact ⟨_, this⟩
theorem ym_30 {post : SY → Prop} {f_made f_depth : Int32} {a_as a_bs a_cs : Nat → Int32} {a_ps a_ss a_roots a_qs : Nat → Int64} {a_sorts a_ones a_twos a_stack a_truth : Nat → Int32}
    {Q : Int → Prop} (m : Nat) (hm : m < 9) (hM : ym_M Q m a_ps a_ss a_roots a_qs) (p s d q : Int) (v : sf_V p s d q)
    (hp : ∀ m' ps ss ro qs, m' ≤ m + 1 → ym_M (fun z => Q z ∨ z = sg_ky p s d q) m' ps ss ro qs → post (nI m', f_made, f_depth, a_as, a_bs, a_cs, ps, ss, ro, qs, a_sorts, a_ones, a_twos, a_stack, a_truth)) :
    ∀ e i, i + e = m → (∀ l, l < i → ym_k a_ps a_ss a_roots a_qs l < sg_ky p s d q) →
      ∀ here : Int32, (i < m → here = ar_i (Int.sign (sg_ky p s d q - ym_k a_ps a_ss a_roots a_qs i))) → (i = m → here = -1) →
      wY_mark_30 post (ar_l p) (ar_l s) (ar_l d) (ar_l q) (nI m) f_made f_depth a_as a_bs a_cs a_ps a_ss a_roots a_qs a_sorts a_ones a_twos a_stack a_truth (e + 1) (nI i) here := by
  intro e
  induction e with
  | zero =>
    intro i hi lo here h1 h2
    have : i = m := by omega
    subst this
    rw [h2 rfl]
    refine br_t (by decide) (br_t (nI_le (Nat.le_refl i) (by omega)) ?_)
    refine ym_room i i hm (Nat.le_refl i) _ _ _ _ ?_
    exact hp _ _ _ _ _ (by omega) (ym_M_ins hM p s d q v i (Nat.le_refl i) lo (by intro l a b; omega))
  | succ e ih =>
    intro i hi lo here h1 h2
    have him : i < m := by omega
    rw [h1 him]
    have s3 := sf_sg3 (sg_ky p s d q - ym_k a_ps a_ss a_roots a_qs i)
    have hb := ar_i0 (a := Int.sign (sg_ky p s d q - ym_k a_ps a_ss a_roots a_qs i)) (by omega)
    refine ar_c hb.2.1 (fun c => ?_) (fun c => ?_)
    · refine br_f (nI_ge him (by omega)) ?_
      refine ar_c hb.2.2.1 (fun c2 => ?_) (fun c2 => ?_)
      · refine hp m _ _ _ _ (by omega) ⟨hM.1, hM.2.1, ?_, ?_⟩
        · intro j hj; exact Or.inl (hM.2.2.1 j hj)
        · rintro w (h | h)
          · exact hM.2.2.2 w h
          · exact ⟨i, him, by omega⟩
      · refine ym_room m i hm (by omega) _ _ _ _ ?_
        refine hp _ _ _ _ _ (by omega) (ym_M_ins hM p s d q v i (by omega) lo ?_)
        intro l hl hl2
        rcases Nat.lt_or_ge i l with t | t
        · have := hM.2.1 i l t hl2
          omega
        · have : l = i := by omega
          subst this
          omega
    · refine nm_r (nI_1 i) ?_
      have lo' : ∀ l, l < i + 1 → ym_k a_ps a_ss a_roots a_qs l < sg_ky p s d q := by
        intro l hl
        rcases Nat.lt_or_ge l i with t | t
        · exact lo l t
        · have : l = i := by omega
          subst this
          omega
      rcases Nat.lt_or_ge (i + 1) m with t | t
      · refine br_f (nI_ge t (by omega)) ?_
        refine py_cmp (i + 1) (by omega) p s d q v (hM.1 _ t) ?_
        rw [kk_cy v (hM.1 _ t)]
        exact ih (i + 1) (by omega) lo' _ (fun _ => rfl) (fun h => by omega)
      · have e1 : i + 1 = m := by omega
        refine br_t (nI_le t (by omega)) ?_
        exact ih (i + 1) (by omega) lo' _ (fun h => by omega) (fun _ => rfl)
theorem ym_mark {post : SY → Prop} {f_made f_depth : Int32} {a_as a_bs a_cs : Nat → Int32} {a_ps a_ss a_roots a_qs : Nat → Int64} {a_sorts a_ones a_twos a_stack a_truth : Nat → Int32}
    {Q : Int → Prop} (m : Nat) (hm : m < 9) (hM : ym_M Q m a_ps a_ss a_roots a_qs) (p s d q : Int) (v : sf_V p s d q)
    (hp : ∀ m' ps ss ro qs, m' ≤ m + 1 → ym_M (fun z => Q z ∨ z = sg_ky p s d q) m' ps ss ro qs → post (nI m', f_made, f_depth, a_as, a_bs, a_cs, ps, ss, ro, qs, a_sorts, a_ones, a_twos, a_stack, a_truth)) :
    wpY_mark post (nI m, f_made, f_depth, a_as, a_bs, a_cs, a_ps, a_ss, a_roots, a_qs, a_sorts, a_ones, a_twos, a_stack, a_truth) (ar_l p) (ar_l s) (ar_l d) (ar_l q) := by
  have main := ym_30 (post := post) (f_made := f_made) (f_depth := f_depth) (a_as := a_as) (a_bs := a_bs) (a_cs := a_cs) (a_sorts := a_sorts) (a_ones := a_ones) (a_twos := a_twos) (a_stack := a_stack) (a_truth := a_truth) m hm hM p s d q v hp m 0 (by omega) (by intro l hl; omega)
  unfold wpY_mark
  dsimp only
  rcases Nat.eq_zero_or_pos m with z | z
  · refine br_t (by rw [z]; decide) ⟨_, main _ (fun h => by omega) (fun _ => rfl)⟩
  · refine br_f (nI_nle z (by omega)) ?_
    refine py_cmp (post := fun r => ∃ n30 : Nat, wY_mark_30 post (ar_l p) (ar_l s) (ar_l d) (ar_l q) (nI m) f_made f_depth a_as a_bs a_cs a_ps a_ss a_roots a_qs a_sorts a_ones a_twos a_stack a_truth n30 0 r) 0 (by omega) p s d q v (hM.1 _ z) ?_
    rw [kk_cy v (hM.1 _ z)]
    exact ⟨_, main _ (fun _ => rfl) (fun h => by omega)⟩
