/-! set, marks, sign, cellOf, zeros -/
theorem i_vc_set {k : Nat} {u : SX} {v : SY} (I : i_Rel k u v) (hk : k + 5 ≤ 2560) (v1 : Int32) (v2 : Int32) (v3 : Int32) (v4 : Int32) : wpX_set (fun r u' => wpY_set (fun r' v' => r' = r ∧ i_Rel (k + 5) u' v') v v1 v2 v3 v4) u v1 v2 v3 v4 := by
  have I' : i_Rel (k + 5) u v := i_up I
  obtain ⟨m, M, dp, sx, sq, li, co, mw, ms, mu, mb, mz, sk, sp, st, hc, so, on, tw, stk, tr, fm, ps, ss, ro, qs, rfl, rfl, C, hst⟩ := I
  unfold wpX_set
  dsimp only
  rcases rg_poly v1 with ⟨j, hj, rfl, xa, ya⟩ | ⟨xa, ya⟩
  rotate_left
  · refine xa _ (br_t rfl ?_)
    unfold wpY_set
    dsimp only
    exact ya _ _ (br_f (by decide) ⟨rfl, I'⟩)
  refine xa _ (br_f (by decide) ?_)
  rcases rg_coef v2 with ⟨b2, xb, yb⟩ | ⟨xb, yb⟩
  rotate_left
  · refine xb _ (br_t rfl ?_)
    unfold wpY_set
    dsimp only
    exact ya _ _ (br_t rfl (yb _ _ (br_f (by decide) ⟨rfl, I'⟩)))
  refine xb _ (br_f (by decide) ?_)
  rcases rg_coef v3 with ⟨b3, xc, yc⟩ | ⟨xc, yc⟩
  rotate_left
  · refine xc _ (br_t rfl ?_)
    unfold wpY_set
    dsimp only
    exact ya _ _ (br_t rfl (yb _ _ (br_t rfl (yc _ _ (br_f (by decide) ⟨rfl, I'⟩)))))
  refine xc _ (br_f (by decide) ?_)
  rcases rg_coef v4 with ⟨b4, xd, yd⟩ | ⟨xd, yd⟩
  rotate_left
  · refine xd _ (br_t rfl ?_)
    unfold wpY_set
    dsimp only
    exact ya _ _ (br_t rfl (yb _ _ (br_t rfl (yc _ _ (br_t rfl (yd _ _ (br_f (by decide) ⟨rfl, I'⟩)))))))
  refine xd _ (br_f (by decide) ?_)
  have hin : vp_in (nI j) 4 := vp_in_nI hj (by decide)
  have cl : (nI j).toNatClampNeg = j := nI_clamp (by omega)
  rw [cl]
  obtain ⟨c1, c2, c3, c4, c5⟩ := C
  have hB : xz_B (upd sq j v2) (upd li j v3) (upd co j v4) := by
    intro i hi
    by_cases e : i = j
    · subst e
      rw [pk_us, pk_us, pk_us]
      exact ⟨b2, b3, b4⟩
    · rw [pk_un e, pk_un e, pk_un e]
      exact c3 i hi
  refine ⟨hin, nm_e ⟨hin, nm_e ⟨hin, nm_e ?_⟩⟩⟩
  refine ⟨_, xz_loop hB ?_ 4 0 rfl 0 mw ms mu mb mz (by omega) ⟨?_, ?_, ⟨?_, ?_⟩, ?_⟩⟩
  · intro m' mw' ms' mu' mb' mz' hm' hM'
    unfold wpY_set
    dsimp only
    refine ya _ _ (br_t rfl (yb _ _ (br_t rfl (yc _ _ (br_t rfl (yd _ _ (br_t rfl ?_)))))))
    rw [cl]
    refine ⟨hin, nm_e ⟨hin, nm_e ⟨hin, nm_e ⟨rfl, ?_⟩⟩⟩⟩
    exact rl_mk ⟨hm', c2, hB, hM', c5⟩ hst _ _ _ _ _ _ _
  · intro i hi; omega
  · intro i j h hj; omega
  · intro i hi; omega
  · rintro w ⟨k, _, h, _⟩; omega
  · intro i hi; omega
theorem i_vc_marks {k : Nat} {u : SX} {v : SY} (I : i_Rel k u v) (hk : k + 5 ≤ 2560) : wpX_marks (fun r => wpY_marks (fun r' v' => r' = r ∧ i_Rel (k + 5) u v') v) u := by
  obtain ⟨m, M, dp, sx, sq, li, co, mw, ms, mu, mb, mz, sk, sp, st, hc, so, on, tw, stk, tr, fm, ps, ss, ro, qs, rfl, rfl, C, hst⟩ := I
  unfold wpX_marks wpY_marks
  dsimp only
  refine rl_find C ?_
  intro ps' ss' ro' qs' hV hκ
  exact ⟨rfl, rl_mk C hst _ _ _ _ _ _ _⟩
theorem i_vc_sign {k : Nat} {u : SX} {v : SY} (I : i_Rel k u v) (hk : k + 5 ≤ 2560) (v1 : Int32) (v2 : Int32) : wpX_sign (fun r => wpY_sign (fun r' v' => r' = r ∧ i_Rel (k + 5) u v') v v1 v2) u v1 v2 := by
  have I' : i_Rel (k + 5) u v := i_up I
  obtain ⟨m, M, dp, sx, sq, li, co, mw, ms, mu, mb, mz, sk, sp, st, hc, so, on, tw, stk, tr, fm, ps, ss, ro, qs, rfl, rfl, C, hst⟩ := I
  unfold wpX_sign wpY_sign
  dsimp only
  rcases rg_poly v1 with ⟨j, hj, rfl, xa, ya⟩ | ⟨xa, ya⟩
  rotate_left
  · exact xa _ (br_t rfl (ya _ _ (br_f (by decide) ⟨rfl, I'⟩)))
  refine xa _ (br_f (by decide) ?_)
  rcases rg_cell C.1 v2 with ⟨c, hc', rfl, xb, yb⟩ | ⟨xb, yb⟩
  rotate_left
  · refine xb _ (br_t rfl (ya _ _ (br_t rfl (rl_find C ?_))))
    intro ps' ss' ro' qs' hV hκ
    exact yb _ _ _ _ _ _ _ _ _ _ _ _ _ _ _ (br_f (by decide) ⟨rfl, rl_mk C hst _ _ _ _ _ _ _⟩)
  refine xb _ (br_f (by decide) ?_)
  refine xs_on m C.1 C.2.2.2.1 C.2.2.1 j hj c hc' ?_
  refine ya _ _ (br_t rfl (rl_find C ?_))
  intro ps' ss' ro' qs' hV hκ
  refine yb _ _ _ _ _ _ _ _ _ _ _ _ _ _ _ (br_t rfl ?_)
  refine yo_on m C.1 (xm_k mw ms mu mb) C.2.2.2.1.2.1 (rl_z C) hV hκ C.2.2.1 j hj c hc' ?_
  exact ⟨rfl, rl_mk C hst _ _ _ _ _ _ _⟩
theorem i_vc_cellOf {k : Nat} {u : SX} {v : SY} (I : i_Rel k u v) (hk : k + 5 ≤ 2560) (v1 : Int32) (v2 : Int32) : wpX_cellOf (fun r => wpY_cellOf (fun r' v' => r' = r ∧ i_Rel (k + 5) u v') v v1 v2) u v1 v2 := by
  have I' : i_Rel (k + 5) u v := i_up I
  obtain ⟨m, M, dp, sx, sq, li, co, mw, ms, mu, mb, mz, sk, sp, st, hc, so, on, tw, stk, tr, fm, ps, ss, ro, qs, rfl, rfl, C, hst⟩ := I
  unfold wpX_cellOf wpY_cellOf
  dsimp only
  rcases rg_frac v1 v2 with ⟨V, xa, ya⟩ | ⟨xa, ya⟩
  rotate_left
  · exact xa _ (br_t rfl (ya _ _ (br_f (by decide) ⟨rfl, I'⟩)))
  refine xa _ (br_f (by decide) ?_)
  rw [ar_i_t v1, ar_i_t v2]
  refine xm_cell (S := 0) (D := 0) m C.1 C.2.2.2.1.1 C.2.2.2.1.2.1 v1.toInt v2.toInt V ?_
  intro c hc' hat
  rw [← ar_i_t v1, ← ar_i_t v2]
  refine ya _ _ (br_t rfl (rl_find C ?_))
  intro ps' ss' ro' qs' hV hκ
  dsimp only
  rw [ar_i_t v1, ar_i_t v2]
  refine yo_cell m C.1 (xm_k mw ms mu mb) C.2.2.2.1.2.1 hV hκ v1.toInt v2.toInt V ?_
  intro c' hat'
  rw [mk_at_u C.2.2.2.1.2.1 hat hat']
  exact ⟨rfl, rl_mk C hst _ _ _ _ _ _ _⟩
theorem i_vc_zeros {k : Nat} {u : SX} {v : SY} (I : i_Rel k u v) (hk : k + 5 ≤ 2560) (v1 : Int32) : wpX_zeros (fun r => wpY_zeros (fun r' v' => r' = r ∧ i_Rel (k + 5) u v') v v1) u v1 := by
  have I' : i_Rel (k + 5) u v := i_up I
  obtain ⟨m, M, dp, sx, sq, li, co, mw, ms, mu, mb, mz, sk, sp, st, hc, so, on, tw, stk, tr, fm, ps, ss, ro, qs, rfl, rfl, C, hst⟩ := I
  unfold wpX_zeros wpY_zeros
  dsimp only
  rcases rg_poly v1 with ⟨j, hj, rfl, xa, ya⟩ | ⟨xa, ya⟩
  rotate_left
  · exact xa _ (br_t rfl (ya _ _ (br_f (by decide) ⟨rfl, I'⟩)))
  refine xa _ (br_f (by decide) ?_)
  have hin : vp_in (nI j) 4 := vp_in_nI hj (by decide)
  have cl : (nI j).toNatClampNeg = j := nI_clamp (by omega)
  have hBk := C.2.2.1 j hj
  obtain ⟨F0, F1, F2, F3, F4⟩ := mk_F (k := xm_k mw ms mu mb) (m := m) C.2.2.2.1.2.1 hBk (fun z hz' => rl_z C j hj z hz')
  have hB' := hBk
  unfold mk_B at hB'
  have za : (sq j = 0) ↔ (sq j).toInt = 0 := by
    have := (ar_i0 (a := (sq j).toInt) (by omega)).2.2.1
    rw [← ar_i_t] at this
    exact this
  have zb : (li j = 0) ↔ (li j).toInt = 0 := by
    have := (ar_i0 (a := (li j).toInt) (by omega)).2.2.1
    rw [← ar_i_t] at this
    exact this
  have hbit := C.2.2.2.1.2.2.2
  refine xo_zeros m C.1 j hj (fun i => bt (mz i) j) (fun _ _ => rfl) ?_
  refine ya _ _ (br_t rfl ⟨hin, ?_⟩)
  rw [cl]
  have go : ¬ ((sq j).toInt = 0 ∧ (li j).toInt = 0) → wY_zeros_32 (fun r' v' => r' = nI (ct_n (fun i => bt (mz i) j) m) ∧ i_Rel (k + 5) (nI m, nI M, nI (dp M), sq, li, co, mw, ms, mu, mb, mz, sk, sp, st, hc) v') (nI j) fm (nI M) (nI (dp M)) sq li co ps ss ro qs so on tw stk tr := by
    intro hne
    unfold wY_zeros_32
    refine rl_find C ?_
    intro ps' ss' ro' qs' hV hκ
    refine yo_zeros m C.1 (xm_k mw ms mu mb) hV hκ C.2.2.1 j hj (fun i => bt (mz i) j) (fun i _ => mk_sig_b _ _ _ _ _ _) ?_ ⟨rfl, rl_mk C hst _ _ _ _ _ _ _⟩
    intro i hi
    rw [hbit i hi j hj]
    constructor
    · intro h
      apply Classical.byContradiction
      intro z
      have a := (F2 i hi z).1
      rcases F4 i (by omega) with b | b
      · rw [← a, h] at b
        cases b
      · exact hne ⟨b.1, b.2.1⟩
    · intro h
      exact (F3 i hi h).1
  refine ar_c za (fun h => ⟨hin, ar_c zb (fun h2 => ?_) (fun h2 => go (fun z => h2 z.2))⟩) (fun h => go (fun z => h z.1))
  have : ct_n (fun i => bt (mz i) j) m = 0 := by
    apply ct_0
    intro i hi
    cases e : bt (mz i) j
    · rfl
    · have z := (hbit i hi j hj).mp e
      unfold xz_P mk_Z at z
      omega
  rw [this]
  exact ⟨rfl, I'⟩
