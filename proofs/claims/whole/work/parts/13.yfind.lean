/-! the reference finds its marks -/
theorem ym_M_c {Q Q' : Int → Prop} {m : Nat} {ps ss ro qs : Nat → Int64} (h : ∀ z, Q z ↔ Q' z) (hM : ym_M Q m ps ss ro qs) : ym_M Q' m ps ss ro qs :=
  ⟨hM.1, hM.2.1, mk_E_c h hM.2.2⟩
theorem ar_m1 : (-1 : Int32) = ar_i (-1) := by decide
theorem ar_lm1 : (-1 : Int64) = ar_l (-1) := by decide
theorem yf_57 {post : SY → Prop} {J7 : Int32 → Int32 → Int32 → Int32 → (Nat → Int32) → (Nat → Int32) → (Nat → Int32) → (Nat → Int64) → (Nat → Int64) → (Nat → Int64) → (Nat → Int64) → (Nat → Int32) → (Nat → Int32) → (Nat → Int32) → (Nat → Int32) → (Nat → Int32) → Prop}
    {f_made f_depth : Int32} {a_as a_bs a_cs : Nat → Int32} {a_ps a_ss a_roots a_qs : Nat → Int64} {a_sorts a_ones a_twos a_stack a_truth : Nat → Int32}
    {Q : Int → Prop} (m : Nat) (hm : m ≤ 6) (hM : ym_M Q m a_ps a_ss a_roots a_qs) (k : Nat) (hk : k < 4)
    (hB : mk_B (a_as k).toInt (a_bs k).toInt (a_cs k).toInt) (t : Int) (ht : (a_as k).toInt ≠ 0 → t = Int.sign (a_as k).toInt)
    (hp : ∀ m' ps ss ro qs, m' ≤ m + 2 → ym_M (fun z => Q z ∨ mk_Z (a_as k).toInt (a_bs k).toInt (a_cs k).toInt z) m' ps ss ro qs → J7 (nI (k + 1)) (nI m') f_made f_depth a_as a_bs a_cs ps ss ro qs a_sorts a_ones a_twos a_stack a_truth) :
    wY_findMarks_57 post J7 (nI k) (ar_l ((a_bs k).toInt * (a_bs k).toInt - 4 * (a_as k).toInt * (a_cs k).toInt)) (ar_i t) (nI m) f_made f_depth a_as a_bs a_cs a_ps a_ss a_roots a_qs a_sorts a_ones a_twos a_stack a_truth := by
  have hin : vp_in (nI k) 4 := vp_in_nI hk (by decide)
  have cl : (nI k).toNatClampNeg = k := nI_clamp (by omega)
  have hB' := hB
  unfold mk_B at hB'
  have bb := ar_b (a := (a_bs k).toInt) (b := (a_bs k).toInt) hB'.2.1 hB'.2.1
  have bac := ar_b (a := 4 * (a_as k).toInt) (b := (a_cs k).toInt) (A := 120) (by omega) hB'.2.2
  have ea : a_as k = ar_i (a_as k).toInt := ar_i_t _
  have eb : a_bs k = ar_i (a_bs k).toInt := ar_i_t _
  have ec : a_cs k = ar_i (a_cs k).toInt := ar_i_t _
  have s1 := sf_sg3 (a_as k).toInt
  have s2 := sf_sg3 (a_bs k).toInt
  by_cases ha : (a_as k).toInt = 0
  · have za : a_as k = 0 := by rw [ea, ha]; rfl
    have lin : ∀ other : Int, ((a_bs k).toInt ≠ 0 → other = Int.sign (a_bs k).toInt) → wY_findMarks_148 post J7 (nI k) (ar_i other) (nI m) f_made f_depth a_as a_bs a_cs a_ps a_ss a_roots a_qs a_sorts a_ones a_twos a_stack a_truth := by
      intro other ho
      unfold wY_findMarks_148
      rw [cl]
      refine ⟨hin, br_t za ⟨hin, ?_⟩⟩
      by_cases hb : (a_bs k).toInt = 0
      · refine br_t (by rw [eb, hb]; rfl) (nm_r (nI_1 k) ?_)
        refine hp m _ _ _ _ (by omega) (ym_M_c ?_ hM)
        intro z
        constructor
        · intro h; exact Or.inl h
        · rintro (h | h)
          · exact h
          · unfold mk_Z at h
            omega
      · have v := mk_Vl (b := (a_bs k).toInt) (c := (a_cs k).toInt) (by rw [ha] at hB; exact hB) hb
        have v' := sf_V_b v
        have nb : ¬ a_bs k = 0 := by
          rw [eb]
          exact fun h => hb ((ar_i0 (a := (a_bs k).toInt) (by omega)).2.2.1.mp h)
        refine br_f nb ⟨hin, hin, ?_⟩
        have x1 : ((-(a_cs k)) * ar_i other).toInt64 = ar_l (-(a_cs k).toInt * Int.sign (a_bs k).toInt) := by
          rw [ho hb, ← ar_il (a := -(a_cs k).toInt * Int.sign (a_bs k).toInt) (by omega), ← ar_i_mul, ← ar_i_neg, ← ar_i_t]
        have x2 : ((a_bs k) * ar_i other).toInt64 = ar_l ((a_bs k).toInt * Int.sign (a_bs k).toInt) := by
          rw [ho hb, ← ar_il (a := (a_bs k).toInt * Int.sign (a_bs k).toInt) (by omega), ← ar_i_mul, ← ar_i_t]
        rw [x1, x2]
        refine ym_mark (p := -(a_cs k).toInt * Int.sign (a_bs k).toInt) (s := 0) (d := 0) (q := (a_bs k).toInt * Int.sign (a_bs k).toInt) m (by omega) hM v ?_
        intro m' ps ss ro qs hm' hM'
        dsimp only
        refine nm_r (nI_1 k) (hp m' ps ss ro qs (by omega) (ym_M_c ?_ hM'))
        intro z
        have : mk_Z (a_as k).toInt (a_bs k).toInt (a_cs k).toInt z ↔ z = sg_ky (-(a_cs k).toInt * Int.sign (a_bs k).toInt) 0 0 ((a_bs k).toInt * Int.sign (a_bs k).toInt) := by
          unfold mk_Z mk_z0
          constructor
          · rintro (⟨h, _⟩ | ⟨_, _, h⟩)
            · exact absurd ha h
            · exact h
          · intro h; exact Or.inr ⟨ha, hb, h⟩
        rw [this]
    unfold wY_findMarks_57
    rw [cl]
    refine ⟨hin, br_t za ?_⟩
    unfold wY_findMarks_134
    rw [cl]
    refine ⟨hin, ?_⟩
    have hb0 : (0 ≤ a_bs k) ↔ 0 ≤ (a_bs k).toInt := by
      rw [eb]
      have := (ar_i0 (a := (a_bs k).toInt) (by omega)).1
      rw [← eb] at this ⊢
      exact this
    refine ar_c hb0 (fun h => ?_) (fun h => ?_)
    · exact lin 1 (fun hn => by omega)
    · rw [ar_m1]; exact lin (-1) (fun hn => by omega)
  · have na : ¬ a_as k = 0 := by
      rw [ea]
      exact fun h => ha ((ar_i0 (a := (a_as k).toInt) (by omega)).2.2.1.mp h)
    have skip : ∀ m' ps ss ro qs, m' ≤ m + 2 → ym_M (fun z => Q z ∨ mk_Z (a_as k).toInt (a_bs k).toInt (a_cs k).toInt z) m' ps ss ro qs →
        wY_findMarks_134 post J7 (nI k) (nI m') f_made f_depth a_as a_bs a_cs ps ss ro qs a_sorts a_ones a_twos a_stack a_truth := by
      intro m' ps ss ro qs hm' hM'
      unfold wY_findMarks_134 wY_findMarks_148
      rw [cl]
      exact ⟨hin, br_c (fun _ => ⟨hin, br_f na (nm_r (nI_1 k) (hp m' ps ss ro qs hm' hM'))⟩) (fun _ => ⟨hin, br_f na (nm_r (nI_1 k) (hp m' ps ss ro qs hm' hM'))⟩)⟩
    have nZ : ∀ z, mk_Z (a_as k).toInt (a_bs k).toInt (a_cs k).toInt z ↔ (0 ≤ (a_bs k).toInt * (a_bs k).toInt - 4 * (a_as k).toInt * (a_cs k).toInt ∧ (z = mk_z1 (a_as k).toInt (a_bs k).toInt (a_cs k).toInt ∨ z = mk_z2 (a_as k).toInt (a_bs k).toInt (a_cs k).toInt)) := by
      intro z
      unfold mk_Z
      constructor
      · rintro (⟨_, h⟩ | ⟨h, _⟩)
        · exact h
        · exact absurd h ha
      · intro h; exact Or.inl ⟨ha, h⟩
    unfold wY_findMarks_57
    rw [cl]
    refine ⟨hin, br_f na ?_⟩
    refine ar_c (ar_l0 (a := (a_bs k).toInt * (a_bs k).toInt - 4 * (a_as k).toInt * (a_cs k).toInt) (by omega)).2.2.2 (fun hD => ?_) (fun hD => ⟨hin, hin, ?_⟩)
    · refine skip m _ _ _ _ (by omega) (ym_M_c ?_ hM)
      intro z
      rw [nZ]
      constructor
      · intro h; exact Or.inl h
      · rintro (h | ⟨h, _⟩)
        · exact h
        · omega
    · have v1 := mk_Vq hB ha (by omega) (-1) (by decide)
      have v2 := mk_Vq hB ha (by omega) 1 (by decide)
      have v' := sf_V_b v1
      have x1 : ((-(a_bs k)) * ar_i t).toInt64 = ar_l (-(a_bs k).toInt * Int.sign (a_as k).toInt) := by
        rw [ht ha, ← ar_il (a := -(a_bs k).toInt * Int.sign (a_as k).toInt) (by omega), ← ar_i_mul, ← ar_i_neg, ← ar_i_t]
      have x2 : ((2 * (a_as k)) * ar_i t).toInt64 = ar_l (2 * (a_as k).toInt * Int.sign (a_as k).toInt) := by
        rw [ht ha, ← ar_il (a := 2 * (a_as k).toInt * Int.sign (a_as k).toInt) (by omega), ← ar_i_mul, ← ar_i_mul, ← ar_i_t]; rfl
      rw [x1, x2]
      refine ym_mark (p := -(a_bs k).toInt * Int.sign (a_as k).toInt) (s := 1) (d := (a_bs k).toInt * (a_bs k).toInt - 4 * (a_as k).toInt * (a_cs k).toInt) (q := 2 * (a_as k).toInt * Int.sign (a_as k).toInt) m (by omega) hM v2 ?_
      intro m' ps ss ro qs hm' hM'
      dsimp only
      rw [x1, x2, ar_lm1]
      refine ⟨hin, hin, ?_⟩
      refine ym_mark (p := -(a_bs k).toInt * Int.sign (a_as k).toInt) (s := -1) (d := (a_bs k).toInt * (a_bs k).toInt - 4 * (a_as k).toInt * (a_cs k).toInt) (q := 2 * (a_as k).toInt * Int.sign (a_as k).toInt) m' (by omega) hM' v1 ?_
      intro m'' ps' ss' ro' qs' hm'' hM''
      dsimp only
      refine skip m'' _ _ _ _ (by omega) (ym_M_c ?_ hM'')
      intro z
      rw [nZ]
      constructor
      · rintro ((h | h) | h)
        · exact Or.inl h
        · exact Or.inr ⟨by omega, Or.inr h⟩
        · exact Or.inr ⟨by omega, Or.inl h⟩
      · rintro (h | ⟨_, h | h⟩)
        · exact Or.inl (Or.inl h)
        · exact Or.inr h
        · exact Or.inl (Or.inr h)
theorem yf_loop {post : SY → Prop} {f_made f_depth : Int32} {a_as a_bs a_cs : Nat → Int32} {a_sorts a_ones a_twos a_stack a_truth : Nat → Int32}
    (hB : xz_B a_as a_bs a_cs)
    (hp : ∀ m' ps ss ro qs, m' ≤ 8 → ym_M (fun z => ∃ k, k < 4 ∧ xz_P a_as a_bs a_cs k z) m' ps ss ro qs → post (nI m', f_made, f_depth, a_as, a_bs, a_cs, ps, ss, ro, qs, a_sorts, a_ones, a_twos, a_stack, a_truth)) :
    ∀ d i, i + d = 4 → ∀ m ps ss ro qs, m ≤ 2 * i → ym_M (fun z => ∃ k, k < i ∧ xz_P a_as a_bs a_cs k z) m ps ss ro qs →
      wY_findMarks_7 post (d + 1) (nI i) (nI m) f_made f_depth a_as a_bs a_cs ps ss ro qs a_sorts a_ones a_twos a_stack a_truth := by
  intro d
  induction d with
  | zero =>
    intro i hi m ps ss ro qs hm hM
    have : i = 4 := by omega
    subst this
    exact br_t (by decide) (hp m ps ss ro qs (by omega) hM)
  | succ d ih =>
    intro i hi m ps ss ro qs hm hM
    have hin : vp_in (nI i) 4 := vp_in_nI (by omega) (by decide)
    have cl : (nI i).toNatClampNeg = i := nI_clamp (by omega)
    have hBi := hB i (by omega)
    have hB' := hBi
    unfold mk_B at hB'
    have bb := ar_b (a := (a_bs i).toInt) (b := (a_bs i).toInt) hB'.2.1 hB'.2.1
    have bac := ar_b (a := 4 * (a_as i).toInt) (b := (a_cs i).toInt) (A := 120) (by omega) hB'.2.2
    have eD : ((a_bs i * a_bs i) - ((4 * a_as i) * a_cs i)).toInt64 = ar_l ((a_bs i).toInt * (a_bs i).toInt - 4 * (a_as i).toInt * (a_cs i).toInt) := by
      rw [← ar_il (a := (a_bs i).toInt * (a_bs i).toInt - 4 * (a_as i).toInt * (a_cs i).toInt) (by omega), ← ar_i_sub, ← ar_i_mul, ← ar_i_mul, ← ar_i_mul, ← ar_i_t, ← ar_i_t, ← ar_i_t]; rfl
    have ea : a_as i = ar_i (a_as i).toInt := ar_i_t _
    have s1 := sf_sg3 (a_as i).toInt
    have nxt : ∀ m' ps' ss' ro' qs', m' ≤ m + 2 → ym_M (fun z => (∃ k, k < i ∧ xz_P a_as a_bs a_cs k z) ∨ mk_Z (a_as i).toInt (a_bs i).toInt (a_cs i).toInt z) m' ps' ss' ro' qs' →
        wY_findMarks_7 post (d + 1) (nI (i + 1)) (nI m') f_made f_depth a_as a_bs a_cs ps' ss' ro' qs' a_sorts a_ones a_twos a_stack a_truth := by
      intro m' ps' ss' ro' qs' hm' hM'
      refine ih (i + 1) (by omega) m' ps' ss' ro' qs' (by omega) (ym_M_c ?_ hM')
      intro z
      constructor
      · rintro (⟨k, h, h2⟩ | h)
        · exact ⟨k, by omega, h2⟩
        · exact ⟨i, by omega, h⟩
      · rintro ⟨k, h, h2⟩
        by_cases e : k = i
        · subst e
          exact Or.inr h2
        · exact Or.inl ⟨k, by omega, h2⟩
    refine br_f (nI_ge (b := 4) (by omega) (by decide)) ?_
    rw [cl]
    refine ⟨hin, hin, hin, hin, nm_r eD ⟨hin, ?_⟩⟩
    have ha0 : (0 ≤ a_as i) ↔ 0 ≤ (a_as i).toInt := by
      have := (ar_i0 (a := (a_as i).toInt) (by omega)).1
      rw [← ea] at this
      exact this
    refine ar_c ha0 (fun h => ?_) (fun h => ?_)
    · exact yf_57 (t := 1) m (by omega) hM i (by omega) hBi (fun hn => by omega) nxt
    · rw [ar_m1]; exact yf_57 (t := -1) m (by omega) hM i (by omega) hBi (fun hn => by omega) nxt
theorem yf_find {post : SY → Prop} {f_marks f_made f_depth : Int32} {a_as a_bs a_cs : Nat → Int32} {a_ps a_ss a_roots a_qs : Nat → Int64} {a_sorts a_ones a_twos a_stack a_truth : Nat → Int32}
    (hB : xz_B a_as a_bs a_cs)
    (hp : ∀ m' ps ss ro qs, m' ≤ 8 → ym_M (fun z => ∃ k, k < 4 ∧ xz_P a_as a_bs a_cs k z) m' ps ss ro qs → post (nI m', f_made, f_depth, a_as, a_bs, a_cs, ps, ss, ro, qs, a_sorts, a_ones, a_twos, a_stack, a_truth)) :
    wpY_findMarks post (f_marks, f_made, f_depth, a_as, a_bs, a_cs, a_ps, a_ss, a_roots, a_qs, a_sorts, a_ones, a_twos, a_stack, a_truth) := by
  refine ⟨_, yf_loop hB hp 4 0 rfl 0 a_ps a_ss a_roots a_qs (by omega) ⟨?_, ?_, ?_, ?_⟩⟩
  · intro i hi; omega
  · intro i j h hj; omega
  · intro i hi; omega
  · rintro w ⟨k, h, _⟩; omega
