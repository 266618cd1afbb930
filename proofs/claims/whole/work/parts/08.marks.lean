/-! the marks as a row of keys; the sign of a polynomial on a cell -/
theorem kk_cx {p1 s1 d1 q1 p2 s2 d2 q2 : Int} (h1 : sf_V p1 s1 d1 q1) (h2 : sf_V p2 s2 d2 q2) : sf_cx p1 s1 d1 q1 p2 s2 d2 q2 = Int.sign (sg_ky p1 s1 d1 q1 - sg_ky p2 s2 d2 q2) :=
  sg_key.choose_spec.1 _ _ _ _ _ _ _ _ h1 h2
theorem kk_cy {p1 s1 d1 q1 p2 s2 d2 q2 : Int} (h1 : sf_V p1 s1 d1 q1) (h2 : sf_V p2 s2 d2 q2) : sf_cy p1 s1 d1 q1 p2 s2 d2 q2 = Int.sign (sg_ky p1 s1 d1 q1 - sg_ky p2 s2 d2 q2) :=
  sg_key.choose_spec.2.1 _ _ _ _ _ _ _ _ h1 h2
theorem kk_lt {p d q : Int} (h1 : sf_V p (-1) d q) (h2 : sf_V p 1 d q) (hd : 0 < d) : sg_ky p (-1) d q < sg_ky p 1 d q :=
  sg_key.choose_spec.2.2.2.2.2.2.1 _ _ _ h1 h2 hd
theorem kk_eq {p q : Int} (h1 : sf_V p (-1) 0 q) (h2 : sf_V p 0 0 q) (h3 : sf_V p 1 0 q) : sg_ky p (-1) 0 q = sg_ky p 0 0 q ∧ sg_ky p 1 0 q = sg_ky p 0 0 q :=
  sg_key.choose_spec.2.2.2.2.2.2.2 _ _ h1 h2 h3
noncomputable def mk_z1 (a b c : Int) : Int := sg_ky (-b * Int.sign a) (-1) (b * b - 4 * a * c) (2 * a * Int.sign a)
noncomputable def mk_z2 (a b c : Int) : Int := sg_ky (-b * Int.sign a) 1 (b * b - 4 * a * c) (2 * a * Int.sign a)
noncomputable def mk_z0 (b c : Int) : Int := sg_ky (-c * Int.sign b) 0 0 (b * Int.sign b)
def mk_Z (a b c z : Int) : Prop :=
  (a ≠ 0 ∧ 0 ≤ b * b - 4 * a * c ∧ (z = mk_z1 a b c ∨ z = mk_z2 a b c)) ∨ (a = 0 ∧ b ≠ 0 ∧ z = mk_z0 b c)
def mk_B (a b c : Int) : Prop := a.natAbs ≤ 30 ∧ b.natAbs ≤ 30 ∧ c.natAbs ≤ 30
def mk_S (k : Nat → Int) (m : Nat) : Prop := ∀ i j, i < j → j < m → k i < k j
def mk_at (k : Nat → Int) (m : Nat) (z : Int) (c : Nat) : Prop :=
  (∃ j, j < m ∧ k j = z ∧ c = 2 * j + 1) ∨ (∃ j, j ≤ m ∧ c = 2 * j ∧ (∀ l, l < j → k l < z) ∧ (∀ l, j ≤ l → l < m → z < k l))
theorem mk_at_u {k : Nat → Int} {m : Nat} {z : Int} {c c' : Nat} (hS : mk_S k m) (h : mk_at k m z c) (h' : mk_at k m z c') : c = c' := by
  rcases h with ⟨j, h1, h2, h3⟩ | ⟨j, h1, h2, h3, h4⟩ <;> rcases h' with ⟨j', g1, g2, g3⟩ | ⟨j', g1, g2, g3, g4⟩
  · rcases Nat.lt_trichotomy j j' with t | t | t
    · have := hS j j' t g1; omega
    · omega
    · have := hS j' j t h1; omega
  · rcases Nat.lt_or_ge j j' with t | t
    · have := g3 j t; omega
    · have := g4 j t h1; omega
  · rcases Nat.lt_or_ge j' j with t | t
    · have := h3 j' t; omega
    · have := h4 j' t g1; omega
  · rcases Nat.lt_trichotomy j j' with t | t | t
    · have := g3 j t
      have := h4 j (by omega) (by omega)
      omega
    · omega
    · have := h3 j' t
      have := g4 j' (by omega) (by omega)
      omega
def mk_E (k : Nat → Int) (m : Nat) (Q : Int → Prop) : Prop := (∀ i, i < m → Q (k i)) ∧ ∀ w, Q w → ∃ i, i < m ∧ k i = w
theorem mk_half {f g : Nat → Int} {m n : Nat} {Q : Int → Prop} (hf : mk_S f m) (hg : mk_S g n) (ef : mk_E f m Q) (eg : mk_E g n Q) :
    ∀ i, i < m → i < n ∧ f i = g i := by
  intro i
  induction i using Nat.strongRecOn with
  | ind i ih =>
    intro hi
    obtain ⟨j, hj, ej⟩ := eg.2 _ (ef.1 i hi)
    have hij : i ≤ j := by
      rcases Nat.lt_or_ge j i with t | t
      · have a := (ih j t (by omega)).2
        have b := hf j i t hi
        omega
      · exact t
    refine ⟨by omega, ?_⟩
    obtain ⟨l, hl, el⟩ := ef.2 _ (eg.1 i (by omega))
    have hil : i ≤ l := by
      rcases Nat.lt_or_ge l i with t | t
      · have a := (ih l t hl).2
        have b := hg l i t (by omega)
        omega
      · exact t
    have a1 : g i ≤ g j := by
      rcases Nat.lt_or_ge i j with t | t
      · have := hg i j t hj; omega
      · have : i = j := by omega
        rw [this]; omega
    have a2 : f i ≤ f l := by
      rcases Nat.lt_or_ge i l with t | t
      · have := hf i l t hl; omega
      · have : i = l := by omega
        rw [this]; omega
    omega
theorem mk_uniq {f g : Nat → Int} {m n : Nat} {Q : Int → Prop} (hf : mk_S f m) (hg : mk_S g n) (ef : mk_E f m Q) (eg : mk_E g n Q) :
    n = m ∧ ∀ i, i < m → g i = f i := by
  have a := mk_half hf hg ef eg
  have b := mk_half hg hf eg ef
  refine ⟨?_, fun i hi => (a i hi).2.symm⟩
  rcases Nat.lt_trichotomy n m with t | t | t
  · have := a n t; omega
  · exact t
  · have := b m t; omega
/-- a new number put between -/
theorem mk_ins {k k' : Nat → Int} {m j : Nat} {z : Int} {Q : Int → Prop} (hS : mk_S k m) (hE : mk_E k m Q) (hj : j ≤ m)
    (lo : ∀ l, l < j → k l < z) (hi : ∀ l, j ≤ l → l < m → z < k l)
    (e1 : ∀ i, i < j → k' i = k i) (e2 : k' j = z) (e3 : ∀ i, j < i → i < m + 1 → k' i = k (i - 1)) :
    mk_S k' (m + 1) ∧ mk_E k' (m + 1) (fun w => Q w ∨ w = z) := by
  refine ⟨?_, ?_, ?_⟩
  · intro a b hab hb
    rcases Nat.lt_trichotomy a j with ta | ta | ta
    · rw [e1 a ta]
      rcases Nat.lt_trichotomy b j with tb | tb | tb
      · rw [e1 b tb]; exact hS a b hab (by omega)
      · rw [tb, e2]; exact lo a ta
      · rw [e3 b tb hb]
        rcases Nat.lt_or_ge a (b - 1) with t | t
        · exact hS a (b - 1) t (by omega)
        · omega
    · rw [ta, e2, e3 b (by omega) hb]
      exact hi (b - 1) (by omega) (by omega)
    · rw [e3 a ta (by omega), e3 b (by omega) hb]
      exact hS (a - 1) (b - 1) (by omega) (by omega)
  · intro i hi'
    rcases Nat.lt_trichotomy i j with t | t | t
    · left; rw [e1 i t]; exact hE.1 i (by omega)
    · right; rw [t, e2]
    · left; rw [e3 i t hi']; exact hE.1 (i - 1) (by omega)
  · intro w hw
    rcases hw with hw | hw
    · obtain ⟨i, h1, h2⟩ := hE.2 w hw
      rcases Nat.lt_or_ge i j with t | t
      · exact ⟨i, by omega, by rw [e1 i t]; exact h2⟩
      · exact ⟨i + 1, by omega, by rw [e3 (i + 1) (by omega) (by omega)]; exact h2⟩
    · exact ⟨j, by omega, by rw [e2, hw]⟩
theorem mk_mono {k : Nat → Int} {m : Nat} (hS : mk_S k m) {i j : Nat} (hi : i < m) (hj : j < m) : (k i < k j ↔ i < j) ∧ (k i = k j ↔ i = j) := by
  rcases Nat.lt_trichotomy i j with t | t | t
  · have := hS i j t hj; omega
  · subst t; omega
  · have := hS j i t hi; omega
def mk_cs (k : Nat → Int) (m c : Nat) (z : Int) : Int := if c % 2 = 1 then Int.sign (k (c / 2) - z) else if c / 2 < m ∧ k (c / 2) ≤ z then -1 else 1
noncomputable def mk_sig (k : Nat → Int) (m : Nat) (a b c : Int) (x : Nat) : Int :=
  if a ≠ 0 then (if 0 ≤ b * b - 4 * a * c then Int.sign a * (mk_cs k m x (mk_z1 a b c) * mk_cs k m x (mk_z2 a b c)) else Int.sign a)
  else if b ≠ 0 then Int.sign b * mk_cs k m x (mk_z0 b c) else Int.sign c
theorem mk_cs_p {k : Nat → Int} {m : Nat} (hS : mk_S k m) {t c : Nat} (ht : t < m) (hc : c ≤ 2 * m) :
    (c < 2 * t + 1 ∧ mk_cs k m c (k t) = -1) ∨ (c = 2 * t + 1 ∧ mk_cs k m c (k t) = 0) ∨ (2 * t + 1 < c ∧ mk_cs k m c (k t) = 1) := by
  unfold mk_cs
  by_cases h : c % 2 = 1
  · rw [if_pos h]
    have s3 := sf_sg3 (k (c / 2) - k t)
    have m1 := mk_mono hS (i := c / 2) (j := t) (by omega) ht
    omega
  · rw [if_neg h]
    by_cases h2 : c / 2 < m
    · have m1 := mk_mono hS (i := c / 2) (j := t) h2 ht
      by_cases h3 : k (c / 2) ≤ k t
      · rw [if_pos ⟨h2, h3⟩]; omega
      · rw [if_neg (fun z => h3 z.2)]; omega
    · rw [if_neg (fun z => h2 z.1)]; omega
theorem mk_Vq {a b c : Int} (h : mk_B a b c) (ha : a ≠ 0) (hD : 0 ≤ b * b - 4 * a * c) (s : Int) (hs : s.natAbs ≤ 1) :
    sf_V (-b * Int.sign a) s (b * b - 4 * a * c) (2 * a * Int.sign a) := by
  unfold mk_B at h
  have s3 := sf_sg3 a
  have t : Int.sign a = 1 ∨ Int.sign a = -1 := by omega
  have b1 := ar_b (a := b) (b := b) h.2.1 h.2.1
  have b2 := ar_b (a := 4 * a) (b := c) (A := 120) (by omega) h.2.2
  unfold sf_V
  rcases t with t | t <;> rw [t] at s3 ⊢ <;> omega
theorem mk_Vd {a b c : Int} (h : mk_B a b c) (ha : a ≠ 0) : sf_V (-b * Int.sign a) 0 0 (2 * a * Int.sign a) := by
  unfold mk_B at h
  have s3 := sf_sg3 a
  have t : Int.sign a = 1 ∨ Int.sign a = -1 := by omega
  unfold sf_V
  rcases t with t | t <;> rw [t] at s3 ⊢ <;> omega
theorem mk_Vl {b c : Int} (h : mk_B 0 b c) (hb : b ≠ 0) : sf_V (-c * Int.sign b) 0 0 (b * Int.sign b) := by
  unfold mk_B at h
  have s3 := sf_sg3 b
  have t : Int.sign b = 1 ∨ Int.sign b = -1 := by omega
  unfold sf_V
  rcases t with t | t <;> rw [t] at s3 ⊢ <;> omega
theorem mk_zz {a b c : Int} (h : mk_B a b c) (ha : a ≠ 0) (hD : 0 ≤ b * b - 4 * a * c) :
    (b * b - 4 * a * c = 0 ∧ mk_z1 a b c = mk_z2 a b c ∧ mk_z1 a b c = sg_ky (-b * Int.sign a) 0 0 (2 * a * Int.sign a)) ∨ (0 < b * b - 4 * a * c ∧ mk_z1 a b c < mk_z2 a b c) := by
  have v1 := mk_Vq h ha hD (-1) (by decide)
  have v2 := mk_Vq h ha hD 1 (by decide)
  have v0 := mk_Vd h ha
  unfold mk_z1 mk_z2
  by_cases z : b * b - 4 * a * c = 0
  · left
    rw [z] at v1 v2 ⊢
    have := kk_eq v1 v0 v2
    omega
  · right
    have := kk_lt v1 v2 (by omega)
    omega
/-- what the sign does from cell to cell -/
theorem mk_F {k : Nat → Int} {m : Nat} {a b c : Int} (hS : mk_S k m) (hB : mk_B a b c) (hz : ∀ z, mk_Z a b c z → ∃ i, i < m ∧ k i = z) :
    (mk_sig k m a b c 0 = if a ≠ 0 then Int.sign a else if b ≠ 0 then -Int.sign b else Int.sign c) ∧
    (mk_sig k m a b c (2 * m) = if a ≠ 0 then Int.sign a else if b ≠ 0 then Int.sign b else Int.sign c) ∧
    (∀ i, i < m → ¬ mk_Z a b c (k i) → mk_sig k m a b c (2 * i + 1) = mk_sig k m a b c (2 * i) ∧ mk_sig k m a b c (2 * i + 2) = mk_sig k m a b c (2 * i)) ∧
    (∀ i, i < m → mk_Z a b c (k i) → mk_sig k m a b c (2 * i + 1) = 0 ∧ (a ≠ 0 → b * b - 4 * a * c = 0 → mk_sig k m a b c (2 * i + 2) = mk_sig k m a b c (2 * i)) ∧
      (¬ (a ≠ 0 ∧ b * b - 4 * a * c = 0) → mk_sig k m a b c (2 * i + 2) = -mk_sig k m a b c (2 * i))) ∧
    (∀ i, i ≤ m → (mk_sig k m a b c (2 * i)).natAbs = 1 ∨ (a = 0 ∧ b = 0 ∧ c = 0)) := by
  by_cases ha : a = 0
  · by_cases hb : b = 0
    · have nz : ∀ z, ¬ mk_Z a b c z := by
        intro z hz
        unfold mk_Z at hz
        omega
      have e : ∀ x, mk_sig k m a b c x = Int.sign c := by
        intro x
        unfold mk_sig
        rw [if_neg (by omega), if_neg (by omega)]
      simp only [e]
      rw [if_neg (by omega), if_neg (by omega), if_neg (by omega), if_neg (by omega)]
      have s3 := sf_sg3 c
      refine ⟨rfl, rfl, fun _ _ _ => ⟨by trivial, by trivial⟩, fun i _ h => absurd h (nz _), fun i _ => by omega⟩
    · subst ha
      obtain ⟨t, ht, et⟩ := hz (mk_z0 b c) (Or.inr ⟨rfl, hb, rfl⟩)
      have e : ∀ x, mk_sig k m 0 b c x = Int.sign b * mk_cs k m x (k t) := by
        intro x
        unfold mk_sig
        rw [if_neg (by omega), if_pos hb, et]
      have zi : ∀ i, i < m → (mk_Z 0 b c (k i) ↔ i = t) := by
        intro i hi
        have mm := mk_mono hS hi ht
        unfold mk_Z
        rw [← et, mm.2]
        omega
      have p := fun c hc => mk_cs_p hS (t := t) (c := c) ht hc
      simp only [e]
      rw [if_neg (by omega), if_pos hb, if_neg (by omega), if_pos hb]
      have s3 := sf_sg3 b
      have sb : Int.sign b = 1 ∨ Int.sign b = -1 := by omega
      refine ⟨?_, ?_, ?_, ?_, ?_⟩
      · have := p 0 (by omega)
        rcases sb with sb | sb <;> rw [sb] <;> omega
      · have := p (2 * m) (by omega)
        rcases sb with sb | sb <;> rw [sb] <;> omega
      · intro i hi hn
        rw [zi i hi] at hn
        have p0 := p (2 * i) (by omega)
        have p1 := p (2 * i + 1) (by omega)
        have p2 := p (2 * i + 2) (by omega)
        rcases sb with sb | sb <;> rw [sb] <;> omega
      · intro i hi hn
        rw [zi i hi] at hn
        have p0 := p (2 * i) (by omega)
        have p1 := p (2 * i + 1) (by omega)
        have p2 := p (2 * i + 2) (by omega)
        rcases sb with sb | sb <;> rw [sb] <;> omega
      · intro i hi
        have p0 := p (2 * i) (by omega)
        rcases sb with sb | sb <;> rw [sb] <;> omega
  · have s3 := sf_sg3 a
    have sb : Int.sign a = 1 ∨ Int.sign a = -1 := by omega
    by_cases hD : 0 ≤ b * b - 4 * a * c
    · obtain ⟨t, ht, et⟩ := hz (mk_z1 a b c) (Or.inl ⟨ha, hD, Or.inl rfl⟩)
      obtain ⟨t', ht', et'⟩ := hz (mk_z2 a b c) (Or.inl ⟨ha, hD, Or.inr rfl⟩)
      have e : ∀ x, mk_sig k m a b c x = Int.sign a * (mk_cs k m x (k t) * mk_cs k m x (k t')) := by
        intro x
        unfold mk_sig
        rw [if_pos ha, if_pos hD, et, et']
      have zi : ∀ i, i < m → (mk_Z a b c (k i) ↔ (i = t ∨ i = t')) := by
        intro i hi
        have mm := mk_mono hS hi ht
        have mm' := mk_mono hS hi ht'
        unfold mk_Z
        rw [← et, ← et', mm.2, mm'.2]
        omega
      have zz := mk_zz hB ha hD
      have mt := mk_mono hS ht ht'
      rw [← et, ← et'] at zz
      have tt : (b * b - 4 * a * c = 0 ∧ t = t') ∨ (b * b - 4 * a * c ≠ 0 ∧ t < t') := by omega
      have p := fun c hc => mk_cs_p hS (t := t) (c := c) ht hc
      have p' := fun c hc => mk_cs_p hS (t := t') (c := c) ht' hc
      simp only [e]
      rw [if_pos ha, if_pos ha]
      clear zz mt et et' e hz
      refine ⟨?_, ?_, ?_, ?_, ?_⟩
      · have q := p 0 (by omega)
        have q' := p' 0 (by omega)
        have a1 : mk_cs k m 0 (k t) = -1 := by omega
        have a2 : mk_cs k m 0 (k t') = -1 := by omega
        rw [a1, a2]; omega
      · have q := p (2 * m) (by omega)
        have q' := p' (2 * m) (by omega)
        have a1 : mk_cs k m (2 * m) (k t) = 1 := by omega
        have a2 : mk_cs k m (2 * m) (k t') = 1 := by omega
        rw [a1, a2]; omega
      · intro i hi hn
        rw [zi i hi] at hn
        have p0 := p (2 * i) (by omega)
        have p1 := p (2 * i + 1) (by omega)
        have p2 := p (2 * i + 2) (by omega)
        have q0 := p' (2 * i) (by omega)
        have q1 := p' (2 * i + 1) (by omega)
        have q2 := p' (2 * i + 2) (by omega)
        have a1 : mk_cs k m (2 * i + 1) (k t) = mk_cs k m (2 * i) (k t) := by omega
        have a2 : mk_cs k m (2 * i + 1) (k t') = mk_cs k m (2 * i) (k t') := by omega
        have a3 : mk_cs k m (2 * i + 2) (k t) = mk_cs k m (2 * i) (k t) := by omega
        have a4 : mk_cs k m (2 * i + 2) (k t') = mk_cs k m (2 * i) (k t') := by omega
        rw [a1, a2, a3, a4]
        exact ⟨rfl, rfl⟩
      · intro i hi hn
        rw [zi i hi] at hn
        have p0 := p (2 * i) (by omega)
        have p1 := p (2 * i + 1) (by omega)
        have p2 := p (2 * i + 2) (by omega)
        have q0 := p' (2 * i) (by omega)
        have q1 := p' (2 * i + 1) (by omega)
        have q2 := p' (2 * i + 2) (by omega)
        refine ⟨?_, ?_, ?_⟩
        · have : mk_cs k m (2 * i + 1) (k t) = 0 ∨ mk_cs k m (2 * i + 1) (k t') = 0 := by omega
          rcases this with z | z <;> rw [z] <;> simp
        · intro _ h0
          have a1 : mk_cs k m (2 * i) (k t) = -1 := by omega
          have a2 : mk_cs k m (2 * i) (k t') = -1 := by omega
          have a3 : mk_cs k m (2 * i + 2) (k t) = 1 := by omega
          have a4 : mk_cs k m (2 * i + 2) (k t') = 1 := by omega
          rw [a1, a2, a3, a4]; rfl
        · intro h0
          have ne : t < t' := by omega
          have : (mk_cs k m (2 * i) (k t) = -1 ∧ mk_cs k m (2 * i) (k t') = -1 ∧ mk_cs k m (2 * i + 2) (k t) = 1 ∧ mk_cs k m (2 * i + 2) (k t') = -1) ∨
            (mk_cs k m (2 * i) (k t) = 1 ∧ mk_cs k m (2 * i) (k t') = -1 ∧ mk_cs k m (2 * i + 2) (k t) = 1 ∧ mk_cs k m (2 * i + 2) (k t') = 1) := by omega
          rcases this with ⟨a1, a2, a3, a4⟩ | ⟨a1, a2, a3, a4⟩ <;> rw [a1, a2, a3, a4] <;> omega
      · intro i hi
        have p0 := p (2 * i) (by omega)
        have q0 := p' (2 * i) (by omega)
        left
        have : (mk_cs k m (2 * i) (k t) = 1 ∨ mk_cs k m (2 * i) (k t) = -1) ∧ (mk_cs k m (2 * i) (k t') = 1 ∨ mk_cs k m (2 * i) (k t') = -1) := by omega
        rcases this with ⟨u | u, w | w⟩ <;> rcases sb with sb | sb <;> rw [u, w, sb] <;> rfl
    · have nz : ∀ z, ¬ mk_Z a b c z := by
        intro z hz
        unfold mk_Z at hz
        omega
      have e : ∀ x, mk_sig k m a b c x = Int.sign a := by
        intro x
        unfold mk_sig
        rw [if_pos ha, if_neg hD]
      simp only [e]
      rw [if_pos ha, if_pos ha]
      refine ⟨rfl, rfl, fun _ _ _ => ⟨by trivial, by trivial⟩, fun i _ h => absurd h (nz _), fun i _ => by omega⟩
/-- the polynomial at a mark -/
theorem mk_sa {k : Nat → Int} {m i : Nat} {a b c p s d q : Int} (hB : mk_B a b c) (hv : sf_V p s d q) (hk : sg_ky p s d q = k i) :
    sf_sa a b c p s d q = mk_sig k m a b c (2 * i + 1) := by
  have o : ∀ z, mk_cs k m (2 * i + 1) z = Int.sign (k i - z) := by
    intro z
    unfold mk_cs
    rw [if_pos (by omega)]
    congr 3; omega
  have hB' := hB
  unfold mk_B at hB'
  unfold mk_sig
  rw [o, o, o]
  by_cases ha : a = 0
  · subst ha
    rw [if_neg (by omega)]
    by_cases hb : b = 0
    · subst hb
      rw [if_neg (by omega)]
      exact sg_key.choose_spec.2.2.2.2.2.1 _ _ _ _ _ hv
    · rw [if_pos hb, ← hk]
      exact sg_key.choose_spec.2.2.2.2.1 _ _ _ _ _ _ hv (by omega) (by omega) (by omega) (by omega) hb
  · rw [if_pos ha]
    by_cases hD : 0 ≤ b * b - 4 * a * c
    · rw [if_pos hD, ← hk]
      have v := mk_Vq hB ha hD 1 (by decide)
      unfold sf_V at v
      exact sg_key.choose_spec.2.2.1 _ _ _ _ _ _ _ hv (by omega) (by omega) (by omega) (by omega) ha hD (by omega)
    · rw [if_neg hD]
      exact sg_key.choose_spec.2.2.2.1 _ _ _ _ _ _ _ hv ha (by omega)
