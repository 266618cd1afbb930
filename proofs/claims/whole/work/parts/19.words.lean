/-! words of cells -/
theorem wd_ext {f : Nat → Bool} : ∀ n d, (∀ j, n ≤ j → j < n + d → f j = false) → ct_n f (n + d) = ct_n f n := by
  intro n d
  induction d with
  | zero => intro _; rfl
  | succ d ih =>
    intro h
    rw [← ih (fun j a b => h j a (by omega))]
    exact (ct_f (h (n + d) (by omega) (by omega))).symm
theorem wd_0 {f : Nat → Bool} : ∀ n, ct_n f n = 0 ↔ ∀ j, j < n → f j = false := by
  intro n
  induction n with
  | zero => exact ⟨fun _ j hj => by omega, fun _ => rfl⟩
  | succ n ih =>
    constructor
    · intro h j hj
      have h' : ct_n f n + (if f n = true then 1 else 0) = 0 := h
      have a : ct_n f n = 0 := by omega
      by_cases e : j = n
      · subst e
        cases z : f j
        · rfl
        · rw [if_pos z] at h'; omega
      · exact ih.mp a j (by omega)
    · intro h
      exact ct_0 _ h
theorem wd_1 {f : Nat → Bool} : ∀ n, ct_n f n = n ↔ ∀ j, j < n → f j = true := by
  intro n
  induction n with
  | zero => exact ⟨fun _ j hj => by omega, fun _ => rfl⟩
  | succ n ih =>
    have l := ct_le f n
    have e1 : ct_n f (n + 1) = ct_n f n + (if f n = true then 1 else 0) := rfl
    constructor
    · intro h j hj
      rw [e1] at h
      by_cases z : f n = true
      · rw [if_pos z] at h
        by_cases e : j = n
        · rw [e]; exact z
        · exact ih.mp (by omega) j (by omega)
      · rw [if_neg z] at h; omega
    · intro h
      rw [e1, if_pos (h n (by omega)), ih.mpr (fun j hj => h j (by omega))]
def wd_W (m : Nat) (U : Nat → Bool) (w : Int32) : Prop := ∀ j, j < 32 → bt w j = (decide (j < 2 * m + 1) && U j)
theorem wd_lo {m : Nat} {U : Nat → Bool} {w : Int32} (hm : m ≤ 8) (h : wd_W m U w) {j : Nat} (hj : j < 2 * m + 1) : bt w j = U j := by
  rw [h j (by omega)]; simp [hj]
theorem wd_hi {m : Nat} {U : Nat → Bool} {w : Int32} (h : wd_W m U w) {j : Nat} (hj : 2 * m + 1 ≤ j) (h32 : j < 32) : bt w j = false := by
  rw [h j h32]; simp [show ¬ j < 2 * m + 1 by omega]
theorem wd_some {m : Nat} {U : Nat → Bool} {w : Int32} (hm : m ≤ 8) (h : wd_W m U w) : w = 0 ↔ ct_n U (2 * m + 1) = 0 := by
  rw [wd_0]
  constructor
  · intro e j hj
    rw [← wd_lo hm h hj, e, b_0]
  · intro e
    apply b_ext
    intro j hj
    rw [b_0]
    rcases Nat.lt_or_ge j (2 * m + 1) with t | t
    · rw [wd_lo hm h t]; exact e j t
    · exact wd_hi h t hj
theorem wd_every {m : Nat} {U : Nat → Bool} {w : Int32} (hm : m ≤ 8) (h : wd_W m U w) : w = (((1 : Int32) <<< (((2 * nI m) + 1) &&& 31)) - 1) ↔ ct_n U (2 * m + 1) = 2 * m + 1 := by
  rw [wd_1]
  constructor
  · intro e j hj
    rw [← wd_lo hm h hj, e, sx_all m (by omega) j (by omega)]
    simp [hj]
  · intro e
    apply b_ext
    intro j hj
    rw [sx_all m (by omega) j hj]
    rcases Nat.lt_or_ge j (2 * m + 1) with t | t
    · rw [wd_lo hm h t, e j t]; simp [t]
    · rw [wd_hi h t hj]; simp [show ¬ j < 2 * m + 1 by omega]
theorem wd_same {m : Nat} {U U' : Nat → Bool} {w w' : Int32} (hm : m ≤ 8) (h : wd_W m U w) (h' : wd_W m U' w') : w' = w ↔ ∀ j, j < 2 * m + 1 → U j = U' j := by
  constructor
  · intro e j hj
    rw [← wd_lo hm h hj, ← wd_lo hm h' hj, e]
  · intro e
    apply b_ext
    intro j hj
    rcases Nat.lt_or_ge j (2 * m + 1) with t | t
    · rw [wd_lo hm h t, wd_lo hm h' t, e j t]
    · rw [wd_hi h t hj, wd_hi h' t hj]
theorem wd_impl {m : Nat} {U U' : Nat → Bool} {w w' : Int32} (hm : m ≤ 8) (h : wd_W m U w) (h' : wd_W m U' w') : (w' &&& (w ^^^ (-1))) = 0 ↔ ∀ j, j < 2 * m + 1 → U' j = true → U j = true := by
  constructor
  · intro e j hj u
    have : bt (w' &&& (w ^^^ (-1))) j = false := by rw [e, b_0]
    rw [b_and, b_xor, b_m1 j (by omega), wd_lo hm h hj, wd_lo hm h' hj, u] at this
    simpa using this
  · intro e
    apply b_ext
    intro j hj
    rw [b_0, b_and, b_xor, b_m1 j hj]
    rcases Nat.lt_or_ge j (2 * m + 1) with t | t
    · rw [wd_lo hm h t, wd_lo hm h' t]
      cases u : U' j
      · rfl
      · rw [e j t u]; rfl
    · rw [wd_hi h' t hj]; rfl
theorem wd_bit {m : Nat} {U : Nat → Bool} {w : Int32} (hm : m ≤ 8) (h : wd_W m U w) {c : Nat} (hc : c ≤ 2 * m) : (w >>> (nI c &&& 31)) &&& 1 = bi_n (U c) := by
  rw [bi_one w c (by omega), wd_lo hm h (by omega)]
theorem wd_s1 (w : Int32) {j : Nat} (hj : j < 32) : bt (w <<< ((1 : Int32) &&& 31)) j = (decide (1 ≤ j) && bt w (j - 1)) := b_shl 1 (by omega) w hj
theorem wd_r1 (w : Int32) {j : Nat} (hj : j < 32) : bt (w >>> ((1 : Int32) &&& 31)) j = if 1 + j < 32 then bt w (1 + j) else bt w 31 := b_sshr 1 (by omega) w hj
theorem wd_pieces {m : Nat} {U : Nat → Bool} {w : Int32} (hm : m ≤ 8) (h : wd_W m U w) :
    ct_n (bt (w &&& ((w <<< ((1 : Int32) &&& 31)) ^^^ (-1)))) 17 = ct_n (cq_p U m false) (2 * m + 1) := by
  have b : ∀ j, j < 32 → bt (w &&& ((w <<< ((1 : Int32) &&& 31)) ^^^ (-1))) j = (bt w j && !(decide (1 ≤ j) && bt w (j - 1))) := by
    intro j hj
    rw [b_and, b_xor, b_m1 j hj, wd_s1 w hj]
    simp
  have e : 17 = (2 * m + 1) + (16 - 2 * m) := by omega
  rw [e, wd_ext]
  · apply ct_c
    intro i hi
    rw [b i (by omega), wd_lo hm h hi]
    unfold cq_p
    rcases Nat.eq_zero_or_pos i with z | z
    · subst z; simp
    · rw [wd_lo hm h (show i - 1 < 2 * m + 1 by omega)]
      simp [show 1 ≤ i by omega, show ¬ i = 0 by omega]
  · intro j a c
    rw [b j (by omega), wd_hi h a (by omega)]; rfl
theorem wd_aaaa : ∀ j, j < 17 → bt 43690 j = decide (j % 2 = 1) := by decide +kernel
theorem wd_points {m : Nat} {U : Nat → Bool} {w : Int32} (hm : m ≤ 8) (h : wd_W m U w) :
    ct_n (bt (((w &&& ((w <<< ((1 : Int32) &&& 31)) ^^^ (-1))) &&& ((w >>> ((1 : Int32) &&& 31)) ^^^ (-1))) &&& 43690)) 17 = ct_n (cq_p U m true) (2 * m + 1) := by
  have b : ∀ j, j < 17 → bt (((w &&& ((w <<< ((1 : Int32) &&& 31)) ^^^ (-1))) &&& ((w >>> ((1 : Int32) &&& 31)) ^^^ (-1))) &&& 43690) j =
      (((bt w j && !(decide (1 ≤ j) && bt w (j - 1))) && !(bt w (1 + j))) && decide (j % 2 = 1)) := by
    intro j hj
    rw [b_and, b_and, b_and, b_xor, b_xor, b_m1 j (by omega), wd_s1 w (by omega), wd_r1 w (by omega), wd_aaaa j hj, if_pos (by omega)]
    simp
  have e : 17 = (2 * m + 1) + (16 - 2 * m) := by omega
  rw [e, wd_ext]
  · apply ct_c
    intro i hi
    rw [b i (by omega), wd_lo hm h hi]
    unfold cq_p
    have k1 : bt w (1 + i) = (!decide (i = 2 * m) && U (i + 1)) := by
      rcases Nat.lt_or_ge i (2 * m) with t | t
      · rw [Nat.add_comm, wd_lo hm h (show i + 1 < 2 * m + 1 by omega)]
        simp [show ¬ i = 2 * m by omega]
      · rw [wd_hi h (by omega) (by omega)]
        simp [show i = 2 * m by omega]
    rw [k1]
    rcases Nat.eq_zero_or_pos i with z | z
    · subst z; simp
    · rw [wd_lo hm h (show i - 1 < 2 * m + 1 by omega)]
      simp only [show 1 ≤ i by omega, show ¬ i = 0 by omega, decide_true, decide_false, Bool.true_and, Bool.false_or, Bool.not_true]
      cases U i <;> cases U (i - 1) <;> cases U (i + 1) <;> cases decide (i % 2 = 1) <;> cases decide (i = 2 * m) <;> rfl
  · intro j a c
    rw [b j (by omega), wd_hi h a (by omega)]; rfl
