/-! MATH: how likely at most so many of n throws hit: exact sums, without the machine. -/
def pm_ch : Nat → Nat → Nat
  | _, 0 => 1
  | 0, _ + 1 => 0
  | n + 1, k + 1 => pm_ch n k + pm_ch n (k + 1)
theorem pm_ch0 (n : Nat) : pm_ch n 0 = 1 := by cases n <;> simp [pm_ch]
theorem pm_ch00 (k : Nat) : pm_ch 0 (k + 1) = 0 := by simp [pm_ch]
theorem pm_chS (n k : Nat) : pm_ch (n + 1) (k + 1) = pm_ch n k + pm_ch n (k + 1) := by simp [pm_ch]
theorem pm_ch_gt (n : Nat) : ∀ k, n < k → pm_ch n k = 0 := by
  induction n with
  | zero =>
    intro k hk
    obtain ⟨j, rfl⟩ : ∃ j, k = j + 1 := ⟨k - 1, by omega⟩
    exact pm_ch00 j
  | succ n ih =>
    intro k hk
    obtain ⟨j, rfl⟩ : ∃ j, k = j + 1 := ⟨k - 1, by omega⟩
    rw [pm_chS, ih j (by omega), ih (j + 1) (by omega)]
theorem pm_ch_mul (n : Nat) : ∀ k, (k + 1) * pm_ch n (k + 1) + k * pm_ch n k = n * pm_ch n k := by
  induction n with
  | zero =>
    intro k
    cases k with
    | zero => rw [pm_ch00]; omega
    | succ k => rw [pm_ch00, pm_ch00]; omega
  | succ n ih =>
    intro k
    cases k with
    | zero =>
      have h := ih 0
      have e : pm_ch (n + 1) (0 + 1) = pm_ch n 0 + pm_ch n (0 + 1) := pm_chS n 0
      rw [pm_ch0] at h
      rw [e, pm_ch0, pm_ch0]
      omega
    | succ k =>
      have h1 := ih k
      have h2 := ih (k + 1)
      rw [pm_chS n (k + 1), pm_chS n k]
      generalize pm_ch n k = c0 at h1 h2 ⊢
      generalize pm_ch n (k + 1) = c1 at h1 h2 ⊢
      generalize pm_ch n (k + 1 + 1) = c2 at h1 h2 ⊢
      simp only [Nat.add_mul, Nat.mul_add, Nat.one_mul] at h1 h2 ⊢
      omega
/-- the sum for i = 0 .. t of (n over i) h^i (1000 - h)^(k - i) -/
def pm_G (n h k : Nat) : Nat → Nat
  | 0 => (1000 - h) ^ k
  | t + 1 => pm_G n h k t + pm_ch n (t + 1) * h ^ (t + 1) * (1000 - h) ^ (k - (t + 1))
theorem pm_G0 (n h k : Nat) : pm_G n h k 0 = (1000 - h) ^ k := rfl
theorem pm_GS (n h k t : Nat) : pm_G n h k (t + 1) = pm_G n h k t + pm_ch n (t + 1) * h ^ (t + 1) * (1000 - h) ^ (k - (t + 1)) := rfl
theorem pm_G_up (n h k t : Nat) (ht : t ≤ k) : pm_G n h (k + 1) t = (1000 - h) * pm_G n h k t := by
  induction t with
  | zero => rw [pm_G0, pm_G0, Nat.pow_succ, Nat.mul_comm]
  | succ t ih =>
    rw [pm_GS, pm_GS, ih (by omega)]
    have e : k + 1 - (t + 1) = (k - (t + 1)) + 1 := by omega
    rw [e, Nat.pow_succ (1000 - h) (k - (t + 1))]
    generalize (1000 - h) ^ (k - (t + 1)) = gp
    generalize h ^ (t + 1) = hp
    generalize pm_ch n (t + 1) = c
    generalize pm_G n h k t = G
    generalize 1000 - h = g
    simp only [Nat.mul_add, Nat.mul_assoc, Nat.mul_comm, Nat.mul_left_comm]
theorem pm_G_st (n h k t : Nat) (ht : n ≤ t) : pm_G n h k t = pm_G n h k n := by
  induction t with
  | zero =>
    obtain rfl : n = 0 := by omega
    rfl
  | succ t ih =>
    rcases Nat.lt_or_ge t n with q | q
    · obtain rfl : t + 1 = n := by omega
      rfl
    · rw [pm_GS, pm_ch_gt n (t + 1) (by omega), Nat.zero_mul, Nat.zero_mul, Nat.add_zero, ih q]
theorem pm_G_upn (n h t : Nat) : pm_G n h (n + 1) t = (1000 - h) * pm_G n h n t := by
  rcases Nat.le_total t n with q | q
  · exact pm_G_up n h n t q
  · rw [pm_G_st n h (n + 1) t q, pm_G_st n h n t q]
    exact pm_G_up n h n n (Nat.le_refl n)
theorem pm_G_pas (n h k t : Nat) : pm_G (n + 1) h (k + 1) (t + 1) = pm_G n h (k + 1) (t + 1) + h * pm_G n h k t := by
  induction t with
  | zero =>
    rw [pm_GS (n + 1), pm_GS n, pm_G0, pm_G0, pm_G0, pm_chS, pm_ch0]
    have e : k + 1 - (0 + 1) = k := by omega
    rw [e]
    generalize (1000 - h) ^ (k + 1) = a
    generalize (1000 - h) ^ k = b
    generalize pm_ch n (0 + 1) = c
    simp only [Nat.zero_add, Nat.pow_one, Nat.add_mul, Nat.one_mul]
    omega
  | succ t ih =>
    rw [pm_GS (n + 1) h (k + 1) (t + 1), ih, pm_GS n h (k + 1) (t + 1), pm_GS n h k t, pm_chS]
    have e : k + 1 - (t + 1 + 1) = k - (t + 1) := by omega
    rw [e, Nat.pow_succ h (t + 1)]
    generalize (1000 - h) ^ (k - (t + 1)) = gp
    generalize h ^ (t + 1) = hp
    generalize pm_ch n (t + 1) = c0
    generalize pm_ch n (t + 1 + 1) = c1
    generalize pm_G n h k t = G0
    generalize pm_G n h (k + 1) (t + 1) = G1
    simp only [Nat.add_mul, Nat.mul_add, Nat.mul_assoc, Nat.mul_comm, Nat.mul_left_comm]
    omega
theorem pm_G_pn (n h t : Nat) : pm_G (n + 1) h (n + 1) (t + 1) = (1000 - h) * pm_G n h n (t + 1) + h * pm_G n h n t := by
  rw [pm_G_pas, pm_G_upn]
theorem pm_G_le1 (n h k t : Nat) : pm_G n h k t ≤ pm_G n h k (t + 1) := by rw [pm_GS]; exact Nat.le_add_right _ _
theorem pm_G_le (n h k t d : Nat) : pm_G n h k t ≤ pm_G n h k (t + d) := by
  induction d with
  | zero => exact Nat.le_refl _
  | succ d ih => exact Nat.le_trans ih (pm_G_le1 n h k (t + d))
/-- it never rises with h -/
theorem pm_P_step (n : Nat) : ∀ m h, h + 1 ≤ 1000 → pm_G n (h + 1) n m ≤ pm_G n h n m := by
  induction n with
  | zero =>
    intro m h _
    rw [pm_G_st 0 (h + 1) 0 m (Nat.zero_le m), pm_G_st 0 h 0 m (Nat.zero_le m), pm_G0, pm_G0, Nat.pow_zero, Nat.pow_zero]
    exact Nat.le_refl 1
  | succ n ih =>
    intro m h hh
    cases m with
    | zero =>
      rw [pm_G0, pm_G0]
      exact Nat.pow_le_pow_left (by omega) _
    | succ m =>
      rw [pm_G_pn, pm_G_pn]
      have a := ih m h hh
      have b := ih (m + 1) h hh
      have cc := pm_G_le1 n (h + 1) n m
      have e : 1000 - h = (1000 - (h + 1)) + 1 := by omega
      rw [e]
      generalize pm_G n (h + 1) n m = a1 at a cc ⊢
      generalize pm_G n (h + 1) n (m + 1) = b1 at b cc ⊢
      generalize pm_G n h n m = a0 at a ⊢
      generalize pm_G n h n (m + 1) = b0 at b ⊢
      generalize 1000 - (h + 1) = g
      have h1 : g * b1 ≤ g * b0 := Nat.mul_le_mul_left g b
      have h2 : h * a1 ≤ h * a0 := Nat.mul_le_mul_left h a
      simp only [Nat.add_mul, Nat.one_mul]
      omega
theorem pm_P_anti (n m d : Nat) : ∀ h, h + d ≤ 1000 → pm_G n (h + d) n m ≤ pm_G n h n m := by
  induction d with
  | zero => intro h _; exact Nat.le_refl _
  | succ d ih =>
    intro h hh
    exact Nat.le_trans (pm_P_step n m (h + d) (by omega)) (ih h (by omega))
theorem pm_P_full (n h : Nat) (hh : h ≤ 1000) : pm_G n h n n = 1000 ^ n := by
  induction n with
  | zero => rfl
  | succ n ih =>
    rw [pm_G_pn, pm_G_st n h n (n + 1) (by omega), ih, ← Nat.add_mul, show 1000 - h + h = 1000 by omega, Nat.pow_succ, Nat.mul_comm]
theorem pm_P_le (n m h : Nat) (hh : h ≤ 1000) : pm_G n h n m ≤ 1000 ^ n := by
  rw [← pm_P_full n h hh]
  rcases Nat.le_total m n with q | q
  · have := pm_G_le n h n m (n - m)
    rwa [show m + (n - m) = n by omega] at this
  · rw [pm_G_st n h n m q]
    exact Nat.le_refl _
theorem pm_P_zero (n m k : Nat) : pm_G n 0 k m = 1000 ^ k := by
  induction m with
  | zero => rfl
  | succ m ih => rw [pm_GS, ih, Nat.zero_pow (by omega), Nat.mul_zero, Nat.zero_mul, Nat.add_zero]
/-- on its way to n the sum stays small -/
theorem pm_G_bd (h : Nat) (hh : h ≤ 1000) (n : Nat) : ∀ k, k ≤ n → pm_G n h k k ≤ 1001 ^ n := by
  induction n with
  | zero =>
    intro k hk
    obtain rfl : k = 0 := by omega
    exact Nat.le_refl 1
  | succ n ih =>
    intro k hk
    cases k with
    | zero =>
      rw [pm_G0, Nat.pow_zero]
      exact Nat.pow_pos (by omega)
    | succ k =>
      rcases Nat.lt_or_ge k n with q | q
      · rw [pm_G_pas]
        have a := ih (k + 1) (by omega)
        have b := ih k (by omega)
        have b2 := Nat.mul_le_mul hh b
        rw [Nat.pow_succ]
        omega
      · obtain rfl : k = n := by omega
        rw [pm_P_full _ h hh]
        exact Nat.pow_le_pow_left (by omega) _
theorem pm_c_le (n h k : Nat) : pm_ch n k * h ^ k ≤ pm_G n h k k := by
  cases k with
  | zero => rw [pm_ch0, pm_G0, Nat.pow_zero, Nat.pow_zero]; exact Nat.le_refl 1
  | succ k =>
    rw [pm_GS, Nat.sub_self, Nat.pow_zero, Nat.mul_one]
    exact Nat.le_add_left _ _
theorem pm_1001 {n : Nat} (hn : n ≤ 48) : 1001 ^ n * 1000 ^ (48 - n) ≤ 2 * 1000 ^ 48 := by
  have h1 : 1001 ^ n * 1000 ^ (48 - n) ≤ 1001 ^ n * 1001 ^ (48 - n) := Nat.mul_le_mul_left _ (Nat.pow_le_pow_left (by omega) _)
  rw [← Nat.pow_add, show n + (48 - n) = 48 by omega] at h1
  exact Nat.le_trans h1 (by decide +kernel)
/-- the two sums beside each other make the whole -/
theorem pm_compl0 (n h : Nat) (hh : h ≤ 1000) : pm_G (n + 1) h (n + 1) 0 + pm_G (n + 1) (1000 - h) (n + 1) n = 1000 ^ (n + 1) := by
  induction n with
  | zero =>
    rw [pm_G0, pm_G0, Nat.pow_succ, Nat.pow_succ, Nat.pow_succ, Nat.pow_zero, Nat.pow_zero, Nat.pow_zero]
    omega
  | succ n ih =>
    rw [pm_G_pn (n + 1) (1000 - h) n, pm_P_full (n + 1) (1000 - h) (by omega)]
    rw [pm_G0] at ih ⊢
    have e : 1000 - (1000 - h) = h := by omega
    rw [e, Nat.pow_succ (1000 - h) (n + 1), Nat.pow_succ 1000 (n + 1)]
    generalize (1000 - h) ^ (n + 1) = a at ih ⊢
    generalize pm_G (n + 1) (1000 - h) (n + 1) n = b at ih ⊢
    rw [← ih]
    obtain ⟨g, hg⟩ : ∃ g, g = 1000 - h := ⟨_, rfl⟩
    rw [← hg]
    obtain rfl : h = 1000 - g := by omega
    obtain ⟨k, hk⟩ : ∃ k, k = 1000 - g := ⟨_, rfl⟩
    rw [← hk]
    have e2 : 1000 = g + k := by omega
    rw [e2]
    simp only [Nat.add_mul, Nat.mul_add, Nat.mul_comm]
    omega
