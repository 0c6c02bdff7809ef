/-! the sum on its way -/
theorem pm_b1 {n h j t : Nat} (hn : n ≤ 48) (hh : h ≤ 1000) (hj : j ≤ n) (ht : t ≤ j) : pm_G n h j t * 1000 ^ (48 - n) ≤ 2 * 1000 ^ 48 := by
  have h1 := pm_G_le n h j t (j - t)
  rw [show t + (j - t) = j by omega] at h1
  exact Nat.le_trans (Nat.mul_le_mul_right _ (Nat.le_trans h1 (pm_G_bd h hh n j hj))) (pm_1001 hn)
theorem pm_b2 {n h j : Nat} (hn : n ≤ 48) (hh : h ≤ 1000) (hj : j ≤ n) : pm_ch n j * h ^ j * 1000 ^ (48 - n) ≤ 2 * 1000 ^ 48 :=
  Nat.le_trans (Nat.mul_le_mul_right _ (Nat.le_trans (pm_c_le n h j) (pm_G_bd h hh n j hj))) (pm_1001 hn)
theorem pm_b3 {v f : Nat} (hv : v ≤ 2 * 1000 ^ 48) (hf : f ≤ 48000) : f * v < 1000000000 ^ 17 :=
  Nat.lt_of_le_of_lt (Nat.mul_le_mul hf hv) (by decide +kernel)
theorem pm_b4 {v w : Nat} (hv : v ≤ 2000 * 1000 ^ 48) (hw : w ≤ 2 * 1000 ^ 48) : v + w < 1000000000 ^ 17 :=
  Nat.lt_of_le_of_lt (Nat.add_le_add hv hw) (by decide +kernel)
theorem pm_b5 {v h : Nat} (hv : v ≤ 2 * 1000 ^ 48) : (1000 - h) * v ≤ 2000 * 1000 ^ 48 :=
  Nat.le_trans (Nat.mul_le_mul (show 1000 - h ≤ 1000 by omega) hv) (by decide +kernel)
/-- the next term -/
theorem pm_term {n h j S : Nat} (hj : j < n) : (n - j) * h * (pm_ch n j * h ^ j * S) / (j + 1) = pm_ch n (j + 1) * h ^ (j + 1) * S := by
  have h1 := pm_ch_mul n j
  have h2 : (n - j) * pm_ch n j = (j + 1) * pm_ch n (j + 1) := by
    rw [Nat.sub_mul]
    omega
  have h3 : (n - j) * h * (pm_ch n j * h ^ j * S) = (pm_ch n (j + 1) * h ^ (j + 1) * S) * (j + 1) := by
    calc (n - j) * h * (pm_ch n j * h ^ j * S) = ((n - j) * pm_ch n j) * (h ^ j * h * S) := by simp only [Nat.mul_assoc, Nat.mul_comm, Nat.mul_left_comm]
      _ = ((j + 1) * pm_ch n (j + 1)) * (h ^ j * h * S) := by rw [h2]
      _ = (pm_ch n (j + 1) * h ^ (j + 1) * S) * (j + 1) := by
        rw [Nat.pow_succ]
        simp only [Nat.mul_assoc, Nat.mul_comm, Nat.mul_left_comm]
  rw [h3, Nat.mul_div_cancel _ (Nat.succ_pos j)]
theorem pm_s1 {n h j m S v : Nat} (hm : m ≤ j) (hv : v = pm_G n h j (min j m) * S) : (1000 - h) * v = pm_G n h (j + 1) (min (j + 1) m) * S := by
  rw [hv, Nat.min_eq_right hm, Nat.min_eq_right (by omega), pm_G_up n h j m hm, Nat.mul_assoc]
theorem pm_s2 {n h j m S v w : Nat} (hm : j < m) (hv : v = pm_G n h j (min j m) * S) (hw : w = pm_ch n (j + 1) * h ^ (j + 1) * S) : (1000 - h) * v + w = pm_G n h (j + 1) (min (j + 1) m) * S := by
  rw [hv, hw, Nat.min_eq_left (by omega), Nat.min_eq_left (by omega), pm_GS n h (j + 1) j, pm_G_up n h j j (Nat.le_refl j), Nat.sub_self, Nat.pow_zero, Nat.mul_one, Nat.add_mul, Nat.mul_assoc (1000 - h)]
/-- whether the sum, through 1000^n, is above a level of thousandths -/
def pv_above (n m h lv : Nat) : Bool := decide (lv * 1000 ^ n < 1000 * pm_G n h n m)
theorem pv_above_v {n m h lv v : Nat} (hn : n ≤ 48) (hv : v = pm_G n h n m * 1000 ^ (48 - n)) : decide (lv * 1000000 * 1000000000 ^ 15 < v) = pv_above n m h lv := by
  unfold pv_above
  have e : (1000000 : Nat) * 1000000000 ^ 15 * 1000 = 1000 ^ n * 1000 ^ (48 - n) := by
    rw [← Nat.pow_add, show n + (48 - n) = 48 by omega]
  have hp : 0 < 1000 ^ (48 - n) := Nat.pow_pos (by decide)
  have h1 : lv * 1000000 * 1000000000 ^ 15 < v ↔ lv * 1000 ^ n < 1000 * pm_G n h n m := by
    rw [hv]
    generalize pm_G n h n m = G
    generalize 1000 ^ (48 - n) = S at e hp ⊢
    generalize 1000 ^ n = T at e ⊢
    have e1 : lv * 1000000 * 1000000000 ^ 15 * 1000 = lv * T * S := by
      rw [Nat.mul_assoc lv, Nat.mul_assoc lv, e, Nat.mul_assoc]
    have e2 : G * S * 1000 = 1000 * G * S := by rw [Nat.mul_comm, Nat.mul_assoc]
    constructor
    · intro h
      have h2 := Nat.mul_lt_mul_of_pos_right h (show 0 < 1000 by decide)
      rw [e1, e2] at h2
      exact Nat.lt_of_mul_lt_mul_right h2
    · intro h
      have h2 := Nat.mul_lt_mul_of_pos_right h hp
      rw [← e1, ← e2] at h2
      exact Nat.lt_of_mul_lt_mul_right h2
  exact decide_eq_decide.mpr h1
theorem pv_above_anti {n m h h2 lv : Nat} (hh : h ≤ h2) (h1000 : h2 ≤ 1000) (ha : pv_above n m h2 lv = true) : pv_above n m h lv = true := by
  unfold pv_above at *
  rw [decide_eq_true_eq] at *
  have := pm_P_anti n m (h2 - h) h (by omega)
  rw [show h + (h2 - h) = h2 by omega] at this
  omega
theorem pv_above_0 {n m lv : Nat} (hl : lv ≤ 999) : pv_above n m 0 lv = true := by
  unfold pv_above
  rw [decide_eq_true_eq, pm_P_zero]
  exact Nat.mul_lt_mul_of_pos_right (by omega) (Nat.pow_pos (by decide))
