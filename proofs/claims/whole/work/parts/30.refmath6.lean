/-! the reference: digits -/
theorem rd_split {d : Nat → Nat} (i : Nat) : ∀ k, ∃ q, rd_v d (i + 1 + k) = rd_v d i + 10000 ^ i * (d i + 10000 * q) := by
  intro k
  induction k with
  | zero => exact ⟨0, by show rd_v d (i + 1) = _; rw [rd_vS, Nat.mul_zero, Nat.add_zero, Nat.mul_comm]⟩
  | succ k ih =>
    obtain ⟨q, hq⟩ := ih
    refine ⟨q + d (i + 1 + k) * 10000 ^ k, ?_⟩
    show rd_v d (i + 1 + k + 1) = _
    rw [rd_vS, hq, show i + 1 + k = i + (k + 1) by omega, Nat.pow_add, Nat.pow_succ]
    generalize 10000 ^ i = P
    generalize 10000 ^ k = R
    generalize d (i + (k + 1)) = y
    generalize d i = x
    have e : P * (x + 10000 * (q + y * R)) = P * (x + 10000 * q) + y * (P * (R * 10000)) := by
      rw [Nat.mul_add 10000, ← Nat.add_assoc, Nat.mul_add P (x + 10000 * q)]
      congr 1
      simp only [Nat.mul_assoc, Nat.mul_comm, Nat.mul_left_comm]
    rw [e, Nat.add_assoc]
theorem rd_digit {d : Nat → Nat} (hd : rd_ok d) {p : Nat} (hp : p < 192) : d (p / 4) / 10 ^ (p % 4) % 10 = rd_v d 48 / 10 ^ p % 10 := by
  obtain ⟨q, hq⟩ := rd_split (d := d) (p / 4) (47 - p / 4)
  rw [show p / 4 + 1 + (47 - p / 4) = 48 by omega] at hq
  have hl := rd_lt (d := d) (p / 4) (fun j hj => hd j (by omega))
  have e1 : 10 ^ p = 10000 ^ (p / 4) * 10 ^ (p % 4) := by
    have e : (10000 : Nat) = 10 ^ 4 := by decide
    rw [e, ← Nat.pow_mul, ← Nat.pow_add]
    congr 1
    omega
  rw [hq, e1, ← Nat.div_div_eq_div_mul, Nat.add_mul_div_left _ _ (Nat.pow_pos (by decide)), Nat.div_eq_of_lt hl, Nat.zero_add]
  have h : p % 4 = 0 ∨ p % 4 = 1 ∨ p % 4 = 2 ∨ p % 4 = 3 := by omega
  rcases h with h | h | h | h <;> rw [h]
  · rw [Nat.pow_zero, Nat.div_one, Nat.div_one]; omega
  · rw [Nat.pow_one]; omega
  · rw [show (10 : Nat) ^ 2 = 100 from rfl]; omega
  · rw [show (10 : Nat) ^ 3 = 1000 from rfl]; omega
/-- the number told so far: c places from the point's own on -/
def sg_v (V P : Nat) : Nat → Nat
  | 0 => 0
  | c + 1 => if c ≤ P then V / 10 ^ (P - c) else V * 10 ^ (c - P)
theorem sg_lo {V P c : Nat} (hV : V ≤ 10 ^ P) (hc : c ≤ P) : 10 * sg_v V P c + V / 10 ^ (P - c) % 10 = sg_v V P (c + 1) := by
  show _ = if c ≤ P then V / 10 ^ (P - c) else V * 10 ^ (c - P)
  rw [if_pos hc]
  cases c with
  | zero =>
    show 10 * 0 + _ = _
    rw [Nat.sub_zero, Nat.mul_zero, Nat.zero_add]
    have h1 : V / 10 ^ P ≤ 1 := Nat.div_le_of_le_mul (by rw [Nat.mul_one]; exact hV)
    exact Nat.mod_eq_of_lt (Nat.lt_of_le_of_lt h1 (by decide))
  | succ c =>
    show 10 * (if c ≤ P then V / 10 ^ (P - c) else V * 10 ^ (c - P)) + _ = _
    rw [if_pos (by omega), show P - c = (P - (c + 1)) + 1 by omega, Nat.pow_succ, ← Nat.div_div_eq_div_mul]
    generalize V / 10 ^ (P - (c + 1)) = y
    omega
theorem sg_hi {V P c : Nat} (hc : P < c) : 10 * sg_v V P c = sg_v V P (c + 1) := by
  show _ = if c ≤ P then V / 10 ^ (P - c) else V * 10 ^ (c - P)
  rw [if_neg (by omega)]
  cases c with
  | zero => omega
  | succ c =>
    show 10 * (if c ≤ P then V / 10 ^ (P - c) else V * 10 ^ (c - P)) = _
    by_cases h : c ≤ P
    · obtain rfl : c = P := by omega
      rw [if_pos (Nat.le_refl c), Nat.sub_self, Nat.pow_zero, Nat.div_one, show c + 1 - c = 1 by omega, Nat.pow_one, Nat.mul_comm]
    · rw [if_neg h, show c + 1 - P = (c - P) + 1 by omega, Nat.pow_succ]
      simp only [Nat.mul_assoc, Nat.mul_comm, Nat.mul_left_comm]
/-- both ways of telling a share are one -/
theorem sg_cut {V N g : Nat} (hN : N ≤ 48) (hg : g ≤ 18) : V * 1000 ^ (48 - N) / 1000000000 ^ 14 / 10 ^ (18 - g) = sg_v V (3 * N) (g + 1) := by
  have e1 : (1000 : Nat) ^ (48 - N) = 10 ^ (144 - 3 * N) := by
    rw [show (1000 : Nat) = 10 ^ 3 from rfl, ← Nat.pow_mul]
    congr 1
    omega
  have e2 : (1000000000 : Nat) ^ 14 = 10 ^ 126 := by decide +kernel
  rw [e1, e2, Nat.div_div_eq_div_mul, ← Nat.pow_add]
  show _ = if g ≤ 3 * N then V / 10 ^ (3 * N - g) else V * 10 ^ (g - 3 * N)
  by_cases h : g ≤ 3 * N
  · rw [if_pos h, show 126 + (18 - g) = (3 * N - g) + (144 - 3 * N) by omega, Nat.pow_add, Nat.mul_comm (10 ^ (3 * N - g)), ← Nat.div_div_eq_div_mul, Nat.mul_div_cancel _ (Nat.pow_pos (by decide))]
  · rw [if_neg h, show 144 - 3 * N = (g - 3 * N) + (126 + (18 - g)) by omega, Nat.pow_add, ← Nat.mul_assoc, Nat.mul_div_cancel _ (Nat.pow_pos (by decide))]
def rf_r (zf rn : Nat → Nat) (mkf : Nat → Bool) (x : Int32) (t : Nat) : Bool := fv_ed x && ((hv_has (re_e rn t) (re_b rn t) x false (zf t) && !hv_has (re_e rn t) (re_b rn t) x true (zf t)) && !mkf t)
def rf_b (zf rn : Nat → Nat) (mkf : Nat → Bool) (x : Int32) : Nat → Int32
  | 0 => 0
  | t + 1 => rf_b zf rn mkf x t ||| (if rf_r zf rn mkf x t = true then (1 : Int32) <<< (nI t &&& 31) else 0)
theorem rf_bS (zf rn : Nat → Nat) (mkf : Nat → Bool) (x : Int32) (t : Nat) : rf_b zf rn mkf x (t + 1) = rf_b zf rn mkf x t ||| (if rf_r zf rn mkf x t = true then (1 : Int32) <<< (nI t &&& 31) else 0) := rfl
theorem sg_cmp {P c g : Nat} (hP : P < 2 ^ 30) (hc : c < 2 ^ 30) (hg : g < 2 ^ 30) : nI P - nI c < nI P - nI g ↔ g < c := by
  rw [Int32.lt_iff_toInt_lt, pk_sub_toInt hP hc, pk_sub_toInt hP hg]
  omega
theorem sg_neg {P c : Nat} (hP : P < 2 ^ 30) (hc : c < 2 ^ 30) : 0 ≤ nI P - nI c ↔ c ≤ P := by
  rw [Int32.le_iff_toInt_le, pk_sub_toInt hP hc]
  have e : (0 : Int32).toInt = 0 := by decide
  omega
theorem sg_step (P c : Nat) : nI P - nI c + (-1) = nI P - nI (c + 1) := by
  rw [nI_succ]
  generalize nI P = a
  generalize nI c = b
  rw [Int32.sub_eq_add_neg a (b + 1), Int32.neg_add, Int32.sub_eq_add_neg a b, Int32.sub_eq_add_neg (-b) 1, Int32.add_assoc]
