/-! the reference: N, X, shares, bounds -/
def rN (zf rn : Nat → Nat) (t : Nat) : Nat := hv_N (re_e rn t) (re_b rn t) (zf t) (zf t)
def rX (zf rn : Nat → Nat) (t : Nat) : Nat := hv_X (re_e rn t) (re_b rn t) (zf t) (zf t)
def rD (zf rn : Nat → Nat) (t : Nat) : Nat := hv_D (re_e rn t) (re_b rn t) (zf t) (zf t)
theorem rN_le {zf rn : Nat → Nat} {t : Nat} (h : zf t ≤ 48) : rN zf rn t ≤ 48 := Nat.le_trans (hv_N_le _ _ _ _) h
theorem rX_le {zf rn : Nat → Nat} {t : Nat} : rX zf rn t ≤ rN zf rn t := hv_X_le _ _ _ _
def sh_v (most : Bool) (N X j : Nat) : Nat := if most = true then pm_G N j N X else pm_G N (1000 - j) N (N - X)
theorem sh_most (N X j : Nat) : pm_R N j 0 (X + 1 - 0) = sh_v true N X j := by
  rw [Nat.sub_zero, pm_R_G]
  rfl
theorem sh_least {N X j : Nat} (hX : X ≤ N) (hj : j ≤ 1000) : pm_R N j X (N + 1 - X) = sh_v false N X j := by
  rw [show N + 1 - X = N - X + 1 by omega, pm_least hX hj]
  rfl
theorem sh_le {most : Bool} {N X j : Nat} (hj : j ≤ 1000) : sh_v most N X j ≤ 1000 ^ N := by
  unfold sh_v
  split
  · exact pm_P_le N X j hj
  · exact pm_P_le N (N - X) (1000 - j) (by omega)
theorem rb_4 {n l k : Nat} (hl : l ≤ 999) (hk : k ≤ 48) : 1000 * (l * 1000 ^ k) < 10000 ^ 48 := by
  have h1 : l * 1000 ^ k ≤ 1000 ^ (k + 1) := by
    rw [Nat.pow_succ, Nat.mul_comm]
    exact Nat.mul_le_mul_left _ (by omega)
  exact rb_1 (Nat.le_refl 1000) h1 (by omega)
theorem rb_5 (l k : Nat) : 1000 * (l * 1000 ^ k) = l * 1000 ^ (k + 1) := by
  rw [Nat.pow_succ]
  simp only [Nat.mul_assoc, Nat.mul_comm, Nat.mul_left_comm]
theorem sh_abM {N X j lv : Nat} : decide (lv * 1000 ^ N < 1000 * sh_v true N X j) = pv_above N X j lv := rfl
theorem sh_abL {N X j lv : Nat} : decide (lv * 1000 ^ N < 1000 * sh_v false N X j) = pv_above N (N - X) (1000 - j) lv := rfl
/-- the lower bound, seen from the misses -/
theorem gv_low {n m lv lo : Nat} (hlo : lo ≤ 1000) (ha : pv_above n m (1000 - lo) lv = true) (hb : ∀ i, i < lo → pv_above n m (1000 - i) lv = false) : gv_is n m lv (1000 - lo) := by
  refine gv_end (by omega) ha (fun i h1 h2 => ?_)
  have h3 := hb (1000 - i) (by omega)
  rwa [show 1000 - (1000 - i) = i by omega] at h3
