/-! DECIMALS: 17 parts of nine digits, the last ones first: what they tell -/
def pd_v (d : Nat → Nat) : Nat → Nat
  | 0 => 0
  | i + 1 => pd_v d i + d i * 1000000000 ^ i
theorem pd_v0 (d : Nat → Nat) : pd_v d 0 = 0 := rfl
theorem pd_vS (d : Nat → Nat) (i : Nat) : pd_v d (i + 1) = pd_v d i + d i * 1000000000 ^ i := rfl
def pd_ok (d : Nat → Nat) : Prop := ∀ j, j < 17 → d j < 1000000000
theorem pd_congr {d e : Nat → Nat} (i : Nat) (h : ∀ j, j < i → d j = e j) : pd_v d i = pd_v e i := by
  induction i with
  | zero => rfl
  | succ i ih => rw [pd_vS, pd_vS, ih (fun j hj => h j (by omega)), h i (by omega)]
theorem pd_lt {d : Nat → Nat} (i : Nat) (h : ∀ j, j < i → d j < 1000000000) : pd_v d i < 1000000000 ^ i := by
  induction i with
  | zero => rw [pd_v0, Nat.pow_zero]; omega
  | succ i ih =>
    have h1 := ih (fun j hj => h j (by omega))
    have h2 : d i + 1 ≤ 1000000000 := h i (by omega)
    have h3 := Nat.mul_le_mul_right (1000000000 ^ i) h2
    rw [pd_vS, Nat.pow_succ, Nat.mul_comm (1000000000 ^ i)]
    rw [Nat.add_mul, Nat.one_mul] at h3
    omega
theorem pd_up (d : Nat → Nat) (i x : Nat) : pd_v (va_up d i x) i = pd_v d i := pd_congr i (fun j hj => va_up_ne d x (by omega))
theorem pd_upS (d : Nat → Nat) (i x : Nat) : pd_v (va_up d i x) (i + 1) = pd_v d i + x * 1000000000 ^ i := by rw [pd_vS, pd_up, va_up_self]
theorem pd_0 (d : Nat → Nat) (i : Nat) (h : ∀ j, j < i → d j = 0) : pd_v d i = 0 := by
  induction i with
  | zero => rfl
  | succ i ih => rw [pd_vS, ih (fun j hj => h j (by omega)), h i (by omega), Nat.zero_mul]
theorem pd_pos (d : Nat → Nat) (i j : Nat) (hj : j < i) (h : d j ≠ 0) : 0 < pd_v d i := by
  induction i with
  | zero => omega
  | succ i ih =>
    rw [pd_vS]
    rcases Nat.lt_or_ge j i with q | q
    · have := ih q
      omega
    · obtain rfl : j = i := by omega
      have h1 : 0 < d j * 1000000000 ^ j := Nat.mul_pos (by omega) (Nat.pow_pos (by omega))
      omega
/-- one part multiplied -/
theorem pd_mul {d d2 : Nat → Nat} {i f k : Nat} (hv : pd_v d2 i + k * 1000000000 ^ i = f * pd_v d i) : pd_v (va_up d2 i ((d i * f + k) % 1000000000)) (i + 1) + (d i * f + k) / 1000000000 * 1000000000 ^ (i + 1) = f * pd_v d (i + 1) := by
  rw [pd_upS, pd_vS, Nat.pow_succ]
  generalize 1000000000 ^ i = P at hv ⊢
  have e1 := Nat.mod_add_div (d i * f + k) 1000000000
  generalize (d i * f + k) % 1000000000 = r at e1 ⊢
  generalize (d i * f + k) / 1000000000 = q at e1 ⊢
  have e2 : r * P + q * (P * 1000000000) = (d i * f + k) * P := by
    rw [← e1, Nat.add_mul]
    simp only [Nat.mul_assoc, Nat.mul_comm, Nat.mul_left_comm]
  have e3 : f * (pd_v d i + d i * P) = f * pd_v d i + d i * f * P := by
    rw [Nat.mul_add]
    simp only [Nat.mul_assoc, Nat.mul_comm, Nat.mul_left_comm]
  rw [e3, ← hv]
  rw [Nat.add_mul] at e2
  omega
/-- two parts added -/
theorem pd_add {d d2 e : Nat → Nat} {i k k2 r : Nat} (hv : pd_v d2 i + k * 1000000000 ^ i = pd_v d i + pd_v e i) (hr : r + k2 * 1000000000 = d i + e i + k) : pd_v (va_up d2 i r) (i + 1) + k2 * 1000000000 ^ (i + 1) = pd_v d (i + 1) + pd_v e (i + 1) := by
  rw [pd_upS, pd_vS, pd_vS, Nat.pow_succ]
  generalize 1000000000 ^ i = P at hv ⊢
  have e2 : r * P + k2 * (P * 1000000000) = (d i + e i + k) * P := by
    rw [← hr, Nat.add_mul]
    simp only [Nat.mul_assoc, Nat.mul_comm, Nat.mul_left_comm]
  simp only [Nat.add_mul] at e2
  omega
/-- the first r parts, from the top -/
def pd_h (d : Nat → Nat) : Nat → Nat
  | 0 => 0
  | r + 1 => pd_h d r * 1000000000 + d (16 - r)
theorem pd_h0 (d : Nat → Nat) : pd_h d 0 = 0 := rfl
theorem pd_hS (d : Nat → Nat) (r : Nat) : pd_h d (r + 1) = pd_h d r * 1000000000 + d (16 - r) := rfl
theorem pd_hv (d : Nat → Nat) (r : Nat) (hr : r ≤ 17) : pd_v d 17 = pd_h d r * 1000000000 ^ (17 - r) + pd_v d (17 - r) := by
  induction r with
  | zero => rw [pd_h0, Nat.zero_mul, Nat.zero_add]
  | succ r ih =>
    rw [ih (by omega), pd_hS]
    obtain ⟨t, ht⟩ : ∃ t, 16 - r = t := ⟨_, rfl⟩
    have e1 : 17 - r = t + 1 := by omega
    have e2 : 17 - (r + 1) = t := by omega
    rw [e1, e2, ht, pd_vS, Nat.pow_succ, Nat.add_mul]
    generalize 1000000000 ^ t = P
    have e3 : pd_h d r * (P * 1000000000) = pd_h d r * 1000000000 * P := by simp only [Nat.mul_assoc, Nat.mul_comm, Nat.mul_left_comm]
    omega
theorem pd_h17 (d : Nat → Nat) : pd_v d 17 = pd_h d 17 := by
  have := pd_hv d 17 (Nat.le_refl 17)
  rwa [Nat.sub_self, Nat.pow_zero, Nat.mul_one, pd_v0, Nat.add_zero] at this
theorem pd_hc {d e : Nat → Nat} (r : Nat) (hr : r ≤ 17) (h : ∀ j, 17 - r ≤ j → d j = e j) : pd_h d r = pd_h e r := by
  induction r with
  | zero => rfl
  | succ r ih => rw [pd_hS, pd_hS, ih (by omega) (fun j hj => h j (by omega)), h (16 - r) (by omega)]
/-- one part divided -/
theorem pd_div {d d2 : Nat → Nat} {r k w : Nat} (hr : r ≤ 16) (hv : pd_h d r = k * pd_h d2 r + w) : pd_h d (r + 1) = k * pd_h (va_up d2 (16 - r) ((w * 1000000000 + d (16 - r)) / k)) (r + 1) + (w * 1000000000 + d (16 - r)) % k := by
  rw [pd_hS, pd_hS, va_up_self, pd_hc (e := d2) r (by omega) (fun j hj => va_up_ne d2 _ (by omega)), hv]
  have e1 := Nat.mod_add_div (w * 1000000000 + d (16 - r)) k
  generalize (w * 1000000000 + d (16 - r)) % k = x at e1 ⊢
  generalize (w * 1000000000 + d (16 - r)) / k = q at e1 ⊢
  rw [Nat.mul_add, Nat.add_mul, Nat.mul_assoc]
  omega
/-- 1 / 1000^n -/
theorem pd_thou (t : Nat) : 1000 ^ t = 1000 ^ (t % 3) * 1000000000 ^ (t / 3) := by
  have e : (1000000000 : Nat) = 1000 ^ 3 := by decide
  rw [e, ← Nat.pow_mul, ← Nat.pow_add]
  congr 1
  omega
theorem pd_one (i x : Nat) (hi : i < 17) : pd_v (va_up (fun _ => 0) i x) 17 = x * 1000000000 ^ i := by
  have h : ∀ r, i < r → pd_v (va_up (fun _ => 0) i x) r = x * 1000000000 ^ i := by
    intro r
    induction r with
    | zero => intro h; omega
    | succ r ih =>
      intro h
      rcases Nat.lt_or_ge i r with q | q
      · rw [pd_vS, ih q, va_up_ne _ _ (by omega), Nat.zero_mul, Nat.add_zero]
      · obtain rfl : i = r := by omega
        rw [pd_upS, pd_0 _ _ (fun _ _ => rfl), Nat.zero_add]
  exact h 17 hi
/-- the machine's numbers -/
theorem lN_st (d : Nat → Nat) (i v : Nat) : vp_updL (fun j => lN (d j)) i (lN v) = fun j => lN (va_up d i v j) := by
  funext j
  by_cases h : j = i
  · subst h
    rw [va_up_self]
    exact pk_uLs
  · rw [va_up_ne _ _ h]
    exact pk_uLn h
theorem lN_lit (n : Nat) : (OfNat.ofNat n : Int64) = lN n := rfl
theorem lN_md (a b : Nat) : lN a - lN (a / b * b) = lN (a % b) := by
  rw [lN_sub (Nat.div_mul_le_self a b)]
  exact congrArg lN (by have := Nat.div_add_mod' a b; omega)
/-- 1 / 1000^n, as it is set -/
theorem pd_set {d : Nat → Nat} {n k : Nat} (hz : ∀ j, j < 17 → d j = 0) (hn : n ≤ 48) (hk : k = (48 - n) % 3) : pd_ok (va_up d ((48 - n) / 3) (1000 ^ k)) ∧ pd_v (va_up d ((48 - n) / 3) (1000 ^ k)) 17 = 1000 ^ (48 - n) := by
  have hi : (48 - n) / 3 < 17 := by omega
  have hp : 1000 ^ k < 1000000000 := by
    have : k = 0 ∨ k = 1 ∨ k = 2 := by omega
    rcases this with rfl | rfl | rfl <;> decide
  refine ⟨fun j hj => ?_, ?_⟩
  · by_cases h : j = (48 - n) / 3
    · rw [h, va_up_self]
      exact hp
    · rw [va_up_ne _ _ h, hz j hj]
      decide
  · rw [pd_congr (e := va_up (fun _ => 0) ((48 - n) / 3) (1000 ^ k)) 17 (fun j hj => ?_), pd_one _ _ hi, pd_thou (48 - n), hk]
    by_cases h : j = (48 - n) / 3
    · rw [h, va_up_self, va_up_self]
    · rw [va_up_ne _ _ h, va_up_ne _ _ h, hz j hj]
theorem pd_mulI {d d2 : Nat → Nat} {i f k : Nat} (hi : i < 17) (hd : pd_ok d) (hf : f ≤ 48000) (hk : ∀ j, i ≤ j → d2 j = d j) (hlo : ∀ j, j < i → d2 j < 1000000000) (hv : pd_v d2 i + k * 1000000000 ^ i = f * pd_v d i) (hc : k ≤ f) :
    (∀ j, i + 1 ≤ j → va_up d2 i ((d i * f + k) % 1000000000) j = d j) ∧ (∀ j, j < i + 1 → va_up d2 i ((d i * f + k) % 1000000000) j < 1000000000) ∧ pd_v (va_up d2 i ((d i * f + k) % 1000000000)) (i + 1) + (d i * f + k) / 1000000000 * 1000000000 ^ (i + 1) = f * pd_v d (i + 1) ∧ (d i * f + k) / 1000000000 ≤ f := by
  refine ⟨fun j hj => by rw [va_up_ne _ _ (by omega)]; exact hk j (by omega), fun j hj => ?_, pd_mul hv, ?_⟩
  · by_cases h : j = i
    · rw [h, va_up_self]
      exact Nat.mod_lt _ (by decide)
    · rw [va_up_ne _ _ h]
      exact hlo j (by omega)
  · have h1 : d i + 1 ≤ 1000000000 := hd i hi
    have h2 := Nat.mul_le_mul_right f h1
    rw [Nat.add_mul, Nat.one_mul] at h2
    exact Nat.div_le_of_le_mul (by omega)
theorem pd_mulB {d : Nat → Nat} {i f k : Nat} (hi : i < 17) (hd : pd_ok d) (hf : f ≤ 48000) (hc : k ≤ f) : d i * f + k < 2 ^ 63 := by
  have h1 := Nat.mul_le_mul (Nat.le_of_lt (hd i hi)) hf
  omega
theorem pd_top {a b k : Nat} (h : a + k * 1000000000 ^ 17 = b) (hb : b < 1000000000 ^ 17) : a = b := by
  rcases Nat.eq_zero_or_pos k with q | q
  · rw [q] at h
    omega
  · have := Nat.mul_le_mul_right (1000000000 ^ 17) q
    omega
theorem pd_divI {d d2 : Nat → Nat} {i k w : Nat} (hi : i < 17) (hd : pd_ok d) (hk : 1 ≤ k) (hv : pd_h d (17 - (i + 1)) = k * pd_h d2 (17 - (i + 1)) + w) (hw : w < k) (heq : ∀ j, j < i + 1 → d2 j = d j) (hok : ∀ j, i + 1 ≤ j → j < 17 → d2 j < 1000000000) :
    pd_h d (17 - i) = k * pd_h (va_up d2 i ((w * 1000000000 + d i) / k)) (17 - i) + (w * 1000000000 + d i) % k ∧ (w * 1000000000 + d i) % k < k ∧ (∀ j, j < i → va_up d2 i ((w * 1000000000 + d i) / k) j = d j) ∧ (∀ j, i ≤ j → j < 17 → va_up d2 i ((w * 1000000000 + d i) / k) j < 1000000000) := by
  obtain ⟨r, hr⟩ : ∃ r, 17 - (i + 1) = r := ⟨_, rfl⟩
  have e1 : 17 - i = r + 1 := by omega
  have e2 : 16 - r = i := by omega
  rw [hr] at hv
  have h1 := pd_div (d := d) (d2 := d2) (r := r) (k := k) (w := w) (by omega) hv
  rw [e2] at h1
  refine ⟨by rw [e1]; exact h1, Nat.mod_lt _ (by omega), fun j hj => by rw [va_up_ne _ _ (by omega)]; exact heq j (by omega), fun j h1 h2 => ?_⟩
  by_cases h : j = i
  · rw [h, va_up_self]
    have h3 := hd i hi
    refine (Nat.div_lt_iff_lt_mul (by omega)).mpr ?_
    have h4 : (w + 1) * 1000000000 ≤ k * 1000000000 := Nat.mul_le_mul_right _ hw
    omega
  · rw [va_up_ne _ _ h]
    exact hok j (by omega) h2
theorem pd_divE {d d2 : Nat → Nat} {k w : Nat} (hv : pd_h d 17 = k * pd_h d2 17 + w) (hw : w < k) : pd_v d2 17 = pd_v d 17 / k := by
  rw [pd_h17, pd_h17, hv, Nat.add_comm, Nat.add_mul_div_left _ _ (by omega), Nat.div_eq_of_lt hw, Nat.zero_add]
theorem pd_addI {d d2 e : Nat → Nat} {i k k2 r : Nat} (hi : i < 17) (hk : ∀ j, i ≤ j → d2 j = d j) (hlo : ∀ j, j < i → d2 j < 1000000000) (hv : pd_v d2 i + k * 1000000000 ^ i = pd_v d i + pd_v e i) (hr : r + k2 * 1000000000 = d i + e i + k) (h3 : r < 1000000000) :
    (∀ j, i + 1 ≤ j → va_up d2 i r j = d j) ∧ (∀ j, j < i + 1 → va_up d2 i r j < 1000000000) ∧ pd_v (va_up d2 i r) (i + 1) + k2 * 1000000000 ^ (i + 1) = pd_v d (i + 1) + pd_v e (i + 1) := by
  refine ⟨fun j hj => by rw [va_up_ne _ _ (by omega)]; exact hk j (by omega), fun j hj => ?_, pd_add hv hr⟩
  by_cases h : j = i
  · rw [h, va_up_self]
    exact h3
  · rw [va_up_ne _ _ h]
    exact hlo j (by omega)
theorem lN_s0 (a : Nat) : lN a - lN 0 = lN a := by rw [lN_sub (Nat.zero_le a), Nat.sub_zero]
theorem pd_15 (d : Nat → Nat) : pd_v d 17 = pd_v d 15 + d 15 * 1000000000 ^ 15 + d 16 * 1000000000 ^ 16 := by
  rw [show (17 : Nat) = 16 + 1 from rfl, pd_vS, show (16 : Nat) = 15 + 1 from rfl, pd_vS]
theorem pd_14 (d : Nat → Nat) (hd : pd_ok d) : pd_v d 17 / 1000000000 ^ 14 = (d 16 * 1000000000 + d 15) * 1000000000 + d 14 := by
  have h1 : pd_v d 15 = pd_v d 14 + d 14 * 1000000000 ^ 14 := pd_vS d 14
  have h2 := pd_lt (d := d) 14 (fun j hj => hd j (by omega))
  rw [pd_15, h1]
  have e : pd_v d 14 + d 14 * 1000000000 ^ 14 + d 15 * 1000000000 ^ 15 + d 16 * 1000000000 ^ 16 = pd_v d 14 + 1000000000 ^ 14 * ((d 16 * 1000000000 + d 15) * 1000000000 + d 14) := by
    rw [show (1000000000 : Nat) ^ 15 = 1000000000 ^ 14 * 1000000000 from rfl, show (1000000000 : Nat) ^ 16 = 1000000000 ^ 14 * 1000000000 * 1000000000 from rfl]
    generalize (1000000000 : Nat) ^ 14 = P
    simp only [Nat.mul_add, Nat.add_mul, Nat.mul_assoc, Nat.mul_comm, Nat.mul_left_comm]
    omega
  rw [e, Nat.add_mul_div_left _ _ (Nat.pow_pos (by decide)), Nat.div_eq_of_lt h2, Nat.zero_add]
theorem pd_abT {d : Nat → Nat} {t : Nat} (ht : t ≤ 999) (h : 1 ≤ d 16) : t * 1000000 * 1000000000 ^ 15 < pd_v d 17 := by
  rw [pd_15]
  have h1 : t * 1000000 < 1000000000 := by omega
  have h2 := Nat.mul_lt_mul_of_pos_right h1 (Nat.pow_pos (n := 15) (show 0 < 1000000000 by decide))
  have h3 := Nat.mul_le_mul_right (1000000000 ^ 16) h
  have e : 1000000000 * 1000000000 ^ 15 = 1000000000 ^ 16 := by decide +kernel
  rw [e] at h2
  rw [Nat.one_mul] at h3
  exact Nat.lt_of_lt_of_le h2 (Nat.le_trans h3 (Nat.le_add_left _ _))
theorem pd_cut1 {d : Nat → Nat} (hd : pd_ok d) (h : pd_v d 17 ≤ 1000000000 ^ 16) : pd_v d 17 / 1000000000 ^ 14 ≤ 1000000000000000000 ∧ d 16 ≤ 1 := by
  have h1 : pd_v d 17 / 1000000000 ^ 14 ≤ 1000000000 ^ 16 / 1000000000 ^ 14 := Nat.div_le_div_right h
  have e : (1000000000 : Nat) ^ 16 / 1000000000 ^ 14 = 1000000000000000000 := by decide +kernel
  rw [e] at h1
  refine ⟨h1, ?_⟩
  rw [pd_14 d hd] at h1
  omega
theorem pd_abG {d : Nat → Nat} {t : Nat} (h : t * 1000000 < d 15) : t * 1000000 * 1000000000 ^ 15 < pd_v d 17 := by
  rw [pd_15]
  have h2 := Nat.mul_lt_mul_of_pos_right h (Nat.pow_pos (n := 15) (show 0 < 1000000000 by decide))
  exact Nat.lt_of_lt_of_le h2 (Nat.le_trans (Nat.le_add_left _ _) (Nat.le_add_right _ _))
theorem lN_cut {V : Nat} (k : Nat) (hV : V ≤ 1000000000000000000) : lN (V / 10 ^ k) / 10 = lN (V / 10 ^ (k + 1)) := by
  rw [Nat.pow_succ, ← Nat.div_div_eq_div_mul]
  exact pk_lDiv (a := V / 10 ^ k) (b := 10) (Nat.lt_of_le_of_lt (Nat.div_le_self _ _) (Nat.lt_of_le_of_lt hV (by decide +kernel))) (by decide) (by decide)
