/-! THE REFERENCE'S NUMBERS: 48 places of four digits, the last first -/
def rd_v (d : Nat → Nat) : Nat → Nat
  | 0 => 0
  | i + 1 => rd_v d i + d i * 10000 ^ i
theorem rd_v0 (d : Nat → Nat) : rd_v d 0 = 0 := rfl
theorem rd_vS (d : Nat → Nat) (i : Nat) : rd_v d (i + 1) = rd_v d i + d i * 10000 ^ i := rfl
def rd_ok (d : Nat → Nat) : Prop := ∀ j, j < 48 → d j < 10000
theorem rd_congr {d e : Nat → Nat} (i : Nat) (h : ∀ j, j < i → d j = e j) : rd_v d i = rd_v e i := by
  induction i with
  | zero => rfl
  | succ i ih => rw [rd_vS, rd_vS, ih (fun j hj => h j (by omega)), h i (by omega)]
theorem rd_lt {d : Nat → Nat} (i : Nat) (h : ∀ j, j < i → d j < 10000) : rd_v d i < 10000 ^ i := by
  induction i with
  | zero => rw [rd_v0, Nat.pow_zero]; omega
  | succ i ih =>
    have h1 := ih (fun j hj => h j (by omega))
    have h2 : d i + 1 ≤ 10000 := h i (by omega)
    have h3 := Nat.mul_le_mul_right (10000 ^ i) h2
    rw [rd_vS, Nat.pow_succ, Nat.mul_comm (10000 ^ i)]
    rw [Nat.add_mul, Nat.one_mul] at h3
    omega
theorem rd_up (d : Nat → Nat) (i x : Nat) : rd_v (va_up d i x) i = rd_v d i := rd_congr i (fun j hj => va_up_ne d x (by omega))
theorem rd_upS (d : Nat → Nat) (i x : Nat) : rd_v (va_up d i x) (i + 1) = rd_v d i + x * 10000 ^ i := by rw [rd_vS, rd_up, va_up_self]
theorem rd_0 (d : Nat → Nat) (i : Nat) (h : ∀ j, j < i → d j = 0) : rd_v d i = 0 := by
  induction i with
  | zero => rfl
  | succ i ih => rw [rd_vS, ih (fun j hj => h j (by omega)), h i (by omega), Nat.zero_mul]
theorem rd_mul {d d2 : Nat → Nat} {i f k : Nat} (hv : rd_v d2 i + k * 10000 ^ i = f * rd_v d i) : rd_v (va_up d2 i ((d i * f + k) % 10000)) (i + 1) + (d i * f + k) / 10000 * 10000 ^ (i + 1) = f * rd_v d (i + 1) := by
  rw [rd_upS, rd_vS, Nat.pow_succ]
  generalize 10000 ^ i = P at hv ⊢
  have e1 := Nat.mod_add_div (d i * f + k) 10000
  generalize (d i * f + k) % 10000 = r at e1 ⊢
  generalize (d i * f + k) / 10000 = q at e1 ⊢
  have e2 : r * P + q * (P * 10000) = (d i * f + k) * P := by
    rw [← e1, Nat.add_mul]
    simp only [Nat.mul_assoc, Nat.mul_comm, Nat.mul_left_comm]
  have e3 : f * (rd_v d i + d i * P) = f * rd_v d i + d i * f * P := by
    rw [Nat.mul_add]
    simp only [Nat.mul_assoc, Nat.mul_comm, Nat.mul_left_comm]
  rw [e3, ← hv]
  rw [Nat.add_mul] at e2
  omega
theorem rd_add {d d2 e : Nat → Nat} {i k : Nat} (hv : rd_v d2 i + k * 10000 ^ i = rd_v d i + rd_v e i) : rd_v (va_up d2 i ((d i + e i + k) % 10000)) (i + 1) + (d i + e i + k) / 10000 * 10000 ^ (i + 1) = rd_v d (i + 1) + rd_v e (i + 1) := by
  rw [rd_upS, rd_vS, rd_vS, Nat.pow_succ]
  generalize 10000 ^ i = P at hv ⊢
  have e1 := Nat.mod_add_div (d i + e i + k) 10000
  generalize (d i + e i + k) % 10000 = r at e1 ⊢
  generalize (d i + e i + k) / 10000 = q at e1 ⊢
  have e2 : r * P + q * (P * 10000) = (d i + e i + k) * P := by
    rw [← e1, Nat.add_mul]
    simp only [Nat.mul_assoc, Nat.mul_comm, Nat.mul_left_comm]
  simp only [Nat.add_mul] at e2
  omega
theorem rd_mulI {d d2 : Nat → Nat} {i f k : Nat} (hi : i < 48) (hd : rd_ok d) (hk : ∀ j, i ≤ j → d2 j = d j) (hlo : ∀ j, j < i → d2 j < 10000) (hv : rd_v d2 i + k * 10000 ^ i = f * rd_v d i) (hc : k ≤ f) :
    (∀ j, i + 1 ≤ j → va_up d2 i ((d i * f + k) % 10000) j = d j) ∧ (∀ j, j < i + 1 → va_up d2 i ((d i * f + k) % 10000) j < 10000) ∧ rd_v (va_up d2 i ((d i * f + k) % 10000)) (i + 1) + (d i * f + k) / 10000 * 10000 ^ (i + 1) = f * rd_v d (i + 1) ∧ (d i * f + k) / 10000 ≤ f := by
  refine ⟨fun j hj => by rw [va_up_ne _ _ (by omega)]; exact hk j (by omega), fun j hj => ?_, rd_mul hv, ?_⟩
  · by_cases h : j = i
    · rw [h, va_up_self]
      exact Nat.mod_lt _ (by decide)
    · rw [va_up_ne _ _ h]
      exact hlo j (by omega)
  · have h1 : d i + 1 ≤ 10000 := hd i hi
    have h2 := Nat.mul_le_mul_right f h1
    rw [Nat.add_mul, Nat.one_mul] at h2
    exact Nat.div_le_of_le_mul (by omega)
theorem rd_mulB {d : Nat → Nat} {i f k : Nat} (hi : i < 48) (hd : rd_ok d) (hf : f ≤ 300000000000000) (hc : k ≤ f) : d i * f + k < 2 ^ 63 := by
  have h1 := Nat.mul_le_mul (Nat.le_of_lt (hd i hi)) hf
  omega
theorem rd_addI {d d2 e : Nat → Nat} {i k : Nat} (hi : i < 48) (hd : rd_ok d) (he : rd_ok e) (hk : ∀ j, i ≤ j → d2 j = d j) (hlo : ∀ j, j < i → d2 j < 10000) (hv : rd_v d2 i + k * 10000 ^ i = rd_v d i + rd_v e i) (hc : k ≤ 1) :
    (∀ j, i + 1 ≤ j → va_up d2 i ((d i + e i + k) % 10000) j = d j) ∧ (∀ j, j < i + 1 → va_up d2 i ((d i + e i + k) % 10000) j < 10000) ∧ rd_v (va_up d2 i ((d i + e i + k) % 10000)) (i + 1) + (d i + e i + k) / 10000 * 10000 ^ (i + 1) = rd_v d (i + 1) + rd_v e (i + 1) ∧ (d i + e i + k) / 10000 ≤ 1 := by
  refine ⟨fun j hj => by rw [va_up_ne _ _ (by omega)]; exact hk j (by omega), fun j hj => ?_, rd_add hv, ?_⟩
  · by_cases h : j = i
    · rw [h, va_up_self]
      exact Nat.mod_lt _ (by decide)
    · rw [va_up_ne _ _ h]
      exact hlo j (by omega)
  · have h1 := hd i hi
    have h2 := he i hi
    omega
theorem rd_top {a b k : Nat} (h : a + k * 10000 ^ 48 = b) (hb : b < 10000 ^ 48) : a = b := by
  rcases Nat.eq_zero_or_pos k with q | q
  · rw [q] at h
    omega
  · have h2 := Nat.mul_le_mul_right (10000 ^ 48) q
    rw [h.symm] at hb
    rw [Nat.one_mul] at h2
    exact absurd (Nat.lt_of_lt_of_le hb (Nat.le_trans h2 (Nat.le_add_left _ _))) (Nat.lt_irrefl _)
theorem rd_one (x : Nat) : rd_v (va_up (fun _ => 0) 0 x) 48 = x := by
  have h : ∀ r, rd_v (va_up (fun _ => 0) 0 x) (r + 1) = x := by
    intro r
    induction r with
    | zero => rw [rd_upS, rd_v0, Nat.pow_zero, Nat.mul_one, Nat.zero_add]
    | succ r ih => rw [rd_vS, ih, va_up_ne _ _ (by omega), Nat.zero_mul, Nat.add_zero]
  exact h 47
/-- which is greater is seen at the first place from the top where they differ -/
theorem rd_cmp {a b : Nat → Nat} (i : Nat) (ha : ∀ j, j < i → a j < 10000) (hb : ∀ j, j < i → b j < 10000) : ∀ d, (∀ j, i < j → j < i + 1 + d → a j = b j) → (a i ≠ b i ∨ i = 0) → (rd_v b (i + 1 + d) < rd_v a (i + 1 + d) ↔ b i < a i) := by
  intro d
  induction d with
  | zero =>
    intro _ h
    show rd_v b (i + 1) < rd_v a (i + 1) ↔ _
    rw [rd_vS, rd_vS]
    have h1 := rd_lt i ha
    have h2 := rd_lt i hb
    rcases Nat.lt_trichotomy (a i) (b i) with q | q | q
    · have h3 := Nat.mul_le_mul_right (10000 ^ i) (show a i + 1 ≤ b i from q)
      rw [Nat.add_mul, Nat.one_mul] at h3
      constructor <;> intro _ <;> omega
    · rcases h with h | h
      · exact absurd q h
      · subst h
        rw [rd_v0, rd_v0, q]
        constructor <;> intro _ <;> omega
    · have h3 := Nat.mul_le_mul_right (10000 ^ i) (show b i + 1 ≤ a i from q)
      rw [Nat.add_mul, Nat.one_mul] at h3
      constructor <;> intro _ <;> omega
  | succ d ih =>
    intro he h
    have h1 := ih (fun j h1 h2 => he j h1 (by omega)) h
    rw [show i + 1 + (d + 1) = (i + 1 + d) + 1 by omega, rd_vS, rd_vS, he (i + 1 + d) (by omega) (by omega)]
    rw [← h1]
    omega
theorem ch_abs (m k : Nat) : (k + 1) * pm_ch (m + 1) (k + 1) = (m + 1) * pm_ch m k := by
  have h := pm_ch_mul m k
  rw [pm_chS]
  simp only [Nat.mul_add, Nat.add_mul, Nat.one_mul] at h ⊢
  omega
theorem ch_le (n : Nat) : ∀ k, pm_ch n k ≤ 2 ^ n := by
  induction n with
  | zero =>
    intro k
    cases k with
    | zero => rw [pm_ch0]; exact Nat.le_refl 1
    | succ k => rw [pm_ch00]; exact Nat.zero_le _
  | succ n ih =>
    intro k
    cases k with
    | zero => rw [pm_ch0]; exact Nat.pow_pos (by decide)
    | succ k =>
      have h1 := ih k
      have h2 := ih (k + 1)
      rw [pm_chS, Nat.pow_succ]
      omega
/-- one summand, and sums of k of them from a on -/
def pm_T (n j i : Nat) : Nat := pm_ch n i * (j ^ i * (1000 - j) ^ (n - i))
def pm_R (n j a : Nat) : Nat → Nat
  | 0 => 0
  | k + 1 => pm_R n j a k + pm_T n j (a + k)
theorem pm_R0 (n j a : Nat) : pm_R n j a 0 = 0 := rfl
theorem pm_RS (n j a k : Nat) : pm_R n j a (k + 1) = pm_R n j a k + pm_T n j (a + k) := rfl
theorem pm_R_G (n j k : Nat) : pm_R n j 0 (k + 1) = pm_G n j n k := by
  induction k with
  | zero =>
    rw [pm_RS, pm_R0, pm_G0]
    unfold pm_T
    rw [Nat.add_zero, pm_ch0, Nat.pow_zero, Nat.one_mul, Nat.one_mul, Nat.sub_zero, Nat.zero_add]
  | succ k ih =>
    rw [pm_RS, ih, pm_GS]
    unfold pm_T
    rw [Nat.zero_add, Nat.mul_assoc]
theorem pm_R_cat (n j a k d : Nat) : pm_R n j a (k + d) = pm_R n j a k + pm_R n j (a + k) d := by
  induction d with
  | zero => rfl
  | succ d ih => rw [← Nat.add_assoc, pm_RS, ih, pm_RS, Nat.add_assoc, Nat.add_assoc a]
theorem pm_R_le {n j a k : Nat} (hj : j ≤ 1000) : pm_R n j a k ≤ 1000 ^ n := by
  have h1 := pm_R_cat n j 0 a k
  rw [Nat.zero_add] at h1
  cases hm : a + k with
  | zero =>
    obtain rfl : k = 0 := by omega
    exact Nat.zero_le _
  | succ m =>
    rw [hm, pm_R_G] at h1
    have h2 := pm_P_le n m j hj
    omega
theorem pm_T_le {n j i : Nat} (hj : j ≤ 1000) : pm_T n j i ≤ 1000 ^ n := by
  have h1 := pm_R_le (n := n) (a := i) (k := 1) hj
  rw [pm_RS, pm_R0] at h1
  simpa using h1
theorem pm_compl (n h : Nat) (hh : h ≤ 1000) : ∀ a b, a + b + 1 = n → pm_G n h n a + pm_G n (1000 - h) n b = 1000 ^ n := by
  induction n with
  | zero => intro a b q; omega
  | succ n ih =>
    intro a b q
    cases a with
    | zero =>
      obtain rfl : b = n := by omega
      exact pm_compl0 b h hh
    | succ a =>
      cases b with
      | zero =>
        obtain rfl : n = a + 1 := by omega
        have h1 := pm_compl0 (a + 1) (1000 - h) (by omega)
        rw [show 1000 - (1000 - h) = h by omega] at h1
        omega
      | succ b =>
        have h1 := ih a (b + 1) (by omega)
        have h2 := ih (a + 1) b (by omega)
        rw [pm_G_pn, pm_G_pn, show 1000 - (1000 - h) = h by omega, Nat.pow_succ]
        generalize 1000 ^ n = T at h1 h2 ⊢
        generalize pm_G n h n a = p0 at h1 ⊢
        generalize pm_G n h n (a + 1) = p1 at h2 ⊢
        generalize pm_G n (1000 - h) n b = q0 at h2 ⊢
        generalize pm_G n (1000 - h) n (b + 1) = q1 at h1 ⊢
        have e1 : h * p0 + h * q1 = h * T := by rw [← Nat.mul_add, h1]
        have e2 : (1000 - h) * p1 + (1000 - h) * q0 = (1000 - h) * T := by rw [← Nat.mul_add, h2]
        have e3 : h * T + (1000 - h) * T = 1000 * T := by rw [← Nat.add_mul, show h + (1000 - h) = 1000 by omega]
        omega
/-- AT LEAST: the sum from x on is the sum seen from the misses -/
theorem pm_least {n x h : Nat} (hx : x ≤ n) (hh : h ≤ 1000) : pm_R n h x (n - x + 1) = pm_G n (1000 - h) n (n - x) := by
  have h1 := pm_R_cat n h 0 x (n - x + 1)
  rw [Nat.zero_add, show x + (n - x + 1) = n + 1 by omega, pm_R_G, pm_P_full n h hh] at h1
  cases x with
  | zero =>
    rw [pm_R0] at h1
    rw [Nat.sub_zero, pm_P_full n (1000 - h) (by omega)]
    rw [Nat.sub_zero] at h1
    omega
  | succ x =>
    rw [pm_R_G] at h1
    have h2 := pm_compl n h hh x (n - (x + 1)) (by omega)
    omega
theorem rd_set {d : Nat → Nat} {v : Nat} (hz : ∀ j, j < 48 → d j = 0) (hv : v < 10000) : rd_ok (va_up d 0 v) ∧ rd_v (va_up d 0 v) 48 = v := by
  refine ⟨fun j hj => ?_, ?_⟩
  · by_cases h : j = 0
    · rw [h, va_up_self]
      exact hv
    · rw [va_up_ne _ _ h, hz j hj]
      decide
  · rw [rd_congr (e := va_up (fun _ => 0) 0 v) 48 (fun j hj => ?_), rd_one]
    by_cases h : j = 0
    · rw [h, va_up_self, va_up_self]
    · rw [va_up_ne _ _ h, va_up_ne _ _ h, hz j hj]
theorem ch_step {n i q v : Nat} (hv : v = pm_ch (n - i + q) q) : v * (n - i + (q + 1)) / (q + 1) = pm_ch (n - i + (q + 1)) (q + 1) := by
  have h := ch_abs (n - i + q) q
  rw [hv, Nat.mul_comm, show n - i + (q + 1) = n - i + q + 1 by omega, ← h, Nat.mul_comm, Nat.mul_div_cancel _ (Nat.succ_pos q)]
theorem ch_bd {n i q v : Nat} (hv : v = pm_ch (n - i + q) q) (hn : n ≤ 48) (hi : i ≤ n) (hq : q + 1 ≤ i) : v * (n - i + (q + 1)) < 2 ^ 63 := by
  have h1 := ch_le (n - i + q) q
  rw [← hv] at h1
  have h2 : 2 ^ (n - i + q) ≤ 2 ^ 48 := Nat.pow_le_pow_right (by decide) (by omega)
  have h3 := Nat.mul_le_mul (Nat.le_trans h1 h2) (show n - i + (q + 1) ≤ 48 by omega)
  exact Nat.lt_of_le_of_lt h3 (by decide +kernel)
theorem ch_le3 {n i : Nat} (hn : n ≤ 48) : pm_ch n i ≤ 300000000000000 :=
  Nat.le_trans (ch_le n i) (Nat.le_trans (Nat.pow_le_pow_right (by decide) hn) (by decide +kernel))
/-- a power's next factor: i times j, then 1000 - j -/
def rp_v (j i k : Nat) : Nat := j ^ (min k i) * (1000 - j) ^ (k - min k i)
theorem rp_0 (j i : Nat) : rp_v j i 0 = 1 := by
  unfold rp_v
  rw [Nat.zero_min, Nat.pow_zero, Nat.sub_zero, Nat.pow_zero]
theorem rp_lo {j i k : Nat} (h : k < i) : rp_v j i (k + 1) = j * rp_v j i k := by
  unfold rp_v
  rw [Nat.min_eq_left (by omega), Nat.min_eq_left (by omega), Nat.sub_self, Nat.sub_self, Nat.pow_succ, Nat.pow_zero, Nat.mul_one, Nat.mul_one, Nat.mul_comm]
theorem rp_hi {j i k : Nat} (h : i ≤ k) : rp_v j i (k + 1) = (1000 - j) * rp_v j i k := by
  unfold rp_v
  rw [Nat.min_eq_right (by omega), Nat.min_eq_right (by omega), show k + 1 - i = (k - i) + 1 by omega, Nat.pow_succ]
  simp only [Nat.mul_assoc, Nat.mul_comm, Nat.mul_left_comm]
theorem rp_le {j i k : Nat} (hj : j ≤ 1000) : rp_v j i k ≤ 1000 ^ k := by
  unfold rp_v
  have h1 := Nat.mul_le_mul (Nat.pow_le_pow_left hj (min k i)) (Nat.pow_le_pow_left (show 1000 - j ≤ 1000 by omega) (k - min k i))
  rw [← Nat.pow_add, show min k i + (k - min k i) = k by omega] at h1
  exact h1
theorem rp_T {n j i : Nat} (hi : i ≤ n) : pm_ch n i * rp_v j i n = pm_T n j i := by
  unfold rp_v pm_T
  rw [Nat.min_eq_right hi]
theorem rb_1 {f v k : Nat} (hf : f ≤ 1000) (hv : v ≤ 1000 ^ k) (hk : k ≤ 49) : f * v < 10000 ^ 48 := by
  have h1 := Nat.mul_le_mul hf (Nat.le_trans hv (Nat.pow_le_pow_right (by decide) hk))
  exact Nat.lt_of_le_of_lt h1 (by decide +kernel)
theorem rb_2 {v n : Nat} (hv : v ≤ 1000 ^ n) (hn : n ≤ 48) : v < 10000 ^ 48 :=
  Nat.lt_of_le_of_lt (Nat.le_trans hv (Nat.pow_le_pow_right (by decide) hn)) (by decide +kernel)
/-- the reference's runs of a test: editions and outcomes, by their places -/
def re_e (rn : Nat → Nat) (t : Nat) : Nat → Int32 := fun k => nI (rn (48 * t + k) / 2)
def re_b (rn : Nat → Nat) (t : Nat) : Nat → Bool := fun k => decide (rn (48 * t + k) % 2 = 1)
theorem hv_has_self {e : Nat → Int32} {b : Nat → Bool} {k s : Nat} (hk : k < s) : hv_has e b (e k) (b k) s = true := hv_has_hit hk rfl rfl
/-- whether a run isn't at a bad edition -/
theorem hv_bad {e : Nat → Int32} {b : Nat → Bool} {k s : Nat} (hk : k < s) : (!(hv_has e b (e k) false s && !hv_has e b (e k) true s)) = (b k || hv_con e b s k) := by
  have h := hv_has_self (e := e) (b := b) hk
  unfold hv_con
  cases hb : b k with
  | false =>
    rw [hb] at h
    rw [h]
    simp
  | true =>
    rw [hb] at h
    rw [h]
    simp
