/-! the reference: a run comes -/
theorem nI_st (f : Nat → Nat) (i v : Nat) : upd (fun j => nI (f j)) i (nI v) = fun j => nI (va_up f i v j) := by
  funext j
  by_cases h : j = i
  · subst h
    rw [va_up_self]
    exact pk_us
  · rw [va_up_ne _ _ h]
    exact pk_un h
theorem va_up_id {α : Type} (f : Nat → α) (k : Nat) {v : α} (h : f k = v) : va_up f k v = f := by
  funext j
  by_cases q : j = k
  · rw [q, va_up_self, h]
  · rw [va_up_ne _ _ q]
/-- the runs of test t, those before place k moved down by one -/
def rs_f (rn : Nat → Nat) (t k : Nat) : Nat → Nat := fun j => if 48 * t ≤ j ∧ j + 1 < 48 * t + k then rn (j + 1) else rn j
theorem rs_1 (rn : Nat → Nat) (t : Nat) : rs_f rn t 1 = rn := by
  funext j
  unfold rs_f
  rw [if_neg (by omega)]
theorem rs_self (rn : Nat → Nat) (t k : Nat) : rs_f rn t k (48 * t + k) = rn (48 * t + k) := by
  unfold rs_f
  rw [if_neg (by omega)]
theorem rs_st (rn : Nat → Nat) (t k : Nat) (hk : 1 ≤ k) : upd (fun j => nI (rs_f rn t k j)) (48 * t + k - 1) (nI (rn (48 * t + k))) = fun j => nI (rs_f rn t (k + 1) j) := by
  rw [nI_st]
  funext j
  congr 1
  by_cases h : j = 48 * t + k - 1
  · subst h
    rw [va_up_self]
    unfold rs_f
    rw [if_pos (by omega), show 48 * t + k - 1 + 1 = 48 * t + k by omega]
  · rw [va_up_ne _ _ h]
    unfold rs_f
    by_cases h2 : 48 * t ≤ j ∧ j + 1 < 48 * t + k
    · rw [if_pos h2, if_pos (by omega)]
    · rw [if_neg h2, if_neg (by omega)]
theorem rs_lt {rn : Nat → Nat} {t k : Nat} (ht : t < 12) (hk : k ≤ 48) (h : ∀ j, j < 576 → rn j < 2000) : ∀ j, j < 576 → rs_f rn t k j < 2000 := by
  intro j hj
  unfold rs_f
  split
  · exact h (j + 1) (by omega)
  · exact h j hj
/-- the runs behind a new one, v -/
def rr_n (rn : Nat → Nat) (t s v : Nat) : Nat → Nat := if s = 48 then va_up (rs_f rn t 48) (48 * t + 47) v else va_up rn (48 * t + s) v
theorem rr_lt {rn : Nat → Nat} {t s v : Nat} (ht : t < 12) (hv : v < 2000) (h : ∀ j, j < 576 → rn j < 2000) : ∀ j, j < 576 → rr_n rn t s v j < 2000 := by
  intro j hj
  unfold rr_n
  split
  · by_cases q : j = 48 * t + 47
    · rw [q, va_up_self]; exact hv
    · rw [va_up_ne _ _ q]; exact rs_lt ht (by omega) h j hj
  · by_cases q : j = 48 * t + s
    · rw [q, va_up_self]; exact hv
    · rw [va_up_ne _ _ q]; exact h j hj
theorem hv_s_le {s : Nat} (h : s ≤ 48) : hv_s s ≤ 48 := by
  unfold hv_s
  split <;> omega
def qN (q : Bool) : Nat := if q = true then 1 else 0
