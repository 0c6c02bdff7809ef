/-! the reference's counts -/
def fv_te (n : Nat) (x : Int32) : Bool := !decide (x < 0) && !decide (nI n ≤ x)
theorem fv_te_no {n : Nat} {x : Int32} (h : fv_no n x) : fv_te n x = false := by
  unfold fv_te
  rcases h with h | h
  · rw [decide_eq_true h]; rfl
  · rw [decide_eq_true h, Bool.not_true, Bool.and_false]
theorem fv_te_nI {n i : Nat} (h : i < n) (hn : n < 2 ^ 31) : fv_te n (nI i) = true := by
  unfold fv_te
  rw [decide_eq_false (nI_pos (by omega)), decide_eq_false (nI_ge h hn)]
  rfl
def hs_s (e : Nat → Int32) (b : Nat → Bool) (x : Int32) (i : Nat) : Bool := hv_has e b x true i || hv_has e b x false i
def hs_a (e : Nat → Int32) (b : Nat → Bool) (x : Int32) (i : Nat) : Bool := !hv_has e b x true i
theorem hs_sS (e : Nat → Int32) (b : Nat → Bool) (x : Int32) (i : Nat) : hs_s e b x (i + 1) = (hs_s e b x i || decide (e i = x)) := by
  unfold hs_s
  rw [hv_hasS, hv_hasS]
  by_cases h : e i = x
  · rw [decide_eq_true h, h]
    cases b i <;> simp
  · rw [decide_eq_false h, beq_false_of_ne h]
    simp
theorem hs_aS (e : Nat → Int32) (b : Nat → Bool) (x : Int32) (i : Nat) : hs_a e b x (i + 1) = (hs_a e b x i && (!decide (e i = x) || !b i)) := by
  unfold hs_a
  rw [hv_hasS]
  by_cases h : e i = x
  · rw [decide_eq_true h, h]
    cases b i <;> simp
  · rw [decide_eq_false h, beq_false_of_ne h]
    simp
theorem hs_bad (e : Nat → Int32) (b : Nat → Bool) (x : Int32) (s : Nat) : (hs_s e b x s && hs_a e b x s) = (hv_has e b x false s && !hv_has e b x true s) := by
  unfold hs_s hs_a
  cases hv_has e b x true s <;> cases hv_has e b x false s <;> rfl
theorem hv_hasQ (e : Nat → Int32) (b : Nat → Bool) (x : Int32) (q : Bool) (i : Nat) : hv_has e b x q (i + 1) = (hv_has e b x q i || (decide (e i = x) && decide (b i = q))) := by
  rw [hv_hasS]
  congr 1
theorem re_ne {a c : Bool} : (decide (a = !c)) = !decide (a = c) := by cases a <;> cases c <;> rfl
