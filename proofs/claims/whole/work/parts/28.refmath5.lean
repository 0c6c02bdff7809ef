/-! the reference: its public methods -/
theorem i32_999 {x : Int32} (h : ¬ 999 < x) : ¬ 1000 ≤ x := by
  rw [Int32.lt_iff_toInt_lt] at h
  rw [Int32.le_iff_toInt_le]
  have e0 : (999 : Int32).toInt = 999 := by decide
  have e1 : (1000 : Int32).toInt = 1000 := by decide
  omega
theorem i32_tr {x y : Int32} (h : ¬ 1000 < y) (h2 : x ≤ y) : ¬ 1000 < x := by
  rw [Int32.lt_iff_toInt_lt] at *
  rw [Int32.le_iff_toInt_le] at h2
  omega
theorem rl_ok {x y z : Int32} (h1 : ¬ x < 1) (h2 : ¬ 999 < x) (h3 : ¬ y < 0) (h4 : ¬ 1000 < y) (h5 : ¬ z < 0) (h6 : z ≤ y) : (fv_lv x && fv_sh y && fv_sh z && !decide (y < z)) = true := by
  unfold fv_lv fv_sh
  rw [decide_eq_false h1, decide_eq_false (i32_999 h2), decide_eq_false h3, decide_eq_false h4, decide_eq_false h5, decide_eq_false (i32_tr h4 h6), decide_eq_false (Int32.not_lt.mpr h6)]
  rfl
theorem fv_lv9 {y : Int32} (h1 : ¬ y < 1) (h2 : y ≤ 999) : fv_lv y = true := by
  unfold fv_lv
  rw [decide_eq_false h1, decide_eq_false (i32_999 (Int32.not_lt.mpr h2))]
  rfl
theorem fv_sh9 {y : Int32} (h1 : ¬ y < 0) (h2 : ¬ 1000 < y) : fv_sh y = true := by
  unfold fv_sh
  rw [decide_eq_false h1, decide_eq_false h2]
  rfl
/-- judging in the reference: the fails before, and behind -/
def jw_f (jd x : Int32) (fl : Nat) : Nat := if jd = x then fl else 0
def jw_n (q : Bool) (f : Nat) : Nat := f + (if q = true then 0 else 1)
def jw_j (mk q : Bool) (f : Nat) (x : Int32) : Int32 := if jv_V mk q f = 0 then x else -1
