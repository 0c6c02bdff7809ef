/-! FLAKYBOUNDS: what its methods answer, without the machine -/
def fv_ed (x : Int32) : Bool := !decide (x < 0) && !decide (1000 ≤ x)
def fv_lv (x : Int32) : Bool := !decide (x < 1) && !decide (1000 ≤ x)
def fv_sh (x : Int32) : Bool := !decide (x < 0) && !decide (1000 < x)
theorem fv_ed_iff {x : Int32} (h : fv_ed x = true) : ∃ j : Nat, j < 1000 ∧ x = nI j := by
  unfold fv_ed at h
  simp only [Bool.and_eq_true, Bool.not_eq_true', decide_eq_false_iff_not] at h
  rcases pk_ix x (n := 1000) (by decide) with q | q | q
  · exact absurd q h.1
  · exact absurd q h.2
  · exact q
theorem fv_lv_iff {x : Int32} (h : fv_lv x = true) : ∃ j : Nat, 1 ≤ j ∧ j ≤ 999 ∧ x = nI j := by
  unfold fv_lv at h
  simp only [Bool.and_eq_true, Bool.not_eq_true', decide_eq_false_iff_not] at h
  rcases pk_ix x (n := 1000) (by decide) with q | q | ⟨j, hj, rfl⟩
  · have h0 := h.1
    have : x < 1 := by
      rw [Int32.lt_iff_toInt_lt] at *
      have e0 : (0 : Int32).toInt = 0 := by decide
      have e1 : (1 : Int32).toInt = 1 := by decide
      omega
    exact absurd this h0
  · exact absurd q h.2
  · refine ⟨j, ?_, by omega, rfl⟩
    rcases Nat.eq_zero_or_pos j with z | z
    · subst z
      exact absurd (by decide) h.1
    · exact z
theorem fv_sh_iff {x : Int32} (h : fv_sh x = true) : ∃ j : Nat, j ≤ 1000 ∧ x = nI j := by
  unfold fv_sh at h
  simp only [Bool.and_eq_true, Bool.not_eq_true', decide_eq_false_iff_not] at h
  rcases pk_ix x (n := 1001) (by decide) with q | q | ⟨j, hj, rfl⟩
  · exact absurd q h.1
  · have : 1000 < x := by
      rw [Int32.le_iff_toInt_le] at q
      rw [Int32.lt_iff_toInt_lt]
      have e0 : (nI 1001).toInt = 1001 := by decide
      have e1 : (1000 : Int32).toInt = 1000 := by decide
      omega
    exact absurd this h.2
  · exact ⟨j, by omega, rfl⟩
/-- no such test -/
def fv_no (n : Nat) (x : Int32) : Prop := x < 0 ∨ nI n ≤ x
theorem fv_no_or (n : Nat) (hn : n < 2 ^ 31) (x : Int32) : fv_no n x ∨ ∃ i : Nat, i < n ∧ x = nI i := by
  rcases pk_ix x hn with q | q | q
  · exact Or.inl (Or.inl q)
  · exact Or.inl (Or.inr q)
  · exact Or.inr q
def ab_v (s d n x : Nat) (mk : Bool) (tm : Nat) (w : Int32) : Int32 :=
  if w = 0 then nI s else if w = 1 then nI d else if w = 2 then nI n else if w = 3 then nI x else if w = 4 then zI mk else if w = 5 then nI tm else -1
theorem ab_cases (w : Int32) : w = 0 ∨ w = 1 ∨ w = 2 ∨ w = 3 ∨ w = 4 ∨ w = 5 ∨ ((w.toInt < 0 ∨ 5 < w.toInt) ∧ ∀ a b c d e f : Int32, (if w = 0 then a else if w = 1 then b else if w = 2 then c else if w = 3 then d else if w = 4 then e else if w = 5 then f else -1) = -1) := by
  rcases pk_ix w (n := 6) (by decide) with q | q | ⟨j, hj, rfl⟩
  · refine Or.inr (Or.inr (Or.inr (Or.inr (Or.inr (Or.inr ⟨Or.inl ?_, ?_⟩)))))
    · rw [Int32.lt_iff_toInt_lt] at q
      exact q
    · intro a b c d e f
      have : ∀ k : Nat, k < 6 → ¬ w = nI k := fun k hk h => by
        rw [h] at q
        exact nI_pos (by omega) q
      rw [if_neg (show ¬ w = 0 from this 0 (by decide)), if_neg (show ¬ w = 1 from this 1 (by decide)), if_neg (show ¬ w = 2 from this 2 (by decide)), if_neg (show ¬ w = 3 from this 3 (by decide)), if_neg (show ¬ w = 4 from this 4 (by decide)), if_neg (show ¬ w = 5 from this 5 (by decide))]
  · refine Or.inr (Or.inr (Or.inr (Or.inr (Or.inr (Or.inr ⟨Or.inr ?_, ?_⟩)))))
    · rw [Int32.le_iff_toInt_le] at q
      have e0 : (nI 6).toInt = 6 := by decide
      omega
    · intro a b c d e f
      have : ∀ k : Nat, k < 6 → ¬ w = nI k := fun k hk h => by
        rw [h] at q
        exact nI_ge hk (by decide) q
      rw [if_neg (show ¬ w = 0 from this 0 (by decide)), if_neg (show ¬ w = 1 from this 1 (by decide)), if_neg (show ¬ w = 2 from this 2 (by decide)), if_neg (show ¬ w = 3 from this 3 (by decide)), if_neg (show ¬ w = 4 from this 4 (by decide)), if_neg (show ¬ w = 5 from this 5 (by decide))]
  · have : j = 0 ∨ j = 1 ∨ j = 2 ∨ j = 3 ∨ j = 4 ∨ j = 5 := by omega
    rcases this with rfl | rfl | rfl | rfl | rfl | rfl
    · exact Or.inl rfl
    · exact Or.inr (Or.inl rfl)
    · exact Or.inr (Or.inr (Or.inl rfl))
    · exact Or.inr (Or.inr (Or.inr (Or.inl rfl)))
    · exact Or.inr (Or.inr (Or.inr (Or.inr (Or.inl rfl))))
    · exact Or.inr (Or.inr (Or.inr (Or.inr (Or.inr (Or.inl rfl)))))
/-- marks behind a run: n, x are those of the runs that count now -/
def tk_m (mk : Bool) (n x lv mr cr : Nat) : Bool := if mk = true then pv_above n x cr lv else !pv_above n (n - x) (1000 - mr) lv
def tk_t (mk : Bool) (tm n x lv mr : Nat) : Nat := if mk = true then tm else if pv_above n (n - x) (1000 - mr) lv = true then tm else tm + 1
/-- the greatest j so that the sum is above the level -/
def gv_is (n m lv J : Nat) : Prop := J ≤ 1000 ∧ ∀ j, j ≤ 1000 → (pv_above n m j lv = true ↔ j ≤ J)
theorem gv_uniq {n m lv J K : Nat} (h : gv_is n m lv J) (g : gv_is n m lv K) : J = K := by
  have h1 := (g.2 J h.1).mp ((h.2 J h.1).mpr (Nat.le_refl J))
  have h2 := (h.2 K g.1).mp ((g.2 K g.1).mpr (Nat.le_refl K))
  omega
theorem gv_end {n m lv j : Nat} (hj : j ≤ 1000) (ha : pv_above n m j lv = true) (hb : ∀ i, j + 1 ≤ i → i ≤ 1000 → pv_above n m i lv = false) : gv_is n m lv j := by
  refine ⟨hj, fun i hi => ⟨fun h => ?_, fun h => pv_above_anti h hj ha⟩⟩
  rcases Nat.lt_or_ge j i with q | q
  · rw [hb i q hi] at h
    cases h
  · exact q
theorem gv_half (p : Nat) : 2 ^ (p + 1) / 2 = 2 ^ p := by
  rw [Nat.pow_succ]
  omega
theorem gv_no {n m lv j k : Nat} (hk : k ≤ 1000) (h : pv_above n m k lv = false) (hj : k ≤ j) (hj2 : j ≤ 1000) : pv_above n m j lv = false := by
  cases hc : pv_above n m j lv with
  | false => rfl
  | true =>
    rw [pv_above_anti hj hj2 hc] at h
    cases h
theorem fv_lv_nI {j : Nat} (h1 : 1 ≤ j) (h9 : j ≤ 999) : fv_lv (nI j) = true := by
  unfold fv_lv
  rw [decide_eq_false (show ¬ nI j < 1 from nI_nlt (a := j) (b := 1) h1 (by omega)), decide_eq_false (show ¬ 1000 ≤ nI j from nI_ge (a := j) (b := 1000) (by omega) (by decide))]
  rfl
theorem fv_sh_nI {j : Nat} (h : j ≤ 1000) : fv_sh (nI j) = true := by
  unfold fv_sh
  rw [decide_eq_false (nI_pos (by omega)), decide_eq_false (show ¬ 1000 < nI j from nI_nlt (a := 1000) (b := j) h (by decide))]
  rfl
theorem fv_ed_nI {j : Nat} (h : j < 1000) : fv_ed (nI j) = true := by
  unfold fv_ed
  rw [decide_eq_false (nI_pos (by omega)), decide_eq_false (show ¬ 1000 ≤ nI j from nI_ge (a := j) (b := 1000) h (by decide))]
  rfl
theorem pm_le16 {n m h : Nat} (hn : n ≤ 48) (hh : h ≤ 1000) : pm_G n h n m * 1000 ^ (48 - n) ≤ 1000000000 ^ 16 := by
  have h1 := Nat.mul_le_mul_right (1000 ^ (48 - n)) (pm_P_le n m h hh)
  rw [← Nat.pow_add, show n + (48 - n) = 48 by omega] at h1
  exact Nat.le_trans h1 (by decide +kernel)
