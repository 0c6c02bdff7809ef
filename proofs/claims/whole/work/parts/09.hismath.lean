/-! HISTORIES: runs in their places, without the machine -/
def hv_has (e : Nat → Int32) (b : Nat → Bool) (x : Int32) (q : Bool) : Nat → Bool
  | 0 => false
  | n + 1 => hv_has e b x q n || (e n == x && b n == q)
theorem hv_has0 (e : Nat → Int32) (b : Nat → Bool) (x : Int32) (q : Bool) : hv_has e b x q 0 = false := rfl
theorem hv_hasS (e : Nat → Int32) (b : Nat → Bool) (x : Int32) (q : Bool) (n : Nat) : hv_has e b x q (n + 1) = (hv_has e b x q n || (e n == x && b n == q)) := rfl
theorem hv_has_le (e : Nat → Int32) (b : Nat → Bool) (x : Int32) (q : Bool) (n d : Nat) (h : hv_has e b x q n = true) : hv_has e b x q (n + d) = true := by
  induction d with
  | zero => exact h
  | succ d ih => rw [← Nat.add_assoc, hv_hasS, ih, Bool.true_or]
theorem hv_has_hit {e : Nat → Int32} {b : Nat → Bool} {x : Int32} {q : Bool} {i s : Nat} (hi : i < s) (he : e i = x) (hb : b i = q) : hv_has e b x q s = true := by
  have h : hv_has e b x q (i + 1) = true := by
    rw [hv_hasS, he, hb]
    simp
  have := hv_has_le e b x q (i + 1) (s - (i + 1)) h
  rwa [show i + 1 + (s - (i + 1)) = s by omega] at this
theorem hv_has_go {e : Nat → Int32} {b : Nat → Bool} {x : Int32} {q : Bool} {i : Nat} (h : hv_has e b x q i = false) (hn : ¬ (e i = x ∧ b i = q)) : hv_has e b x q (i + 1) = false := by
  rw [hv_hasS, h, Bool.false_or]
  by_cases he : e i = x
  · have : ¬ b i = q := fun hb => hn ⟨he, hb⟩
    simp [this]
  · simp [he]
/-- whether another run of the same edition has the other outcome -/
def hv_con (e : Nat → Int32) (b : Nat → Bool) (s i : Nat) : Bool := hv_has e b (e i) (!b i) s
def hv_D (e : Nat → Int32) (b : Nat → Bool) (s : Nat) : Nat → Nat
  | 0 => 0
  | i + 1 => hv_D e b s i + (if hv_con e b s i = true then 1 else 0)
def hv_N (e : Nat → Int32) (b : Nat → Bool) (s : Nat) : Nat → Nat
  | 0 => 0
  | i + 1 => hv_N e b s i + (if (b i || hv_con e b s i) = true then 1 else 0)
def hv_X (e : Nat → Int32) (b : Nat → Bool) (s : Nat) : Nat → Nat
  | 0 => 0
  | i + 1 => hv_X e b s i + (if (!b i && hv_con e b s i) = true then 1 else 0)
theorem hv_DS (e : Nat → Int32) (b : Nat → Bool) (s i : Nat) : hv_D e b s (i + 1) = hv_D e b s i + (if hv_con e b s i = true then 1 else 0) := rfl
theorem hv_NS (e : Nat → Int32) (b : Nat → Bool) (s i : Nat) : hv_N e b s (i + 1) = hv_N e b s i + (if (b i || hv_con e b s i) = true then 1 else 0) := rfl
theorem hv_XS (e : Nat → Int32) (b : Nat → Bool) (s i : Nat) : hv_X e b s (i + 1) = hv_X e b s i + (if (!b i && hv_con e b s i) = true then 1 else 0) := rfl
theorem hv_N_le (e : Nat → Int32) (b : Nat → Bool) (s i : Nat) : hv_N e b s i ≤ i := by
  induction i with
  | zero => exact Nat.le_refl 0
  | succ i ih => rw [hv_NS]; split <;> omega
theorem hv_X_le (e : Nat → Int32) (b : Nat → Bool) (s i : Nat) : hv_X e b s i ≤ hv_N e b s i := by
  induction i with
  | zero => exact Nat.le_refl 0
  | succ i ih =>
    rw [hv_NS, hv_XS]
    cases b i <;> cases hv_con e b s i <;> simp <;> omega
theorem hv_D_le (e : Nat → Int32) (b : Nat → Bool) (s i : Nat) : hv_D e b s i ≤ i := by
  induction i with
  | zero => exact Nat.le_refl 0
  | succ i ih => rw [hv_DS]; split <;> omega
/-- where the next run goes, how many count then, where the oldest lies then -/
def hv_slot (s o : Nat) : Nat := if s < 48 then s else o
def hv_s (s : Nat) : Nat := if s < 48 then s + 1 else s
def hv_o (s o : Nat) : Nat := if s < 48 then o else if o + 1 < 48 then o + 1 else 0
theorem zI_st (b : Nat → Bool) (i : Nat) (q : Bool) : upd (fun j => zI (b j)) i (vp_nar .boolean (zI q)) = fun j => zI (va_up b i q j) := by
  funext j
  rw [zI_vnar]
  by_cases h : j = i
  · subst h
    rw [va_up_self]
    exact pk_us
  · rw [va_up_ne _ _ h]
    exact pk_un h
/-- judging: the fails so far, the verdict, the fails then -/
def jv_f (je x : Int32) (jf : Nat) : Nat := if x = je then jf else 0
def jv_P (f : Nat) : Int32 := if f = 0 then 1 else 2
def jv_F (mk : Bool) (f : Nat) : Int32 := if f + 1 < (if mk = true then 3 else 1) then 0 else if mk = true then 4 else 3
def jv_V (mk q : Bool) (f : Nat) : Int32 := if q = true then jv_P f else jv_F mk f
def jv_n (mk q : Bool) (f : Nat) : Nat := if jv_V mk q f = 0 then f + 1 else 0
