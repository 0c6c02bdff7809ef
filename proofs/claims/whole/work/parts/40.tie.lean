/-! THE TIE: a history of the class and a test of the reference that tell the same -/
def hv_L (e : Nat → Int32) (b : Nat → Bool) (s : Nat) : List (Int32 × Bool) := (List.range s).map (fun k => (e k, b k))
theorem hv_LS (e : Nat → Int32) (b : Nat → Bool) (s : Nat) : hv_L e b (s + 1) = hv_L e b s ++ [(e s, b s)] := by
  unfold hv_L
  rw [List.range_succ, List.map_append]
  rfl
theorem hv_has_L (e : Nat → Int32) (b : Nat → Bool) (x : Int32) (q : Bool) (s : Nat) : hv_has e b x q s = decide ((x, q) ∈ hv_L e b s) := by
  induction s with
  | zero => rfl
  | succ s ih =>
    rw [hv_hasQ, ih, hv_LS]
    by_cases h1 : (x, q) ∈ hv_L e b s
    · rw [decide_eq_true h1, decide_eq_true (List.mem_append_left _ h1), Bool.true_or]
    · by_cases h2 : e s = x ∧ b s = q
      · rw [decide_eq_true h2.1, decide_eq_true h2.2, decide_eq_true (List.mem_append_right _ (by rw [h2.1, h2.2]; exact List.mem_singleton.mpr rfl)), Bool.and_self, Bool.or_true]
      · have h3 : ¬ (x, q) ∈ hv_L e b s ++ [(e s, b s)] := by
          intro h
          rcases List.mem_append.mp h with h | h
          · exact h1 h
          · have h4 := List.mem_singleton.mp h
            rw [Prod.mk.injEq] at h4
            exact h2 ⟨h4.1.symm, h4.2.symm⟩
        rw [decide_eq_false h1, decide_eq_false h3, Bool.false_or]
        by_cases h5 : e s = x
        · rw [decide_eq_true h5, decide_eq_false (fun h => h2 ⟨h5, h⟩)]; rfl
        · rw [decide_eq_false h5]; rfl
theorem hv_N_L (e : Nat → Int32) (b : Nat → Bool) (s i : Nat) : hv_N e b s i = (hv_L e b i).countP (fun r => r.2 || decide ((r.1, !r.2) ∈ hv_L e b s)) := by
  induction i with
  | zero => rfl
  | succ i ih =>
    rw [hv_NS, ih, hv_LS, List.countP_append, List.countP_singleton]
    unfold hv_con
    rw [hv_has_L]
theorem hv_X_L (e : Nat → Int32) (b : Nat → Bool) (s i : Nat) : hv_X e b s i = (hv_L e b i).countP (fun r => !r.2 && decide ((r.1, !r.2) ∈ hv_L e b s)) := by
  induction i with
  | zero => rfl
  | succ i ih =>
    rw [hv_XS, ih, hv_LS, List.countP_append, List.countP_singleton]
    unfold hv_con
    rw [hv_has_L]
theorem hv_D_L (e : Nat → Int32) (b : Nat → Bool) (s i : Nat) : hv_D e b s i = (hv_L e b i).countP (fun r => decide ((r.1, !r.2) ∈ hv_L e b s)) := by
  induction i with
  | zero => rfl
  | succ i ih =>
    rw [hv_DS, ih, hv_LS, List.countP_append, List.countP_singleton]
    unfold hv_con
    rw [hv_has_L]
theorem hv_perm {e e2 : Nat → Int32} {b b2 : Nat → Bool} {s : Nat} (h : (hv_L e2 b2 s).Perm (hv_L e b s)) : hv_N e2 b2 s s = hv_N e b s s ∧ hv_X e2 b2 s s = hv_X e b s s ∧ hv_D e2 b2 s s = hv_D e b s s ∧ ∀ x q, hv_has e2 b2 x q s = hv_has e b x q s := by
  have hm : ∀ y, decide (y ∈ hv_L e2 b2 s) = decide (y ∈ hv_L e b s) := fun y => decide_eq_decide.mpr h.mem_iff
  refine ⟨?_, ?_, ?_, fun x q => ?_⟩
  · rw [hv_N_L, hv_N_L, h.countP_eq]
    simp only [hm]
  · rw [hv_X_L, hv_X_L, h.countP_eq]
    simp only [hm]
  · rw [hv_D_L, hv_D_L, h.countP_eq]
    simp only [hm]
  · rw [hv_has_L, hv_has_L, hm]
theorem rot48 : ∀ o, o < 48 → ((List.range 48).map (fun k => (o + k) % 48)).isPerm (List.range 48) = true := by decide +kernel
theorem hv_rot {e e2 : Nat → Int32} {b b2 : Nat → Bool} {s o : Nat} (hs : s ≤ 48) (ho : o < 48) (h0 : s < 48 → o = 0) (h : ∀ k, k < s → e2 k = e ((o + k) % 48) ∧ b2 k = b ((o + k) % 48)) : (hv_L e2 b2 s).Perm (hv_L e b s) := by
  by_cases hlt : s < 48
  · have e0 := h0 hlt
    subst e0
    have : hv_L e2 b2 s = hv_L e b s := by
      unfold hv_L
      refine List.map_congr_left (fun k hk => ?_)
      have hk2 := List.mem_range.mp hk
      have h1 := h k hk2
      rw [Nat.zero_add, Nat.mod_eq_of_lt (by omega)] at h1
      rw [h1.1, h1.2]
    rw [this]
  · obtain rfl : s = 48 := by omega
    have h1 : hv_L e2 b2 48 = ((List.range 48).map (fun k => (o + k) % 48)).map (fun j => (e j, b j)) := by
      unfold hv_L
      rw [List.map_map]
      refine List.map_congr_left (fun k hk => ?_)
      have h2 := h k (List.mem_range.mp hk)
      show (e2 k, b2 k) = (e ((o + k) % 48), b ((o + k) % 48))
      rw [h2.1, h2.2]
    rw [h1]
    exact (List.isPerm_iff.mp (rot48 o ho)).map _
/-- a history r of the class tells the same as test t of the reference -/
def tR (r : FlR) (zf rn : Nat → Nat) (mkf : Nat → Bool) (mt : Nat → Nat) (jd : Nat → Int32) (fl : Nat → Nat) (t : Nat) : Prop := match r with
  | (_, (s, o), (mkd, tm), (je, jf), e, b) => s = zf t ∧ mkd = mkf t ∧ tm = mt t ∧ (s < 48 → o = 0) ∧ (∀ k, k < s → re_e rn t k = e ((o + k) % 48) ∧ re_b rn t k = b ((o + k) % 48)) ∧ ∀ x, fv_ed x = true → jv_f je x jf = jw_f (jd t) x (fl t)
theorem re_ed {rn : Nat → Nat} {t k : Nat} (h : rn (48 * t + k) < 2000) : fv_ed (re_e rn t k) = true := fv_ed_nI (by omega)
theorem hv_has_ed {e : Nat → Int32} {b : Nat → Bool} {x : Int32} {q : Bool} {s : Nat} (h : ∀ k, k < s → fv_ed (e k) = true) (hx : fv_ed x = false) : hv_has e b x q s = false := by
  induction s with
  | zero => rfl
  | succ s ih =>
    rw [hv_hasQ, ih (fun k hk => h k (by omega)), decide_eq_false (fun he => by rw [← he, h s (by omega)] at hx; cases hx)]
    rfl
/-- the ring behind a new run is the row behind it -/
theorem tR_ring {e : Nat → Int32} {b : Nat → Bool} {rn : Nat → Nat} {t s o xe : Nat} {q : Bool} (hs : s ≤ 48) (ho : o < 48) (h0 : s < 48 → o = 0) (h : ∀ k, k < s → re_e rn t k = e ((o + k) % 48) ∧ re_b rn t k = b ((o + k) % 48)) :
    (hv_s s < 48 → hv_o s o = 0) ∧ hv_o s o < 48 ∧ ∀ k, k < hv_s s → re_e (rr_n rn t s (2 * xe + qN q)) t k = upd e (hv_slot s o) (nI xe) ((hv_o s o + k) % 48) ∧ re_b (rr_n rn t s (2 * xe + qN q)) t k = va_up b (hv_slot s o) q ((hv_o s o + k) % 48) := by
  have hv1 : (2 * xe + qN q) / 2 = xe := by cases q <;> simp [qN] <;> omega
  have hv2 : decide ((2 * xe + qN q) % 2 = 1) = q := by cases q <;> simp [qN] <;> omega
  by_cases hlt : s < 48
  · have e0 := h0 hlt
    subst e0
    have z1 : hv_s s = s + 1 := by unfold hv_s; rw [if_pos hlt]
    have z2 : hv_o s 0 = 0 := by unfold hv_o; rw [if_pos hlt]
    have z3 : hv_slot s 0 = s := by unfold hv_slot; rw [if_pos hlt]
    rw [z1, z2, z3]
    refine ⟨fun _ => rfl, by omega, fun k hk => ?_⟩
    rw [Nat.zero_add, Nat.mod_eq_of_lt (by omega)]
    unfold re_e re_b rr_n
    rw [if_neg (by omega)]
    by_cases hks : k = s
    · subst hks
      rw [va_up_self, va_up_self, hv1, hv2]
      exact ⟨pk_us.symm, rfl⟩
    · rw [va_up_ne _ _ (show 48 * t + k ≠ 48 * t + s by omega), va_up_ne _ _ hks, pk_un hks]
      have h1 := h k (by omega)
      rw [Nat.zero_add, Nat.mod_eq_of_lt (by omega)] at h1
      exact h1
  · obtain rfl : s = 48 := by omega
    have z1 : hv_s 48 = 48 := rfl
    have z3 : hv_slot 48 o = o := rfl
    have z2 : hv_o 48 o = (o + 1) % 48 := by
      unfold hv_o
      rw [if_neg (by omega)]
      by_cases h2 : o + 1 < 48
      · rw [if_pos h2, Nat.mod_eq_of_lt h2]
      · rw [if_neg h2]
        omega
    rw [z1, z2, z3]
    refine ⟨fun h2 => absurd h2 (by omega), Nat.mod_lt _ (by decide), fun k hk => ?_⟩
    unfold re_e re_b rr_n
    rw [if_pos rfl]
    by_cases hks : k = 47
    · subst hks
      have e1 : ((o + 1) % 48 + 47) % 48 = o := by omega
      rw [e1, va_up_self, va_up_self, hv1, hv2]
      exact ⟨pk_us.symm, rfl⟩
    · have e1 : ((o + 1) % 48 + k) % 48 = (o + (k + 1)) % 48 := by omega
      have e2 : (o + (k + 1)) % 48 ≠ o := by omega
      rw [e1, va_up_ne _ _ (show 48 * t + k ≠ 48 * t + 47 by omega), va_up_ne _ _ e2, pk_un e2]
      have h1 := h (k + 1) (by omega)
      unfold re_e re_b at h1
      unfold rs_f
      rw [if_pos (by omega), show 48 * t + k + 1 = 48 * t + (k + 1) by omega]
      exact h1
/-- runs of one test leave the others' alone -/
theorem tR_other {r : FlR} {zf rn : Nat → Nat} {mkf : Nat → Bool} {mt : Nat → Nat} {jd : Nat → Int32} {fl : Nat → Nat} {t u s v : Nat} {z2 : Nat} {m2 : Bool} {n2 : Nat} {j2 : Int32} {f2 : Nat} (hs : s ≤ 48) (hs2 : zf u ≤ 48) (hv_ : s = 48 ∨ s < 48) (hu : u ≠ t) (h : tR r zf rn mkf mt jd fl u) : tR r (va_up zf t z2) (rr_n rn t s v) (va_up mkf t m2) (va_up mt t n2) (upd jd t j2) (va_up fl t f2) u := by
  obtain ⟨a0, ⟨s1, o1⟩, ⟨mk1, tm1⟩, ⟨je1, jf1⟩, e1, b1⟩ := r
  obtain ⟨h1, h2, h3, h4, h5, h6⟩ := h
  have hrr : ∀ k, k < 48 → rr_n rn t s v (48 * u + k) = rn (48 * u + k) := by
    intro k hk
    unfold rr_n
    split
    · rw [va_up_ne _ _ (by omega)]
      unfold rs_f
      rw [if_neg (by omega)]
    · rw [va_up_ne _ _ (by omega)]
  refine ⟨by rw [va_up_ne _ _ hu]; exact h1, by rw [va_up_ne _ _ hu]; exact h2, by rw [va_up_ne _ _ hu]; exact h3, h4, fun k hk => ?_, fun x hx => by rw [pk_un hu, va_up_ne _ _ hu]; exact h6 x hx⟩
  have h7 := h5 k hk
  unfold re_e re_b at h7 ⊢
  rw [hrr k (by omega)]
  exact h7
