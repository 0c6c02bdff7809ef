/-! the relation is kept -/
theorem upd_id (f : Nat → Int32) (k : Nat) {v : Int32} (h : f k = v) : upd f k v = f := by
  funext j
  by_cases q : j = k
  · rw [q, pk_us, h]
  · rw [pk_un q]
theorem fl_ref_set {L : List FlR} {hf : Nat → Option Nat} {i : Nat} {r r2 : FlR} (h : fl_ref L hf) (hi : L[i]? = some r) (hr : r2.1.1 = r.1.1) : fl_ref (L.set i r2) hf := by
  intro j hj
  rw [h j hj]
  by_cases q : j = i
  · subst q
    rw [hi, List.getElem?_set_self (List.getElem?_eq_some_iff.mp hi).1]
    show some r.1.1 = some r2.1.1
    rw [hr]
  · rw [List.getElem?_set_ne (fun e => q e.symm)]
set_option maxHeartbeats 1000000 in
theorem lI_runs {n lv mr cr : Nat} {hf : Nat → Option Nat} {ds dt ds2 dt2 : Nat → Nat} {L : List FlR} {zf rn : Nat → Nat} {mkf : Nat → Bool} {mt : Nat → Nat} {jd : Nat → Int32} {fl es et ew es2 et2 ew2 : Nat → Nat} {i h0 ea pa s o tm jf xe : Nat} {mkd q : Bool} {je : Int32} {e : Nat → Int32} {b : Nat → Bool} {je2 jd2 : Int32} {jf2 fl2 : Nat}
    (h : lI ((n, lv, mr, cr), hf, ds, dt, L) ((n, lv, mr, cr), zf, rn, mkf, mt, jd, fl, es, et, ew)) (hLi : L[i]? = some ((h0, ea, pa), (s, o), (mkd, tm), (je, jf), e, b)) (hxe : xe < 1000) (hj : ∀ x, fv_ed x = true → jv_f je2 x jf2 = jw_f jd2 x fl2) (hjf : jf2 ≤ 2) (hfl2 : fl2 ≤ 3) :
    lI ((n, lv, mr, cr), hf, ds2, dt2, L.set i ((h0, ea, pa), (hv_s s, hv_o s o), (tk_m mkd (hv_N (upd e (hv_slot s o) (nI xe)) (va_up b (hv_slot s o) q) (hv_s s) (hv_s s)) (hv_X (upd e (hv_slot s o) (nI xe)) (va_up b (hv_slot s o) q) (hv_s s) (hv_s s)) lv mr cr, tk_t mkd tm (hv_N (upd e (hv_slot s o) (nI xe)) (va_up b (hv_slot s o) q) (hv_s s) (hv_s s)) (hv_X (upd e (hv_slot s o) (nI xe)) (va_up b (hv_slot s o) q) (hv_s s) (hv_s s)) lv mr), (je2, jf2), upd e (hv_slot s o) (nI xe), va_up b (hv_slot s o) q))
      ((n, lv, mr, cr), va_up zf i (hv_s (zf i)), rr_n rn i (zf i) (2 * xe + qN q), va_up mkf i (tk_m (mkf i) (rN (va_up zf i (hv_s (zf i))) (rr_n rn i (zf i) (2 * xe + qN q)) i) (rX (va_up zf i (hv_s (zf i))) (rr_n rn i (zf i) (2 * xe + qN q)) i) lv mr cr), va_up mt i (tk_t (mkf i) (mt i) (rN (va_up zf i (hv_s (zf i))) (rr_n rn i (zf i) (2 * xe + qN q)) i) (rX (va_up zf i (hv_s (zf i))) (rr_n rn i (zf i) (2 * xe + qN q)) i) lv mr), upd jd i jd2, va_up fl i fl2, es2, et2, ew2) := by
  obtain ⟨-, hn12, hLn, href, hok, hz, hrn, hlv, hmr, hcr, hfl, hun, htR⟩ := h
  have hil := (List.getElem?_eq_some_iff.mp hLi).1
  have hin_ : i < n := by omega
  have hok1 := hok _ (List.mem_of_getElem? hLi)
  have hs48 : s ≤ 48 := hok1.1
  have ho48 : o < 48 := hok1.2.1
  obtain ⟨hzs, hmk, htm, ho0, hring, hjudge⟩ := htR i _ hLi
  obtain ⟨g1, g2, g3⟩ := tR_ring (xe := xe) (q := q) hs48 ho48 ho0 hring
  have hs2 : hv_s s ≤ 48 := hv_s_le hs48
  have hq2 : 2 * xe + qN q < 2000 := by cases q <;> simp [qN] <;> omega
  have hper := hv_perm (hv_rot hs2 g2 g1 g3)
  have eN : rN (va_up zf i (hv_s (zf i))) (rr_n rn i (zf i) (2 * xe + qN q)) i = hv_N (upd e (hv_slot s o) (nI xe)) (va_up b (hv_slot s o) q) (hv_s s) (hv_s s) := by
    unfold rN
    rw [va_up_self, ← hzs]
    exact hper.1
  have eX : rX (va_up zf i (hv_s (zf i))) (rr_n rn i (zf i) (2 * xe + qN q)) i = hv_X (upd e (hv_slot s o) (nI xe)) (va_up b (hv_slot s o) q) (hv_s s) (hv_s s) := by
    unfold rX
    rw [va_up_self, ← hzs]
    exact hper.2.1
  rw [eN, eX]
  refine ⟨⟨rfl, rfl, rfl, rfl⟩, hn12, by rw [List.length_set]; exact hLn, fl_ref_set href hLi rfl, fun r hr => ?_, fun u hu => ?_, rr_lt (by omega) hq2 hrn, hlv, hmr, hcr, fun u hu => ?_, fun u h1 h2 => ?_, fun u r hu => ?_⟩
  · rcases List.mem_or_eq_of_mem_set hr with h9 | h9
    · exact hok r h9
    · subst h9
      exact ⟨hs2, g2, hjf⟩
  · by_cases hui : u = i
    · rw [hui, va_up_self]
      exact hv_s_le (hz i (by omega))
    · rw [va_up_ne _ _ hui]
      exact hz u hu
  · by_cases hui : u = i
    · rw [hui, va_up_self]
      exact hfl2
    · rw [va_up_ne _ _ hui]
      exact hfl u hu
  · rw [va_up_ne _ _ (by omega), va_up_ne _ _ (by omega), va_up_ne _ _ (by omega)]
    exact hun u h1 h2
  · by_cases hui : u = i
    · subst hui
      rw [List.getElem?_set_self hil] at hu
      cases hu
      refine ⟨by rw [va_up_self, hzs], by rw [va_up_self, hmk], by rw [va_up_self, hmk, htm], g1, fun kk hk => ?_, fun x hx => by rw [pk_us, va_up_self]; exact hj x hx⟩
      rw [← hzs]
      exact g3 kk hk
    · rw [List.getElem?_set_ne (fun e9 => hui e9.symm)] at hu
      have hul := (List.getElem?_eq_some_iff.mp hu).1
      have hzi := hz i (by omega)
      exact tR_other hzi (hz u (by omega)) (by omega) hui (htR u r hu)
/-- there is a greatest one -/
theorem gv_ex (n m lv : Nat) (hl : lv ≤ 999) : ∃ J, gv_is n m lv J := by
  by_cases h : ∃ j, j ≤ 1000 ∧ pv_above n m j lv = false
  · obtain ⟨j, ⟨h1, h2⟩, h3⟩ := pk_least (fun j => j ≤ 1000 ∧ pv_above n m j lv = false) h
    have h0 : 0 < j := by
      rcases Nat.eq_zero_or_pos j with q | q
      · rw [q, pv_above_0 hl] at h2
        cases h2
      · exact q
    refine ⟨j - 1, gv_end (by omega) ?_ (fun i hi1 hi2 => gv_no h1 h2 (by omega) hi2)⟩
    cases hc : pv_above n m (j - 1) lv with
    | true => rfl
    | false => exact absurd ⟨by omega, hc⟩ (h3 (j - 1) (by omega))
  · refine ⟨1000, gv_end (Nat.le_refl _) ?_ (fun i hi1 hi2 => by omega)⟩
    cases hc : pv_above n m 1000 lv with
    | true => rfl
    | false => exact absurd ⟨1000, Nat.le_refl _, hc⟩ h
