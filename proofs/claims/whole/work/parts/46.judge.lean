/-! the retries -/
theorem jt_neg {x : Int32} (h : fv_ed x = true) : ¬ (-1 : Int32) = x := by
  intro h2
  rw [← h2] at h
  exact absurd h (by decide)
theorem jt_0 {mk q : Bool} {f : Nat} (h : jv_V mk q f = 0) : q = false ∧ f + 1 ≤ 2 := by
  cases q with
  | true =>
    exfalso
    have h2 : jv_P f = 0 := h
    unfold jv_P at h2
    split at h2 <;> exact absurd h2 (by decide)
  | false =>
    refine ⟨rfl, ?_⟩
    have h2 : jv_F mk f = 0 := h
    unfold jv_F at h2
    cases mk with
    | true =>
      by_cases h3 : f + 1 < 3
      · omega
      · rw [if_pos rfl, if_neg h3, if_pos rfl] at h2
        exact absurd h2 (by decide)
    | false =>
      by_cases h3 : f + 1 < 1
      · omega
      · rw [if_neg (by decide : ¬ false = true), if_neg h3, if_neg (by decide : ¬ false = true)] at h2
        exact absurd h2 (by decide)
theorem jt_le {mk q : Bool} {f : Nat} (_ : f ≤ 2) : jv_n mk q f ≤ 2 := by
  unfold jv_n
  split
  · rename_i h
    exact (jt_0 h).2
  · omega
theorem jt_tie {mk mk2 q : Bool} {f g : Nat} {y : Int32} (hf : f = g) (hm : mk = mk2) (x : Int32) (hx : fv_ed x = true) : jv_f y x (jv_n mk q f) = jw_f (jw_j mk2 q g y) x (jw_n q g) := by
  subst hf hm
  unfold jv_f jv_n jw_f jw_j jw_n
  by_cases h : jv_V mk q f = 0
  · rw [if_pos h, if_pos h, (jt_0 h).1, if_neg (by decide : ¬ false = true)]
    by_cases h2 : x = y
    · rw [if_pos h2, if_pos h2.symm]
    · rw [if_neg h2, if_neg (fun h3 => h2 h3.symm)]
  · rw [if_neg h, if_neg h, if_neg (jt_neg hx), ite_self]
set_option maxHeartbeats 4000000 in
theorem op_judge (a : FlA) (k : FlC) (m : FlM) (h : lI k m) (x y : Int32) (q : Bool) : opStep yX3_judge wsX3_judge 6 [.ref a.2.1.1, .int x, .int y, .int (zI q)] yX4_judge wsX4_judge 8 [.ref a.2.2.1, .int x, .int y, .int (zI q)] a k m := by
  rcases fv_no_or k.1.1 (by obtain ⟨⟨n, lv, mr, cr⟩, hf, ds, dt, L⟩ := k; obtain ⟨⟨n2, lv2, mr2, cr2⟩, zf, rn, mkf, mt, jd, fl, es, et, ew⟩ := m; have := h.2.1; show n < _; omega) x with hno | ⟨i, hi, rfl⟩
  · have h1 := st_judge_no a k m h x y (zI q) hno
    exact ⟨Unit, Unit, 0, 0, (-1), fun _ => k, fun _ => m, by omega, by omega, h1.1, h1.2, fun _ _ => h⟩
  · have hh := h
    obtain ⟨⟨n, lv, mr, cr⟩, hf, ds, dt, L⟩ := k
    obtain ⟨r, hLi⟩ := lI_get h hi
    cases hed : fv_ed y with
    | false =>
      have h1 := st_judge_nl a _ m h i r y (zI q) hLi hed
      exact ⟨Unit, Unit, 0, 0, (-1), fun _ => _, fun _ => m, by omega, by omega, h1.1, h1.2, fun _ _ => h⟩
    | true =>
      obtain ⟨xe, hxe, rfl⟩ := fv_ed_iff hed
      obtain ⟨⟨cH, cJ, cI, cZ⟩, ⟨f0, hs, c0, s0, sa, t0, ta⟩, m0, pz, pr, pm, pk, pj, pf, su, te, wh⟩ := a
      obtain ⟨⟨n2, lv2, mr2, cr2⟩, zf, rn, mkf, mt, jd, fl, es, et, ew⟩ := m
      obtain ⟨⟨rfl, rfl, rfl, rfl⟩, hn12, hLn, href, hok, hz, hrn, hlv, hmr, hcr, hfl, hun, htR⟩ := h
      obtain ⟨⟨h0, ea, pa⟩, ⟨s, o⟩, ⟨mkd, tm⟩, ⟨je, jf⟩, e, b⟩ := r
      have hin_ : i < n2 := hi
      have hfi : hf i = some h0 := by rw [href i (by omega), hLi]; rfl
      have hok1 := hok _ (List.mem_of_getElem? hLi)
      have hs48 : s ≤ 48 := hok1.1
      have ho48 : o < 48 := hok1.2.1
      have hjf : jf ≤ 2 := hok1.2.2
      obtain ⟨hzs, hmk, htm, ho0, hring, hjudge⟩ := htR i _ hLi
      have hil := (List.getElem?_eq_some_iff.mp hLi).1
      have hf_ := hjudge (nI xe) hed
      have hans : jv_V (mkf i) q (jw_f (jd i) (nI xe) (fl i)) = jv_V mkd q (jv_f je (nI xe) jf) := by rw [hf_, hmk]
      refine ⟨(Nat → Nat) × (Nat → Nat), (Nat → Nat) × (Nat → Nat) × (Nat → Nat), 0, 0, (jv_V mkd q (jv_f je (nI xe) jf)), fun u => ((n2, lv2, mr2, cr2), hf, u.1, u.2, L.set i ((h0, ea, pa), (hv_s s, hv_o s o), (tk_m mkd (hv_N (upd e (hv_slot s o) (nI xe)) (va_up b (hv_slot s o) q) (hv_s s) (hv_s s)) (hv_X (upd e (hv_slot s o) (nI xe)) (va_up b (hv_slot s o) q) (hv_s s) (hv_s s)) lv2 mr2 cr2, tk_t mkd tm (hv_N (upd e (hv_slot s o) (nI xe)) (va_up b (hv_slot s o) q) (hv_s s) (hv_s s)) (hv_X (upd e (hv_slot s o) (nI xe)) (va_up b (hv_slot s o) q) (hv_s s) (hv_s s)) lv2 mr2), (nI xe, jv_n mkd q (jv_f je (nI xe) jf)), (upd e (hv_slot s o) (nI xe)), (va_up b (hv_slot s o) q))), fun v => ((n2, lv2, mr2, cr2), (va_up zf i (hv_s (zf i))), (rr_n rn i (zf i) (2 * xe + qN q)), va_up mkf i (tk_m (mkf i) (rN (va_up zf i (hv_s (zf i))) (rr_n rn i (zf i) (2 * xe + qN q)) i) (rX (va_up zf i (hv_s (zf i))) (rr_n rn i (zf i) (2 * xe + qN q)) i) lv2 mr2 cr2), va_up mt i (tk_t (mkf i) (mt i) (rN (va_up zf i (hv_s (zf i))) (rr_n rn i (zf i) (2 * xe + qN q)) i) (rX (va_up zf i (hv_s (zf i))) (rr_n rn i (zf i) (2 * xe + qN q)) i) lv2 mr2), upd jd i (jw_j (mkf i) q (jw_f (jd i) (nI xe) (fl i)) (nI xe)), va_up fl i (jw_n q (jw_f (jd i) (nI xe) (fl i))), v.1, v.2.1, v.2.2), by omega, by omega, ⟨_, ?_, ?_, ?_, ?_, fun l dC dI sz m => fw_ofWi (R := fl_cs cI cZ (L.take i ++ L.drop (i + 1)) ++ mW ((cH, cJ, cI, cZ), (f0, hs, c0, s0, sa, t0, ta), m0, pz, pr, pm, pk, pj, pf, su, te, wh) m) (c_fla_judge l dC dI f0 hs c0 s0 sa t0 ta h0 ea pa cH cJ cI cZ lv2 mr2 cr2 ds dt n2 i hf s o (nI (hv_D e b s s)) (nI (hv_N e b s s)) (nI (hv_X e b s s)) mkd tm je jf e b (nI xe) q sz hn12 hin_ hfi hlv hmr hcr hs48 ho48 hjf hed) (pX1 (fl_split hLi)) (fun q hq => hq) (fun u => (pX1 (F := cF ((cH, cJ, cI, cZ), (f0, hs, c0, s0, sa, t0, ta), m0, pz, pr, pm, pk, pj, pf, su, te, wh) ((n2, lv2, mr2, cr2), hf, u.1, u.2, L)) (M := mW ((cH, cJ, cI, cZ), (f0, hs, c0, s0, sa, t0, ta), m0, pz, pr, pm, pk, pj, pf, su, te, wh) m) (fl_set hil ((h0, ea, pa), (hv_s s, hv_o s o), (tk_m mkd (hv_N (upd e (hv_slot s o) (nI xe)) (va_up b (hv_slot s o) q) (hv_s s) (hv_s s)) (hv_X (upd e (hv_slot s o) (nI xe)) (va_up b (hv_slot s o) q) (hv_s s) (hv_s s)) lv2 mr2 cr2, tk_t mkd tm (hv_N (upd e (hv_slot s o) (nI xe)) (va_up b (hv_slot s o) q) (hv_s s) (hv_s s)) (hv_X (upd e (hv_slot s o) (nI xe)) (va_up b (hv_slot s o) q) (hv_s s) (hv_s s)) lv2 mr2), (nI xe, jv_n mkd q (jv_f je (nI xe) jf)), (upd e (hv_slot s o) (nI xe)), (va_up b (hv_slot s o) q))).symm).symm)⟩, ⟨_, ?_, ?_, ?_, ?_, fun l dC dI sz k => fw_ofWi (R := cW ((cH, cJ, cI, cZ), (f0, hs, c0, s0, sa, t0, ta), m0, pz, pr, pm, pk, pj, pf, su, te, wh) k) (fw_ansW hans (c_ref_judge l dC dI m0 pz pr pm pk pj pf su te wh cI cJ cZ n2 lv2 mr2 cr2 zf rn mkf mt jd fl es et ew i xe q sz hn12 hz hrn hlv hmr hcr hin_ hxe hfl)) List.perm_append_comm (fun q hq => by simp only [List.mem_cons, List.not_mem_nil, or_false] at hq ⊢; rcases hq with rfl | rfl | rfl <;> simp) (fun u => List.perm_append_comm)⟩, fun u v => ?_⟩
      any_goals first | rfl | exact Nat.le_of_ble_eq_true rfl
      have hf2 : jv_f je (nI xe) jf ≤ 2 := by unfold jv_f; split <;> omega
      exact lI_runs (q := q) hh hLi hxe (jt_tie hf_ hmk) (jt_le hf2) (by rw [← hf_]; unfold jw_n; split <;> omega)
