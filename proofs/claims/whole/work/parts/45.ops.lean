/-! THE LAW'S STEPS: whatever the arguments, both sides answer the same, and tell the same afterwards -/
def opStep (yC : MethodName) (wsC : List Cond) (mLC : Nat) (avC : List Value) (yM : MethodName) (wsM : List Cond) (mLM : Nat) (avM : List Value) (a : FlA) (k : FlC) (m : FlM) : Prop :=
  ∃ (S1 S2 : Type) (mc ms : Nat) (ans : Int32) (k' : S1 → FlC) (m' : S2 → FlM), mc ≤ 3 ∧ ms ≤ 107 ∧ cStep yC wsC mLC mc ms avC a k ans k' ∧ mStep yM wsM mLM 0 0 avM a m ans m' ∧ ∀ u v, lI (k' u) (m' v)
section ANS
variable {l : Launch} {y : MethodName} {ws : List Cond} {rm : Room} {P : Array Value → State → Prop} {mc ms : Nat} {free : Addr → Prop}
theorem fw_ansR {A1 A2 : Int32} (hA : A1 = A2) (h : Met l y ws rm P (vp_Si (fun r => r = A1)) mc ms free) : Met l y ws rm P (vp_Si (fun r => r = A2)) mc ms free := by rw [← hA]; exact h
theorem fw_ansW {S : Type} {A1 A2 : Int32} {B : S → State → Prop} {A : Nat → Prop} (hA : A1 = A2) (h : Met l y ws rm P (va_Qi (fun r _ => r = A1) B A) mc ms free) : Met l y ws rm P (va_Qi (fun r _ => r = A2) B A) mc ms free := by rw [← hA]; exact h
theorem fw_ansB {S : Type} {N M lv J0 : Nat} {up : Bool} {B : S → State → Prop} {A : Nat → Prop} (hJ : gv_is N M lv J0) (h : Met l y ws rm P (va_Qi (fun r _ => ∃ J : Nat, r = nI (if up = true then J else 1000 - J) ∧ gv_is N M lv J) B A) mc ms free) : Met l y ws rm P (va_Qi (fun r _ => r = nI (if up = true then J0 else 1000 - J0)) B A) mc ms free := by
  refine fw_mono h (fun _ _ h => h) (fun a s o t _ hq => ?_) (fun _ h => h)
  obtain ⟨⟨r, u, q1, ⟨J, q2, q3⟩, q4⟩, q5⟩ := hq
  exact ⟨⟨r, u, q1, by rw [q2, gv_uniq q3 hJ], q4⟩, q5⟩
end ANS
theorem pX1 {F C Cr Co M : va_W} (h : C.Perm (Cr ++ Co)) : ((F ++ C) ++ M).Perm ((F ++ Cr) ++ (Co ++ M)) := by
  have h1 := (h.append_left F).append_right M
  simp only [List.append_assoc] at h1 ⊢
  exact h1
theorem lI_get {n lv mr cr : Nat} {hf : Nat → Option Nat} {ds dt : Nat → Nat} {L : List FlR} {m : FlM} {i : Nat} (h : lI ((n, lv, mr, cr), hf, ds, dt, L) m) (hi : i < n) : ∃ r, L[i]? = some r := by
  obtain ⟨⟨n2, lv2, mr2, cr2⟩, zf, rn, mkf, mt, jd, fl, es, et, ew⟩ := m
  obtain ⟨-, -, hLn, -⟩ := h
  exact ⟨_, List.getElem?_eq_getElem (by omega)⟩
set_option maxHeartbeats 4000000 in
theorem op_run (a : FlA) (k : FlC) (m : FlM) (h : lI k m) (x y : Int32) (q : Bool) : opStep yX3_run wsX3_run 5 [.ref a.2.1.1, .int x, .int y, .int (zI q)] yX4_run wsX4_run 4 [.ref a.2.2.1, .int x, .int y, .int (zI q)] a k m := by
  rcases fv_no_or k.1.1 (by obtain ⟨⟨n, lv, mr, cr⟩, hf, ds, dt, L⟩ := k; obtain ⟨⟨n2, lv2, mr2, cr2⟩, zf, rn, mkf, mt, jd, fl, es, et, ew⟩ := m; have := h.2.1; show n < _; omega) x with hno | ⟨i, hi, rfl⟩
  · have h1 := st_run_no a k m h x y (zI q) hno
    exact ⟨Unit, Unit, 0, 0, 0, fun _ => k, fun _ => m, by omega, by omega, h1.1, h1.2, fun _ _ => h⟩
  · have hh := h
    obtain ⟨⟨n, lv, mr, cr⟩, hf, ds, dt, L⟩ := k
    obtain ⟨r, hLi⟩ := lI_get h hi
    cases hed : fv_ed y with
    | false =>
      have h1 := st_run_nl a _ m h i r y (zI q) hLi hed
      exact ⟨Unit, Unit, 0, 0, 0, fun _ => _, fun _ => m, by omega, by omega, h1.1, h1.2, fun _ _ => h⟩
    | true =>
      obtain ⟨xe, hxe, rfl⟩ := fv_ed_iff hed
      obtain ⟨⟨cH, cJ, cI, cZ⟩, ⟨f0, hs, c0, s0, sa, t0, ta⟩, m0, pz, pr, pm, pk, pj, pf, su, te, wh⟩ := a
      obtain ⟨⟨n2, lv2, mr2, cr2⟩, zf, rn, mkf, mt, jd, fl, es, et, ew⟩ := m
      obtain ⟨⟨rfl, rfl, rfl, rfl⟩, hn12, hLn, href, hok, hz, hrn, hlv, hmr, hcr, hfl, hun, htR⟩ := h
      obtain ⟨⟨h0, ea, pa⟩, ⟨s, o⟩, ⟨mkd, tm⟩, ⟨je, jf⟩, e, b⟩ := r
      have hin_ : i < n2 := hi
      have hfi : hf i = some h0 := by rw [href i (by omega), hLi]; rfl
      have hok1 := hok _ (List.mem_of_getElem? hLi)
      have hs48 : s ≤ 48 := hok1.1
      have ho48 : o < 48 := hok1.2.1
      have hjf : jf ≤ 2 := hok1.2.2
      obtain ⟨hzs, hmk, htm, ho0, hring, hjudge⟩ := htR i _ hLi
      have hil := (List.getElem?_eq_some_iff.mp hLi).1
      refine ⟨(Nat → Nat) × (Nat → Nat), (Nat → Nat) × (Nat → Nat) × (Nat → Nat), 0, 0, 1, fun u => ((n2, lv2, mr2, cr2), hf, u.1, u.2, L.set i ((h0, ea, pa), (hv_s s, hv_o s o), (tk_m mkd (hv_N (upd e (hv_slot s o) (nI xe)) (va_up b (hv_slot s o) q) (hv_s s) (hv_s s)) (hv_X (upd e (hv_slot s o) (nI xe)) (va_up b (hv_slot s o) q) (hv_s s) (hv_s s)) lv2 mr2 cr2, tk_t mkd tm (hv_N (upd e (hv_slot s o) (nI xe)) (va_up b (hv_slot s o) q) (hv_s s) (hv_s s)) (hv_X (upd e (hv_slot s o) (nI xe)) (va_up b (hv_slot s o) q) (hv_s s) (hv_s s)) lv2 mr2), (je, jf), (upd e (hv_slot s o) (nI xe)), (va_up b (hv_slot s o) q))), fun v => ((n2, lv2, mr2, cr2), (va_up zf i (hv_s (zf i))), (rr_n rn i (zf i) (2 * xe + qN q)), va_up mkf i (tk_m (mkf i) (rN (va_up zf i (hv_s (zf i))) (rr_n rn i (zf i) (2 * xe + qN q)) i) (rX (va_up zf i (hv_s (zf i))) (rr_n rn i (zf i) (2 * xe + qN q)) i) lv2 mr2 cr2), va_up mt i (tk_t (mkf i) (mt i) (rN (va_up zf i (hv_s (zf i))) (rr_n rn i (zf i) (2 * xe + qN q)) i) (rX (va_up zf i (hv_s (zf i))) (rr_n rn i (zf i) (2 * xe + qN q)) i) lv2 mr2), jd, fl, v.1, v.2.1, v.2.2), by omega, by omega, ⟨_, ?_, ?_, ?_, ?_, fun l dC dI sz m => fw_ofWi (R := fl_cs cI cZ (L.take i ++ L.drop (i + 1)) ++ mW ((cH, cJ, cI, cZ), (f0, hs, c0, s0, sa, t0, ta), m0, pz, pr, pm, pk, pj, pf, su, te, wh) m) (c_fla_run l dC dI f0 hs c0 s0 sa t0 ta h0 ea pa cH cJ cI cZ lv2 mr2 cr2 ds dt n2 i hf s o (nI (hv_D e b s s)) (nI (hv_N e b s s)) (nI (hv_X e b s s)) mkd tm je jf e b (nI xe) q sz hn12 hin_ hfi hlv hmr hcr hs48 ho48 hjf hed) (pX1 (fl_split hLi)) (fun q hq => hq) (fun u => (pX1 (F := cF ((cH, cJ, cI, cZ), (f0, hs, c0, s0, sa, t0, ta), m0, pz, pr, pm, pk, pj, pf, su, te, wh) ((n2, lv2, mr2, cr2), hf, u.1, u.2, L)) (M := mW ((cH, cJ, cI, cZ), (f0, hs, c0, s0, sa, t0, ta), m0, pz, pr, pm, pk, pj, pf, su, te, wh) m) (fl_set hil ((h0, ea, pa), (hv_s s, hv_o s o), (tk_m mkd (hv_N (upd e (hv_slot s o) (nI xe)) (va_up b (hv_slot s o) q) (hv_s s) (hv_s s)) (hv_X (upd e (hv_slot s o) (nI xe)) (va_up b (hv_slot s o) q) (hv_s s) (hv_s s)) lv2 mr2 cr2, tk_t mkd tm (hv_N (upd e (hv_slot s o) (nI xe)) (va_up b (hv_slot s o) q) (hv_s s) (hv_s s)) (hv_X (upd e (hv_slot s o) (nI xe)) (va_up b (hv_slot s o) q) (hv_s s) (hv_s s)) lv2 mr2), (je, jf), (upd e (hv_slot s o) (nI xe)), (va_up b (hv_slot s o) q))).symm).symm)⟩, ⟨_, ?_, ?_, ?_, ?_, fun l dC dI sz k => fw_ofWi (R := cW ((cH, cJ, cI, cZ), (f0, hs, c0, s0, sa, t0, ta), m0, pz, pr, pm, pk, pj, pf, su, te, wh) k) (c_ref_run l dC dI m0 pz pr pm pk pj pf su te wh cI cJ cZ n2 lv2 mr2 cr2 zf rn mkf mt jd fl es et ew i xe q sz hn12 hz hrn hlv hmr hcr hin_ hxe) List.perm_append_comm (fun q hq => by simp only [List.mem_cons, List.not_mem_nil, or_false] at hq ⊢; rcases hq with rfl | rfl | rfl <;> simp) (fun u => List.perm_append_comm)⟩, fun u v => ?_⟩
      any_goals first | rfl | exact Nat.le_of_ble_eq_true rfl
      have h9 := lI_runs (q := q) (ds2 := u.1) (dt2 := u.2) (es2 := v.1) (et2 := v.2.1) (ew2 := v.2.2) (je2 := je) (jf2 := jf) (jd2 := jd i) (fl2 := fl i) hh hLi hxe hjudge hjf (hfl i (by omega))
      rw [upd_id jd i rfl, va_up_id fl i rfl] at h9
      exact h9
