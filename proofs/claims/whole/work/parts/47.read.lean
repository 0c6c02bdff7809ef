set_option maxHeartbeats 4000000 in
theorem op_about (a : FlA) (k : FlC) (m : FlM) (h : lI k m) (x y : Int32) : opStep yX3_about wsX3_about 4 [.ref a.2.1.1, .int x, .int y] yX4_about wsX4_about 3 [.ref a.2.2.1, .int x, .int y] a k m := by
  rcases fv_no_or k.1.1 (by obtain ⟨⟨n, lv, mr, cr⟩, hf, ds, dt, L⟩ := k; obtain ⟨⟨n2, lv2, mr2, cr2⟩, zf, rn, mkf, mt, jd, fl, es, et, ew⟩ := m; have := h.2.1; show n < _; omega) x with hno | ⟨i, hi, rfl⟩
  · have h1 := st_about_no a k m h x y hno
    exact ⟨Unit, Unit, 0, 0, (-1), fun _ => k, fun _ => m, by omega, by omega, h1.1, h1.2, fun _ _ => h⟩
  · have hh := h
    obtain ⟨⟨n, lv, mr, cr⟩, hf, ds, dt, L⟩ := k
    obtain ⟨r, hLi⟩ := lI_get h hi
    obtain ⟨⟨cH, cJ, cI, cZ⟩, ⟨f0, hs, c0, s0, sa, t0, ta⟩, m0, pz, pr, pm, pk, pj, pf, su, te, wh⟩ := a
    obtain ⟨⟨n2, lv2, mr2, cr2⟩, zf, rn, mkf, mt, jd, fl, es, et, ew⟩ := m
    obtain ⟨⟨rfl, rfl, rfl, rfl⟩, hn12, hLn, href, hok, hz, hrn, hlv, hmr, hcr, hfl, hun, htR⟩ := h
    obtain ⟨⟨h0, ea, pa⟩, ⟨s, o⟩, ⟨mkd, tm⟩, ⟨je, jf⟩, e, b⟩ := r
    have hin_ : i < n2 := hi
    have hfi : hf i = some h0 := by rw [href i (by omega), hLi]; rfl
    have hok1 := hok _ (List.mem_of_getElem? hLi)
    have hs48 : s ≤ 48 := hok1.1
    have ho48 : o < 48 := hok1.2.1
    have hjf : jf ≤ 2 := hok1.2.2
    obtain ⟨hzs, hmk, htm, ho0, hring, hjudge⟩ := htR i _ hLi
    have hil := (List.getElem?_eq_some_iff.mp hLi).1
    have htie := hv_perm (hv_rot hs48 ho48 ho0 hring)
    have hN1 : hv_N e b s s = rN zf rn i := by unfold rN; rw [← hzs]; exact htie.1.symm
    have hX1 : hv_X e b s s = rX zf rn i := by unfold rX; rw [← hzs]; exact htie.2.1.symm
    have hD1 : hv_D e b s s = rD zf rn i := by unfold rD; rw [← hzs]; exact htie.2.2.1.symm
    have hans : ab_v s (hv_D e b s s) (hv_N e b s s) (hv_X e b s s) mkd tm y = ab_v (zf i) (rD zf rn i) (rN zf rn i) (rX zf rn i) (mkf i) (mt i) y := by rw [hN1, hX1, hD1, hmk, htm, hzs]
    refine ⟨Unit, Unit, 0, 0, _, fun _ => ((n2, lv2, mr2, cr2), hf, ds, dt, L), fun _ => ((n2, lv2, mr2, cr2), zf, rn, mkf, mt, jd, fl, es, et, ew), by omega, by omega, ⟨_, ?_, ?_, ?_, ?_, fun l dC dI sz m => fw_ofRi (S := Unit) (fw_ansR hans (c_fla_about l dC dI f0 hs cH (.ref c0) (.int (nI lv2)) (.int (nI mr2)) (.int (nI cr2)) n2 hf i h0 (.ref ea) (.ref pa) (.int (nI o)) (.int je) (.int (nI jf)) s (hv_D e b s s) (hv_N e b s s) (hv_X e b s s) tm mkd y hn12 hin_ hfi)) (fun q hq => List.mem_append_left _ (by rcases List.mem_append.mp (show q ∈ [_, _] ++ [_] from hq) with h9 | h9; exact List.mem_append_left _ ((List.sublist_append_left [_, _] _).mem h9); exact List.mem_append_right _ (fl_in hLi q ((List.sublist_append_left [_] _).mem h9)))) (fun q hq => (List.sublist_append_left [_] _).mem hq)⟩, ⟨_, ?_, ?_, ?_, ?_, fun l dC dI sz k => fw_ofWi (R := cW ((cH, cJ, cI, cZ), (f0, hs, c0, s0, sa, t0, ta), m0, pz, pr, pm, pk, pj, pf, su, te, wh) k) (c_ref_about l dC dI m0 pz pr pm pk pj pf su te wh cI cJ cZ n2 lv2 mr2 cr2 zf rn mkf mt jd fl es et ew i y sz hn12 hz hrn hlv hmr hcr hin_) List.perm_append_comm (fun q hq => by simp only [List.mem_cons, List.not_mem_nil, or_false] at hq ⊢; rcases hq with rfl | rfl | rfl <;> simp) (fun u => List.perm_append_comm)⟩, fun _ _ => hh⟩
    any_goals first | rfl | exact Nat.le_of_ble_eq_true rfl
set_option maxHeartbeats 4000000 in
theorem op_isBad (a : FlA) (k : FlC) (m : FlM) (h : lI k m) (x y : Int32) : opStep yX3_isBad wsX3_isBad 4 [.ref a.2.1.1, .int x, .int y] yX4_isBad wsX4_isBad 3 [.ref a.2.2.1, .int x, .int y] a k m := by
  rcases fv_no_or k.1.1 (by obtain ⟨⟨n, lv, mr, cr⟩, hf, ds, dt, L⟩ := k; obtain ⟨⟨n2, lv2, mr2, cr2⟩, zf, rn, mkf, mt, jd, fl, es, et, ew⟩ := m; have := h.2.1; show n < _; omega) x with hno | ⟨i, hi, rfl⟩
  · have h1 := st_isBad_no a k m h x y hno
    exact ⟨Unit, Unit, 0, 0, 0, fun _ => k, fun _ => m, by omega, by omega, h1.1, h1.2, fun _ _ => h⟩
  · have hh := h
    obtain ⟨⟨n, lv, mr, cr⟩, hf, ds, dt, L⟩ := k
    obtain ⟨r, hLi⟩ := lI_get h hi
    obtain ⟨⟨cH, cJ, cI, cZ⟩, ⟨f0, hs, c0, s0, sa, t0, ta⟩, m0, pz, pr, pm, pk, pj, pf, su, te, wh⟩ := a
    obtain ⟨⟨n2, lv2, mr2, cr2⟩, zf, rn, mkf, mt, jd, fl, es, et, ew⟩ := m
    obtain ⟨⟨rfl, rfl, rfl, rfl⟩, hn12, hLn, href, hok, hz, hrn, hlv, hmr, hcr, hfl, hun, htR⟩ := h
    obtain ⟨⟨h0, ea, pa⟩, ⟨s, o⟩, ⟨mkd, tm⟩, ⟨je, jf⟩, e, b⟩ := r
    have hin_ : i < n2 := hi
    have hfi : hf i = some h0 := by rw [href i (by omega), hLi]; rfl
    have hok1 := hok _ (List.mem_of_getElem? hLi)
    have hs48 : s ≤ 48 := hok1.1
    have ho48 : o < 48 := hok1.2.1
    have hjf : jf ≤ 2 := hok1.2.2
    obtain ⟨hzs, hmk, htm, ho0, hring, hjudge⟩ := htR i _ hLi
    have hil := (List.getElem?_eq_some_iff.mp hLi).1
    have htie := hv_perm (hv_rot hs48 ho48 ho0 hring)
    have hN1 : hv_N e b s s = rN zf rn i := by unfold rN; rw [← hzs]; exact htie.1.symm
    have hX1 : hv_X e b s s = rX zf rn i := by unfold rX; rw [← hzs]; exact htie.2.1.symm
    have hD1 : hv_D e b s s = rD zf rn i := by unfold rD; rw [← hzs]; exact htie.2.2.1.symm
    have hans : zI (hv_has e b y false s && !hv_has e b y true s) = zI (hv_has (re_e rn i) (re_b rn i) y false (zf i) && !hv_has (re_e rn i) (re_b rn i) y true (zf i)) := by rw [← hzs, htie.2.2.2, htie.2.2.2]
    cases hed : fv_ed y with
    | false =>
      have h0_ : hv_has (re_e rn i) (re_b rn i) y false (zf i) = false := hv_has_ed (fun k hk => re_ed (hrn _ (by have := hz i (by omega); omega))) hed
      have hans2 : zI (hv_has e b y false s && !hv_has e b y true s) = 0 := by rw [hans, h0_]; rfl
      refine ⟨Unit, Unit, 0, 0, 0, fun _ => ((n2, lv2, mr2, cr2), hf, ds, dt, L), fun _ => ((n2, lv2, mr2, cr2), zf, rn, mkf, mt, jd, fl, es, et, ew), by omega, by omega, ⟨_, ?_, ?_, ?_, ?_, fun l dC dI sz m => fw_ofRi (S := Unit) (fw_ansR hans2 (c_fla_isBad l dC dI f0 hs cH (.ref c0) (.int (nI lv2)) (.int (nI mr2)) (.int (nI cr2)) n2 hf i h0 ea pa cI cZ (.int (nI o)) (.int (nI (hv_D e b s s))) (.int (nI (hv_N e b s s))) (.int (nI (hv_X e b s s))) (.int (zI mkd)) (.int (nI tm)) (.int je) (.int (nI jf)) s e b y hn12 hin_ hfi hs48)) (fun q hq => List.mem_append_left _ (by rcases List.mem_append.mp (show q ∈ [_, _] ++ [_, _, _] from hq) with h9 | h9; exact List.mem_append_left _ ((List.sublist_append_left [_, _] _).mem h9); exact List.mem_append_right _ (fl_in hLi q h9))) (fun q hq => by simp only [List.mem_cons, List.not_mem_nil, or_false] at hq ⊢; rcases hq with rfl | rfl | rfl <;> simp)⟩, ⟨_, ?_, ?_, ?_, ?_, fun l dC dI sz k => fw_ofWi (R := cW ((cH, cJ, cI, cZ), (f0, hs, c0, s0, sa, t0, ta), m0, pz, pr, pm, pk, pj, pf, su, te, wh) k) (c_ref_isbad_no l dC dI m0 pz pr pm pk pj pf su te wh cI cJ cZ n2 lv2 mr2 cr2 zf rn mkf mt jd fl es et ew (nI i) y sz (by rw [hed, Bool.and_false])) List.perm_append_comm (fun q hq => by simp only [List.mem_cons, List.not_mem_nil, or_false] at hq ⊢; rcases hq with rfl | rfl | rfl <;> simp) (fun u => List.perm_append_comm)⟩, fun _ _ => hh⟩
      any_goals first | rfl | exact Nat.le_of_ble_eq_true rfl
    | true =>
      refine ⟨Unit, Unit, 0, 0, _, fun _ => ((n2, lv2, mr2, cr2), hf, ds, dt, L), fun _ => ((n2, lv2, mr2, cr2), zf, rn, mkf, mt, jd, fl, es, et, ew), by omega, by omega, ⟨_, ?_, ?_, ?_, ?_, fun l dC dI sz m => fw_ofRi (S := Unit) (fw_ansR hans (c_fla_isBad l dC dI f0 hs cH (.ref c0) (.int (nI lv2)) (.int (nI mr2)) (.int (nI cr2)) n2 hf i h0 ea pa cI cZ (.int (nI o)) (.int (nI (hv_D e b s s))) (.int (nI (hv_N e b s s))) (.int (nI (hv_X e b s s))) (.int (zI mkd)) (.int (nI tm)) (.int je) (.int (nI jf)) s e b y hn12 hin_ hfi hs48)) (fun q hq => List.mem_append_left _ (by rcases List.mem_append.mp (show q ∈ [_, _] ++ [_, _, _] from hq) with h9 | h9; exact List.mem_append_left _ ((List.sublist_append_left [_, _] _).mem h9); exact List.mem_append_right _ (fl_in hLi q h9))) (fun q hq => by simp only [List.mem_cons, List.not_mem_nil, or_false] at hq ⊢; rcases hq with rfl | rfl | rfl <;> simp)⟩, ⟨_, ?_, ?_, ?_, ?_, fun l dC dI sz k => fw_ofWi (R := cW ((cH, cJ, cI, cZ), (f0, hs, c0, s0, sa, t0, ta), m0, pz, pr, pm, pk, pj, pf, su, te, wh) k) (c_ref_isbad l dC dI m0 pz pr pm pk pj pf su te wh cI cJ cZ n2 lv2 mr2 cr2 zf rn mkf mt jd fl es et ew i y sz hn12 hz hrn hlv hmr hcr hin_ hed) List.perm_append_comm (fun q hq => by simp only [List.mem_cons, List.not_mem_nil, or_false] at hq ⊢; rcases hq with rfl | rfl | rfl <;> simp) (fun u => List.perm_append_comm)⟩, fun _ _ => hh⟩
      any_goals first | rfl | exact Nat.le_of_ble_eq_true rfl
theorem bt_real {r : FlR} {zf rn : Nat → Nat} {mkf : Nat → Bool} {mt : Nat → Nat} {jd : Nat → Int32} {fl : Nat → Nat} {t : Nat} (h : tR r zf rn mkf mt jd fl t) (hok : fl_ok r) (ht : t < 12) (hrn : ∀ j, j < 576 → rn j < 2000) (x : Int32) : fl_real x r = rf_r zf rn mkf x t := by
  obtain ⟨a0, ⟨s, o⟩, ⟨mkd, tm⟩, ⟨je, jf⟩, e, b⟩ := r
  obtain ⟨hzs, hmk, htm, ho0, hring, hjudge⟩ := h
  have hs48 : s ≤ 48 := hok.1
  have htie := hv_perm (hv_rot hs48 hok.2.1 ho0 hring)
  show (!mkd && (hv_has e b x false s && !hv_has e b x true s)) = (fv_ed x && ((hv_has (re_e rn t) (re_b rn t) x false (zf t) && !hv_has (re_e rn t) (re_b rn t) x true (zf t)) && !mkf t))
  rw [← hzs, htie.2.2.2, htie.2.2.2, hmk]
  cases hed : fv_ed x with
  | false =>
    have h0_ : hv_has (re_e rn t) (re_b rn t) x false s = false := hv_has_ed (fun k hk => re_ed (hrn _ (by omega))) hed
    rw [← htie.2.2.2 x false, h0_, Bool.false_and, Bool.and_false, Bool.false_and]
  | true => rw [Bool.true_and, Bool.and_comm]
theorem bt_lo {zf rn : Nat → Nat} {mkf : Nat → Bool} {mt : Nat → Nat} {jd : Nat → Int32} {fl : Nat → Nat} {L : List FlR} (hL : L.length ≤ 12) (htR : ∀ i r, L[i]? = some r → tR r zf rn mkf mt jd fl i) (hok : ∀ r, r ∈ L → fl_ok r) (hrn : ∀ j, j < 576 → rn j < 2000) (x : Int32) : ∀ t, t ≤ L.length → fl_bits x L t = rf_b zf rn mkf x t := by
  intro t
  induction t with
  | zero => intro _; rfl
  | succ t ih =>
    intro ht
    have hg : L[t]? = some L[t] := List.getElem?_eq_getElem (by omega)
    have h1 := bt_real (htR t _ hg) (hok _ (List.mem_of_getElem? hg)) (by omega) hrn x
    rw [rf_bS, ← ih (by omega), ← h1]
    show (match L[t]? with | some r => if fl_real x r = true then fl_bits x L t ||| ((1 : Int32) <<< (nI t &&& 31)) else fl_bits x L t | none => fl_bits x L t) = _
    rw [hg]
    show (if fl_real x L[t] = true then fl_bits x L t ||| ((1 : Int32) <<< (nI t &&& 31)) else fl_bits x L t) = _
    split
    · rfl
    · rw [Int32.or_zero]
theorem bt_hi {L : List FlR} (x : Int32) : ∀ d, fl_bits x L (L.length + d) = fl_bits x L L.length := by
  intro d
  induction d with
  | zero => rfl
  | succ d ih =>
    show (match L[L.length + d]? with | some r => if fl_real x r = true then fl_bits x L (L.length + d) ||| ((1 : Int32) <<< (nI (L.length + d) &&& 31)) else fl_bits x L (L.length + d) | none => fl_bits x L (L.length + d)) = _
    rw [List.getElem?_eq_none (by omega)]
    exact ih
theorem bt_all {zf rn : Nat → Nat} {mkf : Nat → Bool} {mt : Nat → Nat} {jd : Nat → Int32} {fl : Nat → Nat} {L : List FlR} (hL : L.length ≤ 12) (htR : ∀ i r, L[i]? = some r → tR r zf rn mkf mt jd fl i) (hok : ∀ r, r ∈ L → fl_ok r) (hrn : ∀ j, j < 576 → rn j < 2000) (x : Int32) : fl_bits x L 12 = rf_b zf rn mkf x L.length := by
  rw [← bt_lo hL htR hok hrn x L.length (Nat.le_refl _), ← bt_hi x (12 - L.length), show L.length + (12 - L.length) = 12 by omega]
set_option maxHeartbeats 4000000 in
theorem op_broken (a : FlA) (k : FlC) (m : FlM) (h : lI k m) (x : Int32) : opStep yX3_broken wsX3_broken 5 [.ref a.2.1.1, .int x] yX4_broken wsX4_broken 4 [.ref a.2.2.1, .int x] a k m := by
  have hh := h
  obtain ⟨⟨n, lv, mr, cr⟩, hf, ds, dt, L⟩ := k
  obtain ⟨⟨cH, cJ, cI, cZ⟩, ⟨f0, hs, c0, s0, sa, t0, ta⟩, m0, pz, pr, pm, pk, pj, pf, su, te, wh⟩ := a
  obtain ⟨⟨n2, lv2, mr2, cr2⟩, zf, rn, mkf, mt, jd, fl, es, et, ew⟩ := m
  obtain ⟨⟨rfl, rfl, rfl, rfl⟩, hn12, hLn, href, hok, hz, hrn, hlv, hmr, hcr, hfl, hun, htR⟩ := h
  have hans : fl_bits x L 12 = rf_b zf rn mkf x n2 := by rw [← hLn]; exact bt_all (by omega) htR hok hrn x
  refine ⟨Unit, Unit, 0, 0, _, fun _ => ((n2, lv2, mr2, cr2), hf, ds, dt, L), fun _ => ((n2, lv2, mr2, cr2), zf, rn, mkf, mt, jd, fl, es, et, ew), by omega, by omega, ⟨_, ?_, ?_, ?_, ?_, fun l dC dI sz m => fw_ofRi (S := Unit) (fw_ansR hans (c_fla_broken l dC dI f0 hs cH cI cZ (.ref c0) (.int (nI lv2)) (.int (nI mr2)) (.int (nI cr2)) n2 hf L x hn12 hLn href hok)) (fun q hq => List.mem_append_left _ (by rcases List.mem_append.mp hq with h9 | h9; exact List.mem_append_left _ ((List.sublist_append_left [_, _] _).mem h9); exact List.mem_append_right _ h9)) (fun q hq => by simp only [List.mem_cons, List.not_mem_nil, or_false] at hq ⊢; rcases hq with rfl | rfl | rfl <;> simp)⟩, ⟨_, ?_, ?_, ?_, ?_, fun l dC dI sz k => fw_ofWi (R := cW ((cH, cJ, cI, cZ), (f0, hs, c0, s0, sa, t0, ta), m0, pz, pr, pm, pk, pj, pf, su, te, wh) k) (c_ref_broken l dC dI m0 pz pr pm pk pj pf su te wh cI cJ cZ n2 lv2 mr2 cr2 zf rn mkf mt jd fl es et ew x sz hn12 hz hrn hlv hmr hcr) List.perm_append_comm (fun q hq => by simp only [List.mem_cons, List.not_mem_nil, or_false] at hq ⊢; rcases hq with rfl | rfl | rfl <;> simp) (fun u => List.perm_append_comm)⟩, fun _ _ => hh⟩
  any_goals first | rfl | exact Nat.le_of_ble_eq_true rfl
