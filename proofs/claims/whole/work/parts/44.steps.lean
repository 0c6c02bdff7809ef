theorem st_run_no (a : FlA) (k : FlC) (m : FlM) (h : lI k m) (x y z : Int32) (hno : fv_no k.1.1 x) : cStep (S := Unit) yX3_run wsX3_run 5 0 0 [.ref a.2.1.1, .int x, .int y, .int z] a k 0 (fun _ => k) ∧ mStep (S := Unit) yX4_run wsX4_run 4 0 0 [.ref a.2.2.1, .int x, .int y, .int z] a m 0 (fun _ => m) := by
  obtain ⟨⟨cH, cJ, cI, cZ⟩, ⟨f0, hs, c0, s0, sa, t0, ta⟩, m0, pz, pr, pm, pk, pj, pf, su, te, wh⟩ := a
  obtain ⟨⟨n, lv, mr, cr⟩, hf, ds, dt, L⟩ := k
  obtain ⟨⟨n2, lv2, mr2, cr2⟩, zf, rn, mkf, mt, jd, fl, es, et, ew⟩ := m
  obtain ⟨⟨rfl, rfl, rfl, rfl⟩, hn12, hLn, href, hok, hz, hrn, hlv, hmr, hcr, hfl, hun, htR⟩ := h
  refine ⟨⟨_, ?_, ?_, ?_, ?_, fun l dC dI sz m => fw_ofRi (S := Unit) (c_fla_run_no l dC dI f0 hs cH (.ref c0) (.int (nI lv2)) (.int (nI mr2)) (.int (nI cr2)) n2 hf x y z hn12 hno) (fun q hq => List.mem_append_left _ (List.mem_append_left _ ((List.sublist_append_left [_, _] _).mem hq))) (fun q hq => (List.sublist_append_left [_] _).mem hq)⟩, ⟨_, ?_, ?_, ?_, ?_, fun l dC dI sz k => fw_ofWi (R := cW ((cH, cJ, cI, cZ), (f0, hs, c0, s0, sa, t0, ta), m0, pz, pr, pm, pk, pj, pf, su, te, wh) k) (c_ref_run_no l dC dI m0 pz pr pm pk pj pf su te wh cI cJ cZ n2 lv2 mr2 cr2 zf rn mkf mt jd fl es et ew x y z sz (by rw [fv_te_no hno]; rfl)) List.perm_append_comm (fun q hq => by simp only [List.mem_cons, List.not_mem_nil, or_false] at hq ⊢; rcases hq with rfl | rfl | rfl <;> simp) (fun u => List.perm_append_comm)⟩⟩ <;> first | rfl | exact Nat.le_of_ble_eq_true rfl
theorem st_judge_no (a : FlA) (k : FlC) (m : FlM) (h : lI k m) (x y z : Int32) (hno : fv_no k.1.1 x) : cStep (S := Unit) yX3_judge wsX3_judge 6 0 0 [.ref a.2.1.1, .int x, .int y, .int z] a k (-1) (fun _ => k) ∧ mStep (S := Unit) yX4_judge wsX4_judge 8 0 0 [.ref a.2.2.1, .int x, .int y, .int z] a m (-1) (fun _ => m) := by
  obtain ⟨⟨cH, cJ, cI, cZ⟩, ⟨f0, hs, c0, s0, sa, t0, ta⟩, m0, pz, pr, pm, pk, pj, pf, su, te, wh⟩ := a
  obtain ⟨⟨n, lv, mr, cr⟩, hf, ds, dt, L⟩ := k
  obtain ⟨⟨n2, lv2, mr2, cr2⟩, zf, rn, mkf, mt, jd, fl, es, et, ew⟩ := m
  obtain ⟨⟨rfl, rfl, rfl, rfl⟩, hn12, hLn, href, hok, hz, hrn, hlv, hmr, hcr, hfl, hun, htR⟩ := h
  refine ⟨⟨_, ?_, ?_, ?_, ?_, fun l dC dI sz m => fw_ofRi (S := Unit) (c_fla_judge_no l dC dI f0 hs cH (.ref c0) (.int (nI lv2)) (.int (nI mr2)) (.int (nI cr2)) n2 hf x y z hn12 hno) (fun q hq => List.mem_append_left _ (List.mem_append_left _ ((List.sublist_append_left [_, _] _).mem hq))) (fun q hq => (List.sublist_append_left [_] _).mem hq)⟩, ⟨_, ?_, ?_, ?_, ?_, fun l dC dI sz k => fw_ofWi (R := cW ((cH, cJ, cI, cZ), (f0, hs, c0, s0, sa, t0, ta), m0, pz, pr, pm, pk, pj, pf, su, te, wh) k) (c_ref_judge_no l dC dI m0 pz pr pm pk pj pf su te wh cI cJ cZ n2 lv2 mr2 cr2 zf rn mkf mt jd fl es et ew x y z sz (by rw [fv_te_no hno]; rfl)) List.perm_append_comm (fun q hq => by simp only [List.mem_cons, List.not_mem_nil, or_false] at hq ⊢; rcases hq with rfl | rfl | rfl <;> simp) (fun u => List.perm_append_comm)⟩⟩ <;> first | rfl | exact Nat.le_of_ble_eq_true rfl
theorem st_about_no (a : FlA) (k : FlC) (m : FlM) (h : lI k m) (x y : Int32) (hno : fv_no k.1.1 x) : cStep (S := Unit) yX3_about wsX3_about 4 0 0 [.ref a.2.1.1, .int x, .int y] a k (-1) (fun _ => k) ∧ mStep (S := Unit) yX4_about wsX4_about 3 0 0 [.ref a.2.2.1, .int x, .int y] a m (-1) (fun _ => m) := by
  obtain ⟨⟨cH, cJ, cI, cZ⟩, ⟨f0, hs, c0, s0, sa, t0, ta⟩, m0, pz, pr, pm, pk, pj, pf, su, te, wh⟩ := a
  obtain ⟨⟨n, lv, mr, cr⟩, hf, ds, dt, L⟩ := k
  obtain ⟨⟨n2, lv2, mr2, cr2⟩, zf, rn, mkf, mt, jd, fl, es, et, ew⟩ := m
  obtain ⟨⟨rfl, rfl, rfl, rfl⟩, hn12, hLn, href, hok, hz, hrn, hlv, hmr, hcr, hfl, hun, htR⟩ := h
  refine ⟨⟨_, ?_, ?_, ?_, ?_, fun l dC dI sz m => fw_ofRi (S := Unit) (c_fla_about_no l dC dI f0 hs cH (.ref c0) (.int (nI lv2)) (.int (nI mr2)) (.int (nI cr2)) n2 hf x y hn12 hno) (fun q hq => List.mem_append_left _ (List.mem_append_left _ ((List.sublist_append_left [_, _] _).mem hq))) (fun q hq => (List.sublist_append_left [_] _).mem hq)⟩, ⟨_, ?_, ?_, ?_, ?_, fun l dC dI sz k => fw_ofWi (R := cW ((cH, cJ, cI, cZ), (f0, hs, c0, s0, sa, t0, ta), m0, pz, pr, pm, pk, pj, pf, su, te, wh) k) (c_ref_about_no l dC dI m0 pz pr pm pk pj pf su te wh cI cJ cZ n2 lv2 mr2 cr2 zf rn mkf mt jd fl es et ew x y sz (fv_te_no hno)) List.perm_append_comm (fun q hq => by simp only [List.mem_cons, List.not_mem_nil, or_false] at hq ⊢; rcases hq with rfl | rfl | rfl <;> simp) (fun u => List.perm_append_comm)⟩⟩ <;> first | rfl | exact Nat.le_of_ble_eq_true rfl
theorem st_isBad_no (a : FlA) (k : FlC) (m : FlM) (h : lI k m) (x y : Int32) (hno : fv_no k.1.1 x) : cStep (S := Unit) yX3_isBad wsX3_isBad 4 0 0 [.ref a.2.1.1, .int x, .int y] a k 0 (fun _ => k) ∧ mStep (S := Unit) yX4_isBad wsX4_isBad 3 0 0 [.ref a.2.2.1, .int x, .int y] a m 0 (fun _ => m) := by
  obtain ⟨⟨cH, cJ, cI, cZ⟩, ⟨f0, hs, c0, s0, sa, t0, ta⟩, m0, pz, pr, pm, pk, pj, pf, su, te, wh⟩ := a
  obtain ⟨⟨n, lv, mr, cr⟩, hf, ds, dt, L⟩ := k
  obtain ⟨⟨n2, lv2, mr2, cr2⟩, zf, rn, mkf, mt, jd, fl, es, et, ew⟩ := m
  obtain ⟨⟨rfl, rfl, rfl, rfl⟩, hn12, hLn, href, hok, hz, hrn, hlv, hmr, hcr, hfl, hun, htR⟩ := h
  refine ⟨⟨_, ?_, ?_, ?_, ?_, fun l dC dI sz m => fw_ofRi (S := Unit) (c_fla_isBad_no l dC dI f0 hs cH (.ref c0) (.int (nI lv2)) (.int (nI mr2)) (.int (nI cr2)) n2 hf x y hn12 hno) (fun q hq => List.mem_append_left _ (List.mem_append_left _ ((List.sublist_append_left [_, _] _).mem hq))) (fun q hq => (List.sublist_append_left [_] _).mem hq)⟩, ⟨_, ?_, ?_, ?_, ?_, fun l dC dI sz k => fw_ofWi (R := cW ((cH, cJ, cI, cZ), (f0, hs, c0, s0, sa, t0, ta), m0, pz, pr, pm, pk, pj, pf, su, te, wh) k) (c_ref_isbad_no l dC dI m0 pz pr pm pk pj pf su te wh cI cJ cZ n2 lv2 mr2 cr2 zf rn mkf mt jd fl es et ew x y sz (by rw [fv_te_no hno]; rfl)) List.perm_append_comm (fun q hq => by simp only [List.mem_cons, List.not_mem_nil, or_false] at hq ⊢; rcases hq with rfl | rfl | rfl <;> simp) (fun u => List.perm_append_comm)⟩⟩ <;> first | rfl | exact Nat.le_of_ble_eq_true rfl
theorem st_bound_no (a : FlA) (k : FlC) (m : FlM) (h : lI k m) (x y z : Int32) (hno : fv_no k.1.1 x) : cStep (S := Unit) yX3_bound wsX3_bound 7 0 0 [.ref a.2.1.1, .int x, .int y, .int z] a k (-1) (fun _ => k) ∧ mStep (S := Unit) yX4_bound wsX4_bound 4 0 0 [.ref a.2.2.1, .int x, .int y, .int z] a m (-1) (fun _ => m) := by
  obtain ⟨⟨cH, cJ, cI, cZ⟩, ⟨f0, hs, c0, s0, sa, t0, ta⟩, m0, pz, pr, pm, pk, pj, pf, su, te, wh⟩ := a
  obtain ⟨⟨n, lv, mr, cr⟩, hf, ds, dt, L⟩ := k
  obtain ⟨⟨n2, lv2, mr2, cr2⟩, zf, rn, mkf, mt, jd, fl, es, et, ew⟩ := m
  obtain ⟨⟨rfl, rfl, rfl, rfl⟩, hn12, hLn, href, hok, hz, hrn, hlv, hmr, hcr, hfl, hun, htR⟩ := h
  refine ⟨⟨_, ?_, ?_, ?_, ?_, fun l dC dI sz m => fw_ofRi (S := Unit) (c_fla_bound_no l dC dI f0 hs cH (.ref c0) (.int (nI lv2)) (.int (nI mr2)) (.int (nI cr2)) n2 hf x y z hn12 hno) (fun q hq => List.mem_append_left _ (List.mem_append_left _ ((List.sublist_append_left [_, _] _).mem hq))) (fun q hq => (List.sublist_append_left [_] _).mem hq)⟩, ⟨_, ?_, ?_, ?_, ?_, fun l dC dI sz k => fw_ofWi (R := cW ((cH, cJ, cI, cZ), (f0, hs, c0, s0, sa, t0, ta), m0, pz, pr, pm, pk, pj, pf, su, te, wh) k) (c_ref_bound_no l dC dI m0 pz pr pm pk pj pf su te wh cI cJ cZ n2 lv2 mr2 cr2 zf rn mkf mt jd fl es et ew x y z sz (by rw [fv_te_no hno]; rfl)) List.perm_append_comm (fun q hq => by simp only [List.mem_cons, List.not_mem_nil, or_false] at hq ⊢; rcases hq with rfl | rfl | rfl <;> simp) (fun u => List.perm_append_comm)⟩⟩ <;> first | rfl | exact Nat.le_of_ble_eq_true rfl
theorem st_run_nl (a : FlA) (k : FlC) (m : FlM) (h : lI k m) (i : Nat) (r : FlR) (y z : Int32) (hLi : k.2.2.2.2[i]? = some r) (hnl : fv_ed y = false) : cStep (S := Unit) yX3_run wsX3_run 5 0 0 [.ref a.2.1.1, .int (nI i), .int y, .int z] a k 0 (fun _ => k) ∧ mStep (S := Unit) yX4_run wsX4_run 4 0 0 [.ref a.2.2.1, .int (nI i), .int y, .int z] a m 0 (fun _ => m) := by
  obtain ⟨⟨cH, cJ, cI, cZ⟩, ⟨f0, hs, c0, s0, sa, t0, ta⟩, m0, pz, pr, pm, pk, pj, pf, su, te, wh⟩ := a
  obtain ⟨⟨n, lv, mr, cr⟩, hf, ds, dt, L⟩ := k
  obtain ⟨⟨n2, lv2, mr2, cr2⟩, zf, rn, mkf, mt, jd, fl, es, et, ew⟩ := m
  obtain ⟨⟨rfl, rfl, rfl, rfl⟩, hn12, hLn, href, hok, hz, hrn, hlv, hmr, hcr, hfl, hun, htR⟩ := h
  obtain ⟨⟨h0, ea, pa⟩, ⟨s, o⟩, ⟨mk, tm⟩, ⟨je, jf⟩, e, b⟩ := r
  have hLi : L[i]? = some ((h0, ea, pa), (s, o), (mk, tm), (je, jf), e, b) := hLi
  have hin_ : i < n2 := by have := (List.getElem?_eq_some_iff.mp hLi).1; omega
  have hfi : hf i = some h0 := by rw [href i (by omega), hLi]; rfl
  have hok1 := hok _ (List.mem_of_getElem? hLi)
  have hs48 : s ≤ 48 := hok1.1
  have ho48 : o < 48 := hok1.2.1
  have hjf : jf ≤ 2 := hok1.2.2
  obtain ⟨hzs, hmk, htm, ho0, hring, hjudge⟩ := htR i _ hLi
  refine ⟨⟨_, ?_, ?_, ?_, ?_, fun l dC dI sz m => fw_ofRi (S := Unit) (c_fla_run_nl l dC dI f0 hs cH (.ref c0) (.int (nI lv2)) (.int (nI mr2)) (.int (nI cr2)) n2 hf i h0 y z hn12 hin_ hfi hnl) (fun q hq => List.mem_append_left _ (List.mem_append_left _ ((List.sublist_append_left [_, _] _).mem hq))) (fun q hq => (List.sublist_append_left [_] _).mem hq)⟩, ⟨_, ?_, ?_, ?_, ?_, fun l dC dI sz k => fw_ofWi (R := cW ((cH, cJ, cI, cZ), (f0, hs, c0, s0, sa, t0, ta), m0, pz, pr, pm, pk, pj, pf, su, te, wh) k) (c_ref_run_no l dC dI m0 pz pr pm pk pj pf su te wh cI cJ cZ n2 lv2 mr2 cr2 zf rn mkf mt jd fl es et ew (nI i) y z sz (by rw [hnl, Bool.and_false])) List.perm_append_comm (fun q hq => by simp only [List.mem_cons, List.not_mem_nil, or_false] at hq ⊢; rcases hq with rfl | rfl | rfl <;> simp) (fun u => List.perm_append_comm)⟩⟩ <;> first | rfl | exact Nat.le_of_ble_eq_true rfl
theorem st_judge_nl (a : FlA) (k : FlC) (m : FlM) (h : lI k m) (i : Nat) (r : FlR) (y z : Int32) (hLi : k.2.2.2.2[i]? = some r) (hnl : fv_ed y = false) : cStep (S := Unit) yX3_judge wsX3_judge 6 0 0 [.ref a.2.1.1, .int (nI i), .int y, .int z] a k (-1) (fun _ => k) ∧ mStep (S := Unit) yX4_judge wsX4_judge 8 0 0 [.ref a.2.2.1, .int (nI i), .int y, .int z] a m (-1) (fun _ => m) := by
  obtain ⟨⟨cH, cJ, cI, cZ⟩, ⟨f0, hs, c0, s0, sa, t0, ta⟩, m0, pz, pr, pm, pk, pj, pf, su, te, wh⟩ := a
  obtain ⟨⟨n, lv, mr, cr⟩, hf, ds, dt, L⟩ := k
  obtain ⟨⟨n2, lv2, mr2, cr2⟩, zf, rn, mkf, mt, jd, fl, es, et, ew⟩ := m
  obtain ⟨⟨rfl, rfl, rfl, rfl⟩, hn12, hLn, href, hok, hz, hrn, hlv, hmr, hcr, hfl, hun, htR⟩ := h
  obtain ⟨⟨h0, ea, pa⟩, ⟨s, o⟩, ⟨mk, tm⟩, ⟨je, jf⟩, e, b⟩ := r
  have hLi : L[i]? = some ((h0, ea, pa), (s, o), (mk, tm), (je, jf), e, b) := hLi
  have hin_ : i < n2 := by have := (List.getElem?_eq_some_iff.mp hLi).1; omega
  have hfi : hf i = some h0 := by rw [href i (by omega), hLi]; rfl
  have hok1 := hok _ (List.mem_of_getElem? hLi)
  have hs48 : s ≤ 48 := hok1.1
  have ho48 : o < 48 := hok1.2.1
  have hjf : jf ≤ 2 := hok1.2.2
  obtain ⟨hzs, hmk, htm, ho0, hring, hjudge⟩ := htR i _ hLi
  refine ⟨⟨_, ?_, ?_, ?_, ?_, fun l dC dI sz m => fw_ofRi (S := Unit) (c_fla_judge_nl l dC dI f0 hs cH (.ref c0) (.int (nI lv2)) (.int (nI mr2)) (.int (nI cr2)) n2 hf i h0 y z hn12 hin_ hfi hnl) (fun q hq => List.mem_append_left _ (List.mem_append_left _ ((List.sublist_append_left [_, _] _).mem hq))) (fun q hq => (List.sublist_append_left [_] _).mem hq)⟩, ⟨_, ?_, ?_, ?_, ?_, fun l dC dI sz k => fw_ofWi (R := cW ((cH, cJ, cI, cZ), (f0, hs, c0, s0, sa, t0, ta), m0, pz, pr, pm, pk, pj, pf, su, te, wh) k) (c_ref_judge_no l dC dI m0 pz pr pm pk pj pf su te wh cI cJ cZ n2 lv2 mr2 cr2 zf rn mkf mt jd fl es et ew (nI i) y z sz (by rw [hnl, Bool.and_false])) List.perm_append_comm (fun q hq => by simp only [List.mem_cons, List.not_mem_nil, or_false] at hq ⊢; rcases hq with rfl | rfl | rfl <;> simp) (fun u => List.perm_append_comm)⟩⟩ <;> first | rfl | exact Nat.le_of_ble_eq_true rfl
theorem st_bound_nl (a : FlA) (k : FlC) (m : FlM) (h : lI k m) (i : Nat) (r : FlR) (y z : Int32) (hLi : k.2.2.2.2[i]? = some r) (hnl : fv_lv y = false) : cStep (S := Unit) yX3_bound wsX3_bound 7 0 0 [.ref a.2.1.1, .int (nI i), .int y, .int z] a k (-1) (fun _ => k) ∧ mStep (S := Unit) yX4_bound wsX4_bound 4 0 0 [.ref a.2.2.1, .int (nI i), .int y, .int z] a m (-1) (fun _ => m) := by
  obtain ⟨⟨cH, cJ, cI, cZ⟩, ⟨f0, hs, c0, s0, sa, t0, ta⟩, m0, pz, pr, pm, pk, pj, pf, su, te, wh⟩ := a
  obtain ⟨⟨n, lv, mr, cr⟩, hf, ds, dt, L⟩ := k
  obtain ⟨⟨n2, lv2, mr2, cr2⟩, zf, rn, mkf, mt, jd, fl, es, et, ew⟩ := m
  obtain ⟨⟨rfl, rfl, rfl, rfl⟩, hn12, hLn, href, hok, hz, hrn, hlv, hmr, hcr, hfl, hun, htR⟩ := h
  obtain ⟨⟨h0, ea, pa⟩, ⟨s, o⟩, ⟨mk, tm⟩, ⟨je, jf⟩, e, b⟩ := r
  have hLi : L[i]? = some ((h0, ea, pa), (s, o), (mk, tm), (je, jf), e, b) := hLi
  have hin_ : i < n2 := by have := (List.getElem?_eq_some_iff.mp hLi).1; omega
  have hfi : hf i = some h0 := by rw [href i (by omega), hLi]; rfl
  have hok1 := hok _ (List.mem_of_getElem? hLi)
  have hs48 : s ≤ 48 := hok1.1
  have ho48 : o < 48 := hok1.2.1
  have hjf : jf ≤ 2 := hok1.2.2
  obtain ⟨hzs, hmk, htm, ho0, hring, hjudge⟩ := htR i _ hLi
  refine ⟨⟨_, ?_, ?_, ?_, ?_, fun l dC dI sz m => fw_ofRi (S := Unit) (c_fla_bound_nl l dC dI f0 hs cH (.ref c0) (.int (nI lv2)) (.int (nI mr2)) (.int (nI cr2)) n2 hf i h0 y z hn12 hin_ hfi hnl) (fun q hq => List.mem_append_left _ (List.mem_append_left _ ((List.sublist_append_left [_, _] _).mem hq))) (fun q hq => (List.sublist_append_left [_] _).mem hq)⟩, ⟨_, ?_, ?_, ?_, ?_, fun l dC dI sz k => fw_ofWi (R := cW ((cH, cJ, cI, cZ), (f0, hs, c0, s0, sa, t0, ta), m0, pz, pr, pm, pk, pj, pf, su, te, wh) k) (c_ref_bound_no l dC dI m0 pz pr pm pk pj pf su te wh cI cJ cZ n2 lv2 mr2 cr2 zf rn mkf mt jd fl es et ew (nI i) y z sz (by rw [hnl, Bool.and_false])) List.perm_append_comm (fun q hq => by simp only [List.mem_cons, List.not_mem_nil, or_false] at hq ⊢; rcases hq with rfl | rfl | rfl <;> simp) (fun u => List.perm_append_comm)⟩⟩ <;> first | rfl | exact Nat.le_of_ble_eq_true rfl
