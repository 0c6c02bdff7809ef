theorem pX2 {F C Co M c cs : va_W} (h : C.Perm ((c ++ cs) ++ Co)) : ((F ++ C) ++ M).Perm ((F ++ c) ++ (cs ++ Co ++ M)) := by
  have h1 := (h.append_left F).append_right M
  simp only [List.append_assoc, List.cons_append, List.nil_append] at h1 ⊢
  exact h1
set_option maxHeartbeats 4000000 in
theorem op_bound (a : FlA) (k : FlC) (m : FlM) (h : lI k m) (x y : Int32) (q : Bool) : opStep yX3_bound wsX3_bound 7 [.ref a.2.1.1, .int x, .int y, .int (zI q)] yX4_bound wsX4_bound 4 [.ref a.2.2.1, .int x, .int y, .int (zI q)] a k m := by
  rcases fv_no_or k.1.1 (by obtain ⟨⟨n, lv, mr, cr⟩, hf, ds, dt, L⟩ := k; obtain ⟨⟨n2, lv2, mr2, cr2⟩, zf, rn, mkf, mt, jd, fl, es, et, ew⟩ := m; have := h.2.1; show n < _; omega) x with hno | ⟨i, hi, rfl⟩
  · have h1 := st_bound_no a k m h x y (zI q) hno
    exact ⟨Unit, Unit, 0, 0, (-1), fun _ => k, fun _ => m, by omega, by omega, h1.1, h1.2, fun _ _ => h⟩
  · have hh := h
    obtain ⟨⟨n, lv, mr, cr⟩, hf, ds, dt, L⟩ := k
    obtain ⟨r, hLi⟩ := lI_get h hi
    cases hlvl : fv_lv y with
    | false =>
      have h1 := st_bound_nl a _ m h i r y (zI q) hLi hlvl
      exact ⟨Unit, Unit, 0, 0, (-1), fun _ => _, fun _ => m, by omega, by omega, h1.1, h1.2, fun _ _ => h⟩
    | true =>
      obtain ⟨lw, hl1, hl9, rfl⟩ := fv_lv_iff hlvl
      obtain ⟨⟨cH, cJ, cI, cZ⟩, ⟨f0, hs, c0, s0, sa, t0, ta⟩, m0, pz, pr, pm, pk, pj, pf, su, te, wh⟩ := a
      obtain ⟨⟨n2, lv2, mr2, cr2⟩, zf, rn, mkf, mt, jd, fl, es, et, ew⟩ := m
      obtain ⟨⟨rfl, rfl, rfl, rfl⟩, hn12, hLn, href, hok, hz, hrn, hlv, hmr, hcr, hfl, hun, htR⟩ := h
      obtain ⟨⟨h0, ea, pa⟩, ⟨s, o⟩, ⟨mkd, tm⟩, ⟨je, jf⟩, e, b⟩ := r
      have hin_ : i < n2 := hi
      have hfi : hf i = some h0 := by rw [href i (by omega), hLi]; rfl
      have hok1 := hok _ (List.mem_of_getElem? hLi)
      have hs48 : s ≤ 48 := hok1.1
      have ho48 : o < 48 := hok1.2.1
      have hjf : jf ≤ 2 := hok1.2.2
      obtain ⟨hzs, hmk, htm, ho0, hring, hjudge⟩ := htR i _ hLi
      have hil := (List.getElem?_eq_some_iff.mp hLi).1
      have htie := hv_perm (hv_rot hs48 ho48 ho0 hring)
      have hN1 : hv_N e b s s = rN zf rn i := by unfold rN; rw [← hzs]; exact htie.1.symm
      have hX1 : hv_X e b s s = rX zf rn i := by unfold rX; rw [← hzs]; exact htie.2.1.symm
      have hD1 : hv_D e b s s = rD zf rn i := by unfold rD; rw [← hzs]; exact htie.2.2.1.symm
      obtain ⟨J, hJ⟩ := gv_ex (rN zf rn i) (if q = true then rX zf rn i else rN zf rn i - rX zf rn i) lw hl9
      have hJ2 : gv_is (hv_N e b s s) (if q = true then hv_X e b s s else hv_N e b s s - hv_X e b s s) lw J := by rw [hN1, hX1]; exact hJ
      refine ⟨(Nat → Nat) × (Nat → Nat), (Nat → Nat) × (Nat → Nat) × (Nat → Nat), 0, 0, nI (if q = true then J else 1000 - J), fun u => ((n2, lv2, mr2, cr2), hf, u.1, u.2, L), fun v => ((n2, lv2, mr2, cr2), zf, rn, mkf, mt, jd, fl, v.1, v.2.1, v.2.2), by omega, by omega, ⟨_, ?_, ?_, ?_, ?_, fun l dC dI sz m => fw_ofWi (R := [(ea, .inl (cI, 48, .inl (e))), (pa, .inl (cZ, 48, .inl (fun j => zI (b j))))] ++ fl_cs cI cZ (L.take i ++ L.drop (i + 1)) ++ mW ((cH, cJ, cI, cZ), (f0, hs, c0, s0, sa, t0, ta), m0, pz, pr, pm, pk, pj, pf, su, te, wh) m) (fw_ansB hJ2 (c_fla_bound l dC dI f0 hs c0 s0 sa t0 ta h0 cH cJ (.int (nI lv2)) (.int (nI mr2)) (.int (nI cr2)) (.ref ea) (.ref pa) (.int (nI s)) (.int (nI o)) (.int (nI (hv_D e b s s))) (.int (zI mkd)) (.int (nI tm)) (.int je) (.int (nI jf)) ds dt n2 i hf (hv_N e b s s) (hv_X e b s s) lw q sz hn12 hin_ hfi (Nat.le_trans (hv_N_le _ _ _ _) hs48) (hv_X_le _ _ _ _) hl1 hl9)) (pX2 (c := [(h0, .inr (2, [.ref ea, .ref pa, .int (nI s), .int (nI o), .int (nI (hv_D e b s s)), .int (nI (hv_N e b s s)), .int (nI (hv_X e b s s)), .int (zI mkd), .int (nI tm), .int je, .int (nI jf)]))]) (cs := [(ea, .inl (cI, 48, .inl (e))), (pa, .inl (cZ, 48, .inl (fun j => zI (b j))))]) (fl_split hLi)) (fun q hq => (List.sublist_append_left [_, _] _).mem hq) (fun u => (pX2 (F := cF ((cH, cJ, cI, cZ), (f0, hs, c0, s0, sa, t0, ta), m0, pz, pr, pm, pk, pj, pf, su, te, wh) ((n2, lv2, mr2, cr2), hf, u.1, u.2, L)) (M := mW ((cH, cJ, cI, cZ), (f0, hs, c0, s0, sa, t0, ta), m0, pz, pr, pm, pk, pj, pf, su, te, wh) m) (c := [(h0, .inr (2, [.ref ea, .ref pa, .int (nI s), .int (nI o), .int (nI (hv_D e b s s)), .int (nI (hv_N e b s s)), .int (nI (hv_X e b s s)), .int (zI mkd), .int (nI tm), .int je, .int (nI jf)]))]) (cs := [(ea, .inl (cI, 48, .inl (e))), (pa, .inl (cZ, 48, .inl (fun j => zI (b j))))]) (fl_split hLi)).symm)⟩, ⟨_, ?_, ?_, ?_, ?_, fun l dC dI sz k => fw_ofWi (R := cW ((cH, cJ, cI, cZ), (f0, hs, c0, s0, sa, t0, ta), m0, pz, pr, pm, pk, pj, pf, su, te, wh) k) (fw_ansB hJ (c_ref_boundp l dC dI m0 pz pr pm pk pj pf su te wh cI cJ cZ n2 lv2 mr2 cr2 zf rn mkf mt jd fl es et ew i lw q sz hn12 hz hrn hlv hmr hcr hin_ hl1 hl9)) List.perm_append_comm (fun q hq => by simp only [List.mem_cons, List.not_mem_nil, or_false] at hq ⊢; rcases hq with rfl | rfl | rfl <;> simp) (fun u => List.perm_append_comm)⟩, fun u v => hh⟩
      any_goals first | rfl | exact Nat.le_of_ble_eq_true rfl
/-! share: a long answer -/
def cStepL {S : Type} (y : MethodName) (ws : List Cond) (mL mc ms : Nat) (av : List Value) (a : FlA) (k : FlC) (ans : Int64) (k' : S → FlC) : Prop :=
  ∃ rm : Room, rm.cells = mc ∧ rm.slots = ms ∧ rm.frames + 1 ≤ 9 ∧ 8 + (mL + 11) + rm.locals ≤ 348 ∧ ∀ (l : Launch) (dC : Nat → ClassId) (dI : Nat → Nat → Nat) (sz : Nat) (m : FlM), Met l y ws rm (va_Pc av (fw_pW (dC, dI) vwCl (cTy a) (cW a k ++ mW a m) sz)) (va_Ql (S := S) (fun r _ => r = ans) (fun u zt => fw_q (dC, dI) vwCl (cTy a) (va_A (cW a k ++ mW a m) sz) (cW a (k' u) ++ mW a m) zt) (va_A (cW a k ++ mW a m) sz)) mc ms (va_A (cW a k ++ mW a m) sz)
def mStepL {S : Type} (y : MethodName) (ws : List Cond) (mL mc ms : Nat) (av : List Value) (a : FlA) (m : FlM) (ans : Int64) (m' : S → FlM) : Prop :=
  ∃ rm : Room, rm.cells = mc ∧ rm.slots = ms ∧ rm.frames + 1 ≤ 9 ∧ 8 + (mL + 11) + rm.locals ≤ 348 ∧ ∀ (l : Launch) (dC : Nat → ClassId) (dI : Nat → Nat → Nat) (sz : Nat) (k : FlC), Met l y ws rm (va_Pc av (fw_pW (dC, dI) vwCl (cTy a) (cW a k ++ mW a m) sz)) (va_Ql (S := S) (fun r _ => r = ans) (fun u zt => fw_q (dC, dI) vwCl (cTy a) (va_A (cW a k ++ mW a m) sz) (cW a k ++ mW a (m' u)) zt) (va_A (cW a k ++ mW a m) sz)) mc ms (va_A (cW a k ++ mW a m) sz)
def opStepL (yC : MethodName) (wsC : List Cond) (mLC : Nat) (avC : List Value) (yM : MethodName) (wsM : List Cond) (mLM : Nat) (avM : List Value) (a : FlA) (k : FlC) (m : FlM) : Prop :=
  ∃ (S1 S2 : Type) (mc ms : Nat) (ans : Int64) (k' : S1 → FlC) (m' : S2 → FlM), mc ≤ 3 ∧ ms ≤ 107 ∧ cStepL yC wsC mLC mc ms avC a k ans k' ∧ mStepL yM wsM mLM 0 0 avM a m ans m' ∧ ∀ u v, lI (k' u) (m' v)
theorem fw_ansL {l : Launch} {y : MethodName} {ws : List Cond} {rm : Room} {P : Array Value → State → Prop} {mc ms : Nat} {free : Addr → Prop} {S : Type} {A1 A2 : Int64} {B : S → State → Prop} {A : Nat → Prop} (hA : A1 = A2) (h : Met l y ws rm P (va_Ql (fun r _ => r = A1) B A) mc ms free) : Met l y ws rm P (va_Ql (fun r _ => r = A2) B A) mc ms free := by rw [← hA]; exact h
theorem fv_g_iff {w : Int32} (h1 : ¬ w < 1) (h2 : ¬ 18 < w) : ∃ g : Nat, 1 ≤ g ∧ g ≤ 18 ∧ w = nI g := by
  have h3 : fv_lv w = true := by
    unfold fv_lv
    have h4 : ¬ 1000 ≤ w := fun h5 => h2 (Int32.lt_of_lt_of_le (by decide) h5)
    rw [decide_eq_false h1, decide_eq_false h4]
    rfl
  obtain ⟨g, hg1, hg9, rfl⟩ := fv_lv_iff h3
  refine ⟨g, hg1, ?_, rfl⟩
  by_cases hg : g ≤ 18
  · exact hg
  · exact absurd ((nI_ltI (by omega) (by omega)).mpr (show 18 < g by omega) : nI 18 < nI g) h2
set_option maxHeartbeats 4000000 in
theorem op_share (a : FlA) (k : FlC) (m : FlM) (h : lI k m) (x y : Int32) (q : Bool) (w : Int32) : opStepL yX3_share wsX3_share 7 [.ref a.2.1.1, .int x, .int y, .int (zI q), .int w] yX4_share wsX4_share 9 [.ref a.2.2.1, .int x, .int y, .int (zI q), .int w] a k m := by
  rcases fv_no_or k.1.1 (by obtain ⟨⟨n, lv, mr, cr⟩, hf, ds, dt, L⟩ := k; obtain ⟨⟨n2, lv2, mr2, cr2⟩, zf, rn, mkf, mt, jd, fl, es, et, ew⟩ := m; have := h.2.1; show n < _; omega) x with hno | ⟨i, hi, rfl⟩
  · have hh := h
    obtain ⟨⟨n, lv, mr, cr⟩, hf, ds, dt, L⟩ := k
    obtain ⟨⟨cH, cJ, cI, cZ⟩, ⟨f0, hs, c0, s0, sa, t0, ta⟩, m0, pz, pr, pm, pk, pj, pf, su, te, wh⟩ := a
    obtain ⟨⟨n2, lv2, mr2, cr2⟩, zf, rn, mkf, mt, jd, fl, es, et, ew⟩ := m
    obtain ⟨⟨rfl, rfl, rfl, rfl⟩, hn12, hLn, href, hok, hz, hrn, hlv, hmr, hcr, hfl, hun, htR⟩ := h
    refine ⟨Unit, Unit, 0, 0, (-1), fun _ => ((n2, lv2, mr2, cr2), hf, ds, dt, L), fun _ => ((n2, lv2, mr2, cr2), zf, rn, mkf, mt, jd, fl, es, et, ew), by omega, by omega, ⟨_, ?_, ?_, ?_, ?_, fun l dC dI sz m => fw_ofRl (S := Unit) (c_fla_share_no l dC dI f0 hs cH (.ref c0) (.int (nI lv2)) (.int (nI mr2)) (.int (nI cr2)) n2 hf x y (zI q) w hn12 hno) (fun q hq => List.mem_append_left _ (List.mem_append_left _ ((List.sublist_append_left [_, _] _).mem hq))) (fun q hq => (List.sublist_append_left [_] _).mem hq)⟩, ⟨_, ?_, ?_, ?_, ?_, fun l dC dI sz k => fw_ofWl (R := cW ((cH, cJ, cI, cZ), (f0, hs, c0, s0, sa, t0, ta), m0, pz, pr, pm, pk, pj, pf, su, te, wh) k) (c_ref_share_no l dC dI m0 pz pr pm pk pj pf su te wh cI cJ cZ n2 lv2 mr2 cr2 zf rn mkf mt jd fl es et ew x y (zI q) w sz (by rw [fv_te_no hno]; rfl)) List.perm_append_comm (fun q hq => by simp only [List.mem_cons, List.not_mem_nil, or_false] at hq ⊢; rcases hq with rfl | rfl | rfl <;> simp) (fun u => List.perm_append_comm)⟩, fun _ _ => hh⟩
    any_goals first | rfl | exact Nat.le_of_ble_eq_true rfl
  · have hh := h
    obtain ⟨⟨n, lv, mr, cr⟩, hf, ds, dt, L⟩ := k
    obtain ⟨r, hLi⟩ := lI_get h hi
    obtain ⟨⟨cH, cJ, cI, cZ⟩, ⟨f0, hs, c0, s0, sa, t0, ta⟩, m0, pz, pr, pm, pk, pj, pf, su, te, wh⟩ := a
    obtain ⟨⟨n2, lv2, mr2, cr2⟩, zf, rn, mkf, mt, jd, fl, es, et, ew⟩ := m
    obtain ⟨⟨rfl, rfl, rfl, rfl⟩, hn12, hLn, href, hok, hz, hrn, hlv, hmr, hcr, hfl, hun, htR⟩ := h
    obtain ⟨⟨h0, ea, pa⟩, ⟨s, o⟩, ⟨mkd, tm⟩, ⟨je, jf⟩, e, b⟩ := r
    have hin_ : i < n2 := hi
    have hfi : hf i = some h0 := by rw [href i (by omega), hLi]; rfl
    have hok1 := hok _ (List.mem_of_getElem? hLi)
    have hs48 : s ≤ 48 := hok1.1
    have ho48 : o < 48 := hok1.2.1
    have hjf : jf ≤ 2 := hok1.2.2
    obtain ⟨hzs, hmk, htm, ho0, hring, hjudge⟩ := htR i _ hLi
    have hil := (List.getElem?_eq_some_iff.mp hLi).1
    have htie := hv_perm (hv_rot hs48 ho48 ho0 hring)
    have hN1 : hv_N e b s s = rN zf rn i := by unfold rN; rw [← hzs]; exact htie.1.symm
    have hX1 : hv_X e b s s = rX zf rn i := by unfold rX; rw [← hzs]; exact htie.2.1.symm
    have hD1 : hv_D e b s s = rD zf rn i := by unfold rD; rw [← hzs]; exact htie.2.2.1.symm
    cases hok2 : (fv_sh y && !decide (w < 1) && !decide (18 < w)) with
    | false =>
      refine ⟨Unit, Unit, 0, 0, (-1), fun _ => ((n2, lv2, mr2, cr2), hf, ds, dt, L), fun _ => ((n2, lv2, mr2, cr2), zf, rn, mkf, mt, jd, fl, es, et, ew), by omega, by omega, ⟨_, ?_, ?_, ?_, ?_, fun l dC dI sz m => fw_ofRl (S := Unit) (c_fla_share_nl l dC dI f0 hs cH (.ref c0) (.int (nI lv2)) (.int (nI mr2)) (.int (nI cr2)) n2 hf i h0 y (zI q) w hn12 hin_ hfi hok2) (fun q hq => List.mem_append_left _ (List.mem_append_left _ ((List.sublist_append_left [_, _] _).mem hq))) (fun q hq => (List.sublist_append_left [_] _).mem hq)⟩, ⟨_, ?_, ?_, ?_, ?_, fun l dC dI sz k => fw_ofWl (R := cW ((cH, cJ, cI, cZ), (f0, hs, c0, s0, sa, t0, ta), m0, pz, pr, pm, pk, pj, pf, su, te, wh) k) (c_ref_share_no l dC dI m0 pz pr pm pk pj pf su te wh cI cJ cZ n2 lv2 mr2 cr2 zf rn mkf mt jd fl es et ew (nI i) y (zI q) w sz (by rw [hok2, Bool.and_false])) List.perm_append_comm (fun q hq => by simp only [List.mem_cons, List.not_mem_nil, or_false] at hq ⊢; rcases hq with rfl | rfl | rfl <;> simp) (fun u => List.perm_append_comm)⟩, fun _ _ => hh⟩
      any_goals first | rfl | exact Nat.le_of_ble_eq_true rfl
    | true =>
      simp only [Bool.and_eq_true, Bool.not_eq_true', decide_eq_false_iff_not] at hok2
      obtain ⟨j, hj, rfl⟩ := fv_sh_iff hok2.1.1
      obtain ⟨g, hg1, hg, rfl⟩ := fv_g_iff hok2.1.2 hok2.2
      have hans : lN ((pm_G (hv_N e b s s) (if q = true then j else 1000 - j) (hv_N e b s s) (if q = true then hv_X e b s s else hv_N e b s s - hv_X e b s s) * 1000 ^ (48 - hv_N e b s s)) / 1000000000 ^ 14 / 10 ^ (18 - g)) = lN (sg_v (sh_v q (rN zf rn i) (rX zf rn i) j) (3 * (rN zf rn i)) (g + 1)) := by
        rw [← hN1, ← hX1, ← sg_cut (V := sh_v q (hv_N e b s s) (hv_X e b s s) j) (Nat.le_trans (hv_N_le _ _ _ _) hs48) hg]
        unfold sh_v
        cases q <;> rfl
      refine ⟨(Nat → Nat) × (Nat → Nat), (Nat → Nat) × (Nat → Nat), 0, 0, _, fun u => ((n2, lv2, mr2, cr2), hf, u.1, u.2, L), fun v => ((n2, lv2, mr2, cr2), zf, rn, mkf, mt, jd, fl, v.1, v.2, ew), by omega, by omega, ⟨_, ?_, ?_, ?_, ?_, fun l dC dI sz m => fw_ofWl (R := [(ea, .inl (cI, 48, .inl (e))), (pa, .inl (cZ, 48, .inl (fun j => zI (b j))))] ++ fl_cs cI cZ (L.take i ++ L.drop (i + 1)) ++ mW ((cH, cJ, cI, cZ), (f0, hs, c0, s0, sa, t0, ta), m0, pz, pr, pm, pk, pj, pf, su, te, wh) m) (fw_ansL hans (c_fla_share l dC dI f0 hs c0 s0 sa t0 ta h0 cH cJ (.int (nI lv2)) (.int (nI mr2)) (.int (nI cr2)) (.ref ea) (.ref pa) (.int (nI s)) (.int (nI o)) (.int (nI (hv_D e b s s))) (.int (zI mkd)) (.int (nI tm)) (.int je) (.int (nI jf)) ds dt n2 i hf (hv_N e b s s) (hv_X e b s s) j g q sz hn12 hin_ hfi (Nat.le_trans (hv_N_le _ _ _ _) hs48) (hv_X_le _ _ _ _) hj hg1 hg)) (pX2 (c := [(h0, .inr (2, [.ref ea, .ref pa, .int (nI s), .int (nI o), .int (nI (hv_D e b s s)), .int (nI (hv_N e b s s)), .int (nI (hv_X e b s s)), .int (zI mkd), .int (nI tm), .int je, .int (nI jf)]))]) (cs := [(ea, .inl (cI, 48, .inl (e))), (pa, .inl (cZ, 48, .inl (fun j => zI (b j))))]) (fl_split hLi)) (fun q hq => (List.sublist_append_left [_, _] _).mem hq) (fun u => (pX2 (F := cF ((cH, cJ, cI, cZ), (f0, hs, c0, s0, sa, t0, ta), m0, pz, pr, pm, pk, pj, pf, su, te, wh) ((n2, lv2, mr2, cr2), hf, u.1, u.2, L)) (M := mW ((cH, cJ, cI, cZ), (f0, hs, c0, s0, sa, t0, ta), m0, pz, pr, pm, pk, pj, pf, su, te, wh) m) (c := [(h0, .inr (2, [.ref ea, .ref pa, .int (nI s), .int (nI o), .int (nI (hv_D e b s s)), .int (nI (hv_N e b s s)), .int (nI (hv_X e b s s)), .int (zI mkd), .int (nI tm), .int je, .int (nI jf)]))]) (cs := [(ea, .inl (cI, 48, .inl (e))), (pa, .inl (cZ, 48, .inl (fun j => zI (b j))))]) (fl_split hLi)).symm)⟩, ⟨_, ?_, ?_, ?_, ?_, fun l dC dI sz k => fw_ofWl (R := cW ((cH, cJ, cI, cZ), (f0, hs, c0, s0, sa, t0, ta), m0, pz, pr, pm, pk, pj, pf, su, te, wh) k) (c_ref_sharep l dC dI m0 pz pr pm pk pj pf su te wh cI cJ cZ n2 lv2 mr2 cr2 zf rn mkf mt jd fl es et ew i j g q sz hn12 hz hrn hlv hmr hcr hin_ hj hg1 hg) List.perm_append_comm (fun q hq => by simp only [List.mem_cons, List.not_mem_nil, or_false] at hq ⊢; rcases hq with rfl | rfl | rfl <;> simp) (fun u => List.perm_append_comm)⟩, fun u v => hh⟩
      any_goals first | rfl | exact Nat.le_of_ble_eq_true rfl
