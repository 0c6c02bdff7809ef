/-! the law's calls: over the whole world -/
theorem sw_cases (w : Int32) : w = 0 ∨ w = 1 ∨ w = 2 ∨ w = 3 ∨ w = 4 ∨ w = 5 ∨ w = 6 ∨ w = 7 ∨ w = 8 ∨ (w.toInt < 0 ∨ 8 < w.toInt) := by
  rcases pk_ix w (n := 9) (by decide) with q | q | ⟨j, hj, rfl⟩
  · rw [Int32.lt_iff_toInt_lt] at q
    exact Or.inr (Or.inr (Or.inr (Or.inr (Or.inr (Or.inr (Or.inr (Or.inr (Or.inr (Or.inl q)))))))))
  · rw [Int32.le_iff_toInt_le] at q
    have e0 : (nI 9).toInt = 9 := by decide
    exact Or.inr (Or.inr (Or.inr (Or.inr (Or.inr (Or.inr (Or.inr (Or.inr (Or.inr (Or.inr (by omega))))))))))
  · have : j = 0 ∨ j = 1 ∨ j = 2 ∨ j = 3 ∨ j = 4 ∨ j = 5 ∨ j = 6 ∨ j = 7 ∨ j = 8 := by omega
    rcases this with rfl | rfl | rfl | rfl | rfl | rfl | rfl | rfl | rfl
    · exact Or.inl rfl
    · exact Or.inr (Or.inl rfl)
    · exact Or.inr (Or.inr (Or.inl rfl))
    · exact Or.inr (Or.inr (Or.inr (Or.inl rfl)))
    · exact Or.inr (Or.inr (Or.inr (Or.inr (Or.inl rfl))))
    · exact Or.inr (Or.inr (Or.inr (Or.inr (Or.inr (Or.inl rfl)))))
    · exact Or.inr (Or.inr (Or.inr (Or.inr (Or.inr (Or.inr (Or.inl rfl))))))
    · exact Or.inr (Or.inr (Or.inr (Or.inr (Or.inr (Or.inr (Or.inr (Or.inl rfl)))))))
    · exact Or.inr (Or.inr (Or.inr (Or.inr (Or.inr (Or.inr (Or.inr (Or.inr (Or.inl rfl))))))))
theorem lw_at0 (a : FlA) (k : FlC) (mm : FlM) : ∃ (q0 : Nat) (fs : List Value), (cW a k ++ mW a mm)[q0]? = some (a.2.1.1, .inr (3, fs)) := by
  obtain ⟨⟨cH, cJ, cI, cZ⟩, ⟨f0, hs, c0, s0, sa, t0, ta⟩, m0, pz, pr, pm, pk, pj, pf, su, te, wh⟩ := a
  obtain ⟨⟨n, lv, mr, cr⟩, hf, ds, dt, L⟩ := k
  exact ⟨0, _, rfl⟩
theorem lw_at1 (a : FlA) (k : FlC) (mm : FlM) : ∃ (q0 : Nat) (fs : List Value), (cW a k ++ mW a mm)[q0]? = some (a.2.2.1, .inr (4, fs)) := by
  obtain ⟨⟨cH, cJ, cI, cZ⟩, ⟨f0, hs, c0, s0, sa, t0, ta⟩, m0, pz, pr, pm, pk, pj, pf, su, te, wh⟩ := a
  obtain ⟨⟨n2, lv2, mr2, cr2⟩, zf, rn, mkf, mt, jd, fl, es, et, ew⟩ := mm
  obtain ⟨i, hi⟩ := List.getElem?_of_mem (List.mem_append_right (cW ((cH, cJ, cI, cZ), (f0, hs, c0, s0, sa, t0, ta), m0, pz, pr, pm, pk, pj, pf, su, te, wh) k) (List.mem_of_getElem? (l := mW ((cH, cJ, cI, cZ), (f0, hs, c0, s0, sa, t0, ta), m0, pz, pr, pm, pk, pj, pf, su, te, wh) ((n2, lv2, mr2, cr2), zf, rn, mkf, mt, jd, fl, es, et, ew)) (i := 0) rfl))
  exact ⟨i, _, hi⟩
section LWC
variable {p : Program} {l : Launch} {e : Env} {s : State} {m : MethodId} {below : List Frame} {meth : Method} {c : Code} {b L : Nat} {xs : Nat → Int32} {dC : Nat → ClassId} {dI : Nat → Nat → Nat} {a : FlA}
variable {y : MethodName} {ws ws' : List Cond} {mL mc ms n idx : Nat} {As rest : List Value} {bytes : ByteArray} {ret9 : Option FieldType} {H : Heap} {locs : List Loc} {ce sl pc : Nat} {ls : Array Slot} {S : Type} {k : FlC} {mm : FlM} {k' : S → FlC} {m' : S → FlM}
theorem lw_cCi {ans : Int32} (hc : cStep (S := S) y ws mL mc ms (.ref a.2.1.1 :: As) a k ans k') (C0 : lw_At p s m meth c b L xs) (hN : fw_N s) (hK : va_K (dC, dI) vwCl (cTy a) s) (hg : GoodIn lw_tbl (wsV RL idx RX3 y ws)) (hw : ws = Cond.code y bytes mL ret9 :: ws') (hd : y.cls = RX3 ∧ y.cls ≠ "java/lang/invoke/MethodHandle" ∧ y.cls ≠ "java/lang/invoke/VarHandle" ∧ (parseMethodDescriptor y.desc).map (fun d => d.parameters.length) = some n) (hn : As.length = n) (hP : va_P (dC, dI) vwCl (cW a k ++ mW a mm) H) (hD : va_D (fun q : Nat => s.heap.size ≤ q) (cW a k ++ mW a mm)) (hS : va_S (fun q : Nat => s.heap.size ≤ q) s.heap H locs) (hl : ls.size = 4) (hr : (rest.map fun v => v.category).sum ≤ 8) (hf : ce + mc ≤ 600000 ∧ sl + ms ≤ 7302250) (hdg : decode code pc = .ok (.invokevirtual idx, 3))
    (kk : ∀ (u : S) (H1 : Heap) (locs1 : List Loc), va_P (dC, dI) vwCl (cW a (k' u) ++ mW a mm) H1 → va_D (fun q : Nat => s.heap.size ≤ q) (cW a (k' u) ++ mW a mm) → va_S (fun q : Nat => s.heap.size ≤ q) s.heap H1 locs1 → W p l e room_1 s m #[Value.ref b] below meth c H1 locs1 (ce + mc) (sl + ms) (lw_Z below #[Value.ref b] s) (F0 m (pc + 3) ls (.int ans :: rest))) : W p l e room_1 s m #[Value.ref b] below meth c H locs ce sl (lw_Z below #[Value.ref b] s) (F0 m pc ls (As.reverse ++ .ref a.2.1.1 :: rest)) := by
  obtain ⟨hx, hb, -, hml, hown, hts, -, -, -, -⟩ := C0
  have hown : s.vm.findClass RL = some m.cls := hown
  obtain ⟨rm, r1, r2, r3, r4, hM⟩ := hc
  obtain ⟨q0, fs, hq⟩ := lw_at0 a k mm
  have hA : ∀ q : Nat, s.heap.size ≤ q → (fun q : Nat => s.heap.size ≤ q) q := fun _ h => h
  have hF := fw_Fr (W0 := (cW a k ++ mW a mm)) (R := []) (by rw [List.append_nil]) hD hS hA
  refine va_calli (va_runV (As := As) (rest := rest) ⟨hx, hb, hml, hown, hts⟩ (hM l dC dI H.size mm) (cwV n hts hg hw r1 r2 hd ⟨r3, r4⟩) (fw_preVW hN hK hP hD (ci := 3) (q0 := q0) rfl hq) rfl hn hl rfl (lv_room hr) hdg hf) hS (fun q _ h => hF q h) hF (fun r u t H1 locs1 ht hvm hw1 hB hz1 hk1 hS1 => ?_)
  obtain ⟨hP1, hK1, hD1⟩ := hB
  rw [ht] at hP1
  subst hw1
  exact kk u H1 locs1 hP1 (hD1.weaken (fun _ q _ h => hF q.1 h)) hS1
theorem lw_cMi {ans : Int32} (hc : mStep (S := S) y ws mL mc ms (.ref a.2.2.1 :: As) a mm ans m') (C0 : lw_At p s m meth c b L xs) (hN : fw_N s) (hK : va_K (dC, dI) vwCl (cTy a) s) (hg : GoodIn lw_tbl (wsV RL idx RX4 y ws)) (hw : ws = Cond.code y bytes mL ret9 :: ws') (hd : y.cls = RX4 ∧ y.cls ≠ "java/lang/invoke/MethodHandle" ∧ y.cls ≠ "java/lang/invoke/VarHandle" ∧ (parseMethodDescriptor y.desc).map (fun d => d.parameters.length) = some n) (hn : As.length = n) (hP : va_P (dC, dI) vwCl (cW a k ++ mW a mm) H) (hD : va_D (fun q : Nat => s.heap.size ≤ q) (cW a k ++ mW a mm)) (hS : va_S (fun q : Nat => s.heap.size ≤ q) s.heap H locs) (hl : ls.size = 4) (hr : (rest.map fun v => v.category).sum ≤ 8) (hf : ce + mc ≤ 600000 ∧ sl + ms ≤ 7302250) (hdg : decode code pc = .ok (.invokevirtual idx, 3))
    (kk : ∀ (u : S) (H1 : Heap) (locs1 : List Loc), va_P (dC, dI) vwCl (cW a k ++ mW a (m' u)) H1 → va_D (fun q : Nat => s.heap.size ≤ q) (cW a k ++ mW a (m' u)) → va_S (fun q : Nat => s.heap.size ≤ q) s.heap H1 locs1 → W p l e room_1 s m #[Value.ref b] below meth c H1 locs1 (ce + mc) (sl + ms) (lw_Z below #[Value.ref b] s) (F0 m (pc + 3) ls (.int ans :: rest))) : W p l e room_1 s m #[Value.ref b] below meth c H locs ce sl (lw_Z below #[Value.ref b] s) (F0 m pc ls (As.reverse ++ .ref a.2.2.1 :: rest)) := by
  obtain ⟨hx, hb, -, hml, hown, hts, -, -, -, -⟩ := C0
  have hown : s.vm.findClass RL = some m.cls := hown
  obtain ⟨rm, r1, r2, r3, r4, hM⟩ := hc
  obtain ⟨q0, fs, hq⟩ := lw_at1 a k mm
  have hA : ∀ q : Nat, s.heap.size ≤ q → (fun q : Nat => s.heap.size ≤ q) q := fun _ h => h
  have hF := fw_Fr (W0 := (cW a k ++ mW a mm)) (R := []) (by rw [List.append_nil]) hD hS hA
  refine va_calli (va_runV (As := As) (rest := rest) ⟨hx, hb, hml, hown, hts⟩ (hM l dC dI H.size k) (cwV n hts hg hw r1 r2 hd ⟨r3, r4⟩) (fw_preVW hN hK hP hD (ci := 4) (q0 := q0) rfl hq) rfl hn hl rfl (lv_room hr) hdg hf) hS (fun q _ h => hF q h) hF (fun r u t H1 locs1 ht hvm hw1 hB hz1 hk1 hS1 => ?_)
  obtain ⟨hP1, hK1, hD1⟩ := hB
  rw [ht] at hP1
  subst hw1
  exact kk u H1 locs1 hP1 (hD1.weaken (fun _ q _ h => hF q.1 h)) hS1
theorem lw_cCl {ans : Int64} (hc : cStepL (S := S) y ws mL mc ms (.ref a.2.1.1 :: As) a k ans k') (C0 : lw_At p s m meth c b L xs) (hN : fw_N s) (hK : va_K (dC, dI) vwCl (cTy a) s) (hg : GoodIn lw_tbl (wsV RL idx RX3 y ws)) (hw : ws = Cond.code y bytes mL ret9 :: ws') (hd : y.cls = RX3 ∧ y.cls ≠ "java/lang/invoke/MethodHandle" ∧ y.cls ≠ "java/lang/invoke/VarHandle" ∧ (parseMethodDescriptor y.desc).map (fun d => d.parameters.length) = some n) (hn : As.length = n) (hP : va_P (dC, dI) vwCl (cW a k ++ mW a mm) H) (hD : va_D (fun q : Nat => s.heap.size ≤ q) (cW a k ++ mW a mm)) (hS : va_S (fun q : Nat => s.heap.size ≤ q) s.heap H locs) (hl : ls.size = 4) (hr : (rest.map fun v => v.category).sum ≤ 8) (hf : ce + mc ≤ 600000 ∧ sl + ms ≤ 7302250) (hdg : decode code pc = .ok (.invokevirtual idx, 3))
    (kk : ∀ (u : S) (H1 : Heap) (locs1 : List Loc), va_P (dC, dI) vwCl (cW a (k' u) ++ mW a mm) H1 → va_D (fun q : Nat => s.heap.size ≤ q) (cW a (k' u) ++ mW a mm) → va_S (fun q : Nat => s.heap.size ≤ q) s.heap H1 locs1 → W p l e room_1 s m #[Value.ref b] below meth c H1 locs1 (ce + mc) (sl + ms) (lw_Z below #[Value.ref b] s) (F0 m (pc + 3) ls (.long ans :: rest))) : W p l e room_1 s m #[Value.ref b] below meth c H locs ce sl (lw_Z below #[Value.ref b] s) (F0 m pc ls (As.reverse ++ .ref a.2.1.1 :: rest)) := by
  obtain ⟨hx, hb, -, hml, hown, hts, -, -, -, -⟩ := C0
  have hown : s.vm.findClass RL = some m.cls := hown
  obtain ⟨rm, r1, r2, r3, r4, hM⟩ := hc
  obtain ⟨q0, fs, hq⟩ := lw_at0 a k mm
  have hA : ∀ q : Nat, s.heap.size ≤ q → (fun q : Nat => s.heap.size ≤ q) q := fun _ h => h
  have hF := fw_Fr (W0 := (cW a k ++ mW a mm)) (R := []) (by rw [List.append_nil]) hD hS hA
  refine va_calll (va_runV (As := As) (rest := rest) ⟨hx, hb, hml, hown, hts⟩ (hM l dC dI H.size mm) (cwV n hts hg hw r1 r2 hd ⟨r3, r4⟩) (fw_preVW hN hK hP hD (ci := 3) (q0 := q0) rfl hq) rfl hn hl rfl (lv_room hr) hdg hf) hS (fun q _ h => hF q h) hF (fun r u t H1 locs1 ht hvm hw1 hB hz1 hk1 hS1 => ?_)
  obtain ⟨hP1, hK1, hD1⟩ := hB
  rw [ht] at hP1
  subst hw1
  exact kk u H1 locs1 hP1 (hD1.weaken (fun _ q _ h => hF q.1 h)) hS1
theorem lw_cMl {ans : Int64} (hc : mStepL (S := S) y ws mL mc ms (.ref a.2.2.1 :: As) a mm ans m') (C0 : lw_At p s m meth c b L xs) (hN : fw_N s) (hK : va_K (dC, dI) vwCl (cTy a) s) (hg : GoodIn lw_tbl (wsV RL idx RX4 y ws)) (hw : ws = Cond.code y bytes mL ret9 :: ws') (hd : y.cls = RX4 ∧ y.cls ≠ "java/lang/invoke/MethodHandle" ∧ y.cls ≠ "java/lang/invoke/VarHandle" ∧ (parseMethodDescriptor y.desc).map (fun d => d.parameters.length) = some n) (hn : As.length = n) (hP : va_P (dC, dI) vwCl (cW a k ++ mW a mm) H) (hD : va_D (fun q : Nat => s.heap.size ≤ q) (cW a k ++ mW a mm)) (hS : va_S (fun q : Nat => s.heap.size ≤ q) s.heap H locs) (hl : ls.size = 4) (hr : (rest.map fun v => v.category).sum ≤ 8) (hf : ce + mc ≤ 600000 ∧ sl + ms ≤ 7302250) (hdg : decode code pc = .ok (.invokevirtual idx, 3))
    (kk : ∀ (u : S) (H1 : Heap) (locs1 : List Loc), va_P (dC, dI) vwCl (cW a k ++ mW a (m' u)) H1 → va_D (fun q : Nat => s.heap.size ≤ q) (cW a k ++ mW a (m' u)) → va_S (fun q : Nat => s.heap.size ≤ q) s.heap H1 locs1 → W p l e room_1 s m #[Value.ref b] below meth c H1 locs1 (ce + mc) (sl + ms) (lw_Z below #[Value.ref b] s) (F0 m (pc + 3) ls (.long ans :: rest))) : W p l e room_1 s m #[Value.ref b] below meth c H locs ce sl (lw_Z below #[Value.ref b] s) (F0 m pc ls (As.reverse ++ .ref a.2.2.1 :: rest)) := by
  obtain ⟨hx, hb, -, hml, hown, hts, -, -, -, -⟩ := C0
  have hown : s.vm.findClass RL = some m.cls := hown
  obtain ⟨rm, r1, r2, r3, r4, hM⟩ := hc
  obtain ⟨q0, fs, hq⟩ := lw_at1 a k mm
  have hA : ∀ q : Nat, s.heap.size ≤ q → (fun q : Nat => s.heap.size ≤ q) q := fun _ h => h
  have hF := fw_Fr (W0 := (cW a k ++ mW a mm)) (R := []) (by rw [List.append_nil]) hD hS hA
  refine va_calll (va_runV (As := As) (rest := rest) ⟨hx, hb, hml, hown, hts⟩ (hM l dC dI H.size k) (cwV n hts hg hw r1 r2 hd ⟨r3, r4⟩) (fw_preVW hN hK hP hD (ci := 4) (q0 := q0) rfl hq) rfl hn hl rfl (lv_room hr) hdg hf) hS (fun q _ h => hF q h) hF (fun r u t H1 locs1 ht hvm hw1 hB hz1 hk1 hS1 => ?_)
  obtain ⟨hP1, hK1, hD1⟩ := hB
  rw [ht] at hP1
  subst hw1
  exact kk u H1 locs1 hP1 (hD1.weaken (fun _ q _ h => hF q.1 h)) hS1
end LWC
/-- at pc, with i ints read: on it goes -/
def lw_go (p : Program) (l : Launch) (e : Env) (s : State) (m : MethodId) (below : List Frame) (meth : Method) (c : Code) (b : Nat) (dC : Nat → ClassId) (dI : Nat → Nat → Nat) (a : FlA) (ce sl pc i : Nat) : Prop :=
  ∀ (k : FlC) (mm : FlM) (H : Heap) (locs : List Loc) (ls : Array Slot), lI k mm → va_P (dC, dI) vwCl (cW a k ++ mW a mm) H → va_D (fun q : Nat => s.heap.size ≤ q) (cW a k ++ mW a mm) → va_S (fun q : Nat => s.heap.size ≤ q) s.heap H locs → lv_has ls 4 [(0, .ref b), (1, .ref a.2.1.1), (2, .ref a.2.2.1), (3, .int (nI i))] → W p l e room_1 s m #[Value.ref b] below meth c H locs ce sl (lw_Z below #[Value.ref b] s) (F0 m pc ls [])
