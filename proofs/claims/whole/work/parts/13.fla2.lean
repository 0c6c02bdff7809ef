set_option maxHeartbeats 4000000 in
set_option maxRecDepth 100000 in
theorem c_fla_run_no (l : Launch) (dC : Nat → ClassId) (dI : Nat → Nat → Nat) (f0 hs : Nat) (cH : ClassId) (v1 v3 v4 v5 : Value) (n : Nat) (hf : Nat → Option Nat) (x y z : Int32) (hn12 : n ≤ 12) (hno : fv_no n x) : Met l yX3_run wsX3_run ({ frames := 1, cells := 0, slots := 0, locals := 21 } : Room) (va_Pc [.ref f0, .int x, .int y, .int z] (fw_pR (dC, dI) vwCl [(cH, .object RX2)] [(f0, .inr (3, [.ref hs, v1, .int (nI n), v3, v4, v5])), (hs, .inl (cH, 12, .inr (.inr (.inr (.inr (hf))))))])) (vp_Si (fun r => r = 0)) 0 0 (fun _ => False) := by
  refine fw_metR (cc := cX3_run) (maxL := 5) (ret := (some .boolean)) (by decide) rfl (Nat.le_of_ble_eq_true rfl) ?_
  intro zp ze zs zm zbelow zmeth zc ls hx hb hr hts hown hlocks hml hin hN hP hK hl
  have hown : zs.vm.findClass RX3 = some zm.cls := hown
  have hl : lv_has ls 5 [(0, .ref f0), (1, .int x), (2, .int y), (3, .int z)] := hl
  refine lv_aload_n hx hb dX3_run_0 rfl (lv_at hl 0 rfl) ?_
  refine lv_iload_n hx hb dX3_run_1 rfl (lv_at hl 1 rfl) ?_
  have hPc := hP.sub (ws' := [(f0, .inr (3, [.ref hs, v1, .int (nI n), v3, v4, v5])), (hs, .inl (cH, 12, .inr (.inr (.inr (.inr (hf))))))]) [0, 1] rfl
  have hKc := hK.sub (tys' := [(cH, .object RX2)]) [0] rfl
  refine va_csq (va_runV (As := [.int x]) (rest := []) ⟨hx, hb, hml, hown, hts⟩ (c_fla_find_no l dC dI f0 hs cH v1 v3 v4 v5 n hf x hn12 hno) (cwV 1 hts gX3_run_X3_find rfl rfl rfl (by decide +kernel) ⟨Nat.le_of_ble_eq_true rfl, Nat.le_of_ble_eq_true rfl⟩) (fw_preVR hN hKc hPc (ci := 3) (q0 := 0) rfl rfl) rfl rfl hl.1 rfl (lv_room (Nat.le_of_ble_eq_true rfl)) dX3_run_2 ⟨Nat.le_of_ble_eq_true rfl, Nat.le_of_ble_eq_true rfl⟩).run (fun r_2 hr_2 => ?_)
  obtain rfl : r_2 = none := hr_2
  refine W.eq (g2 := F0 zm 5 ls [.null]) rfl ?_
  refine lv_astoreN (lv' := [(4, .null), (0, .ref f0), (1, .int x), (2, .int y), (3, .int z)]) hx hb dX3_run_5 hl (by decide) rfl (fun ls hl => ?_)
  refine lv_aloadN hx hb dX3_run_7 (lv_at hl 0 rfl) ?_
  refine lv_ifnullN (tgt := 19) hx hb dX3_run_9 (by decide) ?_
  refine lv_iconst (v := 0) hx hb dX3_run_19 (by decide) ?_
  exact W.zret (v := 0) (ty := .boolean) hx hb hr rfl (fun zt zht _ => ⟨0, rfl, rfl, zht⟩) (fun q h => by cases h) dX3_run_20 hlocks
set_option maxHeartbeats 4000000 in
set_option maxRecDepth 100000 in
theorem c_fla_judge_no (l : Launch) (dC : Nat → ClassId) (dI : Nat → Nat → Nat) (f0 hs : Nat) (cH : ClassId) (v1 v3 v4 v5 : Value) (n : Nat) (hf : Nat → Option Nat) (x y z : Int32) (hn12 : n ≤ 12) (hno : fv_no n x) : Met l yX3_judge wsX3_judge ({ frames := 1, cells := 0, slots := 0, locals := 21 } : Room) (va_Pc [.ref f0, .int x, .int y, .int z] (fw_pR (dC, dI) vwCl [(cH, .object RX2)] [(f0, .inr (3, [.ref hs, v1, .int (nI n), v3, v4, v5])), (hs, .inl (cH, 12, .inr (.inr (.inr (.inr (hf))))))])) (vp_Si (fun r => r = (-1))) 0 0 (fun _ => False) := by
  refine fw_metR (cc := cX3_judge) (maxL := 6) (ret := (some .int)) (by decide) rfl (Nat.le_of_ble_eq_true rfl) ?_
  intro zp ze zs zm zbelow zmeth zc ls hx hb hr hts hown hlocks hml hin hN hP hK hl
  have hown : zs.vm.findClass RX3 = some zm.cls := hown
  have hl : lv_has ls 6 [(0, .ref f0), (1, .int x), (2, .int y), (3, .int z)] := hl
  refine lv_aload_n hx hb dX3_judge_0 rfl (lv_at hl 0 rfl) ?_
  refine lv_iload_n hx hb dX3_judge_1 rfl (lv_at hl 1 rfl) ?_
  have hPc := hP.sub (ws' := [(f0, .inr (3, [.ref hs, v1, .int (nI n), v3, v4, v5])), (hs, .inl (cH, 12, .inr (.inr (.inr (.inr (hf))))))]) [0, 1] rfl
  have hKc := hK.sub (tys' := [(cH, .object RX2)]) [0] rfl
  refine va_csq (va_runV (As := [.int x]) (rest := []) ⟨hx, hb, hml, hown, hts⟩ (c_fla_find_no l dC dI f0 hs cH v1 v3 v4 v5 n hf x hn12 hno) (cwV 1 hts gX3_judge_X3_find rfl rfl rfl (by decide +kernel) ⟨Nat.le_of_ble_eq_true rfl, Nat.le_of_ble_eq_true rfl⟩) (fw_preVR hN hKc hPc (ci := 3) (q0 := 0) rfl rfl) rfl rfl hl.1 rfl (lv_room (Nat.le_of_ble_eq_true rfl)) dX3_judge_2 ⟨Nat.le_of_ble_eq_true rfl, Nat.le_of_ble_eq_true rfl⟩).run (fun r_2 hr_2 => ?_)
  obtain rfl : r_2 = none := hr_2
  refine W.eq (g2 := F0 zm 5 ls [.null]) rfl ?_
  refine lv_astoreN (lv' := [(4, .null), (0, .ref f0), (1, .int x), (2, .int y), (3, .int z)]) hx hb dX3_judge_5 hl (by decide) rfl (fun ls hl => ?_)
  refine lv_aloadN hx hb dX3_judge_7 (lv_at hl 0 rfl) ?_
  refine lv_ifnullN (tgt := 19) hx hb dX3_judge_9 (by decide) ?_
  refine lv_iconst (v := (-1)) hx hb dX3_judge_19 (by decide) ?_
  exact W.iret (v := (-1)) hx hb hr (fun zt zht _ => ⟨(-1), rfl, rfl, zht⟩) (fun q h => by cases h) dX3_judge_20 hlocks
set_option maxHeartbeats 4000000 in
set_option maxRecDepth 100000 in
theorem c_fla_about_no (l : Launch) (dC : Nat → ClassId) (dI : Nat → Nat → Nat) (f0 hs : Nat) (cH : ClassId) (v1 v3 v4 v5 : Value) (n : Nat) (hf : Nat → Option Nat) (x y : Int32) (hn12 : n ≤ 12) (hno : fv_no n x) : Met l yX3_about wsX3_about ({ frames := 1, cells := 0, slots := 0, locals := 21 } : Room) (va_Pc [.ref f0, .int x, .int y] (fw_pR (dC, dI) vwCl [(cH, .object RX2)] [(f0, .inr (3, [.ref hs, v1, .int (nI n), v3, v4, v5])), (hs, .inl (cH, 12, .inr (.inr (.inr (.inr (hf))))))])) (vp_Si (fun r => r = (-1))) 0 0 (fun _ => False) := by
  refine fw_metR (cc := cX3_about) (maxL := 4) (ret := (some .int)) (by decide) rfl (Nat.le_of_ble_eq_true rfl) ?_
  intro zp ze zs zm zbelow zmeth zc ls hx hb hr hts hown hlocks hml hin hN hP hK hl
  have hown : zs.vm.findClass RX3 = some zm.cls := hown
  have hl : lv_has ls 4 [(0, .ref f0), (1, .int x), (2, .int y)] := hl
  refine lv_aload_n hx hb dX3_about_0 rfl (lv_at hl 0 rfl) ?_
  refine lv_iload_n hx hb dX3_about_1 rfl (lv_at hl 1 rfl) ?_
  have hPc := hP.sub (ws' := [(f0, .inr (3, [.ref hs, v1, .int (nI n), v3, v4, v5])), (hs, .inl (cH, 12, .inr (.inr (.inr (.inr (hf))))))]) [0, 1] rfl
  have hKc := hK.sub (tys' := [(cH, .object RX2)]) [0] rfl
  refine va_csq (va_runV (As := [.int x]) (rest := []) ⟨hx, hb, hml, hown, hts⟩ (c_fla_find_no l dC dI f0 hs cH v1 v3 v4 v5 n hf x hn12 hno) (cwV 1 hts gX3_about_X3_find rfl rfl rfl (by decide +kernel) ⟨Nat.le_of_ble_eq_true rfl, Nat.le_of_ble_eq_true rfl⟩) (fw_preVR hN hKc hPc (ci := 3) (q0 := 0) rfl rfl) rfl rfl hl.1 rfl (lv_room (Nat.le_of_ble_eq_true rfl)) dX3_about_2 ⟨Nat.le_of_ble_eq_true rfl, Nat.le_of_ble_eq_true rfl⟩).run (fun r_2 hr_2 => ?_)
  obtain rfl : r_2 = none := hr_2
  refine W.eq (g2 := F0 zm 5 ls [.null]) rfl ?_
  refine lv_astore_nN (lv' := [(3, .null), (0, .ref f0), (1, .int x), (2, .int y)]) hx hb dX3_about_5 rfl hl (by decide) rfl (fun ls hl => ?_)
  refine lv_aload_nN hx hb dX3_about_6 rfl (lv_at hl 0 rfl) ?_
  refine lv_ifnonnullN hx hb dX3_about_7 ?_
  refine lv_iconst (v := (-1)) hx hb dX3_about_10 (by decide) ?_
  exact W.iret (v := (-1)) hx hb hr (fun zt zht _ => ⟨(-1), rfl, rfl, zht⟩) (fun q h => by cases h) dX3_about_11 hlocks
set_option maxHeartbeats 4000000 in
set_option maxRecDepth 100000 in
theorem c_fla_bound_no (l : Launch) (dC : Nat → ClassId) (dI : Nat → Nat → Nat) (f0 hs : Nat) (cH : ClassId) (v1 v3 v4 v5 : Value) (n : Nat) (hf : Nat → Option Nat) (x y z : Int32) (hn12 : n ≤ 12) (hno : fv_no n x) : Met l yX3_bound wsX3_bound ({ frames := 1, cells := 0, slots := 0, locals := 21 } : Room) (va_Pc [.ref f0, .int x, .int y, .int z] (fw_pR (dC, dI) vwCl [(cH, .object RX2)] [(f0, .inr (3, [.ref hs, v1, .int (nI n), v3, v4, v5])), (hs, .inl (cH, 12, .inr (.inr (.inr (.inr (hf))))))])) (vp_Si (fun r => r = (-1))) 0 0 (fun _ => False) := by
  refine fw_metR (cc := cX3_bound) (maxL := 7) (ret := (some .int)) (by decide) rfl (Nat.le_of_ble_eq_true rfl) ?_
  intro zp ze zs zm zbelow zmeth zc ls hx hb hr hts hown hlocks hml hin hN hP hK hl
  have hown : zs.vm.findClass RX3 = some zm.cls := hown
  have hl : lv_has ls 7 [(0, .ref f0), (1, .int x), (2, .int y), (3, .int z)] := hl
  refine lv_aload_n hx hb dX3_bound_0 rfl (lv_at hl 0 rfl) ?_
  refine lv_iload_n hx hb dX3_bound_1 rfl (lv_at hl 1 rfl) ?_
  have hPc := hP.sub (ws' := [(f0, .inr (3, [.ref hs, v1, .int (nI n), v3, v4, v5])), (hs, .inl (cH, 12, .inr (.inr (.inr (.inr (hf))))))]) [0, 1] rfl
  have hKc := hK.sub (tys' := [(cH, .object RX2)]) [0] rfl
  refine va_csq (va_runV (As := [.int x]) (rest := []) ⟨hx, hb, hml, hown, hts⟩ (c_fla_find_no l dC dI f0 hs cH v1 v3 v4 v5 n hf x hn12 hno) (cwV 1 hts gX3_bound_X3_find rfl rfl rfl (by decide +kernel) ⟨Nat.le_of_ble_eq_true rfl, Nat.le_of_ble_eq_true rfl⟩) (fw_preVR hN hKc hPc (ci := 3) (q0 := 0) rfl rfl) rfl rfl hl.1 rfl (lv_room (Nat.le_of_ble_eq_true rfl)) dX3_bound_2 ⟨Nat.le_of_ble_eq_true rfl, Nat.le_of_ble_eq_true rfl⟩).run (fun r_2 hr_2 => ?_)
  obtain rfl : r_2 = none := hr_2
  refine W.eq (g2 := F0 zm 5 ls [.null]) rfl ?_
  refine lv_astoreN (lv' := [(4, .null), (0, .ref f0), (1, .int x), (2, .int y), (3, .int z)]) hx hb dX3_bound_5 hl (by decide) rfl (fun ls hl => ?_)
  refine lv_aloadN hx hb dX3_bound_7 (lv_at hl 0 rfl) ?_
  refine lv_ifnullN (tgt := 19) hx hb dX3_bound_9 (by decide) ?_
  refine lv_iconst (v := (-1)) hx hb dX3_bound_19 (by decide) ?_
  exact W.iret (v := (-1)) hx hb hr (fun zt zht _ => ⟨(-1), rfl, rfl, zht⟩) (fun q h => by cases h) dX3_bound_20 hlocks
set_option maxHeartbeats 4000000 in
set_option maxRecDepth 100000 in
theorem c_fla_share_no (l : Launch) (dC : Nat → ClassId) (dI : Nat → Nat → Nat) (f0 hs : Nat) (cH : ClassId) (v1 v3 v4 v5 : Value) (n : Nat) (hf : Nat → Option Nat) (x y z w : Int32) (hn12 : n ≤ 12) (hno : fv_no n x) : Met l yX3_share wsX3_share ({ frames := 1, cells := 0, slots := 0, locals := 21 } : Room) (va_Pc [.ref f0, .int x, .int y, .int z, .int w] (fw_pR (dC, dI) vwCl [(cH, .object RX2)] [(f0, .inr (3, [.ref hs, v1, .int (nI n), v3, v4, v5])), (hs, .inl (cH, 12, .inr (.inr (.inr (.inr (hf))))))])) (vp_Sl (fun r => r = (-1))) 0 0 (fun _ => False) := by
  refine fw_metR (cc := cX3_share) (maxL := 7) (ret := (some .long)) (by decide) rfl (Nat.le_of_ble_eq_true rfl) ?_
  intro zp ze zs zm zbelow zmeth zc ls hx hb hr hts hown hlocks hml hin hN hP hK hl
  have hown : zs.vm.findClass RX3 = some zm.cls := hown
  have hl : lv_has ls 7 [(0, .ref f0), (1, .int x), (2, .int y), (3, .int z), (4, .int w)] := hl
  refine lv_aload_n hx hb dX3_share_0 rfl (lv_at hl 0 rfl) ?_
  refine lv_iload_n hx hb dX3_share_1 rfl (lv_at hl 1 rfl) ?_
  have hPc := hP.sub (ws' := [(f0, .inr (3, [.ref hs, v1, .int (nI n), v3, v4, v5])), (hs, .inl (cH, 12, .inr (.inr (.inr (.inr (hf))))))]) [0, 1] rfl
  have hKc := hK.sub (tys' := [(cH, .object RX2)]) [0] rfl
  refine va_csq (va_runV (As := [.int x]) (rest := []) ⟨hx, hb, hml, hown, hts⟩ (c_fla_find_no l dC dI f0 hs cH v1 v3 v4 v5 n hf x hn12 hno) (cwV 1 hts gX3_share_X3_find rfl rfl rfl (by decide +kernel) ⟨Nat.le_of_ble_eq_true rfl, Nat.le_of_ble_eq_true rfl⟩) (fw_preVR hN hKc hPc (ci := 3) (q0 := 0) rfl rfl) rfl rfl hl.1 rfl (lv_room (Nat.le_of_ble_eq_true rfl)) dX3_share_2 ⟨Nat.le_of_ble_eq_true rfl, Nat.le_of_ble_eq_true rfl⟩).run (fun r_2 hr_2 => ?_)
  obtain rfl : r_2 = none := hr_2
  refine W.eq (g2 := F0 zm 5 ls [.null]) rfl ?_
  refine lv_astoreN (lv' := [(5, .null), (0, .ref f0), (1, .int x), (2, .int y), (3, .int z), (4, .int w)]) hx hb dX3_share_5 hl (by decide) rfl (fun ls hl => ?_)
  refine lv_aloadN hx hb dX3_share_7 (lv_at hl 0 rfl) ?_
  refine lv_ifnullN (tgt := 32) hx hb dX3_share_9 (by decide) ?_
  refine lv_ldc2 (v := (-1)) hx hb hown (hts (.constantLong RX3 81 (-1)) (by decide +kernel)) dX3_share_32 ?_
  exact W.lret (v := (-1)) hx hb hr (fun zt zht _ => ⟨(-1), rfl, rfl, zht⟩) (fun q h => by cases h) dX3_share_35 hlocks
set_option maxHeartbeats 4000000 in
set_option maxRecDepth 100000 in
theorem c_fla_isBad_no (l : Launch) (dC : Nat → ClassId) (dI : Nat → Nat → Nat) (f0 hs : Nat) (cH : ClassId) (v1 v3 v4 v5 : Value) (n : Nat) (hf : Nat → Option Nat) (x y : Int32) (hn12 : n ≤ 12) (hno : fv_no n x) : Met l yX3_isBad wsX3_isBad ({ frames := 1, cells := 0, slots := 0, locals := 21 } : Room) (va_Pc [.ref f0, .int x, .int y] (fw_pR (dC, dI) vwCl [(cH, .object RX2)] [(f0, .inr (3, [.ref hs, v1, .int (nI n), v3, v4, v5])), (hs, .inl (cH, 12, .inr (.inr (.inr (.inr (hf))))))])) (vp_Si (fun r => r = 0)) 0 0 (fun _ => False) := by
  refine fw_metR (cc := cX3_isBad) (maxL := 4) (ret := (some .boolean)) (by decide) rfl (Nat.le_of_ble_eq_true rfl) ?_
  intro zp ze zs zm zbelow zmeth zc ls hx hb hr hts hown hlocks hml hin hN hP hK hl
  have hown : zs.vm.findClass RX3 = some zm.cls := hown
  have hl : lv_has ls 4 [(0, .ref f0), (1, .int x), (2, .int y)] := hl
  refine lv_aload_n hx hb dX3_isBad_0 rfl (lv_at hl 0 rfl) ?_
  refine lv_iload_n hx hb dX3_isBad_1 rfl (lv_at hl 1 rfl) ?_
  have hPc := hP.sub (ws' := [(f0, .inr (3, [.ref hs, v1, .int (nI n), v3, v4, v5])), (hs, .inl (cH, 12, .inr (.inr (.inr (.inr (hf))))))]) [0, 1] rfl
  have hKc := hK.sub (tys' := [(cH, .object RX2)]) [0] rfl
  refine va_csq (va_runV (As := [.int x]) (rest := []) ⟨hx, hb, hml, hown, hts⟩ (c_fla_find_no l dC dI f0 hs cH v1 v3 v4 v5 n hf x hn12 hno) (cwV 1 hts gX3_isBad_X3_find rfl rfl rfl (by decide +kernel) ⟨Nat.le_of_ble_eq_true rfl, Nat.le_of_ble_eq_true rfl⟩) (fw_preVR hN hKc hPc (ci := 3) (q0 := 0) rfl rfl) rfl rfl hl.1 rfl (lv_room (Nat.le_of_ble_eq_true rfl)) dX3_isBad_2 ⟨Nat.le_of_ble_eq_true rfl, Nat.le_of_ble_eq_true rfl⟩).run (fun r_2 hr_2 => ?_)
  obtain rfl : r_2 = none := hr_2
  refine W.eq (g2 := F0 zm 5 ls [.null]) rfl ?_
  refine lv_astore_nN (lv' := [(3, .null), (0, .ref f0), (1, .int x), (2, .int y)]) hx hb dX3_isBad_5 rfl hl (by decide) rfl (fun ls hl => ?_)
  refine lv_aload_nN hx hb dX3_isBad_6 rfl (lv_at hl 0 rfl) ?_
  refine lv_ifnullN (tgt := 22) hx hb dX3_isBad_7 (by decide) ?_
  refine lv_iconst (v := 0) hx hb dX3_isBad_22 (by decide) ?_
  exact W.zret (v := 0) (ty := .boolean) hx hb hr rfl (fun zt zht _ => ⟨0, rfl, rfl, zht⟩) (fun q h => by cases h) dX3_isBad_23 hlocks
set_option maxHeartbeats 4000000 in
set_option maxRecDepth 100000 in
theorem c_fla_run_nl (l : Launch) (dC : Nat → ClassId) (dI : Nat → Nat → Nat) (f0 hs : Nat) (cH : ClassId) (v1 v3 v4 v5 : Value) (n : Nat) (hf : Nat → Option Nat) (i h0 : Nat) (y z : Int32) (hn12 : n ≤ 12) (hin_ : i < n) (hfi : hf i = some h0) (hnl : fv_ed y = false) : Met l yX3_run wsX3_run ({ frames := 1, cells := 0, slots := 0, locals := 21 } : Room) (va_Pc [.ref f0, .int (nI i), .int y, .int z] (fw_pR (dC, dI) vwCl [(cH, .object RX2)] [(f0, .inr (3, [.ref hs, v1, .int (nI n), v3, v4, v5])), (hs, .inl (cH, 12, .inr (.inr (.inr (.inr (hf))))))])) (vp_Si (fun r => r = 0)) 0 0 (fun _ => False) := by
  refine fw_metR (cc := cX3_run) (maxL := 5) (ret := (some .boolean)) (by decide) rfl (Nat.le_of_ble_eq_true rfl) ?_
  intro zp ze zs zm zbelow zmeth zc ls hx hb hr hts hown hlocks hml hin hN hP hK hl
  have hown : zs.vm.findClass RX3 = some zm.cls := hown
  have hl : lv_has ls 5 [(0, .ref f0), (1, .int (nI i)), (2, .int y), (3, .int z)] := hl
  refine lv_aload_n hx hb dX3_run_0 rfl (lv_at hl 0 rfl) ?_
  refine lv_iload_n hx hb dX3_run_1 rfl (lv_at hl 1 rfl) ?_
  have hPc := hP.sub (ws' := [(f0, .inr (3, [.ref hs, v1, .int (nI n), v3, v4, v5])), (hs, .inl (cH, 12, .inr (.inr (.inr (.inr (hf))))))]) [0, 1] rfl
  have hKc := hK.sub (tys' := [(cH, .object RX2)]) [0] rfl
  refine va_csq (va_runV (As := [.int (nI i)]) (rest := []) ⟨hx, hb, hml, hown, hts⟩ (c_fla_find l dC dI f0 hs cH v1 v3 v4 v5 n hf i h0 hn12 hin_ hfi) (cwV 1 hts gX3_run_X3_find rfl rfl rfl (by decide +kernel) ⟨Nat.le_of_ble_eq_true rfl, Nat.le_of_ble_eq_true rfl⟩) (fw_preVR hN hKc hPc (ci := 3) (q0 := 0) rfl rfl) rfl rfl hl.1 rfl (lv_room (Nat.le_of_ble_eq_true rfl)) dX3_run_2 ⟨Nat.le_of_ble_eq_true rfl, Nat.le_of_ble_eq_true rfl⟩).run (fun r_2 hr_2 => ?_)
  obtain rfl : r_2 = some h0 := hr_2
  refine W.eq (g2 := F0 zm 5 ls [.ref h0]) rfl ?_
  refine lv_astore (lv' := [(4, .ref h0), (0, .ref f0), (1, .int (nI i)), (2, .int y), (3, .int z)]) hx hb dX3_run_5 hl (by decide) rfl (fun ls hl => ?_)
  refine lv_aload hx hb dX3_run_7 (lv_at hl 0 rfl) ?_
  refine lv_ifnull hx hb dX3_run_9 ?_
  refine lv_iload_n hx hb dX3_run_12 rfl (lv_at hl 3 rfl) ?_
  have hPc := hP.sub (ws' := []) [] rfl
  have hKc := hK.sub (tys' := []) [] rfl
  refine vp_callSi (va_runS (As := [.int y]) (rest := []) ⟨hx, hb, hml, hown, hts⟩ (c_fla_isEdition l dC dI y) (va_cwS 1 hts gX3_run_X3_isEdition rfl rfl rfl (by decide +kernel) ⟨Nat.le_of_ble_eq_true rfl, Nat.le_of_ble_eq_true rfl⟩) (fw_preSR hN hKc hPc) rfl rfl hl.1 rfl (lv_room (Nat.le_of_ble_eq_true rfl)) dX3_run_13 ⟨Nat.le_of_ble_eq_true rfl, Nat.le_of_ble_eq_true rfl⟩).run (fun r_13 hr_13 => ?_)
  obtain rfl : r_13 = zI (fv_ed y) := hr_13
  refine lv_if_ne (tgt := 21) hx hb dX3_run_16 (by decide) (fun c_16 => absurd (by rw [hnl]; rfl) c_16) (fun _ => ?_)
  refine lv_iconst (v := 0) hx hb dX3_run_19 (by decide) ?_
  exact W.zret (v := 0) (ty := .boolean) hx hb hr rfl (fun zt zht _ => ⟨0, rfl, rfl, zht⟩) (fun q h => by cases h) dX3_run_20 hlocks
set_option maxHeartbeats 4000000 in
set_option maxRecDepth 100000 in
theorem c_fla_judge_nl (l : Launch) (dC : Nat → ClassId) (dI : Nat → Nat → Nat) (f0 hs : Nat) (cH : ClassId) (v1 v3 v4 v5 : Value) (n : Nat) (hf : Nat → Option Nat) (i h0 : Nat) (y z : Int32) (hn12 : n ≤ 12) (hin_ : i < n) (hfi : hf i = some h0) (hnl : fv_ed y = false) : Met l yX3_judge wsX3_judge ({ frames := 1, cells := 0, slots := 0, locals := 21 } : Room) (va_Pc [.ref f0, .int (nI i), .int y, .int z] (fw_pR (dC, dI) vwCl [(cH, .object RX2)] [(f0, .inr (3, [.ref hs, v1, .int (nI n), v3, v4, v5])), (hs, .inl (cH, 12, .inr (.inr (.inr (.inr (hf))))))])) (vp_Si (fun r => r = (-1))) 0 0 (fun _ => False) := by
  refine fw_metR (cc := cX3_judge) (maxL := 6) (ret := (some .int)) (by decide) rfl (Nat.le_of_ble_eq_true rfl) ?_
  intro zp ze zs zm zbelow zmeth zc ls hx hb hr hts hown hlocks hml hin hN hP hK hl
  have hown : zs.vm.findClass RX3 = some zm.cls := hown
  have hl : lv_has ls 6 [(0, .ref f0), (1, .int (nI i)), (2, .int y), (3, .int z)] := hl
  refine lv_aload_n hx hb dX3_judge_0 rfl (lv_at hl 0 rfl) ?_
  refine lv_iload_n hx hb dX3_judge_1 rfl (lv_at hl 1 rfl) ?_
  have hPc := hP.sub (ws' := [(f0, .inr (3, [.ref hs, v1, .int (nI n), v3, v4, v5])), (hs, .inl (cH, 12, .inr (.inr (.inr (.inr (hf))))))]) [0, 1] rfl
  have hKc := hK.sub (tys' := [(cH, .object RX2)]) [0] rfl
  refine va_csq (va_runV (As := [.int (nI i)]) (rest := []) ⟨hx, hb, hml, hown, hts⟩ (c_fla_find l dC dI f0 hs cH v1 v3 v4 v5 n hf i h0 hn12 hin_ hfi) (cwV 1 hts gX3_judge_X3_find rfl rfl rfl (by decide +kernel) ⟨Nat.le_of_ble_eq_true rfl, Nat.le_of_ble_eq_true rfl⟩) (fw_preVR hN hKc hPc (ci := 3) (q0 := 0) rfl rfl) rfl rfl hl.1 rfl (lv_room (Nat.le_of_ble_eq_true rfl)) dX3_judge_2 ⟨Nat.le_of_ble_eq_true rfl, Nat.le_of_ble_eq_true rfl⟩).run (fun r_2 hr_2 => ?_)
  obtain rfl : r_2 = some h0 := hr_2
  refine W.eq (g2 := F0 zm 5 ls [.ref h0]) rfl ?_
  refine lv_astore (lv' := [(4, .ref h0), (0, .ref f0), (1, .int (nI i)), (2, .int y), (3, .int z)]) hx hb dX3_judge_5 hl (by decide) rfl (fun ls hl => ?_)
  refine lv_aload hx hb dX3_judge_7 (lv_at hl 0 rfl) ?_
  refine lv_ifnull hx hb dX3_judge_9 ?_
  refine lv_iload_n hx hb dX3_judge_12 rfl (lv_at hl 3 rfl) ?_
  have hPc := hP.sub (ws' := []) [] rfl
  have hKc := hK.sub (tys' := []) [] rfl
  refine vp_callSi (va_runS (As := [.int y]) (rest := []) ⟨hx, hb, hml, hown, hts⟩ (c_fla_isEdition l dC dI y) (va_cwS 1 hts gX3_judge_X3_isEdition rfl rfl rfl (by decide +kernel) ⟨Nat.le_of_ble_eq_true rfl, Nat.le_of_ble_eq_true rfl⟩) (fw_preSR hN hKc hPc) rfl rfl hl.1 rfl (lv_room (Nat.le_of_ble_eq_true rfl)) dX3_judge_13 ⟨Nat.le_of_ble_eq_true rfl, Nat.le_of_ble_eq_true rfl⟩).run (fun r_13 hr_13 => ?_)
  obtain rfl : r_13 = zI (fv_ed y) := hr_13
  refine lv_if_ne (tgt := 21) hx hb dX3_judge_16 (by decide) (fun c_16 => absurd (by rw [hnl]; rfl) c_16) (fun _ => ?_)
  refine lv_iconst (v := (-1)) hx hb dX3_judge_19 (by decide) ?_
  exact W.iret (v := (-1)) hx hb hr (fun zt zht _ => ⟨(-1), rfl, rfl, zht⟩) (fun q h => by cases h) dX3_judge_20 hlocks
set_option maxHeartbeats 4000000 in
set_option maxRecDepth 100000 in
theorem c_fla_bound_nl (l : Launch) (dC : Nat → ClassId) (dI : Nat → Nat → Nat) (f0 hs : Nat) (cH : ClassId) (v1 v3 v4 v5 : Value) (n : Nat) (hf : Nat → Option Nat) (i h0 : Nat) (y z : Int32) (hn12 : n ≤ 12) (hin_ : i < n) (hfi : hf i = some h0) (hnl : fv_lv y = false) : Met l yX3_bound wsX3_bound ({ frames := 1, cells := 0, slots := 0, locals := 21 } : Room) (va_Pc [.ref f0, .int (nI i), .int y, .int z] (fw_pR (dC, dI) vwCl [(cH, .object RX2)] [(f0, .inr (3, [.ref hs, v1, .int (nI n), v3, v4, v5])), (hs, .inl (cH, 12, .inr (.inr (.inr (.inr (hf))))))])) (vp_Si (fun r => r = (-1))) 0 0 (fun _ => False) := by
  refine fw_metR (cc := cX3_bound) (maxL := 7) (ret := (some .int)) (by decide) rfl (Nat.le_of_ble_eq_true rfl) ?_
  intro zp ze zs zm zbelow zmeth zc ls hx hb hr hts hown hlocks hml hin hN hP hK hl
  have hown : zs.vm.findClass RX3 = some zm.cls := hown
  have hl : lv_has ls 7 [(0, .ref f0), (1, .int (nI i)), (2, .int y), (3, .int z)] := hl
  refine lv_aload_n hx hb dX3_bound_0 rfl (lv_at hl 0 rfl) ?_
  refine lv_iload_n hx hb dX3_bound_1 rfl (lv_at hl 1 rfl) ?_
  have hPc := hP.sub (ws' := [(f0, .inr (3, [.ref hs, v1, .int (nI n), v3, v4, v5])), (hs, .inl (cH, 12, .inr (.inr (.inr (.inr (hf))))))]) [0, 1] rfl
  have hKc := hK.sub (tys' := [(cH, .object RX2)]) [0] rfl
  refine va_csq (va_runV (As := [.int (nI i)]) (rest := []) ⟨hx, hb, hml, hown, hts⟩ (c_fla_find l dC dI f0 hs cH v1 v3 v4 v5 n hf i h0 hn12 hin_ hfi) (cwV 1 hts gX3_bound_X3_find rfl rfl rfl (by decide +kernel) ⟨Nat.le_of_ble_eq_true rfl, Nat.le_of_ble_eq_true rfl⟩) (fw_preVR hN hKc hPc (ci := 3) (q0 := 0) rfl rfl) rfl rfl hl.1 rfl (lv_room (Nat.le_of_ble_eq_true rfl)) dX3_bound_2 ⟨Nat.le_of_ble_eq_true rfl, Nat.le_of_ble_eq_true rfl⟩).run (fun r_2 hr_2 => ?_)
  obtain rfl : r_2 = some h0 := hr_2
  refine W.eq (g2 := F0 zm 5 ls [.ref h0]) rfl ?_
  refine lv_astore (lv' := [(4, .ref h0), (0, .ref f0), (1, .int (nI i)), (2, .int y), (3, .int z)]) hx hb dX3_bound_5 hl (by decide) rfl (fun ls hl => ?_)
  refine lv_aload hx hb dX3_bound_7 (lv_at hl 0 rfl) ?_
  refine lv_ifnull hx hb dX3_bound_9 ?_
  refine lv_iload_n hx hb dX3_bound_12 rfl (lv_at hl 3 rfl) ?_
  have hPc := hP.sub (ws' := []) [] rfl
  have hKc := hK.sub (tys' := []) [] rfl
  refine vp_callSi (va_runS (As := [.int y]) (rest := []) ⟨hx, hb, hml, hown, hts⟩ (c_fla_isLevel l dC dI y) (va_cwS 1 hts gX3_bound_X3_isLevel rfl rfl rfl (by decide +kernel) ⟨Nat.le_of_ble_eq_true rfl, Nat.le_of_ble_eq_true rfl⟩) (fw_preSR hN hKc hPc) rfl rfl hl.1 rfl (lv_room (Nat.le_of_ble_eq_true rfl)) dX3_bound_13 ⟨Nat.le_of_ble_eq_true rfl, Nat.le_of_ble_eq_true rfl⟩).run (fun r_13 hr_13 => ?_)
  obtain rfl : r_13 = zI (fv_lv y) := hr_13
  refine lv_if_ne (tgt := 21) hx hb dX3_bound_16 (by decide) (fun c_16 => absurd (by rw [hnl]; rfl) c_16) (fun _ => ?_)
  refine lv_iconst (v := (-1)) hx hb dX3_bound_19 (by decide) ?_
  exact W.iret (v := (-1)) hx hb hr (fun zt zht _ => ⟨(-1), rfl, rfl, zht⟩) (fun q h => by cases h) dX3_bound_20 hlocks
set_option maxHeartbeats 4000000 in
set_option maxRecDepth 100000 in
theorem c_fla_share_nl (l : Launch) (dC : Nat → ClassId) (dI : Nat → Nat → Nat) (f0 hs : Nat) (cH : ClassId) (v1 v3 v4 v5 : Value) (n : Nat) (hf : Nat → Option Nat) (i h0 : Nat) (y z w : Int32) (hn12 : n ≤ 12) (hin_ : i < n) (hfi : hf i = some h0) (hnl : (fv_sh y && !decide (w < 1) && !decide (18 < w)) = false) : Met l yX3_share wsX3_share ({ frames := 1, cells := 0, slots := 0, locals := 21 } : Room) (va_Pc [.ref f0, .int (nI i), .int y, .int z, .int w] (fw_pR (dC, dI) vwCl [(cH, .object RX2)] [(f0, .inr (3, [.ref hs, v1, .int (nI n), v3, v4, v5])), (hs, .inl (cH, 12, .inr (.inr (.inr (.inr (hf))))))])) (vp_Sl (fun r => r = (-1))) 0 0 (fun _ => False) := by
  refine fw_metR (cc := cX3_share) (maxL := 7) (ret := (some .long)) (by decide) rfl (Nat.le_of_ble_eq_true rfl) ?_
  intro zp ze zs zm zbelow zmeth zc ls hx hb hr hts hown hlocks hml hin hN hP hK hl
  have hown : zs.vm.findClass RX3 = some zm.cls := hown
  have hl : lv_has ls 7 [(0, .ref f0), (1, .int (nI i)), (2, .int y), (3, .int z), (4, .int w)] := hl
  refine lv_aload_n hx hb dX3_share_0 rfl (lv_at hl 0 rfl) ?_
  refine lv_iload_n hx hb dX3_share_1 rfl (lv_at hl 1 rfl) ?_
  have hPc := hP.sub (ws' := [(f0, .inr (3, [.ref hs, v1, .int (nI n), v3, v4, v5])), (hs, .inl (cH, 12, .inr (.inr (.inr (.inr (hf))))))]) [0, 1] rfl
  have hKc := hK.sub (tys' := [(cH, .object RX2)]) [0] rfl
  refine va_csq (va_runV (As := [.int (nI i)]) (rest := []) ⟨hx, hb, hml, hown, hts⟩ (c_fla_find l dC dI f0 hs cH v1 v3 v4 v5 n hf i h0 hn12 hin_ hfi) (cwV 1 hts gX3_share_X3_find rfl rfl rfl (by decide +kernel) ⟨Nat.le_of_ble_eq_true rfl, Nat.le_of_ble_eq_true rfl⟩) (fw_preVR hN hKc hPc (ci := 3) (q0 := 0) rfl rfl) rfl rfl hl.1 rfl (lv_room (Nat.le_of_ble_eq_true rfl)) dX3_share_2 ⟨Nat.le_of_ble_eq_true rfl, Nat.le_of_ble_eq_true rfl⟩).run (fun r_2 hr_2 => ?_)
  obtain rfl : r_2 = some h0 := hr_2
  refine W.eq (g2 := F0 zm 5 ls [.ref h0]) rfl ?_
  refine lv_astore (lv' := [(5, .ref h0), (0, .ref f0), (1, .int (nI i)), (2, .int y), (3, .int z), (4, .int w)]) hx hb dX3_share_5 hl (by decide) rfl (fun ls hl => ?_)
  refine lv_aload hx hb dX3_share_7 (lv_at hl 0 rfl) ?_
  refine lv_ifnull hx hb dX3_share_9 ?_
  refine lv_iload_n hx hb dX3_share_12 rfl (lv_at hl 3 rfl) ?_
  have hPc := hP.sub (ws' := []) [] rfl
  have hKc := hK.sub (tys' := []) [] rfl
  refine vp_callSi (va_runS (As := [.int y]) (rest := []) ⟨hx, hb, hml, hown, hts⟩ (c_fla_isShare l dC dI y) (va_cwS 1 hts gX3_share_X3_isShare rfl rfl rfl (by decide +kernel) ⟨Nat.le_of_ble_eq_true rfl, Nat.le_of_ble_eq_true rfl⟩) (fw_preSR hN hKc hPc) rfl rfl hl.1 rfl (lv_room (Nat.le_of_ble_eq_true rfl)) dX3_share_13 ⟨Nat.le_of_ble_eq_true rfl, Nat.le_of_ble_eq_true rfl⟩).run (fun r_13 hr_13 => ?_)
  obtain rfl : r_13 = zI (fv_sh y) := hr_13
  refine lv_if_eq (tgt := 32) hx hb dX3_share_16 (by decide) (fun c_16 => ?_) (fun c_16 => ?_)
  · -- then 16
    refine lv_ldc2 (v := (-1)) hx hb hown (hts (.constantLong RX3 81 (-1)) (by decide +kernel)) dX3_share_32 ?_
    exact W.lret (v := (-1)) hx hb hr (fun zt zht _ => ⟨(-1), rfl, rfl, zht⟩) (fun q h => by cases h) dX3_share_35 hlocks
  · -- else 16
    have h16 := zI_ne0.mp c_16
    refine lv_iload hx hb dX3_share_19 (lv_at hl 5 rfl) ?_
    refine lv_iconst (v := 1) hx hb dX3_share_21 (by decide) ?_
    refine lv_icmp_lt (tgt := 32) hx hb dX3_share_22 (by decide) (fun c_22 => ?_) (fun c_22 => ?_)
    · -- then 22
      refine lv_ldc2 (v := (-1)) hx hb hown (hts (.constantLong RX3 81 (-1)) (by decide +kernel)) dX3_share_32 ?_
      exact W.lret (v := (-1)) hx hb hr (fun zt zht _ => ⟨(-1), rfl, rfl, zht⟩) (fun q h => by cases h) dX3_share_35 hlocks
    · -- else 22
      refine lv_iload hx hb dX3_share_25 (lv_at hl 5 rfl) ?_
      refine lv_bipush (v := 18) hx hb dX3_share_27 (by decide) ?_
      refine lv_icmp_le (tgt := 36) hx hb dX3_share_29 (by decide) (fun c_29 => ?_) (fun c_29 => ?_)
      · -- then 29
        rw [h16, decide_eq_false c_22, decide_eq_false (show ¬ 18 < w from fun q9 => absurd c_29 (Int32.not_le.mpr q9))] at hnl
        cases hnl
      · -- else 29
        refine lv_ldc2 (v := (-1)) hx hb hown (hts (.constantLong RX3 81 (-1)) (by decide +kernel)) dX3_share_32 ?_
        exact W.lret (v := (-1)) hx hb hr (fun zt zht _ => ⟨(-1), rfl, rfl, zht⟩) (fun q h => by cases h) dX3_share_35 hlocks
set_option maxHeartbeats 4000000 in
set_option maxRecDepth 100000 in
theorem c_fla_about (l : Launch) (dC : Nat → ClassId) (dI : Nat → Nat → Nat) (f0 hs : Nat) (cH : ClassId) (v1 v3 v4 v5 : Value) (n : Nat) (hf : Nat → Option Nat) (i h0 : Nat) (w0 w1 w3 w9 w10 : Value) (s d N X tm : Nat) (mk : Bool) (y : Int32) (hn12 : n ≤ 12) (hin_ : i < n) (hfi : hf i = some h0) : Met l yX3_about wsX3_about ({ frames := 1, cells := 0, slots := 0, locals := 21 } : Room) (va_Pc [.ref f0, .int (nI i), .int y] (fw_pR (dC, dI) vwCl [(cH, .object RX2)] [(f0, .inr (3, [.ref hs, v1, .int (nI n), v3, v4, v5])), (hs, .inl (cH, 12, .inr (.inr (.inr (.inr (hf)))))), (h0, .inr (2, [w0, w1, .int (nI s), w3, .int (nI d), .int (nI N), .int (nI X), .int (zI mk), .int (nI tm), w9, w10]))])) (vp_Si (fun r => r = ab_v s d N X mk tm y)) 0 0 (fun _ => False) := by
  refine fw_metR (cc := cX3_about) (maxL := 4) (ret := (some .int)) (by decide) rfl (Nat.le_of_ble_eq_true rfl) ?_
  intro zp ze zs zm zbelow zmeth zc ls hx hb hr hts hown hlocks hml hin hN hP hK hl
  have hown : zs.vm.findClass RX3 = some zm.cls := hown
  have hl : lv_has ls 4 [(0, .ref f0), (1, .int (nI i)), (2, .int y)] := hl
  refine lv_aload_n hx hb dX3_about_0 rfl (lv_at hl 0 rfl) ?_
  refine lv_iload_n hx hb dX3_about_1 rfl (lv_at hl 1 rfl) ?_
  have hPc := hP.sub (ws' := [(f0, .inr (3, [.ref hs, v1, .int (nI n), v3, v4, v5])), (hs, .inl (cH, 12, .inr (.inr (.inr (.inr (hf))))))]) [0, 1] rfl
  have hKc := hK.sub (tys' := [(cH, .object RX2)]) [0] rfl
  refine va_csq (va_runV (As := [.int (nI i)]) (rest := []) ⟨hx, hb, hml, hown, hts⟩ (c_fla_find l dC dI f0 hs cH v1 v3 v4 v5 n hf i h0 hn12 hin_ hfi) (cwV 1 hts gX3_about_X3_find rfl rfl rfl (by decide +kernel) ⟨Nat.le_of_ble_eq_true rfl, Nat.le_of_ble_eq_true rfl⟩) (fw_preVR hN hKc hPc (ci := 3) (q0 := 0) rfl rfl) rfl rfl hl.1 rfl (lv_room (Nat.le_of_ble_eq_true rfl)) dX3_about_2 ⟨Nat.le_of_ble_eq_true rfl, Nat.le_of_ble_eq_true rfl⟩).run (fun r_2 hr_2 => ?_)
  obtain rfl : r_2 = some h0 := hr_2
  refine W.eq (g2 := F0 zm 5 ls [.ref h0]) rfl ?_
  refine lv_astore_n (lv' := [(3, .ref h0), (0, .ref f0), (1, .int (nI i)), (2, .int y)]) hx hb dX3_about_5 rfl hl (by decide) rfl (fun ls hl => ?_)
  refine lv_aload_n hx hb dX3_about_6 rfl (lv_at hl 0 rfl) ?_
  refine lv_ifnonnull (tgt := 12) hx hb dX3_about_7 (by decide) ?_
  refine lv_iload_n hx hb dX3_about_12 rfl (lv_at hl 3 rfl) ?_
  rcases ab_cases y with rfl | rfl | rfl | rfl | rfl | rfl | hw9
  · -- 0
    refine lv_tableIn (tgt := 52) (off := 39) hx hb dX3_about_13 (by decide) (by decide) (by decide) (by decide) ?_
    refine lv_aload_n hx hb dX3_about_52 rfl (lv_at hl 0 rfl) ?_
    refine va_getN (D := (dC, dI)) (ci := 2) (v := .int (nI s)) (C := RX2) (T := TX2) (N := 11) hx hb hts (by decide +kernel) hown hK hP 2 rfl rfl 2 (by decide) (va_Nw.use rfl (hN.2.1)) (fun _ h9 => h9) rfl dX3_about_53 ?_
    exact W.iret (v := (nI s)) hx hb hr (fun zt zht _ => ⟨(nI s), rfl, rfl, zht⟩) (fun q h => by cases h) dX3_about_56 hlocks
  · -- 1
    refine lv_tableIn (tgt := 57) (off := 44) hx hb dX3_about_13 (by decide) (by decide) (by decide) (by decide) ?_
    refine lv_aload_n hx hb dX3_about_57 rfl (lv_at hl 0 rfl) ?_
    refine va_getN (D := (dC, dI)) (ci := 2) (v := .int (nI d)) (C := RX2) (T := TX2) (N := 11) hx hb hts (by decide +kernel) hown hK hP 2 rfl rfl 4 (by decide) (va_Nw.use rfl (hN.2.2.1)) (fun _ h9 => h9) rfl dX3_about_58 ?_
    exact W.iret (v := (nI d)) hx hb hr (fun zt zht _ => ⟨(nI d), rfl, rfl, zht⟩) (fun q h => by cases h) dX3_about_61 hlocks
  · -- 2
    refine lv_tableIn (tgt := 62) (off := 49) hx hb dX3_about_13 (by decide) (by decide) (by decide) (by decide) ?_
    refine lv_aload_n hx hb dX3_about_62 rfl (lv_at hl 0 rfl) ?_
    refine va_getN (D := (dC, dI)) (ci := 2) (v := .int (nI N)) (C := RX2) (T := TX2) (N := 11) hx hb hts (by decide +kernel) hown hK hP 2 rfl rfl 5 (by decide) (va_Nw.use rfl (hN.2.2.2.1)) (fun _ h9 => h9) rfl dX3_about_63 ?_
    exact W.iret (v := (nI N)) hx hb hr (fun zt zht _ => ⟨(nI N), rfl, rfl, zht⟩) (fun q h => by cases h) dX3_about_66 hlocks
  · -- 3
    refine lv_tableIn (tgt := 67) (off := 54) hx hb dX3_about_13 (by decide) (by decide) (by decide) (by decide) ?_
    refine lv_aload_n hx hb dX3_about_67 rfl (lv_at hl 0 rfl) ?_
    refine va_getN (D := (dC, dI)) (ci := 2) (v := .int (nI X)) (C := RX2) (T := TX2) (N := 11) hx hb hts (by decide +kernel) hown hK hP 2 rfl rfl 6 (by decide) (va_Nw.use rfl (hN.2.2.2.2.1)) (fun _ h9 => h9) rfl dX3_about_68 ?_
    exact W.iret (v := (nI X)) hx hb hr (fun zt zht _ => ⟨(nI X), rfl, rfl, zht⟩) (fun q h => by cases h) dX3_about_71 hlocks
  · -- 4
    refine lv_tableIn (tgt := 72) (off := 59) hx hb dX3_about_13 (by decide) (by decide) (by decide) (by decide) ?_
    refine lv_aload_n hx hb dX3_about_72 rfl (lv_at hl 0 rfl) ?_
    refine va_getN (D := (dC, dI)) (ci := 2) (v := .int (zI mk)) (C := RX2) (T := TX2) (N := 11) hx hb hts (by decide +kernel) hown hK hP 2 rfl rfl 7 (by decide) (va_Nw.use rfl (hN.2.2.2.2.2.1)) (fun _ h9 => h9) rfl dX3_about_73 ?_
    refine lv_if_eq (tgt := 83) hx hb dX3_about_76 (by decide) (fun c_76 => ?_) (fun c_76 => ?_)
    · -- then 76
      have h76 := zI_eq0.mp c_76
      refine lv_iconst (v := 0) hx hb dX3_about_83 (by decide) ?_
      exact W.iret (v := 0) hx hb hr (fun zt zht _ => ⟨0, rfl, by rw [h76]; rfl, zht⟩) (fun q h => by cases h) dX3_about_84 hlocks
    · -- else 76
      have h76 := zI_ne0.mp c_76
      refine lv_iconst (v := 1) hx hb dX3_about_79 (by decide) ?_
      refine lv_goto (tgt := 84) hx hb dX3_about_80 (by decide) ?_
      exact W.iret (v := 1) hx hb hr (fun zt zht _ => ⟨1, rfl, by rw [h76]; rfl, zht⟩) (fun q h => by cases h) dX3_about_84 hlocks
  · -- 5
    refine lv_tableIn (tgt := 85) (off := 72) hx hb dX3_about_13 (by decide) (by decide) (by decide) (by decide) ?_
    refine lv_aload_n hx hb dX3_about_85 rfl (lv_at hl 0 rfl) ?_
    refine va_getN (D := (dC, dI)) (ci := 2) (v := .int (nI tm)) (C := RX2) (T := TX2) (N := 11) hx hb hts (by decide +kernel) hown hK hP 2 rfl rfl 8 (by decide) (va_Nw.use rfl (hN.2.2.2.2.2.2)) (fun _ h9 => h9) rfl dX3_about_86 ?_
    exact W.iret (v := (nI tm)) hx hb hr (fun zt zht _ => ⟨(nI tm), rfl, rfl, zht⟩) (fun q h => by cases h) dX3_about_89 hlocks
  · -- o
    refine lv_tableOut (tgt := 90) hx hb dX3_about_13 (hw9.1) (by decide) ?_
    refine lv_iconst (v := (-1)) hx hb dX3_about_90 (by decide) ?_
    exact W.iret (v := (-1)) hx hb hr (fun zt zht _ => ⟨(-1), rfl, (hw9.2 _ _ _ _ _ _).symm, zht⟩) (fun q h => by cases h) dX3_about_91 hlocks
set_option maxHeartbeats 4000000 in
set_option maxRecDepth 100000 in
theorem c_fla_isBad (l : Launch) (dC : Nat → ClassId) (dI : Nat → Nat → Nat) (f0 hs : Nat) (cH : ClassId) (v1 v3 v4 v5 : Value) (n : Nat) (hf : Nat → Option Nat) (i h0 ea pa : Nat) (cI cZ : ClassId) (w3 w4 w5 w6 w7 w8 w9 w10 : Value) (s : Nat) (e : Nat → Int32) (b : Nat → Bool) (y : Int32) (hn12 : n ≤ 12) (hin_ : i < n) (hfi : hf i = some h0) (hs48 : s ≤ 48) : Met l yX3_isBad wsX3_isBad ({ frames := 2, cells := 0, slots := 0, locals := 44 } : Room) (va_Pc [.ref f0, .int (nI i), .int y] (fw_pR (dC, dI) vwCl [(cH, .object RX2), (cI, .int), (cZ, .boolean)] [(f0, .inr (3, [.ref hs, v1, .int (nI n), v3, v4, v5])), (hs, .inl (cH, 12, .inr (.inr (.inr (.inr (hf)))))), (h0, .inr (2, [.ref ea, .ref pa, .int (nI s), w3, w4, w5, w6, w7, w8, w9, w10])), (ea, .inl (cI, 48, .inl (e))), (pa, .inl (cZ, 48, .inl (fun j => zI (b j))))])) (vp_Si (fun r => r = zI (hv_has e b y false s && !hv_has e b y true s))) 0 0 (fun _ => False) := by
  refine fw_metR (cc := cX3_isBad) (maxL := 4) (ret := (some .boolean)) (by decide) rfl (Nat.le_of_ble_eq_true rfl) ?_
  intro zp ze zs zm zbelow zmeth zc ls hx hb hr hts hown hlocks hml hin hN hP hK hl
  have hown : zs.vm.findClass RX3 = some zm.cls := hown
  have hl : lv_has ls 4 [(0, .ref f0), (1, .int (nI i)), (2, .int y)] := hl
  refine lv_aload_n hx hb dX3_isBad_0 rfl (lv_at hl 0 rfl) ?_
  refine lv_iload_n hx hb dX3_isBad_1 rfl (lv_at hl 1 rfl) ?_
  have hPc := hP.sub (ws' := [(f0, .inr (3, [.ref hs, v1, .int (nI n), v3, v4, v5])), (hs, .inl (cH, 12, .inr (.inr (.inr (.inr (hf))))))]) [0, 1] rfl
  have hKc := hK.sub (tys' := [(cH, .object RX2)]) [0] rfl
  refine va_csq (va_runV (As := [.int (nI i)]) (rest := []) ⟨hx, hb, hml, hown, hts⟩ (c_fla_find l dC dI f0 hs cH v1 v3 v4 v5 n hf i h0 hn12 hin_ hfi) (cwV 1 hts gX3_isBad_X3_find rfl rfl rfl (by decide +kernel) ⟨Nat.le_of_ble_eq_true rfl, Nat.le_of_ble_eq_true rfl⟩) (fw_preVR hN hKc hPc (ci := 3) (q0 := 0) rfl rfl) rfl rfl hl.1 rfl (lv_room (Nat.le_of_ble_eq_true rfl)) dX3_isBad_2 ⟨Nat.le_of_ble_eq_true rfl, Nat.le_of_ble_eq_true rfl⟩).run (fun r_2 hr_2 => ?_)
  obtain rfl : r_2 = some h0 := hr_2
  refine W.eq (g2 := F0 zm 5 ls [.ref h0]) rfl ?_
  refine lv_astore_n (lv' := [(3, .ref h0), (0, .ref f0), (1, .int (nI i)), (2, .int y)]) hx hb dX3_isBad_5 rfl hl (by decide) rfl (fun ls hl => ?_)
  refine lv_aload_n hx hb dX3_isBad_6 rfl (lv_at hl 0 rfl) ?_
  refine lv_ifnull hx hb dX3_isBad_7 ?_
  refine lv_aload_n hx hb dX3_isBad_10 rfl (lv_at hl 0 rfl) ?_
  refine lv_iload_n hx hb dX3_isBad_11 rfl (lv_at hl 3 rfl) ?_
  have hPc := hP.sub (ws' := [(h0, .inr (2, [.ref ea, .ref pa, .int (nI s), w3, w4, w5, w6, w7, w8, w9, w10])), (ea, .inl (cI, 48, .inl (e))), (pa, .inl (cZ, 48, .inl (fun j => zI (b j))))]) [2, 3, 4] rfl
  have hKc := hK.sub (tys' := [(cI, .int), (cZ, .boolean)]) [1, 2] rfl
  refine vp_callSi (va_runV (As := [.int y]) (rest := []) ⟨hx, hb, hml, hown, hts⟩ (c_his_only l dC dI h0 ea pa cI cZ s w3 w4 w5 w6 w7 w8 w9 w10 e b y hs48) (cwV 1 hts gX3_isBad_X2_hasOnlyFails rfl rfl rfl (by decide +kernel) ⟨Nat.le_of_ble_eq_true rfl, Nat.le_of_ble_eq_true rfl⟩) (fw_preVR hN hKc hPc (ci := 2) (q0 := 0) rfl rfl) rfl rfl hl.1 rfl (lv_room (Nat.le_of_ble_eq_true rfl)) dX3_isBad_12 ⟨Nat.le_of_ble_eq_true rfl, Nat.le_of_ble_eq_true rfl⟩).run (fun r_12 hr_12 => ?_)
  obtain rfl : r_12 = zI (hv_has e b y false s && !hv_has e b y true s) := hr_12
  refine lv_if_eq (tgt := 22) hx hb dX3_isBad_15 (by decide) (fun c_15 => ?_) (fun c_15 => ?_)
  · -- then 15
    have h15 := zI_eq0.mp c_15
    refine lv_iconst (v := 0) hx hb dX3_isBad_22 (by decide) ?_
    exact W.zret (v := 0) (ty := .boolean) hx hb hr rfl (fun zt zht _ => ⟨0, rfl, by rw [h15]; rfl, zht⟩) (fun q h => by cases h) dX3_isBad_23 hlocks
  · -- else 15
    have h15 := zI_ne0.mp c_15
    refine lv_iconst (v := 1) hx hb dX3_isBad_18 (by decide) ?_
    refine lv_goto (tgt := 23) hx hb dX3_isBad_19 (by decide) ?_
    exact W.zret (v := 1) (ty := .boolean) hx hb hr rfl (fun zt zht _ => ⟨1, rfl, by rw [h15]; rfl, zht⟩) (fun q h => by cases h) dX3_isBad_23 hlocks
set_option maxHeartbeats 4000000 in
set_option maxRecDepth 100000 in
theorem c_fla_rules_no (l : Launch) (dC : Nat → ClassId) (dI : Nat → Nat → Nat) (f0 : Nat) (v0 v1 v2 v3 v4 v5 : Value) (x y z : Int32) (hno : (fv_lv x && fv_sh y && fv_sh z && !decide (y < z)) = false) : Met l yX3_rules wsX3_rules ({ frames := 1, cells := 0, slots := 0, locals := 20 } : Room) (va_Pc [.ref f0, .int x, .int y, .int z] (fw_pR (dC, dI) vwCl [] [(f0, .inr (3, [v0, v1, v2, v3, v4, v5]))])) (vp_Si (fun r => r = 0)) 0 0 (fun _ => False) := by
  refine fw_metR (cc := cX3_rules) (maxL := 4) (ret := (some .boolean)) (by decide) rfl (Nat.le_of_ble_eq_true rfl) ?_
  intro zp ze zs zm zbelow zmeth zc ls hx hb hr hts hown hlocks hml hin hN hP hK hl
  have hown : zs.vm.findClass RX3 = some zm.cls := hown
  have hl : lv_has ls 4 [(0, .ref f0), (1, .int x), (2, .int y), (3, .int z)] := hl
  refine lv_iload_n hx hb dX3_rules_0 rfl (lv_at hl 1 rfl) ?_
  have hPc := hP.sub (ws' := []) [] rfl
  have hKc := hK.sub (tys' := []) [] rfl
  refine vp_callSi (va_runS (As := [.int x]) (rest := []) ⟨hx, hb, hml, hown, hts⟩ (c_fla_isLevel l dC dI x) (va_cwS 1 hts gX3_rules_X3_isLevel rfl rfl rfl (by decide +kernel) ⟨Nat.le_of_ble_eq_true rfl, Nat.le_of_ble_eq_true rfl⟩) (fw_preSR hN hKc hPc) rfl rfl hl.1 rfl (lv_room (Nat.le_of_ble_eq_true rfl)) dX3_rules_1 ⟨Nat.le_of_ble_eq_true rfl, Nat.le_of_ble_eq_true rfl⟩).run (fun r_1 hr_1 => ?_)
  obtain rfl : r_1 = zI (fv_lv x) := hr_1
  refine lv_if_eq (tgt := 26) hx hb dX3_rules_4 (by decide) (fun c_4 => ?_) (fun c_4 => ?_)
  · -- then 4
    have h4 := zI_eq0.mp c_4
    refine lv_iconst (v := 0) hx hb dX3_rules_26 (by decide) ?_
    exact W.zret (v := 0) (ty := .boolean) hx hb hr rfl (fun zt zht _ => ⟨0, rfl, rfl, zht⟩) (fun q h => by cases h) dX3_rules_27 hlocks
  · -- else 4
    have h4 := zI_ne0.mp c_4
    refine lv_iload_n hx hb dX3_rules_7 rfl (lv_at hl 2 rfl) ?_
    have hPc := hP.sub (ws' := []) [] rfl
    have hKc := hK.sub (tys' := []) [] rfl
    refine vp_callSi (va_runS (As := [.int y]) (rest := []) ⟨hx, hb, hml, hown, hts⟩ (c_fla_isShare l dC dI y) (va_cwS 1 hts gX3_rules_X3_isShare rfl rfl rfl (by decide +kernel) ⟨Nat.le_of_ble_eq_true rfl, Nat.le_of_ble_eq_true rfl⟩) (fw_preSR hN hKc hPc) rfl rfl hl.1 rfl (lv_room (Nat.le_of_ble_eq_true rfl)) dX3_rules_8 ⟨Nat.le_of_ble_eq_true rfl, Nat.le_of_ble_eq_true rfl⟩).run (fun r_8 hr_8 => ?_)
    obtain rfl : r_8 = zI (fv_sh y) := hr_8
    refine lv_if_eq (tgt := 26) hx hb dX3_rules_11 (by decide) (fun c_11 => ?_) (fun c_11 => ?_)
    · -- then 11
      have h11 := zI_eq0.mp c_11
      refine lv_iconst (v := 0) hx hb dX3_rules_26 (by decide) ?_
      exact W.zret (v := 0) (ty := .boolean) hx hb hr rfl (fun zt zht _ => ⟨0, rfl, rfl, zht⟩) (fun q h => by cases h) dX3_rules_27 hlocks
    · -- else 11
      have h11 := zI_ne0.mp c_11
      refine lv_iload_n hx hb dX3_rules_14 rfl (lv_at hl 3 rfl) ?_
      have hPc := hP.sub (ws' := []) [] rfl
      have hKc := hK.sub (tys' := []) [] rfl
      refine vp_callSi (va_runS (As := [.int z]) (rest := []) ⟨hx, hb, hml, hown, hts⟩ (c_fla_isShare l dC dI z) (va_cwS 1 hts gX3_rules_X3_isShare rfl rfl rfl (by decide +kernel) ⟨Nat.le_of_ble_eq_true rfl, Nat.le_of_ble_eq_true rfl⟩) (fw_preSR hN hKc hPc) rfl rfl hl.1 rfl (lv_room (Nat.le_of_ble_eq_true rfl)) dX3_rules_15 ⟨Nat.le_of_ble_eq_true rfl, Nat.le_of_ble_eq_true rfl⟩).run (fun r_15 hr_15 => ?_)
      obtain rfl : r_15 = zI (fv_sh z) := hr_15
      refine lv_if_eq (tgt := 26) hx hb dX3_rules_18 (by decide) (fun c_18 => ?_) (fun c_18 => ?_)
      · -- then 18
        have h18 := zI_eq0.mp c_18
        refine lv_iconst (v := 0) hx hb dX3_rules_26 (by decide) ?_
        exact W.zret (v := 0) (ty := .boolean) hx hb hr rfl (fun zt zht _ => ⟨0, rfl, rfl, zht⟩) (fun q h => by cases h) dX3_rules_27 hlocks
      · -- else 18
        have h18 := zI_ne0.mp c_18
        refine lv_iload_n hx hb dX3_rules_21 rfl (lv_at hl 3 rfl) ?_
        refine lv_iload_n hx hb dX3_rules_22 rfl (lv_at hl 2 rfl) ?_
        refine lv_icmp_le (tgt := 28) hx hb dX3_rules_23 (by decide) (fun c_23 => ?_) (fun c_23 => ?_)
        · -- then 23
          rw [h4, h11, h18, decide_eq_false (show ¬ y < z from fun q9 => absurd c_23 (Int32.not_le.mpr q9))] at hno
          cases hno
        · -- else 23
          refine lv_iconst (v := 0) hx hb dX3_rules_26 (by decide) ?_
          exact W.zret (v := 0) (ty := .boolean) hx hb hr rfl (fun zt zht _ => ⟨0, rfl, rfl, zht⟩) (fun q h => by cases h) dX3_rules_27 hlocks
set_option maxHeartbeats 4000000 in
set_option maxRecDepth 100000 in
theorem c_fla_rules (l : Launch) (dC : Nat → ClassId) (dI : Nat → Nat → Nat) (f0 : Nat) (v0 v1 v2 v3 v4 v5 : Value) (x y z : Int32) (sz : Nat) (h1 : fv_lv x = true) (h2 : fv_sh y = true) (h3 : fv_sh z = true) (h4_ : ¬ y < z) : Met l yX3_rules wsX3_rules ({ frames := 1, cells := 0, slots := 0, locals := 20 } : Room) (va_Pc [.ref f0, .int x, .int y, .int z] (fw_pW (dC, dI) vwCl [] [(f0, .inr (3, [v0, v1, v2, v3, v4, v5]))] sz)) (va_Qi (S := Unit) (fun r _ => r = 1) (fun u t => fw_q (dC, dI) vwCl [] (va_A [(f0, .inr (3, [v0, v1, v2, v3, v4, v5]))] sz) [(f0, .inr (3, [v0, v1, v2, .int x, .int y, .int z]))] t) (va_A [(f0, .inr (3, [v0, v1, v2, v3, v4, v5]))] sz)) 0 0 (va_A [(f0, .inr (3, [v0, v1, v2, v3, v4, v5]))] sz) := by
  refine fw_metW (cc := cX3_rules) (maxL := 4) (ret := (some .boolean)) (by decide) rfl (Nat.le_of_ble_eq_true rfl) ?_
  intro zp ze zs zm zbelow zmeth zc ls hx hb hr hts hown hlocks hml hin hN hsz hP hK hD hA hS hl
  generalize hAe : (va_A [(f0, .inr (3, [v0, v1, v2, v3, v4, v5]))] sz) = A at hD hA hS ⊢
  have hown : zs.vm.findClass RX3 = some zm.cls := hown
  have hl : lv_has ls 4 [(0, .ref f0), (1, .int x), (2, .int y), (3, .int z)] := hl
  refine lv_iload_n hx hb dX3_rules_0 rfl (lv_at hl 1 rfl) ?_
  have hPc := hP.sub (ws' := []) [] rfl
  have hKc := hK.sub (tys' := []) [] rfl
  refine vp_callSi (va_runS (As := [.int x]) (rest := []) ⟨hx, hb, hml, hown, hts⟩ (c_fla_isLevel l dC dI x) (va_cwS 1 hts gX3_rules_X3_isLevel rfl rfl rfl (by decide +kernel) ⟨Nat.le_of_ble_eq_true rfl, Nat.le_of_ble_eq_true rfl⟩) (fw_preSR hN hKc hPc) rfl rfl hl.1 rfl (lv_room (Nat.le_of_ble_eq_true rfl)) dX3_rules_1 ⟨Nat.le_of_ble_eq_true rfl, Nat.le_of_ble_eq_true rfl⟩).run (fun r_1 hr_1 => ?_)
  obtain rfl : r_1 = zI (fv_lv x) := hr_1
  refine lv_if_eq (tgt := 26) hx hb dX3_rules_4 (by decide) (fun c_4 => absurd c_4 (by rw [h1]; decide)) (fun _ => ?_)
  refine lv_iload_n hx hb dX3_rules_7 rfl (lv_at hl 2 rfl) ?_
  have hPc := hP.sub (ws' := []) [] rfl
  have hKc := hK.sub (tys' := []) [] rfl
  refine vp_callSi (va_runS (As := [.int y]) (rest := []) ⟨hx, hb, hml, hown, hts⟩ (c_fla_isShare l dC dI y) (va_cwS 1 hts gX3_rules_X3_isShare rfl rfl rfl (by decide +kernel) ⟨Nat.le_of_ble_eq_true rfl, Nat.le_of_ble_eq_true rfl⟩) (fw_preSR hN hKc hPc) rfl rfl hl.1 rfl (lv_room (Nat.le_of_ble_eq_true rfl)) dX3_rules_8 ⟨Nat.le_of_ble_eq_true rfl, Nat.le_of_ble_eq_true rfl⟩).run (fun r_8 hr_8 => ?_)
  obtain rfl : r_8 = zI (fv_sh y) := hr_8
  refine lv_if_eq (tgt := 26) hx hb dX3_rules_11 (by decide) (fun c_11 => absurd c_11 (by rw [h2]; decide)) (fun _ => ?_)
  refine lv_iload_n hx hb dX3_rules_14 rfl (lv_at hl 3 rfl) ?_
  have hPc := hP.sub (ws' := []) [] rfl
  have hKc := hK.sub (tys' := []) [] rfl
  refine vp_callSi (va_runS (As := [.int z]) (rest := []) ⟨hx, hb, hml, hown, hts⟩ (c_fla_isShare l dC dI z) (va_cwS 1 hts gX3_rules_X3_isShare rfl rfl rfl (by decide +kernel) ⟨Nat.le_of_ble_eq_true rfl, Nat.le_of_ble_eq_true rfl⟩) (fw_preSR hN hKc hPc) rfl rfl hl.1 rfl (lv_room (Nat.le_of_ble_eq_true rfl)) dX3_rules_15 ⟨Nat.le_of_ble_eq_true rfl, Nat.le_of_ble_eq_true rfl⟩).run (fun r_15 hr_15 => ?_)
  obtain rfl : r_15 = zI (fv_sh z) := hr_15
  refine lv_if_eq (tgt := 26) hx hb dX3_rules_18 (by decide) (fun c_18 => absurd c_18 (by rw [h3]; decide)) (fun _ => ?_)
  refine lv_iload_n hx hb dX3_rules_21 rfl (lv_at hl 3 rfl) ?_
  refine lv_iload_n hx hb dX3_rules_22 rfl (lv_at hl 2 rfl) ?_
  refine lv_icmp_le (tgt := 28) hx hb dX3_rules_23 (by decide) (fun _ => ?_) (fun c_23 => absurd (Int32.not_lt.mp h4_) c_23)
  refine lv_aload_n hx hb dX3_rules_28 rfl (lv_at hl 0 rfl) ?_
  refine lv_iload_n hx hb dX3_rules_29 rfl (lv_at hl 1 rfl) ?_
  refine va_put (D := (dC, dI)) (ci := 3) (v := .int x) (ty := .int) (C := RX3) (T := TX3) (N := 6) hx hb hts (by decide +kernel) tyX3 tyX3_ok nmX3 hown hK hP hD hS 0 rfl rfl 3 (by decide) (hts (.fieldLink RX3 26 "FlakyBounds" "ruleLevel" "I") (by decide +kernel)) (fun _ h9 => h9) rfl (by decide +kernel) rfl rfl (Nat.le_of_ble_eq_true rfl) dX3_rules_30 (fun H locs hP hD hS => ?_)
  have hP : va_P (dC, dI) vwCl [(f0, .inr (3, [v0, v1, v2, .int x, v4, v5]))] H := hP
  have hD : va_D A [(f0, .inr (3, [v0, v1, v2, .int x, v4, v5]))] := hD
  refine lv_aload_n hx hb dX3_rules_33 rfl (lv_at hl 0 rfl) ?_
  refine lv_iload_n hx hb dX3_rules_34 rfl (lv_at hl 2 rfl) ?_
  refine va_put (D := (dC, dI)) (ci := 3) (v := .int y) (ty := .int) (C := RX3) (T := TX3) (N := 6) hx hb hts (by decide +kernel) tyX3 tyX3_ok nmX3 hown hK hP hD hS 0 rfl rfl 4 (by decide) (hts (.fieldLink RX3 29 "FlakyBounds" "ruleMark" "I") (by decide +kernel)) (fun _ h9 => h9) rfl (by decide +kernel) rfl rfl (Nat.le_of_ble_eq_true rfl) dX3_rules_35 (fun H locs hP hD hS => ?_)
  have hP : va_P (dC, dI) vwCl [(f0, .inr (3, [v0, v1, v2, .int x, .int y, v5]))] H := hP
  have hD : va_D A [(f0, .inr (3, [v0, v1, v2, .int x, .int y, v5]))] := hD
  refine lv_aload_n hx hb dX3_rules_38 rfl (lv_at hl 0 rfl) ?_
  refine lv_iload_n hx hb dX3_rules_39 rfl (lv_at hl 3 rfl) ?_
  refine va_put (D := (dC, dI)) (ci := 3) (v := .int z) (ty := .int) (C := RX3) (T := TX3) (N := 6) hx hb hts (by decide +kernel) tyX3 tyX3_ok nmX3 hown hK hP hD hS 0 rfl rfl 5 (by decide) (hts (.fieldLink RX3 32 "FlakyBounds" "ruleClear" "I") (by decide +kernel)) (fun _ h9 => h9) rfl (by decide +kernel) rfl rfl (Nat.le_of_ble_eq_true rfl) dX3_rules_40 (fun H locs hP hD hS => ?_)
  have hP : va_P (dC, dI) vwCl [(f0, .inr (3, [v0, v1, v2, .int x, .int y, .int z]))] H := hP
  have hD : va_D A [(f0, .inr (3, [v0, v1, v2, .int x, .int y, .int z]))] := hD
  refine lv_iconst (v := 1) hx hb dX3_rules_43 (by decide) ?_
  have hP9 := hP.sub (ws' := [(f0, .inr (3, [v0, v1, v2, .int x, .int y, .int z]))]) [0] rfl
  have hD9 := hD.sub (ws' := [(f0, .inr (3, [v0, v1, v2, .int x, .int y, .int z]))]) [0] (by decide) rfl
  have hK9 := hK.sub (tys' := []) [] rfl
  exact W.zret (v := 1) (ty := .boolean) hx hb hr rfl (fun zt zht hW => ⟨⟨1, ⟨⟩, rfl, rfl, by rw [zht]; exact hP9, va_K.moved hW.alike hK9, hD9⟩, hS.F zht⟩) hS.2.2 dX3_rules_44 hlocks
set_option maxHeartbeats 4000000 in
set_option maxRecDepth 100000 in
theorem c_fla_run (l : Launch) (dC : Nat → ClassId) (dI : Nat → Nat → Nat) (f0 hs c0 s0 sa t0 ta h0 ea pa : Nat) (cH cJ cI cZ : ClassId) (lv mr cr : Nat) (ds dt : Nat → Nat) (n i : Nat) (hf : Nat → Option Nat) (s o : Nat) (x4 x5 x6 : Int32) (mk : Bool) (tm : Nat) (je : Int32) (jf : Nat) (e : Nat → Int32) (b : Nat → Bool) (x : Int32) (q : Bool) (sz : Nat) (hn12 : n ≤ 12) (hin_ : i < n) (hfi : hf i = some h0) (hlv : lv ≤ 999) (hmr : mr ≤ 1000) (hcr : cr ≤ 1000) (hs48 : s ≤ 48) (ho : o < 48) (hjf : jf ≤ 2) (hed : fv_ed x = true) : Met l yX3_run wsX3_run ({ frames := 4, cells := 0, slots := 0, locals := 97 } : Room) (va_Pc [.ref f0, .int (nI i), .int x, .int (zI q)] (fw_pW (dC, dI) vwCl [(cH, .object RX2), (cJ, .long), (cI, .int), (cZ, .boolean)] [(f0, .inr (3, [.ref hs, .ref c0, .int (nI n), .int (nI lv), .int (nI mr), .int (nI cr)])), (hs, .inl (cH, 12, .inr (.inr (.inr (.inr (hf)))))), (c0, .inr (0, [.ref s0, .ref t0])), (s0, .inr (1, [.ref sa])), (sa, .inl (cJ, 17, .inr (.inl (fun j => lN (ds j))))), (t0, .inr (1, [.ref ta])), (ta, .inl (cJ, 17, .inr (.inl (fun j => lN (dt j))))), (h0, .inr (2, [.ref ea, .ref pa, .int (nI s), .int (nI o), .int x4, .int x5, .int x6, .int (zI mk), .int (nI tm), .int je, .int (nI jf)])), (ea, .inl (cI, 48, .inl (e))), (pa, .inl (cZ, 48, .inl (fun j => zI (b j))))] sz)) (va_Qi (S := (Nat → Nat) × (Nat → Nat)) (fun r _ => r = 1) (fun u t => fw_q (dC, dI) vwCl [(cH, .object RX2), (cJ, .long), (cI, .int), (cZ, .boolean)] (va_A [(f0, .inr (3, [.ref hs, .ref c0, .int (nI n), .int (nI lv), .int (nI mr), .int (nI cr)])), (hs, .inl (cH, 12, .inr (.inr (.inr (.inr (hf)))))), (c0, .inr (0, [.ref s0, .ref t0])), (s0, .inr (1, [.ref sa])), (sa, .inl (cJ, 17, .inr (.inl (fun j => lN (ds j))))), (t0, .inr (1, [.ref ta])), (ta, .inl (cJ, 17, .inr (.inl (fun j => lN (dt j))))), (h0, .inr (2, [.ref ea, .ref pa, .int (nI s), .int (nI o), .int x4, .int x5, .int x6, .int (zI mk), .int (nI tm), .int je, .int (nI jf)])), (ea, .inl (cI, 48, .inl (e))), (pa, .inl (cZ, 48, .inl (fun j => zI (b j))))] sz) [(f0, .inr (3, [.ref hs, .ref c0, .int (nI n), .int (nI lv), .int (nI mr), .int (nI cr)])), (hs, .inl (cH, 12, .inr (.inr (.inr (.inr (hf)))))), (c0, .inr (0, [.ref s0, .ref t0])), (s0, .inr (1, [.ref sa])), (sa, .inl (cJ, 17, .inr (.inl (fun j => lN (u.1 j))))), (t0, .inr (1, [.ref ta])), (ta, .inl (cJ, 17, .inr (.inl (fun j => lN (u.2 j))))), (h0, .inr (2, [.ref ea, .ref pa, .int (nI (hv_s s)), .int (nI (hv_o s o)), .int (nI (hv_D (upd e (hv_slot s o) x) (va_up b (hv_slot s o) q) (hv_s s) (hv_s s))), .int (nI (hv_N (upd e (hv_slot s o) x) (va_up b (hv_slot s o) q) (hv_s s) (hv_s s))), .int (nI (hv_X (upd e (hv_slot s o) x) (va_up b (hv_slot s o) q) (hv_s s) (hv_s s))), .int (zI (tk_m mk (hv_N (upd e (hv_slot s o) x) (va_up b (hv_slot s o) q) (hv_s s) (hv_s s)) (hv_X (upd e (hv_slot s o) x) (va_up b (hv_slot s o) q) (hv_s s) (hv_s s)) lv mr cr)), .int (nI (tk_t mk tm (hv_N (upd e (hv_slot s o) x) (va_up b (hv_slot s o) q) (hv_s s) (hv_s s)) (hv_X (upd e (hv_slot s o) x) (va_up b (hv_slot s o) q) (hv_s s) (hv_s s)) lv mr)), .int je, .int (nI jf)])), (ea, .inl (cI, 48, .inl ((upd e (hv_slot s o) x)))), (pa, .inl (cZ, 48, .inl (fun j => zI ((va_up b (hv_slot s o) q) j))))] t) (va_A [(f0, .inr (3, [.ref hs, .ref c0, .int (nI n), .int (nI lv), .int (nI mr), .int (nI cr)])), (hs, .inl (cH, 12, .inr (.inr (.inr (.inr (hf)))))), (c0, .inr (0, [.ref s0, .ref t0])), (s0, .inr (1, [.ref sa])), (sa, .inl (cJ, 17, .inr (.inl (fun j => lN (ds j))))), (t0, .inr (1, [.ref ta])), (ta, .inl (cJ, 17, .inr (.inl (fun j => lN (dt j))))), (h0, .inr (2, [.ref ea, .ref pa, .int (nI s), .int (nI o), .int x4, .int x5, .int x6, .int (zI mk), .int (nI tm), .int je, .int (nI jf)])), (ea, .inl (cI, 48, .inl (e))), (pa, .inl (cZ, 48, .inl (fun j => zI (b j))))] sz)) 0 0 (va_A [(f0, .inr (3, [.ref hs, .ref c0, .int (nI n), .int (nI lv), .int (nI mr), .int (nI cr)])), (hs, .inl (cH, 12, .inr (.inr (.inr (.inr (hf)))))), (c0, .inr (0, [.ref s0, .ref t0])), (s0, .inr (1, [.ref sa])), (sa, .inl (cJ, 17, .inr (.inl (fun j => lN (ds j))))), (t0, .inr (1, [.ref ta])), (ta, .inl (cJ, 17, .inr (.inl (fun j => lN (dt j))))), (h0, .inr (2, [.ref ea, .ref pa, .int (nI s), .int (nI o), .int x4, .int x5, .int x6, .int (zI mk), .int (nI tm), .int je, .int (nI jf)])), (ea, .inl (cI, 48, .inl (e))), (pa, .inl (cZ, 48, .inl (fun j => zI (b j))))] sz) := by
  refine fw_metW (cc := cX3_run) (maxL := 5) (ret := (some .boolean)) (by decide) rfl (Nat.le_of_ble_eq_true rfl) ?_
  intro zp ze zs zm zbelow zmeth zc ls hx hb hr hts hown hlocks hml hin hN hsz hP hK hD hA hS hl
  generalize hAe : (va_A [(f0, .inr (3, [.ref hs, .ref c0, .int (nI n), .int (nI lv), .int (nI mr), .int (nI cr)])), (hs, .inl (cH, 12, .inr (.inr (.inr (.inr (hf)))))), (c0, .inr (0, [.ref s0, .ref t0])), (s0, .inr (1, [.ref sa])), (sa, .inl (cJ, 17, .inr (.inl (fun j => lN (ds j))))), (t0, .inr (1, [.ref ta])), (ta, .inl (cJ, 17, .inr (.inl (fun j => lN (dt j))))), (h0, .inr (2, [.ref ea, .ref pa, .int (nI s), .int (nI o), .int x4, .int x5, .int x6, .int (zI mk), .int (nI tm), .int je, .int (nI jf)])), (ea, .inl (cI, 48, .inl (e))), (pa, .inl (cZ, 48, .inl (fun j => zI (b j))))] sz) = A at hD hA hS ⊢
  have hown : zs.vm.findClass RX3 = some zm.cls := hown
  have hl : lv_has ls 5 [(0, .ref f0), (1, .int (nI i)), (2, .int x), (3, .int (zI q))] := hl
  refine lv_aload_n hx hb dX3_run_0 rfl (lv_at hl 0 rfl) ?_
  refine lv_iload_n hx hb dX3_run_1 rfl (lv_at hl 1 rfl) ?_
  have hPc := hP.sub (ws' := [(f0, .inr (3, [.ref hs, .ref c0, .int (nI n), .int (nI lv), .int (nI mr), .int (nI cr)])), (hs, .inl (cH, 12, .inr (.inr (.inr (.inr (hf))))))]) [0, 1] rfl
  have hKc := hK.sub (tys' := [(cH, .object RX2)]) [0] rfl
  refine va_csq (va_runV (As := [.int (nI i)]) (rest := []) ⟨hx, hb, hml, hown, hts⟩ (c_fla_find l dC dI f0 hs cH (.ref c0) (.int (nI lv)) (.int (nI mr)) (.int (nI cr)) n hf i h0 hn12 hin_ hfi) (cwV 1 hts gX3_run_X3_find rfl rfl rfl (by decide +kernel) ⟨Nat.le_of_ble_eq_true rfl, Nat.le_of_ble_eq_true rfl⟩) (fw_preVR hN hKc hPc (ci := 3) (q0 := 0) rfl rfl) rfl rfl hl.1 rfl (lv_room (Nat.le_of_ble_eq_true rfl)) dX3_run_2 ⟨Nat.le_of_ble_eq_true rfl, Nat.le_of_ble_eq_true rfl⟩).run (fun r_2 hr_2 => ?_)
  obtain rfl : r_2 = some h0 := hr_2
  refine W.eq (g2 := F0 zm 5 ls [.ref h0]) rfl ?_
  refine lv_astore (lv' := [(4, .ref h0), (0, .ref f0), (1, .int (nI i)), (2, .int x), (3, .int (zI q))]) hx hb dX3_run_5 hl (by decide) rfl (fun ls hl => ?_)
  refine lv_aload hx hb dX3_run_7 (lv_at hl 0 rfl) ?_
  refine lv_ifnull hx hb dX3_run_9 ?_
  refine lv_iload_n hx hb dX3_run_12 rfl (lv_at hl 3 rfl) ?_
  have hPc := hP.sub (ws' := []) [] rfl
  have hKc := hK.sub (tys' := []) [] rfl
  refine vp_callSi (va_runS (As := [.int x]) (rest := []) ⟨hx, hb, hml, hown, hts⟩ (c_fla_isEdition l dC dI x) (va_cwS 1 hts gX3_run_X3_isEdition rfl rfl rfl (by decide +kernel) ⟨Nat.le_of_ble_eq_true rfl, Nat.le_of_ble_eq_true rfl⟩) (fw_preSR hN hKc hPc) rfl rfl hl.1 rfl (lv_room (Nat.le_of_ble_eq_true rfl)) dX3_run_13 ⟨Nat.le_of_ble_eq_true rfl, Nat.le_of_ble_eq_true rfl⟩).run (fun r_13 hr_13 => ?_)
  obtain rfl : r_13 = zI (fv_ed x) := hr_13
  refine lv_if_ne (tgt := 21) hx hb dX3_run_16 (by decide) (fun _ => ?_) (fun c_16 => absurd c_16 (by rw [hed]; decide))
  refine lv_aload_n hx hb dX3_run_21 rfl (lv_at hl 1 rfl) ?_
  refine lv_aload hx hb dX3_run_22 (lv_at hl 0 rfl) ?_
  refine lv_iload_n hx hb dX3_run_24 rfl (lv_at hl 3 rfl) ?_
  refine lv_iload_n hx hb dX3_run_25 rfl (lv_at hl 4 rfl) ?_
  have hPc := hP.sub (ws' := [(f0, .inr (3, [.ref hs, .ref c0, .int (nI n), .int (nI lv), .int (nI mr), .int (nI cr)])), (c0, .inr (0, [.ref s0, .ref t0])), (s0, .inr (1, [.ref sa])), (sa, .inl (cJ, 17, .inr (.inl (fun j => lN (ds j))))), (t0, .inr (1, [.ref ta])), (ta, .inl (cJ, 17, .inr (.inl (fun j => lN (dt j))))), (h0, .inr (2, [.ref ea, .ref pa, .int (nI s), .int (nI o), .int x4, .int x5, .int x6, .int (zI mk), .int (nI tm), .int je, .int (nI jf)])), (ea, .inl (cI, 48, .inl (e))), (pa, .inl (cZ, 48, .inl (fun j => zI (b j))))]) [0, 2, 3, 4, 5, 6, 7, 8, 9] rfl
  have hKc := hK.sub (tys' := [(cJ, .long), (cI, .int), (cZ, .boolean)]) [1, 2, 3] rfl
  have hDc := hD.sub (ws' := [(f0, .inr (3, [.ref hs, .ref c0, .int (nI n), .int (nI lv), .int (nI mr), .int (nI cr)])), (c0, .inr (0, [.ref s0, .ref t0])), (s0, .inr (1, [.ref sa])), (sa, .inl (cJ, 17, .inr (.inl (fun j => lN (ds j))))), (t0, .inr (1, [.ref ta])), (ta, .inl (cJ, 17, .inr (.inl (fun j => lN (dt j))))), (h0, .inr (2, [.ref ea, .ref pa, .int (nI s), .int (nI o), .int x4, .int x5, .int x6, .int (zI mk), .int (nI tm), .int je, .int (nI jf)])), (ea, .inl (cI, 48, .inl (e))), (pa, .inl (cZ, 48, .inl (fun j => zI (b j))))]) [0, 2, 3, 4, 5, 6, 7, 8, 9] (by decide) rfl
  have hFc := va_free (wc := [(f0, .inr (3, [.ref hs, .ref c0, .int (nI n), .int (nI lv), .int (nI mr), .int (nI cr)])), (c0, .inr (0, [.ref s0, .ref t0])), (s0, .inr (1, [.ref sa])), (sa, .inl (cJ, 17, .inr (.inl (fun j => lN (ds j))))), (t0, .inr (1, [.ref ta])), (ta, .inl (cJ, 17, .inr (.inl (fun j => lN (dt j))))), (h0, .inr (2, [.ref ea, .ref pa, .int (nI s), .int (nI o), .int x4, .int x5, .int x6, .int (zI mk), .int (nI tm), .int je, .int (nI jf)])), (ea, .inl (cI, 48, .inl (e))), (pa, .inl (cZ, 48, .inl (fun j => zI (b j))))]) hD hS hA [0, 2, 3, 4, 5, 6, 7, 8, 9] rfl
  refine va_callv (va_runV (As := [.ref h0, .int x, .int (zI q)]) (rest := []) ⟨hx, hb, hml, hown, hts⟩ (c_fla_take l dC dI f0 c0 s0 sa t0 ta h0 ea pa cJ cI cZ (.ref hs) (.int (nI n)) lv mr cr ds dt s o x4 x5 x6 mk tm (.int je) (.int (nI jf)) e b x q zs.heap.size hlv hmr hcr hs48 ho) (cwV 3 hts gX3_run_X3_take rfl rfl rfl (by decide +kernel) ⟨Nat.le_of_ble_eq_true rfl, Nat.le_of_ble_eq_true rfl⟩) (fw_preVW hN hKc hPc hDc (ci := 3) (q0 := 0) rfl rfl) rfl rfl hl.1 rfl (lv_room (Nat.le_of_ble_eq_true rfl)) dX3_run_26 ⟨Nat.le_of_ble_eq_true rfl, Nat.le_of_ble_eq_true rfl⟩) hS (fun q _ h => hFc q h) hFc (fun u zt H1 locs zht hvm hw hB hz1 hk1 hS => ?_)
  obtain ⟨e1, e2⟩ := u
  obtain ⟨hP1, hK1, hD1⟩ := hB
  rw [zht] at hP1
  obtain ⟨hP, hD⟩ := va_join (wr := [(hs, .inl (cH, 12, .inr (.inr (.inr (.inr (hf))))))]) (w1 := [(f0, .inr (3, [.ref hs, .ref c0, .int (nI n), .int (nI lv), .int (nI mr), .int (nI cr)])), (c0, .inr (0, [.ref s0, .ref t0])), (s0, .inr (1, [.ref sa])), (sa, .inl (cJ, 17, .inr (.inl (fun j => lN (e1 j))))), (t0, .inr (1, [.ref ta])), (ta, .inl (cJ, 17, .inr (.inl (fun j => lN (e2 j))))), (h0, .inr (2, [.ref ea, .ref pa, .int (nI (hv_s s)), .int (nI (hv_o s o)), .int (nI (hv_D (upd e (hv_slot s o) x) (va_up b (hv_slot s o) q) (hv_s s) (hv_s s))), .int (nI (hv_N (upd e (hv_slot s o) x) (va_up b (hv_slot s o) q) (hv_s s) (hv_s s))), .int (nI (hv_X (upd e (hv_slot s o) x) (va_up b (hv_slot s o) q) (hv_s s) (hv_s s))), .int (zI (tk_m mk (hv_N (upd e (hv_slot s o) x) (va_up b (hv_slot s o) q) (hv_s s) (hv_s s)) (hv_X (upd e (hv_slot s o) x) (va_up b (hv_slot s o) q) (hv_s s) (hv_s s)) lv mr cr)), .int (nI (tk_t mk tm (hv_N (upd e (hv_slot s o) x) (va_up b (hv_slot s o) q) (hv_s s) (hv_s s)) (hv_X (upd e (hv_slot s o) x) (va_up b (hv_slot s o) q) (hv_s s) (hv_s s)) lv mr)), .int je, .int (nI jf)])), (ea, .inl (cI, 48, .inl ((upd e (hv_slot s o) x)))), (pa, .inl (cZ, 48, .inl (fun j => zI ((va_up b (hv_slot s o) q) j))))]) hP hD [0, 2, 3, 4, 5, 6, 7, 8, 9] [1] rfl rfl (by decide) (by decide) hk1 hFc hP1 hD1
  generalize H1 = H at hP hS ⊢
  have hP : va_P (dC, dI) vwCl [(hs, .inl (cH, 12, .inr (.inr (.inr (.inr (hf)))))), (f0, .inr (3, [.ref hs, .ref c0, .int (nI n), .int (nI lv), .int (nI mr), .int (nI cr)])), (c0, .inr (0, [.ref s0, .ref t0])), (s0, .inr (1, [.ref sa])), (sa, .inl (cJ, 17, .inr (.inl (fun j => lN (e1 j))))), (t0, .inr (1, [.ref ta])), (ta, .inl (cJ, 17, .inr (.inl (fun j => lN (e2 j))))), (h0, .inr (2, [.ref ea, .ref pa, .int (nI (hv_s s)), .int (nI (hv_o s o)), .int (nI (hv_D (upd e (hv_slot s o) x) (va_up b (hv_slot s o) q) (hv_s s) (hv_s s))), .int (nI (hv_N (upd e (hv_slot s o) x) (va_up b (hv_slot s o) q) (hv_s s) (hv_s s))), .int (nI (hv_X (upd e (hv_slot s o) x) (va_up b (hv_slot s o) q) (hv_s s) (hv_s s))), .int (zI (tk_m mk (hv_N (upd e (hv_slot s o) x) (va_up b (hv_slot s o) q) (hv_s s) (hv_s s)) (hv_X (upd e (hv_slot s o) x) (va_up b (hv_slot s o) q) (hv_s s) (hv_s s)) lv mr cr)), .int (nI (tk_t mk tm (hv_N (upd e (hv_slot s o) x) (va_up b (hv_slot s o) q) (hv_s s) (hv_s s)) (hv_X (upd e (hv_slot s o) x) (va_up b (hv_slot s o) q) (hv_s s) (hv_s s)) lv mr)), .int je, .int (nI jf)])), (ea, .inl (cI, 48, .inl ((upd e (hv_slot s o) x)))), (pa, .inl (cZ, 48, .inl (fun j => zI ((va_up b (hv_slot s o) q) j))))] H := hP
  have hD : va_D A [(hs, .inl (cH, 12, .inr (.inr (.inr (.inr (hf)))))), (f0, .inr (3, [.ref hs, .ref c0, .int (nI n), .int (nI lv), .int (nI mr), .int (nI cr)])), (c0, .inr (0, [.ref s0, .ref t0])), (s0, .inr (1, [.ref sa])), (sa, .inl (cJ, 17, .inr (.inl (fun j => lN (e1 j))))), (t0, .inr (1, [.ref ta])), (ta, .inl (cJ, 17, .inr (.inl (fun j => lN (e2 j))))), (h0, .inr (2, [.ref ea, .ref pa, .int (nI (hv_s s)), .int (nI (hv_o s o)), .int (nI (hv_D (upd e (hv_slot s o) x) (va_up b (hv_slot s o) q) (hv_s s) (hv_s s))), .int (nI (hv_N (upd e (hv_slot s o) x) (va_up b (hv_slot s o) q) (hv_s s) (hv_s s))), .int (nI (hv_X (upd e (hv_slot s o) x) (va_up b (hv_slot s o) q) (hv_s s) (hv_s s))), .int (zI (tk_m mk (hv_N (upd e (hv_slot s o) x) (va_up b (hv_slot s o) q) (hv_s s) (hv_s s)) (hv_X (upd e (hv_slot s o) x) (va_up b (hv_slot s o) q) (hv_s s) (hv_s s)) lv mr cr)), .int (nI (tk_t mk tm (hv_N (upd e (hv_slot s o) x) (va_up b (hv_slot s o) q) (hv_s s) (hv_s s)) (hv_X (upd e (hv_slot s o) x) (va_up b (hv_slot s o) q) (hv_s s) (hv_s s)) lv mr)), .int je, .int (nI jf)])), (ea, .inl (cI, 48, .inl ((upd e (hv_slot s o) x)))), (pa, .inl (cZ, 48, .inl (fun j => zI ((va_up b (hv_slot s o) q) j))))] := hD
  refine lv_iconst (v := 1) hx hb dX3_run_29 (by decide) ?_
  have hP9 := hP.sub (ws' := [(f0, .inr (3, [.ref hs, .ref c0, .int (nI n), .int (nI lv), .int (nI mr), .int (nI cr)])), (hs, .inl (cH, 12, .inr (.inr (.inr (.inr (hf)))))), (c0, .inr (0, [.ref s0, .ref t0])), (s0, .inr (1, [.ref sa])), (sa, .inl (cJ, 17, .inr (.inl (fun j => lN (e1 j))))), (t0, .inr (1, [.ref ta])), (ta, .inl (cJ, 17, .inr (.inl (fun j => lN (e2 j))))), (h0, .inr (2, [.ref ea, .ref pa, .int (nI (hv_s s)), .int (nI (hv_o s o)), .int (nI (hv_D (upd e (hv_slot s o) x) (va_up b (hv_slot s o) q) (hv_s s) (hv_s s))), .int (nI (hv_N (upd e (hv_slot s o) x) (va_up b (hv_slot s o) q) (hv_s s) (hv_s s))), .int (nI (hv_X (upd e (hv_slot s o) x) (va_up b (hv_slot s o) q) (hv_s s) (hv_s s))), .int (zI (tk_m mk (hv_N (upd e (hv_slot s o) x) (va_up b (hv_slot s o) q) (hv_s s) (hv_s s)) (hv_X (upd e (hv_slot s o) x) (va_up b (hv_slot s o) q) (hv_s s) (hv_s s)) lv mr cr)), .int (nI (tk_t mk tm (hv_N (upd e (hv_slot s o) x) (va_up b (hv_slot s o) q) (hv_s s) (hv_s s)) (hv_X (upd e (hv_slot s o) x) (va_up b (hv_slot s o) q) (hv_s s) (hv_s s)) lv mr)), .int je, .int (nI jf)])), (ea, .inl (cI, 48, .inl ((upd e (hv_slot s o) x)))), (pa, .inl (cZ, 48, .inl (fun j => zI ((va_up b (hv_slot s o) q) j))))]) [1, 0, 2, 3, 4, 5, 6, 7, 8, 9] rfl
  have hD9 := hD.sub (ws' := [(f0, .inr (3, [.ref hs, .ref c0, .int (nI n), .int (nI lv), .int (nI mr), .int (nI cr)])), (hs, .inl (cH, 12, .inr (.inr (.inr (.inr (hf)))))), (c0, .inr (0, [.ref s0, .ref t0])), (s0, .inr (1, [.ref sa])), (sa, .inl (cJ, 17, .inr (.inl (fun j => lN (e1 j))))), (t0, .inr (1, [.ref ta])), (ta, .inl (cJ, 17, .inr (.inl (fun j => lN (e2 j))))), (h0, .inr (2, [.ref ea, .ref pa, .int (nI (hv_s s)), .int (nI (hv_o s o)), .int (nI (hv_D (upd e (hv_slot s o) x) (va_up b (hv_slot s o) q) (hv_s s) (hv_s s))), .int (nI (hv_N (upd e (hv_slot s o) x) (va_up b (hv_slot s o) q) (hv_s s) (hv_s s))), .int (nI (hv_X (upd e (hv_slot s o) x) (va_up b (hv_slot s o) q) (hv_s s) (hv_s s))), .int (zI (tk_m mk (hv_N (upd e (hv_slot s o) x) (va_up b (hv_slot s o) q) (hv_s s) (hv_s s)) (hv_X (upd e (hv_slot s o) x) (va_up b (hv_slot s o) q) (hv_s s) (hv_s s)) lv mr cr)), .int (nI (tk_t mk tm (hv_N (upd e (hv_slot s o) x) (va_up b (hv_slot s o) q) (hv_s s) (hv_s s)) (hv_X (upd e (hv_slot s o) x) (va_up b (hv_slot s o) q) (hv_s s) (hv_s s)) lv mr)), .int je, .int (nI jf)])), (ea, .inl (cI, 48, .inl ((upd e (hv_slot s o) x)))), (pa, .inl (cZ, 48, .inl (fun j => zI ((va_up b (hv_slot s o) q) j))))]) [1, 0, 2, 3, 4, 5, 6, 7, 8, 9] (by decide) rfl
  have hK9 := hK.sub (tys' := [(cH, .object RX2), (cJ, .long), (cI, .int), (cZ, .boolean)]) [0, 1, 2, 3] rfl
  exact W.zret (v := 1) (ty := .boolean) hx hb hr rfl (fun zt zht hW => ⟨⟨1, (e1, e2), rfl, rfl, by rw [zht]; exact hP9, va_K.moved hW.alike hK9, hD9⟩, hS.F zht⟩) hS.2.2 dX3_run_30 hlocks
set_option maxHeartbeats 4000000 in
set_option maxRecDepth 100000 in
theorem c_fla_judge (l : Launch) (dC : Nat → ClassId) (dI : Nat → Nat → Nat) (f0 hs c0 s0 sa t0 ta h0 ea pa : Nat) (cH cJ cI cZ : ClassId) (lv mr cr : Nat) (ds dt : Nat → Nat) (n i : Nat) (hf : Nat → Option Nat) (s o : Nat) (x4 x5 x6 : Int32) (mk : Bool) (tm : Nat) (je : Int32) (jf : Nat) (e : Nat → Int32) (b : Nat → Bool) (x : Int32) (q : Bool) (sz : Nat) (hn12 : n ≤ 12) (hin_ : i < n) (hfi : hf i = some h0) (hlv : lv ≤ 999) (hmr : mr ≤ 1000) (hcr : cr ≤ 1000) (hs48 : s ≤ 48) (ho : o < 48) (hjf : jf ≤ 2) (hed : fv_ed x = true) : Met l yX3_judge wsX3_judge ({ frames := 4, cells := 0, slots := 0, locals := 97 } : Room) (va_Pc [.ref f0, .int (nI i), .int x, .int (zI q)] (fw_pW (dC, dI) vwCl [(cH, .object RX2), (cJ, .long), (cI, .int), (cZ, .boolean)] [(f0, .inr (3, [.ref hs, .ref c0, .int (nI n), .int (nI lv), .int (nI mr), .int (nI cr)])), (hs, .inl (cH, 12, .inr (.inr (.inr (.inr (hf)))))), (c0, .inr (0, [.ref s0, .ref t0])), (s0, .inr (1, [.ref sa])), (sa, .inl (cJ, 17, .inr (.inl (fun j => lN (ds j))))), (t0, .inr (1, [.ref ta])), (ta, .inl (cJ, 17, .inr (.inl (fun j => lN (dt j))))), (h0, .inr (2, [.ref ea, .ref pa, .int (nI s), .int (nI o), .int x4, .int x5, .int x6, .int (zI mk), .int (nI tm), .int je, .int (nI jf)])), (ea, .inl (cI, 48, .inl (e))), (pa, .inl (cZ, 48, .inl (fun j => zI (b j))))] sz)) (va_Qi (S := (Nat → Nat) × (Nat → Nat)) (fun r _ => r = jv_V mk q (jv_f je x jf)) (fun u t => fw_q (dC, dI) vwCl [(cH, .object RX2), (cJ, .long), (cI, .int), (cZ, .boolean)] (va_A [(f0, .inr (3, [.ref hs, .ref c0, .int (nI n), .int (nI lv), .int (nI mr), .int (nI cr)])), (hs, .inl (cH, 12, .inr (.inr (.inr (.inr (hf)))))), (c0, .inr (0, [.ref s0, .ref t0])), (s0, .inr (1, [.ref sa])), (sa, .inl (cJ, 17, .inr (.inl (fun j => lN (ds j))))), (t0, .inr (1, [.ref ta])), (ta, .inl (cJ, 17, .inr (.inl (fun j => lN (dt j))))), (h0, .inr (2, [.ref ea, .ref pa, .int (nI s), .int (nI o), .int x4, .int x5, .int x6, .int (zI mk), .int (nI tm), .int je, .int (nI jf)])), (ea, .inl (cI, 48, .inl (e))), (pa, .inl (cZ, 48, .inl (fun j => zI (b j))))] sz) [(f0, .inr (3, [.ref hs, .ref c0, .int (nI n), .int (nI lv), .int (nI mr), .int (nI cr)])), (hs, .inl (cH, 12, .inr (.inr (.inr (.inr (hf)))))), (c0, .inr (0, [.ref s0, .ref t0])), (s0, .inr (1, [.ref sa])), (sa, .inl (cJ, 17, .inr (.inl (fun j => lN (u.1 j))))), (t0, .inr (1, [.ref ta])), (ta, .inl (cJ, 17, .inr (.inl (fun j => lN (u.2 j))))), (h0, .inr (2, [.ref ea, .ref pa, .int (nI (hv_s s)), .int (nI (hv_o s o)), .int (nI (hv_D (upd e (hv_slot s o) x) (va_up b (hv_slot s o) q) (hv_s s) (hv_s s))), .int (nI (hv_N (upd e (hv_slot s o) x) (va_up b (hv_slot s o) q) (hv_s s) (hv_s s))), .int (nI (hv_X (upd e (hv_slot s o) x) (va_up b (hv_slot s o) q) (hv_s s) (hv_s s))), .int (zI (tk_m mk (hv_N (upd e (hv_slot s o) x) (va_up b (hv_slot s o) q) (hv_s s) (hv_s s)) (hv_X (upd e (hv_slot s o) x) (va_up b (hv_slot s o) q) (hv_s s) (hv_s s)) lv mr cr)), .int (nI (tk_t mk tm (hv_N (upd e (hv_slot s o) x) (va_up b (hv_slot s o) q) (hv_s s) (hv_s s)) (hv_X (upd e (hv_slot s o) x) (va_up b (hv_slot s o) q) (hv_s s) (hv_s s)) lv mr)), .int x, .int (nI (jv_n mk q (jv_f je x jf)))])), (ea, .inl (cI, 48, .inl ((upd e (hv_slot s o) x)))), (pa, .inl (cZ, 48, .inl (fun j => zI ((va_up b (hv_slot s o) q) j))))] t) (va_A [(f0, .inr (3, [.ref hs, .ref c0, .int (nI n), .int (nI lv), .int (nI mr), .int (nI cr)])), (hs, .inl (cH, 12, .inr (.inr (.inr (.inr (hf)))))), (c0, .inr (0, [.ref s0, .ref t0])), (s0, .inr (1, [.ref sa])), (sa, .inl (cJ, 17, .inr (.inl (fun j => lN (ds j))))), (t0, .inr (1, [.ref ta])), (ta, .inl (cJ, 17, .inr (.inl (fun j => lN (dt j))))), (h0, .inr (2, [.ref ea, .ref pa, .int (nI s), .int (nI o), .int x4, .int x5, .int x6, .int (zI mk), .int (nI tm), .int je, .int (nI jf)])), (ea, .inl (cI, 48, .inl (e))), (pa, .inl (cZ, 48, .inl (fun j => zI (b j))))] sz)) 0 0 (va_A [(f0, .inr (3, [.ref hs, .ref c0, .int (nI n), .int (nI lv), .int (nI mr), .int (nI cr)])), (hs, .inl (cH, 12, .inr (.inr (.inr (.inr (hf)))))), (c0, .inr (0, [.ref s0, .ref t0])), (s0, .inr (1, [.ref sa])), (sa, .inl (cJ, 17, .inr (.inl (fun j => lN (ds j))))), (t0, .inr (1, [.ref ta])), (ta, .inl (cJ, 17, .inr (.inl (fun j => lN (dt j))))), (h0, .inr (2, [.ref ea, .ref pa, .int (nI s), .int (nI o), .int x4, .int x5, .int x6, .int (zI mk), .int (nI tm), .int je, .int (nI jf)])), (ea, .inl (cI, 48, .inl (e))), (pa, .inl (cZ, 48, .inl (fun j => zI (b j))))] sz) := by
  refine fw_metW (cc := cX3_judge) (maxL := 6) (ret := (some .int)) (by decide) rfl (Nat.le_of_ble_eq_true rfl) ?_
  intro zp ze zs zm zbelow zmeth zc ls hx hb hr hts hown hlocks hml hin hN hsz hP hK hD hA hS hl
  generalize hAe : (va_A [(f0, .inr (3, [.ref hs, .ref c0, .int (nI n), .int (nI lv), .int (nI mr), .int (nI cr)])), (hs, .inl (cH, 12, .inr (.inr (.inr (.inr (hf)))))), (c0, .inr (0, [.ref s0, .ref t0])), (s0, .inr (1, [.ref sa])), (sa, .inl (cJ, 17, .inr (.inl (fun j => lN (ds j))))), (t0, .inr (1, [.ref ta])), (ta, .inl (cJ, 17, .inr (.inl (fun j => lN (dt j))))), (h0, .inr (2, [.ref ea, .ref pa, .int (nI s), .int (nI o), .int x4, .int x5, .int x6, .int (zI mk), .int (nI tm), .int je, .int (nI jf)])), (ea, .inl (cI, 48, .inl (e))), (pa, .inl (cZ, 48, .inl (fun j => zI (b j))))] sz) = A at hD hA hS ⊢
  have hown : zs.vm.findClass RX3 = some zm.cls := hown
  have hl : lv_has ls 6 [(0, .ref f0), (1, .int (nI i)), (2, .int x), (3, .int (zI q))] := hl
  refine lv_aload_n hx hb dX3_judge_0 rfl (lv_at hl 0 rfl) ?_
  refine lv_iload_n hx hb dX3_judge_1 rfl (lv_at hl 1 rfl) ?_
  have hPc := hP.sub (ws' := [(f0, .inr (3, [.ref hs, .ref c0, .int (nI n), .int (nI lv), .int (nI mr), .int (nI cr)])), (hs, .inl (cH, 12, .inr (.inr (.inr (.inr (hf))))))]) [0, 1] rfl
  have hKc := hK.sub (tys' := [(cH, .object RX2)]) [0] rfl
  refine va_csq (va_runV (As := [.int (nI i)]) (rest := []) ⟨hx, hb, hml, hown, hts⟩ (c_fla_find l dC dI f0 hs cH (.ref c0) (.int (nI lv)) (.int (nI mr)) (.int (nI cr)) n hf i h0 hn12 hin_ hfi) (cwV 1 hts gX3_judge_X3_find rfl rfl rfl (by decide +kernel) ⟨Nat.le_of_ble_eq_true rfl, Nat.le_of_ble_eq_true rfl⟩) (fw_preVR hN hKc hPc (ci := 3) (q0 := 0) rfl rfl) rfl rfl hl.1 rfl (lv_room (Nat.le_of_ble_eq_true rfl)) dX3_judge_2 ⟨Nat.le_of_ble_eq_true rfl, Nat.le_of_ble_eq_true rfl⟩).run (fun r_2 hr_2 => ?_)
  obtain rfl : r_2 = some h0 := hr_2
  refine W.eq (g2 := F0 zm 5 ls [.ref h0]) rfl ?_
  refine lv_astore (lv' := [(4, .ref h0), (0, .ref f0), (1, .int (nI i)), (2, .int x), (3, .int (zI q))]) hx hb dX3_judge_5 hl (by decide) rfl (fun ls hl => ?_)
  refine lv_aload hx hb dX3_judge_7 (lv_at hl 0 rfl) ?_
  refine lv_ifnull hx hb dX3_judge_9 ?_
  refine lv_iload_n hx hb dX3_judge_12 rfl (lv_at hl 3 rfl) ?_
  have hPc := hP.sub (ws' := []) [] rfl
  have hKc := hK.sub (tys' := []) [] rfl
  refine vp_callSi (va_runS (As := [.int x]) (rest := []) ⟨hx, hb, hml, hown, hts⟩ (c_fla_isEdition l dC dI x) (va_cwS 1 hts gX3_judge_X3_isEdition rfl rfl rfl (by decide +kernel) ⟨Nat.le_of_ble_eq_true rfl, Nat.le_of_ble_eq_true rfl⟩) (fw_preSR hN hKc hPc) rfl rfl hl.1 rfl (lv_room (Nat.le_of_ble_eq_true rfl)) dX3_judge_13 ⟨Nat.le_of_ble_eq_true rfl, Nat.le_of_ble_eq_true rfl⟩).run (fun r_13 hr_13 => ?_)
  obtain rfl : r_13 = zI (fv_ed x) := hr_13
  refine lv_if_ne (tgt := 21) hx hb dX3_judge_16 (by decide) (fun _ => ?_) (fun c_16 => absurd c_16 (by rw [hed]; decide))
  refine lv_aload hx hb dX3_judge_21 (lv_at hl 0 rfl) ?_
  refine lv_iload_n hx hb dX3_judge_23 rfl (lv_at hl 3 rfl) ?_
  refine lv_iload_n hx hb dX3_judge_24 rfl (lv_at hl 4 rfl) ?_
  have hPc := hP.sub (ws' := [(h0, .inr (2, [.ref ea, .ref pa, .int (nI s), .int (nI o), .int x4, .int x5, .int x6, .int (zI mk), .int (nI tm), .int je, .int (nI jf)]))]) [7] rfl
  have hKc := hK.sub (tys' := []) [] rfl
  have hDc := hD.sub (ws' := [(h0, .inr (2, [.ref ea, .ref pa, .int (nI s), .int (nI o), .int x4, .int x5, .int x6, .int (zI mk), .int (nI tm), .int je, .int (nI jf)]))]) [7] (by decide) rfl
  have hFc := va_free (wc := [(h0, .inr (2, [.ref ea, .ref pa, .int (nI s), .int (nI o), .int x4, .int x5, .int x6, .int (zI mk), .int (nI tm), .int je, .int (nI jf)]))]) hD hS hA [7] rfl
  refine va_calli (va_runV (As := [.int x, .int (zI q)]) (rest := []) ⟨hx, hb, hml, hown, hts⟩ (c_his_next l dC dI h0 (.ref ea) (.ref pa) (.int (nI s)) (.int (nI o)) (.int x4) (.int x5) (.int x6) (.int (nI tm)) mk je jf x q zs.heap.size hjf) (cwV 2 hts gX3_judge_X2_nextVerdict rfl rfl rfl (by decide +kernel) ⟨Nat.le_of_ble_eq_true rfl, Nat.le_of_ble_eq_true rfl⟩) (fw_preVW hN hKc hPc hDc (ci := 2) (q0 := 0) rfl rfl) rfl rfl hl.1 rfl (lv_room (Nat.le_of_ble_eq_true rfl)) dX3_judge_25 ⟨Nat.le_of_ble_eq_true rfl, Nat.le_of_ble_eq_true rfl⟩) hS (fun q _ h => hFc q h) hFc (fun r_25 u zt H1 locs zht hvm hw hB hz1 hk1 hS => ?_)
  obtain ⟨⟩ := u
  obtain ⟨hP1, hK1, hD1⟩ := hB
  rw [zht] at hP1
  obtain ⟨hP, hD⟩ := va_join (wr := [(f0, .inr (3, [.ref hs, .ref c0, .int (nI n), .int (nI lv), .int (nI mr), .int (nI cr)])), (hs, .inl (cH, 12, .inr (.inr (.inr (.inr (hf)))))), (c0, .inr (0, [.ref s0, .ref t0])), (s0, .inr (1, [.ref sa])), (sa, .inl (cJ, 17, .inr (.inl (fun j => lN (ds j))))), (t0, .inr (1, [.ref ta])), (ta, .inl (cJ, 17, .inr (.inl (fun j => lN (dt j))))), (ea, .inl (cI, 48, .inl (e))), (pa, .inl (cZ, 48, .inl (fun j => zI (b j))))]) (w1 := [(h0, .inr (2, [.ref ea, .ref pa, .int (nI s), .int (nI o), .int x4, .int x5, .int x6, .int (zI mk), .int (nI tm), .int x, .int (nI (jv_n mk q (jv_f je x jf)))]))]) hP hD [7] [0, 1, 2, 3, 4, 5, 6, 8, 9] rfl rfl (by decide) (by decide) hk1 hFc hP1 hD1
  generalize H1 = H at hP hS ⊢
  have hP : va_P (dC, dI) vwCl [(f0, .inr (3, [.ref hs, .ref c0, .int (nI n), .int (nI lv), .int (nI mr), .int (nI cr)])), (hs, .inl (cH, 12, .inr (.inr (.inr (.inr (hf)))))), (c0, .inr (0, [.ref s0, .ref t0])), (s0, .inr (1, [.ref sa])), (sa, .inl (cJ, 17, .inr (.inl (fun j => lN (ds j))))), (t0, .inr (1, [.ref ta])), (ta, .inl (cJ, 17, .inr (.inl (fun j => lN (dt j))))), (ea, .inl (cI, 48, .inl (e))), (pa, .inl (cZ, 48, .inl (fun j => zI (b j)))), (h0, .inr (2, [.ref ea, .ref pa, .int (nI s), .int (nI o), .int x4, .int x5, .int x6, .int (zI mk), .int (nI tm), .int x, .int (nI (jv_n mk q (jv_f je x jf)))]))] H := hP
  have hD : va_D A [(f0, .inr (3, [.ref hs, .ref c0, .int (nI n), .int (nI lv), .int (nI mr), .int (nI cr)])), (hs, .inl (cH, 12, .inr (.inr (.inr (.inr (hf)))))), (c0, .inr (0, [.ref s0, .ref t0])), (s0, .inr (1, [.ref sa])), (sa, .inl (cJ, 17, .inr (.inl (fun j => lN (ds j))))), (t0, .inr (1, [.ref ta])), (ta, .inl (cJ, 17, .inr (.inl (fun j => lN (dt j))))), (ea, .inl (cI, 48, .inl (e))), (pa, .inl (cZ, 48, .inl (fun j => zI (b j)))), (h0, .inr (2, [.ref ea, .ref pa, .int (nI s), .int (nI o), .int x4, .int x5, .int x6, .int (zI mk), .int (nI tm), .int x, .int (nI (jv_n mk q (jv_f je x jf)))]))] := hD
  obtain rfl : r_25 = jv_V mk q (jv_f je x jf) := hw
  refine lv_istore (lv' := [(5, .int (jv_V mk q (jv_f je x jf))), (4, .ref h0), (0, .ref f0), (1, .int (nI i)), (2, .int x), (3, .int (zI q))]) hx hb dX3_judge_28 hl (by decide) rfl (fun ls hl => ?_)
  refine lv_aload_n hx hb dX3_judge_30 rfl (lv_at hl 2 rfl) ?_
  refine lv_aload hx hb dX3_judge_31 (lv_at hl 1 rfl) ?_
  refine lv_iload_n hx hb dX3_judge_33 rfl (lv_at hl 4 rfl) ?_
  refine lv_iload_n hx hb dX3_judge_34 rfl (lv_at hl 5 rfl) ?_
  have hPc := hP.sub (ws' := [(f0, .inr (3, [.ref hs, .ref c0, .int (nI n), .int (nI lv), .int (nI mr), .int (nI cr)])), (c0, .inr (0, [.ref s0, .ref t0])), (s0, .inr (1, [.ref sa])), (sa, .inl (cJ, 17, .inr (.inl (fun j => lN (ds j))))), (t0, .inr (1, [.ref ta])), (ta, .inl (cJ, 17, .inr (.inl (fun j => lN (dt j))))), (h0, .inr (2, [.ref ea, .ref pa, .int (nI s), .int (nI o), .int x4, .int x5, .int x6, .int (zI mk), .int (nI tm), .int x, .int (nI (jv_n mk q (jv_f je x jf)))])), (ea, .inl (cI, 48, .inl (e))), (pa, .inl (cZ, 48, .inl (fun j => zI (b j))))]) [0, 2, 3, 4, 5, 6, 9, 7, 8] rfl
  have hKc := hK.sub (tys' := [(cJ, .long), (cI, .int), (cZ, .boolean)]) [1, 2, 3] rfl
  have hDc := hD.sub (ws' := [(f0, .inr (3, [.ref hs, .ref c0, .int (nI n), .int (nI lv), .int (nI mr), .int (nI cr)])), (c0, .inr (0, [.ref s0, .ref t0])), (s0, .inr (1, [.ref sa])), (sa, .inl (cJ, 17, .inr (.inl (fun j => lN (ds j))))), (t0, .inr (1, [.ref ta])), (ta, .inl (cJ, 17, .inr (.inl (fun j => lN (dt j))))), (h0, .inr (2, [.ref ea, .ref pa, .int (nI s), .int (nI o), .int x4, .int x5, .int x6, .int (zI mk), .int (nI tm), .int x, .int (nI (jv_n mk q (jv_f je x jf)))])), (ea, .inl (cI, 48, .inl (e))), (pa, .inl (cZ, 48, .inl (fun j => zI (b j))))]) [0, 2, 3, 4, 5, 6, 9, 7, 8] (by decide) rfl
  have hFc := va_free (wc := [(f0, .inr (3, [.ref hs, .ref c0, .int (nI n), .int (nI lv), .int (nI mr), .int (nI cr)])), (c0, .inr (0, [.ref s0, .ref t0])), (s0, .inr (1, [.ref sa])), (sa, .inl (cJ, 17, .inr (.inl (fun j => lN (ds j))))), (t0, .inr (1, [.ref ta])), (ta, .inl (cJ, 17, .inr (.inl (fun j => lN (dt j))))), (h0, .inr (2, [.ref ea, .ref pa, .int (nI s), .int (nI o), .int x4, .int x5, .int x6, .int (zI mk), .int (nI tm), .int x, .int (nI (jv_n mk q (jv_f je x jf)))])), (ea, .inl (cI, 48, .inl (e))), (pa, .inl (cZ, 48, .inl (fun j => zI (b j))))]) hD hS hA [0, 2, 3, 4, 5, 6, 9, 7, 8] rfl
  refine va_callv (va_runV (As := [.ref h0, .int x, .int (zI q)]) (rest := []) ⟨hx, hb, hml, hown, hts⟩ (c_fla_take l dC dI f0 c0 s0 sa t0 ta h0 ea pa cJ cI cZ (.ref hs) (.int (nI n)) lv mr cr ds dt s o x4 x5 x6 mk tm (.int x) (.int (nI (jv_n mk q (jv_f je x jf)))) e b x q H.size hlv hmr hcr hs48 ho) (cwV 3 hts gX3_judge_X3_take rfl rfl rfl (by decide +kernel) ⟨Nat.le_of_ble_eq_true rfl, Nat.le_of_ble_eq_true rfl⟩) (fw_preVW hN hKc hPc hDc (ci := 3) (q0 := 0) rfl rfl) rfl rfl hl.1 rfl (lv_room (Nat.le_of_ble_eq_true rfl)) dX3_judge_35 ⟨Nat.le_of_ble_eq_true rfl, Nat.le_of_ble_eq_true rfl⟩) hS (fun q _ h => hFc q h) hFc (fun u zt H1 locs zht hvm hw hB hz1 hk1 hS => ?_)
  obtain ⟨e1, e2⟩ := u
  obtain ⟨hP1, hK1, hD1⟩ := hB
  rw [zht] at hP1
  obtain ⟨hP, hD⟩ := va_join (wr := [(hs, .inl (cH, 12, .inr (.inr (.inr (.inr (hf))))))]) (w1 := [(f0, .inr (3, [.ref hs, .ref c0, .int (nI n), .int (nI lv), .int (nI mr), .int (nI cr)])), (c0, .inr (0, [.ref s0, .ref t0])), (s0, .inr (1, [.ref sa])), (sa, .inl (cJ, 17, .inr (.inl (fun j => lN (e1 j))))), (t0, .inr (1, [.ref ta])), (ta, .inl (cJ, 17, .inr (.inl (fun j => lN (e2 j))))), (h0, .inr (2, [.ref ea, .ref pa, .int (nI (hv_s s)), .int (nI (hv_o s o)), .int (nI (hv_D (upd e (hv_slot s o) x) (va_up b (hv_slot s o) q) (hv_s s) (hv_s s))), .int (nI (hv_N (upd e (hv_slot s o) x) (va_up b (hv_slot s o) q) (hv_s s) (hv_s s))), .int (nI (hv_X (upd e (hv_slot s o) x) (va_up b (hv_slot s o) q) (hv_s s) (hv_s s))), .int (zI (tk_m mk (hv_N (upd e (hv_slot s o) x) (va_up b (hv_slot s o) q) (hv_s s) (hv_s s)) (hv_X (upd e (hv_slot s o) x) (va_up b (hv_slot s o) q) (hv_s s) (hv_s s)) lv mr cr)), .int (nI (tk_t mk tm (hv_N (upd e (hv_slot s o) x) (va_up b (hv_slot s o) q) (hv_s s) (hv_s s)) (hv_X (upd e (hv_slot s o) x) (va_up b (hv_slot s o) q) (hv_s s) (hv_s s)) lv mr)), .int x, .int (nI (jv_n mk q (jv_f je x jf)))])), (ea, .inl (cI, 48, .inl ((upd e (hv_slot s o) x)))), (pa, .inl (cZ, 48, .inl (fun j => zI ((va_up b (hv_slot s o) q) j))))]) hP hD [0, 2, 3, 4, 5, 6, 9, 7, 8] [1] rfl rfl (by decide) (by decide) hk1 hFc hP1 hD1
  generalize H1 = H at hP hS ⊢
  have hP : va_P (dC, dI) vwCl [(hs, .inl (cH, 12, .inr (.inr (.inr (.inr (hf)))))), (f0, .inr (3, [.ref hs, .ref c0, .int (nI n), .int (nI lv), .int (nI mr), .int (nI cr)])), (c0, .inr (0, [.ref s0, .ref t0])), (s0, .inr (1, [.ref sa])), (sa, .inl (cJ, 17, .inr (.inl (fun j => lN (e1 j))))), (t0, .inr (1, [.ref ta])), (ta, .inl (cJ, 17, .inr (.inl (fun j => lN (e2 j))))), (h0, .inr (2, [.ref ea, .ref pa, .int (nI (hv_s s)), .int (nI (hv_o s o)), .int (nI (hv_D (upd e (hv_slot s o) x) (va_up b (hv_slot s o) q) (hv_s s) (hv_s s))), .int (nI (hv_N (upd e (hv_slot s o) x) (va_up b (hv_slot s o) q) (hv_s s) (hv_s s))), .int (nI (hv_X (upd e (hv_slot s o) x) (va_up b (hv_slot s o) q) (hv_s s) (hv_s s))), .int (zI (tk_m mk (hv_N (upd e (hv_slot s o) x) (va_up b (hv_slot s o) q) (hv_s s) (hv_s s)) (hv_X (upd e (hv_slot s o) x) (va_up b (hv_slot s o) q) (hv_s s) (hv_s s)) lv mr cr)), .int (nI (tk_t mk tm (hv_N (upd e (hv_slot s o) x) (va_up b (hv_slot s o) q) (hv_s s) (hv_s s)) (hv_X (upd e (hv_slot s o) x) (va_up b (hv_slot s o) q) (hv_s s) (hv_s s)) lv mr)), .int x, .int (nI (jv_n mk q (jv_f je x jf)))])), (ea, .inl (cI, 48, .inl ((upd e (hv_slot s o) x)))), (pa, .inl (cZ, 48, .inl (fun j => zI ((va_up b (hv_slot s o) q) j))))] H := hP
  have hD : va_D A [(hs, .inl (cH, 12, .inr (.inr (.inr (.inr (hf)))))), (f0, .inr (3, [.ref hs, .ref c0, .int (nI n), .int (nI lv), .int (nI mr), .int (nI cr)])), (c0, .inr (0, [.ref s0, .ref t0])), (s0, .inr (1, [.ref sa])), (sa, .inl (cJ, 17, .inr (.inl (fun j => lN (e1 j))))), (t0, .inr (1, [.ref ta])), (ta, .inl (cJ, 17, .inr (.inl (fun j => lN (e2 j))))), (h0, .inr (2, [.ref ea, .ref pa, .int (nI (hv_s s)), .int (nI (hv_o s o)), .int (nI (hv_D (upd e (hv_slot s o) x) (va_up b (hv_slot s o) q) (hv_s s) (hv_s s))), .int (nI (hv_N (upd e (hv_slot s o) x) (va_up b (hv_slot s o) q) (hv_s s) (hv_s s))), .int (nI (hv_X (upd e (hv_slot s o) x) (va_up b (hv_slot s o) q) (hv_s s) (hv_s s))), .int (zI (tk_m mk (hv_N (upd e (hv_slot s o) x) (va_up b (hv_slot s o) q) (hv_s s) (hv_s s)) (hv_X (upd e (hv_slot s o) x) (va_up b (hv_slot s o) q) (hv_s s) (hv_s s)) lv mr cr)), .int (nI (tk_t mk tm (hv_N (upd e (hv_slot s o) x) (va_up b (hv_slot s o) q) (hv_s s) (hv_s s)) (hv_X (upd e (hv_slot s o) x) (va_up b (hv_slot s o) q) (hv_s s) (hv_s s)) lv mr)), .int x, .int (nI (jv_n mk q (jv_f je x jf)))])), (ea, .inl (cI, 48, .inl ((upd e (hv_slot s o) x)))), (pa, .inl (cZ, 48, .inl (fun j => zI ((va_up b (hv_slot s o) q) j))))] := hD
  refine lv_iload hx hb dX3_judge_38 (lv_at hl 0 rfl) ?_
  have hP9 := hP.sub (ws' := [(f0, .inr (3, [.ref hs, .ref c0, .int (nI n), .int (nI lv), .int (nI mr), .int (nI cr)])), (hs, .inl (cH, 12, .inr (.inr (.inr (.inr (hf)))))), (c0, .inr (0, [.ref s0, .ref t0])), (s0, .inr (1, [.ref sa])), (sa, .inl (cJ, 17, .inr (.inl (fun j => lN (e1 j))))), (t0, .inr (1, [.ref ta])), (ta, .inl (cJ, 17, .inr (.inl (fun j => lN (e2 j))))), (h0, .inr (2, [.ref ea, .ref pa, .int (nI (hv_s s)), .int (nI (hv_o s o)), .int (nI (hv_D (upd e (hv_slot s o) x) (va_up b (hv_slot s o) q) (hv_s s) (hv_s s))), .int (nI (hv_N (upd e (hv_slot s o) x) (va_up b (hv_slot s o) q) (hv_s s) (hv_s s))), .int (nI (hv_X (upd e (hv_slot s o) x) (va_up b (hv_slot s o) q) (hv_s s) (hv_s s))), .int (zI (tk_m mk (hv_N (upd e (hv_slot s o) x) (va_up b (hv_slot s o) q) (hv_s s) (hv_s s)) (hv_X (upd e (hv_slot s o) x) (va_up b (hv_slot s o) q) (hv_s s) (hv_s s)) lv mr cr)), .int (nI (tk_t mk tm (hv_N (upd e (hv_slot s o) x) (va_up b (hv_slot s o) q) (hv_s s) (hv_s s)) (hv_X (upd e (hv_slot s o) x) (va_up b (hv_slot s o) q) (hv_s s) (hv_s s)) lv mr)), .int x, .int (nI (jv_n mk q (jv_f je x jf)))])), (ea, .inl (cI, 48, .inl ((upd e (hv_slot s o) x)))), (pa, .inl (cZ, 48, .inl (fun j => zI ((va_up b (hv_slot s o) q) j))))]) [1, 0, 2, 3, 4, 5, 6, 7, 8, 9] rfl
  have hD9 := hD.sub (ws' := [(f0, .inr (3, [.ref hs, .ref c0, .int (nI n), .int (nI lv), .int (nI mr), .int (nI cr)])), (hs, .inl (cH, 12, .inr (.inr (.inr (.inr (hf)))))), (c0, .inr (0, [.ref s0, .ref t0])), (s0, .inr (1, [.ref sa])), (sa, .inl (cJ, 17, .inr (.inl (fun j => lN (e1 j))))), (t0, .inr (1, [.ref ta])), (ta, .inl (cJ, 17, .inr (.inl (fun j => lN (e2 j))))), (h0, .inr (2, [.ref ea, .ref pa, .int (nI (hv_s s)), .int (nI (hv_o s o)), .int (nI (hv_D (upd e (hv_slot s o) x) (va_up b (hv_slot s o) q) (hv_s s) (hv_s s))), .int (nI (hv_N (upd e (hv_slot s o) x) (va_up b (hv_slot s o) q) (hv_s s) (hv_s s))), .int (nI (hv_X (upd e (hv_slot s o) x) (va_up b (hv_slot s o) q) (hv_s s) (hv_s s))), .int (zI (tk_m mk (hv_N (upd e (hv_slot s o) x) (va_up b (hv_slot s o) q) (hv_s s) (hv_s s)) (hv_X (upd e (hv_slot s o) x) (va_up b (hv_slot s o) q) (hv_s s) (hv_s s)) lv mr cr)), .int (nI (tk_t mk tm (hv_N (upd e (hv_slot s o) x) (va_up b (hv_slot s o) q) (hv_s s) (hv_s s)) (hv_X (upd e (hv_slot s o) x) (va_up b (hv_slot s o) q) (hv_s s) (hv_s s)) lv mr)), .int x, .int (nI (jv_n mk q (jv_f je x jf)))])), (ea, .inl (cI, 48, .inl ((upd e (hv_slot s o) x)))), (pa, .inl (cZ, 48, .inl (fun j => zI ((va_up b (hv_slot s o) q) j))))]) [1, 0, 2, 3, 4, 5, 6, 7, 8, 9] (by decide) rfl
  have hK9 := hK.sub (tys' := [(cH, .object RX2), (cJ, .long), (cI, .int), (cZ, .boolean)]) [0, 1, 2, 3] rfl
  exact W.iret (v := (jv_V mk q (jv_f je x jf))) hx hb hr (fun zt zht hW => ⟨⟨(jv_V mk q (jv_f je x jf)), (e1, e2), rfl, rfl, by rw [zht]; exact hP9, va_K.moved hW.alike hK9, hD9⟩, hS.F zht⟩) hS.2.2 dX3_judge_40 hlocks
set_option maxHeartbeats 4000000 in
set_option maxRecDepth 100000 in
theorem c_fla_bound (l : Launch) (dC : Nat → ClassId) (dI : Nat → Nat → Nat) (f0 hs c0 s0 sa t0 ta h0 : Nat) (cH cJ : ClassId) (v3 v4 v5 w0 w1 w2 w3 w4 w7 w8 w9 w10 : Value) (ds dt : Nat → Nat) (n i : Nat) (hf : Nat → Option Nat) (N X : Nat) (lv : Nat) (up : Bool) (sz : Nat) (hn12 : n ≤ 12) (hin_ : i < n) (hfi : hf i = some h0) (hN48 : N ≤ 48) (hXN : X ≤ N) (hl1 : 1 ≤ lv) (hl9 : lv ≤ 999) : Met l yX3_bound wsX3_bound ({ frames := 3, cells := 0, slots := 0, locals := 76 } : Room) (va_Pc [.ref f0, .int (nI i), .int (nI lv), .int (zI up)] (fw_pW (dC, dI) vwCl [(cH, .object RX2), (cJ, .long)] [(f0, .inr (3, [.ref hs, .ref c0, .int (nI n), v3, v4, v5])), (hs, .inl (cH, 12, .inr (.inr (.inr (.inr (hf)))))), (c0, .inr (0, [.ref s0, .ref t0])), (s0, .inr (1, [.ref sa])), (sa, .inl (cJ, 17, .inr (.inl (fun j => lN (ds j))))), (t0, .inr (1, [.ref ta])), (ta, .inl (cJ, 17, .inr (.inl (fun j => lN (dt j))))), (h0, .inr (2, [w0, w1, w2, w3, w4, .int (nI N), .int (nI X), w7, w8, w9, w10]))] sz)) (va_Qi (S := (Nat → Nat) × (Nat → Nat)) (fun r _ => ∃ J : Nat, r = nI (if up = true then J else 1000 - J) ∧ gv_is N (if up = true then X else N - X) lv J) (fun u t => fw_q (dC, dI) vwCl [(cH, .object RX2), (cJ, .long)] (va_A [(f0, .inr (3, [.ref hs, .ref c0, .int (nI n), v3, v4, v5])), (hs, .inl (cH, 12, .inr (.inr (.inr (.inr (hf)))))), (c0, .inr (0, [.ref s0, .ref t0])), (s0, .inr (1, [.ref sa])), (sa, .inl (cJ, 17, .inr (.inl (fun j => lN (ds j))))), (t0, .inr (1, [.ref ta])), (ta, .inl (cJ, 17, .inr (.inl (fun j => lN (dt j))))), (h0, .inr (2, [w0, w1, w2, w3, w4, .int (nI N), .int (nI X), w7, w8, w9, w10]))] sz) [(f0, .inr (3, [.ref hs, .ref c0, .int (nI n), v3, v4, v5])), (hs, .inl (cH, 12, .inr (.inr (.inr (.inr (hf)))))), (c0, .inr (0, [.ref s0, .ref t0])), (s0, .inr (1, [.ref sa])), (sa, .inl (cJ, 17, .inr (.inl (fun j => lN (u.1 j))))), (t0, .inr (1, [.ref ta])), (ta, .inl (cJ, 17, .inr (.inl (fun j => lN (u.2 j))))), (h0, .inr (2, [w0, w1, w2, w3, w4, .int (nI N), .int (nI X), w7, w8, w9, w10]))] t) (va_A [(f0, .inr (3, [.ref hs, .ref c0, .int (nI n), v3, v4, v5])), (hs, .inl (cH, 12, .inr (.inr (.inr (.inr (hf)))))), (c0, .inr (0, [.ref s0, .ref t0])), (s0, .inr (1, [.ref sa])), (sa, .inl (cJ, 17, .inr (.inl (fun j => lN (ds j))))), (t0, .inr (1, [.ref ta])), (ta, .inl (cJ, 17, .inr (.inl (fun j => lN (dt j))))), (h0, .inr (2, [w0, w1, w2, w3, w4, .int (nI N), .int (nI X), w7, w8, w9, w10]))] sz)) 0 0 (va_A [(f0, .inr (3, [.ref hs, .ref c0, .int (nI n), v3, v4, v5])), (hs, .inl (cH, 12, .inr (.inr (.inr (.inr (hf)))))), (c0, .inr (0, [.ref s0, .ref t0])), (s0, .inr (1, [.ref sa])), (sa, .inl (cJ, 17, .inr (.inl (fun j => lN (ds j))))), (t0, .inr (1, [.ref ta])), (ta, .inl (cJ, 17, .inr (.inl (fun j => lN (dt j))))), (h0, .inr (2, [w0, w1, w2, w3, w4, .int (nI N), .int (nI X), w7, w8, w9, w10]))] sz) := by
  refine fw_metW (cc := cX3_bound) (maxL := 7) (ret := (some .int)) (by decide) rfl (Nat.le_of_ble_eq_true rfl) ?_
  intro zp ze zs zm zbelow zmeth zc ls hx hb hr hts hown hlocks hml hin hN hsz hP hK hD hA hS hl
  generalize hAe : (va_A [(f0, .inr (3, [.ref hs, .ref c0, .int (nI n), v3, v4, v5])), (hs, .inl (cH, 12, .inr (.inr (.inr (.inr (hf)))))), (c0, .inr (0, [.ref s0, .ref t0])), (s0, .inr (1, [.ref sa])), (sa, .inl (cJ, 17, .inr (.inl (fun j => lN (ds j))))), (t0, .inr (1, [.ref ta])), (ta, .inl (cJ, 17, .inr (.inl (fun j => lN (dt j))))), (h0, .inr (2, [w0, w1, w2, w3, w4, .int (nI N), .int (nI X), w7, w8, w9, w10]))] sz) = A at hD hA hS ⊢
  have hown : zs.vm.findClass RX3 = some zm.cls := hown
  have hl : lv_has ls 7 [(0, .ref f0), (1, .int (nI i)), (2, .int (nI lv)), (3, .int (zI up))] := hl
  refine lv_aload_n hx hb dX3_bound_0 rfl (lv_at hl 0 rfl) ?_
  refine lv_iload_n hx hb dX3_bound_1 rfl (lv_at hl 1 rfl) ?_
  have hPc := hP.sub (ws' := [(f0, .inr (3, [.ref hs, .ref c0, .int (nI n), v3, v4, v5])), (hs, .inl (cH, 12, .inr (.inr (.inr (.inr (hf))))))]) [0, 1] rfl
  have hKc := hK.sub (tys' := [(cH, .object RX2)]) [0] rfl
  refine va_csq (va_runV (As := [.int (nI i)]) (rest := []) ⟨hx, hb, hml, hown, hts⟩ (c_fla_find l dC dI f0 hs cH (.ref c0) v3 v4 v5 n hf i h0 hn12 hin_ hfi) (cwV 1 hts gX3_bound_X3_find rfl rfl rfl (by decide +kernel) ⟨Nat.le_of_ble_eq_true rfl, Nat.le_of_ble_eq_true rfl⟩) (fw_preVR hN hKc hPc (ci := 3) (q0 := 0) rfl rfl) rfl rfl hl.1 rfl (lv_room (Nat.le_of_ble_eq_true rfl)) dX3_bound_2 ⟨Nat.le_of_ble_eq_true rfl, Nat.le_of_ble_eq_true rfl⟩).run (fun r_2 hr_2 => ?_)
  obtain rfl : r_2 = some h0 := hr_2
  refine W.eq (g2 := F0 zm 5 ls [.ref h0]) rfl ?_
  refine lv_astore (lv' := [(4, .ref h0), (0, .ref f0), (1, .int (nI i)), (2, .int (nI lv)), (3, .int (zI up))]) hx hb dX3_bound_5 hl (by decide) rfl (fun ls hl => ?_)
  refine lv_aload hx hb dX3_bound_7 (lv_at hl 0 rfl) ?_
  refine lv_ifnull hx hb dX3_bound_9 ?_
  refine lv_iload_n hx hb dX3_bound_12 rfl (lv_at hl 3 rfl) ?_
  have hPc := hP.sub (ws' := []) [] rfl
  have hKc := hK.sub (tys' := []) [] rfl
  refine vp_callSi (va_runS (As := [.int (nI lv)]) (rest := []) ⟨hx, hb, hml, hown, hts⟩ (c_fla_isLevel l dC dI (nI lv)) (va_cwS 1 hts gX3_bound_X3_isLevel rfl rfl rfl (by decide +kernel) ⟨Nat.le_of_ble_eq_true rfl, Nat.le_of_ble_eq_true rfl⟩) (fw_preSR hN hKc hPc) rfl rfl hl.1 rfl (lv_room (Nat.le_of_ble_eq_true rfl)) dX3_bound_13 ⟨Nat.le_of_ble_eq_true rfl, Nat.le_of_ble_eq_true rfl⟩).run (fun r_13 hr_13 => ?_)
  obtain rfl : r_13 = zI (fv_lv (nI lv)) := hr_13
  refine lv_if_ne (tgt := 21) hx hb dX3_bound_16 (by decide) (fun _ => ?_) (fun c_16 => absurd c_16 (by rw [fv_lv_nI hl1 hl9]; decide))
  refine lv_aload hx hb dX3_bound_21 (lv_at hl 0 rfl) ?_
  refine va_getN (D := (dC, dI)) (ci := 2) (v := .int (nI N)) (C := RX2) (T := TX2) (N := 11) hx hb hts (by decide +kernel) hown hK hP 7 rfl rfl 5 (by decide) (va_Nw.use rfl (hN.2.2.2.1)) (fun _ h9 => h9) rfl dX3_bound_23 ?_
  refine lv_istore (lv' := [(5, .int (nI N)), (4, .ref h0), (0, .ref f0), (1, .int (nI i)), (2, .int (nI lv)), (3, .int (zI up))]) hx hb dX3_bound_26 hl (by decide) rfl (fun ls hl => ?_)
  refine lv_aload hx hb dX3_bound_28 (lv_at hl 1 rfl) ?_
  refine va_getN (D := (dC, dI)) (ci := 2) (v := .int (nI X)) (C := RX2) (T := TX2) (N := 11) hx hb hts (by decide +kernel) hown hK hP 7 rfl rfl 6 (by decide) (va_Nw.use rfl (hN.2.2.2.2.1)) (fun _ h9 => h9) rfl dX3_bound_30 ?_
  refine lv_istore (lv' := [(6, .int (nI X)), (5, .int (nI N)), (4, .ref h0), (0, .ref f0), (1, .int (nI i)), (2, .int (nI lv)), (3, .int (zI up))]) hx hb dX3_bound_33 hl (by decide) rfl (fun ls hl => ?_)
  cases up
  · -- f
    refine lv_iload_n hx hb dX3_bound_35 rfl (lv_at hl 6 rfl) ?_
    refine lv_if_eq (tgt := 49) hx hb dX3_bound_36 (by decide) (fun _ => ?_) (fun c_36 => absurd (rfl) c_36)
    refine lv_sipush (v := 1000) hx hb dX3_bound_49 (by decide) ?_
    refine lv_aload_n hx hb dX3_bound_52 rfl (lv_at hl 3 rfl) ?_
    refine lv_iload hx hb dX3_bound_53 (lv_at hl 1 rfl) ?_
    refine lv_iload hx hb dX3_bound_55 (lv_at hl 1 rfl) ?_
    refine lv_iload hx hb dX3_bound_57 (lv_at hl 0 rfl) ?_
    refine lv_isub hx hb dX3_bound_59 ?_
    refine fw_i (x' := nI (N - X)) (pk_sub hXN) ?_
    refine lv_iload_n hx hb dX3_bound_60 rfl (lv_at hl 5 rfl) ?_
    have hPc := hP.sub (ws' := [(f0, .inr (3, [.ref hs, .ref c0, .int (nI n), v3, v4, v5])), (c0, .inr (0, [.ref s0, .ref t0])), (s0, .inr (1, [.ref sa])), (sa, .inl (cJ, 17, .inr (.inl (fun j => lN (ds j))))), (t0, .inr (1, [.ref ta])), (ta, .inl (cJ, 17, .inr (.inl (fun j => lN (dt j)))))]) [0, 2, 3, 4, 5, 6] rfl
    have hKc := hK.sub (tys' := [(cJ, .long)]) [1] rfl
    have hDc := hD.sub (ws' := [(f0, .inr (3, [.ref hs, .ref c0, .int (nI n), v3, v4, v5])), (c0, .inr (0, [.ref s0, .ref t0])), (s0, .inr (1, [.ref sa])), (sa, .inl (cJ, 17, .inr (.inl (fun j => lN (ds j))))), (t0, .inr (1, [.ref ta])), (ta, .inl (cJ, 17, .inr (.inl (fun j => lN (dt j)))))]) [0, 2, 3, 4, 5, 6] (by decide) rfl
    have hFc := va_free (wc := [(f0, .inr (3, [.ref hs, .ref c0, .int (nI n), v3, v4, v5])), (c0, .inr (0, [.ref s0, .ref t0])), (s0, .inr (1, [.ref sa])), (sa, .inl (cJ, 17, .inr (.inl (fun j => lN (ds j))))), (t0, .inr (1, [.ref ta])), (ta, .inl (cJ, 17, .inr (.inl (fun j => lN (dt j)))))]) hD hS hA [0, 2, 3, 4, 5, 6] rfl
    refine va_calli (va_runV (As := [.int (nI N), .int (nI (N - X)), .int (nI lv)]) (rest := [.int 1000]) ⟨hx, hb, hml, hown, hts⟩ (c_fla_great l dC dI f0 c0 s0 sa t0 ta cJ (.ref hs) (.int (nI n)) v3 v4 v5 ds dt N (N - X) lv zs.heap.size hN48 (by omega) (by omega)) (cwV 3 hts gX3_bound_X3_greatestAbove rfl rfl rfl (by decide +kernel) ⟨Nat.le_of_ble_eq_true rfl, Nat.le_of_ble_eq_true rfl⟩) (fw_preVW hN hKc hPc hDc (ci := 3) (q0 := 0) rfl rfl) rfl rfl hl.1 rfl (lv_room (Nat.le_of_ble_eq_true rfl)) dX3_bound_61 ⟨Nat.le_of_ble_eq_true rfl, Nat.le_of_ble_eq_true rfl⟩) hS (fun q _ h => hFc q h) hFc (fun r_61 u zt H1 locs zht hvm hw hB hz1 hk1 hS => ?_)
    obtain ⟨e1, e2⟩ := u
    obtain ⟨J, hJ, hJis⟩ := hw
    obtain ⟨hP1, hK1, hD1⟩ := hB
    rw [zht] at hP1
    obtain ⟨hP, hD⟩ := va_join (wr := [(hs, .inl (cH, 12, .inr (.inr (.inr (.inr (hf)))))), (h0, .inr (2, [w0, w1, w2, w3, w4, .int (nI N), .int (nI X), w7, w8, w9, w10]))]) (w1 := [(f0, .inr (3, [.ref hs, .ref c0, .int (nI n), v3, v4, v5])), (c0, .inr (0, [.ref s0, .ref t0])), (s0, .inr (1, [.ref sa])), (sa, .inl (cJ, 17, .inr (.inl (fun j => lN (e1 j))))), (t0, .inr (1, [.ref ta])), (ta, .inl (cJ, 17, .inr (.inl (fun j => lN (e2 j)))))]) hP hD [0, 2, 3, 4, 5, 6] [1, 7] rfl rfl (by decide) (by decide) hk1 hFc hP1 hD1
    generalize H1 = H at hP hS ⊢
    have hP : va_P (dC, dI) vwCl [(hs, .inl (cH, 12, .inr (.inr (.inr (.inr (hf)))))), (h0, .inr (2, [w0, w1, w2, w3, w4, .int (nI N), .int (nI X), w7, w8, w9, w10])), (f0, .inr (3, [.ref hs, .ref c0, .int (nI n), v3, v4, v5])), (c0, .inr (0, [.ref s0, .ref t0])), (s0, .inr (1, [.ref sa])), (sa, .inl (cJ, 17, .inr (.inl (fun j => lN (e1 j))))), (t0, .inr (1, [.ref ta])), (ta, .inl (cJ, 17, .inr (.inl (fun j => lN (e2 j)))))] H := hP
    have hD : va_D A [(hs, .inl (cH, 12, .inr (.inr (.inr (.inr (hf)))))), (h0, .inr (2, [w0, w1, w2, w3, w4, .int (nI N), .int (nI X), w7, w8, w9, w10])), (f0, .inr (3, [.ref hs, .ref c0, .int (nI n), v3, v4, v5])), (c0, .inr (0, [.ref s0, .ref t0])), (s0, .inr (1, [.ref sa])), (sa, .inl (cJ, 17, .inr (.inl (fun j => lN (e1 j))))), (t0, .inr (1, [.ref ta])), (ta, .inl (cJ, 17, .inr (.inl (fun j => lN (e2 j)))))] := hD
    obtain rfl : r_61 = nI J := hJ
    refine lv_isub hx hb dX3_bound_64 ?_
    refine fw_i (x' := nI (1000 - J)) (pk_sub (a := 1000) hJis.1) ?_
    have hP9 := hP.sub (ws' := [(f0, .inr (3, [.ref hs, .ref c0, .int (nI n), v3, v4, v5])), (hs, .inl (cH, 12, .inr (.inr (.inr (.inr (hf)))))), (c0, .inr (0, [.ref s0, .ref t0])), (s0, .inr (1, [.ref sa])), (sa, .inl (cJ, 17, .inr (.inl (fun j => lN (e1 j))))), (t0, .inr (1, [.ref ta])), (ta, .inl (cJ, 17, .inr (.inl (fun j => lN (e2 j))))), (h0, .inr (2, [w0, w1, w2, w3, w4, .int (nI N), .int (nI X), w7, w8, w9, w10]))]) [2, 0, 3, 4, 5, 6, 7, 1] rfl
    have hD9 := hD.sub (ws' := [(f0, .inr (3, [.ref hs, .ref c0, .int (nI n), v3, v4, v5])), (hs, .inl (cH, 12, .inr (.inr (.inr (.inr (hf)))))), (c0, .inr (0, [.ref s0, .ref t0])), (s0, .inr (1, [.ref sa])), (sa, .inl (cJ, 17, .inr (.inl (fun j => lN (e1 j))))), (t0, .inr (1, [.ref ta])), (ta, .inl (cJ, 17, .inr (.inl (fun j => lN (e2 j))))), (h0, .inr (2, [w0, w1, w2, w3, w4, .int (nI N), .int (nI X), w7, w8, w9, w10]))]) [2, 0, 3, 4, 5, 6, 7, 1] (by decide) rfl
    have hK9 := hK.sub (tys' := [(cH, .object RX2), (cJ, .long)]) [0, 1] rfl
    exact W.iret (v := (nI (1000 - J))) hx hb hr (fun zt zht hW => ⟨⟨(nI (1000 - J)), (e1, e2), rfl, ⟨J, rfl, hJis⟩, by rw [zht]; exact hP9, va_K.moved hW.alike hK9, hD9⟩, hS.F zht⟩) hS.2.2 dX3_bound_65 hlocks
  · -- t
    refine lv_iload_n hx hb dX3_bound_35 rfl (lv_at hl 6 rfl) ?_
    refine lv_if_eq (tgt := 49) hx hb dX3_bound_36 (by decide) (fun c_36 => absurd c_36 (by decide)) (fun _ => ?_)
    refine lv_aload_n hx hb dX3_bound_39 rfl (lv_at hl 3 rfl) ?_
    refine lv_iload hx hb dX3_bound_40 (lv_at hl 1 rfl) ?_
    refine lv_iload hx hb dX3_bound_42 (lv_at hl 0 rfl) ?_
    refine lv_iload_n hx hb dX3_bound_44 rfl (lv_at hl 5 rfl) ?_
    have hPc := hP.sub (ws' := [(f0, .inr (3, [.ref hs, .ref c0, .int (nI n), v3, v4, v5])), (c0, .inr (0, [.ref s0, .ref t0])), (s0, .inr (1, [.ref sa])), (sa, .inl (cJ, 17, .inr (.inl (fun j => lN (ds j))))), (t0, .inr (1, [.ref ta])), (ta, .inl (cJ, 17, .inr (.inl (fun j => lN (dt j)))))]) [0, 2, 3, 4, 5, 6] rfl
    have hKc := hK.sub (tys' := [(cJ, .long)]) [1] rfl
    have hDc := hD.sub (ws' := [(f0, .inr (3, [.ref hs, .ref c0, .int (nI n), v3, v4, v5])), (c0, .inr (0, [.ref s0, .ref t0])), (s0, .inr (1, [.ref sa])), (sa, .inl (cJ, 17, .inr (.inl (fun j => lN (ds j))))), (t0, .inr (1, [.ref ta])), (ta, .inl (cJ, 17, .inr (.inl (fun j => lN (dt j)))))]) [0, 2, 3, 4, 5, 6] (by decide) rfl
    have hFc := va_free (wc := [(f0, .inr (3, [.ref hs, .ref c0, .int (nI n), v3, v4, v5])), (c0, .inr (0, [.ref s0, .ref t0])), (s0, .inr (1, [.ref sa])), (sa, .inl (cJ, 17, .inr (.inl (fun j => lN (ds j))))), (t0, .inr (1, [.ref ta])), (ta, .inl (cJ, 17, .inr (.inl (fun j => lN (dt j)))))]) hD hS hA [0, 2, 3, 4, 5, 6] rfl
    refine va_calli (va_runV (As := [.int (nI N), .int (nI X), .int (nI lv)]) (rest := []) ⟨hx, hb, hml, hown, hts⟩ (c_fla_great l dC dI f0 c0 s0 sa t0 ta cJ (.ref hs) (.int (nI n)) v3 v4 v5 ds dt N X lv zs.heap.size hN48 (by omega) (by omega)) (cwV 3 hts gX3_bound_X3_greatestAbove rfl rfl rfl (by decide +kernel) ⟨Nat.le_of_ble_eq_true rfl, Nat.le_of_ble_eq_true rfl⟩) (fw_preVW hN hKc hPc hDc (ci := 3) (q0 := 0) rfl rfl) rfl rfl hl.1 rfl (lv_room (Nat.le_of_ble_eq_true rfl)) dX3_bound_45 ⟨Nat.le_of_ble_eq_true rfl, Nat.le_of_ble_eq_true rfl⟩) hS (fun q _ h => hFc q h) hFc (fun r_45 u zt H1 locs zht hvm hw hB hz1 hk1 hS => ?_)
    obtain ⟨e1, e2⟩ := u
    obtain ⟨J, hJ, hJis⟩ := hw
    obtain ⟨hP1, hK1, hD1⟩ := hB
    rw [zht] at hP1
    obtain ⟨hP, hD⟩ := va_join (wr := [(hs, .inl (cH, 12, .inr (.inr (.inr (.inr (hf)))))), (h0, .inr (2, [w0, w1, w2, w3, w4, .int (nI N), .int (nI X), w7, w8, w9, w10]))]) (w1 := [(f0, .inr (3, [.ref hs, .ref c0, .int (nI n), v3, v4, v5])), (c0, .inr (0, [.ref s0, .ref t0])), (s0, .inr (1, [.ref sa])), (sa, .inl (cJ, 17, .inr (.inl (fun j => lN (e1 j))))), (t0, .inr (1, [.ref ta])), (ta, .inl (cJ, 17, .inr (.inl (fun j => lN (e2 j)))))]) hP hD [0, 2, 3, 4, 5, 6] [1, 7] rfl rfl (by decide) (by decide) hk1 hFc hP1 hD1
    generalize H1 = H at hP hS ⊢
    have hP : va_P (dC, dI) vwCl [(hs, .inl (cH, 12, .inr (.inr (.inr (.inr (hf)))))), (h0, .inr (2, [w0, w1, w2, w3, w4, .int (nI N), .int (nI X), w7, w8, w9, w10])), (f0, .inr (3, [.ref hs, .ref c0, .int (nI n), v3, v4, v5])), (c0, .inr (0, [.ref s0, .ref t0])), (s0, .inr (1, [.ref sa])), (sa, .inl (cJ, 17, .inr (.inl (fun j => lN (e1 j))))), (t0, .inr (1, [.ref ta])), (ta, .inl (cJ, 17, .inr (.inl (fun j => lN (e2 j)))))] H := hP
    have hD : va_D A [(hs, .inl (cH, 12, .inr (.inr (.inr (.inr (hf)))))), (h0, .inr (2, [w0, w1, w2, w3, w4, .int (nI N), .int (nI X), w7, w8, w9, w10])), (f0, .inr (3, [.ref hs, .ref c0, .int (nI n), v3, v4, v5])), (c0, .inr (0, [.ref s0, .ref t0])), (s0, .inr (1, [.ref sa])), (sa, .inl (cJ, 17, .inr (.inl (fun j => lN (e1 j))))), (t0, .inr (1, [.ref ta])), (ta, .inl (cJ, 17, .inr (.inl (fun j => lN (e2 j)))))] := hD
    obtain rfl : r_45 = nI J := hJ
    have hP9 := hP.sub (ws' := [(f0, .inr (3, [.ref hs, .ref c0, .int (nI n), v3, v4, v5])), (hs, .inl (cH, 12, .inr (.inr (.inr (.inr (hf)))))), (c0, .inr (0, [.ref s0, .ref t0])), (s0, .inr (1, [.ref sa])), (sa, .inl (cJ, 17, .inr (.inl (fun j => lN (e1 j))))), (t0, .inr (1, [.ref ta])), (ta, .inl (cJ, 17, .inr (.inl (fun j => lN (e2 j))))), (h0, .inr (2, [w0, w1, w2, w3, w4, .int (nI N), .int (nI X), w7, w8, w9, w10]))]) [2, 0, 3, 4, 5, 6, 7, 1] rfl
    have hD9 := hD.sub (ws' := [(f0, .inr (3, [.ref hs, .ref c0, .int (nI n), v3, v4, v5])), (hs, .inl (cH, 12, .inr (.inr (.inr (.inr (hf)))))), (c0, .inr (0, [.ref s0, .ref t0])), (s0, .inr (1, [.ref sa])), (sa, .inl (cJ, 17, .inr (.inl (fun j => lN (e1 j))))), (t0, .inr (1, [.ref ta])), (ta, .inl (cJ, 17, .inr (.inl (fun j => lN (e2 j))))), (h0, .inr (2, [w0, w1, w2, w3, w4, .int (nI N), .int (nI X), w7, w8, w9, w10]))]) [2, 0, 3, 4, 5, 6, 7, 1] (by decide) rfl
    have hK9 := hK.sub (tys' := [(cH, .object RX2), (cJ, .long)]) [0, 1] rfl
    exact W.iret (v := (nI J)) hx hb hr (fun zt zht hW => ⟨⟨(nI J), (e1, e2), rfl, ⟨J, rfl, hJis⟩, by rw [zht]; exact hP9, va_K.moved hW.alike hK9, hD9⟩, hS.F zht⟩) hS.2.2 dX3_bound_48 hlocks
set_option maxHeartbeats 4000000 in
set_option maxRecDepth 100000 in
theorem c_fla_share (l : Launch) (dC : Nat → ClassId) (dI : Nat → Nat → Nat) (f0 hs c0 s0 sa t0 ta h0 : Nat) (cH cJ : ClassId) (v3 v4 v5 w0 w1 w2 w3 w4 w7 w8 w9 w10 : Value) (ds dt : Nat → Nat) (n i : Nat) (hf : Nat → Option Nat) (N X : Nat) (j g : Nat) (most : Bool) (sz : Nat) (hn12 : n ≤ 12) (hin_ : i < n) (hfi : hf i = some h0) (hN48 : N ≤ 48) (hXN : X ≤ N) (hj : j ≤ 1000) (hg1 : 1 ≤ g) (hg : g ≤ 18) : Met l yX3_share wsX3_share ({ frames := 3, cells := 0, slots := 0, locals := 74 } : Room) (va_Pc [.ref f0, .int (nI i), .int (nI j), .int (zI most), .int (nI g)] (fw_pW (dC, dI) vwCl [(cH, .object RX2), (cJ, .long)] [(f0, .inr (3, [.ref hs, .ref c0, .int (nI n), v3, v4, v5])), (hs, .inl (cH, 12, .inr (.inr (.inr (.inr (hf)))))), (c0, .inr (0, [.ref s0, .ref t0])), (s0, .inr (1, [.ref sa])), (sa, .inl (cJ, 17, .inr (.inl (fun j => lN (ds j))))), (t0, .inr (1, [.ref ta])), (ta, .inl (cJ, 17, .inr (.inl (fun j => lN (dt j))))), (h0, .inr (2, [w0, w1, w2, w3, w4, .int (nI N), .int (nI X), w7, w8, w9, w10]))] sz)) (va_Ql (S := (Nat → Nat) × (Nat → Nat)) (fun r _ => r = lN ((pm_G N (if most = true then j else 1000 - j) N (if most = true then X else N - X) * 1000 ^ (48 - N)) / 1000000000 ^ 14 / 10 ^ (18 - g))) (fun u t => fw_q (dC, dI) vwCl [(cH, .object RX2), (cJ, .long)] (va_A [(f0, .inr (3, [.ref hs, .ref c0, .int (nI n), v3, v4, v5])), (hs, .inl (cH, 12, .inr (.inr (.inr (.inr (hf)))))), (c0, .inr (0, [.ref s0, .ref t0])), (s0, .inr (1, [.ref sa])), (sa, .inl (cJ, 17, .inr (.inl (fun j => lN (ds j))))), (t0, .inr (1, [.ref ta])), (ta, .inl (cJ, 17, .inr (.inl (fun j => lN (dt j))))), (h0, .inr (2, [w0, w1, w2, w3, w4, .int (nI N), .int (nI X), w7, w8, w9, w10]))] sz) [(f0, .inr (3, [.ref hs, .ref c0, .int (nI n), v3, v4, v5])), (hs, .inl (cH, 12, .inr (.inr (.inr (.inr (hf)))))), (c0, .inr (0, [.ref s0, .ref t0])), (s0, .inr (1, [.ref sa])), (sa, .inl (cJ, 17, .inr (.inl (fun j => lN (u.1 j))))), (t0, .inr (1, [.ref ta])), (ta, .inl (cJ, 17, .inr (.inl (fun j => lN (u.2 j))))), (h0, .inr (2, [w0, w1, w2, w3, w4, .int (nI N), .int (nI X), w7, w8, w9, w10]))] t) (va_A [(f0, .inr (3, [.ref hs, .ref c0, .int (nI n), v3, v4, v5])), (hs, .inl (cH, 12, .inr (.inr (.inr (.inr (hf)))))), (c0, .inr (0, [.ref s0, .ref t0])), (s0, .inr (1, [.ref sa])), (sa, .inl (cJ, 17, .inr (.inl (fun j => lN (ds j))))), (t0, .inr (1, [.ref ta])), (ta, .inl (cJ, 17, .inr (.inl (fun j => lN (dt j))))), (h0, .inr (2, [w0, w1, w2, w3, w4, .int (nI N), .int (nI X), w7, w8, w9, w10]))] sz)) 0 0 (va_A [(f0, .inr (3, [.ref hs, .ref c0, .int (nI n), v3, v4, v5])), (hs, .inl (cH, 12, .inr (.inr (.inr (.inr (hf)))))), (c0, .inr (0, [.ref s0, .ref t0])), (s0, .inr (1, [.ref sa])), (sa, .inl (cJ, 17, .inr (.inl (fun j => lN (ds j))))), (t0, .inr (1, [.ref ta])), (ta, .inl (cJ, 17, .inr (.inl (fun j => lN (dt j))))), (h0, .inr (2, [w0, w1, w2, w3, w4, .int (nI N), .int (nI X), w7, w8, w9, w10]))] sz) := by
  refine fw_metW (cc := cX3_share) (maxL := 7) (ret := (some .long)) (by decide) rfl (Nat.le_of_ble_eq_true rfl) ?_
  intro zp ze zs zm zbelow zmeth zc ls hx hb hr hts hown hlocks hml hin hN hsz hP hK hD hA hS hl
  generalize hAe : (va_A [(f0, .inr (3, [.ref hs, .ref c0, .int (nI n), v3, v4, v5])), (hs, .inl (cH, 12, .inr (.inr (.inr (.inr (hf)))))), (c0, .inr (0, [.ref s0, .ref t0])), (s0, .inr (1, [.ref sa])), (sa, .inl (cJ, 17, .inr (.inl (fun j => lN (ds j))))), (t0, .inr (1, [.ref ta])), (ta, .inl (cJ, 17, .inr (.inl (fun j => lN (dt j))))), (h0, .inr (2, [w0, w1, w2, w3, w4, .int (nI N), .int (nI X), w7, w8, w9, w10]))] sz) = A at hD hA hS ⊢
  have hown : zs.vm.findClass RX3 = some zm.cls := hown
  have hl : lv_has ls 7 [(0, .ref f0), (1, .int (nI i)), (2, .int (nI j)), (3, .int (zI most)), (4, .int (nI g))] := hl
  refine lv_aload_n hx hb dX3_share_0 rfl (lv_at hl 0 rfl) ?_
  refine lv_iload_n hx hb dX3_share_1 rfl (lv_at hl 1 rfl) ?_
  have hPc := hP.sub (ws' := [(f0, .inr (3, [.ref hs, .ref c0, .int (nI n), v3, v4, v5])), (hs, .inl (cH, 12, .inr (.inr (.inr (.inr (hf))))))]) [0, 1] rfl
  have hKc := hK.sub (tys' := [(cH, .object RX2)]) [0] rfl
  refine va_csq (va_runV (As := [.int (nI i)]) (rest := []) ⟨hx, hb, hml, hown, hts⟩ (c_fla_find l dC dI f0 hs cH (.ref c0) v3 v4 v5 n hf i h0 hn12 hin_ hfi) (cwV 1 hts gX3_share_X3_find rfl rfl rfl (by decide +kernel) ⟨Nat.le_of_ble_eq_true rfl, Nat.le_of_ble_eq_true rfl⟩) (fw_preVR hN hKc hPc (ci := 3) (q0 := 0) rfl rfl) rfl rfl hl.1 rfl (lv_room (Nat.le_of_ble_eq_true rfl)) dX3_share_2 ⟨Nat.le_of_ble_eq_true rfl, Nat.le_of_ble_eq_true rfl⟩).run (fun r_2 hr_2 => ?_)
  obtain rfl : r_2 = some h0 := hr_2
  refine W.eq (g2 := F0 zm 5 ls [.ref h0]) rfl ?_
  refine lv_astore (lv' := [(5, .ref h0), (0, .ref f0), (1, .int (nI i)), (2, .int (nI j)), (3, .int (zI most)), (4, .int (nI g))]) hx hb dX3_share_5 hl (by decide) rfl (fun ls hl => ?_)
  refine lv_aload hx hb dX3_share_7 (lv_at hl 0 rfl) ?_
  refine lv_ifnull hx hb dX3_share_9 ?_
  refine lv_iload_n hx hb dX3_share_12 rfl (lv_at hl 3 rfl) ?_
  have hPc := hP.sub (ws' := []) [] rfl
  have hKc := hK.sub (tys' := []) [] rfl
  refine vp_callSi (va_runS (As := [.int (nI j)]) (rest := []) ⟨hx, hb, hml, hown, hts⟩ (c_fla_isShare l dC dI (nI j)) (va_cwS 1 hts gX3_share_X3_isShare rfl rfl rfl (by decide +kernel) ⟨Nat.le_of_ble_eq_true rfl, Nat.le_of_ble_eq_true rfl⟩) (fw_preSR hN hKc hPc) rfl rfl hl.1 rfl (lv_room (Nat.le_of_ble_eq_true rfl)) dX3_share_13 ⟨Nat.le_of_ble_eq_true rfl, Nat.le_of_ble_eq_true rfl⟩).run (fun r_13 hr_13 => ?_)
  obtain rfl : r_13 = zI (fv_sh (nI j)) := hr_13
  refine lv_if_eq (tgt := 32) hx hb dX3_share_16 (by decide) (fun c_16 => absurd c_16 (by rw [fv_sh_nI hj]; decide)) (fun _ => ?_)
  refine lv_iload hx hb dX3_share_19 (lv_at hl 5 rfl) ?_
  refine lv_iconst (v := 1) hx hb dX3_share_21 (by decide) ?_
  refine lv_icmp_lt (tgt := 32) hx hb dX3_share_22 (by decide) (fun c_22 => absurd c_22 (nI_nlt (a := g) (b := 1) hg1 (by omega))) (fun _ => ?_)
  refine lv_iload hx hb dX3_share_25 (lv_at hl 5 rfl) ?_
  refine lv_bipush (v := 18) hx hb dX3_share_27 (by decide) ?_
  refine lv_icmp_le (tgt := 36) hx hb dX3_share_29 (by decide) (fun _ => ?_) (fun c_29 => absurd (nI_le (a := g) (b := 18) hg (by decide)) c_29)
  cases most
  · -- f
    refine lv_iload_n hx hb dX3_share_36 rfl (lv_at hl 4 rfl) ?_
    refine lv_if_eq (tgt := 50) hx hb dX3_share_37 (by decide) (fun _ => ?_) (fun c_37 => absurd (rfl) c_37)
    refine lv_aload_n hx hb dX3_share_50 rfl (lv_at hl 1 rfl) ?_
    refine lv_aload hx hb dX3_share_51 (lv_at hl 0 rfl) ?_
    refine lv_iload_n hx hb dX3_share_53 rfl (lv_at hl 3 rfl) ?_
    have hPc := hP.sub (ws' := [(f0, .inr (3, [.ref hs, .ref c0, .int (nI n), v3, v4, v5])), (c0, .inr (0, [.ref s0, .ref t0])), (s0, .inr (1, [.ref sa])), (sa, .inl (cJ, 17, .inr (.inl (fun j => lN (ds j))))), (t0, .inr (1, [.ref ta])), (ta, .inl (cJ, 17, .inr (.inl (fun j => lN (dt j))))), (h0, .inr (2, [w0, w1, w2, w3, w4, .int (nI N), .int (nI X), w7, w8, w9, w10]))]) [0, 2, 3, 4, 5, 6, 7] rfl
    have hKc := hK.sub (tys' := [(cJ, .long)]) [1] rfl
    have hDc := hD.sub (ws' := [(f0, .inr (3, [.ref hs, .ref c0, .int (nI n), v3, v4, v5])), (c0, .inr (0, [.ref s0, .ref t0])), (s0, .inr (1, [.ref sa])), (sa, .inl (cJ, 17, .inr (.inl (fun j => lN (ds j))))), (t0, .inr (1, [.ref ta])), (ta, .inl (cJ, 17, .inr (.inl (fun j => lN (dt j))))), (h0, .inr (2, [w0, w1, w2, w3, w4, .int (nI N), .int (nI X), w7, w8, w9, w10]))]) [0, 2, 3, 4, 5, 6, 7] (by decide) rfl
    have hFc := va_free (wc := [(f0, .inr (3, [.ref hs, .ref c0, .int (nI n), v3, v4, v5])), (c0, .inr (0, [.ref s0, .ref t0])), (s0, .inr (1, [.ref sa])), (sa, .inl (cJ, 17, .inr (.inl (fun j => lN (ds j))))), (t0, .inr (1, [.ref ta])), (ta, .inl (cJ, 17, .inr (.inl (fun j => lN (dt j))))), (h0, .inr (2, [w0, w1, w2, w3, w4, .int (nI N), .int (nI X), w7, w8, w9, w10]))]) hD hS hA [0, 2, 3, 4, 5, 6, 7] rfl
    refine va_callr (va_runV (As := [.ref h0, .int (nI j)]) (rest := []) ⟨hx, hb, hml, hown, hts⟩ (c_fla_least l dC dI f0 c0 s0 sa t0 ta h0 cJ (.ref hs) (.int (nI n)) v3 v4 v5 w0 w1 w2 w3 w4 w7 w8 w9 w10 ds dt N X j zs.heap.size hN48 hXN hj) (cwV 2 hts gX3_share_X3_atLeast rfl rfl rfl (by decide +kernel) ⟨Nat.le_of_ble_eq_true rfl, Nat.le_of_ble_eq_true rfl⟩) (fw_preVW hN hKc hPc hDc (ci := 3) (q0 := 0) rfl rfl) rfl rfl hl.1 rfl (lv_room (Nat.le_of_ble_eq_true rfl)) dX3_share_54 ⟨Nat.le_of_ble_eq_true rfl, Nat.le_of_ble_eq_true rfl⟩) hS (fun q _ h => hFc q h) hFc (fun u ra_54 zt H1 locs zht hvm hw hB hz1 hk1 hS => ?_)
    obtain ⟨e1, e2⟩ := u
    obtain ⟨ok_e1, v_e1⟩ := hw
    obtain ⟨era, hP1, hK1, hD1⟩ := hB
    rw [zht] at hP1
    have ok_e1 : pd_ok e1 := ok_e1
    have v_e1 : pd_v e1 17 = pm_G N (1000 - j) N (N - X) * 1000 ^ (48 - N) := v_e1
    have h1e : pd_v e1 17 ≤ 1000000000 ^ 16 := by rw [v_e1]; exact pm_le16 hN48 (by omega)
    obtain ⟨hP, hD⟩ := va_join (wr := [(hs, .inl (cH, 12, .inr (.inr (.inr (.inr (hf))))))]) (w1 := [(f0, .inr (3, [.ref hs, .ref c0, .int (nI n), v3, v4, v5])), (c0, .inr (0, [.ref s0, .ref t0])), (s0, .inr (1, [.ref sa])), (sa, .inl (cJ, 17, .inr (.inl (fun j => lN (e1 j))))), (t0, .inr (1, [.ref ta])), (ta, .inl (cJ, 17, .inr (.inl (fun j => lN (e2 j))))), (h0, .inr (2, [w0, w1, w2, w3, w4, .int (nI N), .int (nI X), w7, w8, w9, w10]))]) hP hD [0, 2, 3, 4, 5, 6, 7] [1] rfl rfl (by decide) (by decide) hk1 hFc hP1 hD1
    generalize H1 = H at hP hS ⊢
    have hP : va_P (dC, dI) vwCl [(hs, .inl (cH, 12, .inr (.inr (.inr (.inr (hf)))))), (f0, .inr (3, [.ref hs, .ref c0, .int (nI n), v3, v4, v5])), (c0, .inr (0, [.ref s0, .ref t0])), (s0, .inr (1, [.ref sa])), (sa, .inl (cJ, 17, .inr (.inl (fun j => lN (e1 j))))), (t0, .inr (1, [.ref ta])), (ta, .inl (cJ, 17, .inr (.inl (fun j => lN (e2 j))))), (h0, .inr (2, [w0, w1, w2, w3, w4, .int (nI N), .int (nI X), w7, w8, w9, w10]))] H := hP
    have hD : va_D A [(hs, .inl (cH, 12, .inr (.inr (.inr (.inr (hf)))))), (f0, .inr (3, [.ref hs, .ref c0, .int (nI n), v3, v4, v5])), (c0, .inr (0, [.ref s0, .ref t0])), (s0, .inr (1, [.ref sa])), (sa, .inl (cJ, 17, .inr (.inl (fun j => lN (e1 j))))), (t0, .inr (1, [.ref ta])), (ta, .inl (cJ, 17, .inr (.inl (fun j => lN (e2 j))))), (h0, .inr (2, [w0, w1, w2, w3, w4, .int (nI N), .int (nI X), w7, w8, w9, w10]))] := hD
    rw [era]
    refine lv_astore (lv' := [(6, .ref s0), (5, .ref h0), (0, .ref f0), (1, .int (nI i)), (2, .int (nI j)), (3, .int (zI false)), (4, .int (nI g))]) hx hb dX3_share_57 hl (by decide) rfl (fun ls hl => ?_)
    refine lv_aload hx hb dX3_share_59 (lv_at hl 0 rfl) ?_
    refine lv_iload hx hb dX3_share_61 (lv_at hl 6 rfl) ?_
    have hPc := hP.sub (ws' := [(s0, .inr (1, [.ref sa])), (sa, .inl (cJ, 17, .inr (.inl (fun j => lN (e1 j)))))]) [3, 4] rfl
    have hKc := hK.sub (tys' := [(cJ, .long)]) [1] rfl
    refine vp_callSl (va_runV (As := [.int (nI g)]) (rest := []) ⟨hx, hb, hml, hown, hts⟩ (c_dec_cut l dC dI s0 sa cJ e1 g ok_e1 h1e hg) (cwV 1 hts gX3_share_X1_cutTo rfl rfl rfl (by decide +kernel) ⟨Nat.le_of_ble_eq_true rfl, Nat.le_of_ble_eq_true rfl⟩) (fw_preVR hN hKc hPc (ci := 1) (q0 := 0) rfl rfl) rfl rfl hl.1 rfl (lv_room (Nat.le_of_ble_eq_true rfl)) dX3_share_63 ⟨Nat.le_of_ble_eq_true rfl, Nat.le_of_ble_eq_true rfl⟩).run (fun r_63 hr_63 => ?_)
    obtain rfl : r_63 = lN ((pm_G N (1000 - j) N (N - X)) * 1000 ^ (48 - N) / 1000000000 ^ 14 / 10 ^ (18 - g)) := by rw [hr_63, v_e1]
    have hP9 := hP.sub (ws' := [(f0, .inr (3, [.ref hs, .ref c0, .int (nI n), v3, v4, v5])), (hs, .inl (cH, 12, .inr (.inr (.inr (.inr (hf)))))), (c0, .inr (0, [.ref s0, .ref t0])), (s0, .inr (1, [.ref sa])), (sa, .inl (cJ, 17, .inr (.inl (fun j => lN (e1 j))))), (t0, .inr (1, [.ref ta])), (ta, .inl (cJ, 17, .inr (.inl (fun j => lN (e2 j))))), (h0, .inr (2, [w0, w1, w2, w3, w4, .int (nI N), .int (nI X), w7, w8, w9, w10]))]) [1, 0, 2, 3, 4, 5, 6, 7] rfl
    have hD9 := hD.sub (ws' := [(f0, .inr (3, [.ref hs, .ref c0, .int (nI n), v3, v4, v5])), (hs, .inl (cH, 12, .inr (.inr (.inr (.inr (hf)))))), (c0, .inr (0, [.ref s0, .ref t0])), (s0, .inr (1, [.ref sa])), (sa, .inl (cJ, 17, .inr (.inl (fun j => lN (e1 j))))), (t0, .inr (1, [.ref ta])), (ta, .inl (cJ, 17, .inr (.inl (fun j => lN (e2 j))))), (h0, .inr (2, [w0, w1, w2, w3, w4, .int (nI N), .int (nI X), w7, w8, w9, w10]))]) [1, 0, 2, 3, 4, 5, 6, 7] (by decide) rfl
    have hK9 := hK.sub (tys' := [(cH, .object RX2), (cJ, .long)]) [0, 1] rfl
    exact W.lret (v := (lN ((pm_G N (1000 - j) N (N - X)) * 1000 ^ (48 - N) / 1000000000 ^ 14 / 10 ^ (18 - g)))) hx hb hr (fun zt zht hW => ⟨⟨(lN ((pm_G N (1000 - j) N (N - X)) * 1000 ^ (48 - N) / 1000000000 ^ 14 / 10 ^ (18 - g))), (e1, e2), rfl, rfl, by rw [zht]; exact hP9, va_K.moved hW.alike hK9, hD9⟩, hS.F zht⟩) hS.2.2 dX3_share_66 hlocks
  · -- t
    refine lv_iload_n hx hb dX3_share_36 rfl (lv_at hl 4 rfl) ?_
    refine lv_if_eq (tgt := 50) hx hb dX3_share_37 (by decide) (fun c_37 => absurd c_37 (by decide)) (fun _ => ?_)
    refine lv_aload_n hx hb dX3_share_40 rfl (lv_at hl 1 rfl) ?_
    refine lv_aload hx hb dX3_share_41 (lv_at hl 0 rfl) ?_
    refine lv_iload_n hx hb dX3_share_43 rfl (lv_at hl 3 rfl) ?_
    have hPc := hP.sub (ws' := [(f0, .inr (3, [.ref hs, .ref c0, .int (nI n), v3, v4, v5])), (c0, .inr (0, [.ref s0, .ref t0])), (s0, .inr (1, [.ref sa])), (sa, .inl (cJ, 17, .inr (.inl (fun j => lN (ds j))))), (t0, .inr (1, [.ref ta])), (ta, .inl (cJ, 17, .inr (.inl (fun j => lN (dt j))))), (h0, .inr (2, [w0, w1, w2, w3, w4, .int (nI N), .int (nI X), w7, w8, w9, w10]))]) [0, 2, 3, 4, 5, 6, 7] rfl
    have hKc := hK.sub (tys' := [(cJ, .long)]) [1] rfl
    have hDc := hD.sub (ws' := [(f0, .inr (3, [.ref hs, .ref c0, .int (nI n), v3, v4, v5])), (c0, .inr (0, [.ref s0, .ref t0])), (s0, .inr (1, [.ref sa])), (sa, .inl (cJ, 17, .inr (.inl (fun j => lN (ds j))))), (t0, .inr (1, [.ref ta])), (ta, .inl (cJ, 17, .inr (.inl (fun j => lN (dt j))))), (h0, .inr (2, [w0, w1, w2, w3, w4, .int (nI N), .int (nI X), w7, w8, w9, w10]))]) [0, 2, 3, 4, 5, 6, 7] (by decide) rfl
    have hFc := va_free (wc := [(f0, .inr (3, [.ref hs, .ref c0, .int (nI n), v3, v4, v5])), (c0, .inr (0, [.ref s0, .ref t0])), (s0, .inr (1, [.ref sa])), (sa, .inl (cJ, 17, .inr (.inl (fun j => lN (ds j))))), (t0, .inr (1, [.ref ta])), (ta, .inl (cJ, 17, .inr (.inl (fun j => lN (dt j))))), (h0, .inr (2, [w0, w1, w2, w3, w4, .int (nI N), .int (nI X), w7, w8, w9, w10]))]) hD hS hA [0, 2, 3, 4, 5, 6, 7] rfl
    refine va_callr (va_runV (As := [.ref h0, .int (nI j)]) (rest := []) ⟨hx, hb, hml, hown, hts⟩ (c_fla_most l dC dI f0 c0 s0 sa t0 ta h0 cJ (.ref hs) (.int (nI n)) v3 v4 v5 w0 w1 w2 w3 w4 w7 w8 w9 w10 ds dt N X j zs.heap.size hN48 hXN hj) (cwV 2 hts gX3_share_X3_atMost rfl rfl rfl (by decide +kernel) ⟨Nat.le_of_ble_eq_true rfl, Nat.le_of_ble_eq_true rfl⟩) (fw_preVW hN hKc hPc hDc (ci := 3) (q0 := 0) rfl rfl) rfl rfl hl.1 rfl (lv_room (Nat.le_of_ble_eq_true rfl)) dX3_share_44 ⟨Nat.le_of_ble_eq_true rfl, Nat.le_of_ble_eq_true rfl⟩) hS (fun q _ h => hFc q h) hFc (fun u ra_44 zt H1 locs zht hvm hw hB hz1 hk1 hS => ?_)
    obtain ⟨e1, e2⟩ := u
    obtain ⟨ok_e1, v_e1⟩ := hw
    obtain ⟨era, hP1, hK1, hD1⟩ := hB
    rw [zht] at hP1
    have ok_e1 : pd_ok e1 := ok_e1
    have v_e1 : pd_v e1 17 = pm_G N j N X * 1000 ^ (48 - N) := v_e1
    have h1e : pd_v e1 17 ≤ 1000000000 ^ 16 := by rw [v_e1]; exact pm_le16 hN48 (by omega)
    obtain ⟨hP, hD⟩ := va_join (wr := [(hs, .inl (cH, 12, .inr (.inr (.inr (.inr (hf))))))]) (w1 := [(f0, .inr (3, [.ref hs, .ref c0, .int (nI n), v3, v4, v5])), (c0, .inr (0, [.ref s0, .ref t0])), (s0, .inr (1, [.ref sa])), (sa, .inl (cJ, 17, .inr (.inl (fun j => lN (e1 j))))), (t0, .inr (1, [.ref ta])), (ta, .inl (cJ, 17, .inr (.inl (fun j => lN (e2 j))))), (h0, .inr (2, [w0, w1, w2, w3, w4, .int (nI N), .int (nI X), w7, w8, w9, w10]))]) hP hD [0, 2, 3, 4, 5, 6, 7] [1] rfl rfl (by decide) (by decide) hk1 hFc hP1 hD1
    generalize H1 = H at hP hS ⊢
    have hP : va_P (dC, dI) vwCl [(hs, .inl (cH, 12, .inr (.inr (.inr (.inr (hf)))))), (f0, .inr (3, [.ref hs, .ref c0, .int (nI n), v3, v4, v5])), (c0, .inr (0, [.ref s0, .ref t0])), (s0, .inr (1, [.ref sa])), (sa, .inl (cJ, 17, .inr (.inl (fun j => lN (e1 j))))), (t0, .inr (1, [.ref ta])), (ta, .inl (cJ, 17, .inr (.inl (fun j => lN (e2 j))))), (h0, .inr (2, [w0, w1, w2, w3, w4, .int (nI N), .int (nI X), w7, w8, w9, w10]))] H := hP
    have hD : va_D A [(hs, .inl (cH, 12, .inr (.inr (.inr (.inr (hf)))))), (f0, .inr (3, [.ref hs, .ref c0, .int (nI n), v3, v4, v5])), (c0, .inr (0, [.ref s0, .ref t0])), (s0, .inr (1, [.ref sa])), (sa, .inl (cJ, 17, .inr (.inl (fun j => lN (e1 j))))), (t0, .inr (1, [.ref ta])), (ta, .inl (cJ, 17, .inr (.inl (fun j => lN (e2 j))))), (h0, .inr (2, [w0, w1, w2, w3, w4, .int (nI N), .int (nI X), w7, w8, w9, w10]))] := hD
    rw [era]
    refine lv_goto (tgt := 57) hx hb dX3_share_47 (by decide) ?_
    refine lv_astore (lv' := [(6, .ref s0), (5, .ref h0), (0, .ref f0), (1, .int (nI i)), (2, .int (nI j)), (3, .int (zI true)), (4, .int (nI g))]) hx hb dX3_share_57 hl (by decide) rfl (fun ls hl => ?_)
    refine lv_aload hx hb dX3_share_59 (lv_at hl 0 rfl) ?_
    refine lv_iload hx hb dX3_share_61 (lv_at hl 6 rfl) ?_
    have hPc := hP.sub (ws' := [(s0, .inr (1, [.ref sa])), (sa, .inl (cJ, 17, .inr (.inl (fun j => lN (e1 j)))))]) [3, 4] rfl
    have hKc := hK.sub (tys' := [(cJ, .long)]) [1] rfl
    refine vp_callSl (va_runV (As := [.int (nI g)]) (rest := []) ⟨hx, hb, hml, hown, hts⟩ (c_dec_cut l dC dI s0 sa cJ e1 g ok_e1 h1e hg) (cwV 1 hts gX3_share_X1_cutTo rfl rfl rfl (by decide +kernel) ⟨Nat.le_of_ble_eq_true rfl, Nat.le_of_ble_eq_true rfl⟩) (fw_preVR hN hKc hPc (ci := 1) (q0 := 0) rfl rfl) rfl rfl hl.1 rfl (lv_room (Nat.le_of_ble_eq_true rfl)) dX3_share_63 ⟨Nat.le_of_ble_eq_true rfl, Nat.le_of_ble_eq_true rfl⟩).run (fun r_63 hr_63 => ?_)
    obtain rfl : r_63 = lN ((pm_G N j N X) * 1000 ^ (48 - N) / 1000000000 ^ 14 / 10 ^ (18 - g)) := by rw [hr_63, v_e1]
    have hP9 := hP.sub (ws' := [(f0, .inr (3, [.ref hs, .ref c0, .int (nI n), v3, v4, v5])), (hs, .inl (cH, 12, .inr (.inr (.inr (.inr (hf)))))), (c0, .inr (0, [.ref s0, .ref t0])), (s0, .inr (1, [.ref sa])), (sa, .inl (cJ, 17, .inr (.inl (fun j => lN (e1 j))))), (t0, .inr (1, [.ref ta])), (ta, .inl (cJ, 17, .inr (.inl (fun j => lN (e2 j))))), (h0, .inr (2, [w0, w1, w2, w3, w4, .int (nI N), .int (nI X), w7, w8, w9, w10]))]) [1, 0, 2, 3, 4, 5, 6, 7] rfl
    have hD9 := hD.sub (ws' := [(f0, .inr (3, [.ref hs, .ref c0, .int (nI n), v3, v4, v5])), (hs, .inl (cH, 12, .inr (.inr (.inr (.inr (hf)))))), (c0, .inr (0, [.ref s0, .ref t0])), (s0, .inr (1, [.ref sa])), (sa, .inl (cJ, 17, .inr (.inl (fun j => lN (e1 j))))), (t0, .inr (1, [.ref ta])), (ta, .inl (cJ, 17, .inr (.inl (fun j => lN (e2 j))))), (h0, .inr (2, [w0, w1, w2, w3, w4, .int (nI N), .int (nI X), w7, w8, w9, w10]))]) [1, 0, 2, 3, 4, 5, 6, 7] (by decide) rfl
    have hK9 := hK.sub (tys' := [(cH, .object RX2), (cJ, .long)]) [0, 1] rfl
    exact W.lret (v := (lN ((pm_G N j N X) * 1000 ^ (48 - N) / 1000000000 ^ 14 / 10 ^ (18 - g)))) hx hb hr (fun zt zht hW => ⟨⟨(lN ((pm_G N j N X) * 1000 ^ (48 - N) / 1000000000 ^ 14 / 10 ^ (18 - g))), (e1, e2), rfl, rfl, by rw [zht]; exact hP9, va_K.moved hW.alike hK9, hD9⟩, hS.F zht⟩) hS.2.2 dX3_share_66 hlocks
set_option maxHeartbeats 4000000 in
set_option maxRecDepth 100000 in
theorem c_fla_test_no (l : Launch) (dC : Nat → ClassId) (dI : Nat → Nat → Nat) (f0 hs : Nat) (cH : ClassId) (v1 v3 v4 v5 : Value) (hf : Nat → Option Nat)  : Met l yX3_test wsX3_test ({ frames := 0, cells := 0, slots := 0, locals := 0 } : Room) (va_Pc [.ref f0] (fw_pR (dC, dI) vwCl [(cH, .object RX2)] [(f0, .inr (3, [.ref hs, v1, .int (nI 12), v3, v4, v5])), (hs, .inl (cH, 12, .inr (.inr (.inr (.inr (hf))))))])) (vp_Si (fun r => r = (-1))) 0 0 (fun _ => False) := by
  refine fw_metR (cc := cX3_test) (maxL := 1) (ret := (some .int)) (by decide) rfl (Nat.le_of_ble_eq_true rfl) ?_
  intro zp ze zs zm zbelow zmeth zc ls hx hb hr hts hown hlocks hml hin hN hP hK hl
  have hown : zs.vm.findClass RX3 = some zm.cls := hown
  have hl : lv_has ls 1 [(0, .ref f0)] := hl
  refine lv_aload_n hx hb dX3_test_0 rfl (lv_at hl 0 rfl) ?_
  refine va_get (D := (dC, dI)) (ci := 3) (v := .int (nI 12)) (C := RX3) (T := TX3) (N := 6) hx hb hts (by decide +kernel) hown hK hP 0 rfl rfl 2 (by decide) (hts (.fieldLink RX3 22 "FlakyBounds" "tests" "I") (by decide +kernel)) (fun _ h9 => h9) rfl dX3_test_1 ?_
  refine lv_aload_n hx hb dX3_test_4 rfl (lv_at hl 0 rfl) ?_
  refine va_get (D := (dC, dI)) (ci := 3) (v := .ref hs) (C := RX3) (T := TX3) (N := 6) hx hb hts (by decide +kernel) hown hK hP 0 rfl rfl 0 (by decide) (hts (.fieldLink RX3 11 "FlakyBounds" "histories" "[LFlakyBounds$History;") (by decide +kernel)) (fun _ h9 => h9) rfl dX3_test_5 ?_
  refine va_alen (v := 12) hx hb hK hP 1 0 rfl rfl rfl dX3_test_8 ?_
  refine lv_icmp_lt (tgt := 14) hx hb dX3_test_9 (by decide) (fun c_9 => absurd c_9 (by decide)) (fun _ => ?_)
  refine lv_iconst (v := (-1)) hx hb dX3_test_12 (by decide) ?_
  exact W.iret (v := (-1)) hx hb hr (fun zt zht _ => ⟨(-1), rfl, rfl, zht⟩) (fun q h => by cases h) dX3_test_13 hlocks
set_option maxHeartbeats 4000000 in
set_option maxRecDepth 100000 in
theorem c_fla_test (l : Launch) (dC : Nat → ClassId) (dI : Nat → Nat → Nat) (f0 hs : Nat) (cH : ClassId) (v1 v3 v4 v5 : Value) (n : Nat) (hf : Nat → Option Nat) (cI cZ : ClassId) (sz : Nat) (hn12 : n < 12) : Met l yX3_test wsX3_test ({ frames := 2, cells := 3, slots := 107, locals := 32 } : Room) (va_Pc [.ref f0] (fw_pW (dC, dI) vwCl [(cH, .object RX2), (cI, .int), (cZ, .boolean)] [(f0, .inr (3, [.ref hs, v1, .int (nI n), v3, v4, v5])), (hs, .inl (cH, 12, .inr (.inr (.inr (.inr (hf))))))] sz)) (va_Qi (S := Nat × Nat × Nat) (fun r _ => r = nI n) (fun u t => match u with | (q22, ea, pa) => fw_q (dC, dI) vwCl [(cH, .object RX2), (cI, .int), (cZ, .boolean)] (va_A [(f0, .inr (3, [.ref hs, v1, .int (nI n), v3, v4, v5])), (hs, .inl (cH, 12, .inr (.inr (.inr (.inr (hf))))))] sz) [(f0, .inr (3, [.ref hs, v1, .int (nI (n + 1)), v3, v4, v5])), (hs, .inl (cH, 12, .inr (.inr (.inr (.inr (va_up hf n (some q22))))))), (q22, .inr (2, [.ref ea, .ref pa, .int 0, .int 0, .int 0, .int 0, .int 0, .int 0, .int 0, .int (-1), .int 0])), (ea, .inl (cI, 48, .inl (fun _ => 0))), (pa, .inl (cZ, 48, .inl (fun _ => 0)))] t) (va_A [(f0, .inr (3, [.ref hs, v1, .int (nI n), v3, v4, v5])), (hs, .inl (cH, 12, .inr (.inr (.inr (.inr (hf))))))] sz)) 3 107 (va_A [(f0, .inr (3, [.ref hs, v1, .int (nI n), v3, v4, v5])), (hs, .inl (cH, 12, .inr (.inr (.inr (.inr (hf))))))] sz) := by
  refine fw_metW (cc := cX3_test) (maxL := 1) (ret := (some .int)) (by decide) rfl (Nat.le_of_ble_eq_true rfl) ?_
  intro zp ze zs zm zbelow zmeth zc ls hx hb hr hts hown hlocks hml hin hN hsz hP hK hD hA hS hl
  generalize hAe : (va_A [(f0, .inr (3, [.ref hs, v1, .int (nI n), v3, v4, v5])), (hs, .inl (cH, 12, .inr (.inr (.inr (.inr (hf))))))] sz) = A at hD hA hS ⊢
  have hown : zs.vm.findClass RX3 = some zm.cls := hown
  have hl : lv_has ls 1 [(0, .ref f0)] := hl
  refine lv_aload_n hx hb dX3_test_0 rfl (lv_at hl 0 rfl) ?_
  refine va_get (D := (dC, dI)) (ci := 3) (v := .int (nI n)) (C := RX3) (T := TX3) (N := 6) hx hb hts (by decide +kernel) hown hK hP 0 rfl rfl 2 (by decide) (hts (.fieldLink RX3 22 "FlakyBounds" "tests" "I") (by decide +kernel)) (fun _ h9 => h9) rfl dX3_test_1 ?_
  refine lv_aload_n hx hb dX3_test_4 rfl (lv_at hl 0 rfl) ?_
  refine va_get (D := (dC, dI)) (ci := 3) (v := .ref hs) (C := RX3) (T := TX3) (N := 6) hx hb hts (by decide +kernel) hown hK hP 0 rfl rfl 0 (by decide) (hts (.fieldLink RX3 11 "FlakyBounds" "histories" "[LFlakyBounds$History;") (by decide +kernel)) (fun _ h9 => h9) rfl dX3_test_5 ?_
  refine va_alen (v := 12) hx hb hK hP 1 0 rfl rfl rfl dX3_test_8 ?_
  refine lv_icmp_lt (tgt := 14) hx hb dX3_test_9 (by decide) (fun _ => ?_) (fun c_9 => absurd (nI_lt (a := n) (b := 12) hn12 (by decide)) c_9)
  refine lv_aload_n hx hb dX3_test_14 rfl (lv_at hl 0 rfl) ?_
  refine va_get (D := (dC, dI)) (ci := 3) (v := .ref hs) (C := RX3) (T := TX3) (N := 6) hx hb hts (by decide +kernel) hown hK hP 0 rfl rfl 0 (by decide) (hts (.fieldLink RX3 11 "FlakyBounds" "histories" "[LFlakyBounds$History;") (by decide +kernel)) (fun _ h9 => h9) rfl dX3_test_15 ?_
  refine lv_aload_n hx hb dX3_test_18 rfl (lv_at hl 0 rfl) ?_
  refine va_get (D := (dC, dI)) (ci := 3) (v := .int (nI n)) (C := RX3) (T := TX3) (N := 6) hx hb hts (by decide +kernel) hown hK hP 0 rfl rfl 2 (by decide) (hts (.fieldLink RX3 22 "FlakyBounds" "tests" "I") (by decide +kernel)) (fun _ h9 => h9) rfl dX3_test_19 ?_
  refine va_new (ci := 2) (fs := [.null, .null, .int 0, .int 0, .int 0, .int 0, .int 0, .int 0, .int 0, .int 0, .int 0]) (C := RX2) (T := TX2) (N := 11) hx hb hts (by decide +kernel) tyX2 tyX2_ok hown (hts (.classLink RX3 9 RX2) (by decide +kernel)) (hts (.instantiable RX2 11) (by decide +kernel)) (hts (.initialized RX2) (by decide +kernel)) hK hP hD hS hA rfl (by decide) (Nat.le_of_ble_eq_true rfl) (Nat.le_of_ble_eq_true rfl) dX3_test_22 (fun q22 H hP hD hS => ?_)
  have hP : va_P (dC, dI) vwCl [(f0, .inr (3, [.ref hs, v1, .int (nI n), v3, v4, v5])), (hs, .inl (cH, 12, .inr (.inr (.inr (.inr (hf)))))), (q22, .inr (2, [.null, .null, .int 0, .int 0, .int 0, .int 0, .int 0, .int 0, .int 0, .int 0, .int 0]))] H := hP
  have hD : va_D A [(f0, .inr (3, [.ref hs, v1, .int (nI n), v3, v4, v5])), (hs, .inl (cH, 12, .inr (.inr (.inr (.inr (hf)))))), (q22, .inr (2, [.null, .null, .int 0, .int 0, .int 0, .int 0, .int 0, .int 0, .int 0, .int 0, .int 0]))] := hD
  refine W.widen (k := 1) (n := 11) (by decide) (by decide) ?_
  refine lv_dup hx hb dX3_test_25 rfl ?_
  have hPc := hP.sub (ws' := [(q22, .inr (2, [.null, .null, .int 0, .int 0, .int 0, .int 0, .int 0, .int 0, .int 0, .int 0, .int 0]))]) [2] rfl
  have hKc := hK.sub (tys' := []) [] rfl
  have hDc := hD.sub (ws' := [(q22, .inr (2, [.null, .null, .int 0, .int 0, .int 0, .int 0, .int 0, .int 0, .int 0, .int 0, .int 0]))]) [2] (by decide) rfl
  have hFc := va_free (wc := [(q22, .inr (2, [.null, .null, .int 0, .int 0, .int 0, .int 0, .int 0, .int 0, .int 0, .int 0, .int 0]))]) hD hS hA [2] rfl
  refine va_callv (va_runI (As := []) (rest := [.ref q22, .int (nI n), .ref hs]) ⟨hx, hb, hml, hown, hts⟩ (c_his_init l dC dI q22 H.size) (cwI 0 hts gX3_test_X2_init rfl rfl rfl (hts (.initialized RX2) (by decide +kernel)) (hts (.methodLink RX3 35 yX2_init) (by decide +kernel)) (hts (.instanceMethod yX2_init) (by decide +kernel)) rfl (by decide +kernel) ⟨Nat.le_of_ble_eq_true rfl, Nat.le_of_ble_eq_true rfl⟩) (fw_preSW hN hKc hPc hDc) rfl rfl hl.1 rfl (lv_room (Nat.le_of_ble_eq_true rfl)) dX3_test_26 ⟨Nat.le_of_ble_eq_true rfl, Nat.le_of_ble_eq_true rfl⟩) hS (fun q _ h => hFc q h) hFc (fun u zt H1 locs zht hvm hw hB hz1 hk1 hS => ?_)
  obtain ⟨ea, pa, cI9, cZ9⟩ := u
  obtain ⟨hP1, hK1, hD1⟩ := hB
  rw [zht] at hP1
  obtain ⟨hP, hD⟩ := va_join (wr := [(f0, .inr (3, [.ref hs, v1, .int (nI n), v3, v4, v5])), (hs, .inl (cH, 12, .inr (.inr (.inr (.inr (hf))))))]) (w1 := [(q22, .inr (2, [.ref ea, .ref pa, .int 0, .int 0, .int 0, .int 0, .int 0, .int 0, .int 0, .int (-1), .int 0])), (ea, .inl (cI9, 48, .inl (fun _ => 0))), (pa, .inl (cZ9, 48, .inl (fun _ => 0)))]) hP hD [2] [0, 1] rfl rfl (by decide) (by decide) hk1 hFc hP1 hD1
  have hK := hK.app (va_K.moved hvm.symm hK1)
  have hK : va_K (dC, dI) vwCl [(cH, .object RX2), (cI, .int), (cZ, .boolean), (cI9, .int), (cZ9, .boolean)] zs := hK
  generalize H1 = H at hP hS ⊢
  have hP : va_P (dC, dI) vwCl [(f0, .inr (3, [.ref hs, v1, .int (nI n), v3, v4, v5])), (hs, .inl (cH, 12, .inr (.inr (.inr (.inr (hf)))))), (q22, .inr (2, [.ref ea, .ref pa, .int 0, .int 0, .int 0, .int 0, .int 0, .int 0, .int 0, .int (-1), .int 0])), (ea, .inl (cI9, 48, .inl (fun _ => 0))), (pa, .inl (cZ9, 48, .inl (fun _ => 0)))] H := hP
  have hD : va_D A [(f0, .inr (3, [.ref hs, v1, .int (nI n), v3, v4, v5])), (hs, .inl (cH, 12, .inr (.inr (.inr (.inr (hf)))))), (q22, .inr (2, [.ref ea, .ref pa, .int 0, .int 0, .int 0, .int 0, .int 0, .int 0, .int 0, .int (-1), .int 0])), (ea, .inl (cI9, 48, .inl (fun _ => 0))), (pa, .inl (cZ9, 48, .inl (fun _ => 0)))] := hD
  refine W.widen (k := 3) (n := 107) (by decide) (by decide) ?_
  have eI : cI9 = cI := Option.some.inj ((va_nm_int (hK.2 3 _ rfl).2).symm.trans (va_nm_int (hK.2 1 _ rfl).2))
  have eZ : cZ9 = cZ := Option.some.inj ((va_nm_boolean (hK.2 4 _ rfl).2).symm.trans (va_nm_boolean (hK.2 2 _ rfl).2))
  rw [eI, eZ] at hP hD
  refine va_astq hx hb hK hP hD hS 1 0 2 2 rfl rfl rfl rfl (vp_in_nI (by omega) (by decide)) dX3_test_29 (fun H locs hP hD hS => ?_)
  have e_st : va_up (hf) (nI n).toNatClampNeg (some q22) = va_up hf n (some q22) := by rw [nI_clamp (by omega)]
  rw [e_st] at hP hD
  have hP : va_P (dC, dI) vwCl [(f0, .inr (3, [.ref hs, v1, .int (nI n), v3, v4, v5])), (hs, .inl (cH, 12, .inr (.inr (.inr (.inr (va_up hf n (some q22))))))), (q22, .inr (2, [.ref ea, .ref pa, .int 0, .int 0, .int 0, .int 0, .int 0, .int 0, .int 0, .int (-1), .int 0])), (ea, .inl (cI, 48, .inl (fun _ => 0))), (pa, .inl (cZ, 48, .inl (fun _ => 0)))] H := hP
  have hD : va_D A [(f0, .inr (3, [.ref hs, v1, .int (nI n), v3, v4, v5])), (hs, .inl (cH, 12, .inr (.inr (.inr (.inr (va_up hf n (some q22))))))), (q22, .inr (2, [.ref ea, .ref pa, .int 0, .int 0, .int 0, .int 0, .int 0, .int 0, .int 0, .int (-1), .int 0])), (ea, .inl (cI, 48, .inl (fun _ => 0))), (pa, .inl (cZ, 48, .inl (fun _ => 0)))] := hD
  refine lv_aload_n hx hb dX3_test_30 rfl (lv_at hl 0 rfl) ?_
  refine lv_dup hx hb dX3_test_31 rfl ?_
  refine va_get (D := (dC, dI)) (ci := 3) (v := .int (nI n)) (C := RX3) (T := TX3) (N := 6) hx hb hts (by decide +kernel) hown hK hP 0 rfl rfl 2 (by decide) (hts (.fieldLink RX3 22 "FlakyBounds" "tests" "I") (by decide +kernel)) (fun _ h9 => h9) rfl dX3_test_32 ?_
  refine lv_iconst (v := 1) hx hb dX3_test_35 (by decide) ?_
  refine lv_iadd hx hb dX3_test_36 ?_
  refine fw_i (x' := nI (n + 1)) (nI_1 n) ?_
  refine va_put (D := (dC, dI)) (ci := 3) (v := .int (nI (n + 1))) (ty := .int) (C := RX3) (T := TX3) (N := 6) hx hb hts (by decide +kernel) tyX3 tyX3_ok nmX3 hown hK hP hD hS 0 rfl rfl 2 (by decide) (hts (.fieldLink RX3 22 "FlakyBounds" "tests" "I") (by decide +kernel)) (fun _ h9 => h9) rfl (by decide +kernel) rfl rfl (Nat.le_of_ble_eq_true rfl) dX3_test_37 (fun H locs hP hD hS => ?_)
  have hP : va_P (dC, dI) vwCl [(f0, .inr (3, [.ref hs, v1, .int (nI (n + 1)), v3, v4, v5])), (hs, .inl (cH, 12, .inr (.inr (.inr (.inr (va_up hf n (some q22))))))), (q22, .inr (2, [.ref ea, .ref pa, .int 0, .int 0, .int 0, .int 0, .int 0, .int 0, .int 0, .int (-1), .int 0])), (ea, .inl (cI, 48, .inl (fun _ => 0))), (pa, .inl (cZ, 48, .inl (fun _ => 0)))] H := hP
  have hD : va_D A [(f0, .inr (3, [.ref hs, v1, .int (nI (n + 1)), v3, v4, v5])), (hs, .inl (cH, 12, .inr (.inr (.inr (.inr (va_up hf n (some q22))))))), (q22, .inr (2, [.ref ea, .ref pa, .int 0, .int 0, .int 0, .int 0, .int 0, .int 0, .int 0, .int (-1), .int 0])), (ea, .inl (cI, 48, .inl (fun _ => 0))), (pa, .inl (cZ, 48, .inl (fun _ => 0)))] := hD
  refine lv_aload_n hx hb dX3_test_40 rfl (lv_at hl 0 rfl) ?_
  refine va_get (D := (dC, dI)) (ci := 3) (v := .int (nI (n + 1))) (C := RX3) (T := TX3) (N := 6) hx hb hts (by decide +kernel) hown hK hP 0 rfl rfl 2 (by decide) (hts (.fieldLink RX3 22 "FlakyBounds" "tests" "I") (by decide +kernel)) (fun _ h9 => h9) rfl dX3_test_41 ?_
  refine lv_iconst (v := 1) hx hb dX3_test_44 (by decide) ?_
  refine lv_isub hx hb dX3_test_45 ?_
  refine fw_i (x' := nI n) (nI_pred n) ?_
  have hP9 := hP.sub (ws' := [(f0, .inr (3, [.ref hs, v1, .int (nI (n + 1)), v3, v4, v5])), (hs, .inl (cH, 12, .inr (.inr (.inr (.inr (va_up hf n (some q22))))))), (q22, .inr (2, [.ref ea, .ref pa, .int 0, .int 0, .int 0, .int 0, .int 0, .int 0, .int 0, .int (-1), .int 0])), (ea, .inl (cI, 48, .inl (fun _ => 0))), (pa, .inl (cZ, 48, .inl (fun _ => 0)))]) [0, 1, 2, 3, 4] rfl
  have hD9 := hD.sub (ws' := [(f0, .inr (3, [.ref hs, v1, .int (nI (n + 1)), v3, v4, v5])), (hs, .inl (cH, 12, .inr (.inr (.inr (.inr (va_up hf n (some q22))))))), (q22, .inr (2, [.ref ea, .ref pa, .int 0, .int 0, .int 0, .int 0, .int 0, .int 0, .int 0, .int (-1), .int 0])), (ea, .inl (cI, 48, .inl (fun _ => 0))), (pa, .inl (cZ, 48, .inl (fun _ => 0)))]) [0, 1, 2, 3, 4] (by decide) rfl
  have hK9 := hK.sub (tys' := [(cH, .object RX2), (cI, .int), (cZ, .boolean)]) [0, 1, 2] rfl
  exact W.iret (v := (nI n)) hx hb hr (fun zt zht hW => ⟨⟨(nI n), (q22, ea, pa), rfl, rfl, by rw [zht]; exact hP9, va_K.moved hW.alike hK9, hD9⟩, hS.F zht⟩) hS.2.2 dX3_test_46 hlocks
set_option maxHeartbeats 4000000 in
set_option maxRecDepth 100000 in
theorem c_fla_init (l : Launch) (dC : Nat → ClassId) (dI : Nat → Nat → Nat) (f0 : Nat) (sz : Nat)  : Met l yX3_init wsX3_init ({ frames := 3, cells := 6, slots := 50, locals := 52 } : Room) (va_Pc [.ref f0] (fw_pW (dC, dI) vwCl [] [(f0, .inr (3, [.null, .null, .int 0, .int 0, .int 0, .int 0]))] sz)) (va_Qv (S := Nat × Nat × Nat × Nat × Nat × Nat × ClassId × ClassId) (fun _ => True) (fun u t => match u with | (q7, q14, s0, sa, t0, ta, cA7, cJ) => fw_q (dC, dI) vwCl [(cA7, .object RX2), (cJ, .long)] (va_A [(f0, .inr (3, [.null, .null, .int 0, .int 0, .int 0, .int 0]))] sz) [(f0, .inr (3, [.ref q7, .ref q14, .int 0, .int 50, .int 20, .int 5])), (q7, .inl (cA7, 12, .inr (.inr (.inr (.inr (fun _ => none)))))), (q14, .inr (0, [.ref s0, .ref t0])), (s0, .inr (1, [.ref sa])), (sa, .inl (cJ, 17, .inr (.inl (fun j => lN ((fun _ : Nat => 0) j))))), (t0, .inr (1, [.ref ta])), (ta, .inl (cJ, 17, .inr (.inl (fun j => lN ((fun _ : Nat => 0) j)))))] t) (va_A [(f0, .inr (3, [.null, .null, .int 0, .int 0, .int 0, .int 0]))] sz)) 6 50 (va_A [(f0, .inr (3, [.null, .null, .int 0, .int 0, .int 0, .int 0]))] sz) := by
  refine fw_metW (cc := cX3_init) (maxL := 1) (ret := none) (by decide) rfl (Nat.le_of_ble_eq_true rfl) ?_
  intro zp ze zs zm zbelow zmeth zc ls hx hb hr hts hown hlocks hml hin hN hsz hP hK hD hA hS hl
  generalize hAe : (va_A [(f0, .inr (3, [.null, .null, .int 0, .int 0, .int 0, .int 0]))] sz) = A at hD hA hS ⊢
  have hown : zs.vm.findClass RX3 = some zm.cls := hown
  have hin : zmeth.name = "<init>" := hin
  have hl : lv_has ls 1 [(0, .ref f0)] := hl
  refine lv_aload_n hx hb dX3_init_0 rfl (lv_at hl 0 rfl) ?_
  refine W.objInit hx hb hown (hts (.methodLink RX3 1 objectInit) (by decide +kernel)) (hts (.instanceMethod objectInit) (by decide +kernel)) (hts _ (by decide +kernel)) rfl (by rw [hml]; exact hl.1) rfl dX3_init_1 (Nat.le_of_ble_eq_true rfl) (Nat.le_of_ble_eq_true rfl) ?_
  refine W.eq (g2 := F0 zm 4 ls []) rfl ?_
  refine lv_aload_n hx hb dX3_init_4 rfl (lv_at hl 0 rfl) ?_
  refine lv_bipush (v := 12) hx hb dX3_init_5 (by decide) ?_
  refine va_newq (C := RX2) (N' := 12) hx hb hown (hts (.classLink RX3 9 RX2) (by decide +kernel)) hN.1 hK hP hD hS hA (by decide) (by decide) (by decide +kernel) (Nat.le_of_ble_eq_true rfl) (Nat.le_of_ble_eq_true rfl) dX3_init_7 (fun q7 cA7 H hK hP hD hS => ?_)
  have hK : va_K (dC, dI) vwCl [(cA7, .object RX2)] zs := hK
  have hP : va_P (dC, dI) vwCl [(f0, .inr (3, [.null, .null, .int 0, .int 0, .int 0, .int 0])), (q7, .inl (cA7, 12, .inr (.inr (.inr (.inr (fun _ => none))))))] H := hP
  have hD : va_D A [(f0, .inr (3, [.null, .null, .int 0, .int 0, .int 0, .int 0])), (q7, .inl (cA7, 12, .inr (.inr (.inr (.inr (fun _ => none))))))] := hD
  refine W.widen (k := 1) (n := 12) (by decide) (by decide) ?_
  refine va_putF (D := (dC, dI)) (ci := 3) (v := .ref q7) (ty := (.array (.object "FlakyBounds$History"))) (C := RX3) (T := TX3) (N := 6) hx hb hts (by decide +kernel) tyX3 tyX3_ok nmX3 hown hK hP hD hS 0 rfl rfl 0 (by decide) (hts (.fieldLink RX3 11 "FlakyBounds" "histories" "[LFlakyBounds$History;") (by decide +kernel)) (fun _ h9 => h9) rfl hin rfl (by decide +kernel) rfl rfl (Nat.le_of_ble_eq_true rfl) dX3_init_10 (fun H locs hP hD hS => ?_)
  have hP : va_P (dC, dI) vwCl [(f0, .inr (3, [.ref q7, .null, .int 0, .int 0, .int 0, .int 0])), (q7, .inl (cA7, 12, .inr (.inr (.inr (.inr (fun _ => none))))))] H := hP
  have hD : va_D A [(f0, .inr (3, [.ref q7, .null, .int 0, .int 0, .int 0, .int 0])), (q7, .inl (cA7, 12, .inr (.inr (.inr (.inr (fun _ => none))))))] := hD
  refine lv_aload_n hx hb dX3_init_13 rfl (lv_at hl 0 rfl) ?_
  refine va_new (ci := 0) (fs := [.null, .null]) (C := RX0) (T := TX0) (N := 2) hx hb hts (by decide +kernel) tyX0 tyX0_ok hown (hts (.classLink RX3 15 RX0) (by decide +kernel)) (hts (.instantiable RX0 2) (by decide +kernel)) (hts (.initialized RX0) (by decide +kernel)) hK hP hD hS hA rfl (by decide) (Nat.le_of_ble_eq_true rfl) (Nat.le_of_ble_eq_true rfl) dX3_init_14 (fun q14 H hP hD hS => ?_)
  have hP : va_P (dC, dI) vwCl [(f0, .inr (3, [.ref q7, .null, .int 0, .int 0, .int 0, .int 0])), (q7, .inl (cA7, 12, .inr (.inr (.inr (.inr (fun _ => none)))))), (q14, .inr (0, [.null, .null]))] H := hP
  have hD : va_D A [(f0, .inr (3, [.ref q7, .null, .int 0, .int 0, .int 0, .int 0])), (q7, .inl (cA7, 12, .inr (.inr (.inr (.inr (fun _ => none)))))), (q14, .inr (0, [.null, .null]))] := hD
  refine W.widen (k := 2) (n := 14) (by decide) (by decide) ?_
  refine lv_dup hx hb dX3_init_17 rfl ?_
  have hPc := hP.sub (ws' := [(q14, .inr (0, [.null, .null]))]) [2] rfl
  have hKc := hK.sub (tys' := []) [] rfl
  have hDc := hD.sub (ws' := [(q14, .inr (0, [.null, .null]))]) [2] (by decide) rfl
  have hFc := va_free (wc := [(q14, .inr (0, [.null, .null]))]) hD hS hA [2] rfl
  refine va_callv (va_runI (As := []) (rest := [.ref q14, .ref f0]) ⟨hx, hb, hml, hown, hts⟩ (c_cha_init l dC dI q14 H.size) (cwI 0 hts gX3_init_X0_init rfl rfl rfl (hts (.initialized RX0) (by decide +kernel)) (hts (.methodLink RX3 17 yX0_init) (by decide +kernel)) (hts (.instanceMethod yX0_init) (by decide +kernel)) rfl (by decide +kernel) ⟨Nat.le_of_ble_eq_true rfl, Nat.le_of_ble_eq_true rfl⟩) (fw_preSW hN hKc hPc hDc) rfl rfl hl.1 rfl (lv_room (Nat.le_of_ble_eq_true rfl)) dX3_init_18 ⟨Nat.le_of_ble_eq_true rfl, Nat.le_of_ble_eq_true rfl⟩) hS (fun q _ h => hFc q h) hFc (fun u zt H1 locs zht hvm hw hB hz1 hk1 hS => ?_)
  obtain ⟨s0, sa, t0, ta, cJ⟩ := u
  obtain ⟨hP1, hK1, hD1⟩ := hB
  rw [zht] at hP1
  obtain ⟨hP, hD⟩ := va_join (wr := [(f0, .inr (3, [.ref q7, .null, .int 0, .int 0, .int 0, .int 0])), (q7, .inl (cA7, 12, .inr (.inr (.inr (.inr (fun _ => none))))))]) (w1 := [(q14, .inr (0, [.ref s0, .ref t0])), (s0, .inr (1, [.ref sa])), (sa, .inl (cJ, 17, .inr (.inl (fun j => lN ((fun _ : Nat => 0) j))))), (t0, .inr (1, [.ref ta])), (ta, .inl (cJ, 17, .inr (.inl (fun j => lN ((fun _ : Nat => 0) j)))))]) hP hD [2] [0, 1] rfl rfl (by decide) (by decide) hk1 hFc hP1 hD1
  have hK := hK.app (va_K.moved hvm.symm hK1)
  have hK : va_K (dC, dI) vwCl [(cA7, .object RX2), (cJ, .long)] zs := hK
  generalize H1 = H at hP hS ⊢
  have hP : va_P (dC, dI) vwCl [(f0, .inr (3, [.ref q7, .null, .int 0, .int 0, .int 0, .int 0])), (q7, .inl (cA7, 12, .inr (.inr (.inr (.inr (fun _ => none)))))), (q14, .inr (0, [.ref s0, .ref t0])), (s0, .inr (1, [.ref sa])), (sa, .inl (cJ, 17, .inr (.inl (fun j => lN ((fun _ : Nat => 0) j))))), (t0, .inr (1, [.ref ta])), (ta, .inl (cJ, 17, .inr (.inl (fun j => lN ((fun _ : Nat => 0) j)))))] H := hP
  have hD : va_D A [(f0, .inr (3, [.ref q7, .null, .int 0, .int 0, .int 0, .int 0])), (q7, .inl (cA7, 12, .inr (.inr (.inr (.inr (fun _ => none)))))), (q14, .inr (0, [.ref s0, .ref t0])), (s0, .inr (1, [.ref sa])), (sa, .inl (cJ, 17, .inr (.inl (fun j => lN ((fun _ : Nat => 0) j))))), (t0, .inr (1, [.ref ta])), (ta, .inl (cJ, 17, .inr (.inl (fun j => lN ((fun _ : Nat => 0) j)))))] := hD
  refine W.widen (k := 6) (n := 50) (by decide) (by decide) ?_
  refine va_putF (D := (dC, dI)) (ci := 3) (v := .ref q14) (ty := (.object "FlakyBounds$Chance")) (C := RX3) (T := TX3) (N := 6) hx hb hts (by decide +kernel) tyX3 tyX3_ok nmX3 hown hK hP hD hS 0 rfl rfl 1 (by decide) (hts (.fieldLink RX3 18 "FlakyBounds" "chance" "LFlakyBounds$Chance;") (by decide +kernel)) (fun _ h9 => h9) rfl hin rfl (by decide +kernel) rfl rfl (Nat.le_of_ble_eq_true rfl) dX3_init_21 (fun H locs hP hD hS => ?_)
  have hP : va_P (dC, dI) vwCl [(f0, .inr (3, [.ref q7, .ref q14, .int 0, .int 0, .int 0, .int 0])), (q7, .inl (cA7, 12, .inr (.inr (.inr (.inr (fun _ => none)))))), (q14, .inr (0, [.ref s0, .ref t0])), (s0, .inr (1, [.ref sa])), (sa, .inl (cJ, 17, .inr (.inl (fun j => lN ((fun _ : Nat => 0) j))))), (t0, .inr (1, [.ref ta])), (ta, .inl (cJ, 17, .inr (.inl (fun j => lN ((fun _ : Nat => 0) j)))))] H := hP
  have hD : va_D A [(f0, .inr (3, [.ref q7, .ref q14, .int 0, .int 0, .int 0, .int 0])), (q7, .inl (cA7, 12, .inr (.inr (.inr (.inr (fun _ => none)))))), (q14, .inr (0, [.ref s0, .ref t0])), (s0, .inr (1, [.ref sa])), (sa, .inl (cJ, 17, .inr (.inl (fun j => lN ((fun _ : Nat => 0) j))))), (t0, .inr (1, [.ref ta])), (ta, .inl (cJ, 17, .inr (.inl (fun j => lN ((fun _ : Nat => 0) j)))))] := hD
  refine lv_aload_n hx hb dX3_init_24 rfl (lv_at hl 0 rfl) ?_
  refine lv_iconst (v := 0) hx hb dX3_init_25 (by decide) ?_
  refine va_put (D := (dC, dI)) (ci := 3) (v := .int 0) (ty := .int) (C := RX3) (T := TX3) (N := 6) hx hb hts (by decide +kernel) tyX3 tyX3_ok nmX3 hown hK hP hD hS 0 rfl rfl 2 (by decide) (hts (.fieldLink RX3 22 "FlakyBounds" "tests" "I") (by decide +kernel)) (fun _ h9 => h9) rfl (by decide +kernel) rfl rfl (Nat.le_of_ble_eq_true rfl) dX3_init_26 (fun H locs hP hD hS => ?_)
  have hP : va_P (dC, dI) vwCl [(f0, .inr (3, [.ref q7, .ref q14, .int 0, .int 0, .int 0, .int 0])), (q7, .inl (cA7, 12, .inr (.inr (.inr (.inr (fun _ => none)))))), (q14, .inr (0, [.ref s0, .ref t0])), (s0, .inr (1, [.ref sa])), (sa, .inl (cJ, 17, .inr (.inl (fun j => lN ((fun _ : Nat => 0) j))))), (t0, .inr (1, [.ref ta])), (ta, .inl (cJ, 17, .inr (.inl (fun j => lN ((fun _ : Nat => 0) j)))))] H := hP
  have hD : va_D A [(f0, .inr (3, [.ref q7, .ref q14, .int 0, .int 0, .int 0, .int 0])), (q7, .inl (cA7, 12, .inr (.inr (.inr (.inr (fun _ => none)))))), (q14, .inr (0, [.ref s0, .ref t0])), (s0, .inr (1, [.ref sa])), (sa, .inl (cJ, 17, .inr (.inl (fun j => lN ((fun _ : Nat => 0) j))))), (t0, .inr (1, [.ref ta])), (ta, .inl (cJ, 17, .inr (.inl (fun j => lN ((fun _ : Nat => 0) j)))))] := hD
  refine lv_aload_n hx hb dX3_init_29 rfl (lv_at hl 0 rfl) ?_
  refine lv_bipush (v := 50) hx hb dX3_init_30 (by decide) ?_
  refine va_put (D := (dC, dI)) (ci := 3) (v := .int 50) (ty := .int) (C := RX3) (T := TX3) (N := 6) hx hb hts (by decide +kernel) tyX3 tyX3_ok nmX3 hown hK hP hD hS 0 rfl rfl 3 (by decide) (hts (.fieldLink RX3 26 "FlakyBounds" "ruleLevel" "I") (by decide +kernel)) (fun _ h9 => h9) rfl (by decide +kernel) rfl rfl (Nat.le_of_ble_eq_true rfl) dX3_init_32 (fun H locs hP hD hS => ?_)
  have hP : va_P (dC, dI) vwCl [(f0, .inr (3, [.ref q7, .ref q14, .int 0, .int 50, .int 0, .int 0])), (q7, .inl (cA7, 12, .inr (.inr (.inr (.inr (fun _ => none)))))), (q14, .inr (0, [.ref s0, .ref t0])), (s0, .inr (1, [.ref sa])), (sa, .inl (cJ, 17, .inr (.inl (fun j => lN ((fun _ : Nat => 0) j))))), (t0, .inr (1, [.ref ta])), (ta, .inl (cJ, 17, .inr (.inl (fun j => lN ((fun _ : Nat => 0) j)))))] H := hP
  have hD : va_D A [(f0, .inr (3, [.ref q7, .ref q14, .int 0, .int 50, .int 0, .int 0])), (q7, .inl (cA7, 12, .inr (.inr (.inr (.inr (fun _ => none)))))), (q14, .inr (0, [.ref s0, .ref t0])), (s0, .inr (1, [.ref sa])), (sa, .inl (cJ, 17, .inr (.inl (fun j => lN ((fun _ : Nat => 0) j))))), (t0, .inr (1, [.ref ta])), (ta, .inl (cJ, 17, .inr (.inl (fun j => lN ((fun _ : Nat => 0) j)))))] := hD
  refine lv_aload_n hx hb dX3_init_35 rfl (lv_at hl 0 rfl) ?_
  refine lv_bipush (v := 20) hx hb dX3_init_36 (by decide) ?_
  refine va_put (D := (dC, dI)) (ci := 3) (v := .int 20) (ty := .int) (C := RX3) (T := TX3) (N := 6) hx hb hts (by decide +kernel) tyX3 tyX3_ok nmX3 hown hK hP hD hS 0 rfl rfl 4 (by decide) (hts (.fieldLink RX3 29 "FlakyBounds" "ruleMark" "I") (by decide +kernel)) (fun _ h9 => h9) rfl (by decide +kernel) rfl rfl (Nat.le_of_ble_eq_true rfl) dX3_init_38 (fun H locs hP hD hS => ?_)
  have hP : va_P (dC, dI) vwCl [(f0, .inr (3, [.ref q7, .ref q14, .int 0, .int 50, .int 20, .int 0])), (q7, .inl (cA7, 12, .inr (.inr (.inr (.inr (fun _ => none)))))), (q14, .inr (0, [.ref s0, .ref t0])), (s0, .inr (1, [.ref sa])), (sa, .inl (cJ, 17, .inr (.inl (fun j => lN ((fun _ : Nat => 0) j))))), (t0, .inr (1, [.ref ta])), (ta, .inl (cJ, 17, .inr (.inl (fun j => lN ((fun _ : Nat => 0) j)))))] H := hP
  have hD : va_D A [(f0, .inr (3, [.ref q7, .ref q14, .int 0, .int 50, .int 20, .int 0])), (q7, .inl (cA7, 12, .inr (.inr (.inr (.inr (fun _ => none)))))), (q14, .inr (0, [.ref s0, .ref t0])), (s0, .inr (1, [.ref sa])), (sa, .inl (cJ, 17, .inr (.inl (fun j => lN ((fun _ : Nat => 0) j))))), (t0, .inr (1, [.ref ta])), (ta, .inl (cJ, 17, .inr (.inl (fun j => lN ((fun _ : Nat => 0) j)))))] := hD
  refine lv_aload_n hx hb dX3_init_41 rfl (lv_at hl 0 rfl) ?_
  refine lv_iconst (v := 5) hx hb dX3_init_42 (by decide) ?_
  refine va_put (D := (dC, dI)) (ci := 3) (v := .int 5) (ty := .int) (C := RX3) (T := TX3) (N := 6) hx hb hts (by decide +kernel) tyX3 tyX3_ok nmX3 hown hK hP hD hS 0 rfl rfl 5 (by decide) (hts (.fieldLink RX3 32 "FlakyBounds" "ruleClear" "I") (by decide +kernel)) (fun _ h9 => h9) rfl (by decide +kernel) rfl rfl (Nat.le_of_ble_eq_true rfl) dX3_init_43 (fun H locs hP hD hS => ?_)
  have hP : va_P (dC, dI) vwCl [(f0, .inr (3, [.ref q7, .ref q14, .int 0, .int 50, .int 20, .int 5])), (q7, .inl (cA7, 12, .inr (.inr (.inr (.inr (fun _ => none)))))), (q14, .inr (0, [.ref s0, .ref t0])), (s0, .inr (1, [.ref sa])), (sa, .inl (cJ, 17, .inr (.inl (fun j => lN ((fun _ : Nat => 0) j))))), (t0, .inr (1, [.ref ta])), (ta, .inl (cJ, 17, .inr (.inl (fun j => lN ((fun _ : Nat => 0) j)))))] H := hP
  have hD : va_D A [(f0, .inr (3, [.ref q7, .ref q14, .int 0, .int 50, .int 20, .int 5])), (q7, .inl (cA7, 12, .inr (.inr (.inr (.inr (fun _ => none)))))), (q14, .inr (0, [.ref s0, .ref t0])), (s0, .inr (1, [.ref sa])), (sa, .inl (cJ, 17, .inr (.inl (fun j => lN ((fun _ : Nat => 0) j))))), (t0, .inr (1, [.ref ta])), (ta, .inl (cJ, 17, .inr (.inl (fun j => lN ((fun _ : Nat => 0) j)))))] := hD
  have hP9 := hP.sub (ws' := [(f0, .inr (3, [.ref q7, .ref q14, .int 0, .int 50, .int 20, .int 5])), (q7, .inl (cA7, 12, .inr (.inr (.inr (.inr (fun _ => none)))))), (q14, .inr (0, [.ref s0, .ref t0])), (s0, .inr (1, [.ref sa])), (sa, .inl (cJ, 17, .inr (.inl (fun j => lN ((fun _ : Nat => 0) j))))), (t0, .inr (1, [.ref ta])), (ta, .inl (cJ, 17, .inr (.inl (fun j => lN ((fun _ : Nat => 0) j)))))]) [0, 1, 2, 3, 4, 5, 6] rfl
  have hD9 := hD.sub (ws' := [(f0, .inr (3, [.ref q7, .ref q14, .int 0, .int 50, .int 20, .int 5])), (q7, .inl (cA7, 12, .inr (.inr (.inr (.inr (fun _ => none)))))), (q14, .inr (0, [.ref s0, .ref t0])), (s0, .inr (1, [.ref sa])), (sa, .inl (cJ, 17, .inr (.inl (fun j => lN ((fun _ : Nat => 0) j))))), (t0, .inr (1, [.ref ta])), (ta, .inl (cJ, 17, .inr (.inl (fun j => lN ((fun _ : Nat => 0) j)))))]) [0, 1, 2, 3, 4, 5, 6] (by decide) rfl
  have hK9 := hK.sub (tys' := [(cA7, .object RX2), (cJ, .long)]) [0, 1] rfl
  exact W.vret hx hb hr (fun zt zht hW => ⟨⟨(q7, q14, s0, sa, t0, ta, cA7, cJ), rfl, trivial, by rw [zht]; exact hP9, va_K.moved hW.alike hK9, hD9⟩, hS.F zht⟩) hS.2.2 dX3_init_46 hlocks
