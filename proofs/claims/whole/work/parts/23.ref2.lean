set_option maxHeartbeats 4000000 in
set_option maxRecDepth 100000 in
theorem c_ref_isTest (l : Launch) (dC : Nat → ClassId) (dI : Nat → Nat → Nat) (m0 : Nat) (v0 v2 v3 v4 v5 v6 v7 v8 v9 v10 v11 v12 v13 : Value) (n : Nat) (x : Int32)  : Met l yX4_isTest wsX4_isTest ({ frames := 0, cells := 0, slots := 0, locals := 0 } : Room) (va_Pc [.ref m0, .int x] (fw_pR (dC, dI) vwCl [] [(m0, .inr (4, [v0, .int (nI n), v2, v3, v4, v5, v6, v7, v8, v9, v10, v11, v12, v13]))])) (vp_Si (fun r => r = zI (fv_te n x))) 0 0 (fun _ => False) := by
  refine fw_metR (cc := cX4_isTest) (maxL := 2) (ret := (some .boolean)) (by decide) rfl (Nat.le_of_ble_eq_true rfl) ?_
  intro zp ze zs zm zbelow zmeth zc ls hx hb hr hts hown hlocks hml hin hN hP hK hl
  have hown : zs.vm.findClass RX4 = some zm.cls := hown
  have hl : lv_has ls 2 [(0, .ref m0), (1, .int x)] := hl
  refine lv_iload_n hx hb dX4_isTest_0 rfl (lv_at hl 1 rfl) ?_
  refine lv_if_lt (tgt := 16) hx hb dX4_isTest_1 (by decide) (fun c_1 => ?_) (fun c_1 => ?_)
  · -- then 1
    refine lv_iconst (v := 0) hx hb dX4_isTest_16 (by decide) ?_
    exact W.zret (v := 0) (ty := .boolean) hx hb hr rfl (fun zt zht _ => ⟨0, rfl, by unfold fv_te; rw [decide_eq_true c_1]; rfl, zht⟩) (fun q h => by cases h) dX4_isTest_17 hlocks
  · -- else 1
    refine lv_iload_n hx hb dX4_isTest_4 rfl (lv_at hl 1 rfl) ?_
    refine lv_aload_n hx hb dX4_isTest_5 rfl (lv_at hl 0 rfl) ?_
    refine va_get (D := (dC, dI)) (ci := 4) (v := .int (nI n)) (C := RX4) (T := TX4) (N := 14) hx hb hts (by decide +kernel) hown hK hP 0 rfl rfl 1 (by decide) (hts (.fieldLink RX4 52 "FlakyBoundsModel" "tests" "I") (by decide +kernel)) (fun _ h9 => h9) rfl dX4_isTest_6 ?_
    refine lv_icmp_ge (tgt := 16) hx hb dX4_isTest_9 (by decide) (fun c_9 => ?_) (fun c_9 => ?_)
    · -- then 9
      refine lv_iconst (v := 0) hx hb dX4_isTest_16 (by decide) ?_
      exact W.zret (v := 0) (ty := .boolean) hx hb hr rfl (fun zt zht _ => ⟨0, rfl, by unfold fv_te; rw [decide_eq_false c_1, decide_eq_true c_9]; rfl, zht⟩) (fun q h => by cases h) dX4_isTest_17 hlocks
    · -- else 9
      refine lv_iconst (v := 1) hx hb dX4_isTest_12 (by decide) ?_
      refine lv_goto (tgt := 17) hx hb dX4_isTest_13 (by decide) ?_
      exact W.zret (v := 1) (ty := .boolean) hx hb hr rfl (fun zt zht _ => ⟨1, rfl, by unfold fv_te; rw [decide_eq_false c_1, decide_eq_false c_9]; rfl, zht⟩) (fun q h => by cases h) dX4_isTest_17 hlocks
set_option maxHeartbeats 4000000 in
set_option maxRecDepth 100000 in
theorem c_ref_edition (l : Launch) (dC : Nat → ClassId) (dI : Nat → Nat → Nat) (m0 pr : Nat) (cI : ClassId) (v0 v1 v2 v3 v4 v5 v7 v8 v9 v10 v11 v12 v13 : Value) (rn : Nat → Nat) (t k : Nat) (ht : t < 12) (hk : k < 48) (hrn : ∀ j, j < 576 → rn j < 2000) : Met l yX4_edition wsX4_edition ({ frames := 0, cells := 0, slots := 0, locals := 0 } : Room) (va_Pc [.ref m0, .int (nI t), .int (nI k)] (fw_pR (dC, dI) vwCl [(cI, .int)] [(m0, .inr (4, [v0, v1, v2, v3, v4, v5, .ref pr, v7, v8, v9, v10, v11, v12, v13])), (pr, .inl (cI, 576, .inl (fun j => nI (rn j))))])) (vp_Si (fun r => r = re_e rn t k)) 0 0 (fun _ => False) := by
  refine fw_metR (cc := cX4_edition) (maxL := 3) (ret := (some .int)) (by decide) rfl (Nat.le_of_ble_eq_true rfl) ?_
  intro zp ze zs zm zbelow zmeth zc ls hx hb hr hts hown hlocks hml hin hN hP hK hl
  have hown : zs.vm.findClass RX4 = some zm.cls := hown
  have hl : lv_has ls 3 [(0, .ref m0), (1, .int (nI t)), (2, .int (nI k))] := hl
  have hr1 := hrn (48 * t + k) (by omega)
  refine lv_aload_n hx hb dX4_edition_0 rfl (lv_at hl 0 rfl) ?_
  refine va_get (D := (dC, dI)) (ci := 4) (v := .ref pr) (C := RX4) (T := TX4) (N := 14) hx hb hts (by decide +kernel) hown hK hP 0 rfl rfl 6 (by decide) (hts (.fieldLink RX4 23 "FlakyBoundsModel" "runs" "[I") (by decide +kernel)) (fun _ h9 => h9) rfl dX4_edition_1 ?_
  refine lv_bipush (v := 48) hx hb dX4_edition_4 (by decide) ?_
  refine lv_iload_n hx hb dX4_edition_6 rfl (lv_at hl 1 rfl) ?_
  refine lv_imul hx hb dX4_edition_7 ?_
  refine fw_i (x' := nI (48 * t)) (pk_mul 48 t) ?_
  refine lv_iload_n hx hb dX4_edition_8 rfl (lv_at hl 2 rfl) ?_
  refine lv_iadd hx hb dX4_edition_9 ?_
  refine fw_i (x' := nI (48 * t + k)) (nI_add _ _) ?_
  refine va_iald hx hb hK hP 1 0 rfl rfl (vp_in_nI (by omega) (by decide)) dX4_edition_10 ?_
  refine fw_i (x' := nI (rn (48 * t + k))) (by rw [nI_clamp (by omega)]) ?_
  refine lv_iconst (v := 2) hx hb dX4_edition_11 (by decide) ?_
  refine lv_idiv hx hb dX4_edition_12 (by decide) ?_
  refine fw_i (x' := nI (rn (48 * t + k) / 2)) (pk_div (d := 2) (by omega) (by decide) (by decide)) ?_
  exact W.iret (v := (nI (rn (48 * t + k) / 2))) hx hb hr (fun zt zht _ => ⟨(nI (rn (48 * t + k) / 2)), rfl, rfl, zht⟩) (fun q h => by cases h) dX4_edition_13 hlocks
set_option maxHeartbeats 4000000 in
set_option maxRecDepth 100000 in
theorem c_ref_isPass (l : Launch) (dC : Nat → ClassId) (dI : Nat → Nat → Nat) (m0 pr : Nat) (cI : ClassId) (v0 v1 v2 v3 v4 v5 v7 v8 v9 v10 v11 v12 v13 : Value) (rn : Nat → Nat) (t k : Nat) (ht : t < 12) (hk : k < 48) (hrn : ∀ j, j < 576 → rn j < 2000) : Met l yX4_isPass wsX4_isPass ({ frames := 0, cells := 0, slots := 0, locals := 0 } : Room) (va_Pc [.ref m0, .int (nI t), .int (nI k)] (fw_pR (dC, dI) vwCl [(cI, .int)] [(m0, .inr (4, [v0, v1, v2, v3, v4, v5, .ref pr, v7, v8, v9, v10, v11, v12, v13])), (pr, .inl (cI, 576, .inl (fun j => nI (rn j))))])) (vp_Si (fun r => r = zI (re_b rn t k))) 0 0 (fun _ => False) := by
  refine fw_metR (cc := cX4_isPass) (maxL := 3) (ret := (some .boolean)) (by decide) rfl (Nat.le_of_ble_eq_true rfl) ?_
  intro zp ze zs zm zbelow zmeth zc ls hx hb hr hts hown hlocks hml hin hN hP hK hl
  have hown : zs.vm.findClass RX4 = some zm.cls := hown
  have hl : lv_has ls 3 [(0, .ref m0), (1, .int (nI t)), (2, .int (nI k))] := hl
  have hr1 := hrn (48 * t + k) (by omega)
  refine lv_aload_n hx hb dX4_isPass_0 rfl (lv_at hl 0 rfl) ?_
  refine va_get (D := (dC, dI)) (ci := 4) (v := .ref pr) (C := RX4) (T := TX4) (N := 14) hx hb hts (by decide +kernel) hown hK hP 0 rfl rfl 6 (by decide) (hts (.fieldLink RX4 23 "FlakyBoundsModel" "runs" "[I") (by decide +kernel)) (fun _ h9 => h9) rfl dX4_isPass_1 ?_
  refine lv_bipush (v := 48) hx hb dX4_isPass_4 (by decide) ?_
  refine lv_iload_n hx hb dX4_isPass_6 rfl (lv_at hl 1 rfl) ?_
  refine lv_imul hx hb dX4_isPass_7 ?_
  refine fw_i (x' := nI (48 * t)) (pk_mul 48 t) ?_
  refine lv_iload_n hx hb dX4_isPass_8 rfl (lv_at hl 2 rfl) ?_
  refine lv_iadd hx hb dX4_isPass_9 ?_
  refine fw_i (x' := nI (48 * t + k)) (nI_add _ _) ?_
  refine va_iald hx hb hK hP 1 0 rfl rfl (vp_in_nI (by omega) (by decide)) dX4_isPass_10 ?_
  refine fw_i (x' := nI (rn (48 * t + k))) (by rw [nI_clamp (by omega)]) ?_
  refine lv_iconst (v := 2) hx hb dX4_isPass_11 (by decide) ?_
  refine lv_irem hx hb dX4_isPass_12 (by decide) ?_
  refine fw_i (x' := nI (rn (48 * t + k) % 2)) (pk_rem (d := 2) (by omega) (by decide) (by decide)) ?_
  refine lv_iconst (v := 1) hx hb dX4_isPass_13 (by decide) ?_
  refine lv_icmp_ne (tgt := 21) hx hb dX4_isPass_14 (by decide) (fun c_14 => ?_) (fun c_14 => ?_)
  · -- then 14
    have h14 : ¬ rn (48 * t + k) % 2 = 1 := fun q9 => c_14 (by rw [q9]; rfl)
    refine lv_iconst (v := 0) hx hb dX4_isPass_21 (by decide) ?_
    exact W.zret (v := 0) (ty := .boolean) hx hb hr rfl (fun zt zht _ => ⟨0, rfl, by unfold re_b; rw [decide_eq_false h14]; rfl, zht⟩) (fun q h => by cases h) dX4_isPass_22 hlocks
  · -- else 14
    have h14 : rn (48 * t + k) % 2 = 1 := (nI_eq (b := 1) (by omega) (by decide)).mp c_14
    refine lv_iconst (v := 1) hx hb dX4_isPass_17 (by decide) ?_
    refine lv_goto (tgt := 22) hx hb dX4_isPass_18 (by decide) ?_
    exact W.zret (v := 1) (ty := .boolean) hx hb hr rfl (fun zt zht _ => ⟨1, rfl, by unfold re_b; rw [decide_eq_true h14]; rfl, zht⟩) (fun q h => by cases h) dX4_isPass_22 hlocks
set_option maxHeartbeats 4000000 in
set_option maxRecDepth 100000 in
theorem c_ref_isBad (l : Launch) (dC : Nat → ClassId) (dI : Nat → Nat → Nat) (m0 pz pr : Nat) (cI : ClassId) (v0 v1 v2 v3 v4 v7 v8 v9 v10 v11 v12 v13 : Value) (zf rn : Nat → Nat) (t : Nat) (x : Int32) (ht : t < 12) (hz48 : zf t ≤ 48) (hrn : ∀ j, j < 576 → rn j < 2000) : Met l yX4_isBadFor wsX4_isBadFor ({ frames := 1, cells := 0, slots := 0, locals := 22 } : Room) (va_Pc [.ref m0, .int (nI t), .int x] (fw_pR (dC, dI) vwCl [(cI, .int)] [(m0, .inr (4, [v0, v1, v2, v3, v4, .ref pz, .ref pr, v7, v8, v9, v10, v11, v12, v13])), (pz, .inl (cI, 12, .inl (fun j => nI (zf j)))), (pr, .inl (cI, 576, .inl (fun j => nI (rn j))))])) (vp_Si (fun r => r = zI (hv_has (re_e rn t) (re_b rn t) x false (zf t) && !hv_has (re_e rn t) (re_b rn t) x true (zf t)))) 0 0 (fun _ => False) := by
  refine fw_metR (cc := cX4_isBadFor) (maxL := 6) (ret := (some .boolean)) (by decide) rfl (Nat.le_of_ble_eq_true rfl) ?_
  intro zp ze zs zm zbelow zmeth zc ls hx hb hr hts hown hlocks hml hin hN hP hK hl
  have hown : zs.vm.findClass RX4 = some zm.cls := hown
  have hl : lv_has ls 6 [(0, .ref m0), (1, .int (nI t)), (2, .int x)] := hl
  refine lv_iconst (v := 0) hx hb dX4_isBadFor_0 (by decide) ?_
  refine lv_istore_n (lv' := [(3, .int 0), (0, .ref m0), (1, .int (nI t)), (2, .int x)]) hx hb dX4_isBadFor_1 rfl hl (by decide) rfl (fun ls hl => ?_)
  refine lv_iconst (v := 1) hx hb dX4_isBadFor_2 (by decide) ?_
  refine lv_istore (lv' := [(4, .int 1), (3, .int 0), (0, .ref m0), (1, .int (nI t)), (2, .int x)]) hx hb dX4_isBadFor_3 hl (by decide) rfl (fun ls hl => ?_)
  refine lv_iconst (v := 0) hx hb dX4_isBadFor_5 (by decide) ?_
  refine lv_istore (lv' := [(5, .int 0), (4, .int 1), (3, .int 0), (0, .ref m0), (1, .int (nI t)), (2, .int x)]) hx hb dX4_isBadFor_6 hl (by decide) rfl (fun ls hl => ?_)
  refine fw_loopR (σ := Nat) (I := fun zn u ls => match u with | i => zn = zf t - i ∧ (i ≤ zf t) ∧ lv_has ls 6 [(0, .ref m0), (1, .int (nI t)), (2, .int x), (3, .int (zI (hs_s (re_e rn t) (re_b rn t) x i))), (4, .int (zI (hs_a (re_e rn t) (re_b rn t) x i))), (5, .int (nI i))]) ?_ _ 0 _ ⟨rfl, by omega, lv_sub hl [3, 4, 5, 2, 1, 0] rfl⟩
  intro zn i ls hI ih_8
  obtain ⟨hzn, hi, hl⟩ := hI
  refine lv_iload hx hb dX4_isBadFor_8 (lv_at hl 5 rfl) ?_
  refine lv_aload_n hx hb dX4_isBadFor_10 rfl (lv_at hl 0 rfl) ?_
  refine va_get (D := (dC, dI)) (ci := 4) (v := .ref pz) (C := RX4) (T := TX4) (N := 14) hx hb hts (by decide +kernel) hown hK hP 0 rfl rfl 5 (by decide) (hts (.fieldLink RX4 19 "FlakyBoundsModel" "size" "[I") (by decide +kernel)) (fun _ h9 => h9) rfl dX4_isBadFor_11 ?_
  refine lv_iload_n hx hb dX4_isBadFor_14 rfl (lv_at hl 1 rfl) ?_
  refine va_iald hx hb hK hP 1 0 rfl rfl (vp_in_nI (by omega) (by decide)) dX4_isBadFor_15 ?_
  refine fw_i (x' := nI (zf t)) (by rw [nI_clamp (by omega)]) ?_
  refine lv_icmp_ge (tgt := 79) hx hb dX4_isBadFor_16 (by decide) (fun c_16 => ?_) (fun c_16 => ?_)
  · -- then 16
    have hend : i = zf t := by have := (nI_leI (a := zf t) (b := i) (by omega) (by omega)).mp c_16; omega
    refine lv_iload_n hx hb dX4_isBadFor_79 rfl (lv_at hl 3 rfl) ?_
    refine lv_if_eq (tgt := 92) hx hb dX4_isBadFor_80 (by decide) (fun c_80 => ?_) (fun c_80 => ?_)
    · -- then 80
      have h80 := zI_eq0.mp c_80
      refine lv_iconst (v := 0) hx hb dX4_isBadFor_92 (by decide) ?_
      rw [hend] at h80
      exact W.zret (v := 0) (ty := .boolean) hx hb hr rfl (fun zt zht _ => ⟨0, rfl, by rw [← hs_bad, h80]; rfl, zht⟩) (fun q h => by cases h) dX4_isBadFor_93 hlocks
    · -- else 80
      have h80 := zI_ne0.mp c_80
      refine lv_iload hx hb dX4_isBadFor_83 (lv_at hl 4 rfl) ?_
      refine lv_if_eq (tgt := 92) hx hb dX4_isBadFor_85 (by decide) (fun c_85 => ?_) (fun c_85 => ?_)
      · -- then 85
        have h85 := zI_eq0.mp c_85
        refine lv_iconst (v := 0) hx hb dX4_isBadFor_92 (by decide) ?_
        rw [hend] at h80 h85
        exact W.zret (v := 0) (ty := .boolean) hx hb hr rfl (fun zt zht _ => ⟨0, rfl, by rw [← hs_bad, h80, h85]; rfl, zht⟩) (fun q h => by cases h) dX4_isBadFor_93 hlocks
      · -- else 85
        have h85 := zI_ne0.mp c_85
        refine lv_iconst (v := 1) hx hb dX4_isBadFor_88 (by decide) ?_
        refine lv_goto (tgt := 93) hx hb dX4_isBadFor_89 (by decide) ?_
        rw [hend] at h80 h85
        exact W.zret (v := 1) (ty := .boolean) hx hb hr rfl (fun zt zht _ => ⟨1, rfl, by rw [← hs_bad, h80, h85]; rfl, zht⟩) (fun q h => by cases h) dX4_isBadFor_93 hlocks
  · -- else 16
    have hlt : i < zf t := by
      rcases Nat.lt_or_ge i (zf t) with q9 | q9
      · exact q9
      · exact absurd (nI_le (a := zf t) (b := i) q9 (by omega)) c_16
    refine lv_iload_n hx hb dX4_isBadFor_19 rfl (lv_at hl 3 rfl) ?_
    refine lv_if_ne (tgt := 34) hx hb dX4_isBadFor_20 (by decide) (fun c_20 => ?_) (fun c_20 => ?_)
    · -- then 20
      have h20 := zI_ne0.mp c_20
      refine lv_iconst (v := 1) hx hb dX4_isBadFor_34 (by decide) ?_
      refine lv_goto (tgt := 39) hx hb dX4_isBadFor_35 (by decide) ?_
      refine lv_istore_n (lv' := [(3, .int 1), (0, .ref m0), (1, .int (nI t)), (2, .int x), (4, .int (zI (hs_a (re_e rn t) (re_b rn t) x i))), (5, .int (nI i))]) hx hb dX4_isBadFor_39 rfl hl (by decide) rfl (fun ls hl => ?_)
      refine lv_iload hx hb dX4_isBadFor_40 (lv_at hl 4 rfl) ?_
      refine lv_if_eq (tgt := 70) hx hb dX4_isBadFor_42 (by decide) (fun c_42 => ?_) (fun c_42 => ?_)
      · -- then 42
        have h42 := zI_eq0.mp c_42
        refine lv_iconst (v := 0) hx hb dX4_isBadFor_70 (by decide) ?_
        refine lv_istore (lv' := [(4, .int 0), (3, .int 1), (0, .ref m0), (1, .int (nI t)), (2, .int x), (5, .int (nI i))]) hx hb dX4_isBadFor_71 hl (by decide) rfl (fun ls hl => ?_)
        refine lv_iinc (v := nI (i + 1)) (lv' := [(5, .int (nI (i + 1))), (4, .int 0), (3, .int 1), (0, .ref m0), (1, .int (nI t)), (2, .int x)]) hx hb dX4_isBadFor_73 hl (k := 5) rfl (nI_1 i) (by decide) rfl (fun ls hl => ?_)
        refine lv_goto (tgt := 8) hx hb dX4_isBadFor_76 (by decide) ?_
        have z1 : hs_s (re_e rn t) (re_b rn t) x (i + 1) = true := by rw [hs_sS, h20]; rfl
        have z2 : hs_a (re_e rn t) (re_b rn t) x (i + 1) = false := by rw [hs_aS, h42]; rfl
        exact ih_8 _ (i + 1) _ (by omega) ⟨rfl, by omega, by rw [z1, z2]; exact lv_sub hl [3, 4, 5, 2, 1, 0] rfl⟩
      · -- else 42
        have h42 := zI_ne0.mp c_42
        refine lv_aload_n hx hb dX4_isBadFor_45 rfl (lv_at hl 1 rfl) ?_
        refine lv_iload_n hx hb dX4_isBadFor_46 rfl (lv_at hl 2 rfl) ?_
        refine lv_iload hx hb dX4_isBadFor_47 (lv_at hl 5 rfl) ?_
        have hPc := hP.sub (ws' := [(m0, .inr (4, [v0, v1, v2, v3, v4, .ref pz, .ref pr, v7, v8, v9, v10, v11, v12, v13])), (pr, .inl (cI, 576, .inl (fun j => nI (rn j))))]) [0, 2] rfl
        have hKc := hK.sub (tys' := [(cI, .int)]) [0] rfl
        refine vp_callSi (va_runV (As := [.int (nI t), .int (nI i)]) (rest := []) ⟨hx, hb, hml, hown, hts⟩ (c_ref_edition l dC dI m0 pr cI v0 v1 v2 v3 v4 (.ref pz) v7 v8 v9 v10 v11 v12 v13 rn t i ht (by omega) hrn) (cwV 2 hts gX4_isBadFor_X4_edition rfl rfl rfl (by decide +kernel) ⟨Nat.le_of_ble_eq_true rfl, Nat.le_of_ble_eq_true rfl⟩) (fw_preVR hN hKc hPc (ci := 4) (q0 := 0) rfl rfl) rfl rfl hl.1 rfl (lv_room (Nat.le_of_ble_eq_true rfl)) dX4_isBadFor_49 ⟨Nat.le_of_ble_eq_true rfl, Nat.le_of_ble_eq_true rfl⟩).run (fun r_49 hr_49 => ?_)
        obtain rfl : r_49 = re_e rn t i := hr_49
        refine lv_iload_n hx hb dX4_isBadFor_52 rfl (lv_at hl 3 rfl) ?_
        refine lv_icmp_ne (tgt := 66) hx hb dX4_isBadFor_53 (by decide) (fun c_53 => ?_) (fun c_53 => ?_)
        · -- then 53
          have h53 := c_53
          refine lv_iconst (v := 1) hx hb dX4_isBadFor_66 (by decide) ?_
          refine lv_goto (tgt := 71) hx hb dX4_isBadFor_67 (by decide) ?_
          refine lv_istore (lv' := [(4, .int 1), (3, .int 1), (0, .ref m0), (1, .int (nI t)), (2, .int x), (5, .int (nI i))]) hx hb dX4_isBadFor_71 hl (by decide) rfl (fun ls hl => ?_)
          refine lv_iinc (v := nI (i + 1)) (lv' := [(5, .int (nI (i + 1))), (4, .int 1), (3, .int 1), (0, .ref m0), (1, .int (nI t)), (2, .int x)]) hx hb dX4_isBadFor_73 hl (k := 5) rfl (nI_1 i) (by decide) rfl (fun ls hl => ?_)
          refine lv_goto (tgt := 8) hx hb dX4_isBadFor_76 (by decide) ?_
          have z1 : hs_s (re_e rn t) (re_b rn t) x (i + 1) = true := by rw [hs_sS, h20]; rfl
          have z2 : hs_a (re_e rn t) (re_b rn t) x (i + 1) = true := by rw [hs_aS, h42, decide_eq_false h53]; rfl
          exact ih_8 _ (i + 1) _ (by omega) ⟨rfl, by omega, by rw [z1, z2]; exact lv_sub hl [3, 4, 5, 2, 1, 0] rfl⟩
        · -- else 53
          have h53 := c_53
          refine lv_aload_n hx hb dX4_isBadFor_56 rfl (lv_at hl 1 rfl) ?_
          refine lv_iload_n hx hb dX4_isBadFor_57 rfl (lv_at hl 2 rfl) ?_
          refine lv_iload hx hb dX4_isBadFor_58 (lv_at hl 5 rfl) ?_
          have hPc := hP.sub (ws' := [(m0, .inr (4, [v0, v1, v2, v3, v4, .ref pz, .ref pr, v7, v8, v9, v10, v11, v12, v13])), (pr, .inl (cI, 576, .inl (fun j => nI (rn j))))]) [0, 2] rfl
          have hKc := hK.sub (tys' := [(cI, .int)]) [0] rfl
          refine vp_callSi (va_runV (As := [.int (nI t), .int (nI i)]) (rest := []) ⟨hx, hb, hml, hown, hts⟩ (c_ref_isPass l dC dI m0 pr cI v0 v1 v2 v3 v4 (.ref pz) v7 v8 v9 v10 v11 v12 v13 rn t i ht (by omega) hrn) (cwV 2 hts gX4_isBadFor_X4_isPass rfl rfl rfl (by decide +kernel) ⟨Nat.le_of_ble_eq_true rfl, Nat.le_of_ble_eq_true rfl⟩) (fw_preVR hN hKc hPc (ci := 4) (q0 := 0) rfl rfl) rfl rfl hl.1 rfl (lv_room (Nat.le_of_ble_eq_true rfl)) dX4_isBadFor_60 ⟨Nat.le_of_ble_eq_true rfl, Nat.le_of_ble_eq_true rfl⟩).run (fun r_60 hr_60 => ?_)
          obtain rfl : r_60 = zI (re_b rn t i) := hr_60
          refine lv_if_ne (tgt := 70) hx hb dX4_isBadFor_63 (by decide) (fun c_63 => ?_) (fun c_63 => ?_)
          · -- then 63
            have h63 := zI_ne0.mp c_63
            refine lv_iconst (v := 0) hx hb dX4_isBadFor_70 (by decide) ?_
            refine lv_istore (lv' := [(4, .int 0), (3, .int 1), (0, .ref m0), (1, .int (nI t)), (2, .int x), (5, .int (nI i))]) hx hb dX4_isBadFor_71 hl (by decide) rfl (fun ls hl => ?_)
            refine lv_iinc (v := nI (i + 1)) (lv' := [(5, .int (nI (i + 1))), (4, .int 0), (3, .int 1), (0, .ref m0), (1, .int (nI t)), (2, .int x)]) hx hb dX4_isBadFor_73 hl (k := 5) rfl (nI_1 i) (by decide) rfl (fun ls hl => ?_)
            refine lv_goto (tgt := 8) hx hb dX4_isBadFor_76 (by decide) ?_
            have z1 : hs_s (re_e rn t) (re_b rn t) x (i + 1) = true := by rw [hs_sS, h20]; rfl
            have z2 : hs_a (re_e rn t) (re_b rn t) x (i + 1) = false := by rw [hs_aS, h42, decide_eq_true h53, h63]; rfl
            exact ih_8 _ (i + 1) _ (by omega) ⟨rfl, by omega, by rw [z1, z2]; exact lv_sub hl [3, 4, 5, 2, 1, 0] rfl⟩
          · -- else 63
            have h63 := zI_eq0.mp c_63
            refine lv_iconst (v := 1) hx hb dX4_isBadFor_66 (by decide) ?_
            refine lv_goto (tgt := 71) hx hb dX4_isBadFor_67 (by decide) ?_
            refine lv_istore (lv' := [(4, .int 1), (3, .int 1), (0, .ref m0), (1, .int (nI t)), (2, .int x), (5, .int (nI i))]) hx hb dX4_isBadFor_71 hl (by decide) rfl (fun ls hl => ?_)
            refine lv_iinc (v := nI (i + 1)) (lv' := [(5, .int (nI (i + 1))), (4, .int 1), (3, .int 1), (0, .ref m0), (1, .int (nI t)), (2, .int x)]) hx hb dX4_isBadFor_73 hl (k := 5) rfl (nI_1 i) (by decide) rfl (fun ls hl => ?_)
            refine lv_goto (tgt := 8) hx hb dX4_isBadFor_76 (by decide) ?_
            have z1 : hs_s (re_e rn t) (re_b rn t) x (i + 1) = true := by rw [hs_sS, h20]; rfl
            have z2 : hs_a (re_e rn t) (re_b rn t) x (i + 1) = true := by rw [hs_aS, h42, decide_eq_true h53, h63]; rfl
            exact ih_8 _ (i + 1) _ (by omega) ⟨rfl, by omega, by rw [z1, z2]; exact lv_sub hl [3, 4, 5, 2, 1, 0] rfl⟩
    · -- else 20
      have h20 := zI_eq0.mp c_20
      refine lv_aload_n hx hb dX4_isBadFor_23 rfl (lv_at hl 0 rfl) ?_
      refine lv_iload_n hx hb dX4_isBadFor_24 rfl (lv_at hl 1 rfl) ?_
      refine lv_iload hx hb dX4_isBadFor_25 (lv_at hl 5 rfl) ?_
      have hPc := hP.sub (ws' := [(m0, .inr (4, [v0, v1, v2, v3, v4, .ref pz, .ref pr, v7, v8, v9, v10, v11, v12, v13])), (pr, .inl (cI, 576, .inl (fun j => nI (rn j))))]) [0, 2] rfl
      have hKc := hK.sub (tys' := [(cI, .int)]) [0] rfl
      refine vp_callSi (va_runV (As := [.int (nI t), .int (nI i)]) (rest := []) ⟨hx, hb, hml, hown, hts⟩ (c_ref_edition l dC dI m0 pr cI v0 v1 v2 v3 v4 (.ref pz) v7 v8 v9 v10 v11 v12 v13 rn t i ht (by omega) hrn) (cwV 2 hts gX4_isBadFor_X4_edition rfl rfl rfl (by decide +kernel) ⟨Nat.le_of_ble_eq_true rfl, Nat.le_of_ble_eq_true rfl⟩) (fw_preVR hN hKc hPc (ci := 4) (q0 := 0) rfl rfl) rfl rfl hl.1 rfl (lv_room (Nat.le_of_ble_eq_true rfl)) dX4_isBadFor_27 ⟨Nat.le_of_ble_eq_true rfl, Nat.le_of_ble_eq_true rfl⟩).run (fun r_27 hr_27 => ?_)
      obtain rfl : r_27 = re_e rn t i := hr_27
      refine lv_iload_n hx hb dX4_isBadFor_30 rfl (lv_at hl 2 rfl) ?_
      refine lv_icmp_ne (tgt := 38) hx hb dX4_isBadFor_31 (by decide) (fun c_31 => ?_) (fun c_31 => ?_)
      · -- then 31
        have h31 := c_31
        refine lv_iconst (v := 0) hx hb dX4_isBadFor_38 (by decide) ?_
        refine lv_istore_n (lv' := [(3, .int 0), (0, .ref m0), (1, .int (nI t)), (2, .int x), (4, .int (zI (hs_a (re_e rn t) (re_b rn t) x i))), (5, .int (nI i))]) hx hb dX4_isBadFor_39 rfl hl (by decide) rfl (fun ls hl => ?_)
        refine lv_iload hx hb dX4_isBadFor_40 (lv_at hl 4 rfl) ?_
        refine lv_if_eq (tgt := 70) hx hb dX4_isBadFor_42 (by decide) (fun c_42 => ?_) (fun c_42 => ?_)
        · -- then 42
          have h42 := zI_eq0.mp c_42
          refine lv_iconst (v := 0) hx hb dX4_isBadFor_70 (by decide) ?_
          refine lv_istore (lv' := [(4, .int 0), (3, .int 0), (0, .ref m0), (1, .int (nI t)), (2, .int x), (5, .int (nI i))]) hx hb dX4_isBadFor_71 hl (by decide) rfl (fun ls hl => ?_)
          refine lv_iinc (v := nI (i + 1)) (lv' := [(5, .int (nI (i + 1))), (4, .int 0), (3, .int 0), (0, .ref m0), (1, .int (nI t)), (2, .int x)]) hx hb dX4_isBadFor_73 hl (k := 5) rfl (nI_1 i) (by decide) rfl (fun ls hl => ?_)
          refine lv_goto (tgt := 8) hx hb dX4_isBadFor_76 (by decide) ?_
          have z1 : hs_s (re_e rn t) (re_b rn t) x (i + 1) = false := by rw [hs_sS, h20, decide_eq_false h31]; rfl
          have z2 : hs_a (re_e rn t) (re_b rn t) x (i + 1) = false := by rw [hs_aS, h42]; rfl
          exact ih_8 _ (i + 1) _ (by omega) ⟨rfl, by omega, by rw [z1, z2]; exact lv_sub hl [3, 4, 5, 2, 1, 0] rfl⟩
        · -- else 42
          have h42 := zI_ne0.mp c_42
          refine lv_aload_n hx hb dX4_isBadFor_45 rfl (lv_at hl 1 rfl) ?_
          refine lv_iload_n hx hb dX4_isBadFor_46 rfl (lv_at hl 2 rfl) ?_
          refine lv_iload hx hb dX4_isBadFor_47 (lv_at hl 5 rfl) ?_
          have hPc := hP.sub (ws' := [(m0, .inr (4, [v0, v1, v2, v3, v4, .ref pz, .ref pr, v7, v8, v9, v10, v11, v12, v13])), (pr, .inl (cI, 576, .inl (fun j => nI (rn j))))]) [0, 2] rfl
          have hKc := hK.sub (tys' := [(cI, .int)]) [0] rfl
          refine vp_callSi (va_runV (As := [.int (nI t), .int (nI i)]) (rest := []) ⟨hx, hb, hml, hown, hts⟩ (c_ref_edition l dC dI m0 pr cI v0 v1 v2 v3 v4 (.ref pz) v7 v8 v9 v10 v11 v12 v13 rn t i ht (by omega) hrn) (cwV 2 hts gX4_isBadFor_X4_edition rfl rfl rfl (by decide +kernel) ⟨Nat.le_of_ble_eq_true rfl, Nat.le_of_ble_eq_true rfl⟩) (fw_preVR hN hKc hPc (ci := 4) (q0 := 0) rfl rfl) rfl rfl hl.1 rfl (lv_room (Nat.le_of_ble_eq_true rfl)) dX4_isBadFor_49 ⟨Nat.le_of_ble_eq_true rfl, Nat.le_of_ble_eq_true rfl⟩).run (fun r_49 hr_49 => ?_)
          obtain rfl : r_49 = re_e rn t i := hr_49
          refine lv_iload_n hx hb dX4_isBadFor_52 rfl (lv_at hl 3 rfl) ?_
          refine lv_icmp_ne (tgt := 66) hx hb dX4_isBadFor_53 (by decide) (fun c_53 => ?_) (fun c_53 => ?_)
          · -- then 53
            have h53 := c_53
            refine lv_iconst (v := 1) hx hb dX4_isBadFor_66 (by decide) ?_
            refine lv_goto (tgt := 71) hx hb dX4_isBadFor_67 (by decide) ?_
            refine lv_istore (lv' := [(4, .int 1), (3, .int 0), (0, .ref m0), (1, .int (nI t)), (2, .int x), (5, .int (nI i))]) hx hb dX4_isBadFor_71 hl (by decide) rfl (fun ls hl => ?_)
            refine lv_iinc (v := nI (i + 1)) (lv' := [(5, .int (nI (i + 1))), (4, .int 1), (3, .int 0), (0, .ref m0), (1, .int (nI t)), (2, .int x)]) hx hb dX4_isBadFor_73 hl (k := 5) rfl (nI_1 i) (by decide) rfl (fun ls hl => ?_)
            refine lv_goto (tgt := 8) hx hb dX4_isBadFor_76 (by decide) ?_
            have z1 : hs_s (re_e rn t) (re_b rn t) x (i + 1) = false := by rw [hs_sS, h20, decide_eq_false h31]; rfl
            have z2 : hs_a (re_e rn t) (re_b rn t) x (i + 1) = true := by rw [hs_aS, h42, decide_eq_false h53]; rfl
            exact ih_8 _ (i + 1) _ (by omega) ⟨rfl, by omega, by rw [z1, z2]; exact lv_sub hl [3, 4, 5, 2, 1, 0] rfl⟩
          · -- else 53
            have h53 := c_53
            refine lv_aload_n hx hb dX4_isBadFor_56 rfl (lv_at hl 1 rfl) ?_
            refine lv_iload_n hx hb dX4_isBadFor_57 rfl (lv_at hl 2 rfl) ?_
            refine lv_iload hx hb dX4_isBadFor_58 (lv_at hl 5 rfl) ?_
            have hPc := hP.sub (ws' := [(m0, .inr (4, [v0, v1, v2, v3, v4, .ref pz, .ref pr, v7, v8, v9, v10, v11, v12, v13])), (pr, .inl (cI, 576, .inl (fun j => nI (rn j))))]) [0, 2] rfl
            have hKc := hK.sub (tys' := [(cI, .int)]) [0] rfl
            refine vp_callSi (va_runV (As := [.int (nI t), .int (nI i)]) (rest := []) ⟨hx, hb, hml, hown, hts⟩ (c_ref_isPass l dC dI m0 pr cI v0 v1 v2 v3 v4 (.ref pz) v7 v8 v9 v10 v11 v12 v13 rn t i ht (by omega) hrn) (cwV 2 hts gX4_isBadFor_X4_isPass rfl rfl rfl (by decide +kernel) ⟨Nat.le_of_ble_eq_true rfl, Nat.le_of_ble_eq_true rfl⟩) (fw_preVR hN hKc hPc (ci := 4) (q0 := 0) rfl rfl) rfl rfl hl.1 rfl (lv_room (Nat.le_of_ble_eq_true rfl)) dX4_isBadFor_60 ⟨Nat.le_of_ble_eq_true rfl, Nat.le_of_ble_eq_true rfl⟩).run (fun r_60 hr_60 => ?_)
            obtain rfl : r_60 = zI (re_b rn t i) := hr_60
            refine lv_if_ne (tgt := 70) hx hb dX4_isBadFor_63 (by decide) (fun c_63 => ?_) (fun c_63 => ?_)
            · -- then 63
              have h63 := zI_ne0.mp c_63
              refine lv_iconst (v := 0) hx hb dX4_isBadFor_70 (by decide) ?_
              refine lv_istore (lv' := [(4, .int 0), (3, .int 0), (0, .ref m0), (1, .int (nI t)), (2, .int x), (5, .int (nI i))]) hx hb dX4_isBadFor_71 hl (by decide) rfl (fun ls hl => ?_)
              refine lv_iinc (v := nI (i + 1)) (lv' := [(5, .int (nI (i + 1))), (4, .int 0), (3, .int 0), (0, .ref m0), (1, .int (nI t)), (2, .int x)]) hx hb dX4_isBadFor_73 hl (k := 5) rfl (nI_1 i) (by decide) rfl (fun ls hl => ?_)
              refine lv_goto (tgt := 8) hx hb dX4_isBadFor_76 (by decide) ?_
              have z1 : hs_s (re_e rn t) (re_b rn t) x (i + 1) = false := by rw [hs_sS, h20, decide_eq_false h31]; rfl
              have z2 : hs_a (re_e rn t) (re_b rn t) x (i + 1) = false := by rw [hs_aS, h42, decide_eq_true h53, h63]; rfl
              exact ih_8 _ (i + 1) _ (by omega) ⟨rfl, by omega, by rw [z1, z2]; exact lv_sub hl [3, 4, 5, 2, 1, 0] rfl⟩
            · -- else 63
              have h63 := zI_eq0.mp c_63
              refine lv_iconst (v := 1) hx hb dX4_isBadFor_66 (by decide) ?_
              refine lv_goto (tgt := 71) hx hb dX4_isBadFor_67 (by decide) ?_
              refine lv_istore (lv' := [(4, .int 1), (3, .int 0), (0, .ref m0), (1, .int (nI t)), (2, .int x), (5, .int (nI i))]) hx hb dX4_isBadFor_71 hl (by decide) rfl (fun ls hl => ?_)
              refine lv_iinc (v := nI (i + 1)) (lv' := [(5, .int (nI (i + 1))), (4, .int 1), (3, .int 0), (0, .ref m0), (1, .int (nI t)), (2, .int x)]) hx hb dX4_isBadFor_73 hl (k := 5) rfl (nI_1 i) (by decide) rfl (fun ls hl => ?_)
              refine lv_goto (tgt := 8) hx hb dX4_isBadFor_76 (by decide) ?_
              have z1 : hs_s (re_e rn t) (re_b rn t) x (i + 1) = false := by rw [hs_sS, h20, decide_eq_false h31]; rfl
              have z2 : hs_a (re_e rn t) (re_b rn t) x (i + 1) = true := by rw [hs_aS, h42, decide_eq_true h53, h63]; rfl
              exact ih_8 _ (i + 1) _ (by omega) ⟨rfl, by omega, by rw [z1, z2]; exact lv_sub hl [3, 4, 5, 2, 1, 0] rfl⟩
      · -- else 31
        have h31 := c_31
        refine lv_iconst (v := 1) hx hb dX4_isBadFor_34 (by decide) ?_
        refine lv_goto (tgt := 39) hx hb dX4_isBadFor_35 (by decide) ?_
        refine lv_istore_n (lv' := [(3, .int 1), (0, .ref m0), (1, .int (nI t)), (2, .int x), (4, .int (zI (hs_a (re_e rn t) (re_b rn t) x i))), (5, .int (nI i))]) hx hb dX4_isBadFor_39 rfl hl (by decide) rfl (fun ls hl => ?_)
        refine lv_iload hx hb dX4_isBadFor_40 (lv_at hl 4 rfl) ?_
        refine lv_if_eq (tgt := 70) hx hb dX4_isBadFor_42 (by decide) (fun c_42 => ?_) (fun c_42 => ?_)
        · -- then 42
          have h42 := zI_eq0.mp c_42
          refine lv_iconst (v := 0) hx hb dX4_isBadFor_70 (by decide) ?_
          refine lv_istore (lv' := [(4, .int 0), (3, .int 1), (0, .ref m0), (1, .int (nI t)), (2, .int x), (5, .int (nI i))]) hx hb dX4_isBadFor_71 hl (by decide) rfl (fun ls hl => ?_)
          refine lv_iinc (v := nI (i + 1)) (lv' := [(5, .int (nI (i + 1))), (4, .int 0), (3, .int 1), (0, .ref m0), (1, .int (nI t)), (2, .int x)]) hx hb dX4_isBadFor_73 hl (k := 5) rfl (nI_1 i) (by decide) rfl (fun ls hl => ?_)
          refine lv_goto (tgt := 8) hx hb dX4_isBadFor_76 (by decide) ?_
          have z1 : hs_s (re_e rn t) (re_b rn t) x (i + 1) = true := by rw [hs_sS, h20, decide_eq_true h31]; rfl
          have z2 : hs_a (re_e rn t) (re_b rn t) x (i + 1) = false := by rw [hs_aS, h42]; rfl
          exact ih_8 _ (i + 1) _ (by omega) ⟨rfl, by omega, by rw [z1, z2]; exact lv_sub hl [3, 4, 5, 2, 1, 0] rfl⟩
        · -- else 42
          have h42 := zI_ne0.mp c_42
          refine lv_aload_n hx hb dX4_isBadFor_45 rfl (lv_at hl 1 rfl) ?_
          refine lv_iload_n hx hb dX4_isBadFor_46 rfl (lv_at hl 2 rfl) ?_
          refine lv_iload hx hb dX4_isBadFor_47 (lv_at hl 5 rfl) ?_
          have hPc := hP.sub (ws' := [(m0, .inr (4, [v0, v1, v2, v3, v4, .ref pz, .ref pr, v7, v8, v9, v10, v11, v12, v13])), (pr, .inl (cI, 576, .inl (fun j => nI (rn j))))]) [0, 2] rfl
          have hKc := hK.sub (tys' := [(cI, .int)]) [0] rfl
          refine vp_callSi (va_runV (As := [.int (nI t), .int (nI i)]) (rest := []) ⟨hx, hb, hml, hown, hts⟩ (c_ref_edition l dC dI m0 pr cI v0 v1 v2 v3 v4 (.ref pz) v7 v8 v9 v10 v11 v12 v13 rn t i ht (by omega) hrn) (cwV 2 hts gX4_isBadFor_X4_edition rfl rfl rfl (by decide +kernel) ⟨Nat.le_of_ble_eq_true rfl, Nat.le_of_ble_eq_true rfl⟩) (fw_preVR hN hKc hPc (ci := 4) (q0 := 0) rfl rfl) rfl rfl hl.1 rfl (lv_room (Nat.le_of_ble_eq_true rfl)) dX4_isBadFor_49 ⟨Nat.le_of_ble_eq_true rfl, Nat.le_of_ble_eq_true rfl⟩).run (fun r_49 hr_49 => ?_)
          obtain rfl : r_49 = re_e rn t i := hr_49
          refine lv_iload_n hx hb dX4_isBadFor_52 rfl (lv_at hl 3 rfl) ?_
          refine lv_icmp_ne (tgt := 66) hx hb dX4_isBadFor_53 (by decide) (fun c_53 => ?_) (fun c_53 => ?_)
          · -- then 53
            have h53 := c_53
            refine lv_iconst (v := 1) hx hb dX4_isBadFor_66 (by decide) ?_
            refine lv_goto (tgt := 71) hx hb dX4_isBadFor_67 (by decide) ?_
            refine lv_istore (lv' := [(4, .int 1), (3, .int 1), (0, .ref m0), (1, .int (nI t)), (2, .int x), (5, .int (nI i))]) hx hb dX4_isBadFor_71 hl (by decide) rfl (fun ls hl => ?_)
            refine lv_iinc (v := nI (i + 1)) (lv' := [(5, .int (nI (i + 1))), (4, .int 1), (3, .int 1), (0, .ref m0), (1, .int (nI t)), (2, .int x)]) hx hb dX4_isBadFor_73 hl (k := 5) rfl (nI_1 i) (by decide) rfl (fun ls hl => ?_)
            refine lv_goto (tgt := 8) hx hb dX4_isBadFor_76 (by decide) ?_
            have z1 : hs_s (re_e rn t) (re_b rn t) x (i + 1) = true := by rw [hs_sS, h20, decide_eq_true h31]; rfl
            have z2 : hs_a (re_e rn t) (re_b rn t) x (i + 1) = true := by rw [hs_aS, h42, decide_eq_false h53]; rfl
            exact ih_8 _ (i + 1) _ (by omega) ⟨rfl, by omega, by rw [z1, z2]; exact lv_sub hl [3, 4, 5, 2, 1, 0] rfl⟩
          · -- else 53
            have h53 := c_53
            refine lv_aload_n hx hb dX4_isBadFor_56 rfl (lv_at hl 1 rfl) ?_
            refine lv_iload_n hx hb dX4_isBadFor_57 rfl (lv_at hl 2 rfl) ?_
            refine lv_iload hx hb dX4_isBadFor_58 (lv_at hl 5 rfl) ?_
            have hPc := hP.sub (ws' := [(m0, .inr (4, [v0, v1, v2, v3, v4, .ref pz, .ref pr, v7, v8, v9, v10, v11, v12, v13])), (pr, .inl (cI, 576, .inl (fun j => nI (rn j))))]) [0, 2] rfl
            have hKc := hK.sub (tys' := [(cI, .int)]) [0] rfl
            refine vp_callSi (va_runV (As := [.int (nI t), .int (nI i)]) (rest := []) ⟨hx, hb, hml, hown, hts⟩ (c_ref_isPass l dC dI m0 pr cI v0 v1 v2 v3 v4 (.ref pz) v7 v8 v9 v10 v11 v12 v13 rn t i ht (by omega) hrn) (cwV 2 hts gX4_isBadFor_X4_isPass rfl rfl rfl (by decide +kernel) ⟨Nat.le_of_ble_eq_true rfl, Nat.le_of_ble_eq_true rfl⟩) (fw_preVR hN hKc hPc (ci := 4) (q0 := 0) rfl rfl) rfl rfl hl.1 rfl (lv_room (Nat.le_of_ble_eq_true rfl)) dX4_isBadFor_60 ⟨Nat.le_of_ble_eq_true rfl, Nat.le_of_ble_eq_true rfl⟩).run (fun r_60 hr_60 => ?_)
            obtain rfl : r_60 = zI (re_b rn t i) := hr_60
            refine lv_if_ne (tgt := 70) hx hb dX4_isBadFor_63 (by decide) (fun c_63 => ?_) (fun c_63 => ?_)
            · -- then 63
              have h63 := zI_ne0.mp c_63
              refine lv_iconst (v := 0) hx hb dX4_isBadFor_70 (by decide) ?_
              refine lv_istore (lv' := [(4, .int 0), (3, .int 1), (0, .ref m0), (1, .int (nI t)), (2, .int x), (5, .int (nI i))]) hx hb dX4_isBadFor_71 hl (by decide) rfl (fun ls hl => ?_)
              refine lv_iinc (v := nI (i + 1)) (lv' := [(5, .int (nI (i + 1))), (4, .int 0), (3, .int 1), (0, .ref m0), (1, .int (nI t)), (2, .int x)]) hx hb dX4_isBadFor_73 hl (k := 5) rfl (nI_1 i) (by decide) rfl (fun ls hl => ?_)
              refine lv_goto (tgt := 8) hx hb dX4_isBadFor_76 (by decide) ?_
              have z1 : hs_s (re_e rn t) (re_b rn t) x (i + 1) = true := by rw [hs_sS, h20, decide_eq_true h31]; rfl
              have z2 : hs_a (re_e rn t) (re_b rn t) x (i + 1) = false := by rw [hs_aS, h42, decide_eq_true h53, h63]; rfl
              exact ih_8 _ (i + 1) _ (by omega) ⟨rfl, by omega, by rw [z1, z2]; exact lv_sub hl [3, 4, 5, 2, 1, 0] rfl⟩
            · -- else 63
              have h63 := zI_eq0.mp c_63
              refine lv_iconst (v := 1) hx hb dX4_isBadFor_66 (by decide) ?_
              refine lv_goto (tgt := 71) hx hb dX4_isBadFor_67 (by decide) ?_
              refine lv_istore (lv' := [(4, .int 1), (3, .int 1), (0, .ref m0), (1, .int (nI t)), (2, .int x), (5, .int (nI i))]) hx hb dX4_isBadFor_71 hl (by decide) rfl (fun ls hl => ?_)
              refine lv_iinc (v := nI (i + 1)) (lv' := [(5, .int (nI (i + 1))), (4, .int 1), (3, .int 1), (0, .ref m0), (1, .int (nI t)), (2, .int x)]) hx hb dX4_isBadFor_73 hl (k := 5) rfl (nI_1 i) (by decide) rfl (fun ls hl => ?_)
              refine lv_goto (tgt := 8) hx hb dX4_isBadFor_76 (by decide) ?_
              have z1 : hs_s (re_e rn t) (re_b rn t) x (i + 1) = true := by rw [hs_sS, h20, decide_eq_true h31]; rfl
              have z2 : hs_a (re_e rn t) (re_b rn t) x (i + 1) = true := by rw [hs_aS, h42, decide_eq_true h53, h63]; rfl
              exact ih_8 _ (i + 1) _ (by omega) ⟨rfl, by omega, by rw [z1, z2]; exact lv_sub hl [3, 4, 5, 2, 1, 0] rfl⟩
set_option maxHeartbeats 4000000 in
set_option maxRecDepth 100000 in
theorem c_ref_throws (l : Launch) (dC : Nat → ClassId) (dI : Nat → Nat → Nat) (m0 pz pr : Nat) (cI : ClassId) (v0 v1 v2 v3 v4 v7 v8 v9 v10 v11 v12 v13 : Value) (zf rn : Nat → Nat) (t : Nat) (ht : t < 12) (hz48 : zf t ≤ 48) (hrn : ∀ j, j < 576 → rn j < 2000) : Met l yX4_throwsOf wsX4_throwsOf ({ frames := 2, cells := 0, slots := 0, locals := 47 } : Room) (va_Pc [.ref m0, .int (nI t)] (fw_pR (dC, dI) vwCl [(cI, .int)] [(m0, .inr (4, [v0, v1, v2, v3, v4, .ref pz, .ref pr, v7, v8, v9, v10, v11, v12, v13])), (pz, .inl (cI, 12, .inl (fun j => nI (zf j)))), (pr, .inl (cI, 576, .inl (fun j => nI (rn j))))])) (vp_Si (fun r => r = nI (hv_N (re_e rn t) (re_b rn t) (zf t) (zf t)))) 0 0 (fun _ => False) := by
  refine fw_metR (cc := cX4_throwsOf) (maxL := 4) (ret := (some .int)) (by decide) rfl (Nat.le_of_ble_eq_true rfl) ?_
  intro zp ze zs zm zbelow zmeth zc ls hx hb hr hts hown hlocks hml hin hN hP hK hl
  have hown : zs.vm.findClass RX4 = some zm.cls := hown
  have hl : lv_has ls 4 [(0, .ref m0), (1, .int (nI t))] := hl
  refine lv_iconst (v := 0) hx hb dX4_throwsOf_0 (by decide) ?_
  refine lv_istore_n (lv' := [(2, .int 0), (0, .ref m0), (1, .int (nI t))]) hx hb dX4_throwsOf_1 rfl hl (by decide) rfl (fun ls hl => ?_)
  refine lv_iconst (v := 0) hx hb dX4_throwsOf_2 (by decide) ?_
  refine lv_istore_n (lv' := [(3, .int 0), (2, .int 0), (0, .ref m0), (1, .int (nI t))]) hx hb dX4_throwsOf_3 rfl hl (by decide) rfl (fun ls hl => ?_)
  refine fw_loopR (σ := Nat) (I := fun zn u ls => match u with | i => zn = zf t - i ∧ (i ≤ zf t) ∧ lv_has ls 4 [(0, .ref m0), (1, .int (nI t)), (2, .int (nI (hv_N (re_e rn t) (re_b rn t) (zf t) i))), (3, .int (nI i))]) ?_ _ 0 _ ⟨rfl, by omega, lv_sub hl [2, 3, 1, 0] rfl⟩
  intro zn i ls hI ih_4
  obtain ⟨hzn, hi, hl⟩ := hI
  refine lv_iload_n hx hb dX4_throwsOf_4 rfl (lv_at hl 3 rfl) ?_
  refine lv_aload_n hx hb dX4_throwsOf_5 rfl (lv_at hl 0 rfl) ?_
  refine va_get (D := (dC, dI)) (ci := 4) (v := .ref pz) (C := RX4) (T := TX4) (N := 14) hx hb hts (by decide +kernel) hown hK hP 0 rfl rfl 5 (by decide) (hts (.fieldLink RX4 19 "FlakyBoundsModel" "size" "[I") (by decide +kernel)) (fun _ h9 => h9) rfl dX4_throwsOf_6 ?_
  refine lv_iload_n hx hb dX4_throwsOf_9 rfl (lv_at hl 1 rfl) ?_
  refine va_iald hx hb hK hP 1 0 rfl rfl (vp_in_nI (by omega) (by decide)) dX4_throwsOf_10 ?_
  refine fw_i (x' := nI (zf t)) (by rw [nI_clamp (by omega)]) ?_
  refine lv_icmp_ge (tgt := 42) hx hb dX4_throwsOf_11 (by decide) (fun c_11 => ?_) (fun c_11 => ?_)
  · -- then 11
    have hend : i = zf t := by have := (nI_leI (a := zf t) (b := i) (by omega) (by omega)).mp c_11; omega
    refine lv_iload_n hx hb dX4_throwsOf_42 rfl (lv_at hl 2 rfl) ?_
    exact W.iret (v := (nI (hv_N (re_e rn t) (re_b rn t) (zf t) i))) hx hb hr (fun zt zht _ => ⟨(nI (hv_N (re_e rn t) (re_b rn t) (zf t) i)), rfl, by rw [hend], zht⟩) (fun q h => by cases h) dX4_throwsOf_43 hlocks
  · -- else 11
    have hlt : i < zf t := by
      rcases Nat.lt_or_ge i (zf t) with q9 | q9
      · exact q9
      · exact absurd (nI_le (a := zf t) (b := i) q9 (by omega)) c_11
    refine lv_iload_n hx hb dX4_throwsOf_14 rfl (lv_at hl 2 rfl) ?_
    refine lv_aload_n hx hb dX4_throwsOf_15 rfl (lv_at hl 0 rfl) ?_
    refine lv_iload_n hx hb dX4_throwsOf_16 rfl (lv_at hl 1 rfl) ?_
    refine lv_aload_n hx hb dX4_throwsOf_17 rfl (lv_at hl 0 rfl) ?_
    refine lv_iload_n hx hb dX4_throwsOf_18 rfl (lv_at hl 1 rfl) ?_
    refine lv_iload_n hx hb dX4_throwsOf_19 rfl (lv_at hl 3 rfl) ?_
    have hPc := hP.sub (ws' := [(m0, .inr (4, [v0, v1, v2, v3, v4, .ref pz, .ref pr, v7, v8, v9, v10, v11, v12, v13])), (pr, .inl (cI, 576, .inl (fun j => nI (rn j))))]) [0, 2] rfl
    have hKc := hK.sub (tys' := [(cI, .int)]) [0] rfl
    refine vp_callSi (va_runV (As := [.int (nI t), .int (nI i)]) (rest := [.int (nI t), .ref m0, .int (nI (hv_N (re_e rn t) (re_b rn t) (zf t) i))]) ⟨hx, hb, hml, hown, hts⟩ (c_ref_edition l dC dI m0 pr cI v0 v1 v2 v3 v4 (.ref pz) v7 v8 v9 v10 v11 v12 v13 rn t i ht (by omega) hrn) (cwV 2 hts gX4_throwsOf_X4_edition rfl rfl rfl (by decide +kernel) ⟨Nat.le_of_ble_eq_true rfl, Nat.le_of_ble_eq_true rfl⟩) (fw_preVR hN hKc hPc (ci := 4) (q0 := 0) rfl rfl) rfl rfl hl.1 rfl (lv_room (Nat.le_of_ble_eq_true rfl)) dX4_throwsOf_20 ⟨Nat.le_of_ble_eq_true rfl, Nat.le_of_ble_eq_true rfl⟩).run (fun r_20 hr_20 => ?_)
    obtain rfl : r_20 = re_e rn t i := hr_20
    have hPc := hP.sub (ws' := [(m0, .inr (4, [v0, v1, v2, v3, v4, .ref pz, .ref pr, v7, v8, v9, v10, v11, v12, v13])), (pz, .inl (cI, 12, .inl (fun j => nI (zf j)))), (pr, .inl (cI, 576, .inl (fun j => nI (rn j))))]) [0, 1, 2] rfl
    have hKc := hK.sub (tys' := [(cI, .int)]) [0] rfl
    refine vp_callSi (va_runV (As := [.int (nI t), .int (re_e rn t i)]) (rest := [.int (nI (hv_N (re_e rn t) (re_b rn t) (zf t) i))]) ⟨hx, hb, hml, hown, hts⟩ (c_ref_isBad l dC dI m0 pz pr cI v0 v1 v2 v3 v4 v7 v8 v9 v10 v11 v12 v13 zf rn t (re_e rn t i) ht hz48 hrn) (cwV 2 hts gX4_throwsOf_X4_isBadFor rfl rfl rfl (by decide +kernel) ⟨Nat.le_of_ble_eq_true rfl, Nat.le_of_ble_eq_true rfl⟩) (fw_preVR hN hKc hPc (ci := 4) (q0 := 0) rfl rfl) rfl rfl hl.1 rfl (lv_room (Nat.le_of_ble_eq_true rfl)) dX4_throwsOf_23 ⟨Nat.le_of_ble_eq_true rfl, Nat.le_of_ble_eq_true rfl⟩).run (fun r_23 hr_23 => ?_)
    obtain rfl : r_23 = zI (hv_has (re_e rn t) (re_b rn t) (re_e rn t i) false (zf t) && !hv_has (re_e rn t) (re_b rn t) (re_e rn t i) true (zf t)) := hr_23
    refine lv_if_eq (tgt := 33) hx hb dX4_throwsOf_26 (by decide) (fun c_26 => ?_) (fun c_26 => ?_)
    · -- then 26
      have h26 := zI_eq0.mp c_26
      have hbc : ((re_b rn t) i || hv_con (re_e rn t) (re_b rn t) (zf t) i) = true := by rw [← hv_bad hlt, h26]; rfl
      refine lv_iconst (v := 1) hx hb dX4_throwsOf_33 (by decide) ?_
      refine lv_iadd hx hb dX4_throwsOf_34 ?_
      refine fw_i (x' := nI (hv_N (re_e rn t) (re_b rn t) (zf t) (i + 1))) (by rw [hv_NS, if_pos hbc]; exact nI_1 _) ?_
      refine lv_istore_n (lv' := [(2, .int (nI (hv_N (re_e rn t) (re_b rn t) (zf t) (i + 1)))), (0, .ref m0), (1, .int (nI t)), (3, .int (nI i))]) hx hb dX4_throwsOf_35 rfl hl (by decide) rfl (fun ls hl => ?_)
      refine lv_iinc (v := nI (i + 1)) (lv' := [(3, .int (nI (i + 1))), (2, .int (nI (hv_N (re_e rn t) (re_b rn t) (zf t) (i + 1)))), (0, .ref m0), (1, .int (nI t))]) hx hb dX4_throwsOf_36 hl (k := 3) rfl (nI_1 i) (by decide) rfl (fun ls hl => ?_)
      refine lv_goto (tgt := 4) hx hb dX4_throwsOf_39 (by decide) ?_
      exact ih_4 _ (i + 1) _ (by omega) ⟨rfl, by omega, lv_sub hl [2, 3, 1, 0] rfl⟩
    · -- else 26
      have h26 := zI_ne0.mp c_26
      have hbc : ((re_b rn t) i || hv_con (re_e rn t) (re_b rn t) (zf t) i) = false := by rw [← hv_bad hlt, h26]; rfl
      refine lv_iconst (v := 0) hx hb dX4_throwsOf_29 (by decide) ?_
      refine lv_goto (tgt := 34) hx hb dX4_throwsOf_30 (by decide) ?_
      refine lv_iadd hx hb dX4_throwsOf_34 ?_
      refine fw_i (x' := nI (hv_N (re_e rn t) (re_b rn t) (zf t) (i + 1))) (by rw [hv_NS, hbc, if_neg (by decide)]; exact nI_add _ 0) ?_
      refine lv_istore_n (lv' := [(2, .int (nI (hv_N (re_e rn t) (re_b rn t) (zf t) (i + 1)))), (0, .ref m0), (1, .int (nI t)), (3, .int (nI i))]) hx hb dX4_throwsOf_35 rfl hl (by decide) rfl (fun ls hl => ?_)
      refine lv_iinc (v := nI (i + 1)) (lv' := [(3, .int (nI (i + 1))), (2, .int (nI (hv_N (re_e rn t) (re_b rn t) (zf t) (i + 1)))), (0, .ref m0), (1, .int (nI t))]) hx hb dX4_throwsOf_36 hl (k := 3) rfl (nI_1 i) (by decide) rfl (fun ls hl => ?_)
      refine lv_goto (tgt := 4) hx hb dX4_throwsOf_39 (by decide) ?_
      exact ih_4 _ (i + 1) _ (by omega) ⟨rfl, by omega, lv_sub hl [2, 3, 1, 0] rfl⟩
set_option maxHeartbeats 4000000 in
set_option maxRecDepth 100000 in
theorem c_ref_hits (l : Launch) (dC : Nat → ClassId) (dI : Nat → Nat → Nat) (m0 pz pr : Nat) (cI : ClassId) (v0 v1 v2 v3 v4 v7 v8 v9 v10 v11 v12 v13 : Value) (zf rn : Nat → Nat) (t : Nat) (ht : t < 12) (hz48 : zf t ≤ 48) (hrn : ∀ j, j < 576 → rn j < 2000) : Met l yX4_hitsOf wsX4_hitsOf ({ frames := 2, cells := 0, slots := 0, locals := 47 } : Room) (va_Pc [.ref m0, .int (nI t)] (fw_pR (dC, dI) vwCl [(cI, .int)] [(m0, .inr (4, [v0, v1, v2, v3, v4, .ref pz, .ref pr, v7, v8, v9, v10, v11, v12, v13])), (pz, .inl (cI, 12, .inl (fun j => nI (zf j)))), (pr, .inl (cI, 576, .inl (fun j => nI (rn j))))])) (vp_Si (fun r => r = nI (hv_X (re_e rn t) (re_b rn t) (zf t) (zf t)))) 0 0 (fun _ => False) := by
  refine fw_metR (cc := cX4_hitsOf) (maxL := 4) (ret := (some .int)) (by decide) rfl (Nat.le_of_ble_eq_true rfl) ?_
  intro zp ze zs zm zbelow zmeth zc ls hx hb hr hts hown hlocks hml hin hN hP hK hl
  have hown : zs.vm.findClass RX4 = some zm.cls := hown
  have hl : lv_has ls 4 [(0, .ref m0), (1, .int (nI t))] := hl
  refine lv_iconst (v := 0) hx hb dX4_hitsOf_0 (by decide) ?_
  refine lv_istore_n (lv' := [(2, .int 0), (0, .ref m0), (1, .int (nI t))]) hx hb dX4_hitsOf_1 rfl hl (by decide) rfl (fun ls hl => ?_)
  refine lv_iconst (v := 0) hx hb dX4_hitsOf_2 (by decide) ?_
  refine lv_istore_n (lv' := [(3, .int 0), (2, .int 0), (0, .ref m0), (1, .int (nI t))]) hx hb dX4_hitsOf_3 rfl hl (by decide) rfl (fun ls hl => ?_)
  refine fw_loopR (σ := Nat) (I := fun zn u ls => match u with | i => zn = zf t - i ∧ (i ≤ zf t) ∧ lv_has ls 4 [(0, .ref m0), (1, .int (nI t)), (2, .int (nI (hv_X (re_e rn t) (re_b rn t) (zf t) i))), (3, .int (nI i))]) ?_ _ 0 _ ⟨rfl, by omega, lv_sub hl [2, 3, 1, 0] rfl⟩
  intro zn i ls hI ih_4
  obtain ⟨hzn, hi, hl⟩ := hI
  refine lv_iload_n hx hb dX4_hitsOf_4 rfl (lv_at hl 3 rfl) ?_
  refine lv_aload_n hx hb dX4_hitsOf_5 rfl (lv_at hl 0 rfl) ?_
  refine va_get (D := (dC, dI)) (ci := 4) (v := .ref pz) (C := RX4) (T := TX4) (N := 14) hx hb hts (by decide +kernel) hown hK hP 0 rfl rfl 5 (by decide) (hts (.fieldLink RX4 19 "FlakyBoundsModel" "size" "[I") (by decide +kernel)) (fun _ h9 => h9) rfl dX4_hitsOf_6 ?_
  refine lv_iload_n hx hb dX4_hitsOf_9 rfl (lv_at hl 1 rfl) ?_
  refine va_iald hx hb hK hP 1 0 rfl rfl (vp_in_nI (by omega) (by decide)) dX4_hitsOf_10 ?_
  refine fw_i (x' := nI (zf t)) (by rw [nI_clamp (by omega)]) ?_
  refine lv_icmp_ge (tgt := 51) hx hb dX4_hitsOf_11 (by decide) (fun c_11 => ?_) (fun c_11 => ?_)
  · -- then 11
    have hend : i = zf t := by have := (nI_leI (a := zf t) (b := i) (by omega) (by omega)).mp c_11; omega
    refine lv_iload_n hx hb dX4_hitsOf_51 rfl (lv_at hl 2 rfl) ?_
    exact W.iret (v := (nI (hv_X (re_e rn t) (re_b rn t) (zf t) i))) hx hb hr (fun zt zht _ => ⟨(nI (hv_X (re_e rn t) (re_b rn t) (zf t) i)), rfl, by rw [hend], zht⟩) (fun q h => by cases h) dX4_hitsOf_52 hlocks
  · -- else 11
    have hlt : i < zf t := by
      rcases Nat.lt_or_ge i (zf t) with q9 | q9
      · exact q9
      · exact absurd (nI_le (a := zf t) (b := i) q9 (by omega)) c_11
    refine lv_iload_n hx hb dX4_hitsOf_14 rfl (lv_at hl 2 rfl) ?_
    refine lv_aload_n hx hb dX4_hitsOf_15 rfl (lv_at hl 0 rfl) ?_
    refine lv_iload_n hx hb dX4_hitsOf_16 rfl (lv_at hl 1 rfl) ?_
    refine lv_aload_n hx hb dX4_hitsOf_17 rfl (lv_at hl 0 rfl) ?_
    refine lv_iload_n hx hb dX4_hitsOf_18 rfl (lv_at hl 1 rfl) ?_
    refine lv_iload_n hx hb dX4_hitsOf_19 rfl (lv_at hl 3 rfl) ?_
    have hPc := hP.sub (ws' := [(m0, .inr (4, [v0, v1, v2, v3, v4, .ref pz, .ref pr, v7, v8, v9, v10, v11, v12, v13])), (pr, .inl (cI, 576, .inl (fun j => nI (rn j))))]) [0, 2] rfl
    have hKc := hK.sub (tys' := [(cI, .int)]) [0] rfl
    refine vp_callSi (va_runV (As := [.int (nI t), .int (nI i)]) (rest := [.int (nI t), .ref m0, .int (nI (hv_X (re_e rn t) (re_b rn t) (zf t) i))]) ⟨hx, hb, hml, hown, hts⟩ (c_ref_edition l dC dI m0 pr cI v0 v1 v2 v3 v4 (.ref pz) v7 v8 v9 v10 v11 v12 v13 rn t i ht (by omega) hrn) (cwV 2 hts gX4_hitsOf_X4_edition rfl rfl rfl (by decide +kernel) ⟨Nat.le_of_ble_eq_true rfl, Nat.le_of_ble_eq_true rfl⟩) (fw_preVR hN hKc hPc (ci := 4) (q0 := 0) rfl rfl) rfl rfl hl.1 rfl (lv_room (Nat.le_of_ble_eq_true rfl)) dX4_hitsOf_20 ⟨Nat.le_of_ble_eq_true rfl, Nat.le_of_ble_eq_true rfl⟩).run (fun r_20 hr_20 => ?_)
    obtain rfl : r_20 = re_e rn t i := hr_20
    have hPc := hP.sub (ws' := [(m0, .inr (4, [v0, v1, v2, v3, v4, .ref pz, .ref pr, v7, v8, v9, v10, v11, v12, v13])), (pz, .inl (cI, 12, .inl (fun j => nI (zf j)))), (pr, .inl (cI, 576, .inl (fun j => nI (rn j))))]) [0, 1, 2] rfl
    have hKc := hK.sub (tys' := [(cI, .int)]) [0] rfl
    refine vp_callSi (va_runV (As := [.int (nI t), .int (re_e rn t i)]) (rest := [.int (nI (hv_X (re_e rn t) (re_b rn t) (zf t) i))]) ⟨hx, hb, hml, hown, hts⟩ (c_ref_isBad l dC dI m0 pz pr cI v0 v1 v2 v3 v4 v7 v8 v9 v10 v11 v12 v13 zf rn t (re_e rn t i) ht hz48 hrn) (cwV 2 hts gX4_hitsOf_X4_isBadFor rfl rfl rfl (by decide +kernel) ⟨Nat.le_of_ble_eq_true rfl, Nat.le_of_ble_eq_true rfl⟩) (fw_preVR hN hKc hPc (ci := 4) (q0 := 0) rfl rfl) rfl rfl hl.1 rfl (lv_room (Nat.le_of_ble_eq_true rfl)) dX4_hitsOf_23 ⟨Nat.le_of_ble_eq_true rfl, Nat.le_of_ble_eq_true rfl⟩).run (fun r_23 hr_23 => ?_)
    obtain rfl : r_23 = zI (hv_has (re_e rn t) (re_b rn t) (re_e rn t i) false (zf t) && !hv_has (re_e rn t) (re_b rn t) (re_e rn t i) true (zf t)) := hr_23
    refine lv_if_ne (tgt := 38) hx hb dX4_hitsOf_26 (by decide) (fun c_26 => ?_) (fun c_26 => ?_)
    · -- then 26
      have h26 := zI_ne0.mp c_26
      have hb0 : ((re_b rn t) i || hv_con (re_e rn t) (re_b rn t) (zf t) i) = false := by rw [← hv_bad hlt, h26]; rfl
      have hbc : (!(re_b rn t) i && hv_con (re_e rn t) (re_b rn t) (zf t) i) = false := by
        rw [Bool.or_eq_false_iff] at hb0
        rw [hb0.2, Bool.and_false]
      refine lv_iconst (v := 0) hx hb dX4_hitsOf_38 (by decide) ?_
      refine lv_goto (tgt := 43) hx hb dX4_hitsOf_39 (by decide) ?_
      refine lv_iadd hx hb dX4_hitsOf_43 ?_
      refine fw_i (x' := nI (hv_X (re_e rn t) (re_b rn t) (zf t) (i + 1))) (by rw [hv_XS, hbc, if_neg (by decide)]; exact nI_add _ 0) ?_
      refine lv_istore_n (lv' := [(2, .int (nI (hv_X (re_e rn t) (re_b rn t) (zf t) (i + 1)))), (0, .ref m0), (1, .int (nI t)), (3, .int (nI i))]) hx hb dX4_hitsOf_44 rfl hl (by decide) rfl (fun ls hl => ?_)
      refine lv_iinc (v := nI (i + 1)) (lv' := [(3, .int (nI (i + 1))), (2, .int (nI (hv_X (re_e rn t) (re_b rn t) (zf t) (i + 1)))), (0, .ref m0), (1, .int (nI t))]) hx hb dX4_hitsOf_45 hl (k := 3) rfl (nI_1 i) (by decide) rfl (fun ls hl => ?_)
      refine lv_goto (tgt := 4) hx hb dX4_hitsOf_48 (by decide) ?_
      exact ih_4 _ (i + 1) _ (by omega) ⟨rfl, by omega, lv_sub hl [2, 3, 1, 0] rfl⟩
    · -- else 26
      have h26 := zI_eq0.mp c_26
      have hb0 : ((re_b rn t) i || hv_con (re_e rn t) (re_b rn t) (zf t) i) = true := by rw [← hv_bad hlt, h26]; rfl
      refine lv_aload_n hx hb dX4_hitsOf_29 rfl (lv_at hl 0 rfl) ?_
      refine lv_iload_n hx hb dX4_hitsOf_30 rfl (lv_at hl 1 rfl) ?_
      refine lv_iload_n hx hb dX4_hitsOf_31 rfl (lv_at hl 3 rfl) ?_
      have hPc := hP.sub (ws' := [(m0, .inr (4, [v0, v1, v2, v3, v4, .ref pz, .ref pr, v7, v8, v9, v10, v11, v12, v13])), (pr, .inl (cI, 576, .inl (fun j => nI (rn j))))]) [0, 2] rfl
      have hKc := hK.sub (tys' := [(cI, .int)]) [0] rfl
      refine vp_callSi (va_runV (As := [.int (nI t), .int (nI i)]) (rest := [.int (nI (hv_X (re_e rn t) (re_b rn t) (zf t) i))]) ⟨hx, hb, hml, hown, hts⟩ (c_ref_isPass l dC dI m0 pr cI v0 v1 v2 v3 v4 (.ref pz) v7 v8 v9 v10 v11 v12 v13 rn t i ht (by omega) hrn) (cwV 2 hts gX4_hitsOf_X4_isPass rfl rfl rfl (by decide +kernel) ⟨Nat.le_of_ble_eq_true rfl, Nat.le_of_ble_eq_true rfl⟩) (fw_preVR hN hKc hPc (ci := 4) (q0 := 0) rfl rfl) rfl rfl hl.1 rfl (lv_room (Nat.le_of_ble_eq_true rfl)) dX4_hitsOf_32 ⟨Nat.le_of_ble_eq_true rfl, Nat.le_of_ble_eq_true rfl⟩).run (fun r_32 hr_32 => ?_)
      obtain rfl : r_32 = zI (re_b rn t i) := hr_32
      refine lv_if_eq (tgt := 42) hx hb dX4_hitsOf_35 (by decide) (fun c_35 => ?_) (fun c_35 => ?_)
      · -- then 35
        have h35 := zI_eq0.mp c_35
        have hbc : (!(re_b rn t) i && hv_con (re_e rn t) (re_b rn t) (zf t) i) = true := by
          rw [h35, Bool.false_or] at hb0
          rw [h35, hb0]; rfl
        refine lv_iconst (v := 1) hx hb dX4_hitsOf_42 (by decide) ?_
        refine lv_iadd hx hb dX4_hitsOf_43 ?_
        refine fw_i (x' := nI (hv_X (re_e rn t) (re_b rn t) (zf t) (i + 1))) (by rw [hv_XS, if_pos hbc]; exact nI_1 _) ?_
        refine lv_istore_n (lv' := [(2, .int (nI (hv_X (re_e rn t) (re_b rn t) (zf t) (i + 1)))), (0, .ref m0), (1, .int (nI t)), (3, .int (nI i))]) hx hb dX4_hitsOf_44 rfl hl (by decide) rfl (fun ls hl => ?_)
        refine lv_iinc (v := nI (i + 1)) (lv' := [(3, .int (nI (i + 1))), (2, .int (nI (hv_X (re_e rn t) (re_b rn t) (zf t) (i + 1)))), (0, .ref m0), (1, .int (nI t))]) hx hb dX4_hitsOf_45 hl (k := 3) rfl (nI_1 i) (by decide) rfl (fun ls hl => ?_)
        refine lv_goto (tgt := 4) hx hb dX4_hitsOf_48 (by decide) ?_
        exact ih_4 _ (i + 1) _ (by omega) ⟨rfl, by omega, lv_sub hl [2, 3, 1, 0] rfl⟩
      · -- else 35
        have h35 := zI_ne0.mp c_35
        have hbc : (!(re_b rn t) i && hv_con (re_e rn t) (re_b rn t) (zf t) i) = false := by rw [h35]; rfl
        refine lv_iconst (v := 0) hx hb dX4_hitsOf_38 (by decide) ?_
        refine lv_goto (tgt := 43) hx hb dX4_hitsOf_39 (by decide) ?_
        refine lv_iadd hx hb dX4_hitsOf_43 ?_
        refine fw_i (x' := nI (hv_X (re_e rn t) (re_b rn t) (zf t) (i + 1))) (by rw [hv_XS, hbc, if_neg (by decide)]; exact nI_add _ 0) ?_
        refine lv_istore_n (lv' := [(2, .int (nI (hv_X (re_e rn t) (re_b rn t) (zf t) (i + 1)))), (0, .ref m0), (1, .int (nI t)), (3, .int (nI i))]) hx hb dX4_hitsOf_44 rfl hl (by decide) rfl (fun ls hl => ?_)
        refine lv_iinc (v := nI (i + 1)) (lv' := [(3, .int (nI (i + 1))), (2, .int (nI (hv_X (re_e rn t) (re_b rn t) (zf t) (i + 1)))), (0, .ref m0), (1, .int (nI t))]) hx hb dX4_hitsOf_45 hl (k := 3) rfl (nI_1 i) (by decide) rfl (fun ls hl => ?_)
        refine lv_goto (tgt := 4) hx hb dX4_hitsOf_48 (by decide) ?_
        exact ih_4 _ (i + 1) _ (by omega) ⟨rfl, by omega, lv_sub hl [2, 3, 1, 0] rfl⟩
set_option maxHeartbeats 4000000 in
set_option maxRecDepth 100000 in
theorem c_ref_doubt (l : Launch) (dC : Nat → ClassId) (dI : Nat → Nat → Nat) (m0 pz pr : Nat) (cI : ClassId) (v0 v1 v2 v3 v4 v7 v8 v9 v10 v11 v12 v13 : Value) (zf rn : Nat → Nat) (t : Nat) (ht : t < 12) (hz48 : zf t ≤ 48) (hrn : ∀ j, j < 576 → rn j < 2000) : Met l yX4_doubtful wsX4_doubtful ({ frames := 1, cells := 0, slots := 0, locals := 22 } : Room) (va_Pc [.ref m0, .int (nI t)] (fw_pR (dC, dI) vwCl [(cI, .int)] [(m0, .inr (4, [v0, v1, v2, v3, v4, .ref pz, .ref pr, v7, v8, v9, v10, v11, v12, v13])), (pz, .inl (cI, 12, .inl (fun j => nI (zf j)))), (pr, .inl (cI, 576, .inl (fun j => nI (rn j))))])) (vp_Si (fun r => r = nI (hv_D (re_e rn t) (re_b rn t) (zf t) (zf t)))) 0 0 (fun _ => False) := by
  refine fw_metR (cc := cX4_doubtful) (maxL := 6) (ret := (some .int)) (by decide) rfl (Nat.le_of_ble_eq_true rfl) ?_
  intro zp ze zs zm zbelow zmeth zc ls hx hb hr hts hown hlocks hml hin hN hP hK hl
  have hown : zs.vm.findClass RX4 = some zm.cls := hown
  have hl : lv_has ls 6 [(0, .ref m0), (1, .int (nI t))] := hl
  refine lv_iconst (v := 0) hx hb dX4_doubtful_0 (by decide) ?_
  refine lv_istore_n (lv' := [(2, .int 0), (0, .ref m0), (1, .int (nI t))]) hx hb dX4_doubtful_1 rfl hl (by decide) rfl (fun ls hl => ?_)
  refine lv_iconst (v := 0) hx hb dX4_doubtful_2 (by decide) ?_
  refine lv_istore_n (lv' := [(3, .int 0), (2, .int 0), (0, .ref m0), (1, .int (nI t))]) hx hb dX4_doubtful_3 rfl hl (by decide) rfl (fun ls hl => ?_)
  refine fw_loopR (σ := Nat) (I := fun zn u ls => match u with | i => zn = zf t - i ∧ (i ≤ zf t) ∧ lv_has ls 6 [(0, .ref m0), (1, .int (nI t)), (2, .int (nI (hv_D (re_e rn t) (re_b rn t) (zf t) i))), (3, .int (nI i))]) ?_ _ 0 _ ⟨rfl, by omega, lv_sub hl [2, 3, 1, 0] rfl⟩
  intro zn i ls hI ih_4
  obtain ⟨hzn, hi, hl⟩ := hI
  refine lv_iload_n hx hb dX4_doubtful_4 rfl (lv_at hl 3 rfl) ?_
  refine lv_aload_n hx hb dX4_doubtful_5 rfl (lv_at hl 0 rfl) ?_
  refine va_get (D := (dC, dI)) (ci := 4) (v := .ref pz) (C := RX4) (T := TX4) (N := 14) hx hb hts (by decide +kernel) hown hK hP 0 rfl rfl 5 (by decide) (hts (.fieldLink RX4 19 "FlakyBoundsModel" "size" "[I") (by decide +kernel)) (fun _ h9 => h9) rfl dX4_doubtful_6 ?_
  refine lv_iload_n hx hb dX4_doubtful_9 rfl (lv_at hl 1 rfl) ?_
  refine va_iald hx hb hK hP 1 0 rfl rfl (vp_in_nI (by omega) (by decide)) dX4_doubtful_10 ?_
  refine fw_i (x' := nI (zf t)) (by rw [nI_clamp (by omega)]) ?_
  refine lv_icmp_ge (tgt := 100) hx hb dX4_doubtful_11 (by decide) (fun c_11 => ?_) (fun c_11 => ?_)
  · -- then 11
    have hend : i = zf t := by have := (nI_leI (a := zf t) (b := i) (by omega) (by omega)).mp c_11; omega
    refine lv_iload_n hx hb dX4_doubtful_100 rfl (lv_at hl 2 rfl) ?_
    exact W.iret (v := (nI (hv_D (re_e rn t) (re_b rn t) (zf t) i))) hx hb hr (fun zt zht _ => ⟨(nI (hv_D (re_e rn t) (re_b rn t) (zf t) i)), rfl, by rw [hend], zht⟩) (fun q h => by cases h) dX4_doubtful_101 hlocks
  · -- else 11
    have hlt : i < zf t := by
      rcases Nat.lt_or_ge i (zf t) with q9 | q9
      · exact q9
      · exact absurd (nI_le (a := zf t) (b := i) q9 (by omega)) c_11
    refine lv_iconst (v := 0) hx hb dX4_doubtful_14 (by decide) ?_
    refine lv_istore (lv' := [(4, .int 0), (0, .ref m0), (1, .int (nI t)), (2, .int (nI (hv_D (re_e rn t) (re_b rn t) (zf t) i))), (3, .int (nI i))]) hx hb dX4_doubtful_15 hl (by decide) rfl (fun ls hl => ?_)
    refine lv_iconst (v := 0) hx hb dX4_doubtful_17 (by decide) ?_
    refine lv_istore (lv' := [(5, .int 0), (4, .int 0), (0, .ref m0), (1, .int (nI t)), (2, .int (nI (hv_D (re_e rn t) (re_b rn t) (zf t) i))), (3, .int (nI i))]) hx hb dX4_doubtful_18 hl (by decide) rfl (fun ls hl => ?_)
    refine fw_loopR (σ := Nat) (I := fun zn u ls => match u with | q => zn = zf t - q ∧ (q ≤ zf t) ∧ lv_has ls 6 [(0, .ref m0), (1, .int (nI t)), (2, .int (nI (hv_D (re_e rn t) (re_b rn t) (zf t) i))), (3, .int (nI i)), (4, .int (zI (hv_has (re_e rn t) (re_b rn t) (re_e rn t i) (!re_b rn t i) q))), (5, .int (nI q))]) ?_ _ 0 _ ⟨rfl, by omega, lv_sub hl [2, 3, 4, 5, 1, 0] rfl⟩
    intro zn q ls hI ih_20
    obtain ⟨hzn, hq, hl⟩ := hI
    refine lv_iload hx hb dX4_doubtful_20 (lv_at hl 5 rfl) ?_
    refine lv_aload_n hx hb dX4_doubtful_22 rfl (lv_at hl 0 rfl) ?_
    refine va_get (D := (dC, dI)) (ci := 4) (v := .ref pz) (C := RX4) (T := TX4) (N := 14) hx hb hts (by decide +kernel) hown hK hP 0 rfl rfl 5 (by decide) (hts (.fieldLink RX4 19 "FlakyBoundsModel" "size" "[I") (by decide +kernel)) (fun _ h9 => h9) rfl dX4_doubtful_23 ?_
    refine lv_iload_n hx hb dX4_doubtful_26 rfl (lv_at hl 1 rfl) ?_
    refine va_iald hx hb hK hP 1 0 rfl rfl (vp_in_nI (by omega) (by decide)) dX4_doubtful_27 ?_
    refine fw_i (x' := nI (zf t)) (by rw [nI_clamp (by omega)]) ?_
    refine lv_icmp_ge (tgt := 81) hx hb dX4_doubtful_28 (by decide) (fun c_28 => ?_) (fun c_28 => ?_)
    · -- then 28
      have hend2 : q = zf t := by have := (nI_leI (a := zf t) (b := q) (by omega) (by omega)).mp c_28; omega
      refine lv_iload_n hx hb dX4_doubtful_81 rfl (lv_at hl 2 rfl) ?_
      refine lv_iload hx hb dX4_doubtful_82 (lv_at hl 4 rfl) ?_
      refine lv_if_eq (tgt := 91) hx hb dX4_doubtful_84 (by decide) (fun c_84 => ?_) (fun c_84 => ?_)
      · -- then 84
        have h84 := zI_eq0.mp c_84
        rw [hend2] at h84
        have hcn : hv_con (re_e rn t) (re_b rn t) (zf t) i = false := h84
        refine lv_iconst (v := 0) hx hb dX4_doubtful_91 (by decide) ?_
        refine lv_iadd hx hb dX4_doubtful_92 ?_
        refine fw_i (x' := nI (hv_D (re_e rn t) (re_b rn t) (zf t) (i + 1))) (by rw [hv_DS, hcn, if_neg (by decide)]; exact nI_add _ 0) ?_
        refine lv_istore_n (lv' := [(2, .int (nI (hv_D (re_e rn t) (re_b rn t) (zf t) (i + 1)))), (0, .ref m0), (1, .int (nI t)), (3, .int (nI i)), (4, .int (zI (hv_has (re_e rn t) (re_b rn t) (re_e rn t i) (!re_b rn t i) q))), (5, .int (nI q))]) hx hb dX4_doubtful_93 rfl hl (by decide) rfl (fun ls hl => ?_)
        refine lv_iinc (v := nI (i + 1)) (lv' := [(3, .int (nI (i + 1))), (2, .int (nI (hv_D (re_e rn t) (re_b rn t) (zf t) (i + 1)))), (0, .ref m0), (1, .int (nI t)), (4, .int (zI (hv_has (re_e rn t) (re_b rn t) (re_e rn t i) (!re_b rn t i) q))), (5, .int (nI q))]) hx hb dX4_doubtful_94 hl (k := 3) rfl (nI_1 i) (by decide) rfl (fun ls hl => ?_)
        refine lv_goto (tgt := 4) hx hb dX4_doubtful_97 (by decide) ?_
        exact ih_4 _ (i + 1) _ (by omega) ⟨rfl, by omega, lv_sub hl [2, 3, 1, 0] rfl⟩
      · -- else 84
        have h84 := zI_ne0.mp c_84
        rw [hend2] at h84
        have hcn : hv_con (re_e rn t) (re_b rn t) (zf t) i = true := h84
        refine lv_iconst (v := 1) hx hb dX4_doubtful_87 (by decide) ?_
        refine lv_goto (tgt := 92) hx hb dX4_doubtful_88 (by decide) ?_
        refine lv_iadd hx hb dX4_doubtful_92 ?_
        refine fw_i (x' := nI (hv_D (re_e rn t) (re_b rn t) (zf t) (i + 1))) (by rw [hv_DS, hcn, if_pos rfl]; exact nI_1 _) ?_
        refine lv_istore_n (lv' := [(2, .int (nI (hv_D (re_e rn t) (re_b rn t) (zf t) (i + 1)))), (0, .ref m0), (1, .int (nI t)), (3, .int (nI i)), (4, .int (zI (hv_has (re_e rn t) (re_b rn t) (re_e rn t i) (!re_b rn t i) q))), (5, .int (nI q))]) hx hb dX4_doubtful_93 rfl hl (by decide) rfl (fun ls hl => ?_)
        refine lv_iinc (v := nI (i + 1)) (lv' := [(3, .int (nI (i + 1))), (2, .int (nI (hv_D (re_e rn t) (re_b rn t) (zf t) (i + 1)))), (0, .ref m0), (1, .int (nI t)), (4, .int (zI (hv_has (re_e rn t) (re_b rn t) (re_e rn t i) (!re_b rn t i) q))), (5, .int (nI q))]) hx hb dX4_doubtful_94 hl (k := 3) rfl (nI_1 i) (by decide) rfl (fun ls hl => ?_)
        refine lv_goto (tgt := 4) hx hb dX4_doubtful_97 (by decide) ?_
        exact ih_4 _ (i + 1) _ (by omega) ⟨rfl, by omega, lv_sub hl [2, 3, 1, 0] rfl⟩
    · -- else 28
      have hlt2 : q < zf t := by
        rcases Nat.lt_or_ge q (zf t) with q9 | q9
        · exact q9
        · exact absurd (nI_le (a := zf t) (b := q) q9 (by omega)) c_28
      refine lv_iload hx hb dX4_doubtful_31 (lv_at hl 4 rfl) ?_
      refine lv_if_ne (tgt := 68) hx hb dX4_doubtful_33 (by decide) (fun c_33 => ?_) (fun c_33 => ?_)
      · -- then 33
        have h33 := zI_ne0.mp c_33
        refine lv_iconst (v := 1) hx hb dX4_doubtful_68 (by decide) ?_
        refine lv_goto (tgt := 73) hx hb dX4_doubtful_69 (by decide) ?_
        refine lv_istore (lv' := [(4, .int 1), (0, .ref m0), (1, .int (nI t)), (2, .int (nI (hv_D (re_e rn t) (re_b rn t) (zf t) i))), (3, .int (nI i)), (5, .int (nI q))]) hx hb dX4_doubtful_73 hl (by decide) rfl (fun ls hl => ?_)
        refine lv_iinc (v := nI (q + 1)) (lv' := [(5, .int (nI (q + 1))), (4, .int 1), (0, .ref m0), (1, .int (nI t)), (2, .int (nI (hv_D (re_e rn t) (re_b rn t) (zf t) i))), (3, .int (nI i))]) hx hb dX4_doubtful_75 hl (k := 5) rfl (nI_1 q) (by decide) rfl (fun ls hl => ?_)
        refine lv_goto (tgt := 20) hx hb dX4_doubtful_78 (by decide) ?_
        have z1 : hv_has (re_e rn t) (re_b rn t) (re_e rn t i) (!re_b rn t i) (q + 1) = true := by rw [hv_hasQ, h33]; rfl
        exact ih_20 _ (q + 1) _ (by omega) ⟨rfl, by omega, by rw [z1]; exact lv_sub hl [2, 3, 4, 5, 1, 0] rfl⟩
      · -- else 33
        have h33 := zI_eq0.mp c_33
        refine lv_aload_n hx hb dX4_doubtful_36 rfl (lv_at hl 0 rfl) ?_
        refine lv_iload_n hx hb dX4_doubtful_37 rfl (lv_at hl 1 rfl) ?_
        refine lv_iload hx hb dX4_doubtful_38 (lv_at hl 5 rfl) ?_
        have hPc := hP.sub (ws' := [(m0, .inr (4, [v0, v1, v2, v3, v4, .ref pz, .ref pr, v7, v8, v9, v10, v11, v12, v13])), (pr, .inl (cI, 576, .inl (fun j => nI (rn j))))]) [0, 2] rfl
        have hKc := hK.sub (tys' := [(cI, .int)]) [0] rfl
        refine vp_callSi (va_runV (As := [.int (nI t), .int (nI q)]) (rest := []) ⟨hx, hb, hml, hown, hts⟩ (c_ref_edition l dC dI m0 pr cI v0 v1 v2 v3 v4 (.ref pz) v7 v8 v9 v10 v11 v12 v13 rn t q ht (by omega) hrn) (cwV 2 hts gX4_doubtful_X4_edition rfl rfl rfl (by decide +kernel) ⟨Nat.le_of_ble_eq_true rfl, Nat.le_of_ble_eq_true rfl⟩) (fw_preVR hN hKc hPc (ci := 4) (q0 := 0) rfl rfl) rfl rfl hl.1 rfl (lv_room (Nat.le_of_ble_eq_true rfl)) dX4_doubtful_40 ⟨Nat.le_of_ble_eq_true rfl, Nat.le_of_ble_eq_true rfl⟩).run (fun r_40 hr_40 => ?_)
        obtain rfl : r_40 = re_e rn t q := hr_40
        refine lv_aload_n hx hb dX4_doubtful_43 rfl (lv_at hl 0 rfl) ?_
        refine lv_iload_n hx hb dX4_doubtful_44 rfl (lv_at hl 1 rfl) ?_
        refine lv_iload_n hx hb dX4_doubtful_45 rfl (lv_at hl 3 rfl) ?_
        have hPc := hP.sub (ws' := [(m0, .inr (4, [v0, v1, v2, v3, v4, .ref pz, .ref pr, v7, v8, v9, v10, v11, v12, v13])), (pr, .inl (cI, 576, .inl (fun j => nI (rn j))))]) [0, 2] rfl
        have hKc := hK.sub (tys' := [(cI, .int)]) [0] rfl
        refine vp_callSi (va_runV (As := [.int (nI t), .int (nI i)]) (rest := [.int (re_e rn t q)]) ⟨hx, hb, hml, hown, hts⟩ (c_ref_edition l dC dI m0 pr cI v0 v1 v2 v3 v4 (.ref pz) v7 v8 v9 v10 v11 v12 v13 rn t i ht (by omega) hrn) (cwV 2 hts gX4_doubtful_X4_edition rfl rfl rfl (by decide +kernel) ⟨Nat.le_of_ble_eq_true rfl, Nat.le_of_ble_eq_true rfl⟩) (fw_preVR hN hKc hPc (ci := 4) (q0 := 0) rfl rfl) rfl rfl hl.1 rfl (lv_room (Nat.le_of_ble_eq_true rfl)) dX4_doubtful_46 ⟨Nat.le_of_ble_eq_true rfl, Nat.le_of_ble_eq_true rfl⟩).run (fun r_46 hr_46 => ?_)
        obtain rfl : r_46 = re_e rn t i := hr_46
        refine lv_icmp_ne (tgt := 72) hx hb dX4_doubtful_49 (by decide) (fun c_49 => ?_) (fun c_49 => ?_)
        · -- then 49
          have h49 := c_49
          refine lv_iconst (v := 0) hx hb dX4_doubtful_72 (by decide) ?_
          refine lv_istore (lv' := [(4, .int 0), (0, .ref m0), (1, .int (nI t)), (2, .int (nI (hv_D (re_e rn t) (re_b rn t) (zf t) i))), (3, .int (nI i)), (5, .int (nI q))]) hx hb dX4_doubtful_73 hl (by decide) rfl (fun ls hl => ?_)
          refine lv_iinc (v := nI (q + 1)) (lv' := [(5, .int (nI (q + 1))), (4, .int 0), (0, .ref m0), (1, .int (nI t)), (2, .int (nI (hv_D (re_e rn t) (re_b rn t) (zf t) i))), (3, .int (nI i))]) hx hb dX4_doubtful_75 hl (k := 5) rfl (nI_1 q) (by decide) rfl (fun ls hl => ?_)
          refine lv_goto (tgt := 20) hx hb dX4_doubtful_78 (by decide) ?_
          have z1 : hv_has (re_e rn t) (re_b rn t) (re_e rn t i) (!re_b rn t i) (q + 1) = false := by rw [hv_hasQ, h33, decide_eq_false h49]; rfl
          exact ih_20 _ (q + 1) _ (by omega) ⟨rfl, by omega, by rw [z1]; exact lv_sub hl [2, 3, 4, 5, 1, 0] rfl⟩
        · -- else 49
          have h49 := c_49
          refine lv_aload_n hx hb dX4_doubtful_52 rfl (lv_at hl 0 rfl) ?_
          refine lv_iload_n hx hb dX4_doubtful_53 rfl (lv_at hl 1 rfl) ?_
          refine lv_iload hx hb dX4_doubtful_54 (lv_at hl 5 rfl) ?_
          have hPc := hP.sub (ws' := [(m0, .inr (4, [v0, v1, v2, v3, v4, .ref pz, .ref pr, v7, v8, v9, v10, v11, v12, v13])), (pr, .inl (cI, 576, .inl (fun j => nI (rn j))))]) [0, 2] rfl
          have hKc := hK.sub (tys' := [(cI, .int)]) [0] rfl
          refine vp_callSi (va_runV (As := [.int (nI t), .int (nI q)]) (rest := []) ⟨hx, hb, hml, hown, hts⟩ (c_ref_isPass l dC dI m0 pr cI v0 v1 v2 v3 v4 (.ref pz) v7 v8 v9 v10 v11 v12 v13 rn t q ht (by omega) hrn) (cwV 2 hts gX4_doubtful_X4_isPass rfl rfl rfl (by decide +kernel) ⟨Nat.le_of_ble_eq_true rfl, Nat.le_of_ble_eq_true rfl⟩) (fw_preVR hN hKc hPc (ci := 4) (q0 := 0) rfl rfl) rfl rfl hl.1 rfl (lv_room (Nat.le_of_ble_eq_true rfl)) dX4_doubtful_56 ⟨Nat.le_of_ble_eq_true rfl, Nat.le_of_ble_eq_true rfl⟩).run (fun r_56 hr_56 => ?_)
          obtain rfl : r_56 = zI (re_b rn t q) := hr_56
          refine lv_aload_n hx hb dX4_doubtful_59 rfl (lv_at hl 0 rfl) ?_
          refine lv_iload_n hx hb dX4_doubtful_60 rfl (lv_at hl 1 rfl) ?_
          refine lv_iload_n hx hb dX4_doubtful_61 rfl (lv_at hl 3 rfl) ?_
          have hPc := hP.sub (ws' := [(m0, .inr (4, [v0, v1, v2, v3, v4, .ref pz, .ref pr, v7, v8, v9, v10, v11, v12, v13])), (pr, .inl (cI, 576, .inl (fun j => nI (rn j))))]) [0, 2] rfl
          have hKc := hK.sub (tys' := [(cI, .int)]) [0] rfl
          refine vp_callSi (va_runV (As := [.int (nI t), .int (nI i)]) (rest := [.int (zI (re_b rn t q))]) ⟨hx, hb, hml, hown, hts⟩ (c_ref_isPass l dC dI m0 pr cI v0 v1 v2 v3 v4 (.ref pz) v7 v8 v9 v10 v11 v12 v13 rn t i ht (by omega) hrn) (cwV 2 hts gX4_doubtful_X4_isPass rfl rfl rfl (by decide +kernel) ⟨Nat.le_of_ble_eq_true rfl, Nat.le_of_ble_eq_true rfl⟩) (fw_preVR hN hKc hPc (ci := 4) (q0 := 0) rfl rfl) rfl rfl hl.1 rfl (lv_room (Nat.le_of_ble_eq_true rfl)) dX4_doubtful_62 ⟨Nat.le_of_ble_eq_true rfl, Nat.le_of_ble_eq_true rfl⟩).run (fun r_62 hr_62 => ?_)
          obtain rfl : r_62 = zI (re_b rn t i) := hr_62
          refine lv_icmp_eq (tgt := 72) hx hb dX4_doubtful_65 (by decide) (fun c_65 => ?_) (fun c_65 => ?_)
          · -- then 65
            have h65 := zI_inj.mp c_65
            refine lv_iconst (v := 0) hx hb dX4_doubtful_72 (by decide) ?_
            refine lv_istore (lv' := [(4, .int 0), (0, .ref m0), (1, .int (nI t)), (2, .int (nI (hv_D (re_e rn t) (re_b rn t) (zf t) i))), (3, .int (nI i)), (5, .int (nI q))]) hx hb dX4_doubtful_73 hl (by decide) rfl (fun ls hl => ?_)
            refine lv_iinc (v := nI (q + 1)) (lv' := [(5, .int (nI (q + 1))), (4, .int 0), (0, .ref m0), (1, .int (nI t)), (2, .int (nI (hv_D (re_e rn t) (re_b rn t) (zf t) i))), (3, .int (nI i))]) hx hb dX4_doubtful_75 hl (k := 5) rfl (nI_1 q) (by decide) rfl (fun ls hl => ?_)
            refine lv_goto (tgt := 20) hx hb dX4_doubtful_78 (by decide) ?_
            have z1 : hv_has (re_e rn t) (re_b rn t) (re_e rn t i) (!re_b rn t i) (q + 1) = false := by rw [hv_hasQ, h33, re_ne, decide_eq_true h65, Bool.not_true, Bool.and_false]; rfl
            exact ih_20 _ (q + 1) _ (by omega) ⟨rfl, by omega, by rw [z1]; exact lv_sub hl [2, 3, 4, 5, 1, 0] rfl⟩
          · -- else 65
            have h65 : ¬ re_b rn t q = re_b rn t i := fun q9 => c_65 (by rw [q9])
            refine lv_iconst (v := 1) hx hb dX4_doubtful_68 (by decide) ?_
            refine lv_goto (tgt := 73) hx hb dX4_doubtful_69 (by decide) ?_
            refine lv_istore (lv' := [(4, .int 1), (0, .ref m0), (1, .int (nI t)), (2, .int (nI (hv_D (re_e rn t) (re_b rn t) (zf t) i))), (3, .int (nI i)), (5, .int (nI q))]) hx hb dX4_doubtful_73 hl (by decide) rfl (fun ls hl => ?_)
            refine lv_iinc (v := nI (q + 1)) (lv' := [(5, .int (nI (q + 1))), (4, .int 1), (0, .ref m0), (1, .int (nI t)), (2, .int (nI (hv_D (re_e rn t) (re_b rn t) (zf t) i))), (3, .int (nI i))]) hx hb dX4_doubtful_75 hl (k := 5) rfl (nI_1 q) (by decide) rfl (fun ls hl => ?_)
            refine lv_goto (tgt := 20) hx hb dX4_doubtful_78 (by decide) ?_
            have z1 : hv_has (re_e rn t) (re_b rn t) (re_e rn t i) (!re_b rn t i) (q + 1) = true := by rw [hv_hasQ, h33, re_ne, decide_eq_false h65, decide_eq_true h49]; rfl
            exact ih_20 _ (q + 1) _ (by omega) ⟨rfl, by omega, by rw [z1]; exact lv_sub hl [2, 3, 4, 5, 1, 0] rfl⟩
