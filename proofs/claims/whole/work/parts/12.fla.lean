set_option maxHeartbeats 4000000 in
set_option maxRecDepth 100000 in
theorem c_fla_find_no (l : Launch) (dC : Nat → ClassId) (dI : Nat → Nat → Nat) (f0 hs : Nat) (cH : ClassId) (v1 v3 v4 v5 : Value) (n : Nat) (hf : Nat → Option Nat) (x : Int32) (hn12 : n ≤ 12) (hno : fv_no n x) : Met l yX3_find wsX3_find ({ frames := 0, cells := 0, slots := 0, locals := 0 } : Room) (va_Pc [.ref f0, .int x] (fw_pR (dC, dI) vwCl [(cH, .object RX2)] [(f0, .inr (3, [.ref hs, v1, .int (nI n), v3, v4, v5])), (hs, .inl (cH, 12, .inr (.inr (.inr (.inr (hf))))))])) (va_Sq (fun r => r = none)) 0 0 (fun _ => False) := by
  refine fw_metR (cc := cX3_find) (maxL := 2) (ret := (some (.object "FlakyBounds$History"))) (by decide) rfl (Nat.le_of_ble_eq_true rfl) ?_
  intro zp ze zs zm zbelow zmeth zc ls hx hb hr hts hown hlocks hml hin hN hP hK hl
  have hown : zs.vm.findClass RX3 = some zm.cls := hown
  have hl : lv_has ls 2 [(0, .ref f0), (1, .int x)] := hl
  refine lv_iload_n hx hb dX3_find_0 rfl (lv_at hl 1 rfl) ?_
  refine lv_if_lt (tgt := 21) hx hb dX3_find_1 (by decide) (fun c_1 => ?_) (fun c_1 => ?_)
  · -- then 1
    refine lv_null hx hb dX3_find_21 ?_
    exact W.aret (v := .null) hx hb hr (Or.inl ⟨_, rfl⟩) (Or.inl rfl) (fun zt zht _ => ⟨none, rfl, rfl, zht⟩) (fun q h => by cases h) dX3_find_22 hlocks
  · -- else 1
    refine lv_iload_n hx hb dX3_find_4 rfl (lv_at hl 1 rfl) ?_
    refine lv_aload_n hx hb dX3_find_5 rfl (lv_at hl 0 rfl) ?_
    refine va_get (D := (dC, dI)) (ci := 3) (v := .int (nI n)) (C := RX3) (T := TX3) (N := 6) hx hb hts (by decide +kernel) hown hK hP 0 rfl rfl 2 (by decide) (hts (.fieldLink RX3 22 "FlakyBounds" "tests" "I") (by decide +kernel)) (fun _ h9 => h9) rfl dX3_find_6 ?_
    refine lv_icmp_ge (tgt := 21) hx hb dX3_find_9 (by decide) (fun c_9 => ?_) (fun c_9 => ?_)
    · -- then 9
      refine lv_null hx hb dX3_find_21 ?_
      exact W.aret (v := .null) hx hb hr (Or.inl ⟨_, rfl⟩) (Or.inl rfl) (fun zt zht _ => ⟨none, rfl, rfl, zht⟩) (fun q h => by cases h) dX3_find_22 hlocks
    · -- else 9
      rcases hno with q9 | q9
      · exact absurd q9 c_1
      · exact absurd q9 c_9
set_option maxHeartbeats 4000000 in
set_option maxRecDepth 100000 in
theorem c_fla_find (l : Launch) (dC : Nat → ClassId) (dI : Nat → Nat → Nat) (f0 hs : Nat) (cH : ClassId) (v1 v3 v4 v5 : Value) (n : Nat) (hf : Nat → Option Nat) (i h0 : Nat) (hn12 : n ≤ 12) (hin_ : i < n) (hfi : hf i = some h0) : Met l yX3_find wsX3_find ({ frames := 0, cells := 0, slots := 0, locals := 0 } : Room) (va_Pc [.ref f0, .int (nI i)] (fw_pR (dC, dI) vwCl [(cH, .object RX2)] [(f0, .inr (3, [.ref hs, v1, .int (nI n), v3, v4, v5])), (hs, .inl (cH, 12, .inr (.inr (.inr (.inr (hf))))))])) (va_Sq (fun r => r = some h0)) 0 0 (fun _ => False) := by
  refine fw_metR (cc := cX3_find) (maxL := 2) (ret := (some (.object "FlakyBounds$History"))) (by decide) rfl (Nat.le_of_ble_eq_true rfl) ?_
  intro zp ze zs zm zbelow zmeth zc ls hx hb hr hts hown hlocks hml hin hN hP hK hl
  have hown : zs.vm.findClass RX3 = some zm.cls := hown
  have hl : lv_has ls 2 [(0, .ref f0), (1, .int (nI i))] := hl
  refine lv_iload_n hx hb dX3_find_0 rfl (lv_at hl 1 rfl) ?_
  refine lv_if_lt (tgt := 21) hx hb dX3_find_1 (by decide) (fun c_1 => absurd c_1 (nI_pos (by omega))) (fun _ => ?_)
  refine lv_iload_n hx hb dX3_find_4 rfl (lv_at hl 1 rfl) ?_
  refine lv_aload_n hx hb dX3_find_5 rfl (lv_at hl 0 rfl) ?_
  refine va_get (D := (dC, dI)) (ci := 3) (v := .int (nI n)) (C := RX3) (T := TX3) (N := 6) hx hb hts (by decide +kernel) hown hK hP 0 rfl rfl 2 (by decide) (hts (.fieldLink RX3 22 "FlakyBounds" "tests" "I") (by decide +kernel)) (fun _ h9 => h9) rfl dX3_find_6 ?_
  refine lv_icmp_ge (tgt := 21) hx hb dX3_find_9 (by decide) (fun c_9 => absurd c_9 (nI_ge (a := i) (b := n) (by omega) (by omega))) (fun _ => ?_)
  refine lv_iload_n hx hb dX3_find_12 rfl (lv_at hl 1 rfl) ?_
  refine lv_aload_n hx hb dX3_find_13 rfl (lv_at hl 0 rfl) ?_
  refine va_get (D := (dC, dI)) (ci := 3) (v := .ref hs) (C := RX3) (T := TX3) (N := 6) hx hb hts (by decide +kernel) hown hK hP 0 rfl rfl 0 (by decide) (hts (.fieldLink RX3 11 "FlakyBounds" "histories" "[LFlakyBounds$History;") (by decide +kernel)) (fun _ h9 => h9) rfl dX3_find_14 ?_
  refine va_alen (v := 12) hx hb hK hP 1 0 rfl rfl rfl dX3_find_17 ?_
  refine lv_icmp_lt (tgt := 23) hx hb dX3_find_18 (by decide) (fun _ => ?_) (fun c_18 => absurd (nI_lt (a := i) (b := 12) (by omega) (by decide)) c_18)
  refine lv_aload_n hx hb dX3_find_23 rfl (lv_at hl 0 rfl) ?_
  refine va_get (D := (dC, dI)) (ci := 3) (v := .ref hs) (C := RX3) (T := TX3) (N := 6) hx hb hts (by decide +kernel) hown hK hP 0 rfl rfl 0 (by decide) (hts (.fieldLink RX3 11 "FlakyBounds" "histories" "[LFlakyBounds$History;") (by decide +kernel)) (fun _ h9 => h9) rfl dX3_find_24 ?_
  refine lv_iload_n hx hb dX3_find_27 rfl (lv_at hl 1 rfl) ?_
  refine va_aldq hx hb hK hP 1 0 rfl rfl (vp_in_nI (by omega) (by decide)) dX3_find_28 ?_
  refine fw_v (x' := .ref h0) (by rw [nI_clamp (by omega), hfi]; rfl) ?_
  exact W.aret (v := .ref h0) hx hb hr (Or.inl ⟨_, rfl⟩) (Or.inr ⟨_, rfl⟩) (fun zt zht _ => ⟨some h0, rfl, rfl, zht⟩) (fun q h => by cases h) dX3_find_29 hlocks
set_option maxHeartbeats 4000000 in
set_option maxRecDepth 100000 in
theorem c_fla_isEdition (l : Launch) (dC : Nat → ClassId) (dI : Nat → Nat → Nat) (x : Int32)  : Met l yX3_isEdition wsX3_isEdition ({ frames := 0, cells := 0, slots := 0, locals := 0 } : Room) (va_Pc [.int x] (fw_pR (dC, dI) vwCl [] [])) (vp_Si (fun r => r = zI (fv_ed x))) 0 0 (fun _ => False) := by
  refine fw_metR (cc := cX3_isEdition) (maxL := 1) (ret := (some .boolean)) (by decide) rfl (Nat.le_of_ble_eq_true rfl) ?_
  intro zp ze zs zm zbelow zmeth zc ls hx hb hr hts hown hlocks hml hin hN hP hK hl
  have hown : zs.vm.findClass RX3 = some zm.cls := hown
  have hl : lv_has ls 1 [(0, .int x)] := hl
  refine lv_iload_n hx hb dX3_isEdition_0 rfl (lv_at hl 0 rfl) ?_
  refine lv_if_lt (tgt := 15) hx hb dX3_isEdition_1 (by decide) (fun c_1 => ?_) (fun c_1 => ?_)
  · -- then 1
    refine lv_iconst (v := 0) hx hb dX3_isEdition_15 (by decide) ?_
    exact W.zret (v := 0) (ty := .boolean) hx hb hr rfl (fun zt zht _ => ⟨0, rfl, by unfold fv_ed; rw [decide_eq_true c_1]; rfl, zht⟩) (fun q h => by cases h) dX3_isEdition_16 hlocks
  · -- else 1
    refine lv_iload_n hx hb dX3_isEdition_4 rfl (lv_at hl 0 rfl) ?_
    refine lv_sipush (v := 1000) hx hb dX3_isEdition_5 (by decide) ?_
    refine lv_icmp_ge (tgt := 15) hx hb dX3_isEdition_8 (by decide) (fun c_8 => ?_) (fun c_8 => ?_)
    · -- then 8
      refine lv_iconst (v := 0) hx hb dX3_isEdition_15 (by decide) ?_
      exact W.zret (v := 0) (ty := .boolean) hx hb hr rfl (fun zt zht _ => ⟨0, rfl, by unfold fv_ed; rw [decide_eq_false c_1, decide_eq_true c_8]; rfl, zht⟩) (fun q h => by cases h) dX3_isEdition_16 hlocks
    · -- else 8
      refine lv_iconst (v := 1) hx hb dX3_isEdition_11 (by decide) ?_
      refine lv_goto (tgt := 16) hx hb dX3_isEdition_12 (by decide) ?_
      exact W.zret (v := 1) (ty := .boolean) hx hb hr rfl (fun zt zht _ => ⟨1, rfl, by unfold fv_ed; rw [decide_eq_false c_1, decide_eq_false c_8]; rfl, zht⟩) (fun q h => by cases h) dX3_isEdition_16 hlocks
set_option maxHeartbeats 4000000 in
set_option maxRecDepth 100000 in
theorem c_fla_isLevel (l : Launch) (dC : Nat → ClassId) (dI : Nat → Nat → Nat) (x : Int32)  : Met l yX3_isLevel wsX3_isLevel ({ frames := 0, cells := 0, slots := 0, locals := 0 } : Room) (va_Pc [.int x] (fw_pR (dC, dI) vwCl [] [])) (vp_Si (fun r => r = zI (fv_lv x))) 0 0 (fun _ => False) := by
  refine fw_metR (cc := cX3_isLevel) (maxL := 1) (ret := (some .boolean)) (by decide) rfl (Nat.le_of_ble_eq_true rfl) ?_
  intro zp ze zs zm zbelow zmeth zc ls hx hb hr hts hown hlocks hml hin hN hP hK hl
  have hown : zs.vm.findClass RX3 = some zm.cls := hown
  have hl : lv_has ls 1 [(0, .int x)] := hl
  refine lv_iload_n hx hb dX3_isLevel_0 rfl (lv_at hl 0 rfl) ?_
  refine lv_iconst (v := 1) hx hb dX3_isLevel_1 (by decide) ?_
  refine lv_icmp_lt (tgt := 16) hx hb dX3_isLevel_2 (by decide) (fun c_2 => ?_) (fun c_2 => ?_)
  · -- then 2
    refine lv_iconst (v := 0) hx hb dX3_isLevel_16 (by decide) ?_
    exact W.zret (v := 0) (ty := .boolean) hx hb hr rfl (fun zt zht _ => ⟨0, rfl, by unfold fv_lv; rw [decide_eq_true c_2]; rfl, zht⟩) (fun q h => by cases h) dX3_isLevel_17 hlocks
  · -- else 2
    refine lv_iload_n hx hb dX3_isLevel_5 rfl (lv_at hl 0 rfl) ?_
    refine lv_sipush (v := 1000) hx hb dX3_isLevel_6 (by decide) ?_
    refine lv_icmp_ge (tgt := 16) hx hb dX3_isLevel_9 (by decide) (fun c_9 => ?_) (fun c_9 => ?_)
    · -- then 9
      refine lv_iconst (v := 0) hx hb dX3_isLevel_16 (by decide) ?_
      exact W.zret (v := 0) (ty := .boolean) hx hb hr rfl (fun zt zht _ => ⟨0, rfl, by unfold fv_lv; rw [decide_eq_false c_2, decide_eq_true c_9]; rfl, zht⟩) (fun q h => by cases h) dX3_isLevel_17 hlocks
    · -- else 9
      refine lv_iconst (v := 1) hx hb dX3_isLevel_12 (by decide) ?_
      refine lv_goto (tgt := 17) hx hb dX3_isLevel_13 (by decide) ?_
      exact W.zret (v := 1) (ty := .boolean) hx hb hr rfl (fun zt zht _ => ⟨1, rfl, by unfold fv_lv; rw [decide_eq_false c_2, decide_eq_false c_9]; rfl, zht⟩) (fun q h => by cases h) dX3_isLevel_17 hlocks
set_option maxHeartbeats 4000000 in
set_option maxRecDepth 100000 in
theorem c_fla_isShare (l : Launch) (dC : Nat → ClassId) (dI : Nat → Nat → Nat) (x : Int32)  : Met l yX3_isShare wsX3_isShare ({ frames := 0, cells := 0, slots := 0, locals := 0 } : Room) (va_Pc [.int x] (fw_pR (dC, dI) vwCl [] [])) (vp_Si (fun r => r = zI (fv_sh x))) 0 0 (fun _ => False) := by
  refine fw_metR (cc := cX3_isShare) (maxL := 1) (ret := (some .boolean)) (by decide) rfl (Nat.le_of_ble_eq_true rfl) ?_
  intro zp ze zs zm zbelow zmeth zc ls hx hb hr hts hown hlocks hml hin hN hP hK hl
  have hown : zs.vm.findClass RX3 = some zm.cls := hown
  have hl : lv_has ls 1 [(0, .int x)] := hl
  refine lv_iload_n hx hb dX3_isShare_0 rfl (lv_at hl 0 rfl) ?_
  refine lv_if_lt (tgt := 15) hx hb dX3_isShare_1 (by decide) (fun c_1 => ?_) (fun c_1 => ?_)
  · -- then 1
    refine lv_iconst (v := 0) hx hb dX3_isShare_15 (by decide) ?_
    exact W.zret (v := 0) (ty := .boolean) hx hb hr rfl (fun zt zht _ => ⟨0, rfl, by unfold fv_sh; rw [decide_eq_true c_1]; rfl, zht⟩) (fun q h => by cases h) dX3_isShare_16 hlocks
  · -- else 1
    refine lv_iload_n hx hb dX3_isShare_4 rfl (lv_at hl 0 rfl) ?_
    refine lv_sipush (v := 1000) hx hb dX3_isShare_5 (by decide) ?_
    refine lv_icmp_gt (tgt := 15) hx hb dX3_isShare_8 (by decide) (fun c_8 => ?_) (fun c_8 => ?_)
    · -- then 8
      refine lv_iconst (v := 0) hx hb dX3_isShare_15 (by decide) ?_
      exact W.zret (v := 0) (ty := .boolean) hx hb hr rfl (fun zt zht _ => ⟨0, rfl, by unfold fv_sh; rw [decide_eq_false c_1, decide_eq_true c_8]; rfl, zht⟩) (fun q h => by cases h) dX3_isShare_16 hlocks
    · -- else 8
      refine lv_iconst (v := 1) hx hb dX3_isShare_11 (by decide) ?_
      refine lv_goto (tgt := 16) hx hb dX3_isShare_12 (by decide) ?_
      exact W.zret (v := 1) (ty := .boolean) hx hb hr rfl (fun zt zht _ => ⟨1, rfl, by unfold fv_sh; rw [decide_eq_false c_1, decide_eq_false c_8]; rfl, zht⟩) (fun q h => by cases h) dX3_isShare_16 hlocks
set_option maxHeartbeats 4000000 in
set_option maxRecDepth 100000 in
theorem c_fla_most (l : Launch) (dC : Nat → ClassId) (dI : Nat → Nat → Nat) (f0 c0 s0 sa t0 ta h0 : Nat) (cJ : ClassId) (v0 v2 v3 v4 v5 w0 w1 w2 w3 w4 w7 w8 w9 w10 : Value) (ds dt : Nat → Nat) (n x j : Nat) (sz : Nat) (hn48 : n ≤ 48) (hxn : x ≤ n) (hj : j ≤ 1000) : Met l yX3_atMost wsX3_atMost ({ frames := 2, cells := 0, slots := 0, locals := 51 } : Room) (va_Pc [.ref f0, .ref h0, .int (nI j)] (fw_pW (dC, dI) vwCl [(cJ, .long)] [(f0, .inr (3, [v0, .ref c0, v2, v3, v4, v5])), (c0, .inr (0, [.ref s0, .ref t0])), (s0, .inr (1, [.ref sa])), (sa, .inl (cJ, 17, .inr (.inl (fun j => lN (ds j))))), (t0, .inr (1, [.ref ta])), (ta, .inl (cJ, 17, .inr (.inl (fun j => lN (dt j))))), (h0, .inr (2, [w0, w1, w2, w3, w4, .int (nI n), .int (nI x), w7, w8, w9, w10]))] sz)) (va_Qr (S := (Nat → Nat) × (Nat → Nat)) (fun u => pd_ok u.1 ∧ pd_v u.1 17 = pm_G n j n x * 1000 ^ (48 - n)) (fun u a t => a = s0 ∧ fw_q (dC, dI) vwCl [(cJ, .long)] (va_A [(f0, .inr (3, [v0, .ref c0, v2, v3, v4, v5])), (c0, .inr (0, [.ref s0, .ref t0])), (s0, .inr (1, [.ref sa])), (sa, .inl (cJ, 17, .inr (.inl (fun j => lN (ds j))))), (t0, .inr (1, [.ref ta])), (ta, .inl (cJ, 17, .inr (.inl (fun j => lN (dt j))))), (h0, .inr (2, [w0, w1, w2, w3, w4, .int (nI n), .int (nI x), w7, w8, w9, w10]))] sz) [(f0, .inr (3, [v0, .ref c0, v2, v3, v4, v5])), (c0, .inr (0, [.ref s0, .ref t0])), (s0, .inr (1, [.ref sa])), (sa, .inl (cJ, 17, .inr (.inl (fun j => lN (u.1 j))))), (t0, .inr (1, [.ref ta])), (ta, .inl (cJ, 17, .inr (.inl (fun j => lN (u.2 j))))), (h0, .inr (2, [w0, w1, w2, w3, w4, .int (nI n), .int (nI x), w7, w8, w9, w10]))] t) (va_A [(f0, .inr (3, [v0, .ref c0, v2, v3, v4, v5])), (c0, .inr (0, [.ref s0, .ref t0])), (s0, .inr (1, [.ref sa])), (sa, .inl (cJ, 17, .inr (.inl (fun j => lN (ds j))))), (t0, .inr (1, [.ref ta])), (ta, .inl (cJ, 17, .inr (.inl (fun j => lN (dt j))))), (h0, .inr (2, [w0, w1, w2, w3, w4, .int (nI n), .int (nI x), w7, w8, w9, w10]))] sz)) 0 0 (va_A [(f0, .inr (3, [v0, .ref c0, v2, v3, v4, v5])), (c0, .inr (0, [.ref s0, .ref t0])), (s0, .inr (1, [.ref sa])), (sa, .inl (cJ, 17, .inr (.inl (fun j => lN (ds j))))), (t0, .inr (1, [.ref ta])), (ta, .inl (cJ, 17, .inr (.inl (fun j => lN (dt j))))), (h0, .inr (2, [w0, w1, w2, w3, w4, .int (nI n), .int (nI x), w7, w8, w9, w10]))] sz) := by
  refine fw_metW (cc := cX3_atMost) (maxL := 3) (ret := (some (.object "FlakyBounds$Decimal"))) (by decide) rfl (Nat.le_of_ble_eq_true rfl) ?_
  intro zp ze zs zm zbelow zmeth zc ls hx hb hr hts hown hlocks hml hin hN hsz hP hK hD hA hS hl
  generalize hAe : (va_A [(f0, .inr (3, [v0, .ref c0, v2, v3, v4, v5])), (c0, .inr (0, [.ref s0, .ref t0])), (s0, .inr (1, [.ref sa])), (sa, .inl (cJ, 17, .inr (.inl (fun j => lN (ds j))))), (t0, .inr (1, [.ref ta])), (ta, .inl (cJ, 17, .inr (.inl (fun j => lN (dt j))))), (h0, .inr (2, [w0, w1, w2, w3, w4, .int (nI n), .int (nI x), w7, w8, w9, w10]))] sz) = A at hD hA hS ⊢
  have hown : zs.vm.findClass RX3 = some zm.cls := hown
  have hl : lv_has ls 3 [(0, .ref f0), (1, .ref h0), (2, .int (nI j))] := hl
  refine lv_aload_n hx hb dX3_atMost_0 rfl (lv_at hl 0 rfl) ?_
  refine va_get (D := (dC, dI)) (ci := 3) (v := .ref c0) (C := RX3) (T := TX3) (N := 6) hx hb hts (by decide +kernel) hown hK hP 0 rfl rfl 1 (by decide) (hts (.fieldLink RX3 18 "FlakyBounds" "chance" "LFlakyBounds$Chance;") (by decide +kernel)) (fun _ h9 => h9) rfl dX3_atMost_1 ?_
  refine lv_aload_n hx hb dX3_atMost_4 rfl (lv_at hl 1 rfl) ?_
  refine va_getN (D := (dC, dI)) (ci := 2) (v := .int (nI n)) (C := RX2) (T := TX2) (N := 11) hx hb hts (by decide +kernel) hown hK hP 6 rfl rfl 5 (by decide) (va_Nw.use rfl (hN.2.2.2.1)) (fun _ h9 => h9) rfl dX3_atMost_5 ?_
  refine lv_aload_n hx hb dX3_atMost_8 rfl (lv_at hl 1 rfl) ?_
  refine va_getN (D := (dC, dI)) (ci := 2) (v := .int (nI x)) (C := RX2) (T := TX2) (N := 11) hx hb hts (by decide +kernel) hown hK hP 6 rfl rfl 6 (by decide) (va_Nw.use rfl (hN.2.2.2.2.1)) (fun _ h9 => h9) rfl dX3_atMost_9 ?_
  refine lv_iload_n hx hb dX3_atMost_12 rfl (lv_at hl 2 rfl) ?_
  have hPc := hP.sub (ws' := [(c0, .inr (0, [.ref s0, .ref t0])), (s0, .inr (1, [.ref sa])), (sa, .inl (cJ, 17, .inr (.inl (fun j => lN (ds j))))), (t0, .inr (1, [.ref ta])), (ta, .inl (cJ, 17, .inr (.inl (fun j => lN (dt j)))))]) [1, 2, 3, 4, 5] rfl
  have hKc := hK.sub (tys' := [(cJ, .long)]) [0] rfl
  have hDc := hD.sub (ws' := [(c0, .inr (0, [.ref s0, .ref t0])), (s0, .inr (1, [.ref sa])), (sa, .inl (cJ, 17, .inr (.inl (fun j => lN (ds j))))), (t0, .inr (1, [.ref ta])), (ta, .inl (cJ, 17, .inr (.inl (fun j => lN (dt j)))))]) [1, 2, 3, 4, 5] (by decide) rfl
  have hFc := va_free (wc := [(c0, .inr (0, [.ref s0, .ref t0])), (s0, .inr (1, [.ref sa])), (sa, .inl (cJ, 17, .inr (.inl (fun j => lN (ds j))))), (t0, .inr (1, [.ref ta])), (ta, .inl (cJ, 17, .inr (.inl (fun j => lN (dt j)))))]) hD hS hA [1, 2, 3, 4, 5] rfl
  refine va_callr (va_runV (As := [.int (nI n), .int (nI x), .int (nI j)]) (rest := []) ⟨hx, hb, hml, hown, hts⟩ (c_cha_upto l dC dI c0 s0 sa t0 ta cJ ds dt n x j zs.heap.size hn48 (by omega) (by omega)) (cwV 3 hts gX3_atMost_X0_upTo rfl rfl rfl (by decide +kernel) ⟨Nat.le_of_ble_eq_true rfl, Nat.le_of_ble_eq_true rfl⟩) (fw_preVW hN hKc hPc hDc (ci := 0) (q0 := 0) rfl rfl) rfl rfl hl.1 rfl (lv_room (Nat.le_of_ble_eq_true rfl)) dX3_atMost_13 ⟨Nat.le_of_ble_eq_true rfl, Nat.le_of_ble_eq_true rfl⟩) hS (fun q _ h => hFc q h) hFc (fun u ra_13 zt H1 locs zht hvm hw hB hz1 hk1 hS => ?_)
  obtain ⟨e1, e2⟩ := u
  obtain ⟨ok_e1, v_e1⟩ := hw
  obtain ⟨era, hP1, hK1, hD1⟩ := hB
  rw [zht] at hP1
  have ok_e1 : pd_ok e1 := ok_e1
  have v_e1 : pd_v e1 17 = pm_G n j n x * 1000 ^ (48 - n) := v_e1
  obtain ⟨hP, hD⟩ := va_join (wr := [(f0, .inr (3, [v0, .ref c0, v2, v3, v4, v5])), (h0, .inr (2, [w0, w1, w2, w3, w4, .int (nI n), .int (nI x), w7, w8, w9, w10]))]) (w1 := [(c0, .inr (0, [.ref s0, .ref t0])), (s0, .inr (1, [.ref sa])), (sa, .inl (cJ, 17, .inr (.inl (fun j => lN (e1 j))))), (t0, .inr (1, [.ref ta])), (ta, .inl (cJ, 17, .inr (.inl (fun j => lN (e2 j)))))]) hP hD [1, 2, 3, 4, 5] [0, 6] rfl rfl (by decide) (by decide) hk1 hFc hP1 hD1
  generalize H1 = H at hP hS ⊢
  have hP : va_P (dC, dI) vwCl [(f0, .inr (3, [v0, .ref c0, v2, v3, v4, v5])), (h0, .inr (2, [w0, w1, w2, w3, w4, .int (nI n), .int (nI x), w7, w8, w9, w10])), (c0, .inr (0, [.ref s0, .ref t0])), (s0, .inr (1, [.ref sa])), (sa, .inl (cJ, 17, .inr (.inl (fun j => lN (e1 j))))), (t0, .inr (1, [.ref ta])), (ta, .inl (cJ, 17, .inr (.inl (fun j => lN (e2 j)))))] H := hP
  have hD : va_D A [(f0, .inr (3, [v0, .ref c0, v2, v3, v4, v5])), (h0, .inr (2, [w0, w1, w2, w3, w4, .int (nI n), .int (nI x), w7, w8, w9, w10])), (c0, .inr (0, [.ref s0, .ref t0])), (s0, .inr (1, [.ref sa])), (sa, .inl (cJ, 17, .inr (.inl (fun j => lN (e1 j))))), (t0, .inr (1, [.ref ta])), (ta, .inl (cJ, 17, .inr (.inl (fun j => lN (e2 j)))))] := hD
  rw [era]
  have hP9 := hP.sub (ws' := [(f0, .inr (3, [v0, .ref c0, v2, v3, v4, v5])), (c0, .inr (0, [.ref s0, .ref t0])), (s0, .inr (1, [.ref sa])), (sa, .inl (cJ, 17, .inr (.inl (fun j => lN (e1 j))))), (t0, .inr (1, [.ref ta])), (ta, .inl (cJ, 17, .inr (.inl (fun j => lN (e2 j))))), (h0, .inr (2, [w0, w1, w2, w3, w4, .int (nI n), .int (nI x), w7, w8, w9, w10]))]) [0, 2, 3, 4, 5, 6, 1] rfl
  have hD9 := hD.sub (ws' := [(f0, .inr (3, [v0, .ref c0, v2, v3, v4, v5])), (c0, .inr (0, [.ref s0, .ref t0])), (s0, .inr (1, [.ref sa])), (sa, .inl (cJ, 17, .inr (.inl (fun j => lN (e1 j))))), (t0, .inr (1, [.ref ta])), (ta, .inl (cJ, 17, .inr (.inl (fun j => lN (e2 j))))), (h0, .inr (2, [w0, w1, w2, w3, w4, .int (nI n), .int (nI x), w7, w8, w9, w10]))]) [0, 2, 3, 4, 5, 6, 1] (by decide) rfl
  have hK9 := hK.sub (tys' := [(cJ, .long)]) [0] rfl
  exact W.aret (v := .ref s0) hx hb hr (Or.inl ⟨_, rfl⟩) (Or.inr ⟨_, rfl⟩) (fun zt zht hW => ⟨⟨(e1, e2), s0, rfl, ⟨ok_e1, v_e1⟩, rfl, by rw [zht]; exact hP9, va_K.moved hW.alike hK9, hD9⟩, hS.F zht⟩) hS.2.2 dX3_atMost_16 hlocks
set_option maxHeartbeats 4000000 in
set_option maxRecDepth 100000 in
theorem c_fla_least (l : Launch) (dC : Nat → ClassId) (dI : Nat → Nat → Nat) (f0 c0 s0 sa t0 ta h0 : Nat) (cJ : ClassId) (v0 v2 v3 v4 v5 w0 w1 w2 w3 w4 w7 w8 w9 w10 : Value) (ds dt : Nat → Nat) (n x j : Nat) (sz : Nat) (hn48 : n ≤ 48) (hxn : x ≤ n) (hj : j ≤ 1000) : Met l yX3_atLeast wsX3_atLeast ({ frames := 2, cells := 0, slots := 0, locals := 51 } : Room) (va_Pc [.ref f0, .ref h0, .int (nI j)] (fw_pW (dC, dI) vwCl [(cJ, .long)] [(f0, .inr (3, [v0, .ref c0, v2, v3, v4, v5])), (c0, .inr (0, [.ref s0, .ref t0])), (s0, .inr (1, [.ref sa])), (sa, .inl (cJ, 17, .inr (.inl (fun j => lN (ds j))))), (t0, .inr (1, [.ref ta])), (ta, .inl (cJ, 17, .inr (.inl (fun j => lN (dt j))))), (h0, .inr (2, [w0, w1, w2, w3, w4, .int (nI n), .int (nI x), w7, w8, w9, w10]))] sz)) (va_Qr (S := (Nat → Nat) × (Nat → Nat)) (fun u => pd_ok u.1 ∧ pd_v u.1 17 = pm_G n (1000 - j) n (n - x) * 1000 ^ (48 - n)) (fun u a t => a = s0 ∧ fw_q (dC, dI) vwCl [(cJ, .long)] (va_A [(f0, .inr (3, [v0, .ref c0, v2, v3, v4, v5])), (c0, .inr (0, [.ref s0, .ref t0])), (s0, .inr (1, [.ref sa])), (sa, .inl (cJ, 17, .inr (.inl (fun j => lN (ds j))))), (t0, .inr (1, [.ref ta])), (ta, .inl (cJ, 17, .inr (.inl (fun j => lN (dt j))))), (h0, .inr (2, [w0, w1, w2, w3, w4, .int (nI n), .int (nI x), w7, w8, w9, w10]))] sz) [(f0, .inr (3, [v0, .ref c0, v2, v3, v4, v5])), (c0, .inr (0, [.ref s0, .ref t0])), (s0, .inr (1, [.ref sa])), (sa, .inl (cJ, 17, .inr (.inl (fun j => lN (u.1 j))))), (t0, .inr (1, [.ref ta])), (ta, .inl (cJ, 17, .inr (.inl (fun j => lN (u.2 j))))), (h0, .inr (2, [w0, w1, w2, w3, w4, .int (nI n), .int (nI x), w7, w8, w9, w10]))] t) (va_A [(f0, .inr (3, [v0, .ref c0, v2, v3, v4, v5])), (c0, .inr (0, [.ref s0, .ref t0])), (s0, .inr (1, [.ref sa])), (sa, .inl (cJ, 17, .inr (.inl (fun j => lN (ds j))))), (t0, .inr (1, [.ref ta])), (ta, .inl (cJ, 17, .inr (.inl (fun j => lN (dt j))))), (h0, .inr (2, [w0, w1, w2, w3, w4, .int (nI n), .int (nI x), w7, w8, w9, w10]))] sz)) 0 0 (va_A [(f0, .inr (3, [v0, .ref c0, v2, v3, v4, v5])), (c0, .inr (0, [.ref s0, .ref t0])), (s0, .inr (1, [.ref sa])), (sa, .inl (cJ, 17, .inr (.inl (fun j => lN (ds j))))), (t0, .inr (1, [.ref ta])), (ta, .inl (cJ, 17, .inr (.inl (fun j => lN (dt j))))), (h0, .inr (2, [w0, w1, w2, w3, w4, .int (nI n), .int (nI x), w7, w8, w9, w10]))] sz) := by
  refine fw_metW (cc := cX3_atLeast) (maxL := 4) (ret := (some (.object "FlakyBounds$Decimal"))) (by decide) rfl (Nat.le_of_ble_eq_true rfl) ?_
  intro zp ze zs zm zbelow zmeth zc ls hx hb hr hts hown hlocks hml hin hN hsz hP hK hD hA hS hl
  generalize hAe : (va_A [(f0, .inr (3, [v0, .ref c0, v2, v3, v4, v5])), (c0, .inr (0, [.ref s0, .ref t0])), (s0, .inr (1, [.ref sa])), (sa, .inl (cJ, 17, .inr (.inl (fun j => lN (ds j))))), (t0, .inr (1, [.ref ta])), (ta, .inl (cJ, 17, .inr (.inl (fun j => lN (dt j))))), (h0, .inr (2, [w0, w1, w2, w3, w4, .int (nI n), .int (nI x), w7, w8, w9, w10]))] sz) = A at hD hA hS ⊢
  have hown : zs.vm.findClass RX3 = some zm.cls := hown
  have hl : lv_has ls 4 [(0, .ref f0), (1, .ref h0), (2, .int (nI j))] := hl
  refine lv_aload_n hx hb dX3_atLeast_0 rfl (lv_at hl 1 rfl) ?_
  refine va_getN (D := (dC, dI)) (ci := 2) (v := .int (nI n)) (C := RX2) (T := TX2) (N := 11) hx hb hts (by decide +kernel) hown hK hP 6 rfl rfl 5 (by decide) (va_Nw.use rfl (hN.2.2.2.1)) (fun _ h9 => h9) rfl dX3_atLeast_1 ?_
  refine lv_aload_n hx hb dX3_atLeast_4 rfl (lv_at hl 1 rfl) ?_
  refine va_getN (D := (dC, dI)) (ci := 2) (v := .int (nI x)) (C := RX2) (T := TX2) (N := 11) hx hb hts (by decide +kernel) hown hK hP 6 rfl rfl 6 (by decide) (va_Nw.use rfl (hN.2.2.2.2.1)) (fun _ h9 => h9) rfl dX3_atLeast_5 ?_
  refine lv_isub hx hb dX3_atLeast_8 ?_
  refine fw_i (x' := nI (n - x)) (pk_sub hxn) ?_
  refine lv_istore_n (lv' := [(3, .int (nI (n - x))), (0, .ref f0), (1, .ref h0), (2, .int (nI j))]) hx hb dX3_atLeast_9 rfl hl (by decide) rfl (fun ls hl => ?_)
  refine lv_aload_n hx hb dX3_atLeast_10 rfl (lv_at hl 1 rfl) ?_
  refine va_get (D := (dC, dI)) (ci := 3) (v := .ref c0) (C := RX3) (T := TX3) (N := 6) hx hb hts (by decide +kernel) hown hK hP 0 rfl rfl 1 (by decide) (hts (.fieldLink RX3 18 "FlakyBounds" "chance" "LFlakyBounds$Chance;") (by decide +kernel)) (fun _ h9 => h9) rfl dX3_atLeast_11 ?_
  refine lv_aload_n hx hb dX3_atLeast_14 rfl (lv_at hl 2 rfl) ?_
  refine va_getN (D := (dC, dI)) (ci := 2) (v := .int (nI n)) (C := RX2) (T := TX2) (N := 11) hx hb hts (by decide +kernel) hown hK hP 6 rfl rfl 5 (by decide) (va_Nw.use rfl (hN.2.2.2.1)) (fun _ h9 => h9) rfl dX3_atLeast_15 ?_
  refine lv_iload_n hx hb dX3_atLeast_18 rfl (lv_at hl 0 rfl) ?_
  refine lv_sipush (v := 1000) hx hb dX3_atLeast_19 (by decide) ?_
  refine lv_iload_n hx hb dX3_atLeast_22 rfl (lv_at hl 3 rfl) ?_
  refine lv_isub hx hb dX3_atLeast_23 ?_
  refine fw_i (x' := nI (1000 - j)) (pk_sub (a := 1000) hj) ?_
  have hPc := hP.sub (ws' := [(c0, .inr (0, [.ref s0, .ref t0])), (s0, .inr (1, [.ref sa])), (sa, .inl (cJ, 17, .inr (.inl (fun j => lN (ds j))))), (t0, .inr (1, [.ref ta])), (ta, .inl (cJ, 17, .inr (.inl (fun j => lN (dt j)))))]) [1, 2, 3, 4, 5] rfl
  have hKc := hK.sub (tys' := [(cJ, .long)]) [0] rfl
  have hDc := hD.sub (ws' := [(c0, .inr (0, [.ref s0, .ref t0])), (s0, .inr (1, [.ref sa])), (sa, .inl (cJ, 17, .inr (.inl (fun j => lN (ds j))))), (t0, .inr (1, [.ref ta])), (ta, .inl (cJ, 17, .inr (.inl (fun j => lN (dt j)))))]) [1, 2, 3, 4, 5] (by decide) rfl
  have hFc := va_free (wc := [(c0, .inr (0, [.ref s0, .ref t0])), (s0, .inr (1, [.ref sa])), (sa, .inl (cJ, 17, .inr (.inl (fun j => lN (ds j))))), (t0, .inr (1, [.ref ta])), (ta, .inl (cJ, 17, .inr (.inl (fun j => lN (dt j)))))]) hD hS hA [1, 2, 3, 4, 5] rfl
  refine va_callr (va_runV (As := [.int (nI n), .int (nI (n - x)), .int (nI (1000 - j))]) (rest := []) ⟨hx, hb, hml, hown, hts⟩ (c_cha_upto l dC dI c0 s0 sa t0 ta cJ ds dt n (n - x) (1000 - j) zs.heap.size hn48 (by omega) (by omega)) (cwV 3 hts gX3_atLeast_X0_upTo rfl rfl rfl (by decide +kernel) ⟨Nat.le_of_ble_eq_true rfl, Nat.le_of_ble_eq_true rfl⟩) (fw_preVW hN hKc hPc hDc (ci := 0) (q0 := 0) rfl rfl) rfl rfl hl.1 rfl (lv_room (Nat.le_of_ble_eq_true rfl)) dX3_atLeast_24 ⟨Nat.le_of_ble_eq_true rfl, Nat.le_of_ble_eq_true rfl⟩) hS (fun q _ h => hFc q h) hFc (fun u ra_24 zt H1 locs zht hvm hw hB hz1 hk1 hS => ?_)
  obtain ⟨e1, e2⟩ := u
  obtain ⟨ok_e1, v_e1⟩ := hw
  obtain ⟨era, hP1, hK1, hD1⟩ := hB
  rw [zht] at hP1
  have ok_e1 : pd_ok e1 := ok_e1
  have v_e1 : pd_v e1 17 = pm_G n (1000 - j) n (n - x) * 1000 ^ (48 - n) := v_e1
  obtain ⟨hP, hD⟩ := va_join (wr := [(f0, .inr (3, [v0, .ref c0, v2, v3, v4, v5])), (h0, .inr (2, [w0, w1, w2, w3, w4, .int (nI n), .int (nI x), w7, w8, w9, w10]))]) (w1 := [(c0, .inr (0, [.ref s0, .ref t0])), (s0, .inr (1, [.ref sa])), (sa, .inl (cJ, 17, .inr (.inl (fun j => lN (e1 j))))), (t0, .inr (1, [.ref ta])), (ta, .inl (cJ, 17, .inr (.inl (fun j => lN (e2 j)))))]) hP hD [1, 2, 3, 4, 5] [0, 6] rfl rfl (by decide) (by decide) hk1 hFc hP1 hD1
  generalize H1 = H at hP hS ⊢
  have hP : va_P (dC, dI) vwCl [(f0, .inr (3, [v0, .ref c0, v2, v3, v4, v5])), (h0, .inr (2, [w0, w1, w2, w3, w4, .int (nI n), .int (nI x), w7, w8, w9, w10])), (c0, .inr (0, [.ref s0, .ref t0])), (s0, .inr (1, [.ref sa])), (sa, .inl (cJ, 17, .inr (.inl (fun j => lN (e1 j))))), (t0, .inr (1, [.ref ta])), (ta, .inl (cJ, 17, .inr (.inl (fun j => lN (e2 j)))))] H := hP
  have hD : va_D A [(f0, .inr (3, [v0, .ref c0, v2, v3, v4, v5])), (h0, .inr (2, [w0, w1, w2, w3, w4, .int (nI n), .int (nI x), w7, w8, w9, w10])), (c0, .inr (0, [.ref s0, .ref t0])), (s0, .inr (1, [.ref sa])), (sa, .inl (cJ, 17, .inr (.inl (fun j => lN (e1 j))))), (t0, .inr (1, [.ref ta])), (ta, .inl (cJ, 17, .inr (.inl (fun j => lN (e2 j)))))] := hD
  rw [era]
  have hP9 := hP.sub (ws' := [(f0, .inr (3, [v0, .ref c0, v2, v3, v4, v5])), (c0, .inr (0, [.ref s0, .ref t0])), (s0, .inr (1, [.ref sa])), (sa, .inl (cJ, 17, .inr (.inl (fun j => lN (e1 j))))), (t0, .inr (1, [.ref ta])), (ta, .inl (cJ, 17, .inr (.inl (fun j => lN (e2 j))))), (h0, .inr (2, [w0, w1, w2, w3, w4, .int (nI n), .int (nI x), w7, w8, w9, w10]))]) [0, 2, 3, 4, 5, 6, 1] rfl
  have hD9 := hD.sub (ws' := [(f0, .inr (3, [v0, .ref c0, v2, v3, v4, v5])), (c0, .inr (0, [.ref s0, .ref t0])), (s0, .inr (1, [.ref sa])), (sa, .inl (cJ, 17, .inr (.inl (fun j => lN (e1 j))))), (t0, .inr (1, [.ref ta])), (ta, .inl (cJ, 17, .inr (.inl (fun j => lN (e2 j))))), (h0, .inr (2, [w0, w1, w2, w3, w4, .int (nI n), .int (nI x), w7, w8, w9, w10]))]) [0, 2, 3, 4, 5, 6, 1] (by decide) rfl
  have hK9 := hK.sub (tys' := [(cJ, .long)]) [0] rfl
  exact W.aret (v := .ref s0) hx hb hr (Or.inl ⟨_, rfl⟩) (Or.inr ⟨_, rfl⟩) (fun zt zht hW => ⟨⟨(e1, e2), s0, rfl, ⟨ok_e1, v_e1⟩, rfl, by rw [zht]; exact hP9, va_K.moved hW.alike hK9, hD9⟩, hS.F zht⟩) hS.2.2 dX3_atLeast_27 hlocks
set_option maxHeartbeats 4000000 in
set_option maxRecDepth 100000 in
theorem c_fla_great (l : Launch) (dC : Nat → ClassId) (dI : Nat → Nat → Nat) (f0 c0 s0 sa t0 ta : Nat) (cJ : ClassId) (v0 v2 v3 v4 v5 : Value) (ds dt : Nat → Nat) (n m lv : Nat) (sz : Nat) (hn48 : n ≤ 48) (hmn : m ≤ n) (hlv : lv ≤ 999) : Met l yX3_greatestAbove wsX3_greatestAbove ({ frames := 2, cells := 0, slots := 0, locals := 51 } : Room) (va_Pc [.ref f0, .int (nI n), .int (nI m), .int (nI lv)] (fw_pW (dC, dI) vwCl [(cJ, .long)] [(f0, .inr (3, [v0, .ref c0, v2, v3, v4, v5])), (c0, .inr (0, [.ref s0, .ref t0])), (s0, .inr (1, [.ref sa])), (sa, .inl (cJ, 17, .inr (.inl (fun j => lN (ds j))))), (t0, .inr (1, [.ref ta])), (ta, .inl (cJ, 17, .inr (.inl (fun j => lN (dt j)))))] sz)) (va_Qi (S := (Nat → Nat) × (Nat → Nat)) (fun r _ => ∃ J : Nat, r = nI J ∧ gv_is n m lv J) (fun u t => fw_q (dC, dI) vwCl [(cJ, .long)] (va_A [(f0, .inr (3, [v0, .ref c0, v2, v3, v4, v5])), (c0, .inr (0, [.ref s0, .ref t0])), (s0, .inr (1, [.ref sa])), (sa, .inl (cJ, 17, .inr (.inl (fun j => lN (ds j))))), (t0, .inr (1, [.ref ta])), (ta, .inl (cJ, 17, .inr (.inl (fun j => lN (dt j)))))] sz) [(f0, .inr (3, [v0, .ref c0, v2, v3, v4, v5])), (c0, .inr (0, [.ref s0, .ref t0])), (s0, .inr (1, [.ref sa])), (sa, .inl (cJ, 17, .inr (.inl (fun j => lN (u.1 j))))), (t0, .inr (1, [.ref ta])), (ta, .inl (cJ, 17, .inr (.inl (fun j => lN (u.2 j)))))] t) (va_A [(f0, .inr (3, [v0, .ref c0, v2, v3, v4, v5])), (c0, .inr (0, [.ref s0, .ref t0])), (s0, .inr (1, [.ref sa])), (sa, .inl (cJ, 17, .inr (.inl (fun j => lN (ds j))))), (t0, .inr (1, [.ref ta])), (ta, .inl (cJ, 17, .inr (.inl (fun j => lN (dt j)))))] sz)) 0 0 (va_A [(f0, .inr (3, [v0, .ref c0, v2, v3, v4, v5])), (c0, .inr (0, [.ref s0, .ref t0])), (s0, .inr (1, [.ref sa])), (sa, .inl (cJ, 17, .inr (.inl (fun j => lN (ds j))))), (t0, .inr (1, [.ref ta])), (ta, .inl (cJ, 17, .inr (.inl (fun j => lN (dt j)))))] sz) := by
  refine fw_metW (cc := cX3_greatestAbove) (maxL := 6) (ret := (some .int)) (by decide) rfl (Nat.le_of_ble_eq_true rfl) ?_
  intro zp ze zs zm zbelow zmeth zc ls hx hb hr hts hown hlocks hml hin hN hsz hP hK hD hA hS hl
  generalize hAe : (va_A [(f0, .inr (3, [v0, .ref c0, v2, v3, v4, v5])), (c0, .inr (0, [.ref s0, .ref t0])), (s0, .inr (1, [.ref sa])), (sa, .inl (cJ, 17, .inr (.inl (fun j => lN (ds j))))), (t0, .inr (1, [.ref ta])), (ta, .inl (cJ, 17, .inr (.inl (fun j => lN (dt j)))))] sz) = A at hD hA hS ⊢
  have hown : zs.vm.findClass RX3 = some zm.cls := hown
  have hl : lv_has ls 6 [(0, .ref f0), (1, .int (nI n)), (2, .int (nI m)), (3, .int (nI lv))] := hl
  refine lv_iconst (v := 0) hx hb dX3_greatestAbove_0 (by decide) ?_
  refine lv_istore (lv' := [(4, .int 0), (0, .ref f0), (1, .int (nI n)), (2, .int (nI m)), (3, .int (nI lv))]) hx hb dX3_greatestAbove_1 hl (by decide) rfl (fun ls hl => ?_)
  refine lv_sipush (v := 512) hx hb dX3_greatestAbove_3 (by decide) ?_
  refine lv_istore (lv' := [(5, .int 512), (4, .int 0), (0, .ref f0), (1, .int (nI n)), (2, .int (nI m)), (3, .int (nI lv))]) hx hb dX3_greatestAbove_6 hl (by decide) rfl (fun ls hl => ?_)
  refine fw_loop (σ := Nat × Nat × (Nat → Nat) × (Nat → Nat)) (I := fun zn u H locs ls => match u with | (p, j, d1, d2) => zn = p ∧ (p ≤ 10) ∧ (j ≤ 1000) ∧ (pv_above n m j lv = true) ∧ (∀ i, j + 2 ^ p ≤ i → i ≤ 1000 → pv_above n m i lv = false) ∧ va_P (dC, dI) vwCl [(f0, .inr (3, [v0, .ref c0, v2, v3, v4, v5])), (c0, .inr (0, [.ref s0, .ref t0])), (s0, .inr (1, [.ref sa])), (sa, .inl (cJ, 17, .inr (.inl (fun j => lN (d1 j))))), (t0, .inr (1, [.ref ta])), (ta, .inl (cJ, 17, .inr (.inl (fun j => lN (d2 j)))))] H ∧ va_D A [(f0, .inr (3, [v0, .ref c0, v2, v3, v4, v5])), (c0, .inr (0, [.ref s0, .ref t0])), (s0, .inr (1, [.ref sa])), (sa, .inl (cJ, 17, .inr (.inl (fun j => lN (d1 j))))), (t0, .inr (1, [.ref ta])), (ta, .inl (cJ, 17, .inr (.inl (fun j => lN (d2 j)))))] ∧ va_S A zs.heap H locs ∧ lv_has ls 6 [(0, .ref f0), (1, .int (nI n)), (2, .int (nI m)), (3, .int (nI lv)), (4, .int (nI j)), (5, .int (nI (2 ^ p / 2)))]) ?_ _ (10, 0, ds, dt) _ _ _ ⟨rfl, by omega, by omega, pv_above_0 hlv, fun i h1 h2 => by omega,  hP.sub [0, 1, 2, 3, 4, 5] rfl, hD.sub [0, 1, 2, 3, 4, 5] (by decide) rfl, hS, lv_sub hl [2, 3, 4, 5, 1, 0] rfl⟩
  intro zn u H locs ls hI ih_8
  obtain ⟨p, j, d1, d2⟩ := u
  obtain ⟨hzn, hp, hj, ha, hb_, hP, hD, hS, hl⟩ := hI
  refine lv_iload hx hb dX3_greatestAbove_8 (lv_at hl 5 rfl) ?_
  refine lv_if_le (tgt := 61) hx hb dX3_greatestAbove_10 (by decide) (fun c_10 => ?_) (fun c_10 => ?_)
  · -- then 10
    have hp0 : p = 0 := by
      rcases Nat.eq_zero_or_pos p with q9 | q9
      · exact q9
      · obtain ⟨q, rfl⟩ : ∃ q, p = q + 1 := ⟨p - 1, by omega⟩
        rw [gv_half] at c_10
        have h1 : 0 < 2 ^ q := Nat.pow_pos (by decide)
        have h2 : 2 ^ q ≤ 2 ^ 9 := Nat.pow_le_pow_right (by decide) (by omega)
        exact absurd c_10 (nI_nle h1 (by omega))
    subst hp0
    refine lv_iload hx hb dX3_greatestAbove_61 (lv_at hl 4 rfl) ?_
    have hP9 := hP.sub (ws' := [(f0, .inr (3, [v0, .ref c0, v2, v3, v4, v5])), (c0, .inr (0, [.ref s0, .ref t0])), (s0, .inr (1, [.ref sa])), (sa, .inl (cJ, 17, .inr (.inl (fun j => lN (d1 j))))), (t0, .inr (1, [.ref ta])), (ta, .inl (cJ, 17, .inr (.inl (fun j => lN (d2 j)))))]) [0, 1, 2, 3, 4, 5] rfl
    have hD9 := hD.sub (ws' := [(f0, .inr (3, [v0, .ref c0, v2, v3, v4, v5])), (c0, .inr (0, [.ref s0, .ref t0])), (s0, .inr (1, [.ref sa])), (sa, .inl (cJ, 17, .inr (.inl (fun j => lN (d1 j))))), (t0, .inr (1, [.ref ta])), (ta, .inl (cJ, 17, .inr (.inl (fun j => lN (d2 j)))))]) [0, 1, 2, 3, 4, 5] (by decide) rfl
    have hK9 := hK.sub (tys' := [(cJ, .long)]) [0] rfl
    exact W.iret (v := (nI j)) hx hb hr (fun zt zht hW => ⟨⟨(nI j), (d1, d2), rfl, ⟨j, rfl, gv_end hj ha hb_⟩, by rw [zht]; exact hP9, va_K.moved hW.alike hK9, hD9⟩, hS.F zht⟩) hS.2.2 dX3_greatestAbove_63 hlocks
  · -- else 10
    obtain ⟨q, rfl⟩ : ∃ q, p = q + 1 := by
      rcases Nat.eq_zero_or_pos p with q9 | q9
      · subst q9
        exact absurd (by decide) c_10
      · exact ⟨p - 1, by omega⟩
    rw [gv_half] at hl
    have h2q : 2 ^ (q + 1) = 2 ^ q + 2 ^ q := by rw [Nat.pow_succ]; omega
    have hq9 : 2 ^ q ≤ 2 ^ 9 := Nat.pow_le_pow_right (by decide) (by omega)
    refine lv_iload hx hb dX3_greatestAbove_13 (lv_at hl 4 rfl) ?_
    refine lv_iload hx hb dX3_greatestAbove_15 (lv_at hl 5 rfl) ?_
    refine lv_iadd hx hb dX3_greatestAbove_17 ?_
    refine fw_i (x' := nI (j + 2 ^ q)) (nI_add _ _) ?_
    refine lv_sipush (v := 1000) hx hb dX3_greatestAbove_18 (by decide) ?_
    refine lv_icmp_gt (tgt := 52) hx hb dX3_greatestAbove_21 (by decide) (fun c_21 => ?_) (fun c_21 => ?_)
    · -- then 21
      have h21 : 1000 < j + 2 ^ q := (nI_ltI (a := 1000) (b := j + 2 ^ q) (by decide) (by omega)).mp c_21
      refine lv_iload hx hb dX3_greatestAbove_52 (lv_at hl 5 rfl) ?_
      refine lv_iconst (v := 2) hx hb dX3_greatestAbove_54 (by decide) ?_
      refine lv_idiv hx hb dX3_greatestAbove_55 (by decide) ?_
      refine fw_i (x' := nI (2 ^ q / 2)) (pk_div (d := 2) (by omega) (by decide) (by decide)) ?_
      refine lv_istore (lv' := [(5, .int (nI (2 ^ q / 2))), (0, .ref f0), (1, .int (nI n)), (2, .int (nI m)), (3, .int (nI lv)), (4, .int (nI j))]) hx hb dX3_greatestAbove_56 hl (by decide) rfl (fun ls hl => ?_)
      refine lv_goto (tgt := 8) hx hb dX3_greatestAbove_58 (by decide) ?_
      exact ih_8 _ (q, j, d1, d2) _ _ _ (by omega) ⟨rfl, by omega, hj, ha, fun i h1 h2 => absurd h21 (by omega), hP.sub [0, 1, 2, 3, 4, 5] rfl, hD.sub [0, 1, 2, 3, 4, 5] (by decide) rfl, hS, lv_sub hl [1, 2, 3, 4, 5, 0] rfl⟩
    · -- else 21
      have h21 : j + 2 ^ q ≤ 1000 := by
        rcases Nat.lt_or_ge 1000 (j + 2 ^ q) with q9 | q9
        · exact absurd (nI_lt (a := 1000) (b := j + 2 ^ q) q9 (by omega)) c_21
        · exact q9
      refine lv_aload_n hx hb dX3_greatestAbove_24 rfl (lv_at hl 0 rfl) ?_
      refine va_get (D := (dC, dI)) (ci := 3) (v := .ref c0) (C := RX3) (T := TX3) (N := 6) hx hb hts (by decide +kernel) hown hK hP 0 rfl rfl 1 (by decide) (hts (.fieldLink RX3 18 "FlakyBounds" "chance" "LFlakyBounds$Chance;") (by decide +kernel)) (fun _ h9 => h9) rfl dX3_greatestAbove_25 ?_
      refine lv_iload_n hx hb dX3_greatestAbove_28 rfl (lv_at hl 1 rfl) ?_
      refine lv_iload_n hx hb dX3_greatestAbove_29 rfl (lv_at hl 2 rfl) ?_
      refine lv_iload hx hb dX3_greatestAbove_30 (lv_at hl 4 rfl) ?_
      refine lv_iload hx hb dX3_greatestAbove_32 (lv_at hl 5 rfl) ?_
      refine lv_iadd hx hb dX3_greatestAbove_34 ?_
      refine fw_i (x' := nI (j + 2 ^ q)) (nI_add _ _) ?_
      have hPc := hP.sub (ws' := [(c0, .inr (0, [.ref s0, .ref t0])), (s0, .inr (1, [.ref sa])), (sa, .inl (cJ, 17, .inr (.inl (fun j => lN (d1 j))))), (t0, .inr (1, [.ref ta])), (ta, .inl (cJ, 17, .inr (.inl (fun j => lN (d2 j)))))]) [1, 2, 3, 4, 5] rfl
      have hKc := hK.sub (tys' := [(cJ, .long)]) [0] rfl
      have hDc := hD.sub (ws' := [(c0, .inr (0, [.ref s0, .ref t0])), (s0, .inr (1, [.ref sa])), (sa, .inl (cJ, 17, .inr (.inl (fun j => lN (d1 j))))), (t0, .inr (1, [.ref ta])), (ta, .inl (cJ, 17, .inr (.inl (fun j => lN (d2 j)))))]) [1, 2, 3, 4, 5] (by decide) rfl
      have hFc := va_free (wc := [(c0, .inr (0, [.ref s0, .ref t0])), (s0, .inr (1, [.ref sa])), (sa, .inl (cJ, 17, .inr (.inl (fun j => lN (d1 j))))), (t0, .inr (1, [.ref ta])), (ta, .inl (cJ, 17, .inr (.inl (fun j => lN (d2 j)))))]) hD hS hA [1, 2, 3, 4, 5] rfl
      refine va_callr (va_runV (As := [.int (nI n), .int (nI m), .int (nI (j + 2 ^ q))]) (rest := []) ⟨hx, hb, hml, hown, hts⟩ (c_cha_upto l dC dI c0 s0 sa t0 ta cJ d1 d2 n m (j + 2 ^ q) H.size hn48 hmn (by omega)) (cwV 3 hts gX3_greatestAbove_X0_upTo rfl rfl rfl (by decide +kernel) ⟨Nat.le_of_ble_eq_true rfl, Nat.le_of_ble_eq_true rfl⟩) (fw_preVW hN hKc hPc hDc (ci := 0) (q0 := 0) rfl rfl) rfl rfl hl.1 rfl (lv_room (Nat.le_of_ble_eq_true rfl)) dX3_greatestAbove_35 ⟨Nat.le_of_ble_eq_true rfl, Nat.le_of_ble_eq_true rfl⟩) hS (fun q _ h => hFc q h) hFc (fun u ra_35 zt H1 locs zht hvm hw hB hz1 hk1 hS => ?_)
      obtain ⟨e1, e2⟩ := u
      obtain ⟨ok_e1, v_e1⟩ := hw
      obtain ⟨era, hP1, hK1, hD1⟩ := hB
      rw [zht] at hP1
      have ok_e1 : pd_ok e1 := ok_e1
      have v_e1 : pd_v e1 17 = pm_G n (j + 2 ^ q) n m * 1000 ^ (48 - n) := v_e1
      obtain ⟨hP, hD⟩ := va_join (wr := [(f0, .inr (3, [v0, .ref c0, v2, v3, v4, v5]))]) (w1 := [(c0, .inr (0, [.ref s0, .ref t0])), (s0, .inr (1, [.ref sa])), (sa, .inl (cJ, 17, .inr (.inl (fun j => lN (e1 j))))), (t0, .inr (1, [.ref ta])), (ta, .inl (cJ, 17, .inr (.inl (fun j => lN (e2 j)))))]) hP hD [1, 2, 3, 4, 5] [0] rfl rfl (by decide) (by decide) hk1 hFc hP1 hD1
      generalize H1 = H at hP hS ⊢
      have hP : va_P (dC, dI) vwCl [(f0, .inr (3, [v0, .ref c0, v2, v3, v4, v5])), (c0, .inr (0, [.ref s0, .ref t0])), (s0, .inr (1, [.ref sa])), (sa, .inl (cJ, 17, .inr (.inl (fun j => lN (e1 j))))), (t0, .inr (1, [.ref ta])), (ta, .inl (cJ, 17, .inr (.inl (fun j => lN (e2 j)))))] H := hP
      have hD : va_D A [(f0, .inr (3, [v0, .ref c0, v2, v3, v4, v5])), (c0, .inr (0, [.ref s0, .ref t0])), (s0, .inr (1, [.ref sa])), (sa, .inl (cJ, 17, .inr (.inl (fun j => lN (e1 j))))), (t0, .inr (1, [.ref ta])), (ta, .inl (cJ, 17, .inr (.inl (fun j => lN (e2 j)))))] := hD
      rw [era]
      refine lv_iload_n hx hb dX3_greatestAbove_38 rfl (lv_at hl 3 rfl) ?_
      have hPc := hP.sub (ws' := [(s0, .inr (1, [.ref sa])), (sa, .inl (cJ, 17, .inr (.inl (fun j => lN (e1 j)))))]) [2, 3] rfl
      have hKc := hK.sub (tys' := [(cJ, .long)]) [0] rfl
      refine vp_callSi (va_runV (As := [.int (nI lv)]) (rest := []) ⟨hx, hb, hml, hown, hts⟩ (c_dec_above l dC dI s0 sa cJ e1 lv ok_e1 hlv) (cwV 1 hts gX3_greatestAbove_X1_isAbove rfl rfl rfl (by decide +kernel) ⟨Nat.le_of_ble_eq_true rfl, Nat.le_of_ble_eq_true rfl⟩) (fw_preVR hN hKc hPc (ci := 1) (q0 := 0) rfl rfl) rfl rfl hl.1 rfl (lv_room (Nat.le_of_ble_eq_true rfl)) dX3_greatestAbove_39 ⟨Nat.le_of_ble_eq_true rfl, Nat.le_of_ble_eq_true rfl⟩).run (fun r_39 hr_39 => ?_)
      obtain rfl : r_39 = zI (pv_above n m (j + 2 ^ q) lv) := by rw [hr_39, pv_above_v hn48 v_e1]
      refine lv_if_eq (tgt := 52) hx hb dX3_greatestAbove_42 (by decide) (fun c_42 => ?_) (fun c_42 => ?_)
      · -- then 42
        have h42 := zI_eq0.mp c_42
        refine lv_iload hx hb dX3_greatestAbove_52 (lv_at hl 5 rfl) ?_
        refine lv_iconst (v := 2) hx hb dX3_greatestAbove_54 (by decide) ?_
        refine lv_idiv hx hb dX3_greatestAbove_55 (by decide) ?_
        refine fw_i (x' := nI (2 ^ q / 2)) (pk_div (d := 2) (by omega) (by decide) (by decide)) ?_
        refine lv_istore (lv' := [(5, .int (nI (2 ^ q / 2))), (0, .ref f0), (1, .int (nI n)), (2, .int (nI m)), (3, .int (nI lv)), (4, .int (nI j))]) hx hb dX3_greatestAbove_56 hl (by decide) rfl (fun ls hl => ?_)
        refine lv_goto (tgt := 8) hx hb dX3_greatestAbove_58 (by decide) ?_
        exact ih_8 _ (q, j, e1, e2) _ _ _ (by omega) ⟨rfl, by omega, hj, ha, fun i h1 h2 => gv_no (by omega) h42 h1 h2, hP.sub [0, 1, 2, 3, 4, 5] rfl, hD.sub [0, 1, 2, 3, 4, 5] (by decide) rfl, hS, lv_sub hl [1, 2, 3, 4, 5, 0] rfl⟩
      · -- else 42
        have h42 := zI_ne0.mp c_42
        refine lv_iload hx hb dX3_greatestAbove_45 (lv_at hl 4 rfl) ?_
        refine lv_iload hx hb dX3_greatestAbove_47 (lv_at hl 5 rfl) ?_
        refine lv_iadd hx hb dX3_greatestAbove_49 ?_
        refine fw_i (x' := nI (j + 2 ^ q)) (nI_add _ _) ?_
        refine lv_istore (lv' := [(4, .int (nI (j + 2 ^ q))), (0, .ref f0), (1, .int (nI n)), (2, .int (nI m)), (3, .int (nI lv)), (5, .int (nI (2 ^ q)))]) hx hb dX3_greatestAbove_50 hl (by decide) rfl (fun ls hl => ?_)
        refine lv_iload hx hb dX3_greatestAbove_52 (lv_at hl 5 rfl) ?_
        refine lv_iconst (v := 2) hx hb dX3_greatestAbove_54 (by decide) ?_
        refine lv_idiv hx hb dX3_greatestAbove_55 (by decide) ?_
        refine fw_i (x' := nI (2 ^ q / 2)) (pk_div (d := 2) (by omega) (by decide) (by decide)) ?_
        refine lv_istore (lv' := [(5, .int (nI (2 ^ q / 2))), (4, .int (nI (j + 2 ^ q))), (0, .ref f0), (1, .int (nI n)), (2, .int (nI m)), (3, .int (nI lv))]) hx hb dX3_greatestAbove_56 hl (by decide) rfl (fun ls hl => ?_)
        refine lv_goto (tgt := 8) hx hb dX3_greatestAbove_58 (by decide) ?_
        exact ih_8 _ (q, j + 2 ^ q, e1, e2) _ _ _ (by omega) ⟨rfl, by omega, by omega, h42, fun i h1 h2 => hb_ i (by omega) h2, hP.sub [0, 1, 2, 3, 4, 5] rfl, hD.sub [0, 1, 2, 3, 4, 5] (by decide) rfl, hS, lv_sub hl [2, 3, 4, 5, 1, 0] rfl⟩
set_option maxHeartbeats 4000000 in
set_option maxRecDepth 100000 in
theorem c_fla_take (l : Launch) (dC : Nat → ClassId) (dI : Nat → Nat → Nat) (f0 c0 s0 sa t0 ta h0 ea pa : Nat) (cJ cI cZ : ClassId) (v0 v2 : Value) (lv mr cr : Nat) (ds dt : Nat → Nat) (s o : Nat) (x4 x5 x6 : Int32) (mk : Bool) (tm : Nat) (v9 v10 : Value) (e : Nat → Int32) (b : Nat → Bool) (x : Int32) (q : Bool) (sz : Nat) (hlv : lv ≤ 999) (hmr : mr ≤ 1000) (hcr : cr ≤ 1000) (hs : s ≤ 48) (ho : o < 48) : Met l yX3_take wsX3_take ({ frames := 3, cells := 0, slots := 0, locals := 74 } : Room) (va_Pc [.ref f0, .ref h0, .int x, .int (zI q)] (fw_pW (dC, dI) vwCl [(cJ, .long), (cI, .int), (cZ, .boolean)] [(f0, .inr (3, [v0, .ref c0, v2, .int (nI lv), .int (nI mr), .int (nI cr)])), (c0, .inr (0, [.ref s0, .ref t0])), (s0, .inr (1, [.ref sa])), (sa, .inl (cJ, 17, .inr (.inl (fun j => lN (ds j))))), (t0, .inr (1, [.ref ta])), (ta, .inl (cJ, 17, .inr (.inl (fun j => lN (dt j))))), (h0, .inr (2, [.ref ea, .ref pa, .int (nI s), .int (nI o), .int x4, .int x5, .int x6, .int (zI mk), .int (nI tm), v9, v10])), (ea, .inl (cI, 48, .inl (e))), (pa, .inl (cZ, 48, .inl (fun j => zI (b j))))] sz)) (va_Qv (S := (Nat → Nat) × (Nat → Nat)) (fun _ => True) (fun u t => fw_q (dC, dI) vwCl [(cJ, .long), (cI, .int), (cZ, .boolean)] (va_A [(f0, .inr (3, [v0, .ref c0, v2, .int (nI lv), .int (nI mr), .int (nI cr)])), (c0, .inr (0, [.ref s0, .ref t0])), (s0, .inr (1, [.ref sa])), (sa, .inl (cJ, 17, .inr (.inl (fun j => lN (ds j))))), (t0, .inr (1, [.ref ta])), (ta, .inl (cJ, 17, .inr (.inl (fun j => lN (dt j))))), (h0, .inr (2, [.ref ea, .ref pa, .int (nI s), .int (nI o), .int x4, .int x5, .int x6, .int (zI mk), .int (nI tm), v9, v10])), (ea, .inl (cI, 48, .inl (e))), (pa, .inl (cZ, 48, .inl (fun j => zI (b j))))] sz) [(f0, .inr (3, [v0, .ref c0, v2, .int (nI lv), .int (nI mr), .int (nI cr)])), (c0, .inr (0, [.ref s0, .ref t0])), (s0, .inr (1, [.ref sa])), (sa, .inl (cJ, 17, .inr (.inl (fun j => lN (u.1 j))))), (t0, .inr (1, [.ref ta])), (ta, .inl (cJ, 17, .inr (.inl (fun j => lN (u.2 j))))), (h0, .inr (2, [.ref ea, .ref pa, .int (nI (hv_s s)), .int (nI (hv_o s o)), .int (nI (hv_D (upd e (hv_slot s o) x) (va_up b (hv_slot s o) q) (hv_s s) (hv_s s))), .int (nI (hv_N (upd e (hv_slot s o) x) (va_up b (hv_slot s o) q) (hv_s s) (hv_s s))), .int (nI (hv_X (upd e (hv_slot s o) x) (va_up b (hv_slot s o) q) (hv_s s) (hv_s s))), .int (zI (tk_m mk (hv_N (upd e (hv_slot s o) x) (va_up b (hv_slot s o) q) (hv_s s) (hv_s s)) (hv_X (upd e (hv_slot s o) x) (va_up b (hv_slot s o) q) (hv_s s) (hv_s s)) lv mr cr)), .int (nI (tk_t mk tm (hv_N (upd e (hv_slot s o) x) (va_up b (hv_slot s o) q) (hv_s s) (hv_s s)) (hv_X (upd e (hv_slot s o) x) (va_up b (hv_slot s o) q) (hv_s s) (hv_s s)) lv mr)), v9, v10])), (ea, .inl (cI, 48, .inl ((upd e (hv_slot s o) x)))), (pa, .inl (cZ, 48, .inl (fun j => zI ((va_up b (hv_slot s o) q) j))))] t) (va_A [(f0, .inr (3, [v0, .ref c0, v2, .int (nI lv), .int (nI mr), .int (nI cr)])), (c0, .inr (0, [.ref s0, .ref t0])), (s0, .inr (1, [.ref sa])), (sa, .inl (cJ, 17, .inr (.inl (fun j => lN (ds j))))), (t0, .inr (1, [.ref ta])), (ta, .inl (cJ, 17, .inr (.inl (fun j => lN (dt j))))), (h0, .inr (2, [.ref ea, .ref pa, .int (nI s), .int (nI o), .int x4, .int x5, .int x6, .int (zI mk), .int (nI tm), v9, v10])), (ea, .inl (cI, 48, .inl (e))), (pa, .inl (cZ, 48, .inl (fun j => zI (b j))))] sz)) 0 0 (va_A [(f0, .inr (3, [v0, .ref c0, v2, .int (nI lv), .int (nI mr), .int (nI cr)])), (c0, .inr (0, [.ref s0, .ref t0])), (s0, .inr (1, [.ref sa])), (sa, .inl (cJ, 17, .inr (.inl (fun j => lN (ds j))))), (t0, .inr (1, [.ref ta])), (ta, .inl (cJ, 17, .inr (.inl (fun j => lN (dt j))))), (h0, .inr (2, [.ref ea, .ref pa, .int (nI s), .int (nI o), .int x4, .int x5, .int x6, .int (zI mk), .int (nI tm), v9, v10])), (ea, .inl (cI, 48, .inl (e))), (pa, .inl (cZ, 48, .inl (fun j => zI (b j))))] sz) := by
  refine fw_metW (cc := cX3_take) (maxL := 4) (ret := none) (by decide) rfl (Nat.le_of_ble_eq_true rfl) ?_
  intro zp ze zs zm zbelow zmeth zc ls hx hb hr hts hown hlocks hml hin hN hsz hP hK hD hA hS hl
  generalize hAe : (va_A [(f0, .inr (3, [v0, .ref c0, v2, .int (nI lv), .int (nI mr), .int (nI cr)])), (c0, .inr (0, [.ref s0, .ref t0])), (s0, .inr (1, [.ref sa])), (sa, .inl (cJ, 17, .inr (.inl (fun j => lN (ds j))))), (t0, .inr (1, [.ref ta])), (ta, .inl (cJ, 17, .inr (.inl (fun j => lN (dt j))))), (h0, .inr (2, [.ref ea, .ref pa, .int (nI s), .int (nI o), .int x4, .int x5, .int x6, .int (zI mk), .int (nI tm), v9, v10])), (ea, .inl (cI, 48, .inl (e))), (pa, .inl (cZ, 48, .inl (fun j => zI (b j))))] sz) = A at hD hA hS ⊢
  have hown : zs.vm.findClass RX3 = some zm.cls := hown
  have hl : lv_has ls 4 [(0, .ref f0), (1, .ref h0), (2, .int x), (3, .int (zI q))] := hl
  refine lv_aload_n hx hb dX3_take_0 rfl (lv_at hl 1 rfl) ?_
  refine lv_iload_n hx hb dX3_take_1 rfl (lv_at hl 2 rfl) ?_
  refine lv_iload_n hx hb dX3_take_2 rfl (lv_at hl 3 rfl) ?_
  have hPc := hP.sub (ws' := [(h0, .inr (2, [.ref ea, .ref pa, .int (nI s), .int (nI o), .int x4, .int x5, .int x6, .int (zI mk), .int (nI tm), v9, v10])), (ea, .inl (cI, 48, .inl (e))), (pa, .inl (cZ, 48, .inl (fun j => zI (b j))))]) [6, 7, 8] rfl
  have hKc := hK.sub (tys' := [(cI, .int), (cZ, .boolean)]) [1, 2] rfl
  have hDc := hD.sub (ws' := [(h0, .inr (2, [.ref ea, .ref pa, .int (nI s), .int (nI o), .int x4, .int x5, .int x6, .int (zI mk), .int (nI tm), v9, v10])), (ea, .inl (cI, 48, .inl (e))), (pa, .inl (cZ, 48, .inl (fun j => zI (b j))))]) [6, 7, 8] (by decide) rfl
  have hFc := va_free (wc := [(h0, .inr (2, [.ref ea, .ref pa, .int (nI s), .int (nI o), .int x4, .int x5, .int x6, .int (zI mk), .int (nI tm), v9, v10])), (ea, .inl (cI, 48, .inl (e))), (pa, .inl (cZ, 48, .inl (fun j => zI (b j))))]) hD hS hA [6, 7, 8] rfl
  refine va_callv (va_runV (As := [.int x, .int (zI q)]) (rest := []) ⟨hx, hb, hml, hown, hts⟩ (c_his_add l dC dI h0 ea pa cI cZ s o x4 x5 x6 (.int (zI mk)) (.int (nI tm)) v9 v10 e b x q zs.heap.size hs ho) (cwV 2 hts gX3_take_X2_add rfl rfl rfl (by decide +kernel) ⟨Nat.le_of_ble_eq_true rfl, Nat.le_of_ble_eq_true rfl⟩) (fw_preVW hN hKc hPc hDc (ci := 2) (q0 := 0) rfl rfl) rfl rfl hl.1 rfl (lv_room (Nat.le_of_ble_eq_true rfl)) dX3_take_3 ⟨Nat.le_of_ble_eq_true rfl, Nat.le_of_ble_eq_true rfl⟩) hS (fun q _ h => hFc q h) hFc (fun u zt H1 locs zht hvm hw hB hz1 hk1 hS => ?_)
  obtain ⟨⟩ := u
  obtain ⟨hP1, hK1, hD1⟩ := hB
  rw [zht] at hP1
  obtain ⟨hP, hD⟩ := va_join (wr := [(f0, .inr (3, [v0, .ref c0, v2, .int (nI lv), .int (nI mr), .int (nI cr)])), (c0, .inr (0, [.ref s0, .ref t0])), (s0, .inr (1, [.ref sa])), (sa, .inl (cJ, 17, .inr (.inl (fun j => lN (ds j))))), (t0, .inr (1, [.ref ta])), (ta, .inl (cJ, 17, .inr (.inl (fun j => lN (dt j)))))]) (w1 := [(h0, .inr (2, [.ref ea, .ref pa, .int (nI (hv_s s)), .int (nI (hv_o s o)), .int (nI (hv_D (upd e (hv_slot s o) x) (va_up b (hv_slot s o) q) (hv_s s) (hv_s s))), .int (nI (hv_N (upd e (hv_slot s o) x) (va_up b (hv_slot s o) q) (hv_s s) (hv_s s))), .int (nI (hv_X (upd e (hv_slot s o) x) (va_up b (hv_slot s o) q) (hv_s s) (hv_s s))), .int (zI mk), .int (nI tm), v9, v10])), (ea, .inl (cI, 48, .inl ((upd e (hv_slot s o) x)))), (pa, .inl (cZ, 48, .inl (fun j => zI ((va_up b (hv_slot s o) q) j))))]) hP hD [6, 7, 8] [0, 1, 2, 3, 4, 5] rfl rfl (by decide) (by decide) hk1 hFc hP1 hD1
  generalize H1 = H at hP hS ⊢
  have hP : va_P (dC, dI) vwCl [(f0, .inr (3, [v0, .ref c0, v2, .int (nI lv), .int (nI mr), .int (nI cr)])), (c0, .inr (0, [.ref s0, .ref t0])), (s0, .inr (1, [.ref sa])), (sa, .inl (cJ, 17, .inr (.inl (fun j => lN (ds j))))), (t0, .inr (1, [.ref ta])), (ta, .inl (cJ, 17, .inr (.inl (fun j => lN (dt j))))), (h0, .inr (2, [.ref ea, .ref pa, .int (nI (hv_s s)), .int (nI (hv_o s o)), .int (nI (hv_D (upd e (hv_slot s o) x) (va_up b (hv_slot s o) q) (hv_s s) (hv_s s))), .int (nI (hv_N (upd e (hv_slot s o) x) (va_up b (hv_slot s o) q) (hv_s s) (hv_s s))), .int (nI (hv_X (upd e (hv_slot s o) x) (va_up b (hv_slot s o) q) (hv_s s) (hv_s s))), .int (zI mk), .int (nI tm), v9, v10])), (ea, .inl (cI, 48, .inl ((upd e (hv_slot s o) x)))), (pa, .inl (cZ, 48, .inl (fun j => zI ((va_up b (hv_slot s o) q) j))))] H := hP
  have hD : va_D A [(f0, .inr (3, [v0, .ref c0, v2, .int (nI lv), .int (nI mr), .int (nI cr)])), (c0, .inr (0, [.ref s0, .ref t0])), (s0, .inr (1, [.ref sa])), (sa, .inl (cJ, 17, .inr (.inl (fun j => lN (ds j))))), (t0, .inr (1, [.ref ta])), (ta, .inl (cJ, 17, .inr (.inl (fun j => lN (dt j))))), (h0, .inr (2, [.ref ea, .ref pa, .int (nI (hv_s s)), .int (nI (hv_o s o)), .int (nI (hv_D (upd e (hv_slot s o) x) (va_up b (hv_slot s o) q) (hv_s s) (hv_s s))), .int (nI (hv_N (upd e (hv_slot s o) x) (va_up b (hv_slot s o) q) (hv_s s) (hv_s s))), .int (nI (hv_X (upd e (hv_slot s o) x) (va_up b (hv_slot s o) q) (hv_s s) (hv_s s))), .int (zI mk), .int (nI tm), v9, v10])), (ea, .inl (cI, 48, .inl ((upd e (hv_slot s o) x)))), (pa, .inl (cZ, 48, .inl (fun j => zI ((va_up b (hv_slot s o) q) j))))] := hD
  have hs2 : hv_s s ≤ 48 := by unfold hv_s; split <;> omega
  have hN48 : (hv_N (upd e (hv_slot s o) x) (va_up b (hv_slot s o) q) (hv_s s) (hv_s s)) ≤ 48 := Nat.le_trans (hv_N_le _ _ _ _) hs2
  have hXN : (hv_X (upd e (hv_slot s o) x) (va_up b (hv_slot s o) q) (hv_s s) (hv_s s)) ≤ (hv_N (upd e (hv_slot s o) x) (va_up b (hv_slot s o) q) (hv_s s) (hv_s s)) := hv_X_le _ _ _ _
  generalize (hv_D (upd e (hv_slot s o) x) (va_up b (hv_slot s o) q) (hv_s s) (hv_s s)) = Dd at hP hD ⊢
  generalize (hv_N (upd e (hv_slot s o) x) (va_up b (hv_slot s o) q) (hv_s s) (hv_s s)) = N at hP hD hN48 hXN ⊢
  generalize (hv_X (upd e (hv_slot s o) x) (va_up b (hv_slot s o) q) (hv_s s) (hv_s s)) = X at hP hD hXN ⊢
  refine lv_aload_n hx hb dX3_take_6 rfl (lv_at hl 1 rfl) ?_
  cases mk
  · -- f
    refine va_getN (D := (dC, dI)) (ci := 2) (v := .int (zI false)) (C := RX2) (T := TX2) (N := 11) hx hb hts (by decide +kernel) hown hK hP 6 rfl rfl 7 (by decide) (va_Nw.use rfl (hN.2.2.2.2.2.1)) (fun _ h9 => h9) rfl dX3_take_7 ?_
    refine lv_if_eq (tgt := 38) hx hb dX3_take_10 (by decide) (fun _ => ?_) (fun c_10 => absurd (rfl) c_10)
    refine lv_aload_n hx hb dX3_take_38 rfl (lv_at hl 0 rfl) ?_
    refine lv_aload_n hx hb dX3_take_39 rfl (lv_at hl 1 rfl) ?_
    refine lv_aload_n hx hb dX3_take_40 rfl (lv_at hl 0 rfl) ?_
    refine va_get (D := (dC, dI)) (ci := 3) (v := .int (nI mr)) (C := RX3) (T := TX3) (N := 6) hx hb hts (by decide +kernel) hown hK hP 0 rfl rfl 4 (by decide) (hts (.fieldLink RX3 29 "FlakyBounds" "ruleMark" "I") (by decide +kernel)) (fun _ h9 => h9) rfl dX3_take_41 ?_
    have hPc := hP.sub (ws' := [(f0, .inr (3, [v0, .ref c0, v2, .int (nI lv), .int (nI mr), .int (nI cr)])), (c0, .inr (0, [.ref s0, .ref t0])), (s0, .inr (1, [.ref sa])), (sa, .inl (cJ, 17, .inr (.inl (fun j => lN (ds j))))), (t0, .inr (1, [.ref ta])), (ta, .inl (cJ, 17, .inr (.inl (fun j => lN (dt j))))), (h0, .inr (2, [.ref ea, .ref pa, .int (nI (hv_s s)), .int (nI (hv_o s o)), .int (nI Dd), .int (nI N), .int (nI X), .int (zI false), .int (nI tm), v9, v10]))]) [0, 1, 2, 3, 4, 5, 6] rfl
    have hKc := hK.sub (tys' := [(cJ, .long)]) [0] rfl
    have hDc := hD.sub (ws' := [(f0, .inr (3, [v0, .ref c0, v2, .int (nI lv), .int (nI mr), .int (nI cr)])), (c0, .inr (0, [.ref s0, .ref t0])), (s0, .inr (1, [.ref sa])), (sa, .inl (cJ, 17, .inr (.inl (fun j => lN (ds j))))), (t0, .inr (1, [.ref ta])), (ta, .inl (cJ, 17, .inr (.inl (fun j => lN (dt j))))), (h0, .inr (2, [.ref ea, .ref pa, .int (nI (hv_s s)), .int (nI (hv_o s o)), .int (nI Dd), .int (nI N), .int (nI X), .int (zI false), .int (nI tm), v9, v10]))]) [0, 1, 2, 3, 4, 5, 6] (by decide) rfl
    have hFc := va_free (wc := [(f0, .inr (3, [v0, .ref c0, v2, .int (nI lv), .int (nI mr), .int (nI cr)])), (c0, .inr (0, [.ref s0, .ref t0])), (s0, .inr (1, [.ref sa])), (sa, .inl (cJ, 17, .inr (.inl (fun j => lN (ds j))))), (t0, .inr (1, [.ref ta])), (ta, .inl (cJ, 17, .inr (.inl (fun j => lN (dt j))))), (h0, .inr (2, [.ref ea, .ref pa, .int (nI (hv_s s)), .int (nI (hv_o s o)), .int (nI Dd), .int (nI N), .int (nI X), .int (zI false), .int (nI tm), v9, v10]))]) hD hS hA [0, 1, 2, 3, 4, 5, 6] rfl
    refine va_callr (va_runV (As := [.ref h0, .int (nI mr)]) (rest := []) ⟨hx, hb, hml, hown, hts⟩ (c_fla_least l dC dI f0 c0 s0 sa t0 ta h0 cJ v0 v2 (.int (nI lv)) (.int (nI mr)) (.int (nI cr)) (.ref ea) (.ref pa) (.int (nI (hv_s s))) (.int (nI (hv_o s o))) (.int (nI Dd)) (.int (zI false)) (.int (nI tm)) v9 v10 ds dt N X mr H.size hN48 hXN (by omega)) (cwV 2 hts gX3_take_X3_atLeast rfl rfl rfl (by decide +kernel) ⟨Nat.le_of_ble_eq_true rfl, Nat.le_of_ble_eq_true rfl⟩) (fw_preVW hN hKc hPc hDc (ci := 3) (q0 := 0) rfl rfl) rfl rfl hl.1 rfl (lv_room (Nat.le_of_ble_eq_true rfl)) dX3_take_44 ⟨Nat.le_of_ble_eq_true rfl, Nat.le_of_ble_eq_true rfl⟩) hS (fun q _ h => hFc q h) hFc (fun u ra_44 zt H1 locs zht hvm hw hB hz1 hk1 hS => ?_)
    obtain ⟨e1, e2⟩ := u
    obtain ⟨ok_e1, v_e1⟩ := hw
    obtain ⟨era, hP1, hK1, hD1⟩ := hB
    rw [zht] at hP1
    have ok_e1 : pd_ok e1 := ok_e1
    have v_e1 : pd_v e1 17 = pm_G N (1000 - mr) N (N - X) * 1000 ^ (48 - N) := v_e1
    obtain ⟨hP, hD⟩ := va_join (wr := [(ea, .inl (cI, 48, .inl ((upd e (hv_slot s o) x)))), (pa, .inl (cZ, 48, .inl (fun j => zI ((va_up b (hv_slot s o) q) j))))]) (w1 := [(f0, .inr (3, [v0, .ref c0, v2, .int (nI lv), .int (nI mr), .int (nI cr)])), (c0, .inr (0, [.ref s0, .ref t0])), (s0, .inr (1, [.ref sa])), (sa, .inl (cJ, 17, .inr (.inl (fun j => lN (e1 j))))), (t0, .inr (1, [.ref ta])), (ta, .inl (cJ, 17, .inr (.inl (fun j => lN (e2 j))))), (h0, .inr (2, [.ref ea, .ref pa, .int (nI (hv_s s)), .int (nI (hv_o s o)), .int (nI Dd), .int (nI N), .int (nI X), .int (zI false), .int (nI tm), v9, v10]))]) hP hD [0, 1, 2, 3, 4, 5, 6] [7, 8] rfl rfl (by decide) (by decide) hk1 hFc hP1 hD1
    generalize H1 = H at hP hS ⊢
    have hP : va_P (dC, dI) vwCl [(ea, .inl (cI, 48, .inl ((upd e (hv_slot s o) x)))), (pa, .inl (cZ, 48, .inl (fun j => zI ((va_up b (hv_slot s o) q) j)))), (f0, .inr (3, [v0, .ref c0, v2, .int (nI lv), .int (nI mr), .int (nI cr)])), (c0, .inr (0, [.ref s0, .ref t0])), (s0, .inr (1, [.ref sa])), (sa, .inl (cJ, 17, .inr (.inl (fun j => lN (e1 j))))), (t0, .inr (1, [.ref ta])), (ta, .inl (cJ, 17, .inr (.inl (fun j => lN (e2 j))))), (h0, .inr (2, [.ref ea, .ref pa, .int (nI (hv_s s)), .int (nI (hv_o s o)), .int (nI Dd), .int (nI N), .int (nI X), .int (zI false), .int (nI tm), v9, v10]))] H := hP
    have hD : va_D A [(ea, .inl (cI, 48, .inl ((upd e (hv_slot s o) x)))), (pa, .inl (cZ, 48, .inl (fun j => zI ((va_up b (hv_slot s o) q) j)))), (f0, .inr (3, [v0, .ref c0, v2, .int (nI lv), .int (nI mr), .int (nI cr)])), (c0, .inr (0, [.ref s0, .ref t0])), (s0, .inr (1, [.ref sa])), (sa, .inl (cJ, 17, .inr (.inl (fun j => lN (e1 j))))), (t0, .inr (1, [.ref ta])), (ta, .inl (cJ, 17, .inr (.inl (fun j => lN (e2 j))))), (h0, .inr (2, [.ref ea, .ref pa, .int (nI (hv_s s)), .int (nI (hv_o s o)), .int (nI Dd), .int (nI N), .int (nI X), .int (zI false), .int (nI tm), v9, v10]))] := hD
    rw [era]
    refine lv_aload_n hx hb dX3_take_47 rfl (lv_at hl 0 rfl) ?_
    refine va_get (D := (dC, dI)) (ci := 3) (v := .int (nI lv)) (C := RX3) (T := TX3) (N := 6) hx hb hts (by decide +kernel) hown hK hP 2 rfl rfl 3 (by decide) (hts (.fieldLink RX3 26 "FlakyBounds" "ruleLevel" "I") (by decide +kernel)) (fun _ h9 => h9) rfl dX3_take_48 ?_
    have hPc := hP.sub (ws' := [(s0, .inr (1, [.ref sa])), (sa, .inl (cJ, 17, .inr (.inl (fun j => lN (e1 j)))))]) [4, 5] rfl
    have hKc := hK.sub (tys' := [(cJ, .long)]) [0] rfl
    refine vp_callSi (va_runV (As := [.int (nI lv)]) (rest := []) ⟨hx, hb, hml, hown, hts⟩ (c_dec_above l dC dI s0 sa cJ e1 lv ok_e1 hlv) (cwV 1 hts gX3_take_X1_isAbove rfl rfl rfl (by decide +kernel) ⟨Nat.le_of_ble_eq_true rfl, Nat.le_of_ble_eq_true rfl⟩) (fw_preVR hN hKc hPc (ci := 1) (q0 := 0) rfl rfl) rfl rfl hl.1 rfl (lv_room (Nat.le_of_ble_eq_true rfl)) dX3_take_51 ⟨Nat.le_of_ble_eq_true rfl, Nat.le_of_ble_eq_true rfl⟩).run (fun r_51 hr_51 => ?_)
    obtain rfl : r_51 = zI (pv_above N (N - X) (1000 - mr) lv) := by rw [hr_51, pv_above_v hN48 v_e1]
    refine lv_if_ne (tgt := 72) hx hb dX3_take_54 (by decide) (fun c_54 => ?_) (fun c_54 => ?_)
    · -- then 54
      have h54 := zI_ne0.mp c_54
      have z1 : tk_m false N X lv mr cr = false := by unfold tk_m; rw [if_neg (by decide), h54]; rfl
      have z2 : tk_t false tm N X lv mr = tm := by unfold tk_t; rw [if_neg (by decide), h54]; rfl
      have hP := hP.sub (ws' := [(f0, .inr (3, [v0, .ref c0, v2, .int (nI lv), .int (nI mr), .int (nI cr)])), (c0, .inr (0, [.ref s0, .ref t0])), (s0, .inr (1, [.ref sa])), (sa, .inl (cJ, 17, .inr (.inl (fun j => lN (e1 j))))), (t0, .inr (1, [.ref ta])), (ta, .inl (cJ, 17, .inr (.inl (fun j => lN (e2 j))))), (h0, .inr (2, [.ref ea, .ref pa, .int (nI (hv_s s)), .int (nI (hv_o s o)), .int (nI Dd), .int (nI N), .int (nI X), .int (zI false), .int (nI tm), v9, v10])), (ea, .inl (cI, 48, .inl ((upd e (hv_slot s o) x)))), (pa, .inl (cZ, 48, .inl (fun j => zI ((va_up b (hv_slot s o) q) j))))]) [2, 3, 4, 5, 6, 7, 8, 0, 1] rfl
      have hD := hD.sub (ws' := [(f0, .inr (3, [v0, .ref c0, v2, .int (nI lv), .int (nI mr), .int (nI cr)])), (c0, .inr (0, [.ref s0, .ref t0])), (s0, .inr (1, [.ref sa])), (sa, .inl (cJ, 17, .inr (.inl (fun j => lN (e1 j))))), (t0, .inr (1, [.ref ta])), (ta, .inl (cJ, 17, .inr (.inl (fun j => lN (e2 j))))), (h0, .inr (2, [.ref ea, .ref pa, .int (nI (hv_s s)), .int (nI (hv_o s o)), .int (nI Dd), .int (nI N), .int (nI X), .int (zI false), .int (nI tm), v9, v10])), (ea, .inl (cI, 48, .inl ((upd e (hv_slot s o) x)))), (pa, .inl (cZ, 48, .inl (fun j => zI ((va_up b (hv_slot s o) q) j))))]) [2, 3, 4, 5, 6, 7, 8, 0, 1] (by decide) rfl
      have hP : va_P (dC, dI) vwCl [(f0, .inr (3, [v0, .ref c0, v2, .int (nI lv), .int (nI mr), .int (nI cr)])), (c0, .inr (0, [.ref s0, .ref t0])), (s0, .inr (1, [.ref sa])), (sa, .inl (cJ, 17, .inr (.inl (fun j => lN (e1 j))))), (t0, .inr (1, [.ref ta])), (ta, .inl (cJ, 17, .inr (.inl (fun j => lN (e2 j))))), (h0, .inr (2, [.ref ea, .ref pa, .int (nI (hv_s s)), .int (nI (hv_o s o)), .int (nI Dd), .int (nI N), .int (nI X), .int (zI (tk_m false N X lv mr cr)), .int (nI (tk_t false tm N X lv mr)), v9, v10])), (ea, .inl (cI, 48, .inl ((upd e (hv_slot s o) x)))), (pa, .inl (cZ, 48, .inl (fun j => zI ((va_up b (hv_slot s o) q) j))))] H := by rw [z1, z2]; exact hP
      have hD : va_D A [(f0, .inr (3, [v0, .ref c0, v2, .int (nI lv), .int (nI mr), .int (nI cr)])), (c0, .inr (0, [.ref s0, .ref t0])), (s0, .inr (1, [.ref sa])), (sa, .inl (cJ, 17, .inr (.inl (fun j => lN (e1 j))))), (t0, .inr (1, [.ref ta])), (ta, .inl (cJ, 17, .inr (.inl (fun j => lN (e2 j))))), (h0, .inr (2, [.ref ea, .ref pa, .int (nI (hv_s s)), .int (nI (hv_o s o)), .int (nI Dd), .int (nI N), .int (nI X), .int (zI (tk_m false N X lv mr cr)), .int (nI (tk_t false tm N X lv mr)), v9, v10])), (ea, .inl (cI, 48, .inl ((upd e (hv_slot s o) x)))), (pa, .inl (cZ, 48, .inl (fun j => zI ((va_up b (hv_slot s o) q) j))))] := by rw [z1, z2]; exact hD
      have hP9 := hP.sub (ws' := [(f0, .inr (3, [v0, .ref c0, v2, .int (nI lv), .int (nI mr), .int (nI cr)])), (c0, .inr (0, [.ref s0, .ref t0])), (s0, .inr (1, [.ref sa])), (sa, .inl (cJ, 17, .inr (.inl (fun j => lN (e1 j))))), (t0, .inr (1, [.ref ta])), (ta, .inl (cJ, 17, .inr (.inl (fun j => lN (e2 j))))), (h0, .inr (2, [.ref ea, .ref pa, .int (nI (hv_s s)), .int (nI (hv_o s o)), .int (nI Dd), .int (nI N), .int (nI X), .int (zI (tk_m false N X lv mr cr)), .int (nI (tk_t false tm N X lv mr)), v9, v10])), (ea, .inl (cI, 48, .inl ((upd e (hv_slot s o) x)))), (pa, .inl (cZ, 48, .inl (fun j => zI ((va_up b (hv_slot s o) q) j))))]) [0, 1, 2, 3, 4, 5, 6, 7, 8] rfl
      have hD9 := hD.sub (ws' := [(f0, .inr (3, [v0, .ref c0, v2, .int (nI lv), .int (nI mr), .int (nI cr)])), (c0, .inr (0, [.ref s0, .ref t0])), (s0, .inr (1, [.ref sa])), (sa, .inl (cJ, 17, .inr (.inl (fun j => lN (e1 j))))), (t0, .inr (1, [.ref ta])), (ta, .inl (cJ, 17, .inr (.inl (fun j => lN (e2 j))))), (h0, .inr (2, [.ref ea, .ref pa, .int (nI (hv_s s)), .int (nI (hv_o s o)), .int (nI Dd), .int (nI N), .int (nI X), .int (zI (tk_m false N X lv mr cr)), .int (nI (tk_t false tm N X lv mr)), v9, v10])), (ea, .inl (cI, 48, .inl ((upd e (hv_slot s o) x)))), (pa, .inl (cZ, 48, .inl (fun j => zI ((va_up b (hv_slot s o) q) j))))]) [0, 1, 2, 3, 4, 5, 6, 7, 8] (by decide) rfl
      have hK9 := hK.sub (tys' := [(cJ, .long), (cI, .int), (cZ, .boolean)]) [0, 1, 2] rfl
      exact W.vret hx hb hr (fun zt zht hW => ⟨⟨(e1, e2), rfl, trivial, by rw [zht]; exact hP9, va_K.moved hW.alike hK9, hD9⟩, hS.F zht⟩) hS.2.2 dX3_take_72 hlocks
    · -- else 54
      have h54 := zI_eq0.mp c_54
      refine lv_aload_n hx hb dX3_take_57 rfl (lv_at hl 1 rfl) ?_
      refine lv_iconst (v := 1) hx hb dX3_take_58 (by decide) ?_
      refine va_putN (D := (dC, dI)) (ci := 2) (v := .int 1) (ty := .boolean) (C := RX2) (T := TX2) (N := 11) hx hb hts (by decide +kernel) tyX2 tyX2_ok nmX2 hown hK hP hD hS 8 rfl rfl 7 (by decide) (va_Nw.use rfl (hN.2.2.2.2.2.1)) (fun _ h9 => h9) rfl (by decide +kernel) rfl rfl (Nat.le_of_ble_eq_true rfl) dX3_take_59 (fun H locs hP hD hS => ?_)
      have hP : va_P (dC, dI) vwCl [(ea, .inl (cI, 48, .inl ((upd e (hv_slot s o) x)))), (pa, .inl (cZ, 48, .inl (fun j => zI ((va_up b (hv_slot s o) q) j)))), (f0, .inr (3, [v0, .ref c0, v2, .int (nI lv), .int (nI mr), .int (nI cr)])), (c0, .inr (0, [.ref s0, .ref t0])), (s0, .inr (1, [.ref sa])), (sa, .inl (cJ, 17, .inr (.inl (fun j => lN (e1 j))))), (t0, .inr (1, [.ref ta])), (ta, .inl (cJ, 17, .inr (.inl (fun j => lN (e2 j))))), (h0, .inr (2, [.ref ea, .ref pa, .int (nI (hv_s s)), .int (nI (hv_o s o)), .int (nI Dd), .int (nI N), .int (nI X), .int 1, .int (nI tm), v9, v10]))] H := hP
      have hD : va_D A [(ea, .inl (cI, 48, .inl ((upd e (hv_slot s o) x)))), (pa, .inl (cZ, 48, .inl (fun j => zI ((va_up b (hv_slot s o) q) j)))), (f0, .inr (3, [v0, .ref c0, v2, .int (nI lv), .int (nI mr), .int (nI cr)])), (c0, .inr (0, [.ref s0, .ref t0])), (s0, .inr (1, [.ref sa])), (sa, .inl (cJ, 17, .inr (.inl (fun j => lN (e1 j))))), (t0, .inr (1, [.ref ta])), (ta, .inl (cJ, 17, .inr (.inl (fun j => lN (e2 j))))), (h0, .inr (2, [.ref ea, .ref pa, .int (nI (hv_s s)), .int (nI (hv_o s o)), .int (nI Dd), .int (nI N), .int (nI X), .int 1, .int (nI tm), v9, v10]))] := hD
      refine lv_aload_n hx hb dX3_take_62 rfl (lv_at hl 1 rfl) ?_
      refine lv_dup hx hb dX3_take_63 rfl ?_
      refine va_getN (D := (dC, dI)) (ci := 2) (v := .int (nI tm)) (C := RX2) (T := TX2) (N := 11) hx hb hts (by decide +kernel) hown hK hP 8 rfl rfl 8 (by decide) (va_Nw.use rfl (hN.2.2.2.2.2.2)) (fun _ h9 => h9) rfl dX3_take_64 ?_
      refine lv_iconst (v := 1) hx hb dX3_take_67 (by decide) ?_
      refine lv_iadd hx hb dX3_take_68 ?_
      refine fw_i (x' := nI (tm + 1)) (nI_1 tm) ?_
      refine va_putN (D := (dC, dI)) (ci := 2) (v := .int (nI (tm + 1))) (ty := .int) (C := RX2) (T := TX2) (N := 11) hx hb hts (by decide +kernel) tyX2 tyX2_ok nmX2 hown hK hP hD hS 8 rfl rfl 8 (by decide) (va_Nw.use rfl (hN.2.2.2.2.2.2)) (fun _ h9 => h9) rfl (by decide +kernel) rfl rfl (Nat.le_of_ble_eq_true rfl) dX3_take_69 (fun H locs hP hD hS => ?_)
      have hP : va_P (dC, dI) vwCl [(ea, .inl (cI, 48, .inl ((upd e (hv_slot s o) x)))), (pa, .inl (cZ, 48, .inl (fun j => zI ((va_up b (hv_slot s o) q) j)))), (f0, .inr (3, [v0, .ref c0, v2, .int (nI lv), .int (nI mr), .int (nI cr)])), (c0, .inr (0, [.ref s0, .ref t0])), (s0, .inr (1, [.ref sa])), (sa, .inl (cJ, 17, .inr (.inl (fun j => lN (e1 j))))), (t0, .inr (1, [.ref ta])), (ta, .inl (cJ, 17, .inr (.inl (fun j => lN (e2 j))))), (h0, .inr (2, [.ref ea, .ref pa, .int (nI (hv_s s)), .int (nI (hv_o s o)), .int (nI Dd), .int (nI N), .int (nI X), .int 1, .int (nI (tm + 1)), v9, v10]))] H := hP
      have hD : va_D A [(ea, .inl (cI, 48, .inl ((upd e (hv_slot s o) x)))), (pa, .inl (cZ, 48, .inl (fun j => zI ((va_up b (hv_slot s o) q) j)))), (f0, .inr (3, [v0, .ref c0, v2, .int (nI lv), .int (nI mr), .int (nI cr)])), (c0, .inr (0, [.ref s0, .ref t0])), (s0, .inr (1, [.ref sa])), (sa, .inl (cJ, 17, .inr (.inl (fun j => lN (e1 j))))), (t0, .inr (1, [.ref ta])), (ta, .inl (cJ, 17, .inr (.inl (fun j => lN (e2 j))))), (h0, .inr (2, [.ref ea, .ref pa, .int (nI (hv_s s)), .int (nI (hv_o s o)), .int (nI Dd), .int (nI N), .int (nI X), .int 1, .int (nI (tm + 1)), v9, v10]))] := hD
      have z1 : tk_m false N X lv mr cr = true := by unfold tk_m; rw [if_neg (by decide), h54]; rfl
      have z2 : tk_t false tm N X lv mr = tm + 1 := by unfold tk_t; rw [if_neg (by decide), h54]; rfl
      have hP := hP.sub (ws' := [(f0, .inr (3, [v0, .ref c0, v2, .int (nI lv), .int (nI mr), .int (nI cr)])), (c0, .inr (0, [.ref s0, .ref t0])), (s0, .inr (1, [.ref sa])), (sa, .inl (cJ, 17, .inr (.inl (fun j => lN (e1 j))))), (t0, .inr (1, [.ref ta])), (ta, .inl (cJ, 17, .inr (.inl (fun j => lN (e2 j))))), (h0, .inr (2, [.ref ea, .ref pa, .int (nI (hv_s s)), .int (nI (hv_o s o)), .int (nI Dd), .int (nI N), .int (nI X), .int 1, .int (nI (tm + 1)), v9, v10])), (ea, .inl (cI, 48, .inl ((upd e (hv_slot s o) x)))), (pa, .inl (cZ, 48, .inl (fun j => zI ((va_up b (hv_slot s o) q) j))))]) [2, 3, 4, 5, 6, 7, 8, 0, 1] rfl
      have hD := hD.sub (ws' := [(f0, .inr (3, [v0, .ref c0, v2, .int (nI lv), .int (nI mr), .int (nI cr)])), (c0, .inr (0, [.ref s0, .ref t0])), (s0, .inr (1, [.ref sa])), (sa, .inl (cJ, 17, .inr (.inl (fun j => lN (e1 j))))), (t0, .inr (1, [.ref ta])), (ta, .inl (cJ, 17, .inr (.inl (fun j => lN (e2 j))))), (h0, .inr (2, [.ref ea, .ref pa, .int (nI (hv_s s)), .int (nI (hv_o s o)), .int (nI Dd), .int (nI N), .int (nI X), .int 1, .int (nI (tm + 1)), v9, v10])), (ea, .inl (cI, 48, .inl ((upd e (hv_slot s o) x)))), (pa, .inl (cZ, 48, .inl (fun j => zI ((va_up b (hv_slot s o) q) j))))]) [2, 3, 4, 5, 6, 7, 8, 0, 1] (by decide) rfl
      have hP : va_P (dC, dI) vwCl [(f0, .inr (3, [v0, .ref c0, v2, .int (nI lv), .int (nI mr), .int (nI cr)])), (c0, .inr (0, [.ref s0, .ref t0])), (s0, .inr (1, [.ref sa])), (sa, .inl (cJ, 17, .inr (.inl (fun j => lN (e1 j))))), (t0, .inr (1, [.ref ta])), (ta, .inl (cJ, 17, .inr (.inl (fun j => lN (e2 j))))), (h0, .inr (2, [.ref ea, .ref pa, .int (nI (hv_s s)), .int (nI (hv_o s o)), .int (nI Dd), .int (nI N), .int (nI X), .int (zI (tk_m false N X lv mr cr)), .int (nI (tk_t false tm N X lv mr)), v9, v10])), (ea, .inl (cI, 48, .inl ((upd e (hv_slot s o) x)))), (pa, .inl (cZ, 48, .inl (fun j => zI ((va_up b (hv_slot s o) q) j))))] H := by rw [z1, z2]; exact hP
      have hD : va_D A [(f0, .inr (3, [v0, .ref c0, v2, .int (nI lv), .int (nI mr), .int (nI cr)])), (c0, .inr (0, [.ref s0, .ref t0])), (s0, .inr (1, [.ref sa])), (sa, .inl (cJ, 17, .inr (.inl (fun j => lN (e1 j))))), (t0, .inr (1, [.ref ta])), (ta, .inl (cJ, 17, .inr (.inl (fun j => lN (e2 j))))), (h0, .inr (2, [.ref ea, .ref pa, .int (nI (hv_s s)), .int (nI (hv_o s o)), .int (nI Dd), .int (nI N), .int (nI X), .int (zI (tk_m false N X lv mr cr)), .int (nI (tk_t false tm N X lv mr)), v9, v10])), (ea, .inl (cI, 48, .inl ((upd e (hv_slot s o) x)))), (pa, .inl (cZ, 48, .inl (fun j => zI ((va_up b (hv_slot s o) q) j))))] := by rw [z1, z2]; exact hD
      have hP9 := hP.sub (ws' := [(f0, .inr (3, [v0, .ref c0, v2, .int (nI lv), .int (nI mr), .int (nI cr)])), (c0, .inr (0, [.ref s0, .ref t0])), (s0, .inr (1, [.ref sa])), (sa, .inl (cJ, 17, .inr (.inl (fun j => lN (e1 j))))), (t0, .inr (1, [.ref ta])), (ta, .inl (cJ, 17, .inr (.inl (fun j => lN (e2 j))))), (h0, .inr (2, [.ref ea, .ref pa, .int (nI (hv_s s)), .int (nI (hv_o s o)), .int (nI Dd), .int (nI N), .int (nI X), .int (zI (tk_m false N X lv mr cr)), .int (nI (tk_t false tm N X lv mr)), v9, v10])), (ea, .inl (cI, 48, .inl ((upd e (hv_slot s o) x)))), (pa, .inl (cZ, 48, .inl (fun j => zI ((va_up b (hv_slot s o) q) j))))]) [0, 1, 2, 3, 4, 5, 6, 7, 8] rfl
      have hD9 := hD.sub (ws' := [(f0, .inr (3, [v0, .ref c0, v2, .int (nI lv), .int (nI mr), .int (nI cr)])), (c0, .inr (0, [.ref s0, .ref t0])), (s0, .inr (1, [.ref sa])), (sa, .inl (cJ, 17, .inr (.inl (fun j => lN (e1 j))))), (t0, .inr (1, [.ref ta])), (ta, .inl (cJ, 17, .inr (.inl (fun j => lN (e2 j))))), (h0, .inr (2, [.ref ea, .ref pa, .int (nI (hv_s s)), .int (nI (hv_o s o)), .int (nI Dd), .int (nI N), .int (nI X), .int (zI (tk_m false N X lv mr cr)), .int (nI (tk_t false tm N X lv mr)), v9, v10])), (ea, .inl (cI, 48, .inl ((upd e (hv_slot s o) x)))), (pa, .inl (cZ, 48, .inl (fun j => zI ((va_up b (hv_slot s o) q) j))))]) [0, 1, 2, 3, 4, 5, 6, 7, 8] (by decide) rfl
      have hK9 := hK.sub (tys' := [(cJ, .long), (cI, .int), (cZ, .boolean)]) [0, 1, 2] rfl
      exact W.vret hx hb hr (fun zt zht hW => ⟨⟨(e1, e2), rfl, trivial, by rw [zht]; exact hP9, va_K.moved hW.alike hK9, hD9⟩, hS.F zht⟩) hS.2.2 dX3_take_72 hlocks
  · -- t
    refine va_getN (D := (dC, dI)) (ci := 2) (v := .int (zI true)) (C := RX2) (T := TX2) (N := 11) hx hb hts (by decide +kernel) hown hK hP 6 rfl rfl 7 (by decide) (va_Nw.use rfl (hN.2.2.2.2.2.1)) (fun _ h9 => h9) rfl dX3_take_7 ?_
    refine lv_if_eq (tgt := 38) hx hb dX3_take_10 (by decide) (fun c_10 => absurd c_10 (by decide)) (fun _ => ?_)
    refine lv_aload_n hx hb dX3_take_13 rfl (lv_at hl 0 rfl) ?_
    refine lv_aload_n hx hb dX3_take_14 rfl (lv_at hl 1 rfl) ?_
    refine lv_aload_n hx hb dX3_take_15 rfl (lv_at hl 0 rfl) ?_
    refine va_get (D := (dC, dI)) (ci := 3) (v := .int (nI cr)) (C := RX3) (T := TX3) (N := 6) hx hb hts (by decide +kernel) hown hK hP 0 rfl rfl 5 (by decide) (hts (.fieldLink RX3 32 "FlakyBounds" "ruleClear" "I") (by decide +kernel)) (fun _ h9 => h9) rfl dX3_take_16 ?_
    have hPc := hP.sub (ws' := [(f0, .inr (3, [v0, .ref c0, v2, .int (nI lv), .int (nI mr), .int (nI cr)])), (c0, .inr (0, [.ref s0, .ref t0])), (s0, .inr (1, [.ref sa])), (sa, .inl (cJ, 17, .inr (.inl (fun j => lN (ds j))))), (t0, .inr (1, [.ref ta])), (ta, .inl (cJ, 17, .inr (.inl (fun j => lN (dt j))))), (h0, .inr (2, [.ref ea, .ref pa, .int (nI (hv_s s)), .int (nI (hv_o s o)), .int (nI Dd), .int (nI N), .int (nI X), .int (zI true), .int (nI tm), v9, v10]))]) [0, 1, 2, 3, 4, 5, 6] rfl
    have hKc := hK.sub (tys' := [(cJ, .long)]) [0] rfl
    have hDc := hD.sub (ws' := [(f0, .inr (3, [v0, .ref c0, v2, .int (nI lv), .int (nI mr), .int (nI cr)])), (c0, .inr (0, [.ref s0, .ref t0])), (s0, .inr (1, [.ref sa])), (sa, .inl (cJ, 17, .inr (.inl (fun j => lN (ds j))))), (t0, .inr (1, [.ref ta])), (ta, .inl (cJ, 17, .inr (.inl (fun j => lN (dt j))))), (h0, .inr (2, [.ref ea, .ref pa, .int (nI (hv_s s)), .int (nI (hv_o s o)), .int (nI Dd), .int (nI N), .int (nI X), .int (zI true), .int (nI tm), v9, v10]))]) [0, 1, 2, 3, 4, 5, 6] (by decide) rfl
    have hFc := va_free (wc := [(f0, .inr (3, [v0, .ref c0, v2, .int (nI lv), .int (nI mr), .int (nI cr)])), (c0, .inr (0, [.ref s0, .ref t0])), (s0, .inr (1, [.ref sa])), (sa, .inl (cJ, 17, .inr (.inl (fun j => lN (ds j))))), (t0, .inr (1, [.ref ta])), (ta, .inl (cJ, 17, .inr (.inl (fun j => lN (dt j))))), (h0, .inr (2, [.ref ea, .ref pa, .int (nI (hv_s s)), .int (nI (hv_o s o)), .int (nI Dd), .int (nI N), .int (nI X), .int (zI true), .int (nI tm), v9, v10]))]) hD hS hA [0, 1, 2, 3, 4, 5, 6] rfl
    refine va_callr (va_runV (As := [.ref h0, .int (nI cr)]) (rest := []) ⟨hx, hb, hml, hown, hts⟩ (c_fla_most l dC dI f0 c0 s0 sa t0 ta h0 cJ v0 v2 (.int (nI lv)) (.int (nI mr)) (.int (nI cr)) (.ref ea) (.ref pa) (.int (nI (hv_s s))) (.int (nI (hv_o s o))) (.int (nI Dd)) (.int (zI true)) (.int (nI tm)) v9 v10 ds dt N X cr H.size hN48 hXN (by omega)) (cwV 2 hts gX3_take_X3_atMost rfl rfl rfl (by decide +kernel) ⟨Nat.le_of_ble_eq_true rfl, Nat.le_of_ble_eq_true rfl⟩) (fw_preVW hN hKc hPc hDc (ci := 3) (q0 := 0) rfl rfl) rfl rfl hl.1 rfl (lv_room (Nat.le_of_ble_eq_true rfl)) dX3_take_19 ⟨Nat.le_of_ble_eq_true rfl, Nat.le_of_ble_eq_true rfl⟩) hS (fun q _ h => hFc q h) hFc (fun u ra_19 zt H1 locs zht hvm hw hB hz1 hk1 hS => ?_)
    obtain ⟨e1, e2⟩ := u
    obtain ⟨ok_e1, v_e1⟩ := hw
    obtain ⟨era, hP1, hK1, hD1⟩ := hB
    rw [zht] at hP1
    have ok_e1 : pd_ok e1 := ok_e1
    have v_e1 : pd_v e1 17 = pm_G N cr N X * 1000 ^ (48 - N) := v_e1
    obtain ⟨hP, hD⟩ := va_join (wr := [(ea, .inl (cI, 48, .inl ((upd e (hv_slot s o) x)))), (pa, .inl (cZ, 48, .inl (fun j => zI ((va_up b (hv_slot s o) q) j))))]) (w1 := [(f0, .inr (3, [v0, .ref c0, v2, .int (nI lv), .int (nI mr), .int (nI cr)])), (c0, .inr (0, [.ref s0, .ref t0])), (s0, .inr (1, [.ref sa])), (sa, .inl (cJ, 17, .inr (.inl (fun j => lN (e1 j))))), (t0, .inr (1, [.ref ta])), (ta, .inl (cJ, 17, .inr (.inl (fun j => lN (e2 j))))), (h0, .inr (2, [.ref ea, .ref pa, .int (nI (hv_s s)), .int (nI (hv_o s o)), .int (nI Dd), .int (nI N), .int (nI X), .int (zI true), .int (nI tm), v9, v10]))]) hP hD [0, 1, 2, 3, 4, 5, 6] [7, 8] rfl rfl (by decide) (by decide) hk1 hFc hP1 hD1
    generalize H1 = H at hP hS ⊢
    have hP : va_P (dC, dI) vwCl [(ea, .inl (cI, 48, .inl ((upd e (hv_slot s o) x)))), (pa, .inl (cZ, 48, .inl (fun j => zI ((va_up b (hv_slot s o) q) j)))), (f0, .inr (3, [v0, .ref c0, v2, .int (nI lv), .int (nI mr), .int (nI cr)])), (c0, .inr (0, [.ref s0, .ref t0])), (s0, .inr (1, [.ref sa])), (sa, .inl (cJ, 17, .inr (.inl (fun j => lN (e1 j))))), (t0, .inr (1, [.ref ta])), (ta, .inl (cJ, 17, .inr (.inl (fun j => lN (e2 j))))), (h0, .inr (2, [.ref ea, .ref pa, .int (nI (hv_s s)), .int (nI (hv_o s o)), .int (nI Dd), .int (nI N), .int (nI X), .int (zI true), .int (nI tm), v9, v10]))] H := hP
    have hD : va_D A [(ea, .inl (cI, 48, .inl ((upd e (hv_slot s o) x)))), (pa, .inl (cZ, 48, .inl (fun j => zI ((va_up b (hv_slot s o) q) j)))), (f0, .inr (3, [v0, .ref c0, v2, .int (nI lv), .int (nI mr), .int (nI cr)])), (c0, .inr (0, [.ref s0, .ref t0])), (s0, .inr (1, [.ref sa])), (sa, .inl (cJ, 17, .inr (.inl (fun j => lN (e1 j))))), (t0, .inr (1, [.ref ta])), (ta, .inl (cJ, 17, .inr (.inl (fun j => lN (e2 j))))), (h0, .inr (2, [.ref ea, .ref pa, .int (nI (hv_s s)), .int (nI (hv_o s o)), .int (nI Dd), .int (nI N), .int (nI X), .int (zI true), .int (nI tm), v9, v10]))] := hD
    rw [era]
    refine lv_aload_n hx hb dX3_take_22 rfl (lv_at hl 0 rfl) ?_
    refine va_get (D := (dC, dI)) (ci := 3) (v := .int (nI lv)) (C := RX3) (T := TX3) (N := 6) hx hb hts (by decide +kernel) hown hK hP 2 rfl rfl 3 (by decide) (hts (.fieldLink RX3 26 "FlakyBounds" "ruleLevel" "I") (by decide +kernel)) (fun _ h9 => h9) rfl dX3_take_23 ?_
    have hPc := hP.sub (ws' := [(s0, .inr (1, [.ref sa])), (sa, .inl (cJ, 17, .inr (.inl (fun j => lN (e1 j)))))]) [4, 5] rfl
    have hKc := hK.sub (tys' := [(cJ, .long)]) [0] rfl
    refine vp_callSi (va_runV (As := [.int (nI lv)]) (rest := []) ⟨hx, hb, hml, hown, hts⟩ (c_dec_above l dC dI s0 sa cJ e1 lv ok_e1 hlv) (cwV 1 hts gX3_take_X1_isAbove rfl rfl rfl (by decide +kernel) ⟨Nat.le_of_ble_eq_true rfl, Nat.le_of_ble_eq_true rfl⟩) (fw_preVR hN hKc hPc (ci := 1) (q0 := 0) rfl rfl) rfl rfl hl.1 rfl (lv_room (Nat.le_of_ble_eq_true rfl)) dX3_take_26 ⟨Nat.le_of_ble_eq_true rfl, Nat.le_of_ble_eq_true rfl⟩).run (fun r_26 hr_26 => ?_)
    obtain rfl : r_26 = zI (pv_above N X cr lv) := by rw [hr_26, pv_above_v hN48 v_e1]
    refine lv_if_ne (tgt := 37) hx hb dX3_take_29 (by decide) (fun c_29 => ?_) (fun c_29 => ?_)
    · -- then 29
      have h29 := zI_ne0.mp c_29
      have z1 : tk_m true N X lv mr cr = true := by unfold tk_m; rw [if_pos rfl]; exact h29
      have z2 : tk_t true tm N X lv mr = tm := by unfold tk_t; rw [if_pos rfl]
      have hP := hP.sub (ws' := [(f0, .inr (3, [v0, .ref c0, v2, .int (nI lv), .int (nI mr), .int (nI cr)])), (c0, .inr (0, [.ref s0, .ref t0])), (s0, .inr (1, [.ref sa])), (sa, .inl (cJ, 17, .inr (.inl (fun j => lN (e1 j))))), (t0, .inr (1, [.ref ta])), (ta, .inl (cJ, 17, .inr (.inl (fun j => lN (e2 j))))), (h0, .inr (2, [.ref ea, .ref pa, .int (nI (hv_s s)), .int (nI (hv_o s o)), .int (nI Dd), .int (nI N), .int (nI X), .int (zI true), .int (nI tm), v9, v10])), (ea, .inl (cI, 48, .inl ((upd e (hv_slot s o) x)))), (pa, .inl (cZ, 48, .inl (fun j => zI ((va_up b (hv_slot s o) q) j))))]) [2, 3, 4, 5, 6, 7, 8, 0, 1] rfl
      have hD := hD.sub (ws' := [(f0, .inr (3, [v0, .ref c0, v2, .int (nI lv), .int (nI mr), .int (nI cr)])), (c0, .inr (0, [.ref s0, .ref t0])), (s0, .inr (1, [.ref sa])), (sa, .inl (cJ, 17, .inr (.inl (fun j => lN (e1 j))))), (t0, .inr (1, [.ref ta])), (ta, .inl (cJ, 17, .inr (.inl (fun j => lN (e2 j))))), (h0, .inr (2, [.ref ea, .ref pa, .int (nI (hv_s s)), .int (nI (hv_o s o)), .int (nI Dd), .int (nI N), .int (nI X), .int (zI true), .int (nI tm), v9, v10])), (ea, .inl (cI, 48, .inl ((upd e (hv_slot s o) x)))), (pa, .inl (cZ, 48, .inl (fun j => zI ((va_up b (hv_slot s o) q) j))))]) [2, 3, 4, 5, 6, 7, 8, 0, 1] (by decide) rfl
      have hP : va_P (dC, dI) vwCl [(f0, .inr (3, [v0, .ref c0, v2, .int (nI lv), .int (nI mr), .int (nI cr)])), (c0, .inr (0, [.ref s0, .ref t0])), (s0, .inr (1, [.ref sa])), (sa, .inl (cJ, 17, .inr (.inl (fun j => lN (e1 j))))), (t0, .inr (1, [.ref ta])), (ta, .inl (cJ, 17, .inr (.inl (fun j => lN (e2 j))))), (h0, .inr (2, [.ref ea, .ref pa, .int (nI (hv_s s)), .int (nI (hv_o s o)), .int (nI Dd), .int (nI N), .int (nI X), .int (zI (tk_m true N X lv mr cr)), .int (nI (tk_t true tm N X lv mr)), v9, v10])), (ea, .inl (cI, 48, .inl ((upd e (hv_slot s o) x)))), (pa, .inl (cZ, 48, .inl (fun j => zI ((va_up b (hv_slot s o) q) j))))] H := by rw [z1, z2]; exact hP
      have hD : va_D A [(f0, .inr (3, [v0, .ref c0, v2, .int (nI lv), .int (nI mr), .int (nI cr)])), (c0, .inr (0, [.ref s0, .ref t0])), (s0, .inr (1, [.ref sa])), (sa, .inl (cJ, 17, .inr (.inl (fun j => lN (e1 j))))), (t0, .inr (1, [.ref ta])), (ta, .inl (cJ, 17, .inr (.inl (fun j => lN (e2 j))))), (h0, .inr (2, [.ref ea, .ref pa, .int (nI (hv_s s)), .int (nI (hv_o s o)), .int (nI Dd), .int (nI N), .int (nI X), .int (zI (tk_m true N X lv mr cr)), .int (nI (tk_t true tm N X lv mr)), v9, v10])), (ea, .inl (cI, 48, .inl ((upd e (hv_slot s o) x)))), (pa, .inl (cZ, 48, .inl (fun j => zI ((va_up b (hv_slot s o) q) j))))] := by rw [z1, z2]; exact hD
      have hP9 := hP.sub (ws' := [(f0, .inr (3, [v0, .ref c0, v2, .int (nI lv), .int (nI mr), .int (nI cr)])), (c0, .inr (0, [.ref s0, .ref t0])), (s0, .inr (1, [.ref sa])), (sa, .inl (cJ, 17, .inr (.inl (fun j => lN (e1 j))))), (t0, .inr (1, [.ref ta])), (ta, .inl (cJ, 17, .inr (.inl (fun j => lN (e2 j))))), (h0, .inr (2, [.ref ea, .ref pa, .int (nI (hv_s s)), .int (nI (hv_o s o)), .int (nI Dd), .int (nI N), .int (nI X), .int (zI (tk_m true N X lv mr cr)), .int (nI (tk_t true tm N X lv mr)), v9, v10])), (ea, .inl (cI, 48, .inl ((upd e (hv_slot s o) x)))), (pa, .inl (cZ, 48, .inl (fun j => zI ((va_up b (hv_slot s o) q) j))))]) [0, 1, 2, 3, 4, 5, 6, 7, 8] rfl
      have hD9 := hD.sub (ws' := [(f0, .inr (3, [v0, .ref c0, v2, .int (nI lv), .int (nI mr), .int (nI cr)])), (c0, .inr (0, [.ref s0, .ref t0])), (s0, .inr (1, [.ref sa])), (sa, .inl (cJ, 17, .inr (.inl (fun j => lN (e1 j))))), (t0, .inr (1, [.ref ta])), (ta, .inl (cJ, 17, .inr (.inl (fun j => lN (e2 j))))), (h0, .inr (2, [.ref ea, .ref pa, .int (nI (hv_s s)), .int (nI (hv_o s o)), .int (nI Dd), .int (nI N), .int (nI X), .int (zI (tk_m true N X lv mr cr)), .int (nI (tk_t true tm N X lv mr)), v9, v10])), (ea, .inl (cI, 48, .inl ((upd e (hv_slot s o) x)))), (pa, .inl (cZ, 48, .inl (fun j => zI ((va_up b (hv_slot s o) q) j))))]) [0, 1, 2, 3, 4, 5, 6, 7, 8] (by decide) rfl
      have hK9 := hK.sub (tys' := [(cJ, .long), (cI, .int), (cZ, .boolean)]) [0, 1, 2] rfl
      exact W.vret hx hb hr (fun zt zht hW => ⟨⟨(e1, e2), rfl, trivial, by rw [zht]; exact hP9, va_K.moved hW.alike hK9, hD9⟩, hS.F zht⟩) hS.2.2 dX3_take_37 hlocks
    · -- else 29
      have h29 := zI_eq0.mp c_29
      refine lv_aload_n hx hb dX3_take_32 rfl (lv_at hl 1 rfl) ?_
      refine lv_iconst (v := 0) hx hb dX3_take_33 (by decide) ?_
      refine va_putN (D := (dC, dI)) (ci := 2) (v := .int 0) (ty := .boolean) (C := RX2) (T := TX2) (N := 11) hx hb hts (by decide +kernel) tyX2 tyX2_ok nmX2 hown hK hP hD hS 8 rfl rfl 7 (by decide) (va_Nw.use rfl (hN.2.2.2.2.2.1)) (fun _ h9 => h9) rfl (by decide +kernel) rfl rfl (Nat.le_of_ble_eq_true rfl) dX3_take_34 (fun H locs hP hD hS => ?_)
      have hP : va_P (dC, dI) vwCl [(ea, .inl (cI, 48, .inl ((upd e (hv_slot s o) x)))), (pa, .inl (cZ, 48, .inl (fun j => zI ((va_up b (hv_slot s o) q) j)))), (f0, .inr (3, [v0, .ref c0, v2, .int (nI lv), .int (nI mr), .int (nI cr)])), (c0, .inr (0, [.ref s0, .ref t0])), (s0, .inr (1, [.ref sa])), (sa, .inl (cJ, 17, .inr (.inl (fun j => lN (e1 j))))), (t0, .inr (1, [.ref ta])), (ta, .inl (cJ, 17, .inr (.inl (fun j => lN (e2 j))))), (h0, .inr (2, [.ref ea, .ref pa, .int (nI (hv_s s)), .int (nI (hv_o s o)), .int (nI Dd), .int (nI N), .int (nI X), .int 0, .int (nI tm), v9, v10]))] H := hP
      have hD : va_D A [(ea, .inl (cI, 48, .inl ((upd e (hv_slot s o) x)))), (pa, .inl (cZ, 48, .inl (fun j => zI ((va_up b (hv_slot s o) q) j)))), (f0, .inr (3, [v0, .ref c0, v2, .int (nI lv), .int (nI mr), .int (nI cr)])), (c0, .inr (0, [.ref s0, .ref t0])), (s0, .inr (1, [.ref sa])), (sa, .inl (cJ, 17, .inr (.inl (fun j => lN (e1 j))))), (t0, .inr (1, [.ref ta])), (ta, .inl (cJ, 17, .inr (.inl (fun j => lN (e2 j))))), (h0, .inr (2, [.ref ea, .ref pa, .int (nI (hv_s s)), .int (nI (hv_o s o)), .int (nI Dd), .int (nI N), .int (nI X), .int 0, .int (nI tm), v9, v10]))] := hD
      have z1 : tk_m true N X lv mr cr = false := by unfold tk_m; rw [if_pos rfl]; exact h29
      have z2 : tk_t true tm N X lv mr = tm := by unfold tk_t; rw [if_pos rfl]
      have hP := hP.sub (ws' := [(f0, .inr (3, [v0, .ref c0, v2, .int (nI lv), .int (nI mr), .int (nI cr)])), (c0, .inr (0, [.ref s0, .ref t0])), (s0, .inr (1, [.ref sa])), (sa, .inl (cJ, 17, .inr (.inl (fun j => lN (e1 j))))), (t0, .inr (1, [.ref ta])), (ta, .inl (cJ, 17, .inr (.inl (fun j => lN (e2 j))))), (h0, .inr (2, [.ref ea, .ref pa, .int (nI (hv_s s)), .int (nI (hv_o s o)), .int (nI Dd), .int (nI N), .int (nI X), .int 0, .int (nI tm), v9, v10])), (ea, .inl (cI, 48, .inl ((upd e (hv_slot s o) x)))), (pa, .inl (cZ, 48, .inl (fun j => zI ((va_up b (hv_slot s o) q) j))))]) [2, 3, 4, 5, 6, 7, 8, 0, 1] rfl
      have hD := hD.sub (ws' := [(f0, .inr (3, [v0, .ref c0, v2, .int (nI lv), .int (nI mr), .int (nI cr)])), (c0, .inr (0, [.ref s0, .ref t0])), (s0, .inr (1, [.ref sa])), (sa, .inl (cJ, 17, .inr (.inl (fun j => lN (e1 j))))), (t0, .inr (1, [.ref ta])), (ta, .inl (cJ, 17, .inr (.inl (fun j => lN (e2 j))))), (h0, .inr (2, [.ref ea, .ref pa, .int (nI (hv_s s)), .int (nI (hv_o s o)), .int (nI Dd), .int (nI N), .int (nI X), .int 0, .int (nI tm), v9, v10])), (ea, .inl (cI, 48, .inl ((upd e (hv_slot s o) x)))), (pa, .inl (cZ, 48, .inl (fun j => zI ((va_up b (hv_slot s o) q) j))))]) [2, 3, 4, 5, 6, 7, 8, 0, 1] (by decide) rfl
      have hP : va_P (dC, dI) vwCl [(f0, .inr (3, [v0, .ref c0, v2, .int (nI lv), .int (nI mr), .int (nI cr)])), (c0, .inr (0, [.ref s0, .ref t0])), (s0, .inr (1, [.ref sa])), (sa, .inl (cJ, 17, .inr (.inl (fun j => lN (e1 j))))), (t0, .inr (1, [.ref ta])), (ta, .inl (cJ, 17, .inr (.inl (fun j => lN (e2 j))))), (h0, .inr (2, [.ref ea, .ref pa, .int (nI (hv_s s)), .int (nI (hv_o s o)), .int (nI Dd), .int (nI N), .int (nI X), .int (zI (tk_m true N X lv mr cr)), .int (nI (tk_t true tm N X lv mr)), v9, v10])), (ea, .inl (cI, 48, .inl ((upd e (hv_slot s o) x)))), (pa, .inl (cZ, 48, .inl (fun j => zI ((va_up b (hv_slot s o) q) j))))] H := by rw [z1, z2]; exact hP
      have hD : va_D A [(f0, .inr (3, [v0, .ref c0, v2, .int (nI lv), .int (nI mr), .int (nI cr)])), (c0, .inr (0, [.ref s0, .ref t0])), (s0, .inr (1, [.ref sa])), (sa, .inl (cJ, 17, .inr (.inl (fun j => lN (e1 j))))), (t0, .inr (1, [.ref ta])), (ta, .inl (cJ, 17, .inr (.inl (fun j => lN (e2 j))))), (h0, .inr (2, [.ref ea, .ref pa, .int (nI (hv_s s)), .int (nI (hv_o s o)), .int (nI Dd), .int (nI N), .int (nI X), .int (zI (tk_m true N X lv mr cr)), .int (nI (tk_t true tm N X lv mr)), v9, v10])), (ea, .inl (cI, 48, .inl ((upd e (hv_slot s o) x)))), (pa, .inl (cZ, 48, .inl (fun j => zI ((va_up b (hv_slot s o) q) j))))] := by rw [z1, z2]; exact hD
      have hP9 := hP.sub (ws' := [(f0, .inr (3, [v0, .ref c0, v2, .int (nI lv), .int (nI mr), .int (nI cr)])), (c0, .inr (0, [.ref s0, .ref t0])), (s0, .inr (1, [.ref sa])), (sa, .inl (cJ, 17, .inr (.inl (fun j => lN (e1 j))))), (t0, .inr (1, [.ref ta])), (ta, .inl (cJ, 17, .inr (.inl (fun j => lN (e2 j))))), (h0, .inr (2, [.ref ea, .ref pa, .int (nI (hv_s s)), .int (nI (hv_o s o)), .int (nI Dd), .int (nI N), .int (nI X), .int (zI (tk_m true N X lv mr cr)), .int (nI (tk_t true tm N X lv mr)), v9, v10])), (ea, .inl (cI, 48, .inl ((upd e (hv_slot s o) x)))), (pa, .inl (cZ, 48, .inl (fun j => zI ((va_up b (hv_slot s o) q) j))))]) [0, 1, 2, 3, 4, 5, 6, 7, 8] rfl
      have hD9 := hD.sub (ws' := [(f0, .inr (3, [v0, .ref c0, v2, .int (nI lv), .int (nI mr), .int (nI cr)])), (c0, .inr (0, [.ref s0, .ref t0])), (s0, .inr (1, [.ref sa])), (sa, .inl (cJ, 17, .inr (.inl (fun j => lN (e1 j))))), (t0, .inr (1, [.ref ta])), (ta, .inl (cJ, 17, .inr (.inl (fun j => lN (e2 j))))), (h0, .inr (2, [.ref ea, .ref pa, .int (nI (hv_s s)), .int (nI (hv_o s o)), .int (nI Dd), .int (nI N), .int (nI X), .int (zI (tk_m true N X lv mr cr)), .int (nI (tk_t true tm N X lv mr)), v9, v10])), (ea, .inl (cI, 48, .inl ((upd e (hv_slot s o) x)))), (pa, .inl (cZ, 48, .inl (fun j => zI ((va_up b (hv_slot s o) q) j))))]) [0, 1, 2, 3, 4, 5, 6, 7, 8] (by decide) rfl
      have hK9 := hK.sub (tys' := [(cJ, .long), (cI, .int), (cZ, .boolean)]) [0, 1, 2] rfl
      exact W.vret hx hb hr (fun zt zht hW => ⟨⟨(e1, e2), rfl, trivial, by rw [zht]; exact hP9, va_K.moved hW.alike hK9, hD9⟩, hS.F zht⟩) hS.2.2 dX3_take_37 hlocks
