set_option maxHeartbeats 4000000 in
set_option maxRecDepth 100000 in
theorem c_ref_digit (l : Launch) (dC : Nat → ClassId) (dI : Nat → Nat → Nat) (m0 su : Nat) (cJ : ClassId) (v0 v1 v2 v3 v4 v5 v6 v7 v8 v9 v10 v12 v13 : Value) (d : Nat → Nat) (p : Nat) (hd : rd_ok d) (hp : p < 192) : Met l yX4_digit wsX4_digit ({ frames := 0, cells := 0, slots := 0, locals := 0 } : Room) (va_Pc [.ref m0, .int (nI p)] (fw_pR (dC, dI) vwCl [(cJ, .long)] [(m0, .inr (4, [v0, v1, v2, v3, v4, v5, v6, v7, v8, v9, v10, .ref su, v12, v13])), (su, .inl (cJ, 48, .inr (.inl (fun j => lN (d j)))))])) (vp_Si (fun r => r = nI (rd_v d 48 / 10 ^ p % 10))) 0 0 (fun _ => False) := by
  refine fw_metR (cc := cX4_digit) (maxL := 5) (ret := (some .int)) (by decide) rfl (Nat.le_of_ble_eq_true rfl) ?_
  intro zp ze zs zm zbelow zmeth zc ls hx hb hr hts hown hlocks hml hin hN hP hK hl
  have hown : zs.vm.findClass RX4 = some zm.cls := hown
  have hl : lv_has ls 5 [(0, .ref m0), (1, .int (nI p))] := hl
  have hx4 := hd (p / 4) (by omega)
  refine lv_aload_n hx hb dX4_digit_0 rfl (lv_at hl 0 rfl) ?_
  refine va_get (D := (dC, dI)) (ci := 4) (v := .ref su) (C := RX4) (T := TX4) (N := 14) hx hb hts (by decide +kernel) hown hK hP 0 rfl rfl 11 (by decide) (hts (.fieldLink RX4 39 "FlakyBoundsModel" "sum" "[J") (by decide +kernel)) (fun _ h9 => h9) rfl dX4_digit_1 ?_
  refine lv_iload_n hx hb dX4_digit_4 rfl (lv_at hl 1 rfl) ?_
  refine lv_iconst (v := 4) hx hb dX4_digit_5 (by decide) ?_
  refine lv_idiv hx hb dX4_digit_6 (by decide) ?_
  refine fw_i (x' := nI (p / 4)) (pk_div (d := 4) (by omega) (by decide) (by decide)) ?_
  refine va_lald hx hb hK hP 1 0 rfl rfl (vp_in_nI (by omega) (by decide)) dX4_digit_7 ?_
  refine fw_l (x' := lN (d (p / 4) / 10 ^ (p % 4 - p % 4))) (by rw [nI_clamp (by omega), Nat.sub_self, Nat.pow_zero, Nat.div_one]) ?_
  refine lv_lstore_n (lv' := [(2, .long (lN (d (p / 4) / 10 ^ (p % 4 - p % 4)))), (0, .ref m0), (1, .int (nI p))]) hx hb dX4_digit_8 rfl hl (by decide) rfl (fun ls hl => ?_)
  refine lv_iload_n hx hb dX4_digit_9 rfl (lv_at hl 2 rfl) ?_
  refine lv_iconst (v := 4) hx hb dX4_digit_10 (by decide) ?_
  refine lv_irem hx hb dX4_digit_11 (by decide) ?_
  refine fw_i (x' := nI (p % 4)) (pk_rem (d := 4) (by omega) (by decide) (by decide)) ?_
  refine lv_istore (lv' := [(4, .int (nI (p % 4))), (2, .long (lN (d (p / 4) / 10 ^ (p % 4 - p % 4)))), (0, .ref m0), (1, .int (nI p))]) hx hb dX4_digit_12 hl (by decide) rfl (fun ls hl => ?_)
  refine fw_loopR (σ := Nat) (I := fun zn u ls => match u with | k => zn = k ∧ (k ≤ p % 4) ∧ lv_has ls 5 [(0, .ref m0), (2, .long (lN (d (p / 4) / 10 ^ (p % 4 - k)))), (4, .int (nI k))]) ?_ _ (p % 4) _ ⟨rfl, Nat.le_refl _, lv_sub hl [2, 1, 0] rfl⟩
  intro zn k ls hI ih_14
  obtain ⟨hzn, hk, hl⟩ := hI
  refine lv_iload hx hb dX4_digit_14 (lv_at hl 2 rfl) ?_
  refine lv_if_le (tgt := 31) hx hb dX4_digit_16 (by decide) (fun c_16 => ?_) (fun c_16 => ?_)
  · -- then 16
    have hk0 : k = 0 := by
      rcases Nat.eq_zero_or_pos k with q9 | q9
      · exact q9
      · exact absurd c_16 (nI_nle q9 (by omega))
    refine lv_lload_n hx hb dX4_digit_31 rfl (lv_at hl 1 rfl) ?_
    refine lv_ldc2 (v := 10) hx hb hown (hts (.constantLong RX4 123 10) (by decide +kernel)) dX4_digit_32 ?_
    refine lv_lrem hx hb dX4_digit_35 (by decide) ?_
    refine fw_l (x' := lN (d (p / 4) / 10 ^ (p % 4 - k) % 10)) (pk_lRem (b := 10) (Nat.lt_of_le_of_lt (Nat.div_le_self _ _) (by omega)) (by decide) (by decide)) ?_
    refine lv_l2i (v := nI (d (p / 4) / 10 ^ (p % 4 - k) % 10)) hx hb dX4_digit_36 (lN_i _) ?_
    exact W.iret (v := (nI (d (p / 4) / 10 ^ (p % 4 - k) % 10))) hx hb hr (fun zt zht _ => ⟨(nI (d (p / 4) / 10 ^ (p % 4 - k) % 10)), rfl, by rw [hk0, Nat.sub_zero, rd_digit hd hp], zht⟩) (fun q h => by cases h) dX4_digit_37 hlocks
  · -- else 16
    have hk0 : 0 < k := by
      rcases Nat.eq_zero_or_pos k with q9 | q9
      · subst q9
        exact absurd (by decide) c_16
      · exact q9
    refine lv_lload_n hx hb dX4_digit_19 rfl (lv_at hl 1 rfl) ?_
    refine lv_ldc2 (v := 10) hx hb hown (hts (.constantLong RX4 123 10) (by decide +kernel)) dX4_digit_20 ?_
    have e23 : lN (d (p / 4) / 10 ^ (p % 4 - k)) / 10 = lN (d (p / 4) / 10 ^ (p % 4 - (k - 1))) := by
      rw [show p % 4 - (k - 1) = (p % 4 - k) + 1 by omega]
      exact lN_cut _ (by omega)
    refine lv_ldiv hx hb dX4_digit_23 (by decide) ?_
    refine fw_l (x' := lN (d (p / 4) / 10 ^ (p % 4 - (k - 1)))) (e23) ?_
    refine lv_lstore_n (lv' := [(2, .long (lN (d (p / 4) / 10 ^ (p % 4 - (k - 1))))), (0, .ref m0), (4, .int (nI k))]) hx hb dX4_digit_24 rfl hl (by decide) rfl (fun ls hl => ?_)
    refine lv_iinc (v := nI (k - 1)) (lv' := [(4, .int (nI (k - 1))), (2, .long (lN (d (p / 4) / 10 ^ (p % 4 - (k - 1))))), (0, .ref m0)]) hx hb dX4_digit_25 hl (k := 2) rfl (sb_m1 hk0) (by decide) rfl (fun ls hl => ?_)
    refine lv_goto (tgt := 14) hx hb dX4_digit_28 (by decide) ?_
    exact ih_14 _ (k - 1) _ (by omega) ⟨rfl, by omega, lv_sub hl [2, 1, 0] rfl⟩
set_option maxHeartbeats 4000000 in
set_option maxRecDepth 100000 in
theorem c_ref_sharep (l : Launch) (dC : Nat → ClassId) (dI : Nat → Nat → Nat) (m0 pz pr pm pk pj pf su te wh : Nat) (cI cJ cZ : ClassId) (n lv mr cr : Nat) (zf rn : Nat → Nat) (mkf : Nat → Bool) (mt : Nat → Nat) (jd : Nat → Int32) (fl ds dt dw : Nat → Nat) (t j g : Nat) (most : Bool) (sz : Nat) (hn12 : n ≤ 12) (hz : ∀ i, i < 12 → zf i ≤ 48) (hrn : ∀ j, j < 576 → rn j < 2000) (hlv : lv ≤ 999) (hmr : mr ≤ 1000) (hcr : cr ≤ 1000) (ht : t < n) (hj : j ≤ 1000) (hg1 : 1 ≤ g) (hg : g ≤ 18) : Met l yX4_share wsX4_share ({ frames := 4, cells := 0, slots := 0, locals := 95 } : Room) (va_Pc [.ref m0, .int (nI t), .int (nI j), .int (zI most), .int (nI g)] (fw_pW (dC, dI) vwCl [(cI, .int), (cJ, .long), (cZ, .boolean)] [(m0, .inr (4, [.int 0, .int (nI n), .int (nI lv), .int (nI mr), .int (nI cr), .ref pz, .ref pr, .ref pm, .ref pk, .ref pj, .ref pf, .ref su, .ref te, .ref wh])), (pz, .inl (cI, 12, .inl (fun j => nI (zf j)))), (pr, .inl (cI, 576, .inl (fun j => nI (rn j)))), (pm, .inl (cZ, 12, .inl (fun j => zI (mkf j)))), (pk, .inl (cI, 12, .inl (fun j => nI (mt j)))), (pj, .inl (cI, 12, .inl (jd))), (pf, .inl (cI, 12, .inl (fun j => nI (fl j)))), (su, .inl (cJ, 48, .inr (.inl (fun j => lN (ds j))))), (te, .inl (cJ, 48, .inr (.inl (fun j => lN (dt j))))), (wh, .inl (cJ, 48, .inr (.inl (fun j => lN (dw j)))))] sz)) (va_Ql (S := (Nat → Nat) × (Nat → Nat)) (fun r _ => r = lN (sg_v (sh_v most (rN zf rn t) (rX zf rn t) j) (3 * (rN zf rn t)) (g + 1))) (fun u zt => fw_q (dC, dI) vwCl [(cI, .int), (cJ, .long), (cZ, .boolean)] (va_A [(m0, .inr (4, [.int 0, .int (nI n), .int (nI lv), .int (nI mr), .int (nI cr), .ref pz, .ref pr, .ref pm, .ref pk, .ref pj, .ref pf, .ref su, .ref te, .ref wh])), (pz, .inl (cI, 12, .inl (fun j => nI (zf j)))), (pr, .inl (cI, 576, .inl (fun j => nI (rn j)))), (pm, .inl (cZ, 12, .inl (fun j => zI (mkf j)))), (pk, .inl (cI, 12, .inl (fun j => nI (mt j)))), (pj, .inl (cI, 12, .inl (jd))), (pf, .inl (cI, 12, .inl (fun j => nI (fl j)))), (su, .inl (cJ, 48, .inr (.inl (fun j => lN (ds j))))), (te, .inl (cJ, 48, .inr (.inl (fun j => lN (dt j))))), (wh, .inl (cJ, 48, .inr (.inl (fun j => lN (dw j)))))] sz) [(m0, .inr (4, [.int 0, .int (nI n), .int (nI lv), .int (nI mr), .int (nI cr), .ref pz, .ref pr, .ref pm, .ref pk, .ref pj, .ref pf, .ref su, .ref te, .ref wh])), (pz, .inl (cI, 12, .inl (fun j => nI (zf j)))), (pr, .inl (cI, 576, .inl (fun j => nI (rn j)))), (pm, .inl (cZ, 12, .inl (fun j => zI (mkf j)))), (pk, .inl (cI, 12, .inl (fun j => nI (mt j)))), (pj, .inl (cI, 12, .inl (jd))), (pf, .inl (cI, 12, .inl (fun j => nI (fl j)))), (su, .inl (cJ, 48, .inr (.inl (fun j => lN (u.1 j))))), (te, .inl (cJ, 48, .inr (.inl (fun j => lN (u.2 j))))), (wh, .inl (cJ, 48, .inr (.inl (fun j => lN (dw j)))))] zt) (va_A [(m0, .inr (4, [.int 0, .int (nI n), .int (nI lv), .int (nI mr), .int (nI cr), .ref pz, .ref pr, .ref pm, .ref pk, .ref pj, .ref pf, .ref su, .ref te, .ref wh])), (pz, .inl (cI, 12, .inl (fun j => nI (zf j)))), (pr, .inl (cI, 576, .inl (fun j => nI (rn j)))), (pm, .inl (cZ, 12, .inl (fun j => zI (mkf j)))), (pk, .inl (cI, 12, .inl (fun j => nI (mt j)))), (pj, .inl (cI, 12, .inl (jd))), (pf, .inl (cI, 12, .inl (fun j => nI (fl j)))), (su, .inl (cJ, 48, .inr (.inl (fun j => lN (ds j))))), (te, .inl (cJ, 48, .inr (.inl (fun j => lN (dt j))))), (wh, .inl (cJ, 48, .inr (.inl (fun j => lN (dw j)))))] sz)) 0 0 (va_A [(m0, .inr (4, [.int 0, .int (nI n), .int (nI lv), .int (nI mr), .int (nI cr), .ref pz, .ref pr, .ref pm, .ref pk, .ref pj, .ref pf, .ref su, .ref te, .ref wh])), (pz, .inl (cI, 12, .inl (fun j => nI (zf j)))), (pr, .inl (cI, 576, .inl (fun j => nI (rn j)))), (pm, .inl (cZ, 12, .inl (fun j => zI (mkf j)))), (pk, .inl (cI, 12, .inl (fun j => nI (mt j)))), (pj, .inl (cI, 12, .inl (jd))), (pf, .inl (cI, 12, .inl (fun j => nI (fl j)))), (su, .inl (cJ, 48, .inr (.inl (fun j => lN (ds j))))), (te, .inl (cJ, 48, .inr (.inl (fun j => lN (dt j))))), (wh, .inl (cJ, 48, .inr (.inl (fun j => lN (dw j)))))] sz) := by
  refine fw_metW (cc := cX4_share) (maxL := 9) (ret := (some .long)) (by decide) rfl (Nat.le_of_ble_eq_true rfl) ?_
  intro zp ze zs zm zbelow zmeth zc ls hx hb hr hts hown hlocks hml hin hN hsz hP hK hD hA hS hl
  generalize hAe : (va_A [(m0, .inr (4, [.int 0, .int (nI n), .int (nI lv), .int (nI mr), .int (nI cr), .ref pz, .ref pr, .ref pm, .ref pk, .ref pj, .ref pf, .ref su, .ref te, .ref wh])), (pz, .inl (cI, 12, .inl (fun j => nI (zf j)))), (pr, .inl (cI, 576, .inl (fun j => nI (rn j)))), (pm, .inl (cZ, 12, .inl (fun j => zI (mkf j)))), (pk, .inl (cI, 12, .inl (fun j => nI (mt j)))), (pj, .inl (cI, 12, .inl (jd))), (pf, .inl (cI, 12, .inl (fun j => nI (fl j)))), (su, .inl (cJ, 48, .inr (.inl (fun j => lN (ds j))))), (te, .inl (cJ, 48, .inr (.inl (fun j => lN (dt j))))), (wh, .inl (cJ, 48, .inr (.inl (fun j => lN (dw j)))))] sz) = A at hD hA hS ⊢
  have hown : zs.vm.findClass RX4 = some zm.cls := hown
  have hl : lv_has ls 9 [(0, .ref m0), (1, .int (nI t)), (2, .int (nI j)), (3, .int (zI most)), (4, .int (nI g))] := hl
  refine lv_aload_n hx hb dX4_share_0 rfl (lv_at hl 0 rfl) ?_
  refine lv_iconst (v := 0) hx hb dX4_share_1 (by decide) ?_
  refine va_put (D := (dC, dI)) (ci := 4) (v := .int 0) (ty := .int) (C := RX4) (T := TX4) (N := 14) hx hb hts (by decide +kernel) tyX4 tyX4_ok nmX4 hown hK hP hD hS 0 rfl rfl 0 (by decide) (hts (.fieldLink RX4 49 "FlakyBoundsModel" "thrown" "I") (by decide +kernel)) (fun _ h9 => h9) rfl (by decide +kernel) rfl rfl (Nat.le_of_ble_eq_true rfl) dX4_share_2 (fun H locs hP hD hS => ?_)
  have hP : va_P (dC, dI) vwCl [(m0, .inr (4, [.int 0, .int (nI n), .int (nI lv), .int (nI mr), .int (nI cr), .ref pz, .ref pr, .ref pm, .ref pk, .ref pj, .ref pf, .ref su, .ref te, .ref wh])), (pz, .inl (cI, 12, .inl (fun j => nI (zf j)))), (pr, .inl (cI, 576, .inl (fun j => nI (rn j)))), (pm, .inl (cZ, 12, .inl (fun j => zI (mkf j)))), (pk, .inl (cI, 12, .inl (fun j => nI (mt j)))), (pj, .inl (cI, 12, .inl (jd))), (pf, .inl (cI, 12, .inl (fun j => nI (fl j)))), (su, .inl (cJ, 48, .inr (.inl (fun j => lN (ds j))))), (te, .inl (cJ, 48, .inr (.inl (fun j => lN (dt j))))), (wh, .inl (cJ, 48, .inr (.inl (fun j => lN (dw j)))))] H := hP
  have hD : va_D A [(m0, .inr (4, [.int 0, .int (nI n), .int (nI lv), .int (nI mr), .int (nI cr), .ref pz, .ref pr, .ref pm, .ref pk, .ref pj, .ref pf, .ref su, .ref te, .ref wh])), (pz, .inl (cI, 12, .inl (fun j => nI (zf j)))), (pr, .inl (cI, 576, .inl (fun j => nI (rn j)))), (pm, .inl (cZ, 12, .inl (fun j => zI (mkf j)))), (pk, .inl (cI, 12, .inl (fun j => nI (mt j)))), (pj, .inl (cI, 12, .inl (jd))), (pf, .inl (cI, 12, .inl (fun j => nI (fl j)))), (su, .inl (cJ, 48, .inr (.inl (fun j => lN (ds j))))), (te, .inl (cJ, 48, .inr (.inl (fun j => lN (dt j))))), (wh, .inl (cJ, 48, .inr (.inl (fun j => lN (dw j)))))] := hD
  refine lv_aload_n hx hb dX4_share_5 rfl (lv_at hl 0 rfl) ?_
  refine lv_iload_n hx hb dX4_share_6 rfl (lv_at hl 1 rfl) ?_
  have hPc := hP.sub (ws' := [(m0, .inr (4, [.int 0, .int (nI n), .int (nI lv), .int (nI mr), .int (nI cr), .ref pz, .ref pr, .ref pm, .ref pk, .ref pj, .ref pf, .ref su, .ref te, .ref wh]))]) [0] rfl
  have hKc := hK.sub (tys' := []) [] rfl
  refine vp_callSi (va_runV (As := [.int (nI t)]) (rest := []) ⟨hx, hb, hml, hown, hts⟩ (c_ref_isTest l dC dI m0 (.int 0) (.int (nI lv)) (.int (nI mr)) (.int (nI cr)) (.ref pz) (.ref pr) (.ref pm) (.ref pk) (.ref pj) (.ref pf) (.ref su) (.ref te) (.ref wh) n (nI t)) (cwV 1 hts gX4_share_X4_isTest rfl rfl rfl (by decide +kernel) ⟨Nat.le_of_ble_eq_true rfl, Nat.le_of_ble_eq_true rfl⟩) (fw_preVR hN hKc hPc (ci := 4) (q0 := 0) rfl rfl) rfl rfl hl.1 rfl (lv_room (Nat.le_of_ble_eq_true rfl)) dX4_share_7 ⟨Nat.le_of_ble_eq_true rfl, Nat.le_of_ble_eq_true rfl⟩).run (fun r_7 hr_7 => ?_)
  obtain rfl : r_7 = zI (fv_te n (nI t)) := hr_7
  refine lv_if_eq (tgt := 37) hx hb dX4_share_10 (by decide) (fun c_10 => absurd c_10 (by rw [fv_te_nI ht (by omega)]; decide)) (fun _ => ?_)
  refine lv_iload_n hx hb dX4_share_13 rfl (lv_at hl 2 rfl) ?_
  refine lv_if_lt (tgt := 37) hx hb dX4_share_14 (by decide) (fun c_14 => absurd c_14 (nI_pos (by omega))) (fun _ => ?_)
  refine lv_iload_n hx hb dX4_share_17 rfl (lv_at hl 2 rfl) ?_
  refine lv_sipush (v := 1000) hx hb dX4_share_18 (by decide) ?_
  refine lv_icmp_gt (tgt := 37) hx hb dX4_share_21 (by decide) (fun c_21 => absurd c_21 (nI_nlt (a := 1000) (b := j) hj (by decide))) (fun _ => ?_)
  refine lv_iload hx hb dX4_share_24 (lv_at hl 4 rfl) ?_
  refine lv_iconst (v := 1) hx hb dX4_share_26 (by decide) ?_
  refine lv_icmp_lt (tgt := 37) hx hb dX4_share_27 (by decide) (fun c_27 => absurd c_27 (nI_nlt (a := g) (b := 1) hg1 (by omega))) (fun _ => ?_)
  refine lv_iload hx hb dX4_share_30 (lv_at hl 4 rfl) ?_
  refine lv_bipush (v := 18) hx hb dX4_share_32 (by decide) ?_
  refine lv_icmp_le (tgt := 41) hx hb dX4_share_34 (by decide) (fun _ => ?_) (fun c_34 => absurd (nI_le (a := g) (b := 18) hg (by decide)) c_34)
  refine lv_aload_n hx hb dX4_share_41 rfl (lv_at hl 0 rfl) ?_
  refine lv_iload_n hx hb dX4_share_42 rfl (lv_at hl 1 rfl) ?_
  refine lv_iload_n hx hb dX4_share_43 rfl (lv_at hl 2 rfl) ?_
  refine lv_iload_n hx hb dX4_share_44 rfl (lv_at hl 3 rfl) ?_
  have hPc := hP.sub (ws' := [(m0, .inr (4, [.int 0, .int (nI n), .int (nI lv), .int (nI mr), .int (nI cr), .ref pz, .ref pr, .ref pm, .ref pk, .ref pj, .ref pf, .ref su, .ref te, .ref wh])), (pz, .inl (cI, 12, .inl (fun j => nI (zf j)))), (pr, .inl (cI, 576, .inl (fun j => nI (rn j)))), (su, .inl (cJ, 48, .inr (.inl (fun j => lN (ds j))))), (te, .inl (cJ, 48, .inr (.inl (fun j => lN (dt j)))))]) [0, 1, 2, 7, 8] rfl
  have hKc := hK.sub (tys' := [(cI, .int), (cJ, .long)]) [0, 1] rfl
  have hDc := hD.sub (ws' := [(m0, .inr (4, [.int 0, .int (nI n), .int (nI lv), .int (nI mr), .int (nI cr), .ref pz, .ref pr, .ref pm, .ref pk, .ref pj, .ref pf, .ref su, .ref te, .ref wh])), (pz, .inl (cI, 12, .inl (fun j => nI (zf j)))), (pr, .inl (cI, 576, .inl (fun j => nI (rn j)))), (su, .inl (cJ, 48, .inr (.inl (fun j => lN (ds j))))), (te, .inl (cJ, 48, .inr (.inl (fun j => lN (dt j)))))]) [0, 1, 2, 7, 8] (by decide) rfl
  have hFc := va_free (wc := [(m0, .inr (4, [.int 0, .int (nI n), .int (nI lv), .int (nI mr), .int (nI cr), .ref pz, .ref pr, .ref pm, .ref pk, .ref pj, .ref pf, .ref su, .ref te, .ref wh])), (pz, .inl (cI, 12, .inl (fun j => nI (zf j)))), (pr, .inl (cI, 576, .inl (fun j => nI (rn j)))), (su, .inl (cJ, 48, .inr (.inl (fun j => lN (ds j))))), (te, .inl (cJ, 48, .inr (.inl (fun j => lN (dt j)))))]) hD hS hA [0, 1, 2, 7, 8] rfl
  refine va_callv (va_runV (As := [.int (nI t), .int (nI j), .int (zI most)]) (rest := []) ⟨hx, hb, hml, hown, hts⟩ (c_ref_share l dC dI m0 pz pr su te cI cJ (.int 0) (.int (nI n)) (.int (nI lv)) (.int (nI mr)) (.int (nI cr)) (.ref pm) (.ref pk) (.ref pj) (.ref pf) (.ref wh) zf rn ds dt t j most H.size (by omega) (hz t (by omega)) hrn hj) (cwV 3 hts gX4_share_X4_shareOf rfl rfl rfl (by decide +kernel) ⟨Nat.le_of_ble_eq_true rfl, Nat.le_of_ble_eq_true rfl⟩) (fw_preVW hN hKc hPc hDc (ci := 4) (q0 := 0) rfl rfl) rfl rfl hl.1 rfl (lv_room (Nat.le_of_ble_eq_true rfl)) dX4_share_45 ⟨Nat.le_of_ble_eq_true rfl, Nat.le_of_ble_eq_true rfl⟩) hS (fun q _ h => hFc q h) hFc (fun u zt H1 locs zht hvm hw hB hz1 hk1 hS => ?_)
  obtain ⟨e1, e2⟩ := u
  obtain ⟨ok_e1, v_e1⟩ := hw
  obtain ⟨hP1, hK1, hD1⟩ := hB
  rw [zht] at hP1
  have ok_e1 : rd_ok e1 := ok_e1
  have v_e1 : rd_v e1 48 = (sh_v most (rN zf rn t) (rX zf rn t) j) := v_e1
  obtain ⟨hP, hD⟩ := va_join (wr := [(pm, .inl (cZ, 12, .inl (fun j => zI (mkf j)))), (pk, .inl (cI, 12, .inl (fun j => nI (mt j)))), (pj, .inl (cI, 12, .inl (jd))), (pf, .inl (cI, 12, .inl (fun j => nI (fl j)))), (wh, .inl (cJ, 48, .inr (.inl (fun j => lN (dw j)))))]) (w1 := [(m0, .inr (4, [.int 0, .int (nI n), .int (nI lv), .int (nI mr), .int (nI cr), .ref pz, .ref pr, .ref pm, .ref pk, .ref pj, .ref pf, .ref su, .ref te, .ref wh])), (pz, .inl (cI, 12, .inl (fun j => nI (zf j)))), (pr, .inl (cI, 576, .inl (fun j => nI (rn j)))), (su, .inl (cJ, 48, .inr (.inl (fun j => lN (e1 j))))), (te, .inl (cJ, 48, .inr (.inl (fun j => lN (e2 j)))))]) hP hD [0, 1, 2, 7, 8] [3, 4, 5, 6, 9] rfl rfl (by decide) (by decide) hk1 hFc hP1 hD1
  generalize H1 = H at hP hS ⊢
  have hP : va_P (dC, dI) vwCl [(pm, .inl (cZ, 12, .inl (fun j => zI (mkf j)))), (pk, .inl (cI, 12, .inl (fun j => nI (mt j)))), (pj, .inl (cI, 12, .inl (jd))), (pf, .inl (cI, 12, .inl (fun j => nI (fl j)))), (wh, .inl (cJ, 48, .inr (.inl (fun j => lN (dw j))))), (m0, .inr (4, [.int 0, .int (nI n), .int (nI lv), .int (nI mr), .int (nI cr), .ref pz, .ref pr, .ref pm, .ref pk, .ref pj, .ref pf, .ref su, .ref te, .ref wh])), (pz, .inl (cI, 12, .inl (fun j => nI (zf j)))), (pr, .inl (cI, 576, .inl (fun j => nI (rn j)))), (su, .inl (cJ, 48, .inr (.inl (fun j => lN (e1 j))))), (te, .inl (cJ, 48, .inr (.inl (fun j => lN (e2 j)))))] H := hP
  have hD : va_D A [(pm, .inl (cZ, 12, .inl (fun j => zI (mkf j)))), (pk, .inl (cI, 12, .inl (fun j => nI (mt j)))), (pj, .inl (cI, 12, .inl (jd))), (pf, .inl (cI, 12, .inl (fun j => nI (fl j)))), (wh, .inl (cJ, 48, .inr (.inl (fun j => lN (dw j))))), (m0, .inr (4, [.int 0, .int (nI n), .int (nI lv), .int (nI mr), .int (nI cr), .ref pz, .ref pr, .ref pm, .ref pk, .ref pj, .ref pf, .ref su, .ref te, .ref wh])), (pz, .inl (cI, 12, .inl (fun j => nI (zf j)))), (pr, .inl (cI, 576, .inl (fun j => nI (rn j)))), (su, .inl (cJ, 48, .inr (.inl (fun j => lN (e1 j))))), (te, .inl (cJ, 48, .inr (.inl (fun j => lN (e2 j)))))] := hD
  have hN48 : (rN zf rn t) ≤ 48 := rN_le (hz t (by omega))
  have hVP : (sh_v most (rN zf rn t) (rX zf rn t) j) ≤ 10 ^ (3 * (rN zf rn t)) := by
    have h1 := sh_le (most := most) (N := (rN zf rn t)) (X := (rX zf rn t)) hj
    rw [show (1000 : Nat) = 10 ^ 3 from rfl, ← Nat.pow_mul] at h1
    exact h1
  refine lv_iconst (v := 3) hx hb dX4_share_48 (by decide) ?_
  refine lv_aload_n hx hb dX4_share_49 rfl (lv_at hl 0 rfl) ?_
  refine lv_iload_n hx hb dX4_share_50 rfl (lv_at hl 1 rfl) ?_
  have hPc := hP.sub (ws' := [(m0, .inr (4, [.int 0, .int (nI n), .int (nI lv), .int (nI mr), .int (nI cr), .ref pz, .ref pr, .ref pm, .ref pk, .ref pj, .ref pf, .ref su, .ref te, .ref wh])), (pz, .inl (cI, 12, .inl (fun j => nI (zf j)))), (pr, .inl (cI, 576, .inl (fun j => nI (rn j))))]) [5, 6, 7] rfl
  have hKc := hK.sub (tys' := [(cI, .int)]) [0] rfl
  refine vp_callSi (va_runV (As := [.int (nI t)]) (rest := [.int 3]) ⟨hx, hb, hml, hown, hts⟩ (c_ref_throws l dC dI m0 pz pr cI (.int 0) (.int (nI n)) (.int (nI lv)) (.int (nI mr)) (.int (nI cr)) (.ref pm) (.ref pk) (.ref pj) (.ref pf) (.ref su) (.ref te) (.ref wh) zf rn t (by omega) (hz t (by omega)) hrn) (cwV 1 hts gX4_share_X4_throwsOf rfl rfl rfl (by decide +kernel) ⟨Nat.le_of_ble_eq_true rfl, Nat.le_of_ble_eq_true rfl⟩) (fw_preVR hN hKc hPc (ci := 4) (q0 := 0) rfl rfl) rfl rfl hl.1 rfl (lv_room (Nat.le_of_ble_eq_true rfl)) dX4_share_51 ⟨Nat.le_of_ble_eq_true rfl, Nat.le_of_ble_eq_true rfl⟩).run (fun r_51 hr_51 => ?_)
  obtain rfl : r_51 = nI (rN zf rn t) := hr_51
  refine lv_imul hx hb dX4_share_54 ?_
  refine fw_i (x' := nI (3 * (rN zf rn t))) (pk_mul 3 (rN zf rn t)) ?_
  refine lv_istore (lv' := [(5, .int (nI (3 * (rN zf rn t)))), (0, .ref m0), (1, .int (nI t)), (2, .int (nI j)), (3, .int (zI most)), (4, .int (nI g))]) hx hb dX4_share_55 hl (by decide) rfl (fun ls hl => ?_)
  refine lv_lconst (v := 0) hx hb dX4_share_57 (by decide) ?_
  refine lv_lstore (lv' := [(6, .long 0), (5, .int (nI (3 * (rN zf rn t)))), (0, .ref m0), (1, .int (nI t)), (2, .int (nI j)), (3, .int (zI most)), (4, .int (nI g))]) hx hb dX4_share_58 hl (by decide) rfl (fun ls hl => ?_)
  refine lv_iload hx hb dX4_share_60 (lv_at hl 1 rfl) ?_
  refine lv_istore (lv' := [(8, .int (nI (3 * (rN zf rn t)))), (6, .long 0), (5, .int (nI (3 * (rN zf rn t)))), (0, .ref m0), (1, .int (nI t)), (2, .int (nI j)), (3, .int (zI most)), (4, .int (nI g))]) hx hb dX4_share_62 hl (by decide) rfl (fun ls hl => ?_)
  have hz0 : nI (3 * (rN zf rn t)) = nI (3 * (rN zf rn t)) - nI 0 := by show nI (3 * (rN zf rn t)) = nI (3 * (rN zf rn t)) - 0; rw [Int32.sub_zero]
  skip
  refine fw_loop (σ := Nat) (I := fun zn u H locs ls => match u with | c => zn = g + 1 - c ∧ (c ≤ g + 1) ∧ va_P (dC, dI) vwCl [(m0, .inr (4, [.int 0, .int (nI n), .int (nI lv), .int (nI mr), .int (nI cr), .ref pz, .ref pr, .ref pm, .ref pk, .ref pj, .ref pf, .ref su, .ref te, .ref wh])), (pz, .inl (cI, 12, .inl (fun j => nI (zf j)))), (pr, .inl (cI, 576, .inl (fun j => nI (rn j)))), (pm, .inl (cZ, 12, .inl (fun j => zI (mkf j)))), (pk, .inl (cI, 12, .inl (fun j => nI (mt j)))), (pj, .inl (cI, 12, .inl (jd))), (pf, .inl (cI, 12, .inl (fun j => nI (fl j)))), (su, .inl (cJ, 48, .inr (.inl (fun j => lN (e1 j))))), (te, .inl (cJ, 48, .inr (.inl (fun j => lN (e2 j))))), (wh, .inl (cJ, 48, .inr (.inl (fun j => lN (dw j)))))] H ∧ va_D A [(m0, .inr (4, [.int 0, .int (nI n), .int (nI lv), .int (nI mr), .int (nI cr), .ref pz, .ref pr, .ref pm, .ref pk, .ref pj, .ref pf, .ref su, .ref te, .ref wh])), (pz, .inl (cI, 12, .inl (fun j => nI (zf j)))), (pr, .inl (cI, 576, .inl (fun j => nI (rn j)))), (pm, .inl (cZ, 12, .inl (fun j => zI (mkf j)))), (pk, .inl (cI, 12, .inl (fun j => nI (mt j)))), (pj, .inl (cI, 12, .inl (jd))), (pf, .inl (cI, 12, .inl (fun j => nI (fl j)))), (su, .inl (cJ, 48, .inr (.inl (fun j => lN (e1 j))))), (te, .inl (cJ, 48, .inr (.inl (fun j => lN (e2 j))))), (wh, .inl (cJ, 48, .inr (.inl (fun j => lN (dw j)))))] ∧ va_S A zs.heap H locs ∧ lv_has ls 9 [(0, .ref m0), (4, .int (nI g)), (5, .int (nI (3 * (rN zf rn t)))), (6, .long (lN (sg_v (sh_v most (rN zf rn t) (rX zf rn t) j) (3 * (rN zf rn t)) c))), (8, .int (nI (3 * (rN zf rn t)) - nI c))]) ?_ _ 0 _ _ _ ⟨rfl, by omega,  hP.sub [5, 6, 7, 0, 1, 2, 3, 8, 9, 4] rfl, hD.sub [5, 6, 7, 0, 1, 2, 3, 8, 9, 4] (by decide) rfl, hS, by rw [← hz0]; exact lv_sub hl [3, 7, 2, 1, 0] rfl⟩
  intro zn c H locs ls hI ih_64
  obtain ⟨hzn, hc, hP, hD, hS, hl⟩ := hI
  refine lv_iload hx hb dX4_share_64 (lv_at hl 4 rfl) ?_
  refine lv_iload hx hb dX4_share_66 (lv_at hl 2 rfl) ?_
  refine lv_iload hx hb dX4_share_68 (lv_at hl 1 rfl) ?_
  refine lv_isub hx hb dX4_share_70 ?_
  refine lv_icmp_lt (tgt := 105) hx hb dX4_share_71 (by decide) (fun c_71 => ?_) (fun c_71 => ?_)
  · -- then 71
    have hend : c = g + 1 := by have := (sg_cmp (by omega) (by omega) (by omega)).mp c_71; omega
    refine lv_lload hx hb dX4_share_105 (lv_at hl 3 rfl) ?_
    have hP9 := hP.sub (ws' := [(m0, .inr (4, [.int 0, .int (nI n), .int (nI lv), .int (nI mr), .int (nI cr), .ref pz, .ref pr, .ref pm, .ref pk, .ref pj, .ref pf, .ref su, .ref te, .ref wh])), (pz, .inl (cI, 12, .inl (fun j => nI (zf j)))), (pr, .inl (cI, 576, .inl (fun j => nI (rn j)))), (pm, .inl (cZ, 12, .inl (fun j => zI (mkf j)))), (pk, .inl (cI, 12, .inl (fun j => nI (mt j)))), (pj, .inl (cI, 12, .inl (jd))), (pf, .inl (cI, 12, .inl (fun j => nI (fl j)))), (su, .inl (cJ, 48, .inr (.inl (fun j => lN (e1 j))))), (te, .inl (cJ, 48, .inr (.inl (fun j => lN (e2 j))))), (wh, .inl (cJ, 48, .inr (.inl (fun j => lN (dw j)))))]) [0, 1, 2, 3, 4, 5, 6, 7, 8, 9] rfl
    have hD9 := hD.sub (ws' := [(m0, .inr (4, [.int 0, .int (nI n), .int (nI lv), .int (nI mr), .int (nI cr), .ref pz, .ref pr, .ref pm, .ref pk, .ref pj, .ref pf, .ref su, .ref te, .ref wh])), (pz, .inl (cI, 12, .inl (fun j => nI (zf j)))), (pr, .inl (cI, 576, .inl (fun j => nI (rn j)))), (pm, .inl (cZ, 12, .inl (fun j => zI (mkf j)))), (pk, .inl (cI, 12, .inl (fun j => nI (mt j)))), (pj, .inl (cI, 12, .inl (jd))), (pf, .inl (cI, 12, .inl (fun j => nI (fl j)))), (su, .inl (cJ, 48, .inr (.inl (fun j => lN (e1 j))))), (te, .inl (cJ, 48, .inr (.inl (fun j => lN (e2 j))))), (wh, .inl (cJ, 48, .inr (.inl (fun j => lN (dw j)))))]) [0, 1, 2, 3, 4, 5, 6, 7, 8, 9] (by decide) rfl
    have hK9 := hK.sub (tys' := [(cI, .int), (cJ, .long), (cZ, .boolean)]) [0, 1, 2] rfl
    exact W.lret (v := (lN (sg_v (sh_v most (rN zf rn t) (rX zf rn t) j) (3 * (rN zf rn t)) c))) hx hb hr (fun zt zht hW => ⟨⟨(lN (sg_v (sh_v most (rN zf rn t) (rX zf rn t) j) (3 * (rN zf rn t)) c)), (e1, e2), rfl, by rw [hend], by rw [zht]; exact hP9, va_K.moved hW.alike hK9, hD9⟩, hS.F zht⟩) hS.2.2 dX4_share_107 hlocks
  · -- else 71
    have hlt : c ≤ g := by
      rcases Nat.lt_or_ge g c with q9 | q9
      · exact absurd ((sg_cmp (by omega) (by omega) (by omega)).mpr q9) c_71
      · exact q9
    refine lv_ldc2 (v := 10) hx hb hown (hts (.constantLong RX4 123 10) (by decide +kernel)) dX4_share_74 ?_
    refine lv_lload hx hb dX4_share_77 (lv_at hl 3 rfl) ?_
    refine lv_lmul hx hb dX4_share_79 ?_
    refine fw_l (x' := lN (10 * (sg_v (sh_v most (rN zf rn t) (rX zf rn t) j) (3 * (rN zf rn t)) c))) (lN_mul 10 (sg_v (sh_v most (rN zf rn t) (rX zf rn t) j) (3 * (rN zf rn t)) c)) ?_
    refine lv_iload hx hb dX4_share_80 (lv_at hl 4 rfl) ?_
    refine lv_if_ge (tgt := 89) hx hb dX4_share_82 (by decide) (fun c_82 => ?_) (fun c_82 => ?_)
    · -- then 82
      have hcP : c ≤ (3 * (rN zf rn t)) := (sg_neg (by omega) (by omega)).mp c_82
      refine lv_aload_n hx hb dX4_share_89 rfl (lv_at hl 0 rfl) ?_
      refine lv_iload hx hb dX4_share_90 (lv_at hl 4 rfl) ?_
      refine fw_i (x' := nI ((3 * (rN zf rn t)) - c)) (pk_sub hcP) ?_
      have hPc := hP.sub (ws' := [(m0, .inr (4, [.int 0, .int (nI n), .int (nI lv), .int (nI mr), .int (nI cr), .ref pz, .ref pr, .ref pm, .ref pk, .ref pj, .ref pf, .ref su, .ref te, .ref wh])), (su, .inl (cJ, 48, .inr (.inl (fun j => lN (e1 j)))))]) [0, 7] rfl
      have hKc := hK.sub (tys' := [(cJ, .long)]) [1] rfl
      refine vp_callSi (va_runV (As := [.int (nI ((3 * (rN zf rn t)) - c))]) (rest := [.long (lN (10 * (sg_v (sh_v most (rN zf rn t) (rX zf rn t) j) (3 * (rN zf rn t)) c)))]) ⟨hx, hb, hml, hown, hts⟩ (c_ref_digit l dC dI m0 su cJ (.int 0) (.int (nI n)) (.int (nI lv)) (.int (nI mr)) (.int (nI cr)) (.ref pz) (.ref pr) (.ref pm) (.ref pk) (.ref pj) (.ref pf) (.ref te) (.ref wh) e1 ((3 * (rN zf rn t)) - c) ok_e1 (by omega)) (cwV 1 hts gX4_share_X4_digit rfl rfl rfl (by decide +kernel) ⟨Nat.le_of_ble_eq_true rfl, Nat.le_of_ble_eq_true rfl⟩) (fw_preVR hN hKc hPc (ci := 4) (q0 := 0) rfl rfl) rfl rfl hl.1 rfl (lv_room (Nat.le_of_ble_eq_true rfl)) dX4_share_92 ⟨Nat.le_of_ble_eq_true rfl, Nat.le_of_ble_eq_true rfl⟩).run (fun r_92 hr_92 => ?_)
      obtain rfl : r_92 = nI ((sh_v most (rN zf rn t) (rX zf rn t) j) / 10 ^ ((3 * (rN zf rn t)) - c) % 10) := by rw [hr_92, v_e1]
      refine lv_i2l (v := lN ((sh_v most (rN zf rn t) (rX zf rn t) j) / 10 ^ ((3 * (rN zf rn t)) - c) % 10)) hx hb dX4_share_95 (nI_l (by have := Nat.mod_lt ((sh_v most (rN zf rn t) (rX zf rn t) j) / 10 ^ ((3 * (rN zf rn t)) - c)) (show 0 < 10 by decide); omega)) ?_
      refine lv_ladd hx hb dX4_share_96 ?_
      refine fw_l (x' := lN (sg_v (sh_v most (rN zf rn t) (rX zf rn t) j) (3 * (rN zf rn t)) (c + 1))) ((lN_add _ _).trans (congrArg lN (sg_lo hVP hcP))) ?_
      refine lv_lstore (lv' := [(6, .long (lN (sg_v (sh_v most (rN zf rn t) (rX zf rn t) j) (3 * (rN zf rn t)) (c + 1)))), (0, .ref m0), (4, .int (nI g)), (5, .int (nI (3 * (rN zf rn t)))), (8, .int (nI (3 * (rN zf rn t)) - nI c))]) hx hb dX4_share_97 hl (by decide) rfl (fun ls hl => ?_)
      refine lv_iinc (v := nI (3 * (rN zf rn t)) - nI (c + 1)) (lv' := [(8, .int (nI (3 * (rN zf rn t)) - nI (c + 1))), (6, .long (lN (sg_v (sh_v most (rN zf rn t) (rX zf rn t) j) (3 * (rN zf rn t)) (c + 1)))), (0, .ref m0), (4, .int (nI g)), (5, .int (nI (3 * (rN zf rn t))))]) hx hb dX4_share_99 hl (k := 4) rfl (sg_step _ _) (by decide) rfl (fun ls hl => ?_)
      refine lv_goto (tgt := 64) hx hb dX4_share_102 (by decide) ?_
      exact ih_64 _ (c + 1) _ _ _ (by omega) ⟨rfl, by omega, hP.sub [0, 1, 2, 3, 4, 5, 6, 7, 8, 9] rfl, hD.sub [0, 1, 2, 3, 4, 5, 6, 7, 8, 9] (by decide) rfl, hS, lv_sub hl [2, 3, 4, 1, 0] rfl⟩
    · -- else 82
      have hcP : (3 * (rN zf rn t)) < c := by
        rcases Nat.lt_or_ge (3 * (rN zf rn t)) c with q9 | q9
        · exact q9
        · exact absurd ((sg_neg (by omega) (by omega)).mpr q9) c_82
      refine lv_iconst (v := 0) hx hb dX4_share_85 (by decide) ?_
      refine lv_goto (tgt := 95) hx hb dX4_share_86 (by decide) ?_
      refine lv_i2l (v := lN 0) hx hb dX4_share_95 (rfl) ?_
      refine lv_ladd hx hb dX4_share_96 ?_
      refine fw_l (x' := lN (sg_v (sh_v most (rN zf rn t) (rX zf rn t) j) (3 * (rN zf rn t)) (c + 1))) ((lN_add _ 0).trans (congrArg lN (sg_hi hcP))) ?_
      refine lv_lstore (lv' := [(6, .long (lN (sg_v (sh_v most (rN zf rn t) (rX zf rn t) j) (3 * (rN zf rn t)) (c + 1)))), (0, .ref m0), (4, .int (nI g)), (5, .int (nI (3 * (rN zf rn t)))), (8, .int (nI (3 * (rN zf rn t)) - nI c))]) hx hb dX4_share_97 hl (by decide) rfl (fun ls hl => ?_)
      refine lv_iinc (v := nI (3 * (rN zf rn t)) - nI (c + 1)) (lv' := [(8, .int (nI (3 * (rN zf rn t)) - nI (c + 1))), (6, .long (lN (sg_v (sh_v most (rN zf rn t) (rX zf rn t) j) (3 * (rN zf rn t)) (c + 1)))), (0, .ref m0), (4, .int (nI g)), (5, .int (nI (3 * (rN zf rn t))))]) hx hb dX4_share_99 hl (k := 4) rfl (sg_step _ _) (by decide) rfl (fun ls hl => ?_)
      refine lv_goto (tgt := 64) hx hb dX4_share_102 (by decide) ?_
      exact ih_64 _ (c + 1) _ _ _ (by omega) ⟨rfl, by omega, hP.sub [0, 1, 2, 3, 4, 5, 6, 7, 8, 9] rfl, hD.sub [0, 1, 2, 3, 4, 5, 6, 7, 8, 9] (by decide) rfl, hS, lv_sub hl [2, 3, 4, 1, 0] rfl⟩
set_option maxHeartbeats 4000000 in
set_option maxRecDepth 100000 in
theorem c_ref_broken (l : Launch) (dC : Nat → ClassId) (dI : Nat → Nat → Nat) (m0 pz pr pm pk pj pf su te wh : Nat) (cI cJ cZ : ClassId) (n lv mr cr : Nat) (zf rn : Nat → Nat) (mkf : Nat → Bool) (mt : Nat → Nat) (jd : Nat → Int32) (fl ds dt dw : Nat → Nat) (x : Int32) (sz : Nat) (hn12 : n ≤ 12) (hz : ∀ i, i < 12 → zf i ≤ 48) (hrn : ∀ j, j < 576 → rn j < 2000) (hlv : lv ≤ 999) (hmr : mr ≤ 1000) (hcr : cr ≤ 1000) : Met l yX4_broken wsX4_broken ({ frames := 2, cells := 0, slots := 0, locals := 47 } : Room) (va_Pc [.ref m0, .int x] (fw_pW (dC, dI) vwCl [(cI, .int), (cJ, .long), (cZ, .boolean)] [(m0, .inr (4, [.int 0, .int (nI n), .int (nI lv), .int (nI mr), .int (nI cr), .ref pz, .ref pr, .ref pm, .ref pk, .ref pj, .ref pf, .ref su, .ref te, .ref wh])), (pz, .inl (cI, 12, .inl (fun j => nI (zf j)))), (pr, .inl (cI, 576, .inl (fun j => nI (rn j)))), (pm, .inl (cZ, 12, .inl (fun j => zI (mkf j)))), (pk, .inl (cI, 12, .inl (fun j => nI (mt j)))), (pj, .inl (cI, 12, .inl (jd))), (pf, .inl (cI, 12, .inl (fun j => nI (fl j)))), (su, .inl (cJ, 48, .inr (.inl (fun j => lN (ds j))))), (te, .inl (cJ, 48, .inr (.inl (fun j => lN (dt j))))), (wh, .inl (cJ, 48, .inr (.inl (fun j => lN (dw j)))))] sz)) (va_Qi (S := Unit) (fun r _ => r = rf_b zf rn mkf x n) (fun u t => fw_q (dC, dI) vwCl [(cI, .int), (cJ, .long), (cZ, .boolean)] (va_A [(m0, .inr (4, [.int 0, .int (nI n), .int (nI lv), .int (nI mr), .int (nI cr), .ref pz, .ref pr, .ref pm, .ref pk, .ref pj, .ref pf, .ref su, .ref te, .ref wh])), (pz, .inl (cI, 12, .inl (fun j => nI (zf j)))), (pr, .inl (cI, 576, .inl (fun j => nI (rn j)))), (pm, .inl (cZ, 12, .inl (fun j => zI (mkf j)))), (pk, .inl (cI, 12, .inl (fun j => nI (mt j)))), (pj, .inl (cI, 12, .inl (jd))), (pf, .inl (cI, 12, .inl (fun j => nI (fl j)))), (su, .inl (cJ, 48, .inr (.inl (fun j => lN (ds j))))), (te, .inl (cJ, 48, .inr (.inl (fun j => lN (dt j))))), (wh, .inl (cJ, 48, .inr (.inl (fun j => lN (dw j)))))] sz) [(m0, .inr (4, [.int 0, .int (nI n), .int (nI lv), .int (nI mr), .int (nI cr), .ref pz, .ref pr, .ref pm, .ref pk, .ref pj, .ref pf, .ref su, .ref te, .ref wh])), (pz, .inl (cI, 12, .inl (fun j => nI (zf j)))), (pr, .inl (cI, 576, .inl (fun j => nI (rn j)))), (pm, .inl (cZ, 12, .inl (fun j => zI (mkf j)))), (pk, .inl (cI, 12, .inl (fun j => nI (mt j)))), (pj, .inl (cI, 12, .inl (jd))), (pf, .inl (cI, 12, .inl (fun j => nI (fl j)))), (su, .inl (cJ, 48, .inr (.inl (fun j => lN (ds j))))), (te, .inl (cJ, 48, .inr (.inl (fun j => lN (dt j))))), (wh, .inl (cJ, 48, .inr (.inl (fun j => lN (dw j)))))] t) (va_A [(m0, .inr (4, [.int 0, .int (nI n), .int (nI lv), .int (nI mr), .int (nI cr), .ref pz, .ref pr, .ref pm, .ref pk, .ref pj, .ref pf, .ref su, .ref te, .ref wh])), (pz, .inl (cI, 12, .inl (fun j => nI (zf j)))), (pr, .inl (cI, 576, .inl (fun j => nI (rn j)))), (pm, .inl (cZ, 12, .inl (fun j => zI (mkf j)))), (pk, .inl (cI, 12, .inl (fun j => nI (mt j)))), (pj, .inl (cI, 12, .inl (jd))), (pf, .inl (cI, 12, .inl (fun j => nI (fl j)))), (su, .inl (cJ, 48, .inr (.inl (fun j => lN (ds j))))), (te, .inl (cJ, 48, .inr (.inl (fun j => lN (dt j))))), (wh, .inl (cJ, 48, .inr (.inl (fun j => lN (dw j)))))] sz)) 0 0 (va_A [(m0, .inr (4, [.int 0, .int (nI n), .int (nI lv), .int (nI mr), .int (nI cr), .ref pz, .ref pr, .ref pm, .ref pk, .ref pj, .ref pf, .ref su, .ref te, .ref wh])), (pz, .inl (cI, 12, .inl (fun j => nI (zf j)))), (pr, .inl (cI, 576, .inl (fun j => nI (rn j)))), (pm, .inl (cZ, 12, .inl (fun j => zI (mkf j)))), (pk, .inl (cI, 12, .inl (fun j => nI (mt j)))), (pj, .inl (cI, 12, .inl (jd))), (pf, .inl (cI, 12, .inl (fun j => nI (fl j)))), (su, .inl (cJ, 48, .inr (.inl (fun j => lN (ds j))))), (te, .inl (cJ, 48, .inr (.inl (fun j => lN (dt j))))), (wh, .inl (cJ, 48, .inr (.inl (fun j => lN (dw j)))))] sz) := by
  refine fw_metW (cc := cX4_broken) (maxL := 4) (ret := (some .int)) (by decide) rfl (Nat.le_of_ble_eq_true rfl) ?_
  intro zp ze zs zm zbelow zmeth zc ls hx hb hr hts hown hlocks hml hin hN hsz hP hK hD hA hS hl
  generalize hAe : (va_A [(m0, .inr (4, [.int 0, .int (nI n), .int (nI lv), .int (nI mr), .int (nI cr), .ref pz, .ref pr, .ref pm, .ref pk, .ref pj, .ref pf, .ref su, .ref te, .ref wh])), (pz, .inl (cI, 12, .inl (fun j => nI (zf j)))), (pr, .inl (cI, 576, .inl (fun j => nI (rn j)))), (pm, .inl (cZ, 12, .inl (fun j => zI (mkf j)))), (pk, .inl (cI, 12, .inl (fun j => nI (mt j)))), (pj, .inl (cI, 12, .inl (jd))), (pf, .inl (cI, 12, .inl (fun j => nI (fl j)))), (su, .inl (cJ, 48, .inr (.inl (fun j => lN (ds j))))), (te, .inl (cJ, 48, .inr (.inl (fun j => lN (dt j))))), (wh, .inl (cJ, 48, .inr (.inl (fun j => lN (dw j)))))] sz) = A at hD hA hS ⊢
  have hown : zs.vm.findClass RX4 = some zm.cls := hown
  have hl : lv_has ls 4 [(0, .ref m0), (1, .int x)] := hl
  refine lv_aload_n hx hb dX4_broken_0 rfl (lv_at hl 0 rfl) ?_
  refine lv_iconst (v := 0) hx hb dX4_broken_1 (by decide) ?_
  refine va_put (D := (dC, dI)) (ci := 4) (v := .int 0) (ty := .int) (C := RX4) (T := TX4) (N := 14) hx hb hts (by decide +kernel) tyX4 tyX4_ok nmX4 hown hK hP hD hS 0 rfl rfl 0 (by decide) (hts (.fieldLink RX4 49 "FlakyBoundsModel" "thrown" "I") (by decide +kernel)) (fun _ h9 => h9) rfl (by decide +kernel) rfl rfl (Nat.le_of_ble_eq_true rfl) dX4_broken_2 (fun H locs hP hD hS => ?_)
  have hP : va_P (dC, dI) vwCl [(m0, .inr (4, [.int 0, .int (nI n), .int (nI lv), .int (nI mr), .int (nI cr), .ref pz, .ref pr, .ref pm, .ref pk, .ref pj, .ref pf, .ref su, .ref te, .ref wh])), (pz, .inl (cI, 12, .inl (fun j => nI (zf j)))), (pr, .inl (cI, 576, .inl (fun j => nI (rn j)))), (pm, .inl (cZ, 12, .inl (fun j => zI (mkf j)))), (pk, .inl (cI, 12, .inl (fun j => nI (mt j)))), (pj, .inl (cI, 12, .inl (jd))), (pf, .inl (cI, 12, .inl (fun j => nI (fl j)))), (su, .inl (cJ, 48, .inr (.inl (fun j => lN (ds j))))), (te, .inl (cJ, 48, .inr (.inl (fun j => lN (dt j))))), (wh, .inl (cJ, 48, .inr (.inl (fun j => lN (dw j)))))] H := hP
  have hD : va_D A [(m0, .inr (4, [.int 0, .int (nI n), .int (nI lv), .int (nI mr), .int (nI cr), .ref pz, .ref pr, .ref pm, .ref pk, .ref pj, .ref pf, .ref su, .ref te, .ref wh])), (pz, .inl (cI, 12, .inl (fun j => nI (zf j)))), (pr, .inl (cI, 576, .inl (fun j => nI (rn j)))), (pm, .inl (cZ, 12, .inl (fun j => zI (mkf j)))), (pk, .inl (cI, 12, .inl (fun j => nI (mt j)))), (pj, .inl (cI, 12, .inl (jd))), (pf, .inl (cI, 12, .inl (fun j => nI (fl j)))), (su, .inl (cJ, 48, .inr (.inl (fun j => lN (ds j))))), (te, .inl (cJ, 48, .inr (.inl (fun j => lN (dt j))))), (wh, .inl (cJ, 48, .inr (.inl (fun j => lN (dw j)))))] := hD
  refine lv_iconst (v := 0) hx hb dX4_broken_5 (by decide) ?_
  refine lv_istore_n (lv' := [(2, .int 0), (0, .ref m0), (1, .int x)]) hx hb dX4_broken_6 rfl hl (by decide) rfl (fun ls hl => ?_)
  refine lv_iconst (v := 0) hx hb dX4_broken_7 (by decide) ?_
  refine lv_istore_n (lv' := [(3, .int 0), (2, .int 0), (0, .ref m0), (1, .int x)]) hx hb dX4_broken_8 rfl hl (by decide) rfl (fun ls hl => ?_)
  refine fw_loop (σ := Nat) (I := fun zn u H locs ls => match u with | t => zn = n - t ∧ (t ≤ n) ∧ va_P (dC, dI) vwCl [(m0, .inr (4, [.int 0, .int (nI n), .int (nI lv), .int (nI mr), .int (nI cr), .ref pz, .ref pr, .ref pm, .ref pk, .ref pj, .ref pf, .ref su, .ref te, .ref wh])), (pz, .inl (cI, 12, .inl (fun j => nI (zf j)))), (pr, .inl (cI, 576, .inl (fun j => nI (rn j)))), (pm, .inl (cZ, 12, .inl (fun j => zI (mkf j)))), (pk, .inl (cI, 12, .inl (fun j => nI (mt j)))), (pj, .inl (cI, 12, .inl (jd))), (pf, .inl (cI, 12, .inl (fun j => nI (fl j)))), (su, .inl (cJ, 48, .inr (.inl (fun j => lN (ds j))))), (te, .inl (cJ, 48, .inr (.inl (fun j => lN (dt j))))), (wh, .inl (cJ, 48, .inr (.inl (fun j => lN (dw j)))))] H ∧ va_D A [(m0, .inr (4, [.int 0, .int (nI n), .int (nI lv), .int (nI mr), .int (nI cr), .ref pz, .ref pr, .ref pm, .ref pk, .ref pj, .ref pf, .ref su, .ref te, .ref wh])), (pz, .inl (cI, 12, .inl (fun j => nI (zf j)))), (pr, .inl (cI, 576, .inl (fun j => nI (rn j)))), (pm, .inl (cZ, 12, .inl (fun j => zI (mkf j)))), (pk, .inl (cI, 12, .inl (fun j => nI (mt j)))), (pj, .inl (cI, 12, .inl (jd))), (pf, .inl (cI, 12, .inl (fun j => nI (fl j)))), (su, .inl (cJ, 48, .inr (.inl (fun j => lN (ds j))))), (te, .inl (cJ, 48, .inr (.inl (fun j => lN (dt j))))), (wh, .inl (cJ, 48, .inr (.inl (fun j => lN (dw j)))))] ∧ va_S A zs.heap H locs ∧ lv_has ls 4 [(0, .ref m0), (1, .int x), (2, .int (rf_b zf rn mkf x t)), (3, .int (nI t))]) ?_ _ 0 _ _ _ ⟨rfl, by omega,  hP.sub [0, 1, 2, 3, 4, 5, 6, 7, 8, 9] rfl, hD.sub [0, 1, 2, 3, 4, 5, 6, 7, 8, 9] (by decide) rfl, hS, lv_sub hl [2, 3, 1, 0] rfl⟩
  intro zn t H locs ls hI ih_9
  obtain ⟨hzn, htn, hP, hD, hS, hl⟩ := hI
  refine lv_iload_n hx hb dX4_broken_9 rfl (lv_at hl 3 rfl) ?_
  refine lv_aload_n hx hb dX4_broken_10 rfl (lv_at hl 0 rfl) ?_
  refine va_get (D := (dC, dI)) (ci := 4) (v := .int (nI n)) (C := RX4) (T := TX4) (N := 14) hx hb hts (by decide +kernel) hown hK hP 0 rfl rfl 1 (by decide) (hts (.fieldLink RX4 52 "FlakyBoundsModel" "tests" "I") (by decide +kernel)) (fun _ h9 => h9) rfl dX4_broken_11 ?_
  refine lv_icmp_ge (tgt := 58) hx hb dX4_broken_14 (by decide) (fun c_14 => ?_) (fun c_14 => ?_)
  · -- then 14
    have hend : t = n := by have := (nI_leI (a := n) (b := t) (by omega) (by omega)).mp c_14; omega
    refine lv_iload_n hx hb dX4_broken_58 rfl (lv_at hl 2 rfl) ?_
    have hP9 := hP.sub (ws' := [(m0, .inr (4, [.int 0, .int (nI n), .int (nI lv), .int (nI mr), .int (nI cr), .ref pz, .ref pr, .ref pm, .ref pk, .ref pj, .ref pf, .ref su, .ref te, .ref wh])), (pz, .inl (cI, 12, .inl (fun j => nI (zf j)))), (pr, .inl (cI, 576, .inl (fun j => nI (rn j)))), (pm, .inl (cZ, 12, .inl (fun j => zI (mkf j)))), (pk, .inl (cI, 12, .inl (fun j => nI (mt j)))), (pj, .inl (cI, 12, .inl (jd))), (pf, .inl (cI, 12, .inl (fun j => nI (fl j)))), (su, .inl (cJ, 48, .inr (.inl (fun j => lN (ds j))))), (te, .inl (cJ, 48, .inr (.inl (fun j => lN (dt j))))), (wh, .inl (cJ, 48, .inr (.inl (fun j => lN (dw j)))))]) [0, 1, 2, 3, 4, 5, 6, 7, 8, 9] rfl
    have hD9 := hD.sub (ws' := [(m0, .inr (4, [.int 0, .int (nI n), .int (nI lv), .int (nI mr), .int (nI cr), .ref pz, .ref pr, .ref pm, .ref pk, .ref pj, .ref pf, .ref su, .ref te, .ref wh])), (pz, .inl (cI, 12, .inl (fun j => nI (zf j)))), (pr, .inl (cI, 576, .inl (fun j => nI (rn j)))), (pm, .inl (cZ, 12, .inl (fun j => zI (mkf j)))), (pk, .inl (cI, 12, .inl (fun j => nI (mt j)))), (pj, .inl (cI, 12, .inl (jd))), (pf, .inl (cI, 12, .inl (fun j => nI (fl j)))), (su, .inl (cJ, 48, .inr (.inl (fun j => lN (ds j))))), (te, .inl (cJ, 48, .inr (.inl (fun j => lN (dt j))))), (wh, .inl (cJ, 48, .inr (.inl (fun j => lN (dw j)))))]) [0, 1, 2, 3, 4, 5, 6, 7, 8, 9] (by decide) rfl
    have hK9 := hK.sub (tys' := [(cI, .int), (cJ, .long), (cZ, .boolean)]) [0, 1, 2] rfl
    exact W.iret (v := (rf_b zf rn mkf x t)) hx hb hr (fun zt zht hW => ⟨⟨(rf_b zf rn mkf x t), ⟨⟩, rfl, by rw [hend], by rw [zht]; exact hP9, va_K.moved hW.alike hK9, hD9⟩, hS.F zht⟩) hS.2.2 dX4_broken_59 hlocks
  · -- else 14
    have hlt : t < n := by
      rcases Nat.lt_or_ge t n with q9 | q9
      · exact q9
      · exact absurd (nI_le (a := n) (b := t) q9 (by omega)) c_14
    refine lv_iload_n hx hb dX4_broken_17 rfl (lv_at hl 2 rfl) ?_
    refine lv_iload_n hx hb dX4_broken_18 rfl (lv_at hl 1 rfl) ?_
    have hPc := hP.sub (ws' := []) [] rfl
    have hKc := hK.sub (tys' := []) [] rfl
    refine vp_callSi (va_runS (As := [.int x]) (rest := [.int (rf_b zf rn mkf x t)]) ⟨hx, hb, hml, hown, hts⟩ (c_ref_isEdition l dC dI x) (va_cwS 1 hts gX4_broken_X4_isEdition rfl rfl rfl (by decide +kernel) ⟨Nat.le_of_ble_eq_true rfl, Nat.le_of_ble_eq_true rfl⟩) (fw_preSR hN hKc hPc) rfl rfl hl.1 rfl (lv_room (Nat.le_of_ble_eq_true rfl)) dX4_broken_19 ⟨Nat.le_of_ble_eq_true rfl, Nat.le_of_ble_eq_true rfl⟩).run (fun r_19 hr_19 => ?_)
    obtain rfl : r_19 = zI (fv_ed x) := hr_19
    refine lv_if_eq (tgt := 49) hx hb dX4_broken_22 (by decide) (fun c_22 => ?_) (fun c_22 => ?_)
    · -- then 22
      have h22 := zI_eq0.mp c_22
      refine lv_iconst (v := 0) hx hb dX4_broken_49 (by decide) ?_
      refine lv_ior hx hb dX4_broken_50 ?_
      refine lv_istore_n (lv' := [(2, .int ((rf_b zf rn mkf x t) ||| 0)), (0, .ref m0), (1, .int x), (3, .int (nI t))]) hx hb dX4_broken_51 rfl hl (by decide) rfl (fun ls hl => ?_)
      refine lv_iinc (v := nI (t + 1)) (lv' := [(3, .int (nI (t + 1))), (2, .int ((rf_b zf rn mkf x t) ||| 0)), (0, .ref m0), (1, .int x)]) hx hb dX4_broken_52 hl (k := 3) rfl (nI_1 t) (by decide) rfl (fun ls hl => ?_)
      refine lv_goto (tgt := 9) hx hb dX4_broken_55 (by decide) ?_
      have z1 : rf_r zf rn mkf x t = false := by unfold rf_r; rw [h22]; rfl
      have z2 : rf_b zf rn mkf x (t + 1) = rf_b zf rn mkf x t ||| 0 := by rw [rf_bS, z1]; rfl
      exact ih_9 _ (t + 1) _ _ _ (by omega) ⟨rfl, by omega, hP.sub [0, 1, 2, 3, 4, 5, 6, 7, 8, 9] rfl, hD.sub [0, 1, 2, 3, 4, 5, 6, 7, 8, 9] (by decide) rfl, hS, by rw [z2]; exact lv_sub hl [2, 3, 1, 0] rfl⟩
    · -- else 22
      have h22 := zI_ne0.mp c_22
      refine lv_aload_n hx hb dX4_broken_25 rfl (lv_at hl 0 rfl) ?_
      refine lv_iload_n hx hb dX4_broken_26 rfl (lv_at hl 3 rfl) ?_
      refine lv_iload_n hx hb dX4_broken_27 rfl (lv_at hl 1 rfl) ?_
      have hPc := hP.sub (ws' := [(m0, .inr (4, [.int 0, .int (nI n), .int (nI lv), .int (nI mr), .int (nI cr), .ref pz, .ref pr, .ref pm, .ref pk, .ref pj, .ref pf, .ref su, .ref te, .ref wh])), (pz, .inl (cI, 12, .inl (fun j => nI (zf j)))), (pr, .inl (cI, 576, .inl (fun j => nI (rn j))))]) [0, 1, 2] rfl
      have hKc := hK.sub (tys' := [(cI, .int)]) [0] rfl
      refine vp_callSi (va_runV (As := [.int (nI t), .int x]) (rest := [.int (rf_b zf rn mkf x t)]) ⟨hx, hb, hml, hown, hts⟩ (c_ref_isBad l dC dI m0 pz pr cI (.int 0) (.int (nI n)) (.int (nI lv)) (.int (nI mr)) (.int (nI cr)) (.ref pm) (.ref pk) (.ref pj) (.ref pf) (.ref su) (.ref te) (.ref wh) zf rn t x (by omega) (hz t (by omega)) hrn) (cwV 2 hts gX4_broken_X4_isBadFor rfl rfl rfl (by decide +kernel) ⟨Nat.le_of_ble_eq_true rfl, Nat.le_of_ble_eq_true rfl⟩) (fw_preVR hN hKc hPc (ci := 4) (q0 := 0) rfl rfl) rfl rfl hl.1 rfl (lv_room (Nat.le_of_ble_eq_true rfl)) dX4_broken_28 ⟨Nat.le_of_ble_eq_true rfl, Nat.le_of_ble_eq_true rfl⟩).run (fun r_28 hr_28 => ?_)
      obtain rfl : r_28 = zI (hv_has (re_e rn t) (re_b rn t) x false (zf t) && !hv_has (re_e rn t) (re_b rn t) x true (zf t)) := hr_28
      refine lv_if_eq (tgt := 49) hx hb dX4_broken_31 (by decide) (fun c_31 => ?_) (fun c_31 => ?_)
      · -- then 31
        have h31 := zI_eq0.mp c_31
        refine lv_iconst (v := 0) hx hb dX4_broken_49 (by decide) ?_
        refine lv_ior hx hb dX4_broken_50 ?_
        refine lv_istore_n (lv' := [(2, .int ((rf_b zf rn mkf x t) ||| 0)), (0, .ref m0), (1, .int x), (3, .int (nI t))]) hx hb dX4_broken_51 rfl hl (by decide) rfl (fun ls hl => ?_)
        refine lv_iinc (v := nI (t + 1)) (lv' := [(3, .int (nI (t + 1))), (2, .int ((rf_b zf rn mkf x t) ||| 0)), (0, .ref m0), (1, .int x)]) hx hb dX4_broken_52 hl (k := 3) rfl (nI_1 t) (by decide) rfl (fun ls hl => ?_)
        refine lv_goto (tgt := 9) hx hb dX4_broken_55 (by decide) ?_
        have z1 : rf_r zf rn mkf x t = false := by unfold rf_r; rw [h22, h31]; rfl
        have z2 : rf_b zf rn mkf x (t + 1) = rf_b zf rn mkf x t ||| 0 := by rw [rf_bS, z1]; rfl
        exact ih_9 _ (t + 1) _ _ _ (by omega) ⟨rfl, by omega, hP.sub [0, 1, 2, 3, 4, 5, 6, 7, 8, 9] rfl, hD.sub [0, 1, 2, 3, 4, 5, 6, 7, 8, 9] (by decide) rfl, hS, by rw [z2]; exact lv_sub hl [2, 3, 1, 0] rfl⟩
      · -- else 31
        have h31 := zI_ne0.mp c_31
        refine lv_aload_n hx hb dX4_broken_34 rfl (lv_at hl 0 rfl) ?_
        refine va_get (D := (dC, dI)) (ci := 4) (v := .ref pm) (C := RX4) (T := TX4) (N := 14) hx hb hts (by decide +kernel) hown hK hP 0 rfl rfl 7 (by decide) (hts (.fieldLink RX4 26 "FlakyBoundsModel" "isMarked" "[Z") (by decide +kernel)) (fun _ h9 => h9) rfl dX4_broken_35 ?_
        refine lv_iload_n hx hb dX4_broken_38 rfl (lv_at hl 3 rfl) ?_
        refine va_zald hx hb hK hP 3 2 rfl rfl (vp_in_nI (by omega) (by decide)) dX4_broken_39 ?_
        refine fw_i (x' := zI (mkf t)) (by rw [nI_clamp (by omega)]) ?_
        refine lv_if_ne (tgt := 49) hx hb dX4_broken_40 (by decide) (fun c_40 => ?_) (fun c_40 => ?_)
        · -- then 40
          have h40 := zI_ne0.mp c_40
          refine lv_iconst (v := 0) hx hb dX4_broken_49 (by decide) ?_
          refine lv_ior hx hb dX4_broken_50 ?_
          refine lv_istore_n (lv' := [(2, .int ((rf_b zf rn mkf x t) ||| 0)), (0, .ref m0), (1, .int x), (3, .int (nI t))]) hx hb dX4_broken_51 rfl hl (by decide) rfl (fun ls hl => ?_)
          refine lv_iinc (v := nI (t + 1)) (lv' := [(3, .int (nI (t + 1))), (2, .int ((rf_b zf rn mkf x t) ||| 0)), (0, .ref m0), (1, .int x)]) hx hb dX4_broken_52 hl (k := 3) rfl (nI_1 t) (by decide) rfl (fun ls hl => ?_)
          refine lv_goto (tgt := 9) hx hb dX4_broken_55 (by decide) ?_
          have z1 : rf_r zf rn mkf x t = false := by unfold rf_r; rw [h22, h31, h40]; rfl
          have z2 : rf_b zf rn mkf x (t + 1) = rf_b zf rn mkf x t ||| 0 := by rw [rf_bS, z1]; rfl
          exact ih_9 _ (t + 1) _ _ _ (by omega) ⟨rfl, by omega, hP.sub [0, 1, 2, 3, 4, 5, 6, 7, 8, 9] rfl, hD.sub [0, 1, 2, 3, 4, 5, 6, 7, 8, 9] (by decide) rfl, hS, by rw [z2]; exact lv_sub hl [2, 3, 1, 0] rfl⟩
        · -- else 40
          have h40 := zI_eq0.mp c_40
          refine lv_iconst (v := 1) hx hb dX4_broken_43 (by decide) ?_
          refine lv_iload_n hx hb dX4_broken_44 rfl (lv_at hl 3 rfl) ?_
          refine lv_ishl hx hb dX4_broken_45 ?_
          refine lv_goto (tgt := 50) hx hb dX4_broken_46 (by decide) ?_
          refine lv_ior hx hb dX4_broken_50 ?_
          refine lv_istore_n (lv' := [(2, .int ((rf_b zf rn mkf x t) ||| (1 <<< ((nI t) &&& 31)))), (0, .ref m0), (1, .int x), (3, .int (nI t))]) hx hb dX4_broken_51 rfl hl (by decide) rfl (fun ls hl => ?_)
          refine lv_iinc (v := nI (t + 1)) (lv' := [(3, .int (nI (t + 1))), (2, .int ((rf_b zf rn mkf x t) ||| (1 <<< ((nI t) &&& 31)))), (0, .ref m0), (1, .int x)]) hx hb dX4_broken_52 hl (k := 3) rfl (nI_1 t) (by decide) rfl (fun ls hl => ?_)
          refine lv_goto (tgt := 9) hx hb dX4_broken_55 (by decide) ?_
          have z1 : rf_r zf rn mkf x t = true := by unfold rf_r; rw [h22, h31, h40]; rfl
          have z2 : rf_b zf rn mkf x (t + 1) = rf_b zf rn mkf x t ||| ((1 : Int32) <<< (nI t &&& 31)) := by rw [rf_bS, z1]; rfl
          exact ih_9 _ (t + 1) _ _ _ (by omega) ⟨rfl, by omega, hP.sub [0, 1, 2, 3, 4, 5, 6, 7, 8, 9] rfl, hD.sub [0, 1, 2, 3, 4, 5, 6, 7, 8, 9] (by decide) rfl, hS, by rw [z2]; exact lv_sub hl [2, 3, 1, 0] rfl⟩
set_option maxHeartbeats 4000000 in
set_option maxRecDepth 100000 in
theorem c_ref_init (l : Launch) (dC : Nat → ClassId) (dI : Nat → Nat → Nat) (m0 : Nat) (cI cJ cZ : ClassId) (sz : Nat)  : Met l yX4_init wsX4_init ({ frames := 1, cells := 9, slots := 780, locals := 12 } : Room) (va_Pc [.ref m0] (fw_pW (dC, dI) vwCl [(cI, .int), (cJ, .long), (cZ, .boolean)] [(m0, .inr (4, [.int 0, .int 0, .int 0, .int 0, .int 0, .null, .null, .null, .null, .null, .null, .null, .null, .null]))] sz)) (va_Qv (S := Nat × Nat × Nat × Nat × Nat × Nat × Nat × Nat × Nat) (fun _ => True) (fun u t => match u with | (pz, pr, pm, pk, pj, pf, su, te, wh) => fw_q (dC, dI) vwCl [(cI, .int), (cJ, .long), (cZ, .boolean)] (va_A [(m0, .inr (4, [.int 0, .int 0, .int 0, .int 0, .int 0, .null, .null, .null, .null, .null, .null, .null, .null, .null]))] sz) [(m0, .inr (4, [.int 0, .int 0, .int 50, .int 20, .int 5, .ref pz, .ref pr, .ref pm, .ref pk, .ref pj, .ref pf, .ref su, .ref te, .ref wh])), (pz, .inl (cI, 12, .inl (fun _ => 0))), (pr, .inl (cI, 576, .inl (fun _ => 0))), (pm, .inl (cZ, 12, .inl (fun _ => 0))), (pk, .inl (cI, 12, .inl (fun _ => 0))), (pj, .inl (cI, 12, .inl (fun _ => 0))), (pf, .inl (cI, 12, .inl (fun _ => 0))), (su, .inl (cJ, 48, .inr (.inl (fun _ => 0)))), (te, .inl (cJ, 48, .inr (.inl (fun _ => 0)))), (wh, .inl (cJ, 48, .inr (.inl (fun _ => 0))))] t) (va_A [(m0, .inr (4, [.int 0, .int 0, .int 0, .int 0, .int 0, .null, .null, .null, .null, .null, .null, .null, .null, .null]))] sz)) 9 780 (va_A [(m0, .inr (4, [.int 0, .int 0, .int 0, .int 0, .int 0, .null, .null, .null, .null, .null, .null, .null, .null, .null]))] sz) := by
  refine fw_metW (cc := cX4_init) (maxL := 1) (ret := none) (by decide) rfl (Nat.le_of_ble_eq_true rfl) ?_
  intro zp ze zs zm zbelow zmeth zc ls hx hb hr hts hown hlocks hml hin hN hsz hP hK hD hA hS hl
  generalize hAe : (va_A [(m0, .inr (4, [.int 0, .int 0, .int 0, .int 0, .int 0, .null, .null, .null, .null, .null, .null, .null, .null, .null]))] sz) = A at hD hA hS ⊢
  have hown : zs.vm.findClass RX4 = some zm.cls := hown
  have hin : zmeth.name = "<init>" := hin
  have hl : lv_has ls 1 [(0, .ref m0)] := hl
  refine lv_aload_n hx hb dX4_init_0 rfl (lv_at hl 0 rfl) ?_
  refine W.objInit hx hb hown (hts (.methodLink RX4 1 objectInit) (by decide +kernel)) (hts (.instanceMethod objectInit) (by decide +kernel)) (hts _ (by decide +kernel)) rfl (by rw [hml]; exact hl.1) rfl dX4_init_1 (Nat.le_of_ble_eq_true rfl) (Nat.le_of_ble_eq_true rfl) ?_
  refine W.eq (g2 := F0 zm 4 ls []) rfl ?_
  refine lv_aload_n hx hb dX4_init_4 rfl (lv_at hl 0 rfl) ?_
  refine lv_bipush (v := 50) hx hb dX4_init_5 (by decide) ?_
  refine va_put (D := (dC, dI)) (ci := 4) (v := .int 50) (ty := .int) (C := RX4) (T := TX4) (N := 14) hx hb hts (by decide +kernel) tyX4 tyX4_ok nmX4 hown hK hP hD hS 0 rfl rfl 2 (by decide) (hts (.fieldLink RX4 7 "FlakyBoundsModel" "level" "I") (by decide +kernel)) (fun _ h9 => h9) rfl (by decide +kernel) rfl rfl (Nat.le_of_ble_eq_true rfl) dX4_init_7 (fun H locs hP hD hS => ?_)
  have hP : va_P (dC, dI) vwCl [(m0, .inr (4, [.int 0, .int 0, .int 50, .int 0, .int 0, .null, .null, .null, .null, .null, .null, .null, .null, .null]))] H := hP
  have hD : va_D A [(m0, .inr (4, [.int 0, .int 0, .int 50, .int 0, .int 0, .null, .null, .null, .null, .null, .null, .null, .null, .null]))] := hD
  refine lv_aload_n hx hb dX4_init_10 rfl (lv_at hl 0 rfl) ?_
  refine lv_bipush (v := 20) hx hb dX4_init_11 (by decide) ?_
  refine va_put (D := (dC, dI)) (ci := 4) (v := .int 20) (ty := .int) (C := RX4) (T := TX4) (N := 14) hx hb hts (by decide +kernel) tyX4 tyX4_ok nmX4 hown hK hP hD hS 0 rfl rfl 3 (by decide) (hts (.fieldLink RX4 13 "FlakyBoundsModel" "mark" "I") (by decide +kernel)) (fun _ h9 => h9) rfl (by decide +kernel) rfl rfl (Nat.le_of_ble_eq_true rfl) dX4_init_13 (fun H locs hP hD hS => ?_)
  have hP : va_P (dC, dI) vwCl [(m0, .inr (4, [.int 0, .int 0, .int 50, .int 20, .int 0, .null, .null, .null, .null, .null, .null, .null, .null, .null]))] H := hP
  have hD : va_D A [(m0, .inr (4, [.int 0, .int 0, .int 50, .int 20, .int 0, .null, .null, .null, .null, .null, .null, .null, .null, .null]))] := hD
  refine lv_aload_n hx hb dX4_init_16 rfl (lv_at hl 0 rfl) ?_
  refine lv_iconst (v := 5) hx hb dX4_init_17 (by decide) ?_
  refine va_put (D := (dC, dI)) (ci := 4) (v := .int 5) (ty := .int) (C := RX4) (T := TX4) (N := 14) hx hb hts (by decide +kernel) tyX4 tyX4_ok nmX4 hown hK hP hD hS 0 rfl rfl 4 (by decide) (hts (.fieldLink RX4 16 "FlakyBoundsModel" "clear" "I") (by decide +kernel)) (fun _ h9 => h9) rfl (by decide +kernel) rfl rfl (Nat.le_of_ble_eq_true rfl) dX4_init_18 (fun H locs hP hD hS => ?_)
  have hP : va_P (dC, dI) vwCl [(m0, .inr (4, [.int 0, .int 0, .int 50, .int 20, .int 5, .null, .null, .null, .null, .null, .null, .null, .null, .null]))] H := hP
  have hD : va_D A [(m0, .inr (4, [.int 0, .int 0, .int 50, .int 20, .int 5, .null, .null, .null, .null, .null, .null, .null, .null, .null]))] := hD
  refine lv_aload_n hx hb dX4_init_21 rfl (lv_at hl 0 rfl) ?_
  refine lv_bipush (v := 12) hx hb dX4_init_22 (by decide) ?_
  refine va_newa (atype := .int) (ty := .int) (N' := 12) (a0 := (12, .inl (fun _ => 0))) hx hb (hts (.arrayClass .int) (by decide +kernel)) rfl hK hP hD hS hA (fun _ => rfl) (by decide) (by decide) (by decide +kernel) (Nat.le_of_ble_eq_true rfl) (Nat.le_of_ble_eq_true rfl) dX4_init_24 (fun q24 cA24 H hK hP hD hS => ?_)
  have hK : va_K (dC, dI) vwCl [(cI, .int), (cJ, .long), (cZ, .boolean), (cA24, .int)] zs := hK
  have eA : cA24 = cI := Option.some.inj ((va_nm_int (hK.2 3 _ rfl).2).symm.trans (va_nm_int (hK.2 0 _ rfl).2))
  rw [eA] at hP hD
  have hP : va_P (dC, dI) vwCl [(m0, .inr (4, [.int 0, .int 0, .int 50, .int 20, .int 5, .null, .null, .null, .null, .null, .null, .null, .null, .null])), (q24, .inl (cI, 12, .inl (fun _ => 0)))] H := hP
  have hD : va_D A [(m0, .inr (4, [.int 0, .int 0, .int 50, .int 20, .int 5, .null, .null, .null, .null, .null, .null, .null, .null, .null])), (q24, .inl (cI, 12, .inl (fun _ => 0)))] := hD
  refine W.widen (k := 1) (n := 12) (by decide +kernel) (by decide +kernel) ?_
  refine va_putF (D := (dC, dI)) (ci := 4) (v := .ref q24) (ty := (.array .int)) (C := RX4) (T := TX4) (N := 14) hx hb hts (by decide +kernel) tyX4 tyX4_ok nmX4 hown hK hP hD hS 0 rfl rfl 5 (by decide) (hts (.fieldLink RX4 19 "FlakyBoundsModel" "size" "[I") (by decide +kernel)) (fun _ h9 => h9) rfl hin rfl (by decide +kernel) rfl rfl (Nat.le_of_ble_eq_true rfl) dX4_init_26 (fun H locs hP hD hS => ?_)
  have hP : va_P (dC, dI) vwCl [(m0, .inr (4, [.int 0, .int 0, .int 50, .int 20, .int 5, .ref q24, .null, .null, .null, .null, .null, .null, .null, .null])), (q24, .inl (cI, 12, .inl (fun _ => 0)))] H := hP
  have hD : va_D A [(m0, .inr (4, [.int 0, .int 0, .int 50, .int 20, .int 5, .ref q24, .null, .null, .null, .null, .null, .null, .null, .null])), (q24, .inl (cI, 12, .inl (fun _ => 0)))] := hD
  refine lv_aload_n hx hb dX4_init_29 rfl (lv_at hl 0 rfl) ?_
  refine lv_sipush (v := 576) hx hb dX4_init_30 (by decide) ?_
  refine va_newa (atype := .int) (ty := .int) (N' := 576) (a0 := (576, .inl (fun _ => 0))) hx hb (hts (.arrayClass .int) (by decide +kernel)) rfl hK hP hD hS hA (fun _ => rfl) (by decide) (by decide) (by decide +kernel) (Nat.le_of_ble_eq_true rfl) (Nat.le_of_ble_eq_true rfl) dX4_init_33 (fun q33 cA33 H hK hP hD hS => ?_)
  have hK : va_K (dC, dI) vwCl [(cI, .int), (cJ, .long), (cZ, .boolean), (cA24, .int), (cA33, .int)] zs := hK
  have eA : cA33 = cI := Option.some.inj ((va_nm_int (hK.2 4 _ rfl).2).symm.trans (va_nm_int (hK.2 0 _ rfl).2))
  rw [eA] at hP hD
  have hP : va_P (dC, dI) vwCl [(m0, .inr (4, [.int 0, .int 0, .int 50, .int 20, .int 5, .ref q24, .null, .null, .null, .null, .null, .null, .null, .null])), (q24, .inl (cI, 12, .inl (fun _ => 0))), (q33, .inl (cI, 576, .inl (fun _ => 0)))] H := hP
  have hD : va_D A [(m0, .inr (4, [.int 0, .int 0, .int 50, .int 20, .int 5, .ref q24, .null, .null, .null, .null, .null, .null, .null, .null])), (q24, .inl (cI, 12, .inl (fun _ => 0))), (q33, .inl (cI, 576, .inl (fun _ => 0)))] := hD
  refine W.widen (k := 2) (n := 588) (by decide +kernel) (by decide +kernel) ?_
  refine va_putF (D := (dC, dI)) (ci := 4) (v := .ref q33) (ty := (.array .int)) (C := RX4) (T := TX4) (N := 14) hx hb hts (by decide +kernel) tyX4 tyX4_ok nmX4 hown hK hP hD hS 0 rfl rfl 6 (by decide) (hts (.fieldLink RX4 23 "FlakyBoundsModel" "runs" "[I") (by decide +kernel)) (fun _ h9 => h9) rfl hin rfl (by decide +kernel) rfl rfl (Nat.le_of_ble_eq_true rfl) dX4_init_35 (fun H locs hP hD hS => ?_)
  have hP : va_P (dC, dI) vwCl [(m0, .inr (4, [.int 0, .int 0, .int 50, .int 20, .int 5, .ref q24, .ref q33, .null, .null, .null, .null, .null, .null, .null])), (q24, .inl (cI, 12, .inl (fun _ => 0))), (q33, .inl (cI, 576, .inl (fun _ => 0)))] H := hP
  have hD : va_D A [(m0, .inr (4, [.int 0, .int 0, .int 50, .int 20, .int 5, .ref q24, .ref q33, .null, .null, .null, .null, .null, .null, .null])), (q24, .inl (cI, 12, .inl (fun _ => 0))), (q33, .inl (cI, 576, .inl (fun _ => 0)))] := hD
  refine lv_aload_n hx hb dX4_init_38 rfl (lv_at hl 0 rfl) ?_
  refine lv_bipush (v := 12) hx hb dX4_init_39 (by decide) ?_
  refine va_newa (atype := .boolean) (ty := .boolean) (N' := 12) (a0 := (12, .inl (fun _ => 0))) hx hb (hts (.arrayClass .boolean) (by decide +kernel)) rfl hK hP hD hS hA (fun _ => rfl) (by decide) (by decide) (by decide +kernel) (Nat.le_of_ble_eq_true rfl) (Nat.le_of_ble_eq_true rfl) dX4_init_41 (fun q41 cA41 H hK hP hD hS => ?_)
  have hK : va_K (dC, dI) vwCl [(cI, .int), (cJ, .long), (cZ, .boolean), (cA24, .int), (cA33, .int), (cA41, .boolean)] zs := hK
  have eA : cA41 = cZ := Option.some.inj ((va_nm_boolean (hK.2 5 _ rfl).2).symm.trans (va_nm_boolean (hK.2 2 _ rfl).2))
  rw [eA] at hP hD
  have hP : va_P (dC, dI) vwCl [(m0, .inr (4, [.int 0, .int 0, .int 50, .int 20, .int 5, .ref q24, .ref q33, .null, .null, .null, .null, .null, .null, .null])), (q24, .inl (cI, 12, .inl (fun _ => 0))), (q33, .inl (cI, 576, .inl (fun _ => 0))), (q41, .inl (cZ, 12, .inl (fun _ => 0)))] H := hP
  have hD : va_D A [(m0, .inr (4, [.int 0, .int 0, .int 50, .int 20, .int 5, .ref q24, .ref q33, .null, .null, .null, .null, .null, .null, .null])), (q24, .inl (cI, 12, .inl (fun _ => 0))), (q33, .inl (cI, 576, .inl (fun _ => 0))), (q41, .inl (cZ, 12, .inl (fun _ => 0)))] := hD
  refine W.widen (k := 3) (n := 600) (by decide +kernel) (by decide +kernel) ?_
  refine va_putF (D := (dC, dI)) (ci := 4) (v := .ref q41) (ty := (.array .boolean)) (C := RX4) (T := TX4) (N := 14) hx hb hts (by decide +kernel) tyX4 tyX4_ok nmX4 hown hK hP hD hS 0 rfl rfl 7 (by decide) (hts (.fieldLink RX4 26 "FlakyBoundsModel" "isMarked" "[Z") (by decide +kernel)) (fun _ h9 => h9) rfl hin rfl (by decide +kernel) rfl rfl (Nat.le_of_ble_eq_true rfl) dX4_init_43 (fun H locs hP hD hS => ?_)
  have hP : va_P (dC, dI) vwCl [(m0, .inr (4, [.int 0, .int 0, .int 50, .int 20, .int 5, .ref q24, .ref q33, .ref q41, .null, .null, .null, .null, .null, .null])), (q24, .inl (cI, 12, .inl (fun _ => 0))), (q33, .inl (cI, 576, .inl (fun _ => 0))), (q41, .inl (cZ, 12, .inl (fun _ => 0)))] H := hP
  have hD : va_D A [(m0, .inr (4, [.int 0, .int 0, .int 50, .int 20, .int 5, .ref q24, .ref q33, .ref q41, .null, .null, .null, .null, .null, .null])), (q24, .inl (cI, 12, .inl (fun _ => 0))), (q33, .inl (cI, 576, .inl (fun _ => 0))), (q41, .inl (cZ, 12, .inl (fun _ => 0)))] := hD
  refine lv_aload_n hx hb dX4_init_46 rfl (lv_at hl 0 rfl) ?_
  refine lv_bipush (v := 12) hx hb dX4_init_47 (by decide) ?_
  refine va_newa (atype := .int) (ty := .int) (N' := 12) (a0 := (12, .inl (fun _ => 0))) hx hb (hts (.arrayClass .int) (by decide +kernel)) rfl hK hP hD hS hA (fun _ => rfl) (by decide) (by decide) (by decide +kernel) (Nat.le_of_ble_eq_true rfl) (Nat.le_of_ble_eq_true rfl) dX4_init_49 (fun q49 cA49 H hK hP hD hS => ?_)
  have hK : va_K (dC, dI) vwCl [(cI, .int), (cJ, .long), (cZ, .boolean), (cA24, .int), (cA33, .int), (cA41, .boolean), (cA49, .int)] zs := hK
  have eA : cA49 = cI := Option.some.inj ((va_nm_int (hK.2 6 _ rfl).2).symm.trans (va_nm_int (hK.2 0 _ rfl).2))
  rw [eA] at hP hD
  have hP : va_P (dC, dI) vwCl [(m0, .inr (4, [.int 0, .int 0, .int 50, .int 20, .int 5, .ref q24, .ref q33, .ref q41, .null, .null, .null, .null, .null, .null])), (q24, .inl (cI, 12, .inl (fun _ => 0))), (q33, .inl (cI, 576, .inl (fun _ => 0))), (q41, .inl (cZ, 12, .inl (fun _ => 0))), (q49, .inl (cI, 12, .inl (fun _ => 0)))] H := hP
  have hD : va_D A [(m0, .inr (4, [.int 0, .int 0, .int 50, .int 20, .int 5, .ref q24, .ref q33, .ref q41, .null, .null, .null, .null, .null, .null])), (q24, .inl (cI, 12, .inl (fun _ => 0))), (q33, .inl (cI, 576, .inl (fun _ => 0))), (q41, .inl (cZ, 12, .inl (fun _ => 0))), (q49, .inl (cI, 12, .inl (fun _ => 0)))] := hD
  refine W.widen (k := 4) (n := 612) (by decide +kernel) (by decide +kernel) ?_
  refine va_putF (D := (dC, dI)) (ci := 4) (v := .ref q49) (ty := (.array .int)) (C := RX4) (T := TX4) (N := 14) hx hb hts (by decide +kernel) tyX4 tyX4_ok nmX4 hown hK hP hD hS 0 rfl rfl 8 (by decide) (hts (.fieldLink RX4 30 "FlakyBoundsModel" "marks" "[I") (by decide +kernel)) (fun _ h9 => h9) rfl hin rfl (by decide +kernel) rfl rfl (Nat.le_of_ble_eq_true rfl) dX4_init_51 (fun H locs hP hD hS => ?_)
  have hP : va_P (dC, dI) vwCl [(m0, .inr (4, [.int 0, .int 0, .int 50, .int 20, .int 5, .ref q24, .ref q33, .ref q41, .ref q49, .null, .null, .null, .null, .null])), (q24, .inl (cI, 12, .inl (fun _ => 0))), (q33, .inl (cI, 576, .inl (fun _ => 0))), (q41, .inl (cZ, 12, .inl (fun _ => 0))), (q49, .inl (cI, 12, .inl (fun _ => 0)))] H := hP
  have hD : va_D A [(m0, .inr (4, [.int 0, .int 0, .int 50, .int 20, .int 5, .ref q24, .ref q33, .ref q41, .ref q49, .null, .null, .null, .null, .null])), (q24, .inl (cI, 12, .inl (fun _ => 0))), (q33, .inl (cI, 576, .inl (fun _ => 0))), (q41, .inl (cZ, 12, .inl (fun _ => 0))), (q49, .inl (cI, 12, .inl (fun _ => 0)))] := hD
  refine lv_aload_n hx hb dX4_init_54 rfl (lv_at hl 0 rfl) ?_
  refine lv_bipush (v := 12) hx hb dX4_init_55 (by decide) ?_
  refine va_newa (atype := .int) (ty := .int) (N' := 12) (a0 := (12, .inl (fun _ => 0))) hx hb (hts (.arrayClass .int) (by decide +kernel)) rfl hK hP hD hS hA (fun _ => rfl) (by decide) (by decide) (by decide +kernel) (Nat.le_of_ble_eq_true rfl) (Nat.le_of_ble_eq_true rfl) dX4_init_57 (fun q57 cA57 H hK hP hD hS => ?_)
  have hK : va_K (dC, dI) vwCl [(cI, .int), (cJ, .long), (cZ, .boolean), (cA24, .int), (cA33, .int), (cA41, .boolean), (cA49, .int), (cA57, .int)] zs := hK
  have eA : cA57 = cI := Option.some.inj ((va_nm_int (hK.2 7 _ rfl).2).symm.trans (va_nm_int (hK.2 0 _ rfl).2))
  rw [eA] at hP hD
  have hP : va_P (dC, dI) vwCl [(m0, .inr (4, [.int 0, .int 0, .int 50, .int 20, .int 5, .ref q24, .ref q33, .ref q41, .ref q49, .null, .null, .null, .null, .null])), (q24, .inl (cI, 12, .inl (fun _ => 0))), (q33, .inl (cI, 576, .inl (fun _ => 0))), (q41, .inl (cZ, 12, .inl (fun _ => 0))), (q49, .inl (cI, 12, .inl (fun _ => 0))), (q57, .inl (cI, 12, .inl (fun _ => 0)))] H := hP
  have hD : va_D A [(m0, .inr (4, [.int 0, .int 0, .int 50, .int 20, .int 5, .ref q24, .ref q33, .ref q41, .ref q49, .null, .null, .null, .null, .null])), (q24, .inl (cI, 12, .inl (fun _ => 0))), (q33, .inl (cI, 576, .inl (fun _ => 0))), (q41, .inl (cZ, 12, .inl (fun _ => 0))), (q49, .inl (cI, 12, .inl (fun _ => 0))), (q57, .inl (cI, 12, .inl (fun _ => 0)))] := hD
  refine W.widen (k := 5) (n := 624) (by decide +kernel) (by decide +kernel) ?_
  refine va_putF (D := (dC, dI)) (ci := 4) (v := .ref q57) (ty := (.array .int)) (C := RX4) (T := TX4) (N := 14) hx hb hts (by decide +kernel) tyX4 tyX4_ok nmX4 hown hK hP hD hS 0 rfl rfl 9 (by decide) (hts (.fieldLink RX4 33 "FlakyBoundsModel" "judged" "[I") (by decide +kernel)) (fun _ h9 => h9) rfl hin rfl (by decide +kernel) rfl rfl (Nat.le_of_ble_eq_true rfl) dX4_init_59 (fun H locs hP hD hS => ?_)
  have hP : va_P (dC, dI) vwCl [(m0, .inr (4, [.int 0, .int 0, .int 50, .int 20, .int 5, .ref q24, .ref q33, .ref q41, .ref q49, .ref q57, .null, .null, .null, .null])), (q24, .inl (cI, 12, .inl (fun _ => 0))), (q33, .inl (cI, 576, .inl (fun _ => 0))), (q41, .inl (cZ, 12, .inl (fun _ => 0))), (q49, .inl (cI, 12, .inl (fun _ => 0))), (q57, .inl (cI, 12, .inl (fun _ => 0)))] H := hP
  have hD : va_D A [(m0, .inr (4, [.int 0, .int 0, .int 50, .int 20, .int 5, .ref q24, .ref q33, .ref q41, .ref q49, .ref q57, .null, .null, .null, .null])), (q24, .inl (cI, 12, .inl (fun _ => 0))), (q33, .inl (cI, 576, .inl (fun _ => 0))), (q41, .inl (cZ, 12, .inl (fun _ => 0))), (q49, .inl (cI, 12, .inl (fun _ => 0))), (q57, .inl (cI, 12, .inl (fun _ => 0)))] := hD
  refine lv_aload_n hx hb dX4_init_62 rfl (lv_at hl 0 rfl) ?_
  refine lv_bipush (v := 12) hx hb dX4_init_63 (by decide) ?_
  refine va_newa (atype := .int) (ty := .int) (N' := 12) (a0 := (12, .inl (fun _ => 0))) hx hb (hts (.arrayClass .int) (by decide +kernel)) rfl hK hP hD hS hA (fun _ => rfl) (by decide) (by decide) (by decide +kernel) (Nat.le_of_ble_eq_true rfl) (Nat.le_of_ble_eq_true rfl) dX4_init_65 (fun q65 cA65 H hK hP hD hS => ?_)
  have hK : va_K (dC, dI) vwCl [(cI, .int), (cJ, .long), (cZ, .boolean), (cA24, .int), (cA33, .int), (cA41, .boolean), (cA49, .int), (cA57, .int), (cA65, .int)] zs := hK
  have eA : cA65 = cI := Option.some.inj ((va_nm_int (hK.2 8 _ rfl).2).symm.trans (va_nm_int (hK.2 0 _ rfl).2))
  rw [eA] at hP hD
  have hP : va_P (dC, dI) vwCl [(m0, .inr (4, [.int 0, .int 0, .int 50, .int 20, .int 5, .ref q24, .ref q33, .ref q41, .ref q49, .ref q57, .null, .null, .null, .null])), (q24, .inl (cI, 12, .inl (fun _ => 0))), (q33, .inl (cI, 576, .inl (fun _ => 0))), (q41, .inl (cZ, 12, .inl (fun _ => 0))), (q49, .inl (cI, 12, .inl (fun _ => 0))), (q57, .inl (cI, 12, .inl (fun _ => 0))), (q65, .inl (cI, 12, .inl (fun _ => 0)))] H := hP
  have hD : va_D A [(m0, .inr (4, [.int 0, .int 0, .int 50, .int 20, .int 5, .ref q24, .ref q33, .ref q41, .ref q49, .ref q57, .null, .null, .null, .null])), (q24, .inl (cI, 12, .inl (fun _ => 0))), (q33, .inl (cI, 576, .inl (fun _ => 0))), (q41, .inl (cZ, 12, .inl (fun _ => 0))), (q49, .inl (cI, 12, .inl (fun _ => 0))), (q57, .inl (cI, 12, .inl (fun _ => 0))), (q65, .inl (cI, 12, .inl (fun _ => 0)))] := hD
  refine W.widen (k := 6) (n := 636) (by decide +kernel) (by decide +kernel) ?_
  refine va_putF (D := (dC, dI)) (ci := 4) (v := .ref q65) (ty := (.array .int)) (C := RX4) (T := TX4) (N := 14) hx hb hts (by decide +kernel) tyX4 tyX4_ok nmX4 hown hK hP hD hS 0 rfl rfl 10 (by decide) (hts (.fieldLink RX4 36 "FlakyBoundsModel" "fails" "[I") (by decide +kernel)) (fun _ h9 => h9) rfl hin rfl (by decide +kernel) rfl rfl (Nat.le_of_ble_eq_true rfl) dX4_init_67 (fun H locs hP hD hS => ?_)
  have hP : va_P (dC, dI) vwCl [(m0, .inr (4, [.int 0, .int 0, .int 50, .int 20, .int 5, .ref q24, .ref q33, .ref q41, .ref q49, .ref q57, .ref q65, .null, .null, .null])), (q24, .inl (cI, 12, .inl (fun _ => 0))), (q33, .inl (cI, 576, .inl (fun _ => 0))), (q41, .inl (cZ, 12, .inl (fun _ => 0))), (q49, .inl (cI, 12, .inl (fun _ => 0))), (q57, .inl (cI, 12, .inl (fun _ => 0))), (q65, .inl (cI, 12, .inl (fun _ => 0)))] H := hP
  have hD : va_D A [(m0, .inr (4, [.int 0, .int 0, .int 50, .int 20, .int 5, .ref q24, .ref q33, .ref q41, .ref q49, .ref q57, .ref q65, .null, .null, .null])), (q24, .inl (cI, 12, .inl (fun _ => 0))), (q33, .inl (cI, 576, .inl (fun _ => 0))), (q41, .inl (cZ, 12, .inl (fun _ => 0))), (q49, .inl (cI, 12, .inl (fun _ => 0))), (q57, .inl (cI, 12, .inl (fun _ => 0))), (q65, .inl (cI, 12, .inl (fun _ => 0)))] := hD
  refine lv_aload_n hx hb dX4_init_70 rfl (lv_at hl 0 rfl) ?_
  refine lv_bipush (v := 48) hx hb dX4_init_71 (by decide) ?_
  refine va_newa (atype := .long) (ty := .long) (N' := 48) (a0 := (48, .inr (.inl (fun _ => 0)))) hx hb (hts (.arrayClass .long) (by decide +kernel)) rfl hK hP hD hS hA (fun _ => rfl) (by decide) (by decide) (by decide +kernel) (Nat.le_of_ble_eq_true rfl) (Nat.le_of_ble_eq_true rfl) dX4_init_73 (fun q73 cA73 H hK hP hD hS => ?_)
  have hK : va_K (dC, dI) vwCl [(cI, .int), (cJ, .long), (cZ, .boolean), (cA24, .int), (cA33, .int), (cA41, .boolean), (cA49, .int), (cA57, .int), (cA65, .int), (cA73, .long)] zs := hK
  have eA : cA73 = cJ := Option.some.inj ((va_nm_long (hK.2 9 _ rfl).2).symm.trans (va_nm_long (hK.2 1 _ rfl).2))
  rw [eA] at hP hD
  have hP : va_P (dC, dI) vwCl [(m0, .inr (4, [.int 0, .int 0, .int 50, .int 20, .int 5, .ref q24, .ref q33, .ref q41, .ref q49, .ref q57, .ref q65, .null, .null, .null])), (q24, .inl (cI, 12, .inl (fun _ => 0))), (q33, .inl (cI, 576, .inl (fun _ => 0))), (q41, .inl (cZ, 12, .inl (fun _ => 0))), (q49, .inl (cI, 12, .inl (fun _ => 0))), (q57, .inl (cI, 12, .inl (fun _ => 0))), (q65, .inl (cI, 12, .inl (fun _ => 0))), (q73, .inl (cJ, 48, .inr (.inl (fun _ => 0))))] H := hP
  have hD : va_D A [(m0, .inr (4, [.int 0, .int 0, .int 50, .int 20, .int 5, .ref q24, .ref q33, .ref q41, .ref q49, .ref q57, .ref q65, .null, .null, .null])), (q24, .inl (cI, 12, .inl (fun _ => 0))), (q33, .inl (cI, 576, .inl (fun _ => 0))), (q41, .inl (cZ, 12, .inl (fun _ => 0))), (q49, .inl (cI, 12, .inl (fun _ => 0))), (q57, .inl (cI, 12, .inl (fun _ => 0))), (q65, .inl (cI, 12, .inl (fun _ => 0))), (q73, .inl (cJ, 48, .inr (.inl (fun _ => 0))))] := hD
  refine W.widen (k := 7) (n := 684) (by decide +kernel) (by decide +kernel) ?_
  refine va_putF (D := (dC, dI)) (ci := 4) (v := .ref q73) (ty := (.array .long)) (C := RX4) (T := TX4) (N := 14) hx hb hts (by decide +kernel) tyX4 tyX4_ok nmX4 hown hK hP hD hS 0 rfl rfl 11 (by decide) (hts (.fieldLink RX4 39 "FlakyBoundsModel" "sum" "[J") (by decide +kernel)) (fun _ h9 => h9) rfl hin rfl (by decide +kernel) rfl rfl (Nat.le_of_ble_eq_true rfl) dX4_init_75 (fun H locs hP hD hS => ?_)
  have hP : va_P (dC, dI) vwCl [(m0, .inr (4, [.int 0, .int 0, .int 50, .int 20, .int 5, .ref q24, .ref q33, .ref q41, .ref q49, .ref q57, .ref q65, .ref q73, .null, .null])), (q24, .inl (cI, 12, .inl (fun _ => 0))), (q33, .inl (cI, 576, .inl (fun _ => 0))), (q41, .inl (cZ, 12, .inl (fun _ => 0))), (q49, .inl (cI, 12, .inl (fun _ => 0))), (q57, .inl (cI, 12, .inl (fun _ => 0))), (q65, .inl (cI, 12, .inl (fun _ => 0))), (q73, .inl (cJ, 48, .inr (.inl (fun _ => 0))))] H := hP
  have hD : va_D A [(m0, .inr (4, [.int 0, .int 0, .int 50, .int 20, .int 5, .ref q24, .ref q33, .ref q41, .ref q49, .ref q57, .ref q65, .ref q73, .null, .null])), (q24, .inl (cI, 12, .inl (fun _ => 0))), (q33, .inl (cI, 576, .inl (fun _ => 0))), (q41, .inl (cZ, 12, .inl (fun _ => 0))), (q49, .inl (cI, 12, .inl (fun _ => 0))), (q57, .inl (cI, 12, .inl (fun _ => 0))), (q65, .inl (cI, 12, .inl (fun _ => 0))), (q73, .inl (cJ, 48, .inr (.inl (fun _ => 0))))] := hD
  refine lv_aload_n hx hb dX4_init_78 rfl (lv_at hl 0 rfl) ?_
  refine lv_bipush (v := 48) hx hb dX4_init_79 (by decide) ?_
  refine va_newa (atype := .long) (ty := .long) (N' := 48) (a0 := (48, .inr (.inl (fun _ => 0)))) hx hb (hts (.arrayClass .long) (by decide +kernel)) rfl hK hP hD hS hA (fun _ => rfl) (by decide) (by decide) (by decide +kernel) (Nat.le_of_ble_eq_true rfl) (Nat.le_of_ble_eq_true rfl) dX4_init_81 (fun q81 cA81 H hK hP hD hS => ?_)
  have hK : va_K (dC, dI) vwCl [(cI, .int), (cJ, .long), (cZ, .boolean), (cA24, .int), (cA33, .int), (cA41, .boolean), (cA49, .int), (cA57, .int), (cA65, .int), (cA73, .long), (cA81, .long)] zs := hK
  have eA : cA81 = cJ := Option.some.inj ((va_nm_long (hK.2 10 _ rfl).2).symm.trans (va_nm_long (hK.2 1 _ rfl).2))
  rw [eA] at hP hD
  have hP : va_P (dC, dI) vwCl [(m0, .inr (4, [.int 0, .int 0, .int 50, .int 20, .int 5, .ref q24, .ref q33, .ref q41, .ref q49, .ref q57, .ref q65, .ref q73, .null, .null])), (q24, .inl (cI, 12, .inl (fun _ => 0))), (q33, .inl (cI, 576, .inl (fun _ => 0))), (q41, .inl (cZ, 12, .inl (fun _ => 0))), (q49, .inl (cI, 12, .inl (fun _ => 0))), (q57, .inl (cI, 12, .inl (fun _ => 0))), (q65, .inl (cI, 12, .inl (fun _ => 0))), (q73, .inl (cJ, 48, .inr (.inl (fun _ => 0)))), (q81, .inl (cJ, 48, .inr (.inl (fun _ => 0))))] H := hP
  have hD : va_D A [(m0, .inr (4, [.int 0, .int 0, .int 50, .int 20, .int 5, .ref q24, .ref q33, .ref q41, .ref q49, .ref q57, .ref q65, .ref q73, .null, .null])), (q24, .inl (cI, 12, .inl (fun _ => 0))), (q33, .inl (cI, 576, .inl (fun _ => 0))), (q41, .inl (cZ, 12, .inl (fun _ => 0))), (q49, .inl (cI, 12, .inl (fun _ => 0))), (q57, .inl (cI, 12, .inl (fun _ => 0))), (q65, .inl (cI, 12, .inl (fun _ => 0))), (q73, .inl (cJ, 48, .inr (.inl (fun _ => 0)))), (q81, .inl (cJ, 48, .inr (.inl (fun _ => 0))))] := hD
  refine W.widen (k := 8) (n := 732) (by decide +kernel) (by decide +kernel) ?_
  refine va_putF (D := (dC, dI)) (ci := 4) (v := .ref q81) (ty := (.array .long)) (C := RX4) (T := TX4) (N := 14) hx hb hts (by decide +kernel) tyX4 tyX4_ok nmX4 hown hK hP hD hS 0 rfl rfl 12 (by decide) (hts (.fieldLink RX4 43 "FlakyBoundsModel" "term" "[J") (by decide +kernel)) (fun _ h9 => h9) rfl hin rfl (by decide +kernel) rfl rfl (Nat.le_of_ble_eq_true rfl) dX4_init_83 (fun H locs hP hD hS => ?_)
  have hP : va_P (dC, dI) vwCl [(m0, .inr (4, [.int 0, .int 0, .int 50, .int 20, .int 5, .ref q24, .ref q33, .ref q41, .ref q49, .ref q57, .ref q65, .ref q73, .ref q81, .null])), (q24, .inl (cI, 12, .inl (fun _ => 0))), (q33, .inl (cI, 576, .inl (fun _ => 0))), (q41, .inl (cZ, 12, .inl (fun _ => 0))), (q49, .inl (cI, 12, .inl (fun _ => 0))), (q57, .inl (cI, 12, .inl (fun _ => 0))), (q65, .inl (cI, 12, .inl (fun _ => 0))), (q73, .inl (cJ, 48, .inr (.inl (fun _ => 0)))), (q81, .inl (cJ, 48, .inr (.inl (fun _ => 0))))] H := hP
  have hD : va_D A [(m0, .inr (4, [.int 0, .int 0, .int 50, .int 20, .int 5, .ref q24, .ref q33, .ref q41, .ref q49, .ref q57, .ref q65, .ref q73, .ref q81, .null])), (q24, .inl (cI, 12, .inl (fun _ => 0))), (q33, .inl (cI, 576, .inl (fun _ => 0))), (q41, .inl (cZ, 12, .inl (fun _ => 0))), (q49, .inl (cI, 12, .inl (fun _ => 0))), (q57, .inl (cI, 12, .inl (fun _ => 0))), (q65, .inl (cI, 12, .inl (fun _ => 0))), (q73, .inl (cJ, 48, .inr (.inl (fun _ => 0)))), (q81, .inl (cJ, 48, .inr (.inl (fun _ => 0))))] := hD
  refine lv_aload_n hx hb dX4_init_86 rfl (lv_at hl 0 rfl) ?_
  refine lv_bipush (v := 48) hx hb dX4_init_87 (by decide) ?_
  refine va_newa (atype := .long) (ty := .long) (N' := 48) (a0 := (48, .inr (.inl (fun _ => 0)))) hx hb (hts (.arrayClass .long) (by decide +kernel)) rfl hK hP hD hS hA (fun _ => rfl) (by decide) (by decide) (by decide +kernel) (Nat.le_of_ble_eq_true rfl) (Nat.le_of_ble_eq_true rfl) dX4_init_89 (fun q89 cA89 H hK hP hD hS => ?_)
  have hK : va_K (dC, dI) vwCl [(cI, .int), (cJ, .long), (cZ, .boolean), (cA24, .int), (cA33, .int), (cA41, .boolean), (cA49, .int), (cA57, .int), (cA65, .int), (cA73, .long), (cA81, .long), (cA89, .long)] zs := hK
  have eA : cA89 = cJ := Option.some.inj ((va_nm_long (hK.2 11 _ rfl).2).symm.trans (va_nm_long (hK.2 1 _ rfl).2))
  rw [eA] at hP hD
  have hP : va_P (dC, dI) vwCl [(m0, .inr (4, [.int 0, .int 0, .int 50, .int 20, .int 5, .ref q24, .ref q33, .ref q41, .ref q49, .ref q57, .ref q65, .ref q73, .ref q81, .null])), (q24, .inl (cI, 12, .inl (fun _ => 0))), (q33, .inl (cI, 576, .inl (fun _ => 0))), (q41, .inl (cZ, 12, .inl (fun _ => 0))), (q49, .inl (cI, 12, .inl (fun _ => 0))), (q57, .inl (cI, 12, .inl (fun _ => 0))), (q65, .inl (cI, 12, .inl (fun _ => 0))), (q73, .inl (cJ, 48, .inr (.inl (fun _ => 0)))), (q81, .inl (cJ, 48, .inr (.inl (fun _ => 0)))), (q89, .inl (cJ, 48, .inr (.inl (fun _ => 0))))] H := hP
  have hD : va_D A [(m0, .inr (4, [.int 0, .int 0, .int 50, .int 20, .int 5, .ref q24, .ref q33, .ref q41, .ref q49, .ref q57, .ref q65, .ref q73, .ref q81, .null])), (q24, .inl (cI, 12, .inl (fun _ => 0))), (q33, .inl (cI, 576, .inl (fun _ => 0))), (q41, .inl (cZ, 12, .inl (fun _ => 0))), (q49, .inl (cI, 12, .inl (fun _ => 0))), (q57, .inl (cI, 12, .inl (fun _ => 0))), (q65, .inl (cI, 12, .inl (fun _ => 0))), (q73, .inl (cJ, 48, .inr (.inl (fun _ => 0)))), (q81, .inl (cJ, 48, .inr (.inl (fun _ => 0)))), (q89, .inl (cJ, 48, .inr (.inl (fun _ => 0))))] := hD
  refine W.widen (k := 9) (n := 780) (by decide +kernel) (by decide +kernel) ?_
  refine va_putF (D := (dC, dI)) (ci := 4) (v := .ref q89) (ty := (.array .long)) (C := RX4) (T := TX4) (N := 14) hx hb hts (by decide +kernel) tyX4 tyX4_ok nmX4 hown hK hP hD hS 0 rfl rfl 13 (by decide) (hts (.fieldLink RX4 46 "FlakyBoundsModel" "whole" "[J") (by decide +kernel)) (fun _ h9 => h9) rfl hin rfl (by decide +kernel) rfl rfl (Nat.le_of_ble_eq_true rfl) dX4_init_91 (fun H locs hP hD hS => ?_)
  have hP : va_P (dC, dI) vwCl [(m0, .inr (4, [.int 0, .int 0, .int 50, .int 20, .int 5, .ref q24, .ref q33, .ref q41, .ref q49, .ref q57, .ref q65, .ref q73, .ref q81, .ref q89])), (q24, .inl (cI, 12, .inl (fun _ => 0))), (q33, .inl (cI, 576, .inl (fun _ => 0))), (q41, .inl (cZ, 12, .inl (fun _ => 0))), (q49, .inl (cI, 12, .inl (fun _ => 0))), (q57, .inl (cI, 12, .inl (fun _ => 0))), (q65, .inl (cI, 12, .inl (fun _ => 0))), (q73, .inl (cJ, 48, .inr (.inl (fun _ => 0)))), (q81, .inl (cJ, 48, .inr (.inl (fun _ => 0)))), (q89, .inl (cJ, 48, .inr (.inl (fun _ => 0))))] H := hP
  have hD : va_D A [(m0, .inr (4, [.int 0, .int 0, .int 50, .int 20, .int 5, .ref q24, .ref q33, .ref q41, .ref q49, .ref q57, .ref q65, .ref q73, .ref q81, .ref q89])), (q24, .inl (cI, 12, .inl (fun _ => 0))), (q33, .inl (cI, 576, .inl (fun _ => 0))), (q41, .inl (cZ, 12, .inl (fun _ => 0))), (q49, .inl (cI, 12, .inl (fun _ => 0))), (q57, .inl (cI, 12, .inl (fun _ => 0))), (q65, .inl (cI, 12, .inl (fun _ => 0))), (q73, .inl (cJ, 48, .inr (.inl (fun _ => 0)))), (q81, .inl (cJ, 48, .inr (.inl (fun _ => 0)))), (q89, .inl (cJ, 48, .inr (.inl (fun _ => 0))))] := hD
  have hP9 := hP.sub (ws' := [(m0, .inr (4, [.int 0, .int 0, .int 50, .int 20, .int 5, .ref q24, .ref q33, .ref q41, .ref q49, .ref q57, .ref q65, .ref q73, .ref q81, .ref q89])), (q24, .inl (cI, 12, .inl (fun _ => 0))), (q33, .inl (cI, 576, .inl (fun _ => 0))), (q41, .inl (cZ, 12, .inl (fun _ => 0))), (q49, .inl (cI, 12, .inl (fun _ => 0))), (q57, .inl (cI, 12, .inl (fun _ => 0))), (q65, .inl (cI, 12, .inl (fun _ => 0))), (q73, .inl (cJ, 48, .inr (.inl (fun _ => 0)))), (q81, .inl (cJ, 48, .inr (.inl (fun _ => 0)))), (q89, .inl (cJ, 48, .inr (.inl (fun _ => 0))))]) [0, 1, 2, 3, 4, 5, 6, 7, 8, 9] rfl
  have hD9 := hD.sub (ws' := [(m0, .inr (4, [.int 0, .int 0, .int 50, .int 20, .int 5, .ref q24, .ref q33, .ref q41, .ref q49, .ref q57, .ref q65, .ref q73, .ref q81, .ref q89])), (q24, .inl (cI, 12, .inl (fun _ => 0))), (q33, .inl (cI, 576, .inl (fun _ => 0))), (q41, .inl (cZ, 12, .inl (fun _ => 0))), (q49, .inl (cI, 12, .inl (fun _ => 0))), (q57, .inl (cI, 12, .inl (fun _ => 0))), (q65, .inl (cI, 12, .inl (fun _ => 0))), (q73, .inl (cJ, 48, .inr (.inl (fun _ => 0)))), (q81, .inl (cJ, 48, .inr (.inl (fun _ => 0)))), (q89, .inl (cJ, 48, .inr (.inl (fun _ => 0))))]) [0, 1, 2, 3, 4, 5, 6, 7, 8, 9] (by decide) rfl
  have hK9 := hK.sub (tys' := [(cI, .int), (cJ, .long), (cZ, .boolean)]) [0, 1, 2] rfl
  exact W.vret hx hb hr (fun zt zht hW => ⟨⟨(q24, q33, q41, q49, q57, q65, q73, q81, q89), rfl, trivial, by rw [zht]; exact hP9, va_K.moved hW.alike hK9, hD9⟩, hS.F zht⟩) hS.2.2 dX4_init_94 hlocks
