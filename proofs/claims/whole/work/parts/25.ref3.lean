set_option maxHeartbeats 4000000 in
set_option maxRecDepth 100000 in
theorem c_ref_add (l : Launch) (dC : Nat → ClassId) (dI : Nat → Nat → Nat) (m0 su te : Nat) (cJ : ClassId) (v0 v1 v2 v3 v4 v5 v6 v7 v8 v9 v10 v13 : Value) (ds dt : Nat → Nat) (n fr to_ j : Nat) (sz : Nat) (hn48 : n ≤ 48) (hfr : fr ≤ to_ + 1) (hto : to_ ≤ n) (hj : j ≤ 1000) : Met l yX4_add wsX4_add ({ frames := 1, cells := 0, slots := 0, locals := 27 } : Room) (va_Pc [.ref m0, .int (nI n), .int (nI fr), .int (nI to_), .int (nI j)] (fw_pW (dC, dI) vwCl [(cJ, .long)] [(m0, .inr (4, [v0, v1, v2, v3, v4, v5, v6, v7, v8, v9, v10, .ref su, .ref te, v13])), (su, .inl (cJ, 48, .inr (.inl (fun j => lN (ds j))))), (te, .inl (cJ, 48, .inr (.inl (fun j => lN (dt j)))))] sz)) (va_Qv (S := (Nat → Nat) × (Nat → Nat)) (fun u => rd_ok u.1 ∧ rd_v u.1 48 = pm_R n j fr (to_ + 1 - fr)) (fun u t => fw_q (dC, dI) vwCl [(cJ, .long)] (va_A [(m0, .inr (4, [v0, v1, v2, v3, v4, v5, v6, v7, v8, v9, v10, .ref su, .ref te, v13])), (su, .inl (cJ, 48, .inr (.inl (fun j => lN (ds j))))), (te, .inl (cJ, 48, .inr (.inl (fun j => lN (dt j)))))] sz) [(m0, .inr (4, [v0, v1, v2, v3, v4, v5, v6, v7, v8, v9, v10, .ref su, .ref te, v13])), (su, .inl (cJ, 48, .inr (.inl (fun j => lN (u.1 j))))), (te, .inl (cJ, 48, .inr (.inl (fun j => lN (u.2 j)))))] t) (va_A [(m0, .inr (4, [v0, v1, v2, v3, v4, v5, v6, v7, v8, v9, v10, .ref su, .ref te, v13])), (su, .inl (cJ, 48, .inr (.inl (fun j => lN (ds j))))), (te, .inl (cJ, 48, .inr (.inl (fun j => lN (dt j)))))] sz)) 0 0 (va_A [(m0, .inr (4, [v0, v1, v2, v3, v4, v5, v6, v7, v8, v9, v10, .ref su, .ref te, v13])), (su, .inl (cJ, 48, .inr (.inl (fun j => lN (ds j))))), (te, .inl (cJ, 48, .inr (.inl (fun j => lN (dt j)))))] sz) := by
  refine fw_metW (cc := cX4_add) (maxL := 7) (ret := none) (by decide) rfl (Nat.le_of_ble_eq_true rfl) ?_
  intro zp ze zs zm zbelow zmeth zc ls hx hb hr hts hown hlocks hml hin hN hsz hP hK hD hA hS hl
  generalize hAe : (va_A [(m0, .inr (4, [v0, v1, v2, v3, v4, v5, v6, v7, v8, v9, v10, .ref su, .ref te, v13])), (su, .inl (cJ, 48, .inr (.inl (fun j => lN (ds j))))), (te, .inl (cJ, 48, .inr (.inl (fun j => lN (dt j)))))] sz) = A at hD hA hS ⊢
  have hown : zs.vm.findClass RX4 = some zm.cls := hown
  have hl : lv_has ls 7 [(0, .ref m0), (1, .int (nI n)), (2, .int (nI fr)), (3, .int (nI to_)), (4, .int (nI j))] := hl
  refine lv_aload_n hx hb dX4_add_0 rfl (lv_at hl 0 rfl) ?_
  refine va_get (D := (dC, dI)) (ci := 4) (v := .ref su) (C := RX4) (T := TX4) (N := 14) hx hb hts (by decide +kernel) hown hK hP 0 rfl rfl 11 (by decide) (hts (.fieldLink RX4 39 "FlakyBoundsModel" "sum" "[J") (by decide +kernel)) (fun _ h9 => h9) rfl dX4_add_1 ?_
  refine lv_lconst (v := 0) hx hb dX4_add_4 (by decide) ?_
  have hPc := hP.sub (ws' := [(su, .inl (cJ, 48, .inr (.inl (fun j => lN (ds j)))))]) [1] rfl
  have hKc := hK.sub (tys' := [(cJ, .long)]) [0] rfl
  have hDc := hD.sub (ws' := [(su, .inl (cJ, 48, .inr (.inl (fun j => lN (ds j)))))]) [1] (by decide) rfl
  have hFc := va_free (wc := [(su, .inl (cJ, 48, .inr (.inl (fun j => lN (ds j)))))]) hD hS hA [1] rfl
  refine va_callv (va_runS (As := [.ref su, .long 0]) (rest := []) ⟨hx, hb, hml, hown, hts⟩ (c_ref_set l dC dI su cJ ds 0 zs.heap.size (by omega)) (va_cwS 2 hts gX4_add_X4_set rfl rfl rfl (by decide +kernel) ⟨Nat.le_of_ble_eq_true rfl, Nat.le_of_ble_eq_true rfl⟩) (fw_preSW hN hKc hPc hDc) rfl rfl hl.1 rfl (lv_room (Nat.le_of_ble_eq_true rfl)) dX4_add_5 ⟨Nat.le_of_ble_eq_true rfl, Nat.le_of_ble_eq_true rfl⟩) hS (fun q _ h => hFc q h) hFc (fun e1 zt H1 locs zht hvm hw hB hz1 hk1 hS => ?_)
  obtain ⟨ok_e1, v_e1⟩ := hw
  obtain ⟨hP1, hK1, hD1⟩ := hB
  rw [zht] at hP1
  obtain ⟨hP, hD⟩ := va_join (wr := [(m0, .inr (4, [v0, v1, v2, v3, v4, v5, v6, v7, v8, v9, v10, .ref su, .ref te, v13])), (te, .inl (cJ, 48, .inr (.inl (fun j => lN (dt j)))))]) (w1 := [(su, .inl (cJ, 48, .inr (.inl (fun j => lN (e1 j)))))]) hP hD [1] [0, 2] rfl rfl (by decide) (by decide) hk1 hFc hP1 hD1
  generalize H1 = H at hP hS ⊢
  have hP : va_P (dC, dI) vwCl [(m0, .inr (4, [v0, v1, v2, v3, v4, v5, v6, v7, v8, v9, v10, .ref su, .ref te, v13])), (te, .inl (cJ, 48, .inr (.inl (fun j => lN (dt j))))), (su, .inl (cJ, 48, .inr (.inl (fun j => lN (e1 j)))))] H := hP
  have hD : va_D A [(m0, .inr (4, [v0, v1, v2, v3, v4, v5, v6, v7, v8, v9, v10, .ref su, .ref te, v13])), (te, .inl (cJ, 48, .inr (.inl (fun j => lN (dt j))))), (su, .inl (cJ, 48, .inr (.inl (fun j => lN (e1 j)))))] := hD
  refine lv_iload_n hx hb dX4_add_8 rfl (lv_at hl 2 rfl) ?_
  refine lv_istore (lv' := [(5, .int (nI fr)), (0, .ref m0), (1, .int (nI n)), (2, .int (nI fr)), (3, .int (nI to_)), (4, .int (nI j))]) hx hb dX4_add_9 hl (by decide) rfl (fun ls hl => ?_)
  refine fw_loop (σ := Nat × (Nat → Nat) × (Nat → Nat)) (I := fun zn u H locs ls => match u with | (q, d1, d2) => zn = to_ + 1 - fr - q ∧ (q ≤ to_ + 1 - fr) ∧ (rd_ok d1) ∧ (rd_v d1 48 = pm_R n j fr q) ∧ va_P (dC, dI) vwCl [(m0, .inr (4, [v0, v1, v2, v3, v4, v5, v6, v7, v8, v9, v10, .ref su, .ref te, v13])), (su, .inl (cJ, 48, .inr (.inl (fun j => lN (d1 j))))), (te, .inl (cJ, 48, .inr (.inl (fun j => lN (d2 j)))))] H ∧ va_D A [(m0, .inr (4, [v0, v1, v2, v3, v4, v5, v6, v7, v8, v9, v10, .ref su, .ref te, v13])), (su, .inl (cJ, 48, .inr (.inl (fun j => lN (d1 j))))), (te, .inl (cJ, 48, .inr (.inl (fun j => lN (d2 j)))))] ∧ va_S A zs.heap H locs ∧ lv_has ls 7 [(0, .ref m0), (1, .int (nI n)), (2, .int (nI fr)), (3, .int (nI to_)), (4, .int (nI j)), (5, .int (nI (fr + q)))]) ?_ _ (0, e1, dt) _ _ _ ⟨rfl, by omega, ok_e1, by rw [v_e1, pm_R0],  hP.sub [0, 2, 1] rfl, hD.sub [0, 2, 1] (by decide) rfl, hS, lv_sub hl [1, 2, 3, 4, 5, 0] rfl⟩
  intro zn u H locs ls hI ih_11
  obtain ⟨q, d1, d2⟩ := u
  obtain ⟨hzn, hq, ok_d1, v_d1, hP, hD, hS, hl⟩ := hI
  refine lv_iload hx hb dX4_add_11 (lv_at hl 5 rfl) ?_
  refine lv_iload_n hx hb dX4_add_13 rfl (lv_at hl 3 rfl) ?_
  refine lv_icmp_gt (tgt := 97) hx hb dX4_add_14 (by decide) (fun c_14 => ?_) (fun c_14 => ?_)
  · -- then 14
    have hend : q = to_ + 1 - fr := by have := (nI_ltI (a := to_) (b := (fr + q)) (by omega) (by omega)).mp c_14; omega
    have hP9 := hP.sub (ws' := [(m0, .inr (4, [v0, v1, v2, v3, v4, v5, v6, v7, v8, v9, v10, .ref su, .ref te, v13])), (su, .inl (cJ, 48, .inr (.inl (fun j => lN (d1 j))))), (te, .inl (cJ, 48, .inr (.inl (fun j => lN (d2 j)))))]) [0, 1, 2] rfl
    have hD9 := hD.sub (ws' := [(m0, .inr (4, [v0, v1, v2, v3, v4, v5, v6, v7, v8, v9, v10, .ref su, .ref te, v13])), (su, .inl (cJ, 48, .inr (.inl (fun j => lN (d1 j))))), (te, .inl (cJ, 48, .inr (.inl (fun j => lN (d2 j)))))]) [0, 1, 2] (by decide) rfl
    have hK9 := hK.sub (tys' := [(cJ, .long)]) [0] rfl
    exact W.vret hx hb hr (fun zt zht hW => ⟨⟨(d1, d2), rfl, ⟨ok_d1, by rw [v_d1, hend]⟩, by rw [zht]; exact hP9, va_K.moved hW.alike hK9, hD9⟩, hS.F zht⟩) hS.2.2 dX4_add_97 hlocks
  · -- else 14
    have hlt : (fr + q) ≤ to_ := by
      rcases Nat.lt_or_ge to_ (fr + q) with q9 | q9
      · exact absurd (nI_lt (a := to_) (b := (fr + q)) q9 (by omega)) c_14
      · exact q9
    refine lv_aload_n hx hb dX4_add_17 rfl (lv_at hl 0 rfl) ?_
    refine va_get (D := (dC, dI)) (ci := 4) (v := .ref te) (C := RX4) (T := TX4) (N := 14) hx hb hts (by decide +kernel) hown hK hP 0 rfl rfl 12 (by decide) (hts (.fieldLink RX4 43 "FlakyBoundsModel" "term" "[J") (by decide +kernel)) (fun _ h9 => h9) rfl dX4_add_18 ?_
    refine lv_lconst (v := 1) hx hb dX4_add_21 (by decide) ?_
    have hPc := hP.sub (ws' := [(te, .inl (cJ, 48, .inr (.inl (fun j => lN (d2 j)))))]) [2] rfl
    have hKc := hK.sub (tys' := [(cJ, .long)]) [0] rfl
    have hDc := hD.sub (ws' := [(te, .inl (cJ, 48, .inr (.inl (fun j => lN (d2 j)))))]) [2] (by decide) rfl
    have hFc := va_free (wc := [(te, .inl (cJ, 48, .inr (.inl (fun j => lN (d2 j)))))]) hD hS hA [2] rfl
    refine va_callv (va_runS (As := [.ref te, .long 1]) (rest := []) ⟨hx, hb, hml, hown, hts⟩ (c_ref_set l dC dI te cJ d2 1 H.size (by omega)) (va_cwS 2 hts gX4_add_X4_set rfl rfl rfl (by decide +kernel) ⟨Nat.le_of_ble_eq_true rfl, Nat.le_of_ble_eq_true rfl⟩) (fw_preSW hN hKc hPc hDc) rfl rfl hl.1 rfl (lv_room (Nat.le_of_ble_eq_true rfl)) dX4_add_22 ⟨Nat.le_of_ble_eq_true rfl, Nat.le_of_ble_eq_true rfl⟩) hS (fun q _ h => hFc q h) hFc (fun t1 zt H1 locs zht hvm hw hB hz1 hk1 hS => ?_)
    obtain ⟨ok_t1, v_t1⟩ := hw
    obtain ⟨hP1, hK1, hD1⟩ := hB
    rw [zht] at hP1
    obtain ⟨hP, hD⟩ := va_join (wr := [(m0, .inr (4, [v0, v1, v2, v3, v4, v5, v6, v7, v8, v9, v10, .ref su, .ref te, v13])), (su, .inl (cJ, 48, .inr (.inl (fun j => lN (d1 j)))))]) (w1 := [(te, .inl (cJ, 48, .inr (.inl (fun j => lN (t1 j)))))]) hP hD [2] [0, 1] rfl rfl (by decide) (by decide) hk1 hFc hP1 hD1
    generalize H1 = H at hP hS ⊢
    have hP : va_P (dC, dI) vwCl [(m0, .inr (4, [v0, v1, v2, v3, v4, v5, v6, v7, v8, v9, v10, .ref su, .ref te, v13])), (su, .inl (cJ, 48, .inr (.inl (fun j => lN (d1 j))))), (te, .inl (cJ, 48, .inr (.inl (fun j => lN (t1 j)))))] H := hP
    have hD : va_D A [(m0, .inr (4, [v0, v1, v2, v3, v4, v5, v6, v7, v8, v9, v10, .ref su, .ref te, v13])), (su, .inl (cJ, 48, .inr (.inl (fun j => lN (d1 j))))), (te, .inl (cJ, 48, .inr (.inl (fun j => lN (t1 j)))))] := hD
    refine lv_iconst (v := 0) hx hb dX4_add_25 (by decide) ?_
    refine lv_istore (lv' := [(6, .int 0), (0, .ref m0), (1, .int (nI n)), (2, .int (nI fr)), (3, .int (nI to_)), (4, .int (nI j)), (5, .int (nI (fr + q)))]) hx hb dX4_add_26 hl (by decide) rfl (fun ls hl => ?_)
    refine fw_loop (σ := Nat × (Nat → Nat)) (I := fun zn u H locs ls => match u with | (k, t2) => zn = n - k ∧ (k ≤ n) ∧ (rd_ok t2) ∧ (rd_v t2 48 = rp_v j (fr + q) k) ∧ va_P (dC, dI) vwCl [(m0, .inr (4, [v0, v1, v2, v3, v4, v5, v6, v7, v8, v9, v10, .ref su, .ref te, v13])), (su, .inl (cJ, 48, .inr (.inl (fun j => lN (d1 j))))), (te, .inl (cJ, 48, .inr (.inl (fun j => lN (t2 j)))))] H ∧ va_D A [(m0, .inr (4, [v0, v1, v2, v3, v4, v5, v6, v7, v8, v9, v10, .ref su, .ref te, v13])), (su, .inl (cJ, 48, .inr (.inl (fun j => lN (d1 j))))), (te, .inl (cJ, 48, .inr (.inl (fun j => lN (t2 j)))))] ∧ va_S A zs.heap H locs ∧ lv_has ls 7 [(0, .ref m0), (1, .int (nI n)), (2, .int (nI fr)), (3, .int (nI to_)), (4, .int (nI j)), (5, .int (nI (fr + q))), (6, .int (nI k))]) ?_ _ (0, t1) _ _ _ ⟨rfl, by omega, ok_t1, by rw [v_t1, rp_0],  hP.sub [0, 1, 2] rfl, hD.sub [0, 1, 2] (by decide) rfl, hS, lv_sub hl [1, 2, 3, 4, 5, 6, 0] rfl⟩
    intro zn u H locs ls hI ih_28
    obtain ⟨k, t2⟩ := u
    obtain ⟨hzn, hk, ok_t2, v_t2, hP, hD, hS, hl⟩ := hI
    refine lv_iload hx hb dX4_add_28 (lv_at hl 6 rfl) ?_
    refine lv_iload_n hx hb dX4_add_30 rfl (lv_at hl 1 rfl) ?_
    refine lv_icmp_ge (tgt := 67) hx hb dX4_add_31 (by decide) (fun c_31 => ?_) (fun c_31 => ?_)
    · -- then 31
      have hkn : k = n := by have := (nI_leI (a := n) (b := k) (by omega) (by omega)).mp c_31; omega
      have vt3 : rd_v t2 48 = rp_v j (fr + q) n := by rw [v_t2, hkn]
      refine lv_aload_n hx hb dX4_add_67 rfl (lv_at hl 0 rfl) ?_
      refine va_get (D := (dC, dI)) (ci := 4) (v := .ref te) (C := RX4) (T := TX4) (N := 14) hx hb hts (by decide +kernel) hown hK hP 0 rfl rfl 12 (by decide) (hts (.fieldLink RX4 43 "FlakyBoundsModel" "term" "[J") (by decide +kernel)) (fun _ h9 => h9) rfl dX4_add_68 ?_
      refine lv_iload_n hx hb dX4_add_71 rfl (lv_at hl 1 rfl) ?_
      refine lv_iload hx hb dX4_add_72 (lv_at hl 5 rfl) ?_
      have hPc := hP.sub (ws' := []) [] rfl
      have hKc := hK.sub (tys' := []) [] rfl
      refine vp_callSl (va_runS (As := [.int (nI n), .int (nI (fr + q))]) (rest := [.ref te]) ⟨hx, hb, hml, hown, hts⟩ (c_ref_over l dC dI n (fr + q) hn48 (by omega)) (va_cwS 2 hts gX4_add_X4_over rfl rfl rfl (by decide +kernel) ⟨Nat.le_of_ble_eq_true rfl, Nat.le_of_ble_eq_true rfl⟩) (fw_preSR hN hKc hPc) rfl rfl hl.1 rfl (lv_room (Nat.le_of_ble_eq_true rfl)) dX4_add_74 ⟨Nat.le_of_ble_eq_true rfl, Nat.le_of_ble_eq_true rfl⟩).run (fun r_74 hr_74 => ?_)
      obtain rfl : r_74 = lN (pm_ch n (fr + q)) := hr_74
      have hPc := hP.sub (ws' := [(te, .inl (cJ, 48, .inr (.inl (fun j => lN (t2 j)))))]) [2] rfl
      have hKc := hK.sub (tys' := [(cJ, .long)]) [0] rfl
      have hDc := hD.sub (ws' := [(te, .inl (cJ, 48, .inr (.inl (fun j => lN (t2 j)))))]) [2] (by decide) rfl
      have hFc := va_free (wc := [(te, .inl (cJ, 48, .inr (.inl (fun j => lN (t2 j)))))]) hD hS hA [2] rfl
      refine va_callv (va_runS (As := [.ref te, .long (lN (pm_ch n (fr + q)))]) (rest := []) ⟨hx, hb, hml, hown, hts⟩ (c_ref_times l dC dI te cJ t2 (pm_ch n (fr + q)) H.size ok_t2 (ch_le3 hn48) (by rw [vt3, rp_T (by omega)]; exact rb_2 (pm_T_le hj) hn48)) (va_cwS 2 hts gX4_add_X4_times rfl rfl rfl (by decide +kernel) ⟨Nat.le_of_ble_eq_true rfl, Nat.le_of_ble_eq_true rfl⟩) (fw_preSW hN hKc hPc hDc) rfl rfl hl.1 rfl (lv_room (Nat.le_of_ble_eq_true rfl)) dX4_add_77 ⟨Nat.le_of_ble_eq_true rfl, Nat.le_of_ble_eq_true rfl⟩) hS (fun q _ h => hFc q h) hFc (fun t4 zt H1 locs zht hvm hw hB hz1 hk1 hS => ?_)
      obtain ⟨ok_t4, v_t4⟩ := hw
      obtain ⟨hP1, hK1, hD1⟩ := hB
      rw [zht] at hP1
      have w_t4 : rd_v t4 48 = pm_T n j (fr + q) := by rw [v_t4, vt3, rp_T (by omega)]
      obtain ⟨hP, hD⟩ := va_join (wr := [(m0, .inr (4, [v0, v1, v2, v3, v4, v5, v6, v7, v8, v9, v10, .ref su, .ref te, v13])), (su, .inl (cJ, 48, .inr (.inl (fun j => lN (d1 j)))))]) (w1 := [(te, .inl (cJ, 48, .inr (.inl (fun j => lN (t4 j)))))]) hP hD [2] [0, 1] rfl rfl (by decide) (by decide) hk1 hFc hP1 hD1
      generalize H1 = H at hP hS ⊢
      have hP : va_P (dC, dI) vwCl [(m0, .inr (4, [v0, v1, v2, v3, v4, v5, v6, v7, v8, v9, v10, .ref su, .ref te, v13])), (su, .inl (cJ, 48, .inr (.inl (fun j => lN (d1 j))))), (te, .inl (cJ, 48, .inr (.inl (fun j => lN (t4 j)))))] H := hP
      have hD : va_D A [(m0, .inr (4, [v0, v1, v2, v3, v4, v5, v6, v7, v8, v9, v10, .ref su, .ref te, v13])), (su, .inl (cJ, 48, .inr (.inl (fun j => lN (d1 j))))), (te, .inl (cJ, 48, .inr (.inl (fun j => lN (t4 j)))))] := hD
      refine lv_aload_n hx hb dX4_add_80 rfl (lv_at hl 0 rfl) ?_
      refine va_get (D := (dC, dI)) (ci := 4) (v := .ref su) (C := RX4) (T := TX4) (N := 14) hx hb hts (by decide +kernel) hown hK hP 0 rfl rfl 11 (by decide) (hts (.fieldLink RX4 39 "FlakyBoundsModel" "sum" "[J") (by decide +kernel)) (fun _ h9 => h9) rfl dX4_add_81 ?_
      refine lv_aload_n hx hb dX4_add_84 rfl (lv_at hl 0 rfl) ?_
      refine va_get (D := (dC, dI)) (ci := 4) (v := .ref te) (C := RX4) (T := TX4) (N := 14) hx hb hts (by decide +kernel) hown hK hP 0 rfl rfl 12 (by decide) (hts (.fieldLink RX4 43 "FlakyBoundsModel" "term" "[J") (by decide +kernel)) (fun _ h9 => h9) rfl dX4_add_85 ?_
      have hPc := hP.sub (ws' := [(su, .inl (cJ, 48, .inr (.inl (fun j => lN (d1 j))))), (te, .inl (cJ, 48, .inr (.inl (fun j => lN (t4 j)))))]) [1, 2] rfl
      have hKc := hK.sub (tys' := [(cJ, .long)]) [0] rfl
      have hDc := hD.sub (ws' := [(su, .inl (cJ, 48, .inr (.inl (fun j => lN (d1 j))))), (te, .inl (cJ, 48, .inr (.inl (fun j => lN (t4 j)))))]) [1, 2] (by decide) rfl
      have hFc := va_free (wc := [(su, .inl (cJ, 48, .inr (.inl (fun j => lN (d1 j))))), (te, .inl (cJ, 48, .inr (.inl (fun j => lN (t4 j)))))]) hD hS hA [1, 2] rfl
      refine va_callv (va_runS (As := [.ref su, .ref te]) (rest := []) ⟨hx, hb, hml, hown, hts⟩ (c_ref_plus l dC dI su te cJ d1 t4 H.size ok_d1 ok_t4 (by rw [v_d1, w_t4, ← pm_RS]; exact rb_2 (pm_R_le hj) hn48)) (va_cwS 2 hts gX4_add_X4_plus rfl rfl rfl (by decide +kernel) ⟨Nat.le_of_ble_eq_true rfl, Nat.le_of_ble_eq_true rfl⟩) (fw_preSW hN hKc hPc hDc) rfl rfl hl.1 rfl (lv_room (Nat.le_of_ble_eq_true rfl)) dX4_add_88 ⟨Nat.le_of_ble_eq_true rfl, Nat.le_of_ble_eq_true rfl⟩) hS (fun q _ h => hFc q h) hFc (fun d5 zt H1 locs zht hvm hw hB hz1 hk1 hS => ?_)
      obtain ⟨ok_d5, v_d5⟩ := hw
      obtain ⟨hP1, hK1, hD1⟩ := hB
      rw [zht] at hP1
      obtain ⟨hP, hD⟩ := va_join (wr := [(m0, .inr (4, [v0, v1, v2, v3, v4, v5, v6, v7, v8, v9, v10, .ref su, .ref te, v13]))]) (w1 := [(su, .inl (cJ, 48, .inr (.inl (fun j => lN (d5 j))))), (te, .inl (cJ, 48, .inr (.inl (fun j => lN (t4 j)))))]) hP hD [1, 2] [0] rfl rfl (by decide) (by decide) hk1 hFc hP1 hD1
      generalize H1 = H at hP hS ⊢
      have hP : va_P (dC, dI) vwCl [(m0, .inr (4, [v0, v1, v2, v3, v4, v5, v6, v7, v8, v9, v10, .ref su, .ref te, v13])), (su, .inl (cJ, 48, .inr (.inl (fun j => lN (d5 j))))), (te, .inl (cJ, 48, .inr (.inl (fun j => lN (t4 j)))))] H := hP
      have hD : va_D A [(m0, .inr (4, [v0, v1, v2, v3, v4, v5, v6, v7, v8, v9, v10, .ref su, .ref te, v13])), (su, .inl (cJ, 48, .inr (.inl (fun j => lN (d5 j))))), (te, .inl (cJ, 48, .inr (.inl (fun j => lN (t4 j)))))] := hD
      refine lv_iinc (v := nI (fr + (q + 1))) (lv' := [(5, .int (nI (fr + (q + 1)))), (0, .ref m0), (1, .int (nI n)), (2, .int (nI fr)), (3, .int (nI to_)), (4, .int (nI j)), (6, .int (nI k))]) hx hb dX4_add_91 hl (k := 5) rfl (by rw [show fr + (q + 1) = fr + q + 1 by omega]; exact nI_1 _) (by decide) rfl (fun ls hl => ?_)
      refine lv_goto (tgt := 11) hx hb dX4_add_94 (by decide) ?_
      exact ih_11 _ (q + 1, d5, t4) _ _ _ (by omega) ⟨rfl, by omega, ok_d5, by rw [v_d5, v_d1, w_t4, pm_RS], hP.sub [0, 1, 2] rfl, hD.sub [0, 1, 2] (by decide) rfl, hS, lv_sub hl [1, 2, 3, 4, 5, 0] rfl⟩
    · -- else 31
      have hltk : k < n := by
        rcases Nat.lt_or_ge k n with q9 | q9
        · exact q9
        · exact absurd (nI_le (a := n) (b := k) q9 (by omega)) c_31
      refine lv_aload_n hx hb dX4_add_34 rfl (lv_at hl 0 rfl) ?_
      refine va_get (D := (dC, dI)) (ci := 4) (v := .ref te) (C := RX4) (T := TX4) (N := 14) hx hb hts (by decide +kernel) hown hK hP 0 rfl rfl 12 (by decide) (hts (.fieldLink RX4 43 "FlakyBoundsModel" "term" "[J") (by decide +kernel)) (fun _ h9 => h9) rfl dX4_add_35 ?_
      refine lv_iload hx hb dX4_add_38 (lv_at hl 6 rfl) ?_
      refine lv_iload hx hb dX4_add_40 (lv_at hl 5 rfl) ?_
      refine lv_icmp_ge (tgt := 51) hx hb dX4_add_42 (by decide) (fun c_42 => ?_) (fun c_42 => ?_)
      · -- then 42
        have h42 : (fr + q) ≤ k := (nI_leI (a := (fr + q)) (b := k) (by omega) (by omega)).mp c_42
        refine lv_sipush (v := 1000) hx hb dX4_add_51 (by decide) ?_
        refine lv_iload hx hb dX4_add_54 (lv_at hl 4 rfl) ?_
        refine lv_isub hx hb dX4_add_56 ?_
        refine fw_i (x' := nI (1000 - j)) (pk_sub (a := 1000) hj) ?_
        refine lv_i2l (v := lN (1000 - j)) hx hb dX4_add_57 (nI_l (by omega)) ?_
        have hPc := hP.sub (ws' := [(te, .inl (cJ, 48, .inr (.inl (fun j => lN (t2 j)))))]) [2] rfl
        have hKc := hK.sub (tys' := [(cJ, .long)]) [0] rfl
        have hDc := hD.sub (ws' := [(te, .inl (cJ, 48, .inr (.inl (fun j => lN (t2 j)))))]) [2] (by decide) rfl
        have hFc := va_free (wc := [(te, .inl (cJ, 48, .inr (.inl (fun j => lN (t2 j)))))]) hD hS hA [2] rfl
        refine va_callv (va_runS (As := [.ref te, .long (lN (1000 - j))]) (rest := []) ⟨hx, hb, hml, hown, hts⟩ (c_ref_times l dC dI te cJ t2 (1000 - j) H.size ok_t2 (by omega) (by rw [v_t2]; exact rb_1 (by omega) (rp_le hj) (by omega))) (va_cwS 2 hts gX4_add_X4_times rfl rfl rfl (by decide +kernel) ⟨Nat.le_of_ble_eq_true rfl, Nat.le_of_ble_eq_true rfl⟩) (fw_preSW hN hKc hPc hDc) rfl rfl hl.1 rfl (lv_room (Nat.le_of_ble_eq_true rfl)) dX4_add_58 ⟨Nat.le_of_ble_eq_true rfl, Nat.le_of_ble_eq_true rfl⟩) hS (fun q _ h => hFc q h) hFc (fun t3 zt H1 locs zht hvm hw hB hz1 hk1 hS => ?_)
        obtain ⟨ok_t3, v_t3⟩ := hw
        obtain ⟨hP1, hK1, hD1⟩ := hB
        rw [zht] at hP1
        obtain ⟨hP, hD⟩ := va_join (wr := [(m0, .inr (4, [v0, v1, v2, v3, v4, v5, v6, v7, v8, v9, v10, .ref su, .ref te, v13])), (su, .inl (cJ, 48, .inr (.inl (fun j => lN (d1 j)))))]) (w1 := [(te, .inl (cJ, 48, .inr (.inl (fun j => lN (t3 j)))))]) hP hD [2] [0, 1] rfl rfl (by decide) (by decide) hk1 hFc hP1 hD1
        generalize H1 = H at hP hS ⊢
        have hP : va_P (dC, dI) vwCl [(m0, .inr (4, [v0, v1, v2, v3, v4, v5, v6, v7, v8, v9, v10, .ref su, .ref te, v13])), (su, .inl (cJ, 48, .inr (.inl (fun j => lN (d1 j))))), (te, .inl (cJ, 48, .inr (.inl (fun j => lN (t3 j)))))] H := hP
        have hD : va_D A [(m0, .inr (4, [v0, v1, v2, v3, v4, v5, v6, v7, v8, v9, v10, .ref su, .ref te, v13])), (su, .inl (cJ, 48, .inr (.inl (fun j => lN (d1 j))))), (te, .inl (cJ, 48, .inr (.inl (fun j => lN (t3 j)))))] := hD
        refine lv_iinc (v := nI (k + 1)) (lv' := [(6, .int (nI (k + 1))), (0, .ref m0), (1, .int (nI n)), (2, .int (nI fr)), (3, .int (nI to_)), (4, .int (nI j)), (5, .int (nI (fr + q)))]) hx hb dX4_add_61 hl (k := 6) rfl (nI_1 k) (by decide) rfl (fun ls hl => ?_)
        refine lv_goto (tgt := 28) hx hb dX4_add_64 (by decide) ?_
        exact ih_28 _ (k + 1, t3) _ _ _ (by omega) ⟨rfl, by omega, ok_t3, by rw [v_t3, v_t2]; exact (rp_hi h42).symm, hP.sub [0, 1, 2] rfl, hD.sub [0, 1, 2] (by decide) rfl, hS, lv_sub hl [1, 2, 3, 4, 5, 6, 0] rfl⟩
      · -- else 42
        have h42 : k < (fr + q) := by
          rcases Nat.lt_or_ge k (fr + q) with q9 | q9
          · exact q9
          · exact absurd (nI_le (a := (fr + q)) (b := k) q9 (by omega)) c_42
        refine lv_iload hx hb dX4_add_45 (lv_at hl 4 rfl) ?_
        refine lv_i2l (v := lN j) hx hb dX4_add_47 (nI_l (by omega)) ?_
        refine lv_goto (tgt := 58) hx hb dX4_add_48 (by decide) ?_
        have hPc := hP.sub (ws' := [(te, .inl (cJ, 48, .inr (.inl (fun j => lN (t2 j)))))]) [2] rfl
        have hKc := hK.sub (tys' := [(cJ, .long)]) [0] rfl
        have hDc := hD.sub (ws' := [(te, .inl (cJ, 48, .inr (.inl (fun j => lN (t2 j)))))]) [2] (by decide) rfl
        have hFc := va_free (wc := [(te, .inl (cJ, 48, .inr (.inl (fun j => lN (t2 j)))))]) hD hS hA [2] rfl
        refine va_callv (va_runS (As := [.ref te, .long (lN j)]) (rest := []) ⟨hx, hb, hml, hown, hts⟩ (c_ref_times l dC dI te cJ t2 j H.size ok_t2 (by omega) (by rw [v_t2]; exact rb_1 (by omega) (rp_le hj) (by omega))) (va_cwS 2 hts gX4_add_X4_times rfl rfl rfl (by decide +kernel) ⟨Nat.le_of_ble_eq_true rfl, Nat.le_of_ble_eq_true rfl⟩) (fw_preSW hN hKc hPc hDc) rfl rfl hl.1 rfl (lv_room (Nat.le_of_ble_eq_true rfl)) dX4_add_58 ⟨Nat.le_of_ble_eq_true rfl, Nat.le_of_ble_eq_true rfl⟩) hS (fun q _ h => hFc q h) hFc (fun t3 zt H1 locs zht hvm hw hB hz1 hk1 hS => ?_)
        obtain ⟨ok_t3, v_t3⟩ := hw
        obtain ⟨hP1, hK1, hD1⟩ := hB
        rw [zht] at hP1
        obtain ⟨hP, hD⟩ := va_join (wr := [(m0, .inr (4, [v0, v1, v2, v3, v4, v5, v6, v7, v8, v9, v10, .ref su, .ref te, v13])), (su, .inl (cJ, 48, .inr (.inl (fun j => lN (d1 j)))))]) (w1 := [(te, .inl (cJ, 48, .inr (.inl (fun j => lN (t3 j)))))]) hP hD [2] [0, 1] rfl rfl (by decide) (by decide) hk1 hFc hP1 hD1
        generalize H1 = H at hP hS ⊢
        have hP : va_P (dC, dI) vwCl [(m0, .inr (4, [v0, v1, v2, v3, v4, v5, v6, v7, v8, v9, v10, .ref su, .ref te, v13])), (su, .inl (cJ, 48, .inr (.inl (fun j => lN (d1 j))))), (te, .inl (cJ, 48, .inr (.inl (fun j => lN (t3 j)))))] H := hP
        have hD : va_D A [(m0, .inr (4, [v0, v1, v2, v3, v4, v5, v6, v7, v8, v9, v10, .ref su, .ref te, v13])), (su, .inl (cJ, 48, .inr (.inl (fun j => lN (d1 j))))), (te, .inl (cJ, 48, .inr (.inl (fun j => lN (t3 j)))))] := hD
        refine lv_iinc (v := nI (k + 1)) (lv' := [(6, .int (nI (k + 1))), (0, .ref m0), (1, .int (nI n)), (2, .int (nI fr)), (3, .int (nI to_)), (4, .int (nI j)), (5, .int (nI (fr + q)))]) hx hb dX4_add_61 hl (k := 6) rfl (nI_1 k) (by decide) rfl (fun ls hl => ?_)
        refine lv_goto (tgt := 28) hx hb dX4_add_64 (by decide) ?_
        exact ih_28 _ (k + 1, t3) _ _ _ (by omega) ⟨rfl, by omega, ok_t3, by rw [v_t3, v_t2]; exact (rp_lo h42).symm, hP.sub [0, 1, 2] rfl, hD.sub [0, 1, 2] (by decide) rfl, hS, lv_sub hl [1, 2, 3, 4, 5, 6, 0] rfl⟩
set_option maxHeartbeats 4000000 in
set_option maxRecDepth 100000 in
theorem c_ref_share (l : Launch) (dC : Nat → ClassId) (dI : Nat → Nat → Nat) (m0 pz pr su te : Nat) (cI cJ : ClassId) (v0 v1 v2 v3 v4 v7 v8 v9 v10 v13 : Value) (zf rn ds dt : Nat → Nat) (t : Nat) (j : Nat) (most : Bool) (sz : Nat) (ht : t < 12) (hz48 : zf t ≤ 48) (hrn : ∀ j, j < 576 → rn j < 2000) (hj : j ≤ 1000) : Met l yX4_shareOf wsX4_shareOf ({ frames := 3, cells := 0, slots := 0, locals := 70 } : Room) (va_Pc [.ref m0, .int (nI t), .int (nI j), .int (zI most)] (fw_pW (dC, dI) vwCl [(cI, .int), (cJ, .long)] [(m0, .inr (4, [v0, v1, v2, v3, v4, .ref pz, .ref pr, v7, v8, v9, v10, .ref su, .ref te, v13])), (pz, .inl (cI, 12, .inl (fun j => nI (zf j)))), (pr, .inl (cI, 576, .inl (fun j => nI (rn j)))), (su, .inl (cJ, 48, .inr (.inl (fun j => lN (ds j))))), (te, .inl (cJ, 48, .inr (.inl (fun j => lN (dt j)))))] sz)) (va_Qv (S := (Nat → Nat) × (Nat → Nat)) (fun u => rd_ok u.1 ∧ rd_v u.1 48 = sh_v most (rN zf rn t) (rX zf rn t) j) (fun u zt => fw_q (dC, dI) vwCl [(cI, .int), (cJ, .long)] (va_A [(m0, .inr (4, [v0, v1, v2, v3, v4, .ref pz, .ref pr, v7, v8, v9, v10, .ref su, .ref te, v13])), (pz, .inl (cI, 12, .inl (fun j => nI (zf j)))), (pr, .inl (cI, 576, .inl (fun j => nI (rn j)))), (su, .inl (cJ, 48, .inr (.inl (fun j => lN (ds j))))), (te, .inl (cJ, 48, .inr (.inl (fun j => lN (dt j)))))] sz) [(m0, .inr (4, [v0, v1, v2, v3, v4, .ref pz, .ref pr, v7, v8, v9, v10, .ref su, .ref te, v13])), (pz, .inl (cI, 12, .inl (fun j => nI (zf j)))), (pr, .inl (cI, 576, .inl (fun j => nI (rn j)))), (su, .inl (cJ, 48, .inr (.inl (fun j => lN (u.1 j))))), (te, .inl (cJ, 48, .inr (.inl (fun j => lN (u.2 j)))))] zt) (va_A [(m0, .inr (4, [v0, v1, v2, v3, v4, .ref pz, .ref pr, v7, v8, v9, v10, .ref su, .ref te, v13])), (pz, .inl (cI, 12, .inl (fun j => nI (zf j)))), (pr, .inl (cI, 576, .inl (fun j => nI (rn j)))), (su, .inl (cJ, 48, .inr (.inl (fun j => lN (ds j))))), (te, .inl (cJ, 48, .inr (.inl (fun j => lN (dt j)))))] sz)) 0 0 (va_A [(m0, .inr (4, [v0, v1, v2, v3, v4, .ref pz, .ref pr, v7, v8, v9, v10, .ref su, .ref te, v13])), (pz, .inl (cI, 12, .inl (fun j => nI (zf j)))), (pr, .inl (cI, 576, .inl (fun j => nI (rn j)))), (su, .inl (cJ, 48, .inr (.inl (fun j => lN (ds j))))), (te, .inl (cJ, 48, .inr (.inl (fun j => lN (dt j)))))] sz) := by
  refine fw_metW (cc := cX4_shareOf) (maxL := 6) (ret := none) (by decide) rfl (Nat.le_of_ble_eq_true rfl) ?_
  intro zp ze zs zm zbelow zmeth zc ls hx hb hr hts hown hlocks hml hin hN hsz hP hK hD hA hS hl
  generalize hAe : (va_A [(m0, .inr (4, [v0, v1, v2, v3, v4, .ref pz, .ref pr, v7, v8, v9, v10, .ref su, .ref te, v13])), (pz, .inl (cI, 12, .inl (fun j => nI (zf j)))), (pr, .inl (cI, 576, .inl (fun j => nI (rn j)))), (su, .inl (cJ, 48, .inr (.inl (fun j => lN (ds j))))), (te, .inl (cJ, 48, .inr (.inl (fun j => lN (dt j)))))] sz) = A at hD hA hS ⊢
  have hown : zs.vm.findClass RX4 = some zm.cls := hown
  have hl : lv_has ls 6 [(0, .ref m0), (1, .int (nI t)), (2, .int (nI j)), (3, .int (zI most))] := hl
  have hN48 : (rN zf rn t) ≤ 48 := rN_le hz48
  have hXN : (rX zf rn t) ≤ (rN zf rn t) := rX_le
  refine lv_aload_n hx hb dX4_shareOf_0 rfl (lv_at hl 0 rfl) ?_
  refine lv_iload_n hx hb dX4_shareOf_1 rfl (lv_at hl 1 rfl) ?_
  have hPc := hP.sub (ws' := [(m0, .inr (4, [v0, v1, v2, v3, v4, .ref pz, .ref pr, v7, v8, v9, v10, .ref su, .ref te, v13])), (pz, .inl (cI, 12, .inl (fun j => nI (zf j)))), (pr, .inl (cI, 576, .inl (fun j => nI (rn j))))]) [0, 1, 2] rfl
  have hKc := hK.sub (tys' := [(cI, .int)]) [0] rfl
  refine vp_callSi (va_runV (As := [.int (nI t)]) (rest := []) ⟨hx, hb, hml, hown, hts⟩ (c_ref_throws l dC dI m0 pz pr cI v0 v1 v2 v3 v4 v7 v8 v9 v10 (.ref su) (.ref te) v13 zf rn t ht hz48 hrn) (cwV 1 hts gX4_shareOf_X4_throwsOf rfl rfl rfl (by decide +kernel) ⟨Nat.le_of_ble_eq_true rfl, Nat.le_of_ble_eq_true rfl⟩) (fw_preVR hN hKc hPc (ci := 4) (q0 := 0) rfl rfl) rfl rfl hl.1 rfl (lv_room (Nat.le_of_ble_eq_true rfl)) dX4_shareOf_2 ⟨Nat.le_of_ble_eq_true rfl, Nat.le_of_ble_eq_true rfl⟩).run (fun r_2 hr_2 => ?_)
  obtain rfl : r_2 = nI (rN zf rn t) := hr_2
  refine lv_istore (lv' := [(4, .int (nI (rN zf rn t))), (0, .ref m0), (1, .int (nI t)), (2, .int (nI j)), (3, .int (zI most))]) hx hb dX4_shareOf_5 hl (by decide) rfl (fun ls hl => ?_)
  refine lv_aload_n hx hb dX4_shareOf_7 rfl (lv_at hl 1 rfl) ?_
  refine lv_iload_n hx hb dX4_shareOf_8 rfl (lv_at hl 2 rfl) ?_
  have hPc := hP.sub (ws' := [(m0, .inr (4, [v0, v1, v2, v3, v4, .ref pz, .ref pr, v7, v8, v9, v10, .ref su, .ref te, v13])), (pz, .inl (cI, 12, .inl (fun j => nI (zf j)))), (pr, .inl (cI, 576, .inl (fun j => nI (rn j))))]) [0, 1, 2] rfl
  have hKc := hK.sub (tys' := [(cI, .int)]) [0] rfl
  refine vp_callSi (va_runV (As := [.int (nI t)]) (rest := []) ⟨hx, hb, hml, hown, hts⟩ (c_ref_hits l dC dI m0 pz pr cI v0 v1 v2 v3 v4 v7 v8 v9 v10 (.ref su) (.ref te) v13 zf rn t ht hz48 hrn) (cwV 1 hts gX4_shareOf_X4_hitsOf rfl rfl rfl (by decide +kernel) ⟨Nat.le_of_ble_eq_true rfl, Nat.le_of_ble_eq_true rfl⟩) (fw_preVR hN hKc hPc (ci := 4) (q0 := 0) rfl rfl) rfl rfl hl.1 rfl (lv_room (Nat.le_of_ble_eq_true rfl)) dX4_shareOf_9 ⟨Nat.le_of_ble_eq_true rfl, Nat.le_of_ble_eq_true rfl⟩).run (fun r_9 hr_9 => ?_)
  obtain rfl : r_9 = nI (rX zf rn t) := hr_9
  refine lv_istore (lv' := [(5, .int (nI (rX zf rn t))), (4, .int (nI (rN zf rn t))), (0, .ref m0), (1, .int (nI t)), (2, .int (nI j)), (3, .int (zI most))]) hx hb dX4_shareOf_12 hl (by decide) rfl (fun ls hl => ?_)
  cases most
  · -- f
    refine lv_aload_n hx hb dX4_shareOf_14 rfl (lv_at hl 2 rfl) ?_
    refine lv_iload hx hb dX4_shareOf_15 (lv_at hl 1 rfl) ?_
    refine lv_iload_n hx hb dX4_shareOf_17 rfl (lv_at hl 5 rfl) ?_
    refine lv_if_eq (tgt := 25) hx hb dX4_shareOf_18 (by decide) (fun _ => ?_) (fun c_18 => absurd (rfl) c_18)
    refine lv_iload hx hb dX4_shareOf_25 (lv_at hl 0 rfl) ?_
    refine lv_iload_n hx hb dX4_shareOf_27 rfl (lv_at hl 5 rfl) ?_
    refine lv_if_eq (tgt := 36) hx hb dX4_shareOf_28 (by decide) (fun _ => ?_) (fun c_28 => absurd (rfl) c_28)
    refine lv_iload hx hb dX4_shareOf_36 (lv_at hl 1 rfl) ?_
    refine lv_iload_n hx hb dX4_shareOf_38 rfl (lv_at hl 4 rfl) ?_
    have hPc := hP.sub (ws' := [(m0, .inr (4, [v0, v1, v2, v3, v4, .ref pz, .ref pr, v7, v8, v9, v10, .ref su, .ref te, v13])), (su, .inl (cJ, 48, .inr (.inl (fun j => lN (ds j))))), (te, .inl (cJ, 48, .inr (.inl (fun j => lN (dt j)))))]) [0, 3, 4] rfl
    have hKc := hK.sub (tys' := [(cJ, .long)]) [1] rfl
    have hDc := hD.sub (ws' := [(m0, .inr (4, [v0, v1, v2, v3, v4, .ref pz, .ref pr, v7, v8, v9, v10, .ref su, .ref te, v13])), (su, .inl (cJ, 48, .inr (.inl (fun j => lN (ds j))))), (te, .inl (cJ, 48, .inr (.inl (fun j => lN (dt j)))))]) [0, 3, 4] (by decide) rfl
    have hFc := va_free (wc := [(m0, .inr (4, [v0, v1, v2, v3, v4, .ref pz, .ref pr, v7, v8, v9, v10, .ref su, .ref te, v13])), (su, .inl (cJ, 48, .inr (.inl (fun j => lN (ds j))))), (te, .inl (cJ, 48, .inr (.inl (fun j => lN (dt j)))))]) hD hS hA [0, 3, 4] rfl
    refine va_callv (va_runV (As := [.int (nI (rN zf rn t)), .int (nI (rX zf rn t)), .int (nI (rN zf rn t)), .int (nI j)]) (rest := []) ⟨hx, hb, hml, hown, hts⟩ (c_ref_add l dC dI m0 su te cJ v0 v1 v2 v3 v4 (.ref pz) (.ref pr) v7 v8 v9 v10 v13 ds dt (rN zf rn t) (rX zf rn t) (rN zf rn t) j zs.heap.size hN48 (by omega) (by omega) hj) (cwV 4 hts gX4_shareOf_X4_add rfl rfl rfl (by decide +kernel) ⟨Nat.le_of_ble_eq_true rfl, Nat.le_of_ble_eq_true rfl⟩) (fw_preVW hN hKc hPc hDc (ci := 4) (q0 := 0) rfl rfl) rfl rfl hl.1 rfl (lv_room (Nat.le_of_ble_eq_true rfl)) dX4_shareOf_39 ⟨Nat.le_of_ble_eq_true rfl, Nat.le_of_ble_eq_true rfl⟩) hS (fun q _ h => hFc q h) hFc (fun u zt H1 locs zht hvm hw hB hz1 hk1 hS => ?_)
    obtain ⟨e1, e2⟩ := u
    obtain ⟨ok_e1, v_e1⟩ := hw
    obtain ⟨hP1, hK1, hD1⟩ := hB
    rw [zht] at hP1
    have ok_e1 : rd_ok e1 := ok_e1
    have v_e1 : rd_v e1 48 = pm_R (rN zf rn t) j (rX zf rn t) ((rN zf rn t) + 1 - (rX zf rn t)) := v_e1
    obtain ⟨hP, hD⟩ := va_join (wr := [(pz, .inl (cI, 12, .inl (fun j => nI (zf j)))), (pr, .inl (cI, 576, .inl (fun j => nI (rn j))))]) (w1 := [(m0, .inr (4, [v0, v1, v2, v3, v4, .ref pz, .ref pr, v7, v8, v9, v10, .ref su, .ref te, v13])), (su, .inl (cJ, 48, .inr (.inl (fun j => lN (e1 j))))), (te, .inl (cJ, 48, .inr (.inl (fun j => lN (e2 j)))))]) hP hD [0, 3, 4] [1, 2] rfl rfl (by decide) (by decide) hk1 hFc hP1 hD1
    generalize H1 = H at hP hS ⊢
    have hP : va_P (dC, dI) vwCl [(pz, .inl (cI, 12, .inl (fun j => nI (zf j)))), (pr, .inl (cI, 576, .inl (fun j => nI (rn j)))), (m0, .inr (4, [v0, v1, v2, v3, v4, .ref pz, .ref pr, v7, v8, v9, v10, .ref su, .ref te, v13])), (su, .inl (cJ, 48, .inr (.inl (fun j => lN (e1 j))))), (te, .inl (cJ, 48, .inr (.inl (fun j => lN (e2 j)))))] H := hP
    have hD : va_D A [(pz, .inl (cI, 12, .inl (fun j => nI (zf j)))), (pr, .inl (cI, 576, .inl (fun j => nI (rn j)))), (m0, .inr (4, [v0, v1, v2, v3, v4, .ref pz, .ref pr, v7, v8, v9, v10, .ref su, .ref te, v13])), (su, .inl (cJ, 48, .inr (.inl (fun j => lN (e1 j))))), (te, .inl (cJ, 48, .inr (.inl (fun j => lN (e2 j)))))] := hD
    have hP9 := hP.sub (ws' := [(m0, .inr (4, [v0, v1, v2, v3, v4, .ref pz, .ref pr, v7, v8, v9, v10, .ref su, .ref te, v13])), (pz, .inl (cI, 12, .inl (fun j => nI (zf j)))), (pr, .inl (cI, 576, .inl (fun j => nI (rn j)))), (su, .inl (cJ, 48, .inr (.inl (fun j => lN (e1 j))))), (te, .inl (cJ, 48, .inr (.inl (fun j => lN (e2 j)))))]) [2, 0, 1, 3, 4] rfl
    have hD9 := hD.sub (ws' := [(m0, .inr (4, [v0, v1, v2, v3, v4, .ref pz, .ref pr, v7, v8, v9, v10, .ref su, .ref te, v13])), (pz, .inl (cI, 12, .inl (fun j => nI (zf j)))), (pr, .inl (cI, 576, .inl (fun j => nI (rn j)))), (su, .inl (cJ, 48, .inr (.inl (fun j => lN (e1 j))))), (te, .inl (cJ, 48, .inr (.inl (fun j => lN (e2 j)))))]) [2, 0, 1, 3, 4] (by decide) rfl
    have hK9 := hK.sub (tys' := [(cI, .int), (cJ, .long)]) [0, 1] rfl
    exact W.vret hx hb hr (fun zt zht hW => ⟨⟨(e1, e2), rfl, ⟨ok_e1, by rw [v_e1]; exact sh_least hXN hj⟩, by rw [zht]; exact hP9, va_K.moved hW.alike hK9, hD9⟩, hS.F zht⟩) hS.2.2 dX4_shareOf_42 hlocks
  · -- t
    refine lv_aload_n hx hb dX4_shareOf_14 rfl (lv_at hl 2 rfl) ?_
    refine lv_iload hx hb dX4_shareOf_15 (lv_at hl 1 rfl) ?_
    refine lv_iload_n hx hb dX4_shareOf_17 rfl (lv_at hl 5 rfl) ?_
    refine lv_if_eq (tgt := 25) hx hb dX4_shareOf_18 (by decide) (fun c_18 => absurd c_18 (by decide)) (fun _ => ?_)
    refine lv_iconst (v := 0) hx hb dX4_shareOf_21 (by decide) ?_
    refine fw_i (x' := nI 0) (rfl) ?_
    refine lv_goto (tgt := 27) hx hb dX4_shareOf_22 (by decide) ?_
    refine lv_iload_n hx hb dX4_shareOf_27 rfl (lv_at hl 5 rfl) ?_
    refine lv_if_eq (tgt := 36) hx hb dX4_shareOf_28 (by decide) (fun c_28 => absurd c_28 (by decide)) (fun _ => ?_)
    refine lv_iload hx hb dX4_shareOf_31 (lv_at hl 0 rfl) ?_
    refine lv_goto (tgt := 38) hx hb dX4_shareOf_33 (by decide) ?_
    refine lv_iload_n hx hb dX4_shareOf_38 rfl (lv_at hl 4 rfl) ?_
    have hPc := hP.sub (ws' := [(m0, .inr (4, [v0, v1, v2, v3, v4, .ref pz, .ref pr, v7, v8, v9, v10, .ref su, .ref te, v13])), (su, .inl (cJ, 48, .inr (.inl (fun j => lN (ds j))))), (te, .inl (cJ, 48, .inr (.inl (fun j => lN (dt j)))))]) [0, 3, 4] rfl
    have hKc := hK.sub (tys' := [(cJ, .long)]) [1] rfl
    have hDc := hD.sub (ws' := [(m0, .inr (4, [v0, v1, v2, v3, v4, .ref pz, .ref pr, v7, v8, v9, v10, .ref su, .ref te, v13])), (su, .inl (cJ, 48, .inr (.inl (fun j => lN (ds j))))), (te, .inl (cJ, 48, .inr (.inl (fun j => lN (dt j)))))]) [0, 3, 4] (by decide) rfl
    have hFc := va_free (wc := [(m0, .inr (4, [v0, v1, v2, v3, v4, .ref pz, .ref pr, v7, v8, v9, v10, .ref su, .ref te, v13])), (su, .inl (cJ, 48, .inr (.inl (fun j => lN (ds j))))), (te, .inl (cJ, 48, .inr (.inl (fun j => lN (dt j)))))]) hD hS hA [0, 3, 4] rfl
    refine va_callv (va_runV (As := [.int (nI (rN zf rn t)), .int (nI 0), .int (nI (rX zf rn t)), .int (nI j)]) (rest := []) ⟨hx, hb, hml, hown, hts⟩ (c_ref_add l dC dI m0 su te cJ v0 v1 v2 v3 v4 (.ref pz) (.ref pr) v7 v8 v9 v10 v13 ds dt (rN zf rn t) 0 (rX zf rn t) j zs.heap.size hN48 (by omega) (by omega) hj) (cwV 4 hts gX4_shareOf_X4_add rfl rfl rfl (by decide +kernel) ⟨Nat.le_of_ble_eq_true rfl, Nat.le_of_ble_eq_true rfl⟩) (fw_preVW hN hKc hPc hDc (ci := 4) (q0 := 0) rfl rfl) rfl rfl hl.1 rfl (lv_room (Nat.le_of_ble_eq_true rfl)) dX4_shareOf_39 ⟨Nat.le_of_ble_eq_true rfl, Nat.le_of_ble_eq_true rfl⟩) hS (fun q _ h => hFc q h) hFc (fun u zt H1 locs zht hvm hw hB hz1 hk1 hS => ?_)
    obtain ⟨e1, e2⟩ := u
    obtain ⟨ok_e1, v_e1⟩ := hw
    obtain ⟨hP1, hK1, hD1⟩ := hB
    rw [zht] at hP1
    have ok_e1 : rd_ok e1 := ok_e1
    have v_e1 : rd_v e1 48 = pm_R (rN zf rn t) j 0 ((rX zf rn t) + 1 - 0) := v_e1
    obtain ⟨hP, hD⟩ := va_join (wr := [(pz, .inl (cI, 12, .inl (fun j => nI (zf j)))), (pr, .inl (cI, 576, .inl (fun j => nI (rn j))))]) (w1 := [(m0, .inr (4, [v0, v1, v2, v3, v4, .ref pz, .ref pr, v7, v8, v9, v10, .ref su, .ref te, v13])), (su, .inl (cJ, 48, .inr (.inl (fun j => lN (e1 j))))), (te, .inl (cJ, 48, .inr (.inl (fun j => lN (e2 j)))))]) hP hD [0, 3, 4] [1, 2] rfl rfl (by decide) (by decide) hk1 hFc hP1 hD1
    generalize H1 = H at hP hS ⊢
    have hP : va_P (dC, dI) vwCl [(pz, .inl (cI, 12, .inl (fun j => nI (zf j)))), (pr, .inl (cI, 576, .inl (fun j => nI (rn j)))), (m0, .inr (4, [v0, v1, v2, v3, v4, .ref pz, .ref pr, v7, v8, v9, v10, .ref su, .ref te, v13])), (su, .inl (cJ, 48, .inr (.inl (fun j => lN (e1 j))))), (te, .inl (cJ, 48, .inr (.inl (fun j => lN (e2 j)))))] H := hP
    have hD : va_D A [(pz, .inl (cI, 12, .inl (fun j => nI (zf j)))), (pr, .inl (cI, 576, .inl (fun j => nI (rn j)))), (m0, .inr (4, [v0, v1, v2, v3, v4, .ref pz, .ref pr, v7, v8, v9, v10, .ref su, .ref te, v13])), (su, .inl (cJ, 48, .inr (.inl (fun j => lN (e1 j))))), (te, .inl (cJ, 48, .inr (.inl (fun j => lN (e2 j)))))] := hD
    have hP9 := hP.sub (ws' := [(m0, .inr (4, [v0, v1, v2, v3, v4, .ref pz, .ref pr, v7, v8, v9, v10, .ref su, .ref te, v13])), (pz, .inl (cI, 12, .inl (fun j => nI (zf j)))), (pr, .inl (cI, 576, .inl (fun j => nI (rn j)))), (su, .inl (cJ, 48, .inr (.inl (fun j => lN (e1 j))))), (te, .inl (cJ, 48, .inr (.inl (fun j => lN (e2 j)))))]) [2, 0, 1, 3, 4] rfl
    have hD9 := hD.sub (ws' := [(m0, .inr (4, [v0, v1, v2, v3, v4, .ref pz, .ref pr, v7, v8, v9, v10, .ref su, .ref te, v13])), (pz, .inl (cI, 12, .inl (fun j => nI (zf j)))), (pr, .inl (cI, 576, .inl (fun j => nI (rn j)))), (su, .inl (cJ, 48, .inr (.inl (fun j => lN (e1 j))))), (te, .inl (cJ, 48, .inr (.inl (fun j => lN (e2 j)))))]) [2, 0, 1, 3, 4] (by decide) rfl
    have hK9 := hK.sub (tys' := [(cI, .int), (cJ, .long)]) [0, 1] rfl
    exact W.vret hx hb hr (fun zt zht hW => ⟨⟨(e1, e2), rfl, ⟨ok_e1, by rw [v_e1]; exact sh_most _ _ _⟩, by rw [zht]; exact hP9, va_K.moved hW.alike hK9, hD9⟩, hS.F zht⟩) hS.2.2 dX4_shareOf_42 hlocks
set_option maxHeartbeats 4000000 in
set_option maxRecDepth 100000 in
theorem c_ref_level (l : Launch) (dC : Nat → ClassId) (dI : Nat → Nat → Nat) (m0 su wh : Nat) (cJ : ClassId) (v0 v1 v2 v3 v4 v5 v6 v7 v8 v9 v10 v12 : Value) (ds dw : Nat → Nat) (n lv : Nat) (sz : Nat) (hd : rd_ok ds) (hn48 : n ≤ 48) (hlv : lv ≤ 999) (hV : rd_v ds 48 ≤ 1000 ^ n) : Met l yX4_isAboveLevel wsX4_isAboveLevel ({ frames := 1, cells := 0, slots := 0, locals := 27 } : Room) (va_Pc [.ref m0, .int (nI n), .int (nI lv)] (fw_pW (dC, dI) vwCl [(cJ, .long)] [(m0, .inr (4, [v0, v1, v2, v3, v4, v5, v6, v7, v8, v9, v10, .ref su, v12, .ref wh])), (su, .inl (cJ, 48, .inr (.inl (fun j => lN (ds j))))), (wh, .inl (cJ, 48, .inr (.inl (fun j => lN (dw j)))))] sz)) (va_Qi (S := (Nat → Nat) × (Nat → Nat)) (fun r _ => r = zI (decide (lv * 1000 ^ n < 1000 * rd_v ds 48))) (fun u t => fw_q (dC, dI) vwCl [(cJ, .long)] (va_A [(m0, .inr (4, [v0, v1, v2, v3, v4, v5, v6, v7, v8, v9, v10, .ref su, v12, .ref wh])), (su, .inl (cJ, 48, .inr (.inl (fun j => lN (ds j))))), (wh, .inl (cJ, 48, .inr (.inl (fun j => lN (dw j)))))] sz) [(m0, .inr (4, [v0, v1, v2, v3, v4, v5, v6, v7, v8, v9, v10, .ref su, v12, .ref wh])), (su, .inl (cJ, 48, .inr (.inl (fun j => lN (u.1 j))))), (wh, .inl (cJ, 48, .inr (.inl (fun j => lN (u.2 j)))))] t) (va_A [(m0, .inr (4, [v0, v1, v2, v3, v4, v5, v6, v7, v8, v9, v10, .ref su, v12, .ref wh])), (su, .inl (cJ, 48, .inr (.inl (fun j => lN (ds j))))), (wh, .inl (cJ, 48, .inr (.inl (fun j => lN (dw j)))))] sz)) 0 0 (va_A [(m0, .inr (4, [v0, v1, v2, v3, v4, v5, v6, v7, v8, v9, v10, .ref su, v12, .ref wh])), (su, .inl (cJ, 48, .inr (.inl (fun j => lN (ds j))))), (wh, .inl (cJ, 48, .inr (.inl (fun j => lN (dw j)))))] sz) := by
  refine fw_metW (cc := cX4_isAboveLevel) (maxL := 4) (ret := (some .boolean)) (by decide) rfl (Nat.le_of_ble_eq_true rfl) ?_
  intro zp ze zs zm zbelow zmeth zc ls hx hb hr hts hown hlocks hml hin hN hsz hP hK hD hA hS hl
  generalize hAe : (va_A [(m0, .inr (4, [v0, v1, v2, v3, v4, v5, v6, v7, v8, v9, v10, .ref su, v12, .ref wh])), (su, .inl (cJ, 48, .inr (.inl (fun j => lN (ds j))))), (wh, .inl (cJ, 48, .inr (.inl (fun j => lN (dw j)))))] sz) = A at hD hA hS ⊢
  have hown : zs.vm.findClass RX4 = some zm.cls := hown
  have hl : lv_has ls 4 [(0, .ref m0), (1, .int (nI n)), (2, .int (nI lv))] := hl
  refine lv_aload_n hx hb dX4_isAboveLevel_0 rfl (lv_at hl 0 rfl) ?_
  refine va_get (D := (dC, dI)) (ci := 4) (v := .ref su) (C := RX4) (T := TX4) (N := 14) hx hb hts (by decide +kernel) hown hK hP 0 rfl rfl 11 (by decide) (hts (.fieldLink RX4 39 "FlakyBoundsModel" "sum" "[J") (by decide +kernel)) (fun _ h9 => h9) rfl dX4_isAboveLevel_1 ?_
  refine lv_ldc2 (v := 1000) hx hb hown (hts (.constantLong RX4 83 1000) (by decide +kernel)) dX4_isAboveLevel_4 ?_
  have hPc := hP.sub (ws' := [(su, .inl (cJ, 48, .inr (.inl (fun j => lN (ds j)))))]) [1] rfl
  have hKc := hK.sub (tys' := [(cJ, .long)]) [0] rfl
  have hDc := hD.sub (ws' := [(su, .inl (cJ, 48, .inr (.inl (fun j => lN (ds j)))))]) [1] (by decide) rfl
  have hFc := va_free (wc := [(su, .inl (cJ, 48, .inr (.inl (fun j => lN (ds j)))))]) hD hS hA [1] rfl
  refine va_callv (va_runS (As := [.ref su, .long 1000]) (rest := []) ⟨hx, hb, hml, hown, hts⟩ (c_ref_times l dC dI su cJ ds 1000 zs.heap.size hd (by decide) (rb_1 (Nat.le_refl 1000) hV (by omega))) (va_cwS 2 hts gX4_isAboveLevel_X4_times rfl rfl rfl (by decide +kernel) ⟨Nat.le_of_ble_eq_true rfl, Nat.le_of_ble_eq_true rfl⟩) (fw_preSW hN hKc hPc hDc) rfl rfl hl.1 rfl (lv_room (Nat.le_of_ble_eq_true rfl)) dX4_isAboveLevel_7 ⟨Nat.le_of_ble_eq_true rfl, Nat.le_of_ble_eq_true rfl⟩) hS (fun q _ h => hFc q h) hFc (fun d1 zt H1 locs zht hvm hw hB hz1 hk1 hS => ?_)
  obtain ⟨ok_d1, v_d1⟩ := hw
  obtain ⟨hP1, hK1, hD1⟩ := hB
  rw [zht] at hP1
  obtain ⟨hP, hD⟩ := va_join (wr := [(m0, .inr (4, [v0, v1, v2, v3, v4, v5, v6, v7, v8, v9, v10, .ref su, v12, .ref wh])), (wh, .inl (cJ, 48, .inr (.inl (fun j => lN (dw j)))))]) (w1 := [(su, .inl (cJ, 48, .inr (.inl (fun j => lN (d1 j)))))]) hP hD [1] [0, 2] rfl rfl (by decide) (by decide) hk1 hFc hP1 hD1
  generalize H1 = H at hP hS ⊢
  have hP : va_P (dC, dI) vwCl [(m0, .inr (4, [v0, v1, v2, v3, v4, v5, v6, v7, v8, v9, v10, .ref su, v12, .ref wh])), (wh, .inl (cJ, 48, .inr (.inl (fun j => lN (dw j))))), (su, .inl (cJ, 48, .inr (.inl (fun j => lN (d1 j)))))] H := hP
  have hD : va_D A [(m0, .inr (4, [v0, v1, v2, v3, v4, v5, v6, v7, v8, v9, v10, .ref su, v12, .ref wh])), (wh, .inl (cJ, 48, .inr (.inl (fun j => lN (dw j))))), (su, .inl (cJ, 48, .inr (.inl (fun j => lN (d1 j)))))] := hD
  refine lv_aload_n hx hb dX4_isAboveLevel_10 rfl (lv_at hl 0 rfl) ?_
  refine va_get (D := (dC, dI)) (ci := 4) (v := .ref wh) (C := RX4) (T := TX4) (N := 14) hx hb hts (by decide +kernel) hown hK hP 0 rfl rfl 13 (by decide) (hts (.fieldLink RX4 46 "FlakyBoundsModel" "whole" "[J") (by decide +kernel)) (fun _ h9 => h9) rfl dX4_isAboveLevel_11 ?_
  refine lv_iload_n hx hb dX4_isAboveLevel_14 rfl (lv_at hl 2 rfl) ?_
  refine lv_i2l (v := lN lv) hx hb dX4_isAboveLevel_15 (nI_l (by omega)) ?_
  have hPc := hP.sub (ws' := [(wh, .inl (cJ, 48, .inr (.inl (fun j => lN (dw j)))))]) [1] rfl
  have hKc := hK.sub (tys' := [(cJ, .long)]) [0] rfl
  have hDc := hD.sub (ws' := [(wh, .inl (cJ, 48, .inr (.inl (fun j => lN (dw j)))))]) [1] (by decide) rfl
  have hFc := va_free (wc := [(wh, .inl (cJ, 48, .inr (.inl (fun j => lN (dw j)))))]) hD hS hA [1] rfl
  refine va_callv (va_runS (As := [.ref wh, .long (lN lv)]) (rest := []) ⟨hx, hb, hml, hown, hts⟩ (c_ref_set l dC dI wh cJ dw lv H.size (by omega)) (va_cwS 2 hts gX4_isAboveLevel_X4_set rfl rfl rfl (by decide +kernel) ⟨Nat.le_of_ble_eq_true rfl, Nat.le_of_ble_eq_true rfl⟩) (fw_preSW hN hKc hPc hDc) rfl rfl hl.1 rfl (lv_room (Nat.le_of_ble_eq_true rfl)) dX4_isAboveLevel_16 ⟨Nat.le_of_ble_eq_true rfl, Nat.le_of_ble_eq_true rfl⟩) hS (fun q _ h => hFc q h) hFc (fun w1 zt H1 locs zht hvm hw hB hz1 hk1 hS => ?_)
  obtain ⟨ok_w1, v_w1⟩ := hw
  obtain ⟨hP1, hK1, hD1⟩ := hB
  rw [zht] at hP1
  obtain ⟨hP, hD⟩ := va_join (wr := [(m0, .inr (4, [v0, v1, v2, v3, v4, v5, v6, v7, v8, v9, v10, .ref su, v12, .ref wh])), (su, .inl (cJ, 48, .inr (.inl (fun j => lN (d1 j)))))]) (w1 := [(wh, .inl (cJ, 48, .inr (.inl (fun j => lN (w1 j)))))]) hP hD [1] [0, 2] rfl rfl (by decide) (by decide) hk1 hFc hP1 hD1
  generalize H1 = H at hP hS ⊢
  have hP : va_P (dC, dI) vwCl [(m0, .inr (4, [v0, v1, v2, v3, v4, v5, v6, v7, v8, v9, v10, .ref su, v12, .ref wh])), (su, .inl (cJ, 48, .inr (.inl (fun j => lN (d1 j))))), (wh, .inl (cJ, 48, .inr (.inl (fun j => lN (w1 j)))))] H := hP
  have hD : va_D A [(m0, .inr (4, [v0, v1, v2, v3, v4, v5, v6, v7, v8, v9, v10, .ref su, v12, .ref wh])), (su, .inl (cJ, 48, .inr (.inl (fun j => lN (d1 j))))), (wh, .inl (cJ, 48, .inr (.inl (fun j => lN (w1 j)))))] := hD
  refine lv_iconst (v := 0) hx hb dX4_isAboveLevel_19 (by decide) ?_
  refine lv_istore_n (lv' := [(3, .int 0), (0, .ref m0), (1, .int (nI n)), (2, .int (nI lv))]) hx hb dX4_isAboveLevel_20 rfl hl (by decide) rfl (fun ls hl => ?_)
  refine fw_loop (σ := Nat × (Nat → Nat)) (I := fun zn u H locs ls => match u with | (k, w2) => zn = n - k ∧ (k ≤ n) ∧ (rd_ok w2) ∧ (rd_v w2 48 = lv * 1000 ^ k) ∧ va_P (dC, dI) vwCl [(m0, .inr (4, [v0, v1, v2, v3, v4, v5, v6, v7, v8, v9, v10, .ref su, v12, .ref wh])), (su, .inl (cJ, 48, .inr (.inl (fun j => lN (d1 j))))), (wh, .inl (cJ, 48, .inr (.inl (fun j => lN (w2 j)))))] H ∧ va_D A [(m0, .inr (4, [v0, v1, v2, v3, v4, v5, v6, v7, v8, v9, v10, .ref su, v12, .ref wh])), (su, .inl (cJ, 48, .inr (.inl (fun j => lN (d1 j))))), (wh, .inl (cJ, 48, .inr (.inl (fun j => lN (w2 j)))))] ∧ va_S A zs.heap H locs ∧ lv_has ls 4 [(0, .ref m0), (1, .int (nI n)), (2, .int (nI lv)), (3, .int (nI k))]) ?_ _ (0, w1) _ _ _ ⟨rfl, by omega, ok_w1, by rw [v_w1, Nat.pow_zero, Nat.mul_one],  hP.sub [0, 1, 2] rfl, hD.sub [0, 1, 2] (by decide) rfl, hS, lv_sub hl [1, 2, 3, 0] rfl⟩
  intro zn u H locs ls hI ih_21
  obtain ⟨k, w2⟩ := u
  obtain ⟨hzn, hk, ok_w2, v_w2, hP, hD, hS, hl⟩ := hI
  refine lv_iload_n hx hb dX4_isAboveLevel_21 rfl (lv_at hl 3 rfl) ?_
  refine lv_iload_n hx hb dX4_isAboveLevel_22 rfl (lv_at hl 1 rfl) ?_
  refine lv_icmp_ge (tgt := 42) hx hb dX4_isAboveLevel_23 (by decide) (fun c_23 => ?_) (fun c_23 => ?_)
  · -- then 23
    have hend : k = n := by have := (nI_leI (a := n) (b := k) (by omega) (by omega)).mp c_23; omega
    refine lv_aload_n hx hb dX4_isAboveLevel_42 rfl (lv_at hl 0 rfl) ?_
    refine va_get (D := (dC, dI)) (ci := 4) (v := .ref su) (C := RX4) (T := TX4) (N := 14) hx hb hts (by decide +kernel) hown hK hP 0 rfl rfl 11 (by decide) (hts (.fieldLink RX4 39 "FlakyBoundsModel" "sum" "[J") (by decide +kernel)) (fun _ h9 => h9) rfl dX4_isAboveLevel_43 ?_
    refine lv_aload_n hx hb dX4_isAboveLevel_46 rfl (lv_at hl 0 rfl) ?_
    refine va_get (D := (dC, dI)) (ci := 4) (v := .ref wh) (C := RX4) (T := TX4) (N := 14) hx hb hts (by decide +kernel) hown hK hP 0 rfl rfl 13 (by decide) (hts (.fieldLink RX4 46 "FlakyBoundsModel" "whole" "[J") (by decide +kernel)) (fun _ h9 => h9) rfl dX4_isAboveLevel_47 ?_
    have hPc := hP.sub (ws' := [(su, .inl (cJ, 48, .inr (.inl (fun j => lN (d1 j))))), (wh, .inl (cJ, 48, .inr (.inl (fun j => lN (w2 j)))))]) [1, 2] rfl
    have hKc := hK.sub (tys' := [(cJ, .long)]) [0] rfl
    refine vp_callSi (va_runS (As := [.ref su, .ref wh]) (rest := []) ⟨hx, hb, hml, hown, hts⟩ (c_ref_above l dC dI su wh cJ d1 w2 ok_d1 ok_w2) (va_cwS 2 hts gX4_isAboveLevel_X4_isAbove rfl rfl rfl (by decide +kernel) ⟨Nat.le_of_ble_eq_true rfl, Nat.le_of_ble_eq_true rfl⟩) (fw_preSR hN hKc hPc) rfl rfl hl.1 rfl (lv_room (Nat.le_of_ble_eq_true rfl)) dX4_isAboveLevel_50 ⟨Nat.le_of_ble_eq_true rfl, Nat.le_of_ble_eq_true rfl⟩).run (fun r_50 hr_50 => ?_)
    obtain rfl : r_50 = zI (decide (lv * 1000 ^ n < 1000 * rd_v ds 48)) := by rw [hr_50, v_w2, v_d1, hend]
    have hP9 := hP.sub (ws' := [(m0, .inr (4, [v0, v1, v2, v3, v4, v5, v6, v7, v8, v9, v10, .ref su, v12, .ref wh])), (su, .inl (cJ, 48, .inr (.inl (fun j => lN (d1 j))))), (wh, .inl (cJ, 48, .inr (.inl (fun j => lN (w2 j)))))]) [0, 1, 2] rfl
    have hD9 := hD.sub (ws' := [(m0, .inr (4, [v0, v1, v2, v3, v4, v5, v6, v7, v8, v9, v10, .ref su, v12, .ref wh])), (su, .inl (cJ, 48, .inr (.inl (fun j => lN (d1 j))))), (wh, .inl (cJ, 48, .inr (.inl (fun j => lN (w2 j)))))]) [0, 1, 2] (by decide) rfl
    have hK9 := hK.sub (tys' := [(cJ, .long)]) [0] rfl
    exact W.zret (v := (zI (decide (lv * 1000 ^ n < 1000 * rd_v ds 48)))) (ty := .boolean) hx hb hr (zI_nar _) (fun zt zht hW => ⟨⟨(zI (decide (lv * 1000 ^ n < 1000 * rd_v ds 48))), (d1, w2), rfl, rfl, by rw [zht]; exact hP9, va_K.moved hW.alike hK9, hD9⟩, hS.F zht⟩) hS.2.2 dX4_isAboveLevel_53 hlocks
  · -- else 23
    have hlt : k < n := by
      rcases Nat.lt_or_ge k n with q9 | q9
      · exact q9
      · exact absurd (nI_le (a := n) (b := k) q9 (by omega)) c_23
    refine lv_aload_n hx hb dX4_isAboveLevel_26 rfl (lv_at hl 0 rfl) ?_
    refine va_get (D := (dC, dI)) (ci := 4) (v := .ref wh) (C := RX4) (T := TX4) (N := 14) hx hb hts (by decide +kernel) hown hK hP 0 rfl rfl 13 (by decide) (hts (.fieldLink RX4 46 "FlakyBoundsModel" "whole" "[J") (by decide +kernel)) (fun _ h9 => h9) rfl dX4_isAboveLevel_27 ?_
    refine lv_ldc2 (v := 1000) hx hb hown (hts (.constantLong RX4 83 1000) (by decide +kernel)) dX4_isAboveLevel_30 ?_
    have hPc := hP.sub (ws' := [(wh, .inl (cJ, 48, .inr (.inl (fun j => lN (w2 j)))))]) [2] rfl
    have hKc := hK.sub (tys' := [(cJ, .long)]) [0] rfl
    have hDc := hD.sub (ws' := [(wh, .inl (cJ, 48, .inr (.inl (fun j => lN (w2 j)))))]) [2] (by decide) rfl
    have hFc := va_free (wc := [(wh, .inl (cJ, 48, .inr (.inl (fun j => lN (w2 j)))))]) hD hS hA [2] rfl
    refine va_callv (va_runS (As := [.ref wh, .long 1000]) (rest := []) ⟨hx, hb, hml, hown, hts⟩ (c_ref_times l dC dI wh cJ w2 1000 H.size ok_w2 (by decide) (by rw [v_w2]; exact rb_4 (n := n) hlv (by omega))) (va_cwS 2 hts gX4_isAboveLevel_X4_times rfl rfl rfl (by decide +kernel) ⟨Nat.le_of_ble_eq_true rfl, Nat.le_of_ble_eq_true rfl⟩) (fw_preSW hN hKc hPc hDc) rfl rfl hl.1 rfl (lv_room (Nat.le_of_ble_eq_true rfl)) dX4_isAboveLevel_33 ⟨Nat.le_of_ble_eq_true rfl, Nat.le_of_ble_eq_true rfl⟩) hS (fun q _ h => hFc q h) hFc (fun w3 zt H1 locs zht hvm hw hB hz1 hk1 hS => ?_)
    obtain ⟨ok_w3, v_w3⟩ := hw
    obtain ⟨hP1, hK1, hD1⟩ := hB
    rw [zht] at hP1
    obtain ⟨hP, hD⟩ := va_join (wr := [(m0, .inr (4, [v0, v1, v2, v3, v4, v5, v6, v7, v8, v9, v10, .ref su, v12, .ref wh])), (su, .inl (cJ, 48, .inr (.inl (fun j => lN (d1 j)))))]) (w1 := [(wh, .inl (cJ, 48, .inr (.inl (fun j => lN (w3 j)))))]) hP hD [2] [0, 1] rfl rfl (by decide) (by decide) hk1 hFc hP1 hD1
    generalize H1 = H at hP hS ⊢
    have hP : va_P (dC, dI) vwCl [(m0, .inr (4, [v0, v1, v2, v3, v4, v5, v6, v7, v8, v9, v10, .ref su, v12, .ref wh])), (su, .inl (cJ, 48, .inr (.inl (fun j => lN (d1 j))))), (wh, .inl (cJ, 48, .inr (.inl (fun j => lN (w3 j)))))] H := hP
    have hD : va_D A [(m0, .inr (4, [v0, v1, v2, v3, v4, v5, v6, v7, v8, v9, v10, .ref su, v12, .ref wh])), (su, .inl (cJ, 48, .inr (.inl (fun j => lN (d1 j))))), (wh, .inl (cJ, 48, .inr (.inl (fun j => lN (w3 j)))))] := hD
    refine lv_iinc (v := nI (k + 1)) (lv' := [(3, .int (nI (k + 1))), (0, .ref m0), (1, .int (nI n)), (2, .int (nI lv))]) hx hb dX4_isAboveLevel_36 hl (k := 3) rfl (nI_1 k) (by decide) rfl (fun ls hl => ?_)
    refine lv_goto (tgt := 21) hx hb dX4_isAboveLevel_39 (by decide) ?_
    exact ih_21 _ (k + 1, w3) _ _ _ (by omega) ⟨rfl, by omega, ok_w3, by rw [v_w3, v_w2]; exact rb_5 _ _, hP.sub [0, 1, 2] rfl, hD.sub [0, 1, 2] (by decide) rfl, hS, lv_sub hl [1, 2, 3, 0] rfl⟩
set_option maxHeartbeats 4000000 in
set_option maxRecDepth 100000 in
theorem c_ref_bound (l : Launch) (dC : Nat → ClassId) (dI : Nat → Nat → Nat) (m0 pz pr su te wh : Nat) (cI cJ : ClassId) (v0 v1 v2 v3 v4 v7 v8 v9 v10 : Value) (zf rn ds dt dw : Nat → Nat) (t : Nat) (lv : Nat) (up : Bool) (sz : Nat) (ht : t < 12) (hz48 : zf t ≤ 48) (hrn : ∀ j, j < 576 → rn j < 2000) (hlv : lv ≤ 999) : Met l yX4_boundOf wsX4_boundOf ({ frames := 4, cells := 0, slots := 0, locals := 95 } : Room) (va_Pc [.ref m0, .int (nI t), .int (nI lv), .int (zI up)] (fw_pW (dC, dI) vwCl [(cI, .int), (cJ, .long)] [(m0, .inr (4, [v0, v1, v2, v3, v4, .ref pz, .ref pr, v7, v8, v9, v10, .ref su, .ref te, .ref wh])), (pz, .inl (cI, 12, .inl (fun j => nI (zf j)))), (pr, .inl (cI, 576, .inl (fun j => nI (rn j)))), (su, .inl (cJ, 48, .inr (.inl (fun j => lN (ds j))))), (te, .inl (cJ, 48, .inr (.inl (fun j => lN (dt j))))), (wh, .inl (cJ, 48, .inr (.inl (fun j => lN (dw j)))))] sz)) (va_Qi (S := (Nat → Nat) × (Nat → Nat) × (Nat → Nat)) (fun r _ => ∃ J : Nat, r = nI (if up = true then J else 1000 - J) ∧ gv_is (rN zf rn t) (if up = true then (rX zf rn t) else (rN zf rn t) - (rX zf rn t)) lv J) (fun u zt => fw_q (dC, dI) vwCl [(cI, .int), (cJ, .long)] (va_A [(m0, .inr (4, [v0, v1, v2, v3, v4, .ref pz, .ref pr, v7, v8, v9, v10, .ref su, .ref te, .ref wh])), (pz, .inl (cI, 12, .inl (fun j => nI (zf j)))), (pr, .inl (cI, 576, .inl (fun j => nI (rn j)))), (su, .inl (cJ, 48, .inr (.inl (fun j => lN (ds j))))), (te, .inl (cJ, 48, .inr (.inl (fun j => lN (dt j))))), (wh, .inl (cJ, 48, .inr (.inl (fun j => lN (dw j)))))] sz) [(m0, .inr (4, [v0, v1, v2, v3, v4, .ref pz, .ref pr, v7, v8, v9, v10, .ref su, .ref te, .ref wh])), (pz, .inl (cI, 12, .inl (fun j => nI (zf j)))), (pr, .inl (cI, 576, .inl (fun j => nI (rn j)))), (su, .inl (cJ, 48, .inr (.inl (fun j => lN (u.1 j))))), (te, .inl (cJ, 48, .inr (.inl (fun j => lN (u.2.1 j))))), (wh, .inl (cJ, 48, .inr (.inl (fun j => lN (u.2.2 j)))))] zt) (va_A [(m0, .inr (4, [v0, v1, v2, v3, v4, .ref pz, .ref pr, v7, v8, v9, v10, .ref su, .ref te, .ref wh])), (pz, .inl (cI, 12, .inl (fun j => nI (zf j)))), (pr, .inl (cI, 576, .inl (fun j => nI (rn j)))), (su, .inl (cJ, 48, .inr (.inl (fun j => lN (ds j))))), (te, .inl (cJ, 48, .inr (.inl (fun j => lN (dt j))))), (wh, .inl (cJ, 48, .inr (.inl (fun j => lN (dw j)))))] sz)) 0 0 (va_A [(m0, .inr (4, [v0, v1, v2, v3, v4, .ref pz, .ref pr, v7, v8, v9, v10, .ref su, .ref te, .ref wh])), (pz, .inl (cI, 12, .inl (fun j => nI (zf j)))), (pr, .inl (cI, 576, .inl (fun j => nI (rn j)))), (su, .inl (cJ, 48, .inr (.inl (fun j => lN (ds j))))), (te, .inl (cJ, 48, .inr (.inl (fun j => lN (dt j))))), (wh, .inl (cJ, 48, .inr (.inl (fun j => lN (dw j)))))] sz) := by
  refine fw_metW (cc := cX4_boundOf) (maxL := 8) (ret := (some .int)) (by decide) rfl (Nat.le_of_ble_eq_true rfl) ?_
  intro zp ze zs zm zbelow zmeth zc ls hx hb hr hts hown hlocks hml hin hN hsz hP hK hD hA hS hl
  generalize hAe : (va_A [(m0, .inr (4, [v0, v1, v2, v3, v4, .ref pz, .ref pr, v7, v8, v9, v10, .ref su, .ref te, .ref wh])), (pz, .inl (cI, 12, .inl (fun j => nI (zf j)))), (pr, .inl (cI, 576, .inl (fun j => nI (rn j)))), (su, .inl (cJ, 48, .inr (.inl (fun j => lN (ds j))))), (te, .inl (cJ, 48, .inr (.inl (fun j => lN (dt j))))), (wh, .inl (cJ, 48, .inr (.inl (fun j => lN (dw j)))))] sz) = A at hD hA hS ⊢
  have hown : zs.vm.findClass RX4 = some zm.cls := hown
  have hl : lv_has ls 8 [(0, .ref m0), (1, .int (nI t)), (2, .int (nI lv)), (3, .int (zI up))] := hl
  cases up
  · -- f
    have hN48 : (rN zf rn t) ≤ 48 := rN_le hz48
    have hXN : (rX zf rn t) ≤ (rN zf rn t) := rX_le
    refine lv_iconst (v := 0) hx hb dX4_boundOf_0 (by decide) ?_
    refine lv_istore (lv' := [(4, .int 0), (0, .ref m0), (1, .int (nI t)), (2, .int (nI lv)), (3, .int (zI false))]) hx hb dX4_boundOf_1 hl (by decide) rfl (fun ls hl => ?_)
    refine lv_sipush (v := 1000) hx hb dX4_boundOf_3 (by decide) ?_
    refine lv_istore (lv' := [(5, .int 1000), (4, .int 0), (0, .ref m0), (1, .int (nI t)), (2, .int (nI lv)), (3, .int (zI false))]) hx hb dX4_boundOf_6 hl (by decide) rfl (fun ls hl => ?_)
    refine fw_loop (σ := Nat × Nat × (Nat → Nat) × (Nat → Nat) × (Nat → Nat)) (I := fun zn u H locs ls => match u with | (lo, hi, d1, d2, d3) => zn = hi - lo ∧ (lo ≤ hi) ∧ (hi ≤ 1000) ∧ (pv_above (rN zf rn t) ((rN zf rn t) - (rX zf rn t)) (1000 - hi) lv = true) ∧ (∀ i, i < lo → pv_above (rN zf rn t) ((rN zf rn t) - (rX zf rn t)) (1000 - i) lv = false) ∧ va_P (dC, dI) vwCl [(m0, .inr (4, [v0, v1, v2, v3, v4, .ref pz, .ref pr, v7, v8, v9, v10, .ref su, .ref te, .ref wh])), (pz, .inl (cI, 12, .inl (fun j => nI (zf j)))), (pr, .inl (cI, 576, .inl (fun j => nI (rn j)))), (su, .inl (cJ, 48, .inr (.inl (fun j => lN (d1 j))))), (te, .inl (cJ, 48, .inr (.inl (fun j => lN (d2 j))))), (wh, .inl (cJ, 48, .inr (.inl (fun j => lN (d3 j)))))] H ∧ va_D A [(m0, .inr (4, [v0, v1, v2, v3, v4, .ref pz, .ref pr, v7, v8, v9, v10, .ref su, .ref te, .ref wh])), (pz, .inl (cI, 12, .inl (fun j => nI (zf j)))), (pr, .inl (cI, 576, .inl (fun j => nI (rn j)))), (su, .inl (cJ, 48, .inr (.inl (fun j => lN (d1 j))))), (te, .inl (cJ, 48, .inr (.inl (fun j => lN (d2 j))))), (wh, .inl (cJ, 48, .inr (.inl (fun j => lN (d3 j)))))] ∧ va_S A zs.heap H locs ∧ lv_has ls 8 [(0, .ref m0), (1, .int (nI t)), (2, .int (nI lv)), (3, .int (zI false)), (4, .int (nI lo)), (5, .int (nI hi))]) ?_ _ (0, 1000, ds, dt, dw) _ _ _ ⟨rfl, by omega, by omega, pv_above_0 (by omega), fun i h1 => by omega,  hP.sub [0, 1, 2, 3, 4, 5] rfl, hD.sub [0, 1, 2, 3, 4, 5] (by decide) rfl, hS, lv_sub hl [2, 3, 4, 5, 1, 0] rfl⟩
    intro zn u H locs ls hI ih_8
    obtain ⟨lo, hi, d1, d2, d3⟩ := u
    obtain ⟨hzn, hlh, hh, ha, hb_, hP, hD, hS, hl⟩ := hI
    refine lv_iload hx hb dX4_boundOf_8 (lv_at hl 4 rfl) ?_
    refine lv_iload hx hb dX4_boundOf_10 (lv_at hl 5 rfl) ?_
    refine lv_icmp_ge (tgt := 130) hx hb dX4_boundOf_12 (by decide) (fun c_12 => ?_) (fun c_12 => ?_)
    · -- then 12
      have hend : lo = hi := by have := (nI_leI (a := hi) (b := lo) (by omega) (by omega)).mp c_12; omega
      refine lv_iload hx hb dX4_boundOf_130 (lv_at hl 4 rfl) ?_
      have hP9 := hP.sub (ws' := [(m0, .inr (4, [v0, v1, v2, v3, v4, .ref pz, .ref pr, v7, v8, v9, v10, .ref su, .ref te, .ref wh])), (pz, .inl (cI, 12, .inl (fun j => nI (zf j)))), (pr, .inl (cI, 576, .inl (fun j => nI (rn j)))), (su, .inl (cJ, 48, .inr (.inl (fun j => lN (d1 j))))), (te, .inl (cJ, 48, .inr (.inl (fun j => lN (d2 j))))), (wh, .inl (cJ, 48, .inr (.inl (fun j => lN (d3 j)))))]) [0, 1, 2, 3, 4, 5] rfl
      have hD9 := hD.sub (ws' := [(m0, .inr (4, [v0, v1, v2, v3, v4, .ref pz, .ref pr, v7, v8, v9, v10, .ref su, .ref te, .ref wh])), (pz, .inl (cI, 12, .inl (fun j => nI (zf j)))), (pr, .inl (cI, 576, .inl (fun j => nI (rn j)))), (su, .inl (cJ, 48, .inr (.inl (fun j => lN (d1 j))))), (te, .inl (cJ, 48, .inr (.inl (fun j => lN (d2 j))))), (wh, .inl (cJ, 48, .inr (.inl (fun j => lN (d3 j)))))]) [0, 1, 2, 3, 4, 5] (by decide) rfl
      have hK9 := hK.sub (tys' := [(cI, .int), (cJ, .long)]) [0, 1] rfl
      exact W.iret (v := (nI lo)) hx hb hr (fun zt zht hW => ⟨⟨(nI lo), (d1, d2, d3), rfl, ⟨1000 - lo, by show nI lo = nI (1000 - (1000 - lo)); rw [show 1000 - (1000 - lo) = lo by omega], gv_low (by omega) (by rw [hend]; exact ha) hb_⟩, by rw [zht]; exact hP9, va_K.moved hW.alike hK9, hD9⟩, hS.F zht⟩) hS.2.2 dX4_boundOf_132 hlocks
    · -- else 12
      have hlt : lo < hi := by
        rcases Nat.lt_or_ge lo hi with q9 | q9
        · exact q9
        · exact absurd (nI_le (a := hi) (b := lo) q9 (by omega)) c_12
      refine lv_iload_n hx hb dX4_boundOf_15 rfl (lv_at hl 3 rfl) ?_
      refine lv_if_eq (tgt := 31) hx hb dX4_boundOf_16 (by decide) (fun _ => ?_) (fun c_16 => absurd (rfl) c_16)
      refine lv_iload hx hb dX4_boundOf_31 (lv_at hl 4 rfl) ?_
      refine lv_iload hx hb dX4_boundOf_33 (lv_at hl 5 rfl) ?_
      refine lv_iadd hx hb dX4_boundOf_35 ?_
      refine fw_i (x' := nI (lo + hi)) (nI_add _ _) ?_
      refine lv_iconst (v := 2) hx hb dX4_boundOf_36 (by decide) ?_
      refine lv_idiv hx hb dX4_boundOf_37 (by decide) ?_
      refine fw_i (x' := nI ((lo + hi) / 2)) (pk_div (d := 2) (by omega) (by decide) (by decide)) ?_
      refine lv_istore (lv' := [(6, .int (nI ((lo + hi) / 2))), (0, .ref m0), (1, .int (nI t)), (2, .int (nI lv)), (3, .int (zI false)), (4, .int (nI lo)), (5, .int (nI hi))]) hx hb dX4_boundOf_38 hl (by decide) rfl (fun ls hl => ?_)
      refine lv_aload_n hx hb dX4_boundOf_40 rfl (lv_at hl 1 rfl) ?_
      refine lv_iload_n hx hb dX4_boundOf_41 rfl (lv_at hl 2 rfl) ?_
      refine lv_iload hx hb dX4_boundOf_42 (lv_at hl 0 rfl) ?_
      refine lv_iload_n hx hb dX4_boundOf_44 rfl (lv_at hl 4 rfl) ?_
      have hPc := hP.sub (ws' := [(m0, .inr (4, [v0, v1, v2, v3, v4, .ref pz, .ref pr, v7, v8, v9, v10, .ref su, .ref te, .ref wh])), (pz, .inl (cI, 12, .inl (fun j => nI (zf j)))), (pr, .inl (cI, 576, .inl (fun j => nI (rn j)))), (su, .inl (cJ, 48, .inr (.inl (fun j => lN (d1 j))))), (te, .inl (cJ, 48, .inr (.inl (fun j => lN (d2 j)))))]) [0, 1, 2, 3, 4] rfl
      have hKc := hK.sub (tys' := [(cI, .int), (cJ, .long)]) [0, 1] rfl
      have hDc := hD.sub (ws' := [(m0, .inr (4, [v0, v1, v2, v3, v4, .ref pz, .ref pr, v7, v8, v9, v10, .ref su, .ref te, .ref wh])), (pz, .inl (cI, 12, .inl (fun j => nI (zf j)))), (pr, .inl (cI, 576, .inl (fun j => nI (rn j)))), (su, .inl (cJ, 48, .inr (.inl (fun j => lN (d1 j))))), (te, .inl (cJ, 48, .inr (.inl (fun j => lN (d2 j)))))]) [0, 1, 2, 3, 4] (by decide) rfl
      have hFc := va_free (wc := [(m0, .inr (4, [v0, v1, v2, v3, v4, .ref pz, .ref pr, v7, v8, v9, v10, .ref su, .ref te, .ref wh])), (pz, .inl (cI, 12, .inl (fun j => nI (zf j)))), (pr, .inl (cI, 576, .inl (fun j => nI (rn j)))), (su, .inl (cJ, 48, .inr (.inl (fun j => lN (d1 j))))), (te, .inl (cJ, 48, .inr (.inl (fun j => lN (d2 j)))))]) hD hS hA [0, 1, 2, 3, 4] rfl
      refine va_callv (va_runV (As := [.int (nI t), .int (nI ((lo + hi) / 2)), .int (zI false)]) (rest := []) ⟨hx, hb, hml, hown, hts⟩ (c_ref_share l dC dI m0 pz pr su te cI cJ v0 v1 v2 v3 v4 v7 v8 v9 v10 (.ref wh) zf rn d1 d2 t ((lo + hi) / 2) false H.size ht hz48 hrn (by omega)) (cwV 3 hts gX4_boundOf_X4_shareOf rfl rfl rfl (by decide +kernel) ⟨Nat.le_of_ble_eq_true rfl, Nat.le_of_ble_eq_true rfl⟩) (fw_preVW hN hKc hPc hDc (ci := 4) (q0 := 0) rfl rfl) rfl rfl hl.1 rfl (lv_room (Nat.le_of_ble_eq_true rfl)) dX4_boundOf_45 ⟨Nat.le_of_ble_eq_true rfl, Nat.le_of_ble_eq_true rfl⟩) hS (fun q _ h => hFc q h) hFc (fun u zt H1 locs zht hvm hw hB hz1 hk1 hS => ?_)
      obtain ⟨e1, d5⟩ := u
      obtain ⟨ok_e1, v_e1⟩ := hw
      obtain ⟨hP1, hK1, hD1⟩ := hB
      rw [zht] at hP1
      have ok_e1 : rd_ok e1 := ok_e1
      have v_e1 : rd_v e1 48 = sh_v false (rN zf rn t) (rX zf rn t) ((lo + hi) / 2) := v_e1
      obtain ⟨hP, hD⟩ := va_join (wr := [(wh, .inl (cJ, 48, .inr (.inl (fun j => lN (d3 j)))))]) (w1 := [(m0, .inr (4, [v0, v1, v2, v3, v4, .ref pz, .ref pr, v7, v8, v9, v10, .ref su, .ref te, .ref wh])), (pz, .inl (cI, 12, .inl (fun j => nI (zf j)))), (pr, .inl (cI, 576, .inl (fun j => nI (rn j)))), (su, .inl (cJ, 48, .inr (.inl (fun j => lN (e1 j))))), (te, .inl (cJ, 48, .inr (.inl (fun j => lN (d5 j)))))]) hP hD [0, 1, 2, 3, 4] [5] rfl rfl (by decide) (by decide) hk1 hFc hP1 hD1
      generalize H1 = H at hP hS ⊢
      have hP : va_P (dC, dI) vwCl [(wh, .inl (cJ, 48, .inr (.inl (fun j => lN (d3 j))))), (m0, .inr (4, [v0, v1, v2, v3, v4, .ref pz, .ref pr, v7, v8, v9, v10, .ref su, .ref te, .ref wh])), (pz, .inl (cI, 12, .inl (fun j => nI (zf j)))), (pr, .inl (cI, 576, .inl (fun j => nI (rn j)))), (su, .inl (cJ, 48, .inr (.inl (fun j => lN (e1 j))))), (te, .inl (cJ, 48, .inr (.inl (fun j => lN (d5 j)))))] H := hP
      have hD : va_D A [(wh, .inl (cJ, 48, .inr (.inl (fun j => lN (d3 j))))), (m0, .inr (4, [v0, v1, v2, v3, v4, .ref pz, .ref pr, v7, v8, v9, v10, .ref su, .ref te, .ref wh])), (pz, .inl (cI, 12, .inl (fun j => nI (zf j)))), (pr, .inl (cI, 576, .inl (fun j => nI (rn j)))), (su, .inl (cJ, 48, .inr (.inl (fun j => lN (e1 j))))), (te, .inl (cJ, 48, .inr (.inl (fun j => lN (d5 j)))))] := hD
      refine lv_aload_n hx hb dX4_boundOf_48 rfl (lv_at hl 1 rfl) ?_
      refine lv_aload_n hx hb dX4_boundOf_49 rfl (lv_at hl 1 rfl) ?_
      refine lv_iload_n hx hb dX4_boundOf_50 rfl (lv_at hl 2 rfl) ?_
      have hPc := hP.sub (ws' := [(m0, .inr (4, [v0, v1, v2, v3, v4, .ref pz, .ref pr, v7, v8, v9, v10, .ref su, .ref te, .ref wh])), (pz, .inl (cI, 12, .inl (fun j => nI (zf j)))), (pr, .inl (cI, 576, .inl (fun j => nI (rn j))))]) [1, 2, 3] rfl
      have hKc := hK.sub (tys' := [(cI, .int)]) [0] rfl
      refine vp_callSi (va_runV (As := [.int (nI t)]) (rest := [.ref m0]) ⟨hx, hb, hml, hown, hts⟩ (c_ref_throws l dC dI m0 pz pr cI v0 v1 v2 v3 v4 v7 v8 v9 v10 (.ref su) (.ref te) (.ref wh) zf rn t ht hz48 hrn) (cwV 1 hts gX4_boundOf_X4_throwsOf rfl rfl rfl (by decide +kernel) ⟨Nat.le_of_ble_eq_true rfl, Nat.le_of_ble_eq_true rfl⟩) (fw_preVR hN hKc hPc (ci := 4) (q0 := 0) rfl rfl) rfl rfl hl.1 rfl (lv_room (Nat.le_of_ble_eq_true rfl)) dX4_boundOf_51 ⟨Nat.le_of_ble_eq_true rfl, Nat.le_of_ble_eq_true rfl⟩).run (fun r_51 hr_51 => ?_)
      obtain rfl : r_51 = nI (rN zf rn t) := hr_51
      refine lv_iload_n hx hb dX4_boundOf_54 rfl (lv_at hl 3 rfl) ?_
      have hPc := hP.sub (ws' := [(m0, .inr (4, [v0, v1, v2, v3, v4, .ref pz, .ref pr, v7, v8, v9, v10, .ref su, .ref te, .ref wh])), (su, .inl (cJ, 48, .inr (.inl (fun j => lN (e1 j))))), (wh, .inl (cJ, 48, .inr (.inl (fun j => lN (d3 j)))))]) [1, 4, 0] rfl
      have hKc := hK.sub (tys' := [(cJ, .long)]) [1] rfl
      have hDc := hD.sub (ws' := [(m0, .inr (4, [v0, v1, v2, v3, v4, .ref pz, .ref pr, v7, v8, v9, v10, .ref su, .ref te, .ref wh])), (su, .inl (cJ, 48, .inr (.inl (fun j => lN (e1 j))))), (wh, .inl (cJ, 48, .inr (.inl (fun j => lN (d3 j)))))]) [1, 4, 0] (by decide) rfl
      have hFc := va_free (wc := [(m0, .inr (4, [v0, v1, v2, v3, v4, .ref pz, .ref pr, v7, v8, v9, v10, .ref su, .ref te, .ref wh])), (su, .inl (cJ, 48, .inr (.inl (fun j => lN (e1 j))))), (wh, .inl (cJ, 48, .inr (.inl (fun j => lN (d3 j)))))]) hD hS hA [1, 4, 0] rfl
      refine va_calli (va_runV (As := [.int (nI (rN zf rn t)), .int (nI lv)]) (rest := []) ⟨hx, hb, hml, hown, hts⟩ (c_ref_level l dC dI m0 su wh cJ v0 v1 v2 v3 v4 (.ref pz) (.ref pr) v7 v8 v9 v10 (.ref te) e1 d3 (rN zf rn t) lv H.size ok_e1 hN48 (by omega) (by rw [v_e1]; exact sh_le (by omega))) (cwV 2 hts gX4_boundOf_X4_isAboveLevel rfl rfl rfl (by decide +kernel) ⟨Nat.le_of_ble_eq_true rfl, Nat.le_of_ble_eq_true rfl⟩) (fw_preVW hN hKc hPc hDc (ci := 4) (q0 := 0) rfl rfl) rfl rfl hl.1 rfl (lv_room (Nat.le_of_ble_eq_true rfl)) dX4_boundOf_55 ⟨Nat.le_of_ble_eq_true rfl, Nat.le_of_ble_eq_true rfl⟩) hS (fun q _ h => hFc q h) hFc (fun r_55 u zt H1 locs zht hvm hw hB hz1 hk1 hS => ?_)
      obtain ⟨d4, d6⟩ := u
      obtain ⟨hP1, hK1, hD1⟩ := hB
      rw [zht] at hP1
      obtain ⟨hP, hD⟩ := va_join (wr := [(pz, .inl (cI, 12, .inl (fun j => nI (zf j)))), (pr, .inl (cI, 576, .inl (fun j => nI (rn j)))), (te, .inl (cJ, 48, .inr (.inl (fun j => lN (d5 j)))))]) (w1 := [(m0, .inr (4, [v0, v1, v2, v3, v4, .ref pz, .ref pr, v7, v8, v9, v10, .ref su, .ref te, .ref wh])), (su, .inl (cJ, 48, .inr (.inl (fun j => lN (d4 j))))), (wh, .inl (cJ, 48, .inr (.inl (fun j => lN (d6 j)))))]) hP hD [1, 4, 0] [2, 3, 5] rfl rfl (by decide) (by decide) hk1 hFc hP1 hD1
      generalize H1 = H at hP hS ⊢
      have hP : va_P (dC, dI) vwCl [(pz, .inl (cI, 12, .inl (fun j => nI (zf j)))), (pr, .inl (cI, 576, .inl (fun j => nI (rn j)))), (te, .inl (cJ, 48, .inr (.inl (fun j => lN (d5 j))))), (m0, .inr (4, [v0, v1, v2, v3, v4, .ref pz, .ref pr, v7, v8, v9, v10, .ref su, .ref te, .ref wh])), (su, .inl (cJ, 48, .inr (.inl (fun j => lN (d4 j))))), (wh, .inl (cJ, 48, .inr (.inl (fun j => lN (d6 j)))))] H := hP
      have hD : va_D A [(pz, .inl (cI, 12, .inl (fun j => nI (zf j)))), (pr, .inl (cI, 576, .inl (fun j => nI (rn j)))), (te, .inl (cJ, 48, .inr (.inl (fun j => lN (d5 j))))), (m0, .inr (4, [v0, v1, v2, v3, v4, .ref pz, .ref pr, v7, v8, v9, v10, .ref su, .ref te, .ref wh])), (su, .inl (cJ, 48, .inr (.inl (fun j => lN (d4 j))))), (wh, .inl (cJ, 48, .inr (.inl (fun j => lN (d6 j)))))] := hD
      obtain rfl : r_55 = zI (pv_above (rN zf rn t) ((rN zf rn t) - (rX zf rn t)) (1000 - ((lo + hi) / 2)) lv) := by rw [hw, v_e1]; rfl
      refine lv_istore (lv' := [(7, .int (zI (pv_above (rN zf rn t) ((rN zf rn t) - (rX zf rn t)) (1000 - ((lo + hi) / 2)) lv))), (6, .int (nI ((lo + hi) / 2))), (0, .ref m0), (1, .int (nI t)), (2, .int (nI lv)), (3, .int (zI false)), (4, .int (nI lo)), (5, .int (nI hi))]) hx hb dX4_boundOf_58 hl (by decide) rfl (fun ls hl => ?_)
      cases h66 : pv_above (rN zf rn t) ((rN zf rn t) - (rX zf rn t)) (1000 - ((lo + hi) / 2)) lv
      · -- isf
        refine lv_iload_n hx hb dX4_boundOf_60 rfl (lv_at hl 5 rfl) ?_
        refine lv_if_eq (tgt := 97) hx hb dX4_boundOf_61 (by decide) (fun _ => ?_) (fun c_61 => absurd (rfl) c_61)
        refine lv_iload hx hb dX4_boundOf_97 (lv_at hl 0 rfl) ?_
        refine lv_if_eq (tgt := 107) hx hb dX4_boundOf_99 (by decide) (fun _ => ?_) (fun c_99 => absurd (by rw [h66]; rfl) c_99)
        refine lv_iload hx hb dX4_boundOf_107 (lv_at hl 7 rfl) ?_
        refine lv_istore (lv' := [(5, .int (nI hi)), (7, .int (zI (pv_above (rN zf rn t) ((rN zf rn t) - (rX zf rn t)) (1000 - ((lo + hi) / 2)) lv))), (6, .int (nI ((lo + hi) / 2))), (0, .ref m0), (1, .int (nI t)), (2, .int (nI lv)), (3, .int (zI false)), (4, .int (nI lo))]) hx hb dX4_boundOf_109 hl (by decide) rfl (fun ls hl => ?_)
        refine lv_iload hx hb dX4_boundOf_111 (lv_at hl 1 rfl) ?_
        refine lv_if_eq (tgt := 121) hx hb dX4_boundOf_113 (by decide) (fun _ => ?_) (fun c_113 => absurd (by rw [h66]; rfl) c_113)
        refine lv_iload hx hb dX4_boundOf_121 (lv_at hl 2 rfl) ?_
        refine lv_iconst (v := 1) hx hb dX4_boundOf_123 (by decide) ?_
        refine lv_iadd hx hb dX4_boundOf_124 ?_
        refine fw_i (x' := nI ((lo + hi) / 2 + 1)) (nI_1 _) ?_
        refine lv_istore (lv' := [(4, .int (nI ((lo + hi) / 2 + 1))), (5, .int (nI hi)), (7, .int (zI (pv_above (rN zf rn t) ((rN zf rn t) - (rX zf rn t)) (1000 - ((lo + hi) / 2)) lv))), (6, .int (nI ((lo + hi) / 2))), (0, .ref m0), (1, .int (nI t)), (2, .int (nI lv)), (3, .int (zI false))]) hx hb dX4_boundOf_125 hl (by decide) rfl (fun ls hl => ?_)
        refine lv_goto (tgt := 8) hx hb dX4_boundOf_127 (by decide) ?_
        exact ih_8 _ (((lo + hi) / 2) + 1, hi, d4, d5, d6) _ _ _ (by omega) ⟨rfl, by omega, hh, ha, fun i h1 => gv_no (k := 1000 - ((lo + hi) / 2)) (by omega) h66 (by omega) (by omega), hP.sub [3, 0, 1, 4, 2, 5] rfl, hD.sub [3, 0, 1, 4, 2, 5] (by decide) rfl, hS, lv_sub hl [4, 5, 6, 7, 0, 1] rfl⟩
      · -- ist
        refine lv_iload_n hx hb dX4_boundOf_60 rfl (lv_at hl 5 rfl) ?_
        refine lv_if_eq (tgt := 97) hx hb dX4_boundOf_61 (by decide) (fun _ => ?_) (fun c_61 => absurd (rfl) c_61)
        refine lv_iload hx hb dX4_boundOf_97 (lv_at hl 0 rfl) ?_
        refine lv_if_eq (tgt := 107) hx hb dX4_boundOf_99 (by decide) (fun c_99 => absurd c_99 (by rw [h66]; decide)) (fun _ => ?_)
        refine lv_iload hx hb dX4_boundOf_102 (lv_at hl 1 rfl) ?_
        refine lv_goto (tgt := 109) hx hb dX4_boundOf_104 (by decide) ?_
        refine lv_istore (lv' := [(5, .int (nI ((lo + hi) / 2))), (7, .int (zI (pv_above (rN zf rn t) ((rN zf rn t) - (rX zf rn t)) (1000 - ((lo + hi) / 2)) lv))), (6, .int (nI ((lo + hi) / 2))), (0, .ref m0), (1, .int (nI t)), (2, .int (nI lv)), (3, .int (zI false)), (4, .int (nI lo))]) hx hb dX4_boundOf_109 hl (by decide) rfl (fun ls hl => ?_)
        refine lv_iload hx hb dX4_boundOf_111 (lv_at hl 1 rfl) ?_
        refine lv_if_eq (tgt := 121) hx hb dX4_boundOf_113 (by decide) (fun c_113 => absurd c_113 (by rw [h66]; decide)) (fun _ => ?_)
        refine lv_iload hx hb dX4_boundOf_116 (lv_at hl 7 rfl) ?_
        refine lv_goto (tgt := 125) hx hb dX4_boundOf_118 (by decide) ?_
        refine lv_istore (lv' := [(4, .int (nI lo)), (5, .int (nI ((lo + hi) / 2))), (7, .int (zI (pv_above (rN zf rn t) ((rN zf rn t) - (rX zf rn t)) (1000 - ((lo + hi) / 2)) lv))), (6, .int (nI ((lo + hi) / 2))), (0, .ref m0), (1, .int (nI t)), (2, .int (nI lv)), (3, .int (zI false))]) hx hb dX4_boundOf_125 hl (by decide) rfl (fun ls hl => ?_)
        refine lv_goto (tgt := 8) hx hb dX4_boundOf_127 (by decide) ?_
        exact ih_8 _ (lo, ((lo + hi) / 2), d4, d5, d6) _ _ _ (by omega) ⟨rfl, by omega, by omega, h66, hb_, hP.sub [3, 0, 1, 4, 2, 5] rfl, hD.sub [3, 0, 1, 4, 2, 5] (by decide) rfl, hS, lv_sub hl [4, 5, 6, 7, 0, 1] rfl⟩
  · -- t
    have hN48 : (rN zf rn t) ≤ 48 := rN_le hz48
    have hXN : (rX zf rn t) ≤ (rN zf rn t) := rX_le
    refine lv_iconst (v := 0) hx hb dX4_boundOf_0 (by decide) ?_
    refine lv_istore (lv' := [(4, .int 0), (0, .ref m0), (1, .int (nI t)), (2, .int (nI lv)), (3, .int (zI true))]) hx hb dX4_boundOf_1 hl (by decide) rfl (fun ls hl => ?_)
    refine lv_sipush (v := 1000) hx hb dX4_boundOf_3 (by decide) ?_
    refine lv_istore (lv' := [(5, .int 1000), (4, .int 0), (0, .ref m0), (1, .int (nI t)), (2, .int (nI lv)), (3, .int (zI true))]) hx hb dX4_boundOf_6 hl (by decide) rfl (fun ls hl => ?_)
    refine fw_loop (σ := Nat × Nat × (Nat → Nat) × (Nat → Nat) × (Nat → Nat)) (I := fun zn u H locs ls => match u with | (lo, hi, d1, d2, d3) => zn = hi - lo ∧ (lo ≤ hi) ∧ (hi ≤ 1000) ∧ (pv_above (rN zf rn t) (rX zf rn t) lo lv = true) ∧ (∀ i, hi < i → i ≤ 1000 → pv_above (rN zf rn t) (rX zf rn t) i lv = false) ∧ va_P (dC, dI) vwCl [(m0, .inr (4, [v0, v1, v2, v3, v4, .ref pz, .ref pr, v7, v8, v9, v10, .ref su, .ref te, .ref wh])), (pz, .inl (cI, 12, .inl (fun j => nI (zf j)))), (pr, .inl (cI, 576, .inl (fun j => nI (rn j)))), (su, .inl (cJ, 48, .inr (.inl (fun j => lN (d1 j))))), (te, .inl (cJ, 48, .inr (.inl (fun j => lN (d2 j))))), (wh, .inl (cJ, 48, .inr (.inl (fun j => lN (d3 j)))))] H ∧ va_D A [(m0, .inr (4, [v0, v1, v2, v3, v4, .ref pz, .ref pr, v7, v8, v9, v10, .ref su, .ref te, .ref wh])), (pz, .inl (cI, 12, .inl (fun j => nI (zf j)))), (pr, .inl (cI, 576, .inl (fun j => nI (rn j)))), (su, .inl (cJ, 48, .inr (.inl (fun j => lN (d1 j))))), (te, .inl (cJ, 48, .inr (.inl (fun j => lN (d2 j))))), (wh, .inl (cJ, 48, .inr (.inl (fun j => lN (d3 j)))))] ∧ va_S A zs.heap H locs ∧ lv_has ls 8 [(0, .ref m0), (1, .int (nI t)), (2, .int (nI lv)), (3, .int (zI true)), (4, .int (nI lo)), (5, .int (nI hi))]) ?_ _ (0, 1000, ds, dt, dw) _ _ _ ⟨rfl, by omega, by omega, pv_above_0 (by omega), fun i h1 h2 => by omega,  hP.sub [0, 1, 2, 3, 4, 5] rfl, hD.sub [0, 1, 2, 3, 4, 5] (by decide) rfl, hS, lv_sub hl [2, 3, 4, 5, 1, 0] rfl⟩
    intro zn u H locs ls hI ih_8
    obtain ⟨lo, hi, d1, d2, d3⟩ := u
    obtain ⟨hzn, hlh, hh, ha, hb_, hP, hD, hS, hl⟩ := hI
    refine lv_iload hx hb dX4_boundOf_8 (lv_at hl 4 rfl) ?_
    refine lv_iload hx hb dX4_boundOf_10 (lv_at hl 5 rfl) ?_
    refine lv_icmp_ge (tgt := 130) hx hb dX4_boundOf_12 (by decide) (fun c_12 => ?_) (fun c_12 => ?_)
    · -- then 12
      have hend : lo = hi := by have := (nI_leI (a := hi) (b := lo) (by omega) (by omega)).mp c_12; omega
      refine lv_iload hx hb dX4_boundOf_130 (lv_at hl 4 rfl) ?_
      have hP9 := hP.sub (ws' := [(m0, .inr (4, [v0, v1, v2, v3, v4, .ref pz, .ref pr, v7, v8, v9, v10, .ref su, .ref te, .ref wh])), (pz, .inl (cI, 12, .inl (fun j => nI (zf j)))), (pr, .inl (cI, 576, .inl (fun j => nI (rn j)))), (su, .inl (cJ, 48, .inr (.inl (fun j => lN (d1 j))))), (te, .inl (cJ, 48, .inr (.inl (fun j => lN (d2 j))))), (wh, .inl (cJ, 48, .inr (.inl (fun j => lN (d3 j)))))]) [0, 1, 2, 3, 4, 5] rfl
      have hD9 := hD.sub (ws' := [(m0, .inr (4, [v0, v1, v2, v3, v4, .ref pz, .ref pr, v7, v8, v9, v10, .ref su, .ref te, .ref wh])), (pz, .inl (cI, 12, .inl (fun j => nI (zf j)))), (pr, .inl (cI, 576, .inl (fun j => nI (rn j)))), (su, .inl (cJ, 48, .inr (.inl (fun j => lN (d1 j))))), (te, .inl (cJ, 48, .inr (.inl (fun j => lN (d2 j))))), (wh, .inl (cJ, 48, .inr (.inl (fun j => lN (d3 j)))))]) [0, 1, 2, 3, 4, 5] (by decide) rfl
      have hK9 := hK.sub (tys' := [(cI, .int), (cJ, .long)]) [0, 1] rfl
      exact W.iret (v := (nI lo)) hx hb hr (fun zt zht hW => ⟨⟨(nI lo), (d1, d2, d3), rfl, ⟨lo, rfl, gv_end (by omega) ha (fun i h1 h2 => hb_ i (by omega) h2)⟩, by rw [zht]; exact hP9, va_K.moved hW.alike hK9, hD9⟩, hS.F zht⟩) hS.2.2 dX4_boundOf_132 hlocks
    · -- else 12
      have hlt : lo < hi := by
        rcases Nat.lt_or_ge lo hi with q9 | q9
        · exact q9
        · exact absurd (nI_le (a := hi) (b := lo) q9 (by omega)) c_12
      refine lv_iload_n hx hb dX4_boundOf_15 rfl (lv_at hl 3 rfl) ?_
      refine lv_if_eq (tgt := 31) hx hb dX4_boundOf_16 (by decide) (fun c_16 => absurd c_16 (by decide)) (fun _ => ?_)
      refine lv_iload hx hb dX4_boundOf_19 (lv_at hl 4 rfl) ?_
      refine lv_iload hx hb dX4_boundOf_21 (lv_at hl 5 rfl) ?_
      refine lv_iadd hx hb dX4_boundOf_23 ?_
      refine fw_i (x' := nI (lo + hi)) (nI_add _ _) ?_
      refine lv_iconst (v := 1) hx hb dX4_boundOf_24 (by decide) ?_
      refine lv_iadd hx hb dX4_boundOf_25 ?_
      refine fw_i (x' := nI (lo + hi + 1)) (nI_1 _) ?_
      refine lv_iconst (v := 2) hx hb dX4_boundOf_26 (by decide) ?_
      refine lv_idiv hx hb dX4_boundOf_27 (by decide) ?_
      refine fw_i (x' := nI ((lo + hi + 1) / 2)) (pk_div (d := 2) (by omega) (by decide) (by decide)) ?_
      refine lv_goto (tgt := 38) hx hb dX4_boundOf_28 (by decide) ?_
      refine lv_istore (lv' := [(6, .int (nI ((lo + hi + 1) / 2))), (0, .ref m0), (1, .int (nI t)), (2, .int (nI lv)), (3, .int (zI true)), (4, .int (nI lo)), (5, .int (nI hi))]) hx hb dX4_boundOf_38 hl (by decide) rfl (fun ls hl => ?_)
      refine lv_aload_n hx hb dX4_boundOf_40 rfl (lv_at hl 1 rfl) ?_
      refine lv_iload_n hx hb dX4_boundOf_41 rfl (lv_at hl 2 rfl) ?_
      refine lv_iload hx hb dX4_boundOf_42 (lv_at hl 0 rfl) ?_
      refine lv_iload_n hx hb dX4_boundOf_44 rfl (lv_at hl 4 rfl) ?_
      have hPc := hP.sub (ws' := [(m0, .inr (4, [v0, v1, v2, v3, v4, .ref pz, .ref pr, v7, v8, v9, v10, .ref su, .ref te, .ref wh])), (pz, .inl (cI, 12, .inl (fun j => nI (zf j)))), (pr, .inl (cI, 576, .inl (fun j => nI (rn j)))), (su, .inl (cJ, 48, .inr (.inl (fun j => lN (d1 j))))), (te, .inl (cJ, 48, .inr (.inl (fun j => lN (d2 j)))))]) [0, 1, 2, 3, 4] rfl
      have hKc := hK.sub (tys' := [(cI, .int), (cJ, .long)]) [0, 1] rfl
      have hDc := hD.sub (ws' := [(m0, .inr (4, [v0, v1, v2, v3, v4, .ref pz, .ref pr, v7, v8, v9, v10, .ref su, .ref te, .ref wh])), (pz, .inl (cI, 12, .inl (fun j => nI (zf j)))), (pr, .inl (cI, 576, .inl (fun j => nI (rn j)))), (su, .inl (cJ, 48, .inr (.inl (fun j => lN (d1 j))))), (te, .inl (cJ, 48, .inr (.inl (fun j => lN (d2 j)))))]) [0, 1, 2, 3, 4] (by decide) rfl
      have hFc := va_free (wc := [(m0, .inr (4, [v0, v1, v2, v3, v4, .ref pz, .ref pr, v7, v8, v9, v10, .ref su, .ref te, .ref wh])), (pz, .inl (cI, 12, .inl (fun j => nI (zf j)))), (pr, .inl (cI, 576, .inl (fun j => nI (rn j)))), (su, .inl (cJ, 48, .inr (.inl (fun j => lN (d1 j))))), (te, .inl (cJ, 48, .inr (.inl (fun j => lN (d2 j)))))]) hD hS hA [0, 1, 2, 3, 4] rfl
      refine va_callv (va_runV (As := [.int (nI t), .int (nI ((lo + hi + 1) / 2)), .int (zI true)]) (rest := []) ⟨hx, hb, hml, hown, hts⟩ (c_ref_share l dC dI m0 pz pr su te cI cJ v0 v1 v2 v3 v4 v7 v8 v9 v10 (.ref wh) zf rn d1 d2 t ((lo + hi + 1) / 2) true H.size ht hz48 hrn (by omega)) (cwV 3 hts gX4_boundOf_X4_shareOf rfl rfl rfl (by decide +kernel) ⟨Nat.le_of_ble_eq_true rfl, Nat.le_of_ble_eq_true rfl⟩) (fw_preVW hN hKc hPc hDc (ci := 4) (q0 := 0) rfl rfl) rfl rfl hl.1 rfl (lv_room (Nat.le_of_ble_eq_true rfl)) dX4_boundOf_45 ⟨Nat.le_of_ble_eq_true rfl, Nat.le_of_ble_eq_true rfl⟩) hS (fun q _ h => hFc q h) hFc (fun u zt H1 locs zht hvm hw hB hz1 hk1 hS => ?_)
      obtain ⟨e1, d5⟩ := u
      obtain ⟨ok_e1, v_e1⟩ := hw
      obtain ⟨hP1, hK1, hD1⟩ := hB
      rw [zht] at hP1
      have ok_e1 : rd_ok e1 := ok_e1
      have v_e1 : rd_v e1 48 = sh_v true (rN zf rn t) (rX zf rn t) ((lo + hi + 1) / 2) := v_e1
      obtain ⟨hP, hD⟩ := va_join (wr := [(wh, .inl (cJ, 48, .inr (.inl (fun j => lN (d3 j)))))]) (w1 := [(m0, .inr (4, [v0, v1, v2, v3, v4, .ref pz, .ref pr, v7, v8, v9, v10, .ref su, .ref te, .ref wh])), (pz, .inl (cI, 12, .inl (fun j => nI (zf j)))), (pr, .inl (cI, 576, .inl (fun j => nI (rn j)))), (su, .inl (cJ, 48, .inr (.inl (fun j => lN (e1 j))))), (te, .inl (cJ, 48, .inr (.inl (fun j => lN (d5 j)))))]) hP hD [0, 1, 2, 3, 4] [5] rfl rfl (by decide) (by decide) hk1 hFc hP1 hD1
      generalize H1 = H at hP hS ⊢
      have hP : va_P (dC, dI) vwCl [(wh, .inl (cJ, 48, .inr (.inl (fun j => lN (d3 j))))), (m0, .inr (4, [v0, v1, v2, v3, v4, .ref pz, .ref pr, v7, v8, v9, v10, .ref su, .ref te, .ref wh])), (pz, .inl (cI, 12, .inl (fun j => nI (zf j)))), (pr, .inl (cI, 576, .inl (fun j => nI (rn j)))), (su, .inl (cJ, 48, .inr (.inl (fun j => lN (e1 j))))), (te, .inl (cJ, 48, .inr (.inl (fun j => lN (d5 j)))))] H := hP
      have hD : va_D A [(wh, .inl (cJ, 48, .inr (.inl (fun j => lN (d3 j))))), (m0, .inr (4, [v0, v1, v2, v3, v4, .ref pz, .ref pr, v7, v8, v9, v10, .ref su, .ref te, .ref wh])), (pz, .inl (cI, 12, .inl (fun j => nI (zf j)))), (pr, .inl (cI, 576, .inl (fun j => nI (rn j)))), (su, .inl (cJ, 48, .inr (.inl (fun j => lN (e1 j))))), (te, .inl (cJ, 48, .inr (.inl (fun j => lN (d5 j)))))] := hD
      refine lv_aload_n hx hb dX4_boundOf_48 rfl (lv_at hl 1 rfl) ?_
      refine lv_aload_n hx hb dX4_boundOf_49 rfl (lv_at hl 1 rfl) ?_
      refine lv_iload_n hx hb dX4_boundOf_50 rfl (lv_at hl 2 rfl) ?_
      have hPc := hP.sub (ws' := [(m0, .inr (4, [v0, v1, v2, v3, v4, .ref pz, .ref pr, v7, v8, v9, v10, .ref su, .ref te, .ref wh])), (pz, .inl (cI, 12, .inl (fun j => nI (zf j)))), (pr, .inl (cI, 576, .inl (fun j => nI (rn j))))]) [1, 2, 3] rfl
      have hKc := hK.sub (tys' := [(cI, .int)]) [0] rfl
      refine vp_callSi (va_runV (As := [.int (nI t)]) (rest := [.ref m0]) ⟨hx, hb, hml, hown, hts⟩ (c_ref_throws l dC dI m0 pz pr cI v0 v1 v2 v3 v4 v7 v8 v9 v10 (.ref su) (.ref te) (.ref wh) zf rn t ht hz48 hrn) (cwV 1 hts gX4_boundOf_X4_throwsOf rfl rfl rfl (by decide +kernel) ⟨Nat.le_of_ble_eq_true rfl, Nat.le_of_ble_eq_true rfl⟩) (fw_preVR hN hKc hPc (ci := 4) (q0 := 0) rfl rfl) rfl rfl hl.1 rfl (lv_room (Nat.le_of_ble_eq_true rfl)) dX4_boundOf_51 ⟨Nat.le_of_ble_eq_true rfl, Nat.le_of_ble_eq_true rfl⟩).run (fun r_51 hr_51 => ?_)
      obtain rfl : r_51 = nI (rN zf rn t) := hr_51
      refine lv_iload_n hx hb dX4_boundOf_54 rfl (lv_at hl 3 rfl) ?_
      have hPc := hP.sub (ws' := [(m0, .inr (4, [v0, v1, v2, v3, v4, .ref pz, .ref pr, v7, v8, v9, v10, .ref su, .ref te, .ref wh])), (su, .inl (cJ, 48, .inr (.inl (fun j => lN (e1 j))))), (wh, .inl (cJ, 48, .inr (.inl (fun j => lN (d3 j)))))]) [1, 4, 0] rfl
      have hKc := hK.sub (tys' := [(cJ, .long)]) [1] rfl
      have hDc := hD.sub (ws' := [(m0, .inr (4, [v0, v1, v2, v3, v4, .ref pz, .ref pr, v7, v8, v9, v10, .ref su, .ref te, .ref wh])), (su, .inl (cJ, 48, .inr (.inl (fun j => lN (e1 j))))), (wh, .inl (cJ, 48, .inr (.inl (fun j => lN (d3 j)))))]) [1, 4, 0] (by decide) rfl
      have hFc := va_free (wc := [(m0, .inr (4, [v0, v1, v2, v3, v4, .ref pz, .ref pr, v7, v8, v9, v10, .ref su, .ref te, .ref wh])), (su, .inl (cJ, 48, .inr (.inl (fun j => lN (e1 j))))), (wh, .inl (cJ, 48, .inr (.inl (fun j => lN (d3 j)))))]) hD hS hA [1, 4, 0] rfl
      refine va_calli (va_runV (As := [.int (nI (rN zf rn t)), .int (nI lv)]) (rest := []) ⟨hx, hb, hml, hown, hts⟩ (c_ref_level l dC dI m0 su wh cJ v0 v1 v2 v3 v4 (.ref pz) (.ref pr) v7 v8 v9 v10 (.ref te) e1 d3 (rN zf rn t) lv H.size ok_e1 hN48 (by omega) (by rw [v_e1]; exact sh_le (by omega))) (cwV 2 hts gX4_boundOf_X4_isAboveLevel rfl rfl rfl (by decide +kernel) ⟨Nat.le_of_ble_eq_true rfl, Nat.le_of_ble_eq_true rfl⟩) (fw_preVW hN hKc hPc hDc (ci := 4) (q0 := 0) rfl rfl) rfl rfl hl.1 rfl (lv_room (Nat.le_of_ble_eq_true rfl)) dX4_boundOf_55 ⟨Nat.le_of_ble_eq_true rfl, Nat.le_of_ble_eq_true rfl⟩) hS (fun q _ h => hFc q h) hFc (fun r_55 u zt H1 locs zht hvm hw hB hz1 hk1 hS => ?_)
      obtain ⟨d4, d6⟩ := u
      obtain ⟨hP1, hK1, hD1⟩ := hB
      rw [zht] at hP1
      obtain ⟨hP, hD⟩ := va_join (wr := [(pz, .inl (cI, 12, .inl (fun j => nI (zf j)))), (pr, .inl (cI, 576, .inl (fun j => nI (rn j)))), (te, .inl (cJ, 48, .inr (.inl (fun j => lN (d5 j)))))]) (w1 := [(m0, .inr (4, [v0, v1, v2, v3, v4, .ref pz, .ref pr, v7, v8, v9, v10, .ref su, .ref te, .ref wh])), (su, .inl (cJ, 48, .inr (.inl (fun j => lN (d4 j))))), (wh, .inl (cJ, 48, .inr (.inl (fun j => lN (d6 j)))))]) hP hD [1, 4, 0] [2, 3, 5] rfl rfl (by decide) (by decide) hk1 hFc hP1 hD1
      generalize H1 = H at hP hS ⊢
      have hP : va_P (dC, dI) vwCl [(pz, .inl (cI, 12, .inl (fun j => nI (zf j)))), (pr, .inl (cI, 576, .inl (fun j => nI (rn j)))), (te, .inl (cJ, 48, .inr (.inl (fun j => lN (d5 j))))), (m0, .inr (4, [v0, v1, v2, v3, v4, .ref pz, .ref pr, v7, v8, v9, v10, .ref su, .ref te, .ref wh])), (su, .inl (cJ, 48, .inr (.inl (fun j => lN (d4 j))))), (wh, .inl (cJ, 48, .inr (.inl (fun j => lN (d6 j)))))] H := hP
      have hD : va_D A [(pz, .inl (cI, 12, .inl (fun j => nI (zf j)))), (pr, .inl (cI, 576, .inl (fun j => nI (rn j)))), (te, .inl (cJ, 48, .inr (.inl (fun j => lN (d5 j))))), (m0, .inr (4, [v0, v1, v2, v3, v4, .ref pz, .ref pr, v7, v8, v9, v10, .ref su, .ref te, .ref wh])), (su, .inl (cJ, 48, .inr (.inl (fun j => lN (d4 j))))), (wh, .inl (cJ, 48, .inr (.inl (fun j => lN (d6 j)))))] := hD
      obtain rfl : r_55 = zI (pv_above (rN zf rn t) (rX zf rn t) ((lo + hi + 1) / 2) lv) := by rw [hw, v_e1]; rfl
      refine lv_istore (lv' := [(7, .int (zI (pv_above (rN zf rn t) (rX zf rn t) ((lo + hi + 1) / 2) lv))), (6, .int (nI ((lo + hi + 1) / 2))), (0, .ref m0), (1, .int (nI t)), (2, .int (nI lv)), (3, .int (zI true)), (4, .int (nI lo)), (5, .int (nI hi))]) hx hb dX4_boundOf_58 hl (by decide) rfl (fun ls hl => ?_)
      cases h66 : pv_above (rN zf rn t) (rX zf rn t) ((lo + hi + 1) / 2) lv
      · -- isf
        refine lv_iload_n hx hb dX4_boundOf_60 rfl (lv_at hl 5 rfl) ?_
        refine lv_if_eq (tgt := 97) hx hb dX4_boundOf_61 (by decide) (fun c_61 => absurd c_61 (by decide)) (fun _ => ?_)
        refine lv_iload hx hb dX4_boundOf_64 (lv_at hl 0 rfl) ?_
        refine lv_if_eq (tgt := 74) hx hb dX4_boundOf_66 (by decide) (fun _ => ?_) (fun c_66 => absurd (by rw [h66]; rfl) c_66)
        refine lv_iload hx hb dX4_boundOf_74 (lv_at hl 6 rfl) ?_
        refine lv_istore (lv' := [(4, .int (nI lo)), (7, .int (zI (pv_above (rN zf rn t) (rX zf rn t) ((lo + hi + 1) / 2) lv))), (6, .int (nI ((lo + hi + 1) / 2))), (0, .ref m0), (1, .int (nI t)), (2, .int (nI lv)), (3, .int (zI true)), (5, .int (nI hi))]) hx hb dX4_boundOf_76 hl (by decide) rfl (fun ls hl => ?_)
        refine lv_iload hx hb dX4_boundOf_78 (lv_at hl 1 rfl) ?_
        refine lv_if_eq (tgt := 88) hx hb dX4_boundOf_80 (by decide) (fun _ => ?_) (fun c_80 => absurd (by rw [h66]; rfl) c_80)
        refine lv_iload hx hb dX4_boundOf_88 (lv_at hl 2 rfl) ?_
        refine lv_iconst (v := 1) hx hb dX4_boundOf_90 (by decide) ?_
        refine lv_isub hx hb dX4_boundOf_91 ?_
        refine fw_i (x' := nI ((lo + hi + 1) / 2 - 1)) (pk_sub (b := 1) (by omega)) ?_
        refine lv_istore (lv' := [(5, .int (nI ((lo + hi + 1) / 2 - 1))), (4, .int (nI lo)), (7, .int (zI (pv_above (rN zf rn t) (rX zf rn t) ((lo + hi + 1) / 2) lv))), (6, .int (nI ((lo + hi + 1) / 2))), (0, .ref m0), (1, .int (nI t)), (2, .int (nI lv)), (3, .int (zI true))]) hx hb dX4_boundOf_92 hl (by decide) rfl (fun ls hl => ?_)
        refine lv_goto (tgt := 127) hx hb dX4_boundOf_94 (by decide) ?_
        refine lv_goto (tgt := 8) hx hb dX4_boundOf_127 (by decide) ?_
        exact ih_8 _ (lo, ((lo + hi + 1) / 2) - 1, d4, d5, d6) _ _ _ (by omega) ⟨rfl, by omega, by omega, ha, fun i h1 h2 => gv_no (by omega) h66 (by omega) h2, hP.sub [3, 0, 1, 4, 2, 5] rfl, hD.sub [3, 0, 1, 4, 2, 5] (by decide) rfl, hS, lv_sub hl [4, 5, 6, 7, 1, 0] rfl⟩
      · -- ist
        refine lv_iload_n hx hb dX4_boundOf_60 rfl (lv_at hl 5 rfl) ?_
        refine lv_if_eq (tgt := 97) hx hb dX4_boundOf_61 (by decide) (fun c_61 => absurd c_61 (by decide)) (fun _ => ?_)
        refine lv_iload hx hb dX4_boundOf_64 (lv_at hl 0 rfl) ?_
        refine lv_if_eq (tgt := 74) hx hb dX4_boundOf_66 (by decide) (fun c_66 => absurd c_66 (by rw [h66]; decide)) (fun _ => ?_)
        refine lv_iload hx hb dX4_boundOf_69 (lv_at hl 1 rfl) ?_
        refine lv_goto (tgt := 76) hx hb dX4_boundOf_71 (by decide) ?_
        refine lv_istore (lv' := [(4, .int (nI ((lo + hi + 1) / 2))), (7, .int (zI (pv_above (rN zf rn t) (rX zf rn t) ((lo + hi + 1) / 2) lv))), (6, .int (nI ((lo + hi + 1) / 2))), (0, .ref m0), (1, .int (nI t)), (2, .int (nI lv)), (3, .int (zI true)), (5, .int (nI hi))]) hx hb dX4_boundOf_76 hl (by decide) rfl (fun ls hl => ?_)
        refine lv_iload hx hb dX4_boundOf_78 (lv_at hl 1 rfl) ?_
        refine lv_if_eq (tgt := 88) hx hb dX4_boundOf_80 (by decide) (fun c_80 => absurd c_80 (by rw [h66]; decide)) (fun _ => ?_)
        refine lv_iload hx hb dX4_boundOf_83 (lv_at hl 7 rfl) ?_
        refine lv_goto (tgt := 92) hx hb dX4_boundOf_85 (by decide) ?_
        refine lv_istore (lv' := [(5, .int (nI hi)), (4, .int (nI ((lo + hi + 1) / 2))), (7, .int (zI (pv_above (rN zf rn t) (rX zf rn t) ((lo + hi + 1) / 2) lv))), (6, .int (nI ((lo + hi + 1) / 2))), (0, .ref m0), (1, .int (nI t)), (2, .int (nI lv)), (3, .int (zI true))]) hx hb dX4_boundOf_92 hl (by decide) rfl (fun ls hl => ?_)
        refine lv_goto (tgt := 127) hx hb dX4_boundOf_94 (by decide) ?_
        refine lv_goto (tgt := 8) hx hb dX4_boundOf_127 (by decide) ?_
        exact ih_8 _ (((lo + hi + 1) / 2), hi, d4, d5, d6) _ _ _ (by omega) ⟨rfl, by omega, hh, h66, hb_, hP.sub [3, 0, 1, 4, 2, 5] rfl, hD.sub [3, 0, 1, 4, 2, 5] (by decide) rfl, hS, lv_sub hl [4, 5, 6, 7, 1, 0] rfl⟩
