set_option maxHeartbeats 4000000 in
set_option maxRecDepth 100000 in
theorem c_cha_init (l : Launch) (dC : Nat → ClassId) (dI : Nat → Nat → Nat) (c0 : Nat) (sz : Nat)  : Met l yX0_init wsX0_init ({ frames := 2, cells := 4, slots := 36, locals := 32 } : Room) (va_Pc [.ref c0] (fw_pW (dC, dI) vwCl [] [(c0, .inr (0, [.null, .null]))] sz)) (va_Qv (S := Nat × Nat × Nat × Nat × ClassId) (fun _ => True) (fun u t => match u with | (s0, sa, t0, ta, cJ) => fw_q (dC, dI) vwCl [(cJ, .long)] (va_A [(c0, .inr (0, [.null, .null]))] sz) [(c0, .inr (0, [.ref s0, .ref t0])), (s0, .inr (1, [.ref sa])), (sa, .inl (cJ, 17, .inr (.inl (fun j => lN ((fun _ : Nat => 0) j))))), (t0, .inr (1, [.ref ta])), (ta, .inl (cJ, 17, .inr (.inl (fun j => lN ((fun _ : Nat => 0) j)))))] t) (va_A [(c0, .inr (0, [.null, .null]))] sz)) 4 36 (va_A [(c0, .inr (0, [.null, .null]))] sz) := by
  refine fw_metW (cc := cX0_init) (maxL := 1) (ret := none) (by decide) rfl (Nat.le_of_ble_eq_true rfl) ?_
  intro zp ze zs zm zbelow zmeth zc ls hx hb hr hts hown hlocks hml hin hN hsz hP hK hD hA hS hl
  generalize hAe : (va_A [(c0, .inr (0, [.null, .null]))] sz) = A at hD hA hS ⊢
  have hown : zs.vm.findClass RX0 = some zm.cls := hown
  have hin : zmeth.name = "<init>" := hin
  have hl : lv_has ls 1 [(0, .ref c0)] := hl
  refine lv_aload_n hx hb dX0_init_0 rfl (lv_at hl 0 rfl) ?_
  refine W.objInit hx hb hown (hts (.methodLink RX0 3 objectInit) (by decide +kernel)) (hts (.instanceMethod objectInit) (by decide +kernel)) (hts _ (by decide +kernel)) rfl (by rw [hml]; exact hl.1) rfl dX0_init_1 (Nat.le_of_ble_eq_true rfl) (Nat.le_of_ble_eq_true rfl) ?_
  refine W.eq (g2 := F0 zm 4 ls []) rfl ?_
  refine lv_aload_n hx hb dX0_init_4 rfl (lv_at hl 0 rfl) ?_
  refine va_new (ci := 1) (fs := [.null]) (C := RX1) (T := TX1) (N := 1) hx hb hts (by decide +kernel) tyX1 tyX1_ok hown (hts (.classLink RX0 9 RX1) (by decide +kernel)) (hts (.instantiable RX1 1) (by decide +kernel)) (hts (.initialized RX1) (by decide +kernel)) hK hP hD hS hA rfl (by decide) (Nat.le_of_ble_eq_true rfl) (Nat.le_of_ble_eq_true rfl) dX0_init_5 (fun q5 H hP hD hS => ?_)
  have hP : va_P (dC, dI) vwCl [(c0, .inr (0, [.null, .null])), (q5, .inr (1, [.null]))] H := hP
  have hD : va_D A [(c0, .inr (0, [.null, .null])), (q5, .inr (1, [.null]))] := hD
  refine W.widen (k := 1) (n := 1) (by decide) (by decide) ?_
  refine lv_dup hx hb dX0_init_8 rfl ?_
  have hPc := hP.sub (ws' := [(q5, .inr (1, [.null]))]) [1] rfl
  have hKc := hK.sub (tys' := []) [] rfl
  have hDc := hD.sub (ws' := [(q5, .inr (1, [.null]))]) [1] (by decide) rfl
  have hFc := va_free (wc := [(q5, .inr (1, [.null]))]) hD hS hA [1] rfl
  refine va_callv (va_runI (As := []) (rest := [.ref q5, .ref c0]) ⟨hx, hb, hml, hown, hts⟩ (c_dec_init l dC dI q5 H.size) (cwI 0 hts gX0_init_X1_init rfl rfl rfl (hts (.initialized RX1) (by decide +kernel)) (hts (.methodLink RX0 11 yX1_init) (by decide +kernel)) (hts (.instanceMethod yX1_init) (by decide +kernel)) rfl (by decide +kernel) ⟨Nat.le_of_ble_eq_true rfl, Nat.le_of_ble_eq_true rfl⟩) (fw_preSW hN hKc hPc hDc) rfl rfl hl.1 rfl (lv_room (Nat.le_of_ble_eq_true rfl)) dX0_init_9 ⟨Nat.le_of_ble_eq_true rfl, Nat.le_of_ble_eq_true rfl⟩) hS (fun q _ h => hFc q h) hFc (fun u zt H1 locs zht hvm hw hB hz1 hk1 hS => ?_)
  obtain ⟨a9, cJ9⟩ := u
  obtain ⟨hP1, hK1, hD1⟩ := hB
  rw [zht] at hP1
  obtain ⟨hP, hD⟩ := va_join (wr := [(c0, .inr (0, [.null, .null]))]) (w1 := [(q5, .inr (1, [.ref a9])), (a9, .inl (cJ9, 17, .inr (.inl (fun _ => 0))))]) hP hD [1] [0] rfl rfl (by decide) (by decide) hk1 hFc hP1 hD1
  have hK := hK.app (va_K.moved hvm.symm hK1)
  have hK : va_K (dC, dI) vwCl [(cJ9, .long)] zs := hK
  generalize H1 = H at hP hS ⊢
  have hP : va_P (dC, dI) vwCl [(c0, .inr (0, [.null, .null])), (q5, .inr (1, [.ref a9])), (a9, .inl (cJ9, 17, .inr (.inl (fun _ => 0))))] H := hP
  have hD : va_D A [(c0, .inr (0, [.null, .null])), (q5, .inr (1, [.ref a9])), (a9, .inl (cJ9, 17, .inr (.inl (fun _ => 0))))] := hD
  refine W.widen (k := 2) (n := 18) (by decide) (by decide) ?_
  refine va_putF (D := (dC, dI)) (ci := 0) (v := .ref q5) (ty := (.object "FlakyBounds$Decimal")) (C := RX0) (T := TX0) (N := 2) hx hb hts (by decide +kernel) tyX0 tyX0_ok nmX0 hown hK hP hD hS 0 rfl rfl 0 (by decide) (hts (.fieldLink RX0 12 "FlakyBounds$Chance" "sum" "LFlakyBounds$Decimal;") (by decide +kernel)) (fun _ h9 => h9) rfl hin rfl (by decide +kernel) rfl rfl (Nat.le_of_ble_eq_true rfl) dX0_init_12 (fun H locs hP hD hS => ?_)
  have hP : va_P (dC, dI) vwCl [(c0, .inr (0, [.ref q5, .null])), (q5, .inr (1, [.ref a9])), (a9, .inl (cJ9, 17, .inr (.inl (fun _ => 0))))] H := hP
  have hD : va_D A [(c0, .inr (0, [.ref q5, .null])), (q5, .inr (1, [.ref a9])), (a9, .inl (cJ9, 17, .inr (.inl (fun _ => 0))))] := hD
  refine lv_aload_n hx hb dX0_init_15 rfl (lv_at hl 0 rfl) ?_
  refine va_new (ci := 1) (fs := [.null]) (C := RX1) (T := TX1) (N := 1) hx hb hts (by decide +kernel) tyX1 tyX1_ok hown (hts (.classLink RX0 9 RX1) (by decide +kernel)) (hts (.instantiable RX1 1) (by decide +kernel)) (hts (.initialized RX1) (by decide +kernel)) hK hP hD hS hA rfl (by decide) (Nat.le_of_ble_eq_true rfl) (Nat.le_of_ble_eq_true rfl) dX0_init_16 (fun q16 H hP hD hS => ?_)
  have hP : va_P (dC, dI) vwCl [(c0, .inr (0, [.ref q5, .null])), (q5, .inr (1, [.ref a9])), (a9, .inl (cJ9, 17, .inr (.inl (fun _ => 0)))), (q16, .inr (1, [.null]))] H := hP
  have hD : va_D A [(c0, .inr (0, [.ref q5, .null])), (q5, .inr (1, [.ref a9])), (a9, .inl (cJ9, 17, .inr (.inl (fun _ => 0)))), (q16, .inr (1, [.null]))] := hD
  refine W.widen (k := 3) (n := 19) (by decide) (by decide) ?_
  refine lv_dup hx hb dX0_init_19 rfl ?_
  have hPc := hP.sub (ws' := [(q16, .inr (1, [.null]))]) [3] rfl
  have hKc := hK.sub (tys' := []) [] rfl
  have hDc := hD.sub (ws' := [(q16, .inr (1, [.null]))]) [3] (by decide) rfl
  have hFc := va_free (wc := [(q16, .inr (1, [.null]))]) hD hS hA [3] rfl
  refine va_callv (va_runI (As := []) (rest := [.ref q16, .ref c0]) ⟨hx, hb, hml, hown, hts⟩ (c_dec_init l dC dI q16 H.size) (cwI 0 hts gX0_init_X1_init rfl rfl rfl (hts (.initialized RX1) (by decide +kernel)) (hts (.methodLink RX0 11 yX1_init) (by decide +kernel)) (hts (.instanceMethod yX1_init) (by decide +kernel)) rfl (by decide +kernel) ⟨Nat.le_of_ble_eq_true rfl, Nat.le_of_ble_eq_true rfl⟩) (fw_preSW hN hKc hPc hDc) rfl rfl hl.1 rfl (lv_room (Nat.le_of_ble_eq_true rfl)) dX0_init_20 ⟨Nat.le_of_ble_eq_true rfl, Nat.le_of_ble_eq_true rfl⟩) hS (fun q _ h => hFc q h) hFc (fun u zt H1 locs zht hvm hw hB hz1 hk1 hS => ?_)
  obtain ⟨a20, cJ20⟩ := u
  obtain ⟨hP1, hK1, hD1⟩ := hB
  rw [zht] at hP1
  obtain ⟨hP, hD⟩ := va_join (wr := [(c0, .inr (0, [.ref q5, .null])), (q5, .inr (1, [.ref a9])), (a9, .inl (cJ9, 17, .inr (.inl (fun _ => 0))))]) (w1 := [(q16, .inr (1, [.ref a20])), (a20, .inl (cJ20, 17, .inr (.inl (fun _ => 0))))]) hP hD [3] [0, 1, 2] rfl rfl (by decide) (by decide) hk1 hFc hP1 hD1
  have hK := hK.app (va_K.moved hvm.symm hK1)
  have hK : va_K (dC, dI) vwCl [(cJ9, .long), (cJ20, .long)] zs := hK
  generalize H1 = H at hP hS ⊢
  have hP : va_P (dC, dI) vwCl [(c0, .inr (0, [.ref q5, .null])), (q5, .inr (1, [.ref a9])), (a9, .inl (cJ9, 17, .inr (.inl (fun _ => 0)))), (q16, .inr (1, [.ref a20])), (a20, .inl (cJ20, 17, .inr (.inl (fun _ => 0))))] H := hP
  have hD : va_D A [(c0, .inr (0, [.ref q5, .null])), (q5, .inr (1, [.ref a9])), (a9, .inl (cJ9, 17, .inr (.inl (fun _ => 0)))), (q16, .inr (1, [.ref a20])), (a20, .inl (cJ20, 17, .inr (.inl (fun _ => 0))))] := hD
  refine W.widen (k := 4) (n := 36) (by decide) (by decide) ?_
  refine va_putF (D := (dC, dI)) (ci := 0) (v := .ref q16) (ty := (.object "FlakyBounds$Decimal")) (C := RX0) (T := TX0) (N := 2) hx hb hts (by decide +kernel) tyX0 tyX0_ok nmX0 hown hK hP hD hS 0 rfl rfl 1 (by decide) (hts (.fieldLink RX0 18 "FlakyBounds$Chance" "term" "LFlakyBounds$Decimal;") (by decide +kernel)) (fun _ h9 => h9) rfl hin rfl (by decide +kernel) rfl rfl (Nat.le_of_ble_eq_true rfl) dX0_init_23 (fun H locs hP hD hS => ?_)
  have hP : va_P (dC, dI) vwCl [(c0, .inr (0, [.ref q5, .ref q16])), (q5, .inr (1, [.ref a9])), (a9, .inl (cJ9, 17, .inr (.inl (fun _ => 0)))), (q16, .inr (1, [.ref a20])), (a20, .inl (cJ20, 17, .inr (.inl (fun _ => 0))))] H := hP
  have hD : va_D A [(c0, .inr (0, [.ref q5, .ref q16])), (q5, .inr (1, [.ref a9])), (a9, .inl (cJ9, 17, .inr (.inl (fun _ => 0)))), (q16, .inr (1, [.ref a20])), (a20, .inl (cJ20, 17, .inr (.inl (fun _ => 0))))] := hD
  have ej : cJ20 = cJ9 := Option.some.inj ((va_nm_long (hK.2 1 _ rfl).2).symm.trans (va_nm_long (hK.2 0 _ rfl).2))
  rw [ej] at hP hD hK
  have hP9 := hP.sub (ws' := [(c0, .inr (0, [.ref q5, .ref q16])), (q5, .inr (1, [.ref a9])), (a9, .inl (cJ9, 17, .inr (.inl (fun j => lN ((fun _ : Nat => 0) j))))), (q16, .inr (1, [.ref a20])), (a20, .inl (cJ9, 17, .inr (.inl (fun j => lN ((fun _ : Nat => 0) j)))))]) [0, 1, 2, 3, 4] rfl
  have hD9 := hD.sub (ws' := [(c0, .inr (0, [.ref q5, .ref q16])), (q5, .inr (1, [.ref a9])), (a9, .inl (cJ9, 17, .inr (.inl (fun j => lN ((fun _ : Nat => 0) j))))), (q16, .inr (1, [.ref a20])), (a20, .inl (cJ9, 17, .inr (.inl (fun j => lN ((fun _ : Nat => 0) j)))))]) [0, 1, 2, 3, 4] (by decide) rfl
  have hK9 := hK.sub (tys' := [(cJ9, .long)]) [0] rfl
  exact W.vret hx hb hr (fun zt zht hW => ⟨⟨(q5, a9, q16, a20, cJ9), rfl, trivial, by rw [zht]; exact hP9, va_K.moved hW.alike hK9, hD9⟩, hS.F zht⟩) hS.2.2 dX0_init_26 hlocks
set_option maxHeartbeats 4000000 in
set_option maxRecDepth 100000 in
theorem c_cha_upto (l : Launch) (dC : Nat → ClassId) (dI : Nat → Nat → Nat) (c0 s0 sa t0 ta : Nat) (cJ : ClassId) (ds dt : Nat → Nat) (n m h : Nat) (sz : Nat) (hn48 : n ≤ 48) (hmn : m ≤ n) (hh : h ≤ 1000) : Met l yX0_upTo wsX0_upTo ({ frames := 1, cells := 0, slots := 0, locals := 26 } : Room) (va_Pc [.ref c0, .int (nI n), .int (nI m), .int (nI h)] (fw_pW (dC, dI) vwCl [(cJ, .long)] [(c0, .inr (0, [.ref s0, .ref t0])), (s0, .inr (1, [.ref sa])), (sa, .inl (cJ, 17, .inr (.inl (fun j => lN (ds j))))), (t0, .inr (1, [.ref ta])), (ta, .inl (cJ, 17, .inr (.inl (fun j => lN (dt j)))))] sz)) (va_Qr (S := (Nat → Nat) × (Nat → Nat)) (fun u => pd_ok u.1 ∧ pd_v u.1 17 = pm_G n h n m * 1000 ^ (48 - n)) (fun u a t => a = s0 ∧ fw_q (dC, dI) vwCl [(cJ, .long)] (va_A [(c0, .inr (0, [.ref s0, .ref t0])), (s0, .inr (1, [.ref sa])), (sa, .inl (cJ, 17, .inr (.inl (fun j => lN (ds j))))), (t0, .inr (1, [.ref ta])), (ta, .inl (cJ, 17, .inr (.inl (fun j => lN (dt j)))))] sz) [(c0, .inr (0, [.ref s0, .ref t0])), (s0, .inr (1, [.ref sa])), (sa, .inl (cJ, 17, .inr (.inl (fun j => lN (u.1 j))))), (t0, .inr (1, [.ref ta])), (ta, .inl (cJ, 17, .inr (.inl (fun j => lN (u.2 j)))))] t) (va_A [(c0, .inr (0, [.ref s0, .ref t0])), (s0, .inr (1, [.ref sa])), (sa, .inl (cJ, 17, .inr (.inl (fun j => lN (ds j))))), (t0, .inr (1, [.ref ta])), (ta, .inl (cJ, 17, .inr (.inl (fun j => lN (dt j)))))] sz)) 0 0 (va_A [(c0, .inr (0, [.ref s0, .ref t0])), (s0, .inr (1, [.ref sa])), (sa, .inl (cJ, 17, .inr (.inl (fun j => lN (ds j))))), (t0, .inr (1, [.ref ta])), (ta, .inl (cJ, 17, .inr (.inl (fun j => lN (dt j)))))] sz) := by
  refine fw_metW (cc := cX0_upTo) (maxL := 6) (ret := (some (.object "FlakyBounds$Decimal"))) (by decide) rfl (Nat.le_of_ble_eq_true rfl) ?_
  intro zp ze zs zm zbelow zmeth zc ls hx hb hr hts hown hlocks hml hin hN hsz hP hK hD hA hS hl
  generalize hAe : (va_A [(c0, .inr (0, [.ref s0, .ref t0])), (s0, .inr (1, [.ref sa])), (sa, .inl (cJ, 17, .inr (.inl (fun j => lN (ds j))))), (t0, .inr (1, [.ref ta])), (ta, .inl (cJ, 17, .inr (.inl (fun j => lN (dt j)))))] sz) = A at hD hA hS ⊢
  have hown : zs.vm.findClass RX0 = some zm.cls := hown
  have hl : lv_has ls 6 [(0, .ref c0), (1, .int (nI n)), (2, .int (nI m)), (3, .int (nI h))] := hl
  refine lv_sipush (v := 1000) hx hb dX0_upTo_0 (by decide) ?_
  refine lv_iload_n hx hb dX0_upTo_3 rfl (lv_at hl 3 rfl) ?_
  refine lv_isub hx hb dX0_upTo_4 ?_
  refine fw_i (x' := nI (1000 - h)) (pk_sub (a := 1000) hh) ?_
  refine lv_istore (lv' := [(4, .int (nI (1000 - h))), (0, .ref c0), (1, .int (nI n)), (2, .int (nI m)), (3, .int (nI h))]) hx hb dX0_upTo_5 hl (by decide) rfl (fun ls hl => ?_)
  refine lv_aload_n hx hb dX0_upTo_7 rfl (lv_at hl 1 rfl) ?_
  refine va_get (D := (dC, dI)) (ci := 0) (v := .ref s0) (C := RX0) (T := TX0) (N := 2) hx hb hts (by decide +kernel) hown hK hP 0 rfl rfl 0 (by decide) (hts (.fieldLink RX0 12 "FlakyBounds$Chance" "sum" "LFlakyBounds$Decimal;") (by decide +kernel)) (fun _ h9 => h9) rfl dX0_upTo_8 ?_
  refine lv_iload_n hx hb dX0_upTo_11 rfl (lv_at hl 2 rfl) ?_
  have hPc := hP.sub (ws' := [(s0, .inr (1, [.ref sa])), (sa, .inl (cJ, 17, .inr (.inl (fun j => lN (ds j)))))]) [1, 2] rfl
  have hKc := hK.sub (tys' := [(cJ, .long)]) [0] rfl
  have hDc := hD.sub (ws' := [(s0, .inr (1, [.ref sa])), (sa, .inl (cJ, 17, .inr (.inl (fun j => lN (ds j)))))]) [1, 2] (by decide) rfl
  have hFc := va_free (wc := [(s0, .inr (1, [.ref sa])), (sa, .inl (cJ, 17, .inr (.inl (fun j => lN (ds j)))))]) hD hS hA [1, 2] rfl
  refine va_callv (va_runV (As := [.int (nI n)]) (rest := []) ⟨hx, hb, hml, hown, hts⟩ (c_dec_set l dC dI s0 sa cJ ds n zs.heap.size hn48) (cwV 1 hts gX0_upTo_X1_setThousandths rfl rfl rfl (by decide +kernel) ⟨Nat.le_of_ble_eq_true rfl, Nat.le_of_ble_eq_true rfl⟩) (fw_preVW hN hKc hPc hDc (ci := 1) (q0 := 0) rfl rfl) rfl rfl hl.1 rfl (lv_room (Nat.le_of_ble_eq_true rfl)) dX0_upTo_12 ⟨Nat.le_of_ble_eq_true rfl, Nat.le_of_ble_eq_true rfl⟩) hS (fun q _ h => hFc q h) hFc (fun e1 zt H1 locs zht hvm hw hB hz1 hk1 hS => ?_)
  obtain ⟨ok_e1, v_e1⟩ := hw
  obtain ⟨hP1, hK1, hD1⟩ := hB
  rw [zht] at hP1
  obtain ⟨hP, hD⟩ := va_join (wr := [(c0, .inr (0, [.ref s0, .ref t0])), (t0, .inr (1, [.ref ta])), (ta, .inl (cJ, 17, .inr (.inl (fun j => lN (dt j)))))]) (w1 := [(s0, .inr (1, [.ref sa])), (sa, .inl (cJ, 17, .inr (.inl (fun j => lN (e1 j)))))]) hP hD [1, 2] [0, 3, 4] rfl rfl (by decide) (by decide) hk1 hFc hP1 hD1
  generalize H1 = H at hP hS ⊢
  have hP : va_P (dC, dI) vwCl [(c0, .inr (0, [.ref s0, .ref t0])), (t0, .inr (1, [.ref ta])), (ta, .inl (cJ, 17, .inr (.inl (fun j => lN (dt j))))), (s0, .inr (1, [.ref sa])), (sa, .inl (cJ, 17, .inr (.inl (fun j => lN (e1 j)))))] H := hP
  have hD : va_D A [(c0, .inr (0, [.ref s0, .ref t0])), (t0, .inr (1, [.ref ta])), (ta, .inl (cJ, 17, .inr (.inl (fun j => lN (dt j))))), (s0, .inr (1, [.ref sa])), (sa, .inl (cJ, 17, .inr (.inl (fun j => lN (e1 j)))))] := hD
  refine lv_aload_n hx hb dX0_upTo_15 rfl (lv_at hl 1 rfl) ?_
  refine va_get (D := (dC, dI)) (ci := 0) (v := .ref t0) (C := RX0) (T := TX0) (N := 2) hx hb hts (by decide +kernel) hown hK hP 0 rfl rfl 1 (by decide) (hts (.fieldLink RX0 18 "FlakyBounds$Chance" "term" "LFlakyBounds$Decimal;") (by decide +kernel)) (fun _ h9 => h9) rfl dX0_upTo_16 ?_
  refine lv_iload_n hx hb dX0_upTo_19 rfl (lv_at hl 2 rfl) ?_
  have hPc := hP.sub (ws' := [(t0, .inr (1, [.ref ta])), (ta, .inl (cJ, 17, .inr (.inl (fun j => lN (dt j)))))]) [1, 2] rfl
  have hKc := hK.sub (tys' := [(cJ, .long)]) [0] rfl
  have hDc := hD.sub (ws' := [(t0, .inr (1, [.ref ta])), (ta, .inl (cJ, 17, .inr (.inl (fun j => lN (dt j)))))]) [1, 2] (by decide) rfl
  have hFc := va_free (wc := [(t0, .inr (1, [.ref ta])), (ta, .inl (cJ, 17, .inr (.inl (fun j => lN (dt j)))))]) hD hS hA [1, 2] rfl
  refine va_callv (va_runV (As := [.int (nI n)]) (rest := []) ⟨hx, hb, hml, hown, hts⟩ (c_dec_set l dC dI t0 ta cJ dt n H.size hn48) (cwV 1 hts gX0_upTo_X1_setThousandths rfl rfl rfl (by decide +kernel) ⟨Nat.le_of_ble_eq_true rfl, Nat.le_of_ble_eq_true rfl⟩) (fw_preVW hN hKc hPc hDc (ci := 1) (q0 := 0) rfl rfl) rfl rfl hl.1 rfl (lv_room (Nat.le_of_ble_eq_true rfl)) dX0_upTo_20 ⟨Nat.le_of_ble_eq_true rfl, Nat.le_of_ble_eq_true rfl⟩) hS (fun q _ h => hFc q h) hFc (fun e2 zt H1 locs zht hvm hw hB hz1 hk1 hS => ?_)
  obtain ⟨ok_e2, v_e2⟩ := hw
  obtain ⟨hP1, hK1, hD1⟩ := hB
  rw [zht] at hP1
  obtain ⟨hP, hD⟩ := va_join (wr := [(c0, .inr (0, [.ref s0, .ref t0])), (s0, .inr (1, [.ref sa])), (sa, .inl (cJ, 17, .inr (.inl (fun j => lN (e1 j)))))]) (w1 := [(t0, .inr (1, [.ref ta])), (ta, .inl (cJ, 17, .inr (.inl (fun j => lN (e2 j)))))]) hP hD [1, 2] [0, 3, 4] rfl rfl (by decide) (by decide) hk1 hFc hP1 hD1
  generalize H1 = H at hP hS ⊢
  have hP : va_P (dC, dI) vwCl [(c0, .inr (0, [.ref s0, .ref t0])), (s0, .inr (1, [.ref sa])), (sa, .inl (cJ, 17, .inr (.inl (fun j => lN (e1 j))))), (t0, .inr (1, [.ref ta])), (ta, .inl (cJ, 17, .inr (.inl (fun j => lN (e2 j)))))] H := hP
  have hD : va_D A [(c0, .inr (0, [.ref s0, .ref t0])), (s0, .inr (1, [.ref sa])), (sa, .inl (cJ, 17, .inr (.inl (fun j => lN (e1 j))))), (t0, .inr (1, [.ref ta])), (ta, .inl (cJ, 17, .inr (.inl (fun j => lN (e2 j)))))] := hD
  refine lv_iconst (v := 1) hx hb dX0_upTo_23 (by decide) ?_
  refine lv_istore (lv' := [(5, .int 1), (4, .int (nI (1000 - h))), (0, .ref c0), (1, .int (nI n)), (2, .int (nI m)), (3, .int (nI h))]) hx hb dX0_upTo_24 hl (by decide) rfl (fun ls hl => ?_)
  refine fw_loop (σ := Nat × (Nat → Nat) × (Nat → Nat)) (I := fun zn u H locs ls => match u with | (j, d1, d2) => zn = n - j ∧ (j ≤ n) ∧ (pd_ok d1) ∧ (pd_ok d2) ∧ (pd_v d1 17 = pm_G n h j (min j m) * 1000 ^ (48 - n)) ∧ (pd_v d2 17 = pm_ch n (min j m) * h ^ (min j m) * 1000 ^ (48 - n)) ∧ va_P (dC, dI) vwCl [(c0, .inr (0, [.ref s0, .ref t0])), (s0, .inr (1, [.ref sa])), (sa, .inl (cJ, 17, .inr (.inl (fun j => lN (d1 j))))), (t0, .inr (1, [.ref ta])), (ta, .inl (cJ, 17, .inr (.inl (fun j => lN (d2 j)))))] H ∧ va_D A [(c0, .inr (0, [.ref s0, .ref t0])), (s0, .inr (1, [.ref sa])), (sa, .inl (cJ, 17, .inr (.inl (fun j => lN (d1 j))))), (t0, .inr (1, [.ref ta])), (ta, .inl (cJ, 17, .inr (.inl (fun j => lN (d2 j)))))] ∧ va_S A zs.heap H locs ∧ lv_has ls 6 [(0, .ref c0), (1, .int (nI n)), (2, .int (nI m)), (3, .int (nI h)), (4, .int (nI (1000 - h))), (5, .int (nI (j + 1)))]) ?_ _ (0, e1, e2) _ _ _ ⟨rfl, by omega, ok_e1, ok_e2, by rw [v_e1, Nat.zero_min, pm_G0, Nat.pow_zero, Nat.one_mul], by rw [v_e2, Nat.zero_min, pm_ch0, Nat.pow_zero, Nat.one_mul],  hP.sub [0, 1, 2, 3, 4] rfl, hD.sub [0, 1, 2, 3, 4] (by decide) rfl, hS, lv_sub hl [2, 3, 4, 5, 1, 0] rfl⟩
  intro zn u H locs ls hI ih_26
  obtain ⟨j, d1, d2⟩ := u
  obtain ⟨hzn, hj, hso, hto, hsv, htv, hP, hD, hS, hl⟩ := hI
  refine lv_iload hx hb dX0_upTo_26 (lv_at hl 5 rfl) ?_
  refine lv_iload_n hx hb dX0_upTo_28 rfl (lv_at hl 1 rfl) ?_
  refine lv_icmp_gt (tgt := 95) hx hb dX0_upTo_29 (by decide) (fun c_29 => ?_) (fun c_29 => ?_)
  · -- then 29
    have hjn : j = n := by have := (nI_ltI (a := n) (b := j + 1) (by omega) (by omega)).mp c_29; omega
    refine lv_aload_n hx hb dX0_upTo_95 rfl (lv_at hl 0 rfl) ?_
    refine va_get (D := (dC, dI)) (ci := 0) (v := .ref s0) (C := RX0) (T := TX0) (N := 2) hx hb hts (by decide +kernel) hown hK hP 0 rfl rfl 0 (by decide) (hts (.fieldLink RX0 12 "FlakyBounds$Chance" "sum" "LFlakyBounds$Decimal;") (by decide +kernel)) (fun _ h9 => h9) rfl dX0_upTo_96 ?_
    have hP9 := hP.sub (ws' := [(c0, .inr (0, [.ref s0, .ref t0])), (s0, .inr (1, [.ref sa])), (sa, .inl (cJ, 17, .inr (.inl (fun j => lN (d1 j))))), (t0, .inr (1, [.ref ta])), (ta, .inl (cJ, 17, .inr (.inl (fun j => lN (d2 j)))))]) [0, 1, 2, 3, 4] rfl
    have hD9 := hD.sub (ws' := [(c0, .inr (0, [.ref s0, .ref t0])), (s0, .inr (1, [.ref sa])), (sa, .inl (cJ, 17, .inr (.inl (fun j => lN (d1 j))))), (t0, .inr (1, [.ref ta])), (ta, .inl (cJ, 17, .inr (.inl (fun j => lN (d2 j)))))]) [0, 1, 2, 3, 4] (by decide) rfl
    have hK9 := hK.sub (tys' := [(cJ, .long)]) [0] rfl
    exact W.aret (v := .ref s0) hx hb hr (Or.inl ⟨_, rfl⟩) (Or.inr ⟨_, rfl⟩) (fun zt zht hW => ⟨⟨(d1, d2), s0, rfl, ⟨hso, by rw [hsv, hjn, Nat.min_eq_right hmn]⟩, rfl, by rw [zht]; exact hP9, va_K.moved hW.alike hK9, hD9⟩, hS.F zht⟩) hS.2.2 dX0_upTo_99 hlocks
  · -- else 29
    have hlt : j < n := by
      rcases Nat.lt_or_ge j n with q9 | q9
      · exact q9
      · exact absurd (nI_lt (a := n) (b := j + 1) (by omega) (by omega)) c_29
    have hB1 : pd_v d1 17 ≤ 2 * 1000 ^ 48 := by rw [hsv]; exact pm_b1 hn48 hh (by omega) (Nat.min_le_left _ _)
    have hm45 := pm_b3 (f := 1000 - h) hB1 (by omega)
    refine lv_iload hx hb dX0_upTo_32 (lv_at hl 5 rfl) ?_
    refine lv_bipush (v := 48) hx hb dX0_upTo_34 (by decide) ?_
    refine lv_icmp_gt (tgt := 95) hx hb dX0_upTo_36 (by decide) (fun c_36 => absurd c_36 (nI_nlt (a := 48) (b := j + 1) (by omega) (by decide))) (fun _ => ?_)
    refine lv_aload_n hx hb dX0_upTo_39 rfl (lv_at hl 0 rfl) ?_
    refine va_get (D := (dC, dI)) (ci := 0) (v := .ref s0) (C := RX0) (T := TX0) (N := 2) hx hb hts (by decide +kernel) hown hK hP 0 rfl rfl 0 (by decide) (hts (.fieldLink RX0 12 "FlakyBounds$Chance" "sum" "LFlakyBounds$Decimal;") (by decide +kernel)) (fun _ h9 => h9) rfl dX0_upTo_40 ?_
    refine lv_iload hx hb dX0_upTo_43 (lv_at hl 4 rfl) ?_
    have hPc := hP.sub (ws' := [(s0, .inr (1, [.ref sa])), (sa, .inl (cJ, 17, .inr (.inl (fun j => lN (d1 j)))))]) [1, 2] rfl
    have hKc := hK.sub (tys' := [(cJ, .long)]) [0] rfl
    have hDc := hD.sub (ws' := [(s0, .inr (1, [.ref sa])), (sa, .inl (cJ, 17, .inr (.inl (fun j => lN (d1 j)))))]) [1, 2] (by decide) rfl
    have hFc := va_free (wc := [(s0, .inr (1, [.ref sa])), (sa, .inl (cJ, 17, .inr (.inl (fun j => lN (d1 j)))))]) hD hS hA [1, 2] rfl
    refine va_callv (va_runV (As := [.int (nI (1000 - h))]) (rest := []) ⟨hx, hb, hml, hown, hts⟩ (c_dec_mul l dC dI s0 sa cJ d1 (1000 - h) H.size hso (by omega) hm45) (cwV 1 hts gX0_upTo_X1_multiply rfl rfl rfl (by decide +kernel) ⟨Nat.le_of_ble_eq_true rfl, Nat.le_of_ble_eq_true rfl⟩) (fw_preVW hN hKc hPc hDc (ci := 1) (q0 := 0) rfl rfl) rfl rfl hl.1 rfl (lv_room (Nat.le_of_ble_eq_true rfl)) dX0_upTo_45 ⟨Nat.le_of_ble_eq_true rfl, Nat.le_of_ble_eq_true rfl⟩) hS (fun q _ h => hFc q h) hFc (fun d3 zt H1 locs zht hvm hw hB hz1 hk1 hS => ?_)
    obtain ⟨ok_d3, v_d3⟩ := hw
    obtain ⟨hP1, hK1, hD1⟩ := hB
    rw [zht] at hP1
    obtain ⟨hP, hD⟩ := va_join (wr := [(c0, .inr (0, [.ref s0, .ref t0])), (t0, .inr (1, [.ref ta])), (ta, .inl (cJ, 17, .inr (.inl (fun j => lN (d2 j)))))]) (w1 := [(s0, .inr (1, [.ref sa])), (sa, .inl (cJ, 17, .inr (.inl (fun j => lN (d3 j)))))]) hP hD [1, 2] [0, 3, 4] rfl rfl (by decide) (by decide) hk1 hFc hP1 hD1
    generalize H1 = H at hP hS ⊢
    have hP : va_P (dC, dI) vwCl [(c0, .inr (0, [.ref s0, .ref t0])), (t0, .inr (1, [.ref ta])), (ta, .inl (cJ, 17, .inr (.inl (fun j => lN (d2 j))))), (s0, .inr (1, [.ref sa])), (sa, .inl (cJ, 17, .inr (.inl (fun j => lN (d3 j)))))] H := hP
    have hD : va_D A [(c0, .inr (0, [.ref s0, .ref t0])), (t0, .inr (1, [.ref ta])), (ta, .inl (cJ, 17, .inr (.inl (fun j => lN (d2 j))))), (s0, .inr (1, [.ref sa])), (sa, .inl (cJ, 17, .inr (.inl (fun j => lN (d3 j)))))] := hD
    refine lv_iload hx hb dX0_upTo_48 (lv_at hl 5 rfl) ?_
    refine lv_iload_n hx hb dX0_upTo_50 rfl (lv_at hl 2 rfl) ?_
    refine lv_icmp_gt (tgt := 89) hx hb dX0_upTo_51 (by decide) (fun c_51 => ?_) (fun c_51 => ?_)
    · -- then 51
      have h51 : m ≤ j := by have := (nI_ltI (a := m) (b := j + 1) (by omega) (by omega)).mp c_51; omega
      refine lv_iinc (v := nI (j + 1 + 1)) (lv' := [(5, .int (nI (j + 1 + 1))), (0, .ref c0), (1, .int (nI n)), (2, .int (nI m)), (3, .int (nI h)), (4, .int (nI (1000 - h)))]) hx hb dX0_upTo_89 hl (k := 5) rfl (nI_1 _) (by decide) rfl (fun ls hl => ?_)
      refine lv_goto (tgt := 26) hx hb dX0_upTo_92 (by decide) ?_
      have hmj : m ≤ j := h51
      exact ih_26 _ (j + 1, d3, d2) _ _ _ (by omega) ⟨rfl, by omega, ok_d3, hto, by rw [v_d3]; exact pm_s1 hmj hsv, by rw [htv, Nat.min_eq_right hmj, Nat.min_eq_right (by omega)], hP.sub [0, 3, 4, 1, 2] rfl, hD.sub [0, 3, 4, 1, 2] (by decide) rfl, hS, lv_sub hl [1, 2, 3, 4, 5, 0] rfl⟩
    · -- else 51
      have h51 : j < m := by
        rcases Nat.lt_or_ge j m with q9 | q9
        · exact q9
        · exact absurd (nI_lt (a := m) (b := j + 1) (by omega) (by omega)) c_51
      have htv2 := htv
      rw [Nat.min_eq_left (by omega)] at htv2
      have hB2 : pd_v d2 17 ≤ 2 * 1000 ^ 48 := by rw [htv2]; exact pm_b2 hn48 hh (by omega)
      have hf66 : (n - j) * h ≤ 48000 := Nat.mul_le_mul (show n - j ≤ 48 by omega) hh
      have hm66 := pm_b3 (f := (n - j) * h) hB2 hf66
      refine lv_aload_n hx hb dX0_upTo_54 rfl (lv_at hl 0 rfl) ?_
      refine va_get (D := (dC, dI)) (ci := 0) (v := .ref t0) (C := RX0) (T := TX0) (N := 2) hx hb hts (by decide +kernel) hown hK hP 0 rfl rfl 1 (by decide) (hts (.fieldLink RX0 18 "FlakyBounds$Chance" "term" "LFlakyBounds$Decimal;") (by decide +kernel)) (fun _ h9 => h9) rfl dX0_upTo_55 ?_
      refine lv_iload_n hx hb dX0_upTo_58 rfl (lv_at hl 1 rfl) ?_
      refine lv_iload hx hb dX0_upTo_59 (lv_at hl 5 rfl) ?_
      refine lv_isub hx hb dX0_upTo_61 ?_
      refine fw_i (x' := nI (n - (j + 1))) (pk_sub (by omega)) ?_
      refine lv_iconst (v := 1) hx hb dX0_upTo_62 (by decide) ?_
      refine lv_iadd hx hb dX0_upTo_63 ?_
      refine fw_i (x' := nI (n - j)) (by rw [nI_1]; congr 1; omega) ?_
      refine lv_iload_n hx hb dX0_upTo_64 rfl (lv_at hl 3 rfl) ?_
      refine lv_imul hx hb dX0_upTo_65 ?_
      refine fw_i (x' := nI ((n - j) * h)) (pk_mul _ _) ?_
      have hPc := hP.sub (ws' := [(t0, .inr (1, [.ref ta])), (ta, .inl (cJ, 17, .inr (.inl (fun j => lN (d2 j)))))]) [1, 2] rfl
      have hKc := hK.sub (tys' := [(cJ, .long)]) [0] rfl
      have hDc := hD.sub (ws' := [(t0, .inr (1, [.ref ta])), (ta, .inl (cJ, 17, .inr (.inl (fun j => lN (d2 j)))))]) [1, 2] (by decide) rfl
      have hFc := va_free (wc := [(t0, .inr (1, [.ref ta])), (ta, .inl (cJ, 17, .inr (.inl (fun j => lN (d2 j)))))]) hD hS hA [1, 2] rfl
      refine va_callv (va_runV (As := [.int (nI ((n - j) * h))]) (rest := []) ⟨hx, hb, hml, hown, hts⟩ (c_dec_mul l dC dI t0 ta cJ d2 ((n - j) * h) H.size hto hf66 hm66) (cwV 1 hts gX0_upTo_X1_multiply rfl rfl rfl (by decide +kernel) ⟨Nat.le_of_ble_eq_true rfl, Nat.le_of_ble_eq_true rfl⟩) (fw_preVW hN hKc hPc hDc (ci := 1) (q0 := 0) rfl rfl) rfl rfl hl.1 rfl (lv_room (Nat.le_of_ble_eq_true rfl)) dX0_upTo_66 ⟨Nat.le_of_ble_eq_true rfl, Nat.le_of_ble_eq_true rfl⟩) hS (fun q _ h => hFc q h) hFc (fun d4 zt H1 locs zht hvm hw hB hz1 hk1 hS => ?_)
      obtain ⟨ok_d4, v_d4⟩ := hw
      obtain ⟨hP1, hK1, hD1⟩ := hB
      rw [zht] at hP1
      obtain ⟨hP, hD⟩ := va_join (wr := [(c0, .inr (0, [.ref s0, .ref t0])), (s0, .inr (1, [.ref sa])), (sa, .inl (cJ, 17, .inr (.inl (fun j => lN (d3 j)))))]) (w1 := [(t0, .inr (1, [.ref ta])), (ta, .inl (cJ, 17, .inr (.inl (fun j => lN (d4 j)))))]) hP hD [1, 2] [0, 3, 4] rfl rfl (by decide) (by decide) hk1 hFc hP1 hD1
      generalize H1 = H at hP hS ⊢
      have hP : va_P (dC, dI) vwCl [(c0, .inr (0, [.ref s0, .ref t0])), (s0, .inr (1, [.ref sa])), (sa, .inl (cJ, 17, .inr (.inl (fun j => lN (d3 j))))), (t0, .inr (1, [.ref ta])), (ta, .inl (cJ, 17, .inr (.inl (fun j => lN (d4 j)))))] H := hP
      have hD : va_D A [(c0, .inr (0, [.ref s0, .ref t0])), (s0, .inr (1, [.ref sa])), (sa, .inl (cJ, 17, .inr (.inl (fun j => lN (d3 j))))), (t0, .inr (1, [.ref ta])), (ta, .inl (cJ, 17, .inr (.inl (fun j => lN (d4 j)))))] := hD
      refine lv_aload_n hx hb dX0_upTo_69 rfl (lv_at hl 0 rfl) ?_
      refine va_get (D := (dC, dI)) (ci := 0) (v := .ref t0) (C := RX0) (T := TX0) (N := 2) hx hb hts (by decide +kernel) hown hK hP 0 rfl rfl 1 (by decide) (hts (.fieldLink RX0 18 "FlakyBounds$Chance" "term" "LFlakyBounds$Decimal;") (by decide +kernel)) (fun _ h9 => h9) rfl dX0_upTo_70 ?_
      refine lv_iload hx hb dX0_upTo_73 (lv_at hl 5 rfl) ?_
      have hPc := hP.sub (ws' := [(t0, .inr (1, [.ref ta])), (ta, .inl (cJ, 17, .inr (.inl (fun j => lN (d4 j)))))]) [3, 4] rfl
      have hKc := hK.sub (tys' := [(cJ, .long)]) [0] rfl
      have hDc := hD.sub (ws' := [(t0, .inr (1, [.ref ta])), (ta, .inl (cJ, 17, .inr (.inl (fun j => lN (d4 j)))))]) [3, 4] (by decide) rfl
      have hFc := va_free (wc := [(t0, .inr (1, [.ref ta])), (ta, .inl (cJ, 17, .inr (.inl (fun j => lN (d4 j)))))]) hD hS hA [3, 4] rfl
      refine va_callv (va_runV (As := [.int (nI (j + 1))]) (rest := []) ⟨hx, hb, hml, hown, hts⟩ (c_dec_div l dC dI t0 ta cJ d4 (j + 1) H.size ok_d4 (by omega) (by omega)) (cwV 1 hts gX0_upTo_X1_divide rfl rfl rfl (by decide +kernel) ⟨Nat.le_of_ble_eq_true rfl, Nat.le_of_ble_eq_true rfl⟩) (fw_preVW hN hKc hPc hDc (ci := 1) (q0 := 0) rfl rfl) rfl rfl hl.1 rfl (lv_room (Nat.le_of_ble_eq_true rfl)) dX0_upTo_75 ⟨Nat.le_of_ble_eq_true rfl, Nat.le_of_ble_eq_true rfl⟩) hS (fun q _ h => hFc q h) hFc (fun d5 zt H1 locs zht hvm hw hB hz1 hk1 hS => ?_)
      obtain ⟨ok_d5, v_d5⟩ := hw
      obtain ⟨hP1, hK1, hD1⟩ := hB
      rw [zht] at hP1
      have w_d5 : pd_v d5 17 = pm_ch n (j + 1) * h ^ (j + 1) * 1000 ^ (48 - n) := by rw [v_d5, v_d4, htv2]; exact pm_term (by omega)
      obtain ⟨hP, hD⟩ := va_join (wr := [(c0, .inr (0, [.ref s0, .ref t0])), (s0, .inr (1, [.ref sa])), (sa, .inl (cJ, 17, .inr (.inl (fun j => lN (d3 j)))))]) (w1 := [(t0, .inr (1, [.ref ta])), (ta, .inl (cJ, 17, .inr (.inl (fun j => lN (d5 j)))))]) hP hD [3, 4] [0, 1, 2] rfl rfl (by decide) (by decide) hk1 hFc hP1 hD1
      generalize H1 = H at hP hS ⊢
      have hP : va_P (dC, dI) vwCl [(c0, .inr (0, [.ref s0, .ref t0])), (s0, .inr (1, [.ref sa])), (sa, .inl (cJ, 17, .inr (.inl (fun j => lN (d3 j))))), (t0, .inr (1, [.ref ta])), (ta, .inl (cJ, 17, .inr (.inl (fun j => lN (d5 j)))))] H := hP
      have hD : va_D A [(c0, .inr (0, [.ref s0, .ref t0])), (s0, .inr (1, [.ref sa])), (sa, .inl (cJ, 17, .inr (.inl (fun j => lN (d3 j))))), (t0, .inr (1, [.ref ta])), (ta, .inl (cJ, 17, .inr (.inl (fun j => lN (d5 j)))))] := hD
      refine lv_aload_n hx hb dX0_upTo_78 rfl (lv_at hl 0 rfl) ?_
      refine va_get (D := (dC, dI)) (ci := 0) (v := .ref s0) (C := RX0) (T := TX0) (N := 2) hx hb hts (by decide +kernel) hown hK hP 0 rfl rfl 0 (by decide) (hts (.fieldLink RX0 12 "FlakyBounds$Chance" "sum" "LFlakyBounds$Decimal;") (by decide +kernel)) (fun _ h9 => h9) rfl dX0_upTo_79 ?_
      refine lv_aload_n hx hb dX0_upTo_82 rfl (lv_at hl 0 rfl) ?_
      refine va_get (D := (dC, dI)) (ci := 0) (v := .ref t0) (C := RX0) (T := TX0) (N := 2) hx hb hts (by decide +kernel) hown hK hP 0 rfl rfl 1 (by decide) (hts (.fieldLink RX0 18 "FlakyBounds$Chance" "term" "LFlakyBounds$Decimal;") (by decide +kernel)) (fun _ h9 => h9) rfl dX0_upTo_83 ?_
      have hPc := hP.sub (ws' := [(s0, .inr (1, [.ref sa])), (sa, .inl (cJ, 17, .inr (.inl (fun j => lN (d3 j))))), (t0, .inr (1, [.ref ta])), (ta, .inl (cJ, 17, .inr (.inl (fun j => lN (d5 j)))))]) [1, 2, 3, 4] rfl
      have hKc := hK.sub (tys' := [(cJ, .long)]) [0] rfl
      have hDc := hD.sub (ws' := [(s0, .inr (1, [.ref sa])), (sa, .inl (cJ, 17, .inr (.inl (fun j => lN (d3 j))))), (t0, .inr (1, [.ref ta])), (ta, .inl (cJ, 17, .inr (.inl (fun j => lN (d5 j)))))]) [1, 2, 3, 4] (by decide) rfl
      have hFc := va_free (wc := [(s0, .inr (1, [.ref sa])), (sa, .inl (cJ, 17, .inr (.inl (fun j => lN (d3 j))))), (t0, .inr (1, [.ref ta])), (ta, .inl (cJ, 17, .inr (.inl (fun j => lN (d5 j)))))]) hD hS hA [1, 2, 3, 4] rfl
      refine va_callv (va_runV (As := [.ref t0]) (rest := []) ⟨hx, hb, hml, hown, hts⟩ (c_dec_add l dC dI s0 sa t0 ta cJ d3 d5 H.size ok_d3 ok_d5 (by rw [v_d3, w_d5]; exact pm_b4 (pm_b5 hB1) (pm_b2 hn48 hh (by omega)))) (cwV 1 hts gX0_upTo_X1_add rfl rfl rfl (by decide +kernel) ⟨Nat.le_of_ble_eq_true rfl, Nat.le_of_ble_eq_true rfl⟩) (fw_preVW hN hKc hPc hDc (ci := 1) (q0 := 0) rfl rfl) rfl rfl hl.1 rfl (lv_room (Nat.le_of_ble_eq_true rfl)) dX0_upTo_86 ⟨Nat.le_of_ble_eq_true rfl, Nat.le_of_ble_eq_true rfl⟩) hS (fun q _ h => hFc q h) hFc (fun d6 zt H1 locs zht hvm hw hB hz1 hk1 hS => ?_)
      obtain ⟨ok_d6, v_d6⟩ := hw
      obtain ⟨hP1, hK1, hD1⟩ := hB
      rw [zht] at hP1
      obtain ⟨hP, hD⟩ := va_join (wr := [(c0, .inr (0, [.ref s0, .ref t0]))]) (w1 := [(s0, .inr (1, [.ref sa])), (sa, .inl (cJ, 17, .inr (.inl (fun j => lN (d6 j))))), (t0, .inr (1, [.ref ta])), (ta, .inl (cJ, 17, .inr (.inl (fun j => lN (d5 j)))))]) hP hD [1, 2, 3, 4] [0] rfl rfl (by decide) (by decide) hk1 hFc hP1 hD1
      generalize H1 = H at hP hS ⊢
      have hP : va_P (dC, dI) vwCl [(c0, .inr (0, [.ref s0, .ref t0])), (s0, .inr (1, [.ref sa])), (sa, .inl (cJ, 17, .inr (.inl (fun j => lN (d6 j))))), (t0, .inr (1, [.ref ta])), (ta, .inl (cJ, 17, .inr (.inl (fun j => lN (d5 j)))))] H := hP
      have hD : va_D A [(c0, .inr (0, [.ref s0, .ref t0])), (s0, .inr (1, [.ref sa])), (sa, .inl (cJ, 17, .inr (.inl (fun j => lN (d6 j))))), (t0, .inr (1, [.ref ta])), (ta, .inl (cJ, 17, .inr (.inl (fun j => lN (d5 j)))))] := hD
      refine lv_iinc (v := nI (j + 1 + 1)) (lv' := [(5, .int (nI (j + 1 + 1))), (0, .ref c0), (1, .int (nI n)), (2, .int (nI m)), (3, .int (nI h)), (4, .int (nI (1000 - h)))]) hx hb dX0_upTo_89 hl (k := 5) rfl (nI_1 _) (by decide) rfl (fun ls hl => ?_)
      refine lv_goto (tgt := 26) hx hb dX0_upTo_92 (by decide) ?_
      exact ih_26 _ (j + 1, d6, d5) _ _ _ (by omega) ⟨rfl, by omega, ok_d6, ok_d5, by rw [v_d6, v_d3]; exact pm_s2 h51 hsv w_d5, by rw [w_d5, Nat.min_eq_left (by omega)], hP.sub [0, 1, 2, 3, 4] rfl, hD.sub [0, 1, 2, 3, 4] (by decide) rfl, hS, lv_sub hl [1, 2, 3, 4, 5, 0] rfl⟩
