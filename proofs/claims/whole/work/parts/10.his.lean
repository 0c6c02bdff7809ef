set_option maxHeartbeats 4000000 in
set_option maxRecDepth 100000 in
theorem c_his_init (l : Launch) (dC : Nat → ClassId) (dI : Nat → Nat → Nat) (h0 : Nat) (sz : Nat)  : Met l yX2_init wsX2_init ({ frames := 1, cells := 2, slots := 96, locals := 12 } : Room) (va_Pc [.ref h0] (fw_pW (dC, dI) vwCl [] [(h0, .inr (2, [.null, .null, .int 0, .int 0, .int 0, .int 0, .int 0, .int 0, .int 0, .int 0, .int 0]))] sz)) (va_Qv (S := Nat × Nat × ClassId × ClassId) (fun _ => True) (fun u t => match u with | (ea, pa, cI, cZ) => fw_q (dC, dI) vwCl [(cI, .int), (cZ, .boolean)] (va_A [(h0, .inr (2, [.null, .null, .int 0, .int 0, .int 0, .int 0, .int 0, .int 0, .int 0, .int 0, .int 0]))] sz) [(h0, .inr (2, [.ref ea, .ref pa, .int 0, .int 0, .int 0, .int 0, .int 0, .int 0, .int 0, .int (-1), .int 0])), (ea, .inl (cI, 48, .inl (fun _ => 0))), (pa, .inl (cZ, 48, .inl (fun _ => 0)))] t) (va_A [(h0, .inr (2, [.null, .null, .int 0, .int 0, .int 0, .int 0, .int 0, .int 0, .int 0, .int 0, .int 0]))] sz)) 2 96 (va_A [(h0, .inr (2, [.null, .null, .int 0, .int 0, .int 0, .int 0, .int 0, .int 0, .int 0, .int 0, .int 0]))] sz) := by
  refine fw_metW (cc := cX2_init) (maxL := 1) (ret := none) (by decide) rfl (Nat.le_of_ble_eq_true rfl) ?_
  intro zp ze zs zm zbelow zmeth zc ls hx hb hr hts hown hlocks hml hin hN hsz hP hK hD hA hS hl
  generalize hAe : (va_A [(h0, .inr (2, [.null, .null, .int 0, .int 0, .int 0, .int 0, .int 0, .int 0, .int 0, .int 0, .int 0]))] sz) = A at hD hA hS ⊢
  have hown : zs.vm.findClass RX2 = some zm.cls := hown
  have hin : zmeth.name = "<init>" := hin
  have hl : lv_has ls 1 [(0, .ref h0)] := hl
  refine lv_aload_n hx hb dX2_init_0 rfl (lv_at hl 0 rfl) ?_
  refine W.objInit hx hb hown (hts (.methodLink RX2 3 objectInit) (by decide +kernel)) (hts (.instanceMethod objectInit) (by decide +kernel)) (hts _ (by decide +kernel)) rfl (by rw [hml]; exact hl.1) rfl dX2_init_1 (Nat.le_of_ble_eq_true rfl) (Nat.le_of_ble_eq_true rfl) ?_
  refine W.eq (g2 := F0 zm 4 ls []) rfl ?_
  refine lv_aload_n hx hb dX2_init_4 rfl (lv_at hl 0 rfl) ?_
  refine lv_bipush (v := 48) hx hb dX2_init_5 (by decide) ?_
  refine va_newa (atype := .int) (ty := .int) (N' := 48) (a0 := (48, .inl (fun _ => 0))) hx hb (hts (.arrayClass .int) (by decide +kernel)) rfl hK hP hD hS hA (fun _ => rfl) (by decide) (by decide) (by decide +kernel) (Nat.le_of_ble_eq_true rfl) (Nat.le_of_ble_eq_true rfl) dX2_init_7 (fun q7 cA7 H hK hP hD hS => ?_)
  have hK : va_K (dC, dI) vwCl [(cA7, .int)] zs := hK
  have hP : va_P (dC, dI) vwCl [(h0, .inr (2, [.null, .null, .int 0, .int 0, .int 0, .int 0, .int 0, .int 0, .int 0, .int 0, .int 0])), (q7, .inl (cA7, 48, .inl (fun _ => 0)))] H := hP
  have hD : va_D A [(h0, .inr (2, [.null, .null, .int 0, .int 0, .int 0, .int 0, .int 0, .int 0, .int 0, .int 0, .int 0])), (q7, .inl (cA7, 48, .inl (fun _ => 0)))] := hD
  refine W.widen (k := 1) (n := 48) (by decide) (by decide) ?_
  refine va_putF (D := (dC, dI)) (ci := 2) (v := .ref q7) (ty := (.array .int)) (C := RX2) (T := TX2) (N := 11) hx hb hts (by decide +kernel) tyX2 tyX2_ok nmX2 hown hK hP hD hS 0 rfl rfl 0 (by decide) (hts (.fieldLink RX2 9 "FlakyBounds$History" "editions" "[I") (by decide +kernel)) (fun _ h9 => h9) rfl hin rfl (by decide +kernel) rfl rfl (Nat.le_of_ble_eq_true rfl) dX2_init_9 (fun H locs hP hD hS => ?_)
  have hP : va_P (dC, dI) vwCl [(h0, .inr (2, [.ref q7, .null, .int 0, .int 0, .int 0, .int 0, .int 0, .int 0, .int 0, .int 0, .int 0])), (q7, .inl (cA7, 48, .inl (fun _ => 0)))] H := hP
  have hD : va_D A [(h0, .inr (2, [.ref q7, .null, .int 0, .int 0, .int 0, .int 0, .int 0, .int 0, .int 0, .int 0, .int 0])), (q7, .inl (cA7, 48, .inl (fun _ => 0)))] := hD
  refine lv_aload_n hx hb dX2_init_12 rfl (lv_at hl 0 rfl) ?_
  refine lv_bipush (v := 48) hx hb dX2_init_13 (by decide) ?_
  refine va_newa (atype := .boolean) (ty := .boolean) (N' := 48) (a0 := (48, .inl (fun _ => 0))) hx hb (hts (.arrayClass .boolean) (by decide +kernel)) rfl hK hP hD hS hA (fun _ => rfl) (by decide) (by decide) (by decide +kernel) (Nat.le_of_ble_eq_true rfl) (Nat.le_of_ble_eq_true rfl) dX2_init_15 (fun q15 cA15 H hK hP hD hS => ?_)
  have hK : va_K (dC, dI) vwCl [(cA7, .int), (cA15, .boolean)] zs := hK
  have hP : va_P (dC, dI) vwCl [(h0, .inr (2, [.ref q7, .null, .int 0, .int 0, .int 0, .int 0, .int 0, .int 0, .int 0, .int 0, .int 0])), (q7, .inl (cA7, 48, .inl (fun _ => 0))), (q15, .inl (cA15, 48, .inl (fun _ => 0)))] H := hP
  have hD : va_D A [(h0, .inr (2, [.ref q7, .null, .int 0, .int 0, .int 0, .int 0, .int 0, .int 0, .int 0, .int 0, .int 0])), (q7, .inl (cA7, 48, .inl (fun _ => 0))), (q15, .inl (cA15, 48, .inl (fun _ => 0)))] := hD
  refine W.widen (k := 2) (n := 96) (by decide) (by decide) ?_
  refine va_putF (D := (dC, dI)) (ci := 2) (v := .ref q15) (ty := (.array .boolean)) (C := RX2) (T := TX2) (N := 11) hx hb hts (by decide +kernel) tyX2 tyX2_ok nmX2 hown hK hP hD hS 0 rfl rfl 1 (by decide) (hts (.fieldLink RX2 15 "FlakyBounds$History" "passes" "[Z") (by decide +kernel)) (fun _ h9 => h9) rfl hin rfl (by decide +kernel) rfl rfl (Nat.le_of_ble_eq_true rfl) dX2_init_17 (fun H locs hP hD hS => ?_)
  have hP : va_P (dC, dI) vwCl [(h0, .inr (2, [.ref q7, .ref q15, .int 0, .int 0, .int 0, .int 0, .int 0, .int 0, .int 0, .int 0, .int 0])), (q7, .inl (cA7, 48, .inl (fun _ => 0))), (q15, .inl (cA15, 48, .inl (fun _ => 0)))] H := hP
  have hD : va_D A [(h0, .inr (2, [.ref q7, .ref q15, .int 0, .int 0, .int 0, .int 0, .int 0, .int 0, .int 0, .int 0, .int 0])), (q7, .inl (cA7, 48, .inl (fun _ => 0))), (q15, .inl (cA15, 48, .inl (fun _ => 0)))] := hD
  refine lv_aload_n hx hb dX2_init_20 rfl (lv_at hl 0 rfl) ?_
  refine lv_iconst (v := (-1)) hx hb dX2_init_21 (by decide) ?_
  refine va_put (D := (dC, dI)) (ci := 2) (v := .int (-1)) (ty := .int) (C := RX2) (T := TX2) (N := 11) hx hb hts (by decide +kernel) tyX2 tyX2_ok nmX2 hown hK hP hD hS 0 rfl rfl 9 (by decide) (hts (.fieldLink RX2 19 "FlakyBounds$History" "judgedEdition" "I") (by decide +kernel)) (fun _ h9 => h9) rfl (by decide +kernel) rfl rfl (Nat.le_of_ble_eq_true rfl) dX2_init_22 (fun H locs hP hD hS => ?_)
  have hP : va_P (dC, dI) vwCl [(h0, .inr (2, [.ref q7, .ref q15, .int 0, .int 0, .int 0, .int 0, .int 0, .int 0, .int 0, .int (-1), .int 0])), (q7, .inl (cA7, 48, .inl (fun _ => 0))), (q15, .inl (cA15, 48, .inl (fun _ => 0)))] H := hP
  have hD : va_D A [(h0, .inr (2, [.ref q7, .ref q15, .int 0, .int 0, .int 0, .int 0, .int 0, .int 0, .int 0, .int (-1), .int 0])), (q7, .inl (cA7, 48, .inl (fun _ => 0))), (q15, .inl (cA15, 48, .inl (fun _ => 0)))] := hD
  have hP9 := hP.sub (ws' := [(h0, .inr (2, [.ref q7, .ref q15, .int 0, .int 0, .int 0, .int 0, .int 0, .int 0, .int 0, .int (-1), .int 0])), (q7, .inl (cA7, 48, .inl (fun _ => 0))), (q15, .inl (cA15, 48, .inl (fun _ => 0)))]) [0, 1, 2] rfl
  have hD9 := hD.sub (ws' := [(h0, .inr (2, [.ref q7, .ref q15, .int 0, .int 0, .int 0, .int 0, .int 0, .int 0, .int 0, .int (-1), .int 0])), (q7, .inl (cA7, 48, .inl (fun _ => 0))), (q15, .inl (cA15, 48, .inl (fun _ => 0)))]) [0, 1, 2] (by decide) rfl
  have hK9 := hK.sub (tys' := [(cA7, .int), (cA15, .boolean)]) [0, 1] rfl
  exact W.vret hx hb hr (fun zt zht hW => ⟨⟨(q7, q15, cA7, cA15), rfl, trivial, by rw [zht]; exact hP9, va_K.moved hW.alike hK9, hD9⟩, hS.F zht⟩) hS.2.2 dX2_init_25 hlocks
set_option maxHeartbeats 4000000 in
set_option maxRecDepth 100000 in
theorem c_his_has (l : Launch) (dC : Nat → ClassId) (dI : Nat → Nat → Nat) (h0 ea pa : Nat) (cI cZ : ClassId) (s : Nat) (v3 v4 v5 v6 v7 v8 v9 v10 : Value) (e : Nat → Int32) (b : Nat → Bool) (x : Int32) (q : Bool) (hs : s ≤ 48) : Met l yX2_has wsX2_has ({ frames := 0, cells := 0, slots := 0, locals := 0 } : Room) (va_Pc [.ref h0, .int x, .int (zI q)] (fw_pR (dC, dI) vwCl [(cI, .int), (cZ, .boolean)] [(h0, .inr (2, [.ref ea, .ref pa, .int (nI s), v3, v4, v5, v6, v7, v8, v9, v10])), (ea, .inl (cI, 48, .inl (e))), (pa, .inl (cZ, 48, .inl (fun j => zI (b j))))])) (vp_Si (fun r => r = zI (hv_has e b x q s))) 0 0 (fun _ => False) := by
  refine fw_metR (cc := cX2_has) (maxL := 4) (ret := (some .boolean)) (by decide) rfl (Nat.le_of_ble_eq_true rfl) ?_
  intro zp ze zs zm zbelow zmeth zc ls hx hb hr hts hown hlocks hml hin hN hP hK hl
  have hown : zs.vm.findClass RX2 = some zm.cls := hown
  have hl : lv_has ls 4 [(0, .ref h0), (1, .int x), (2, .int (zI q))] := hl
  refine lv_iconst (v := 0) hx hb dX2_has_0 (by decide) ?_
  refine lv_istore_n (lv' := [(3, .int 0), (0, .ref h0), (1, .int x), (2, .int (zI q))]) hx hb dX2_has_1 rfl hl (by decide) rfl (fun ls hl => ?_)
  refine fw_loopR (σ := Nat) (I := fun zn u ls => match u with | i => zn = s - i ∧ (i ≤ s) ∧ (hv_has e b x q i = false) ∧ lv_has ls 4 [(0, .ref h0), (1, .int x), (2, .int (zI q)), (3, .int (nI i))]) ?_ _ 0 _ ⟨rfl, by omega, rfl, lv_sub hl [1, 2, 3, 0] rfl⟩
  intro zn i ls hI ih_2
  obtain ⟨hzn, hi, hz, hl⟩ := hI
  refine lv_iload_n hx hb dX2_has_2 rfl (lv_at hl 3 rfl) ?_
  refine lv_aload_n hx hb dX2_has_3 rfl (lv_at hl 0 rfl) ?_
  refine va_get (D := (dC, dI)) (ci := 2) (v := .int (nI s)) (C := RX2) (T := TX2) (N := 11) hx hb hts (by decide +kernel) hown hK hP 0 rfl rfl 2 (by decide) (hts (.fieldLink RX2 23 "FlakyBounds$History" "size" "I") (by decide +kernel)) (fun _ h9 => h9) rfl dX2_has_4 ?_
  refine lv_icmp_ge (tgt := 44) hx hb dX2_has_7 (by decide) (fun c_7 => ?_) (fun c_7 => ?_)
  · -- then 7
    have hend : i = s := by have := (nI_leI (a := s) (b := i) (by omega) (by omega)).mp c_7; omega
    refine lv_iconst (v := 0) hx hb dX2_has_44 (by decide) ?_
    subst hend
    exact W.zret (v := 0) (ty := .boolean) hx hb hr rfl (fun zt zht _ => ⟨0, rfl, by rw [hz, zI_f], zht⟩) (fun q h => by cases h) dX2_has_45 hlocks
  · -- else 7
    have hlt : i < s := by
      rcases Nat.lt_or_ge i s with q9 | q9
      · exact q9
      · exact absurd (nI_le (a := s) (b := i) q9 (by omega)) c_7
    refine lv_iload_n hx hb dX2_has_10 rfl (lv_at hl 3 rfl) ?_
    refine lv_bipush (v := 48) hx hb dX2_has_11 (by decide) ?_
    refine lv_icmp_ge (tgt := 44) hx hb dX2_has_13 (by decide) (fun c_13 => absurd c_13 (nI_ge (a := i) (b := 48) (by omega) (by decide))) (fun _ => ?_)
    refine lv_aload_n hx hb dX2_has_16 rfl (lv_at hl 0 rfl) ?_
    refine va_get (D := (dC, dI)) (ci := 2) (v := .ref ea) (C := RX2) (T := TX2) (N := 11) hx hb hts (by decide +kernel) hown hK hP 0 rfl rfl 0 (by decide) (hts (.fieldLink RX2 9 "FlakyBounds$History" "editions" "[I") (by decide +kernel)) (fun _ h9 => h9) rfl dX2_has_17 ?_
    refine lv_iload_n hx hb dX2_has_20 rfl (lv_at hl 3 rfl) ?_
    refine va_iald hx hb hK hP 1 0 rfl rfl (vp_in_nI (by omega) (by decide)) dX2_has_21 ?_
    refine fw_i (x' := e i) (by rw [nI_clamp (by omega)]) ?_
    refine lv_iload_n hx hb dX2_has_22 rfl (lv_at hl 1 rfl) ?_
    refine lv_icmp_ne (tgt := 38) hx hb dX2_has_23 (by decide) (fun c_23 => ?_) (fun c_23 => ?_)
    · -- then 23
      refine lv_iinc (v := nI (i + 1)) (lv' := [(3, .int (nI (i + 1))), (0, .ref h0), (1, .int x), (2, .int (zI q))]) hx hb dX2_has_38 hl (k := 3) rfl (nI_1 i) (by decide) rfl (fun ls hl => ?_)
      refine lv_goto (tgt := 2) hx hb dX2_has_41 (by decide) ?_
      have hnn : ¬ (e i = x ∧ b i = q) := fun h => c_23 h.1
      exact ih_2 _ (i + 1) _ (by omega) ⟨rfl, by omega, hv_has_go hz hnn, lv_sub hl [1, 2, 3, 0] rfl⟩
    · -- else 23
      refine lv_aload_n hx hb dX2_has_26 rfl (lv_at hl 0 rfl) ?_
      refine va_get (D := (dC, dI)) (ci := 2) (v := .ref pa) (C := RX2) (T := TX2) (N := 11) hx hb hts (by decide +kernel) hown hK hP 0 rfl rfl 1 (by decide) (hts (.fieldLink RX2 15 "FlakyBounds$History" "passes" "[Z") (by decide +kernel)) (fun _ h9 => h9) rfl dX2_has_27 ?_
      refine lv_iload_n hx hb dX2_has_30 rfl (lv_at hl 3 rfl) ?_
      refine va_zald hx hb hK hP 2 1 rfl rfl (vp_in_nI (by omega) (by decide)) dX2_has_31 ?_
      refine fw_i (x' := zI (b i)) (by rw [nI_clamp (by omega)]) ?_
      refine lv_iload_n hx hb dX2_has_32 rfl (lv_at hl 2 rfl) ?_
      refine lv_icmp_ne (tgt := 38) hx hb dX2_has_33 (by decide) (fun c_33 => ?_) (fun c_33 => ?_)
      · -- then 33
        refine lv_iinc (v := nI (i + 1)) (lv' := [(3, .int (nI (i + 1))), (0, .ref h0), (1, .int x), (2, .int (zI q))]) hx hb dX2_has_38 hl (k := 3) rfl (nI_1 i) (by decide) rfl (fun ls hl => ?_)
        refine lv_goto (tgt := 2) hx hb dX2_has_41 (by decide) ?_
        have hnn : ¬ (e i = x ∧ b i = q) := fun h => c_33 (by rw [h.2])
        exact ih_2 _ (i + 1) _ (by omega) ⟨rfl, by omega, hv_has_go hz hnn, lv_sub hl [1, 2, 3, 0] rfl⟩
      · -- else 33
        refine lv_iconst (v := 1) hx hb dX2_has_36 (by decide) ?_
        have hfin : hv_has e b x q s = true := hv_has_hit hlt c_23 (zI_inj.mp c_33)
        exact W.zret (v := 1) (ty := .boolean) hx hb hr rfl (fun zt zht _ => ⟨1, rfl, by rw [hfin, zI_t], zht⟩) (fun q h => by cases h) dX2_has_37 hlocks
set_option maxHeartbeats 4000000 in
set_option maxRecDepth 100000 in
theorem c_his_only (l : Launch) (dC : Nat → ClassId) (dI : Nat → Nat → Nat) (h0 ea pa : Nat) (cI cZ : ClassId) (s : Nat) (v3 v4 v5 v6 v7 v8 v9 v10 : Value) (e : Nat → Int32) (b : Nat → Bool) (x : Int32) (hs : s ≤ 48) : Met l yX2_hasOnlyFails wsX2_hasOnlyFails ({ frames := 1, cells := 0, slots := 0, locals := 23 } : Room) (va_Pc [.ref h0, .int x] (fw_pR (dC, dI) vwCl [(cI, .int), (cZ, .boolean)] [(h0, .inr (2, [.ref ea, .ref pa, .int (nI s), v3, v4, v5, v6, v7, v8, v9, v10])), (ea, .inl (cI, 48, .inl (e))), (pa, .inl (cZ, 48, .inl (fun j => zI (b j))))])) (vp_Si (fun r => r = zI (hv_has e b x false s && !hv_has e b x true s))) 0 0 (fun _ => False) := by
  refine fw_metR (cc := cX2_hasOnlyFails) (maxL := 2) (ret := (some .boolean)) (by decide) rfl (Nat.le_of_ble_eq_true rfl) ?_
  intro zp ze zs zm zbelow zmeth zc ls hx hb hr hts hown hlocks hml hin hN hP hK hl
  have hown : zs.vm.findClass RX2 = some zm.cls := hown
  have hl : lv_has ls 2 [(0, .ref h0), (1, .int x)] := hl
  refine lv_aload_n hx hb dX2_hasOnlyFails_0 rfl (lv_at hl 0 rfl) ?_
  refine lv_iload_n hx hb dX2_hasOnlyFails_1 rfl (lv_at hl 1 rfl) ?_
  refine lv_iconst (v := 0) hx hb dX2_hasOnlyFails_2 (by decide) ?_
  have hPc := hP.sub (ws' := [(h0, .inr (2, [.ref ea, .ref pa, .int (nI s), v3, v4, v5, v6, v7, v8, v9, v10])), (ea, .inl (cI, 48, .inl (e))), (pa, .inl (cZ, 48, .inl (fun j => zI (b j))))]) [0, 1, 2] rfl
  have hKc := hK.sub (tys' := [(cI, .int), (cZ, .boolean)]) [0, 1] rfl
  refine vp_callSi (va_runV (As := [.int x, .int 0]) (rest := []) ⟨hx, hb, hml, hown, hts⟩ (c_his_has l dC dI h0 ea pa cI cZ s v3 v4 v5 v6 v7 v8 v9 v10 e b x false hs) (cwV 2 hts gX2_hasOnlyFails_X2_has rfl rfl rfl (by decide +kernel) ⟨Nat.le_of_ble_eq_true rfl, Nat.le_of_ble_eq_true rfl⟩) (fw_preVR hN hKc hPc (ci := 2) (q0 := 0) rfl rfl) rfl rfl hl.1 rfl (lv_room (Nat.le_of_ble_eq_true rfl)) dX2_hasOnlyFails_3 ⟨Nat.le_of_ble_eq_true rfl, Nat.le_of_ble_eq_true rfl⟩).run (fun r_3 hr_3 => ?_)
  obtain rfl : r_3 = zI (hv_has e b x false s) := hr_3
  refine lv_if_eq (tgt := 22) hx hb dX2_hasOnlyFails_6 (by decide) (fun c_6 => ?_) (fun c_6 => ?_)
  · -- then 6
    have h6 := zI_eq0.mp c_6
    refine lv_iconst (v := 0) hx hb dX2_hasOnlyFails_22 (by decide) ?_
    exact W.zret (v := 0) (ty := .boolean) hx hb hr rfl (fun zt zht _ => ⟨0, rfl, by rw [h6]; rfl, zht⟩) (fun q h => by cases h) dX2_hasOnlyFails_23 hlocks
  · -- else 6
    have h6 := zI_ne0.mp c_6
    refine lv_aload_n hx hb dX2_hasOnlyFails_9 rfl (lv_at hl 0 rfl) ?_
    refine lv_iload_n hx hb dX2_hasOnlyFails_10 rfl (lv_at hl 1 rfl) ?_
    refine lv_iconst (v := 1) hx hb dX2_hasOnlyFails_11 (by decide) ?_
    have hPc := hP.sub (ws' := [(h0, .inr (2, [.ref ea, .ref pa, .int (nI s), v3, v4, v5, v6, v7, v8, v9, v10])), (ea, .inl (cI, 48, .inl (e))), (pa, .inl (cZ, 48, .inl (fun j => zI (b j))))]) [0, 1, 2] rfl
    have hKc := hK.sub (tys' := [(cI, .int), (cZ, .boolean)]) [0, 1] rfl
    refine vp_callSi (va_runV (As := [.int x, .int 1]) (rest := []) ⟨hx, hb, hml, hown, hts⟩ (c_his_has l dC dI h0 ea pa cI cZ s v3 v4 v5 v6 v7 v8 v9 v10 e b x true hs) (cwV 2 hts gX2_hasOnlyFails_X2_has rfl rfl rfl (by decide +kernel) ⟨Nat.le_of_ble_eq_true rfl, Nat.le_of_ble_eq_true rfl⟩) (fw_preVR hN hKc hPc (ci := 2) (q0 := 0) rfl rfl) rfl rfl hl.1 rfl (lv_room (Nat.le_of_ble_eq_true rfl)) dX2_hasOnlyFails_12 ⟨Nat.le_of_ble_eq_true rfl, Nat.le_of_ble_eq_true rfl⟩).run (fun r_12 hr_12 => ?_)
    obtain rfl : r_12 = zI (hv_has e b x true s) := hr_12
    refine lv_if_ne (tgt := 22) hx hb dX2_hasOnlyFails_15 (by decide) (fun c_15 => ?_) (fun c_15 => ?_)
    · -- then 15
      have h15 := zI_ne0.mp c_15
      refine lv_iconst (v := 0) hx hb dX2_hasOnlyFails_22 (by decide) ?_
      exact W.zret (v := 0) (ty := .boolean) hx hb hr rfl (fun zt zht _ => ⟨0, rfl, by rw [h6, h15]; rfl, zht⟩) (fun q h => by cases h) dX2_hasOnlyFails_23 hlocks
    · -- else 15
      have h15 := zI_eq0.mp c_15
      refine lv_iconst (v := 1) hx hb dX2_hasOnlyFails_18 (by decide) ?_
      refine lv_goto (tgt := 23) hx hb dX2_hasOnlyFails_19 (by decide) ?_
      exact W.zret (v := 1) (ty := .boolean) hx hb hr rfl (fun zt zht _ => ⟨1, rfl, by rw [h6, h15]; rfl, zht⟩) (fun q h => by cases h) dX2_hasOnlyFails_23 hlocks
set_option maxHeartbeats 4000000 in
set_option maxRecDepth 100000 in
theorem c_his_vpass (l : Launch) (dC : Nat → ClassId) (dI : Nat → Nat → Nat) (h0 : Nat) (v0 v1 v2 v3 v4 v5 v6 v8 v9 : Value) (mk : Bool) (jf : Nat) (hjf : jf ≤ 2) : Met l yX2_verdictOfPass wsX2_verdictOfPass ({ frames := 0, cells := 0, slots := 0, locals := 0 } : Room) (va_Pc [.ref h0] (fw_pR (dC, dI) vwCl [] [(h0, .inr (2, [v0, v1, v2, v3, v4, v5, v6, .int (zI mk), v8, v9, .int (nI jf)]))])) (vp_Si (fun r => r = jv_P jf)) 0 0 (fun _ => False) := by
  refine fw_metR (cc := cX2_verdictOfPass) (maxL := 1) (ret := (some .int)) (by decide) rfl (Nat.le_of_ble_eq_true rfl) ?_
  intro zp ze zs zm zbelow zmeth zc ls hx hb hr hts hown hlocks hml hin hN hP hK hl
  have hown : zs.vm.findClass RX2 = some zm.cls := hown
  have hl : lv_has ls 1 [(0, .ref h0)] := hl
  refine lv_aload_n hx hb dX2_verdictOfPass_0 rfl (lv_at hl 0 rfl) ?_
  refine va_get (D := (dC, dI)) (ci := 2) (v := .int (nI jf)) (C := RX2) (T := TX2) (N := 11) hx hb hts (by decide +kernel) hown hK hP 0 rfl rfl 10 (by decide) (hts (.fieldLink RX2 36 "FlakyBounds$History" "judgedFails" "I") (by decide +kernel)) (fun _ h9 => h9) rfl dX2_verdictOfPass_1 ?_
  refine lv_if_ne (tgt := 11) hx hb dX2_verdictOfPass_4 (by decide) (fun c_4 => ?_) (fun c_4 => ?_)
  · -- then 4
    have h4 : ¬ jf = 0 := fun q9 => c_4 (by rw [q9]; rfl)
    refine lv_iconst (v := 2) hx hb dX2_verdictOfPass_11 (by decide) ?_
    exact W.iret (v := 2) hx hb hr (fun zt zht _ => ⟨2, rfl, by unfold jv_P; rw [if_neg h4], zht⟩) (fun q h => by cases h) dX2_verdictOfPass_12 hlocks
  · -- else 4
    have h4 : jf = 0 := by have := (nI_eq (b := 0) (by omega) (by decide)).mp c_4; exact this
    refine lv_iconst (v := 1) hx hb dX2_verdictOfPass_7 (by decide) ?_
    refine lv_goto (tgt := 12) hx hb dX2_verdictOfPass_8 (by decide) ?_
    exact W.iret (v := 1) hx hb hr (fun zt zht _ => ⟨1, rfl, by unfold jv_P; rw [if_pos h4], zht⟩) (fun q h => by cases h) dX2_verdictOfPass_12 hlocks
set_option maxHeartbeats 4000000 in
set_option maxRecDepth 100000 in
theorem c_his_vfail (l : Launch) (dC : Nat → ClassId) (dI : Nat → Nat → Nat) (h0 : Nat) (v0 v1 v2 v3 v4 v5 v6 v8 v9 : Value) (mk : Bool) (jf : Nat) (hjf : jf ≤ 2) : Met l yX2_verdictOfFail wsX2_verdictOfFail ({ frames := 0, cells := 0, slots := 0, locals := 0 } : Room) (va_Pc [.ref h0] (fw_pR (dC, dI) vwCl [] [(h0, .inr (2, [v0, v1, v2, v3, v4, v5, v6, .int (zI mk), v8, v9, .int (nI jf)]))])) (vp_Si (fun r => r = jv_F mk jf)) 0 0 (fun _ => False) := by
  refine fw_metR (cc := cX2_verdictOfFail) (maxL := 2) (ret := (some .int)) (by decide) rfl (Nat.le_of_ble_eq_true rfl) ?_
  intro zp ze zs zm zbelow zmeth zc ls hx hb hr hts hown hlocks hml hin hN hP hK hl
  have hown : zs.vm.findClass RX2 = some zm.cls := hown
  have hl : lv_has ls 2 [(0, .ref h0)] := hl
  cases mk
  · -- f
    refine lv_aload_n hx hb dX2_verdictOfFail_0 rfl (lv_at hl 0 rfl) ?_
    refine va_get (D := (dC, dI)) (ci := 2) (v := .int (zI false)) (C := RX2) (T := TX2) (N := 11) hx hb hts (by decide +kernel) hown hK hP 0 rfl rfl 7 (by decide) (hts (.fieldLink RX2 46 "FlakyBounds$History" "marked" "Z") (by decide +kernel)) (fun _ h9 => h9) rfl dX2_verdictOfFail_1 ?_
    refine lv_if_eq (tgt := 11) hx hb dX2_verdictOfFail_4 (by decide) (fun _ => ?_) (fun c_4 => absurd (rfl) c_4)
    refine lv_iconst (v := 1) hx hb dX2_verdictOfFail_11 (by decide) ?_
    refine lv_istore_n (lv' := [(1, .int 1), (0, .ref h0)]) hx hb dX2_verdictOfFail_12 rfl hl (by decide) rfl (fun ls hl => ?_)
    refine lv_aload_n hx hb dX2_verdictOfFail_13 rfl (lv_at hl 1 rfl) ?_
    refine va_get (D := (dC, dI)) (ci := 2) (v := .int (nI jf)) (C := RX2) (T := TX2) (N := 11) hx hb hts (by decide +kernel) hown hK hP 0 rfl rfl 10 (by decide) (hts (.fieldLink RX2 36 "FlakyBounds$History" "judgedFails" "I") (by decide +kernel)) (fun _ h9 => h9) rfl dX2_verdictOfFail_14 ?_
    refine lv_iconst (v := 1) hx hb dX2_verdictOfFail_17 (by decide) ?_
    refine lv_iadd hx hb dX2_verdictOfFail_18 ?_
    refine fw_i (x' := nI (jf + 1)) (nI_1 jf) ?_
    refine lv_iload_n hx hb dX2_verdictOfFail_19 rfl (lv_at hl 0 rfl) ?_
    refine lv_icmp_ge (tgt := 25) hx hb dX2_verdictOfFail_20 (by decide) (fun _ => ?_) (fun c_20 => absurd (nI_le (a := 1) (b := jf + 1) (by omega) (by omega)) c_20)
    refine lv_aload_n hx hb dX2_verdictOfFail_25 rfl (lv_at hl 1 rfl) ?_
    refine va_get (D := (dC, dI)) (ci := 2) (v := .int (zI false)) (C := RX2) (T := TX2) (N := 11) hx hb hts (by decide +kernel) hown hK hP 0 rfl rfl 7 (by decide) (hts (.fieldLink RX2 46 "FlakyBounds$History" "marked" "Z") (by decide +kernel)) (fun _ h9 => h9) rfl dX2_verdictOfFail_26 ?_
    refine lv_if_eq (tgt := 36) hx hb dX2_verdictOfFail_29 (by decide) (fun _ => ?_) (fun c_29 => absurd (rfl) c_29)
    refine lv_iconst (v := 3) hx hb dX2_verdictOfFail_36 (by decide) ?_
    exact W.iret (v := 3) hx hb hr (fun zt zht _ => ⟨3, rfl, by unfold jv_F; rw [if_neg (by simp), if_neg (by simp)], zht⟩) (fun q h => by cases h) dX2_verdictOfFail_37 hlocks
  · -- t
    refine lv_aload_n hx hb dX2_verdictOfFail_0 rfl (lv_at hl 0 rfl) ?_
    refine va_get (D := (dC, dI)) (ci := 2) (v := .int (zI true)) (C := RX2) (T := TX2) (N := 11) hx hb hts (by decide +kernel) hown hK hP 0 rfl rfl 7 (by decide) (hts (.fieldLink RX2 46 "FlakyBounds$History" "marked" "Z") (by decide +kernel)) (fun _ h9 => h9) rfl dX2_verdictOfFail_1 ?_
    refine lv_if_eq (tgt := 11) hx hb dX2_verdictOfFail_4 (by decide) (fun c_4 => absurd c_4 (by decide)) (fun _ => ?_)
    refine lv_iconst (v := 3) hx hb dX2_verdictOfFail_7 (by decide) ?_
    refine lv_goto (tgt := 12) hx hb dX2_verdictOfFail_8 (by decide) ?_
    refine lv_istore_n (lv' := [(1, .int 3), (0, .ref h0)]) hx hb dX2_verdictOfFail_12 rfl hl (by decide) rfl (fun ls hl => ?_)
    refine lv_aload_n hx hb dX2_verdictOfFail_13 rfl (lv_at hl 1 rfl) ?_
    refine va_get (D := (dC, dI)) (ci := 2) (v := .int (nI jf)) (C := RX2) (T := TX2) (N := 11) hx hb hts (by decide +kernel) hown hK hP 0 rfl rfl 10 (by decide) (hts (.fieldLink RX2 36 "FlakyBounds$History" "judgedFails" "I") (by decide +kernel)) (fun _ h9 => h9) rfl dX2_verdictOfFail_14 ?_
    refine lv_iconst (v := 1) hx hb dX2_verdictOfFail_17 (by decide) ?_
    refine lv_iadd hx hb dX2_verdictOfFail_18 ?_
    refine fw_i (x' := nI (jf + 1)) (nI_1 jf) ?_
    refine lv_iload_n hx hb dX2_verdictOfFail_19 rfl (lv_at hl 0 rfl) ?_
    refine lv_icmp_ge (tgt := 25) hx hb dX2_verdictOfFail_20 (by decide) (fun c_20 => ?_) (fun c_20 => ?_)
    · -- then 20
      have h20 : ¬ jf + 1 < 3 := by have := (nI_leI (a := 3) (b := jf + 1) (by decide) (by omega)).mp c_20; omega
      refine lv_aload_n hx hb dX2_verdictOfFail_25 rfl (lv_at hl 1 rfl) ?_
      refine va_get (D := (dC, dI)) (ci := 2) (v := .int (zI true)) (C := RX2) (T := TX2) (N := 11) hx hb hts (by decide +kernel) hown hK hP 0 rfl rfl 7 (by decide) (hts (.fieldLink RX2 46 "FlakyBounds$History" "marked" "Z") (by decide +kernel)) (fun _ h9 => h9) rfl dX2_verdictOfFail_26 ?_
      refine lv_if_eq (tgt := 36) hx hb dX2_verdictOfFail_29 (by decide) (fun c_29 => absurd c_29 (by decide)) (fun _ => ?_)
      refine lv_iconst (v := 4) hx hb dX2_verdictOfFail_32 (by decide) ?_
      refine lv_goto (tgt := 37) hx hb dX2_verdictOfFail_33 (by decide) ?_
      exact W.iret (v := 4) hx hb hr (fun zt zht _ => ⟨4, rfl, by unfold jv_F; rw [if_neg (by simpa using h20), if_pos rfl], zht⟩) (fun q h => by cases h) dX2_verdictOfFail_37 hlocks
    · -- else 20
      have h20 : jf + 1 < 3 := by
        rcases Nat.lt_or_ge (jf + 1) 3 with q9 | q9
        · exact q9
        · exact absurd (nI_le (a := 3) (b := jf + 1) q9 (by omega)) c_20
      refine lv_iconst (v := 0) hx hb dX2_verdictOfFail_23 (by decide) ?_
      exact W.iret (v := 0) hx hb hr (fun zt zht _ => ⟨0, rfl, by unfold jv_F; rw [if_pos (by simpa using h20)], zht⟩) (fun q h => by cases h) dX2_verdictOfFail_24 hlocks
set_option maxHeartbeats 4000000 in
set_option maxRecDepth 100000 in
theorem c_his_next (l : Launch) (dC : Nat → ClassId) (dI : Nat → Nat → Nat) (h0 : Nat) (v0 v1 v2 v3 v4 v5 v6 v8 : Value) (mk : Bool) (je : Int32) (jf : Nat) (x : Int32) (q : Bool) (sz : Nat) (hjf : jf ≤ 2) : Met l yX2_nextVerdict wsX2_nextVerdict ({ frames := 1, cells := 0, slots := 0, locals := 21 } : Room) (va_Pc [.ref h0, .int x, .int (zI q)] (fw_pW (dC, dI) vwCl [] [(h0, .inr (2, [v0, v1, v2, v3, v4, v5, v6, .int (zI mk), v8, .int je, .int (nI jf)]))] sz)) (va_Qi (S := Unit) (fun r _ => r = jv_V mk q (jv_f je x jf)) (fun u t => fw_q (dC, dI) vwCl [] (va_A [(h0, .inr (2, [v0, v1, v2, v3, v4, v5, v6, .int (zI mk), v8, .int je, .int (nI jf)]))] sz) [(h0, .inr (2, [v0, v1, v2, v3, v4, v5, v6, .int (zI mk), v8, .int x, .int (nI (jv_n mk q (jv_f je x jf)))]))] t) (va_A [(h0, .inr (2, [v0, v1, v2, v3, v4, v5, v6, .int (zI mk), v8, .int je, .int (nI jf)]))] sz)) 0 0 (va_A [(h0, .inr (2, [v0, v1, v2, v3, v4, v5, v6, .int (zI mk), v8, .int je, .int (nI jf)]))] sz) := by
  refine fw_metW (cc := cX2_nextVerdict) (maxL := 4) (ret := (some .int)) (by decide) rfl (Nat.le_of_ble_eq_true rfl) ?_
  intro zp ze zs zm zbelow zmeth zc ls hx hb hr hts hown hlocks hml hin hN hsz hP hK hD hA hS hl
  generalize hAe : (va_A [(h0, .inr (2, [v0, v1, v2, v3, v4, v5, v6, .int (zI mk), v8, .int je, .int (nI jf)]))] sz) = A at hD hA hS ⊢
  have hown : zs.vm.findClass RX2 = some zm.cls := hown
  have hl : lv_has ls 4 [(0, .ref h0), (1, .int x), (2, .int (zI q))] := hl
  refine lv_iload_n hx hb dX2_nextVerdict_0 rfl (lv_at hl 1 rfl) ?_
  refine lv_aload_n hx hb dX2_nextVerdict_1 rfl (lv_at hl 0 rfl) ?_
  refine va_get (D := (dC, dI)) (ci := 2) (v := .int je) (C := RX2) (T := TX2) (N := 11) hx hb hts (by decide +kernel) hown hK hP 0 rfl rfl 9 (by decide) (hts (.fieldLink RX2 19 "FlakyBounds$History" "judgedEdition" "I") (by decide +kernel)) (fun _ h9 => h9) rfl dX2_nextVerdict_2 ?_
  refine lv_icmp_eq (tgt := 18) hx hb dX2_nextVerdict_5 (by decide) (fun c_5 => ?_) (fun c_5 => ?_)
  · -- then 5
    have hf : jf = jv_f je x jf := by unfold jv_f; rw [if_pos c_5]
    have hf2 : jv_f je x jf ≤ 2 := by unfold jv_f; split <;> omega
    have hP : va_P (dC, dI) vwCl [(h0, .inr (2, [v0, v1, v2, v3, v4, v5, v6, .int (zI mk), v8, .int x, .int (nI (jv_f je x jf))]))] zs.heap := by rw [← hf, c_5]; exact hP
    have hD : va_D A [(h0, .inr (2, [v0, v1, v2, v3, v4, v5, v6, .int (zI mk), v8, .int x, .int (nI (jv_f je x jf))]))] := by rw [← hf, c_5]; exact hD
    generalize jv_f je x jf = f at hP hD hf2 ⊢
    refine lv_iload_n hx hb dX2_nextVerdict_18 rfl (lv_at hl 2 rfl) ?_
    refine lv_if_eq (tgt := 29) hx hb dX2_nextVerdict_19 (by decide) (fun c_19 => ?_) (fun c_19 => ?_)
    · -- then 19
      have hq := zI_eq0.mp c_19
      subst hq
      refine lv_aload_n hx hb dX2_nextVerdict_29 rfl (lv_at hl 0 rfl) ?_
      have hPc := hP.sub (ws' := [(h0, .inr (2, [v0, v1, v2, v3, v4, v5, v6, .int (zI mk), v8, .int x, .int (nI f)]))]) [0] rfl
      have hKc := hK.sub (tys' := []) [] rfl
      refine vp_callSi (va_runV (As := []) (rest := []) ⟨hx, hb, hml, hown, hts⟩ (c_his_vfail l dC dI h0 v0 v1 v2 v3 v4 v5 v6 v8 (.int x) mk f hf2) (cwV 0 hts gX2_nextVerdict_X2_verdictOfFail rfl rfl rfl (by decide +kernel) ⟨Nat.le_of_ble_eq_true rfl, Nat.le_of_ble_eq_true rfl⟩) (fw_preVR hN hKc hPc (ci := 2) (q0 := 0) rfl rfl) rfl rfl hl.1 rfl (lv_room (Nat.le_of_ble_eq_true rfl)) dX2_nextVerdict_30 ⟨Nat.le_of_ble_eq_true rfl, Nat.le_of_ble_eq_true rfl⟩).run (fun r_30 hr_30 => ?_)
      obtain rfl : r_30 = jv_F mk f := hr_30
      refine lv_istore_n (lv' := [(3, .int (jv_F mk f)), (0, .ref h0), (1, .int x), (2, .int (zI false))]) hx hb dX2_nextVerdict_33 rfl hl (by decide) rfl (fun ls hl => ?_)
      refine lv_aload_n hx hb dX2_nextVerdict_34 rfl (lv_at hl 1 rfl) ?_
      refine lv_iload_n hx hb dX2_nextVerdict_35 rfl (lv_at hl 0 rfl) ?_
      refine lv_if_ne (tgt := 48) hx hb dX2_nextVerdict_36 (by decide) (fun c_36 => ?_) (fun c_36 => ?_)
      · -- then 36
        refine lv_iconst (v := 0) hx hb dX2_nextVerdict_48 (by decide) ?_
        refine va_put (D := (dC, dI)) (ci := 2) (v := .int 0) (ty := .int) (C := RX2) (T := TX2) (N := 11) hx hb hts (by decide +kernel) tyX2 tyX2_ok nmX2 hown hK hP hD hS 0 rfl rfl 10 (by decide) (hts (.fieldLink RX2 36 "FlakyBounds$History" "judgedFails" "I") (by decide +kernel)) (fun _ h9 => h9) rfl (by decide +kernel) rfl rfl (Nat.le_of_ble_eq_true rfl) dX2_nextVerdict_49 (fun H locs hP hD hS => ?_)
        have hP : va_P (dC, dI) vwCl [(h0, .inr (2, [v0, v1, v2, v3, v4, v5, v6, .int (zI mk), v8, .int x, .int 0]))] H := hP
        have hD : va_D A [(h0, .inr (2, [v0, v1, v2, v3, v4, v5, v6, .int (zI mk), v8, .int x, .int 0]))] := hD
        refine lv_iload_n hx hb dX2_nextVerdict_52 rfl (lv_at hl 0 rfl) ?_
        have hn9 : jv_n mk false f = 0 := by unfold jv_n; rw [if_neg (show ¬ jv_V mk false f = 0 from c_36)]
        have hP : va_P (dC, dI) vwCl [(h0, .inr (2, [v0, v1, v2, v3, v4, v5, v6, .int (zI mk), v8, .int x, .int (nI (jv_n mk false f))]))] H := by rw [hn9]; exact hP
        have hD : va_D A [(h0, .inr (2, [v0, v1, v2, v3, v4, v5, v6, .int (zI mk), v8, .int x, .int (nI (jv_n mk false f))]))] := by rw [hn9]; exact hD
        have hP9 := hP.sub (ws' := [(h0, .inr (2, [v0, v1, v2, v3, v4, v5, v6, .int (zI mk), v8, .int x, .int (nI (jv_n mk false f))]))]) [0] rfl
        have hD9 := hD.sub (ws' := [(h0, .inr (2, [v0, v1, v2, v3, v4, v5, v6, .int (zI mk), v8, .int x, .int (nI (jv_n mk false f))]))]) [0] (by decide) rfl
        have hK9 := hK.sub (tys' := []) [] rfl
        exact W.iret (v := (jv_F mk f)) hx hb hr (fun zt zht hW => ⟨⟨(jv_F mk f), ⟨⟩, rfl, rfl, by rw [zht]; exact hP9, va_K.moved hW.alike hK9, hD9⟩, hS.F zht⟩) hS.2.2 dX2_nextVerdict_53 hlocks
      · -- else 36
        refine lv_aload_n hx hb dX2_nextVerdict_39 rfl (lv_at hl 1 rfl) ?_
        refine va_get (D := (dC, dI)) (ci := 2) (v := .int (nI f)) (C := RX2) (T := TX2) (N := 11) hx hb hts (by decide +kernel) hown hK hP 0 rfl rfl 10 (by decide) (hts (.fieldLink RX2 36 "FlakyBounds$History" "judgedFails" "I") (by decide +kernel)) (fun _ h9 => h9) rfl dX2_nextVerdict_40 ?_
        refine lv_iconst (v := 1) hx hb dX2_nextVerdict_43 (by decide) ?_
        refine lv_iadd hx hb dX2_nextVerdict_44 ?_
        refine fw_i (x' := nI (f + 1)) (nI_1 f) ?_
        refine lv_goto (tgt := 49) hx hb dX2_nextVerdict_45 (by decide) ?_
        refine va_put (D := (dC, dI)) (ci := 2) (v := .int (nI (f + 1))) (ty := .int) (C := RX2) (T := TX2) (N := 11) hx hb hts (by decide +kernel) tyX2 tyX2_ok nmX2 hown hK hP hD hS 0 rfl rfl 10 (by decide) (hts (.fieldLink RX2 36 "FlakyBounds$History" "judgedFails" "I") (by decide +kernel)) (fun _ h9 => h9) rfl (by decide +kernel) rfl rfl (Nat.le_of_ble_eq_true rfl) dX2_nextVerdict_49 (fun H locs hP hD hS => ?_)
        have hP : va_P (dC, dI) vwCl [(h0, .inr (2, [v0, v1, v2, v3, v4, v5, v6, .int (zI mk), v8, .int x, .int (nI (f + 1))]))] H := hP
        have hD : va_D A [(h0, .inr (2, [v0, v1, v2, v3, v4, v5, v6, .int (zI mk), v8, .int x, .int (nI (f + 1))]))] := hD
        refine lv_iload_n hx hb dX2_nextVerdict_52 rfl (lv_at hl 0 rfl) ?_
        have hn9 : jv_n mk false f = f + 1 := by unfold jv_n; rw [if_pos (show jv_V mk false f = 0 from c_36)]
        have hP : va_P (dC, dI) vwCl [(h0, .inr (2, [v0, v1, v2, v3, v4, v5, v6, .int (zI mk), v8, .int x, .int (nI (jv_n mk false f))]))] H := by rw [hn9]; exact hP
        have hD : va_D A [(h0, .inr (2, [v0, v1, v2, v3, v4, v5, v6, .int (zI mk), v8, .int x, .int (nI (jv_n mk false f))]))] := by rw [hn9]; exact hD
        have hP9 := hP.sub (ws' := [(h0, .inr (2, [v0, v1, v2, v3, v4, v5, v6, .int (zI mk), v8, .int x, .int (nI (jv_n mk false f))]))]) [0] rfl
        have hD9 := hD.sub (ws' := [(h0, .inr (2, [v0, v1, v2, v3, v4, v5, v6, .int (zI mk), v8, .int x, .int (nI (jv_n mk false f))]))]) [0] (by decide) rfl
        have hK9 := hK.sub (tys' := []) [] rfl
        exact W.iret (v := (jv_F mk f)) hx hb hr (fun zt zht hW => ⟨⟨(jv_F mk f), ⟨⟩, rfl, rfl, by rw [zht]; exact hP9, va_K.moved hW.alike hK9, hD9⟩, hS.F zht⟩) hS.2.2 dX2_nextVerdict_53 hlocks
    · -- else 19
      have hq := zI_ne0.mp c_19
      subst hq
      refine lv_aload_n hx hb dX2_nextVerdict_22 rfl (lv_at hl 0 rfl) ?_
      have hPc := hP.sub (ws' := [(h0, .inr (2, [v0, v1, v2, v3, v4, v5, v6, .int (zI mk), v8, .int x, .int (nI f)]))]) [0] rfl
      have hKc := hK.sub (tys' := []) [] rfl
      refine vp_callSi (va_runV (As := []) (rest := []) ⟨hx, hb, hml, hown, hts⟩ (c_his_vpass l dC dI h0 v0 v1 v2 v3 v4 v5 v6 v8 (.int x) mk f hf2) (cwV 0 hts gX2_nextVerdict_X2_verdictOfPass rfl rfl rfl (by decide +kernel) ⟨Nat.le_of_ble_eq_true rfl, Nat.le_of_ble_eq_true rfl⟩) (fw_preVR hN hKc hPc (ci := 2) (q0 := 0) rfl rfl) rfl rfl hl.1 rfl (lv_room (Nat.le_of_ble_eq_true rfl)) dX2_nextVerdict_23 ⟨Nat.le_of_ble_eq_true rfl, Nat.le_of_ble_eq_true rfl⟩).run (fun r_23 hr_23 => ?_)
      obtain rfl : r_23 = jv_P f := hr_23
      refine lv_goto (tgt := 33) hx hb dX2_nextVerdict_26 (by decide) ?_
      refine lv_istore_n (lv' := [(3, .int (jv_P f)), (0, .ref h0), (1, .int x), (2, .int (zI true))]) hx hb dX2_nextVerdict_33 rfl hl (by decide) rfl (fun ls hl => ?_)
      refine lv_aload_n hx hb dX2_nextVerdict_34 rfl (lv_at hl 1 rfl) ?_
      refine lv_iload_n hx hb dX2_nextVerdict_35 rfl (lv_at hl 0 rfl) ?_
      refine lv_if_ne (tgt := 48) hx hb dX2_nextVerdict_36 (by decide) (fun c_36 => ?_) (fun c_36 => ?_)
      · -- then 36
        refine lv_iconst (v := 0) hx hb dX2_nextVerdict_48 (by decide) ?_
        refine va_put (D := (dC, dI)) (ci := 2) (v := .int 0) (ty := .int) (C := RX2) (T := TX2) (N := 11) hx hb hts (by decide +kernel) tyX2 tyX2_ok nmX2 hown hK hP hD hS 0 rfl rfl 10 (by decide) (hts (.fieldLink RX2 36 "FlakyBounds$History" "judgedFails" "I") (by decide +kernel)) (fun _ h9 => h9) rfl (by decide +kernel) rfl rfl (Nat.le_of_ble_eq_true rfl) dX2_nextVerdict_49 (fun H locs hP hD hS => ?_)
        have hP : va_P (dC, dI) vwCl [(h0, .inr (2, [v0, v1, v2, v3, v4, v5, v6, .int (zI mk), v8, .int x, .int 0]))] H := hP
        have hD : va_D A [(h0, .inr (2, [v0, v1, v2, v3, v4, v5, v6, .int (zI mk), v8, .int x, .int 0]))] := hD
        refine lv_iload_n hx hb dX2_nextVerdict_52 rfl (lv_at hl 0 rfl) ?_
        have hn9 : jv_n mk true f = 0 := by unfold jv_n; rw [if_neg (show ¬ jv_V mk true f = 0 from c_36)]
        have hP : va_P (dC, dI) vwCl [(h0, .inr (2, [v0, v1, v2, v3, v4, v5, v6, .int (zI mk), v8, .int x, .int (nI (jv_n mk true f))]))] H := by rw [hn9]; exact hP
        have hD : va_D A [(h0, .inr (2, [v0, v1, v2, v3, v4, v5, v6, .int (zI mk), v8, .int x, .int (nI (jv_n mk true f))]))] := by rw [hn9]; exact hD
        have hP9 := hP.sub (ws' := [(h0, .inr (2, [v0, v1, v2, v3, v4, v5, v6, .int (zI mk), v8, .int x, .int (nI (jv_n mk true f))]))]) [0] rfl
        have hD9 := hD.sub (ws' := [(h0, .inr (2, [v0, v1, v2, v3, v4, v5, v6, .int (zI mk), v8, .int x, .int (nI (jv_n mk true f))]))]) [0] (by decide) rfl
        have hK9 := hK.sub (tys' := []) [] rfl
        exact W.iret (v := (jv_P f)) hx hb hr (fun zt zht hW => ⟨⟨(jv_P f), ⟨⟩, rfl, rfl, by rw [zht]; exact hP9, va_K.moved hW.alike hK9, hD9⟩, hS.F zht⟩) hS.2.2 dX2_nextVerdict_53 hlocks
      · -- else 36
        refine lv_aload_n hx hb dX2_nextVerdict_39 rfl (lv_at hl 1 rfl) ?_
        refine va_get (D := (dC, dI)) (ci := 2) (v := .int (nI f)) (C := RX2) (T := TX2) (N := 11) hx hb hts (by decide +kernel) hown hK hP 0 rfl rfl 10 (by decide) (hts (.fieldLink RX2 36 "FlakyBounds$History" "judgedFails" "I") (by decide +kernel)) (fun _ h9 => h9) rfl dX2_nextVerdict_40 ?_
        refine lv_iconst (v := 1) hx hb dX2_nextVerdict_43 (by decide) ?_
        refine lv_iadd hx hb dX2_nextVerdict_44 ?_
        refine fw_i (x' := nI (f + 1)) (nI_1 f) ?_
        refine lv_goto (tgt := 49) hx hb dX2_nextVerdict_45 (by decide) ?_
        refine va_put (D := (dC, dI)) (ci := 2) (v := .int (nI (f + 1))) (ty := .int) (C := RX2) (T := TX2) (N := 11) hx hb hts (by decide +kernel) tyX2 tyX2_ok nmX2 hown hK hP hD hS 0 rfl rfl 10 (by decide) (hts (.fieldLink RX2 36 "FlakyBounds$History" "judgedFails" "I") (by decide +kernel)) (fun _ h9 => h9) rfl (by decide +kernel) rfl rfl (Nat.le_of_ble_eq_true rfl) dX2_nextVerdict_49 (fun H locs hP hD hS => ?_)
        have hP : va_P (dC, dI) vwCl [(h0, .inr (2, [v0, v1, v2, v3, v4, v5, v6, .int (zI mk), v8, .int x, .int (nI (f + 1))]))] H := hP
        have hD : va_D A [(h0, .inr (2, [v0, v1, v2, v3, v4, v5, v6, .int (zI mk), v8, .int x, .int (nI (f + 1))]))] := hD
        refine lv_iload_n hx hb dX2_nextVerdict_52 rfl (lv_at hl 0 rfl) ?_
        have hn9 : jv_n mk true f = f + 1 := by unfold jv_n; rw [if_pos (show jv_V mk true f = 0 from c_36)]
        have hP : va_P (dC, dI) vwCl [(h0, .inr (2, [v0, v1, v2, v3, v4, v5, v6, .int (zI mk), v8, .int x, .int (nI (jv_n mk true f))]))] H := by rw [hn9]; exact hP
        have hD : va_D A [(h0, .inr (2, [v0, v1, v2, v3, v4, v5, v6, .int (zI mk), v8, .int x, .int (nI (jv_n mk true f))]))] := by rw [hn9]; exact hD
        have hP9 := hP.sub (ws' := [(h0, .inr (2, [v0, v1, v2, v3, v4, v5, v6, .int (zI mk), v8, .int x, .int (nI (jv_n mk true f))]))]) [0] rfl
        have hD9 := hD.sub (ws' := [(h0, .inr (2, [v0, v1, v2, v3, v4, v5, v6, .int (zI mk), v8, .int x, .int (nI (jv_n mk true f))]))]) [0] (by decide) rfl
        have hK9 := hK.sub (tys' := []) [] rfl
        exact W.iret (v := (jv_P f)) hx hb hr (fun zt zht hW => ⟨⟨(jv_P f), ⟨⟩, rfl, rfl, by rw [zht]; exact hP9, va_K.moved hW.alike hK9, hD9⟩, hS.F zht⟩) hS.2.2 dX2_nextVerdict_53 hlocks
  · -- else 5
    refine lv_aload_n hx hb dX2_nextVerdict_8 rfl (lv_at hl 0 rfl) ?_
    refine lv_iload_n hx hb dX2_nextVerdict_9 rfl (lv_at hl 1 rfl) ?_
    refine va_put (D := (dC, dI)) (ci := 2) (v := .int x) (ty := .int) (C := RX2) (T := TX2) (N := 11) hx hb hts (by decide +kernel) tyX2 tyX2_ok nmX2 hown hK hP hD hS 0 rfl rfl 9 (by decide) (hts (.fieldLink RX2 19 "FlakyBounds$History" "judgedEdition" "I") (by decide +kernel)) (fun _ h9 => h9) rfl (by decide +kernel) rfl rfl (Nat.le_of_ble_eq_true rfl) dX2_nextVerdict_10 (fun H locs hP hD hS => ?_)
    have hP : va_P (dC, dI) vwCl [(h0, .inr (2, [v0, v1, v2, v3, v4, v5, v6, .int (zI mk), v8, .int x, .int (nI jf)]))] H := hP
    have hD : va_D A [(h0, .inr (2, [v0, v1, v2, v3, v4, v5, v6, .int (zI mk), v8, .int x, .int (nI jf)]))] := hD
    refine lv_aload_n hx hb dX2_nextVerdict_13 rfl (lv_at hl 0 rfl) ?_
    refine lv_iconst (v := 0) hx hb dX2_nextVerdict_14 (by decide) ?_
    refine va_put (D := (dC, dI)) (ci := 2) (v := .int 0) (ty := .int) (C := RX2) (T := TX2) (N := 11) hx hb hts (by decide +kernel) tyX2 tyX2_ok nmX2 hown hK hP hD hS 0 rfl rfl 10 (by decide) (hts (.fieldLink RX2 36 "FlakyBounds$History" "judgedFails" "I") (by decide +kernel)) (fun _ h9 => h9) rfl (by decide +kernel) rfl rfl (Nat.le_of_ble_eq_true rfl) dX2_nextVerdict_15 (fun H locs hP hD hS => ?_)
    have hP : va_P (dC, dI) vwCl [(h0, .inr (2, [v0, v1, v2, v3, v4, v5, v6, .int (zI mk), v8, .int x, .int 0]))] H := hP
    have hD : va_D A [(h0, .inr (2, [v0, v1, v2, v3, v4, v5, v6, .int (zI mk), v8, .int x, .int 0]))] := hD
    have hf : 0 = jv_f je x jf := by unfold jv_f; rw [if_neg c_5]
    have hf2 : jv_f je x jf ≤ 2 := by unfold jv_f; split <;> omega
    have hP : va_P (dC, dI) vwCl [(h0, .inr (2, [v0, v1, v2, v3, v4, v5, v6, .int (zI mk), v8, .int x, .int (nI (jv_f je x jf))]))] H := by rw [← hf]; exact hP
    have hD : va_D A [(h0, .inr (2, [v0, v1, v2, v3, v4, v5, v6, .int (zI mk), v8, .int x, .int (nI (jv_f je x jf))]))] := by rw [← hf]; exact hD
    generalize jv_f je x jf = f at hP hD hf2 ⊢
    refine lv_iload_n hx hb dX2_nextVerdict_18 rfl (lv_at hl 2 rfl) ?_
    refine lv_if_eq (tgt := 29) hx hb dX2_nextVerdict_19 (by decide) (fun c_19 => ?_) (fun c_19 => ?_)
    · -- then 19
      have hq := zI_eq0.mp c_19
      subst hq
      refine lv_aload_n hx hb dX2_nextVerdict_29 rfl (lv_at hl 0 rfl) ?_
      have hPc := hP.sub (ws' := [(h0, .inr (2, [v0, v1, v2, v3, v4, v5, v6, .int (zI mk), v8, .int x, .int (nI f)]))]) [0] rfl
      have hKc := hK.sub (tys' := []) [] rfl
      refine vp_callSi (va_runV (As := []) (rest := []) ⟨hx, hb, hml, hown, hts⟩ (c_his_vfail l dC dI h0 v0 v1 v2 v3 v4 v5 v6 v8 (.int x) mk f hf2) (cwV 0 hts gX2_nextVerdict_X2_verdictOfFail rfl rfl rfl (by decide +kernel) ⟨Nat.le_of_ble_eq_true rfl, Nat.le_of_ble_eq_true rfl⟩) (fw_preVR hN hKc hPc (ci := 2) (q0 := 0) rfl rfl) rfl rfl hl.1 rfl (lv_room (Nat.le_of_ble_eq_true rfl)) dX2_nextVerdict_30 ⟨Nat.le_of_ble_eq_true rfl, Nat.le_of_ble_eq_true rfl⟩).run (fun r_30 hr_30 => ?_)
      obtain rfl : r_30 = jv_F mk f := hr_30
      refine lv_istore_n (lv' := [(3, .int (jv_F mk f)), (0, .ref h0), (1, .int x), (2, .int (zI false))]) hx hb dX2_nextVerdict_33 rfl hl (by decide) rfl (fun ls hl => ?_)
      refine lv_aload_n hx hb dX2_nextVerdict_34 rfl (lv_at hl 1 rfl) ?_
      refine lv_iload_n hx hb dX2_nextVerdict_35 rfl (lv_at hl 0 rfl) ?_
      refine lv_if_ne (tgt := 48) hx hb dX2_nextVerdict_36 (by decide) (fun c_36 => ?_) (fun c_36 => ?_)
      · -- then 36
        refine lv_iconst (v := 0) hx hb dX2_nextVerdict_48 (by decide) ?_
        refine va_put (D := (dC, dI)) (ci := 2) (v := .int 0) (ty := .int) (C := RX2) (T := TX2) (N := 11) hx hb hts (by decide +kernel) tyX2 tyX2_ok nmX2 hown hK hP hD hS 0 rfl rfl 10 (by decide) (hts (.fieldLink RX2 36 "FlakyBounds$History" "judgedFails" "I") (by decide +kernel)) (fun _ h9 => h9) rfl (by decide +kernel) rfl rfl (Nat.le_of_ble_eq_true rfl) dX2_nextVerdict_49 (fun H locs hP hD hS => ?_)
        have hP : va_P (dC, dI) vwCl [(h0, .inr (2, [v0, v1, v2, v3, v4, v5, v6, .int (zI mk), v8, .int x, .int 0]))] H := hP
        have hD : va_D A [(h0, .inr (2, [v0, v1, v2, v3, v4, v5, v6, .int (zI mk), v8, .int x, .int 0]))] := hD
        refine lv_iload_n hx hb dX2_nextVerdict_52 rfl (lv_at hl 0 rfl) ?_
        have hn9 : jv_n mk false f = 0 := by unfold jv_n; rw [if_neg (show ¬ jv_V mk false f = 0 from c_36)]
        have hP : va_P (dC, dI) vwCl [(h0, .inr (2, [v0, v1, v2, v3, v4, v5, v6, .int (zI mk), v8, .int x, .int (nI (jv_n mk false f))]))] H := by rw [hn9]; exact hP
        have hD : va_D A [(h0, .inr (2, [v0, v1, v2, v3, v4, v5, v6, .int (zI mk), v8, .int x, .int (nI (jv_n mk false f))]))] := by rw [hn9]; exact hD
        have hP9 := hP.sub (ws' := [(h0, .inr (2, [v0, v1, v2, v3, v4, v5, v6, .int (zI mk), v8, .int x, .int (nI (jv_n mk false f))]))]) [0] rfl
        have hD9 := hD.sub (ws' := [(h0, .inr (2, [v0, v1, v2, v3, v4, v5, v6, .int (zI mk), v8, .int x, .int (nI (jv_n mk false f))]))]) [0] (by decide) rfl
        have hK9 := hK.sub (tys' := []) [] rfl
        exact W.iret (v := (jv_F mk f)) hx hb hr (fun zt zht hW => ⟨⟨(jv_F mk f), ⟨⟩, rfl, rfl, by rw [zht]; exact hP9, va_K.moved hW.alike hK9, hD9⟩, hS.F zht⟩) hS.2.2 dX2_nextVerdict_53 hlocks
      · -- else 36
        refine lv_aload_n hx hb dX2_nextVerdict_39 rfl (lv_at hl 1 rfl) ?_
        refine va_get (D := (dC, dI)) (ci := 2) (v := .int (nI f)) (C := RX2) (T := TX2) (N := 11) hx hb hts (by decide +kernel) hown hK hP 0 rfl rfl 10 (by decide) (hts (.fieldLink RX2 36 "FlakyBounds$History" "judgedFails" "I") (by decide +kernel)) (fun _ h9 => h9) rfl dX2_nextVerdict_40 ?_
        refine lv_iconst (v := 1) hx hb dX2_nextVerdict_43 (by decide) ?_
        refine lv_iadd hx hb dX2_nextVerdict_44 ?_
        refine fw_i (x' := nI (f + 1)) (nI_1 f) ?_
        refine lv_goto (tgt := 49) hx hb dX2_nextVerdict_45 (by decide) ?_
        refine va_put (D := (dC, dI)) (ci := 2) (v := .int (nI (f + 1))) (ty := .int) (C := RX2) (T := TX2) (N := 11) hx hb hts (by decide +kernel) tyX2 tyX2_ok nmX2 hown hK hP hD hS 0 rfl rfl 10 (by decide) (hts (.fieldLink RX2 36 "FlakyBounds$History" "judgedFails" "I") (by decide +kernel)) (fun _ h9 => h9) rfl (by decide +kernel) rfl rfl (Nat.le_of_ble_eq_true rfl) dX2_nextVerdict_49 (fun H locs hP hD hS => ?_)
        have hP : va_P (dC, dI) vwCl [(h0, .inr (2, [v0, v1, v2, v3, v4, v5, v6, .int (zI mk), v8, .int x, .int (nI (f + 1))]))] H := hP
        have hD : va_D A [(h0, .inr (2, [v0, v1, v2, v3, v4, v5, v6, .int (zI mk), v8, .int x, .int (nI (f + 1))]))] := hD
        refine lv_iload_n hx hb dX2_nextVerdict_52 rfl (lv_at hl 0 rfl) ?_
        have hn9 : jv_n mk false f = f + 1 := by unfold jv_n; rw [if_pos (show jv_V mk false f = 0 from c_36)]
        have hP : va_P (dC, dI) vwCl [(h0, .inr (2, [v0, v1, v2, v3, v4, v5, v6, .int (zI mk), v8, .int x, .int (nI (jv_n mk false f))]))] H := by rw [hn9]; exact hP
        have hD : va_D A [(h0, .inr (2, [v0, v1, v2, v3, v4, v5, v6, .int (zI mk), v8, .int x, .int (nI (jv_n mk false f))]))] := by rw [hn9]; exact hD
        have hP9 := hP.sub (ws' := [(h0, .inr (2, [v0, v1, v2, v3, v4, v5, v6, .int (zI mk), v8, .int x, .int (nI (jv_n mk false f))]))]) [0] rfl
        have hD9 := hD.sub (ws' := [(h0, .inr (2, [v0, v1, v2, v3, v4, v5, v6, .int (zI mk), v8, .int x, .int (nI (jv_n mk false f))]))]) [0] (by decide) rfl
        have hK9 := hK.sub (tys' := []) [] rfl
        exact W.iret (v := (jv_F mk f)) hx hb hr (fun zt zht hW => ⟨⟨(jv_F mk f), ⟨⟩, rfl, rfl, by rw [zht]; exact hP9, va_K.moved hW.alike hK9, hD9⟩, hS.F zht⟩) hS.2.2 dX2_nextVerdict_53 hlocks
    · -- else 19
      have hq := zI_ne0.mp c_19
      subst hq
      refine lv_aload_n hx hb dX2_nextVerdict_22 rfl (lv_at hl 0 rfl) ?_
      have hPc := hP.sub (ws' := [(h0, .inr (2, [v0, v1, v2, v3, v4, v5, v6, .int (zI mk), v8, .int x, .int (nI f)]))]) [0] rfl
      have hKc := hK.sub (tys' := []) [] rfl
      refine vp_callSi (va_runV (As := []) (rest := []) ⟨hx, hb, hml, hown, hts⟩ (c_his_vpass l dC dI h0 v0 v1 v2 v3 v4 v5 v6 v8 (.int x) mk f hf2) (cwV 0 hts gX2_nextVerdict_X2_verdictOfPass rfl rfl rfl (by decide +kernel) ⟨Nat.le_of_ble_eq_true rfl, Nat.le_of_ble_eq_true rfl⟩) (fw_preVR hN hKc hPc (ci := 2) (q0 := 0) rfl rfl) rfl rfl hl.1 rfl (lv_room (Nat.le_of_ble_eq_true rfl)) dX2_nextVerdict_23 ⟨Nat.le_of_ble_eq_true rfl, Nat.le_of_ble_eq_true rfl⟩).run (fun r_23 hr_23 => ?_)
      obtain rfl : r_23 = jv_P f := hr_23
      refine lv_goto (tgt := 33) hx hb dX2_nextVerdict_26 (by decide) ?_
      refine lv_istore_n (lv' := [(3, .int (jv_P f)), (0, .ref h0), (1, .int x), (2, .int (zI true))]) hx hb dX2_nextVerdict_33 rfl hl (by decide) rfl (fun ls hl => ?_)
      refine lv_aload_n hx hb dX2_nextVerdict_34 rfl (lv_at hl 1 rfl) ?_
      refine lv_iload_n hx hb dX2_nextVerdict_35 rfl (lv_at hl 0 rfl) ?_
      refine lv_if_ne (tgt := 48) hx hb dX2_nextVerdict_36 (by decide) (fun c_36 => ?_) (fun c_36 => ?_)
      · -- then 36
        refine lv_iconst (v := 0) hx hb dX2_nextVerdict_48 (by decide) ?_
        refine va_put (D := (dC, dI)) (ci := 2) (v := .int 0) (ty := .int) (C := RX2) (T := TX2) (N := 11) hx hb hts (by decide +kernel) tyX2 tyX2_ok nmX2 hown hK hP hD hS 0 rfl rfl 10 (by decide) (hts (.fieldLink RX2 36 "FlakyBounds$History" "judgedFails" "I") (by decide +kernel)) (fun _ h9 => h9) rfl (by decide +kernel) rfl rfl (Nat.le_of_ble_eq_true rfl) dX2_nextVerdict_49 (fun H locs hP hD hS => ?_)
        have hP : va_P (dC, dI) vwCl [(h0, .inr (2, [v0, v1, v2, v3, v4, v5, v6, .int (zI mk), v8, .int x, .int 0]))] H := hP
        have hD : va_D A [(h0, .inr (2, [v0, v1, v2, v3, v4, v5, v6, .int (zI mk), v8, .int x, .int 0]))] := hD
        refine lv_iload_n hx hb dX2_nextVerdict_52 rfl (lv_at hl 0 rfl) ?_
        have hn9 : jv_n mk true f = 0 := by unfold jv_n; rw [if_neg (show ¬ jv_V mk true f = 0 from c_36)]
        have hP : va_P (dC, dI) vwCl [(h0, .inr (2, [v0, v1, v2, v3, v4, v5, v6, .int (zI mk), v8, .int x, .int (nI (jv_n mk true f))]))] H := by rw [hn9]; exact hP
        have hD : va_D A [(h0, .inr (2, [v0, v1, v2, v3, v4, v5, v6, .int (zI mk), v8, .int x, .int (nI (jv_n mk true f))]))] := by rw [hn9]; exact hD
        have hP9 := hP.sub (ws' := [(h0, .inr (2, [v0, v1, v2, v3, v4, v5, v6, .int (zI mk), v8, .int x, .int (nI (jv_n mk true f))]))]) [0] rfl
        have hD9 := hD.sub (ws' := [(h0, .inr (2, [v0, v1, v2, v3, v4, v5, v6, .int (zI mk), v8, .int x, .int (nI (jv_n mk true f))]))]) [0] (by decide) rfl
        have hK9 := hK.sub (tys' := []) [] rfl
        exact W.iret (v := (jv_P f)) hx hb hr (fun zt zht hW => ⟨⟨(jv_P f), ⟨⟩, rfl, rfl, by rw [zht]; exact hP9, va_K.moved hW.alike hK9, hD9⟩, hS.F zht⟩) hS.2.2 dX2_nextVerdict_53 hlocks
      · -- else 36
        refine lv_aload_n hx hb dX2_nextVerdict_39 rfl (lv_at hl 1 rfl) ?_
        refine va_get (D := (dC, dI)) (ci := 2) (v := .int (nI f)) (C := RX2) (T := TX2) (N := 11) hx hb hts (by decide +kernel) hown hK hP 0 rfl rfl 10 (by decide) (hts (.fieldLink RX2 36 "FlakyBounds$History" "judgedFails" "I") (by decide +kernel)) (fun _ h9 => h9) rfl dX2_nextVerdict_40 ?_
        refine lv_iconst (v := 1) hx hb dX2_nextVerdict_43 (by decide) ?_
        refine lv_iadd hx hb dX2_nextVerdict_44 ?_
        refine fw_i (x' := nI (f + 1)) (nI_1 f) ?_
        refine lv_goto (tgt := 49) hx hb dX2_nextVerdict_45 (by decide) ?_
        refine va_put (D := (dC, dI)) (ci := 2) (v := .int (nI (f + 1))) (ty := .int) (C := RX2) (T := TX2) (N := 11) hx hb hts (by decide +kernel) tyX2 tyX2_ok nmX2 hown hK hP hD hS 0 rfl rfl 10 (by decide) (hts (.fieldLink RX2 36 "FlakyBounds$History" "judgedFails" "I") (by decide +kernel)) (fun _ h9 => h9) rfl (by decide +kernel) rfl rfl (Nat.le_of_ble_eq_true rfl) dX2_nextVerdict_49 (fun H locs hP hD hS => ?_)
        have hP : va_P (dC, dI) vwCl [(h0, .inr (2, [v0, v1, v2, v3, v4, v5, v6, .int (zI mk), v8, .int x, .int (nI (f + 1))]))] H := hP
        have hD : va_D A [(h0, .inr (2, [v0, v1, v2, v3, v4, v5, v6, .int (zI mk), v8, .int x, .int (nI (f + 1))]))] := hD
        refine lv_iload_n hx hb dX2_nextVerdict_52 rfl (lv_at hl 0 rfl) ?_
        have hn9 : jv_n mk true f = f + 1 := by unfold jv_n; rw [if_pos (show jv_V mk true f = 0 from c_36)]
        have hP : va_P (dC, dI) vwCl [(h0, .inr (2, [v0, v1, v2, v3, v4, v5, v6, .int (zI mk), v8, .int x, .int (nI (jv_n mk true f))]))] H := by rw [hn9]; exact hP
        have hD : va_D A [(h0, .inr (2, [v0, v1, v2, v3, v4, v5, v6, .int (zI mk), v8, .int x, .int (nI (jv_n mk true f))]))] := by rw [hn9]; exact hD
        have hP9 := hP.sub (ws' := [(h0, .inr (2, [v0, v1, v2, v3, v4, v5, v6, .int (zI mk), v8, .int x, .int (nI (jv_n mk true f))]))]) [0] rfl
        have hD9 := hD.sub (ws' := [(h0, .inr (2, [v0, v1, v2, v3, v4, v5, v6, .int (zI mk), v8, .int x, .int (nI (jv_n mk true f))]))]) [0] (by decide) rfl
        have hK9 := hK.sub (tys' := []) [] rfl
        exact W.iret (v := (jv_P f)) hx hb hr (fun zt zht hW => ⟨⟨(jv_P f), ⟨⟩, rfl, rfl, by rw [zht]; exact hP9, va_K.moved hW.alike hK9, hD9⟩, hS.F zht⟩) hS.2.2 dX2_nextVerdict_53 hlocks
set_option maxHeartbeats 4000000 in
set_option maxRecDepth 100000 in
theorem c_his_recount (l : Launch) (dC : Nat → ClassId) (dI : Nat → Nat → Nat) (h0 ea pa : Nat) (cI cZ : ClassId) (s : Nat) (v3 : Value) (x4 x5 x6 : Int32) (v7 v8 v9 v10 : Value) (e : Nat → Int32) (b : Nat → Bool) (sz : Nat) (hs : s ≤ 48) : Met l yX2_recount wsX2_recount ({ frames := 1, cells := 0, slots := 0, locals := 23 } : Room) (va_Pc [.ref h0] (fw_pW (dC, dI) vwCl [(cI, .int), (cZ, .boolean)] [(h0, .inr (2, [.ref ea, .ref pa, .int (nI s), v3, .int x4, .int x5, .int x6, v7, v8, v9, v10])), (ea, .inl (cI, 48, .inl (e))), (pa, .inl (cZ, 48, .inl (fun j => zI (b j))))] sz)) (va_Qv (S := Unit) (fun _ => True) (fun u t => fw_q (dC, dI) vwCl [(cI, .int), (cZ, .boolean)] (va_A [(h0, .inr (2, [.ref ea, .ref pa, .int (nI s), v3, .int x4, .int x5, .int x6, v7, v8, v9, v10])), (ea, .inl (cI, 48, .inl (e))), (pa, .inl (cZ, 48, .inl (fun j => zI (b j))))] sz) [(h0, .inr (2, [.ref ea, .ref pa, .int (nI s), v3, .int (nI (hv_D e b s s)), .int (nI (hv_N e b s s)), .int (nI (hv_X e b s s)), v7, v8, v9, v10])), (ea, .inl (cI, 48, .inl (e))), (pa, .inl (cZ, 48, .inl (fun j => zI (b j))))] t) (va_A [(h0, .inr (2, [.ref ea, .ref pa, .int (nI s), v3, .int x4, .int x5, .int x6, v7, v8, v9, v10])), (ea, .inl (cI, 48, .inl (e))), (pa, .inl (cZ, 48, .inl (fun j => zI (b j))))] sz)) 0 0 (va_A [(h0, .inr (2, [.ref ea, .ref pa, .int (nI s), v3, .int x4, .int x5, .int x6, v7, v8, v9, v10])), (ea, .inl (cI, 48, .inl (e))), (pa, .inl (cZ, 48, .inl (fun j => zI (b j))))] sz) := by
  refine fw_metW (cc := cX2_recount) (maxL := 3) (ret := none) (by decide) rfl (Nat.le_of_ble_eq_true rfl) ?_
  intro zp ze zs zm zbelow zmeth zc ls hx hb hr hts hown hlocks hml hin hN hsz hP hK hD hA hS hl
  generalize hAe : (va_A [(h0, .inr (2, [.ref ea, .ref pa, .int (nI s), v3, .int x4, .int x5, .int x6, v7, v8, v9, v10])), (ea, .inl (cI, 48, .inl (e))), (pa, .inl (cZ, 48, .inl (fun j => zI (b j))))] sz) = A at hD hA hS ⊢
  have hown : zs.vm.findClass RX2 = some zm.cls := hown
  have hl : lv_has ls 3 [(0, .ref h0)] := hl
  refine lv_aload_n hx hb dX2_recount_0 rfl (lv_at hl 0 rfl) ?_
  refine lv_iconst (v := 0) hx hb dX2_recount_1 (by decide) ?_
  refine va_put (D := (dC, dI)) (ci := 2) (v := .int 0) (ty := .int) (C := RX2) (T := TX2) (N := 11) hx hb hts (by decide +kernel) tyX2 tyX2_ok nmX2 hown hK hP hD hS 0 rfl rfl 4 (by decide) (hts (.fieldLink RX2 50 "FlakyBounds$History" "doubtful" "I") (by decide +kernel)) (fun _ h9 => h9) rfl (by decide +kernel) rfl rfl (Nat.le_of_ble_eq_true rfl) dX2_recount_2 (fun H locs hP hD hS => ?_)
  have hP : va_P (dC, dI) vwCl [(h0, .inr (2, [.ref ea, .ref pa, .int (nI s), v3, .int 0, .int x5, .int x6, v7, v8, v9, v10])), (ea, .inl (cI, 48, .inl (e))), (pa, .inl (cZ, 48, .inl (fun j => zI (b j))))] H := hP
  have hD : va_D A [(h0, .inr (2, [.ref ea, .ref pa, .int (nI s), v3, .int 0, .int x5, .int x6, v7, v8, v9, v10])), (ea, .inl (cI, 48, .inl (e))), (pa, .inl (cZ, 48, .inl (fun j => zI (b j))))] := hD
  refine lv_aload_n hx hb dX2_recount_5 rfl (lv_at hl 0 rfl) ?_
  refine lv_iconst (v := 0) hx hb dX2_recount_6 (by decide) ?_
  refine va_put (D := (dC, dI)) (ci := 2) (v := .int 0) (ty := .int) (C := RX2) (T := TX2) (N := 11) hx hb hts (by decide +kernel) tyX2 tyX2_ok nmX2 hown hK hP hD hS 0 rfl rfl 5 (by decide) (hts (.fieldLink RX2 53 "FlakyBounds$History" "throwsCounted" "I") (by decide +kernel)) (fun _ h9 => h9) rfl (by decide +kernel) rfl rfl (Nat.le_of_ble_eq_true rfl) dX2_recount_7 (fun H locs hP hD hS => ?_)
  have hP : va_P (dC, dI) vwCl [(h0, .inr (2, [.ref ea, .ref pa, .int (nI s), v3, .int 0, .int 0, .int x6, v7, v8, v9, v10])), (ea, .inl (cI, 48, .inl (e))), (pa, .inl (cZ, 48, .inl (fun j => zI (b j))))] H := hP
  have hD : va_D A [(h0, .inr (2, [.ref ea, .ref pa, .int (nI s), v3, .int 0, .int 0, .int x6, v7, v8, v9, v10])), (ea, .inl (cI, 48, .inl (e))), (pa, .inl (cZ, 48, .inl (fun j => zI (b j))))] := hD
  refine lv_aload_n hx hb dX2_recount_10 rfl (lv_at hl 0 rfl) ?_
  refine lv_iconst (v := 0) hx hb dX2_recount_11 (by decide) ?_
  refine va_put (D := (dC, dI)) (ci := 2) (v := .int 0) (ty := .int) (C := RX2) (T := TX2) (N := 11) hx hb hts (by decide +kernel) tyX2 tyX2_ok nmX2 hown hK hP hD hS 0 rfl rfl 6 (by decide) (hts (.fieldLink RX2 56 "FlakyBounds$History" "failsCounted" "I") (by decide +kernel)) (fun _ h9 => h9) rfl (by decide +kernel) rfl rfl (Nat.le_of_ble_eq_true rfl) dX2_recount_12 (fun H locs hP hD hS => ?_)
  have hP : va_P (dC, dI) vwCl [(h0, .inr (2, [.ref ea, .ref pa, .int (nI s), v3, .int 0, .int 0, .int 0, v7, v8, v9, v10])), (ea, .inl (cI, 48, .inl (e))), (pa, .inl (cZ, 48, .inl (fun j => zI (b j))))] H := hP
  have hD : va_D A [(h0, .inr (2, [.ref ea, .ref pa, .int (nI s), v3, .int 0, .int 0, .int 0, v7, v8, v9, v10])), (ea, .inl (cI, 48, .inl (e))), (pa, .inl (cZ, 48, .inl (fun j => zI (b j))))] := hD
  refine lv_iconst (v := 0) hx hb dX2_recount_15 (by decide) ?_
  refine lv_istore_n (lv' := [(1, .int 0), (0, .ref h0)]) hx hb dX2_recount_16 rfl hl (by decide) rfl (fun ls hl => ?_)
  refine fw_loop (σ := Nat) (I := fun zn u H locs ls => match u with | i => zn = s - i ∧ (i ≤ s) ∧ va_P (dC, dI) vwCl [(h0, .inr (2, [.ref ea, .ref pa, .int (nI s), v3, .int (nI (hv_D e b s i)), .int (nI (hv_N e b s i)), .int (nI (hv_X e b s i)), v7, v8, v9, v10])), (ea, .inl (cI, 48, .inl (e))), (pa, .inl (cZ, 48, .inl (fun j => zI (b j))))] H ∧ va_D A [(h0, .inr (2, [.ref ea, .ref pa, .int (nI s), v3, .int (nI (hv_D e b s i)), .int (nI (hv_N e b s i)), .int (nI (hv_X e b s i)), v7, v8, v9, v10])), (ea, .inl (cI, 48, .inl (e))), (pa, .inl (cZ, 48, .inl (fun j => zI (b j))))] ∧ va_S A zs.heap H locs ∧ lv_has ls 3 [(0, .ref h0), (1, .int (nI i))]) ?_ _ 0 _ _ _ ⟨rfl, by omega,  hP.sub [0, 1, 2] rfl, hD.sub [0, 1, 2] (by decide) rfl, hS, lv_sub hl [1, 0] rfl⟩
  intro zn i H locs ls hI ih_17
  obtain ⟨hzn, hi, hP, hD, hS, hl⟩ := hI
  refine lv_iload_n hx hb dX2_recount_17 rfl (lv_at hl 1 rfl) ?_
  refine lv_aload_n hx hb dX2_recount_18 rfl (lv_at hl 0 rfl) ?_
  refine va_get (D := (dC, dI)) (ci := 2) (v := .int (nI s)) (C := RX2) (T := TX2) (N := 11) hx hb hts (by decide +kernel) hown hK hP 0 rfl rfl 2 (by decide) (hts (.fieldLink RX2 23 "FlakyBounds$History" "size" "I") (by decide +kernel)) (fun _ h9 => h9) rfl dX2_recount_19 ?_
  refine lv_icmp_ge (tgt := 122) hx hb dX2_recount_22 (by decide) (fun c_22 => ?_) (fun c_22 => ?_)
  · -- then 22
    have hend : i = s := by have := (nI_leI (a := s) (b := i) (by omega) (by omega)).mp c_22; omega
    rw [hend] at hP hD
    have hP9 := hP.sub (ws' := [(h0, .inr (2, [.ref ea, .ref pa, .int (nI s), v3, .int (nI (hv_D e b s s)), .int (nI (hv_N e b s s)), .int (nI (hv_X e b s s)), v7, v8, v9, v10])), (ea, .inl (cI, 48, .inl (e))), (pa, .inl (cZ, 48, .inl (fun j => zI (b j))))]) [0, 1, 2] rfl
    have hD9 := hD.sub (ws' := [(h0, .inr (2, [.ref ea, .ref pa, .int (nI s), v3, .int (nI (hv_D e b s s)), .int (nI (hv_N e b s s)), .int (nI (hv_X e b s s)), v7, v8, v9, v10])), (ea, .inl (cI, 48, .inl (e))), (pa, .inl (cZ, 48, .inl (fun j => zI (b j))))]) [0, 1, 2] (by decide) rfl
    have hK9 := hK.sub (tys' := [(cI, .int), (cZ, .boolean)]) [0, 1] rfl
    exact W.vret hx hb hr (fun zt zht hW => ⟨⟨⟨⟩, rfl, trivial, by rw [zht]; exact hP9, va_K.moved hW.alike hK9, hD9⟩, hS.F zht⟩) hS.2.2 dX2_recount_122 hlocks
  · -- else 22
    have hlt : i < s := by
      rcases Nat.lt_or_ge i s with q9 | q9
      · exact q9
      · exact absurd (nI_le (a := s) (b := i) q9 (by omega)) c_22
    refine lv_iload_n hx hb dX2_recount_25 rfl (lv_at hl 1 rfl) ?_
    refine lv_bipush (v := 48) hx hb dX2_recount_26 (by decide) ?_
    refine lv_icmp_ge (tgt := 122) hx hb dX2_recount_28 (by decide) (fun c_28 => absurd c_28 (nI_ge (a := i) (b := 48) (by omega) (by decide))) (fun _ => ?_)
    cases hbi : b i
    · -- f
      refine lv_aload_n hx hb dX2_recount_31 rfl (lv_at hl 0 rfl) ?_
      refine lv_aload_n hx hb dX2_recount_32 rfl (lv_at hl 0 rfl) ?_
      refine va_get (D := (dC, dI)) (ci := 2) (v := .ref ea) (C := RX2) (T := TX2) (N := 11) hx hb hts (by decide +kernel) hown hK hP 0 rfl rfl 0 (by decide) (hts (.fieldLink RX2 9 "FlakyBounds$History" "editions" "[I") (by decide +kernel)) (fun _ h9 => h9) rfl dX2_recount_33 ?_
      refine lv_iload_n hx hb dX2_recount_36 rfl (lv_at hl 1 rfl) ?_
      refine va_iald hx hb hK hP 1 0 rfl rfl (vp_in_nI (by omega) (by decide)) dX2_recount_37 ?_
      refine fw_i (x' := e i) (by rw [nI_clamp (by omega)]) ?_
      refine lv_aload_n hx hb dX2_recount_38 rfl (lv_at hl 0 rfl) ?_
      refine va_get (D := (dC, dI)) (ci := 2) (v := .ref pa) (C := RX2) (T := TX2) (N := 11) hx hb hts (by decide +kernel) hown hK hP 0 rfl rfl 1 (by decide) (hts (.fieldLink RX2 15 "FlakyBounds$History" "passes" "[Z") (by decide +kernel)) (fun _ h9 => h9) rfl dX2_recount_39 ?_
      refine lv_iload_n hx hb dX2_recount_42 rfl (lv_at hl 1 rfl) ?_
      refine va_zald hx hb hK hP 2 1 rfl rfl (vp_in_nI (by omega) (by decide)) dX2_recount_43 ?_
      refine fw_i (x' := 0) (by rw [nI_clamp (by omega)]; show zI (b i) = _; rw [hbi]; rfl) ?_
      refine lv_if_ne (tgt := 51) hx hb dX2_recount_44 (by decide) (fun c_44 => absurd (by decide) c_44) (fun _ => ?_)
      refine lv_iconst (v := 1) hx hb dX2_recount_47 (by decide) ?_
      refine lv_goto (tgt := 52) hx hb dX2_recount_48 (by decide) ?_
      have hPc := hP.sub (ws' := [(h0, .inr (2, [.ref ea, .ref pa, .int (nI s), v3, .int (nI (hv_D e b s i)), .int (nI (hv_N e b s i)), .int (nI (hv_X e b s i)), v7, v8, v9, v10])), (ea, .inl (cI, 48, .inl (e))), (pa, .inl (cZ, 48, .inl (fun j => zI (b j))))]) [0, 1, 2] rfl
      have hKc := hK.sub (tys' := [(cI, .int), (cZ, .boolean)]) [0, 1] rfl
      refine vp_callSi (va_runV (As := [.int (e i), .int 1]) (rest := []) ⟨hx, hb, hml, hown, hts⟩ (c_his_has l dC dI h0 ea pa cI cZ s v3 (.int (nI (hv_D e b s i))) (.int (nI (hv_N e b s i))) (.int (nI (hv_X e b s i))) v7 v8 v9 v10 e b (e i) true hs) (cwV 2 hts gX2_recount_X2_has rfl rfl rfl (by decide +kernel) ⟨Nat.le_of_ble_eq_true rfl, Nat.le_of_ble_eq_true rfl⟩) (fw_preVR hN hKc hPc (ci := 2) (q0 := 0) rfl rfl) rfl rfl hl.1 rfl (lv_room (Nat.le_of_ble_eq_true rfl)) dX2_recount_52 ⟨Nat.le_of_ble_eq_true rfl, Nat.le_of_ble_eq_true rfl⟩).run (fun r_52 hr_52 => ?_)
      obtain rfl : r_52 = zI (hv_con e b s i) := by rw [hr_52]; unfold hv_con; rw [hbi]; rfl
      refine lv_istore_n (lv' := [(2, .int (zI (hv_con e b s i))), (0, .ref h0), (1, .int (nI i))]) hx hb dX2_recount_55 rfl hl (by decide) rfl (fun ls hl => ?_)
      cases hcon : hv_con e b s i
      · -- cf
        refine lv_iload_n hx hb dX2_recount_56 rfl (lv_at hl 0 rfl) ?_
        refine lv_if_eq (tgt := 70) hx hb dX2_recount_57 (by decide) (fun _ => ?_) (fun c_57 => absurd (by rw [hcon]; rfl) c_57)
        refine lv_aload_n hx hb dX2_recount_70 rfl (lv_at hl 1 rfl) ?_
        refine va_get (D := (dC, dI)) (ci := 2) (v := .ref pa) (C := RX2) (T := TX2) (N := 11) hx hb hts (by decide +kernel) hown hK hP 0 rfl rfl 1 (by decide) (hts (.fieldLink RX2 15 "FlakyBounds$History" "passes" "[Z") (by decide +kernel)) (fun _ h9 => h9) rfl dX2_recount_71 ?_
        refine lv_iload_n hx hb dX2_recount_74 rfl (lv_at hl 2 rfl) ?_
        refine va_zald hx hb hK hP 2 1 rfl rfl (vp_in_nI (by omega) (by decide)) dX2_recount_75 ?_
        refine fw_i (x' := 0) (by rw [nI_clamp (by omega)]; show zI (b i) = _; rw [hbi]; rfl) ?_
        refine lv_if_ne (tgt := 83) hx hb dX2_recount_76 (by decide) (fun c_76 => absurd (by decide) c_76) (fun _ => ?_)
        refine lv_iload_n hx hb dX2_recount_79 rfl (lv_at hl 0 rfl) ?_
        refine lv_if_eq (tgt := 93) hx hb dX2_recount_80 (by decide) (fun _ => ?_) (fun c_80 => absurd (by rw [hcon]; rfl) c_80)
        refine lv_aload_n hx hb dX2_recount_93 rfl (lv_at hl 1 rfl) ?_
        refine va_get (D := (dC, dI)) (ci := 2) (v := .ref pa) (C := RX2) (T := TX2) (N := 11) hx hb hts (by decide +kernel) hown hK hP 0 rfl rfl 1 (by decide) (hts (.fieldLink RX2 15 "FlakyBounds$History" "passes" "[Z") (by decide +kernel)) (fun _ h9 => h9) rfl dX2_recount_94 ?_
        refine lv_iload_n hx hb dX2_recount_97 rfl (lv_at hl 2 rfl) ?_
        refine va_zald hx hb hK hP 2 1 rfl rfl (vp_in_nI (by omega) (by decide)) dX2_recount_98 ?_
        refine fw_i (x' := 0) (by rw [nI_clamp (by omega)]; show zI (b i) = _; rw [hbi]; rfl) ?_
        refine lv_if_ne (tgt := 116) hx hb dX2_recount_99 (by decide) (fun c_99 => absurd (by decide) c_99) (fun _ => ?_)
        refine lv_iload_n hx hb dX2_recount_102 rfl (lv_at hl 0 rfl) ?_
        refine lv_if_eq (tgt := 116) hx hb dX2_recount_103 (by decide) (fun _ => ?_) (fun c_103 => absurd (by rw [hcon]; rfl) c_103)
        refine lv_iinc (v := nI (i + 1)) (lv' := [(1, .int (nI (i + 1))), (2, .int (zI (hv_con e b s i))), (0, .ref h0)]) hx hb dX2_recount_116 hl (k := 2) rfl (nI_1 i) (by decide) rfl (fun ls hl => ?_)
        refine lv_goto (tgt := 17) hx hb dX2_recount_119 (by decide) ?_
        have e1 : hv_D e b s (i + 1) = hv_D e b s i := by rw [hv_DS, hcon]; rfl
        have e2 : hv_N e b s (i + 1) = hv_N e b s i := by rw [hv_NS, hcon, hbi]; rfl
        have e3 : hv_X e b s (i + 1) = hv_X e b s i := by rw [hv_XS, hcon, hbi]; rfl
        have hP : va_P (dC, dI) vwCl [(h0, .inr (2, [.ref ea, .ref pa, .int (nI s), v3, .int (nI (hv_D e b s (i + 1))), .int (nI (hv_N e b s (i + 1))), .int (nI (hv_X e b s (i + 1))), v7, v8, v9, v10])), (ea, .inl (cI, 48, .inl (e))), (pa, .inl (cZ, 48, .inl (fun j => zI (b j))))] H := by rw [e1, e2, e3]; exact hP
        have hD : va_D A [(h0, .inr (2, [.ref ea, .ref pa, .int (nI s), v3, .int (nI (hv_D e b s (i + 1))), .int (nI (hv_N e b s (i + 1))), .int (nI (hv_X e b s (i + 1))), v7, v8, v9, v10])), (ea, .inl (cI, 48, .inl (e))), (pa, .inl (cZ, 48, .inl (fun j => zI (b j))))] := by rw [e1, e2, e3]; exact hD
        exact ih_17 _ (i + 1) _ _ _ (by omega) ⟨rfl, by omega, hP.sub [0, 1, 2] rfl, hD.sub [0, 1, 2] (by decide) rfl, hS, lv_sub hl [2, 0] rfl⟩
      · -- ct
        refine lv_iload_n hx hb dX2_recount_56 rfl (lv_at hl 0 rfl) ?_
        refine lv_if_eq (tgt := 70) hx hb dX2_recount_57 (by decide) (fun c_57 => absurd c_57 (by rw [hcon]; decide)) (fun _ => ?_)
        refine lv_aload_n hx hb dX2_recount_60 rfl (lv_at hl 1 rfl) ?_
        refine lv_dup hx hb dX2_recount_61 rfl ?_
        refine va_get (D := (dC, dI)) (ci := 2) (v := .int (nI (hv_D e b s i))) (C := RX2) (T := TX2) (N := 11) hx hb hts (by decide +kernel) hown hK hP 0 rfl rfl 4 (by decide) (hts (.fieldLink RX2 50 "FlakyBounds$History" "doubtful" "I") (by decide +kernel)) (fun _ h9 => h9) rfl dX2_recount_62 ?_
        refine lv_iconst (v := 1) hx hb dX2_recount_65 (by decide) ?_
        refine lv_iadd hx hb dX2_recount_66 ?_
        refine fw_i (x' := nI (hv_D e b s i + 1)) (nI_1 _) ?_
        refine va_put (D := (dC, dI)) (ci := 2) (v := .int (nI (hv_D e b s i + 1))) (ty := .int) (C := RX2) (T := TX2) (N := 11) hx hb hts (by decide +kernel) tyX2 tyX2_ok nmX2 hown hK hP hD hS 0 rfl rfl 4 (by decide) (hts (.fieldLink RX2 50 "FlakyBounds$History" "doubtful" "I") (by decide +kernel)) (fun _ h9 => h9) rfl (by decide +kernel) rfl rfl (Nat.le_of_ble_eq_true rfl) dX2_recount_67 (fun H locs hP hD hS => ?_)
        have hP : va_P (dC, dI) vwCl [(h0, .inr (2, [.ref ea, .ref pa, .int (nI s), v3, .int (nI (hv_D e b s i + 1)), .int (nI (hv_N e b s i)), .int (nI (hv_X e b s i)), v7, v8, v9, v10])), (ea, .inl (cI, 48, .inl (e))), (pa, .inl (cZ, 48, .inl (fun j => zI (b j))))] H := hP
        have hD : va_D A [(h0, .inr (2, [.ref ea, .ref pa, .int (nI s), v3, .int (nI (hv_D e b s i + 1)), .int (nI (hv_N e b s i)), .int (nI (hv_X e b s i)), v7, v8, v9, v10])), (ea, .inl (cI, 48, .inl (e))), (pa, .inl (cZ, 48, .inl (fun j => zI (b j))))] := hD
        refine lv_aload_n hx hb dX2_recount_70 rfl (lv_at hl 1 rfl) ?_
        refine va_get (D := (dC, dI)) (ci := 2) (v := .ref pa) (C := RX2) (T := TX2) (N := 11) hx hb hts (by decide +kernel) hown hK hP 0 rfl rfl 1 (by decide) (hts (.fieldLink RX2 15 "FlakyBounds$History" "passes" "[Z") (by decide +kernel)) (fun _ h9 => h9) rfl dX2_recount_71 ?_
        refine lv_iload_n hx hb dX2_recount_74 rfl (lv_at hl 2 rfl) ?_
        refine va_zald hx hb hK hP 2 1 rfl rfl (vp_in_nI (by omega) (by decide)) dX2_recount_75 ?_
        refine fw_i (x' := 0) (by rw [nI_clamp (by omega)]; show zI (b i) = _; rw [hbi]; rfl) ?_
        refine lv_if_ne (tgt := 83) hx hb dX2_recount_76 (by decide) (fun c_76 => absurd (by decide) c_76) (fun _ => ?_)
        refine lv_iload_n hx hb dX2_recount_79 rfl (lv_at hl 0 rfl) ?_
        refine lv_if_eq (tgt := 93) hx hb dX2_recount_80 (by decide) (fun c_80 => absurd c_80 (by rw [hcon]; decide)) (fun _ => ?_)
        refine lv_aload_n hx hb dX2_recount_83 rfl (lv_at hl 1 rfl) ?_
        refine lv_dup hx hb dX2_recount_84 rfl ?_
        refine va_get (D := (dC, dI)) (ci := 2) (v := .int (nI (hv_N e b s i))) (C := RX2) (T := TX2) (N := 11) hx hb hts (by decide +kernel) hown hK hP 0 rfl rfl 5 (by decide) (hts (.fieldLink RX2 53 "FlakyBounds$History" "throwsCounted" "I") (by decide +kernel)) (fun _ h9 => h9) rfl dX2_recount_85 ?_
        refine lv_iconst (v := 1) hx hb dX2_recount_88 (by decide) ?_
        refine lv_iadd hx hb dX2_recount_89 ?_
        refine fw_i (x' := nI (hv_N e b s i + 1)) (nI_1 _) ?_
        refine va_put (D := (dC, dI)) (ci := 2) (v := .int (nI (hv_N e b s i + 1))) (ty := .int) (C := RX2) (T := TX2) (N := 11) hx hb hts (by decide +kernel) tyX2 tyX2_ok nmX2 hown hK hP hD hS 0 rfl rfl 5 (by decide) (hts (.fieldLink RX2 53 "FlakyBounds$History" "throwsCounted" "I") (by decide +kernel)) (fun _ h9 => h9) rfl (by decide +kernel) rfl rfl (Nat.le_of_ble_eq_true rfl) dX2_recount_90 (fun H locs hP hD hS => ?_)
        have hP : va_P (dC, dI) vwCl [(h0, .inr (2, [.ref ea, .ref pa, .int (nI s), v3, .int (nI (hv_D e b s i + 1)), .int (nI (hv_N e b s i + 1)), .int (nI (hv_X e b s i)), v7, v8, v9, v10])), (ea, .inl (cI, 48, .inl (e))), (pa, .inl (cZ, 48, .inl (fun j => zI (b j))))] H := hP
        have hD : va_D A [(h0, .inr (2, [.ref ea, .ref pa, .int (nI s), v3, .int (nI (hv_D e b s i + 1)), .int (nI (hv_N e b s i + 1)), .int (nI (hv_X e b s i)), v7, v8, v9, v10])), (ea, .inl (cI, 48, .inl (e))), (pa, .inl (cZ, 48, .inl (fun j => zI (b j))))] := hD
        refine lv_aload_n hx hb dX2_recount_93 rfl (lv_at hl 1 rfl) ?_
        refine va_get (D := (dC, dI)) (ci := 2) (v := .ref pa) (C := RX2) (T := TX2) (N := 11) hx hb hts (by decide +kernel) hown hK hP 0 rfl rfl 1 (by decide) (hts (.fieldLink RX2 15 "FlakyBounds$History" "passes" "[Z") (by decide +kernel)) (fun _ h9 => h9) rfl dX2_recount_94 ?_
        refine lv_iload_n hx hb dX2_recount_97 rfl (lv_at hl 2 rfl) ?_
        refine va_zald hx hb hK hP 2 1 rfl rfl (vp_in_nI (by omega) (by decide)) dX2_recount_98 ?_
        refine fw_i (x' := 0) (by rw [nI_clamp (by omega)]; show zI (b i) = _; rw [hbi]; rfl) ?_
        refine lv_if_ne (tgt := 116) hx hb dX2_recount_99 (by decide) (fun c_99 => absurd (by decide) c_99) (fun _ => ?_)
        refine lv_iload_n hx hb dX2_recount_102 rfl (lv_at hl 0 rfl) ?_
        refine lv_if_eq (tgt := 116) hx hb dX2_recount_103 (by decide) (fun c_103 => absurd c_103 (by rw [hcon]; decide)) (fun _ => ?_)
        refine lv_aload_n hx hb dX2_recount_106 rfl (lv_at hl 1 rfl) ?_
        refine lv_dup hx hb dX2_recount_107 rfl ?_
        refine va_get (D := (dC, dI)) (ci := 2) (v := .int (nI (hv_X e b s i))) (C := RX2) (T := TX2) (N := 11) hx hb hts (by decide +kernel) hown hK hP 0 rfl rfl 6 (by decide) (hts (.fieldLink RX2 56 "FlakyBounds$History" "failsCounted" "I") (by decide +kernel)) (fun _ h9 => h9) rfl dX2_recount_108 ?_
        refine lv_iconst (v := 1) hx hb dX2_recount_111 (by decide) ?_
        refine lv_iadd hx hb dX2_recount_112 ?_
        refine fw_i (x' := nI (hv_X e b s i + 1)) (nI_1 _) ?_
        refine va_put (D := (dC, dI)) (ci := 2) (v := .int (nI (hv_X e b s i + 1))) (ty := .int) (C := RX2) (T := TX2) (N := 11) hx hb hts (by decide +kernel) tyX2 tyX2_ok nmX2 hown hK hP hD hS 0 rfl rfl 6 (by decide) (hts (.fieldLink RX2 56 "FlakyBounds$History" "failsCounted" "I") (by decide +kernel)) (fun _ h9 => h9) rfl (by decide +kernel) rfl rfl (Nat.le_of_ble_eq_true rfl) dX2_recount_113 (fun H locs hP hD hS => ?_)
        have hP : va_P (dC, dI) vwCl [(h0, .inr (2, [.ref ea, .ref pa, .int (nI s), v3, .int (nI (hv_D e b s i + 1)), .int (nI (hv_N e b s i + 1)), .int (nI (hv_X e b s i + 1)), v7, v8, v9, v10])), (ea, .inl (cI, 48, .inl (e))), (pa, .inl (cZ, 48, .inl (fun j => zI (b j))))] H := hP
        have hD : va_D A [(h0, .inr (2, [.ref ea, .ref pa, .int (nI s), v3, .int (nI (hv_D e b s i + 1)), .int (nI (hv_N e b s i + 1)), .int (nI (hv_X e b s i + 1)), v7, v8, v9, v10])), (ea, .inl (cI, 48, .inl (e))), (pa, .inl (cZ, 48, .inl (fun j => zI (b j))))] := hD
        refine lv_iinc (v := nI (i + 1)) (lv' := [(1, .int (nI (i + 1))), (2, .int (zI (hv_con e b s i))), (0, .ref h0)]) hx hb dX2_recount_116 hl (k := 2) rfl (nI_1 i) (by decide) rfl (fun ls hl => ?_)
        refine lv_goto (tgt := 17) hx hb dX2_recount_119 (by decide) ?_
        have e1 : hv_D e b s (i + 1) = hv_D e b s i + 1 := by rw [hv_DS, hcon]; rfl
        have e2 : hv_N e b s (i + 1) = hv_N e b s i + 1 := by rw [hv_NS, hcon, hbi]; rfl
        have e3 : hv_X e b s (i + 1) = hv_X e b s i + 1 := by rw [hv_XS, hcon, hbi]; rfl
        have hP : va_P (dC, dI) vwCl [(h0, .inr (2, [.ref ea, .ref pa, .int (nI s), v3, .int (nI (hv_D e b s (i + 1))), .int (nI (hv_N e b s (i + 1))), .int (nI (hv_X e b s (i + 1))), v7, v8, v9, v10])), (ea, .inl (cI, 48, .inl (e))), (pa, .inl (cZ, 48, .inl (fun j => zI (b j))))] H := by rw [e1, e2, e3]; exact hP
        have hD : va_D A [(h0, .inr (2, [.ref ea, .ref pa, .int (nI s), v3, .int (nI (hv_D e b s (i + 1))), .int (nI (hv_N e b s (i + 1))), .int (nI (hv_X e b s (i + 1))), v7, v8, v9, v10])), (ea, .inl (cI, 48, .inl (e))), (pa, .inl (cZ, 48, .inl (fun j => zI (b j))))] := by rw [e1, e2, e3]; exact hD
        exact ih_17 _ (i + 1) _ _ _ (by omega) ⟨rfl, by omega, hP.sub [0, 1, 2] rfl, hD.sub [0, 1, 2] (by decide) rfl, hS, lv_sub hl [2, 0] rfl⟩
    · -- t
      refine lv_aload_n hx hb dX2_recount_31 rfl (lv_at hl 0 rfl) ?_
      refine lv_aload_n hx hb dX2_recount_32 rfl (lv_at hl 0 rfl) ?_
      refine va_get (D := (dC, dI)) (ci := 2) (v := .ref ea) (C := RX2) (T := TX2) (N := 11) hx hb hts (by decide +kernel) hown hK hP 0 rfl rfl 0 (by decide) (hts (.fieldLink RX2 9 "FlakyBounds$History" "editions" "[I") (by decide +kernel)) (fun _ h9 => h9) rfl dX2_recount_33 ?_
      refine lv_iload_n hx hb dX2_recount_36 rfl (lv_at hl 1 rfl) ?_
      refine va_iald hx hb hK hP 1 0 rfl rfl (vp_in_nI (by omega) (by decide)) dX2_recount_37 ?_
      refine fw_i (x' := e i) (by rw [nI_clamp (by omega)]) ?_
      refine lv_aload_n hx hb dX2_recount_38 rfl (lv_at hl 0 rfl) ?_
      refine va_get (D := (dC, dI)) (ci := 2) (v := .ref pa) (C := RX2) (T := TX2) (N := 11) hx hb hts (by decide +kernel) hown hK hP 0 rfl rfl 1 (by decide) (hts (.fieldLink RX2 15 "FlakyBounds$History" "passes" "[Z") (by decide +kernel)) (fun _ h9 => h9) rfl dX2_recount_39 ?_
      refine lv_iload_n hx hb dX2_recount_42 rfl (lv_at hl 1 rfl) ?_
      refine va_zald hx hb hK hP 2 1 rfl rfl (vp_in_nI (by omega) (by decide)) dX2_recount_43 ?_
      refine fw_i (x' := 1) (by rw [nI_clamp (by omega)]; show zI (b i) = _; rw [hbi]; rfl) ?_
      refine lv_if_ne (tgt := 51) hx hb dX2_recount_44 (by decide) (fun _ => ?_) (fun c_44 => absurd c_44 (by decide))
      refine lv_iconst (v := 0) hx hb dX2_recount_51 (by decide) ?_
      have hPc := hP.sub (ws' := [(h0, .inr (2, [.ref ea, .ref pa, .int (nI s), v3, .int (nI (hv_D e b s i)), .int (nI (hv_N e b s i)), .int (nI (hv_X e b s i)), v7, v8, v9, v10])), (ea, .inl (cI, 48, .inl (e))), (pa, .inl (cZ, 48, .inl (fun j => zI (b j))))]) [0, 1, 2] rfl
      have hKc := hK.sub (tys' := [(cI, .int), (cZ, .boolean)]) [0, 1] rfl
      refine vp_callSi (va_runV (As := [.int (e i), .int 0]) (rest := []) ⟨hx, hb, hml, hown, hts⟩ (c_his_has l dC dI h0 ea pa cI cZ s v3 (.int (nI (hv_D e b s i))) (.int (nI (hv_N e b s i))) (.int (nI (hv_X e b s i))) v7 v8 v9 v10 e b (e i) false hs) (cwV 2 hts gX2_recount_X2_has rfl rfl rfl (by decide +kernel) ⟨Nat.le_of_ble_eq_true rfl, Nat.le_of_ble_eq_true rfl⟩) (fw_preVR hN hKc hPc (ci := 2) (q0 := 0) rfl rfl) rfl rfl hl.1 rfl (lv_room (Nat.le_of_ble_eq_true rfl)) dX2_recount_52 ⟨Nat.le_of_ble_eq_true rfl, Nat.le_of_ble_eq_true rfl⟩).run (fun r_52 hr_52 => ?_)
      obtain rfl : r_52 = zI (hv_con e b s i) := by rw [hr_52]; unfold hv_con; rw [hbi]; rfl
      refine lv_istore_n (lv' := [(2, .int (zI (hv_con e b s i))), (0, .ref h0), (1, .int (nI i))]) hx hb dX2_recount_55 rfl hl (by decide) rfl (fun ls hl => ?_)
      cases hcon : hv_con e b s i
      · -- cf
        refine lv_iload_n hx hb dX2_recount_56 rfl (lv_at hl 0 rfl) ?_
        refine lv_if_eq (tgt := 70) hx hb dX2_recount_57 (by decide) (fun _ => ?_) (fun c_57 => absurd (by rw [hcon]; rfl) c_57)
        refine lv_aload_n hx hb dX2_recount_70 rfl (lv_at hl 1 rfl) ?_
        refine va_get (D := (dC, dI)) (ci := 2) (v := .ref pa) (C := RX2) (T := TX2) (N := 11) hx hb hts (by decide +kernel) hown hK hP 0 rfl rfl 1 (by decide) (hts (.fieldLink RX2 15 "FlakyBounds$History" "passes" "[Z") (by decide +kernel)) (fun _ h9 => h9) rfl dX2_recount_71 ?_
        refine lv_iload_n hx hb dX2_recount_74 rfl (lv_at hl 2 rfl) ?_
        refine va_zald hx hb hK hP 2 1 rfl rfl (vp_in_nI (by omega) (by decide)) dX2_recount_75 ?_
        refine fw_i (x' := 1) (by rw [nI_clamp (by omega)]; show zI (b i) = _; rw [hbi]; rfl) ?_
        refine lv_if_ne (tgt := 83) hx hb dX2_recount_76 (by decide) (fun _ => ?_) (fun c_76 => absurd c_76 (by decide))
        refine lv_aload_n hx hb dX2_recount_83 rfl (lv_at hl 1 rfl) ?_
        refine lv_dup hx hb dX2_recount_84 rfl ?_
        refine va_get (D := (dC, dI)) (ci := 2) (v := .int (nI (hv_N e b s i))) (C := RX2) (T := TX2) (N := 11) hx hb hts (by decide +kernel) hown hK hP 0 rfl rfl 5 (by decide) (hts (.fieldLink RX2 53 "FlakyBounds$History" "throwsCounted" "I") (by decide +kernel)) (fun _ h9 => h9) rfl dX2_recount_85 ?_
        refine lv_iconst (v := 1) hx hb dX2_recount_88 (by decide) ?_
        refine lv_iadd hx hb dX2_recount_89 ?_
        refine fw_i (x' := nI (hv_N e b s i + 1)) (nI_1 _) ?_
        refine va_put (D := (dC, dI)) (ci := 2) (v := .int (nI (hv_N e b s i + 1))) (ty := .int) (C := RX2) (T := TX2) (N := 11) hx hb hts (by decide +kernel) tyX2 tyX2_ok nmX2 hown hK hP hD hS 0 rfl rfl 5 (by decide) (hts (.fieldLink RX2 53 "FlakyBounds$History" "throwsCounted" "I") (by decide +kernel)) (fun _ h9 => h9) rfl (by decide +kernel) rfl rfl (Nat.le_of_ble_eq_true rfl) dX2_recount_90 (fun H locs hP hD hS => ?_)
        have hP : va_P (dC, dI) vwCl [(h0, .inr (2, [.ref ea, .ref pa, .int (nI s), v3, .int (nI (hv_D e b s i)), .int (nI (hv_N e b s i + 1)), .int (nI (hv_X e b s i)), v7, v8, v9, v10])), (ea, .inl (cI, 48, .inl (e))), (pa, .inl (cZ, 48, .inl (fun j => zI (b j))))] H := hP
        have hD : va_D A [(h0, .inr (2, [.ref ea, .ref pa, .int (nI s), v3, .int (nI (hv_D e b s i)), .int (nI (hv_N e b s i + 1)), .int (nI (hv_X e b s i)), v7, v8, v9, v10])), (ea, .inl (cI, 48, .inl (e))), (pa, .inl (cZ, 48, .inl (fun j => zI (b j))))] := hD
        refine lv_aload_n hx hb dX2_recount_93 rfl (lv_at hl 1 rfl) ?_
        refine va_get (D := (dC, dI)) (ci := 2) (v := .ref pa) (C := RX2) (T := TX2) (N := 11) hx hb hts (by decide +kernel) hown hK hP 0 rfl rfl 1 (by decide) (hts (.fieldLink RX2 15 "FlakyBounds$History" "passes" "[Z") (by decide +kernel)) (fun _ h9 => h9) rfl dX2_recount_94 ?_
        refine lv_iload_n hx hb dX2_recount_97 rfl (lv_at hl 2 rfl) ?_
        refine va_zald hx hb hK hP 2 1 rfl rfl (vp_in_nI (by omega) (by decide)) dX2_recount_98 ?_
        refine fw_i (x' := 1) (by rw [nI_clamp (by omega)]; show zI (b i) = _; rw [hbi]; rfl) ?_
        refine lv_if_ne (tgt := 116) hx hb dX2_recount_99 (by decide) (fun _ => ?_) (fun c_99 => absurd c_99 (by decide))
        refine lv_iinc (v := nI (i + 1)) (lv' := [(1, .int (nI (i + 1))), (2, .int (zI (hv_con e b s i))), (0, .ref h0)]) hx hb dX2_recount_116 hl (k := 2) rfl (nI_1 i) (by decide) rfl (fun ls hl => ?_)
        refine lv_goto (tgt := 17) hx hb dX2_recount_119 (by decide) ?_
        have e1 : hv_D e b s (i + 1) = hv_D e b s i := by rw [hv_DS, hcon]; rfl
        have e2 : hv_N e b s (i + 1) = hv_N e b s i + 1 := by rw [hv_NS, hcon, hbi]; rfl
        have e3 : hv_X e b s (i + 1) = hv_X e b s i := by rw [hv_XS, hcon, hbi]; rfl
        have hP : va_P (dC, dI) vwCl [(h0, .inr (2, [.ref ea, .ref pa, .int (nI s), v3, .int (nI (hv_D e b s (i + 1))), .int (nI (hv_N e b s (i + 1))), .int (nI (hv_X e b s (i + 1))), v7, v8, v9, v10])), (ea, .inl (cI, 48, .inl (e))), (pa, .inl (cZ, 48, .inl (fun j => zI (b j))))] H := by rw [e1, e2, e3]; exact hP
        have hD : va_D A [(h0, .inr (2, [.ref ea, .ref pa, .int (nI s), v3, .int (nI (hv_D e b s (i + 1))), .int (nI (hv_N e b s (i + 1))), .int (nI (hv_X e b s (i + 1))), v7, v8, v9, v10])), (ea, .inl (cI, 48, .inl (e))), (pa, .inl (cZ, 48, .inl (fun j => zI (b j))))] := by rw [e1, e2, e3]; exact hD
        exact ih_17 _ (i + 1) _ _ _ (by omega) ⟨rfl, by omega, hP.sub [0, 1, 2] rfl, hD.sub [0, 1, 2] (by decide) rfl, hS, lv_sub hl [2, 0] rfl⟩
      · -- ct
        refine lv_iload_n hx hb dX2_recount_56 rfl (lv_at hl 0 rfl) ?_
        refine lv_if_eq (tgt := 70) hx hb dX2_recount_57 (by decide) (fun c_57 => absurd c_57 (by rw [hcon]; decide)) (fun _ => ?_)
        refine lv_aload_n hx hb dX2_recount_60 rfl (lv_at hl 1 rfl) ?_
        refine lv_dup hx hb dX2_recount_61 rfl ?_
        refine va_get (D := (dC, dI)) (ci := 2) (v := .int (nI (hv_D e b s i))) (C := RX2) (T := TX2) (N := 11) hx hb hts (by decide +kernel) hown hK hP 0 rfl rfl 4 (by decide) (hts (.fieldLink RX2 50 "FlakyBounds$History" "doubtful" "I") (by decide +kernel)) (fun _ h9 => h9) rfl dX2_recount_62 ?_
        refine lv_iconst (v := 1) hx hb dX2_recount_65 (by decide) ?_
        refine lv_iadd hx hb dX2_recount_66 ?_
        refine fw_i (x' := nI (hv_D e b s i + 1)) (nI_1 _) ?_
        refine va_put (D := (dC, dI)) (ci := 2) (v := .int (nI (hv_D e b s i + 1))) (ty := .int) (C := RX2) (T := TX2) (N := 11) hx hb hts (by decide +kernel) tyX2 tyX2_ok nmX2 hown hK hP hD hS 0 rfl rfl 4 (by decide) (hts (.fieldLink RX2 50 "FlakyBounds$History" "doubtful" "I") (by decide +kernel)) (fun _ h9 => h9) rfl (by decide +kernel) rfl rfl (Nat.le_of_ble_eq_true rfl) dX2_recount_67 (fun H locs hP hD hS => ?_)
        have hP : va_P (dC, dI) vwCl [(h0, .inr (2, [.ref ea, .ref pa, .int (nI s), v3, .int (nI (hv_D e b s i + 1)), .int (nI (hv_N e b s i)), .int (nI (hv_X e b s i)), v7, v8, v9, v10])), (ea, .inl (cI, 48, .inl (e))), (pa, .inl (cZ, 48, .inl (fun j => zI (b j))))] H := hP
        have hD : va_D A [(h0, .inr (2, [.ref ea, .ref pa, .int (nI s), v3, .int (nI (hv_D e b s i + 1)), .int (nI (hv_N e b s i)), .int (nI (hv_X e b s i)), v7, v8, v9, v10])), (ea, .inl (cI, 48, .inl (e))), (pa, .inl (cZ, 48, .inl (fun j => zI (b j))))] := hD
        refine lv_aload_n hx hb dX2_recount_70 rfl (lv_at hl 1 rfl) ?_
        refine va_get (D := (dC, dI)) (ci := 2) (v := .ref pa) (C := RX2) (T := TX2) (N := 11) hx hb hts (by decide +kernel) hown hK hP 0 rfl rfl 1 (by decide) (hts (.fieldLink RX2 15 "FlakyBounds$History" "passes" "[Z") (by decide +kernel)) (fun _ h9 => h9) rfl dX2_recount_71 ?_
        refine lv_iload_n hx hb dX2_recount_74 rfl (lv_at hl 2 rfl) ?_
        refine va_zald hx hb hK hP 2 1 rfl rfl (vp_in_nI (by omega) (by decide)) dX2_recount_75 ?_
        refine fw_i (x' := 1) (by rw [nI_clamp (by omega)]; show zI (b i) = _; rw [hbi]; rfl) ?_
        refine lv_if_ne (tgt := 83) hx hb dX2_recount_76 (by decide) (fun _ => ?_) (fun c_76 => absurd c_76 (by decide))
        refine lv_aload_n hx hb dX2_recount_83 rfl (lv_at hl 1 rfl) ?_
        refine lv_dup hx hb dX2_recount_84 rfl ?_
        refine va_get (D := (dC, dI)) (ci := 2) (v := .int (nI (hv_N e b s i))) (C := RX2) (T := TX2) (N := 11) hx hb hts (by decide +kernel) hown hK hP 0 rfl rfl 5 (by decide) (hts (.fieldLink RX2 53 "FlakyBounds$History" "throwsCounted" "I") (by decide +kernel)) (fun _ h9 => h9) rfl dX2_recount_85 ?_
        refine lv_iconst (v := 1) hx hb dX2_recount_88 (by decide) ?_
        refine lv_iadd hx hb dX2_recount_89 ?_
        refine fw_i (x' := nI (hv_N e b s i + 1)) (nI_1 _) ?_
        refine va_put (D := (dC, dI)) (ci := 2) (v := .int (nI (hv_N e b s i + 1))) (ty := .int) (C := RX2) (T := TX2) (N := 11) hx hb hts (by decide +kernel) tyX2 tyX2_ok nmX2 hown hK hP hD hS 0 rfl rfl 5 (by decide) (hts (.fieldLink RX2 53 "FlakyBounds$History" "throwsCounted" "I") (by decide +kernel)) (fun _ h9 => h9) rfl (by decide +kernel) rfl rfl (Nat.le_of_ble_eq_true rfl) dX2_recount_90 (fun H locs hP hD hS => ?_)
        have hP : va_P (dC, dI) vwCl [(h0, .inr (2, [.ref ea, .ref pa, .int (nI s), v3, .int (nI (hv_D e b s i + 1)), .int (nI (hv_N e b s i + 1)), .int (nI (hv_X e b s i)), v7, v8, v9, v10])), (ea, .inl (cI, 48, .inl (e))), (pa, .inl (cZ, 48, .inl (fun j => zI (b j))))] H := hP
        have hD : va_D A [(h0, .inr (2, [.ref ea, .ref pa, .int (nI s), v3, .int (nI (hv_D e b s i + 1)), .int (nI (hv_N e b s i + 1)), .int (nI (hv_X e b s i)), v7, v8, v9, v10])), (ea, .inl (cI, 48, .inl (e))), (pa, .inl (cZ, 48, .inl (fun j => zI (b j))))] := hD
        refine lv_aload_n hx hb dX2_recount_93 rfl (lv_at hl 1 rfl) ?_
        refine va_get (D := (dC, dI)) (ci := 2) (v := .ref pa) (C := RX2) (T := TX2) (N := 11) hx hb hts (by decide +kernel) hown hK hP 0 rfl rfl 1 (by decide) (hts (.fieldLink RX2 15 "FlakyBounds$History" "passes" "[Z") (by decide +kernel)) (fun _ h9 => h9) rfl dX2_recount_94 ?_
        refine lv_iload_n hx hb dX2_recount_97 rfl (lv_at hl 2 rfl) ?_
        refine va_zald hx hb hK hP 2 1 rfl rfl (vp_in_nI (by omega) (by decide)) dX2_recount_98 ?_
        refine fw_i (x' := 1) (by rw [nI_clamp (by omega)]; show zI (b i) = _; rw [hbi]; rfl) ?_
        refine lv_if_ne (tgt := 116) hx hb dX2_recount_99 (by decide) (fun _ => ?_) (fun c_99 => absurd c_99 (by decide))
        refine lv_iinc (v := nI (i + 1)) (lv' := [(1, .int (nI (i + 1))), (2, .int (zI (hv_con e b s i))), (0, .ref h0)]) hx hb dX2_recount_116 hl (k := 2) rfl (nI_1 i) (by decide) rfl (fun ls hl => ?_)
        refine lv_goto (tgt := 17) hx hb dX2_recount_119 (by decide) ?_
        have e1 : hv_D e b s (i + 1) = hv_D e b s i + 1 := by rw [hv_DS, hcon]; rfl
        have e2 : hv_N e b s (i + 1) = hv_N e b s i + 1 := by rw [hv_NS, hcon, hbi]; rfl
        have e3 : hv_X e b s (i + 1) = hv_X e b s i := by rw [hv_XS, hcon, hbi]; rfl
        have hP : va_P (dC, dI) vwCl [(h0, .inr (2, [.ref ea, .ref pa, .int (nI s), v3, .int (nI (hv_D e b s (i + 1))), .int (nI (hv_N e b s (i + 1))), .int (nI (hv_X e b s (i + 1))), v7, v8, v9, v10])), (ea, .inl (cI, 48, .inl (e))), (pa, .inl (cZ, 48, .inl (fun j => zI (b j))))] H := by rw [e1, e2, e3]; exact hP
        have hD : va_D A [(h0, .inr (2, [.ref ea, .ref pa, .int (nI s), v3, .int (nI (hv_D e b s (i + 1))), .int (nI (hv_N e b s (i + 1))), .int (nI (hv_X e b s (i + 1))), v7, v8, v9, v10])), (ea, .inl (cI, 48, .inl (e))), (pa, .inl (cZ, 48, .inl (fun j => zI (b j))))] := by rw [e1, e2, e3]; exact hD
        exact ih_17 _ (i + 1) _ _ _ (by omega) ⟨rfl, by omega, hP.sub [0, 1, 2] rfl, hD.sub [0, 1, 2] (by decide) rfl, hS, lv_sub hl [2, 0] rfl⟩
set_option maxHeartbeats 4000000 in
set_option maxRecDepth 100000 in
theorem c_his_add (l : Launch) (dC : Nat → ClassId) (dI : Nat → Nat → Nat) (h0 ea pa : Nat) (cI cZ : ClassId) (s o : Nat) (x4 x5 x6 : Int32) (v7 v8 v9 v10 : Value) (e : Nat → Int32) (b : Nat → Bool) (x : Int32) (q : Bool) (sz : Nat) (hs : s ≤ 48) (ho : o < 48) : Met l yX2_add wsX2_add ({ frames := 2, cells := 0, slots := 0, locals := 45 } : Room) (va_Pc [.ref h0, .int x, .int (zI q)] (fw_pW (dC, dI) vwCl [(cI, .int), (cZ, .boolean)] [(h0, .inr (2, [.ref ea, .ref pa, .int (nI s), .int (nI o), .int x4, .int x5, .int x6, v7, v8, v9, v10])), (ea, .inl (cI, 48, .inl (e))), (pa, .inl (cZ, 48, .inl (fun j => zI (b j))))] sz)) (va_Qv (S := Unit) (fun _ => True) (fun u t => fw_q (dC, dI) vwCl [(cI, .int), (cZ, .boolean)] (va_A [(h0, .inr (2, [.ref ea, .ref pa, .int (nI s), .int (nI o), .int x4, .int x5, .int x6, v7, v8, v9, v10])), (ea, .inl (cI, 48, .inl (e))), (pa, .inl (cZ, 48, .inl (fun j => zI (b j))))] sz) [(h0, .inr (2, [.ref ea, .ref pa, .int (nI (hv_s s)), .int (nI (hv_o s o)), .int (nI (hv_D (upd e (hv_slot s o) x) (va_up b (hv_slot s o) q) (hv_s s) (hv_s s))), .int (nI (hv_N (upd e (hv_slot s o) x) (va_up b (hv_slot s o) q) (hv_s s) (hv_s s))), .int (nI (hv_X (upd e (hv_slot s o) x) (va_up b (hv_slot s o) q) (hv_s s) (hv_s s))), v7, v8, v9, v10])), (ea, .inl (cI, 48, .inl ((upd e (hv_slot s o) x)))), (pa, .inl (cZ, 48, .inl (fun j => zI ((va_up b (hv_slot s o) q) j))))] t) (va_A [(h0, .inr (2, [.ref ea, .ref pa, .int (nI s), .int (nI o), .int x4, .int x5, .int x6, v7, v8, v9, v10])), (ea, .inl (cI, 48, .inl (e))), (pa, .inl (cZ, 48, .inl (fun j => zI (b j))))] sz)) 0 0 (va_A [(h0, .inr (2, [.ref ea, .ref pa, .int (nI s), .int (nI o), .int x4, .int x5, .int x6, v7, v8, v9, v10])), (ea, .inl (cI, 48, .inl (e))), (pa, .inl (cZ, 48, .inl (fun j => zI (b j))))] sz) := by
  refine fw_metW (cc := cX2_add) (maxL := 4) (ret := none) (by decide) rfl (Nat.le_of_ble_eq_true rfl) ?_
  intro zp ze zs zm zbelow zmeth zc ls hx hb hr hts hown hlocks hml hin hN hsz hP hK hD hA hS hl
  generalize hAe : (va_A [(h0, .inr (2, [.ref ea, .ref pa, .int (nI s), .int (nI o), .int x4, .int x5, .int x6, v7, v8, v9, v10])), (ea, .inl (cI, 48, .inl (e))), (pa, .inl (cZ, 48, .inl (fun j => zI (b j))))] sz) = A at hD hA hS ⊢
  have hown : zs.vm.findClass RX2 = some zm.cls := hown
  have hl : lv_has ls 4 [(0, .ref h0), (1, .int x), (2, .int (zI q))] := hl
  refine lv_aload_n hx hb dX2_add_0 rfl (lv_at hl 0 rfl) ?_
  refine va_get (D := (dC, dI)) (ci := 2) (v := .int (nI s)) (C := RX2) (T := TX2) (N := 11) hx hb hts (by decide +kernel) hown hK hP 0 rfl rfl 2 (by decide) (hts (.fieldLink RX2 23 "FlakyBounds$History" "size" "I") (by decide +kernel)) (fun _ h9 => h9) rfl dX2_add_1 ?_
  refine lv_istore_n (lv' := [(3, .int (nI s)), (0, .ref h0), (1, .int x), (2, .int (zI q))]) hx hb dX2_add_4 rfl hl (by decide) rfl (fun ls hl => ?_)
  refine lv_aload_n hx hb dX2_add_5 rfl (lv_at hl 1 rfl) ?_
  refine va_get (D := (dC, dI)) (ci := 2) (v := .int (nI s)) (C := RX2) (T := TX2) (N := 11) hx hb hts (by decide +kernel) hown hK hP 0 rfl rfl 2 (by decide) (hts (.fieldLink RX2 23 "FlakyBounds$History" "size" "I") (by decide +kernel)) (fun _ h9 => h9) rfl dX2_add_6 ?_
  refine lv_bipush (v := 48) hx hb dX2_add_9 (by decide) ?_
  refine lv_icmp_ge (tgt := 27) hx hb dX2_add_11 (by decide) (fun c_11 => ?_) (fun c_11 => ?_)
  · -- then 11
    have c11 : ¬ s < 48 := by have := (nI_leI (a := 48) (b := s) (by decide) (by omega)).mp c_11; omega
    refine lv_aload_n hx hb dX2_add_27 rfl (lv_at hl 1 rfl) ?_
    refine va_get (D := (dC, dI)) (ci := 2) (v := .int (nI o)) (C := RX2) (T := TX2) (N := 11) hx hb hts (by decide +kernel) hown hK hP 0 rfl rfl 3 (by decide) (hts (.fieldLink RX2 26 "FlakyBounds$History" "oldest" "I") (by decide +kernel)) (fun _ h9 => h9) rfl dX2_add_28 ?_
    refine lv_istore_n (lv' := [(3, .int (nI o)), (0, .ref h0), (1, .int x), (2, .int (zI q))]) hx hb dX2_add_31 rfl hl (by decide) rfl (fun ls hl => ?_)
    refine lv_aload_n hx hb dX2_add_32 rfl (lv_at hl 1 rfl) ?_
    refine lv_aload_n hx hb dX2_add_33 rfl (lv_at hl 1 rfl) ?_
    refine va_get (D := (dC, dI)) (ci := 2) (v := .int (nI o)) (C := RX2) (T := TX2) (N := 11) hx hb hts (by decide +kernel) hown hK hP 0 rfl rfl 3 (by decide) (hts (.fieldLink RX2 26 "FlakyBounds$History" "oldest" "I") (by decide +kernel)) (fun _ h9 => h9) rfl dX2_add_34 ?_
    refine lv_iconst (v := 1) hx hb dX2_add_37 (by decide) ?_
    refine lv_iadd hx hb dX2_add_38 ?_
    refine fw_i (x' := nI (o + 1)) (nI_1 o) ?_
    refine lv_bipush (v := 48) hx hb dX2_add_39 (by decide) ?_
    refine lv_icmp_ge (tgt := 53) hx hb dX2_add_41 (by decide) (fun c_41 => ?_) (fun c_41 => ?_)
    · -- then 41
      have c41 : ¬ o + 1 < 48 := by have := (nI_leI (a := 48) (b := o + 1) (by decide) (by omega)).mp c_41; omega
      refine lv_iconst (v := 0) hx hb dX2_add_53 (by decide) ?_
      refine fw_i (x' := nI 0) (rfl) ?_
      refine va_put (D := (dC, dI)) (ci := 2) (v := .int (nI 0)) (ty := .int) (C := RX2) (T := TX2) (N := 11) hx hb hts (by decide +kernel) tyX2 tyX2_ok nmX2 hown hK hP hD hS 0 rfl rfl 3 (by decide) (hts (.fieldLink RX2 26 "FlakyBounds$History" "oldest" "I") (by decide +kernel)) (fun _ h9 => h9) rfl (by decide +kernel) rfl rfl (Nat.le_of_ble_eq_true rfl) dX2_add_54 (fun H locs hP hD hS => ?_)
      have hP : va_P (dC, dI) vwCl [(h0, .inr (2, [.ref ea, .ref pa, .int (nI s), .int (nI 0), .int x4, .int x5, .int x6, v7, v8, v9, v10])), (ea, .inl (cI, 48, .inl (e))), (pa, .inl (cZ, 48, .inl (fun j => zI (b j))))] H := hP
      have hD : va_D A [(h0, .inr (2, [.ref ea, .ref pa, .int (nI s), .int (nI 0), .int x4, .int x5, .int x6, v7, v8, v9, v10])), (ea, .inl (cI, 48, .inl (e))), (pa, .inl (cZ, 48, .inl (fun j => zI (b j))))] := hD
      refine lv_iload_n hx hb dX2_add_57 rfl (lv_at hl 0 rfl) ?_
      refine lv_if_lt (tgt := 81) hx hb dX2_add_58 (by decide) (fun c_58 => absurd c_58 (nI_pos (by omega))) (fun _ => ?_)
      refine lv_iload_n hx hb dX2_add_61 rfl (lv_at hl 0 rfl) ?_
      refine lv_bipush (v := 48) hx hb dX2_add_62 (by decide) ?_
      refine lv_icmp_ge (tgt := 81) hx hb dX2_add_64 (by decide) (fun c_64 => absurd c_64 (nI_ge (a := o) (b := 48) (by omega) (by decide))) (fun _ => ?_)
      refine lv_aload_n hx hb dX2_add_67 rfl (lv_at hl 1 rfl) ?_
      refine va_get (D := (dC, dI)) (ci := 2) (v := .ref ea) (C := RX2) (T := TX2) (N := 11) hx hb hts (by decide +kernel) hown hK hP 0 rfl rfl 0 (by decide) (hts (.fieldLink RX2 9 "FlakyBounds$History" "editions" "[I") (by decide +kernel)) (fun _ h9 => h9) rfl dX2_add_68 ?_
      refine lv_iload_n hx hb dX2_add_71 rfl (lv_at hl 0 rfl) ?_
      refine lv_iload_n hx hb dX2_add_72 rfl (lv_at hl 2 rfl) ?_
      refine va_iast hx hb hK hP hD hS 1 0 rfl rfl (vp_in_nI (by omega) (by decide)) dX2_add_73 (fun H locs hP hD hS => ?_)
      have e_st : upd (e) (nI o).toNatClampNeg x = upd e o x := by rw [nI_clamp (by omega)]
      rw [e_st] at hP hD
      have hP : va_P (dC, dI) vwCl [(h0, .inr (2, [.ref ea, .ref pa, .int (nI s), .int (nI 0), .int x4, .int x5, .int x6, v7, v8, v9, v10])), (ea, .inl (cI, 48, .inl (upd e o x))), (pa, .inl (cZ, 48, .inl (fun j => zI (b j))))] H := hP
      have hD : va_D A [(h0, .inr (2, [.ref ea, .ref pa, .int (nI s), .int (nI 0), .int x4, .int x5, .int x6, v7, v8, v9, v10])), (ea, .inl (cI, 48, .inl (upd e o x))), (pa, .inl (cZ, 48, .inl (fun j => zI (b j))))] := hD
      refine lv_aload_n hx hb dX2_add_74 rfl (lv_at hl 1 rfl) ?_
      refine va_get (D := (dC, dI)) (ci := 2) (v := .ref pa) (C := RX2) (T := TX2) (N := 11) hx hb hts (by decide +kernel) hown hK hP 0 rfl rfl 1 (by decide) (hts (.fieldLink RX2 15 "FlakyBounds$History" "passes" "[Z") (by decide +kernel)) (fun _ h9 => h9) rfl dX2_add_75 ?_
      refine lv_iload_n hx hb dX2_add_78 rfl (lv_at hl 0 rfl) ?_
      refine lv_iload_n hx hb dX2_add_79 rfl (lv_at hl 3 rfl) ?_
      refine va_zast hx hb hK hP hD hS 2 1 rfl rfl (vp_in_nI (by omega) (by decide)) dX2_add_80 (fun H locs hP hD hS => ?_)
      have e_st : upd (fun j => zI (b j)) (nI o).toNatClampNeg (vp_nar .boolean (zI q)) = fun j => zI (va_up b o q j) := by rw [nI_clamp (by omega)]; exact zI_st b _ q
      rw [e_st] at hP hD
      have hP : va_P (dC, dI) vwCl [(h0, .inr (2, [.ref ea, .ref pa, .int (nI s), .int (nI 0), .int x4, .int x5, .int x6, v7, v8, v9, v10])), (ea, .inl (cI, 48, .inl (upd e o x))), (pa, .inl (cZ, 48, .inl (fun j => zI (va_up b o q j))))] H := hP
      have hD : va_D A [(h0, .inr (2, [.ref ea, .ref pa, .int (nI s), .int (nI 0), .int x4, .int x5, .int x6, v7, v8, v9, v10])), (ea, .inl (cI, 48, .inl (upd e o x))), (pa, .inl (cZ, 48, .inl (fun j => zI (va_up b o q j))))] := hD
      refine lv_aload_n hx hb dX2_add_81 rfl (lv_at hl 1 rfl) ?_
      have hPc := hP.sub (ws' := [(h0, .inr (2, [.ref ea, .ref pa, .int (nI s), .int (nI 0), .int x4, .int x5, .int x6, v7, v8, v9, v10])), (ea, .inl (cI, 48, .inl (upd e o x))), (pa, .inl (cZ, 48, .inl (fun j => zI (va_up b o q j))))]) [0, 1, 2] rfl
      have hKc := hK.sub (tys' := [(cI, .int), (cZ, .boolean)]) [0, 1] rfl
      have hDc := hD.sub (ws' := [(h0, .inr (2, [.ref ea, .ref pa, .int (nI s), .int (nI 0), .int x4, .int x5, .int x6, v7, v8, v9, v10])), (ea, .inl (cI, 48, .inl (upd e o x))), (pa, .inl (cZ, 48, .inl (fun j => zI (va_up b o q j))))]) [0, 1, 2] (by decide) rfl
      have hFc := va_free (wc := [(h0, .inr (2, [.ref ea, .ref pa, .int (nI s), .int (nI 0), .int x4, .int x5, .int x6, v7, v8, v9, v10])), (ea, .inl (cI, 48, .inl (upd e o x))), (pa, .inl (cZ, 48, .inl (fun j => zI (va_up b o q j))))]) hD hS hA [0, 1, 2] rfl
      refine va_callv (va_runV (As := []) (rest := []) ⟨hx, hb, hml, hown, hts⟩ (c_his_recount l dC dI h0 ea pa cI cZ s (.int (nI 0)) x4 x5 x6 v7 v8 v9 v10 (upd e o x) (va_up b o q) H.size (by omega)) (cwV 0 hts gX2_add_X2_recount rfl rfl rfl (by decide +kernel) ⟨Nat.le_of_ble_eq_true rfl, Nat.le_of_ble_eq_true rfl⟩) (fw_preVW hN hKc hPc hDc (ci := 2) (q0 := 0) rfl rfl) rfl rfl hl.1 rfl (lv_room (Nat.le_of_ble_eq_true rfl)) dX2_add_82 ⟨Nat.le_of_ble_eq_true rfl, Nat.le_of_ble_eq_true rfl⟩) hS (fun q _ h => hFc q h) hFc (fun u zt H1 locs zht hvm hw hB hz1 hk1 hS => ?_)
      obtain ⟨⟩ := u
      obtain ⟨hP1, hK1, hD1⟩ := hB
      rw [zht] at hP1
      obtain ⟨hP, hD⟩ := va_join (wr := []) (w1 := [(h0, .inr (2, [.ref ea, .ref pa, .int (nI s), .int (nI 0), .int (nI (hv_D (upd e o x) (va_up b o q) s s)), .int (nI (hv_N (upd e o x) (va_up b o q) s s)), .int (nI (hv_X (upd e o x) (va_up b o q) s s)), v7, v8, v9, v10])), (ea, .inl (cI, 48, .inl ((upd e o x)))), (pa, .inl (cZ, 48, .inl (fun j => zI ((va_up b o q) j))))]) hP hD [0, 1, 2] [] rfl rfl (by decide) (by decide) hk1 hFc hP1 hD1
      generalize H1 = H at hP hS ⊢
      have hP : va_P (dC, dI) vwCl [(h0, .inr (2, [.ref ea, .ref pa, .int (nI s), .int (nI 0), .int (nI (hv_D (upd e o x) (va_up b o q) s s)), .int (nI (hv_N (upd e o x) (va_up b o q) s s)), .int (nI (hv_X (upd e o x) (va_up b o q) s s)), v7, v8, v9, v10])), (ea, .inl (cI, 48, .inl ((upd e o x)))), (pa, .inl (cZ, 48, .inl (fun j => zI ((va_up b o q) j))))] H := hP
      have hD : va_D A [(h0, .inr (2, [.ref ea, .ref pa, .int (nI s), .int (nI 0), .int (nI (hv_D (upd e o x) (va_up b o q) s s)), .int (nI (hv_N (upd e o x) (va_up b o q) s s)), .int (nI (hv_X (upd e o x) (va_up b o q) s s)), v7, v8, v9, v10])), (ea, .inl (cI, 48, .inl ((upd e o x)))), (pa, .inl (cZ, 48, .inl (fun j => zI ((va_up b o q) j))))] := hD
      have z1 : hv_slot s o = o := by unfold hv_slot; rw [if_neg c11]
      have z2 : hv_s s = s := by unfold hv_s; rw [if_neg c11]
      have z3 : hv_o s o = 0 := by unfold hv_o; rw [if_neg c11, if_neg c41]
      have hP : va_P (dC, dI) vwCl [(h0, .inr (2, [.ref ea, .ref pa, .int (nI (hv_s s)), .int (nI (hv_o s o)), .int (nI (hv_D (upd e (hv_slot s o) x) (va_up b (hv_slot s o) q) (hv_s s) (hv_s s))), .int (nI (hv_N (upd e (hv_slot s o) x) (va_up b (hv_slot s o) q) (hv_s s) (hv_s s))), .int (nI (hv_X (upd e (hv_slot s o) x) (va_up b (hv_slot s o) q) (hv_s s) (hv_s s))), v7, v8, v9, v10])), (ea, .inl (cI, 48, .inl ((upd e (hv_slot s o) x)))), (pa, .inl (cZ, 48, .inl (fun j => zI ((va_up b (hv_slot s o) q) j))))] H := by rw [z1, z2, z3]; exact hP
      have hD : va_D A [(h0, .inr (2, [.ref ea, .ref pa, .int (nI (hv_s s)), .int (nI (hv_o s o)), .int (nI (hv_D (upd e (hv_slot s o) x) (va_up b (hv_slot s o) q) (hv_s s) (hv_s s))), .int (nI (hv_N (upd e (hv_slot s o) x) (va_up b (hv_slot s o) q) (hv_s s) (hv_s s))), .int (nI (hv_X (upd e (hv_slot s o) x) (va_up b (hv_slot s o) q) (hv_s s) (hv_s s))), v7, v8, v9, v10])), (ea, .inl (cI, 48, .inl ((upd e (hv_slot s o) x)))), (pa, .inl (cZ, 48, .inl (fun j => zI ((va_up b (hv_slot s o) q) j))))] := by rw [z1, z2, z3]; exact hD
      have hP9 := hP.sub (ws' := [(h0, .inr (2, [.ref ea, .ref pa, .int (nI (hv_s s)), .int (nI (hv_o s o)), .int (nI (hv_D (upd e (hv_slot s o) x) (va_up b (hv_slot s o) q) (hv_s s) (hv_s s))), .int (nI (hv_N (upd e (hv_slot s o) x) (va_up b (hv_slot s o) q) (hv_s s) (hv_s s))), .int (nI (hv_X (upd e (hv_slot s o) x) (va_up b (hv_slot s o) q) (hv_s s) (hv_s s))), v7, v8, v9, v10])), (ea, .inl (cI, 48, .inl ((upd e (hv_slot s o) x)))), (pa, .inl (cZ, 48, .inl (fun j => zI ((va_up b (hv_slot s o) q) j))))]) [0, 1, 2] rfl
      have hD9 := hD.sub (ws' := [(h0, .inr (2, [.ref ea, .ref pa, .int (nI (hv_s s)), .int (nI (hv_o s o)), .int (nI (hv_D (upd e (hv_slot s o) x) (va_up b (hv_slot s o) q) (hv_s s) (hv_s s))), .int (nI (hv_N (upd e (hv_slot s o) x) (va_up b (hv_slot s o) q) (hv_s s) (hv_s s))), .int (nI (hv_X (upd e (hv_slot s o) x) (va_up b (hv_slot s o) q) (hv_s s) (hv_s s))), v7, v8, v9, v10])), (ea, .inl (cI, 48, .inl ((upd e (hv_slot s o) x)))), (pa, .inl (cZ, 48, .inl (fun j => zI ((va_up b (hv_slot s o) q) j))))]) [0, 1, 2] (by decide) rfl
      have hK9 := hK.sub (tys' := [(cI, .int), (cZ, .boolean)]) [0, 1] rfl
      exact W.vret hx hb hr (fun zt zht hW => ⟨⟨⟨⟩, rfl, trivial, by rw [zht]; exact hP9, va_K.moved hW.alike hK9, hD9⟩, hS.F zht⟩) hS.2.2 dX2_add_85 hlocks
    · -- else 41
      have c41 : o + 1 < 48 := by
        rcases Nat.lt_or_ge (o + 1) 48 with q9 | q9
        · exact q9
        · exact absurd (nI_le (a := 48) (b := o + 1) q9 (by omega)) c_41
      refine lv_aload_n hx hb dX2_add_44 rfl (lv_at hl 1 rfl) ?_
      refine va_get (D := (dC, dI)) (ci := 2) (v := .int (nI o)) (C := RX2) (T := TX2) (N := 11) hx hb hts (by decide +kernel) hown hK hP 0 rfl rfl 3 (by decide) (hts (.fieldLink RX2 26 "FlakyBounds$History" "oldest" "I") (by decide +kernel)) (fun _ h9 => h9) rfl dX2_add_45 ?_
      refine lv_iconst (v := 1) hx hb dX2_add_48 (by decide) ?_
      refine lv_iadd hx hb dX2_add_49 ?_
      refine fw_i (x' := nI (o + 1)) (nI_1 o) ?_
      refine lv_goto (tgt := 54) hx hb dX2_add_50 (by decide) ?_
      refine va_put (D := (dC, dI)) (ci := 2) (v := .int (nI (o + 1))) (ty := .int) (C := RX2) (T := TX2) (N := 11) hx hb hts (by decide +kernel) tyX2 tyX2_ok nmX2 hown hK hP hD hS 0 rfl rfl 3 (by decide) (hts (.fieldLink RX2 26 "FlakyBounds$History" "oldest" "I") (by decide +kernel)) (fun _ h9 => h9) rfl (by decide +kernel) rfl rfl (Nat.le_of_ble_eq_true rfl) dX2_add_54 (fun H locs hP hD hS => ?_)
      have hP : va_P (dC, dI) vwCl [(h0, .inr (2, [.ref ea, .ref pa, .int (nI s), .int (nI (o + 1)), .int x4, .int x5, .int x6, v7, v8, v9, v10])), (ea, .inl (cI, 48, .inl (e))), (pa, .inl (cZ, 48, .inl (fun j => zI (b j))))] H := hP
      have hD : va_D A [(h0, .inr (2, [.ref ea, .ref pa, .int (nI s), .int (nI (o + 1)), .int x4, .int x5, .int x6, v7, v8, v9, v10])), (ea, .inl (cI, 48, .inl (e))), (pa, .inl (cZ, 48, .inl (fun j => zI (b j))))] := hD
      refine lv_iload_n hx hb dX2_add_57 rfl (lv_at hl 0 rfl) ?_
      refine lv_if_lt (tgt := 81) hx hb dX2_add_58 (by decide) (fun c_58 => absurd c_58 (nI_pos (by omega))) (fun _ => ?_)
      refine lv_iload_n hx hb dX2_add_61 rfl (lv_at hl 0 rfl) ?_
      refine lv_bipush (v := 48) hx hb dX2_add_62 (by decide) ?_
      refine lv_icmp_ge (tgt := 81) hx hb dX2_add_64 (by decide) (fun c_64 => absurd c_64 (nI_ge (a := o) (b := 48) (by omega) (by decide))) (fun _ => ?_)
      refine lv_aload_n hx hb dX2_add_67 rfl (lv_at hl 1 rfl) ?_
      refine va_get (D := (dC, dI)) (ci := 2) (v := .ref ea) (C := RX2) (T := TX2) (N := 11) hx hb hts (by decide +kernel) hown hK hP 0 rfl rfl 0 (by decide) (hts (.fieldLink RX2 9 "FlakyBounds$History" "editions" "[I") (by decide +kernel)) (fun _ h9 => h9) rfl dX2_add_68 ?_
      refine lv_iload_n hx hb dX2_add_71 rfl (lv_at hl 0 rfl) ?_
      refine lv_iload_n hx hb dX2_add_72 rfl (lv_at hl 2 rfl) ?_
      refine va_iast hx hb hK hP hD hS 1 0 rfl rfl (vp_in_nI (by omega) (by decide)) dX2_add_73 (fun H locs hP hD hS => ?_)
      have e_st : upd (e) (nI o).toNatClampNeg x = upd e o x := by rw [nI_clamp (by omega)]
      rw [e_st] at hP hD
      have hP : va_P (dC, dI) vwCl [(h0, .inr (2, [.ref ea, .ref pa, .int (nI s), .int (nI (o + 1)), .int x4, .int x5, .int x6, v7, v8, v9, v10])), (ea, .inl (cI, 48, .inl (upd e o x))), (pa, .inl (cZ, 48, .inl (fun j => zI (b j))))] H := hP
      have hD : va_D A [(h0, .inr (2, [.ref ea, .ref pa, .int (nI s), .int (nI (o + 1)), .int x4, .int x5, .int x6, v7, v8, v9, v10])), (ea, .inl (cI, 48, .inl (upd e o x))), (pa, .inl (cZ, 48, .inl (fun j => zI (b j))))] := hD
      refine lv_aload_n hx hb dX2_add_74 rfl (lv_at hl 1 rfl) ?_
      refine va_get (D := (dC, dI)) (ci := 2) (v := .ref pa) (C := RX2) (T := TX2) (N := 11) hx hb hts (by decide +kernel) hown hK hP 0 rfl rfl 1 (by decide) (hts (.fieldLink RX2 15 "FlakyBounds$History" "passes" "[Z") (by decide +kernel)) (fun _ h9 => h9) rfl dX2_add_75 ?_
      refine lv_iload_n hx hb dX2_add_78 rfl (lv_at hl 0 rfl) ?_
      refine lv_iload_n hx hb dX2_add_79 rfl (lv_at hl 3 rfl) ?_
      refine va_zast hx hb hK hP hD hS 2 1 rfl rfl (vp_in_nI (by omega) (by decide)) dX2_add_80 (fun H locs hP hD hS => ?_)
      have e_st : upd (fun j => zI (b j)) (nI o).toNatClampNeg (vp_nar .boolean (zI q)) = fun j => zI (va_up b o q j) := by rw [nI_clamp (by omega)]; exact zI_st b _ q
      rw [e_st] at hP hD
      have hP : va_P (dC, dI) vwCl [(h0, .inr (2, [.ref ea, .ref pa, .int (nI s), .int (nI (o + 1)), .int x4, .int x5, .int x6, v7, v8, v9, v10])), (ea, .inl (cI, 48, .inl (upd e o x))), (pa, .inl (cZ, 48, .inl (fun j => zI (va_up b o q j))))] H := hP
      have hD : va_D A [(h0, .inr (2, [.ref ea, .ref pa, .int (nI s), .int (nI (o + 1)), .int x4, .int x5, .int x6, v7, v8, v9, v10])), (ea, .inl (cI, 48, .inl (upd e o x))), (pa, .inl (cZ, 48, .inl (fun j => zI (va_up b o q j))))] := hD
      refine lv_aload_n hx hb dX2_add_81 rfl (lv_at hl 1 rfl) ?_
      have hPc := hP.sub (ws' := [(h0, .inr (2, [.ref ea, .ref pa, .int (nI s), .int (nI (o + 1)), .int x4, .int x5, .int x6, v7, v8, v9, v10])), (ea, .inl (cI, 48, .inl (upd e o x))), (pa, .inl (cZ, 48, .inl (fun j => zI (va_up b o q j))))]) [0, 1, 2] rfl
      have hKc := hK.sub (tys' := [(cI, .int), (cZ, .boolean)]) [0, 1] rfl
      have hDc := hD.sub (ws' := [(h0, .inr (2, [.ref ea, .ref pa, .int (nI s), .int (nI (o + 1)), .int x4, .int x5, .int x6, v7, v8, v9, v10])), (ea, .inl (cI, 48, .inl (upd e o x))), (pa, .inl (cZ, 48, .inl (fun j => zI (va_up b o q j))))]) [0, 1, 2] (by decide) rfl
      have hFc := va_free (wc := [(h0, .inr (2, [.ref ea, .ref pa, .int (nI s), .int (nI (o + 1)), .int x4, .int x5, .int x6, v7, v8, v9, v10])), (ea, .inl (cI, 48, .inl (upd e o x))), (pa, .inl (cZ, 48, .inl (fun j => zI (va_up b o q j))))]) hD hS hA [0, 1, 2] rfl
      refine va_callv (va_runV (As := []) (rest := []) ⟨hx, hb, hml, hown, hts⟩ (c_his_recount l dC dI h0 ea pa cI cZ s (.int (nI (o + 1))) x4 x5 x6 v7 v8 v9 v10 (upd e o x) (va_up b o q) H.size (by omega)) (cwV 0 hts gX2_add_X2_recount rfl rfl rfl (by decide +kernel) ⟨Nat.le_of_ble_eq_true rfl, Nat.le_of_ble_eq_true rfl⟩) (fw_preVW hN hKc hPc hDc (ci := 2) (q0 := 0) rfl rfl) rfl rfl hl.1 rfl (lv_room (Nat.le_of_ble_eq_true rfl)) dX2_add_82 ⟨Nat.le_of_ble_eq_true rfl, Nat.le_of_ble_eq_true rfl⟩) hS (fun q _ h => hFc q h) hFc (fun u zt H1 locs zht hvm hw hB hz1 hk1 hS => ?_)
      obtain ⟨⟩ := u
      obtain ⟨hP1, hK1, hD1⟩ := hB
      rw [zht] at hP1
      obtain ⟨hP, hD⟩ := va_join (wr := []) (w1 := [(h0, .inr (2, [.ref ea, .ref pa, .int (nI s), .int (nI (o + 1)), .int (nI (hv_D (upd e o x) (va_up b o q) s s)), .int (nI (hv_N (upd e o x) (va_up b o q) s s)), .int (nI (hv_X (upd e o x) (va_up b o q) s s)), v7, v8, v9, v10])), (ea, .inl (cI, 48, .inl ((upd e o x)))), (pa, .inl (cZ, 48, .inl (fun j => zI ((va_up b o q) j))))]) hP hD [0, 1, 2] [] rfl rfl (by decide) (by decide) hk1 hFc hP1 hD1
      generalize H1 = H at hP hS ⊢
      have hP : va_P (dC, dI) vwCl [(h0, .inr (2, [.ref ea, .ref pa, .int (nI s), .int (nI (o + 1)), .int (nI (hv_D (upd e o x) (va_up b o q) s s)), .int (nI (hv_N (upd e o x) (va_up b o q) s s)), .int (nI (hv_X (upd e o x) (va_up b o q) s s)), v7, v8, v9, v10])), (ea, .inl (cI, 48, .inl ((upd e o x)))), (pa, .inl (cZ, 48, .inl (fun j => zI ((va_up b o q) j))))] H := hP
      have hD : va_D A [(h0, .inr (2, [.ref ea, .ref pa, .int (nI s), .int (nI (o + 1)), .int (nI (hv_D (upd e o x) (va_up b o q) s s)), .int (nI (hv_N (upd e o x) (va_up b o q) s s)), .int (nI (hv_X (upd e o x) (va_up b o q) s s)), v7, v8, v9, v10])), (ea, .inl (cI, 48, .inl ((upd e o x)))), (pa, .inl (cZ, 48, .inl (fun j => zI ((va_up b o q) j))))] := hD
      have z1 : hv_slot s o = o := by unfold hv_slot; rw [if_neg c11]
      have z2 : hv_s s = s := by unfold hv_s; rw [if_neg c11]
      have z3 : hv_o s o = (o + 1) := by unfold hv_o; rw [if_neg c11, if_pos c41]
      have hP : va_P (dC, dI) vwCl [(h0, .inr (2, [.ref ea, .ref pa, .int (nI (hv_s s)), .int (nI (hv_o s o)), .int (nI (hv_D (upd e (hv_slot s o) x) (va_up b (hv_slot s o) q) (hv_s s) (hv_s s))), .int (nI (hv_N (upd e (hv_slot s o) x) (va_up b (hv_slot s o) q) (hv_s s) (hv_s s))), .int (nI (hv_X (upd e (hv_slot s o) x) (va_up b (hv_slot s o) q) (hv_s s) (hv_s s))), v7, v8, v9, v10])), (ea, .inl (cI, 48, .inl ((upd e (hv_slot s o) x)))), (pa, .inl (cZ, 48, .inl (fun j => zI ((va_up b (hv_slot s o) q) j))))] H := by rw [z1, z2, z3]; exact hP
      have hD : va_D A [(h0, .inr (2, [.ref ea, .ref pa, .int (nI (hv_s s)), .int (nI (hv_o s o)), .int (nI (hv_D (upd e (hv_slot s o) x) (va_up b (hv_slot s o) q) (hv_s s) (hv_s s))), .int (nI (hv_N (upd e (hv_slot s o) x) (va_up b (hv_slot s o) q) (hv_s s) (hv_s s))), .int (nI (hv_X (upd e (hv_slot s o) x) (va_up b (hv_slot s o) q) (hv_s s) (hv_s s))), v7, v8, v9, v10])), (ea, .inl (cI, 48, .inl ((upd e (hv_slot s o) x)))), (pa, .inl (cZ, 48, .inl (fun j => zI ((va_up b (hv_slot s o) q) j))))] := by rw [z1, z2, z3]; exact hD
      have hP9 := hP.sub (ws' := [(h0, .inr (2, [.ref ea, .ref pa, .int (nI (hv_s s)), .int (nI (hv_o s o)), .int (nI (hv_D (upd e (hv_slot s o) x) (va_up b (hv_slot s o) q) (hv_s s) (hv_s s))), .int (nI (hv_N (upd e (hv_slot s o) x) (va_up b (hv_slot s o) q) (hv_s s) (hv_s s))), .int (nI (hv_X (upd e (hv_slot s o) x) (va_up b (hv_slot s o) q) (hv_s s) (hv_s s))), v7, v8, v9, v10])), (ea, .inl (cI, 48, .inl ((upd e (hv_slot s o) x)))), (pa, .inl (cZ, 48, .inl (fun j => zI ((va_up b (hv_slot s o) q) j))))]) [0, 1, 2] rfl
      have hD9 := hD.sub (ws' := [(h0, .inr (2, [.ref ea, .ref pa, .int (nI (hv_s s)), .int (nI (hv_o s o)), .int (nI (hv_D (upd e (hv_slot s o) x) (va_up b (hv_slot s o) q) (hv_s s) (hv_s s))), .int (nI (hv_N (upd e (hv_slot s o) x) (va_up b (hv_slot s o) q) (hv_s s) (hv_s s))), .int (nI (hv_X (upd e (hv_slot s o) x) (va_up b (hv_slot s o) q) (hv_s s) (hv_s s))), v7, v8, v9, v10])), (ea, .inl (cI, 48, .inl ((upd e (hv_slot s o) x)))), (pa, .inl (cZ, 48, .inl (fun j => zI ((va_up b (hv_slot s o) q) j))))]) [0, 1, 2] (by decide) rfl
      have hK9 := hK.sub (tys' := [(cI, .int), (cZ, .boolean)]) [0, 1] rfl
      exact W.vret hx hb hr (fun zt zht hW => ⟨⟨⟨⟩, rfl, trivial, by rw [zht]; exact hP9, va_K.moved hW.alike hK9, hD9⟩, hS.F zht⟩) hS.2.2 dX2_add_85 hlocks
  · -- else 11
    have c11 : s < 48 := by
      rcases Nat.lt_or_ge s 48 with q9 | q9
      · exact q9
      · exact absurd (nI_le (a := 48) (b := s) q9 (by omega)) c_11
    refine lv_aload_n hx hb dX2_add_14 rfl (lv_at hl 1 rfl) ?_
    refine lv_dup hx hb dX2_add_15 rfl ?_
    refine va_get (D := (dC, dI)) (ci := 2) (v := .int (nI s)) (C := RX2) (T := TX2) (N := 11) hx hb hts (by decide +kernel) hown hK hP 0 rfl rfl 2 (by decide) (hts (.fieldLink RX2 23 "FlakyBounds$History" "size" "I") (by decide +kernel)) (fun _ h9 => h9) rfl dX2_add_16 ?_
    refine lv_iconst (v := 1) hx hb dX2_add_19 (by decide) ?_
    refine lv_iadd hx hb dX2_add_20 ?_
    refine fw_i (x' := nI (s + 1)) (nI_1 s) ?_
    refine va_put (D := (dC, dI)) (ci := 2) (v := .int (nI (s + 1))) (ty := .int) (C := RX2) (T := TX2) (N := 11) hx hb hts (by decide +kernel) tyX2 tyX2_ok nmX2 hown hK hP hD hS 0 rfl rfl 2 (by decide) (hts (.fieldLink RX2 23 "FlakyBounds$History" "size" "I") (by decide +kernel)) (fun _ h9 => h9) rfl (by decide +kernel) rfl rfl (Nat.le_of_ble_eq_true rfl) dX2_add_21 (fun H locs hP hD hS => ?_)
    have hP : va_P (dC, dI) vwCl [(h0, .inr (2, [.ref ea, .ref pa, .int (nI (s + 1)), .int (nI o), .int x4, .int x5, .int x6, v7, v8, v9, v10])), (ea, .inl (cI, 48, .inl (e))), (pa, .inl (cZ, 48, .inl (fun j => zI (b j))))] H := hP
    have hD : va_D A [(h0, .inr (2, [.ref ea, .ref pa, .int (nI (s + 1)), .int (nI o), .int x4, .int x5, .int x6, v7, v8, v9, v10])), (ea, .inl (cI, 48, .inl (e))), (pa, .inl (cZ, 48, .inl (fun j => zI (b j))))] := hD
    refine lv_goto (tgt := 57) hx hb dX2_add_24 (by decide) ?_
    refine lv_iload_n hx hb dX2_add_57 rfl (lv_at hl 0 rfl) ?_
    refine lv_if_lt (tgt := 81) hx hb dX2_add_58 (by decide) (fun c_58 => absurd c_58 (nI_pos (by omega))) (fun _ => ?_)
    refine lv_iload_n hx hb dX2_add_61 rfl (lv_at hl 0 rfl) ?_
    refine lv_bipush (v := 48) hx hb dX2_add_62 (by decide) ?_
    refine lv_icmp_ge (tgt := 81) hx hb dX2_add_64 (by decide) (fun c_64 => absurd c_64 (nI_ge (a := s) (b := 48) (by omega) (by decide))) (fun _ => ?_)
    refine lv_aload_n hx hb dX2_add_67 rfl (lv_at hl 1 rfl) ?_
    refine va_get (D := (dC, dI)) (ci := 2) (v := .ref ea) (C := RX2) (T := TX2) (N := 11) hx hb hts (by decide +kernel) hown hK hP 0 rfl rfl 0 (by decide) (hts (.fieldLink RX2 9 "FlakyBounds$History" "editions" "[I") (by decide +kernel)) (fun _ h9 => h9) rfl dX2_add_68 ?_
    refine lv_iload_n hx hb dX2_add_71 rfl (lv_at hl 0 rfl) ?_
    refine lv_iload_n hx hb dX2_add_72 rfl (lv_at hl 2 rfl) ?_
    refine va_iast hx hb hK hP hD hS 1 0 rfl rfl (vp_in_nI (by omega) (by decide)) dX2_add_73 (fun H locs hP hD hS => ?_)
    have e_st : upd (e) (nI s).toNatClampNeg x = upd e s x := by rw [nI_clamp (by omega)]
    rw [e_st] at hP hD
    have hP : va_P (dC, dI) vwCl [(h0, .inr (2, [.ref ea, .ref pa, .int (nI (s + 1)), .int (nI o), .int x4, .int x5, .int x6, v7, v8, v9, v10])), (ea, .inl (cI, 48, .inl (upd e s x))), (pa, .inl (cZ, 48, .inl (fun j => zI (b j))))] H := hP
    have hD : va_D A [(h0, .inr (2, [.ref ea, .ref pa, .int (nI (s + 1)), .int (nI o), .int x4, .int x5, .int x6, v7, v8, v9, v10])), (ea, .inl (cI, 48, .inl (upd e s x))), (pa, .inl (cZ, 48, .inl (fun j => zI (b j))))] := hD
    refine lv_aload_n hx hb dX2_add_74 rfl (lv_at hl 1 rfl) ?_
    refine va_get (D := (dC, dI)) (ci := 2) (v := .ref pa) (C := RX2) (T := TX2) (N := 11) hx hb hts (by decide +kernel) hown hK hP 0 rfl rfl 1 (by decide) (hts (.fieldLink RX2 15 "FlakyBounds$History" "passes" "[Z") (by decide +kernel)) (fun _ h9 => h9) rfl dX2_add_75 ?_
    refine lv_iload_n hx hb dX2_add_78 rfl (lv_at hl 0 rfl) ?_
    refine lv_iload_n hx hb dX2_add_79 rfl (lv_at hl 3 rfl) ?_
    refine va_zast hx hb hK hP hD hS 2 1 rfl rfl (vp_in_nI (by omega) (by decide)) dX2_add_80 (fun H locs hP hD hS => ?_)
    have e_st : upd (fun j => zI (b j)) (nI s).toNatClampNeg (vp_nar .boolean (zI q)) = fun j => zI (va_up b s q j) := by rw [nI_clamp (by omega)]; exact zI_st b _ q
    rw [e_st] at hP hD
    have hP : va_P (dC, dI) vwCl [(h0, .inr (2, [.ref ea, .ref pa, .int (nI (s + 1)), .int (nI o), .int x4, .int x5, .int x6, v7, v8, v9, v10])), (ea, .inl (cI, 48, .inl (upd e s x))), (pa, .inl (cZ, 48, .inl (fun j => zI (va_up b s q j))))] H := hP
    have hD : va_D A [(h0, .inr (2, [.ref ea, .ref pa, .int (nI (s + 1)), .int (nI o), .int x4, .int x5, .int x6, v7, v8, v9, v10])), (ea, .inl (cI, 48, .inl (upd e s x))), (pa, .inl (cZ, 48, .inl (fun j => zI (va_up b s q j))))] := hD
    refine lv_aload_n hx hb dX2_add_81 rfl (lv_at hl 1 rfl) ?_
    have hPc := hP.sub (ws' := [(h0, .inr (2, [.ref ea, .ref pa, .int (nI (s + 1)), .int (nI o), .int x4, .int x5, .int x6, v7, v8, v9, v10])), (ea, .inl (cI, 48, .inl (upd e s x))), (pa, .inl (cZ, 48, .inl (fun j => zI (va_up b s q j))))]) [0, 1, 2] rfl
    have hKc := hK.sub (tys' := [(cI, .int), (cZ, .boolean)]) [0, 1] rfl
    have hDc := hD.sub (ws' := [(h0, .inr (2, [.ref ea, .ref pa, .int (nI (s + 1)), .int (nI o), .int x4, .int x5, .int x6, v7, v8, v9, v10])), (ea, .inl (cI, 48, .inl (upd e s x))), (pa, .inl (cZ, 48, .inl (fun j => zI (va_up b s q j))))]) [0, 1, 2] (by decide) rfl
    have hFc := va_free (wc := [(h0, .inr (2, [.ref ea, .ref pa, .int (nI (s + 1)), .int (nI o), .int x4, .int x5, .int x6, v7, v8, v9, v10])), (ea, .inl (cI, 48, .inl (upd e s x))), (pa, .inl (cZ, 48, .inl (fun j => zI (va_up b s q j))))]) hD hS hA [0, 1, 2] rfl
    refine va_callv (va_runV (As := []) (rest := []) ⟨hx, hb, hml, hown, hts⟩ (c_his_recount l dC dI h0 ea pa cI cZ (s + 1) (.int (nI o)) x4 x5 x6 v7 v8 v9 v10 (upd e s x) (va_up b s q) H.size (by omega)) (cwV 0 hts gX2_add_X2_recount rfl rfl rfl (by decide +kernel) ⟨Nat.le_of_ble_eq_true rfl, Nat.le_of_ble_eq_true rfl⟩) (fw_preVW hN hKc hPc hDc (ci := 2) (q0 := 0) rfl rfl) rfl rfl hl.1 rfl (lv_room (Nat.le_of_ble_eq_true rfl)) dX2_add_82 ⟨Nat.le_of_ble_eq_true rfl, Nat.le_of_ble_eq_true rfl⟩) hS (fun q _ h => hFc q h) hFc (fun u zt H1 locs zht hvm hw hB hz1 hk1 hS => ?_)
    obtain ⟨⟩ := u
    obtain ⟨hP1, hK1, hD1⟩ := hB
    rw [zht] at hP1
    obtain ⟨hP, hD⟩ := va_join (wr := []) (w1 := [(h0, .inr (2, [.ref ea, .ref pa, .int (nI (s + 1)), .int (nI o), .int (nI (hv_D (upd e s x) (va_up b s q) (s + 1) (s + 1))), .int (nI (hv_N (upd e s x) (va_up b s q) (s + 1) (s + 1))), .int (nI (hv_X (upd e s x) (va_up b s q) (s + 1) (s + 1))), v7, v8, v9, v10])), (ea, .inl (cI, 48, .inl ((upd e s x)))), (pa, .inl (cZ, 48, .inl (fun j => zI ((va_up b s q) j))))]) hP hD [0, 1, 2] [] rfl rfl (by decide) (by decide) hk1 hFc hP1 hD1
    generalize H1 = H at hP hS ⊢
    have hP : va_P (dC, dI) vwCl [(h0, .inr (2, [.ref ea, .ref pa, .int (nI (s + 1)), .int (nI o), .int (nI (hv_D (upd e s x) (va_up b s q) (s + 1) (s + 1))), .int (nI (hv_N (upd e s x) (va_up b s q) (s + 1) (s + 1))), .int (nI (hv_X (upd e s x) (va_up b s q) (s + 1) (s + 1))), v7, v8, v9, v10])), (ea, .inl (cI, 48, .inl ((upd e s x)))), (pa, .inl (cZ, 48, .inl (fun j => zI ((va_up b s q) j))))] H := hP
    have hD : va_D A [(h0, .inr (2, [.ref ea, .ref pa, .int (nI (s + 1)), .int (nI o), .int (nI (hv_D (upd e s x) (va_up b s q) (s + 1) (s + 1))), .int (nI (hv_N (upd e s x) (va_up b s q) (s + 1) (s + 1))), .int (nI (hv_X (upd e s x) (va_up b s q) (s + 1) (s + 1))), v7, v8, v9, v10])), (ea, .inl (cI, 48, .inl ((upd e s x)))), (pa, .inl (cZ, 48, .inl (fun j => zI ((va_up b s q) j))))] := hD
    have z1 : hv_slot s o = s := by unfold hv_slot; rw [if_pos c11]
    have z2 : hv_s s = (s + 1) := by unfold hv_s; rw [if_pos c11]
    have z3 : hv_o s o = o := by unfold hv_o; rw [if_pos c11]
    have hP : va_P (dC, dI) vwCl [(h0, .inr (2, [.ref ea, .ref pa, .int (nI (hv_s s)), .int (nI (hv_o s o)), .int (nI (hv_D (upd e (hv_slot s o) x) (va_up b (hv_slot s o) q) (hv_s s) (hv_s s))), .int (nI (hv_N (upd e (hv_slot s o) x) (va_up b (hv_slot s o) q) (hv_s s) (hv_s s))), .int (nI (hv_X (upd e (hv_slot s o) x) (va_up b (hv_slot s o) q) (hv_s s) (hv_s s))), v7, v8, v9, v10])), (ea, .inl (cI, 48, .inl ((upd e (hv_slot s o) x)))), (pa, .inl (cZ, 48, .inl (fun j => zI ((va_up b (hv_slot s o) q) j))))] H := by rw [z1, z2, z3]; exact hP
    have hD : va_D A [(h0, .inr (2, [.ref ea, .ref pa, .int (nI (hv_s s)), .int (nI (hv_o s o)), .int (nI (hv_D (upd e (hv_slot s o) x) (va_up b (hv_slot s o) q) (hv_s s) (hv_s s))), .int (nI (hv_N (upd e (hv_slot s o) x) (va_up b (hv_slot s o) q) (hv_s s) (hv_s s))), .int (nI (hv_X (upd e (hv_slot s o) x) (va_up b (hv_slot s o) q) (hv_s s) (hv_s s))), v7, v8, v9, v10])), (ea, .inl (cI, 48, .inl ((upd e (hv_slot s o) x)))), (pa, .inl (cZ, 48, .inl (fun j => zI ((va_up b (hv_slot s o) q) j))))] := by rw [z1, z2, z3]; exact hD
    have hP9 := hP.sub (ws' := [(h0, .inr (2, [.ref ea, .ref pa, .int (nI (hv_s s)), .int (nI (hv_o s o)), .int (nI (hv_D (upd e (hv_slot s o) x) (va_up b (hv_slot s o) q) (hv_s s) (hv_s s))), .int (nI (hv_N (upd e (hv_slot s o) x) (va_up b (hv_slot s o) q) (hv_s s) (hv_s s))), .int (nI (hv_X (upd e (hv_slot s o) x) (va_up b (hv_slot s o) q) (hv_s s) (hv_s s))), v7, v8, v9, v10])), (ea, .inl (cI, 48, .inl ((upd e (hv_slot s o) x)))), (pa, .inl (cZ, 48, .inl (fun j => zI ((va_up b (hv_slot s o) q) j))))]) [0, 1, 2] rfl
    have hD9 := hD.sub (ws' := [(h0, .inr (2, [.ref ea, .ref pa, .int (nI (hv_s s)), .int (nI (hv_o s o)), .int (nI (hv_D (upd e (hv_slot s o) x) (va_up b (hv_slot s o) q) (hv_s s) (hv_s s))), .int (nI (hv_N (upd e (hv_slot s o) x) (va_up b (hv_slot s o) q) (hv_s s) (hv_s s))), .int (nI (hv_X (upd e (hv_slot s o) x) (va_up b (hv_slot s o) q) (hv_s s) (hv_s s))), v7, v8, v9, v10])), (ea, .inl (cI, 48, .inl ((upd e (hv_slot s o) x)))), (pa, .inl (cZ, 48, .inl (fun j => zI ((va_up b (hv_slot s o) q) j))))]) [0, 1, 2] (by decide) rfl
    have hK9 := hK.sub (tys' := [(cI, .int), (cZ, .boolean)]) [0, 1] rfl
    exact W.vret hx hb hr (fun zt zht hW => ⟨⟨⟨⟩, rfl, trivial, by rw [zht]; exact hP9, va_K.moved hW.alike hK9, hD9⟩, hS.F zht⟩) hS.2.2 dX2_add_85 hlocks
