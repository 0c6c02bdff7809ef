set_option maxHeartbeats 4000000 in
set_option maxRecDepth 100000 in
theorem c_ref_isEdition (l : Launch) (dC : Nat → ClassId) (dI : Nat → Nat → Nat) (x : Int32)  : Met l yX4_isEdition wsX4_isEdition ({ frames := 0, cells := 0, slots := 0, locals := 0 } : Room) (va_Pc [.int x] (fw_pR (dC, dI) vwCl [] [])) (vp_Si (fun r => r = zI (fv_ed x))) 0 0 (fun _ => False) := by
  refine fw_metR (cc := cX4_isEdition) (maxL := 1) (ret := (some .boolean)) (by decide) rfl (Nat.le_of_ble_eq_true rfl) ?_
  intro zp ze zs zm zbelow zmeth zc ls hx hb hr hts hown hlocks hml hin hN hP hK hl
  have hown : zs.vm.findClass RX4 = some zm.cls := hown
  have hl : lv_has ls 1 [(0, .int x)] := hl
  refine lv_iload_n hx hb dX4_isEdition_0 rfl (lv_at hl 0 rfl) ?_
  refine lv_if_lt (tgt := 15) hx hb dX4_isEdition_1 (by decide) (fun c_1 => ?_) (fun c_1 => ?_)
  · -- then 1
    refine lv_iconst (v := 0) hx hb dX4_isEdition_15 (by decide) ?_
    exact W.zret (v := 0) (ty := .boolean) hx hb hr rfl (fun zt zht _ => ⟨0, rfl, by unfold fv_ed; rw [decide_eq_true c_1]; rfl, zht⟩) (fun q h => by cases h) dX4_isEdition_16 hlocks
  · -- else 1
    refine lv_iload_n hx hb dX4_isEdition_4 rfl (lv_at hl 0 rfl) ?_
    refine lv_sipush (v := 1000) hx hb dX4_isEdition_5 (by decide) ?_
    refine lv_icmp_ge (tgt := 15) hx hb dX4_isEdition_8 (by decide) (fun c_8 => ?_) (fun c_8 => ?_)
    · -- then 8
      refine lv_iconst (v := 0) hx hb dX4_isEdition_15 (by decide) ?_
      exact W.zret (v := 0) (ty := .boolean) hx hb hr rfl (fun zt zht _ => ⟨0, rfl, by unfold fv_ed; rw [decide_eq_false c_1, decide_eq_true c_8]; rfl, zht⟩) (fun q h => by cases h) dX4_isEdition_16 hlocks
    · -- else 8
      refine lv_iconst (v := 1) hx hb dX4_isEdition_11 (by decide) ?_
      refine lv_goto (tgt := 16) hx hb dX4_isEdition_12 (by decide) ?_
      exact W.zret (v := 1) (ty := .boolean) hx hb hr rfl (fun zt zht _ => ⟨1, rfl, by unfold fv_ed; rw [decide_eq_false c_1, decide_eq_false c_8]; rfl, zht⟩) (fun q h => by cases h) dX4_isEdition_16 hlocks
set_option maxHeartbeats 4000000 in
set_option maxRecDepth 100000 in
theorem c_ref_set (l : Launch) (dC : Nat → ClassId) (dI : Nat → Nat → Nat) (a0 : Nat) (cJ : ClassId) (d : Nat → Nat) (v : Nat) (sz : Nat) (hv : v < 10000) : Met l yX4_set wsX4_set ({ frames := 0, cells := 0, slots := 0, locals := 0 } : Room) (va_Pc [.ref a0, .long (lN v)] (fw_pW (dC, dI) vwCl [(cJ, .long)] [(a0, .inl (cJ, 48, .inr (.inl (fun j => lN (d j)))))] sz)) (va_Qv (S := Nat → Nat) (fun d2 => rd_ok d2 ∧ rd_v d2 48 = v) (fun u t => fw_q (dC, dI) vwCl [(cJ, .long)] (va_A [(a0, .inl (cJ, 48, .inr (.inl (fun j => lN (d j)))))] sz) [(a0, .inl (cJ, 48, .inr (.inl (fun j => lN (u j)))))] t) (va_A [(a0, .inl (cJ, 48, .inr (.inl (fun j => lN (d j)))))] sz)) 0 0 (va_A [(a0, .inl (cJ, 48, .inr (.inl (fun j => lN (d j)))))] sz) := by
  refine fw_metW (cc := cX4_set) (maxL := 4) (ret := none) (by decide) rfl (Nat.le_of_ble_eq_true rfl) ?_
  intro zp ze zs zm zbelow zmeth zc ls hx hb hr hts hown hlocks hml hin hN hsz hP hK hD hA hS hl
  generalize hAe : (va_A [(a0, .inl (cJ, 48, .inr (.inl (fun j => lN (d j)))))] sz) = A at hD hA hS ⊢
  have hown : zs.vm.findClass RX4 = some zm.cls := hown
  have hl : lv_has ls 4 [(0, .ref a0), (1, .long (lN v))] := hl
  refine lv_iconst (v := 0) hx hb dX4_set_0 (by decide) ?_
  refine lv_istore_n (lv' := [(3, .int 0), (0, .ref a0), (1, .long (lN v))]) hx hb dX4_set_1 rfl hl (by decide) rfl (fun ls hl => ?_)
  refine fw_loop (σ := Nat × (Nat → Nat)) (I := fun zn u H locs ls => match u with | (i, d2) => zn = 48 - i ∧ (i ≤ 48) ∧ (∀ j, j < i → d2 j = 0) ∧ va_P (dC, dI) vwCl [(a0, .inl (cJ, 48, .inr (.inl (fun j => lN (d2 j)))))] H ∧ va_D A [(a0, .inl (cJ, 48, .inr (.inl (fun j => lN (d2 j)))))] ∧ va_S A zs.heap H locs ∧ lv_has ls 4 [(0, .ref a0), (1, .long (lN v)), (3, .int (nI i))]) ?_ _ (0, d) _ _ _ ⟨rfl, by omega, fun j hj => by omega,  hP.sub [0] rfl, hD.sub [0] (by decide) rfl, hS, lv_sub hl [1, 2, 0] rfl⟩
  intro zn u H locs ls hI ih_2
  obtain ⟨i, d2⟩ := u
  obtain ⟨hzn, hi, hz, hP, hD, hS, hl⟩ := hI
  refine lv_iload_n hx hb dX4_set_2 rfl (lv_at hl 2 rfl) ?_
  refine lv_bipush (v := 48) hx hb dX4_set_3 (by decide) ?_
  refine lv_icmp_ge (tgt := 18) hx hb dX4_set_5 (by decide) (fun c_5 => ?_) (fun c_5 => ?_)
  · -- then 5
    have hend : i = 48 := by have := (nI_leI (a := 48) (b := i) (by omega) (by omega)).mp c_5; omega
    subst hend
    refine lv_aload_n hx hb dX4_set_18 rfl (lv_at hl 0 rfl) ?_
    refine lv_iconst (v := 0) hx hb dX4_set_19 (by decide) ?_
    refine lv_lload_n hx hb dX4_set_20 rfl (lv_at hl 1 rfl) ?_
    refine va_last hx hb hK hP hD hS 0 0 rfl rfl (vp_in_nI (n := 0) (by decide) (by decide)) dX4_set_21 (fun H locs hP hD hS => ?_)
    have e_st : vp_updL (fun j => lN (d2 j)) (0 : Int32).toNatClampNeg (lN v) = fun j => lN (va_up d2 0 v j) := by rw [show (0 : Int32).toNatClampNeg = 0 by decide]; exact lN_st d2 0 v
    rw [e_st] at hP hD
    have hP : va_P (dC, dI) vwCl [(a0, .inl (cJ, 48, .inr (.inl (fun j => lN (va_up d2 0 v j)))))] H := hP
    have hD : va_D A [(a0, .inl (cJ, 48, .inr (.inl (fun j => lN (va_up d2 0 v j)))))] := hD
    have hP9 := hP.sub (ws' := [(a0, .inl (cJ, 48, .inr (.inl (fun j => lN ((va_up d2 0 v) j)))))]) [0] rfl
    have hD9 := hD.sub (ws' := [(a0, .inl (cJ, 48, .inr (.inl (fun j => lN ((va_up d2 0 v) j)))))]) [0] (by decide) rfl
    have hK9 := hK.sub (tys' := [(cJ, .long)]) [0] rfl
    exact W.vret hx hb hr (fun zt zht hW => ⟨⟨va_up d2 0 v, rfl, rd_set hz hv, by rw [zht]; exact hP9, va_K.moved hW.alike hK9, hD9⟩, hS.F zht⟩) hS.2.2 dX4_set_22 hlocks
  · -- else 5
    have hlt : i < 48 := by
      rcases Nat.lt_or_ge i 48 with q9 | q9
      · exact q9
      · exact absurd (nI_le (a := 48) (b := i) q9 (by omega)) c_5
    refine lv_aload_n hx hb dX4_set_8 rfl (lv_at hl 0 rfl) ?_
    refine lv_iload_n hx hb dX4_set_9 rfl (lv_at hl 2 rfl) ?_
    refine lv_lconst (v := 0) hx hb dX4_set_10 (by decide) ?_
    refine va_last hx hb hK hP hD hS 0 0 rfl rfl (vp_in_nI (by omega) (by decide)) dX4_set_11 (fun H locs hP hD hS => ?_)
    have e_st : vp_updL (fun j => lN (d2 j)) (nI i).toNatClampNeg 0 = fun j => lN (va_up d2 i 0 j) := by rw [nI_clamp (by omega)]; exact lN_st d2 i 0
    rw [e_st] at hP hD
    have hP : va_P (dC, dI) vwCl [(a0, .inl (cJ, 48, .inr (.inl (fun j => lN (va_up d2 i 0 j)))))] H := hP
    have hD : va_D A [(a0, .inl (cJ, 48, .inr (.inl (fun j => lN (va_up d2 i 0 j)))))] := hD
    refine lv_iinc (v := nI (i + 1)) (lv' := [(3, .int (nI (i + 1))), (0, .ref a0), (1, .long (lN v))]) hx hb dX4_set_12 hl (k := 2) rfl (nI_1 i) (by decide) rfl (fun ls hl => ?_)
    refine lv_goto (tgt := 2) hx hb dX4_set_15 (by decide) ?_
    have hz2 : ∀ j, j < i + 1 → va_up d2 i 0 j = 0 := by
      intro j hj
      by_cases h : j = i
      · rw [h, va_up_self]
      · rw [va_up_ne _ _ h]; exact hz j (by omega)
    exact ih_2 _ (i + 1, va_up d2 i 0) _ _ _ (by omega) ⟨rfl, by omega, hz2, hP.sub [0] rfl, hD.sub [0] (by decide) rfl, hS, lv_sub hl [1, 2, 0] rfl⟩
set_option maxHeartbeats 4000000 in
set_option maxRecDepth 100000 in
theorem c_ref_times (l : Launch) (dC : Nat → ClassId) (dI : Nat → Nat → Nat) (a0 : Nat) (cJ : ClassId) (d : Nat → Nat) (f : Nat) (sz : Nat) (hd : rd_ok d) (hf : f ≤ 300000000000000) (hm : f * rd_v d 48 < 10000 ^ 48) : Met l yX4_times wsX4_times ({ frames := 0, cells := 0, slots := 0, locals := 0 } : Room) (va_Pc [.ref a0, .long (lN f)] (fw_pW (dC, dI) vwCl [(cJ, .long)] [(a0, .inl (cJ, 48, .inr (.inl (fun j => lN (d j)))))] sz)) (va_Qv (S := Nat → Nat) (fun d2 => rd_ok d2 ∧ rd_v d2 48 = f * rd_v d 48) (fun u t => fw_q (dC, dI) vwCl [(cJ, .long)] (va_A [(a0, .inl (cJ, 48, .inr (.inl (fun j => lN (d j)))))] sz) [(a0, .inl (cJ, 48, .inr (.inl (fun j => lN (u j)))))] t) (va_A [(a0, .inl (cJ, 48, .inr (.inl (fun j => lN (d j)))))] sz)) 0 0 (va_A [(a0, .inl (cJ, 48, .inr (.inl (fun j => lN (d j)))))] sz) := by
  refine fw_metW (cc := cX4_times) (maxL := 8) (ret := none) (by decide) rfl (Nat.le_of_ble_eq_true rfl) ?_
  intro zp ze zs zm zbelow zmeth zc ls hx hb hr hts hown hlocks hml hin hN hsz hP hK hD hA hS hl
  generalize hAe : (va_A [(a0, .inl (cJ, 48, .inr (.inl (fun j => lN (d j)))))] sz) = A at hD hA hS ⊢
  have hown : zs.vm.findClass RX4 = some zm.cls := hown
  have hl : lv_has ls 8 [(0, .ref a0), (1, .long (lN f))] := hl
  refine lv_lconst (v := 0) hx hb dX4_times_0 (by decide) ?_
  refine lv_lstore_n (lv' := [(3, .long 0), (0, .ref a0), (1, .long (lN f))]) hx hb dX4_times_1 rfl hl (by decide) rfl (fun ls hl => ?_)
  refine lv_iconst (v := 0) hx hb dX4_times_2 (by decide) ?_
  refine lv_istore (lv' := [(5, .int 0), (3, .long 0), (0, .ref a0), (1, .long (lN f))]) hx hb dX4_times_3 hl (by decide) rfl (fun ls hl => ?_)
  refine fw_loop (σ := Nat × Nat × (Nat → Nat)) (I := fun zn u H locs ls => match u with | (i, k, d2) => zn = 48 - i ∧ (i ≤ 48) ∧ (∀ j, i ≤ j → d2 j = d j) ∧ (∀ j, j < i → d2 j < 10000) ∧ (rd_v d2 i + k * 10000 ^ i = f * rd_v d i) ∧ (k ≤ f) ∧ va_P (dC, dI) vwCl [(a0, .inl (cJ, 48, .inr (.inl (fun j => lN (d2 j)))))] H ∧ va_D A [(a0, .inl (cJ, 48, .inr (.inl (fun j => lN (d2 j)))))] ∧ va_S A zs.heap H locs ∧ lv_has ls 8 [(0, .ref a0), (1, .long (lN f)), (3, .long (lN k)), (5, .int (nI i))]) ?_ _ (0, 0, d) _ _ _ ⟨rfl, by omega, fun _ _ => rfl, fun j hj => by omega, by simp [rd_v0], by omega,  hP.sub [0] rfl, hD.sub [0] (by decide) rfl, hS, lv_sub hl [2, 3, 1, 0] rfl⟩
  intro zn u H locs ls hI ih_5
  obtain ⟨i, k, d2⟩ := u
  obtain ⟨hzn, hi, hk, hlo, hv, hc, hP, hD, hS, hl⟩ := hI
  refine lv_iload hx hb dX4_times_5 (lv_at hl 3 rfl) ?_
  refine lv_bipush (v := 48) hx hb dX4_times_7 (by decide) ?_
  refine lv_icmp_ge (tgt := 45) hx hb dX4_times_9 (by decide) (fun c_9 => ?_) (fun c_9 => ?_)
  · -- then 9
    have hend : i = 48 := by have := (nI_leI (a := 48) (b := i) (by omega) (by omega)).mp c_9; omega
    subst hend
    have hP9 := hP.sub (ws' := [(a0, .inl (cJ, 48, .inr (.inl (fun j => lN (d2 j)))))]) [0] rfl
    have hD9 := hD.sub (ws' := [(a0, .inl (cJ, 48, .inr (.inl (fun j => lN (d2 j)))))]) [0] (by decide) rfl
    have hK9 := hK.sub (tys' := [(cJ, .long)]) [0] rfl
    exact W.vret hx hb hr (fun zt zht hW => ⟨⟨d2, rfl, ⟨fun j hj => hlo j hj, rd_top hv hm⟩, by rw [zht]; exact hP9, va_K.moved hW.alike hK9, hD9⟩, hS.F zht⟩) hS.2.2 dX4_times_45 hlocks
  · -- else 9
    have hlt : i < 48 := by
      rcases Nat.lt_or_ge i 48 with q9 | q9
      · exact q9
      · exact absurd (nI_le (a := 48) (b := i) q9 (by omega)) c_9
    have hbd : d i * f + k < 2 ^ 63 := rd_mulB hlt hd hf hc
    refine lv_aload_n hx hb dX4_times_12 rfl (lv_at hl 0 rfl) ?_
    refine lv_iload hx hb dX4_times_13 (lv_at hl 3 rfl) ?_
    refine va_lald hx hb hK hP 0 0 rfl rfl (vp_in_nI (by omega) (by decide)) dX4_times_15 ?_
    refine fw_l (x' := lN (d i)) (by rw [nI_clamp (by omega)]; show lN (d2 i) = _; rw [hk i (Nat.le_refl i)]) ?_
    refine lv_lload_n hx hb dX4_times_16 rfl (lv_at hl 1 rfl) ?_
    refine lv_lmul hx hb dX4_times_17 ?_
    refine fw_l (x' := lN (d i * f)) (lN_mul _ _) ?_
    refine lv_lload_n hx hb dX4_times_18 rfl (lv_at hl 2 rfl) ?_
    refine lv_ladd hx hb dX4_times_19 ?_
    refine fw_l (x' := lN (d i * f + k)) (lN_add _ _) ?_
    refine lv_lstore (lv' := [(6, .long (lN (d i * f + k))), (0, .ref a0), (1, .long (lN f)), (3, .long (lN k)), (5, .int (nI i))]) hx hb dX4_times_20 hl (by decide) rfl (fun ls hl => ?_)
    refine lv_aload_n hx hb dX4_times_22 rfl (lv_at hl 1 rfl) ?_
    refine lv_iload hx hb dX4_times_23 (lv_at hl 4 rfl) ?_
    refine lv_lload hx hb dX4_times_25 (lv_at hl 0 rfl) ?_
    refine lv_ldc2 (v := 10000) hx hb hown (hts (.constantLong RX4 55 10000) (by decide +kernel)) dX4_times_27 ?_
    refine lv_lrem hx hb dX4_times_30 (by decide) ?_
    refine fw_l (x' := lN ((d i * f + k) % 10000)) (pk_lRem (b := 10000) hbd (by decide) (by decide)) ?_
    refine va_last hx hb hK hP hD hS 0 0 rfl rfl (vp_in_nI (by omega) (by decide)) dX4_times_31 (fun H locs hP hD hS => ?_)
    have e_st : vp_updL (fun j => lN (d2 j)) (nI i).toNatClampNeg (lN ((d i * f + k) % 10000)) = fun j => lN (va_up d2 i ((d i * f + k) % 10000) j) := by rw [nI_clamp (by omega)]; exact lN_st _ _ _
    rw [e_st] at hP hD
    have hP : va_P (dC, dI) vwCl [(a0, .inl (cJ, 48, .inr (.inl (fun j => lN (va_up d2 i ((d i * f + k) % 10000) j)))))] H := hP
    have hD : va_D A [(a0, .inl (cJ, 48, .inr (.inl (fun j => lN (va_up d2 i ((d i * f + k) % 10000) j)))))] := hD
    refine lv_lload hx hb dX4_times_32 (lv_at hl 0 rfl) ?_
    refine lv_ldc2 (v := 10000) hx hb hown (hts (.constantLong RX4 55 10000) (by decide +kernel)) dX4_times_34 ?_
    refine lv_ldiv hx hb dX4_times_37 (by decide) ?_
    refine fw_l (x' := lN ((d i * f + k) / 10000)) (pk_lDiv (b := 10000) hbd (by decide) (by decide)) ?_
    refine lv_lstore_n (lv' := [(3, .long (lN ((d i * f + k) / 10000))), (6, .long (lN (d i * f + k))), (0, .ref a0), (1, .long (lN f)), (5, .int (nI i))]) hx hb dX4_times_38 rfl hl (by decide) rfl (fun ls hl => ?_)
    refine lv_iinc (v := nI (i + 1)) (lv' := [(5, .int (nI (i + 1))), (3, .long (lN ((d i * f + k) / 10000))), (6, .long (lN (d i * f + k))), (0, .ref a0), (1, .long (lN f))]) hx hb dX4_times_39 hl (k := 4) rfl (nI_1 i) (by decide) rfl (fun ls hl => ?_)
    refine lv_goto (tgt := 5) hx hb dX4_times_42 (by decide) ?_
    have hI2 := rd_mulI hlt hd hk hlo hv hc
    exact ih_5 _ (i + 1, (d i * f + k) / 10000, va_up d2 i ((d i * f + k) % 10000)) _ _ _ (by omega) ⟨rfl, by omega, hI2.1, hI2.2.1, hI2.2.2.1, hI2.2.2.2, hP.sub [0] rfl, hD.sub [0] (by decide) rfl, hS, lv_sub hl [3, 4, 1, 0] rfl⟩
set_option maxHeartbeats 4000000 in
set_option maxRecDepth 100000 in
theorem c_ref_plus (l : Launch) (dC : Nat → ClassId) (dI : Nat → Nat → Nat) (a0 a1 : Nat) (cJ : ClassId) (d e : Nat → Nat) (sz : Nat) (hd : rd_ok d) (he : rd_ok e) (hm : rd_v d 48 + rd_v e 48 < 10000 ^ 48) : Met l yX4_plus wsX4_plus ({ frames := 0, cells := 0, slots := 0, locals := 0 } : Room) (va_Pc [.ref a0, .ref a1] (fw_pW (dC, dI) vwCl [(cJ, .long)] [(a0, .inl (cJ, 48, .inr (.inl (fun j => lN (d j))))), (a1, .inl (cJ, 48, .inr (.inl (fun j => lN (e j)))))] sz)) (va_Qv (S := Nat → Nat) (fun d2 => rd_ok d2 ∧ rd_v d2 48 = rd_v d 48 + rd_v e 48) (fun u t => fw_q (dC, dI) vwCl [(cJ, .long)] (va_A [(a0, .inl (cJ, 48, .inr (.inl (fun j => lN (d j))))), (a1, .inl (cJ, 48, .inr (.inl (fun j => lN (e j)))))] sz) [(a0, .inl (cJ, 48, .inr (.inl (fun j => lN (u j))))), (a1, .inl (cJ, 48, .inr (.inl (fun j => lN (e j)))))] t) (va_A [(a0, .inl (cJ, 48, .inr (.inl (fun j => lN (d j))))), (a1, .inl (cJ, 48, .inr (.inl (fun j => lN (e j)))))] sz)) 0 0 (va_A [(a0, .inl (cJ, 48, .inr (.inl (fun j => lN (d j))))), (a1, .inl (cJ, 48, .inr (.inl (fun j => lN (e j)))))] sz) := by
  refine fw_metW (cc := cX4_plus) (maxL := 7) (ret := none) (by decide) rfl (Nat.le_of_ble_eq_true rfl) ?_
  intro zp ze zs zm zbelow zmeth zc ls hx hb hr hts hown hlocks hml hin hN hsz hP hK hD hA hS hl
  generalize hAe : (va_A [(a0, .inl (cJ, 48, .inr (.inl (fun j => lN (d j))))), (a1, .inl (cJ, 48, .inr (.inl (fun j => lN (e j)))))] sz) = A at hD hA hS ⊢
  have hown : zs.vm.findClass RX4 = some zm.cls := hown
  have hl : lv_has ls 7 [(0, .ref a0), (1, .ref a1)] := hl
  refine lv_lconst (v := 0) hx hb dX4_plus_0 (by decide) ?_
  refine lv_lstore_n (lv' := [(2, .long 0), (0, .ref a0), (1, .ref a1)]) hx hb dX4_plus_1 rfl hl (by decide) rfl (fun ls hl => ?_)
  refine lv_iconst (v := 0) hx hb dX4_plus_2 (by decide) ?_
  refine lv_istore (lv' := [(4, .int 0), (2, .long 0), (0, .ref a0), (1, .ref a1)]) hx hb dX4_plus_3 hl (by decide) rfl (fun ls hl => ?_)
  refine fw_loop (σ := Nat × Nat × (Nat → Nat)) (I := fun zn u H locs ls => match u with | (i, k, d2) => zn = 48 - i ∧ (i ≤ 48) ∧ (∀ j, i ≤ j → d2 j = d j) ∧ (∀ j, j < i → d2 j < 10000) ∧ (rd_v d2 i + k * 10000 ^ i = rd_v d i + rd_v e i) ∧ (k ≤ 1) ∧ va_P (dC, dI) vwCl [(a0, .inl (cJ, 48, .inr (.inl (fun j => lN (d2 j))))), (a1, .inl (cJ, 48, .inr (.inl (fun j => lN (e j)))))] H ∧ va_D A [(a0, .inl (cJ, 48, .inr (.inl (fun j => lN (d2 j))))), (a1, .inl (cJ, 48, .inr (.inl (fun j => lN (e j)))))] ∧ va_S A zs.heap H locs ∧ lv_has ls 7 [(0, .ref a0), (1, .ref a1), (2, .long (lN k)), (4, .int (nI i))]) ?_ _ (0, 0, d) _ _ _ ⟨rfl, by omega, fun _ _ => rfl, fun j hj => by omega, by simp [rd_v0], by omega,  hP.sub [0, 1] rfl, hD.sub [0, 1] (by decide) rfl, hS, lv_sub hl [2, 3, 1, 0] rfl⟩
  intro zn u H locs ls hI ih_5
  obtain ⟨i, k, d2⟩ := u
  obtain ⟨hzn, hi, hk, hlo, hv, hc, hP, hD, hS, hl⟩ := hI
  refine lv_iload hx hb dX4_plus_5 (lv_at hl 3 rfl) ?_
  refine lv_bipush (v := 48) hx hb dX4_plus_7 (by decide) ?_
  refine lv_icmp_ge (tgt := 48) hx hb dX4_plus_9 (by decide) (fun c_9 => ?_) (fun c_9 => ?_)
  · -- then 9
    have hend : i = 48 := by have := (nI_leI (a := 48) (b := i) (by omega) (by omega)).mp c_9; omega
    subst hend
    have hP9 := hP.sub (ws' := [(a0, .inl (cJ, 48, .inr (.inl (fun j => lN (d2 j))))), (a1, .inl (cJ, 48, .inr (.inl (fun j => lN (e j)))))]) [0, 1] rfl
    have hD9 := hD.sub (ws' := [(a0, .inl (cJ, 48, .inr (.inl (fun j => lN (d2 j))))), (a1, .inl (cJ, 48, .inr (.inl (fun j => lN (e j)))))]) [0, 1] (by decide) rfl
    have hK9 := hK.sub (tys' := [(cJ, .long)]) [0] rfl
    exact W.vret hx hb hr (fun zt zht hW => ⟨⟨d2, rfl, ⟨fun j hj => hlo j hj, rd_top hv hm⟩, by rw [zht]; exact hP9, va_K.moved hW.alike hK9, hD9⟩, hS.F zht⟩) hS.2.2 dX4_plus_48 hlocks
  · -- else 9
    have hlt : i < 48 := by
      rcases Nat.lt_or_ge i 48 with q9 | q9
      · exact q9
      · exact absurd (nI_le (a := 48) (b := i) q9 (by omega)) c_9
    have hbd : d i + e i + k < 2 ^ 63 := by
      have h1 := hd i hlt
      have h2 := he i hlt
      omega
    refine lv_aload_n hx hb dX4_plus_12 rfl (lv_at hl 0 rfl) ?_
    refine lv_iload hx hb dX4_plus_13 (lv_at hl 3 rfl) ?_
    refine va_lald hx hb hK hP 0 0 rfl rfl (vp_in_nI (by omega) (by decide)) dX4_plus_15 ?_
    refine fw_l (x' := lN (d i)) (by rw [nI_clamp (by omega)]; show lN (d2 i) = _; rw [hk i (Nat.le_refl i)]) ?_
    refine lv_aload_n hx hb dX4_plus_16 rfl (lv_at hl 1 rfl) ?_
    refine lv_iload hx hb dX4_plus_17 (lv_at hl 3 rfl) ?_
    refine va_lald hx hb hK hP 1 0 rfl rfl (vp_in_nI (by omega) (by decide)) dX4_plus_19 ?_
    refine fw_l (x' := lN (e i)) (by rw [nI_clamp (by omega)]) ?_
    refine lv_ladd hx hb dX4_plus_20 ?_
    refine fw_l (x' := lN (d i + e i)) (lN_add _ _) ?_
    refine lv_lload_n hx hb dX4_plus_21 rfl (lv_at hl 2 rfl) ?_
    refine lv_ladd hx hb dX4_plus_22 ?_
    refine fw_l (x' := lN (d i + e i + k)) (lN_add _ _) ?_
    refine lv_lstore (lv' := [(5, .long (lN (d i + e i + k))), (0, .ref a0), (1, .ref a1), (2, .long (lN k)), (4, .int (nI i))]) hx hb dX4_plus_23 hl (by decide) rfl (fun ls hl => ?_)
    refine lv_aload_n hx hb dX4_plus_25 rfl (lv_at hl 1 rfl) ?_
    refine lv_iload hx hb dX4_plus_26 (lv_at hl 4 rfl) ?_
    refine lv_lload hx hb dX4_plus_28 (lv_at hl 0 rfl) ?_
    refine lv_ldc2 (v := 10000) hx hb hown (hts (.constantLong RX4 55 10000) (by decide +kernel)) dX4_plus_30 ?_
    refine lv_lrem hx hb dX4_plus_33 (by decide) ?_
    refine fw_l (x' := lN ((d i + e i + k) % 10000)) (pk_lRem (b := 10000) hbd (by decide) (by decide)) ?_
    refine va_last hx hb hK hP hD hS 0 0 rfl rfl (vp_in_nI (by omega) (by decide)) dX4_plus_34 (fun H locs hP hD hS => ?_)
    have e_st : vp_updL (fun j => lN (d2 j)) (nI i).toNatClampNeg (lN ((d i + e i + k) % 10000)) = fun j => lN (va_up d2 i ((d i + e i + k) % 10000) j) := by rw [nI_clamp (by omega)]; exact lN_st _ _ _
    rw [e_st] at hP hD
    have hP : va_P (dC, dI) vwCl [(a0, .inl (cJ, 48, .inr (.inl (fun j => lN (va_up d2 i ((d i + e i + k) % 10000) j))))), (a1, .inl (cJ, 48, .inr (.inl (fun j => lN (e j)))))] H := hP
    have hD : va_D A [(a0, .inl (cJ, 48, .inr (.inl (fun j => lN (va_up d2 i ((d i + e i + k) % 10000) j))))), (a1, .inl (cJ, 48, .inr (.inl (fun j => lN (e j)))))] := hD
    refine lv_lload hx hb dX4_plus_35 (lv_at hl 0 rfl) ?_
    refine lv_ldc2 (v := 10000) hx hb hown (hts (.constantLong RX4 55 10000) (by decide +kernel)) dX4_plus_37 ?_
    refine lv_ldiv hx hb dX4_plus_40 (by decide) ?_
    refine fw_l (x' := lN ((d i + e i + k) / 10000)) (pk_lDiv (b := 10000) hbd (by decide) (by decide)) ?_
    refine lv_lstore_n (lv' := [(2, .long (lN ((d i + e i + k) / 10000))), (5, .long (lN (d i + e i + k))), (0, .ref a0), (1, .ref a1), (4, .int (nI i))]) hx hb dX4_plus_41 rfl hl (by decide) rfl (fun ls hl => ?_)
    refine lv_iinc (v := nI (i + 1)) (lv' := [(4, .int (nI (i + 1))), (2, .long (lN ((d i + e i + k) / 10000))), (5, .long (lN (d i + e i + k))), (0, .ref a0), (1, .ref a1)]) hx hb dX4_plus_42 hl (k := 4) rfl (nI_1 i) (by decide) rfl (fun ls hl => ?_)
    refine lv_goto (tgt := 5) hx hb dX4_plus_45 (by decide) ?_
    have hI2 := rd_addI hlt hd he hk hlo hv hc
    exact ih_5 _ (i + 1, (d i + e i + k) / 10000, va_up d2 i ((d i + e i + k) % 10000)) _ _ _ (by omega) ⟨rfl, by omega, hI2.1, hI2.2.1, hI2.2.2.1, hI2.2.2.2, hP.sub [0, 1] rfl, hD.sub [0, 1] (by decide) rfl, hS, lv_sub hl [3, 4, 1, 0] rfl⟩
set_option maxHeartbeats 4000000 in
set_option maxRecDepth 100000 in
theorem c_ref_above (l : Launch) (dC : Nat → ClassId) (dI : Nat → Nat → Nat) (a0 a1 : Nat) (cJ : ClassId) (da db : Nat → Nat) (hd : rd_ok da) (he : rd_ok db) : Met l yX4_isAbove wsX4_isAbove ({ frames := 0, cells := 0, slots := 0, locals := 0 } : Room) (va_Pc [.ref a0, .ref a1] (fw_pR (dC, dI) vwCl [(cJ, .long)] [(a0, .inl (cJ, 48, .inr (.inl (fun j => lN (da j))))), (a1, .inl (cJ, 48, .inr (.inl (fun j => lN (db j)))))])) (vp_Si (fun r => r = zI (decide (rd_v db 48 < rd_v da 48)))) 0 0 (fun _ => False) := by
  refine fw_metR (cc := cX4_isAbove) (maxL := 3) (ret := (some .boolean)) (by decide) rfl (Nat.le_of_ble_eq_true rfl) ?_
  intro zp ze zs zm zbelow zmeth zc ls hx hb hr hts hown hlocks hml hin hN hP hK hl
  have hown : zs.vm.findClass RX4 = some zm.cls := hown
  have hl : lv_has ls 3 [(0, .ref a0), (1, .ref a1)] := hl
  refine lv_bipush (v := 47) hx hb dX4_isAbove_0 (by decide) ?_
  refine lv_istore_n (lv' := [(2, .int 47), (0, .ref a0), (1, .ref a1)]) hx hb dX4_isAbove_2 rfl hl (by decide) rfl (fun ls hl => ?_)
  refine fw_loopR (σ := Nat) (I := fun zn u ls => match u with | k => zn = k ∧ (k ≤ 47) ∧ (∀ j, k < j → j < 48 → da j = db j) ∧ lv_has ls 3 [(0, .ref a0), (1, .ref a1), (2, .int (nI k))]) ?_ _ 47 _ ⟨rfl, by omega, fun j h1 h2 => by omega, lv_sub hl [1, 2, 0] rfl⟩
  intro zn k ls hI ih_3
  obtain ⟨hzn, hk, heq, hl⟩ := hI
  refine lv_iload_n hx hb dX4_isAbove_3 rfl (lv_at hl 2 rfl) ?_
  refine lv_if_le (tgt := 23) hx hb dX4_isAbove_4 (by decide) (fun c_4 => ?_) (fun c_4 => ?_)
  · -- then 4
    have hda := hd k (by omega)
    have hdb := he k (by omega)
    have hne : da k ≠ db k ∨ k = 0 := by
      rcases Nat.eq_zero_or_pos k with q9 | q9
      · exact Or.inr q9
      · exact absurd c_4 (nI_nle q9 (by omega))
    refine lv_aload_n hx hb dX4_isAbove_23 rfl (lv_at hl 0 rfl) ?_
    refine lv_iload_n hx hb dX4_isAbove_24 rfl (lv_at hl 2 rfl) ?_
    refine va_lald hx hb hK hP 0 0 rfl rfl (vp_in_nI (by omega) (by decide)) dX4_isAbove_25 ?_
    refine fw_l (x' := lN (da k)) (by rw [nI_clamp (by omega)]) ?_
    refine lv_aload_n hx hb dX4_isAbove_26 rfl (lv_at hl 1 rfl) ?_
    refine lv_iload_n hx hb dX4_isAbove_27 rfl (lv_at hl 2 rfl) ?_
    refine va_lald hx hb hK hP 1 0 rfl rfl (vp_in_nI (by omega) (by decide)) dX4_isAbove_28 ?_
    refine fw_l (x' := lN (db k)) (by rw [nI_clamp (by omega)]) ?_
    refine W.lcmp hx hb dX4_isAbove_29 ?_
    refine lv_if_le (tgt := 37) hx hb dX4_isAbove_30 (by decide) (fun c_30 => ?_) (fun c_30 => ?_)
    · -- then 30
      have hfin : decide (rd_v db 48 < rd_v da 48) = false := decide_eq_false (fun q9 => by
        have h1 := (rd_cmp k (fun j hj => hd j (by omega)) (fun j hj => he j (by omega)) (47 - k) (fun j h1 h2 => heq j h1 (by omega)) hne).mp (by rw [show k + 1 + (47 - k) = 48 by omega]; exact q9)
        have h2 := (pk_lLE (by omega) (by omega)).mp ((lg_cmp_le _ _).mp c_30)
        omega)
      refine lv_iconst (v := 0) hx hb dX4_isAbove_37 (by decide) ?_
      exact W.zret (v := 0) (ty := .boolean) hx hb hr rfl (fun zt zht _ => ⟨0, rfl, by rw [hfin]; rfl, zht⟩) (fun q h => by cases h) dX4_isAbove_38 hlocks
    · -- else 30
      have hfin : decide (rd_v db 48 < rd_v da 48) = true := decide_eq_true (by
        have h0 : db k < da k := by
          rcases Nat.lt_or_ge (db k) (da k) with q9 | q9
          · exact q9
          · exact absurd ((lg_cmp_le _ _).mpr ((pk_lLE (by omega) (by omega)).mpr q9)) c_30
        have h1 := (rd_cmp k (fun j hj => hd j (by omega)) (fun j hj => he j (by omega)) (47 - k) (fun j h1 h2 => heq j h1 (by omega)) hne).mpr h0
        rw [show k + 1 + (47 - k) = 48 by omega] at h1
        exact h1)
      refine lv_iconst (v := 1) hx hb dX4_isAbove_33 (by decide) ?_
      refine lv_goto (tgt := 38) hx hb dX4_isAbove_34 (by decide) ?_
      exact W.zret (v := 1) (ty := .boolean) hx hb hr rfl (fun zt zht _ => ⟨1, rfl, by rw [hfin]; rfl, zht⟩) (fun q h => by cases h) dX4_isAbove_38 hlocks
  · -- else 4
    have hda := hd k (by omega)
    have hdb := he k (by omega)
    have hk0 : 0 < k := by
      rcases Nat.eq_zero_or_pos k with q9 | q9
      · subst q9
        exact absurd (by decide) c_4
      · exact q9
    refine lv_aload_n hx hb dX4_isAbove_7 rfl (lv_at hl 0 rfl) ?_
    refine lv_iload_n hx hb dX4_isAbove_8 rfl (lv_at hl 2 rfl) ?_
    refine va_lald hx hb hK hP 0 0 rfl rfl (vp_in_nI (by omega) (by decide)) dX4_isAbove_9 ?_
    refine fw_l (x' := lN (da k)) (by rw [nI_clamp (by omega)]) ?_
    refine lv_aload_n hx hb dX4_isAbove_10 rfl (lv_at hl 1 rfl) ?_
    refine lv_iload_n hx hb dX4_isAbove_11 rfl (lv_at hl 2 rfl) ?_
    refine va_lald hx hb hK hP 1 0 rfl rfl (vp_in_nI (by omega) (by decide)) dX4_isAbove_12 ?_
    refine fw_l (x' := lN (db k)) (by rw [nI_clamp (by omega)]) ?_
    refine W.lcmp hx hb dX4_isAbove_13 ?_
    refine lv_if_ne (tgt := 23) hx hb dX4_isAbove_14 (by decide) (fun c_14 => ?_) (fun c_14 => ?_)
    · -- then 14
      have hne : da k ≠ db k ∨ k = 0 := Or.inl (fun q9 => c_14 ((lg_cmp_eq _ _).mpr (by rw [q9])))
      refine lv_aload_n hx hb dX4_isAbove_23 rfl (lv_at hl 0 rfl) ?_
      refine lv_iload_n hx hb dX4_isAbove_24 rfl (lv_at hl 2 rfl) ?_
      refine va_lald hx hb hK hP 0 0 rfl rfl (vp_in_nI (by omega) (by decide)) dX4_isAbove_25 ?_
      refine fw_l (x' := lN (da k)) (by rw [nI_clamp (by omega)]) ?_
      refine lv_aload_n hx hb dX4_isAbove_26 rfl (lv_at hl 1 rfl) ?_
      refine lv_iload_n hx hb dX4_isAbove_27 rfl (lv_at hl 2 rfl) ?_
      refine va_lald hx hb hK hP 1 0 rfl rfl (vp_in_nI (by omega) (by decide)) dX4_isAbove_28 ?_
      refine fw_l (x' := lN (db k)) (by rw [nI_clamp (by omega)]) ?_
      refine W.lcmp hx hb dX4_isAbove_29 ?_
      refine lv_if_le (tgt := 37) hx hb dX4_isAbove_30 (by decide) (fun c_30 => ?_) (fun c_30 => ?_)
      · -- then 30
        have hfin : decide (rd_v db 48 < rd_v da 48) = false := decide_eq_false (fun q9 => by
          have h1 := (rd_cmp k (fun j hj => hd j (by omega)) (fun j hj => he j (by omega)) (47 - k) (fun j h1 h2 => heq j h1 (by omega)) hne).mp (by rw [show k + 1 + (47 - k) = 48 by omega]; exact q9)
          have h2 := (pk_lLE (by omega) (by omega)).mp ((lg_cmp_le _ _).mp c_30)
          omega)
        refine lv_iconst (v := 0) hx hb dX4_isAbove_37 (by decide) ?_
        exact W.zret (v := 0) (ty := .boolean) hx hb hr rfl (fun zt zht _ => ⟨0, rfl, by rw [hfin]; rfl, zht⟩) (fun q h => by cases h) dX4_isAbove_38 hlocks
      · -- else 30
        have hfin : decide (rd_v db 48 < rd_v da 48) = true := decide_eq_true (by
          have h0 : db k < da k := by
            rcases Nat.lt_or_ge (db k) (da k) with q9 | q9
            · exact q9
            · exact absurd ((lg_cmp_le _ _).mpr ((pk_lLE (by omega) (by omega)).mpr q9)) c_30
          have h1 := (rd_cmp k (fun j hj => hd j (by omega)) (fun j hj => he j (by omega)) (47 - k) (fun j h1 h2 => heq j h1 (by omega)) hne).mpr h0
          rw [show k + 1 + (47 - k) = 48 by omega] at h1
          exact h1)
        refine lv_iconst (v := 1) hx hb dX4_isAbove_33 (by decide) ?_
        refine lv_goto (tgt := 38) hx hb dX4_isAbove_34 (by decide) ?_
        exact W.zret (v := 1) (ty := .boolean) hx hb hr rfl (fun zt zht _ => ⟨1, rfl, by rw [hfin]; rfl, zht⟩) (fun q h => by cases h) dX4_isAbove_38 hlocks
    · -- else 14
      have hkk : da k = db k := (pk_lEQ (by omega) (by omega)).mp ((lg_cmp_eq _ _).mp c_14)
      refine lv_iinc (v := nI (k - 1)) (lv' := [(2, .int (nI (k - 1))), (0, .ref a0), (1, .ref a1)]) hx hb dX4_isAbove_17 hl (k := 2) rfl (sb_m1 hk0) (by decide) rfl (fun ls hl => ?_)
      refine lv_goto (tgt := 3) hx hb dX4_isAbove_20 (by decide) ?_
      have heq2 : ∀ j, k - 1 < j → j < 48 → da j = db j := by
        intro j h1 h2
        rcases Nat.lt_or_ge k j with q9 | q9
        · exact heq j q9 h2
        · obtain rfl : j = k := by omega
          exact hkk
      exact ih_3 _ (k - 1) _ (by omega) ⟨rfl, by omega, heq2, lv_sub hl [1, 2, 0] rfl⟩
set_option maxHeartbeats 4000000 in
set_option maxRecDepth 100000 in
theorem c_ref_over (l : Launch) (dC : Nat → ClassId) (dI : Nat → Nat → Nat) (n i : Nat) (hn : n ≤ 48) (hi : i ≤ n) : Met l yX4_over wsX4_over ({ frames := 0, cells := 0, slots := 0, locals := 0 } : Room) (va_Pc [.int (nI n), .int (nI i)] (fw_pR (dC, dI) vwCl [] [])) (vp_Sl (fun r => r = lN (pm_ch n i))) 0 0 (fun _ => False) := by
  refine fw_metR (cc := cX4_over) (maxL := 5) (ret := (some .long)) (by decide) rfl (Nat.le_of_ble_eq_true rfl) ?_
  intro zp ze zs zm zbelow zmeth zc ls hx hb hr hts hown hlocks hml hin hN hP hK hl
  have hown : zs.vm.findClass RX4 = some zm.cls := hown
  have hl : lv_has ls 5 [(0, .int (nI n)), (1, .int (nI i))] := hl
  refine lv_lconst (v := 1) hx hb dX4_over_0 (by decide) ?_
  refine lv_lstore_n (lv' := [(2, .long 1), (0, .int (nI n)), (1, .int (nI i))]) hx hb dX4_over_1 rfl hl (by decide) rfl (fun ls hl => ?_)
  refine lv_iconst (v := 1) hx hb dX4_over_2 (by decide) ?_
  refine lv_istore (lv' := [(4, .int 1), (2, .long 1), (0, .int (nI n)), (1, .int (nI i))]) hx hb dX4_over_3 hl (by decide) rfl (fun ls hl => ?_)
  refine fw_loopR (σ := Nat × Nat) (I := fun zn u ls => match u with | (q, v) => zn = i - q ∧ (q ≤ i) ∧ (v = pm_ch (n - i + q) q) ∧ lv_has ls 5 [(0, .int (nI n)), (1, .int (nI i)), (2, .long (lN v)), (4, .int (nI (q + 1)))]) ?_ _ (0, 1) _ ⟨rfl, by omega, (pm_ch0 _).symm, lv_sub hl [2, 3, 1, 0] rfl⟩
  intro zn u ls hI ih_5
  obtain ⟨q, v⟩ := u
  obtain ⟨hzn, hq, hv, hl⟩ := hI
  refine lv_iload hx hb dX4_over_5 (lv_at hl 3 rfl) ?_
  refine lv_iload_n hx hb dX4_over_7 rfl (lv_at hl 1 rfl) ?_
  refine lv_icmp_gt (tgt := 31) hx hb dX4_over_8 (by decide) (fun c_8 => ?_) (fun c_8 => ?_)
  · -- then 8
    have hend : q = i := by have := (nI_ltI (a := i) (b := q + 1) (by omega) (by omega)).mp c_8; omega
    refine lv_lload_n hx hb dX4_over_31 rfl (lv_at hl 2 rfl) ?_
    exact W.lret (v := (lN v)) hx hb hr (fun zt zht _ => ⟨(lN v), rfl, by rw [hv, hend, show n - i + i = n by omega], zht⟩) (fun q h => by cases h) dX4_over_32 hlocks
  · -- else 8
    have hlt : q < i := by
      rcases Nat.lt_or_ge q i with q9 | q9
      · exact q9
      · exact absurd (nI_lt (a := i) (b := q + 1) (by omega) (by omega)) c_8
    have hbd := ch_bd hv hn hi (by omega)
    refine lv_lload_n hx hb dX4_over_11 rfl (lv_at hl 2 rfl) ?_
    refine lv_iload_n hx hb dX4_over_12 rfl (lv_at hl 0 rfl) ?_
    refine lv_iload_n hx hb dX4_over_13 rfl (lv_at hl 1 rfl) ?_
    refine lv_isub hx hb dX4_over_14 ?_
    refine fw_i (x' := nI (n - i)) (pk_sub hi) ?_
    refine lv_iload hx hb dX4_over_15 (lv_at hl 3 rfl) ?_
    refine lv_iadd hx hb dX4_over_17 ?_
    refine fw_i (x' := nI (n - i + (q + 1))) (nI_add _ _) ?_
    refine lv_i2l (v := lN (n - i + (q + 1))) hx hb dX4_over_18 (nI_l (by omega)) ?_
    refine lv_lmul hx hb dX4_over_19 ?_
    refine fw_l (x' := lN (v * (n - i + (q + 1)))) (lN_mul _ _) ?_
    refine lv_iload hx hb dX4_over_20 (lv_at hl 3 rfl) ?_
    refine lv_i2l (v := lN (q + 1)) hx hb dX4_over_22 (nI_l (by omega)) ?_
    refine lv_ldiv hx hb dX4_over_23 (fun h => by have := (pk_lEQ (a := q + 1) (b := 0) (by omega) (by omega)).mp h; omega) ?_
    refine fw_l (x' := lN (v * (n - i + (q + 1)) / (q + 1))) (pk_lDiv hbd (by omega) (by omega)) ?_
    refine lv_lstore_n (lv' := [(2, .long (lN (v * (n - i + (q + 1)) / (q + 1)))), (0, .int (nI n)), (1, .int (nI i)), (4, .int (nI (q + 1)))]) hx hb dX4_over_24 rfl hl (by decide) rfl (fun ls hl => ?_)
    refine lv_iinc (v := nI (q + 1 + 1)) (lv' := [(4, .int (nI (q + 1 + 1))), (2, .long (lN (v * (n - i + (q + 1)) / (q + 1)))), (0, .int (nI n)), (1, .int (nI i))]) hx hb dX4_over_25 hl (k := 3) rfl (nI_1 _) (by decide) rfl (fun ls hl => ?_)
    refine lv_goto (tgt := 5) hx hb dX4_over_28 (by decide) ?_
    exact ih_5 _ (q + 1, v * (n - i + (q + 1)) / (q + 1)) _ (by omega) ⟨rfl, by omega, ch_step hv, lv_sub hl [2, 3, 1, 0] rfl⟩
