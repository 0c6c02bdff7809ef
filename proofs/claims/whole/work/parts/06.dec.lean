set_option maxHeartbeats 4000000 in
set_option maxRecDepth 100000 in
theorem c_dec_init (l : Launch) (dC : Nat → ClassId) (dI : Nat → Nat → Nat) (h0 : Nat) (sz : Nat)  : Met l yX1_init wsX1_init ({ frames := 1, cells := 1, slots := 17, locals := 12 } : Room) (va_Pc [.ref h0] (fw_pW (dC, dI) vwCl [] [(h0, .inr (1, [.null]))] sz)) (va_Qv (S := Nat × ClassId) (fun _ => True) (fun u t => match u with | (q, cJ) => fw_q (dC, dI) vwCl [(cJ, .long)] (va_A [(h0, .inr (1, [.null]))] sz) [(h0, .inr (1, [.ref q])), (q, .inl (cJ, 17, .inr (.inl (fun _ => 0))))] t) (va_A [(h0, .inr (1, [.null]))] sz)) 1 17 (va_A [(h0, .inr (1, [.null]))] sz) := by
  refine fw_metW (cc := cX1_init) (maxL := 1) (ret := none) (by decide) rfl (Nat.le_of_ble_eq_true rfl) ?_
  intro zp ze zs zm zbelow zmeth zc ls hx hb hr hts hown hlocks hml hin hN hsz hP hK hD hA hS hl
  generalize hAe : (va_A [(h0, .inr (1, [.null]))] sz) = A at hD hA hS ⊢
  have hown : zs.vm.findClass RX1 = some zm.cls := hown
  have hin : zmeth.name = "<init>" := hin
  have hl : lv_has ls 1 [(0, .ref h0)] := hl
  refine lv_aload_n hx hb dX1_init_0 rfl (lv_at hl 0 rfl) ?_
  refine W.objInit hx hb hown (hts (.methodLink RX1 3 objectInit) (by decide +kernel)) (hts (.instanceMethod objectInit) (by decide +kernel)) (hts _ (by decide +kernel)) rfl (by rw [hml]; exact hl.1) rfl dX1_init_1 (Nat.le_of_ble_eq_true rfl) (Nat.le_of_ble_eq_true rfl) ?_
  refine W.eq (g2 := F0 zm 4 ls []) rfl ?_
  refine lv_aload_n hx hb dX1_init_4 rfl (lv_at hl 0 rfl) ?_
  refine lv_bipush (v := 17) hx hb dX1_init_5 (by decide) ?_
  refine va_newa (atype := .long) (ty := .long) (N' := 17) (a0 := (17, .inr (.inl (fun _ => 0)))) hx hb (hts (.arrayClass .long) (by decide +kernel)) rfl hK hP hD hS hA (fun _ => rfl) (by decide) (by decide) (by decide +kernel) (Nat.le_of_ble_eq_true rfl) (Nat.le_of_ble_eq_true rfl) dX1_init_7 (fun q7 cA7 H hK hP hD hS => ?_)
  have hK : va_K (dC, dI) vwCl [(cA7, .long)] zs := hK
  have hP : va_P (dC, dI) vwCl [(h0, .inr (1, [.null])), (q7, .inl (cA7, 17, .inr (.inl (fun _ => 0))))] H := hP
  have hD : va_D A [(h0, .inr (1, [.null])), (q7, .inl (cA7, 17, .inr (.inl (fun _ => 0))))] := hD
  refine W.widen (k := 1) (n := 17) (by decide) (by decide) ?_
  refine va_putF (D := (dC, dI)) (ci := 1) (v := .ref q7) (ty := (.array .long)) (C := RX1) (T := TX1) (N := 1) hx hb hts (by decide +kernel) tyX1 tyX1_ok nmX1 hown hK hP hD hS 0 rfl rfl 0 (by decide) (hts (.fieldLink RX1 11 "FlakyBounds$Decimal" "parts" "[J") (by decide +kernel)) (fun _ h9 => h9) rfl hin rfl (by decide +kernel) rfl rfl (Nat.le_of_ble_eq_true rfl) dX1_init_9 (fun H locs hP hD hS => ?_)
  have hP : va_P (dC, dI) vwCl [(h0, .inr (1, [.ref q7])), (q7, .inl (cA7, 17, .inr (.inl (fun _ => 0))))] H := hP
  have hD : va_D A [(h0, .inr (1, [.ref q7])), (q7, .inl (cA7, 17, .inr (.inl (fun _ => 0))))] := hD
  have hP9 := hP.sub (ws' := [(h0, .inr (1, [.ref q7])), (q7, .inl (cA7, 17, .inr (.inl (fun _ => 0))))]) [0, 1] rfl
  have hD9 := hD.sub (ws' := [(h0, .inr (1, [.ref q7])), (q7, .inl (cA7, 17, .inr (.inl (fun _ => 0))))]) [0, 1] (by decide) rfl
  have hK9 := hK.sub (tys' := [(cA7, .long)]) [0] rfl
  exact W.vret hx hb hr (fun zt zht hW => ⟨⟨(q7, cA7), rfl, trivial, by rw [zht]; exact hP9, va_K.moved hW.alike hK9, hD9⟩, hS.F zht⟩) hS.2.2 dX1_init_12 hlocks
set_option maxHeartbeats 4000000 in
set_option maxRecDepth 100000 in
theorem c_dec_set (l : Launch) (dC : Nat → ClassId) (dI : Nat → Nat → Nat) (h0 a0 : Nat) (cJ : ClassId) (d : Nat → Nat) (n : Nat) (sz : Nat) (hn48 : n ≤ 48) : Met l yX1_setThousandths wsX1_setThousandths ({ frames := 0, cells := 0, slots := 0, locals := 0 } : Room) (va_Pc [.ref h0, .int (nI n)] (fw_pW (dC, dI) vwCl [(cJ, .long)] [(h0, .inr (1, [.ref a0])), (a0, .inl (cJ, 17, .inr (.inl (fun j => lN (d j)))))] sz)) (va_Qv (S := Nat → Nat) (fun d2 => pd_ok d2 ∧ pd_v d2 17 = 1000 ^ (48 - n)) (fun u t => fw_q (dC, dI) vwCl [(cJ, .long)] (va_A [(h0, .inr (1, [.ref a0])), (a0, .inl (cJ, 17, .inr (.inl (fun j => lN (d j)))))] sz) [(h0, .inr (1, [.ref a0])), (a0, .inl (cJ, 17, .inr (.inl (fun j => lN (u j)))))] t) (va_A [(h0, .inr (1, [.ref a0])), (a0, .inl (cJ, 17, .inr (.inl (fun j => lN (d j)))))] sz)) 0 0 (va_A [(h0, .inr (1, [.ref a0])), (a0, .inl (cJ, 17, .inr (.inl (fun j => lN (d j)))))] sz) := by
  refine fw_metW (cc := cX1_setThousandths) (maxL := 5) (ret := none) (by decide) rfl (Nat.le_of_ble_eq_true rfl) ?_
  intro zp ze zs zm zbelow zmeth zc ls hx hb hr hts hown hlocks hml hin hN hsz hP hK hD hA hS hl
  generalize hAe : (va_A [(h0, .inr (1, [.ref a0])), (a0, .inl (cJ, 17, .inr (.inl (fun j => lN (d j)))))] sz) = A at hD hA hS ⊢
  have hown : zs.vm.findClass RX1 = some zm.cls := hown
  have hl : lv_has ls 5 [(0, .ref h0), (1, .int (nI n))] := hl
  refine lv_iconst (v := 0) hx hb dX1_setThousandths_0 (by decide) ?_
  refine lv_istore_n (lv' := [(2, .int 0), (0, .ref h0), (1, .int (nI n))]) hx hb dX1_setThousandths_1 rfl hl (by decide) rfl (fun ls hl => ?_)
  refine fw_loop (σ := Nat × (Nat → Nat)) (I := fun zn u H locs ls => match u with | (i, d2) => zn = 17 - i ∧ (i ≤ 17) ∧ (∀ j, j < i → d2 j = 0) ∧ va_P (dC, dI) vwCl [(h0, .inr (1, [.ref a0])), (a0, .inl (cJ, 17, .inr (.inl (fun j => lN (d2 j)))))] H ∧ va_D A [(h0, .inr (1, [.ref a0])), (a0, .inl (cJ, 17, .inr (.inl (fun j => lN (d2 j)))))] ∧ va_S A zs.heap H locs ∧ lv_has ls 5 [(0, .ref h0), (1, .int (nI n)), (2, .int (nI i))]) ?_ _ (0, d) _ _ _ ⟨rfl, by omega, fun j hj => by omega,  hP.sub [0, 1] rfl, hD.sub [0, 1] (by decide) rfl, hS, lv_sub hl [1, 2, 0] rfl⟩
  intro zn u H locs ls hI ih_2
  obtain ⟨i, d2⟩ := u
  obtain ⟨hzn, hi, hz, hP, hD, hS, hl⟩ := hI
  refine lv_iload_n hx hb dX1_setThousandths_2 rfl (lv_at hl 2 rfl) ?_
  refine lv_bipush (v := 17) hx hb dX1_setThousandths_3 (by decide) ?_
  refine lv_icmp_ge (tgt := 21) hx hb dX1_setThousandths_5 (by decide) (fun c_5 => ?_) (fun c_5 => ?_)
  · -- then 5
    have hi17 : i = 17 := by have := (nI_leI (a := 17) (b := i) (by decide) (by omega)).mp c_5; omega
    subst hi17
    refine lv_bipush (v := 48) hx hb dX1_setThousandths_21 (by decide) ?_
    refine lv_iload_n hx hb dX1_setThousandths_23 rfl (lv_at hl 1 rfl) ?_
    refine lv_isub hx hb dX1_setThousandths_24 ?_
    refine fw_i (x' := nI (48 - n)) (pk_sub (a := 48) hn48) ?_
    refine lv_istore_n (lv' := [(2, .int (nI (48 - n))), (0, .ref h0), (1, .int (nI n))]) hx hb dX1_setThousandths_25 rfl hl (by decide) rfl (fun ls hl => ?_)
    refine lv_iload_n hx hb dX1_setThousandths_26 rfl (lv_at hl 0 rfl) ?_
    refine lv_iconst (v := 3) hx hb dX1_setThousandths_27 (by decide) ?_
    refine lv_idiv hx hb dX1_setThousandths_28 (by decide) ?_
    refine fw_i (x' := nI ((48 - n) / 3)) (pk_div (a := 48 - n) (d := 3) (by omega) (by omega) (by omega)) ?_
    refine lv_istore_n (lv' := [(3, .int (nI ((48 - n) / 3))), (2, .int (nI (48 - n))), (0, .ref h0), (1, .int (nI n))]) hx hb dX1_setThousandths_29 rfl hl (by decide) rfl (fun ls hl => ?_)
    refine lv_iload_n hx hb dX1_setThousandths_30 rfl (lv_at hl 1 rfl) ?_
    refine lv_if_lt (tgt := 40) hx hb dX1_setThousandths_31 (by decide) (fun c_31 => absurd c_31 (nI_pos (by omega))) (fun _ => ?_)
    refine lv_iload_n hx hb dX1_setThousandths_34 rfl (lv_at hl 0 rfl) ?_
    refine lv_bipush (v := 17) hx hb dX1_setThousandths_35 (by decide) ?_
    refine lv_icmp_lt (tgt := 41) hx hb dX1_setThousandths_37 (by decide) (fun _ => ?_) (fun c_37 => absurd (nI_lt (a := (48 - n) / 3) (b := 17) (by omega) (by decide)) c_37)
    refine lv_aload_n hx hb dX1_setThousandths_41 rfl (lv_at hl 2 rfl) ?_
    refine va_get (D := (dC, dI)) (ci := 1) (v := .ref a0) (C := RX1) (T := TX1) (N := 1) hx hb hts (by decide +kernel) hown hK hP 0 rfl rfl 0 (by decide) (hts (.fieldLink RX1 11 "FlakyBounds$Decimal" "parts" "[J") (by decide +kernel)) (fun _ h9 => h9) rfl dX1_setThousandths_42 ?_
    refine lv_iload_n hx hb dX1_setThousandths_45 rfl (lv_at hl 0 rfl) ?_
    refine lv_lconst (v := 1) hx hb dX1_setThousandths_46 (by decide) ?_
    refine va_last hx hb hK hP hD hS 1 0 rfl rfl (vp_in_nI (by omega) (by decide)) dX1_setThousandths_47 (fun H locs hP hD hS => ?_)
    have e_st : vp_updL (fun j => lN (d2 j)) (nI ((48 - n) / 3)).toNatClampNeg 1 = fun j => lN (va_up d2 ((48 - n) / 3) 1 j) := by rw [nI_clamp (by omega)]; exact lN_st d2 _ 1
    rw [e_st] at hP hD
    have hP : va_P (dC, dI) vwCl [(h0, .inr (1, [.ref a0])), (a0, .inl (cJ, 17, .inr (.inl (fun j => lN (va_up d2 ((48 - n) / 3) 1 j)))))] H := hP
    have hD : va_D A [(h0, .inr (1, [.ref a0])), (a0, .inl (cJ, 17, .inr (.inl (fun j => lN (va_up d2 ((48 - n) / 3) 1 j)))))] := hD
    refine lv_iconst (v := 0) hx hb dX1_setThousandths_48 (by decide) ?_
    refine lv_istore (lv' := [(4, .int 0), (3, .int (nI ((48 - n) / 3))), (2, .int (nI (48 - n))), (0, .ref h0), (1, .int (nI n))]) hx hb dX1_setThousandths_49 hl (by decide) rfl (fun ls hl => ?_)
    refine fw_loop (σ := Nat) (I := fun zn u H locs ls => match u with | k => zn = (48 - n) % 3 - k ∧ (k ≤ (48 - n) % 3) ∧ va_P (dC, dI) vwCl [(h0, .inr (1, [.ref a0])), (a0, .inl (cJ, 17, .inr (.inl (fun j => lN ((va_up d2 ((48 - n) / 3) (1000 ^ k)) j)))))] H ∧ va_D A [(h0, .inr (1, [.ref a0])), (a0, .inl (cJ, 17, .inr (.inl (fun j => lN ((va_up d2 ((48 - n) / 3) (1000 ^ k)) j)))))] ∧ va_S A zs.heap H locs ∧ lv_has ls 5 [(0, .ref h0), (2, .int (nI (48 - n))), (3, .int (nI ((48 - n) / 3))), (4, .int (nI k))]) ?_ _ 0 _ _ _ ⟨rfl, by omega,  hP.sub [0, 1] rfl, hD.sub [0, 1] (by decide) rfl, hS, lv_sub hl [3, 2, 1, 0] rfl⟩
    intro zn k H locs ls hI ih_51
    obtain ⟨hzn, hk, hP, hD, hS, hl⟩ := hI
    refine lv_iload hx hb dX1_setThousandths_51 (lv_at hl 3 rfl) ?_
    refine lv_iload_n hx hb dX1_setThousandths_53 rfl (lv_at hl 1 rfl) ?_
    refine lv_iconst (v := 3) hx hb dX1_setThousandths_54 (by decide) ?_
    refine lv_irem hx hb dX1_setThousandths_55 (by decide) ?_
    refine fw_i (x' := nI ((48 - n) % 3)) (pk_rem (a := 48 - n) (d := 3) (by omega) (by omega) (by omega)) ?_
    refine lv_icmp_ge (tgt := 77) hx hb dX1_setThousandths_56 (by decide) (fun c_56 => ?_) (fun c_56 => ?_)
    · -- then 56
      have hk3 : k = (48 - n) % 3 := by have := (nI_leI (a := (48 - n) % 3) (b := k) (by omega) (by omega)).mp c_56; omega
      have hP9 := hP.sub (ws' := [(h0, .inr (1, [.ref a0])), (a0, .inl (cJ, 17, .inr (.inl (fun j => lN ((va_up d2 ((48 - n) / 3) (1000 ^ k)) j)))))]) [0, 1] rfl
      have hD9 := hD.sub (ws' := [(h0, .inr (1, [.ref a0])), (a0, .inl (cJ, 17, .inr (.inl (fun j => lN ((va_up d2 ((48 - n) / 3) (1000 ^ k)) j)))))]) [0, 1] (by decide) rfl
      have hK9 := hK.sub (tys' := [(cJ, .long)]) [0] rfl
      exact W.vret hx hb hr (fun zt zht hW => ⟨⟨va_up d2 ((48 - n) / 3) (1000 ^ k), rfl, pd_set hz hn48 hk3, by rw [zht]; exact hP9, va_K.moved hW.alike hK9, hD9⟩, hS.F zht⟩) hS.2.2 dX1_setThousandths_77 hlocks
    · -- else 56
      have hlt : k < (48 - n) % 3 := by
        rcases Nat.lt_or_ge k ((48 - n) % 3) with q | q
        · exact q
        · exact absurd (nI_le (a := (48 - n) % 3) (b := k) q (by omega)) c_56
      refine lv_aload_n hx hb dX1_setThousandths_59 rfl (lv_at hl 0 rfl) ?_
      refine va_get (D := (dC, dI)) (ci := 1) (v := .ref a0) (C := RX1) (T := TX1) (N := 1) hx hb hts (by decide +kernel) hown hK hP 0 rfl rfl 0 (by decide) (hts (.fieldLink RX1 11 "FlakyBounds$Decimal" "parts" "[J") (by decide +kernel)) (fun _ h9 => h9) rfl dX1_setThousandths_60 ?_
      refine lv_iload_n hx hb dX1_setThousandths_63 rfl (lv_at hl 2 rfl) ?_
      refine lv_dup2_11 hx hb dX1_setThousandths_64 rfl rfl ?_
      refine va_lald hx hb hK hP 1 0 rfl rfl (vp_in_nI (by omega) (by decide)) dX1_setThousandths_65 ?_
      refine fw_l (x' := lN (1000 ^ k)) (by rw [nI_clamp (by omega)]; show lN (va_up d2 _ _ _) = _; rw [va_up_self]) ?_
      refine lv_ldc2 (v := 1000) hx hb hown (hts (.constantLong RX1 15 1000) (by decide +kernel)) dX1_setThousandths_66 ?_
      refine lv_lmul hx hb dX1_setThousandths_69 ?_
      refine fw_l (x' := lN (1000 ^ (k + 1))) (by show lN _ * lN 1000 = _; rw [lN_mul, Nat.pow_succ]) ?_
      refine va_last hx hb hK hP hD hS 1 0 rfl rfl (vp_in_nI (by omega) (by decide)) dX1_setThousandths_70 (fun H locs hP hD hS => ?_)
      have e_st : vp_updL (fun j => lN ((va_up d2 ((48 - n) / 3) (1000 ^ k)) j)) (nI ((48 - n) / 3)).toNatClampNeg (lN (1000 ^ (k + 1))) = fun j => lN (va_up d2 ((48 - n) / 3) (1000 ^ (k + 1)) j) := by rw [nI_clamp (by omega), lN_st, bx_uu]
      rw [e_st] at hP hD
      have hP : va_P (dC, dI) vwCl [(h0, .inr (1, [.ref a0])), (a0, .inl (cJ, 17, .inr (.inl (fun j => lN (va_up d2 ((48 - n) / 3) (1000 ^ (k + 1)) j)))))] H := hP
      have hD : va_D A [(h0, .inr (1, [.ref a0])), (a0, .inl (cJ, 17, .inr (.inl (fun j => lN (va_up d2 ((48 - n) / 3) (1000 ^ (k + 1)) j)))))] := hD
      refine lv_iinc (v := nI (k + 1)) (lv' := [(4, .int (nI (k + 1))), (0, .ref h0), (2, .int (nI (48 - n))), (3, .int (nI ((48 - n) / 3)))]) hx hb dX1_setThousandths_71 hl (k := 3) rfl (nI_1 k) (by decide) rfl (fun ls hl => ?_)
      refine lv_goto (tgt := 51) hx hb dX1_setThousandths_74 (by decide) ?_
      exact ih_51 _ (k + 1) _ _ _ (by omega) ⟨rfl, by omega, hP.sub [0, 1] rfl, hD.sub [0, 1] (by decide) rfl, hS, lv_sub hl [1, 2, 3, 0] rfl⟩
  · -- else 5
    have hlt : i < 17 := by
      rcases Nat.lt_or_ge i 17 with q | q
      · exact q
      · exact absurd (nI_le (a := 17) (b := i) q (by omega)) c_5
    refine lv_aload_n hx hb dX1_setThousandths_8 rfl (lv_at hl 0 rfl) ?_
    refine va_get (D := (dC, dI)) (ci := 1) (v := .ref a0) (C := RX1) (T := TX1) (N := 1) hx hb hts (by decide +kernel) hown hK hP 0 rfl rfl 0 (by decide) (hts (.fieldLink RX1 11 "FlakyBounds$Decimal" "parts" "[J") (by decide +kernel)) (fun _ h9 => h9) rfl dX1_setThousandths_9 ?_
    refine lv_iload_n hx hb dX1_setThousandths_12 rfl (lv_at hl 2 rfl) ?_
    refine lv_lconst (v := 0) hx hb dX1_setThousandths_13 (by decide) ?_
    refine va_last hx hb hK hP hD hS 1 0 rfl rfl (vp_in_nI (by omega) (by decide)) dX1_setThousandths_14 (fun H locs hP hD hS => ?_)
    have e_st : vp_updL (fun j => lN (d2 j)) (nI i).toNatClampNeg 0 = fun j => lN (va_up d2 i 0 j) := by rw [nI_clamp (by omega)]; exact lN_st d2 i 0
    rw [e_st] at hP hD
    have hP : va_P (dC, dI) vwCl [(h0, .inr (1, [.ref a0])), (a0, .inl (cJ, 17, .inr (.inl (fun j => lN (va_up d2 i 0 j)))))] H := hP
    have hD : va_D A [(h0, .inr (1, [.ref a0])), (a0, .inl (cJ, 17, .inr (.inl (fun j => lN (va_up d2 i 0 j)))))] := hD
    refine lv_iinc (v := nI (i + 1)) (lv' := [(2, .int (nI (i + 1))), (0, .ref h0), (1, .int (nI n))]) hx hb dX1_setThousandths_15 hl (k := 2) rfl (nI_1 i) (by decide) rfl (fun ls hl => ?_)
    refine lv_goto (tgt := 2) hx hb dX1_setThousandths_18 (by decide) ?_
    have hz2 : ∀ j, j < i + 1 → va_up d2 i 0 j = 0 := by
      intro j hj
      by_cases h : j = i
      · rw [h, va_up_self]
      · rw [va_up_ne _ _ h]; exact hz j (by omega)
    exact ih_2 _ (i + 1, va_up d2 i 0) _ _ _ (by omega) ⟨rfl, by omega, hz2, hP.sub [0, 1] rfl, hD.sub [0, 1] (by decide) rfl, hS, lv_sub hl [1, 2, 0] rfl⟩
set_option maxHeartbeats 4000000 in
set_option maxRecDepth 100000 in
theorem c_dec_mul (l : Launch) (dC : Nat → ClassId) (dI : Nat → Nat → Nat) (h0 a0 : Nat) (cJ : ClassId) (d : Nat → Nat) (f : Nat) (sz : Nat) (hd : pd_ok d) (hf : f ≤ 48000) (hm : f * pd_v d 17 < 1000000000 ^ 17) : Met l yX1_multiply wsX1_multiply ({ frames := 0, cells := 0, slots := 0, locals := 0 } : Room) (va_Pc [.ref h0, .int (nI f)] (fw_pW (dC, dI) vwCl [(cJ, .long)] [(h0, .inr (1, [.ref a0])), (a0, .inl (cJ, 17, .inr (.inl (fun j => lN (d j)))))] sz)) (va_Qv (S := Nat → Nat) (fun d2 => pd_ok d2 ∧ pd_v d2 17 = f * pd_v d 17) (fun u t => fw_q (dC, dI) vwCl [(cJ, .long)] (va_A [(h0, .inr (1, [.ref a0])), (a0, .inl (cJ, 17, .inr (.inl (fun j => lN (d j)))))] sz) [(h0, .inr (1, [.ref a0])), (a0, .inl (cJ, 17, .inr (.inl (fun j => lN (u j)))))] t) (va_A [(h0, .inr (1, [.ref a0])), (a0, .inl (cJ, 17, .inr (.inl (fun j => lN (d j)))))] sz)) 0 0 (va_A [(h0, .inr (1, [.ref a0])), (a0, .inl (cJ, 17, .inr (.inl (fun j => lN (d j)))))] sz) := by
  refine fw_metW (cc := cX1_multiply) (maxL := 7) (ret := none) (by decide) rfl (Nat.le_of_ble_eq_true rfl) ?_
  intro zp ze zs zm zbelow zmeth zc ls hx hb hr hts hown hlocks hml hin hN hsz hP hK hD hA hS hl
  generalize hAe : (va_A [(h0, .inr (1, [.ref a0])), (a0, .inl (cJ, 17, .inr (.inl (fun j => lN (d j)))))] sz) = A at hD hA hS ⊢
  have hown : zs.vm.findClass RX1 = some zm.cls := hown
  have hl : lv_has ls 7 [(0, .ref h0), (1, .int (nI f))] := hl
  refine lv_lconst (v := 0) hx hb dX1_multiply_0 (by decide) ?_
  refine lv_lstore_n (lv' := [(2, .long 0), (0, .ref h0), (1, .int (nI f))]) hx hb dX1_multiply_1 rfl hl (by decide) rfl (fun ls hl => ?_)
  refine lv_iconst (v := 0) hx hb dX1_multiply_2 (by decide) ?_
  refine lv_istore (lv' := [(4, .int 0), (2, .long 0), (0, .ref h0), (1, .int (nI f))]) hx hb dX1_multiply_3 hl (by decide) rfl (fun ls hl => ?_)
  refine fw_loop (σ := Nat × Nat × (Nat → Nat)) (I := fun zn u H locs ls => match u with | (i, k, d2) => zn = 17 - i ∧ (i ≤ 17) ∧ (∀ j, i ≤ j → d2 j = d j) ∧ (∀ j, j < i → d2 j < 1000000000) ∧ (pd_v d2 i + k * 1000000000 ^ i = f * pd_v d i) ∧ (k ≤ f) ∧ va_P (dC, dI) vwCl [(h0, .inr (1, [.ref a0])), (a0, .inl (cJ, 17, .inr (.inl (fun j => lN (d2 j)))))] H ∧ va_D A [(h0, .inr (1, [.ref a0])), (a0, .inl (cJ, 17, .inr (.inl (fun j => lN (d2 j)))))] ∧ va_S A zs.heap H locs ∧ lv_has ls 7 [(0, .ref h0), (1, .int (nI f)), (2, .long (lN k)), (4, .int (nI i))]) ?_ _ (0, 0, d) _ _ _ ⟨rfl, by omega, fun _ _ => rfl, fun j hj => by omega, by simp [pd_v0], by omega,  hP.sub [0, 1] rfl, hD.sub [0, 1] (by decide) rfl, hS, lv_sub hl [2, 3, 1, 0] rfl⟩
  intro zn u H locs ls hI ih_5
  obtain ⟨i, k, d2⟩ := u
  obtain ⟨hzn, hi, hk, hlo, hv, hc, hP, hD, hS, hl⟩ := hI
  refine lv_iload hx hb dX1_multiply_5 (lv_at hl 3 rfl) ?_
  refine lv_bipush (v := 17) hx hb dX1_multiply_7 (by decide) ?_
  refine lv_icmp_ge (tgt := 54) hx hb dX1_multiply_9 (by decide) (fun c_9 => ?_) (fun c_9 => ?_)
  · -- then 9
    have hi17 : i = 17 := by have := (nI_leI (a := 17) (b := i) (by decide) (by omega)).mp c_9; omega
    subst hi17
    have hP9 := hP.sub (ws' := [(h0, .inr (1, [.ref a0])), (a0, .inl (cJ, 17, .inr (.inl (fun j => lN (d2 j)))))]) [0, 1] rfl
    have hD9 := hD.sub (ws' := [(h0, .inr (1, [.ref a0])), (a0, .inl (cJ, 17, .inr (.inl (fun j => lN (d2 j)))))]) [0, 1] (by decide) rfl
    have hK9 := hK.sub (tys' := [(cJ, .long)]) [0] rfl
    exact W.vret hx hb hr (fun zt zht hW => ⟨⟨d2, rfl, ⟨fun j hj => hlo j hj, pd_top hv hm⟩, by rw [zht]; exact hP9, va_K.moved hW.alike hK9, hD9⟩, hS.F zht⟩) hS.2.2 dX1_multiply_54 hlocks
  · -- else 9
    have hlt : i < 17 := by
      rcases Nat.lt_or_ge i 17 with q | q
      · exact q
      · exact absurd (nI_le (a := 17) (b := i) q (by omega)) c_9
    have hbd : d i * f + k < 2 ^ 63 := pd_mulB hlt hd hf hc
    refine lv_aload_n hx hb dX1_multiply_12 rfl (lv_at hl 0 rfl) ?_
    refine va_get (D := (dC, dI)) (ci := 1) (v := .ref a0) (C := RX1) (T := TX1) (N := 1) hx hb hts (by decide +kernel) hown hK hP 0 rfl rfl 0 (by decide) (hts (.fieldLink RX1 11 "FlakyBounds$Decimal" "parts" "[J") (by decide +kernel)) (fun _ h9 => h9) rfl dX1_multiply_13 ?_
    refine lv_iload hx hb dX1_multiply_16 (lv_at hl 3 rfl) ?_
    refine va_lald hx hb hK hP 1 0 rfl rfl (vp_in_nI (by omega) (by decide)) dX1_multiply_18 ?_
    refine fw_l (x' := lN (d i)) (by rw [nI_clamp (by omega)]; show lN (d2 i) = _; rw [hk i (Nat.le_refl i)]) ?_
    refine lv_iload_n hx hb dX1_multiply_19 rfl (lv_at hl 1 rfl) ?_
    refine lv_i2l (v := lN f) hx hb dX1_multiply_20 (nI_l (by omega)) ?_
    refine lv_lmul hx hb dX1_multiply_21 ?_
    refine fw_l (x' := lN (d i * f)) (lN_mul _ _) ?_
    refine lv_lload_n hx hb dX1_multiply_22 rfl (lv_at hl 2 rfl) ?_
    refine lv_ladd hx hb dX1_multiply_23 ?_
    refine fw_l (x' := lN (d i * f + k)) (lN_add _ _) ?_
    refine lv_lstore (lv' := [(5, .long (lN (d i * f + k))), (0, .ref h0), (1, .int (nI f)), (2, .long (lN k)), (4, .int (nI i))]) hx hb dX1_multiply_24 hl (by decide) rfl (fun ls hl => ?_)
    refine lv_lload hx hb dX1_multiply_26 (lv_at hl 0 rfl) ?_
    refine lv_ldc2 (v := 1000000000) hx hb hown (hts (.constantLong RX1 17 1000000000) (by decide +kernel)) dX1_multiply_28 ?_
    refine lv_ldiv hx hb dX1_multiply_31 (by decide) ?_
    refine fw_l (x' := lN ((d i * f + k) / 1000000000)) (pk_lDiv (b := 1000000000) hbd (by decide) (by decide)) ?_
    refine lv_lstore_n (lv' := [(2, .long (lN ((d i * f + k) / 1000000000))), (5, .long (lN (d i * f + k))), (0, .ref h0), (1, .int (nI f)), (4, .int (nI i))]) hx hb dX1_multiply_32 rfl hl (by decide) rfl (fun ls hl => ?_)
    refine lv_aload_n hx hb dX1_multiply_33 rfl (lv_at hl 2 rfl) ?_
    refine va_get (D := (dC, dI)) (ci := 1) (v := .ref a0) (C := RX1) (T := TX1) (N := 1) hx hb hts (by decide +kernel) hown hK hP 0 rfl rfl 0 (by decide) (hts (.fieldLink RX1 11 "FlakyBounds$Decimal" "parts" "[J") (by decide +kernel)) (fun _ h9 => h9) rfl dX1_multiply_34 ?_
    refine lv_iload hx hb dX1_multiply_37 (lv_at hl 4 rfl) ?_
    refine lv_lload hx hb dX1_multiply_39 (lv_at hl 1 rfl) ?_
    refine lv_lload_n hx hb dX1_multiply_41 rfl (lv_at hl 0 rfl) ?_
    refine lv_ldc2 (v := 1000000000) hx hb hown (hts (.constantLong RX1 17 1000000000) (by decide +kernel)) dX1_multiply_42 ?_
    refine lv_lmul hx hb dX1_multiply_45 ?_
    refine fw_l (x' := lN ((d i * f + k) / 1000000000 * 1000000000)) (lN_mul _ 1000000000) ?_
    refine lv_lsub hx hb dX1_multiply_46 ?_
    refine fw_l (x' := lN ((d i * f + k) % 1000000000)) (lN_md _ _) ?_
    refine va_last hx hb hK hP hD hS 1 0 rfl rfl (vp_in_nI (by omega) (by decide)) dX1_multiply_47 (fun H locs hP hD hS => ?_)
    have e_st : vp_updL (fun j => lN (d2 j)) (nI i).toNatClampNeg (lN ((d i * f + k) % 1000000000)) = fun j => lN (va_up d2 i ((d i * f + k) % 1000000000) j) := by rw [nI_clamp (by omega)]; exact lN_st _ _ _
    rw [e_st] at hP hD
    have hP : va_P (dC, dI) vwCl [(h0, .inr (1, [.ref a0])), (a0, .inl (cJ, 17, .inr (.inl (fun j => lN (va_up d2 i ((d i * f + k) % 1000000000) j)))))] H := hP
    have hD : va_D A [(h0, .inr (1, [.ref a0])), (a0, .inl (cJ, 17, .inr (.inl (fun j => lN (va_up d2 i ((d i * f + k) % 1000000000) j)))))] := hD
    refine lv_iinc (v := nI (i + 1)) (lv' := [(4, .int (nI (i + 1))), (2, .long (lN ((d i * f + k) / 1000000000))), (5, .long (lN (d i * f + k))), (0, .ref h0), (1, .int (nI f))]) hx hb dX1_multiply_48 hl (k := 4) rfl (nI_1 i) (by decide) rfl (fun ls hl => ?_)
    refine lv_goto (tgt := 5) hx hb dX1_multiply_51 (by decide) ?_
    have hI2 := pd_mulI hlt hd hf hk hlo hv hc
    exact ih_5 _ (i + 1, (d i * f + k) / 1000000000, va_up d2 i ((d i * f + k) % 1000000000)) _ _ _ (by omega) ⟨rfl, by omega, hI2.1, hI2.2.1, hI2.2.2.1, hI2.2.2.2, hP.sub [0, 1] rfl, hD.sub [0, 1] (by decide) rfl, hS, lv_sub hl [3, 4, 1, 0] rfl⟩
set_option maxHeartbeats 4000000 in
set_option maxRecDepth 100000 in
theorem c_dec_div (l : Launch) (dC : Nat → ClassId) (dI : Nat → Nat → Nat) (h0 a0 : Nat) (cJ : ClassId) (d : Nat → Nat) (k : Nat) (sz : Nat) (hd : pd_ok d) (hk1 : 1 ≤ k) (hk48 : k ≤ 48) : Met l yX1_divide wsX1_divide ({ frames := 0, cells := 0, slots := 0, locals := 0 } : Room) (va_Pc [.ref h0, .int (nI k)] (fw_pW (dC, dI) vwCl [(cJ, .long)] [(h0, .inr (1, [.ref a0])), (a0, .inl (cJ, 17, .inr (.inl (fun j => lN (d j)))))] sz)) (va_Qv (S := Nat → Nat) (fun d2 => pd_ok d2 ∧ pd_v d2 17 = pd_v d 17 / k) (fun u t => fw_q (dC, dI) vwCl [(cJ, .long)] (va_A [(h0, .inr (1, [.ref a0])), (a0, .inl (cJ, 17, .inr (.inl (fun j => lN (d j)))))] sz) [(h0, .inr (1, [.ref a0])), (a0, .inl (cJ, 17, .inr (.inl (fun j => lN (u j)))))] t) (va_A [(h0, .inr (1, [.ref a0])), (a0, .inl (cJ, 17, .inr (.inl (fun j => lN (d j)))))] sz)) 0 0 (va_A [(h0, .inr (1, [.ref a0])), (a0, .inl (cJ, 17, .inr (.inl (fun j => lN (d j)))))] sz) := by
  refine fw_metW (cc := cX1_divide) (maxL := 7) (ret := none) (by decide) rfl (Nat.le_of_ble_eq_true rfl) ?_
  intro zp ze zs zm zbelow zmeth zc ls hx hb hr hts hown hlocks hml hin hN hsz hP hK hD hA hS hl
  generalize hAe : (va_A [(h0, .inr (1, [.ref a0])), (a0, .inl (cJ, 17, .inr (.inl (fun j => lN (d j)))))] sz) = A at hD hA hS ⊢
  have hown : zs.vm.findClass RX1 = some zm.cls := hown
  have hl : lv_has ls 7 [(0, .ref h0), (1, .int (nI k))] := hl
  refine lv_iload_n hx hb dX1_divide_0 rfl (lv_at hl 1 rfl) ?_
  refine lv_if_gt (tgt := 5) hx hb dX1_divide_1 (by decide) (fun _ => ?_) (fun c_1 => absurd (nI_lt (a := 0) (b := k) (by omega) (by omega)) c_1)
  refine lv_lconst (v := 0) hx hb dX1_divide_5 (by decide) ?_
  refine lv_lstore_n (lv' := [(2, .long 0), (0, .ref h0), (1, .int (nI k))]) hx hb dX1_divide_6 rfl hl (by decide) rfl (fun ls hl => ?_)
  refine lv_bipush (v := 16) hx hb dX1_divide_7 (by decide) ?_
  refine lv_istore (lv' := [(4, .int 16), (2, .long 0), (0, .ref h0), (1, .int (nI k))]) hx hb dX1_divide_9 hl (by decide) rfl (fun ls hl => ?_)
  refine fw_loop (σ := Nat × Nat × Int32 × (Nat → Nat)) (I := fun zn u H locs ls => match u with | (t, w, x, d2) => zn = t ∧ (t ≤ 17) ∧ (x = nI t + (-1)) ∧ (pd_h d (17 - t) = k * pd_h d2 (17 - t) + w) ∧ (w < k) ∧ (∀ j, j < t → d2 j = d j) ∧ (∀ j, t ≤ j → j < 17 → d2 j < 1000000000) ∧ va_P (dC, dI) vwCl [(h0, .inr (1, [.ref a0])), (a0, .inl (cJ, 17, .inr (.inl (fun j => lN (d2 j)))))] H ∧ va_D A [(h0, .inr (1, [.ref a0])), (a0, .inl (cJ, 17, .inr (.inl (fun j => lN (d2 j)))))] ∧ va_S A zs.heap H locs ∧ lv_has ls 7 [(0, .ref h0), (1, .int (nI k)), (2, .long (lN w)), (4, .int x)]) ?_ _ (17, 0, 16, d) _ _ _ ⟨rfl, by omega, by decide, rfl, by omega, fun _ _ => rfl, fun j h1 h2 => by omega,  hP.sub [0, 1] rfl, hD.sub [0, 1] (by decide) rfl, hS, lv_sub hl [2, 3, 1, 0] rfl⟩
  intro zn u H locs ls hI ih_11
  obtain ⟨t, w, x, d2⟩ := u
  obtain ⟨hzn, ht, ex, hv, hw, heq, hok, hP, hD, hS, hl⟩ := hI
  refine lv_iload hx hb dX1_divide_11 (lv_at hl 3 rfl) ?_
  refine lv_if_lt (tgt := 63) hx hb dX1_divide_13 (by decide) (fun c_13 => ?_) (fun c_13 => ?_)
  · -- then 13
    have ht0 : t = 0 := by
      rcases Nat.eq_zero_or_pos t with q | q
      · exact q
      · obtain ⟨i, rfl⟩ : ∃ i, t = i + 1 := ⟨t - 1, by omega⟩
        rw [pk_m1] at ex
        rw [ex] at c_13
        exact absurd c_13 (nI_pos (by omega))
    subst ht0
    have hP9 := hP.sub (ws' := [(h0, .inr (1, [.ref a0])), (a0, .inl (cJ, 17, .inr (.inl (fun j => lN (d2 j)))))]) [0, 1] rfl
    have hD9 := hD.sub (ws' := [(h0, .inr (1, [.ref a0])), (a0, .inl (cJ, 17, .inr (.inl (fun j => lN (d2 j)))))]) [0, 1] (by decide) rfl
    have hK9 := hK.sub (tys' := [(cJ, .long)]) [0] rfl
    exact W.vret hx hb hr (fun zt zht hW => ⟨⟨d2, rfl, ⟨fun j hj => hok j (Nat.zero_le j) hj, pd_divE hv hw⟩, by rw [zht]; exact hP9, va_K.moved hW.alike hK9, hD9⟩, hS.F zht⟩) hS.2.2 dX1_divide_63 hlocks
  · -- else 13
    obtain ⟨i, rfl⟩ : ∃ i, t = i + 1 := by
      rcases Nat.eq_zero_or_pos t with q | q
      · subst q
        exact absurd (by rw [ex]; decide) c_13
      · exact ⟨t - 1, by omega⟩
    rw [pk_m1] at ex
    subst ex
    have hbd : w * 1000000000 + d i < 2 ^ 63 := by
      have h1 := hd i (by omega)
      omega
    refine lv_lload_n hx hb dX1_divide_16 rfl (lv_at hl 2 rfl) ?_
    refine lv_ldc2 (v := 1000000000) hx hb hown (hts (.constantLong RX1 17 1000000000) (by decide +kernel)) dX1_divide_17 ?_
    refine lv_lmul hx hb dX1_divide_20 ?_
    refine fw_l (x' := lN (w * 1000000000)) (lN_mul _ 1000000000) ?_
    refine lv_aload_n hx hb dX1_divide_21 rfl (lv_at hl 0 rfl) ?_
    refine va_get (D := (dC, dI)) (ci := 1) (v := .ref a0) (C := RX1) (T := TX1) (N := 1) hx hb hts (by decide +kernel) hown hK hP 0 rfl rfl 0 (by decide) (hts (.fieldLink RX1 11 "FlakyBounds$Decimal" "parts" "[J") (by decide +kernel)) (fun _ h9 => h9) rfl dX1_divide_22 ?_
    refine lv_iload hx hb dX1_divide_25 (lv_at hl 3 rfl) ?_
    refine va_lald hx hb hK hP 1 0 rfl rfl (vp_in_nI (by omega) (by decide)) dX1_divide_27 ?_
    refine fw_l (x' := lN (d i)) (by rw [nI_clamp (by omega)]; show lN (d2 i) = _; rw [heq i (by omega)]) ?_
    refine lv_ladd hx hb dX1_divide_28 ?_
    refine fw_l (x' := lN (w * 1000000000 + d i)) (lN_add _ _) ?_
    refine lv_lstore (lv' := [(5, .long (lN (w * 1000000000 + d i))), (0, .ref h0), (1, .int (nI k)), (2, .long (lN w)), (4, .int (nI i))]) hx hb dX1_divide_29 hl (by decide) rfl (fun ls hl => ?_)
    refine lv_aload_n hx hb dX1_divide_31 rfl (lv_at hl 1 rfl) ?_
    refine va_get (D := (dC, dI)) (ci := 1) (v := .ref a0) (C := RX1) (T := TX1) (N := 1) hx hb hts (by decide +kernel) hown hK hP 0 rfl rfl 0 (by decide) (hts (.fieldLink RX1 11 "FlakyBounds$Decimal" "parts" "[J") (by decide +kernel)) (fun _ h9 => h9) rfl dX1_divide_32 ?_
    refine lv_iload hx hb dX1_divide_35 (lv_at hl 4 rfl) ?_
    refine lv_lload hx hb dX1_divide_37 (lv_at hl 0 rfl) ?_
    refine lv_iload_n hx hb dX1_divide_39 rfl (lv_at hl 2 rfl) ?_
    refine lv_i2l (v := lN k) hx hb dX1_divide_40 (nI_l (by omega)) ?_
    refine lv_ldiv hx hb dX1_divide_41 (fun h => by have := (pk_lEQ (a := k) (b := 0) (by omega) (by omega)).mp h; omega) ?_
    refine fw_l (x' := lN ((w * 1000000000 + d i) / k)) (pk_lDiv hbd (by omega) (by omega)) ?_
    refine va_last hx hb hK hP hD hS 1 0 rfl rfl (vp_in_nI (by omega) (by decide)) dX1_divide_42 (fun H locs hP hD hS => ?_)
    have e_st : vp_updL (fun j => lN (d2 j)) (nI i).toNatClampNeg (lN ((w * 1000000000 + d i) / k)) = fun j => lN (va_up d2 i ((w * 1000000000 + d i) / k) j) := by rw [nI_clamp (by omega)]; exact lN_st _ _ _
    rw [e_st] at hP hD
    have hP : va_P (dC, dI) vwCl [(h0, .inr (1, [.ref a0])), (a0, .inl (cJ, 17, .inr (.inl (fun j => lN (va_up d2 i ((w * 1000000000 + d i) / k) j)))))] H := hP
    have hD : va_D A [(h0, .inr (1, [.ref a0])), (a0, .inl (cJ, 17, .inr (.inl (fun j => lN (va_up d2 i ((w * 1000000000 + d i) / k) j)))))] := hD
    refine lv_lload hx hb dX1_divide_43 (lv_at hl 0 rfl) ?_
    refine lv_aload_n hx hb dX1_divide_45 rfl (lv_at hl 1 rfl) ?_
    refine va_get (D := (dC, dI)) (ci := 1) (v := .ref a0) (C := RX1) (T := TX1) (N := 1) hx hb hts (by decide +kernel) hown hK hP 0 rfl rfl 0 (by decide) (hts (.fieldLink RX1 11 "FlakyBounds$Decimal" "parts" "[J") (by decide +kernel)) (fun _ h9 => h9) rfl dX1_divide_46 ?_
    refine lv_iload hx hb dX1_divide_49 (lv_at hl 4 rfl) ?_
    refine va_lald hx hb hK hP 1 0 rfl rfl (vp_in_nI (by omega) (by decide)) dX1_divide_51 ?_
    refine fw_l (x' := lN ((w * 1000000000 + d i) / k)) (by rw [nI_clamp (by omega)]; show lN (va_up d2 i _ i) = _; rw [va_up_self]) ?_
    refine lv_iload_n hx hb dX1_divide_52 rfl (lv_at hl 2 rfl) ?_
    refine lv_i2l (v := lN k) hx hb dX1_divide_53 (nI_l (by omega)) ?_
    refine lv_lmul hx hb dX1_divide_54 ?_
    refine fw_l (x' := lN ((w * 1000000000 + d i) / k * k)) (lN_mul _ _) ?_
    refine lv_lsub hx hb dX1_divide_55 ?_
    refine fw_l (x' := lN ((w * 1000000000 + d i) % k)) (lN_md _ _) ?_
    refine lv_lstore_n (lv' := [(2, .long (lN ((w * 1000000000 + d i) % k))), (5, .long (lN (w * 1000000000 + d i))), (0, .ref h0), (1, .int (nI k)), (4, .int (nI i))]) hx hb dX1_divide_56 rfl hl (by decide) rfl (fun ls hl => ?_)
    refine lv_iinc (v := nI i + (-1)) (lv' := [(4, .int (nI i + (-1))), (2, .long (lN ((w * 1000000000 + d i) % k))), (5, .long (lN (w * 1000000000 + d i))), (0, .ref h0), (1, .int (nI k))]) hx hb dX1_divide_57 hl (k := 4) rfl (rfl) (by decide) rfl (fun ls hl => ?_)
    refine lv_goto (tgt := 11) hx hb dX1_divide_60 (by decide) ?_
    have hI2 := pd_divI (by omega) hd hk1 hv hw heq hok
    exact ih_11 _ (i, (w * 1000000000 + d i) % k, nI i + (-1), va_up d2 i ((w * 1000000000 + d i) / k)) _ _ _ (by omega) ⟨rfl, by omega, rfl, hI2.1, hI2.2.1, hI2.2.2.1, hI2.2.2.2, hP.sub [0, 1] rfl, hD.sub [0, 1] (by decide) rfl, hS, lv_sub hl [3, 4, 1, 0] rfl⟩
set_option maxHeartbeats 4000000 in
set_option maxRecDepth 100000 in
theorem c_dec_add (l : Launch) (dC : Nat → ClassId) (dI : Nat → Nat → Nat) (h0 a0 h1 a1 : Nat) (cJ : ClassId) (d e : Nat → Nat) (sz : Nat) (hd : pd_ok d) (he : pd_ok e) (hm : pd_v d 17 + pd_v e 17 < 1000000000 ^ 17) : Met l yX1_add wsX1_add ({ frames := 0, cells := 0, slots := 0, locals := 0 } : Room) (va_Pc [.ref h0, .ref h1] (fw_pW (dC, dI) vwCl [(cJ, .long)] [(h0, .inr (1, [.ref a0])), (a0, .inl (cJ, 17, .inr (.inl (fun j => lN (d j))))), (h1, .inr (1, [.ref a1])), (a1, .inl (cJ, 17, .inr (.inl (fun j => lN (e j)))))] sz)) (va_Qv (S := Nat → Nat) (fun d2 => pd_ok d2 ∧ pd_v d2 17 = pd_v d 17 + pd_v e 17) (fun u t => fw_q (dC, dI) vwCl [(cJ, .long)] (va_A [(h0, .inr (1, [.ref a0])), (a0, .inl (cJ, 17, .inr (.inl (fun j => lN (d j))))), (h1, .inr (1, [.ref a1])), (a1, .inl (cJ, 17, .inr (.inl (fun j => lN (e j)))))] sz) [(h0, .inr (1, [.ref a0])), (a0, .inl (cJ, 17, .inr (.inl (fun j => lN (u j))))), (h1, .inr (1, [.ref a1])), (a1, .inl (cJ, 17, .inr (.inl (fun j => lN (e j)))))] t) (va_A [(h0, .inr (1, [.ref a0])), (a0, .inl (cJ, 17, .inr (.inl (fun j => lN (d j))))), (h1, .inr (1, [.ref a1])), (a1, .inl (cJ, 17, .inr (.inl (fun j => lN (e j)))))] sz)) 0 0 (va_A [(h0, .inr (1, [.ref a0])), (a0, .inl (cJ, 17, .inr (.inl (fun j => lN (d j))))), (h1, .inr (1, [.ref a1])), (a1, .inl (cJ, 17, .inr (.inl (fun j => lN (e j)))))] sz) := by
  refine fw_metW (cc := cX1_add) (maxL := 7) (ret := none) (by decide) rfl (Nat.le_of_ble_eq_true rfl) ?_
  intro zp ze zs zm zbelow zmeth zc ls hx hb hr hts hown hlocks hml hin hN hsz hP hK hD hA hS hl
  generalize hAe : (va_A [(h0, .inr (1, [.ref a0])), (a0, .inl (cJ, 17, .inr (.inl (fun j => lN (d j))))), (h1, .inr (1, [.ref a1])), (a1, .inl (cJ, 17, .inr (.inl (fun j => lN (e j)))))] sz) = A at hD hA hS ⊢
  have hown : zs.vm.findClass RX1 = some zm.cls := hown
  have hl : lv_has ls 7 [(0, .ref h0), (1, .ref h1)] := hl
  refine lv_aload_n hx hb dX1_add_0 rfl (lv_at hl 1 rfl) ?_
  refine lv_ifnonnull (tgt := 5) hx hb dX1_add_1 (by decide) ?_
  refine lv_lconst (v := 0) hx hb dX1_add_5 (by decide) ?_
  refine lv_lstore_n (lv' := [(2, .long 0), (0, .ref h0), (1, .ref h1)]) hx hb dX1_add_6 rfl hl (by decide) rfl (fun ls hl => ?_)
  refine lv_iconst (v := 0) hx hb dX1_add_7 (by decide) ?_
  refine lv_istore (lv' := [(4, .int 0), (2, .long 0), (0, .ref h0), (1, .ref h1)]) hx hb dX1_add_8 hl (by decide) rfl (fun ls hl => ?_)
  refine fw_loop (σ := Nat × Nat × (Nat → Nat)) (I := fun zn u H locs ls => match u with | (i, k, d2) => zn = 17 - i ∧ (i ≤ 17) ∧ (∀ j, i ≤ j → d2 j = d j) ∧ (∀ j, j < i → d2 j < 1000000000) ∧ (pd_v d2 i + k * 1000000000 ^ i = pd_v d i + pd_v e i) ∧ (k ≤ 1) ∧ va_P (dC, dI) vwCl [(h0, .inr (1, [.ref a0])), (a0, .inl (cJ, 17, .inr (.inl (fun j => lN (d2 j))))), (h1, .inr (1, [.ref a1])), (a1, .inl (cJ, 17, .inr (.inl (fun j => lN (e j)))))] H ∧ va_D A [(h0, .inr (1, [.ref a0])), (a0, .inl (cJ, 17, .inr (.inl (fun j => lN (d2 j))))), (h1, .inr (1, [.ref a1])), (a1, .inl (cJ, 17, .inr (.inl (fun j => lN (e j)))))] ∧ va_S A zs.heap H locs ∧ lv_has ls 7 [(0, .ref h0), (1, .ref h1), (2, .long (lN k)), (4, .int (nI i))]) ?_ _ (0, 0, d) _ _ _ ⟨rfl, by omega, fun _ _ => rfl, fun j hj => by omega, by simp [pd_v0], by omega,  hP.sub [0, 1, 2, 3] rfl, hD.sub [0, 1, 2, 3] (by decide) rfl, hS, lv_sub hl [2, 3, 1, 0] rfl⟩
  intro zn u H locs ls hI ih_10
  obtain ⟨i, k, d2⟩ := u
  obtain ⟨hzn, hi, hk, hlo, hv, hc, hP, hD, hS, hl⟩ := hI
  refine lv_iload hx hb dX1_add_10 (lv_at hl 3 rfl) ?_
  refine lv_bipush (v := 17) hx hb dX1_add_12 (by decide) ?_
  refine lv_icmp_ge (tgt := 72) hx hb dX1_add_14 (by decide) (fun c_14 => ?_) (fun c_14 => ?_)
  · -- then 14
    have hi17 : i = 17 := by have := (nI_leI (a := 17) (b := i) (by decide) (by omega)).mp c_14; omega
    subst hi17
    have hP9 := hP.sub (ws' := [(h0, .inr (1, [.ref a0])), (a0, .inl (cJ, 17, .inr (.inl (fun j => lN (d2 j))))), (h1, .inr (1, [.ref a1])), (a1, .inl (cJ, 17, .inr (.inl (fun j => lN (e j)))))]) [0, 1, 2, 3] rfl
    have hD9 := hD.sub (ws' := [(h0, .inr (1, [.ref a0])), (a0, .inl (cJ, 17, .inr (.inl (fun j => lN (d2 j))))), (h1, .inr (1, [.ref a1])), (a1, .inl (cJ, 17, .inr (.inl (fun j => lN (e j)))))]) [0, 1, 2, 3] (by decide) rfl
    have hK9 := hK.sub (tys' := [(cJ, .long)]) [0] rfl
    exact W.vret hx hb hr (fun zt zht hW => ⟨⟨d2, rfl, ⟨fun j hj => hlo j hj, pd_top hv hm⟩, by rw [zht]; exact hP9, va_K.moved hW.alike hK9, hD9⟩, hS.F zht⟩) hS.2.2 dX1_add_72 hlocks
  · -- else 14
    have hlt : i < 17 := by
      rcases Nat.lt_or_ge i 17 with q | q
      · exact q
      · exact absurd (nI_le (a := 17) (b := i) q (by omega)) c_14
    have hd1 := hd i hlt
    have he1 := he i hlt
    refine lv_aload_n hx hb dX1_add_17 rfl (lv_at hl 0 rfl) ?_
    refine va_get (D := (dC, dI)) (ci := 1) (v := .ref a0) (C := RX1) (T := TX1) (N := 1) hx hb hts (by decide +kernel) hown hK hP 0 rfl rfl 0 (by decide) (hts (.fieldLink RX1 11 "FlakyBounds$Decimal" "parts" "[J") (by decide +kernel)) (fun _ h9 => h9) rfl dX1_add_18 ?_
    refine lv_iload hx hb dX1_add_21 (lv_at hl 3 rfl) ?_
    refine va_lald hx hb hK hP 1 0 rfl rfl (vp_in_nI (by omega) (by decide)) dX1_add_23 ?_
    refine fw_l (x' := lN (d i)) (by rw [nI_clamp (by omega)]; show lN (d2 i) = _; rw [hk i (Nat.le_refl i)]) ?_
    refine lv_aload_n hx hb dX1_add_24 rfl (lv_at hl 1 rfl) ?_
    refine va_get (D := (dC, dI)) (ci := 1) (v := .ref a1) (C := RX1) (T := TX1) (N := 1) hx hb hts (by decide +kernel) hown hK hP 2 rfl rfl 0 (by decide) (hts (.fieldLink RX1 11 "FlakyBounds$Decimal" "parts" "[J") (by decide +kernel)) (fun _ h9 => h9) rfl dX1_add_25 ?_
    refine lv_iload hx hb dX1_add_28 (lv_at hl 3 rfl) ?_
    refine va_lald hx hb hK hP 3 0 rfl rfl (vp_in_nI (by omega) (by decide)) dX1_add_30 ?_
    refine fw_l (x' := lN (e i)) (by rw [nI_clamp (by omega)]) ?_
    refine lv_ladd hx hb dX1_add_31 ?_
    refine fw_l (x' := lN (d i + e i)) (lN_add _ _) ?_
    refine lv_lload_n hx hb dX1_add_32 rfl (lv_at hl 2 rfl) ?_
    refine lv_ladd hx hb dX1_add_33 ?_
    refine fw_l (x' := lN (d i + e i + k)) (lN_add _ _) ?_
    refine lv_lstore (lv' := [(5, .long (lN (d i + e i + k))), (0, .ref h0), (1, .ref h1), (2, .long (lN k)), (4, .int (nI i))]) hx hb dX1_add_34 hl (by decide) rfl (fun ls hl => ?_)
    refine lv_lload hx hb dX1_add_36 (lv_at hl 0 rfl) ?_
    refine lv_ldc2 (v := 1000000000) hx hb hown (hts (.constantLong RX1 17 1000000000) (by decide +kernel)) dX1_add_38 ?_
    refine W.lcmp hx hb dX1_add_41 ?_
    refine lv_if_lt (tgt := 49) hx hb dX1_add_42 (by decide) (fun c_42 => ?_) (fun c_42 => ?_)
    · -- then 42
      have hlt2 : d i + e i + k < 1000000000 := (pk_lLT (b := 1000000000) (by omega) (by decide)).mp ((lg_cmp_lt _ _).mp c_42)
      refine lv_lconst (v := 0) hx hb dX1_add_49 (by decide) ?_
      refine fw_l (x' := lN 0) (rfl) ?_
      refine lv_lstore_n (lv' := [(2, .long (lN 0)), (5, .long (lN (d i + e i + k))), (0, .ref h0), (1, .ref h1), (4, .int (nI i))]) hx hb dX1_add_50 rfl hl (by decide) rfl (fun ls hl => ?_)
      refine lv_aload_n hx hb dX1_add_51 rfl (lv_at hl 2 rfl) ?_
      refine va_get (D := (dC, dI)) (ci := 1) (v := .ref a0) (C := RX1) (T := TX1) (N := 1) hx hb hts (by decide +kernel) hown hK hP 0 rfl rfl 0 (by decide) (hts (.fieldLink RX1 11 "FlakyBounds$Decimal" "parts" "[J") (by decide +kernel)) (fun _ h9 => h9) rfl dX1_add_52 ?_
      refine lv_iload hx hb dX1_add_55 (lv_at hl 4 rfl) ?_
      refine lv_lload hx hb dX1_add_57 (lv_at hl 1 rfl) ?_
      refine lv_lload_n hx hb dX1_add_59 rfl (lv_at hl 0 rfl) ?_
      refine lv_ldc2 (v := 1000000000) hx hb hown (hts (.constantLong RX1 17 1000000000) (by decide +kernel)) dX1_add_60 ?_
      refine lv_lmul hx hb dX1_add_63 ?_
      refine fw_l (x' := lN 0) (lN_mul 0 1000000000) ?_
      refine lv_lsub hx hb dX1_add_64 ?_
      refine fw_l (x' := lN (d i + e i + k)) (lN_s0 _) ?_
      refine va_last hx hb hK hP hD hS 1 0 rfl rfl (vp_in_nI (by omega) (by decide)) dX1_add_65 (fun H locs hP hD hS => ?_)
      have e_st : vp_updL (fun j => lN (d2 j)) (nI i).toNatClampNeg (lN (d i + e i + k)) = fun j => lN (va_up d2 i (d i + e i + k) j) := by rw [nI_clamp (by omega)]; exact lN_st _ _ _
      rw [e_st] at hP hD
      have hP : va_P (dC, dI) vwCl [(h0, .inr (1, [.ref a0])), (a0, .inl (cJ, 17, .inr (.inl (fun j => lN (va_up d2 i (d i + e i + k) j))))), (h1, .inr (1, [.ref a1])), (a1, .inl (cJ, 17, .inr (.inl (fun j => lN (e j)))))] H := hP
      have hD : va_D A [(h0, .inr (1, [.ref a0])), (a0, .inl (cJ, 17, .inr (.inl (fun j => lN (va_up d2 i (d i + e i + k) j))))), (h1, .inr (1, [.ref a1])), (a1, .inl (cJ, 17, .inr (.inl (fun j => lN (e j)))))] := hD
      refine lv_iinc (v := nI (i + 1)) (lv' := [(4, .int (nI (i + 1))), (2, .long (lN 0)), (5, .long (lN (d i + e i + k))), (0, .ref h0), (1, .ref h1)]) hx hb dX1_add_66 hl (k := 4) rfl (nI_1 i) (by decide) rfl (fun ls hl => ?_)
      refine lv_goto (tgt := 10) hx hb dX1_add_69 (by decide) ?_
      have hI2 := pd_addI (r := (d i + e i + k)) (k2 := 0) hlt hk hlo hv (by simp) hlt2
      exact ih_10 _ (i + 1, 0, va_up d2 i (d i + e i + k)) _ _ _ (by omega) ⟨rfl, by omega, hI2.1, hI2.2.1, hI2.2.2, by omega, hP.sub [0, 1, 2, 3] rfl, hD.sub [0, 1, 2, 3] (by decide) rfl, hS, lv_sub hl [3, 4, 1, 0] rfl⟩
    · -- else 42
      have hge2 : 1000000000 ≤ d i + e i + k := by
        rcases Nat.lt_or_ge (d i + e i + k) 1000000000 with q | q
        · exact absurd ((lg_cmp_lt _ _).mpr ((pk_lLT (b := 1000000000) (by omega) (by decide)).mpr q)) c_42
        · exact q
      refine lv_lconst (v := 1) hx hb dX1_add_45 (by decide) ?_
      refine fw_l (x' := lN 1) (rfl) ?_
      refine lv_goto (tgt := 50) hx hb dX1_add_46 (by decide) ?_
      refine lv_lstore_n (lv' := [(2, .long (lN 1)), (5, .long (lN (d i + e i + k))), (0, .ref h0), (1, .ref h1), (4, .int (nI i))]) hx hb dX1_add_50 rfl hl (by decide) rfl (fun ls hl => ?_)
      refine lv_aload_n hx hb dX1_add_51 rfl (lv_at hl 2 rfl) ?_
      refine va_get (D := (dC, dI)) (ci := 1) (v := .ref a0) (C := RX1) (T := TX1) (N := 1) hx hb hts (by decide +kernel) hown hK hP 0 rfl rfl 0 (by decide) (hts (.fieldLink RX1 11 "FlakyBounds$Decimal" "parts" "[J") (by decide +kernel)) (fun _ h9 => h9) rfl dX1_add_52 ?_
      refine lv_iload hx hb dX1_add_55 (lv_at hl 4 rfl) ?_
      refine lv_lload hx hb dX1_add_57 (lv_at hl 1 rfl) ?_
      refine lv_lload_n hx hb dX1_add_59 rfl (lv_at hl 0 rfl) ?_
      refine lv_ldc2 (v := 1000000000) hx hb hown (hts (.constantLong RX1 17 1000000000) (by decide +kernel)) dX1_add_60 ?_
      refine lv_lmul hx hb dX1_add_63 ?_
      refine fw_l (x' := lN 1000000000) (lN_mul 1 1000000000) ?_
      refine lv_lsub hx hb dX1_add_64 ?_
      refine fw_l (x' := lN ((d i + e i + k) - 1000000000)) (lN_sub hge2) ?_
      refine va_last hx hb hK hP hD hS 1 0 rfl rfl (vp_in_nI (by omega) (by decide)) dX1_add_65 (fun H locs hP hD hS => ?_)
      have e_st : vp_updL (fun j => lN (d2 j)) (nI i).toNatClampNeg (lN ((d i + e i + k) - 1000000000)) = fun j => lN (va_up d2 i ((d i + e i + k) - 1000000000) j) := by rw [nI_clamp (by omega)]; exact lN_st _ _ _
      rw [e_st] at hP hD
      have hP : va_P (dC, dI) vwCl [(h0, .inr (1, [.ref a0])), (a0, .inl (cJ, 17, .inr (.inl (fun j => lN (va_up d2 i ((d i + e i + k) - 1000000000) j))))), (h1, .inr (1, [.ref a1])), (a1, .inl (cJ, 17, .inr (.inl (fun j => lN (e j)))))] H := hP
      have hD : va_D A [(h0, .inr (1, [.ref a0])), (a0, .inl (cJ, 17, .inr (.inl (fun j => lN (va_up d2 i ((d i + e i + k) - 1000000000) j))))), (h1, .inr (1, [.ref a1])), (a1, .inl (cJ, 17, .inr (.inl (fun j => lN (e j)))))] := hD
      refine lv_iinc (v := nI (i + 1)) (lv' := [(4, .int (nI (i + 1))), (2, .long (lN 1)), (5, .long (lN (d i + e i + k))), (0, .ref h0), (1, .ref h1)]) hx hb dX1_add_66 hl (k := 4) rfl (nI_1 i) (by decide) rfl (fun ls hl => ?_)
      refine lv_goto (tgt := 10) hx hb dX1_add_69 (by decide) ?_
      have hI2 := pd_addI (r := ((d i + e i + k) - 1000000000)) (k2 := 1) hlt hk hlo hv (by omega) (by omega)
      exact ih_10 _ (i + 1, 1, va_up d2 i ((d i + e i + k) - 1000000000)) _ _ _ (by omega) ⟨rfl, by omega, hI2.1, hI2.2.1, hI2.2.2, by omega, hP.sub [0, 1, 2, 3] rfl, hD.sub [0, 1, 2, 3] (by decide) rfl, hS, lv_sub hl [3, 4, 1, 0] rfl⟩
set_option maxHeartbeats 4000000 in
set_option maxRecDepth 100000 in
theorem c_dec_above (l : Launch) (dC : Nat → ClassId) (dI : Nat → Nat → Nat) (h0 a0 : Nat) (cJ : ClassId) (d : Nat → Nat) (t : Nat) (hd : pd_ok d) (ht9 : t ≤ 999) : Met l yX1_isAbove wsX1_isAbove ({ frames := 0, cells := 0, slots := 0, locals := 0 } : Room) (va_Pc [.ref h0, .int (nI t)] (fw_pR (dC, dI) vwCl [(cJ, .long)] [(h0, .inr (1, [.ref a0])), (a0, .inl (cJ, 17, .inr (.inl (fun j => lN (d j)))))])) (vp_Si (fun r => r = zI (decide (t * 1000000 * 1000000000 ^ 15 < pd_v d 17)))) 0 0 (fun _ => False) := by
  refine fw_metR (cc := cX1_isAbove) (maxL := 7) (ret := (some .boolean)) (by decide) rfl (Nat.le_of_ble_eq_true rfl) ?_
  intro zp ze zs zm zbelow zmeth zc ls hx hb hr hts hown hlocks hml hin hN hP hK hl
  have hown : zs.vm.findClass RX1 = some zm.cls := hown
  have hl : lv_has ls 7 [(0, .ref h0), (1, .int (nI t))] := hl
  have hp15 := pd_15 d
  have hl15 := pd_lt (d := d) 15 (fun j hj => hd j (by omega))
  have h15 := hd 15 (by decide)
  have h16 := hd 16 (by decide)
  refine lv_aload_n hx hb dX1_isAbove_0 rfl (lv_at hl 0 rfl) ?_
  refine va_get (D := (dC, dI)) (ci := 1) (v := .ref a0) (C := RX1) (T := TX1) (N := 1) hx hb hts (by decide +kernel) hown hK hP 0 rfl rfl 0 (by decide) (hts (.fieldLink RX1 11 "FlakyBounds$Decimal" "parts" "[J") (by decide +kernel)) (fun _ h9 => h9) rfl dX1_isAbove_1 ?_
  refine lv_bipush (v := 16) hx hb dX1_isAbove_4 (by decide) ?_
  refine va_lald hx hb hK hP 1 0 rfl rfl (vp_in_nI (n := 16) (by decide) (by decide)) dX1_isAbove_6 ?_
  refine fw_l (x' := lN (d 16)) (congrArg (fun z => lN (d z)) (show (16 : Int32).toNatClampNeg = 16 by decide)) ?_
  refine lv_lconst (v := 0) hx hb dX1_isAbove_7 (by decide) ?_
  refine W.lcmp hx hb dX1_isAbove_8 ?_
  refine lv_if_le (tgt := 14) hx hb dX1_isAbove_9 (by decide) (fun c_9 => ?_) (fun c_9 => ?_)
  · -- then 9
    have h160 : d 16 = 0 := by have := (pk_lLE (a := d 16) (b := 0) (by omega) (by decide)).mp ((lg_cmp_le _ _).mp c_9); omega
    rw [h160] at hp15
    refine lv_aload_n hx hb dX1_isAbove_14 rfl (lv_at hl 0 rfl) ?_
    refine va_get (D := (dC, dI)) (ci := 1) (v := .ref a0) (C := RX1) (T := TX1) (N := 1) hx hb hts (by decide +kernel) hown hK hP 0 rfl rfl 0 (by decide) (hts (.fieldLink RX1 11 "FlakyBounds$Decimal" "parts" "[J") (by decide +kernel)) (fun _ h9 => h9) rfl dX1_isAbove_15 ?_
    refine lv_bipush (v := 15) hx hb dX1_isAbove_18 (by decide) ?_
    refine va_lald hx hb hK hP 1 0 rfl rfl (vp_in_nI (n := 15) (by decide) (by decide)) dX1_isAbove_20 ?_
    refine fw_l (x' := lN (d 15)) (congrArg (fun z => lN (d z)) (show (15 : Int32).toNatClampNeg = 15 by decide)) ?_
    refine lv_lstore_n (lv' := [(2, .long (lN (d 15))), (0, .ref h0), (1, .int (nI t))]) hx hb dX1_isAbove_21 rfl hl (by decide) rfl (fun ls hl => ?_)
    refine lv_iload_n hx hb dX1_isAbove_22 rfl (lv_at hl 2 rfl) ?_
    refine lv_i2l (v := lN t) hx hb dX1_isAbove_23 (nI_l (by omega)) ?_
    refine lv_ldc2 (v := 1000000) hx hb hown (hts (.constantLong RX1 19 1000000) (by decide +kernel)) dX1_isAbove_24 ?_
    refine lv_lmul hx hb dX1_isAbove_27 ?_
    refine fw_l (x' := lN (t * 1000000)) (lN_mul _ 1000000) ?_
    refine lv_lstore (lv' := [(4, .long (lN (t * 1000000))), (2, .long (lN (d 15))), (0, .ref h0), (1, .int (nI t))]) hx hb dX1_isAbove_28 hl (by decide) rfl (fun ls hl => ?_)
    refine lv_lload_n hx hb dX1_isAbove_30 rfl (lv_at hl 1 rfl) ?_
    refine lv_lload hx hb dX1_isAbove_31 (lv_at hl 0 rfl) ?_
    refine W.lcmp hx hb dX1_isAbove_33 ?_
    refine lv_if_eq (tgt := 50) hx hb dX1_isAbove_34 (by decide) (fun c_34 => ?_) (fun c_34 => ?_)
    · -- then 34
      have heq : d 15 = t * 1000000 := (pk_lEQ (by omega) (by omega)).mp ((lg_cmp_eq _ _).mp c_34)
      refine lv_iconst (v := 0) hx hb dX1_isAbove_50 (by decide) ?_
      refine lv_istore (lv' := [(6, .int 0), (4, .long (lN (t * 1000000))), (2, .long (lN (d 15))), (0, .ref h0), (1, .int (nI t))]) hx hb dX1_isAbove_51 hl (by decide) rfl (fun ls hl => ?_)
      refine fw_loopR (σ := Nat) (I := fun zn u ls => match u with | i => zn = 15 - i ∧ (i ≤ 15) ∧ (∀ j, j < i → d j = 0) ∧ lv_has ls 7 [(0, .ref h0), (6, .int (nI i))]) ?_ _ 0 _ ⟨rfl, by omega, fun j hj => by omega, lv_sub hl [3, 0] rfl⟩
      intro zn i ls hI ih_53
      obtain ⟨hzn, hi, hz, hl⟩ := hI
      refine lv_iload hx hb dX1_isAbove_53 (lv_at hl 1 rfl) ?_
      refine lv_bipush (v := 15) hx hb dX1_isAbove_55 (by decide) ?_
      refine lv_icmp_ge (tgt := 80) hx hb dX1_isAbove_57 (by decide) (fun c_57 => ?_) (fun c_57 => ?_)
      · -- then 57
        have hi15 : i = 15 := by have := (nI_leI (a := 15) (b := i) (by decide) (by omega)).mp c_57; omega
        subst hi15
        refine lv_iconst (v := 0) hx hb dX1_isAbove_80 (by decide) ?_
        have h1 := pd_0 d 15 hz
        have hfin : decide (t * 1000000 * 1000000000 ^ 15 < pd_v d 17) = false := decide_eq_false (by rw [hp15, heq, h1]; omega)
        exact W.zret (v := 0) (ty := .boolean) hx hb hr rfl (fun zt zht _ => ⟨0, rfl, by rw [hfin, zI_f], zht⟩) (fun q h => by cases h) dX1_isAbove_81 hlocks
      · -- else 57
        have hlt : i < 15 := by
          rcases Nat.lt_or_ge i 15 with q | q
          · exact q
          · exact absurd (nI_le (a := 15) (b := i) q (by omega)) c_57
        have hdi := hd i (by omega)
        refine lv_aload_n hx hb dX1_isAbove_60 rfl (lv_at hl 0 rfl) ?_
        refine va_get (D := (dC, dI)) (ci := 1) (v := .ref a0) (C := RX1) (T := TX1) (N := 1) hx hb hts (by decide +kernel) hown hK hP 0 rfl rfl 0 (by decide) (hts (.fieldLink RX1 11 "FlakyBounds$Decimal" "parts" "[J") (by decide +kernel)) (fun _ h9 => h9) rfl dX1_isAbove_61 ?_
        refine lv_iload hx hb dX1_isAbove_64 (lv_at hl 1 rfl) ?_
        refine va_lald hx hb hK hP 1 0 rfl rfl (vp_in_nI (by omega) (by decide)) dX1_isAbove_66 ?_
        refine fw_l (x' := lN (d i)) (by rw [nI_clamp (by omega)]) ?_
        refine lv_lconst (v := 0) hx hb dX1_isAbove_67 (by decide) ?_
        refine W.lcmp hx hb dX1_isAbove_68 ?_
        refine lv_if_eq (tgt := 74) hx hb dX1_isAbove_69 (by decide) (fun c_69 => ?_) (fun c_69 => ?_)
        · -- then 69
          have hdi0 : d i = 0 := (pk_lEQ (b := 0) (by omega) (by decide)).mp ((lg_cmp_eq _ _).mp c_69)
          refine lv_iinc (v := nI (i + 1)) (lv' := [(6, .int (nI (i + 1))), (0, .ref h0)]) hx hb dX1_isAbove_74 hl (k := 1) rfl (nI_1 i) (by decide) rfl (fun ls hl => ?_)
          refine lv_goto (tgt := 53) hx hb dX1_isAbove_77 (by decide) ?_
          have hz2 : ∀ j, j < i + 1 → d j = 0 := by
            intro j hj
            rcases Nat.lt_or_ge j i with q | q
            · exact hz j q
            · obtain rfl : j = i := by omega
              exact hdi0
          exact ih_53 _ (i + 1) _ (by omega) ⟨rfl, by omega, hz2, lv_sub hl [1, 0] rfl⟩
        · -- else 69
          have hdi1 : ¬ d i = 0 := fun q => c_69 ((lg_cmp_eq _ _).mpr ((pk_lEQ (b := 0) (by omega) (by decide)).mpr q))
          refine lv_iconst (v := 1) hx hb dX1_isAbove_72 (by decide) ?_
          have h1 := pd_pos d 15 i hlt hdi1
          have hfin : decide (t * 1000000 * 1000000000 ^ 15 < pd_v d 17) = true := decide_eq_true (by rw [hp15, heq]; omega)
          exact W.zret (v := 1) (ty := .boolean) hx hb hr rfl (fun zt zht _ => ⟨1, rfl, by rw [hfin, zI_t], zht⟩) (fun q h => by cases h) dX1_isAbove_73 hlocks
    · -- else 34
      have hne : ¬ d 15 = t * 1000000 := fun q => c_34 ((lg_cmp_eq _ _).mpr ((pk_lEQ (by omega) (by omega)).mpr q))
      refine lv_lload_n hx hb dX1_isAbove_37 rfl (lv_at hl 1 rfl) ?_
      refine lv_lload hx hb dX1_isAbove_38 (lv_at hl 0 rfl) ?_
      refine W.lcmp hx hb dX1_isAbove_40 ?_
      refine lv_if_le (tgt := 48) hx hb dX1_isAbove_41 (by decide) (fun c_41 => ?_) (fun c_41 => ?_)
      · -- then 41
        have hle : d 15 ≤ t * 1000000 := (pk_lLE (by omega) (by omega)).mp ((lg_cmp_le _ _).mp c_41)
        refine lv_iconst (v := 0) hx hb dX1_isAbove_48 (by decide) ?_
        have hfin : decide (t * 1000000 * 1000000000 ^ 15 < pd_v d 17) = false := decide_eq_false (by omega)
        exact W.zret (v := 0) (ty := .boolean) hx hb hr rfl (fun zt zht _ => ⟨0, rfl, by rw [hfin, zI_f], zht⟩) (fun q h => by cases h) dX1_isAbove_49 hlocks
      · -- else 41
        have hgt : t * 1000000 < d 15 := by
          rcases Nat.lt_or_ge (t * 1000000) (d 15) with q | q
          · exact q
          · exact absurd ((lg_cmp_le _ _).mpr ((pk_lLE (by omega) (by omega)).mpr q)) c_41
        refine lv_iconst (v := 1) hx hb dX1_isAbove_44 (by decide) ?_
        refine lv_goto (tgt := 49) hx hb dX1_isAbove_45 (by decide) ?_
        have hfin : decide (t * 1000000 * 1000000000 ^ 15 < pd_v d 17) = true := decide_eq_true (pd_abG hgt)
        exact W.zret (v := 1) (ty := .boolean) hx hb hr rfl (fun zt zht _ => ⟨1, rfl, by rw [hfin, zI_t], zht⟩) (fun q h => by cases h) dX1_isAbove_49 hlocks
  · -- else 9
    have h161 : 1 ≤ d 16 := by
      rcases Nat.eq_zero_or_pos (d 16) with q | q
      · exact absurd ((lg_cmp_le _ _).mpr ((pk_lLE (a := d 16) (b := 0) (by omega) (by decide)).mpr (by omega))) c_9
      · exact q
    refine lv_iconst (v := 1) hx hb dX1_isAbove_12 (by decide) ?_
    have hfin : decide (t * 1000000 * 1000000000 ^ 15 < pd_v d 17) = true := decide_eq_true (pd_abT ht9 h161)
    exact W.zret (v := 1) (ty := .boolean) hx hb hr rfl (fun zt zht _ => ⟨1, rfl, by rw [hfin, zI_t], zht⟩) (fun q h => by cases h) dX1_isAbove_13 hlocks
set_option maxHeartbeats 4000000 in
set_option maxRecDepth 100000 in
theorem c_dec_cut (l : Launch) (dC : Nat → ClassId) (dI : Nat → Nat → Nat) (h0 a0 : Nat) (cJ : ClassId) (d : Nat → Nat) (g : Nat) (hd : pd_ok d) (h1e : pd_v d 17 ≤ 1000000000 ^ 16) (hg : g ≤ 18) : Met l yX1_cutTo wsX1_cutTo ({ frames := 0, cells := 0, slots := 0, locals := 0 } : Room) (va_Pc [.ref h0, .int (nI g)] (fw_pR (dC, dI) vwCl [(cJ, .long)] [(h0, .inr (1, [.ref a0])), (a0, .inl (cJ, 17, .inr (.inl (fun j => lN (d j)))))])) (vp_Sl (fun r => r = lN (pd_v d 17 / 1000000000 ^ 14 / 10 ^ (18 - g)))) 0 0 (fun _ => False) := by
  refine fw_metR (cc := cX1_cutTo) (maxL := 5) (ret := (some .long)) (by decide) rfl (Nat.le_of_ble_eq_true rfl) ?_
  intro zp ze zs zm zbelow zmeth zc ls hx hb hr hts hown hlocks hml hin hN hP hK hl
  have hown : zs.vm.findClass RX1 = some zm.cls := hown
  have hl : lv_has ls 5 [(0, .ref h0), (1, .int (nI g))] := hl
  have h14 := pd_14 d hd
  obtain ⟨hV, h16⟩ := pd_cut1 hd h1e
  have d14 := hd 14 (by decide)
  have d15 := hd 15 (by decide)
  have d16 := hd 16 (by decide)
  refine lv_aload_n hx hb dX1_cutTo_0 rfl (lv_at hl 0 rfl) ?_
  refine va_get (D := (dC, dI)) (ci := 1) (v := .ref a0) (C := RX1) (T := TX1) (N := 1) hx hb hts (by decide +kernel) hown hK hP 0 rfl rfl 0 (by decide) (hts (.fieldLink RX1 11 "FlakyBounds$Decimal" "parts" "[J") (by decide +kernel)) (fun _ h9 => h9) rfl dX1_cutTo_1 ?_
  refine lv_bipush (v := 16) hx hb dX1_cutTo_4 (by decide) ?_
  refine va_lald hx hb hK hP 1 0 rfl rfl (vp_in_nI (n := 16) (by decide) (by decide)) dX1_cutTo_6 ?_
  refine fw_l (x' := lN (d 16)) (congrArg (fun z => lN (d z)) (show (16 : Int32).toNatClampNeg = 16 by decide)) ?_
  refine lv_ldc2 (v := 1000000000) hx hb hown (hts (.constantLong RX1 17 1000000000) (by decide +kernel)) dX1_cutTo_7 ?_
  refine lv_lmul hx hb dX1_cutTo_10 ?_
  refine fw_l (x' := lN (d 16 * 1000000000)) (lN_mul _ 1000000000) ?_
  refine lv_aload_n hx hb dX1_cutTo_11 rfl (lv_at hl 0 rfl) ?_
  refine va_get (D := (dC, dI)) (ci := 1) (v := .ref a0) (C := RX1) (T := TX1) (N := 1) hx hb hts (by decide +kernel) hown hK hP 0 rfl rfl 0 (by decide) (hts (.fieldLink RX1 11 "FlakyBounds$Decimal" "parts" "[J") (by decide +kernel)) (fun _ h9 => h9) rfl dX1_cutTo_12 ?_
  refine lv_bipush (v := 15) hx hb dX1_cutTo_15 (by decide) ?_
  refine va_lald hx hb hK hP 1 0 rfl rfl (vp_in_nI (n := 15) (by decide) (by decide)) dX1_cutTo_17 ?_
  refine fw_l (x' := lN (d 15)) (congrArg (fun z => lN (d z)) (show (15 : Int32).toNatClampNeg = 15 by decide)) ?_
  refine lv_ladd hx hb dX1_cutTo_18 ?_
  refine fw_l (x' := lN (d 16 * 1000000000 + d 15)) (lN_add _ _) ?_
  refine lv_ldc2 (v := 1000000000) hx hb hown (hts (.constantLong RX1 17 1000000000) (by decide +kernel)) dX1_cutTo_19 ?_
  refine lv_lmul hx hb dX1_cutTo_22 ?_
  refine fw_l (x' := lN ((d 16 * 1000000000 + d 15) * 1000000000)) (lN_mul _ 1000000000) ?_
  refine lv_aload_n hx hb dX1_cutTo_23 rfl (lv_at hl 0 rfl) ?_
  refine va_get (D := (dC, dI)) (ci := 1) (v := .ref a0) (C := RX1) (T := TX1) (N := 1) hx hb hts (by decide +kernel) hown hK hP 0 rfl rfl 0 (by decide) (hts (.fieldLink RX1 11 "FlakyBounds$Decimal" "parts" "[J") (by decide +kernel)) (fun _ h9 => h9) rfl dX1_cutTo_24 ?_
  refine lv_bipush (v := 14) hx hb dX1_cutTo_27 (by decide) ?_
  refine va_lald hx hb hK hP 1 0 rfl rfl (vp_in_nI (n := 14) (by decide) (by decide)) dX1_cutTo_29 ?_
  refine fw_l (x' := lN (d 14)) (congrArg (fun z => lN (d z)) (show (14 : Int32).toNatClampNeg = 14 by decide)) ?_
  refine lv_ladd hx hb dX1_cutTo_30 ?_
  refine fw_l (x' := lN (pd_v d 17 / 1000000000 ^ 14 / 10 ^ (g - g))) (by rw [Nat.sub_self, Nat.pow_zero, Nat.div_one, lN_add, h14]) ?_
  refine lv_lstore_n (lv' := [(2, .long (lN (pd_v d 17 / 1000000000 ^ 14 / 10 ^ (g - g)))), (0, .ref h0), (1, .int (nI g))]) hx hb dX1_cutTo_31 rfl hl (by decide) rfl (fun ls hl => ?_)
  refine lv_iload_n hx hb dX1_cutTo_32 rfl (lv_at hl 2 rfl) ?_
  refine lv_istore (lv' := [(4, .int (nI g)), (2, .long (lN (pd_v d 17 / 1000000000 ^ 14 / 10 ^ (g - g)))), (0, .ref h0), (1, .int (nI g))]) hx hb dX1_cutTo_33 hl (by decide) rfl (fun ls hl => ?_)
  refine fw_loopR (σ := Nat) (I := fun zn u ls => match u with | i => zn = 18 - i ∧ (i ≤ 18) ∧ (g ≤ i) ∧ lv_has ls 5 [(0, .ref h0), (2, .long (lN (pd_v d 17 / 1000000000 ^ 14 / 10 ^ (i - g)))), (4, .int (nI i))]) ?_ _ g _ ⟨rfl, hg, Nat.le_refl g, lv_sub hl [2, 1, 0] rfl⟩
  intro zn i ls hI ih_35
  obtain ⟨hzn, hi, hgi, hl⟩ := hI
  refine lv_iload hx hb dX1_cutTo_35 (lv_at hl 2 rfl) ?_
  refine lv_bipush (v := 18) hx hb dX1_cutTo_37 (by decide) ?_
  refine lv_icmp_ge (tgt := 54) hx hb dX1_cutTo_39 (by decide) (fun c_39 => ?_) (fun c_39 => ?_)
  · -- then 39
    have hi18 : i = 18 := by have := (nI_leI (a := 18) (b := i) (by decide) (by omega)).mp c_39; omega
    subst hi18
    refine lv_lload_n hx hb dX1_cutTo_54 rfl (lv_at hl 1 rfl) ?_
    exact W.lret (v := (lN (pd_v d 17 / 1000000000 ^ 14 / 10 ^ (18 - g)))) hx hb hr (fun zt zht _ => ⟨(lN (pd_v d 17 / 1000000000 ^ 14 / 10 ^ (18 - g))), rfl, rfl, zht⟩) (fun q h => by cases h) dX1_cutTo_55 hlocks
  · -- else 39
    have hlt : i < 18 := by
      rcases Nat.lt_or_ge i 18 with q | q
      · exact q
      · exact absurd (nI_le (a := 18) (b := i) q (by omega)) c_39
    refine lv_lload_n hx hb dX1_cutTo_42 rfl (lv_at hl 1 rfl) ?_
    refine lv_ldc2 (v := 10) hx hb hown (hts (.constantLong RX1 21 10) (by decide +kernel)) dX1_cutTo_43 ?_
    have e46 : lN (pd_v d 17 / 1000000000 ^ 14 / 10 ^ (i - g)) / 10 = lN (pd_v d 17 / 1000000000 ^ 14 / 10 ^ (i + 1 - g)) := by
      rw [show i + 1 - g = (i - g) + 1 by omega]
      exact lN_cut (i - g) hV
    refine lv_ldiv hx hb dX1_cutTo_46 (by decide) ?_
    refine fw_l (x' := lN (pd_v d 17 / 1000000000 ^ 14 / 10 ^ (i + 1 - g))) (e46) ?_
    refine lv_lstore_n (lv' := [(2, .long (lN (pd_v d 17 / 1000000000 ^ 14 / 10 ^ (i + 1 - g)))), (0, .ref h0), (4, .int (nI i))]) hx hb dX1_cutTo_47 rfl hl (by decide) rfl (fun ls hl => ?_)
    refine lv_iinc (v := nI (i + 1)) (lv' := [(4, .int (nI (i + 1))), (2, .long (lN (pd_v d 17 / 1000000000 ^ 14 / 10 ^ (i + 1 - g)))), (0, .ref h0)]) hx hb dX1_cutTo_48 hl (k := 2) rfl (nI_1 i) (by decide) rfl (fun ls hl => ?_)
    refine lv_goto (tgt := 35) hx hb dX1_cutTo_51 (by decide) ?_
    exact ih_35 _ (i + 1) _ (by omega) ⟨rfl, by omega, by omega, lv_sub hl [2, 1, 0] rfl⟩
