set_option maxHeartbeats 4000000 in
set_option maxRecDepth 100000 in
theorem c_fla_broken (l : Launch) (dC : Nat → ClassId) (dI : Nat → Nat → Nat) (f0 hs : Nat) (cH cI cZ : ClassId) (v1 v3 v4 v5 : Value) (n : Nat) (hf : Nat → Option Nat) (L : List FlR) (x : Int32) (hn12 : n ≤ 12) (hLn : L.length = n) (href : fl_ref L hf) (hok : ∀ r, r ∈ L → fl_ok r) : Met l yX3_broken wsX3_broken ({ frames := 2, cells := 0, slots := 0, locals := 44 } : Room) (va_Pc [.ref f0, .int x] (fw_pR (dC, dI) vwCl [(cH, .object RX2), (cI, .int), (cZ, .boolean)] ([(f0, .inr (3, [.ref hs, v1, .int (nI n), v3, v4, v5])), (hs, .inl (cH, 12, .inr (.inr (.inr (.inr (hf))))))] ++ fl_cs cI cZ L))) (vp_Si (fun r => r = fl_bits x L 12)) 0 0 (fun _ => False) := by
  refine fw_metR (cc := cX3_broken) (maxL := 5) (ret := (some .int)) (by decide) rfl (Nat.le_of_ble_eq_true rfl) ?_
  intro zp ze zs zm zbelow zmeth zc ls hx hb hr hts hown hlocks hml hin hN hP hK hl
  have hown : zs.vm.findClass RX3 = some zm.cls := hown
  have hl : lv_has ls 5 [(0, .ref f0), (1, .int x)] := hl
  have hPA := hP
  have hP : va_P (dC, dI) vwCl [(f0, .inr (3, [.ref hs, v1, .int (nI n), v3, v4, v5])), (hs, .inl (cH, 12, .inr (.inr (.inr (.inr (hf))))))] zs.heap := fw_Pm hPA (fun q hq => List.mem_append_left _ hq)
  refine lv_iconst (v := 0) hx hb dX3_broken_0 (by decide) ?_
  refine lv_istore_n (lv' := [(2, .int 0), (0, .ref f0), (1, .int x)]) hx hb dX3_broken_1 rfl hl (by decide) rfl (fun ls hl => ?_)
  refine lv_iconst (v := 0) hx hb dX3_broken_2 (by decide) ?_
  refine lv_istore_n (lv' := [(3, .int 0), (2, .int 0), (0, .ref f0), (1, .int x)]) hx hb dX3_broken_3 rfl hl (by decide) rfl (fun ls hl => ?_)
  refine fw_loopR (σ := Nat) (I := fun zn u ls => match u with | i => zn = 12 - i ∧ (i ≤ 12) ∧ lv_has ls 5 [(0, .ref f0), (1, .int x), (2, .int (fl_bits x L i)), (3, .int (nI i))]) ?_ _ 0 _ ⟨rfl, by omega, lv_sub hl [2, 3, 1, 0] rfl⟩
  intro zn i ls hI ih_4
  obtain ⟨hzn, hi, hl⟩ := hI
  refine lv_iload_n hx hb dX3_broken_4 rfl (lv_at hl 3 rfl) ?_
  refine lv_bipush (v := 12) hx hb dX3_broken_5 (by decide) ?_
  refine lv_icmp_ge (tgt := 51) hx hb dX3_broken_7 (by decide) (fun c_7 => ?_) (fun c_7 => ?_)
  · -- then 7
    have hend : i = 12 := by have := (nI_leI (a := 12) (b := i) (by decide) (by omega)).mp c_7; omega
    subst hend
    refine lv_iload_n hx hb dX3_broken_51 rfl (lv_at hl 2 rfl) ?_
    exact W.iret (v := (fl_bits x L 12)) hx hb hr (fun zt zht _ => ⟨(fl_bits x L 12), rfl, rfl, zht⟩) (fun q h => by cases h) dX3_broken_52 hlocks
  · -- else 7
    have hlt : i < 12 := by
      rcases Nat.lt_or_ge i 12 with q9 | q9
      · exact q9
      · exact absurd (nI_le (a := 12) (b := i) q9 (by omega)) c_7
    cases hLi : L[i]?
    · -- none
      have hno : fv_no n (nI i) := Or.inr (nI_le (a := n) (b := i) (by have := List.getElem?_eq_none_iff.mp hLi; omega) (by omega))
      have hbs : fl_bits x L (i + 1) = fl_bits x L i := by rw [fl_bits, hLi]
      refine lv_aload_n hx hb dX3_broken_10 rfl (lv_at hl 0 rfl) ?_
      refine lv_iload_n hx hb dX3_broken_11 rfl (lv_at hl 3 rfl) ?_
      have hPc := hP.sub (ws' := [(f0, .inr (3, [.ref hs, v1, .int (nI n), v3, v4, v5])), (hs, .inl (cH, 12, .inr (.inr (.inr (.inr (hf))))))]) [0, 1] rfl
      have hKc := hK.sub (tys' := [(cH, .object RX2)]) [0] rfl
      refine va_csq (va_runV (As := [.int (nI i)]) (rest := []) ⟨hx, hb, hml, hown, hts⟩ (c_fla_find_no l dC dI f0 hs cH v1 v3 v4 v5 n hf (nI i) hn12 hno) (cwV 1 hts gX3_broken_X3_find rfl rfl rfl (by decide +kernel) ⟨Nat.le_of_ble_eq_true rfl, Nat.le_of_ble_eq_true rfl⟩) (fw_preVR hN hKc hPc (ci := 3) (q0 := 0) rfl rfl) rfl rfl hl.1 rfl (lv_room (Nat.le_of_ble_eq_true rfl)) dX3_broken_12 ⟨Nat.le_of_ble_eq_true rfl, Nat.le_of_ble_eq_true rfl⟩).run (fun r_12 hr_12 => ?_)
      obtain rfl : r_12 = none := hr_12
      refine W.eq (g2 := F0 zm 15 ls [.null]) rfl ?_
      refine lv_astoreN (lv' := [(4, .null), (0, .ref f0), (1, .int x), (2, .int (fl_bits x L i)), (3, .int (nI i))]) hx hb dX3_broken_15 hl (by decide) rfl (fun ls hl => ?_)
      refine lv_aloadN hx hb dX3_broken_17 (lv_at hl 0 rfl) ?_
      refine lv_ifnullN (tgt := 45) hx hb dX3_broken_19 (by decide) ?_
      refine lv_iinc (v := nI (i + 1)) (lv' := [(3, .int (nI (i + 1))), (4, .null), (0, .ref f0), (1, .int x), (2, .int (fl_bits x L i))]) hx hb dX3_broken_45 hl (k := 4) rfl (nI_1 i) (by decide) rfl (fun ls hl => ?_)
      refine lv_goto (tgt := 4) hx hb dX3_broken_48 (by decide) ?_
      rw [← hbs] at hl
      exact ih_4 _ (i + 1) _ (by omega) ⟨rfl, by omega, lv_sub hl [2, 3, 4, 0] rfl⟩
    · -- some
      rename_i r
      obtain ⟨⟨h0, ea, pa⟩, ⟨s, o⟩, ⟨mk, tm⟩, ⟨je, jf⟩, e, b⟩ := r
      have hok1 := (hok _ (List.mem_of_getElem? hLi)).1
      have hs48 : s ≤ 48 := hok1
      have hin_ : i < n := by have := (List.getElem?_eq_some_iff.mp hLi).1; omega
      have hfi : hf i = some h0 := by rw [href i (by omega), hLi]; rfl
      have hP : va_P (dC, dI) vwCl [(f0, .inr (3, [.ref hs, v1, .int (nI n), v3, v4, v5])), (hs, .inl (cH, 12, .inr (.inr (.inr (.inr (hf)))))), (h0, .inr (2, [.ref ea, .ref pa, .int (nI s), .int (nI o), .int (nI (hv_D e b s s)), .int (nI (hv_N e b s s)), .int (nI (hv_X e b s s)), .int (zI mk), .int (nI tm), .int je, .int (nI jf)])), (ea, .inl (cI, 48, .inl (e))), (pa, .inl (cZ, 48, .inl (fun j => zI (b j))))] zs.heap := fw_Pm hPA (fun q hq => by
        rcases List.mem_append.mp (show q ∈ [(f0, .inr (3, [.ref hs, v1, .int (nI n), v3, v4, v5])), (hs, .inl (cH, 12, .inr (.inr (.inr (.inr (hf))))))] ++ fl_c cI cZ ((h0, ea, pa), (s, o), (mk, tm), (je, jf), e, b) from hq) with h | h
        · exact List.mem_append_left _ h
        · exact List.mem_append_right _ (fl_in hLi q h))
      have hbs : fl_bits x L (i + 1) = if fl_real x ((h0, ea, pa), (s, o), (mk, tm), (je, jf), e, b) = true then fl_bits x L i ||| ((1 : Int32) <<< (nI i &&& 31)) else fl_bits x L i := by rw [fl_bits, hLi]
      refine lv_aload_n hx hb dX3_broken_10 rfl (lv_at hl 0 rfl) ?_
      refine lv_iload_n hx hb dX3_broken_11 rfl (lv_at hl 3 rfl) ?_
      have hPc := hP.sub (ws' := [(f0, .inr (3, [.ref hs, v1, .int (nI n), v3, v4, v5])), (hs, .inl (cH, 12, .inr (.inr (.inr (.inr (hf))))))]) [0, 1] rfl
      have hKc := hK.sub (tys' := [(cH, .object RX2)]) [0] rfl
      refine va_csq (va_runV (As := [.int (nI i)]) (rest := []) ⟨hx, hb, hml, hown, hts⟩ (c_fla_find l dC dI f0 hs cH v1 v3 v4 v5 n hf i h0 hn12 hin_ hfi) (cwV 1 hts gX3_broken_X3_find rfl rfl rfl (by decide +kernel) ⟨Nat.le_of_ble_eq_true rfl, Nat.le_of_ble_eq_true rfl⟩) (fw_preVR hN hKc hPc (ci := 3) (q0 := 0) rfl rfl) rfl rfl hl.1 rfl (lv_room (Nat.le_of_ble_eq_true rfl)) dX3_broken_12 ⟨Nat.le_of_ble_eq_true rfl, Nat.le_of_ble_eq_true rfl⟩).run (fun r_12 hr_12 => ?_)
      obtain rfl : r_12 = some h0 := hr_12
      refine W.eq (g2 := F0 zm 15 ls [.ref h0]) rfl ?_
      refine lv_astore (lv' := [(4, .ref h0), (0, .ref f0), (1, .int x), (2, .int (fl_bits x L i)), (3, .int (nI i))]) hx hb dX3_broken_15 hl (by decide) rfl (fun ls hl => ?_)
      refine lv_aload hx hb dX3_broken_17 (lv_at hl 0 rfl) ?_
      refine lv_ifnull hx hb dX3_broken_19 ?_
      refine lv_aload hx hb dX3_broken_22 (lv_at hl 0 rfl) ?_
      refine va_getN (D := (dC, dI)) (ci := 2) (v := .int (zI mk)) (C := RX2) (T := TX2) (N := 11) hx hb hts (by decide +kernel) hown hK hP 2 rfl rfl 7 (by decide) (va_Nw.use rfl (hN.2.2.2.2.2.1)) (fun _ h9 => h9) rfl dX3_broken_24 ?_
      refine lv_if_ne (tgt := 45) hx hb dX3_broken_27 (by decide) (fun c_27 => ?_) (fun c_27 => ?_)
      · -- then 27
        have h27 := zI_ne0.mp c_27
        refine lv_iinc (v := nI (i + 1)) (lv' := [(3, .int (nI (i + 1))), (4, .ref h0), (0, .ref f0), (1, .int x), (2, .int (fl_bits x L i))]) hx hb dX3_broken_45 hl (k := 4) rfl (nI_1 i) (by decide) rfl (fun ls hl => ?_)
        refine lv_goto (tgt := 4) hx hb dX3_broken_48 (by decide) ?_
        have hre : fl_real x ((h0, ea, pa), (s, o), (mk, tm), (je, jf), e, b) = false := by
          show (!mk && _) = false
          rw [h27]; rfl
        rw [hre, if_neg (by decide)] at hbs
        rw [← hbs] at hl
        exact ih_4 _ (i + 1) _ (by omega) ⟨rfl, by omega, lv_sub hl [2, 3, 4, 0] rfl⟩
      · -- else 27
        have h27 := zI_eq0.mp c_27
        refine lv_aload hx hb dX3_broken_30 (lv_at hl 0 rfl) ?_
        refine lv_iload_n hx hb dX3_broken_32 rfl (lv_at hl 2 rfl) ?_
        have hPc := hP.sub (ws' := [(h0, .inr (2, [.ref ea, .ref pa, .int (nI s), .int (nI o), .int (nI (hv_D e b s s)), .int (nI (hv_N e b s s)), .int (nI (hv_X e b s s)), .int (zI mk), .int (nI tm), .int je, .int (nI jf)])), (ea, .inl (cI, 48, .inl (e))), (pa, .inl (cZ, 48, .inl (fun j => zI (b j))))]) [2, 3, 4] rfl
        have hKc := hK.sub (tys' := [(cI, .int), (cZ, .boolean)]) [1, 2] rfl
        refine vp_callSi (va_runV (As := [.int x]) (rest := []) ⟨hx, hb, hml, hown, hts⟩ (c_his_only l dC dI h0 ea pa cI cZ s (.int (nI o)) (.int (nI (hv_D e b s s))) (.int (nI (hv_N e b s s))) (.int (nI (hv_X e b s s))) (.int (zI mk)) (.int (nI tm)) (.int je) (.int (nI jf)) e b x hs48) (cwV 1 hts gX3_broken_X2_hasOnlyFails rfl rfl rfl (by decide +kernel) ⟨Nat.le_of_ble_eq_true rfl, Nat.le_of_ble_eq_true rfl⟩) (fw_preVR hN hKc hPc (ci := 2) (q0 := 0) rfl rfl) rfl rfl hl.1 rfl (lv_room (Nat.le_of_ble_eq_true rfl)) dX3_broken_33 ⟨Nat.le_of_ble_eq_true rfl, Nat.le_of_ble_eq_true rfl⟩).run (fun r_33 hr_33 => ?_)
        obtain rfl : r_33 = zI (hv_has e b x false s && !hv_has e b x true s) := hr_33
        refine lv_if_eq (tgt := 45) hx hb dX3_broken_36 (by decide) (fun c_36 => ?_) (fun c_36 => ?_)
        · -- then 36
          have h36 := zI_eq0.mp c_36
          refine lv_iinc (v := nI (i + 1)) (lv' := [(3, .int (nI (i + 1))), (4, .ref h0), (0, .ref f0), (1, .int x), (2, .int (fl_bits x L i))]) hx hb dX3_broken_45 hl (k := 4) rfl (nI_1 i) (by decide) rfl (fun ls hl => ?_)
          refine lv_goto (tgt := 4) hx hb dX3_broken_48 (by decide) ?_
          have hre : fl_real x ((h0, ea, pa), (s, o), (mk, tm), (je, jf), e, b) = false := by
            show (!mk && (hv_has e b x false s && !hv_has e b x true s)) = false
            rw [h27, h36]; rfl
          rw [hre, if_neg (by decide)] at hbs
          rw [← hbs] at hl
          exact ih_4 _ (i + 1) _ (by omega) ⟨rfl, by omega, lv_sub hl [2, 3, 4, 0] rfl⟩
        · -- else 36
          have h36 := zI_ne0.mp c_36
          refine lv_iload_n hx hb dX3_broken_39 rfl (lv_at hl 3 rfl) ?_
          refine lv_iconst (v := 1) hx hb dX3_broken_40 (by decide) ?_
          refine lv_iload_n hx hb dX3_broken_41 rfl (lv_at hl 4 rfl) ?_
          refine lv_ishl hx hb dX3_broken_42 ?_
          refine lv_ior hx hb dX3_broken_43 ?_
          refine lv_istore_n (lv' := [(2, .int ((fl_bits x L i) ||| (1 <<< ((nI i) &&& 31)))), (4, .ref h0), (0, .ref f0), (1, .int x), (3, .int (nI i))]) hx hb dX3_broken_44 rfl hl (by decide) rfl (fun ls hl => ?_)
          refine lv_iinc (v := nI (i + 1)) (lv' := [(3, .int (nI (i + 1))), (2, .int ((fl_bits x L i) ||| (1 <<< ((nI i) &&& 31)))), (4, .ref h0), (0, .ref f0), (1, .int x)]) hx hb dX3_broken_45 hl (k := 4) rfl (nI_1 i) (by decide) rfl (fun ls hl => ?_)
          refine lv_goto (tgt := 4) hx hb dX3_broken_48 (by decide) ?_
          have hre : fl_real x ((h0, ea, pa), (s, o), (mk, tm), (je, jf), e, b) = true := by
            show (!mk && (hv_has e b x false s && !hv_has e b x true s)) = true
            rw [h27, h36]; rfl
          rw [hre, if_pos rfl] at hbs
          rw [← hbs] at hl
          exact ih_4 _ (i + 1) _ (by omega) ⟨rfl, by omega, lv_sub hl [3, 4, 1, 0] rfl⟩
