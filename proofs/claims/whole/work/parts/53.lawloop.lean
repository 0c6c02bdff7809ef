theorem lw_fit {L i : Nat} (hL : L ≤ 2560) (hi : i ≤ 2560) (h : ¬ Int32.ofNat L - 5 < nI i) : i + 5 ≤ L := by
  rcases Nat.lt_or_ge L (i + 5) with q | q
  · exfalso
    apply h
    rw [Int32.lt_iff_toInt_lt, nI_toInt (by omega)]
    rcases Nat.lt_or_ge L 5 with q5 | q5
    · have hc : L = 0 ∨ L = 1 ∨ L = 2 ∨ L = 3 ∨ L = 4 := by omega
      have : (Int32.ofNat L - 5).toInt < 0 := by
        rcases hc with rfl | rfl | rfl | rfl | rfl <;> decide
      omega
    · obtain ⟨d, rfl⟩ : ∃ d, L = d + 5 := ⟨L - 5, by omega⟩
      have e1 : Int32.ofNat (d + 5) - 5 = nI d := by
        have h5 : Int32.ofNat (d + 5) = nI d + 5 := (nI_add d 5).symm
        rw [h5, Int32.add_sub_cancel]
      rw [e1, nI_toInt (by omega)]
      omega
  · exact q
set_option maxHeartbeats 4000000 in
set_option maxRecDepth 100000 in
/-- THE LAW'S LOOP: at its head, after p calls -/
theorem law_loop {p : Program} {l : Launch} {e : Env} {s : State} {m : MethodId} {below : List Frame} {meth : Method} {c : Code} {b L : Nat} {xs : Nat → Int32} {dC : Nat → ClassId} {dI : Nat → Nat → Nat} {a : FlA} (C0 : lw_At p s m meth c b L xs) (hN : fw_N s) (hK : va_K (dC, dI) vwCl (cTy a) s) (hL : L ≤ 2560) :
    ∀ (n j : Nat), L + 1 ≤ 5 * j + n → 5 * j ≤ L → lw_go p l e s m below meth c b dC dI a (100 + 3 * j) (2000 + 107 * j) 18 (5 * j) := by
  obtain ⟨hx, hb, hr, hml, hown, hts, hX, hbl, hlocks, hgv⟩ := id C0
  have hbA : ¬ (fun q : Nat => s.heap.size ≤ q) b := Nat.not_le.mpr hbl
  intro n
  induction n with
  | zero =>
    intro j h1 h2 k mm H locs ls hI hP hD hS hl
    refine lv_iload_n hx hb dL_law_18 rfl (lv_at hl 3 rfl) ?_
    refine lv_aload_n hx hb dL_law_19 rfl (lv_at hl 0 rfl) ?_
    refine va_slen hx hb hX hbl hbA hS dL_law_20 ?_
    refine lv_iconst (v := 5) hx hb dL_law_21 (by decide) ?_
    refine lv_isub hx hb dL_law_22 ?_
    refine lv_icmp_gt (tgt := 482) hx hb dL_law_23 (by decide) (fun h => ?_) (fun h => absurd (lw_fit hL (i := 5 * j) (by omega) h) (by omega))
    refine lv_iconst (v := 1) hx hb dL_law_482 (by decide) ?_
    refine va_forget (fun q hq => hS.2.2 q hq) ?_
    refine W.widen (k := 600000) (n := 7302250) (by omega) (by omega) ?_
    exact lw_ret hx hb hr hlocks dL_law_483
  | succ n ih =>
    intro j h1 h2 k mm H locs ls hI hP hD hS hl
    refine lv_iload_n hx hb dL_law_18 rfl (lv_at hl 3 rfl) ?_
    refine lv_aload_n hx hb dL_law_19 rfl (lv_at hl 0 rfl) ?_
    refine va_slen hx hb hX hbl hbA hS dL_law_20 ?_
    refine lv_iconst (v := 5) hx hb dL_law_21 (by decide) ?_
    refine lv_isub hx hb dL_law_22 ?_
    refine lv_icmp_gt (tgt := 482) hx hb dL_law_23 (by decide) (fun h => ?_) (fun h => ?_)
    · refine lv_iconst (v := 1) hx hb dL_law_482 (by decide) ?_
      refine va_forget (fun q hq => hS.2.2 q hq) ?_
      refine W.widen (k := 600000) (n := 7302250) (by omega) (by omega) ?_
      exact lw_ret hx hb hr hlocks dL_law_483
    · have hi : 5 * j + 5 ≤ L := lw_fit hL (by omega) h
      have hnext : lw_go p l e s m below meth c b dC dI a (100 + 3 * (j + 1)) (2000 + 107 * (j + 1)) 476 (5 * j) := by
        intro k mm H locs ls hI hP hD hS hl
        refine lv_iinc (v := nI (5 * (j + 1))) (lv' := [(3, .int (nI (5 * (j + 1)))), (0, .ref b), (1, .ref a.2.1.1), (2, .ref a.2.2.1)]) hx hb dL_law_476 hl (k := 3) rfl (by rw [show Int32.ofInt 5 = nI 5 by decide]; exact nI_add (5 * j) 5) (by decide) rfl (fun ls hl => ?_)
        refine lv_goto (tgt := 18) hx hb dL_law_479 (by decide) ?_
        exact ih (j + 1) (by omega) (by omega) k mm H locs ls hI hP hD hS (lv_sub hl [1, 2, 3, 0] rfl)
      refine lv_aload_n hx hb dL_law_26 rfl (lv_at hl 0 rfl) ?_
      refine lv_iload_n hx hb dL_law_27 rfl (lv_at hl 3 rfl) ?_
      refine va_sld hx hb hX hbl hbA hS (vp_in_nI (n := 5 * j) (by omega) (by omega)) dL_law_28 ?_
      refine lv_bipush (v := 15) hx hb dL_law_29 (by decide) ?_
      refine lv_iand hx hb dL_law_31 ?_
      generalize xs (nI (5 * j)).toNatClampNeg &&& 15 = w
      rcases sw_cases w with rfl | rfl | rfl | rfl | rfl | rfl | rfl | rfl | rfl | hw
      · refine lv_tableIn (tgt := 84) (off := 52) hx hb dL_law_32 (by decide) (by decide) (by decide) (by decide) ?_
        exact law_test C0 hN hK hL hi (by omega) (by omega) (by omega) (by omega) hnext k mm H locs ls hI hP hD hS hl
      · refine lv_tableIn (tgt := 97) (off := 65) hx hb dL_law_32 (by decide) (by decide) (by decide) (by decide) ?_
        exact law_rules C0 hN hK hL hi (by omega) (by omega) (by omega) (by omega) hnext k mm H locs ls hI hP hD hS hl
      · refine lv_tableIn (tgt := 140) (off := 108) hx hb dL_law_32 (by decide) (by decide) (by decide) (by decide) ?_
        exact law_run C0 hN hK hL hi (by omega) (by omega) (by omega) (by omega) hnext k mm H locs ls hI hP hD hS hl
      · refine lv_tableIn (tgt := 199) (off := 167) hx hb dL_law_32 (by decide) (by decide) (by decide) (by decide) ?_
        exact law_judge C0 hN hK hL hi (by omega) (by omega) (by omega) (by omega) hnext k mm H locs ls hI hP hD hS hl
      · refine lv_tableIn (tgt := 258) (off := 226) hx hb dL_law_32 (by decide) (by decide) (by decide) (by decide) ?_
        exact law_about C0 hN hK hL hi (by omega) (by omega) (by omega) (by omega) hnext k mm H locs ls hI hP hD hS hl
      · refine lv_tableIn (tgt := 291) (off := 259) hx hb dL_law_32 (by decide) (by decide) (by decide) (by decide) ?_
        exact law_bound C0 hN hK hL hi (by omega) (by omega) (by omega) (by omega) hnext k mm H locs ls hI hP hD hS hl
      · refine lv_tableIn (tgt := 350) (off := 318) hx hb dL_law_32 (by decide) (by decide) (by decide) (by decide) ?_
        exact law_share C0 hN hK hL hi (by omega) (by omega) (by omega) (by omega) hnext k mm H locs ls hI hP hD hS hl
      · refine lv_tableIn (tgt := 420) (off := 388) hx hb dL_law_32 (by decide) (by decide) (by decide) (by decide) ?_
        exact law_isBad C0 hN hK hL hi (by omega) (by omega) (by omega) (by omega) hnext k mm H locs ls hI hP hD hS hl
      · refine lv_tableIn (tgt := 453) (off := 421) hx hb dL_law_32 (by decide) (by decide) (by decide) (by decide) ?_
        exact law_broken C0 hN hK hL hi (by omega) (by omega) (by omega) (by omega) hnext k mm H locs ls hI hP hD hS hl
      · refine lv_tableOut (tgt := 476) hx hb dL_law_32 hw (by decide) ?_
        refine W.widen (k := 100 + 3 * (j + 1)) (n := 2000 + 107 * (j + 1)) (by omega) (by omega) ?_
        exact hnext k mm H locs ls hI hP hD hS hl
