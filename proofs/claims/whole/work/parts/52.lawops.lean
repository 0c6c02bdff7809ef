set_option maxHeartbeats 4000000 in
set_option maxRecDepth 100000 in
theorem law_test {p : Program} {l : Launch} {e : Env} {s : State} {m : MethodId} {below : List Frame} {meth : Method} {c : Code} {b L : Nat} {xs : Nat → Int32} {dC : Nat → ClassId} {dI : Nat → Nat → Nat} {a : FlA} {ce sl ce2 sl2 i : Nat} (C0 : lw_At p s m meth c b L xs) (hN : fw_N s) (hK : va_K (dC, dI) vwCl (cTy a) s) (hL : L ≤ 2560) (hi : i + 5 ≤ L) (h1 : ce + 3 ≤ ce2) (h2 : sl + 107 ≤ sl2) (h3 : ce2 ≤ 600000) (h4 : sl2 ≤ 7302250) (hnext : lw_go p l e s m below meth c b dC dI a ce2 sl2 476 i) : lw_go p l e s m below meth c b dC dI a ce sl 84 i := by
  obtain ⟨hx, hb, hr, hml, hown, hts, hX, hbl, hlocks, hgv⟩ := id C0
  have hbA : ¬ (fun q : Nat => s.heap.size ≤ q) b := Nat.not_le.mpr hbl
  intro k mm H locs ls hI hP hD hS hl
  obtain ⟨S1, S2, mc, ms, ans, k', m', b1, b2, hC, hM, hJ⟩ := op_test a k mm hI 
  refine lv_aload_n hx hb dL_law_84 rfl (lv_at hl 1 rfl) ?_
  refine lw_cCi (As := []) (rest := []) (n := 0) hC C0 hN hK gL_law_X3_test rfl (by decide +kernel) rfl hP hD hS hl.1 (Nat.le_of_ble_eq_true rfl) ⟨by omega, by omega⟩ dL_law_85 (fun u H locs hP hD hS => ?_)
  refine lv_aload_n hx hb dL_law_88 rfl (lv_at hl 2 rfl) ?_
  refine lw_cMi (As := []) (rest := [.int ans]) (n := 0) hM C0 hN hK gL_law_X4_test rfl (by decide +kernel) rfl hP hD hS hl.1 (Nat.le_of_ble_eq_true rfl) ⟨by omega, by omega⟩ dL_law_89 (fun v H locs hP hD hS => ?_)
  refine lv_icmp_eq (tgt := 476) hx hb dL_law_92 (by decide) (fun _ => ?_) (fun h => absurd rfl h)
  refine W.widen (k := ce2) (n := sl2) (by omega) (by omega) ?_
  exact hnext _ _ _ _ _ (hJ u v) hP hD hS hl
set_option maxHeartbeats 4000000 in
set_option maxRecDepth 100000 in
theorem law_rules {p : Program} {l : Launch} {e : Env} {s : State} {m : MethodId} {below : List Frame} {meth : Method} {c : Code} {b L : Nat} {xs : Nat → Int32} {dC : Nat → ClassId} {dI : Nat → Nat → Nat} {a : FlA} {ce sl ce2 sl2 i : Nat} (C0 : lw_At p s m meth c b L xs) (hN : fw_N s) (hK : va_K (dC, dI) vwCl (cTy a) s) (hL : L ≤ 2560) (hi : i + 5 ≤ L) (h1 : ce + 3 ≤ ce2) (h2 : sl + 107 ≤ sl2) (h3 : ce2 ≤ 600000) (h4 : sl2 ≤ 7302250) (hnext : lw_go p l e s m below meth c b dC dI a ce2 sl2 476 i) : lw_go p l e s m below meth c b dC dI a ce sl 97 i := by
  obtain ⟨hx, hb, hr, hml, hown, hts, hX, hbl, hlocks, hgv⟩ := id C0
  have hbA : ¬ (fun q : Nat => s.heap.size ≤ q) b := Nat.not_le.mpr hbl
  intro k mm H locs ls hI hP hD hS hl
  obtain ⟨S1, S2, mc, ms, ans, k', m', b1, b2, hC, hM, hJ⟩ := op_rules a k mm hI (xs (nI (i + 1)).toNatClampNeg) (xs (nI (i + 2)).toNatClampNeg) (xs (nI (i + 3)).toNatClampNeg)
  refine lv_aload_n hx hb dL_law_97 rfl (lv_at hl 1 rfl) ?_
  refine lv_aload_n hx hb dL_law_98 rfl (lv_at hl 0 rfl) ?_
  refine lv_iload_n hx hb dL_law_99 rfl (lv_at hl 3 rfl) ?_
  refine lv_iconst (v := 1) hx hb dL_law_100 (by decide) ?_
  refine lv_iadd hx hb dL_law_101 ?_
  refine fw_i (x' := nI (i + 1)) (nI_add i 1) ?_
  refine va_sld hx hb hX hbl hbA hS (vp_in_nI (n := i + 1) (by omega) (by omega)) dL_law_102 ?_
  refine lv_aload_n hx hb dL_law_103 rfl (lv_at hl 0 rfl) ?_
  refine lv_iload_n hx hb dL_law_104 rfl (lv_at hl 3 rfl) ?_
  refine lv_iconst (v := 2) hx hb dL_law_105 (by decide) ?_
  refine lv_iadd hx hb dL_law_106 ?_
  refine fw_i (x' := nI (i + 2)) (nI_add i 2) ?_
  refine va_sld hx hb hX hbl hbA hS (vp_in_nI (n := i + 2) (by omega) (by omega)) dL_law_107 ?_
  refine lv_aload_n hx hb dL_law_108 rfl (lv_at hl 0 rfl) ?_
  refine lv_iload_n hx hb dL_law_109 rfl (lv_at hl 3 rfl) ?_
  refine lv_iconst (v := 3) hx hb dL_law_110 (by decide) ?_
  refine lv_iadd hx hb dL_law_111 ?_
  refine fw_i (x' := nI (i + 3)) (nI_add i 3) ?_
  refine va_sld hx hb hX hbl hbA hS (vp_in_nI (n := i + 3) (by omega) (by omega)) dL_law_112 ?_
  refine lw_cCi (As := [.int (xs (nI (i + 1)).toNatClampNeg), .int (xs (nI (i + 2)).toNatClampNeg), .int (xs (nI (i + 3)).toNatClampNeg)]) (rest := []) (n := 3) hC C0 hN hK gL_law_X3_rules rfl (by decide +kernel) rfl hP hD hS hl.1 (Nat.le_of_ble_eq_true rfl) ⟨by omega, by omega⟩ dL_law_113 (fun u H locs hP hD hS => ?_)
  refine lv_aload_n hx hb dL_law_116 rfl (lv_at hl 2 rfl) ?_
  refine lv_aload_n hx hb dL_law_117 rfl (lv_at hl 0 rfl) ?_
  refine lv_iload_n hx hb dL_law_118 rfl (lv_at hl 3 rfl) ?_
  refine lv_iconst (v := 1) hx hb dL_law_119 (by decide) ?_
  refine lv_iadd hx hb dL_law_120 ?_
  refine fw_i (x' := nI (i + 1)) (nI_add i 1) ?_
  refine va_sld hx hb hX hbl hbA hS (vp_in_nI (n := i + 1) (by omega) (by omega)) dL_law_121 ?_
  refine lv_aload_n hx hb dL_law_122 rfl (lv_at hl 0 rfl) ?_
  refine lv_iload_n hx hb dL_law_123 rfl (lv_at hl 3 rfl) ?_
  refine lv_iconst (v := 2) hx hb dL_law_124 (by decide) ?_
  refine lv_iadd hx hb dL_law_125 ?_
  refine fw_i (x' := nI (i + 2)) (nI_add i 2) ?_
  refine va_sld hx hb hX hbl hbA hS (vp_in_nI (n := i + 2) (by omega) (by omega)) dL_law_126 ?_
  refine lv_aload_n hx hb dL_law_127 rfl (lv_at hl 0 rfl) ?_
  refine lv_iload_n hx hb dL_law_128 rfl (lv_at hl 3 rfl) ?_
  refine lv_iconst (v := 3) hx hb dL_law_129 (by decide) ?_
  refine lv_iadd hx hb dL_law_130 ?_
  refine fw_i (x' := nI (i + 3)) (nI_add i 3) ?_
  refine va_sld hx hb hX hbl hbA hS (vp_in_nI (n := i + 3) (by omega) (by omega)) dL_law_131 ?_
  refine lw_cMi (As := [.int (xs (nI (i + 1)).toNatClampNeg), .int (xs (nI (i + 2)).toNatClampNeg), .int (xs (nI (i + 3)).toNatClampNeg)]) (rest := [.int ans]) (n := 3) hM C0 hN hK gL_law_X4_rules rfl (by decide +kernel) rfl hP hD hS hl.1 (Nat.le_of_ble_eq_true rfl) ⟨by omega, by omega⟩ dL_law_132 (fun v H locs hP hD hS => ?_)
  refine lv_icmp_eq (tgt := 476) hx hb dL_law_135 (by decide) (fun _ => ?_) (fun h => absurd rfl h)
  refine W.widen (k := ce2) (n := sl2) (by omega) (by omega) ?_
  exact hnext _ _ _ _ _ (hJ u v) hP hD hS hl
set_option maxHeartbeats 4000000 in
set_option maxRecDepth 100000 in
theorem law_run {p : Program} {l : Launch} {e : Env} {s : State} {m : MethodId} {below : List Frame} {meth : Method} {c : Code} {b L : Nat} {xs : Nat → Int32} {dC : Nat → ClassId} {dI : Nat → Nat → Nat} {a : FlA} {ce sl ce2 sl2 i : Nat} (C0 : lw_At p s m meth c b L xs) (hN : fw_N s) (hK : va_K (dC, dI) vwCl (cTy a) s) (hL : L ≤ 2560) (hi : i + 5 ≤ L) (h1 : ce + 3 ≤ ce2) (h2 : sl + 107 ≤ sl2) (h3 : ce2 ≤ 600000) (h4 : sl2 ≤ 7302250) (hnext : lw_go p l e s m below meth c b dC dI a ce2 sl2 476 i) : lw_go p l e s m below meth c b dC dI a ce sl 140 i := by
  obtain ⟨hx, hb, hr, hml, hown, hts, hX, hbl, hlocks, hgv⟩ := id C0
  have hbA : ¬ (fun q : Nat => s.heap.size ≤ q) b := Nat.not_le.mpr hbl
  intro k mm H locs ls hI hP hD hS hl
  by_cases hq : (xs (nI (i + 3)).toNatClampNeg) = 0
  · obtain ⟨S1, S2, mc, ms, ans, k', m', b1, b2, hC, hM, hJ⟩ := op_run a k mm hI (xs (nI (i + 1)).toNatClampNeg) (xs (nI (i + 2)).toNatClampNeg) false
    refine lv_aload_n hx hb dL_law_140 rfl (lv_at hl 1 rfl) ?_
    refine lv_aload_n hx hb dL_law_141 rfl (lv_at hl 0 rfl) ?_
    refine lv_iload_n hx hb dL_law_142 rfl (lv_at hl 3 rfl) ?_
    refine lv_iconst (v := 1) hx hb dL_law_143 (by decide) ?_
    refine lv_iadd hx hb dL_law_144 ?_
    refine fw_i (x' := nI (i + 1)) (nI_add i 1) ?_
    refine va_sld hx hb hX hbl hbA hS (vp_in_nI (n := i + 1) (by omega) (by omega)) dL_law_145 ?_
    refine lv_aload_n hx hb dL_law_146 rfl (lv_at hl 0 rfl) ?_
    refine lv_iload_n hx hb dL_law_147 rfl (lv_at hl 3 rfl) ?_
    refine lv_iconst (v := 2) hx hb dL_law_148 (by decide) ?_
    refine lv_iadd hx hb dL_law_149 ?_
    refine fw_i (x' := nI (i + 2)) (nI_add i 2) ?_
    refine va_sld hx hb hX hbl hbA hS (vp_in_nI (n := i + 2) (by omega) (by omega)) dL_law_150 ?_
    refine lv_aload_n hx hb dL_law_151 rfl (lv_at hl 0 rfl) ?_
    refine lv_iload_n hx hb dL_law_152 rfl (lv_at hl 3 rfl) ?_
    refine lv_iconst (v := 3) hx hb dL_law_153 (by decide) ?_
    refine lv_iadd hx hb dL_law_154 ?_
    refine fw_i (x' := nI (i + 3)) (nI_add i 3) ?_
    refine va_sld hx hb hX hbl hbA hS (vp_in_nI (n := i + 3) (by omega) (by omega)) dL_law_155 ?_
    refine lv_if_eq (tgt := 163) hx hb dL_law_156 (by decide) (fun _ => ?_) (fun h => absurd hq h)
    refine lv_iconst (v := 0) hx hb dL_law_163 (by decide) ?_
    refine lw_cCi (As := [.int (xs (nI (i + 1)).toNatClampNeg), .int (xs (nI (i + 2)).toNatClampNeg), .int (zI false)]) (rest := []) (n := 3) hC C0 hN hK gL_law_X3_run rfl (by decide +kernel) rfl hP hD hS hl.1 (Nat.le_of_ble_eq_true rfl) ⟨by omega, by omega⟩ dL_law_164 (fun u H locs hP hD hS => ?_)
    refine lv_aload_n hx hb dL_law_167 rfl (lv_at hl 2 rfl) ?_
    refine lv_aload_n hx hb dL_law_168 rfl (lv_at hl 0 rfl) ?_
    refine lv_iload_n hx hb dL_law_169 rfl (lv_at hl 3 rfl) ?_
    refine lv_iconst (v := 1) hx hb dL_law_170 (by decide) ?_
    refine lv_iadd hx hb dL_law_171 ?_
    refine fw_i (x' := nI (i + 1)) (nI_add i 1) ?_
    refine va_sld hx hb hX hbl hbA hS (vp_in_nI (n := i + 1) (by omega) (by omega)) dL_law_172 ?_
    refine lv_aload_n hx hb dL_law_173 rfl (lv_at hl 0 rfl) ?_
    refine lv_iload_n hx hb dL_law_174 rfl (lv_at hl 3 rfl) ?_
    refine lv_iconst (v := 2) hx hb dL_law_175 (by decide) ?_
    refine lv_iadd hx hb dL_law_176 ?_
    refine fw_i (x' := nI (i + 2)) (nI_add i 2) ?_
    refine va_sld hx hb hX hbl hbA hS (vp_in_nI (n := i + 2) (by omega) (by omega)) dL_law_177 ?_
    refine lv_aload_n hx hb dL_law_178 rfl (lv_at hl 0 rfl) ?_
    refine lv_iload_n hx hb dL_law_179 rfl (lv_at hl 3 rfl) ?_
    refine lv_iconst (v := 3) hx hb dL_law_180 (by decide) ?_
    refine lv_iadd hx hb dL_law_181 ?_
    refine fw_i (x' := nI (i + 3)) (nI_add i 3) ?_
    refine va_sld hx hb hX hbl hbA hS (vp_in_nI (n := i + 3) (by omega) (by omega)) dL_law_182 ?_
    refine lv_if_eq (tgt := 190) hx hb dL_law_183 (by decide) (fun _ => ?_) (fun h => absurd hq h)
    refine lv_iconst (v := 0) hx hb dL_law_190 (by decide) ?_
    refine lw_cMi (As := [.int (xs (nI (i + 1)).toNatClampNeg), .int (xs (nI (i + 2)).toNatClampNeg), .int (zI false)]) (rest := [.int ans]) (n := 3) hM C0 hN hK gL_law_X4_run rfl (by decide +kernel) rfl hP hD hS hl.1 (Nat.le_of_ble_eq_true rfl) ⟨by omega, by omega⟩ dL_law_191 (fun v H locs hP hD hS => ?_)
    refine lv_icmp_eq (tgt := 476) hx hb dL_law_194 (by decide) (fun _ => ?_) (fun h => absurd rfl h)
    refine W.widen (k := ce2) (n := sl2) (by omega) (by omega) ?_
    exact hnext _ _ _ _ _ (hJ u v) hP hD hS hl
  · obtain ⟨S1, S2, mc, ms, ans, k', m', b1, b2, hC, hM, hJ⟩ := op_run a k mm hI (xs (nI (i + 1)).toNatClampNeg) (xs (nI (i + 2)).toNatClampNeg) true
    refine lv_aload_n hx hb dL_law_140 rfl (lv_at hl 1 rfl) ?_
    refine lv_aload_n hx hb dL_law_141 rfl (lv_at hl 0 rfl) ?_
    refine lv_iload_n hx hb dL_law_142 rfl (lv_at hl 3 rfl) ?_
    refine lv_iconst (v := 1) hx hb dL_law_143 (by decide) ?_
    refine lv_iadd hx hb dL_law_144 ?_
    refine fw_i (x' := nI (i + 1)) (nI_add i 1) ?_
    refine va_sld hx hb hX hbl hbA hS (vp_in_nI (n := i + 1) (by omega) (by omega)) dL_law_145 ?_
    refine lv_aload_n hx hb dL_law_146 rfl (lv_at hl 0 rfl) ?_
    refine lv_iload_n hx hb dL_law_147 rfl (lv_at hl 3 rfl) ?_
    refine lv_iconst (v := 2) hx hb dL_law_148 (by decide) ?_
    refine lv_iadd hx hb dL_law_149 ?_
    refine fw_i (x' := nI (i + 2)) (nI_add i 2) ?_
    refine va_sld hx hb hX hbl hbA hS (vp_in_nI (n := i + 2) (by omega) (by omega)) dL_law_150 ?_
    refine lv_aload_n hx hb dL_law_151 rfl (lv_at hl 0 rfl) ?_
    refine lv_iload_n hx hb dL_law_152 rfl (lv_at hl 3 rfl) ?_
    refine lv_iconst (v := 3) hx hb dL_law_153 (by decide) ?_
    refine lv_iadd hx hb dL_law_154 ?_
    refine fw_i (x' := nI (i + 3)) (nI_add i 3) ?_
    refine va_sld hx hb hX hbl hbA hS (vp_in_nI (n := i + 3) (by omega) (by omega)) dL_law_155 ?_
    refine lv_if_eq (tgt := 163) hx hb dL_law_156 (by decide) (fun h => absurd h hq) (fun _ => ?_)
    refine lv_iconst (v := 1) hx hb dL_law_159 (by decide) ?_
    refine lv_goto (tgt := 164) hx hb dL_law_160 (by decide) ?_
    refine lw_cCi (As := [.int (xs (nI (i + 1)).toNatClampNeg), .int (xs (nI (i + 2)).toNatClampNeg), .int (zI true)]) (rest := []) (n := 3) hC C0 hN hK gL_law_X3_run rfl (by decide +kernel) rfl hP hD hS hl.1 (Nat.le_of_ble_eq_true rfl) ⟨by omega, by omega⟩ dL_law_164 (fun u H locs hP hD hS => ?_)
    refine lv_aload_n hx hb dL_law_167 rfl (lv_at hl 2 rfl) ?_
    refine lv_aload_n hx hb dL_law_168 rfl (lv_at hl 0 rfl) ?_
    refine lv_iload_n hx hb dL_law_169 rfl (lv_at hl 3 rfl) ?_
    refine lv_iconst (v := 1) hx hb dL_law_170 (by decide) ?_
    refine lv_iadd hx hb dL_law_171 ?_
    refine fw_i (x' := nI (i + 1)) (nI_add i 1) ?_
    refine va_sld hx hb hX hbl hbA hS (vp_in_nI (n := i + 1) (by omega) (by omega)) dL_law_172 ?_
    refine lv_aload_n hx hb dL_law_173 rfl (lv_at hl 0 rfl) ?_
    refine lv_iload_n hx hb dL_law_174 rfl (lv_at hl 3 rfl) ?_
    refine lv_iconst (v := 2) hx hb dL_law_175 (by decide) ?_
    refine lv_iadd hx hb dL_law_176 ?_
    refine fw_i (x' := nI (i + 2)) (nI_add i 2) ?_
    refine va_sld hx hb hX hbl hbA hS (vp_in_nI (n := i + 2) (by omega) (by omega)) dL_law_177 ?_
    refine lv_aload_n hx hb dL_law_178 rfl (lv_at hl 0 rfl) ?_
    refine lv_iload_n hx hb dL_law_179 rfl (lv_at hl 3 rfl) ?_
    refine lv_iconst (v := 3) hx hb dL_law_180 (by decide) ?_
    refine lv_iadd hx hb dL_law_181 ?_
    refine fw_i (x' := nI (i + 3)) (nI_add i 3) ?_
    refine va_sld hx hb hX hbl hbA hS (vp_in_nI (n := i + 3) (by omega) (by omega)) dL_law_182 ?_
    refine lv_if_eq (tgt := 190) hx hb dL_law_183 (by decide) (fun h => absurd h hq) (fun _ => ?_)
    refine lv_iconst (v := 1) hx hb dL_law_186 (by decide) ?_
    refine lv_goto (tgt := 191) hx hb dL_law_187 (by decide) ?_
    refine lw_cMi (As := [.int (xs (nI (i + 1)).toNatClampNeg), .int (xs (nI (i + 2)).toNatClampNeg), .int (zI true)]) (rest := [.int ans]) (n := 3) hM C0 hN hK gL_law_X4_run rfl (by decide +kernel) rfl hP hD hS hl.1 (Nat.le_of_ble_eq_true rfl) ⟨by omega, by omega⟩ dL_law_191 (fun v H locs hP hD hS => ?_)
    refine lv_icmp_eq (tgt := 476) hx hb dL_law_194 (by decide) (fun _ => ?_) (fun h => absurd rfl h)
    refine W.widen (k := ce2) (n := sl2) (by omega) (by omega) ?_
    exact hnext _ _ _ _ _ (hJ u v) hP hD hS hl
set_option maxHeartbeats 4000000 in
set_option maxRecDepth 100000 in
theorem law_judge {p : Program} {l : Launch} {e : Env} {s : State} {m : MethodId} {below : List Frame} {meth : Method} {c : Code} {b L : Nat} {xs : Nat → Int32} {dC : Nat → ClassId} {dI : Nat → Nat → Nat} {a : FlA} {ce sl ce2 sl2 i : Nat} (C0 : lw_At p s m meth c b L xs) (hN : fw_N s) (hK : va_K (dC, dI) vwCl (cTy a) s) (hL : L ≤ 2560) (hi : i + 5 ≤ L) (h1 : ce + 3 ≤ ce2) (h2 : sl + 107 ≤ sl2) (h3 : ce2 ≤ 600000) (h4 : sl2 ≤ 7302250) (hnext : lw_go p l e s m below meth c b dC dI a ce2 sl2 476 i) : lw_go p l e s m below meth c b dC dI a ce sl 199 i := by
  obtain ⟨hx, hb, hr, hml, hown, hts, hX, hbl, hlocks, hgv⟩ := id C0
  have hbA : ¬ (fun q : Nat => s.heap.size ≤ q) b := Nat.not_le.mpr hbl
  intro k mm H locs ls hI hP hD hS hl
  by_cases hq : (xs (nI (i + 3)).toNatClampNeg) = 0
  · obtain ⟨S1, S2, mc, ms, ans, k', m', b1, b2, hC, hM, hJ⟩ := op_judge a k mm hI (xs (nI (i + 1)).toNatClampNeg) (xs (nI (i + 2)).toNatClampNeg) false
    refine lv_aload_n hx hb dL_law_199 rfl (lv_at hl 1 rfl) ?_
    refine lv_aload_n hx hb dL_law_200 rfl (lv_at hl 0 rfl) ?_
    refine lv_iload_n hx hb dL_law_201 rfl (lv_at hl 3 rfl) ?_
    refine lv_iconst (v := 1) hx hb dL_law_202 (by decide) ?_
    refine lv_iadd hx hb dL_law_203 ?_
    refine fw_i (x' := nI (i + 1)) (nI_add i 1) ?_
    refine va_sld hx hb hX hbl hbA hS (vp_in_nI (n := i + 1) (by omega) (by omega)) dL_law_204 ?_
    refine lv_aload_n hx hb dL_law_205 rfl (lv_at hl 0 rfl) ?_
    refine lv_iload_n hx hb dL_law_206 rfl (lv_at hl 3 rfl) ?_
    refine lv_iconst (v := 2) hx hb dL_law_207 (by decide) ?_
    refine lv_iadd hx hb dL_law_208 ?_
    refine fw_i (x' := nI (i + 2)) (nI_add i 2) ?_
    refine va_sld hx hb hX hbl hbA hS (vp_in_nI (n := i + 2) (by omega) (by omega)) dL_law_209 ?_
    refine lv_aload_n hx hb dL_law_210 rfl (lv_at hl 0 rfl) ?_
    refine lv_iload_n hx hb dL_law_211 rfl (lv_at hl 3 rfl) ?_
    refine lv_iconst (v := 3) hx hb dL_law_212 (by decide) ?_
    refine lv_iadd hx hb dL_law_213 ?_
    refine fw_i (x' := nI (i + 3)) (nI_add i 3) ?_
    refine va_sld hx hb hX hbl hbA hS (vp_in_nI (n := i + 3) (by omega) (by omega)) dL_law_214 ?_
    refine lv_if_eq (tgt := 222) hx hb dL_law_215 (by decide) (fun _ => ?_) (fun h => absurd hq h)
    refine lv_iconst (v := 0) hx hb dL_law_222 (by decide) ?_
    refine lw_cCi (As := [.int (xs (nI (i + 1)).toNatClampNeg), .int (xs (nI (i + 2)).toNatClampNeg), .int (zI false)]) (rest := []) (n := 3) hC C0 hN hK gL_law_X3_judge rfl (by decide +kernel) rfl hP hD hS hl.1 (Nat.le_of_ble_eq_true rfl) ⟨by omega, by omega⟩ dL_law_223 (fun u H locs hP hD hS => ?_)
    refine lv_aload_n hx hb dL_law_226 rfl (lv_at hl 2 rfl) ?_
    refine lv_aload_n hx hb dL_law_227 rfl (lv_at hl 0 rfl) ?_
    refine lv_iload_n hx hb dL_law_228 rfl (lv_at hl 3 rfl) ?_
    refine lv_iconst (v := 1) hx hb dL_law_229 (by decide) ?_
    refine lv_iadd hx hb dL_law_230 ?_
    refine fw_i (x' := nI (i + 1)) (nI_add i 1) ?_
    refine va_sld hx hb hX hbl hbA hS (vp_in_nI (n := i + 1) (by omega) (by omega)) dL_law_231 ?_
    refine lv_aload_n hx hb dL_law_232 rfl (lv_at hl 0 rfl) ?_
    refine lv_iload_n hx hb dL_law_233 rfl (lv_at hl 3 rfl) ?_
    refine lv_iconst (v := 2) hx hb dL_law_234 (by decide) ?_
    refine lv_iadd hx hb dL_law_235 ?_
    refine fw_i (x' := nI (i + 2)) (nI_add i 2) ?_
    refine va_sld hx hb hX hbl hbA hS (vp_in_nI (n := i + 2) (by omega) (by omega)) dL_law_236 ?_
    refine lv_aload_n hx hb dL_law_237 rfl (lv_at hl 0 rfl) ?_
    refine lv_iload_n hx hb dL_law_238 rfl (lv_at hl 3 rfl) ?_
    refine lv_iconst (v := 3) hx hb dL_law_239 (by decide) ?_
    refine lv_iadd hx hb dL_law_240 ?_
    refine fw_i (x' := nI (i + 3)) (nI_add i 3) ?_
    refine va_sld hx hb hX hbl hbA hS (vp_in_nI (n := i + 3) (by omega) (by omega)) dL_law_241 ?_
    refine lv_if_eq (tgt := 249) hx hb dL_law_242 (by decide) (fun _ => ?_) (fun h => absurd hq h)
    refine lv_iconst (v := 0) hx hb dL_law_249 (by decide) ?_
    refine lw_cMi (As := [.int (xs (nI (i + 1)).toNatClampNeg), .int (xs (nI (i + 2)).toNatClampNeg), .int (zI false)]) (rest := [.int ans]) (n := 3) hM C0 hN hK gL_law_X4_judge rfl (by decide +kernel) rfl hP hD hS hl.1 (Nat.le_of_ble_eq_true rfl) ⟨by omega, by omega⟩ dL_law_250 (fun v H locs hP hD hS => ?_)
    refine lv_icmp_eq (tgt := 476) hx hb dL_law_253 (by decide) (fun _ => ?_) (fun h => absurd rfl h)
    refine W.widen (k := ce2) (n := sl2) (by omega) (by omega) ?_
    exact hnext _ _ _ _ _ (hJ u v) hP hD hS hl
  · obtain ⟨S1, S2, mc, ms, ans, k', m', b1, b2, hC, hM, hJ⟩ := op_judge a k mm hI (xs (nI (i + 1)).toNatClampNeg) (xs (nI (i + 2)).toNatClampNeg) true
    refine lv_aload_n hx hb dL_law_199 rfl (lv_at hl 1 rfl) ?_
    refine lv_aload_n hx hb dL_law_200 rfl (lv_at hl 0 rfl) ?_
    refine lv_iload_n hx hb dL_law_201 rfl (lv_at hl 3 rfl) ?_
    refine lv_iconst (v := 1) hx hb dL_law_202 (by decide) ?_
    refine lv_iadd hx hb dL_law_203 ?_
    refine fw_i (x' := nI (i + 1)) (nI_add i 1) ?_
    refine va_sld hx hb hX hbl hbA hS (vp_in_nI (n := i + 1) (by omega) (by omega)) dL_law_204 ?_
    refine lv_aload_n hx hb dL_law_205 rfl (lv_at hl 0 rfl) ?_
    refine lv_iload_n hx hb dL_law_206 rfl (lv_at hl 3 rfl) ?_
    refine lv_iconst (v := 2) hx hb dL_law_207 (by decide) ?_
    refine lv_iadd hx hb dL_law_208 ?_
    refine fw_i (x' := nI (i + 2)) (nI_add i 2) ?_
    refine va_sld hx hb hX hbl hbA hS (vp_in_nI (n := i + 2) (by omega) (by omega)) dL_law_209 ?_
    refine lv_aload_n hx hb dL_law_210 rfl (lv_at hl 0 rfl) ?_
    refine lv_iload_n hx hb dL_law_211 rfl (lv_at hl 3 rfl) ?_
    refine lv_iconst (v := 3) hx hb dL_law_212 (by decide) ?_
    refine lv_iadd hx hb dL_law_213 ?_
    refine fw_i (x' := nI (i + 3)) (nI_add i 3) ?_
    refine va_sld hx hb hX hbl hbA hS (vp_in_nI (n := i + 3) (by omega) (by omega)) dL_law_214 ?_
    refine lv_if_eq (tgt := 222) hx hb dL_law_215 (by decide) (fun h => absurd h hq) (fun _ => ?_)
    refine lv_iconst (v := 1) hx hb dL_law_218 (by decide) ?_
    refine lv_goto (tgt := 223) hx hb dL_law_219 (by decide) ?_
    refine lw_cCi (As := [.int (xs (nI (i + 1)).toNatClampNeg), .int (xs (nI (i + 2)).toNatClampNeg), .int (zI true)]) (rest := []) (n := 3) hC C0 hN hK gL_law_X3_judge rfl (by decide +kernel) rfl hP hD hS hl.1 (Nat.le_of_ble_eq_true rfl) ⟨by omega, by omega⟩ dL_law_223 (fun u H locs hP hD hS => ?_)
    refine lv_aload_n hx hb dL_law_226 rfl (lv_at hl 2 rfl) ?_
    refine lv_aload_n hx hb dL_law_227 rfl (lv_at hl 0 rfl) ?_
    refine lv_iload_n hx hb dL_law_228 rfl (lv_at hl 3 rfl) ?_
    refine lv_iconst (v := 1) hx hb dL_law_229 (by decide) ?_
    refine lv_iadd hx hb dL_law_230 ?_
    refine fw_i (x' := nI (i + 1)) (nI_add i 1) ?_
    refine va_sld hx hb hX hbl hbA hS (vp_in_nI (n := i + 1) (by omega) (by omega)) dL_law_231 ?_
    refine lv_aload_n hx hb dL_law_232 rfl (lv_at hl 0 rfl) ?_
    refine lv_iload_n hx hb dL_law_233 rfl (lv_at hl 3 rfl) ?_
    refine lv_iconst (v := 2) hx hb dL_law_234 (by decide) ?_
    refine lv_iadd hx hb dL_law_235 ?_
    refine fw_i (x' := nI (i + 2)) (nI_add i 2) ?_
    refine va_sld hx hb hX hbl hbA hS (vp_in_nI (n := i + 2) (by omega) (by omega)) dL_law_236 ?_
    refine lv_aload_n hx hb dL_law_237 rfl (lv_at hl 0 rfl) ?_
    refine lv_iload_n hx hb dL_law_238 rfl (lv_at hl 3 rfl) ?_
    refine lv_iconst (v := 3) hx hb dL_law_239 (by decide) ?_
    refine lv_iadd hx hb dL_law_240 ?_
    refine fw_i (x' := nI (i + 3)) (nI_add i 3) ?_
    refine va_sld hx hb hX hbl hbA hS (vp_in_nI (n := i + 3) (by omega) (by omega)) dL_law_241 ?_
    refine lv_if_eq (tgt := 249) hx hb dL_law_242 (by decide) (fun h => absurd h hq) (fun _ => ?_)
    refine lv_iconst (v := 1) hx hb dL_law_245 (by decide) ?_
    refine lv_goto (tgt := 250) hx hb dL_law_246 (by decide) ?_
    refine lw_cMi (As := [.int (xs (nI (i + 1)).toNatClampNeg), .int (xs (nI (i + 2)).toNatClampNeg), .int (zI true)]) (rest := [.int ans]) (n := 3) hM C0 hN hK gL_law_X4_judge rfl (by decide +kernel) rfl hP hD hS hl.1 (Nat.le_of_ble_eq_true rfl) ⟨by omega, by omega⟩ dL_law_250 (fun v H locs hP hD hS => ?_)
    refine lv_icmp_eq (tgt := 476) hx hb dL_law_253 (by decide) (fun _ => ?_) (fun h => absurd rfl h)
    refine W.widen (k := ce2) (n := sl2) (by omega) (by omega) ?_
    exact hnext _ _ _ _ _ (hJ u v) hP hD hS hl
set_option maxHeartbeats 4000000 in
set_option maxRecDepth 100000 in
theorem law_about {p : Program} {l : Launch} {e : Env} {s : State} {m : MethodId} {below : List Frame} {meth : Method} {c : Code} {b L : Nat} {xs : Nat → Int32} {dC : Nat → ClassId} {dI : Nat → Nat → Nat} {a : FlA} {ce sl ce2 sl2 i : Nat} (C0 : lw_At p s m meth c b L xs) (hN : fw_N s) (hK : va_K (dC, dI) vwCl (cTy a) s) (hL : L ≤ 2560) (hi : i + 5 ≤ L) (h1 : ce + 3 ≤ ce2) (h2 : sl + 107 ≤ sl2) (h3 : ce2 ≤ 600000) (h4 : sl2 ≤ 7302250) (hnext : lw_go p l e s m below meth c b dC dI a ce2 sl2 476 i) : lw_go p l e s m below meth c b dC dI a ce sl 258 i := by
  obtain ⟨hx, hb, hr, hml, hown, hts, hX, hbl, hlocks, hgv⟩ := id C0
  have hbA : ¬ (fun q : Nat => s.heap.size ≤ q) b := Nat.not_le.mpr hbl
  intro k mm H locs ls hI hP hD hS hl
  obtain ⟨S1, S2, mc, ms, ans, k', m', b1, b2, hC, hM, hJ⟩ := op_about a k mm hI (xs (nI (i + 1)).toNatClampNeg) (xs (nI (i + 2)).toNatClampNeg)
  refine lv_aload_n hx hb dL_law_258 rfl (lv_at hl 1 rfl) ?_
  refine lv_aload_n hx hb dL_law_259 rfl (lv_at hl 0 rfl) ?_
  refine lv_iload_n hx hb dL_law_260 rfl (lv_at hl 3 rfl) ?_
  refine lv_iconst (v := 1) hx hb dL_law_261 (by decide) ?_
  refine lv_iadd hx hb dL_law_262 ?_
  refine fw_i (x' := nI (i + 1)) (nI_add i 1) ?_
  refine va_sld hx hb hX hbl hbA hS (vp_in_nI (n := i + 1) (by omega) (by omega)) dL_law_263 ?_
  refine lv_aload_n hx hb dL_law_264 rfl (lv_at hl 0 rfl) ?_
  refine lv_iload_n hx hb dL_law_265 rfl (lv_at hl 3 rfl) ?_
  refine lv_iconst (v := 2) hx hb dL_law_266 (by decide) ?_
  refine lv_iadd hx hb dL_law_267 ?_
  refine fw_i (x' := nI (i + 2)) (nI_add i 2) ?_
  refine va_sld hx hb hX hbl hbA hS (vp_in_nI (n := i + 2) (by omega) (by omega)) dL_law_268 ?_
  refine lw_cCi (As := [.int (xs (nI (i + 1)).toNatClampNeg), .int (xs (nI (i + 2)).toNatClampNeg)]) (rest := []) (n := 2) hC C0 hN hK gL_law_X3_about rfl (by decide +kernel) rfl hP hD hS hl.1 (Nat.le_of_ble_eq_true rfl) ⟨by omega, by omega⟩ dL_law_269 (fun u H locs hP hD hS => ?_)
  refine lv_aload_n hx hb dL_law_272 rfl (lv_at hl 2 rfl) ?_
  refine lv_aload_n hx hb dL_law_273 rfl (lv_at hl 0 rfl) ?_
  refine lv_iload_n hx hb dL_law_274 rfl (lv_at hl 3 rfl) ?_
  refine lv_iconst (v := 1) hx hb dL_law_275 (by decide) ?_
  refine lv_iadd hx hb dL_law_276 ?_
  refine fw_i (x' := nI (i + 1)) (nI_add i 1) ?_
  refine va_sld hx hb hX hbl hbA hS (vp_in_nI (n := i + 1) (by omega) (by omega)) dL_law_277 ?_
  refine lv_aload_n hx hb dL_law_278 rfl (lv_at hl 0 rfl) ?_
  refine lv_iload_n hx hb dL_law_279 rfl (lv_at hl 3 rfl) ?_
  refine lv_iconst (v := 2) hx hb dL_law_280 (by decide) ?_
  refine lv_iadd hx hb dL_law_281 ?_
  refine fw_i (x' := nI (i + 2)) (nI_add i 2) ?_
  refine va_sld hx hb hX hbl hbA hS (vp_in_nI (n := i + 2) (by omega) (by omega)) dL_law_282 ?_
  refine lw_cMi (As := [.int (xs (nI (i + 1)).toNatClampNeg), .int (xs (nI (i + 2)).toNatClampNeg)]) (rest := [.int ans]) (n := 2) hM C0 hN hK gL_law_X4_about rfl (by decide +kernel) rfl hP hD hS hl.1 (Nat.le_of_ble_eq_true rfl) ⟨by omega, by omega⟩ dL_law_283 (fun v H locs hP hD hS => ?_)
  refine lv_icmp_eq (tgt := 476) hx hb dL_law_286 (by decide) (fun _ => ?_) (fun h => absurd rfl h)
  refine W.widen (k := ce2) (n := sl2) (by omega) (by omega) ?_
  exact hnext _ _ _ _ _ (hJ u v) hP hD hS hl
set_option maxHeartbeats 4000000 in
set_option maxRecDepth 100000 in
theorem law_bound {p : Program} {l : Launch} {e : Env} {s : State} {m : MethodId} {below : List Frame} {meth : Method} {c : Code} {b L : Nat} {xs : Nat → Int32} {dC : Nat → ClassId} {dI : Nat → Nat → Nat} {a : FlA} {ce sl ce2 sl2 i : Nat} (C0 : lw_At p s m meth c b L xs) (hN : fw_N s) (hK : va_K (dC, dI) vwCl (cTy a) s) (hL : L ≤ 2560) (hi : i + 5 ≤ L) (h1 : ce + 3 ≤ ce2) (h2 : sl + 107 ≤ sl2) (h3 : ce2 ≤ 600000) (h4 : sl2 ≤ 7302250) (hnext : lw_go p l e s m below meth c b dC dI a ce2 sl2 476 i) : lw_go p l e s m below meth c b dC dI a ce sl 291 i := by
  obtain ⟨hx, hb, hr, hml, hown, hts, hX, hbl, hlocks, hgv⟩ := id C0
  have hbA : ¬ (fun q : Nat => s.heap.size ≤ q) b := Nat.not_le.mpr hbl
  intro k mm H locs ls hI hP hD hS hl
  by_cases hq : (xs (nI (i + 3)).toNatClampNeg) = 0
  · obtain ⟨S1, S2, mc, ms, ans, k', m', b1, b2, hC, hM, hJ⟩ := op_bound a k mm hI (xs (nI (i + 1)).toNatClampNeg) (xs (nI (i + 2)).toNatClampNeg) false
    refine lv_aload_n hx hb dL_law_291 rfl (lv_at hl 1 rfl) ?_
    refine lv_aload_n hx hb dL_law_292 rfl (lv_at hl 0 rfl) ?_
    refine lv_iload_n hx hb dL_law_293 rfl (lv_at hl 3 rfl) ?_
    refine lv_iconst (v := 1) hx hb dL_law_294 (by decide) ?_
    refine lv_iadd hx hb dL_law_295 ?_
    refine fw_i (x' := nI (i + 1)) (nI_add i 1) ?_
    refine va_sld hx hb hX hbl hbA hS (vp_in_nI (n := i + 1) (by omega) (by omega)) dL_law_296 ?_
    refine lv_aload_n hx hb dL_law_297 rfl (lv_at hl 0 rfl) ?_
    refine lv_iload_n hx hb dL_law_298 rfl (lv_at hl 3 rfl) ?_
    refine lv_iconst (v := 2) hx hb dL_law_299 (by decide) ?_
    refine lv_iadd hx hb dL_law_300 ?_
    refine fw_i (x' := nI (i + 2)) (nI_add i 2) ?_
    refine va_sld hx hb hX hbl hbA hS (vp_in_nI (n := i + 2) (by omega) (by omega)) dL_law_301 ?_
    refine lv_aload_n hx hb dL_law_302 rfl (lv_at hl 0 rfl) ?_
    refine lv_iload_n hx hb dL_law_303 rfl (lv_at hl 3 rfl) ?_
    refine lv_iconst (v := 3) hx hb dL_law_304 (by decide) ?_
    refine lv_iadd hx hb dL_law_305 ?_
    refine fw_i (x' := nI (i + 3)) (nI_add i 3) ?_
    refine va_sld hx hb hX hbl hbA hS (vp_in_nI (n := i + 3) (by omega) (by omega)) dL_law_306 ?_
    refine lv_if_eq (tgt := 314) hx hb dL_law_307 (by decide) (fun _ => ?_) (fun h => absurd hq h)
    refine lv_iconst (v := 0) hx hb dL_law_314 (by decide) ?_
    refine lw_cCi (As := [.int (xs (nI (i + 1)).toNatClampNeg), .int (xs (nI (i + 2)).toNatClampNeg), .int (zI false)]) (rest := []) (n := 3) hC C0 hN hK gL_law_X3_bound rfl (by decide +kernel) rfl hP hD hS hl.1 (Nat.le_of_ble_eq_true rfl) ⟨by omega, by omega⟩ dL_law_315 (fun u H locs hP hD hS => ?_)
    refine lv_aload_n hx hb dL_law_318 rfl (lv_at hl 2 rfl) ?_
    refine lv_aload_n hx hb dL_law_319 rfl (lv_at hl 0 rfl) ?_
    refine lv_iload_n hx hb dL_law_320 rfl (lv_at hl 3 rfl) ?_
    refine lv_iconst (v := 1) hx hb dL_law_321 (by decide) ?_
    refine lv_iadd hx hb dL_law_322 ?_
    refine fw_i (x' := nI (i + 1)) (nI_add i 1) ?_
    refine va_sld hx hb hX hbl hbA hS (vp_in_nI (n := i + 1) (by omega) (by omega)) dL_law_323 ?_
    refine lv_aload_n hx hb dL_law_324 rfl (lv_at hl 0 rfl) ?_
    refine lv_iload_n hx hb dL_law_325 rfl (lv_at hl 3 rfl) ?_
    refine lv_iconst (v := 2) hx hb dL_law_326 (by decide) ?_
    refine lv_iadd hx hb dL_law_327 ?_
    refine fw_i (x' := nI (i + 2)) (nI_add i 2) ?_
    refine va_sld hx hb hX hbl hbA hS (vp_in_nI (n := i + 2) (by omega) (by omega)) dL_law_328 ?_
    refine lv_aload_n hx hb dL_law_329 rfl (lv_at hl 0 rfl) ?_
    refine lv_iload_n hx hb dL_law_330 rfl (lv_at hl 3 rfl) ?_
    refine lv_iconst (v := 3) hx hb dL_law_331 (by decide) ?_
    refine lv_iadd hx hb dL_law_332 ?_
    refine fw_i (x' := nI (i + 3)) (nI_add i 3) ?_
    refine va_sld hx hb hX hbl hbA hS (vp_in_nI (n := i + 3) (by omega) (by omega)) dL_law_333 ?_
    refine lv_if_eq (tgt := 341) hx hb dL_law_334 (by decide) (fun _ => ?_) (fun h => absurd hq h)
    refine lv_iconst (v := 0) hx hb dL_law_341 (by decide) ?_
    refine lw_cMi (As := [.int (xs (nI (i + 1)).toNatClampNeg), .int (xs (nI (i + 2)).toNatClampNeg), .int (zI false)]) (rest := [.int ans]) (n := 3) hM C0 hN hK gL_law_X4_bound rfl (by decide +kernel) rfl hP hD hS hl.1 (Nat.le_of_ble_eq_true rfl) ⟨by omega, by omega⟩ dL_law_342 (fun v H locs hP hD hS => ?_)
    refine lv_icmp_eq (tgt := 476) hx hb dL_law_345 (by decide) (fun _ => ?_) (fun h => absurd rfl h)
    refine W.widen (k := ce2) (n := sl2) (by omega) (by omega) ?_
    exact hnext _ _ _ _ _ (hJ u v) hP hD hS hl
  · obtain ⟨S1, S2, mc, ms, ans, k', m', b1, b2, hC, hM, hJ⟩ := op_bound a k mm hI (xs (nI (i + 1)).toNatClampNeg) (xs (nI (i + 2)).toNatClampNeg) true
    refine lv_aload_n hx hb dL_law_291 rfl (lv_at hl 1 rfl) ?_
    refine lv_aload_n hx hb dL_law_292 rfl (lv_at hl 0 rfl) ?_
    refine lv_iload_n hx hb dL_law_293 rfl (lv_at hl 3 rfl) ?_
    refine lv_iconst (v := 1) hx hb dL_law_294 (by decide) ?_
    refine lv_iadd hx hb dL_law_295 ?_
    refine fw_i (x' := nI (i + 1)) (nI_add i 1) ?_
    refine va_sld hx hb hX hbl hbA hS (vp_in_nI (n := i + 1) (by omega) (by omega)) dL_law_296 ?_
    refine lv_aload_n hx hb dL_law_297 rfl (lv_at hl 0 rfl) ?_
    refine lv_iload_n hx hb dL_law_298 rfl (lv_at hl 3 rfl) ?_
    refine lv_iconst (v := 2) hx hb dL_law_299 (by decide) ?_
    refine lv_iadd hx hb dL_law_300 ?_
    refine fw_i (x' := nI (i + 2)) (nI_add i 2) ?_
    refine va_sld hx hb hX hbl hbA hS (vp_in_nI (n := i + 2) (by omega) (by omega)) dL_law_301 ?_
    refine lv_aload_n hx hb dL_law_302 rfl (lv_at hl 0 rfl) ?_
    refine lv_iload_n hx hb dL_law_303 rfl (lv_at hl 3 rfl) ?_
    refine lv_iconst (v := 3) hx hb dL_law_304 (by decide) ?_
    refine lv_iadd hx hb dL_law_305 ?_
    refine fw_i (x' := nI (i + 3)) (nI_add i 3) ?_
    refine va_sld hx hb hX hbl hbA hS (vp_in_nI (n := i + 3) (by omega) (by omega)) dL_law_306 ?_
    refine lv_if_eq (tgt := 314) hx hb dL_law_307 (by decide) (fun h => absurd h hq) (fun _ => ?_)
    refine lv_iconst (v := 1) hx hb dL_law_310 (by decide) ?_
    refine lv_goto (tgt := 315) hx hb dL_law_311 (by decide) ?_
    refine lw_cCi (As := [.int (xs (nI (i + 1)).toNatClampNeg), .int (xs (nI (i + 2)).toNatClampNeg), .int (zI true)]) (rest := []) (n := 3) hC C0 hN hK gL_law_X3_bound rfl (by decide +kernel) rfl hP hD hS hl.1 (Nat.le_of_ble_eq_true rfl) ⟨by omega, by omega⟩ dL_law_315 (fun u H locs hP hD hS => ?_)
    refine lv_aload_n hx hb dL_law_318 rfl (lv_at hl 2 rfl) ?_
    refine lv_aload_n hx hb dL_law_319 rfl (lv_at hl 0 rfl) ?_
    refine lv_iload_n hx hb dL_law_320 rfl (lv_at hl 3 rfl) ?_
    refine lv_iconst (v := 1) hx hb dL_law_321 (by decide) ?_
    refine lv_iadd hx hb dL_law_322 ?_
    refine fw_i (x' := nI (i + 1)) (nI_add i 1) ?_
    refine va_sld hx hb hX hbl hbA hS (vp_in_nI (n := i + 1) (by omega) (by omega)) dL_law_323 ?_
    refine lv_aload_n hx hb dL_law_324 rfl (lv_at hl 0 rfl) ?_
    refine lv_iload_n hx hb dL_law_325 rfl (lv_at hl 3 rfl) ?_
    refine lv_iconst (v := 2) hx hb dL_law_326 (by decide) ?_
    refine lv_iadd hx hb dL_law_327 ?_
    refine fw_i (x' := nI (i + 2)) (nI_add i 2) ?_
    refine va_sld hx hb hX hbl hbA hS (vp_in_nI (n := i + 2) (by omega) (by omega)) dL_law_328 ?_
    refine lv_aload_n hx hb dL_law_329 rfl (lv_at hl 0 rfl) ?_
    refine lv_iload_n hx hb dL_law_330 rfl (lv_at hl 3 rfl) ?_
    refine lv_iconst (v := 3) hx hb dL_law_331 (by decide) ?_
    refine lv_iadd hx hb dL_law_332 ?_
    refine fw_i (x' := nI (i + 3)) (nI_add i 3) ?_
    refine va_sld hx hb hX hbl hbA hS (vp_in_nI (n := i + 3) (by omega) (by omega)) dL_law_333 ?_
    refine lv_if_eq (tgt := 341) hx hb dL_law_334 (by decide) (fun h => absurd h hq) (fun _ => ?_)
    refine lv_iconst (v := 1) hx hb dL_law_337 (by decide) ?_
    refine lv_goto (tgt := 342) hx hb dL_law_338 (by decide) ?_
    refine lw_cMi (As := [.int (xs (nI (i + 1)).toNatClampNeg), .int (xs (nI (i + 2)).toNatClampNeg), .int (zI true)]) (rest := [.int ans]) (n := 3) hM C0 hN hK gL_law_X4_bound rfl (by decide +kernel) rfl hP hD hS hl.1 (Nat.le_of_ble_eq_true rfl) ⟨by omega, by omega⟩ dL_law_342 (fun v H locs hP hD hS => ?_)
    refine lv_icmp_eq (tgt := 476) hx hb dL_law_345 (by decide) (fun _ => ?_) (fun h => absurd rfl h)
    refine W.widen (k := ce2) (n := sl2) (by omega) (by omega) ?_
    exact hnext _ _ _ _ _ (hJ u v) hP hD hS hl
set_option maxHeartbeats 4000000 in
set_option maxRecDepth 100000 in
theorem law_share {p : Program} {l : Launch} {e : Env} {s : State} {m : MethodId} {below : List Frame} {meth : Method} {c : Code} {b L : Nat} {xs : Nat → Int32} {dC : Nat → ClassId} {dI : Nat → Nat → Nat} {a : FlA} {ce sl ce2 sl2 i : Nat} (C0 : lw_At p s m meth c b L xs) (hN : fw_N s) (hK : va_K (dC, dI) vwCl (cTy a) s) (hL : L ≤ 2560) (hi : i + 5 ≤ L) (h1 : ce + 3 ≤ ce2) (h2 : sl + 107 ≤ sl2) (h3 : ce2 ≤ 600000) (h4 : sl2 ≤ 7302250) (hnext : lw_go p l e s m below meth c b dC dI a ce2 sl2 476 i) : lw_go p l e s m below meth c b dC dI a ce sl 350 i := by
  obtain ⟨hx, hb, hr, hml, hown, hts, hX, hbl, hlocks, hgv⟩ := id C0
  have hbA : ¬ (fun q : Nat => s.heap.size ≤ q) b := Nat.not_le.mpr hbl
  intro k mm H locs ls hI hP hD hS hl
  by_cases hq : (xs (nI (i + 3)).toNatClampNeg) = 0
  · obtain ⟨S1, S2, mc, ms, ans, k', m', b1, b2, hC, hM, hJ⟩ := op_share a k mm hI (xs (nI (i + 1)).toNatClampNeg) (xs (nI (i + 2)).toNatClampNeg) false (xs (nI (i + 4)).toNatClampNeg)
    refine lv_aload_n hx hb dL_law_350 rfl (lv_at hl 1 rfl) ?_
    refine lv_aload_n hx hb dL_law_351 rfl (lv_at hl 0 rfl) ?_
    refine lv_iload_n hx hb dL_law_352 rfl (lv_at hl 3 rfl) ?_
    refine lv_iconst (v := 1) hx hb dL_law_353 (by decide) ?_
    refine lv_iadd hx hb dL_law_354 ?_
    refine fw_i (x' := nI (i + 1)) (nI_add i 1) ?_
    refine va_sld hx hb hX hbl hbA hS (vp_in_nI (n := i + 1) (by omega) (by omega)) dL_law_355 ?_
    refine lv_aload_n hx hb dL_law_356 rfl (lv_at hl 0 rfl) ?_
    refine lv_iload_n hx hb dL_law_357 rfl (lv_at hl 3 rfl) ?_
    refine lv_iconst (v := 2) hx hb dL_law_358 (by decide) ?_
    refine lv_iadd hx hb dL_law_359 ?_
    refine fw_i (x' := nI (i + 2)) (nI_add i 2) ?_
    refine va_sld hx hb hX hbl hbA hS (vp_in_nI (n := i + 2) (by omega) (by omega)) dL_law_360 ?_
    refine lv_aload_n hx hb dL_law_361 rfl (lv_at hl 0 rfl) ?_
    refine lv_iload_n hx hb dL_law_362 rfl (lv_at hl 3 rfl) ?_
    refine lv_iconst (v := 3) hx hb dL_law_363 (by decide) ?_
    refine lv_iadd hx hb dL_law_364 ?_
    refine fw_i (x' := nI (i + 3)) (nI_add i 3) ?_
    refine va_sld hx hb hX hbl hbA hS (vp_in_nI (n := i + 3) (by omega) (by omega)) dL_law_365 ?_
    refine lv_if_eq (tgt := 373) hx hb dL_law_366 (by decide) (fun _ => ?_) (fun h => absurd hq h)
    refine lv_iconst (v := 0) hx hb dL_law_373 (by decide) ?_
    refine lv_aload_n hx hb dL_law_374 rfl (lv_at hl 0 rfl) ?_
    refine lv_iload_n hx hb dL_law_375 rfl (lv_at hl 3 rfl) ?_
    refine lv_iconst (v := 4) hx hb dL_law_376 (by decide) ?_
    refine lv_iadd hx hb dL_law_377 ?_
    refine fw_i (x' := nI (i + 4)) (nI_add i 4) ?_
    refine va_sld hx hb hX hbl hbA hS (vp_in_nI (n := i + 4) (by omega) (by omega)) dL_law_378 ?_
    refine lw_cCl (As := [.int (xs (nI (i + 1)).toNatClampNeg), .int (xs (nI (i + 2)).toNatClampNeg), .int (zI false), .int (xs (nI (i + 4)).toNatClampNeg)]) (rest := []) (n := 4) hC C0 hN hK gL_law_X3_share rfl (by decide +kernel) rfl hP hD hS hl.1 (Nat.le_of_ble_eq_true rfl) ⟨by omega, by omega⟩ dL_law_379 (fun u H locs hP hD hS => ?_)
    refine lv_aload_n hx hb dL_law_382 rfl (lv_at hl 2 rfl) ?_
    refine lv_aload_n hx hb dL_law_383 rfl (lv_at hl 0 rfl) ?_
    refine lv_iload_n hx hb dL_law_384 rfl (lv_at hl 3 rfl) ?_
    refine lv_iconst (v := 1) hx hb dL_law_385 (by decide) ?_
    refine lv_iadd hx hb dL_law_386 ?_
    refine fw_i (x' := nI (i + 1)) (nI_add i 1) ?_
    refine va_sld hx hb hX hbl hbA hS (vp_in_nI (n := i + 1) (by omega) (by omega)) dL_law_387 ?_
    refine lv_aload_n hx hb dL_law_388 rfl (lv_at hl 0 rfl) ?_
    refine lv_iload_n hx hb dL_law_389 rfl (lv_at hl 3 rfl) ?_
    refine lv_iconst (v := 2) hx hb dL_law_390 (by decide) ?_
    refine lv_iadd hx hb dL_law_391 ?_
    refine fw_i (x' := nI (i + 2)) (nI_add i 2) ?_
    refine va_sld hx hb hX hbl hbA hS (vp_in_nI (n := i + 2) (by omega) (by omega)) dL_law_392 ?_
    refine lv_aload_n hx hb dL_law_393 rfl (lv_at hl 0 rfl) ?_
    refine lv_iload_n hx hb dL_law_394 rfl (lv_at hl 3 rfl) ?_
    refine lv_iconst (v := 3) hx hb dL_law_395 (by decide) ?_
    refine lv_iadd hx hb dL_law_396 ?_
    refine fw_i (x' := nI (i + 3)) (nI_add i 3) ?_
    refine va_sld hx hb hX hbl hbA hS (vp_in_nI (n := i + 3) (by omega) (by omega)) dL_law_397 ?_
    refine lv_if_eq (tgt := 405) hx hb dL_law_398 (by decide) (fun _ => ?_) (fun h => absurd hq h)
    refine lv_iconst (v := 0) hx hb dL_law_405 (by decide) ?_
    refine lv_aload_n hx hb dL_law_406 rfl (lv_at hl 0 rfl) ?_
    refine lv_iload_n hx hb dL_law_407 rfl (lv_at hl 3 rfl) ?_
    refine lv_iconst (v := 4) hx hb dL_law_408 (by decide) ?_
    refine lv_iadd hx hb dL_law_409 ?_
    refine fw_i (x' := nI (i + 4)) (nI_add i 4) ?_
    refine va_sld hx hb hX hbl hbA hS (vp_in_nI (n := i + 4) (by omega) (by omega)) dL_law_410 ?_
    refine lw_cMl (As := [.int (xs (nI (i + 1)).toNatClampNeg), .int (xs (nI (i + 2)).toNatClampNeg), .int (zI false), .int (xs (nI (i + 4)).toNatClampNeg)]) (rest := [.long ans]) (n := 4) hM C0 hN hK gL_law_X4_share rfl (by decide +kernel) rfl hP hD hS hl.1 (Nat.le_of_ble_eq_true rfl) ⟨by omega, by omega⟩ dL_law_411 (fun v H locs hP hD hS => ?_)
    refine W.lcmp hx hb dL_law_414 ?_
    refine lv_if_eq (tgt := 476) hx hb dL_law_415 (by decide) (fun _ => ?_) (fun h => absurd ((lg_cmp_eq _ _).mpr rfl) h)
    refine W.widen (k := ce2) (n := sl2) (by omega) (by omega) ?_
    exact hnext _ _ _ _ _ (hJ u v) hP hD hS hl
  · obtain ⟨S1, S2, mc, ms, ans, k', m', b1, b2, hC, hM, hJ⟩ := op_share a k mm hI (xs (nI (i + 1)).toNatClampNeg) (xs (nI (i + 2)).toNatClampNeg) true (xs (nI (i + 4)).toNatClampNeg)
    refine lv_aload_n hx hb dL_law_350 rfl (lv_at hl 1 rfl) ?_
    refine lv_aload_n hx hb dL_law_351 rfl (lv_at hl 0 rfl) ?_
    refine lv_iload_n hx hb dL_law_352 rfl (lv_at hl 3 rfl) ?_
    refine lv_iconst (v := 1) hx hb dL_law_353 (by decide) ?_
    refine lv_iadd hx hb dL_law_354 ?_
    refine fw_i (x' := nI (i + 1)) (nI_add i 1) ?_
    refine va_sld hx hb hX hbl hbA hS (vp_in_nI (n := i + 1) (by omega) (by omega)) dL_law_355 ?_
    refine lv_aload_n hx hb dL_law_356 rfl (lv_at hl 0 rfl) ?_
    refine lv_iload_n hx hb dL_law_357 rfl (lv_at hl 3 rfl) ?_
    refine lv_iconst (v := 2) hx hb dL_law_358 (by decide) ?_
    refine lv_iadd hx hb dL_law_359 ?_
    refine fw_i (x' := nI (i + 2)) (nI_add i 2) ?_
    refine va_sld hx hb hX hbl hbA hS (vp_in_nI (n := i + 2) (by omega) (by omega)) dL_law_360 ?_
    refine lv_aload_n hx hb dL_law_361 rfl (lv_at hl 0 rfl) ?_
    refine lv_iload_n hx hb dL_law_362 rfl (lv_at hl 3 rfl) ?_
    refine lv_iconst (v := 3) hx hb dL_law_363 (by decide) ?_
    refine lv_iadd hx hb dL_law_364 ?_
    refine fw_i (x' := nI (i + 3)) (nI_add i 3) ?_
    refine va_sld hx hb hX hbl hbA hS (vp_in_nI (n := i + 3) (by omega) (by omega)) dL_law_365 ?_
    refine lv_if_eq (tgt := 373) hx hb dL_law_366 (by decide) (fun h => absurd h hq) (fun _ => ?_)
    refine lv_iconst (v := 1) hx hb dL_law_369 (by decide) ?_
    refine lv_goto (tgt := 374) hx hb dL_law_370 (by decide) ?_
    refine lv_aload_n hx hb dL_law_374 rfl (lv_at hl 0 rfl) ?_
    refine lv_iload_n hx hb dL_law_375 rfl (lv_at hl 3 rfl) ?_
    refine lv_iconst (v := 4) hx hb dL_law_376 (by decide) ?_
    refine lv_iadd hx hb dL_law_377 ?_
    refine fw_i (x' := nI (i + 4)) (nI_add i 4) ?_
    refine va_sld hx hb hX hbl hbA hS (vp_in_nI (n := i + 4) (by omega) (by omega)) dL_law_378 ?_
    refine lw_cCl (As := [.int (xs (nI (i + 1)).toNatClampNeg), .int (xs (nI (i + 2)).toNatClampNeg), .int (zI true), .int (xs (nI (i + 4)).toNatClampNeg)]) (rest := []) (n := 4) hC C0 hN hK gL_law_X3_share rfl (by decide +kernel) rfl hP hD hS hl.1 (Nat.le_of_ble_eq_true rfl) ⟨by omega, by omega⟩ dL_law_379 (fun u H locs hP hD hS => ?_)
    refine lv_aload_n hx hb dL_law_382 rfl (lv_at hl 2 rfl) ?_
    refine lv_aload_n hx hb dL_law_383 rfl (lv_at hl 0 rfl) ?_
    refine lv_iload_n hx hb dL_law_384 rfl (lv_at hl 3 rfl) ?_
    refine lv_iconst (v := 1) hx hb dL_law_385 (by decide) ?_
    refine lv_iadd hx hb dL_law_386 ?_
    refine fw_i (x' := nI (i + 1)) (nI_add i 1) ?_
    refine va_sld hx hb hX hbl hbA hS (vp_in_nI (n := i + 1) (by omega) (by omega)) dL_law_387 ?_
    refine lv_aload_n hx hb dL_law_388 rfl (lv_at hl 0 rfl) ?_
    refine lv_iload_n hx hb dL_law_389 rfl (lv_at hl 3 rfl) ?_
    refine lv_iconst (v := 2) hx hb dL_law_390 (by decide) ?_
    refine lv_iadd hx hb dL_law_391 ?_
    refine fw_i (x' := nI (i + 2)) (nI_add i 2) ?_
    refine va_sld hx hb hX hbl hbA hS (vp_in_nI (n := i + 2) (by omega) (by omega)) dL_law_392 ?_
    refine lv_aload_n hx hb dL_law_393 rfl (lv_at hl 0 rfl) ?_
    refine lv_iload_n hx hb dL_law_394 rfl (lv_at hl 3 rfl) ?_
    refine lv_iconst (v := 3) hx hb dL_law_395 (by decide) ?_
    refine lv_iadd hx hb dL_law_396 ?_
    refine fw_i (x' := nI (i + 3)) (nI_add i 3) ?_
    refine va_sld hx hb hX hbl hbA hS (vp_in_nI (n := i + 3) (by omega) (by omega)) dL_law_397 ?_
    refine lv_if_eq (tgt := 405) hx hb dL_law_398 (by decide) (fun h => absurd h hq) (fun _ => ?_)
    refine lv_iconst (v := 1) hx hb dL_law_401 (by decide) ?_
    refine lv_goto (tgt := 406) hx hb dL_law_402 (by decide) ?_
    refine lv_aload_n hx hb dL_law_406 rfl (lv_at hl 0 rfl) ?_
    refine lv_iload_n hx hb dL_law_407 rfl (lv_at hl 3 rfl) ?_
    refine lv_iconst (v := 4) hx hb dL_law_408 (by decide) ?_
    refine lv_iadd hx hb dL_law_409 ?_
    refine fw_i (x' := nI (i + 4)) (nI_add i 4) ?_
    refine va_sld hx hb hX hbl hbA hS (vp_in_nI (n := i + 4) (by omega) (by omega)) dL_law_410 ?_
    refine lw_cMl (As := [.int (xs (nI (i + 1)).toNatClampNeg), .int (xs (nI (i + 2)).toNatClampNeg), .int (zI true), .int (xs (nI (i + 4)).toNatClampNeg)]) (rest := [.long ans]) (n := 4) hM C0 hN hK gL_law_X4_share rfl (by decide +kernel) rfl hP hD hS hl.1 (Nat.le_of_ble_eq_true rfl) ⟨by omega, by omega⟩ dL_law_411 (fun v H locs hP hD hS => ?_)
    refine W.lcmp hx hb dL_law_414 ?_
    refine lv_if_eq (tgt := 476) hx hb dL_law_415 (by decide) (fun _ => ?_) (fun h => absurd ((lg_cmp_eq _ _).mpr rfl) h)
    refine W.widen (k := ce2) (n := sl2) (by omega) (by omega) ?_
    exact hnext _ _ _ _ _ (hJ u v) hP hD hS hl
set_option maxHeartbeats 4000000 in
set_option maxRecDepth 100000 in
theorem law_isBad {p : Program} {l : Launch} {e : Env} {s : State} {m : MethodId} {below : List Frame} {meth : Method} {c : Code} {b L : Nat} {xs : Nat → Int32} {dC : Nat → ClassId} {dI : Nat → Nat → Nat} {a : FlA} {ce sl ce2 sl2 i : Nat} (C0 : lw_At p s m meth c b L xs) (hN : fw_N s) (hK : va_K (dC, dI) vwCl (cTy a) s) (hL : L ≤ 2560) (hi : i + 5 ≤ L) (h1 : ce + 3 ≤ ce2) (h2 : sl + 107 ≤ sl2) (h3 : ce2 ≤ 600000) (h4 : sl2 ≤ 7302250) (hnext : lw_go p l e s m below meth c b dC dI a ce2 sl2 476 i) : lw_go p l e s m below meth c b dC dI a ce sl 420 i := by
  obtain ⟨hx, hb, hr, hml, hown, hts, hX, hbl, hlocks, hgv⟩ := id C0
  have hbA : ¬ (fun q : Nat => s.heap.size ≤ q) b := Nat.not_le.mpr hbl
  intro k mm H locs ls hI hP hD hS hl
  obtain ⟨S1, S2, mc, ms, ans, k', m', b1, b2, hC, hM, hJ⟩ := op_isBad a k mm hI (xs (nI (i + 1)).toNatClampNeg) (xs (nI (i + 2)).toNatClampNeg)
  refine lv_aload_n hx hb dL_law_420 rfl (lv_at hl 1 rfl) ?_
  refine lv_aload_n hx hb dL_law_421 rfl (lv_at hl 0 rfl) ?_
  refine lv_iload_n hx hb dL_law_422 rfl (lv_at hl 3 rfl) ?_
  refine lv_iconst (v := 1) hx hb dL_law_423 (by decide) ?_
  refine lv_iadd hx hb dL_law_424 ?_
  refine fw_i (x' := nI (i + 1)) (nI_add i 1) ?_
  refine va_sld hx hb hX hbl hbA hS (vp_in_nI (n := i + 1) (by omega) (by omega)) dL_law_425 ?_
  refine lv_aload_n hx hb dL_law_426 rfl (lv_at hl 0 rfl) ?_
  refine lv_iload_n hx hb dL_law_427 rfl (lv_at hl 3 rfl) ?_
  refine lv_iconst (v := 2) hx hb dL_law_428 (by decide) ?_
  refine lv_iadd hx hb dL_law_429 ?_
  refine fw_i (x' := nI (i + 2)) (nI_add i 2) ?_
  refine va_sld hx hb hX hbl hbA hS (vp_in_nI (n := i + 2) (by omega) (by omega)) dL_law_430 ?_
  refine lw_cCi (As := [.int (xs (nI (i + 1)).toNatClampNeg), .int (xs (nI (i + 2)).toNatClampNeg)]) (rest := []) (n := 2) hC C0 hN hK gL_law_X3_isBad rfl (by decide +kernel) rfl hP hD hS hl.1 (Nat.le_of_ble_eq_true rfl) ⟨by omega, by omega⟩ dL_law_431 (fun u H locs hP hD hS => ?_)
  refine lv_aload_n hx hb dL_law_434 rfl (lv_at hl 2 rfl) ?_
  refine lv_aload_n hx hb dL_law_435 rfl (lv_at hl 0 rfl) ?_
  refine lv_iload_n hx hb dL_law_436 rfl (lv_at hl 3 rfl) ?_
  refine lv_iconst (v := 1) hx hb dL_law_437 (by decide) ?_
  refine lv_iadd hx hb dL_law_438 ?_
  refine fw_i (x' := nI (i + 1)) (nI_add i 1) ?_
  refine va_sld hx hb hX hbl hbA hS (vp_in_nI (n := i + 1) (by omega) (by omega)) dL_law_439 ?_
  refine lv_aload_n hx hb dL_law_440 rfl (lv_at hl 0 rfl) ?_
  refine lv_iload_n hx hb dL_law_441 rfl (lv_at hl 3 rfl) ?_
  refine lv_iconst (v := 2) hx hb dL_law_442 (by decide) ?_
  refine lv_iadd hx hb dL_law_443 ?_
  refine fw_i (x' := nI (i + 2)) (nI_add i 2) ?_
  refine va_sld hx hb hX hbl hbA hS (vp_in_nI (n := i + 2) (by omega) (by omega)) dL_law_444 ?_
  refine lw_cMi (As := [.int (xs (nI (i + 1)).toNatClampNeg), .int (xs (nI (i + 2)).toNatClampNeg)]) (rest := [.int ans]) (n := 2) hM C0 hN hK gL_law_X4_isBad rfl (by decide +kernel) rfl hP hD hS hl.1 (Nat.le_of_ble_eq_true rfl) ⟨by omega, by omega⟩ dL_law_445 (fun v H locs hP hD hS => ?_)
  refine lv_icmp_eq (tgt := 476) hx hb dL_law_448 (by decide) (fun _ => ?_) (fun h => absurd rfl h)
  refine W.widen (k := ce2) (n := sl2) (by omega) (by omega) ?_
  exact hnext _ _ _ _ _ (hJ u v) hP hD hS hl
set_option maxHeartbeats 4000000 in
set_option maxRecDepth 100000 in
theorem law_broken {p : Program} {l : Launch} {e : Env} {s : State} {m : MethodId} {below : List Frame} {meth : Method} {c : Code} {b L : Nat} {xs : Nat → Int32} {dC : Nat → ClassId} {dI : Nat → Nat → Nat} {a : FlA} {ce sl ce2 sl2 i : Nat} (C0 : lw_At p s m meth c b L xs) (hN : fw_N s) (hK : va_K (dC, dI) vwCl (cTy a) s) (hL : L ≤ 2560) (hi : i + 5 ≤ L) (h1 : ce + 3 ≤ ce2) (h2 : sl + 107 ≤ sl2) (h3 : ce2 ≤ 600000) (h4 : sl2 ≤ 7302250) (hnext : lw_go p l e s m below meth c b dC dI a ce2 sl2 476 i) : lw_go p l e s m below meth c b dC dI a ce sl 453 i := by
  obtain ⟨hx, hb, hr, hml, hown, hts, hX, hbl, hlocks, hgv⟩ := id C0
  have hbA : ¬ (fun q : Nat => s.heap.size ≤ q) b := Nat.not_le.mpr hbl
  intro k mm H locs ls hI hP hD hS hl
  obtain ⟨S1, S2, mc, ms, ans, k', m', b1, b2, hC, hM, hJ⟩ := op_broken a k mm hI (xs (nI (i + 1)).toNatClampNeg)
  refine lv_aload_n hx hb dL_law_453 rfl (lv_at hl 1 rfl) ?_
  refine lv_aload_n hx hb dL_law_454 rfl (lv_at hl 0 rfl) ?_
  refine lv_iload_n hx hb dL_law_455 rfl (lv_at hl 3 rfl) ?_
  refine lv_iconst (v := 1) hx hb dL_law_456 (by decide) ?_
  refine lv_iadd hx hb dL_law_457 ?_
  refine fw_i (x' := nI (i + 1)) (nI_add i 1) ?_
  refine va_sld hx hb hX hbl hbA hS (vp_in_nI (n := i + 1) (by omega) (by omega)) dL_law_458 ?_
  refine lw_cCi (As := [.int (xs (nI (i + 1)).toNatClampNeg)]) (rest := []) (n := 1) hC C0 hN hK gL_law_X3_broken rfl (by decide +kernel) rfl hP hD hS hl.1 (Nat.le_of_ble_eq_true rfl) ⟨by omega, by omega⟩ dL_law_459 (fun u H locs hP hD hS => ?_)
  refine lv_aload_n hx hb dL_law_462 rfl (lv_at hl 2 rfl) ?_
  refine lv_aload_n hx hb dL_law_463 rfl (lv_at hl 0 rfl) ?_
  refine lv_iload_n hx hb dL_law_464 rfl (lv_at hl 3 rfl) ?_
  refine lv_iconst (v := 1) hx hb dL_law_465 (by decide) ?_
  refine lv_iadd hx hb dL_law_466 ?_
  refine fw_i (x' := nI (i + 1)) (nI_add i 1) ?_
  refine va_sld hx hb hX hbl hbA hS (vp_in_nI (n := i + 1) (by omega) (by omega)) dL_law_467 ?_
  refine lw_cMi (As := [.int (xs (nI (i + 1)).toNatClampNeg)]) (rest := [.int ans]) (n := 1) hM C0 hN hK gL_law_X4_broken rfl (by decide +kernel) rfl hP hD hS hl.1 (Nat.le_of_ble_eq_true rfl) ⟨by omega, by omega⟩ dL_law_468 (fun v H locs hP hD hS => ?_)
  refine lv_icmp_eq (tgt := 476) hx hb dL_law_471 (by decide) (fun _ => ?_) (fun h => absurd rfl h)
  refine W.widen (k := ce2) (n := sl2) (by omega) (by omega) ?_
  exact hnext _ _ _ _ _ (hJ u v) hP hD hS hl
