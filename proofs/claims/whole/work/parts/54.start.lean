theorem lw_I0 : lI ((0, 50, 20, 5), fun _ => none, fun _ => 0, fun _ => 0, []) ((0, 50, 20, 5), fun _ => 0, fun _ => 0, fun _ => false, fun _ => 0, fun _ => 0, fun _ => 0, fun _ => 0, fun _ => 0, fun _ => 0) := by
  refine ⟨⟨rfl, rfl, rfl, rfl⟩, by omega, rfl, fun i _ => rfl, fun r hr => absurd hr List.not_mem_nil, fun _ _ => Nat.zero_le _, fun _ _ => (show 0 < 2000 by decide), by omega, by omega, by omega, fun _ _ => Nat.zero_le _, fun _ _ _ => ⟨rfl, rfl, rfl⟩, fun i r hr => ?_⟩
  rw [List.getElem?_nil] at hr
  cases hr
set_option maxHeartbeats 4000000 in
set_option maxRecDepth 100000 in
/-- THE LAW, from its entry -/
theorem whole_start {p : Program} {e : Env} {s : State} {m : MethodId} {below : List Frame} {meth : Method} {c : Code} (l : Launch) {b L : Nat} {xs : Nat → Int32} (hL : L ≤ 2560) (C0 : lw_At p s m meth c b L xs) : W p l e room_1 s m #[Value.ref b] below meth c s.heap [] 0 0 (lw_Z below #[Value.ref b] s) (entryFrame m ([Value.ref b] : List Value).toArray 4) := by
  obtain ⟨hx, hb, hr, hml, hown, hts, hX, hbl, hlocks, hgv⟩ := id C0
  have hown : s.vm.findClass RL = some m.cls := hown
  have hA : ∀ q : Nat, s.heap.size ≤ q → (fun q : Nat => s.heap.size ≤ q) q := fun _ h => h
  have hN : fw_N s := fw_N.of hts
  obtain ⟨c0, iS0, hKn0⟩ := u_known (C := RX0) (T := TX0) (N := 2) (n := 2) hts inX0 (hts (.instantiable RX0 2) (by decide +kernel))
  obtain ⟨c1, iS1, hKn1⟩ := u_known (C := RX1) (T := TX1) (N := 1) (n := 1) hts inX1 (hts (.instantiable RX1 1) (by decide +kernel))
  obtain ⟨c2, iS2, hKn2⟩ := u_known (C := RX2) (T := TX2) (N := 11) (n := 11) hts inX2 (hts (.instantiable RX2 11) (by decide +kernel))
  obtain ⟨c3, iS3, hKn3⟩ := u_known (C := RX3) (T := TX3) (N := 6) (n := 6) hts inX3 (hts (.instantiable RX3 6) (by decide +kernel))
  obtain ⟨c4, iS4, hKn4⟩ := u_known (C := RX4) (T := TX4) (N := 14) (n := 14) hts inX4 (hts (.instantiable RX4 14) (by decide +kernel))
  obtain ⟨dC, dI, hKc⟩ : ∃ (dC : Nat → ClassId) (dI : Nat → Nat → Nat), ∀ (k : Nat) (q : vw_C), vwCl[k]? = some q → u_Kn s q.1 q.2.1 q.2.2 (dC k) (dI k) := by
    refine ⟨fun k => if k = 0 then c0 else if k = 1 then c1 else if k = 2 then c2 else if k = 3 then c3 else c4, fun k => if k = 0 then iS0 else if k = 1 then iS1 else if k = 2 then iS2 else if k = 3 then iS3 else iS4, ?_⟩
    intro k q hq
    match k, hq with
    | 0, hq => cases hq; exact hKn0
    | 1, hq => cases hq; exact hKn1
    | 2, hq => cases hq; exact hKn2
    | 3, hq => cases hq; exact hKn3
    | 4, hq => cases hq; exact hKn4
    | k + 5, hq => simp [vwCl] at hq
  have hS : va_S (fun q : Nat => s.heap.size ≤ q) s.heap s.heap [] := va_S.rf
  have hK : va_K (dC, dI) vwCl [] s := ⟨hKc, fun k q h => by simp at h⟩
  have hP : va_P (dC, dI) vwCl [] s.heap := fun k q h => by simp at h
  have hD : va_D (fun q : Nat => s.heap.size ≤ q) [] := ⟨fun i j p q h => by simp at h, fun k q h => by simp at h⟩
  have hl := lv_entry ([.ref b]) (n := 4) (Nat.le_of_ble_eq_true rfl)
  rw [lg_entry_eq]
  generalize (lg_sl ([.ref b]) ++ List.replicate (4 - (lg_sl ([.ref b])).length) Slot.unset).toArray = ls at hl ⊢
  have hl : lv_has ls 4 [(0, .ref b)] := hl
  refine va_new (ci := 3) (fs := [.null, .null, .int 0, .int 0, .int 0, .int 0]) (C := RX3) (T := TX3) (N := 6) hx hb hts inX3 tyX3 tyX3_ok hown (hts (.classLink RL 7 RX3) (by decide +kernel)) (hts (.instantiable RX3 6) (by decide +kernel)) (hts (.initialized RX3) (by decide +kernel)) hK hP hD hS hA rfl (by decide) (Nat.le_of_ble_eq_true rfl) (Nat.le_of_ble_eq_true rfl) dL_law_0 (fun f0 H hP hD hS => ?_)
  have hP : va_P (dC, dI) vwCl [(f0, .inr (3, [.null, .null, .int 0, .int 0, .int 0, .int 0]))] H := hP
  have hD : va_D (fun q : Nat => s.heap.size ≤ q) [(f0, .inr (3, [.null, .null, .int 0, .int 0, .int 0, .int 0]))] := hD
  refine W.widen (k := 1) (n := 6) (by omega) (by omega) ?_
  refine lv_dup hx hb dL_law_3 rfl ?_
  have hFc := va_free (wc := [(f0, .inr (3, [.null, .null, .int 0, .int 0, .int 0, .int 0]))]) hD hS hA [0] rfl
  refine va_callv (va_runI (As := []) (rest := [.ref f0]) ⟨hx, hb, hml, hown, hts⟩ (c_fla_init l dC dI f0 H.size) (cwI 0 hts gL_law_X3_init rfl rfl rfl (hts (.initialized RX3) (by decide +kernel)) (hts (.methodLink RL 9 yX3_init) (by decide +kernel)) (hts (.instanceMethod yX3_init) (by decide +kernel)) rfl (by decide +kernel) ⟨Nat.le_of_ble_eq_true rfl, Nat.le_of_ble_eq_true rfl⟩) (fw_preSW hN hK hP hD) rfl rfl hl.1 rfl (lv_room (Nat.le_of_ble_eq_true rfl)) dL_law_4 ⟨Nat.le_of_ble_eq_true rfl, Nat.le_of_ble_eq_true rfl⟩) hS (fun q _ h => hFc q h) hFc (fun u t H1 locs ht hvm hw hB hz1 hk1 hS => ?_)
  obtain ⟨hs, c0a, s0, sa, t0, ta, cH, cJ⟩ := u
  obtain ⟨hP1, hK1, hD1⟩ := hB
  rw [ht] at hP1
  have hK := va_K.moved hvm.symm hK1
  have hD := hD1.weaken (fun _ q _ h => hFc q.1 h)
  have hP := hP1
  generalize H1 = H at hP hS ⊢
  have hP : va_P (dC, dI) vwCl [(f0, .inr (3, [.ref hs, .ref c0a, .int 0, .int 50, .int 20, .int 5])), (hs, .inl (cH, 12, .inr (.inr (.inr (.inr (fun _ => none)))))), (c0a, .inr (0, [.ref s0, .ref t0])), (s0, .inr (1, [.ref sa])), (sa, .inl (cJ, 17, .inr (.inl (fun j => lN ((fun _ : Nat => 0) j))))), (t0, .inr (1, [.ref ta])), (ta, .inl (cJ, 17, .inr (.inl (fun j => lN ((fun _ : Nat => 0) j)))))] H := hP
  have hD : va_D (fun q : Nat => s.heap.size ≤ q) [(f0, .inr (3, [.ref hs, .ref c0a, .int 0, .int 50, .int 20, .int 5])), (hs, .inl (cH, 12, .inr (.inr (.inr (.inr (fun _ => none)))))), (c0a, .inr (0, [.ref s0, .ref t0])), (s0, .inr (1, [.ref sa])), (sa, .inl (cJ, 17, .inr (.inl (fun j => lN ((fun _ : Nat => 0) j))))), (t0, .inr (1, [.ref ta])), (ta, .inl (cJ, 17, .inr (.inl (fun j => lN ((fun _ : Nat => 0) j)))))] := hD
  have hK : va_K (dC, dI) vwCl [(cH, .object RX2), (cJ, .long)] s := hK
  obtain ⟨cI, hK⟩ := fw_arr hK (hts (.arrayClass .int) (by decide +kernel))
  obtain ⟨cZ, hK⟩ := fw_arrZ hK (hts (.arrayClass .boolean) (by decide +kernel))
  have hK : va_K (dC, dI) vwCl [(cH, .object RX2), (cJ, .long), (cI, .int), (cZ, .boolean)] s := hK
  refine W.widen (k := 7) (n := 56) (by omega) (by omega) ?_
  refine lv_astore_n (lv' := [(1, .ref f0), (0, .ref b)]) hx hb dL_law_7 rfl hl (by decide) rfl (fun ls hl => ?_)
  refine va_new (ci := 4) (fs := [.int 0, .int 0, .int 0, .int 0, .int 0, .null, .null, .null, .null, .null, .null, .null, .null, .null]) (C := RX4) (T := TX4) (N := 14) hx hb hts inX4 tyX4 tyX4_ok hown (hts (.classLink RL 10 RX4) (by decide +kernel)) (hts (.instantiable RX4 14) (by decide +kernel)) (hts (.initialized RX4) (by decide +kernel)) hK hP hD hS hA rfl (by decide) (Nat.le_of_ble_eq_true rfl) (Nat.le_of_ble_eq_true rfl) dL_law_8 (fun m0 H hP hD hS => ?_)
  have hP : va_P (dC, dI) vwCl [(f0, .inr (3, [.ref hs, .ref c0a, .int 0, .int 50, .int 20, .int 5])), (hs, .inl (cH, 12, .inr (.inr (.inr (.inr (fun _ => none)))))), (c0a, .inr (0, [.ref s0, .ref t0])), (s0, .inr (1, [.ref sa])), (sa, .inl (cJ, 17, .inr (.inl (fun j => lN ((fun _ : Nat => 0) j))))), (t0, .inr (1, [.ref ta])), (ta, .inl (cJ, 17, .inr (.inl (fun j => lN ((fun _ : Nat => 0) j))))), (m0, .inr (4, [.int 0, .int 0, .int 0, .int 0, .int 0, .null, .null, .null, .null, .null, .null, .null, .null, .null]))] H := hP
  have hD : va_D (fun q : Nat => s.heap.size ≤ q) [(f0, .inr (3, [.ref hs, .ref c0a, .int 0, .int 50, .int 20, .int 5])), (hs, .inl (cH, 12, .inr (.inr (.inr (.inr (fun _ => none)))))), (c0a, .inr (0, [.ref s0, .ref t0])), (s0, .inr (1, [.ref sa])), (sa, .inl (cJ, 17, .inr (.inl (fun j => lN ((fun _ : Nat => 0) j))))), (t0, .inr (1, [.ref ta])), (ta, .inl (cJ, 17, .inr (.inl (fun j => lN ((fun _ : Nat => 0) j))))), (m0, .inr (4, [.int 0, .int 0, .int 0, .int 0, .int 0, .null, .null, .null, .null, .null, .null, .null, .null, .null]))] := hD
  refine W.widen (k := 8) (n := 70) (by omega) (by omega) ?_
  refine lv_dup hx hb dL_law_11 rfl ?_
  have hPc := hP.sub (ws' := [(m0, .inr (4, [.int 0, .int 0, .int 0, .int 0, .int 0, .null, .null, .null, .null, .null, .null, .null, .null, .null]))]) [7] rfl
  have hDc := hD.sub (ws' := [(m0, .inr (4, [.int 0, .int 0, .int 0, .int 0, .int 0, .null, .null, .null, .null, .null, .null, .null, .null, .null]))]) [7] (by decide) rfl
  have hKc2 := hK.sub (tys' := [(cI, .int), (cJ, .long), (cZ, .boolean)]) [2, 1, 3] rfl
  have hFc := va_free (wc := [(m0, .inr (4, [.int 0, .int 0, .int 0, .int 0, .int 0, .null, .null, .null, .null, .null, .null, .null, .null, .null]))]) hD hS hA [7] rfl
  refine va_callv (va_runI (As := []) (rest := [.ref m0]) ⟨hx, hb, hml, hown, hts⟩ (c_ref_init l dC dI m0 cI cJ cZ H.size) (cwI 0 hts gL_law_X4_init rfl rfl rfl (hts (.initialized RX4) (by decide +kernel)) (hts (.methodLink RL 12 yX4_init) (by decide +kernel)) (hts (.instanceMethod yX4_init) (by decide +kernel)) rfl (by decide +kernel) ⟨Nat.le_of_ble_eq_true rfl, Nat.le_of_ble_eq_true rfl⟩) (fw_preSW hN hKc2 hPc hDc) rfl rfl hl.1 rfl (lv_room (Nat.le_of_ble_eq_true rfl)) dL_law_12 ⟨Nat.le_of_ble_eq_true rfl, Nat.le_of_ble_eq_true rfl⟩) hS (fun q _ h => hFc q h) hFc (fun u t H1 locs ht hvm hw hB hz1 hk1 hS => ?_)
  obtain ⟨pz, pr, pm, pk, pj, pf, su, te, wh⟩ := u
  obtain ⟨hP1, hK1, hD1⟩ := hB
  rw [ht] at hP1
  obtain ⟨hP, hD⟩ := va_join (wr := [(f0, .inr (3, [.ref hs, .ref c0a, .int 0, .int 50, .int 20, .int 5])), (hs, .inl (cH, 12, .inr (.inr (.inr (.inr (fun _ => none)))))), (c0a, .inr (0, [.ref s0, .ref t0])), (s0, .inr (1, [.ref sa])), (sa, .inl (cJ, 17, .inr (.inl (fun j => lN ((fun _ : Nat => 0) j))))), (t0, .inr (1, [.ref ta])), (ta, .inl (cJ, 17, .inr (.inl (fun j => lN ((fun _ : Nat => 0) j)))))]) (w1 := [(m0, .inr (4, [.int 0, .int 0, .int 50, .int 20, .int 5, .ref pz, .ref pr, .ref pm, .ref pk, .ref pj, .ref pf, .ref su, .ref te, .ref wh])), (pz, .inl (cI, 12, .inl (fun _ => 0))), (pr, .inl (cI, 576, .inl (fun _ => 0))), (pm, .inl (cZ, 12, .inl (fun _ => 0))), (pk, .inl (cI, 12, .inl (fun _ => 0))), (pj, .inl (cI, 12, .inl (fun _ => 0))), (pf, .inl (cI, 12, .inl (fun _ => 0))), (su, .inl (cJ, 48, .inr (.inl (fun _ => 0)))), (te, .inl (cJ, 48, .inr (.inl (fun _ => 0)))), (wh, .inl (cJ, 48, .inr (.inl (fun _ => 0))))]) hP hD [7] [0, 1, 2, 3, 4, 5, 6] rfl rfl (by decide) (by decide) hk1 hFc hP1 hD1
  generalize H1 = H at hP hS ⊢
  refine W.widen (k := 100 + 3 * 0) (n := 2000 + 107 * 0) (by omega) (by omega) ?_
  refine lv_astore_n (lv' := [(2, .ref m0), (1, .ref f0), (0, .ref b)]) hx hb dL_law_15 rfl hl (by decide) rfl (fun ls hl => ?_)
  refine lv_iconst (v := 0) hx hb dL_law_16 (by decide) ?_
  refine lv_istore_n (lv' := [(3, .int 0), (2, .ref m0), (1, .ref f0), (0, .ref b)]) hx hb dL_law_17 rfl hl (by decide) rfl (fun ls hl => ?_)
  have hP : va_P (dC, dI) vwCl (cW ((cH, cJ, cI, cZ), (f0, hs, c0a, s0, sa, t0, ta), m0, pz, pr, pm, pk, pj, pf, su, te, wh) ((0, 50, 20, 5), fun _ => none, fun _ => 0, fun _ => 0, []) ++ mW ((cH, cJ, cI, cZ), (f0, hs, c0a, s0, sa, t0, ta), m0, pz, pr, pm, pk, pj, pf, su, te, wh) ((0, 50, 20, 5), fun _ => 0, fun _ => 0, fun _ => false, fun _ => 0, fun _ => 0, fun _ => 0, fun _ => 0, fun _ => 0, fun _ => 0)) H := hP
  have hD : va_D (fun q : Nat => s.heap.size ≤ q) (cW ((cH, cJ, cI, cZ), (f0, hs, c0a, s0, sa, t0, ta), m0, pz, pr, pm, pk, pj, pf, su, te, wh) ((0, 50, 20, 5), fun _ => none, fun _ => 0, fun _ => 0, []) ++ mW ((cH, cJ, cI, cZ), (f0, hs, c0a, s0, sa, t0, ta), m0, pz, pr, pm, pk, pj, pf, su, te, wh) ((0, 50, 20, 5), fun _ => 0, fun _ => 0, fun _ => false, fun _ => 0, fun _ => 0, fun _ => 0, fun _ => 0, fun _ => 0, fun _ => 0)) := hD
  exact law_loop (a := ((cH, cJ, cI, cZ), (f0, hs, c0a, s0, sa, t0, ta), m0, pz, pr, pm, pk, pj, pf, su, te, wh)) C0 hN hK hL (L + 1) 0 (by omega) (by omega) _ _ _ _ _ lw_I0 hP hD hS (lv_sub hl [3, 2, 1, 0] rfl)
