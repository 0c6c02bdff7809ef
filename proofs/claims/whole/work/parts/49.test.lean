set_option maxHeartbeats 4000000 in
theorem op_rules (a : FlA) (k : FlC) (m : FlM) (h : lI k m) (x y z : Int32) : opStep yX3_rules wsX3_rules 4 [.ref a.2.1.1, .int x, .int y, .int z] yX4_rules wsX4_rules 4 [.ref a.2.2.1, .int x, .int y, .int z] a k m := by
  have hh := h
  obtain ⟨⟨n, lv, mr, cr⟩, hf, ds, dt, L⟩ := k
  obtain ⟨⟨cH, cJ, cI, cZ⟩, ⟨f0, hs, c0, s0, sa, t0, ta⟩, m0, pz, pr, pm, pk, pj, pf, su, te, wh⟩ := a
  obtain ⟨⟨n2, lv2, mr2, cr2⟩, zf, rn, mkf, mt, jd, fl, es, et, ew⟩ := m
  obtain ⟨⟨rfl, rfl, rfl, rfl⟩, hn12, hLn, href, hok, hz, hrn, hlv, hmr, hcr, hfl, hun, htR⟩ := h
  cases hok2 : (fv_lv x && fv_sh y && fv_sh z && !decide (y < z)) with
  | false =>
    refine ⟨Unit, Unit, 0, 0, 0, fun _ => ((n2, lv2, mr2, cr2), hf, ds, dt, L), fun _ => ((n2, lv2, mr2, cr2), zf, rn, mkf, mt, jd, fl, es, et, ew), by omega, by omega, ⟨_, ?_, ?_, ?_, ?_, fun l dC dI sz m => fw_ofRi (S := Unit) (c_fla_rules_no l dC dI f0 (.ref hs) (.ref c0) (.int (nI n2)) (.int (nI lv2)) (.int (nI mr2)) (.int (nI cr2)) x y z hok2) (fun q hq => List.mem_append_left _ (List.mem_append_left _ ((List.sublist_append_left [_] _).mem hq))) (fun q hq => absurd hq List.not_mem_nil)⟩, ⟨_, ?_, ?_, ?_, ?_, fun l dC dI sz k => fw_ofWi (R := cW ((cH, cJ, cI, cZ), (f0, hs, c0, s0, sa, t0, ta), m0, pz, pr, pm, pk, pj, pf, su, te, wh) k) (c_ref_rules_no l dC dI m0 pz pr pm pk pj pf su te wh cI cJ cZ n2 lv2 mr2 cr2 zf rn mkf mt jd fl es et ew x y z sz hok2) List.perm_append_comm (fun q hq => by simp only [List.mem_cons, List.not_mem_nil, or_false] at hq ⊢; rcases hq with rfl | rfl | rfl <;> simp) (fun u => List.perm_append_comm)⟩, fun _ _ => hh⟩
    any_goals first | rfl | exact Nat.le_of_ble_eq_true rfl
  | true =>
    simp only [Bool.and_eq_true, Bool.not_eq_true', decide_eq_false_iff_not] at hok2
    obtain ⟨x1, hx1, hx9, rfl⟩ := fv_lv_iff hok2.1.1.1
    obtain ⟨y1, hy, rfl⟩ := fv_sh_iff hok2.1.1.2
    obtain ⟨z1, hz1, rfl⟩ := fv_sh_iff hok2.1.2
    have hzy : z1 ≤ y1 := by
      by_cases h9 : z1 ≤ y1
      · exact h9
      · exact absurd ((nI_ltI (by omega) (by omega)).mpr (by omega)) hok2.2
    refine ⟨Unit, Unit, 0, 0, 1, fun _ => ((n2, x1, y1, z1), hf, ds, dt, L), fun _ => ((n2, x1, y1, z1), zf, rn, mkf, mt, jd, fl, es, et, ew), by omega, by omega, ⟨_, ?_, ?_, ?_, ?_, fun l dC dI sz m => fw_ofWi (R := [(hs, .inl (cH, 12, .inr (.inr (.inr (.inr (hf)))))), (c0, .inr (0, [.ref s0, .ref t0])), (s0, .inr (1, [.ref sa])), (sa, .inl (cJ, 17, .inr (.inl (fun j => lN (ds j))))), (t0, .inr (1, [.ref ta])), (ta, .inl (cJ, 17, .inr (.inl (fun j => lN (dt j)))))] ++ fl_cs cI cZ L ++ mW ((cH, cJ, cI, cZ), (f0, hs, c0, s0, sa, t0, ta), m0, pz, pr, pm, pk, pj, pf, su, te, wh) m) (c_fla_rules l dC dI f0 (.ref hs) (.ref c0) (.int (nI n2)) (.int (nI lv2)) (.int (nI mr2)) (.int (nI cr2)) (nI x1) (nI y1) (nI z1) sz hok2.1.1.1 hok2.1.1.2 hok2.1.2 hok2.2) (List.Perm.refl _) (fun q hq => absurd hq List.not_mem_nil) (fun u => List.Perm.refl _)⟩, ⟨_, ?_, ?_, ?_, ?_, fun l dC dI sz k => fw_ofWi (R := cW ((cH, cJ, cI, cZ), (f0, hs, c0, s0, sa, t0, ta), m0, pz, pr, pm, pk, pj, pf, su, te, wh) k) (c_ref_rules l dC dI m0 pz pr pm pk pj pf su te wh cI cJ cZ n2 lv2 mr2 cr2 zf rn mkf mt jd fl es et ew x1 y1 z1 sz hx1 hx9 hy hzy) List.perm_append_comm (fun q hq => by simp only [List.mem_cons, List.not_mem_nil, or_false] at hq ⊢; rcases hq with rfl | rfl | rfl <;> simp) (fun u => List.perm_append_comm)⟩, fun _ _ => ⟨⟨rfl, rfl, rfl, rfl⟩, hn12, hLn, href, hok, hz, hrn, hx9, hy, by omega, hfl, hun, htR⟩⟩
    any_goals first | rfl | exact Nat.le_of_ble_eq_true rfl
theorem pX3 {F G C M : va_W} {N : va_W} : ((F ++ N) ++ (G ++ C ++ M)).Perm (((F ++ G) ++ (C ++ N)) ++ M) := by
  simp only [List.append_assoc]
  refine List.Perm.append_left F ?_
  have h1 : (N ++ (G ++ C)).Perm ((G ++ C) ++ N) := List.perm_append_comm
  have h2 := h1.append_right M
  simp only [List.append_assoc] at h2
  exact h2
theorem fl_ref_add {L : List FlR} {hf : Nat → Option Nat} {r : FlR} (h : fl_ref L hf) : fl_ref (L ++ [r]) (va_up hf L.length (some r.1.1)) := by
  intro j hj
  by_cases q : j = L.length
  · subst q
    rw [va_up_self, List.getElem?_append_right (Nat.le_refl _), Nat.sub_self]
    rfl
  · rw [va_up_ne _ _ q, h j hj]
    by_cases q2 : j < L.length
    · rw [List.getElem?_append_left q2]
    · rw [List.getElem?_eq_none (by omega), List.getElem?_eq_none (by rw [List.length_append]; simp only [List.length_cons, List.length_nil]; omega)]
theorem fl_cs_app {cI cZ : ClassId} {L M : List FlR} : fl_cs cI cZ (L ++ M) = fl_cs cI cZ L ++ fl_cs cI cZ M := by
  unfold fl_cs
  rw [List.flatMap_append]
set_option maxHeartbeats 4000000 in
theorem op_test (a : FlA) (k : FlC) (m : FlM) (h : lI k m)  : opStep yX3_test wsX3_test 1 [.ref a.2.1.1] yX4_test wsX4_test 1 [.ref a.2.2.1] a k m := by
  have hh := h
  obtain ⟨⟨n, lv, mr, cr⟩, hf, ds, dt, L⟩ := k
  obtain ⟨⟨cH, cJ, cI, cZ⟩, ⟨f0, hs, c0, s0, sa, t0, ta⟩, m0, pz, pr, pm, pk, pj, pf, su, te, wh⟩ := a
  obtain ⟨⟨n2, lv2, mr2, cr2⟩, zf, rn, mkf, mt, jd, fl, es, et, ew⟩ := m
  obtain ⟨⟨rfl, rfl, rfl, rfl⟩, hn12, hLn, href, hok, hz, hrn, hlv, hmr, hcr, hfl, hun, htR⟩ := h
  by_cases hlt : n2 < 12
  · have hct : ∀ (l : Launch) (dC : Nat → ClassId) (dI : Nat → Nat → Nat) (sz : Nat), Met l yX3_test wsX3_test ({ frames := 2, cells := 3, slots := 107, locals := 32 } : Room) (va_Pc [.ref f0] (fw_pW (dC, dI) vwCl [(cH, .object RX2), (cI, .int), (cZ, .boolean)] [(f0, .inr (3, [.ref hs, .ref c0, .int (nI n2), .int (nI lv2), .int (nI mr2), .int (nI cr2)])), (hs, .inl (cH, 12, .inr (.inr (.inr (.inr (hf))))))] sz)) (va_Qi (S := Nat × Nat × Nat) (fun r _ => r = nI n2) (fun u t => fw_q (dC, dI) vwCl [(cH, .object RX2), (cI, .int), (cZ, .boolean)] (va_A [(f0, .inr (3, [.ref hs, .ref c0, .int (nI n2), .int (nI lv2), .int (nI mr2), .int (nI cr2)])), (hs, .inl (cH, 12, .inr (.inr (.inr (.inr (hf))))))] sz) [(f0, .inr (3, [.ref hs, .ref c0, .int (nI (n2 + 1)), .int (nI lv2), .int (nI mr2), .int (nI cr2)])), (hs, .inl (cH, 12, .inr (.inr (.inr (.inr (va_up hf n2 (some u.1))))))), (u.1, .inr (2, [.ref u.2.1, .ref u.2.2, .int 0, .int 0, .int 0, .int 0, .int 0, .int 0, .int 0, .int (-1), .int 0])), (u.2.1, .inl (cI, 48, .inl (fun _ => 0))), (u.2.2, .inl (cZ, 48, .inl (fun _ => 0)))] t) (va_A [(f0, .inr (3, [.ref hs, .ref c0, .int (nI n2), .int (nI lv2), .int (nI mr2), .int (nI cr2)])), (hs, .inl (cH, 12, .inr (.inr (.inr (.inr (hf))))))] sz)) 3 107 (va_A [(f0, .inr (3, [.ref hs, .ref c0, .int (nI n2), .int (nI lv2), .int (nI mr2), .int (nI cr2)])), (hs, .inl (cH, 12, .inr (.inr (.inr (.inr (hf))))))] sz) := by
      intro l dC dI sz
      refine fw_mono (c_fla_test l dC dI f0 hs cH (.ref c0) (.int (nI lv2)) (.int (nI mr2)) (.int (nI cr2)) n2 hf cI cZ sz hlt) (fun _ _ h => h) (fun a s o t _ hq => ?_) (fun _ h => h)
      obtain ⟨⟨r, ⟨q22, ea, pa⟩, q1, q2, q3⟩, q5⟩ := hq
      exact ⟨⟨r, (q22, ea, pa), q1, q2, q3⟩, q5⟩
    refine ⟨Nat × Nat × Nat, Unit, 3, 107, nI n2, fun u => ((n2 + 1, lv2, mr2, cr2), va_up hf n2 (some u.1), ds, dt, L ++ [((u.1, u.2.1, u.2.2), (0, 0), (false, 0), (-1, 0), fun _ => 0, fun _ => false)]), fun _ => ((n2 + 1, lv2, mr2, cr2), zf, rn, mkf, mt, upd jd n2 (-1), fl, es, et, ew), by omega, by omega, ⟨_, ?_, ?_, ?_, ?_, fun l dC dI sz m => fw_ofWi (R := [(c0, .inr (0, [.ref s0, .ref t0])), (s0, .inr (1, [.ref sa])), (sa, .inl (cJ, 17, .inr (.inl (fun j => lN (ds j))))), (t0, .inr (1, [.ref ta])), (ta, .inl (cJ, 17, .inr (.inl (fun j => lN (dt j)))))] ++ fl_cs cI cZ L ++ mW ((cH, cJ, cI, cZ), (f0, hs, c0, s0, sa, t0, ta), m0, pz, pr, pm, pk, pj, pf, su, te, wh) m) (hct l dC dI sz) (by rw [List.append_assoc]; exact List.Perm.refl _) (fun q hq => by simp only [List.mem_cons, List.not_mem_nil, or_false] at hq ⊢; rcases hq with rfl | rfl | rfl <;> simp) (fun u => ?_)⟩, ⟨_, ?_, ?_, ?_, ?_, fun l dC dI sz k => fw_ofWi (R := cW ((cH, cJ, cI, cZ), (f0, hs, c0, s0, sa, t0, ta), m0, pz, pr, pm, pk, pj, pf, su, te, wh) k) (c_ref_test l dC dI m0 pz pr pm pk pj pf su te wh cI cJ cZ n2 lv2 mr2 cr2 zf rn mkf mt jd fl es et ew sz hlt) List.perm_append_comm (fun q hq => by simp only [List.mem_cons, List.not_mem_nil, or_false] at hq ⊢; rcases hq with rfl | rfl | rfl <;> simp) (fun u => List.perm_append_comm)⟩, fun u _ => ?_⟩
    any_goals first | rfl | exact Nat.le_of_ble_eq_true rfl
    · have h9 := pX3 (F := [(f0, .inr (3, [.ref hs, .ref c0, .int (nI (n2 + 1)), .int (nI lv2), .int (nI mr2), .int (nI cr2)])), (hs, .inl (cH, 12, .inr (.inr (.inr (.inr (va_up hf n2 (some u.1)))))))]) (G := [(c0, .inr (0, [.ref s0, .ref t0])), (s0, .inr (1, [.ref sa])), (sa, .inl (cJ, 17, .inr (.inl (fun j => lN (ds j))))), (t0, .inr (1, [.ref ta])), (ta, .inl (cJ, 17, .inr (.inl (fun j => lN (dt j)))))]) (C := fl_cs cI cZ L) (M := mW ((cH, cJ, cI, cZ), (f0, hs, c0, s0, sa, t0, ta), m0, pz, pr, pm, pk, pj, pf, su, te, wh) m) (N := fl_cs cI cZ [((u.1, u.2.1, u.2.2), (0, 0), (false, 0), (-1, 0), fun _ => 0, fun _ => false)])
      rw [← fl_cs_app] at h9
      exact h9
    · refine ⟨⟨rfl, rfl, rfl, rfl⟩, by omega, by rw [List.length_append, hLn]; rfl, by rw [← hLn]; exact fl_ref_add href, fun r hr => ?_, hz, hrn, hlv, hmr, hcr, hfl, fun i h1 h2 => hun i (by omega) h2, fun i r hr => ?_⟩
      · rcases List.mem_append.mp hr with h9 | h9
        · exact hok r h9
        · rw [List.mem_singleton.mp h9]
          exact ⟨Nat.zero_le _, (show 0 < 48 by decide), Nat.zero_le _⟩
      · by_cases hin_ : i < n2
        · rw [List.getElem?_append_left (by omega)] at hr
          have h9 := htR i r hr
          obtain ⟨a0, ⟨s1, o1⟩, ⟨mk1, tm1⟩, ⟨je1, jf1⟩, e1, b1⟩ := r
          obtain ⟨g1, g2, g3, g4, g5, g6⟩ := h9
          exact ⟨g1, g2, g3, g4, g5, fun x hx => by rw [pk_un (by omega)]; exact g6 x hx⟩
        · have hi2 : i = n2 := by
            have := (List.getElem?_eq_some_iff.mp hr).1
            rw [List.length_append, hLn] at this
            simp only [List.length_cons, List.length_nil] at this
            omega
          subst hi2
          rw [List.getElem?_append_right (by omega), hLn, Nat.sub_self] at hr
          cases hr
          obtain ⟨g1, g2, g3⟩ := hun i (Nat.le_refl _) hlt
          refine ⟨g1.symm, g2.symm, g3.symm, fun _ => rfl, fun k hk => absurd hk (by omega), fun x hx => ?_⟩
          rw [pk_us]
          unfold jv_f jw_f
          rw [if_neg (jt_neg hx), ite_self]
  · obtain rfl : n2 = 12 := by omega
    refine ⟨Unit, Unit, 0, 0, (-1), fun _ => ((12, lv2, mr2, cr2), hf, ds, dt, L), fun _ => ((12, lv2, mr2, cr2), zf, rn, mkf, mt, jd, fl, es, et, ew), by omega, by omega, ⟨_, ?_, ?_, ?_, ?_, fun l dC dI sz m => fw_ofRi (S := Unit) (c_fla_test_no l dC dI f0 hs cH (.ref c0) (.int (nI lv2)) (.int (nI mr2)) (.int (nI cr2)) hf) (fun q hq => List.mem_append_left _ (List.mem_append_left _ ((List.sublist_append_left [_, _] _).mem hq))) (fun q hq => (List.sublist_append_left [_] _).mem hq)⟩, ⟨_, ?_, ?_, ?_, ?_, fun l dC dI sz k => fw_ofWi (R := cW ((cH, cJ, cI, cZ), (f0, hs, c0, s0, sa, t0, ta), m0, pz, pr, pm, pk, pj, pf, su, te, wh) k) (c_ref_test_no l dC dI m0 pz pr pm pk pj pf su te wh cI cJ cZ 12 lv2 mr2 cr2 zf rn mkf mt jd fl es et ew sz rfl) List.perm_append_comm (fun q hq => by simp only [List.mem_cons, List.not_mem_nil, or_false] at hq ⊢; rcases hq with rfl | rfl | rfl <;> simp) (fun u => List.perm_append_comm)⟩, fun _ _ => hh⟩
    any_goals first | rfl | exact Nat.le_of_ble_eq_true rfl
