/-! THE LAW'S STATES: the class's and the reference's, side by side -/
abbrev FlC : Type := (Nat × Nat × Nat × Nat) × (Nat → Option Nat) × (Nat → Nat) × (Nat → Nat) × List FlR
abbrev FlM : Type := (Nat × Nat × Nat × Nat) × (Nat → Nat) × (Nat → Nat) × (Nat → Bool) × (Nat → Nat) × (Nat → Int32) × (Nat → Nat) × (Nat → Nat) × (Nat → Nat) × (Nat → Nat)
/-- the fixed addresses and classes -/
abbrev FlA : Type := (ClassId × ClassId × ClassId × ClassId) × (Nat × Nat × Nat × Nat × Nat × Nat × Nat) × (Nat × Nat × Nat × Nat × Nat × Nat × Nat × Nat × Nat × Nat)
abbrev cTy (a : FlA) : List (ClassId × FieldType) := match a with
  | ((cH, cJ, cI, cZ), _, _) => [(cH, .object RX2), (cJ, .long), (cI, .int), (cZ, .boolean)]
abbrev cF (a : FlA) (k : FlC) : va_W := match a, k with
  | ((cH, cJ, _, _), (f0, hs, c0, s0, sa, t0, ta), _), ((n, lv, mr, cr), hf, ds, dt, _) => [(f0, .inr (3, [.ref hs, .ref c0, .int (nI n), .int (nI lv), .int (nI mr), .int (nI cr)])), (hs, .inl (cH, 12, .inr (.inr (.inr (.inr (hf)))))), (c0, .inr (0, [.ref s0, .ref t0])), (s0, .inr (1, [.ref sa])), (sa, .inl (cJ, 17, .inr (.inl (fun j => lN (ds j))))), (t0, .inr (1, [.ref ta])), (ta, .inl (cJ, 17, .inr (.inl (fun j => lN (dt j)))))]
abbrev cW (a : FlA) (k : FlC) : va_W := cF a k ++ fl_cs a.1.2.2.1 a.1.2.2.2 k.2.2.2.2
abbrev mW (a : FlA) (m : FlM) : va_W := match a, m with
  | ((_, cJ, cI, cZ), _, (m0, pz, pr, pm, pk, pj, pf, su, te, wh)), ((n, lv, mr, cr), zf, rn, mkf, mt, jd, fl, ds, dt, dw) => [(m0, .inr (4, [.int 0, .int (nI n), .int (nI lv), .int (nI mr), .int (nI cr), .ref pz, .ref pr, .ref pm, .ref pk, .ref pj, .ref pf, .ref su, .ref te, .ref wh])), (pz, .inl (cI, 12, .inl (fun j => nI (zf j)))), (pr, .inl (cI, 576, .inl (fun j => nI (rn j)))), (pm, .inl (cZ, 12, .inl (fun j => zI (mkf j)))), (pk, .inl (cI, 12, .inl (fun j => nI (mt j)))), (pj, .inl (cI, 12, .inl (jd))), (pf, .inl (cI, 12, .inl (fun j => nI (fl j)))), (su, .inl (cJ, 48, .inr (.inl (fun j => lN (ds j))))), (te, .inl (cJ, 48, .inr (.inl (fun j => lN (dt j))))), (wh, .inl (cJ, 48, .inr (.inl (fun j => lN (dw j)))))]
/-- both tell the same -/
def lI (k : FlC) (m : FlM) : Prop := match k, m with
  | ((n, lv, mr, cr), hf, _, _, L), ((n2, lv2, mr2, cr2), zf, rn, mkf, mt, jd, fl, _, _, _) => (n2 = n ∧ lv2 = lv ∧ mr2 = mr ∧ cr2 = cr) ∧ n ≤ 12 ∧ L.length = n ∧ fl_ref L hf ∧ (∀ r, r ∈ L → fl_ok r) ∧ (∀ i, i < 12 → zf i ≤ 48) ∧ (∀ j, j < 576 → rn j < 2000) ∧ lv ≤ 999 ∧ mr ≤ 1000 ∧ cr ≤ 1000 ∧ (∀ i, i < 12 → fl i ≤ 3) ∧ (∀ i, n ≤ i → i < 12 → zf i = 0 ∧ mkf i = false ∧ mt i = 0) ∧ ∀ i r, L[i]? = some r → tR r zf rn mkf mt jd fl i
/-- a step of the class's side: its method's contract over both worlds -/
def cStep {S : Type} (y : MethodName) (ws : List Cond) (mL mc ms : Nat) (av : List Value) (a : FlA) (k : FlC) (ans : Int32) (k' : S → FlC) : Prop :=
  ∃ rm : Room, rm.cells = mc ∧ rm.slots = ms ∧ rm.frames + 1 ≤ 9 ∧ 8 + (mL + 11) + rm.locals ≤ 348 ∧ ∀ (l : Launch) (dC : Nat → ClassId) (dI : Nat → Nat → Nat) (sz : Nat) (m : FlM), Met l y ws rm (va_Pc av (fw_pW (dC, dI) vwCl (cTy a) (cW a k ++ mW a m) sz)) (va_Qi (S := S) (fun r _ => r = ans) (fun u zt => fw_q (dC, dI) vwCl (cTy a) (va_A (cW a k ++ mW a m) sz) (cW a (k' u) ++ mW a m) zt) (va_A (cW a k ++ mW a m) sz)) mc ms (va_A (cW a k ++ mW a m) sz)
def mStep {S : Type} (y : MethodName) (ws : List Cond) (mL mc ms : Nat) (av : List Value) (a : FlA) (m : FlM) (ans : Int32) (m' : S → FlM) : Prop :=
  ∃ rm : Room, rm.cells = mc ∧ rm.slots = ms ∧ rm.frames + 1 ≤ 9 ∧ 8 + (mL + 11) + rm.locals ≤ 348 ∧ ∀ (l : Launch) (dC : Nat → ClassId) (dI : Nat → Nat → Nat) (sz : Nat) (k : FlC), Met l y ws rm (va_Pc av (fw_pW (dC, dI) vwCl (cTy a) (cW a k ++ mW a m) sz)) (va_Qi (S := S) (fun r _ => r = ans) (fun u zt => fw_q (dC, dI) vwCl (cTy a) (va_A (cW a k ++ mW a m) sz) (cW a k ++ mW a (m' u)) zt) (va_A (cW a k ++ mW a m) sz)) mc ms (va_A (cW a k ++ mW a m) sz)
