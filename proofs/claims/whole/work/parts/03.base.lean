/-! BASE: rows of this claim's own, over the kit's judgements: a contract's entry, calls, loops, values. -/
/-- a boolean as the machine holds it -/
def zI : Bool → Int32
  | true => 1
  | false => 0
theorem zI_t : zI true = 1 := rfl
theorem zI_f : zI false = 0 := rfl
theorem zI_nar (b : Bool) : narrow .boolean (.int (zI b)) = .int (zI b) := by cases b <;> rfl
theorem zI_vnar (b : Bool) : vp_nar .boolean (zI b) = zI b := by cases b <;> rfl
theorem zI_fits (b : Bool) : fits .boolean (.int (zI b)) = true := by cases b <;> rfl
theorem zI_eq0 {b : Bool} : zI b = 0 ↔ b = false := by cases b <;> decide
theorem zI_ne0 {b : Bool} : ¬ zI b = 0 ↔ b = true := by cases b <;> decide
theorem zI_inj {a b : Bool} : zI a = zI b ↔ a = b := by cases a <;> cases b <;> decide
/-- the worlds of contracts: of one that only reads, of one that writes, and behind it -/
def fw_pR (D : va_G) (cl : List vw_C) (tys : List (ClassId × FieldType)) (ws : va_W) (U : State) : Prop := va_P D cl ws U.heap ∧ va_K D cl tys U ∧ fw_N U
def fw_pW (D : va_G) (cl : List vw_C) (tys : List (ClassId × FieldType)) (ws : va_W) (sz : Nat) (U : State) : Prop := U.heap.size = sz ∧ va_P D cl ws U.heap ∧ va_K D cl tys U ∧ va_D (fun _ => True) ws ∧ fw_N U
def fw_q (D : va_G) (cl : List vw_C) (tys : List (ClassId × FieldType)) (A : Nat → Prop) (ws : va_W) (t : State) : Prop := va_P D cl ws t.heap ∧ va_K D cl tys t ∧ va_D A ws
section FWB
variable {p : Program} {l : Launch} {e : Env} {R : Room} {s : State} {m : MethodId} {args : Array Value} {below : List Frame} {meth : Method} {c : Code} {H : Heap} {locs : List Loc} {cells slots : Nat} {Q : State → Prop} {pc : Nat} {ls : Array Slot} {rest : List Value}
theorem fw_i {x x' : Int32} (h : x = x') (k : W p l e R s m args below meth c H locs cells slots Q (F0 m pc ls (.int x' :: rest))) : W p l e R s m args below meth c H locs cells slots Q (F0 m pc ls (.int x :: rest)) := by rw [h]; exact k
theorem fw_l {x x' : Int64} (h : x = x') (k : W p l e R s m args below meth c H locs cells slots Q (F0 m pc ls (.long x' :: rest))) : W p l e R s m args below meth c H locs cells slots Q (F0 m pc ls (.long x :: rest)) := by rw [h]; exact k
theorem fw_v {x x' : Value} (h : x = x') (k : W p l e R s m args below meth c H locs cells slots Q (F0 m pc ls (x' :: rest))) : W p l e R s m args below meth c H locs cells slots Q (F0 m pc ls (x :: rest)) := by rw [h]; exact k
/-- a loop of a method that writes: the measure n falls -/
theorem fw_loop {σ : Type} {st : List Value} (I : Nat → σ → Heap → List Loc → Array Slot → Prop)
    (hs : ∀ (n : Nat) (u : σ) (H : Heap) (locs : List Loc) (ls : Array Slot), I n u H locs ls → (∀ (n' : Nat) (u' : σ) (H' : Heap) (locs' : List Loc) (ls' : Array Slot), n' < n → I n' u' H' locs' ls' → W p l e R s m args below meth c H' locs' cells slots Q (F0 m pc ls' st)) → W p l e R s m args below meth c H locs cells slots Q (F0 m pc ls st))
    (n : Nat) (u : σ) (H : Heap) (locs : List Loc) (ls : Array Slot) (h : I n u H locs ls) : W p l e R s m args below meth c H locs cells slots Q (F0 m pc ls st) := by
  induction n using Nat.strongRecOn generalizing u H locs ls with
  | ind n ih => exact hs n u H locs ls h (fun n' u' H' locs' ls' hn hI => ih n' hn u' H' locs' ls' hI)
/-- a loop of a method that only reads -/
theorem fw_loopR {σ : Type} {st : List Value} (I : Nat → σ → Array Slot → Prop)
    (hs : ∀ (n : Nat) (u : σ) (ls : Array Slot), I n u ls → (∀ (n' : Nat) (u' : σ) (ls' : Array Slot), n' < n → I n' u' ls' → W p l e R s m args below meth c H locs cells slots Q (F0 m pc ls' st)) → W p l e R s m args below meth c H locs cells slots Q (F0 m pc ls st))
    (n : Nat) (u : σ) (ls : Array Slot) (h : I n u ls) : W p l e R s m args below meth c H locs cells slots Q (F0 m pc ls st) := by
  induction n using Nat.strongRecOn generalizing u ls with
  | ind n ih => exact hs n u ls h (fun n' u' ls' hn hI => ih n' hn u' ls' hI)
end FWB
/-- the entry of a contract that only reads -/
theorem fw_metR {l : Launch} {y : MethodName} {ws ws' : List Cond} {rm : Room} {D : va_G} {cl : List vw_C} {tys : List (ClassId × FieldType)} {wl : va_W} {as : List Value} {Qc : Array Value → State → Outcome → State → Prop} {mc ms : Nat} {free : Addr → Prop} {cc : ByteArray} {maxL : Nat} {ret : Option FieldType}
    (hy : plainName y.cls = true) (hw : ws = Cond.code y cc maxL ret :: ws') (hn : (lg_sl as).length ≤ maxL)
    (body : ∀ (p : Program) (e : Env) (s : State) (m : MethodId) (below : List Frame) (meth : Method) (c : Code) (ls : Array Slot), p.tables.exec = Jvm.exec → c.code = cc → meth.sig.returnType = ret → (∀ w ∈ ws, w.before as.toArray s = true) → s.vm.findClass y.cls = some m.cls → meth.locks = false → c.maxLocals = maxL → meth.name = y.name → fw_N s → va_P D cl wl s.heap → va_K D cl tys s → lv_has ls maxL (lv_args 0 as) →
      W p l e rm s m as.toArray below meth c s.heap [] 0 0 (MQ below Qc as.toArray s mc ms free) (F0 m 0 ls [])) :
    Met l y ws rm (va_Pc as (fw_pR D cl tys wl)) Qc mc ms free := by
  refine Met.ofW (cc := cc) (maxL := maxL) (ret := ret) hy hw ?_
  intro p e s m args below meth c s₁ B hml hv
  obtain ⟨rfl, hP, hK, hN⟩ := hv
  have hl := lv_entry as (n := maxL) hn
  rw [lg_entry_eq]
  exact body p e s m below meth c _ B.exec B.bytes B.returns (atoms_spec (ws := ws) B.pre) (findClass_of_methodNamed B.named) B.notSynchronized hml (name_of_methodNamed B.named B.method).1 hN hP hK hl
/-- the entry of a contract that writes -/
theorem fw_metW {l : Launch} {y : MethodName} {ws ws' : List Cond} {rm : Room} {D : va_G} {cl : List vw_C} {tys : List (ClassId × FieldType)} {wl : va_W} {sz : Nat} {as : List Value} {Qc : Array Value → State → Outcome → State → Prop} {mc ms : Nat} {free : Addr → Prop} {cc : ByteArray} {maxL : Nat} {ret : Option FieldType}
    (hy : plainName y.cls = true) (hw : ws = Cond.code y cc maxL ret :: ws') (hn : (lg_sl as).length ≤ maxL)
    (body : ∀ (p : Program) (e : Env) (s : State) (m : MethodId) (below : List Frame) (meth : Method) (c : Code) (ls : Array Slot), p.tables.exec = Jvm.exec → c.code = cc → meth.sig.returnType = ret → (∀ w ∈ ws, w.before as.toArray s = true) → s.vm.findClass y.cls = some m.cls → meth.locks = false → c.maxLocals = maxL → meth.name = y.name → fw_N s → s.heap.size = sz → va_P D cl wl s.heap → va_K D cl tys s → va_D (va_A wl sz) wl → (∀ q : Nat, s.heap.size ≤ q → va_A wl sz q) → va_S (va_A wl sz) s.heap s.heap [] → lv_has ls maxL (lv_args 0 as) →
      W p l e rm s m as.toArray below meth c s.heap [] 0 0 (MQ below Qc as.toArray s mc ms free) (F0 m 0 ls [])) :
    Met l y ws rm (va_Pc as (fw_pW D cl tys wl sz)) Qc mc ms free := by
  refine Met.ofW (cc := cc) (maxL := maxL) (ret := ret) hy hw ?_
  intro p e s m args below meth c s₁ B hml hv
  obtain ⟨rfl, hsz, hP, hK, hD, hN⟩ := hv
  have hl := lv_entry as (n := maxL) hn
  rw [lg_entry_eq]
  exact body p e s m below meth c _ B.exec B.bytes B.returns (atoms_spec (ws := ws) B.pre) (findClass_of_methodNamed B.named) B.notSynchronized hml (name_of_methodNamed B.named B.method).1 hN hsz hP hK hD.self (fun q h => Or.inr (by rw [← hsz]; exact h)) va_S.rf hl
/-- what a call wants of the world: receiver and reads -/
theorem fw_preVR {s : State} {H : Heap} {D : va_G} {cl : List vw_C} {tys : List (ClassId × FieldType)} {ws : va_W} {a ci q0 : Nat} {q : vw_C} {fs : List Value} {As : List Value} (hN : fw_N s) (hK : va_K D cl tys s) (hP : va_P D cl ws H) (hc : cl[ci]? = some q) (he : ws[q0]? = some (a, .inr (ci, fs))) : PreV s H q.1 a (va_Pc (.ref a :: As) (fw_pR D cl tys ws)) As :=
  ⟨fun av U g mk h => ⟨h.1, h.2.1, va_K.moved (u := U) (U := U.calling g mk av) (Vm.Alike.refl U.vm) h.2.2.1, fw_N.same (s := U) (U := U.calling g mk av) rfl h.2.2.2⟩, va_recv hK hP hc he, fun U hU hW => ⟨rfl, by rw [hU]; exact hP, va_K.moved hW.alike hK, fw_N.warm hW hN⟩⟩
theorem fw_preSR {s : State} {H : Heap} {D : va_G} {cl : List vw_C} {tys : List (ClassId × FieldType)} {ws : va_W} {As : List Value} (hN : fw_N s) (hK : va_K D cl tys s) (hP : va_P D cl ws H) : PreS s H (va_Pc As (fw_pR D cl tys ws)) As :=
  ⟨fun av U g mk h => ⟨h.1, h.2.1, va_K.moved (u := U) (U := U.calling g mk av) (Vm.Alike.refl U.vm) h.2.2.1, fw_N.same (s := U) (U := U.calling g mk av) rfl h.2.2.2⟩, fun U hU hW => ⟨rfl, by rw [hU]; exact hP, va_K.moved hW.alike hK, fw_N.warm hW hN⟩⟩
theorem fw_preVW {s : State} {H : Heap} {D : va_G} {cl : List vw_C} {tys : List (ClassId × FieldType)} {ws : va_W} {A : Nat → Prop} {a ci q0 : Nat} {q : vw_C} {fs : List Value} {As : List Value} (hN : fw_N s) (hK : va_K D cl tys s) (hP : va_P D cl ws H) (hD : va_D A ws) (hc : cl[ci]? = some q) (he : ws[q0]? = some (a, .inr (ci, fs))) : PreV s H q.1 a (va_Pc (.ref a :: As) (fw_pW D cl tys ws H.size)) As :=
  ⟨fun av U g mk h => ⟨h.1, h.2.1, h.2.2.1, va_K.moved (u := U) (U := U.calling g mk av) (Vm.Alike.refl U.vm) h.2.2.2.1, h.2.2.2.2.1, fw_N.same (s := U) (U := U.calling g mk av) rfl h.2.2.2.2.2⟩, va_recv hK hP hc he, fun U hU hW => ⟨rfl, by rw [hU], by rw [hU]; exact hP, va_K.moved hW.alike hK, hD.weaken (fun _ _ _ _ => trivial), fw_N.warm hW hN⟩⟩
theorem fw_preSW {s : State} {H : Heap} {D : va_G} {cl : List vw_C} {tys : List (ClassId × FieldType)} {ws : va_W} {A : Nat → Prop} {As : List Value} (hN : fw_N s) (hK : va_K D cl tys s) (hP : va_P D cl ws H) (hD : va_D A ws) : PreS s H (va_Pc As (fw_pW D cl tys ws H.size)) As :=
  ⟨fun av U g mk h => ⟨h.1, h.2.1, h.2.2.1, va_K.moved (u := U) (U := U.calling g mk av) (Vm.Alike.refl U.vm) h.2.2.2.1, h.2.2.2.2.1, fw_N.same (s := U) (U := U.calling g mk av) rfl h.2.2.2.2.2⟩, fun U hU hW => ⟨rfl, by rw [hU], by rw [hU]; exact hP, va_K.moved hW.alike hK, hD.weaken (fun _ _ _ _ => trivial), fw_N.warm hW hN⟩⟩
/-- the world's list in another order, or part of it -/
theorem fw_Pm {D : va_G} {cl : List vw_C} {ws ws' : va_W} {H : Heap} (h : va_P D cl ws H) (hm : ∀ q, q ∈ ws' → q ∈ ws) : va_P D cl ws' H := by
  intro k q hk
  obtain ⟨i, hi⟩ := List.getElem?_of_mem (hm q (List.mem_of_getElem? hk))
  exact h i q hi
theorem fw_Dnd {A : Nat → Prop} {ws : va_W} (h : va_D A ws) : (ws.map (fun q => q.1)).Nodup := by
  rw [List.nodup_iff_pairwise_ne, List.pairwise_iff_getElem]
  intro i j hi hj hij
  rw [List.length_map] at hi hj
  rw [List.getElem_map, List.getElem_map]
  intro e
  have := h.1 i j _ _ (List.getElem?_eq_getElem hi) (List.getElem?_eq_getElem hj) e
  omega
theorem fw_Dof {A : Nat → Prop} {ws : va_W} (hn : (ws.map (fun q => q.1)).Nodup) (ha : ∀ q, q ∈ ws → A q.1) : va_D A ws := by
  refine ⟨fun i j p q hi hj e => ?_, fun k q hk => ha q (List.mem_of_getElem? hk)⟩
  have h1 : (ws.map (fun q => q.1))[i]? = some p.1 := by rw [List.getElem?_map, hi]; rfl
  have h2 : (ws.map (fun q => q.1))[j]? = some q.1 := by rw [List.getElem?_map, hj]; rfl
  have hl : i < (ws.map (fun q => q.1)).length := (List.getElem?_eq_some_iff.mp h1).1
  exact (List.getElem?_inj hl hn).mp (h1.trans ((congrArg some e).trans h2.symm))
theorem fw_Pp {D : va_G} {cl : List vw_C} {ws ws' : va_W} {H : Heap} (h : va_P D cl ws H) (hp : ws.Perm ws') : va_P D cl ws' H := fw_Pm h (fun q hq => hp.mem_iff.mpr hq)
theorem fw_Dp {A : Nat → Prop} {ws ws' : va_W} (h : va_D A ws) (hp : ws.Perm ws') : va_D A ws' :=
  fw_Dof ((hp.map (fun q => q.1)).nodup_iff.mp (fw_Dnd h)) (fun q hq => by
    obtain ⟨i, hi⟩ := List.getElem?_of_mem (hp.mem_iff.mpr hq)
    exact h.2 i q hi)
/-- a contract said otherwise -/
theorem fw_mono {l : Launch} {y : MethodName} {ws : List Cond} {rm : Room} {P P' : Array Value → State → Prop} {Q Q' : Array Value → State → Outcome → State → Prop} {mc ms : Nat} {free free' : Addr → Prop} (h : Met l y ws rm P Q mc ms free) (hP : ∀ a s, P' a s → P a s) (hQ : ∀ a s o t, P' a s → Q a s o t → Q' a s o t) (hf : ∀ q, free q → free' q) : Met l y ws rm P' Q' mc ms free' := by
  intro p e h1 h2 h3 s m args below h4 h5 h6 h7
  obtain ⟨n, o, a1, a2, a3, a4, L, a5, a6⟩ := h p e h1 h2 h3 s m args below h4 h5 (hP _ _ h6) h7
  exact ⟨n, o, a1, a2, a3, hQ _ _ _ _ h6 a4, L, a5, fun q hq => hf _ (a6 q hq)⟩
/-- the frame: what a contract doesn't name stays -/
theorem fw_fr {D : va_G} {cl : List vw_C} {X W0 W1 R : va_W} {s t : State} {sz : Nat} {B : Nat → Prop} (hp : X.Perm (W0 ++ R)) (hsz : s.heap.size = sz) (hP : va_P D cl X s.heap) (hD : va_D B X) (hF : va_F (va_A W0 sz) s t) (hP1 : va_P D cl W1 t.heap) (hD1 : va_D (va_A W0 sz) W1) :
    va_P D cl (W1 ++ R) t.heap ∧ va_D (va_A X sz) (W1 ++ R) ∧ va_F (va_A X sz) s t := by
  have hsub : ∀ q, va_A W0 sz q → va_A X sz q := by
    intro q h
    rcases h with ⟨k, e, h⟩ | h
    · obtain ⟨i, hi⟩ := List.getElem?_of_mem (hp.mem_iff.mpr (List.mem_append_left R (List.mem_of_getElem? h)))
      exact Or.inl ⟨i, e, hi⟩
    · exact Or.inr h
  have hP2 : va_P D cl (W0 ++ R) s.heap := fw_Pp hP hp
  have hD2 : va_D B (W0 ++ R) := fw_Dp hD hp
  have hR : ∀ (k : Nat) (q : Nat × va_E), R[k]? = some q → q.1 < s.heap.size ∧ ¬ va_A W0 sz q.1 := by
    intro k q hk
    have h1 : (W0 ++ R)[W0.length + k]? = some q := by rw [List.getElem?_append_right (Nat.le_add_right _ _), Nat.add_sub_cancel_left]; exact hk
    have hl := (hP2 _ _ h1).lt
    refine ⟨hl, fun h => ?_⟩
    rcases h with ⟨j, e, h⟩ | h
    · have hj := (List.getElem?_eq_some_iff.mp h).1
      have h2 : (W0 ++ R)[j]? = some (q.1, e) := by rw [List.getElem?_append_left hj]; exact h
      have := hD2.1 _ _ _ _ h1 h2 rfl
      omega
    · omega
  refine ⟨va_P.app hP1 (fun k q hk => ?_), va_D.app (hD1.weaken (fun _ q _ h => hsub q.1 h)) ⟨fun i j p q hi hj e => ?_, fun k q hk => ?_⟩ (fun i j p q hi hj e => ?_), ⟨hF.1, fun q h1 h2 => hF.2 q h1 (fun h => h2 (hsub q h))⟩⟩
  · have h1 : (W0 ++ R)[W0.length + k]? = some q := by rw [List.getElem?_append_right (Nat.le_add_right _ _), Nat.add_sub_cancel_left]; exact hk
    exact (hP2 _ _ h1).kept (hF.2 q.1 (hR k q hk).1 (hR k q hk).2)
  · have h1 : (W0 ++ R)[W0.length + i]? = some p := by rw [List.getElem?_append_right (Nat.le_add_right _ _), Nat.add_sub_cancel_left]; exact hi
    have h2 : (W0 ++ R)[W0.length + j]? = some q := by rw [List.getElem?_append_right (Nat.le_add_right _ _), Nat.add_sub_cancel_left]; exact hj
    have := hD2.1 _ _ _ _ h1 h2 e
    omega
  · obtain ⟨i, hi⟩ := List.getElem?_of_mem (hp.mem_iff.mpr (List.mem_append_right W0 (List.mem_of_getElem? hk)))
    exact Or.inl ⟨i, q.2, hi⟩
  · exact (hR j q hj).2 (by rw [← e]; exact hD1.2 i p hi)
/-- behind a call, with the world in any order: what came back, and the rest -/
theorem fw_jn {A0 : Nat → Prop} {D : va_G} {cl : List vw_C} {X W0 R W1 : va_W} {H H1 : Heap} (hp : X.Perm (W0 ++ R)) (hP : va_P D cl X H) (hD : va_D A0 X) (hk : ∀ q : Nat, q < H.size → ¬ va_A W0 H.size q → H1[q]? = H[q]?) (hF : ∀ q, va_A W0 H.size q → A0 q) (hP1 : va_P D cl W1 H1) (hD1 : va_D (va_A W0 H.size) W1) :
    va_P D cl (W1 ++ R) H1 ∧ va_D A0 (W1 ++ R) := by
  have hP2 : va_P D cl (W0 ++ R) H := fw_Pp hP hp
  have hD2 : va_D A0 (W0 ++ R) := fw_Dp hD hp
  have hat : ∀ (k : Nat) (q : Nat × va_E), R[k]? = some q → (W0 ++ R)[W0.length + k]? = some q := fun k q hk => by rw [List.getElem?_append_right (Nat.le_add_right _ _), Nat.add_sub_cancel_left]; exact hk
  have hR : ∀ (k : Nat) (q : Nat × va_E), R[k]? = some q → q.1 < H.size ∧ ¬ va_A W0 H.size q.1 := by
    intro k q hk
    have hl := (hP2 _ _ (hat k q hk)).lt
    refine ⟨hl, fun h => ?_⟩
    rcases h with ⟨j, e, h⟩ | h
    · have hj := (List.getElem?_eq_some_iff.mp h).1
      have h2 : (W0 ++ R)[j]? = some (q.1, e) := by rw [List.getElem?_append_left hj]; exact h
      have := hD2.1 _ _ _ _ (hat k q hk) h2 rfl
      omega
    · omega
  refine ⟨va_P.app hP1 (fun k q hk2 => (hP2 _ _ (hat k q hk2)).kept (hk q.1 (hR k q hk2).1 (hR k q hk2).2)), va_D.app (hD1.weaken (fun _ q _ h => hF q.1 h)) ⟨fun i j p q hi hj e => ?_, fun k q hk2 => hD2.2 _ _ (hat k q hk2)⟩ (fun i j p q hi hj e => (hR j q hj).2 (by rw [← e]; exact hD1.2 i p hi))⟩
  have := hD2.1 _ _ _ _ (hat i p hi) (hat j q hj) e
  omega
theorem fw_Fr {A0 : Nat → Prop} {X W0 R : va_W} {H0 H : Heap} {locs : List Loc} (hp : X.Perm (W0 ++ R)) (hD : va_D A0 X) (hS : va_S A0 H0 H locs) (hA : ∀ q, H0.size ≤ q → A0 q) : ∀ q, va_A W0 H.size q → A0 q := by
  intro q h
  rcases h with ⟨k, e, h⟩ | h
  · obtain ⟨i, hi⟩ := List.getElem?_of_mem (hp.mem_iff.mpr (List.mem_append_left R (List.mem_of_getElem? h)))
    exact hD.2 i (q, e) hi
  · exact hA q (Nat.le_trans hS.1 h)
/-- the array classes, out of the tables' words -/
theorem fw_arr {args : Array Value} {s : State} {D : va_G} {cl : List vw_C} {tys : List (ClassId × FieldType)} (hK : va_K D cl tys s) (h : (Cond.arrayClass .int).before args s = true) : ∃ cA : ClassId, va_K D cl (tys ++ [(cA, .int)]) s := by
  obtain ⟨cA, kA, comp, h1, h2, h3⟩ := Cond.arrayClass_spec h
  refine ⟨cA, va_K.app hK ⟨hK.1, fun k x hx => ?_⟩⟩
  have hz : k < 1 := (List.getElem?_eq_some_iff.mp hx).1
  rw [show k = 0 by omega] at hx
  cases hx
  exact ⟨fun n z => ⟨fun k h => (by cases h), kA, h2, comp, h3⟩, h1⟩
theorem fw_arrZ {args : Array Value} {s : State} {D : va_G} {cl : List vw_C} {tys : List (ClassId × FieldType)} (hK : va_K D cl tys s) (h : (Cond.arrayClass .boolean).before args s = true) : ∃ cA : ClassId, va_K D cl (tys ++ [(cA, .boolean)]) s := by
  obtain ⟨cA, kA, comp, h1, h2, h3⟩ := Cond.arrayClass_spec h
  refine ⟨cA, va_K.app hK ⟨hK.1, fun k x hx => ?_⟩⟩
  have hz : k < 1 := (List.getElem?_eq_some_iff.mp hx).1
  rw [show k = 0 by omega] at hx
  cases hx
  exact ⟨fun n z => ⟨fun k h => (by cases h), kA, h2, comp, h3⟩, h1⟩
