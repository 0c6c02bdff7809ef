/-! THE CLASS'S STATE: a history's cells; the histories of all tests -/
abbrev FlR : Type := (Nat × Nat × Nat) × (Nat × Nat) × (Bool × Nat) × (Int32 × Nat) × (Nat → Int32) × (Nat → Bool)
def fl_c (cI cZ : ClassId) (r : FlR) : va_W := match r with
  | ((h0, ea, pa), (s, o), (mkd, tm), (je, jf), e, b) => [(h0, .inr (2, [.ref ea, .ref pa, .int (nI s), .int (nI o), .int (nI (hv_D e b s s)), .int (nI (hv_N e b s s)), .int (nI (hv_X e b s s)), .int (zI mkd), .int (nI tm), .int je, .int (nI jf)])), (ea, .inl (cI, 48, .inl (e))), (pa, .inl (cZ, 48, .inl (fun j => zI (b j))))]
def fl_cs (cI cZ : ClassId) (L : List FlR) : va_W := L.flatMap (fl_c cI cZ)
/-- a history as it must be -/
def fl_ok (r : FlR) : Prop := r.2.1.1 ≤ 48 ∧ r.2.1.2 < 48 ∧ r.2.2.2.1.2 ≤ 2
def fl_ref (L : List FlR) (hf : Nat → Option Nat) : Prop := ∀ i, i < 12 → hf i = (L[i]?).map (fun r => r.1.1)
theorem fl_in {cI cZ : ClassId} {L : List FlR} {i : Nat} {r : FlR} (h : L[i]? = some r) : ∀ q, q ∈ fl_c cI cZ r → q ∈ fl_cs cI cZ L := fun _ hq => List.mem_flatMap.mpr ⟨r, List.mem_of_getElem? h, hq⟩
theorem fl_split {cI cZ : ClassId} {L : List FlR} {i : Nat} {r : FlR} (h : L[i]? = some r) : (fl_cs cI cZ L).Perm (fl_c cI cZ r ++ fl_cs cI cZ (L.take i ++ L.drop (i + 1))) := by
  obtain ⟨hl, hg⟩ := List.getElem?_eq_some_iff.mp h
  have e : L = L.take i ++ r :: L.drop (i + 1) := by
    rw [← hg, List.getElem_cons_drop, List.take_append_drop]
  have h1 : fl_cs cI cZ L = fl_cs cI cZ (L.take i) ++ (fl_c cI cZ r ++ fl_cs cI cZ (L.drop (i + 1))) := by
    conv => lhs; rw [e]
    unfold fl_cs
    rw [List.flatMap_append, List.flatMap_cons]
  rw [h1]
  unfold fl_cs
  rw [List.flatMap_append]
  exact List.perm_append_comm_assoc _ _ _
theorem fl_set {cI cZ : ClassId} {L : List FlR} {i : Nat} (hi : i < L.length) (r2 : FlR) : (fl_c cI cZ r2 ++ fl_cs cI cZ (L.take i ++ L.drop (i + 1))).Perm (fl_cs cI cZ (L.set i r2)) := by
  have h1 : (L.set i r2)[i]? = some r2 := by rw [List.getElem?_set_self hi]
  have h2 := fl_split (cI := cI) (cZ := cZ) h1
  have e1 : (L.set i r2).take i = L.take i := by rw [List.take_set_of_le (Nat.le_refl i)]
  have e2 : (L.set i r2).drop (i + 1) = L.drop (i + 1) := by rw [List.drop_set_of_lt (Nat.lt_succ_self i)]
  rw [e1, e2] at h2
  exact h2.symm
/-- whether a test's fails at an edition are real -/
def fl_real (x : Int32) (r : FlR) : Bool := match r with
  | (_, (s, _), (mkd, _), _, e, b) => !mkd && (hv_has e b x false s && !hv_has e b x true s)
def fl_bits (x : Int32) (L : List FlR) : Nat → Int32
  | 0 => 0
  | i + 1 => match L[i]? with
    | some r => if fl_real x r = true then fl_bits x L i ||| ((1 : Int32) <<< (nI i &&& 31)) else fl_bits x L i
    | none => fl_bits x L i
