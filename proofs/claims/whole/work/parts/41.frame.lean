/-! contracts over larger worlds -/
theorem fw_mono2 {l : Launch} {y : MethodName} {ws : List Cond} {rm : Room} {P P' : Array Value → State → Prop} {Q Q' : Array Value → State → Outcome → State → Prop} {mc ms : Nat} {free free' : Addr → Prop} (h : Met l y ws rm P Q mc ms free) (hP : ∀ a s, P' a s → P a s) (hQ : ∀ a s o t, P' a s → s.WarmedH t.vm → Q a s o t → Q' a s o t) (hf : ∀ q, free q → free' q) : Met l y ws rm P' Q' mc ms free' := by
  intro p e h1 h2 h3 s m args below h4 h5 h6 h7
  obtain ⟨n, o, a1, a2, a3, a4, L, a5, a6⟩ := h p e h1 h2 h3 s m args below h4 h5 (hP _ _ h6) h7
  exact ⟨n, o, a1, a2, a3, hQ _ _ _ _ h6 a5.2.1 a4, L, a5, fun q hq => hf _ (a6 q hq)⟩
theorem fw_Km {D : va_G} {cl : List vw_C} {tys TYS : List (ClassId × FieldType)} {U : State} (h : va_K D cl TYS U) (hm : ∀ q, q ∈ tys → q ∈ TYS) : va_K D cl tys U := by
  refine ⟨h.1, fun k q hk => ?_⟩
  obtain ⟨i, hi⟩ := List.getElem?_of_mem (hm q (List.mem_of_getElem? hk))
  exact h.2 i q hi
section OFW
variable {l : Launch} {y : MethodName} {ws : List Cond} {rm : Room} {D : va_G} {cl : List vw_C} {tys TYS : List (ClassId × FieldType)} {W0 R X : va_W} {as : List Value} {mc ms sz : Nat}
theorem fw_sub (hp : X.Perm (W0 ++ R)) : ∀ q, va_A W0 sz q → va_A X sz q := by
  intro q h
  rcases h with ⟨k, e, h⟩ | h
  · obtain ⟨i, hi⟩ := List.getElem?_of_mem (hp.mem_iff.mpr (List.mem_append_left R (List.mem_of_getElem? h)))
    exact Or.inl ⟨i, e, hi⟩
  · exact Or.inr h
theorem fw_preX (hp : X.Perm (W0 ++ R)) (ht : ∀ q, q ∈ tys → q ∈ TYS) (a : Array Value) (s : State) (h : va_Pc as (fw_pW D cl TYS X sz) a s) : va_Pc as (fw_pW D cl tys W0 sz) a s := by
  obtain ⟨h1, h2, h3, h4, h5, h6⟩ := h
  refine ⟨h1, h2, fw_Pm (fw_Pp h3 hp) (fun q hq => List.mem_append_left R hq), fw_Km h4 ht, ?_, h6⟩
  have h7 := fw_Dp h5 hp
  refine fw_Dof ?_ (fun _ _ => trivial)
  have h8 := fw_Dnd h7
  rw [List.map_append] at h8
  exact h8.sublist (List.sublist_append_left _ _)
theorem fw_ofWi {S : Type} {post : Int32 → S → Prop} {W1 X' : S → va_W} (h : Met l y ws rm (va_Pc as (fw_pW D cl tys W0 sz)) (va_Qi post (fun u zt => fw_q D cl tys (va_A W0 sz) (W1 u) zt) (va_A W0 sz)) mc ms (va_A W0 sz)) (hp : X.Perm (W0 ++ R)) (ht : ∀ q, q ∈ tys → q ∈ TYS) (hx : ∀ u, (W1 u ++ R).Perm (X' u)) :
    Met l y ws rm (va_Pc as (fw_pW D cl TYS X sz)) (va_Qi post (fun u zt => fw_q D cl TYS (va_A X sz) (X' u) zt) (va_A X sz)) mc ms (va_A X sz) := by
  refine fw_mono2 h (fun a s hs => fw_preX hp ht a s hs) (fun a s o t hs hW hq => ?_) (fw_sub hp)
  obtain ⟨h1, h2, h3, h4, h5, h6⟩ := hs
  obtain ⟨⟨r, u, q1, q2, q3, q4, q5⟩, q6⟩ := hq
  obtain ⟨f1, f2, f3⟩ := fw_fr hp h2 h3 h5 q6 q3 q5
  exact ⟨⟨r, u, q1, q2, fw_Pp f1 (hx u), va_K.moved hW.alike h4, fw_Dp f2 (hx u)⟩, f3⟩
theorem fw_ofWl {S : Type} {post : Int64 → S → Prop} {W1 X' : S → va_W} (h : Met l y ws rm (va_Pc as (fw_pW D cl tys W0 sz)) (va_Ql post (fun u zt => fw_q D cl tys (va_A W0 sz) (W1 u) zt) (va_A W0 sz)) mc ms (va_A W0 sz)) (hp : X.Perm (W0 ++ R)) (ht : ∀ q, q ∈ tys → q ∈ TYS) (hx : ∀ u, (W1 u ++ R).Perm (X' u)) :
    Met l y ws rm (va_Pc as (fw_pW D cl TYS X sz)) (va_Ql post (fun u zt => fw_q D cl TYS (va_A X sz) (X' u) zt) (va_A X sz)) mc ms (va_A X sz) := by
  refine fw_mono2 h (fun a s hs => fw_preX hp ht a s hs) (fun a s o t hs hW hq => ?_) (fw_sub hp)
  obtain ⟨h1, h2, h3, h4, h5, h6⟩ := hs
  obtain ⟨⟨r, u, q1, q2, q3, q4, q5⟩, q6⟩ := hq
  obtain ⟨f1, f2, f3⟩ := fw_fr hp h2 h3 h5 q6 q3 q5
  exact ⟨⟨r, u, q1, q2, fw_Pp f1 (hx u), va_K.moved hW.alike h4, fw_Dp f2 (hx u)⟩, f3⟩
/-- one that only reads -/
theorem fw_ofRi {S : Type} [Inhabited S] {post : Int32 → Prop} (h : Met l y ws rm (va_Pc as (fw_pR D cl tys W0)) (vp_Si post) 0 0 (fun _ => False)) (hm : ∀ q, q ∈ W0 → q ∈ X) (ht : ∀ q, q ∈ tys → q ∈ TYS) :
    Met l y ws rm (va_Pc as (fw_pW D cl TYS X sz)) (va_Qi (S := S) (fun r _ => post r) (fun _ zt => fw_q D cl TYS (va_A X sz) X zt) (va_A X sz)) 0 0 (va_A X sz) := by
  refine fw_mono2 h (fun a s hs => ?_) (fun a s o t hs hW hq => ?_) (fun _ hq => hq.elim)
  · obtain ⟨h1, h2, h3, h4, h5, h6⟩ := hs
    exact ⟨h1, fw_Pm h3 hm, fw_Km h4 ht, h6⟩
  · obtain ⟨h1, h2, h3, h4, h5, h6⟩ := hs
    obtain ⟨r, q1, q2, q3⟩ := hq
    exact ⟨⟨r, default, q1, q2, by rw [q3]; exact h3, va_K.moved hW.alike h4, h5.self⟩, by rw [q3]; exact Nat.le_refl _, fun q _ _ => by rw [q3]⟩
theorem fw_ofRl {S : Type} [Inhabited S] {post : Int64 → Prop} (h : Met l y ws rm (va_Pc as (fw_pR D cl tys W0)) (vp_Sl post) 0 0 (fun _ => False)) (hm : ∀ q, q ∈ W0 → q ∈ X) (ht : ∀ q, q ∈ tys → q ∈ TYS) :
    Met l y ws rm (va_Pc as (fw_pW D cl TYS X sz)) (va_Ql (S := S) (fun r _ => post r) (fun _ zt => fw_q D cl TYS (va_A X sz) X zt) (va_A X sz)) 0 0 (va_A X sz) := by
  refine fw_mono2 h (fun a s hs => ?_) (fun a s o t hs hW hq => ?_) (fun _ hq => hq.elim)
  · obtain ⟨h1, h2, h3, h4, h5, h6⟩ := hs
    exact ⟨h1, fw_Pm h3 hm, fw_Km h4 ht, h6⟩
  · obtain ⟨h1, h2, h3, h4, h5, h6⟩ := hs
    obtain ⟨r, q1, q2, q3⟩ := hq
    exact ⟨⟨r, default, q1, q2, by rw [q3]; exact h3, va_K.moved hW.alike h4, h5.self⟩, by rw [q3]; exact Nat.le_refl _, fun q _ _ => by rw [q3]⟩
end OFW
