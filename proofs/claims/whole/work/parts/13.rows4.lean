/-! ===== small returns; links of the Stop's fields, of the copies ===== -/
theorem v_nret {g : Mg} {y : Ly} {J : Jm} {d : Nat} {K : Ou → Wd → Prop} {pc : Nat} {ls : List (Nat × AV)} {w : Wd} {x : Int} {ty : FieldType} (hd : decode J.cc pc = .ok (.ireturn, 1)) (hr : J.ret = some ty) (hn : narrow ty (.int (Int32.ofInt x)) = .int (Int32.ofInt x)) (hK : K (.inl (some (vI x))) w) : V g y J d K pc ls [vI x] w := by
  intro p e s m args below meth c A0 H locs lsA hH hS hl hlo hst
  obtain ⟨h1, h2, h3, h4, h5, -⟩ := A0
  intro T hT X
  have hlocks : meth.locks = false := h5
  obtain ⟨fs, hret, hrun, hended, hW, hframe⟩ := X.leave (v := some (.int (Int32.ofInt x))) (fun h => by rw [h3, hr] at h; cases h)
  have hmeth' : T.vm.method? m = some meth := X.method'
  have hrr : meth.sig.returnType = some ty := by rw [h3, hr]
  refine ⟨T.setFrames fs, ?_, zq_of (o := .inl (some (vI x))) hT hrun hended (ok_hd hst) hH hK hS hW hframe⟩
  jvm_step X.here [X.here.top, h1, h2, hd, hmeth', hrr, hn, cv]
  (try refine ⟨rfl, ?_⟩); (try refine ⟨rfl, ?_⟩)
  first | (intro acts; rw [hret _ acts rfl rfl rfl]) | rw [hret _ _ rfl rfl rfl]
  exact Steps.refl _
theorem fn_what : FN "VertexLanguageModel" 11 0 := ⟨rfl, by decide, rfl, rfl, rfl, rfl, by decide⟩
theorem fn_place : FN "VertexLanguageModel" 16 1 := ⟨rfl, by decide, rfl, rfl, rfl, rfl, by decide⟩
set_option maxRecDepth 20000 in
theorem cp_Te_39 : CPY "VertexLanguage$Text" 39 := ⟨mt_3 74 rfl rfl, mt_3 76 rfl rfl, mt_3 75 rfl rfl, mt_1 20 rfl rfl⟩
set_option maxRecDepth 20000 in
theorem cp_Mo_42 : CPY "VertexLanguage$Moment" 42 := ⟨mt_5 129 rfl rfl, mt_3 76 rfl rfl, mt_3 75 rfl rfl, mt_1 20 rfl rfl⟩
set_option maxRecDepth 20000 in
theorem cl_stop : Cond.classLink "VertexLanguageModel" 12 "VertexLanguageModel$Stop" ∈ lw_g := mt_6 76 rfl rfl
abbrev rL (o : Ou) (k : Int → Prop) : Prop := match o with
  | .inl (some (.inr (.inr x))) => k x
  | _ => False
theorem rL_of {o : Ou} {k : Int → Prop} (h : rL o k) : ∃ x, o = .inl (some (vL x)) ∧ k x := by
  rcases o with v | b
  · rcases v with _ | v
    · exact h.elim
    · rcases v with x | x | x
      · exact h.elim
      · exact h.elim
      · exact ⟨x, rfl, h⟩
  · exact h.elim
theorem v_lret {g : Mg} {y : Ly} {J : Jm} {d : Nat} {K : Ou → Wd → Prop} {pc : Nat} {ls : List (Nat × AV)} {w : Wd} {x : Int} (hd : decode J.cc pc = .ok (.lreturn, 1)) (hr : J.ret = some .long) (hK : K (.inl (some (vL x))) w) : V g y J d K pc ls [vL x] w := by
  intro p e s m args below meth c A0 H locs lsA hH hS hl hlo hst
  obtain ⟨h1, h2, h3, h4, h5, -⟩ := A0
  intro T hT X
  have hlocks : meth.locks = false := h5
  obtain ⟨fs, hret, hrun, hended, hW, hframe⟩ := X.leave (v := some (.long (Int64.ofInt x))) (fun h => by rw [h3, hr] at h; cases h)
  have hmeth' : T.vm.method? m = some meth := X.method'
  have hrr : meth.sig.returnType = some .long := by rw [h3, hr]
  refine ⟨T.setFrames fs, ?_, zq_of (o := .inl (some (vL x))) hT hrun hended (ok_hd hst) hH hK hS hW hframe⟩
  jvm_step X.here [X.here.top, h1, h2, hd, hmeth', hrr, cv]
  (try refine ⟨rfl, ?_⟩); (try refine ⟨rfl, ?_⟩)
  first | (intro acts; rw [hret _ acts rfl rfl rfl]) | rw [hret _ _ rfl rfl rfl]
  exact Steps.refl _
