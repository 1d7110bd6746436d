/-! ===== a call out of a frame with any room ===== -/
section CalGen
variable {g : Mg} {y : Ly} {w : Wd}
theorem cal_gen {R : Room} {ce sl : Nat} {J' : Jm} {d' : Nat} {a : List AV} {K' : Ou → Wd → Prop} {p : Program} {e : Env} {s : State} {m : MethodId} {sargs : Array Value} {below : List Frame} {meth : Method} {c : Code} {U : State} {Ls : List Loc}
    (hC : Cal g y J' d' a w K') (X : Stand p g.l e R s m sargs below meth c U Ls ce sl) {f : JFrame} (hg : f.method = m) (hsize : f.locals.size = c.maxLocals) {ig : Instr} (hdg : decode c.code f.pc = .ok (ig, 3)) (hW : 2 * f.monitorRoom + (f.stack.map fun v => v.category).sum ≤ 8)
    {mk : MethodId} (hn : U.methodNamed? J'.y = some mk) (hfr : d' + 1 ≤ R.frames) (hlc : 64 * (d' + 1) ≤ R.locals) (hce : ce ≤ R.cells) (hsl : sl ≤ R.slots) (hnl : J'.nL ≤ 45) (hwords : ∀ u ∈ wsJ J', u.before (a.map (cv g)).toArray U = true) (hinit : (Cond.initialized J'.y.cls).before (a.map (cv g)).toArray U = true) (hok : ∀ v ∈ a, okv v) (hH : Hol g y w U.heap) (hK : va_K g.D cls_ (tysl g) U) (hO : Old g (AA g y) U U.heap) (hI : Inj g y) :
    ∃ (o' : Ou) (w' : Wd) (T' : State) (L : List Loc), Stand p g.l e R s m sargs below meth c T' (Ls ++ L) ce sl ∧ (∀ q ∈ L, AA g y q.base) ∧ oko o' ∧ Hol g y w' T'.heap ∧ K' o' w' ∧ U.heap.size ≤ T'.heap.size ∧ (∀ q : Nat, q < U.heap.size → ¬ AA g y q → T'.heap[q]? = U.heap[q]?) ∧
      Steps p.tables e below (doInvoke e (U.setTop f) [] mk (a.map (cv g)).toArray).1 (aft g T' f o') := by
  have hcd : ∃ methY cY, U.vm.method? mk = some methY ∧ methY.code = some cY ∧ cY.maxLocals = J'.nL := by
    have hw := hwords _ List.mem_cons_self
    cases hh : J'.hh with
    | nil =>
      simp only [hh] at hw
      obtain ⟨meth, c, h1, h2, h3, h4, -⟩ := Cond.code_spec hn hw
      exact ⟨meth, c, h1, h2, h4⟩
    | cons q t =>
      simp only [hh] at hw
      obtain ⟨m9, meth, c, hn9, h1, h2, h3, h4, -⟩ := Cond.codeWith_spec hw
      cases hn.symm.trans hn9
      exact ⟨meth, c, h1, h2, h4⟩
  obtain ⟨methY, cY, hmY, hcY, hlY⟩ := hcd
  obtain ⟨kY, hkY, -⟩ := className_of_methodNamed hn
  have hinitY : kY.init = .initialized := Cond.initialized_spec (findClass_of_methodNamed hn) hkY hinit
  have h : _root_.Jvm.At U f.method c below := by rw [hg]; exact X.here
  have happ : (headSpec (wsJ J') (rmd d')).appliesLoose J'.y e.platform (U.calling f mk (a.map (cv g)).toArray) = true :=
    Spec.appliesLoose_calling (g := f) h hdg hn hkY hinitY
      (X.room_calling (g := f) (R' := (headSpec (wsJ J') (rmd d')).room) hsize hmY hcY (by show d' + 1 ≤ R.frames; exact hfr) (by
        rw [hlY]
        show _ + (J'.nL + 11) + 64 * d' ≤ R.locals
        omega) (by show ce + 0 ≤ R.cells; exact hce) (by show sl + 0 ≤ R.slots; exact hsl)) (atoms_intro hwords)
  obtain ⟨mid, hmid⟩ := h.above
  have hfrs : (U.setTop f).frames = (.java f :: mid) ++ below := by rw [State.frames_setTop' f h.top, hmid]; rfl
  obtain ⟨o, s₂, hsteps, -, hend, hq⟩ := Steps.callFree hC p X.admits X.cas X.clock (acts := []) hfrs happ ⟨rfl, hok, hH, va_K.moved (Vm.Alike.refl U.vm) hK, hO.go (fun _ _ _ => rfl) (State.WarmedH.refl U), hI⟩ trivial
  have hq' : Zend g y K' (U.calling f mk (a.map (cv g)).toArray) o s₂ := hq
  rw [State.frames_setTop' f h.top] at hend
  obtain ⟨o', w', rfl, hoo, hH2, hK2, hF2, hW₂, L, ⟨e2, q2, q3, q4, q5, q6⟩, hL⟩ := hq'
  have e3 : s₂ = ({ (U.calling f mk (a.map (cv g)).toArray).setFrames s₂.frames with heap := s₂.heap, slotsUsed := s₂.slotsUsed } : State).setVm s₂.vm := by
    have : s₂ = ({ s₂ with vm := (U.calling f mk (a.map (cv g)).toArray).vm } : State).setVm s₂.vm := rfl
    rw [e2] at this
    exact this
  have hW' : U.WarmedH s₂.vm := hW₂
  obtain ⟨g₀, hg0⟩ := Option.isSome_iff_exists.mp h.top
  obtain ⟨r, hr⟩ := State.topJava?_eq_some.mp hg0
  have hsame : U.sameButNew ({ U with heap := s₂.heap, slotsUsed := s₂.slotsUsed } : State) L 0 0 := by
    refine ⟨?_, q2, q3, q4, q5, q6⟩
    obtain ⟨t, ht, -⟩ := State.frames_cons hr
    show ({ U with heap := s₂.heap, slotsUsed := s₂.slotsUsed } : State) = { U.setFrames U.frames with heap := s₂.heap, slotsUsed := s₂.slotsUsed }
    rw [State.setFrames_self ht]
  have hStand : Stand p g.l e R s m sargs below meth c (({ U with heap := s₂.heap, slotsUsed := s₂.slotsUsed } : State).setVm s₂.vm) (Ls ++ L) ce sl :=
    ⟨X.admits, X.cas, X.clock, X.frames, X.room, X.hears, X.method, X.code, (X.here.setHeapUsed s₂.heap s₂.slotsUsed).setVm hW'.alike, X.tail, State.WarmedH.trans X.warmed hW', X.limits, X.bytes, X.same.trans (hsame.setVm s.vm)⟩
  refine ⟨o', w', _, L, hStand, hL, hoo, hH2, hK2, hF2.1, hF2.2, ?_⟩
  have hr' : (({ U with heap := s₂.heap, slotsUsed := s₂.slotsUsed } : State).setVm s₂.vm).frames = .java g₀ :: r := hr
  have hs2 : s₂ = aft g (({ U with heap := s₂.heap, slotsUsed := s₂.slotsUsed } : State).setVm s₂.vm) f o' := by
    rcases o' with v | b
    · have hend' : Ended s₂ (.java f :: U.frames.tail) (.returned (v.map (cv g))) := by
        cases v with
        | none => exact hend
        | some v => exact hend
      obtain ⟨c₂, i₂, len₂, hc₂, hd₂, hf₂⟩ := hend'
      have hcc : c₂ = c := by
        have h1 : s₂.code? f.method = U.code? f.method := by
          rw [State.code?_eq, State.code?_eq, hW'.alike.method?]
        exact Option.some.inj (hc₂.symm.trans (h1.trans h.code))
      subst hcc
      have hlen : len₂ = 3 := by rw [hdg] at hd₂; cases hd₂; rfl
      subst hlen
      refine e3.trans ?_
      show _ = State.setTop _ _
      rw [hf₂, State.calling_eq h.top, State.setFrames_setFrames, State.setTop_of_frames _ hr', hr]
      rfl
    · have hf₂ : s₂.frames = .throwing (g.ad b) :: .java f :: U.frames.tail := hend
      refine e3.trans ?_
      show _ = State.pushFrame _ _
      rw [hf₂, State.calling_eq h.top, State.setFrames_setFrames, State.pushFrame, State.frames_setTop _ hr', State.setTop_of_frames _ hr', State.setFrames_setFrames, hr]
      rfl
  rw [← hs2]
  exact hsteps
end CalGen
/-! ===== as both begin ===== -/
theorem inv_0 {wc wm : Wd} (c01 : wc 0 1 = 0) (c21 : wc 2 1 = 0) (c3 : wc 3 = wm 3) (c82 : wc 8 2 = 0) (c252 : wc 25 2 = 0) (c254 : wc 25 4 = 0) (c29 : ∀ x, x < 1002 → wc 29 x = 0) (c310 : wc 31 0 = 1) (c311 : wc 31 1 = 0) (c34 : ∀ x, x < 480 → wc 34 x = 0) (c35 : ∀ x, x < 40 → wc 35 x = 0) (c36 : ∀ x, x < 40 → wc 36 x = 0) (c37 : ∀ x, x < 40 → wc 37 x = -1) (c40 : ∀ x, x < 40 → wc 40 x = -1) (c43 : wc 43 11 = 0) (m03 : wm 0 3 = 0) (m20 : wm 0 20 = 0) (m31 : wm 0 31 = 0) (m43 : wm 0 43 = 0) (m55 : wm 0 55 = -2) (m56 : wm 0 56 = -2) (m59 : wm 0 59 = 1) (m60 : wm 0 60 = 0) (m64 : wm 0 64 = 0) (m16 : ∀ k, k < 5 → wm 16 k = 0) : Inv wc wm := by
  refine ⟨⟨⟨0, by decide, c01, m03, fun i hi => by omega⟩, c3, fun x hx => by rw [c29 x hx]; decide, ⟨0, by decide, c21, Or.inl ⟨c252, c254, m55, m56⟩⟩⟩, 1, 0, ⟨⟨c310, c311, by decide, by decide, by decide, fun i hi => by omega, fun v hv => ⟨c35 v hv, c36 v hv⟩, fun v hv => ⟨c37 v hv, c40 v hv⟩, fun i hi => by omega, fun v hv => ⟨fun z => absurd rfl z, fun z => absurd rfl z⟩⟩, m59, m60, fun i hi => by omega, fun x _ hx => c34 x hx⟩, Or.inl ⟨⟨c82, m43, m20, m31, m16⟩, c43, m64⟩⟩
